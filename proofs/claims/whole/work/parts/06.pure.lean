def st_AR_fill (n : Nat) (rec : Nat → Int32 → Int32 → Int32 → (Nat → Int32) → Option ((Nat → Int32))) (lbl : Nat) (i1 : Int32) (i2 : Int32) (i3 : Int32) (f_p0 : Nat → Int32) : Option ((Nat → Int32)) :=
  match lbl with
  | _ =>
    if i3 ≤ i2 then
      some f_p0
    else
      ox_gd i2 n (
      rec 0 i1 (i2 + 1) i3 (upd f_p0 i2.toNatClampNeg i1))
def lp_AR_fill (n : Nat) : Nat → Nat → Int32 → Int32 → Int32 → (Nat → Int32) → Option ((Nat → Int32))
  | 0 => fun _ _ _ _ _ => none
  | fu+1 => st_AR_fill n (lp_AR_fill n fu)
def fn_AR_fill (z : Nat) (n : Nat) (a1 : Int32) (f_p0 : Nat → Int32) : Option ((Nat → Int32)) :=
  lp_AR_fill n z 0 a1 0 (Int32.ofNat n) f_p0

def fn_LY_reset (z : Nat) (a1 : Int32) (v_tanks : Int32) (f_low : Nat → Int32) (f_high : Nat → Int32) (f_loadedSeconds : Nat → Int32) (f_emptySeconds : Nat → Nat → Int32) : Option (Int32 × (Nat → Int32) × (Nat → Int32) × (Nat → Int32) × (Nat → Nat → Int32)) :=
  ox_cl (fn_AR_fill z 6 0 f_low) fun s1_f_p0 =>
  ox_cl (fn_AR_fill z 6 500 f_high) fun s2_f_p0 =>
  ox_cl (fn_AR_fill z 6 10 f_loadedSeconds) fun s3_f_p0 =>
  ox_cl (fn_AR_fill z 7 0 (f_emptySeconds 0)) fun s4_f_p0 =>
  ox_cl (fn_AR_fill z 7 0 ((va_up f_emptySeconds 0 s4_f_p0) 1)) fun s5_f_p0 =>
  ox_cl (fn_AR_fill z 7 0 ((va_up (va_up f_emptySeconds 0 s4_f_p0) 1 s5_f_p0) 2)) fun s6_f_p0 =>
  ox_cl (fn_AR_fill z 7 0 ((va_up (va_up (va_up f_emptySeconds 0 s4_f_p0) 1 s5_f_p0) 2 s6_f_p0) 3)) fun s7_f_p0 =>
  ox_cl (fn_AR_fill z 7 0 ((va_up (va_up (va_up (va_up f_emptySeconds 0 s4_f_p0) 1 s5_f_p0) 2 s6_f_p0) 3 s7_f_p0) 4)) fun s8_f_p0 =>
  ox_cl (fn_AR_fill z 7 0 ((va_up (va_up (va_up (va_up (va_up f_emptySeconds 0 s4_f_p0) 1 s5_f_p0) 2 s6_f_p0) 3 s7_f_p0) 4 s8_f_p0) 5)) fun s9_f_p0 =>
  ox_cl (fn_AR_fill z 7 0 ((va_up (va_up (va_up (va_up (va_up (va_up f_emptySeconds 0 s4_f_p0) 1 s5_f_p0) 2 s6_f_p0) 3 s7_f_p0) 4 s8_f_p0) 5 s9_f_p0) 6)) fun s10_f_p0 =>
  some (a1, s1_f_p0, s2_f_p0, s3_f_p0, (va_up (va_up (va_up (va_up (va_up (va_up (va_up f_emptySeconds 0 s4_f_p0) 1 s5_f_p0) 2 s6_f_p0) 3 s7_f_p0) 4 s8_f_p0) 5 s9_f_p0) 6 s10_f_p0))

def fn_LY_hasTank (a1 : Int32) (v_tanks : Int32) : Option (Int32) :=
  if a1 < 1 then
    some 0
  else
    if v_tanks < a1 then
      some 0
    else
      some 1

def fn_LY_hasMove (a1 : Int32) (v_tanks : Int32) : Option (Int32) :=
  if a1 < 0 then
    some 0
  else
    if v_tanks < a1 then
      some 0
    else
      some 1

def fn_LY_hasPlace (a1 : Int32) (v_tanks : Int32) : Option (Int32) :=
  if a1 < 0 then
    some 0
  else
    if (v_tanks + 1) < a1 then
      some 0
    else
      some 1

def st_LY_slowEmptyWay (v_tanks : Int32) (f_loadedSeconds : Nat → Int32) (f_emptySeconds : Nat → Nat → Int32) (rec : Nat → Int32 → Option (Int32)) (lbl : Nat) (i1 : Int32) : Option (Int32) :=
  match lbl with
  | _ =>
    if v_tanks < i1 then
      some 0
    else
      ox_gd i1 7 (
      ox_gd (i1 + 1) 7 (
      ox_gd i1 6 (
      if (f_emptySeconds i1.toNatClampNeg (i1 + 1).toNatClampNeg) ≤ (f_loadedSeconds i1.toNatClampNeg) then
        rec 0 (i1 + 1)
      else
        some (1 + i1))))
def lp_LY_slowEmptyWay (v_tanks : Int32) (f_loadedSeconds : Nat → Int32) (f_emptySeconds : Nat → Nat → Int32) : Nat → Nat → Int32 → Option (Int32)
  | 0 => fun _ _ => none
  | fu+1 => st_LY_slowEmptyWay v_tanks f_loadedSeconds f_emptySeconds (lp_LY_slowEmptyWay v_tanks f_loadedSeconds f_emptySeconds fu)
def fn_LY_slowEmptyWay (z : Nat) (v_tanks : Int32) (f_loadedSeconds : Nat → Int32) (f_emptySeconds : Nat → Nat → Int32) : Option (Int32) :=
  lp_LY_slowEmptyWay v_tanks f_loadedSeconds f_emptySeconds z 0 0

def st_LY_roundaboutWay (v_tanks : Int32) (f_emptySeconds : Nat → Nat → Int32) (rec : Nat → Int32 → Int32 → Int32 → Option (Int32)) (lbl : Nat) (i1 : Int32) (i2 : Int32) (i3 : Int32) : Option (Int32) :=
  match lbl with
  | 0 =>
    if (v_tanks + 1) < i1 then
      some 0
    else
      rec 1 i1 0 0
  | 1 =>
    if (v_tanks + 1) < i2 then
      rec 0 (i1 + 1) 0 0
    else
      rec 2 i1 i2 0
  | _ =>
    if (v_tanks + 1) < i3 then
      rec 1 i1 (i2 + 1) 0
    else
      ox_gd i1 7 (
      ox_gd i3 7 (
      ox_gd i1 7 (
      ox_gd i2 7 (
      ox_gd i2 7 (
      ox_gd i3 7 (
      if (f_emptySeconds i1.toNatClampNeg i3.toNatClampNeg) ≤ ((f_emptySeconds i1.toNatClampNeg i2.toNatClampNeg) + (f_emptySeconds i2.toNatClampNeg i3.toNatClampNeg)) then
        rec 2 i1 i2 (i3 + 1)
      else
        some (((100 + (49 * i1)) + (7 * i2)) + i3)))))))
def lp_LY_roundaboutWay (v_tanks : Int32) (f_emptySeconds : Nat → Nat → Int32) : Nat → Nat → Int32 → Int32 → Int32 → Option (Int32)
  | 0 => fun _ _ _ _ => none
  | fu+1 => st_LY_roundaboutWay v_tanks f_emptySeconds (lp_LY_roundaboutWay v_tanks f_emptySeconds fu)
def fn_LY_roundaboutWay (z : Nat) (v_tanks : Int32) (f_emptySeconds : Nat → Nat → Int32) : Option (Int32) :=
  lp_LY_roundaboutWay v_tanks f_emptySeconds z 0 0 0 0

def fn_LY_fault (z : Nat) (v_tanks : Int32) (f_loadedSeconds : Nat → Int32) (f_emptySeconds : Nat → Nat → Int32) : Option (Int32) :=
  ox_cl (fn_LY_slowEmptyWay z v_tanks f_loadedSeconds f_emptySeconds) fun r1 =>
  if r1 = 0 then
    ox_cl (fn_LY_roundaboutWay z v_tanks f_emptySeconds) fun r3 =>
    some r3
  else
    some r1

def st_OR_rankMoves (v_count : Int32) (f_moves : Nat → Int32) (rec : Nat → Int32 → (Nat → Int32) → Option ((Nat → Int32))) (lbl : Nat) (i1 : Int32) (f_rank : Nat → Int32) : Option ((Nat → Int32)) :=
  match lbl with
  | _ =>
    if v_count ≤ i1 then
      some f_rank
    else
      ox_gd i1 6 (
      ox_gd (f_moves i1.toNatClampNeg) 6 (
      rec 0 (i1 + 1) (upd f_rank (f_moves i1.toNatClampNeg).toNatClampNeg i1)))
def lp_OR_rankMoves (v_count : Int32) (f_moves : Nat → Int32) : Nat → Nat → Int32 → (Nat → Int32) → Option ((Nat → Int32))
  | 0 => fun _ _ _ => none
  | fu+1 => st_OR_rankMoves v_count f_moves (lp_OR_rankMoves v_count f_moves fu)
def fn_OR_rankMoves (z : Nat) (v_count : Int32) (f_moves : Nat → Int32) (f_rank : Nat → Int32) : Option ((Nat → Int32)) :=
  lp_OR_rankMoves v_count f_moves z 0 0 f_rank

def fn_OR_swap (a1 : Int32) (a2 : Int32) (f_moves : Nat → Int32) : Option ((Nat → Int32)) :=
  ox_gd a1 6 (
  ox_gd a2 6 (
  ox_gd a1 6 (
  ox_gd a2 6 (
  some (upd (upd f_moves a1.toNatClampNeg (f_moves a2.toNatClampNeg)) a2.toNatClampNeg (f_moves a1.toNatClampNeg))))))

def st_OR_reverseFrom (v_count : Int32) (rec : Nat → Int32 → Int32 → Int32 → (Nat → Int32) → Option ((Nat → Int32))) (lbl : Nat) (i1 : Int32) (i2 : Int32) (i3 : Int32) (f_moves : Nat → Int32) : Option ((Nat → Int32)) :=
  match lbl with
  | _ =>
    if i2 ≤ i3 then
      some f_moves
    else
      ox_cl (fn_OR_swap i3 i2 f_moves) fun s2_f_moves =>
      rec 0 i1 (i2 + (-1)) (i3 + 1) s2_f_moves
def lp_OR_reverseFrom (v_count : Int32) : Nat → Nat → Int32 → Int32 → Int32 → (Nat → Int32) → Option ((Nat → Int32))
  | 0 => fun _ _ _ _ _ => none
  | fu+1 => st_OR_reverseFrom v_count (lp_OR_reverseFrom v_count fu)
def fn_OR_reverseFrom (z : Nat) (a1 : Int32) (v_count : Int32) (f_moves : Nat → Int32) : Option ((Nat → Int32)) :=
  lp_OR_reverseFrom v_count z 0 a1 (v_count - 1) a1 f_moves

def st_OR_toFirst (z : Nat) (rec : Nat → Int32 → Int32 → Int32 → (Nat → Int32) → (Nat → Int32) → Option (Int32 × (Nat → Int32) × (Nat → Int32))) (lbl : Nat) (i1 : Int32) (i2 : Int32) (v_count : Int32) (f_moves : Nat → Int32) (f_rank : Nat → Int32) : Option (Int32 × (Nat → Int32) × (Nat → Int32)) :=
  match lbl with
  | _ =>
    if v_count ≤ i2 then
      ox_cl (fn_OR_rankMoves z v_count f_moves f_rank) fun s2_f_rank =>
      some (v_count, f_moves, s2_f_rank)
    else
      ox_gd i2 6 (
      rec 0 i1 (i2 + 1) v_count (upd f_moves i2.toNatClampNeg i2) f_rank)
def lp_OR_toFirst (z : Nat) : Nat → Nat → Int32 → Int32 → Int32 → (Nat → Int32) → (Nat → Int32) → Option (Int32 × (Nat → Int32) × (Nat → Int32))
  | 0 => fun _ _ _ _ _ _ => none
  | fu+1 => st_OR_toFirst z (lp_OR_toFirst z fu)
def fn_OR_toFirst (z : Nat) (a1 : Int32) (v_count : Int32) (f_moves : Nat → Int32) (f_rank : Nat → Int32) : Option (Int32 × (Nat → Int32) × (Nat → Int32)) :=
  lp_OR_toFirst z z 0 a1 0 (a1 + 1) f_moves f_rank

def st_OR_toNext (z : Nat) (v_count : Int32) (rec : Nat → Int32 → Int32 → (Nat → Int32) → (Nat → Int32) → Option (Int32 × (Nat → Int32) × (Nat → Int32))) (lbl : Nat) (i1 : Int32) (i2 : Int32) (f_moves : Nat → Int32) (f_rank : Nat → Int32) : Option (Int32 × (Nat → Int32) × (Nat → Int32)) :=
  match lbl with
  | 0 =>
    if i1 < 1 then
      if 1 ≤ i1 then
        rec 1 i1 (v_count - 1) f_moves f_rank
      else
        some (0, f_moves, f_rank)
    else
      ox_gd i1 6 (
      ox_gd (i1 + 1) 6 (
      if (f_moves i1.toNatClampNeg) ≤ (f_moves (i1 + 1).toNatClampNeg) then
        if 1 ≤ i1 then
          rec 1 i1 (v_count - 1) f_moves f_rank
        else
          some (0, f_moves, f_rank)
      else
        rec 0 (i1 + (-1)) 0 f_moves f_rank))
  | _ =>
    if i2 ≤ (i1 + 1) then
      ox_cl (fn_OR_swap i1 i2 f_moves) fun s6_f_moves =>
      ox_cl (fn_OR_reverseFrom z (i1 + 1) v_count s6_f_moves) fun s7_f_moves =>
      ox_cl (fn_OR_rankMoves z v_count s7_f_moves f_rank) fun s8_f_rank =>
      some (1, s7_f_moves, s8_f_rank)
    else
      ox_gd i2 6 (
      ox_gd i1 6 (
      if (f_moves i1.toNatClampNeg) ≤ (f_moves i2.toNatClampNeg) then
        ox_cl (fn_OR_swap i1 i2 f_moves) fun s10_f_moves =>
        ox_cl (fn_OR_reverseFrom z (i1 + 1) v_count s10_f_moves) fun s11_f_moves =>
        ox_cl (fn_OR_rankMoves z v_count s11_f_moves f_rank) fun s12_f_rank =>
        some (1, s11_f_moves, s12_f_rank)
      else
        rec 1 i1 (i2 + (-1)) f_moves f_rank))
def lp_OR_toNext (z : Nat) (v_count : Int32) : Nat → Nat → Int32 → Int32 → (Nat → Int32) → (Nat → Int32) → Option (Int32 × (Nat → Int32) × (Nat → Int32))
  | 0 => fun _ _ _ _ _ => none
  | fu+1 => st_OR_toNext z v_count (lp_OR_toNext z v_count fu)
def fn_OR_toNext (z : Nat) (v_count : Int32) (f_moves : Nat → Int32) (f_rank : Nat → Int32) : Option (Int32 × (Nat → Int32) × (Nat → Int32)) :=
  lp_OR_toNext z v_count z 0 (v_count - 2) 0 f_moves f_rank

def st_OR_read (z : Nat) (rec : Nat → Int32 → Int32 → Int32 → Int32 → Int32 → (Nat → Int32) → (Nat → Int32) → Option (Int32 × Int32 × (Nat → Int32) × (Nat → Int32))) (lbl : Nat) (i1 : Int32) (i2 : Int32) (i3 : Int32) (i4 : Int32) (v_count : Int32) (f_rank : Nat → Int32) (f_moves : Nat → Int32) : Option (Int32 × Int32 × (Nat → Int32) × (Nat → Int32)) :=
  match lbl with
  | _ =>
    if i4 < 1 then
      if ¬ i3 = 0 then
        some (0, v_count, f_rank, (upd f_moves 0 0))
      else
        some (1, v_count, f_rank, (upd f_moves 0 0))
    else
      if (i3 - i3 / 10 * 10) < 1 then
        some (0, v_count, f_rank, f_moves)
      else
        if i2 < (i3 - i3 / 10 * 10) then
          some (0, v_count, f_rank, f_moves)
        else
          ox_gd (i3 - i3 / 10 * 10) 6 (
          if (f_rank (i3 - i3 / 10 * 10).toNatClampNeg) = 0 then
            ox_gd i4 6 (
            ox_gd (i3 - i3 / 10 * 10) 6 (
            rec 0 i1 i2 (i3 / 10) (i4 + (-1)) v_count (upd f_rank (i3 - i3 / 10 * 10).toNatClampNeg i4) (upd f_moves i4.toNatClampNeg (i3 - i3 / 10 * 10))))
          else
            some (0, v_count, f_rank, f_moves))
def lp_OR_read (z : Nat) : Nat → Nat → Int32 → Int32 → Int32 → Int32 → Int32 → (Nat → Int32) → (Nat → Int32) → Option (Int32 × Int32 × (Nat → Int32) × (Nat → Int32))
  | 0 => fun _ _ _ _ _ _ _ _ => none
  | fu+1 => st_OR_read z (lp_OR_read z fu)
def fn_OR_read (z : Nat) (a1 : Int32) (a2 : Int32) (v_count : Int32) (f_rank : Nat → Int32) (f_moves : Nat → Int32) : Option (Int32 × Int32 × (Nat → Int32) × (Nat → Int32)) :=
  ox_cl (fn_AR_fill z 6 0 f_rank) fun s1_f_p0 =>
  lp_OR_read z z 0 a1 a2 a1 a2 (a2 + 1) s1_f_p0 f_moves

def st_OR_number (v_count : Int32) (f_moves : Nat → Int32) (rec : Nat → Int32 → Int32 → Option (Int32)) (lbl : Nat) (i1 : Int32) (i2 : Int32) : Option (Int32) :=
  match lbl with
  | _ =>
    if v_count ≤ i2 then
      some i1
    else
      ox_gd i2 6 (
      rec 0 ((10 * i1) + (f_moves i2.toNatClampNeg)) (i2 + 1))
def lp_OR_number (v_count : Int32) (f_moves : Nat → Int32) : Nat → Nat → Int32 → Int32 → Option (Int32)
  | 0 => fun _ _ _ => none
  | fu+1 => st_OR_number v_count f_moves (lp_OR_number v_count f_moves fu)
def fn_OR_number (z : Nat) (v_count : Int32) (f_moves : Nat → Int32) : Option (Int32) :=
  lp_OR_number v_count f_moves z 0 0 1

def fn_OR_soakTurns (a1 : Int32) (f_rank : Nat → Int32) : Option (Int32) :=
  ox_gd a1 6 (
  ox_gd (a1 - 1) 6 (
  if (f_rank (a1 - 1).toNatClampNeg) ≤ (f_rank a1.toNatClampNeg) then
    some 0
  else
    some 1))

def fn_OR_copyFrom (v_p1_count : Int32) (v_count : Int32) (f_p1_moves : Nat → Int32) (f_moves : Nat → Int32) (f_p1_rank : Nat → Int32) (f_rank : Nat → Int32) : Option (Int32 × (Nat → Int32) × (Nat → Int32)) :=
  some (v_p1_count, (va_cpy f_p1_moves f_moves 0 0 6), (va_cpy f_p1_rank f_rank 0 0 6))

def fn_TM_addRule (a1 : Int32) (a2 : Int32) (a3 : Int32) (a4 : Int32) (v_rules : Int32) (f_before : Nat → Int32) (f_after : Nat → Int32) (f_seconds : Nat → Int32) (f_turns : Nat → Int32) : Option (Int32 × (Nat → Int32) × (Nat → Int32) × (Nat → Int32) × (Nat → Int32)) :=
  ox_gd v_rules 16 (
  ox_gd v_rules 16 (
  ox_gd v_rules 16 (
  ox_gd v_rules 16 (
  some ((v_rules + 1), (upd f_before v_rules.toNatClampNeg a1), (upd f_after v_rules.toNatClampNeg a2), (upd f_seconds v_rules.toNatClampNeg a3), (upd f_turns v_rules.toNatClampNeg a4))))))

def st_TM_addWays (v_p1_count : Int32) (f_p1_moves : Nat → Int32) (f_layout_loadedSeconds : Nat → Int32) (f_layout_emptySeconds : Nat → Nat → Int32) (rec : Nat → Int32 → Int32 → Int32 → (Nat → Int32) → (Nat → Int32) → (Nat → Int32) → (Nat → Int32) → Option (Int32 × Int32 × (Nat → Int32) × (Nat → Int32) × (Nat → Int32) × (Nat → Int32))) (lbl : Nat) (i2 : Int32) (i3 : Int32) (v_rules : Int32) (f_before : Nat → Int32) (f_after : Nat → Int32) (f_seconds : Nat → Int32) (f_turns : Nat → Int32) : Option (Int32 × Int32 × (Nat → Int32) × (Nat → Int32) × (Nat → Int32) × (Nat → Int32)) :=
  match lbl with
  | _ =>
    if v_p1_count ≤ i3 then
      some (i2, v_rules, f_before, f_after, f_seconds, f_turns)
    else
      if ¬ i3 = (v_p1_count - 1) then
        ox_gd i3 6 (
        ox_gd (i3 + 1) 6 (
        ox_gd (f_p1_moves i3.toNatClampNeg) 6 (
        ox_gd ((f_p1_moves i3.toNatClampNeg) + 1) 7 (
        ox_gd (f_p1_moves (i3 + 1).toNatClampNeg) 7 (
        ox_cl (fn_TM_addRule (f_p1_moves i3.toNatClampNeg) (f_p1_moves (i3 + 1).toNatClampNeg) ((f_layout_loadedSeconds (f_p1_moves i3.toNatClampNeg).toNatClampNeg) + (f_layout_emptySeconds ((f_p1_moves i3.toNatClampNeg) + 1).toNatClampNeg (f_p1_moves (i3 + 1).toNatClampNeg).toNatClampNeg)) 0 v_rules f_before f_after f_seconds f_turns) fun (s3_v_rules, s3_f_before, s3_f_after, s3_f_seconds, s3_f_turns) =>
        rec 0 (i2 + ((f_layout_loadedSeconds (f_p1_moves i3.toNatClampNeg).toNatClampNeg) + (f_layout_emptySeconds ((f_p1_moves i3.toNatClampNeg) + 1).toNatClampNeg (f_p1_moves (i3 + 1).toNatClampNeg).toNatClampNeg))) (i3 + 1) s3_v_rules s3_f_before s3_f_after s3_f_seconds s3_f_turns)))))
      else
        ox_gd i3 6 (
        ox_gd (f_p1_moves i3.toNatClampNeg) 6 (
        ox_gd ((f_p1_moves i3.toNatClampNeg) + 1) 7 (
        ox_cl (fn_TM_addRule (f_p1_moves i3.toNatClampNeg) 0 ((f_layout_loadedSeconds (f_p1_moves i3.toNatClampNeg).toNatClampNeg) + (f_layout_emptySeconds ((f_p1_moves i3.toNatClampNeg) + 1).toNatClampNeg 0)) (-1) v_rules f_before f_after f_seconds f_turns) fun (s4_v_rules, s4_f_before, s4_f_after, s4_f_seconds, s4_f_turns) =>
        rec 0 (i2 + ((f_layout_loadedSeconds (f_p1_moves i3.toNatClampNeg).toNatClampNeg) + (f_layout_emptySeconds ((f_p1_moves i3.toNatClampNeg) + 1).toNatClampNeg 0))) (i3 + 1) s4_v_rules s4_f_before s4_f_after s4_f_seconds s4_f_turns)))
def lp_TM_addWays (v_p1_count : Int32) (f_p1_moves : Nat → Int32) (f_layout_loadedSeconds : Nat → Int32) (f_layout_emptySeconds : Nat → Nat → Int32) : Nat → Nat → Int32 → Int32 → Int32 → (Nat → Int32) → (Nat → Int32) → (Nat → Int32) → (Nat → Int32) → Option (Int32 × Int32 × (Nat → Int32) × (Nat → Int32) × (Nat → Int32) × (Nat → Int32))
  | 0 => fun _ _ _ _ _ _ _ _ => none
  | fu+1 => st_TM_addWays v_p1_count f_p1_moves f_layout_loadedSeconds f_layout_emptySeconds (lp_TM_addWays v_p1_count f_p1_moves f_layout_loadedSeconds f_layout_emptySeconds fu)
def fn_TM_addWays (z : Nat) (v_p1_count : Int32) (v_rules : Int32) (f_p1_moves : Nat → Int32) (f_layout_loadedSeconds : Nat → Int32) (f_before : Nat → Int32) (f_after : Nat → Int32) (f_seconds : Nat → Int32) (f_turns : Nat → Int32) (f_layout_emptySeconds : Nat → Nat → Int32) : Option (Int32 × Int32 × (Nat → Int32) × (Nat → Int32) × (Nat → Int32) × (Nat → Int32)) :=
  lp_TM_addWays v_p1_count f_p1_moves f_layout_loadedSeconds f_layout_emptySeconds z 0 0 0 v_rules f_before f_after f_seconds f_turns

def st_TM_addSoaks (v_p1_count : Int32) (f_layout_loadedSeconds : Nat → Int32) (f_p1_rank : Nat → Int32) (f_layout_low : Nat → Int32) (f_layout_high : Nat → Int32) (rec : Nat → Int32 → Int32 → (Nat → Int32) → (Nat → Int32) → (Nat → Int32) → (Nat → Int32) → Option (Int32 × (Nat → Int32) × (Nat → Int32) × (Nat → Int32) × (Nat → Int32))) (lbl : Nat) (i2 : Int32) (v_rules : Int32) (f_before : Nat → Int32) (f_after : Nat → Int32) (f_seconds : Nat → Int32) (f_turns : Nat → Int32) : Option (Int32 × (Nat → Int32) × (Nat → Int32) × (Nat → Int32) × (Nat → Int32)) :=
  match lbl with
  | _ =>
    if v_p1_count ≤ i2 then
      some (v_rules, f_before, f_after, f_seconds, f_turns)
    else
      ox_gd (i2 - 1) 6 (
      ox_cl (fn_OR_soakTurns i2 f_p1_rank) fun r2 =>
      ox_gd i2 6 (
      ox_cl (fn_TM_addRule (i2 - 1) i2 ((f_layout_loadedSeconds (i2 - 1).toNatClampNeg) + (f_layout_low i2.toNatClampNeg)) (-r2) v_rules f_before f_after f_seconds f_turns) fun (s3_v_rules, s3_f_before, s3_f_after, s3_f_seconds, s3_f_turns) =>
      ox_gd i2 6 (
      ox_cl (fn_TM_addRule i2 (i2 - 1) ((-(f_layout_loadedSeconds (i2 - 1).toNatClampNeg)) - (f_layout_high i2.toNatClampNeg)) r2 s3_v_rules s3_f_before s3_f_after s3_f_seconds s3_f_turns) fun (s4_v_rules, s4_f_before, s4_f_after, s4_f_seconds, s4_f_turns) =>
      rec 0 (i2 + 1) s4_v_rules s4_f_before s4_f_after s4_f_seconds s4_f_turns)))
def lp_TM_addSoaks (v_p1_count : Int32) (f_layout_loadedSeconds : Nat → Int32) (f_p1_rank : Nat → Int32) (f_layout_low : Nat → Int32) (f_layout_high : Nat → Int32) : Nat → Nat → Int32 → Int32 → (Nat → Int32) → (Nat → Int32) → (Nat → Int32) → (Nat → Int32) → Option (Int32 × (Nat → Int32) × (Nat → Int32) × (Nat → Int32) × (Nat → Int32))
  | 0 => fun _ _ _ _ _ _ _ => none
  | fu+1 => st_TM_addSoaks v_p1_count f_layout_loadedSeconds f_p1_rank f_layout_low f_layout_high (lp_TM_addSoaks v_p1_count f_layout_loadedSeconds f_p1_rank f_layout_low f_layout_high fu)
def fn_TM_addSoaks (z : Nat) (v_p1_count : Int32) (v_rules : Int32) (f_layout_loadedSeconds : Nat → Int32) (f_p1_rank : Nat → Int32) (f_layout_low : Nat → Int32) (f_before : Nat → Int32) (f_after : Nat → Int32) (f_seconds : Nat → Int32) (f_turns : Nat → Int32) (f_layout_high : Nat → Int32) : Option (Int32 × (Nat → Int32) × (Nat → Int32) × (Nat → Int32) × (Nat → Int32)) :=
  lp_TM_addSoaks v_p1_count f_layout_loadedSeconds f_p1_rank f_layout_low f_layout_high z 0 1 v_rules f_before f_after f_seconds f_turns

def st_TM_raiseTimes (v_rules : Int32) (f_before : Nat → Int32) (f_seconds : Nat → Int32) (f_turns : Nat → Int32) (f_after : Nat → Int32) (rec : Nat → Int32 → Int32 → Int32 → (Nat → Int32) → (Nat → Int32) → Option (Int32 × (Nat → Int32) × (Nat → Int32))) (lbl : Nat) (i1 : Int32) (i2 : Int32) (i3 : Int32) (f_times : Nat → Int32) (f_cause : Nat → Int32) : Option (Int32 × (Nat → Int32) × (Nat → Int32)) :=
  match lbl with
  | _ =>
    if v_rules ≤ i3 then
      some (i2, f_times, f_cause)
    else
      ox_gd i3 16 (
      ox_gd (f_before i3.toNatClampNeg) 6 (
      ox_gd i3 16 (
      ox_gd i3 16 (
      ox_gd i3 16 (
      ox_gd (f_after i3.toNatClampNeg) 6 (
      if (((f_times (f_before i3.toNatClampNeg).toNatClampNeg) + (f_seconds i3.toNatClampNeg)) + ((f_turns i3.toNatClampNeg) * i1)) ≤ (f_times (f_after i3.toNatClampNeg).toNatClampNeg) then
        rec 0 i1 i2 (i3 + 1) f_times f_cause
      else
        ox_gd (f_after i3.toNatClampNeg) 6 (
        ox_gd (f_after i3.toNatClampNeg) 6 (
        rec 0 i1 (f_after i3.toNatClampNeg) (i3 + 1) (upd f_times (f_after i3.toNatClampNeg).toNatClampNeg (((f_times (f_before i3.toNatClampNeg).toNatClampNeg) + (f_seconds i3.toNatClampNeg)) + ((f_turns i3.toNatClampNeg) * i1))) (upd f_cause (f_after i3.toNatClampNeg).toNatClampNeg i3)))))))))
def lp_TM_raiseTimes (v_rules : Int32) (f_before : Nat → Int32) (f_seconds : Nat → Int32) (f_turns : Nat → Int32) (f_after : Nat → Int32) : Nat → Nat → Int32 → Int32 → Int32 → (Nat → Int32) → (Nat → Int32) → Option (Int32 × (Nat → Int32) × (Nat → Int32))
  | 0 => fun _ _ _ _ _ _ => none
  | fu+1 => st_TM_raiseTimes v_rules f_before f_seconds f_turns f_after (lp_TM_raiseTimes v_rules f_before f_seconds f_turns f_after fu)
def fn_TM_raiseTimes (z : Nat) (a1 : Int32) (v_rules : Int32) (f_before : Nat → Int32) (f_times : Nat → Int32) (f_seconds : Nat → Int32) (f_turns : Nat → Int32) (f_after : Nat → Int32) (f_cause : Nat → Int32) : Option (Int32 × (Nat → Int32) × (Nat → Int32)) :=
  lp_TM_raiseTimes v_rules f_before f_seconds f_turns f_after z 0 a1 (-1) 0 f_times f_cause

def st_TM_settleTimes (z : Nat) (v_rules : Int32) (f_before : Nat → Int32) (f_seconds : Nat → Int32) (f_turns : Nat → Int32) (f_after : Nat → Int32) (rec : Nat → Int32 → Int32 → Int32 → (Nat → Int32) → (Nat → Int32) → Option (Int32 × (Nat → Int32) × (Nat → Int32))) (lbl : Nat) (i1 : Int32) (i2 : Int32) (i3 : Int32) (f_times : Nat → Int32) (f_cause : Nat → Int32) : Option (Int32 × (Nat → Int32) × (Nat → Int32)) :=
  match lbl with
  | _ =>
    if i1 ≤ i3 then
      some ((-1), f_times, f_cause)
    else
      ox_cl (fn_TM_raiseTimes z i2 v_rules f_before f_times f_seconds f_turns f_after f_cause) fun (r3, s3_f_times, s3_f_cause) =>
      if ¬ r3 = (-1) then
        if ¬ i3 = (i1 - 1) then
          rec 0 i1 i2 (i3 + 1) s3_f_times s3_f_cause
        else
          some (r3, s3_f_times, s3_f_cause)
      else
        some ((-1), s3_f_times, s3_f_cause)
def lp_TM_settleTimes (z : Nat) (v_rules : Int32) (f_before : Nat → Int32) (f_seconds : Nat → Int32) (f_turns : Nat → Int32) (f_after : Nat → Int32) : Nat → Nat → Int32 → Int32 → Int32 → (Nat → Int32) → (Nat → Int32) → Option (Int32 × (Nat → Int32) × (Nat → Int32))
  | 0 => fun _ _ _ _ _ _ => none
  | fu+1 => st_TM_settleTimes z v_rules f_before f_seconds f_turns f_after (lp_TM_settleTimes z v_rules f_before f_seconds f_turns f_after fu)
def fn_TM_settleTimes (z : Nat) (a1 : Int32) (a2 : Int32) (v_rules : Int32) (f_times : Nat → Int32) (f_before : Nat → Int32) (f_seconds : Nat → Int32) (f_turns : Nat → Int32) (f_after : Nat → Int32) (f_cause : Nat → Int32) : Option (Int32 × (Nat → Int32) × (Nat → Int32)) :=
  ox_cl (fn_AR_fill z 6 0 f_times) fun s1_f_p0 =>
  lp_TM_settleTimes z v_rules f_before f_seconds f_turns f_after z 0 a1 a2 0 s1_f_p0 f_cause

def st_TM_moveOnRing (f_cause : Nat → Int32) (f_before : Nat → Int32) (rec : Nat → Int32 → Int32 → Int32 → Int32 → Option (Int32)) (lbl : Nat) (i1 : Int32) (i2 : Int32) (i3 : Int32) (i4 : Int32) : Option (Int32) :=
  match lbl with
  | _ =>
    if i1 ≤ i4 then
      some i3
    else
      ox_gd i3 6 (
      ox_gd (f_cause i3.toNatClampNeg) 16 (
      rec 0 i1 i2 (f_before (f_cause i3.toNatClampNeg).toNatClampNeg) (i4 + 1)))
def lp_TM_moveOnRing (f_cause : Nat → Int32) (f_before : Nat → Int32) : Nat → Nat → Int32 → Int32 → Int32 → Int32 → Option (Int32)
  | 0 => fun _ _ _ _ _ => none
  | fu+1 => st_TM_moveOnRing f_cause f_before (lp_TM_moveOnRing f_cause f_before fu)
def fn_TM_moveOnRing (z : Nat) (a1 : Int32) (a2 : Int32) (f_cause : Nat → Int32) (f_before : Nat → Int32) : Option (Int32) :=
  lp_TM_moveOnRing f_cause f_before z 0 a1 a2 a2 0

def st_TM_cycleThatBreaksRing (z : Nat) (f_cause : Nat → Int32) (f_before : Nat → Int32) (f_seconds : Nat → Int32) (f_turns : Nat → Int32) (rec : Nat → Int32 → Int32 → Int32 → Int32 → Int32 → Int32 → Int32 → Option (Int32)) (lbl : Nat) (i1 : Int32) (i2 : Int32) (i3 : Int32) (i4 : Int32) (i5 : Int32) (i6 : Int32) (i7 : Int32) : Option (Int32) :=
  match lbl with
  | _ =>
    if i1 ≤ i7 then
      if i5 < 0 then
        ox_nz (-i5) (
        some (((i4 + (-i5)) - 1) / (-i5)))
      else
        some 2001
    else
      ox_gd i6 6 (
      ox_gd (f_cause i6.toNatClampNeg) 16 (
      ox_gd (f_cause i6.toNatClampNeg) 16 (
      ox_gd (f_cause i6.toNatClampNeg) 16 (
      if ¬ (f_before (f_cause i6.toNatClampNeg).toNatClampNeg) = i3 then
        rec 0 i1 i2 i3 (i4 + (f_seconds (f_cause i6.toNatClampNeg).toNatClampNeg)) (i5 + (f_turns (f_cause i6.toNatClampNeg).toNatClampNeg)) (f_before (f_cause i6.toNatClampNeg).toNatClampNeg) (i7 + 1)
      else
        if (i5 + (f_turns (f_cause i6.toNatClampNeg).toNatClampNeg)) < 0 then
          ox_nz (-(i5 + (f_turns (f_cause i6.toNatClampNeg).toNatClampNeg))) (
          some ((((i4 + (f_seconds (f_cause i6.toNatClampNeg).toNatClampNeg)) + (-(i5 + (f_turns (f_cause i6.toNatClampNeg).toNatClampNeg)))) - 1) / (-(i5 + (f_turns (f_cause i6.toNatClampNeg).toNatClampNeg)))))
        else
          some 2001))))
def lp_TM_cycleThatBreaksRing (z : Nat) (f_cause : Nat → Int32) (f_before : Nat → Int32) (f_seconds : Nat → Int32) (f_turns : Nat → Int32) : Nat → Nat → Int32 → Int32 → Int32 → Int32 → Int32 → Int32 → Int32 → Option (Int32)
  | 0 => fun _ _ _ _ _ _ _ _ => none
  | fu+1 => st_TM_cycleThatBreaksRing z f_cause f_before f_seconds f_turns (lp_TM_cycleThatBreaksRing z f_cause f_before f_seconds f_turns fu)
def fn_TM_cycleThatBreaksRing (z : Nat) (a1 : Int32) (a2 : Int32) (f_cause : Nat → Int32) (f_before : Nat → Int32) (f_seconds : Nat → Int32) (f_turns : Nat → Int32) : Option (Int32) :=
  ox_cl (fn_TM_moveOnRing z a1 a2 f_cause f_before) fun r1 =>
  lp_TM_cycleThatBreaksRing z f_cause f_before f_seconds f_turns z 0 a1 a2 r1 0 0 r1 0

def st_TM_leastCycle (z : Nat) (v_p1_count : Int32) (f_p1_moves : Nat → Int32) (f_layout_loadedSeconds : Nat → Int32) (f_p1_rank : Nat → Int32) (f_layout_low : Nat → Int32) (f_layout_high : Nat → Int32) (f_layout_emptySeconds : Nat → Nat → Int32) (rec : Nat → Int32 → Int32 → Int32 → Int32 → (Nat → Int32) → (Nat → Int32) → (Nat → Int32) → (Nat → Int32) → (Nat → Int32) → (Nat → Int32) → Option (Int32 × Int32 × (Nat → Int32) × (Nat → Int32) × (Nat → Int32) × (Nat → Int32) × (Nat → Int32) × (Nat → Int32))) (lbl : Nat) (i2 : Int32) (i3 : Int32) (i4 : Int32) (v_rules : Int32) (f_before : Nat → Int32) (f_after : Nat → Int32) (f_seconds : Nat → Int32) (f_turns : Nat → Int32) (f_times : Nat → Int32) (f_cause : Nat → Int32) : Option (Int32 × Int32 × (Nat → Int32) × (Nat → Int32) × (Nat → Int32) × (Nat → Int32) × (Nat → Int32) × (Nat → Int32)) :=
  match lbl with
  | _ =>
    if 2000 ≤ i4 then
      some ((-1), v_rules, f_before, f_after, f_seconds, f_turns, f_times, f_cause)
    else
      if i2 < i3 then
        some ((-1), v_rules, f_before, f_after, f_seconds, f_turns, f_times, f_cause)
      else
        ox_cl (fn_TM_settleTimes z v_p1_count i3 v_rules f_times f_before f_seconds f_turns f_after f_cause) fun (r6, s6_f_times, s6_f_cause) =>
        if ¬ r6 = (-1) then
          ox_cl (fn_TM_cycleThatBreaksRing z v_p1_count r6 s6_f_cause f_before f_seconds f_turns) fun r8 =>
          rec 0 i2 r8 (i4 + 1) v_rules f_before f_after f_seconds f_turns s6_f_times s6_f_cause
        else
          some (i3, v_rules, f_before, f_after, f_seconds, f_turns, s6_f_times, s6_f_cause)
def lp_TM_leastCycle (z : Nat) (v_p1_count : Int32) (f_p1_moves : Nat → Int32) (f_layout_loadedSeconds : Nat → Int32) (f_p1_rank : Nat → Int32) (f_layout_low : Nat → Int32) (f_layout_high : Nat → Int32) (f_layout_emptySeconds : Nat → Nat → Int32) : Nat → Nat → Int32 → Int32 → Int32 → Int32 → (Nat → Int32) → (Nat → Int32) → (Nat → Int32) → (Nat → Int32) → (Nat → Int32) → (Nat → Int32) → Option (Int32 × Int32 × (Nat → Int32) × (Nat → Int32) × (Nat → Int32) × (Nat → Int32) × (Nat → Int32) × (Nat → Int32))
  | 0 => fun _ _ _ _ _ _ _ _ _ _ _ => none
  | fu+1 => st_TM_leastCycle z v_p1_count f_p1_moves f_layout_loadedSeconds f_p1_rank f_layout_low f_layout_high f_layout_emptySeconds (lp_TM_leastCycle z v_p1_count f_p1_moves f_layout_loadedSeconds f_p1_rank f_layout_low f_layout_high f_layout_emptySeconds fu)
def fn_TM_leastCycle (z : Nat) (a2 : Int32) (v_rules : Int32) (v_p1_count : Int32) (f_p1_moves : Nat → Int32) (f_layout_loadedSeconds : Nat → Int32) (f_before : Nat → Int32) (f_after : Nat → Int32) (f_seconds : Nat → Int32) (f_turns : Nat → Int32) (f_p1_rank : Nat → Int32) (f_layout_low : Nat → Int32) (f_layout_high : Nat → Int32) (f_times : Nat → Int32) (f_cause : Nat → Int32) (f_layout_emptySeconds : Nat → Nat → Int32) : Option (Int32 × Int32 × (Nat → Int32) × (Nat → Int32) × (Nat → Int32) × (Nat → Int32) × (Nat → Int32) × (Nat → Int32)) :=
  ox_cl (fn_TM_addWays z v_p1_count 0 f_p1_moves f_layout_loadedSeconds f_before f_after f_seconds f_turns f_layout_emptySeconds) fun (r1, s1_v_rules, s1_f_before, s1_f_after, s1_f_seconds, s1_f_turns) =>
  if r1 ≤ a2 then
    ox_cl (fn_TM_addSoaks z v_p1_count s1_v_rules f_layout_loadedSeconds f_p1_rank f_layout_low s1_f_before s1_f_after s1_f_seconds s1_f_turns f_layout_high) fun (s3_v_rules, s3_f_before, s3_f_after, s3_f_seconds, s3_f_turns) =>
    lp_TM_leastCycle z v_p1_count f_p1_moves f_layout_loadedSeconds f_p1_rank f_layout_low f_layout_high f_layout_emptySeconds z 0 a2 r1 0 s3_v_rules s3_f_before s3_f_after s3_f_seconds s3_f_turns f_times f_cause
  else
    some ((-1), s1_v_rules, s1_f_before, s1_f_after, s1_f_seconds, s1_f_turns, f_times, f_cause)

def fn_PL_keep (a3 : Int32) (v_cycle : Int32) (v_p1_count : Int32) (v_order_count : Int32) (f_p1_moves : Nat → Int32) (f_order_moves : Nat → Int32) (f_p1_rank : Nat → Int32) (f_order_rank : Nat → Int32) (f_p2 : Nat → Int32) (f_times : Nat → Int32) : Option (Int32 × Int32 × (Nat → Int32) × (Nat → Int32) × (Nat → Int32)) :=
  ox_cl (fn_OR_copyFrom v_p1_count v_order_count f_p1_moves f_order_moves f_p1_rank f_order_rank) fun (s1_v_count, s1_f_moves, s1_f_rank) =>
  some (a3, s1_v_count, s1_f_moves, s1_f_rank, (va_cpy f_p2 f_times 0 0 6))

def fn_PL_soakSeconds (a1 : Int32) (v_cycle : Int32) (f_times : Nat → Int32) (f_p2_loadedSeconds : Nat → Int32) (f_order_rank : Nat → Int32) : Option (Int32) :=
  ox_gd (a1 - 1) 6 (
  ox_gd (a1 - 1) 6 (
  ox_gd a1 6 (
  ox_cl (fn_OR_soakTurns a1 f_order_rank) fun r1 =>
  some (((f_times a1.toNatClampNeg) + (r1 * v_cycle)) - ((f_times (a1 - 1).toNatClampNeg) + (f_p2_loadedSeconds (a1 - 1).toNatClampNeg))))))

def fn_WK_freeHoist (v_hoistCarrier : Int32) (v_hoistMove : Int32) : Option (Int32 × Int32) :=
  some (0, (-1))

def fn_WK_reset (z : Nat) (v_second : Int32) (v_cycleSecond : Int32) (v_nextRank : Int32) (v_entryStopped : Int32) (v_entered : Int32) (v_done : Int32) (v_lastStay : Int32) (v_hoistCarrier : Int32) (v_hoistMove : Int32) (v_hoistEntry : Int32) (v_hoistEnd : Int32) (f_carriers : Nat → Int32) (f_entries : Nat → Int32) : Option (Int32 × Int32 × Int32 × Int32 × Int32 × Int32 × Int32 × Int32 × Int32 × Int32 × Int32 × (Nat → Int32) × (Nat → Int32)) :=
  ox_cl (fn_WK_freeHoist v_hoistCarrier v_hoistMove) fun (s1_v_hoistCarrier, s1_v_hoistMove) =>
  ox_cl (fn_AR_fill z 6 0 f_carriers) fun s2_f_p0 =>
  ox_cl (fn_AR_fill z 6 0 f_entries) fun s3_f_p0 =>
  some (0, 0, 0, 0, 0, 0, 0, s1_v_hoistCarrier, s1_v_hoistMove, 0, 0, s2_f_p0, s3_f_p0)

def fn_WK_endMove (v_second : Int32) (v_done : Int32) (v_lastStay : Int32) (v_hoistCarrier : Int32) (v_hoistMove : Int32) (v_hoistEntry : Int32) (v_layout_tanks : Int32) (f_carriers : Nat → Int32) (f_entries : Nat → Int32) : Option (Int32 × Int32 × Int32 × Int32 × (Nat → Int32) × (Nat → Int32)) :=
  if ¬ v_hoistMove = v_layout_tanks then
    ox_gd (v_hoistMove + 1) 6 (
    ox_gd (v_hoistMove + 1) 6 (
    ox_cl (fn_WK_freeHoist v_hoistCarrier v_hoistMove) fun (s2_v_hoistCarrier, s2_v_hoistMove) =>
    some (v_done, v_lastStay, s2_v_hoistCarrier, s2_v_hoistMove, (upd f_carriers (v_hoistMove + 1).toNatClampNeg v_hoistCarrier), (upd f_entries (v_hoistMove + 1).toNatClampNeg v_hoistEntry))))
  else
    ox_cl (fn_WK_freeHoist v_hoistCarrier v_hoistMove) fun (s3_v_hoistCarrier, s3_v_hoistMove) =>
    some ((v_done + 1), (v_second - v_hoistEntry), s3_v_hoistCarrier, s3_v_hoistMove, f_carriers, f_entries)

def fn_WK_takeNext (v_second : Int32) (v_entryStopped : Int32) (v_entered : Int32) (v_hoistCarrier : Int32) (v_hoistEntry : Int32) : Option (Int32 × Int32 × Int32 × Int32) :=
  if v_entryStopped = 0 then
    some (1, (v_entered + 1), (v_entered + 1), v_second)
  else
    some (0, v_entered, v_hoistCarrier, v_hoistEntry)

def fn_WK_takeFromTank (a1 : Int32) (v_hoistCarrier : Int32) (v_hoistEntry : Int32) (f_carriers : Nat → Int32) (f_entries : Nat → Int32) : Option (Int32 × Int32 × Int32 × (Nat → Int32)) :=
  ox_gd a1 6 (
  if ¬ (f_carriers a1.toNatClampNeg) = 0 then
    ox_gd a1 6 (
    ox_gd a1 6 (
    ox_gd a1 6 (
    some (1, (f_carriers a1.toNatClampNeg), (f_entries a1.toNatClampNeg), (upd f_carriers a1.toNatClampNeg 0)))))
  else
    some (0, v_hoistCarrier, v_hoistEntry, f_carriers))

def fn_WK_beginMove (a1 : Int32) (v_second : Int32) (v_entryStopped : Int32) (v_entered : Int32) (v_hoistCarrier : Int32) (v_hoistMove : Int32) (v_hoistEntry : Int32) (v_hoistEnd : Int32) (f_carriers : Nat → Int32) (f_entries : Nat → Int32) (f_layout_loadedSeconds : Nat → Int32) : Option (Int32 × Int32 × Int32 × Int32 × Int32 × Int32 × (Nat → Int32)) :=
  if ¬ a1 = 0 then
    ox_cl (fn_WK_takeFromTank a1 v_hoistCarrier v_hoistEntry f_carriers f_entries) fun (r2, s2_v_hoistCarrier, s2_v_hoistEntry, s2_f_carriers) =>
    if r2 = 0 then
      ox_bg r2 (
      some (r2, v_entered, s2_v_hoistCarrier, v_hoistMove, s2_v_hoistEntry, v_hoistEnd, s2_f_carriers))
    else
      ox_gd a1 6 (
      ox_bg r2 (
      some (r2, v_entered, s2_v_hoistCarrier, a1, s2_v_hoistEntry, (v_second + (f_layout_loadedSeconds a1.toNatClampNeg)), s2_f_carriers)))
  else
    ox_cl (fn_WK_takeNext v_second v_entryStopped v_entered v_hoistCarrier v_hoistEntry) fun (r4, s4_v_entered, s4_v_hoistCarrier, s4_v_hoistEntry) =>
    if r4 = 0 then
      ox_bg r4 (
      some (r4, s4_v_entered, s4_v_hoistCarrier, v_hoistMove, s4_v_hoistEntry, v_hoistEnd, f_carriers))
    else
      ox_gd a1 6 (
      ox_bg r4 (
      some (r4, s4_v_entered, s4_v_hoistCarrier, a1, s4_v_hoistEntry, (v_second + (f_layout_loadedSeconds a1.toNatClampNeg)), f_carriers)))

def fn_WK_passSecond (v_second : Int32) (v_cycleSecond : Int32) (v_nextRank : Int32) (v_entryStopped : Int32) (v_entered : Int32) (v_done : Int32) (v_lastStay : Int32) (v_hoistCarrier : Int32) (v_hoistMove : Int32) (v_hoistEntry : Int32) (v_hoistEnd : Int32) (v_plan_cycle : Int32) (v_layout_tanks : Int32) (f_plan_order_moves : Nat → Int32) (f_plan_times : Nat → Int32) (f_carriers : Nat → Int32) (f_entries : Nat → Int32) (f_layout_loadedSeconds : Nat → Int32) : Option (Int32 × Int32 × Int32 × Int32 × Int32 × Int32 × Int32 × Int32 × Int32 × Int32 × Int32 × (Nat → Int32) × (Nat → Int32)) :=
  if v_hoistMove = (-1) then
    ox_gd v_nextRank 6 (
    ox_gd (f_plan_order_moves v_nextRank.toNatClampNeg) 6 (
    if ¬ (f_plan_times (f_plan_order_moves v_nextRank.toNatClampNeg).toNatClampNeg) = v_cycleSecond then
      if ¬ (v_cycleSecond + 1) = v_plan_cycle then
        some (0, (v_second + 1), (v_cycleSecond + 1), v_nextRank, v_entered, v_done, v_lastStay, v_hoistCarrier, v_hoistMove, v_hoistEntry, v_hoistEnd, f_carriers, f_entries)
      else
        some (0, (v_second + 1), 0, v_nextRank, v_entered, v_done, v_lastStay, v_hoistCarrier, v_hoistMove, v_hoistEntry, v_hoistEnd, f_carriers, f_entries)
    else
      ox_cl (fn_WK_beginMove (f_plan_order_moves v_nextRank.toNatClampNeg) v_second v_entryStopped v_entered v_hoistCarrier v_hoistMove v_hoistEntry v_hoistEnd f_carriers f_entries f_layout_loadedSeconds) fun (r4, s4_v_entered, s4_v_hoistCarrier, s4_v_hoistMove, s4_v_hoistEntry, s4_v_hoistEnd, s4_f_carriers) =>
      if ¬ v_nextRank = v_layout_tanks then
        if ¬ (v_cycleSecond + 1) = v_plan_cycle then
          ox_bg r4 (
          some (r4, (v_second + 1), (v_cycleSecond + 1), (v_nextRank + 1), s4_v_entered, v_done, v_lastStay, s4_v_hoistCarrier, s4_v_hoistMove, s4_v_hoistEntry, s4_v_hoistEnd, s4_f_carriers, f_entries))
        else
          ox_bg r4 (
          some (r4, (v_second + 1), 0, (v_nextRank + 1), s4_v_entered, v_done, v_lastStay, s4_v_hoistCarrier, s4_v_hoistMove, s4_v_hoistEntry, s4_v_hoistEnd, s4_f_carriers, f_entries))
      else
        if ¬ (v_cycleSecond + 1) = v_plan_cycle then
          ox_bg r4 (
          some (r4, (v_second + 1), (v_cycleSecond + 1), 0, s4_v_entered, v_done, v_lastStay, s4_v_hoistCarrier, s4_v_hoistMove, s4_v_hoistEntry, s4_v_hoistEnd, s4_f_carriers, f_entries))
        else
          ox_bg r4 (
          some (r4, (v_second + 1), 0, 0, s4_v_entered, v_done, v_lastStay, s4_v_hoistCarrier, s4_v_hoistMove, s4_v_hoistEntry, s4_v_hoistEnd, s4_f_carriers, f_entries))))
  else
    if ¬ v_hoistEnd = v_second then
      ox_gd v_nextRank 6 (
      ox_gd (f_plan_order_moves v_nextRank.toNatClampNeg) 6 (
      if ¬ (f_plan_times (f_plan_order_moves v_nextRank.toNatClampNeg).toNatClampNeg) = v_cycleSecond then
        if ¬ (v_cycleSecond + 1) = v_plan_cycle then
          some (0, (v_second + 1), (v_cycleSecond + 1), v_nextRank, v_entered, v_done, v_lastStay, v_hoistCarrier, v_hoistMove, v_hoistEntry, v_hoistEnd, f_carriers, f_entries)
        else
          some (0, (v_second + 1), 0, v_nextRank, v_entered, v_done, v_lastStay, v_hoistCarrier, v_hoistMove, v_hoistEntry, v_hoistEnd, f_carriers, f_entries)
      else
        ox_cl (fn_WK_beginMove (f_plan_order_moves v_nextRank.toNatClampNeg) v_second v_entryStopped v_entered v_hoistCarrier v_hoistMove v_hoistEntry v_hoistEnd f_carriers f_entries f_layout_loadedSeconds) fun (r11, s11_v_entered, s11_v_hoistCarrier, s11_v_hoistMove, s11_v_hoistEntry, s11_v_hoistEnd, s11_f_carriers) =>
        if ¬ v_nextRank = v_layout_tanks then
          if ¬ (v_cycleSecond + 1) = v_plan_cycle then
            ox_bg r11 (
            some (r11, (v_second + 1), (v_cycleSecond + 1), (v_nextRank + 1), s11_v_entered, v_done, v_lastStay, s11_v_hoistCarrier, s11_v_hoistMove, s11_v_hoistEntry, s11_v_hoistEnd, s11_f_carriers, f_entries))
          else
            ox_bg r11 (
            some (r11, (v_second + 1), 0, (v_nextRank + 1), s11_v_entered, v_done, v_lastStay, s11_v_hoistCarrier, s11_v_hoistMove, s11_v_hoistEntry, s11_v_hoistEnd, s11_f_carriers, f_entries))
        else
          if ¬ (v_cycleSecond + 1) = v_plan_cycle then
            ox_bg r11 (
            some (r11, (v_second + 1), (v_cycleSecond + 1), 0, s11_v_entered, v_done, v_lastStay, s11_v_hoistCarrier, s11_v_hoistMove, s11_v_hoistEntry, s11_v_hoistEnd, s11_f_carriers, f_entries))
          else
            ox_bg r11 (
            some (r11, (v_second + 1), 0, 0, s11_v_entered, v_done, v_lastStay, s11_v_hoistCarrier, s11_v_hoistMove, s11_v_hoistEntry, s11_v_hoistEnd, s11_f_carriers, f_entries))))
    else
      ox_cl (fn_WK_endMove v_second v_done v_lastStay v_hoistCarrier v_hoistMove v_hoistEntry v_layout_tanks f_carriers f_entries) fun (s15_v_done, s15_v_lastStay, s15_v_hoistCarrier, s15_v_hoistMove, s15_f_carriers, s15_f_entries) =>
      ox_gd v_nextRank 6 (
      ox_gd (f_plan_order_moves v_nextRank.toNatClampNeg) 6 (
      if ¬ (f_plan_times (f_plan_order_moves v_nextRank.toNatClampNeg).toNatClampNeg) = v_cycleSecond then
        if ¬ (v_cycleSecond + 1) = v_plan_cycle then
          some (0, (v_second + 1), (v_cycleSecond + 1), v_nextRank, v_entered, s15_v_done, s15_v_lastStay, s15_v_hoistCarrier, s15_v_hoistMove, v_hoistEntry, v_hoistEnd, s15_f_carriers, s15_f_entries)
        else
          some (0, (v_second + 1), 0, v_nextRank, v_entered, s15_v_done, s15_v_lastStay, s15_v_hoistCarrier, s15_v_hoistMove, v_hoistEntry, v_hoistEnd, s15_f_carriers, s15_f_entries)
      else
        ox_cl (fn_WK_beginMove (f_plan_order_moves v_nextRank.toNatClampNeg) v_second v_entryStopped v_entered s15_v_hoistCarrier s15_v_hoistMove v_hoistEntry v_hoistEnd s15_f_carriers s15_f_entries f_layout_loadedSeconds) fun (r18, s18_v_entered, s18_v_hoistCarrier, s18_v_hoistMove, s18_v_hoistEntry, s18_v_hoistEnd, s18_f_carriers) =>
        if ¬ v_nextRank = v_layout_tanks then
          if ¬ (v_cycleSecond + 1) = v_plan_cycle then
            ox_bg r18 (
            some (r18, (v_second + 1), (v_cycleSecond + 1), (v_nextRank + 1), s18_v_entered, s15_v_done, s15_v_lastStay, s18_v_hoistCarrier, s18_v_hoistMove, s18_v_hoistEntry, s18_v_hoistEnd, s18_f_carriers, s15_f_entries))
          else
            ox_bg r18 (
            some (r18, (v_second + 1), 0, (v_nextRank + 1), s18_v_entered, s15_v_done, s15_v_lastStay, s18_v_hoistCarrier, s18_v_hoistMove, s18_v_hoistEntry, s18_v_hoistEnd, s18_f_carriers, s15_f_entries))
        else
          if ¬ (v_cycleSecond + 1) = v_plan_cycle then
            ox_bg r18 (
            some (r18, (v_second + 1), (v_cycleSecond + 1), 0, s18_v_entered, s15_v_done, s15_v_lastStay, s18_v_hoistCarrier, s18_v_hoistMove, s18_v_hoistEntry, s18_v_hoistEnd, s18_f_carriers, s15_f_entries))
          else
            ox_bg r18 (
            some (r18, (v_second + 1), 0, 0, s18_v_entered, s15_v_done, s15_v_lastStay, s18_v_hoistCarrier, s18_v_hoistMove, s18_v_hoistEntry, s18_v_hoistEnd, s18_f_carriers, s15_f_entries))))

def st_WK_isDrained (v_hoistCarrier : Int32) (v_layout_tanks : Int32) (f_carriers : Nat → Int32) (rec : Nat → Int32 → Option (Int32)) (lbl : Nat) (i1 : Int32) : Option (Int32) :=
  match lbl with
  | _ =>
    if v_layout_tanks < i1 then
      if ¬ v_hoistCarrier = 0 then
        some 0
      else
        some 1
    else
      ox_gd i1 6 (
      if (f_carriers i1.toNatClampNeg) = 0 then
        rec 0 (i1 + 1)
      else
        some 0)
def lp_WK_isDrained (v_hoistCarrier : Int32) (v_layout_tanks : Int32) (f_carriers : Nat → Int32) : Nat → Nat → Int32 → Option (Int32)
  | 0 => fun _ _ => none
  | fu+1 => st_WK_isDrained v_hoistCarrier v_layout_tanks f_carriers (lp_WK_isDrained v_hoistCarrier v_layout_tanks f_carriers fu)
def fn_WK_isDrained (z : Nat) (v_hoistCarrier : Int32) (v_layout_tanks : Int32) (f_carriers : Nat → Int32) : Option (Int32) :=
  lp_WK_isDrained v_hoistCarrier v_layout_tanks f_carriers z 0 1

def fn_HP_isWithin (a0 : Int32) (a1 : Int32) (a2 : Int32) : Option (Int32) :=
  if a0 < a1 then
    some 0
  else
    if a2 < a0 then
      some 0
    else
      some 1

def st_HP_findPlan (z : Nat) (v_layout_tanks : Int32) (f_layout_loadedSeconds : Nat → Int32) (f_layout_low : Nat → Int32) (f_layout_high : Nat → Int32) (f_layout_emptySeconds : Nat → Nat → Int32) (rec : Nat → Int32 → Int32 → Int32 → Int32 → Int32 → Int32 → Int32 → (Nat → Int32) → (Nat → Int32) → (Nat → Int32) → (Nat → Int32) → (Nat → Int32) → (Nat → Int32) → (Nat → Int32) → (Nat → Int32) → (Nat → Int32) → (Nat → Int32) → (Nat → Int32) → Option (Int32 × Int32 × Int32 × Int32 × Int32 × (Nat → Int32) × (Nat → Int32) × (Nat → Int32) × (Nat → Int32) × (Nat → Int32) × (Nat → Int32) × (Nat → Int32) × (Nat → Int32) × (Nat → Int32) × (Nat → Int32) × (Nat → Int32))) (lbl : Nat) (i1 : Int32) (i2 : Int32) (i3 : Int32) (v_tried_count : Int32) (v_timing_rules : Int32) (v_found_cycle : Int32) (v_found_order_count : Int32) (f_tried_moves : Nat → Int32) (f_tried_rank : Nat → Int32) (f_timing_before : Nat → Int32) (f_timing_after : Nat → Int32) (f_timing_seconds : Nat → Int32) (f_timing_turns : Nat → Int32) (f_timing_times : Nat → Int32) (f_timing_cause : Nat → Int32) (f_found_order_moves : Nat → Int32) (f_found_order_rank : Nat → Int32) (f_found_times : Nat → Int32) : Option (Int32 × Int32 × Int32 × Int32 × Int32 × (Nat → Int32) × (Nat → Int32) × (Nat → Int32) × (Nat → Int32) × (Nat → Int32) × (Nat → Int32) × (Nat → Int32) × (Nat → Int32) × (Nat → Int32) × (Nat → Int32) × (Nat → Int32)) :=
  match lbl with
  | _ =>
    if 120 ≤ i3 then
      some (i1, v_tried_count, v_timing_rules, v_found_cycle, v_found_order_count, f_tried_moves, f_tried_rank, f_timing_before, f_timing_after, f_timing_seconds, f_timing_turns, f_timing_times, f_timing_cause, f_found_order_moves, f_found_order_rank, f_found_times)
    else
      ox_cl (fn_TM_leastCycle z i2 v_timing_rules v_tried_count f_tried_moves f_layout_loadedSeconds f_timing_before f_timing_after f_timing_seconds f_timing_turns f_tried_rank f_layout_low f_layout_high f_timing_times f_timing_cause f_layout_emptySeconds) fun (r3, s3_v_rules, s3_f_before, s3_f_after, s3_f_seconds, s3_f_turns, s3_f_times, s3_f_cause) =>
      if r3 = (-1) then
        ox_cl (fn_OR_toNext z v_tried_count f_tried_moves f_tried_rank) fun (r5, s5_f_moves, s5_f_rank) =>
        if ¬ r5 = 0 then
          rec 0 i1 i2 (i3 + 1) v_tried_count s3_v_rules v_found_cycle v_found_order_count s5_f_moves s5_f_rank s3_f_before s3_f_after s3_f_seconds s3_f_turns s3_f_times s3_f_cause f_found_order_moves f_found_order_rank f_found_times
        else
          some (i1, v_tried_count, s3_v_rules, v_found_cycle, v_found_order_count, s5_f_moves, s5_f_rank, s3_f_before, s3_f_after, s3_f_seconds, s3_f_turns, s3_f_times, s3_f_cause, f_found_order_moves, f_found_order_rank, f_found_times)
      else
        ox_cl (fn_PL_keep r3 v_found_cycle v_tried_count v_found_order_count f_tried_moves f_found_order_moves f_tried_rank f_found_order_rank s3_f_times f_found_times) fun (s7_v_cycle, s7_v_order_count, s7_f_order_moves, s7_f_order_rank, s7_f_times) =>
        ox_cl (fn_OR_toNext z v_tried_count f_tried_moves f_tried_rank) fun (r8, s8_f_moves, s8_f_rank) =>
        if ¬ r8 = 0 then
          rec 0 r3 (r3 - 1) (i3 + 1) v_tried_count s3_v_rules s7_v_cycle s7_v_order_count s8_f_moves s8_f_rank s3_f_before s3_f_after s3_f_seconds s3_f_turns s3_f_times s3_f_cause s7_f_order_moves s7_f_order_rank s7_f_times
        else
          some (r3, v_tried_count, s3_v_rules, s7_v_cycle, s7_v_order_count, s8_f_moves, s8_f_rank, s3_f_before, s3_f_after, s3_f_seconds, s3_f_turns, s3_f_times, s3_f_cause, s7_f_order_moves, s7_f_order_rank, s7_f_times)
def lp_HP_findPlan (z : Nat) (v_layout_tanks : Int32) (f_layout_loadedSeconds : Nat → Int32) (f_layout_low : Nat → Int32) (f_layout_high : Nat → Int32) (f_layout_emptySeconds : Nat → Nat → Int32) : Nat → Nat → Int32 → Int32 → Int32 → Int32 → Int32 → Int32 → Int32 → (Nat → Int32) → (Nat → Int32) → (Nat → Int32) → (Nat → Int32) → (Nat → Int32) → (Nat → Int32) → (Nat → Int32) → (Nat → Int32) → (Nat → Int32) → (Nat → Int32) → (Nat → Int32) → Option (Int32 × Int32 × Int32 × Int32 × Int32 × (Nat → Int32) × (Nat → Int32) × (Nat → Int32) × (Nat → Int32) × (Nat → Int32) × (Nat → Int32) × (Nat → Int32) × (Nat → Int32) × (Nat → Int32) × (Nat → Int32) × (Nat → Int32))
  | 0 => fun _ _ _ _ _ _ _ _ _ _ _ _ _ _ _ _ _ _ _ => none
  | fu+1 => st_HP_findPlan z v_layout_tanks f_layout_loadedSeconds f_layout_low f_layout_high f_layout_emptySeconds (lp_HP_findPlan z v_layout_tanks f_layout_loadedSeconds f_layout_low f_layout_high f_layout_emptySeconds fu)
def fn_HP_findPlan (z : Nat) (v_layout_tanks : Int32) (v_tried_count : Int32) (v_timing_rules : Int32) (v_found_cycle : Int32) (v_found_order_count : Int32) (f_tried_moves : Nat → Int32) (f_tried_rank : Nat → Int32) (f_layout_loadedSeconds : Nat → Int32) (f_timing_before : Nat → Int32) (f_timing_after : Nat → Int32) (f_timing_seconds : Nat → Int32) (f_timing_turns : Nat → Int32) (f_layout_low : Nat → Int32) (f_layout_high : Nat → Int32) (f_timing_times : Nat → Int32) (f_timing_cause : Nat → Int32) (f_found_order_moves : Nat → Int32) (f_found_order_rank : Nat → Int32) (f_found_times : Nat → Int32) (f_layout_emptySeconds : Nat → Nat → Int32) : Option (Int32 × Int32 × Int32 × Int32 × Int32 × (Nat → Int32) × (Nat → Int32) × (Nat → Int32) × (Nat → Int32) × (Nat → Int32) × (Nat → Int32) × (Nat → Int32) × (Nat → Int32) × (Nat → Int32) × (Nat → Int32) × (Nat → Int32)) :=
  ox_cl (fn_OR_toFirst z v_layout_tanks v_tried_count f_tried_moves f_tried_rank) fun (s1_v_count, s1_f_moves, s1_f_rank) =>
  lp_HP_findPlan z v_layout_tanks f_layout_loadedSeconds f_layout_low f_layout_high f_layout_emptySeconds z 0 (-1) 2000 0 s1_v_count v_timing_rules v_found_cycle v_found_order_count s1_f_moves s1_f_rank f_timing_before f_timing_after f_timing_seconds f_timing_turns f_timing_times f_timing_cause f_found_order_moves f_found_order_rank f_found_times

def fn_HP_ready (z : Nat) (v_layout_tanks : Int32) (f_layout_loadedSeconds : Nat → Int32) (f_layout_emptySeconds : Nat → Nat → Int32) : Option (Int32) :=
  ox_cl (fn_LY_fault z v_layout_tanks f_layout_loadedSeconds f_layout_emptySeconds) fun r1 =>
  some r1

def fn_MD_thrown (v_thrown : Int32) : Option (Int32) :=
  some v_thrown

def fn_MD_refuse (a1 : Int32) (a2 : Int32) (v_thrown : Int32) : Option (Int32 × Int32) :=
  if a1 = 0 then
    if a2 = 0 then
      some (0, 0)
    else
      some (1, 2)
  else
    some (1, 1)

def fn_MD_in (a0 : Int32) (a1 : Int32) (a2 : Int32) : Option (Int32) :=
  if a0 < a1 then
    some 0
  else
    if a2 < a0 then
      some 0
    else
      some 1

def st_MD_clear (rec : Nat → Int32 → Int32 → Int32 → Int32 → (Nat → Int32) → (Nat → Int32) → (Nat → Int32) → (Nat → Int32) → Option (Int32 × Int32 × (Nat → Int32) × (Nat → Int32) × (Nat → Int32) × (Nat → Int32))) (lbl : Nat) (i1 : Int32) (i2 : Int32) (v_tanks : Int32) (v_hasPlan : Int32) (f_low : Nat → Int32) (f_high : Nat → Int32) (f_loaded : Nat → Int32) (f_empty : Nat → Int32) : Option (Int32 × Int32 × (Nat → Int32) × (Nat → Int32) × (Nat → Int32) × (Nat → Int32)) :=
  match lbl with
  | 0 =>
    if 6 ≤ i2 then
      rec 1 i1 0 v_tanks v_hasPlan f_low f_high f_loaded f_empty
    else
      ox_gd i2 6 (
      ox_gd i2 6 (
      ox_gd i2 6 (
      rec 0 i1 (i2 + 1) v_tanks v_hasPlan (upd f_low i2.toNatClampNeg 0) (upd f_high i2.toNatClampNeg 500) (upd f_loaded i2.toNatClampNeg 10) f_empty)))
  | _ =>
    if 49 ≤ i2 then
      some (v_tanks, v_hasPlan, f_low, f_high, f_loaded, f_empty)
    else
      ox_gd i2 49 (
      rec 1 i1 (i2 + 1) v_tanks v_hasPlan f_low f_high f_loaded (upd f_empty i2.toNatClampNeg 0))
def lp_MD_clear : Nat → Nat → Int32 → Int32 → Int32 → Int32 → (Nat → Int32) → (Nat → Int32) → (Nat → Int32) → (Nat → Int32) → Option (Int32 × Int32 × (Nat → Int32) × (Nat → Int32) × (Nat → Int32) × (Nat → Int32))
  | 0 => fun _ _ _ _ _ _ _ _ _ => none
  | fu+1 => st_MD_clear (lp_MD_clear fu)
def fn_MD_clear (z : Nat) (a1 : Int32) (v_tanks : Int32) (v_hasPlan : Int32) (f_low : Nat → Int32) (f_high : Nat → Int32) (f_loaded : Nat → Int32) (f_empty : Nat → Int32) : Option (Int32 × Int32 × (Nat → Int32) × (Nat → Int32) × (Nat → Int32) × (Nat → Int32)) :=
  lp_MD_clear z 0 a1 0 a1 0 f_low f_high f_loaded f_empty

def fn_MD_line (z : Nat) (a1 : Int32) (v_thrown : Int32) (v_tanks : Int32) (v_hasPlan : Int32) (f_low : Nat → Int32) (f_high : Nat → Int32) (f_loaded : Nat → Int32) (f_empty : Nat → Int32) : Option (Int32 × Int32 × Int32 × (Nat → Int32) × (Nat → Int32) × (Nat → Int32) × (Nat → Int32)) :=
  ox_cl (fn_MD_in a1 1 5) fun r1 =>
  if ¬ r1 = 0 then
    ox_cl (fn_MD_refuse 0 0 v_thrown) fun (r3, s3_v_thrown) =>
    if ¬ r3 = 0 then
      some (s3_v_thrown, v_tanks, v_hasPlan, f_low, f_high, f_loaded, f_empty)
    else
      ox_cl (fn_MD_clear z a1 v_tanks v_hasPlan f_low f_high f_loaded f_empty) fun (s5_v_tanks, s5_v_hasPlan, s5_f_low, s5_f_high, s5_f_loaded, s5_f_empty) =>
      some (s3_v_thrown, s5_v_tanks, s5_v_hasPlan, s5_f_low, s5_f_high, s5_f_loaded, s5_f_empty)
  else
    ox_cl (fn_MD_refuse 1 0 v_thrown) fun (r6, s6_v_thrown) =>
    if ¬ r6 = 0 then
      some (s6_v_thrown, v_tanks, v_hasPlan, f_low, f_high, f_loaded, f_empty)
    else
      ox_cl (fn_MD_clear z a1 v_tanks v_hasPlan f_low f_high f_loaded f_empty) fun (s8_v_tanks, s8_v_hasPlan, s8_f_low, s8_f_high, s8_f_loaded, s8_f_empty) =>
      some (s6_v_thrown, s8_v_tanks, s8_v_hasPlan, s8_f_low, s8_f_high, s8_f_loaded, s8_f_empty)

def fn_MD_soak (a1 : Int32) (a2 : Int32) (a3 : Int32) (v_thrown : Int32) (v_tanks : Int32) (v_hasPlan : Int32) (f_low : Nat → Int32) (f_high : Nat → Int32) : Option (Int32 × Int32 × (Nat → Int32) × (Nat → Int32)) :=
  ox_cl (fn_MD_in a1 1 v_tanks) fun r1 =>
  if r1 = 0 then
    ox_cl (fn_MD_refuse 1 0 v_thrown) fun (r3, s3_v_thrown) =>
    if r3 = 0 then
      ox_gd a1 6 (
      ox_gd a1 6 (
      some (s3_v_thrown, 0, (upd f_low a1.toNatClampNeg a2), (upd f_high a1.toNatClampNeg a3))))
    else
      some (s3_v_thrown, v_hasPlan, f_low, f_high)
  else
    ox_cl (fn_MD_in a2 0 500) fun r5 =>
    if r5 = 0 then
      ox_cl (fn_MD_refuse 1 0 v_thrown) fun (r7, s7_v_thrown) =>
      if r7 = 0 then
        ox_gd a1 6 (
        ox_gd a1 6 (
        some (s7_v_thrown, 0, (upd f_low a1.toNatClampNeg a2), (upd f_high a1.toNatClampNeg a3))))
      else
        some (s7_v_thrown, v_hasPlan, f_low, f_high)
    else
      ox_cl (fn_MD_in a3 0 500) fun r9 =>
      if r9 = 0 then
        ox_cl (fn_MD_refuse 1 0 v_thrown) fun (r11, s11_v_thrown) =>
        if r11 = 0 then
          ox_gd a1 6 (
          ox_gd a1 6 (
          some (s11_v_thrown, 0, (upd f_low a1.toNatClampNeg a2), (upd f_high a1.toNatClampNeg a3))))
        else
          some (s11_v_thrown, v_hasPlan, f_low, f_high)
      else
        if a2 ≤ a3 then
          ox_cl (fn_MD_refuse 0 0 v_thrown) fun (r14, s14_v_thrown) =>
          if r14 = 0 then
            ox_gd a1 6 (
            ox_gd a1 6 (
            some (s14_v_thrown, 0, (upd f_low a1.toNatClampNeg a2), (upd f_high a1.toNatClampNeg a3))))
          else
            some (s14_v_thrown, v_hasPlan, f_low, f_high)
        else
          ox_cl (fn_MD_refuse 1 0 v_thrown) fun (r16, s16_v_thrown) =>
          if r16 = 0 then
            ox_gd a1 6 (
            ox_gd a1 6 (
            some (s16_v_thrown, 0, (upd f_low a1.toNatClampNeg a2), (upd f_high a1.toNatClampNeg a3))))
          else
            some (s16_v_thrown, v_hasPlan, f_low, f_high)

def fn_MD_loaded (a1 : Int32) (a2 : Int32) (v_thrown : Int32) (v_tanks : Int32) (v_hasPlan : Int32) (f_loaded : Nat → Int32) : Option (Int32 × Int32 × (Nat → Int32)) :=
  ox_cl (fn_MD_in a1 0 v_tanks) fun r1 =>
  if r1 = 0 then
    ox_cl (fn_MD_refuse 1 0 v_thrown) fun (r3, s3_v_thrown) =>
    if r3 = 0 then
      ox_gd a1 6 (
      some (s3_v_thrown, 0, (upd f_loaded a1.toNatClampNeg a2)))
    else
      some (s3_v_thrown, v_hasPlan, f_loaded)
  else
    ox_cl (fn_MD_in a2 1 100) fun r5 =>
    if ¬ r5 = 0 then
      ox_cl (fn_MD_refuse 0 0 v_thrown) fun (r7, s7_v_thrown) =>
      if r7 = 0 then
        ox_gd a1 6 (
        some (s7_v_thrown, 0, (upd f_loaded a1.toNatClampNeg a2)))
      else
        some (s7_v_thrown, v_hasPlan, f_loaded)
    else
      ox_cl (fn_MD_refuse 1 0 v_thrown) fun (r9, s9_v_thrown) =>
      if r9 = 0 then
        ox_gd a1 6 (
        some (s9_v_thrown, 0, (upd f_loaded a1.toNatClampNeg a2)))
      else
        some (s9_v_thrown, v_hasPlan, f_loaded)

def fn_MD_empty (a1 : Int32) (a2 : Int32) (a3 : Int32) (v_thrown : Int32) (v_tanks : Int32) (v_hasPlan : Int32) (f_empty : Nat → Int32) : Option (Int32 × Int32 × (Nat → Int32)) :=
  ox_cl (fn_MD_in a1 0 (v_tanks + 1)) fun r1 =>
  if r1 = 0 then
    ox_cl (fn_MD_refuse 1 0 v_thrown) fun (r3, s3_v_thrown) =>
    if r3 = 0 then
      ox_gd ((7 * a1) + a2) 49 (
      some (s3_v_thrown, 0, (upd f_empty ((7 * a1) + a2).toNatClampNeg a3)))
    else
      some (s3_v_thrown, v_hasPlan, f_empty)
  else
    ox_cl (fn_MD_in a2 0 (v_tanks + 1)) fun r5 =>
    if r5 = 0 then
      ox_cl (fn_MD_refuse 1 0 v_thrown) fun (r7, s7_v_thrown) =>
      if r7 = 0 then
        ox_gd ((7 * a1) + a2) 49 (
        some (s7_v_thrown, 0, (upd f_empty ((7 * a1) + a2).toNatClampNeg a3)))
      else
        some (s7_v_thrown, v_hasPlan, f_empty)
    else
      if a1 = a2 then
        ox_cl (fn_MD_refuse 1 0 v_thrown) fun (r10, s10_v_thrown) =>
        if r10 = 0 then
          ox_gd ((7 * a1) + a2) 49 (
          some (s10_v_thrown, 0, (upd f_empty ((7 * a1) + a2).toNatClampNeg a3)))
        else
          some (s10_v_thrown, v_hasPlan, f_empty)
      else
        ox_cl (fn_MD_in a3 0 100) fun r12 =>
        if ¬ r12 = 0 then
          ox_cl (fn_MD_refuse 0 0 v_thrown) fun (r14, s14_v_thrown) =>
          if r14 = 0 then
            ox_gd ((7 * a1) + a2) 49 (
            some (s14_v_thrown, 0, (upd f_empty ((7 * a1) + a2).toNatClampNeg a3)))
          else
            some (s14_v_thrown, v_hasPlan, f_empty)
        else
          ox_cl (fn_MD_refuse 1 0 v_thrown) fun (r16, s16_v_thrown) =>
          if r16 = 0 then
            ox_gd ((7 * a1) + a2) 49 (
            some (s16_v_thrown, 0, (upd f_empty ((7 * a1) + a2).toNatClampNeg a3)))
          else
            some (s16_v_thrown, v_hasPlan, f_empty)

def st_MD_readiness (v_tanks : Int32) (f_empty : Nat → Int32) (f_loaded : Nat → Int32) (rec : Nat → Int32 → Option (Int32)) (lbl : Nat) (i1 : Int32) : Option (Int32) :=
  match lbl with
  | 0 =>
    if v_tanks < i1 then
      rec 1 0
    else
      ox_gd (((7 * i1) + i1) + 1) 49 (
      ox_gd i1 6 (
      if (f_empty (((7 * i1) + i1) + 1).toNatClampNeg) ≤ (f_loaded i1.toNatClampNeg) then
        rec 0 (i1 + 1)
      else
        some (1 + i1)))
  | _ =>
    if 343 ≤ i1 then
      some 0
    else
      if (v_tanks + 1) < (i1 / 49) then
        rec 1 (i1 + 1)
      else
        if (v_tanks + 1) < ((i1 / 7) - (i1 / 7) / 7 * 7) then
          rec 1 (i1 + 1)
        else
          if (v_tanks + 1) < (i1 - i1 / 7 * 7) then
            rec 1 (i1 + 1)
          else
            ox_gd ((7 * (i1 / 49)) + (i1 - i1 / 7 * 7)) 49 (
            ox_gd ((7 * (i1 / 49)) + ((i1 / 7) - (i1 / 7) / 7 * 7)) 49 (
            ox_gd ((7 * ((i1 / 7) - (i1 / 7) / 7 * 7)) + (i1 - i1 / 7 * 7)) 49 (
            if (f_empty ((7 * (i1 / 49)) + (i1 - i1 / 7 * 7)).toNatClampNeg) ≤ ((f_empty ((7 * (i1 / 49)) + ((i1 / 7) - (i1 / 7) / 7 * 7)).toNatClampNeg) + (f_empty ((7 * ((i1 / 7) - (i1 / 7) / 7 * 7)) + (i1 - i1 / 7 * 7)).toNatClampNeg)) then
              rec 1 (i1 + 1)
            else
              some (100 + i1))))
def lp_MD_readiness (v_tanks : Int32) (f_empty : Nat → Int32) (f_loaded : Nat → Int32) : Nat → Nat → Int32 → Option (Int32)
  | 0 => fun _ _ => none
  | fu+1 => st_MD_readiness v_tanks f_empty f_loaded (lp_MD_readiness v_tanks f_empty f_loaded fu)
def fn_MD_readiness (z : Nat) (v_tanks : Int32) (f_empty : Nat → Int32) (f_loaded : Nat → Int32) : Option (Int32) :=
  lp_MD_readiness v_tanks f_empty f_loaded z 0 0

def fn_MD_ready (z : Nat) (v_thrown : Int32) (v_tanks : Int32) (f_empty : Nat → Int32) (f_loaded : Nat → Int32) : Option (Int32 × Int32) :=
  ox_cl (fn_MD_readiness z v_tanks f_empty f_loaded) fun r1 =>
  some (r1, 0)

def fn_MD_behind (a1 : Int32) (a2 : Int32) (f_loaded : Nat → Int32) (f_empty : Nat → Int32) : Option (Int32) :=
  ox_gd a1 6 (
  ox_gd ((7 * (a1 + 1)) + a2) 49 (
  some ((f_loaded a1.toNatClampNeg) + (f_empty ((7 * (a1 + 1)) + a2).toNatClampNeg))))

def fn_MD_raise (a1 : Int32) (a2 : Int32) (f_times : Nat → Int32) : Option (Int32 × (Nat → Int32)) :=
  ox_gd a1 6 (
  if (f_times a1.toNatClampNeg) < a2 then
    ox_gd a1 6 (
    some (1, (upd f_times a1.toNatClampNeg a2)))
  else
    some (0, f_times))

def st_MD_raiseAll (v_tanks : Int32) (f_order : Nat → Int32) (f_loaded : Nat → Int32) (f_empty : Nat → Int32) (f_places : Nat → Int32) (f_low : Nat → Int32) (f_high : Nat → Int32) (rec : Nat → Int32 → Int32 → Int32 → (Nat → Int32) → Option (Int32 × (Nat → Int32))) (lbl : Nat) (i1 : Int32) (i2 : Int32) (i3 : Int32) (f_times : Nat → Int32) : Option (Int32 × (Nat → Int32)) :=
  match lbl with
  | 0 =>
    if v_tanks ≤ i3 then
      rec 1 i1 i2 1 f_times
    else
      ox_gd (i3 + 1) 6 (
      ox_gd i3 6 (
      ox_gd (f_order i3.toNatClampNeg) 6 (
      ox_gd i3 6 (
      ox_gd (i3 + 1) 6 (
      ox_cl (fn_MD_behind (f_order i3.toNatClampNeg) (f_order (i3 + 1).toNatClampNeg) f_loaded f_empty) fun r2 =>
      ox_cl (fn_MD_raise (f_order (i3 + 1).toNatClampNeg) ((f_times (f_order i3.toNatClampNeg).toNatClampNeg) + r2) f_times) fun (r3, s3_f_times) =>
      if ¬ r3 = 0 then
        rec 0 i1 1 (i3 + 1) s3_f_times
      else
        if i2 = 0 then
          rec 0 i1 0 (i3 + 1) s3_f_times
        else
          rec 0 i1 1 (i3 + 1) s3_f_times)))))
  | _ =>
    if v_tanks < i3 then
      ox_bg i2 (
      some (i2, f_times))
    else
      ox_gd i3 6 (
      ox_gd (i3 - 1) 6 (
      if (f_places (i3 - 1).toNatClampNeg) ≤ (f_places i3.toNatClampNeg) then
        ox_gd (i3 - 1) 6 (
        ox_gd (i3 - 1) 6 (
        ox_gd i3 6 (
        ox_cl (fn_MD_raise i3 ((((f_times (i3 - 1).toNatClampNeg) + (f_loaded (i3 - 1).toNatClampNeg)) + (f_low i3.toNatClampNeg)) - 0) f_times) fun (r8, s8_f_times) =>
        if ¬ r8 = 0 then
          ox_gd i3 6 (
          ox_gd (i3 - 1) 6 (
          ox_gd i3 6 (
          ox_cl (fn_MD_raise (i3 - 1) ((((s8_f_times i3.toNatClampNeg) + 0) - (f_loaded (i3 - 1).toNatClampNeg)) - (f_high i3.toNatClampNeg)) s8_f_times) fun (r10, s10_f_times) =>
          if ¬ r10 = 0 then
            rec 1 i1 1 (i3 + 1) s10_f_times
          else
            rec 1 i1 1 (i3 + 1) s10_f_times)))
        else
          if i2 = 0 then
            ox_gd i3 6 (
            ox_gd (i3 - 1) 6 (
            ox_gd i3 6 (
            ox_cl (fn_MD_raise (i3 - 1) ((((s8_f_times i3.toNatClampNeg) + 0) - (f_loaded (i3 - 1).toNatClampNeg)) - (f_high i3.toNatClampNeg)) s8_f_times) fun (r13, s13_f_times) =>
            if ¬ r13 = 0 then
              rec 1 i1 1 (i3 + 1) s13_f_times
            else
              rec 1 i1 0 (i3 + 1) s13_f_times)))
          else
            ox_gd i3 6 (
            ox_gd (i3 - 1) 6 (
            ox_gd i3 6 (
            ox_cl (fn_MD_raise (i3 - 1) ((((s8_f_times i3.toNatClampNeg) + 0) - (f_loaded (i3 - 1).toNatClampNeg)) - (f_high i3.toNatClampNeg)) s8_f_times) fun (r15, s15_f_times) =>
            if ¬ r15 = 0 then
              rec 1 i1 1 (i3 + 1) s15_f_times
            else
              rec 1 i1 1 (i3 + 1) s15_f_times))))))
      else
        ox_gd (i3 - 1) 6 (
        ox_gd (i3 - 1) 6 (
        ox_gd i3 6 (
        ox_cl (fn_MD_raise i3 ((((f_times (i3 - 1).toNatClampNeg) + (f_loaded (i3 - 1).toNatClampNeg)) + (f_low i3.toNatClampNeg)) - i1) f_times) fun (r17, s17_f_times) =>
        if ¬ r17 = 0 then
          ox_gd i3 6 (
          ox_gd (i3 - 1) 6 (
          ox_gd i3 6 (
          ox_cl (fn_MD_raise (i3 - 1) ((((s17_f_times i3.toNatClampNeg) + i1) - (f_loaded (i3 - 1).toNatClampNeg)) - (f_high i3.toNatClampNeg)) s17_f_times) fun (r19, s19_f_times) =>
          if ¬ r19 = 0 then
            rec 1 i1 1 (i3 + 1) s19_f_times
          else
            rec 1 i1 1 (i3 + 1) s19_f_times)))
        else
          if i2 = 0 then
            ox_gd i3 6 (
            ox_gd (i3 - 1) 6 (
            ox_gd i3 6 (
            ox_cl (fn_MD_raise (i3 - 1) ((((s17_f_times i3.toNatClampNeg) + i1) - (f_loaded (i3 - 1).toNatClampNeg)) - (f_high i3.toNatClampNeg)) s17_f_times) fun (r22, s22_f_times) =>
            if ¬ r22 = 0 then
              rec 1 i1 1 (i3 + 1) s22_f_times
            else
              rec 1 i1 0 (i3 + 1) s22_f_times)))
          else
            ox_gd i3 6 (
            ox_gd (i3 - 1) 6 (
            ox_gd i3 6 (
            ox_cl (fn_MD_raise (i3 - 1) ((((s17_f_times i3.toNatClampNeg) + i1) - (f_loaded (i3 - 1).toNatClampNeg)) - (f_high i3.toNatClampNeg)) s17_f_times) fun (r24, s24_f_times) =>
            if ¬ r24 = 0 then
              rec 1 i1 1 (i3 + 1) s24_f_times
            else
              rec 1 i1 1 (i3 + 1) s24_f_times))))))))
def lp_MD_raiseAll (v_tanks : Int32) (f_order : Nat → Int32) (f_loaded : Nat → Int32) (f_empty : Nat → Int32) (f_places : Nat → Int32) (f_low : Nat → Int32) (f_high : Nat → Int32) : Nat → Nat → Int32 → Int32 → Int32 → (Nat → Int32) → Option (Int32 × (Nat → Int32))
  | 0 => fun _ _ _ _ _ => none
  | fu+1 => st_MD_raiseAll v_tanks f_order f_loaded f_empty f_places f_low f_high (lp_MD_raiseAll v_tanks f_order f_loaded f_empty f_places f_low f_high fu)
def fn_MD_raiseAll (z : Nat) (a1 : Int32) (v_tanks : Int32) (f_order : Nat → Int32) (f_times : Nat → Int32) (f_loaded : Nat → Int32) (f_empty : Nat → Int32) (f_places : Nat → Int32) (f_low : Nat → Int32) (f_high : Nat → Int32) : Option (Int32 × (Nat → Int32)) :=
  lp_MD_raiseAll v_tanks f_order f_loaded f_empty f_places f_low f_high z 0 a1 0 0 f_times

def st_MD_fits (z : Nat) (v_tanks : Int32) (f_order : Nat → Int32) (f_loaded : Nat → Int32) (f_empty : Nat → Int32) (f_places : Nat → Int32) (f_low : Nat → Int32) (f_high : Nat → Int32) (rec : Nat → Int32 → Int32 → Int32 → Int32 → (Nat → Int32) → Option (Int32 × (Nat → Int32))) (lbl : Nat) (i1 : Int32) (i2 : Int32) (i3 : Int32) (i4 : Int32) (f_times : Nat → Int32) : Option (Int32 × (Nat → Int32)) :=
  match lbl with
  | 0 =>
    if v_tanks < i2 then
      rec 1 i1 0 0 0 f_times
    else
      ox_gd i2 6 (
      rec 0 i1 (i2 + 1) 0 0 (upd f_times i2.toNatClampNeg 0))
  | 1 =>
    if 9 ≤ i2 then
      rec 2 i1 i2 0 0 f_times
    else
      ox_cl (fn_MD_raiseAll z i1 v_tanks f_order f_times f_loaded f_empty f_places f_low f_high) fun (r3, s3_f_times) =>
      if r3 = 0 then
        if ¬ (s3_f_times 0) = 0 then
          rec 2 i1 i2 0 0 s3_f_times
        else
          ox_gd v_tanks 6 (
          ox_gd (f_order v_tanks.toNatClampNeg) 6 (
          ox_gd v_tanks 6 (
          ox_cl (fn_MD_behind (f_order v_tanks.toNatClampNeg) 0 f_loaded f_empty) fun r6 =>
          if i1 < ((s3_f_times (f_order v_tanks.toNatClampNeg).toNatClampNeg) + r6) then
            rec 2 i1 i2 0 0 s3_f_times
          else
            rec 2 i1 i2 1 0 s3_f_times)))
      else
        rec 1 i1 (i2 + 1) 0 0 s3_f_times
  | _ =>
    if v_tanks < i4 then
      ox_bg i3 (
      some (i3, f_times))
    else
      if i3 = 0 then
        rec 2 i1 i2 0 (i4 + 1) f_times
      else
        ox_gd i4 6 (
        if i1 ≤ (f_times i4.toNatClampNeg) then
          rec 2 i1 i2 0 (i4 + 1) f_times
        else
          rec 2 i1 i2 1 (i4 + 1) f_times)
def lp_MD_fits (z : Nat) (v_tanks : Int32) (f_order : Nat → Int32) (f_loaded : Nat → Int32) (f_empty : Nat → Int32) (f_places : Nat → Int32) (f_low : Nat → Int32) (f_high : Nat → Int32) : Nat → Nat → Int32 → Int32 → Int32 → Int32 → (Nat → Int32) → Option (Int32 × (Nat → Int32))
  | 0 => fun _ _ _ _ _ _ => none
  | fu+1 => st_MD_fits z v_tanks f_order f_loaded f_empty f_places f_low f_high (lp_MD_fits z v_tanks f_order f_loaded f_empty f_places f_low f_high fu)
def fn_MD_fits (z : Nat) (a1 : Int32) (v_tanks : Int32) (f_times : Nat → Int32) (f_order : Nat → Int32) (f_loaded : Nat → Int32) (f_empty : Nat → Int32) (f_places : Nat → Int32) (f_low : Nat → Int32) (f_high : Nat → Int32) : Option (Int32 × (Nat → Int32)) :=
  lp_MD_fits z v_tanks f_order f_loaded f_empty f_places f_low f_high z 0 a1 0 0 0 f_times

def st_MD_seat (v_tanks : Int32) (f_order : Nat → Int32) (rec : Nat → Int32 → (Nat → Int32) → Option ((Nat → Int32))) (lbl : Nat) (i1 : Int32) (f_places : Nat → Int32) : Option ((Nat → Int32)) :=
  match lbl with
  | _ =>
    if v_tanks < i1 then
      some f_places
    else
      ox_gd i1 6 (
      ox_gd (f_order i1.toNatClampNeg) 6 (
      rec 0 (i1 + 1) (upd f_places (f_order i1.toNatClampNeg).toNatClampNeg i1)))
def lp_MD_seat (v_tanks : Int32) (f_order : Nat → Int32) : Nat → Nat → Int32 → (Nat → Int32) → Option ((Nat → Int32))
  | 0 => fun _ _ _ => none
  | fu+1 => st_MD_seat v_tanks f_order (lp_MD_seat v_tanks f_order fu)
def fn_MD_seat (z : Nat) (v_tanks : Int32) (f_order : Nat → Int32) (f_places : Nat → Int32) : Option ((Nat → Int32)) :=
  lp_MD_seat v_tanks f_order z 0 0 f_places

def st_MD_leastOf (z : Nat) (v_tanks : Int32) (f_order : Nat → Int32) (f_loaded : Nat → Int32) (f_empty : Nat → Int32) (f_low : Nat → Int32) (f_high : Nat → Int32) (rec : Nat → Int32 → Int32 → Int32 → (Nat → Int32) → (Nat → Int32) → Option (Int32 × (Nat → Int32) × (Nat → Int32))) (lbl : Nat) (i1 : Int32) (i2 : Int32) (i3 : Int32) (f_places : Nat → Int32) (f_times : Nat → Int32) : Option (Int32 × (Nat → Int32) × (Nat → Int32)) :=
  match lbl with
  | 0 =>
    if v_tanks < i3 then
      if 1 ≤ i2 then
        rec 1 i1 i2 i2 f_places f_times
      else
        rec 1 i1 i2 1 f_places f_times
    else
      ox_gd i3 6 (
      if ¬ i3 = v_tanks then
        ox_gd (i3 + 1) 6 (
        ox_cl (fn_MD_behind (f_order i3.toNatClampNeg) (f_order (i3 + 1).toNatClampNeg) f_loaded f_empty) fun r5 =>
        rec 0 i1 (i2 + r5) (i3 + 1) f_places f_times)
      else
        ox_cl (fn_MD_behind (f_order i3.toNatClampNeg) 0 f_loaded f_empty) fun r6 =>
        rec 0 i1 (i2 + r6) (i3 + 1) f_places f_times)
  | _ =>
    if i1 < i3 then
      some ((-1), f_places, f_times)
    else
      ox_cl (fn_MD_fits z i3 v_tanks f_times f_order f_loaded f_empty f_places f_low f_high) fun (r8, s8_f_times) =>
      if r8 = 0 then
        rec 1 i1 i2 (i3 + 1) f_places s8_f_times
      else
        some (i3, f_places, s8_f_times)
def lp_MD_leastOf (z : Nat) (v_tanks : Int32) (f_order : Nat → Int32) (f_loaded : Nat → Int32) (f_empty : Nat → Int32) (f_low : Nat → Int32) (f_high : Nat → Int32) : Nat → Nat → Int32 → Int32 → Int32 → (Nat → Int32) → (Nat → Int32) → Option (Int32 × (Nat → Int32) × (Nat → Int32))
  | 0 => fun _ _ _ _ _ _ => none
  | fu+1 => st_MD_leastOf z v_tanks f_order f_loaded f_empty f_low f_high (lp_MD_leastOf z v_tanks f_order f_loaded f_empty f_low f_high fu)
def fn_MD_leastOf (z : Nat) (a1 : Int32) (v_tanks : Int32) (f_order : Nat → Int32) (f_places : Nat → Int32) (f_loaded : Nat → Int32) (f_empty : Nat → Int32) (f_times : Nat → Int32) (f_low : Nat → Int32) (f_high : Nat → Int32) : Option (Int32 × (Nat → Int32) × (Nat → Int32)) :=
  ox_cl (fn_MD_seat z v_tanks f_order f_places) fun s1_f_places =>
  lp_MD_leastOf z v_tanks f_order f_loaded f_empty f_low f_high z 0 a1 0 0 s1_f_places f_times

def st_MD_isOrder (v_tanks : Int32) (f_order : Nat → Int32) (rec : Nat → Int32 → Int32 → Int32 → Option (Int32)) (lbl : Nat) (i1 : Int32) (i2 : Int32) (i3 : Int32) : Option (Int32) :=
  match lbl with
  | 0 =>
    if v_tanks < i2 then
      ox_bg i1 (
      some i1)
    else
      if i1 = 0 then
        rec 1 0 i2 1
      else
        ox_gd i2 6 (
        ox_cl (fn_MD_in (f_order i2.toNatClampNeg) 1 v_tanks) fun r4 =>
        if r4 = 0 then
          rec 1 0 i2 1
        else
          rec 1 1 i2 1)
  | _ =>
    if i2 ≤ i3 then
      rec 0 i1 (i2 + 1) 0
    else
      if i1 = 0 then
        rec 1 0 i2 (i3 + 1)
      else
        ox_gd i3 6 (
        ox_gd i2 6 (
        if (f_order i3.toNatClampNeg) = (f_order i2.toNatClampNeg) then
          rec 1 0 i2 (i3 + 1)
        else
          rec 1 1 i2 (i3 + 1)))
def lp_MD_isOrder (v_tanks : Int32) (f_order : Nat → Int32) : Nat → Nat → Int32 → Int32 → Int32 → Option (Int32)
  | 0 => fun _ _ _ _ => none
  | fu+1 => st_MD_isOrder v_tanks f_order (lp_MD_isOrder v_tanks f_order fu)
def fn_MD_isOrder (z : Nat) (v_tanks : Int32) (f_order : Nat → Int32) : Option (Int32) :=
  if ¬ (f_order 0) = 0 then
    lp_MD_isOrder v_tanks f_order z 0 0 1 0
  else
    lp_MD_isOrder v_tanks f_order z 0 1 1 0

def st_MD_takeOrder (z : Nat) (v_tanks : Int32) (rec : Nat → Int32 → Int32 → Int32 → (Nat → Int32) → Option (Int32 × (Nat → Int32))) (lbl : Nat) (i1 : Int32) (i2 : Int32) (i3 : Int32) (f_order : Nat → Int32) : Option (Int32 × (Nat → Int32)) :=
  match lbl with
  | _ =>
    if i3 ≤ 0 then
      if i1 ≤ 0 then
        some (0, f_order)
      else
        if ¬ i2 = 0 then
          some (0, f_order)
        else
          ox_cl (fn_MD_isOrder z v_tanks f_order) fun r4 =>
          if r4 = 0 then
            some (0, f_order)
          else
            some (1, f_order)
    else
      ox_gd i3 6 (
      rec 0 i1 (i2 / 10) (i3 + (-1)) (upd f_order i3.toNatClampNeg (i2 - i2 / 10 * 10)))
def lp_MD_takeOrder (z : Nat) (v_tanks : Int32) : Nat → Nat → Int32 → Int32 → Int32 → (Nat → Int32) → Option (Int32 × (Nat → Int32))
  | 0 => fun _ _ _ _ _ => none
  | fu+1 => st_MD_takeOrder z v_tanks (lp_MD_takeOrder z v_tanks fu)
def fn_MD_takeOrder (z : Nat) (a1 : Int32) (v_tanks : Int32) (f_order : Nat → Int32) : Option (Int32 × (Nat → Int32)) :=
  lp_MD_takeOrder z v_tanks z 0 a1 a1 v_tanks (upd f_order 0 0)

def fn_MD_least (z : Nat) (a1 : Int32) (v_thrown : Int32) (v_tanks : Int32) (f_empty : Nat → Int32) (f_loaded : Nat → Int32) (f_order : Nat → Int32) (f_places : Nat → Int32) (f_times : Nat → Int32) (f_low : Nat → Int32) (f_high : Nat → Int32) : Option (Int32 × Int32 × (Nat → Int32) × (Nat → Int32) × (Nat → Int32)) :=
  ox_cl (fn_MD_readiness z v_tanks f_empty f_loaded) fun r1 =>
  if ¬ r1 = 0 then
    ox_cl (fn_MD_refuse 1 0 v_thrown) fun (r3, s3_v_thrown) =>
    if r3 = 0 then
      ox_cl (fn_MD_leastOf z 2000 v_tanks f_order f_places f_loaded f_empty f_times f_low f_high) fun (r5, s5_f_places, s5_f_times) =>
      some (r5, s3_v_thrown, f_order, s5_f_places, s5_f_times)
    else
      some (0, s3_v_thrown, f_order, f_places, f_times)
  else
    ox_cl (fn_MD_takeOrder z a1 v_tanks f_order) fun (r6, s6_f_order) =>
    if ¬ r6 = 0 then
      ox_cl (fn_MD_refuse 0 0 v_thrown) fun (r8, s8_v_thrown) =>
      if r8 = 0 then
        ox_cl (fn_MD_leastOf z 2000 v_tanks s6_f_order f_places f_loaded f_empty f_times f_low f_high) fun (r10, s10_f_places, s10_f_times) =>
        some (r10, s8_v_thrown, s6_f_order, s10_f_places, s10_f_times)
      else
        some (0, s8_v_thrown, s6_f_order, f_places, f_times)
    else
      ox_cl (fn_MD_refuse 0 1 v_thrown) fun (r11, s11_v_thrown) =>
      if r11 = 0 then
        ox_cl (fn_MD_leastOf z 2000 v_tanks s6_f_order f_places f_loaded f_empty f_times f_low f_high) fun (r13, s13_f_places, s13_f_times) =>
        some (r13, s11_v_thrown, s6_f_order, s13_f_places, s13_f_times)
      else
        some (0, s11_v_thrown, s6_f_order, f_places, f_times)

def st_MD_keep (v_tanks : Int32) (f_order : Nat → Int32) (f_times : Nat → Int32) (rec : Nat → Int32 → Int32 → Int32 → Int32 → (Nat → Int32) → (Nat → Int32) → Option (Int32 × Int32 × (Nat → Int32) × (Nat → Int32))) (lbl : Nat) (i1 : Int32) (i2 : Int32) (v_hasPlan : Int32) (v_cycle : Int32) (f_planOrder : Nat → Int32) (f_planTimes : Nat → Int32) : Option (Int32 × Int32 × (Nat → Int32) × (Nat → Int32)) :=
  match lbl with
  | _ =>
    if v_tanks < i2 then
      some (v_hasPlan, v_cycle, f_planOrder, f_planTimes)
    else
      ox_gd i2 6 (
      ox_gd i2 6 (
      ox_gd i2 6 (
      ox_gd i2 6 (
      rec 0 i1 (i2 + 1) v_hasPlan v_cycle (upd f_planOrder i2.toNatClampNeg (f_order i2.toNatClampNeg)) (upd f_planTimes i2.toNatClampNeg (f_times i2.toNatClampNeg))))))
def lp_MD_keep (v_tanks : Int32) (f_order : Nat → Int32) (f_times : Nat → Int32) : Nat → Nat → Int32 → Int32 → Int32 → Int32 → (Nat → Int32) → (Nat → Int32) → Option (Int32 × Int32 × (Nat → Int32) × (Nat → Int32))
  | 0 => fun _ _ _ _ _ _ _ => none
  | fu+1 => st_MD_keep v_tanks f_order f_times (lp_MD_keep v_tanks f_order f_times fu)
def fn_MD_keep (z : Nat) (a1 : Int32) (v_tanks : Int32) (v_hasPlan : Int32) (v_cycle : Int32) (f_order : Nat → Int32) (f_planOrder : Nat → Int32) (f_times : Nat → Int32) (f_planTimes : Nat → Int32) : Option (Int32 × Int32 × (Nat → Int32) × (Nat → Int32)) :=
  lp_MD_keep v_tanks f_order f_times z 0 a1 0 1 a1 f_planOrder f_planTimes

def st_MD_emptyLine (rec : Nat → Int32 → Int32 → Int32 → Int32 → Int32 → Int32 → Int32 → Int32 → (Nat → Int32) → Option (Int32 × Int32 × Int32 × Int32 × Int32 × Int32 × Int32 × (Nat → Int32))) (lbl : Nat) (i1 : Int32) (v_second : Int32) (v_entered : Int32) (v_done : Int32) (v_took : Int32) (v_stopped : Int32) (v_move : Int32) (v_onHoist : Int32) (f_carriers : Nat → Int32) : Option (Int32 × Int32 × Int32 × Int32 × Int32 × Int32 × Int32 × (Nat → Int32)) :=
  match lbl with
  | _ =>
    if 7 ≤ i1 then
      some (v_second, v_entered, v_done, v_took, v_stopped, v_move, v_onHoist, f_carriers)
    else
      ox_gd i1 7 (
      rec 0 (i1 + 1) v_second v_entered v_done v_took v_stopped v_move v_onHoist (upd f_carriers i1.toNatClampNeg 0))
def lp_MD_emptyLine : Nat → Nat → Int32 → Int32 → Int32 → Int32 → Int32 → Int32 → Int32 → Int32 → (Nat → Int32) → Option (Int32 × Int32 × Int32 × Int32 × Int32 × Int32 × Int32 × (Nat → Int32))
  | 0 => fun _ _ _ _ _ _ _ _ _ _ => none
  | fu+1 => st_MD_emptyLine (lp_MD_emptyLine fu)
def fn_MD_emptyLine (z : Nat) (v_second : Int32) (v_entered : Int32) (v_done : Int32) (v_took : Int32) (v_stopped : Int32) (v_move : Int32) (v_onHoist : Int32) (f_carriers : Nat → Int32) : Option (Int32 × Int32 × Int32 × Int32 × Int32 × Int32 × Int32 × (Nat → Int32)) :=
  lp_MD_emptyLine z 0 0 0 0 0 0 0 (-1) 0 f_carriers

def st_MD_solve (z : Nat) (v_tanks : Int32) (f_empty : Nat → Int32) (f_loaded : Nat → Int32) (f_low : Nat → Int32) (f_high : Nat → Int32) (rec : Nat → Int32 → Int32 → Int32 → Int32 → Int32 → Int32 → Int32 → Int32 → Int32 → Int32 → Int32 → Int32 → Int32 → (Nat → Int32) → (Nat → Int32) → (Nat → Int32) → (Nat → Int32) → (Nat → Int32) → (Nat → Int32) → Option (Int32 × Int32 × Int32 × Int32 × Int32 × Int32 × Int32 × Int32 × Int32 × Int32 × Int32 × (Nat → Int32) × (Nat → Int32) × (Nat → Int32) × (Nat → Int32) × (Nat → Int32) × (Nat → Int32))) (lbl : Nat) (i1 : Int32) (i2 : Int32) (i3 : Int32) (v_thrown : Int32) (v_hasPlan : Int32) (v_cycle : Int32) (v_second : Int32) (v_entered : Int32) (v_done : Int32) (v_took : Int32) (v_stopped : Int32) (v_move : Int32) (v_onHoist : Int32) (f_carriers : Nat → Int32) (f_order : Nat → Int32) (f_places : Nat → Int32) (f_times : Nat → Int32) (f_planOrder : Nat → Int32) (f_planTimes : Nat → Int32) : Option (Int32 × Int32 × Int32 × Int32 × Int32 × Int32 × Int32 × Int32 × Int32 × Int32 × Int32 × (Nat → Int32) × (Nat → Int32) × (Nat → Int32) × (Nat → Int32) × (Nat → Int32) × (Nat → Int32)) :=
  match lbl with
  | 0 =>
    if v_tanks ≤ i3 then
      rec 1 i1 i2 (i2 / 10) v_thrown v_hasPlan v_cycle v_second v_entered v_done v_took v_stopped v_move v_onHoist f_carriers f_order f_places f_times f_planOrder f_planTimes
    else
      rec 0 i1 (10 * i2) (i3 + 1) v_thrown v_hasPlan v_cycle v_second v_entered v_done v_took v_stopped v_move v_onHoist f_carriers f_order f_places f_times f_planOrder f_planTimes
  | _ =>
    if i2 ≤ i3 then
      ox_cl (fn_MD_emptyLine z v_second v_entered v_done v_took v_stopped v_move v_onHoist f_carriers) fun (s9_v_second, s9_v_entered, s9_v_done, s9_v_took, s9_v_stopped, s9_v_move, s9_v_onHoist, s9_f_carriers) =>
      if v_hasPlan = 0 then
        some ((-1), v_thrown, v_hasPlan, v_cycle, s9_v_second, s9_v_entered, s9_v_done, s9_v_took, s9_v_stopped, s9_v_move, s9_v_onHoist, s9_f_carriers, f_order, f_places, f_times, f_planOrder, f_planTimes)
      else
        some (i1, v_thrown, v_hasPlan, v_cycle, s9_v_second, s9_v_entered, s9_v_done, s9_v_took, s9_v_stopped, s9_v_move, s9_v_onHoist, s9_f_carriers, f_order, f_places, f_times, f_planOrder, f_planTimes)
    else
      ox_cl (fn_MD_takeOrder z i3 v_tanks f_order) fun (r11, s11_f_order) =>
      if ¬ r11 = 0 then
        ox_cl (fn_MD_leastOf z (i1 - 1) v_tanks s11_f_order f_places f_loaded f_empty f_times f_low f_high) fun (r13, s13_f_places, s13_f_times) =>
        if r13 ≤ 0 then
          rec 1 i1 i2 (i3 + 1) v_thrown v_hasPlan v_cycle v_second v_entered v_done v_took v_stopped v_move v_onHoist f_carriers s11_f_order s13_f_places s13_f_times f_planOrder f_planTimes
        else
          ox_cl (fn_MD_keep z r13 v_tanks v_hasPlan v_cycle s11_f_order f_planOrder s13_f_times f_planTimes) fun (s15_v_hasPlan, s15_v_cycle, s15_f_planOrder, s15_f_planTimes) =>
          rec 1 r13 i2 (i3 + 1) v_thrown s15_v_hasPlan s15_v_cycle v_second v_entered v_done v_took v_stopped v_move v_onHoist f_carriers s11_f_order s13_f_places s13_f_times s15_f_planOrder s15_f_planTimes
      else
        rec 1 i1 i2 (i3 + 1) v_thrown v_hasPlan v_cycle v_second v_entered v_done v_took v_stopped v_move v_onHoist f_carriers s11_f_order f_places f_times f_planOrder f_planTimes
def lp_MD_solve (z : Nat) (v_tanks : Int32) (f_empty : Nat → Int32) (f_loaded : Nat → Int32) (f_low : Nat → Int32) (f_high : Nat → Int32) : Nat → Nat → Int32 → Int32 → Int32 → Int32 → Int32 → Int32 → Int32 → Int32 → Int32 → Int32 → Int32 → Int32 → Int32 → (Nat → Int32) → (Nat → Int32) → (Nat → Int32) → (Nat → Int32) → (Nat → Int32) → (Nat → Int32) → Option (Int32 × Int32 × Int32 × Int32 × Int32 × Int32 × Int32 × Int32 × Int32 × Int32 × Int32 × (Nat → Int32) × (Nat → Int32) × (Nat → Int32) × (Nat → Int32) × (Nat → Int32) × (Nat → Int32))
  | 0 => fun _ _ _ _ _ _ _ _ _ _ _ _ _ _ _ _ _ _ _ _ => none
  | fu+1 => st_MD_solve z v_tanks f_empty f_loaded f_low f_high (lp_MD_solve z v_tanks f_empty f_loaded f_low f_high fu)
def fn_MD_solve (z : Nat) (v_thrown : Int32) (v_tanks : Int32) (v_hasPlan : Int32) (v_cycle : Int32) (v_second : Int32) (v_entered : Int32) (v_done : Int32) (v_took : Int32) (v_stopped : Int32) (v_move : Int32) (v_onHoist : Int32) (f_empty : Nat → Int32) (f_loaded : Nat → Int32) (f_carriers : Nat → Int32) (f_order : Nat → Int32) (f_places : Nat → Int32) (f_times : Nat → Int32) (f_low : Nat → Int32) (f_high : Nat → Int32) (f_planOrder : Nat → Int32) (f_planTimes : Nat → Int32) : Option (Int32 × Int32 × Int32 × Int32 × Int32 × Int32 × Int32 × Int32 × Int32 × Int32 × Int32 × (Nat → Int32) × (Nat → Int32) × (Nat → Int32) × (Nat → Int32) × (Nat → Int32) × (Nat → Int32)) :=
  ox_cl (fn_MD_readiness z v_tanks f_empty f_loaded) fun r1 =>
  if r1 = 0 then
    ox_cl (fn_MD_refuse 0 0 v_thrown) fun (r3, s3_v_thrown) =>
    if r3 = 0 then
      lp_MD_solve z v_tanks f_empty f_loaded f_low f_high z 0 2001 1 0 s3_v_thrown 0 v_cycle v_second v_entered v_done v_took v_stopped v_move v_onHoist f_carriers f_order f_places f_times f_planOrder f_planTimes
    else
      some (0, s3_v_thrown, v_hasPlan, v_cycle, v_second, v_entered, v_done, v_took, v_stopped, v_move, v_onHoist, f_carriers, f_order, f_places, f_times, f_planOrder, f_planTimes)
  else
    ox_cl (fn_MD_refuse 1 0 v_thrown) fun (r5, s5_v_thrown) =>
    if r5 = 0 then
      lp_MD_solve z v_tanks f_empty f_loaded f_low f_high z 0 2001 1 0 s5_v_thrown 0 v_cycle v_second v_entered v_done v_took v_stopped v_move v_onHoist f_carriers f_order f_places f_times f_planOrder f_planTimes
    else
      some (0, s5_v_thrown, v_hasPlan, v_cycle, v_second, v_entered, v_done, v_took, v_stopped, v_move, v_onHoist, f_carriers, f_order, f_places, f_times, f_planOrder, f_planTimes)

def st_MD_soakOf (v_tanks : Int32) (v_cycle : Int32) (f_planTimes : Nat → Int32) (f_loaded : Nat → Int32) (f_planOrder : Nat → Int32) (rec : Nat → Int32 → Int32 → Int32 → Option (Int32)) (lbl : Nat) (i1 : Int32) (i2 : Int32) (i3 : Int32) : Option (Int32) :=
  match lbl with
  | _ =>
    if v_tanks < i3 then
      ox_gd i1 6 (
      ox_gd (i1 - 1) 6 (
      ox_gd (i1 - 1) 6 (
      if i2 = 0 then
        some ((((f_planTimes i1.toNatClampNeg) - (f_planTimes (i1 - 1).toNatClampNeg)) - (f_loaded (i1 - 1).toNatClampNeg)) + 0)
      else
        some ((((f_planTimes i1.toNatClampNeg) - (f_planTimes (i1 - 1).toNatClampNeg)) - (f_loaded (i1 - 1).toNatClampNeg)) + v_cycle))))
    else
      ox_gd i3 6 (
      if ¬ (f_planOrder i3.toNatClampNeg) = (i1 - 1) then
        if ¬ i2 = 0 then
          rec 0 i1 1 (i3 + 1)
        else
          ox_gd i3 6 (
          if ¬ (f_planOrder i3.toNatClampNeg) = i1 then
            rec 0 i1 0 (i3 + 1)
          else
            rec 0 i1 1 (i3 + 1))
      else
        ox_gd i1 6 (
        ox_gd (i1 - 1) 6 (
        ox_gd (i1 - 1) 6 (
        if i2 = 0 then
          some ((((f_planTimes i1.toNatClampNeg) - (f_planTimes (i1 - 1).toNatClampNeg)) - (f_loaded (i1 - 1).toNatClampNeg)) + 0)
        else
          some ((((f_planTimes i1.toNatClampNeg) - (f_planTimes (i1 - 1).toNatClampNeg)) - (f_loaded (i1 - 1).toNatClampNeg)) + v_cycle)))))
def lp_MD_soakOf (v_tanks : Int32) (v_cycle : Int32) (f_planTimes : Nat → Int32) (f_loaded : Nat → Int32) (f_planOrder : Nat → Int32) : Nat → Nat → Int32 → Int32 → Int32 → Option (Int32)
  | 0 => fun _ _ _ _ => none
  | fu+1 => st_MD_soakOf v_tanks v_cycle f_planTimes f_loaded f_planOrder (lp_MD_soakOf v_tanks v_cycle f_planTimes f_loaded f_planOrder fu)
def fn_MD_soakOf (z : Nat) (a1 : Int32) (v_tanks : Int32) (v_cycle : Int32) (f_planTimes : Nat → Int32) (f_loaded : Nat → Int32) (f_planOrder : Nat → Int32) : Option (Int32) :=
  lp_MD_soakOf v_tanks v_cycle f_planTimes f_loaded f_planOrder z 0 a1 0 0

def st_MD_plan (z : Nat) (v_tanks : Int32) (v_hasPlan : Int32) (v_cycle : Int32) (f_planOrder : Nat → Int32) (f_planTimes : Nat → Int32) (f_loaded : Nat → Int32) (rec : Nat → Int32 → Int32 → Int32 → Int32 → Int32 → Int32 → Option (Int32 × Int32)) (lbl : Nat) (i1 : Int32) (i2 : Int32) (i3 : Int32) (i4 : Int32) (i5 : Int32) (v_thrown : Int32) : Option (Int32 × Int32) :=
  match lbl with
  | 0 =>
    if ¬ v_hasPlan = 0 then
      if ¬ i3 = 0 then
        ox_cl (fn_MD_refuse 0 0 v_thrown) fun (r11, s11_v_thrown) =>
        if r11 = 0 then
          rec 1 i1 i2 i3 0 0 s11_v_thrown
        else
          some (0, s11_v_thrown)
      else
        ox_cl (fn_MD_refuse 0 1 v_thrown) fun (r13, s13_v_thrown) =>
        if r13 = 0 then
          rec 1 i1 i2 i3 0 0 s13_v_thrown
        else
          some (0, s13_v_thrown)
    else
      ox_cl (fn_MD_refuse 1 0 v_thrown) fun (r15, s15_v_thrown) =>
      if r15 = 0 then
        rec 1 i1 i2 i3 0 0 s15_v_thrown
      else
        some (0, s15_v_thrown)
  | 1 =>
    if i2 = 0 then
      ox_gd i1 6 (
      some ((f_planOrder i1.toNatClampNeg), v_thrown))
    else
    if i2 = 1 then
      ox_gd i1 6 (
      some ((f_planTimes i1.toNatClampNeg), v_thrown))
    else
    if i2 = 2 then
      ox_cl (fn_MD_soakOf z i1 v_tanks v_cycle f_planTimes f_loaded f_planOrder) fun r17 =>
      some (r17, v_thrown)
    else
    if i2 = 3 then
      some (v_cycle, v_thrown)
    else
      rec 2 i1 i2 i3 0 1 v_thrown
  | _ =>
    if v_tanks < i5 then
      some (i4, v_thrown)
    else
      ox_gd i5 6 (
      rec 2 i1 i2 i3 ((10 * i4) + (f_planOrder i5.toNatClampNeg)) (i5 + 1) v_thrown)
def lp_MD_plan (z : Nat) (v_tanks : Int32) (v_hasPlan : Int32) (v_cycle : Int32) (f_planOrder : Nat → Int32) (f_planTimes : Nat → Int32) (f_loaded : Nat → Int32) : Nat → Nat → Int32 → Int32 → Int32 → Int32 → Int32 → Int32 → Option (Int32 × Int32)
  | 0 => fun _ _ _ _ _ _ _ => none
  | fu+1 => st_MD_plan z v_tanks v_hasPlan v_cycle f_planOrder f_planTimes f_loaded (lp_MD_plan z v_tanks v_hasPlan v_cycle f_planOrder f_planTimes f_loaded fu)
def fn_MD_plan (z : Nat) (a1 : Int32) (a2 : Int32) (v_thrown : Int32) (v_tanks : Int32) (v_hasPlan : Int32) (v_cycle : Int32) (f_planOrder : Nat → Int32) (f_planTimes : Nat → Int32) (f_loaded : Nat → Int32) : Option (Int32 × Int32) :=
  ox_cl (fn_MD_in a2 0 4) fun r1 =>
  if r1 = 0 then
    lp_MD_plan z v_tanks v_hasPlan v_cycle f_planOrder f_planTimes f_loaded z 0 a1 a2 0 0 0 v_thrown
  else
    if 2 < a2 then
      lp_MD_plan z v_tanks v_hasPlan v_cycle f_planOrder f_planTimes f_loaded z 0 a1 a2 1 0 0 v_thrown
    else
      if ¬ a2 = 2 then
        ox_cl (fn_MD_in a1 0 v_tanks) fun r5 =>
        if r5 = 0 then
          lp_MD_plan z v_tanks v_hasPlan v_cycle f_planOrder f_planTimes f_loaded z 0 a1 a2 0 0 0 v_thrown
        else
          lp_MD_plan z v_tanks v_hasPlan v_cycle f_planOrder f_planTimes f_loaded z 0 a1 a2 1 0 0 v_thrown
      else
        ox_cl (fn_MD_in a1 1 v_tanks) fun r7 =>
        if r7 = 0 then
          lp_MD_plan z v_tanks v_hasPlan v_cycle f_planOrder f_planTimes f_loaded z 0 a1 a2 0 0 0 v_thrown
        else
          lp_MD_plan z v_tanks v_hasPlan v_cycle f_planOrder f_planTimes f_loaded z 0 a1 a2 1 0 0 v_thrown

def fn_MD_endMove (v_tanks : Int32) (v_second : Int32) (v_done : Int32) (v_took : Int32) (v_move : Int32) (v_onHoist : Int32) (v_began : Int32) (f_carriers : Nat → Int32) (f_begins : Nat → Int32) : Option (Int32 × Int32 × Int32 × Int32 × (Nat → Int32) × (Nat → Int32)) :=
  if ¬ v_move = v_tanks then
    ox_gd (v_move + 1) 7 (
    ox_gd (v_move + 1) 7 (
    some (v_done, v_took, (-1), 0, (upd f_carriers (v_move + 1).toNatClampNeg v_onHoist), (upd f_begins (v_move + 1).toNatClampNeg v_began))))
  else
    some ((v_done + 1), (v_second - v_began), (-1), 0, f_carriers, f_begins)

def fn_MD_begin (a1 : Int32) (v_second : Int32) (v_entered : Int32) (v_stopped : Int32) (v_move : Int32) (v_ends : Int32) (v_onHoist : Int32) (v_began : Int32) (f_carriers : Nat → Int32) (f_begins : Nat → Int32) (f_loaded : Nat → Int32) : Option (Int32 × Int32 × Int32 × Int32 × Int32 × Int32 × (Nat → Int32)) :=
  if ¬ a1 = 0 then
    ox_gd a1 7 (
    if ¬ (f_carriers a1.toNatClampNeg) = 0 then
      ox_gd a1 7 (
      ox_gd a1 7 (
      ox_gd a1 7 (
      ox_gd a1 6 (
      some (1, v_entered, a1, (v_second + (f_loaded a1.toNatClampNeg)), (f_carriers a1.toNatClampNeg), (f_begins a1.toNatClampNeg), (upd f_carriers a1.toNatClampNeg 0))))))
    else
      some (0, v_entered, v_move, v_ends, v_onHoist, v_began, f_carriers))
  else
    if v_stopped = 0 then
      ox_gd a1 6 (
      some (1, (v_entered + 1), a1, (v_second + (f_loaded a1.toNatClampNeg)), (v_entered + 1), v_second, f_carriers))
    else
      some (0, v_entered, v_move, v_ends, v_onHoist, v_began, f_carriers)

def st_MD_run (v_tanks : Int32) (v_hasPlan : Int32) (v_cycle : Int32) (v_stopped : Int32) (f_planTimes : Nat → Int32) (f_loaded : Nat → Int32) (rec : Nat → Int32 → Int32 → Int32 → Int32 → Int32 → Int32 → Int32 → Int32 → Int32 → Int32 → Int32 → Int32 → Int32 → (Nat → Int32) → (Nat → Int32) → Option (Int32 × Int32 × Int32 × Int32 × Int32 × Int32 × Int32 × Int32 × Int32 × Int32 × (Nat → Int32) × (Nat → Int32))) (lbl : Nat) (i1 : Int32) (i2 : Int32) (i3 : Int32) (i4 : Int32) (v_thrown : Int32) (v_second : Int32) (v_entered : Int32) (v_done : Int32) (v_took : Int32) (v_move : Int32) (v_ends : Int32) (v_onHoist : Int32) (v_began : Int32) (f_carriers : Nat → Int32) (f_begins : Nat → Int32) : Option (Int32 × Int32 × Int32 × Int32 × Int32 × Int32 × Int32 × Int32 × Int32 × Int32 × (Nat → Int32) × (Nat → Int32)) :=
  match lbl with
  | 0 =>
    if i1 ≤ i3 then
      some (i2, v_thrown, v_second, v_entered, v_done, v_took, v_move, v_ends, v_onHoist, v_began, f_carriers, f_begins)
    else
      if v_move < 0 then
        rec 1 i1 i2 i3 0 v_thrown v_second v_entered v_done v_took v_move v_ends v_onHoist v_began f_carriers f_begins
      else
        if ¬ v_second = v_ends then
          rec 1 i1 i2 i3 0 v_thrown v_second v_entered v_done v_took v_move v_ends v_onHoist v_began f_carriers f_begins
        else
          ox_cl (fn_MD_endMove v_tanks v_second v_done v_took v_move v_onHoist v_began f_carriers f_begins) fun (s13_v_done, s13_v_took, s13_v_move, s13_v_onHoist, s13_f_carriers, s13_f_begins) =>
          rec 1 i1 i2 i3 0 v_thrown v_second v_entered s13_v_done s13_v_took s13_v_move v_ends s13_v_onHoist v_began s13_f_carriers s13_f_begins
  | _ =>
    if v_tanks < i4 then
      rec 0 i1 i2 (i3 + 1) 0 v_thrown (v_second + 1) v_entered v_done v_took v_move v_ends v_onHoist v_began f_carriers f_begins
    else
      ox_gd i4 6 (
      ox_nz v_cycle (
      if ¬ (f_planTimes i4.toNatClampNeg) = (v_second - v_second / v_cycle * v_cycle) then
        rec 1 i1 i2 i3 (i4 + 1) v_thrown v_second v_entered v_done v_took v_move v_ends v_onHoist v_began f_carriers f_begins
      else
        ox_cl (fn_MD_begin i4 v_second v_entered v_stopped v_move v_ends v_onHoist v_began f_carriers f_begins f_loaded) fun (r16, s16_v_entered, s16_v_move, s16_v_ends, s16_v_onHoist, s16_v_began, s16_f_carriers) =>
        if r16 = 0 then
          rec 1 i1 i2 i3 (i4 + 1) v_thrown v_second s16_v_entered v_done v_took s16_v_move s16_v_ends s16_v_onHoist s16_v_began s16_f_carriers f_begins
        else
          rec 1 i1 (i2 + 1) i3 (i4 + 1) v_thrown v_second s16_v_entered v_done v_took s16_v_move s16_v_ends s16_v_onHoist s16_v_began s16_f_carriers f_begins))
def lp_MD_run (v_tanks : Int32) (v_hasPlan : Int32) (v_cycle : Int32) (v_stopped : Int32) (f_planTimes : Nat → Int32) (f_loaded : Nat → Int32) : Nat → Nat → Int32 → Int32 → Int32 → Int32 → Int32 → Int32 → Int32 → Int32 → Int32 → Int32 → Int32 → Int32 → Int32 → (Nat → Int32) → (Nat → Int32) → Option (Int32 × Int32 × Int32 × Int32 × Int32 × Int32 × Int32 × Int32 × Int32 × Int32 × (Nat → Int32) × (Nat → Int32))
  | 0 => fun _ _ _ _ _ _ _ _ _ _ _ _ _ _ _ _ => none
  | fu+1 => st_MD_run v_tanks v_hasPlan v_cycle v_stopped f_planTimes f_loaded (lp_MD_run v_tanks v_hasPlan v_cycle v_stopped f_planTimes f_loaded fu)
def fn_MD_run (z : Nat) (a1 : Int32) (v_thrown : Int32) (v_tanks : Int32) (v_hasPlan : Int32) (v_cycle : Int32) (v_second : Int32) (v_entered : Int32) (v_done : Int32) (v_took : Int32) (v_stopped : Int32) (v_move : Int32) (v_ends : Int32) (v_onHoist : Int32) (v_began : Int32) (f_carriers : Nat → Int32) (f_begins : Nat → Int32) (f_planTimes : Nat → Int32) (f_loaded : Nat → Int32) : Option (Int32 × Int32 × Int32 × Int32 × Int32 × Int32 × Int32 × Int32 × Int32 × Int32 × (Nat → Int32) × (Nat → Int32)) :=
  if ¬ v_hasPlan = 0 then
    ox_cl (fn_MD_in a1 0 5000) fun r2 =>
    if ¬ r2 = 0 then
      ox_cl (fn_MD_refuse 0 0 v_thrown) fun (r4, s4_v_thrown) =>
      if r4 = 0 then
        lp_MD_run v_tanks v_hasPlan v_cycle v_stopped f_planTimes f_loaded z 0 a1 0 0 0 s4_v_thrown v_second v_entered v_done v_took v_move v_ends v_onHoist v_began f_carriers f_begins
      else
        some (0, s4_v_thrown, v_second, v_entered, v_done, v_took, v_move, v_ends, v_onHoist, v_began, f_carriers, f_begins)
    else
      ox_cl (fn_MD_refuse 0 1 v_thrown) fun (r6, s6_v_thrown) =>
      if r6 = 0 then
        lp_MD_run v_tanks v_hasPlan v_cycle v_stopped f_planTimes f_loaded z 0 a1 0 0 0 s6_v_thrown v_second v_entered v_done v_took v_move v_ends v_onHoist v_began f_carriers f_begins
      else
        some (0, s6_v_thrown, v_second, v_entered, v_done, v_took, v_move, v_ends, v_onHoist, v_began, f_carriers, f_begins)
  else
    ox_cl (fn_MD_refuse 1 0 v_thrown) fun (r8, s8_v_thrown) =>
    if r8 = 0 then
      lp_MD_run v_tanks v_hasPlan v_cycle v_stopped f_planTimes f_loaded z 0 a1 0 0 0 s8_v_thrown v_second v_entered v_done v_took v_move v_ends v_onHoist v_began f_carriers f_begins
    else
      some (0, s8_v_thrown, v_second, v_entered, v_done, v_took, v_move, v_ends, v_onHoist, v_began, f_carriers, f_begins)

def fn_MD_stop (a1 : Int32) (v_thrown : Int32) (v_hasPlan : Int32) (v_stopped : Int32) : Option (Int32 × Int32) :=
  if ¬ v_hasPlan = 0 then
    ox_cl (fn_MD_refuse 0 0 v_thrown) fun (r2, s2_v_thrown) =>
    if ¬ r2 = 0 then
      some (s2_v_thrown, v_stopped)
    else
      ox_bg a1 (
      some (s2_v_thrown, a1))
  else
    ox_cl (fn_MD_refuse 1 0 v_thrown) fun (r4, s4_v_thrown) =>
    if ¬ r4 = 0 then
      some (s4_v_thrown, v_stopped)
    else
      ox_bg a1 (
      some (s4_v_thrown, a1))

def fn_MD_tank (a1 : Int32) (v_thrown : Int32) (v_tanks : Int32) (v_hasPlan : Int32) (f_carriers : Nat → Int32) : Option (Int32 × Int32) :=
  if ¬ v_hasPlan = 0 then
    ox_cl (fn_MD_in a1 1 v_tanks) fun r2 =>
    if ¬ r2 = 0 then
      ox_cl (fn_MD_refuse 0 0 v_thrown) fun (r4, s4_v_thrown) =>
      if r4 = 0 then
        ox_gd a1 7 (
        some ((f_carriers a1.toNatClampNeg), s4_v_thrown))
      else
        some (0, s4_v_thrown)
    else
      ox_cl (fn_MD_refuse 0 1 v_thrown) fun (r6, s6_v_thrown) =>
      if r6 = 0 then
        ox_gd a1 7 (
        some ((f_carriers a1.toNatClampNeg), s6_v_thrown))
      else
        some (0, s6_v_thrown)
  else
    ox_cl (fn_MD_refuse 1 0 v_thrown) fun (r8, s8_v_thrown) =>
    if r8 = 0 then
      ox_gd a1 7 (
      some ((f_carriers a1.toNatClampNeg), s8_v_thrown))
    else
      some (0, s8_v_thrown)

def st_MD_state (v_tanks : Int32) (v_hasPlan : Int32) (v_second : Int32) (v_entered : Int32) (v_done : Int32) (v_took : Int32) (v_move : Int32) (v_onHoist : Int32) (f_carriers : Nat → Int32) (rec : Nat → Int32 → Int32 → Int32 → Int32 → Option (Int32 × Int32)) (lbl : Nat) (i1 : Int32) (i2 : Int32) (i3 : Int32) (v_thrown : Int32) : Option (Int32 × Int32) :=
  match lbl with
  | 0 =>
    if i1 = 0 then
      some (v_second, v_thrown)
    else
    if i1 = 1 then
      some (v_entered, v_thrown)
    else
    if i1 = 2 then
      some (v_done, v_thrown)
    else
    if i1 = 3 then
      some (v_onHoist, v_thrown)
    else
    if i1 = 4 then
      some (v_move, v_thrown)
    else
    if i1 = 5 then
      rec 1 i1 v_onHoist 1 v_thrown
    else
      some (v_took, v_thrown)
  | _ =>
    if v_tanks < i3 then
      if ¬ i2 = 0 then
        some (0, v_thrown)
      else
        some (1, v_thrown)
    else
      ox_gd i3 7 (
      if (f_carriers i3.toNatClampNeg) ≤ 0 then
        rec 1 i1 i2 (i3 + 1) v_thrown
      else
        rec 1 i1 1 (i3 + 1) v_thrown)
def lp_MD_state (v_tanks : Int32) (v_hasPlan : Int32) (v_second : Int32) (v_entered : Int32) (v_done : Int32) (v_took : Int32) (v_move : Int32) (v_onHoist : Int32) (f_carriers : Nat → Int32) : Nat → Nat → Int32 → Int32 → Int32 → Int32 → Option (Int32 × Int32)
  | 0 => fun _ _ _ _ _ => none
  | fu+1 => st_MD_state v_tanks v_hasPlan v_second v_entered v_done v_took v_move v_onHoist f_carriers (lp_MD_state v_tanks v_hasPlan v_second v_entered v_done v_took v_move v_onHoist f_carriers fu)
def fn_MD_state (z : Nat) (a1 : Int32) (v_thrown : Int32) (v_tanks : Int32) (v_hasPlan : Int32) (v_second : Int32) (v_entered : Int32) (v_done : Int32) (v_took : Int32) (v_move : Int32) (v_onHoist : Int32) (f_carriers : Nat → Int32) : Option (Int32 × Int32) :=
  if ¬ v_hasPlan = 0 then
    ox_cl (fn_MD_in a1 0 6) fun r2 =>
    if ¬ r2 = 0 then
      ox_cl (fn_MD_refuse 0 0 v_thrown) fun (r4, s4_v_thrown) =>
      if r4 = 0 then
        lp_MD_state v_tanks v_hasPlan v_second v_entered v_done v_took v_move v_onHoist f_carriers z 0 a1 0 0 s4_v_thrown
      else
        some (0, s4_v_thrown)
    else
      ox_cl (fn_MD_refuse 0 1 v_thrown) fun (r6, s6_v_thrown) =>
      if r6 = 0 then
        lp_MD_state v_tanks v_hasPlan v_second v_entered v_done v_took v_move v_onHoist f_carriers z 0 a1 0 0 s6_v_thrown
      else
        some (0, s6_v_thrown)
  else
    ox_cl (fn_MD_refuse 1 0 v_thrown) fun (r8, s8_v_thrown) =>
    if r8 = 0 then
      lp_MD_state v_tanks v_hasPlan v_second v_entered v_done v_took v_move v_onHoist f_carriers z 0 a1 0 0 s8_v_thrown
    else
      some (0, s8_v_thrown)
