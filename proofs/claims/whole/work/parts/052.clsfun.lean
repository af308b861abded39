/-! what the class does, method by method, as functions of its heap (laid by a program out of its bytecode) -/
noncomputable def fX2_init (o : Nat) (z : cS) : Option (Unit × cS × Nat × Nat) :=
    Option.bind (cna z 8 180) fun z8 =>
    ause 1 180 <|
    Option.bind (cpR z8 o 2 0 ((some z.2.2.2))) fun z10 =>
    some ((), z10, 0, 0)
noncomputable def fX6_write_b14 (z : cS) : Option (Unit × cS) :=
    some ((), z)
noncomputable def fX6_write (a0 : Option Nat) (a1 : Int32) (a2 : Int32) (z : cS) : Option (Unit × cS) :=
    if (a1) < 0 then
      fX6_write_b14  z
    else
      Option.bind a0 fun q6 =>
      Option.bind (clen z q6 8) fun x6 =>
      if (x6) ≤ (a1) then
        fX6_write_b14  z
      else
        Option.bind a0 fun q13 =>
        Option.bind (cstI z q13 a1 a2) fun z13 =>
        fX6_write_b14  z13
noncomputable def fX0_init_b41_body (o : Nat) (rec41 : Int32 → cS → Option (Unit × cS × Nat × Nat)) (l4 : Int32) (z : cS) : Option (Unit × cS × Nat × Nat) :=
    if (30) ≤ (l4) then
      some ((), z, 0, 0)
    else
      Option.bind (cgR z o 0 4) fun x49 =>
      Option.bind (fX6_write x49 l4 ((-1)) z) fun q55 =>
      rec41 (l4 + 1) (q55.2)
noncomputable def fX0_init_b41 (o : Nat) : Nat → Int32 → cS → Option (Unit × cS × Nat × Nat)
  | 0, _, _ => none
  | n + 1, l4, z => fX0_init_b41_body o (fX0_init_b41 o n) l4 z
noncomputable def fX0_init (o : Nat) (a0 : Int32) (a1 : Int32) (a2 : Int32) (z : cS) : Option (Unit × cS × Nat × Nat) :=
    Option.bind (cpI z o 0 0 a0) fun z6 =>
    Option.bind (cpI z6 o 0 1 a1) fun z11 =>
    Option.bind (cpZ z11 o 0 2 a2) fun z16 =>
    ause 1 4 <|
    (fun z20 : cS =>
    abind (fX2_init (z16.2.2.2)  z20) fun v24 z24 =>
    Option.bind (cpR z24 o 0 3 ((some z16.2.2.2))) fun z27 =>
    Option.bind (cna z27 8 30) fun z33 =>
    ause 1 30 <|
    Option.bind (cpR z33 o 0 4 ((some z27.2.2.2))) fun z35 =>
    fX0_init_b41 o rFuel 0 z35) (cnw z16 2 0)
noncomputable def fX6_read_b17 (s0 : Int32) (z : cS) : Option (Int32 × cS) :=
    some (s0, z)
noncomputable def fX6_read_b16 (z : cS) : Option (Int32 × cS) :=
    fX6_read_b17 ((-1)) z
noncomputable def fX6_read (a0 : Option Nat) (a1 : Int32) (z : cS) : Option (Int32 × cS) :=
    if (a1) < 0 then
      fX6_read_b16  z
    else
      Option.bind a0 fun q6 =>
      Option.bind (clen z q6 8) fun x6 =>
      if (x6) ≤ (a1) then
        fX6_read_b16  z
      else
        Option.bind a0 fun q12 =>
        Option.bind (cldI z q12 a1) fun x12 =>
        fX6_read_b17 x12 z
noncomputable def fX0_resultOf_b19 (o : Nat) (s0 : Int32) (z : cS) : Option (Int32 × cS) :=
    some (s0, z)
noncomputable def fX0_resultOf (o : Nat) (a0 : Int32) (z : cS) : Option (Int32 × cS) :=
    Option.bind (cgI z o 0 2) fun x1 =>
    if (x1) = 0 then
      fX0_resultOf_b19 o ((-1)) z
    else
      Option.bind (cgR z o 0 4) fun x8 =>
      Option.bind (fX6_read x8 a0 z) fun q12 =>
      fX0_resultOf_b19 o (q12.1) (q12.2)
noncomputable def fX0_note (o : Nat) (a0 : Int32) (a1 : Int32) (z : cS) : Option (Unit × cS) :=
    Option.bind (cgR z o 0 4) fun x1 =>
    Option.bind (fX6_write x1 a0 a1 z) fun q6 =>
    some ((), q6.2)
noncomputable def fX1_init (o : Nat) (a0 : Int32) (a1 : Int32) (z : cS) : Option (Unit × cS) :=
    Option.bind (cpI z o 1 0 a0) fun z6 =>
    Option.bind (cpI z6 o 1 1 a1) fun z11 =>
    some ((), z11)
noncomputable def fX2_get_b42 (o : Nat) (s0 : Int32) (z : cS) : Option (Int32 × cS) :=
    some (s0, z)
noncomputable def fX2_get_b41 (o : Nat) (z : cS) : Option (Int32 × cS) :=
    fX2_get_b42 o ((-1)) z
noncomputable def fX2_get (o : Nat) (a0 : Int32) (a1 : Int32) (z : cS) : Option (Int32 × cS) :=
    (fun v6 : Int32 =>
    if (a0) < 0 then
      fX2_get_b41 o  z
    else
      Option.bind (cgI z o 2 1) fun x13 =>
      if (x13) ≤ (a0) then
        fX2_get_b41 o  z
      else
        if (v6) < 0 then
          fX2_get_b41 o  z
        else
          Option.bind (cgR z o 2 0) fun x25 =>
          Option.bind x25 fun q28 =>
          Option.bind (clen z q28 8) fun x28 =>
          if (x28) ≤ (v6) then
            fX2_get_b41 o  z
          else
            Option.bind (cgR z o 2 0) fun x33 =>
            Option.bind x33 fun q37 =>
            Option.bind (cldI z q37 v6) fun x37 =>
            fX2_get_b42 o x37 z) ((a0 * 6) + a1)
noncomputable def fX2_set_b43 (o : Nat) (z : cS) : Option (Unit × cS) :=
    some ((), z)
noncomputable def fX2_set (o : Nat) (a0 : Int32) (a1 : Int32) (a2 : Int32) (z : cS) : Option (Unit × cS) :=
    (fun v6 : Int32 =>
    if (a0) < 0 then
      fX2_set_b43 o  z
    else
      Option.bind (cgI z o 2 1) fun x14 =>
      if (x14) ≤ (a0) then
        fX2_set_b43 o  z
      else
        if (v6) < 0 then
          fX2_set_b43 o  z
        else
          Option.bind (cgR z o 2 0) fun x28 =>
          Option.bind x28 fun q31 =>
          Option.bind (clen z q31 8) fun x31 =>
          if (x31) ≤ (v6) then
            fX2_set_b43 o  z
          else
            Option.bind (cgR z o 2 0) fun x36 =>
            Option.bind x36 fun q42 =>
            Option.bind (cstI z q42 v6 a2) fun z42 =>
            fX2_set_b43 o  z42) ((a0 * 6) + a1)
noncomputable def fX2_placeOf_b32 (o : Nat) (rec2 : Int32 → Int32 → Int32 → cS → Option (Int32 × cS)) (l1 : Int32) (l2 : Int32) (l3 : Int32) (z : cS) : Option (Int32 × cS) :=
    rec2 l1 l2 (l3 + 1) z
noncomputable def fX2_placeOf_b2_body (o : Nat) (rec2 : Int32 → Int32 → Int32 → cS → Option (Int32 × cS)) (l1 : Int32) (l2 : Int32) (l3 : Int32) (z : cS) : Option (Int32 × cS) :=
    Option.bind (cgI z o 2 1) fun x4 =>
    if (x4) ≤ (l3) then
      some ((-1), z)
    else
      Option.bind (crc z (some o) 2) fun c13 =>
      Option.bind (fX2_get c13 l3 0 z) fun q13 =>
      if (q13.1) = (l1) then
        Option.bind (crc (q13.2) (some o) 2) fun c23 =>
        Option.bind (fX2_get c23 l3 1 (q13.2)) fun q23 =>
        if (q23.1) = (l2) then
          some (l3, q23.2)
        else
          fX2_placeOf_b32 o rec2 l1 l2 l3 (q23.2)
      else
        fX2_placeOf_b32 o rec2 l1 l2 l3 (q13.2)
noncomputable def fX2_placeOf_b2 (o : Nat) : Nat → Int32 → Int32 → Int32 → cS → Option (Int32 × cS)
  | 0, _, _, _, _ => none
  | n + 1, l1, l2, l3, z => fX2_placeOf_b2_body o (fX2_placeOf_b2 o n) l1 l2 l3 z
noncomputable def fX2_placeOf (o : Nat) (a0 : Int32) (a1 : Int32) (z : cS) : Option (Int32 × cS) :=
    fX2_placeOf_b2 o rFuel a0 a1 0 z
noncomputable def fX2_add (o : Nat) (a0 : Int32) (a1 : Int32) (a2 : Int32) (a3 : Int32) (a4 : Int32) (a5 : Int32) (z : cS) : Option (Unit × cS) :=
    Option.bind (cgI z o 2 1) fun x1 =>
    if (x1) < (30) then
      Option.bind (cgI z o 2 1) fun x11 =>
      Option.bind (cgI z o 2 1) fun x18 =>
      Option.bind (cpI z o 2 1 (x18 + 1)) fun z23 =>
      Option.bind (crc z23 (some o) 2) fun c31 =>
      Option.bind (fX2_set c31 x11 0 a0 z23) fun q31 =>
      Option.bind (crc (q31.2) (some o) 2) fun c39 =>
      Option.bind (fX2_set c39 x11 1 a1 (q31.2)) fun q39 =>
      Option.bind (crc (q39.2) (some o) 2) fun c47 =>
      Option.bind (fX2_set c47 x11 2 a2 (q39.2)) fun q47 =>
      Option.bind (crc (q47.2) (some o) 2) fun c56 =>
      Option.bind (fX2_set c56 x11 3 a3 (q47.2)) fun q56 =>
      Option.bind (crc (q56.2) (some o) 2) fun c65 =>
      Option.bind (fX2_set c65 x11 4 a4 (q56.2)) fun q65 =>
      Option.bind (crc (q65.2) (some o) 2) fun c74 =>
      Option.bind (fX2_set c74 x11 5 a5 (q65.2)) fun q74 =>
      some ((), q74.2)
    else
      some ((), z)
noncomputable def fX2_addAll_b2_body (o : Nat) (rec2 : Option Nat → Int32 → cS → Option (Unit × cS)) (l1 : Option Nat) (l2 : Int32) (z : cS) : Option (Unit × cS) :=
    Option.bind l1 fun q4 =>
    Option.bind (cgI z q4 2 1) fun x4 =>
    if (x4) ≤ (l2) then
      Option.bind (cgI z o 2 2) fun x58 =>
      Option.bind l1 fun q62 =>
      Option.bind (cgI z q62 2 2) fun x62 =>
      Option.bind (cpI z o 2 2 (x58 + x62)) fun z66 =>
      Option.bind (cgI z66 o 2 3) fun x71 =>
      Option.bind l1 fun q75 =>
      Option.bind (cgI z66 q75 2 3) fun x75 =>
      Option.bind (cpI z66 o 2 3 (x71 + x75)) fun z79 =>
      some ((), z79)
    else
      Option.bind (crc z l1 2) fun c14 =>
      Option.bind (fX2_get c14 l2 0 z) fun q14 =>
      Option.bind (crc (q14.2) l1 2) fun c20 =>
      Option.bind (fX2_get c20 l2 1 (q14.2)) fun q20 =>
      Option.bind (crc (q20.2) l1 2) fun c26 =>
      Option.bind (fX2_get c26 l2 2 (q20.2)) fun q26 =>
      Option.bind (crc (q26.2) l1 2) fun c32 =>
      Option.bind (fX2_get c32 l2 3 (q26.2)) fun q32 =>
      Option.bind (crc (q32.2) l1 2) fun c38 =>
      Option.bind (fX2_get c38 l2 4 (q32.2)) fun q38 =>
      Option.bind (crc (q38.2) l1 2) fun c44 =>
      Option.bind (fX2_get c44 l2 5 (q38.2)) fun q44 =>
      Option.bind (crc (q44.2) (some o) 2) fun c47 =>
      Option.bind (fX2_add c47 (q14.1) (q20.1) (q26.1) (q32.1) (q38.1) (q44.1) (q44.2)) fun q47 =>
      rec2 l1 (l2 + 1) (q47.2)
noncomputable def fX2_addAll_b2 (o : Nat) : Nat → Option Nat → Int32 → cS → Option (Unit × cS)
  | 0, _, _, _ => none
  | n + 1, l1, l2, z => fX2_addAll_b2_body o (fX2_addAll_b2 o n) l1 l2 z
noncomputable def fX2_addAll (o : Nat) (a0 : Option Nat) (z : cS) : Option (Unit × cS) :=
    fX2_addAll_b2 o rFuel a0 0 z
noncomputable def fX2_takeOut_b14_body (o : Nat) (rec14 : Int32 → Int32 → cS → Option (Unit × cS)) (rec2 : Int32 → cS → Option (Unit × cS)) (l2 : Int32) (l3 : Int32) (z : cS) : Option (Unit × cS) :=
    if (6) ≤ (l3) then
      rec2 (l2 + 1) z
    else
      Option.bind (crc z (some o) 2) fun c28 =>
      Option.bind (fX2_get c28 (l2 + 1) l3 z) fun q28 =>
      Option.bind (crc (q28.2) (some o) 2) fun c31 =>
      Option.bind (fX2_set c31 l2 l3 (q28.1) (q28.2)) fun q31 =>
      rec14 l2 (l3 + 1) (q31.2)
noncomputable def fX2_takeOut_b14 (o : Nat) (rec2 : Int32 → cS → Option (Unit × cS)) : Nat → Int32 → Int32 → cS → Option (Unit × cS)
  | 0, _, _, _ => none
  | n + 1, l2, l3, z => fX2_takeOut_b14_body o (fX2_takeOut_b14 o rec2 n) rec2 l2 l3 z
noncomputable def fX2_takeOut_b2_body (o : Nat) (rec2 : Int32 → cS → Option (Unit × cS)) (l2 : Int32) (z : cS) : Option (Unit × cS) :=
    Option.bind (cgI z o 2 1) fun x4 =>
    if (x4 - 1) ≤ (l2) then
      Option.bind (cgI z o 2 1) fun x48 =>
      Option.bind (cpI z o 2 1 (x48 - 1)) fun z53 =>
      some ((), z53)
    else
      fX2_takeOut_b14 o rec2 rFuel l2 0 z
noncomputable def fX2_takeOut_b2 (o : Nat) : Nat → Int32 → cS → Option (Unit × cS)
  | 0, _, _ => none
  | n + 1, l2, z => fX2_takeOut_b2_body o (fX2_takeOut_b2 o n) l2 z
noncomputable def fX2_takeOut (o : Nat) (a0 : Int32) (z : cS) : Option (Unit × cS) :=
    fX2_takeOut_b2 o rFuel a0 z
noncomputable def fX2_clear (o : Nat) (z : cS) : Option (Unit × cS) :=
    Option.bind (cpI z o 2 1 0) fun z2 =>
    Option.bind (cpI z2 o 2 2 0) fun z7 =>
    Option.bind (cpI z7 o 2 3 0) fun z12 =>
    some ((), z12)
noncomputable def fX2_tellEverywhere_b44 (o : Nat) (rec2 : Int32 → Int32 → Int32 → cS → Option (Unit × cS)) (l1 : Int32) (l2 : Int32) (l3 : Int32) (z : cS) : Option (Unit × cS) :=
    rec2 l1 l2 (l3 + 1) z
noncomputable def fX2_tellEverywhere_b27 (o : Nat) (rec2 : Int32 → Int32 → Int32 → cS → Option (Unit × cS)) (l1 : Int32) (l2 : Int32) (l3 : Int32) (z : cS) : Option (Unit × cS) :=
    Option.bind (crc z (some o) 2) fun c30 =>
    Option.bind (fX2_get c30 l3 3 z) fun q30 =>
    if (q30.1) = (l1) then
      Option.bind (crc (q30.2) (some o) 2) fun c41 =>
      Option.bind (fX2_set c41 l3 3 l2 (q30.2)) fun q41 =>
      fX2_tellEverywhere_b44 o rec2 l1 l2 l3 (q41.2)
    else
      fX2_tellEverywhere_b44 o rec2 l1 l2 l3 (q30.2)
noncomputable def fX2_tellEverywhere_b2_body (o : Nat) (rec2 : Int32 → Int32 → Int32 → cS → Option (Unit × cS)) (l1 : Int32) (l2 : Int32) (l3 : Int32) (z : cS) : Option (Unit × cS) :=
    Option.bind (cgI z o 2 1) fun x4 =>
    if (x4) ≤ (l3) then
      some ((), z)
    else
      Option.bind (crc z (some o) 2) fun c13 =>
      Option.bind (fX2_get c13 l3 2 z) fun q13 =>
      if (q13.1) = (l1) then
        Option.bind (crc (q13.2) (some o) 2) fun c24 =>
        Option.bind (fX2_set c24 l3 2 l2 (q13.2)) fun q24 =>
        fX2_tellEverywhere_b27 o rec2 l1 l2 l3 (q24.2)
      else
        fX2_tellEverywhere_b27 o rec2 l1 l2 l3 (q13.2)
noncomputable def fX2_tellEverywhere_b2 (o : Nat) : Nat → Int32 → Int32 → Int32 → cS → Option (Unit × cS)
  | 0, _, _, _, _ => none
  | n + 1, l1, l2, l3, z => fX2_tellEverywhere_b2_body o (fX2_tellEverywhere_b2 o n) l1 l2 l3 z
noncomputable def fX2_tellEverywhere (o : Nat) (a0 : Int32) (a1 : Int32) (z : cS) : Option (Unit × cS) :=
    fX2_tellEverywhere_b2 o rFuel a0 a1 0 z
noncomputable def fX2_typeOf_b71 (o : Nat) (l2 : Int32) (z : cS) : Option (Int32 × cS) :=
    some (l2, z)
noncomputable def fX2_typeOf_b13_body (o : Nat) (rec13 : Int32 → Int32 → cS → Option (Int32 × cS)) (l2 : Int32) (l3 : Int32) (z : cS) : Option (Int32 × cS) :=
    if (10) < (l3) then
      fX2_typeOf_b71 o l2 z
    else
      if 0 ≤ (l2) then
        fX2_typeOf_b71 o l2 z
      else
        Option.bind (crc z (some o) 2) fun c28 =>
        Option.bind (fX2_placeOf c28 0 (((-1)) - l2) z) fun q28 =>
        (fun v31 : Int32 =>
        if (v31) = ((-1)) then
          some ((-200), q28.2)
        else
          Option.bind (crc (q28.2) (some o) 2) fun c47 =>
          Option.bind (fX2_get c47 v31 2 (q28.2)) fun q47 =>
          if (q47.1) = ((-100)) then
            some (l2, q47.2)
          else
            Option.bind (crc (q47.2) (some o) 2) fun c61 =>
            Option.bind (fX2_get c61 v31 2 (q47.2)) fun q61 =>
            (fun v64 : Int32 =>
            rec13 v64 (l3 + 1) (q61.2)) (q61.1)) (q28.1)
noncomputable def fX2_typeOf_b13 (o : Nat) : Nat → Int32 → Int32 → cS → Option (Int32 × cS)
  | 0, _, _, _ => none
  | n + 1, l2, l3, z => fX2_typeOf_b13_body o (fX2_typeOf_b13 o n) l2 l3 z
noncomputable def fX2_typeOf (o : Nat) (a0 : Int32) (z : cS) : Option (Int32 × cS) :=
    if (a0) = ((-100)) then
      some ((-100), z)
    else
      fX2_typeOf_b13 o rFuel a0 0 z
noncomputable def fX3_init (o : Nat) (a0 : Option Nat) (z : cS) : Option (Unit × cS) :=
    Option.bind (cpR z o 3 0 a0) fun z6 =>
    some ((), z6)
noncomputable def fX3_at_b31 (o : Nat) (s0 : Option Nat) (z : cS) : Option ((Option Nat) × cS) :=
    some (s0, z)
noncomputable def fX3_at_b30 (o : Nat) (z : cS) : Option ((Option Nat) × cS) :=
    fX3_at_b31 o none z
noncomputable def fX3_at (o : Nat) (a0 : Int32) (z : cS) : Option ((Option Nat) × cS) :=
    if (a0) < 0 then
      fX3_at_b30 o  z
    else
      Option.bind (cgI z o 3 1) fun x6 =>
      if (x6) ≤ (a0) then
        fX3_at_b30 o  z
      else
        Option.bind (cgR z o 3 0) fun x14 =>
        Option.bind x14 fun q17 =>
        Option.bind (clen z q17 12) fun x17 =>
        if (x17) ≤ (a0) then
          fX3_at_b30 o  z
        else
          Option.bind (cgR z o 3 0) fun x22 =>
          Option.bind x22 fun q26 =>
          Option.bind (cldR z q26 12 a0) fun x26 =>
          fX3_at_b31 o x26 z
noncomputable def fX3_blank_b21 (o : Nat) (z : cS) : Option ((Option Nat) × cS × Nat × Nat) :=
    some (none, z, 0, 0)
noncomputable def fX3_blank_b49 (o : Nat) (l2 : Option Nat) (z : cS) : Option ((Option Nat) × cS × Nat × Nat) :=
    Option.bind (crc z l2 2) fun c50 =>
    Option.bind (fX2_clear c50  z) fun q50 =>
    some (l2, q50.2, 0, 0)
noncomputable def fX3_blank (o : Nat) (a0 : Int32) (z : cS) : Option ((Option Nat) × cS × Nat × Nat) :=
    Option.bind (cgI z o 3 1) fun x2 =>
    if (a0) < (x2) then
      fX3_blank_b21 o  z
    else
      if (a0) < 0 then
        fX3_blank_b21 o  z
      else
        Option.bind (cgR z o 3 0) fun x14 =>
        Option.bind x14 fun q17 =>
        Option.bind (clen z q17 12) fun x17 =>
        if (a0) < (x17) then
          Option.bind (cgR z o 3 0) fun x24 =>
          Option.bind x24 fun q28 =>
          Option.bind (cldR z q28 12 a0) fun x28 =>
          if x28 = none then
            ause 1 4 <|
            (fun z34 : cS =>
            abind (fX2_init (z.2.2.2)  z34) fun v38 z38 =>
            (fun v41 : Option Nat =>
            Option.bind (cgR z38 o 3 0) fun x43 =>
            Option.bind x43 fun q48 =>
            Option.bind (cstR z38 q48 12 a0 v41) fun z48 =>
            fX3_blank_b49 o v41 z48) ((some z.2.2.2))) (cnw z 2 0)
          else
            fX3_blank_b49 o x28 z
        else
          fX3_blank_b21 o  z
noncomputable def fX3_keep (o : Nat) (a0 : Option Nat) (z : cS) : Option (Int32 × cS × Nat × Nat) :=
    Option.bind (cgI z o 3 1) fun x2 =>
    Option.bind (crc z (some o) 3) fun c5 =>
    abind (fX3_blank c5 x2 z) fun v5 z5 =>
    if v5 = none then
      some ((-1), z5, 0, 0)
    else
      Option.bind (crc z5 v5 2) fun c17 =>
      Option.bind (fX2_addAll c17 a0 z5) fun q17 =>
      Option.bind (crc (q17.2) a0 2) fun c21 =>
      Option.bind (fX2_clear c21  (q17.2)) fun q21 =>
      Option.bind (cgI (q21.2) o 3 1) fun x26 =>
      Option.bind (cpI (q21.2) o 3 1 (x26 + 1)) fun z31 =>
      Option.bind (cgI z31 o 3 1) fun x35 =>
      some (x35 - 1, z31, 0, 0)
noncomputable def fX4_append (o : Nat) (a0 : Int32) (a1 : Int32) (z : cS) : Option (Int32 × cS) :=
    Option.bind (cgI z o 4 2) fun x1 =>
    if (x1) < (200) then
      Option.bind (cgR z o 4 0) fun x13 =>
      Option.bind (cgI z o 4 2) fun x17 =>
      Option.bind (fX6_write x13 x17 a0 z) fun q21 =>
      Option.bind (cgR (q21.2) o 4 1) fun x25 =>
      Option.bind (cgI (q21.2) o 4 2) fun x29 =>
      Option.bind (fX6_write x25 x29 a1 (q21.2)) fun q33 =>
      Option.bind (cgI (q33.2) o 4 2) fun x38 =>
      Option.bind (cpI (q33.2) o 4 2 (x38 + 1)) fun z43 =>
      Option.bind (cgI z43 o 4 2) fun x47 =>
      some (x47 - 1, z43)
    else
      some ((-1), z)
noncomputable def fX4_init (o : Nat) (z : cS) : Option (Unit × cS × Nat × Nat) :=
    Option.bind (cna z 8 200) fun z8 =>
    ause 1 200 <|
    Option.bind (cpR z8 o 4 0 ((some z.2.2.2))) fun z10 =>
    Option.bind (cna z10 8 200) fun z17 =>
    ause 1 200 <|
    Option.bind (cpR z17 o 4 1 ((some z10.2.2.2))) fun z19 =>
    Option.bind (crc z19 (some o) 4) fun c25 =>
    Option.bind (fX4_append c25 ((-1)) ((-1)) z19) fun q25 =>
    Option.bind (crc (q25.2) (some o) 4) fun c32 =>
    Option.bind (fX4_append c32 ((-1)) ((-1)) (q25.2)) fun q32 =>
    some ((), q32.2, 0, 0)
noncomputable def fX4_has_b17 (o : Nat) (s0 : Int32) (z : cS) : Option (Int32 × cS) :=
    cbo (s0) (some (s0, z))
noncomputable def fX4_has_b16 (o : Nat) (z : cS) : Option (Int32 × cS) :=
    fX4_has_b17 o 0 z
noncomputable def fX4_has (o : Nat) (a0 : Int32) (z : cS) : Option (Int32 × cS) :=
    if (a0) < 0 then
      fX4_has_b16 o  z
    else
      Option.bind (cgI z o 4 2) fun x6 =>
      if (x6) ≤ (a0) then
        fX4_has_b16 o  z
      else
        fX4_has_b17 o 1 z
noncomputable def fX4_fromOf_b20 (o : Nat) (s0 : Int32) (z : cS) : Option (Int32 × cS) :=
    some (s0, z)
noncomputable def fX4_fromOf (o : Nat) (a0 : Int32) (z : cS) : Option (Int32 × cS) :=
    Option.bind (crc z (some o) 4) fun c2 =>
    Option.bind (fX4_has c2 a0 z) fun q2 =>
    if (q2.1) = 0 then
      fX4_fromOf_b20 o ((-1)) (q2.2)
    else
      Option.bind (cgR (q2.2) o 4 0) fun x9 =>
      Option.bind (fX6_read x9 a0 (q2.2)) fun q13 =>
      fX4_fromOf_b20 o (q13.1) (q13.2)
noncomputable def fX4_toOf_b20 (o : Nat) (s0 : Int32) (z : cS) : Option (Int32 × cS) :=
    some (s0, z)
noncomputable def fX4_toOf (o : Nat) (a0 : Int32) (z : cS) : Option (Int32 × cS) :=
    Option.bind (crc z (some o) 4) fun c2 =>
    Option.bind (fX4_has c2 a0 z) fun q2 =>
    if (q2.1) = 0 then
      fX4_toOf_b20 o ((-1)) (q2.2)
    else
      Option.bind (cgR (q2.2) o 4 1) fun x9 =>
      Option.bind (fX6_read x9 a0 (q2.2)) fun q13 =>
      fX4_toOf_b20 o (q13.1) (q13.2)
noncomputable def fX4_isArrow_b25 (o : Nat) (s0 : Int32) (z : cS) : Option (Int32 × cS) :=
    cbo (s0) (some (s0, z))
noncomputable def fX4_isArrow_b24 (o : Nat) (z : cS) : Option (Int32 × cS) :=
    fX4_isArrow_b25 o 0 z
noncomputable def fX4_isArrow (o : Nat) (a0 : Int32) (z : cS) : Option (Int32 × cS) :=
    Option.bind (crc z (some o) 4) fun c2 =>
    Option.bind (fX4_has c2 a0 z) fun q2 =>
    if (q2.1) = 0 then
      fX4_isArrow_b24 o  (q2.2)
    else
      Option.bind (cgR (q2.2) o 4 0) fun x9 =>
      Option.bind (fX6_read x9 a0 (q2.2)) fun q13 =>
      if (q13.1) = ((-1)) then
        fX4_isArrow_b24 o  (q13.2)
      else
        fX4_isArrow_b25 o 1 (q13.2)
noncomputable def fX4_kindOf_b24 (o : Nat) (s0 : Int32) (z : cS) : Option (Int32 × cS) :=
    some (s0, z)
noncomputable def fX4_kindOf_b19 (o : Nat) (z : cS) : Option (Int32 × cS) :=
    fX4_kindOf_b24 o 0 z
noncomputable def fX4_kindOf (o : Nat) (a0 : Int32) (z : cS) : Option (Int32 × cS) :=
    Option.bind (crc z (some o) 4) fun c2 =>
    Option.bind (fX4_isArrow c2 a0 z) fun q2 =>
    if (q2.1) = 0 then
      if (a0) = 0 then
        fX4_kindOf_b19 o  (q2.2)
      else
        if (a0) = (1) then
          fX4_kindOf_b19 o  (q2.2)
        else
          fX4_kindOf_b24 o 1 (q2.2)
    else
      some (2, q2.2)
noncomputable def fX4_newOne (o : Nat) (z : cS) : Option (Int32 × cS) :=
    Option.bind (crc z (some o) 4) fun c3 =>
    Option.bind (fX4_append c3 ((-1)) ((-1)) z) fun q3 =>
    some (q3.1, q3.2)
noncomputable def fX4_arrowOf_b16 (o : Nat) (z : cS) : Option (Int32 × cS) :=
    some ((-1), z)
noncomputable def fX4_arrowOf_b48 (o : Nat) (rec20 : Int32 → Int32 → Int32 → cS → Option (Int32 × cS)) (l1 : Int32) (l2 : Int32) (l3 : Int32) (z : cS) : Option (Int32 × cS) :=
    rec20 l1 l2 (l3 + 1) z
noncomputable def fX4_arrowOf_b20_body (o : Nat) (rec20 : Int32 → Int32 → Int32 → cS → Option (Int32 × cS)) (l1 : Int32) (l2 : Int32) (l3 : Int32) (z : cS) : Option (Int32 × cS) :=
    Option.bind (cgI z o 4 2) fun x22 =>
    if (x22) ≤ (l3) then
      Option.bind (crc z (some o) 4) fun c57 =>
      Option.bind (fX4_append c57 l1 l2 z) fun q57 =>
      some (q57.1, q57.2)
    else
      Option.bind (crc z (some o) 4) fun c30 =>
      Option.bind (fX4_fromOf c30 l3 z) fun q30 =>
      if (q30.1) = (l1) then
        Option.bind (crc (q30.2) (some o) 4) fun c39 =>
        Option.bind (fX4_toOf c39 l3 (q30.2)) fun q39 =>
        if (q39.1) = (l2) then
          some (l3, q39.2)
        else
          fX4_arrowOf_b48 o rec20 l1 l2 l3 (q39.2)
      else
        fX4_arrowOf_b48 o rec20 l1 l2 l3 (q30.2)
noncomputable def fX4_arrowOf_b20 (o : Nat) : Nat → Int32 → Int32 → Int32 → cS → Option (Int32 × cS)
  | 0, _, _, _, _ => none
  | n + 1, l1, l2, l3, z => fX4_arrowOf_b20_body o (fX4_arrowOf_b20 o n) l1 l2 l3 z
noncomputable def fX4_arrowOf (o : Nat) (a0 : Int32) (a1 : Int32) (z : cS) : Option (Int32 × cS) :=
    Option.bind (crc z (some o) 4) fun c2 =>
    Option.bind (fX4_has c2 a0 z) fun q2 =>
    if (q2.1) = 0 then
      fX4_arrowOf_b16 o  (q2.2)
    else
      Option.bind (crc (q2.2) (some o) 4) fun c10 =>
      Option.bind (fX4_has c10 a1 (q2.2)) fun q10 =>
      if (q10.1) = 0 then
        fX4_arrowOf_b16 o  (q10.2)
      else
        fX4_arrowOf_b20 o rFuel a0 a1 0 (q10.2)
noncomputable def fX5_init (o : Nat) (a0 : Int32) (a1 : Int32) (a2 : Int32) (z : cS) : Option (Unit × cS × Nat × Nat) :=
    Option.bind (cpI z o 5 4 ((-1))) fun z6 =>
    Option.bind (cna z6 8 8) fun z12 =>
    ause 1 8 <|
    Option.bind (cpR z12 o 5 5 ((some z6.2.2.2))) fun z14 =>
    Option.bind (cna z14 8 8) fun z20 =>
    ause 1 8 <|
    Option.bind (cpR z20 o 5 6 ((some z14.2.2.2))) fun z22 =>
    Option.bind (cpI z22 o 5 2 a0) fun z27 =>
    Option.bind (cpI z27 o 5 0 a1) fun z32 =>
    Option.bind (cpZ z32 o 5 1 a2) fun z37 =>
    some ((), z37, 0, 0)
noncomputable def fX5_isUsing_b17 (o : Nat) (s0 : Int32) (z : cS) : Option (Int32 × cS) :=
    cbo (s0) (some (s0, z))
noncomputable def fX5_isUsing (o : Nat) (a0 : Int32) (z : cS) : Option (Int32 × cS) :=
    Option.bind (cgI z o 5 0) fun x1 =>
    if ((x1 >>> (a0 &&& 31)) &&& 1) = (1) then
      fX5_isUsing_b17 o 1 z
    else
      fX5_isUsing_b17 o 0 z
noncomputable def fX5_note (o : Nat) (a0 : Int32) (a1 : Int32) (a2 : Int32) (z : cS) : Option (Unit × cS) :=
    Option.bind (cgR z o 5 5) fun x1 =>
    Option.bind (fX6_write x1 a0 a1 z) fun q6 =>
    Option.bind (cgR (q6.2) o 5 6) fun x10 =>
    Option.bind (fX6_write x10 a0 a2 (q6.2)) fun q15 =>
    some ((), q15.2)
noncomputable def fX5_notedFace (o : Nat) (a0 : Int32) (z : cS) : Option (Int32 × cS) :=
    Option.bind (cgR z o 5 5) fun x1 =>
    Option.bind (fX6_read x1 a0 z) fun q5 =>
    some (q5.1, q5.2)
noncomputable def fX5_notedChanges (o : Nat) (a0 : Int32) (z : cS) : Option (Int32 × cS) :=
    Option.bind (cgR z o 5 6) fun x1 =>
    Option.bind (fX6_read x1 a0 z) fun q5 =>
    some (q5.1, q5.2)
noncomputable def fX6_init (o : Nat) (z : cS) : Option (Unit × cS × Nat × Nat) :=
    ause 1 3 <|
    (fun z5 : cS =>
    abind (fX4_init (z.2.2.2)  z5) fun v9 z9 =>
    Option.bind (cpR z9 o 6 0 ((some z.2.2.2))) fun z12 =>
    ause 1 2 <|
    (fun z16 : cS =>
    Option.bind (cna z16 12 30) fun z22 =>
    ause 1 30 <|
    Option.bind (fX3_init (z12.2.2.2) ((some z16.2.2.2)) z22) fun q25 =>
    Option.bind (cpR (q25.2) o 6 1 ((some z12.2.2.2))) fun z28 =>
    ause 1 2 <|
    (fun z32 : cS =>
    Option.bind (cna z32 12 20) fun z38 =>
    ause 1 20 <|
    Option.bind (fX3_init (z28.2.2.2) ((some z32.2.2.2)) z38) fun q41 =>
    Option.bind (cpR (q41.2) o 6 2 ((some z28.2.2.2))) fun z44 =>
    ause 1 4 <|
    (fun z48 : cS =>
    abind (fX2_init (z44.2.2.2)  z48) fun v52 z52 =>
    Option.bind (cpR z52 o 6 3 ((some z44.2.2.2))) fun z55 =>
    ause 1 4 <|
    (fun z59 : cS =>
    abind (fX2_init (z55.2.2.2)  z59) fun v63 z63 =>
    Option.bind (cpR z63 o 6 4 ((some z55.2.2.2))) fun z66 =>
    ause 1 4 <|
    (fun z70 : cS =>
    abind (fX2_init (z66.2.2.2)  z70) fun v74 z74 =>
    Option.bind (cpR z74 o 6 5 ((some z66.2.2.2))) fun z77 =>
    Option.bind (cna z77 10 8) fun z83 =>
    ause 1 8 <|
    Option.bind (cpR z83 o 6 6 ((some z77.2.2.2))) fun z86 =>
    Option.bind (cna z86 11 10) fun z92 =>
    ause 1 10 <|
    Option.bind (cpR z92 o 6 8 ((some z86.2.2.2))) fun z95 =>
    Option.bind (cna z95 13 8) fun z101 =>
    ause 1 8 <|
    Option.bind (cpR z101 o 6 10 ((some z95.2.2.2))) fun z104 =>
    some ((), z104, 0, 0)) (cnw z66 2 0)) (cnw z55 2 0)) (cnw z44 2 0)) (cnw z28 3 0)) (cnw z12 3 0)) (cnw z 4 0)
noncomputable def fX6_needType (o : Nat) (a0 : Int32) (z : cS) : Option ((Unit ⊕ Nat) × cS × Nat × Nat) :=
    Option.bind (cgR z o 6 0) fun x1 =>
    Option.bind (crc z x1 4) fun c5 =>
    Option.bind (fX4_has c5 a0 z) fun q5 =>
    if (q5.1) = 0 then
      some (.inr 0, q5.2, 1, 6)
    else
      some (.inl (()), q5.2, 0, 0)
noncomputable def fX6_arrow (o : Nat) (a0 : Int32) (a1 : Int32) (z : cS) : Option ((Int32 ⊕ Nat) × cS × Nat × Nat) :=
    Option.bind (crc z (some o) 6) fun c2 =>
    tbind (fX6_needType c2 a0 z) fun v2 z2 =>
    Option.bind (crc z2 (some o) 6) fun c7 =>
    tbind (fX6_needType c7 a1 z2) fun v7 z7 =>
    Option.bind (cgR z7 o 6 0) fun x11 =>
    Option.bind (crc z7 x11 4) fun c16 =>
    Option.bind (fX4_arrowOf c16 a0 a1 z7) fun q16 =>
    (fun v19 : Int32 =>
    if (v19) = ((-1)) then
      some (.inr 2, q16.2, 1, 6)
    else
      some (.inl v19, q16.2, 0, 0)) (q16.1)
noncomputable def fX6_type (o : Nat) (a0 : Int32) (a1 : Int32) (z : cS) : Option ((Int32 ⊕ Nat) × cS × Nat × Nat) :=
    Option.bind (crc z (some o) 6) fun c2 =>
    tbind (fX6_needType c2 a0 z) fun v2 z2 =>
    if (a1) = 0 then
      Option.bind (cgR z2 o 6 0) fun x10 =>
      Option.bind (crc z2 x10 4) fun c14 =>
      Option.bind (fX4_kindOf c14 a0 z2) fun q14 =>
      some (.inl (q14.1), q14.2, 0, 0)
    else
      if (a1) = (1) then
        Option.bind (cgR z2 o 6 0) fun x24 =>
        Option.bind (crc z2 x24 4) fun c28 =>
        Option.bind (fX4_fromOf c28 a0 z2) fun q28 =>
        some (.inl (q28.1), q28.2, 0, 0)
      else
        if (a1) = (2) then
          Option.bind (cgR z2 o 6 0) fun x38 =>
          Option.bind (crc z2 x38 4) fun c42 =>
          Option.bind (fX4_toOf c42 a0 z2) fun q42 =>
          some (.inl (q42.1), q42.2, 0, 0)
        else
          some (.inr 1, z2, 1, 6)
noncomputable def fX6_addHiding_b52 (o : Nat) (s0 : Int32) (z : cS) : Option (Int32 × cS) :=
    cbo (s0) (some (s0, z))
noncomputable def fX6_addHiding_b26 (o : Nat) (l1 : Int32) (l2 : Int32) (l3 : Int32) (l4 : Int32) (l5 : Int32) (z : cS) : Option (Int32 × cS) :=
    Option.bind (cgR z o 6 3) fun x27 =>
    Option.bind (crc z x27 2) fun c38 =>
    Option.bind (fX2_add c38 l1 l2 l3 ((-100)) l4 ((-1)) z) fun q38 =>
    if (l5) = ((-1)) then
      fX6_addHiding_b52 o 0 (q38.2)
    else
      fX6_addHiding_b52 o 1 (q38.2)
noncomputable def fX6_addHiding (o : Nat) (a0 : Int32) (a1 : Int32) (a2 : Int32) (a3 : Int32) (z : cS) : Option (Int32 × cS) :=
    Option.bind (cgR z o 6 3) fun x1 =>
    Option.bind (crc z x1 2) fun c6 =>
    Option.bind (fX2_placeOf c6 a0 a1 z) fun q6 =>
    (fun v9 : Int32 =>
    if (v9) = ((-1)) then
      fX6_addHiding_b26 o a0 a1 a2 a3 v9 (q6.2)
    else
      Option.bind (cgR (q6.2) o 6 3) fun x18 =>
      Option.bind (crc (q6.2) x18 2) fun c23 =>
      Option.bind (fX2_takeOut c23 v9 (q6.2)) fun q23 =>
      fX6_addHiding_b26 o a0 a1 a2 a3 v9 (q23.2)) (q6.1)
noncomputable def fX6_needName_b10 (z : cS) : Option ((Unit ⊕ Nat) × cS × Nat × Nat) :=
    some (.inr 1, z, 1, 6)
noncomputable def fX6_needName (a0 : Int32) (z : cS) : Option ((Unit ⊕ Nat) × cS × Nat × Nat) :=
    if (a0) < 0 then
      fX6_needName_b10  z
    else
      if (a0) < (10) then
        some (.inl (()), z, 0, 0)
      else
        fX6_needName_b10  z
noncomputable def fX6_addType_b30 (o : Nat) (l1 : Int32) (s0 : Int32) (z : cS) : Option ((Int32 ⊕ Nat) × cS × Nat × Nat) :=
    if (s0) = ((-1)) then
      some (.inr 2, z, 1, 6)
    else
      Option.bind (crc z (some o) 6) fun c51 =>
      Option.bind (fX6_addHiding c51 0 l1 s0 0 z) fun q51 =>
      some (.inl s0, q51.2, 0, 0)
noncomputable def fX6_addType_b10 (o : Nat) (l1 : Int32) (l2 : Int32) (z : cS) : Option ((Int32 ⊕ Nat) × cS × Nat × Nat) :=
    tbind (fX6_needName l1 z) fun v11 z11 =>
    if (l2) = ((-1)) then
      Option.bind (cgR z11 o 6 0) fun x20 =>
      Option.bind (crc z11 x20 4) fun c23 =>
      Option.bind (fX4_newOne c23  z11) fun q23 =>
      fX6_addType_b30 o l1 (q23.1) (q23.2)
    else
      fX6_addType_b30 o l1 l2 z11
noncomputable def fX6_addType (o : Nat) (a0 : Int32) (a1 : Int32) (z : cS) : Option ((Int32 ⊕ Nat) × cS × Nat × Nat) :=
    if (a1) = ((-1)) then
      fX6_addType_b10 o a0 a1 z
    else
      Option.bind (crc z (some o) 6) fun c7 =>
      tbind (fX6_needType c7 a1 z) fun v7 z7 =>
      fX6_addType_b10 o a0 a1 z7
noncomputable def fX6_needNumber_b14 (z : cS) : Option ((Unit ⊕ Nat) × cS × Nat × Nat) :=
    some (.inr 1, z, 1, 6)
noncomputable def fX6_needNumber (a0 : Int32) (z : cS) : Option ((Unit ⊕ Nat) × cS × Nat × Nat) :=
    if (a0) < ((-10000)) then
      fX6_needNumber_b14  z
    else
      if (a0) ≤ (10000) then
        some (.inl (()), z, 0, 0)
      else
        fX6_needNumber_b14  z
noncomputable def fX6_addValue (o : Nat) (a0 : Int32) (a1 : Int32) (a2 : Int32) (z : cS) : Option ((Int32 ⊕ Nat) × cS × Nat × Nat) :=
    Option.bind (crc z (some o) 6) fun c2 =>
    tbind (fX6_needType c2 a1 z) fun v2 z2 =>
    tbind (fX6_needName a0 z2) fun v6 z6 =>
    tbind (fX6_needNumber a2 z6) fun v10 z10 =>
    Option.bind (crc z10 (some o) 6) fun c18 =>
    Option.bind (fX6_addHiding c18 1 a0 a1 a2 z10) fun q18 =>
    cbo (q18.1) (some (.inl (q18.1), q18.2, 0, 0))
noncomputable def fX6_needRow (a0 : Option Nat) (z : cS) : Option ((Unit ⊕ Nat) × cS × Nat × Nat) :=
    if a0 = none then
      some (.inr 0, z, 1, 6)
    else
      some (.inl (()), z, 0, 0)
noncomputable def fX6_addPart (o : Nat) (a0 : Int32) (a1 : Int32) (z : cS) : Option ((Int32 ⊕ Nat) × cS × Nat × Nat) :=
    Option.bind (cgR z o 6 1) fun x1 =>
    Option.bind (crc z x1 3) fun c5 =>
    Option.bind (fX3_at c5 a1 z) fun q5 =>
    tbind (fX6_needRow (q5.1) (q5.2)) fun v8 z8 =>
    tbind (fX6_needName a0 z8) fun v12 z12 =>
    Option.bind (crc z12 (some o) 6) fun c20 =>
    Option.bind (fX6_addHiding c20 2 a0 a1 0 z12) fun q20 =>
    cbo (q20.1) (some (.inl (q20.1), q20.2, 0, 0))
noncomputable def fX6_open_b75 (o : Nat) (rec28 : Option Nat → Int32 → Int32 → cS → Option ((Int32 ⊕ Nat) × cS × Nat × Nat)) (l2 : Option Nat) (l3 : Int32) (l4 : Int32) (z : cS) : Option ((Int32 ⊕ Nat) × cS × Nat × Nat) :=
    rec28 l2 l3 (l4 + 1) z
noncomputable def fX6_open_b28_body (o : Nat) (rec28 : Option Nat → Int32 → Int32 → cS → Option ((Int32 ⊕ Nat) × cS × Nat × Nat)) (l2 : Option Nat) (l3 : Int32) (l4 : Int32) (z : cS) : Option ((Int32 ⊕ Nat) × cS × Nat × Nat) :=
    Option.bind l2 fun q31 =>
    Option.bind (cgI z q31 2 1) fun x31 =>
    if (x31) ≤ (l4) then
      some (.inl l3, z, 0, 0)
    else
      Option.bind (crc z l2 2) fun c42 =>
      Option.bind (fX2_get c42 l4 0 z) fun q42 =>
      Option.bind (crc (q42.2) l2 2) fun c49 =>
      Option.bind (fX2_get c49 l4 1 (q42.2)) fun q49 =>
      Option.bind (crc (q49.2) l2 2) fun c56 =>
      Option.bind (fX2_get c56 l4 2 (q49.2)) fun q56 =>
      Option.bind (crc (q56.2) l2 2) fun c63 =>
      Option.bind (fX2_get c63 l4 4 (q56.2)) fun q63 =>
      Option.bind (crc (q63.2) (some o) 6) fun c66 =>
      Option.bind (fX6_addHiding c66 (q42.1) (q49.1) (q56.1) (q63.1) (q63.2)) fun q66 =>
      if (q66.1) = 0 then
        fX6_open_b75 o rec28 l2 l3 l4 (q66.2)
      else
        fX6_open_b75 o rec28 l2 (l3 + 1) l4 (q66.2)
noncomputable def fX6_open_b28 (o : Nat) : Nat → Option Nat → Int32 → Int32 → cS → Option ((Int32 ⊕ Nat) × cS × Nat × Nat)
  | 0, _, _, _, _ => none
  | n + 1, l2, l3, l4, z => fX6_open_b28_body o (fX6_open_b28 o n) l2 l3 l4 z
noncomputable def fX6_open (o : Nat) (a0 : Int32) (z : cS) : Option ((Int32 ⊕ Nat) × cS × Nat × Nat) :=
    Option.bind (cgR z o 6 1) fun x1 =>
    Option.bind (crc z x1 3) fun c5 =>
    Option.bind (fX3_at c5 a0 z) fun q5 =>
    (fun v8 : Option Nat =>
    if v8 = none then
      some (.inr 0, q5.2, 1, 6)
    else
      fX6_open_b28 o rFuel v8 0 0 (q5.2)) (q5.1)
noncomputable def fX6_structure (o : Nat) (z : cS) : Option ((Int32 ⊕ Nat) × cS × Nat × Nat) :=
    Option.bind (cgR z o 6 1) fun x1 =>
    Option.bind (cgR z o 6 3) fun x5 =>
    Option.bind (crc z x1 3) fun c8 =>
    abind (fX3_keep c8 x5 z) fun v8 z8 =>
    if (v8) = ((-1)) then
      some (.inr 2, z8, 1, 6)
    else
      some (.inl v8, z8, 0, 0)
noncomputable def fX6_item_b34 (o : Nat) (z : cS) : Option ((Int32 ⊕ Nat) × cS × Nat × Nat) :=
    some (.inr 1, z, 1, 6)
noncomputable def fX6_item_b80 (o : Nat) (z : cS) : Option ((Int32 ⊕ Nat) × cS × Nat × Nat) :=
    some (.inr 1, z, 1, 6)
noncomputable def fX6_item_b113 (o : Nat) (s0 : Int32) (s1 : Int32) (s2 : Option Nat) (z : cS) : Option ((Int32 ⊕ Nat) × cS × Nat × Nat) :=
    Option.bind (crc z s2 2) fun c113 =>
    Option.bind (fX2_get c113 s1 s0 z) fun q113 =>
    some (.inl (q113.1), q113.2, 0, 0)
noncomputable def fX6_item (o : Nat) (a0 : Int32) (a1 : Int32) (a2 : Int32) (a3 : Int32) (z : cS) : Option ((Int32 ⊕ Nat) × cS × Nat × Nat) :=
    Option.bind (cgR z o 6 1) fun x1 =>
    Option.bind (crc z x1 3) fun c5 =>
    Option.bind (fX3_at c5 a0 z) fun q5 =>
    (fun v8 : Option Nat =>
    if v8 = none then
      some (.inr 0, q5.2, 1, 6)
    else
      if (a1) < 0 then
        fX6_item_b34 o  (q5.2)
      else
        if (a1) < (3) then
          Option.bind (crc (q5.2) v8 2) fun c48 =>
          Option.bind (fX2_placeOf c48 a1 a2 (q5.2)) fun q48 =>
          (fun v51 : Int32 =>
          if (v51) = ((-1)) then
            some (.inr 0, q48.2, 1, 6)
          else
            if (a3) < 0 then
              fX6_item_b80 o  (q48.2)
            else
              if (a3) ≤ (2) then
                if (a3) = (1) then
                  some (.inl v51, q48.2, 0, 0)
                else
                  if (a3) = 0 then
                    fX6_item_b113 o 2 v51 v8 (q48.2)
                  else
                    fX6_item_b113 o 4 v51 v8 (q48.2)
              else
                fX6_item_b80 o  (q48.2)) (q48.1)
        else
          fX6_item_b34 o  (q5.2)) (q5.1)
noncomputable def fX6_items (o : Nat) (a0 : Int32) (z : cS) : Option ((Int32 ⊕ Nat) × cS × Nat × Nat) :=
    Option.bind (cgR z o 6 1) fun x1 =>
    Option.bind (crc z x1 3) fun c5 =>
    Option.bind (fX3_at c5 a0 z) fun q5 =>
    (fun v8 : Option Nat =>
    if v8 = none then
      some (.inr 0, q5.2, 1, 6)
    else
      Option.bind v8 fun q24 =>
      Option.bind (cgI (q5.2) q24 2 1) fun x24 =>
      some (.inl x24, q5.2, 0, 0)) (q5.1)
noncomputable def fX6_needPlace (a0 : Option Nat) (a1 : Int32) (a2 : Int32) (z : cS) : Option ((Unit ⊕ Nat) × cS × Nat × Nat) :=
    Option.bind (crc z a0 2) fun c3 =>
    Option.bind (fX2_placeOf c3 a1 a2 z) fun q3 =>
    if (q3.1) = ((-1)) then
      some (.inl (()), q3.2, 0, 0)
    else
      some (.inr 2, q3.2, 1, 6)
noncomputable def fX6_needRoomForSpecs (o : Nat) (a0 : Int32) (z : cS) : Option ((Unit ⊕ Nat) × cS × Nat × Nat) :=
    Option.bind (cgR z o 6 4) fun x1 =>
    Option.bind x1 fun q4 =>
    Option.bind (cgI z q4 2 2) fun x4 =>
    if (x4 + a0) ≤ (60) then
      some (.inl (()), z, 0, 0)
    else
      some (.inr 2, z, 1, 6)
noncomputable def fX6_needTold_b32 (o : Nat) (s0 : Int32) (z : cS) : Option ((Unit ⊕ Nat) × cS × Nat × Nat) :=
    if (s0) = 0 then
      some (.inr 0, z, 1, 6)
    else
      some (.inl (()), z, 0, 0)
noncomputable def fX6_needTold (o : Nat) (a0 : Option Nat) (a1 : Int32) (z : cS) : Option ((Unit ⊕ Nat) × cS × Nat × Nat) :=
    if 0 ≤ (a1) then
      Option.bind (cgR z o 6 0) fun x25 =>
      Option.bind (crc z x25 4) fun c29 =>
      Option.bind (fX4_has c29 a1 z) fun q29 =>
      fX6_needTold_b32 o (q29.1) (q29.2)
    else
      Option.bind (crc z a0 2) fun c9 =>
      Option.bind (fX2_placeOf c9 0 (((-1)) - a1) z) fun q9 =>
      if (q9.1) = ((-1)) then
        fX6_needTold_b32 o 0 (q9.2)
      else
        fX6_needTold_b32 o 1 (q9.2)
noncomputable def fX6_specType_b15 (o : Nat) (l1 : Int32) (l2 : Int32) (z : cS) : Option ((Int32 ⊕ Nat) × cS × Nat × Nat) :=
    tbind (fX6_needName l1 z) fun v16 z16 =>
    Option.bind (cgR z16 o 6 4) fun x20 =>
    tbind (fX6_needPlace x20 0 l1 z16) fun v25 z25 =>
    Option.bind (crc z25 (some o) 6) fun c30 =>
    tbind (fX6_needRoomForSpecs c30 1 z25) fun v30 z30 =>
    Option.bind (cgR z30 o 6 4) fun x34 =>
    Option.bind (crc z30 x34 2) fun c44 =>
    Option.bind (fX2_add c44 0 l1 l2 ((-100)) 0 ((-1)) z30) fun q44 =>
    Option.bind (cgR (q44.2) o 6 4) fun x48 =>
    Option.bind x48 fun q52 =>
    Option.bind (cgI (q44.2) q52 2 2) fun x52 =>
    Option.bind x48 fun q57 =>
    Option.bind (cpI (q44.2) q57 2 2 (x52 + 1)) fun z57 =>
    Option.bind (cgR z57 o 6 4) fun x61 =>
    Option.bind x61 fun q64 =>
    Option.bind (cgI z57 q64 2 1) fun x64 =>
    some (.inl x64, z57, 0, 0)
noncomputable def fX6_specType (o : Nat) (a0 : Int32) (a1 : Int32) (z : cS) : Option ((Int32 ⊕ Nat) × cS × Nat × Nat) :=
    if (a1) = ((-100)) then
      fX6_specType_b15 o a0 a1 z
    else
      Option.bind (cgR z o 6 4) fun x8 =>
      Option.bind (crc z (some o) 6) fun c12 =>
      tbind (fX6_needTold c12 x8 a1 z) fun v12 z12 =>
      fX6_specType_b15 o a0 a1 z12
noncomputable def fX6_specValue_b24 (o : Nat) (l1 : Int32) (l2 : Int32) (l3 : Int32) (z : cS) : Option ((Int32 ⊕ Nat) × cS × Nat × Nat) :=
    tbind (fX6_needName l1 z) fun v25 z25 =>
    Option.bind (cgR z25 o 6 4) fun x29 =>
    tbind (fX6_needPlace x29 1 l1 z25) fun v34 z34 =>
    Option.bind (crc z34 (some o) 6) fun c39 =>
    tbind (fX6_needRoomForSpecs c39 1 z34) fun v39 z39 =>
    Option.bind (cgR z39 o 6 4) fun x43 =>
    Option.bind (crc z39 x43 2) fun c52 =>
    Option.bind (fX2_add c52 1 l1 l2 l3 0 ((-1)) z39) fun q52 =>
    Option.bind (cgR (q52.2) o 6 4) fun x56 =>
    Option.bind x56 fun q60 =>
    Option.bind (cgI (q52.2) q60 2 2) fun x60 =>
    Option.bind x56 fun q65 =>
    Option.bind (cpI (q52.2) q65 2 2 (x60 + 1)) fun z65 =>
    Option.bind (cgR z65 o 6 4) fun x69 =>
    Option.bind x69 fun q72 =>
    Option.bind (cgI z65 q72 2 1) fun x72 =>
    some (.inl x72, z65, 0, 0)
noncomputable def fX6_specValue (o : Nat) (a0 : Int32) (a1 : Int32) (a2 : Int32) (z : cS) : Option ((Int32 ⊕ Nat) × cS × Nat × Nat) :=
    Option.bind (cgR z o 6 4) fun x2 =>
    Option.bind (crc z (some o) 6) fun c6 =>
    tbind (fX6_needTold c6 x2 a1 z) fun v6 z6 =>
    if (a2) = ((-100)) then
      fX6_specValue_b24 o a0 a1 a2 z6
    else
      Option.bind (cgR z6 o 6 4) fun x17 =>
      Option.bind (crc z6 (some o) 6) fun c21 =>
      tbind (fX6_needTold c21 x17 a2 z6) fun v21 z21 =>
      fX6_specValue_b24 o a0 a1 a2 z21
noncomputable def fX6_specPart (o : Nat) (a0 : Int32) (a1 : Int32) (z : cS) : Option ((Int32 ⊕ Nat) × cS × Nat × Nat) :=
    Option.bind (cgR z o 6 2) fun x1 =>
    Option.bind (crc z x1 3) fun c5 =>
    Option.bind (fX3_at c5 a1 z) fun q5 =>
    (fun v8 : Option Nat =>
    if v8 = none then
      some (.inr 0, q5.2, 1, 6)
    else
      tbind (fX6_needName a0 (q5.2)) fun v24 z24 =>
      Option.bind (cgR z24 o 6 4) fun x28 =>
      tbind (fX6_needPlace x28 2 a0 z24) fun v33 z33 =>
      Option.bind v8 fun q39 =>
      Option.bind (cgI z33 q39 2 2) fun x39 =>
      Option.bind (crc z33 (some o) 6) fun c43 =>
      tbind (fX6_needRoomForSpecs c43 (1 + x39) z33) fun v43 z43 =>
      Option.bind (cgR z43 o 6 4) fun x47 =>
      Option.bind (crc z43 x47 2) fun c57 =>
      Option.bind (fX2_add c57 2 a0 a1 ((-100)) 0 ((-1)) z43) fun q57 =>
      Option.bind (cgR (q57.2) o 6 4) fun x61 =>
      Option.bind x61 fun q65 =>
      Option.bind (cgI (q57.2) q65 2 2) fun x65 =>
      Option.bind v8 fun q70 =>
      Option.bind (cgI (q57.2) q70 2 2) fun x70 =>
      Option.bind x61 fun q75 =>
      Option.bind (cpI (q57.2) q75 2 2 (x65 + (1 + x70))) fun z75 =>
      Option.bind (cgR z75 o 6 4) fun x79 =>
      Option.bind x79 fun q83 =>
      Option.bind (cgI z75 q83 2 3) fun x83 =>
      Option.bind v8 fun q88 =>
      Option.bind (cgI z75 q88 2 3) fun x88 =>
      Option.bind x79 fun q93 =>
      Option.bind (cpI z75 q93 2 3 (x83 + (1 + x88))) fun z93 =>
      Option.bind (cgR z93 o 6 4) fun x97 =>
      Option.bind x97 fun q100 =>
      Option.bind (cgI z93 q100 2 1) fun x100 =>
      some (.inl x100, z93, 0, 0)) (q5.1)
noncomputable def fX6_include_b25_body (o : Nat) (rec25 : Option Nat → Int32 → cS → Option ((Int32 ⊕ Nat) × cS × Nat × Nat)) (l2 : Option Nat) (l3 : Int32) (z : cS) : Option ((Int32 ⊕ Nat) × cS × Nat × Nat) :=
    Option.bind l2 fun q27 =>
    Option.bind (cgI z q27 2 1) fun x27 =>
    if (x27) ≤ (l3) then
      Option.bind l2 fun q60 =>
      Option.bind (cgI z q60 2 2) fun x60 =>
      Option.bind (crc z (some o) 6) fun c63 =>
      tbind (fX6_needRoomForSpecs c63 x60 z) fun v63 z63 =>
      Option.bind (cgR z63 o 6 4) fun x67 =>
      Option.bind (crc z63 x67 2) fun c71 =>
      Option.bind (fX2_addAll c71 l2 z63) fun q71 =>
      Option.bind (cgR (q71.2) o 6 4) fun x75 =>
      Option.bind x75 fun q78 =>
      Option.bind (cgI (q71.2) q78 2 1) fun x78 =>
      some (.inl x78, q71.2, 0, 0)
    else
      Option.bind (cgR z o 6 4) fun x34 =>
      Option.bind (crc z l2 2) fun c40 =>
      Option.bind (fX2_get c40 l3 0 z) fun q40 =>
      Option.bind (crc (q40.2) l2 2) fun c46 =>
      Option.bind (fX2_get c46 l3 1 (q40.2)) fun q46 =>
      tbind (fX6_needPlace x34 (q40.1) (q46.1) (q46.2)) fun v49 z49 =>
      rec25 l2 (l3 + 1) z49
noncomputable def fX6_include_b25 (o : Nat) : Nat → Option Nat → Int32 → cS → Option ((Int32 ⊕ Nat) × cS × Nat × Nat)
  | 0, _, _, _ => none
  | n + 1, l2, l3, z => fX6_include_b25_body o (fX6_include_b25 o n) l2 l3 z
noncomputable def fX6_include (o : Nat) (a0 : Int32) (z : cS) : Option ((Int32 ⊕ Nat) × cS × Nat × Nat) :=
    Option.bind (cgR z o 6 2) fun x1 =>
    Option.bind (crc z x1 3) fun c5 =>
    Option.bind (fX3_at c5 a0 z) fun q5 =>
    (fun v8 : Option Nat =>
    if v8 = none then
      some (.inr 0, q5.2, 1, 6)
    else
      fX6_include_b25 o rFuel v8 0 (q5.2)) (q5.1)
noncomputable def fX6_signature (o : Nat) (z : cS) : Option ((Int32 ⊕ Nat) × cS × Nat × Nat) :=
    Option.bind (cgR z o 6 2) fun x1 =>
    Option.bind (cgR z o 6 4) fun x5 =>
    Option.bind (crc z x1 3) fun c8 =>
    abind (fX3_keep c8 x5 z) fun v8 z8 =>
    if (v8) = ((-1)) then
      some (.inr 2, z8, 1, 6)
    else
      some (.inl v8, z8, 0, 0)
noncomputable def fX6_with_b58 (o : Nat) (z : cS) : Option ((Int32 ⊕ Nat) × cS × Nat × Nat) :=
    some (.inr 0, z, 1, 6)
noncomputable def fX6_with_b154 (o : Nat) (l7 : Int32) (z : cS) : Option ((Int32 ⊕ Nat) × cS × Nat × Nat) :=
    Option.bind (cgR z o 6 2) fun x155 =>
    Option.bind x155 fun q159 =>
    Option.bind (cgI z q159 3 1) fun x159 =>
    Option.bind x155 fun q164 =>
    Option.bind (cpI z q164 3 1 (x159 + 1)) fun z164 =>
    some (.inl l7, z164, 0, 0)
noncomputable def fX6_with (o : Nat) (a0 : Int32) (a1 : Int32) (a2 : Int32) (a3 : Int32) (z : cS) : Option ((Int32 ⊕ Nat) × cS × Nat × Nat) :=
    Option.bind (cgR z o 6 2) fun x1 =>
    Option.bind (crc z x1 3) fun c5 =>
    Option.bind (fX3_at c5 a0 z) fun q5 =>
    (fun v8 : Option Nat =>
    if v8 = none then
      some (.inr 0, q5.2, 1, 6)
    else
      Option.bind (crc (q5.2) (some o) 6) fun c27 =>
      tbind (fX6_needType c27 a2 (q5.2)) fun v27 z27 =>
      Option.bind (crc z27 v8 2) fun c34 =>
      Option.bind (fX2_placeOf c34 0 a1 z27) fun q34 =>
      (fun v37 : Int32 =>
      if (v37) = ((-1)) then
        fX6_with_b58 o  (q34.2)
      else
        Option.bind (crc (q34.2) v8 2) fun c50 =>
        Option.bind (fX2_get c50 v37 2 (q34.2)) fun q50 =>
        if (q50.1) = ((-100)) then
          Option.bind (cgR (q50.2) o 6 2) fun x69 =>
          Option.bind x69 fun q72 =>
          Option.bind (cgI (q50.2) q72 3 1) fun x72 =>
          Option.bind (cgR (q50.2) o 6 2) fun x78 =>
          Option.bind (crc (q50.2) x78 3) fun c83 =>
          abind (fX3_blank c83 x72 (q50.2)) fun v83 z83 =>
          if v83 = none then
            some (.inr 2, z83, 1, 6)
          else
            Option.bind (crc z83 v83 2) fun c107 =>
            Option.bind (fX2_addAll c107 v8 z83) fun q107 =>
            if (a3) = 0 then
              Option.bind (crc (q107.2) v83 2) fun c151 =>
              Option.bind (fX2_set c151 v37 2 a2 (q107.2)) fun q151 =>
              fX6_with_b154 o x72 (q151.2)
            else
              Option.bind (crc (q107.2) v83 2) fun c121 =>
              Option.bind (fX2_tellEverywhere c121 (((-1)) - a1) a2 (q107.2)) fun q121 =>
              Option.bind (crc (q121.2) v83 2) fun c128 =>
              Option.bind (fX2_takeOut c128 v37 (q121.2)) fun q128 =>
              Option.bind v83 fun q134 =>
              Option.bind (cgI (q128.2) q134 2 2) fun x134 =>
              Option.bind v83 fun q139 =>
              Option.bind (cpI (q128.2) q139 2 2 (x134 - 1)) fun z139 =>
              fX6_with_b154 o x72 z139
        else
          fX6_with_b58 o  (q50.2)) (q34.1)) (q5.1)
noncomputable def fX6_specs (o : Nat) (a0 : Int32) (z : cS) : Option ((Int32 ⊕ Nat) × cS × Nat × Nat) :=
    Option.bind (cgR z o 6 2) fun x1 =>
    Option.bind (crc z x1 3) fun c5 =>
    Option.bind (fX3_at c5 a0 z) fun q5 =>
    (fun v8 : Option Nat =>
    if v8 = none then
      some (.inr 0, q5.2, 1, 6)
    else
      Option.bind v8 fun q24 =>
      Option.bind (cgI (q5.2) q24 2 1) fun x24 =>
      some (.inl x24, q5.2, 0, 0)) (q5.1)
noncomputable def fX6_isSameType_b176 (o : Nat) (s0 : Int32) (z : cS) : Option (Int32 × cS) :=
    cbo (s0) (some (s0, z))
noncomputable def fX6_isSameType_b175 (o : Nat) (z : cS) : Option (Int32 × cS) :=
    fX6_isSameType_b176 o 0 z
noncomputable def fX6_isSameType_b155 (o : Nat) (l7 : Int32) (l8 : Int32) (l9 : Int32) (s0 : Int32) (z : cS) : Option (Int32 × cS) :=
    if (l7) = (l8) then
      if (l9) = (s0) then
        fX6_isSameType_b176 o 1 z
      else
        fX6_isSameType_b175 o  z
    else
      fX6_isSameType_b175 o  z
noncomputable def fX6_isSameType_b133 (o : Nat) (l3 : Int32) (l4 : Int32) (l7 : Int32) (l8 : Int32) (s0 : Int32) (z : cS) : Option (Int32 × cS) :=
    if (l4) = ((-100)) then
      Option.bind (cgR z o 6 0) fun x143 =>
      Option.bind (crc z x143 4) fun c147 =>
      Option.bind (fX4_toOf c147 l3 z) fun q147 =>
      fX6_isSameType_b155 o l7 l8 s0 (q147.1) (q147.2)
    else
      fX6_isSameType_b155 o l7 l8 s0 l4 z
noncomputable def fX6_isSameType_b113 (o : Nat) (l1 : Int32) (l2 : Int32) (l3 : Int32) (l4 : Int32) (l7 : Int32) (s0 : Int32) (z : cS) : Option (Int32 × cS) :=
    if (l2) = ((-100)) then
      Option.bind (cgR z o 6 0) fun x122 =>
      Option.bind (crc z x122 4) fun c126 =>
      Option.bind (fX4_toOf c126 l1 z) fun q126 =>
      fX6_isSameType_b133 o l3 l4 l7 s0 (q126.1) (q126.2)
    else
      fX6_isSameType_b133 o l3 l4 l7 s0 l2 z
noncomputable def fX6_isSameType_b92 (o : Nat) (l1 : Int32) (l2 : Int32) (l3 : Int32) (l4 : Int32) (s0 : Int32) (z : cS) : Option (Int32 × cS) :=
    if (l4) = ((-100)) then
      Option.bind (cgR z o 6 0) fun x102 =>
      Option.bind (crc z x102 4) fun c106 =>
      Option.bind (fX4_fromOf c106 l3 z) fun q106 =>
      fX6_isSameType_b113 o l1 l2 l3 l4 s0 (q106.1) (q106.2)
    else
      fX6_isSameType_b113 o l1 l2 l3 l4 s0 l3 z
noncomputable def fX6_isSameType_b73 (o : Nat) (s0 : Int32) (z : cS) : Option (Int32 × cS) :=
    cbo (s0) (some (s0, z))
noncomputable def fX6_isSameType_b47 (o : Nat) (l1 : Int32) (l2 : Int32) (l3 : Int32) (l4 : Int32) (l5 : Int32) (s0 : Int32) (z : cS) : Option (Int32 × cS) :=
    if (l5) = (s0) then
      if (l5) = 0 then
        if (l1) = (l3) then
          fX6_isSameType_b73 o 1 z
        else
          fX6_isSameType_b73 o 0 z
      else
        if (l2) = ((-100)) then
          Option.bind (cgR z o 6 0) fun x81 =>
          Option.bind (crc z x81 4) fun c85 =>
          Option.bind (fX4_fromOf c85 l1 z) fun q85 =>
          fX6_isSameType_b92 o l1 l2 l3 l4 (q85.1) (q85.2)
        else
          fX6_isSameType_b92 o l1 l2 l3 l4 l1 z
    else
      cbo (0) (some (0, z))
noncomputable def fX6_isSameType_b42 (o : Nat) (l1 : Int32) (l2 : Int32) (l3 : Int32) (l4 : Int32) (l5 : Int32) (z : cS) : Option (Int32 × cS) :=
    fX6_isSameType_b47 o l1 l2 l3 l4 l5 1 z
noncomputable def fX6_isSameType_b22 (o : Nat) (l1 : Int32) (l2 : Int32) (l3 : Int32) (l4 : Int32) (s0 : Int32) (z : cS) : Option (Int32 × cS) :=
    if (l4) = ((-100)) then
      Option.bind (cgR z o 6 0) fun x32 =>
      Option.bind (crc z x32 4) fun c36 =>
      Option.bind (fX4_isArrow c36 l3 z) fun q36 =>
      if (q36.1) = 0 then
        fX6_isSameType_b47 o l1 l2 l3 l4 s0 0 (q36.2)
      else
        fX6_isSameType_b42 o l1 l2 l3 l4 s0 (q36.2)
    else
      fX6_isSameType_b42 o l1 l2 l3 l4 s0 z
noncomputable def fX6_isSameType_b17 (o : Nat) (l1 : Int32) (l2 : Int32) (l3 : Int32) (l4 : Int32) (z : cS) : Option (Int32 × cS) :=
    fX6_isSameType_b22 o l1 l2 l3 l4 1 z
noncomputable def fX6_isSameType (o : Nat) (a0 : Int32) (a1 : Int32) (a2 : Int32) (a3 : Int32) (z : cS) : Option (Int32 × cS) :=
    if (a1) = ((-100)) then
      Option.bind (cgR z o 6 0) fun x7 =>
      Option.bind (crc z x7 4) fun c11 =>
      Option.bind (fX4_isArrow c11 a0 z) fun q11 =>
      if (q11.1) = 0 then
        fX6_isSameType_b22 o a0 a1 a2 a3 0 (q11.2)
      else
        fX6_isSameType_b17 o a0 a1 a2 a3 (q11.2)
    else
      fX6_isSameType_b17 o a0 a1 a2 a3 z
noncomputable def fX6_fitsType_b53 (o : Nat) (s0 : Int32) (z : cS) : Option (Int32 × cS) :=
    cbo (s0) (some (s0, z))
noncomputable def fX6_fitsType_b48 (o : Nat) (z : cS) : Option (Int32 × cS) :=
    fX6_fitsType_b53 o 1 z
noncomputable def fX6_fitsType (o : Nat) (a0 : Option Nat) (a1 : Int32) (a2 : Option Nat) (a3 : Int32) (z : cS) : Option (Int32 × cS) :=
    Option.bind (crc z a2 2) fun c4 =>
    Option.bind (fX2_get c4 a3 2 z) fun q4 =>
    (fun v7 : Int32 =>
    Option.bind (crc (q4.2) a2 2) fun c13 =>
    Option.bind (fX2_get c13 a3 0 (q4.2)) fun q13 =>
    if (q13.1) = 0 then
      if (v7) = ((-100)) then
        fX6_fitsType_b48 o  (q13.2)
      else
        Option.bind (crc (q13.2) a2 2) fun c32 =>
        Option.bind (fX2_get c32 a3 1 (q13.2)) fun q32 =>
        Option.bind (crc (q32.2) a0 2) fun c36 =>
        Option.bind (fX2_typeOf c36 (((-1)) - (q32.1)) (q32.2)) fun q36 =>
        Option.bind (crc (q36.2) a0 2) fun c42 =>
        Option.bind (fX2_typeOf c42 v7 (q36.2)) fun q42 =>
        if (q36.1) = (q42.1) then
          fX6_fitsType_b48 o  (q42.2)
        else
          fX6_fitsType_b53 o 0 (q42.2)
    else
      Option.bind (crc (q13.2) a0 2) fun c59 =>
      Option.bind (fX2_get c59 a1 2 (q13.2)) fun q59 =>
      Option.bind (crc (q59.2) a0 2) fun c62 =>
      Option.bind (fX2_typeOf c62 (q59.1) (q59.2)) fun q62 =>
      Option.bind (crc (q62.2) a0 2) fun c69 =>
      Option.bind (fX2_get c69 a1 3 (q62.2)) fun q69 =>
      Option.bind (crc (q69.2) a0 2) fun c72 =>
      Option.bind (fX2_typeOf c72 (q69.1) (q69.2)) fun q72 =>
      Option.bind (crc (q72.2) a0 2) fun c78 =>
      Option.bind (fX2_typeOf c78 v7 (q72.2)) fun q78 =>
      Option.bind (crc (q78.2) a2 2) fun c86 =>
      Option.bind (fX2_get c86 a3 3 (q78.2)) fun q86 =>
      Option.bind (crc (q86.2) a0 2) fun c89 =>
      Option.bind (fX2_typeOf c89 (q86.1) (q86.2)) fun q89 =>
      Option.bind (crc (q89.2) (some o) 6) fun c92 =>
      Option.bind (fX6_isSameType c92 (q62.1) (q72.1) (q78.1) (q89.1) (q89.2)) fun q92 =>
      cbo (q92.1) (some (q92.1, q92.2))) (q4.1)
noncomputable def fX6_firstMisfit_b34 (self : Nat → Option Nat → Int32 → Int32 → Int32 → cS → Option (Int32 × cS)) (o : Nat) (z : cS) : Option (Int32 × cS) :=
    some ((-1), z)
noncomputable def fX6_firstMisfit_b153 (self : Nat → Option Nat → Int32 → Int32 → Int32 → cS → Option (Int32 × cS)) (o : Nat) (rec39 : Option Nat → Int32 → Option Nat → Option Nat → Int32 → cS → Option (Int32 × cS)) (l1 : Option Nat) (l4 : Int32) (l5 : Option Nat) (l6 : Option Nat) (l7 : Int32) (l8 : Int32) (l9 : Int32) (s0 : Int32) (z : cS) : Option (Int32 × cS) :=
    if (s0) = 0 then
      some ((10 * ((2 * l8) + 2)) + l9, z)
    else
      rec39 l1 l4 l5 l6 (l7 + 1) z
noncomputable def fX6_firstMisfit_b39_body (self : Nat → Option Nat → Int32 → Int32 → Int32 → cS → Option (Int32 × cS)) (o : Nat) (rec39 : Option Nat → Int32 → Option Nat → Option Nat → Int32 → cS → Option (Int32 × cS)) (l1 : Option Nat) (l4 : Int32) (l5 : Option Nat) (l6 : Option Nat) (l7 : Int32) (z : cS) : Option (Int32 × cS) :=
    Option.bind l6 fun q43 =>
    Option.bind (cgI z q43 2 1) fun x43 =>
    if (x43) ≤ (l7) then
      some (0, z)
    else
      Option.bind (crc z l6 2) fun c54 =>
      Option.bind (fX2_get c54 l7 0 z) fun q54 =>
      (fun v57 : Int32 =>
      Option.bind (crc (q54.2) l6 2) fun c64 =>
      Option.bind (fX2_get c64 l7 1 (q54.2)) fun q64 =>
      (fun v67 : Int32 =>
      Option.bind (crc (q64.2) l5 2) fun c75 =>
      Option.bind (fX2_placeOf c75 v57 v67 (q64.2)) fun q75 =>
      (fun v78 : Int32 =>
      if (v78) = ((-1)) then
        some ((10 * ((2 * v57) + 1)) + v67, q75.2)
      else
        if (v57) = (2) then
          Option.bind (crc (q75.2) l5 2) fun c112 =>
          Option.bind (fX2_get c112 v78 2 (q75.2)) fun q112 =>
          Option.bind (crc (q112.2) l6 2) fun c120 =>
          Option.bind (fX2_get c120 l7 2 (q112.2)) fun q120 =>
          Option.bind (crc (q120.2) (some o) 6) fun c127 =>
          Option.bind (self c127 l1 (q112.1) (q120.1) (l4 + 1) (q120.2)) fun q127 =>
          if (q127.1) = 0 then
            fX6_firstMisfit_b153 self o rec39 l1 l4 l5 l6 l7 v57 v67 1 (q127.2)
          else
            fX6_firstMisfit_b153 self o rec39 l1 l4 l5 l6 l7 v57 v67 0 (q127.2)
        else
          Option.bind (crc (q75.2) (some o) 6) fun c150 =>
          Option.bind (fX6_fitsType c150 l5 v78 l6 l7 (q75.2)) fun q150 =>
          fX6_firstMisfit_b153 self o rec39 l1 l4 l5 l6 l7 v57 v67 (q150.1) (q150.2)) (q75.1)) (q64.1)) (q54.1)
noncomputable def fX6_firstMisfit_b39 (self : Nat → Option Nat → Int32 → Int32 → Int32 → cS → Option (Int32 × cS)) (o : Nat) : Nat → Option Nat → Int32 → Option Nat → Option Nat → Int32 → cS → Option (Int32 × cS)
  | 0, _, _, _, _, _, _ => none
  | n + 1, l1, l4, l5, l6, l7, z => fX6_firstMisfit_b39_body self o (fX6_firstMisfit_b39 self o n) l1 l4 l5 l6 l7 z
noncomputable def fX6_firstMisfit_fun (self : Nat → Option Nat → Int32 → Int32 → Int32 → cS → Option (Int32 × cS)) (o : Nat) (a0 : Option Nat) (a1 : Int32) (a2 : Int32) (a3 : Int32) (z : cS) : Option (Int32 × cS) :=
    Option.bind (crc z a0 3) fun c2 =>
    Option.bind (fX3_at c2 a1 z) fun q2 =>
    (fun v5 : Option Nat =>
    Option.bind (cgR (q2.2) o 6 2) fun x8 =>
    Option.bind (crc (q2.2) x8 3) fun c12 =>
    Option.bind (fX3_at c12 a2 (q2.2)) fun q12 =>
    (fun v15 : Option Nat =>
    if v5 = none then
      fX6_firstMisfit_b34 self o  (q12.2)
    else
      if v15 = none then
        fX6_firstMisfit_b34 self o  (q12.2)
      else
        if (a3) ≤ (20) then
          fX6_firstMisfit_b39 self o rFuel a0 a3 v5 v15 0 (q12.2)
        else
          fX6_firstMisfit_b34 self o  (q12.2)) (q12.1)) (q2.1)
noncomputable def fX6_firstMisfit : Nat → Nat → Option Nat → Int32 → Int32 → Int32 → cS → Option (Int32 × cS)
  | 0, _, _, _, _, _, _ => none
  | n + 1, o, a0, a1, a2, a3, z => fX6_firstMisfit_fun (fX6_firstMisfit n) o a0 a1 a2 a3 z
noncomputable def fX6_match (o : Nat) (a0 : Int32) (a1 : Int32) (z : cS) : Option ((Int32 ⊕ Nat) × cS × Nat × Nat) :=
    Option.bind (cgR z o 6 1) fun x1 =>
    Option.bind (crc z x1 3) fun c5 =>
    Option.bind (fX3_at c5 a0 z) fun q5 =>
    tbind (fX6_needRow (q5.1) (q5.2)) fun v8 z8 =>
    Option.bind (cgR z8 o 6 2) fun x12 =>
    Option.bind (crc z8 x12 3) fun c16 =>
    Option.bind (fX3_at c16 a1 z8) fun q16 =>
    tbind (fX6_needRow (q16.1) (q16.2)) fun v19 z19 =>
    Option.bind (cgR z19 o 6 1) fun x24 =>
    Option.bind (crc z19 (some o) 6) fun c30 =>
    Option.bind (fX6_firstMisfit 30 c30 x24 a0 a1 0 z19) fun q30 =>
    some (.inl (q30.1), q30.2, 0, 0)
noncomputable def fX6_typeTold_b31 (o : Nat) (s0 : Int32) (z : cS) : Option (Int32 × cS) :=
    some (s0, z)
noncomputable def fX6_typeTold (o : Nat) (a0 : Option Nat) (a1 : Int32) (a2 : Int32) (z : cS) : Option (Int32 × cS) :=
    if (a2) = ((-100)) then
      Option.bind (crc z a0 2) fun c8 =>
      Option.bind (fX2_typeOf c8 a1 z) fun q8 =>
      fX6_typeTold_b31 o (q8.1) (q8.2)
    else
      Option.bind (cgR z o 6 0) fun x15 =>
      Option.bind (crc z a0 2) fun c20 =>
      Option.bind (fX2_typeOf c20 a1 z) fun q20 =>
      Option.bind (crc (q20.2) a0 2) fun c25 =>
      Option.bind (fX2_typeOf c25 a2 (q20.2)) fun q25 =>
      Option.bind (crc (q25.2) x15 4) fun c28 =>
      Option.bind (fX4_arrowOf c28 (q20.1) (q25.1) (q25.2)) fun q28 =>
      fX6_typeTold_b31 o (q28.1) (q28.2)
noncomputable def fX6_remake_b37 (self : Nat → Int32 → Int32 → Int32 → Int32 → Int32 → cS → Option (Int32 × cS × Nat × Nat)) (o : Nat) (z : cS) : Option (Int32 × cS × Nat × Nat) :=
    some ((-1), z, 0, 0)
noncomputable def fX6_remake_b223 (self : Nat → Int32 → Int32 → Int32 → Int32 → Int32 → cS → Option (Int32 × cS × Nat × Nat)) (o : Nat) (rec72 : Int32 → Int32 → Option Nat → Option Nat → Int32 → Option Nat → Int32 → Int32 → cS → Option (Int32 × cS × Nat × Nat)) (l4 : Int32) (l5 : Int32) (l6 : Option Nat) (l7 : Option Nat) (l8 : Int32) (l9 : Option Nat) (l10 : Int32) (l11 : Int32) (l12 : Int32) (l13 : Int32) (l14 : Int32) (l15 : Int32) (z : cS) : Option (Int32 × cS × Nat × Nat) :=
    if 0 ≤ (l15) then
      Option.bind (crc z l6 2) fun c245 =>
      Option.bind (fX2_get c245 l14 4 z) fun q245 =>
      Option.bind (crc (q245.2) l9 2) fun c249 =>
      Option.bind (fX2_add c249 l12 l13 l15 ((-100)) (q245.1) ((-1)) (q245.2)) fun q249 =>
      rec72 l4 l5 l6 l7 l8 l9 l10 (l11 + 1) (q249.2)
    else
      some ((-1), z, 0, 0)
noncomputable def fX6_remake_b194 (self : Nat → Int32 → Int32 → Int32 → Int32 → Int32 → cS → Option (Int32 × cS × Nat × Nat)) (o : Nat) (rec72 : Int32 → Int32 → Option Nat → Option Nat → Int32 → Option Nat → Int32 → Int32 → cS → Option (Int32 × cS × Nat × Nat)) (l4 : Int32) (l5 : Int32) (l6 : Option Nat) (l7 : Option Nat) (l8 : Int32) (l9 : Option Nat) (l10 : Int32) (l11 : Int32) (l12 : Int32) (l13 : Int32) (l14 : Int32) (s0 : Int32) (z : cS) : Option (Int32 × cS × Nat × Nat) :=
    fX6_remake_b223 self o rec72 l4 l5 l6 l7 l8 l9 l10 l11 l12 l13 l14 s0 z
noncomputable def fX6_remake_b72_body (self : Nat → Int32 → Int32 → Int32 → Int32 → Int32 → cS → Option (Int32 × cS × Nat × Nat)) (o : Nat) (rec72 : Int32 → Int32 → Option Nat → Option Nat → Int32 → Option Nat → Int32 → Int32 → cS → Option (Int32 × cS × Nat × Nat)) (l4 : Int32) (l5 : Int32) (l6 : Option Nat) (l7 : Option Nat) (l8 : Int32) (l9 : Option Nat) (l10 : Int32) (l11 : Int32) (z : cS) : Option (Int32 × cS × Nat × Nat) :=
    Option.bind l7 fun q76 =>
    Option.bind (cgI z q76 2 1) fun x76 =>
    if (x76) ≤ (l11) then
      some (l8, z, 0, 0)
    else
      Option.bind (crc z l7 2) fun c87 =>
      Option.bind (fX2_get c87 l11 0 z) fun q87 =>
      (fun v90 : Int32 =>
      Option.bind (crc (q87.2) l7 2) fun c97 =>
      Option.bind (fX2_get c97 l11 1 (q87.2)) fun q97 =>
      (fun v100 : Int32 =>
      Option.bind (crc (q97.2) l6 2) fun c108 =>
      Option.bind (fX2_placeOf c108 v90 v100 (q97.2)) fun q108 =>
      (fun v111 : Int32 =>
      if (v90) = (2) then
        Option.bind (crc (q108.2) l6 2) fun c125 =>
        Option.bind (fX2_get c125 v111 2 (q108.2)) fun q125 =>
        Option.bind (crc (q125.2) l7 2) fun c133 =>
        Option.bind (fX2_get c133 l11 2 (q125.2)) fun q133 =>
        Option.bind (crc (q133.2) (some o) 6) fun c144 =>
        abind (self c144 (q125.1) (q133.1) l10 l4 (l5 + 1) (q133.2)) fun v144 z144 =>
        (fun v153 : Int32 =>
        fX6_remake_b223 self o rec72 l4 l5 l6 l7 l8 l9 v153 l11 v90 v100 v111 v144 z144) (v144 + 1)
      else
        Option.bind (crc (q108.2) l7 2) fun c163 =>
        Option.bind (fX2_get c163 l11 2 (q108.2)) fun q163 =>
        if (q163.1) = ((-100)) then
          if (l4) = 0 then
            Option.bind (crc (q163.2) l6 2) fun c191 =>
            Option.bind (fX2_get c191 v111 2 (q163.2)) fun q191 =>
            fX6_remake_b194 self o rec72 l4 l5 l6 l7 l8 l9 l10 l11 v90 v100 v111 (q191.1) (q191.2)
          else
            Option.bind (cgR (q163.2) o 6 0) fun x177 =>
            Option.bind (crc (q163.2) x177 4) fun c180 =>
            Option.bind (fX4_newOne c180  (q163.2)) fun q180 =>
            fX6_remake_b194 self o rec72 l4 l5 l6 l7 l8 l9 l10 l11 v90 v100 v111 (q180.1) (q180.2)
        else
          Option.bind (crc (q163.2) l7 2) fun c207 =>
          Option.bind (fX2_get c207 l11 2 (q163.2)) fun q207 =>
          Option.bind (crc (q207.2) l7 2) fun c215 =>
          Option.bind (fX2_get c215 l11 3 (q207.2)) fun q215 =>
          Option.bind (crc (q215.2) (some o) 6) fun c218 =>
          Option.bind (fX6_typeTold c218 l9 (q207.1) (q215.1) (q215.2)) fun q218 =>
          (fun v221 : Int32 =>
          fX6_remake_b223 self o rec72 l4 l5 l6 l7 l8 l9 l10 l11 v90 v100 v111 v221 (q218.2)) (q218.1)) (q108.1)) (q97.1)) (q87.1)
noncomputable def fX6_remake_b72 (self : Nat → Int32 → Int32 → Int32 → Int32 → Int32 → cS → Option (Int32 × cS × Nat × Nat)) (o : Nat) : Nat → Int32 → Int32 → Option Nat → Option Nat → Int32 → Option Nat → Int32 → Int32 → cS → Option (Int32 × cS × Nat × Nat)
  | 0, _, _, _, _, _, _, _, _, _ => none
  | n + 1, l4, l5, l6, l7, l8, l9, l10, l11, z => fX6_remake_b72_body self o (fX6_remake_b72 self o n) l4 l5 l6 l7 l8 l9 l10 l11 z
noncomputable def fX6_remake_fun (self : Nat → Int32 → Int32 → Int32 → Int32 → Int32 → cS → Option (Int32 × cS × Nat × Nat)) (o : Nat) (a0 : Int32) (a1 : Int32) (a2 : Int32) (a3 : Int32) (a4 : Int32) (z : cS) : Option (Int32 × cS × Nat × Nat) :=
    Option.bind (cgR z o 6 1) fun x1 =>
    Option.bind (crc z x1 3) fun c5 =>
    Option.bind (fX3_at c5 a0 z) fun q5 =>
    (fun v8 : Option Nat =>
    Option.bind (cgR (q5.2) o 6 2) fun x11 =>
    Option.bind (crc (q5.2) x11 3) fun c15 =>
    Option.bind (fX3_at c15 a1 (q5.2)) fun q15 =>
    (fun v18 : Option Nat =>
    if v8 = none then
      fX6_remake_b37 self o  (q15.2)
    else
      if v18 = none then
        fX6_remake_b37 self o  (q15.2)
      else
        if (a4) ≤ (20) then
          Option.bind v18 fun q42 =>
          Option.bind (cgI (q15.2) q42 2 3) fun x42 =>
          (fun v46 : Int32 =>
          Option.bind (cgR (q15.2) o 6 1) fun x49 =>
          Option.bind (crc (q15.2) x49 3) fun c54 =>
          abind (fX3_blank c54 v46 (q15.2)) fun v54 z54 =>
          if v54 = none then
            some ((-1), z54, 0, 0)
          else
            fX6_remake_b72 self o rFuel a3 a4 v8 v18 v46 v54 a2 0 z54) (a2 + x42)
        else
          fX6_remake_b37 self o  (q15.2)) (q15.1)) (q5.1)
noncomputable def fX6_remake : Nat → Nat → Int32 → Int32 → Int32 → Int32 → Int32 → cS → Option (Int32 × cS × Nat × Nat)
  | 0, _, _, _, _, _, _, _ => none
  | n + 1, o, a0, a1, a2, a3, a4, z => fX6_remake_fun (fX6_remake n) o a0 a1 a2 a3 a4 z
noncomputable def fX6_remade (o : Nat) (a0 : Int32) (a1 : Int32) (a2 : Int32) (z : cS) : Option ((Int32 ⊕ Nat) × cS × Nat × Nat) :=
    Option.bind (cgR z o 6 1) fun x2 =>
    Option.bind (crc z (some o) 6) fun c8 =>
    Option.bind (fX6_firstMisfit 30 c8 x2 a0 a1 0 z) fun q8 =>
    if (q8.1) = 0 then
      Option.bind (cgR (q8.2) o 6 0) fun x25 =>
      Option.bind x25 fun q28 =>
      Option.bind (cgI (q8.2) q28 4 2) fun x28 =>
      Option.bind (cgR (q8.2) o 6 1) fun x37 =>
      Option.bind x37 fun q40 =>
      Option.bind (cgI (q8.2) q40 3 1) fun x40 =>
      Option.bind (crc (q8.2) (some o) 6) fun c45 =>
      abind (fX6_remake 30 c45 a0 a1 x40 a2 0 (q8.2)) fun v45 z45 =>
      if (v45) = ((-1)) then
        Option.bind (cgR z45 o 6 0) fun x57 =>
        Option.bind x57 fun q62 =>
        Option.bind (cpI z45 q62 4 2 x28) fun z62 =>
        some (.inr 2, z62, 1, 6)
      else
        Option.bind (cgR z45 o 6 1) fun x76 =>
        Option.bind x76 fun q83 =>
        Option.bind (cpI z45 q83 3 1 (v45 + 1)) fun z83 =>
        some (.inl v45, z83, 0, 0)
    else
      some (.inr 2, q8.2, 1, 6)
noncomputable def fX6_seal (o : Nat) (a0 : Int32) (a1 : Int32) (z : cS) : Option ((Int32 ⊕ Nat) × cS × Nat × Nat) :=
    Option.bind (cgR z o 6 1) fun x1 =>
    Option.bind (crc z x1 3) fun c5 =>
    Option.bind (fX3_at c5 a0 z) fun q5 =>
    tbind (fX6_needRow (q5.1) (q5.2)) fun v8 z8 =>
    Option.bind (cgR z8 o 6 2) fun x12 =>
    Option.bind (crc z8 x12 3) fun c16 =>
    Option.bind (fX3_at c16 a1 z8) fun q16 =>
    tbind (fX6_needRow (q16.1) (q16.2)) fun v19 z19 =>
    Option.bind (crc z19 (some o) 6) fun c26 =>
    tbind (fX6_remade c26 a0 a1 1 z19) fun v26 z26 =>
    some (.inl v26, z26, 0, 0)
noncomputable def fX6_view (o : Nat) (a0 : Int32) (a1 : Int32) (z : cS) : Option ((Int32 ⊕ Nat) × cS × Nat × Nat) :=
    Option.bind (cgR z o 6 1) fun x1 =>
    Option.bind (crc z x1 3) fun c5 =>
    Option.bind (fX3_at c5 a0 z) fun q5 =>
    tbind (fX6_needRow (q5.1) (q5.2)) fun v8 z8 =>
    Option.bind (cgR z8 o 6 2) fun x12 =>
    Option.bind (crc z8 x12 3) fun c16 =>
    Option.bind (fX3_at c16 a1 z8) fun q16 =>
    tbind (fX6_needRow (q16.1) (q16.2)) fun v19 z19 =>
    Option.bind (crc z19 (some o) 6) fun c26 =>
    tbind (fX6_remade c26 a0 a1 0 z19) fun v26 z26 =>
    some (.inl v26, z26, 0, 0)
noncomputable def fX6_finer_b41 (o : Nat) (s0 : Int32) (z : cS) : Option ((Int32 ⊕ Nat) × cS × Nat × Nat) :=
    cbo (s0) (some (.inl s0, z, 0, 0))
noncomputable def fX6_finer (o : Nat) (a0 : Int32) (a1 : Int32) (z : cS) : Option ((Int32 ⊕ Nat) × cS × Nat × Nat) :=
    Option.bind (cgR z o 6 2) fun x1 =>
    Option.bind (crc z x1 3) fun c5 =>
    Option.bind (fX3_at c5 a0 z) fun q5 =>
    tbind (fX6_needRow (q5.1) (q5.2)) fun v8 z8 =>
    Option.bind (cgR z8 o 6 2) fun x12 =>
    Option.bind (crc z8 x12 3) fun c16 =>
    Option.bind (fX3_at c16 a1 z8) fun q16 =>
    tbind (fX6_needRow (q16.1) (q16.2)) fun v19 z19 =>
    Option.bind (cgR z19 o 6 2) fun x24 =>
    Option.bind (crc z19 (some o) 6) fun c30 =>
    Option.bind (fX6_firstMisfit 30 c30 x24 a0 a1 0 z19) fun q30 =>
    if (q30.1) = 0 then
      fX6_finer_b41 o 1 (q30.2)
    else
      fX6_finer_b41 o 0 (q30.2)
noncomputable def fX6_areAlike_b49 (self : Nat → Int32 → Int32 → Int32 → cS → Option (Int32 × cS)) (o : Nat) (z : cS) : Option (Int32 × cS) :=
    cbo (0) (some (0, z))
noncomputable def fX6_areAlike_b193 (self : Nat → Int32 → Int32 → Int32 → cS → Option (Int32 × cS)) (o : Nat) (rec54 : Int32 → Option Nat → Option Nat → Int32 → cS → Option (Int32 × cS)) (l3 : Int32) (l4 : Option Nat) (l5 : Option Nat) (l6 : Int32) (s0 : Int32) (z : cS) : Option (Int32 × cS) :=
    if (s0) = 0 then
      cbo (0) (some (0, z))
    else
      rec54 l3 l4 l5 (l6 + 1) z
noncomputable def fX6_areAlike_b146 (self : Nat → Int32 → Int32 → Int32 → cS → Option (Int32 × cS)) (o : Nat) (rec54 : Int32 → Option Nat → Option Nat → Int32 → cS → Option (Int32 × cS)) (l3 : Int32) (l4 : Option Nat) (l5 : Option Nat) (l6 : Int32) (l7 : Int32) (l8 : Int32) (s0 : Int32) (z : cS) : Option (Int32 × cS) :=
    if (s0) = 0 then
      cbo (0) (some (0, z))
    else
      Option.bind (crc z l4 2) fun c160 =>
      Option.bind (fX2_get c160 l6 0 z) fun q160 =>
      if (q160.1) = (2) then
        Option.bind (crc (q160.2) (some o) 6) fun c175 =>
        Option.bind (self c175 l7 l8 (l3 + 1) (q160.2)) fun q175 =>
        fX6_areAlike_b193 self o rec54 l3 l4 l5 l6 (q175.1) (q175.2)
      else
        if (l7) = (l8) then
          fX6_areAlike_b193 self o rec54 l3 l4 l5 l6 1 (q160.2)
        else
          fX6_areAlike_b193 self o rec54 l3 l4 l5 l6 0 (q160.2)
noncomputable def fX6_areAlike_b145 (self : Nat → Int32 → Int32 → Int32 → cS → Option (Int32 × cS)) (o : Nat) (rec54 : Int32 → Option Nat → Option Nat → Int32 → cS → Option (Int32 × cS)) (l3 : Int32) (l4 : Option Nat) (l5 : Option Nat) (l6 : Int32) (l7 : Int32) (l8 : Int32) (z : cS) : Option (Int32 × cS) :=
    fX6_areAlike_b146 self o rec54 l3 l4 l5 l6 l7 l8 0 z
noncomputable def fX6_areAlike_b54_body (self : Nat → Int32 → Int32 → Int32 → cS → Option (Int32 × cS)) (o : Nat) (rec54 : Int32 → Option Nat → Option Nat → Int32 → cS → Option (Int32 × cS)) (l3 : Int32) (l4 : Option Nat) (l5 : Option Nat) (l6 : Int32) (z : cS) : Option (Int32 × cS) :=
    Option.bind l4 fun q58 =>
    Option.bind (cgI z q58 2 1) fun x58 =>
    if (x58) ≤ (l6) then
      cbo (1) (some (1, z))
    else
      Option.bind (crc z l4 2) fun c69 =>
      Option.bind (fX2_get c69 l6 2 z) fun q69 =>
      (fun v72 : Int32 =>
      Option.bind (crc (q69.2) l5 2) fun c79 =>
      Option.bind (fX2_get c79 l6 2 (q69.2)) fun q79 =>
      (fun v82 : Int32 =>
      Option.bind (crc (q79.2) l4 2) fun c89 =>
      Option.bind (fX2_get c89 l6 0 (q79.2)) fun q89 =>
      Option.bind (crc (q89.2) l5 2) fun c97 =>
      Option.bind (fX2_get c97 l6 0 (q89.2)) fun q97 =>
      if (q89.1) = (q97.1) then
        Option.bind (crc (q97.2) l4 2) fun c108 =>
        Option.bind (fX2_get c108 l6 1 (q97.2)) fun q108 =>
        Option.bind (crc (q108.2) l5 2) fun c116 =>
        Option.bind (fX2_get c116 l6 1 (q108.2)) fun q116 =>
        if (q108.1) = (q116.1) then
          Option.bind (crc (q116.2) l4 2) fun c127 =>
          Option.bind (fX2_get c127 l6 3 (q116.2)) fun q127 =>
          Option.bind (crc (q127.2) l5 2) fun c135 =>
          Option.bind (fX2_get c135 l6 3 (q127.2)) fun q135 =>
          if (q127.1) = (q135.1) then
            fX6_areAlike_b146 self o rec54 l3 l4 l5 l6 v72 v82 1 (q135.2)
          else
            fX6_areAlike_b145 self o rec54 l3 l4 l5 l6 v72 v82 (q135.2)
        else
          fX6_areAlike_b145 self o rec54 l3 l4 l5 l6 v72 v82 (q116.2)
      else
        fX6_areAlike_b145 self o rec54 l3 l4 l5 l6 v72 v82 (q97.2)) (q79.1)) (q69.1)
noncomputable def fX6_areAlike_b54 (self : Nat → Int32 → Int32 → Int32 → cS → Option (Int32 × cS)) (o : Nat) : Nat → Int32 → Option Nat → Option Nat → Int32 → cS → Option (Int32 × cS)
  | 0, _, _, _, _, _ => none
  | n + 1, l3, l4, l5, l6, z => fX6_areAlike_b54_body self o (fX6_areAlike_b54 self o n) l3 l4 l5 l6 z
noncomputable def fX6_areAlike_fun (self : Nat → Int32 → Int32 → Int32 → cS → Option (Int32 × cS)) (o : Nat) (a0 : Int32) (a1 : Int32) (a2 : Int32) (z : cS) : Option (Int32 × cS) :=
    Option.bind (cgR z o 6 2) fun x1 =>
    Option.bind (crc z x1 3) fun c5 =>
    Option.bind (fX3_at c5 a0 z) fun q5 =>
    (fun v8 : Option Nat =>
    Option.bind (cgR (q5.2) o 6 2) fun x11 =>
    Option.bind (crc (q5.2) x11 3) fun c15 =>
    Option.bind (fX3_at c15 a1 (q5.2)) fun q15 =>
    (fun v18 : Option Nat =>
    if v8 = none then
      fX6_areAlike_b49 self o  (q15.2)
    else
      if v18 = none then
        fX6_areAlike_b49 self o  (q15.2)
      else
        if (20) < (a2) then
          fX6_areAlike_b49 self o  (q15.2)
        else
          Option.bind v8 fun q38 =>
          Option.bind (cgI (q15.2) q38 2 1) fun x38 =>
          Option.bind v18 fun q43 =>
          Option.bind (cgI (q15.2) q43 2 1) fun x43 =>
          if (x38) = (x43) then
            fX6_areAlike_b54 self o rFuel a2 v8 v18 0 (q15.2)
          else
            fX6_areAlike_b49 self o  (q15.2)) (q15.1)) (q5.1)
noncomputable def fX6_areAlike : Nat → Nat → Int32 → Int32 → Int32 → cS → Option (Int32 × cS)
  | 0, _, _, _, _, _ => none
  | n + 1, o, a0, a1, a2, z => fX6_areAlike_fun (fX6_areAlike n) o a0 a1 a2 z
noncomputable def fX6_alike (o : Nat) (a0 : Int32) (a1 : Int32) (z : cS) : Option ((Int32 ⊕ Nat) × cS × Nat × Nat) :=
    Option.bind (cgR z o 6 2) fun x1 =>
    Option.bind (crc z x1 3) fun c5 =>
    Option.bind (fX3_at c5 a0 z) fun q5 =>
    tbind (fX6_needRow (q5.1) (q5.2)) fun v8 z8 =>
    Option.bind (cgR z8 o 6 2) fun x12 =>
    Option.bind (crc z8 x12 3) fun c16 =>
    Option.bind (fX3_at c16 a1 z8) fun q16 =>
    tbind (fX6_needRow (q16.1) (q16.2)) fun v19 z19 =>
    Option.bind (crc z19 (some o) 6) fun c26 =>
    Option.bind (fX6_areAlike 30 c26 a0 a1 0 z19) fun q26 =>
    cbo (q26.1) (some (.inl (q26.1), q26.2, 0, 0))
noncomputable def fX6_bodyType_b13 (o : Nat) (l1 : Int32) (l2 : Int32) (z : cS) : Option ((Int32 ⊕ Nat) × cS × Nat × Nat) :=
    Option.bind (cgR z o 6 5) fun x14 =>
    tbind (fX6_needPlace x14 0 l1 z) fun v19 z19 =>
    Option.bind (cgR z19 o 6 5) fun x23 =>
    Option.bind (crc z19 x23 2) fun c34 =>
    Option.bind (fX2_add c34 0 l1 ((-100)) ((-100)) 0 l2 z19) fun q34 =>
    Option.bind (cgR (q34.2) o 6 5) fun x38 =>
    Option.bind x38 fun q41 =>
    Option.bind (cgI (q34.2) q41 2 1) fun x41 =>
    some (.inl x41, q34.2, 0, 0)
noncomputable def fX6_bodyType (o : Nat) (a0 : Int32) (a1 : Int32) (z : cS) : Option ((Int32 ⊕ Nat) × cS × Nat × Nat) :=
    tbind (fX6_needName a0 z) fun v1 z1 =>
    if (a1) = ((-1)) then
      fX6_bodyType_b13 o a0 a1 z1
    else
      tbind (fX6_needName a1 z1) fun v10 z10 =>
      fX6_bodyType_b13 o a0 a1 z10
noncomputable def fX6_bodyValue_b39 (o : Nat) (l1 : Int32) (l2 : Int32) (l3 : Int32) (l4 : Int32) (l5 : Int32) (z : cS) : Option ((Int32 ⊕ Nat) × cS × Nat × Nat) :=
    tbind (fX6_needNumber l5 z) fun v41 z41 =>
    Option.bind (cgR z41 o 6 5) fun x45 =>
    tbind (fX6_needPlace x45 1 l1 z41) fun v50 z50 =>
    Option.bind (cgR z50 o 6 5) fun x54 =>
    Option.bind (crc z50 x54 2) fun c65 =>
    Option.bind (fX2_add c65 1 l1 l2 l3 l5 l4 z50) fun q65 =>
    Option.bind (cgR (q65.2) o 6 5) fun x69 =>
    Option.bind x69 fun q72 =>
    Option.bind (cgI (q65.2) q72 2 1) fun x72 =>
    some (.inl x72, q65.2, 0, 0)
noncomputable def fX6_bodyValue_b24 (o : Nat) (l1 : Int32) (l2 : Int32) (l3 : Int32) (l4 : Int32) (l5 : Int32) (z : cS) : Option ((Int32 ⊕ Nat) × cS × Nat × Nat) :=
    tbind (fX6_needName l1 z) fun v25 z25 =>
    if (l4) = ((-1)) then
      fX6_bodyValue_b39 o l1 l2 l3 l4 l5 z25
    else
      tbind (fX6_needName l4 z25) fun v36 z36 =>
      fX6_bodyValue_b39 o l1 l2 l3 l4 l5 z36
noncomputable def fX6_bodyValue (o : Nat) (a0 : Int32) (a1 : Int32) (a2 : Int32) (a3 : Int32) (a4 : Int32) (z : cS) : Option ((Int32 ⊕ Nat) × cS × Nat × Nat) :=
    Option.bind (cgR z o 6 5) fun x2 =>
    Option.bind (crc z (some o) 6) fun c6 =>
    tbind (fX6_needTold c6 x2 a1 z) fun v6 z6 =>
    if (a2) = ((-100)) then
      fX6_bodyValue_b24 o a0 a1 a2 a3 a4 z6
    else
      Option.bind (cgR z6 o 6 5) fun x17 =>
      Option.bind (crc z6 (some o) 6) fun c21 =>
      tbind (fX6_needTold c21 x17 a2 z6) fun v21 z21 =>
      fX6_bodyValue_b24 o a0 a1 a2 a3 a4 z21
noncomputable def fX6_functor_b31 (o : Nat) (z : cS) : Option ((Int32 ⊕ Nat) × cS × Nat × Nat) :=
    some (.inr 0, z, 1, 6)
noncomputable def fX6_functor_b62 (o : Nat) (z : cS) : Option ((Int32 ⊕ Nat) × cS × Nat × Nat) :=
    some (.inr 2, z, 1, 6)
noncomputable def fX6_functor_b136 (o : Nat) (rec75 : Int32 → Int32 → Int32 → Option Nat → Int32 → Int32 → cS → Option ((Int32 ⊕ Nat) × cS × Nat × Nat)) (l1 : Int32) (l2 : Int32) (l3 : Int32) (l4 : Option Nat) (l5 : Int32) (l6 : Int32) (z : cS) : Option ((Int32 ⊕ Nat) × cS × Nat × Nat) :=
    rec75 l1 l2 l3 l4 l5 (l6 + 1) z
noncomputable def fX6_functor_b75_body (o : Nat) (rec75 : Int32 → Int32 → Int32 → Option Nat → Int32 → Int32 → cS → Option ((Int32 ⊕ Nat) × cS × Nat × Nat)) (l1 : Int32) (l2 : Int32) (l3 : Int32) (l4 : Option Nat) (l5 : Int32) (l6 : Int32) (z : cS) : Option ((Int32 ⊕ Nat) × cS × Nat × Nat) :=
    Option.bind (cgR z o 6 5) fun x78 =>
    Option.bind x78 fun q81 =>
    Option.bind (cgI z q81 2 1) fun x81 =>
    if (x81) ≤ (l6) then
      ause 1 5 <|
      (fun z142 : cS =>
      abind (fX0_init (z.2.2.2) l1 l2 l3 z142) fun v149 z149 =>
      (fun v152 : Option Nat =>
      Option.bind v152 fun q156 =>
      Option.bind (cgR z149 q156 0 3) fun x156 =>
      Option.bind (cgR z149 o 6 5) fun x160 =>
      Option.bind (crc z149 x156 2) fun c163 =>
      Option.bind (fX2_addAll c163 x160 z149) fun q163 =>
      Option.bind (cgR (q163.2) o 6 5) fun x167 =>
      Option.bind (crc (q163.2) x167 2) fun c170 =>
      Option.bind (fX2_clear c170  (q163.2)) fun q170 =>
      Option.bind (cgR (q170.2) o 6 6) fun x174 =>
      Option.bind x174 fun q181 =>
      Option.bind (cstR (q170.2) q181 10 l5 v152) fun z181 =>
      Option.bind (cgI z181 o 6 7) fun x184 =>
      Option.bind (cpI z181 o 6 7 (x184 + 1)) fun z189 =>
      some (.inl l5, z189, 0, 0)) ((some z.2.2.2))) (cnw z 0 0)
    else
      Option.bind (cgR z o 6 5) fun x88 =>
      Option.bind (crc z x88 2) fun c94 =>
      Option.bind (fX2_get c94 l6 5 z) fun q94 =>
      (fun v97 : Int32 =>
      if (v97) = ((-1)) then
        fX6_functor_b136 o rec75 l1 l2 l3 l4 l5 l6 (q94.2)
      else
        Option.bind (cgR (q94.2) o 6 5) fun x108 =>
        Option.bind (crc (q94.2) x108 2) fun c114 =>
        Option.bind (fX2_get c114 l6 0 (q94.2)) fun q114 =>
        Option.bind (crc (q114.2) l4 2) fun c119 =>
        Option.bind (fX2_placeOf c119 (q114.1) v97 (q114.2)) fun q119 =>
        if (q119.1) = ((-1)) then
          some (.inr 2, q119.2, 1, 6)
        else
          fX6_functor_b136 o rec75 l1 l2 l3 l4 l5 l6 (q119.2)) (q94.1)
noncomputable def fX6_functor_b75 (o : Nat) : Nat → Int32 → Int32 → Int32 → Option Nat → Int32 → Int32 → cS → Option ((Int32 ⊕ Nat) × cS × Nat × Nat)
  | 0, _, _, _, _, _, _, _ => none
  | n + 1, l1, l2, l3, l4, l5, l6, z => fX6_functor_b75_body o (fX6_functor_b75 o n) l1 l2 l3 l4 l5 l6 z
noncomputable def fX6_functor_b41 (o : Nat) (l1 : Int32) (l2 : Int32) (l3 : Int32) (l4 : Option Nat) (z : cS) : Option ((Int32 ⊕ Nat) × cS × Nat × Nat) :=
    Option.bind (cgI z o 6 7) fun x42 =>
    if (x42) < 0 then
      fX6_functor_b62 o  z
    else
      Option.bind (cgR z o 6 6) fun x55 =>
      Option.bind x55 fun q58 =>
      Option.bind (clen z q58 10) fun x58 =>
      if (x42) < (x58) then
        fX6_functor_b75 o rFuel l1 l2 l3 l4 x42 0 z
      else
        fX6_functor_b62 o  z
noncomputable def fX6_functor (o : Nat) (a0 : Int32) (a1 : Int32) (a2 : Int32) (z : cS) : Option ((Int32 ⊕ Nat) × cS × Nat × Nat) :=
    Option.bind (cgR z o 6 2) fun x1 =>
    Option.bind (crc z x1 3) fun c5 =>
    Option.bind (fX3_at c5 a0 z) fun q5 =>
    (fun v8 : Option Nat =>
    if v8 = none then
      fX6_functor_b31 o  (q5.2)
    else
      if (a1) = ((-1)) then
        fX6_functor_b41 o a0 a1 a2 v8 (q5.2)
      else
        Option.bind (cgR (q5.2) o 6 2) fun x21 =>
        Option.bind (crc (q5.2) x21 3) fun c25 =>
        Option.bind (fX3_at c25 a1 (q5.2)) fun q25 =>
        if (q25.1) = none then
          fX6_functor_b31 o  (q25.2)
        else
          fX6_functor_b41 o a0 a1 a2 v8 (q25.2)) (q5.1)
noncomputable def fX6_cut (a0 : Int32) (z : cS) : Option (Int32 × cS) :=
    some (if ((-10000)) < (if a0 < 10000 then a0 else 10000) then (if a0 < 10000 then a0 else 10000) else ((-10000)), z)
noncomputable def fX6_fill_b122 (o : Nat) (rec3 : Option Nat → Option Nat → Option Nat → Int32 → cS → Option (Int32 × cS)) (l1 : Option Nat) (l2 : Option Nat) (l3 : Option Nat) (l4 : Int32) (l5 : Int32) (l7 : Int32) (l8 : Int32) (z : cS) : Option (Int32 × cS) :=
    if 0 ≤ (l8) then
      Option.bind (crc z l2 2) fun c136 =>
      Option.bind (fX2_get c136 l4 1 z) fun q136 =>
      Option.bind (fX6_cut l7 (q136.2)) fun q145 =>
      Option.bind (crc (q145.2) l1 2) fun c149 =>
      Option.bind (fX2_add c149 l5 (q136.1) l8 ((-100)) (q145.1) ((-1)) (q145.2)) fun q149 =>
      rec3 l1 l2 l3 (l4 + 1) (q149.2)
    else
      cbo (0) (some (0, z))
noncomputable def fX6_fill_b120 (o : Nat) (rec3 : Option Nat → Option Nat → Option Nat → Int32 → cS → Option (Int32 × cS)) (l1 : Option Nat) (l2 : Option Nat) (l3 : Option Nat) (l4 : Int32) (l5 : Int32) (l7 : Int32) (s0 : Int32) (z : cS) : Option (Int32 × cS) :=
    fX6_fill_b122 o rec3 l1 l2 l3 l4 l5 l7 s0 z
noncomputable def fX6_fill_b90 (o : Nat) (rec3 : Option Nat → Option Nat → Option Nat → Int32 → cS → Option (Int32 × cS)) (l1 : Option Nat) (l2 : Option Nat) (l3 : Option Nat) (l4 : Int32) (l5 : Int32) (l8 : Int32) (s0 : Int32) (s1 : Int32) (z : cS) : Option (Int32 × cS) :=
    (fun v91 : Int32 =>
    fX6_fill_b122 o rec3 l1 l2 l3 l4 l5 v91 l8 z) (s1 + s0)
noncomputable def fX6_fill_b3_body (o : Nat) (rec3 : Option Nat → Option Nat → Option Nat → Int32 → cS → Option (Int32 × cS)) (l1 : Option Nat) (l2 : Option Nat) (l3 : Option Nat) (l4 : Int32) (z : cS) : Option (Int32 × cS) :=
    Option.bind l2 fun q6 =>
    Option.bind (cgI z q6 2 1) fun x6 =>
    if (x6) ≤ (l4) then
      cbo (1) (some (1, z))
    else
      Option.bind (crc z l2 2) fun c16 =>
      Option.bind (fX2_get c16 l4 0 z) fun q16 =>
      (fun v19 : Int32 =>
      Option.bind (crc (q16.2) l2 2) fun c25 =>
      Option.bind (fX2_get c25 l4 5 (q16.2)) fun q25 =>
      (fun v28 : Int32 =>
      Option.bind (crc (q25.2) l2 2) fun c34 =>
      Option.bind (fX2_get c34 l4 4 (q25.2)) fun q34 =>
      (fun v37 : Int32 =>
      if (v19) = (1) then
        Option.bind (crc (q34.2) l2 2) fun c51 =>
        Option.bind (fX2_get c51 l4 2 (q34.2)) fun q51 =>
        Option.bind (crc (q51.2) l2 2) fun c58 =>
        Option.bind (fX2_get c58 l4 3 (q51.2)) fun q58 =>
        Option.bind (crc (q58.2) (some o) 6) fun c61 =>
        Option.bind (fX6_typeTold c61 l1 (q51.1) (q58.1) (q58.2)) fun q61 =>
        (fun v64 : Int32 =>
        if (v28) = ((-1)) then
          fX6_fill_b90 o rec3 l1 l2 l3 l4 v19 v64 0 v37 (q61.2)
        else
          Option.bind (crc (q61.2) l3 2) fun c83 =>
          Option.bind (fX2_placeOf c83 1 v28 (q61.2)) fun q83 =>
          Option.bind (crc (q83.2) l3 2) fun c87 =>
          Option.bind (fX2_get c87 (q83.1) 4 (q83.2)) fun q87 =>
          fX6_fill_b90 o rec3 l1 l2 l3 l4 v19 v64 (q87.1) v37 (q87.2)) (q61.1)
      else
        if (v28) = ((-1)) then
          Option.bind (cgR (q34.2) o 6 0) fun x103 =>
          Option.bind (crc (q34.2) x103 4) fun c106 =>
          Option.bind (fX4_newOne c106  (q34.2)) fun q106 =>
          fX6_fill_b120 o rec3 l1 l2 l3 l4 v19 v37 (q106.1) (q106.2)
        else
          Option.bind (crc (q34.2) l3 2) fun c117 =>
          Option.bind (fX2_typeOf c117 (((-1)) - v28) (q34.2)) fun q117 =>
          fX6_fill_b120 o rec3 l1 l2 l3 l4 v19 v37 (q117.1) (q117.2)) (q34.1)) (q25.1)) (q16.1)
noncomputable def fX6_fill_b3 (o : Nat) : Nat → Option Nat → Option Nat → Option Nat → Int32 → cS → Option (Int32 × cS)
  | 0, _, _, _, _, _ => none
  | n + 1, l1, l2, l3, l4, z => fX6_fill_b3_body o (fX6_fill_b3 o n) l1 l2 l3 l4 z
noncomputable def fX6_fill (o : Nat) (a0 : Option Nat) (a1 : Option Nat) (a2 : Option Nat) (z : cS) : Option (Int32 × cS) :=
    fX6_fill_b3 o rFuel a0 a1 a2 0 z
noncomputable def fX6_applyAnew_b53 (o : Nat) (z : cS) : Option (Int32 × cS × Nat × Nat) :=
    some ((-1), z, 0, 0)
noncomputable def fX6_applyAnew_b134 (o : Nat) (l6 : Int32) (z : cS) : Option (Int32 × cS × Nat × Nat) :=
    some (l6, z, 0, 0)
noncomputable def fX6_applyAnew (o : Nat) (a0 : Option Nat) (a1 : Int32) (z : cS) : Option (Int32 × cS × Nat × Nat) :=
    Option.bind (cgR z o 6 1) fun x1 =>
    Option.bind x1 fun q4 =>
    Option.bind (cgI z q4 3 1) fun x4 =>
    Option.bind (cgR z o 6 1) fun x9 =>
    Option.bind (crc z x9 3) fun c13 =>
    abind (fX3_blank c13 x4 z) fun v13 z13 =>
    Option.bind (cgR z13 o 6 1) fun x19 =>
    Option.bind (crc z13 x19 3) fun c23 =>
    Option.bind (fX3_at c23 a1 z13) fun q23 =>
    (fun v26 : Option Nat =>
    if v13 = none then
      fX6_applyAnew_b53 o  (q23.2)
    else
      if v26 = none then
        fX6_applyAnew_b53 o  (q23.2)
      else
        Option.bind a0 fun q42 =>
        Option.bind (cgR (q23.2) q42 0 3) fun x42 =>
        Option.bind (crc (q23.2) (some o) 6) fun c47 =>
        Option.bind (fX6_fill c47 v13 x42 v26 (q23.2)) fun q47 =>
        if (q47.1) = 0 then
          fX6_applyAnew_b53 o  (q47.2)
        else
          Option.bind (cgR (q47.2) o 6 1) fun x56 =>
          Option.bind x56 fun q60 =>
          Option.bind (cgI (q47.2) q60 3 1) fun x60 =>
          Option.bind x56 fun q65 =>
          Option.bind (cpI (q47.2) q65 3 1 (x60 + 1)) fun z65 =>
          Option.bind a0 fun q69 =>
          Option.bind (cgI z65 q69 0 1) fun x69 =>
          if (x69) = ((-1)) then
            some (x4, z65, 0, 0)
          else
            Option.bind (cgR z65 o 6 1) fun x80 =>
            Option.bind a0 fun q85 =>
            Option.bind (cgI z65 q85 0 1) fun x85 =>
            Option.bind (crc z65 (some o) 6) fun c89 =>
            Option.bind (fX6_firstMisfit 30 c89 x80 x4 x85 0 z65) fun q89 =>
            if (q89.1) = 0 then
              Option.bind a0 fun q100 =>
              Option.bind (cgI (q89.2) q100 0 1) fun x100 =>
              Option.bind (cgR (q89.2) o 6 1) fun x104 =>
              Option.bind x104 fun q107 =>
              Option.bind (cgI (q89.2) q107 3 1) fun x107 =>
              Option.bind (crc (q89.2) (some o) 6) fun c112 =>
              abind (fX6_remake 30 c112 x4 x100 x107 1 0 (q89.2)) fun v112 z112 =>
              if (v112) = ((-1)) then
                fX6_applyAnew_b134 o v112 z112
              else
                Option.bind (cgR z112 o 6 1) fun x124 =>
                Option.bind x124 fun q131 =>
                Option.bind (cpI z112 q131 3 1 (v112 + 1)) fun z131 =>
                fX6_applyAnew_b134 o v112 z131
            else
              some ((-1), q89.2, 0, 0)) (q23.1)
noncomputable def fX6_functorAt_b23 (o : Nat) (s0 : Option Nat) (z : cS) : Option ((Option Nat) × cS) :=
    some (s0, z)
noncomputable def fX6_functorAt_b22 (o : Nat) (z : cS) : Option ((Option Nat) × cS) :=
    fX6_functorAt_b23 o none z
noncomputable def fX6_functorAt (o : Nat) (a0 : Int32) (z : cS) : Option ((Option Nat) × cS) :=
    if (a0) < 0 then
      fX6_functorAt_b22 o  z
    else
      Option.bind (cgR z o 6 6) fun x6 =>
      Option.bind x6 fun q9 =>
      Option.bind (clen z q9 10) fun x9 =>
      if (x9) ≤ (a0) then
        fX6_functorAt_b22 o  z
      else
        Option.bind (cgR z o 6 6) fun x14 =>
        Option.bind x14 fun q18 =>
        Option.bind (cldR z q18 10 a0) fun x18 =>
        fX6_functorAt_b23 o x18 z
noncomputable def fX6_apply_b21 (o : Nat) (z : cS) : Option ((Int32 ⊕ Nat) × cS × Nat × Nat) :=
    some (.inr 0, z, 1, 6)
noncomputable def fX6_apply (o : Nat) (a0 : Int32) (a1 : Int32) (z : cS) : Option ((Int32 ⊕ Nat) × cS × Nat × Nat) :=
    Option.bind (crc z (some o) 6) fun c2 =>
    Option.bind (fX6_functorAt c2 a0 z) fun q2 =>
    (fun v5 : Option Nat =>
    if v5 = none then
      fX6_apply_b21 o  (q2.2)
    else
      Option.bind (cgR (q2.2) o 6 1) fun x11 =>
      Option.bind (crc (q2.2) x11 3) fun c15 =>
      Option.bind (fX3_at c15 a1 (q2.2)) fun q15 =>
      if (q15.1) = none then
        fX6_apply_b21 o  (q15.2)
      else
        Option.bind (crc (q15.2) v5 0) fun c33 =>
        Option.bind (fX0_resultOf c33 a1 (q15.2)) fun q33 =>
        (fun v36 : Int32 =>
        if (v36) = ((-1)) then
          Option.bind (cgR (q33.2) o 6 1) fun x49 =>
          Option.bind v5 fun q54 =>
          Option.bind (cgI (q33.2) q54 0 0) fun x54 =>
          Option.bind (crc (q33.2) (some o) 6) fun c58 =>
          Option.bind (fX6_firstMisfit 30 c58 x49 a1 x54 0 (q33.2)) fun q58 =>
          if (q58.1) = 0 then
            Option.bind (cgR (q58.2) o 6 0) fun x75 =>
            Option.bind x75 fun q78 =>
            Option.bind (cgI (q58.2) q78 4 2) fun x78 =>
            Option.bind (cgR (q58.2) o 6 1) fun x84 =>
            Option.bind x84 fun q87 =>
            Option.bind (cgI (q58.2) q87 3 1) fun x87 =>
            Option.bind (crc (q58.2) (some o) 6) fun c95 =>
            abind (fX6_applyAnew c95 v5 a1 (q58.2)) fun v95 z95 =>
            if (v95) = ((-1)) then
              Option.bind (cgR z95 o 6 0) fun x107 =>
              Option.bind x107 fun q112 =>
              Option.bind (cpI z95 q112 4 2 x78) fun z112 =>
              Option.bind (cgR z112 o 6 1) fun x116 =>
              Option.bind x116 fun q121 =>
              Option.bind (cpI z112 q121 3 1 x87) fun z121 =>
              some (.inr 2, z121, 1, 6)
            else
              Option.bind (crc z95 v5 0) fun c138 =>
              Option.bind (fX0_note c138 a1 v95 z95) fun q138 =>
              some (.inl v95, q138.2, 0, 0)
          else
            some (.inr 2, q58.2, 1, 6)
        else
          some (.inl v36, q33.2, 0, 0)) (q33.1)) (q2.1)
noncomputable def fX6_pack_b40 (o : Nat) (z : cS) : Option ((Int32 ⊕ Nat) × cS × Nat × Nat) :=
    some (.inr 2, z, 1, 6)
noncomputable def fX6_pack (o : Nat) (a0 : Int32) (a1 : Int32) (z : cS) : Option ((Int32 ⊕ Nat) × cS × Nat × Nat) :=
    Option.bind (cgR z o 6 1) fun x1 =>
    Option.bind (crc z x1 3) fun c5 =>
    Option.bind (fX3_at c5 a0 z) fun q5 =>
    tbind (fX6_needRow (q5.1) (q5.2)) fun v8 z8 =>
    Option.bind (cgR z8 o 6 2) fun x12 =>
    Option.bind (crc z8 x12 3) fun c16 =>
    Option.bind (fX3_at c16 a1 z8) fun q16 =>
    tbind (fX6_needRow (q16.1) (q16.2)) fun v19 z19 =>
    Option.bind (cgI z19 o 6 9) fun x23 =>
    if (x23) < 0 then
      fX6_pack_b40 o  z19
    else
      Option.bind (cgR z19 o 6 8) fun x33 =>
      Option.bind x33 fun q36 =>
      Option.bind (clen z19 q36 11) fun x36 =>
      if (x23) < (x36) then
        Option.bind (cgR z19 o 6 1) fun x53 =>
        Option.bind (crc z19 (some o) 6) fun c59 =>
        Option.bind (fX6_firstMisfit 30 c59 x53 a0 a1 0 z19) fun q59 =>
        if (q59.1) = 0 then
          Option.bind (cgR (q59.2) o 6 8) fun x76 =>
          ause 1 2 <|
          (fun z80 : cS =>
          Option.bind (fX1_init ((q59.2).2.2.2) a0 a1 z80) fun q86 =>
          Option.bind x76 fun q89 =>
          Option.bind (cstR (q86.2) q89 11 x23 ((some (q59.2).2.2.2))) fun z89 =>
          Option.bind (cgI z89 o 6 9) fun x92 =>
          Option.bind (cpI z89 o 6 9 (x92 + 1)) fun z97 =>
          some (.inl x23, z97, 0, 0)) (cnw (q59.2) 1 0)
        else
          some (.inr 2, q59.2, 1, 6)
      else
        fX6_pack_b40 o  z19
noncomputable def fX6_unpack_b23 (o : Nat) (s0 : Option Nat) (z : cS) : Option ((Int32 ⊕ Nat) × cS × Nat × Nat) :=
    if s0 = none then
      some (.inr 0, z, 1, 6)
    else
      Option.bind s0 fun q41 =>
      Option.bind (cgI z q41 1 0) fun x41 =>
      Option.bind s0 fun q45 =>
      Option.bind (cgI z q45 1 1) fun x45 =>
      Option.bind (crc z (some o) 6) fun c49 =>
      tbind (fX6_remade c49 x41 x45 1 z) fun v49 z49 =>
      some (.inl v49, z49, 0, 0)
noncomputable def fX6_unpack_b22 (o : Nat) (z : cS) : Option ((Int32 ⊕ Nat) × cS × Nat × Nat) :=
    fX6_unpack_b23 o none z
noncomputable def fX6_unpack (o : Nat) (a0 : Int32) (z : cS) : Option ((Int32 ⊕ Nat) × cS × Nat × Nat) :=
    if (a0) < 0 then
      fX6_unpack_b22 o  z
    else
      Option.bind (cgR z o 6 8) fun x6 =>
      Option.bind x6 fun q9 =>
      Option.bind (clen z q9 11) fun x9 =>
      if (x9) ≤ (a0) then
        fX6_unpack_b22 o  z
      else
        Option.bind (cgR z o 6 8) fun x14 =>
        Option.bind x14 fun q18 =>
        Option.bind (cldR z q18 11 a0) fun x18 =>
        fX6_unpack_b23 o x18 z
noncomputable def fX6_unit_b60 (o : Nat) (z : cS) : Option ((Int32 ⊕ Nat) × cS × Nat × Nat) :=
    some (.inr 2, z, 1, 6)
noncomputable def fX6_unit (o : Nat) (a0 : Int32) (a1 : Int32) (a2 : Int32) (z : cS) : Option ((Int32 ⊕ Nat) × cS × Nat × Nat) :=
    Option.bind (cgR z o 6 2) fun x1 =>
    Option.bind (crc z x1 3) fun c5 =>
    Option.bind (fX3_at c5 a0 z) fun q5 =>
    tbind (fX6_needRow (q5.1) (q5.2)) fun v8 z8 =>
    Option.bind (cgI z8 o 6 11) fun x12 =>
    (fun v23 : Int32 =>
    if (a1 &&& (v23 ^^^ ((-1)))) = 0 then
      if (x12) < 0 then
        fX6_unit_b60 o  z8
      else
        Option.bind (cgR z8 o 6 10) fun x53 =>
        Option.bind x53 fun q56 =>
        Option.bind (clen z8 q56 13) fun x56 =>
        if (x12) < (x56) then
          Option.bind (cgR z8 o 6 10) fun x72 =>
          ause 1 7 <|
          (fun z77 : cS =>
          abind (fX5_init (z8.2.2.2) a0 a1 a2 z77) fun v84 z84 =>
          Option.bind x72 fun q87 =>
          Option.bind (cstR z84 q87 13 x12 ((some z8.2.2.2))) fun z87 =>
          Option.bind (cgI z87 o 6 11) fun x90 =>
          Option.bind (cpI z87 o 6 11 (x90 + 1)) fun z95 =>
          some (.inl x12, z95, 0, 0)) (cnw z8 5 0)
        else
          fX6_unit_b60 o  z8
    else
      some (.inr 0, z8, 1, 6)) ((1 <<< (x12 &&& 31)) - 1)
noncomputable def fX6_unitAt_b23 (o : Nat) (s0 : Option Nat) (z : cS) : Option ((Option Nat) × cS) :=
    some (s0, z)
noncomputable def fX6_unitAt_b22 (o : Nat) (z : cS) : Option ((Option Nat) × cS) :=
    fX6_unitAt_b23 o none z
noncomputable def fX6_unitAt (o : Nat) (a0 : Int32) (z : cS) : Option ((Option Nat) × cS) :=
    if (a0) < 0 then
      fX6_unitAt_b22 o  z
    else
      Option.bind (cgR z o 6 10) fun x6 =>
      Option.bind x6 fun q9 =>
      Option.bind (clen z q9 13) fun x9 =>
      if (x9) ≤ (a0) then
        fX6_unitAt_b22 o  z
      else
        Option.bind (cgR z o 6 10) fun x14 =>
        Option.bind x14 fun q18 =>
        Option.bind (cldR z q18 13 a0) fun x18 =>
        fX6_unitAt_b23 o x18 z
noncomputable def fX6_change_b26 (o : Nat) (z : cS) : Option ((Int32 ⊕ Nat) × cS × Nat × Nat) :=
    some (.inr 0, z, 1, 6)
noncomputable def fX6_change_b47 (o : Nat) (l3 : Option Nat) (z : cS) : Option ((Int32 ⊕ Nat) × cS × Nat × Nat) :=
    Option.bind l3 fun q49 =>
    Option.bind (cgI z q49 5 3) fun x49 =>
    Option.bind l3 fun q54 =>
    Option.bind (cpI z q54 5 3 (x49 + 1)) fun z54 =>
    Option.bind l3 fun q58 =>
    Option.bind (cgI z54 q58 5 3) fun x58 =>
    some (.inl x58, z54, 0, 0)
noncomputable def fX6_change_b37 (o : Nat) (l2 : Int32) (l3 : Option Nat) (z : cS) : Option ((Int32 ⊕ Nat) × cS × Nat × Nat) :=
    if (l2) = ((-1)) then
      fX6_change_b47 o l3 z
    else
      Option.bind l3 fun q44 =>
      Option.bind (cpI z q44 5 2 l2) fun z44 =>
      fX6_change_b47 o l3 z44
noncomputable def fX6_change (o : Nat) (a0 : Int32) (a1 : Int32) (z : cS) : Option ((Int32 ⊕ Nat) × cS × Nat × Nat) :=
    Option.bind (crc z (some o) 6) fun c2 =>
    Option.bind (fX6_unitAt c2 a0 z) fun q2 =>
    (fun v5 : Option Nat =>
    if v5 = none then
      fX6_change_b26 o  (q2.2)
    else
      if (a1) = ((-1)) then
        fX6_change_b37 o a1 v5 (q2.2)
      else
        Option.bind (cgR (q2.2) o 6 2) fun x16 =>
        Option.bind (crc (q2.2) x16 3) fun c20 =>
        Option.bind (fX3_at c20 a1 (q2.2)) fun q20 =>
        if (q20.1) = none then
          fX6_change_b26 o  (q20.2)
        else
          fX6_change_b37 o a1 v5 (q20.2)) (q2.1)
noncomputable def fX6_isStale_b79 (o : Nat) (rec15 : Option Nat → Int32 → cS → Option (Int32 × cS)) (l1 : Option Nat) (l2 : Int32) (z : cS) : Option (Int32 × cS) :=
    rec15 l1 (l2 + 1) z
noncomputable def fX6_isStale_b77 (o : Nat) (z : cS) : Option (Int32 × cS) :=
    cbo (1) (some (1, z))
noncomputable def fX6_isStale_b15_body (o : Nat) (rec15 : Option Nat → Int32 → cS → Option (Int32 × cS)) (l1 : Option Nat) (l2 : Int32) (z : cS) : Option (Int32 × cS) :=
    Option.bind (cgI z o 6 11) fun x17 =>
    if (x17) ≤ (l2) then
      cbo (0) (some (0, z))
    else
      Option.bind (crc z (some o) 6) fun c25 =>
      Option.bind (fX6_unitAt c25 l2 z) fun q25 =>
      (fun v28 : Option Nat =>
      if v28 = none then
        fX6_isStale_b79 o rec15 l1 l2 (q25.2)
      else
        Option.bind (crc (q25.2) l1 5) fun c35 =>
        Option.bind (fX5_isUsing c35 l2 (q25.2)) fun q35 =>
        if (q35.1) = 0 then
          fX6_isStale_b79 o rec15 l1 l2 (q35.2)
        else
          Option.bind v28 fun q43 =>
          Option.bind (cgI (q35.2) q43 5 2) fun x43 =>
          Option.bind (crc (q35.2) l1 5) fun c48 =>
          Option.bind (fX5_notedFace c48 l2 (q35.2)) fun q48 =>
          Option.bind (crc (q48.2) (some o) 6) fun c52 =>
          Option.bind (fX6_areAlike 30 c52 x43 (q48.1) 0 (q48.2)) fun q52 =>
          if (q52.1) = 0 then
            fX6_isStale_b77 o  (q52.2)
          else
            Option.bind v28 fun q59 =>
            Option.bind (cgI (q52.2) q59 5 1) fun x59 =>
            if (x59) = 0 then
              fX6_isStale_b79 o rec15 l1 l2 (q52.2)
            else
              Option.bind v28 fun q66 =>
              Option.bind (cgI (q52.2) q66 5 3) fun x66 =>
              Option.bind (crc (q52.2) l1 5) fun c71 =>
              Option.bind (fX5_notedChanges c71 l2 (q52.2)) fun q71 =>
              if (x66) = (q71.1) then
                fX6_isStale_b79 o rec15 l1 l2 (q71.2)
              else
                fX6_isStale_b77 o  (q71.2)) (q25.1)
noncomputable def fX6_isStale_b15 (o : Nat) : Nat → Option Nat → Int32 → cS → Option (Int32 × cS)
  | 0, _, _, _ => none
  | n + 1, l1, l2, z => fX6_isStale_b15_body o (fX6_isStale_b15 o n) l1 l2 z
noncomputable def fX6_isStale (o : Nat) (a0 : Option Nat) (z : cS) : Option (Int32 × cS) :=
    Option.bind a0 fun q1 =>
    Option.bind (cgI z q1 5 4) fun x1 =>
    Option.bind a0 fun q5 =>
    Option.bind (cgI z q5 5 3) fun x5 =>
    if (x1) = (x5) then
      fX6_isStale_b15 o rFuel a0 0 z
    else
      cbo (1) (some (1, z))
noncomputable def fX6_stale_b36 (o : Nat) (rec4 : Int32 → Int32 → cS → Option (Int32 × cS)) (l1 : Int32) (l2 : Int32) (z : cS) : Option (Int32 × cS) :=
    rec4 l1 (l2 + 1) z
noncomputable def fX6_stale_b4_body (o : Nat) (rec4 : Int32 → Int32 → cS → Option (Int32 × cS)) (l1 : Int32) (l2 : Int32) (z : cS) : Option (Int32 × cS) :=
    Option.bind (cgI z o 6 11) fun x6 =>
    if (x6) ≤ (l2) then
      some (l1, z)
    else
      Option.bind (crc z (some o) 6) fun c14 =>
      Option.bind (fX6_unitAt c14 l2 z) fun q14 =>
      (fun v17 : Option Nat =>
      if v17 = none then
        fX6_stale_b36 o rec4 l1 l2 (q14.2)
      else
        Option.bind (crc (q14.2) (some o) 6) fun c24 =>
        Option.bind (fX6_isStale c24 v17 (q14.2)) fun q24 =>
        if (q24.1) = 0 then
          fX6_stale_b36 o rec4 l1 l2 (q24.2)
        else
          (fun v35 : Int32 =>
          fX6_stale_b36 o rec4 v35 l2 (q24.2)) (l1 ||| (1 <<< (l2 &&& 31)))) (q14.1)
noncomputable def fX6_stale_b4 (o : Nat) : Nat → Int32 → Int32 → cS → Option (Int32 × cS)
  | 0, _, _, _ => none
  | n + 1, l1, l2, z => fX6_stale_b4_body o (fX6_stale_b4 o n) l1 l2 z
noncomputable def fX6_stale (o : Nat) (z : cS) : Option (Int32 × cS) :=
    fX6_stale_b4 o rFuel 0 0 z
noncomputable def fX6_noteAllUsed_b49 (o : Nat) (rec10 : Option Nat → Int32 → cS → Option (Unit × cS)) (l1 : Option Nat) (l2 : Int32) (z : cS) : Option (Unit × cS) :=
    rec10 l1 (l2 + 1) z
noncomputable def fX6_noteAllUsed_b10_body (o : Nat) (rec10 : Option Nat → Int32 → cS → Option (Unit × cS)) (l1 : Option Nat) (l2 : Int32) (z : cS) : Option (Unit × cS) :=
    Option.bind (cgI z o 6 11) fun x12 =>
    if (x12) ≤ (l2) then
      some ((), z)
    else
      Option.bind (crc z (some o) 6) fun c20 =>
      Option.bind (fX6_unitAt c20 l2 z) fun q20 =>
      (fun v23 : Option Nat =>
      if v23 = none then
        fX6_noteAllUsed_b49 o rec10 l1 l2 (q20.2)
      else
        Option.bind (crc (q20.2) l1 5) fun c30 =>
        Option.bind (fX5_isUsing c30 l2 (q20.2)) fun q30 =>
        if (q30.1) = 0 then
          fX6_noteAllUsed_b49 o rec10 l1 l2 (q30.2)
        else
          Option.bind v23 fun q39 =>
          Option.bind (cgI (q30.2) q39 5 2) fun x39 =>
          Option.bind v23 fun q43 =>
          Option.bind (cgI (q30.2) q43 5 3) fun x43 =>
          Option.bind (crc (q30.2) l1 5) fun c46 =>
          Option.bind (fX5_note c46 l2 x39 x43 (q30.2)) fun q46 =>
          fX6_noteAllUsed_b49 o rec10 l1 l2 (q46.2)) (q20.1)
noncomputable def fX6_noteAllUsed_b10 (o : Nat) : Nat → Option Nat → Int32 → cS → Option (Unit × cS)
  | 0, _, _, _ => none
  | n + 1, l1, l2, z => fX6_noteAllUsed_b10_body o (fX6_noteAllUsed_b10 o n) l1 l2 z
noncomputable def fX6_noteAllUsed (o : Nat) (a0 : Option Nat) (z : cS) : Option (Unit × cS) :=
    Option.bind a0 fun q2 =>
    Option.bind (cgI z q2 5 3) fun x2 =>
    Option.bind a0 fun q5 =>
    Option.bind (cpI z q5 5 4 x2) fun z5 =>
    fX6_noteAllUsed_b10 o rFuel a0 0 z5
noncomputable def fX6_build_b38 (o : Nat) (rec4 : Int32 → Int32 → cS → Option (Int32 × cS)) (l1 : Int32) (l2 : Int32) (z : cS) : Option (Int32 × cS) :=
    rec4 l1 (l2 + 1) z
noncomputable def fX6_build_b4_body (o : Nat) (rec4 : Int32 → Int32 → cS → Option (Int32 × cS)) (l1 : Int32) (l2 : Int32) (z : cS) : Option (Int32 × cS) :=
    Option.bind (cgI z o 6 11) fun x6 =>
    if (x6) ≤ (l2) then
      some (l1, z)
    else
      Option.bind (crc z (some o) 6) fun c14 =>
      Option.bind (fX6_unitAt c14 l2 z) fun q14 =>
      (fun v17 : Option Nat =>
      if v17 = none then
        fX6_build_b38 o rec4 l1 l2 (q14.2)
      else
        Option.bind (crc (q14.2) (some o) 6) fun c24 =>
        Option.bind (fX6_isStale c24 v17 (q14.2)) fun q24 =>
        if (q24.1) = 0 then
          fX6_build_b38 o rec4 l1 l2 (q24.2)
        else
          Option.bind (crc (q24.2) (some o) 6) fun c32 =>
          Option.bind (fX6_noteAllUsed c32 v17 (q24.2)) fun q32 =>
          fX6_build_b38 o rec4 (l1 + 1) l2 (q32.2)) (q14.1)
noncomputable def fX6_build_b4 (o : Nat) : Nat → Int32 → Int32 → cS → Option (Int32 × cS)
  | 0, _, _, _ => none
  | n + 1, l1, l2, z => fX6_build_b4_body o (fX6_build_b4 o n) l1 l2 z
noncomputable def fX6_build (o : Nat) (z : cS) : Option (Int32 × cS) :=
    fX6_build_b4 o rFuel 0 0 z
noncomputable def fX7_init_b412_body (o : Nat) (rec412 : Int32 → cS → Option (Unit × cS × Nat × Nat)) (l1 : Int32) (z : cS) : Option (Unit × cS × Nat × Nat) :=
    if (240) ≤ (l1) then
      some ((), z, 0, 0)
    else
      Option.bind (cgR z o 7 28) fun x420 =>
      Option.bind x420 fun q425 =>
      Option.bind (cstI z q425 l1 ((-1))) fun z425 =>
      rec412 (l1 + 1) z425
noncomputable def fX7_init_b412 (o : Nat) : Nat → Int32 → cS → Option (Unit × cS × Nat × Nat)
  | 0, _, _ => none
  | n + 1, l1, z => fX7_init_b412_body o (fX7_init_b412 o n) l1 z
noncomputable def fX7_init (o : Nat) (z : cS) : Option (Unit × cS × Nat × Nat) :=
    Option.bind (cpI z o 7 0 2) fun z6 =>
    Option.bind (cna z6 8 400) fun z13 =>
    ause 1 400 <|
    Option.bind (cpR z13 o 7 1 ((some z6.2.2.2))) fun z15 =>
    Option.bind (cna z15 8 400) fun z22 =>
    ause 1 400 <|
    Option.bind (cpR z22 o 7 2 ((some z15.2.2.2))) fun z24 =>
    Option.bind (cna z24 8 400) fun z31 =>
    ause 1 400 <|
    Option.bind (cpR z31 o 7 3 ((some z24.2.2.2))) fun z33 =>
    Option.bind (cna z33 8 101) fun z39 =>
    ause 1 101 <|
    Option.bind (cpR z39 o 7 5 ((some z33.2.2.2))) fun z41 =>
    Option.bind (cna z41 8 6060) fun z48 =>
    ause 1 6060 <|
    Option.bind (cpR z48 o 7 6 ((some z41.2.2.2))) fun z50 =>
    Option.bind (cna z50 8 6060) fun z57 =>
    ause 1 6060 <|
    Option.bind (cpR z57 o 7 7 ((some z50.2.2.2))) fun z59 =>
    Option.bind (cna z59 8 6060) fun z66 =>
    ause 1 6060 <|
    Option.bind (cpR z66 o 7 8 ((some z59.2.2.2))) fun z68 =>
    Option.bind (cna z68 8 6060) fun z75 =>
    ause 1 6060 <|
    Option.bind (cpR z75 o 7 9 ((some z68.2.2.2))) fun z77 =>
    Option.bind (cna z77 8 21) fun z83 =>
    ause 1 21 <|
    Option.bind (cpR z83 o 7 11 ((some z77.2.2.2))) fun z85 =>
    Option.bind (cna z85 8 21) fun z91 =>
    ause 1 21 <|
    Option.bind (cpR z91 o 7 12 ((some z85.2.2.2))) fun z93 =>
    Option.bind (cna z93 8 1260) fun z100 =>
    ause 1 1260 <|
    Option.bind (cpR z100 o 7 13 ((some z93.2.2.2))) fun z102 =>
    Option.bind (cna z102 8 1260) fun z109 =>
    ause 1 1260 <|
    Option.bind (cpR z109 o 7 14 ((some z102.2.2.2))) fun z111 =>
    Option.bind (cna z111 8 1260) fun z118 =>
    ause 1 1260 <|
    Option.bind (cpR z118 o 7 15 ((some z111.2.2.2))) fun z120 =>
    Option.bind (cna z120 8 1260) fun z127 =>
    ause 1 1260 <|
    Option.bind (cpR z127 o 7 16 ((some z120.2.2.2))) fun z129 =>
    Option.bind (cna z129 8 9) fun z135 =>
    ause 1 9 <|
    Option.bind (cpR z135 o 7 18 ((some z129.2.2.2))) fun z137 =>
    Option.bind (cna z137 8 180) fun z144 =>
    ause 1 180 <|
    Option.bind (cpR z144 o 7 19 ((some z137.2.2.2))) fun z146 =>
    Option.bind (cna z146 8 180) fun z153 =>
    ause 1 180 <|
    Option.bind (cpR z153 o 7 20 ((some z146.2.2.2))) fun z155 =>
    Option.bind (cna z155 8 180) fun z162 =>
    ause 1 180 <|
    Option.bind (cpR z162 o 7 21 ((some z155.2.2.2))) fun z164 =>
    Option.bind (cna z164 8 180) fun z171 =>
    ause 1 180 <|
    Option.bind (cpR z171 o 7 22 ((some z164.2.2.2))) fun z173 =>
    Option.bind (cna z173 8 180) fun z180 =>
    ause 1 180 <|
    Option.bind (cpR z180 o 7 23 ((some z173.2.2.2))) fun z182 =>
    Option.bind (cna z182 8 180) fun z189 =>
    ause 1 180 <|
    Option.bind (cpR z189 o 7 24 ((some z182.2.2.2))) fun z191 =>
    Option.bind (cna z191 8 8) fun z197 =>
    ause 1 8 <|
    Option.bind (cpR z197 o 7 25 ((some z191.2.2.2))) fun z199 =>
    Option.bind (cna z199 8 8) fun z205 =>
    ause 1 8 <|
    Option.bind (cpR z205 o 7 26 ((some z199.2.2.2))) fun z207 =>
    Option.bind (cna z207 9 8) fun z213 =>
    ause 1 8 <|
    Option.bind (cpR z213 o 7 27 ((some z207.2.2.2))) fun z215 =>
    Option.bind (cna z215 8 240) fun z222 =>
    ause 1 240 <|
    Option.bind (cpR z222 o 7 28 ((some z215.2.2.2))) fun z224 =>
    Option.bind (cna z224 8 10) fun z230 =>
    ause 1 10 <|
    Option.bind (cpR z230 o 7 30 ((some z224.2.2.2))) fun z232 =>
    Option.bind (cna z232 8 10) fun z238 =>
    ause 1 10 <|
    Option.bind (cpR z238 o 7 31 ((some z232.2.2.2))) fun z240 =>
    Option.bind (cna z240 8 8) fun z246 =>
    ause 1 8 <|
    Option.bind (cpR z246 o 7 33 ((some z240.2.2.2))) fun z248 =>
    Option.bind (cna z248 8 8) fun z254 =>
    ause 1 8 <|
    Option.bind (cpR z254 o 7 34 ((some z248.2.2.2))) fun z256 =>
    Option.bind (cna z256 9 8) fun z262 =>
    ause 1 8 <|
    Option.bind (cpR z262 o 7 35 ((some z256.2.2.2))) fun z264 =>
    Option.bind (cna z264 8 8) fun z270 =>
    ause 1 8 <|
    Option.bind (cpR z270 o 7 36 ((some z264.2.2.2))) fun z272 =>
    Option.bind (cna z272 9 8) fun z278 =>
    ause 1 8 <|
    Option.bind (cpR z278 o 7 37 ((some z272.2.2.2))) fun z280 =>
    Option.bind (cna z280 8 8) fun z286 =>
    ause 1 8 <|
    Option.bind (cpR z286 o 7 38 ((some z280.2.2.2))) fun z288 =>
    Option.bind (cna z288 8 64) fun z294 =>
    ause 1 64 <|
    Option.bind (cpR z294 o 7 39 ((some z288.2.2.2))) fun z296 =>
    Option.bind (cna z296 8 64) fun z302 =>
    ause 1 64 <|
    Option.bind (cpR z302 o 7 40 ((some z296.2.2.2))) fun z304 =>
    Option.bind (cna z304 8 22) fun z310 =>
    ause 1 22 <|
    Option.bind (cpR z310 o 7 42 ((some z304.2.2.2))) fun z312 =>
    Option.bind (cna z312 8 22) fun z318 =>
    ause 1 22 <|
    Option.bind (cpR z318 o 7 43 ((some z312.2.2.2))) fun z320 =>
    Option.bind (cna z320 8 22) fun z326 =>
    ause 1 22 <|
    Option.bind (cpR z326 o 7 44 ((some z320.2.2.2))) fun z328 =>
    Option.bind (cna z328 8 22) fun z334 =>
    ause 1 22 <|
    Option.bind (cpR z334 o 7 45 ((some z328.2.2.2))) fun z336 =>
    Option.bind (cna z336 8 220) fun z343 =>
    ause 1 220 <|
    Option.bind (cpR z343 o 7 46 ((some z336.2.2.2))) fun z345 =>
    Option.bind (cna z345 8 22) fun z351 =>
    ause 1 22 <|
    Option.bind (cpR z351 o 7 47 ((some z345.2.2.2))) fun z353 =>
    Option.bind (cna z353 8 1320) fun z360 =>
    ause 1 1320 <|
    Option.bind (cpR z360 o 7 48 ((some z353.2.2.2))) fun z362 =>
    Option.bind (cna z362 8 1320) fun z369 =>
    ause 1 1320 <|
    Option.bind (cpR z369 o 7 49 ((some z362.2.2.2))) fun z371 =>
    Option.bind (cna z371 8 1320) fun z378 =>
    ause 1 1320 <|
    Option.bind (cpR z378 o 7 50 ((some z371.2.2.2))) fun z380 =>
    Option.bind (cna z380 8 1320) fun z387 =>
    ause 1 1320 <|
    Option.bind (cpR z387 o 7 51 ((some z380.2.2.2))) fun z389 =>
    Option.bind (cna z389 8 2000) fun z396 =>
    ause 1 2000 <|
    Option.bind (cpR z396 o 7 52 ((some z389.2.2.2))) fun z398 =>
    Option.bind (cna z398 9 400) fun z405 =>
    ause 1 400 <|
    Option.bind (cpR z405 o 7 53 ((some z398.2.2.2))) fun z407 =>
    fX7_init_b412 o rFuel 0 z407
