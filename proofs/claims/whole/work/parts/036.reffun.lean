/-! what the reference does, method by method, as functions of its state (laid by a program out of its bytecode) -/
noncomputable def fX7_thrown (S : rS) : Option (Int32 × rS) :=
    some (S.1 54, S)
noncomputable def fX7_fails_b14 (s0 : Int32) (S : rS) : Option (Int32 × rS) :=
    rbo (s0) S
noncomputable def fX7_fails (a0 : Int32) (S : rS) : Option (Int32 × rS) :=
    (fun S2 : rS =>
    if (a0) ≤ 0 then
      fX7_fails_b14 0 S2
    else
      fX7_fails_b14 1 S2) (rpf S 54 (a0))
noncomputable def fX7_isIn_b15 (s0 : Int32) (S : rS) : Option (Int32 × rS) :=
    rbo (s0) S
noncomputable def fX7_isIn_b14 (S : rS) : Option (Int32 × rS) :=
    fX7_isIn_b15 0 S
noncomputable def fX7_isIn (a0 : Int32) (a1 : Int32) (a2 : Int32) (S : rS) : Option (Int32 × rS) :=
    if (a0) < (a1) then
      fX7_isIn_b14  S
    else
      if (a2) < (a0) then
        fX7_isIn_b14  S
      else
        fX7_isIn_b15 1 S
noncomputable def fX7_isName (a0 : Int32) (S : rS) : Option (Int32 × rS) :=
    Option.bind (fX7_isIn a0 0 9 S) fun q4 =>
    rbo (q4.1) (q4.2)
noncomputable def fX7_isNumber (a0 : Int32) (S : rS) : Option (Int32 × rS) :=
    Option.bind (fX7_isIn a0 ((-10000)) 10000 S) fun q7 =>
    rbo (q7.1) (q7.2)
noncomputable def fX7_isType (a0 : Int32) (S : rS) : Option (Int32 × rS) :=
    Option.bind (fX7_isIn a0 0 ((S.1 0) - 1) S) fun q8 =>
    rbo (q8.1) (q8.2)
noncomputable def fX7_findsArrow_b53 (rec5 : Int32 → Int32 → Int32 → Int32 → rS → Option (Int32 × rS)) (l1 : Int32) (l2 : Int32) (l4 : Int32) (s0 : Int32) (S : rS) : Option (Int32 × rS) :=
    rec5 l1 l2 s0 (l4 + 1) S
noncomputable def fX7_findsArrow_b52 (rec5 : Int32 → Int32 → Int32 → Int32 → rS → Option (Int32 × rS)) (l1 : Int32) (l2 : Int32) (l3 : Int32) (l4 : Int32) (S : rS) : Option (Int32 × rS) :=
    fX7_findsArrow_b53 rec5 l1 l2 l4 l3 S
noncomputable def fX7_findsArrow_b5_body (rec5 : Int32 → Int32 → Int32 → Int32 → rS → Option (Int32 × rS)) (l1 : Int32) (l2 : Int32) (l3 : Int32) (l4 : Int32) (S : rS) : Option (Int32 × rS) :=
    if (S.1 0) ≤ (l4) then
      some (l3, S)
    else
      Option.bind (rd S 1 (l4)) fun x20 =>
      if (x20) = (2) then
        Option.bind (rd S 2 (l4)) fun x31 =>
        if (x31) = (l1) then
          Option.bind (rd S 3 (l4)) fun x42 =>
          if (x42) = (l2) then
            fX7_findsArrow_b53 rec5 l1 l2 l4 l4 S
          else
            fX7_findsArrow_b52 rec5 l1 l2 l3 l4 S
        else
          fX7_findsArrow_b52 rec5 l1 l2 l3 l4 S
      else
        fX7_findsArrow_b52 rec5 l1 l2 l3 l4 S
noncomputable def fX7_findsArrow_b5 : Nat → Int32 → Int32 → Int32 → Int32 → rS → Option (Int32 × rS)
  | 0, _, _, _, _, _ => none
  | n + 1, l1, l2, l3, l4, S => fX7_findsArrow_b5_body (fX7_findsArrow_b5 n) l1 l2 l3 l4 S
noncomputable def fX7_findsArrow (a0 : Int32) (a1 : Int32) (S : rS) : Option (Int32 × rS) :=
    fX7_findsArrow_b5 rFuel a0 a1 ((-1)) 0 S
noncomputable def fX7_makesType (a0 : Int32) (a1 : Int32) (a2 : Int32) (S : rS) : Option (Int32 × rS) :=
    Option.bind (rwr S 1 (S.1 0) (a0)) fun S9 =>
    Option.bind (rwr S9 2 (S9.1 0) (a1)) fun S19 =>
    Option.bind (rwr S19 3 (S19.1 0) (a2)) fun S29 =>
    (fun S37 : rS =>
    some ((S37.1 0) - 1, S37)) (rpf S29 0 ((S29.1 0) + 1))
noncomputable def fX7_arrowOf_b23 (s0 : Int32) (S : rS) : Option (Int32 × rS) :=
    some (s0, S)
noncomputable def fX7_arrowOf (a0 : Int32) (a1 : Int32) (S : rS) : Option (Int32 × rS) :=
    Option.bind (fX7_findsArrow a0 a1 S) fun q3 =>
    (fun v6 : Int32 =>
    if (v6) = ((-1)) then
      Option.bind (fX7_makesType 2 a0 a1 (q3.2)) fun q20 =>
      fX7_arrowOf_b23 (q20.1) (q20.2)
    else
      fX7_arrowOf_b23 v6 (q3.2)) (q3.1)
noncomputable def fX7_arrow_b56 (l1 : Int32) (l2 : Int32) (s0 : Int32) (S : rS) : Option (Int32 × rS) :=
    Option.bind (fX7_fails s0 S) fun q56 =>
    if (q56.1) = 0 then
      Option.bind (fX7_arrowOf l1 l2 (q56.2)) fun q67 =>
      some (q67.1, q67.2)
    else
      some (0, q56.2)
noncomputable def fX7_arrow_b55 (l1 : Int32) (l2 : Int32) (S : rS) : Option (Int32 × rS) :=
    fX7_arrow_b56 l1 l2 0 S
noncomputable def fX7_arrow_b21 (l1 : Int32) (l2 : Int32) (s0 : Int32) (S : rS) : Option (Int32 × rS) :=
    if (s0) = 0 then
      fX7_arrow_b56 l1 l2 1 S
    else
      Option.bind (fX7_findsArrow l1 l2 S) fun q34 =>
      if (q34.1) = ((-1)) then
        if (q34.2.1 0) = (200) then
          fX7_arrow_b56 l1 l2 2 (q34.2)
        else
          fX7_arrow_b55 l1 l2 (q34.2)
      else
        fX7_arrow_b55 l1 l2 (q34.2)
noncomputable def fX7_arrow_b20 (l1 : Int32) (l2 : Int32) (S : rS) : Option (Int32 × rS) :=
    fX7_arrow_b21 l1 l2 0 S
noncomputable def fX7_arrow (a0 : Int32) (a1 : Int32) (S : rS) : Option (Int32 × rS) :=
    Option.bind (fX7_isType a0 S) fun q2 =>
    if (q2.1) = 0 then
      fX7_arrow_b20 a0 a1 (q2.2)
    else
      Option.bind (fX7_isType a1 (q2.2)) fun q10 =>
      if (q10.1) = 0 then
        fX7_arrow_b20 a0 a1 (q10.2)
      else
        fX7_arrow_b21 a0 a1 1 (q10.2)
noncomputable def fX7_type_b82 (s0 : Int32) (S : rS) : Option (Int32 × rS) :=
    some (s0, S)
noncomputable def fX7_type_b27 (l1 : Int32) (l2 : Int32) (s0 : Int32) (S : rS) : Option (Int32 × rS) :=
    Option.bind (fX7_fails s0 S) fun q27 =>
    if (q27.1) = 0 then
      if (l2) = 0 then
        Option.bind (rd (q27.2) 1 (l1)) fun x44 =>
        fX7_type_b82 x44 (q27.2)
      else
        Option.bind (rd (q27.2) 1 (l1)) fun x53 =>
        if (x53) = (2) then
          if (l2) = (1) then
            Option.bind (rd (q27.2) 2 (l1)) fun x72 =>
            fX7_type_b82 x72 (q27.2)
          else
            Option.bind (rd (q27.2) 3 (l1)) fun x81 =>
            fX7_type_b82 x81 (q27.2)
        else
          fX7_type_b82 ((-1)) (q27.2)
    else
      some (0, q27.2)
noncomputable def fX7_type (a0 : Int32) (a1 : Int32) (S : rS) : Option (Int32 × rS) :=
    Option.bind (fX7_isType a0 S) fun q3 =>
    if (q3.1) = 0 then
      fX7_type_b27 a0 a1 1 (q3.2)
    else
      Option.bind (fX7_isIn a1 0 2 (q3.2)) fun q16 =>
      if (q16.1) = 0 then
        fX7_type_b27 a0 a1 2 (q16.2)
      else
        fX7_type_b27 a0 a1 0 (q16.2)
noncomputable def fX7_findsItem_b54 (rec9 : Int32 → Int32 → Int32 → Int32 → Int32 → rS → Option (Int32 × rS)) (l1 : Int32) (l2 : Int32) (l3 : Int32) (l5 : Int32) (s0 : Int32) (S : rS) : Option (Int32 × rS) :=
    rec9 l1 l2 l3 s0 (l5 + 1) S
noncomputable def fX7_findsItem_b52 (rec9 : Int32 → Int32 → Int32 → Int32 → Int32 → rS → Option (Int32 × rS)) (l1 : Int32) (l2 : Int32) (l3 : Int32) (l4 : Int32) (l5 : Int32) (S : rS) : Option (Int32 × rS) :=
    fX7_findsItem_b54 rec9 l1 l2 l3 l5 l4 S
noncomputable def fX7_findsItem_b9_body (rec9 : Int32 → Int32 → Int32 → Int32 → Int32 → rS → Option (Int32 × rS)) (l1 : Int32) (l2 : Int32) (l3 : Int32) (l4 : Int32) (l5 : Int32) (S : rS) : Option (Int32 × rS) :=
    Option.bind (rd S 5 (l1)) fun x20 =>
    if ((60 * l1) + x20) ≤ (l5) then
      some (l4, S)
    else
      Option.bind (rd S 6 (l5)) fun x31 =>
      if (x31) = (l2) then
        Option.bind (rd S 7 (l5)) fun x42 =>
        if (x42) = (l3) then
          fX7_findsItem_b54 rec9 l1 l2 l3 l5 l5 S
        else
          fX7_findsItem_b52 rec9 l1 l2 l3 l4 l5 S
      else
        fX7_findsItem_b52 rec9 l1 l2 l3 l4 l5 S
noncomputable def fX7_findsItem_b9 : Nat → Int32 → Int32 → Int32 → Int32 → Int32 → rS → Option (Int32 × rS)
  | 0, _, _, _, _, _, _ => none
  | n + 1, l1, l2, l3, l4, l5, S => fX7_findsItem_b9_body (fX7_findsItem_b9 n) l1 l2 l3 l4 l5 S
noncomputable def fX7_findsItem (a0 : Int32) (a1 : Int32) (a2 : Int32) (S : rS) : Option (Int32 × rS) :=
    (fun v7 : Int32 =>
    fX7_findsItem_b9 rFuel a0 a1 a2 ((-1)) v7 S) (60 * a0)
noncomputable def fX7_puts (a0 : Int32) (a1 : Int32) (a2 : Int32) (a3 : Int32) (a4 : Int32) (S : rS) : Option (rS) :=
    Option.bind (rd S 5 (a0)) fun x9 =>
    (fun v11 : Int32 =>
    Option.bind (rwr S 6 (v11) (a1)) fun S20 =>
    Option.bind (rwr S20 7 (v11) (a2)) fun S28 =>
    Option.bind (rwr S28 8 (v11) (a3)) fun S37 =>
    Option.bind (rwr S37 9 (v11) (a4)) fun S46 =>
    Option.bind (rd S46 5 (a0)) fun x53 =>
    Option.bind (rwr S46 5 (a0) (x53 + 1)) fun S56 =>
    some S56) ((60 * a0) + x9)
noncomputable def fX7_adds_b139 (s0 : Int32) (S : rS) : Option (Int32 × rS) :=
    rbo (s0) S
noncomputable def fX7_adds_b117 (l1 : Int32) (l2 : Int32) (l3 : Int32) (l4 : Int32) (l5 : Int32) (S : rS) : Option (Int32 × rS) :=
    Option.bind (fX7_puts 100 l1 l2 l3 l4 S) fun q125 =>
    if (l5) = ((-1)) then
      fX7_adds_b139 0 q125
    else
      fX7_adds_b139 1 q125
noncomputable def fX7_adds_b31_body (rec31 : Int32 → Int32 → Int32 → Int32 → Int32 → Int32 → rS → Option (Int32 × rS)) (l1 : Int32) (l2 : Int32) (l3 : Int32) (l4 : Int32) (l5 : Int32) (l6 : Int32) (S : rS) : Option (Int32 × rS) :=
    Option.bind (rd S 5 (100)) fun x42 =>
    if (6000 + x42) ≤ (l6) then
      fX7_adds_b117 l1 l2 l3 l4 l5 S
    else
      Option.bind (rd S 6 (l6 + 1)) fun x61 =>
      Option.bind (rwr S 6 (l6) (x61)) fun S62 =>
      Option.bind (rd S62 7 (l6 + 1)) fun x77 =>
      Option.bind (rwr S62 7 (l6) (x77)) fun S78 =>
      Option.bind (rd S78 8 (l6 + 1)) fun x93 =>
      Option.bind (rwr S78 8 (l6) (x93)) fun S94 =>
      Option.bind (rd S94 9 (l6 + 1)) fun x109 =>
      Option.bind (rwr S94 9 (l6) (x109)) fun S110 =>
      rec31 l1 l2 l3 l4 l5 (l6 + 1) S110
noncomputable def fX7_adds_b31 : Nat → Int32 → Int32 → Int32 → Int32 → Int32 → Int32 → rS → Option (Int32 × rS)
  | 0, _, _, _, _, _, _, _ => none
  | n + 1, l1, l2, l3, l4, l5, l6, S => fX7_adds_b31_body (fX7_adds_b31 n) l1 l2 l3 l4 l5 l6 S
noncomputable def fX7_adds (a0 : Int32) (a1 : Int32) (a2 : Int32) (a3 : Int32) (S : rS) : Option (Int32 × rS) :=
    Option.bind (fX7_findsItem 100 a0 a1 S) fun q5 =>
    (fun v8 : Int32 =>
    if (v8) = ((-1)) then
      fX7_adds_b117 a0 a1 a2 a3 v8 (q5.2)
    else
      Option.bind (rd (q5.2) 5 (100)) fun x23 =>
      Option.bind (rwr (q5.2) 5 (100) (x23 - 1)) fun S26 =>
      fX7_adds_b31 rFuel a0 a1 a2 a3 v8 v8 S26) (q5.1)
noncomputable def fX7_addType_b83 (l1 : Int32) (s0 : Int32) (S : rS) : Option (Int32 × rS) :=
    Option.bind (fX7_adds 0 l1 s0 0 S) fun q91 =>
    some (s0, q91.2)
noncomputable def fX7_addType_b59 (l1 : Int32) (l2 : Int32) (s0 : Int32) (S : rS) : Option (Int32 × rS) :=
    Option.bind (fX7_fails s0 S) fun q59 =>
    if (q59.1) = 0 then
      if (l2) = ((-1)) then
        Option.bind (fX7_makesType 1 ((-1)) ((-1)) (q59.2)) fun q76 =>
        fX7_addType_b83 l1 (q76.1) (q76.2)
      else
        fX7_addType_b83 l1 l2 (q59.2)
    else
      some (0, q59.2)
noncomputable def fX7_addType_b58 (l1 : Int32) (l2 : Int32) (S : rS) : Option (Int32 × rS) :=
    fX7_addType_b59 l1 l2 0 S
noncomputable def fX7_addType_b18 (l1 : Int32) (l2 : Int32) (s0 : Int32) (S : rS) : Option (Int32 × rS) :=
    if (s0) = 0 then
      fX7_addType_b59 l1 l2 1 S
    else
      Option.bind (fX7_isName l1 S) fun q29 =>
      if (q29.1) = 0 then
        fX7_addType_b59 l1 l2 2 (q29.2)
      else
        if (l2) = ((-1)) then
          if (q29.2.1 0) = (200) then
            fX7_addType_b59 l1 l2 3 (q29.2)
          else
            fX7_addType_b58 l1 l2 (q29.2)
        else
          fX7_addType_b58 l1 l2 (q29.2)
noncomputable def fX7_addType_b13 (l1 : Int32) (l2 : Int32) (S : rS) : Option (Int32 × rS) :=
    fX7_addType_b18 l1 l2 1 S
noncomputable def fX7_addType (a0 : Int32) (a1 : Int32) (S : rS) : Option (Int32 × rS) :=
    if (a1) = ((-1)) then
      fX7_addType_b13 a0 a1 S
    else
      Option.bind (fX7_isType a1 S) fun q7 =>
      if (q7.1) = 0 then
        fX7_addType_b18 a0 a1 0 (q7.2)
      else
        fX7_addType_b13 a0 a1 (q7.2)
noncomputable def fX7_addValue_b32 (l1 : Int32) (l2 : Int32) (l3 : Int32) (s0 : Int32) (S : rS) : Option (Int32 × rS) :=
    Option.bind (fX7_fails s0 S) fun q32 =>
    if (q32.1) = 0 then
      Option.bind (fX7_adds 1 l1 l2 l3 (q32.2)) fun q45 =>
      rbo (q45.1) (q45.2)
    else
      rbo (0) (q32.2)
noncomputable def fX7_addValue_b31 (l1 : Int32) (l2 : Int32) (l3 : Int32) (S : rS) : Option (Int32 × rS) :=
    fX7_addValue_b32 l1 l2 l3 2 S
noncomputable def fX7_addValue (a0 : Int32) (a1 : Int32) (a2 : Int32) (S : rS) : Option (Int32 × rS) :=
    Option.bind (fX7_isType a1 S) fun q3 =>
    if (q3.1) = 0 then
      fX7_addValue_b32 a0 a1 a2 1 (q3.2)
    else
      Option.bind (fX7_isName a0 (q3.2)) fun q14 =>
      if (q14.1) = 0 then
        fX7_addValue_b31 a0 a1 a2 (q14.2)
      else
        Option.bind (fX7_isNumber a2 (q14.2)) fun q21 =>
        if (q21.1) = 0 then
          fX7_addValue_b31 a0 a1 a2 (q21.2)
        else
          fX7_addValue_b32 a0 a1 a2 0 (q21.2)
noncomputable def fX7_isStructure (a0 : Int32) (S : rS) : Option (Int32 × rS) :=
    Option.bind (fX7_isIn a0 0 ((S.1 4) - 1) S) fun q8 =>
    rbo (q8.1) (q8.2)
noncomputable def fX7_addPart_b25 (l1 : Int32) (l2 : Int32) (s0 : Int32) (S : rS) : Option (Int32 × rS) :=
    Option.bind (fX7_fails s0 S) fun q25 =>
    if (q25.1) = 0 then
      Option.bind (fX7_adds 2 l1 l2 0 (q25.2)) fun q38 =>
      rbo (q38.1) (q38.2)
    else
      rbo (0) (q25.2)
noncomputable def fX7_addPart (a0 : Int32) (a1 : Int32) (S : rS) : Option (Int32 × rS) :=
    Option.bind (fX7_isStructure a1 S) fun q3 =>
    if (q3.1) = 0 then
      fX7_addPart_b25 a0 a1 1 (q3.2)
    else
      Option.bind (fX7_isName a0 (q3.2)) fun q14 =>
      if (q14.1) = 0 then
        fX7_addPart_b25 a0 a1 2 (q14.2)
      else
        fX7_addPart_b25 a0 a1 0 (q14.2)
noncomputable def fX7_open_b81 (rec29 : Int32 → Int32 → Int32 → rS → Option (Int32 × rS)) (l1 : Int32) (l3 : Int32) (s0 : Int32) (s1 : Int32) (S : rS) : Option (Int32 × rS) :=
    (fun v82 : Int32 =>
    rec29 l1 v82 (l3 + 1) S) (s1 + s0)
noncomputable def fX7_open_b29_body (rec29 : Int32 → Int32 → Int32 → rS → Option (Int32 × rS)) (l1 : Int32) (l2 : Int32) (l3 : Int32) (S : rS) : Option (Int32 × rS) :=
    Option.bind (rd S 5 (l1)) fun x39 =>
    if ((60 * l1) + x39) ≤ (l3) then
      some (l2, S)
    else
      Option.bind (rd S 6 (l3)) fun x51 =>
      Option.bind (rd S 7 (l3)) fun x57 =>
      Option.bind (rd S 8 (l3)) fun x63 =>
      Option.bind (rd S 9 (l3)) fun x69 =>
      Option.bind (fX7_adds x51 x57 x63 x69 S) fun q70 =>
      if (q70.1) = 0 then
        fX7_open_b81 rec29 l1 l3 0 l2 (q70.2)
      else
        fX7_open_b81 rec29 l1 l3 1 l2 (q70.2)
noncomputable def fX7_open_b29 : Nat → Int32 → Int32 → Int32 → rS → Option (Int32 × rS)
  | 0, _, _, _, _ => none
  | n + 1, l1, l2, l3, S => fX7_open_b29_body (fX7_open_b29 n) l1 l2 l3 S
noncomputable def fX7_open_b14 (l1 : Int32) (s0 : Int32) (S : rS) : Option (Int32 × rS) :=
    Option.bind (fX7_fails s0 S) fun q14 =>
    if (q14.1) = 0 then
      (fun v28 : Int32 =>
      fX7_open_b29 rFuel l1 0 v28 (q14.2)) (60 * l1)
    else
      some (0, q14.2)
noncomputable def fX7_open (a0 : Int32) (S : rS) : Option (Int32 × rS) :=
    Option.bind (fX7_isStructure a0 S) fun q3 =>
    if (q3.1) = 0 then
      fX7_open_b14 a0 1 (q3.2)
    else
      fX7_open_b14 a0 0 (q3.2)
noncomputable def fX7_structure_b37_body (rec37 : Int32 → rS → Option (Int32 × rS)) (l1 : Int32) (S : rS) : Option (Int32 × rS) :=
    Option.bind (rd S 5 (100)) fun x47 =>
    if (6000 + x47) ≤ (l1) then
      Option.bind (rwr S 5 (100) (0)) fun S97 =>
      (fun S105 : rS =>
      some ((S105.1 4) - 1, S105)) (rpf S97 4 ((S97.1 4) + 1))
    else
      Option.bind (rd S 6 (l1)) fun x62 =>
      Option.bind (rd S 7 (l1)) fun x68 =>
      Option.bind (rd S 8 (l1)) fun x74 =>
      Option.bind (rd S 9 (l1)) fun x80 =>
      Option.bind (fX7_puts (S.1 4) x62 x68 x74 x80 S) fun q81 =>
      rec37 (l1 + 1) q81
noncomputable def fX7_structure_b37 : Nat → Int32 → rS → Option (Int32 × rS)
  | 0, _, _ => none
  | n + 1, l1, S => fX7_structure_b37_body (fX7_structure_b37 n) l1 S
noncomputable def fX7_structure_b15 (s0 : Int32) (S : rS) : Option (Int32 × rS) :=
    Option.bind (fX7_fails s0 S) fun q15 =>
    if (q15.1) = 0 then
      Option.bind (rwr (q15.2) 5 (q15.2.1 4) (0)) fun S32 =>
      fX7_structure_b37 rFuel 6000 S32
    else
      some (0, q15.2)
noncomputable def fX7_structure (S : rS) : Option (Int32 × rS) :=
    if (S.1 4) = (30) then
      fX7_structure_b15 1 S
    else
      fX7_structure_b15 0 S
noncomputable def fX7_item_b136 (s0 : Int32) (S : rS) : Option (Int32 × rS) :=
    some (s0, S)
noncomputable def fX7_item_b81 (l1 : Int32) (l2 : Int32) (l4 : Int32) (l6 : Int32) (s0 : Int32) (S : rS) : Option (Int32 × rS) :=
    Option.bind (fX7_fails s0 S) fun q81 =>
    if (q81.1) = 0 then
      if (l4) = 0 then
        Option.bind (rd (q81.2) 8 (l6)) fun x100 =>
        fX7_item_b136 x100 (q81.2)
      else
        if (l4) = (1) then
          fX7_item_b136 (l6 - (60 * l1)) (q81.2)
        else
          if (l2) = (1) then
            Option.bind (rd (q81.2) 9 (l6)) fun x131 =>
            fX7_item_b136 x131 (q81.2)
          else
            fX7_item_b136 0 (q81.2)
    else
      some (0, q81.2)
noncomputable def fX7_item_b32 (l1 : Int32) (l2 : Int32) (l4 : Int32) (l5 : Int32) (s0 : Int32) (S : rS) : Option (Int32 × rS) :=
    Option.bind (fX7_isStructure l1 S) fun q37 =>
    if (q37.1) = 0 then
      fX7_item_b81 l1 l2 l4 s0 1 (q37.2)
    else
      if (l5) = 0 then
        fX7_item_b81 l1 l2 l4 s0 2 (q37.2)
      else
        if (s0) = ((-1)) then
          fX7_item_b81 l1 l2 l4 s0 1 (q37.2)
        else
          Option.bind (fX7_isIn l4 0 2 (q37.2)) fun q70 =>
          if (q70.1) = 0 then
            fX7_item_b81 l1 l2 l4 s0 2 (q70.2)
          else
            fX7_item_b81 l1 l2 l4 s0 0 (q70.2)
noncomputable def fX7_item_b31 (l1 : Int32) (l2 : Int32) (l4 : Int32) (l5 : Int32) (S : rS) : Option (Int32 × rS) :=
    fX7_item_b32 l1 l2 l4 l5 ((-1)) S
noncomputable def fX7_item (a0 : Int32) (a1 : Int32) (a2 : Int32) (a3 : Int32) (S : rS) : Option (Int32 × rS) :=
    Option.bind (fX7_isIn a1 0 2 S) fun q3 =>
    (fun v6 : Int32 =>
    Option.bind (fX7_isStructure a0 (q3.2)) fun q10 =>
    if (q10.1) = 0 then
      fX7_item_b31 a0 a1 a3 v6 (q10.2)
    else
      if (v6) = 0 then
        fX7_item_b31 a0 a1 a3 v6 (q10.2)
      else
        Option.bind (fX7_findsItem a0 a1 a2 (q10.2)) fun q25 =>
        fX7_item_b32 a0 a1 a3 v6 (q25.1) (q25.2)) (q3.1)
noncomputable def fX7_items_b30 (s0 : Int32) (S : rS) : Option (Int32 × rS) :=
    some (s0, S)
noncomputable def fX7_items_b14 (l1 : Int32) (s0 : Int32) (S : rS) : Option (Int32 × rS) :=
    Option.bind (fX7_fails s0 S) fun q14 =>
    if (q14.1) = 0 then
      Option.bind (rd (q14.2) 5 (l1)) fun x29 =>
      fX7_items_b30 x29 (q14.2)
    else
      fX7_items_b30 0 (q14.2)
noncomputable def fX7_items (a0 : Int32) (S : rS) : Option (Int32 × rS) :=
    Option.bind (fX7_isStructure a0 S) fun q3 =>
    if (q3.1) = 0 then
      fX7_items_b14 a0 1 (q3.2)
    else
      fX7_items_b14 a0 0 (q3.2)
noncomputable def fX7_isSignature (a0 : Int32) (S : rS) : Option (Int32 × rS) :=
    Option.bind (fX7_isIn a0 0 ((S.1 10) - 1) S) fun q8 =>
    rbo (q8.1) (q8.2)
noncomputable def fX7_findsSpec_b54 (rec9 : Int32 → Int32 → Int32 → Int32 → Int32 → rS → Option (Int32 × rS)) (l1 : Int32) (l2 : Int32) (l3 : Int32) (l5 : Int32) (s0 : Int32) (S : rS) : Option (Int32 × rS) :=
    rec9 l1 l2 l3 s0 (l5 + 1) S
noncomputable def fX7_findsSpec_b52 (rec9 : Int32 → Int32 → Int32 → Int32 → Int32 → rS → Option (Int32 × rS)) (l1 : Int32) (l2 : Int32) (l3 : Int32) (l4 : Int32) (l5 : Int32) (S : rS) : Option (Int32 × rS) :=
    fX7_findsSpec_b54 rec9 l1 l2 l3 l5 l4 S
noncomputable def fX7_findsSpec_b9_body (rec9 : Int32 → Int32 → Int32 → Int32 → Int32 → rS → Option (Int32 × rS)) (l1 : Int32) (l2 : Int32) (l3 : Int32) (l4 : Int32) (l5 : Int32) (S : rS) : Option (Int32 × rS) :=
    Option.bind (rd S 11 (l1)) fun x20 =>
    if ((60 * l1) + x20) ≤ (l5) then
      some (l4, S)
    else
      Option.bind (rd S 13 (l5)) fun x31 =>
      if (x31) = (l2) then
        Option.bind (rd S 14 (l5)) fun x42 =>
        if (x42) = (l3) then
          fX7_findsSpec_b54 rec9 l1 l2 l3 l5 l5 S
        else
          fX7_findsSpec_b52 rec9 l1 l2 l3 l4 l5 S
      else
        fX7_findsSpec_b52 rec9 l1 l2 l3 l4 l5 S
noncomputable def fX7_findsSpec_b9 : Nat → Int32 → Int32 → Int32 → Int32 → Int32 → rS → Option (Int32 × rS)
  | 0, _, _, _, _, _, _ => none
  | n + 1, l1, l2, l3, l4, l5, S => fX7_findsSpec_b9_body (fX7_findsSpec_b9 n) l1 l2 l3 l4 l5 S
noncomputable def fX7_findsSpec (a0 : Int32) (a1 : Int32) (a2 : Int32) (S : rS) : Option (Int32 × rS) :=
    (fun v7 : Int32 =>
    fX7_findsSpec_b9 rFuel a0 a1 a2 ((-1)) v7 S) (60 * a0)
noncomputable def fX7_isTold_b31 (s0 : Int32) (S : rS) : Option (Int32 × rS) :=
    rbo (s0) S
noncomputable def fX7_isTold (a0 : Int32) (S : rS) : Option (Int32 × rS) :=
    if (a0) < 0 then
      Option.bind (fX7_findsSpec 20 0 (((-1)) - a0) S) fun q19 =>
      if (q19.1) = ((-1)) then
        fX7_isTold_b31 0 (q19.2)
      else
        fX7_isTold_b31 1 (q19.2)
    else
      Option.bind (fX7_isType a0 S) fun q6 =>
      fX7_isTold_b31 (q6.1) (q6.2)
noncomputable def fX7_specifies (a0 : Int32) (a1 : Int32) (a2 : Int32) (a3 : Int32) (a4 : Int32) (a5 : Int32) (S : rS) : Option (rS) :=
    Option.bind (rd S 11 (a0)) fun x9 =>
    (fun v11 : Int32 =>
    Option.bind (rwr S 13 (v11) (a1)) fun S20 =>
    Option.bind (rwr S20 14 (v11) (a2)) fun S28 =>
    Option.bind (rwr S28 15 (v11) (a3)) fun S37 =>
    Option.bind (rwr S37 16 (v11) (a4)) fun S46 =>
    Option.bind (rd S46 11 (a0)) fun x53 =>
    Option.bind (rwr S46 11 (a0) (x53 + 1)) fun S56 =>
    Option.bind (rd S56 12 (a0)) fun x63 =>
    Option.bind (rwr S56 12 (a0) (x63 + a5)) fun S67 =>
    some S67) ((60 * a0) + x9)
noncomputable def fX7_specType_b69 (l1 : Int32) (l2 : Int32) (s0 : Int32) (S : rS) : Option (Int32 × rS) :=
    Option.bind (fX7_fails s0 S) fun q69 =>
    if (q69.1) = 0 then
      Option.bind (fX7_specifies 20 0 l1 l2 ((-100)) 1 (q69.2)) fun q86 =>
      Option.bind (rd q86 11 (20)) fun x95 =>
      some (x95, q86)
    else
      some (0, q69.2)
noncomputable def fX7_specType_b64 (l1 : Int32) (l2 : Int32) (S : rS) : Option (Int32 × rS) :=
    fX7_specType_b69 l1 l2 3 S
noncomputable def fX7_specType_b19 (l1 : Int32) (l2 : Int32) (s0 : Int32) (S : rS) : Option (Int32 × rS) :=
    if (s0) = 0 then
      fX7_specType_b69 l1 l2 1 S
    else
      Option.bind (fX7_isName l1 S) fun q30 =>
      if (q30.1) = 0 then
        fX7_specType_b69 l1 l2 2 (q30.2)
      else
        Option.bind (fX7_findsSpec 20 0 l1 (q30.2)) fun q45 =>
        if (q45.1) = ((-1)) then
          Option.bind (rd (q45.2) 12 (20)) fun x58 =>
          if (x58) = (60) then
            fX7_specType_b64 l1 l2 (q45.2)
          else
            fX7_specType_b69 l1 l2 0 (q45.2)
        else
          fX7_specType_b64 l1 l2 (q45.2)
noncomputable def fX7_specType_b14 (l1 : Int32) (l2 : Int32) (S : rS) : Option (Int32 × rS) :=
    fX7_specType_b19 l1 l2 1 S
noncomputable def fX7_specType (a0 : Int32) (a1 : Int32) (S : rS) : Option (Int32 × rS) :=
    if (a1) = ((-100)) then
      fX7_specType_b14 a0 a1 S
    else
      Option.bind (fX7_isTold a1 S) fun q8 =>
      if (q8.1) = 0 then
        fX7_specType_b19 a0 a1 0 (q8.2)
      else
        fX7_specType_b14 a0 a1 (q8.2)
noncomputable def fX7_specValue_b79 (l1 : Int32) (l2 : Int32) (l3 : Int32) (s0 : Int32) (S : rS) : Option (Int32 × rS) :=
    Option.bind (fX7_fails s0 S) fun q79 =>
    if (q79.1) = 0 then
      Option.bind (fX7_specifies 20 1 l1 l2 l3 1 (q79.2)) fun q95 =>
      Option.bind (rd q95 11 (20)) fun x104 =>
      some (x104, q95)
    else
      some (0, q79.2)
noncomputable def fX7_specValue_b74 (l1 : Int32) (l2 : Int32) (l3 : Int32) (S : rS) : Option (Int32 × rS) :=
    fX7_specValue_b79 l1 l2 l3 3 S
noncomputable def fX7_specValue_b27 (l1 : Int32) (l2 : Int32) (l3 : Int32) (s0 : Int32) (S : rS) : Option (Int32 × rS) :=
    if (s0) = 0 then
      fX7_specValue_b79 l1 l2 l3 1 S
    else
      Option.bind (fX7_isName l1 S) fun q40 =>
      if (q40.1) = 0 then
        fX7_specValue_b79 l1 l2 l3 2 (q40.2)
      else
        Option.bind (fX7_findsSpec 20 1 l1 (q40.2)) fun q55 =>
        if (q55.1) = ((-1)) then
          Option.bind (rd (q55.2) 12 (20)) fun x68 =>
          if (x68) = (60) then
            fX7_specValue_b74 l1 l2 l3 (q55.2)
          else
            fX7_specValue_b79 l1 l2 l3 0 (q55.2)
        else
          fX7_specValue_b74 l1 l2 l3 (q55.2)
noncomputable def fX7_specValue_b26 (l1 : Int32) (l2 : Int32) (l3 : Int32) (S : rS) : Option (Int32 × rS) :=
    fX7_specValue_b27 l1 l2 l3 0 S
noncomputable def fX7_specValue_b22 (l1 : Int32) (l2 : Int32) (l3 : Int32) (S : rS) : Option (Int32 × rS) :=
    fX7_specValue_b27 l1 l2 l3 1 S
noncomputable def fX7_specValue (a0 : Int32) (a1 : Int32) (a2 : Int32) (S : rS) : Option (Int32 × rS) :=
    Option.bind (fX7_isTold a1 S) fun q2 =>
    if (q2.1) = 0 then
      fX7_specValue_b26 a0 a1 a2 (q2.2)
    else
      if (a2) = ((-100)) then
        fX7_specValue_b22 a0 a1 a2 (q2.2)
      else
        Option.bind (fX7_isTold a2 (q2.2)) fun q16 =>
        if (q16.1) = 0 then
          fX7_specValue_b26 a0 a1 a2 (q16.2)
        else
          fX7_specValue_b22 a0 a1 a2 (q16.2)
noncomputable def fX7_specPart_b76 (l1 : Int32) (l2 : Int32) (l4 : Int32) (s0 : Int32) (S : rS) : Option (Int32 × rS) :=
    Option.bind (fX7_fails s0 S) fun q76 =>
    if (q76.1) = 0 then
      Option.bind (fX7_specifies 20 2 l1 l2 ((-100)) l4 (q76.2)) fun q94 =>
      Option.bind (rd q94 11 (20)) fun x103 =>
      some (x103, q94)
    else
      some (0, q76.2)
noncomputable def fX7_specPart_b71 (l1 : Int32) (l2 : Int32) (l4 : Int32) (S : rS) : Option (Int32 × rS) :=
    fX7_specPart_b76 l1 l2 l4 3 S
noncomputable def fX7_specPart_b22 (l1 : Int32) (l2 : Int32) (l3 : Int32) (s0 : Int32) (S : rS) : Option (Int32 × rS) :=
    if (l3) = 0 then
      fX7_specPart_b76 l1 l2 s0 1 S
    else
      Option.bind (fX7_isName l1 S) fun q34 =>
      if (q34.1) = 0 then
        fX7_specPart_b76 l1 l2 s0 2 (q34.2)
      else
        Option.bind (fX7_findsSpec 20 2 l1 (q34.2)) fun q49 =>
        if (q49.1) = ((-1)) then
          Option.bind (rd (q49.2) 12 (20)) fun x62 =>
          if (x62 + s0) ≤ (60) then
            fX7_specPart_b76 l1 l2 s0 0 (q49.2)
          else
            fX7_specPart_b71 l1 l2 s0 (q49.2)
        else
          fX7_specPart_b71 l1 l2 s0 (q49.2)
noncomputable def fX7_specPart (a0 : Int32) (a1 : Int32) (S : rS) : Option (Int32 × rS) :=
    Option.bind (fX7_isSignature a1 S) fun q2 =>
    (fun v5 : Int32 =>
    if (v5) = 0 then
      fX7_specPart_b22 a0 a1 v5 0 (q2.2)
    else
      Option.bind (rd (q2.2) 12 (a1)) fun x16 =>
      fX7_specPart_b22 a0 a1 v5 (1 + x16) (q2.2)) (q2.1)
noncomputable def fX7_weightOf_b27 (s0 : Int32) (S : rS) : Option (Int32 × rS) :=
    some (s0, S)
noncomputable def fX7_weightOf (a0 : Int32) (S : rS) : Option (Int32 × rS) :=
    Option.bind (rd S 13 (a0)) fun x5 =>
    if (x5) = (2) then
      Option.bind (rd S 15 (a0)) fun x20 =>
      Option.bind (rd S 12 (x20)) fun x21 =>
      fX7_weightOf_b27 (1 + x21) S
    else
      fX7_weightOf_b27 1 S
noncomputable def fX7_include_b129_body (rec129 : Int32 → Int32 → rS → Option (Int32 × rS)) (l1 : Int32) (l4 : Int32) (S : rS) : Option (Int32 × rS) :=
    Option.bind (rd S 11 (l1)) fun x140 =>
    if ((60 * l1) + x140) ≤ (l4) then
      Option.bind (rd S 11 (20)) fun x197 =>
      some (x197, S)
    else
      Option.bind (rd S 13 (l4)) fun x154 =>
      Option.bind (rd S 14 (l4)) fun x161 =>
      Option.bind (rd S 15 (l4)) fun x168 =>
      Option.bind (rd S 16 (l4)) fun x175 =>
      Option.bind (fX7_weightOf l4 S) fun q179 =>
      Option.bind (fX7_specifies 20 x154 x161 x168 x175 (q179.1) (q179.2)) fun q182 =>
      rec129 l1 (l4 + 1) q182
noncomputable def fX7_include_b129 : Nat → Int32 → Int32 → rS → Option (Int32 × rS)
  | 0, _, _, _ => none
  | n + 1, l1, l4, S => fX7_include_b129_body (fX7_include_b129 n) l1 l4 S
noncomputable def fX7_include_b115 (l1 : Int32) (s0 : Int32) (S : rS) : Option (Int32 × rS) :=
    Option.bind (fX7_fails s0 S) fun q115 =>
    if (q115.1) = 0 then
      (fun v127 : Int32 =>
      fX7_include_b129 rFuel l1 v127 (q115.2)) (60 * l1)
    else
      some (0, q115.2)
noncomputable def fX7_include_b97 (l1 : Int32) (l2 : Int32) (l3 : Int32) (S : rS) : Option (Int32 × rS) :=
    if (l2) = 0 then
      fX7_include_b115 l1 1 S
    else
      if (l3) = 0 then
        fX7_include_b115 l1 2 S
      else
        fX7_include_b115 l1 0 S
noncomputable def fX7_include_b90 (rec41 : Int32 → Int32 → Int32 → Int32 → rS → Option (Int32 × rS)) (l1 : Int32) (l2 : Int32) (l4 : Int32) (s0 : Int32) (S : rS) : Option (Int32 × rS) :=
    rec41 l1 l2 s0 (l4 + 1) S
noncomputable def fX7_include_b41_body (rec41 : Int32 → Int32 → Int32 → Int32 → rS → Option (Int32 × rS)) (l1 : Int32) (l2 : Int32) (l3 : Int32) (l4 : Int32) (S : rS) : Option (Int32 × rS) :=
    if (l3) = 0 then
      fX7_include_b97 l1 l2 l3 S
    else
      Option.bind (rd S 11 (l1)) fun x56 =>
      if ((60 * l1) + x56) ≤ (l4) then
        fX7_include_b97 l1 l2 l3 S
      else
        Option.bind (rd S 13 (l4)) fun x70 =>
        Option.bind (rd S 14 (l4)) fun x77 =>
        Option.bind (fX7_findsSpec 20 x70 x77 S) fun q78 =>
        if (q78.1) = ((-1)) then
          fX7_include_b90 rec41 l1 l2 l4 1 (q78.2)
        else
          fX7_include_b90 rec41 l1 l2 l4 0 (q78.2)
noncomputable def fX7_include_b41 : Nat → Int32 → Int32 → Int32 → Int32 → rS → Option (Int32 × rS)
  | 0, _, _, _, _, _ => none
  | n + 1, l1, l2, l3, l4, S => fX7_include_b41_body (fX7_include_b41 n) l1 l2 l3 l4 S
noncomputable def fX7_include_b34 (l1 : Int32) (l2 : Int32) (s0 : Int32) (S : rS) : Option (Int32 × rS) :=
    (fun v39 : Int32 =>
    fX7_include_b41 rFuel l1 l2 s0 v39 S) (60 * l1)
noncomputable def fX7_include_b33 (l1 : Int32) (l2 : Int32) (S : rS) : Option (Int32 × rS) :=
    fX7_include_b34 l1 l2 0 S
noncomputable def fX7_include (a0 : Int32) (S : rS) : Option (Int32 × rS) :=
    Option.bind (fX7_isSignature a0 S) fun q2 =>
    (fun v5 : Int32 =>
    if (v5) = 0 then
      fX7_include_b33 a0 v5 (q2.2)
    else
      Option.bind (rd (q2.2) 12 (20)) fun x16 =>
      Option.bind (rd (q2.2) 12 (a0)) fun x22 =>
      if (60) < (x16 + x22) then
        fX7_include_b33 a0 v5 (q2.2)
      else
        fX7_include_b34 a0 v5 1 (q2.2)) (q2.1)
noncomputable def fX7_signature_b27_body (rec27 : Int32 → rS → Option (Int32 × rS)) (l1 : Int32) (S : rS) : Option (Int32 × rS) :=
    Option.bind (rd S 11 (20)) fun x37 =>
    if (1200 + x37) ≤ (l1) then
      Option.bind (rwr S 11 (20) (0)) fun S92 =>
      Option.bind (rwr S92 12 (20) (0)) fun S100 =>
      (fun S108 : rS =>
      some ((S108.1 10) - 1, S108)) (rpf S100 10 ((S100.1 10) + 1))
    else
      Option.bind (rd S 13 (l1)) fun x52 =>
      Option.bind (rd S 14 (l1)) fun x58 =>
      Option.bind (rd S 15 (l1)) fun x64 =>
      Option.bind (rd S 16 (l1)) fun x70 =>
      Option.bind (fX7_weightOf l1 S) fun q73 =>
      Option.bind (fX7_specifies (S.1 10) x52 x58 x64 x70 (q73.1) (q73.2)) fun q76 =>
      rec27 (l1 + 1) q76
noncomputable def fX7_signature_b27 : Nat → Int32 → rS → Option (Int32 × rS)
  | 0, _, _ => none
  | n + 1, l1, S => fX7_signature_b27_body (fX7_signature_b27 n) l1 S
noncomputable def fX7_signature_b15 (s0 : Int32) (S : rS) : Option (Int32 × rS) :=
    Option.bind (fX7_fails s0 S) fun q15 =>
    if (q15.1) = 0 then
      fX7_signature_b27 rFuel 1200 (q15.2)
    else
      some (0, q15.2)
noncomputable def fX7_signature (S : rS) : Option (Int32 × rS) :=
    if (S.1 10) = (20) then
      fX7_signature_b15 1 S
    else
      fX7_signature_b15 0 S
noncomputable def fX7_with_b249 (rec92 : Int32 → Int32 → Int32 → Int32 → Int32 → Int32 → rS → Option (Int32 × rS)) (l1 : Int32) (l2 : Int32) (l3 : Int32) (l4 : Int32) (l5 : Int32) (l7 : Int32) (S : rS) : Option (Int32 × rS) :=
    rec92 l1 l2 l3 l4 l5 (l7 + 1) S
noncomputable def fX7_with_b217 (rec92 : Int32 → Int32 → Int32 → Int32 → Int32 → Int32 → rS → Option (Int32 × rS)) (l1 : Int32) (l2 : Int32) (l3 : Int32) (l4 : Int32) (l5 : Int32) (l7 : Int32) (l9 : Int32) (l10 : Int32) (S : rS) : Option (Int32 × rS) :=
    Option.bind (rd S 13 (l7)) fun x228 =>
    Option.bind (rd S 14 (l7)) fun x235 =>
    Option.bind (fX7_weightOf l7 S) fun q243 =>
    Option.bind (fX7_specifies (S.1 10) x228 x235 l9 l10 (q243.1) (q243.2)) fun q246 =>
    fX7_with_b249 rec92 l1 l2 l3 l4 l5 l7 q246
noncomputable def fX7_with_b203 (rec92 : Int32 → Int32 → Int32 → Int32 → Int32 → Int32 → rS → Option (Int32 × rS)) (l1 : Int32) (l2 : Int32) (l3 : Int32) (l4 : Int32) (l5 : Int32) (l7 : Int32) (l9 : Int32) (s0 : Int32) (S : rS) : Option (Int32 × rS) :=
    if (l7) = (l5) then
      if (l4) = 0 then
        fX7_with_b217 rec92 l1 l2 l3 l4 l5 l7 l9 s0 S
      else
        fX7_with_b249 rec92 l1 l2 l3 l4 l5 l7 S
    else
      fX7_with_b217 rec92 l1 l2 l3 l4 l5 l7 l9 s0 S
noncomputable def fX7_with_b196 (rec92 : Int32 → Int32 → Int32 → Int32 → Int32 → Int32 → rS → Option (Int32 × rS)) (l1 : Int32) (l2 : Int32) (l3 : Int32) (l4 : Int32) (l5 : Int32) (l7 : Int32) (l9 : Int32) (S : rS) : Option (Int32 × rS) :=
    Option.bind (rd S 16 (l7)) fun x202 =>
    fX7_with_b203 rec92 l1 l2 l3 l4 l5 l7 l9 x202 S
noncomputable def fX7_with_b167 (rec92 : Int32 → Int32 → Int32 → Int32 → Int32 → Int32 → rS → Option (Int32 × rS)) (l1 : Int32) (l2 : Int32) (l3 : Int32) (l4 : Int32) (l5 : Int32) (l7 : Int32) (l8 : Int32) (s0 : Int32) (S : rS) : Option (Int32 × rS) :=
    if (l4) = 0 then
      fX7_with_b196 rec92 l1 l2 l3 l4 l5 l7 s0 S
    else
      if (l8) = 0 then
        Option.bind (rd S 16 (l7)) fun x185 =>
        if (x185) = (((-1)) - l2) then
          fX7_with_b203 rec92 l1 l2 l3 l4 l5 l7 s0 l3 S
        else
          fX7_with_b196 rec92 l1 l2 l3 l4 l5 l7 s0 S
      else
        fX7_with_b196 rec92 l1 l2 l3 l4 l5 l7 s0 S
noncomputable def fX7_with_b156 (rec92 : Int32 → Int32 → Int32 → Int32 → Int32 → Int32 → rS → Option (Int32 × rS)) (l1 : Int32) (l2 : Int32) (l3 : Int32) (l4 : Int32) (l5 : Int32) (l7 : Int32) (l8 : Int32) (S : rS) : Option (Int32 × rS) :=
    fX7_with_b167 rec92 l1 l2 l3 l4 l5 l7 l8 l3 S
noncomputable def fX7_with_b160 (rec92 : Int32 → Int32 → Int32 → Int32 → Int32 → Int32 → rS → Option (Int32 × rS)) (l1 : Int32) (l2 : Int32) (l3 : Int32) (l4 : Int32) (l5 : Int32) (l7 : Int32) (l8 : Int32) (S : rS) : Option (Int32 × rS) :=
    Option.bind (rd S 15 (l7)) fun x166 =>
    fX7_with_b167 rec92 l1 l2 l3 l4 l5 l7 l8 x166 S
noncomputable def fX7_with_b124 (rec92 : Int32 → Int32 → Int32 → Int32 → Int32 → Int32 → rS → Option (Int32 × rS)) (l1 : Int32) (l2 : Int32) (l3 : Int32) (l4 : Int32) (l5 : Int32) (l7 : Int32) (s0 : Int32) (S : rS) : Option (Int32 × rS) :=
    if (l7) = (l5) then
      fX7_with_b156 rec92 l1 l2 l3 l4 l5 l7 s0 S
    else
      if (l4) = 0 then
        fX7_with_b160 rec92 l1 l2 l3 l4 l5 l7 s0 S
      else
        if (s0) = 0 then
          Option.bind (rd S 15 (l7)) fun x149 =>
          if (x149) = (((-1)) - l2) then
            fX7_with_b156 rec92 l1 l2 l3 l4 l5 l7 s0 S
          else
            fX7_with_b160 rec92 l1 l2 l3 l4 l5 l7 s0 S
        else
          fX7_with_b160 rec92 l1 l2 l3 l4 l5 l7 s0 S
noncomputable def fX7_with_b92_body (rec92 : Int32 → Int32 → Int32 → Int32 → Int32 → Int32 → rS → Option (Int32 × rS)) (l1 : Int32) (l2 : Int32) (l3 : Int32) (l4 : Int32) (l5 : Int32) (l7 : Int32) (S : rS) : Option (Int32 × rS) :=
    Option.bind (rd S 11 (l1)) fun x103 =>
    if ((60 * l1) + x103) ≤ (l7) then
      (fun S262 : rS =>
      some ((S262.1 10) - 1, S262)) (rpf S 10 ((S.1 10) + 1))
    else
      Option.bind (rd S 13 (l7)) fun x114 =>
      if (x114) = (2) then
        fX7_with_b124 rec92 l1 l2 l3 l4 l5 l7 1 S
      else
        fX7_with_b124 rec92 l1 l2 l3 l4 l5 l7 0 S
noncomputable def fX7_with_b92 : Nat → Int32 → Int32 → Int32 → Int32 → Int32 → Int32 → rS → Option (Int32 × rS)
  | 0, _, _, _, _, _, _, _ => none
  | n + 1, l1, l2, l3, l4, l5, l7, S => fX7_with_b92_body (fX7_with_b92 n) l1 l2 l3 l4 l5 l7 S
noncomputable def fX7_with_b78 (l1 : Int32) (l2 : Int32) (l3 : Int32) (l4 : Int32) (l5 : Int32) (s0 : Int32) (S : rS) : Option (Int32 × rS) :=
    Option.bind (fX7_fails s0 S) fun q78 =>
    if (q78.1) = 0 then
      (fun v90 : Int32 =>
      fX7_with_b92 rFuel l1 l2 l3 l4 l5 v90 (q78.2)) (60 * l1)
    else
      some (0, q78.2)
noncomputable def fX7_with_b52 (l1 : Int32) (l2 : Int32) (l3 : Int32) (l4 : Int32) (l5 : Int32) (s0 : Int32) (S : rS) : Option (Int32 × rS) :=
    if (s0) = 0 then
      fX7_with_b78 l1 l2 l3 l4 l5 1 S
    else
      if (S.1 10) = (20) then
        fX7_with_b78 l1 l2 l3 l4 l5 2 S
      else
        fX7_with_b78 l1 l2 l3 l4 l5 0 S
noncomputable def fX7_with_b51 (l1 : Int32) (l2 : Int32) (l3 : Int32) (l4 : Int32) (l5 : Int32) (S : rS) : Option (Int32 × rS) :=
    fX7_with_b52 l1 l2 l3 l4 l5 0 S
noncomputable def fX7_with_b27 (l1 : Int32) (l2 : Int32) (l3 : Int32) (l4 : Int32) (s0 : Int32) (S : rS) : Option (Int32 × rS) :=
    if (s0) = ((-1)) then
      fX7_with_b51 l1 l2 l3 l4 s0 S
    else
      Option.bind (rd S 15 (s0)) fun x41 =>
      if (x41) = ((-100)) then
        fX7_with_b52 l1 l2 l3 l4 s0 1 S
      else
        fX7_with_b51 l1 l2 l3 l4 s0 S
noncomputable def fX7_with_b26 (l1 : Int32) (l2 : Int32) (l3 : Int32) (l4 : Int32) (S : rS) : Option (Int32 × rS) :=
    fX7_with_b27 l1 l2 l3 l4 ((-1)) S
noncomputable def fX7_with (a0 : Int32) (a1 : Int32) (a2 : Int32) (a3 : Int32) (S : rS) : Option (Int32 × rS) :=
    Option.bind (fX7_isSignature a0 S) fun q2 =>
    if (q2.1) = 0 then
      fX7_with_b26 a0 a1 a2 a3 (q2.2)
    else
      Option.bind (fX7_isType a2 (q2.2)) fun q10 =>
      if (q10.1) = 0 then
        fX7_with_b26 a0 a1 a2 a3 (q10.2)
      else
        Option.bind (fX7_findsSpec a0 0 a1 (q10.2)) fun q20 =>
        fX7_with_b27 a0 a1 a2 a3 (q20.1) (q20.2)
noncomputable def fX7_specs_b30 (s0 : Int32) (S : rS) : Option (Int32 × rS) :=
    some (s0, S)
noncomputable def fX7_specs_b14 (l1 : Int32) (s0 : Int32) (S : rS) : Option (Int32 × rS) :=
    Option.bind (fX7_fails s0 S) fun q14 =>
    if (q14.1) = 0 then
      Option.bind (rd (q14.2) 11 (l1)) fun x29 =>
      fX7_specs_b30 x29 (q14.2)
    else
      fX7_specs_b30 0 (q14.2)
noncomputable def fX7_specs (a0 : Int32) (S : rS) : Option (Int32 × rS) :=
    Option.bind (fX7_isSignature a0 S) fun q3 =>
    if (q3.1) = 0 then
      fX7_specs_b14 a0 1 (q3.2)
    else
      fX7_specs_b14 a0 0 (q3.2)
noncomputable def fX7_meant_b31 (s0 : Int32) (S : rS) : Option (Int32 × rS) :=
    some (s0, S)
noncomputable def fX7_meant (a0 : Int32) (a1 : Int32) (S : rS) : Option (Int32 × rS) :=
    if (a1) < 0 then
      Option.bind (fX7_findsItem a0 0 (((-1)) - a1) S) fun q12 =>
      (fun v15 : Int32 =>
      if (v15) = ((-1)) then
        fX7_meant_b31 ((-1)) (q12.2)
      else
        Option.bind (rd (q12.2) 8 (v15)) fun x30 =>
        fX7_meant_b31 x30 (q12.2)) (q12.1)
    else
      some (a1, S)
noncomputable def fX7_misfit_b225 (s0 : Int32) (S : rS) : Option (Int32 × rS) :=
    some (s0, S)
noncomputable def fX7_misfit_b224 (S : rS) : Option (Int32 × rS) :=
    fX7_misfit_b225 4 S
noncomputable def fX7_misfit_b175 (s0 : Int32) (S : rS) : Option (Int32 × rS) :=
    some (s0, S)
noncomputable def fX7_misfit_b138 (s0 : Int32) (S : rS) : Option (Int32 × rS) :=
    some (s0, S)
noncomputable def fX7_misfit_b133 (S : rS) : Option (Int32 × rS) :=
    fX7_misfit_b138 0 S
noncomputable def fX7_misfit_b96 (s0 : Int32) (S : rS) : Option (Int32 × rS) :=
    some (s0, S)
noncomputable def fX7_misfit_b51 (s0 : Int32) (S : rS) : Option (Int32 × rS) :=
    some (s0, S)
noncomputable def fX7_misfit (a0 : Int32) (a1 : Int32) (S : rS) : Option (Int32 × rS) :=
    Option.bind (rd S 13 (a1)) fun x7 =>
    Option.bind (rd S 14 (a1)) fun x13 =>
    Option.bind (fX7_findsItem a0 x7 x13 S) fun q14 =>
    (fun v17 : Int32 =>
    if (v17) = ((-1)) then
      Option.bind (rd (q14.2) 13 (a1)) fun x28 =>
      if (x28) = 0 then
        fX7_misfit_b51 1 (q14.2)
      else
        Option.bind (rd (q14.2) 13 (a1)) fun x41 =>
        if (x41) = (1) then
          fX7_misfit_b51 3 (q14.2)
        else
          fX7_misfit_b51 5 (q14.2)
    else
      Option.bind (rd (q14.2) 8 (v17)) fun x57 =>
      Option.bind (rd (q14.2) 13 (a1)) fun x65 =>
      if (x65) = (2) then
        Option.bind (rd (q14.2) 15 (a1)) fun x84 =>
        Option.bind (rd (q14.2) 52 ((20 * x57) + x84)) fun x86 =>
        if (x86) = 0 then
          fX7_misfit_b96 0 (q14.2)
        else
          fX7_misfit_b96 6 (q14.2)
      else
        Option.bind (rd (q14.2) 13 (a1)) fun x102 =>
        if (x102) = 0 then
          Option.bind (rd (q14.2) 15 (a1)) fun x111 =>
          if (x111) = ((-100)) then
            fX7_misfit_b133  (q14.2)
          else
            Option.bind (rd (q14.2) 15 (a1)) fun x124 =>
            Option.bind (fX7_meant a0 x124 (q14.2)) fun q125 =>
            if (q125.1) = (x57) then
              fX7_misfit_b133  (q125.2)
            else
              fX7_misfit_b138 2 (q125.2)
        else
          Option.bind (rd (q14.2) 15 (a1)) fun x146 =>
          Option.bind (fX7_meant a0 x146 (q14.2)) fun q147 =>
          (fun v150 : Int32 =>
          Option.bind (rd (q147.2) 16 (a1)) fun x157 =>
          if (x157) = ((-100)) then
            if (v150) = (x57) then
              fX7_misfit_b175 0 (q147.2)
            else
              fX7_misfit_b175 4 (q147.2)
          else
            Option.bind (rd (q147.2) 1 (x57)) fun x182 =>
            if (x182) = (2) then
              Option.bind (rd (q147.2) 2 (x57)) fun x193 =>
              if (x193) = (v150) then
                Option.bind (rd (q147.2) 3 (x57)) fun x205 =>
                Option.bind (rd (q147.2) 16 (a1)) fun x213 =>
                Option.bind (fX7_meant a0 x213 (q147.2)) fun q214 =>
                if (x205) = (q214.1) then
                  fX7_misfit_b225 0 (q214.2)
                else
                  fX7_misfit_b224  (q214.2)
              else
                fX7_misfit_b224  (q147.2)
            else
              fX7_misfit_b224  (q147.2)) (q147.1)) (q14.1)
noncomputable def fX7_matches_b108 (rec2 : Int32 → rS → Option (rS)) (rec12 : Int32 → Int32 → rS → Option (rS)) (l1 : Int32) (l2 : Int32) (S : rS) : Option (rS) :=
    rec12 l1 (l2 + 1) S
noncomputable def fX7_matches_b101 (rec2 : Int32 → rS → Option (rS)) (rec12 : Int32 → Int32 → rS → Option (rS)) (rec40 : Int32 → Int32 → Int32 → Int32 → rS → Option (rS)) (l1 : Int32) (l2 : Int32) (l3 : Int32) (l4 : Int32) (s0 : Int32) (s1 : Int32) (S : rS) : Option (rS) :=
    Option.bind (rwr S 52 (s1) (s0)) fun S101 =>
    rec40 l1 l2 l3 (l4 + 1) S101
noncomputable def fX7_matches_b40_body (rec40 : Int32 → Int32 → Int32 → Int32 → rS → Option (rS)) (rec2 : Int32 → rS → Option (rS)) (rec12 : Int32 → Int32 → rS → Option (rS)) (l1 : Int32) (l2 : Int32) (l3 : Int32) (l4 : Int32) (S : rS) : Option (rS) :=
    Option.bind (rd S 11 (l1)) fun x51 =>
    if ((60 * l1) + x51) ≤ (l4) then
      fX7_matches_b108 rec2 rec12 l1 l2 S
    else
      Option.bind (rd S 52 (l3)) fun x61 =>
      if (x61) = 0 then
        Option.bind (fX7_misfit l2 l4 S) fun q69 =>
        (fun v72 : Int32 =>
        if (v72) ≤ 0 then
          fX7_matches_b101 rec2 rec12 rec40 l1 l2 l3 l4 0 l3 (q69.2)
        else
          Option.bind (rd (q69.2) 14 (l4)) fun x95 =>
          fX7_matches_b101 rec2 rec12 rec40 l1 l2 l3 l4 ((10 * v72) + x95) l3 (q69.2)) (q69.1)
      else
        fX7_matches_b108 rec2 rec12 l1 l2 S
noncomputable def fX7_matches_b40 (rec2 : Int32 → rS → Option (rS)) (rec12 : Int32 → Int32 → rS → Option (rS)) : Nat → Int32 → Int32 → Int32 → Int32 → rS → Option (rS)
  | 0, _, _, _, _, _ => none
  | n + 1, l1, l2, l3, l4, S => fX7_matches_b40_body (fX7_matches_b40 rec2 rec12 n) rec2 rec12 l1 l2 l3 l4 S
noncomputable def fX7_matches_b12_body (rec12 : Int32 → Int32 → rS → Option (rS)) (rec2 : Int32 → rS → Option (rS)) (l1 : Int32) (l2 : Int32) (S : rS) : Option (rS) :=
    if (S.1 4) ≤ (l2) then
      rec2 (l1 + 1) S
    else
      (fun v26 : Int32 =>
      Option.bind (rwr S 52 (v26) (0)) fun S33 =>
      (fun v38 : Int32 =>
      fX7_matches_b40 rec2 rec12 rFuel l1 l2 v26 v38 S33) (60 * l1)) ((20 * l2) + l1)
noncomputable def fX7_matches_b12 (rec2 : Int32 → rS → Option (rS)) : Nat → Int32 → Int32 → rS → Option (rS)
  | 0, _, _, _ => none
  | n + 1, l1, l2, S => fX7_matches_b12_body (fX7_matches_b12 rec2 n) rec2 l1 l2 S
noncomputable def fX7_matches_b2_body (rec2 : Int32 → rS → Option (rS)) (l1 : Int32) (S : rS) : Option (rS) :=
    if (S.1 10) ≤ (l1) then
      some S
    else
      fX7_matches_b12 rec2 rFuel l1 0 S
noncomputable def fX7_matches_b2 : Nat → Int32 → rS → Option (rS)
  | 0, _, _ => none
  | n + 1, l1, S => fX7_matches_b2_body (fX7_matches_b2 n) l1 S
noncomputable def fX7_matches (S : rS) : Option (rS) :=
    fX7_matches_b2 rFuel 0 S
noncomputable def fX7_matchOf (a0 : Int32) (a1 : Int32) (S : rS) : Option (Int32 × rS) :=
    Option.bind (fX7_matches  S) fun q1 =>
    Option.bind (rd q1 52 ((20 * a0) + a1)) fun x14 =>
    some (x14, q1)
noncomputable def fX7_match_b38 (s0 : Int32) (S : rS) : Option (Int32 × rS) :=
    some (s0, S)
noncomputable def fX7_match_b22 (l1 : Int32) (l2 : Int32) (s0 : Int32) (S : rS) : Option (Int32 × rS) :=
    Option.bind (fX7_fails s0 S) fun q22 =>
    if (q22.1) = 0 then
      Option.bind (fX7_matchOf l1 l2 (q22.2)) fun q35 =>
      fX7_match_b38 (q35.1) (q35.2)
    else
      fX7_match_b38 0 (q22.2)
noncomputable def fX7_match_b21 (l1 : Int32) (l2 : Int32) (S : rS) : Option (Int32 × rS) :=
    fX7_match_b22 l1 l2 1 S
noncomputable def fX7_match (a0 : Int32) (a1 : Int32) (S : rS) : Option (Int32 × rS) :=
    Option.bind (fX7_isStructure a0 S) fun q3 =>
    if (q3.1) = 0 then
      fX7_match_b21 a0 a1 (q3.2)
    else
      Option.bind (fX7_isSignature a1 (q3.2)) fun q11 =>
      if (q11.1) = 0 then
        fX7_match_b21 a0 a1 (q11.2)
      else
        fX7_match_b22 a0 a1 0 (q11.2)
noncomputable def fX7_enters (a0 : Int32) (a1 : Int32) (S : rS) : Option (rS) :=
    Option.bind (rwr S 42 (S.1 41) (a0)) fun S9 =>
    Option.bind (rwr S9 43 (S9.1 41) (a1)) fun S19 =>
    Option.bind (rwr S19 44 (S19.1 41) (60 * a0)) fun S32 =>
    Option.bind (rwr S32 47 (S32.1 41) (0)) fun S42 =>
    (fun S50 : rS =>
    some S50) (rpf S42 41 ((S42.1 41) + 1))
noncomputable def fX7_lays (a0 : Int32) (a1 : Int32) (a2 : Int32) (a3 : Int32) (S : rS) : Option (rS) :=
    Option.bind (rd S 47 ((S.1 41) - 1)) fun x19 =>
    (fun v21 : Int32 =>
    Option.bind (rwr S 48 (v21) (a0)) fun S30 =>
    Option.bind (rwr S30 49 (v21) (a1)) fun S38 =>
    Option.bind (rwr S38 50 (v21) (a2)) fun S46 =>
    Option.bind (rwr S46 51 (v21) (a3)) fun S55 =>
    Option.bind (rd S55 47 ((S55.1 41) - 1)) fun x67 =>
    Option.bind (rwr S55 47 ((S55.1 41) - 1) (x67 + 1)) fun S70 =>
    some S70) ((60 * ((S.1 41) - 1)) + x19)
noncomputable def fX7_meansNow_b26 (s0 : Int32) (S : rS) : Option (Int32 × rS) :=
    some (s0, S)
noncomputable def fX7_meansNow (a0 : Int32) (S : rS) : Option (Int32 × rS) :=
    if (a0) < 0 then
      Option.bind (rd S 46 (((10 * ((S.1 41) - 1)) - 1) - a0)) fun x25 =>
      fX7_meansNow_b26 x25 S
    else
      fX7_meansNow_b26 a0 S
noncomputable def fX7_numberOf_b21 (s0 : Int32) (S : rS) : Option (Int32 × rS) :=
    some (s0, S)
noncomputable def fX7_numberOf (a0 : Int32) (a1 : Int32) (S : rS) : Option (Int32 × rS) :=
    if (a0) = ((-1)) then
      fX7_numberOf_b21 0 S
    else
      Option.bind (fX7_findsItem a0 1 a1 S) fun q17 =>
      Option.bind (rd (q17.2) 9 (q17.1)) fun x20 =>
      fX7_numberOf_b21 x20 (q17.2)
noncomputable def fX7_typeNow_b54 (s0 : Int32) (S : rS) : Option (Int32 × rS) :=
    some (s0, S)
noncomputable def fX7_typeNow (a0 : Int32) (a1 : Int32) (a2 : Int32) (S : rS) : Option (Int32 × rS) :=
    Option.bind (rd S 15 (a2)) fun x5 =>
    if (x5) = ((-100)) then
      if (a0) = (1) then
        Option.bind (rd S 14 (a2)) fun x39 =>
        Option.bind (fX7_findsItem a1 0 x39 S) fun q40 =>
        Option.bind (rd (q40.2) 8 (q40.1)) fun x43 =>
        fX7_typeNow_b54 x43 (q40.2)
      else
        Option.bind (fX7_makesType 1 ((-1)) ((-1)) S) fun q51 =>
        fX7_typeNow_b54 (q51.1) (q51.2)
    else
      Option.bind (rd S 15 (a2)) fun x17 =>
      Option.bind (fX7_meansNow x17 S) fun q18 =>
      some (q18.1, q18.2)
noncomputable def fX7_leaves_b147 (S : rS) : Option (Int32 × rS) :=
    some ((S.1 4) - 1, S)
noncomputable def fX7_leaves_b22_body (rec22 : Int32 → Int32 → rS → Option (Int32 × rS)) (l1 : Int32) (l2 : Int32) (S : rS) : Option (Int32 × rS) :=
    Option.bind (rd S 47 (l1)) fun x32 =>
    if ((60 * l1) + x32) ≤ (l2) then
      (fun S82 : rS =>
      (fun S92 : rS =>
      if (S92.1 41) ≤ 0 then
        fX7_leaves_b147  S92
      else
        Option.bind (rd S92 44 ((S92.1 41) - 1)) fun x112 =>
        Option.bind (rd S92 14 (x112)) fun x121 =>
        Option.bind (fX7_lays 2 x121 ((S92.1 4) - 1) 0 S92) fun q129 =>
        Option.bind (rd q129 44 ((q129.1 41) - 1)) fun x143 =>
        Option.bind (rwr q129 44 ((q129.1 41) - 1) (x143 + 1)) fun S146 =>
        fX7_leaves_b147  S146) (rpf S82 41 ((S82.1 41) - 1))) (rpf S 4 ((S.1 4) + 1))
    else
      Option.bind (rd S 48 (l2)) fun x47 =>
      Option.bind (rd S 49 (l2)) fun x53 =>
      Option.bind (rd S 50 (l2)) fun x59 =>
      Option.bind (rd S 51 (l2)) fun x65 =>
      Option.bind (fX7_puts (S.1 4) x47 x53 x59 x65 S) fun q66 =>
      rec22 l1 (l2 + 1) q66
noncomputable def fX7_leaves_b22 : Nat → Int32 → Int32 → rS → Option (Int32 × rS)
  | 0, _, _, _ => none
  | n + 1, l1, l2, S => fX7_leaves_b22_body (fX7_leaves_b22 n) l1 l2 S
noncomputable def fX7_leaves (S : rS) : Option (Int32 × rS) :=
    (fun v6 : Int32 =>
    Option.bind (rwr S 5 (S.1 4) (0)) fun S16 =>
    (fun v21 : Int32 =>
    fX7_leaves_b22 rFuel v6 v21 S16) (60 * v6)) ((S.1 41) - 1)
noncomputable def fX7_makes_b305 (rec9 : Int32 → Int32 → rS → Option (Int32 × rS)) (l1 : Int32) (l4 : Int32) (S : rS) : Option (Int32 × rS) :=
    rec9 l1 l4 S
noncomputable def fX7_makes_b261 (rec9 : Int32 → Int32 → rS → Option (Int32 × rS)) (l1 : Int32) (l4 : Int32) (l6 : Int32) (l7 : Int32) (s0 : Int32) (S : rS) : Option (Int32 × rS) :=
    Option.bind (rd S 14 (l7)) fun x271 =>
    Option.bind (rd S 14 (l7)) fun x283 =>
    Option.bind (fX7_numberOf l6 x283 S) fun q284 =>
    Option.bind (fX7_lays 1 x271 s0 (q284.1) (q284.2)) fun q287 =>
    Option.bind (rd q287 44 ((q287.1 41) - 1)) fun x301 =>
    Option.bind (rwr q287 44 ((q287.1 41) - 1) (x301 + 1)) fun S304 =>
    fX7_makes_b305 rec9 l1 l4 S304
noncomputable def fX7_makes_b130 (rec9 : Int32 → Int32 → rS → Option (Int32 × rS)) (l1 : Int32) (l4 : Int32) (s0 : Int32) (s1 : Int32) (S : rS) : Option (Int32 × rS) :=
    Option.bind (fX7_enters s1 s0 S) fun q130 =>
    fX7_makes_b305 rec9 l1 l4 q130
noncomputable def fX7_makes_b9_body (rec9 : Int32 → Int32 → rS → Option (Int32 × rS)) (l1 : Int32) (l4 : Int32) (S : rS) : Option (Int32 × rS) :=
    if (S.1 41) ≤ 0 then
      some (l4, S)
    else
      Option.bind (rd S 42 ((S.1 41) - 1)) fun x26 =>
      Option.bind (rd S 43 ((S.1 41) - 1)) fun x39 =>
      Option.bind (rd S 44 ((S.1 41) - 1)) fun x52 =>
      Option.bind (rd S 11 (x26)) fun x68 =>
      if (x52) = ((60 * x26) + x68) then
        Option.bind (fX7_leaves  S) fun q74 =>
        (fun v77 : Int32 =>
        fX7_makes_b305 rec9 l1 v77 (q74.2)) (q74.1)
      else
        Option.bind (rd S 13 (x52)) fun x88 =>
        if (x88) = (2) then
          Option.bind (rd S 15 (x52)) fun x100 =>
          if (x39) = ((-1)) then
            fX7_makes_b130 rec9 l1 l4 ((-1)) x100 S
          else
            Option.bind (rd S 14 (x52)) fun x125 =>
            Option.bind (fX7_findsItem x39 2 x125 S) fun q126 =>
            Option.bind (rd (q126.2) 8 (q126.1)) fun x129 =>
            fX7_makes_b130 rec9 l1 l4 x129 x100 (q126.2)
        else
          Option.bind (rd S 13 (x52)) fun x142 =>
          if (x142) = 0 then
            Option.bind (fX7_typeNow l1 x39 x52 S) fun q152 =>
            (fun v155 : Int32 =>
            Option.bind (rd (q152.2) 14 (x52)) fun x176 =>
            Option.bind (rwr (q152.2) 46 ((10 * ((q152.2.1 41) - 1)) + x176) (v155)) fun S180 =>
            Option.bind (rd S180 14 (x52)) fun x189 =>
            Option.bind (fX7_lays 0 x189 v155 0 S180) fun q193 =>
            Option.bind (rd q193 44 ((q193.1 41) - 1)) fun x207 =>
            Option.bind (rwr q193 44 ((q193.1 41) - 1) (x207 + 1)) fun S210 =>
            fX7_makes_b305 rec9 l1 l4 S210) (q152.1)
          else
            Option.bind (rd S 15 (x52)) fun x221 =>
            Option.bind (fX7_meansNow x221 S) fun q222 =>
            (fun v225 : Int32 =>
            Option.bind (rd (q222.2) 16 (x52)) fun x233 =>
            if (x233) = ((-100)) then
              fX7_makes_b261 rec9 l1 l4 x39 x52 v225 (q222.2)
            else
              Option.bind (rd (q222.2) 16 (x52)) fun x254 =>
              Option.bind (fX7_meansNow x254 (q222.2)) fun q255 =>
              Option.bind (fX7_arrowOf v225 (q255.1) (q255.2)) fun q258 =>
              fX7_makes_b261 rec9 l1 l4 x39 x52 (q258.1) (q258.2)) (q222.1)
noncomputable def fX7_makes_b9 : Nat → Int32 → Int32 → rS → Option (Int32 × rS)
  | 0, _, _, _ => none
  | n + 1, l1, l4, S => fX7_makes_b9_body (fX7_makes_b9 n) l1 l4 S
noncomputable def fX7_makes (a0 : Int32) (a1 : Int32) (a2 : Int32) (S : rS) : Option (Int32 × rS) :=
    Option.bind (fX7_enters a2 a1 S) fun q6 =>
    fX7_makes_b9 rFuel a0 ((-1)) q6
noncomputable def fX7_fits_b54 (l3 : Int32) (s0 : Int32) (S : rS) : Option (Int32 × rS) :=
    (fun S54 : rS =>
    rbo (l3) S54) (rpf S 4 (s0))
noncomputable def fX7_fits_b38 (l2 : Int32) (l3 : Int32) (s0 : Int32) (S : rS) : Option (Int32 × rS) :=
    (fun S38 : rS =>
    if (l3) = 0 then
      fX7_fits_b54 l3 l2 S38
    else
      fX7_fits_b54 l3 (S38.1 4) S38) (rpf S 0 (s0))
noncomputable def fX7_fits_b24 (l1 : Int32) (l2 : Int32) (s0 : Int32) (S : rS) : Option (Int32 × rS) :=
    if (s0) = 0 then
      fX7_fits_b38 l2 s0 l1 S
    else
      fX7_fits_b38 l2 s0 (S.1 0) S
noncomputable def fX7_fits_b23 (l1 : Int32) (l2 : Int32) (S : rS) : Option (Int32 × rS) :=
    fX7_fits_b24 l1 l2 0 S
noncomputable def fX7_fits (a0 : Int32) (a1 : Int32) (S : rS) : Option (Int32 × rS) :=
    if (200) < (S.1 0) then
      fX7_fits_b23 a0 a1 S
    else
      if (30) < (S.1 4) then
        fX7_fits_b23 a0 a1 S
      else
        fX7_fits_b24 a0 a1 1 S
noncomputable def fX7_seals_b129 (s0 : Int32) (S : rS) : Option (Int32 × rS) :=
    some (s0, S)
noncomputable def fX7_seals_b117 (l8 : Int32) (s0 : Int32) (S : rS) : Option (Int32 × rS) :=
    Option.bind (fX7_fails s0 S) fun q117 =>
    if (q117.1) = 0 then
      fX7_seals_b129 l8 (q117.2)
    else
      fX7_seals_b129 0 (q117.2)
noncomputable def fX7_seals_b95 (l4 : Int32) (l8 : Int32) (s0 : Int32) (S : rS) : Option (Int32 × rS) :=
    if (l4) = 0 then
      fX7_seals_b117 l8 1 S
    else
      if (s0) = 0 then
        fX7_seals_b117 l8 2 S
      else
        fX7_seals_b117 l8 0 S
noncomputable def fX7_seals_b94 (l4 : Int32) (l8 : Int32) (S : rS) : Option (Int32 × rS) :=
    fX7_seals_b95 l4 l8 0 S
noncomputable def fX7_seals_b72 (l4 : Int32) (l5 : Int32) (l6 : Int32) (l7 : Int32) (s0 : Int32) (S : rS) : Option (Int32 × rS) :=
    if (l7) = 0 then
      fX7_seals_b94 l4 s0 S
    else
      Option.bind (fX7_fits l5 l6 S) fun q84 =>
      if (q84.1) = 0 then
        fX7_seals_b94 l4 s0 (q84.2)
      else
        fX7_seals_b95 l4 s0 1 (q84.2)
noncomputable def fX7_seals_b54 (l1 : Int32) (l2 : Int32) (l3 : Int32) (l4 : Int32) (l5 : Int32) (l6 : Int32) (s0 : Int32) (S : rS) : Option (Int32 × rS) :=
    if (s0) = 0 then
      fX7_seals_b72 l4 l5 l6 s0 ((-1)) S
    else
      Option.bind (fX7_makes l1 l2 l3 S) fun q65 =>
      fX7_seals_b72 l4 l5 l6 s0 (q65.1) (q65.2)
noncomputable def fX7_seals_b53 (l1 : Int32) (l2 : Int32) (l3 : Int32) (l4 : Int32) (l5 : Int32) (l6 : Int32) (S : rS) : Option (Int32 × rS) :=
    fX7_seals_b54 l1 l2 l3 l4 l5 l6 0 S
noncomputable def fX7_seals_b21 (l1 : Int32) (l2 : Int32) (l3 : Int32) (s0 : Int32) (S : rS) : Option (Int32 × rS) :=
    (fun v27 : Int32 =>
    (fun v33 : Int32 =>
    if (s0) = 0 then
      fX7_seals_b53 l1 l2 l3 s0 v27 v33 S
    else
      Option.bind (fX7_matchOf l2 l3 S) fun q43 =>
      if (q43.1) = 0 then
        fX7_seals_b54 l1 l2 l3 s0 v27 v33 1 (q43.2)
      else
        fX7_seals_b53 l1 l2 l3 s0 v27 v33 (q43.2)) (S.1 4)) (S.1 0)
noncomputable def fX7_seals_b20 (l1 : Int32) (l2 : Int32) (l3 : Int32) (S : rS) : Option (Int32 × rS) :=
    fX7_seals_b21 l1 l2 l3 0 S
noncomputable def fX7_seals (a0 : Int32) (a1 : Int32) (a2 : Int32) (S : rS) : Option (Int32 × rS) :=
    Option.bind (fX7_isStructure a1 S) fun q2 =>
    if (q2.1) = 0 then
      fX7_seals_b20 a0 a1 a2 (q2.2)
    else
      Option.bind (fX7_isSignature a2 (q2.2)) fun q10 =>
      if (q10.1) = 0 then
        fX7_seals_b20 a0 a1 a2 (q10.2)
      else
        fX7_seals_b21 a0 a1 a2 1 (q10.2)
noncomputable def fX7_seal (a0 : Int32) (a1 : Int32) (S : rS) : Option (Int32 × rS) :=
    Option.bind (fX7_seals 0 a0 a1 S) fun q4 =>
    some (q4.1, q4.2)
noncomputable def fX7_view (a0 : Int32) (a1 : Int32) (S : rS) : Option (Int32 × rS) :=
    Option.bind (fX7_seals 1 a0 a1 S) fun q4 =>
    some (q4.1, q4.2)
noncomputable def fX7_finer_b65 (l3 : Int32) (l4 : Int32) (s0 : Int32) (S : rS) : Option (Int32 × rS) :=
    (fun S69 : rS =>
    (fun S75 : rS =>
    rbo (s0) S75) (rpf S69 4 (l4))) (rpf S 0 (l3))
noncomputable def fX7_finer_b22 (l1 : Int32) (l2 : Int32) (s0 : Int32) (S : rS) : Option (Int32 × rS) :=
    Option.bind (fX7_fails s0 S) fun q22 =>
    if (q22.1) = 0 then
      (fun v34 : Int32 =>
      (fun v39 : Int32 =>
      Option.bind (fX7_makes 2 ((-1)) l1 (q22.2)) fun q45 =>
      (fun v48 : Int32 =>
      Option.bind (fX7_matchOf v48 l2 (q45.2)) fun q54 =>
      if (q54.1) = 0 then
        fX7_finer_b65 v34 v39 1 (q54.2)
      else
        fX7_finer_b65 v34 v39 0 (q54.2)) (q45.1)) (q22.2.1 4)) (q22.2.1 0)
    else
      rbo (0) (q22.2)
noncomputable def fX7_finer_b21 (l1 : Int32) (l2 : Int32) (S : rS) : Option (Int32 × rS) :=
    fX7_finer_b22 l1 l2 1 S
noncomputable def fX7_finer (a0 : Int32) (a1 : Int32) (S : rS) : Option (Int32 × rS) :=
    Option.bind (fX7_isSignature a0 S) fun q3 =>
    if (q3.1) = 0 then
      fX7_finer_b21 a0 a1 (q3.2)
    else
      Option.bind (fX7_isSignature a1 (q3.2)) fun q11 =>
      if (q11.1) = 0 then
        fX7_finer_b21 a0 a1 (q11.2)
      else
        fX7_finer_b22 a0 a1 0 (q11.2)
noncomputable def fX7_compares_b221 (rec2 : Int32 → rS → Option (rS)) (rec12 : Int32 → Int32 → rS → Option (rS)) (l1 : Int32) (l2 : Int32) (l3 : Int32) (S : rS) : Option (rS) :=
    Option.bind (rwz S 53 ((20 * l1) + l2) (l3)) fun S232 =>
    rec12 l1 (l2 + 1) S232
noncomputable def fX7_compares_b214 (rec2 : Int32 → rS → Option (rS)) (rec12 : Int32 → Int32 → rS → Option (rS)) (rec44 : Int32 → Int32 → Int32 → Int32 → rS → Option (rS)) (l1 : Int32) (l2 : Int32) (l4 : Int32) (s0 : Int32) (S : rS) : Option (rS) :=
    rec44 l1 l2 s0 (l4 + 1) S
noncomputable def fX7_compares_b213 (rec2 : Int32 → rS → Option (rS)) (rec12 : Int32 → Int32 → rS → Option (rS)) (rec44 : Int32 → Int32 → Int32 → Int32 → rS → Option (rS)) (l1 : Int32) (l2 : Int32) (l4 : Int32) (S : rS) : Option (rS) :=
    fX7_compares_b214 rec2 rec12 rec44 l1 l2 l4 0 S
noncomputable def fX7_compares_b168 (rec2 : Int32 → rS → Option (rS)) (rec12 : Int32 → Int32 → rS → Option (rS)) (rec44 : Int32 → Int32 → Int32 → Int32 → rS → Option (rS)) (l1 : Int32) (l2 : Int32) (l4 : Int32) (l5 : Int32) (l6 : Int32) (s0 : Int32) (S : rS) : Option (rS) :=
    Option.bind (rd S 13 (l5)) fun x176 =>
    Option.bind (rd S 13 (l6)) fun x183 =>
    if (x176) = (x183) then
      Option.bind (rd S 14 (l5)) fun x193 =>
      Option.bind (rd S 14 (l6)) fun x200 =>
      if (x193) = (x200) then
        if (s0) = 0 then
          fX7_compares_b213 rec2 rec12 rec44 l1 l2 l4 S
        else
          fX7_compares_b214 rec2 rec12 rec44 l1 l2 l4 1 S
      else
        fX7_compares_b213 rec2 rec12 rec44 l1 l2 l4 S
    else
      fX7_compares_b213 rec2 rec12 rec44 l1 l2 l4 S
noncomputable def fX7_compares_b167 (rec2 : Int32 → rS → Option (rS)) (rec12 : Int32 → Int32 → rS → Option (rS)) (rec44 : Int32 → Int32 → Int32 → Int32 → rS → Option (rS)) (l1 : Int32) (l2 : Int32) (l4 : Int32) (l5 : Int32) (l6 : Int32) (S : rS) : Option (rS) :=
    fX7_compares_b168 rec2 rec12 rec44 l1 l2 l4 l5 l6 0 S
noncomputable def fX7_compares_b124 (rec2 : Int32 → rS → Option (rS)) (rec12 : Int32 → Int32 → rS → Option (rS)) (rec44 : Int32 → Int32 → Int32 → Int32 → rS → Option (rS)) (l1 : Int32) (l2 : Int32) (l4 : Int32) (l5 : Int32) (l6 : Int32) (s0 : Int32) (s1 : Int32) (S : rS) : Option (rS) :=
    Option.bind (rd S 53 (s1 + s0)) fun x125 =>
    fX7_compares_b168 rec2 rec12 rec44 l1 l2 l4 l5 l6 x125 S
noncomputable def fX7_compares_b44_body (rec44 : Int32 → Int32 → Int32 → Int32 → rS → Option (rS)) (rec2 : Int32 → rS → Option (rS)) (rec12 : Int32 → Int32 → rS → Option (rS)) (l1 : Int32) (l2 : Int32) (l3 : Int32) (l4 : Int32) (S : rS) : Option (rS) :=
    Option.bind (rd S 11 (l1)) fun x51 =>
    if (x51) ≤ (l4) then
      fX7_compares_b221 rec2 rec12 l1 l2 l3 S
    else
      if (l3) = 0 then
        fX7_compares_b221 rec2 rec12 l1 l2 l3 S
      else
        (fun v66 : Int32 =>
        (fun v75 : Int32 =>
        Option.bind (rd S 13 (v66)) fun x83 =>
        if (x83) = (2) then
          Option.bind (rd S 15 (v66)) fun x100 =>
          Option.bind (rd S 13 (v75)) fun x108 =>
          if (x108) = (2) then
            Option.bind (rd S 15 (v75)) fun x119 =>
            fX7_compares_b124 rec2 rec12 rec44 l1 l2 l4 v66 v75 x119 (20 * x100) S
          else
            fX7_compares_b124 rec2 rec12 rec44 l1 l2 l4 v66 v75 0 (20 * x100) S
        else
          Option.bind (rd S 15 (v66)) fun x135 =>
          Option.bind (rd S 15 (v75)) fun x142 =>
          if (x135) = (x142) then
            Option.bind (rd S 16 (v66)) fun x152 =>
            Option.bind (rd S 16 (v75)) fun x159 =>
            if (x152) = (x159) then
              fX7_compares_b168 rec2 rec12 rec44 l1 l2 l4 v66 v75 1 S
            else
              fX7_compares_b167 rec2 rec12 rec44 l1 l2 l4 v66 v75 S
          else
            fX7_compares_b167 rec2 rec12 rec44 l1 l2 l4 v66 v75 S) ((60 * l2) + l4)) ((60 * l1) + l4)
noncomputable def fX7_compares_b44 (rec2 : Int32 → rS → Option (rS)) (rec12 : Int32 → Int32 → rS → Option (rS)) : Nat → Int32 → Int32 → Int32 → Int32 → rS → Option (rS)
  | 0, _, _, _, _, _ => none
  | n + 1, l1, l2, l3, l4, S => fX7_compares_b44_body (fX7_compares_b44 rec2 rec12 n) rec2 rec12 l1 l2 l3 l4 S
noncomputable def fX7_compares_b40 (rec2 : Int32 → rS → Option (rS)) (rec12 : Int32 → Int32 → rS → Option (rS)) (l1 : Int32) (l2 : Int32) (s0 : Int32) (S : rS) : Option (rS) :=
    fX7_compares_b44 rec2 rec12 rFuel l1 l2 s0 0 S
noncomputable def fX7_compares_b12_body (rec12 : Int32 → Int32 → rS → Option (rS)) (rec2 : Int32 → rS → Option (rS)) (l1 : Int32) (l2 : Int32) (S : rS) : Option (rS) :=
    if (S.1 10) ≤ (l2) then
      rec2 (l1 + 1) S
    else
      Option.bind (rd S 11 (l1)) fun x25 =>
      Option.bind (rd S 11 (l2)) fun x31 =>
      if (x25) = (x31) then
        fX7_compares_b40 rec2 rec12 l1 l2 1 S
      else
        fX7_compares_b40 rec2 rec12 l1 l2 0 S
noncomputable def fX7_compares_b12 (rec2 : Int32 → rS → Option (rS)) : Nat → Int32 → Int32 → rS → Option (rS)
  | 0, _, _, _ => none
  | n + 1, l1, l2, S => fX7_compares_b12_body (fX7_compares_b12 rec2 n) rec2 l1 l2 S
noncomputable def fX7_compares_b2_body (rec2 : Int32 → rS → Option (rS)) (l1 : Int32) (S : rS) : Option (rS) :=
    if (S.1 10) ≤ (l1) then
      some S
    else
      fX7_compares_b12 rec2 rFuel l1 0 S
noncomputable def fX7_compares_b2 : Nat → Int32 → rS → Option (rS)
  | 0, _, _ => none
  | n + 1, l1, S => fX7_compares_b2_body (fX7_compares_b2 n) l1 S
noncomputable def fX7_compares (S : rS) : Option (rS) :=
    fX7_compares_b2 rFuel 0 S
noncomputable def fX7_alike_b22 (l1 : Int32) (l2 : Int32) (s0 : Int32) (S : rS) : Option (Int32 × rS) :=
    Option.bind (fX7_fails s0 S) fun q22 =>
    if (q22.1) = 0 then
      Option.bind (fX7_compares  (q22.2)) fun q31 =>
      Option.bind (rd q31 53 ((20 * l1) + l2)) fun x44 =>
      rbo (x44) q31
    else
      rbo (0) (q22.2)
noncomputable def fX7_alike_b21 (l1 : Int32) (l2 : Int32) (S : rS) : Option (Int32 × rS) :=
    fX7_alike_b22 l1 l2 1 S
noncomputable def fX7_alike (a0 : Int32) (a1 : Int32) (S : rS) : Option (Int32 × rS) :=
    Option.bind (fX7_isSignature a0 S) fun q3 =>
    if (q3.1) = 0 then
      fX7_alike_b21 a0 a1 (q3.2)
    else
      Option.bind (fX7_isSignature a1 (q3.2)) fun q11 =>
      if (q11.1) = 0 then
        fX7_alike_b21 a0 a1 (q11.2)
      else
        fX7_alike_b22 a0 a1 0 (q11.2)
noncomputable def fX7_findsBody_b54 (rec9 : Int32 → Int32 → Int32 → Int32 → Int32 → rS → Option (Int32 × rS)) (l1 : Int32) (l2 : Int32) (l3 : Int32) (l5 : Int32) (s0 : Int32) (S : rS) : Option (Int32 × rS) :=
    rec9 l1 l2 l3 s0 (l5 + 1) S
noncomputable def fX7_findsBody_b52 (rec9 : Int32 → Int32 → Int32 → Int32 → Int32 → rS → Option (Int32 × rS)) (l1 : Int32) (l2 : Int32) (l3 : Int32) (l4 : Int32) (l5 : Int32) (S : rS) : Option (Int32 × rS) :=
    fX7_findsBody_b54 rec9 l1 l2 l3 l5 l4 S
noncomputable def fX7_findsBody_b9_body (rec9 : Int32 → Int32 → Int32 → Int32 → Int32 → rS → Option (Int32 × rS)) (l1 : Int32) (l2 : Int32) (l3 : Int32) (l4 : Int32) (l5 : Int32) (S : rS) : Option (Int32 × rS) :=
    Option.bind (rd S 18 (l1)) fun x20 =>
    if ((20 * l1) + x20) ≤ (l5) then
      some (l4, S)
    else
      Option.bind (rd S 19 (l5)) fun x31 =>
      if (x31) = (l2) then
        Option.bind (rd S 20 (l5)) fun x42 =>
        if (x42) = (l3) then
          fX7_findsBody_b54 rec9 l1 l2 l3 l5 l5 S
        else
          fX7_findsBody_b52 rec9 l1 l2 l3 l4 l5 S
      else
        fX7_findsBody_b52 rec9 l1 l2 l3 l4 l5 S
noncomputable def fX7_findsBody_b9 : Nat → Int32 → Int32 → Int32 → Int32 → Int32 → rS → Option (Int32 × rS)
  | 0, _, _, _, _, _, _ => none
  | n + 1, l1, l2, l3, l4, l5, S => fX7_findsBody_b9_body (fX7_findsBody_b9 n) l1 l2 l3 l4 l5 S
noncomputable def fX7_findsBody (a0 : Int32) (a1 : Int32) (a2 : Int32) (S : rS) : Option (Int32 × rS) :=
    (fun v7 : Int32 =>
    fX7_findsBody_b9 rFuel a0 a1 a2 ((-1)) v7 S) (20 * a0)
noncomputable def fX7_writes (a0 : Int32) (a1 : Int32) (a2 : Int32) (a3 : Int32) (a4 : Int32) (a5 : Int32) (S : rS) : Option (Int32 × rS) :=
    Option.bind (rd S 18 (8)) fun x9 =>
    (fun v11 : Int32 =>
    Option.bind (rwr S 19 (v11) (a0)) fun S20 =>
    Option.bind (rwr S20 20 (v11) (a1)) fun S28 =>
    Option.bind (rwr S28 21 (v11) (a2)) fun S36 =>
    Option.bind (rwr S36 22 (v11) (a3)) fun S45 =>
    Option.bind (rwr S45 23 (v11) (a4)) fun S54 =>
    Option.bind (rwr S54 24 (v11) (a5)) fun S63 =>
    Option.bind (rd S63 18 (8)) fun x71 =>
    Option.bind (rwr S63 18 (8) (x71 + 1)) fun S74 =>
    Option.bind (rd S74 18 (8)) fun x81 =>
    some (x81, S74)) (160 + x9)
noncomputable def fX7_isFrom (a0 : Int32) (S : rS) : Option (Int32 × rS) :=
    Option.bind (fX7_isIn a0 ((-1)) 9 S) fun q4 =>
    rbo (q4.1) (q4.2)
noncomputable def fX7_bodyType_b36 (l1 : Int32) (l2 : Int32) (s0 : Int32) (S : rS) : Option (Int32 × rS) :=
    Option.bind (fX7_fails s0 S) fun q36 =>
    if (q36.1) = 0 then
      Option.bind (fX7_writes 0 l1 0 ((-100)) l2 0 (q36.2)) fun q52 =>
      some (q52.1, q52.2)
    else
      some (0, q36.2)
noncomputable def fX7_bodyType_b15 (l1 : Int32) (l2 : Int32) (S : rS) : Option (Int32 × rS) :=
    fX7_bodyType_b36 l1 l2 1 S
noncomputable def fX7_bodyType (a0 : Int32) (a1 : Int32) (S : rS) : Option (Int32 × rS) :=
    Option.bind (fX7_isName a0 S) fun q2 =>
    if (q2.1) = 0 then
      fX7_bodyType_b15 a0 a1 (q2.2)
    else
      Option.bind (fX7_isFrom a1 (q2.2)) fun q9 =>
      if (q9.1) = 0 then
        fX7_bodyType_b15 a0 a1 (q9.2)
      else
        Option.bind (fX7_findsBody 8 0 a0 (q9.2)) fun q24 =>
        if (q24.1) = ((-1)) then
          fX7_bodyType_b36 a0 a1 0 (q24.2)
        else
          fX7_bodyType_b36 a0 a1 2 (q24.2)
noncomputable def fX7_isBodyTold_b31 (s0 : Int32) (S : rS) : Option (Int32 × rS) :=
    rbo (s0) S
noncomputable def fX7_isBodyTold (a0 : Int32) (S : rS) : Option (Int32 × rS) :=
    if (a0) < 0 then
      Option.bind (fX7_findsBody 8 0 (((-1)) - a0) S) fun q19 =>
      if (q19.1) = ((-1)) then
        fX7_isBodyTold_b31 0 (q19.2)
      else
        fX7_isBodyTold_b31 1 (q19.2)
    else
      Option.bind (fX7_isType a0 S) fun q6 =>
      fX7_isBodyTold_b31 (q6.1) (q6.2)
noncomputable def fX7_bodyValue_b95 (l1 : Int32) (l2 : Int32) (l3 : Int32) (l4 : Int32) (l5 : Int32) (s0 : Int32) (S : rS) : Option (Int32 × rS) :=
    Option.bind (fX7_fails s0 S) fun q95 =>
    if (q95.1) = 0 then
      Option.bind (fX7_writes 1 l1 l2 l3 l4 l5 (q95.2)) fun q112 =>
      some (q112.1, q112.2)
    else
      some (0, q95.2)
noncomputable def fX7_bodyValue_b57 (l1 : Int32) (l2 : Int32) (l3 : Int32) (l4 : Int32) (l5 : Int32) (l6 : Int32) (s0 : Int32) (S : rS) : Option (Int32 × rS) :=
    if (l6) = 0 then
      fX7_bodyValue_b95 l1 l2 l3 l4 l5 1 S
    else
      if (s0) = 0 then
        fX7_bodyValue_b95 l1 l2 l3 l4 l5 2 S
      else
        Option.bind (fX7_findsBody 8 1 l1 S) fun q83 =>
        if (q83.1) = ((-1)) then
          fX7_bodyValue_b95 l1 l2 l3 l4 l5 0 (q83.2)
        else
          fX7_bodyValue_b95 l1 l2 l3 l4 l5 3 (q83.2)
noncomputable def fX7_bodyValue_b56 (l1 : Int32) (l2 : Int32) (l3 : Int32) (l4 : Int32) (l5 : Int32) (l6 : Int32) (S : rS) : Option (Int32 × rS) :=
    fX7_bodyValue_b57 l1 l2 l3 l4 l5 l6 0 S
noncomputable def fX7_bodyValue_b27 (l1 : Int32) (l2 : Int32) (l3 : Int32) (l4 : Int32) (l5 : Int32) (s0 : Int32) (S : rS) : Option (Int32 × rS) :=
    Option.bind (fX7_isName l1 S) fun q30 =>
    if (q30.1) = 0 then
      fX7_bodyValue_b56 l1 l2 l3 l4 l5 s0 (q30.2)
    else
      Option.bind (fX7_isFrom l4 (q30.2)) fun q38 =>
      if (q38.1) = 0 then
        fX7_bodyValue_b56 l1 l2 l3 l4 l5 s0 (q38.2)
      else
        Option.bind (fX7_isNumber l5 (q38.2)) fun q46 =>
        if (q46.1) = 0 then
          fX7_bodyValue_b56 l1 l2 l3 l4 l5 s0 (q46.2)
        else
          fX7_bodyValue_b57 l1 l2 l3 l4 l5 s0 1 (q46.2)
noncomputable def fX7_bodyValue_b26 (l1 : Int32) (l2 : Int32) (l3 : Int32) (l4 : Int32) (l5 : Int32) (S : rS) : Option (Int32 × rS) :=
    fX7_bodyValue_b27 l1 l2 l3 l4 l5 0 S
noncomputable def fX7_bodyValue_b22 (l1 : Int32) (l2 : Int32) (l3 : Int32) (l4 : Int32) (l5 : Int32) (S : rS) : Option (Int32 × rS) :=
    fX7_bodyValue_b27 l1 l2 l3 l4 l5 1 S
noncomputable def fX7_bodyValue (a0 : Int32) (a1 : Int32) (a2 : Int32) (a3 : Int32) (a4 : Int32) (S : rS) : Option (Int32 × rS) :=
    Option.bind (fX7_isBodyTold a1 S) fun q2 =>
    if (q2.1) = 0 then
      fX7_bodyValue_b26 a0 a1 a2 a3 a4 (q2.2)
    else
      if (a2) = ((-100)) then
        fX7_bodyValue_b22 a0 a1 a2 a3 a4 (q2.2)
      else
        Option.bind (fX7_isBodyTold a2 (q2.2)) fun q16 =>
        if (q16.1) = 0 then
          fX7_bodyValue_b26 a0 a1 a2 a3 a4 (q16.2)
        else
          fX7_bodyValue_b22 a0 a1 a2 a3 a4 (q16.2)
noncomputable def fX7_functor_b153_body (rec153 : Int32 → Int32 → Int32 → Int32 → rS → Option (Int32 × rS)) (l1 : Int32) (l2 : Int32) (l3 : Int32) (l6 : Int32) (S : rS) : Option (Int32 × rS) :=
    Option.bind (rd S 18 (8)) fun x161 =>
    if (x161) ≤ (l6) then
      Option.bind (rd S 18 (8)) fun x289 =>
      Option.bind (rwr S 18 (S.1 17) (x289)) fun S290 =>
      Option.bind (rwr S290 18 (8) (0)) fun S298 =>
      Option.bind (rwr S298 25 (S298.1 17) (l1)) fun S308 =>
      Option.bind (rwr S308 26 (S308.1 17) (l2)) fun S318 =>
      Option.bind (rwz S318 27 (S318.1 17) (l3)) fun S328 =>
      (fun S336 : rS =>
      some ((S336.1 17) - 1, S336)) (rpf S328 17 ((S328.1 17) + 1))
    else
      (fun v171 : Int32 =>
      (fun v183 : Int32 =>
      Option.bind (rd S 19 (v171)) fun x197 =>
      Option.bind (rwr S 19 (v183) (x197)) fun S198 =>
      Option.bind (rd S198 20 (v171)) fun x211 =>
      Option.bind (rwr S198 20 (v183) (x211)) fun S212 =>
      Option.bind (rd S212 21 (v171)) fun x225 =>
      Option.bind (rwr S212 21 (v183) (x225)) fun S226 =>
      Option.bind (rd S226 22 (v171)) fun x239 =>
      Option.bind (rwr S226 22 (v183) (x239)) fun S240 =>
      Option.bind (rd S240 23 (v171)) fun x253 =>
      Option.bind (rwr S240 23 (v183) (x253)) fun S254 =>
      Option.bind (rd S254 24 (v171)) fun x267 =>
      Option.bind (rwr S254 24 (v183) (x267)) fun S268 =>
      rec153 l1 l2 l3 (l6 + 1) S268) ((20 * (S.1 17)) + l6)) (160 + l6)
noncomputable def fX7_functor_b153 : Nat → Int32 → Int32 → Int32 → Int32 → rS → Option (Int32 × rS)
  | 0, _, _, _, _, _ => none
  | n + 1, l1, l2, l3, l6, S => fX7_functor_b153_body (fX7_functor_b153 n) l1 l2 l3 l6 S
noncomputable def fX7_functor_b142 (l1 : Int32) (l2 : Int32) (l3 : Int32) (s0 : Int32) (S : rS) : Option (Int32 × rS) :=
    Option.bind (fX7_fails s0 S) fun q142 =>
    if (q142.1) = 0 then
      fX7_functor_b153 rFuel l1 l2 l3 0 (q142.2)
    else
      some (0, q142.2)
noncomputable def fX7_functor_b122 (l1 : Int32) (l2 : Int32) (l3 : Int32) (l4 : Int32) (l5 : Int32) (S : rS) : Option (Int32 × rS) :=
    if (l4) = 0 then
      fX7_functor_b142 l1 l2 l3 1 S
    else
      if (l5) = 0 then
        fX7_functor_b142 l1 l2 l3 2 S
      else
        fX7_functor_b142 l1 l2 l3 0 S
noncomputable def fX7_functor_b114 (rec54 : Int32 → Int32 → Int32 → Int32 → Int32 → Int32 → rS → Option (Int32 × rS)) (l1 : Int32) (l2 : Int32) (l3 : Int32) (l4 : Int32) (l6 : Int32) (s0 : Int32) (S : rS) : Option (Int32 × rS) :=
    rec54 l1 l2 l3 l4 s0 (l6 + 1) S
noncomputable def fX7_functor_b109 (rec54 : Int32 → Int32 → Int32 → Int32 → Int32 → Int32 → rS → Option (Int32 × rS)) (l1 : Int32) (l2 : Int32) (l3 : Int32) (l4 : Int32) (l6 : Int32) (S : rS) : Option (Int32 × rS) :=
    fX7_functor_b114 rec54 l1 l2 l3 l4 l6 1 S
noncomputable def fX7_functor_b54_body (rec54 : Int32 → Int32 → Int32 → Int32 → Int32 → Int32 → rS → Option (Int32 × rS)) (l1 : Int32) (l2 : Int32) (l3 : Int32) (l4 : Int32) (l5 : Int32) (l6 : Int32) (S : rS) : Option (Int32 × rS) :=
    if (l5) = 0 then
      fX7_functor_b122 l1 l2 l3 l4 l5 S
    else
      Option.bind (rd S 18 (8)) fun x70 =>
      if (160 + x70) ≤ (l6) then
        fX7_functor_b122 l1 l2 l3 l4 l5 S
      else
        Option.bind (rd S 23 (l6)) fun x81 =>
        if (x81) = ((-1)) then
          fX7_functor_b109 rec54 l1 l2 l3 l4 l6 S
        else
          Option.bind (rd S 19 (l6)) fun x94 =>
          Option.bind (rd S 23 (l6)) fun x101 =>
          Option.bind (fX7_findsSpec l1 x94 x101 S) fun q102 =>
          if (q102.1) = ((-1)) then
            fX7_functor_b114 rec54 l1 l2 l3 l4 l6 0 (q102.2)
          else
            fX7_functor_b109 rec54 l1 l2 l3 l4 l6 (q102.2)
noncomputable def fX7_functor_b54 : Nat → Int32 → Int32 → Int32 → Int32 → Int32 → Int32 → rS → Option (Int32 × rS)
  | 0, _, _, _, _, _, _, _ => none
  | n + 1, l1, l2, l3, l4, l5, l6, S => fX7_functor_b54_body (fX7_functor_b54 n) l1 l2 l3 l4 l5 l6 S
noncomputable def fX7_functor_b47 (l1 : Int32) (l2 : Int32) (l3 : Int32) (l4 : Int32) (s0 : Int32) (S : rS) : Option (Int32 × rS) :=
    fX7_functor_b54 rFuel l1 l2 l3 l4 s0 160 S
noncomputable def fX7_functor_b46 (l1 : Int32) (l2 : Int32) (l3 : Int32) (l4 : Int32) (S : rS) : Option (Int32 × rS) :=
    fX7_functor_b47 l1 l2 l3 l4 0 S
noncomputable def fX7_functor_b26 (l1 : Int32) (l2 : Int32) (l3 : Int32) (s0 : Int32) (S : rS) : Option (Int32 × rS) :=
    if (s0) = 0 then
      fX7_functor_b46 l1 l2 l3 s0 S
    else
      if (8) ≤ (S.1 17) then
        fX7_functor_b46 l1 l2 l3 s0 S
      else
        fX7_functor_b47 l1 l2 l3 s0 1 S
noncomputable def fX7_functor_b25 (l1 : Int32) (l2 : Int32) (l3 : Int32) (S : rS) : Option (Int32 × rS) :=
    fX7_functor_b26 l1 l2 l3 0 S
noncomputable def fX7_functor_b21 (l1 : Int32) (l2 : Int32) (l3 : Int32) (S : rS) : Option (Int32 × rS) :=
    fX7_functor_b26 l1 l2 l3 1 S
noncomputable def fX7_functor (a0 : Int32) (a1 : Int32) (a2 : Int32) (S : rS) : Option (Int32 × rS) :=
    Option.bind (fX7_isSignature a0 S) fun q2 =>
    if (q2.1) = 0 then
      fX7_functor_b25 a0 a1 a2 (q2.2)
    else
      if (a1) = ((-1)) then
        fX7_functor_b21 a0 a1 a2 (q2.2)
      else
        Option.bind (fX7_isSignature a1 (q2.2)) fun q15 =>
        if (q15.1) = 0 then
          fX7_functor_b25 a0 a1 a2 (q15.2)
        else
          fX7_functor_b21 a0 a1 a2 (q15.2)
noncomputable def fX7_cut_b27 (s0 : Int32) (S : rS) : Option (Int32 × rS) :=
    some (s0, S)
noncomputable def fX7_cut (a0 : Int32) (S : rS) : Option (Int32 × rS) :=
    if (a0) ≤ (10000) then
      if ((-10000)) ≤ (a0) then
        fX7_cut_b27 a0 S
      else
        fX7_cut_b27 ((-10000)) S
    else
      fX7_cut_b27 10000 S
noncomputable def fX7_gives_b212 (rec15 : Int32 → Int32 → Int32 → rS → Option (Int32 × rS)) (l1 : Int32) (l2 : Int32) (l3 : Int32) (S : rS) : Option (Int32 × rS) :=
    rec15 l1 l2 (l3 + 1) S
noncomputable def fX7_gives_b205 (rec15 : Int32 → Int32 → Int32 → rS → Option (Int32 × rS)) (l1 : Int32) (l2 : Int32) (l3 : Int32) (s0 : Int32) (s1 : Int32) (s2 : Int32) (s3 : Int32) (s4 : Int32) (s5 : Int32) (S : rS) : Option (Int32 × rS) :=
    Option.bind (fX7_cut (s1 + s0) S) fun q206 =>
    Option.bind (fX7_puts s5 s4 s3 s2 (q206.1) (q206.2)) fun q209 =>
    fX7_gives_b212 rec15 l1 l2 l3 q209
noncomputable def fX7_gives_b166 (rec15 : Int32 → Int32 → Int32 → rS → Option (Int32 × rS)) (l1 : Int32) (l2 : Int32) (l3 : Int32) (l4 : Int32) (s0 : Int32) (S : rS) : Option (Int32 × rS) :=
    Option.bind (rd S 20 (l3)) fun x179 =>
    Option.bind (rd S 24 (l3)) fun x187 =>
    if (l4) = ((-1)) then
      fX7_gives_b205 rec15 l1 l2 l3 0 x187 s0 x179 1 (S.1 4) S
    else
      Option.bind (rd S 9 (l4)) fun x204 =>
      fX7_gives_b205 rec15 l1 l2 l3 x204 x187 s0 x179 1 (S.1 4) S
noncomputable def fX7_gives_b107 (rec15 : Int32 → Int32 → Int32 → rS → Option (Int32 × rS)) (l1 : Int32) (l2 : Int32) (l3 : Int32) (s0 : Int32) (s1 : Int32) (s2 : Int32) (s3 : Int32) (S : rS) : Option (Int32 × rS) :=
    Option.bind (fX7_puts s3 s2 s1 s0 0 S) fun q108 =>
    fX7_gives_b212 rec15 l1 l2 l3 q108
noncomputable def fX7_gives_b61 (rec15 : Int32 → Int32 → Int32 → rS → Option (Int32 × rS)) (l1 : Int32) (l2 : Int32) (l3 : Int32) (s0 : Int32) (S : rS) : Option (Int32 × rS) :=
    Option.bind (rd S 19 (l3)) fun x68 =>
    if (x68) = 0 then
      Option.bind (rd S 20 (l3)) fun x83 =>
      if (s0) = ((-1)) then
        Option.bind (fX7_makesType 1 ((-1)) ((-1)) S) fun q94 =>
        fX7_gives_b107 rec15 l1 l2 l3 (q94.1) x83 0 (S.1 4) (q94.2)
      else
        Option.bind (rd S 8 (s0)) fun x106 =>
        fX7_gives_b107 rec15 l1 l2 l3 x106 x83 0 (S.1 4) S
    else
      Option.bind (rd S 21 (l3)) fun x124 =>
      Option.bind (fX7_meant (S.1 4) x124 S) fun q125 =>
      (fun v128 : Int32 =>
      Option.bind (rd (q125.2) 22 (l3)) fun x135 =>
      if (x135) = ((-100)) then
        fX7_gives_b166 rec15 l1 l2 l3 s0 v128 (q125.2)
      else
        Option.bind (rd (q125.2) 22 (l3)) fun x159 =>
        Option.bind (fX7_meant (q125.2.1 4) x159 (q125.2)) fun q160 =>
        Option.bind (fX7_arrowOf v128 (q160.1) (q160.2)) fun q163 =>
        fX7_gives_b166 rec15 l1 l2 l3 s0 (q163.1) (q163.2)) (q125.1)
noncomputable def fX7_gives_b15_body (rec15 : Int32 → Int32 → Int32 → rS → Option (Int32 × rS)) (l1 : Int32) (l2 : Int32) (l3 : Int32) (S : rS) : Option (Int32 × rS) :=
    Option.bind (rd S 18 (l1)) fun x25 =>
    if ((20 * l1) + x25) ≤ (l3) then
      (fun S225 : rS =>
      some ((S225.1 4) - 1, S225)) (rpf S 4 ((S.1 4) + 1))
    else
      Option.bind (rd S 23 (l3)) fun x35 =>
      if (x35) = ((-1)) then
        fX7_gives_b61 rec15 l1 l2 l3 ((-1)) S
      else
        Option.bind (rd S 19 (l3)) fun x51 =>
        Option.bind (rd S 23 (l3)) fun x57 =>
        Option.bind (fX7_findsItem l2 x51 x57 S) fun q58 =>
        fX7_gives_b61 rec15 l1 l2 l3 (q58.1) (q58.2)
noncomputable def fX7_gives_b15 : Nat → Int32 → Int32 → Int32 → rS → Option (Int32 × rS)
  | 0, _, _, _, _ => none
  | n + 1, l1, l2, l3, S => fX7_gives_b15_body (fX7_gives_b15 n) l1 l2 l3 S
noncomputable def fX7_gives (a0 : Int32) (a1 : Int32) (S : rS) : Option (Int32 × rS) :=
    Option.bind (rwr S 5 (S.1 4) (0)) fun S9 =>
    (fun v14 : Int32 =>
    fX7_gives_b15 rFuel a0 a1 v14 S9) (20 * a0)
noncomputable def fX7_apply_b282 (l4 : Int32) (l8 : Int32) (s0 : Int32) (S : rS) : Option (Int32 × rS) :=
    Option.bind (fX7_fails s0 S) fun q282 =>
    if (q282.1) = 0 then
      Option.bind (rwr (q282.2) 28 (l4) (l8)) fun S298 =>
      some (l8, S298)
    else
      some (0, q282.2)
noncomputable def fX7_apply_b260 (l3 : Int32) (l4 : Int32) (l7 : Int32) (l8 : Int32) (s0 : Int32) (S : rS) : Option (Int32 × rS) :=
    (fun S260 : rS =>
    if (l3) = 0 then
      fX7_apply_b282 l4 l8 1 S260
    else
      if (l7) = 0 then
        fX7_apply_b282 l4 l8 2 S260
      else
        fX7_apply_b282 l4 l8 0 S260) (rpf S 4 (s0))
noncomputable def fX7_apply_b242 (l3 : Int32) (l4 : Int32) (l6 : Int32) (l7 : Int32) (l8 : Int32) (s0 : Int32) (S : rS) : Option (Int32 × rS) :=
    (fun S242 : rS =>
    if (l7) = 0 then
      fX7_apply_b260 l3 l4 l7 l8 l6 S242
    else
      fX7_apply_b260 l3 l4 l7 l8 (S242.1 4) S242) (rpf S 0 (s0))
noncomputable def fX7_apply_b225 (l3 : Int32) (l4 : Int32) (l5 : Int32) (l6 : Int32) (l8 : Int32) (s0 : Int32) (S : rS) : Option (Int32 × rS) :=
    if (s0) = 0 then
      fX7_apply_b242 l3 l4 l6 s0 l8 l5 S
    else
      fX7_apply_b242 l3 l4 l6 s0 l8 (S.1 0) S
noncomputable def fX7_apply_b224 (l3 : Int32) (l4 : Int32) (l5 : Int32) (l6 : Int32) (l8 : Int32) (S : rS) : Option (Int32 × rS) :=
    fX7_apply_b225 l3 l4 l5 l6 l8 0 S
noncomputable def fX7_apply_b196 (l3 : Int32) (l4 : Int32) (l5 : Int32) (l6 : Int32) (l7 : Int32) (l8 : Int32) (S : rS) : Option (Int32 × rS) :=
    if (l7) = 0 then
      fX7_apply_b224 l3 l4 l5 l6 l8 S
    else
      if (200) < (S.1 0) then
        fX7_apply_b224 l3 l4 l5 l6 l8 S
      else
        if (30) < (S.1 4) then
          fX7_apply_b224 l3 l4 l5 l6 l8 S
        else
          fX7_apply_b225 l3 l4 l5 l6 l8 1 S
noncomputable def fX7_apply_b194 (l3 : Int32) (l4 : Int32) (l5 : Int32) (l6 : Int32) (l7 : Int32) (s0 : Int32) (S : rS) : Option (Int32 × rS) :=
    fX7_apply_b196 l3 l4 l5 l6 l7 s0 S
noncomputable def fX7_apply_b170 (l1 : Int32) (l3 : Int32) (l4 : Int32) (l5 : Int32) (l6 : Int32) (l8 : Int32) (s0 : Int32) (S : rS) : Option (Int32 × rS) :=
    if (s0) = 0 then
      fX7_apply_b194 l3 l4 l5 l6 s0 ((-1)) S
    else
      Option.bind (rd S 26 (l1)) fun x186 =>
      Option.bind (fX7_makes 0 l8 x186 S) fun q187 =>
      fX7_apply_b194 l3 l4 l5 l6 s0 (q187.1) (q187.2)
noncomputable def fX7_apply_b133 (l1 : Int32) (l3 : Int32) (l4 : Int32) (l5 : Int32) (l6 : Int32) (l7 : Int32) (s0 : Int32) (S : rS) : Option (Int32 × rS) :=
    if (l7) = 0 then
      fX7_apply_b196 l3 l4 l5 l6 l7 s0 S
    else
      Option.bind (rd S 26 (l1)) fun x145 =>
      if (x145) = ((-1)) then
        fX7_apply_b196 l3 l4 l5 l6 l7 s0 S
      else
        Option.bind (rd S 26 (l1)) fun x158 =>
        Option.bind (fX7_matchOf s0 x158 S) fun q159 =>
        if (q159.1) = 0 then
          fX7_apply_b170 l1 l3 l4 l5 l6 s0 1 (q159.2)
        else
          fX7_apply_b170 l1 l3 l4 l5 l6 s0 0 (q159.2)
noncomputable def fX7_apply_b116 (l1 : Int32) (l2 : Int32) (l3 : Int32) (l4 : Int32) (l5 : Int32) (l6 : Int32) (s0 : Int32) (S : rS) : Option (Int32 × rS) :=
    if (s0) = 0 then
      fX7_apply_b133 l1 l3 l4 l5 l6 s0 ((-1)) S
    else
      Option.bind (fX7_gives l1 l2 S) fun q126 =>
      fX7_apply_b133 l1 l3 l4 l5 l6 s0 (q126.1) (q126.2)
noncomputable def fX7_apply_b115 (l1 : Int32) (l2 : Int32) (l3 : Int32) (l4 : Int32) (l5 : Int32) (l6 : Int32) (S : rS) : Option (Int32 × rS) :=
    fX7_apply_b116 l1 l2 l3 l4 l5 l6 0 S
noncomputable def fX7_apply_b81 (l1 : Int32) (l2 : Int32) (l3 : Int32) (l4 : Int32) (S : rS) : Option (Int32 × rS) :=
    (fun v85 : Int32 =>
    (fun v91 : Int32 =>
    if (l3) = 0 then
      fX7_apply_b115 l1 l2 l3 l4 v85 v91 S
    else
      Option.bind (rd S 25 (l1)) fun x104 =>
      Option.bind (fX7_matchOf l2 x104 S) fun q105 =>
      if (q105.1) = 0 then
        fX7_apply_b116 l1 l2 l3 l4 v85 v91 1 (q105.2)
      else
        fX7_apply_b115 l1 l2 l3 l4 v85 v91 (q105.2)) (S.1 4)) (S.1 0)
noncomputable def fX7_apply_b42 (l1 : Int32) (l2 : Int32) (l3 : Int32) (s0 : Int32) (S : rS) : Option (Int32 × rS) :=
    if (l3) = 0 then
      fX7_apply_b81 l1 l2 l3 s0 S
    else
      Option.bind (rd S 27 (l1)) fun x53 =>
      if (x53) = 0 then
        fX7_apply_b81 l1 l2 l3 s0 S
      else
        Option.bind (rd S 28 (s0)) fun x63 =>
        if (x63) = ((-1)) then
          fX7_apply_b81 l1 l2 l3 s0 S
        else
          (fun S70 : rS =>
          Option.bind (rd S70 28 (s0)) fun x79 =>
          some (x79, S70)) (rpf S 54 (0))
noncomputable def fX7_apply_b27 (l1 : Int32) (l2 : Int32) (s0 : Int32) (S : rS) : Option (Int32 × rS) :=
    if (s0) = 0 then
      fX7_apply_b42 l1 l2 s0 0 S
    else
      fX7_apply_b42 l1 l2 s0 ((30 * l1) + l2) S
noncomputable def fX7_apply_b26 (l1 : Int32) (l2 : Int32) (S : rS) : Option (Int32 × rS) :=
    fX7_apply_b27 l1 l2 0 S
noncomputable def fX7_apply (a0 : Int32) (a1 : Int32) (S : rS) : Option (Int32 × rS) :=
    Option.bind (fX7_isIn a0 0 ((S.1 17) - 1) S) fun q8 =>
    if (q8.1) = 0 then
      fX7_apply_b26 a0 a1 (q8.2)
    else
      Option.bind (fX7_isStructure a1 (q8.2)) fun q16 =>
      if (q16.1) = 0 then
        fX7_apply_b26 a0 a1 (q16.2)
      else
        fX7_apply_b27 a0 a1 1 (q16.2)
noncomputable def fX7_pack_b54 (l1 : Int32) (l2 : Int32) (s0 : Int32) (S : rS) : Option (Int32 × rS) :=
    Option.bind (fX7_fails s0 S) fun q54 =>
    if (q54.1) = 0 then
      Option.bind (rwr (q54.2) 30 (q54.2.1 29) (l1)) fun S71 =>
      Option.bind (rwr S71 31 (S71.1 29) (l2)) fun S81 =>
      (fun S89 : rS =>
      some ((S89.1 29) - 1, S89)) (rpf S81 29 ((S81.1 29) + 1))
    else
      some (0, q54.2)
noncomputable def fX7_pack_b49 (l1 : Int32) (l2 : Int32) (S : rS) : Option (Int32 × rS) :=
    fX7_pack_b54 l1 l2 2 S
noncomputable def fX7_pack_b21 (l1 : Int32) (l2 : Int32) (s0 : Int32) (S : rS) : Option (Int32 × rS) :=
    if (s0) = 0 then
      fX7_pack_b54 l1 l2 1 S
    else
      if (S.1 29) = (10) then
        fX7_pack_b49 l1 l2 S
      else
        Option.bind (fX7_matchOf l1 l2 S) fun q43 =>
        if (q43.1) = 0 then
          fX7_pack_b54 l1 l2 0 (q43.2)
        else
          fX7_pack_b49 l1 l2 (q43.2)
noncomputable def fX7_pack_b20 (l1 : Int32) (l2 : Int32) (S : rS) : Option (Int32 × rS) :=
    fX7_pack_b21 l1 l2 0 S
noncomputable def fX7_pack (a0 : Int32) (a1 : Int32) (S : rS) : Option (Int32 × rS) :=
    Option.bind (fX7_isStructure a0 S) fun q2 =>
    if (q2.1) = 0 then
      fX7_pack_b20 a0 a1 (q2.2)
    else
      Option.bind (fX7_isSignature a1 (q2.2)) fun q10 =>
      if (q10.1) = 0 then
        fX7_pack_b20 a0 a1 (q10.2)
      else
        fX7_pack_b21 a0 a1 1 (q10.2)
noncomputable def fX7_unpack_b43 (s0 : Int32) (S : rS) : Option (Int32 × rS) :=
    some (s0, S)
noncomputable def fX7_unpack (a0 : Int32) (S : rS) : Option (Int32 × rS) :=
    Option.bind (fX7_isIn a0 0 ((S.1 29) - 1) S) fun q8 =>
    (fun v11 : Int32 =>
    if (v11) = 0 then
      Option.bind (fX7_seals 0 ((-1)) ((-1)) (q8.2)) fun q40 =>
      fX7_unpack_b43 (q40.1) (q40.2)
    else
      Option.bind (rd (q8.2) 30 (a0)) fun x23 =>
      Option.bind (rd (q8.2) 31 (a0)) fun x29 =>
      Option.bind (fX7_seals 0 x23 x29 (q8.2)) fun q30 =>
      fX7_unpack_b43 (q30.1) (q30.2)) (q8.1)
noncomputable def fX7_unit_b52 (l1 : Int32) (l2 : Int32) (l3 : Int32) (s0 : Int32) (S : rS) : Option (Int32 × rS) :=
    Option.bind (fX7_fails s0 S) fun q52 =>
    if (q52.1) = 0 then
      Option.bind (rwr (q52.2) 33 (q52.2.1 32) (l1)) fun S69 =>
      Option.bind (rwr S69 34 (S69.1 32) (l2)) fun S79 =>
      Option.bind (rwz S79 35 (S79.1 32) (l3)) fun S89 =>
      (fun S97 : rS =>
      some ((S97.1 32) - 1, S97)) (rpf S89 32 ((S89.1 32) + 1))
    else
      some (0, q52.2)
noncomputable def fX7_unit_b26 (l1 : Int32) (l2 : Int32) (l3 : Int32) (s0 : Int32) (S : rS) : Option (Int32 × rS) :=
    if (s0) = 0 then
      fX7_unit_b52 l1 l2 l3 1 S
    else
      if (S.1 32) = (8) then
        fX7_unit_b52 l1 l2 l3 2 S
      else
        fX7_unit_b52 l1 l2 l3 0 S
noncomputable def fX7_unit_b25 (l1 : Int32) (l2 : Int32) (l3 : Int32) (S : rS) : Option (Int32 × rS) :=
    fX7_unit_b26 l1 l2 l3 0 S
noncomputable def fX7_unit (a0 : Int32) (a1 : Int32) (a2 : Int32) (S : rS) : Option (Int32 × rS) :=
    Option.bind (fX7_isSignature a0 S) fun q2 =>
    if (q2.1) = 0 then
      fX7_unit_b25 a0 a1 a2 (q2.2)
    else
      if (a1) < 0 then
        fX7_unit_b25 a0 a1 a2 (q2.2)
      else
        if (a1 >>> ((q2.2.1 32) &&& 31)) = 0 then
          fX7_unit_b26 a0 a1 a2 1 (q2.2)
        else
          fX7_unit_b25 a0 a1 a2 (q2.2)
noncomputable def fX7_isUnit (a0 : Int32) (S : rS) : Option (Int32 × rS) :=
    Option.bind (fX7_isIn a0 0 ((S.1 32) - 1) S) fun q8 =>
    rbo (q8.1) (q8.2)
noncomputable def fX7_change_b55 (l1 : Int32) (s0 : Int32) (s1 : Int32) (S : rS) : Option (Int32 × rS) :=
    Option.bind (rwr S 33 (s1) (s0)) fun S55 =>
    Option.bind (rd S55 36 (l1)) fun x62 =>
    Option.bind (rwr S55 36 (l1) (x62 + 1)) fun S65 =>
    Option.bind (rd S65 36 (l1)) fun x71 =>
    some (x71, S65)
noncomputable def fX7_change_b27 (l1 : Int32) (l2 : Int32) (s0 : Int32) (S : rS) : Option (Int32 × rS) :=
    Option.bind (fX7_fails s0 S) fun q27 =>
    if (q27.1) = 0 then
      if (l2) = ((-1)) then
        Option.bind (rd (q27.2) 33 (l1)) fun x50 =>
        fX7_change_b55 l1 x50 l1 (q27.2)
      else
        fX7_change_b55 l1 l2 l1 (q27.2)
    else
      some (0, q27.2)
noncomputable def fX7_change_b26 (l1 : Int32) (l2 : Int32) (S : rS) : Option (Int32 × rS) :=
    fX7_change_b27 l1 l2 1 S
noncomputable def fX7_change_b22 (l1 : Int32) (l2 : Int32) (S : rS) : Option (Int32 × rS) :=
    fX7_change_b27 l1 l2 0 S
noncomputable def fX7_change (a0 : Int32) (a1 : Int32) (S : rS) : Option (Int32 × rS) :=
    Option.bind (fX7_isUnit a0 S) fun q3 =>
    if (q3.1) = 0 then
      fX7_change_b26 a0 a1 (q3.2)
    else
      if (a1) = ((-1)) then
        fX7_change_b22 a0 a1 (q3.2)
      else
        Option.bind (fX7_isSignature a1 (q3.2)) fun q16 =>
        if (q16.1) = 0 then
          fX7_change_b26 a0 a1 (q16.2)
        else
          fX7_change_b22 a0 a1 (q16.2)
noncomputable def fX7_isStale_b119 (rec32 : Int32 → Int32 → Int32 → rS → Option (Int32 × rS)) (l1 : Int32) (l2 : Int32) (l3 : Int32) (S : rS) : Option (Int32 × rS) :=
    rec32 l1 l2 (l3 + 1) S
noncomputable def fX7_isStale_b118 (rec32 : Int32 → Int32 → Int32 → rS → Option (Int32 × rS)) (l1 : Int32) (l3 : Int32) (s0 : Int32) (S : rS) : Option (Int32 × rS) :=
    fX7_isStale_b119 rec32 l1 s0 l3 S
noncomputable def fX7_isStale_b113 (rec32 : Int32 → Int32 → Int32 → rS → Option (Int32 × rS)) (l1 : Int32) (l3 : Int32) (S : rS) : Option (Int32 × rS) :=
    fX7_isStale_b118 rec32 l1 l3 1 S
noncomputable def fX7_isStale_b117 (rec32 : Int32 → Int32 → Int32 → rS → Option (Int32 × rS)) (l1 : Int32) (l3 : Int32) (S : rS) : Option (Int32 × rS) :=
    fX7_isStale_b118 rec32 l1 l3 0 S
noncomputable def fX7_isStale_b32_body (rec32 : Int32 → Int32 → Int32 → rS → Option (Int32 × rS)) (l1 : Int32) (l2 : Int32) (l3 : Int32) (S : rS) : Option (Int32 × rS) :=
    if (l1) ≤ (l3) then
      rbo (l2) S
    else
      (fun v43 : Int32 =>
      if (l2) = 0 then
        Option.bind (rd S 34 (l1)) fun x54 =>
        if ((x54 >>> (l3 &&& 31)) &&& 1) = (1) then
          Option.bind (rd S 33 (l3)) fun x74 =>
          Option.bind (rd S 39 (v43)) fun x82 =>
          Option.bind (rd S 53 ((20 * x74) + x82)) fun x84 =>
          if (x84) = 0 then
            fX7_isStale_b113 rec32 l1 l3 S
          else
            Option.bind (rd S 35 (l3)) fun x93 =>
            if (x93) = 0 then
              fX7_isStale_b117 rec32 l1 l3 S
            else
              Option.bind (rd S 36 (l3)) fun x102 =>
              Option.bind (rd S 40 (v43)) fun x109 =>
              if (x102) = (x109) then
                fX7_isStale_b117 rec32 l1 l3 S
              else
                fX7_isStale_b113 rec32 l1 l3 S
        else
          fX7_isStale_b119 rec32 l1 l2 l3 S
      else
        fX7_isStale_b119 rec32 l1 l2 l3 S) ((8 * l1) + l3)
noncomputable def fX7_isStale_b32 : Nat → Int32 → Int32 → Int32 → rS → Option (Int32 × rS)
  | 0, _, _, _, _ => none
  | n + 1, l1, l2, l3, S => fX7_isStale_b32_body (fX7_isStale_b32 n) l1 l2 l3 S
noncomputable def fX7_isStale_b29 (l1 : Int32) (s0 : Int32) (S : rS) : Option (Int32 × rS) :=
    fX7_isStale_b32 rFuel l1 s0 0 S
noncomputable def fX7_isStale_b24 (l1 : Int32) (S : rS) : Option (Int32 × rS) :=
    fX7_isStale_b29 l1 1 S
noncomputable def fX7_isStale (a0 : Int32) (S : rS) : Option (Int32 × rS) :=
    Option.bind (rd S 37 (a0)) fun x5 =>
    if (x5) = 0 then
      fX7_isStale_b24 a0 S
    else
      Option.bind (rd S 38 (a0)) fun x14 =>
      Option.bind (rd S 36 (a0)) fun x20 =>
      if (x14) = (x20) then
        fX7_isStale_b29 a0 0 S
      else
        fX7_isStale_b24 a0 S
noncomputable def fX7_stales_b32 (rec8 : Int32 → Int32 → rS → Option (Int32 × rS)) (l2 : Int32) (s0 : Int32) (s1 : Int32) (S : rS) : Option (Int32 × rS) :=
    (fun v33 : Int32 =>
    rec8 v33 (l2 + 1) S) (s1 ||| s0)
noncomputable def fX7_stales_b8_body (rec8 : Int32 → Int32 → rS → Option (Int32 × rS)) (l1 : Int32) (l2 : Int32) (S : rS) : Option (Int32 × rS) :=
    if (S.1 32) ≤ (l2) then
      some (l1, S)
    else
      Option.bind (fX7_isStale l2 S) fun q19 =>
      if (q19.1) = 0 then
        fX7_stales_b32 rec8 l2 0 l1 (q19.2)
      else
        fX7_stales_b32 rec8 l2 (1 <<< (l2 &&& 31)) l1 (q19.2)
noncomputable def fX7_stales_b8 : Nat → Int32 → Int32 → rS → Option (Int32 × rS)
  | 0, _, _, _ => none
  | n + 1, l1, l2, S => fX7_stales_b8_body (fX7_stales_b8 n) l1 l2 S
noncomputable def fX7_stales (S : rS) : Option (Int32 × rS) :=
    Option.bind (fX7_compares  S) fun q1 =>
    fX7_stales_b8 rFuel 0 0 q1
noncomputable def fX7_stale (S : rS) : Option (Int32 × rS) :=
    (fun S2 : rS =>
    Option.bind (fX7_stales  S2) fun q6 =>
    some (q6.1, q6.2)) (rpf S 54 (0))
noncomputable def fX7_build_b106 (rec14 : Int32 → Int32 → Int32 → rS → Option (Int32 × rS)) (l1 : Int32) (l2 : Int32) (l3 : Int32) (S : rS) : Option (Int32 × rS) :=
    rec14 l1 l2 (l3 + 1) S
noncomputable def fX7_build_b53_body (rec53 : Int32 → Int32 → Int32 → Int32 → rS → Option (Int32 × rS)) (rec14 : Int32 → Int32 → Int32 → rS → Option (Int32 × rS)) (l1 : Int32) (l2 : Int32) (l3 : Int32) (l4 : Int32) (S : rS) : Option (Int32 × rS) :=
    if (l3) ≤ (l4) then
      fX7_build_b106 rec14 l1 (l2 + 1) l3 S
    else
      Option.bind (rd S 33 (l4)) fun x76 =>
      Option.bind (rwr S 39 ((8 * l3) + l4) (x76)) fun S77 =>
      Option.bind (rd S77 36 (l4)) fun x95 =>
      Option.bind (rwr S77 40 ((8 * l3) + l4) (x95)) fun S96 =>
      rec53 l1 l2 l3 (l4 + 1) S96
noncomputable def fX7_build_b53 (rec14 : Int32 → Int32 → Int32 → rS → Option (Int32 × rS)) : Nat → Int32 → Int32 → Int32 → Int32 → rS → Option (Int32 × rS)
  | 0, _, _, _, _, _ => none
  | n + 1, l1, l2, l3, l4, S => fX7_build_b53_body (fX7_build_b53 rec14 n) rec14 l1 l2 l3 l4 S
noncomputable def fX7_build_b14_body (rec14 : Int32 → Int32 → Int32 → rS → Option (Int32 × rS)) (l1 : Int32) (l2 : Int32) (l3 : Int32) (S : rS) : Option (Int32 × rS) :=
    if (S.1 32) ≤ (l3) then
      some (l2, S)
    else
      if ((l1 >>> (l3 &&& 31)) &&& 1) = (1) then
        Option.bind (rwz S 37 (l3) (1)) fun S37 =>
        Option.bind (rd S37 36 (l3)) fun x48 =>
        Option.bind (rwr S37 38 (l3) (x48)) fun S49 =>
        fX7_build_b53 rec14 rFuel l1 l2 l3 0 S49
      else
        fX7_build_b106 rec14 l1 l2 l3 S
noncomputable def fX7_build_b14 : Nat → Int32 → Int32 → Int32 → rS → Option (Int32 × rS)
  | 0, _, _, _, _ => none
  | n + 1, l1, l2, l3, S => fX7_build_b14_body (fX7_build_b14 n) l1 l2 l3 S
noncomputable def fX7_build (S : rS) : Option (Int32 × rS) :=
    (fun S2 : rS =>
    Option.bind (fX7_stales  S2) fun q6 =>
    (fun v9 : Int32 =>
    fX7_build_b14 rFuel v9 0 0 (q6.2)) (q6.1)) (rpf S 54 (0))
