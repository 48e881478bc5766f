def f6_slotAt (N : Nat) (p1 : Int32) (s : cS) : Option (Option Nat × cS) :=
  if p1 < 0 then (some (none, s)) else (if 60 ≤ p1 then (some (none, s)) else (if inB p1 60 = true then (some ((some p1.toNatClampNeg), s)) else none))
def f6_addAct (N : Nat) (p1 : Int32) (p2 : Int32) (p3 : Int32) (s : cS) : Option (Option Nat × cS) :=
  (f6_slotAt N (s.1 29 0) s).bind fun (r5, s5) => match r5 with | none => (some (none, s5)) | some w12 => (if w12 < 60 then (some ((some w12), (cu (cu (cu (cu (cu s5 31 w12 p1) 32 w12 p2) 33 w12 p3) 29 0 ((((cu (cu (cu s5 31 w12 p1) 32 w12 p2) 33 w12 p3).1 29 0) + 1) - (((cu (cu (cu s5 31 w12 p1) 32 w12 p2) 33 w12 p3).1 29 0) + 1) / 60 * 60)) 30 0 (jmin 60 (((cu (cu (cu (cu s5 31 w12 p1) 32 w12 p2) 33 w12 p3) 29 0 ((((cu (cu (cu s5 31 w12 p1) 32 w12 p2) 33 w12 p3).1 29 0) + 1) - (((cu (cu (cu s5 31 w12 p1) 32 w12 p2) 33 w12 p3).1 29 0) + 1) / 60 * 60)).1 30 0) + 1))))) else none)
def f8_newAct (N : Nat) (p1 : Int32) (p2 : Int32) (p3 : Int32) (s : cS) : Option (Option Nat × cS) :=
  (f6_addAct N p1 p2 p3 (cu s 4 0 (-1))).bind fun (r12, s12) => some (r12, s12)
def f8_range_b18 (N : Nat) (p1 : Int32) (b0 : Int32) (s : cS) : Option (Int32 × cS) :=
  if ((cu s 3 0 b0).1 3 0) = 0 then ((f8_newAct N 0 (-1) (-1) (cu s 3 0 b0)).bind fun (r34, s34) => match r34 with | none => (some (1, (cu s34 0 0 p1))) | some w39 => (if w39 < 60 then (some (1, (cu (cu s34 34 w39 (s34.1 0 0)) 0 0 p1))) else none)) else (some (0, (cu s 3 0 b0)))
def f8_range (N : Nat) (p1 : Int32) (s : cS) : Option (Int32 × cS) :=
  if p1 < 1 then (f8_range_b18 N p1 1 s) else (if p1 ≤ 4095 then (f8_range_b18 N p1 0 s) else (f8_range_b18 N p1 1 s))
def f8_meterAt (N : Nat) (p1 : Int32) (s : cS) : Option (Option Nat × cS) :=
  if p1 < 0 then (some (none, s)) else (if (s.1 1 0) ≤ p1 then (some (none, s)) else (if 8 ≤ p1 then (some (none, s)) else (if inB p1 8 = true then (some ((some p1.toNatClampNeg), s)) else none)))
def f3_begin (N : Nat) (o : Nat) (p1 : Int32) (s : cS) : Option (cS) :=
  some (cu (cu s 5 o p1) 6 o 0)
def f8_meter_b28 (N : Nat) (p1 : Int32) (b0 : Int32) (s : cS) : Option (Int32 × cS) :=
  if ((cu s 3 0 b0).1 3 0) = 0 then ((f8_newAct N 1 ((cu s 3 0 b0).1 1 0) (-1) (cu s 3 0 b0)).bind fun (r47, s47) => (f8_meterAt N (((cu s47 1 0 ((s47.1 1 0) + 1)).1 1 0) - 1) (cu s47 1 0 ((s47.1 1 0) + 1))).bind fun (r68, s68) => match r68 with | none => (some (((s68.1 1 0) - 1), s68)) | some w73 => (if w73 < 8 then ((f3_begin N w73 p1 s68).bind fun s78 => some (((s78.1 1 0) - 1), s78)) else none)) else (some ((-1), (cu s 3 0 b0)))
def f8_meter (N : Nat) (p1 : Int32) (s : cS) : Option (Int32 × cS) :=
  if p1 < 0 then (f8_meter_b28 N p1 1 s) else (if p1 ≤ 4 then (if (s.1 1 0) < 8 then (f8_meter_b28 N p1 0 s) else (f8_meter_b28 N p1 3 s)) else (f8_meter_b28 N p1 1 s))
def f8_isWithin (N : Nat) (p0 : Int32) (p1 : Int32) (s : cS) : Option (Int32 × cS) :=
  if p0 < (-p1) then (some (0, s)) else (if p1 < p0 then (some (0, s)) else (some (1, s)))
def f3_isStaged (N : Nat) (o : Nat) (s : cS) : Option (Int32 × cS) :=
  if (s.1 5 o) = 3 then (some (1, s)) else (if (s.1 5 o) = 4 then (some (1, s)) else (some (0, s)))
def f8_whyNoPart_b35 (N : Nat) (p0 : Option Nat) (p1 : Int32) (p2 : Int32) (a0 : Nat) (s : cS) : Option (Int32 × cS) :=
  if a0 < 8 then (if (s.1 6 a0) < 16 then (some (0, s)) else (some (3, s))) else none
def f8_whyNoPart (N : Nat) (p0 : Option Nat) (p1 : Int32) (p2 : Int32) (s : cS) : Option (Int32 × cS) :=
  match p0 with | none => (some (2, s)) | some w1 => ((f8_isWithin N p1 8000 s).bind fun (r10, s10) => if r10 = 0 then (some (1, s10)) else (if w1 < 8 then ((f3_isStaged N w1 s10).bind fun (r17, s17) => if r17 = 0 then (f8_whyNoPart_b35 N p0 p1 p2 w1 s17) else ((f8_isWithin N p2 8000 s17).bind fun (r27, s27) => if r27 = 0 then (some (1, s27)) else (f8_whyNoPart_b35 N p0 p1 p2 w1 s27))) else none))
def f3_partAt (N : Nat) (o : Nat) (p1 : Int32) (s : cS) : Option (Option Nat × cS) :=
  if p1 < 0 then (some (none, s)) else (if (s.1 6 o) ≤ p1 then (some (none, s)) else (if 16 ≤ p1 then (some (none, s)) else (if inB p1 16 = true then (some ((some (16 * o + p1.toNatClampNeg)), s)) else none)))
def f3_keepWorths_l2b (N : Nat) (o : Nat) (p1 : Nat) (k2 : Int32 → cS → Option (cS)) (a2 : Int32) (s : cS) : Option (cS) :=
  if (s.1 6 o) ≤ a2 then (some s) else (if p1 < 60 then (if 16 ≤ a2 then (some s) else ((f3_partAt N o a2 s).bind fun (r18, s18) => match r18 with | none => (if inB a2 16 = true then (k2 (a2 + 1) (cuw s18 p1 (a2.toNatClampNeg) 0)) else none) | some w25 => (if w25 < 128 then (if inB a2 16 = true then (k2 (a2 + 1) (cuw s18 p1 (a2.toNatClampNeg) (s18.1 12 w25))) else none) else none))) else none)
def f3_keepWorths_l2 (N : Nat) (o : Nat) (p1 : Nat) (n : Nat) : Int32 → cS → Option (cS) := iter (fun k => f3_keepWorths_l2b N o p1 k) (fun _ _  => none) n
def f3_keepWorths (N : Nat) (o : Nat) (p1 : Nat) (s : cS) : Option (cS) :=
  f3_keepWorths_l2 N o p1 N 0 s
def f3_doubleWorths_b28 (N : Nat) (o : Nat) (k9 : Int32 → Int32 → cS → Option (cS)) (a1 : Int32) (a2 : Int32) (s : cS) : Option (cS) :=
  k9 (jmin 8000 (a1 * 2)) (a2 + (-1)) s
def f3_doubleWorths_l9b (N : Nat) (o : Nat) (k9 : Int32 → Int32 → cS → Option (cS)) (a1 : Int32) (a2 : Int32) (s : cS) : Option (cS) :=
  if a2 < 0 then (some s) else ((f3_partAt N o a2 s).bind fun (r15, s15) => match r15 with | none => (f3_doubleWorths_b28 N o k9 a1 a2 s15) | some w20 => (if w20 < 128 then (f3_doubleWorths_b28 N o k9 a1 a2 (cu s15 12 w20 a1)) else none))
def f3_doubleWorths_l9 (N : Nat) (o : Nat) (n : Nat) : Int32 → Int32 → cS → Option (cS) := iter (fun k => f3_doubleWorths_l9b N o k) (fun _ _ _  => none) n
def f3_doubleWorths (N : Nat) (o : Nat) (s : cS) : Option (cS) :=
  f3_doubleWorths_l9 N o N 1 ((s.1 6 o) - 1) s
def f3_addPart_b79 (N : Nat) (o : Nat) (p1 : Int32) (p2 : Int32) (b0 : Int32) (b1 : Nat) (s : cS) : Option (cS) :=
  if b1 < 128 then ((f3_isStaged N o (cu s 13 b1 b0)).bind fun (r83, s83) => if r83 = 0 then (some s83) else ((f3_doubleWorths N o s83).bind fun s90 => some s90)) else none
def f3_addPart_b63 (N : Nat) (o : Nat) (p1 : Int32) (p2 : Int32) (a3 : Nat) (b0 : Int32) (b1 : Nat) (s : cS) : Option (cS) :=
  if b1 < 128 then ((f3_isStaged N o (cu s 12 b1 b0)).bind fun (r68, s68) => if r68 = 0 then (f3_addPart_b79 N o p1 p2 0 a3 s68) else (f3_addPart_b79 N o p1 p2 p2 a3 s68)) else none
def f3_addPart (N : Nat) (o : Nat) (p1 : Int32) (p2 : Int32) (s : cS) : Option (cS) :=
  if (s.1 6 o) < 16 then ((f3_partAt N o (((cu s 6 o ((s.1 6 o) + 1)).1 6 o) - 1) (cu s 6 o ((s.1 6 o) + 1))).bind fun (r30, s30) => match r30 with | none => (some s30) | some w35 => (if w35 < 128 then (if ((cu (cu s30 10 w35 p1) 11 w35 0).1 5 o) = 2 then (f3_addPart_b63 N o p1 p2 w35 p1 w35 (cu (cu s30 10 w35 p1) 11 w35 0)) else (f3_addPart_b63 N o p1 p2 w35 1 w35 (cu (cu s30 10 w35 p1) 11 w35 0))) else none)) else (some s)
def f8_part_b60 (N : Nat) (p1 : Int32) (p2 : Int32) (p3 : Int32) (a4 : Nat) (s : cS) : Option (Int32 × cS) :=
  if a4 < 8 then ((f3_addPart N a4 p2 p3 s).bind fun s64 => some ((s64.1 6 a4), s64)) else none
def f8_part (N : Nat) (p1 : Int32) (p2 : Int32) (p3 : Int32) (s : cS) : Option (Int32 × cS) :=
  (f8_meterAt N p1 s).bind fun (r2, s2) => (f8_whyNoPart N r2 p2 p3 s2).bind fun (r12, s12) => match r2 with | none => (some ((-1), (cu s12 3 0 r12))) | some w20 => (if ((cu s12 3 0 r12).1 3 0) = 0 then (if w20 < 8 then ((f8_newAct N 2 p1 ((cu s12 3 0 r12).1 6 w20) (cu s12 3 0 r12)).bind fun (r40, s40) => match r40 with | none => (f8_part_b60 N p1 p2 p3 w20 s40) | some w47 => (if w47 < 60 then ((f3_keepWorths N w20 w47 s40).bind fun s57 => f8_part_b60 N p1 p2 p3 w20 s57) else none)) else none) else (some ((-1), (cu s12 3 0 r12))))
def f8_partAt (N : Nat) (p1 : Int32) (p2 : Int32) (s : cS) : Option (Option Nat × cS) :=
  (f8_meterAt N p1 s).bind fun (r2, s2) => match r2 with | none => (some (none, s2)) | some w7 => (if w7 < 8 then ((f3_partAt N w7 p2 s2).bind fun (r16, s16) => some (r16, s16)) else none)
def f8_miss_b33 (N : Nat) (p1 : Int32) (p2 : Int32) (p3 : Int32) (a4 : Option Nat) (b0 : Int32) (s : cS) : Option (Int32 × cS) :=
  match a4 with | none => (some (0, (cu s 3 0 b0))) | some w38 => (if ((cu s 3 0 b0).1 3 0) = 0 then ((f8_newAct N 3 p1 p2 (cu s 3 0 b0)).bind fun (r54, s54) => match r54 with | none => (if w38 < 128 then (some (1, (cu s54 11 w38 p3))) else none) | some w61 => (if w38 < 128 then (if w61 < 60 then (some (1, (cu (cu s54 34 w61 (s54.1 11 w38)) 11 w38 p3))) else none) else none)) else (some (0, (cu s 3 0 b0))))
def f8_miss (N : Nat) (p1 : Int32) (p2 : Int32) (p3 : Int32) (s : cS) : Option (Int32 × cS) :=
  (f8_partAt N p1 p2 s).bind fun (r3, s3) => match r3 with | none => (f8_miss_b33 N p1 p2 p3 none 2 s3) | some w11 => ((f8_isWithin N p3 500 s3).bind fun (r22, s22) => if r22 = 0 then (f8_miss_b33 N p1 p2 p3 (some w11) 1 s22) else (f8_miss_b33 N p1 p2 p3 (some w11) 0 s22))
def f8_worth_b66 (N : Nat) (p1 : Int32) (p2 : Int32) (p3 : Int32) (a5 : Option Nat) (b0 : Int32) (s : cS) : Option (Int32 × cS) :=
  match a5 with | none => (some (0, (cu s 3 0 b0))) | some w71 => (if ((cu s 3 0 b0).1 3 0) = 0 then ((f8_newAct N 4 p1 p2 (cu s 3 0 b0)).bind fun (r87, s87) => match r87 with | none => (if w71 < 128 then (some (1, (cu s87 12 w71 p3))) else none) | some w94 => (if w71 < 128 then (if w94 < 60 then (some (1, (cu (cu s87 34 w94 (s87.1 12 w71)) 12 w71 p3))) else none) else none)) else (some (0, (cu s 3 0 b0))))
def f8_worth (N : Nat) (p1 : Int32) (p2 : Int32) (p3 : Int32) (s : cS) : Option (Int32 × cS) :=
  (f8_meterAt N p1 s).bind fun (r2, s2) => (f8_partAt N p1 p2 s2).bind fun (r10, s10) => match r2 with | none => (f8_worth_b66 N p1 p2 p3 r10 2 s10) | some w18 => (match r10 with | none => (f8_worth_b66 N p1 p2 p3 none 2 s10) | some w23 => (if w18 < 8 then (if (s10.1 5 w18) = 0 then (f8_worth_b66 N p1 p2 p3 (some w23) 4 s10) else (if (s10.1 5 w18) = 1 then (f8_worth_b66 N p1 p2 p3 (some w23) 4 s10) else ((f8_isWithin N p3 8000 s10).bind fun (r55, s55) => if r55 = 0 then (f8_worth_b66 N p1 p2 p3 (some w23) 1 s55) else (f8_worth_b66 N p1 p2 p3 (some w23) 0 s55)))) else none))
def f8_partOf (N : Nat) (p1 : Int32) (p2 : Int32) (p3 : Int32) (s : cS) : Option (Int32 × cS) :=
  (f8_partAt N p1 p2 s).bind fun (r3, s3) => match r3 with | none => (some ((-10000), s3)) | some w10 => (if p3 = 0 then (if w10 < 128 then (some ((s3.1 10 w10), s3)) else none) else if p3 = 1 then (if w10 < 128 then (some ((s3.1 11 w10), s3)) else none) else if p3 = 2 then (if w10 < 128 then (some ((s3.1 12 w10), s3)) else none) else if p3 = 3 then (if w10 < 128 then (some ((s3.1 13 w10), s3)) else none) else (some ((-10000), s3)))
def f8_kind (N : Nat) (p1 : Int32) (p2 : Int32) (s : cS) : Option (Int32 × cS) :=
  (f8_meterAt N p1 s).bind fun (r2, s2) => match r2 with | none => (some ((-1), s2)) | some w7 => (if p2 < 0 then (some ((-1), s2)) else (if p2 ≤ 1 then (if p2 = 0 then (if w7 < 8 then (some ((s2.1 5 w7), s2)) else none) else (if w7 < 8 then (some ((s2.1 6 w7), s2)) else none)) else (some ((-1), s2))))
def f8_isNumber (N : Nat) (p1 : Int32) (s : cS) : Option (Int32 × cS) :=
  if p1 < 0 then (some (0, s)) else (if (s.1 0 0) < p1 then (some (0, s)) else (some (1, s)))
def f5_asItIs (N : Nat) (o : Nat) (s : cS) : Option (Int32 × cS) :=
  some (((s.1 10 o) + (s.1 11 o)), s)
def f3_weigh_l2b (N : Nat) (o : Nat) (k2 : Int32 → cS → Option (cS)) (a1 : Int32) (s : cS) : Option (cS) :=
  if (s.1 6 o) ≤ a1 then (some s) else ((f3_partAt N o a1 s).bind fun (r12, s12) => match r12 with | none => (k2 (a1 + 1) s12) | some w17 => (if w17 < 128 then ((f5_asItIs N w17 s12).bind fun (r21, s21) => if (s21.1 9 o) < r21 then (k2 (a1 + 1) s21) else ((f5_asItIs N w17 s21).bind fun (r37, s37) => k2 (a1 + 1) (cu (cu (cu s37 9 o ((s21.1 9 o) - r37)) 7 o (((cu s37 9 o ((s21.1 9 o) - r37)).1 7 o) + ((cu s37 9 o ((s21.1 9 o) - r37)).1 12 w17))) 8 o (((cu (cu s37 9 o ((s21.1 9 o) - r37)) 7 o (((cu s37 9 o ((s21.1 9 o) - r37)).1 7 o) + ((cu s37 9 o ((s21.1 9 o) - r37)).1 12 w17))).1 8 o) ||| (1 <<< (a1 &&& 31)))))) else none))
def f3_weigh_l2 (N : Nat) (o : Nat) (n : Nat) : Int32 → cS → Option (cS) := iter (fun k => f3_weigh_l2b N o k) (fun _ _  => none) n
def f3_weigh (N : Nat) (o : Nat) (s : cS) : Option (cS) :=
  f3_weigh_l2 N o N 0 s
def f3_passStages_b136 (N : Nat) (o : Nat) (k4 : Int32 → Int32 → cS → Option (cS)) (a1 : Int32) (a2 : Int32) (s : cS) : Option (cS) :=
  k4 a1 (a2 + 1) (cu s 9 o (jmax (-1000000) (jmin 1000000 ((s.1 9 o) * 2))))
def f3_passStages_b123 (N : Nat) (o : Nat) (k4 : Int32 → Int32 → cS → Option (cS)) (a1 : Int32) (a2 : Int32) (a3 : Nat) (s : cS) : Option (cS) :=
  if a3 < 128 then (f3_passStages_b136 N o k4 a1 a2 (cu s 7 o ((s.1 7 o) + (s.1 12 a3)))) else none
def f3_passStages_b103 (N : Nat) (o : Nat) (k4 : Int32 → Int32 → cS → Option (cS)) (a1 : Int32) (a2 : Int32) (a3 : Nat) (a4 : Int32) (s : cS) : Option (cS) :=
  if (s.1 5 o) = 4 then (if a1 = 0 then (f3_passStages_b136 N o k4 a1 a2 s) else (f3_passStages_b123 N o k4 a1 a2 a3 s)) else (if a4 = 0 then (f3_passStages_b136 N o k4 a1 a2 s) else (f3_passStages_b123 N o k4 a1 a2 a3 s))
def f3_passStages_b57 (N : Nat) (o : Nat) (k4 : Int32 → Int32 → cS → Option (cS)) (a2 : Int32) (a3 : Nat) (a4 : Int32) (b0 : Int32) (s : cS) : Option (cS) :=
  if ((cu s 8 o ((s.1 8 o) ||| (1 <<< (a2 &&& 31)))).1 5 o) = 4 then (if a3 < 128 then ((f5_asItIs N a3 (cu s 8 o ((s.1 8 o) ||| (1 <<< (a2 &&& 31))))).bind fun (r80, s80) => f3_passStages_b103 N o k4 b0 a2 a3 a4 (cu s80 9 o (r80 - (s80.1 9 o)))) else none) else (if a3 < 128 then ((f5_asItIs N a3 (cu s 8 o ((s.1 8 o) ||| (1 <<< (a2 &&& 31))))).bind fun (r96, s96) => f3_passStages_b103 N o k4 b0 a2 a3 a4 (cu s96 9 o (((cu s 8 o ((s.1 8 o) ||| (1 <<< (a2 &&& 31)))).1 9 o) - r96))) else none)
def f3_passStages_b41 (N : Nat) (o : Nat) (k4 : Int32 → Int32 → cS → Option (cS)) (a1 : Int32) (a2 : Int32) (a3 : Nat) (b0 : Int32) (s : cS) : Option (cS) :=
  if b0 = 0 then (f3_passStages_b103 N o k4 a1 a2 a3 b0 s) else (if a1 = 0 then (f3_passStages_b57 N o k4 a2 a3 b0 1 s) else (f3_passStages_b57 N o k4 a2 a3 b0 0 s))
def f3_passStages_l4b (N : Nat) (o : Nat) (k4 : Int32 → Int32 → cS → Option (cS)) (a1 : Int32) (a2 : Int32) (s : cS) : Option (cS) :=
  if (s.1 6 o) ≤ a2 then (some s) else ((f3_partAt N o a2 s).bind fun (r14, s14) => match r14 with | none => (k4 a1 (a2 + 1) s14) | some w19 => (if w19 < 128 then (if (s14.1 9 o) < (s14.1 13 w19) then (f3_passStages_b41 N o k4 a1 a2 w19 0 s14) else (f3_passStages_b41 N o k4 a1 a2 w19 1 s14)) else none))
def f3_passStages_l4 (N : Nat) (o : Nat) (n : Nat) : Int32 → Int32 → cS → Option (cS) := iter (fun k => f3_passStages_l4b N o k) (fun _ _ _  => none) n
def f3_passStages (N : Nat) (o : Nat) (s : cS) : Option (cS) :=
  f3_passStages_l4 N o N 0 0 s
def f3_passEdges_b80 (N : Nat) (o : Nat) (p1 : Int32) (k4 : Int32 → Int32 → cS → Option (cS)) (a2 : Int32) (a3 : Int32) (b0 : Int32) (s : cS) : Option (cS) :=
  k4 a2 (a3 + 1) (cu (cu (cu s 9 o b0) 7 o (((cu s 9 o b0).1 7 o) + 1)) 8 o (((cu (cu s 9 o b0) 7 o (((cu s 9 o b0).1 7 o) + 1)).1 8 o) ||| (1 <<< (a3 &&& 31))))
def f3_passEdges_b50 (N : Nat) (o : Nat) (p1 : Int32) (k4 : Int32 → Int32 → cS → Option (cS)) (a3 : Int32) (b0 : Int32) (s : cS) : Option (cS) :=
  if p1 < b0 then (k4 b0 (a3 + 1) s) else (if (s.1 7 o) = 0 then (f3_passEdges_b80 N o p1 k4 b0 a3 (p1 - b0) s) else (f3_passEdges_b80 N o p1 k4 b0 a3 (jmin (s.1 9 o) (p1 - b0)) s))
def f3_passEdges_l4b (N : Nat) (o : Nat) (p1 : Int32) (k4 : Int32 → Int32 → cS → Option (cS)) (a2 : Int32) (a3 : Int32) (s : cS) : Option (cS) :=
  if (s.1 6 o) ≤ a3 then (some s) else ((f3_partAt N o a3 s).bind fun (r14, s14) => match r14 with | none => (k4 a2 (a3 + 1) s14) | some w21 => (if (s14.1 5 o) = 1 then (if w21 < 128 then ((f5_asItIs N w21 s14).bind fun (r38, s38) => f3_passEdges_b50 N o p1 k4 a3 (a2 + r38) s38) else none) else (if w21 < 128 then ((f5_asItIs N w21 s14).bind fun (r47, s47) => f3_passEdges_b50 N o p1 k4 a3 r47 s47) else none)))
def f3_passEdges_l4 (N : Nat) (o : Nat) (p1 : Int32) (n : Nat) : Int32 → Int32 → cS → Option (cS) := iter (fun k => f3_passEdges_l4b N o p1 k) (fun _ _ _  => none) n
def f3_passEdges (N : Nat) (o : Nat) (p1 : Int32) (s : cS) : Option (cS) :=
  f3_passEdges_l4 N o p1 N 0 0 s
def f3_codeOf (N : Nat) (o : Nat) (p1 : Int32) (s : cS) : Option (Int32 × cS) :=
  if ((cu (cu (cu s 7 o 0) 8 o 0) 9 o p1).1 5 o) = 2 then ((f3_weigh N o (cu (cu (cu s 7 o 0) 8 o 0) 9 o p1)).bind fun s24 => some ((s24.1 7 o), s24)) else ((f3_isStaged N o (cu (cu (cu s 7 o 0) 8 o 0) 9 o p1)).bind fun (r31, s31) => if r31 = 0 then ((f3_passEdges N o p1 s31).bind fun s46 => some ((s46.1 7 o), s46)) else ((f3_passStages N o s31).bind fun s38 => some ((s38.1 7 o), s38)))
def f8_read (N : Nat) (p1 : Int32) (p2 : Int32) (s : cS) : Option (Int32 × cS) :=
  (f8_meterAt N p1 s).bind fun (r2, s2) => match r2 with | none => (some ((-2147483648), s2)) | some w7 => ((f8_isNumber N p2 s2).bind fun (r12, s12) => if r12 = 0 then (some ((-2147483648), s12)) else (if w7 < 8 then ((f3_codeOf N w7 p2 s12).bind fun (r25, s25) => some (r25, s25)) else none))
def f8_trail (N : Nat) (p1 : Int32) (p2 : Int32) (s : cS) : Option (Int32 × cS) :=
  (f8_meterAt N p1 s).bind fun (r2, s2) => match r2 with | none => (some ((-1), s2)) | some w7 => ((f8_isNumber N p2 s2).bind fun (r12, s12) => if r12 = 0 then (some ((-1), s12)) else (if w7 < 8 then ((f3_codeOf N w7 p2 s12).bind fun (r22, s22) => some ((s22.1 8 w7), s22)) else none))
def f8_rest (N : Nat) (p1 : Int32) (p2 : Int32) (s : cS) : Option (Int32 × cS) :=
  (f8_meterAt N p1 s).bind fun (r2, s2) => match r2 with | none => (some ((-2147483648), s2)) | some w7 => ((f8_isNumber N p2 s2).bind fun (r12, s12) => if r12 = 0 then (some ((-2147483648), s12)) else (if w7 < 8 then ((f3_codeOf N w7 p2 s12).bind fun (r23, s23) => some ((s23.1 9 w7), s23)) else none))
def f7_fillFrom_l17b (N : Nat) (p1 : Nat) (p2 : Int32) (k17 : Int32 → cS → Option (cS)) (a3 : Int32) (s : cS) : Option (cS) :=
  if (s.1 14 0) < a3 then (some s) else (if 4096 ≤ a3 then (some s) else (if p1 < 8 then ((f3_codeOf N p1 a3 s).bind fun (r41, s41) => if inB a3 4096 = true then (k17 (a3 + 1) (cu s41 15 (a3.toNatClampNeg) r41)) else none) else none))
def f7_fillFrom_l17 (N : Nat) (p1 : Nat) (p2 : Int32) (n : Nat) : Int32 → cS → Option (cS) := iter (fun k => f7_fillFrom_l17b N p1 p2 k) (fun _ _  => none) n
def f7_fillFrom (N : Nat) (p1 : Nat) (p2 : Int32) (s : cS) : Option (cS) :=
  f7_fillFrom_l17 N p1 p2 N 0 (cu s 14 0 (jmin p2 (4096 - 1)))
def f8_fillTable (N : Nat) (p1 : Int32) (s : cS) : Option (Int32 × cS) :=
  (f8_meterAt N p1 s).bind fun (r2, s2) => match r2 with | none => (some (0, s2)) | some w7 => (if (s2.1 4 0) = p1 then (some (1, s2)) else ((f7_fillFrom N w7 (s2.1 0 0) s2).bind fun s29 => some (1, (cu s29 4 0 p1))))
def f8_isTabled (N : Nat) (p1 : Int32) (s : cS) : Option (Int32 × cS) :=
  (f8_fillTable N p1 s).bind fun (r2, s2) => if r2 = 0 then (if r2 = 0 ∨ r2 = 1 then some (r2, (cu s2 3 0 2)) else none) else (if r2 = 0 ∨ r2 = 1 then some (r2, (cu s2 3 0 0)) else none)
def f7_codeAt (N : Nat) (p1 : Int32) (s : cS) : Option (Int32 × cS) :=
  if p1 < 0 then (some (0, s)) else (if 4096 ≤ p1 then (some (0, s)) else (if inB p1 4096 = true then (some ((s.1 15 p1.toNatClampNeg), s)) else none))
def f7_endsSpan (N : Nat) (p1 : Int32) (s : cS) : Option (Int32 × cS) :=
  if (s.1 14 0) ≤ p1 then (some (1, s)) else ((f7_codeAt N (p1 + 1) s).bind fun (r12, s12) => (f7_codeAt N p1 s12).bind fun (r17, s17) => if r12 = r17 then (some (0, s17)) else (some (1, s17)))
def f7_spanCount_l4b (N : Nat)  (k4 : Int32 → Int32 → cS → Option (Int32 × cS)) (a1 : Int32) (a2 : Int32) (s : cS) : Option (Int32 × cS) :=
  if (s.1 14 0) < a2 then (some (a1, s)) else ((f7_endsSpan N a2 s).bind fun (r14, s14) => if r14 = 0 then (k4 a1 (a2 + 1) s14) else (k4 (a1 + 1) (a2 + 1) s14))
def f7_spanCount_l4 (N : Nat)  (n : Nat) : Int32 → Int32 → cS → Option (Int32 × cS) := iter (fun k => f7_spanCount_l4b N k) (fun _ _ _  => none) n
def f7_spanCount (N : Nat)  (s : cS) : Option (Int32 × cS) :=
  f7_spanCount_l4 N N 0 0 s
def f8_spans (N : Nat) (p1 : Int32) (s : cS) : Option (Int32 × cS) :=
  (f8_isTabled N p1 s).bind fun (r2, s2) => if r2 = 0 then (some ((-1), s2)) else ((f7_spanCount N s2).bind fun (r12, s12) => some (r12, s12))
def f7_spanStart_l4b (N : Nat) (p1 : Int32) (k4 : Int32 → Int32 → cS → Option (Int32 × cS)) (a2 : Int32) (a3 : Int32) (s : cS) : Option (Int32 × cS) :=
  if (s.1 14 0) < a3 then (some ((-1), s)) else (if a2 = p1 then (some (a3, s)) else ((f7_endsSpan N a3 s).bind fun (r21, s21) => if r21 = 0 then (k4 a2 (a3 + 1) s21) else (k4 (a2 + 1) (a3 + 1) s21)))
def f7_spanStart_l4 (N : Nat) (p1 : Int32) (n : Nat) : Int32 → Int32 → cS → Option (Int32 × cS) := iter (fun k => f7_spanStart_l4b N p1 k) (fun _ _ _  => none) n
def f7_spanStart (N : Nat) (p1 : Int32) (s : cS) : Option (Int32 × cS) :=
  f7_spanStart_l4 N p1 N 0 0 s
def f7_spanEnd_l2b (N : Nat) (p1 : Int32) (k2 : Int32 → cS → Option (Int32 × cS)) (a2 : Int32) (s : cS) : Option (Int32 × cS) :=
  if (s.1 14 0) < a2 then (some ((s.1 14 0), s)) else ((f7_endsSpan N a2 s).bind fun (r12, s12) => if r12 = 0 then (k2 (a2 + 1) s12) else (some (a2, s12)))
def f7_spanEnd_l2 (N : Nat) (p1 : Int32) (n : Nat) : Int32 → cS → Option (Int32 × cS) := iter (fun k => f7_spanEnd_l2b N p1 k) (fun _ _  => none) n
def f7_spanEnd (N : Nat) (p1 : Int32) (s : cS) : Option (Int32 × cS) :=
  f7_spanEnd_l2 N p1 N p1 s
def f8_span (N : Nat) (p1 : Int32) (p2 : Int32) (p3 : Int32) (s : cS) : Option (Int32 × cS) :=
  if p3 < 0 then (some ((-2147483648), s)) else (if 2 < p3 then (some ((-2147483648), s)) else ((f8_fillTable N p1 s).bind fun (r11, s11) => if r11 = 0 then (some ((-2147483648), s11)) else ((f7_spanStart N p2 s11).bind fun (r25, s25) => if r25 = (-1) then (some ((-2147483648), s25)) else (if p3 = 0 then (some (r25, s25)) else (if p3 = 1 then ((f7_spanEnd N r25 s25).bind fun (r59, s59) => some (r59, s59)) else ((f7_codeAt N r25 s25).bind fun (r71, s71) => some (r71, s71)))))))
def f7_isFirstMet_b52 (N : Nat) (p1 : Int32) (a3 : Int32) (a4 : Int64) (b0 : Int32) (s : cS) : Option (Int32 × cS) :=
  if inB a3 4251 = true then (if b0 = 0 ∨ b0 = 1 then some (b0, (cul s (a3.toNatClampNeg) ((s.2.1 a3.toNatClampNeg) ||| a4))) else none) else none
def f7_isFirstMet (N : Nat) (p1 : Int32) (s : cS) : Option (Int32 × cS) :=
  if ((p1 + 136000) >>> (6 &&& 31)) < 0 then (some (0, s)) else (if ((p1 + 136000) >>> (6 &&& 31)) < 4251 then (if inB ((p1 + 136000) >>> (6 &&& 31)) 4251 = true then (if (lg_cmp ((s.2.1 (((p1 + 136000) >>> (6 &&& 31)).toNatClampNeg)) &&& (1 <<< (((p1 + 136000) &&& 63).toInt64 &&& 63))) 0) = 0 then (f7_isFirstMet_b52 N p1 ((p1 + 136000) >>> (6 &&& 31)) (1 <<< (((p1 + 136000) &&& 63).toInt64 &&& 63)) 1 s) else (f7_isFirstMet_b52 N p1 ((p1 + 136000) >>> (6 &&& 31)) (1 <<< (((p1 + 136000) &&& 63).toInt64 &&& 63)) 0 s)) else none) else (some (0, s)))
def f7_unlikeFrom_l12b (N : Nat) (p1 : Int32) (k12 : Int32 → Int32 → cS → Option (Int32 × cS)) (a2 : Int32) (a3 : Int32) (s : cS) : Option (Int32 × cS) :=
  if (s.1 14 0) < a3 then (some (a2, s)) else ((f7_codeAt N a3 s).bind fun (r22, s22) => if r22 < p1 then (k12 a2 (a3 + 1) s22) else ((f7_codeAt N a3 s22).bind fun (r32, s32) => (f7_isFirstMet N r32 s32).bind fun (r35, s35) => if r35 = 0 then (k12 a2 (a3 + 1) s35) else (k12 (a2 + 1) (a3 + 1) s35)))
def f7_unlikeFrom_l12 (N : Nat) (p1 : Int32) (n : Nat) : Int32 → Int32 → cS → Option (Int32 × cS) := iter (fun k => f7_unlikeFrom_l12b N p1 k) (fun _ _ _  => none) n
def f7_unlikeFrom (N : Nat) (p1 : Int32) (s : cS) : Option (Int32 × cS) :=
  f7_unlikeFrom_l12 N p1 N 0 0 (cfl s 0)
def f8_codes (N : Nat) (p1 : Int32) (s : cS) : Option (Int32 × cS) :=
  (f8_isTabled N p1 s).bind fun (r2, s2) => if r2 = 0 then (some ((-1), s2)) else ((f7_unlikeFrom N (-136000) s2).bind fun (r14, s14) => some (r14, s14))
def f7_greatestCode_l8b (N : Nat)  (k8 : Int32 → Int32 → cS → Option (Int32 × cS)) (a1 : Int32) (a2 : Int32) (s : cS) : Option (Int32 × cS) :=
  if (s.1 14 0) < a2 then (some (a1, s)) else ((f7_codeAt N a2 s).bind fun (r19, s19) => k8 (jmax a1 r19) (a2 + 1) s19)
def f7_greatestCode_l8 (N : Nat)  (n : Nat) : Int32 → Int32 → cS → Option (Int32 × cS) := iter (fun k => f7_greatestCode_l8b N k) (fun _ _ _  => none) n
def f7_greatestCode (N : Nat)  (s : cS) : Option (Int32 × cS) :=
  (f7_codeAt N 0 s).bind fun (r2, s2) => f7_greatestCode_l8 N N r2 1 s2
def f8_lacks (N : Nat) (p1 : Int32) (s : cS) : Option (Int32 × cS) :=
  (f8_isTabled N p1 s).bind fun (r2, s2) => if r2 = 0 then (some ((-1), s2)) else ((f7_greatestCode N s2).bind fun (r15, s15) => (f7_unlikeFrom N 0 s15).bind fun (r28, s28) => some (((jmax 0 (r15 + 1)) - r28), s28))
def f7_firstBack_l2b (N : Nat)  (k2 : Int32 → cS → Option (Int32 × cS)) (a1 : Int32) (s : cS) : Option (Int32 × cS) :=
  if (s.1 14 0) < a1 then (some ((-2), s)) else ((f7_codeAt N a1 s).bind fun (r12, s12) => (f7_codeAt N (a1 - 1) s12).bind fun (r19, s19) => if r19 ≤ r12 then (k2 (a1 + 1) s19) else (some (a1, s19)))
def f7_firstBack_l2 (N : Nat)  (n : Nat) : Int32 → cS → Option (Int32 × cS) := iter (fun k => f7_firstBack_l2b N k) (fun _ _  => none) n
def f7_firstBack (N : Nat)  (s : cS) : Option (Int32 × cS) :=
  f7_firstBack_l2 N N 1 s
def f8_back (N : Nat) (p1 : Int32) (s : cS) : Option (Int32 × cS) :=
  (f8_isTabled N p1 s).bind fun (r2, s2) => if r2 = 0 then (some ((-1), s2)) else ((f7_firstBack N s2).bind fun (r12, s12) => some (r12, s12))
def f7_widestSpan_l12b (N : Nat)  (k12 : Int32 → Int32 → Int32 → Int32 → Int32 → cS → Option (Int32 × cS)) (a1 : Int32) (a2 : Int32) (a3 : Int32) (a4 : Int32) (a5 : Int32) (s : cS) : Option (Int32 × cS) :=
  if (s.1 14 0) < a5 then (some (((10000 * a1) + a2), s)) else ((f7_endsSpan N a5 s).bind fun (r27, s27) => if r27 = 0 then (k12 a1 a2 a3 (a4 + 1) (a5 + 1) s27) else (if (a4 + 1) ≤ a1 then (k12 a1 a2 (a3 + 1) 0 (a5 + 1) s27) else (k12 (a4 + 1) a3 (a3 + 1) 0 (a5 + 1) s27)))
def f7_widestSpan_l12 (N : Nat)  (n : Nat) : Int32 → Int32 → Int32 → Int32 → Int32 → cS → Option (Int32 × cS) := iter (fun k => f7_widestSpan_l12b N k) (fun _ _ _ _ _ _  => none) n
def f7_widestSpan (N : Nat)  (s : cS) : Option (Int32 × cS) :=
  f7_widestSpan_l12 N N 0 0 0 0 0 s
def f8_widest (N : Nat) (p1 : Int32) (s : cS) : Option (Int32 × cS) :=
  (f8_isTabled N p1 s).bind fun (r2, s2) => if r2 = 0 then (some ((-1), s2)) else ((f7_widestSpan N s2).bind fun (r12, s12) => some (r12, s12))
def f7_edgeOf_l2b (N : Nat) (p1 : Int32) (k2 : Int32 → cS → Option (Int32 × cS)) (a2 : Int32) (s : cS) : Option (Int32 × cS) :=
  if (s.1 14 0) < a2 then (some (((s.1 14 0) + 1), s)) else ((f7_codeAt N a2 s).bind fun (r12, s12) => if r12 < p1 then (k2 (a2 + 1) s12) else (some (a2, s12)))
def f7_edgeOf_l2 (N : Nat) (p1 : Int32) (n : Nat) : Int32 → cS → Option (Int32 × cS) := iter (fun k => f7_edgeOf_l2b N p1 k) (fun _ _  => none) n
def f7_edgeOf (N : Nat) (p1 : Int32) (s : cS) : Option (Int32 × cS) :=
  f7_edgeOf_l2 N p1 N 0 s
def f8_edge (N : Nat) (p1 : Int32) (p2 : Int32) (s : cS) : Option (Int32 × cS) :=
  (f8_isTabled N p1 s).bind fun (r2, s2) => if r2 = 0 then (some ((-1), s2)) else ((f7_edgeOf N p2 s2).bind fun (r13, s13) => some (r13, s13))
def f7_worstOfLine_l36b (N : Nat) (p1 : Int32) (p2 : Int32) (k27 : Int32 → Int32 → Int32 → Int32 → Int32 → Int32 → cS → Option (Int32 × cS)) (k36 : Int32 → Int32 → Int32 → Int32 → Int32 → Int32 → cS → Option (Int32 × cS)) (a3 : Int32) (a4 : Int32) (a5 : Int32) (a6 : Int32) (a7 : Int32) (a8 : Int32) (s : cS) : Option (Int32 × cS) :=
  (f7_codeAt N a8 s).bind fun (r41, s41) => if r41 < a7 then (k27 a3 a4 a5 a6 a7 (a8 + 1) s41) else (if (jabs (((p1 - 1) * (a8 - a3)) - ((a7 - 1) * a4))) ≤ a5 then (k36 a3 a4 a5 a6 (a7 + 1) a8 s41) else (k36 a3 a4 (jabs (((p1 - 1) * (a8 - a3)) - ((a7 - 1) * a4))) a7 (a7 + 1) a8 s41))
def f7_worstOfLine_l36 (N : Nat) (p1 : Int32) (p2 : Int32) (k27 : Int32 → Int32 → Int32 → Int32 → Int32 → Int32 → cS → Option (Int32 × cS)) (n : Nat) : Int32 → Int32 → Int32 → Int32 → Int32 → Int32 → cS → Option (Int32 × cS) := iter (fun k => f7_worstOfLine_l36b N p1 p2 k27 k) (fun _ _ _ _ _ _ _  => none) n
def f7_worstOfLine_l27b (N : Nat) (p1 : Int32) (p2 : Int32) (k27 : Int32 → Int32 → Int32 → Int32 → Int32 → Int32 → cS → Option (Int32 × cS)) (a3 : Int32) (a4 : Int32) (a5 : Int32) (a6 : Int32) (a7 : Int32) (a8 : Int32) (s : cS) : Option (Int32 × cS) :=
  if (s.1 14 0) < a8 then (if p2 = 0 then (some (a5, s)) else (some (a6, s))) else (f7_worstOfLine_l36 N p1 p2 k27 N a3 a4 a5 a6 a7 a8 s)
def f7_worstOfLine_l27 (N : Nat) (p1 : Int32) (p2 : Int32) (n : Nat) : Int32 → Int32 → Int32 → Int32 → Int32 → Int32 → cS → Option (Int32 × cS) := iter (fun k => f7_worstOfLine_l27b N p1 p2 k) (fun _ _ _ _ _ _ _  => none) n
def f7_worstOfLine (N : Nat) (p1 : Int32) (p2 : Int32) (s : cS) : Option (Int32 × cS) :=
  (f7_edgeOf N 1 s).bind fun (r2, s2) => (f7_edgeOf N p1 s2).bind fun (r8, s8) => f7_worstOfLine_l27 N p1 p2 N r2 (r8 - r2) 0 1 1 r2 s8
def f8_line_b79 (N : Nat) (p1 : Int32) (p2 : Int32) (b0 : Int32) (b1 : Int32) (s : cS) : Option (Int32 × cS) :=
  (f7_worstOfLine N b1 b0 s).bind fun (r79, s79) => some (r79, s79)
def f8_line_b54 (N : Nat) (p1 : Int32) (p2 : Int32) (a3 : Int32) (b0 : Int32) (s : cS) : Option (Int32 × cS) :=
  if ((cu s 3 0 b0).1 3 0) = 0 then (if p2 = 1 then (f8_line_b79 N p1 p2 1 a3 (cu s 3 0 b0)) else (f8_line_b79 N p1 p2 0 a3 (cu s 3 0 b0))) else (some ((-1), (cu s 3 0 b0)))
def f8_line (N : Nat) (p1 : Int32) (p2 : Int32) (s : cS) : Option (Int32 × cS) :=
  (f8_isTabled N p1 s).bind fun (r2, s2) => if r2 = 0 then (some ((-1), s2)) else ((f7_greatestCode N s2).bind fun (r14, s14) => if p2 < 0 then (f8_line_b54 N p1 p2 r14 1 s14) else (if p2 ≤ 1 then (if r14 < 2 then (f8_line_b54 N p1 p2 r14 5 s14) else ((f7_firstBack N s14).bind fun (r41, s41) => if r41 = (-2) then (f8_line_b54 N p1 p2 r14 0 s41) else (f8_line_b54 N p1 p2 r14 5 s41))) else (f8_line_b54 N p1 p2 r14 1 s14)))
def f8_whyNoBalance (N : Nat) (p0 : Option Nat) (s : cS) : Option (Int32 × cS) :=
  match p0 with | none => (some (2, s)) | some w1 => (if w1 < 8 then (if (s.1 5 w1) = 2 then (some (0, s)) else (some (4, s))) else none)
def f3_together_l4b (N : Nat) (o : Nat) (k4 : Int32 → Int32 → cS → Option (Int32 × cS)) (a1 : Int32) (a2 : Int32) (s : cS) : Option (Int32 × cS) :=
  if (s.1 6 o) ≤ a2 then (some (a1, s)) else ((f3_partAt N o a2 s).bind fun (r14, s14) => match r14 with | none => (k4 (a1 + 0) (a2 + 1) s14) | some w20 => (if w20 < 128 then ((f5_asItIs N w20 s14).bind fun (r28, s28) => k4 (a1 + r28) (a2 + 1) s28) else none))
def f3_together_l4 (N : Nat) (o : Nat) (n : Nat) : Int32 → Int32 → cS → Option (Int32 × cS) := iter (fun k => f3_together_l4b N o k) (fun _ _ _  => none) n
def f3_together (N : Nat) (o : Nat) (s : cS) : Option (Int32 × cS) :=
  f3_together_l4 N o N 0 0 s
def f3_firstUncovered_b33 (N : Nat) (o : Nat) (k7 : Int32 → Int32 → cS → Option (Int32 × cS)) (a1 : Int32) (a2 : Int32) (b0 : Int32) (s : cS) : Option (Int32 × cS) :=
  if b0 < 0 then (some (a2, s)) else (if b0 ≤ ((a1 - b0) + 1) then (k7 (a1 - b0) (a2 + 1) s) else (some (a2, s)))
def f3_firstUncovered_l7b (N : Nat) (o : Nat) (k7 : Int32 → Int32 → cS → Option (Int32 × cS)) (a1 : Int32) (a2 : Int32) (s : cS) : Option (Int32 × cS) :=
  if (s.1 6 o) ≤ a2 then (some ((-2), s)) else ((f3_partAt N o a2 s).bind fun (r17, s17) => match r17 with | none => (f3_firstUncovered_b33 N o k7 a1 a2 0 s17) | some w22 => (if w22 < 128 then ((f5_asItIs N w22 s17).bind fun (r30, s30) => f3_firstUncovered_b33 N o k7 a1 a2 r30 s30) else none))
def f3_firstUncovered_l7 (N : Nat) (o : Nat) (n : Nat) : Int32 → Int32 → cS → Option (Int32 × cS) := iter (fun k => f3_firstUncovered_l7b N o k) (fun _ _ _  => none) n
def f3_firstUncovered (N : Nat) (o : Nat) (s : cS) : Option (Int32 × cS) :=
  (f3_together N o s).bind fun (r1, s1) => f3_firstUncovered_l7 N o N r1 0 s1
def f8_covered (N : Nat) (p1 : Int32) (s : cS) : Option (Int32 × cS) :=
  (f8_meterAt N p1 s).bind fun (r2, s2) => (f8_whyNoBalance N r2 s2).bind fun (r8, s8) => match r2 with | none => (some ((-1), (cu s8 3 0 r8))) | some w15 => (if ((cu s8 3 0 r8).1 3 0) = 0 then (if w15 < 8 then ((f3_firstUncovered N w15 (cu s8 3 0 r8)).bind fun (r30, s30) => some (r30, s30)) else none) else (some ((-1), (cu s8 3 0 r8))))
def f8_tail_l54b (N : Nat) (p1 : Int32) (k54 : Nat → Int32 → Int32 → Int32 → cS → Option (Int32 × cS)) (a2 : Nat) (a3 : Int32) (a4 : Int32) (a5 : Int32) (s : cS) : Option (Int32 × cS) :=
  if a3 < a5 then (some (a4, s)) else (if a2 < 8 then ((f3_codeOf N a2 a5 s).bind fun (r67, s67) => k54 a2 a3 (jmax a4 (a5 - r67)) (a5 + 1) s67) else none)
def f8_tail_l54 (N : Nat) (p1 : Int32) (n : Nat) : Nat → Int32 → Int32 → Int32 → cS → Option (Int32 × cS) := iter (fun k => f8_tail_l54b N p1 k) (fun _ _ _ _ _  => none) n
def f8_tail (N : Nat) (p1 : Int32) (s : cS) : Option (Int32 × cS) :=
  (f8_meterAt N p1 s).bind fun (r2, s2) => (f8_whyNoBalance N r2 s2).bind fun (r8, s8) => match r2 with | none => (some ((-1), (cu s8 3 0 r8))) | some w15 => (if ((cu s8 3 0 r8).1 3 0) = 0 then (if w15 < 8 then ((f3_together N w15 (cu s8 3 0 r8)).bind fun (r33, s33) => (f3_codeOf N w15 0 s33).bind fun (r45, s45) => f8_tail_l54 N p1 N w15 (jmax 0 (jmin ((cu s8 3 0 r8).1 0 0) r33)) (-r45) 1 s45) else none) else (some ((-1), (cu s8 3 0 r8))))
def f3_mendWorths_l2b (N : Nat) (o : Nat) (k2 : Int32 → cS → Option (cS)) (a1 : Int32) (s : cS) : Option (cS) :=
  if (s.1 6 o) ≤ a1 then (some s) else ((f3_partAt N o a1 s).bind fun (r12, s12) => match r12 with | none => (k2 (a1 + 1) s12) | some w17 => (if w17 < 128 then ((f5_asItIs N w17 s12).bind fun (r22, s22) => k2 (a1 + 1) (cu s22 12 w17 r22)) else none))
def f3_mendWorths_l2 (N : Nat) (o : Nat) (n : Nat) : Int32 → cS → Option (cS) := iter (fun k => f3_mendWorths_l2b N o k) (fun _ _  => none) n
def f3_mendWorths (N : Nat) (o : Nat) (s : cS) : Option (cS) :=
  f3_mendWorths_l2 N o N 0 s
def f8_mend_b47 (N : Nat) (p1 : Int32) (a2 : Nat) (s : cS) : Option (Int32 × cS) :=
  if a2 < 8 then ((f3_mendWorths N a2 s).bind fun s48 => some (1, s48)) else none
def f8_mend (N : Nat) (p1 : Int32) (s : cS) : Option (Int32 × cS) :=
  (f8_meterAt N p1 s).bind fun (r2, s2) => (f8_whyNoBalance N r2 s2).bind fun (r8, s8) => match r2 with | none => (some (0, (cu s8 3 0 r8))) | some w15 => (if ((cu s8 3 0 r8).1 3 0) = 0 then ((f8_newAct N 5 p1 (-1) (cu s8 3 0 r8)).bind fun (r31, s31) => match r31 with | none => (f8_mend_b47 N p1 w15 s31) | some w36 => (if w36 < 60 then (if w15 < 8 then ((f3_keepWorths N w15 w36 s31).bind fun s44 => f8_mend_b47 N p1 w15 s44) else none) else none)) else (some (0, (cu s8 3 0 r8))))
def f8_count_l82b (N : Nat) (p1 : Int32) (p2 : Int32) (p3 : Int32) (p4 : Int32) (p5 : Int32) (k82 : Nat → Int32 → Int64 → cS → Option (Int32 × cS)) (a6 : Nat) (a8 : Int32) (a9 : Int64) (s : cS) : Option (Int32 × cS) :=
  if 0 < (lg_cmp a9 p3.toInt64) then (some (a8, s)) else (if a6 < 8 then ((f3_codeOf N a6 a9.toInt32 s).bind fun (r95, s95) => if r95 = p5 then (k82 a6 (a8 + 1) (a9 + p4.toInt64) s95) else (k82 a6 a8 (a9 + p4.toInt64) s95)) else none)
def f8_count_l82 (N : Nat) (p1 : Int32) (p2 : Int32) (p3 : Int32) (p4 : Int32) (p5 : Int32) (n : Nat) : Nat → Int32 → Int64 → cS → Option (Int32 × cS) := iter (fun k => f8_count_l82b N p1 p2 p3 p4 p5 k) (fun _ _ _ _  => none) n
def f8_count_b58 (N : Nat) (p1 : Int32) (p2 : Int32) (p3 : Int32) (p4 : Int32) (p5 : Int32) (a6 : Option Nat) (b0 : Int32) (s : cS) : Option (Int32 × cS) :=
  match a6 with | none => (some ((-1), (cu s 3 0 b0))) | some w63 => (if ((cu s 3 0 b0).1 3 0) = 0 then (f8_count_l82 N p1 p2 p3 p4 p5 N w63 0 p2.toInt64 (cu s 3 0 b0)) else (some ((-1), (cu s 3 0 b0))))
def f8_count_b36 (N : Nat) (p1 : Int32) (p2 : Int32) (p3 : Int32) (p4 : Int32) (p5 : Int32) (a6 : Option Nat) (b0 : Int32) (s : cS) : Option (Int32 × cS) :=
  match a6 with | none => (f8_count_b58 N p1 p2 p3 p4 p5 none 2 s) | some w41 => (if b0 = 0 then (f8_count_b58 N p1 p2 p3 p4 p5 (some w41) 1 s) else (f8_count_b58 N p1 p2 p3 p4 p5 (some w41) 0 s))
def f8_count (N : Nat) (p1 : Int32) (p2 : Int32) (p3 : Int32) (p4 : Int32) (p5 : Int32) (s : cS) : Option (Int32 × cS) :=
  (f8_meterAt N p1 s).bind fun (r2, s2) => if p2 < 0 then (f8_count_b36 N p1 p2 p3 p4 p5 r2 0 s2) else (if p3 < p2 then (f8_count_b36 N p1 p2 p3 p4 p5 r2 0 s2) else (if (s2.1 0 0) < p3 then (f8_count_b36 N p1 p2 p3 p4 p5 r2 0 s2) else (if p4 < 1 then (f8_count_b36 N p1 p2 p3 p4 p5 r2 0 s2) else (f8_count_b36 N p1 p2 p3 p4 p5 r2 1 s2))))
def f4_addSum (N : Nat) (p1 : Int32) (p2 : Int32) (s : cS) : Option (cS) :=
  if (s.1 16 0) < 0 then (some s) else (if 8 ≤ (s.1 16 0) then (some s) else (if (s.1 16 0) < 8 then (if inB (s.1 16 0) 8 = true then (if inB ((cu s 17 ((s.1 16 0).toNatClampNeg) p1).1 16 0) 8 = true then (some (cu (cu (cu s 17 ((s.1 16 0).toNatClampNeg) p1) 18 (((cu s 17 ((s.1 16 0).toNatClampNeg) p1).1 16 0).toNatClampNeg) p2) 16 0 (((cu (cu s 17 ((s.1 16 0).toNatClampNeg) p1) 18 (((cu s 17 ((s.1 16 0).toNatClampNeg) p1).1 16 0).toNatClampNeg) p2).1 16 0) + 1))) else none) else none) else (some s)))
def f8_noise_b53 (N : Nat) (p1 : Int32) (p2 : Int32) (b0 : Int32) (s : cS) : Option (Int32 × cS) :=
  if ((cu s 3 0 b0).1 3 0) = 0 then ((f4_addSum N p1 p2 (cu s 3 0 b0)).bind fun s71 => some ((s71.1 16 0), s71)) else (some ((-1), (cu s 3 0 b0)))
def f8_noise_b26 (N : Nat) (p1 : Int32) (p2 : Int32) (b0 : Int32) (s : cS) : Option (Int32 × cS) :=
  if b0 = 0 then (f8_noise_b53 N p1 p2 1 s) else (if (s.1 16 0) < 8 then (f8_noise_b53 N p1 p2 0 s) else (f8_noise_b53 N p1 p2 3 s))
def f8_noise (N : Nat) (p1 : Int32) (p2 : Int32) (s : cS) : Option (Int32 × cS) :=
  (f8_isWithin N p1 100 s).bind fun (r3, s3) => if r3 = 0 then (f8_noise_b26 N p1 p2 0 s3) else (if p2 < 1 then (f8_noise_b26 N p1 p2 0 s3) else (if 1000 < p2 then (f8_noise_b26 N p1 p2 0 s3) else (f8_noise_b26 N p1 p2 1 s3)))
def f8_still (N : Nat)  (s : cS) : Option (Int32 × cS) :=
  some ((s.1 16 0), (cu s 16 0 0))
def f4_weighedCodes_l6b (N : Nat) (p1 : Nat) (p2 : Int32) (p3 : Int32) (k6 : Int32 → Int32 → cS → Option (Int32 × cS)) (a4 : Int32) (a5 : Int32) (s : cS) : Option (Int32 × cS) :=
  if (s.1 16 0) ≤ a5 then (some (a4, s)) else (if 8 ≤ a5 then (some (a4, s)) else (if 8 ≤ a5 then (some (a4, s)) else (if inB a5 8 = true then (if p1 < 8 then ((f3_codeOf N p1 (jmax 0 (jmin p3 (p2 + (s.1 17 a5.toNatClampNeg)))) s).bind fun (r66, s66) => k6 (a4 + ((s.1 18 a5.toNatClampNeg) * r66)) (a5 + 1) s66) else none) else none)))
def f4_weighedCodes_l6 (N : Nat) (p1 : Nat) (p2 : Int32) (p3 : Int32) (n : Nat) : Int32 → Int32 → cS → Option (Int32 × cS) := iter (fun k => f4_weighedCodes_l6b N p1 p2 p3 k) (fun _ _ _  => none) n
def f4_weighedCodes (N : Nat) (p1 : Nat) (p2 : Int32) (p3 : Int32) (s : cS) : Option (Int32 × cS) :=
  f4_weighedCodes_l6 N p1 p2 p3 N 0 0 s
def f4_timesTogether_l4b (N : Nat)  (k4 : Int32 → Int32 → cS → Option (Int32 × cS)) (a1 : Int32) (a2 : Int32) (s : cS) : Option (Int32 × cS) :=
  if (s.1 16 0) ≤ a2 then (some (a1, s)) else (if 8 ≤ a2 then (some (a1, s)) else (if inB a2 8 = true then (k4 (a1 + (s.1 18 a2.toNatClampNeg)) (a2 + 1) s) else none))
def f4_timesTogether_l4 (N : Nat)  (n : Nat) : Int32 → Int32 → cS → Option (Int32 × cS) := iter (fun k => f4_timesTogether_l4b N k) (fun _ _ _  => none) n
def f4_timesTogether (N : Nat)  (s : cS) : Option (Int32 × cS) :=
  f4_timesTogether_l4 N N 0 0 s
def f8_commonDivisor_l13b (N : Nat) (p0 : Int32) (p1 : Int32) (k13 : Int32 → Int32 → Int32 → cS → Option (Int32 × cS)) (a2 : Int32) (a3 : Int32) (a4 : Int32) (s : cS) : Option (Int32 × cS) :=
  if 100 ≤ a4 then (some (a2, s)) else (if a3 = 0 then (some (a2, s)) else (if a3 = 0 then none else k13 a3 (a2 - a2 / a3 * a3) (a4 + 1) s))
def f8_commonDivisor_l13 (N : Nat) (p0 : Int32) (p1 : Int32) (n : Nat) : Int32 → Int32 → Int32 → cS → Option (Int32 × cS) := iter (fun k => f8_commonDivisor_l13b N p0 p1 k) (fun _ _ _ _  => none) n
def f8_commonDivisor (N : Nat) (p0 : Int32) (p1 : Int32) (s : cS) : Option (Int32 × cS) :=
  f8_commonDivisor_l13 N p0 p1 N (jabs p0) (jabs p1) 0 s
def f8_mean_b26 (N : Nat) (p1 : Int32) (p2 : Int32) (p3 : Int32) (a4 : Option Nat) (b0 : Int32) (s : cS) : Option (Int32 × cS) :=
  match a4 with | none => (some ((-1), (cu s 3 0 b0))) | some w31 => (if ((cu s 3 0 b0).1 3 0) = 0 then (if ((cu s 3 0 b0).1 16 0) = 0 then (if p3 = 0 then (if w31 < 8 then ((f3_codeOf N w31 p2 (cu s 3 0 b0)).bind fun (r64, s64) => some (r64, s64)) else none) else (some (1, (cu s 3 0 b0)))) else ((f4_weighedCodes N w31 p2 ((cu s 3 0 b0).1 0 0) (cu s 3 0 b0)).bind fun (r79, s79) => (f4_timesTogether N s79).bind fun (r88, s88) => (f8_commonDivisor N r79 r88 s88).bind fun (r98, s98) => if p3 = 0 then (if (jmax 1 r98) = 0 then none else some ((r79 / (jmax 1 r98)), s98)) else (if (jmax 1 r98) = 0 then none else some ((r88 / (jmax 1 r98)), s98)))) else (some ((-1), (cu s 3 0 b0))))
def f8_mean (N : Nat) (p1 : Int32) (p2 : Int32) (p3 : Int32) (s : cS) : Option (Int32 × cS) :=
  (f8_meterAt N p1 s).bind fun (r2, s2) => match r2 with | none => (f8_mean_b26 N p1 p2 p3 none 2 s2) | some w10 => ((f8_isNumber N p2 s2).bind fun (r15, s15) => if r15 = 0 then (f8_mean_b26 N p1 p2 p3 (some w10) 2 s15) else (f8_mean_b26 N p1 p2 p3 (some w10) 0 s15))
def f8_faultAt (N : Nat) (p1 : Int32) (s : cS) : Option (Option Nat × cS) :=
  if p1 < 0 then (some (none, s)) else (if (s.1 2 0) ≤ p1 then (some (none, s)) else (if 10 ≤ p1 then (some (none, s)) else (if inB p1 10 = true then (some ((some p1.toNatClampNeg), s)) else none)))
def f2_become (N : Nat) (o : Nat) (p1 : Int32) (p2 : Int32) (p3 : Int32) (s : cS) : Option (cS) :=
  some (cu (cu (cu s 19 o p1) 20 o p2) 21 o p3)
def f8_fault_b42 (N : Nat) (p1 : Int32) (p2 : Int32) (p3 : Int32) (b0 : Int32) (s : cS) : Option (Int32 × cS) :=
  if ((cu s 3 0 b0).1 3 0) = 0 then ((f8_faultAt N (((cu (cu s 3 0 b0) 2 0 (((cu s 3 0 b0).1 2 0) + 1)).1 2 0) - 1) (cu (cu s 3 0 b0) 2 0 (((cu s 3 0 b0).1 2 0) + 1))).bind fun (r71, s71) => match r71 with | none => (some ((s71.1 2 0), s71)) | some w78 => (if w78 < 10 then ((f2_become N w78 p1 p2 p3 s71).bind fun s86 => some ((s86.1 2 0), s86)) else none)) else (some ((-1), (cu s 3 0 b0)))
def f8_fault (N : Nat) (p1 : Int32) (p2 : Int32) (p3 : Int32) (s : cS) : Option (Int32 × cS) :=
  (f8_partAt N p1 p2 s).bind fun (r4, s4) => match r4 with | none => (f8_fault_b42 N p1 p2 p3 2 s4) | some w7 => ((f8_isWithin N p3 500 s4).bind fun (r18, s18) => if r18 = 0 then (f8_fault_b42 N p1 p2 p3 1 s18) else (if (s18.1 2 0) < 10 then (f8_fault_b42 N p1 p2 p3 0 s18) else (f8_fault_b42 N p1 p2 p3 3 s18)))
def f8_clear (N : Nat)  (s : cS) : Option (Int32 × cS) :=
  some ((s.1 2 0), (cu s 2 0 0))
def f8_codeWith (N : Nat) (p1 : Nat) (p2 : Int32) (s : cS) : Option (Int32 × cS) :=
  if p1 < 10 then ((f8_meterAt N (s.1 19 p1) s).bind fun (r5, s5) => (f8_partAt N (s5.1 19 p1) (s5.1 20 p1) s5).bind fun (r18, s18) => match r5 with | none => (some (0, s18)) | some w24 => (match r18 with | none => (some (0, s18)) | some w29 => (if w29 < 128 then (if w24 < 8 then ((f3_codeOf N w24 p2 (cu s18 11 w29 (s18.1 21 p1))).bind fun (r52, s52) => some (r52, (cu s52 11 w29 (s18.1 11 w29)))) else none) else none))) else none
def f8_isShownBy (N : Nat) (p1 : Nat) (p2 : Int32) (s : cS) : Option (Int32 × cS) :=
  if p1 < 10 then ((f8_meterAt N (s.1 19 p1) s).bind fun (r5, s5) => match r5 with | none => (some (0, s5)) | some w10 => ((f8_codeWith N p1 p2 s5).bind fun (r16, s16) => if w10 < 8 then ((f3_codeOf N w10 p2 s16).bind fun (r21, s21) => if r16 = r21 then (some (0, s21)) else (some (1, s21))) else none)) else none
def f8_shown_l27b (N : Nat) (p1 : Int32) (k27 : Nat → Int32 → cS → Option (Int32 × cS)) (a2 : Nat) (a3 : Int32) (s : cS) : Option (Int32 × cS) :=
  if (s.1 0 0) < a3 then (some ((-2), s)) else ((f8_isShownBy N a2 a3 s).bind fun (r38, s38) => if r38 = 0 then (k27 a2 (a3 + 1) s38) else (some (a3, s38)))
def f8_shown_l27 (N : Nat) (p1 : Int32) (n : Nat) : Nat → Int32 → cS → Option (Int32 × cS) := iter (fun k => f8_shown_l27b N p1 k) (fun _ _ _  => none) n
def f8_shown_b16 (N : Nat) (p1 : Int32) (a2 : Option Nat) (b0 : Int32) (s : cS) : Option (Int32 × cS) :=
  match a2 with | none => (some ((-1), (cu s 3 0 b0))) | some w20 => (f8_shown_l27 N p1 N w20 0 (cu s 3 0 b0))
def f8_shown (N : Nat) (p1 : Int32) (s : cS) : Option (Int32 × cS) :=
  (f8_faultAt N p1 s).bind fun (r2, s2) => match r2 with | none => (f8_shown_b16 N p1 none 2 s2) | some w8 => (f8_shown_b16 N p1 (some w8) 0 s2)
def f1_begin (N : Nat)  (s : cS) : Option (cS) :=
  some (cu (cu (cu (cfi (cfi s 26 1024 1000) 28 1024 0) 26 ((0 : Int32).toNatClampNeg) 0) 24 0 0) 25 0 0)
def f8_faultsShownBy_l4b (N : Nat) (p1 : Int32) (k4 : Int32 → Int32 → cS → Option (Int32 × cS)) (a2 : Int32) (a3 : Int32) (s : cS) : Option (Int32 × cS) :=
  if (s.1 2 0) ≤ a3 then (some (a2, s)) else ((f8_faultAt N a3 s).bind fun (r14, s14) => match r14 with | none => (k4 a2 (a3 + 1) s14) | some w21 => ((f8_isShownBy N w21 p1 s14).bind fun (r28, s28) => if r28 = 0 then (k4 a2 (a3 + 1) s28) else (k4 (a2 ||| (1 <<< (a3 &&& 31))) (a3 + 1) s28)))
def f8_faultsShownBy_l4 (N : Nat) (p1 : Int32) (n : Nat) : Int32 → Int32 → cS → Option (Int32 × cS) := iter (fun k => f8_faultsShownBy_l4b N p1 k) (fun _ _ _  => none) n
def f8_faultsShownBy (N : Nat) (p1 : Int32) (s : cS) : Option (Int32 × cS) :=
  f8_faultsShownBy_l4 N p1 N 0 0 s
def f1_addMask (N : Nat) (p1 : Int32) (s : cS) : Option (cS) :=
  if p1 ≤ 0 then (some s) else (if 1024 ≤ p1 then (some s) else (if inB p1 1024 = true then (if (s.1 28 p1.toNatClampNeg) = 0 then (if (s.1 24 0) < 0 then (some s) else (if (s.1 24 0) < 1024 then (if inB ((cu s 28 (p1.toNatClampNeg) 1).1 24 0) 1024 = true then (some (cu (cu (cu (cu s 28 (p1.toNatClampNeg) 1) 27 (((cu s 28 (p1.toNatClampNeg) 1).1 24 0).toNatClampNeg) p1) 24 0 (((cu (cu s 28 (p1.toNatClampNeg) 1) 27 (((cu s 28 (p1.toNatClampNeg) 1).1 24 0).toNatClampNeg) p1).1 24 0) + 1)) 25 0 (((cu (cu (cu s 28 (p1.toNatClampNeg) 1) 27 (((cu s 28 (p1.toNatClampNeg) 1).1 24 0).toNatClampNeg) p1) 24 0 (((cu (cu s 28 (p1.toNatClampNeg) 1) 27 (((cu s 28 (p1.toNatClampNeg) 1).1 24 0).toNatClampNeg) p1).1 24 0) + 1)).1 25 0) ||| p1))) else none) else (some s))) else (some s)) else none))
def f1_growFrom_l25b (N : Nat) (p1 : Int32) (k25 : Int32 → Int32 → cS → Option (cS)) (a2 : Int32) (a3 : Int32) (s : cS) : Option (cS) :=
  if (s.1 24 0) ≤ a3 then (some s) else (if 1024 ≤ a3 then (some s) else (if inB a3 1024 = true then (if (p1 ||| (s.1 27 a3.toNatClampNeg)) < 0 then (k25 a2 (a3 + 1) s) else (if 1024 ≤ (p1 ||| (s.1 27 a3.toNatClampNeg)) then (k25 a2 (a3 + 1) s) else (if inB (p1 ||| (s.1 27 a3.toNatClampNeg)) 1024 = true then (if (s.1 26 ((p1 ||| (s.1 27 a3.toNatClampNeg)).toNatClampNeg)) ≤ a2 then (k25 a2 (a3 + 1) s) else (k25 a2 (a3 + 1) (cu s 26 ((p1 ||| (s.1 27 a3.toNatClampNeg)).toNatClampNeg) a2))) else none))) else none))
def f1_growFrom_l25 (N : Nat) (p1 : Int32) (n : Nat) : Int32 → Int32 → cS → Option (cS) := iter (fun k => f1_growFrom_l25b N p1 k) (fun _ _ _  => none) n
def f1_growFrom (N : Nat) (p1 : Int32) (s : cS) : Option (cS) :=
  if p1 < 0 then (some s) else (if p1 < 1024 then (if inB p1 1024 = true then (f1_growFrom_l25 N p1 N ((s.1 26 p1.toNatClampNeg) + 1) 0 s) else none) else (some s))
def f1_fewest_b42 (N : Nat)  (s : cS) : Option (Int32 × cS) :=
  if (s.1 25 0) < 0 then (some (0, s)) else (if 1024 ≤ (s.1 25 0) then (some (0, s)) else (if inB (s.1 25 0) 1024 = true then (some ((s.1 26 ((s.1 25 0).toNatClampNeg)), s)) else none))
def f1_fewest_l2b (N : Nat)  (k2 : Int32 → cS → Option (Int32 × cS)) (a1 : Int32) (s : cS) : Option (Int32 × cS) :=
  if (s.1 25 0) ≤ a1 then (f1_fewest_b42 N s) else (if 1024 ≤ a1 then (f1_fewest_b42 N s) else (if inB a1 1024 = true then (if 1000 ≤ (s.1 26 a1.toNatClampNeg) then (k2 (a1 + 1) s) else ((f1_growFrom N a1 s).bind fun s33 => k2 (a1 + 1) s33)) else none))
def f1_fewest_l2 (N : Nat)  (n : Nat) : Int32 → cS → Option (Int32 × cS) := iter (fun k => f1_fewest_l2b N k) (fun _ _  => none) n
def f1_fewest (N : Nat)  (s : cS) : Option (Int32 × cS) :=
  f1_fewest_l2 N N 0 s
def f8_shows_l18b (N : Nat)  (k18 : Int32 → cS → Option (Int32 × cS)) (a1 : Int32) (s : cS) : Option (Int32 × cS) :=
  if (s.1 0 0) < a1 then ((f1_fewest N s).bind fun (r48, s48) => some (r48, s48)) else ((f8_faultsShownBy N a1 s).bind fun (r32, s32) => (f1_addMask N r32 s32).bind fun s35 => k18 (a1 + 1) s35)
def f8_shows_l18 (N : Nat)  (n : Nat) : Int32 → cS → Option (Int32 × cS) := iter (fun k => f8_shows_l18b N k) (fun _ _  => none) n
def f8_shows (N : Nat)  (s : cS) : Option (Int32 × cS) :=
  if (s.1 2 0) = 0 then (some (0, s)) else ((f1_begin N s).bind fun s13 => f8_shows_l18 N N 0 s13)
def f8_showing (N : Nat) (p1 : Int32) (s : cS) : Option (Int32 × cS) :=
  (f8_isNumber N p1 s).bind fun (r2, s2) => if r2 = 0 then (some ((-1), s2)) else ((f8_faultsShownBy N p1 s2).bind fun (r10, s10) => some (r10, s10))
def f8_tellApart_l83b (N : Nat) (p1 : Int32) (k53 : Int32 → cS → Option (cS)) (k83 : Int32 → Int32 → cS → Option (cS)) (a2 : Int32) (a3 : Int32) (s : cS) : Option (cS) :=
  if (s.1 2 0) ≤ a3 then (k53 (a2 + 1) s) else (if 10 ≤ a3 then (k53 (a2 + 1) s) else (if inB a2 10 = true then (if inB a3 10 = true then (if (s.1 22 a2.toNatClampNeg) = (s.1 22 a3.toNatClampNeg) then (k83 a2 (a3 + 1) s) else (k83 a2 (a3 + 1) (cu s 23 (a2.toNatClampNeg) ((s.1 23 a2.toNatClampNeg) ||| (1 <<< (a3 &&& 31)))))) else none) else none))
def f8_tellApart_l83 (N : Nat) (p1 : Int32) (k53 : Int32 → cS → Option (cS)) (n : Nat) : Int32 → Int32 → cS → Option (cS) := iter (fun k => f8_tellApart_l83b N p1 k53 k) (fun _ _ _  => none) n
def f8_tellApart_l53b (N : Nat) (p1 : Int32) (k53 : Int32 → cS → Option (cS)) (a2 : Int32) (s : cS) : Option (cS) :=
  if (s.1 2 0) ≤ a2 then (some s) else (if 10 ≤ a2 then (some s) else (if 10 ≤ a2 then (some s) else (f8_tellApart_l83 N p1 k53 N a2 (a2 + 1) s)))
def f8_tellApart_l53 (N : Nat) (p1 : Int32) (n : Nat) : Int32 → cS → Option (cS) := iter (fun k => f8_tellApart_l53b N p1 k) (fun _ _  => none) n
def f8_tellApart_l2b (N : Nat) (p1 : Int32) (k2 : Int32 → cS → Option (cS)) (a2 : Int32) (s : cS) : Option (cS) :=
  if (s.1 2 0) ≤ a2 then (f8_tellApart_l53 N p1 N 0 s) else (if 10 ≤ a2 then (f8_tellApart_l53 N p1 N 0 s) else ((f8_faultAt N a2 s).bind fun (r21, s21) => match r21 with | none => (if inB a2 10 = true then (k2 (a2 + 1) (cu s21 22 (a2.toNatClampNeg) 0)) else none) | some w31 => ((f8_codeWith N w31 p1 s21).bind fun (r41, s41) => if inB a2 10 = true then (k2 (a2 + 1) (cu s41 22 (a2.toNatClampNeg) r41)) else none)))
def f8_tellApart_l2 (N : Nat) (p1 : Int32) (n : Nat) : Int32 → cS → Option (cS) := iter (fun k => f8_tellApart_l2b N p1 k) (fun _ _  => none) n
def f8_tellApart (N : Nat) (p1 : Int32) (s : cS) : Option (cS) :=
  f8_tellApart_l2 N p1 N 0 s
def f8_areAlike (N : Nat) (p1 : Int32) (p2 : Int32) (s : cS) : Option (Int32 × cS) :=
  (f8_faultAt N p1 s).bind fun (r2, s2) => (f8_faultAt N p2 s2).bind fun (r8, s8) => match r2 with | none => (some (0, s8)) | some w14 => (match r8 with | none => (some (0, s8)) | some w19 => (if w14 < 10 then (if w19 < 10 then (if (s8.1 19 w14) = (s8.1 19 w19) then (if 10 ≤ p1 then (some (0, s8)) else (if inB p1 10 = true then (if (((s8.1 23 p1.toNatClampNeg) >>> (p2 &&& 31)) &&& 1) = 0 then (some (1, s8)) else (some (0, s8))) else none)) else (some (0, s8))) else none) else none))
def f8_alike_l55b (N : Nat)  (k43 : Int32 → Int32 → cS → Option (Int32 × cS)) (k55 : Int32 → Int32 → Int32 → cS → Option (Int32 × cS)) (a1 : Int32) (a2 : Int32) (a3 : Int32) (s : cS) : Option (Int32 × cS) :=
  if (s.1 2 0) ≤ a3 then (k43 a1 (a2 + 1) s) else ((f8_areAlike N a2 a3 s).bind fun (r66, s66) => if r66 = 0 then (k55 a1 a2 (a3 + 1) s66) else (k55 (a1 + 1) a2 (a3 + 1) s66))
def f8_alike_l55 (N : Nat)  (k43 : Int32 → Int32 → cS → Option (Int32 × cS)) (n : Nat) : Int32 → Int32 → Int32 → cS → Option (Int32 × cS) := iter (fun k => f8_alike_l55b N k43 k) (fun _ _ _ _  => none) n
def f8_alike_l43b (N : Nat)  (k43 : Int32 → Int32 → cS → Option (Int32 × cS)) (a1 : Int32) (a2 : Int32) (s : cS) : Option (Int32 × cS) :=
  if (s.1 2 0) ≤ a2 then (some (a1, s)) else (f8_alike_l55 N k43 N a1 a2 (a2 + 1) s)
def f8_alike_l43 (N : Nat)  (n : Nat) : Int32 → Int32 → cS → Option (Int32 × cS) := iter (fun k => f8_alike_l43b N k) (fun _ _ _  => none) n
def f8_alike_l20b (N : Nat)  (k20 : Int32 → cS → Option (Int32 × cS)) (a1 : Int32) (s : cS) : Option (Int32 × cS) :=
  if (s.1 0 0) < a1 then (f8_alike_l43 N N 0 0 s) else ((f8_tellApart N a1 s).bind fun s30 => k20 (a1 + 1) s30)
def f8_alike_l20 (N : Nat)  (n : Nat) : Int32 → cS → Option (Int32 × cS) := iter (fun k => f8_alike_l20b N k) (fun _ _  => none) n
def f8_alike (N : Nat)  (s : cS) : Option (Int32 × cS) :=
  if 2 ≤ (s.1 2 0) then (f8_alike_l20 N N 0 (cfi s 23 10 0)) else (some (0, s))
def f8_beyond_l27b (N : Nat) (p1 : Int32) (k27 : Nat → Int32 → cS → Option (Int32 × cS)) (a2 : Nat) (a3 : Int32) (s : cS) : Option (Int32 × cS) :=
  if (s.1 0 0) < a3 then (some ((-2), s)) else (if a2 < 8 then ((f3_codeOf N a2 a3 s).bind fun (r37, s37) => (f8_isNumber N (s37.1 9 a2) s37).bind fun (r46, s46) => if r46 = 0 then (some (a3, s46)) else (k27 a2 (a3 + 1) s46)) else none)
def f8_beyond_l27 (N : Nat) (p1 : Int32) (n : Nat) : Nat → Int32 → cS → Option (Int32 × cS) := iter (fun k => f8_beyond_l27b N p1 k) (fun _ _ _  => none) n
def f8_beyond_b16 (N : Nat) (p1 : Int32) (a2 : Option Nat) (b0 : Int32) (s : cS) : Option (Int32 × cS) :=
  match a2 with | none => (some ((-1), (cu s 3 0 b0))) | some w20 => (f8_beyond_l27 N p1 N w20 0 (cu s 3 0 b0))
def f8_beyond (N : Nat) (p1 : Int32) (s : cS) : Option (Int32 × cS) :=
  (f8_meterAt N p1 s).bind fun (r2, s2) => match r2 with | none => (f8_beyond_b16 N p1 none 2 s2) | some w8 => (f8_beyond_b16 N p1 (some w8) 0 s2)
def f8_joined_b53 (N : Nat) (p1 : Int32) (p2 : Int32) (p3 : Int32) (p4 : Int32) (a5 : Option Nat) (a6 : Option Nat) (b0 : Int32) (s : cS) : Option (Int32 × cS) :=
  match a5 with | none => (some ((-2147483648), (cu s 3 0 b0))) | some w58 => (match a6 with | none => (some ((-2147483648), (cu s 3 0 b0))) | some w63 => (if ((cu s 3 0 b0).1 3 0) = 0 then (if w58 < 8 then ((f3_codeOf N w58 p4 (cu s 3 0 b0)).bind fun (r80, s80) => (f8_isNumber N (s80.1 9 w58) s80).bind fun (r95, s95) => if r95 = 0 then (some ((-2147483648), (cu s95 3 0 1))) else (if w63 < 8 then ((f3_codeOf N w63 (s80.1 9 w58) s95).bind fun (r117, s117) => some (((r80 * p3) + r117), s117)) else none)) else none) else (some ((-2147483648), (cu s 3 0 b0)))))
def f8_joined (N : Nat) (p1 : Int32) (p2 : Int32) (p3 : Int32) (p4 : Int32) (s : cS) : Option (Int32 × cS) :=
  (f8_meterAt N p1 s).bind fun (r2, s2) => (f8_meterAt N p2 s2).bind fun (r9, s9) => match r2 with | none => (f8_joined_b53 N p1 p2 p3 p4 none r9 2 s9) | some w17 => (match r9 with | none => (f8_joined_b53 N p1 p2 p3 p4 (some w17) none 2 s9) | some w22 => ((f8_isNumber N p4 s9).bind fun (r28, s28) => if r28 = 0 then (f8_joined_b53 N p1 p2 p3 p4 (some w17) (some w22) 2 s28) else ((f8_isWithin N p3 1000 s28).bind fun (r42, s42) => if r42 = 0 then (f8_joined_b53 N p1 p2 p3 p4 (some w17) (some w22) 1 s42) else (f8_joined_b53 N p1 p2 p3 p4 (some w17) (some w22) 0 s42))))
def f6_latestPlace (N : Nat)  (s : cS) : Option (Int32 × cS) :=
  some (((((s.1 29 0) + 60) - 1) - (((s.1 29 0) + 60) - 1) / 60 * 60), s)
def f6_latest (N : Nat)  (s : cS) : Option (Option Nat × cS) :=
  if (s.1 30 0) ≤ 0 then (some (none, s)) else ((f6_latestPlace N s).bind fun (r9, s9) => (f6_slotAt N r9 s9).bind fun (r12, s12) => some (r12, s12))
def f3_dropPart (N : Nat) (o : Nat) (s : cS) : Option (cS) :=
  if (s.1 6 o) ≤ 0 then (some s) else (some (cu s 6 o ((s.1 6 o) - 1)))
def f3_giveWorths_l2b (N : Nat) (o : Nat) (p1 : Nat) (k2 : Int32 → cS → Option (cS)) (a2 : Int32) (s : cS) : Option (cS) :=
  if (s.1 6 o) ≤ a2 then (some s) else (if p1 < 60 then (if 16 ≤ a2 then (some s) else ((f3_partAt N o a2 s).bind fun (r18, s18) => match r18 with | none => (k2 (a2 + 1) s18) | some w23 => (if inB a2 16 = true then (if w23 < 128 then (k2 (a2 + 1) (cu s18 12 w23 (s18.2.2 p1 a2.toNatClampNeg))) else none) else none))) else none)
def f3_giveWorths_l2 (N : Nat) (o : Nat) (p1 : Nat) (n : Nat) : Int32 → cS → Option (cS) := iter (fun k => f3_giveWorths_l2b N o p1 k) (fun _ _  => none) n
def f3_giveWorths (N : Nat) (o : Nat) (p1 : Nat) (s : cS) : Option (cS) :=
  f3_giveWorths_l2 N o p1 N 0 s
def f8_takeBack_b141 (N : Nat) (p1 : Nat) (a2 : Option Nat) (s : cS) : Option (cS) :=
  if p1 < 60 then (if (s.1 31 p1) = 5 then (match a2 with | none => (some s) | some w150 => (if w150 < 8 then ((f3_giveWorths N w150 p1 s).bind fun s158 => some s158) else none)) else (some s)) else none
def f8_takeBack_b118 (N : Nat) (p1 : Nat) (a2 : Option Nat) (a3 : Option Nat) (s : cS) : Option (cS) :=
  if p1 < 60 then (if (s.1 31 p1) = 4 then (match a3 with | none => (f8_takeBack_b141 N p1 a2 s) | some w127 => (if w127 < 128 then (some (cu s 12 w127 (s.1 34 p1))) else none)) else (f8_takeBack_b141 N p1 a2 s)) else none
def f8_takeBack_b95 (N : Nat) (p1 : Nat) (a2 : Option Nat) (a3 : Option Nat) (s : cS) : Option (cS) :=
  if p1 < 60 then (if (s.1 31 p1) = 3 then (match a3 with | none => (f8_takeBack_b118 N p1 a2 none s) | some w104 => (if w104 < 128 then (some (cu s 11 w104 (s.1 34 p1))) else none)) else (f8_takeBack_b118 N p1 a2 a3 s)) else none
def f8_takeBack_b68 (N : Nat) (p1 : Nat) (a2 : Option Nat) (a3 : Option Nat) (s : cS) : Option (cS) :=
  if p1 < 60 then (if (s.1 31 p1) = 2 then (match a2 with | none => (f8_takeBack_b95 N p1 none a3 s) | some w77 => (if w77 < 8 then ((f3_dropPart N w77 s).bind fun s81 => (f3_giveWorths N w77 p1 s81).bind fun s89 => some s89) else none)) else (f8_takeBack_b95 N p1 a2 a3 s)) else none
def f8_takeBack (N : Nat) (p1 : Nat) (s : cS) : Option (cS) :=
  if p1 < 60 then ((f8_meterAt N (s.1 32 p1) s).bind fun (r5, s5) => (f8_partAt N (s5.1 32 p1) (s5.1 33 p1) s5).bind fun (r18, s18) => if (s18.1 31 p1) = 0 then (some (cu s18 0 0 (s18.1 34 p1))) else (if (s18.1 31 p1) = 1 then (if (s18.1 1 0) ≤ 0 then (f8_takeBack_b68 N p1 r5 r18 s18) else (some (cu s18 1 0 ((s18.1 1 0) - 1)))) else (f8_takeBack_b68 N p1 r5 r18 s18))) else none
def f6_dropLatest (N : Nat)  (s : cS) : Option (cS) :=
  if (s.1 30 0) ≤ 0 then (some s) else ((f6_latestPlace N s).bind fun (r9, s9) => some (cu (cu s9 29 0 r9) 30 0 (((cu s9 29 0 r9).1 30 0) - 1)))
def f8_dropGoneFaults_l9b (N : Nat)  (k9 : Int32 → Int32 → Int32 → cS → Option (cS)) (a1 : Int32) (a2 : Int32) (a3 : Int32) (s : cS) : Option (cS) :=
  if a1 ≤ a3 then (some (cu s 2 0 a2)) else (if 10 ≤ a3 then (some (cu s 2 0 a2)) else ((f8_faultAt N a3 s).bind fun (r25, s25) => (f8_faultAt N a2 s25).bind fun (r32, s32) => match r25 with | none => (k9 a1 a2 (a3 + 1) s32) | some w39 => (match r32 with | none => (k9 a1 a2 (a3 + 1) s32) | some w44 => (if w39 < 10 then ((f8_partAt N (s32.1 19 w39) (s32.1 20 w39) s32).bind fun (r58, s58) => match r58 with | none => (k9 a1 a2 (a3 + 1) s58) | some w61 => (if w44 < 10 then ((f2_become N w44 (s58.1 19 w39) (s58.1 20 w39) (s58.1 21 w39) s58).bind fun s81 => k9 a1 (a2 + 1) (a3 + 1) s81) else none)) else none))))
def f8_dropGoneFaults_l9 (N : Nat)  (n : Nat) : Int32 → Int32 → Int32 → cS → Option (cS) := iter (fun k => f8_dropGoneFaults_l9b N k) (fun _ _ _ _  => none) n
def f8_dropGoneFaults (N : Nat)  (s : cS) : Option (cS) :=
  f8_dropGoneFaults_l9 N N (s.1 2 0) 0 0 s
def f8_undo (N : Nat)  (s : cS) : Option (Int32 × cS) :=
  (f6_latest N s).bind fun (r4, s4) => match r4 with | none => (some (0, s4)) | some w9 => ((f8_takeBack N w9 s4).bind fun s16 => (f6_dropLatest N s16).bind fun s23 => (f8_dropGoneFaults N s23).bind fun s27 => some (1, (cu s27 4 0 (-1))))
def f8_size (N : Nat) (p1 : Int32) (s : cS) : Option (Int32 × cS) :=
  if p1 = 0 then (some ((s.1 0 0), s)) else if p1 = 1 then (some ((s.1 1 0), s)) else if p1 = 2 then (some ((s.1 16 0), s)) else if p1 = 3 then (some ((s.1 2 0), s)) else if p1 = 4 then (some ((s.1 30 0), s)) else (some ((-1), s))
def f8_trouble (N : Nat)  (s : cS) : Option (Int32 × cS) :=
  some ((s.1 3 0), s)
