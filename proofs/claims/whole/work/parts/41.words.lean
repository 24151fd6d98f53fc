def sx_tb : List (String × Nat × List Int32) := [("EdgeCache$Request", 15, []), ("java/lang/StringLatin1", 151, []), ("java/lang/StringUTF16", 295, []), ("EdgeCache$Request", 24, [71, 69, 84]), ("EdgeCache$Request", 32, [72, 69, 65, 68]), ("EdgeCache$Request", 34, [80, 85, 84]), ("EdgeCache$Request", 36, [68, 69, 76, 69, 84, 69]), ("EdgeCache$Text", 74, [48, 49, 50, 51, 52, 53, 54, 55, 56, 57, 65, 66, 67, 68, 69, 70]), ("EdgeCache$Text", 91, [46, 46]), ("EdgeCache$Text", 93, [46]), ("EdgeCache$Reader", 131, [99]), ("EdgeCache$Text", 35, [42]), ("EdgeCache$Origin", 119, []), ("EdgeCache$Sheet", 107, [75, 58]), ("EdgeCache$Sheet", 120, [89, 58, 86, 10]), ("EdgeCache$Sheet", 129, [80, 58]), ("EdgeCache$Sheet", 134, [82, 58, 42, 47]), ("EdgeCache$Sheet", 136, [10, 76, 58, 48, 10, 10]), ("EdgeCache$Sheet", 145, [82, 58])]
def sx_tm (i : Nat) : Term := Term.string (sx_tb.getD i ("", 0, [])).1 (sx_tb.getD i ("", 0, [])).2.1
def sx_by (i : Nat) : List Int32 := (sx_tb.getD i ("", 0, [])).2.2
abbrev sx_fl : List Cond := flatC (Jvm.Cond.and given_1 narrow_1)
theorem sx_in1_0 : Cond.exactly (sx_tm 0) "java/lang/String" ∈ sx_fl := List.mem_of_getElem? (i := 235) (by decide +kernel)
theorem sx_in1_1 : Cond.exactly (sx_tm 1) "java/lang/String" ∈ sx_fl := List.mem_of_getElem? (i := 239) (by decide +kernel)
theorem sx_in1_2 : Cond.exactly (sx_tm 2) "java/lang/String" ∈ sx_fl := List.mem_of_getElem? (i := 244) (by decide +kernel)
theorem sx_in1_3 : Cond.exactly (sx_tm 3) "java/lang/String" ∈ sx_fl := List.mem_of_getElem? (i := 250) (by decide +kernel)
theorem sx_in1_4 : Cond.exactly (sx_tm 4) "java/lang/String" ∈ sx_fl := List.mem_of_getElem? (i := 260) (by decide +kernel)
theorem sx_in1_5 : Cond.exactly (sx_tm 5) "java/lang/String" ∈ sx_fl := List.mem_of_getElem? (i := 272) (by decide +kernel)
theorem sx_in1_6 : Cond.exactly (sx_tm 6) "java/lang/String" ∈ sx_fl := List.mem_of_getElem? (i := 284) (by decide +kernel)
theorem sx_in1_7 : Cond.exactly (sx_tm 7) "java/lang/String" ∈ sx_fl := List.mem_of_getElem? (i := 300) (by decide +kernel)
theorem sx_in1_8 : Cond.exactly (sx_tm 8) "java/lang/String" ∈ sx_fl := List.mem_of_getElem? (i := 327) (by decide +kernel)
theorem sx_in1_9 : Cond.exactly (sx_tm 9) "java/lang/String" ∈ sx_fl := List.mem_of_getElem? (i := 341) (by decide +kernel)
theorem sx_in1_10 : Cond.exactly (sx_tm 10) "java/lang/String" ∈ sx_fl := List.mem_of_getElem? (i := 355) (by decide +kernel)
theorem sx_in1_11 : Cond.exactly (sx_tm 11) "java/lang/String" ∈ sx_fl := List.mem_of_getElem? (i := 370) (by decide +kernel)
theorem sx_in1_12 : Cond.exactly (sx_tm 12) "java/lang/String" ∈ sx_fl := List.mem_of_getElem? (i := 386) (by decide +kernel)
theorem sx_in1_13 : Cond.exactly (sx_tm 13) "java/lang/String" ∈ sx_fl := List.mem_of_getElem? (i := 402) (by decide +kernel)
theorem sx_in1_14 : Cond.exactly (sx_tm 14) "java/lang/String" ∈ sx_fl := List.mem_of_getElem? (i := 421) (by decide +kernel)
theorem sx_in1_15 : Cond.exactly (sx_tm 15) "java/lang/String" ∈ sx_fl := List.mem_of_getElem? (i := 443) (by decide +kernel)
theorem sx_in1_16 : Cond.exactly (sx_tm 16) "java/lang/String" ∈ sx_fl := List.mem_of_getElem? (i := 464) (by decide +kernel)
theorem sx_in1_17 : Cond.exactly (sx_tm 17) "java/lang/String" ∈ sx_fl := List.mem_of_getElem? (i := 488) (by decide +kernel)
theorem sx_in1_18 : Cond.exactly (sx_tm 18) "java/lang/String" ∈ sx_fl := List.mem_of_getElem? (i := 515) (by decide +kernel)
theorem sx_in1 : ∀ i, i < 19 → Cond.exactly (sx_tm i) "java/lang/String" ∈ sx_fl
  | 0, _ => sx_in1_0
  | 1, _ => sx_in1_1
  | 2, _ => sx_in1_2
  | 3, _ => sx_in1_3
  | 4, _ => sx_in1_4
  | 5, _ => sx_in1_5
  | 6, _ => sx_in1_6
  | 7, _ => sx_in1_7
  | 8, _ => sx_in1_8
  | 9, _ => sx_in1_9
  | 10, _ => sx_in1_10
  | 11, _ => sx_in1_11
  | 12, _ => sx_in1_12
  | 13, _ => sx_in1_13
  | 14, _ => sx_in1_14
  | 15, _ => sx_in1_15
  | 16, _ => sx_in1_16
  | 17, _ => sx_in1_17
  | 18, _ => sx_in1_18
  | n + 19, h => absurd h (by omega)
theorem sx_in2_0 : Cond.eq (.field (sx_tm 0) "java/lang/String" "coder" "B") (.int 0) ∈ sx_fl := List.mem_of_getElem? (i := 236) (by decide +kernel)
theorem sx_in2_1 : Cond.eq (.field (sx_tm 1) "java/lang/String" "coder" "B") (.int 0) ∈ sx_fl := List.mem_of_getElem? (i := 240) (by decide +kernel)
theorem sx_in2_2 : Cond.eq (.field (sx_tm 2) "java/lang/String" "coder" "B") (.int 0) ∈ sx_fl := List.mem_of_getElem? (i := 245) (by decide +kernel)
theorem sx_in2_3 : Cond.eq (.field (sx_tm 3) "java/lang/String" "coder" "B") (.int 0) ∈ sx_fl := List.mem_of_getElem? (i := 251) (by decide +kernel)
theorem sx_in2_4 : Cond.eq (.field (sx_tm 4) "java/lang/String" "coder" "B") (.int 0) ∈ sx_fl := List.mem_of_getElem? (i := 261) (by decide +kernel)
theorem sx_in2_5 : Cond.eq (.field (sx_tm 5) "java/lang/String" "coder" "B") (.int 0) ∈ sx_fl := List.mem_of_getElem? (i := 273) (by decide +kernel)
theorem sx_in2_6 : Cond.eq (.field (sx_tm 6) "java/lang/String" "coder" "B") (.int 0) ∈ sx_fl := List.mem_of_getElem? (i := 285) (by decide +kernel)
theorem sx_in2_7 : Cond.eq (.field (sx_tm 7) "java/lang/String" "coder" "B") (.int 0) ∈ sx_fl := List.mem_of_getElem? (i := 301) (by decide +kernel)
theorem sx_in2_8 : Cond.eq (.field (sx_tm 8) "java/lang/String" "coder" "B") (.int 0) ∈ sx_fl := List.mem_of_getElem? (i := 328) (by decide +kernel)
theorem sx_in2_9 : Cond.eq (.field (sx_tm 9) "java/lang/String" "coder" "B") (.int 0) ∈ sx_fl := List.mem_of_getElem? (i := 342) (by decide +kernel)
theorem sx_in2_10 : Cond.eq (.field (sx_tm 10) "java/lang/String" "coder" "B") (.int 0) ∈ sx_fl := List.mem_of_getElem? (i := 356) (by decide +kernel)
theorem sx_in2_11 : Cond.eq (.field (sx_tm 11) "java/lang/String" "coder" "B") (.int 0) ∈ sx_fl := List.mem_of_getElem? (i := 371) (by decide +kernel)
theorem sx_in2_12 : Cond.eq (.field (sx_tm 12) "java/lang/String" "coder" "B") (.int 0) ∈ sx_fl := List.mem_of_getElem? (i := 387) (by decide +kernel)
theorem sx_in2_13 : Cond.eq (.field (sx_tm 13) "java/lang/String" "coder" "B") (.int 0) ∈ sx_fl := List.mem_of_getElem? (i := 403) (by decide +kernel)
theorem sx_in2_14 : Cond.eq (.field (sx_tm 14) "java/lang/String" "coder" "B") (.int 0) ∈ sx_fl := List.mem_of_getElem? (i := 422) (by decide +kernel)
theorem sx_in2_15 : Cond.eq (.field (sx_tm 15) "java/lang/String" "coder" "B") (.int 0) ∈ sx_fl := List.mem_of_getElem? (i := 444) (by decide +kernel)
theorem sx_in2_16 : Cond.eq (.field (sx_tm 16) "java/lang/String" "coder" "B") (.int 0) ∈ sx_fl := List.mem_of_getElem? (i := 465) (by decide +kernel)
theorem sx_in2_17 : Cond.eq (.field (sx_tm 17) "java/lang/String" "coder" "B") (.int 0) ∈ sx_fl := List.mem_of_getElem? (i := 489) (by decide +kernel)
theorem sx_in2_18 : Cond.eq (.field (sx_tm 18) "java/lang/String" "coder" "B") (.int 0) ∈ sx_fl := List.mem_of_getElem? (i := 516) (by decide +kernel)
theorem sx_in2 : ∀ i, i < 19 → Cond.eq (.field (sx_tm i) "java/lang/String" "coder" "B") (.int 0) ∈ sx_fl
  | 0, _ => sx_in2_0
  | 1, _ => sx_in2_1
  | 2, _ => sx_in2_2
  | 3, _ => sx_in2_3
  | 4, _ => sx_in2_4
  | 5, _ => sx_in2_5
  | 6, _ => sx_in2_6
  | 7, _ => sx_in2_7
  | 8, _ => sx_in2_8
  | 9, _ => sx_in2_9
  | 10, _ => sx_in2_10
  | 11, _ => sx_in2_11
  | 12, _ => sx_in2_12
  | 13, _ => sx_in2_13
  | 14, _ => sx_in2_14
  | 15, _ => sx_in2_15
  | 16, _ => sx_in2_16
  | 17, _ => sx_in2_17
  | 18, _ => sx_in2_18
  | n + 19, h => absurd h (by omega)
theorem sx_in3_0 : Cond.arrayOf (.field (sx_tm 0) "java/lang/String" "value" "[B") .byte ∈ sx_fl := List.mem_of_getElem? (i := 237) (by decide +kernel)
theorem sx_in3_1 : Cond.arrayOf (.field (sx_tm 1) "java/lang/String" "value" "[B") .byte ∈ sx_fl := List.mem_of_getElem? (i := 241) (by decide +kernel)
theorem sx_in3_2 : Cond.arrayOf (.field (sx_tm 2) "java/lang/String" "value" "[B") .byte ∈ sx_fl := List.mem_of_getElem? (i := 246) (by decide +kernel)
theorem sx_in3_3 : Cond.arrayOf (.field (sx_tm 3) "java/lang/String" "value" "[B") .byte ∈ sx_fl := List.mem_of_getElem? (i := 252) (by decide +kernel)
theorem sx_in3_4 : Cond.arrayOf (.field (sx_tm 4) "java/lang/String" "value" "[B") .byte ∈ sx_fl := List.mem_of_getElem? (i := 262) (by decide +kernel)
theorem sx_in3_5 : Cond.arrayOf (.field (sx_tm 5) "java/lang/String" "value" "[B") .byte ∈ sx_fl := List.mem_of_getElem? (i := 274) (by decide +kernel)
theorem sx_in3_6 : Cond.arrayOf (.field (sx_tm 6) "java/lang/String" "value" "[B") .byte ∈ sx_fl := List.mem_of_getElem? (i := 286) (by decide +kernel)
theorem sx_in3_7 : Cond.arrayOf (.field (sx_tm 7) "java/lang/String" "value" "[B") .byte ∈ sx_fl := List.mem_of_getElem? (i := 302) (by decide +kernel)
theorem sx_in3_8 : Cond.arrayOf (.field (sx_tm 8) "java/lang/String" "value" "[B") .byte ∈ sx_fl := List.mem_of_getElem? (i := 329) (by decide +kernel)
theorem sx_in3_9 : Cond.arrayOf (.field (sx_tm 9) "java/lang/String" "value" "[B") .byte ∈ sx_fl := List.mem_of_getElem? (i := 343) (by decide +kernel)
theorem sx_in3_10 : Cond.arrayOf (.field (sx_tm 10) "java/lang/String" "value" "[B") .byte ∈ sx_fl := List.mem_of_getElem? (i := 357) (by decide +kernel)
theorem sx_in3_11 : Cond.arrayOf (.field (sx_tm 11) "java/lang/String" "value" "[B") .byte ∈ sx_fl := List.mem_of_getElem? (i := 372) (by decide +kernel)
theorem sx_in3_12 : Cond.arrayOf (.field (sx_tm 12) "java/lang/String" "value" "[B") .byte ∈ sx_fl := List.mem_of_getElem? (i := 388) (by decide +kernel)
theorem sx_in3_13 : Cond.arrayOf (.field (sx_tm 13) "java/lang/String" "value" "[B") .byte ∈ sx_fl := List.mem_of_getElem? (i := 404) (by decide +kernel)
theorem sx_in3_14 : Cond.arrayOf (.field (sx_tm 14) "java/lang/String" "value" "[B") .byte ∈ sx_fl := List.mem_of_getElem? (i := 423) (by decide +kernel)
theorem sx_in3_15 : Cond.arrayOf (.field (sx_tm 15) "java/lang/String" "value" "[B") .byte ∈ sx_fl := List.mem_of_getElem? (i := 445) (by decide +kernel)
theorem sx_in3_16 : Cond.arrayOf (.field (sx_tm 16) "java/lang/String" "value" "[B") .byte ∈ sx_fl := List.mem_of_getElem? (i := 466) (by decide +kernel)
theorem sx_in3_17 : Cond.arrayOf (.field (sx_tm 17) "java/lang/String" "value" "[B") .byte ∈ sx_fl := List.mem_of_getElem? (i := 490) (by decide +kernel)
theorem sx_in3_18 : Cond.arrayOf (.field (sx_tm 18) "java/lang/String" "value" "[B") .byte ∈ sx_fl := List.mem_of_getElem? (i := 517) (by decide +kernel)
theorem sx_in3 : ∀ i, i < 19 → Cond.arrayOf (.field (sx_tm i) "java/lang/String" "value" "[B") .byte ∈ sx_fl
  | 0, _ => sx_in3_0
  | 1, _ => sx_in3_1
  | 2, _ => sx_in3_2
  | 3, _ => sx_in3_3
  | 4, _ => sx_in3_4
  | 5, _ => sx_in3_5
  | 6, _ => sx_in3_6
  | 7, _ => sx_in3_7
  | 8, _ => sx_in3_8
  | 9, _ => sx_in3_9
  | 10, _ => sx_in3_10
  | 11, _ => sx_in3_11
  | 12, _ => sx_in3_12
  | 13, _ => sx_in3_13
  | 14, _ => sx_in3_14
  | 15, _ => sx_in3_15
  | 16, _ => sx_in3_16
  | 17, _ => sx_in3_17
  | 18, _ => sx_in3_18
  | n + 19, h => absurd h (by omega)
theorem sx_in4_0 : Cond.eq (.length (.field (sx_tm 0) "java/lang/String" "value" "[B")) (.int (Int32.ofNat (sx_by 0).length)) ∈ sx_fl := List.mem_of_getElem? (i := 238) (by decide +kernel)
theorem sx_in4_1 : Cond.eq (.length (.field (sx_tm 1) "java/lang/String" "value" "[B")) (.int (Int32.ofNat (sx_by 1).length)) ∈ sx_fl := List.mem_of_getElem? (i := 242) (by decide +kernel)
theorem sx_in4_2 : Cond.eq (.length (.field (sx_tm 2) "java/lang/String" "value" "[B")) (.int (Int32.ofNat (sx_by 2).length)) ∈ sx_fl := List.mem_of_getElem? (i := 247) (by decide +kernel)
theorem sx_in4_3 : Cond.eq (.length (.field (sx_tm 3) "java/lang/String" "value" "[B")) (.int (Int32.ofNat (sx_by 3).length)) ∈ sx_fl := List.mem_of_getElem? (i := 253) (by decide +kernel)
theorem sx_in4_4 : Cond.eq (.length (.field (sx_tm 4) "java/lang/String" "value" "[B")) (.int (Int32.ofNat (sx_by 4).length)) ∈ sx_fl := List.mem_of_getElem? (i := 263) (by decide +kernel)
theorem sx_in4_5 : Cond.eq (.length (.field (sx_tm 5) "java/lang/String" "value" "[B")) (.int (Int32.ofNat (sx_by 5).length)) ∈ sx_fl := List.mem_of_getElem? (i := 275) (by decide +kernel)
theorem sx_in4_6 : Cond.eq (.length (.field (sx_tm 6) "java/lang/String" "value" "[B")) (.int (Int32.ofNat (sx_by 6).length)) ∈ sx_fl := List.mem_of_getElem? (i := 287) (by decide +kernel)
theorem sx_in4_7 : Cond.eq (.length (.field (sx_tm 7) "java/lang/String" "value" "[B")) (.int (Int32.ofNat (sx_by 7).length)) ∈ sx_fl := List.mem_of_getElem? (i := 303) (by decide +kernel)
theorem sx_in4_8 : Cond.eq (.length (.field (sx_tm 8) "java/lang/String" "value" "[B")) (.int (Int32.ofNat (sx_by 8).length)) ∈ sx_fl := List.mem_of_getElem? (i := 330) (by decide +kernel)
theorem sx_in4_9 : Cond.eq (.length (.field (sx_tm 9) "java/lang/String" "value" "[B")) (.int (Int32.ofNat (sx_by 9).length)) ∈ sx_fl := List.mem_of_getElem? (i := 344) (by decide +kernel)
theorem sx_in4_10 : Cond.eq (.length (.field (sx_tm 10) "java/lang/String" "value" "[B")) (.int (Int32.ofNat (sx_by 10).length)) ∈ sx_fl := List.mem_of_getElem? (i := 358) (by decide +kernel)
theorem sx_in4_11 : Cond.eq (.length (.field (sx_tm 11) "java/lang/String" "value" "[B")) (.int (Int32.ofNat (sx_by 11).length)) ∈ sx_fl := List.mem_of_getElem? (i := 373) (by decide +kernel)
theorem sx_in4_12 : Cond.eq (.length (.field (sx_tm 12) "java/lang/String" "value" "[B")) (.int (Int32.ofNat (sx_by 12).length)) ∈ sx_fl := List.mem_of_getElem? (i := 389) (by decide +kernel)
theorem sx_in4_13 : Cond.eq (.length (.field (sx_tm 13) "java/lang/String" "value" "[B")) (.int (Int32.ofNat (sx_by 13).length)) ∈ sx_fl := List.mem_of_getElem? (i := 405) (by decide +kernel)
theorem sx_in4_14 : Cond.eq (.length (.field (sx_tm 14) "java/lang/String" "value" "[B")) (.int (Int32.ofNat (sx_by 14).length)) ∈ sx_fl := List.mem_of_getElem? (i := 424) (by decide +kernel)
theorem sx_in4_15 : Cond.eq (.length (.field (sx_tm 15) "java/lang/String" "value" "[B")) (.int (Int32.ofNat (sx_by 15).length)) ∈ sx_fl := List.mem_of_getElem? (i := 446) (by decide +kernel)
theorem sx_in4_16 : Cond.eq (.length (.field (sx_tm 16) "java/lang/String" "value" "[B")) (.int (Int32.ofNat (sx_by 16).length)) ∈ sx_fl := List.mem_of_getElem? (i := 467) (by decide +kernel)
theorem sx_in4_17 : Cond.eq (.length (.field (sx_tm 17) "java/lang/String" "value" "[B")) (.int (Int32.ofNat (sx_by 17).length)) ∈ sx_fl := List.mem_of_getElem? (i := 491) (by decide +kernel)
theorem sx_in4_18 : Cond.eq (.length (.field (sx_tm 18) "java/lang/String" "value" "[B")) (.int (Int32.ofNat (sx_by 18).length)) ∈ sx_fl := List.mem_of_getElem? (i := 518) (by decide +kernel)
theorem sx_in4 : ∀ i, i < 19 → Cond.eq (.length (.field (sx_tm i) "java/lang/String" "value" "[B")) (.int (Int32.ofNat (sx_by i).length)) ∈ sx_fl
  | 0, _ => sx_in4_0
  | 1, _ => sx_in4_1
  | 2, _ => sx_in4_2
  | 3, _ => sx_in4_3
  | 4, _ => sx_in4_4
  | 5, _ => sx_in4_5
  | 6, _ => sx_in4_6
  | 7, _ => sx_in4_7
  | 8, _ => sx_in4_8
  | 9, _ => sx_in4_9
  | 10, _ => sx_in4_10
  | 11, _ => sx_in4_11
  | 12, _ => sx_in4_12
  | 13, _ => sx_in4_13
  | 14, _ => sx_in4_14
  | 15, _ => sx_in4_15
  | 16, _ => sx_in4_16
  | 17, _ => sx_in4_17
  | 18, _ => sx_in4_18
  | n + 19, h => absurd h (by omega)
theorem sx_in5_0 : ∀ j, j < (sx_by 0).length → Cond.eq (.elem (.field (sx_tm 0) "java/lang/String" "value" "[B") (.int (Int32.ofNat j))) (.int ((sx_by 0).getD j 0)) ∈ sx_fl := fun j h => absurd h (Nat.not_lt_zero _)
theorem sx_in5_1 : ∀ j, j < (sx_by 1).length → Cond.eq (.elem (.field (sx_tm 1) "java/lang/String" "value" "[B") (.int (Int32.ofNat j))) (.int ((sx_by 1).getD j 0)) ∈ sx_fl := fun j h => absurd h (Nat.not_lt_zero _)
theorem sx_in5_2 : ∀ j, j < (sx_by 2).length → Cond.eq (.elem (.field (sx_tm 2) "java/lang/String" "value" "[B") (.int (Int32.ofNat j))) (.int ((sx_by 2).getD j 0)) ∈ sx_fl := fun j h => absurd h (Nat.not_lt_zero _)
theorem sx_in5_3 : ∀ j, j < (sx_by 3).length → Cond.eq (.elem (.field (sx_tm 3) "java/lang/String" "value" "[B") (.int (Int32.ofNat j))) (.int ((sx_by 3).getD j 0)) ∈ sx_fl := va_run (L := sx_fl) (N := 3) (p := 254) (f := fun j => Cond.eq (.elem (.field (sx_tm 3) "java/lang/String" "value" "[B") (.int (Int32.ofNat j))) (.int ((sx_by 3).getD j 0))) (by decide +kernel)
theorem sx_in5_4 : ∀ j, j < (sx_by 4).length → Cond.eq (.elem (.field (sx_tm 4) "java/lang/String" "value" "[B") (.int (Int32.ofNat j))) (.int ((sx_by 4).getD j 0)) ∈ sx_fl := va_run (L := sx_fl) (N := 4) (p := 264) (f := fun j => Cond.eq (.elem (.field (sx_tm 4) "java/lang/String" "value" "[B") (.int (Int32.ofNat j))) (.int ((sx_by 4).getD j 0))) (by decide +kernel)
theorem sx_in5_5 : ∀ j, j < (sx_by 5).length → Cond.eq (.elem (.field (sx_tm 5) "java/lang/String" "value" "[B") (.int (Int32.ofNat j))) (.int ((sx_by 5).getD j 0)) ∈ sx_fl := va_run (L := sx_fl) (N := 3) (p := 276) (f := fun j => Cond.eq (.elem (.field (sx_tm 5) "java/lang/String" "value" "[B") (.int (Int32.ofNat j))) (.int ((sx_by 5).getD j 0))) (by decide +kernel)
theorem sx_in5_6 : ∀ j, j < (sx_by 6).length → Cond.eq (.elem (.field (sx_tm 6) "java/lang/String" "value" "[B") (.int (Int32.ofNat j))) (.int ((sx_by 6).getD j 0)) ∈ sx_fl := va_run (L := sx_fl) (N := 6) (p := 288) (f := fun j => Cond.eq (.elem (.field (sx_tm 6) "java/lang/String" "value" "[B") (.int (Int32.ofNat j))) (.int ((sx_by 6).getD j 0))) (by decide +kernel)
theorem sx_in5_7 : ∀ j, j < (sx_by 7).length → Cond.eq (.elem (.field (sx_tm 7) "java/lang/String" "value" "[B") (.int (Int32.ofNat j))) (.int ((sx_by 7).getD j 0)) ∈ sx_fl := va_run (L := sx_fl) (N := 16) (p := 304) (f := fun j => Cond.eq (.elem (.field (sx_tm 7) "java/lang/String" "value" "[B") (.int (Int32.ofNat j))) (.int ((sx_by 7).getD j 0))) (by decide +kernel)
theorem sx_in5_8 : ∀ j, j < (sx_by 8).length → Cond.eq (.elem (.field (sx_tm 8) "java/lang/String" "value" "[B") (.int (Int32.ofNat j))) (.int ((sx_by 8).getD j 0)) ∈ sx_fl := va_run (L := sx_fl) (N := 2) (p := 331) (f := fun j => Cond.eq (.elem (.field (sx_tm 8) "java/lang/String" "value" "[B") (.int (Int32.ofNat j))) (.int ((sx_by 8).getD j 0))) (by decide +kernel)
theorem sx_in5_9 : ∀ j, j < (sx_by 9).length → Cond.eq (.elem (.field (sx_tm 9) "java/lang/String" "value" "[B") (.int (Int32.ofNat j))) (.int ((sx_by 9).getD j 0)) ∈ sx_fl := va_run (L := sx_fl) (N := 1) (p := 345) (f := fun j => Cond.eq (.elem (.field (sx_tm 9) "java/lang/String" "value" "[B") (.int (Int32.ofNat j))) (.int ((sx_by 9).getD j 0))) (by decide +kernel)
theorem sx_in5_10 : ∀ j, j < (sx_by 10).length → Cond.eq (.elem (.field (sx_tm 10) "java/lang/String" "value" "[B") (.int (Int32.ofNat j))) (.int ((sx_by 10).getD j 0)) ∈ sx_fl := va_run (L := sx_fl) (N := 1) (p := 359) (f := fun j => Cond.eq (.elem (.field (sx_tm 10) "java/lang/String" "value" "[B") (.int (Int32.ofNat j))) (.int ((sx_by 10).getD j 0))) (by decide +kernel)
theorem sx_in5_11 : ∀ j, j < (sx_by 11).length → Cond.eq (.elem (.field (sx_tm 11) "java/lang/String" "value" "[B") (.int (Int32.ofNat j))) (.int ((sx_by 11).getD j 0)) ∈ sx_fl := va_run (L := sx_fl) (N := 1) (p := 374) (f := fun j => Cond.eq (.elem (.field (sx_tm 11) "java/lang/String" "value" "[B") (.int (Int32.ofNat j))) (.int ((sx_by 11).getD j 0))) (by decide +kernel)
theorem sx_in5_12 : ∀ j, j < (sx_by 12).length → Cond.eq (.elem (.field (sx_tm 12) "java/lang/String" "value" "[B") (.int (Int32.ofNat j))) (.int ((sx_by 12).getD j 0)) ∈ sx_fl := fun j h => absurd h (Nat.not_lt_zero _)
theorem sx_in5_13 : ∀ j, j < (sx_by 13).length → Cond.eq (.elem (.field (sx_tm 13) "java/lang/String" "value" "[B") (.int (Int32.ofNat j))) (.int ((sx_by 13).getD j 0)) ∈ sx_fl := va_run (L := sx_fl) (N := 2) (p := 406) (f := fun j => Cond.eq (.elem (.field (sx_tm 13) "java/lang/String" "value" "[B") (.int (Int32.ofNat j))) (.int ((sx_by 13).getD j 0))) (by decide +kernel)
theorem sx_in5_14 : ∀ j, j < (sx_by 14).length → Cond.eq (.elem (.field (sx_tm 14) "java/lang/String" "value" "[B") (.int (Int32.ofNat j))) (.int ((sx_by 14).getD j 0)) ∈ sx_fl := va_run (L := sx_fl) (N := 4) (p := 425) (f := fun j => Cond.eq (.elem (.field (sx_tm 14) "java/lang/String" "value" "[B") (.int (Int32.ofNat j))) (.int ((sx_by 14).getD j 0))) (by decide +kernel)
theorem sx_in5_15 : ∀ j, j < (sx_by 15).length → Cond.eq (.elem (.field (sx_tm 15) "java/lang/String" "value" "[B") (.int (Int32.ofNat j))) (.int ((sx_by 15).getD j 0)) ∈ sx_fl := va_run (L := sx_fl) (N := 2) (p := 447) (f := fun j => Cond.eq (.elem (.field (sx_tm 15) "java/lang/String" "value" "[B") (.int (Int32.ofNat j))) (.int ((sx_by 15).getD j 0))) (by decide +kernel)
theorem sx_in5_16 : ∀ j, j < (sx_by 16).length → Cond.eq (.elem (.field (sx_tm 16) "java/lang/String" "value" "[B") (.int (Int32.ofNat j))) (.int ((sx_by 16).getD j 0)) ∈ sx_fl := va_run (L := sx_fl) (N := 4) (p := 468) (f := fun j => Cond.eq (.elem (.field (sx_tm 16) "java/lang/String" "value" "[B") (.int (Int32.ofNat j))) (.int ((sx_by 16).getD j 0))) (by decide +kernel)
theorem sx_in5_17 : ∀ j, j < (sx_by 17).length → Cond.eq (.elem (.field (sx_tm 17) "java/lang/String" "value" "[B") (.int (Int32.ofNat j))) (.int ((sx_by 17).getD j 0)) ∈ sx_fl := va_run (L := sx_fl) (N := 6) (p := 492) (f := fun j => Cond.eq (.elem (.field (sx_tm 17) "java/lang/String" "value" "[B") (.int (Int32.ofNat j))) (.int ((sx_by 17).getD j 0))) (by decide +kernel)
theorem sx_in5_18 : ∀ j, j < (sx_by 18).length → Cond.eq (.elem (.field (sx_tm 18) "java/lang/String" "value" "[B") (.int (Int32.ofNat j))) (.int ((sx_by 18).getD j 0)) ∈ sx_fl := va_run (L := sx_fl) (N := 2) (p := 519) (f := fun j => Cond.eq (.elem (.field (sx_tm 18) "java/lang/String" "value" "[B") (.int (Int32.ofNat j))) (.int ((sx_by 18).getD j 0))) (by decide +kernel)
theorem sx_in5 : ∀ i, i < 19 → ∀ j, j < (sx_by i).length → Cond.eq (.elem (.field (sx_tm i) "java/lang/String" "value" "[B") (.int (Int32.ofNat j))) (.int ((sx_by i).getD j 0)) ∈ sx_fl
  | 0, _ => sx_in5_0
  | 1, _ => sx_in5_1
  | 2, _ => sx_in5_2
  | 3, _ => sx_in5_3
  | 4, _ => sx_in5_4
  | 5, _ => sx_in5_5
  | 6, _ => sx_in5_6
  | 7, _ => sx_in5_7
  | 8, _ => sx_in5_8
  | 9, _ => sx_in5_9
  | 10, _ => sx_in5_10
  | 11, _ => sx_in5_11
  | 12, _ => sx_in5_12
  | 13, _ => sx_in5_13
  | 14, _ => sx_in5_14
  | 15, _ => sx_in5_15
  | 16, _ => sx_in5_16
  | 17, _ => sx_in5_17
  | 18, _ => sx_in5_18
  | n + 19, h => absurd h (by omega)
theorem sx_in6 : ∀ i, i < 19 → (sx_by i).length < 2 ^ 31 := by decide
def sx_on : Term := Term.static "java/lang/Integer" "DigitOnes" "[B"
def sx_te : Term := Term.static "java/lang/Integer" "DigitTens" "[B"
def sx_dc : Term := Term.static "java/util/ArrayList" "DEFAULTCAPACITY_EMPTY_ELEMENTDATA" "[Ljava/lang/Object;"
theorem sx_on1 : ∀ j, j < 100 → Cond.eq (.elem sx_on (.int (Int32.ofNat j))) (.int (Int32.ofNat (48 + j % 10))) ∈ sx_fl := va_run (L := sx_fl) (p := 16) (f := fun j => Cond.eq (.elem sx_on (.int (Int32.ofNat j))) (.int (Int32.ofNat (48 + j % 10)))) (by decide +kernel)
theorem sx_te1 : ∀ j, j < 100 → Cond.eq (.elem sx_te (.int (Int32.ofNat j))) (.int (Int32.ofNat (48 + j / 10))) ∈ sx_fl := va_run (L := sx_fl) (p := 119) (f := fun j => Cond.eq (.elem sx_te (.int (Int32.ofNat j))) (.int (Int32.ofNat (48 + j / 10)))) (by decide +kernel)

set_option maxRecDepth 100000 in
theorem sx_ar1 : Cond.arrayOf sx_on .byte ∈ sx_fl ∧ Cond.eq (.length sx_on) (.int 100) ∈ sx_fl ∧ Cond.arrayOf sx_te .byte ∈ sx_fl ∧ Cond.eq (.length sx_te) (.int 100) ∈ sx_fl ∧ Cond.arrayOf sx_dc (.object "java/lang/Object") ∈ sx_fl ∧ Cond.eq (.length sx_dc) (.int 0) ∈ sx_fl := by decide +kernel

