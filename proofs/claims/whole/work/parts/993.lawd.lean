/-! the law's own instructions and links (by program) -/
def lw_seg (pc j : Nat) : Prop := decode code pc = .ok (.aload_n 0, 1) ∧ decode code (pc + 1) = .ok (.iload_n 3, 1) ∧ decode code (pc + 2) = .ok (.iconst ((j : Int) + 1), 1) ∧ decode code (pc + 3) = .ok (.iadd, 1) ∧ decode code (pc + 4) = .ok (.iaload, 1)
def lw_cd (n pc ix1 ix2 : Nat) (off : Int) : Prop := decode code pc = .ok (.aload_n 1, 1) ∧ (∀ j, j < n → lw_seg (pc + 1 + 5 * j) j) ∧ decode code (pc + 1 + 5 * n) = .ok (.invokevirtual ix1, 3) ∧ decode code (pc + 1 + 5 * n + 3) = .ok (.aload_n 2, 1) ∧ (∀ j, j < n → lw_seg (pc + 1 + 5 * n + 3 + 1 + 5 * j) j) ∧ decode code (pc + 1 + 5 * n + 3 + 1 + 5 * n) = .ok (.invokevirtual ix2, 3) ∧ decode code (pc + 1 + 5 * n + 3 + 1 + 5 * n + 3) = .ok (.if_icmp .eq off, 3) ∧ ((pc + 1 + 5 * n + 3 + 1 + 5 * n + 3 : Nat) : Int) + off = ((577 : Nat) : Int)
def lw_ok (n k ci : Nat) : Prop := k < 146 ∧ x_sL.getD k 0 = 0 ∧ x_iL.getD k 0 = 0 ∧ (x_m k).2.2.2 = ci ∧ x_nA.getD k 0 = n
theorem lw_d0 : decode code 0 = .ok (.new 7, 3) := by decide +kernel
theorem lw_d3 : decode code 3 = .ok (.dup, 1) := by decide +kernel
theorem lw_d4 : decode code 4 = .ok (.invokespecial 9, 3) := by decide +kernel
theorem lw_d7 : decode code 7 = .ok (.astore_n 1, 1) := by decide +kernel
theorem lw_d8 : decode code 8 = .ok (.new 10, 3) := by decide +kernel
theorem lw_d11 : decode code 11 = .ok (.dup, 1) := by decide +kernel
theorem lw_d12 : decode code 12 = .ok (.invokespecial 12, 3) := by decide +kernel
theorem lw_d15 : decode code 15 = .ok (.astore_n 2, 1) := by decide +kernel
theorem lw_d16 : decode code 16 = .ok (.iconst 0, 1) := by decide +kernel
theorem lw_d17 : decode code 17 = .ok (.istore_n 3, 1) := by decide +kernel
theorem lw_d18 : decode code 18 = .ok (.iload_n 3, 1) := by decide +kernel
theorem lw_d19 : decode code 19 = .ok (.aload_n 0, 1) := by decide +kernel
theorem lw_d20 : decode code 20 = .ok (.arraylength, 1) := by decide +kernel
theorem lw_d21 : decode code 21 = .ok (.iconst 4, 1) := by decide +kernel
theorem lw_d22 : decode code 22 = .ok (.isub, 1) := by decide +kernel
theorem lw_d23 : decode code 23 = .ok (.if_icmp .gt (560), 3) := by decide +kernel
theorem lw_d26 : decode code 26 = .ok (.aload_n 0, 1) := by decide +kernel
theorem lw_d27 : decode code 27 = .ok (.iload_n 3, 1) := by decide +kernel
theorem lw_d28 : decode code 28 = .ok (.iaload, 1) := by decide +kernel
theorem lw_d29 : decode code 29 = .ok (.bipush 31, 2) := by decide +kernel
theorem lw_d31 : decode code 31 = .ok (.iand, 1) := by decide +kernel
theorem lw_d32 : decode code 32 = .ok (.tableswitch (545) 0 16 #[84, 127, 160, 183, 206, 229, 252, 275, 298, 321, 354, 367, 400, 433, 466, 499, 522], 84) := by decide +kernel
theorem lw_d577 : decode code 577 = .ok (.iinc 3 4, 3) := by decide +kernel
theorem lw_d580 : decode code 580 = .ok (.goto (-562), 3) := by decide +kernel
theorem lw_d583 : decode code 583 = .ok (.iconst 1, 1) := by decide +kernel
theorem lw_d584 : decode code 584 = .ok (.ireturn, 1) := by decide +kernel
theorem lw_kn1 : Cond.classLink R_law 7 (xR 9) ∈ x_ws := x_wi (x_e1 16 rfl) rfl
theorem lw_kn2 : Cond.classLink R_law 10 (xR 10) ∈ x_ws := x_wi (x_e3 178 rfl) rfl
theorem lw_ki1 : Cond.methodLink R_law 9 (x_m 73).1 ∈ x_ws := x_wi (x_e1 18 rfl) rfl
theorem lw_ki2 : Cond.methodLink R_law 12 (x_m 95).1 ∈ x_ws := x_wi (x_e3 180 rfl) rfl
set_option maxRecDepth 20000 in
theorem lw_c0 : lw_cd 3 116 13 17 (423) := ⟨by decide +kernel, (fun j hj => match j, hj with | 0, _ => ⟨by decide +kernel, by decide +kernel, by decide +kernel, by decide +kernel, by decide +kernel⟩ | 1, _ => ⟨by decide +kernel, by decide +kernel, by decide +kernel, by decide +kernel, by decide +kernel⟩ | 2, _ => ⟨by decide +kernel, by decide +kernel, by decide +kernel, by decide +kernel, by decide +kernel⟩), by decide +kernel, by decide +kernel, (fun j hj => match j, hj with | 0, _ => ⟨by decide +kernel, by decide +kernel, by decide +kernel, by decide +kernel, by decide +kernel⟩ | 1, _ => ⟨by decide +kernel, by decide +kernel, by decide +kernel, by decide +kernel, by decide +kernel⟩ | 2, _ => ⟨by decide +kernel, by decide +kernel, by decide +kernel, by decide +kernel, by decide +kernel⟩), by decide +kernel, by decide +kernel, by decide +kernel⟩
theorem lw_a0 : Cond.methodLink R_law 13 (x_m 74).1 ∈ x_ws := x_wi (x_e1 199 rfl) rfl
theorem lw_b0 : Cond.methodLink R_law 17 (x_m 96).1 ∈ x_ws := x_wi (x_e4 72 rfl) rfl
theorem lw_o74 : lw_ok 3 74 9 := by unfold lw_ok; decide +kernel
theorem lw_o96 : lw_ok 3 96 10 := by unfold lw_ok; decide +kernel
set_option maxRecDepth 20000 in
theorem lw_c1 : lw_cd 2 159 18 22 (390) := ⟨by decide +kernel, (fun j hj => match j, hj with | 0, _ => ⟨by decide +kernel, by decide +kernel, by decide +kernel, by decide +kernel, by decide +kernel⟩ | 1, _ => ⟨by decide +kernel, by decide +kernel, by decide +kernel, by decide +kernel, by decide +kernel⟩), by decide +kernel, by decide +kernel, (fun j hj => match j, hj with | 0, _ => ⟨by decide +kernel, by decide +kernel, by decide +kernel, by decide +kernel, by decide +kernel⟩ | 1, _ => ⟨by decide +kernel, by decide +kernel, by decide +kernel, by decide +kernel, by decide +kernel⟩), by decide +kernel, by decide +kernel, by decide +kernel⟩
theorem lw_a1 : Cond.methodLink R_law 18 (x_m 76).1 ∈ x_ws := x_wi (x_e2 3 rfl) rfl
theorem lw_b1 : Cond.methodLink R_law 22 (x_m 98).1 ∈ x_ws := x_wi (x_e4 79 rfl) rfl
theorem lw_o76 : lw_ok 2 76 9 := by unfold lw_ok; decide +kernel
theorem lw_o98 : lw_ok 2 98 10 := by unfold lw_ok; decide +kernel
set_option maxRecDepth 20000 in
theorem lw_c2 : lw_cd 1 192 23 27 (367) := ⟨by decide +kernel, (fun j hj => match j, hj with | 0, _ => ⟨by decide +kernel, by decide +kernel, by decide +kernel, by decide +kernel, by decide +kernel⟩), by decide +kernel, by decide +kernel, (fun j hj => match j, hj with | 0, _ => ⟨by decide +kernel, by decide +kernel, by decide +kernel, by decide +kernel, by decide +kernel⟩), by decide +kernel, by decide +kernel, by decide +kernel⟩
theorem lw_a2 : Cond.methodLink R_law 23 (x_m 80).1 ∈ x_ws := x_wi (x_e2 147 rfl) rfl
theorem lw_b2 : Cond.methodLink R_law 27 (x_m 112).1 ∈ x_ws := x_wi (x_e4 133 rfl) rfl
theorem lw_o80 : lw_ok 1 80 9 := by unfold lw_ok; decide +kernel
theorem lw_o112 : lw_ok 1 112 10 := by unfold lw_ok; decide +kernel
set_option maxRecDepth 20000 in
theorem lw_c3 : lw_cd 1 215 28 31 (344) := ⟨by decide +kernel, (fun j hj => match j, hj with | 0, _ => ⟨by decide +kernel, by decide +kernel, by decide +kernel, by decide +kernel, by decide +kernel⟩), by decide +kernel, by decide +kernel, (fun j hj => match j, hj with | 0, _ => ⟨by decide +kernel, by decide +kernel, by decide +kernel, by decide +kernel, by decide +kernel⟩), by decide +kernel, by decide +kernel, by decide +kernel⟩
theorem lw_a3 : Cond.methodLink R_law 28 (x_m 81).1 ∈ x_ws := x_wi (x_e2 211 rfl) rfl
theorem lw_b3 : Cond.methodLink R_law 31 (x_m 114).1 ∈ x_ws := x_wi (x_e4 142 rfl) rfl
theorem lw_o81 : lw_ok 1 81 9 := by unfold lw_ok; decide +kernel
theorem lw_o114 : lw_ok 1 114 10 := by unfold lw_ok; decide +kernel
set_option maxRecDepth 20000 in
theorem lw_c4 : lw_cd 1 238 32 36 (321) := ⟨by decide +kernel, (fun j hj => match j, hj with | 0, _ => ⟨by decide +kernel, by decide +kernel, by decide +kernel, by decide +kernel, by decide +kernel⟩), by decide +kernel, by decide +kernel, (fun j hj => match j, hj with | 0, _ => ⟨by decide +kernel, by decide +kernel, by decide +kernel, by decide +kernel, by decide +kernel⟩), by decide +kernel, by decide +kernel, by decide +kernel⟩
theorem lw_a4 : Cond.methodLink R_law 32 (x_m 82).1 ∈ x_ws := x_wi (x_e3 84 rfl) rfl
theorem lw_b4 : Cond.methodLink R_law 36 (x_m 127).1 ∈ x_ws := x_wi (x_e4 194 rfl) rfl
theorem lw_o82 : lw_ok 1 82 9 := by unfold lw_ok; decide +kernel
theorem lw_o127 : lw_ok 1 127 10 := by unfold lw_ok; decide +kernel
set_option maxRecDepth 20000 in
theorem lw_c5 : lw_cd 1 261 37 40 (298) := ⟨by decide +kernel, (fun j hj => match j, hj with | 0, _ => ⟨by decide +kernel, by decide +kernel, by decide +kernel, by decide +kernel, by decide +kernel⟩), by decide +kernel, by decide +kernel, (fun j hj => match j, hj with | 0, _ => ⟨by decide +kernel, by decide +kernel, by decide +kernel, by decide +kernel, by decide +kernel⟩), by decide +kernel, by decide +kernel, by decide +kernel⟩
theorem lw_a5 : Cond.methodLink R_law 37 (x_m 83).1 ∈ x_ws := x_wi (x_e3 88 rfl) rfl
theorem lw_b5 : Cond.methodLink R_law 40 (x_m 128).1 ∈ x_ws := x_wi (x_e4 198 rfl) rfl
theorem lw_o83 : lw_ok 1 83 9 := by unfold lw_ok; decide +kernel
theorem lw_o128 : lw_ok 1 128 10 := by unfold lw_ok; decide +kernel
set_option maxRecDepth 20000 in
theorem lw_c6 : lw_cd 1 284 41 44 (275) := ⟨by decide +kernel, (fun j hj => match j, hj with | 0, _ => ⟨by decide +kernel, by decide +kernel, by decide +kernel, by decide +kernel, by decide +kernel⟩), by decide +kernel, by decide +kernel, (fun j hj => match j, hj with | 0, _ => ⟨by decide +kernel, by decide +kernel, by decide +kernel, by decide +kernel, by decide +kernel⟩), by decide +kernel, by decide +kernel, by decide +kernel⟩
theorem lw_a6 : Cond.methodLink R_law 41 (x_m 84).1 ∈ x_ws := x_wi (x_e3 94 rfl) rfl
theorem lw_b6 : Cond.methodLink R_law 44 (x_m 129).1 ∈ x_ws := x_wi (x_e4 202 rfl) rfl
theorem lw_o84 : lw_ok 1 84 9 := by unfold lw_ok; decide +kernel
theorem lw_o129 : lw_ok 1 129 10 := by unfold lw_ok; decide +kernel
set_option maxRecDepth 20000 in
theorem lw_c7 : lw_cd 1 307 45 48 (252) := ⟨by decide +kernel, (fun j hj => match j, hj with | 0, _ => ⟨by decide +kernel, by decide +kernel, by decide +kernel, by decide +kernel, by decide +kernel⟩), by decide +kernel, by decide +kernel, (fun j hj => match j, hj with | 0, _ => ⟨by decide +kernel, by decide +kernel, by decide +kernel, by decide +kernel, by decide +kernel⟩), by decide +kernel, by decide +kernel, by decide +kernel⟩
theorem lw_a7 : Cond.methodLink R_law 45 (x_m 85).1 ∈ x_ws := x_wi (x_e3 106 rfl) rfl
theorem lw_b7 : Cond.methodLink R_law 48 (x_m 130).1 ∈ x_ws := x_wi (x_e4 206 rfl) rfl
theorem lw_o85 : lw_ok 1 85 9 := by unfold lw_ok; decide +kernel
theorem lw_o130 : lw_ok 1 130 10 := by unfold lw_ok; decide +kernel
set_option maxRecDepth 20000 in
theorem lw_c8 : lw_cd 1 330 49 52 (229) := ⟨by decide +kernel, (fun j hj => match j, hj with | 0, _ => ⟨by decide +kernel, by decide +kernel, by decide +kernel, by decide +kernel, by decide +kernel⟩), by decide +kernel, by decide +kernel, (fun j hj => match j, hj with | 0, _ => ⟨by decide +kernel, by decide +kernel, by decide +kernel, by decide +kernel, by decide +kernel⟩), by decide +kernel, by decide +kernel, by decide +kernel⟩
theorem lw_a8 : Cond.methodLink R_law 49 (x_m 86).1 ∈ x_ws := x_wi (x_e3 110 rfl) rfl
theorem lw_b8 : Cond.methodLink R_law 52 (x_m 131).1 ∈ x_ws := x_wi (x_e4 210 rfl) rfl
theorem lw_o86 : lw_ok 1 86 9 := by unfold lw_ok; decide +kernel
theorem lw_o131 : lw_ok 1 131 10 := by unfold lw_ok; decide +kernel
set_option maxRecDepth 20000 in
theorem lw_c9 : lw_cd 2 353 53 57 (196) := ⟨by decide +kernel, (fun j hj => match j, hj with | 0, _ => ⟨by decide +kernel, by decide +kernel, by decide +kernel, by decide +kernel, by decide +kernel⟩ | 1, _ => ⟨by decide +kernel, by decide +kernel, by decide +kernel, by decide +kernel, by decide +kernel⟩), by decide +kernel, by decide +kernel, (fun j hj => match j, hj with | 0, _ => ⟨by decide +kernel, by decide +kernel, by decide +kernel, by decide +kernel, by decide +kernel⟩ | 1, _ => ⟨by decide +kernel, by decide +kernel, by decide +kernel, by decide +kernel, by decide +kernel⟩), by decide +kernel, by decide +kernel, by decide +kernel⟩
theorem lw_a9 : Cond.methodLink R_law 53 (x_m 87).1 ∈ x_ws := x_wi (x_e3 115 rfl) rfl
theorem lw_b9 : Cond.methodLink R_law 57 (x_m 132).1 ∈ x_ws := x_wi (x_e4 214 rfl) rfl
theorem lw_o87 : lw_ok 2 87 9 := by unfold lw_ok; decide +kernel
theorem lw_o132 : lw_ok 2 132 10 := by unfold lw_ok; decide +kernel
set_option maxRecDepth 20000 in
theorem lw_c10 : lw_cd 0 386 58 62 (183) := ⟨by decide +kernel, (fun j hj => absurd hj (Nat.not_lt_zero j)), by decide +kernel, by decide +kernel, (fun j hj => absurd hj (Nat.not_lt_zero j)), by decide +kernel, by decide +kernel, by decide +kernel⟩
theorem lw_a10 : Cond.methodLink R_law 58 (x_m 88).1 ∈ x_ws := x_wi (x_e3 121 rfl) rfl
theorem lw_b10 : Cond.methodLink R_law 62 (x_m 133).1 ∈ x_ws := x_wi (x_e4 218 rfl) rfl
theorem lw_o88 : lw_ok 0 88 9 := by unfold lw_ok; decide +kernel
theorem lw_o133 : lw_ok 0 133 10 := by unfold lw_ok; decide +kernel
set_option maxRecDepth 20000 in
theorem lw_c11 : lw_cd 2 399 63 66 (150) := ⟨by decide +kernel, (fun j hj => match j, hj with | 0, _ => ⟨by decide +kernel, by decide +kernel, by decide +kernel, by decide +kernel, by decide +kernel⟩ | 1, _ => ⟨by decide +kernel, by decide +kernel, by decide +kernel, by decide +kernel, by decide +kernel⟩), by decide +kernel, by decide +kernel, (fun j hj => match j, hj with | 0, _ => ⟨by decide +kernel, by decide +kernel, by decide +kernel, by decide +kernel, by decide +kernel⟩ | 1, _ => ⟨by decide +kernel, by decide +kernel, by decide +kernel, by decide +kernel, by decide +kernel⟩), by decide +kernel, by decide +kernel, by decide +kernel⟩
theorem lw_a11 : Cond.methodLink R_law 63 (x_m 89).1 ∈ x_ws := x_wi (x_e3 125 rfl) rfl
theorem lw_b11 : Cond.methodLink R_law 66 (x_m 134).1 ∈ x_ws := x_wi (x_e4 222 rfl) rfl
theorem lw_o89 : lw_ok 2 89 9 := by unfold lw_ok; decide +kernel
theorem lw_o134 : lw_ok 2 134 10 := by unfold lw_ok; decide +kernel
set_option maxRecDepth 20000 in
theorem lw_c12 : lw_cd 2 432 67 70 (117) := ⟨by decide +kernel, (fun j hj => match j, hj with | 0, _ => ⟨by decide +kernel, by decide +kernel, by decide +kernel, by decide +kernel, by decide +kernel⟩ | 1, _ => ⟨by decide +kernel, by decide +kernel, by decide +kernel, by decide +kernel, by decide +kernel⟩), by decide +kernel, by decide +kernel, (fun j hj => match j, hj with | 0, _ => ⟨by decide +kernel, by decide +kernel, by decide +kernel, by decide +kernel, by decide +kernel⟩ | 1, _ => ⟨by decide +kernel, by decide +kernel, by decide +kernel, by decide +kernel, by decide +kernel⟩), by decide +kernel, by decide +kernel, by decide +kernel⟩
theorem lw_a12 : Cond.methodLink R_law 67 (x_m 90).1 ∈ x_ws := x_wi (x_e3 148 rfl) rfl
theorem lw_b12 : Cond.methodLink R_law 70 (x_m 136).1 ∈ x_ws := x_wi (x_e4 230 rfl) rfl
theorem lw_o90 : lw_ok 2 90 9 := by unfold lw_ok; decide +kernel
theorem lw_o136 : lw_ok 2 136 10 := by unfold lw_ok; decide +kernel
set_option maxRecDepth 20000 in
theorem lw_c13 : lw_cd 2 465 71 74 (84) := ⟨by decide +kernel, (fun j hj => match j, hj with | 0, _ => ⟨by decide +kernel, by decide +kernel, by decide +kernel, by decide +kernel, by decide +kernel⟩ | 1, _ => ⟨by decide +kernel, by decide +kernel, by decide +kernel, by decide +kernel, by decide +kernel⟩), by decide +kernel, by decide +kernel, (fun j hj => match j, hj with | 0, _ => ⟨by decide +kernel, by decide +kernel, by decide +kernel, by decide +kernel, by decide +kernel⟩ | 1, _ => ⟨by decide +kernel, by decide +kernel, by decide +kernel, by decide +kernel, by decide +kernel⟩), by decide +kernel, by decide +kernel, by decide +kernel⟩
theorem lw_a13 : Cond.methodLink R_law 71 (x_m 91).1 ∈ x_ws := x_wi (x_e3 158 rfl) rfl
theorem lw_b13 : Cond.methodLink R_law 74 (x_m 137).1 ∈ x_ws := x_wi (x_e4 234 rfl) rfl
theorem lw_o91 : lw_ok 2 91 9 := by unfold lw_ok; decide +kernel
theorem lw_o137 : lw_ok 2 137 10 := by unfold lw_ok; decide +kernel
set_option maxRecDepth 20000 in
theorem lw_c14 : lw_cd 2 498 75 78 (51) := ⟨by decide +kernel, (fun j hj => match j, hj with | 0, _ => ⟨by decide +kernel, by decide +kernel, by decide +kernel, by decide +kernel, by decide +kernel⟩ | 1, _ => ⟨by decide +kernel, by decide +kernel, by decide +kernel, by decide +kernel, by decide +kernel⟩), by decide +kernel, by decide +kernel, (fun j hj => match j, hj with | 0, _ => ⟨by decide +kernel, by decide +kernel, by decide +kernel, by decide +kernel, by decide +kernel⟩ | 1, _ => ⟨by decide +kernel, by decide +kernel, by decide +kernel, by decide +kernel, by decide +kernel⟩), by decide +kernel, by decide +kernel, by decide +kernel⟩
theorem lw_a14 : Cond.methodLink R_law 75 (x_m 92).1 ∈ x_ws := x_wi (x_e3 162 rfl) rfl
theorem lw_b14 : Cond.methodLink R_law 78 (x_m 138).1 ∈ x_ws := x_wi (x_e4 238 rfl) rfl
theorem lw_o92 : lw_ok 2 92 9 := by unfold lw_ok; decide +kernel
theorem lw_o138 : lw_ok 2 138 10 := by unfold lw_ok; decide +kernel
set_option maxRecDepth 20000 in
theorem lw_c15 : lw_cd 1 531 79 82 (28) := ⟨by decide +kernel, (fun j hj => match j, hj with | 0, _ => ⟨by decide +kernel, by decide +kernel, by decide +kernel, by decide +kernel, by decide +kernel⟩), by decide +kernel, by decide +kernel, (fun j hj => match j, hj with | 0, _ => ⟨by decide +kernel, by decide +kernel, by decide +kernel, by decide +kernel, by decide +kernel⟩), by decide +kernel, by decide +kernel, by decide +kernel⟩
theorem lw_a15 : Cond.methodLink R_law 79 (x_m 93).1 ∈ x_ws := x_wi (x_e3 170 rfl) rfl
theorem lw_b15 : Cond.methodLink R_law 82 (x_m 139).1 ∈ x_ws := x_wi (x_e5 2 rfl) rfl
theorem lw_o93 : lw_ok 1 93 9 := by unfold lw_ok; decide +kernel
theorem lw_o139 : lw_ok 1 139 10 := by unfold lw_ok; decide +kernel
set_option maxRecDepth 20000 in
theorem lw_c16 : lw_cd 1 554 83 86 (5) := ⟨by decide +kernel, (fun j hj => match j, hj with | 0, _ => ⟨by decide +kernel, by decide +kernel, by decide +kernel, by decide +kernel, by decide +kernel⟩), by decide +kernel, by decide +kernel, (fun j hj => match j, hj with | 0, _ => ⟨by decide +kernel, by decide +kernel, by decide +kernel, by decide +kernel, by decide +kernel⟩), by decide +kernel, by decide +kernel, by decide +kernel⟩
theorem lw_a16 : Cond.methodLink R_law 83 (x_m 94).1 ∈ x_ws := x_wi (x_e3 174 rfl) rfl
theorem lw_b16 : Cond.methodLink R_law 86 (x_m 140).1 ∈ x_ws := x_wi (x_e5 6 rfl) rfl
theorem lw_o94 : lw_ok 1 94 9 := by unfold lw_ok; decide +kernel
theorem lw_o140 : lw_ok 1 140 10 := by unfold lw_ok; decide +kernel
