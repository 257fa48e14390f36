/-! bits, majorities -/
theorem bt_1 : ∀ i, i < 32 → bt (nI 1) i = decide (i = 0) := by decide +kernel
theorem bt_shr1 {x : Int32} {j : Nat} (hj : j < 32) : x >>> (nI j &&& 31) &&& nI 1 = if bt x j = true then nI 1 else nI 0 := by
  apply b_ext
  intro i hi
  rw [b_and, bt_1 i hi, b_sshr j hj x hi]
  by_cases h0 : i = 0
  · subst h0
    rw [if_pos (by omega), Nat.add_zero]
    cases bt x j <;> decide
  · rw [decide_eq_false h0, Bool.and_false]
    cases bt x j
    · exact (b_0 i).symm
    · exact ((bt_1 i hi).trans (decide_eq_false h0)).symm
theorem fb_bt {x : Int32} {j : Nat} (hj : j < 32) : f_bit x (nI j) = bt x j := by
  rw [f_bit, bt_shr1 hj]
  cases bt x j <;> decide
theorem cb_bt {x : Int32} {j : Nat} (hj : j < 32) : c_bt x j = bt x j := by
  rw [c_bt, bt_shr1 hj]
  cases bt x j <;> decide
theorem bt_sh {i j : Nat} (hj : j < 32) (hi : i < 32) : bt (nI 1 <<< (nI j &&& 31)) i = decide (i = j) := by
  rw [b_shl j hj _ hi]
  by_cases h : j ≤ i
  · rw [decide_eq_true h, Bool.true_and, bt_1 _ (by omega)]
    by_cases e : i = j
    · rw [decide_eq_true e, decide_eq_true (by omega)]
    · rw [decide_eq_false e, decide_eq_false (by omega)]
  · rw [decide_eq_false h, Bool.false_and, decide_eq_false (by omega)]
theorem bt_or1 {x : Int32} {i j : Nat} (hj : j < 32) (hi : i < 32) : bt (x ||| (nI 1 <<< (nI j &&& 31))) i = (bt x i || decide (i = j)) := by
  rw [b_or, bt_sh hj hi]
theorem bt_an1 {x : Int32} {i j : Nat} (hj : j < 32) (hi : i < 32) : bt (x &&& ((nI 1 <<< (nI j &&& 31)) ^^^ -1)) i = (bt x i && !decide (i = j)) := by
  rw [b_and, b_xor, bt_sh hj hi, b_m1 i hi, Bool.xor_true]
def f_pc (m : Nat) : Nat := m % 2 + m / 2 % 2 + m / 4 % 2 + m / 8 % 2 + m / 16 % 2
theorem f_cnt32 : ∀ m, m < 32 → f_cnt (nI m) = nI (f_pc m) := by decide +kernel
theorem f_pc5 : ∀ m, m < 32 → f_pc m ≤ 5 := by decide +kernel
theorem f_and32 : ∀ b, b < 32 → ∀ c, c < 32 → ∀ d, d < 32 → ¬ (f_pc b < 2 * f_pc c ∧ f_pc b < 2 * f_pc d ∧ c &&& b = c ∧ d &&& b = d ∧ c &&& d = 0) := by decide +kernel
theorem bt_32 : ∀ c, c < 32 → ∀ d, d < 32 → c &&& d ≠ 0 → ∃ j, j < 5 ∧ bt (nI c) j = true ∧ bt (nI d) j = true := by decide +kernel
theorem f_maj_n {x : Int32} {b : Nat} (hb : b < 32) : ∃ c, c < 32 ∧ x &&& nI b = nI c ∧ c &&& b = c ∧ (f_maj x (nI b) = true → f_pc b < 2 * f_pc c) := by
  obtain ⟨c, hc, e⟩ := i_and x hb
  refine ⟨c, hc, e, ?_, fun h => ?_⟩
  · have h1 : nI (c &&& b) = nI c := by
      rw [← nx_and, ← e]
      apply b_ext
      intro i hi
      rw [b_and, b_and]
      cases bt x i <;> cases bt (nI b) i <;> rfl
    have h2 : c &&& b ≤ c := Nat.and_le_left
    exact (nI_eq (by omega) (by omega)).mp h1
  · rw [f_maj, decide_eq_true_eq, e, f_cnt32 b hb, f_cnt32 c hc, pk_mul] at h
    have := f_pc5 b hb
    have := f_pc5 c hc
    exact (nI_ltI (by omega) (by omega)).mp h
theorem f_maj_i {x y : Int32} {b : Nat} (hb : b < 32) (hx : f_maj x (nI b) = true) (hy : f_maj y (nI b) = true) : ∃ j, j < 5 ∧ bt x j = true ∧ bt y j = true := by
  obtain ⟨c, c1, c2, c3, c4⟩ := f_maj_n (x := x) hb
  obtain ⟨d, d1, d2, d3, d4⟩ := f_maj_n (x := y) hb
  obtain ⟨j, j1, j2, j3⟩ := bt_32 c c1 d d1 (fun z => f_and32 b hb c c1 d d1 ⟨c4 hx, d4 hy, c3, d3, z⟩)
  rw [← c2, b_and, Bool.and_eq_true] at j2
  rw [← d2, b_and, Bool.and_eq_true] at j3
  exact ⟨j, j1, j2.1, j3.1⟩
theorem f_maj_1 : ∀ r, r < 5 → ∀ b, b < 32 → nI 2 ≤ f_cnt (nI b) → f_maj (nI 1 <<< (nI r &&& 31)) (nI b) = false := by decide +kernel
