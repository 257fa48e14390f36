/-! Long.bitCount counts bits -/
def vl : List Nat → Nat
  | [] => 0
  | d :: ds => d + 256 * vl ds
def A8 (d : Nat) : Nat := d - ((d / 2) &&& 85)
def B8 (d : Nat) : Nat := (d &&& 51) + ((d / 4) &&& 51)
def C8 (d : Nat) : Nat := (d + d / 16) &&& 15
theorem and_sp (x m M : Nat) (h : m < 256) : x &&& (m + 256 * M) = ((x % 256) &&& m) + 256 * ((x / 256) &&& M) := by
  have h1 : (x &&& (m + 256 * M)) % 2 ^ 8 = (x % 256) &&& m := by
    rw [Nat.and_mod_two_pow]
    congr 1
    omega
  have h2 : (x &&& (m + 256 * M)) / 2 ^ 8 = (x / 256) &&& M := by
    rw [Nat.and_div_two_pow]
    congr 1
    omega
  omega
theorem tA : ∀ d, d < 256 → ∀ e, e < 2 → (d / 2 + 128 * e) &&& 85 = (d / 2) &&& 85 := by decide +kernel
theorem tB : ∀ d, d < 256 → ∀ e, e < 4 → (d / 4 + 64 * e) &&& 51 = (d / 4) &&& 51 := by decide +kernel
theorem tC : ∀ d, d < 70 → ∀ e, e < 5 → (d + d / 16 + 16 * e) &&& 15 = (d + d / 16) &&& 15 := by decide +kernel
theorem tD : ∀ d, d < 256 → A8 d < 256 ∧ B8 (A8 d) < 69 ∧ B8 (A8 d) % 16 < 5 ∧ C8 (B8 (A8 d)) < 9 := by decide +kernel
theorem sA : ∀ ds : List Nat, (∀ d ∈ ds, d < 256) → vl ds - ((vl ds / 2) &&& vl (ds.map fun _ => 85)) = vl (ds.map A8) ∧ (vl ds / 2) &&& vl (ds.map fun _ => 85) ≤ vl ds := by
  intro ds
  induction ds with
  | nil => intro _; exact ⟨rfl, Nat.le_refl _⟩
  | cons d ds ih =>
    intro h
    obtain ⟨i1, i2⟩ := ih (fun x hx => h x (List.mem_cons_of_mem _ hx))
    have hd := h d List.mem_cons_self
    simp only [List.map_cons, vl]
    rw [and_sp _ 85 _ (by decide)]
    have e1 : (d + 256 * vl ds) / 2 % 256 = d / 2 + 128 * (vl ds % 2) := by omega
    have e2 : (d + 256 * vl ds) / 2 / 256 = vl ds / 2 := by omega
    rw [e1, e2, tA d hd _ (by omega), ← i1, A8]
    have l1 : (d / 2) &&& 85 ≤ d / 2 := Nat.and_le_left
    omega
theorem sB : ∀ ds : List Nat, (∀ d ∈ ds, d < 256) → (vl ds &&& vl (ds.map fun _ => 51)) + ((vl ds / 4) &&& vl (ds.map fun _ => 51)) = vl (ds.map B8) := by
  intro ds
  induction ds with
  | nil => intro _; rfl
  | cons d ds ih =>
    intro h
    have i1 := ih (fun x hx => h x (List.mem_cons_of_mem _ hx))
    have hd := h d List.mem_cons_self
    simp only [List.map_cons, vl]
    rw [and_sp _ 51 _ (by decide), and_sp _ 51 _ (by decide)]
    have e1 : (d + 256 * vl ds) / 4 % 256 = d / 4 + 64 * (vl ds % 4) := by omega
    have e2 : (d + 256 * vl ds) / 4 / 256 = vl ds / 4 := by omega
    have e3 : (d + 256 * vl ds) % 256 = d := by omega
    have e4 : (d + 256 * vl ds) / 256 = vl ds := by omega
    rw [e1, e2, e3, e4, tB d hd _ (by omega), ← i1, B8]
    omega
theorem sC : ∀ ds : List Nat, (∀ d ∈ ds, d < 69 ∧ d % 16 < 5) → (vl ds + vl ds / 16) &&& vl (ds.map fun _ => 15) = vl (ds.map C8) := by
  intro ds
  induction ds with
  | nil => intro _; rfl
  | cons d ds ih =>
    intro h
    have i1 := ih (fun x hx => h x (List.mem_cons_of_mem _ hx))
    obtain ⟨hd, hd2⟩ := h d List.mem_cons_self
    have hv : vl ds % 16 < 5 := by
      cases ds with
      | nil => decide
      | cons d' ds' =>
        have := (h d' (List.mem_cons_of_mem _ List.mem_cons_self)).2
        simp only [vl]
        omega
    simp only [List.map_cons, vl]
    rw [and_sp _ 15 _ (by decide)]
    have e1 : (d + 256 * vl ds + (d + 256 * vl ds) / 16) % 256 = d + d / 16 + 16 * (vl ds % 16) := by omega
    have e2 : (d + 256 * vl ds + (d + 256 * vl ds) / 16) / 256 = vl ds + vl ds / 16 := by omega
    rw [e1, e2, tC d (by omega) _ (by omega), i1, C8]
def bsm (N : Nat) : Nat → Nat
  | 0 => 0
  | i + 1 => bsm N i + N / 2 ^ i % 2
theorem t8 : ∀ d, d < 256 → C8 (B8 (A8 d)) = bsm d 8 := by decide +kernel
theorem bsm_8 (N : Nat) : bsm (N % 256) 8 = bsm N 8 := by
  simp only [bsm]
  omega
theorem bsm_s (N : Nat) : ∀ k, bsm N (8 + k) = bsm N 8 + bsm (N / 256) k := by
  intro k
  induction k with
  | zero => rfl
  | succ k ih =>
    show bsm N (8 + k) + N / 2 ^ (8 + k) % 2 = bsm N 8 + (bsm (N / 256) k + N / 256 / 2 ^ k % 2)
    rw [ih, Nat.div_div_eq_div_mul, Nat.pow_add]
    show _ + N / (256 * 2 ^ k) % 2 = _
    omega
theorem us_n {N k : Nat} (hN : N < 2 ^ 64) (hk : k < 64) {y : Int32} (hy : y = nI k) : x_us (lN N) y = lN (N / 2 ^ k) := by
  subst hy
  exact wb_shr hN hk
theorem pop_l {d0 d1 d2 d3 d4 d5 d6 d7 : Nat} (h : ∀ d ∈ [d0, d1, d2, d3, d4, d5, d6, d7], d < 256) : x_bc (lN (vl [d0, d1, d2, d3, d4, d5, d6, d7])) = nI (bsm d0 8 + bsm d1 8 + bsm d2 8 + bsm d3 8 + bsm d4 8 + bsm d5 8 + bsm d6 8 + bsm d7 8) := by
  have lt64 : ∀ e0 e1 e2 e3 e4 e5 e6 e7 : Nat, (∀ d ∈ [e0, e1, e2, e3, e4, e5, e6, e7], d < 256) → vl [e0, e1, e2, e3, e4, e5, e6, e7] < 2 ^ 64 := fun e0 e1 e2 e3 e4 e5 e6 e7 he => by
    have a0 := he e0 (by simp)
    have a1 := he e1 (by simp)
    have a2 := he e2 (by simp)
    have a3 := he e3 (by simp)
    have a4 := he e4 (by simp)
    have a5 := he e5 (by simp)
    have a6 := he e6 (by simp)
    have a7 := he e7 (by simp)
    simp only [vl]
    omega
  have m5 : (6148914691236517205 : Int64) = lN (vl [85, 85, 85, 85, 85, 85, 85, 85]) := rfl
  have m3 : (3689348814741910323 : Int64) = lN (vl [51, 51, 51, 51, 51, 51, 51, 51]) := rfl
  have mf : (1085102592571150095 : Int64) = lN (vl [15, 15, 15, 15, 15, 15, 15, 15]) := rfl
  have n5 : vl [85, 85, 85, 85, 85, 85, 85, 85] < 2 ^ 64 := lt64 _ _ _ _ _ _ _ _ (by simp)
  have n3 : vl [51, 51, 51, 51, 51, 51, 51, 51] < 2 ^ 64 := lt64 _ _ _ _ _ _ _ _ (by simp)
  have nf : vl [15, 15, 15, 15, 15, 15, 15, 15] < 2 ^ 64 := lt64 _ _ _ _ _ _ _ _ (by simp)
  have hN := lt64 _ _ _ _ _ _ _ _ h
  have hA : ∀ d ∈ [A8 d0, A8 d1, A8 d2, A8 d3, A8 d4, A8 d5, A8 d6, A8 d7], d < 256 := fun x hx => by
    obtain ⟨d, hd, rfl⟩ := List.mem_map.mp (show x ∈ [d0, d1, d2, d3, d4, d5, d6, d7].map A8 from hx)
    exact (tD d (h d hd)).1
  have hB : ∀ d ∈ [B8 (A8 d0), B8 (A8 d1), B8 (A8 d2), B8 (A8 d3), B8 (A8 d4), B8 (A8 d5), B8 (A8 d6), B8 (A8 d7)], d < 69 ∧ d % 16 < 5 := fun x hx => by
    obtain ⟨d, hd, rfl⟩ := List.mem_map.mp (show x ∈ [d0, d1, d2, d3, d4, d5, d6, d7].map (fun d => B8 (A8 d)) from hx)
    exact ⟨(tD d (h d hd)).2.1, (tD d (h d hd)).2.2.1⟩
  have hC : ∀ d ∈ [d0, d1, d2, d3, d4, d5, d6, d7], C8 (B8 (A8 d)) < 9 := fun d hd => (tD d (h d hd)).2.2.2
  obtain ⟨a1, a2⟩ : vl [d0, d1, d2, d3, d4, d5, d6, d7] - ((vl [d0, d1, d2, d3, d4, d5, d6, d7] / 2) &&& vl [85, 85, 85, 85, 85, 85, 85, 85]) = vl [A8 d0, A8 d1, A8 d2, A8 d3, A8 d4, A8 d5, A8 d6, A8 d7] ∧ (vl [d0, d1, d2, d3, d4, d5, d6, d7] / 2) &&& vl [85, 85, 85, 85, 85, 85, 85, 85] ≤ vl [d0, d1, d2, d3, d4, d5, d6, d7] := sA _ h
  have b1 : (vl [A8 d0, A8 d1, A8 d2, A8 d3, A8 d4, A8 d5, A8 d6, A8 d7] &&& vl [51, 51, 51, 51, 51, 51, 51, 51]) + ((vl [A8 d0, A8 d1, A8 d2, A8 d3, A8 d4, A8 d5, A8 d6, A8 d7] / 4) &&& vl [51, 51, 51, 51, 51, 51, 51, 51]) = vl [B8 (A8 d0), B8 (A8 d1), B8 (A8 d2), B8 (A8 d3), B8 (A8 d4), B8 (A8 d5), B8 (A8 d6), B8 (A8 d7)] := sB _ hA
  have cc1 : (vl [B8 (A8 d0), B8 (A8 d1), B8 (A8 d2), B8 (A8 d3), B8 (A8 d4), B8 (A8 d5), B8 (A8 d6), B8 (A8 d7)] + vl [B8 (A8 d0), B8 (A8 d1), B8 (A8 d2), B8 (A8 d3), B8 (A8 d4), B8 (A8 d5), B8 (A8 d6), B8 (A8 d7)] / 16) &&& vl [15, 15, 15, 15, 15, 15, 15, 15] = vl [C8 (B8 (A8 d0)), C8 (B8 (A8 d1)), C8 (B8 (A8 d2)), C8 (B8 (A8 d3)), C8 (B8 (A8 d4)), C8 (B8 (A8 d5)), C8 (B8 (A8 d6)), C8 (B8 (A8 d7))] := sC _ hB
  have hNA := lt64 _ _ _ _ _ _ _ _ hA
  have hNB : vl [B8 (A8 d0), B8 (A8 d1), B8 (A8 d2), B8 (A8 d3), B8 (A8 d4), B8 (A8 d5), B8 (A8 d6), B8 (A8 d7)] + vl [B8 (A8 d0), B8 (A8 d1), B8 (A8 d2), B8 (A8 d3), B8 (A8 d4), B8 (A8 d5), B8 (A8 d6), B8 (A8 d7)] / 16 < 2 ^ 64 := by
    have z0 := (hB (B8 (A8 d0)) (by simp)).1
    have z1 := (hB (B8 (A8 d1)) (by simp)).1
    have z2 := (hB (B8 (A8 d2)) (by simp)).1
    have z3 := (hB (B8 (A8 d3)) (by simp)).1
    have z4 := (hB (B8 (A8 d4)) (by simp)).1
    have z5 := (hB (B8 (A8 d5)) (by simp)).1
    have z6 := (hB (B8 (A8 d6)) (by simp)).1
    have z7 := (hB (B8 (A8 d7)) (by simp)).1
    simp only [vl]
    omega
  have eA : x_bA (lN (vl [d0, d1, d2, d3, d4, d5, d6, d7])) = lN (vl [A8 d0, A8 d1, A8 d2, A8 d3, A8 d4, A8 d5, A8 d6, A8 d7]) := by
    rw [x_bA, us_n hN (k := 1) (by decide) (y := 1) rfl, m5, show (2 : Nat) ^ 1 = 2 from rfl, wb_and (by omega) n5, lN_sub a2, a1]
  have eB : x_bB (lN (vl [A8 d0, A8 d1, A8 d2, A8 d3, A8 d4, A8 d5, A8 d6, A8 d7])) = lN (vl [B8 (A8 d0), B8 (A8 d1), B8 (A8 d2), B8 (A8 d3), B8 (A8 d4), B8 (A8 d5), B8 (A8 d6), B8 (A8 d7)]) := by
    rw [x_bB, us_n hNA (k := 2) (by decide) (y := 2) rfl, m3, show (2 : Nat) ^ 2 = 4 from rfl, wb_and hNA n3, wb_and (by omega) n3, lN_add, b1]
  have eC : x_bC (lN (vl [B8 (A8 d0), B8 (A8 d1), B8 (A8 d2), B8 (A8 d3), B8 (A8 d4), B8 (A8 d5), B8 (A8 d6), B8 (A8 d7)])) = lN (vl [C8 (B8 (A8 d0)), C8 (B8 (A8 d1)), C8 (B8 (A8 d2)), C8 (B8 (A8 d3)), C8 (B8 (A8 d4)), C8 (B8 (A8 d5)), C8 (B8 (A8 d6)), C8 (B8 (A8 d7))]) := by
    rw [x_bC, us_n (by omega) (k := 4) (by decide) (y := 4) rfl, mf, show (2 : Nat) ^ 4 = 16 from rfl, lN_add, wb_and hNB nf, cc1]
  rw [x_bc, eA, eB, eC]
  have w0 := hC d0 (by simp)
  rw [← t8 d0 (h d0 (by simp))]
  have w1 := hC d1 (by simp)
  rw [← t8 d1 (h d1 (by simp))]
  have w2 := hC d2 (by simp)
  rw [← t8 d2 (h d2 (by simp))]
  have w3 := hC d3 (by simp)
  rw [← t8 d3 (h d3 (by simp))]
  have w4 := hC d4 (by simp)
  rw [← t8 d4 (h d4 (by simp))]
  have w5 := hC d5 (by simp)
  rw [← t8 d5 (h d5 (by simp))]
  have w6 := hC d6 (by simp)
  rw [← t8 d6 (h d6 (by simp))]
  have w7 := hC d7 (by simp)
  rw [← t8 d7 (h d7 (by simp))]
  generalize C8 (B8 (A8 d0)) = c0 at w0 ⊢
  generalize C8 (B8 (A8 d1)) = c1 at w1 ⊢
  generalize C8 (B8 (A8 d2)) = c2 at w2 ⊢
  generalize C8 (B8 (A8 d3)) = c3 at w3 ⊢
  generalize C8 (B8 (A8 d4)) = c4 at w4 ⊢
  generalize C8 (B8 (A8 d5)) = c5 at w5 ⊢
  generalize C8 (B8 (A8 d6)) = c6 at w6 ⊢
  generalize C8 (B8 (A8 d7)) = c7 at w7 ⊢
  clear eA eB eC b1 cc1 a1 a2 hNB hNA hB hA hC
  have zN : vl [c0, c1, c2, c3, c4, c5, c6, c7] = (c0) + 256 * (c1) + 65536 * (c2) + 16777216 * (c3) + 4294967296 * (c4) + 1099511627776 * (c5) + 281474976710656 * (c6) + 72057594037927936 * (c7) := by simp only [vl]; omega
  rw [zN]
  have eD : x_bD (lN ((c0) + 256 * (c1) + 65536 * (c2) + 16777216 * (c3) + 4294967296 * (c4) + 1099511627776 * (c5) + 281474976710656 * (c6) + 72057594037927936 * (c7))) = lN ((c0 + c1) + 256 * (c1 + c2) + 65536 * (c2 + c3) + 16777216 * (c3 + c4) + 4294967296 * (c4 + c5) + 1099511627776 * (c5 + c6) + 281474976710656 * (c6 + c7) + 72057594037927936 * (c7)) := by
    rw [x_bD, us_n (by omega) (k := 8) (by decide) (y := 8) rfl, lN_add]
    congr 1
    omega
  have eE : x_bE (lN ((c0 + c1) + 256 * (c1 + c2) + 65536 * (c2 + c3) + 16777216 * (c3 + c4) + 4294967296 * (c4 + c5) + 1099511627776 * (c5 + c6) + 281474976710656 * (c6 + c7) + 72057594037927936 * (c7))) = lN ((c0 + c1 + c2 + c3) + 256 * (c1 + c2 + c3 + c4) + 65536 * (c2 + c3 + c4 + c5) + 16777216 * (c3 + c4 + c5 + c6) + 4294967296 * (c4 + c5 + c6 + c7) + 1099511627776 * (c5 + c6 + c7) + 281474976710656 * (c6 + c7) + 72057594037927936 * (c7)) := by
    rw [x_bE, us_n (by omega) (k := 16) (by decide) (y := 16) rfl, lN_add]
    congr 1
    omega
  have eF : x_bF (lN ((c0 + c1 + c2 + c3) + 256 * (c1 + c2 + c3 + c4) + 65536 * (c2 + c3 + c4 + c5) + 16777216 * (c3 + c4 + c5 + c6) + 4294967296 * (c4 + c5 + c6 + c7) + 1099511627776 * (c5 + c6 + c7) + 281474976710656 * (c6 + c7) + 72057594037927936 * (c7))) = lN ((c0 + c1 + c2 + c3 + c4 + c5 + c6 + c7) + 256 * (c1 + c2 + c3 + c4 + c5 + c6 + c7) + 65536 * (c2 + c3 + c4 + c5 + c6 + c7) + 16777216 * (c3 + c4 + c5 + c6 + c7) + 4294967296 * (c4 + c5 + c6 + c7) + 1099511627776 * (c5 + c6 + c7) + 281474976710656 * (c6 + c7) + 72057594037927936 * (c7)) := by
    rw [x_bF, us_n (by omega) (k := 32) (by decide) (y := 32) rfl, lN_add]
    congr 1
    omega
  rw [eD, eE, eF, lN_i, show (127 : Int32) = nI 127 from rfl, nx_and, show (127 : Nat) = 2 ^ 7 - 1 from rfl, Nat.and_two_pow_sub_one_eq_mod]
  congr 1
  omega
theorem pop_n {N : Nat} (hN : N < 2 ^ 64) : x_bc (lN N) = nI (bsm N 64) := by
  have e : N = vl [N % 256, N / 256 % 256, N / 256 / 256 % 256, N / 256 / 256 / 256 % 256, N / 256 / 256 / 256 / 256 % 256, N / 256 / 256 / 256 / 256 / 256 % 256, N / 256 / 256 / 256 / 256 / 256 / 256 % 256, N / 256 / 256 / 256 / 256 / 256 / 256 / 256 % 256] := by
    simp only [vl]
    omega
  have h : ∀ d ∈ [N % 256, N / 256 % 256, N / 256 / 256 % 256, N / 256 / 256 / 256 % 256, N / 256 / 256 / 256 / 256 % 256, N / 256 / 256 / 256 / 256 / 256 % 256, N / 256 / 256 / 256 / 256 / 256 / 256 % 256, N / 256 / 256 / 256 / 256 / 256 / 256 / 256 % 256], d < 256 := by
    intro d hd
    simp only [List.mem_cons, List.not_mem_nil, or_false] at hd
    omega
  have p := pop_l h
  rw [← e] at p
  rw [p]
  simp only [bsm_8]
  congr 1
  rw [show (64 : Nat) = 8 + 56 from rfl, bsm_s, show (56 : Nat) = 8 + 48 from rfl, bsm_s, show (48 : Nat) = 8 + 40 from rfl, bsm_s, show (40 : Nat) = 8 + 32 from rfl, bsm_s, show (32 : Nat) = 8 + 24 from rfl, bsm_s, show (24 : Nat) = 8 + 16 from rfl, bsm_s, show (16 : Nat) = 8 + 8 from rfl, bsm_s]
  omega
theorem lb_n {N i : Nat} (hN : N < 2 ^ 64) (hi : i < 64) : lb (lN N) i = decide (N / 2 ^ i % 2 = 1) := by
  rw [lb, wb_tb, BitVec.getLsbD_ofNat, decide_eq_true hi, Bool.true_and, Nat.testBit_eq_decide_div_mod_eq]
theorem f_ld8_b {J : xI} {N : Nat} (hN : N < 2 ^ 64) : ∀ m, m ≤ 41 → (∀ q, q < m → J 105 q = bI (lb (lN N) q)) → f_ld8 J m = nI (bsm N m) := by
  intro m
  induction m with
  | zero => intro _ _; rfl
  | succ m ih =>
    intro hm h
    rw [f_ld8, ih (by omega) (fun q hq => h q (by omega)), h m (by omega), lb_n hN (by omega), bsm]
    by_cases e : N / 2 ^ m % 2 = 1
    · rw [decide_eq_true e, if_neg (by decide), nI_add, e]
    · rw [decide_eq_false e, if_pos (show bI false = 0 from rfl), nI_add, show N / 2 ^ m % 2 = 0 by omega]
theorem bsm_hi {N : Nat} {k : Nat} (h : ∀ i, k ≤ i → i < 64 → N / 2 ^ i % 2 = 0) : ∀ m, k + m ≤ 64 → bsm N (k + m) = bsm N k := by
  intro m
  induction m with
  | zero => intro _; rfl
  | succ m ih =>
    intro hm
    show bsm N (k + m) + N / 2 ^ (k + m) % 2 = _
    rw [ih (by omega), h (k + m) (by omega) (by omega), Nat.add_zero]
theorem Lk_cnt {I : xI} {f : Nat} (h : Lk I f) : f_ld8 (f_rp I f) 41 = x_bc (PS I f).2 := by
  obtain ⟨N, hN, e⟩ := wb_of (PS I f).2
  obtain ⟨h4, h5, h7, h8⟩ := h
  rw [e, pop_n hN, f_ld8_b hN 41 (Nat.le_refl _) (fun q hq => ?_)]
  · congr 1
    refine (bsm_hi (k := 41) (fun i i1 i2 => ?_) 23 (by decide)).symm
    by_cases z : N / 2 ^ i % 2 = 1
    · have := h8 i i2 (by rw [e, lb_n hN i2, decide_eq_true z])
      omega
    · omega
  · rw [(h5 q hq).1, c_dn_b, e]
    congr 1
    by_cases h0 : 1 ≤ q
    · rw [decide_eq_true h0, decide_eq_true (p := q ≤ 40) (by omega)]
      simp
    · rw [decide_eq_false h0]
      have hq0 : lb (lN N) q = false := by
        cases hb : lb (lN N) q with
        | false => rfl
        | true => have := h8 q (by omega) (by rw [e]; exact hb); omega
      rw [hq0]
      simp
