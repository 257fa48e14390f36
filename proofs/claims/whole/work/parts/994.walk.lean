/-! the law's body: a call on each side, a round, the loop -/
def lw_as (xs : Nat → Int32) (i : Nat) : Nat → List Value
  | 0 => []
  | n + 1 => lw_as xs i n ++ [.int (xs (i + n + 1))]
theorem lw_as_map {xs : Nat → Int32} {i : Nat} (ad : Nat → Nat) : ∀ n, (lw_as xs i n).map (x_V ad) = lw_as xs i n := by
  intro n
  induction n with
  | zero => rfl
  | succ n ih => simp only [lw_as, List.map_append, ih]; rfl
theorem lw_as_len {xs : Nat → Int32} {i : Nat} : ∀ n, (lw_as xs i n).length = n := by
  intro n
  induction n with
  | zero => rfl
  | succ n ih => simp [lw_as, ih]
theorem lw_as_int {xs : Nat → Int32} {i n : Nat} {k : Nat} : ∀ v ∈ lw_as xs i n, x_wV k v := by
  induction n with
  | zero => intro v hv; cases hv
  | succ n ih =>
    intro v hv
    rcases List.mem_append.mp hv with h | h
    · exact ih v h
    · rcases List.mem_cons.mp h with rfl | h
      · exact x_wV_int
      · cases h
theorem lw_ic : ∀ j : Nat, j < 3 → Int32.ofInt ((j : Int) + 1) = nI (j + 1) := by decide +kernel
theorem lw_le {L i : Nat} (hL : L ≤ 2048) (hi : i ≤ 4096) (h : ¬ Int32.ofNat L - 4 < nI i) : i + 4 ≤ L := by
  by_cases h4 : 4 ≤ L
  · have e : Int32.ofNat L - 4 = nI (L - 4) := by
      have h1 : nI (L - 4) + nI 4 = nI L := by rw [nI_add, Nat.sub_add_cancel h4]
      have h2 : Int32.ofNat L = nI (L - 4) + 4 := h1.symm
      rw [h2, Int32.add_sub_cancel]
    rw [e, nI_ltI (by omega) (by omega)] at h
    omega
  · exfalso
    apply h
    have h3 : ∀ L, L < 4 → (Int32.ofNat L - 4).toInt < 0 := by decide +kernel
    have h5 := h3 L (by omega)
    rw [Int32.lt_iff_toInt_lt, nI_toInt (by omega)]
    omega
section LWW
variable {p : Program} {l : Launch} {e : Env} {s : State} {m : MethodId} {b : Nat} {below : List Frame} {meth : Method} {c : Code} {D : va_G} {tC : Nat → ClassId} {Q : State → Prop}
variable {ad : Nat → Nat} {M : xM} {H : Heap} {locs : List Loc} {pc cells slots : Nat} {st : List Value} {arr : Array Slot} {L i : Nat} {xs : Nat → Int32}
theorem lw_arg (F : lw_Fx p s m c D tC b) (hS : va_S (lw_A s) s.heap H locs) (hX : va_X b L xs s s.heap) (hbl : b < s.heap.size) (hL : L ≤ 2048) (h0 : arr[0]? = some (.val (.ref b))) (h3 : arr[3]? = some (.val (.int (nI i)))) {j : Nat} (hj : j < 3) (hij : i + j + 1 < L) (hs : lw_seg pc j)
    (kk : W p l e room_1 s m #[Value.ref b] below meth c H locs cells slots Q (F0 m (pc + 5) arr (.int (xs (i + j + 1)) :: st))) : W p l e room_1 s m #[Value.ref b] below meth c H locs cells slots Q (F0 m pc arr st) := by
  obtain ⟨hx, hb, -⟩ := F
  obtain ⟨d0, d1, d2, d3, d4⟩ := hs
  refine lv_aload_n hx hb d0 rfl h0 ?_
  refine lv_iload_n hx hb d1 rfl h3 ?_
  refine lv_iconst (v := nI (j + 1)) hx hb d2 (lw_ic j hj) ?_
  refine lv_iadd hx hb d3 ?_
  rw [nI_add]
  refine va_sld hx hb hX hbl (A := lw_A s) (fun h => absurd hbl (Nat.not_lt.mpr h)) hS (nI_in (show i + (j + 1) < L by omega) (by omega)) d4 ?_
  rw [nI_clamp (by omega)]
  exact kk
theorem lw_args (F : lw_Fx p s m c D tC b) (hS : va_S (lw_A s) s.heap H locs) (hX : va_X b L xs s s.heap) (hbl : b < s.heap.size) (hL : L ≤ 2048) (h0 : arr[0]? = some (.val (.ref b))) (h3 : arr[3]? = some (.val (.int (nI i)))) : ∀ (n : Nat), n ≤ 3 → i + n < L → (∀ j, j < n → lw_seg (pc + 5 * j) j) →
    W p l e room_1 s m #[Value.ref b] below meth c H locs cells slots Q (F0 m (pc + 5 * n) arr ((lw_as xs i n).reverse ++ st)) → W p l e room_1 s m #[Value.ref b] below meth c H locs cells slots Q (F0 m pc arr st) := by
  intro n
  induction n with
  | zero => intro _ _ _ h; exact h
  | succ n ih =>
    intro h1 h2 h4 h
    refine ih (by omega) (by omega) (fun j hj => h4 j (by omega)) ?_
    refine lw_arg F hS hX hbl hL h0 h3 (j := n) (by omega) (by omega) (h4 n (by omega)) ?_
    have e9 : (lw_as xs i (n + 1)).reverse ++ st = .int (xs (i + n + 1)) :: ((lw_as xs i n).reverse ++ st) := by simp [lw_as]
    rw [e9] at h
    exact h
set_option maxHeartbeats 2000000 in
theorem lw_case {B n0 : Nat} {C : xCC} (F : lw_Fx p s m c D tC b) (Y : lw_Y D tC s ad M H locs) (hX : va_X b L xs s s.heap) (hbl : b < s.heap.size) (hL : L ≤ 2048) (hl : lv_has arr 4 [(0, .ref b), (1, .ref (ad 0)), (2, .ref (ad 74)), (3, .int (nI i))]) (hi : i + 4 ≤ L) (hSt : St B n0 M C) (hcc : M.1.length + 100 ≤ 600000) (hss : x_sz M + 4100 ≤ 7302250)
    (kk : ∀ (M2 : xM) (ad2 : Nat → Nat) (H2 : Heap) (locs2 : List Loc) (B' n' : Nat) (C' : xCC), M2.1.length ≤ M.1.length + 100 → x_sz M2 ≤ x_sz M + 4100 → B' ≤ B + 9 → St B' n' M2 C' → ad2 0 = ad 0 → ad2 74 = ad 74 → lw_Y D tC s ad2 M2 H2 locs2 → W p l e room_1 s m #[Value.ref b] below meth c H2 locs2 M2.1.length (x_sz M2) Q (F0 m 577 arr []))
    (n : Nat) {ix1 ix2 kc kr : Nat} {off : Int} {as : List Value} (hn : n ≤ 3) (hcd : lw_cd n pc ix1 ix2 off) (hk1 : Cond.methodLink R_law ix1 (x_m kc).1 ∈ x_ws) (hk2 : Cond.methodLink R_law ix2 (x_m kr).1 ∈ x_ws) (o1 : lw_ok n kc 9) (o2 : lw_ok n kr 10) (has : as = lw_as xs i n) (hT : Two B M kc kr as) :
    W p l e room_1 s m #[Value.ref b] below meth c H locs M.1.length (x_sz M) Q (F0 m pc arr []) := by
  subst has
  have hx := F.1
  have hb := F.2.1
  obtain ⟨d1, s1, c1, d2, s2, c2, d3, ht⟩ := hcd
  obtain ⟨v, hE⟩ := hT
  obtain ⟨p1, p2, p3, p4, p5⟩ := o1
  obtain ⟨q1, q2, q3, q4, q5⟩ := o2
  have hRp := hSt.1
  have k0 : M.1[0]? = some (false, 9, 3) := hRp.2.2.1.1.1
  have k74 : M.1[74]? = some (false, 10, 42) := (hRp.2.2.1.2.2.2.2.1 74 (by omega) (by omega)).trans rfl
  have l108 : 108 ≤ M.1.length := hRp.2.1
  refine lv_aload_n hx hb d1 rfl (lv_at hl 1 rfl) ?_
  refine lw_args F Y.2.2.2 hX hbl hL (lv_at hl 0 rfl) (lv_at hl 3 rfl) n hn (by omega) s1 ?_
  refine lw_call (k := kc) (a := 0) (as := lw_as xs i n) (rest := []) F Y c1 hk1 p1 p2 p3 p4 (by omega) (by rw [lw_as_len, p5]) k0 hE lw_as_int (fun M1 w hq => ?_) hl.1 (Nat.le_of_ble_eq_true rfl) (by rw [lw_as_map]) (fun M1 w ad1 H1 locs1 hq hag Y1 => ?_)
  · obtain ⟨-, hx1, -⟩ := hq
    have := hx1.2.1
    have := hx1.2.2
    exact ⟨by omega, by omega⟩
  obtain ⟨rfl, hx1, hE2⟩ := hq
  have b1 := hx1.2.1
  have b2 := hx1.2.2
  have hpre : M.1 <+: M1.1 := hx1.1.1
  have hle := hpre.length_le
  show W p l e room_1 s m #[Value.ref b] below meth c H1 locs1 M1.1.length (x_sz M1) Q (F0 m _ arr [.int v])
  refine lv_aload_n hx hb d2 rfl (lv_at hl 2 rfl) ?_
  refine lw_args F Y1.2.2.2 hX hbl hL (lv_at hl 0 rfl) (lv_at hl 3 rfl) n hn (by omega) s2 ?_
  refine lw_call (k := kr) (a := 74) (as := lw_as xs i n) (rest := [.int v]) F Y1 c2 hk2 q1 q2 q3 q4 (by omega) (by rw [lw_as_len, q5]) (x_pre hpre k74) hE2 lw_as_int (fun M2 w hq => ?_) hl.1 (Nat.le_of_ble_eq_true rfl) (by rw [lw_as_map, hag 74 (by omega)]) (fun M2 w ad2 H2 locs2 hq hag2 Y2 => ?_)
  · obtain ⟨-, e1, -⟩ := hq
    rw [x_sz_eq e1, e1]
    exact ⟨by omega, by omega⟩
  obtain ⟨rfl, e1, e2, B', n', C', hB, hS'⟩ := hq
  show W p l e room_1 s m #[Value.ref b] below meth c H2 locs2 M2.1.length (x_sz M2) Q (F0 m _ arr [.int v, .int v])
  refine lv_icmp_eq hx hb d3 ht (fun _ => ?_) (fun h => absurd rfl h)
  exact kk M2 ad2 H2 locs2 B' n' C' (by rw [e1]; omega) (by rw [x_sz_eq e1]; omega) hB hS' ((hag2 0 (by omega)).trans (hag 0 (by omega))) ((hag2 74 (by omega)).trans (hag 74 (by omega))) Y2
set_option maxHeartbeats 4000000 in
set_option maxRecDepth 20000 in
theorem lw_round {B n0 : Nat} {C : xCC} (F : lw_Fx p s m c D tC b) (Y : lw_Y D tC s ad M H locs) (hX : va_X b L xs s s.heap) (hbl : b < s.heap.size) (hL : L ≤ 2048) (hr : meth.sig.returnType = ret) (hlk : meth.locks = false) (hl : lv_has arr 4 [(0, .ref b), (1, .ref (ad 0)), (2, .ref (ad 74)), (3, .int (nI i))]) (hi : i ≤ 4096) (hSt : St B n0 M C) (hB : i + 4 ≤ L → B ≤ 400000) (hc0 : M.1.length ≤ 600000 ∧ x_sz M ≤ 7302250) (hcc : i + 4 ≤ L → M.1.length + 100 ≤ 600000) (hss : i + 4 ≤ L → x_sz M + 4100 ≤ 7302250)
    (kk : i + 4 ≤ L → ∀ (M2 : xM) (ad2 : Nat → Nat) (H2 : Heap) (locs2 : List Loc) (B' n' : Nat) (C' : xCC), M2.1.length ≤ M.1.length + 100 → x_sz M2 ≤ x_sz M + 4100 → B' ≤ B + 9 → St B' n' M2 C' → ad2 0 = ad 0 → ad2 74 = ad 74 → lw_Y D tC s ad2 M2 H2 locs2 → W p l e room_1 s m #[Value.ref b] below meth c H2 locs2 M2.1.length (x_sz M2) (lw_Z below #[Value.ref b] s) (F0 m 577 arr [])) :
    W p l e room_1 s m #[Value.ref b] below meth c H locs M.1.length (x_sz M) (lw_Z below #[Value.ref b] s) (F0 m 18 arr []) := by
  have hx := F.1
  have hb := F.2.1
  have hS := Y.2.2.2
  have hbA : ¬ lw_A s b := fun h => absurd hbl (Nat.not_lt.mpr h)
  refine lv_iload_n hx hb lw_d18 rfl (lv_at hl 3 rfl) ?_
  refine lv_aload_n hx hb lw_d19 rfl (lv_at hl 0 rfl) ?_
  refine va_slen hx hb hX hbl hbA hS lw_d20 ?_
  refine lv_iconst (v := 4) hx hb lw_d21 (by decide +kernel) ?_
  refine lv_isub hx hb lw_d22 ?_
  refine lv_icmp_gt (tgt := 583) hx hb lw_d23 (by decide +kernel) (fun _ => ?_) (fun hle => ?_)
  · refine lv_iconst (v := 1) hx hb lw_d583 (by decide +kernel) ?_
    refine va_forget hS.2.2 ?_
    refine W.widen (k := 600000) (n := 7302250) hc0.1 hc0.2 ?_
    exact lw_ret hx hb hr hlk lw_d584
  have hi4 : i + 4 ≤ L := lw_le hL hi hle
  refine lv_aload_n hx hb lw_d26 rfl (lv_at hl 0 rfl) ?_
  refine lv_iload_n hx hb lw_d27 rfl (lv_at hl 3 rfl) ?_
  refine va_sld hx hb hX hbl hbA hS (nI_in (show i < L by omega) (by omega)) lw_d28 ?_
  rw [nI_clamp (by omega)]
  refine lv_bipush (v := nI 31) hx hb lw_d29 (by decide +kernel) ?_
  refine lv_iand hx hb lw_d31 ?_
  obtain ⟨v, hv, ev⟩ := i_and (b := 31) (xs i) (by omega)
  rw [ev]
  have hz : v = 0 ∨ v = 1 ∨ v = 2 ∨ v = 3 ∨ v = 4 ∨ v = 5 ∨ v = 6 ∨ v = 7 ∨ v = 8 ∨ v = 9 ∨ v = 10 ∨ v = 11 ∨ v = 12 ∨ v = 13 ∨ v = 14 ∨ v = 15 ∨ v = 16 ∨ 17 ≤ v := by omega
  rcases hz with rfl | rfl | rfl | rfl | rfl | rfl | rfl | rfl | rfl | rfl | rfl | rfl | rfl | rfl | rfl | rfl | rfl | h17
  · refine lv_tableIn (off := 84) (tgt := 116) hx hb lw_d32 (by decide +kernel) (by decide +kernel) (by decide +kernel) (by decide +kernel) ?_
    exact lw_case F Y hX hbl hL hl hi4 hSt (hcc hi4) (hss hi4) (kk hi4) 3 (by omega) lw_c0 lw_a0 lw_b0 lw_o74 lw_o96 rfl (two_ask hSt _ _ _)
  · refine lv_tableIn (off := 127) (tgt := 159) hx hb lw_d32 (by decide +kernel) (by decide +kernel) (by decide +kernel) (by decide +kernel) ?_
    exact lw_case F Y hX hbl hL hl hi4 hSt (hcc hi4) (hss hi4) (kk hi4) 2 (by omega) lw_c1 lw_a1 lw_b1 lw_o76 lw_o98 rfl (two_send hSt _ _)
  · refine lv_tableIn (off := 160) (tgt := 192) hx hb lw_d32 (by decide +kernel) (by decide +kernel) (by decide +kernel) (by decide +kernel) ?_
    exact lw_case F Y hX hbl hL hl hi4 hSt (hcc hi4) (hss hi4) (kk hi4) 1 (by omega) lw_c2 lw_a2 lw_b2 lw_o80 lw_o112 rfl (two_timer hSt (hB hi4) _)
  · refine lv_tableIn (off := 183) (tgt := 215) hx hb lw_d32 (by decide +kernel) (by decide +kernel) (by decide +kernel) (by decide +kernel) ?_
    exact lw_case F Y hX hbl hL hl hi4 hSt (hcc hi4) (hss hi4) (kk hi4) 1 (by omega) lw_c3 lw_a3 lw_b3 lw_o81 lw_o114 rfl (two_deliver hSt _)
  · refine lv_tableIn (off := 206) (tgt := 238) hx hb lw_d32 (by decide +kernel) (by decide +kernel) (by decide +kernel) (by decide +kernel) ?_
    exact lw_case F Y hX hbl hL hl hi4 hSt (hcc hi4) (hss hi4) (kk hi4) 1 (by omega) lw_c4 lw_a4 lw_b4 lw_o82 lw_o127 rfl (two_drop hSt _)
  · refine lv_tableIn (off := 229) (tgt := 261) hx hb lw_d32 (by decide +kernel) (by decide +kernel) (by decide +kernel) (by decide +kernel) ?_
    exact lw_case F Y hX hbl hL hl hi4 hSt (hcc hi4) (hss hi4) (kk hi4) 1 (by omega) lw_c5 lw_a5 lw_b5 lw_o83 lw_o128 rfl (two_copy hSt _)
  · refine lv_tableIn (off := 252) (tgt := 284) hx hb lw_d32 (by decide +kernel) (by decide +kernel) (by decide +kernel) (by decide +kernel) ?_
    exact lw_case F Y hX hbl hL hl hi4 hSt (hcc hi4) (hss hi4) (kk hi4) 1 (by omega) lw_c6 lw_a6 lw_b6 lw_o84 lw_o129 rfl (two_crash hSt _)
  · refine lv_tableIn (off := 275) (tgt := 307) hx hb lw_d32 (by decide +kernel) (by decide +kernel) (by decide +kernel) (by decide +kernel) ?_
    exact lw_case F Y hX hbl hL hl hi4 hSt (hcc hi4) (hss hi4) (kk hi4) 1 (by omega) lw_c7 lw_a7 lw_b7 lw_o85 lw_o130 rfl (two_restart hSt _)
  · refine lv_tableIn (off := 298) (tgt := 330) hx hb lw_d32 (by decide +kernel) (by decide +kernel) (by decide +kernel) (by decide +kernel) ?_
    exact lw_case F Y hX hbl hL hl hi4 hSt (hcc hi4) (hss hi4) (kk hi4) 1 (by omega) lw_c8 lw_a8 lw_b8 lw_o86 lw_o131 rfl (two_cut hSt _)
  · refine lv_tableIn (off := 321) (tgt := 353) hx hb lw_d32 (by decide +kernel) (by decide +kernel) (by decide +kernel) (by decide +kernel) ?_
    exact lw_case F Y hX hbl hL hl hi4 hSt (hcc hi4) (hss hi4) (kk hi4) 2 (by omega) lw_c9 lw_a9 lw_b9 lw_o87 lw_o132 rfl (two_fetch hSt _ _)
  · refine lv_tableIn (off := 354) (tgt := 386) hx hb lw_d32 (by decide +kernel) (by decide +kernel) (by decide +kernel) (by decide +kernel) ?_
    exact lw_case F Y hX hbl hL hl hi4 hSt (hcc hi4) (hss hi4) (kk hi4) 0 (by omega) lw_c10 lw_a10 lw_b10 lw_o88 lw_o133 rfl (two_wait hSt)
  · refine lv_tableIn (off := 367) (tgt := 399) hx hb lw_d32 (by decide +kernel) (by decide +kernel) (by decide +kernel) (by decide +kernel) ?_
    exact lw_case F Y hX hbl hL hl hi4 hSt (hcc hi4) (hss hi4) (kk hi4) 2 (by omega) lw_c11 lw_a11 lw_b11 lw_o89 lw_o134 rfl (two_message hSt _ _)
  · refine lv_tableIn (off := 400) (tgt := 432) hx hb lw_d32 (by decide +kernel) (by decide +kernel) (by decide +kernel) (by decide +kernel) ?_
    exact lw_case F Y hX hbl hL hl hi4 hSt (hcc hi4) (hss hi4) (kk hi4) 2 (by omega) lw_c12 lw_a12 lw_b12 lw_o90 lw_o136 rfl (two_look hSt _ _)
  · refine lv_tableIn (off := 433) (tgt := 465) hx hb lw_d32 (by decide +kernel) (by decide +kernel) (by decide +kernel) (by decide +kernel) ?_
    exact lw_case F Y hX hbl hL hl hi4 hSt (hcc hi4) (hss hi4) (kk hi4) 2 (by omega) lw_c13 lw_a13 lw_b13 lw_o91 lw_o137 rfl (two_value hSt _ _)
  · refine lv_tableIn (off := 466) (tgt := 498) hx hb lw_d32 (by decide +kernel) (by decide +kernel) (by decide +kernel) (by decide +kernel) ?_
    exact lw_case F Y hX hbl hL hl hi4 hSt (hcc hi4) (hss hi4) (kk hi4) 2 (by omega) lw_c14 lw_a14 lw_b14 lw_o92 lw_o138 rfl (two_vote hSt _ _)
  · refine lv_tableIn (off := 499) (tgt := 531) hx hb lw_d32 (by decide +kernel) (by decide +kernel) (by decide +kernel) (by decide +kernel) ?_
    exact lw_case F Y hX hbl hL hl hi4 hSt (hcc hi4) (hss hi4) (kk hi4) 1 (by omega) lw_c15 lw_a15 lw_b15 lw_o93 lw_o139 rfl ((two_reply hSt _).1)
  · refine lv_tableIn (off := 522) (tgt := 554) hx hb lw_d32 (by decide +kernel) (by decide +kernel) (by decide +kernel) (by decide +kernel) ?_
    exact lw_case F Y hX hbl hL hl hi4 hSt (hcc hi4) (hss hi4) (kk hi4) 1 (by omega) lw_c16 lw_a16 lw_b16 lw_o94 lw_o140 rfl ((two_reply hSt _).2)
  · refine lv_tableOut (tgt := 577) hx hb lw_d32 (Or.inr ?_) (by decide +kernel) ?_
    · rw [nI_toInt (by omega)]; omega
    · exact kk hi4 M ad H locs B n0 C (by omega) (by omega) (by omega) hSt rfl rfl Y
set_option maxRecDepth 20000 in
theorem lw_loop (F : lw_Fx p s m c D tC b) (hX : va_X b L xs s s.heap) (hbl : b < s.heap.size) (hL : L ≤ 2048) (hr : meth.sig.returnType = ret) (hlk : meth.locks = false) : ∀ (t i B n0 : Nat) (C : xCC) (M : xM) (ad : Nat → Nat) (H : Heap) (locs : List Loc) (arr : Array Slot), L ≤ i + 4 * t → i ≤ 4096 → M.1.length + 100 * t ≤ 600000 → x_sz M + 4100 * t ≤ 7302250 → B + 9 * t ≤ 400000 → St B n0 M C → lw_Y D tC s ad M H locs → lv_has arr 4 [(0, .ref b), (1, .ref (ad 0)), (2, .ref (ad 74)), (3, .int (nI i))] →
    W p l e room_1 s m #[Value.ref b] below meth c H locs M.1.length (x_sz M) (lw_Z below #[Value.ref b] s) (F0 m 18 arr []) := by
  intro t
  induction t with
  | zero => intro i B n0 C M ad H locs arr h1 h2 h3 h4 h5 h6 h7 h8; exact lw_round F h7 hX hbl hL hr hlk h8 h2 h6 (fun _ => by omega) ⟨by omega, by omega⟩ (fun _ => by omega) (fun _ => by omega) (fun _ => by omega)
  | succ t ih =>
    intro i B n0 C M ad H locs arr h1 h2 h3 h4 h5 h6 h7 h8
    refine lw_round F h7 hX hbl hL hr hlk h8 h2 h6 (fun _ => by omega) ⟨by omega, by omega⟩ (fun _ => by omega) (fun _ => by omega) (fun hi4 M2 ad2 H2 locs2 B' n' C' b1 b2 b3 b4 b5 b6 b7 => ?_)
    refine lv_iinc (k := 3) (v := nI (i + 4)) F.1 F.2.1 lw_d577 h8 rfl (show nI i + Int32.ofInt 4 = nI (i + 4) by rw [show Int32.ofInt 4 = nI 4 by decide +kernel, nI_add]) (by decide) rfl (fun ls' hl' => ?_)
    refine lv_goto (tgt := 18) F.1 F.2.1 lw_d580 (by decide +kernel) ?_
    refine ih (i + 4) B' n' C' M2 ad2 H2 locs2 ls' (by omega) (by omega) (by omega) (by omega) (by omega) b4 b7 ?_
    rw [b5, b6]
    exact lv_sub hl' [1, 2, 3, 0] rfl
end LWW
