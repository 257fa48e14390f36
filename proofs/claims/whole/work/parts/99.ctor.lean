/-! the two constructors, by reckoning, and the state behind them -/
def x_rn1 : Option (xM × Option Value) := x_go 9 4000 73 x_Mi [.ref 0]
def x_rn2 (M : xM) : Option (xM × Option Value) := x_go 9 20000 95 (x_new M (false, 10, 42)) [.ref 74]
def x_all (n : Nat) (f : Nat → Bool) : Bool := (List.range n).all f
theorem x_all_ok {n : Nat} {f : Nat → Bool} (h : x_all n f = true) {i : Nat} (hi : i < n) : f i = true := List.all_eq_true.mp h i (List.mem_range.mpr hi)
def x_cR (r : Nat → Nat → Option Nat) : Bool := (x_Ra ++ x_Rb).all (fun q => decide (r q.1 q.2.1 = some q.2.2))
def x_c1 (I : xI) : Bool := x_all 64 (fun i => x_all 3 (fun o => decide (I (6 + o) i = s_0.1 o i)))
def x_c2 (I : xI) : Bool := x_all 5 (fun r => decide (I (9 + 13 * r) 0 = nI r ∧ I (9 + 13 * r) 3 = bI (bt (I 74 7) r) ∧ I (9 + 13 * r) 4 = 0 ∧ I 81 r = 0 ∧ I 82 r = 0 ∧ I 83 r = 0 ∧ I 84 r = 0 ∧ I 87 r = 0 ∧ I (9 + 13 * r + 6) 0 = -1 ∧ I 85 (25 * r) = 0))
def x_c3 (I : xI) : Bool := x_all 5 (fun r => x_all 25 (fun s => decide (s = 0 ∨ (I (9 + 13 * r + 5) s = -1 ∧ I (9 + 13 * r + 2) s = 0 ∧ I 85 (25 * r + s) = 0 ∧ I 91 (25 * r + s) ≤ 0))))
def x_c4 (I : xI) : Bool := x_all 41 (fun q => decide (I 78 q = 0 ∧ I 79 q = 0 ∧ I 76 q = 0))
def x_c5 (I : xI) : Bool := x_all 25 (fun s => decide (s = 0 ∨ I 80 s = -1))
def x_c6 (I : xI) : Bool := decide (I 74 0 = 0 ∧ I 74 20 = 0 ∧ I 1 1 = 0 ∧ I 3 1 = 0)
def x_ckM (Ma M : xM) : Bool := decide (Ma.1 = x_Ka) && (decide (M.1 = x_K0) && (x_cR M.2.2.2 && (x_c1 M.2.1 && (x_c2 M.2.1 && (x_c3 M.2.1 && (x_c4 M.2.1 && (x_c5 M.2.1 && (x_c6 M.2.1 && decide (M.2.2.1 6 3 = 0)))))))))
def x_bg0 : Bool := match x_rn1 with
  | some (Ma, none) => match x_rn2 Ma with
    | some (M, none) => x_ckM Ma M
    | _ => false
  | _ => false
set_option maxRecDepth 100000 in
theorem x_bg0_ok : x_bg0 = true := by decide +kernel
theorem x_ini : ∃ Ma M, x_rn1 = some (Ma, none) ∧ x_rn2 Ma = some (M, none) ∧ x_ckM Ma M = true := by
  have h := x_bg0_ok
  unfold x_bg0 at h
  generalize hx : x_rn1 = r1 at h
  match r1, h with
  | some (Ma, none), h =>
    refine ⟨Ma, ?_⟩
    simp only at h
    generalize hy : x_rn2 Ma = r2 at h
    match r2, h with
    | some (M, none), h => exact ⟨M, rfl, rfl, h⟩
theorem FI.zero {I : xI} (h2 : x_c2 I = true) (h3 : x_c3 I = true) (h4 : x_c4 I = true) (h5 : x_c5 I = true) (h6 : x_c6 I = true) : FI 0 0 I := by
  obtain ⟨n0, w0, -, -⟩ := of_decide_eq_true h6
  have a2 : ∀ r, r < 5 → _ := fun r hr => of_decide_eq_true (x_all_ok h2 hr)
  have a3 : ∀ r s, r < 5 → 1 ≤ s → s ≤ 24 → I 85 (25 * r + s) = 0 ∧ I 91 (25 * r + s) ≤ 0 := fun r s hr h1 h9 => by
    have := of_decide_eq_true (x_all_ok (x_all_ok h3 hr) (show s < 25 by omega))
    rcases this with h | h
    · omega
    · exact ⟨h.2.2.1, h.2.2.2⟩
  have a5 : ∀ s, 1 ≤ s → s ≤ 24 → I 80 s = -1 := fun s h1 h9 => by
    have := of_decide_eq_true (x_all_ok h5 (show s < 25 by omega))
    rcases this with h | h
    · omega
    · exact h
  have hw : f_w I = 0 := by unfold f_w; rw [w0]; rfl
  refine ⟨(fun _ _ => none, fun _ _ _ => False), ⟨⟨n0, ⟨by omega, fun q p1 p2 => by omega⟩, fun s p1 p2 => Or.inl (a5 s p1 p2), ⟨by rw [hw, w0]; rfl, by omega⟩, fun q hq => ⟨0, by omega, (of_decide_eq_true (x_all_ok h4 hq)).2.2⟩⟩, fun a b s h => h.elim, fun b s c h => (by cases h), fun s p1 p2 h => ?_, fun r hr => ⟨?_, ?_, ?_⟩, fun i hi => by omega⟩, fun r hr => ?_⟩
  · rw [a5 s p1 p2] at h; exact absurd h (by decide)
  · obtain ⟨-, -, -, e1, e2, e3, e4, -⟩ := a2 r hr
    refine ⟨⟨0, 0, e2, e3, Nat.le_refl _, by omega, fun s p1 p2 => by omega⟩, ⟨0, by omega, by decide, e1⟩, fun s p1 p2 h => ?_⟩
    rw [e4] at h
    simp [bt] at h
  · obtain ⟨-, -, -, e1, e2, e3, e4, e7, -, e5⟩ := a2 r hr
    refine ⟨e5, fun s p1 p2 => ?_⟩
    obtain ⟨b1, b2⟩ := a3 r s hr p1 p2
    rw [b1, e1]
    exact ⟨by decide, by decide, fun h => absurd h (by decide), fun b h => h.elim⟩
  · obtain ⟨-, -, -, e1, e2, e3, e4, e7, -, e5⟩ := a2 r hr
    refine ⟨by rw [e7]; decide, by rw [e7, e1]; decide, fun s p1 p2 => Or.inl (a3 r s hr p1 p2).2, fun h => ?_⟩
    rw [e7] at h
    exact absurd h (by decide)
  · obtain ⟨-, -, -, e1, e2, e3, e4, e7, -, e5⟩ := a2 r hr
    intro h
    unfold f_camp at h
    rw [e7] at h
    simp at h
def x_C0 (I : xI) : xCC := (I, fun _ => s_0, fun _ => s_0, fun _ _ => 0, fun _ => (fun _ => 0, none, none))
theorem RelP.zero {I : xI} (h2 : x_c2 I = true) (h3 : x_c3 I = true) (h4 : x_c4 I = true) (h6 : x_c6 I = true) : RelP (x_C0 I) I := by
  obtain ⟨n0, w0, c0, c1⟩ := of_decide_eq_true h6
  have hw : f_w I = 0 := by unfold f_w; rw [w0]; rfl
  have hn : c_n (x_C0 I) = 0 := by unfold c_n x_C0; simp only; rw [c0]; rfl
  refine ⟨⟨by show I 1 1 = I 74 0; rw [c0, n0], fun q p1 p2 => by omega, fun q p1 p2 => ?_⟩, by show I 3 1 = I 74 20; rw [c1, w0], fun r hr => ?_, fun i hi => by omega⟩
  · obtain ⟨g1, g2, -⟩ := of_decide_eq_true (x_all_ok h4 (show q < 41 by omega))
    exact ⟨g1, g2⟩
  · obtain ⟨-, e0, e9, e1, e2, e3, e4, e7, e8, e5⟩ := of_decide_eq_true (x_all_ok h2 hr)
    have a3 : ∀ s, 1 ≤ s → s ≤ 24 → I (9 + 13 * r + 5) s = -1 ∧ I (9 + 13 * r + 2) s = 0 ∧ I 85 (25 * r + s) = 0 := fun s h1 h9 => by
      have := of_decide_eq_true (x_all_ok (x_all_ok h3 hr) (show s < 25 by omega))
      rcases this with h | h
      · omega
      · exact ⟨h.1, h.2.1, h.2.2.1⟩
    refine ⟨e0, by show I (9 + 13 * r) 4 = _; rw [e9, e1], ⟨0, 0, e2, e3, by omega, by omega, rfl, rfl⟩, fun s p1 p2 => ?_, fun s p1 p2 => ?_, Or.inl ⟨e7, e8⟩⟩
    · have hb : bt (I 84 r) s = false := by rw [e4]; simp [bt]
      rw [hb]
      exact (a3 s p1 p2).1
    · obtain ⟨b1, b2, b3⟩ := a3 s p1 p2
      refine ⟨?_, fun h => absurd b3 h⟩
      show I (9 + 13 * r + 2) s = _
      rw [b2, b3]
theorem x_rj_in : ∀ j, j < 42 → (match x_rj[j]? with
  | some (some a) => (x_Ra ++ x_Rb).contains (74, j, a)
  | _ => true) = true := by decide +kernel
theorem x_rj_len : x_rj.length ≤ 42 := by decide +kernel
set_option maxRecDepth 20000 in
theorem Rp.zero {M : xM} (hk : M.1 = x_K0) (hR : x_cR M.2.2.2 = true) (h1 : x_c1 M.2.1 = true) (h2 : x_c2 M.2.1 = true) (h6 : x_c6 M.2.1 = true) (hL : M.2.2.1 6 3 = 0) : Rp M (x_C0 M.2.1) := by
  obtain ⟨n0, w0, c0, c1⟩ := of_decide_eq_true h6
  have hK : ∀ (a : Nat) (kd : xK), x_K0[a]? = some kd → M.1[a]? = some kd := fun a kd h => by rw [hk]; exact h
  have hF : ∀ (a j b : Nat), (x_Ra ++ x_Rb).contains (a, j, b) = true → M.2.2.2 a j = some b := fun a j b h => by
    have := List.all_eq_true.mp hR (a, j, b) (List.contains_iff_mem.mp h)
    exact of_decide_eq_true this
  have h5 : ∀ r, r < 5 → r = 0 ∨ r = 1 ∨ r = 2 ∨ r = 3 ∨ r = 4 := fun r hr => by omega
  have hst : stA M 6 s_0 := by
    refine ⟨Or.inl rfl, ⟨hK _ _ rfl, hF _ _ _ (by decide +kernel), hF _ _ _ (by decide +kernel), hK _ _ rfl, hK _ _ rfl⟩, fun o i p1 p2 => ?_, hL, rfl, by decide +kernel, fun j p1 p2 => ⟨7, by omega, ?_⟩⟩
    · exact of_decide_eq_true (x_all_ok (x_all_ok h1 p2) (show o < 3 by omega))
    · have : j = 4 ∨ j = 5 ∨ j = 6 := by omega
      rcases this with rfl | rfl | rfl <;> rfl
  refine ⟨fun a i _ => rfl, by rw [hk]; decide +kernel, ⟨?_, ?_, ?_, ?_, ?_⟩, fun r hr => ?_, ⟨0, fun _ => 0, by omega, c0, fun q p1 p2 => by omega, fun q q' p1 p2 => by omega⟩, ⟨0, by omega, c1, fun i hi => by omega⟩, fun r hr => ?_⟩
  · refine ⟨hK _ _ rfl, hF _ _ _ (by decide +kernel), hF _ _ _ (by decide +kernel), hF _ _ _ (by decide +kernel), hK _ _ rfl, fun r hr => ?_⟩
    rcases h5 r hr with rfl | rfl | rfl | rfl | rfl <;> exact hF _ _ _ (by decide +kernel)
  · exact ⟨hK _ _ rfl, hF _ _ _ (by decide +kernel), hK _ _ rfl⟩
  · exact ⟨hK _ _ rfl, hF _ _ _ (by decide +kernel), hK _ _ rfl⟩
  · intro r hr
    rcases h5 r hr with rfl | rfl | rfl | rfl | rfl <;> (unfold rpK caK vtK cmK; repeat' (first | exact hK _ _ rfl | exact hF _ _ _ (by decide +kernel) | apply And.intro))
  · refine ⟨fun a _ _ => by show M.1[a]? = _; rw [hk], fun j a h => ?_⟩
    have hj : j < 42 := Nat.lt_of_lt_of_le (List.getElem?_eq_some_iff.mp h).1 x_rj_len
    have := x_rj_in j hj
    rw [h] at this
    exact hF _ _ _ this
  · rcases h5 r hr with rfl | rfl | rfl | rfl | rfl <;> exact ⟨⟨6, hF _ _ _ (by decide +kernel), hst⟩, 6, hF _ _ _ (by decide +kernel), hst⟩
  · exact (of_decide_eq_true (x_all_ok h2 hr)).1
/-- behind the two constructors -/
theorem St.zero : ∃ Ma M, x_rn1 = some (Ma, none) ∧ x_rn2 Ma = some (M, none) ∧ Ma.1 = x_Ka ∧ M.1 = x_K0 ∧ St 0 0 M (x_C0 M.2.1) := by
  obtain ⟨Ma, M, h1, h2, h⟩ := x_ini
  simp only [x_ckM, Bool.and_eq_true, decide_eq_true_eq] at h
  obtain ⟨ha, hk, hR, e1, e2, e3, e4, e5, e6, hL⟩ := h
  exact ⟨Ma, M, h1, h2, ha, hk, Rp.zero hk hR e1 e2 e6 hL, RelP.zero e2 e3 e4 e6, FI.zero e2 e3 e4 e5 e6⟩
