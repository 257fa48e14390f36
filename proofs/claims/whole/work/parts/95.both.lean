/-! both calls of an operation, one behind the other: the same answer, and the relation holds again -/
def St (B n : Nat) (M : xM) (C : xCC) : Prop := Rp M C ∧ RelP C M.2.1 ∧ FI B n M.2.1
def Two (B : Nat) (M : xM) (kc kr : Nat) (as : List Value) : Prop := ∃ v : Int32, Ev 10 kc M (.ref 0 :: as) (fun M1 w => w = some (.int v) ∧ Ext 100 M M1 ∧ Ev 10 kr M1 (.ref 74 :: as) (fun M2 w2 => w2 = some (.int v) ∧ M2.1 = M1.1 ∧ M2.2.2 = M1.2.2 ∧ ∃ B' n' C', B' ≤ B + 9 ∧ St B' n' M2 C'))
theorem x_K0_nr : ∀ a, a < 108 → x_K0[a]? ≠ some (false, 6, 5) := by decide +kernel
section BOTH
variable {B n : Nat} {M M1 : xM} {C C1 : xCC} {kc kr : Nat} {as : List Value}
theorem ext_ref {b : Nat} (h : Rp M C) (he : Ext b M M1) : ∀ a i, 74 ≤ a → a < 108 → M1.2.1 a i = M.2.1 a i := fun a i h1 h2 => by
  have hz : M.1[a]? = x_K0[a]? := h.2.2.1.2.2.2.2.1 a h1 h2
  have hl : a < M.1.length := by have := h.2.1; omega
  exact (he.1.2 a hl (by omega) (by rw [hz]; exact x_K0_nr a h2) i).1
theorem two_of (h : St B n M C) {v : Int32} {b : Nat} (hb : b ≤ 100) (hc : Ev 10 kc M (.ref 0 :: as) (fun M1 w => Rp M1 C1 ∧ Ext b M M1 ∧ w = some (.int v)))
    (hr : ∀ (Z : xZ) (I : xI), zok Z → RelP C I → FI B n I → ∃ J, ER Z 10 kr I (.ref 74 :: as) (fun I' w => I' = J ∧ w = some (.int v)) ∧ Fo I J ∧ RelP C1 J ∧ ∃ B' n', B' ≤ B + 9 ∧ FI B' n' J) : Two B M kc kr as := by
  obtain ⟨h1, h2, h3⟩ := h
  refine ⟨v, Ev.imp hc (fun M1 w hq => ?_)⟩
  obtain ⟨q1, q2, q3⟩ := hq
  have hI := ext_ref h1 q2
  have r2 : RelP C M1.2.1 := h2.c (fun a i z1 z2 => hI a i z1 (by omega))
  have r3 : FI B n M1.2.1 := h3.sm (fun a i z => hI a i (by omega) (by omega))
  obtain ⟨J, k1, k2, k3, B', n', k4, k5⟩ := hr (zO M1) M1.2.1 q1.2.2.1.2.2.2.2 r2 r3
  refine ⟨q3, q2.up hb, Ev.imp k1.ev (fun M2 w2 hq2 => ?_)⟩
  obtain ⟨rfl, rfl⟩ := hq2
  exact ⟨rfl, rfl, rfl, B', n', C1, k4, q1.ref k2, k3, k5⟩
/-- a call that changes nothing in the class -/
theorem two_0 (h : St B n M C) {v : Int32} (hc : Ev 10 kc M (.ref 0 :: as) (fun M1 w => M1 = M ∧ w = some (.int v)))
    (hr : ∀ (Z : xZ) (I : xI), zok Z → RelP C I → FI B n I → ∃ J, ER Z 10 kr I (.ref 74 :: as) (fun I' w => I' = J ∧ w = some (.int v)) ∧ Fo I J ∧ RelP C J ∧ FI B n J) : Two B M kc kr as :=
  two_of h (v := v) (b := 0) (C1 := C) (by decide) (Ev.imp hc (fun M1 w hq => by obtain ⟨e1, e2⟩ := hq; rw [e1, e2]; exact ⟨h.1, Ext.refl _, rfl⟩)) (fun Z I hz h2 h3 => by
    obtain ⟨J, k1, k2, k3, k4⟩ := hr Z I hz h2 h3
    exact ⟨J, k1, k2, k3, B, n, by omega, k4⟩)
/-- the same when the reference changes nothing either -/
theorem two_00 (h : St B n M C) {v : Int32} (hc : Ev 10 kc M (.ref 0 :: as) (fun M1 w => M1 = M ∧ w = some (.int v)))
    (hr : ∀ (Z : xZ) (I : xI), zok Z → RelP C I → FI B n I → ER Z 10 kr I (.ref 74 :: as) (fun I' w => I' = I ∧ w = some (.int v))) : Two B M kc kr as :=
  two_0 h hc (fun Z I hz h2 h3 => ⟨I, hr Z I hz h2 h3, Fo.refl I, h2, h3⟩)
/-- the same when the reference replays -/
theorem two_rp (h : St B n M C) {v : Int32} {e : Nat} (hc : Ev 10 kc M (.ref 0 :: as) (fun M1 w => M1 = M ∧ w = some (.int v)))
    (hr : ∀ (Z : xZ) (I : xI), zok Z → RelP C I → FI B n I → ER Z 10 kr I (.ref 74 :: as) (fun I' w => I' = f_rp I e ∧ w = some (.int v))) : Two B M kc kr as :=
  two_0 h hc (fun Z I hz h2 h3 => ⟨f_rp I e, hr Z I hz h2 h3, Fo.rp I e, h2.c (fun a i z1 z2 => f_rp_o I (by omega) e i), h3.sm (fun a i z => f_rp_o I (by omega) e i)⟩)
theorem two_wait (h : St B n M C) : Two B M 88 133 [] := by
  refine two_00 h (k_wait 2 h.1) (fun Z I hz h2 h3 => ?_)
  rw [h2.2.1]
  exact r_waiting 9 I hz
theorem two_reply (h : St B n M C) (x : Int32) : Two B M 93 139 [.int x] ∧ Two B M 94 140 [.int x] := by
  obtain ⟨n1, n2, _⟩ := h.1.n
  by_cases hx : x < nI 1 ∨ nI (c_n C) < x
  · exact ⟨two_00 h (k_rpl_n 2 h.1 hx) (fun Z I hz h2 h3 => r_reply_n 9 I (by rw [← h2.1.1]; exact n1) hx hz), two_00 h (k_hrd_n 2 h.1 hx) (fun Z I hz h2 h3 => r_heard_n 9 I (by rw [← h2.1.1]; exact n1) hx hz)⟩
  · have hx1 : nI 1 ≤ x := Int32.not_lt.mp (fun q => hx (Or.inl q))
    have hx2 : x ≤ nI (c_n C) := Int32.not_lt.mp (fun q => hx (Or.inr q))
    obtain ⟨q, q1, q2, rfl⟩ : ∃ q, 1 ≤ q ∧ q ≤ c_n C ∧ x = nI q := by
      rw [Int32.le_iff_toInt_le] at hx1 hx2
      rw [nI_toInt (by omega)] at hx2
      have e1 : (nI 1).toInt = 1 := rfl
      refine ⟨x.toInt.toNat, by omega, by omega, ?_⟩
      apply Int32.toInt_inj.mp
      rw [nI_toInt (by omega)]
      omega
    refine ⟨two_00 h (k_rpl 2 h.1 q1 q2) (fun Z I hz h2 h3 => ?_), two_00 h (k_hrd 2 h.1 q1 q2) (fun Z I hz h2 h3 => ?_)⟩
    · rw [(h2.1.2.1 q q1 q2).2.2.2.1]
      exact r_reply 9 I (by rw [← h2.1.1]; exact n1) n2 q1 q2 hz
    · rw [(h2.1.2.1 q q1 q2).2.2.2.2]
      exact r_heard 9 I (by rw [← h2.1.1]; exact n1) n2 q1 q2 hz
theorem i_rng {x : Int32} {a b : Nat} (hb : b < 2 ^ 31) (h1 : ¬ x < nI a) (h2 : ¬ nI b < x) (ha : a < 2 ^ 31) : ∃ s, a ≤ s ∧ s ≤ b ∧ x = nI s := by
  have h1' := Int32.not_lt.mp h1
  have h2' := Int32.not_lt.mp h2
  rw [Int32.le_iff_toInt_le, nI_toInt (by omega)] at h1' h2'
  refine ⟨x.toInt.toNat, by omega, by omega, ?_⟩
  apply Int32.toInt_inj.mp
  rw [nI_toInt (by omega)]
  omega
theorem two_vote (h : St B n M C) (x y : Int32) : Two B M 92 138 [.int x, .int y] := by
  by_cases hx : f_rep x = false ∨ y < nI 1 ∨ nI 24 < y
  · exact two_00 h (k_vot_n 2 h.1 hx) (fun Z I hz h2 h3 => r_vote_n 8 I hx hz)
  · have hf : f_rep x = true := Bool.not_eq_false _ ▸ (fun q => hx (Or.inl q))
    obtain ⟨r, hr, rfl⟩ := f_rep_x hf
    obtain ⟨s, s1, s2, rfl⟩ := i_rng (x := y) (a := 1) (b := 24) (by decide) (fun q => hx (Or.inr (Or.inl q))) (fun q => hx (Or.inr (Or.inr q))) (by decide)
    refine two_00 h (k_vot 2 h.1 hr s1 s2) (fun Z I hz h2 h3 => ?_)
    rw [h2.ant hr s1 s2]
    exact r_vote 8 I hr s1 s2 hz
theorem two_value (h : St B n M C) (x y : Int32) : Two B M 91 137 [.int x, .int y] := by
  by_cases hx : f_rep x = false ∨ y < 0 ∨ nI 3 < y
  · exact two_00 h (k_val_n 2 h.1 hx) (fun Z I hz h2 h3 => r_value_n 8 I hx hz)
  · have hf : f_rep x = true := Bool.not_eq_false _ ▸ (fun q => hx (Or.inl q))
    obtain ⟨r, hr, rfl⟩ := f_rep_x hf
    obtain ⟨s, s1, s2, rfl⟩ := i_rng (x := y) (a := 0) (b := 3) (by decide) (fun q => hx (Or.inr (Or.inl q))) (fun q => hx (Or.inr (Or.inr q))) (by decide)
    obtain ⟨_, _, ⟨f, e, _, a4, _, a6, _, _⟩, _⟩ := h.2.1.R hr
    refine two_0 h (k_val 2 h.1 hr (show s < 4 by omega)) (fun Z I hz h2 h3 => ?_)
    obtain ⟨G, hi, ho⟩ := h3
    obtain ⟨f', e', p', c1, c2, c3, c4, c5, c6, c7, c8⟩ := hi.e hr
    rw [h2.anv hi hr c2 c5 (show s < 4 by omega)]
    exact ⟨f_rp I e', r_value 7 I hr (by omega) c2 c5 hi.wf hz, Fo.rp I e', h2.c (fun a i z1 z2 => f_rp_o I (by omega) e' i), G, hi.rp e', fun r' hr' => (ho r' hr').sm (fun a i z => f_rp_o I (by omega) e' i)⟩
end BOTH
