/-! class and reference step alike: goOn -/
section SIMC
variable {B n : Nat} {C C' : xCC} {I I' : xI} {G : xGh} {r : Nat}
theorem RelP.cn (h : RelP C I) (hi : Inv B n I G) : c_n C = n := by
  rw [c_n, h.1.1, hi.1.1]
  exact nI_clamp (by have := hi.rq.1; omega)
theorem RelP.e (h : RelP C I) (hi : Inv B n I G) (hr : r < 5) {e : Nat} (he : I 83 r = nI e) (he2 : e ≤ 24) : C.2.1 r = PS I e ∧ sl (C.2.1 r) = e ∧ prD I e := by
  obtain ⟨_, _, ⟨f, e1, a3, a4, a5, a6, a7, a8⟩, _⟩ := h.R hr
  obtain ⟨_, e', _, _, c2, _, _, c5, c6, _, _⟩ := hi.e hr
  have ee : e = e1 := by
    rw [he] at a4
    exact (nI_eq (by omega) (by omega)).mp a4
  subst ee
  have ee' : e = e' := by
    rw [he] at c2
    exact (nI_eq (by omega) (by omega)).mp c2
  subst ee'
  exact ⟨a7, by rw [a7]; exact (PS_ok hi.rq hi.ch e he2 c6).2, c6⟩
theorem RelP.kok (h : RelP C I) (hi : Inv B n I G) (hr : r < 5) : kOK C r := by
  intro s s1 s2
  obtain ⟨_, _, _, b1, _⟩ := h.R hr
  rw [b1 s s1 s2, h.cn hi]
  cases hb : bt (I 84 r) s with
  | true =>
    obtain ⟨q, q1, q2⟩ := hi.ch.at s1 s2 ((hi.R hr).1.2.2 s s1 s2 hb)
    rw [if_pos rfl]
    exact Or.inr ⟨q, q1, q2⟩
  | false =>
    left
    simp
theorem RelP.exs (hr : r < 5) : ∀ (m e : Nat) (C : xCC) (I : xI), RelP C I → Inv B n I G → I 83 r = nI e → e + m ≤ 24 → RelP (c_exs C r m) (f_ex I r e m).1 := by
  intro m
  induction m with
  | zero => intro e C I h _ _ _; exact h
  | succ m ih =>
    intro e C I h hi he hm
    obtain ⟨e1, e2, e3⟩ := h.e hi hr he (by omega)
    rw [c_exs, f_ex, e2, h.kn hi hr (by omega) (by omega)]
    by_cases hk : f_know I r (e + 1) = true
    · rw [if_pos hk, if_pos hk]
      have hk' := hk
      rw [f_know_b _ _ (by omega)] at hk'
      have h80 := (hi.R hr).1.2.2 (e + 1) (by omega) (by omega) hk'
      obtain ⟨q, q1, q2⟩ := hi.ch.at (by omega) (by omega) h80
      obtain ⟨_, _, _, b1, _⟩ := h.R hr
      have e5 : C.1 (9 + 13 * r + 5) (e + 1) = nI q := by
        rw [b1 (e + 1) (by omega) (by omega), if_pos hk', q2]
      have n40 := hi.rq.1
      rw [e5, nI_clamp (by omega)]
      have hpd : prD I (e + 1) := fun s s1 s2 => by
        by_cases z : s = e + 1
        · rw [z]; exact h80
        · exact e3 s s1 (by omega)
      exact ih (e + 1) _ _ (h.exe hi hr he (by omega) q2 q1 hpd) (hi.ex1 hr he (by omega) hk).1 (f_ex1_e I r e) (by omega)
    · rw [if_neg hk, if_neg hk]
      exact h
theorem RelP.col (h : RelP C I) (hi : Inv B n I G) (hr : r < 5) (hp : 0 < I 87 r) {s : Nat} (s1 : 1 ≤ s) (s2 : s ≤ 24) : c_vh C.1 (9 + 13 * r + 7) s = decide (0 < I 89 (25 * r + s)) ∧ (0 < I 89 (25 * r + s) → c_vc C.1 (9 + 13 * r + 7) s = I 90 (25 * r + s)) := by
  obtain ⟨_, _, _, _, _, b3⟩ := h.R hr
  rcases b3 with b3 | ⟨d1, d2, d3, d4⟩
  · rw [b3.1] at hp
    exact (i_irr hp).elim
  · obtain ⟨k1, k2, k3, k4, k5⟩ := d4 s s1 s2
    have h0 := (((hi.R hr).2.2.2.2.2 hp).2.2 s s1 s2).2.1.1
    have e : c_vh C.1 (9 + 13 * r + 7) s = decide (0 < I 89 (25 * r + s)) := by
      rw [c_vh, c_sl_t.mpr ⟨s1, s2⟩, Bool.true_and, show 9 + 13 * r + 7 + 1 = 9 + 13 * r + 8 from rfl, k1]
      by_cases z : I 89 (25 * r + s) = 0
      · rw [z]
        decide
      · rw [decide_eq_true z]
        refine (decide_eq_true ?_).symm
        rw [Int32.le_iff_toInt_le] at h0
        rw [Int32.lt_iff_toInt_lt]
        have : (I 89 (25 * r + s)).toInt ≠ (0 : Int32).toInt := fun y => z (Int32.toInt_inj.mp y)
        omega
    refine ⟨e, fun z => ?_⟩
    rw [c_vc, e, decide_eq_true z, if_pos rfl, show 9 + 13 * r + 7 + 2 = 9 + 13 * r + 9 from rfl]
    exact k2 (fun y => by rw [y] at z; exact i_irr z)
theorem RelP.abv (h : RelP C I) (hi : Inv B n I G) (hr : r < 5) (hp : 0 < I 87 r) {s : Nat} : ∀ m, s + m ≤ 24 → (c_cha C.1 (9 + 13 * r + 4) s m || c_va C.1 (9 + 13 * r + 7) s m) = f_ab I r s m := by
  intro m
  induction m with
  | zero => intro _; rfl
  | succ m ih =>
    intro hm
    have e1 := h.kn hi hr (s := s + (m + 1)) (by omega) (by omega)
    have e2 := (h.col hi hr hp (s := s + (m + 1)) (by omega) (by omega)).1
    rw [c_cha, c_va, f_ab, ← ih (by omega), e1, e2, show s + 1 + m = s + (m + 1) by omega]
    cases f_know I r (s + (m + 1)) <;> cases c_cha C.1 (9 + 13 * r + 4) s m <;> cases c_va C.1 (9 + 13 * r + 7) s m <;> cases decide (0 < I 89 (25 * r + (s + (m + 1)))) <;> rfl
theorem RelP.opn (h : RelP C I) (hi : Inv B n I G) (hr : r < 5) (hp : 0 < I 87 r) {s : Nat} (s1 : 1 ≤ s) (s2 : s ≤ 24) : c_opn C.1 (9 + 13 * r) s = !(f_know I r s || decide (0 ≤ I 91 (25 * r + s))) := by
  rw [c_opn, c_sl_t.mpr ⟨s1, s2⟩, Bool.true_and, h.kn hi hr s1 s2, h.pro hr hp s1 s2, Bool.not_or]
theorem RelP.sp (h : RelP C I) (hi : Inv B n I G) (hr : r < 5) (hp : 0 < I 87 r) {s e : Nat} (he : I 83 r = nI e) (he2 : e ≤ 24) (s1 : e < s) (s2 : s ≤ e + 3) : c_sp C r s = f_maj (I 88 r) (f_mem I e s) := by
  obtain ⟨e1, e2, e3⟩ := h.e hi hr he he2
  obtain ⟨_, _, _, _, _, b3⟩ := h.R hr
  rcases b3 with b3 | ⟨d1, d2, d3, d4⟩
  · rw [b3.1] at hp
    exact (i_irr hp).elim
  · rw [c_sp, d3, e1, f_mem_m hi.rq hi.ch he2 e3 s2, PS_mo (PS_ok hi.rq hi.ch e he2 e3).2 s1 s2]
theorem c_du_n {s : Nat} (h : c_opn C.1 (9 + 13 * r) s = false) : c_du C r s = -1 := by
  rw [c_du, h, Bool.and_false, Bool.false_and, if_neg (by decide)]
theorem RelP.g2s (h : RelP C I) (hi : Inv B n I G) (hr : r < 5) {s e : Nat} (hc : f_camp I r = true) (he : I 83 r = nI e) (he2 : e ≤ 24) (s1 : e < s) (s2 : s ≤ e + 3) (s3 : s ≤ 24) : RelP (if c_du C r s = -1 then C else c_prp C r s (c_du C r s)) (f_g2s I r s e) := by
  have hcc := hc
  rw [f_camp, Bool.and_eq_true, decide_eq_true_eq, decide_eq_true_eq] at hcc
  have ho := h.opn hi hr hcc.1 (show 1 ≤ s by omega) s3
  have o : ∀ a i, a < 104 → f_rp I e a i = I a i := fun a i ha => f_rp_o I (by omega) e i
  have h0 : RelP C (f_rp I e) := h.c (fun a i z1 z2 => o a i (by omega))
  have i0 := hi.rp e
  have n40 := hi.rq.1
  have key : ∀ q, q ≤ n → c_du C r s = nI q → RelP (if c_du C r s = -1 then C else c_prp C r s (c_du C r s)) (f_prop (f_rp I e) r s e (nI q)) := fun q q1 q2 => by
    rw [q2, if_neg (fun z : nI q = -1 => by
      have := nI_pos' (n := q) (by omega)
      rw [z] at this
      exact absurd m1_lt (Int32.not_lt.mpr this))]
    exact h0.prp i0 hr (by rw [o _ _ (by decide)]; exact hcc.1) (by rw [o _ _ (by decide)]; exact he) he2 s1 s2 s3 (by omega)
  rw [f_g2s]
  by_cases k1 : (f_know I r s || decide (0 ≤ I 91 (25 * r + s))) = true
  · rw [if_pos k1, c_du_n (by rw [ho, k1]; rfl), if_pos rfl]
    exact h
  · rw [if_neg k1]
    have k1' : (f_know I r s || decide (0 ≤ I 91 (25 * r + s))) = false := Bool.not_eq_true _ ▸ k1
    have ho' : c_opn C.1 (9 + 13 * r) s = true := by rw [ho, k1']; rfl
    have hsp := h.sp hi hr hcc.1 he he2 s1 s2
    by_cases k2 : f_maj (I 88 r) (f_mem I e s) = false
    · have hd : c_du C r s = -1 := by
        rw [c_du, hsp, k2, Bool.and_false, if_neg (by decide)]
      rw [if_pos k2, hd, if_pos rfl]
      exact h0
    · rw [if_neg k2]
      have k2' : f_maj (I 88 r) (f_mem I e s) = true := Bool.not_eq_false _ ▸ k2
      have hdu : c_du C r s = if c_vh C.1 (9 + 13 * r + 7) s = true then c_vc C.1 (9 + 13 * r + 7) s else if (c_cha C.1 (9 + 13 * r + 4) s (24 - s) || c_va C.1 (9 + 13 * r + 7) s (24 - s)) = true then nI 0 else -1 := by
        rw [c_du, h.cmp hi hr, hc, ho', hsp, k2', if_pos (show (true && true && true) = true from rfl)]
      obtain ⟨v1, v2⟩ := h.col hi hr hcc.1 (show 1 ≤ s by omega) s3
      by_cases k3 : 0 < I 89 (25 * r + s)
      · rw [if_pos k3]
        obtain ⟨_, _, _, ⟨q, q1, q2⟩, _⟩ := hi.Bq _ _ _ ((((hi.R hr).2.2.2.2.2 hcc.1).2.2 s (by omega) s3).2.1.2.2 k3)
        rw [q2]
        refine key q q1 ?_
        rw [hdu, v1, decide_eq_true k3, if_pos rfl, v2 k3, q2]
      · rw [if_neg k3]
        have hab : f_ab (f_rp I e) r s (24 - s) = f_ab I r s (24 - s) := by
          rw [← h0.abv i0 hr (by rw [o _ _ (by decide)]; exact hcc.1) (24 - s) (by omega), ← h.abv hi hr hcc.1 (24 - s) (by omega)]
        rw [v1, decide_eq_false k3, if_neg (by decide), h.abv hi hr hcc.1 (24 - s) (by omega)] at hdu
        rw [hab]
        by_cases k4 : f_ab I r s (24 - s) = true
        · rw [if_pos k4] at hdu ⊢
          exact key 0 (Nat.zero_le _) hdu
        · rw [if_neg k4] at hdu ⊢
          rw [hdu, if_pos rfl]
          exact h0
theorem RelP.win (h : RelP C I) (hi : Inv B n I G) (hr : r < 5) {e : Nat} (hc : f_camp I r = true) (he : I 83 r = nI e) (he2 : e ≤ 24) : ∀ m, m ≤ 3 → e + m ≤ 24 → RelP (c_win C r e m) (f_go2 I r e m) := by
  intro m
  induction m with
  | zero => intro _ _; exact h
  | succ m ih =>
    intro hm hm2
    have h1 := ih (by omega) (by omega)
    obtain ⟨G1, i1, _, _⟩ := hi.go2 hr hc he he2 m (by omega) (by omega)
    have o : ∀ a i, a < 85 ∨ (86 < a ∧ a < 91) → a ≠ 74 → f_go2 I r e m a i = I a i := fun a i ha hb => f_go2_o I r e (by omega) (by omega) m
    rw [c_win, f_go2]
    exact h1.g2s i1 hr (by rw [f_camp_c (I := I) (o _ _ (by decide) (by decide)) (o _ _ (by decide) (by decide))]; exact hc) (by rw [o _ _ (by decide) (by decide)]; exact he) he2 (by omega) (by omega) (by omega)
theorem c_win_hi (C : xCC) (r e : Nat) : ∀ m, e + m ≤ 24 ∨ 24 ≤ e → ∀ j, 24 < e + 1 + m → c_win C r e (m + j) = c_win C r e m := by
  intro m _ j
  induction j with
  | zero => intro _; rfl
  | succ j ih =>
    intro hm
    have e1 : c_du (c_win C r e (m + j)) r (e + 1 + (m + j)) = -1 := by
      apply c_du_n
      rw [c_opn, c_sl_f.mpr (by omega), Bool.false_and, Bool.false_and]
    show (if c_du (c_win C r e (m + j)) r (e + 1 + (m + j)) = -1 then c_win C r e (m + j) else _) = _
    rw [if_pos e1]
    exact ih hm
theorem c_win_nc (C : xCC) (r e : Nat) (h : c_cmpg C.1 (9 + 13 * r) = false) : ∀ m, c_win C r e m = C := by
  intro m
  induction m with
  | zero => rfl
  | succ m ih =>
    have e1 : c_du (c_win C r e m) r (e + 1 + m) = -1 := by
      rw [ih, c_du, h, Bool.false_and, Bool.false_and, if_neg (by decide)]
    show (if c_du (c_win C r e m) r (e + 1 + m) = -1 then c_win C r e m else _) = _
    rw [if_pos e1]
    exact ih
theorem RelP.go (h : RelP C I) (hi : Inv B n I G) (hr : r < 5) {e : Nat} (he : I 83 r = nI e) (he2 : e ≤ 24) : RelP (c_go C r) (f_go I r e) := by
  obtain ⟨e1, e2, e3⟩ := h.e hi hr he he2
  have h1 := RelP.exs (G := G) (B := B) (n := n) hr (24 - e) e C I h hi he (by omega)
  obtain ⟨i1, _⟩ := Inv.ex (G := G) (B := B) (n := n) hr (24 - e) e I hi he (by omega)
  obtain ⟨x1, x2, x3, x4⟩ := f_ex_inv (r := r) (24 - e) e I he (by omega) hi.wf hi.1.2.2.2.1
  rw [c_go, f_go, e2]
  generalize (f_ex I r e (24 - e)).1 = J at h1 i1 x1 x3 x4
  generalize (f_ex I r e (24 - e)).2 = g at x1 x2
  generalize c_exs C r (24 - e) = D at h1
  obtain ⟨g1, g2, g3⟩ := h1.e i1 hr x1 x2
  rw [g2]
  by_cases hc : f_camp J r = true
  · rw [if_pos hc]
    have h2 := h1.win i1 hr hc x1 x2 (min 3 (24 - g)) (by omega) (by omega)
    have e4 : c_win D r g 3 = c_win D r g (min 3 (24 - g)) := by
      by_cases z : 24 - g < 3
      · have := c_win_hi D r g (24 - g) (by omega) (3 - (24 - g)) (by omega)
        rw [show 24 - g + (3 - (24 - g)) = 3 by omega] at this
        rw [this, show min 3 (24 - g) = 24 - g by omega]
      · rw [show min 3 (24 - g) = 3 by omega]
    rw [e4]
    exact h2
  · rw [if_neg hc, c_win_nc _ _ _ (by rw [h1.cmp i1 hr]; exact Bool.not_eq_true _ ▸ hc)]
    exact h1
end SIMC
