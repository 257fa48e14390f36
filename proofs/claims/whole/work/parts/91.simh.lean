/-! class and reference step alike: send -/
section SIMHH
variable {B n : Nat} {C C' : xCC} {I I' : xI} {G : xGh} {r : Nat}
def f_hit (I : xI) (r t : Nat) (q : Int32) : Bool := f_know I r t && decide (I 80 t = q) || decide (I 91 (25 * r + t) = q)
def f_opn (I : xI) (r t : Nat) : Bool := !f_know I r t && decide (I 91 (25 * r + t) < 0)
theorem f_sd_n {J : xI} {e : Nat} {q : Int32} : ∀ (m fr : Nat), f_sd J r e q m fr = none → ∃ t, e < t ∧ t ≤ e + m ∧ f_hit J r t q = true := by
  intro m
  induction m with
  | zero => intro fr h; exact absurd h (by simp [f_sd])
  | succ m ih =>
    intro fr h
    rw [f_sd] at h
    split at h
    · rename_i z
      exact ⟨e + (m + 1), by omega, by omega, z⟩
    · obtain ⟨t, t1, t2, t3⟩ := ih _ h
      exact ⟨t, t1, by omega, t3⟩
theorem f_sd_t {J : xI} {e : Nat} {q : Int32} : ∀ (m fr : Nat) {g : Nat}, f_sd J r e q m fr = some g → (∀ t, e < t → t ≤ e + m → f_hit J r t q = false) ∧ ((g = fr ∧ ∀ t, e < t → t ≤ e + m → f_opn J r t = false) ∨ (e < g ∧ g ≤ e + m ∧ f_opn J r g = true ∧ ∀ t, e < t → t < g → f_opn J r t = false)) := by
  intro m
  induction m with
  | zero => intro fr g h; exact ⟨fun t t1 t2 => by omega, Or.inl ⟨(Option.some.inj h).symm, fun t t1 t2 => by omega⟩⟩
  | succ m ih =>
    intro fr g h
    rw [f_sd] at h
    split at h
    · exact absurd h (by simp)
    · rename_i z
      have z' : f_hit J r (e + (m + 1)) q = false := Bool.not_eq_true _ ▸ z
      obtain ⟨k1, k2⟩ := ih _ h
      refine ⟨fun t t1 t2 => ?_, ?_⟩
      · by_cases y : t = e + (m + 1)
        · rw [y]; exact z'
        · exact k1 t t1 (by omega)
      · rcases k2 with ⟨l1, l2⟩ | ⟨l1, l2, l3, l4⟩
        · split at l1
          · rename_i y
            right
            refine ⟨by omega, by omega, by rw [l1]; exact y, fun t t1 t2 => l2 t t1 (by omega)⟩
          · rename_i y
            left
            refine ⟨l1, fun t t1 t2 => ?_⟩
            by_cases w : t = e + (m + 1)
            · rw [w]
              exact Bool.not_eq_true _ ▸ y
            · exact l2 t t1 (by omega)
        · exact Or.inr ⟨l1, by omega, l3, l4⟩
theorem RelP.hit (h : RelP C I) (hi : Inv B n I G) (hr : r < 5) (hp : 0 < I 87 r) {t q : Nat} (t1 : 1 ≤ t) (t2 : t ≤ 24) (hq : q ≤ 40) : (decide (c_ca C.1 (9 + 13 * r + 4) t = nI q) || decide (c_ca C.1 (9 + 13 * r + 10) t = nI q)) = f_hit I r t (nI q) := by
  obtain ⟨_, _, _, b1, _, b3⟩ := h.R hr
  have hs := c_sl_t.mpr ⟨t1, t2⟩
  have hne : ¬ (-1 : Int32) = nI q := fun z => by
    have := nI_pos' (n := q) (by omega)
    rw [← z] at this
    exact absurd m1_lt (Int32.not_lt.mpr this)
  rcases b3 with b3 | ⟨d1, d2, d3, d4⟩
  · rw [b3.1] at hp
    exact (i_irr hp).elim
  · have k3 := (d4 t t1 t2).2.2.1
    rw [c_ca, c_ca, if_pos hs, if_pos hs, f_hit, f_know_b _ _ t2, show C.1 (9 + 13 * r + 4 + 1) t = _ from b1 t t1 t2, show C.1 (9 + 13 * r + 10 + 1) t = _ from k3]
    cases bt (I 84 r) t with
    | true => rw [if_pos rfl, Bool.true_and]
    | false => rw [if_neg (by decide), decide_eq_false hne, Bool.false_and]
theorem RelP.cca (h : RelP C I) (hi : Inv B n I G) (hr : r < 5) (hp : 0 < I 87 r) {q e : Nat} (hq : q ≤ 40) : ∀ m, e + m ≤ 24 → (((c_cca C.1 (9 + 13 * r + 4) e (nI q) m || c_cca C.1 (9 + 13 * r + 10) e (nI q) m) = true) ↔ ∃ t, e < t ∧ t ≤ e + m ∧ f_hit I r t (nI q) = true) := by
  intro m
  induction m with
  | zero =>
    intro _
    constructor
    · intro z
      exact absurd (show false = true from z) (by decide)
    · rintro ⟨t, t1, t2, _⟩
      omega
  | succ m ih =>
    intro hm
    have ih' := ih (by omega)
    have hh := h.hit hi hr hp (t := e + (m + 1)) (by omega) (by omega) hq
    rw [c_cca, c_cca]
    constructor
    · intro z
      by_cases y : f_hit I r (e + (m + 1)) (nI q) = true
      · exact ⟨e + (m + 1), by omega, by omega, y⟩
      · have y' := Bool.not_eq_true _ ▸ y
        rw [y', Bool.or_eq_false_iff] at hh
        rw [hh.1, hh.2, Bool.false_or, Bool.false_or] at z
        obtain ⟨t, t1, t2, t3⟩ := ih'.mp z
        exact ⟨t, t1, by omega, t3⟩
    · rintro ⟨t, t1, t2, t3⟩
      by_cases y : t = e + (m + 1)
      · rw [y, ← hh, Bool.or_eq_true] at t3
        rcases t3 with t3 | t3
        · rw [t3]; simp
        · rw [t3]; simp
      · have := ih'.mpr ⟨t, t1, by omega, t3⟩
        rw [Bool.or_eq_true] at this
        rcases this with w | w
        · rw [w]; simp
        · rw [w]; simp
theorem RelP.fop (h : RelP C I) (hi : Inv B n I G) (hr : r < 5) (hp : 0 < I 87 r) {t : Nat} (t1 : 1 ≤ t) (t2 : t ≤ 24) : c_opn C.1 (9 + 13 * r) t = f_opn I r t := by
  rw [h.opn hi hr hp t1 t2, f_opn, Bool.not_or]
  congr 1
  by_cases z : 0 ≤ I 91 (25 * r + t)
  · rw [decide_eq_true z, decide_eq_false (Int32.not_lt.mpr z)]
    rfl
  · rw [decide_eq_false z, decide_eq_true (Int32.not_le.mp z)]
    rfl
theorem RelP.foa (h : RelP C I) (hi : Inv B n I G) (hr : r < 5) (hp : 0 < I 87 r) {e g : Nat} (he : e ≤ 24) (hg : (g = 0 ∧ ∀ t, e < t → t ≤ 24 → f_opn I r t = false) ∨ (e < g ∧ g ≤ 24 ∧ f_opn I r g = true ∧ ∀ t, e < t → t < g → f_opn I r t = false)) : c_foa C.1 (9 + 13 * r) e = if g = 0 ∨ e + 3 < g then 0 else g := by
  have op : ∀ t, e < t → c_opn C.1 (9 + 13 * r) t = (decide (t ≤ 24) && f_opn I r t) := fun t t1 => by
    by_cases z : t ≤ 24
    · rw [decide_eq_true z, Bool.true_and]
      exact h.fop hi hr hp (by omega) z
    · rw [decide_eq_false z, Bool.false_and, c_opn, c_sl_f.mpr (by omega), Bool.false_and, Bool.false_and]
  have no : ∀ t, e < t → (g = 0 ∨ t < g) → c_opn C.1 (9 + 13 * r) t = false := fun t t1 t2 => by
    rw [op t t1]
    by_cases z : t ≤ 24
    · rw [decide_eq_true z, Bool.true_and]
      rcases hg with ⟨g1, g2⟩ | ⟨g1, g2, g3, g4⟩
      · exact g2 t t1 z
      · exact g4 t t1 (by omega)
    · rw [decide_eq_false z, Bool.false_and]
  have yes : g ≠ 0 → c_opn C.1 (9 + 13 * r) g = true := fun z => by
    rcases hg with ⟨g1, g2⟩ | ⟨g1, g2, g3, g4⟩
    · exact absurd g1 z
    · rw [op g g1, decide_eq_true g2, g3]
      rfl
  have hgt : g ≠ 0 → e < g := fun z => by
    rcases hg with ⟨g1, g2⟩ | ⟨g1, _⟩
    · exact absurd g1 z
    · exact g1
  rw [c_foa]
  by_cases z : g = 0 ∨ e + 3 < g
  · rw [if_pos z, no (e + 1) (by omega) (by omega), no (e + 2) (by omega) (by omega), no (e + 3) (by omega) (by omega), if_neg (by decide), if_neg (by decide), if_neg (by decide)]
  · have z0 : g ≠ 0 := fun y => z (Or.inl y)
    have zl := hgt z0
    rw [if_neg z]
    have h3 : g = e + 1 ∨ g = e + 2 ∨ g = e + 3 := by omega
    have hy := yes z0
    rcases h3 with y | y | y
    · rw [y] at hy
      rw [if_pos hy, y]
    · rw [y] at hy
      rw [no (e + 1) (by omega) (by omega), if_neg (by decide), if_pos hy, y]
    · rw [y] at hy
      rw [no (e + 1) (by omega) (by omega), if_neg (by decide), no (e + 2) (by omega) (by omega), if_neg (by decide), if_pos hy, y]
theorem RelP.sn (h : RelP C I) (hi : Inv B n I G) (hr : r < 5) {q e : Nat} (h1 : 1 ≤ q) (hq : q ≤ n) (he : I 83 r = nI e) (he2 : e ≤ 24) : RelP (c_tkr C r q).1 (f_sn I r q e).1 ∧ (c_tkr C r q).2 = (f_sn I r q e).2 := by
  obtain ⟨e1, e2, e3⟩ := h.e hi hr he he2
  have n40 := hi.rq.1
  have o : ∀ a i, a < 104 → f_rp I e a i = I a i := fun a i ha => f_rp_o I (by omega) e i
  have h0 : RelP C (f_rp I e) := h.c (fun a i z1 z2 => o a i (by omega))
  have i0 := hi.rp e
  have lk := Lk_all hi.rq hi.ch e he2 e3
  obtain ⟨l1, l2⟩ := lk.2.1 q (by omega)
  rw [c_tkr, f_sn, e1, l1]
  by_cases hd : c_dn (PS I e).2 q = true
  · rw [if_pos hd, hd, if_pos (show bI true ≠ 0 by decide)]
    exact ⟨h0.hear _ (by rw [h.cn hi]; exact hq) l2.symm, rfl⟩
  · have hd' : c_dn (PS I e).2 q = false := Bool.not_eq_true _ ▸ hd
    rw [if_neg hd, hd', if_neg (show ¬ bI false ≠ 0 by decide), h.cmp hi hr, f_camp_c (I := I) (o _ _ (by decide)) (o _ _ (by decide))]
    by_cases hc : f_camp I r = false
    · rw [if_pos hc, if_pos hc]
      exact ⟨h0, rfl⟩
    · rw [if_neg hc, if_neg hc]
      have hc' : f_camp I r = true := Bool.not_eq_false _ ▸ hc
      have hcc := hc'
      rw [f_camp, Bool.and_eq_true, decide_eq_true_eq, decide_eq_true_eq] at hcc
      have hp0 : 0 < f_rp I e 87 r := by rw [o _ _ (by decide)]; exact hcc.1
      rw [← e1, e2]
      have hcca := h0.cca i0 hr hp0 (q := q) (e := e) (by omega) (24 - e) (by omega)
      cases hsd : f_sd (f_rp I e) r e (nI q) (24 - e) 0 with
      | none =>
        rw [if_pos (hcca.mpr (f_sd_n _ _ hsd))]
        exact ⟨h0, rfl⟩
      | some fr =>
        obtain ⟨k1, k2⟩ := f_sd_t _ _ hsd
        rw [show e + (24 - e) = 24 by omega] at k1 k2
        rw [if_neg (fun z => by
          obtain ⟨t, t1, t2, t3⟩ := hcca.mp z
          rw [k1 t t1 (by omega)] at t3
          exact absurd t3 (by decide)), h0.foa i0 hr hp0 he2 k2]
        by_cases z : fr = 0 ∨ e + 3 < fr
        · have z2 : (if fr = 0 ∨ e + 3 < fr then 0 else fr) = 0 := if_pos z
          rw [z2]
          have hs0 : c_sl 0 = false := rfl
          rw [hs0, Bool.false_and, if_neg (by decide)]
          show RelP C (if fr = 0 ∨ e + 3 < fr then _ else _ : xI × Nat).1 ∧ 4 = (if fr = 0 ∨ e + 3 < fr then _ else _ : xI × Nat).2
          rw [if_pos z]
          exact ⟨h0, rfl⟩
        · have z2 : (if fr = 0 ∨ e + 3 < fr then 0 else fr) = fr := if_neg z
          rw [z2]
          have hfr : e < fr ∧ fr ≤ 24 := by
            rcases k2 with ⟨g1, _⟩ | ⟨g1, g2, _⟩
            · exact absurd (Or.inl g1) z
            · exact ⟨g1, g2⟩
          have hs1 : c_sl fr = true := c_sl_t.mpr ⟨by omega, hfr.2⟩
          have hsp := h0.sp i0 hr hp0 (s := fr) (by rw [o _ _ (by decide)]; exact he) he2 hfr.1 (by omega)
          rw [hs1, Bool.true_and, hsp]
          show RelP (if f_maj (f_rp I e 88 r) (f_mem (f_rp I e) e fr) = true then (c_prp C r fr (nI q), 2) else (C, 4) : xCC × Nat).1 (if fr = 0 ∨ e + 3 < fr then (f_rp I e, 4) else if f_maj (f_rp I e 88 r) (f_mem (f_rp I e) e fr) = false then (f_rp (f_rp I e) e, 4) else (f_prop (f_rp (f_rp I e) e) r fr e (nI q), 2) : xI × Nat).1 ∧ (if f_maj (f_rp I e 88 r) (f_mem (f_rp I e) e fr) = true then (c_prp C r fr (nI q), 2) else (C, 4) : xCC × Nat).2 = (if fr = 0 ∨ e + 3 < fr then (f_rp I e, 4) else if f_maj (f_rp I e 88 r) (f_mem (f_rp I e) e fr) = false then (f_rp (f_rp I e) e, 4) else (f_prop (f_rp (f_rp I e) e) r fr e (nI q), 2) : xI × Nat).2
          rw [if_neg z]
          have w : ∀ a i, a < 104 → f_rp (f_rp I e) e a i = f_rp I e a i := fun a i ha => f_rp_o _ (by omega) e i
          have h2 : RelP C (f_rp (f_rp I e) e) := h0.c (fun a i z1 z2 => w a i (by omega))
          by_cases hj : f_maj (f_rp I e 88 r) (f_mem (f_rp I e) e fr) = true
          · rw [if_pos hj, if_neg (by rw [hj]; decide)]
            exact ⟨h2.prp (i0.rp e) hr (by rw [w _ _ (by decide)]; exact hp0) (by rw [w _ _ (by decide), o _ _ (by decide)]; exact he) he2 hfr.1 (by omega) hfr.2 (by omega), rfl⟩
          · rw [if_neg hj, if_pos (Bool.not_eq_true _ ▸ hj)]
            exact ⟨h2, rfl⟩
end SIMHH
