/-! class and reference step alike: promises, crash, restart, ask, fetch, timer, send -/
section SIMF
variable {B n : Nat} {C C' : xCC} {I I' : xI} {G : xGh} {r : Nat}
theorem RelP.sup (h : RelP C I) (hr : r < 5) (hp : 0 < I 87 r) {t : Int32} {V : Nat → Nat → Int32} (h0 : ∀ s, 1 ≤ s → s ≤ 24 → 0 ≤ I 89 (25 * r + s)) (hV : ∀ s, 1 ≤ s → s ≤ 24 → V 1 s = I 102 s ∧ (I 102 s ≠ 0 → V 2 s = I 103 s)) : RelP (c_oP1 C r t V) (f_mg (x_u I 88 r (I 88 r ||| (nI 1 <<< (t &&& 31)))) r 24) := by
  obtain ⟨m1, m2, m3⟩ := f_mg_at (x_u I 88 r (I 88 r ||| (nI 1 <<< (t &&& 31)))) r 24 (Nat.le_refl _)
  have w : ∀ a i, a ≠ 88 → x_u I 88 r (I 88 r ||| (nI 1 <<< (t &&& 31))) a i = I a i := fun a i ha => x_u_ne _ _ (fun q => ha q.1)
  simp only [w 89 _ (by decide), w 90 _ (by decide), w 102 _ (by decide), w 103 _ (by decide)] at m2
  have u8 : f_mg (x_u I 88 r (I 88 r ||| (nI 1 <<< (t &&& 31)))) r 24 88 r = I 88 r ||| (nI 1 <<< (t &&& 31)) := (m3 88 r (by decide)).trans (x_u_eq _ _ _ _)
  have u : ∀ a i, a ≠ 88 → a ≠ 89 → a ≠ 90 → f_mg (x_u I 88 r (I 88 r ||| (nI 1 <<< (t &&& 31)))) r 24 a i = I a i := fun a i x y z => (m3 a i ⟨y, z⟩).trans (w a i x)
  have u8o : ∀ i, i ≠ r → f_mg (x_u I 88 r (I 88 r ||| (nI 1 <<< (t &&& 31)))) r 24 88 i = I 88 i := fun i z => (m3 88 i (by decide)).trans (x_u_ne _ _ (fun q => z q.2))
  have u9o : ∀ a i, a = 89 ∨ a = 90 → ¬ (25 * r + 1 ≤ i ∧ i ≤ 25 * r + 24) → f_mg (x_u I 88 r (I 88 r ||| (nI 1 <<< (t &&& 31)))) r 24 a i = I a i := fun a i z1 z2 => (m1 a i z1 z2).trans (w a i (by omega))
  generalize f_mg (x_u I 88 r (I 88 r ||| (nI 1 <<< (t &&& 31)))) r 24 = I' at m2 u8 u u8o u9o
  obtain ⟨a1, a2, ⟨f, e, a3, a4, a5, a6, a7, a8⟩, b1, b2, b3⟩ := h.R hr
  obtain ⟨d1, d2, d3, d4⟩ : 0 < I 87 r ∧ C.1 (9 + 13 * r + 6) 0 = I 87 r ∧ C.1 (9 + 13 * r + 6) 1 = I 88 r ∧ _ := by
    rcases b3 with b3 | b3
    · rw [b3.1] at hp
      exact (i_irr hp).elim
    · exact b3
  have v : ∀ a i, (a ≠ 9 + 13 * r + 6 ∨ i ≠ 1) → (a ≠ 9 + 13 * r + 8 ∧ a ≠ 9 + 13 * r + 9) → (c_oP1 C r t V).1 a i = C.1 a i := fun a i z1 z2 => by
    show c_mgv (x_u C.1 (9 + 13 * r + 6) 1 (C.1 (9 + 13 * r + 6) 1 ||| (nI 1 <<< (t &&& 31)))) (9 + 13 * r + 7) V a i = _
    rw [c_mgv, if_neg (by omega), if_neg (by omega), x_u_ne _ _ (by omega)]
  have v1 : (c_oP1 C r t V).1 (9 + 13 * r + 6) 1 = I 88 r ||| (nI 1 <<< (t &&& 31)) := by
    show c_mgv (x_u C.1 (9 + 13 * r + 6) 1 (C.1 (9 + 13 * r + 6) 1 ||| (nI 1 <<< (t &&& 31)))) (9 + 13 * r + 7) V (9 + 13 * r + 6) 1 = _
    rw [c_mgv, if_neg (by omega), if_neg (by omega), x_u_eq, d3]
  have v8 : ∀ s, 1 ≤ s → s ≤ 24 → (c_oP1 C r t V).1 (9 + 13 * r + 8) s = if I 89 (25 * r + s) < I 102 s then I 102 s else I 89 (25 * r + s) := fun s s1 s2 => by
    obtain ⟨k1, _⟩ := d4 s s1 s2
    obtain ⟨l1, _⟩ := hV s s1 s2
    show c_mgv (x_u C.1 (9 + 13 * r + 6) 1 (C.1 (9 + 13 * r + 6) 1 ||| (nI 1 <<< (t &&& 31)))) (9 + 13 * r + 7) V (9 + 13 * r + 7 + 1) s = _
    rw [c_mgv, x_u_ne _ _ (by omega), show C.1 (9 + 13 * r + 7 + 1) s = I 89 (25 * r + s) from k1, l1]
    by_cases z : I 89 (25 * r + s) < I 102 s
    · rw [if_pos ⟨rfl, s1, s2, z⟩, if_pos z]
    · rw [if_neg (fun y => z y.2.2.2), if_neg (by omega), if_neg z]
  have v9 : ∀ s, 1 ≤ s → s ≤ 24 → (c_oP1 C r t V).1 (9 + 13 * r + 9) s = if I 89 (25 * r + s) < I 102 s then (if I 102 s ≠ 0 then V 2 s else -1) else C.1 (9 + 13 * r + 9) s := fun s s1 s2 => by
    obtain ⟨k1, _⟩ := d4 s s1 s2
    obtain ⟨l1, _⟩ := hV s s1 s2
    show c_mgv (x_u C.1 (9 + 13 * r + 6) 1 (C.1 (9 + 13 * r + 6) 1 ||| (nI 1 <<< (t &&& 31)))) (9 + 13 * r + 7) V (9 + 13 * r + 7 + 2) s = _
    rw [c_mgv, if_neg (by omega), x_u_ne _ _ (show ¬ (9 + 13 * r + 7 + 1 = 9 + 13 * r + 6 ∧ s = 1) by omega), x_u_ne _ _ (show ¬ (9 + 13 * r + 7 + 2 = 9 + 13 * r + 6 ∧ s = 1) by omega), show C.1 (9 + 13 * r + 7 + 1) s = I 89 (25 * r + s) from k1, l1]
    by_cases z : I 89 (25 * r + s) < I 102 s
    · rw [if_pos ⟨rfl, s1, s2, z⟩, if_pos z]
    · rw [if_neg (fun y => z y.2.2.2), if_neg z]
  have hP : ∀ f, PS I' f = PS I f := PS_same (fun a i z => u a i (by omega) (by omega) (by omega))
  refine h.rep hr (fun a i z1 z2 => v a i (by omega) (by omega)) (fun _ _ => ⟨rfl, rfl⟩) rfl (fun a i z1 z2 z3 => ?_) (fun r' _ _ => by rw [u 74 7 (by decide) (by decide) (by decide)]) ?_
  · by_cases q8 : a = 88
    · subst q8
      exact u8o i (fun z => z3 (Or.inl ⟨by omega, z⟩))
    · by_cases q9 : a = 89 ∨ a = 90
      · exact u9o a i q9 (fun z => z3 (Or.inr ⟨by omega, by omega, by omega⟩))
      · exact u a i q8 (fun z => q9 (Or.inl z)) (fun z => q9 (Or.inr z))
  refine ⟨by rw [u 74 7 (by decide) (by decide) (by decide)]; exact (v _ _ (by omega) (by omega)).trans a1, by rw [u _ _ (by decide) (by decide) (by decide)]; exact (v _ _ (by omega) (by omega)).trans a2, ⟨f, e, (u _ _ (by decide) (by decide) (by decide)).trans a3, (u _ _ (by decide) (by decide) (by decide)).trans a4, a5, a6, a7.trans (hP _).symm, a8.trans (hP _).symm⟩, fun t t1 t2 => ?_, fun t t1 t2 => ?_, Or.inr ⟨by rw [u _ _ (by decide) (by decide) (by decide)]; exact d1, by rw [u _ _ (by decide) (by decide) (by decide)]; exact (v _ _ (by omega) (by omega)).trans d2, by rw [u8]; exact v1, fun s s1 s2 => ?_⟩⟩
  · rw [u 84 _ (by decide) (by decide) (by decide), u 80 _ (by decide) (by decide) (by decide)]
    exact (v _ _ (by omega) (by omega)).trans (b1 t t1 t2)
  · rw [u 85 _ (by decide) (by decide) (by decide), u 86 _ (by decide) (by decide) (by decide)]
    exact ⟨(v _ _ (by omega) (by omega)).trans (b2 t t1 t2).1, fun z => (v _ _ (by omega) (by omega)).trans ((b2 t t1 t2).2 z)⟩
  · obtain ⟨k1, k2, k3, k4, k5⟩ := d4 s s1 s2
    obtain ⟨l1, l2⟩ := hV s s1 s2
    obtain ⟨g1, g2⟩ := m2 s s1 s2
    rw [u 91 _ (by decide) (by decide) (by decide), u 92 _ (by decide) (by decide) (by decide), g1, g2, v8 s s1 s2, v9 s s1 s2]
    refine ⟨rfl, fun z => ?_, (v _ _ (by omega) (by omega)).trans k3, k4, fun z => (v _ _ (by omega) (by omega)).trans (k5 z)⟩
    by_cases y : I 89 (25 * r + s) < I 102 s
    · rw [if_pos y] at z ⊢
      rw [if_pos z, if_pos y]
      exact l2 z
    · rw [if_neg y] at z ⊢
      rw [if_neg y]
      exact k2 z
theorem RelP.oPo (h : RelP C I) (hi : Inv B n I G) (hr : r < 5) {m : xG} {f e j : Nat} {V : Nat → Nat → Int32} {t b c : Int32} (hm : mQ I m (nI 2) (I 74 31) t b (I 74 33) c (I 74 35) (I 102) (I 103)) (hrm : RM B I G 2 j) (hf : I 74 35 = nI f) (hf2 : f ≤ 24) (hV : m.2.1 = some V) (he : I 83 r = nI e) (he2 : e ≤ 24) : RelP (c_gif (c_oPo C r m.1 V (PS I f)) r) (f_oProm I r f e) ∧ ((c_oPo C r m.1 V (PS I f)).2 = true → kOK (c_oPo C r m.1 V (PS I f)).1 r) := by
  obtain ⟨m0, m1, m2, m3, m5, _, m7, _⟩ := hm
  rw [num3 m0 (by decide)] at m3
  obtain ⟨_, V', w1, w2⟩ := m7 rfl
  have eV : V' = V := Option.some.inj (w1.symm.trans hV)
  subst eV
  obtain ⟨hj, h31, _, q2, _⟩ := hrm
  obtain ⟨_, l1, f', l2, l3, l4, l5⟩ := q2 rfl
  have ef : f = f' := by
    rw [hf] at l2
    exact (nI_eq (by omega) (by omega)).mp l2
  subst ef
  obtain ⟨a1, a2, _, b1, b2, b3⟩ := h.R hr
  rw [c_oPo, f_oProm, h.cmp hi hr, m3, m1, h31]
  by_cases hc : f_camp I r = true
  · have hcc := hc
    rw [f_camp, Bool.and_eq_true, decide_eq_true_eq, decide_eq_true_eq] at hcc
    have d2 : C.1 (9 + 13 * r + 6) 0 = I 87 r := by
      rcases b3 with b3 | b3
      · rw [b3.1] at hcc
        exact (i_irr hcc.1).elim
      · exact b3.2.1
    rw [d2]
    by_cases hq : I 74 33 = I 87 r
    · have hyes : (f_camp I r && decide (I 74 33 = I 87 r)) = true := by rw [hc, decide_eq_true hq]; rfl
      rw [if_pos hyes, if_pos hyes]
      obtain ⟨i1, _⟩ := FI.inst hi hr hf2 l4
      have h1 := h.inst hi hr hf2 l4
      have e1 := f_inst_e (r := r) (f := f) he
      have u : ∀ a i, a < 82 ∨ 86 < a → f_inst I r f a i = I a i := fun a i z => f_inst_o I r f z
      have hie : f_ie I r f e ≤ 24 ∧ f ≤ f_ie I r f e := by
        rw [f_ie]
        split
        · rename_i z
          rw [he] at z
          exact ⟨he2, (nI_leI (by omega) (by omega)).mp z⟩
        · exact ⟨hf2, Nat.le_refl _⟩
      have h2 := h1.sup (t := nI j) (V := V') hr (by rw [u 87 _ (by decide)]; exact hcc.1) (fun s s1 s2 => (((i1.R hr).2.2.2.2.2 (by rw [u 87 _ (by decide)]; exact hcc.1)).2.2 s s1 s2).2.1.1) (fun s s1 s2 => by
        rw [u 102 _ (by decide), u 103 _ (by decide)]
        exact w2 s s1 s2)
      obtain ⟨i2, _⟩ := i1.sup (j := j) (f := f) hr hj e1 hie.1 hie.2 (by rw [u 87 _ (by decide), u 81 _ (by decide), ← hq]; exact l1) (fun s s1 s2 => by
        rw [u 102 _ (by decide), u 103 _ (by decide), u 87 _ (by decide), ← hq]
        exact l5 s s1 s2)
      rw [u 88 _ (by decide)] at h2 i2
      have e2 : f_oProm1 I r f = f_mg (x_u (f_inst I r f) 88 r (I 88 r ||| (nI 1 <<< (nI j &&& 31)))) r 24 := by rw [f_oProm1, h31]
      rw [← e2] at h2 i2
      have e3 : f_oProm1 I r f 83 r = nI (f_ie I r f e) := by
        rw [f_oProm1, f_mg_o _ _ (by decide), x_u_ne _ _ (by omega)]
        exact e1
      refine ⟨?_, fun _ => h2.kok i2 hr⟩
      rw [c_gif, if_pos rfl]
      exact h2.go i2 hr e3 hie.1
    · have hno : ¬ (f_camp I r && decide (I 74 33 = I 87 r)) = true := by rw [decide_eq_false hq, Bool.and_false]; decide
      rw [if_neg hno, if_neg hno]
      exact ⟨h, fun y => absurd (show false = true from y) (by decide)⟩
  · have hc' : f_camp I r = false := Bool.not_eq_true _ ▸ hc
    rw [hc', if_neg (by simp), if_neg (by simp)]
    exact ⟨h, fun y => absurd (show false = true from y) (by decide)⟩
theorem RelP.crash (h : RelP C I) (hr : r < 5) : RelP (c_down C r) (f_crash I r) := by
  obtain ⟨a1, a2, ⟨f, e, a3, a4, a5, a6, a7, a8⟩, b1, b2, b3⟩ := h.R hr
  have u : ∀ a i, (a ≠ 74 ∨ i ≠ 7) → (a ≠ 84 ∧ a ≠ 83 ∧ a ≠ 87) ∨ i ≠ r → f_crash I r a i = I a i := fun a i z1 z2 => by
    rw [f_crash, x_u_ne _ _ (by omega), x_u_ne _ _ (by omega), x_u_ne _ _ (by omega), x_u_ne _ _ (by omega)]
  have e7 : f_crash I r 74 7 = I 74 7 &&& (nI 1 <<< (nI r &&& 31) ^^^ -1) := by
    rw [f_crash, x_u_ne _ _ (by omega), x_u_ne _ _ (by omega), x_u_ne _ _ (by omega), x_u_eq]
  have e4 : f_crash I r 84 r = nI 0 := by rw [f_crash, x_u_ne _ _ (by omega), x_u_ne _ _ (by omega), x_u_eq]
  have e3 : f_crash I r 83 r = nI f := by rw [f_crash, x_u_ne _ _ (by omega), x_u_eq, a3]
  have e87 : f_crash I r 87 r = 0 := by rw [f_crash, x_u_eq]; rfl
  have v : ∀ a i, (a ≠ 9 + 13 * r ∨ i ≠ 3) → a ≠ 9 + 13 * r + 5 → (a ≠ 9 + 13 * r + 6 ∨ i ≠ 0) → (c_down C r).1 a i = C.1 a i := fun a i z1 z2 z3 => by
    show x_u (c_fg (x_u C.1 (9 + 13 * r) 3 0) (9 + 13 * r + 5) 24 (-1)) (9 + 13 * r + 6) 0 (-1) a i = _
    rw [x_u_ne _ _ (by omega), c_fg, f_fillF_o _ _ _ _ _ z2, x_u_ne _ _ (by omega)]
  have hP : ∀ f, PS (f_crash I r) f = PS I f := PS_same (fun a i z => u a i (by omega) (by omega))
  refine h.rep hr (fun a i z1 z2 => v a i (by omega) (by omega) (by omega)) (fun r' z => ⟨x_p_ne _ _ z, rfl⟩) rfl (fun a i z1 z2 z3 => u a i (by omega) ?_) (fun r' hr' hn => ?_) ?_
  · rw [rc] at z3
    omega
  · rw [e7, bt_an1 (by omega) (by omega), decide_eq_false hn]
    simp
  · refine ⟨?_, by rw [u _ _ (by omega) (by omega)]; exact (v _ _ (by omega) (by omega) (by omega)).trans a2, ⟨f, f, (u _ _ (by omega) (by omega)).trans a3, e3, a5, a5, ?_, a8.trans (hP _).symm⟩, fun t t1 t2 => ?_, fun t t1 t2 => ?_, Or.inl ⟨e87, x_u_eq _ _ _ _⟩⟩
    · rw [e7, bt_an1 (by omega) (by omega), decide_eq_true rfl]
      show x_u (c_fg (x_u C.1 (9 + 13 * r) 3 0) (9 + 13 * r + 5) 24 (-1)) (9 + 13 * r + 6) 0 (-1) (9 + 13 * r) 3 = _
      rw [x_u_ne _ _ (by omega), c_fg, f_fillF_o _ _ _ _ _ (by omega), x_u_eq]
      simp
      rfl
    · show x_p C.2.1 r (C.2.2.1 r) r = _
      rw [x_p_eq, hP]
      exact a8
    · rw [e4, show nI 0 = (0 : Int32) from rfl, b_0, if_neg (by decide)]
      show x_u (c_fg (x_u C.1 (9 + 13 * r) 3 0) (9 + 13 * r + 5) 24 (-1)) (9 + 13 * r + 6) 0 (-1) (9 + 13 * r + 5) t = _
      rw [x_u_ne _ _ (by omega), c_fg, f_fillF, if_pos ⟨rfl, by omega, by omega⟩]
    · rw [u _ _ (by omega) (by omega), u _ _ (by omega) (by omega)]
      exact ⟨(v _ _ (by omega) (by omega) (by omega)).trans (b2 t t1 t2).1, fun z => (v _ _ (by omega) (by omega) (by omega)).trans ((b2 t t1 t2).2 z)⟩
theorem RelP.rst (h : RelP C I) (hr : r < 5) : RelP (c_rst C r) (f_rst I r) := by
  obtain ⟨a1, a2, ⟨f, e, a3, a4, a5, a6, a7, a8⟩, b1, b2, b3⟩ := h.R hr
  have u : ∀ a i, (a ≠ 74 ∨ i ≠ 7) → f_rst I r a i = I a i := fun a i z1 => by rw [f_rst, x_u_ne _ _ (by omega)]
  have e7 : f_rst I r 74 7 = I 74 7 ||| (nI 1 <<< (nI r &&& 31)) := by rw [f_rst, x_u_eq]
  have v : ∀ a i, (a ≠ 9 + 13 * r ∨ i ≠ 3) → (c_rst C r).1 a i = C.1 a i := fun a i z1 => x_u_ne _ _ (by omega)
  have hP : ∀ f, PS (f_rst I r) f = PS I f := PS_same (fun a i z => u a i (by omega))
  refine h.rep hr (fun a i z1 z2 => v a i (by omega)) (fun r' z => ⟨rfl, rfl⟩) rfl (fun a i z1 z2 z3 => u a i (by omega)) (fun r' hr' hn => ?_) ?_
  · rw [e7, bt_or1 (by omega) (by omega), decide_eq_false hn, Bool.or_false]
  · refine ⟨?_, by rw [u _ _ (by omega)]; exact (v _ _ (by omega)).trans a2, ⟨f, e, (u _ _ (by omega)).trans a3, (u _ _ (by omega)).trans a4, a5, a6, a7.trans (hP _).symm, a8.trans (hP _).symm⟩, fun t t1 t2 => ?_, fun t t1 t2 => ?_, ?_⟩
    · rw [e7, bt_or1 (by omega) (by omega), decide_eq_true rfl, Bool.or_true]
      exact x_u_eq _ _ _ _
    · rw [u _ _ (by omega), u _ _ (by omega)]
      exact (v _ _ (by omega)).trans (b1 t t1 t2)
    · rw [u _ _ (by omega), u _ _ (by omega)]
      exact ⟨(v _ _ (by omega)).trans (b2 t t1 t2).1, fun z => (v _ _ (by omega)).trans ((b2 t t1 t2).2 z)⟩
    · rw [u _ _ (by omega), u _ _ (by omega)]
      rcases b3 with b3 | ⟨d1, d2, d3, d4⟩
      · exact Or.inl ⟨b3.1, (v _ _ (by omega)).trans b3.2⟩
      · refine Or.inr ⟨d1, (v _ _ (by omega)).trans d2, (v _ _ (by omega)).trans d3, fun s s1 s2 => ?_⟩
        rw [u 89 _ (by omega), u 90 _ (by omega), u 91 _ (by omega), u 92 _ (by omega)]
        obtain ⟨k1, k2, k3, k4, k5⟩ := d4 s s1 s2
        exact ⟨(v _ _ (by omega)).trans k1, fun z => (v _ _ (by omega)).trans (k2 z), (v _ _ (by omega)).trans k3, k4, fun z => (v _ _ (by omega)).trans (k5 z)⟩
theorem RelP.fet (h : RelP C I) (hi : Inv B n I G) (hr : r < 5) (p : Nat) : RelP (c_fet C r p) (f_ml I (nI 7) r (nI p) (nI 0) (I 83 r) (nI 0)) := by
  obtain ⟨f, e, p', c1, c2, c3, c4, c5, c6, c7, c8⟩ := hi.e hr
  obtain ⟨e1, e2, e3⟩ := h.e hi hr c2 c5
  rw [c_fet, e2, c2]
  exact h.ml hi.1.2.2.2.1 (mQ_pl (by decide) (by decide) (by decide) (fun z => by omega) (fun _ _ => rfl) (fun z => by omega))
theorem RelP.ask (h : RelP C I) (hi : Inv B n I G) {kd ky : Nat} {v : Int32} (hn : n < 40) : RelP (c_ask C (g_rq (nI kd) (nI ky) v)) (f_ask I kd ky n v) := by
  have hcn := h.cn hi
  have hR := fun r hr => h.R (r := r) hr
  have u : ∀ a i, a ≠ 74 ∨ i ≠ 0 → i ≠ n + 1 ∨ (a ≠ 75 ∧ a ≠ 76 ∧ a ≠ 77) → f_ask I kd ky n v a i = I a i := fun a i z1 z2 => by
    rw [f_ask, x_u_ne _ _ (by omega), x_u_ne _ _ (by omega), x_u_ne _ _ (by omega), x_u_ne _ _ (by omega)]
  have e0 : f_ask I kd ky n v 74 0 = nI (n + 1) := by rw [f_ask, x_u_ne _ _ (by omega), x_u_ne _ _ (by omega), x_u_ne _ _ (by omega), x_u_eq]
  have e5 : f_ask I kd ky n v 75 (n + 1) = nI kd := by rw [f_ask, x_u_ne _ _ (by omega), x_u_ne _ _ (by omega), x_u_eq]
  have e6 : f_ask I kd ky n v 76 (n + 1) = nI ky := by rw [f_ask, x_u_ne _ _ (by omega), x_u_eq]
  have e7 : f_ask I kd ky n v 77 (n + 1) = v := by rw [f_ask, x_u_eq]
  have ecn : c_n (c_ask C (g_rq (nI kd) (nI ky) v)) = n + 1 := by
    rw [c_n]
    show (x_u C.1 1 1 (nI (c_n C + 1)) 1 1).toNatClampNeg = _
    rw [x_u_eq, hcn]
    exact nI_clamp (by omega)
  have hC : ∀ a i, a ≠ 1 → (c_ask C (g_rq (nI kd) (nI ky) v)).1 a i = C.1 a i := fun a i z => x_u_ne _ _ (fun q => z q.1)
  have hPa : ∀ f, f ≤ 24 → prD I f → PS (f_ask I kd ky n v) f = PS I f := fun f f1 f2 => by
    have hmo : Mo n I G (f_ask I kd ky n v) G 5 := Mo.q (fun a i z1 z2 => u a i (by omega) (by omega)) (fun q z1 z2 => ⟨u _ _ (by omega) (by omega), u _ _ (by omega) (by omega), u _ _ (by omega) (by omega)⟩)
    exact hmo.ps hi.ch hi.rq f1 f2
  obtain ⟨⟨h1, h2, h2'⟩, h3, h4, h5⟩ := h
  refine ⟨⟨?_, fun q q1 q2 => ?_, fun q q1 q2 => ?_⟩, by rw [u _ _ (by omega) (by omega)]; exact (hC 3 1 (by decide)).trans h3, fun r hr => ?_, fun i hi' => ?_⟩
  · rw [e0]
    show x_u C.1 1 1 (nI (c_n C + 1)) 1 1 = _
    rw [x_u_eq, hcn]
  · rw [ecn] at q2
    show x_p C.2.2.2.1 (c_n C + 1) (g_rq (nI kd) (nI ky) v) q 0 = _ ∧ x_p C.2.2.2.1 (c_n C + 1) (g_rq (nI kd) (nI ky) v) q 1 = _ ∧ x_p C.2.2.2.1 (c_n C + 1) (g_rq (nI kd) (nI ky) v) q 2 = _ ∧ x_p C.2.2.2.1 (c_n C + 1) (g_rq (nI kd) (nI ky) v) q 3 = _ ∧ x_p C.2.2.2.1 (c_n C + 1) (g_rq (nI kd) (nI ky) v) q 4 = _
    rw [hcn]
    by_cases e : q = n + 1
    · subst e
      obtain ⟨z8, z9⟩ := h2' (n + 1) (by omega) (by omega)
      rw [x_p_eq, e5, e6, e7, u 78 _ (by omega) (by omega), u 79 _ (by omega) (by omega), z8, z9]
      exact ⟨rfl, rfl, rfl, rfl, rfl⟩
    · rw [x_p_ne _ _ e, u 75 _ (by omega) (by omega), u 76 _ (by omega) (by omega), u 77 _ (by omega) (by omega), u 78 _ (by omega) (by omega), u 79 _ (by omega) (by omega)]
      exact h2 q q1 (by omega)
  · rw [ecn] at q1
    rw [u 78 _ (by omega) (by omega), u 79 _ (by omega) (by omega)]
    exact h2' q (by omega) q2
  · obtain ⟨a1, a2, ⟨f, e, a3, a4, a5, a6, a7, a8⟩, b1, b2, b3⟩ := hR r hr
    obtain ⟨f', e', p, c1, c2, c3, c4, c5, c6, c7, c8⟩ := hi.e hr
    have ef : f = f' := by
      rw [a3] at c1
      exact (nI_eq (by omega) (by omega)).mp c1
    have ee : e = e' := by
      rw [a4] at c2
      exact (nI_eq (by omega) (by omega)).mp c2
    subst ef
    subst ee
    have w : ∀ a i, 80 ≤ a → f_ask I kd ky n v a i = I a i := fun a i z => u a i (by omega) (by omega)
    refine ⟨by rw [u _ _ (by omega) (by omega)]; exact (hC _ _ (by omega)).trans a1, by rw [w _ _ (by decide)]; exact (hC _ _ (by omega)).trans a2, ⟨f, e, (w _ _ (by decide)).trans a3, (w _ _ (by decide)).trans a4, a5, a6, a7.trans (hPa e a6 c6).symm, a8.trans (hPa f a5 (c6.le c4)).symm⟩, fun t t1 t2 => ?_, fun t t1 t2 => ?_, ?_⟩
    · rw [w _ _ (by decide), w _ _ (by decide)]
      exact (hC _ _ (by omega)).trans (b1 t t1 t2)
    · rw [w _ _ (by decide), w _ _ (by decide)]
      exact ⟨(hC _ _ (by omega)).trans (b2 t t1 t2).1, fun z => (hC _ _ (by omega)).trans ((b2 t t1 t2).2 z)⟩
    · rw [w _ _ (by decide), w _ _ (by decide)]
      rcases b3 with b3 | ⟨d1, d2, d3, d4⟩
      · exact Or.inl ⟨b3.1, (hC _ _ (by omega)).trans b3.2⟩
      · refine Or.inr ⟨d1, (hC _ _ (by omega)).trans d2, (hC _ _ (by omega)).trans d3, fun s s1 s2 => ?_⟩
        rw [w 89 _ (by decide), w 90 _ (by decide), w 91 _ (by decide), w 92 _ (by decide)]
        obtain ⟨k1, k2, k3, k4, k5⟩ := d4 s s1 s2
        exact ⟨(hC _ _ (by omega)).trans k1, fun z => (hC _ _ (by omega)).trans (k2 z), (hC _ _ (by omega)).trans k3, k4, fun z => (hC _ _ (by omega)).trans (k5 z)⟩
  · rw [f_w_eq (u 74 20 (by omega) (by omega))] at hi'
    have w : ∀ a i, 80 ≤ a → f_ask I kd ky n v a i = I a i := fun a i z => u a i (by omega) (by omega)
    obtain ⟨k, j, t, g1, g2, g3, g4, g5, g6, g7, g8⟩ := hi.2.2.2.2.2 i hi'
    obtain ⟨q1, q2, q3, q4, q5, q6, q7, q8⟩ := h5 i hi'
    have x1 : (fun s' => f_ask I kd ky n v 100 (25 * i + s')) = fun s => I 100 (25 * i + s) := funext fun s' => w _ _ (by decide)
    have x2 : (fun s' => f_ask I kd ky n v 101 (25 * i + s')) = fun s => I 101 (25 * i + s) := funext fun s' => w _ _ (by decide)
    rw [mE, w 93 _ (by decide), w 94 _ (by decide), w 95 _ (by decide), w 96 _ (by decide), w 97 _ (by decide), w 98 _ (by decide), w 99 _ (by decide), x1, x2]
    refine ⟨q1, q2, q3, q4, q5, q6, fun z => ?_, fun z => ?_⟩
    · obtain ⟨⟨f, f1, f2, f3⟩, V⟩ := q7 z
      have k2 : k = 2 := (nI_eq (by omega) (by decide)).mp (g5.symm.trans z)
      obtain ⟨_, _, f', l2, l3, l4, _⟩ := g8.2.1 k2
      have ef : f = f' := by
        rw [f1] at l2
        exact (nI_eq (by omega) (by omega)).mp l2
      subst ef
      exact ⟨⟨f, f1, f2, by rw [hPa f f2 l4]; exact f3⟩, V⟩
    · obtain ⟨f, f1, f2, f3⟩ := q8 z
      have k8 : k = 8 := (nI_eq (by omega) (by decide)).mp (g5.symm.trans z)
      obtain ⟨f', l1, l2, l3⟩ := g8.2.2.2.2.2.2 k8
      have ef : f = f' := by
        rw [f1] at l2
        exact (nI_eq (by omega) (by omega)).mp l2
      subst ef
      exact ⟨f, f1, f2, by rw [hPa f f2 l3]; exact f3⟩
end SIMF
