/-! class and reference step alike: votes, promises -/
section SIME
variable {B n : Nat} {C C' : xCC} {I I' : xI} {G : xGh} {r : Nat}
theorem RelP.chs (h : RelP C I) (hi : Inv B n I G) {s : Nat} {c : Int32} (h80 : ¬ 0 ≤ I 80 s) (hm : Mo n I G (x_u I 80 s c) G 5) : RelP C (x_u I 80 s c) := by
  have u : ∀ a i, a ≠ 80 → x_u I 80 s c a i = I a i := fun a i z => x_u_ne _ _ (fun q => z q.1)
  have hP : ∀ f, f ≤ 24 → prD I f → PS (x_u I 80 s c) f = PS I f := fun f f1 f2 => hm.ps hi.ch hi.rq f1 f2
  have hR := fun r hr => h.R (r := r) hr
  obtain ⟨⟨h1, h2, h2'⟩, h3, h4, h5⟩ := h
  refine ⟨⟨by rw [u _ _ (by decide)]; exact h1, fun q q1 q2 => ?_, fun q q1 q2 => ?_⟩, by rw [u _ _ (by decide)]; exact h3, fun r hr => ?_, fun i hi' => ?_⟩
  · rw [u 75 _ (by decide), u 76 _ (by decide), u 77 _ (by decide), u 78 _ (by decide), u 79 _ (by decide)]
    exact h2 q q1 q2
  · rw [u 78 _ (by decide), u 79 _ (by decide)]
    exact h2' q q1 q2
  · obtain ⟨a1, a2, ⟨f, e, a3, a4, a5, a6, a7, a8⟩, b1, b2, b3⟩ := hR r hr
    obtain ⟨f', e', p, c1, c2, c3, c4, c5, c6, c7, c8⟩ := hi.e hr
    have ef : f = f' := by
      rw [a3] at c1
      exact (nI_eq (by omega) (by omega)).mp c1
    have ee : e = e' := by
      rw [a4] at c2
      exact (nI_eq (by omega) (by omega)).mp c2
    subst ef
    subst ee
    refine ⟨by rw [u _ _ (by decide)]; exact a1, by rw [u _ _ (by decide)]; exact a2, ⟨f, e, (u _ _ (by decide)).trans a3, (u _ _ (by decide)).trans a4, a5, a6, a7.trans (hP e a6 c6).symm, a8.trans (hP f a5 (c6.le c4)).symm⟩, fun t t1 t2 => ?_, fun t t1 t2 => ?_, ?_⟩
    · rw [u 84 _ (by decide), b1 t t1 t2]
      cases hb : bt (I 84 r) t with
      | true =>
        have := (hi.R hr).1.2.2 t t1 t2 hb
        rw [if_pos rfl, if_pos rfl, x_u_ne _ _ (fun z => h80 (by rw [← z.2]; exact this))]
      | false => simp
    · rw [u 85 _ (by decide), u 86 _ (by decide)]
      exact b2 t t1 t2
    · rw [u 87 _ (by decide), u 88 _ (by decide)]
      rcases b3 with b3 | ⟨d1, d2, d3, d4⟩
      · exact Or.inl b3
      · refine Or.inr ⟨d1, d2, d3, fun s s1 s2 => ?_⟩
        rw [u 89 _ (by decide), u 90 _ (by decide), u 91 _ (by decide), u 92 _ (by decide)]
        exact d4 s s1 s2
  · rw [f_w_eq (u 74 20 (by decide))] at hi'
    obtain ⟨k, j, t, g1, g2, g3, g4, g5, g6, g7, g8⟩ := hi.2.2.2.2.2 i hi'
    obtain ⟨q1, q2, q3, q4, q5, q6, q7, q8⟩ := h5 i hi'
    have e1 : (fun s' => x_u I 80 s c 100 (25 * i + s')) = fun s => I 100 (25 * i + s) := funext fun s' => u _ _ (by decide)
    have e2 : (fun s' => x_u I 80 s c 101 (25 * i + s')) = fun s => I 101 (25 * i + s) := funext fun s' => u _ _ (by decide)
    rw [mE, u 93 _ (by decide), u 94 _ (by decide), u 95 _ (by decide), u 96 _ (by decide), u 97 _ (by decide), u 98 _ (by decide), u 99 _ (by decide), e1, e2]
    refine ⟨q1, q2, q3, q4, q5, q6, fun z => ?_, fun z => ?_⟩
    · obtain ⟨⟨f, f1, f2, f3⟩, V⟩ := q7 z
      have k2 : k = 2 := (nI_eq (by omega) (by decide)).mp (g5.symm.trans z)
      obtain ⟨_, _, f', l2, l3, l4, _⟩ := g8.2.1 k2
      have ef : f = f' := by
        rw [f1] at l2
        exact (nI_eq (by omega) (by omega)).mp l2
      subst ef
      exact ⟨⟨f, f1, f2, by rw [hP f f2 l4]; exact f3⟩, V⟩
    · obtain ⟨f, f1, f2, f3⟩ := q8 z
      have k8 : k = 8 := (nI_eq (by omega) (by decide)).mp (g5.symm.trans z)
      obtain ⟨f', l1, l2, l3⟩ := g8.2.2.2.2.2.2 k8
      have ef : f = f' := by
        rw [f1] at l2
        exact (nI_eq (by omega) (by omega)).mp l2
      subst ef
      exact ⟨f, f1, f2, by rw [hP f f2 l3]; exact f3⟩
theorem RelP.oVo (h : RelP C I) (hi : Inv B n I G) (hr : r < 5) {m : xG} {s e j : Nat} {t c u : Int32} {vb vc : Nat → Int32} (hm : mQ I m (nI 4) (I 74 31) t (I 74 32) (I 74 33) c u vb vc) (hrm : RM B I G 4 j) (hs : I 74 33 = nI s) (s2 : s ≤ 24) (he : I 83 r = nI e) (he2 : e ≤ 24) : RelP (c_gif (c_oVo C r s m.1) r) (f_oVot I r s e) ∧ ((c_oVo C r s m.1).2 = true → kOK (c_oVo C r s m.1).1 r) := by
  obtain ⟨m0, m1, m2, m3, m5, m6, _⟩ := hm
  have m6' := m6 (Or.inr rfl)
  obtain ⟨hj, h31, _, _, _, q4, _⟩ := hrm
  obtain ⟨s', t1, t2⟩ := q4 rfl
  obtain ⟨_, _, c', t3⟩ := hi.A _ _ _ t2
  obtain ⟨_, t5, t6, _⟩ := hi.Bq _ _ _ t3
  have es : s = s' := by
    rw [hs] at t1
    exact (nI_eq (by omega) (by omega)).mp t1
  subst es
  obtain ⟨e1, e2, e3⟩ := h.e hi hr he he2
  obtain ⟨a1, a2, _, b1, b2, b3⟩ := h.R hr
  rw [c_oVo, f_oVot, h.cmp hi hr, e2, h.kn hi hr t5 s2, m6', m1, h31]
  by_cases hc : f_camp I r = true
  · have hcc := hc
    rw [f_camp, Bool.and_eq_true, decide_eq_true_eq, decide_eq_true_eq] at hcc
    obtain ⟨d1, d2, d3, d4⟩ : 0 < I 87 r ∧ C.1 (9 + 13 * r + 6) 0 = I 87 r ∧ C.1 (9 + 13 * r + 6) 1 = I 88 r ∧ _ := by
      rcases b3 with b3 | b3
      · rw [b3.1] at hcc
        exact (i_irr hcc.1).elim
      · exact b3
    rw [h.pro hr hcc.1 t5 s2, d2, hc]
    by_cases hcond : I 74 32 = I 87 r ∧ e < s ∧ f_know I r s = false ∧ 0 ≤ I 91 (25 * r + s)
    · obtain ⟨c2, c3, c4, c5⟩ := hcond
      have hc1 : (true && decide (I 74 32 = I 87 r) && decide (e < s) && !f_know I r s && decide (0 ≤ I 91 (25 * r + s))) = true := by
        rw [decide_eq_true c2, decide_eq_true c3, c4, decide_eq_true c5]
        rfl
      have hc2 : ¬ (!true || (decide (I 74 32 ≠ I 87 r) || (decide (s ≤ e) || (f_know I r s || decide (I 91 (25 * r + s) < 0))))) = true := by
        rw [decide_eq_false (fun z => z c2), decide_eq_false (p := s ≤ e) (by omega), c4, decide_eq_false (Int32.not_lt.mpr c5)]
        decide
      rw [if_pos hc1, if_neg hc2]
      rw [c2] at t2
      obtain ⟨i1, mo1⟩ := hi.vot1 hr hj h31 (by omega) (fun _ _ => ⟨⟨t5, s2⟩, t2⟩)
      have h1 : RelP (c_cav C.1 (9 + 13 * r + 6) s (nI j), C.2) (f_oVot1 I r s) := by
        have := h.vtr (j := j) hr hcc.1 t5 s2 c5
        rw [f_oVot1, h31]
        exact this
      have hps := ((hi.R hr).2.2.2.2.2 hcc.1).2.2 s t5 s2
      have hs3 : s ≤ e + 3 := hps.2.2.2.2 c5 e he2 he
      have u : ∀ a i, a ≠ 92 → f_oVot1 I r s a i = I a i := fun a i z => f_oVot1_o I r s z
      have h1p : prD (f_oVot1 I r s) e := fun t t1 t2 => by rw [u 80 _ (by decide)]; exact e3 t t1 t2
      have hmm : f_mem (f_oVot1 I r s) e s = mM (f_oVot1 I r s) s := f_mem_m i1.rq i1.ch he2 h1p hs3
      have hmo : s_mo (C.2.1 r) s = f_mem (f_oVot1 I r s) e s := by
        rw [hmm, mM_same (I := I) (fun a i z => u a i (by omega)), e1]
        exact PS_mo (PS_ok hi.rq hi.ch e he2 e3).2 c3 hs3
      have hvf : c_cvf (c_cav C.1 (9 + 13 * r + 6) s (nI j)) (9 + 13 * r + 6) s = f_oVot1 I r s 92 (25 * r + s) := by
        obtain ⟨_, _, _, _, _, b3'⟩ := h1.R hr
        rw [c_cvf, if_pos (c_sl_t.mpr ⟨t5, s2⟩)]
        rcases b3' with b3' | b3'
        · have := b3'.1
          rw [u 87 _ (by decide)] at this
          rw [this] at hcc
          exact (i_irr hcc.1).elim
        · exact (b3'.2.2.2 s t5 s2).2.2.2.2 (by rw [u 91 _ (by decide)]; exact c5)
      rw [hvf, hmo]
      have o : ∀ a i, a < 104 → f_rp (f_oVot1 I r s) e a i = f_oVot1 I r s a i := fun a i ha => f_rp_o _ (by omega) e i
      have i2 := i1.rp e
      have h2 : RelP (c_cav C.1 (9 + 13 * r + 6) s (nI j), C.2) (f_rp (f_oVot1 I r s) e) := h1.c (fun a i z1 z2 => o a i (by omega))
      by_cases hj2 : f_maj (f_oVot1 I r s 92 (25 * r + s)) (f_mem (f_oVot1 I r s) e s) = true
      · rw [if_pos hj2, if_pos hj2]
        rw [hmm] at hj2
        have hPP : G.1 (I 87 r) s = some (I 91 (25 * r + s)) := (hps.1 _).mpr ⟨c5, rfl⟩
        have hvv : ∀ a, a < 5 → bt (f_oVot1 I r s 92 (25 * r + s)) a = true → G.2 a (I 87 r) s := fun a ha hb => by
          have := (((i1.R hr).2.2.2.2.2 (by rw [u 87 _ (by decide)]; exact hcc.1)).2.2 s t5 s2).2.2.2.1 (by rw [u 91 _ (by decide)]; exact c5) a ha hb
          rw [u 87 _ (by decide)] at this
          exact this
        have e80 : f_rp (f_oVot1 I r s) e 80 s = I 80 s := (o _ _ (by decide)).trans (u _ _ (by decide))
        have hj3 : f_maj (f_oVot1 I r s 92 (25 * r + s)) (mM (f_rp (f_oVot1 I r s) e) s) = true := by
          rw [mM_same (fun a i z => o a i (by omega))]
          exact hj2
        obtain ⟨h3, i3, x3⟩ : RelP (c_cav C.1 (9 + 13 * r + 6) s (nI j), C.2) (f_oVot2 I r s e) ∧ Inv B n (f_oVot2 I r s e) G ∧ f_oVot2 I r s e 80 s = I 91 (25 * r + s) := by
          rw [f_oVot2]
          by_cases z : 0 ≤ I 80 s
          · rw [if_pos z]
            exact ⟨h2, i2, (i2.safe (by rw [e80]; exact z) hPP hj3 hvv).symm⟩
          · rw [if_neg z]
            obtain ⟨i3, m3⟩ := i2.choose (by rw [e80]; exact z) hPP hj3 hvv
            exact ⟨h2.chs i2 (by rw [e80]; exact z) m3, i3, x_u_eq _ _ _ _⟩
        have v : ∀ a i, a ≠ 92 → a ≠ 80 → a < 104 → f_oVot2 I r s e a i = I a i := fun a i z1 z2 z3 => f_oVot2_o I r s e ⟨z1, z2, z3⟩
        have eca : c_ca C.1 (9 + 13 * r + 10) s = I 91 (25 * r + s) := by
          rw [c_ca, if_pos (c_sl_t.mpr ⟨t5, s2⟩)]
          exact (d4 s t5 s2).2.2.1
        rw [eca]
        have h4 := h3.know hr t5 s2 (c := I 91 (25 * r + s)) x3.symm
        rw [v 84 r (by decide) (by decide) (by decide)] at h4
        obtain ⟨i4, m4⟩ := i3.know (y := I 84 r ||| (nI 1 <<< (nI s &&& 31))) hr (fun t t1 t2 z => by
          rw [bt_or1 (by omega) (by omega), Bool.or_eq_true, decide_eq_true_eq] at z
          rcases z with z | z
          · rw [← v 84 r (by decide) (by decide) (by decide)] at z
            exact (i3.R hr).1.2.2 t t1 t2 z
          · rw [z, x3]; exact c5)
        have e4 : f_oVot3 I r s e 80 s = f_oVot2 I r s e 80 s := x_u_ne _ _ (by omega)
        have w4 : f_wok (f_oVot3 I r s e) := i4.1.2.2.2.1
        have hbits : ∀ j, j < 5 → (c_bt (c_oth r) j = true ↔ j ≠ r ∧ f_bit (nI 31) (nI j) = true) := fun j hj => by
          have h31' : ∀ j, j < 5 → bt (nI 31) j = true := by decide +kernel
          rw [cb_bt (by omega), bt_oth hr hj, fb_bt (by omega), h31' j hj, decide_eq_true_eq]
          simp
        have h5 := (RelP.ma (I := f_oVot3 I r s e) (kd := nI 5) (x := c_oth r) (y := nI 31) (b := nI 0) (b' := nI 0) (s := nI s) (n := nI s) (c := I 91 (25 * r + s)) h4 w4 hbits (fun J j hj => mQ_pl (by decide) (by decide) (by decide) (fun z => by omega) (fun _ _ => rfl) (fun z => by omega)) 5 (Nat.le_refl _)).1
        have i5 := Inv.ma (x := nI 31) (b := nI 0) (m := nI s) (c := I 91 (25 * r + s)) (k := 5) (I := f_oVot3 I r s e) i4 (by decide) (by decide) (by decide) hr ⟨fun z => by omega, fun z => by omega, fun z => by omega, fun z => by omega, fun _ => ⟨s, rfl, t5, s2, by rw [e4, x3]; exact c5, by rw [e4, x3]⟩, fun z => by omega, fun z => by omega⟩ 5 (by decide)
        have e6 : f_oVot4 I r s e = f_ma (f_oVot3 I r s e) (nI 5) r (nI 31) (nI 0) (nI s) (I 91 (25 * r + s)) 5 := by rw [f_oVot4, x3]
        rw [e6]
        have e5 : f_ma (f_oVot3 I r s e) (nI 5) r (nI 31) (nI 0) (nI s) (I 91 (25 * r + s)) 5 83 r = nI e := by
          rw [f_ma_o _ _ _ _ _ _ (by decide) (Or.inl (by decide)), f_oVot3, x_u_ne _ _ (by omega), v 83 _ (by decide) (by decide) (by decide)]
          exact he
        refine ⟨?_, fun _ => h5.kok i5 hr⟩
        rw [c_gif, if_pos rfl]
        exact h5.go i5 hr e5 he2
      · rw [if_neg hj2, if_neg hj2]
        exact ⟨h2, fun y => absurd (show false = true from y) (by decide)⟩
    · have hno : ¬ (true && decide (I 74 32 = I 87 r) && decide (e < s) && !f_know I r s && decide (0 ≤ I 91 (25 * r + s))) = true := fun z => hcond (by
        simp only [Bool.true_and, Bool.and_eq_true, decide_eq_true_eq, Bool.not_eq_true'] at z
        exact ⟨z.1.1.1, z.1.1.2, z.1.2, z.2⟩)
      have hyes : (!true || (decide (I 74 32 ≠ I 87 r) || (decide (s ≤ e) || (f_know I r s || decide (I 91 (25 * r + s) < 0))))) = true := by
        apply Classical.byContradiction
        intro z
        have z' : ¬ (!(f_camp I r) || (decide (I 74 32 ≠ I 87 r) || (decide (s ≤ e) || (f_know I r s || decide (I 91 (25 * r + s) < 0))))) = true := by
          rw [hc]
          exact z
        obtain ⟨_, z2, z3, z4, z5⟩ := f_vot_c z'
        exact hcond ⟨z2, z3, z4, z5⟩
      rw [if_neg hno, if_pos hyes]
      exact ⟨h, fun y => absurd (show false = true from y) (by decide)⟩
  · have hc' : f_camp I r = false := Bool.not_eq_true _ ▸ hc
    rw [hc', if_neg (by simp), if_pos (by simp)]
    exact ⟨h, fun y => absurd (show false = true from y) (by decide)⟩
end SIME
