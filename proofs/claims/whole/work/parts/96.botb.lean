/-! both calls of an operation: those that change something -/
section BOTB
variable {B n : Nat} {M : xM} {C : xCC}
theorem two_ask (h : St B n M C) (x y z : Int32) : Two B M 74 96 [.int x, .int y, .int z] := by
  obtain ⟨n1, n2, _⟩ := h.1.n
  by_cases hb : x < 0 ∨ nI 4 < x ∨ y < 0 ∨ nI 3 < y ∨ c_n C = 40 ∨ (x = nI 4 ∧ (z < 0 ∨ nI 31 < z ∨ f_cnt z < nI 2))
  · refine two_of h (b := 1) (C1 := C) (by decide) (k_ask_n 7 h.1 hb) (fun Z I hz h2 h3 => ⟨I, ?_, Fo.refl I, h2, B, n, by omega, h3⟩)
    exact r_ask_n 8 I (by rw [← h2.1.1]; exact n1) n2 hb hz
  · simp only [not_or, not_and] at hb
    obtain ⟨b1, b2, b3, b4, b5, b6⟩ := hb
    obtain ⟨kd, _, k2, rfl⟩ := i_rng (x := x) (a := 0) (b := 4) (by decide) b1 b2 (by decide)
    obtain ⟨ky, _, y2, rfl⟩ := i_rng (x := y) (a := 0) (b := 3) (by decide) b3 b4 (by decide)
    have hok : f_askok kd z := fun q => by
      obtain ⟨c1, c2, c3⟩ := b6 (by rw [q])
      exact ⟨c1, c2, Int32.not_lt.mp c3⟩
    have hn : c_n C < 40 := by omega
    refine two_of h (b := 1) (by decide) (k_ask 7 h.1 k2 (show ky < 4 by omega) hok hn) (fun Z I hz h2 h3 => ?_)
    obtain ⟨G, hi, ho⟩ := h3
    have ecn := h2.cn hi
    refine ⟨f_ask I kd ky (c_n C) z, r_ask 8 I z k2 y2 (by rw [← h2.1.1]; exact n1) hn hok hz, Fo.ask _ _ _ _ _, ?_, B, n + 1, by omega, ?_⟩
    · rw [ecn]
      exact h2.ask hi (by omega)
    · rw [ecn]
      exact FI.ask ⟨G, hi, ho⟩ k2 y2 hok (by omega)
theorem up_c {r : Nat} {I : xI} (h2 : RelP C I) (hr : r < 5) : (C.1 (9 + 13 * r) 3 = 1 → f_bit (I 74 7) (nI r) = true) ∧ (C.1 (9 + 13 * r) 3 = 0 → f_bit (I 74 7) (nI r) = false) := by
  have := h2.up hr
  exact ⟨fun z => bI_1.mp (this.symm.trans z), fun z => bI_0.mp (this.symm.trans z)⟩
theorem up_d {r : Nat} (h : St B n M C) (hr : r < 5) : C.1 (9 + 13 * r) 3 = 1 ∨ C.1 (9 + 13 * r) 3 = 0 := by
  rw [h.2.1.up hr]
  cases f_bit (M.2.1 74 7) (nI r)
  · exact Or.inr rfl
  · exact Or.inl rfl
theorem two_send (h : St B n M C) (x y : Int32) : Two B M 76 98 [.int x, .int y] := by
  obtain ⟨n1, n2, _⟩ := h.1.n
  by_cases hb : x < nI 1 ∨ nI (c_n C) < x ∨ f_rep y = false
  · exact two_00 h (k_snd_n 4 h.1 hb) (fun Z I hz h2 h3 => r_send_n 8 I (by rw [← h2.1.1]; exact n1) hb hz)
  · have hf : f_rep y = true := Bool.not_eq_false _ ▸ (fun q => hb (Or.inr (Or.inr q)))
    obtain ⟨r, hr, rfl⟩ := f_rep_x hf
    obtain ⟨q, q1, q2, rfl⟩ := i_rng (x := x) (a := 1) (b := c_n C) (by omega) (fun q => hb (Or.inl q)) (fun q => hb (Or.inr (Or.inl q))) (by decide)
    rcases up_d h hr with hu | hu
    · refine two_of h (b := 5) (by decide) (k_snd 4 h.1 hr hu q1 q2) (fun Z I hz h2 h3 => ?_)
      obtain ⟨G, hi, ho⟩ := h3
      obtain ⟨f', e', p', c1, c2, c3, c4, c5, c6, c7, c8⟩ := hi.e hr
      have ecn := h2.cn hi
      obtain ⟨k1, k2⟩ := h2.sn hi hr q1 (by omega) c2 c5
      rw [k2]
      exact ⟨(f_sn I r q e').1, r_send 5 I hr (by rw [← h2.1.1]; exact n1) n2 q1 q2 ((up_c h2 hr).1 hu) c2 c5 hi.wf hi.1.2.2.2.1 hz, Fo.sn _ _ _ _, k1, B, n, by omega, FI.sn ⟨G, hi, ho⟩ hr (by omega) c2 c5⟩
    · exact two_00 h (k_snd_d 4 h.1 hr hu q1 q2) (fun Z I hz h2 h3 => r_send_d 7 I hr (by rw [← h2.1.1]; exact n1) n2 q1 q2 ((up_c h2 hr).2 hu) hz)
theorem no_c {I : xI} {x : Int32} (h2 : RelP C I) (hu : (f_rep x && decide (C.1 (9 + 13 * x.toNatClampNeg) 3 ≠ 0)) = false) : (f_rep x && f_bit (I 74 7) x) = false := by
  by_cases hf : f_rep x = true
  · obtain ⟨r, hr, rfl⟩ := f_rep_x hf
    rw [hf, Bool.true_and, nI_clamp (by omega), decide_eq_false_iff_not, Classical.not_not] at hu
    rw [(up_c h2 hr).2 hu, Bool.and_false]
  · have hf' : f_rep x = false := Bool.not_eq_true _ ▸ hf
    rw [hf', Bool.false_and]
theorem yes_c {x : Int32} (h : St B n M C) (hu : ¬ (f_rep x && decide (C.1 (9 + 13 * x.toNatClampNeg) 3 ≠ 0)) = false) : ∃ r, r < 5 ∧ x = nI r ∧ C.1 (9 + 13 * r) 3 = 1 := by
  have hu' : (f_rep x && decide (C.1 (9 + 13 * x.toNatClampNeg) 3 ≠ 0)) = true := Bool.not_eq_false _ ▸ hu
  rw [Bool.and_eq_true, decide_eq_true_eq] at hu'
  obtain ⟨r, hr, rfl⟩ := f_rep_x hu'.1
  rw [nI_clamp (by omega)] at hu'
  rcases up_d h hr with z | z
  · exact ⟨r, hr, rfl, z⟩
  · exact absurd z hu'.2
theorem two_timer (h : St B n M C) (hB : B ≤ 400000) (x : Int32) : Two B M 80 112 [.int x] := by
  by_cases hu : (f_rep x && decide (C.1 (9 + 13 * x.toNatClampNeg) 3 ≠ 0)) = false
  · exact two_00 h (k_no 3 h.1 hu).1 (fun Z I hz h2 h3 => r_timer_n 7 I x (no_c h2 hu) hz)
  · obtain ⟨r, hr, rfl, hup⟩ := yes_c h hu
    obtain ⟨G0, hi0, _⟩ := h.2.2
    obtain ⟨_, _, p, _, _, d3, _, _, _, d7, d8⟩ := hi0.e hr
    have hp : C.1 (9 + 13 * r) 4 = nI p := (h.2.1.R hr).2.1.trans d3
    refine two_of h (b := 20) (by decide) (k_tim 3 h.1 hr hup hp (by omega)) (fun Z I hz h2 h3 => ?_)
    obtain ⟨G, hi, ho⟩ := h3
    obtain ⟨f', e', p', c1, c2, c3, c4, c5, c6, c7, c8⟩ := hi.e hr
    have ep : I 81 r = nI p := (h2.R hr).2.1.symm.trans hp
    have k1 := h2.tm hi hr c2 c5 ep (by omega) d7
    have e1 : (c_str C r p).1 3 1 - C.1 3 1 = f_tm I r e' p 74 21 := by
      rw [k1.2.1, h2.2.1]
      exact Cd.tm hi.1.2.2.2.1 r e' p
    rw [e1]
    exact ⟨f_tm I r e' p, r_timer 6 I hr ((up_c h2 hr).1 hup) c2 c5 ep (by omega) hi.wf hi.1.2.2.2.1 hz, Fo.tm _ _ _ _, k1, B + 9, n, by omega, FI.tm ⟨G, hi, ho⟩ hr c2 c5 ep (by omega) d7⟩
theorem two_crash (h : St B n M C) (x : Int32) : Two B M 84 129 [.int x] := by
  by_cases hu : (f_rep x && decide (C.1 (9 + 13 * x.toNatClampNeg) 3 ≠ 0)) = false
  · exact two_00 h (k_no 3 h.1 hu).2.1 (fun Z I hz h2 h3 => r_crash_n 7 I (no_c h2 hu) hz)
  · obtain ⟨r, hr, rfl, hup⟩ := yes_c h hu
    refine two_of h (b := 0) (by decide) (k_crs 2 h.1 hr hup) (fun Z I hz h2 h3 => ?_)
    exact ⟨f_crash I r, r_crash 7 I hr ((up_c h2 hr).1 hup) hz, Fo.crash _ _, h2.crash hr, B, n, by omega, h3.crash hr⟩
theorem two_cut (h : St B n M C) (x : Int32) : Two B M 86 131 [.int x] := by
  by_cases hu : (f_rep x && decide (C.1 (9 + 13 * x.toNatClampNeg) 3 ≠ 0)) = false
  · exact two_00 h (k_no 3 h.1 hu).2.2 (fun Z I hz h2 h3 => r_cut_n 7 I (no_c h2 hu) hz)
  · obtain ⟨r, hr, rfl, hup⟩ := yes_c h hu
    refine two_of h (b := 0) (by decide) (k_cut 2 h.1 hr hup) (fun Z I hz h2 h3 => ?_)
    obtain ⟨G, hi, ho⟩ := h3
    obtain ⟨f', e', p', c1, c2, c3, c4, c5, c6, c7, c8⟩ := hi.e hr
    obtain ⟨e1, e2, e3⟩ := h2.e hi hr c2 c5
    rw [e2, ← h2.anc hi hr c5]
    refine ⟨(f_cut I r e').1, r_cut 7 I hr ((up_c h2 hr).1 hup) c2 c5 hz, Fo.cut _ _ _, ?_, B, n, by omega, FI.cut ⟨G, hi, ho⟩ hr c2 c5⟩
    rw [e1]
    exact h2.keep hr c5 (PS_ok hi.rq hi.ch e' c5 e3).2
theorem two_restart (h : St B n M C) (x : Int32) : Two B M 85 130 [.int x] := by
  by_cases hu : f_rep x = false ∨ C.1 (9 + 13 * x.toNatClampNeg) 3 = 1
  · refine two_00 h (k_rst_n 2 h.1 hu) (fun Z I hz h2 h3 => r_restart_n 7 I ?_ hz)
    by_cases hf : f_rep x = true
    · obtain ⟨r, hr, rfl⟩ := f_rep_x hf
      rcases hu with hu | hu
      · exact Or.inl hu
      · rw [nI_clamp (by omega)] at hu
        exact Or.inr ((up_c h2 hr).1 hu)
    · exact Or.inl (Bool.not_eq_true _ ▸ hf)
  · have hf : f_rep x = true := Bool.not_eq_false _ ▸ (fun q => hu (Or.inl q))
    obtain ⟨r, hr, rfl⟩ := f_rep_x hf
    rw [nI_clamp (by omega)] at hu
    have hup : C.1 (9 + 13 * r) 3 = 0 := by
      rcases up_d h hr with z | z
      · exact absurd (Or.inr z) hu
      · exact z
    refine two_of h (b := 0) (by decide) (k_rst 2 h.1 hr hup) (fun Z I hz h2 h3 => ?_)
    exact ⟨f_rst I r, r_restart 7 I hr ((up_c h2 hr).2 hup) hz, Fo.rst _ _, h2.rst hr, B, n, by omega, h3.rst⟩
theorem w_c {I : xI} (h : St B n M C) (h2 : RelP C I) : c_w C = f_w I ∧ c_w C ≤ 32 := ⟨h2.w, h.1.w.2.1⟩
theorem two_drop (h : St B n M C) (x : Int32) : Two B M 82 127 [.int x] := by
  have hw := h.1.w.2.1
  by_cases hx : x < 0 ∨ nI (c_w C) ≤ x
  · exact two_00 h (k_del_n 2 h.1 hx).2.1 (fun Z I hz h2 h3 => by
      obtain ⟨G, hi, ho⟩ := h3
      exact r_drop_n 9 I hi.1.2.2.2.1 (by rw [← h2.w]; exact hx) hz)
  · obtain ⟨i, _, i2, rfl⟩ := i_rng (x := x) (a := 0) (b := c_w C) (by omega) (fun q => hx (Or.inl q)) (fun q => hx (Or.inr (i_llt q))) (by decide)
    have hi' : i < c_w C := by
      by_cases z : i = c_w C
      · exact absurd (Or.inr (by rw [z]; exact Int32.le_refl _)) hx
      · omega
    refine two_of h (b := 0) (by decide) (k_drp 2 h.1 hi') (fun Z I hz h2 h3 => ?_)
    obtain ⟨G, hi, ho⟩ := h3
    have hiw : i < f_w I := by rw [← h2.w]; exact hi'
    exact ⟨f_rm I i, r_drop 7 I hi.1.2.2.2.1 hiw hz, Fo.rm _ _, h2.rm hi.1.2.2.2.1 hiw, B, n, by omega, FI.rm ⟨G, hi, ho⟩ hiw⟩
theorem two_copy (h : St B n M C) (x : Int32) : Two B M 83 128 [.int x] := by
  have hw := h.1.w.2.1
  by_cases hx : x < 0 ∨ nI (c_w C) ≤ x
  · exact two_00 h (k_del_n 2 h.1 hx).2.2.1 (fun Z I hz h2 h3 => by
      obtain ⟨G, hi, ho⟩ := h3
      exact r_copy_n 9 I hi.1.2.2.2.1 (by rw [← h2.w]; rcases hx with z | z; exact Or.inl z; exact Or.inr (Or.inl z)) hz)
  · obtain ⟨i, _, i2, rfl⟩ := i_rng (x := x) (a := 0) (b := c_w C) (by omega) (fun q => hx (Or.inl q)) (fun q => hx (Or.inr (i_llt q))) (by decide)
    have hi' : i < c_w C := by
      by_cases z : i = c_w C
      · exact absurd (Or.inr (by rw [z]; exact Int32.le_refl _)) hx
      · omega
    refine two_of h (b := 0) (by decide) (k_cpy 2 h.1 hi') (fun Z I hz h2 h3 => ?_)
    obtain ⟨G, hi, ho⟩ := h3
    have hiw : i < f_w I := by rw [← h2.w]; exact hi'
    by_cases h32 : c_w C < 32
    · rw [decide_eq_true h32]
      exact ⟨f_copy I i, r_copy 8 I hi.1.2.2.2.1 hiw (by rw [← h2.w]; exact h32) hz, Fo.copy _ _, h2.copy hiw (by rw [← h2.w]; exact h32), B, n, by omega, FI.copy ⟨G, hi, ho⟩ hiw (by rw [← h2.w]; exact h32)⟩
    · rw [decide_eq_false h32, c_put, if_neg h32]
      exact ⟨I, r_copy_n 9 I hi.1.2.2.2.1 (Or.inr (Or.inr (by rw [← h2.w]; omega))) hz, Fo.refl I, h2, B, n, by omega, G, hi, ho⟩
end BOTB
