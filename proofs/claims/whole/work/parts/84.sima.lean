/-! class and reference step alike: atoms -/
section SIMA
variable {B n : Nat} {C C' : xCC} {I I' : xI} {G : xGh} {r : Nat}
theorem mQ_pl {J : xI} {k : Nat} {fr t b s c b' m u : Int32} {vb vc : Nat → Int32} (hk : k < 100) (h2 : k ≠ 2) (h8 : k ≠ 8) (h1 : k = 1 ∨ k = 6 → b = m) (h3 : k ≠ 1 → k ≠ 6 → s = m) (h4 : k = 3 ∨ k = 4 → b = b') : mQ J (g_pl (nI k) fr t b s c) (nI k) fr t b' m c u vb vc := by
  have q : ∀ j, j < 100 → (nI k = nI j ↔ k = j) := fun j hj => nI_eq (by omega) (by omega)
  refine ⟨rfl, rfl, rfl, ?_, rfl, fun z => ?_, fun z => absurd ((q 2 (by decide)).mp z) h2, fun z => absurd ((q 8 (by decide)).mp z) h8⟩
  · show (if nI k = nI 1 ∨ nI k = nI 2 ∨ nI k = nI 6 then b else s) = m
    by_cases z : k = 1 ∨ k = 6
    · rw [if_pos (by rcases z with z | z; exact Or.inl (by rw [z]); exact Or.inr (Or.inr (by rw [z])))]
      exact h1 z
    · rw [if_neg (fun y => by
        rcases y with y | y | y
        · exact z (Or.inl ((q 1 (by decide)).mp y))
        · exact h2 ((q 2 (by decide)).mp y)
        · exact z (Or.inr ((q 6 (by decide)).mp y)))]
      exact h3 (fun y => z (Or.inl y)) (fun y => z (Or.inr y))
  · refine h4 ?_
    rcases z with z | z
    · exact Or.inl ((q 3 (by decide)).mp z)
    · exact Or.inr ((q 4 (by decide)).mp z)
theorem RelP.R (h : RelP C I) (hr : r < 5) : rE C I r := h.2.2.1 r hr
theorem RelP.refuse (h : RelP C I) (hw : f_wok I) (hr : r < 5) (t : Int32) : RelP (c_ref C r t) (f_ml I (nI 6) r t (nI 0) (I 81 r) (nI 0)) :=
  h.ml hw (mQ_pl (by decide) (by decide) (by decide) (fun _ => (h.R hr).2.1) (fun _ z => absurd rfl z) (fun z => by omega))
theorem RelP.prm (h : RelP C I) (hr : r < 5) (p : Int32) : RelP (x_u C.1 (9 + 13 * r) 4 p, C.2) (x_u I 81 r p) := by
  have u : ∀ a i, a ≠ 81 → x_u I 81 r p a i = I a i := fun a i z => x_u_ne _ _ (fun q => z q.1)
  have v : ∀ a i, a ≠ 9 + 13 * r ∨ i ≠ 4 → x_u C.1 (9 + 13 * r) 4 p a i = C.1 a i := fun a i z => x_u_ne _ _ (by omega)
  have hP : ∀ f, PS (x_u I 81 r p) f = PS I f := PS_same (fun a i z => u a i (by omega))
  refine h.rep hr (fun a i z1 z2 => v a i (by omega)) (fun _ _ => ⟨rfl, rfl⟩) rfl (fun a i z1 z2 z3 => x_u_ne _ _ (fun q => z3 (Or.inl ⟨Or.inl q.1, q.2⟩))) (fun r' _ _ => by rw [u 74 7 (by decide)]) ?_
  obtain ⟨a1, a2, ⟨f, e, a3, a4, a5, a6, a7, a8⟩, b1, b2, b3⟩ := h.R hr
  refine ⟨by rw [u 74 7 (by decide)]; exact (v _ _ (by omega)).trans a1, ?_, ⟨f, e, (u _ _ (by decide)).trans a3, (u _ _ (by decide)).trans a4, a5, a6, a7.trans (hP _).symm, a8.trans (hP _).symm⟩, fun s s1 s2 => ?_, fun s s1 s2 => ?_, ?_⟩
  · show x_u C.1 (9 + 13 * r) 4 p (9 + 13 * r) 4 = _
    rw [x_u_eq, x_u_eq]
  · rw [u 84 _ (by decide), u 80 _ (by decide)]
    exact (v _ _ (by omega)).trans (b1 s s1 s2)
  · rw [u 85 _ (by decide), u 86 _ (by decide)]
    exact ⟨(v _ _ (by omega)).trans (b2 s s1 s2).1, fun z => (v _ _ (by omega)).trans ((b2 s s1 s2).2 z)⟩
  · rw [u 87 _ (by decide), u 88 _ (by decide)]
    rcases b3 with b3 | ⟨d1, d2, d3, d4⟩
    · exact Or.inl ⟨b3.1, (v _ _ (by omega)).trans b3.2⟩
    · refine Or.inr ⟨d1, (v _ _ (by omega)).trans d2, (v _ _ (by omega)).trans d3, fun s s1 s2 => ?_⟩
      rw [u 89 _ (by decide), u 90 _ (by decide), u 91 _ (by decide), u 92 _ (by decide)]
      obtain ⟨k1, k2, k3, k4, k5⟩ := d4 s s1 s2
      exact ⟨(v _ _ (by omega)).trans k1, fun z => (v _ _ (by omega)).trans (k2 z), (v _ _ (by omega)).trans k3, k4, fun z => (v _ _ (by omega)).trans (k5 z)⟩
theorem RelP.cast (h : RelP C I) (hr : r < 5) {s : Nat} (b c : Int32) (s1 : 1 ≤ s) (s2 : s ≤ 24) : RelP (c_vp C.1 (9 + 13 * r + 1) s b c, C.2) (f_cast I r s b c) := by
  have hs : c_sl s = true := c_sl_t.mpr ⟨s1, s2⟩
  rw [c_vp, if_pos hs]
  have u : ∀ a i, a ≠ 85 → a ≠ 86 → f_cast I r s b c a i = I a i := fun a i z1 z2 => by rw [f_cast, x_u_ne _ _ (fun q => z2 q.1), x_u_ne _ _ (fun q => z1 q.1)]
  have uo : ∀ a i, i ≠ 25 * r + s → f_cast I r s b c a i = I a i := fun a i z => by rw [f_cast, x_u_ne _ _ (fun q => z q.2), x_u_ne _ _ (fun q => z q.2)]
  have v : ∀ a i, (a ≠ 9 + 13 * r + 1 + 1 ∧ a ≠ 9 + 13 * r + 1 + 2) ∨ i ≠ s → x_u (x_u C.1 (9 + 13 * r + 1 + 1) s b) (9 + 13 * r + 1 + 2) s c a i = C.1 a i := fun a i z => by rw [x_u_ne _ _ (by omega), x_u_ne _ _ (by omega)]
  have hP : ∀ f, PS (f_cast I r s b c) f = PS I f := PS_same (fun a i z => u a i (by omega) (by omega))
  refine h.rep hr (fun a i z1 z2 => v a i (by omega)) (fun _ _ => ⟨rfl, rfl⟩) rfl (fun a i z1 z2 z3 => ?_) (fun r' _ _ => by rw [u 74 7 (by decide) (by decide)]) ?_
  · by_cases q : a = 85 ∨ a = 86
    · exact uo a i (fun y => z3 (Or.inr ⟨by omega, by omega, by omega⟩))
    · exact u a i (fun y => q (Or.inl y)) (fun y => q (Or.inr y))
  obtain ⟨a1, a2, ⟨f, e, a3, a4, a5, a6, a7, a8⟩, b1, b2, b3⟩ := h.R hr
  refine ⟨by rw [u 74 7 (by decide) (by decide)]; exact (v _ _ (by omega)).trans a1, by rw [u _ _ (by decide) (by decide)]; exact (v _ _ (by omega)).trans a2, ⟨f, e, (u _ _ (by decide) (by decide)).trans a3, (u _ _ (by decide) (by decide)).trans a4, a5, a6, a7.trans (hP _).symm, a8.trans (hP _).symm⟩, fun t t1 t2 => ?_, fun t t1 t2 => ?_, ?_⟩
  · rw [u 84 _ (by decide) (by decide), u 80 _ (by decide) (by decide)]
    exact (v _ _ (by omega)).trans (b1 t t1 t2)
  · by_cases e : t = s
    · subst e
      have e5 : f_cast I r t b c 85 (25 * r + t) = b := by rw [f_cast, x_u_ne _ _ (by omega), x_u_eq]
      have e6 : f_cast I r t b c 86 (25 * r + t) = c := by rw [f_cast, x_u_eq]
      rw [e5, e6]
      exact ⟨by show x_u (x_u C.1 (9 + 13 * r + 1 + 1) t b) (9 + 13 * r + 1 + 2) t c (9 + 13 * r + 2) t = b; rw [x_u_ne _ _ (by omega)]; exact x_u_eq _ _ _ _, fun _ => x_u_eq _ _ _ _⟩
    · rw [uo _ _ (by omega), uo _ _ (by omega)]
      exact ⟨(v _ _ (by omega)).trans (b2 t t1 t2).1, fun z => (v _ _ (by omega)).trans ((b2 t t1 t2).2 z)⟩
  · rw [u 87 _ (by decide) (by decide), u 88 _ (by decide) (by decide)]
    rcases b3 with b3 | ⟨d1, d2, d3, d4⟩
    · exact Or.inl ⟨b3.1, (v _ _ (by omega)).trans b3.2⟩
    · refine Or.inr ⟨d1, (v _ _ (by omega)).trans d2, (v _ _ (by omega)).trans d3, fun s s1 s2 => ?_⟩
      rw [u 89 _ (by decide) (by decide), u 90 _ (by decide) (by decide), u 91 _ (by decide) (by decide), u 92 _ (by decide) (by decide)]
      obtain ⟨k1, k2, k3, k4, k5⟩ := d4 s s1 s2
      exact ⟨(v _ _ (by omega)).trans k1, fun z => (v _ _ (by omega)).trans (k2 z), (v _ _ (by omega)).trans k3, k4, fun z => (v _ _ (by omega)).trans (k5 z)⟩
theorem RelP.pres (h : RelP C I) (hr : r < 5) {f' : Nat} (hf : f' ≤ 24) : RelP (C.1, x_p C.2.1 r (PS I f'), C.2.2) (x_u I 83 r (nI f')) := by
  have u : ∀ a i, a ≠ 83 → x_u I 83 r (nI f') a i = I a i := fun a i z => x_u_ne _ _ (fun q => z q.1)
  have hP : ∀ f, PS (x_u I 83 r (nI f')) f = PS I f := PS_same (fun a i z => u a i (by omega))
  refine h.rep hr (fun a i z1 z2 => rfl) (fun r' z => ⟨x_p_ne _ _ z, rfl⟩) rfl (fun a i z1 z2 z3 => x_u_ne _ _ (fun q => z3 (Or.inl ⟨by omega, q.2⟩))) (fun r' _ _ => by rw [u 74 7 (by decide)]) ?_
  obtain ⟨a1, a2, ⟨f, e, a3, a4, a5, a6, a7, a8⟩, b1, b2, b3⟩ := h.R hr
  refine ⟨by rw [u 74 7 (by decide)]; exact a1, by rw [u _ _ (by decide)]; exact a2, ⟨f, f', (u _ _ (by decide)).trans a3, x_u_eq _ _ _ _, a5, hf, (x_p_eq _ _ _).trans (hP _).symm, a8.trans (hP _).symm⟩, fun s s1 s2 => ?_, fun s s1 s2 => ?_, ?_⟩
  · rw [u 84 _ (by decide), u 80 _ (by decide)]
    exact b1 s s1 s2
  · rw [u 85 _ (by decide), u 86 _ (by decide)]
    exact b2 s s1 s2
  · rw [u 87 _ (by decide), u 88 _ (by decide)]
    rcases b3 with b3 | ⟨d1, d2, d3, d4⟩
    · exact Or.inl b3
    · refine Or.inr ⟨d1, d2, d3, fun s s1 s2 => ?_⟩
      rw [u 89 _ (by decide), u 90 _ (by decide), u 91 _ (by decide), u 92 _ (by decide)]
      exact d4 s s1 s2
theorem RelP.keep (h : RelP C I) (hr : r < 5) {f' : Nat} (hf : f' ≤ 24) (hs : sl (PS I f') = f') : RelP (c_keep C r (PS I f')) (f_fg (x_u I 82 r (nI f')) r f').1 := by
  obtain ⟨m1, m2, m3⟩ := f_fg_at (x_u I 82 r (nI f')) r f' hf
  have v82 : ∀ a i, a ≠ 82 → x_u I 82 r (nI f') a i = I a i := fun a i z => x_u_ne _ _ (fun q => z q.1)
  rw [v82 84 r (by decide)] at m3
  generalize (f_fg (x_u I 82 r (nI f')) r f').1 = I' at m1 m2 m3
  have u : ∀ a i, a ≠ 82 → a ≠ 84 → a ≠ 85 → a ≠ 86 → I' a i = I a i := fun a i z1 z2 z3 z4 => (m2 a i z3 z4 (Or.inl z2)).trans (v82 a i z1)
  have u5 : ∀ a i, a = 85 ∨ a = 86 → I' a i = if 25 * r + 1 ≤ i ∧ i ≤ 25 * r + f' then 0 else I a i := fun a i z => by
    rw [m1 a i z, v82 a i (by omega)]
  have v : ∀ a i, (a ≠ 9 + 13 * r + 2 ∧ a ≠ 9 + 13 * r + 5) → (c_keep C r (PS I f')).1 a i = C.1 a i := fun a i z => by
    show c_fg (c_fg C.1 (9 + 13 * r + 2) (sl (PS I f')) 0) (9 + 13 * r + 5) (sl (PS I f')) (-1) a i = _
    rw [c_fg, f_fillF_o _ _ _ _ _ (by omega), c_fg, f_fillF_o _ _ _ _ _ (by omega)]
  have v2 : ∀ s, (c_keep C r (PS I f')).1 (9 + 13 * r + 2) s = if 1 ≤ s ∧ s ≤ f' then 0 else C.1 (9 + 13 * r + 2) s := fun s => by
    show c_fg (c_fg C.1 (9 + 13 * r + 2) (sl (PS I f')) 0) (9 + 13 * r + 5) (sl (PS I f')) (-1) (9 + 13 * r + 2) s = _
    rw [c_fg, f_fillF_o _ _ _ _ _ (by omega), c_fg, f_fillF, hs]
    by_cases q : 1 ≤ s ∧ s ≤ f'
    · rw [if_pos q, if_pos ⟨rfl, by omega, by omega⟩]
    · rw [if_neg q, if_neg (by omega)]
  have v5 : ∀ s, (c_keep C r (PS I f')).1 (9 + 13 * r + 5) s = if 1 ≤ s ∧ s ≤ f' then -1 else C.1 (9 + 13 * r + 5) s := fun s => by
    show c_fg (c_fg C.1 (9 + 13 * r + 2) (sl (PS I f')) 0) (9 + 13 * r + 5) (sl (PS I f')) (-1) (9 + 13 * r + 5) s = _
    rw [c_fg, f_fillF, hs]
    by_cases q : 1 ≤ s ∧ s ≤ f'
    · rw [if_pos q, if_pos ⟨rfl, by omega, by omega⟩]
    · rw [if_neg q, if_neg (by omega), c_fg, f_fillF_o _ _ _ _ _ (by omega)]
  have hP : ∀ f, PS I' f = PS I f := PS_same (fun a i z => u a i (by omega) (by omega) (by omega) (by omega))
  refine h.rep hr (fun a i z1 z2 => v a i (by omega)) (fun r' z => ⟨rfl, x_p_ne _ _ z⟩) rfl (fun a i z1 z2 z3 => ?_) (fun r' _ _ => by rw [u 74 7 (by decide) (by decide) (by decide) (by decide)]) ?_
  · by_cases q : a = 85 ∨ a = 86
    · rw [u5 a i q, if_neg (fun y => z3 (Or.inr ⟨by omega, by omega, by omega⟩))]
    · rw [m2 a i (fun y => q (Or.inl y)) (fun y => q (Or.inr y)) (by
        by_cases y : a = 84
        · right
          exact fun w => z3 (Or.inl ⟨by omega, w⟩)
        · exact Or.inl y)]
      exact x_u_ne _ _ (fun y => z3 (Or.inl ⟨by omega, y.2⟩))
  obtain ⟨a1, a2, ⟨f, e, a3, a4, a5, a6, a7, a8⟩, b1, b2, b3⟩ := h.R hr
  have e82 : I' 82 r = nI f' := (m2 82 r (by decide) (by decide) (Or.inl (by decide))).trans (x_u_eq _ _ _ _)
  refine ⟨by rw [u 74 7 (by decide) (by decide) (by decide) (by decide), v _ _ (by omega)]; exact a1, by rw [u _ _ (by decide) (by decide) (by decide) (by decide), v _ _ (by omega)]; exact a2, ⟨f', e, e82, (u _ _ (by decide) (by decide) (by decide) (by decide)).trans a4, hf, a6, a7.trans (hP _).symm, (x_p_eq _ _ _).trans (hP _).symm⟩, fun s s1 s2 => ?_, fun s s1 s2 => ?_, ?_⟩
  · rw [v5, m3 s (by omega), u 80 _ (by decide) (by decide) (by decide) (by decide), decide_eq_true s1, Bool.true_and]
    by_cases q : s ≤ f'
    · rw [if_pos ⟨s1, q⟩, decide_eq_true q]
      simp
    · rw [if_neg (by omega), decide_eq_false q]
      simp only [Bool.not_false, Bool.and_true]
      exact b1 s s1 s2
  · rw [v2, v _ _ (by omega), u5 85 _ (Or.inl rfl), u5 86 _ (Or.inr rfl)]
    by_cases q : s ≤ f'
    · rw [if_pos ⟨s1, q⟩, if_pos (by omega)]
      exact ⟨rfl, fun z => absurd rfl z⟩
    · rw [if_neg (by omega), if_neg (by omega), if_neg (by omega)]
      exact b2 s s1 s2
  · rw [u 87 _ (by decide) (by decide) (by decide) (by decide), u 88 _ (by decide) (by decide) (by decide) (by decide), v _ _ (by omega), v _ _ (by omega)]
    rcases b3 with b3 | ⟨d1, d2, d3, d4⟩
    · exact Or.inl b3
    · refine Or.inr ⟨d1, d2, d3, fun s s1 s2 => ?_⟩
      rw [u 89 _ (by decide) (by decide) (by decide) (by decide), u 90 _ (by decide) (by decide) (by decide) (by decide), u 91 _ (by decide) (by decide) (by decide) (by decide), u 92 _ (by decide) (by decide) (by decide) (by decide), v _ _ (by omega), v _ _ (by omega), v _ _ (by omega), v _ _ (by omega)]
      exact d4 s s1 s2
theorem RelP.inst (h : RelP C I) (hi : Inv B n I G) (hr : r < 5) {f : Nat} (hf : f ≤ 24) (hp : prD I f) : RelP (c_inst C r (PS I f)) (f_inst I r f) := by
  have hsf := (PS_ok hi.rq hi.ch f hf hp).2
  obtain ⟨f0, e, p', a1, a2, a3, a4, a5, a6, a7, a8⟩ := hi.e hr
  obtain ⟨_, _, ⟨f1, e1, b3, b4, b5, b6, b7, b8⟩, _⟩ := h.R hr
  have ee : e = e1 := by
    rw [a2] at b4
    exact (nI_eq (by omega) (by omega)).mp b4
  subst ee
  have hse := (PS_ok hi.rq hi.ch e a5 a6).2
  rw [c_inst, f_inst, b7, hse, hsf, a2]
  by_cases q : e < f
  · rw [if_pos q, if_neg (fun z => by have := (nI_leI (by omega) (by omega)).mp z; omega)]
    have h1 := h.pres hr hf
    have hP : ∀ g, PS (x_u I 83 r (nI f)) g = PS I g := PS_same (fun a i z => x_u_ne _ _ (by omega))
    have h2 := h1.keep (f' := f) hr hf (by rw [hP]; exact hsf)
    rw [hP, x_uc _ _ _ (show (83 : Nat) ≠ 82 by decide)] at h2
    exact h2
  · rw [if_neg q, if_pos ((nI_leI (by omega) (by omega)).mpr (by omega))]
    exact h
end SIMA
