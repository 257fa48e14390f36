/-! class and reference step alike: the handlers -/
section SIMD
variable {B n : Nat} {C C' : xCC} {I I' : xI} {G : xGh} {r : Nat}
theorem RelP.c2 (h : RelP C I) (hI : ∀ a i, 74 ≤ a → a ≤ 101 → (a = 74 → i = 0 ∨ i = 7 ∨ i = 20) → I' a i = I a i) : RelP C I' := by
  obtain ⟨⟨h1, h2, h2'⟩, h3, h4, h5⟩ := h
  have u : ∀ a i, 74 < a → a ≤ 101 → I' a i = I a i := fun a i z1 z2 => hI a i (by omega) z2 (by omega)
  have hP : ∀ f, PS I' f = PS I f := PS_same (fun a i z => u a i (by omega) (by omega))
  refine ⟨⟨by rw [hI _ _ (by decide) (by decide) (by decide)]; exact h1, fun q q1 q2 => ?_, fun q q1 q2 => ?_⟩, by rw [hI _ _ (by decide) (by decide) (by decide)]; exact h3, fun r hr => (h4 r hr).c hr (fun _ _ _ _ => rfl) ⟨rfl, rfl⟩ hP (fun s => u _ _ (by decide) (by decide)) (by rw [hI _ _ (by decide) (by decide) (by decide)]) (fun a i z => u a i (by rw [rc] at z; omega) (by rw [rc] at z; omega)), fun i hi => ?_⟩
  · rw [u 75 _ (by decide) (by decide), u 76 _ (by decide) (by decide), u 77 _ (by decide) (by decide), u 78 _ (by decide) (by decide), u 79 _ (by decide) (by decide)]
    exact h2 q q1 q2
  · rw [u 78 _ (by decide) (by decide), u 79 _ (by decide) (by decide)]
    exact h2' q q1 q2
  · rw [f_w_eq (hI 74 20 (by decide) (by decide) (by decide))] at hi
    exact (h5 i hi).e hP (mgE.of (fun a i z1 z2 => u a i (by omega) (by omega)) i)
theorem RelP.dl2 (h : RelP C I) (hw : f_wok I) {i : Nat} (hi : i < f_w I) : RelP (c_tk C i) (f_dl2 I i) := by
  have c0 : ∀ a j, 74 ≤ a → a ≤ 101 → (a = 74 → j = 0 ∨ j = 7 ∨ j = 20) → f_dl1 I i a j = I a j := fun a j z1 z2 z3 => f_dl1_o I i (by omega) (by omega)
  have e20 : f_dl1 I i 74 20 = I 74 20 := c0 _ _ (by decide) (by decide) (by decide)
  exact (h.c2 c0).rm (f_wok_eq e20 hw) (by rw [f_w_eq e20]; exact hi)
theorem RelP.dl (h : RelP C I) (hw : f_wok I) {i : Nat} (hi : i < f_w I) : RelP (c_tk C i) (f_dl I i) ∧ mQ (f_dl I i) (C.2.2.2.2 i) (I 93 i) (f_dl I i 74 31) (I 95 i) (f_dl I i 74 32) (f_dl I i 74 33) (f_dl I i 74 34) (f_dl I i 74 35) (f_dl I i 102) (f_dl I i 103) := by
  refine ⟨(h.dl2 hw hi).c2 (fun a j z1 z2 z3 => x_u_ne _ _ (by omega)), ?_⟩
  obtain ⟨r1, r2, r3, r4, r5, r6⟩ := f_dl_r I i
  rw [r1, r2, r3, r4, r5]
  exact (h.2.2.2 i hi).c (PS_same (fun a j z => f_dl_o I i (by omega) (by omega))) (fun s hs => r6 s hs)
theorem num3 {g : Nat → Int32} {k : Nat} (h : g 0 = nI k) (hk : k = 1 ∨ k = 2 ∨ k = 6) : c_num g = g 3 := by
  rw [c_num, h, if_pos (by rcases hk with z | z | z <;> rw [z] <;> simp)]
theorem num4 {g : Nat → Int32} {k : Nat} (h : g 0 = nI k) (hk : k < 100) (h1 : k ≠ 1) (h2 : k ≠ 2) (h6 : k ≠ 6) : c_num g = g 4 := by
  rw [c_num, h, if_neg (fun z => by
    rcases z with z | z | z
    · exact h1 ((nI_eq (by omega) (by decide)).mp z)
    · exact h2 ((nI_eq (by omega) (by decide)).mp z)
    · exact h6 ((nI_eq (by omega) (by decide)).mp z))]
theorem RelP.oPr (h : RelP C I) (hi : Inv B n I G) (hr : r < 5) {m : xG} {t b c u : Int32} {vb vc : Nat → Int32} (hm : mQ I m (nI 1) (I 74 31) t b (I 74 33) c u vb vc) : RelP (c_oPr C r m.1) (f_oPrep I r) := by
  obtain ⟨m0, m1, m2, m3, m5, _⟩ := hm
  rw [num3 m0 (by decide)] at m3
  obtain ⟨a1, a2, ⟨f, e, a3, a4, a5, a6, a7, a8⟩, b1, b2, b3⟩ := h.R hr
  have hw := hi.1.2.2.2.1
  rw [c_oPr, f_oPrep, m3, m1, a2]
  by_cases z : I 74 33 < I 81 r
  · rw [if_pos z, if_pos z]
    exact h.refuse hw hr _
  · rw [if_neg z, if_neg z]
    have h1 := h.prm hr (I 74 33)
    have u : ∀ a i, a ≠ 81 → x_u I 81 r (I 74 33) a i = I a i := fun a i z => x_u_ne _ _ (fun q => z q.1)
    have hP : ∀ f, PS (x_u I 81 r (I 74 33)) f = PS I f := PS_same (fun a i z => u a i (by omega))
    refine h1.ml (f_wok_eq (u 74 20 (by decide)) hw) ⟨rfl, rfl, rfl, rfl, rfl, fun y => absurd y (by decide), fun _ => ⟨⟨f, ?_, a5, ?_⟩, _, rfl, fun s s1 s2 => ?_⟩, fun y => absurd y (by decide)⟩
    · rw [if_pos rfl, u 82 _ (by decide)]
      exact a3
    · rw [hP, ← a8]
    · rw [f_mailV, f_mailV, if_pos rfl, if_pos rfl, u 85 _ (by decide), u 86 _ (by decide)]
      obtain ⟨k1, k2⟩ := b2 s s1 s2
      have h0 := ((hi.R hr).2.1.2 s s1 s2).1
      have e2 : C.1 (9 + 13 * r + 1 + 1) s = I 85 (25 * r + s) := k1
      constructor
      · rw [g_dup, e2]
        by_cases y : 0 < I 85 (25 * r + s)
        · rw [if_pos ⟨rfl, s1, s2, y⟩]
        · rw [if_neg (fun w => y w.2.2.2), if_neg (by omega)]
          rw [Int32.lt_iff_toInt_lt] at y
          rw [Int32.le_iff_toInt_le] at h0
          exact Int32.toInt_inj.mp (by omega)
      · intro y
        have y2 : 0 < I 85 (25 * r + s) := by
          rw [Int32.le_iff_toInt_le] at h0
          rw [Int32.lt_iff_toInt_lt]
          have : (I 85 (25 * r + s)).toInt ≠ (0 : Int32).toInt := fun w => y (Int32.toInt_inj.mp w)
          omega
        rw [g_dup, if_neg (by omega), e2, if_pos ⟨rfl, s1, s2, y2⟩, c_vc, c_vh, c_sl_t.mpr ⟨s1, s2⟩, e2, Bool.true_and, if_pos (decide_eq_true y)]
        exact k2 y
theorem RelP.oRe (h : RelP C I) (hr : r < 5) {m : xG} {t b c u : Int32} {vb vc : Nat → Int32} (hm : mQ I m (nI 6) (I 74 31) t b (I 74 33) c u vb vc) : RelP (x_u C.1 (9 + 13 * r) 4 (if C.1 (9 + 13 * r) 4 < m.1 3 then m.1 3 else C.1 (9 + 13 * r) 4), C.2) (f_oRef I r) := by
  obtain ⟨m0, m1, m2, m3, m5, _⟩ := hm
  rw [num3 m0 (by decide)] at m3
  rw [f_oRef, m3, (h.R hr).2.1]
  have e : (if I 81 r < I 74 33 then I 74 33 else I 81 r) = if I 74 33 ≤ I 81 r then I 81 r else I 74 33 := by
    by_cases z : I 81 r < I 74 33
    · rw [if_pos z, if_neg (Int32.not_le.mpr z)]
    · rw [if_neg z, if_pos (Int32.not_lt.mp z)]
  rw [e]
  exact h.prm hr _
theorem RelP.oFe (h : RelP C I) (hi : Inv B n I G) (hr : r < 5) {m : xG} {s : Nat} {t b c u : Int32} {vb vc : Nat → Int32} (hm : mQ I m (nI 7) (I 74 31) t b (I 74 33) c u vb vc) (hs : I 74 33 = nI s) (hs2 : s ≤ 24) : RelP (c_oFe C r s m.1) (f_oFet I r) := by
  obtain ⟨m0, m1, m2, m3, m5, _⟩ := hm
  obtain ⟨f, e, p, c1, c2, c3, c4, c5, c6, c7, c8⟩ := hi.e hr
  obtain ⟨e1, e2, e3⟩ := h.e hi hr c2 c5
  rw [c_oFe, f_oFet, e2, hs, c2, m1]
  by_cases z : s < e
  · rw [if_pos z, if_neg (fun y => by have := (nI_leI (by omega) (by omega)).mp y; omega)]
    refine h.ml hi.1.2.2.2.1 ⟨rfl, rfl, rfl, ?_, rfl, fun y => absurd y (by decide), fun y => absurd y (by decide), fun _ => ⟨e, rfl, c5, ?_⟩⟩
    · rfl
    · rw [← e1]
  · rw [if_neg z, if_pos ((nI_leI (by omega) (by omega)).mpr (by omega))]
    exact h
theorem RelP.oAc (h : RelP C I) (hi : Inv B n I G) (hr : r < 5) {m : xG} {s : Nat} {t u : Int32} {vb vc : Nat → Int32} (hm : mQ I m (nI 3) (I 74 31) t (I 74 32) (I 74 33) (I 74 34) u vb vc) (hs : I 74 33 = nI s) (s1 : 1 ≤ s) (s2 : s ≤ 24) : RelP (c_oAc C r s m.1) (f_oAcc I r s) := by
  obtain ⟨m0, m1, m2, m3, m5, m6, _⟩ := hm
  have m6' := m6 (Or.inl rfl)
  obtain ⟨a1, a2, ⟨f, e, a3, a4, a5, a6, a7, a8⟩, b1, b2, b3⟩ := h.R hr
  obtain ⟨f', e', p, c1, c2, c3, c4, c5, c6, c7, c8⟩ := hi.e hr
  have ef : f = f' := by
    rw [a3] at c1
    exact (nI_eq (by omega) (by omega)).mp c1
  subst ef
  have hsf : sl (C.2.2.1 r) = f := by
    rw [a8]
    exact (PS_ok hi.rq hi.ch f a5 (c6.le c4)).2
  have hw := hi.1.2.2.2.1
  rw [c_oAc, f_oAcc, m6', m5, m1, a2, hsf, a3]
  by_cases z : I 74 32 < I 81 r
  · rw [if_pos z, if_pos z]
    exact h.refuse hw hr _
  · rw [if_neg z, if_neg z]
    have h1 := h.prm hr (I 74 32)
    have v : ∀ a i, a ≠ 81 → x_u I 81 r (I 74 32) a i = I a i := fun a i z => x_u_ne _ _ (fun q => z q.1)
    have hP : ∀ f, PS (x_u I 81 r (I 74 32)) f = PS I f := PS_same (fun a i z => v a i (by omega))
    have w1 : f_wok (x_u I 81 r (I 74 32)) := f_wok_eq (v 74 20 (by decide)) hw
    by_cases y : s ≤ f
    · rw [if_pos y, if_pos ((nI_leI (by omega) (by omega)).mpr y)]
      refine h1.ml w1 ⟨rfl, rfl, rfl, rfl, rfl, fun y => absurd y (by decide), fun y => absurd y (by decide), fun _ => ⟨f, rfl, a5, ?_⟩⟩
      rw [hP, ← a8]
    · rw [if_neg y, if_neg (fun q => y ((nI_leI (by omega) (by omega)).mp q))]
      have h2 := h1.cast hr (I 74 32) (I 74 34) s1 s2
      refine h2.ml ?_ (mQ_pl (by decide) (by decide) (by decide) (fun q => by omega) (fun _ _ => rfl) (fun _ => rfl))
      refine f_wok_eq ?_ w1
      rw [f_cast, x_u_ne _ _ (by omega), x_u_ne _ _ (by omega)]
theorem RelP.know (h : RelP C I) (hr : r < 5) {s : Nat} (s1 : 1 ≤ s) (s2 : s ≤ 24) {c : Int32} (hc : c = I 80 s) : RelP (c_cp C.1 (9 + 13 * r + 4) s c, C.2) (x_u I 84 r (I 84 r ||| (nI 1 <<< (nI s &&& 31)))) := by
  rw [c_cp, if_pos (c_sl_t.mpr ⟨s1, s2⟩)]
  have u : ∀ a i, a ≠ 84 → x_u I 84 r (I 84 r ||| (nI 1 <<< (nI s &&& 31))) a i = I a i := fun a i z => x_u_ne _ _ (fun q => z q.1)
  have v : ∀ a i, a ≠ 9 + 13 * r + 5 ∨ i ≠ s → x_u C.1 (9 + 13 * r + 4 + 1) s c a i = C.1 a i := fun a i z => x_u_ne _ _ (by omega)
  have hP : ∀ f, PS (x_u I 84 r (I 84 r ||| (nI 1 <<< (nI s &&& 31)))) f = PS I f := PS_same (fun a i z => u a i (by omega))
  refine h.rep hr (fun a i z1 z2 => v a i (by omega)) (fun _ _ => ⟨rfl, rfl⟩) rfl (fun a i z1 z2 z3 => x_u_ne _ _ (fun q => z3 (Or.inl ⟨by omega, q.2⟩))) (fun r' _ _ => by rw [u 74 7 (by decide)]) ?_
  obtain ⟨a1, a2, ⟨f, e, a3, a4, a5, a6, a7, a8⟩, b1, b2, b3⟩ := h.R hr
  refine ⟨by rw [u 74 7 (by decide)]; exact (v _ _ (by omega)).trans a1, by rw [u _ _ (by decide)]; exact (v _ _ (by omega)).trans a2, ⟨f, e, (u _ _ (by decide)).trans a3, (u _ _ (by decide)).trans a4, a5, a6, a7.trans (hP _).symm, a8.trans (hP _).symm⟩, fun t t1 t2 => ?_, fun t t1 t2 => ?_, ?_⟩
  · rw [x_u_eq, bt_or1 (by omega) (by omega), u 80 _ (by decide)]
    by_cases e : t = s
    · subst e
      rw [decide_eq_true rfl, Bool.or_true, if_pos rfl]
      exact (x_u_eq _ _ _ _).trans hc
    · rw [decide_eq_false e, Bool.or_false]
      exact (v _ _ (by omega)).trans (b1 t t1 t2)
  · rw [u 85 _ (by decide), u 86 _ (by decide)]
    exact ⟨(v _ _ (by omega)).trans (b2 t t1 t2).1, fun z => (v _ _ (by omega)).trans ((b2 t t1 t2).2 z)⟩
  · rw [u 87 _ (by decide), u 88 _ (by decide)]
    rcases b3 with b3 | ⟨d1, d2, d3, d4⟩
    · exact Or.inl ⟨b3.1, (v _ _ (by omega)).trans b3.2⟩
    · refine Or.inr ⟨d1, (v _ _ (by omega)).trans d2, (v _ _ (by omega)).trans d3, fun s s1 s2 => ?_⟩
      rw [u 89 _ (by decide), u 90 _ (by decide), u 91 _ (by decide), u 92 _ (by decide)]
      obtain ⟨k1, k2, k3, k4, k5⟩ := d4 s s1 s2
      exact ⟨(v _ _ (by omega)).trans k1, fun z => (v _ _ (by omega)).trans (k2 z), (v _ _ (by omega)).trans k3, k4, fun z => (v _ _ (by omega)).trans (k5 z)⟩
theorem RelP.oLe (h : RelP C I) (hi : Inv B n I G) (hr : r < 5) {m : xG} {s e : Nat} {t b u : Int32} {vb vc : Nat → Int32} (hm : mQ I m (nI 5) (I 74 31) t b (I 74 33) (I 74 34) u vb vc) (hs : I 74 33 = nI s) (s1 : 1 ≤ s) (s2 : s ≤ 24) (h80 : 0 ≤ I 80 s) (hc : I 74 34 = I 80 s) (he : I 83 r = nI e) (he2 : e ≤ 24) : RelP (c_gif (c_oLe C r s m.1) r) (f_oLearn I r s e) ∧ ((c_oLe C r s m.1).2 = true → kOK (c_oLe C r s m.1).1 r) := by
  obtain ⟨m0, m1, m2, m3, m5, _⟩ := hm
  obtain ⟨e1, e2, e3⟩ := h.e hi hr he he2
  rw [c_oLe, f_oLearn, e2, h.kn hi hr s1 s2, he]
  have hle : nI s ≤ nI e ↔ s ≤ e := nI_leI (by omega) (by omega)
  by_cases z : s ≤ e ∨ f_know I r s = true
  · rw [if_pos z, if_pos (by
      rcases z with z | z
      · rw [decide_eq_true (hle.mpr z)]; rfl
      · rw [z]; simp)]
    exact ⟨h, fun y => absurd (show false = true from y) (by decide)⟩
  · rw [if_neg z, if_neg (by
      rw [decide_eq_false (fun y => z (Or.inl (hle.mp y))), Bool.false_or]
      exact fun y => z (Or.inr y))]
    obtain ⟨⟨_, _, a7⟩, _⟩ := hi.R hr
    obtain ⟨i1, mo1⟩ := hi.know (y := I 84 r ||| (nI 1 <<< (nI s &&& 31))) hr (fun t t1 t2 y => by
      rw [bt_or1 (by omega) (by omega), Bool.or_eq_true, decide_eq_true_eq] at y
      rcases y with y | y
      · exact a7 t t1 t2 y
      · rw [y]; exact h80)
    have h1 := h.know hr s1 s2 (c := m.1 5) (m5.trans hc)
    refine ⟨?_, fun _ => h1.kok i1 hr⟩
    rw [c_gif, if_pos rfl]
    exact h1.go i1 hr ((x_u_ne _ _ (by omega)).trans he) he2
theorem RelP.oSt (h : RelP C I) (hi : Inv B n I G) (hr : r < 5) {f e : Nat} (hf2 : f ≤ 24) (hp : prD I f) (he : I 83 r = nI e) (he2 : e ≤ 24) : RelP (c_go (c_inst C r (PS I f)) r) (f_oSta I r f e) ∧ kOK (c_inst C r (PS I f)) r := by
  obtain ⟨h1, i1⟩ := FI.inst hi hr hf2 hp
  have h2 := h.inst hi hr hf2 hp
  exact ⟨h2.go h1 hr (f_inst_e he) (by rw [f_ie]; split <;> omega), h2.kok h1 hr⟩
theorem RelP.vtr (h : RelP C I) (hr : r < 5) (hp : 0 < I 87 r) {s j : Nat} (s1 : 1 ≤ s) (s2 : s ≤ 24) (h91 : 0 ≤ I 91 (25 * r + s)) : RelP (c_cav C.1 (9 + 13 * r + 6) s (nI j), C.2) (x_u I 92 (25 * r + s) (I 92 (25 * r + s) ||| (nI 1 <<< (nI j &&& 31)))) := by
  obtain ⟨a1, a2, ⟨f, e, a3, a4, a5, a6, a7, a8⟩, b1, b2, b3⟩ := h.R hr
  obtain ⟨d1, d2, d3, d4⟩ : 0 < I 87 r ∧ C.1 (9 + 13 * r + 6) 0 = I 87 r ∧ C.1 (9 + 13 * r + 6) 1 = I 88 r ∧ _ := by
    rcases b3 with b3 | b3
    · rw [b3.1] at hp
      exact (i_irr hp).elim
    · exact b3
  have k5 := (d4 s s1 s2).2.2.2.2 h91
  have ek : C.1 (9 + 13 * r + 6 + 6) s = I 92 (25 * r + s) := k5
  rw [c_cav, if_pos (c_sl_t.mpr ⟨s1, s2⟩), ek]
  have u : ∀ a i, a ≠ 92 ∨ i ≠ 25 * r + s → x_u I 92 (25 * r + s) (I 92 (25 * r + s) ||| (nI 1 <<< (nI j &&& 31))) a i = I a i := fun a i z => x_u_ne _ _ (by omega)
  have v : ∀ a i, a ≠ 9 + 13 * r + 12 ∨ i ≠ s → x_u C.1 (9 + 13 * r + 6 + 6) s (I 92 (25 * r + s) ||| (nI 1 <<< (nI j &&& 31))) a i = C.1 a i := fun a i z => x_u_ne _ _ (by omega)
  have hP : ∀ f, PS (x_u I 92 (25 * r + s) (I 92 (25 * r + s) ||| (nI 1 <<< (nI j &&& 31)))) f = PS I f := PS_same (fun a i z => u a i (by omega))
  refine h.rep hr (fun a i z1 z2 => v a i (by omega)) (fun _ _ => ⟨rfl, rfl⟩) rfl (fun a i z1 z2 z3 => x_u_ne _ _ (fun q => z3 (Or.inr ⟨by omega, by omega, by omega⟩))) (fun r' _ _ => by rw [u 74 7 (by omega)]) ?_
  refine ⟨by rw [u 74 7 (by omega)]; exact (v _ _ (by omega)).trans a1, by rw [u _ _ (by omega)]; exact (v _ _ (by omega)).trans a2, ⟨f, e, (u _ _ (by omega)).trans a3, (u _ _ (by omega)).trans a4, a5, a6, a7.trans (hP _).symm, a8.trans (hP _).symm⟩, fun t t1 t2 => ?_, fun t t1 t2 => ?_, Or.inr ⟨by rw [u _ _ (by omega)]; exact d1, by rw [u _ _ (by omega)]; exact (v _ _ (by omega)).trans d2, by rw [u _ _ (by omega)]; exact (v _ _ (by omega)).trans d3, fun t t1 t2 => ?_⟩⟩
  · rw [u 84 _ (by omega), u 80 _ (by omega)]
    exact (v _ _ (by omega)).trans (b1 t t1 t2)
  · rw [u 85 _ (by omega), u 86 _ (by omega)]
    exact ⟨(v _ _ (by omega)).trans (b2 t t1 t2).1, fun z => (v _ _ (by omega)).trans ((b2 t t1 t2).2 z)⟩
  · rw [u 89 _ (by omega), u 90 _ (by omega), u 91 _ (by omega)]
    obtain ⟨k1, k2, k3, k4, k5⟩ := d4 t t1 t2
    refine ⟨(v _ _ (by omega)).trans k1, fun z => (v _ _ (by omega)).trans (k2 z), (v _ _ (by omega)).trans k3, k4, fun z => ?_⟩
    by_cases e : t = s
    · subst e
      rw [x_u_eq]
      exact x_u_eq _ _ _ _
    · rw [u _ _ (by omega)]
      exact (v _ _ (by omega)).trans (k5 z)
end SIMD
