/-! the class's data and the reference's ints say the same -/
def rE (C : xCC) (I : xI) (r : Nat) : Prop :=
  C.1 (9 + 13 * r) 3 = bI (bt (I 74 7) r) ∧ C.1 (9 + 13 * r) 4 = I 81 r ∧
  (∃ f e, I 82 r = nI f ∧ I 83 r = nI e ∧ f ≤ 24 ∧ e ≤ 24 ∧ C.2.1 r = PS I e ∧ C.2.2.1 r = PS I f) ∧
  (∀ s, 1 ≤ s → s ≤ 24 → C.1 (9 + 13 * r + 5) s = if bt (I 84 r) s = true then I 80 s else -1) ∧
  (∀ s, 1 ≤ s → s ≤ 24 → C.1 (9 + 13 * r + 2) s = I 85 (25 * r + s) ∧ (I 85 (25 * r + s) ≠ 0 → C.1 (9 + 13 * r + 3) s = I 86 (25 * r + s))) ∧
  ((I 87 r = 0 ∧ C.1 (9 + 13 * r + 6) 0 = -1) ∨ (0 < I 87 r ∧ C.1 (9 + 13 * r + 6) 0 = I 87 r ∧ C.1 (9 + 13 * r + 6) 1 = I 88 r ∧ ∀ s, 1 ≤ s → s ≤ 24 → C.1 (9 + 13 * r + 8) s = I 89 (25 * r + s) ∧ (I 89 (25 * r + s) ≠ 0 → C.1 (9 + 13 * r + 9) s = I 90 (25 * r + s)) ∧ C.1 (9 + 13 * r + 11) s = I 91 (25 * r + s) ∧ (I 91 (25 * r + s) = -1 ∨ 0 ≤ I 91 (25 * r + s)) ∧ (0 ≤ I 91 (25 * r + s) → C.1 (9 + 13 * r + 12) s = I 92 (25 * r + s))))
/-- a message, by its fields in the reference -/
def mQ (I : xI) (m : xG) (kd fr t b n c u : Int32) (vb vc : Nat → Int32) : Prop :=
  m.1 0 = kd ∧ m.1 1 = fr ∧ m.1 2 = t ∧ c_num m.1 = n ∧ m.1 5 = c ∧ (kd = nI 3 ∨ kd = nI 4 → m.1 3 = b) ∧
  (kd = nI 2 → (∃ f, u = nI f ∧ f ≤ 24 ∧ m.2.2 = some (PS I f)) ∧ ∃ V, m.2.1 = some V ∧ ∀ s, 1 ≤ s → s ≤ 24 → V 1 s = vb s ∧ (vb s ≠ 0 → V 2 s = vc s)) ∧
  (kd = nI 8 → ∃ f, n = nI f ∧ f ≤ 24 ∧ m.2.2 = some (PS I f))
def mE (I : xI) (m : xG) (i : Nat) : Prop := mQ I m (I 93 i) (I 94 i) (I 95 i) (I 96 i) (I 97 i) (I 98 i) (I 99 i) (fun s => I 100 (25 * i + s)) (fun s => I 101 (25 * i + s))
def qE (C : xCC) (I : xI) : Prop := C.1 1 1 = I 74 0 ∧ (∀ q, 1 ≤ q → q ≤ c_n C → C.2.2.2.1 q 0 = I 75 q ∧ C.2.2.2.1 q 1 = I 76 q ∧ C.2.2.2.1 q 2 = I 77 q ∧ C.2.2.2.1 q 3 = I 79 q ∧ C.2.2.2.1 q 4 = I 78 q) ∧ ∀ q, c_n C < q → q ≤ 40 → I 78 q = 0 ∧ I 79 q = 0
def RelP (C : xCC) (I : xI) : Prop := qE C I ∧ C.1 3 1 = I 74 20 ∧ (∀ r, r < 5 → rE C I r) ∧ ∀ i, i < f_w I → mE I (C.2.2.2.2 i) i
section RELP
variable {C C' : xCC} {I I' : xI} {r : Nat}
theorem RelP.w (h : RelP C I) : c_w C = f_w I := by rw [c_w, f_w, h.2.1]
theorem mQ.c {m : xG} {kd fr t b n c u : Int32} {vb vc vb' vc' : Nat → Int32} (h : mQ I m kd fr t b n c u vb vc) (hP : ∀ f, PS I' f = PS I f) (hv : ∀ s, s < 25 → vb' s = vb s ∧ vc' s = vc s) : mQ I' m kd fr t b n c u vb' vc' := by
  obtain ⟨h1, h2, h3, h4, h5, h6, h7, h8⟩ := h
  refine ⟨h1, h2, h3, h4, h5, h6, fun z => ?_, fun z => ?_⟩
  · obtain ⟨⟨f, f1, f2, f3⟩, V, v1, v2⟩ := h7 z
    refine ⟨⟨f, f1, f2, by rw [hP]; exact f3⟩, V, v1, fun s s1 s2 => ?_⟩
    rw [(hv s (by omega)).1, (hv s (by omega)).2]
    exact v2 s s1 s2
  · obtain ⟨f, f1, f2, f3⟩ := h8 z
    exact ⟨f, f1, f2, by rw [hP]; exact f3⟩
theorem mE.e {m : xG} {i j : Nat} (h : mE I m i) (hP : ∀ f, PS I' f = PS I f) (he : mgE I I' i j) : mE I' m j := by
  obtain ⟨e1, e2, e3, e4, e5, e6, e7, e8⟩ := he
  rw [mE, e1, e2, e3, e4, e5, e6, e7]
  exact mQ.c h hP (fun s hs => e8 s hs)
theorem rE.c (h : rE C I r) (hr : r < 5) (hC : ∀ a i, 9 + 13 * r ≤ a → a < 9 + 13 * r + 13 → C'.1 a i = C.1 a i) (hp : C'.2.1 r = C.2.1 r ∧ C'.2.2.1 r = C.2.2.1 r) (hP : ∀ f, PS I' f = PS I f) (h0 : ∀ s, I' 80 s = I 80 s) (h7 : bt (I' 74 7) r = bt (I 74 7) r) (hI : ∀ a i, rc r a i → I' a i = I a i) : rE C' I' r := by
  obtain ⟨a1, a2, ⟨f, e, a3, a4, a5, a6, a7, a8⟩, b1, b2, b3⟩ := h
  have c1 : ∀ a, a = 81 ∨ a = 82 ∨ a = 83 ∨ a = 84 ∨ a = 87 ∨ a = 88 → I' a r = I a r := fun a ha => hI a r (Or.inl ⟨ha, rfl⟩)
  have c2 : ∀ a s, a = 85 ∨ a = 86 ∨ a = 89 ∨ a = 90 ∨ a = 91 ∨ a = 92 → s ≤ 24 → I' a (25 * r + s) = I a (25 * r + s) := fun a s ha hs => hI a _ (Or.inr ⟨ha, by omega, by omega⟩)
  refine ⟨?_, ?_, ⟨f, e, ?_, ?_, a5, a6, ?_, ?_⟩, fun s s1 s2 => ?_, fun s s1 s2 => ?_, ?_⟩
  · rw [hC _ _ (by omega) (by omega), h7]; exact a1
  · rw [hC _ _ (by omega) (by omega), c1 81 (by omega)]; exact a2
  · rw [c1 82 (by omega)]; exact a3
  · rw [c1 83 (by omega)]; exact a4
  · rw [hp.1, hP]; exact a7
  · rw [hp.2, hP]; exact a8
  · rw [hC _ _ (by omega) (by omega), c1 84 (by omega), h0]; exact b1 s s1 s2
  · rw [hC _ _ (by omega) (by omega), hC _ _ (by omega) (by omega), c2 85 s (by omega) s2, c2 86 s (by omega) s2]; exact b2 s s1 s2
  · rw [hC _ _ (by omega) (by omega), hC _ _ (by omega) (by omega), c1 87 (by omega), c1 88 (by omega)]
    rcases b3 with b3 | ⟨d1, d2, d3, d4⟩
    · exact Or.inl b3
    · refine Or.inr ⟨d1, d2, d3, fun s s1 s2 => ?_⟩
      rw [hC _ _ (by omega) (by omega), hC _ _ (by omega) (by omega), hC _ _ (by omega) (by omega), hC _ _ (by omega) (by omega), c2 89 s (by omega) s2, c2 90 s (by omega) s2, c2 91 s (by omega) s2, c2 92 s (by omega) s2]
      exact d4 s s1 s2
/-- the cells that this reads -/
theorem RelP.c (h : RelP C I) (hI : ∀ a i, 74 ≤ a → a ≤ 103 → I' a i = I a i) : RelP C I' := by
  obtain ⟨⟨h1, h2, h2'⟩, h3, h4, h5⟩ := h
  have hP : ∀ f, PS I' f = PS I f := PS_same (fun a i z => hI a i (by omega) (by omega))
  refine ⟨⟨by rw [hI _ _ (by decide) (by decide)]; exact h1, fun q q1 q2 => ?_, fun q q1 q2 => ?_⟩, by rw [hI _ _ (by decide) (by decide)]; exact h3, fun r hr => (h4 r hr).c hr (fun _ _ _ _ => rfl) ⟨rfl, rfl⟩ hP (fun s => hI _ _ (by decide) (by decide)) (by rw [hI _ _ (by decide) (by decide)]) (fun a i z => hI a i (by rw [rc] at z; omega) (by rw [rc] at z; omega)), fun i hi => ?_⟩
  · rw [hI 75 _ (by decide) (by decide), hI 76 _ (by decide) (by decide), hI 77 _ (by decide) (by decide), hI 78 _ (by decide) (by decide), hI 79 _ (by decide) (by decide)]
    exact h2 q q1 q2
  · rw [hI 78 _ (by decide) (by decide), hI 79 _ (by decide) (by decide)]
    exact h2' q q1 q2
  · rw [f_w_eq (hI 74 20 (by decide) (by decide))] at hi
    exact (h5 i hi).e hP (mgE.of (fun a i z1 z2 => hI a i (by omega) (by omega)) i)
/-- one replica's cells alone -/
theorem RelP.rep (h : RelP C I) (hr : r < 5) (hC : ∀ a i, a < 9 + 13 * r ∨ 9 + 13 * r + 13 ≤ a → a < 74 → C'.1 a i = C.1 a i) (hp : ∀ r', r' ≠ r → C'.2.1 r' = C.2.1 r' ∧ C'.2.2.1 r' = C.2.2.1 r') (hq : C'.2.2.2 = C.2.2.2) (hI : ∀ a i, (74 ≤ a ∧ a ≤ 101) → (a = 74 → i = 0 ∨ i = 20) → ¬ rc r a i → I' a i = I a i) (h7 : ∀ r', r' < 5 → r' ≠ r → bt (I' 74 7) r' = bt (I 74 7) r') (ho : rE C' I' r) : RelP C' I' := by
  obtain ⟨⟨h1, h2, h2'⟩, h3, h4, h5⟩ := h
  have nr : ∀ a i, a < 81 ∨ 92 < a → ¬ rc r a i := fun a i z q => by rw [rc] at q; omega
  have u : ∀ a i, 74 < a ∧ a < 81 ∨ 92 < a ∧ a ≤ 101 → I' a i = I a i := fun a i z => hI a i (by omega) (by omega) (nr a i (by omega))
  have hP : ∀ f, PS I' f = PS I f := PS_same (fun a i z => u a i (by omega))
  have e0 : I' 74 0 = I 74 0 := hI _ _ (by decide) (by decide) (nr _ _ (by decide))
  have e20 : I' 74 20 = I 74 20 := hI _ _ (by decide) (by decide) (nr _ _ (by decide))
  have ecn : c_n C' = c_n C := by rw [c_n, c_n, hC 1 1 (by omega) (by omega)]
  refine ⟨⟨by rw [e0, hC 1 1 (by omega) (by omega)]; exact h1, fun q q1 q2 => ?_, fun q q1 q2 => ?_⟩, by rw [e20, hC 3 1 (by omega) (by omega)]; exact h3, fun r' hr' => ?_, fun i hi => ?_⟩
  · rw [hq, u 75 _ (by decide), u 76 _ (by decide), u 77 _ (by decide), u 78 _ (by decide), u 79 _ (by decide)]
    exact h2 q q1 (by omega)
  · rw [u 78 _ (by decide), u 79 _ (by decide)]
    exact h2' q (by omega) q2
  · by_cases e : r' = r
    · subst e
      exact ho
    · exact (h4 r' hr').c hr' (fun a i z1 z2 => hC a i (by omega) (by omega)) (hp r' e) hP (fun s => u _ _ (by decide)) (h7 r' hr' e) (fun a i z => hI a i (by rw [rc] at z; omega) (by rw [rc] at z; omega) (by rw [rc] at z ⊢; omega))
  · rw [f_w_eq e20] at hi
    rw [hq]
    exact (h5 i hi).e hP (mgE.of (fun a i z1 z2 => u a i (by omega)) i)
theorem RelP.ml (h : RelP C I) (hw : f_wok I) {m : xG} {kd t b n c : Int32} (hm : mQ I m kd (nI r) t b n c (if kd = nI 2 then I 82 r else n) (f_mailV I 85 kd r) (f_mailV I 86 kd r)) : RelP (c_put C m) (f_ml I kd r t b n c) := by
  have hw' := h.w
  by_cases h32 : f_w I = 32
  · rw [c_put, if_neg (by omega), f_ml, f_mail, if_pos h32]
    exact h
  · have hlt : c_w C < 32 := by have := hw.2; omega
    obtain ⟨⟨h1, h2, h2'⟩, h3, h4, h5⟩ := h
    have ho : ∀ a i, a < 93 ∨ 101 < a → a ≠ 74 ∨ (i ≠ 20 ∧ i ≠ 21) → f_ml I kd r t b n c a i = I a i := fun a i z1 z2 => f_ml_o _ _ _ _ _ _ z1 z2
    have hP : ∀ f, PS (f_ml I kd r t b n c) f = PS I f := PS_same (fun a i z => ho a i (by omega) (by omega))
    obtain ⟨w1, w2⟩ := f_ml_w kd r t b n c hw
    rw [if_neg h32] at w2
    rw [c_put, if_pos hlt]
    have hC : ∀ a i, a ≠ 3 → x_u C.1 3 1 (nI (c_w C + 1)) a i = C.1 a i := fun a i z => x_u_ne _ _ (fun q => z q.1)
    refine ⟨⟨by rw [ho _ _ (by decide) (by decide)]; exact (hC 1 1 (by decide)).trans h1, fun q q1 q2 => ?_, fun q q1 q2 => ?_⟩, ?_, fun r' hr' => (h4 r' hr').c hr' (fun a i z1 z2 => hC a i (by omega)) ⟨rfl, rfl⟩ hP (fun s => ho _ _ (by omega) (by omega)) (by rw [ho _ _ (by decide) (by decide)]) (fun a i z => ho a i (by rw [rc] at z; omega) (by rw [rc] at z; omega)), fun i hi => ?_⟩
    · rw [ho 75 _ (by omega) (by omega), ho 76 _ (by omega) (by omega), ho 77 _ (by omega) (by omega), ho 78 _ (by omega) (by omega), ho 79 _ (by omega) (by omega)]
      have ecn : c_n (x_u C.1 3 1 (nI (c_w C + 1)), C.2.1, C.2.2.1, C.2.2.2.1, x_p C.2.2.2.2 (c_w C) m) = c_n C := by
        rw [c_n, c_n]
        exact congrArg Int32.toNatClampNeg (hC 1 1 (by decide))
      exact h2 q q1 (by omega)
    · rw [ho 78 _ (by omega) (by omega), ho 79 _ (by omega) (by omega)]
      have ecn : c_n (x_u C.1 3 1 (nI (c_w C + 1)), C.2.1, C.2.2.1, C.2.2.2.1, x_p C.2.2.2.2 (c_w C) m) = c_n C := by
        rw [c_n, c_n]
        exact congrArg Int32.toNatClampNeg (hC 1 1 (by decide))
      exact h2' q (by omega) q2
    · rw [w1.1, w2]
      show x_u C.1 3 1 (nI (c_w C + 1)) 3 1 = _
      rw [x_u_eq, hw']
    · rw [w2] at hi
      show mE _ (x_p C.2.2.2.2 (c_w C) m i) i
      by_cases e : i = f_w I
      · subst e
        rw [hw', x_p_eq]
        obtain ⟨e1, e2, e3, e4, e5, e6, e7, e8⟩ := f_ml_new kd r t b n c h32
        rw [mE, e1, e2, e3, e4, e5, e6, e7]
        exact hm.c hP (fun s hs => e8 s hs)
      · rw [x_p_ne _ _ (by omega)]
        exact (h5 i (by omega)).e hP (f_ml_old _ _ _ _ _ _ (by omega))
theorem RelP.ma (h : RelP C I) (hw : f_wok I) {kd x y b s n c b' : Int32} (hk : ∀ j, j < 5 → (c_bt x j = true ↔ j ≠ r ∧ f_bit y (nI j) = true)) (hm : ∀ J j, j < 5 → mQ J (g_pl kd (nI r) (nI j) b s c) kd (nI r) (nI j) b' n c (if kd = nI 2 then J 82 r else n) (f_mailV J 85 kd r) (f_mailV J 86 kd r)) : ∀ j, j ≤ 5 → RelP (c_sn C r x kd b s c j) (f_ma I kd r y b' n c j) ∧ f_wok (f_ma I kd r y b' n c j) := by
  intro j
  induction j with
  | zero => intro _; exact ⟨h, hw⟩
  | succ j ih =>
    intro hj
    obtain ⟨i1, i2⟩ := ih (by omega)
    rw [c_sn, f_ma]
    by_cases z : j ≠ r ∧ f_bit y (nI j) = true
    · rw [if_pos z, if_pos ((hk j (by omega)).mpr z)]
      exact ⟨i1.ml i2 (hm _ j (by omega)), (f_ml_w _ _ _ _ _ _ i2).1⟩
    · rw [if_neg z, if_neg (fun q => z ((hk j (by omega)).mp q))]
      exact ⟨i1, i2⟩
theorem RelP.rm (h : RelP C I) {i : Nat} (hw : f_wok I) (hi : i < f_w I) : RelP (c_tk C i) (f_rm I i) := by
  have hw' := h.w
  obtain ⟨⟨h1, h2, h2'⟩, h3, h4, h5⟩ := h
  have ho : ∀ a j, a < 93 ∨ 101 < a → a ≠ 74 ∨ j ≠ 20 → f_rm I i a j = I a j := fun a j z1 z2 => f_rm_o I i z1 z2
  have hP : ∀ f, PS (f_rm I i) f = PS I f := PS_same (fun a i z => ho a i (by omega) (by omega))
  obtain ⟨w1, w2⟩ := f_rm_w hw hi
  obtain ⟨m1, m2⟩ := f_rm_m I hi
  have hC : ∀ a j, a ≠ 3 → (c_tk C i).1 a j = C.1 a j := fun a j z => x_u_ne _ _ (fun q => z q.1)
  refine ⟨⟨by rw [ho _ _ (by decide) (by decide)]; exact (hC 1 1 (by decide)).trans h1, fun q q1 q2 => ?_, fun q q1 q2 => ?_⟩, ?_, fun r' hr' => (h4 r' hr').c hr' (fun a i z1 z2 => hC a i (by omega)) ⟨rfl, rfl⟩ hP (fun s => ho _ _ (by omega) (by omega)) (by rw [ho _ _ (by decide) (by decide)]) (fun a i z => ho a i (by rw [rc] at z; omega) (by rw [rc] at z; omega)), fun j hj => ?_⟩
  · rw [ho 75 _ (by omega) (by omega), ho 76 _ (by omega) (by omega), ho 77 _ (by omega) (by omega), ho 78 _ (by omega) (by omega), ho 79 _ (by omega) (by omega)]
    have ecn : c_n (c_tk C i) = c_n C := by
      rw [c_n, c_n]
      exact congrArg Int32.toNatClampNeg (hC 1 1 (by decide))
    exact h2 q q1 (by omega)
  · rw [ho 78 _ (by omega) (by omega), ho 79 _ (by omega) (by omega)]
    have ecn : c_n (c_tk C i) = c_n C := by
      rw [c_n, c_n]
      exact congrArg Int32.toNatClampNeg (hC 1 1 (by decide))
    exact h2' q (by omega) q2
  · rw [w1.1, w2]
    show x_u C.1 3 1 (nI (c_w C - 1)) 3 1 = _
    rw [x_u_eq, hw']
  · rw [w2] at hj
    show mE _ (if j < i then C.2.2.2.2 j else C.2.2.2.2 (j + 1)) j
    by_cases e : j < i
    · rw [if_pos e]
      exact (h5 j (by omega)).e hP (m1 j e)
    · rw [if_neg e]
      exact (h5 (j + 1) (by omega)).e hP (m2 j (by omega) hj)
theorem RelP.copy (h : RelP C I) {i : Nat} (hi : i < f_w I) (h32 : f_w I < 32) : RelP (c_put C (C.2.2.2.2 i)) (f_copy I i) := by
  have hw' := h.w
  obtain ⟨⟨h1, h2, h2'⟩, h3, h4, h5⟩ := h
  have ho : ∀ a j, a < 93 ∨ 101 < a → a ≠ 74 ∨ j ≠ 20 → f_copy I i a j = I a j := fun a j h1 h2 => by
    rw [f_copy, x_u_ne _ _ (by omega), f_mv_o _ _ _ h1]
  have hP : ∀ f, PS (f_copy I i) f = PS I f := PS_same (fun a i z => ho a i (by omega) (by omega))
  obtain ⟨w1, w2⟩ := f_wok_of (I := f_copy I i) (x_u_eq _ _ _ _) (by omega)
  obtain ⟨m1, m2⟩ := f_copy_m I (i := i)
  rw [c_put, if_pos (by omega)]
  have hC : ∀ a j, a ≠ 3 → x_u C.1 3 1 (nI (c_w C + 1)) a j = C.1 a j := fun a j z => x_u_ne _ _ (fun q => z q.1)
  refine ⟨⟨by rw [ho _ _ (by decide) (by decide)]; exact (hC 1 1 (by decide)).trans h1, fun q q1 q2 => ?_, fun q q1 q2 => ?_⟩, ?_, fun r' hr' => (h4 r' hr').c hr' (fun a i z1 z2 => hC a i (by omega)) ⟨rfl, rfl⟩ hP (fun s => ho _ _ (by omega) (by omega)) (by rw [ho _ _ (by decide) (by decide)]) (fun a i z => ho a i (by rw [rc] at z; omega) (by rw [rc] at z; omega)), fun j hj => ?_⟩
  · rw [ho 75 _ (by omega) (by omega), ho 76 _ (by omega) (by omega), ho 77 _ (by omega) (by omega), ho 78 _ (by omega) (by omega), ho 79 _ (by omega) (by omega)]
    have ecn : c_n (x_u C.1 3 1 (nI (c_w C + 1)), C.2.1, C.2.2.1, C.2.2.2.1, x_p C.2.2.2.2 (c_w C) (C.2.2.2.2 i)) = c_n C := by
      rw [c_n, c_n]
      exact congrArg Int32.toNatClampNeg (hC 1 1 (by decide))
    exact h2 q q1 (by omega)
  · rw [ho 78 _ (by omega) (by omega), ho 79 _ (by omega) (by omega)]
    have ecn : c_n (x_u C.1 3 1 (nI (c_w C + 1)), C.2.1, C.2.2.1, C.2.2.2.1, x_p C.2.2.2.2 (c_w C) (C.2.2.2.2 i)) = c_n C := by
      rw [c_n, c_n]
      exact congrArg Int32.toNatClampNeg (hC 1 1 (by decide))
    exact h2' q (by omega) q2
  · rw [w1.1, w2]
    show x_u C.1 3 1 (nI (c_w C + 1)) 3 1 = _
    rw [x_u_eq, hw']
  · rw [w2] at hj
    show mE _ (x_p C.2.2.2.2 (c_w C) (C.2.2.2.2 i) j) j
    by_cases e : j = f_w I
    · subst e
      rw [hw', x_p_eq]
      exact (h5 i hi).e hP m2
    · rw [x_p_ne _ _ (by omega)]
      exact (h5 j (by omega)).e hP (m1 j (by omega))
end RELP
