/-! class and reference step alike: timer, send -/
section SIMG
variable {B n : Nat} {C C' : xCC} {I I' : xI} {G : xGh} {r : Nat}
theorem RelP.bg (h : RelP C I) (hi : Inv B n I G) (hr : r < 5) {b : Nat} (hb : b < 2 ^ 31) (hb0 : 0 < b) : RelP (c_cbg (x_u C.1 (9 + 13 * r) 4 (nI b)) (9 + 13 * r + 6) (9 + 13 * r + 1) (nI b) (nI 1 <<< (nI r &&& 31)), C.2) (f_bg I r b) := by
  obtain ⟨e7, e1, e8, e9, u⟩ := f_bg_at I r b
  generalize f_bg I r b = I' at e7 e1 e8 e9 u
  obtain ⟨a1, a2, ⟨f, e, a3, a4, a5, a6, a7, a8⟩, b1, b2, b3⟩ := h.R hr
  have J : ∀ a i, (a ≠ 9 + 13 * r ∨ i ≠ 4) → (a ≠ 9 + 13 * r + 6 ∨ (i ≠ 0 ∧ i ≠ 1)) → a ≠ 9 + 13 * r + 8 → a ≠ 9 + 13 * r + 9 → a ≠ 9 + 13 * r + 11 → c_cbg (x_u C.1 (9 + 13 * r) 4 (nI b)) (9 + 13 * r + 6) (9 + 13 * r + 1) (nI b) (nI 1 <<< (nI r &&& 31)) a i = C.1 a i := fun a i z1 z2 z3 z4 z5 => by
    rw [c_cbg, c_fg, f_fillF_o _ _ _ _ _ (by omega), c_mg_o _ (by omega), c_fg, f_fillF_o _ _ _ _ _ (by omega), x_u_ne _ _ (by omega), x_u_ne _ _ (by omega), x_u_ne _ _ (by omega)]
  have J4 : c_cbg (x_u C.1 (9 + 13 * r) 4 (nI b)) (9 + 13 * r + 6) (9 + 13 * r + 1) (nI b) (nI 1 <<< (nI r &&& 31)) (9 + 13 * r) 4 = nI b := by
    rw [c_cbg, c_fg, f_fillF_o _ _ _ _ _ (by omega), c_mg_o _ (by omega), c_fg, f_fillF_o _ _ _ _ _ (by omega), x_u_ne _ _ (by omega), x_u_ne _ _ (by omega), x_u_eq]
  have J60 : c_cbg (x_u C.1 (9 + 13 * r) 4 (nI b)) (9 + 13 * r + 6) (9 + 13 * r + 1) (nI b) (nI 1 <<< (nI r &&& 31)) (9 + 13 * r + 6) 0 = nI b := by
    rw [c_cbg, c_fg, f_fillF_o _ _ _ _ _ (by omega), c_mg_o _ (by omega), c_fg, f_fillF_o _ _ _ _ _ (by omega), x_u_ne _ _ (by omega), x_u_eq]
  have J61 : c_cbg (x_u C.1 (9 + 13 * r) 4 (nI b)) (9 + 13 * r + 6) (9 + 13 * r + 1) (nI b) (nI 1 <<< (nI r &&& 31)) (9 + 13 * r + 6) 1 = nI 1 <<< (nI r &&& 31) := by
    rw [c_cbg, c_fg, f_fillF_o _ _ _ _ _ (by omega), c_mg_o _ (by omega), c_fg, f_fillF_o _ _ _ _ _ (by omega), x_u_eq]
  have J11 : ∀ s, 1 ≤ s → s ≤ 24 → c_cbg (x_u C.1 (9 + 13 * r) 4 (nI b)) (9 + 13 * r + 6) (9 + 13 * r + 1) (nI b) (nI 1 <<< (nI r &&& 31)) (9 + 13 * r + 11) s = -1 := fun s s1 s2 => by
    rw [c_cbg, c_fg, f_fillF, if_pos ⟨rfl, by omega, by omega⟩]
  have pre : ∀ a i, (a ≠ 9 + 13 * r ∨ i ≠ 4) → (a ≠ 9 + 13 * r + 6 ∨ (i ≠ 0 ∧ i ≠ 1)) → a ≠ 9 + 13 * r + 8 → c_fg (x_u (x_u (x_u C.1 (9 + 13 * r) 4 (nI b)) (9 + 13 * r + 6) 0 (nI b)) (9 + 13 * r + 6) 1 (nI 1 <<< (nI r &&& 31))) (9 + 13 * r + 6 + 2) 24 0 a i = C.1 a i := fun a i z1 z2 z3 => by
    rw [c_fg, f_fillF_o _ _ _ _ _ (by omega), x_u_ne _ _ (by omega), x_u_ne _ _ (by omega), x_u_ne _ _ (by omega)]
  have pre8 : ∀ s, 1 ≤ s → s ≤ 24 → c_fg (x_u (x_u (x_u C.1 (9 + 13 * r) 4 (nI b)) (9 + 13 * r + 6) 0 (nI b)) (9 + 13 * r + 6) 1 (nI 1 <<< (nI r &&& 31))) (9 + 13 * r + 6 + 2) 24 0 (9 + 13 * r + 8) s = 0 := fun s s1 s2 => by
    rw [c_fg, f_fillF, if_pos ⟨rfl, by omega, by omega⟩]
  have J89 : ∀ s, 1 ≤ s → s ≤ 24 → c_cbg (x_u C.1 (9 + 13 * r) 4 (nI b)) (9 + 13 * r + 6) (9 + 13 * r + 1) (nI b) (nI 1 <<< (nI r &&& 31)) (9 + 13 * r + 8) s = I 85 (25 * r + s) ∧ (I 85 (25 * r + s) ≠ 0 → c_cbg (x_u C.1 (9 + 13 * r) 4 (nI b)) (9 + 13 * r + 6) (9 + 13 * r + 1) (nI b) (nI 1 <<< (nI r &&& 31)) (9 + 13 * r + 9) s = I 86 (25 * r + s)) := fun s s1 s2 => by
    obtain ⟨k1, k2⟩ := b2 s s1 s2
    have h0 := ((hi.R hr).2.1.2 s s1 s2).1
    have q2 := (pre (9 + 13 * r + 2) s (by omega) (by omega) (by omega)).trans k1
    have q3 := pre (9 + 13 * r + 3) s (by omega) (by omega) (by omega)
    have q8 := pre8 s s1 s2
    rw [c_cbg, c_fg, f_fillF_o _ _ _ _ _ (by omega), f_fillF_o _ _ _ _ _ (by omega)]
    generalize c_fg (x_u (x_u (x_u C.1 (9 + 13 * r) 4 (nI b)) (9 + 13 * r + 6) 0 (nI b)) (9 + 13 * r + 6) 1 (nI 1 <<< (nI r &&& 31))) (9 + 13 * r + 6 + 2) 24 0 = K at q2 q3 q8
    have q8' : K (9 + 13 * r + 6 + 1 + 1) s = 0 := q8
    have q2' : K (9 + 13 * r + 1 + 1) s = I 85 (25 * r + s) := q2
    by_cases z : 0 < I 85 (25 * r + s)
    · constructor
      · show c_mg K (9 + 13 * r + 6 + 1) (9 + 13 * r + 1) 24 (9 + 13 * r + 6 + 1 + 1) s = _
        rw [c_mg, q8', q2', if_pos ⟨rfl, s1, s2, z⟩]
      · intro y
        show c_mg K (9 + 13 * r + 6 + 1) (9 + 13 * r + 1) 24 (9 + 13 * r + 6 + 1 + 2) s = _
        rw [c_mg, q8', q2', if_neg (by omega), if_pos ⟨rfl, s1, s2, z⟩, c_vc, c_vh, c_sl_t.mpr ⟨s1, s2⟩, q2', Bool.true_and, if_pos (decide_eq_true y)]
        exact q3.trans (k2 y)
    · have z0 : I 85 (25 * r + s) = 0 := by
        rw [Int32.lt_iff_toInt_lt] at z
        rw [Int32.le_iff_toInt_le] at h0
        exact Int32.toInt_inj.mp (by omega)
      constructor
      · show c_mg K (9 + 13 * r + 6 + 1) (9 + 13 * r + 1) 24 (9 + 13 * r + 6 + 1 + 1) s = _
        rw [c_mg, q8', q2', if_neg (fun y => z y.2.2.2), if_neg (fun y => z y.2.2.2), z0]
      · intro y
        exact absurd z0 y
  generalize c_cbg (x_u C.1 (9 + 13 * r) 4 (nI b)) (9 + 13 * r + 6) (9 + 13 * r + 1) (nI b) (nI 1 <<< (nI r &&& 31)) = K at J J4 J60 J61 J11 J89
  have hP : ∀ f, PS I' f = PS I f := PS_same (fun a i z => u a i (by omega))
  refine h.rep hr (fun a i z1 z2 => J a i (by omega) (by omega) (by omega) (by omega) (by omega)) (fun r' z => ⟨rfl, rfl⟩) rfl (fun a i z1 z2 z3 => u a i ?_) (fun r' _ _ => by rw [u 74 7 (by omega)]) ?_
  · rw [rc] at z3
    omega
  · refine ⟨by rw [u 74 7 (by omega)]; exact (J _ _ (by omega) (by omega) (by omega) (by omega) (by omega)).trans a1, by rw [e1]; exact J4, ⟨f, e, (u _ _ (by omega)).trans a3, (u _ _ (by omega)).trans a4, a5, a6, a7.trans (hP _).symm, a8.trans (hP _).symm⟩, fun t t1 t2 => ?_, fun t t1 t2 => ?_, Or.inr ⟨?_, by rw [e7]; exact J60, by rw [e8]; exact J61, fun s s1 s2 => ?_⟩⟩
    · rw [u _ _ (by omega), u _ _ (by omega)]
      exact (J _ _ (by omega) (by omega) (by omega) (by omega) (by omega)).trans (b1 t t1 t2)
    · rw [u _ _ (by omega), u _ _ (by omega)]
      exact ⟨(J _ _ (by omega) (by omega) (by omega) (by omega) (by omega)).trans (b2 t t1 t2).1, fun z => (J _ _ (by omega) (by omega) (by omega) (by omega) (by omega)).trans ((b2 t t1 t2).2 z)⟩
    · rw [e7, Int32.lt_iff_toInt_lt, nI_toInt hb]
      show (0 : Int) < _
      omega
    · obtain ⟨k1, k2, k3, k4⟩ := e9 s (by omega)
      rw [k1, k2, k3]
      obtain ⟨l1, l2⟩ := J89 s s1 s2
      exact ⟨l1, l2, J11 s s1 s2, Or.inl rfl, fun z => absurd m1_lt (Int32.not_lt.mpr z)⟩
theorem RelP.rps (hr : r < 5) {e : Nat} (he2 : e ≤ 24) : ∀ (k m : Nat) (I : xI), RelP (c_rps C r e m) I → Inv B n I G → 0 < I 87 r → I 83 r = nI e → m + k ≤ 3 → e + m + k ≤ 24 → RelP (c_rps C r e (m + k)) (f_tmL r e k (e + 1 + m) I) := by
  intro k
  induction k with
  | zero => intro m I h _ _ _ _ _; exact h
  | succ k ih =>
    intro m I h hi hp he hm hm2
    have o : ∀ a i, a < 93 → a ≠ 74 → f_tms I r (e + 1 + m) e a i = I a i := fun a i z1 z2 => f_tms_o I r (e + 1 + m) e (by omega) (by omega)
    have s1 : 1 ≤ e + 1 + m := by omega
    have s2 : e + 1 + m ≤ 24 := by omega
    rw [f_tmL, show m + (k + 1) = m + 1 + k by omega, show e + 1 + m + 1 = e + 1 + (m + 1) by omega]
    have hwr := (FI.tml (G := G) (B := B) (n := n) hr (e := e) 1 (e + 1 + m) I hi)
    obtain ⟨e1, e2, e3⟩ := h.e hi hr he he2
    have step : RelP (c_rps C r e (m + 1)) (f_tms I r (e + 1 + m) e) ∧ Inv B n (f_tms I r (e + 1 + m) e) G := by
      rw [c_rps, f_tms, h.pro hr hp s1 s2, h.kn hi hr s1 s2]
      by_cases z : (decide (I 91 (25 * r + (e + 1 + m)) < 0) || f_know I r (e + 1 + m)) = true
      · rw [if_pos z, if_neg (fun y => by
          rw [Bool.and_eq_true, decide_eq_true_eq, Bool.not_eq_true'] at y
          rw [y.2, Bool.or_false, decide_eq_true_eq] at z
          exact Int32.not_lt.mpr y.1 z)]
        exact ⟨h, hi⟩
      · rw [if_neg z]
        rw [Bool.or_eq_true, decide_eq_true_eq] at z
        have h91 : 0 ≤ I 91 (25 * r + (e + 1 + m)) := Int32.not_lt.mp (fun y => z (Or.inl y))
        have hk : f_know I r (e + 1 + m) = false := Bool.not_eq_true _ ▸ (fun y => z (Or.inr y))
        rw [if_pos (by rw [decide_eq_true h91, hk]; rfl)]
        obtain ⟨a1, a2, _, b1, b2, b3⟩ := h.R hr
        obtain ⟨d1, d2, d3, d4⟩ : 0 < I 87 r ∧ (c_rps C r e m).1 (9 + 13 * r + 6) 0 = I 87 r ∧ (c_rps C r e m).1 (9 + 13 * r + 6) 1 = I 88 r ∧ _ := by
          rcases b3 with b3 | b3
          · rw [b3.1] at hp
            exact (i_irr hp).elim
          · exact b3
        obtain ⟨k1, k2, k3, k4, k5⟩ := d4 (e + 1 + m) s1 s2
        have o2 : ∀ a i, a < 104 → f_rp I e a i = I a i := fun a i ha => f_rp_o I (by omega) e i
        have h0 : RelP (c_rps C r e m) (f_rp I e) := h.c (fun a i z1 z2 => o2 a i (by omega))
        have i0 := hi.rp e
        have hmo : s_mo ((c_rps C r e m).2.1 r) (e + 1 + m) = f_mem I e (e + 1 + m) := by
          rw [e1, f_mem_m hi.rq hi.ch he2 e3 (by omega)]
          exact PS_mo (PS_ok hi.rq hi.ch e he2 e3).2 (by omega) (by omega)
        have hcv : c_cvf (c_rps C r e m).1 (9 + 13 * r + 6) (e + 1 + m) = I 92 (25 * r + (e + 1 + m)) := by
          rw [c_cvf, if_pos (c_sl_t.mpr ⟨s1, s2⟩)]
          exact k5 h91
        have hca : c_ca (c_rps C r e m).1 (9 + 13 * r + 10) (e + 1 + m) = I 91 (25 * r + (e + 1 + m)) := by
          rw [c_ca, if_pos (c_sl_t.mpr ⟨s1, s2⟩)]
          exact k3
        have hbits : ∀ j, j < 5 → (c_bt (f_mem I e (e + 1 + m) &&& c_oth r &&& (I 92 (25 * r + (e + 1 + m)) ^^^ -1)) j = true ↔ j ≠ r ∧ f_bit (f_mem I e (e + 1 + m) &&& (I 92 (25 * r + (e + 1 + m)) ^^^ -1)) (nI j) = true) := fun j hj => by
          rw [cb_bt (by omega), b_and, b_and, bt_oth hr hj, fb_bt (by omega), b_and]
          cases bt (f_mem I e (e + 1 + m)) j <;> cases bt (I 92 (25 * r + (e + 1 + m)) ^^^ -1) j <;> by_cases y : j = r <;> simp [y]
        rw [hmo, hcv, hca, d2]
        have hP : G.1 (I 87 r) (e + 1 + m) = some (I 91 (25 * r + (e + 1 + m))) := ((((hi.R hr).2.2.2.2.2 hp).2.2 (e + 1 + m) s1 s2).1 _).mpr ⟨h91, rfl⟩
        exact ⟨(h0.ma (x := f_mem I e (e + 1 + m) &&& c_oth r &&& (I 92 (25 * r + (e + 1 + m)) ^^^ -1)) (y := f_mem I e (e + 1 + m) &&& (I 92 (25 * r + (e + 1 + m)) ^^^ -1)) (kd := nI 3) (b := I 87 r) (b' := I 87 r) (s := nI (e + 1 + m)) (n := nI (e + 1 + m)) (c := I 91 (25 * r + (e + 1 + m))) i0.1.2.2.2.1 hbits (fun J j hj => mQ_pl (by decide) (by decide) (by decide) (fun z => by omega) (fun _ _ => rfl) (fun _ => rfl)) 5 (Nat.le_refl _)).1, i0.ma (k := 3) (by decide) (by decide) (by decide) hr ⟨fun z => by omega, fun z => by omega, fun _ => ⟨e + 1 + m, rfl, hP⟩, fun z => by omega, fun z => by omega, fun z => by omega, fun z => by omega⟩ 5 (by decide)⟩
    exact ih (m + 1) _ step.1 step.2 (by rw [o _ _ (by decide) (by decide)]; exact hp) (by rw [o _ _ (by decide) (by decide)]; exact he) (by omega) (by omega)
theorem c_rps_hi (C : xCC) (r e m : Nat) : ∀ j, 24 < e + 1 + m → c_rps C r e (m + j) = c_rps C r e m := by
  intro j
  induction j with
  | zero => intro _; rfl
  | succ j ih =>
    intro hm
    have e1 : c_ch (c_rps C r e (m + j)).1 (9 + 13 * r + 10) (e + 1 + (m + j)) = false := by
      rw [c_ch, c_sl_f.mpr (by omega), Bool.false_and]
    show (if (c_ch (c_rps C r e (m + j)).1 (9 + 13 * r + 10) (e + 1 + (m + j)) && !c_ch (c_rps C r e (m + j)).1 (9 + 13 * r + 4) (e + 1 + (m + j))) = true then _ else c_rps C r e (m + j)) = _
    rw [e1, Bool.false_and, if_neg (by decide)]
    exact ih hm
theorem RelP.tm (h : RelP C I) (hi : Inv B n I G) (hr : r < 5) {e p : Nat} (he : I 83 r = nI e) (he2 : e ≤ 24) (hp : I 81 r = nI p) (hp2 : p < 2 ^ 30) (hpB : p ≤ B) : RelP (c_str C r p) (f_tm I r e p) := by
  obtain ⟨e1, e2, e3⟩ := h.e hi hr he he2
  have o : ∀ a i, a < 104 → a ≠ 74 ∨ i ≠ 21 → f_tm0 I e a i = I a i := fun a i z1 z2 => f_tm0_o I e z2 z1
  have h0 : RelP C (f_tm0 I e) := h.c2 (fun a i z1 z2 z3 => o a i (by omega) (by omega))
  have i0 : Inv B n (f_tm0 I e) G := hi.sm (fun a i z => o a i (by omega) (by omega))
  have w21 : ∀ a i, a ≠ 74 → x_u I 74 21 (nI 0) a i = I a i := fun a i z => x_u_ne _ _ (fun q => z q.1)
  have i1 : Inv B n (x_u I 74 21 (nI 0)) G := hi.sm (fun a i z => x_u_ne _ _ (by omega))
  have i2 := i1.rp e
  have i3 := i2.rp e
  have p1 : prD (x_u I 74 21 (nI 0)) e := fun s s1 s2 => by rw [w21 _ _ (by decide)]; exact e3 s s1 s2
  have p2 : prD (f_rp (x_u I 74 21 (nI 0)) e) e := fun s s1 s2 => by rw [f_rp_o _ (by decide)]; exact p1 s s1 s2
  have p3 : prD (f_rp (f_rp (x_u I 74 21 (nI 0)) e) e) e := fun s s1 s2 => by rw [f_rp_o _ (by decide)]; exact p2 s s1 s2
  have mm1 : ∀ s, mM (x_u I 74 21 (nI 0)) s = mM I s := mM_same (fun a i z => w21 a i (by omega))
  have mm2 : ∀ s, mM (f_rp (x_u I 74 21 (nI 0)) e) s = mM I s := fun s => (mM_same (fun a i z => f_rp_o _ (by omega) e i) s).trans (mm1 s)
  have mm3 : ∀ s, mM (f_rp (f_rp (x_u I 74 21 (nI 0)) e) e) s = mM I s := fun s => (mM_same (fun a i z => f_rp_o _ (by omega) e i) s).trans (mm2 s)
  have hh : f_tmh I e = mM I (e + 1) ||| mM I (e + 2) ||| mM I (e + 3) := by
    rw [f_tmh, f_mem_m i1.rq i1.ch he2 p1 (by omega), f_mem_m i2.rq i2.ch he2 p2 (by omega), f_mem_m i3.rq i3.ch he2 p3 (by omega), mm1, mm2, mm3]
  obtain ⟨q4, q5, q6⟩ := PS_m I e
  have hl : c_hlp C r = f_tmh I e &&& c_oth r := by rw [c_hlp, e1, q4, q5, q6, hh]
  rw [c_str, f_tm, h.cmp hi hr, e2, hl, f_camp_c (I := I) (o _ _ (by decide) (Or.inl (by decide))) (o _ _ (by decide) (Or.inl (by decide)))]
  by_cases hc : f_camp I r = true
  · rw [if_pos hc, if_pos hc]
    have hcc := hc
    rw [f_camp, Bool.and_eq_true, decide_eq_true_eq, decide_eq_true_eq] at hcc
    obtain ⟨a1, a2, _, b1, b2, b3⟩ := h.R hr
    obtain ⟨d1, d2, d3, d4⟩ : 0 < I 87 r ∧ C.1 (9 + 13 * r + 6) 0 = I 87 r ∧ C.1 (9 + 13 * r + 6) 1 = I 88 r ∧ _ := by
      rcases b3 with b3 | b3
      · rw [b3.1] at hcc
        exact (i_irr hcc.1).elim
      · exact b3
    rw [d2, d3]
    have hbits : ∀ j, j < 5 → (c_bt (f_tmh I e &&& c_oth r &&& (I 88 r ^^^ -1)) j = true ↔ j ≠ r ∧ f_bit (f_tmh I e &&& (I 88 r ^^^ -1)) (nI j) = true) := fun j hj => by
      rw [cb_bt (by omega), b_and, b_and, bt_oth hr hj, fb_bt (by omega), b_and]
      cases bt (f_tmh I e) j <;> cases bt (I 88 r ^^^ -1) j <;> by_cases y : j = r <;> simp [y]
    have h1 := (h0.ma (x := f_tmh I e &&& c_oth r &&& (I 88 r ^^^ -1)) (y := f_tmh I e &&& (I 88 r ^^^ -1)) (kd := nI 1) (b := I 87 r) (b' := nI 0) (s := nI 0) (n := I 87 r) (c := nI 0) i0.1.2.2.2.1 hbits (fun J j hj => mQ_pl (by decide) (by decide) (by decide) (fun _ => rfl) (fun z _ => absurd rfl z) (fun z => by omega)) 5 (Nat.le_refl _)).1
    have i4 := i0.ma (k := 1) (r := r) (x := f_tmh I e &&& (I 88 r ^^^ -1)) (b := nI 0) (m := I 87 r) (c := nI 0) (by decide) (by decide) (by decide) hr ⟨fun _ => ⟨p, hpB, by omega, by rw [hcc.2]; exact hp⟩, fun z => by omega, fun z => by omega, fun z => by omega, fun z => by omega, fun z => by omega, fun z => by omega⟩ 5 (by decide)
    have u : ∀ a i, a < 93 → a ≠ 74 → f_ma (f_tm0 I e) (nI 1) r (f_tmh I e &&& (I 88 r ^^^ -1)) (nI 0) (I 87 r) (nI 0) 5 a i = f_tm0 I e a i := fun a i z1 z2 => f_ma_o _ _ _ _ _ _ (by omega) (by omega) 5
    have h2 := RelP.rps (C := c_sn C r (f_tmh I e &&& c_oth r &&& (I 88 r ^^^ -1)) (nI 1) (I 87 r) (nI 0) (nI 0) 5) (G := G) (B := B) (n := n) hr he2 (min 3 (24 - e)) 0 _ h1 i4 (by rw [u _ _ (by decide) (by decide), o _ _ (by decide) (Or.inl (by decide))]; exact hcc.1) (by rw [u _ _ (by decide) (by decide), o _ _ (by decide) (Or.inl (by decide))]; exact he) (by omega) (by omega)
    rw [Nat.zero_add, Nat.add_zero] at h2
    have e4 : ∀ D : xCC, c_rps D r e 3 = c_rps D r e (min 3 (24 - e)) := fun D => by
      by_cases z : 24 - e < 3
      · have := c_rps_hi D r e (24 - e) (3 - (24 - e)) (by omega)
        rw [show 24 - e + (3 - (24 - e)) = 3 by omega] at this
        rw [this, show min 3 (24 - e) = 24 - e by omega]
      · rw [show min 3 (24 - e) = 3 by omega]
    rw [e4]
    exact h2
  · rw [if_neg hc, if_neg hc]
    have hb1 : p < f_bal p r ∧ f_bal p r ≤ p + 9 ∧ f_bal p r % 5 = r := by
      rw [f_bal]
      omega
    have h1 := h0.bg i0 hr (b := f_bal p r) (by omega) (by omega)
    obtain ⟨i4, _⟩ := i0.bg (b := f_bal p r) (B' := B + 9) hr ((o _ _ (by decide) (Or.inl (by decide))).trans hp) hb1.1 (by omega) (by omega) (by omega) hb1.2.2
    exact (h1.ma (x := f_tmh I e &&& c_oth r) (y := f_tmh I e) (kd := nI 1) (b := nI (f_bal p r)) (b' := nI 0) (s := nI 0) (n := nI (f_bal p r)) (c := nI 0) i4.1.2.2.2.1 (oth_k hr) (fun J j hj => mQ_pl (by decide) (by decide) (by decide) (fun _ => rfl) (fun z _ => absurd rfl z) (fun z => by omega)) 5 (Nat.le_refl _)).1
end SIMG
