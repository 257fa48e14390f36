/-! class and reference step alike: propose, execute, goOn -/
section SIMB
variable {B n : Nat} {C C' : xCC} {I I' : xI} {G : xGh} {r : Nat}
theorem RelP.cmp (h : RelP C I) (hi : Inv B n I G) (hr : r < 5) : c_cmpg C.1 (9 + 13 * r) = f_camp I r := by
  obtain ⟨_, a2, _, _, _, b3⟩ := h.R hr
  obtain ⟨f0, e, p, a1, _, a3, a4, a5, a6, a7, a8⟩ := hi.e hr
  rw [c_cmpg, f_camp, a2]
  rcases b3 with b3 | ⟨d1, d2, _⟩
  · rw [b3.2, b3.1, a3, decide_eq_false (fun z : (-1 : Int32) = nI p => by
      have := nI_pos' a8
      rw [← z] at this
      exact absurd m1_lt (Int32.not_lt.mpr this)), decide_eq_false (fun z => i_irr z)]
    rfl
  · rw [d2, decide_eq_true d1]
    rfl
theorem RelP.kn (h : RelP C I) (hi : Inv B n I G) (hr : r < 5) {s : Nat} (s1 : 1 ≤ s) (s2 : s ≤ 24) : c_ch C.1 (9 + 13 * r + 4) s = f_know I r s := by
  obtain ⟨_, _, _, b1, _⟩ := h.R hr
  rw [c_ch, c_sl_t.mpr ⟨s1, s2⟩, Bool.true_and, show 9 + 13 * r + 4 + 1 = 9 + 13 * r + 5 from rfl, b1 s s1 s2, f_know_b _ _ s2]
  cases hb : bt (I 84 r) s with
  | true =>
    have := (hi.R hr).1.2.2 s s1 s2 hb
    rw [if_pos rfl, decide_eq_true_eq]
    intro z
    rw [z] at this
    exact absurd m1_lt (Int32.not_lt.mpr this)
  | false => simp
theorem RelP.pro (h : RelP C I) (hr : r < 5) (hp : 0 < I 87 r) {s : Nat} (s1 : 1 ≤ s) (s2 : s ≤ 24) : c_ch C.1 (9 + 13 * r + 10) s = decide (0 ≤ I 91 (25 * r + s)) := by
  obtain ⟨_, _, _, _, _, b3⟩ := h.R hr
  rcases b3 with b3 | ⟨d1, d2, d3, d4⟩
  · rw [b3.1] at hp
    exact (i_irr hp).elim
  · obtain ⟨k1, k2, k3, k4, k5⟩ := d4 s s1 s2
    rw [c_ch, c_sl_t.mpr ⟨s1, s2⟩, Bool.true_and, show 9 + 13 * r + 10 + 1 = 9 + 13 * r + 11 from rfl, k3]
    rcases k4 with k4 | k4
    · rw [k4]
      decide
    · rw [decide_eq_true k4, decide_eq_true_eq]
      intro z
      rw [z] at k4
      exact absurd m1_lt (Int32.not_lt.mpr k4)
theorem bt_oth {r j : Nat} (hr : r < 5) (hj : j < 5) : bt (c_oth r) j = decide (j ≠ r) := by
  have h31 : ∀ j, j < 5 → bt (nI 31) j = true := by decide +kernel
  rw [c_oth, b_and, b_xor, bt_sh (by omega) (by omega), b_m1 j (by omega), h31 j hj]
  by_cases e : j = r
  · rw [decide_eq_true e]
    simp [e]
  · rw [decide_eq_false e]
    simp [e]
theorem oth_k {m : Int32} {r : Nat} (hr : r < 5) : ∀ j, j < 5 → (c_bt (m &&& c_oth r) j = true ↔ j ≠ r ∧ f_bit m (nI j) = true) := fun j hj => by
  rw [cb_bt (by omega), b_and, bt_oth hr hj, fb_bt (by omega), Bool.and_eq_true, decide_eq_true_eq]
  exact And.comm
theorem bit_y {m : Int32} {r : Nat} (hr : r < 5) : m &&& (nI 1 <<< (nI r &&& 31)) = if bt m r = true then nI 0 ||| (nI 1 <<< (nI r &&& 31)) else nI 0 := by
  apply b_ext
  intro i hi
  rw [b_and, bt_sh (by omega) hi]
  by_cases e : i = r
  · subst e
    rw [decide_eq_true rfl, Bool.and_true]
    cases hb : bt m i with
    | true => rw [if_pos rfl, b_or, bt_sh (by omega) hi, decide_eq_true rfl, Bool.or_true]
    | false =>
      rw [if_neg (by decide)]
      exact (b_0 i).symm
  · rw [decide_eq_false e, Bool.and_false]
    split
    · rw [b_or, bt_sh (by omega) hi, decide_eq_false e, Bool.or_false]
      exact (b_0 i).symm
    · exact (b_0 i).symm
theorem RelP.prp2 (h : RelP C I) (hr : r < 5) {s e q : Nat} (hp : 0 < I 87 r) (s1 : 1 ≤ s) (s2 : s ≤ 24) (hq : q < 100) : RelP (c_prJ C.1 r s (C.1 (9 + 13 * r + 6) 0) (nI q) (f_mem I e s), C.2) (f_prop2 I r s e (nI q)) := by
  have hs : c_sl s = true := c_sl_t.mpr ⟨s1, s2⟩
  obtain ⟨a1, a2, ⟨f, e1, a3, a4, a5, a6, a7, a8⟩, b1, b2, b3⟩ := h.R hr
  obtain ⟨d1, d2, d3, d4⟩ : 0 < I 87 r ∧ C.1 (9 + 13 * r + 6) 0 = I 87 r ∧ C.1 (9 + 13 * r + 6) 1 = I 88 r ∧ _ := by
    rcases b3 with b3 | b3
    · rw [b3.1] at hp
      exact (i_irr hp).elim
    · exact b3
  have u : ∀ a i, a < 85 ∨ (86 < a ∧ a < 91) ∨ (92 < a ∧ a < 104) → f_prop2 I r s e (nI q) a i = I a i := fun a i z => f_prop2_o I r s e (nI q) z
  have p1o : ∀ a i, a < 104 → i ≠ 25 * r + s → f_prop1 I r s e (nI q) a i = I a i := fun a i z1 z2 => by
    rw [f_prop1, x_u_ne _ _ (by omega), x_u_ne _ _ (by omega), f_rp_o I (by omega)]
  have uo : ∀ a i, a < 104 → i ≠ 25 * r + s → f_prop2 I r s e (nI q) a i = I a i := fun a i z1 z2 => by
    rw [f_prop2]
    split
    · rw [f_cast, x_u_ne _ _ (by omega), x_u_ne _ _ (by omega)]
      exact p1o a i z1 z2
    · exact p1o a i z1 z2
  have e91 : f_prop2 I r s e (nI q) 91 (25 * r + s) = nI q := by
    have k : f_prop1 I r s e (nI q) 91 (25 * r + s) = nI q := by rw [f_prop1, x_u_ne _ _ (by omega), x_u_eq]
    rw [f_prop2]
    split
    · rw [f_cast, x_u_ne _ _ (by omega), x_u_ne _ _ (by omega)]
      exact k
    · exact k
  have e92 : f_prop2 I r s e (nI q) 92 (25 * r + s) = f_mem I e s &&& (nI 1 <<< (nI r &&& 31)) := by
    have k : f_prop1 I r s e (nI q) 92 (25 * r + s) = f_mem I e s &&& (nI 1 <<< (nI r &&& 31)) := by rw [f_prop1, x_u_eq]
    rw [f_prop2]
    split
    · rw [f_cast, x_u_ne _ _ (by omega), x_u_ne _ _ (by omega)]
      exact k
    · exact k
  have e85 : f_prop2 I r s e (nI q) 85 (25 * r + s) = (if bt (f_mem I e s) r = true then I 87 r else I 85 (25 * r + s)) ∧ f_prop2 I r s e (nI q) 86 (25 * r + s) = (if bt (f_mem I e s) r = true then nI q else I 86 (25 * r + s)) := by
    rw [f_prop2, fb_bt (by omega)]
    split
    · rw [f_cast, x_u_ne _ _ (by omega), x_u_eq, x_u_eq]
      exact ⟨rfl, rfl⟩
    · rw [f_prop1, x_u_ne _ _ (by omega), x_u_ne _ _ (by omega), x_u_ne _ _ (by omega), x_u_ne _ _ (by omega), f_rp_o I (by decide), f_rp_o I (by decide)]
      exact ⟨rfl, rfl⟩
  generalize f_prop2 I r s e (nI q) = I' at u uo e91 e92 e85
  have cpr : ∀ a i, c_cpr C.1 (9 + 13 * r + 6) s (nI q) a i = if a = 9 + 13 * r + 12 ∧ i = s then nI 0 else if a = 9 + 13 * r + 11 ∧ i = s then nI q else C.1 a i := fun a i => by
    rw [c_cpr, if_pos hs]
    rfl
  have J : ∀ a i, c_prJ C.1 r s (C.1 (9 + 13 * r + 6) 0) (nI q) (f_mem I e s) a i = if a = 9 + 13 * r + 12 ∧ i = s then f_mem I e s &&& (nI 1 <<< (nI r &&& 31)) else if a = 9 + 13 * r + 11 ∧ i = s then nI q else if (a = 9 + 13 * r + 2 ∧ i = s) ∧ bt (f_mem I e s) r = true then I 87 r else if (a = 9 + 13 * r + 3 ∧ i = s) ∧ bt (f_mem I e s) r = true then nI q else C.1 a i := fun a i => by
    rw [c_prJ, cb_bt (by omega), bit_y hr]
    cases hb : bt (f_mem I e s) r with
    | true =>
      rw [if_pos rfl, c_cav, if_pos hs, c_vp, if_pos hs]
      by_cases z1 : a = 9 + 13 * r + 12 ∧ i = s
      · obtain ⟨rfl, rfl⟩ := z1
        rw [if_pos ⟨rfl, rfl⟩, x_u_eq, x_u_ne _ _ (by omega), x_u_ne _ _ (by omega), cpr, if_pos ⟨rfl, rfl⟩, if_pos rfl]
      · rw [if_neg z1, x_u_ne _ _ (by omega)]
        by_cases z2 : a = 9 + 13 * r + 11 ∧ i = s
        · rw [if_pos z2, x_u_ne _ _ (by omega), x_u_ne _ _ (by omega), cpr, if_neg z1, if_pos z2]
        · rw [if_neg z2]
          by_cases z3 : a = 9 + 13 * r + 2 ∧ i = s
          · obtain ⟨rfl, rfl⟩ := z3
            rw [if_pos ⟨⟨rfl, rfl⟩, rfl⟩, x_u_ne _ _ (by omega), show 9 + 13 * r + 2 = 9 + 13 * r + 1 + 1 from rfl, x_u_eq, d2]
          · rw [if_neg (fun y => z3 y.1)]
            by_cases z4 : a = 9 + 13 * r + 3 ∧ i = s
            · obtain ⟨rfl, rfl⟩ := z4
              rw [if_pos ⟨⟨rfl, rfl⟩, rfl⟩, show 9 + 13 * r + 3 = 9 + 13 * r + 1 + 2 from rfl, x_u_eq]
            · rw [if_neg (fun y => z4 y.1), x_u_ne _ _ (by omega), x_u_ne _ _ (by omega), cpr, if_neg z1, if_neg z2]
    | false =>
      rw [if_neg (by decide), cpr, if_neg (show ¬ (false = true) by decide)]
      simp
  generalize c_prJ C.1 r s (C.1 (9 + 13 * r + 6) 0) (nI q) (f_mem I e s) = J' at J
  have v : ∀ a i, (a ≠ 9 + 13 * r + 12 ∧ a ≠ 9 + 13 * r + 11 ∧ a ≠ 9 + 13 * r + 2 ∧ a ≠ 9 + 13 * r + 3) ∨ i ≠ s → J' a i = C.1 a i := fun a i z => by
    rw [J, if_neg (by omega), if_neg (by omega), if_neg (by omega), if_neg (by omega)]
  have hP : ∀ f, PS I' f = PS I f := PS_same (fun a i z => u a i (by omega))
  refine h.rep hr (fun a i z1 z2 => v a i (by omega)) (fun _ _ => ⟨rfl, rfl⟩) rfl (fun a i z1 z2 z3 => ?_) (fun r' _ _ => by rw [u 74 7 (by omega)]) ?_
  · by_cases y : a < 85 ∨ (86 < a ∧ a < 91) ∨ (92 < a ∧ a < 104)
    · exact u a i y
    · exact uo a i (by omega) (fun w => z3 (Or.inr ⟨by omega, by omega, by omega⟩))
  refine ⟨by rw [u 74 7 (by omega)]; exact (v _ _ (by omega)).trans a1, by rw [u _ _ (by omega)]; exact (v _ _ (by omega)).trans a2, ⟨f, e1, (u _ _ (by omega)).trans a3, (u _ _ (by omega)).trans a4, a5, a6, a7.trans (hP _).symm, a8.trans (hP _).symm⟩, fun t t1 t2 => ?_, fun t t1 t2 => ?_, Or.inr ⟨by rw [u _ _ (by omega)]; exact d1, by rw [u _ _ (by omega)]; exact (v _ _ (by omega)).trans d2, by rw [u _ _ (by omega)]; exact (v _ _ (by omega)).trans d3, fun t t1 t2 => ?_⟩⟩
  · rw [u 84 _ (by omega), u 80 _ (by omega)]
    exact (v _ _ (by omega)).trans (b1 t t1 t2)
  · by_cases z : t = s
    · subst z
      show J' (9 + 13 * r + 2) t = _ ∧ (_ → J' (9 + 13 * r + 3) t = _)
      rw [e85.1, e85.2, J, J, if_neg (by omega), if_neg (by omega), if_neg (show ¬ (9 + 13 * r + 3 = 9 + 13 * r + 12 ∧ t = t) by omega), if_neg (show ¬ (9 + 13 * r + 3 = 9 + 13 * r + 11 ∧ t = t) by omega), if_neg (show ¬ ((9 + 13 * r + 3 = 9 + 13 * r + 2 ∧ t = t) ∧ _) by omega)]
      cases hb : bt (f_mem I e t) r with
      | true => simp
      | false =>
        simp only [Bool.false_eq_true, and_false, if_false]
        exact b2 t t1 t2
    · rw [uo _ _ (by decide) (by omega), uo _ _ (by decide) (by omega)]
      exact ⟨(v _ _ (by omega)).trans (b2 t t1 t2).1, fun y => (v _ _ (by omega)).trans ((b2 t t1 t2).2 y)⟩
  · obtain ⟨k1, k2, k3, k4, k5⟩ := d4 t t1 t2
    rw [u 89 _ (by omega), u 90 _ (by omega)]
    by_cases z : t = s
    · subst z
      rw [e91, e92]
      refine ⟨(v _ _ (by omega)).trans k1, fun y => (v _ _ (by omega)).trans (k2 y), ?_, Or.inr (nI_pos' (by omega)), fun _ => ?_⟩
      · show J' (9 + 13 * r + 11) t = _
        rw [J, if_neg (by omega), if_pos ⟨rfl, rfl⟩]
      · show J' (9 + 13 * r + 12) t = _
        rw [J, if_pos ⟨rfl, rfl⟩]
    · rw [uo _ _ (by decide) (by omega), uo _ _ (by decide) (by omega)]
      exact ⟨(v _ _ (by omega)).trans k1, fun y => (v _ _ (by omega)).trans (k2 y), (v _ _ (by omega)).trans k3, k4, fun y => (v _ _ (by omega)).trans (k5 y)⟩
theorem RelP.prp (h : RelP C I) (hi : Inv B n I G) (hr : r < 5) {s e q : Nat} (hp : 0 < I 87 r) (he : I 83 r = nI e) (he2 : e ≤ 24) (s1 : e < s) (s2 : s ≤ e + 3) (s3 : s ≤ 24) (hq : q < 100) : RelP (c_prp C r s (nI q)) (f_prop I r s e (nI q)) := by
  obtain ⟨a1, a2, ⟨f, e1, a3, a4, a5, a6, a7, a8⟩, b1, b2, b3⟩ := h.R hr
  have d2 : C.1 (9 + 13 * r + 6) 0 = I 87 r := by
    rcases b3 with b3 | b3
    · rw [b3.1] at hp
      exact (i_irr hp).elim
    · exact b3.2.1
  obtain ⟨_, e', _, _, c2, _, _, c5, c6, _, _⟩ := hi.e hr
  have ee : e = e1 := by
    rw [he] at a4
    exact (nI_eq (by omega) (by omega)).mp a4
  subst ee
  have ee' : e = e' := by
    rw [he] at c2
    exact (nI_eq (by omega) (by omega)).mp c2
  subst ee'
  have hm : f_mem I e s = mM I s := f_mem_m hi.rq hi.ch he2 c6 s2
  have hmo : s_mo (C.2.1 r) s = f_mem I e s := by
    rw [a7, hm]
    exact PS_mo (PS_ok hi.rq hi.ch e he2 c6).2 s1 s2
  have h2 := h.prp2 (e := e) hr hp (show 1 ≤ s by omega) s3 hq
  rw [c_prp, f_prop, hmo]
  have w2 : f_wok (f_prop2 I r s e (nI q)) := f_wok_eq (f_prop2_o I r s e (nI q) (by decide)) hi.1.2.2.2.1
  exact (h2.ma (x := f_mem I e s &&& c_oth r) (y := f_mem I e s) (kd := nI 3) (b := C.1 (9 + 13 * r + 6) 0) (b' := I 87 r) (s := nI s) (n := nI s) (c := nI q) w2 (oth_k hr) (fun J j hj => mQ_pl (by decide) (by decide) (by decide) (fun z => by omega) (fun _ _ => rfl) (fun _ => d2)) 5 (Nat.le_refl _)).1
theorem RelP.exS (h : RelP C I) (hi : Inv B n I G) (hr : r < 5) {e q : Nat} (he : C.2.1 r = PS I e) (h80 : I 80 (e + 1) = nI q) (hq : q ≤ n) : c_exS C r q = PS I (e + 1) := by
  have n40 := hi.rq.1
  have hn : c_n C = n := by rw [c_n, h.1.1, hi.1.1]; exact nI_clamp (by omega)
  rw [c_exS, he, PS, s_st, h80]
  by_cases h0 : q = 0
  · subst h0
    rw [if_pos rfl, if_pos nI_zero]
  · rw [if_neg h0, if_neg (show ¬ nI q = 0 from fun z => h0 ((nI_eq (b := 0) (by omega) (by omega)).mp z)), nI_clamp (by omega)]
    obtain ⟨k1, k2, k3, _⟩ := h.1.2.1 q (by omega) (by omega)
    refine s_aft_g (fun i hi => ?_)
    have h3 : i = 0 ∨ i = 1 ∨ i = 2 := by omega
    rcases h3 with rfl | rfl | rfl
    · exact k1
    · exact k2
    · exact k3
theorem RelP.hear (h : RelP C I) {q : Nat} (x : Int32) (hq : q ≤ c_n C) (hx : x = I 106 q) : RelP (c_hr C q x) (f_hear I q) := by
  have u : ∀ a i, (a ≠ 78 ∧ a ≠ 79) ∨ i ≠ q → f_hear I q a i = I a i := fun a i z => by rw [f_hear, x_u_ne _ _ (by omega), x_u_ne _ _ (by omega)]
  obtain ⟨⟨h1, h2, h2'⟩, h3, h4, h5⟩ := h
  have hP : ∀ f, PS (f_hear I q) f = PS I f := PS_same (fun a i z => u a i (by omega))
  refine ⟨⟨by rw [u _ _ (by omega)]; exact h1, fun p p1 p2 => ?_, fun p p1 p2 => ?_⟩, by rw [u _ _ (by omega)]; exact h3, fun r hr => (h4 r hr).c hr (fun _ _ _ _ => rfl) ⟨rfl, rfl⟩ hP (fun s => u _ _ (by omega)) (by rw [u _ _ (by omega)]) (fun a i z => u a i (by rw [rc] at z; omega)), fun i hi => ?_⟩
  · obtain ⟨k1, k2, k3, k4, k5⟩ := h2 p p1 p2
    rw [u 75 _ (by omega), u 76 _ (by omega), u 77 _ (by omega)]
    show x_p C.2.2.2.1 q (x_p (x_p (C.2.2.2.1 q) 3 x) 4 (C.2.2.2.1 q 4 + nI 1)) p 0 = _ ∧ x_p C.2.2.2.1 q (x_p (x_p (C.2.2.2.1 q) 3 x) 4 (C.2.2.2.1 q 4 + nI 1)) p 1 = _ ∧ x_p C.2.2.2.1 q (x_p (x_p (C.2.2.2.1 q) 3 x) 4 (C.2.2.2.1 q 4 + nI 1)) p 2 = _ ∧ x_p C.2.2.2.1 q (x_p (x_p (C.2.2.2.1 q) 3 x) 4 (C.2.2.2.1 q 4 + nI 1)) p 3 = _ ∧ x_p C.2.2.2.1 q (x_p (x_p (C.2.2.2.1 q) 3 x) 4 (C.2.2.2.1 q 4 + nI 1)) p 4 = _
    by_cases e : p = q
    · subst e
      have e8 : f_hear I p 78 p = I 78 p + nI 1 := by rw [f_hear, x_u_ne _ _ (by omega), x_u_eq]
      have e9 : f_hear I p 79 p = I 106 p := by rw [f_hear, x_u_eq]
      rw [e8, e9, x_p_eq]
      exact ⟨k1, k2, k3, hx, by show C.2.2.2.1 p 4 + nI 1 = _; rw [k5]⟩
    · rw [u 78 _ (by omega), u 79 _ (by omega), x_p_ne _ _ e]
      exact ⟨k1, k2, k3, k4, k5⟩
  · have p1' : c_n C < p := p1
    rw [u 78 _ (by omega), u 79 _ (by omega)]
    exact h2' p p1 p2
  · rw [f_w_eq (u 74 20 (by omega))] at hi
    exact (h5 i hi).e hP (mgE.of (fun a i z1 z2 => u a i (by omega)) i)
theorem RelP.exe (h : RelP C I) (hi : Inv B n I G) (hr : r < 5) {e q : Nat} (he : I 83 r = nI e) (he2 : e < 24) (h80 : I 80 (e + 1) = nI q) (hq : q ≤ n) (hpd : prD I (e + 1)) : RelP (c_exe C r q) (f_ex1 I r e) := by
  obtain ⟨a1, a2, ⟨f, e1, a3, a4, a5, a6, a7, a8⟩, b1, b2, b3⟩ := h.R hr
  have n40 := hi.rq.1
  have ee : e = e1 := by
    rw [he] at a4
    exact (nI_eq (by omega) (by omega)).mp a4
  subst ee
  have hS := h.exS hi hr a7 h80 hq
  have h1 := h.pres (f' := e + 1) hr (by omega)
  rw [← hS] at h1
  have o : ∀ a i, a < 104 → f_rp (x_u I 83 r (nI (e + 1))) (e + 1) a i = x_u I 83 r (nI (e + 1)) a i := fun a i z => f_rp_o _ (by omega) _ i
  have h2 : RelP (C.1, x_p C.2.1 r (c_exS C r q), C.2.2) (f_rp (x_u I 83 r (nI (e + 1))) (e + 1)) := h1.c (fun a i z1 z2 => o a i (by omega))
  have hcm : f_camp (f_rp (x_u I 83 r (nI (e + 1))) (e + 1)) r = c_cmpg C.1 (9 + 13 * r) := by
    rw [h.cmp hi hr]
    exact f_camp_c ((o _ _ (by decide)).trans (x_u_ne _ _ (by omega))) ((o _ _ (by decide)).trans (x_u_ne _ _ (by omega)))
  rw [c_exe, f_ex1, hcm, h80, nI_clamp (by omega)]
  have hpos : decide (0 < nI q) = decide (q ≠ 0) := by
    by_cases z : q = 0
    · subst z
      decide
    · rw [decide_eq_true z, decide_eq_true_eq, Int32.lt_iff_toInt_lt, nI_toInt (by omega)]
      show (0 : Int) < _
      omega
  rw [hpos]
  split
  · refine h2.hear _ (show q ≤ c_n C by rw [c_n, h.1.1, hi.1.1, nI_clamp (by omega)]; exact hq) ?_
    have hP : ∀ g, PS (x_u I 83 r (nI (e + 1))) g = PS I g := PS_same (fun a i z => x_u_ne _ _ (by omega))
    have rq' : rqV (x_u I 83 r (nI (e + 1))) n := hi.rq
    have ch' : chV (x_u I 83 r (nI (e + 1))) n := hi.ch
    have lk := Lk_all rq' ch' (e + 1) (by omega) hpd
    rw [(lk.2.1 q (by omega)).2, hP, hS]
  · exact h2
end SIMB
