/-! the invariant through the reference's propose and goOn -/
def Ie (r : Nat) (I I' : xI) : Prop := ∀ r', r' < 5 → r' ≠ r → iE I r' → iE I' r'
theorem Ie.trans {r : Nat} {I I' I'' : xI} (h : Ie r I I') (h' : Ie r I' I'') : Ie r I I'' := fun r' a b c => h' r' a b (h r' a b c)
theorem Ie.refl (r : Nat) (I : xI) : Ie r I I := fun _ _ _ c => c
theorem PS_same {I I' : xI} (h : ∀ a i, a = 80 ∨ (75 ≤ a ∧ a ≤ 77) → I' a i = I a i) : ∀ f, PS I' f = PS I f := by
  intro f
  induction f with
  | zero => rfl
  | succ f ih => rw [PS, PS, ih, h 80 _ (by decide), s_st, s_st, rqI, rqI, h 75 _ (by decide), h 76 _ (by decide), h 77 _ (by decide)]
theorem mM_same {I I' : xI} (h : ∀ a i, a = 80 ∨ (75 ≤ a ∧ a ≤ 77) → I' a i = I a i) (s : Nat) : mM I' s = mM I s := mM_g (PS_same h _)
section GOIN
variable {B n : Nat} {I I' : xI} {G G' : xGh} {r : Nat}
theorem Ie.mo (h : Inv B n I G) (hm : Mo n I G I' G' r) : Ie r I I' := fun _ hr hn he => hm.xe h.ch h.rq hr hn (h.R hr).1 he
theorem Ie.m5 (h : Inv B n I G) (hm : Mo n I G I' G' 5) : Ie r I I' := fun _ hr _ he => hm.xe h.ch h.rq hr (by omega) (h.R hr).1 he
theorem Ie.sm (h : Inv B n I G) (hc : ∀ a i, (75 ≤ a ∧ a ≤ 77) ∨ (80 ≤ a ∧ a ≤ 92) → I' a i = I a i) : Ie r I I' :=
  Ie.m5 h (Mo.q (n := n) (G := G) (fun a i h1 h2 => hc a i (by omega)) (fun q _ _ => ⟨hc _ _ (by omega), hc _ _ (by omega), hc _ _ (by omega)⟩))
theorem iE.c (h : iE I r) (hm : ∀ s, mM I' s = mM I s) (h1 : I' 81 r = I 81 r) (h3 : I' 83 r = I 83 r) (h4 : I' 84 r = I 84 r) (h7 : I' 87 r = I 87 r) (h8 : I' 88 r = I 88 r) (h9 : ∀ s, 1 ≤ s → s ≤ 24 → I' 89 (25 * r + s) = I 89 (25 * r + s) ∧ (I' 91 (25 * r + s) < 0 → I 91 (25 * r + s) < 0)) : iE I' r := by
  intro hf s e a1 a2 a3 a4 a5 a6 a7
  rw [f_camp, h7, h1] at hf
  rw [h3] at a1
  rw [h4] at a5
  rw [h8, hm] at a7
  rw [(h9 s (by omega) a4).1]
  exact h hf s e a1 a2 a3 a4 a5 ((h9 s (by omega) a4).2 a6) a7
theorem f_camp_c (h1 : I' 81 r = I 81 r) (h7 : I' 87 r = I 87 r) : f_camp I' r = f_camp I r := by rw [f_camp, f_camp, h1, h7]
theorem f_know_b (I : xI) (r : Nat) {s : Nat} (hs : s ≤ 24) : f_know I r s = bt (I 84 r) s := by rw [f_know, fb_bt (by omega)]
theorem pr_sw (X : xI) (r s : Nat) (b c y : Int32) : f_cast (x_u (x_u X 91 (25 * r + s) c) 92 (25 * r + s) y) r s b c = x_u (f_cast (x_u (x_u X 91 (25 * r + s) c) 92 (25 * r + s) (nI 0)) r s b c) 92 (25 * r + s) y := by
  funext a i
  by_cases h : a = 92 ∧ i = 25 * r + s
  · obtain ⟨rfl, rfl⟩ := h
    rw [x_u_eq, f_cast, x_u_ne _ _ (by omega), x_u_ne _ _ (by omega), x_u_eq]
  · rw [x_u_ne _ _ h]
    simp only [f_cast, x_u, h, if_false]
theorem pr_ov (X : xI) (i : Nat) (y z : Int32) : x_u (x_u X 92 i z) 92 i y = x_u X 92 i y := by
  funext a j
  by_cases h : a = 92 ∧ j = i
  · obtain ⟨rfl, rfl⟩ := h
    rw [x_u_eq, x_u_eq]
  · rw [x_u_ne _ _ h, x_u_ne _ _ h, x_u_ne _ _ h]
theorem f_prop_91 (I : xI) (r s e : Nat) (c : Int32) (i : Nat) : f_prop I r s e c 91 i = if i = 25 * r + s then c else I 91 i := by
  rw [f_prop, f_ma_o _ _ _ _ _ _ (by decide) (Or.inl (by decide))]
  have e1 : f_prop1 I r s e c 91 i = if i = 25 * r + s then c else I 91 i := by
    rw [f_prop1, x_u_ne _ _ (by omega)]
    by_cases h : i = 25 * r + s
    · rw [h, x_u_eq, if_pos rfl]
    · rw [x_u_ne _ _ (by omega), if_neg h, f_rp_o I (by decide)]
  rw [f_prop2]
  split
  · rw [f_cast, x_u_ne _ _ (by omega), x_u_ne _ _ (by omega)]
    exact e1
  · exact e1
theorem Inv.rp (h : Inv B n I G) (e : Nat) : Inv B n (f_rp I e) G := h.sm (fun a i q => f_rp_o I (by omega) e i)
theorem Inv.prp (h : Inv B n I G) (hr : r < 5) {s e q : Nat} (hc : f_camp I r = true) (he : I 83 r = nI e) (s1 : e < s) (s2 : s ≤ e + 3) (s3 : s ≤ 24) (h91 : I 91 (25 * r + s) < 0) (hq : q ≤ n) (hm : f_maj (I 88 r) (mM I s) = true) (h89 : 0 < I 89 (25 * r + s) → nI q = I 90 (25 * r + s)) : ∃ G', Inv B n (f_prop I r s e (nI q)) G' ∧ Ie r I (f_prop I r s e (nI q)) := by
  have o : ∀ a i, a < 104 → f_rp I e a i = I a i := fun a i ha => f_rp_o I (by omega) e i
  have h0 := h.rp e
  have hie0 : Ie r I (f_rp I e) := Ie.sm h (fun a i q => o a i (by omega))
  obtain ⟨h1, hm1⟩ := h0.prop (q := q) hr (by rw [f_camp_c (I := I) (o _ _ (by decide)) (o _ _ (by decide))]; exact hc) (by rw [o _ _ (by decide)]; exact he) s1 s2 s3 (by rw [o _ _ (by decide)]; exact h91) hq (by rw [o _ _ (by decide), mM_same (fun a i z => o a i (by omega))]; exact hm) (by rw [o _ _ (by decide), o _ _ (by decide)]; exact h89)
  rw [o 87 r (by decide)] at h1 hm1
  have hie1 := hie0.trans (Ie.mo h0 hm1)
  have hcc := hc
  rw [f_camp, Bool.and_eq_true, decide_eq_true_eq, decide_eq_true_eq] at hcc
  have hpp : (gP G (I 87 r) s (nI q)).1 (I 87 r) s = some (nI q) := if_pos ⟨rfl, rfl⟩
  have fin : ∀ I3 G3, Inv B n I3 G3 → Ie r I I3 → G3.1 (I 87 r) s = some (nI q) → f_prop2 I r s e (nI q) = I3 → ∃ G', Inv B n (f_prop I r s e (nI q)) G' ∧ Ie r I (f_prop I r s e (nI q)) := fun I3 G3 k1 k2 k3 k4 => by
    rw [f_prop, k4]
    refine ⟨G3, k1.ma (k := 3) (by decide) (by decide) (by decide) hr ⟨fun z => by omega, fun z => by omega, fun _ => ⟨s, rfl, k3⟩, fun z => by omega, fun z => by omega, fun z => by omega, fun z => by omega⟩ 5 (by decide), k2.trans (Ie.sm k1 (fun a i z => f_ma_o _ _ _ _ _ _ (by omega) (by omega) 5))⟩
  have e87 : ∀ y : Int32, x_u (x_u (f_rp I e) 91 (25 * r + s) (nI q)) 92 (25 * r + s) y 87 r = I 87 r := fun y => by
    rw [x_u_ne _ _ (by omega), x_u_ne _ _ (by omega), o _ _ (by decide)]
  by_cases hb : f_bit (f_mem I e s) (nI r) = true
  · have e81 : x_u (x_u (f_rp I e) 91 (25 * r + s) (nI q)) 92 (25 * r + s) (nI 0) 81 r = I 87 r := by
      rw [x_u_ne _ _ (by omega), x_u_ne _ _ (by omega), o _ _ (by decide), hcc.2]
    obtain ⟨h2, hm2⟩ := h1.cast (c := nI q) hr (show 1 ≤ s by omega) s3 e81 hpp
    have hie2 := hie1.trans (Ie.mo h1 hm2)
    have e87c : f_cast (x_u (x_u (f_rp I e) 91 (25 * r + s) (nI q)) 92 (25 * r + s) (nI 0)) r s (I 87 r) (nI q) 87 r = I 87 r := by
      rw [f_cast, x_u_ne _ _ (by omega), x_u_ne _ _ (by omega)]
      exact e87 _
    obtain ⟨h3, hm3⟩ := h2.wtr (s := s) (y := f_mem I e s &&& (nI 1 <<< (nI r &&& 31))) hr (by omega) (fun _ _ j hj hbj => by
      rw [b_and, Bool.and_eq_true, bt_sh (by omega) (by omega), decide_eq_true_eq] at hbj
      rw [hbj.2, e87c]
      exact Or.inr ⟨rfl, rfl, rfl⟩)
    refine fin _ _ h3 (hie2.trans (Ie.mo h2 hm3)) hpp ?_
    rw [f_prop2, if_pos hb, f_prop1, pr_sw]
  · obtain ⟨h3, hm3⟩ := h1.wtr (s := s) (y := f_mem I e s &&& (nI 1 <<< (nI r &&& 31))) hr (by omega) (fun _ _ j hj hbj => by
      rw [b_and, Bool.and_eq_true, bt_sh (by omega) (by omega), decide_eq_true_eq] at hbj
      rw [hbj.2] at hbj
      rw [fb_bt (by omega)] at hb
      exact absurd hbj.1 hb)
    refine fin _ _ h3 (hie1.trans (Ie.mo h1 hm3)) hpp ?_
    rw [f_prop2, if_neg hb, f_prop1, pr_ov]
theorem Inv.ex1 (h : Inv B n I G) (hr : r < 5) {e : Nat} (he : I 83 r = nI e) (he2 : e < 24) (hk : f_know I r (e + 1) = true) : Inv B n (f_ex1 I r e) G ∧ Ie r I (f_ex1 I r e) := by
  obtain ⟨⟨⟨f, e0, a1, a2, a3, a4, a5⟩, _, a7⟩, _, _⟩ := h.R hr
  have ee : e = e0 := by
    rw [a2] at he
    exact ((nI_eq (by omega) (by omega)).mp he).symm
  subst ee
  rw [f_know_b _ _ (by omega)] at hk
  have h80 := a7 (e + 1) (by omega) (by omega) hk
  obtain ⟨h1, m1⟩ := h.pres (e' := e + 1) hr a1 he (by omega) (by omega) (by omega) (fun s s1 s2 => by
    by_cases q : s = e + 1
    · rw [q]; exact h80
    · exact a5 s s1 (by omega)) (fun _ => by omega)
  have o : ∀ a i, (a = 74 ∧ (i = 0 ∨ i = 20)) ∨ (75 ≤ a ∧ a ≤ 77) ∨ (80 ≤ a ∧ a ≤ 101) → f_ex1 I r e a i = x_u I 83 r (nI (e + 1)) a i := fun a i q => by
    rw [f_ex1]
    split
    · rw [f_hear, x_u_ne _ _ (by omega), x_u_ne _ _ (by omega), f_rp_o _ (by omega)]
    · rw [f_rp_o _ (by omega)]
  exact ⟨h1.sm o, (Ie.mo h m1).trans (Ie.sm h1 (fun a i q => o a i (by omega)))⟩
theorem Inv.ex (hr : r < 5) : ∀ (m e : Nat) (I : xI), Inv B n I G → I 83 r = nI e → e + m ≤ 24 → Inv B n (f_ex I r e m).1 G ∧ Ie r I (f_ex I r e m).1 := by
  intro m
  induction m with
  | zero => intro e I h _ _; exact ⟨h, Ie.refl r I⟩
  | succ m ih =>
    intro e I h he hm
    rw [f_ex]
    split
    · rename_i hk
      obtain ⟨h1, i1⟩ := h.ex1 hr he (by omega) hk
      obtain ⟨h2, i2⟩ := ih (e + 1) _ h1 (f_ex1_e I r e) (by omega)
      exact ⟨h2, i1.trans i2⟩
    · exact ⟨h, Ie.refl r I⟩
def iEs (I : xI) (r s : Nat) : Prop := bt (I 84 r) s = false → I 91 (25 * r + s) < 0 → f_maj (I 88 r) (mM I s) = true → I 89 (25 * r + s) ≤ 0
theorem f_g2s_91 (I : xI) (r e : Nat) {s i : Nat} (h : i ≠ 25 * r + s) : f_g2s I r s e 91 i = I 91 i := by
  have o : f_rp I e 91 i = I 91 i := f_rp_o I (by decide) e i
  rw [f_g2s]
  split
  · rfl
  · split
    · exact o
    · split
      · rw [f_prop_91, if_neg h]; exact o
      · split
        · rw [f_prop_91, if_neg h]; exact o
        · exact o
theorem Inv.g2s (h : Inv B n I G) (hr : r < 5) {s e : Nat} (hc : f_camp I r = true) (he : I 83 r = nI e) (he2 : e ≤ 24) (s1 : e < s) (s2 : s ≤ e + 3) (s3 : s ≤ 24) : ∃ G', Inv B n (f_g2s I r s e) G' ∧ Ie r I (f_g2s I r s e) ∧ iEs (f_g2s I r s e) r s := by
  have o : ∀ a i, a < 104 → f_rp I e a i = I a i := fun a i ha => f_rp_o I (by omega) e i
  have om : ∀ t, mM (f_rp I e) t = mM I t := mM_same (fun a i z => o a i (by omega))
  obtain ⟨⟨⟨f, e0, a1, a2, a3, a4, a5⟩, _, a7⟩, hv, b1, b2, b3, b4⟩ := h.R hr
  have ee : e = e0 := by
    rw [a2] at he
    exact ((nI_eq (by omega) (by omega)).mp he).symm
  subst ee
  have hmm : f_mem I e s = mM I s := f_mem_m h.rq h.ch he2 a5 s2
  have h0 := h.rp e
  have hie0 : Ie r I (f_rp I e) := Ie.sm h (fun a i q => o a i (by omega))
  have hcc := hc
  rw [f_camp, Bool.and_eq_true, decide_eq_true_eq, decide_eq_true_eq] at hcc
  have hc0 : f_camp (f_rp I e) r = true := by rw [f_camp_c (I := I) (o _ _ (by decide)) (o _ _ (by decide))]; exact hc
  rw [f_g2s]
  split
  · rename_i hk
    refine ⟨G, h, Ie.refl r I, fun k1 k2 _ => ?_⟩
    rw [f_know_b _ _ s3, k1, Bool.false_or, decide_eq_true_eq] at hk
    exact absurd k2 (Int32.not_lt.mpr hk)
  · rename_i hk
    rw [Bool.or_eq_true, decide_eq_true_eq, f_know_b _ _ s3] at hk
    have h91 : I 91 (25 * r + s) < 0 := Int32.not_le.mp (fun z => hk (Or.inr z))
    split
    · rename_i hj
      refine ⟨G, h0, hie0, fun _ _ k3 => ?_⟩
      rw [o _ _ (by decide), om, ← hmm, hj] at k3
      exact absurd k3 (by decide)
    · rename_i hj
      have hj' : f_maj (I 88 r) (mM I s) = true := by
        rw [← hmm]
        exact Bool.not_eq_false _ ▸ hj
      have key : ∀ q, q ≤ n → (0 < I 89 (25 * r + s) → nI q = I 90 (25 * r + s)) → ∃ G', Inv B n (f_prop (f_rp I e) r s e (nI q)) G' ∧ Ie r I (f_prop (f_rp I e) r s e (nI q)) ∧ iEs (f_prop (f_rp I e) r s e (nI q)) r s := fun q q1 q2 => by
        obtain ⟨G', g1, g2⟩ := h0.prp (q := q) hr hc0 (by rw [o _ _ (by decide)]; exact he) s1 s2 s3 (by rw [o _ _ (by decide)]; exact h91) q1 (by rw [o _ _ (by decide), om]; exact hj') (by rw [o _ _ (by decide), o _ _ (by decide)]; exact q2)
        refine ⟨G', g1, hie0.trans g2, fun _ k2 _ => ?_⟩
        rw [f_prop_91, if_pos rfl] at k2
        exact absurd k2 (nI_pos (by have := h.rq.1; omega))
      split
      · rename_i h89
        have hp := ((b4 hcc.1).2.2 s (by omega) s3).2.1.2.2 h89
        obtain ⟨_, _, _, ⟨q, q1, q2⟩, _⟩ := h.Bq _ _ _ hp
        rw [q2]
        exact key q q1 (fun _ => q2.symm)
      · rename_i h89
        split
        · exact key 0 (Nat.zero_le _) (fun z => absurd z h89)
        · refine ⟨G, h0, hie0, fun _ _ _ => ?_⟩
          rw [o _ _ (by decide)]
          exact Int32.not_lt.mp h89
theorem Inv.go2 (h : Inv B n I G) (hr : r < 5) {e : Nat} (hc : f_camp I r = true) (he : I 83 r = nI e) (he2 : e ≤ 24) : ∀ m, m ≤ 3 → e + m ≤ 24 → ∃ G', Inv B n (f_go2 I r e m) G' ∧ Ie r I (f_go2 I r e m) ∧ ∀ i, i < m → iEs (f_go2 I r e m) r (e + 1 + i) := by
  intro m
  induction m with
  | zero => intro _ _; exact ⟨G, h, Ie.refl r I, fun i hi => by omega⟩
  | succ m ih =>
    intro hm hm2
    obtain ⟨G1, h1, i1, s1⟩ := ih (by omega) (by omega)
    have o : ∀ a i, a < 85 ∨ (86 < a ∧ a < 91) → a ≠ 74 → f_go2 I r e m a i = I a i := fun a i ha hb => f_go2_o I r e (by omega) (by omega) m
    obtain ⟨G2, h2, i2, s2⟩ := h1.g2s (s := e + 1 + m) hr (by rw [f_camp_c (I := I) (o _ _ (by decide) (by decide)) (o _ _ (by decide) (by decide))]; exact hc) (by rw [o _ _ (by decide) (by decide)]; exact he) he2 (by omega) (by omega) (by omega)
    rw [f_go2]
    refine ⟨G2, h2, i1.trans i2, fun i hi => ?_⟩
    by_cases q : i = m
    · rw [q]; exact s2
    · have o2 : ∀ a j, a < 85 ∨ (86 < a ∧ a < 91) → a ≠ 74 → f_g2s (f_go2 I r e m) r (e + 1 + m) e a j = f_go2 I r e m a j := fun a j ha hb => f_g2s_o _ _ _ _ (by omega) (by omega)
      intro k1 k2 k3
      rw [o2 84 _ (by decide) (by decide)] at k1
      rw [f_g2s_91 _ _ _ (by omega)] at k2
      rw [o2 88 _ (by decide) (by decide), mM_same (fun a j z => o2 a j (by omega) (by omega))] at k3
      rw [o2 89 _ (by decide) (by decide)]
      exact s1 i (by omega) k1 k2 k3
theorem Inv.go (h : Inv B n I G) (hr : r < 5) {e : Nat} (he : I 83 r = nI e) (he2 : e ≤ 24) (hf : f_wf I) : ∃ G', Inv B n (f_go I r e) G' ∧ Ie r I (f_go I r e) ∧ iE (f_go I r e) r := by
  obtain ⟨h1, i1⟩ := Inv.ex (G := G) (B := B) (n := n) hr (24 - e) e I h he (by omega)
  obtain ⟨x1, x2, x3, x4⟩ := f_ex_inv (r := r) (24 - e) e I he (by omega) hf h.1.2.2.2.1
  rw [f_go]
  generalize (f_ex I r e (24 - e)).1 = J at h1 i1 x1 x3 x4
  generalize (f_ex I r e (24 - e)).2 = g at x1 x2
  split
  · rename_i hc
    obtain ⟨G2, h2, i2, s2⟩ := h1.go2 hr hc x1 x2 (min 3 (24 - g)) (by omega) (by omega)
    refine ⟨G2, h2, i1.trans i2, fun _ s e' a1 a2 a3 a4 a5 a6 a7 => ?_⟩
    rw [f_go2_o J r g (by decide) (Or.inl (by decide)), x1] at a1
    have : g = e' := by
      by_cases z : e' < 2 ^ 31
      · exact (nI_eq (by omega) z).mp a1
      · omega
    subst this
    have := s2 (s - (g + 1)) (by omega)
    rw [show g + 1 + (s - (g + 1)) = s by omega] at this
    exact this a5 a6 a7
  · rename_i hc
    exact ⟨G, h1, i1, fun hc' => absurd hc' hc⟩
end GOIN
