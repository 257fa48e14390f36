/-! the invariant through the reference's timer, send, and the taking of a message -/
section TIMS
variable {B n : Nat} {I I' : xI} {G G' : xGh} {r : Nat}
theorem FI.tml (hr : r < 5) {e : Nat} : ∀ (m s : Nat) (I : xI), Inv B n I G → (∀ r, r < 5 → iE I r) → 1 ≤ s → s + m ≤ 25 → 0 < I 87 r → Inv B n (f_tmL r e m s I) G ∧ ∀ r', r' < 5 → iE (f_tmL r e m s I) r' := by
  intro m
  induction m with
  | zero => intro s I h ho _ _ _; exact ⟨h, ho⟩
  | succ m ih =>
    intro s I h ho s1 s2 hp
    rw [f_tmL]
    have o : ∀ a i, a < 93 → a ≠ 74 → f_tms I r s e a i = I a i := fun a i z1 z2 => f_tms_o I r s e (by omega) (by omega)
    refine ih (s + 1) _ ?_ (fun r' hr' => (ho r' hr').sm (fun a i z => o a i (by omega) (by omega))) (by omega) (by omega) (by rw [o _ _ (by decide) (by decide)]; exact hp)
    rw [f_tms]
    split
    · exact h
    · rename_i hc
      rw [Bool.or_eq_true, decide_eq_true_eq] at hc
      have h91 : 0 ≤ I 91 (25 * r + s) := Int32.not_lt.mp (fun z => hc (Or.inl z))
      have hP : G.1 (I 87 r) s = some (I 91 (25 * r + s)) := ((((h.R hr).2.2.2.2.2 hp).2.2 s s1 (by omega)).1 _).mpr ⟨h91, rfl⟩
      exact (h.rp e).ma (k := 3) (by decide) (by decide) (by decide) hr ⟨fun z => by omega, fun z => by omega, fun _ => ⟨s, rfl, hP⟩, fun z => by omega, fun z => by omega, fun z => by omega, fun z => by omega⟩ 5 (by decide)
theorem FI.tm (h : FI B n I) (hr : r < 5) {e p : Nat} (he : I 83 r = nI e) (he2 : e ≤ 24) (hp : I 81 r = nI p) (hp2 : p < 2 ^ 30) (hpB : p ≤ B) : FI (B + 9) n (f_tm I r e p) := by
  obtain ⟨G, h1, h2⟩ := h
  have o : ∀ a i, a < 104 → a ≠ 74 ∨ i ≠ 21 → f_tm0 I e a i = I a i := fun a i z1 z2 => f_tm0_o I e z2 z1
  have h0 : Inv B n (f_tm0 I e) G := h1.sm (fun a i z => o a i (by omega) (by omega))
  have o0 : ∀ r, r < 5 → iE (f_tm0 I e) r := fun r' hr' => (h2 r' hr').sm (fun a i z => o a i (by omega) (by omega))
  obtain ⟨f, e', p', a1, a2, a3, a4, a5, a6, a7, a8⟩ := h1.e hr
  have ee : e = e' := by
    rw [a2] at he
    exact ((nI_eq (by omega) (by omega)).mp he).symm
  subst ee
  rw [f_tm]
  split
  · rename_i hc
    rw [f_camp, Bool.and_eq_true, decide_eq_true_eq, decide_eq_true_eq, o _ _ (by decide) (Or.inl (by decide)), o _ _ (by decide) (Or.inl (by decide))] at hc
    have h3 := h0.ma (k := 1) (r := r) (x := f_tmh I e &&& (I 88 r ^^^ -1)) (b := nI 0) (m := I 87 r) (c := nI 0) (by decide) (by decide) (by decide) hr ⟨fun _ => ⟨p, hpB, by omega, by rw [hc.2]; exact hp⟩, fun z => by omega, fun z => by omega, fun z => by omega, fun z => by omega, fun z => by omega, fun z => by omega⟩ 5 (by decide)
    have u : ∀ a i, a < 93 → a ≠ 74 → f_ma (f_tm0 I e) (nI 1) r (f_tmh I e &&& (I 88 r ^^^ -1)) (nI 0) (I 87 r) (nI 0) 5 a i = f_tm0 I e a i := fun a i z1 z2 => f_ma_o _ _ _ _ _ _ (by omega) (by omega) 5
    obtain ⟨k1, k2⟩ := FI.tml hr (e := e) (min 3 (24 - e)) (e + 1) _ h3 (fun r' hr' => (o0 r' hr').sm (fun a i z => u a i (by omega) (by omega))) (by omega) (by omega) (by rw [u _ _ (by decide) (by decide), o _ _ (by decide) (Or.inl (by decide))]; exact hc.1)
    exact ⟨G, k1.step (r := 5) (G' := G) (Mo.q (fun _ _ _ _ => rfl) (fun _ _ _ => ⟨rfl, rfl, rfl⟩)) k1.1 (Nat.le_refl _) (by omega) (fun _ _ _ z1 z2 => absurd z1 z2) (fun _ _ _ z1 z2 => absurd z1 z2) (fun _ _ _ z1 z2 => absurd z2 z1) (fun z => absurd z (by decide)) (fun i hi => (Mo.q (n := n) (r := 5) (fun _ _ _ _ => rfl) (fun _ _ _ => ⟨rfl, rfl, rfl⟩)).ms (by omega) (mgE.refl _ i) (k1.2.2.2.2.2 i hi)), k2⟩
  · have hb1 : p < f_bal p r ∧ f_bal p r ≤ p + 9 ∧ f_bal p r % 5 = r := by
      rw [f_bal]
      omega
    obtain ⟨h3, m3⟩ := h0.bg (b := f_bal p r) (B' := B + 9) hr ((o _ _ (by decide) (Or.inl (by decide))).trans hp) hb1.1 (by omega) (by omega) (by omega) hb1.2.2
    have h4 := h3.ma (k := 1) (r := r) (x := f_tmh I e) (b := nI 0) (m := nI (f_bal p r)) (c := nI 0) (by decide) (by decide) (by decide) hr ⟨fun _ => ⟨f_bal p r, by omega, by omega, rfl⟩, fun z => by omega, fun z => by omega, fun z => by omega, fun z => by omega, fun z => by omega, fun z => by omega⟩ 5 (by decide)
    have u : ∀ a i, a < 93 → a ≠ 74 → f_ma (f_bg (f_tm0 I e) r (f_bal p r)) (nI 1) r (f_tmh I e) (nI 0) (nI (f_bal p r)) (nI 0) 5 a i = f_bg (f_tm0 I e) r (f_bal p r) a i := fun a i z1 z2 => f_ma_o _ _ _ _ _ _ (by omega) (by omega) 5
    refine FI.mk (r := r) h0 o0 h4 ((Ie.mo h0 m3).trans (Ie.sm h3 (fun a i z => u a i (by omega) (by omega)))) (fun _ => ?_)
    refine iE.sm (I := f_bg (f_tm0 I e) r (f_bal p r)) ?_ (fun a i z => u a i (by omega) (by omega))
    obtain ⟨e7, e1, e8, e9, w⟩ := f_bg_at (f_tm0 I e) r (f_bal p r)
    intro _ s e2 b1 b2 b3 b4 b5 b6 b7
    rw [w 83 _ (by omega), o _ _ (by decide) (Or.inl (by decide))] at b1
    have e3 : e = e2 := by
      rw [he] at b1
      exact (nI_eq (by omega) (by omega)).mp b1
    subst e3
    have hm : mM (f_bg (f_tm0 I e) r (f_bal p r)) s = mM I s := mM_same (fun a i z => (w a i (by omega)).trans (o a i (by omega) (by omega))) s
    obtain ⟨b, c1, c2, c3⟩ := mM_ok h1.rq h1.ch (show s ≤ 27 by omega) (a6.le (by omega))
    rw [hm, e8, c2, f_maj_1 r hr b c1 c3] at b7
    exact absurd b7 (by decide)
theorem f_sd_s {J : xI} {q : Int32} {e : Nat} : ∀ (m fr : Nat) {g : Nat}, f_sd J r e q m fr = some g → g = fr ∨ (f_know J r g = false ∧ J 91 (25 * r + g) < 0) := by
  intro m
  induction m with
  | zero => intro fr g h; exact Or.inl (Option.some.inj h).symm
  | succ m ih =>
    intro fr g h
    rw [f_sd] at h
    split at h
    · exact absurd h (by simp)
    · rcases ih _ h with z | z
      · split at z
        · rename_i hc
          rw [Bool.and_eq_true, Bool.not_eq_true', decide_eq_true_eq] at hc
          rw [z]
          exact Or.inr hc
        · exact Or.inl z
      · exact Or.inr z
theorem FI.sn (h : FI B n I) (hr : r < 5) {q e : Nat} (hq : q ≤ n) (he : I 83 r = nI e) (he2 : e ≤ 24) : FI B n (f_sn I r q e).1 := by
  obtain ⟨G, h1, h2⟩ := h
  have o : ∀ a i, a < 104 → f_rp I e a i = I a i := fun a i ha => f_rp_o I (by omega) e i
  have h0 := h1.rp e
  have o0 : ∀ r, r < 5 → iE (f_rp I e) r := fun r' hr' => (h2 r' hr').sm (fun a i z => o a i (by omega))
  rw [f_sn]
  split
  · refine FI.sm (I := f_rp I e) ⟨G, h0, o0⟩ (fun a i z => ?_)
    show f_hear (f_rp I e) q a i = _
    rw [f_hear, x_u_ne _ _ (by omega), x_u_ne _ _ (by omega)]
  · split
    · exact ⟨G, h0, o0⟩
    · rename_i hc
      have hc' : f_camp (f_rp I e) r = true := Bool.not_eq_false _ ▸ hc
      split
      · exact ⟨G, h0, o0⟩
      · rename_i fr hsd
        split
        · exact ⟨G, h0, o0⟩
        · rename_i hfr
          have hle := f_sd_le (I := f_rp I e) (r := r) (e := e) (q := nI q) (24 - e) 0 hsd
          split
          · exact ⟨G, h0.rp e, fun r' hr' => (o0 r' hr').sm (fun a i z => f_rp_o _ (by omega) e i)⟩
          · rename_i hj
            obtain ⟨f, e', p', a1, a2, a3, a4, a5, a6, a7, a8⟩ := h0.e hr
            have ee : e = e' := by
              rw [o _ _ (by decide), he] at a2
              exact (nI_eq (by omega) (by omega)).mp a2
            subst ee
            have hm := f_mem_m h0.rq h0.ch he2 a6 (show fr ≤ e + 3 by omega)
            have hj' : f_maj (f_rp I e 88 r) (mM (f_rp I e) fr) = true := by
              rw [← hm]
              exact Bool.not_eq_false _ ▸ hj
            have hop : f_know (f_rp I e) r fr = false ∧ f_rp I e 91 (25 * r + fr) < 0 := by
              rcases f_sd_s (J := f_rp I e) (24 - e) 0 hsd with z | z
              · omega
              · exact z
            have h89 : f_rp I e 89 (25 * r + fr) ≤ 0 := o0 r hr hc' fr e a2 (by omega) (by omega) (by omega) (by rw [← f_know_b _ _ (by omega)]; exact hop.1) hop.2 hj'
            have w : ∀ a i, a < 104 → f_rp (f_rp I e) e a i = f_rp I e a i := fun a i ha => f_rp_o _ (by omega) e i
            have h3 := h0.rp e
            obtain ⟨G2, k1, k2⟩ := h3.prp (q := q) hr (by rw [f_camp_c (I := f_rp I e) (w _ _ (by decide)) (w _ _ (by decide))]; exact hc') (by rw [w _ _ (by decide)]; exact a2) (show e < fr by omega) (by omega) (by omega) (by rw [w _ _ (by decide)]; exact hop.2) hq (by rw [w _ _ (by decide), mM_same (fun a i z => w a i (by omega))]; exact hj') (fun z => by
              rw [w _ _ (by decide)] at z
              exact (i_irr (i_lt_le z h89)).elim)
            have i3 : Ie r (f_rp I e) (f_rp (f_rp I e) e) := Ie.sm h0 (fun a i z => w a i (by omega))
            refine FI.mk (r := r) h0 o0 k1 (i3.trans k2) (fun _ => ?_)
            have v : ∀ a i, a < 85 ∨ (86 < a ∧ a < 91) → a ≠ 74 → f_prop (f_rp (f_rp I e) e) r fr e (nI q) a i = f_rp I e a i := fun a i z1 z2 => (f_prop_o _ _ _ _ _ (by omega) (by omega)).trans (w a i (by omega))
            refine (o0 r hr).c (mM_same (fun a i z => v a i (by omega) (by omega))) (v _ _ (by decide) (by decide)) (v _ _ (by decide) (by decide)) (v _ _ (by decide) (by decide)) (v _ _ (by decide) (by decide)) (v _ _ (by decide) (by decide)) (fun t _ _ => ⟨v _ _ (by decide) (by decide), fun z => ?_⟩)
            have z' : f_prop (f_rp (f_rp I e) e) r fr e (nI q) 91 (25 * r + t) < 0 := z
            clear z
            have z := z'
            clear z'
            rw [f_prop_91] at z
            split at z
            · exact absurd z (nI_pos (by have := h1.rq.1; omega))
            · rw [w _ _ (by decide)] at z
              exact z
theorem f_dl_o (I : xI) (i : Nat) {a j : Nat} (h : a < 93 ∨ 103 < a) (h2 : a ≠ 74 ∨ (j ≠ 20 ∧ j ≠ 21 ∧ j < 31)) : f_dl I i a j = I a j := by
  rw [f_dl, x_u_ne _ _ (by omega), f_dl2, f_rm_o _ _ (by omega) (by omega), f_dl1_o _ _ (by omega) (by omega)]
theorem f_dl_r (I : xI) (i : Nat) : f_dl I i 74 31 = I 94 i ∧ f_dl I i 74 32 = I 96 i ∧ f_dl I i 74 33 = I 97 i ∧ f_dl I i 74 34 = I 98 i ∧ f_dl I i 74 35 = I 99 i ∧ ∀ s, s < 25 → f_dl I i 102 s = I 100 (25 * i + s) ∧ f_dl I i 103 s = I 101 (25 * i + s) := by
  have k : ∀ a j, a < 93 ∨ 101 < a → a ≠ 74 ∨ (j ≠ 20 ∧ j ≠ 21) → f_dl I i a j = f_dl1 I i a j := fun a j z1 z2 => by
    rw [f_dl, x_u_ne _ _ (by omega), f_dl2, f_rm_o _ _ z1 (by omega)]
  have g : ∀ j, f_dl1 I i 74 j = f_dl0 I i 74 j := fun j => by rw [f_dl1, f_fillF_o _ _ _ _ _ (by decide), f_fillF_o _ _ _ _ _ (by decide)]
  refine ⟨?_, ?_, ?_, ?_, ?_, fun s hs => ⟨?_, ?_⟩⟩
  iterate 5
    rw [k _ _ (by decide) (by decide), g]
    simp [f_dl0, x_u]
  · rw [k _ _ (by decide) (by omega), f_dl1, f_fillF_o _ _ _ _ _ (by decide)]
    have := f_fillF_in (f_dl0 I i) (a := 102) (base := 0) (n := 25) (j := s) (fun s => I 100 (25 * i + s)) hs
    rw [Nat.zero_add] at this
    exact this
  · rw [k _ _ (by decide) (by omega), f_dl1]
    have := f_fillF_in (f_fillF (f_dl0 I i) 102 0 25 (fun s => I 100 (25 * i + s))) (a := 103) (base := 0) (n := 25) (j := s) (fun s => I 101 (25 * i + s)) hs
    rw [Nat.zero_add] at this
    exact this
theorem FI.dl2 (h : FI B n I) {i : Nat} (hi : i < f_w I) : FI B n (f_dl2 I i) := by
  have c0 : ∀ a j, (a = 74 ∧ (j = 0 ∨ j = 20)) ∨ (75 ≤ a ∧ a ≤ 77) ∨ (80 ≤ a ∧ a ≤ 101) → f_dl1 I i a j = I a j := fun a j z => f_dl1_o I i (by omega) (by omega)
  exact FI.rm (h.sm c0) (by rw [f_w_eq (c0 74 20 (by decide))]; exact hi)
theorem FI.dl (h : Inv B n I G) (ho : ∀ r, r < 5 → iE I r) {i : Nat} (hi : i < f_w I) : ∃ k j t, 1 ≤ k ∧ k ≤ 8 ∧ t < 5 ∧ I 93 i = nI k ∧ I 95 i = nI t ∧ I 94 i = nI j ∧ Inv B n (f_dl I i) G ∧ (∀ r, r < 5 → iE (f_dl I i) r) ∧ RM B (f_dl I i) G k j := by
  obtain ⟨k, j, t, a1, a2, a3, a4, a5, a6, a7, a8⟩ := h.2.2.2.2.2 i hi
  have c0 : ∀ a j, (a = 74 ∧ (j = 0 ∨ j = 20)) ∨ (75 ≤ a ∧ a ≤ 77) ∨ (80 ≤ a ∧ a ≤ 101) → f_dl1 I i a j = I a j := fun a j z => f_dl1_o I i (by omega) (by omega)
  have h1 := (h.sm c0).rm (i := i) (by rw [f_w_eq (c0 74 20 (by decide))]; exact hi)
  have h2 : Inv B n (f_dl I i) G := h1.sm (fun a j z => x_u_ne _ _ (by omega))
  obtain ⟨r1, r2, r3, r4, r5, r6⟩ := f_dl_r I i
  refine ⟨k, j, t, a1, a2, a4, a5, a7, a6, h2, fun r hr => (ho r hr).sm (fun a j z => f_dl_o I i (by omega) (by omega)), a3, r1.trans a6, ?_⟩
  have hmo : Mo n I G (f_dl I i) G 5 := Mo.q (fun a j z1 z2 => f_dl_o I i (by omega) (by omega)) (fun q _ _ => ⟨f_dl_o I i (by omega) (by omega), f_dl_o I i (by omega) (by omega), f_dl_o I i (by omega) (by omega)⟩)
  rw [r2, r3, r4, r5]
  exact mI_c (fun s hs => r6 s hs) (hmo.mg a3 (Nat.le_refl _) a8)
end TIMS
