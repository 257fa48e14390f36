/-! the invariant through what a replica of the reference does -/
def FI (B n : Nat) (I : xI) : Prop := ∃ G, Inv B n I G ∧ ∀ r, r < 5 → iE I r
def RM (B : Nat) (I : xI) (G : xGh) (k j : Nat) : Prop := j < 5 ∧ I 74 31 = nI j ∧ mI B I G k j (I 74 32) (I 74 33) (I 74 34) (I 74 35) (I 102) (I 103)
theorem x_uc {α : Type} (f : Nat → Nat → α) {a b i j : Nat} (u v : α) (h : a ≠ b) : x_u (x_u f a i u) b j v = x_u (x_u f b j v) a i u := by
  funext c k
  by_cases h1 : c = a ∧ k = i
  · obtain ⟨rfl, rfl⟩ := h1
    rw [x_u_eq, x_u_ne _ _ (fun q => h q.1), x_u_eq]
  · rw [x_u_ne _ _ h1]
    by_cases h2 : c = b ∧ k = j
    · obtain ⟨rfl, rfl⟩ := h2
      rw [x_u_eq, x_u_eq]
    · rw [x_u_ne _ _ h2, x_u_ne _ _ h2, x_u_ne _ _ h1]
section HINV
variable {B n : Nat} {I I' : xI} {G G' : xGh} {r : Nat}
theorem FI.mk (hI : Inv B n I G) (ho : ∀ r, r < 5 → iE I r) {B' n' : Nat} (h : Inv B' n' I' G') (hi : Ie r I I') (hr : r < 5 → iE I' r) : FI B' n' I' := ⟨G', h, fun r' hr' => by
  by_cases e : r' = r
  · subst e
    exact hr hr'
  · exact hi r' hr' e (ho r' hr')⟩
theorem Inv.wf (h : Inv B n I G) : f_wf I := by
  obtain ⟨_, ⟨h2, _⟩, h4, _, h6⟩ := h.1
  refine ⟨fun s s1 s2 => ?_, h6⟩
  rcases h4 s s1 s2 with e | ⟨q, q1, q2⟩
  · left
    rw [e]
    decide
  · by_cases q0 : q = 0
    · left
      rw [q2, q0]
      exact Int32.le_refl _
    · exact Or.inr ⟨q, by omega, by omega, q2⟩
theorem Inv.e (h : Inv B n I G) (hr : r < 5) : ∃ f e p, I 82 r = nI f ∧ I 83 r = nI e ∧ I 81 r = nI p ∧ f ≤ e ∧ e ≤ 24 ∧ prD I e ∧ p ≤ B ∧ p < 2 ^ 31 := by
  obtain ⟨⟨⟨f, e, a1, a2, a3, a4, a5⟩, ⟨p, p1, p2, p3⟩, _⟩, _⟩ := h.R hr
  exact ⟨f, e, p, a1, a2, p3, a3, a4, a5, p1, p2⟩
theorem iE.prm (h : iE I r) (hp : iP n I G r) {p : Int32} (h1 : I 81 r ≤ p) : iE (x_u I 81 r p) r := by
  have u : ∀ a i, a ≠ 81 → x_u I 81 r p a i = I a i := fun a i ha => x_u_ne _ _ (fun q => ha q.1)
  intro hf s e a1 a2 a3 a4 a5 a6 a7
  rw [f_camp, x_u_eq, u 87 _ (by decide), Bool.and_eq_true, decide_eq_true_eq, decide_eq_true_eq] at hf
  rw [u 83 _ (by decide)] at a1
  rw [u 84 _ (by decide)] at a5
  rw [u 91 _ (by decide)] at a6
  rw [u 88 _ (by decide), mM_same (fun a i z => u a i (by omega))] at a7
  rw [u 89 _ (by decide)]
  refine h ?_ s e a1 a2 a3 a4 a5 a6 a7
  rw [f_camp, decide_eq_true hf.1, Bool.true_and, decide_eq_true_eq]
  have h2 := hp.2.1
  rw [← hf.2] at h1
  rw [Int32.le_iff_toInt_le] at h1 h2
  exact Int32.toInt_inj.mp (by omega)
theorem iE.sm (h : iE I r) (hc : ∀ a i, (75 ≤ a ∧ a ≤ 77) ∨ (80 ≤ a ∧ a ≤ 92) → I' a i = I a i) : iE I' r :=
  h.c (mM_same (fun a i z => hc a i (by omega))) (hc _ _ (by omega)) (hc _ _ (by omega)) (hc _ _ (by omega)) (hc _ _ (by omega)) (hc _ _ (by omega)) (fun s _ _ => ⟨hc _ _ (by omega), fun z => by rw [hc _ _ (by omega)] at z; exact z⟩)
theorem FI.sm (h : FI B n I) (hc : ∀ a i, (a = 74 ∧ (i = 0 ∨ i = 20)) ∨ (75 ≤ a ∧ a ≤ 77) ∨ (80 ≤ a ∧ a ≤ 101) → I' a i = I a i) : FI B n I' := by
  obtain ⟨G, h1, h2⟩ := h
  exact ⟨G, h1.sm hc, fun r hr => (h2 r hr).sm (fun a i z => hc a i (by omega))⟩
theorem FI.rm (h : FI B n I) {i : Nat} (hi : i < f_w I) : FI B n (f_rm I i) := by
  obtain ⟨G, h1, h2⟩ := h
  exact ⟨G, h1.rm hi, fun r hr => (h2 r hr).sm (fun a j z => f_rm_o I i (by omega) (by omega))⟩
theorem FI.copy (h : FI B n I) {i : Nat} (hi : i < f_w I) (h32 : f_w I < 32) : FI B n (f_copy I i) := by
  obtain ⟨G, h1, h2⟩ := h
  exact ⟨G, h1.copy hi h32, fun r hr => (h2 r hr).sm (fun a j z => by rw [f_copy, x_u_ne _ _ (by omega), f_mv_o _ _ _ (by omega)])⟩
theorem FI.fetch (h : FI B n I) {p : Nat} (hr : r < 5) (hp : p < 5) : FI B n (f_ml I (nI 7) r (nI p) (nI 0) (I 83 r) (nI 0)) := by
  obtain ⟨G, h1, h2⟩ := h
  obtain ⟨f, e, p', a1, a2, a3, a4, a5, a6, a7, a8⟩ := h1.e hr
  exact ⟨G, h1.ml (by decide) (by decide) hr hp ⟨fun z => by omega, fun z => by omega, fun z => by omega, fun z => by omega, fun z => by omega, fun _ => ⟨e, a5, a2⟩, fun z => by omega⟩, fun r' hr' => (h2 r' hr').sm (fun a j z => f_ml_o _ _ _ _ _ _ (by omega) (by omega))⟩
theorem FI.inst (h : Inv B n I G) (hr : r < 5) {f : Nat} (hf : f ≤ 24) (hp : prD I f) : Inv B n (f_inst I r f) G ∧ Ie r I (f_inst I r f) := by
  rw [f_inst]
  obtain ⟨f0, e, p', a1, a2, a3, a4, a5, a6, a7, a8⟩ := h.e hr
  split
  · exact ⟨h, Ie.refl r I⟩
  · rename_i hc
    rw [a2] at hc
    have hlt : e < f := Nat.not_le.mp (fun z => hc ((nI_leI (by omega) (by omega)).mpr z))
    obtain ⟨h1, m1⟩ := h.pres (e' := f) hr a1 a2 a5 (by omega) hf hp (fun _ => by omega)
    obtain ⟨h2, m2⟩ := h1.snap (f := f0) (e := f) (f' := f) hr ((x_u_ne _ _ (by omega)).trans a1) (x_u_eq _ _ _ _) (by omega) (by omega) (Nat.le_refl _) hf
    obtain ⟨h3, m3⟩ := h2.fg (f := f) (m := f) hr (x_u_eq _ _ _ _) (Nat.le_refl _) hf
    rw [x_uc I (nI f) (nI f) (show (82 : Nat) ≠ 83 by decide)]
    exact ⟨h3, ((Ie.mo h m1).trans (Ie.mo h1 m2)).trans (Ie.mo h2 m3)⟩
theorem FI.cut (h : FI B n I) (hr : r < 5) {e : Nat} (he : I 83 r = nI e) (he2 : e ≤ 24) : FI B n (f_cut I r e).1 := by
  obtain ⟨G, h1, h2⟩ := h
  obtain ⟨f0, e', p', a1, a2, a3, a4, a5, a6, a7, a8⟩ := h1.e hr
  have ee : e = e' := by
    rw [a2] at he
    exact ((nI_eq (by omega) (by omega)).mp he).symm
  subst ee
  obtain ⟨h3, m3⟩ := h1.snap (f' := e) hr a1 he (by omega) a4 (Nat.le_refl _) he2
  obtain ⟨h4, m4⟩ := h3.fg (f := e) (m := e) hr (x_u_eq _ _ _ _) (Nat.le_refl _) he2
  refine FI.mk (r := r) h1 h2 (I' := (f_cut I r e).1) h4 ((Ie.mo h1 m3).trans (Ie.mo h3 m4)) (fun _ => ?_)
  obtain ⟨k1, k2, k3⟩ := f_fg_at (x_u I 82 r (nI e)) r e he2
  have u : ∀ a i, a ≠ 82 → a ≠ 84 → a ≠ 85 → a ≠ 86 → (f_cut I r e).1 a i = I a i := fun a i z1 z2 z3 z4 => (k2 a i z3 z4 (Or.inl z2)).trans (x_u_ne _ _ (fun z => z1 z.1))
  intro hf s e2 b1 b2 b3 b4 b5 b6 b7
  rw [f_camp_c (I := I) (u _ _ (by decide) (by decide) (by decide) (by decide)) (u _ _ (by decide) (by decide) (by decide) (by decide))] at hf
  rw [u 83 _ (by decide) (by decide) (by decide) (by decide)] at b1
  have e3 : e = e2 := by
    rw [he] at b1
    exact (nI_eq (by omega) (by omega)).mp b1
  subst e3
  have b5' : bt (I 84 r) s = false := by
    have := k3 s (by omega)
    rw [show (f_fg (x_u I 82 r (nI e)) r e).1 = (f_cut I r e).1 from rfl, b5, decide_eq_false (p := s ≤ e) (by omega), x_u_ne _ _ (by omega)] at this
    simpa using this.symm
  rw [u 91 _ (by decide) (by decide) (by decide) (by decide)] at b6
  rw [u 88 _ (by decide) (by decide) (by decide) (by decide), mM_same (fun a i z => u a i (by omega) (by omega) (by omega) (by omega))] at b7
  rw [u 89 _ (by decide) (by decide) (by decide) (by decide)]
  exact h2 r hr hf s e b1 b2 b3 b4 b5' b6 b7
theorem FI.crash (h : FI B n I) (hr : r < 5) : FI B n (f_crash I r) := by
  obtain ⟨G, h1, h2⟩ := h
  obtain ⟨f0, e, p', a1, a2, a3, a4, a5, a6, a7, a8⟩ := h1.e hr
  have c0 : ∀ a i, (a = 74 ∧ (i = 0 ∨ i = 20)) ∨ (75 ≤ a ∧ a ≤ 77) ∨ (80 ≤ a ∧ a ≤ 101) → x_u I 74 7 (I 74 7 &&& (nI 1 <<< (nI r &&& 31) ^^^ -1)) a i = I a i := fun a i z => x_u_ne _ _ (by omega)
  have h3 := h1.sm c0
  have i3 : Ie r I (x_u I 74 7 (I 74 7 &&& (nI 1 <<< (nI r &&& 31) ^^^ -1))) := Ie.sm h1 (fun a i z => c0 a i (by omega))
  obtain ⟨h4, m4⟩ := h3.know (y := nI 0) hr (fun s _ _ z => by
    rw [show nI 0 = (0 : Int32) from rfl, b_0] at z
    exact absurd z (by decide))
  obtain ⟨h5, m5⟩ := h4.cmp0 hr
  have e2 : I 82 r = nI f0 := a1
  obtain ⟨h6, m6⟩ := h5.pres (f := f0) (e := e) (e' := f0) hr (by rw [x_u_ne _ _ (by omega), x_u_ne _ _ (by omega), x_u_ne _ _ (by omega)]; exact a1) (by rw [x_u_ne _ _ (by omega), x_u_ne _ _ (by omega), x_u_ne _ _ (by omega)]; exact a2) a5 (Nat.le_refl _) (by omega) (fun s s1 s2 => by rw [x_u_ne _ _ (by omega), x_u_ne _ _ (by omega), x_u_ne _ _ (by omega)]; exact a6 s s1 (by omega)) (fun z => by
    rw [x_u_eq] at z
    exact (i_irr z).elim)
  refine FI.mk (r := r) h1 h2 (I' := f_crash I r) (G' := G) ?_ ?_ (fun _ hf => ?_)
  · rw [f_crash, e2, x_uc _ _ _ (show (83 : Nat) ≠ 87 by decide)]
    exact h6
  · rw [f_crash, e2, x_uc _ _ _ (show (83 : Nat) ≠ 87 by decide)]
    exact ((i3.trans (Ie.mo h3 m4)).trans (Ie.mo h4 m5)).trans (Ie.mo h5 m6)
  · rw [f_camp, Bool.and_eq_true, decide_eq_true_eq] at hf
    have z := hf.1
    rw [f_crash, x_u_eq] at z
    exact (i_irr z).elim
theorem FI.rst (h : FI B n I) : FI B n (f_rst I r) := h.sm (fun a i z => x_u_ne _ _ (by omega))
theorem FI.ask (h : FI B n I) {kd ky : Nat} {v : Int32} (hk : kd ≤ 4) (hy : ky ≤ 3) (hv : f_askok kd v) (hn : n < 40) : FI B (n + 1) (f_ask I kd ky n v) := by
  obtain ⟨G, h1, h2⟩ := h
  have u : ∀ a i, a ≠ 74 → i ≠ n + 1 ∨ (a ≠ 75 ∧ a ≠ 76 ∧ a ≠ 77) → f_ask I kd ky n v a i = I a i := fun a i z1 z2 => by
    rw [f_ask, x_u_ne _ _ (by omega), x_u_ne _ _ (by omega), x_u_ne _ _ (by omega), x_u_ne _ _ (by omega)]
  have e0 : f_ask I kd ky n v 74 0 = nI (n + 1) := by rw [f_ask, x_u_ne _ _ (by omega), x_u_ne _ _ (by omega), x_u_ne _ _ (by omega), x_u_eq]
  have e20 : f_ask I kd ky n v 74 20 = I 74 20 := by rw [f_ask, x_u_ne _ _ (by omega), x_u_ne _ _ (by omega), x_u_ne _ _ (by omega), x_u_ne _ _ (by omega)]
  have e5 : f_ask I kd ky n v 75 (n + 1) = nI kd := by rw [f_ask, x_u_ne _ _ (by omega), x_u_ne _ _ (by omega), x_u_eq]
  have e6 : f_ask I kd ky n v 76 (n + 1) = nI ky := by rw [f_ask, x_u_ne _ _ (by omega), x_u_eq]
  have e7 : f_ask I kd ky n v 77 (n + 1) = v := by rw [f_ask, x_u_eq]
  obtain ⟨a1, ⟨a2, a3⟩, a4, a5, a6⟩ := h1.1
  have h8 : ∀ a i, 80 ≤ a → a ≤ 92 → f_ask I kd ky n v a i = I a i := fun a i z1 z2 => u a i (by omega) (by omega)
  have hq : ∀ q, 1 ≤ q → q ≤ n → f_ask I kd ky n v 75 q = I 75 q ∧ f_ask I kd ky n v 76 q = I 76 q ∧ f_ask I kd ky n v 77 q = I 77 q := fun q z1 z2 => ⟨u _ _ (by omega) (by omega), u _ _ (by omega) (by omega), u _ _ (by omega) (by omega)⟩
  have hmo : Mo n I G (f_ask I kd ky n v) G 5 := Mo.q h8 hq
  refine ⟨G, h1.quiet (n' := n + 1) ⟨e0, ⟨by omega, fun q q1 q2 => ?_⟩, fun s s1 s2 => ?_, f_wok_eq e20 a5, fun q hq' => ?_⟩ (by omega) (Nat.le_refl _) h8 hq (fun i hi => hmo.ms (Nat.le_refl _) (mgE.of (fun a i z1 z2 => u a i (by omega) (by omega)) i) (h1.2.2.2.2.2 i (by rw [f_w_eq e20] at hi; exact hi))), fun r hr => Ie.m5 (r := 5) h1 hmo r hr (by omega) (h2 r hr)⟩
  · by_cases e : q = n + 1
    · subst e
      rw [e5, e6, e7]
      refine ⟨⟨kd, hk, rfl⟩, ⟨ky, by omega, rfl⟩, fun z => ?_⟩
      have z4 : kd = 4 := (nI_eq (by omega) (by omega)).mp z
      obtain ⟨b1, b2, b3⟩ := hv z4
      have c1 : (0 : Int) ≤ v.toInt := by
        have := Int32.not_lt.mp b1
        rw [Int32.le_iff_toInt_le] at this
        exact this
      have c2 : v.toInt ≤ 31 := by
        have := Int32.not_lt.mp b2
        rw [Int32.le_iff_toInt_le] at this
        exact this
      have ev : v = nI v.toInt.toNat := by
        apply Int32.toInt_inj.mp
        rw [nI_toInt (by omega)]
        omega
      exact ⟨v.toInt.toNat, by omega, ev, by rw [← ev]; exact b3⟩
    · obtain ⟨z1, z2, z3⟩ := hq q q1 (by omega)
      rw [z1, z2, z3]
      exact a3 q q1 (by omega)
  · rw [h8 80 s (by decide) (by decide)]
    rcases a4 s s1 s2 with e | ⟨q, q1, q2⟩
    · exact Or.inl e
    · exact Or.inr ⟨q, by omega, q2⟩
  · by_cases e : q = n + 1
    · subst e
      exact ⟨ky, by omega, e6⟩
    · rw [u 76 q (by decide) (Or.inl e)]
      exact a6 q hq'
end HINV
