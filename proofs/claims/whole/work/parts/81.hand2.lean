/-! the invariant through the reference's handlers, timer and send -/
section HANDI
variable {B n : Nat} {I I' : xI} {G G' : xGh} {r : Nat}
theorem FI.refuse (h : Inv B n I G) (ho : ∀ r, r < 5 → iE I r) (hr : r < 5) {j : Nat} (hj : j < 5) : FI B n (f_ml I (nI 6) r (nI j) (nI 0) (I 81 r) (nI 0)) := by
  obtain ⟨f, e, p, a1, a2, a3, a4, a5, a6, a7, a8⟩ := h.e hr
  exact ⟨G, h.ml (by decide) (by decide) hr hj ⟨fun _ => ⟨p, a7, a8, a3⟩, fun z => by omega, fun z => by omega, fun z => by omega, fun z => by omega, fun z => by omega, fun z => by omega⟩, fun r' hr' => (ho r' hr').sm (fun a i z => f_ml_o _ _ _ _ _ _ (by omega) (by omega))⟩
theorem FI.oPrep (h : Inv B n I G) (ho : ∀ r, r < 5 → iE I r) (hr : r < 5) {j : Nat} (hm : RM B I G 1 j) : FI B n (f_oPrep I r) := by
  obtain ⟨hj, h31, m1, _⟩ := hm
  obtain ⟨p, p1, p2, p3⟩ := m1 (Or.inl rfl)
  rw [f_oPrep, h31]
  split
  · exact FI.refuse h ho hr hj
  · rename_i hc
    have hc' := Int32.not_lt.mp hc
    rw [p3] at hc' ⊢
    obtain ⟨h1, mo1⟩ := h.prm (B' := B) hr hc' p1 p2 (Nat.le_refl _)
    obtain ⟨f, e, p', a1, a2, a3, a4, a5, a6, a7, a8⟩ := h1.e hr
    obtain ⟨_, hv, _⟩ := h1.R hr
    have e81 : x_u I 81 r (nI p) 81 r = nI p := x_u_eq _ _ _ _
    refine FI.mk (r := r) h ho (h1.ml (k := 2) (by decide) (by decide) hr hj ⟨fun z => by omega, fun _ => ⟨by rw [f_mailV, if_pos rfl]; exact hv.1, by rw [e81]; exact Int32.le_refl _, f, by rw [if_pos rfl]; exact a1, by omega, a6.le (by omega), fun s s1 s2 => ?_⟩, fun z => by omega, fun z => by omega, fun z => by omega, fun z => by omega, fun z => by omega⟩) ((Ie.mo h mo1).trans (Ie.sm h1 (fun a i z => f_ml_o _ _ _ _ _ _ (by omega) (by omega)))) (fun _ => ?_)
    · obtain ⟨c1, c2, c3, c4⟩ := hv.2 s s1 s2
      rw [e81] at c2
      rw [f_mailV, f_mailV, if_pos rfl, if_pos rfl]
      exact ⟨c1, c2, c3, fun hs b' _ hv' => c4 b' hv' (by rw [a1]; exact (nI_ltI (by omega) (by omega)).mpr hs)⟩
    · exact ((ho r hr).prm (h.R hr).2.2 hc').sm (fun a i z => f_ml_o _ _ _ _ _ _ (by omega) (by omega))
theorem Inv.bn (h : Inv B n I G) {b c : Int32} {s : Nat} (hp : G.1 b s = some c) : ∃ p, p ≤ B ∧ p < 2 ^ 31 ∧ b = nI p := by
  obtain ⟨b1, _, _, _, _, b6, _⟩ := h.Bq _ _ _ hp
  obtain ⟨f, e, p, a1, a2, a3, a4, a5, a6, a7, a8⟩ := h.e (r := own b) (Nat.mod_lt _ (by decide))
  rw [a3, Int32.le_iff_toInt_le, nI_toInt a8] at b6
  rw [Int32.lt_iff_toInt_lt] at b1
  have z0 : (0 : Int32).toInt = 0 := rfl
  refine ⟨b.toInt.toNat, by omega, by omega, ?_⟩
  apply Int32.toInt_inj.mp
  rw [nI_toInt (by omega)]
  omega
theorem FI.oAcc (h : Inv B n I G) (ho : ∀ r, r < 5 → iE I r) (hr : r < 5) {j s : Nat} (hm : RM B I G 3 j) (hs : I 74 33 = nI s) (hs2 : s ≤ 24) : FI B n (f_oAcc I r s) := by
  obtain ⟨hj, h31, _, _, m3, _⟩ := hm
  obtain ⟨s', t1, t2⟩ := m3 rfl
  obtain ⟨_, t3, t4, _⟩ := h.Bq _ _ _ t2
  have es : s = s' := by
    rw [hs] at t1
    exact (nI_eq (by omega) (by omega)).mp t1
  subst es
  obtain ⟨p, p1, p2, p3⟩ := h.bn t2
  rw [f_oAcc, h31]
  split
  · exact FI.refuse h ho hr hj
  · rename_i hc
    have hc' := Int32.not_lt.mp hc
    rw [p3] at hc' t2 ⊢
    obtain ⟨h1, mo1⟩ := h.prm (B' := B) hr hc' p1 p2 (Nat.le_refl _)
    obtain ⟨f, e, p', a1, a2, a3, a4, a5, a6, a7, a8⟩ := h1.e hr
    have i1 := (ho r hr).prm (h.R hr).2.2 hc'
    have e82 : x_u I 81 r (nI p) 82 r = I 82 r := x_u_ne _ _ (by omega)
    split
    · rw [← e82]
      exact FI.mk (r := r) h ho (h1.ml (k := 8) (by decide) (by decide) hr hj ⟨fun z => by omega, fun z => by omega, fun z => by omega, fun z => by omega, fun z => by omega, fun z => by omega, fun _ => ⟨f, by omega, a1, a6.le (by omega)⟩⟩) ((Ie.mo h mo1).trans (Ie.sm h1 (fun a i z => f_ml_o _ _ _ _ _ _ (by omega) (by omega)))) (fun _ => i1.sm (fun a i z => f_ml_o _ _ _ _ _ _ (by omega) (by omega)))
    · have e81 : x_u I 81 r (nI p) 81 r = nI p := x_u_eq _ _ _ _
      obtain ⟨h2, mo2⟩ := h1.cast (c := I 74 34) hr t3 t4 e81 t2
      have u : ∀ a i, a ≠ 85 → a ≠ 86 → f_cast (x_u I 81 r (nI p)) r s (nI p) (I 74 34) a i = x_u I 81 r (nI p) a i := fun a i z1 z2 => by
        rw [f_cast, x_u_ne _ _ (fun q => z2 q.1), x_u_ne _ _ (fun q => z1 q.1)]
      refine FI.mk (r := r) h ho (h2.ml (k := 4) (by decide) (by decide) hr hj ⟨fun z => by omega, fun z => by omega, fun z => by omega, fun _ => ⟨s, rfl, Or.inr ⟨rfl, rfl, rfl⟩⟩, fun z => by omega, fun z => by omega, fun z => by omega⟩) (((Ie.mo h mo1).trans (Ie.mo h1 mo2)).trans (Ie.sm h2 (fun a i z => f_ml_o _ _ _ _ _ _ (by omega) (by omega)))) (fun _ => ?_)
      refine iE.sm (I := f_cast (x_u I 81 r (nI p)) r s (nI p) (I 74 34)) ?_ (fun a i z => f_ml_o _ _ _ _ _ _ (by omega) (by omega))
      exact i1.c (mM_same (fun a i z => u a i (by omega) (by omega))) (u _ _ (by decide) (by decide)) (u _ _ (by decide) (by decide)) (u _ _ (by decide) (by decide)) (u _ _ (by decide) (by decide)) (u _ _ (by decide) (by decide)) (fun t _ _ => ⟨u _ _ (by decide) (by decide), fun z => by rw [u _ _ (by decide) (by decide)] at z; exact z⟩)
theorem FI.oRef (h : Inv B n I G) (ho : ∀ r, r < 5 → iE I r) (hr : r < 5) {j : Nat} (hm : RM B I G 6 j) : FI B n (f_oRef I r) := by
  obtain ⟨hj, h31, m1, _⟩ := hm
  obtain ⟨p, p1, p2, p3⟩ := m1 (Or.inr rfl)
  obtain ⟨f, e, p', a1, a2, a3, a4, a5, a6, a7, a8⟩ := h.e hr
  rw [f_oRef]
  split
  · rw [a3]
    obtain ⟨h1, mo1⟩ := h.prm (B' := B) hr (show I 81 r ≤ nI p' by rw [a3]; exact Int32.le_refl _) a7 a8 (Nat.le_refl _)
    exact FI.mk (r := r) h ho h1 (Ie.mo h mo1) (fun _ => (ho r hr).prm (h.R hr).2.2 (by rw [a3]; exact Int32.le_refl _))
  · rename_i hc
    have hc' := i_llt (Int32.not_le.mp hc)
    rw [p3] at hc' ⊢
    obtain ⟨h1, mo1⟩ := h.prm (B' := B) hr hc' p1 p2 (Nat.le_refl _)
    exact FI.mk (r := r) h ho h1 (Ie.mo h mo1) (fun _ => (ho r hr).prm (h.R hr).2.2 hc')
theorem FI.oFet (h : Inv B n I G) (ho : ∀ r, r < 5 → iE I r) (hr : r < 5) {j : Nat} (hm : RM B I G 7 j) : FI B n (f_oFet I r) := by
  obtain ⟨hj, h31, _⟩ := hm
  obtain ⟨f, e, p', a1, a2, a3, a4, a5, a6, a7, a8⟩ := h.e hr
  rw [f_oFet, h31]
  split
  · exact ⟨G, h, ho⟩
  · exact ⟨G, h.ml (k := 8) (by decide) (by decide) hr hj ⟨fun z => by omega, fun z => by omega, fun z => by omega, fun z => by omega, fun z => by omega, fun z => by omega, fun _ => ⟨e, a5, a2, a6⟩⟩, fun r' hr' => (ho r' hr').sm (fun a i z => f_ml_o _ _ _ _ _ _ (by omega) (by omega))⟩
theorem FI.oSta (h : Inv B n I G) (ho : ∀ r, r < 5 → iE I r) (hr : r < 5) {j f e : Nat} (hm : RM B I G 8 j) (hf : I 74 33 = nI f) (hf2 : f ≤ 24) (he : I 83 r = nI e) (he2 : e ≤ 24) : FI B n (f_oSta I r f e) := by
  obtain ⟨hj, h31, _, _, _, _, _, _, m8⟩ := hm
  obtain ⟨f', g1, g2, g3⟩ := m8 rfl
  have ef : f = f' := by
    rw [hf] at g2
    exact (nI_eq (by omega) (by omega)).mp g2
  subst ef
  obtain ⟨h1, i1⟩ := FI.inst h hr hf2 g3
  have e1 := f_inst_e (r := r) (f := f) he
  obtain ⟨G2, h2, i2, i3⟩ := h1.go hr e1 (by rw [f_ie]; split <;> omega) h1.wf
  exact FI.mk (r := r) h ho h2 (i1.trans i2) (fun _ => i3)
theorem FI.oLearn (h : Inv B n I G) (ho : ∀ r, r < 5 → iE I r) (hr : r < 5) {j s e : Nat} (hm : RM B I G 5 j) (hs : I 74 33 = nI s) (hs2 : s ≤ 24) (he : I 83 r = nI e) (he2 : e ≤ 24) : FI B n (f_oLearn I r s e) := by
  obtain ⟨hj, h31, _, _, _, _, m5, _⟩ := hm
  obtain ⟨s', t1, t2, t3, t4, t5⟩ := m5 rfl
  have es : s = s' := by
    rw [hs] at t1
    exact (nI_eq (by omega) (by omega)).mp t1
  subst es
  rw [f_oLearn]
  split
  · exact ⟨G, h, ho⟩
  · obtain ⟨⟨_, _, a7⟩, _⟩ := h.R hr
    obtain ⟨h1, mo1⟩ := h.know (y := I 84 r ||| (nI 1 <<< (nI s &&& 31))) hr (fun t t1 t2 z => by
      rw [bt_or1 (by omega) (by omega), Bool.or_eq_true, decide_eq_true_eq] at z
      rcases z with z | z
      · exact a7 t t1 t2 z
      · rw [z]; exact t4)
    obtain ⟨G2, h2, i2, i3⟩ := h1.go hr ((x_u_ne _ _ (by omega)).trans he) he2 h1.wf
    exact FI.mk (r := r) h ho h2 ((Ie.mo h mo1).trans i2) (fun _ => i3)
/-- the conditions under which a vote counts -/
theorem f_vot_c {s e : Nat} (h : ¬ (!(f_camp I r) || (decide (I 74 32 ≠ I 87 r) || (decide (s ≤ e) || (f_know I r s || decide (I 91 (25 * r + s) < 0))))) = true) : f_camp I r = true ∧ I 74 32 = I 87 r ∧ e < s ∧ f_know I r s = false ∧ 0 ≤ I 91 (25 * r + s) := by
  simp only [Bool.or_eq_true, Bool.not_eq_true', decide_eq_true_eq, not_or, Bool.not_eq_false, Bool.not_eq_true, Classical.not_not, Int32.not_lt, Nat.not_le] at h
  exact ⟨h.1, h.2.1, h.2.2.1, h.2.2.2.1, h.2.2.2.2⟩
theorem Inv.vot1 (h : Inv B n I G) (hr : r < 5) {j s : Nat} (hj : j < 5) (h31 : I 74 31 = nI j) (hs : s < 25) (hv : 0 < I 87 r → 0 ≤ I 91 (25 * r + s) → (1 ≤ s ∧ s ≤ 24) ∧ G.2 j (I 87 r) s) : Inv B n (f_oVot1 I r s) G ∧ Mo n I G (f_oVot1 I r s) G r := by
  rw [f_oVot1, h31]
  refine h.wtr hr hs (fun z1 z2 i hi hb => ?_)
  obtain ⟨⟨s1, s2⟩, hv2⟩ := hv z1 z2
  rw [bt_or1 (by omega) (by omega), Bool.or_eq_true, decide_eq_true_eq] at hb
  rcases hb with hb | hb
  · exact (((h.R hr).2.2.2.2.2 z1).2.2 s s1 s2).2.2.2.1 z2 i hi hb
  · rw [hb]; exact hv2
theorem FI.oVot (h : Inv B n I G) (ho : ∀ r, r < 5 → iE I r) (hr : r < 5) {j s e : Nat} (hm : RM B I G 4 j) (hs : I 74 33 = nI s) (hs2 : s ≤ 24) (he : I 83 r = nI e) (he2 : e ≤ 24) : FI B n (f_oVot I r s e) := by
  obtain ⟨hj, h31, _, _, _, m4, _⟩ := hm
  obtain ⟨s', t1, t2⟩ := m4 rfl
  obtain ⟨_, _, c', t3⟩ := h.A _ _ _ t2
  obtain ⟨_, t5, t6, _⟩ := h.Bq _ _ _ t3
  have es : s = s' := by
    rw [hs] at t1
    exact (nI_eq (by omega) (by omega)).mp t1
  subst es
  rw [f_oVot]
  split
  · exact ⟨G, h, ho⟩
  · rename_i hc
    obtain ⟨c1, c2, c3, c4, c5⟩ := f_vot_c hc
    have c1' := c1
    rw [f_camp, Bool.and_eq_true, decide_eq_true_eq, decide_eq_true_eq] at c1'
    rw [c2] at t2
    obtain ⟨h1, mo1⟩ := h.vot1 hr hj h31 (by omega) (fun _ _ => ⟨⟨t5, hs2⟩, t2⟩)
    obtain ⟨f, e', p', a1, a2, a3, a4, a5, a6, a7, a8⟩ := h.e hr
    have ee : e = e' := by
      rw [a2] at he
      exact ((nI_eq (by omega) (by omega)).mp he).symm
    subst ee
    have hps := ((h.R hr).2.2.2.2.2 c1'.1).2.2 s t5 hs2
    have hs3 : s ≤ e + 3 := hps.2.2.2.2 c5 e he2 he
    have u : ∀ a i, a ≠ 92 → f_oVot1 I r s a i = I a i := fun a i z => f_oVot1_o I r s z
    have h1p : prD (f_oVot1 I r s) e := fun t t1 t2 => by rw [u 80 _ (by decide)]; exact a6 t t1 t2
    have hmm : f_mem (f_oVot1 I r s) e s = mM (f_oVot1 I r s) s := f_mem_m h1.rq h1.ch he2 h1p hs3
    have o : ∀ a i, a < 104 → f_rp (f_oVot1 I r s) e a i = f_oVot1 I r s a i := fun a i ha => f_rp_o _ (by omega) e i
    have h2 := h1.rp e
    have i2 : Ie r I (f_rp (f_oVot1 I r s) e) := (Ie.mo h mo1).trans (Ie.sm h1 (fun a i z => o a i (by omega)))
    split
    · rename_i hj
      rw [hmm] at hj
      have hP : G.1 (I 87 r) s = some (I 91 (25 * r + s)) := (hps.1 _).mpr ⟨c5, rfl⟩
      have hvv : ∀ a, a < 5 → bt (f_oVot1 I r s 92 (25 * r + s)) a = true → G.2 a (I 87 r) s := fun a ha hb => by
        have := (((h1.R hr).2.2.2.2.2 (by rw [u 87 _ (by decide)]; exact c1'.1)).2.2 s t5 hs2).2.2.2.1 (by rw [u 91 _ (by decide)]; exact c5) a ha hb
        rw [u 87 _ (by decide)] at this
        exact this
      have e80 : f_rp (f_oVot1 I r s) e 80 s = I 80 s := (o _ _ (by decide)).trans (u _ _ (by decide))
      have hj2 : f_maj (f_oVot1 I r s 92 (25 * r + s)) (mM (f_rp (f_oVot1 I r s) e) s) = true := by
        rw [mM_same (fun a i z => o a i (by omega))]
        exact hj
      obtain ⟨h3, i3, d3⟩ : Inv B n (f_oVot2 I r s e) G ∧ Ie r I (f_oVot2 I r s e) ∧ 0 ≤ f_oVot2 I r s e 80 s := by
        rw [f_oVot2]
        split
        · rename_i z
          exact ⟨h2, i2, by rw [e80]; exact z⟩
        · rename_i z
          obtain ⟨h3, m3⟩ := h2.choose (by rw [e80]; exact z) hP hj2 hvv
          exact ⟨h3, i2.trans (Ie.m5 h2 m3), by rw [x_u_eq]; exact c5⟩
      have v : ∀ a i, a ≠ 92 → a ≠ 80 → a < 104 → f_oVot2 I r s e a i = I a i := fun a i z1 z2 z3 => f_oVot2_o I r s e ⟨z1, z2, z3⟩
      obtain ⟨h4, m4⟩ := h3.know (y := I 84 r ||| (nI 1 <<< (nI s &&& 31))) hr (fun t t1 t2 z => by
        rw [bt_or1 (by omega) (by omega), Bool.or_eq_true, decide_eq_true_eq] at z
        rcases z with z | z
        · rw [← v 84 r (by decide) (by decide) (by decide)] at z
          exact (h3.R hr).1.2.2 t t1 t2 z
        · rw [z]; exact d3)
      have i4 := i3.trans (Ie.mo h3 m4)
      have e4 : f_oVot3 I r s e 80 s = f_oVot2 I r s e 80 s := x_u_ne _ _ (by omega)
      have h5 := Inv.ma (x := nI 31) (b := nI 0) (m := nI s) (c := f_oVot2 I r s e 80 s) (k := 5) (I := f_oVot3 I r s e) h4 (by decide) (by decide) (by decide) hr ⟨fun z => by omega, fun z => by omega, fun z => by omega, fun z => by omega, fun _ => ⟨s, rfl, t5, hs2, by rw [e4]; exact d3, e4.symm⟩, fun z => by omega, fun z => by omega⟩ 5 (by decide)
      have i5 : Ie r I (f_oVot4 I r s e) := i4.trans (Ie.sm h4 (fun a i z => f_ma_o _ _ _ _ _ _ (by omega) (by omega) 5))
      have e5 : f_oVot4 I r s e 83 r = nI e := by
        rw [f_oVot4, f_ma_o _ _ _ _ _ _ (by decide) (Or.inl (by decide)), f_oVot3, x_u_ne _ _ (by omega), v 83 _ (by decide) (by decide) (by decide)]
        exact he
      obtain ⟨G6, h6, i6, k6⟩ := Inv.go (I := f_oVot4 I r s e) h5 hr e5 he2 h5.wf
      exact FI.mk (r := r) h ho h6 (i5.trans i6) (fun _ => k6)
    · refine FI.mk (r := r) h ho h2 i2 (fun _ => ?_)
      refine iE.sm (I := f_oVot1 I r s) ?_ (fun a i z => o a i (by omega))
      exact (ho r hr).c (mM_same (fun a i z => u a i (by omega))) (u _ _ (by decide)) (u _ _ (by decide)) (u _ _ (by decide)) (u _ _ (by decide)) (u _ _ (by decide)) (fun t _ _ => ⟨u _ _ (by decide), fun z => by rw [u _ _ (by decide)] at z; exact z⟩)
theorem FI.oProm (h : Inv B n I G) (ho : ∀ r, r < 5 → iE I r) (hr : r < 5) {j f e : Nat} (hm : RM B I G 2 j) (hf : I 74 35 = nI f) (hf2 : f ≤ 24) (he : I 83 r = nI e) (he2 : e ≤ 24) : FI B n (f_oProm I r f e) := by
  obtain ⟨hj, h31, _, m2, _⟩ := hm
  obtain ⟨_, l1, f', l2, l3, l4, l5⟩ := m2 rfl
  have ef : f = f' := by
    rw [hf] at l2
    exact (nI_eq (by omega) (by omega)).mp l2
  subst ef
  rw [f_oProm]
  split
  · rename_i hc
    rw [Bool.and_eq_true, decide_eq_true_eq] at hc
    obtain ⟨h1, i1⟩ := FI.inst h hr hf2 l4
    have e1 := f_inst_e (r := r) (f := f) he
    have u : ∀ a i, a < 82 ∨ 86 < a → f_inst I r f a i = I a i := fun a i z => f_inst_o I r f z
    have hie : f_ie I r f e ≤ 24 ∧ f ≤ f_ie I r f e := by
      rw [f_ie]
      split
      · rename_i z
        rw [he] at z
        exact ⟨he2, (nI_leI (by omega) (by omega)).mp z⟩
      · exact ⟨hf2, Nat.le_refl _⟩
    obtain ⟨h2, mo2⟩ := h1.sup (j := j) (f := f) hr hj e1 hie.1 hie.2 (by rw [u 87 _ (by decide), u 81 _ (by decide), ← hc.2]; exact l1) (fun s s1 s2 => by
      rw [u 102 _ (by decide), u 103 _ (by decide), u 87 _ (by decide), ← hc.2]
      exact l5 s s1 s2)
    rw [u 88 _ (by decide)] at h2 mo2
    have i2 := i1.trans (Ie.mo h1 mo2)
    have e2 : f_oProm1 I r f = f_mg (x_u (f_inst I r f) 88 r (I 88 r ||| (nI 1 <<< (nI j &&& 31)))) r 24 := by rw [f_oProm1, h31]
    rw [← e2] at h2 i2
    have e3 : f_oProm1 I r f 83 r = nI (f_ie I r f e) := by
      rw [f_oProm1, f_mg_o _ _ (by decide), x_u_ne _ _ (by omega)]
      exact e1
    obtain ⟨G3, h3, i3, k3⟩ := h2.go hr e3 hie.1 h2.wf
    exact FI.mk (r := r) h ho h3 (i2.trans i3) (fun _ => k3)
  · exact ⟨G, h, ho⟩
end HANDI
