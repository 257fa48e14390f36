/-! the answers of the reads are the same on both sides -/
section ANSW
variable {B n : Nat} {C : xCC} {I : xI} {G : xGh} {r : Nat}
theorem RelP.up (h : RelP C I) (hr : r < 5) : C.1 (9 + 13 * r) 3 = bI (f_bit (I 74 7) (nI r)) := by
  rw [fb_bt (by omega)]
  exact (h.R hr).1
theorem an_up {x : Int32} (hr : r < 5) : x >>> (nI r &&& 31) &&& nI 1 = bI (f_bit x (nI r)) := by
  rw [bt_shr1 (by omega), fb_bt (by omega)]
  cases bt x r <;> rfl
theorem RelP.an4 (h : RelP C I) (hi : Inv B n I G) (hr : r < 5) : (if c_cmpg C.1 (9 + 13 * r) = true then C.1 (9 + 13 * r + 6) 0 else nI 0) = (if f_camp I r = true then I 87 r else nI 0) ∧ (if c_cmpg C.1 (9 + 13 * r) = true then C.1 (9 + 13 * r + 6) 1 else nI 0) = (if f_camp I r = true then I 88 r else nI 0) := by
  rw [h.cmp hi hr]
  by_cases hc : f_camp I r = true
  · rw [if_pos hc, if_pos hc, if_pos hc, if_pos hc]
    rw [f_camp, Bool.and_eq_true, decide_eq_true_eq] at hc
    obtain ⟨_, _, _, _, _, b3⟩ := h.R hr
    rcases b3 with b3 | b3
    · rw [b3.1] at hc
      exact (i_irr hc.1).elim
    · exact ⟨b3.2.1, b3.2.2.1⟩
  · rw [if_neg hc, if_neg hc, if_neg hc, if_neg hc]
    exact ⟨rfl, rfl⟩
theorem RelP.an5 (h : RelP C I) (hi : Inv B n I G) (hr : r < 5) {e : Nat} (he : I 83 r = nI e) (he2 : e ≤ 24) : (c_cmpg C.1 (9 + 13 * r) && c_sp C r (sl (C.2.1 r) + 1)) = (f_camp I r && f_maj (I 88 r) (f_mem I e (e + 1))) := by
  obtain ⟨e1, e2, e3⟩ := h.e hi hr he he2
  rw [h.cmp hi hr, e2]
  by_cases hc : f_camp I r = true
  · rw [hc, Bool.true_and, Bool.true_and]
    rw [f_camp, Bool.and_eq_true, decide_eq_true_eq] at hc
    exact h.sp hi hr hc.1 he he2 (by omega) (by omega)
  · have hc' : f_camp I r = false := Bool.not_eq_true _ ▸ hc
    rw [hc', Bool.false_and, Bool.false_and]
theorem RelP.an6 (h : RelP C I) (hi : Inv B n I G) (hr : r < 5) {e : Nat} (he : I 83 r = nI e) (he2 : e ≤ 24) : s_mo (C.2.1 r) (sl (C.2.1 r) + 1) = f_mem I e (e + 1) := by
  obtain ⟨e1, e2, e3⟩ := h.e hi hr he he2
  rw [e2, e1, f_mem_m hi.rq hi.ch he2 e3 (by omega)]
  exact PS_mo (PS_ok hi.rq hi.ch e he2 e3).2 (by omega) (by omega)
theorem RelP.anv (h : RelP C I) (hi : Inv B n I G) (hr : r < 5) {e ky : Nat} (he : I 83 r = nI e) (he2 : e ≤ 24) (hk : ky < 4) : (C.2.1 r).1 1 ky = f_rp I e 104 ky := by
  obtain ⟨e1, e2, e3⟩ := h.e hi hr he he2
  rw [e1]
  exact ((Lk_all hi.rq hi.ch e he2 e3).1 ky hk).symm
theorem RelP.ant (h : RelP C I) (hr : r < 5) {s : Nat} (s1 : 1 ≤ s) (s2 : s ≤ 24) : (if C.1 (9 + 13 * r + 2) s = 0 then nI 0 else nI 64 * C.1 (9 + 13 * r + 2) s + C.1 (9 + 13 * r + 3) s) = f_vote I r s := by
  obtain ⟨_, _, _, _, b2, _⟩ := h.R hr
  obtain ⟨k1, k2⟩ := b2 s s1 s2
  rw [f_vote, k1]
  by_cases z : I 85 (25 * r + s) = 0
  · rw [if_pos z, if_pos z]
  · rw [if_neg z, if_neg z, k2 z]
theorem f_cnt_v {g : Nat → Int32} {J : xI} {v : Nat} : ∀ m, m ≤ 24 → (∀ s, 1 ≤ s → s ≤ m → J (v + 1) s = g s ∧ 0 ≤ g s) → ∀ F : Nat → Int32, F 0 = nI 0 → (∀ s, s < m → F (s + 1) = F s + (if g (s + 1) ≤ 0 then nI 0 else nI 1)) → F m = nI (c_vn J v m) := by
  intro m
  induction m with
  | zero => intro _ _ F h0 _; exact h0
  | succ m ih =>
    intro hm hg F h0 hF
    have i1 := ih (by omega) (fun s a b => hg s a (by omega)) F h0 (fun s hs => hF s (by omega))
    obtain ⟨g1, g2⟩ := hg (m + 1) (by omega) (by omega)
    have e1 : J (v + 1) (1 + m) = g (m + 1) := by rw [Nat.add_comm 1 m]; exact g1
    rw [hF m (by omega), i1, c_vn, c_vh, c_sl_t.mpr ⟨by omega, by omega⟩, Bool.true_and, e1]
    by_cases z : g (m + 1) = 0
    · rw [if_pos (by rw [z]; exact Int32.le_refl _), decide_eq_false (fun y => y z), if_neg (by decide), nI_add]
      rfl
    · rw [if_neg (fun y => z (Int32.toInt_inj.mp (by rw [Int32.le_iff_toInt_le] at y g2; omega))), decide_eq_true z, if_pos rfl, nI_add]
theorem RelP.anc (h : RelP C I) (hi : Inv B n I G) (hr : r < 5) {e : Nat} (he2 : e ≤ 24) : (f_cut I r e).2 = nI (c_vn C.1 (9 + 13 * r + 1) e) := by
  obtain ⟨_, _, _, _, b2, _⟩ := h.R hr
  refine f_cnt_v (g := fun s => I 85 (25 * r + s)) e he2 (fun s s1 s2 => ⟨(b2 s s1 (by omega)).1, ((hi.R hr).2.1.2 s s1 (by omega)).1⟩) (fun m => (f_fg (x_u I 82 r (nI e)) r m).2) rfl (fun s hs => ?_)
  have k := (f_fg_at (x_u I 82 r (nI e)) r s (by omega)).1 85 (25 * r + (s + 1)) (Or.inl rfl)
  rw [if_neg (by omega), x_u_ne _ _ (by omega)] at k
  show (f_fg (x_u I 82 r (nI e)) r (s + 1)).2 = _
  rw [f_fg, k]
theorem RelP.anl (h : RelP C I) (hi : Inv B n I G) {i : Nat} {V : Nat → Nat → Int32} (hw : i < f_w I) (hk : I 93 i = nI 2) (hV : (C.2.2.2.2 i).2.1 = some V) : f_ld2 I i 25 = nI (c_vn V 0 24) := by
  obtain ⟨k, j, t, a1, a2, a3, a4, a5, a6, a7, a8⟩ := hi.2.2.2.2.2 i hw
  have k2 : k = 2 := (nI_eq (by omega) (by decide)).mp (a5.symm.trans hk)
  obtain ⟨z0, _, f, _, _, _, l5⟩ := a8.2.1 k2
  obtain ⟨_, _, _, _, _, _, q7, _⟩ := h.2.2.2 i hw
  obtain ⟨_, V', w1, w2⟩ := q7 hk
  have eV : V' = V := Option.some.inj (w1.symm.trans hV)
  subst eV
  refine f_cnt_v (J := V') (v := 0) (g := fun s => I 100 (25 * i + s)) 24 (Nat.le_refl _) (fun s s1 s2 => ⟨(w2 s s1 s2).1, (l5 s s1 s2).1⟩) (fun m => f_ld2 I i (m + 1)) ?_ (fun s hs => rfl)
  show f_ld2 I i 0 + (if I 100 (25 * i + 0) ≤ 0 then nI 0 else nI 1) = nI 0
  rw [if_pos (by rw [show I 100 (25 * i + 0) = 0 from z0]; exact Int32.le_refl _)]
  rfl
theorem RelP.an8 (h : RelP C I) (hi : Inv B n I G) {i : Nat} {S : xS} (hw : i < f_w I) (hk : I 93 i = nI 8) (hS : (C.2.2.2.2 i).2.2 = some S) : ∃ f, I 97 i = nI f ∧ f ≤ 24 ∧ f_ld8 (f_rp I f) 41 = x_bc S.2 := by
  obtain ⟨k, j, t, a1, a2, a3, a4, a5, a6, a7, a8⟩ := hi.2.2.2.2.2 i hw
  have k8 : k = 8 := (nI_eq (by omega) (by decide)).mp (a5.symm.trans hk)
  obtain ⟨f', l1, l2, l3⟩ := a8.2.2.2.2.2.2 k8
  obtain ⟨_, _, _, _, _, _, _, q8⟩ := h.2.2.2 i hw
  obtain ⟨f, f1, f2, f3⟩ := q8 hk
  have ef : f = f' := by
    rw [f1] at l2
    exact (nI_eq (by omega) (by omega)).mp l2
  subst ef
  have eS : S = PS I f := Option.some.inj (hS.symm.trans f3)
  exact ⟨f, f1, f2, by rw [eS]; exact Lk_cnt (Lk_all hi.rq hi.ch f f2 l3)⟩
end ANSW
