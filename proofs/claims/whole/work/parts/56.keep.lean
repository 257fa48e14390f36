/-! the class's memory: what keeps it -/
def x_p {α : Type} (f : Nat → α) (r : Nat) (x : α) : Nat → α := fun s => if s = r then x else f s
theorem x_p_eq {α : Type} (f : Nat → α) (r : Nat) (x : α) : x_p f r x r = x := if_pos rfl
theorem x_p_ne {α : Type} (f : Nat → α) {r s : Nat} (x : α) (h : s ≠ r) : x_p f r x s = f s := if_neg h
section KEEP
variable {M M' : xM} {C C' : xCC}
theorem rep_s.ext (h : rep_s M C) {b : Nat} (he : Ext b M M') (hr : ∀ r, r < 5 → M'.2.2.2 (9 + 13 * r) 7 = M.2.2.2 (9 + 13 * r) 7 ∧ M'.2.2.2 (9 + 13 * r) 6 = M.2.2.2 (9 + 13 * r) 6) (h1 : ∀ r, r < 5 → C'.2.1 r = C.2.1 r) (h2 : ∀ r, r < 5 → C'.2.2.1 r = C.2.2.1 r) : rep_s M' C' := by
  intro r h5
  obtain ⟨⟨p, p1, p2⟩, q, q1, q2⟩ := h r h5
  obtain ⟨e1, e2⟩ := hr r h5
  rw [h1 r h5, h2 r h5, e1, e2]
  exact ⟨⟨p, p1, p2.ext he⟩, q, q1, q2.ext he⟩
theorem rep_q.ext (h : rep_q M C) {b : Nat} (he : Ext b M M') (hr : ∀ q, M'.2.2.2 2 q = M.2.2.2 2 q) (hi : ∀ a i, 108 ≤ a → M.1[a]? = some (false, 6, 5) → M'.2.1 a i = M.2.1 a i) (h1 : C'.1 1 1 = C.1 1 1) (h2 : C'.2.2.2.1 = C.2.2.2.1) : rep_q M' C' := by
  obtain ⟨n, qa, n1, n2, n3, n4⟩ := h
  refine ⟨n, qa, n1, h1.trans n2, fun q a b => ?_, n4⟩
  obtain ⟨e1, e2, e3, e4, e5⟩ := n3 q a b
  rw [h2, hr]
  exact ⟨e1, x_pre he.1.1 e2, e3, fun i => (hi _ i e3 e2).trans (e4 i), e5⟩
theorem rep_n.ext (h : rep_n M C) {b : Nat} (he : Ext b M M') (hr : ∀ i, M'.2.2.2 4 i = M.2.2.2 4 i) (h1 : C'.1 3 1 = C.1 3 1) (h2 : C'.2.2.2.2 = C.2.2.2.2) : rep_n M' C' := by
  obtain ⟨w, w1, w2, w3⟩ := h
  refine ⟨w, w1, h1.trans w2, fun i hi => ?_⟩
  obtain ⟨a, a1, a2⟩ := w3 i hi
  rw [h2, hr]
  exact ⟨a, a1, a2.ext he⟩
theorem Rp.int (h : Rp M C) {J' J'' : xI} (h0 : ∀ a i, a < 74 → J' a i = J'' a i) (h1 : ∀ a i, 6 ≤ a ∧ a ≤ 8 ∨ 74 ≤ a → J' a i = M.2.1 a i) (h2 : J'' 1 1 = C.1 1 1) (h3 : J'' 3 1 = C.1 3 1) (h4 : ∀ r, r < 5 → J'' (9 + 13 * r) 0 = C.1 (9 + 13 * r) 0) : Rp (M.1, J', M.2.2) (J'', C.2) ∧ Ext 0 M (M.1, J', M.2.2) := by
  have he : Ext 0 M (M.1, J', M.2.2) := ⟨⟨List.prefix_refl _, fun a _ ha _ i => ⟨h1 a i ha, rfl, rfl⟩⟩, Nat.le_refl _, Nat.le_refl _⟩
  obtain ⟨a1, a2, a3, a4, a5, a6, a7⟩ := h
  exact ⟨⟨h0, a2, a3, a4.ext he (fun _ _ => ⟨rfl, rfl⟩) (fun _ _ => rfl) (fun _ _ => rfl), a5.ext he (fun _ => rfl) (fun a i ha _ => h1 a i (Or.inr (by omega))) h2 rfl, a6.ext he (fun _ => rfl) h3 rfl, fun r hr => (h4 r hr).trans (a7 r hr)⟩, he⟩
theorem Rp.grow {b : Nat} (h : Rp M C) (hk : M.1 <+: M'.1) (hb1 : M'.1.length ≤ M.1.length + b) (hb2 : x_sz M' ≤ x_sz M + 41 * b) (hs : ∀ a i, a < M.1.length → M'.2.1 a i = M.2.1 a i ∧ M'.2.2.1 a i = M.2.2.1 a i ∧ M'.2.2.2 a i = M.2.2.2 a i) : Rp M' C ∧ Ext b M M' := by
  have he : Ext b M M' := ⟨⟨hk, fun a ha _ _ i => hs a i ha⟩, hb1, hb2⟩
  obtain ⟨a1, a2, a3, a4, a5, a6, a7⟩ := h
  have hl : M.1.length ≤ M'.1.length := hk.length_le
  exact ⟨⟨fun a i ha => (hs a i (by omega)).1.trans (a1 a i ha), by omega, a3.ext he (fun a i ha _ _ _ => (hs a i (by omega)).2.2), a4.ext he (fun r hr => ⟨(hs _ _ (by omega)).2.2, (hs _ _ (by omega)).2.2⟩) (fun _ _ => rfl) (fun _ _ => rfl), a5.ext he (fun q => (hs _ _ (by omega)).2.2) (fun a i _ hq => (hs a i (x_lt hq)).1) rfl rfl, a6.ext he (fun i => (hs _ _ (by omega)).2.2) rfl rfl, a7⟩, he⟩
theorem ext_R {a j : Nat} {x : Option Nat} (ha : a < 74) (hb : ¬ (6 ≤ a ∧ a ≤ 8)) : Ext 0 M (M.1, M.2.1, M.2.2.1, x_u M.2.2.2 a j x) :=
  ⟨⟨List.prefix_refl _, fun b _ hb' _ i => ⟨rfl, rfl, x_u_ne _ _ (by omega)⟩⟩, Nat.le_refl _, Nat.le_refl _⟩
theorem Rp.pres (h : Rp M C) {r p : Nat} {S : xS} (hr : r < 5) (hs : stA M p S) : Rp (M.1, M.2.1, M.2.2.1, x_u M.2.2.2 (9 + 13 * r) 7 (some p)) (C.1, x_p C.2.1 r S, C.2.2) ∧ Ext 0 M (M.1, M.2.1, M.2.2.1, x_u M.2.2.2 (9 + 13 * r) 7 (some p)) := by
  have he : Ext 0 M (M.1, M.2.1, M.2.2.1, x_u M.2.2.2 (9 + 13 * r) 7 (some p)) := ext_R (by omega) (by omega)
  obtain ⟨a1, a2, a3, a4, a5, a6, a7⟩ := h
  refine ⟨⟨a1, a2, a3.ext he (fun a i ha h2 h4 h6 => x_u_ne _ _ (fun q => (h6 r hr q.1).2 q.2)), fun r' hr' => ?_, a5.ext he (fun q => x_u_ne _ _ (by omega)) (fun _ _ _ _ => rfl) rfl rfl, a6.ext he (fun q => x_u_ne _ _ (by omega)) rfl rfl, a7⟩, he⟩
  obtain ⟨⟨p', p1, p2⟩, q, q1, q2⟩ := a4 r' hr'
  refine ⟨?_, q, (x_u_ne _ _ (by omega)).trans q1, q2.ext he⟩
  by_cases e : r' = r
  · subst e
    exact ⟨p, x_u_eq _ _ _ _, by show stA _ _ (x_p C.2.1 r' S r'); rw [x_p_eq]; exact hs.ext he⟩
  · exact ⟨p', (x_u_ne _ _ (by omega)).trans p1, by show stA _ _ (x_p C.2.1 r S r'); rw [x_p_ne _ _ e]; exact p2.ext he⟩
theorem Rp.snap (h : Rp M C) {r p : Nat} {S : xS} (hr : r < 5) (hs : stA M p S) : Rp (M.1, M.2.1, M.2.2.1, x_u M.2.2.2 (9 + 13 * r) 6 (some p)) (C.1, C.2.1, x_p C.2.2.1 r S, C.2.2.2) ∧ Ext 0 M (M.1, M.2.1, M.2.2.1, x_u M.2.2.2 (9 + 13 * r) 6 (some p)) := by
  have he : Ext 0 M (M.1, M.2.1, M.2.2.1, x_u M.2.2.2 (9 + 13 * r) 6 (some p)) := ext_R (by omega) (by omega)
  obtain ⟨a1, a2, a3, a4, a5, a6, a7⟩ := h
  refine ⟨⟨a1, a2, a3.ext he (fun a i ha h2 h4 h6 => x_u_ne _ _ (fun q => (h6 r hr q.1).1 q.2)), fun r' hr' => ?_, a5.ext he (fun q => x_u_ne _ _ (by omega)) (fun _ _ _ _ => rfl) rfl rfl, a6.ext he (fun q => x_u_ne _ _ (by omega)) rfl rfl, a7⟩, he⟩
  obtain ⟨⟨p', p1, p2⟩, q, q1, q2⟩ := a4 r' hr'
  refine ⟨⟨p', (x_u_ne _ _ (by omega)).trans p1, p2.ext he⟩, ?_⟩
  by_cases e : r' = r
  · subst e
    exact ⟨p, x_u_eq _ _ _ _, by show stA _ _ (x_p C.2.2.1 r' S r'); rw [x_p_eq]; exact hs.ext he⟩
  · exact ⟨q, (x_u_ne _ _ (by omega)).trans q1, by show stA _ _ (x_p C.2.2.1 r S r'); rw [x_p_ne _ _ e]; exact q2.ext he⟩
/-- how many wait; how many have asked -/
def c_w (C : xCC) : Nat := (C.1 3 1).toNatClampNeg
def c_n (C : xCC) : Nat := (C.1 1 1).toNatClampNeg
theorem Rp.w (h : Rp M C) : C.1 3 1 = nI (c_w C) ∧ c_w C ≤ 32 ∧ ∀ i, i < c_w C → ∃ a, M.2.2.2 4 i = some a ∧ mgA M a (C.2.2.2.2 i) := by
  obtain ⟨w, w1, w2, w3⟩ := h.2.2.2.2.2.1
  have e : c_w C = w := by rw [c_w, w2]; exact nI_clamp (by omega)
  rw [e]
  exact ⟨w2, w1, w3⟩
theorem Rp.n (h : Rp M C) : C.1 1 1 = nI (c_n C) ∧ c_n C ≤ 40 ∧ ∃ qa : Nat → Nat, (∀ q, 1 ≤ q → q ≤ c_n C → M.2.2.2 2 q = some (qa q) ∧ M.1[qa q]? = some (false, 6, 5) ∧ 108 ≤ qa q ∧ (∀ i, M.2.1 (qa q) i = C.2.2.2.1 q i) ∧ rqO (C.2.2.2.1 q)) ∧ ∀ q q', 1 ≤ q → q ≤ c_n C → 1 ≤ q' → q' ≤ c_n C → qa q = qa q' → q = q' := by
  obtain ⟨n, qa, w1, w2, w3, w4⟩ := h.2.2.2.2.1
  have e : c_n C = n := by rw [c_n, w2]; exact nI_clamp (by omega)
  rw [e]
  exact ⟨w2, w1, qa, w3, w4⟩
def c_put (C : xCC) (m : xG) : xCC := if c_w C < 32 then (x_u C.1 3 1 (nI (c_w C + 1)), C.2.1, C.2.2.1, C.2.2.2.1, x_p C.2.2.2.2 (c_w C) m) else C
theorem Rp.put (h : Rp M C) {a : Nat} {m : xG} (hm : mgA M a m) (hw : c_w C < 32) : Rp (M.1, x_u M.2.1 3 1 (nI (c_w C + 1)), M.2.2.1, x_u M.2.2.2 4 (c_w C) (some a)) (c_put C m) ∧ Ext 0 M (M.1, x_u M.2.1 3 1 (nI (c_w C + 1)), M.2.2.1, x_u M.2.2.2 4 (c_w C) (some a)) := by
  have he : Ext 0 M (M.1, x_u M.2.1 3 1 (nI (c_w C + 1)), M.2.2.1, x_u M.2.2.2 4 (c_w C) (some a)) := ⟨⟨List.prefix_refl _, fun b _ hb' _ i => ⟨x_u_ne _ _ (by omega), rfl, x_u_ne _ _ (by omega)⟩⟩, Nat.le_refl _, Nat.le_refl _⟩
  obtain ⟨w2, w1, w3⟩ := h.w
  obtain ⟨a1, a2, a3, a4, a5, a6, a7⟩ := h
  rw [c_put, if_pos hw]
  have hJ : ∀ b i, b ≠ 3 → x_u M.2.1 3 1 (nI (c_w C + 1)) b i = M.2.1 b i := fun b i hb => x_u_ne _ _ (fun q => hb q.1)
  have hC : ∀ b i, b ≠ 3 → x_u C.1 3 1 (nI (c_w C + 1)) b i = C.1 b i := fun b i hb => x_u_ne _ _ (fun q => hb q.1)
  have hR : ∀ b i, b ≠ 4 → x_u M.2.2.2 4 (c_w C) (some a) b i = M.2.2.2 b i := fun b i hb => x_u_ne _ _ (fun q => hb q.1)
  refine ⟨⟨fun b i hb => ?_, a2, a3.ext he (fun b i hb h2 h4 h6 => hR b i h4), a4.ext he (fun r hr => ⟨hR (9 + 13 * r) 7 (by omega), hR (9 + 13 * r) 6 (by omega)⟩) (fun _ _ => rfl) (fun _ _ => rfl), a5.ext he (fun q => hR 2 q (by decide)) (fun b i hb _ => hJ b i (by omega)) (hC 1 1 (by decide)) rfl, ⟨c_w C + 1, by omega, x_u_eq C.1 3 1 (nI (c_w C + 1)), fun i hi => ?_⟩, fun r hr => (hC (9 + 13 * r) 0 (by omega)).trans (a7 r hr)⟩, he⟩
  · simp only [x_u]
    split
    · rfl
    · exact a1 b i hb
  · by_cases e : i = c_w C
    · subst e
      exact ⟨a, x_u_eq _ _ _ _, by show mgA _ _ (x_p C.2.2.2.2 (c_w C) m (c_w C)); rw [x_p_eq]; exact hm.ext he⟩
    · obtain ⟨b, b1, b2⟩ := w3 i (by omega)
      exact ⟨b, (x_u_ne _ _ (by omega)).trans b1, by show mgA _ _ (x_p C.2.2.2.2 (c_w C) m i); rw [x_p_ne _ _ e]; exact b2.ext he⟩
def c_hr (C : xCC) (q : Nat) (x : Int32) : xCC := (C.1, C.2.1, C.2.2.1, x_p C.2.2.2.1 q (x_p (x_p (C.2.2.2.1 q) 3 x) 4 (C.2.2.2.1 q 4 + nI 1)), C.2.2.2.2)
theorem Rp.hear (h : Rp M C) {q a : Nat} (x : Int32) (h1 : 1 ≤ q) (h2 : q ≤ c_n C) (ha : M.2.2.2 2 q = some a) : Rp (M.1, c_hear M.2.1 a x, M.2.2) (c_hr C q x) ∧ Ext 0 M (M.1, c_hear M.2.1 a x, M.2.2) := by
  obtain ⟨w2, w1, qa, w3, w4⟩ := h.n
  obtain ⟨e1, e2, e3, e4, e5⟩ := w3 q h1 h2
  have hqa : qa q = a := by rw [ha] at e1; exact (Option.some.inj e1).symm
  rw [hqa] at e2 e3 e4
  have ho : ∀ b i, b ≠ a → c_hear M.2.1 a x b i = M.2.1 b i := fun b i hb => by rw [c_hear, x_u_ne _ _ (by omega), x_u_ne _ _ (by omega)]
  have he : Ext 0 M (M.1, c_hear M.2.1 a x, M.2.2) := ⟨⟨List.prefix_refl _, fun b _ hb' hk i => ⟨ho b i (fun q => hk (q ▸ e2)), rfl, rfl⟩⟩, Nat.le_refl _, Nat.le_refl _⟩
  obtain ⟨a1, a2, a3, a4, a5, a6, a7⟩ := h
  refine ⟨⟨fun b i hb => (ho b i (by omega)).trans (a1 b i hb), a2, a3, a4.ext he (fun _ _ => ⟨rfl, rfl⟩) (fun _ _ => rfl) (fun _ _ => rfl), ⟨c_n C, qa, w1, w2, fun q' b1 b2 => ?_, w4⟩, a6.ext he (fun _ => rfl) rfl rfl, a7⟩, he⟩
  obtain ⟨g1, g2, g3, g4, g5⟩ := w3 q' b1 b2
  by_cases e : q' = q
  · subst e
    refine ⟨g1, g2, g3, fun i => ?_, ?_⟩
    · rw [hqa]
      show c_hear M.2.1 a x a i = x_p C.2.2.2.1 q' (x_p (x_p (C.2.2.2.1 q') 3 x) 4 (C.2.2.2.1 q' 4 + nI 1)) q' i
      rw [x_p_eq]
      simp only [c_hear, x_u, x_p, e4, true_and]
    · show rqO (x_p C.2.2.2.1 q' (x_p (x_p (C.2.2.2.1 q') 3 x) 4 (C.2.2.2.1 q' 4 + nI 1)) q')
      rw [x_p_eq]
      exact g5
  · refine ⟨g1, g2, g3, fun i => ?_, ?_⟩
    · rw [show (c_hr C q x).2.2.2.1 q' = C.2.2.2.1 q' from x_p_ne _ _ e]
      exact (ho _ i (fun z => e (w4 q' q b1 b2 h1 h2 (z.trans hqa.symm)))).trans (g4 i)
    · rw [show (c_hr C q x).2.2.2.1 q' = C.2.2.2.1 q' from x_p_ne _ _ e]
      exact g5
end KEEP
