/-! the invariant: steps that touch no replica; steps of one replica -/
section ATOM
variable {B n : Nat} {I I' : xI} {G G' : xGh} {r : Nat}
theorem Mo.q (h : ∀ a i, 80 ≤ a → a ≤ 92 → I' a i = I a i) (hq : ∀ q, 1 ≤ q → q ≤ n → I' 75 q = I 75 q ∧ I' 76 q = I 76 q ∧ I' 77 q = I 77 q) : Mo n I G I' G r :=
  ⟨fun a _ => by rw [h 81 a (by decide) (by decide)]; exact Int32.le_refl _, fun _ _ _ z => z, fun _ _ _ z => z, fun _ _ _ z => Or.inl z, fun _ _ _ z => Or.inl z, fun s _ _ _ => h 80 s (by decide) (by decide), hq, fun r' _ _ => ⟨h _ _ (by decide) (by decide), h _ _ (by decide) (by decide), h _ _ (by decide) (by decide), h _ _ (by decide) (by decide), h _ _ (by decide) (by decide), h _ _ (by decide) (by decide), fun s _ => ⟨h _ _ (by decide) (by decide), h _ _ (by decide) (by decide), h _ _ (by decide) (by decide), h _ _ (by decide) (by decide), h _ _ (by decide) (by decide), h _ _ (by decide) (by decide)⟩⟩⟩
theorem Inv.quiet (h : Inv B n I G) {B' n' : Nat} (hN : iN n' I') (hnn : n ≤ n') (hBB : B ≤ B') (h8 : ∀ a i, 80 ≤ a → a ≤ 92 → I' a i = I a i) (hq : ∀ q, 1 ≤ q → q ≤ n → I' 75 q = I 75 q ∧ I' 76 q = I 76 q ∧ I' 77 q = I 77 q) (hM : ∀ i, i < f_w I' → iM B' I' G i) : Inv B' n' I' G :=
  h.step (r := 5) (Mo.q h8 hq) hN hnn hBB (fun a b s hv hn => absurd hv hn) (fun b s c hp hn => absurd hp hn) (fun s _ _ s3 s4 => absurd (by rw [h8 80 s (by decide) (by decide)] at s4; exact s4) s3) (fun z => absurd z (by decide)) hM
theorem mI_c {k j : Nat} {b m c u : Int32} {vb vc vb' vc' : Nat → Int32} (h : ∀ s, s < 25 → vb' s = vb s ∧ vc' s = vc s) (hm : mI B I G k j b m c u vb vc) : mI B I G k j b m c u vb' vc' := by
  obtain ⟨h1, h2, h3, h4, h5, h7, h8⟩ := hm
  refine ⟨h1, fun e => ?_, h3, h4, h5, h7, h8⟩
  obtain ⟨a0, a1, f, a2, a3, a4, a5⟩ := h2 e
  refine ⟨(h 0 (by decide)).1.trans a0, a1, f, a2, a3, a4, fun s s1 s2 => ?_⟩
  rw [(h s (by omega)).1, (h s (by omega)).2]
  exact a5 s s1 s2
theorem Mo.ms (h : Mo n I G I' G' r) {B' i j : Nat} (hB : B ≤ B') (he : mgE I I' i j) (hi : iM B I G i) : iM B' I' G' j := by
  obtain ⟨k, j', t, a1, a2, a3, a4, a5, a6, a7, a8⟩ := hi
  obtain ⟨e1, e2, e3, e4, e5, e6, e7, e8⟩ := he
  refine ⟨k, j', t, a1, a2, a3, a4, e1.trans a5, e2.trans a6, e3.trans a7, ?_⟩
  rw [e4, e5, e6, e7]
  exact mI_c (fun s hs => e8 s hs) (h.mg a3 hB a8)
theorem iN.sm (h : iN n I) (hc : ∀ a i, (a = 74 ∧ (i = 0 ∨ i = 20)) ∨ (75 ≤ a ∧ a ≤ 77) ∨ a = 80 → I' a i = I a i) : iN n I' := by
  obtain ⟨h1, ⟨h2, h3⟩, h4, h5, h6⟩ := h
  refine ⟨(hc 74 0 (by decide)).trans h1, ⟨h2, fun q q1 q2 => ?_⟩, fun s s1 s2 => ?_, f_wok_eq (hc 74 20 (by decide)) h5, fun q hq => ?_⟩
  · rw [hc 75 q (by omega), hc 76 q (by omega), hc 77 q (by omega)]
    exact h3 q q1 q2
  · rw [hc 80 s (by omega)]
    exact h4 s s1 s2
  · rw [hc 76 q (by omega)]
    exact h6 q hq
theorem f_w_eq (h : I' 74 20 = I 74 20) : f_w I' = f_w I := by rw [f_w, f_w, h]
theorem Inv.sm (h : Inv B n I G) (hc : ∀ a i, (a = 74 ∧ (i = 0 ∨ i = 20)) ∨ (75 ≤ a ∧ a ≤ 77) ∨ (80 ≤ a ∧ a ≤ 101) → I' a i = I a i) : Inv B n I' G :=
  h.quiet (h.1.sm (fun a i q => hc a i (by omega))) (Nat.le_refl _) (Nat.le_refl _) (fun a i h1 h2 => hc a i (by omega)) (fun q _ _ => ⟨hc _ _ (by omega), hc _ _ (by omega), hc _ _ (by omega)⟩) (fun i hi => (Mo.q (n := n) (r := 5) (fun a i h1 h2 => hc a i (by omega)) (fun q _ _ => ⟨hc _ _ (by omega), hc _ _ (by omega), hc _ _ (by omega)⟩)).ms (Nat.le_refl _) (mgE.of (fun a i h1 h2 => hc a i (by omega)) i) (h.2.2.2.2.2 i (by rw [f_w_eq (hc 74 20 (by decide))] at hi; exact hi)))
theorem Inv.ml (h : Inv B n I G) {k t : Nat} {b m c : Int32} (hk : 1 ≤ k) (hk2 : k ≤ 8) (hr : r < 5) (ht : t < 5) (hm : mI B I G k r b m c (if nI k = nI 2 then I 82 r else m) (f_mailV I 85 (nI k) r) (f_mailV I 86 (nI k) r)) : Inv B n (f_ml I (nI k) r (nI t) b m c) G := by
  have ho : ∀ a i, a < 93 ∨ 101 < a → a ≠ 74 ∨ (i ≠ 20 ∧ i ≠ 21) → f_ml I (nI k) r (nI t) b m c a i = I a i := fun a i h1 h2 => f_ml_o _ _ _ _ _ _ h1 h2
  have hq : ∀ q, 1 ≤ q → q ≤ n → f_ml I (nI k) r (nI t) b m c 75 q = I 75 q ∧ f_ml I (nI k) r (nI t) b m c 76 q = I 76 q ∧ f_ml I (nI k) r (nI t) b m c 77 q = I 77 q := fun q _ _ => ⟨ho _ _ (by omega) (by omega), ho _ _ (by omega) (by omega), ho _ _ (by omega) (by omega)⟩
  have h8 : ∀ a i, 80 ≤ a → a ≤ 92 → f_ml I (nI k) r (nI t) b m c a i = I a i := fun a i h1 h2 => ho _ _ (by omega) (by omega)
  obtain ⟨w1, w2⟩ := f_ml_w (nI k) r (nI t) b m c h.1.2.2.2.1
  have hmo : Mo n I G (f_ml I (nI k) r (nI t) b m c) G 5 := Mo.q h8 hq
  refine h.quiet ?_ (Nat.le_refl _) (Nat.le_refl _) h8 hq (fun i hi => ?_)
  · obtain ⟨a1, ⟨a2, a3⟩, a4, a5, a6⟩ := h.1
    refine ⟨(ho 74 0 (by omega) (by omega)).trans a1, ⟨a2, fun q q1 q2 => ?_⟩, fun s s1 s2 => ?_, w1, fun q hq' => ?_⟩
    · rw [(hq q q1 q2).1, (hq q q1 q2).2.1, (hq q q1 q2).2.2]
      exact a3 q q1 q2
    · rw [h8 80 s (by decide) (by decide)]
      exact a4 s s1 s2
    · rw [ho 76 q (by omega) (by omega)]
      exact a6 q hq'
  · rw [w2] at hi
    by_cases h32 : f_w I = 32
    · rw [if_pos h32] at hi
      exact hmo.ms (Nat.le_refl _) (f_ml_old _ _ _ _ _ _ (by omega)) (h.2.2.2.2.2 i (by omega))
    · rw [if_neg h32] at hi
      by_cases e : i = f_w I
      · subst e
        obtain ⟨e1, e2, e3, e4, e5, e6, e7, e8⟩ := f_ml_new (nI k) r (nI t) b m c h32
        refine ⟨k, r, t, hk, hk2, hr, ht, e1, e2, e3, ?_⟩
        rw [e4, e5, e6, e7]
        exact mI_c (fun s hs => e8 s hs) (hmo.mg hr (Nat.le_refl _) hm)
      · exact hmo.ms (Nat.le_refl _) (f_ml_old _ _ _ _ _ _ (by omega)) (h.2.2.2.2.2 i (by omega))
theorem Inv.ma (h : Inv B n I G) {k : Nat} {x b m c : Int32} (hk : 1 ≤ k) (hk2 : k ≤ 8) (hk3 : k ≠ 2) (hr : r < 5) (hm : mI B I G k r b m c m (fun _ => nI 0) (fun _ => nI 0)) : ∀ j, j ≤ 5 → Inv B n (f_ma I (nI k) r x b m c j) G := by
  intro j
  induction j with
  | zero => intro _; exact h
  | succ j ih =>
    intro hj
    have ih' := ih (by omega)
    rw [f_ma]
    split
    · have hk4 : ¬ nI k = nI 2 := fun e => hk3 ((nI_eq (by omega) (by omega)).mp e)
      refine ih'.ml hk hk2 hr (by omega) ?_
      rw [if_neg hk4]
      have ho : ∀ a i, a < 93 → a ≠ 74 → f_ma I (nI k) r x b m c j a i = I a i := fun a i h1 h2 => f_ma_o _ _ _ _ _ _ (by omega) (by omega) j
      have hmo : Mo n I G (f_ma I (nI k) r x b m c j) G 5 := Mo.q (fun a i h1 h2 => ho a i (by omega) (by omega)) (fun q _ _ => ⟨ho _ _ (by omega) (by omega), ho _ _ (by omega) (by omega), ho _ _ (by omega) (by omega)⟩)
      refine mI_c (fun s hs => ?_) (hmo.mg hr (Nat.le_refl _) hm)
      rw [f_mailV, f_mailV, if_neg hk4, if_neg hk4]
      exact ⟨rfl, rfl⟩
    · exact ih'
theorem Inv.rm (h : Inv B n I G) {i : Nat} (hi : i < f_w I) : Inv B n (f_rm I i) G := by
  have ho : ∀ a j, a < 93 ∨ 101 < a → a ≠ 74 ∨ j ≠ 20 → f_rm I i a j = I a j := fun a j h1 h2 => f_rm_o I i h1 h2
  obtain ⟨w1, w2⟩ := f_rm_w h.1.2.2.2.1 hi
  obtain ⟨m1, m2⟩ := f_rm_m I hi
  have h8 : ∀ a j, 80 ≤ a → a ≤ 92 → f_rm I i a j = I a j := fun a j h1 h2 => ho _ _ (by omega) (by omega)
  have hq : ∀ q, 1 ≤ q → q ≤ n → f_rm I i 75 q = I 75 q ∧ f_rm I i 76 q = I 76 q ∧ f_rm I i 77 q = I 77 q := fun q _ _ => ⟨ho _ _ (by omega) (by omega), ho _ _ (by omega) (by omega), ho _ _ (by omega) (by omega)⟩
  have hmo : Mo n I G (f_rm I i) G 5 := Mo.q h8 hq
  refine h.quiet ?_ (Nat.le_refl _) (Nat.le_refl _) h8 hq (fun j hj => ?_)
  · obtain ⟨a1, ⟨a2, a3⟩, a4, a5, a6⟩ := h.1
    refine ⟨(ho 74 0 (by omega) (by omega)).trans a1, ⟨a2, fun q q1 q2 => ?_⟩, fun s s1 s2 => ?_, w1, fun q hq' => ?_⟩
    · rw [(hq q q1 q2).1, (hq q q1 q2).2.1, (hq q q1 q2).2.2]
      exact a3 q q1 q2
    · rw [h8 80 s (by decide) (by decide)]
      exact a4 s s1 s2
    · rw [ho 76 q (by omega) (by omega)]
      exact a6 q hq'
  · rw [w2] at hj
    by_cases e : j < i
    · exact hmo.ms (Nat.le_refl _) (m1 j e) (h.2.2.2.2.2 j (by omega))
    · exact hmo.ms (Nat.le_refl _) (m2 j (by omega) hj) (h.2.2.2.2.2 (j + 1) (by omega))
theorem Inv.copy (h : Inv B n I G) {i : Nat} (hi : i < f_w I) (h32 : f_w I < 32) : Inv B n (f_copy I i) G := by
  have ho : ∀ a j, a < 93 ∨ 101 < a → a ≠ 74 ∨ j ≠ 20 → f_copy I i a j = I a j := fun a j h1 h2 => by
    rw [f_copy, x_u_ne _ _ (by omega), f_mv_o _ _ _ h1]
  obtain ⟨w1, w2⟩ := f_wok_of (I := f_copy I i) (x_u_eq _ _ _ _) (by omega)
  obtain ⟨m1, m2⟩ := f_copy_m I (i := i)
  have h8 : ∀ a j, 80 ≤ a → a ≤ 92 → f_copy I i a j = I a j := fun a j h1 h2 => ho _ _ (by omega) (by omega)
  have hq : ∀ q, 1 ≤ q → q ≤ n → f_copy I i 75 q = I 75 q ∧ f_copy I i 76 q = I 76 q ∧ f_copy I i 77 q = I 77 q := fun q _ _ => ⟨ho _ _ (by omega) (by omega), ho _ _ (by omega) (by omega), ho _ _ (by omega) (by omega)⟩
  have hmo : Mo n I G (f_copy I i) G 5 := Mo.q h8 hq
  refine h.quiet ?_ (Nat.le_refl _) (Nat.le_refl _) h8 hq (fun j hj => ?_)
  · obtain ⟨a1, ⟨a2, a3⟩, a4, a5, a6⟩ := h.1
    refine ⟨(ho 74 0 (by omega) (by omega)).trans a1, ⟨a2, fun q q1 q2 => ?_⟩, fun s s1 s2 => ?_, w1, fun q hq' => ?_⟩
    · rw [(hq q q1 q2).1, (hq q q1 q2).2.1, (hq q q1 q2).2.2]
      exact a3 q q1 q2
    · rw [h8 80 s (by decide) (by decide)]
      exact a4 s s1 s2
    · rw [ho 76 q (by omega) (by omega)]
      exact a6 q hq'
  · rw [w2] at hj
    by_cases e : j = f_w I
    · subst e
      exact hmo.ms (Nat.le_refl _) m2 (h.2.2.2.2.2 i hi)
    · exact hmo.ms (Nat.le_refl _) (m1 j (by omega)) (h.2.2.2.2.2 j (by omega))
/-- a step of one replica: its own cells alone -/
def rc (r a i : Nat) : Prop := ((a = 81 ∨ a = 82 ∨ a = 83 ∨ a = 84 ∨ a = 87 ∨ a = 88) ∧ i = r) ∨ ((a = 85 ∨ a = 86 ∨ a = 89 ∨ a = 90 ∨ a = 91 ∨ a = 92) ∧ 25 * r ≤ i ∧ i < 25 * r + 25)
def Orr (I I' : xI) (r : Nat) : Prop := ∀ a i, (a = 74 ∧ (i = 0 ∨ i = 20)) ∨ (75 ≤ a ∧ a ≤ 77) ∨ (80 ≤ a ∧ a ≤ 101) → ¬ rc r a i → I' a i = I a i
theorem Orr.mo (h : Orr I I' r) (h81 : I 81 r ≤ I' 81 r) (m2 : ∀ b s c, G.1 b s = some c → G'.1 b s = some c) (m3 : ∀ a b s, G.2 a b s → G'.2 a b s) (m4 : ∀ a b s, G'.2 a b s → G.2 a b s ∨ (a = r ∧ I 81 a ≤ b)) (m5 : ∀ b s c, G'.1 b s = some c → G.1 b s = some c ∨ own b = r) : Mo n I G I' G' r := by
  refine ⟨fun a ha => ?_, m2, m3, m4, m5, fun s _ _ _ => h 80 s (by omega) (by rw [rc]; omega), fun q _ _ => ⟨h _ _ (by omega) (by rw [rc]; omega), h _ _ (by omega) (by rw [rc]; omega), h _ _ (by omega) (by rw [rc]; omega)⟩, fun r' hr' hn => ⟨h _ _ (by omega) (by rw [rc]; omega), h _ _ (by omega) (by rw [rc]; omega), h _ _ (by omega) (by rw [rc]; omega), h _ _ (by omega) (by rw [rc]; omega), h _ _ (by omega) (by rw [rc]; omega), h _ _ (by omega) (by rw [rc]; omega), fun s hs => ⟨h _ _ (by omega) (by rw [rc]; omega), h _ _ (by omega) (by rw [rc]; omega), h _ _ (by omega) (by rw [rc]; omega), h _ _ (by omega) (by rw [rc]; omega), h _ _ (by omega) (by rw [rc]; omega), h _ _ (by omega) (by rw [rc]; omega)⟩⟩⟩
  by_cases e : a = r
  · subst e
    exact h81
  · rw [h 81 a (by omega) (by rw [rc]; omega)]
    exact Int32.le_refl _
theorem Inv.rep (h : Inv B n I G) (ho : Orr I I' r) (hmo : Mo n I G I' G' r)
    (hV : ∀ a b s, G'.2 a b s → ¬ G.2 a b s → a < 5 ∧ b ≤ I' 81 a ∧ ∃ c, G'.1 b s = some c)
    (hP : ∀ b s c, G'.1 b s = some c → ¬ G.1 b s = some c → 0 < b ∧ 1 ≤ s ∧ s ≤ 24 ∧ (∃ q, q ≤ n ∧ c = nI q) ∧ prD I' (s - 3) ∧ b ≤ I' 81 (own b) ∧ sfe I' G' b s c)
    {B' : Nat} (hBB : B ≤ B') (hr : iD B' I' r ∧ iV I' G' r ∧ iP n I' G' r) : Inv B' n I' G' := by
  have h20 : I' 74 20 = I 74 20 := ho 74 20 (by omega) (by rw [rc]; omega)
  refine h.step hmo (h.1.sm (fun a i q => ho a i (by omega) (by rw [rc]; omega))) (Nat.le_refl _) hBB hV hP (fun s s1 s2 s3 s4 => ?_) (fun _ => hr) (fun i hi => ?_)
  · rw [ho 80 s (by omega) (by rw [rc]; omega)] at s4
    exact absurd s4 s3
  · exact hmo.ms hBB (mgE.of (fun a i h1 h2 => ho a i (by omega) (by rw [rc]; omega)) i) (h.2.2.2.2.2 i (by rw [f_w_eq h20] at hi; exact hi))
end ATOM
