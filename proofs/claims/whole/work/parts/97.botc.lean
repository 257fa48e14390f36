/-! both calls of an operation: fetch, message, look -/
section BOTC
variable {B n : Nat} {M : xM} {C : xCC}
theorem two_fetch (h : St B n M C) (x y : Int32) : Two B M 87 132 [.int x, .int y] := by
  by_cases hu : f_rep x = false ∨ f_rep y = false ∨ x = y ∨ C.1 (9 + 13 * x.toNatClampNeg) 3 = 0
  · refine two_00 h (k_fet_n 2 h.1 hu) (fun Z I hz h2 h3 => r_fetch_n 7 I ?_ hz)
    by_cases hf : f_rep x = true
    · obtain ⟨r, hr, rfl⟩ := f_rep_x hf
      rcases hu with hu | hu | hu | hu
      · rw [hf] at hu
        exact absurd hu (by decide)
      · exact Or.inr (Or.inl hu)
      · exact Or.inr (Or.inr (Or.inl hu))
      · rw [nI_clamp (by omega)] at hu
        left
        rw [(up_c h2 hr).2 hu, Bool.and_false]
    · left
      have hf' : f_rep x = false := Bool.not_eq_true _ ▸ hf
      rw [hf', Bool.false_and]
  · have hf : f_rep x = true := Bool.not_eq_false _ ▸ (fun q => hu (Or.inl q))
    have hf2 : f_rep y = true := Bool.not_eq_false _ ▸ (fun q => hu (Or.inr (Or.inl q)))
    obtain ⟨r, hr, rfl⟩ := f_rep_x hf
    obtain ⟨p, hp, rfl⟩ := f_rep_x hf2
    rw [nI_clamp (by omega)] at hu
    have hrp : r ≠ p := fun z => hu (Or.inr (Or.inr (Or.inl (by rw [z]))))
    have hup : C.1 (9 + 13 * r) 3 = 1 := by
      rcases up_d h hr with z | z
      · exact z
      · exact absurd (Or.inr (Or.inr (Or.inr z))) hu
    have hw := h.1.w.2.1
    refine two_of h (b := 1) (by decide) (k_fet 2 h.1 hr hp hrp hup) (fun Z I hz h2 h3 => ?_)
    obtain ⟨G, hi, ho⟩ := h3
    by_cases h32 : c_w C < 32
    · rw [decide_eq_true h32]
      exact ⟨f_ml I (nI 7) r (nI p) (nI 0) (I 83 r) (nI 0), r_fetch 7 I hr ((up_c h2 hr).1 hup) hp hrp hi.1.2.2.2.1 (by rw [← h2.w]; exact h32) hz, Fo.ml _ _ _ _ _ _ _, h2.fet hi hr p, B, n, by omega, FI.fetch ⟨G, hi, ho⟩ hr hp⟩
    · rw [decide_eq_false h32, c_fet, c_put, if_neg h32]
      refine ⟨I, r_fetch_n 7 I (Or.inr (Or.inr (Or.inr ?_))) hz, Fo.refl I, h2, B, n, by omega, G, hi, ho⟩
      rw [hi.1.2.2.2.1.1, ← h2.w, show c_w C = 32 by omega]
theorem i_rng0 {y : Int32} {b : Nat} (hb : b < 2 ^ 31) (h : ¬ (y < 0 ∨ (b : Int) ≤ y.toInt)) : ∃ k, k < b ∧ y = nI k := by
  have h1 : ¬ y < 0 := fun q => h (Or.inl q)
  have h1' := Int32.not_lt.mp h1
  rw [Int32.le_iff_toInt_le] at h1'
  have e0 : (0 : Int32).toInt = 0 := rfl
  have h2 : ¬ (b : Int) ≤ y.toInt := fun q => h (Or.inr q)
  refine ⟨y.toInt.toNat, by omega, ?_⟩
  apply Int32.toInt_inj.mp
  rw [nI_toInt (by omega)]
  omega
theorem two_message (h : St B n M C) (x y : Int32) : Two B M 89 134 [.int x, .int y] := by
  have hw := h.1.w.2.1
  by_cases hx : x < 0 ∨ nI (c_w C) ≤ x
  · exact two_00 h ((k_del_n 2 h.1 hx).2.2.2 y) (fun Z I hz h2 h3 => by
      obtain ⟨G, hi, ho⟩ := h3
      exact r_message_n 9 I hi.1.2.2.2.1 (by rw [← h2.w]; exact hx) hz)
  · obtain ⟨i, _, i2, rfl⟩ := i_rng (x := x) (a := 0) (b := c_w C) (by omega) (fun q => hx (Or.inl q)) (fun q => hx (Or.inr (i_llt q))) (by decide)
    have hi' : i < c_w C := by
      by_cases z : i = c_w C
      · exact absurd (Or.inr (by rw [z]; exact Int32.le_refl _)) hx
      · omega
    have fw : ∀ {I : xI}, RelP C I → i < f_w I := fun h2 => by rw [← h2.w]; exact hi'
    by_cases hy : y < 0 ∨ (6 : Int) ≤ y.toInt
    · exact two_00 h (k_ms_d 2 h.1 hi' hy) (fun Z I hz h2 h3 => by
        obtain ⟨G, hi, ho⟩ := h3
        exact r_message_d 9 I hi.1.2.2.2.1 (fw h2) hy hz)
    · obtain ⟨k, k1, rfl⟩ := i_rng0 (b := 6) (by decide) hy
      have h6 : k = 0 ∨ k = 1 ∨ k = 2 ∨ k = 3 ∨ k = 4 ∨ k = 5 := by omega
      rcases h6 with rfl | rfl | rfl | rfl | rfl | rfl
      · exact two_00 h (k_ms_0 2 h.1 hi') (fun Z I hz h2 h3 => by
          obtain ⟨G, hi, ho⟩ := h3
          rw [(h2.2.2.2 i (fw h2)).1]
          exact r_message0 9 I hi.1.2.2.2.1 (fw h2) hz)
      · exact two_00 h (k_ms_1 2 h.1 hi') (fun Z I hz h2 h3 => by
          obtain ⟨G, hi, ho⟩ := h3
          rw [(h2.2.2.2 i (fw h2)).2.1]
          exact r_message1 9 I hi.1.2.2.2.1 (fw h2) hz)
      · exact two_00 h (k_ms_2 2 h.1 hi') (fun Z I hz h2 h3 => by
          obtain ⟨G, hi, ho⟩ := h3
          rw [(h2.2.2.2 i (fw h2)).2.2.1]
          exact r_message2 9 I hi.1.2.2.2.1 (fw h2) hz)
      · exact two_00 h (k_ms_3 2 h.1 hi') (fun Z I hz h2 h3 => by
          obtain ⟨G, hi, ho⟩ := h3
          rw [(h2.2.2.2 i (fw h2)).2.2.2.1]
          exact r_message3 9 I hi.1.2.2.2.1 (fw h2) hz)
      · obtain ⟨G0, hi0, _⟩ := h.2.2
        obtain ⟨kd, j, t, a1, a2, a3, a4, a5, a6, a7, a8⟩ := hi0.2.2.2.2.2 i (fw h.2.1)
        obtain ⟨q1, q2, q3, q4, q5, q6, q7, q8⟩ := h.2.1.2.2.2 i (fw h.2.1)
        have ek : (C.2.2.2.2 i).1 0 = nI kd := q1.trans a5
        by_cases z2 : kd = 2
        · subst z2
          obtain ⟨_, V, v1, _⟩ := q7 a5
          exact two_00 h (k_ms_42 2 h.1 hi' ek v1) (fun Z I hz h2 h3 => by
            obtain ⟨G, hi, ho⟩ := h3
            have e93 : I 93 i = nI 2 := (h2.2.2.2 i (fw h2)).1.symm.trans ek
            rw [← h2.anl hi (fw h2) e93 v1]
            exact r_message42 8 I hi.1.2.2.2.1 (fw h2) e93 hz)
        · by_cases z8 : kd = 8
          · subst z8
            obtain ⟨f0, _, _, s3⟩ := q8 a5
            refine two_0 h (k_ms_48 2 h.1 hi' ek s3) (fun Z I hz h2 h3 => ?_)
            obtain ⟨G, hi, ho⟩ := h3
            have e93 : I 93 i = nI 8 := (h2.2.2.2 i (fw h2)).1.symm.trans ek
            obtain ⟨f, f1, f2, f3⟩ := h2.an8 hi (fw h2) e93 s3
            rw [← f3]
            exact ⟨f_rp I f, r_message48 6 I hi.1.2.2.2.1 (fw h2) e93 f1 f2 hi.wf hz, Fo.rp I f, h2.c (fun a i z1 z2 => f_rp_o I (by omega) f i), G, hi.rp f, fun r' hr' => (ho r' hr').sm (fun a i z => f_rp_o I (by omega) f i)⟩
          · exact two_00 h (k_ms_40 2 h.1 hi' ek (by omega) z2 z8) (fun Z I hz h2 h3 => by
              obtain ⟨G, hi, ho⟩ := h3
              have e93 : I 93 i = nI kd := (h2.2.2.2 i (fw h2)).1.symm.trans ek
              exact r_message40 8 I hi.1.2.2.2.1 (fw h2) (by rw [e93]; exact fun q => z2 ((nI_eq (by omega) (by decide)).mp q)) (by rw [e93]; exact fun q => z8 ((nI_eq (by omega) (by decide)).mp q)) hz)
      · exact two_00 h (k_ms_5 2 h.1 hi') (fun Z I hz h2 h3 => by
          obtain ⟨G, hi, ho⟩ := h3
          rw [(h2.2.2.2 i (fw h2)).2.2.2.2.1]
          exact r_message5 9 I hi.1.2.2.2.1 (fw h2) hz)
/-- a look: the reference replays -/
theorem two_lk {r : Nat} {v : Int32} {y : Int32} (h : St B n M C) (hr : r < 5) (hc : Ev 10 90 M [.ref 0, .int (nI r), .int y] (fun M1 w => M1 = M ∧ w = some (.int v)))
    (hv : ∀ (Z : xZ) (I : xI) (G : xGh) (e : Nat), zok Z → RelP C I → Inv B n I G → I 83 r = nI e → e ≤ 24 → ER Z 10 136 I [.ref 74, .int (nI r), .int y] (fun I' w => I' = f_rp I e ∧ w = some (.int v))) : Two B M 90 136 [.int (nI r), .int y] :=
  two_0 h hc (fun Z I hz h2 h3 => by
    obtain ⟨G, hi, ho⟩ := h3
    obtain ⟨f', e', p', c1, c2, c3, c4, c5, c6, c7, c8⟩ := hi.e hr
    exact ⟨f_rp I e', hv Z I G e' hz h2 hi c2 c5, Fo.rp I e', h2.c (fun a i z1 z2 => f_rp_o I (by omega) e' i), G, hi.rp e', fun r' hr' => (ho r' hr').sm (fun a i z => f_rp_o I (by omega) e' i)⟩)
theorem two_look (h : St B n M C) (x y : Int32) : Two B M 90 136 [.int x, .int y] := by
  by_cases hf : f_rep x = true
  · obtain ⟨r, hr, rfl⟩ := f_rep_x hf
    by_cases hy : y < 0 ∨ (8 : Int) ≤ y.toInt
    · exact two_lk h hr (k_lk_d 2 h.1 hr hy) (fun Z I G e hz h2 hi he he2 => r_look_d 6 I hr he he2 hi.wf hy hz)
    · obtain ⟨k, k1, rfl⟩ := i_rng0 (b := 8) (by decide) hy
      have h8 : k = 0 ∨ k = 1 ∨ k = 2 ∨ k = 3 ∨ k = 4 ∨ k = 5 ∨ k = 6 ∨ k = 7 := by omega
      rcases h8 with rfl | rfl | rfl | rfl | rfl | rfl | rfl | rfl
      · exact two_lk h hr (k_lk_0 2 h.1 hr (h.2.1.up hr)) (fun Z I G e hz h2 hi he he2 => by
          have e1 : bI (f_bit (M.2.1 74 7) (nI r)) = I 74 7 >>> (nI r &&& 31) &&& nI 1 := by
            rw [an_up hr, ← h2.up hr, ← h.2.1.up hr]
          rw [e1]
          exact r_look0 6 I hr he he2 hi.wf hz)
      · exact two_lk h hr (k_lk_1 2 h.1 hr) (fun Z I G e hz h2 hi he he2 => by
          rw [(h2.R hr).2.1]
          exact r_look1 6 I hr he he2 hi.wf hz)
      · exact two_lk h hr (k_lk_2 2 h.1 hr) (fun Z I G e hz h2 hi he he2 => by
          obtain ⟨f', e', p', c1, c2, c3, c4, c5, c6, c7, c8⟩ := hi.e hr
          obtain ⟨_, _, ⟨f, e0, a3, a4, a5, a6, a7, a8⟩, _⟩ := h2.R hr
          have ef : f = f' := by
            rw [a3] at c1
            exact (nI_eq (by omega) (by omega)).mp c1
          subst ef
          have e1 : nI (sl (C.2.2.1 r)) = I 82 r := by
            rw [a8, (PS_ok hi.rq hi.ch f a5 (c6.le c4)).2, a3]
          rw [e1]
          exact r_look2 6 I hr he he2 hi.wf hz)
      · exact two_lk h hr (k_lk_3 2 h.1 hr) (fun Z I G e hz h2 hi he he2 => by
          rw [(h2.e hi hr he he2).2.1, ← he]
          exact r_look3 6 I hr he he2 hi.wf hz)
      · exact two_lk h hr (k_lk_4 2 h.1 hr) (fun Z I G e hz h2 hi he he2 => by
          rw [(h2.an4 hi hr).1]
          exact r_look4 6 I hr he he2 hi.wf hz)
      · exact two_lk h hr (k_lk_5 2 h.1 hr) (fun Z I G e hz h2 hi he he2 => by
          rw [h2.an5 hi hr he he2]
          exact r_look5 6 I hr he he2 hi.wf hz)
      · exact two_lk h hr (k_lk_6 2 h.1 hr) (fun Z I G e hz h2 hi he he2 => by
          rw [h2.an6 hi hr he he2]
          exact r_look6 6 I hr he he2 hi.wf hz)
      · exact two_lk h hr (k_lk_7 2 h.1 hr) (fun Z I G e hz h2 hi he he2 => by
          rw [(h2.an4 hi hr).2]
          exact r_look7 6 I hr he he2 hi.wf hz)
  · have hf' : f_rep x = false := Bool.not_eq_true _ ▸ hf
    exact two_00 h (k_lk_n 2 h.1 hf') (fun Z I hz h2 h3 => r_look_n 8 I hf' hz)
end BOTC
