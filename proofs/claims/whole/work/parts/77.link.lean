/-! the reference's replay is the state behind the commands -/
def Lk (I : xI) (f : Nat) : Prop := (∀ k, k < 4 → f_rp I f 104 k = (PS I f).1 1 k) ∧ (∀ q, q < 41 → f_rp I f 105 q = bI (c_dn (PS I f).2 q) ∧ f_rp I f 106 q = s_an (PS I f) q) ∧ (∀ i, i ≤ f → f_rp I f 107 i = mM I (i + 3)) ∧ ∀ i, i < 64 → lb (PS I f).2 i = true → 1 ≤ i ∧ i ≤ 40
theorem c_dn_0 (q : Nat) : c_dn 0 q = false := by
  rw [c_dn_b]
  have : lb 0 q = false := BitVec.getLsbD_zero
  rw [this, Bool.and_false]
theorem c_dn_or {D : Int64} {q q' : Nat} (h1 : 1 ≤ q) (h2 : q ≤ 40) (h3 : q' < 41) : c_dn (D ||| (lN 1 <<< ((nI q).toInt64 &&& 63))) q' = (c_dn D q' || decide (q' = q)) := by
  rw [c_dn_b, c_dn_b, lb_or, lb_sh q (by omega) q' (by omega)]
  by_cases e : q' = q
  · subst e
    rw [decide_eq_true h1, decide_eq_true h2, decide_eq_true rfl]
    simp
  · rw [decide_eq_false e]
    simp
theorem s_an_new (S : xS) (q : Nat) : s_an (s_new S) q = s_an S q := rfl
theorem f_rs_n (J : xI) (s : Nat) : ∀ a i, ¬ (a = 107 ∧ i = s) → x_u J 107 s (J 107 (s - 1)) a i = J a i := fun a i h => x_u_ne _ _ h
theorem Lk_new {I : xI} {f : Nat} (h : Lk I f) (hS : (PS I (f + 1)) = s_new (PS I f)) (hJ : f_rp I (f + 1) = x_u (f_rp I f) 107 (f + 1) (f_rp I f 107 f)) : Lk I (f + 1) := by
  obtain ⟨h4, h5, h7, h8⟩ := h
  have o : ∀ a i, ¬ (a = 107 ∧ i = f + 1) → f_rp I (f + 1) a i = f_rp I f a i := fun a i q => by rw [hJ, x_u_ne _ _ q]
  refine ⟨fun k hk => ?_, fun q hq => ⟨?_, ?_⟩, fun i hi => ?_, fun i hi hb => ?_⟩
  · rw [o _ _ (by omega), hS]
    exact h4 k hk
  · rw [o _ _ (by omega), hS]
    exact (h5 q hq).1
  · rw [o _ _ (by omega), hS]
    exact (h5 q hq).2
  · by_cases e : i = f + 1
    · subst e
      rw [hJ, x_u_eq, h7 f (Nat.le_refl _), ← (PS_m I (f + 1)).1, hS, ← (PS_m I f).1]
      rfl
    · rw [o _ _ (by omega)]
      exact h7 i (by omega)
  · rw [hS] at hb
    exact h8 i hi hb
theorem Lk_act {I : xI} {f q : Nat} {g : Nat → Int32} {J : xI} {a : Int32} (h : Lk I f) (q1 : 1 ≤ q) (q2 : q ≤ 40) (hd : c_dn (PS I f).2 q = false) (hS : PS I (f + 1) = s_act (s_new (PS I f)) q g)
    (hJ : f_rp I (f + 1) = x_u J 106 q a) (ha : a = s_ans (s_new (PS I f)) g) (j5 : ∀ i, J 105 i = if i = q then 1 else f_rp I f 105 i) (j6 : ∀ i, J 106 i = f_rp I f 106 i)
    (j4 : ∀ k, k < 4 → J 104 k = s_upd (s_new (PS I f)) g 1 k) (j7 : ∀ i, i ≤ f → J 107 i = f_rp I f 107 i) (j8 : J 107 (f + 1) = s_upd (s_new (PS I f)) g 0 4) (hu : ∀ i, s_upd (s_new (PS I f)) g 2 i = (PS I f).1 2 i) : Lk I (f + 1) := by
  obtain ⟨h4, h5, h7, h8⟩ := h
  have eD : (PS I (f + 1)).2 = (PS I f).2 ||| (lN 1 <<< ((nI q).toInt64 &&& 63)) := by rw [hS]; rfl
  have eF : ∀ o i, (PS I (f + 1)).1 o i = x_u (s_upd (s_new (PS I f)) g) 2 q (s_ans (s_new (PS I f)) g) o i := fun o i => by rw [hS]; rfl
  have one : (1 : Int32) = bI true := rfl
  refine ⟨fun k hk => ?_, fun q' hq' => ⟨?_, ?_⟩, fun i hi => ?_, fun i hi hb => ?_⟩
  · rw [hJ, x_u_ne _ _ (by omega), eF, x_u_ne _ _ (by omega)]
    exact j4 k hk
  · rw [hJ, x_u_ne _ _ (by omega), j5, eD, c_dn_or q1 q2 hq']
    by_cases e : q' = q
    · rw [if_pos e, decide_eq_true e, Bool.or_true]
      rfl
    · rw [if_neg e, decide_eq_false e, Bool.or_false]
      exact (h5 q' hq').1
  · rw [hJ, s_an, eD, c_dn_or q1 q2 hq', eF]
    by_cases e : q' = q
    · subst e
      rw [x_u_eq, x_u_eq, decide_eq_true rfl, Bool.or_true, if_pos rfl, ha]
    · rw [x_u_ne _ _ (by omega), x_u_ne _ _ (by omega), decide_eq_false e, Bool.or_false, j6, hu]
      exact (h5 q' hq').2
  · by_cases e : i = f + 1
    · subst e
      rw [hJ, x_u_ne _ _ (by omega), j8, ← (PS_m I (f + 1)).1, eF, x_u_ne _ _ (by omega)]
    · rw [hJ, x_u_ne _ _ (by omega), j7 i (by omega)]
      exact h7 i (by omega)
  · rw [eD, lb_or, Bool.or_eq_true, lb_sh q (by omega) i hi, decide_eq_true_eq] at hb
    rcases hb with hb | hb
    · exact h8 i hi hb
    · omega
theorem s_upd_2 (S : xS) (g : Nat → Int32) (i : Nat) : s_upd S g 2 i = S.1 2 i := by
  rw [s_upd]
  repeat' split
  all_goals first | rfl | exact x_u_ne _ _ (by omega)
theorem Lk_all {I : xI} {n : Nat} (hr : rqV I n) (hc : chV I n) : ∀ f, f ≤ 24 → prD I f → Lk I f := by
  intro f
  induction f with
  | zero =>
    intro _ _
    refine ⟨fun k hk => ?_, fun q hq => ⟨?_, ?_⟩, fun i hi => ?_, fun i hi hb => ?_⟩
    · show f_r0 I 104 k = 0
      rw [f_r0, if_pos ⟨rfl, hk⟩]
    · show f_r0 I 105 q = bI (c_dn 0 q)
      rw [f_r0, if_neg (by omega), if_pos ⟨Or.inl rfl, hq⟩, c_dn_0]
      rfl
    · show f_r0 I 106 q = if c_dn 0 q = true then _ else nI 0
      rw [f_r0, if_neg (by omega), if_pos ⟨Or.inr rfl, hq⟩, c_dn_0]
      rfl
    · have e : i = 0 := by omega
      subst e
      show f_r0 I 107 0 = mM I 3
      rw [f_r0, if_neg (by omega), if_neg (by omega), if_pos ⟨rfl, rfl⟩]
      rfl
    · have : lb (PS I 0).2 i = false := BitVec.getLsbD_zero
      rw [this] at hb
      exact absurd hb (by decide)
  | succ f ih =>
    intro hf hp
    have h := ih (by omega) (hp.le (by omega))
    have h' := h
    obtain ⟨h4, h5, h7, h8⟩ := h'
    obtain ⟨q, q1, q2⟩ := hc.at (by omega) hf (hp (f + 1) (by omega) (by omega))
    have n40 := hr.1
    have o80 : f_rp I f 80 (f + 1) = nI q := (f_rp_o I (by decide) f _).trans q2
    have o75 : ∀ i, f_rp I f 75 i = I 75 i := fun i => f_rp_o I (by decide) f i
    have o76 : ∀ i, f_rp I f 76 i = I 76 i := fun i => f_rp_o I (by decide) f i
    have o77 : ∀ i, f_rp I f 77 i = I 77 i := fun i => f_rp_o I (by decide) f i
    have eJ : f_rp I (f + 1) = f_rs (f_rp I f) (f + 1) := rfl
    by_cases h0 : q = 0
    · subst h0
      refine Lk_new h ?_ ?_
      · rw [PS, s_st, q2, if_pos nI_zero]
      · rw [eJ, f_rs, o80, if_neg (fun z => i_irr z.1)]
        rfl
    · have hS : PS I (f + 1) = s_aft (PS I f) q (rqI I q) := by
        rw [PS, s_st, q2, if_neg (show ¬ nI q = 0 from fun e => h0 ((nI_eq (b := 0) (by omega) (by omega)).mp e)), nI_clamp (by omega)]
      have hpos : (0 : Int32) < nI q := by
        rw [Int32.lt_iff_toInt_lt, nI_toInt (by omega)]
        show (0 : Int) < _
        omega
      by_cases hd : c_dn (PS I f).2 q = true
      · refine Lk_new h ?_ ?_
        · rw [hS, s_aft, if_pos hd]
        · rw [eJ, f_rs, o80, nI_clamp (by omega), if_neg (fun z => ?_)]
          · rfl
          · have z2 := z.2
            rw [(h5 q (by omega)).1, hd] at z2
            exact absurd z2 (by decide)
      · have hd' : c_dn (PS I f).2 q = false := Bool.not_eq_true _ ▸ hd
        have h105 : f_rp I f 105 q = 0 := by
          rw [(h5 q (by omega)).1, hd']
          rfl
        obtain ⟨⟨k, k1, k2⟩, ⟨ky, y1, y2⟩, _⟩ := hr.2 q (by omega) q1
        rw [s_aft, if_neg hd] at hS
        rw [f_rs, o80, nI_clamp (by omega), if_pos ⟨hpos, h105⟩, o76, y2, nI_clamp (by omega)] at eJ
        have g0 : rqI I q 0 = nI k := k2
        have g1 : (rqI I q 1).toNatClampNeg = ky := by
          show (I 76 q).toNatClampNeg = ky
          rw [y2]
          exact nI_clamp (by omega)
        have v4 : f_rp I f 104 ky = (s_new (PS I f)).1 1 ky := h4 ky y1
        have v7 : f_rp I f 107 f = (s_new (PS I f)).1 0 4 := by
          rw [h7 f (Nat.le_refl _), ← (PS_m I f).1]
          rfl
        have w4 : ∀ k, k < 4 → f_rp I f 104 k = (s_new (PS I f)).1 1 k := h4
        have xs : ∀ a i, a ≠ 105 → a ≠ 107 → x_u (x_u (f_rp I f) 107 (f + 1) (f_rp I f 107 (f + 1 - 1))) 105 q 1 a i = f_rp I f a i := fun a i a1 a2 => by
          rw [x_u_ne _ _ (fun z => a1 z.1), x_u_ne _ _ (fun z => a2 z.1)]
        have x5 : ∀ i, x_u (x_u (f_rp I f) 107 (f + 1) (f_rp I f 107 (f + 1 - 1))) 105 q 1 105 i = if i = q then 1 else f_rp I f 105 i := fun i => by
          by_cases e : i = q
          · rw [e, x_u_eq, if_pos rfl]
          · rw [x_u_ne _ _ (by omega), x_u_ne _ _ (by omega), if_neg e]
        have x7 : ∀ i, i ≤ f → x_u (x_u (f_rp I f) 107 (f + 1) (f_rp I f 107 (f + 1 - 1))) 105 q 1 107 i = f_rp I f 107 i := fun i hi => by
          rw [x_u_ne _ _ (by omega), x_u_ne _ _ (by omega)]
        have x8 : x_u (x_u (f_rp I f) 107 (f + 1) (f_rp I f 107 (f + 1 - 1))) 105 q 1 107 (f + 1) = (s_new (PS I f)).1 0 4 := by
          rw [x_u_ne _ _ (by omega), x_u_eq]
          exact v7
        have x7f := x7 f (Nat.le_refl _)
        generalize x_u (x_u (f_rp I f) 107 (f + 1) (f_rp I f 107 (f + 1 - 1))) 105 q 1 = X at eJ xs x5 x7 x8 x7f
        have e75 : X 75 q = nI k := (xs _ _ (by decide) (by decide)).trans ((o75 q).trans k2)
        have e77 : X 77 q = rqI I q 2 := (xs _ _ (by decide) (by decide)).trans (o77 q)
        have e104 : X 104 ky = (s_new (PS I f)).1 1 ky := (xs _ _ (by decide) (by decide)).trans v4
        have e104k : ∀ k, k < 4 → X 104 k = (s_new (PS I f)).1 1 k := fun k hk => (xs _ _ (by decide) (by decide)).trans (w4 k hk)
        have e107 : X 107 (f + 1 - 1) = (s_new (PS I f)).1 0 4 := x7f.trans v7
        have e106 : ∀ i, X 106 i = f_rp I f 106 i := fun i => xs _ _ (by decide) (by decide)
        have hk5 : k = 0 ∨ k = 1 ∨ k = 2 ∨ k = 3 ∨ k = 4 := by omega
        have hu : ∀ i, s_upd (s_new (PS I f)) (rqI I q) 2 i = (PS I f).1 2 i := fun i => s_upd_2 _ _ i
        rcases hk5 with rfl | rfl | rfl | rfl | rfl
        · have fa : f_act X q (f + 1) ky = (X, X 104 ky) := by
            rw [f_act, e75, if_pos nI_zero]
          rw [fa] at eJ
          have e1 : s_upd (s_new (PS I f)) (rqI I q) = (s_new (PS I f)).1 := by
            rw [s_upd, g0, if_neg (fun z => by rcases z with z | z; exact absurd z (by decide); exact absurd z.1 (by decide)), if_neg (by decide), if_neg (by decide)]
          have e2 : s_ans (s_new (PS I f)) (rqI I q) = (s_new (PS I f)).1 1 ky := by
            rw [s_ans, g0, if_neg (by decide), if_neg (by decide), g1]
          refine Lk_act (a := X 104 ky) h (by omega) (by omega) hd' hS eJ (by rw [e2]; exact e104) x5 e106 (fun k hk => ?_) x7 ?_ hu
          · rw [e1]
            exact e104k k hk
          · rw [e1]
            exact x8
        · have fa : f_act X q (f + 1) ky = (x_u X 104 ky (X 77 q), X 104 ky) := by
            rw [f_act, e75, if_neg (by decide), if_neg (by decide), if_neg (by decide), if_pos (Or.inl rfl)]
          rw [fa] at eJ
          have e1 : s_upd (s_new (PS I f)) (rqI I q) = x_u (s_new (PS I f)).1 1 ky (rqI I q 2) := by
            rw [s_upd, g0, if_pos (Or.inl rfl), g1]
          have e2 : s_ans (s_new (PS I f)) (rqI I q) = (s_new (PS I f)).1 1 ky := by
            rw [s_ans, g0, if_neg (by decide), if_neg (by decide), g1]
          refine Lk_act (J := x_u X 104 ky (X 77 q)) (a := X 104 ky) h (by omega) (by omega) hd' hS eJ (by rw [e2]; exact e104) (fun i => (x_u_ne _ _ (by omega)).trans (x5 i)) (fun i => (x_u_ne _ _ (by omega)).trans (e106 i)) (fun k hk => ?_) (fun i hi => (x_u_ne _ _ (by omega)).trans (x7 i hi)) ?_ hu
          · rw [e1]
            by_cases e : k = ky
            · rw [e, x_u_eq, x_u_eq]
              exact e77
            · rw [x_u_ne _ _ (by omega), x_u_ne _ _ (by omega)]
              exact e104k k hk
          · rw [e1, x_u_ne _ _ (by omega), x_u_ne _ _ (by omega)]
            exact x8
        · have fa : f_act X q (f + 1) ky = (x_u X 104 ky (X 104 ky + X 77 q), X 104 ky + X 77 q) := by
            rw [f_act, e75, if_neg (by decide), if_neg (by decide), if_pos rfl]
          rw [fa] at eJ
          have e1 : s_upd (s_new (PS I f)) (rqI I q) = x_u (s_new (PS I f)).1 1 ky ((s_new (PS I f)).1 1 ky + rqI I q 2) := by
            rw [s_upd, g0, if_neg (fun z => by rcases z with z | z; exact absurd z (by decide); exact absurd z.1 (by decide)), if_pos rfl, g1]
          have e2 : s_ans (s_new (PS I f)) (rqI I q) = (s_new (PS I f)).1 1 ky + rqI I q 2 := by
            rw [s_ans, g0, if_pos rfl, g1]
          refine Lk_act (J := x_u X 104 ky (X 104 ky + X 77 q)) (a := X 104 ky + X 77 q) h (by omega) (by omega) hd' hS eJ (by rw [e2, e104, e77]) (fun i => (x_u_ne _ _ (by omega)).trans (x5 i)) (fun i => (x_u_ne _ _ (by omega)).trans (e106 i)) (fun k hk => ?_) (fun i hi => (x_u_ne _ _ (by omega)).trans (x7 i hi)) ?_ hu
          · rw [e1]
            by_cases e : k = ky
            · rw [e, x_u_eq, x_u_eq, e104, e77]
            · rw [x_u_ne _ _ (by omega), x_u_ne _ _ (by omega)]
              exact e104k k hk
          · rw [e1, x_u_ne _ _ (by omega), x_u_ne _ _ (by omega)]
            exact x8
        · have e2 : s_ans (s_new (PS I f)) (rqI I q) = (s_new (PS I f)).1 1 ky := by
            rw [s_ans, g0, if_neg (by decide), if_neg (by decide), g1]
          by_cases hz : X 104 ky = 0
          · have fa : f_act X q (f + 1) ky = (x_u X 104 ky (X 77 q), X 104 ky) := by
              rw [f_act, e75, if_neg (by decide), if_neg (by decide), if_neg (by decide), if_pos (Or.inr hz)]
            rw [fa] at eJ
            have e1 : s_upd (s_new (PS I f)) (rqI I q) = x_u (s_new (PS I f)).1 1 ky (rqI I q 2) := by
              rw [s_upd, g0, g1, if_pos (Or.inr ⟨rfl, by rw [← e104]; exact hz⟩)]
            refine Lk_act (J := x_u X 104 ky (X 77 q)) (a := X 104 ky) h (by omega) (by omega) hd' hS eJ (by rw [e2]; exact e104) (fun i => (x_u_ne _ _ (by omega)).trans (x5 i)) (fun i => (x_u_ne _ _ (by omega)).trans (e106 i)) (fun k hk => ?_) (fun i hi => (x_u_ne _ _ (by omega)).trans (x7 i hi)) ?_ hu
            · rw [e1]
              by_cases e : k = ky
              · rw [e, x_u_eq, x_u_eq]
                exact e77
              · rw [x_u_ne _ _ (by omega), x_u_ne _ _ (by omega)]
                exact e104k k hk
            · rw [e1, x_u_ne _ _ (by omega), x_u_ne _ _ (by omega)]
              exact x8
          · have fa : f_act X q (f + 1) ky = (X, X 104 ky) := by
              rw [f_act, e75, if_neg (by decide), if_neg (by decide), if_neg (by decide), if_neg (fun z => by rcases z with z | z; exact absurd z (by decide); exact hz z)]
            rw [fa] at eJ
            have e1 : s_upd (s_new (PS I f)) (rqI I q) = (s_new (PS I f)).1 := by
              rw [s_upd, g0, g1, if_neg (fun z => by rcases z with z | z; exact absurd z (by decide); exact hz (by rw [e104]; exact z.2)), if_neg (by decide), if_neg (by decide)]
            refine Lk_act (a := X 104 ky) h (by omega) (by omega) hd' hS eJ (by rw [e2]; exact e104) x5 e106 (fun k hk => ?_) x7 ?_ hu
            · rw [e1]
              exact e104k k hk
            · rw [e1]
              exact x8
        · have fa : f_act X q (f + 1) ky = (x_u X 107 (f + 1) (X 77 q), X 107 (f + 1 - 1)) := by
            rw [f_act, e75, if_neg (by decide), if_pos rfl]
          rw [fa] at eJ
          have e1 : s_upd (s_new (PS I f)) (rqI I q) = x_u (s_new (PS I f)).1 0 4 (rqI I q 2) := by
            rw [s_upd, g0, if_neg (fun z => by rcases z with z | z; exact absurd z (by decide); exact absurd z.1 (by decide)), if_neg (by decide), if_pos rfl]
          have e2 : s_ans (s_new (PS I f)) (rqI I q) = (s_new (PS I f)).1 0 4 := by
            rw [s_ans, g0, if_neg (by decide), if_pos rfl]
          refine Lk_act (J := x_u X 107 (f + 1) (X 77 q)) (a := X 107 (f + 1 - 1)) h (by omega) (by omega) hd' hS eJ (by rw [e2]; exact e107) (fun i => (x_u_ne _ _ (by omega)).trans (x5 i)) (fun i => (x_u_ne _ _ (by omega)).trans (e106 i)) (fun k hk => ?_) (fun i hi => (x_u_ne _ _ (by omega)).trans (x7 i hi)) ?_ hu
          · rw [e1, x_u_ne _ _ (by omega), x_u_ne _ _ (by omega)]
            exact e104k k hk
          · rw [e1, x_u_eq, x_u_eq]
            exact e77
theorem f_mem_m {I : xI} {n e s : Nat} (hr : rqV I n) (hc : chV I n) (he : e ≤ 24) (hp : prD I e) (hs : s ≤ e + 3) : f_mem I e s = mM I s := by
  rw [f_mem]
  by_cases h : s ≤ 3
  · rw [if_pos h, mM, if_pos h]
  · rw [if_neg h, (Lk_all hr hc e he hp).2.2.1 (s - 3) (by omega), show s - 3 + 3 = s by omega]
