/-! the state behind a list of commands, as the class makes it; the reference's replay says the same -/
def s_0 : xS := (fun o i => if o = 0 ∧ (i = 4 ∨ i = 5 ∨ i = 6) then nI 7 else 0, 0)
def rqI (I : xI) (q : Nat) : Nat → Int32 := g_rq (I 75 q) (I 76 q) (I 77 q)
def s_st (I : xI) (S : xS) (x : Int32) : xS := if x = 0 then s_new S else s_aft S x.toNatClampNeg (rqI I x.toNatClampNeg)
def PS (I : xI) : Nat → xS
  | 0 => s_0
  | f + 1 => s_st I (PS I f) (I 80 (f + 1))
/-- the requests, and the commands of the slots -/
def rqV (I : xI) (n : Nat) : Prop := n ≤ 40 ∧ ∀ q, 1 ≤ q → q ≤ n → (∃ k, k ≤ 4 ∧ I 75 q = nI k) ∧ (∃ k, k < 4 ∧ I 76 q = nI k) ∧ (I 75 q = nI 4 → ∃ b, b < 32 ∧ I 77 q = nI b ∧ nI 2 ≤ f_cnt (nI b))
def chV (I : xI) (n : Nat) : Prop := ∀ s, 1 ≤ s → s ≤ 24 → I 80 s = -1 ∨ ∃ q, q ≤ n ∧ I 80 s = nI q
def prD (I : xI) (f : Nat) : Prop := ∀ s, 1 ≤ s → s ≤ f → 0 ≤ I 80 s
theorem prD.le {I : xI} {f g : Nat} (h : prD I f) (hg : g ≤ f) : prD I g := fun s h1 h2 => h s h1 (by omega)
theorem m1_lt : (-1 : Int32) < 0 := by decide
theorem chV.at {I : xI} {n s : Nat} (h : chV I n) (h1 : 1 ≤ s) (h2 : s ≤ 24) (h0 : 0 ≤ I 80 s) : ∃ q, q ≤ n ∧ I 80 s = nI q := by
  rcases h s h1 h2 with e | e
  · rw [e] at h0
    exact absurd m1_lt (Int32.not_lt.mpr h0)
  · exact e
theorem rqV.o {I : xI} {n q : Nat} (h : rqV I n) (h1 : 1 ≤ q) (h2 : q ≤ n) : rqO (rqI I q) := by
  obtain ⟨a1, a2, a3⟩ := h.2 q h1 h2
  exact ⟨a1, a2, fun e => by obtain ⟨b, b1, b2, b3⟩ := a3 e; exact ⟨b, b1, b2⟩⟩
theorem s_act_0 (S : xS) (q : Nat) (g : Nat → Int32) (i : Nat) : (s_act S q g).1 0 i = s_upd S g 0 i := by
  show x_u (s_upd S g) 2 q (s_ans S g) 0 i = _
  exact x_u_ne _ _ (by omega)
theorem s_aft_g {S : xS} {q : Nat} {g g' : Nat → Int32} (h : ∀ i, i < 3 → g i = g' i) : s_aft S q g = s_aft S q g' := by
  have h0 := h 0 (by decide)
  have h1 := h 1 (by decide)
  have h2 := h 2 (by decide)
  simp only [s_aft, s_act, s_upd, s_ans, h0, h1, h2]
theorem PS_g {I J : xI} {f : Nat} (h : ∀ s, 1 ≤ s → s ≤ f → I 80 s = J 80 s ∧ ∀ q, 1 ≤ q → q ≤ 40 → I 80 s = nI q → rqI I q = rqI J q) (hn : ∀ s, 1 ≤ s → s ≤ f → ∃ q, q ≤ 40 ∧ I 80 s = nI q) : PS I f = PS J f := by
  induction f with
  | zero => rfl
  | succ f ih =>
    have ih' := ih (fun s h1 h2 => h s h1 (by omega)) (fun s h1 h2 => hn s h1 (by omega))
    obtain ⟨e, hq⟩ := h (f + 1) (by omega) (by omega)
    obtain ⟨q, q1, q2⟩ := hn (f + 1) (by omega) (by omega)
    rw [PS, PS, ih', ← e, s_st, s_st, q2]
    by_cases h0 : q = 0
    · subst h0
      rw [if_pos nI_zero, if_pos nI_zero]
    · rw [nI_clamp (by omega), hq q (by omega) q1 q2]
theorem s_0_ok : sOK s_0 := ⟨rfl, by decide, fun j h1 h2 => ⟨7, by decide, if_pos ⟨rfl, by omega⟩⟩⟩
theorem PS_ok {I : xI} {n : Nat} (hr : rqV I n) (hc : chV I n) : ∀ f, f ≤ 24 → prD I f → sOK (PS I f) ∧ sl (PS I f) = f := by
  intro f
  induction f with
  | zero => intro _ _; exact ⟨s_0_ok, rfl⟩
  | succ f ih =>
    intro hf hp
    obtain ⟨h1, h2⟩ := ih (by omega) (hp.le (by omega))
    obtain ⟨q, q1, q2⟩ := hc.at (by omega) hf (hp (f + 1) (by omega) (by omega))
    rw [PS, s_st, q2]
    by_cases h0 : q = 0
    · subst h0
      rw [if_pos nI_zero]
      obtain ⟨a1, a2⟩ := s_new_ok h1 (by omega)
      exact ⟨a1, by omega⟩
    · have := hr.1
      rw [if_neg (show ¬ nI q = 0 from fun e => h0 ((nI_eq (b := 0) (by omega) (by omega)).mp e)), nI_clamp (by omega)]
      obtain ⟨a1, a2⟩ := s_aft_ok (g := rqI I q) q h1 (by omega) (hr.o (by omega) q1)
      exact ⟨a1, by omega⟩
/-- the members of a slot -/
def mM (I : xI) (s : Nat) : Int32 := if s ≤ 3 then nI 7 else (PS I (s - 3)).1 0 4
theorem s_st_56 (I : xI) (S : xS) (x : Int32) : (s_st I S x).1 0 5 = S.1 0 4 ∧ (s_st I S x).1 0 6 = S.1 0 5 := by
  have hn : (s_new S).1 0 5 = S.1 0 4 ∧ (s_new S).1 0 6 = S.1 0 5 := ⟨rfl, rfl⟩
  rw [s_st]
  split
  · exact hn
  · rw [s_aft]
    split
    · exact hn
    · have e : ∀ i, i ≠ 4 → (s_act (s_new S) x.toNatClampNeg (rqI I x.toNatClampNeg)).1 0 i = (s_new S).1 0 i := fun i hi => by
        rw [s_act_0, s_upd_0 _ _ hi]
      rw [e 5 (by decide), e 6 (by decide)]
      exact hn
theorem PS_m (I : xI) : ∀ f, (PS I f).1 0 4 = mM I (f + 3) ∧ (PS I f).1 0 5 = mM I (f + 2) ∧ (PS I f).1 0 6 = mM I (f + 1) := by
  intro f
  have h4 : ∀ g, (PS I g).1 0 4 = mM I (g + 3) := fun g => by
    rw [mM]
    split
    · have : g = 0 := by omega
      subst this
      rfl
    · rw [show g + 3 - 3 = g by omega]
  have h5 : ∀ g, (PS I g).1 0 5 = mM I (g + 2) := fun g => by
    cases g with
    | zero => rfl
    | succ g =>
      rw [PS, (s_st_56 I _ _).1]
      exact h4 g
  refine ⟨h4 f, h5 f, ?_⟩
  cases f with
  | zero => rfl
  | succ f =>
    rw [PS, (s_st_56 I _ _).2]
    exact h5 f
theorem PS_mo {I : xI} {e s : Nat} (hs : sl (PS I e) = e) (h1 : e < s) (h2 : s ≤ e + 3) : s_mo (PS I e) s = mM I s := by
  obtain ⟨a, b, c⟩ := PS_m I e
  rw [s_mo, hs]
  by_cases e1 : s = e + 1
  · rw [if_pos e1, e1, c]
  · rw [if_neg e1]
    by_cases e2 : s = e + 2
    · rw [if_pos e2, e2, b]
    · rw [if_neg e2, if_pos (by omega), a, show s = e + 3 by omega]
theorem PS_4 {I : xI} {n : Nat} (hr : rqV I n) (hc : chV I n) : ∀ f, f ≤ 24 → prD I f → ∃ b, b < 32 ∧ (PS I f).1 0 4 = nI b ∧ nI 2 ≤ f_cnt (nI b) := by
  intro f
  induction f with
  | zero => intro _ _; exact ⟨7, by decide, rfl, by decide⟩
  | succ f ih =>
    intro hf hp
    obtain ⟨b, b1, b2, b3⟩ := ih (by omega) (hp.le (by omega))
    obtain ⟨q, q1, q2⟩ := hc.at (by omega) hf (hp (f + 1) (by omega) (by omega))
    rw [PS, s_st, q2]
    by_cases h0 : q = 0
    · subst h0
      rw [if_pos nI_zero]
      exact ⟨b, b1, b2, b3⟩
    · have := hr.1
      rw [if_neg (show ¬ nI q = 0 from fun e => h0 ((nI_eq (b := 0) (by omega) (by omega)).mp e)), nI_clamp (by omega), s_aft]
      split
      · exact ⟨b, b1, b2, b3⟩
      · rw [s_act_0, s_upd_4]
        split
        · rename_i h4
          exact (hr.2 q (by omega) q1).2.2 h4
        · exact ⟨b, b1, b2, b3⟩
theorem mM_ok {I : xI} {n s : Nat} (hr : rqV I n) (hc : chV I n) (hs : s ≤ 27) (hp : prD I (s - 3)) : ∃ b, b < 32 ∧ mM I s = nI b ∧ nI 2 ≤ f_cnt (nI b) := by
  rw [mM]
  split
  · exact ⟨7, by decide, rfl, by decide⟩
  · exact PS_4 hr hc (s - 3) (by omega) hp
theorem mM_g {I J : xI} {s : Nat} (h : PS I (s - 3) = PS J (s - 3)) : mM I s = mM J s := by
  rw [mM, mM, h]
/-- bits of the set of done requests -/
def lb (D : Int64) (q : Nat) : Bool := D.toBitVec.getLsbD q
theorem lb_sh (k : Nat) (hk : k < 64) (i : Nat) (hi : i < 64) : lb (lN 1 <<< ((nI k).toInt64 &&& 63)) i = decide (i = k) := by
  rw [wb_shl 1 hk, lb, wb_tb, BitVec.getLsbD_ofNat, Nat.one_mul, Nat.testBit_two_pow]
  by_cases e : i = k
  · subst e
    simp [hi]
  · simp [e, Ne.symm e]
theorem lb_or (D E : Int64) (i : Nat) : lb (D ||| E) i = (lb D i || lb E i) := by
  rw [lb, lb, lb, Int64.toBitVec_or, BitVec.getLsbD_or]
theorem l_sm : ∀ n, n < 64 → (((nI n).toInt64 &&& 63).toBitVec.smod 64).toNat = n := by decide +kernel
theorem lb_1 : ∀ i, i < 64 → lb (lN 1) i = decide (i = 0) := by decide +kernel
theorem lb_ext {x y : Int64} (h : ∀ i, i < 64 → lb x i = lb y i) : x = y := wb_inj (BitVec.eq_of_getLsbD_eq (fun i hi => h i hi))
theorem lb_and (D E : Int64) (i : Nat) : lb (D &&& E) i = (lb D i && lb E i) := by
  rw [lb, lb, lb, Int64.toBitVec_and, BitVec.getLsbD_and]
theorem lb_shr (D : Int64) {q i : Nat} (hq : q < 64) (hi : i < 64) : lb (D >>> ((nI q).toInt64 &&& 63)) i = if q + i < 64 then lb D (q + i) else lb D 63 := by
  unfold lb
  rw [Int64.toBitVec_shiftRight]
  show (D.toBitVec.sshiftRight (((nI q).toInt64 &&& 63).toBitVec.smod 64).toNat).getLsbD i = _
  rw [l_sm q hq, BitVec.getLsbD_sshiftRight, BitVec.msb_eq_getLsbD_last]
  simp [hi]
theorem lb_bit (D : Int64) {q : Nat} (hq : q < 64) : D >>> ((nI q).toInt64 &&& 63) &&& lN 1 = if lb D q = true then lN 1 else lN 0 := by
  apply lb_ext
  intro i hi
  rw [lb_and, lb_1 i hi, lb_shr D hq hi]
  by_cases h0 : i = 0
  · subst h0
    rw [if_pos (by omega), Nat.add_zero]
    cases lb D q <;> decide
  · rw [decide_eq_false h0, Bool.and_false]
    cases lb D q
    · exact BitVec.getLsbD_zero.symm
    · exact ((lb_1 i hi).trans (decide_eq_false h0)).symm
theorem c_dn_b (D : Int64) (q : Nat) : c_dn D q = (decide (1 ≤ q) && decide (q ≤ 40) && lb D q) := by
  by_cases h : 1 ≤ q ∧ q ≤ 40
  · rw [c_dn, decide_eq_true h.1, decide_eq_true h.2, Bool.true_and, Bool.true_and]
    rw [lb_bit D (by omega)]
    cases lb D q <;> decide
  · rw [c_dn]
    by_cases h1 : 1 ≤ q
    · rw [decide_eq_false (p := q ≤ 40) (by omega)]
      simp
    · rw [decide_eq_false h1]
      simp
