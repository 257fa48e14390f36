/-! the reference's counter of sent messages goes with the number that wait -/
def Cd (I J : xI) : Prop := J 74 20 - J 74 21 = I 74 20 - I 74 21
theorem Cd.refl (I : xI) : Cd I I := rfl
theorem Cd.trans {I J K : xI} (h : Cd I J) (h' : Cd J K) : Cd I K := Eq.trans h' h
theorem Cd.o {I J : xI} (h1 : J 74 20 = I 74 20) (h2 : J 74 21 = I 74 21) : Cd I J := by rw [Cd, h1, h2]
theorem Cd.ite {I J K : xI} {p : Prop} {hp : Decidable p} (h : Cd I J) (h' : Cd I K) : Cd I (@ite _ p hp J K) := by
  split
  · exact h
  · exact h'
theorem i_sub1 (x y : Int32) : x + nI 1 - (y + nI 1) = x - y := by
  apply Int32.toBitVec_inj.mp
  simp only [Int32.toBitVec_sub, Int32.toBitVec_add]
  bv_omega
theorem Cd.ml {I : xI} (hw : f_wok I) (kd : Int32) (r : Nat) (t b n c : Int32) : Cd I (f_ml I kd r t b n c) := by
  rw [f_ml, f_mail]
  split
  · exact Cd.refl I
  · have e20 : f_fillF (f_fillF (f_mailH I kd r t b n c (f_w I)) 100 (25 * f_w I) 25 (f_mailV I 85 kd r)) 101 (25 * f_w I) 25 (f_mailV I 86 kd r) 74 20 = nI (f_w I + 1) := by
      rw [f_fillF_o _ _ _ _ _ (by decide), f_fillF_o _ _ _ _ _ (by decide)]
      simp [f_mailH, x_u]
    have e21 : f_fillF (f_fillF (f_mailH I kd r t b n c (f_w I)) 100 (25 * f_w I) 25 (f_mailV I 85 kd r)) 101 (25 * f_w I) 25 (f_mailV I 86 kd r) 74 21 = I 74 21 + nI 1 := by
      rw [f_fillF_o _ _ _ _ _ (by decide), f_fillF_o _ _ _ _ _ (by decide)]
      simp [f_mailH, x_u]
    rw [Cd, e20, e21, ← nI_add, i_sub1, hw.1]
theorem Cd.ma {I : xI} (hw : f_wok I) (kd : Int32) (r : Nat) (x b n c : Int32) : ∀ j, Cd I (f_ma I kd r x b n c j) := by
  intro j
  induction j with
  | zero => exact Cd.refl I
  | succ j ih =>
    rw [f_ma]
    exact Cd.ite (ih.trans (Cd.ml (f_ma_w _ _ _ _ _ _ hw j) _ _ _ _ _ _)) ih
theorem Cd.rp (I : xI) (e : Nat) : Cd I (f_rp I e) := Cd.o (f_rp_o I (by decide) e 20) (f_rp_o I (by decide) e 21)
theorem Cd.prop {I : xI} (hw : f_wok I) (r s e : Nat) (c : Int32) : Cd I (f_prop I r s e c) := by
  have o : ∀ i, f_prop2 I r s e c 74 i = I 74 i := fun i => f_prop2_o I r s e c (by decide)
  rw [f_prop]
  exact (Cd.o (o 20) (o 21)).trans (Cd.ma (f_wok_eq (o 20) hw) _ _ _ _ _ _ 5)
theorem Cd.ex1 (I : xI) (r e : Nat) : Cd I (f_ex1 I r e) := Cd.o (f_ex1_o I r e (by decide)) (f_ex1_o I r e (by decide))
theorem Cd.ex (r : Nat) : ∀ (n e : Nat) (I : xI), Cd I (f_ex I r e n).1 := by
  intro n
  induction n with
  | zero => intro e I; exact Cd.refl I
  | succ n ih =>
    intro e I
    rw [f_ex]
    split
    · exact (Cd.ex1 I r e).trans (ih _ _)
    · exact Cd.refl I
theorem Cd.g2s {I : xI} (hw : f_wok I) (r s e : Nat) : Cd I (f_g2s I r s e) := by
  have w1 := f_rp_w e hw
  rw [f_g2s]
  exact Cd.ite (Cd.refl I) (Cd.ite (Cd.rp I e) (Cd.ite ((Cd.rp I e).trans (Cd.prop w1 _ _ _ _)) (Cd.ite ((Cd.rp I e).trans (Cd.prop w1 _ _ _ _)) (Cd.rp I e))))
theorem Cd.go2 {I : xI} (hw : f_wok I) (r e : Nat) : ∀ m, Cd I (f_go2 I r e m) := by
  intro m
  induction m with
  | zero => exact Cd.refl I
  | succ m ih => exact ih.trans (Cd.g2s (f_go2_w r e hw m) _ _ _)
theorem f_ex_w {I : xI} (r : Nat) : ∀ n e (I : xI), f_wok I → f_wok (f_ex I r e n).1 := by
  intro n
  induction n with
  | zero => intro e I h; exact h
  | succ n ih =>
    intro e I h
    rw [f_ex]
    split
    · exact ih _ _ (f_wok_eq (f_ex1_o I r e (by decide)) h)
    · exact h
theorem Cd.go {I : xI} (hw : f_wok I) (r e : Nat) : Cd I (f_go I r e) := by
  have h1 := Cd.ex r (24 - e) e I
  rw [f_go]
  exact Cd.ite (h1.trans (Cd.go2 (f_ex_w (I := I) r _ _ I hw) _ _ _)) h1
theorem Cd.u {I : xI} {a i : Nat} {v : Int32} (h : a ≠ 74 ∨ (i ≠ 20 ∧ i ≠ 21)) : Cd I (x_u I a i v) := Cd.o (x_u_ne _ _ (by omega)) (x_u_ne _ _ (by omega))
theorem Cd.oPrep {I : xI} (hw : f_wok I) (r : Nat) : Cd I (f_oPrep I r) := by
  rw [f_oPrep]
  exact Cd.ite (Cd.ml hw _ _ _ _ _ _) ((Cd.u (by omega)).trans (Cd.ml (f_wok_eq (x_u_ne _ _ (by omega)) hw) _ _ _ _ _ _))
theorem Cd.oAcc {I : xI} (hw : f_wok I) (r s : Nat) : Cd I (f_oAcc I r s) := by
  have w1 : f_wok (x_u I 81 r (I 74 32)) := f_wok_eq (x_u_ne _ _ (by omega)) hw
  have o : ∀ i, f_cast (x_u I 81 r (I 74 32)) r s (I 74 32) (I 74 34) 74 i = x_u I 81 r (I 74 32) 74 i := fun i => by rw [f_cast, x_u_ne _ _ (by omega), x_u_ne _ _ (by omega)]
  rw [f_oAcc]
  exact Cd.ite (Cd.ml hw _ _ _ _ _ _) (Cd.ite ((Cd.u (by omega)).trans (Cd.ml w1 _ _ _ _ _ _)) (((Cd.u (by omega)).trans (Cd.o (o 20) (o 21))).trans (Cd.ml (f_wok_eq (o 20) w1) _ _ _ _ _ _)))
theorem Cd.oLearn {I : xI} (hw : f_wok I) (r s e : Nat) : Cd I (f_oLearn I r s e) := by
  rw [f_oLearn]
  exact Cd.ite (Cd.refl I) ((Cd.u (by omega)).trans (Cd.go (f_wok_eq (x_u_ne _ _ (by omega)) hw) _ _))
theorem Cd.oProm {I : xI} (hw : f_wok I) (r f e : Nat) : Cd I (f_oProm I r f e) := by
  have o : ∀ i, f_oProm1 I r f 74 i = I 74 i := fun i => by rw [f_oProm1, f_mg_o _ _ (by decide), x_u_ne _ _ (by omega), f_inst_o _ _ _ (by decide)]
  rw [f_oProm]
  exact Cd.ite ((Cd.o (o 20) (o 21)).trans (Cd.go (f_wok_eq (o 20) hw) _ _)) (Cd.refl I)
theorem Cd.oVot {I : xI} (hw : f_wok I) (r s e : Nat) : Cd I (f_oVot I r s e) := by
  have o3 : ∀ i, f_oVot3 I r s e 74 i = I 74 i := fun i => f_oVot3_o I r s e (by decide)
  have w3 := f_wok_eq (o3 20) hw
  have h4 : Cd I (f_oVot4 I r s e) := (Cd.o (o3 20) (o3 21)).trans (Cd.ma w3 _ _ _ _ _ _ 5)
  have o1 : ∀ i, f_rp (f_oVot1 I r s) e 74 i = I 74 i := fun i => (f_rp_o _ (by decide) e i).trans (f_oVot1_o I r s (by decide))
  rw [f_oVot]
  exact Cd.ite (Cd.refl I) (Cd.ite (h4.trans (Cd.go (f_ma_w _ _ _ _ _ _ w3 5) _ _)) (Cd.o (o1 20) (o1 21)))
theorem Cd.oRef (I : xI) (r : Nat) : Cd I (f_oRef I r) := Cd.u (by omega)
theorem Cd.oFet {I : xI} (hw : f_wok I) (r : Nat) : Cd I (f_oFet I r) := by
  rw [f_oFet]
  exact Cd.ite (Cd.refl I) (Cd.ml hw _ _ _ _ _ _)
theorem Cd.oSta {I : xI} (hw : f_wok I) (r f e : Nat) : Cd I (f_oSta I r f e) := (Cd.o (f_inst_o I r f (by decide)) (f_inst_o I r f (by decide))).trans (Cd.go (f_inst_w r f hw) _ _)
theorem Cd.tmL (r e : Nat) : ∀ (n s : Nat) (I : xI), f_wok I → Cd I (f_tmL r e n s I) := by
  intro n
  induction n with
  | zero => intro s I _; exact Cd.refl I
  | succ n ih =>
    intro s I hw
    have h1 : Cd I (f_tms I r s e) := by
      rw [f_tms]
      exact Cd.ite (Cd.refl I) ((Cd.rp I e).trans (Cd.ma (f_rp_w e hw) _ _ _ _ _ _ 5))
    exact h1.trans (ih _ _ (f_tms_w r s e hw))
theorem i_cnt {x y z : Int32} (h : x - y = z - nI 0) : x - z = y := by
  apply Int32.toBitVec_inj.mp
  have h' := congrArg Int32.toBitVec h
  simp only [Int32.toBitVec_sub] at h' ⊢
  have e0 : (nI 0).toBitVec = 0#32 := rfl
  rw [e0] at h'
  bv_omega
theorem Cd.tm {I : xI} (hw : f_wok I) (r e p : Nat) : f_tm I r e p 74 20 - I 74 20 = f_tm I r e p 74 21 := by
  have o20 : f_tm0 I e 74 20 = I 74 20 := f_tm0_o I e (by decide) (by decide)
  have o21 : f_tm0 I e 74 21 = nI 0 := by
    rw [f_tm0, f_rp_o _ (by decide), f_rp_o _ (by decide), f_rp_o _ (by decide), x_u_eq]
  have w0 := f_wok_eq o20 hw
  have h1 : Cd (f_tm0 I e) (f_tm I r e p) := by
    rw [f_tm]
    have ob : ∀ i, f_bg (f_tm0 I e) r (f_bal p r) 74 i = f_tm0 I e 74 i := fun i => (f_bg_at _ r _).2.2.2.2 74 i (by omega)
    exact Cd.ite ((Cd.ma w0 _ _ _ _ _ _ 5).trans (Cd.tmL _ _ _ _ _ (f_ma_w _ _ _ _ _ _ w0 5))) ((Cd.o (ob 20) (ob 21)).trans (Cd.ma (f_wok_eq (ob 20) w0) _ _ _ _ _ _ 5))
  rw [Cd, o20, o21] at h1
  exact i_cnt h1
