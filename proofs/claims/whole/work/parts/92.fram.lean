/-! what the reference leaves alone: the cells below 74 and from 108 on -/
def Fo (I J : xI) : Prop := ∀ a i, a < 74 ∨ 108 ≤ a → J a i = I a i
theorem Fo.refl (I : xI) : Fo I I := fun _ _ _ => rfl
theorem Fo.trans {I J K : xI} (h : Fo I J) (h' : Fo J K) : Fo I K := fun a i z => (h' a i z).trans (h a i z)
theorem Fo.u (I : xI) {a i : Nat} {v : Int32} (h1 : 74 ≤ a) (h2 : a < 108) : Fo I (x_u I a i v) := fun b j z => x_u_ne _ _ (by omega)
theorem Fo.ite {I J K : xI} {p : Prop} {hp : Decidable p} (h : Fo I J) (h' : Fo I K) : Fo I (@ite _ p hp J K) := by
  split
  · exact h
  · exact h'
theorem Fo.rp (I : xI) (e : Nat) : Fo I (f_rp I e) := fun a i z => f_rp_o I (by omega) e i
theorem Fo.ml (I : xI) (kd : Int32) (r : Nat) (t b n c : Int32) : Fo I (f_ml I kd r t b n c) := fun a i z => f_ml_o _ _ _ _ _ _ (by omega) (by omega)
theorem Fo.ma (I : xI) (kd : Int32) (r : Nat) (x b n c : Int32) (j : Nat) : Fo I (f_ma I kd r x b n c j) := fun a i z => f_ma_o _ _ _ _ _ _ (by omega) (by omega) j
theorem Fo.cast (I : xI) (r s : Nat) (b c : Int32) : Fo I (f_cast I r s b c) := (Fo.u I (by decide) (by decide)).trans (Fo.u _ (by decide) (by decide))
theorem Fo.prop (I : xI) (r s e : Nat) (c : Int32) : Fo I (f_prop I r s e c) := by
  rw [f_prop]
  have h1 : Fo I (f_prop1 I r s e c) := ((Fo.rp I e).trans (Fo.u _ (by decide) (by decide))).trans (Fo.u _ (by decide) (by decide))
  have h2 : Fo I (f_prop2 I r s e c) := by
    rw [f_prop2]
    exact Fo.ite (h1.trans (Fo.cast _ _ _ _ _)) h1
  exact h2.trans (Fo.ma _ _ _ _ _ _ _ _)
theorem Fo.hear (I : xI) (q : Nat) : Fo I (f_hear I q) := (Fo.u I (by decide) (by decide)).trans (Fo.u _ (by decide) (by decide))
theorem Fo.ex1 (I : xI) (r e : Nat) : Fo I (f_ex1 I r e) := by
  have h1 : Fo I (f_rp (x_u I 83 r (nI (e + 1))) (e + 1)) := (Fo.u I (by decide) (by decide)).trans (Fo.rp _ _)
  rw [f_ex1]
  exact Fo.ite (h1.trans (Fo.hear _ _)) h1
theorem Fo.ex (r : Nat) : ∀ (n e : Nat) (I : xI), Fo I (f_ex I r e n).1 := by
  intro n
  induction n with
  | zero => intro e I; exact Fo.refl I
  | succ n ih =>
    intro e I
    rw [f_ex]
    split
    · exact (Fo.ex1 I r e).trans (ih _ _)
    · exact Fo.refl I
theorem Fo.g2s (I : xI) (r s e : Nat) : Fo I (f_g2s I r s e) := by
  rw [f_g2s]
  exact Fo.ite (Fo.refl I) (Fo.ite (Fo.rp I e) (Fo.ite ((Fo.rp I e).trans (Fo.prop _ _ _ _ _)) (Fo.ite ((Fo.rp I e).trans (Fo.prop _ _ _ _ _)) (Fo.rp I e))))
theorem Fo.go2 (I : xI) (r e : Nat) : ∀ m, Fo I (f_go2 I r e m) := by
  intro m
  induction m with
  | zero => exact Fo.refl I
  | succ m ih => exact ih.trans (Fo.g2s _ _ _ _)
theorem Fo.go (I : xI) (r e : Nat) : Fo I (f_go I r e) := by
  rw [f_go]
  exact Fo.ite ((Fo.ex r _ _ I).trans (Fo.go2 _ _ _ _)) (Fo.ex r _ _ I)
theorem Fo.fg (I : xI) (r : Nat) : ∀ m, Fo I (f_fg I r m).1 := fun m a i z => f_fg_o I r (by omega) m
theorem Fo.inst (I : xI) (r f : Nat) : Fo I (f_inst I r f) := fun a i z => f_inst_o I r f (by omega)
theorem Fo.oPrep (I : xI) (r : Nat) : Fo I (f_oPrep I r) := by
  rw [f_oPrep]
  exact Fo.ite (Fo.ml _ _ _ _ _ _ _) ((Fo.u I (by decide) (by decide)).trans (Fo.ml _ _ _ _ _ _ _))
theorem Fo.oAcc (I : xI) (r s : Nat) : Fo I (f_oAcc I r s) := by
  rw [f_oAcc]
  exact Fo.ite (Fo.ml _ _ _ _ _ _ _) (Fo.ite ((Fo.u I (by decide) (by decide)).trans (Fo.ml _ _ _ _ _ _ _)) (((Fo.u I (by decide) (by decide)).trans (Fo.cast _ _ _ _ _)).trans (Fo.ml _ _ _ _ _ _ _)))
theorem Fo.oLearn (I : xI) (r s e : Nat) : Fo I (f_oLearn I r s e) := by
  rw [f_oLearn]
  exact Fo.ite (Fo.refl I) ((Fo.u I (by decide) (by decide)).trans (Fo.go _ _ _))
theorem Fo.oProm (I : xI) (r f e : Nat) : Fo I (f_oProm I r f e) := by
  rw [f_oProm]
  refine Fo.ite (Fo.trans ?_ (Fo.go _ _ _)) (Fo.refl I)
  intro a i z
  rw [f_oProm1, f_mg_o _ _ (by omega), x_u_ne _ _ (by omega), f_inst_o _ _ _ (by omega)]
theorem Fo.oVot (I : xI) (r s e : Nat) : Fo I (f_oVot I r s e) := by
  have h1 : Fo I (f_oVot1 I r s) := Fo.u I (by decide) (by decide)
  have h2 : Fo I (f_oVot2 I r s e) := by
    rw [f_oVot2]
    exact Fo.ite (h1.trans (Fo.rp _ _)) ((h1.trans (Fo.rp _ _)).trans (Fo.u _ (by decide) (by decide)))
  have h4 : Fo I (f_oVot4 I r s e) := (h2.trans (Fo.u _ (by decide) (by decide))).trans (Fo.ma _ _ _ _ _ _ _ _)
  rw [f_oVot]
  exact Fo.ite (Fo.refl I) (Fo.ite (h4.trans (Fo.go _ _ _)) (h1.trans (Fo.rp _ _)))
theorem Fo.oRef (I : xI) (r : Nat) : Fo I (f_oRef I r) := Fo.u I (by decide) (by decide)
theorem Fo.oFet (I : xI) (r : Nat) : Fo I (f_oFet I r) := by
  rw [f_oFet]
  exact Fo.ite (Fo.refl I) (Fo.ml _ _ _ _ _ _ _)
theorem Fo.oSta (I : xI) (r f e : Nat) : Fo I (f_oSta I r f e) := (Fo.inst I r f).trans (Fo.go _ _ _)
theorem Fo.rm (I : xI) (i : Nat) : Fo I (f_rm I i) := fun a j z => f_rm_o I i (by omega) (by omega)
theorem Fo.copy (I : xI) (i : Nat) : Fo I (f_copy I i) := fun a j z => by rw [f_copy, x_u_ne _ _ (by omega), f_mv_o _ _ _ (by omega)]
theorem Fo.dl2 (I : xI) (i : Nat) : Fo I (f_dl2 I i) := fun a j z => by rw [f_dl2, f_rm_o _ _ (by omega) (by omega), f_dl1_o _ _ (by omega) (by omega)]
theorem Fo.dl (I : xI) (i : Nat) : Fo I (f_dl I i) := (Fo.dl2 I i).trans (Fo.u _ (by decide) (by decide))
theorem Fo.crash (I : xI) (r : Nat) : Fo I (f_crash I r) := (((Fo.u I (by decide) (by decide)).trans (Fo.u _ (by decide) (by decide))).trans (Fo.u _ (by decide) (by decide))).trans (Fo.u _ (by decide) (by decide))
theorem Fo.rst (I : xI) (r : Nat) : Fo I (f_rst I r) := Fo.u I (by decide) (by decide)
theorem Fo.cut (I : xI) (r e : Nat) : Fo I (f_cut I r e).1 := (Fo.u I (by decide) (by decide)).trans (Fo.fg _ _ _)
theorem Fo.ask (I : xI) (kd ky n : Nat) (v : Int32) : Fo I (f_ask I kd ky n v) := (((Fo.u I (by decide) (by decide)).trans (Fo.u _ (by decide) (by decide))).trans (Fo.u _ (by decide) (by decide))).trans (Fo.u _ (by decide) (by decide))
theorem Fo.bg (I : xI) (r b : Nat) : Fo I (f_bg I r b) := fun a i z => (f_bg_at I r b).2.2.2.2 a i (by omega)
theorem Fo.tm0 (I : xI) (e : Nat) : Fo I (f_tm0 I e) := (((Fo.u I (by decide) (by decide)).trans (Fo.rp _ _)).trans (Fo.rp _ _)).trans (Fo.rp _ _)
theorem Fo.tmL (r e : Nat) : ∀ (n s : Nat) (I : xI), Fo I (f_tmL r e n s I) := by
  intro n
  induction n with
  | zero => intro s I; exact Fo.refl I
  | succ n ih =>
    intro s I
    have h1 : Fo I (f_tms I r s e) := by
      rw [f_tms]
      exact Fo.ite (Fo.refl I) ((Fo.rp I e).trans (Fo.ma _ _ _ _ _ _ _ _))
    exact h1.trans (ih _ _)
theorem Fo.tm (I : xI) (r e p : Nat) : Fo I (f_tm I r e p) := by
  rw [f_tm]
  exact Fo.ite (((Fo.tm0 I e).trans (Fo.ma _ _ _ _ _ _ _ _)).trans (Fo.tmL _ _ _ _ _)) (((Fo.tm0 I e).trans (Fo.bg _ _ _)).trans (Fo.ma _ _ _ _ _ _ _ _))
theorem Fo.sn (I : xI) (r q e : Nat) : Fo I (f_sn I r q e).1 := by
  have h0 := Fo.rp I e
  rw [f_sn]
  split
  · exact h0.trans (Fo.hear _ _)
  · split
    · exact h0
    · split
      · exact h0
      · split
        · exact h0
        · split
          · exact h0.trans (Fo.rp _ _)
          · exact (h0.trans (Fo.rp _ _)).trans (Fo.prop _ _ _ _ _)

section RPREF
variable {M : xM} {C : xCC} {J : xI}
theorem stA.ref {p : Nat} {S : xS} (h : stA M p S) (hf : Fo M.2.1 J) : stA (M.1, J, M.2.2) p S := by
  obtain ⟨h0, h1, h2, h3, h4⟩ := h
  exact ⟨h0, h1, fun o i ho hi => (hf _ i (by omega)).trans (h2 o i ho hi), h3, h4⟩
theorem vtA.ref {p : Nat} {g : Nat → Nat → Int32} (h : vtA M p g) (hf : Fo M.2.1 J) : vtA (M.1, J, M.2.2) p g := by
  obtain ⟨h0, h1, h2⟩ := h
  exact ⟨h0, h1, fun o i ho => (hf _ i (by omega)).trans (h2 o i ho)⟩
theorem mgA.ref {a : Nat} {m : xG} (h : mgA M a m) (hf : Fo M.2.1 J) : mgA (M.1, J, M.2.2) a m := by
  obtain ⟨h0, h1, h2, h3, h4⟩ := h
  exact ⟨h0, h1, fun i => (hf _ i (by omega)).trans (h2 i), h3.imp (fun _ _ q => q.ref hf), h4.imp (fun _ _ q => q.ref hf)⟩
theorem Rp.ref (h : Rp M C) (hf : Fo M.2.1 J) : Rp (M.1, J, M.2.2) C := by
  obtain ⟨a1, a2, a3, a4, a5, a6, a7⟩ := h
  refine ⟨fun a i ha => (hf a i (by omega)).trans (a1 a i ha), a2, a3, fun r hr => ?_, ?_, ?_, a7⟩
  · obtain ⟨⟨p, p1, p2⟩, q, q1, q2⟩ := a4 r hr
    exact ⟨⟨p, p1, p2.ref hf⟩, q, q1, q2.ref hf⟩
  · obtain ⟨n, qa, n1, n2, n3, n4⟩ := a5
    refine ⟨n, qa, n1, n2, fun q q1 q2 => ?_, n4⟩
    obtain ⟨k1, k2, k3, k4, k5⟩ := n3 q q1 q2
    exact ⟨k1, k2, k3, fun i => (hf _ i (by omega)).trans (k4 i), k5⟩
  · obtain ⟨w, w1, w2, w3⟩ := a6
    refine ⟨w, w1, w2, fun i hi => ?_⟩
    obtain ⟨a, k1, k2⟩ := w3 i hi
    exact ⟨a, k1, k2.ref hf⟩
end RPREF
