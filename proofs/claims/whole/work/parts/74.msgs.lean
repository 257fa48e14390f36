/-! the reference's messages: put, moved, removed -/
def mgE (I I' : xI) (i j : Nat) : Prop := I' 93 j = I 93 i ∧ I' 94 j = I 94 i ∧ I' 95 j = I 95 i ∧ I' 96 j = I 96 i ∧ I' 97 j = I 97 i ∧ I' 98 j = I 98 i ∧ I' 99 j = I 99 i ∧ ∀ s, s < 25 → I' 100 (25 * j + s) = I 100 (25 * i + s) ∧ I' 101 (25 * j + s) = I 101 (25 * i + s)
theorem mgE.refl (I : xI) (i : Nat) : mgE I I i i := ⟨rfl, rfl, rfl, rfl, rfl, rfl, rfl, fun _ _ => ⟨rfl, rfl⟩⟩
theorem mgE.trans {I I' I'' : xI} {i j k : Nat} (h : mgE I I' i j) (h' : mgE I' I'' j k) : mgE I I'' i k := by
  obtain ⟨a1, a2, a3, a4, a5, a6, a7, a8⟩ := h
  obtain ⟨b1, b2, b3, b4, b5, b6, b7, b8⟩ := h'
  exact ⟨b1.trans a1, b2.trans a2, b3.trans a3, b4.trans a4, b5.trans a5, b6.trans a6, b7.trans a7, fun s hs => ⟨(b8 s hs).1.trans (a8 s hs).1, (b8 s hs).2.trans (a8 s hs).2⟩⟩
theorem mgE.of {I I' : xI} (h : ∀ a i, 93 ≤ a → a ≤ 101 → I' a i = I a i) (i : Nat) : mgE I I' i i := ⟨h _ _ (by decide) (by decide), h _ _ (by decide) (by decide), h _ _ (by decide) (by decide), h _ _ (by decide) (by decide), h _ _ (by decide) (by decide), h _ _ (by decide) (by decide), h _ _ (by decide) (by decide), fun s _ => ⟨h _ _ (by decide) (by decide), h _ _ (by decide) (by decide)⟩⟩
theorem f_fillF_in (I : xI) {a base n j : Nat} (g : Nat → Int32) (h : j < n) : f_fillF I a base n g a (base + j) = g j := by
  rw [f_fillF, if_pos ⟨rfl, by omega, by omega⟩, show base + j - base = j by omega]
theorem f_ml_old {I : xI} (kd : Int32) (r : Nat) (t b n c : Int32) {i : Nat} (hi : i < f_w I) : mgE I (f_ml I kd r t b n c) i i := by
  rw [f_ml, f_mail]
  split
  · exact mgE.refl I i
  · have o : ∀ a, a ≠ 100 → a ≠ 101 → ∀ j, f_fillF (f_fillF (f_mailH I kd r t b n c (f_w I)) 100 (25 * f_w I) 25 (f_mailV I 85 kd r)) 101 (25 * f_w I) 25 (f_mailV I 86 kd r) a j = f_mailH I kd r t b n c (f_w I) a j := fun a h1 h2 j => by
      rw [f_fillF_o _ _ _ _ _ h2, f_fillF_o _ _ _ _ _ h1]
    refine ⟨?_, ?_, ?_, ?_, ?_, ?_, ?_, fun s hs => ⟨?_, ?_⟩⟩
    iterate 7
      rw [o _ (by decide) (by decide)]
      simp only [f_mailH, x_u]
      have q : i ≠ f_w I := by omega
      simp [q]
    · rw [f_fillF_o _ _ _ _ _ (by decide), f_fillF_out _ _ (by omega)]
      simp only [f_mailH, x_u]
      simp
    · rw [f_fillF_out _ _ (by omega), f_fillF_o _ _ _ _ _ (by decide)]
      simp only [f_mailH, x_u]
      simp
def mgN (I I' : xI) (kd : Int32) (r : Nat) (t b n c : Int32) (w : Nat) : Prop := I' 93 w = kd ∧ I' 94 w = nI r ∧ I' 95 w = t ∧ I' 96 w = b ∧ I' 97 w = n ∧ I' 98 w = c ∧ I' 99 w = (if kd = nI 2 then I 82 r else n) ∧ ∀ s, s < 25 → I' 100 (25 * w + s) = f_mailV I 85 kd r s ∧ I' 101 (25 * w + s) = f_mailV I 86 kd r s
theorem f_ml_new {I : xI} (kd : Int32) (r : Nat) (t b n c : Int32) (hw : f_w I ≠ 32) : mgN I (f_ml I kd r t b n c) kd r t b n c (f_w I) := by
  rw [f_ml, f_mail, if_neg hw]
  have o : ∀ a, a ≠ 100 → a ≠ 101 → ∀ j, f_fillF (f_fillF (f_mailH I kd r t b n c (f_w I)) 100 (25 * f_w I) 25 (f_mailV I 85 kd r)) 101 (25 * f_w I) 25 (f_mailV I 86 kd r) a j = f_mailH I kd r t b n c (f_w I) a j := fun a h1 h2 j => by
    rw [f_fillF_o _ _ _ _ _ h2, f_fillF_o _ _ _ _ _ h1]
  refine ⟨?_, ?_, ?_, ?_, ?_, ?_, ?_, fun s hs => ⟨?_, ?_⟩⟩
  iterate 7
    rw [o _ (by decide) (by decide)]
    simp [f_mailH, x_u]
  · rw [f_fillF_o _ _ _ _ _ (by decide), f_fillF_in _ _ hs]
  · rw [f_fillF_in _ _ hs]
theorem f_mv_new (I : xI) (i j : Nat) : mgE I (f_mv I i j) i j := by
  rw [f_mv]
  have o : ∀ a, a ≠ 100 → a ≠ 101 → ∀ m, f_fillF (f_fillF (f_mvH I i j) 100 (25 * j) 25 (fun s => I 100 (25 * i + s))) 101 (25 * j) 25 (fun s => I 101 (25 * i + s)) a m = f_mvH I i j a m := fun a h1 h2 m => by
    rw [f_fillF_o _ _ _ _ _ h2, f_fillF_o _ _ _ _ _ h1]
  refine ⟨?_, ?_, ?_, ?_, ?_, ?_, ?_, fun s hs => ⟨?_, ?_⟩⟩
  iterate 7
    rw [o _ (by decide) (by decide)]
    simp [f_mvH, x_u]
  · rw [f_fillF_o _ _ _ _ _ (by decide), f_fillF_in _ _ hs]
  · rw [f_fillF_in _ _ hs]
theorem f_mv_old (I : xI) (i : Nat) {j k : Nat} (h : k ≠ j) : mgE I (f_mv I i j) k k := by
  rw [f_mv]
  have o : ∀ a, a ≠ 100 → a ≠ 101 → ∀ m, f_fillF (f_fillF (f_mvH I i j) 100 (25 * j) 25 (fun s => I 100 (25 * i + s))) 101 (25 * j) 25 (fun s => I 101 (25 * i + s)) a m = f_mvH I i j a m := fun a h1 h2 m => by
    rw [f_fillF_o _ _ _ _ _ h2, f_fillF_o _ _ _ _ _ h1]
  refine ⟨?_, ?_, ?_, ?_, ?_, ?_, ?_, fun s hs => ⟨?_, ?_⟩⟩
  iterate 7
    rw [o _ (by decide) (by decide)]
    simp [f_mvH, x_u, h]
  · rw [f_fillF_o _ _ _ _ _ (by decide), f_fillF_out _ _ (by omega)]
    simp [f_mvH, x_u]
  · rw [f_fillF_out _ _ (by omega), f_fillF_o _ _ _ _ _ (by decide)]
    simp [f_mvH, x_u]
theorem f_rmL_m (I : xI) (i : Nat) : ∀ m, (∀ j, j < i ∨ i + m ≤ j → mgE I (f_rmL I i m) j j) ∧ ∀ j, i ≤ j → j < i + m → mgE I (f_rmL I i m) (j + 1) j := by
  intro m
  induction m with
  | zero => exact ⟨fun j _ => mgE.refl I j, fun j h1 h2 => by omega⟩
  | succ m ih =>
    obtain ⟨h1, h2⟩ := ih
    rw [f_rmL]
    refine ⟨fun j hj => (h1 j (by omega)).trans (f_mv_old _ _ (by omega)), fun j hj hj2 => ?_⟩
    by_cases e : j = i + m
    · subst e
      have h3 := h1 (i + m + 1) (by omega)
      have h4 := f_mv_new (f_rmL I i m) (i + 1 + m) (i + m)
      rw [show i + 1 + m = i + m + 1 by omega] at h4 ⊢
      exact h3.trans h4
    · exact (h2 j hj (by omega)).trans (f_mv_old _ _ (by omega))
theorem f_rm_m (I : xI) {i : Nat} (hi : i < f_w I) : (∀ j, j < i → mgE I (f_rm I i) j j) ∧ ∀ j, i ≤ j → j < f_w I - 1 → mgE I (f_rm I i) (j + 1) j := by
  obtain ⟨h1, h2⟩ := f_rmL_m I i (f_w I - (i + 1))
  have h3 : ∀ j, mgE (f_rmL I i (f_w I - (i + 1))) (f_rm I i) j j := fun j => mgE.of (fun a m ha _ => x_u_ne _ _ (by omega)) j
  exact ⟨fun j hj => (h1 j (Or.inl hj)).trans (h3 j), fun j hj hj2 => (h2 j hj (by omega)).trans (h3 j)⟩
theorem f_copy_m (I : xI) {i : Nat} : (∀ j, j < f_w I → mgE I (f_copy I i) j j) ∧ mgE I (f_copy I i) i (f_w I) := by
  have h3 : ∀ j, mgE (f_mv I i (f_w I)) (f_copy I i) j j := fun j => mgE.of (fun a m ha _ => x_u_ne _ _ (by omega)) j
  exact ⟨fun j hj => (f_mv_old I i (by omega)).trans (h3 j), (f_mv_new I i _).trans (h3 _)⟩
