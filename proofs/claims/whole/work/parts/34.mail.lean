/-! the reference: mail and what moves messages -/
section MAIL
variable {Z : xZ} {d k pc nx : Nat} {ls : xL} {st : List Value} {I : xI} {Q : xI → Option Value → Prop} {c : Int32}
theorem WR.gik (hz : zok Z) {ix j : Nat} {v : Int32} (hp : x_P k pc = some (.getfield ix, nx, c, [10, 42, j, 0])) (hv : I 74 j = v) (h : WR Z d k nx ls (.int v :: st) I Q) : WR Z d k pc ls (.ref 74 :: st) I Q := WR.gi hz hp (hv ▸ h)
theorem WR.aik (hz : zok Z) {a n i : Nat} {i' v : Int32} {xs : List Nat} (hp : x_P k pc = some (.iaload, nx, c, xs)) (ha : x_K0[a]? = some (true, 0, n)) (h1 : Nat.ble 74 a = true) (h2 : Nat.ble n 65536 = true) (hx' : i' = nI i) (hi : i < n) (hv : I a i = v) (h : WR Z d k nx ls (.int v :: st) I Q) : WR Z d k pc ls (.int i' :: .ref a :: st) I Q := WR.ai hz hp ha h1 h2 hx' hi (hv ▸ h)
/-- n elements from base on -/
def f_fillF (I : xI) (a base n : Nat) (g : Nat → Int32) : xI := fun b j => if b = a ∧ base ≤ j ∧ j < base + n then g (j - base) else I b j
theorem f_fillF0 (I : xI) (a base : Nat) (g : Nat → Int32) : f_fillF I a base 0 g = I := by
  funext b j
  simp only [f_fillF]
  rw [if_neg (by omega)]
theorem f_fillFS (I : xI) (a base n : Nat) (g : Nat → Int32) {v : Int32} (hv : v = g n) : x_u (f_fillF I a base n g) a (base + n) v = f_fillF I a base (n + 1) g := by
  subst hv
  funext b j
  simp only [x_u, f_fillF]
  by_cases h1 : b = a
  · subst h1
    by_cases h2 : j = base + n
    · subst h2
      rw [if_pos ⟨rfl, rfl⟩, if_pos ⟨rfl, by omega, by omega⟩, Nat.add_sub_cancel_left]
    · rw [if_neg (fun q => h2 q.2)]
      by_cases h3 : base ≤ j ∧ j < base + n
      · rw [if_pos ⟨rfl, h3⟩, if_pos ⟨rfl, h3.1, by omega⟩]
      · rw [if_neg (fun q => h3 q.2), if_neg (fun q => h3 ⟨q.2.1, by omega⟩)]
  · simp [h1]
theorem f_fillF_o (I : xI) {a b : Nat} (base n j : Nat) (g : Nat → Int32) (h : b ≠ a) : f_fillF I a base n g b j = I b j := by
  simp only [f_fillF]
  rw [if_neg (fun q => h q.1)]
theorem f_fillF_ne (I : xI) {a b : Nat} (base n i : Nat) (g : Nat → Int32) (w : Int32) (h : a ≠ b) : f_fillF (x_u I b i w) a base n g = x_u (f_fillF I a base n g) b i w := by
  funext c j
  simp only [f_fillF, x_u]
  by_cases h1 : c = a
  · subst h1; simp [h]
  · simp [h1]
def f_mailH (I : xI) (kd : Int32) (r : Nat) (t b n c : Int32) (w : Nat) : xI :=
  x_u (x_u (x_u (x_u (x_u (x_u (x_u (x_u (x_u I 74 20 (nI (w + 1))) 74 21 (I 74 21 + nI 1)) 93 w kd) 94 w (nI r)) 95 w t) 96 w b) 97 w n) 98 w c) 99 w (if kd = nI 2 then I 82 r else n)
def f_mailV (I : xI) (a : Nat) (kd : Int32) (r : Nat) : Nat → Int32 := fun s => if kd = nI 2 then I a (25 * r + s) else nI 0
def f_mail (I : xI) (kd : Int32) (r : Nat) (t b n c : Int32) (w : Nat) : xI :=
  if w = 32 then I else f_fillF (f_fillF (f_mailH I kd r t b n c w) 100 (25 * w) 25 (f_mailV I 85 kd r)) 101 (25 * w) 25 (f_mailV I 86 kd r)
set_option maxHeartbeats 4000000 in
theorem r_mail (d : Nat) (I : xI) (kd : Int32) {r : Nat} (t b n c : Int32) {w : Nat} (hr : r < 5) (hw : I 74 20 = nI w) (hw2 : w ≤ 32) (hz : zok Z) : ER Z (d + 1) 111 I [.ref 74, .int kd, .int (nI r), .int t, .int b, .int n, .int c] (fun I' v => I' = f_mail I kd r t b n c w ∧ v = none) := by
  by_cases h32 : w = 32
  · refine ER.of (ls := [some (.ref 74), some (.int kd), some (.int (nI r)), some (.int t), some (.int b), some (.int n), some (.int c), none, none]) rfl rfl ?_
    repeat' (first
      | (with_reducible refine WR.lt (by omega) (by omega) (fun _ => ?_) (fun _ => ?_) <;> try (exfalso; omega))
      | (with_reducible refine WR.le (by omega) (by omega) (fun _ => ?_) (fun _ => ?_) <;> try (exfalso; omega))
      | (with_reducible refine WR.eq (by omega) (by omega) (fun _ => ?_) (fun _ => ?_) <;> try (exfalso; omega))
      | (with_reducible refine WR.ne (by omega) (by omega) (fun _ => ?_) (fun _ => ?_) <;> try (exfalso; omega))
      | with_reducible refine WR.lt0 (by omega) ?_
      | with_reducible refine WR.ge0 (by omega) ?_
      | (with_reducible refine WR.br (fun _ => ?_) (fun _ => ?_) <;> try contradiction)
      | refine WR.gik hz rfl (by assumption) ?_
      | refine WR.gi hz rfl ?_
      | refine WR.gr hz rfl rfl ?_
      | refine WR.addn rfl (by with_reducible rfl) (by with_reducible rfl) ?_
      | refine WR.muln rfl (by with_reducible rfl) (by with_reducible rfl) ?_
      | refine WR.subn rfl (by with_reducible rfl) (by with_reducible rfl) (by omega) ?_
      | (refine WR.incn rfl rfl ?_; dsimp only [List.set])
      | (refine WR.go rfl rfl ?_; try dsimp only [List.set])
      | refine WR.aik hz rfl rfl rfl rfl (by first | with_reducible rfl | assumption) (by omega) (by assumption) ?_
      | refine WR.ai hz rfl rfl rfl rfl (by first | with_reducible rfl | assumption) (by omega) ?_
      | refine WR.si hz rfl rfl rfl rfl (by first | with_reducible rfl | assumption) (by omega) ?_
      | refine WR.az hz rfl rfl rfl rfl (by first | with_reducible rfl | assumption) (by omega) ?_
      | refine WR.sz hz rfl rfl rfl rfl (by first | with_reducible rfl | assumption) (by omega) (by decide) ?_
      | refine WR.pi hz rfl ?_
      | refine WR.rt rfl rfl rfl rfl ?_
      | refine WR.rz rfl rfl (by decide) ?_)
    exact ⟨by simp [f_mail, h32], rfl⟩
  · refine ER.of (ls := [some (.ref 74), some (.int kd), some (.int (nI r)), some (.int t), some (.int b), some (.int n), some (.int c), none, none]) rfl rfl ?_
    have key : ∀ J : xI, (∀ j, J 85 j = I 85 j) → (∀ j, J 86 j = I 86 j) → (f_mailH I kd r t b n c w = J) → WR Z d 111 113 [some (.ref 74), some (.int kd), some (.int (nI r)), some (.int t), some (.int b), some (.int n), some (.int c), some (.int (nI w)), some (.int (nI 0))] [] J (fun I' v => I' = f_mail I kd r t b n c w ∧ v = none) := by
      intro J h85 h86 hJ
      refine WR.cast (by rw [f_fillF0, f_fillF0]) (WR.loop (fun i => f_fillF (f_fillF J 100 (25 * w) i (f_mailV I 85 kd r)) 101 (25 * w) i (f_mailV I 86 kd r)) (fun i => [some (.ref 74), some (.int kd), some (.int (nI r)), some (.int t), some (.int b), some (.int n), some (.int c), some (.int (nI w)), some (.int (nI i))]) 25 ?_ (fun i hi hk => ?_) 25 0 rfl)
      · iterate 5 (first
      | (with_reducible refine WR.lt (by omega) (by omega) (fun _ => ?_) (fun _ => ?_) <;> try (exfalso; omega))
      | (with_reducible refine WR.le (by omega) (by omega) (fun _ => ?_) (fun _ => ?_) <;> try (exfalso; omega))
      | (with_reducible refine WR.eq (by omega) (by omega) (fun _ => ?_) (fun _ => ?_) <;> try (exfalso; omega))
      | (with_reducible refine WR.ne (by omega) (by omega) (fun _ => ?_) (fun _ => ?_) <;> try (exfalso; omega))
      | with_reducible refine WR.lt0 (by omega) ?_
      | with_reducible refine WR.ge0 (by omega) ?_
      | (with_reducible refine WR.br (fun _ => ?_) (fun _ => ?_) <;> try contradiction)
      | refine WR.gik hz rfl (by assumption) ?_
      | refine WR.gi hz rfl ?_
      | refine WR.gr hz rfl rfl ?_
      | refine WR.addn rfl (by with_reducible rfl) (by with_reducible rfl) ?_
      | refine WR.muln rfl (by with_reducible rfl) (by with_reducible rfl) ?_
      | refine WR.subn rfl (by with_reducible rfl) (by with_reducible rfl) (by omega) ?_
      | (refine WR.incn rfl rfl ?_; dsimp only [List.set])
      | (refine WR.go rfl rfl ?_; try dsimp only [List.set])
      | refine WR.aik hz rfl rfl rfl rfl (by first | with_reducible rfl | assumption) (by omega) (by assumption) ?_
      | refine WR.ai hz rfl rfl rfl rfl (by first | with_reducible rfl | assumption) (by omega) ?_
      | refine WR.si hz rfl rfl rfl rfl (by first | with_reducible rfl | assumption) (by omega) ?_
      | refine WR.az hz rfl rfl rfl rfl (by first | with_reducible rfl | assumption) (by omega) ?_
      | refine WR.sz hz rfl rfl rfl rfl (by first | with_reducible rfl | assumption) (by omega) (by decide) ?_
      | refine WR.pi hz rfl ?_
      | refine WR.rt rfl rfl rfl rfl ?_
      | refine WR.rz rfl rfl (by decide) ?_)
        refine ⟨?_, rfl⟩
        rw [f_mail, if_neg h32, hJ]
      · by_cases hkd : kd = nI 2
        · repeat' (first | with_reducible refine WR.cast ?_ hk | (first
      | (with_reducible refine WR.lt (by omega) (by omega) (fun _ => ?_) (fun _ => ?_) <;> try (exfalso; omega))
      | (with_reducible refine WR.le (by omega) (by omega) (fun _ => ?_) (fun _ => ?_) <;> try (exfalso; omega))
      | (with_reducible refine WR.eq (by omega) (by omega) (fun _ => ?_) (fun _ => ?_) <;> try (exfalso; omega))
      | (with_reducible refine WR.ne (by omega) (by omega) (fun _ => ?_) (fun _ => ?_) <;> try (exfalso; omega))
      | with_reducible refine WR.lt0 (by omega) ?_
      | with_reducible refine WR.ge0 (by omega) ?_
      | (with_reducible refine WR.br (fun _ => ?_) (fun _ => ?_) <;> try contradiction)
      | refine WR.gik hz rfl (by assumption) ?_
      | refine WR.gi hz rfl ?_
      | refine WR.gr hz rfl rfl ?_
      | refine WR.addn rfl (by with_reducible rfl) (by with_reducible rfl) ?_
      | refine WR.muln rfl (by with_reducible rfl) (by with_reducible rfl) ?_
      | refine WR.subn rfl (by with_reducible rfl) (by with_reducible rfl) (by omega) ?_
      | (refine WR.incn rfl rfl ?_; dsimp only [List.set])
      | (refine WR.go rfl rfl ?_; try dsimp only [List.set])
      | refine WR.aik hz rfl rfl rfl rfl (by first | with_reducible rfl | assumption) (by omega) (by assumption) ?_
      | refine WR.ai hz rfl rfl rfl rfl (by first | with_reducible rfl | assumption) (by omega) ?_
      | refine WR.si hz rfl rfl rfl rfl (by first | with_reducible rfl | assumption) (by omega) ?_
      | refine WR.az hz rfl rfl rfl rfl (by first | with_reducible rfl | assumption) (by omega) ?_
      | refine WR.sz hz rfl rfl rfl rfl (by first | with_reducible rfl | assumption) (by omega) (by decide) ?_
      | refine WR.pi hz rfl ?_
      | refine WR.rt rfl rfl rfl rfl ?_
      | refine WR.rz rfl rfl (by decide) ?_))
          rw [← f_fillF_ne _ _ _ _ _ _ (by decide), f_fillFS _ _ _ _ _ ?_, f_fillFS _ _ _ _ _ ?_]
          · rw [f_mailV, if_pos hkd, f_fillF_o _ _ _ _ _ (by decide), f_fillF_o _ _ _ _ _ (by decide), h85]
          · rw [f_mailV, if_pos hkd, f_fillF_o _ _ _ _ _ (by decide), x_u_ne _ _ (by simp), f_fillF_o _ _ _ _ _ (by decide), h86]
        · repeat' (first | with_reducible refine WR.cast ?_ hk | (first
      | (with_reducible refine WR.lt (by omega) (by omega) (fun _ => ?_) (fun _ => ?_) <;> try (exfalso; omega))
      | (with_reducible refine WR.le (by omega) (by omega) (fun _ => ?_) (fun _ => ?_) <;> try (exfalso; omega))
      | (with_reducible refine WR.eq (by omega) (by omega) (fun _ => ?_) (fun _ => ?_) <;> try (exfalso; omega))
      | (with_reducible refine WR.ne (by omega) (by omega) (fun _ => ?_) (fun _ => ?_) <;> try (exfalso; omega))
      | with_reducible refine WR.lt0 (by omega) ?_
      | with_reducible refine WR.ge0 (by omega) ?_
      | (with_reducible refine WR.br (fun _ => ?_) (fun _ => ?_) <;> try contradiction)
      | refine WR.gik hz rfl (by assumption) ?_
      | refine WR.gi hz rfl ?_
      | refine WR.gr hz rfl rfl ?_
      | refine WR.addn rfl (by with_reducible rfl) (by with_reducible rfl) ?_
      | refine WR.muln rfl (by with_reducible rfl) (by with_reducible rfl) ?_
      | refine WR.subn rfl (by with_reducible rfl) (by with_reducible rfl) (by omega) ?_
      | (refine WR.incn rfl rfl ?_; dsimp only [List.set])
      | (refine WR.go rfl rfl ?_; try dsimp only [List.set])
      | refine WR.aik hz rfl rfl rfl rfl (by first | with_reducible rfl | assumption) (by omega) (by assumption) ?_
      | refine WR.ai hz rfl rfl rfl rfl (by first | with_reducible rfl | assumption) (by omega) ?_
      | refine WR.si hz rfl rfl rfl rfl (by first | with_reducible rfl | assumption) (by omega) ?_
      | refine WR.az hz rfl rfl rfl rfl (by first | with_reducible rfl | assumption) (by omega) ?_
      | refine WR.sz hz rfl rfl rfl rfl (by first | with_reducible rfl | assumption) (by omega) (by decide) ?_
      | refine WR.pi hz rfl ?_
      | refine WR.rt rfl rfl rfl rfl ?_
      | refine WR.rz rfl rfl (by decide) ?_))
          rw [← f_fillF_ne _ _ _ _ _ _ (by decide), f_fillFS _ _ _ _ _ ?_, f_fillFS _ _ _ _ _ ?_]
          · rw [f_mailV, if_neg hkd]
          · rw [f_mailV, if_neg hkd]
    by_cases hkd : kd = nI 2
    · iterate 65 (first
      | (with_reducible refine WR.lt (by omega) (by omega) (fun _ => ?_) (fun _ => ?_) <;> try (exfalso; omega))
      | (with_reducible refine WR.le (by omega) (by omega) (fun _ => ?_) (fun _ => ?_) <;> try (exfalso; omega))
      | (with_reducible refine WR.eq (by omega) (by omega) (fun _ => ?_) (fun _ => ?_) <;> try (exfalso; omega))
      | (with_reducible refine WR.ne (by omega) (by omega) (fun _ => ?_) (fun _ => ?_) <;> try (exfalso; omega))
      | with_reducible refine WR.lt0 (by omega) ?_
      | with_reducible refine WR.ge0 (by omega) ?_
      | (with_reducible refine WR.br (fun _ => ?_) (fun _ => ?_) <;> try contradiction)
      | refine WR.gik hz rfl (by assumption) ?_
      | refine WR.gi hz rfl ?_
      | refine WR.gr hz rfl rfl ?_
      | refine WR.addn rfl (by with_reducible rfl) (by with_reducible rfl) ?_
      | refine WR.muln rfl (by with_reducible rfl) (by with_reducible rfl) ?_
      | refine WR.subn rfl (by with_reducible rfl) (by with_reducible rfl) (by omega) ?_
      | (refine WR.incn rfl rfl ?_; dsimp only [List.set])
      | (refine WR.go rfl rfl ?_; try dsimp only [List.set])
      | refine WR.aik hz rfl rfl rfl rfl (by first | with_reducible rfl | assumption) (by omega) (by assumption) ?_
      | refine WR.ai hz rfl rfl rfl rfl (by first | with_reducible rfl | assumption) (by omega) ?_
      | refine WR.si hz rfl rfl rfl rfl (by first | with_reducible rfl | assumption) (by omega) ?_
      | refine WR.az hz rfl rfl rfl rfl (by first | with_reducible rfl | assumption) (by omega) ?_
      | refine WR.sz hz rfl rfl rfl rfl (by first | with_reducible rfl | assumption) (by omega) (by decide) ?_
      | refine WR.pi hz rfl ?_
      | refine WR.rt rfl rfl rfl rfl ?_
      | refine WR.rz rfl rfl (by decide) ?_)
      refine WR.cast (I2 := f_mailH I kd r t b n c w) ?_ (key _ ?_ ?_ rfl)
      · simp [f_mailH, hkd, x_u]
      · intro j; simp [f_mailH, x_u]
      · intro j; simp [f_mailH, x_u]
    · iterate 61 (first
      | (with_reducible refine WR.lt (by omega) (by omega) (fun _ => ?_) (fun _ => ?_) <;> try (exfalso; omega))
      | (with_reducible refine WR.le (by omega) (by omega) (fun _ => ?_) (fun _ => ?_) <;> try (exfalso; omega))
      | (with_reducible refine WR.eq (by omega) (by omega) (fun _ => ?_) (fun _ => ?_) <;> try (exfalso; omega))
      | (with_reducible refine WR.ne (by omega) (by omega) (fun _ => ?_) (fun _ => ?_) <;> try (exfalso; omega))
      | with_reducible refine WR.lt0 (by omega) ?_
      | with_reducible refine WR.ge0 (by omega) ?_
      | (with_reducible refine WR.br (fun _ => ?_) (fun _ => ?_) <;> try contradiction)
      | refine WR.gik hz rfl (by assumption) ?_
      | refine WR.gi hz rfl ?_
      | refine WR.gr hz rfl rfl ?_
      | refine WR.addn rfl (by with_reducible rfl) (by with_reducible rfl) ?_
      | refine WR.muln rfl (by with_reducible rfl) (by with_reducible rfl) ?_
      | refine WR.subn rfl (by with_reducible rfl) (by with_reducible rfl) (by omega) ?_
      | (refine WR.incn rfl rfl ?_; dsimp only [List.set])
      | (refine WR.go rfl rfl ?_; try dsimp only [List.set])
      | refine WR.aik hz rfl rfl rfl rfl (by first | with_reducible rfl | assumption) (by omega) (by assumption) ?_
      | refine WR.ai hz rfl rfl rfl rfl (by first | with_reducible rfl | assumption) (by omega) ?_
      | refine WR.si hz rfl rfl rfl rfl (by first | with_reducible rfl | assumption) (by omega) ?_
      | refine WR.az hz rfl rfl rfl rfl (by first | with_reducible rfl | assumption) (by omega) ?_
      | refine WR.sz hz rfl rfl rfl rfl (by first | with_reducible rfl | assumption) (by omega) (by decide) ?_
      | refine WR.pi hz rfl ?_
      | refine WR.rt rfl rfl rfl rfl ?_
      | refine WR.rz rfl rfl (by decide) ?_)
      refine WR.cast (I2 := f_mailH I kd r t b n c w) ?_ (key _ ?_ ?_ rfl)
      · simp [f_mailH, hkd, x_u]
      · intro j; simp [f_mailH, x_u]
      · intro j; simp [f_mailH, x_u]
/-- how many messages wait -/
def f_w (I : xI) : Nat := (I 74 20).toNatClampNeg
def f_wok (I : xI) : Prop := I 74 20 = nI (f_w I) ∧ f_w I ≤ 32
theorem f_wok_of {I : xI} {w : Nat} (h : I 74 20 = nI w) (hw : w ≤ 32) : f_wok I ∧ f_w I = w := by
  have h1 : f_w I = w := by rw [f_w, h]; exact nI_clamp (by omega)
  exact ⟨⟨by rw [h1]; exact h, by omega⟩, h1⟩
def f_ml (I : xI) (kd : Int32) (r : Nat) (t b n c : Int32) : xI := f_mail I kd r t b n c (f_w I)
theorem f_ml_w {I : xI} (kd : Int32) (r : Nat) (t b n c : Int32) (h : f_wok I) : f_wok (f_ml I kd r t b n c) ∧ f_w (f_ml I kd r t b n c) = if f_w I = 32 then 32 else f_w I + 1 := by
  by_cases h2 : f_w I = 32
  · have e : f_ml I kd r t b n c = I := by rw [f_ml, f_mail, if_pos h2]
    rw [e, if_pos h2]
    exact ⟨h, h2⟩
  · rw [if_neg h2]
    refine f_wok_of ?_ (by have := h.2; omega)
    rw [f_ml, f_mail, if_neg h2, f_fillF_o _ _ _ _ _ (by decide), f_fillF_o _ _ _ _ _ (by decide)]
    simp [f_mailH, x_u]
theorem f_ml_o {I : xI} (kd : Int32) (r : Nat) (t b n c : Int32) {a i : Nat} (h : a < 93 ∨ 101 < a) (h2 : a ≠ 74 ∨ (i ≠ 20 ∧ i ≠ 21)) : f_ml I kd r t b n c a i = I a i := by
  rw [f_ml, f_mail]
  split
  · rfl
  · rw [f_fillF_o _ _ _ _ _ (by omega), f_fillF_o _ _ _ _ _ (by omega)]
    have e1 : ¬ a = 93 := by omega
    have e2 : ¬ a = 94 := by omega
    have e3 : ¬ a = 95 := by omega
    have e4 : ¬ a = 96 := by omega
    have e5 : ¬ a = 97 := by omega
    have e6 : ¬ a = 98 := by omega
    have e7 : ¬ a = 99 := by omega
    rcases h2 with h2 | h2 <;> simp [f_mailH, x_u, h2, e1, e2, e3, e4, e5, e6, e7]
def f_ma (I : xI) (kd : Int32) (r : Nat) (set b n c : Int32) : Nat → xI
  | 0 => I
  | j + 1 => if j ≠ r ∧ f_bit set (nI j) = true then f_ml (f_ma I kd r set b n c j) kd r (nI j) b n c else f_ma I kd r set b n c j
theorem f_ma_w {I : xI} (kd : Int32) (r : Nat) (set b n c : Int32) (h : f_wok I) : ∀ j, f_wok (f_ma I kd r set b n c j) := by
  intro j
  induction j with
  | zero => exact h
  | succ j ih =>
    simp only [f_ma]
    split
    · exact (f_ml_w _ _ _ _ _ _ ih).1
    · exact ih
set_option maxHeartbeats 4000000 in
theorem r_mailAll (d : Nat) (I : xI) (kd : Int32) {r : Nat} (set b n c : Int32) (hr : r < 5) (hw : f_wok I) (hz : zok Z) : ER Z (d + 2) 110 I [.ref 74, .int kd, .int (nI r), .int set, .int b, .int n, .int c] (fun I' v => I' = f_ma I kd r set b n c 5 ∧ v = none) := by
  refine ER.of (ls := [some (.ref 74), some (.int kd), some (.int (nI r)), some (.int set), some (.int b), some (.int n), some (.int c), none]) rfl rfl ?_
  iterate 2 (first
      | (with_reducible refine WR.lt (by omega) (by omega) (fun _ => ?_) (fun _ => ?_) <;> try (exfalso; omega))
      | (with_reducible refine WR.le (by omega) (by omega) (fun _ => ?_) (fun _ => ?_) <;> try (exfalso; omega))
      | (with_reducible refine WR.eq (by omega) (by omega) (fun _ => ?_) (fun _ => ?_) <;> try (exfalso; omega))
      | (with_reducible refine WR.ne (by omega) (by omega) (fun _ => ?_) (fun _ => ?_) <;> try (exfalso; omega))
      | with_reducible refine WR.lt0 (by omega) ?_
      | with_reducible refine WR.ge0 (by omega) ?_
      | (with_reducible refine WR.br (fun _ => ?_) (fun _ => ?_) <;> try contradiction)
      | refine WR.gik hz rfl (by assumption) ?_
      | refine WR.gi hz rfl ?_
      | refine WR.gr hz rfl rfl ?_
      | refine WR.addn rfl (by with_reducible rfl) (by with_reducible rfl) ?_
      | refine WR.muln rfl (by with_reducible rfl) (by with_reducible rfl) ?_
      | refine WR.subn rfl (by with_reducible rfl) (by with_reducible rfl) (by omega) ?_
      | (refine WR.incn rfl rfl ?_; dsimp only [List.set])
      | (refine WR.go rfl rfl ?_; try dsimp only [List.set])
      | refine WR.aik hz rfl rfl rfl rfl (by first | with_reducible rfl | assumption) (by omega) (by assumption) ?_
      | refine WR.ai hz rfl rfl rfl rfl (by first | with_reducible rfl | assumption) (by omega) ?_
      | refine WR.si hz rfl rfl rfl rfl (by first | with_reducible rfl | assumption) (by omega) ?_
      | refine WR.az hz rfl rfl rfl rfl (by first | with_reducible rfl | assumption) (by omega) ?_
      | refine WR.sz hz rfl rfl rfl rfl (by first | with_reducible rfl | assumption) (by omega) (by decide) ?_
      | refine WR.pi hz rfl ?_
      | refine WR.rt rfl rfl rfl rfl ?_
      | refine WR.rz rfl rfl (by decide) ?_)
  refine WR.loop (fun i => f_ma I kd r set b n c i) (fun i => [some (.ref 74), some (.int kd), some (.int (nI r)), some (.int set), some (.int b), some (.int n), some (.int c), some (.int (nI i))]) 5 ?_ (fun i hi hk => ?_) 5 0 rfl
  · iterate 5 (first
      | (with_reducible refine WR.lt (by omega) (by omega) (fun _ => ?_) (fun _ => ?_) <;> try (exfalso; omega))
      | (with_reducible refine WR.le (by omega) (by omega) (fun _ => ?_) (fun _ => ?_) <;> try (exfalso; omega))
      | (with_reducible refine WR.eq (by omega) (by omega) (fun _ => ?_) (fun _ => ?_) <;> try (exfalso; omega))
      | (with_reducible refine WR.ne (by omega) (by omega) (fun _ => ?_) (fun _ => ?_) <;> try (exfalso; omega))
      | with_reducible refine WR.lt0 (by omega) ?_
      | with_reducible refine WR.ge0 (by omega) ?_
      | (with_reducible refine WR.br (fun _ => ?_) (fun _ => ?_) <;> try contradiction)
      | refine WR.gik hz rfl (by assumption) ?_
      | refine WR.gi hz rfl ?_
      | refine WR.gr hz rfl rfl ?_
      | refine WR.addn rfl (by with_reducible rfl) (by with_reducible rfl) ?_
      | refine WR.muln rfl (by with_reducible rfl) (by with_reducible rfl) ?_
      | refine WR.subn rfl (by with_reducible rfl) (by with_reducible rfl) (by omega) ?_
      | (refine WR.incn rfl rfl ?_; dsimp only [List.set])
      | (refine WR.go rfl rfl ?_; try dsimp only [List.set])
      | refine WR.aik hz rfl rfl rfl rfl (by first | with_reducible rfl | assumption) (by omega) (by assumption) ?_
      | refine WR.ai hz rfl rfl rfl rfl (by first | with_reducible rfl | assumption) (by omega) ?_
      | refine WR.si hz rfl rfl rfl rfl (by first | with_reducible rfl | assumption) (by omega) ?_
      | refine WR.az hz rfl rfl rfl rfl (by first | with_reducible rfl | assumption) (by omega) ?_
      | refine WR.sz hz rfl rfl rfl rfl (by first | with_reducible rfl | assumption) (by omega) (by decide) ?_
      | refine WR.pi hz rfl ?_
      | refine WR.rt rfl rfl rfl rfl ?_
      | refine WR.rz rfl rfl (by decide) ?_)
    exact ⟨rfl, rfl⟩
  · have hwi := f_ma_w kd r set b n c hw i
    simp only [f_ma] at hk
    repeat' (first | with_reducible refine WR.cast ?_ hk | (first
      | (with_reducible refine WR.lt (by omega) (by omega) (fun _ => ?_) (fun _ => ?_) <;> try (exfalso; omega))
      | (with_reducible refine WR.le (by omega) (by omega) (fun _ => ?_) (fun _ => ?_) <;> try (exfalso; omega))
      | (with_reducible refine WR.eq (by omega) (by omega) (fun _ => ?_) (fun _ => ?_) <;> try (exfalso; omega))
      | (with_reducible refine WR.ne (by omega) (by omega) (fun _ => ?_) (fun _ => ?_) <;> try (exfalso; omega))
      | with_reducible refine WR.lt0 (by omega) ?_
      | with_reducible refine WR.ge0 (by omega) ?_
      | (with_reducible refine WR.br (fun _ => ?_) (fun _ => ?_) <;> try contradiction)
      | refine WR.gik hz rfl (by assumption) ?_
      | refine WR.gi hz rfl ?_
      | refine WR.gr hz rfl rfl ?_
      | refine WR.addn rfl (by with_reducible rfl) (by with_reducible rfl) ?_
      | refine WR.muln rfl (by with_reducible rfl) (by with_reducible rfl) ?_
      | refine WR.subn rfl (by with_reducible rfl) (by with_reducible rfl) (by omega) ?_
      | (refine WR.incn rfl rfl ?_; dsimp only [List.set])
      | (refine WR.go rfl rfl ?_; try dsimp only [List.set])
      | refine WR.aik hz rfl rfl rfl rfl (by first | with_reducible rfl | assumption) (by omega) (by assumption) ?_
      | refine WR.ai hz rfl rfl rfl rfl (by first | with_reducible rfl | assumption) (by omega) ?_
      | refine WR.si hz rfl rfl rfl rfl (by first | with_reducible rfl | assumption) (by omega) ?_
      | refine WR.az hz rfl rfl rfl rfl (by first | with_reducible rfl | assumption) (by omega) ?_
      | refine WR.sz hz rfl rfl rfl rfl (by first | with_reducible rfl | assumption) (by omega) (by decide) ?_
      | refine WR.pi hz rfl ?_
      | refine WR.rt rfl rfl rfl rfl ?_
      | refine WR.rz rfl rfl (by decide) ?_))
    · rename_i h; rw [if_neg (by omega)]
    · rename_i h1 h2
      rw [if_neg (fun q => by have q2 := q.2; simp only [f_bit, decide_eq_true_eq] at q2; exact h2 q2)]
    · rename_i h1 h2
      refine WR.V6v hz rfl rfl (r_mail d _ kd (nI i) b n c hr hwi.1 hwi.2 hz) ?_
      repeat' (first | with_reducible refine WR.cast ?_ hk | (first
      | (with_reducible refine WR.lt (by omega) (by omega) (fun _ => ?_) (fun _ => ?_) <;> try (exfalso; omega))
      | (with_reducible refine WR.le (by omega) (by omega) (fun _ => ?_) (fun _ => ?_) <;> try (exfalso; omega))
      | (with_reducible refine WR.eq (by omega) (by omega) (fun _ => ?_) (fun _ => ?_) <;> try (exfalso; omega))
      | (with_reducible refine WR.ne (by omega) (by omega) (fun _ => ?_) (fun _ => ?_) <;> try (exfalso; omega))
      | with_reducible refine WR.lt0 (by omega) ?_
      | with_reducible refine WR.ge0 (by omega) ?_
      | (with_reducible refine WR.br (fun _ => ?_) (fun _ => ?_) <;> try contradiction)
      | refine WR.gik hz rfl (by assumption) ?_
      | refine WR.gi hz rfl ?_
      | refine WR.gr hz rfl rfl ?_
      | refine WR.addn rfl (by with_reducible rfl) (by with_reducible rfl) ?_
      | refine WR.muln rfl (by with_reducible rfl) (by with_reducible rfl) ?_
      | refine WR.subn rfl (by with_reducible rfl) (by with_reducible rfl) (by omega) ?_
      | (refine WR.incn rfl rfl ?_; dsimp only [List.set])
      | (refine WR.go rfl rfl ?_; try dsimp only [List.set])
      | refine WR.aik hz rfl rfl rfl rfl (by first | with_reducible rfl | assumption) (by omega) (by assumption) ?_
      | refine WR.ai hz rfl rfl rfl rfl (by first | with_reducible rfl | assumption) (by omega) ?_
      | refine WR.si hz rfl rfl rfl rfl (by first | with_reducible rfl | assumption) (by omega) ?_
      | refine WR.az hz rfl rfl rfl rfl (by first | with_reducible rfl | assumption) (by omega) ?_
      | refine WR.sz hz rfl rfl rfl rfl (by first | with_reducible rfl | assumption) (by omega) (by decide) ?_
      | refine WR.pi hz rfl ?_
      | refine WR.rt rfl rfl rfl rfl ?_
      | refine WR.rz rfl rfl (by decide) ?_))
      rw [if_pos ⟨by omega, by simp only [f_bit, decide_eq_true_eq]; exact Classical.not_not.mp h2⟩]
      rfl
end MAIL
