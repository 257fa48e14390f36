/-! the invariant of the protocol, over the reference's ints and a ghost: proposals (by ballot and slot) and votes ever cast -/
abbrev xGh : Type := (Int32 → Nat → Option Int32) × (Nat → Int32 → Nat → Prop)
def own (b : Int32) : Nat := b.toNatClampNeg % 5
def sfe (I : xI) (G : xGh) (b : Int32) (s : Nat) (c : Int32) : Prop := ∀ b', b' < b → G.1 b' s = some c ∨ ∃ x, f_maj x (mM I s) = true ∧ ∀ a, a < 5 → bt x a = true → b' < I 81 a ∧ ¬ G.2 a b' s
def iA (I : xI) (G : xGh) : Prop := ∀ a b s, G.2 a b s → a < 5 ∧ b ≤ I 81 a ∧ ∃ c, G.1 b s = some c
def iB (n : Nat) (I : xI) (G : xGh) : Prop := ∀ b s c, G.1 b s = some c → 0 < b ∧ 1 ≤ s ∧ s ≤ 24 ∧ (∃ q, q ≤ n ∧ c = nI q) ∧ prD I (s - 3) ∧ b ≤ I 81 (own b) ∧ sfe I G b s c
def iC (I : xI) (G : xGh) : Prop := ∀ s, 1 ≤ s → s ≤ 24 → 0 ≤ I 80 s → ∃ b x, G.1 b s = some (I 80 s) ∧ f_maj x (mM I s) = true ∧ ∀ a, a < 5 → bt x a = true → G.2 a b s
def iD (B : Nat) (I : xI) (r : Nat) : Prop := (∃ f e, I 82 r = nI f ∧ I 83 r = nI e ∧ f ≤ e ∧ e ≤ 24 ∧ prD I e) ∧ (∃ p, p ≤ B ∧ p < 2 ^ 31 ∧ I 81 r = nI p) ∧ ∀ s, 1 ≤ s → s ≤ 24 → bt (I 84 r) s = true → 0 ≤ I 80 s
def iV (I : xI) (G : xGh) (r : Nat) : Prop := I 85 (25 * r) = 0 ∧ ∀ s, 1 ≤ s → s ≤ 24 → 0 ≤ I 85 (25 * r + s) ∧ I 85 (25 * r + s) ≤ I 81 r ∧ (0 < I 85 (25 * r + s) → G.1 (I 85 (25 * r + s)) s = some (I 86 (25 * r + s))) ∧ ∀ b, G.2 r b s → I 82 r < nI s → b ≤ I 85 (25 * r + s)
def iPs (I : xI) (G : xGh) (r s : Nat) : Prop :=
  (∀ c, G.1 (I 87 r) s = some c ↔ 0 ≤ c ∧ I 91 (25 * r + s) = c) ∧
  (0 ≤ I 89 (25 * r + s) ∧ I 89 (25 * r + s) ≤ I 87 r ∧ (0 < I 89 (25 * r + s) → G.1 (I 89 (25 * r + s)) s = some (I 90 (25 * r + s)))) ∧
  (∀ j, j < 5 → bt (I 88 r) j = true → I 83 r < nI s → ∀ b, b < I 87 r → G.2 j b s → b ≤ I 89 (25 * r + s)) ∧
  (0 ≤ I 91 (25 * r + s) → ∀ j, j < 5 → bt (I 92 (25 * r + s)) j = true → G.2 j (I 87 r) s) ∧
  (0 ≤ I 91 (25 * r + s) → ∀ e, e ≤ 24 → I 83 r = nI e → s ≤ e + 3)
def iP (n : Nat) (I : xI) (G : xGh) (r : Nat) : Prop := 0 ≤ I 87 r ∧ I 87 r ≤ I 81 r ∧ (∀ s, 1 ≤ s → s ≤ 24 → I 91 (25 * r + s) ≤ 0 ∨ ∃ q, 1 ≤ q ∧ q ≤ n ∧ I 91 (25 * r + s) = nI q) ∧ (0 < I 87 r → own (I 87 r) = r ∧ (∀ j, j < 5 → bt (I 88 r) j = true → I 87 r ≤ I 81 j) ∧ ∀ s, 1 ≤ s → s ≤ 24 → iPs I G r s)
def iE (I : xI) (r : Nat) : Prop := f_camp I r = true → ∀ s e, I 83 r = nI e → e < s → s ≤ e + 3 → s ≤ 24 → bt (I 84 r) s = false → I 91 (25 * r + s) < 0 → f_maj (I 88 r) (mM I s) = true → I 89 (25 * r + s) ≤ 0
/-- a message: from j, of kind k -/
def mI (B : Nat) (I : xI) (G : xGh) (k j : Nat) (b n c u : Int32) (vb vc : Nat → Int32) : Prop :=
  (k = 1 ∨ k = 6 → ∃ p, p ≤ B ∧ p < 2 ^ 31 ∧ n = nI p) ∧
  (k = 2 → vb 0 = 0 ∧ n ≤ I 81 j ∧ ∃ f, u = nI f ∧ f ≤ 24 ∧ prD I f ∧ ∀ s, 1 ≤ s → s ≤ 24 → 0 ≤ vb s ∧ vb s ≤ n ∧ (0 < vb s → G.1 (vb s) s = some (vc s)) ∧ (f < s → ∀ b', b' < n → G.2 j b' s → b' ≤ vb s)) ∧
  (k = 3 → ∃ s, n = nI s ∧ G.1 b s = some c) ∧
  (k = 4 → ∃ s, n = nI s ∧ G.2 j b s) ∧
  (k = 5 → ∃ s, n = nI s ∧ 1 ≤ s ∧ s ≤ 24 ∧ 0 ≤ I 80 s ∧ c = I 80 s) ∧
  (k = 7 → ∃ s, s ≤ 24 ∧ n = nI s) ∧
  (k = 8 → ∃ f, f ≤ 24 ∧ n = nI f ∧ prD I f)
def iM (B : Nat) (I : xI) (G : xGh) (i : Nat) : Prop := ∃ k j t, 1 ≤ k ∧ k ≤ 8 ∧ j < 5 ∧ t < 5 ∧ I 93 i = nI k ∧ I 94 i = nI j ∧ I 95 i = nI t ∧ mI B I G k j (I 96 i) (I 97 i) (I 98 i) (I 99 i) (fun s => I 100 (25 * i + s)) (fun s => I 101 (25 * i + s))
def iN (n : Nat) (I : xI) : Prop := I 74 0 = nI n ∧ rqV I n ∧ chV I n ∧ f_wok I ∧ ∀ q, q < 41 → ∃ ky, ky < 4 ∧ I 76 q = nI ky
def Inv (B n : Nat) (I : xI) (G : xGh) : Prop := iN n I ∧ iA I G ∧ iB n I G ∧ iC I G ∧ (∀ r, r < 5 → iD B I r ∧ iV I G r ∧ iP n I G r) ∧ ∀ i, i < f_w I → iM B I G i
/-- what a step of replica r does not undo -/
def Mo (n : Nat) (I : xI) (G : xGh) (I' : xI) (G' : xGh) (r : Nat) : Prop :=
  (∀ a, a < 5 → I 81 a ≤ I' 81 a) ∧ (∀ b s c, G.1 b s = some c → G'.1 b s = some c) ∧ (∀ a b s, G.2 a b s → G'.2 a b s) ∧ (∀ a b s, G'.2 a b s → G.2 a b s ∨ (a = r ∧ I 81 a ≤ b)) ∧ (∀ b s c, G'.1 b s = some c → G.1 b s = some c ∨ own b = r) ∧
  (∀ s, 1 ≤ s → s ≤ 24 → 0 ≤ I 80 s → I' 80 s = I 80 s) ∧ (∀ q, 1 ≤ q → q ≤ n → I' 75 q = I 75 q ∧ I' 76 q = I 76 q ∧ I' 77 q = I 77 q) ∧
  ∀ r', r' < 5 → r' ≠ r → I' 81 r' = I 81 r' ∧ I' 82 r' = I 82 r' ∧ I' 83 r' = I 83 r' ∧ I' 84 r' = I 84 r' ∧ I' 87 r' = I 87 r' ∧ I' 88 r' = I 88 r' ∧ ∀ s, s < 25 → I' 85 (25 * r' + s) = I 85 (25 * r' + s) ∧ I' 86 (25 * r' + s) = I 86 (25 * r' + s) ∧ I' 89 (25 * r' + s) = I 89 (25 * r' + s) ∧ I' 90 (25 * r' + s) = I 90 (25 * r' + s) ∧ I' 91 (25 * r' + s) = I 91 (25 * r' + s) ∧ I' 92 (25 * r' + s) = I 92 (25 * r' + s)
theorem i_tr {x y z : Int32} (h : x ≤ y) (h' : y ≤ z) : x ≤ z := Int32.le_trans h h'
theorem i_lt_le {x y z : Int32} (h : x < y) (h' : y ≤ z) : x < z := by
  rw [Int32.lt_iff_toInt_lt] at *
  rw [Int32.le_iff_toInt_le] at *
  omega
theorem i_le_lt {x y z : Int32} (h : x ≤ y) (h' : y < z) : x < z := by
  rw [Int32.lt_iff_toInt_lt] at *
  rw [Int32.le_iff_toInt_le] at *
  omega
theorem i_irr {x : Int32} (h : x < x) : False := by
  rw [Int32.lt_iff_toInt_lt] at h
  omega
theorem i_llt {x y : Int32} (h : x < y) : x ≤ y := by
  rw [Int32.lt_iff_toInt_lt] at h
  rw [Int32.le_iff_toInt_le]
  omega
section MONO
variable {B n : Nat} {I I' : xI} {G G' : xGh} {r : Nat}
theorem Mo.pr (h : Mo n I G I' G' r) {f : Nat} (hf : f ≤ 24) (hp : prD I f) : prD I' f := fun s h1 h2 => by
  rw [h.2.2.2.2.2.1 s h1 (by omega) (hp s h1 h2)]
  exact hp s h1 h2
theorem Mo.ps (h : Mo n I G I' G' r) (hc : chV I n) (hr : rqV I n) {f : Nat} (hf : f ≤ 24) (hp : prD I f) : PS I' f = PS I f := by
  refine (PS_g (fun s h1 h2 => ⟨(h.2.2.2.2.2.1 s h1 (by omega) (hp s h1 h2)).symm, fun q h3 h3' h4 => ?_⟩) (fun s h1 h2 => ?_)).symm
  · obtain ⟨q', q1, q2⟩ := hc.at h1 (by omega) (hp s h1 h2)
    have := hr.1
    have e : q = q' := by
      rw [q2] at h4
      exact ((nI_eq (by omega) (by omega)).mp h4).symm
    subst e
    obtain ⟨a1, a2, a3⟩ := h.2.2.2.2.2.2.1 q h3 q1
    rw [rqI, rqI, a1, a2, a3]
  · obtain ⟨q, q1, q2⟩ := hc.at h1 (by omega) (hp s h1 h2)
    exact ⟨q, by have := hr.1; omega, q2⟩
theorem Mo.mm (h : Mo n I G I' G' r) (hc : chV I n) (hr : rqV I n) {s : Nat} (hs : s ≤ 27) (hp : prD I (s - 3)) : mM I' s = mM I s := mM_g (h.ps hc hr (by omega) hp)
theorem Mo.sf (h : Mo n I G I' G' r) {b c : Int32} {s : Nat} (hm : mM I' s = mM I s) (hs : sfe I G b s c) : sfe I' G' b s c := by
  intro b' hb
  rcases hs b' hb with h1 | ⟨x, x1, x2⟩
  · exact Or.inl (h.2.1 _ _ _ h1)
  · refine Or.inr ⟨x, by rw [hm]; exact x1, fun a ha hx => ?_⟩
    obtain ⟨x3, x4⟩ := x2 a ha hx
    refine ⟨i_lt_le x3 (h.1 a ha), fun hv => ?_⟩
    rcases h.2.2.2.1 a b' s hv with h2 | ⟨_, h2⟩
    · exact x4 h2
    · exact i_irr (i_lt_le x3 h2)
theorem Mo.mg (h : Mo n I G I' G' r) {B' k j : Nat} {b m c u : Int32} {vb vc : Nat → Int32} (hj : j < 5) (hB : B ≤ B') (hm : mI B I G k j b m c u vb vc) : mI B' I' G' k j b m c u vb vc := by
  obtain ⟨h1, h2, h3, h4, h5, h7, h8⟩ := hm
  refine ⟨fun e => ?_, fun e => ?_, fun e => ?_, fun e => ?_, fun e => ?_, h7, fun e => ?_⟩
  · obtain ⟨p, p1, p2⟩ := h1 e
    exact ⟨p, Nat.le_trans p1 hB, p2⟩
  · obtain ⟨a0, a1, f, a2, a3, a4, a5⟩ := h2 e
    refine ⟨a0, i_tr a1 (h.1 j hj), f, a2, a3, h.pr a3 a4, fun s s1 s2 => ?_⟩
    obtain ⟨b1, b2, b3, b4⟩ := a5 s s1 s2
    refine ⟨b1, b2, fun z => h.2.1 _ _ _ (b3 z), fun z b' z1 z2 => ?_⟩
    rcases h.2.2.2.1 j b' s z2 with z3 | ⟨_, z3⟩
    · exact b4 z b' z1 z3
    · exact (i_irr (i_lt_le z1 (i_tr a1 z3))).elim
  · obtain ⟨s, s1, s2⟩ := h3 e
    exact ⟨s, s1, h.2.1 _ _ _ s2⟩
  · obtain ⟨s, s1, s2⟩ := h4 e
    exact ⟨s, s1, h.2.2.1 _ _ _ s2⟩
  · obtain ⟨s, s1, s2, s3, s4, s5⟩ := h5 e
    have e8 := h.2.2.2.2.2.1 s s2 s3 s4
    exact ⟨s, s1, s2, s3, by rw [e8]; exact s4, by rw [e8]; exact s5⟩
  · obtain ⟨f, f1, f2, f3⟩ := h8 e
    exact ⟨f, f1, f2, h.pr f1 f3⟩
theorem Mo.xd (h : Mo n I G I' G' r) {B' r' : Nat} (hr : r' < 5) (hn : r' ≠ r) (hB : B ≤ B') (hd : iD B I r') : iD B' I' r' := by
  obtain ⟨e1, e2, e3, e4, e5, e6, e7⟩ := h.2.2.2.2.2.2.2 r' hr hn
  obtain ⟨⟨f, e, a1, a2, a3, a4, a5⟩, ⟨p, p1, p2, p3⟩, a6⟩ := hd
  refine ⟨⟨f, e, e2.trans a1, e3.trans a2, a3, a4, h.pr a4 a5⟩, ⟨p, Nat.le_trans p1 hB, p2, e1.trans p3⟩, fun s s1 s2 s3 => ?_⟩
  rw [e4] at s3
  have s4 := a6 s s1 s2 s3
  rw [h.2.2.2.2.2.1 s s1 s2 s4]
  exact s4
theorem Mo.xv (h : Mo n I G I' G' r) {r' : Nat} (hr : r' < 5) (hn : r' ≠ r) (hd : iV I G r') : iV I' G' r' := by
  obtain ⟨e1, e2, e3, e4, e5, e6, e7⟩ := h.2.2.2.2.2.2.2 r' hr hn
  refine ⟨(e7 0 (by decide)).1.trans hd.1, fun s s1 s2 => ?_⟩
  obtain ⟨g1, g2, g3, g4, g5, g6⟩ := e7 s (by omega)
  obtain ⟨a1, a2, a3, a4⟩ := hd.2 s s1 s2
  rw [g1, g2, e1, e2]
  refine ⟨a1, a2, fun z => h.2.1 _ _ _ (a3 z), fun b hb hs => ?_⟩
  rcases h.2.2.2.1 r' b s hb with z | ⟨z, _⟩
  · exact a4 b z hs
  · exact absurd z hn
theorem Mo.xp (h : Mo n I G I' G' r) {n' r' : Nat} (hr : r' < 5) (hn : r' ≠ r) (hnn : n ≤ n') (hd : iP n I G r') : iP n' I' G' r' := by
  obtain ⟨e1, e2, e3, e4, e5, e6, e7⟩ := h.2.2.2.2.2.2.2 r' hr hn
  obtain ⟨a1, a2, a3, a4⟩ := hd
  rw [iP, e5, e1]
  refine ⟨a1, a2, fun s s1 s2 => ?_, fun hp => ?_⟩
  · rw [(e7 s (by omega)).2.2.2.2.1]
    rcases a3 s s1 s2 with z | ⟨q, q1, q2, q3⟩
    · exact Or.inl z
    · exact Or.inr ⟨q, q1, by omega, q3⟩
  · obtain ⟨b1, b2, b3⟩ := a4 hp
    refine ⟨b1, fun j hj hb => ?_, fun s s1 s2 => ?_⟩
    · rw [e6] at hb
      exact i_tr (b2 j hj hb) (h.1 j hj)
    · obtain ⟨c1, c2, c3, c4, c5⟩ := b3 s s1 s2
      obtain ⟨g1, g2, g3, g4, g5, g6⟩ := e7 s (by omega)
      rw [iPs, e5, e6, e3, g3, g4, g5, g6]
      refine ⟨fun c => ⟨fun z => ?_, fun z => h.2.1 _ _ _ ((c1 c).mpr z)⟩, ⟨c2.1, c2.2.1, fun z => h.2.1 _ _ _ (c2.2.2 z)⟩, fun j hj hb hs b hb2 hv => ?_, fun z j hj hb => h.2.2.1 _ _ _ (c4 z j hj hb), c5⟩
      · rcases h.2.2.2.2.1 _ _ _ z with z1 | z1
        · exact (c1 c).mp z1
        · exact absurd (b1.symm.trans z1) hn
      · rcases h.2.2.2.1 j b s hv with z | ⟨_, z⟩
        · exact c3 j hj hb hs b hb2 z
        · exact (i_irr (i_lt_le hb2 (i_tr (b2 j hj hb) z))).elim
theorem Mo.xe (h : Mo n I G I' G' r) {r' : Nat} (hc : chV I n) (hq : rqV I n) (hr : r' < 5) (hn : r' ≠ r) (hd : iD B I r') (he : iE I r') : iE I' r' := by
  obtain ⟨e1, e2, e3, e4, e5, e6, e7⟩ := h.2.2.2.2.2.2.2 r' hr hn
  intro hf s e a1 a2 a3 a4 a5 a6 a7
  obtain ⟨g1, g2, g3, g4, g5, g6⟩ := e7 s (by omega)
  rw [f_camp, e5, e1] at hf
  rw [e3] at a1
  rw [e4] at a5
  rw [g5] at a6
  obtain ⟨⟨f, e', b1, b2, b3, b4, b5⟩, _⟩ := hd
  have ee : e = e' := by
    rw [b2] at a1
    exact ((nI_eq (by omega) (by omega)).mp a1).symm
  subst ee
  rw [e6, h.mm hc hq (by omega) (b5.le (by omega))] at a7
  rw [g3]
  exact he hf s e a1 a2 a3 a4 a5 a6 a7
/-- one step -/
theorem Inv.step (h : Inv B n I G) (hm : Mo n I G I' G' r) {B' n' : Nat} (hN : iN n' I') (hnn : n ≤ n') (hBB : B ≤ B')
    (hV : ∀ a b s, G'.2 a b s → ¬ G.2 a b s → a < 5 ∧ b ≤ I' 81 a ∧ ∃ c, G'.1 b s = some c)
    (hP : ∀ b s c, G'.1 b s = some c → ¬ G.1 b s = some c → 0 < b ∧ 1 ≤ s ∧ s ≤ 24 ∧ (∃ q, q ≤ n' ∧ c = nI q) ∧ prD I' (s - 3) ∧ b ≤ I' 81 (own b) ∧ sfe I' G' b s c)
    (hC : ∀ s, 1 ≤ s → s ≤ 24 → ¬ 0 ≤ I 80 s → 0 ≤ I' 80 s → ∃ b x, G'.1 b s = some (I' 80 s) ∧ f_maj x (mM I' s) = true ∧ ∀ a, a < 5 → bt x a = true → G'.2 a b s)
    (hr : r < 5 → iD B' I' r ∧ iV I' G' r ∧ iP n' I' G' r)
    (hM : ∀ i, i < f_w I' → iM B' I' G' i) : Inv B' n' I' G' := by
  obtain ⟨⟨k1, k2, k3, k4, k5⟩, hA, hB, hC0, hR, hM0⟩ := h
  refine ⟨hN, fun a b s hv => ?_, fun b s c hp => ?_, fun s s1 s2 s3 => ?_, fun r' hr' => ?_, hM⟩
  · by_cases hv0 : G.2 a b s
    · obtain ⟨a0, a1, c, a2⟩ := hA a b s hv0
      exact ⟨a0, i_tr a1 (hm.1 a a0), c, hm.2.1 _ _ _ a2⟩
    · exact hV a b s hv hv0
  · by_cases hp0 : G.1 b s = some c
    · obtain ⟨b1, b2, b3, ⟨q, b4, b4'⟩, b5, b6, b7⟩ := hB b s c hp0
      exact ⟨b1, b2, b3, ⟨q, by omega, b4'⟩, hm.pr (by omega) b5, i_tr b6 (hm.1 _ (Nat.mod_lt _ (by decide))), hm.sf (hm.mm k3 k2 (by omega) b5) b7⟩
    · exact hP b s c hp hp0
  · by_cases s4 : 0 ≤ I 80 s
    · obtain ⟨b, x, c1, c2, c3⟩ := hC0 s s1 s2 s4
      have hp := (hB b s _ c1).2.2.2.2.1
      rw [hm.2.2.2.2.2.1 s s1 s2 s4, hm.mm k3 k2 (by omega) hp]
      exact ⟨b, x, hm.2.1 _ _ _ c1, c2, fun a ha hx => hm.2.2.1 _ _ _ (c3 a ha hx)⟩
    · exact hC s s1 s2 s4 s3
  · by_cases e : r' = r
    · subst e
      exact hr hr'
    · obtain ⟨d1, d2, d3⟩ := hR r' hr'
      exact ⟨hm.xd hr' e hBB d1, hm.xv hr' e d2, hm.xp hr' e hnn d3⟩
theorem Mo.msgs (h : Mo n I G I' G' r) {B' : Nat} (hB : B ≤ B') (hc : ∀ a i, 93 ≤ a → a ≤ 101 → I' a i = I a i) {i : Nat} (hi : iM B I G i) : iM B' I' G' i := by
  obtain ⟨k, j, t, a1, a2, a3, a4, a5, a6, a7, a8⟩ := hi
  refine ⟨k, j, t, a1, a2, a3, a4, ?_, ?_, ?_, ?_⟩
  · rw [hc _ _ (by decide) (by decide)]; exact a5
  · rw [hc _ _ (by decide) (by decide)]; exact a6
  · rw [hc _ _ (by decide) (by decide)]; exact a7
  · rw [hc 96 _ (by decide) (by decide), hc 97 _ (by decide) (by decide), hc 98 _ (by decide) (by decide), hc 99 _ (by decide) (by decide)]
    have e1 : (fun s => I' 100 (25 * i + s)) = fun s => I 100 (25 * i + s) := funext fun s => hc _ _ (by decide) (by decide)
    have e2 : (fun s => I' 101 (25 * i + s)) = fun s => I 101 (25 * i + s) := funext fun s => hc _ _ (by decide) (by decide)
    rw [e1, e2]
    exact h.mg a3 hB a8
end MONO
