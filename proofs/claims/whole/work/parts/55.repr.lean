/-! the class's memory as pure data: ints below 74; present and snapshot states; requests; waiting messages -/
abbrev xS : Type := (Nat → Nat → Int32) × Int64
abbrev xG : Type := (Nat → Int32) × Option (Nat → Nat → Int32) × Option xS
abbrev xCC : Type := xI × (Nat → xS) × (Nat → xS) × (Nat → Nat → Int32) × (Nat → xG)
def zO (M : xM) : xZ := (M.1, M.2.2)
def sl (S : xS) : Nat := (S.1 0 0).toNatClampNeg
def sOK (S : xS) : Prop := S.1 0 0 = nI (sl S) ∧ sl S ≤ 24 ∧ ∀ j, 4 ≤ j → j ≤ 6 → ∃ b, b < 32 ∧ S.1 0 j = nI b
def stA (M : xM) (p : Nat) (S : xS) : Prop := (p = 6 ∨ 108 ≤ p) ∧ stK (zO M) p ∧ (∀ o i, o ≤ 2 → i < 64 → M.2.1 (p + o) i = S.1 o i) ∧ M.2.2.1 p 3 = S.2 ∧ sOK S
def vtA (M : xM) (v : Nat) (g : Nat → Nat → Int32) : Prop := 108 ≤ v ∧ vtK (zO M) v ∧ ∀ o i, o ≤ 2 → M.2.1 (v + o) i = g o i
def oA {α : Type} (P : Nat → α → Prop) (r : Option Nat) (x : Option α) : Prop := match r, x with
  | none, none => True
  | some a, some y => P a y
  | _, _ => False
def mgA (M : xM) (a : Nat) (m : xG) : Prop := 108 ≤ a ∧ M.1[a]? = some (false, 3, 8) ∧ (∀ i, M.2.1 a i = m.1 i) ∧ oA (vtA M) (M.2.2.2 a 6) m.2.1 ∧ oA (stA M) (M.2.2.2 a 7) m.2.2
def rqO (g : Nat → Int32) : Prop := (∃ k, k ≤ 4 ∧ g 0 = nI k) ∧ (∃ k, k < 4 ∧ g 1 = nI k) ∧ (g 0 = nI 4 → ∃ b, b < 32 ∧ g 2 = nI b)
def mnK (Z : xZ) : Prop := Z.1[0]? = some (false, 9, 3) ∧ Z.2.2 0 0 = some 1 ∧ Z.2.2 0 1 = some 3 ∧ Z.2.2 0 2 = some 5 ∧ Z.1[5]? = some (true, 4, 5) ∧ ∀ r, r < 5 → Z.2.2 5 r = some (9 + 13 * r)
def rep_k (M : xM) : Prop := mnK (zO M) ∧ ntK (zO M) ∧ clK (zO M) ∧ (∀ r, r < 5 → rpK (zO M) (9 + 13 * r)) ∧ zok (zO M)
def rep_s (M : xM) (C : xCC) : Prop := ∀ r, r < 5 → (∃ p, M.2.2.2 (9 + 13 * r) 7 = some p ∧ stA M p (C.2.1 r)) ∧ ∃ p, M.2.2.2 (9 + 13 * r) 6 = some p ∧ stA M p (C.2.2.1 r)
def rep_q (M : xM) (C : xCC) : Prop := ∃ (n : Nat) (qa : Nat → Nat), n ≤ 40 ∧ C.1 1 1 = nI n ∧ (∀ q, 1 ≤ q → q ≤ n → M.2.2.2 2 q = some (qa q) ∧ M.1[qa q]? = some (false, 6, 5) ∧ 108 ≤ qa q ∧ (∀ i, M.2.1 (qa q) i = C.2.2.2.1 q i) ∧ rqO (C.2.2.2.1 q)) ∧ ∀ q q', 1 ≤ q → q ≤ n → 1 ≤ q' → q' ≤ n → qa q = qa q' → q = q'
def rep_n (M : xM) (C : xCC) : Prop := ∃ w : Nat, w ≤ 32 ∧ C.1 3 1 = nI w ∧ ∀ i, i < w → ∃ a, M.2.2.2 4 i = some a ∧ mgA M a (C.2.2.2.2 i)
def Rp (M : xM) (C : xCC) : Prop := (∀ a i, a < 74 → M.2.1 a i = C.1 a i) ∧ 108 ≤ M.1.length ∧ rep_k M ∧ rep_s M C ∧ rep_q M C ∧ rep_n M C ∧ ∀ r, r < 5 → C.1 (9 + 13 * r) 0 = nI r
/-- what no method of the class changes -/
def Ext (b : Nat) (M M' : xM) : Prop := (M.1 <+: M'.1 ∧ ∀ a, a < M.1.length → (6 ≤ a ∧ a ≤ 8 ∨ 74 ≤ a) → M.1[a]? ≠ some (false, 6, 5) → ∀ i, M'.2.1 a i = M.2.1 a i ∧ M'.2.2.1 a i = M.2.2.1 a i ∧ M'.2.2.2 a i = M.2.2.2 a i) ∧ M'.1.length ≤ M.1.length + b ∧ x_sz M' ≤ x_sz M + 41 * b
theorem x_pre {l l' : List xK} (h : l <+: l') {a : Nat} {k : xK} (ha : l[a]? = some k) : l'[a]? = some k := by
  obtain ⟨t, rfl⟩ := h
  rw [List.getElem?_append_left (x_lt ha)]
  exact ha
theorem Ext.refl (M : xM) : Ext 0 M M := ⟨⟨List.prefix_refl _, fun _ _ _ _ _ => ⟨rfl, rfl, rfl⟩⟩, Nat.le_refl _, Nat.le_refl _⟩
theorem Ext.up {b b' : Nat} {M M' : xM} (h : Ext b M M') (hb : b ≤ b') : Ext b' M M' := ⟨h.1, by have := h.2.1; omega, by have := h.2.2; omega⟩
theorem Ext.trans {b b' : Nat} {M M1 M2 : xM} (h : Ext b M M1) (h' : Ext b' M1 M2) : Ext (b + b') M M2 := by
  refine ⟨⟨h.1.1.trans h'.1.1, fun a ha hr hk i => ?_⟩, by have := h.2.1; have := h'.2.1; omega, by have := h.2.2; have := h'.2.2; omega⟩
  obtain ⟨kd, hkd⟩ : ∃ kd, M.1[a]? = some kd := ⟨_, List.getElem?_eq_getElem ha⟩
  have h1 := x_pre h.1.1 hkd
  obtain ⟨e1, e2, e3⟩ := h.1.2 a ha hr hk i
  obtain ⟨g1, g2, g3⟩ := h'.1.2 a (x_lt h1) hr (by rw [h1, ← hkd]; exact hk) i
  exact ⟨g1.trans e1, g2.trans e2, g3.trans e3⟩
theorem Ext.at {b : Nat} {M M' : xM} (h : Ext b M M') {a : Nat} {kd : xK} (hk : M.1[a]? = some kd) (hn : kd ≠ (false, 6, 5)) (hr : 6 ≤ a ∧ a ≤ 8 ∨ 74 ≤ a) (i : Nat) : M'.2.1 a i = M.2.1 a i ∧ M'.2.2.1 a i = M.2.2.1 a i ∧ M'.2.2.2 a i = M.2.2.2 a i := h.1.2 a (x_lt hk) hr (by rw [hk]; exact fun q => hn (Option.some.inj q)) i
theorem stA.ext {M M' : xM} {p : Nat} {S : xS} (h : stA M p S) {b : Nat} (he : Ext b M M') : stA M' p S := by
  obtain ⟨h0, ⟨h1, h2, h3, h4, h5⟩, h6, h7, h8⟩ := h
  have a0 := he.at h1 (by decide) (by omega)
  have a1 := he.at h4 (by decide) (by omega)
  have a2 := he.at h5 (by decide) (by omega)
  refine ⟨h0, ⟨x_pre he.1.1 h1, (a0 1).2.2.trans h2, (a0 2).2.2.trans h3, x_pre he.1.1 h4, x_pre he.1.1 h5⟩, fun o i ho hi => ?_, (a0 3).2.1.trans h7, h8⟩
  rw [← h6 o i ho hi]
  have h9 : o = 0 ∨ o = 1 ∨ o = 2 := by omega
  rcases h9 with rfl | rfl | rfl
  · exact (a0 i).1
  · exact (a1 i).1
  · exact (a2 i).1
theorem vtA.ext {M M' : xM} {p : Nat} {g : Nat → Nat → Int32} (h : vtA M p g) {b : Nat} (he : Ext b M M') : vtA M' p g := by
  obtain ⟨h0, ⟨h1, h2, h3, h4, h5⟩, h6⟩ := h
  have a0 := he.at h1 (by decide) (by omega)
  have a1 := he.at h4 (by decide) (by omega)
  have a2 := he.at h5 (by decide) (by omega)
  refine ⟨h0, ⟨x_pre he.1.1 h1, (a0 0).2.2.trans h2, (a0 1).2.2.trans h3, x_pre he.1.1 h4, x_pre he.1.1 h5⟩, fun o i ho => ?_⟩
  rw [← h6 o i ho]
  have h9 : o = 0 ∨ o = 1 ∨ o = 2 := by omega
  rcases h9 with rfl | rfl | rfl
  · exact (a0 i).1
  · exact (a1 i).1
  · exact (a2 i).1
theorem oA.imp {α : Type} {P P' : Nat → α → Prop} {r : Option Nat} {x : Option α} (h : oA P r x) (hi : ∀ a y, P a y → P' a y) : oA P' r x := by
  cases r <;> cases x <;> first | exact trivial | exact hi _ _ h | exact h
theorem mgA.ext {M M' : xM} {a : Nat} {m : xG} (h : mgA M a m) {b : Nat} (he : Ext b M M') : mgA M' a m := by
  obtain ⟨h0, h1, h2, h3, h4⟩ := h
  have a0 := he.at h1 (by decide) (by omega)
  refine ⟨h0, x_pre he.1.1 h1, fun i => (a0 i).1.trans (h2 i), ?_, ?_⟩
  · rw [(a0 6).2.2]
    exact h3.imp (fun _ _ q => q.ext he)
  · rw [(a0 7).2.2]
    exact h4.imp (fun _ _ q => q.ext he)
theorem rep_k.ext {M M' : xM} (h : rep_k M) {b : Nat} (he : Ext b M M') (hr : ∀ a i, a < 74 → a ≠ 2 → a ≠ 4 → (∀ r, r < 5 → a = 9 + 13 * r → i ≠ 6 ∧ i ≠ 7) → M'.2.2.2 a i = M.2.2.2 a i) : rep_k M' := by
  obtain ⟨⟨m1, m2, m3, m4, m5, m6⟩, ⟨n1, n2, n3⟩, ⟨c1, c2, c3⟩, hp, hz⟩ := h
  have pk : ∀ {a : Nat} {k : xK}, M.1[a]? = some k → M'.1[a]? = some k := fun q => x_pre he.1.1 q
  refine ⟨⟨pk m1, (hr 0 0 (by omega) (by omega) (by omega) (by omega)).trans m2, (hr 0 1 (by omega) (by omega) (by omega) (by omega)).trans m3, (hr 0 2 (by omega) (by omega) (by omega) (by omega)).trans m4, pk m5, fun r h5 => (hr 5 r (by omega) (by omega) (by omega) (by omega)).trans (m6 r h5)⟩, ⟨pk n1, (hr 3 0 (by omega) (by omega) (by omega) (by omega)).trans n2, pk n3⟩, ⟨pk c1, (hr 1 0 (by omega) (by omega) (by omega) (by omega)).trans c2, pk c3⟩, fun r h5 => ?_, ?_⟩
  · have q : ∀ o i, o ≤ 12 → (o = 0 → i ≠ 6 ∧ i ≠ 7) → M'.2.2.2 (9 + 13 * r + o) i = M.2.2.2 (9 + 13 * r + o) i := fun o i ho h => hr _ i (by omega) (by omega) (by omega) (fun r' _ h' => h (by omega))
    obtain ⟨p1, p2, p3, p4, ⟨v1, v2, v3, v4, v5⟩, p6, ⟨k1, k2, k3⟩, p8, d1, d2, d3, d4, ⟨w1, w2, w3, w4, w5⟩, ⟨l1, l2, l3⟩, d7⟩ := hp r h5
    exact ⟨pk p1, (q 0 1 (by omega) (by omega)).trans p2, (q 0 2 (by omega) (by omega)).trans p3, (q 0 5 (by omega) (by omega)).trans p4, ⟨pk v1, (q 1 0 (by omega) (by omega)).trans v2, (q 1 1 (by omega) (by omega)).trans v3, pk v4, pk v5⟩, (q 0 8 (by omega) (by omega)).trans p6, ⟨pk k1, (q 4 0 (by omega) (by omega)).trans k2, pk k3⟩, (q 0 9 (by omega) (by omega)).trans p8, pk d1, (q 6 2 (by omega) (by omega)).trans d2, (q 6 3 (by omega) (by omega)).trans d3, (q 6 4 (by omega) (by omega)).trans d4, ⟨pk w1, (q 7 0 (by omega) (by omega)).trans w2, (q 7 1 (by omega) (by omega)).trans w3, pk w4, pk w5⟩, ⟨pk l1, (q 10 0 (by omega) (by omega)).trans l2, pk l3⟩, pk d7⟩
  · refine ⟨fun a h1 h2 => ?_, fun j a hj => ?_⟩
    · have h3 := hz.1 a h1 h2
      obtain ⟨kd, hkd⟩ : ∃ kd, x_K0[a]? = some kd := ⟨_, List.getElem?_eq_getElem (show a < x_K0.length from h2)⟩
      rw [hkd] at h3 ⊢
      exact pk h3
    · have h3 : M.1[74]? = some (false, 10, 42) := hz.1 74 (by omega) (by omega)
      exact ((he.at h3 (by decide) (by omega) j).2.2).trans (hz.2 j a hj)
