/-! the class: reads of a replica, over the pure data; writes of ints -/
def rP (r : Nat) : Nat := 9 + 13 * r
def s_mo (S : xS) (s : Nat) : Int32 := if s = sl S + 1 then S.1 0 6 else if s = sl S + 2 then S.1 0 5 else if s = sl S + 3 then S.1 0 4 else nI 0
def s_an (S : xS) (q : Nat) : Int32 := if c_dn S.2 q = true then S.1 2 q else nI 0
def c_sp (C : xCC) (r s : Nat) : Bool := f_maj (C.1 (9 + 13 * r + 6) 1) (s_mo (C.2.1 r) s)
def c_du (C : xCC) (r s : Nat) : Int32 := if (c_cmpg C.1 (9 + 13 * r) && c_opn C.1 (9 + 13 * r) s && c_sp C r s) = true then (if c_vh C.1 (9 + 13 * r + 7) s = true then c_vc C.1 (9 + 13 * r + 7) s else if (c_cha C.1 (9 + 13 * r + 4) s (24 - s) || c_va C.1 (9 + 13 * r + 7) s (24 - s)) = true then nI 0 else -1) else -1
section WRAP
variable {M : xM} {C : xCC} {r : Nat} {p q s : Nat} {S : xS} {I J : xI}
theorem stA.o (h : stA M p S) : stO (zO M) M.2.1 p (sl S) := ⟨h.2.1, (h.2.2.1 0 0 (by decide) (by decide)).trans h.2.2.2.2.1, h.2.2.2.2.2.1, fun j h1 h2 => by
  obtain ⟨b, b1, b2⟩ := h.2.2.2.2.2.2 j h1 h2
  exact ⟨b, b1, (h.2.2.1 0 j (by decide) (by omega)).trans b2⟩⟩
theorem stA.mo (h : stA M p S) (s : Nat) : c_mo M.2.1 p (sl S) s = s_mo S s := by
  have h4 : M.2.1 p 4 = S.1 0 4 := h.2.2.1 0 4 (by decide) (by decide)
  have h5 : M.2.1 p 5 = S.1 0 5 := h.2.2.1 0 5 (by decide) (by decide)
  have h6 : M.2.1 p 6 = S.1 0 6 := h.2.2.1 0 6 (by decide) (by decide)
  simp only [c_mo, s_mo, h4, h5, h6]
theorem stA.mem (h : stA M p S) (s : Nat) : ∃ b, b < 32 ∧ s_mo S s = nI b := by
  rw [← h.mo]
  exact c_mo_in h.o s
theorem stA.an (h : stA M p S) (q : Nat) : c_an M.2.1 (M.2.2.1 p 3) p q = s_an S q := by
  rw [c_an, s_an, h.2.2.2.1]
  by_cases z : c_dn S.2 q = true
  · rw [if_pos z, if_pos z]
    rw [c_dn, Bool.and_eq_true, Bool.and_eq_true, decide_eq_true_eq, decide_eq_true_eq] at z
    exact h.2.2.1 2 q (by decide) (by omega)
  · rw [if_neg z, if_neg z]
theorem w_done (d : Nat) (h : stA M p S) (hq : q < 2 ^ 31) : Ev (d + 1) 55 M [.ref p, .int (nI q)] (fun M' v => M' = M ∧ v = some (.int (bI (c_dn S.2 q)))) := by
  have k := (k_done d M.2.1 (Z := zO M) hq h.2.1).ev0
  rw [show (zO M).2.1 p 3 = S.2 from h.2.2.2.1] at k
  exact k
theorem w_ans (d : Nat) (h : stA M p S) (hq : q < 2 ^ 31) : Ev (d + 2) 56 M [.ref p, .int (nI q)] (fun M' v => M' = M ∧ v = some (.int (s_an S q))) := by
  have k := (k_answer d M.2.1 (Z := zO M) hq h.2.1).ev0
  rw [show c_an M.2.1 ((zO M).2.1 p 3) p q = s_an S q from h.an q] at k
  exact k
theorem w_memb (d : Nat) (h : stA M p S) (h1 : sl S < s) (h2 : s < 2 ^ 30) : Ev (d + 1) 57 M [.ref p, .int (nI s)] (fun M' v => M' = M ∧ v = some (.int (s_mo S s))) := by
  have k := (k_memb d M.2.1 (Z := zO M) h.o h1 h2).ev0
  rw [h.mo] at k
  exact k
theorem w_ahead (d : Nat) (h : stA M p S) : Ev (d + 1) 58 M [.ref p] (fun M' v => M' = M ∧ v = some (.int (S.1 0 6 ||| S.1 0 5 ||| S.1 0 4))) := by
  have k := (k_ahead d M.2.1 (Z := zO M) h.2.1).ev0
  rw [show M.2.1 p 4 = S.1 0 4 from h.2.2.1 0 4 (by decide) (by decide), show M.2.1 p 5 = S.1 0 5 from h.2.2.1 0 5 (by decide) (by decide), show M.2.1 p 6 = S.1 0 6 from h.2.2.1 0 6 (by decide) (by decide)] at k
  exact k
theorem c_cha_g (h : ∀ a i, a < 74 → I a i = J a i) {v : Nat} (hv : v + 1 < 74) : ∀ n, c_cha I v s n = c_cha J v s n := by
  intro n
  induction n with
  | zero => rfl
  | succ n ih => simp (disch := omega) only [c_cha, c_ch, h, ih]
theorem c_va_g (h : ∀ a i, a < 74 → I a i = J a i) {v : Nat} (hv : v + 1 < 74) : ∀ n, c_va I v s n = c_va J v s n := by
  intro n
  induction n with
  | zero => rfl
  | succ n ih => simp (disch := omega) only [c_va, c_vh, h, ih]
theorem c_cca_g (h : ∀ a i, a < 74 → I a i = J a i) {v : Nat} (hv : v + 1 < 74) (c : Int32) : ∀ n, c_cca I v s c n = c_cca J v s c n := by
  intro n
  induction n with
  | zero => rfl
  | succ n ih =>
    simp (disch := omega) only [c_cca, c_ca, h, ih]
    rfl
theorem c_vn_g (h : ∀ a i, a < 74 → I a i = J a i) {v : Nat} (hv : v + 1 < 74) : ∀ n, c_vn I v n = c_vn J v n := by
  intro n
  induction n with
  | zero => rfl
  | succ n ih =>
    simp (disch := omega) only [c_vn, c_vh, h, ih]
    rfl
theorem c_opn_g (h : ∀ a i, a < 74 → I a i = J a i) (hr : r < 5) : c_opn I (9 + 13 * r) s = c_opn J (9 + 13 * r) s := by
  simp (disch := omega) only [c_opn, c_ch, h]
theorem c_foa_g (h : ∀ a i, a < 74 → I a i = J a i) (hr : r < 5) (f : Nat) : c_foa I (9 + 13 * r) f = c_foa J (9 + 13 * r) f := by
  simp only [c_foa, c_opn_g h hr]
theorem c_cmpg_g (h : ∀ a i, a < 74 → I a i = J a i) (hr : r < 5) : c_cmpg I (9 + 13 * r) = c_cmpg J (9 + 13 * r) := by
  simp (disch := omega) only [c_cmpg, h]
theorem Rp.k (h : Rp M C) (hr : r < 5) : rpK (zO M) (9 + 13 * r) := h.2.2.1.2.2.2.1 r hr
theorem Rp.hp (h : Rp M C) (hr : r < 5) : ∃ p, M.2.2.2 (9 + 13 * r) 7 = some p ∧ stA M p (C.2.1 r) := (h.2.2.2.1 r hr).1
theorem Rp.hs (h : Rp M C) (hr : r < 5) : ∃ p, M.2.2.2 (9 + 13 * r) 6 = some p ∧ stA M p (C.2.2.1 r) := (h.2.2.2.1 r hr).2
theorem Rp.i (h : Rp M C) (hr : r < 5) : M.2.1 (9 + 13 * r) 0 = nI r := (h.1 _ 0 (by omega)).trans (h.2.2.2.2.2.2 r hr)
theorem w_camps (d : Nat) (h : Rp M C) (hr : r < 5) : Ev (d + 1) 28 M [.ref (9 + 13 * r)] (fun M' v => M' = M ∧ v = some (.int (bI (c_cmpg C.1 (9 + 13 * r))))) := by
  have k := (k_camps d M.2.1 (Z := zO M) (h.k hr)).ev0
  rw [c_cmpg_g h.1 hr] at k
  exact k
theorem w_supp (d : Nat) (h : Rp M C) (hr : r < 5) (h1 : sl (C.2.1 r) < s) (h2 : s < 2 ^ 30) : Ev (d + 3) 31 M [.ref (9 + 13 * r), .int (nI s)] (fun M' v => M' = M ∧ v = some (.int (bI (c_sp C r s)))) := by
  obtain ⟨p, p1, p2⟩ := h.hp hr
  have k := (k_supp d M.2.1 (Z := zO M) (h.k hr) p1 p2.o h1 h2).ev0
  rw [c_sup, p2.mo, h.1 _ _ (by omega)] at k
  exact k
theorem w_open (d : Nat) (h : Rp M C) (hr : r < 5) (h2 : s < 2 ^ 31) : Ev (d + 3) 30 M [.ref (9 + 13 * r), .int (nI s)] (fun M' v => M' = M ∧ v = some (.int (bI (c_opn C.1 (9 + 13 * r) s)))) := by
  have k := (k_open d M.2.1 (Z := zO M) (h.k hr) h2).ev0
  rw [c_opn_g h.1 hr] at k
  exact k
theorem w_oth (d : Nat) (h : Rp M C) (hr : r < 5) : Ev (d + 1) 33 M [.ref (9 + 13 * r)] (fun M' v => M' = M ∧ v = some (.int (c_oth r))) := (k_others d M.2.1 (Z := zO M) (h.k hr) (h.i hr)).ev0
theorem w_foa (d : Nat) (h : Rp M C) (hr : r < 5) : Ev (d + 4) 29 M [.ref (9 + 13 * r)] (fun M' v => M' = M ∧ v = some (.int (nI (c_foa C.1 (9 + 13 * r) (sl (C.2.1 r)))))) := by
  obtain ⟨p, p1, p2⟩ := h.hp hr
  have k := (k_foa d M.2.1 (Z := zO M) (h.k hr) p1 p2.o).ev0
  rw [c_foa_g h.1 hr] at k
  exact k
theorem w_due (d : Nat) (h : Rp M C) (hr : r < 5) (h1 : sl (C.2.1 r) < s) (h2 : s < 2 ^ 30) : Ev (d + 4) 50 M [.ref (9 + 13 * r), .int (nI s)] (fun M' v => M' = M ∧ v = some (.int (c_du C r s))) := by
  obtain ⟨p, p1, p2⟩ := h.hp hr
  have k := (k_due d M.2.1 (Z := zO M) (h.k hr) p1 p2.o h1 h2).ev0
  have e : c_due M.2.1 (9 + 13 * r) p (sl (C.2.1 r)) s = c_du C r s := by
    rw [c_due, c_du, c_cmpg_g h.1 hr, c_opn_g h.1 hr, c_sup, p2.mo, h.1 _ 1 (by omega), c_cha_g h.1 (by omega), c_va_g h.1 (by omega)]
    simp (disch := omega) only [c_vc, c_vh, h.1]
    rfl
  rw [e] at k
  exact k
theorem w_leads (d : Nat) (h : Rp M C) (hr : r < 5) : Ev (d + 4) 52 M [.ref (9 + 13 * r)] (fun M' v => M' = M ∧ v = some (.int (bI (c_cmpg C.1 (9 + 13 * r) && c_sp C r (sl (C.2.1 r) + 1))))) := by
  obtain ⟨p, p1, p2⟩ := h.hp hr
  have k := (k_leads d M.2.1 (Z := zO M) (h.k hr) p1 p2.o).ev0
  rw [c_cmpg_g h.1 hr, c_sup, p2.mo, h.1 _ 1 (by omega)] at k
  exact k
/-- writes of ints, the same on both sides -/
def Iu (M : xM) (C : xCC) (J J' : xI) : Prop := (∀ a i, a < 74 → J a i = J' a i) ∧ (∀ a i, 6 ≤ a ∧ a ≤ 8 ∨ 74 ≤ a → J a i = M.2.1 a i) ∧ J' 1 1 = C.1 1 1 ∧ J' 3 1 = C.1 3 1 ∧ ∀ r, r < 5 → J' (9 + 13 * r) 0 = C.1 (9 + 13 * r) 0
variable {J' : xI}
theorem Iu.of (h : Rp M C) : Iu M C M.2.1 C.1 := ⟨h.1, fun _ _ _ => rfl, rfl, rfl, fun _ _ => rfl⟩
theorem Iu.rp (h : Rp M C) (hu : Iu M C J J') : Rp (M.1, J, M.2.2) (J', C.2) ∧ Ext 0 M (M.1, J, M.2.2) := h.int hu.1 hu.2.1 hu.2.2.1 hu.2.2.2.1 hu.2.2.2.2
theorem Iu.g (hu : Iu M C J J') {K K' : xI} (P : Nat → Nat → Prop) (h1 : ∀ a i, ¬ P a i → K a i = J a i ∧ K' a i = J' a i) (h2 : ∀ a i, P a i → 9 ≤ a ∧ a < 74 ∧ (∀ r, r < 5 → a = 9 + 13 * r → i ≠ 0) ∧ K a i = K' a i) : Iu M C K K' := by
  obtain ⟨a1, a2, a3, a4, a5⟩ := hu
  refine ⟨fun a i ha => ?_, fun a i ha => ?_, ?_, ?_, fun r hr => ?_⟩
  · by_cases hp : P a i
    · exact (h2 a i hp).2.2.2
    · rw [(h1 a i hp).1, (h1 a i hp).2]
      exact a1 a i ha
  · by_cases hp : P a i
    · have := h2 a i hp
      omega
    · rw [(h1 a i hp).1]
      exact a2 a i ha
  · rw [(h1 1 1 (fun q => by have := h2 _ _ q; omega)).2]
    exact a3
  · rw [(h1 3 1 (fun q => by have := h2 _ _ q; omega)).2]
    exact a4
  · rw [(h1 (9 + 13 * r) 0 (fun q => (h2 _ _ q).2.2.1 r hr rfl rfl)).2]
    exact a5 r hr
theorem Iu.u (hu : Iu M C J J') {a i : Nat} (v : Int32) (h1 : 9 ≤ a) (h2 : a < 74) (h3 : i = 0 → ∀ r, r < 5 → a ≠ 9 + 13 * r) : Iu M C (x_u J a i v) (x_u J' a i v) :=
  hu.g (fun b j => b = a ∧ j = i) (fun b j h => ⟨x_u_ne _ _ h, x_u_ne _ _ h⟩) (fun b j h => by
    obtain ⟨rfl, rfl⟩ := h
    exact ⟨h1, h2, fun r hr e q => h3 q r hr e, by rw [x_u_eq, x_u_eq]⟩)
theorem Iu.cpr (hu : Iu M C J J') (hr : r < 5) (s : Nat) (x : Int32) : Iu M C (c_cpr J (9 + 13 * r + 6) s x) (c_cpr J' (9 + 13 * r + 6) s x) := by
  rw [c_cpr, c_cpr]
  split
  · exact (hu.u _ (by omega) (by omega) (fun _ _ _ => by omega)).u _ (by omega) (by omega) (fun _ _ _ => by omega)
  · exact hu
theorem Iu.vp (hu : Iu M C J J') (hr : r < 5) (s : Nat) (b c : Int32) : Iu M C (c_vp J (9 + 13 * r + 1) s b c) (c_vp J' (9 + 13 * r + 1) s b c) := by
  rw [c_vp, c_vp]
  split
  · exact (hu.u _ (by omega) (by omega) (fun _ _ _ => by omega)).u _ (by omega) (by omega) (fun _ _ _ => by omega)
  · exact hu
theorem Iu.cp (hu : Iu M C J J') (hr : r < 5) (s : Nat) (c : Int32) : Iu M C (c_cp J (9 + 13 * r + 4) s c) (c_cp J' (9 + 13 * r + 4) s c) := by
  rw [c_cp, c_cp]
  split
  · exact hu.u _ (by omega) (by omega) (fun _ _ _ => by omega)
  · exact hu
theorem Iu.cav (hu : Iu M C J J') (hr : r < 5) (s : Nat) (x : Int32) : Iu M C (c_cav J (9 + 13 * r + 6) s x) (c_cav J' (9 + 13 * r + 6) s x) := by
  rw [c_cav, c_cav, hu.1 (9 + 13 * r + 6 + 6) s (by omega)]
  split
  · exact hu.u _ (by omega) (by omega) (fun _ _ _ => by omega)
  · exact hu
theorem Iu.fg (hu : Iu M C J J') {a : Nat} (n : Nat) (x : Int32) (h1 : 9 ≤ a) (h2 : a < 74) : Iu M C (c_fg J a n x) (c_fg J' a n x) :=
  hu.g (fun b j => b = a ∧ 1 ≤ j ∧ j < 1 + n) (fun b j h => ⟨if_neg h, if_neg h⟩) (fun b j h => ⟨by omega, by omega, fun _ _ _ => by omega, by rw [c_fg, c_fg, f_fillF, f_fillF, if_pos h, if_pos h]⟩)
theorem Iu.mg (hu : Iu M C J J') {v w : Nat} (h1 : 9 ≤ v) (h2 : v + 2 < 74) (h3 : w + 2 < 74) : Iu M C (c_mg J v w 24) (c_mg J' v w 24) := by
  refine hu.g (fun b j => (b = v + 1 ∨ b = v + 2) ∧ 1 ≤ j ∧ j ≤ 24 ∧ J (v + 1) j < J (w + 1) j) (fun b j h => ?_) (fun b j h => ⟨by omega, by omega, fun _ _ _ => by omega, ?_⟩)
  · have e1 := hu.1 (v + 1) j (by omega)
    have e2 := hu.1 (w + 1) j (by omega)
    simp only [c_mg, ← e1, ← e2]
    rw [if_neg (fun q => h ⟨Or.inl q.1, q.2⟩), if_neg (fun q => h ⟨Or.inr q.1, q.2⟩), if_neg (fun q => h ⟨Or.inl q.1, q.2⟩), if_neg (fun q => h ⟨Or.inr q.1, q.2⟩)]
    exact ⟨rfl, rfl⟩
  · have e1 := hu.1 (v + 1) j (by omega)
    have e2 := hu.1 (w + 1) j (by omega)
    have e3 := hu.1 (w + 2) j (by omega)
    simp only [c_mg, c_vc, c_vh, ← e1, ← e2, ← e3]
    rcases h with ⟨rfl | rfl, h⟩
    · simp only [h, and_self, if_true]
    · have n1 : ¬ (v + 2 = v + 1) := by omega
      simp only [n1, h, false_and, and_self, if_true, if_false]
      rfl
/-- the same, for a merge out of the pool -/
theorem Iu.mgv (hu : Iu M C J J') {v w : Nat} {g : Nat → Nat → Int32} (h1 : 9 ≤ v) (h2 : v + 2 < 74) (hg : ∀ i, J (w + 1) i = g 1 i ∧ J (w + 2) i = g 2 i) : Iu M C (c_mg J v w 24) (fun a i => if a = v + 1 ∧ 1 ≤ i ∧ i ≤ 24 ∧ J' (v + 1) i < g 1 i then g 1 i else if a = v + 2 ∧ 1 ≤ i ∧ i ≤ 24 ∧ J' (v + 1) i < g 1 i then (if g 1 i ≠ 0 then g 2 i else -1) else J' a i) := by
  refine hu.g (fun b j => (b = v + 1 ∨ b = v + 2) ∧ 1 ≤ j ∧ j ≤ 24 ∧ J (v + 1) j < J (w + 1) j) (fun b j h => ?_) (fun b j h => ⟨by omega, by omega, fun _ _ _ => by omega, ?_⟩)
  · have e1 := hu.1 (v + 1) j (by omega)
    have e2 := (hg j).1
    simp only [c_mg, ← e1, ← e2]
    rw [if_neg (fun q => h ⟨Or.inl q.1, q.2⟩), if_neg (fun q => h ⟨Or.inr q.1, q.2⟩), if_neg (fun q => h ⟨Or.inl q.1, q.2⟩), if_neg (fun q => h ⟨Or.inr q.1, q.2⟩)]
    exact ⟨rfl, rfl⟩
  · have e1 := hu.1 (v + 1) j (by omega)
    have e2 := (hg j).1
    have e3 := (hg j).2
    have hs : c_sl j = true := c_sl_t.mpr ⟨h.2.1, h.2.2.1⟩
    simp only [c_mg, c_vc, c_vh, hs, Bool.true_and, decide_eq_true_eq, ← e1, ← e2, ← e3]
    rcases h with ⟨rfl | rfl, h⟩
    · simp only [h, and_self, if_true]
    · have n1 : ¬ (v + 2 = v + 1) := by omega
      simp only [n1, h, false_and, and_self, if_true, if_false]
end WRAP
