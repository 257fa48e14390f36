/-! the run of the small machine; it keeps its memory good -/
abbrev xCal : Type := Nat → xM → List Value → Option (xM × Option Value)
def x_run (ec : Nat → Nat) (dp : Nat) (P : Nat → Option xE) (rk : Nat) (cal : xCal) : Nat → xC → Option (xM × Option Value)
  | 0, _ => none
  | n + 1, (pc, ls, st, M) => match P pc with
    | none => none
    | some e => match x_st ec dp e ls st M with
      | some c => x_run ec dp P rk cal n c
      | none => match x_cl e st M with
        | some (k, as, r) => match cal k M as with
          | some (M', v) => x_run ec dp P rk cal n (e.2.1, ls, v.toList ++ r, M')
          | none => none
        | none => match x_rt rk e st with
          | some v => some (M, v)
          | none => none
theorem x_run_mono {ec : Nat → Nat} {dp : Nat} {P : Nat → Option xE} {rk : Nat} {cal cal' : xCal} (hc : ∀ k M as r, cal k M as = some r → cal' k M as = some r) :
    ∀ (n n' : Nat) (c : xC) (r : xM × Option Value), n ≤ n' → x_run ec dp P rk cal n c = some r → x_run ec dp P rk cal' n' c = some r := by
  intro n
  induction n with
  | zero => intro n' c r _ h; simp [x_run] at h
  | succ n ih =>
    intro n' c r hn h
    obtain ⟨n1, rfl⟩ : ∃ m, n' = m + 1 := ⟨n' - 1, by omega⟩
    obtain ⟨pc, ls, st, M⟩ := c
    simp only [x_run] at h ⊢
    cases hp : P pc with
    | none => rw [hp] at h; simp at h
    | some e =>
      rw [hp] at h
      simp only at h ⊢
      cases hs : x_st ec dp e ls st M with
      | some c => rw [hs] at h; simp only at h ⊢; exact ih n1 c r (by omega) h
      | none =>
        rw [hs] at h
        simp only at h ⊢
        cases hk : x_cl e st M with
        | some q =>
          obtain ⟨k, as, rr⟩ := q
          rw [hk] at h
          simp only at h ⊢
          cases hq : cal k M as with
          | none => rw [hq] at h; simp at h
          | some q =>
            obtain ⟨M', v⟩ := q
            rw [hq] at h
            rw [hc _ _ _ _ hq]
            simp only at h ⊢
            exact ih n1 _ r (by omega) h
        | none =>
          rw [hk] at h
          simp only at h ⊢
          exact h
/-- a value's address is in the memory -/
def x_wV (n : Nat) (v : Value) : Prop := ∀ i, v = .ref i → i < n
def x_wM (M : xM) : Prop := ∀ a j i, M.2.2.2 a j = some i → i < M.1.length
def x_G (c : xC) : Prop := x_wM c.2.2.2 ∧ (∀ v ∈ c.2.2.1, x_wV c.2.2.2.1.length v) ∧ ∀ v, some v ∈ c.2.1 → x_wV c.2.2.2.1.length v ∧ v.category = 1
/-- what a step keeps -/
def x_Kp (c c' : xC) : Prop := x_G c' ∧ c.2.2.2.1 <+: c'.2.2.2.1 ∧ c'.2.1.length = c.2.1.length
theorem x_wV_int {n : Nat} {x : Int32} : x_wV n (.int x) := fun i h => by cases h
theorem x_wV_long {n : Nat} {x : Int64} : x_wV n (.long x) := fun i h => by cases h
theorem x_wV_null {n : Nat} : x_wV n .null := fun i h => by cases h
theorem x_wV_ref {n a : Nat} (h : a < n) : x_wV n (.ref a) := fun i e => by cases e; exact h
theorem x_wV.le {n m : Nat} {v : Value} (h : x_wV n v) (hm : n ≤ m) : x_wV m v := fun i e => Nat.lt_of_lt_of_le (h i e) hm
theorem x_wV_rf {n : Nat} {r : Option Nat} (h : ∀ i, r = some i → i < n) : x_wV n (va_rf r) := by
  cases r with
  | none => exact x_wV_null
  | some a => exact x_wV_ref (h a rfl)
theorem x_lt {α : Type} {l : List α} {a : Nat} {x : α} (h : l[a]? = some x) : a < l.length := (List.getElem?_eq_some_iff.mp h).1
section XG
variable {pc : Nat} {ls : xL} {st : List Value} {M : xM} {v w u : Value}
theorem x_G.push (h : x_G (pc, ls, st, M)) (hv : x_wV M.1.length v) : x_G (pc, ls, v :: st, M) :=
  ⟨h.1, fun x hx => by
    rcases List.mem_cons.mp hx with rfl | hx
    · exact hv
    · exact h.2.1 x hx, h.2.2⟩
theorem x_G.top (h : x_G (pc, ls, v :: st, M)) : x_wV M.1.length v := h.2.1 v List.mem_cons_self
theorem x_G.top2 (h : x_G (pc, ls, w :: v :: st, M)) : x_wV M.1.length v := h.2.1 v (List.mem_cons_of_mem _ List.mem_cons_self)
theorem x_G.pop (h : x_G (pc, ls, v :: st, M)) : x_G (pc, ls, st, M) := ⟨h.1, fun x hx => h.2.1 x (List.mem_cons_of_mem _ hx), h.2.2⟩
theorem x_G.set (h : x_G (pc, ls, st, M)) (hv : x_wV M.1.length v) (hc : v.category = 1) (i : Nat) : x_G (pc, ls.set i (some v), st, M) := by
  refine ⟨h.1, h.2.1, fun x hx => ?_⟩
  rcases List.mem_or_eq_of_mem_set hx with h1 | h1
  · exact h.2.2 x h1
  · cases h1; exact ⟨hv, hc⟩
theorem x_G.I (h : x_G (pc, ls, st, M)) (I : Nat → Nat → Int32) (L : Nat → Nat → Int64) : x_G (pc, ls, st, (M.1, I, L, M.2.2.2)) := h
theorem x_G.R (h : x_G (pc, ls, st, M)) (I : Nat → Nat → Int32) (L : Nat → Nat → Int64) (a j : Nat) (r : Option Nat) (hr : ∀ i, r = some i → i < M.1.length) : x_G (pc, ls, st, (M.1, I, L, x_u M.2.2.2 a j r)) := by
  refine ⟨fun b i q hq => ?_, h.2.1, h.2.2⟩
  simp only [x_u] at hq
  split at hq
  · exact hr q hq
  · exact h.1 b i q hq
theorem x_G.grow (h : x_G (pc, ls, st, M)) (k : xK) (I : Nat → Nat → Int32) (L : Nat → Nat → Int64) : x_G (pc, ls, .ref M.1.length :: st, (M.1 ++ [k], I, L, x_w M.2.2.2 M.1.length none)) := by
  have hl : (M.1 ++ [k]).length = M.1.length + 1 := by simp
  refine ⟨fun b i q hq => ?_, fun x hx => ?_, fun x hx => ⟨(h.2.2 x hx).1.le (by rw [hl]; exact Nat.le_succ _), (h.2.2 x hx).2⟩⟩
  · simp only [x_w] at hq
    split at hq
    · cases hq
    · have := h.1 b i q hq
      show q < (M.1 ++ [k]).length
      rw [hl]; exact Nat.lt_succ_of_lt this
  · rcases List.mem_cons.mp hx with rfl | hx
    · exact x_wV_ref (by show M.1.length < (M.1 ++ [k]).length; rw [hl]; exact Nat.lt_succ_self _)
    · exact (h.2.1 x hx).le (by show M.1.length ≤ (M.1 ++ [k]).length; rw [hl]; exact Nat.le_succ _)
theorem x_G.loc (h : x_G (pc, ls, st, M)) {i : Nat} (hi : ls[i]? = some (some v)) : x_wV M.1.length v ∧ v.category = 1 := h.2.2 v (List.mem_of_getElem? hi)
end XG
theorem x_kp_st {ec : Nat → Nat} {dp : Nat} {e : xE} {pc : Nat} {ls : xL} {st : List Value} {M : xM} {c : xC} (h : x_G (pc, ls, st, M)) (hs : x_st ec dp e ls st M = some c) : x_Kp (pc, ls, st, M) c := by
  obtain ⟨ins, nx, cn, xs⟩ := e
  have fin : ∀ {nx' : Nat} {ls' : xL} {st' : List Value} {M' : xM}, x_G (pc, ls', st', M') → M.1 <+: M'.1 → ls'.length = ls.length → some (nx', ls', st', M') = some c → x_Kp (pc, ls, st, M) c := by
    intro nx' ls' st' M' h1 h2 h3 h4
    cases h4
    exact ⟨h1, h2, h3⟩
  have pf : M.1 <+: M.1 := List.prefix_refl _
  have pg : ∀ k, M.1 <+: M.1 ++ [k] := fun k => List.prefix_append _ _
  unfold x_st at hs
  simp only at hs
  split at hs <;> try (cases hs; done)
  all_goals (try (simp only [x_i1] at hs; refine fin (h.push ?_) pf rfl hs; first | exact x_wV_int | exact x_wV_long | exact x_wV_null))
  all_goals (try (simp only [x_i2] at hs; split at hs; (· exact fin (h.pop.pop.push x_wV_int) pf rfl hs); (· cases hs)))
  all_goals (try (simp only [x_l2] at hs; split at hs; (· exact fin (h.pop.pop.push x_wV_long) pf rfl hs); (· cases hs)))
  all_goals (try (simp only [x_ls] at hs; split at hs; (· exact fin (h.pop.pop.push x_wV_long) pf rfl hs); (· cases hs)))
  all_goals (try (simp only [x_dv] at hs; split at hs; (· split at hs; (· cases hs); (· exact fin (h.pop.pop.push x_wV_int) pf rfl hs)); (· cases hs)))
  all_goals (try (simp only [x_lc] at hs; split at hs; (· exact fin (h.pop.pop.push x_wV_int) pf rfl hs); (· cases hs)))
  all_goals (try (simp only [x_b1] at hs; split at hs; (· exact fin h.pop pf rfl hs); (· cases hs)))
  all_goals (try (simp only [x_b2] at hs; split at hs; (· exact fin h.pop.pop pf rfl hs); (· cases hs)))
  all_goals (try (exact fin h pf rfl hs))
  all_goals (try (simp only [x_ld] at hs; split at hs; (· exact fin (h.push x_wV_int) pf rfl hs); (· cases hs)))
  all_goals (try (simp only [x_la] at hs; split at hs; (· rename_i hi; exact fin (h.push (h.loc hi).1) pf rfl hs); (· exact fin (h.push x_wV_null) pf rfl hs); (· cases hs)))
  all_goals (try (simp only [x_si] at hs; split at hs; (· exact fin (h.pop.set x_wV_int rfl _) pf (by simp) hs); (· cases hs)))
  all_goals (try (simp only [x_sa] at hs; split at hs; (· exact fin (h.pop.set h.top rfl _) pf (by simp) hs); (· exact fin (h.pop.set x_wV_null rfl _) pf (by simp) hs); (· cases hs)))
  all_goals (try (simp only [x_in] at hs; split at hs; (· exact fin (h.set x_wV_int rfl _) pf (by simp) hs); (· cases hs)))
  all_goals (try (simp only [x_nu] at hs; split at hs; (· exact fin h.pop pf rfl hs); (· exact fin h.pop pf rfl hs); (· cases hs)))
  all_goals (try (simp only [x_nn] at hs; split at hs; (· exact fin h.pop pf rfl hs); (· exact fin h.pop pf rfl hs); (· cases hs)))
  all_goals (try (simp only [x_ts] at hs; split at hs; (· exact fin h.pop pf rfl hs); (· cases hs)))
  all_goals (try (simp only [x_d1] at hs; split at hs; (· split at hs; (· exact fin (h.push h.top) pf rfl hs); (· cases hs)); (· cases hs)))
  all_goals (try (simp only [x_d2] at hs; split at hs; (· split at hs; (· exact fin (((h.push h.top2).push h.top)) pf rfl hs); (· cases hs)); (· cases hs)))
  all_goals (try (simp only [x_po] at hs; split at hs; (· split at hs; (· exact fin h.pop pf rfl hs); (· cases hs)); (· cases hs)))
  all_goals (try (simp only [x_gf] at hs; split at hs; (· split at hs; (· refine fin (h.pop.push ?_) pf rfl hs; simp only [x_fv]; split; (· exact x_wV_int); (· exact x_wV_int); (· exact x_wV_long); (· exact x_wV_rf (h.1 _ _))); (· cases hs)); (· cases hs)))
  all_goals (try (simp only [x_al] at hs; split at hs; (· split at hs; (· split at hs; (· exact fin (h.pop.pop.push x_wV_int) pf rfl hs); (· cases hs)); (· cases hs)); (· cases hs)))
  all_goals (try (simp only [x_aq] at hs; split at hs; (· split at hs; (· split at hs; (· exact fin (h.pop.pop.push (x_wV_rf (h.1 _ _))) pf rfl hs); (· cases hs)); (· cases hs)); (· cases hs)))
  all_goals (try (simp only [x_as] at hs; split at hs; (· split at hs; (· split at hs; (· exact fin ((h.pop.pop.pop).I _ _) pf rfl hs); (· cases hs)); (· cases hs)); (· cases hs)))
  all_goals (try (simp only [x_ln] at hs; split at hs; (· split at hs; (· exact fin (h.pop.push x_wV_int) pf rfl hs); (· cases hs)); (· cases hs)))
  all_goals (try (simp only [x_cc] at hs; split at hs; (· split at hs; (· exact fin h pf rfl hs); (· cases hs)); (· cases hs)))
  all_goals (try (simp only [x_nw] at hs; exact fin (h.grow _ _ _) (pg _) rfl hs))
  all_goals (try (simp only [x_na] at hs; split at hs; (· split at hs; (· exact fin (h.pop.grow _ _ _) (pg _) rfl hs); (· cases hs)); (· cases hs)))
  all_goals (try (simp only [x_iv] at hs; split at hs; (· split at hs; (· exact fin h.pop pf rfl hs); (· cases hs)); (· split at hs; (· split at hs; (· exact fin (h.pop.grow _ _ _) (pg _) rfl hs); (· cases hs)); (· cases hs)); (· cases hs)))
  · simp only [x_pf] at hs
    split at hs
    · split at hs
      · simp only [x_pv] at hs
        split at hs
        · cases hs; exact ⟨h.pop.pop, pf, rfl⟩
        · split at hs
          · cases hs; exact ⟨h.pop.pop, pf, rfl⟩
          · cases hs
        · cases hs; exact ⟨h.pop.pop, pf, rfl⟩
        · cases hs; exact ⟨(h.pop.pop).R _ _ _ _ _ (fun i hi => h.top i (by cases hi; rfl)), pf, rfl⟩
        · cases hs; exact ⟨(h.pop.pop).R _ _ _ _ _ (fun i hi => by cases hi), pf, rfl⟩
        · cases hs
      · cases hs
    · cases hs
  · unfold x_as at hs
    split at hs
    · split at hs
      · split at hs
        · cases hs; exact ⟨h.pop.pop.pop, pf, rfl⟩
        · cases hs
      · cases hs
    · cases hs
  · unfold x_as at hs
    split at hs
    · split at hs
      · split at hs
        · cases hs; exact ⟨h.pop.pop.pop, pf, rfl⟩
        · cases hs
      · cases hs
    · cases hs
  · unfold x_sq at hs
    split at hs
    · split at hs
      · split at hs
        · cases hs; exact ⟨(h.pop.pop.pop).R _ _ _ _ _ (fun i hi => h.top i (by cases hi; rfl)), pf, rfl⟩
        · cases hs
      · cases hs
    · split at hs
      · split at hs
        · cases hs; exact ⟨(h.pop.pop.pop).R _ _ _ _ _ (fun i hi => by cases hi), pf, rfl⟩
        · cases hs
      · cases hs
    · cases hs
theorem x_cl_eq {e : xE} {st : List Value} {M : xM} {k : Nat} {as r : List Value} (h : x_cl e st M = some (k, as, r)) :
    ∃ n, as = (st.take n).reverse ∧ r = st.drop n ∧ n ≤ st.length ∧ (r.map fun v => v.category).sum ≤ 8 := by
  unfold x_cl at h
  split at h
  split at h
  · split at h
    · rename_i hc
      split at h
      · rename_i hr
        split at h
        · split at h
          · rename_i h2
            cases h
            exact ⟨_, hr.symm, rfl, hc, h2.2⟩
          · cases h
        · cases h
      · cases h
    · cases h
  · split at h
    · rename_i hc
      cases h
      exact ⟨_, rfl, rfl, hc.1, hc.2⟩
    · cases h
  · split at h
    · rename_i hc
      split at h
      · rename_i hr
        split at h
        · rename_i h2
          cases h
          exact ⟨_, hr.symm, rfl, hc, h2⟩
        · cases h
      · cases h
    · cases h
  · cases h
theorem x_cl_mem {e : xE} {st : List Value} {M : xM} {k : Nat} {as r : List Value} (h : x_cl e st M = some (k, as, r)) : (∀ v ∈ as, v ∈ st) ∧ ∀ v ∈ r, v ∈ st := by
  obtain ⟨n, rfl, rfl, -, -⟩ := x_cl_eq h
  exact ⟨fun v hv => List.mem_of_mem_take (List.mem_reverse.mp hv), fun v hv => List.mem_of_mem_drop hv⟩
theorem x_rt_mem {rk : Nat} {e : xE} {st : List Value} {v : Option Value} (h : x_rt rk e st = some v) : ∀ u, v = some u → u ∈ st := by
  unfold x_rt at h
  split at h
  · cases h; intro u hu; cases hu
  · cases h; intro u hu; cases hu; exact List.mem_cons_self
  · split at h
    · cases h; intro u hu; cases hu; exact List.mem_cons_self
    · cases h
  · cases h; intro u hu; cases hu; exact List.mem_cons_self
  · cases h; intro u hu; cases hu; exact List.mem_cons_self
  · cases h
/-- what comes back is good -/
def x_gR (M : xM) (r : xM × Option Value) : Prop := x_wM r.1 ∧ M.1 <+: r.1.1 ∧ ∀ u, r.2 = some u → x_wV r.1.1.length u
def x_gC (cal : xCal) : Prop := ∀ k M as r, x_wM M → (∀ v ∈ as, x_wV M.1.length v) → cal k M as = some r → x_gR M r
theorem x_run_good {ec : Nat → Nat} {dp : Nat} {P : Nat → Option xE} {rk : Nat} {cal : xCal} (hc : x_gC cal) :
    ∀ (n : Nat) (c : xC) (r : xM × Option Value), x_G c → x_run ec dp P rk cal n c = some r → x_gR c.2.2.2 r := by
  intro n
  induction n with
  | zero => intro c r _ h; simp [x_run] at h
  | succ n ih =>
    intro c r hg h
    obtain ⟨pc, ls, st, M⟩ := c
    simp only [x_run] at h
    cases hp : P pc with
    | none => rw [hp] at h; simp at h
    | some e =>
      rw [hp] at h
      simp only at h
      cases hs : x_st ec dp e ls st M with
      | some c =>
        rw [hs] at h
        simp only at h
        obtain ⟨g1, g2, -⟩ := x_kp_st hg hs
        obtain ⟨a1, a2, a3⟩ := ih c r g1 h
        exact ⟨a1, g2.trans a2, a3⟩
      | none =>
        rw [hs] at h
        simp only at h
        cases hk : x_cl e st M with
        | some q =>
          obtain ⟨k, as, rr⟩ := q
          rw [hk] at h
          simp only at h
          cases hq : cal k M as with
          | none => rw [hq] at h; simp at h
          | some q =>
            obtain ⟨M', v⟩ := q
            rw [hq] at h
            simp only at h
            obtain ⟨m1, m2⟩ := x_cl_mem hk
            obtain ⟨b1, b2, b3⟩ := hc k M as (M', v) hg.1 (fun u hu => hg.2.1 u (m1 u hu)) hq
            have hle : M.1.length ≤ M'.1.length := b2.length_le
            obtain ⟨a1, a2, a3⟩ := ih (e.2.1, ls, v.toList ++ rr, M') r ⟨b1, fun u hu => by
              rcases List.mem_append.mp hu with h1 | h1
              · exact b3 u (by cases v <;> simp_all)
              · exact (hg.2.1 u (m2 u h1)).le hle, fun u hu => ⟨(hg.2.2 u hu).1.le hle, (hg.2.2 u hu).2⟩⟩ h
            exact ⟨a1, b2.trans a2, a3⟩
        | none =>
          rw [hk] at h
          simp only at h
          cases hr : x_rt rk e st with
          | none => rw [hr] at h; simp at h
          | some v =>
            rw [hr] at h
            cases h
            exact ⟨hg.1, List.prefix_refl _, fun u hu => hg.2.1 u (x_rt_mem hr u hu)⟩
/-- a frame's first locals: values of one word alone -/
def x_en (nL : Nat) (as : List Value) : Option xL := if as.length ≤ nL ∧ (∀ v ∈ as, v.category = 1) then some (as.map some ++ List.replicate (nL - as.length) none) else none
theorem x_en_G {nL pc : Nat} {as : List Value} {ls : xL} {M : xM} (h : x_en nL as = some ls) (hM : x_wM M) (ha : ∀ v ∈ as, x_wV M.1.length v) : x_G (pc, ls, [], M) ∧ ls.length = nL := by
  unfold x_en at h
  split at h
  · rename_i hc
    cases h
    refine ⟨⟨hM, fun v hv => (by cases hv), fun v hv => ?_⟩, by simp; omega⟩
    rcases List.mem_append.mp hv with h1 | h1
    · obtain ⟨w, hw, e⟩ := List.mem_map.mp h1
      cases e
      exact ⟨ha v hw, hc.2 v hw⟩
    · exact absurd (List.eq_of_mem_replicate h1) (by simp)
  · cases h
