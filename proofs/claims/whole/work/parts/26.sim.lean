/-! a step of the small machine is a step of the JVM: all instructions -/
section XSIM
variable {p : Program} {l : Launch} {e : Env} {R : Room} {s : State} {m : MethodId} {args : Array Value} {below : List Frame} {meth : Method} {c : Code} {D : va_G} {tC : Nat → ClassId} {A : Nat → Prop} {d k : Nat}
variable {ad0 : Nat → Nat} {M0 : xM} {ad : Nat → Nat} {M : xM} {ls : xL} {st : List Value} {arr : Array Slot} {H : Heap} {locs : List Loc} {cells slots : Nat} {Q : State → Prop}
theorem x_Dy.same {nL : Nat} {H0 : Heap} {st' : List Value} {pc' : Nat} (Y : x_Dy D tC A H0 nL ad0 M0 ad M ls st arr H locs cells slots) (hg : x_G (pc', ls, st', M)) : x_Dy D tC A H0 nL ad0 M0 ad M ls st' arr H locs cells slots := ⟨hg, Y.2⟩
theorem x_Dy.loc {nL : Nat} {H0 : Heap} {st' : List Value} {ls' : xL} {arr' : Array Slot} {pc' : Nat} (Y : x_Dy D tC A H0 nL ad0 M0 ad M ls st arr H locs cells slots) (hg : x_G (pc', ls', st', M)) (hl : x_lr ad arr' nL ls') : x_Dy D tC A H0 nL ad0 M0 ad M ls' st' arr' H locs cells slots := ⟨hg, hl, Y.2.2⟩
set_option maxHeartbeats 4000000 in
theorem x_sim_st (F : x_Fx p R s m args meth c D tC A d k) (Y : x_Dy D tC A s.heap (x_nL k) ad0 M0 ad M ls st arr H locs cells slots) {pc : Nat} {e' : xE} (he : x_P k pc = some e') {pc' : Nat} {ls' : xL} {st' : List Value} {M' : xM} (hs : x_st x_ec d e' ls st M = some (pc', ls', st', M'))
    (hcap : M'.1.length ≤ M0.1.length + R.cells ∧ x_sz M' ≤ x_sz M0 + R.slots)
    (kk : ∀ (ad' : Nat → Nat) (arr' : Array Slot) (H' : Heap) (locs' : List Loc) (cells' slots' : Nat), x_Dy D tC A s.heap (x_nL k) ad0 M0 ad' M' ls' st' arr' H' locs' cells' slots' → W p l e R s m args below meth c H' locs' cells' slots' Q (F0 m pc' arr' (st'.map (x_V ad')))) :
    W p l e R s m args below meth c H locs cells slots Q (F0 m pc arr (st.map (x_V ad))) := by
  obtain ⟨hx, hb, hml, hown, hts, hU, hr, hlk, hini, hA, hfr, hlo⟩ := F
  have hok := (x_ck k pc e' he).1
  have hkp := x_kp_st (pc := 0) Y.1 hs
  obtain ⟨ins, nx, cn, xs⟩ := e'
  simp only [x_okb, Bool.and_eq_true, decide_eq_true_eq] at hok
  obtain ⟨⟨hd, hlen⟩, hn⟩ := hok
  have hg := hkp.1
  clear hkp
  have Y' := Y
  obtain ⟨hG, hlr, had, hP, hD, hS, hce, hsl⟩ := Y'
  unfold x_st at hs
  simp only at hs
  split at hs
  · -- iconst
    rename_i i
    have hnx : nx = pc + 1 := by
      rcases hlen with h | h
      · simp [x_len] at h
      · simpa [x_len] using h
    subst hnx
    rw [Nat.add_sub_cancel_left] at hd
    simp only [x_okn, decide_eq_true_eq] at hn
    unfold x_i1 at hs
    cases hs
    exact lv_iconst hx hb hd hn (kk ad arr H locs cells slots (Y.same hg))
  · -- bipush
    rename_i i
    have hnx : nx = pc + 2 := by
      rcases hlen with h | h
      · simp [x_len] at h
      · simpa [x_len] using h
    subst hnx
    rw [Nat.add_sub_cancel_left] at hd
    simp only [x_okn, decide_eq_true_eq] at hn
    unfold x_i1 at hs
    cases hs
    exact lv_bipush hx hb hd hn (kk ad arr H locs cells slots (Y.same hg))
  · -- sipush
    rename_i i
    have hnx : nx = pc + 3 := by
      rcases hlen with h | h
      · simp [x_len] at h
      · simpa [x_len] using h
    subst hnx
    rw [Nat.add_sub_cancel_left] at hd
    simp only [x_okn, decide_eq_true_eq] at hn
    unfold x_i1 at hs
    cases hs
    exact lv_sipush hx hb hd hn (kk ad arr H locs cells slots (Y.same hg))
  · -- ldc
    rename_i i
    have hnx : nx = pc + 2 := by
      rcases hlen with h | h
      · simp [x_len] at h
      · simpa [x_len] using h
    subst hnx
    rw [Nat.add_sub_cancel_left] at hd
    simp only [x_okn, decide_eq_true_eq] at hn
    unfold x_i1 at hs
    cases hs
    exact lv_ldc hx hb hown (hts _ (x_lT_ok _ hn)) hd (kk ad arr H locs cells slots (Y.same hg))
  · -- ldc_w
    rename_i i
    have hnx : nx = pc + 3 := by
      rcases hlen with h | h
      · simp [x_len] at h
      · simpa [x_len] using h
    subst hnx
    rw [Nat.add_sub_cancel_left] at hd
    simp only [x_okn, decide_eq_true_eq] at hn
    unfold x_i1 at hs
    cases hs
    exact lv_ldcw hx hb hown (hts _ (x_lT_ok _ hn)) hd (kk ad arr H locs cells slots (Y.same hg))
  · -- lconst
    rename_i i
    have hnx : nx = pc + 1 := by
      rcases hlen with h | h
      · simp [x_len] at h
      · simpa [x_len] using h
    subst hnx
    rw [Nat.add_sub_cancel_left] at hd
    unfold x_i1 at hs
    cases hs
    exact lv_lconst hx hb hd rfl (kk ad arr H locs cells slots (Y.same hg))
  · -- aconst_null
    have hnx : nx = pc + 1 := by
      rcases hlen with h | h
      · simp [x_len] at h
      · simpa [x_len] using h
    subst hnx
    rw [Nat.add_sub_cancel_left] at hd
    unfold x_i1 at hs
    cases hs
    exact lv_null hx hb hd (kk ad arr H locs cells slots (Y.same hg))
  · -- iload_n
    rename_i n i
    have hnx : nx = pc + 1 := by
      rcases hlen with h | h
      · simp [x_len] at h
      · simpa [x_len] using h
    subst hnx
    rw [Nat.add_sub_cancel_left] at hd
    simp only [x_okn, decide_eq_true_eq] at hn
    unfold x_ld at hs
    split at hs
    · rename_i x hv
      cases hs
      exact lv_iload_n hx hb hd hn (hlr.2.2 _ _ hv) (kk ad arr H locs cells slots (Y.same hg))
    · cases hs
  · -- iload
    rename_i n i
    have hnx : nx = pc + 2 := by
      rcases hlen with h | h
      · simp [x_len] at h
      · simpa [x_len] using h
    subst hnx
    rw [Nat.add_sub_cancel_left] at hd
    simp only [x_okn, decide_eq_true_eq] at hn
    subst hn
    unfold x_ld at hs
    split at hs
    · rename_i x hv
      cases hs
      exact lv_iload hx hb hd (hlr.2.2 _ _ hv) (kk ad arr H locs cells slots (Y.same hg))
    · cases hs
  · -- aload_n
    rename_i n i
    have hnx : nx = pc + 1 := by
      rcases hlen with h | h
      · simp [x_len] at h
      · simpa [x_len] using h
    subst hnx
    rw [Nat.add_sub_cancel_left] at hd
    simp only [x_okn, decide_eq_true_eq] at hn
    unfold x_la at hs
    split at hs
    · rename_i x hv
      cases hs
      exact lv_aload_n hx hb hd hn (hlr.2.2 _ _ hv) (kk ad arr H locs cells slots (Y.same hg))
    · rename_i hv
      cases hs
      exact lv_aload_nN hx hb hd hn (hlr.2.2 _ _ hv) (kk ad arr H locs cells slots (Y.same hg))
    · cases hs
  · -- aload
    rename_i n i
    have hnx : nx = pc + 2 := by
      rcases hlen with h | h
      · simp [x_len] at h
      · simpa [x_len] using h
    subst hnx
    rw [Nat.add_sub_cancel_left] at hd
    simp only [x_okn, decide_eq_true_eq] at hn
    subst hn
    unfold x_la at hs
    split at hs
    · rename_i x hv
      cases hs
      exact lv_aload hx hb hd (hlr.2.2 _ _ hv) (kk ad arr H locs cells slots (Y.same hg))
    · rename_i hv
      cases hs
      exact lv_aloadN hx hb hd (hlr.2.2 _ _ hv) (kk ad arr H locs cells slots (Y.same hg))
    · cases hs
  · -- istore_n
    rename_i n i
    have hnx : nx = pc + 1 := by
      rcases hlen with h | h
      · simp [x_len] at h
      · simpa [x_len] using h
    subst hnx
    rw [Nat.add_sub_cancel_left] at hd
    simp only [x_okn, decide_eq_true_eq] at hn
    unfold x_si at hs
    split at hs
    · rename_i x r
      cases hs
      refine lv_istore_n hx hb hd hn.1 hlr.has hn.2 rfl (fun arr' h' => kk ad arr' H locs cells slots (Y.loc hg (x_lr.store (v := .int x) hlr.1 hn.2 (fun w hw => (hG.2.2 w hw).2) (fun q hq => hq) h')))
    · cases hs
  · -- istore
    rename_i n i
    have hnx : nx = pc + 2 := by
      rcases hlen with h | h
      · simp [x_len] at h
      · simpa [x_len] using h
    subst hnx
    rw [Nat.add_sub_cancel_left] at hd
    simp only [x_okn, decide_eq_true_eq] at hn
    obtain ⟨rfl, hn2⟩ := hn
    have hn : True ∧ _ := ⟨trivial, hn2⟩
    unfold x_si at hs
    split at hs
    · rename_i x r
      cases hs
      refine lv_istore hx hb hd hlr.has hn.2 rfl (fun arr' h' => kk ad arr' H locs cells slots (Y.loc hg (x_lr.store (v := .int x) hlr.1 hn.2 (fun w hw => (hG.2.2 w hw).2) (fun q hq => hq) h')))
    · cases hs
  · -- astore_n
    rename_i n i
    have hnx : nx = pc + 1 := by
      rcases hlen with h | h
      · simp [x_len] at h
      · simpa [x_len] using h
    subst hnx
    rw [Nat.add_sub_cancel_left] at hd
    simp only [x_okn, decide_eq_true_eq] at hn
    unfold x_sa at hs
    split at hs
    · rename_i x r
      cases hs
      refine lv_astore_n hx hb hd hn.1 hlr.has hn.2 rfl (fun arr' h' => kk ad arr' H locs cells slots (Y.loc hg (x_lr.store (v := .ref x) hlr.1 hn.2 (fun w hw => (hG.2.2 w hw).2) (fun q hq => hq) h')))
    · rename_i r
      cases hs
      refine lv_astore_nN hx hb hd hn.1 hlr.has hn.2 rfl (fun arr' h' => kk ad arr' H locs cells slots (Y.loc hg (x_lr.store (v := .null) hlr.1 hn.2 (fun w hw => (hG.2.2 w hw).2) (fun q hq => hq) h')))
    · cases hs
  · -- astore
    rename_i n i
    have hnx : nx = pc + 2 := by
      rcases hlen with h | h
      · simp [x_len] at h
      · simpa [x_len] using h
    subst hnx
    rw [Nat.add_sub_cancel_left] at hd
    simp only [x_okn, decide_eq_true_eq] at hn
    obtain ⟨rfl, hn2⟩ := hn
    have hn : True ∧ _ := ⟨trivial, hn2⟩
    unfold x_sa at hs
    split at hs
    · rename_i x r
      cases hs
      refine lv_astore hx hb hd hlr.has hn.2 rfl (fun arr' h' => kk ad arr' H locs cells slots (Y.loc hg (x_lr.store (v := .ref x) hlr.1 hn.2 (fun w hw => (hG.2.2 w hw).2) (fun q hq => hq) h')))
    · rename_i r
      cases hs
      refine lv_astoreN hx hb hd hlr.has hn.2 rfl (fun arr' h' => kk ad arr' H locs cells slots (Y.loc hg (x_lr.store (v := .null) hlr.1 hn.2 (fun w hw => (hG.2.2 w hw).2) (fun q hq => hq) h')))
    · cases hs
  · -- iinc
    rename_i n v i
    have hnx : nx = pc + 3 := by
      rcases hlen with h | h
      · simp [x_len] at h
      · simpa [x_len] using h
    subst hnx
    rw [Nat.add_sub_cancel_left] at hd
    simp only [x_okn, decide_eq_true_eq] at hn
    obtain ⟨rfl, hn1, hn2⟩ := hn
    unfold x_in at hs
    split at hs
    · rename_i x hv
      cases hs
      refine lv_iinc (k := 0) (lv := (n, .int x) :: x_ll ad ls) hx hb hd ⟨hlr.has.1, hlr.has.2.1, fun q hq => ?_⟩ rfl (show x + Int32.ofInt v = x + cn by rw [hn1]) hn2 rfl (fun arr' h' => kk ad arr' H locs cells slots (Y.loc hg (x_lr.store (v := .int (x + cn)) hlr.1 hn2 (fun w hw => (hG.2.2 w hw).2) (fun q hq => List.mem_cons_of_mem _ hq) h')))
      rcases List.mem_cons.mp hq with rfl | hq
      · exact hlr.2.2 _ _ hv
      · exact hlr.has.2.2 q hq
    · cases hs
  · -- iadd
    have hnx : nx = pc + 1 := by
      rcases hlen with h | h
      · simp [x_len] at h
      · simpa [x_len] using h
    subst hnx
    rw [Nat.add_sub_cancel_left] at hd
    unfold x_i2 at hs
    split at hs
    · rename_i y x r
      cases hs
      exact lv_iadd hx hb hd (kk ad arr H locs cells slots (Y.same hg))
    · cases hs
  · -- isub
    have hnx : nx = pc + 1 := by
      rcases hlen with h | h
      · simp [x_len] at h
      · simpa [x_len] using h
    subst hnx
    rw [Nat.add_sub_cancel_left] at hd
    unfold x_i2 at hs
    split at hs
    · rename_i y x r
      cases hs
      exact lv_isub hx hb hd (kk ad arr H locs cells slots (Y.same hg))
    · cases hs
  · -- imul
    have hnx : nx = pc + 1 := by
      rcases hlen with h | h
      · simp [x_len] at h
      · simpa [x_len] using h
    subst hnx
    rw [Nat.add_sub_cancel_left] at hd
    unfold x_i2 at hs
    split at hs
    · rename_i y x r
      cases hs
      exact lv_imul hx hb hd (kk ad arr H locs cells slots (Y.same hg))
    · cases hs
  · -- iand
    have hnx : nx = pc + 1 := by
      rcases hlen with h | h
      · simp [x_len] at h
      · simpa [x_len] using h
    subst hnx
    rw [Nat.add_sub_cancel_left] at hd
    unfold x_i2 at hs
    split at hs
    · rename_i y x r
      cases hs
      exact lv_iand hx hb hd (kk ad arr H locs cells slots (Y.same hg))
    · cases hs
  · -- ior
    have hnx : nx = pc + 1 := by
      rcases hlen with h | h
      · simp [x_len] at h
      · simpa [x_len] using h
    subst hnx
    rw [Nat.add_sub_cancel_left] at hd
    unfold x_i2 at hs
    split at hs
    · rename_i y x r
      cases hs
      exact lv_ior hx hb hd (kk ad arr H locs cells slots (Y.same hg))
    · cases hs
  · -- ixor
    have hnx : nx = pc + 1 := by
      rcases hlen with h | h
      · simp [x_len] at h
      · simpa [x_len] using h
    subst hnx
    rw [Nat.add_sub_cancel_left] at hd
    unfold x_i2 at hs
    split at hs
    · rename_i y x r
      cases hs
      exact lv_ixor hx hb hd (kk ad arr H locs cells slots (Y.same hg))
    · cases hs
  · -- ishl
    have hnx : nx = pc + 1 := by
      rcases hlen with h | h
      · simp [x_len] at h
      · simpa [x_len] using h
    subst hnx
    rw [Nat.add_sub_cancel_left] at hd
    unfold x_i2 at hs
    split at hs
    · rename_i y x r
      cases hs
      exact lv_ishl hx hb hd (kk ad arr H locs cells slots (Y.same hg))
    · cases hs
  · -- ishr
    have hnx : nx = pc + 1 := by
      rcases hlen with h | h
      · simp [x_len] at h
      · simpa [x_len] using h
    subst hnx
    rw [Nat.add_sub_cancel_left] at hd
    unfold x_i2 at hs
    split at hs
    · rename_i y x r
      cases hs
      exact lv_ishr hx hb hd (kk ad arr H locs cells slots (Y.same hg))
    · cases hs
  · -- iushr
    have hnx : nx = pc + 1 := by
      rcases hlen with h | h
      · simp [x_len] at h
      · simpa [x_len] using h
    subst hnx
    rw [Nat.add_sub_cancel_left] at hd
    unfold x_i2 at hs
    split at hs
    · rename_i y x r
      cases hs
      exact lv_iushr hx hb hd rfl (kk ad arr H locs cells slots (Y.same hg))
    · cases hs
  · -- idiv
    have hnx : nx = pc + 1 := by
      rcases hlen with h | h
      · simp [x_len] at h
      · simpa [x_len] using h
    subst hnx
    rw [Nat.add_sub_cancel_left] at hd
    unfold x_dv at hs
    split at hs
    · rename_i y x r
      split at hs
      · cases hs
      · rename_i hne
        cases hs
        exact lv_idiv hx hb hd hne (kk ad arr H locs cells slots (Y.same hg))
    · cases hs
  · -- land
    have hnx : nx = pc + 1 := by
      rcases hlen with h | h
      · simp [x_len] at h
      · simpa [x_len] using h
    subst hnx
    rw [Nat.add_sub_cancel_left] at hd
    unfold x_l2 at hs
    split at hs
    · rename_i y x r
      cases hs
      exact lv_land hx hb hd (kk ad arr H locs cells slots (Y.same hg))
    · cases hs
  · -- lor
    have hnx : nx = pc + 1 := by
      rcases hlen with h | h
      · simp [x_len] at h
      · simpa [x_len] using h
    subst hnx
    rw [Nat.add_sub_cancel_left] at hd
    unfold x_l2 at hs
    split at hs
    · rename_i y x r
      cases hs
      exact lv_lor hx hb hd (kk ad arr H locs cells slots (Y.same hg))
    · cases hs
  · -- lshl
    have hnx : nx = pc + 1 := by
      rcases hlen with h | h
      · simp [x_len] at h
      · simpa [x_len] using h
    subst hnx
    rw [Nat.add_sub_cancel_left] at hd
    unfold x_ls at hs
    split at hs
    · rename_i y x r
      cases hs
      exact lv_lshl hx hb hd rfl (kk ad arr H locs cells slots (Y.same hg))
    · cases hs
  · -- lshr
    have hnx : nx = pc + 1 := by
      rcases hlen with h | h
      · simp [x_len] at h
      · simpa [x_len] using h
    subst hnx
    rw [Nat.add_sub_cancel_left] at hd
    unfold x_ls at hs
    split at hs
    · rename_i y x r
      cases hs
      exact lv_lshr hx hb hd rfl (kk ad arr H locs cells slots (Y.same hg))
    · cases hs
  · -- lcmp
    have hnx : nx = pc + 1 := by
      rcases hlen with h | h
      · simp [x_len] at h
      · simpa [x_len] using h
    subst hnx
    rw [Nat.add_sub_cancel_left] at hd
    unfold x_lc at hs
    split at hs
    · rename_i y x r
      cases hs
      exact W.lcmp hx hb hd (kk ad arr H locs cells slots (Y.same hg))
    · cases hs
  · -- if_eq
    rename_i off t
    have hnx : nx = pc + 3 := by
      rcases hlen with h | h
      · simp [x_len] at h
      · simpa [x_len] using h
    subst hnx
    rw [Nat.add_sub_cancel_left] at hd
    simp only [x_okn, decide_eq_true_eq] at hn
    unfold x_b1 at hs
    split at hs
    · rename_i x r
      cases hs
      exact lv_if_eq hx hb hd hn (fun h => by have h9 := kk ad arr H locs cells slots (Y.same hg); simp only [decide_eq_true_eq] at h9; rw [if_pos h] at h9; exact h9) (fun h => by have h9 := kk ad arr H locs cells slots (Y.same hg); simp only [decide_eq_true_eq] at h9; rw [if_neg h] at h9; exact h9)
    · cases hs
  · -- if_ne
    rename_i off t
    have hnx : nx = pc + 3 := by
      rcases hlen with h | h
      · simp [x_len] at h
      · simpa [x_len] using h
    subst hnx
    rw [Nat.add_sub_cancel_left] at hd
    simp only [x_okn, decide_eq_true_eq] at hn
    unfold x_b1 at hs
    split at hs
    · rename_i x r
      cases hs
      exact lv_if_ne hx hb hd hn (fun h => by have h9 := kk ad arr H locs cells slots (Y.same hg); simp only [decide_eq_true_eq] at h9; rw [if_pos h] at h9; exact h9) (fun h => by have h9 := kk ad arr H locs cells slots (Y.same hg); simp only [decide_eq_true_eq] at h9; rw [if_neg (fun q => q h)] at h9; exact h9)
    · cases hs
  · -- if_lt
    rename_i off t
    have hnx : nx = pc + 3 := by
      rcases hlen with h | h
      · simp [x_len] at h
      · simpa [x_len] using h
    subst hnx
    rw [Nat.add_sub_cancel_left] at hd
    simp only [x_okn, decide_eq_true_eq] at hn
    unfold x_b1 at hs
    split at hs
    · rename_i x r
      cases hs
      exact lv_if_lt hx hb hd hn (fun h => by have h9 := kk ad arr H locs cells slots (Y.same hg); simp only [decide_eq_true_eq] at h9; rw [if_pos h] at h9; exact h9) (fun h => by have h9 := kk ad arr H locs cells slots (Y.same hg); simp only [decide_eq_true_eq] at h9; rw [if_neg h] at h9; exact h9)
    · cases hs
  · -- if_ge
    rename_i off t
    have hnx : nx = pc + 3 := by
      rcases hlen with h | h
      · simp [x_len] at h
      · simpa [x_len] using h
    subst hnx
    rw [Nat.add_sub_cancel_left] at hd
    simp only [x_okn, decide_eq_true_eq] at hn
    unfold x_b1 at hs
    split at hs
    · rename_i x r
      cases hs
      exact lv_if_ge hx hb hd hn (fun h => by have h9 := kk ad arr H locs cells slots (Y.same hg); simp only [decide_eq_true_eq] at h9; rw [if_pos h] at h9; exact h9) (fun h => by have h9 := kk ad arr H locs cells slots (Y.same hg); simp only [decide_eq_true_eq] at h9; rw [if_neg h] at h9; exact h9)
    · cases hs
  · -- if_gt
    rename_i off t
    have hnx : nx = pc + 3 := by
      rcases hlen with h | h
      · simp [x_len] at h
      · simpa [x_len] using h
    subst hnx
    rw [Nat.add_sub_cancel_left] at hd
    simp only [x_okn, decide_eq_true_eq] at hn
    unfold x_b1 at hs
    split at hs
    · rename_i x r
      cases hs
      exact lv_if_gt hx hb hd hn (fun h => by have h9 := kk ad arr H locs cells slots (Y.same hg); simp only [decide_eq_true_eq] at h9; rw [if_pos h] at h9; exact h9) (fun h => by have h9 := kk ad arr H locs cells slots (Y.same hg); simp only [decide_eq_true_eq] at h9; rw [if_neg h] at h9; exact h9)
    · cases hs
  · -- if_le
    rename_i off t
    have hnx : nx = pc + 3 := by
      rcases hlen with h | h
      · simp [x_len] at h
      · simpa [x_len] using h
    subst hnx
    rw [Nat.add_sub_cancel_left] at hd
    simp only [x_okn, decide_eq_true_eq] at hn
    unfold x_b1 at hs
    split at hs
    · rename_i x r
      cases hs
      exact lv_if_le hx hb hd hn (fun h => by have h9 := kk ad arr H locs cells slots (Y.same hg); simp only [decide_eq_true_eq] at h9; rw [if_pos h] at h9; exact h9) (fun h => by have h9 := kk ad arr H locs cells slots (Y.same hg); simp only [decide_eq_true_eq] at h9; rw [if_neg h] at h9; exact h9)
    · cases hs
  · -- icmp_eq
    rename_i off t
    have hnx : nx = pc + 3 := by
      rcases hlen with h | h
      · simp [x_len] at h
      · simpa [x_len] using h
    subst hnx
    rw [Nat.add_sub_cancel_left] at hd
    simp only [x_okn, decide_eq_true_eq] at hn
    unfold x_b2 at hs
    split at hs
    · rename_i y x r
      cases hs
      exact lv_icmp_eq hx hb hd hn (fun h => by have h9 := kk ad arr H locs cells slots (Y.same hg); simp only [decide_eq_true_eq] at h9; rw [if_pos h] at h9; exact h9) (fun h => by have h9 := kk ad arr H locs cells slots (Y.same hg); simp only [decide_eq_true_eq] at h9; rw [if_neg h] at h9; exact h9)
    · cases hs
  · -- icmp_ne
    rename_i off t
    have hnx : nx = pc + 3 := by
      rcases hlen with h | h
      · simp [x_len] at h
      · simpa [x_len] using h
    subst hnx
    rw [Nat.add_sub_cancel_left] at hd
    simp only [x_okn, decide_eq_true_eq] at hn
    unfold x_b2 at hs
    split at hs
    · rename_i y x r
      cases hs
      exact lv_icmp_ne hx hb hd hn (fun h => by have h9 := kk ad arr H locs cells slots (Y.same hg); simp only [decide_eq_true_eq] at h9; rw [if_pos h] at h9; exact h9) (fun h => by have h9 := kk ad arr H locs cells slots (Y.same hg); simp only [decide_eq_true_eq] at h9; rw [if_neg (fun q => q h)] at h9; exact h9)
    · cases hs
  · -- icmp_lt
    rename_i off t
    have hnx : nx = pc + 3 := by
      rcases hlen with h | h
      · simp [x_len] at h
      · simpa [x_len] using h
    subst hnx
    rw [Nat.add_sub_cancel_left] at hd
    simp only [x_okn, decide_eq_true_eq] at hn
    unfold x_b2 at hs
    split at hs
    · rename_i y x r
      cases hs
      exact lv_icmp_lt hx hb hd hn (fun h => by have h9 := kk ad arr H locs cells slots (Y.same hg); simp only [decide_eq_true_eq] at h9; rw [if_pos h] at h9; exact h9) (fun h => by have h9 := kk ad arr H locs cells slots (Y.same hg); simp only [decide_eq_true_eq] at h9; rw [if_neg h] at h9; exact h9)
    · cases hs
  · -- icmp_ge
    rename_i off t
    have hnx : nx = pc + 3 := by
      rcases hlen with h | h
      · simp [x_len] at h
      · simpa [x_len] using h
    subst hnx
    rw [Nat.add_sub_cancel_left] at hd
    simp only [x_okn, decide_eq_true_eq] at hn
    unfold x_b2 at hs
    split at hs
    · rename_i y x r
      cases hs
      exact lv_icmp_ge hx hb hd hn (fun h => by have h9 := kk ad arr H locs cells slots (Y.same hg); simp only [decide_eq_true_eq] at h9; rw [if_pos h] at h9; exact h9) (fun h => by have h9 := kk ad arr H locs cells slots (Y.same hg); simp only [decide_eq_true_eq] at h9; rw [if_neg h] at h9; exact h9)
    · cases hs
  · -- icmp_gt
    rename_i off t
    have hnx : nx = pc + 3 := by
      rcases hlen with h | h
      · simp [x_len] at h
      · simpa [x_len] using h
    subst hnx
    rw [Nat.add_sub_cancel_left] at hd
    simp only [x_okn, decide_eq_true_eq] at hn
    unfold x_b2 at hs
    split at hs
    · rename_i y x r
      cases hs
      exact lv_icmp_gt hx hb hd hn (fun h => by have h9 := kk ad arr H locs cells slots (Y.same hg); simp only [decide_eq_true_eq] at h9; rw [if_pos h] at h9; exact h9) (fun h => by have h9 := kk ad arr H locs cells slots (Y.same hg); simp only [decide_eq_true_eq] at h9; rw [if_neg h] at h9; exact h9)
    · cases hs
  · -- icmp_le
    rename_i off t
    have hnx : nx = pc + 3 := by
      rcases hlen with h | h
      · simp [x_len] at h
      · simpa [x_len] using h
    subst hnx
    rw [Nat.add_sub_cancel_left] at hd
    simp only [x_okn, decide_eq_true_eq] at hn
    unfold x_b2 at hs
    split at hs
    · rename_i y x r
      cases hs
      exact lv_icmp_le hx hb hd hn (fun h => by have h9 := kk ad arr H locs cells slots (Y.same hg); simp only [decide_eq_true_eq] at h9; rw [if_pos h] at h9; exact h9) (fun h => by have h9 := kk ad arr H locs cells slots (Y.same hg); simp only [decide_eq_true_eq] at h9; rw [if_neg h] at h9; exact h9)
    · cases hs
  · -- goto
    rename_i off t
    have hnx : nx = pc + 3 := by
      rcases hlen with h | h
      · simp [x_len] at h
      · simpa [x_len] using h
    subst hnx
    rw [Nat.add_sub_cancel_left] at hd
    simp only [x_okn, decide_eq_true_eq] at hn
    cases hs
    exact lv_goto hx hb hd hn (kk ad arr H locs cells slots (Y.same hg))
  · -- ifnull
    rename_i off t
    have hnx : nx = pc + 3 := by
      rcases hlen with h | h
      · simp [x_len] at h
      · simpa [x_len] using h
    subst hnx
    rw [Nat.add_sub_cancel_left] at hd
    simp only [x_okn, decide_eq_true_eq] at hn
    unfold x_nu at hs
    split at hs
    · cases hs
      exact lv_ifnull hx hb hd (kk ad arr H locs cells slots (Y.same hg))
    · cases hs
      exact lv_ifnullN hx hb hd hn (kk ad arr H locs cells slots (Y.same hg))
    · cases hs
  · -- ifnonnull
    rename_i off t
    have hnx : nx = pc + 3 := by
      rcases hlen with h | h
      · simp [x_len] at h
      · simpa [x_len] using h
    subst hnx
    rw [Nat.add_sub_cancel_left] at hd
    simp only [x_okn, decide_eq_true_eq] at hn
    unfold x_nn at hs
    split at hs
    · cases hs
      exact lv_ifnonnull hx hb hd hn (kk ad arr H locs cells slots (Y.same hg))
    · cases hs
      exact lv_ifnonnullN hx hb hd (kk ad arr H locs cells slots (Y.same hg))
    · cases hs
  · -- tableswitch
    rename_i df lo hi offs lo2 t ts
    simp only [x_okn, decide_eq_true_eq] at hn
    obtain ⟨rfl, h2, h3, h4⟩ := hn
    unfold x_ts at hs
    split at hs
    · rename_i x r
      cases hs
      have h9 := kk ad arr H locs cells slots (Y.same hg)
      by_cases q1 : x.toInt < (lo2 : Int)
      · rw [if_pos q1] at h9
        exact lv_tableOut hx hb hd (Or.inl q1) h2 h9
      · rw [if_neg q1] at h9
        by_cases q2 : hi < x.toInt
        · rw [List.getD_eq_getElem?_getD, List.getElem?_eq_none (by omega)] at h9
          simp only [Option.getD_none] at h9
          exact lv_tableOut hx hb hd (Or.inr q2) h2 h9
        · have hj : (x.toInt - (lo2 : Int)).toNat < ts.length := by omega
          have hlen2 : offs.toList.length = ts.length := by have := congrArg List.length h4; simpa using this
          obtain ⟨off, ho⟩ : ∃ off, offs.toList[(x.toInt - (lo2 : Int)).toNat]? = some off := ⟨_, List.getElem?_eq_getElem (by rw [hlen2]; exact hj)⟩
          have h5 : (ts.map (fun (x : Nat) => (x : Int)))[(x.toInt - (lo2 : Int)).toNat]? = some ((pc : Int) + off) := by rw [← h4, List.getElem?_map, ho]; rfl
          rw [List.getElem?_map, List.getElem?_eq_getElem hj] at h5
          have h6 : (pc : Int) + off = ((ts[(x.toInt - (lo2 : Int)).toNat] : Nat) : Int) := by simpa using h5.symm
          rw [List.getD_eq_getElem?_getD, List.getElem?_eq_getElem hj] at h9
          simp only [Option.getD_some] at h9
          exact lv_tableIn hx hb hd q1 q2 (by rw [← Array.getElem?_toList]; exact ho) h6 h9
    · cases hs
  · -- dup
    have hnx : nx = pc + 1 := by
      rcases hlen with h | h
      · simp [x_len] at h
      · simpa [x_len] using h
    subst hnx
    rw [Nat.add_sub_cancel_left] at hd
    unfold x_d1 at hs
    split at hs
    · rename_i v r
      split at hs
      · rename_i hc
        cases hs
        exact lv_dup hx hb hd (by rw [x_V_cat]; exact hc) (kk ad arr H locs cells slots (Y.same hg))
      · cases hs
    · cases hs
  · -- dup2
    have hnx : nx = pc + 1 := by
      rcases hlen with h | h
      · simp [x_len] at h
      · simpa [x_len] using h
    subst hnx
    rw [Nat.add_sub_cancel_left] at hd
    unfold x_d2 at hs
    split at hs
    · rename_i v w r
      split at hs
      · rename_i hc
        cases hs
        exact lv_dup2_11 hx hb hd (by rw [x_V_cat]; exact hc.1) (by rw [x_V_cat]; exact hc.2) (kk ad arr H locs cells slots (Y.same hg))
      · cases hs
    · cases hs
  · -- pop
    have hnx : nx = pc + 1 := by
      rcases hlen with h | h
      · simp [x_len] at h
      · simpa [x_len] using h
    subst hnx
    rw [Nat.add_sub_cancel_left] at hd
    unfold x_po at hs
    split at hs
    · rename_i v r
      split at hs
      · rename_i hc
        cases hs
        exact lv_pop hx hb hd (by rw [x_V_cat]; exact hc) (kk ad arr H locs cells slots (Y.same hg))
      · cases hs
    · cases hs
  · -- getfield
    rename_i ix ci n j ty
    have hnx : nx = pc + 3 := by
      rcases hlen with h | h
      · simp [x_len] at h
      · simpa [x_len] using h
    subst hnx
    rw [Nat.add_sub_cancel_left] at hd
    simp only [x_okn, decide_eq_true_eq] at hn
    obtain ⟨c1, c2, c3, c4⟩ := x_fT_num _ hn
    simp only at c1 c2 c3 c4
    subst c2
    subst c4
    unfold x_gf at hs
    split at hs
    · rename_i a r
      split at hs
      · rename_i hk
        cases hs
        refine va_get (D := D) (ci := ci) (C := xR ci) (T := xT ci) (N := xN ci) (v := x_V ad (x_fv (x_kt (xy ci j)) M a j)) hx hb hts (x_cl_ok ci c1).1 hown hU.1 hP a (x_W_at hk) (x_cl_at ci c1) j c3 (hts _ (x_fT_ok _ hn)) (fun _ h9 => h9) ?_ hd (kk ad arr H locs cells slots (Y.same hg))
        simp [x_F, c3]
      · cases hs
    · cases hs
  · -- putfield
    rename_i ix ci n j ty
    have hnx : nx = pc + 3 := by
      rcases hlen with h | h
      · simp [x_len] at h
      · simpa [x_len] using h
    subst hnx
    rw [Nat.add_sub_cancel_left] at hd
    simp only [x_okn, decide_eq_true_eq] at hn
    obtain ⟨hn, hfin⟩ := hn
    obtain ⟨c1, c2, c3, c4⟩ := x_fT_num _ hn
    simp only at c1 c2 c3 c4
    subst c2
    subst c4
    unfold x_pf at hs
    split at hs
    · rename_i v a r
      split at hs
      · rename_i hk
        cases hpv : x_pv (x_kt (xy ci j)) M a j v with
        | none => rw [hpv] at hs; cases hs
        | some M2 =>
          rw [hpv] at hs
          cases hs
          exact x_sim_put hx hb hts hown hU.1 hini hfin c1 c3 hn hd Y hg hk hpv (fun H' locs' y => kk ad arr H' locs' cells slots y)
      · cases hs
    · cases hs
  · -- iaload
    have hnx : nx = pc + 1 := by
      rcases hlen with h | h
      · simp [x_len] at h
      · simpa [x_len] using h
    subst hnx
    rw [Nat.add_sub_cancel_left] at hd
    unfold x_al at hs
    split at hs
    · rename_i i a r
      split at hs
      · rename_i t' n hk
        split at hs
        · rename_i hc
          obtain ⟨rfl, hc1, hc2⟩ := hc
          cases hs
          exact va_iald (D := D) hx hb hU.1 hP a 0 (x_W_at hk) rfl (fun h => h.elim hc1 (fun h => absurd hc2 (Nat.not_lt.mpr h))) hd (kk ad arr H locs cells slots (Y.same hg))
        · cases hs
      · cases hs
    · cases hs
  · -- baload
    have hnx : nx = pc + 1 := by
      rcases hlen with h | h
      · simp [x_len] at h
      · simpa [x_len] using h
    subst hnx
    rw [Nat.add_sub_cancel_left] at hd
    unfold x_al at hs
    split at hs
    · rename_i i a r
      split at hs
      · rename_i t' n hk
        split at hs
        · rename_i hc
          obtain ⟨rfl, hc1, hc2⟩ := hc
          cases hs
          exact va_zald (D := D) hx hb hU.1 hP a 1 (x_W_at hk) rfl (fun h => h.elim hc1 (fun h => absurd hc2 (Nat.not_lt.mpr h))) hd (kk ad arr H locs cells slots (Y.same hg))
        · cases hs
      · cases hs
    · cases hs
  · -- aaload
    have hnx : nx = pc + 1 := by
      rcases hlen with h | h
      · simp [x_len] at h
      · simpa [x_len] using h
    subst hnx
    rw [Nat.add_sub_cancel_left] at hd
    unfold x_aq at hs
    split at hs
    · rename_i i a r
      split at hs
      · rename_i t' n hk
        split at hs
        · rename_i hc
          obtain ⟨ht1, ht2, hc1, hc2⟩ := hc
          cases hs
          exact x_sim_aq hx hb hU.1 hP hk ht1 ht2 hc1 hc2 hd (kk ad arr H locs cells slots (Y.same hg))
        · cases hs
      · cases hs
    · cases hs
  · -- iastore
    have hnx : nx = pc + 1 := by
      rcases hlen with h | h
      · simp [x_len] at h
      · simpa [x_len] using h
    subst hnx
    rw [Nat.add_sub_cancel_left] at hd
    unfold x_as at hs
    split at hs
    · rename_i x i a r
      split at hs
      · rename_i t' n hk
        split at hs
        · rename_i hc
          obtain ⟨rfl, hc1, hc2, hc3⟩ := hc
          cases hs
          exact x_sim_as0 hx hb hU.1 Y hg hk hc1 hc2 hd (fun H' locs' y => kk ad arr H' locs' cells slots y)
        · cases hs
      · cases hs
    · cases hs
  · -- bastore
    have hnx : nx = pc + 1 := by
      rcases hlen with h | h
      · simp [x_len] at h
      · simpa [x_len] using h
    subst hnx
    rw [Nat.add_sub_cancel_left] at hd
    unfold x_as at hs
    split at hs
    · rename_i x i a r
      split at hs
      · rename_i t' n hk
        split at hs
        · rename_i hc
          obtain ⟨rfl, hc1, hc2, hc3⟩ := hc
          cases hs
          exact x_sim_as1 hx hb hU.1 Y hg hk hc1 hc2 (by simpa using hc3) hd (fun H' locs' y => kk ad arr H' locs' cells slots y)
        · cases hs
      · cases hs
    · cases hs
  · -- aastore
    have hnx : nx = pc + 1 := by
      rcases hlen with h | h
      · simp [x_len] at h
      · simpa [x_len] using h
    subst hnx
    rw [Nat.add_sub_cancel_left] at hd
    unfold x_sq at hs
    split at hs
    · rename_i v i a r
      split at hs
      · rename_i t' n ci n2 hk hk2
        split at hs
        · rename_i hc
          obtain ⟨ht1, ht2, hec, hc1, hc2⟩ := hc
          cases hs
          exact x_sim_sq hx hb hU.1 Y hg hk hk2 ht1 ht2 hec hc1 hc2 hd (fun H' locs' y => kk ad arr H' locs' cells slots y)
        · cases hs
      · cases hs
    · rename_i i a r
      split at hs
      · rename_i t' n hk
        split at hs
        · rename_i hc
          obtain ⟨ht1, ht2, hc1, hc2⟩ := hc
          cases hs
          exact x_sim_sn hx hb hU.1 Y hg hk ht1 ht2 hc1 hc2 hd (fun H' locs' y => kk ad arr H' locs' cells slots y)
        · cases hs
      · cases hs
    · cases hs
  · -- arraylength
    have hnx : nx = pc + 1 := by
      rcases hlen with h | h
      · simp [x_len] at h
      · simpa [x_len] using h
    subst hnx
    rw [Nat.add_sub_cancel_left] at hd
    unfold x_ln at hs
    split at hs
    · rename_i a r
      split at hs
      · rename_i n hk
        cases hs
        exact va_alen (D := D) hx hb hU.1 hP a 0 (x_W_at hk) (ty := .int) rfl rfl hd (kk ad arr H locs cells slots (Y.same hg))
      · cases hs
    · cases hs
  · -- new
    rename_i ix ci n
    have hnx : nx = pc + 3 := by
      rcases hlen with h | h
      · simp [x_len] at h
      · simpa [x_len] using h
    subst hnx
    rw [Nat.add_sub_cancel_left] at hd
    simp only [x_okn, decide_eq_true_eq] at hn
    obtain ⟨c1, c2⟩ := x_nT_num _ hn
    simp only at c1 c2
    subst c2
    unfold x_nw at hs
    cases hs
    exact x_sim_new hx hb hts hown hU.1 hA c1 hn hd Y hg hcap (fun ad' H' y => kk ad' arr H' locs (cells + 1) (slots + xN ci) y)
  · -- newarray
    rename_i at9 t
    have hnx : nx = pc + 2 := by
      rcases hlen with h | h
      · simp [x_len] at h
      · simpa [x_len] using h
    subst hnx
    rw [Nat.add_sub_cancel_left] at hd
    simp only [x_okn, decide_eq_true_eq] at hn
    unfold x_na at hs
    split at hs
    · rename_i n r
      split at hs
      · rename_i hc
        cases hs
        exact x_sim_na hx hb hts hU.1 hA hn hc.1 hc.2 hd Y hg hcap (fun ad' H' y => kk ad' arr H' locs (cells + 1) (slots + n.toNatClampNeg) y)
      · cases hs
    · cases hs
  · -- anewarray
    rename_i ix t
    have hnx : nx = pc + 3 := by
      rcases hlen with h | h
      · simp [x_len] at h
      · simpa [x_len] using h
    subst hnx
    rw [Nat.add_sub_cancel_left] at hd
    simp only [x_okn, decide_eq_true_eq] at hn
    unfold x_na at hs
    split at hs
    · rename_i n r
      split at hs
      · rename_i hc
        cases hs
        exact x_sim_nq hx hb hts hown hU hA hn hc.1 hc.2 hd Y hg hcap (fun ad' H' y => kk ad' arr H' locs (cells + 1) (slots + n.toNatClampNeg) y)
      · cases hs
    · cases hs
  · -- checkcast
    rename_i ix
    have hnx : nx = pc + 3 := by
      rcases hlen with h | h
      · simp [x_len] at h
      · simpa [x_len] using h
    subst hnx
    rw [Nat.add_sub_cancel_left] at hd
    simp only [x_okn, decide_eq_true_eq] at hn
    unfold x_cc at hs
    split at hs
    · rename_i a r
      split at hs
      · rename_i n hk
        cases hs
        exact va_castA (D := D) hx hb hown (hts _ (x_hT_ok _ hn)) hP a (x_W_at hk) (hU.1.2 0 _ rfl).2 hd (kk ad arr H locs cells slots (Y.same hg))
      · cases hs
    · cases hs
  · -- invokespecial
    rename_i ix kd
    have hnx : nx = pc + 3 := by
      rcases hlen with h | h
      · simp [x_len] at h
      · simpa [x_len] using h
    subst hnx
    rw [Nat.add_sub_cancel_left] at hd
    simp only [x_okn, decide_eq_true_eq] at hn
    obtain ⟨rfl, hn⟩ := hn
    unfold x_iv at hs
    split at hs
    · rename_i d9 k9 s9 d1 a r
      split at hs
      · rename_i hc
        cases hs
        exact x_sim_oi hx hb hml hown hts hlr hn (by omega) (by omega) hc hd (kk ad arr H locs cells slots (Y.same hg))
      · cases hs
    · exfalso
      first | omega | contradiction | simp_all
    · cases hs
  · -- invokevirtual
    rename_i ix kd
    have hnx : nx = pc + 3 := by
      rcases hlen with h | h
      · simp [x_len] at h
      · simpa [x_len] using h
    subst hnx
    rw [Nat.add_sub_cancel_left] at hd
    simp only [x_okn, decide_eq_true_eq] at hn
    obtain ⟨rfl, hn⟩ := hn
    unfold x_iv at hs
    split at hs
    · exfalso
      first | omega | contradiction | simp_all
    · rename_i d9 k9 s9 d1 a r
      split at hs
      · rename_i n hk
        split at hs
        · rename_i hc
          cases hs
          exact x_sim_cn hx hb hml hown hts hU hA hn (by omega) (by omega) hc hd Y hg hk hcap (fun ad' H' y => kk ad' arr H' locs (cells + 1) (slots + n) y)
        · cases hs
      · cases hs
    · cases hs
  · -- rest
    cases hs
end XSIM
