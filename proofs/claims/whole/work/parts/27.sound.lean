/-! SOUND: what the small machine does, the JVM does: a contract for each run of it -/
def x_wk (k : Nat) : List Cond := Cond.code (x_m k).1 (x_b k) (x_nL k) (x_m k).2.2.1 :: x_ws
def x_rm (d : Nat) (M M' : xM) : Room := { frames := d, cells := M'.1.length - M.1.length, slots := x_sz M' - x_sz M, locals := 37 * d }
def x_Pc (D : va_G) (tC : Nat → ClassId) (ad : Nat → Nat) (M : xM) (as : List Value) (sz : Nat) : Array Value → State → Prop := va_Pc (as.map (x_V ad)) (fun U => U.heap.size = sz ∧ va_P D xcl (x_W ad tC M) U.heap ∧ x_U D tC U ∧ va_D (fun _ => True) (x_W ad tC M))
def x_Qc (D : va_G) (tC : Nat → ClassId) (ad : Nat → Nat) (M M' : xM) (v : Option Value) (A : Nat → Prop) : Array Value → State → Outcome → State → Prop := fun _ st oc t =>
  ∃ ad' : Nat → Nat, (∀ i, i < M.1.length → ad' i = ad i) ∧ oc = .returned (v.map (x_V ad')) ∧ va_P D xcl (x_W ad' tC M') t.heap ∧ va_D A (x_W ad' tC M') ∧ va_F A st t
def x_MetP (l : Launch) (D : va_G) (tC : Nat → ClassId) (d k : Nat) (M : xM) (as : List Value) (M' : xM) (v : Option Value) : Prop :=
  ∀ (ad : Nat → Nat) (sz : Nat), Met l (x_m k).1 (x_wk k) (x_rm d M M') (x_Pc D tC ad M as sz) (x_Qc D tC ad M M' v (va_A (x_W ad tC M) sz)) (M'.1.length - M.1.length) (x_sz M' - x_sz M) (va_A (x_W ad tC M) sz)
theorem x_sz_le {M M' : xM} (h : M.1 <+: M'.1) : x_sz M ≤ x_sz M' := by
  obtain ⟨t, ht⟩ := h
  simp only [x_sz, ← ht, List.map_append, List.sum_append]
  omega
theorem x_V_ag {ad ad1 : Nat → Nat} {n : Nat} {v : Value} (h : ∀ i, i < n → ad1 i = ad i) (hv : x_wV n v) : x_V ad1 v = x_V ad v := by
  cases v with
  | ref i => simp only [x_V]; rw [h i (hv i rfl)]
  | _ => rfl
theorem x_gi {ws : List Cond} (hm : ∀ w ∈ ws, w ∈ x_ws) : GoodIn x_ws ws := fun w h => ⟨hm w h, good_of_word (List.mem_filter.mp (hm w h)).2⟩
theorem x_blind {D : va_G} {tC : Nat → ClassId} {ad : Nat → Nat} {M : xM} {as : List Value} {sz : Nat} : FrameBlind (x_Pc D tC ad M as sz) := by
  intro a U g mk q
  obtain ⟨q0, q1, q2, q3, q4⟩ := q
  exact ⟨q0, q1, q2, q3.call, q4⟩
section XSND
variable {p : Program} {l : Launch} {e : Env} {R : Room} {s : State} {m : MethodId} {args : Array Value} {below : List Frame} {meth : Method} {c : Code} {D : va_G} {tC : Nat → ClassId} {A : Nat → Prop} {d k : Nat}
variable {ad0 : Nat → Nat} {M0 : xM} {ad : Nat → Nat} {M : xM} {ls : xL} {st : List Value} {arr : Array Slot} {H : Heap} {locs : List Loc} {cells slots : Nat} {Q : State → Prop} {pc : Nat} {M1 : xM} {v1 : Option Value} {r : List Value}
/-- behind a call -/
theorem x_after {mc ms : Nat} {st0 rest : List Value} {a9 : Array Value} (hr : va_Run p l e R s m args below meth c H locs cells slots mc ms (F0 m pc arr st0) rest (x_Qc D tC ad M M1 v1 (va_A (x_W ad tC M) H.size) a9) (va_A (x_W ad tC M) H.size)) (hS : va_S A s.heap H locs) (hD : va_D A (x_W ad tC M)) (hA : ∀ q, s.heap.size ≤ q → A q)
    (kk : ∀ (ad1 : Nat → Nat) (H1 : Heap) (locs1 : List Loc), (∀ i, i < M.1.length → ad1 i = ad i) → va_P D xcl (x_W ad1 tC M1) H1 → va_D A (x_W ad1 tC M1) → va_S A s.heap H1 locs1 → W p l e R s m args below meth c H1 locs1 (cells + mc) (slots + ms) Q (F0 m (pc + 3) arr ((v1.map (x_V ad1)).toList ++ rest))) : W p l e R s m args below meth c H locs cells slots Q (F0 m pc arr st0) := by
  have hAA : ∀ q, va_A (x_W ad tC M) H.size q → A q := by
    intro q h
    rcases h with ⟨i, e9, h⟩ | h
    · exact hD.2 i _ h
    · exact hA q (Nat.le_trans hS.1 h)
  intro T hT X
  obtain ⟨v, st₀, t, T', L, h0, X', hL, e1, e2, ⟨ad1, hag, hv, hP1, hD1, hz, hk⟩, st2⟩ := hr T hT X
  cases hv
  rw [h0] at hz hk
  obtain ⟨t2, a1, b1⟩ := kk ad1 T'.heap (locs ++ L) hag (by rw [e1]; exact hP1) (hD1.weaken (fun i q _ h => hAA q.1 h))
    ⟨Nat.le_trans hS.1 (by rw [e1]; exact hz), fun q h1 h2 => by rw [e1, hk q (Nat.lt_of_lt_of_le h1 hS.1) (fun z => h2 (hAA q z))]; exact hS.2.1 q h1 h2, fun q hq => by
      rcases List.mem_append.mp hq with h | h
      · exact hS.2.2 q h
      · exact hAA _ (hL q h)⟩ T' rfl X'
  exact ⟨t2, st2 t2 a1, b1⟩
theorem x_Dy.ret {H1 : Heap} {locs1 : List Loc} {ad1 : Nat → Nat} {H0 : Heap} {nL mc ms : Nat} (Y : x_Dy D tC A H0 nL ad0 M0 ad M ls st arr H locs cells slots) (hg : x_gR M (M1, v1)) (hr : ∀ v ∈ r, v ∈ st) (hag : ∀ i, i < M.1.length → ad1 i = ad i) (hmc : mc = M1.1.length - M.1.length) (hms : ms = x_sz M1 - x_sz M) (hP : va_P D xcl (x_W ad1 tC M1) H1) (hD : va_D A (x_W ad1 tC M1)) (hS : va_S A H0 H1 locs1) :
    x_Dy D tC A H0 nL ad0 M0 ad1 M1 ls (v1.toList ++ r) arr H1 locs1 (cells + mc) (slots + ms) ∧ (v1.toList ++ r).map (x_V ad1) = (v1.map (x_V ad1)).toList ++ r.map (x_V ad) := by
  obtain ⟨hG, hlr, had, -, -, -, hce, hsl⟩ := Y
  obtain ⟨g1, g2, g3⟩ := hg
  have hle : M.1.length ≤ M1.1.length := g2.length_le
  have hsz : x_sz M ≤ x_sz M1 := x_sz_le g2
  refine ⟨⟨⟨g1, fun u hu => ?_, fun u hu => ⟨(hG.2.2 u hu).1.le hle, (hG.2.2 u hu).2⟩⟩, ⟨hlr.1, hlr.2.1, fun i v hv => ?_⟩, fun i hi => ?_, hP, hD, hS, by omega, by omega⟩, ?_⟩
  · rcases List.mem_append.mp hu with h1 | h1
    · exact g3 u (by cases v1 <;> simp_all)
    · exact (hG.2.1 u (hr u h1)).le hle
  · rw [x_V_ag hag (hG.2.2 v (List.mem_of_getElem? hv)).1]; exact hlr.2.2 i v hv
  · rw [hag i (by omega)]; exact had i hi
  · rw [List.map_append]
    congr 1
    · cases v1 <;> rfl
    · exact List.map_congr_left (fun v hv => x_V_ag hag (hG.2.1 v (hr v hv)))
set_option maxHeartbeats 4000000 in
theorem x_sim_cl (F : x_Fx p R s m args meth c D tC A d k) (Y : x_Dy D tC A s.heap (x_nL k) ad0 M0 ad M ls st arr H locs cells slots) {e' : xE} (he : x_P k pc = some e') {k' : Nat} {as : List Value} (hcl : x_cl e' st M = some (k', as, r)) {d' : Nat} (hdd : d = d' + 1) (hM : x_MetP l D tC d' k' M as M1 v1) (hg : x_gR M (M1, v1)) (hk' : k' < 146)
    (hcap : M1.1.length ≤ M0.1.length + R.cells ∧ x_sz M1 ≤ x_sz M0 + R.slots)
    (kk : ∀ (ad' : Nat → Nat) (H' : Heap) (locs' : List Loc) (cells' slots' : Nat), x_Dy D tC A s.heap (x_nL k) ad0 M0 ad' M1 ls (v1.toList ++ r) arr H' locs' cells' slots' → W p l e R s m args below meth c H' locs' cells' slots' Q (F0 m e'.2.1 arr ((v1.toList ++ r).map (x_V ad')))) :
    W p l e R s m args below meth c H locs cells slots Q (F0 m pc arr (st.map (x_V ad))) := by
  obtain ⟨hx, hb, hml, hown, hts, hU, hr, hlk, hini, hA, hfr, hlo⟩ := F
  have hok := (x_ck k pc e' he).1
  obtain ⟨ins, nx, cn, xs⟩ := e'
  simp only [x_okb, Bool.and_eq_true, decide_eq_true_eq] at hok
  obtain ⟨⟨hd, hlen⟩, hn⟩ := hok
  obtain ⟨na, has, hrr, hna, hcat⟩ := x_cl_eq hcl
  obtain ⟨m1, m2⟩ := x_cl_mem hcl
  have Y' := Y
  obtain ⟨hG, hlr, had, hP, hD, hS, hce, hsl⟩ := Y'
  obtain ⟨f1, f2, f3, f4⟩ := x_m_ok k' hk'
  obtain ⟨g1, g2, ⟨g3, g4, g5⟩, g6, g7, g8, -⟩ := x_g_ok k' hk'
  have hle : M.1.length ≤ M1.1.length := hg.2.1.length_le
  have hsz : x_sz M ≤ x_sz M1 := x_sz_le hg.2.1
  have hstk : st.map (x_V ad) = (as.map (x_V ad)).reverse ++ r.map (x_V ad) := by
    rw [← List.map_reverse, ← List.map_append, has, List.reverse_reverse, hrr, List.take_append_drop]
  have hcat2 : 2 * (F0 m pc arr (st.map (x_V ad))).monitorRoom + ((r.map (x_V ad)).map fun v => v.category).sum ≤ 8 := by
    rw [x_cat_map]; show 2 * 0 + _ ≤ 8; omega
  have hf : cells + (M1.1.length - M.1.length) ≤ R.cells ∧ slots + (x_sz M1 - x_sz M) ≤ R.slots := ⟨by omega, by omega⟩
  have hR : (x_rm d' M M1).frames + 1 ≤ R.frames ∧ 8 + (x_nL k' + 11) + (x_rm d' M M1).locals ≤ R.locals := by
    constructor
    · show d' + 1 ≤ R.frames; omega
    · show 8 + (x_nL k' + 11) + 37 * d' ≤ R.locals; omega
  have hPc : ∀ U : State, U.heap = H → s.WarmedH U.vm → x_Pc D tC ad M as H.size (as.map (x_V ad)).toArray U := fun U hU' hW => ⟨rfl, by rw [hU'], by rw [hU']; exact hP, hU.warm hW, ⟨hD.1, fun _ _ _ => trivial⟩⟩
  have hM9 := hM ad H.size
  have fin : nx = pc + 3 → ∀ {a9 : Array Value}, va_Run p l e R s m args below meth c H locs cells slots (M1.1.length - M.1.length) (x_sz M1 - x_sz M) (F0 m pc arr (st.map (x_V ad))) (r.map (x_V ad)) (x_Qc D tC ad M M1 v1 (va_A (x_W ad tC M) H.size) a9) (va_A (x_W ad tC M) H.size) → W p l e R s m args below meth c H locs cells slots Q (F0 m pc arr (st.map (x_V ad))) := by
    intro hnx a9 hrun
    subst hnx
    refine x_after hrun hS hD hA (fun ad1 H1 locs1 hag q1 q2 q3 => ?_)
    obtain ⟨y, ey⟩ := Y.ret hg m2 hag rfl rfl q1 q2 q3
    have h9 := kk ad1 H1 locs1 _ _ y
    rw [ey] at h9
    exact h9
  unfold x_cl at hcl
  simp only at hcl
  split at hcl
  · -- virtual
    rename_i ix k2 ci n
    simp only [x_okn, decide_eq_true_eq] at hn
    obtain ⟨-, hn1, hn2, hn3, hn4, hn5, hn6⟩ := hn
    have hnx : nx = pc + 3 := by
      rcases hlen with h | h
      · simp [x_len] at h
      · simpa [x_len] using h
    have hd3 : decode (x_b k) pc = .ok (.invokevirtual ix, 3) := by rw [hnx, Nat.add_sub_cancel_left] at hd; exact hd
    split at hcl
    · rename_i hl
      split at hcl
      · rename_i a as2 hrev
        split at hcl
        · rename_i ci2 n2 hk2
          split at hcl
          · rename_i hc2
            obtain ⟨hc1, hc3⟩ := hc2
            subst hc1
            simp only [Option.some.injEq, Prod.mk.injEq] at hcl
            obtain ⟨rfl, rfl, -⟩ := hcl
            have hlink := x_cT_ok _ hn1
            simp only [x_cok] at hlink
            rw [if_neg (by decide)] at hlink
            obtain ⟨i1, i2⟩ := f4 hn4
            have i3 := i2.resolve_left (g7 hn5)
            have hcw : CallW R s args (xR (x_m k).2.2.2) (xR ci2) ix (x_m k2).1 (x_b k2) (x_nL k2) (x_m k2).2.2.1 (x_wk k2) (x_rm d' M M1) (M1.1.length - M.1.length) (x_sz M1 - x_sz M) (x_nA.getD k2 0) := by
              subst hn2
              refine cwV (Ts := x_ws) (ws' := x_ws) _ hts (x_gi (fun w hw => ?_)) rfl rfl rfl ⟨g1, g3, g4, g5⟩ hR
              rcases List.mem_append.mp hw with h | h
              · simp only [List.mem_cons, List.not_mem_nil, or_false] at h
                rcases h with rfl | rfl | rfl | rfl
                · exact hlink
                · exact i1
                · exact i3
                · exact f2
              · rcases List.mem_cons.mp h with rfl | h
                · exact f1
                · exact h
            refine fin hnx (va_runV (Ts := x_ws) (own := xR (x_m k).2.2.2) (b := ad a) (As := as2.map (x_V ad)) ⟨hx, hb, hml, hown, hts⟩ hM9 hcw ⟨x_blind, va_recv hU.1 hP (x_cl_at ci2 hn6) (x_W_at hk2), hPc⟩ rfl ?_ hlr.2.1.1 ?_ hcat2 hd3 hf)
            · have := congrArg List.length hrev
              rw [List.length_reverse, List.length_take, List.length_cons] at this
              rw [List.length_map]
              omega
            · show st.map (x_V ad) = _
              rw [hstk]
              simp [x_V]
          · cases hcl
        · cases hcl
      · cases hcl
    · cases hcl
  · -- static
    rename_i ix kd k2 ci n
    simp only [x_okn, decide_eq_true_eq] at hn
    obtain ⟨hkd, hn1, hn2, hn3, hn4⟩ := hn
    have hnx : nx = pc + 3 := by
      rcases hlen with h | h
      · simp [x_len] at h
      · simpa [x_len] using h
    have hd3 : decode (x_b k) pc = .ok (.invokestatic ix, 3) := by rw [hnx, Nat.add_sub_cancel_left] at hd; exact hd
    split at hcl
    · rename_i hl
      simp only [Option.some.injEq, Prod.mk.injEq] at hcl
      obtain ⟨rfl, rfl, -⟩ := hcl
      have hlink := x_cT_ok _ hn1
      simp only [x_cok] at hlink
      have i1 := f3 hn4
      have hlen9 : ((st.take n).reverse.map (x_V ad)).length = x_nA.getD k2 0 := by rw [List.length_map, List.length_reverse, List.length_take]; omega
      rcases hkd with rfl | rfl
      · rw [if_neg (by decide)] at hlink
        have hcw : CallB R s args (xR (x_m k).2.2.2) ix (x_m k2).1 (x_b k2) (x_nL k2) (x_m k2).2.2.1 (x_wk k2) (x_rm d' M M1) (M1.1.length - M.1.length) (x_sz M1 - x_sz M) (x_nA.getD k2 0) ∧ (Cond.static (x_m k2).1).before args s = true := by
          refine va_cwS (Ts := x_ws) (ws' := x_ws) _ hts (x_gi (fun w hw => ?_)) rfl rfl rfl ⟨g3, g4, g5⟩ hR
          rcases List.mem_append.mp hw with h | h
          · simp only [List.mem_cons, List.not_mem_nil, or_false] at h
            rcases h with rfl | rfl | rfl
            · exact hlink
            · exact i1
            · rw [g1]; exact f2
          · rcases List.mem_cons.mp h with rfl | h
            · exact f1
            · exact h
        exact fin hnx (va_runS (Ts := x_ws) (own := xR (x_m k).2.2.2) (As := ((st.take n).reverse).map (x_V ad)) ⟨hx, hb, hml, hown, hts⟩ hM9 hcw ⟨x_blind, hPc⟩ rfl hlen9 hlr.2.1.1 hstk hcat2 hd3 hf)
      · rw [if_pos (by decide)] at hlink
        have hcw : va_CN R s args (xR (x_m k).2.2.2) ix (x_m k2).1 "MajorityMap" (x_b k2) (x_nL k2) (x_m k2).2.2.1 (x_wk k2) (x_rm d' M M1) (M1.1.length - M.1.length) (x_sz M1 - x_sz M) (x_nA.getD k2 0) := by
          refine va_cnB (Ts := x_ws) (ws' := x_ws) _ hts (x_gi (fun w hw => ?_)) rfl rfl rfl (hU.2 _ hlink) (by rw [g1]; exact hts _ f2) ⟨g3, g4, g5⟩ hR
          rcases List.mem_cons.mp hw with rfl | h
          · exact f1
          · exact h
        exact fin hnx (va_runSN (Ts := x_ws) (own := xR (x_m k).2.2.2) (As := ((st.take n).reverse).map (x_V ad)) ⟨hx, hb, hml, hown, hts⟩ hM9 ⟨hcw, hts _ i1, trivial⟩ ⟨x_blind, hPc⟩ rfl hlen9 hlr.2.1.1 hstk hcat2 hd3 hf)
    · cases hcl
  · -- a constructor
    rename_i ix kd k2 ci n
    simp only [x_okn, decide_eq_true_eq] at hn
    obtain ⟨hkd, hn1, hn2, hn3, hn4, hn5⟩ := hn
    have hnx : nx = pc + 3 := by
      rcases hlen with h | h
      · simp [x_len] at h
      · simpa [x_len] using h
    have hd3 : decode (x_b k) pc = .ok (.invokespecial ix, 3) := by rw [hnx, Nat.add_sub_cancel_left] at hd; exact hd
    split at hcl
    · rename_i hl
      split at hcl
      · rename_i a as2 hrev
        split at hcl
        · simp only [Option.some.injEq, Prod.mk.injEq] at hcl
          obtain ⟨rfl, rfl, -⟩ := hcl
          have hlink := x_cT_ok _ hn1
          simp only [x_cok] at hlink
          obtain ⟨i1, -⟩ := f4 hn4
          obtain ⟨j1, j2⟩ := g6 hn5
          have hwk : x_wk k2 = Cond.code (x_m k2).1 (x_b k2) (x_nL k2) none :: x_ws := by unfold x_wk; rw [j2]
          have hG9 : GoodIn x_ws (x_wk k2) := x_gi (fun w hw => by
            rcases List.mem_cons.mp hw with rfl | h
            · exact f1
            · exact h)
          have hlen9 : (as2.map (x_V ad)).length = x_nA.getD k2 0 := by
            have := congrArg List.length hrev
            rw [List.length_reverse, List.length_take, List.length_cons] at this
            rw [List.length_map]
            omega
          have hstk9 : (F0 m pc arr (st.map (x_V ad))).stack = (as2.map (x_V ad)).reverse ++ .ref (ad a) :: r.map (x_V ad) := by
            show st.map (x_V ad) = _
            rw [hstk]
            simp [x_V]
          rcases hkd with rfl | rfl
          · rw [if_neg (by decide)] at hlink
            have hcw := cwI (R := R) (s := s) (args := args) (own := xR (x_m k).2.2.2) (index := ix) (mc := M1.1.length - M.1.length) (ms := x_sz M1 - x_sz M) (rm := x_rm d' M M1) (x_nA.getD k2 0) hts hG9 hwk rfl rfl (by rw [g1]; exact hts _ f2) (hts _ hlink) (hts _ i1) j1 ⟨g3, g4, g5⟩ hR
            exact fin hnx (va_runI (Ts := x_ws) (own := xR (x_m k).2.2.2) (b := ad a) (As := as2.map (x_V ad)) ⟨hx, hb, hml, hown, hts⟩ hM9 hcw ⟨x_blind, hPc⟩ rfl hlen9 hlr.2.1.1 hstk9 hcat2 hd3 hf)
          · rw [if_pos (by decide)] at hlink
            have hcw : va_CN R s args (xR (x_m k).2.2.2) ix (x_m k2).1 "MajorityMap" (x_b k2) (x_nL k2) none (x_wk k2) (x_rm d' M M1) (M1.1.length - M.1.length) (x_sz M1 - x_sz M) (x_nA.getD k2 0) :=
              va_cnB (Ts := x_ws) (ws' := x_ws) _ hts hG9 hwk rfl rfl (hU.2 _ hlink) (by rw [g1]; exact hts _ f2) ⟨g3, g4, g5⟩ hR
            exact fin hnx (va_runIN (Ts := x_ws) (own := xR (x_m k).2.2.2) (b := ad a) (As := as2.map (x_V ad)) ⟨hx, hb, hml, hown, hts⟩ hM9 ⟨hcw, j1, hts _ i1⟩ ⟨x_blind, hPc⟩ rfl hlen9 hlr.2.1.1 hstk9 hcat2 hd3 hf)
        · cases hcl
      · cases hcl
    · cases hcl
  · cases hcl
/-- the end of a frame -/
theorem x_sim_rt (F : x_Fx p R s m args meth c D tC A d k) (Y : x_Dy D tC A s.heap (x_nL k) ad0 M0 ad M ls st arr H locs cells slots) {e' : xE} (he : x_P k pc = some e') {v : Option Value} (hrt : x_rt (x_rk k) e' st = some v) :
    W p l e R s m args below meth c H locs cells slots (MQ below (x_Qc D tC ad0 M0 M v A) args s (M.1.length - M0.1.length) (x_sz M - x_sz M0) A) (F0 m pc arr (st.map (x_V ad))) := by
  obtain ⟨hx, hb, hml, hown, hts, hU, hr, hlk, hini, hA, hfr, hlo⟩ := F
  obtain ⟨hok, hk⟩ := x_ck k pc e' he
  obtain ⟨ins, nx, cn, xs⟩ := e'
  simp only [x_okb, Bool.and_eq_true, decide_eq_true_eq] at hok
  obtain ⟨⟨hd, hlen⟩, -⟩ := hok
  obtain ⟨hG, hlr, had, hP, hD, hS, hce, hsl⟩ := Y
  have e1 : M.1.length - M0.1.length = cells := by omega
  have e2 : x_sz M - x_sz M0 = slots := by omega
  rw [e1, e2]
  obtain ⟨-, -, -, -, -, -, r0, r1, r2, r3⟩ := x_g_ok k hk
  have hq : ∀ t : State, t.heap = H → s.WarmedH t.vm → x_Qc D tC ad0 M0 M v A args s (.returned (v.map (x_V ad))) t := fun t ht _ => ⟨ad, had, rfl, by rw [ht]; exact hP, hD, hS.F ht⟩
  have hd1 : ∀ {i : Instr}, ins = i → x_len i = 1 → decode (x_b k) pc = .ok (i, 1) := by
    intro i hi h1
    subst hi
    rcases hlen with h | h
    · omega
    · rw [h, h1, Nat.add_sub_cancel_left] at hd; exact hd
  unfold x_rt at hrt
  simp only at hrt
  generalize hrk : x_rk k = rk at hrt
  split at hrt
  · cases hrt
    exact W.vret hx hb (by rw [hr]; exact r0 hrk) hq hS.2.2 (hd1 rfl rfl) hlk
  · cases hrt
    exact W.iret hx hb (by rw [hr]; exact r1 hrk) hq hS.2.2 (hd1 rfl rfl) hlk
  · split at hrt
    · rename_i hv
      cases hrt
      exact W.zret hx hb (by rw [hr]; exact r2 hrk) (by rcases hv with rfl | rfl <;> rfl) hq hS.2.2 (hd1 rfl rfl) hlk
    · cases hrt
  · cases hrt
    obtain ⟨sn, hsn⟩ := r3 hrk
    exact W.aret hx hb (by rw [hr]; exact hsn) (Or.inl ⟨sn, rfl⟩) (Or.inr ⟨_, rfl⟩) hq hS.2.2 (hd1 rfl rfl) hlk
  · cases hrt
    obtain ⟨sn, hsn⟩ := r3 hrk
    exact W.aret hx hb (by rw [hr]; exact hsn) (Or.inl ⟨sn, rfl⟩) (Or.inl rfl) hq hS.2.2 (hd1 rfl rfl) hlk
  · cases hrt
/-- the whole frame -/
theorem x_sim_run {n0 : Nat} {M' : xM} {v : Option Value} (hc : ∀ k M as M1 v1, x_wM M → (∀ a ∈ as, x_wV M.1.length a) → x_go d n0 k M as = some (M1, v1) → k < 146 ∧ ∃ d', d = d' + 1 ∧ x_MetP l D tC d' k M as M1 v1)
    (F : x_Fx p R s m args meth c D tC A d k) (hM0 : M0.1 <+: M'.1) (hRc : R.cells = M'.1.length - M0.1.length) (hRs : R.slots = x_sz M' - x_sz M0) :
    ∀ (n : Nat) (pc : Nat) (ls : xL) (st : List Value) (M : xM) (ad : Nat → Nat) (arr : Array Slot) (H : Heap) (locs : List Loc) (cells slots : Nat), x_run x_ec d (x_P k) (x_rk k) (x_go d n0) n (pc, ls, st, M) = some (M', v) → x_Dy D tC A s.heap (x_nL k) ad0 M0 ad M ls st arr H locs cells slots →
      W p l e R s m args below meth c H locs cells slots (MQ below (x_Qc D tC ad0 M0 M' v A) args s (M'.1.length - M0.1.length) (x_sz M' - x_sz M0) A) (F0 m pc arr (st.map (x_V ad))) := by
  have hl0 : M0.1.length ≤ M'.1.length := hM0.length_le
  have hs0 : x_sz M0 ≤ x_sz M' := x_sz_le hM0
  have cap : ∀ M1 : xM, M1.1 <+: M'.1 → M1.1.length ≤ M0.1.length + R.cells ∧ x_sz M1 ≤ x_sz M0 + R.slots := by
    intro M1 h1
    have := h1.length_le
    have h2 : x_sz M1 ≤ x_sz M' := x_sz_le h1
    exact ⟨by omega, by omega⟩
  intro n
  induction n with
  | zero => intro pc ls st M ad arr H locs cells slots h; simp [x_run] at h
  | succ n ih =>
    intro pc ls st M ad arr H locs cells slots h Y
    simp only [x_run] at h
    cases hp : x_P k pc with
    | none => rw [hp] at h; simp at h
    | some e' =>
      rw [hp] at h
      simp only at h
      cases hs : x_st x_ec d e' ls st M with
      | some cf =>
        rw [hs] at h
        simp only at h
        obtain ⟨pc', ls', st', M1⟩ := cf
        have hkp := x_kp_st (pc := 0) Y.1 hs
        have hgood := x_run_good (x_go_good d n0) n _ _ hkp.1 h
        exact x_sim_st F Y hp hs (cap M1 hgood.2.1) (fun ad' arr' H' locs' cells' slots' y => ih pc' ls' st' M1 ad' arr' H' locs' cells' slots' h y)
      | none =>
        rw [hs] at h
        simp only at h
        cases hk : x_cl e' st M with
        | some q =>
          obtain ⟨k', as, r⟩ := q
          rw [hk] at h
          simp only at h
          cases hq : x_go d n0 k' M as with
          | none => rw [hq] at h; simp at h
          | some q =>
            obtain ⟨M1, v1⟩ := q
            rw [hq] at h
            simp only at h
            obtain ⟨m1, m2⟩ := x_cl_mem hk
            have hgR : x_gR M (M1, v1) := x_go_good d n0 k' M as (M1, v1) Y.1.1 (fun u hu => Y.1.2.1 u (m1 u hu)) hq
            obtain ⟨hk', d', hdd, hMet⟩ := hc k' M as M1 v1 Y.1.1 (fun u hu => Y.1.2.1 u (m1 u hu)) hq
            have hle : M.1.length ≤ M1.1.length := hgR.2.1.length_le
            have hgood := x_run_good (x_go_good d n0) n (e'.2.1, ls, v1.toList ++ r, M1) _ ⟨hgR.1, fun u hu => by
              rcases List.mem_append.mp hu with h1 | h1
              · exact hgR.2.2 u (by cases v1 <;> simp_all)
              · exact (Y.1.2.1 u (m2 u h1)).le hle, fun u hu => ⟨(Y.1.2.2 u hu).1.le hle, (Y.1.2.2 u hu).2⟩⟩ h
            exact x_sim_cl F Y hp hk hdd hMet hgR hk' (cap M1 hgood.2.1) (fun ad' H' locs' cells' slots' y => ih e'.2.1 ls (v1.toList ++ r) M1 ad' arr H' locs' cells' slots' h y)
        | none =>
          rw [hk] at h
          simp only at h
          cases hr : x_rt (x_rk k) e' st with
          | none => rw [hr] at h; simp at h
          | some u =>
            rw [hr] at h
            cases h
            exact x_sim_rt F Y hp hr
end XSND
set_option maxHeartbeats 4000000 in
theorem x_sound1 {l : Launch} {D : va_G} {tC : Nat → ClassId} {d : Nat} (hB : ∀ M x, x_wM M → x_MetP l D tC d x_kB M [.long x] M (some (.int (x_bc x))))
    (hc : ∀ n k M as M1 v1, x_wM M → (∀ a ∈ as, x_wV M.1.length a) → x_go d n k M as = some (M1, v1) → k < 146 ∧ ∃ d', d = d' + 1 ∧ x_MetP l D tC d' k M as M1 v1) :
    ∀ n k M as M1 v1, x_wM M → (∀ a ∈ as, x_wV M.1.length a) → x_go (d + 1) n k M as = some (M1, v1) → k < 146 ∧ x_MetP l D tC d k M as M1 v1 := by
  intro n k M as M1 v1 hM has hgo
  have hgood := x_go_good (d + 1) n k M as (M1, v1) hM has hgo
  simp only [x_go] at hgo
  split at hgo
  · rename_i hk
    subst hk
    split at hgo
    · cases hgo
      exact ⟨by decide, hB _ _ hM⟩
    · cases hgo
  · cases hen : x_en (x_nL k) as with
    | none => rw [hen] at hgo; simp at hgo
    | some ls =>
      rw [hen] at hgo
      simp only at hgo
      have hk : k < 146 := by
        cases n with
        | zero => simp [x_run] at hgo
        | succ n =>
          simp only [x_run] at hgo
          cases hp : x_P k 0 with
          | none => rw [hp] at hgo; simp at hgo
          | some e' => exact (x_ck k 0 e' hp).2
      refine ⟨hk, fun ad sz => ?_⟩
      obtain ⟨g1, g2, -, g6, -⟩ := x_g_ok k hk
      refine va_MetF (cc := x_b k) (maxL := x_nL k) (ret := (x_m k).2.2.1) g2 rfl ?_
      intro p e s m args below meth c s₁ B hml hv
      obtain ⟨rfl, hsz, hP, hU, hD0⟩ := hv
      subst hsz
      have hts0 := atoms_spec (ws := x_wk k) B.pre
      have hts : ∀ w ∈ x_ws, w.before (as.map (x_V ad)).toArray s = true := fun w hw => hts0 w (List.mem_cons_of_mem _ hw)
      have hown : s.vm.findClass (xR (x_m k).2.2.2) = some m.cls := by rw [← g1]; exact findClass_of_methodNamed B.named
      have hin : x_iL.getD k 0 = 1 → meth.name = "<init>" := fun h => by
        have h1 : meth.name = (x_m k).1.name := (name_of_methodNamed B.named B.method).1
        rw [h1]; exact (g6 h).1
      obtain ⟨arr, he, hlr⟩ := x_en_lr (ad := ad) hen m
      rw [he]
      have hAA : ∀ q, s.heap.size ≤ q → va_A (x_W ad tC M) s.heap.size q := fun q h => Or.inr h
      exact x_sim_run (R := x_rm d M M1) (ad0 := ad) (M0 := M) (hc n) ⟨B.exec, B.bytes, hml, hown, hts, hU, B.returns, B.notSynchronized, hin, hAA, Nat.le_refl _, Nat.le_refl _⟩ hgood.2.1 rfl rfl n 0 ls [] M ad arr s.heap [] 0 0 hgo
        ⟨(x_en_G (pc := 0) hen hM has).1, hlr, fun _ _ => rfl, hP, hD0.self, va_S.rf, by omega, by omega⟩
/-- what the small machine does, the JVM does -/
theorem x_sound {l : Launch} {D : va_G} {tC : Nat → ClassId} (hB : ∀ d M x, x_wM M → x_MetP l D tC d x_kB M [.long x] M (some (.int (x_bc x)))) :
    ∀ d n k M as M1 v1, x_wM M → (∀ a ∈ as, x_wV M.1.length a) → x_go (d + 1) n k M as = some (M1, v1) → k < 146 ∧ x_MetP l D tC d k M as M1 v1 := by
  intro d
  induction d with
  | zero => exact x_sound1 (hB 0) (fun n k M as M1 v1 _ _ h => by simp [x_go] at h)
  | succ d ih => exact x_sound1 (hB (d + 1)) (fun n k M as M1 v1 h1 h2 h3 => ⟨(ih n k M as M1 v1 h1 h2 h3).1, d, rfl, (ih n k M as M1 v1 h1 h2 h3).2⟩)
