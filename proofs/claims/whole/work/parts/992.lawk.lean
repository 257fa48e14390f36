/-! the law's own rows: its classes are known, a new object, a constructor, a call of a method, each over the small machine's memory -/
theorem x_nl_of {A : Array Value} {U : State} : ∀ w ∈ x_nl, w.before A U = true → va_Nw w U := List.forall_mem_cons.mpr ⟨fun h => va_Nw.of rfl h, List.forall_mem_cons.mpr ⟨fun h => va_Nw.of rfl h, List.forall_mem_cons.mpr ⟨fun h => va_Nw.of rfl h, List.forall_mem_cons.mpr ⟨fun h => va_Nw.of rfl h, List.forall_mem_cons.mpr ⟨fun h => va_Nw.of rfl h, List.forall_mem_cons.mpr ⟨fun h => va_Nw.of rfl h, List.forall_mem_cons.mpr ⟨fun h => va_Nw.of rfl h, List.forall_mem_cons.mpr ⟨fun h => va_Nw.of rfl h, List.forall_mem_cons.mpr ⟨fun h => va_Nw.of rfl h, List.forall_mem_cons.mpr ⟨fun h => va_Nw.of rfl h, List.forall_mem_cons.mpr ⟨fun h => va_AO.of h, List.forall_mem_cons.mpr ⟨fun h => va_AO.of h, List.forall_mem_cons.mpr ⟨fun h => va_AO.of h, List.forall_mem_cons.mpr ⟨fun h => va_Nw.of rfl h, fun _ h => absurd h List.not_mem_nil⟩⟩⟩⟩⟩⟩⟩⟩⟩⟩⟩⟩⟩⟩
theorem x_start {args : Array Value} {s : State} (hts : ∀ w ∈ lw_tbl, w.before args s = true) : ∃ (D : va_G) (tC : Nat → ClassId), x_U D tC s := by
  have hws : ∀ w ∈ x_ws, w.before args s = true := fun w hw => hts w (List.mem_filter.mp hw).1
  have hc : ∀ c, ∃ q : ClassId × (Nat → Nat), c < 11 → u_Kn s (xR c) (xT c) (xN c) q.1 q.2 := by
    intro c
    by_cases h : c < 11
    · obtain ⟨w1, w2, -⟩ := x_cl_ok c h
      obtain ⟨cC, iS, hk⟩ := u_known hws w1 (hws _ w2)
      exact ⟨(cC, iS), fun _ => hk⟩
    · exact ⟨(0, fun _ => 0), fun h' => absurd h' h⟩
  have hq : ∀ t, 2 ≤ t → t < 5 → Cond.arrayOver (.object (xR (x_ec t))) ∈ x_nl := by
    intro t h1 h2
    have : t = 2 ∨ t = 3 ∨ t = 4 := by omega
    rcases this with rfl | rfl | rfl
    · exact List.mem_of_getElem? (i := 10) rfl
    · exact List.mem_of_getElem? (i := 11) rfl
    · exact List.mem_of_getElem? (i := 12) rfl
  have ha : ∀ t, ∃ cA : ClassId, t < 5 → ArrOfT s cA (x_ty t) ∧ va_RA s cA (x_ty t) := by
    intro t
    by_cases h : t < 5
    · by_cases h0 : t = 0
      · subst h0
        obtain ⟨cA, kA, comp, h1, h2, h3⟩ := Cond.arrayClass_spec (hws _ x_a0)
        exact ⟨cA, fun _ => ⟨fun n z => ⟨fun k h => (by cases h), kA, h2, comp, h3⟩, h1⟩⟩
      · by_cases h9 : t = 1
        · subst h9
          obtain ⟨cA, kA, comp, h1, h2, h3⟩ := Cond.arrayClass_spec (hws _ x_a1)
          exact ⟨cA, fun _ => ⟨fun n z => ⟨fun k h => (by cases h), kA, h2, comp, h3⟩, h1⟩⟩
        · have e2 : 2 ≤ t := by omega
          obtain ⟨comp, cA, kA, f1, -, f3, f4, f5⟩ := Cond.arrayOver_spec (hts _ (x_nl_in _ (hq t e2 h)))
          refine ⟨cA, fun _ => ?_⟩
          rw [x_ty_obj e2 h]
          exact ⟨fun n z => ⟨fun k h => (by cases h), kA, f3, comp, f4⟩, kA, comp, f3, f4, f1, f5⟩
    · exact ⟨0, fun h' => absurd h' h⟩
  refine ⟨(fun c => (Classical.choose (hc c)).1, fun c => (Classical.choose (hc c)).2), fun t => Classical.choose (ha t), ⟨fun c q hq => ?_, fun k q hq => ?_⟩, fun w hw => x_nl_of w hw (hts w (x_nl_in w hw))⟩
  · have hlt : c < 11 := (List.getElem?_eq_some_iff.mp hq).1
    rw [x_cl_at c hlt] at hq
    cases hq
    exact Classical.choose_spec (hc c) hlt
  · have hlt : k < 5 := (List.getElem?_eq_some_iff.mp hq).1
    rw [x_tys_at _ hlt] at hq
    cases hq
    exact Classical.choose_spec (ha k) hlt
def lw_A (s : State) : Nat → Prop := fun q => s.heap.size ≤ q
def lw_Fx (p : Program) (s : State) (m : MethodId) (c : Code) (D : va_G) (tC : Nat → ClassId) (b : Nat) : Prop :=
  p.tables.exec = Jvm.exec ∧ c.code = code ∧ c.maxLocals = 4 ∧ s.vm.findClass R_law = some m.cls ∧ (∀ w ∈ x_ws, w.before #[Value.ref b] s = true) ∧ x_U D tC s
def lw_Y (D : va_G) (tC : Nat → ClassId) (s : State) (ad : Nat → Nat) (M : xM) (H : Heap) (locs : List Loc) : Prop :=
  x_wM M ∧ va_P D xcl (x_W ad tC M) H ∧ va_D (lw_A s) (x_W ad tC M) ∧ va_S (lw_A s) s.heap H locs
theorem lw_rm {k d : Nat} {M M1 : xM} (hk : k < 146) (hd : d ≤ 9) : (x_rm d M M1).frames + 1 ≤ room_1.frames ∧ 8 + (x_nL k + 11) + (x_rm d M M1).locals ≤ room_1.locals := by
  obtain ⟨-, -, -, -, -, g8, -⟩ := x_g_ok k hk
  constructor
  · exact Nat.le_trans (show d + 1 ≤ 10 by omega) (by decide)
  · exact Nat.le_trans (show 8 + (x_nL k + 11) + 37 * d ≤ 370 by omega) (by decide)
section LWK
variable {p : Program} {l : Launch} {e : Env} {s : State} {m : MethodId} {b : Nat} {below : List Frame} {meth : Method} {c : Code} {D : va_G} {tC : Nat → ClassId} {Q : State → Prop}
variable {ad : Nat → Nat} {M : xM} {H : Heap} {locs : List Loc} {k pc ix a : Nat} {as rest st : List Value} {arr : Array Slot}
set_option maxHeartbeats 2000000 in
theorem lw_call (F : lw_Fx p s m c D tC b) (Y : lw_Y D tC s ad M H locs) {ci n : Nat} {Qe : xM → Option Value → Prop} (hd : decode code pc = .ok (.invokevirtual ix, 3)) (hlink : Cond.methodLink R_law ix (x_m k).1 ∈ x_ws) (hk : k < 146) (hsl : x_sL.getD k 0 = 0) (hil : x_iL.getD k 0 = 0) (hci : (x_m k).2.2.2 = ci) (hc11 : ci < 11) (hna : as.length = x_nA.getD k 0) (hkd : M.1[a]? = some (false, ci, n)) (hE : Ev 10 k M (.ref a :: as) Qe) (has : ∀ v ∈ as, x_wV M.1.length v)
    (hrm : ∀ M1 v, Qe M1 v → M1.1.length ≤ 600000 ∧ x_sz M1 ≤ 7302250) (hls : arr.size = 4) (hcat : (rest.map fun v => v.category).sum ≤ 8) (hst : st = (as.map (x_V ad)).reverse ++ .ref (ad a) :: rest)
    (kk : ∀ (M1 : xM) (v : Option Value) (ad1 : Nat → Nat) (H1 : Heap) (locs1 : List Loc), Qe M1 v → (∀ i, i < M.1.length → ad1 i = ad i) → lw_Y D tC s ad1 M1 H1 locs1 → W p l e room_1 s m #[Value.ref b] below meth c H1 locs1 M1.1.length (x_sz M1) Q (F0 m (pc + 3) arr ((v.map (x_V ad1)).toList ++ rest))) :
    W p l e room_1 s m #[Value.ref b] below meth c H locs M.1.length (x_sz M) Q (F0 m pc arr st) := by
  obtain ⟨hx, hb, hml, hown, hts, hU⟩ := F
  obtain ⟨hwM, hP, hD, hS⟩ := Y
  obtain ⟨nn, M1, v1, hgo, hq⟩ := hE
  have has' : ∀ v ∈ (Value.ref a :: as), x_wV M.1.length v := by
    intro v hv
    rcases List.mem_cons.mp hv with rfl | hv
    · exact x_wV_ref (List.getElem?_eq_some_iff.mp hkd).1
    · exact has v hv
  have hg := x_go_good 10 nn k M _ (M1, v1) hwM has' hgo
  have hM := (x_snd (l := l) (D := D) (tC := tC) 9 nn k M _ M1 v1 hwM has' hgo).2
  obtain ⟨f1, f2, f3, f4⟩ := x_m_ok k hk
  obtain ⟨g1, g2, ⟨g3, g4, g5⟩, g6, g7, g8, -⟩ := x_g_ok k hk
  have hle : M.1.length ≤ M1.1.length := hg.2.1.length_le
  have hsz : x_sz M ≤ x_sz M1 := x_sz_le hg.2.1
  obtain ⟨r1, r2⟩ := hrm M1 v1 hq
  have hf : M.1.length + (M1.1.length - M.1.length) ≤ room_1.cells ∧ x_sz M + (x_sz M1 - x_sz M) ≤ room_1.slots := ⟨Nat.le_trans (show _ ≤ 600000 by omega) (by decide), Nat.le_trans (show _ ≤ 7302250 by omega) (by decide)⟩
  have hPc : ∀ U : State, U.heap = H → s.WarmedH U.vm → x_Pc D tC ad M (.ref a :: as) H.size ((Value.ref a :: as).map (x_V ad)).toArray U := fun U hU' hW => ⟨rfl, by rw [hU'], by rw [hU']; exact hP, hU.warm hW, ⟨hD.1, fun _ _ _ => trivial⟩⟩
  obtain ⟨i1, i2⟩ := f4 hsl
  have i3 := i2.resolve_left (g7 hil)
  have hcw : CallW room_1 s #[Value.ref b] R_law (xR ci) ix (x_m k).1 (x_b k) (x_nL k) (x_m k).2.2.1 (x_wk k) (x_rm 9 M M1) (M1.1.length - M.1.length) (x_sz M1 - x_sz M) (x_nA.getD k 0) := by
    subst hci
    refine cwV (Ts := x_ws) (ws' := x_ws) _ hts (x_gi (fun w hw => ?_)) rfl rfl rfl ⟨g1, g3, g4, g5⟩ (lw_rm hk (Nat.le_refl _))
    rcases List.mem_append.mp hw with h | h
    · simp only [List.mem_cons, List.not_mem_nil, or_false] at h
      rcases h with rfl | rfl | rfl | rfl
      · exact hlink
      · exact i1
      · exact i3
      · exact f2
    · rcases List.mem_cons.mp h with rfl | h
      · exact f1
      · exact h
  have hrun := va_runV (l := l) (e := e) (below := below) (meth := meth) (locs := locs) (cells := M.1.length) (slots := x_sz M) (g := F0 m pc arr st) (rest := rest) (Ts := x_ws) (own := R_law) (b := ad a) (As := as.map (x_V ad)) ⟨hx, hb, hml, hown, hts⟩ (hM ad H.size) hcw ⟨x_blind, va_recv hU.1 hP (x_cl_at ci hc11) (x_W_at hkd), hPc⟩ rfl (by rw [List.length_map]; exact hna) hls hst (lv_room hcat) hd hf
  refine x_after hrun hS hD (fun q h => h) (fun ad1 H1 locs1 hag q1 q2 q3 => ?_)
  have h9 := kk M1 v1 ad1 H1 locs1 hq hag ⟨hg.1, q1, q2, q3⟩
  rw [show M.1.length + (M1.1.length - M.1.length) = M1.1.length by omega, show x_sz M + (x_sz M1 - x_sz M) = x_sz M1 by omega]
  exact h9
set_option maxHeartbeats 2000000 in
theorem lw_init (F : lw_Fx p s m c D tC b) (Y : lw_Y D tC s ad M H locs) {nn : Nat} {M1 : xM} (hd : decode code pc = .ok (.invokespecial ix, 3)) (hlink : Cond.methodLink R_law ix (x_m k).1 ∈ x_ws) (hk : k < 146) (hsl : x_sL.getD k 0 = 0) (hil : x_iL.getD k 0 = 1) (hna : x_nA.getD k 0 = 0) (ha : a < M.1.length) (hgo : x_go 9 nn k M [.ref a] = some (M1, none))
    (hrm : M1.1.length ≤ 600000 ∧ x_sz M1 ≤ 7302250) (hls : arr.size = 4) (hcat : (rest.map fun v => v.category).sum ≤ 8)
    (kk : ∀ (ad1 : Nat → Nat) (H1 : Heap) (locs1 : List Loc), (∀ i, i < M.1.length → ad1 i = ad i) → lw_Y D tC s ad1 M1 H1 locs1 → W p l e room_1 s m #[Value.ref b] below meth c H1 locs1 M1.1.length (x_sz M1) Q (F0 m (pc + 3) arr rest)) :
    W p l e room_1 s m #[Value.ref b] below meth c H locs M.1.length (x_sz M) Q (F0 m pc arr (.ref (ad a) :: rest)) := by
  obtain ⟨hx, hb, hml, hown, hts, hU⟩ := F
  obtain ⟨hwM, hP, hD, hS⟩ := Y
  have has' : ∀ v ∈ [Value.ref a], x_wV M.1.length v := by
    intro v hv
    rcases List.mem_cons.mp hv with rfl | hv
    · exact x_wV_ref ha
    · cases hv
  have hg := x_go_good 9 nn k M _ (M1, none) hwM has' hgo
  have hM := (x_snd (l := l) (D := D) (tC := tC) 8 nn k M _ M1 none hwM has' hgo).2
  obtain ⟨f1, f2, f3, f4⟩ := x_m_ok k hk
  obtain ⟨g1, g2, ⟨g3, g4, g5⟩, g6, g7, g8, -⟩ := x_g_ok k hk
  have hle : M.1.length ≤ M1.1.length := hg.2.1.length_le
  have hsz : x_sz M ≤ x_sz M1 := x_sz_le hg.2.1
  obtain ⟨r1, r2⟩ := hrm
  have hf : M.1.length + (M1.1.length - M.1.length) ≤ room_1.cells ∧ x_sz M + (x_sz M1 - x_sz M) ≤ room_1.slots := ⟨Nat.le_trans (show _ ≤ 600000 by omega) (by decide), Nat.le_trans (show _ ≤ 7302250 by omega) (by decide)⟩
  have hPc : ∀ U : State, U.heap = H → s.WarmedH U.vm → x_Pc D tC ad M [.ref a] H.size (([Value.ref a] : List Value).map (x_V ad)).toArray U := fun U hU' hW => ⟨rfl, by rw [hU'], by rw [hU']; exact hP, hU.warm hW, ⟨hD.1, fun _ _ _ => trivial⟩⟩
  obtain ⟨i1, -⟩ := f4 hsl
  obtain ⟨j1, j2⟩ := g6 hil
  have hwk : x_wk k = Cond.code (x_m k).1 (x_b k) (x_nL k) none :: x_ws := by unfold x_wk; rw [j2]
  have hG9 : GoodIn x_ws (x_wk k) := x_gi (fun w hw => by
    rcases List.mem_cons.mp hw with rfl | h
    · exact f1
    · exact h)
  have hcw := cwI (R := room_1) (s := s) (args := #[Value.ref b]) (own := R_law) (index := ix) (mc := M1.1.length - M.1.length) (ms := x_sz M1 - x_sz M) (rm := x_rm 8 M M1) (x_nA.getD k 0) hts hG9 hwk rfl rfl (by rw [g1]; exact hts _ f2) (hts _ hlink) (hts _ i1) j1 ⟨g3, g4, g5⟩ (lw_rm hk (by omega))
  have hrun := va_runI (l := l) (e := e) (below := below) (meth := meth) (locs := locs) (cells := M.1.length) (slots := x_sz M) (g := F0 m pc arr (.ref (ad a) :: rest)) (rest := rest) (Ts := x_ws) (own := R_law) (b := ad a) (As := []) ⟨hx, hb, hml, hown, hts⟩ (hM ad H.size) hcw ⟨x_blind, hPc⟩ rfl (by rw [hna]; rfl) hls rfl (lv_room hcat) hd hf
  refine x_after hrun hS hD (fun q h => h) (fun ad1 H1 locs1 hag q1 q2 q3 => ?_)
  have h9 := kk ad1 H1 locs1 hag ⟨hg.1, q1, q2, q3⟩
  rw [show M.1.length + (M1.1.length - M.1.length) = M1.1.length by omega, show x_sz M + (x_sz M1 - x_sz M) = x_sz M1 by omega]
  exact h9
set_option maxHeartbeats 2000000 in
set_option maxRecDepth 20000 in
theorem lw_new (F : lw_Fx p s m c D tC b) (Y : lw_Y D tC s ad M H locs) {ci : Nat} (hd : decode code pc = .ok (.new ix, 3)) (hlink : Cond.classLink R_law ix (xR ci) ∈ x_ws) (c1 : ci < 11) (hcap : M.1.length + 1 ≤ 600000 ∧ x_sz M + xN ci ≤ 7302250)
    (kk : ∀ (ad1 : Nat → Nat) (H1 : Heap), (∀ i, i < M.1.length → ad1 i = ad i) → lw_Y D tC s ad1 (x_new M (false, ci, xN ci)) H1 locs → W p l e room_1 s m #[Value.ref b] below meth c H1 locs (x_new M (false, ci, xN ci)).1.length (x_sz (x_new M (false, ci, xN ci))) Q (F0 m (pc + 3) arr (.ref (ad1 M.1.length) :: rest))) :
    W p l e room_1 s m #[Value.ref b] below meth c H locs M.1.length (x_sz M) Q (F0 m pc arr rest) := by
  obtain ⟨hx, hb, hml, hown, hts, hU⟩ := F
  obtain ⟨hwM, hP, hD, hS⟩ := Y
  have hk1 : (x_new M (false, ci, xN ci)).1 = M.1 ++ [(false, ci, xN ci)] := rfl
  have hz := x_sz_push hk1
  obtain ⟨w1, w2, w3, w4, w5⟩ := x_cl_ok ci c1
  refine va_new (D := D) (ci := ci) (fs := (List.range (xN ci)).map (fun j => defaultValue (xy ci j))) (C := xR ci) (T := xT ci) (N := xN ci) hx hb hts w1 (xy ci) w5 hown (hts _ hlink) (hts _ w2) (hts _ w3) hU.1 hP hD hS (fun q h => h) (x_cl_at ci c1) (fun j hj => ?_) (Nat.le_trans hcap.1 (by decide)) (Nat.le_trans hcap.2 (by decide)) hd (fun q H1 q1 q2 q3 => ?_)
  · simp [vp_V, hj]
  · have hO : x_O (va_up ad M.1.length q) tC (x_new M (false, ci, xN ci)) M.1.length (false, ci, xN ci) = .inr (ci, (List.range (xN ci)).map (fun j => defaultValue (xy ci j))) := by
      simp only [x_O, x_F]
      congr 2
      apply List.map_congr_left
      intro j hj
      rw [x_d0_ok ci c1 j (List.mem_range.mp hj)]
      generalize x_kt (xy ci j) = t9
      match t9 with
      | 0 => simp [x_fv, x_d0, x_V, x_new, x_w]
      | 1 => simp [x_fv, x_d0, x_V, x_new, x_w]
      | 2 => simp [x_fv, x_d0, x_V, x_new, x_w]
      | _ + 3 => simp [x_fv, x_d0, x_V, x_new, x_w, va_rf]
    rw [← hO, ← x_W_push hwM hk1 (x_new_but M _)] at q1 q2
    have hw1 : x_wM (x_new M (false, ci, xN ci)) := by
      intro a j i h
      show i < (M.1 ++ [(false, ci, xN ci)]).length
      rw [List.length_append]
      simp only [x_new, x_w] at h
      split at h
      · cases h
      · have := hwM a j i h
        omega
    have h9 := kk (va_up ad M.1.length q) H1 (fun i hi => va_up_ne ad q (show i ≠ M.1.length by omega)) ⟨hw1, q1, q2, q3⟩
    rw [va_up_self] at h9
    rw [show (x_new M (false, ci, xN ci)).1.length = M.1.length + 1 by rw [hk1, List.length_append]; rfl, show x_sz (x_new M (false, ci, xN ci)) = x_sz M + xN ci from hz] at h9
    exact h9
end LWK
