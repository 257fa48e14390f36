/-! a step of the small machine is a step of the JVM -/
def x_Fx (p : Program) (R : Room) (s : State) (m : MethodId) (args : Array Value) (meth : Method) (c : Code) (D : va_G) (tC : Nat → ClassId) (A : Nat → Prop) (d k : Nat) : Prop :=
  p.tables.exec = Jvm.exec ∧ c.code = x_b k ∧ c.maxLocals = x_nL k ∧ s.vm.findClass (xR (x_m k).2.2.2) = some m.cls ∧ (∀ w ∈ x_ws, w.before args s = true) ∧ x_U D tC s ∧ meth.sig.returnType = (x_m k).2.2.1 ∧ meth.locks = false ∧ (x_iL.getD k 0 = 1 → meth.name = "<init>") ∧ (∀ q, s.heap.size ≤ q → A q) ∧ d ≤ R.frames ∧ 37 * d ≤ R.locals
def x_sz (M : xM) : Nat := (M.1.map (fun k => k.2.2)).sum
def x_Dy (D : va_G) (tC : Nat → ClassId) (A : Nat → Prop) (H0 : Heap) (nL : Nat) (ad0 : Nat → Nat) (M0 : xM) (ad : Nat → Nat) (M : xM) (ls : xL) (st : List Value) (arr : Array Slot) (H : Heap) (locs : List Loc) (cells slots : Nat) : Prop :=
  x_G (0, ls, st, M) ∧ x_lr ad arr nL ls ∧ (∀ i, i < M0.1.length → ad i = ad0 i) ∧ va_P D xcl (x_W ad tC M) H ∧ va_D A (x_W ad tC M) ∧ va_S A H0 H locs ∧ cells + M0.1.length = M.1.length ∧ slots + x_sz M0 = x_sz M
theorem x_cl_at : ∀ ci, ci < 11 → xcl[ci]? = some (xR ci, xT ci, xN ci) := by
  intro ci h
  match ci, h with
  | 0, _ => rfl
  | 1, _ => rfl
  | 2, _ => rfl
  | 3, _ => rfl
  | 4, _ => rfl
  | 5, _ => rfl
  | 6, _ => rfl
  | 7, _ => rfl
  | 8, _ => rfl
  | 9, _ => rfl
  | 10, _ => rfl
  | _ + 11, h => omega
theorem x_fT_num : ∀ q ∈ x_fT, q.2.2.1 < 11 ∧ q.2.2.2.1 = xN q.2.2.1 ∧ q.2.2.2.2.1 < xN q.2.2.1 ∧ q.2.2.2.2.2 = x_kt (xy q.2.2.1 q.2.2.2.2.1) := by decide +kernel
theorem x_nT_num : ∀ q ∈ x_nT, q.2.2.1 < 11 ∧ q.2.2.2 = xN q.2.2.1 := by decide +kernel
theorem x_qT_num : ∀ q ∈ x_qT, 2 ≤ q.2.2 ∧ q.2.2 < 5 := by decide +kernel
def x_isr : FieldType → Bool
  | .object _ => true
  | .array _ => true
  | _ => false
theorem x_isr_ok : ∀ ci, ci < 11 → ∀ j, j < xN ci → x_kt (xy ci j) = 3 → x_isr (xy ci j) = true := by decide +kernel
theorem x_own_ok : ∀ ci, ci < 11 → ∀ j, j < xN ci → (xT ci j).1 = xR ci := by decide +kernel
def x_d0 : Nat → Value
  | 0 => .int 0
  | 1 => .int 0
  | 2 => .long 0
  | _ => .null
theorem x_d0_ok : ∀ ci, ci < 11 → ∀ j, j < xN ci → defaultValue (xy ci j) = x_d0 (x_kt (xy ci j)) := by decide +kernel
theorem x_pv_ok {ad : Nat → Nat} {ty : FieldType} (hty : x_kt ty = 3 → x_isr ty = true) {M M2 : xM} {a j : Nat} {v : Value} (h : x_pv (x_kt ty) M a j v = some M2) :
    x_but a M M2 ∧ x_fv (x_kt ty) M2 a j = v ∧ (∀ i, i ≠ j → ∀ t, x_fv t M2 a i = x_fv t M a i) ∧ narrow ty (x_V ad v) = x_V ad v ∧ fits ty (x_V ad v) = true := by
  have key : ∀ {I : Nat → Nat → Int32} {L : Nat → Nat → Int64} {r : Nat → Nat → Option Nat}, (∀ b i, ¬ (b = a ∧ i = j) → I b i = M.2.1 b i ∧ L b i = M.2.2.1 b i ∧ r b i = M.2.2.2 b i) → x_but a M (M.1, I, L, r) ∧ ∀ i, i ≠ j → ∀ t, x_fv t (M.1, I, L, r) a i = x_fv t M a i := by
    intro I L r hh
    refine ⟨⟨rfl, fun b i hb => hh b i (fun q => hb q.1)⟩, fun i hi t => ?_⟩
    obtain ⟨q1, q2, q3⟩ := hh a i (fun q => hi q.2)
    exact x_fv_eq q1 q2 q3
  have hu : ∀ {α : Type} (f : Nat → Nat → α) (x : α) b i, ¬ (b = a ∧ i = j) → x_u f a j x b i = f b i := fun f x b i q => by simp only [x_u]; rw [if_neg q]
  have hs : ∀ {α : Type} (f : Nat → Nat → α) (x : α), x_u f a j x a j = x := fun f x => by simp [x_u]
  cases ty <;> simp only [x_kt] at h hty ⊢
  case int =>
    cases v <;> simp only [x_pv] at h <;> try (cases h; done)
    cases h
    obtain ⟨k1, k2⟩ := key (I := x_u M.2.1 a j _) (L := M.2.2.1) (r := M.2.2.2) (fun b i q => ⟨hu _ _ b i q, rfl, rfl⟩)
    exact ⟨k1, by simp [x_fv, hs], k2, rfl, rfl⟩
  case boolean =>
    cases v <;> simp only [x_pv] at h <;> try (cases h; done)
    split at h
    · rename_i hx
      cases h
      obtain ⟨k1, k2⟩ := key (I := x_u M.2.1 a j _) (L := M.2.2.1) (r := M.2.2.2) (fun b i q => ⟨hu _ _ b i q, rfl, rfl⟩)
      refine ⟨k1, by simp [x_fv, hs], k2, ?_, ?_⟩
      · rcases hx with rfl | rfl <;> rfl
      · rcases hx with rfl | rfl <;> rfl
    · cases h
  case long =>
    cases v <;> simp only [x_pv] at h <;> try (cases h; done)
    cases h
    obtain ⟨k1, k2⟩ := key (I := M.2.1) (L := x_u M.2.2.1 a j _) (r := M.2.2.2) (fun b i q => ⟨rfl, hu _ _ b i q, rfl⟩)
    exact ⟨k1, by simp [x_fv, hs], k2, rfl, rfl⟩
  case object =>
    cases v <;> simp only [x_pv] at h <;> try (cases h; done)
    · cases h
      obtain ⟨k1, k2⟩ := key (I := M.2.1) (L := M.2.2.1) (r := x_u M.2.2.2 a j none) (fun b i q => ⟨rfl, rfl, hu _ _ b i q⟩)
      exact ⟨k1, by simp [x_fv, hs, va_rf], k2, rfl, rfl⟩
    · cases h
      obtain ⟨k1, k2⟩ := key (I := M.2.1) (L := M.2.2.1) (r := x_u M.2.2.2 a j (some _)) (fun b i q => ⟨rfl, rfl, hu _ _ b i q⟩)
      exact ⟨k1, by simp [x_fv, hs, va_rf], k2, rfl, rfl⟩
  case array =>
    cases v <;> simp only [x_pv] at h <;> try (cases h; done)
    · cases h
      obtain ⟨k1, k2⟩ := key (I := M.2.1) (L := M.2.2.1) (r := x_u M.2.2.2 a j none) (fun b i q => ⟨rfl, rfl, hu _ _ b i q⟩)
      exact ⟨k1, by simp [x_fv, hs, va_rf], k2, rfl, rfl⟩
    · cases h
      obtain ⟨k1, k2⟩ := key (I := M.2.1) (L := M.2.2.1) (r := x_u M.2.2.2 a j (some _)) (fun b i q => ⟨rfl, rfl, hu _ _ b i q⟩)
      exact ⟨k1, by simp [x_fv, hs, va_rf], k2, rfl, rfl⟩
  all_goals exact absurd (hty trivial) (by simp [x_isr])
theorem x_sz_eq {M M2 : xM} (h : M2.1 = M.1) : x_sz M2 = x_sz M := by simp [x_sz, h]
theorem x_sz_push {M M2 : xM} {k : xK} (h : M2.1 = M.1 ++ [k]) : x_sz M2 = x_sz M + k.2.2 := by simp [x_sz, h]
section XSIH
variable {p : Program} {l : Launch} {e : Env} {R : Room} {s : State} {m : MethodId} {args : Array Value} {below : List Frame} {meth : Method} {c : Code} {D : va_G} {tC : Nat → ClassId} {A : Nat → Prop} {d k : Nat}
variable {ad0 : Nat → Nat} {M0 : xM} {ad : Nat → Nat} {M : xM} {ls : xL} {st : List Value} {arr : Array Slot} {H : Heap} {locs : List Loc} {cells slots : Nat} {Q : State → Prop} {pc pc' nL : Nat} {M2 : xM} {r : List Value} {a : Nat}
theorem x_Dy.put {H' : Heap} {locs' : List Loc} {kd : xK} {H0 : Heap} (Y : x_Dy D tC A H0 nL ad0 M0 ad M ls st arr H locs cells slots) (hg : x_G (pc', ls, r, M2)) (hk : M.1[a]? = some kd) (hbut : x_but a M M2)
    (hP : va_P D xcl ((x_W ad tC M).set a (ad a, x_O ad tC M2 a kd)) H') (hD : va_D A ((x_W ad tC M).set a (ad a, x_O ad tC M2 a kd))) (hS : va_S A H0 H' locs') : x_Dy D tC A H0 nL ad0 M0 ad M2 ls r arr H' locs' cells slots := by
  rw [← x_W_but hk hbut] at hP hD
  exact ⟨hg, Y.2.1, Y.2.2.1, hP, hD, hS, by rw [hbut.1]; exact Y.2.2.2.2.2.2.1, by rw [x_sz_eq hbut.1]; exact Y.2.2.2.2.2.2.2⟩
theorem x_sim_put {ix ci j : Nat} {v : Value} (hx : p.tables.exec = Jvm.exec) (hb : c.code = x_b k) (hts : ∀ w ∈ x_ws, w.before args s = true) (hown : s.vm.findClass (xR (x_m k).2.2.2) = some m.cls) (hK : va_K D xcl (x_tys tC) s) (hini : x_iL.getD k 0 = 1 → meth.name = "<init>") (hfin : (xT ci j).2.2.2 = true → (x_m k).2.2.2 = ci ∧ x_iL.getD k 0 = 1) (c1 : ci < 11) (c3 : j < xN ci) (hn : ((x_m k).2.2.2, ix, ci, xN ci, j, x_kt (xy ci j)) ∈ x_fT) (hd : decode (x_b k) pc = .ok (.putfield ix, 3))
    (Y : x_Dy D tC A s.heap nL ad0 M0 ad M ls (v :: .ref a :: r) arr H locs cells slots) (hg : x_G (pc', ls, r, M2)) (hk : M.1[a]? = some (false, ci, xN ci)) (hpv : x_pv (x_kt (xy ci j)) M a j v = some M2)
    (kk : ∀ (H' : Heap) (locs' : List Loc), x_Dy D tC A s.heap nL ad0 M0 ad M2 ls r arr H' locs' cells slots → W p l e R s m args below meth c H' locs' cells slots Q (F0 m (pc + 3) arr (r.map (x_V ad)))) : W p l e R s m args below meth c H locs cells slots Q (F0 m pc arr ((v :: .ref a :: r).map (x_V ad))) := by
  obtain ⟨hbut, hv, hoth, hnar, hfit⟩ := x_pv_ok (ad := ad) (x_isr_ok ci c1 j c3) hpv
  have hO : x_O ad tC M2 a (false, ci, xN ci) = .inr (ci, (x_F ad M a ci (xN ci)).set j (x_V ad v)) := by
    simp only [x_O]
    rw [x_F_set c3 hv (fun i hi => hoth i hi _)]
  obtain ⟨w1, w2, w3, w4, w5⟩ := x_cl_ok ci c1
  have Y' := Y
  obtain ⟨hG, hlr, had, hP, hD, hS, hce, hsl⟩ := Y'
  have fin : ∀ (H' : Heap) (locs' : List Loc), va_P D xcl ((x_W ad tC M).set a (ad a, .inr (ci, (x_F ad M a ci (xN ci)).set j (x_V ad v)))) H' → va_D A ((x_W ad tC M).set a (ad a, .inr (ci, (x_F ad M a ci (xN ci)).set j (x_V ad v)))) → va_S A s.heap H' locs' → W p l e R s m args below meth c H' locs' cells slots Q (F0 m (pc + 3) arr (r.map (x_V ad))) := by
    intro H' locs' q1 q2 q3
    exact kk H' locs' (Y.put hg hk hbut (by rw [hO]; exact q1) (by rw [hO]; exact q2) q3)
  cases hf : (xT ci j).2.2.2 with
  | false => exact va_put (D := D) (ci := ci) (C := xR ci) (T := xT ci) (N := xN ci) (v := x_V ad v) (ty := xy ci j) hx hb hts w1 (xy ci) w5 w4 hown hK hP hD hS a (x_W_at hk) (x_cl_at ci c1) j c3 (hts _ (x_fT_ok _ hn)) (fun _ h9 => h9) hf (w5 j c3) hnar hfit (by simp [x_F]; exact c3) hd fin
  | true => exact va_putF (D := D) (ci := ci) (C := xR ci) (T := xT ci) (N := xN ci) (v := x_V ad v) (ty := xy ci j) hx hb hts w1 (xy ci) w5 w4 hown hK hP hD hS a (x_W_at hk) (x_cl_at ci c1) j c3 (hts _ (x_fT_ok _ hn)) (fun _ h9 => h9) hf (hini (hfin hf).2) (by rw [x_own_ok ci c1 j c3, (hfin hf).1]) (w5 j c3) hnar hfit (by simp [x_F]; exact c3) hd fin
theorem x_tys_at (tC : Nat → ClassId) {t : Nat} (h : t < 5) : (x_tys tC)[t]? = some (tC t, x_ty t) := by
  match t, h with
  | 0, _ => rfl
  | 1, _ => rfl
  | 2, _ => rfl
  | 3, _ => rfl
  | 4, _ => rfl
  | _ + 5, h => omega
theorem x_ty_obj {t : Nat} (h1 : 2 ≤ t) (h2 : t < 5) : x_ty t = .object (xR (x_ec t)) := by
  match t, h1, h2 with
  | 2, _, _ => rfl
  | 3, _, _ => rfl
  | 4, _, _ => rfl
theorem x_vin {i : Int32} {n : Nat} (h1 : ¬ i < 0) (h2 : i.toNatClampNeg < n) : vp_in i n := fun h => h.elim h1 (fun h => absurd h2 (Nat.not_lt.mpr h))
theorem x_O_ref {t n : Nat} (h : 2 ≤ t) : x_O ad tC M a (true, t, n) = .inl (tC t, n, .inr (.inr (.inr (.inr (fun j => (M.2.2.2 a j).map ad))))) := by
  simp only [x_O]
  rw [if_neg (by omega)]
theorem x_sim_aq {t n : Nat} {i : Int32} (hx : p.tables.exec = Jvm.exec) (hb : c.code = x_b k) (hK : va_K D xcl (x_tys tC) s) (hP : va_P D xcl (x_W ad tC M) H) (hk : M.1[a]? = some (true, t, n)) (h1 : 2 ≤ t) (h2 : t < 5) (h3 : ¬ i < 0) (h4 : i.toNatClampNeg < n) (hd : decode (x_b k) pc = .ok (.aaload, 1))
    (kk : W p l e R s m args below meth c H locs cells slots Q (F0 m (pc + 1) arr ((va_rf (M.2.2.2 a i.toNatClampNeg) :: r).map (x_V ad)))) : W p l e R s m args below meth c H locs cells slots Q (F0 m pc arr ((.int i :: .ref a :: r).map (x_V ad))) := by
  simp only [List.map_cons, x_V_rf] at kk
  exact va_aldq (D := D) (C := xR (x_ec t)) hx hb hK hP a t (by rw [x_W_at hk, x_O_ref h1]) (by rw [x_tys_at tC h2, x_ty_obj h1 h2]) (x_vin h3 h4) hd kk
theorem x_sim_as0 {n : Nat} {i x : Int32} (hx : p.tables.exec = Jvm.exec) (hb : c.code = x_b k) (hK : va_K D xcl (x_tys tC) s) (Y : x_Dy D tC A s.heap nL ad0 M0 ad M ls (.int x :: .int i :: .ref a :: r) arr H locs cells slots) (hg : x_G (pc', ls, r, (M.1, x_u M.2.1 a i.toNatClampNeg x, M.2.2))) (hk : M.1[a]? = some (true, 0, n)) (h3 : ¬ i < 0) (h4 : i.toNatClampNeg < n) (hd : decode (x_b k) pc = .ok (.iastore, 1))
    (kk : ∀ (H' : Heap) (locs' : List Loc), x_Dy D tC A s.heap nL ad0 M0 ad (M.1, x_u M.2.1 a i.toNatClampNeg x, M.2.2) ls r arr H' locs' cells slots → W p l e R s m args below meth c H' locs' cells slots Q (F0 m (pc + 1) arr (r.map (x_V ad)))) : W p l e R s m args below meth c H locs cells slots Q (F0 m pc arr ((.int x :: .int i :: .ref a :: r).map (x_V ad))) := by
  have hbut : x_but a M (M.1, x_u M.2.1 a i.toNatClampNeg x, M.2.2) := ⟨rfl, fun b j hb => ⟨by simp only [x_u]; rw [if_neg (fun q => hb q.1)], rfl, rfl⟩⟩
  have hO : x_O ad tC (M.1, x_u M.2.1 a i.toNatClampNeg x, M.2.2) a (true, 0, n) = .inl (tC 0, n, .inl (upd (M.2.1 a) i.toNatClampNeg x)) := by
    simp only [x_O]
    rw [if_pos (by omega)]
    congr 4
    funext j
    simp [x_u, upd]
  have Y' := Y
  obtain ⟨hG, hlr, had, hP, hD, hS, hce, hsl⟩ := Y'
  exact va_iast (D := D) hx hb hK hP hD hS a 0 (x_W_at hk) rfl (x_vin h3 h4) hd (fun H1 locs1 q1 q2 q3 => kk H1 locs1 (Y.put hg hk hbut (by rw [hO]; exact q1) (by rw [hO]; exact q2) q3))
theorem x_sim_as1 {n : Nat} {i x : Int32} (hx : p.tables.exec = Jvm.exec) (hb : c.code = x_b k) (hK : va_K D xcl (x_tys tC) s) (Y : x_Dy D tC A s.heap nL ad0 M0 ad M ls (.int x :: .int i :: .ref a :: r) arr H locs cells slots) (hg : x_G (pc', ls, r, (M.1, x_u M.2.1 a i.toNatClampNeg x, M.2.2))) (hk : M.1[a]? = some (true, 1, n)) (h3 : ¬ i < 0) (h4 : i.toNatClampNeg < n) (hx01 : x = 0 ∨ x = 1) (hd : decode (x_b k) pc = .ok (.bastore, 1))
    (kk : ∀ (H' : Heap) (locs' : List Loc), x_Dy D tC A s.heap nL ad0 M0 ad (M.1, x_u M.2.1 a i.toNatClampNeg x, M.2.2) ls r arr H' locs' cells slots → W p l e R s m args below meth c H' locs' cells slots Q (F0 m (pc + 1) arr (r.map (x_V ad)))) : W p l e R s m args below meth c H locs cells slots Q (F0 m pc arr ((.int x :: .int i :: .ref a :: r).map (x_V ad))) := by
  have hbut : x_but a M (M.1, x_u M.2.1 a i.toNatClampNeg x, M.2.2) := ⟨rfl, fun b j hb => ⟨by simp only [x_u]; rw [if_neg (fun q => hb q.1)], rfl, rfl⟩⟩
  have hnar : vp_nar .boolean x = x := by rcases hx01 with rfl | rfl <;> rfl
  have hO : x_O ad tC (M.1, x_u M.2.1 a i.toNatClampNeg x, M.2.2) a (true, 1, n) = .inl (tC 1, n, .inl (upd (M.2.1 a) i.toNatClampNeg x)) := by
    simp only [x_O]
    rw [if_pos (by omega)]
    congr 4
    funext j
    simp [x_u, upd]
  have Y' := Y
  obtain ⟨hG, hlr, had, hP, hD, hS, hce, hsl⟩ := Y'
  exact va_zast (D := D) hx hb hK hP hD hS a 1 (x_W_at hk) rfl (x_vin h3 h4) hd (fun H1 locs1 q1 q2 q3 => kk H1 locs1 (Y.put hg hk hbut (by rw [hO]; rw [hnar] at q1; exact q1) (by rw [hO]; rw [hnar] at q2; exact q2) q3))
theorem x_sim_sq {t n n2 ci v : Nat} {i : Int32} (hx : p.tables.exec = Jvm.exec) (hb : c.code = x_b k) (hK : va_K D xcl (x_tys tC) s) (Y : x_Dy D tC A s.heap nL ad0 M0 ad M ls (.ref v :: .int i :: .ref a :: r) arr H locs cells slots) (hg : x_G (pc', ls, r, (M.1, M.2.1, M.2.2.1, x_u M.2.2.2 a i.toNatClampNeg (some v)))) (hk : M.1[a]? = some (true, t, n)) (hk2 : M.1[v]? = some (false, ci, n2)) (h1 : 2 ≤ t) (h2 : t < 5) (hec : x_ec t = ci) (h3 : ¬ i < 0) (h4 : i.toNatClampNeg < n) (hd : decode (x_b k) pc = .ok (.aastore, 1))
    (kk : ∀ (H' : Heap) (locs' : List Loc), x_Dy D tC A s.heap nL ad0 M0 ad (M.1, M.2.1, M.2.2.1, x_u M.2.2.2 a i.toNatClampNeg (some v)) ls r arr H' locs' cells slots → W p l e R s m args below meth c H' locs' cells slots Q (F0 m (pc + 1) arr (r.map (x_V ad)))) : W p l e R s m args below meth c H locs cells slots Q (F0 m pc arr ((.ref v :: .int i :: .ref a :: r).map (x_V ad))) := by
  have hbut : x_but a M (M.1, M.2.1, M.2.2.1, x_u M.2.2.2 a i.toNatClampNeg (some v)) := ⟨rfl, fun b j hb => ⟨rfl, rfl, by simp only [x_u]; rw [if_neg (fun q => hb q.1)]⟩⟩
  have hO : x_O ad tC (M.1, M.2.1, M.2.2.1, x_u M.2.2.2 a i.toNatClampNeg (some v)) a (true, t, n) = .inl (tC t, n, .inr (.inr (.inr (.inr (va_up (fun j => (M.2.2.2 a j).map ad) i.toNatClampNeg (some (ad v))))))) := by
    rw [x_O_ref h1]
    congr 7
    funext j
    simp only [x_u, va_up, true_and]
    split <;> rfl
  have hci : ci < 11 := by subst hec; match t, h1, h2 with | 2, _, _ => decide | 3, _, _ => decide | 4, _, _ => decide
  subst hec
  have Y' := Y
  obtain ⟨hG, hlr, had, hP, hD, hS, hce, hsl⟩ := Y'
  exact va_astq (D := D) (r := (xR (x_ec t), xT (x_ec t), xN (x_ec t))) hx hb hK hP hD hS a t v (x_ec t) (by rw [x_W_at hk, x_O_ref h1]) (by rw [x_tys_at tC h2, x_ty_obj h1 h2]) (x_W_at hk2) (x_cl_at _ hci) (x_vin h3 h4) hd (fun H1 locs1 q1 q2 q3 => kk H1 locs1 (Y.put hg hk hbut (by rw [hO]; exact q1) (by rw [hO]; exact q2) q3))
theorem x_sim_sn {t n : Nat} {i : Int32} (hx : p.tables.exec = Jvm.exec) (hb : c.code = x_b k) (hK : va_K D xcl (x_tys tC) s) (Y : x_Dy D tC A s.heap nL ad0 M0 ad M ls (.null :: .int i :: .ref a :: r) arr H locs cells slots) (hg : x_G (pc', ls, r, (M.1, M.2.1, M.2.2.1, x_u M.2.2.2 a i.toNatClampNeg none))) (hk : M.1[a]? = some (true, t, n)) (h1 : 2 ≤ t) (h2 : t < 5) (h3 : ¬ i < 0) (h4 : i.toNatClampNeg < n) (hd : decode (x_b k) pc = .ok (.aastore, 1))
    (kk : ∀ (H' : Heap) (locs' : List Loc), x_Dy D tC A s.heap nL ad0 M0 ad (M.1, M.2.1, M.2.2.1, x_u M.2.2.2 a i.toNatClampNeg none) ls r arr H' locs' cells slots → W p l e R s m args below meth c H' locs' cells slots Q (F0 m (pc + 1) arr (r.map (x_V ad)))) : W p l e R s m args below meth c H locs cells slots Q (F0 m pc arr ((.null :: .int i :: .ref a :: r).map (x_V ad))) := by
  have hbut : x_but a M (M.1, M.2.1, M.2.2.1, x_u M.2.2.2 a i.toNatClampNeg none) := ⟨rfl, fun b j hb => ⟨rfl, rfl, by simp only [x_u]; rw [if_neg (fun q => hb q.1)]⟩⟩
  have hO : x_O ad tC (M.1, M.2.1, M.2.2.1, x_u M.2.2.2 a i.toNatClampNeg none) a (true, t, n) = .inl (tC t, n, .inr (.inr (.inr (.inr (va_up (fun j => (M.2.2.2 a j).map ad) i.toNatClampNeg none))))) := by
    rw [x_O_ref h1]
    congr 7
    funext j
    simp only [x_u, va_up, true_and]
    split <;> rfl
  have Y' := Y
  obtain ⟨hG, hlr, had, hP, hD, hS, hce, hsl⟩ := Y'
  exact va_astqN (D := D) (C := xR (x_ec t)) hx hb hK hP hD hS a t (by rw [x_W_at hk, x_O_ref h1]) (by rw [x_tys_at tC h2, x_ty_obj h1 h2]) (x_vin h3 h4) hd (fun H1 locs1 q1 q2 q3 => kk H1 locs1 (Y.put hg hk hbut (by rw [hO]; exact q1) (by rw [hO]; exact q2) q3))
theorem x_Dy.grow {q : Nat} {H' : Heap} {kd : xK} {H0 : Heap} (Y : x_Dy D tC A H0 nL ad0 M0 ad M ls st arr H locs cells slots) (hst : ∃ st9, st = st9 ++ r) (hk : M2.1 = M.1 ++ [kd]) (hb : ∀ b i, b ≠ M.1.length → M2.2.1 b i = M.2.1 b i ∧ M2.2.2.1 b i = M.2.2.1 b i ∧ M2.2.2.2 b i = M.2.2.2 b i) (hg : x_G (pc', ls, .ref M.1.length :: r, M2))
    (hP : va_P D xcl (x_W ad tC M ++ [(q, x_O (va_up ad M.1.length q) tC M2 M.1.length kd)]) H') (hD : va_D A (x_W ad tC M ++ [(q, x_O (va_up ad M.1.length q) tC M2 M.1.length kd)])) (hS : va_S A H0 H' locs) :
    x_Dy D tC A H0 nL ad0 M0 (va_up ad M.1.length q) M2 ls (.ref M.1.length :: r) arr H' locs (cells + 1) (slots + kd.2.2) ∧ (Value.ref M.1.length :: r).map (x_V (va_up ad M.1.length q)) = .ref q :: r.map (x_V ad) := by
  obtain ⟨st9, rfl⟩ := hst
  obtain ⟨hG, hlr, had, -, -, -, hce, hsl⟩ := Y
  rw [← x_W_push hG.1 hk hb] at hP hD
  refine ⟨⟨hg, hlr.up (fun v hv => (hG.2.2 v hv).1), fun i hi => ?_, hP, hD, hS, by rw [hk, List.length_append]; simp; omega, by rw [x_sz_push hk]; omega⟩, ?_⟩
  · rw [va_up_ne ad q (show i ≠ M.1.length by omega)]; exact had i hi
  · rw [List.map_cons]
    congr 1
    · simp [x_V, va_up_self]
    · exact List.map_congr_left (fun v hv => x_V_up (hG.2.1 v (List.mem_append_right _ hv)))
theorem x_new_but (M : xM) (kd : xK) : ∀ b i, b ≠ M.1.length → (x_new M kd).2.1 b i = M.2.1 b i ∧ (x_new M kd).2.2.1 b i = M.2.2.1 b i ∧ (x_new M kd).2.2.2 b i = M.2.2.2 b i := by
  intro b i h
  simp only [x_new, x_w]
  simp [h]
theorem x_sim_new {ix ci : Nat} (hx : p.tables.exec = Jvm.exec) (hb : c.code = x_b k) (hts : ∀ w ∈ x_ws, w.before args s = true) (hown : s.vm.findClass (xR (x_m k).2.2.2) = some m.cls) (hK : va_K D xcl (x_tys tC) s) (hA : ∀ q, s.heap.size ≤ q → A q) (c1 : ci < 11) (hn : ((x_m k).2.2.2, ix, ci, xN ci) ∈ x_nT) (hd : decode (x_b k) pc = .ok (.new ix, 3)) (Y : x_Dy D tC A s.heap nL ad0 M0 ad M ls st arr H locs cells slots) (hg : x_G (pc', ls, .ref M.1.length :: st, x_new M (false, ci, xN ci)))
    (hcap : (x_new M (false, ci, xN ci)).1.length ≤ M0.1.length + R.cells ∧ x_sz (x_new M (false, ci, xN ci)) ≤ x_sz M0 + R.slots)
    (kk : ∀ (ad' : Nat → Nat) (H' : Heap), x_Dy D tC A s.heap nL ad0 M0 ad' (x_new M (false, ci, xN ci)) ls (.ref M.1.length :: st) arr H' locs (cells + 1) (slots + xN ci) → W p l e R s m args below meth c H' locs (cells + 1) (slots + xN ci) Q (F0 m (pc + 3) arr ((Value.ref M.1.length :: st).map (x_V ad')))) : W p l e R s m args below meth c H locs cells slots Q (F0 m pc arr (st.map (x_V ad))) := by
  have hk1 : (x_new M (false, ci, xN ci)).1 = M.1 ++ [(false, ci, xN ci)] := rfl
  have hz := x_sz_push hk1
  rw [hk1, List.length_append, hz] at hcap
  obtain ⟨w1, w2, w3, w4, w5⟩ := x_cl_ok ci c1
  have Y' := Y
  obtain ⟨hG, hlr, had, hP, hD, hS, hce, hsl⟩ := Y'
  have hc1 : cells + 1 ≤ R.cells := by have := hcap.1; simp at this; omega
  have hc2 : slots + xN ci ≤ R.slots := by have := hcap.2; simp only at this; omega
  refine va_new (D := D) (ci := ci) (fs := (List.range (xN ci)).map (fun j => defaultValue (xy ci j))) (C := xR ci) (T := xT ci) (N := xN ci) hx hb hts w1 (xy ci) w5 hown (hts _ (x_nT_ok _ hn)) (hts _ w2) (hts _ w3) hK hP hD hS hA (x_cl_at ci c1) (fun j hj => ?_) hc1 hc2 hd (fun q H1 q1 q2 q3 => ?_)
  · simp [vp_V, hj]
  · have hO : x_O (va_up ad M.1.length q) tC (x_new M (false, ci, xN ci)) M.1.length (false, ci, xN ci) = .inr (ci, (List.range (xN ci)).map (fun j => defaultValue (xy ci j))) := by
      simp only [x_O, x_F]
      congr 2
      apply List.map_congr_left
      intro j hj
      rw [x_d0_ok ci c1 j (List.mem_range.mp hj)]
      generalize x_kt (xy ci j) = t9
      match t9 with
      | 0 => simp [x_fv, x_d0, x_V, x_new, x_w]
      | 1 => simp [x_fv, x_d0, x_V, x_new, x_w]
      | 2 => simp [x_fv, x_d0, x_V, x_new, x_w]
      | _ + 3 => simp [x_fv, x_d0, x_V, x_new, x_w, va_rf]
    obtain ⟨y, ey⟩ := Y.grow (q := q) (H' := H1) (r := st) ⟨[], rfl⟩ hk1 (x_new_but M _) hg (by rw [hO]; exact q1) (by rw [hO]; exact q2) q3
    have h9 := kk _ H1 y
    rw [ey] at h9
    exact h9
theorem x_sim_na {at9 : ArrayType} {t : Nat} {n : Int32} (hx : p.tables.exec = Jvm.exec) (hb : c.code = x_b k) (hts : ∀ w ∈ x_ws, w.before args s = true) (hK : va_K D xcl (x_tys tC) s) (hA : ∀ q, s.heap.size ≤ q → A q) (hn : (at9 = .int ∧ t = 0) ∨ (at9 = .boolean ∧ t = 1)) (h1 : ¬ n < 0) (h2 : n.toNatClampNeg ≤ 65536) (hd : decode (x_b k) pc = .ok (.newarray at9, 2)) (Y : x_Dy D tC A s.heap nL ad0 M0 ad M ls (.int n :: r) arr H locs cells slots) (hg : x_G (pc', ls, .ref M.1.length :: r, x_new M (true, t, n.toNatClampNeg)))
    (hcap : (x_new M (true, t, n.toNatClampNeg)).1.length ≤ M0.1.length + R.cells ∧ x_sz (x_new M (true, t, n.toNatClampNeg)) ≤ x_sz M0 + R.slots)
    (kk : ∀ (ad' : Nat → Nat) (H' : Heap), x_Dy D tC A s.heap nL ad0 M0 ad' (x_new M (true, t, n.toNatClampNeg)) ls (.ref M.1.length :: r) arr H' locs (cells + 1) (slots + n.toNatClampNeg) → W p l e R s m args below meth c H' locs (cells + 1) (slots + n.toNatClampNeg) Q (F0 m (pc + 2) arr ((Value.ref M.1.length :: r).map (x_V ad')))) : W p l e R s m args below meth c H locs cells slots Q (F0 m pc arr ((.int n :: r).map (x_V ad))) := by
  have hk1 : (x_new M (true, t, n.toNatClampNeg)).1 = M.1 ++ [(true, t, n.toNatClampNeg)] := rfl
  have hz := x_sz_push hk1
  rw [hk1, List.length_append, hz] at hcap
  have Y' := Y
  obtain ⟨hG, hlr, had, hP, hD, hS, hce, hsl⟩ := Y'
  have hc1 : cells + 1 ≤ R.cells := by have := hcap.1; simp at this; omega
  have hc2 : slots + n.toNatClampNeg ≤ R.slots := by have := hcap.2; simp only at this; omega
  have fin : ∀ (q : Nat) (cA : ClassId) (H1 : Heap), cA = tC t → t < 2 → va_P D xcl (x_W ad tC M ++ [(q, .inl (cA, n.toNatClampNeg, .inl (fun _ => 0)))]) H1 → va_D A (x_W ad tC M ++ [(q, .inl (cA, n.toNatClampNeg, .inl (fun _ => 0)))]) → va_S A s.heap H1 locs → W p l e R s m args below meth c H1 locs (cells + 1) (slots + n.toNatClampNeg) Q (F0 m (pc + 2) arr (.ref q :: r.map (x_V ad))) := by
    intro q cA H1 hc ht q1 q2 q3
    subst hc
    have hO : x_O (va_up ad M.1.length q) tC (x_new M (true, t, n.toNatClampNeg)) M.1.length (true, t, n.toNatClampNeg) = .inl (tC t, n.toNatClampNeg, .inl (fun _ => 0)) := by
      simp only [x_O]
      rw [if_pos ht]
      congr 4
      funext j
      simp [x_new, x_w]
    obtain ⟨y, ey⟩ := Y.grow (q := q) (H' := H1) (r := r) ⟨[.int n], rfl⟩ hk1 (x_new_but M _) hg (by rw [hO]; exact q1) (by rw [hO]; exact q2) q3
    have h9 := kk _ H1 y
    rw [ey] at h9
    exact h9
  rcases hn with ⟨rfl, rfl⟩ | ⟨rfl, rfl⟩
  · refine va_newa (D := D) (atype := .int) (ty := .int) (a0 := (n.toNatClampNeg, .inl (fun _ => 0))) hx hb (hts _ x_a0) rfl hK hP hD hS hA (fun _ => rfl) h1 rfl (by simp only [componentBytes]; omega) hc1 hc2 hd (fun q cA H1 qK q1 q2 q3 => fin q cA H1 ?_ (by omega) q1 q2 q3)
    have e1 := (qK.2 5 (cA, .int) rfl).2
    have e2 := (hK.2 0 _ rfl).2
    exact Option.some.inj (e1.symm.trans e2)
  · refine va_newa (D := D) (atype := .boolean) (ty := .boolean) (a0 := (n.toNatClampNeg, .inl (fun _ => 0))) hx hb (hts _ x_a1) rfl hK hP hD hS hA (fun _ => rfl) h1 rfl (by simp only [componentBytes]; omega) hc1 hc2 hd (fun q cA H1 qK q1 q2 q3 => fin q cA H1 ?_ (by omega) q1 q2 q3)
    have e1 := (qK.2 5 (cA, .boolean) rfl).2
    have e2 := (hK.2 1 _ rfl).2
    exact Option.some.inj (e1.symm.trans e2)
theorem x_sim_nq {ix t : Nat} {n : Int32} (hx : p.tables.exec = Jvm.exec) (hb : c.code = x_b k) (hts : ∀ w ∈ x_ws, w.before args s = true) (hown : s.vm.findClass (xR (x_m k).2.2.2) = some m.cls) (hU : x_U D tC s) (hA : ∀ q, s.heap.size ≤ q → A q) (hn : ((x_m k).2.2.2, ix, t) ∈ x_qT) (h1 : ¬ n < 0) (h2 : n.toNatClampNeg ≤ 65536) (hd : decode (x_b k) pc = .ok (.anewarray ix, 3)) (Y : x_Dy D tC A s.heap nL ad0 M0 ad M ls (.int n :: r) arr H locs cells slots) (hg : x_G (pc', ls, .ref M.1.length :: r, x_new M (true, t, n.toNatClampNeg)))
    (hcap : (x_new M (true, t, n.toNatClampNeg)).1.length ≤ M0.1.length + R.cells ∧ x_sz (x_new M (true, t, n.toNatClampNeg)) ≤ x_sz M0 + R.slots)
    (kk : ∀ (ad' : Nat → Nat) (H' : Heap), x_Dy D tC A s.heap nL ad0 M0 ad' (x_new M (true, t, n.toNatClampNeg)) ls (.ref M.1.length :: r) arr H' locs (cells + 1) (slots + n.toNatClampNeg) → W p l e R s m args below meth c H' locs (cells + 1) (slots + n.toNatClampNeg) Q (F0 m (pc + 3) arr ((Value.ref M.1.length :: r).map (x_V ad')))) : W p l e R s m args below meth c H locs cells slots Q (F0 m pc arr ((.int n :: r).map (x_V ad))) := by
  have hk1 : (x_new M (true, t, n.toNatClampNeg)).1 = M.1 ++ [(true, t, n.toNatClampNeg)] := rfl
  have hz := x_sz_push hk1
  rw [hk1, List.length_append, hz] at hcap
  obtain ⟨t1, t2⟩ := x_qT_num _ hn
  simp only at t1 t2
  have hover : va_AO (xR (x_ec t)) s := by
    match t, t1, t2 with
    | 2, _, _ => exact hU.2 _ (List.mem_of_getElem? (i := 10) rfl)
    | 3, _, _ => exact hU.2 _ (List.mem_of_getElem? (i := 11) rfl)
    | 4, _, _ => exact hU.2 _ (List.mem_of_getElem? (i := 12) rfl)
  have Y' := Y
  obtain ⟨hG, hlr, had, hP, hD, hS, hce, hsl⟩ := Y'
  have hc1 : cells + 1 ≤ R.cells := by have := hcap.1; simp at this; omega
  have hc2 : slots + n.toNatClampNeg ≤ R.slots := by have := hcap.2; simp only at this; omega
  refine va_newq (D := D) (C := xR (x_ec t)) hx hb hown (hts _ (x_qT_ok _ hn)) hover hU.1 hP hD hS hA h1 rfl (by omega) hc1 hc2 hd (fun q cA H1 qK q1 q2 q3 => ?_)
  have hc : cA = tC t := by
    have e1 := (qK.2 5 (cA, .object (xR (x_ec t))) rfl).2
    have e2 := (hU.1.2 t _ (x_tys_at tC t2)).2
    simp only [x_ty_obj t1 t2] at e2
    obtain ⟨_, _, _, _, _, f1⟩ := e1
    obtain ⟨_, _, _, _, _, f2⟩ := e2
    exact Option.some.inj (f1.symm.trans f2)
  subst hc
  have hO : x_O (va_up ad M.1.length q) tC (x_new M (true, t, n.toNatClampNeg)) M.1.length (true, t, n.toNatClampNeg) = .inl (tC t, n.toNatClampNeg, .inr (.inr (.inr (.inr (fun _ => none))))) := by
    rw [x_O_ref t1]
    congr 7
    funext j
    simp [x_new, x_w]
  obtain ⟨y, ey⟩ := Y.grow (q := q) (H' := H1) (r := r) ⟨[.int n], rfl⟩ hk1 (x_new_but M _) hg (by rw [hO]; exact q1) (by rw [hO]; exact q2) q3
  have h9 := kk _ H1 y
  rw [ey] at h9
  exact h9
theorem x_cat_map (ad : Nat → Nat) (r : List Value) : ((r.map (x_V ad)).map fun v => v.category) = r.map fun v => v.category := by
  rw [List.map_map]
  exact List.map_congr_left (fun v _ => x_V_cat ad v)
theorem x_sim_oi {ix b : Nat} (hx : p.tables.exec = Jvm.exec) (hb : c.code = x_b k) (hml : c.maxLocals = x_nL k) (hown : s.vm.findClass (xR (x_m k).2.2.2) = some m.cls) (hts : ∀ w ∈ x_ws, w.before args s = true) (hlr : x_lr ad arr (x_nL k) ls) (hn : ((x_m k).2.2.2, ix) ∈ x_oT) (hfr : 1 ≤ R.frames) (hlo : 37 ≤ R.locals) (hc : (r.map fun v => v.category).sum ≤ 8) (hd : decode (x_b k) pc = .ok (.invokespecial ix, 3))
    (kk : W p l e R s m args below meth c H locs cells slots Q (F0 m (pc + 3) arr (r.map (x_V ad)))) : W p l e R s m args below meth c H locs cells slots Q (F0 m pc arr ((.ref b :: r).map (x_V ad))) := by
  refine W.objInit hx hb hown (hts _ (x_oT_ok _ hn)) (hts _ x_oi) (hts _ x_oc) rfl (by rw [hml]; exact hlr.2.1.1) rfl hd hfr ?_ kk
  show 2 * 0 + ((r.map (x_V ad)).map fun v => v.category).sum + 12 ≤ R.locals
  rw [x_cat_map]
  omega
theorem x_sim_cn {ix n : Nat} (hx : p.tables.exec = Jvm.exec) (hb : c.code = x_b k) (hml : c.maxLocals = x_nL k) (hown : s.vm.findClass (xR (x_m k).2.2.2) = some m.cls) (hts : ∀ w ∈ x_ws, w.before args s = true) (hU : x_U D tC s) (hA : ∀ q, s.heap.size ≤ q → A q) (hn : ((x_m k).2.2.2, ix) ∈ x_kT) (hfr : 1 ≤ R.frames) (hlo : 37 ≤ R.locals) (hc : (r.map fun v => v.category).sum ≤ 8) (hd : decode (x_b k) pc = .ok (.invokevirtual ix, 3)) (Y : x_Dy D tC A s.heap (x_nL k) ad0 M0 ad M ls (.ref a :: r) arr H locs cells slots) (hg : x_G (pc', ls, .ref M.1.length :: r, x_dup M (true, 0, n) a)) (hk : M.1[a]? = some (true, 0, n))
    (hcap : (x_dup M (true, 0, n) a).1.length ≤ M0.1.length + R.cells ∧ x_sz (x_dup M (true, 0, n) a) ≤ x_sz M0 + R.slots)
    (kk : ∀ (ad' : Nat → Nat) (H' : Heap), x_Dy D tC A s.heap (x_nL k) ad0 M0 ad' (x_dup M (true, 0, n) a) ls (.ref M.1.length :: r) arr H' locs (cells + 1) (slots + n) → W p l e R s m args below meth c H' locs (cells + 1) (slots + n) Q (F0 m (pc + 3) arr ((Value.ref M.1.length :: r).map (x_V ad')))) : W p l e R s m args below meth c H locs cells slots Q (F0 m pc arr ((.ref a :: r).map (x_V ad))) := by
  have hk1 : (x_dup M (true, 0, n) a).1 = M.1 ++ [(true, 0, n)] := rfl
  have hz := x_sz_push hk1
  rw [hk1, List.length_append, hz] at hcap
  have Y' := Y
  obtain ⟨hG, hlr, had, hP, hD, hS, hce, hsl⟩ := Y'
  have hc1 : cells + 1 ≤ R.cells := by have := hcap.1; simp at this; omega
  have hc2 : slots + n ≤ R.slots := by have := hcap.2; simp only at this; omega
  have hbut : ∀ b i, b ≠ M.1.length → (x_dup M (true, 0, n) a).2.1 b i = M.2.1 b i ∧ (x_dup M (true, 0, n) a).2.2.1 b i = M.2.2.1 b i ∧ (x_dup M (true, 0, n) a).2.2.2 b i = M.2.2.2 b i := by
    intro b i h
    simp only [x_dup, x_w, x_c]
    simp [h]
  refine va_clone (D := D) (x := (n, .inl (M.2.1 a))) (ty := .int) hx hb (by rw [hml]; exact hlr.2.1.1.symm) hown (hts _ (x_kT_ok _ hn)) (hts _ x_k1) (hts _ x_k2) (hts _ x_k3) (hts _ x_k4) (hU.2 _ (List.mem_of_getElem? (i := 13) rfl)) hU.1 hP hD hS hA a 0 (x_W_at hk) rfl (hU.1.2 0 _ rfl).2 (fun i v hv => ?_) hfr ?_ hc1 hc2 hd (fun q H1 qK q1 q2 q3 => ?_)
  · have hi : i < n := by
      have := (Array.getElem?_eq_some_iff.mp hv).1
      rwa [vp_cell_i, arrV_size] at this
    rw [vp_cell_i, arrV_read _ _ hi] at hv
    cases hv
    rfl
  · rw [x_cat_map]; omega
  · have hO : x_O (va_up ad M.1.length q) tC (x_dup M (true, 0, n) a) M.1.length (true, 0, n) = .inl (tC 0, n, .inl (M.2.1 a)) := by
      simp only [x_O]
      rw [if_pos (by omega)]
      congr 4
      funext j
      simp [x_dup, x_c]
    obtain ⟨y, ey⟩ := Y.grow (q := q) (H' := H1) (r := r) ⟨[.ref a], rfl⟩ hk1 hbut hg (by rw [hO]; exact q1) (by rw [hO]; exact q2) q3
    have h9 := kk _ H1 y
    rw [ey] at h9
    exact h9
end XSIH
