/-! the small machine's memory as cells of the heap -/
def x_kt : FieldType → Nat
  | .int => 0
  | .boolean => 1
  | .long => 2
  | _ => 3
def x_V (ad : Nat → Nat) : Value → Value
  | .ref i => .ref (ad i)
  | v => v
def x_F (ad : Nat → Nat) (M : xM) (a ci n : Nat) : List Value := (List.range n).map (fun j => x_V ad (x_fv (x_kt (xy ci j)) M a j))
def x_O (ad : Nat → Nat) (tC : Nat → ClassId) (M : xM) (a : Nat) : xK → va_E
  | (true, t, n) => .inl (tC t, n, if t < 2 then .inl (M.2.1 a) else .inr (.inr (.inr (.inr (fun j => (M.2.2.2 a j).map ad)))))
  | (false, ci, n) => .inr (ci, x_F ad M a ci n)
def x_W (ad : Nat → Nat) (tC : Nat → ClassId) (M : xM) : va_W := M.1.mapIdx (fun a k => (ad a, x_O ad tC M a k))
theorem x_W_at {ad : Nat → Nat} {tC : Nat → ClassId} {M : xM} {a : Nat} {k : xK} (h : M.1[a]? = some k) : (x_W ad tC M)[a]? = some (ad a, x_O ad tC M a k) := by
  simp [x_W, List.getElem?_mapIdx, h]
theorem x_V_cat (ad : Nat → Nat) (v : Value) : (x_V ad v).category = v.category := by cases v <;> rfl
theorem x_V_rf (ad : Nat → Nat) (r : Option Nat) : x_V ad (va_rf r) = va_rf (r.map ad) := by cases r <;> rfl
/-- another memory, the same but at one cell -/
def x_but (a : Nat) (M M' : xM) : Prop := M'.1 = M.1 ∧ ∀ b i, b ≠ a → M'.2.1 b i = M.2.1 b i ∧ M'.2.2.1 b i = M.2.2.1 b i ∧ M'.2.2.2 b i = M.2.2.2 b i
theorem x_fv_eq {ty : Nat} {M M' : xM} {a j : Nat} (h1 : M'.2.1 a j = M.2.1 a j) (h2 : M'.2.2.1 a j = M.2.2.1 a j) (h3 : M'.2.2.2 a j = M.2.2.2 a j) : x_fv ty M' a j = x_fv ty M a j := by
  unfold x_fv
  split <;> simp [h1, h2, h3]
theorem x_O_eq {ad : Nat → Nat} {tC : Nat → ClassId} {M M' : xM} {a : Nat} (h : ∀ i, M'.2.1 a i = M.2.1 a i ∧ M'.2.2.1 a i = M.2.2.1 a i ∧ M'.2.2.2 a i = M.2.2.2 a i) (k : xK) : x_O ad tC M' a k = x_O ad tC M a k := by
  obtain ⟨b, t, n⟩ := k
  cases b with
  | true =>
    have h1 : M'.2.1 a = M.2.1 a := funext fun i => (h i).1
    have h3 : M'.2.2.2 a = M.2.2.2 a := funext fun i => (h i).2.2
    simp only [x_O, h1, h3]
  | false =>
    simp only [x_O, x_F]
    congr 2
    apply List.map_congr_left
    intro j _
    rw [x_fv_eq (h j).1 (h j).2.1 (h j).2.2]
theorem x_W_but {ad : Nat → Nat} {tC : Nat → ClassId} {M M' : xM} {a : Nat} {k : xK} (hk : M.1[a]? = some k) (h : x_but a M M') : x_W ad tC M' = (x_W ad tC M).set a (ad a, x_O ad tC M' a k) := by
  apply List.ext_getElem?
  intro b
  by_cases hb : b = a
  · subst hb
    have hl : b < (x_W ad tC M).length := x_lt (x_W_at hk)
    rw [x_W_at (k := k) (by rw [h.1]; exact hk), List.getElem?_set_self hl]
  · rw [List.getElem?_set_ne (Ne.symm hb)]
    cases hq : M.1[b]? with
    | none => simp [x_W, List.getElem?_mapIdx, h.1, hq]
    | some kb => rw [x_W_at hq, x_W_at (k := kb) (by rw [h.1]; exact hq), x_O_eq (fun i => h.2 b i hb)]
theorem x_F_set {ad : Nat → Nat} {M M' : xM} {a ci n j : Nat} {v : Value} (hj : j < n) (hv : x_fv (x_kt (xy ci j)) M' a j = v) (h : ∀ i, i ≠ j → x_fv (x_kt (xy ci i)) M' a i = x_fv (x_kt (xy ci i)) M a i) : x_F ad M' a ci n = (x_F ad M a ci n).set j (x_V ad v) := by
  apply List.ext_getElem?
  intro i
  by_cases hi : i = j
  · subst hi
    rw [List.getElem?_set_self (by simp [x_F]; exact hj)]
    simp [x_F, hj, hv]
  · rw [List.getElem?_set_ne (Ne.symm hi)]
    by_cases hq : i < n
    · simp [x_F, hq, h i hi]
    · simp [x_F, hq]
/-- a cell more -/
theorem x_W_push {ad : Nat → Nat} {tC : Nat → ClassId} {M M' : xM} {k : xK} {q : Nat} (hw : x_wM M) (hk : M'.1 = M.1 ++ [k]) (h : ∀ b i, b ≠ M.1.length → M'.2.1 b i = M.2.1 b i ∧ M'.2.2.1 b i = M.2.2.1 b i ∧ M'.2.2.2 b i = M.2.2.2 b i) :
    x_W (va_up ad M.1.length q) tC M' = x_W ad tC M ++ [(q, x_O (va_up ad M.1.length q) tC M' M.1.length k)] := by
  have hV : ∀ (b i : Nat), (M.2.2.2 b i).map (va_up ad M.1.length q) = (M.2.2.2 b i).map ad := by
    intro b i
    cases hr : M.2.2.2 b i with
    | none => rfl
    | some z =>
      have := hw b i z hr
      simp [va_up_ne ad q (show z ≠ M.1.length by omega)]
  apply List.ext_getElem?
  intro b
  have hlen : (x_W ad tC M).length = M.1.length := by simp [x_W]
  rcases Nat.lt_trichotomy b M.1.length with hb | hb | hb
  · rw [List.getElem?_append_left (by rw [hlen]; exact hb)]
    obtain ⟨kb, hkb⟩ : ∃ kb, M.1[b]? = some kb := ⟨M.1[b], List.getElem?_eq_getElem hb⟩
    rw [x_W_at hkb, x_W_at (M := M') (k := kb) (by rw [hk, List.getElem?_append_left hb]; exact hkb), va_up_ne ad q (Nat.ne_of_lt hb), x_O_eq (fun i => h b i (Nat.ne_of_lt hb))]
    congr 2
    obtain ⟨bb, t, n⟩ := kb
    cases bb with
    | true => simp only [x_O, hV]
    | false =>
      simp only [x_O, x_F]
      congr 2
      apply List.map_congr_left
      intro j _
      unfold x_fv
      split
      · rfl
      · rfl
      · rfl
      · rw [x_V_rf, x_V_rf, hV]
  · subst hb
    rw [List.getElem?_append_right (by rw [hlen]; exact Nat.le_refl _), hlen, Nat.sub_self, x_W_at (k := k) (by rw [hk]; simp), va_up_self]
    rfl
  · rw [List.getElem?_append_right (by rw [hlen]; exact Nat.le_of_lt hb), hlen]
    have h1 : M'.1[b]? = none := by rw [hk]; simp; omega
    have h2 : ([(q, x_O (va_up ad M.1.length q) tC M' M.1.length k)] : va_W)[b - M.1.length]? = none := by simp; omega
    rw [h2]
    simp [x_W, List.getElem?_mapIdx, h1]
theorem x_V_up {ad : Nat → Nat} {n q : Nat} {v : Value} (h : x_wV n v) : x_V (va_up ad n q) v = x_V ad v := by
  cases v with
  | ref i => have := h i rfl; simp [x_V, va_up_ne ad q (Nat.ne_of_lt this)]
  | _ => rfl
/-- the locals -/
def x_lr (ad : Nat → Nat) (arr : Array Slot) (nL : Nat) (ls : xL) : Prop := ls.length = nL ∧ lv_has arr nL [] ∧ ∀ (i : Nat) (v : Value), ls[i]? = some (some v) → arr[i]? = some (Slot.val (x_V ad v))
def x_ll (ad : Nat → Nat) (ls : xL) : List (Nat × Value) := (List.range ls.length).filterMap (fun i => match ls[i]? with
  | some (some v) => some (i, x_V ad v)
  | _ => none)
theorem x_ll_mem {ad : Nat → Nat} {ls : xL} {i : Nat} {v : Value} (h : ls[i]? = some (some v)) : (i, x_V ad v) ∈ x_ll ad ls := by
  refine List.mem_filterMap.mpr ⟨i, List.mem_range.mpr (x_lt h), ?_⟩
  simp [h]
theorem x_ll_of {ad : Nat → Nat} {ls : xL} {q : Nat × Value} (h : q ∈ x_ll ad ls) : ∃ v, ls[q.1]? = some (some v) ∧ q.2 = x_V ad v := by
  obtain ⟨i, -, hi⟩ := List.mem_filterMap.mp h
  split at hi
  · rename_i v hv
    cases hi
    exact ⟨v, hv, rfl⟩
  · cases hi
theorem x_lr.has {ad : Nat → Nat} {arr : Array Slot} {nL : Nat} {ls : xL} (h : x_lr ad arr nL ls) : lv_has arr nL (x_ll ad ls) :=
  ⟨h.2.1.1, h.2.1.2.1, fun q hq => by
    obtain ⟨v, h1, h2⟩ := x_ll_of hq
    rw [h2]
    exact h.2.2 _ _ h1⟩
theorem x_lr.store {ad : Nat → Nat} {arr' : Array Slot} {nL i : Nat} {ls : xL} {v : Value} {lv : List (Nat × Value)} (hl : ls.length = nL) (hi : i < nL) (hc : ∀ w, some w ∈ ls → w.category = 1) (hs : ∀ q ∈ x_ll ad ls, q ∈ lv)
    (h : lv_has arr' nL ((i, x_V ad v) :: lv.filter (fun q => !(q.1 == i) && !(q.1 + 1 == i && q.2.category == 2)))) : x_lr ad arr' nL (ls.set i (some v)) := by
  refine ⟨by simp [hl], ⟨h.1, h.2.1, fun q hq => by cases hq⟩, fun j w hj => ?_⟩
  by_cases hij : j = i
  · subst hij
    rw [List.getElem?_set_self (by rw [hl]; exact hi)] at hj
    cases hj
    exact h.2.2 _ List.mem_cons_self
  · rw [List.getElem?_set_ne (Ne.symm hij)] at hj
    refine h.2.2 (j, x_V ad w) (List.mem_cons_of_mem _ (List.mem_filter.mpr ⟨hs _ (x_ll_mem hj), ?_⟩))
    have hcw : (x_V ad w).category = 1 := by rw [x_V_cat]; exact hc w (List.mem_of_getElem? hj)
    simp [hij, hcw]
theorem x_lr.up {ad : Nat → Nat} {arr : Array Slot} {nL n q : Nat} {ls : xL} (h : x_lr ad arr nL ls) (hw : ∀ v, some v ∈ ls → x_wV n v) : x_lr (va_up ad n q) arr nL ls :=
  ⟨h.1, h.2.1, fun i v hv => by rw [x_V_up (hw v (List.mem_of_getElem? hv))]; exact h.2.2 i v hv⟩
/-- a frame's first locals -/
theorem x_en_lr {ad : Nat → Nat} {nL : Nat} {as : List Value} {ls : xL} (h : x_en nL as = some ls) (m : MethodId) : ∃ arr, entryFrame m (as.map (x_V ad)).toArray nL = F0 m 0 arr [] ∧ x_lr ad arr nL ls := by
  unfold x_en at h
  split at h
  · rename_i hc
    cases h
    have hsl : ∀ (vs : List Value), (∀ v ∈ vs, v.category = 1) → lg_sl (vs.map (x_V ad)) = vs.map (fun v => Slot.val (x_V ad v)) := by
      intro vs
      induction vs with
      | nil => intro _; rfl
      | cons v vs ih =>
        intro hv
        have h1 : (x_V ad v).category = 1 := by rw [x_V_cat]; exact hv v List.mem_cons_self
        have h2 := ih (fun w hw => hv w (List.mem_cons_of_mem _ hw))
        unfold lg_sl at h2 ⊢
        simp only [List.map_cons, List.flatMap_cons, h1, h2]
        rfl
    have hlen : (lg_sl (as.map (x_V ad))).length = as.length := by rw [hsl as hc.2]; simp
    have he := lv_entry (as.map (x_V ad)) (n := nL) (by rw [hlen]; exact hc.1)
    refine ⟨_, lg_entry_eq m (as.map (x_V ad)) nL, by simp; omega, ⟨he.1, he.2.1, fun q hq => by cases hq⟩, fun i v hv => ?_⟩
    have hi : i < as.length := by
      rcases Nat.lt_or_ge i as.length with h1 | h1
      · exact h1
      · rw [List.getElem?_append_right (by simpa using h1)] at hv
        exact absurd (List.eq_of_mem_replicate (List.mem_of_getElem? hv)) (by simp)
    rw [List.getElem?_append_left (by simpa using hi), List.getElem?_map] at hv
    have hv2 : as[i]? = some v := by
      cases hq : as[i]? with
      | none => rw [hq] at hv; simp at hv
      | some z => rw [hq] at hv; simp at hv; rw [hv]
    rw [List.getElem?_toArray, hsl as hc.2, List.getElem?_append_left (by simpa using hi), List.getElem?_map, hv2]
    rfl
  · cases h
def x_tys (tC : Nat → ClassId) : List (ClassId × FieldType) := [(tC 0, x_ty 0), (tC 1, x_ty 1), (tC 2, x_ty 2), (tC 3, x_ty 3), (tC 4, x_ty 4)]
def x_U (D : va_G) (tC : Nat → ClassId) (U : State) : Prop := va_K D xcl (x_tys tC) U ∧ ∀ w ∈ x_nl, va_Nw w U
theorem x_nl_warm {s U : State} (hW : s.WarmedH U.vm) : ∀ w ∈ x_nl, va_Nw w s → va_Nw w U := List.forall_mem_cons.mpr ⟨fun h => va_Nw.warmM hW h, List.forall_mem_cons.mpr ⟨fun h => va_Nw.warmM hW h, List.forall_mem_cons.mpr ⟨fun h => va_Nw.warmM hW h, List.forall_mem_cons.mpr ⟨fun h => va_Nw.warmM hW h, List.forall_mem_cons.mpr ⟨fun h => va_Nw.warmM hW h, List.forall_mem_cons.mpr ⟨fun h => va_Nw.warmM hW h, List.forall_mem_cons.mpr ⟨fun h => va_Nw.warmM hW h, List.forall_mem_cons.mpr ⟨fun h => va_Nw.warmM hW h, List.forall_mem_cons.mpr ⟨fun h => va_Nw.warmM hW h, List.forall_mem_cons.mpr ⟨fun h => va_Nw.warmM hW h, List.forall_mem_cons.mpr ⟨fun h => va_AO.moved hW.alike h, List.forall_mem_cons.mpr ⟨fun h => va_AO.moved hW.alike h, List.forall_mem_cons.mpr ⟨fun h => va_AO.moved hW.alike h, List.forall_mem_cons.mpr ⟨fun h => va_Nw.warmC hW h, fun _ h => absurd h List.not_mem_nil⟩⟩⟩⟩⟩⟩⟩⟩⟩⟩⟩⟩⟩⟩
theorem x_nl_call {U : State} {g : JFrame} {mk : MethodId} {a : Array Value} : ∀ w ∈ x_nl, va_Nw w U → va_Nw w (U.calling g mk a) := List.forall_mem_cons.mpr ⟨fun h => va_Nw.same (u := U) (U := U.calling g mk a) rfl rfl h, List.forall_mem_cons.mpr ⟨fun h => va_Nw.same (u := U) (U := U.calling g mk a) rfl rfl h, List.forall_mem_cons.mpr ⟨fun h => va_Nw.same (u := U) (U := U.calling g mk a) rfl rfl h, List.forall_mem_cons.mpr ⟨fun h => va_Nw.same (u := U) (U := U.calling g mk a) rfl rfl h, List.forall_mem_cons.mpr ⟨fun h => va_Nw.same (u := U) (U := U.calling g mk a) rfl rfl h, List.forall_mem_cons.mpr ⟨fun h => va_Nw.same (u := U) (U := U.calling g mk a) rfl rfl h, List.forall_mem_cons.mpr ⟨fun h => va_Nw.same (u := U) (U := U.calling g mk a) rfl rfl h, List.forall_mem_cons.mpr ⟨fun h => va_Nw.same (u := U) (U := U.calling g mk a) rfl rfl h, List.forall_mem_cons.mpr ⟨fun h => va_Nw.same (u := U) (U := U.calling g mk a) rfl rfl h, List.forall_mem_cons.mpr ⟨fun h => va_Nw.same (u := U) (U := U.calling g mk a) rfl rfl h, List.forall_mem_cons.mpr ⟨fun h => va_AO.moved (u := U) (U := U.calling g mk a) (Vm.Alike.refl U.vm) h, List.forall_mem_cons.mpr ⟨fun h => va_AO.moved (u := U) (U := U.calling g mk a) (Vm.Alike.refl U.vm) h, List.forall_mem_cons.mpr ⟨fun h => va_AO.moved (u := U) (U := U.calling g mk a) (Vm.Alike.refl U.vm) h, List.forall_mem_cons.mpr ⟨fun h => va_Nw.same (u := U) (U := U.calling g mk a) rfl rfl h, fun _ h => absurd h List.not_mem_nil⟩⟩⟩⟩⟩⟩⟩⟩⟩⟩⟩⟩⟩⟩
theorem x_U.warm {D : va_G} {tC : Nat → ClassId} {s U : State} (hW : s.WarmedH U.vm) (h : x_U D tC s) : x_U D tC U := ⟨va_K.moved hW.alike h.1, fun w hw => x_nl_warm hW w hw (h.2 w hw)⟩
theorem x_U.call {D : va_G} {tC : Nat → ClassId} {U : State} {g : JFrame} {mk : MethodId} {a : Array Value} (h : x_U D tC U) : x_U D tC (U.calling g mk a) :=
  ⟨va_K.moved (u := U) (U := U.calling g mk a) (Vm.Alike.refl U.vm) h.1, fun w hw => x_nl_call w hw (h.2 w hw)⟩
