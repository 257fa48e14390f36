/-- from the entry, for every script of at most 2048 ints, the law comes to its end with true -/
theorem whole_start {p : Program} {e : Env} {s : State} {m : MethodId} {below : List Frame} {meth : Method} {c : Code} (l : Launch) {b L : Nat} {xs : Nat → Int32} (hL : L ≤ 2048) (C0 : lw_At p s m meth c b L xs) : W p l e room_1 s m #[Value.ref b] below meth c s.heap [] 0 0 (lw_Z below #[Value.ref b] s) (entryFrame m ([Value.ref b] : List Value).toArray 4) := by
  obtain ⟨hx, hb, hr, hml, hown, hts, hX, hbl, hlk, -⟩ := C0
  obtain ⟨D, tC, hU⟩ := x_start hts
  have F : lw_Fx p s m c D tC b := ⟨hx, hb, hml, hown, fun w hw => hts w (List.mem_filter.mp hw).1, hU⟩
  obtain ⟨Ma, M, g1, g2, ka, k0, hSt⟩ := St.zero
  have la : Ma.1.length = 74 := by rw [ka]; rfl
  have sa : x_sz Ma ≤ 10000 := by unfold x_sz; rw [ka]; decide +kernel
  have l0 : M.1.length = 108 := by rw [k0]; rfl
  have s0 : x_sz M ≤ 10000 := by unfold x_sz; rw [k0]; decide +kernel
  have lb : (x_new Ma (false, 10, 42)).1.length = 75 := by show (Ma.1 ++ [(false, 10, 42)]).length = 75; rw [List.length_append, la]; rfl
  have hl := lv_entry ([.ref b]) (n := 4) (Nat.le_of_ble_eq_true rfl)
  rw [lg_entry_eq]
  generalize (lg_sl ([.ref b]) ++ List.replicate (4 - (lg_sl ([.ref b])).length) Slot.unset).toArray = arr at hl ⊢
  have hl : lv_has arr 4 [(0, .ref b)] := hl
  have Y0 : lw_Y D tC s (fun _ => 0) x_M0 s.heap [] := ⟨fun a j i h => (by cases h), fun k q h => (by simp [x_W, x_M0] at h), ⟨fun i j p q h => (by simp [x_W, x_M0] at h), fun k q h => (by simp [x_W, x_M0] at h)⟩, va_S.rf⟩
  show W p l e room_1 s m #[Value.ref b] below meth c s.heap [] x_M0.1.length (x_sz x_M0) _ _
  refine lw_new (M := x_M0) (ci := 9) F Y0 lw_d0 lw_kn1 (by omega) ⟨by decide +kernel, by decide +kernel⟩ (fun ad1 H1 hag1 Y1 => ?_)
  refine lv_dup hx hb lw_d3 rfl ?_
  refine lw_init (k := 73) (a := 0) (M := x_Mi) (ad := ad1) (nn := 4000) F Y1 lw_d4 lw_ki1 (by omega) rfl rfl rfl (by decide) (show x_go 9 4000 73 x_Mi [.ref 0] = some (Ma, none) from g1) ⟨by omega, by omega⟩ hl.1 (Nat.le_of_ble_eq_true rfl) (fun ad2 H2 locs2 hag2 Y2 => ?_)
  refine lv_astore_n hx hb lw_d7 rfl hl (by decide) rfl (fun ls1 hl1 => ?_)
  have hl1 : lv_has ls1 4 [(1, .ref (ad1 0)), (0, .ref b)] := hl1
  refine lw_new (M := Ma) (ci := 10) F Y2 lw_d8 lw_kn2 (by omega) ⟨by omega, Nat.le_trans (Nat.add_le_add_right sa _) (by decide +kernel)⟩ (fun ad3 H3 hag3 Y3 => ?_)
  rw [la]
  refine lv_dup hx hb lw_d11 rfl ?_
  refine lw_init (k := 95) (a := 74) (M := x_new Ma (false, 10, 42)) (ad := ad3) (nn := 20000) F Y3 lw_d12 lw_ki2 (by omega) rfl rfl rfl (by omega) (show x_go 9 20000 95 (x_new Ma (false, 10, 42)) [.ref 74] = some (M, none) from g2) ⟨by omega, by omega⟩ hl1.1 (Nat.le_of_ble_eq_true rfl) (fun ad4 H4 locs4 hag4 Y4 => ?_)
  refine lv_astore_n hx hb lw_d15 rfl hl1 (by decide) rfl (fun ls2 hl2 => ?_)
  have hl2 : lv_has ls2 4 [(2, .ref (ad3 74)), (1, .ref (ad1 0)), (0, .ref b)] := hl2
  refine lv_iconst (v := 0) hx hb lw_d16 (by decide +kernel) ?_
  refine lv_istore_n hx hb lw_d17 rfl hl2 (by decide) rfl (fun ls3 hl3 => ?_)
  have hl3 : lv_has ls3 4 [(3, .int (nI 0)), (2, .ref (ad3 74)), (1, .ref (ad1 0)), (0, .ref b)] := hl3
  refine lw_loop F hX hbl hL hr hlk 512 0 0 0 (x_C0 M.2.1) M ad4 H4 locs4 ls3 (by omega) (by omega) (by omega) (by omega) (by omega) hSt Y4 ?_
  have e0 : ad4 0 = ad1 0 := (hag4 0 (by omega)).trans ((hag3 0 (by omega)).trans (hag2 0 (by decide)))
  have e74 : ad4 74 = ad3 74 := hag4 74 (by omega)
  rw [e0, e74]
  exact lv_sub hl3 [3, 2, 1, 0] rfl
