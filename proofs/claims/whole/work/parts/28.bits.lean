/-! Long.bitCount, by the rows of the kit -/
theorem x_lb0 : decode (x_b 142) 0 = .ok (.lload_n 0, 1) := by decide +kernel
theorem x_lb1 : decode (x_b 142) 1 = .ok (.lload_n 0, 1) := by decide +kernel
theorem x_lb2 : decode (x_b 142) 2 = .ok (.iconst 1, 1) := by decide +kernel
theorem x_lb3 : decode (x_b 142) 3 = .ok (.lushr, 1) := by decide +kernel
theorem x_lb4 : decode (x_b 142) 4 = .ok (.ldc2_w 314, 3) := by decide +kernel
theorem x_lb7 : decode (x_b 142) 7 = .ok (.land, 1) := by decide +kernel
theorem x_lb8 : decode (x_b 142) 8 = .ok (.lsub, 1) := by decide +kernel
theorem x_lb9 : decode (x_b 142) 9 = .ok (.lstore_n 0, 1) := by decide +kernel
theorem x_lb10 : decode (x_b 142) 10 = .ok (.lload_n 0, 1) := by decide +kernel
theorem x_lb11 : decode (x_b 142) 11 = .ok (.ldc2_w 316, 3) := by decide +kernel
theorem x_lb14 : decode (x_b 142) 14 = .ok (.land, 1) := by decide +kernel
theorem x_lb15 : decode (x_b 142) 15 = .ok (.lload_n 0, 1) := by decide +kernel
theorem x_lb16 : decode (x_b 142) 16 = .ok (.iconst 2, 1) := by decide +kernel
theorem x_lb17 : decode (x_b 142) 17 = .ok (.lushr, 1) := by decide +kernel
theorem x_lb18 : decode (x_b 142) 18 = .ok (.ldc2_w 316, 3) := by decide +kernel
theorem x_lb21 : decode (x_b 142) 21 = .ok (.land, 1) := by decide +kernel
theorem x_lb22 : decode (x_b 142) 22 = .ok (.ladd, 1) := by decide +kernel
theorem x_lb23 : decode (x_b 142) 23 = .ok (.lstore_n 0, 1) := by decide +kernel
theorem x_lb24 : decode (x_b 142) 24 = .ok (.lload_n 0, 1) := by decide +kernel
theorem x_lb25 : decode (x_b 142) 25 = .ok (.lload_n 0, 1) := by decide +kernel
theorem x_lb26 : decode (x_b 142) 26 = .ok (.iconst 4, 1) := by decide +kernel
theorem x_lb27 : decode (x_b 142) 27 = .ok (.lushr, 1) := by decide +kernel
theorem x_lb28 : decode (x_b 142) 28 = .ok (.ladd, 1) := by decide +kernel
theorem x_lb29 : decode (x_b 142) 29 = .ok (.ldc2_w 318, 3) := by decide +kernel
theorem x_lb32 : decode (x_b 142) 32 = .ok (.land, 1) := by decide +kernel
theorem x_lb33 : decode (x_b 142) 33 = .ok (.lstore_n 0, 1) := by decide +kernel
theorem x_lb34 : decode (x_b 142) 34 = .ok (.lload_n 0, 1) := by decide +kernel
theorem x_lb35 : decode (x_b 142) 35 = .ok (.lload_n 0, 1) := by decide +kernel
theorem x_lb36 : decode (x_b 142) 36 = .ok (.bipush 8, 2) := by decide +kernel
theorem x_lb38 : decode (x_b 142) 38 = .ok (.lushr, 1) := by decide +kernel
theorem x_lb39 : decode (x_b 142) 39 = .ok (.ladd, 1) := by decide +kernel
theorem x_lb40 : decode (x_b 142) 40 = .ok (.lstore_n 0, 1) := by decide +kernel
theorem x_lb41 : decode (x_b 142) 41 = .ok (.lload_n 0, 1) := by decide +kernel
theorem x_lb42 : decode (x_b 142) 42 = .ok (.lload_n 0, 1) := by decide +kernel
theorem x_lb43 : decode (x_b 142) 43 = .ok (.bipush 16, 2) := by decide +kernel
theorem x_lb45 : decode (x_b 142) 45 = .ok (.lushr, 1) := by decide +kernel
theorem x_lb46 : decode (x_b 142) 46 = .ok (.ladd, 1) := by decide +kernel
theorem x_lb47 : decode (x_b 142) 47 = .ok (.lstore_n 0, 1) := by decide +kernel
theorem x_lb48 : decode (x_b 142) 48 = .ok (.lload_n 0, 1) := by decide +kernel
theorem x_lb49 : decode (x_b 142) 49 = .ok (.lload_n 0, 1) := by decide +kernel
theorem x_lb50 : decode (x_b 142) 50 = .ok (.bipush 32, 2) := by decide +kernel
theorem x_lb52 : decode (x_b 142) 52 = .ok (.lushr, 1) := by decide +kernel
theorem x_lb53 : decode (x_b 142) 53 = .ok (.ladd, 1) := by decide +kernel
theorem x_lb54 : decode (x_b 142) 54 = .ok (.lstore_n 0, 1) := by decide +kernel
theorem x_lb55 : decode (x_b 142) 55 = .ok (.lload_n 0, 1) := by decide +kernel
theorem x_lb56 : decode (x_b 142) 56 = .ok (.l2i, 1) := by decide +kernel
theorem x_lb57 : decode (x_b 142) 57 = .ok (.bipush 127, 2) := by decide +kernel
theorem x_lb59 : decode (x_b 142) 59 = .ok (.iand, 1) := by decide +kernel
theorem x_lb60 : decode (x_b 142) 60 = .ok (.ireturn, 1) := by decide +kernel
set_option maxHeartbeats 4000000 in
set_option maxRecDepth 100000 in
theorem x_metB {l : Launch} {D : va_G} {tC : Nat → ClassId} (d : Nat) (M : xM) (x : Int64) : x_MetP l D tC d x_kB M [.long x] M (some (.int (x_bc x))) := by
  intro ad sz
  obtain ⟨g1, g2, -⟩ := x_g_ok 142 (by decide)
  refine va_MetF (cc := x_b 142) (maxL := 2) (ret := some .int) g2 rfl ?_
  intro p e s m args below meth c s₁ B hml hv
  obtain ⟨rfl, hsz, hP, hU, hD0⟩ := hv
  subst hsz
  have hx := B.exec
  have hb := B.bytes
  have hr := B.returns
  have hlocks := B.notSynchronized
  have hts0 := atoms_spec (ws := x_wk 142) B.pre
  have hts : ∀ w ∈ x_ws, w.before ([Value.long x].map (x_V ad)).toArray s = true := fun w hw => hts0 w (List.mem_cons_of_mem _ hw)
  have hown : s.vm.findClass (xR 12) = some m.cls := findClass_of_methodNamed B.named
  have hl := lv_entry ([.long x]) (n := 2) (Nat.le_of_ble_eq_true rfl)
  show W p l e _ s m _ below meth c s.heap [] 0 0 _ (entryFrame m ([.long x] : List Value).toArray 2)
  rw [lg_entry_eq]
  generalize (lg_sl ([.long x]) ++ List.replicate (2 - (lg_sl ([.long x])).length) Slot.unset).toArray = ls at hl ⊢
  have hl : lv_has ls 2 [(0, .long x)] := hl
  refine lv_lload_n hx hb x_lb0 rfl (lv_at hl 0 rfl) ?_
  refine lv_lload_n hx hb x_lb1 rfl (lv_at hl 0 rfl) ?_
  refine lv_iconst (v := 1) hx hb x_lb2 (by decide) ?_
  refine lv_lushr hx hb x_lb3 rfl ?_
  refine lv_ldc2 hx hb hown (hts _ x_L0) x_lb4 ?_
  refine lv_land hx hb x_lb7 ?_
  refine lv_lsub hx hb x_lb8 ?_
  refine lv_topl (fun a ea => ?_)
  have ea : a = x_bA x := ea
  refine lv_lstore_n hx hb x_lb9 rfl hl (by decide) rfl (fun ls hl => ?_)
  have hl : lv_has ls 2 [(0, .long a)] := hl
  refine lv_lload_n hx hb x_lb10 rfl (lv_at hl 0 rfl) ?_
  refine lv_ldc2 hx hb hown (hts _ x_L1) x_lb11 ?_
  refine lv_land hx hb x_lb14 ?_
  refine lv_lload_n hx hb x_lb15 rfl (lv_at hl 0 rfl) ?_
  refine lv_iconst (v := 2) hx hb x_lb16 (by decide) ?_
  refine lv_lushr hx hb x_lb17 rfl ?_
  refine lv_ldc2 hx hb hown (hts _ x_L1) x_lb18 ?_
  refine lv_land hx hb x_lb21 ?_
  refine lv_ladd hx hb x_lb22 ?_
  refine lv_topl (fun b eb => ?_)
  have eb : b = x_bB a := eb
  refine lv_lstore_n hx hb x_lb23 rfl hl (by decide) rfl (fun ls hl => ?_)
  have hl : lv_has ls 2 [(0, .long b)] := hl
  refine lv_lload_n hx hb x_lb24 rfl (lv_at hl 0 rfl) ?_
  refine lv_lload_n hx hb x_lb25 rfl (lv_at hl 0 rfl) ?_
  refine lv_iconst (v := 4) hx hb x_lb26 (by decide) ?_
  refine lv_lushr hx hb x_lb27 rfl ?_
  refine lv_ladd hx hb x_lb28 ?_
  refine lv_ldc2 hx hb hown (hts _ x_L2) x_lb29 ?_
  refine lv_land hx hb x_lb32 ?_
  refine lv_topl (fun cc ecc => ?_)
  have ecc : cc = x_bC b := ecc
  refine lv_lstore_n hx hb x_lb33 rfl hl (by decide) rfl (fun ls hl => ?_)
  have hl : lv_has ls 2 [(0, .long cc)] := hl
  refine lv_lload_n hx hb x_lb34 rfl (lv_at hl 0 rfl) ?_
  refine lv_lload_n hx hb x_lb35 rfl (lv_at hl 0 rfl) ?_
  refine lv_bipush (v := 8) hx hb x_lb36 (by decide) ?_
  refine lv_lushr hx hb x_lb38 rfl ?_
  refine lv_ladd hx hb x_lb39 ?_
  refine lv_topl (fun dd edd => ?_)
  have edd : dd = x_bD cc := edd
  refine lv_lstore_n hx hb x_lb40 rfl hl (by decide) rfl (fun ls hl => ?_)
  have hl : lv_has ls 2 [(0, .long dd)] := hl
  refine lv_lload_n hx hb x_lb41 rfl (lv_at hl 0 rfl) ?_
  refine lv_lload_n hx hb x_lb42 rfl (lv_at hl 0 rfl) ?_
  refine lv_bipush (v := 16) hx hb x_lb43 (by decide) ?_
  refine lv_lushr hx hb x_lb45 rfl ?_
  refine lv_ladd hx hb x_lb46 ?_
  refine lv_topl (fun ee eee => ?_)
  have eee : ee = x_bE dd := eee
  refine lv_lstore_n hx hb x_lb47 rfl hl (by decide) rfl (fun ls hl => ?_)
  have hl : lv_has ls 2 [(0, .long ee)] := hl
  refine lv_lload_n hx hb x_lb48 rfl (lv_at hl 0 rfl) ?_
  refine lv_lload_n hx hb x_lb49 rfl (lv_at hl 0 rfl) ?_
  refine lv_bipush (v := 32) hx hb x_lb50 (by decide) ?_
  refine lv_lushr hx hb x_lb52 rfl ?_
  refine lv_ladd hx hb x_lb53 ?_
  refine lv_topl (fun ff eff => ?_)
  have eff : ff = x_bF ee := eff
  refine lv_lstore_n hx hb x_lb54 rfl hl (by decide) rfl (fun ls hl => ?_)
  have hl : lv_has ls 2 [(0, .long ff)] := hl
  refine lv_lload_n hx hb x_lb55 rfl (lv_at hl 0 rfl) ?_
  refine lv_l2i hx hb x_lb56 rfl ?_
  refine lv_bipush (v := 127) hx hb x_lb57 (by decide) ?_
  refine lv_iand hx hb x_lb59 ?_
  have hcs : ∀ n : Nat, n - n = 0 := fun n => Nat.sub_self n
  have hfin : ff.toInt32 &&& 127 = x_bc x := by rw [eff, eee, edd, ecc, eb, ea]; rfl
  rw [hcs, hcs, hfin]
  exact W.iret (v := x_bc x) hx hb hr (fun t ht _ => ⟨ad, fun _ _ => rfl, rfl, by rw [ht]; exact hP, hD0.self, va_S.rf.F ht⟩) (fun _ h => by cases h) x_lb60
theorem x_snd {l : Launch} {D : va_G} {tC : Nat → ClassId} : ∀ d n k M as M1 v1, x_wM M → (∀ a ∈ as, x_wV M.1.length a) → x_go (d + 1) n k M as = some (M1, v1) → k < 146 ∧ x_MetP l D tC d k M as M1 v1 := x_sound (fun d M x _ => x_metB d M x)
