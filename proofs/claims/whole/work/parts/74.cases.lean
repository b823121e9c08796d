-- the law's cases
def lNx (g : sm_G) (p : Program) (l : Launch) (e : Env) (s : State) (m : MethodId) (below : List Frame) (meth : Method) (c : Code) (b : Nat) (i : Nat) (n : Nat × Nat) : Prop :=
  ∀ (M : sm_M) (f : Nat → Int64) (H : Heap) (locs : List Loc) (ls : Array Slot), INV M → va_P g.1 sm_Cl (lwo g M f) H → va_S (A1 g) s.heap H locs → lv_has ls 7 (lvi g b i) → lW p l e s m below meth c b H locs n (F0 m 596 ls [])
section
variable {p : Program} {l : Launch} {e : Env} {s : State} {m : MethodId} {below : List Frame} {meth : Method} {c : Code} {b L : Nat} {xs : Nat → Int32} {g : sm_G}
theorem l_thr (hC : lCx g p e s m meth c b L xs) {H : Heap} {locs : List Loc} {n : Nat × Nat} (hn : n.1 ≤ 1091 ∧ n.2 ≤ 30369) {M : sm_M} {f : Nat → Int64} (hP : va_P g.1 sm_Cl (lwo g M f) H) (hS : va_S (A1 g) s.heap H locs) (hI : INV M) {k r : Int32} (hk : M.1 35 0 = k) (h0 : k = 0 → f 0 = r.toInt64)
    {i : Nat} {ls : Array Slot} (hl : lv_has ls 7 (lvi g b i ++ [(5, .int k), (6, .int r)])) {pc : Nat} (N : lNx g p l e s m below meth c b i n)
    (d0 : decode code pc = .ok (.aload_n 2, 1)) (d1 : decode code (pc + 1) = .ok (.invokevirtual 43, 3)) (d4 : decode code (pc + 4) = .ok (.iload 5, 2)) (d6 : decode code (pc + 6) = .ok (.if_icmp .eq 5, 3)) (d11 : decode code (pc + 11) = .ok (.iload 5, 2)) (d13 : decode code (pc + 13) = .ok (.ifCond .ne 15, 3))
    (d16 : decode code (pc + 16) = .ok (.aload_n 3, 1)) (d17 : decode code (pc + 17) = .ok (.iconst 0, 1)) (d18 : decode code (pc + 18) = .ok (.laload, 1)) (d19 : decode code (pc + 19) = .ok (.iload 6, 2)) (d21 : decode code (pc + 21) = .ok (.i2l, 1)) (d22 : decode code (pc + 22) = .ok (.lcmp, 1)) (d23 : decode code (pc + 23) = .ok (.ifCond .eq 5, 3))
    {off : Int} (d28 : decode code (pc + 28) = .ok (.goto off, 3)) (ht : ((pc + 28 : Nat) : Int) + off = ((596 : Nat) : Int)) : lW p l e s m below meth c b H locs n (F0 m pc ls []) := by
  obtain ⟨hx, htr, hb, hml, hown, hX, hxs, hbg, hgs, hL, hr, hlk⟩ := id hC
  have fin : ∀ (H' : Heap) (locs' : List Loc), va_P g.1 sm_Cl (lwo g M f) H' → va_S (A1 g) s.heap H' locs' → lW p l e s m below meth c b H' locs' n (F0 m (pc + 28) ls []) := fun H' locs' hP' hS' =>
    lv_goto hx hb d28 ht (N M f H' locs' ls hI hP' hS' (lv_sub hl [0, 1, 2, 3, 4] rfl))
  refine lv_aload_n (i := 2) hx hb d0 rfl (lv_at hl 2 rfl) ?_
  refine l_call (As := []) (st := []) hC hn hP hS rfl (c_thrown rfl) (w := 28) rfl rfl rfl hl.1 (by decide) d1 (fun o M' H' locs' hq hP' hS' => ?_)
  obtain ⟨rfl, hM⟩ := hq
  rw [hM] at hP'
  refine lv_iload hx hb d4 (lv_at hl 5 rfl) ?_
  refine lv_icmp_eq (x := M.1 35 0) (rest := []) (tgt := pc + 11) hx hb d6 (by omega) (fun _ => ?_) (fun z => absurd hk z)
  refine lv_iload hx hb d11 (lv_at hl 5 rfl) ?_
  refine lv_if_ne (tgt := pc + 28) hx hb d13 (by omega) (fun _ => fin H' locs' hP' hS') (fun z => ?_)
  refine lv_aload_n (i := 3) hx hb d16 rfl (lv_at hl 3 rfl) ?_
  refine lv_iconst (v := 0) hx hb d17 rfl ?_
  refine va_lald hx hb hX.2.2.1 hP' 59 2 lwo_o rfl (i := 0) (by unfold vp_in; decide) d18 ?_
  refine lv_iload hx hb d19 (lv_at hl 6 rfl) ?_
  refine lv_i2l hx hb d21 rfl ?_
  refine W.lcmp hx hb d22 ?_
  refine lv_if_eq (tgt := pc + 28) hx hb d23 (by omega) (fun _ => fin H' locs' hP' hS') (fun z2 => absurd ?_ z2)
  have e0 : f (0 : Int32).toNatClampNeg = r.toInt64 := h0 z
  rw [e0]; unfold lg_cmp
  rw [if_neg (by simp), if_pos rfl]
end
theorem lc_1 {p : Program} {l : Launch} {e : Env} {s : State} {m : MethodId} {below : List Frame} {meth : Method} {c : Code} {b L : Nat} {xs : Nat → Int32} {g : sm_G} (hC : lCx g p e s m meth c b L xs) {H : Heap} {locs : List Loc} {n : Nat × Nat} (hn : n.1 + 1 ≤ 1091 ∧ n.2 + 6 ≤ 30369) {M : sm_M} {f : Nat → Int64} (hI : INV M) (hP : va_P g.1 sm_Cl (lwo g M f) H) (hS : va_S (A1 g) s.heap H locs) {i : Nat} (hi : i + 5 ≤ L) {ls : Array Slot} (hl : lv_has ls 7 (lvi g b i)) (N : lNx g p l e s m below meth c b i (n.1 + 1, n.2 + 6)) : lW p l e s m below meth c b H locs n (F0 m 196 ls []) := by
  obtain ⟨hx, htr, hb, hml, hown, hX, hxs, hbg, hgs, hL, hr, hlk⟩ := id hC
  have hn' : n.1 ≤ 1091 ∧ n.2 ≤ 30369 := by omega
  refine lv_aload_n (i := 1) hx hb dd_law_196 rfl (lv_at hl 1 rfl) ?_
  refine l_call (q := 0) (As := []) (st := []) hC hn' hP hS rfl (p_clear hI) (w := 29) rfl rfl rfl hl.1 (by decide) dd_law_197 (fun o1 M1 H1 locs1 hq hP1 hS1 => ?_)
  obtain ⟨r, rfl, h2⟩ := hq
  refine lv_aload_n (i := 2) hx hb dd_law_200 rfl (lv_at hl 2 rfl) ?_
  refine l_call (q := 35) (As := []) (st := [.int r]) hC hn' hP1 hS1 rfl h2 (w := 30) rfl rfl rfl hl.1 (Nat.le_of_ble_eq_true rfl) dd_law_201 (fun o2 M2 H2 locs2 hq hP2 hS2 => ?_)
  obtain ⟨rfl, hI2⟩ := hq
  refine lv_icmp_eq (x := r) (y := r) (rest := []) (tgt := 596) hx hb dd_law_204 (by decide) (fun _ => ?_) (fun z => absurd rfl z)
  exact W.widen (Nat.le_succ _) (Nat.le_add_right _ _) (N M2 f H2 locs2 ls hI2 hP2 hS2 hl)
theorem lc_2 {p : Program} {l : Launch} {e : Env} {s : State} {m : MethodId} {below : List Frame} {meth : Method} {c : Code} {b L : Nat} {xs : Nat → Int32} {g : sm_G} (hC : lCx g p e s m meth c b L xs) {H : Heap} {locs : List Loc} {n : Nat × Nat} (hn : n.1 + 1 ≤ 1091 ∧ n.2 + 6 ≤ 30369) {M : sm_M} {f : Nat → Int64} (hI : INV M) (hP : va_P g.1 sm_Cl (lwo g M f) H) (hS : va_S (A1 g) s.heap H locs) {i : Nat} (hi : i + 5 ≤ L) {ls : Array Slot} (hl : lv_has ls 7 (lvi g b i)) (N : lNx g p l e s m below meth c b i (n.1 + 1, n.2 + 6)) : lW p l e s m below meth c b H locs n (F0 m 209 ls []) := by
  obtain ⟨hx, htr, hb, hml, hown, hX, hxs, hbg, hgs, hL, hr, hlk⟩ := id hC
  have hn' : n.1 ≤ 1091 ∧ n.2 ≤ 30369 := by omega
  refine lv_aload_n (i := 1) hx hb dd_law_209 rfl (lv_at hl 1 rfl) ?_
  refine l_read (j := 1) hC hS hl (by omega) dd_law_210 dd_law_211 dd_law_213 dd_law_214 dd_law_215 ?_
  refine l_read (j := 2) hC hS hl (by omega) dd_law_216 dd_law_217 dd_law_219 dd_law_220 dd_law_221 ?_
  refine l_call (q := 0) (As := [.int (xs (i + 1)), .int (xs (i + 2))]) (st := []) hC hn' hP hS rfl (p_live hI) (w := 31) rfl rfl rfl hl.1 (by decide) dd_law_222 (fun o1 M1 H1 locs1 hq hP1 hS1 => ?_)
  obtain ⟨r, rfl, h2⟩ := hq
  refine lv_aload_n (i := 2) hx hb dd_law_225 rfl (lv_at hl 2 rfl) ?_
  refine l_read (j := 1) hC hS1 hl (by omega) dd_law_226 dd_law_227 dd_law_229 dd_law_230 dd_law_231 ?_
  refine l_read (j := 2) hC hS1 hl (by omega) dd_law_232 dd_law_233 dd_law_235 dd_law_236 dd_law_237 ?_
  refine l_call (q := 35) (As := [.int (xs (i + 1)), .int (xs (i + 2))]) (st := [.int r]) hC hn' hP1 hS1 rfl h2 (w := 32) rfl rfl rfl hl.1 (Nat.le_of_ble_eq_true rfl) dd_law_238 (fun o2 M2 H2 locs2 hq hP2 hS2 => ?_)
  obtain ⟨rfl, hI2⟩ := hq
  refine lv_icmp_eq (x := r) (y := r) (rest := []) (tgt := 596) hx hb dd_law_241 (by decide) (fun _ => ?_) (fun z => absurd rfl z)
  exact W.widen (Nat.le_succ _) (Nat.le_add_right _ _) (N M2 f H2 locs2 ls hI2 hP2 hS2 hl)
theorem lc_4 {p : Program} {l : Launch} {e : Env} {s : State} {m : MethodId} {below : List Frame} {meth : Method} {c : Code} {b L : Nat} {xs : Nat → Int32} {g : sm_G} (hC : lCx g p e s m meth c b L xs) {H : Heap} {locs : List Loc} {n : Nat × Nat} (hn : n.1 + 1 ≤ 1091 ∧ n.2 + 6 ≤ 30369) {M : sm_M} {f : Nat → Int64} (hI : INV M) (hP : va_P g.1 sm_Cl (lwo g M f) H) (hS : va_S (A1 g) s.heap H locs) {i : Nat} (hi : i + 5 ≤ L) {ls : Array Slot} (hl : lv_has ls 7 (lvi g b i)) (N : lNx g p l e s m below meth c b i (n.1 + 1, n.2 + 6)) : lW p l e s m below meth c b H locs n (F0 m 302 ls []) := by
  obtain ⟨hx, htr, hb, hml, hown, hX, hxs, hbg, hgs, hL, hr, hlk⟩ := id hC
  have hn' : n.1 ≤ 1091 ∧ n.2 ≤ 30369 := by omega
  refine lv_aload_n (i := 1) hx hb dd_law_302 rfl (lv_at hl 1 rfl) ?_
  refine l_call (q := 0) (As := []) (st := []) hC hn' hP hS rfl (p_lines hI) (w := 34) rfl rfl rfl hl.1 (by decide) dd_law_303 (fun o1 M1 H1 locs1 hq hP1 hS1 => ?_)
  obtain ⟨r, rfl, h2⟩ := hq
  refine lv_aload_n (i := 2) hx hb dd_law_306 rfl (lv_at hl 2 rfl) ?_
  refine l_call (q := 35) (As := []) (st := [.int r]) hC hn' hP1 hS1 rfl h2 (w := 35) rfl rfl rfl hl.1 (Nat.le_of_ble_eq_true rfl) dd_law_307 (fun o2 M2 H2 locs2 hq hP2 hS2 => ?_)
  obtain ⟨rfl, hI2⟩ := hq
  refine lv_icmp_eq (x := r) (y := r) (rest := []) (tgt := 596) hx hb dd_law_310 (by decide) (fun _ => ?_) (fun z => absurd rfl z)
  exact W.widen (Nat.le_succ _) (Nat.le_add_right _ _) (N M2 f H2 locs2 ls hI2 hP2 hS2 hl)
theorem lc_6 {p : Program} {l : Launch} {e : Env} {s : State} {m : MethodId} {below : List Frame} {meth : Method} {c : Code} {b L : Nat} {xs : Nat → Int32} {g : sm_G} (hC : lCx g p e s m meth c b L xs) {H : Heap} {locs : List Loc} {n : Nat × Nat} (hn : n.1 + 1 ≤ 1091 ∧ n.2 + 6 ≤ 30369) {M : sm_M} {f : Nat → Int64} (hI : INV M) (hP : va_P g.1 sm_Cl (lwo g M f) H) (hS : va_S (A1 g) s.heap H locs) {i : Nat} (hi : i + 5 ≤ L) {ls : Array Slot} (hl : lv_has ls 7 (lvi g b i)) (N : lNx g p l e s m below meth c b i (n.1 + 1, n.2 + 6)) : lW p l e s m below meth c b H locs n (F0 m 383 ls []) := by
  obtain ⟨hx, htr, hb, hml, hown, hX, hxs, hbg, hgs, hL, hr, hlk⟩ := id hC
  have hn' : n.1 ≤ 1091 ∧ n.2 ≤ 30369 := by omega
  refine lv_aload_n (i := 1) hx hb dd_law_383 rfl (lv_at hl 1 rfl) ?_
  refine l_call (q := 0) (As := []) (st := []) hC hn' hP hS rfl (p_slots hI) (w := 37) rfl rfl rfl hl.1 (by decide) dd_law_384 (fun o1 M1 H1 locs1 hq hP1 hS1 => ?_)
  obtain ⟨r, rfl, h2⟩ := hq
  refine lv_aload_n (i := 2) hx hb dd_law_387 rfl (lv_at hl 2 rfl) ?_
  refine l_call (q := 35) (As := []) (st := [.int r]) hC hn' hP1 hS1 rfl h2 (w := 38) rfl rfl rfl hl.1 (Nat.le_of_ble_eq_true rfl) dd_law_388 (fun o2 M2 H2 locs2 hq hP2 hS2 => ?_)
  obtain ⟨rfl, hI2⟩ := hq
  refine lv_icmp_eq (x := r) (y := r) (rest := []) (tgt := 596) hx hb dd_law_391 (by decide) (fun _ => ?_) (fun z => absurd rfl z)
  exact W.widen (Nat.le_succ _) (Nat.le_add_right _ _) (N M2 f H2 locs2 ls hI2 hP2 hS2 hl)
theorem lc_7 {p : Program} {l : Launch} {e : Env} {s : State} {m : MethodId} {below : List Frame} {meth : Method} {c : Code} {b L : Nat} {xs : Nat → Int32} {g : sm_G} (hC : lCx g p e s m meth c b L xs) {H : Heap} {locs : List Loc} {n : Nat × Nat} (hn : n.1 + 1 ≤ 1091 ∧ n.2 + 6 ≤ 30369) {M : sm_M} {f : Nat → Int64} (hI : INV M) (hP : va_P g.1 sm_Cl (lwo g M f) H) (hS : va_S (A1 g) s.heap H locs) {i : Nat} (hi : i + 5 ≤ L) {ls : Array Slot} (hl : lv_has ls 7 (lvi g b i)) (N : lNx g p l e s m below meth c b i (n.1 + 1, n.2 + 6)) : lW p l e s m below meth c b H locs n (F0 m 396 ls []) := by
  obtain ⟨hx, htr, hb, hml, hown, hX, hxs, hbg, hgs, hL, hr, hlk⟩ := id hC
  have hn' : n.1 ≤ 1091 ∧ n.2 ≤ 30369 := by omega
  refine lv_aload_n (i := 1) hx hb dd_law_396 rfl (lv_at hl 1 rfl) ?_
  refine l_call (q := 0) (As := []) (st := []) hC hn' hP hS rfl (p_joined hI) (w := 39) rfl rfl rfl hl.1 (by decide) dd_law_397 (fun o1 M1 H1 locs1 hq hP1 hS1 => ?_)
  obtain ⟨r, rfl, h2⟩ := hq
  refine lv_aload_n (i := 2) hx hb dd_law_400 rfl (lv_at hl 2 rfl) ?_
  refine l_call (q := 35) (As := []) (st := [.int r]) hC hn' hP1 hS1 rfl h2 (w := 40) rfl rfl rfl hl.1 (Nat.le_of_ble_eq_true rfl) dd_law_401 (fun o2 M2 H2 locs2 hq hP2 hS2 => ?_)
  obtain ⟨rfl, hI2⟩ := hq
  refine lv_icmp_eq (x := r) (y := r) (rest := []) (tgt := 596) hx hb dd_law_404 (by decide) (fun _ => ?_) (fun z => absurd rfl z)
  exact W.widen (Nat.le_succ _) (Nat.le_add_right _ _) (N M2 f H2 locs2 ls hI2 hP2 hS2 hl)
theorem lc_8 {p : Program} {l : Launch} {e : Env} {s : State} {m : MethodId} {below : List Frame} {meth : Method} {c : Code} {b L : Nat} {xs : Nat → Int32} {g : sm_G} (hC : lCx g p e s m meth c b L xs) {H : Heap} {locs : List Loc} {n : Nat × Nat} (hn : n.1 + 1 ≤ 1091 ∧ n.2 + 6 ≤ 30369) {M : sm_M} {f : Nat → Int64} (hI : INV M) (hP : va_P g.1 sm_Cl (lwo g M f) H) (hS : va_S (A1 g) s.heap H locs) {i : Nat} (hi : i + 5 ≤ L) {ls : Array Slot} (hl : lv_has ls 7 (lvi g b i)) (N : lNx g p l e s m below meth c b i (n.1 + 1, n.2 + 6)) : lW p l e s m below meth c b H locs n (F0 m 409 ls []) := by
  obtain ⟨hx, htr, hb, hml, hown, hX, hxs, hbg, hgs, hL, hr, hlk⟩ := id hC
  have hn' : n.1 ≤ 1091 ∧ n.2 ≤ 30369 := by omega
  refine lv_aload_n (i := 1) hx hb dd_law_409 rfl (lv_at hl 1 rfl) ?_
  refine l_read (j := 1) hC hS hl (by omega) dd_law_410 dd_law_411 dd_law_413 dd_law_414 dd_law_415 ?_
  refine l_read (j := 2) hC hS hl (by omega) dd_law_416 dd_law_417 dd_law_419 dd_law_420 dd_law_421 ?_
  refine l_read (j := 3) hC hS hl (by omega) dd_law_422 dd_law_423 dd_law_425 dd_law_426 dd_law_427 ?_
  refine l_call (q := 0) (As := [.int (xs (i + 1)), .int (xs (i + 2)), .int (xs (i + 3))]) (st := []) hC hn' hP hS rfl (p_spoil hI) (w := 41) rfl rfl rfl hl.1 (by decide) dd_law_428 (fun o1 M1 H1 locs1 hq hP1 hS1 => ?_)
  obtain ⟨r, rfl, h2⟩ := hq
  refine lv_aload_n (i := 2) hx hb dd_law_431 rfl (lv_at hl 2 rfl) ?_
  refine l_read (j := 1) hC hS1 hl (by omega) dd_law_432 dd_law_433 dd_law_435 dd_law_436 dd_law_437 ?_
  refine l_read (j := 2) hC hS1 hl (by omega) dd_law_438 dd_law_439 dd_law_441 dd_law_442 dd_law_443 ?_
  refine l_read (j := 3) hC hS1 hl (by omega) dd_law_444 dd_law_445 dd_law_447 dd_law_448 dd_law_449 ?_
  refine l_call (q := 35) (As := [.int (xs (i + 1)), .int (xs (i + 2)), .int (xs (i + 3))]) (st := [.int r]) hC hn' hP1 hS1 rfl h2 (w := 42) rfl rfl rfl hl.1 (Nat.le_of_ble_eq_true rfl) dd_law_450 (fun o2 M2 H2 locs2 hq hP2 hS2 => ?_)
  obtain ⟨rfl, hI2⟩ := hq
  refine lv_icmp_eq (x := r) (y := r) (rest := []) (tgt := 596) hx hb dd_law_453 (by decide) (fun _ => ?_) (fun z => absurd rfl z)
  exact W.widen (Nat.le_succ _) (Nat.le_add_right _ _) (N M2 f H2 locs2 ls hI2 hP2 hS2 hl)
theorem lc_9 {p : Program} {l : Launch} {e : Env} {s : State} {m : MethodId} {below : List Frame} {meth : Method} {c : Code} {b L : Nat} {xs : Nat → Int32} {g : sm_G} (hC : lCx g p e s m meth c b L xs) {H : Heap} {locs : List Loc} {n : Nat × Nat} (hn : n.1 + 1 ≤ 1091 ∧ n.2 + 6 ≤ 30369) {M : sm_M} {f : Nat → Int64} (hI : INV M) (hP : va_P g.1 sm_Cl (lwo g M f) H) (hS : va_S (A1 g) s.heap H locs) {i : Nat} (hi : i + 5 ≤ L) {ls : Array Slot} (hl : lv_has ls 7 (lvi g b i)) (N : lNx g p l e s m below meth c b i (n.1 + 1, n.2 + 6)) : lW p l e s m below meth c b H locs n (F0 m 458 ls []) := by
  obtain ⟨hx, htr, hb, hml, hown, hX, hxs, hbg, hgs, hL, hr, hlk⟩ := id hC
  have hn' : n.1 ≤ 1091 ∧ n.2 ≤ 30369 := by omega
  refine lv_aload_n (i := 1) hx hb dd_law_458 rfl (lv_at hl 1 rfl) ?_
  refine l_call (q := 0) (As := []) (st := []) hC hn' hP hS rfl (p_accepts hI) (w := 43) rfl rfl rfl hl.1 (by decide) dd_law_459 (fun o1 M1 H1 locs1 hq hP1 hS1 => ?_)
  obtain ⟨r, rfl, h2⟩ := hq
  refine lv_aload_n (i := 2) hx hb dd_law_462 rfl (lv_at hl 2 rfl) ?_
  refine l_call (q := 35) (As := []) (st := [.int r]) hC hn' hP1 hS1 rfl h2 (w := 44) rfl rfl rfl hl.1 (Nat.le_of_ble_eq_true rfl) dd_law_463 (fun o2 M2 H2 locs2 hq hP2 hS2 => ?_)
  obtain ⟨rfl, hI2⟩ := hq
  refine lv_icmp_eq (x := r) (y := r) (rest := []) (tgt := 596) hx hb dd_law_466 (by decide) (fun _ => ?_) (fun z => absurd rfl z)
  exact W.widen (Nat.le_succ _) (Nat.le_add_right _ _) (N M2 f H2 locs2 ls hI2 hP2 hS2 hl)
theorem lc_12 {p : Program} {l : Launch} {e : Env} {s : State} {m : MethodId} {below : List Frame} {meth : Method} {c : Code} {b L : Nat} {xs : Nat → Int32} {g : sm_G} (hC : lCx g p e s m meth c b L xs) {H : Heap} {locs : List Loc} {n : Nat × Nat} (hn : n.1 + 1 ≤ 1091 ∧ n.2 + 6 ≤ 30369) {M : sm_M} {f : Nat → Int64} (hI : INV M) (hP : va_P g.1 sm_Cl (lwo g M f) H) (hS : va_S (A1 g) s.heap H locs) {i : Nat} (hi : i + 5 ≤ L) {ls : Array Slot} (hl : lv_has ls 7 (lvi g b i)) (N : lNx g p l e s m below meth c b i (n.1 + 1, n.2 + 6)) : lW p l e s m below meth c b H locs n (F0 m 583 ls []) := by
  obtain ⟨hx, htr, hb, hml, hown, hX, hxs, hbg, hgs, hL, hr, hlk⟩ := id hC
  have hn' : n.1 ≤ 1091 ∧ n.2 ≤ 30369 := by omega
  refine lv_aload_n (i := 1) hx hb dd_law_583 rfl (lv_at hl 1 rfl) ?_
  refine l_call (q := 0) (As := []) (st := []) hC hn' hP hS rfl (p_ended hI) (w := 47) rfl rfl rfl hl.1 (by decide) dd_law_584 (fun o1 M1 H1 locs1 hq hP1 hS1 => ?_)
  obtain ⟨r, rfl, h2⟩ := hq
  refine lv_aload_n (i := 2) hx hb dd_law_587 rfl (lv_at hl 2 rfl) ?_
  refine l_call (q := 35) (As := []) (st := [.int r]) hC hn' hP1 hS1 rfl h2 (w := 48) rfl rfl rfl hl.1 (Nat.le_of_ble_eq_true rfl) dd_law_588 (fun o2 M2 H2 locs2 hq hP2 hS2 => ?_)
  obtain ⟨rfl, hI2⟩ := hq
  refine lv_icmp_eq (x := r) (y := r) (rest := []) (tgt := 596) hx hb dd_law_591 (by decide) (fun _ => ?_) (fun z => absurd rfl z)
  exact W.widen (Nat.le_succ _) (Nat.le_add_right _ _) (N M2 f H2 locs2 ls hI2 hP2 hS2 hl)
theorem lc_0 {p : Program} {l : Launch} {e : Env} {s : State} {m : MethodId} {below : List Frame} {meth : Method} {c : Code} {b L : Nat} {xs : Nat → Int32} {g : sm_G} (hC : lCx g p e s m meth c b L xs) {H : Heap} {locs : List Loc} {n : Nat × Nat} (hn : n.1 + 1 ≤ 1091 ∧ n.2 + 6 ≤ 30369) {M : sm_M} {f : Nat → Int64} (hI : INV M) (hP : va_P g.1 sm_Cl (lwo g M f) H) (hS : va_S (A1 g) s.heap H locs) {i : Nat} (hi : i + 5 ≤ L) {ls : Array Slot} (hl : lv_has ls 7 (lvi g b i)) (N : lNx g p l e s m below meth c b i (n.1 + 1, n.2 + 6)) : lW p l e s m below meth c b H locs n (F0 m 104 ls []) := by
  obtain ⟨hx, htr, hb, hml, hown, hX, hxs, hbg, hgs, hL, hr, hlk⟩ := id hC
  refine lv_aload_n (i := 1) hx hb dd_law_104 rfl (lv_at hl 1 rfl) ?_
  refine l_read (j := 1) hC hS hl (by omega) dd_law_105 dd_law_106 dd_law_108 dd_law_109 dd_law_110 ?_
  refine l_read (j := 2) hC hS hl (by omega) dd_law_111 dd_law_112 dd_law_114 dd_law_115 dd_law_116 ?_
  refine l_read (j := 3) hC hS hl (by omega) dd_law_117 dd_law_118 dd_law_120 dd_law_121 dd_law_122 ?_
  refine l_read (j := 4) hC hS hl (by omega) dd_law_123 dd_law_124 dd_law_126 dd_law_127 dd_law_128 ?_
  refine lv_aload_n (i := 3) hx hb dd_law_129 rfl (lv_at hl 3 rfl) ?_
  refine l_wrap (y := wr_1) (argsL := [.ref g.2.2, .int (xs (i + 1)), .int (xs (i + 2)), .int (xs (i + 3)), .int (xs (i + 4)), .ref (g.2.2 + 59)]) (z := 83) (as := [.int (xs (i + 1)), .int (xs (i + 2)), .int (xs (i + 3)), .int (xs (i + 4))]) (w := 1) hC hn hP hS rfl rfl rfl rfl rfl (by decide) (fun s' mk methk ck bl hC2 hP2 => wr_put hC2 hI hP2) hl.1 dd_law_130 (fun kk M1 f1 H1 locs1 hw hP1 hS1 => ?_)
  refine lv_istore hx hb dd_law_133 hl (by decide) rfl (fun ls1 hl1 => ?_)
  have hl5 : lv_has ls1 7 (lvi g b i ++ [(5, .int kk)]) := lv_sub hl1 [1, 2, 3, 4, 5, 0] rfl
  refine lv_aload_n (i := 2) hx hb dd_law_135 rfl (lv_at hl5 2 rfl) ?_
  refine l_read (j := 1) hC hS1 hl5 (by omega) dd_law_136 dd_law_137 dd_law_139 dd_law_140 dd_law_141 ?_
  refine l_read (j := 2) hC hS1 hl5 (by omega) dd_law_142 dd_law_143 dd_law_145 dd_law_146 dd_law_147 ?_
  refine l_read (j := 3) hC hS1 hl5 (by omega) dd_law_148 dd_law_149 dd_law_151 dd_law_152 dd_law_153 ?_
  refine l_read (j := 4) hC hS1 hl5 (by omega) dd_law_154 dd_law_155 dd_law_157 dd_law_158 dd_law_159 ?_
  have fin : ∀ (r : Int32) (M2 : sm_M) (H2 : Heap) (locs2 : List Loc), INV M2 → M2.1 35 0 = kk → (kk = 0 → f1 0 = r.toInt64) → va_P g.1 sm_Cl (lwo g M2 f1) H2 → va_S (A1 g) s.heap H2 locs2 → lW p l e s m below meth c b H2 locs2 (n.1 + 1, n.2 + 6) (F0 m 163 ls1 [.int r]) := fun r M2 H2 locs2 hI2 q1 q2 hP2 hS2 =>
    lv_istore hx hb dd_law_163 hl5 (by decide) rfl (fun ls2 hl2 => l_thr hC hn hP2 hS2 hI2 q1 q2 (lv_sub hl2 [1, 2, 3, 4, 5, 6, 0] rfl) N dd_law_165 dd_law_166 dd_law_169 dd_law_171 dd_law_176 dd_law_178 dd_law_181 dd_law_182 dd_law_183 dd_law_184 dd_law_186 dd_law_187 dd_law_188 dd_law_193 (by decide))
  rcases hw with ⟨hk, r, hf, r0, he, h2⟩ | ⟨k1, hk1, hk, hM, h2⟩
  · cases he
    refine l_call (q := 35) (As := [.int (xs (i + 1)), .int (xs (i + 2)), .int (xs (i + 3)), .int (xs (i + 4))]) (st := []) (n := (n.1 + 1, n.2 + 6)) hC hn hP1 hS1 rfl h2 (w := 27) rfl rfl rfl hl5.1 (by decide) dd_law_160 (fun o2 M2 H2 locs2 hq hP2 hS2 => ?_)
    obtain ⟨rfl, h3, hI2⟩ := hq
    exact fin r M2 H2 locs2 hI2 (by rw [h3, hk]; rfl) (fun _ => hf) hP2 hS2
  · subst hM
    refine l_call (q := 35) (As := [.int (xs (i + 1)), .int (xs (i + 2)), .int (xs (i + 3)), .int (xs (i + 4))]) (st := []) (n := (n.1 + 1, n.2 + 6)) hC hn hP1 hS1 rfl h2 (w := 27) rfl rfl rfl hl5.1 (by decide) dd_law_160 (fun o2 M2 H2 locs2 hq hP2 hS2 => ?_)
    obtain ⟨⟨r, rfl⟩, h3, hI2⟩ := hq
    exact fin r M2 H2 locs2 hI2 (by rw [h3, hk]) (fun z => by rw [hk] at z; rcases hk1 with rfl | rfl <;> exact absurd z (by decide)) hP2 hS2
theorem lc_3 {p : Program} {l : Launch} {e : Env} {s : State} {m : MethodId} {below : List Frame} {meth : Method} {c : Code} {b L : Nat} {xs : Nat → Int32} {g : sm_G} (hC : lCx g p e s m meth c b L xs) {H : Heap} {locs : List Loc} {n : Nat × Nat} (hn : n.1 + 1 ≤ 1091 ∧ n.2 + 6 ≤ 30369) {M : sm_M} {f : Nat → Int64} (hI : INV M) (hP : va_P g.1 sm_Cl (lwo g M f) H) (hS : va_S (A1 g) s.heap H locs) {i : Nat} (hi : i + 5 ≤ L) {ls : Array Slot} (hl : lv_has ls 7 (lvi g b i)) (N : lNx g p l e s m below meth c b i (n.1 + 1, n.2 + 6)) : lW p l e s m below meth c b H locs n (F0 m 246 ls []) := by
  obtain ⟨hx, htr, hb, hml, hown, hX, hxs, hbg, hgs, hL, hr, hlk⟩ := id hC
  refine lv_aload_n (i := 1) hx hb dd_law_246 rfl (lv_at hl 1 rfl) ?_
  refine l_read (j := 1) hC hS hl (by omega) dd_law_247 dd_law_248 dd_law_250 dd_law_251 dd_law_252 ?_
  refine lv_aload_n (i := 3) hx hb dd_law_253 rfl (lv_at hl 3 rfl) ?_
  refine l_wrap (y := wr_2) (argsL := [.ref g.2.2, .int (xs (i + 1)), .ref (g.2.2 + 59)]) (z := 104) (as := [.int (xs (i + 1))]) (w := 4) hC hn hP hS rfl rfl rfl rfl rfl (by decide) (fun s' mk methk ck bl hC2 hP2 => wr_allocate hC2 hI hP2) hl.1 dd_law_254 (fun kk M1 f1 H1 locs1 hw hP1 hS1 => ?_)
  refine lv_istore hx hb dd_law_257 hl (by decide) rfl (fun ls1 hl1 => ?_)
  have hl5 : lv_has ls1 7 (lvi g b i ++ [(5, .int kk)]) := lv_sub hl1 [1, 2, 3, 4, 5, 0] rfl
  refine lv_aload_n (i := 2) hx hb dd_law_259 rfl (lv_at hl5 2 rfl) ?_
  refine l_read (j := 1) hC hS1 hl5 (by omega) dd_law_260 dd_law_261 dd_law_263 dd_law_264 dd_law_265 ?_
  have fin : ∀ (r : Int32) (M2 : sm_M) (H2 : Heap) (locs2 : List Loc), INV M2 → M2.1 35 0 = kk → (kk = 0 → f1 0 = r.toInt64) → va_P g.1 sm_Cl (lwo g M2 f1) H2 → va_S (A1 g) s.heap H2 locs2 → lW p l e s m below meth c b H2 locs2 (n.1 + 1, n.2 + 6) (F0 m 269 ls1 [.int r]) := fun r M2 H2 locs2 hI2 q1 q2 hP2 hS2 =>
    lv_istore hx hb dd_law_269 hl5 (by decide) rfl (fun ls2 hl2 => l_thr hC hn hP2 hS2 hI2 q1 q2 (lv_sub hl2 [1, 2, 3, 4, 5, 6, 0] rfl) N dd_law_271 dd_law_272 dd_law_275 dd_law_277 dd_law_282 dd_law_284 dd_law_287 dd_law_288 dd_law_289 dd_law_290 dd_law_292 dd_law_293 dd_law_294 dd_law_299 (by decide))
  rcases hw with ⟨hk, r, hf, r0, he, h2⟩ | ⟨k1, hk1, hk, hM, h2⟩
  · cases he
    refine l_call (q := 35) (As := [.int (xs (i + 1))]) (st := []) (n := (n.1 + 1, n.2 + 6)) hC hn hP1 hS1 rfl h2 (w := 33) rfl rfl rfl hl5.1 (by decide) dd_law_266 (fun o2 M2 H2 locs2 hq hP2 hS2 => ?_)
    obtain ⟨rfl, h3, hI2⟩ := hq
    exact fin r M2 H2 locs2 hI2 (by rw [h3, hk]; rfl) (fun _ => hf) hP2 hS2
  · subst hM
    refine l_call (q := 35) (As := [.int (xs (i + 1))]) (st := []) (n := (n.1 + 1, n.2 + 6)) hC hn hP1 hS1 rfl h2 (w := 33) rfl rfl rfl hl5.1 (by decide) dd_law_266 (fun o2 M2 H2 locs2 hq hP2 hS2 => ?_)
    obtain ⟨⟨r, rfl⟩, h3, hI2⟩ := hq
    exact fin r M2 H2 locs2 hI2 (by rw [h3, hk]) (fun z => by rw [hk] at z; rcases hk1 with rfl | rfl <;> exact absurd z (by decide)) hP2 hS2
theorem lc_5 {p : Program} {l : Launch} {e : Env} {s : State} {m : MethodId} {below : List Frame} {meth : Method} {c : Code} {b L : Nat} {xs : Nat → Int32} {g : sm_G} (hC : lCx g p e s m meth c b L xs) {H : Heap} {locs : List Loc} {n : Nat × Nat} (hn : n.1 + 1 ≤ 1091 ∧ n.2 + 6 ≤ 30369) {M : sm_M} {f : Nat → Int64} (hI : INV M) (hP : va_P g.1 sm_Cl (lwo g M f) H) (hS : va_S (A1 g) s.heap H locs) {i : Nat} (hi : i + 5 ≤ L) {ls : Array Slot} (hl : lv_has ls 7 (lvi g b i)) (N : lNx g p l e s m below meth c b i (n.1 + 1, n.2 + 6)) : lW p l e s m below meth c b H locs n (F0 m 315 ls []) := by
  obtain ⟨hx, htr, hb, hml, hown, hX, hxs, hbg, hgs, hL, hr, hlk⟩ := id hC
  refine lv_aload_n (i := 1) hx hb dd_law_315 rfl (lv_at hl 1 rfl) ?_
  refine l_read (j := 1) hC hS hl (by omega) dd_law_316 dd_law_317 dd_law_319 dd_law_320 dd_law_321 ?_
  refine l_read (j := 2) hC hS hl (by omega) dd_law_322 dd_law_323 dd_law_325 dd_law_326 dd_law_327 ?_
  refine lv_aload_n (i := 3) hx hb dd_law_328 rfl (lv_at hl 3 rfl) ?_
  refine l_wrap (y := wr_3) (argsL := [.ref g.2.2, .int (xs (i + 1)), .int (xs (i + 2)), .ref (g.2.2 + 59)]) (z := 107) (as := [.int (xs (i + 1)), .int (xs (i + 2))]) (w := 7) hC hn hP hS rfl rfl rfl rfl rfl (by decide) (fun s' mk methk ck bl hC2 hP2 => wr_line hC2 hI hP2) hl.1 dd_law_329 (fun kk M1 f1 H1 locs1 hw hP1 hS1 => ?_)
  refine lv_istore hx hb dd_law_332 hl (by decide) rfl (fun ls1 hl1 => ?_)
  have hl5 : lv_has ls1 7 (lvi g b i ++ [(5, .int kk)]) := lv_sub hl1 [1, 2, 3, 4, 5, 0] rfl
  refine lv_aload_n (i := 2) hx hb dd_law_334 rfl (lv_at hl5 2 rfl) ?_
  refine l_read (j := 1) hC hS1 hl5 (by omega) dd_law_335 dd_law_336 dd_law_338 dd_law_339 dd_law_340 ?_
  refine l_read (j := 2) hC hS1 hl5 (by omega) dd_law_341 dd_law_342 dd_law_344 dd_law_345 dd_law_346 ?_
  have fin : ∀ (r : Int32) (M2 : sm_M) (H2 : Heap) (locs2 : List Loc), INV M2 → M2.1 35 0 = kk → (kk = 0 → f1 0 = r.toInt64) → va_P g.1 sm_Cl (lwo g M2 f1) H2 → va_S (A1 g) s.heap H2 locs2 → lW p l e s m below meth c b H2 locs2 (n.1 + 1, n.2 + 6) (F0 m 350 ls1 [.int r]) := fun r M2 H2 locs2 hI2 q1 q2 hP2 hS2 =>
    lv_istore hx hb dd_law_350 hl5 (by decide) rfl (fun ls2 hl2 => l_thr hC hn hP2 hS2 hI2 q1 q2 (lv_sub hl2 [1, 2, 3, 4, 5, 6, 0] rfl) N dd_law_352 dd_law_353 dd_law_356 dd_law_358 dd_law_363 dd_law_365 dd_law_368 dd_law_369 dd_law_370 dd_law_371 dd_law_373 dd_law_374 dd_law_375 dd_law_380 (by decide))
  rcases hw with ⟨hk, r, hf, r0, he, h2⟩ | ⟨k1, hk1, hk, hM, h2⟩
  · cases he
    refine l_call (q := 35) (As := [.int (xs (i + 1)), .int (xs (i + 2))]) (st := []) (n := (n.1 + 1, n.2 + 6)) hC hn hP1 hS1 rfl h2 (w := 36) rfl rfl rfl hl5.1 (by decide) dd_law_347 (fun o2 M2 H2 locs2 hq hP2 hS2 => ?_)
    obtain ⟨rfl, h3, hI2⟩ := hq
    exact fin r M2 H2 locs2 hI2 (by rw [h3, hk]; rfl) (fun _ => hf) hP2 hS2
  · subst hM
    refine l_call (q := 35) (As := [.int (xs (i + 1)), .int (xs (i + 2))]) (st := []) (n := (n.1 + 1, n.2 + 6)) hC hn hP1 hS1 rfl h2 (w := 36) rfl rfl rfl hl5.1 (by decide) dd_law_347 (fun o2 M2 H2 locs2 hq hP2 hS2 => ?_)
    obtain ⟨⟨r, rfl⟩, h3, hI2⟩ := hq
    exact fin r M2 H2 locs2 hI2 (by rw [h3, hk]) (fun z => by rw [hk] at z; rcases hk1 with rfl | rfl <;> exact absurd z (by decide)) hP2 hS2
theorem lc_10 {p : Program} {l : Launch} {e : Env} {s : State} {m : MethodId} {below : List Frame} {meth : Method} {c : Code} {b L : Nat} {xs : Nat → Int32} {g : sm_G} (hC : lCx g p e s m meth c b L xs) {H : Heap} {locs : List Loc} {n : Nat × Nat} (hn : n.1 + 1 ≤ 1091 ∧ n.2 + 6 ≤ 30369) {M : sm_M} {f : Nat → Int64} (hI : INV M) (hP : va_P g.1 sm_Cl (lwo g M f) H) (hS : va_S (A1 g) s.heap H locs) {i : Nat} (hi : i + 5 ≤ L) {ls : Array Slot} (hl : lv_has ls 7 (lvi g b i)) (N : lNx g p l e s m below meth c b i (n.1 + 1, n.2 + 6)) : lW p l e s m below meth c b H locs n (F0 m 471 ls []) := by
  obtain ⟨hx, htr, hb, hml, hown, hX, hxs, hbg, hgs, hL, hr, hlk⟩ := id hC
  refine lv_aload_n (i := 1) hx hb dd_law_471 rfl (lv_at hl 1 rfl) ?_
  refine l_read (j := 1) hC hS hl (by omega) dd_law_472 dd_law_473 dd_law_475 dd_law_476 dd_law_477 ?_
  refine lv_aload_n (i := 3) hx hb dd_law_478 rfl (lv_at hl 3 rfl) ?_
  refine l_wrap (y := wr_4) (argsL := [.ref g.2.2, .int (xs (i + 1)), .ref (g.2.2 + 59)]) (z := 117) (as := [.int (xs (i + 1))]) (w := 10) hC hn hP hS rfl rfl rfl rfl rfl (by decide) (fun s' mk methk ck bl hC2 hP2 => wr_run hC2 hI hP2) hl.1 dd_law_479 (fun kk M1 f1 H1 locs1 hw hP1 hS1 => ?_)
  refine lv_istore hx hb dd_law_482 hl (by decide) rfl (fun ls1 hl1 => ?_)
  have hl5 : lv_has ls1 7 (lvi g b i ++ [(5, .int kk)]) := lv_sub hl1 [1, 2, 3, 4, 5, 0] rfl
  refine lv_aload_n (i := 2) hx hb dd_law_484 rfl (lv_at hl5 2 rfl) ?_
  refine l_read (j := 1) hC hS1 hl5 (by omega) dd_law_485 dd_law_486 dd_law_488 dd_law_489 dd_law_490 ?_
  have fin : ∀ (r : Int32) (M2 : sm_M) (H2 : Heap) (locs2 : List Loc), INV M2 → M2.1 35 0 = kk → (kk = 0 → f1 0 = r.toInt64) → va_P g.1 sm_Cl (lwo g M2 f1) H2 → va_S (A1 g) s.heap H2 locs2 → lW p l e s m below meth c b H2 locs2 (n.1 + 1, n.2 + 6) (F0 m 494 ls1 [.int r]) := fun r M2 H2 locs2 hI2 q1 q2 hP2 hS2 =>
    lv_istore hx hb dd_law_494 hl5 (by decide) rfl (fun ls2 hl2 => l_thr hC hn hP2 hS2 hI2 q1 q2 (lv_sub hl2 [1, 2, 3, 4, 5, 6, 0] rfl) N dd_law_496 dd_law_497 dd_law_500 dd_law_502 dd_law_507 dd_law_509 dd_law_512 dd_law_513 dd_law_514 dd_law_515 dd_law_517 dd_law_518 dd_law_519 dd_law_524 (by decide))
  rcases hw with ⟨hk, r, hf, r0, he, h2⟩ | ⟨k1, hk1, hk, hM, h2⟩
  · cases he
    refine l_call (q := 35) (As := [.int (xs (i + 1))]) (st := []) (n := (n.1 + 1, n.2 + 6)) hC hn hP1 hS1 rfl h2 (w := 45) rfl rfl rfl hl5.1 (by decide) dd_law_491 (fun o2 M2 H2 locs2 hq hP2 hS2 => ?_)
    obtain ⟨rfl, h3, hI2⟩ := hq
    exact fin r M2 H2 locs2 hI2 (by rw [h3, hk]; rfl) (fun _ => hf) hP2 hS2
  · subst hM
    refine l_call (q := 35) (As := [.int (xs (i + 1))]) (st := []) (n := (n.1 + 1, n.2 + 6)) hC hn hP1 hS1 rfl h2 (w := 45) rfl rfl rfl hl5.1 (by decide) dd_law_491 (fun o2 M2 H2 locs2 hq hP2 hS2 => ?_)
    obtain ⟨⟨r, rfl⟩, h3, hI2⟩ := hq
    exact fin r M2 H2 locs2 hI2 (by rw [h3, hk]) (fun z => by rw [hk] at z; rcases hk1 with rfl | rfl <;> exact absurd z (by decide)) hP2 hS2
theorem lc_11 {p : Program} {l : Launch} {e : Env} {s : State} {m : MethodId} {below : List Frame} {meth : Method} {c : Code} {b L : Nat} {xs : Nat → Int32} {g : sm_G} (hC : lCx g p e s m meth c b L xs) {H : Heap} {locs : List Loc} {n : Nat × Nat} (hn : n.1 + 1 ≤ 1091 ∧ n.2 + 6 ≤ 30369) {M : sm_M} {f : Nat → Int64} (hI : INV M) (hP : va_P g.1 sm_Cl (lwo g M f) H) (hS : va_S (A1 g) s.heap H locs) {i : Nat} (hi : i + 5 ≤ L) {ls : Array Slot} (hl : lv_has ls 7 (lvi g b i)) (N : lNx g p l e s m below meth c b i (n.1 + 1, n.2 + 6)) : lW p l e s m below meth c b H locs n (F0 m 527 ls []) := by
  obtain ⟨hx, htr, hb, hml, hown, hX, hxs, hbg, hgs, hL, hr, hlk⟩ := id hC
  refine lv_aload_n (i := 1) hx hb dd_law_527 rfl (lv_at hl 1 rfl) ?_
  refine l_read (j := 1) hC hS hl (by omega) dd_law_528 dd_law_529 dd_law_531 dd_law_532 dd_law_533 ?_
  refine lv_aload_n (i := 3) hx hb dd_law_534 rfl (lv_at hl 3 rfl) ?_
  refine l_wrap (y := wr_5) (argsL := [.ref g.2.2, .int (xs (i + 1)), .ref (g.2.2 + 59)]) (z := 118) (as := [.int (xs (i + 1))]) (w := 13) hC hn hP hS rfl rfl rfl rfl rfl (by decide) (fun s' mk methk ck bl hC2 hP2 => wr_shown hC2 hI hP2) hl.1 dd_law_535 (fun kk M1 f1 H1 locs1 hw hP1 hS1 => ?_)
  refine lv_istore hx hb dd_law_538 hl (by decide) rfl (fun ls1 hl1 => ?_)
  have hl5 : lv_has ls1 7 (lvi g b i ++ [(5, .int kk)]) := lv_sub hl1 [1, 2, 3, 4, 5, 0] rfl
  refine lv_aload_n (i := 2) hx hb dd_law_540 rfl (lv_at hl5 2 rfl) ?_
  refine l_read (j := 1) hC hS1 hl5 (by omega) dd_law_541 dd_law_542 dd_law_544 dd_law_545 dd_law_546 ?_
  have fin : ∀ (r : Int32) (M2 : sm_M) (H2 : Heap) (locs2 : List Loc), INV M2 → M2.1 35 0 = kk → (kk = 0 → f1 0 = r.toInt64) → va_P g.1 sm_Cl (lwo g M2 f1) H2 → va_S (A1 g) s.heap H2 locs2 → lW p l e s m below meth c b H2 locs2 (n.1 + 1, n.2 + 6) (F0 m 550 ls1 [.int r]) := fun r M2 H2 locs2 hI2 q1 q2 hP2 hS2 =>
    lv_istore hx hb dd_law_550 hl5 (by decide) rfl (fun ls2 hl2 => l_thr hC hn hP2 hS2 hI2 q1 q2 (lv_sub hl2 [1, 2, 3, 4, 5, 6, 0] rfl) N dd_law_552 dd_law_553 dd_law_556 dd_law_558 dd_law_563 dd_law_565 dd_law_568 dd_law_569 dd_law_570 dd_law_571 dd_law_573 dd_law_574 dd_law_575 dd_law_580 (by decide))
  rcases hw with ⟨hk, r, hf, r0, he, h2⟩ | ⟨k1, hk1, hk, hM, h2⟩
  · cases he
    refine l_call (q := 35) (As := [.int (xs (i + 1))]) (st := []) (n := (n.1 + 1, n.2 + 6)) hC hn hP1 hS1 rfl h2 (w := 46) rfl rfl rfl hl5.1 (by decide) dd_law_547 (fun o2 M2 H2 locs2 hq hP2 hS2 => ?_)
    obtain ⟨rfl, h3, hI2⟩ := hq
    exact fin r M2 H2 locs2 hI2 (by rw [h3, hk]; rfl) (fun _ => hf) hP2 hS2
  · subst hM
    refine l_call (q := 35) (As := [.int (xs (i + 1))]) (st := []) (n := (n.1 + 1, n.2 + 6)) hC hn hP1 hS1 rfl h2 (w := 46) rfl rfl rfl hl5.1 (by decide) dd_law_547 (fun o2 M2 H2 locs2 hq hP2 hS2 => ?_)
    obtain ⟨⟨r, rfl⟩, h3, hI2⟩ := hq
    exact fin r M2 H2 locs2 hI2 (by rw [h3, hk]) (fun z => by rw [hk] at z; rcases hk1 with rfl | rfl <;> exact absurd z (by decide)) hP2 hS2
