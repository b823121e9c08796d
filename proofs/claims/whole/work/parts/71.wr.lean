def wr_L : String := "SpillingColoursLaw"
def wr_1 : MethodName := ⟨"SpillingColoursLaw", "put", "(LSpillingColours;IIII[J)I"⟩
def wr_2 : MethodName := ⟨"SpillingColoursLaw", "allocate", "(LSpillingColours;I[J)I"⟩
def wr_3 : MethodName := ⟨"SpillingColoursLaw", "line", "(LSpillingColours;II[J)I"⟩
def wr_4 : MethodName := ⟨"SpillingColoursLaw", "run", "(LSpillingColours;I[J)I"⟩
def wr_5 : MethodName := ⟨"SpillingColoursLaw", "shown", "(LSpillingColours;I[J)I"⟩
def wr_h1 : List (Nat × Nat × Nat × Nat) := [(0, 14, 17, 13), (0, 14, 21, 15)]
def wr_h2 : List (Nat × Nat × Nat × Nat) := [(0, 9, 12, 13)]
def wr_h3 : List (Nat × Nat × Nat × Nat) := [(0, 10, 13, 25)]
def wr_h4 : List (Nat × Nat × Nat × Nat) := [(0, 9, 12, 13), (0, 9, 15, 15)]
def wr_h5 : List (Nat × Nat × Nat × Nat) := [(0, 9, 12, 25)]
/-- the law's own words -/
def wr_ws : List Cond := [.initialized wr_L,
  .methodLink wr_L 37 wr_1, .static wr_1, .codeWith wr_1 method_3_code 7 (some .int) wr_h1,
  .methodLink wr_L 56 wr_2, .static wr_2, .codeWith wr_2 method_4_code 4 (some .int) wr_h2,
  .methodLink wr_L 64 wr_3, .static wr_3, .codeWith wr_3 method_5_code 5 (some .int) wr_h3,
  .methodLink wr_L 86 wr_4, .static wr_4, .codeWith wr_4 method_6_code 4 (some .int) wr_h4,
  .methodLink wr_L 89 wr_5, .static wr_5, .codeWith wr_5 method_7_code 4 (some .int) wr_h5,
  .classLink wr_L 13 xs_IA, .classLink wr_L 15 xs_IS, .classLink wr_L 25 xs_IO, .castable xs_IA xs_IA, .castable xs_IS xs_IS, .castable xs_IO xs_IO,
  .methodLink wr_L 7 (sm_nm 51), .methodLink wr_L 17 (sm_nm 54), .methodLink wr_L 21 (sm_nm 56), .methodLink wr_L 27 (sm_nm 61), .methodLink wr_L 30 (sm_nm 62),
  .methodLink wr_L 42 (sm_nm 83), .methodLink wr_L 43 (sm_nm 72), .methodLink wr_L 47 (sm_nm 52), .methodLink wr_L 50 (sm_nm 84), .methodLink wr_L 51 (sm_nm 53), .methodLink wr_L 55 (sm_nm 87), .methodLink wr_L 59 (sm_nm 104), .methodLink wr_L 60 (sm_nm 55), .methodLink wr_L 63 (sm_nm 106), .methodLink wr_L 67 (sm_nm 107), .methodLink wr_L 68 (sm_nm 57), .methodLink wr_L 71 (sm_nm 108), .methodLink wr_L 72 (sm_nm 58), .methodLink wr_L 75 (sm_nm 109), .methodLink wr_L 76 (sm_nm 59), .methodLink wr_L 80 (sm_nm 110), .methodLink wr_L 81 (sm_nm 60), .methodLink wr_L 85 (sm_nm 114), .methodLink wr_L 88 (sm_nm 117), .methodLink wr_L 91 (sm_nm 118), .methodLink wr_L 92 (sm_nm 63), .methodLink wr_L 95 (sm_nm 119)]
theorem wr_at {w : Cond} (j : Nat) (h : wr_ws[j]? = some w) : w ∈ wr_ws := List.mem_of_getElem? h
theorem wr_wok : wr_ws.all xs_ok = true := by decide +kernel
def wr_R1 : Room := { frames := 7, cells := 1, slots := 6, locals := 170 }
theorem LX_nc {g : sm_G} {ws : List Cond} {U : State} (h : LX g ws U) {A : Array Value} : (Cond.not (.castable xs_IS xs_IA)).before A U = true := xs_nc (State.WarmedH.refl U) h.2.2.2.2.2
def wC (g : sm_G) (cc : ByteArray) (nL : Nat) (hh : List (Nat × Nat × Nat × Nat)) (p : Program) (e : Env) (R : Room) (s : State) (m : MethodId) (meth : Method) (c : Code) : Prop :=
  p.tables.exec = Jvm.exec ∧ e.platform.stackTraces = false ∧ c.code = cc ∧ c.maxLocals = nL ∧ c.exceptionTable.toList.map (fun h => (h.startPc, h.endPc, h.handlerPc, h.catchType)) = hh ∧ s.vm.findClass wr_L = some m.cls ∧ meth.sig.returnType = some .int ∧ meth.locks = false ∧ LX g wr_ws s ∧ R = wr_R1
theorem wr_e1 {l : List ExceptionTableEntry} {a b d e : Nat} (h : l.map (fun h => (h.startPc, h.endPc, h.handlerPc, h.catchType)) = [(a, b, d, e)]) : ∃ x, l = [x] ∧ x.startPc = a ∧ x.endPc = b ∧ x.handlerPc = d ∧ x.catchType = e := by
  match l, h with
  | [x], h =>
    simp only [List.map_cons, List.map_nil, List.cons.injEq, Prod.mk.injEq, and_true] at h
    exact ⟨x, rfl, h.1, h.2.1, h.2.2.1, h.2.2.2⟩
theorem wr_e2 {l : List ExceptionTableEntry} {a b d e a' b' d' e' : Nat} (h : l.map (fun h => (h.startPc, h.endPc, h.handlerPc, h.catchType)) = [(a, b, d, e), (a', b', d', e')]) : ∃ x y, l = [x, y] ∧ (x.startPc = a ∧ x.endPc = b ∧ x.handlerPc = d ∧ x.catchType = e) ∧ y.startPc = a' ∧ y.endPc = b' ∧ y.handlerPc = d' ∧ y.catchType = e' := by
  match l, h with
  | [x, y], h =>
    simp only [List.map_cons, List.map_nil, List.cons.injEq, Prod.mk.injEq, and_true] at h
    exact ⟨x, y, rfl, ⟨h.1.1, h.1.2.1, h.1.2.2.1, h.1.2.2.2⟩, h.2.1, h.2.2.1, h.2.2.2.1, h.2.2.2.2⟩
theorem wr_put {p : Program} {l : Launch} {e : Env} {R : Room} {s : State} {m : MethodId} {below : List Frame} {meth : Method} {c : Code} {g : sm_G} {M : sm_M} {f : Nat → Int64} (hC : wC g method_3_code 7 wr_h1 p e R s m meth c) (hI : INV M) {x1 x2 x3 x4 : Int32} (hP : va_P g.1 sm_Cl (lwo g M f) s.heap) :
    W p l e R s m [Value.ref g.2.2, .int x1, .int x2, .int x3, .int x4, .ref (g.2.2 + 59)].toArray below meth c s.heap [] 0 0 (MQ below (wQ g 83 [.int x1, .int x2, .int x3, .int x4] M) [Value.ref g.2.2, .int x1, .int x2, .int x3, .int x4, .ref (g.2.2 + 59)].toArray s 1 6 (A1 g)) (entryFrame m [Value.ref g.2.2, .int x1, .int x2, .int x3, .int x4, .ref (g.2.2 + 59)].toArray 7) := by
  obtain ⟨hx, htr, hb, hml, hhh, hown, hr, hlk, hX, rfl⟩ := hC
  have hl := lv_entry [Value.ref g.2.2, .int x1, .int x2, .int x3, .int x4, .ref (g.2.2 + 59)] (n := 7) (Nat.le_of_ble_eq_true rfl)
  rw [lg_entry_eq]
  generalize (lg_sl _ ++ List.replicate _ Slot.unset).toArray = ls at hl ⊢
  refine lv_aload hx hb dd_put_0 (lv_at hl 5 rfl) ?_
  refine lv_iconst (v := 0) hx hb dd_put_2 rfl ?_
  refine lv_aload_n (i := 0) hx hb dd_put_3 rfl (lv_at hl 0 rfl) ?_
  refine lv_iload_n (i := 1) hx hb dd_put_4 rfl (lv_at hl 1 rfl) ?_
  refine lv_iload_n (i := 2) hx hb dd_put_5 rfl (lv_at hl 2 rfl) ?_
  refine lv_iload_n (i := 3) hx hb dd_put_6 rfl (lv_at hl 3 rfl) ?_
  refine lv_iload hx hb dd_put_7 (lv_at hl 4 rfl) ?_
  refine wr_call hx htr hb hml hr hlk hown hX (y := 51) (z := 83) (idx := 7) (as := [.int x1, .int x2, .int x3, .int x4]) (f := f) (cs := [(xs_IA, 1), (xs_IS, 2)]) (pc := 9) (tg := 25) (by decide +kernel) (LX_w hX (wr_at 22 rfl)) rfl rfl rfl rfl rfl rfl (by decide) (by decide) (Nat.le_of_ble_eq_true rfl) (xp_put hI) (by decide) (by decide) (by decide) (by decide) hP hl.1 dd_put_9 dd_put_12 dd_put_13 dd_put_14 (by decide) dd_put_25 dd_put_26 ?_
  intro q hq hthr T' a ce L X' ha hv hc hP' hS'
  obtain ⟨r0, r1, hts, e0, e1⟩ := wr_e2 hhh
  rcases List.mem_cons.mp hq with rfl | hq
  · refine wr_c0 X' hown ha hv hc hts (by simp [covers, e0.1, e0.2.1]) (by rw [e0.2.2.2]; decide) (by rw [e0.2.2.2]; exact LX_w hX (wr_at 16 rfl)) (LX_w hX (wr_at 19 rfl)) ?_
    rw [e0.2.2.1]
    refine lv_astore hx hb dd_put_17 hl (by decide) rfl (fun ls2 hl2 => ?_)
    refine lv_iconst (v := Int32.ofInt 1) hx hb dd_put_19 rfl ?_
    exact wr_end hx hb hr hlk dd_put_20 hP' hS' (Or.inr ⟨1, by decide, rfl, rfl, hthr⟩) (by decide) (by decide)
  · cases List.mem_singleton.mp hq
    refine wr_c1 (other := xs_IA) X' hown ha hv hc hts (by simp [covers, e1.1, e1.2.1]) (by rw [e1.2.2.2]; decide) (by rw [e1.2.2.2]; exact LX_w hX (wr_at 17 rfl)) (LX_w hX (wr_at 20 rfl)) (by simp [covers, e0.1, e0.2.1]) (by rw [e0.2.2.2]; decide) (by rw [e0.2.2.2]; exact LX_w hX (wr_at 16 rfl)) (LX_w hX (wr_at 19 rfl)) (LX_nc hX) ?_
    rw [e1.2.2.1]
    refine lv_astore hx hb dd_put_21 hl (by decide) rfl (fun ls2 hl2 => ?_)
    refine lv_iconst (v := Int32.ofInt 2) hx hb dd_put_23 rfl ?_
    exact wr_end hx hb hr hlk dd_put_24 hP' hS' (Or.inr ⟨2, by decide, rfl, rfl, hthr⟩) (by decide) (by decide)
theorem wr_allocate {p : Program} {l : Launch} {e : Env} {R : Room} {s : State} {m : MethodId} {below : List Frame} {meth : Method} {c : Code} {g : sm_G} {M : sm_M} {f : Nat → Int64} (hC : wC g method_4_code 4 wr_h2 p e R s m meth c) (hI : INV M) {x1 : Int32} (hP : va_P g.1 sm_Cl (lwo g M f) s.heap) :
    W p l e R s m [Value.ref g.2.2, .int x1, .ref (g.2.2 + 59)].toArray below meth c s.heap [] 0 0 (MQ below (wQ g 104 [.int x1] M) [Value.ref g.2.2, .int x1, .ref (g.2.2 + 59)].toArray s 1 6 (A1 g)) (entryFrame m [Value.ref g.2.2, .int x1, .ref (g.2.2 + 59)].toArray 4) := by
  obtain ⟨hx, htr, hb, hml, hhh, hown, hr, hlk, hX, rfl⟩ := hC
  have hl := lv_entry [Value.ref g.2.2, .int x1, .ref (g.2.2 + 59)] (n := 4) (Nat.le_of_ble_eq_true rfl)
  rw [lg_entry_eq]
  generalize (lg_sl _ ++ List.replicate _ Slot.unset).toArray = ls at hl ⊢
  refine lv_aload_n (i := 2) hx hb dd_allocate_0 rfl (lv_at hl 2 rfl) ?_
  refine lv_iconst (v := 0) hx hb dd_allocate_1 rfl ?_
  refine lv_aload_n (i := 0) hx hb dd_allocate_2 rfl (lv_at hl 0 rfl) ?_
  refine lv_iload_n (i := 1) hx hb dd_allocate_3 rfl (lv_at hl 1 rfl) ?_
  refine wr_call hx htr hb hml hr hlk hown hX (y := 54) (z := 104) (idx := 17) (as := [.int x1]) (f := f) (cs := [(xs_IA, 1)]) (pc := 4) (tg := 15) (by decide +kernel) (LX_w hX (wr_at 23 rfl)) rfl rfl rfl rfl rfl rfl (by decide) (by decide) (Nat.le_of_ble_eq_true rfl) (xp_allocate hI) (by decide) (by decide) (by decide) (by decide) hP hl.1 dd_allocate_4 dd_allocate_7 dd_allocate_8 dd_allocate_9 (by decide) dd_allocate_15 dd_allocate_16 ?_
  intro q hq hthr T' a ce L X' ha hv hc hP' hS'
  obtain ⟨r0, hts, e0⟩ := wr_e1 hhh
  cases List.mem_singleton.mp hq
  refine wr_c0 X' hown ha hv hc hts (by simp [covers, e0.1, e0.2.1]) (by rw [e0.2.2.2]; decide) (by rw [e0.2.2.2]; exact LX_w hX (wr_at 16 rfl)) (LX_w hX (wr_at 19 rfl)) ?_
  rw [e0.2.2.1]
  refine lv_astore_n (i := 3) hx hb dd_allocate_12 rfl hl (by decide) rfl (fun ls2 hl2 => ?_)
  refine lv_iconst (v := Int32.ofInt 1) hx hb dd_allocate_13 rfl ?_
  exact wr_end hx hb hr hlk dd_allocate_14 hP' hS' (Or.inr ⟨1, by decide, rfl, rfl, hthr⟩) (by decide) (by decide)
theorem wr_line {p : Program} {l : Launch} {e : Env} {R : Room} {s : State} {m : MethodId} {below : List Frame} {meth : Method} {c : Code} {g : sm_G} {M : sm_M} {f : Nat → Int64} (hC : wC g method_5_code 5 wr_h3 p e R s m meth c) (hI : INV M) {x1 x2 : Int32} (hP : va_P g.1 sm_Cl (lwo g M f) s.heap) :
    W p l e R s m [Value.ref g.2.2, .int x1, .int x2, .ref (g.2.2 + 59)].toArray below meth c s.heap [] 0 0 (MQ below (wQ g 107 [.int x1, .int x2] M) [Value.ref g.2.2, .int x1, .int x2, .ref (g.2.2 + 59)].toArray s 1 6 (A1 g)) (entryFrame m [Value.ref g.2.2, .int x1, .int x2, .ref (g.2.2 + 59)].toArray 5) := by
  obtain ⟨hx, htr, hb, hml, hhh, hown, hr, hlk, hX, rfl⟩ := hC
  have hl := lv_entry [Value.ref g.2.2, .int x1, .int x2, .ref (g.2.2 + 59)] (n := 5) (Nat.le_of_ble_eq_true rfl)
  rw [lg_entry_eq]
  generalize (lg_sl _ ++ List.replicate _ Slot.unset).toArray = ls at hl ⊢
  refine lv_aload_n (i := 3) hx hb dd_line_0 rfl (lv_at hl 3 rfl) ?_
  refine lv_iconst (v := 0) hx hb dd_line_1 rfl ?_
  refine lv_aload_n (i := 0) hx hb dd_line_2 rfl (lv_at hl 0 rfl) ?_
  refine lv_iload_n (i := 1) hx hb dd_line_3 rfl (lv_at hl 1 rfl) ?_
  refine lv_iload_n (i := 2) hx hb dd_line_4 rfl (lv_at hl 2 rfl) ?_
  refine wr_call hx htr hb hml hr hlk hown hX (y := 56) (z := 107) (idx := 21) (as := [.int x1, .int x2]) (f := f) (cs := [(xs_IO, 1)]) (pc := 5) (tg := 17) (by decide +kernel) (LX_w hX (wr_at 24 rfl)) rfl rfl rfl rfl rfl rfl (by decide) (by decide) (Nat.le_of_ble_eq_true rfl) (xp_line hI) (by decide) (by decide) (by decide) (by decide) hP hl.1 dd_line_5 dd_line_8 dd_line_9 dd_line_10 (by decide) dd_line_17 dd_line_18 ?_
  intro q hq hthr T' a ce L X' ha hv hc hP' hS'
  obtain ⟨r0, hts, e0⟩ := wr_e1 hhh
  cases List.mem_singleton.mp hq
  refine wr_c0 X' hown ha hv hc hts (by simp [covers, e0.1, e0.2.1]) (by rw [e0.2.2.2]; decide) (by rw [e0.2.2.2]; exact LX_w hX (wr_at 18 rfl)) (LX_w hX (wr_at 21 rfl)) ?_
  rw [e0.2.2.1]
  refine lv_astore hx hb dd_line_13 hl (by decide) rfl (fun ls2 hl2 => ?_)
  refine lv_iconst (v := Int32.ofInt 1) hx hb dd_line_15 rfl ?_
  exact wr_end hx hb hr hlk dd_line_16 hP' hS' (Or.inr ⟨1, by decide, rfl, rfl, hthr⟩) (by decide) (by decide)
theorem wr_run {p : Program} {l : Launch} {e : Env} {R : Room} {s : State} {m : MethodId} {below : List Frame} {meth : Method} {c : Code} {g : sm_G} {M : sm_M} {f : Nat → Int64} (hC : wC g method_6_code 4 wr_h4 p e R s m meth c) (hI : INV M) {x1 : Int32} (hP : va_P g.1 sm_Cl (lwo g M f) s.heap) :
    W p l e R s m [Value.ref g.2.2, .int x1, .ref (g.2.2 + 59)].toArray below meth c s.heap [] 0 0 (MQ below (wQ g 117 [.int x1] M) [Value.ref g.2.2, .int x1, .ref (g.2.2 + 59)].toArray s 1 6 (A1 g)) (entryFrame m [Value.ref g.2.2, .int x1, .ref (g.2.2 + 59)].toArray 4) := by
  obtain ⟨hx, htr, hb, hml, hhh, hown, hr, hlk, hX, rfl⟩ := hC
  have hl := lv_entry [Value.ref g.2.2, .int x1, .ref (g.2.2 + 59)] (n := 4) (Nat.le_of_ble_eq_true rfl)
  rw [lg_entry_eq]
  generalize (lg_sl _ ++ List.replicate _ Slot.unset).toArray = ls at hl ⊢
  refine lv_aload_n (i := 2) hx hb dd_run_0 rfl (lv_at hl 2 rfl) ?_
  refine lv_iconst (v := 0) hx hb dd_run_1 rfl ?_
  refine lv_aload_n (i := 0) hx hb dd_run_2 rfl (lv_at hl 0 rfl) ?_
  refine lv_iload_n (i := 1) hx hb dd_run_3 rfl (lv_at hl 1 rfl) ?_
  refine wr_call hx htr hb hml hr hlk hown hX (y := 61) (z := 117) (idx := 27) (as := [.int x1]) (f := f) (cs := [(xs_IA, 1), (xs_IS, 2)]) (pc := 4) (tg := 18) (by decide +kernel) (LX_w hX (wr_at 25 rfl)) rfl rfl rfl rfl rfl rfl (by decide) (by decide) (Nat.le_of_ble_eq_true rfl) (xp_run hI) (by decide) (by decide) (by decide) (by decide) hP hl.1 dd_run_4 dd_run_7 dd_run_8 dd_run_9 (by decide) dd_run_18 dd_run_19 ?_
  intro q hq hthr T' a ce L X' ha hv hc hP' hS'
  obtain ⟨r0, r1, hts, e0, e1⟩ := wr_e2 hhh
  rcases List.mem_cons.mp hq with rfl | hq
  · refine wr_c0 X' hown ha hv hc hts (by simp [covers, e0.1, e0.2.1]) (by rw [e0.2.2.2]; decide) (by rw [e0.2.2.2]; exact LX_w hX (wr_at 16 rfl)) (LX_w hX (wr_at 19 rfl)) ?_
    rw [e0.2.2.1]
    refine lv_astore_n (i := 3) hx hb dd_run_12 rfl hl (by decide) rfl (fun ls2 hl2 => ?_)
    refine lv_iconst (v := Int32.ofInt 1) hx hb dd_run_13 rfl ?_
    exact wr_end hx hb hr hlk dd_run_14 hP' hS' (Or.inr ⟨1, by decide, rfl, rfl, hthr⟩) (by decide) (by decide)
  · cases List.mem_singleton.mp hq
    refine wr_c1 (other := xs_IA) X' hown ha hv hc hts (by simp [covers, e1.1, e1.2.1]) (by rw [e1.2.2.2]; decide) (by rw [e1.2.2.2]; exact LX_w hX (wr_at 17 rfl)) (LX_w hX (wr_at 20 rfl)) (by simp [covers, e0.1, e0.2.1]) (by rw [e0.2.2.2]; decide) (by rw [e0.2.2.2]; exact LX_w hX (wr_at 16 rfl)) (LX_w hX (wr_at 19 rfl)) (LX_nc hX) ?_
    rw [e1.2.2.1]
    refine lv_astore_n (i := 3) hx hb dd_run_15 rfl hl (by decide) rfl (fun ls2 hl2 => ?_)
    refine lv_iconst (v := Int32.ofInt 2) hx hb dd_run_16 rfl ?_
    exact wr_end hx hb hr hlk dd_run_17 hP' hS' (Or.inr ⟨2, by decide, rfl, rfl, hthr⟩) (by decide) (by decide)
theorem wr_shown {p : Program} {l : Launch} {e : Env} {R : Room} {s : State} {m : MethodId} {below : List Frame} {meth : Method} {c : Code} {g : sm_G} {M : sm_M} {f : Nat → Int64} (hC : wC g method_7_code 4 wr_h5 p e R s m meth c) (hI : INV M) {x1 : Int32} (hP : va_P g.1 sm_Cl (lwo g M f) s.heap) :
    W p l e R s m [Value.ref g.2.2, .int x1, .ref (g.2.2 + 59)].toArray below meth c s.heap [] 0 0 (MQ below (wQ g 118 [.int x1] M) [Value.ref g.2.2, .int x1, .ref (g.2.2 + 59)].toArray s 1 6 (A1 g)) (entryFrame m [Value.ref g.2.2, .int x1, .ref (g.2.2 + 59)].toArray 4) := by
  obtain ⟨hx, htr, hb, hml, hhh, hown, hr, hlk, hX, rfl⟩ := hC
  have hl := lv_entry [Value.ref g.2.2, .int x1, .ref (g.2.2 + 59)] (n := 4) (Nat.le_of_ble_eq_true rfl)
  rw [lg_entry_eq]
  generalize (lg_sl _ ++ List.replicate _ Slot.unset).toArray = ls at hl ⊢
  refine lv_aload_n (i := 2) hx hb dd_shown_0 rfl (lv_at hl 2 rfl) ?_
  refine lv_iconst (v := 0) hx hb dd_shown_1 rfl ?_
  refine lv_aload_n (i := 0) hx hb dd_shown_2 rfl (lv_at hl 0 rfl) ?_
  refine lv_iload_n (i := 1) hx hb dd_shown_3 rfl (lv_at hl 1 rfl) ?_
  refine wr_call hx htr hb hml hr hlk hown hX (y := 62) (z := 118) (idx := 30) (as := [.int x1]) (f := f) (cs := [(xs_IO, 1)]) (pc := 4) (tg := 15) (by decide +kernel) (LX_w hX (wr_at 26 rfl)) rfl rfl rfl rfl rfl rfl (by decide) (by decide) (Nat.le_of_ble_eq_true rfl) (xp_shown hI) (by decide) (by decide) (by decide) (by decide) hP hl.1 dd_shown_4 dd_shown_7 dd_shown_8 dd_shown_9 (by decide) dd_shown_15 dd_shown_16 ?_
  intro q hq hthr T' a ce L X' ha hv hc hP' hS'
  obtain ⟨r0, hts, e0⟩ := wr_e1 hhh
  cases List.mem_singleton.mp hq
  refine wr_c0 X' hown ha hv hc hts (by simp [covers, e0.1, e0.2.1]) (by rw [e0.2.2.2]; decide) (by rw [e0.2.2.2]; exact LX_w hX (wr_at 18 rfl)) (LX_w hX (wr_at 21 rfl)) ?_
  rw [e0.2.2.1]
  refine lv_astore_n (i := 3) hx hb dd_shown_12 rfl hl (by decide) rfl (fun ls2 hl2 => ?_)
  refine lv_iconst (v := Int32.ofInt 1) hx hb dd_shown_13 rfl ?_
  exact wr_end hx hb hr hlk dd_shown_14 hP' hS' (Or.inr ⟨1, by decide, rfl, rfl, hthr⟩) (by decide) (by decide)
