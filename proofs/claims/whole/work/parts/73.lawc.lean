-- the law's own body: its calls and its reads
def lCx (g : sm_G) (p : Program) (e : Env) (s : State) (m : MethodId) (meth : Method) (c : Code) (b L : Nat) (xs : Nat → Int32) : Prop :=
  p.tables.exec = Jvm.exec ∧ e.platform.stackTraces = false ∧ c.code = code ∧ c.maxLocals = 7 ∧ s.vm.findClass wr_L = some m.cls ∧ LX g wr_ws s ∧ va_X b L xs s s.heap ∧ b < g.2.2 ∧ g.2.2 = s.heap.size ∧ L ≤ 2560 ∧ meth.sig.returnType = ret ∧ meth.locks = false
abbrev lW (p : Program) (l : Launch) (e : Env) (s : State) (m : MethodId) (below : List Frame) (meth : Method) (c : Code) (b : Nat) (H : Heap) (locs : List Loc) (n : Nat × Nat) (F : JFrame) : Prop := W p l e room_1 s m #[Value.ref b] below meth c H locs n.1 n.2 (lw_Z below #[Value.ref b] s) F
def lvi (g : sm_G) (b : Nat) (i : Nat) : List (Nat × Value) := [(0, .ref b), (1, .ref g.2.2), (2, .ref (g.2.2 + 35)), (3, .ref (g.2.2 + 59)), (4, .int (Int32.ofInt i))]
section
variable {p : Program} {l : Launch} {e : Env} {s : State} {m : MethodId} {below : List Frame} {meth : Method} {c : Code} {b L : Nat} {xs : Nat → Int32} {g : sm_G}
/-- script[i + j] -/
theorem l_read (hC : lCx g p e s m meth c b L xs) {H : Heap} {locs : List Loc} {n : Nat × Nat} (hS : va_S (A1 g) s.heap H locs) {ls : Array Slot} {tl : List (Nat × Value)} {i : Nat} (hl : lv_has ls 7 (lvi g b i ++ tl)) {pc j : Nat} {st : List Value} (hj : i + j < L)
    (d0 : decode code pc = .ok (.aload_n 0, 1)) (d1 : decode code (pc + 1) = .ok (.iload 4, 2)) (d3 : decode code (pc + 3) = .ok (.iconst j, 1)) (d4 : decode code (pc + 4) = .ok (.iadd, 1)) (d5 : decode code (pc + 5) = .ok (.iaload, 1))
    (kk : lW p l e s m below meth c b H locs n (F0 m (pc + 6) ls (.int (xs (i + j)) :: st))) : lW p l e s m below meth c b H locs n (F0 m pc ls st) := by
  obtain ⟨hx, htr, hb, hml, hown, hX, hxs, hbg, hgs, hL, hr, hlk⟩ := hC
  refine lv_aload_n (i := 0) hx hb d0 rfl (lv_at hl 0 rfl) ?_
  refine lv_iload hx hb d1 (lv_at hl 4 rfl) ?_
  refine lv_iconst hx hb d3 rfl ?_
  refine lv_iadd hx hb d4 ?_
  rw [jn_add]
  have e0 : (Int32.ofInt ((i : Int) + (j : Int))).toNatClampNeg = i + j := by rw [jn_cl (by omega) (by omega)]; omega
  have hin : vp_in (Int32.ofInt ((i : Int) + (j : Int))) L := by rw [jn_in (by omega) (by omega)]; omega
  refine va_sld hx hb hxs (by omega) (fun z => by have z : g.2.2 ≤ b := z; omega) hS hin d5 ?_
  rw [e0]; exact kk
/-- a call of a method of which the small machine's contract is known -/
theorem l_call (hC : lCx g p e s m meth c b L xs) {H : Heap} {locs : List Loc} {n : Nat × Nat} (hn : n.1 ≤ 1091 ∧ n.2 ≤ 30369) {M : sm_M} {f : Nat → Int64} (hP : va_P g.1 sm_Cl (lwo g M f) H) (hS : va_S (A1 g) s.heap H locs) {y q idx : Nat} {As : List Value} (hint : As.map (sm_tv g) = As) {Q : Option Value → sm_M → Prop}
    (h : sm_Sm g y (.ref q :: As) M Q) {w : Nat} (hlink : wr_ws[w]? = some (.methodLink wr_L idx (sm_nm y))) {ci : Nat} {rs : List Nat} (hla : sm_lay q = (3, ci, rs))
    (hq : (Nat.blt q sm_NP && (Nat.beq ci (sm_mc y) && (Nat.beq As.length (sm_ar y) && (Nat.ble (sm_lv y) 9 && (Nat.ble (8 + (sm_nl y + 11) + sm_rl y) 388 && (Nat.blt y sm_NM && !(sm_ss y))))))) = true)
    {ls : Array Slot} (hls : ls.size = 7) {pc : Nat} {st : List Value} (hst : (st.map fun v => v.category).sum ≤ 8) (d0 : decode code pc = .ok (.invokevirtual idx, 3))
    (kk : ∀ (r : Option Value) (M' : sm_M) (H' : Heap) (locs' : List Loc), Q r M' → va_P g.1 sm_Cl (lwo g M' f) H' → va_S (A1 g) s.heap H' locs' → lW p l e s m below meth c b H' locs' n (F0 m (pc + 3) ls ((r.map (sm_tv g)).toList ++ st))) :
    lW p l e s m below meth c b H locs n (F0 m pc ls (As.reverse ++ .ref (g.2.2 + q) :: st)) := by
  obtain ⟨hx, htr, hb, hml, hown, hX, hxs, hbg, hgs, hL, hr, hlk⟩ := hC
  obtain ⟨hz, hWW, hK, hxa, hxw, hnc⟩ := id hX
  obtain ⟨h1, hq⟩ := sm_an hq
  obtain ⟨h2, hq⟩ := sm_an hq
  obtain ⟨h3, hq⟩ := sm_an hq
  obtain ⟨h4, hq⟩ := sm_an hq
  obtain ⟨h8, hq⟩ := sm_an hq
  obtain ⟨h6, h7⟩ := sm_an hq
  have h1 := sm_blt h1
  have h2 := Nat.eq_of_beq_eq_true h2
  have h3 := Nat.eq_of_beq_eq_true h3
  have h4 := Nat.le_of_ble_eq_true h4
  have h8 := Nat.le_of_ble_eq_true h8
  have h6 := sm_blt h6
  have h7 : sm_ss y = false := by cases hss : sm_ss y <;> simp [hss] at h7 ⊢
  obtain ⟨v1, v2, v3⟩ := sm_mok y h6
  obtain ⟨cq, hcq, hcn⟩ := sm_mcl y h6 h7
  subst h2
  have hcode : va_Nw (sm_cw y) s := hWW.2.2.1 y h6 _ (by simp [sm_mw, h7, sm_cw])
  have hini : va_Nw (.initialized (sm_nm y).cls) s := hWW.2.2.1 y h6 _ (by simp [sm_mw, h7])
  have hins : va_Nw (.instanceMethod (sm_nm y)) s := hWW.2.2.1 y h6 _ (by simp [sm_mw, h7])
  have hsel : va_Nw (.selects (sm_nm y).cls (sm_nm y) (sm_nm y)) s := hWW.2.2.1 y h6 _ (by simp [sm_mw, h7])
  have hP0 := lwo_l hP
  have hobj := sm_lay_obj hla h1 hP0 hK hcq
  rw [hcn] at hobj
  have ea : (.ref q :: As).map (sm_tv g) = Value.ref (g.2.2 + q) :: As := by rw [List.map_cons, hint]; rfl
  have hpre : PreV s H (sm_nm y).cls (g.2.2 + q) (sm_Pc g (.ref q :: As) M) As := ⟨sm_blind, hobj, fun U hU hW => ⟨by rw [ea], by rw [hU]; exact hP0, va_K.moved hW.alike hK, sm_WW_warm hW hWW⟩⟩
  have hwk : ∀ w ∈ [sm_cw y], ∀ (a' : Array Value) (U : State), s.WarmedH U.vm → w.before a' U = true := by
    intro w hw a' U hW
    rw [List.mem_singleton.mp hw]
    exact word_at hW (Or.inl rfl) hcode
  have hRR : (sm_rm y).frames + 1 ≤ room_1.frames ∧ 8 + (sm_nl y + 11) + (sm_rm y).locals ≤ room_1.locals := ⟨by show sm_lv y + 1 ≤ 10; omega, by show 8 + (sm_nl y + 11) + sm_rl y ≤ 388; omega⟩
  have hrun := va_runV (p := p) (l := l) (e := e) (R := room_1) (s := s) (m := m) (args := #[Value.ref b]) (below := below) (meth := meth) (c := c) (H := H) (locs := locs) (cells := n.1) (slots := n.2) (Ts := []) (cc := code) (nL := 7) (own := wr_L) (C := (sm_nm y).cls) (index := idx) (n := sm_ar y) (bytes := sm_cc y) (maxL := sm_nl y) (ret := sm_re y) (As := As) (g := F0 m pc ls (As.reverse ++ .ref (g.2.2 + q) :: st)) (rest := st) ⟨hx, hb, hml, hown, fun w hw => by cases hw⟩ (h l) ⟨⟨rfl, rfl, hRR.1, hRR.2, hwk, List.mem_singleton.mpr rfl, va_Nw.use rfl hcode, va_Nw.use rfl hini, v1, v2, LX_w hX (wr_at w hlink)⟩, va_Nw.use rfl hins, va_Nw.use rfl hsel⟩ hpre rfl h3 hls rfl (by show 2 * 0 + _ ≤ 8; omega) d0 ⟨by show n.1 + 0 ≤ 1091; omega, by show n.2 + 0 ≤ 30369; omega⟩
  intro T hT X
  obtain ⟨v, st₀, t, T', Lo, h0, X', hLo, e1, e2, ⟨o, M', hqq, ho, hP', hz', hkp⟩, stp⟩ := hrun T hT X
  cases ho
  rw [h0] at hz' hkp
  have hS' : va_S (A1 g) s.heap T'.heap (locs ++ Lo) := ⟨Nat.le_trans hS.1 (by rw [e1]; exact hz'), fun x x1 x2 => by rw [e1, hkp x (Nat.lt_of_lt_of_le x1 hS.1) (fun z => x2 z.1)]; exact hS.2.1 x x1 x2, fun x hx => by
      rcases List.mem_append.mp hx with hx | hx
      · exact hS.2.2 x hx
      · exact (hLo x hx).1⟩
  have hP2 : va_P g.1 sm_Cl (lwo g M' f) T'.heap := by
    rw [e1]
    refine va_P.app hP' (va_P.kept (lwo_r hP) (fun k x hx => ?_))
    match k, hx with
    | 0, hx =>
      cases hx
      show t.heap[g.2.2 + 59]? = H[g.2.2 + 59]?
      exact hkp (g.2.2 + 59) (hP 59 _ lwo_o).lt (fun w => by have w : _ ∧ g.2.2 + 59 < g.2.2 + 59 := w; omega)
  obtain ⟨t2, a1, b1⟩ := kk o M' T'.heap (locs ++ Lo) hqq hP2 hS' T' rfl X'
  exact ⟨t2, stp t2 a1, b1⟩
end
section
variable {p : Program} {l : Launch} {e : Env} {s : State} {m : MethodId} {below : List Frame} {meth : Method} {c : Code} {b L : Nat} {xs : Nat → Int32} {g : sm_G}
/-- a call of one of the law's wrappers -/
theorem l_wrap (hC : lCx g p e s m meth c b L xs) {H : Heap} {locs : List Loc} {n : Nat × Nat} (hn : n.1 + 1 ≤ 1091 ∧ n.2 + 6 ≤ 30369) {M : sm_M} {f : Nat → Int64} (hP : va_P g.1 sm_Cl (lwo g M f) H) (hS : va_S (A1 g) s.heap H locs) {y : MethodName} {idx : Nat} {bytes : ByteArray} {maxL : Nat} {hh : List (Nat × Nat × Nat × Nat)} {argsL : List Value}
    {w : Nat} (w0 : wr_ws[w]? = some (.methodLink wr_L idx y)) (w1 : wr_ws[w + 1]? = some (.static y)) (w2 : wr_ws[w + 2]? = some (.codeWith y bytes maxL (some .int) hh)) (hy : y.cls = wr_L) (har : (parseMethodDescriptor y.desc).map (fun q => q.parameters.length) = some argsL.length) (hmx : maxL ≤ 100) {z : Nat} {as : List Value}
    (hbody : ∀ (s' : State) (mk : MethodId) (methk : Method) (ck : Code) (bl : List Frame), wC g bytes maxL hh p e wr_R1 s' mk methk ck → va_P g.1 sm_Cl (lwo g M f) s'.heap → W p l e wr_R1 s' mk argsL.toArray bl methk ck s'.heap [] 0 0 (MQ bl (wQ g z as M) argsL.toArray s' 1 6 (A1 g)) (entryFrame mk argsL.toArray maxL))
    {ls : Array Slot} (hls : ls.size = 7) {pc : Nat} (d0 : decode code pc = .ok (.invokestatic idx, 3))
    (kk : ∀ (k : Int32) (M' : sm_M) (f' : Nat → Int64) (H' : Heap) (locs' : List Loc), wp g z as M k f' M' → va_P g.1 sm_Cl (lwo g M' f') H' → va_S (A1 g) s.heap H' locs' → lW p l e s m below meth c b H' locs' (n.1 + 1, n.2 + 6) (F0 m (pc + 3) ls [.int k])) :
    lW p l e s m below meth c b H locs n (F0 m pc ls (argsL.reverse ++ [])) := by
  obtain ⟨hx, htr, hb, hml, hown, hX, hxs, hbg, hgs, hL, hr, hlk⟩ := hC
  have hyc : y.cls ≠ "java/lang/invoke/MethodHandle" ∧ y.cls ≠ "java/lang/invoke/VarHandle" := by rw [hy]; exact ⟨by decide +kernel, by decide +kernel⟩
  refine xi_S (Z := fun bl s' t => MQ bl (wQ g z as M) argsL.toArray s' 1 6 (A1 g) t) (R' := wr_R1) hx hb hml hown (LX_w hX (wr_at w w0)) (LX_w hX (wr_at (w + 1) w1)) (by rw [hy]; exact LX_w hX (wr_at 0 rfl)) (LX_w hX (wr_at (w + 2) w2)) hyc (by rw [hy]; decide +kernel) (argsL := argsL) (rest := []) hls (fun sig h => by rw [h] at har; exact (Option.some.inj har).symm) d0 (by decide) (by show 0 + (maxL + 11) + 170 ≤ 388; omega) (by show n.1 + 1 ≤ 1091; exact hn.1) (by show n.2 + 6 ≤ 30369; exact hn.2) ?_ ?_
  · intro s' mk methk ck bl e1 hW e2 e3 e4 e5 e6 e7
    have ag : ∀ q, q < g.2.2 → s'.heap[q]? = s.heap[q]? := fun q hq => by rw [e1]; exact hS.2.1 q (by omega) (fun z => by have z : g.2.2 ≤ q := z; omega)
    have hX' := LX_t hX hW (by rw [e1, hgs]; exact hS.1) ag
    have B := hbody s' mk methk ck bl ⟨hx, htr, e3, e4, e5, by rw [← hy]; exact e2, e6, e7, hX', rfl⟩ (by rw [e1]; exact hP)
    rw [← e1]; exact B
  · intro s' t bl e1 hz
    obtain ⟨o, -, hend, ⟨k, M', f', rfl, hP', hF', hw⟩, Lo, ⟨-, hW2, hsame⟩, hLo⟩ := hz
    refine ⟨some (.int k), Lo, 1, 6, hend, hW2, hsame, ?_⟩
    refine kk k M' f' t.heap (locs ++ Lo) hw hP' ⟨Nat.le_trans hS.1 (by rw [← e1]; exact hF'.1), fun x x1 x2 => ?_, fun x hx => ?_⟩
    · rw [hF'.2 x (by rw [e1]; exact Nat.lt_of_lt_of_le x1 hS.1) x2, e1]; exact hS.2.1 x x1 x2
    · rcases List.mem_append.mp hx with hx | hx
      · exact hS.2.2 x hx
      · exact hLo x hx
end
