def cCx (g : sm_G) (own : String) (cc : ByteArray) (p : Program) (s : State) (m : MethodId) (meth : Method) (c : Code) : Prop :=
  p.tables.exec = Jvm.exec ∧ c.code = cc ∧ c.maxLocals = 1 ∧ s.vm.findClass own = some m.cls ∧ meth.name = "<init>" ∧ meth.sig.returnType = none ∧ meth.locks = false ∧ KX g s
def kS (g : sm_G) (s : State) (k : Nat) (E : Nat → va_E) (H : Heap) (locs : List Loc) (cells : Nat) : Prop := va_P g.1 sm_Cl (pw g k E) H ∧ H.size = g.2.2 + k ∧ va_S (A1 g) s.heap H locs ∧ g.2.2 ≤ s.heap.size ∧ s.heap.size + cells = g.2.2 + k
def ka (c N : Nat) : va_E := .inl (c, N, .inl (fun _ => 0))
def kl (c N : Nat) : va_E := .inl (c, N, .inr (.inl (fun _ => 0)))
section
variable {p : Program} {l : Launch} {e : Env} {R : Room} {s : State} {m : MethodId} {args : Array Value} {below : List Frame} {meth : Method} {c : Code} {H : Heap} {locs : List Loc} {cells slots : Nat} {Q : State → Prop} {g : sm_G} {k : Nat} {E : Nat → va_E} {cc : ByteArray} {pc : Nat} {ls : Array Slot} {rest : List Value}
theorem kS_push {H1 : Heap} {x : va_E} (hS : kS g s k E H locs cells) (z1 : H1.size = g.2.2 + k + 1) (o1 : ∀ q, q < g.2.2 + k → H1[q]? = H[q]?) (he : va_at g.1 sm_Cl (g.2.2 + k, x) H1) : kS g s (k + 1) (kup E k x) H1 locs (cells + 1) := by
  obtain ⟨hP, hz, ⟨s1, s2, s3⟩, hg, hk⟩ := hS
  refine ⟨pw_push hP (fun q hq => o1 q (by omega)) he, by omega, ⟨by omega, fun q h1 h2 => ?_, s3⟩, hg, by omega⟩
  rw [o1 q (by omega)]; exact s2 q h1 h2
theorem kx_a {ty : FieldType} (h : (Cond.arrayClass ty).before #[] s = true) {A : Array Value} : (Cond.arrayClass ty).before A s = true := word_at (State.WarmedH.refl s) (Or.inr ⟨ty, rfl⟩) h
theorem kw_newi (hx : p.tables.exec = Jvm.exec) (hb : c.code = cc) (hK : KX g s) (hS : kS g s k E H locs cells) {n : Int32} {N : Nat} (hn : ¬ n < 0) (hN : n.toNatClampNeg = N) (hby : N * 4 ≤ 536870912) (hc : cells + 1 ≤ R.cells) (hs : slots + N ≤ R.slots) (hdg : decode cc pc = .ok (.newarray .int, 2))
    (kk : ∀ H1 : Heap, kS g s (k + 1) (kup E k (ka g.2.1.1 N)) H1 locs (cells + 1) → W p l e R s m args below meth c H1 locs (cells + 1) (slots + N) Q (F0 m (pc + 2) ls (.ref (g.2.2 + k) :: rest))) : W p l e R s m args below meth c H locs cells slots Q (F0 m pc ls (.int n :: rest)) := by
  refine va_newaK (atype := .int) hx hb (kx_a hK.2.2.2.1) rfl hdg rfl hn hN hby hc hs hS.2.1 (fun H1 cA e1 z1 o1 hAr hNm => kk H1 (kS_push hS z1 o1 ?_))
  have hr : s.vm.findClass ("[" ++ (newarray.typeOf ArrayType.int).toString) = some g.2.1.1 := (hK.2.1.2 0 _ rfl).2
  cases hr.symm.trans hNm
  exact e1
theorem kw_newz (hx : p.tables.exec = Jvm.exec) (hb : c.code = cc) (hK : KX g s) (hS : kS g s k E H locs cells) {n : Int32} {N : Nat} (hn : ¬ n < 0) (hN : n.toNatClampNeg = N) (hby : N * 1 ≤ 536870912) (hc : cells + 1 ≤ R.cells) (hs : slots + N ≤ R.slots) (hdg : decode cc pc = .ok (.newarray .boolean, 2))
    (kk : ∀ H1 : Heap, kS g s (k + 1) (kup E k (ka g.2.1.2.1 N)) H1 locs (cells + 1) → W p l e R s m args below meth c H1 locs (cells + 1) (slots + N) Q (F0 m (pc + 2) ls (.ref (g.2.2 + k) :: rest))) : W p l e R s m args below meth c H locs cells slots Q (F0 m pc ls (.int n :: rest)) := by
  refine va_newaK (atype := .boolean) hx hb (kx_a hK.2.2.2.2.1) rfl hdg rfl hn hN hby hc hs hS.2.1 (fun H1 cA e1 z1 o1 hAr hNm => kk H1 (kS_push hS z1 o1 ?_))
  have hr : s.vm.findClass ("[" ++ (newarray.typeOf ArrayType.boolean).toString) = some g.2.1.2.1 := (hK.2.1.2 1 _ rfl).2
  cases hr.symm.trans hNm
  exact e1
theorem kw_newl (hx : p.tables.exec = Jvm.exec) (hb : c.code = cc) (hK : KX g s) (hS : kS g s k E H locs cells) {n : Int32} {N : Nat} (hn : ¬ n < 0) (hN : n.toNatClampNeg = N) (hby : N * 8 ≤ 536870912) (hc : cells + 1 ≤ R.cells) (hs : slots + N ≤ R.slots) (hdg : decode cc pc = .ok (.newarray .long, 2))
    (kk : ∀ H1 : Heap, kS g s (k + 1) (kup E k (kl g.2.1.2.2 N)) H1 locs (cells + 1) → W p l e R s m args below meth c H1 locs (cells + 1) (slots + N) Q (F0 m (pc + 2) ls (.ref (g.2.2 + k) :: rest))) : W p l e R s m args below meth c H locs cells slots Q (F0 m pc ls (.int n :: rest)) := by
  refine va_newaK (atype := .long) hx hb (kx_a hK.2.2.2.2.2) rfl hdg rfl hn hN hby hc hs hS.2.1 (fun H1 cA e1 z1 o1 hAr hNm => kk H1 (kS_push hS z1 o1 ?_))
  have hr : s.vm.findClass ("[" ++ (newarray.typeOf ArrayType.long).toString) = some g.2.1.2.2 := (hK.2.1.2 2 _ rfl).2
  cases hr.symm.trans hNm
  exact e1
theorem kw_new (hx : p.tables.exec = Jvm.exec) (hb : c.code = cc) (hK : KX g s) (hS : kS g s k E H locs cells) {own C : String} {T : u_T} {N ci cd idx : Nat} (hown : s.vm.findClass own = some m.cls) (hcl : sm_Cl[ci]? = some (C, T, N)) (hfk : (sm_fk ci)[0]? = some cd) (w1 : (Cond.classLink own idx C).before args s = true) (w2 : (Cond.instantiable C N).before args s = true) (w3 : (Cond.initialized C).before args s = true)
    {fs : List Value} (hfs : ∀ j, j < N → defaultValue (sm_cty ci j) = vp_V fs j) (hc : cells + 1 ≤ R.cells) (hs : slots + N ≤ R.slots) (hdg : decode cc pc = .ok (.new idx, 3))
    (kk : ∀ H1 : Heap, kS g s (k + 1) (kup E k (.inr (ci, fs))) H1 locs (cells + 1) → W p l e R s m args below meth c H1 locs (cells + 1) (slots + N) Q (F0 m (pc + 3) ls (.ref (g.2.2 + k) :: rest))) : W p l e R s m args below meth c H locs cells slots Q (F0 m pc ls rest) := by
  have hKn := hK.2.1.1 ci _ hcl
  have hts : ∀ w ∈ u_ws C T N, w.before args s = true := fun w hw => va_Nw.use (sm_g1 (sm_u_good hw)) (hK.1.1 ci _ hcl w hw)
  refine W.newcK hx hb hown w1 w2 w3 rfl hdg hc hs hKn.2.1 hS.2.1 (fun H1 kC hkC e1 z1 o1 => kk H1 (kS_push hS z1 o1 ?_))
  exact ⟨_, hcl, (u_born (sm_cty ci) hts (fun w hw => hw) hKn hkC e1 (kw_cl hfk hcl).1).to hfs⟩
theorem kw_size {g0 : JFrame} (h : H.size ≤ s.heap.size + cells → W p l e R s m args below meth c H locs cells slots Q g0) : W p l e R s m args below meth c H locs cells slots Q g0 := fun T hT X => h (by rw [← hT]; exact X.heapSize) T hT X
theorem kS_put {H1 : Heap} {locs1 : List Loc} {p0 : Nat} {x : va_E} (hS : kS g s k E H locs cells) (hp : p0 < k) (hz : H1.size ≤ s.heap.size + cells) (h1 : va_P g.1 sm_Cl ((pw g k E).set p0 (g.2.2 + p0, x)) H1) (h3 : va_S (A1 g) s.heap H1 locs1) : kS g s k (kup E p0 x) H1 locs1 cells := by
  rw [pw_set] at h1
  have z := (h1 (k - 1) _ (pw_get (by omega))).lt
  have z : g.2.2 + (k - 1) < H1.size := z
  have := hS.2.2.2.2
  exact ⟨h1, by omega, h3, hS.2.2.2⟩
/-- a final field gets a reference -/
theorem kw_putF {own : String} (hC : cCx g own cc p s m meth c) (hS : kS g s k E H locs cells) {T : u_T} {N ci cd b idx p0 : Nat} {fs : List Value} {v : Value} {ty : FieldType} (hp : p0 < k) (hE : E p0 = .inr (ci, fs)) (hcl : sm_Cl[ci]? = some (own, T, N)) (hfk : (sm_fk ci)[0]? = some cd) (hbN : b < N) (hown : (T b).1 = own) (hfin : (T b).2.2.2 = true)
    (w1 : (Cond.fieldLink own idx own (T b).2.1 (T b).2.2.1).before args s = true) (hd : parseFieldDescriptor (T b).2.2.1 = some ty) (hn : narrow ty v = v) (hfit : fits ty v = true) (hl : b < fs.length) (hdg : decode cc pc = .ok (.putfield idx, 3))
    (kk : ∀ (H1 : Heap) (locs1 : List Loc), kS g s k (kup E p0 (.inr (ci, fs.set b v))) H1 locs1 cells → W p l e R s m args below meth c H1 locs1 cells slots Q (F0 m (pc + 3) ls rest)) : W p l e R s m args below meth c H locs cells slots Q (F0 m pc ls (v :: .ref (g.2.2 + p0) :: rest)) := by
  obtain ⟨hx, hb, hml, how, hnm, hr, hlk, hK⟩ := hC
  have hts : ∀ w ∈ u_ws own T N, w.before args s = true := fun w hw => va_Nw.use (sm_g1 (sm_u_good hw)) (hK.1.1 ci _ hcl w hw)
  have hq := kw_cl hfk hcl
  exact va_putF (ref := own) hx hb hts (fun w hw => hw) (sm_cty ci) hq.1 hq.2 how hK.2.1 hS.1 pw_D hS.2.2.1 p0 (by rw [pw_get hp, hE]) hcl b hbN w1 (fun x hx => by rw [hown] at hx; exact hx) hfin hnm hown hd hn hfit hl hdg (fun H1 locs1 h1 _ h3 => kw_size (fun hz => kk H1 locs1 (kS_put hS hp hz h1 h3)))
theorem kw_putN {own : String} (hC : cCx g own cc p s m meth c) (hS : kS g s k E H locs cells) {T : u_T} {N ci cd b idx p0 : Nat} {fs : List Value} {v : Value} {ty : FieldType} (hp : p0 < k) (hE : E p0 = .inr (ci, fs)) (hcl : sm_Cl[ci]? = some (own, T, N)) (hfk : (sm_fk ci)[0]? = some cd) (hbN : b < N) (hown : (T b).1 = own) (hfin : (T b).2.2.2 = false)
    (w1 : (Cond.fieldLink own idx own (T b).2.1 (T b).2.2.1).before args s = true) (hd : parseFieldDescriptor (T b).2.2.1 = some ty) (hn : narrow ty v = v) (hfit : fits ty v = true) (hl : b < fs.length) (hdg : decode cc pc = .ok (.putfield idx, 3))
    (kk : ∀ (H1 : Heap) (locs1 : List Loc), kS g s k (kup E p0 (.inr (ci, fs.set b v))) H1 locs1 cells → W p l e R s m args below meth c H1 locs1 cells slots Q (F0 m (pc + 3) ls rest)) : W p l e R s m args below meth c H locs cells slots Q (F0 m pc ls (v :: .ref (g.2.2 + p0) :: rest)) := by
  obtain ⟨hx, hb, hml, how, hnm, hr, hlk, hK⟩ := hC
  have hts : ∀ w ∈ u_ws own T N, w.before args s = true := fun w hw => va_Nw.use (sm_g1 (sm_u_good hw)) (hK.1.1 ci _ hcl w hw)
  have hq := kw_cl hfk hcl
  exact va_put (ref := own) hx hb hts (fun w hw => hw) (sm_cty ci) hq.1 hq.2 how hK.2.1 hS.1 pw_D hS.2.2.1 p0 (by rw [pw_get hp, hE]) hcl b hbN w1 (fun x hx => by rw [hown] at hx; exact hx) hfin hd hn hfit hl hdg (fun H1 locs1 h1 _ h3 => kw_size (fun hz => kk H1 locs1 (kS_put hS hp hz h1 h3)))
/-- a call of a constructor -/
theorem kw_ran {C : String} {k' : Nat} {E' : Nat → va_E} {mc ms p0 : Nat} {a : Array Value} (hk : k' = k + mc) (hS : kS g s k E H locs cells) (hrun : va_Run p l e R s m args below meth c H locs cells slots mc ms (F0 m pc ls (.ref (g.2.2 + p0) :: rest)) rest (ctQ g k' E' a) (A1 g))
    (kk : ∀ (H1 : Heap) (locs1 : List Loc), kS g s k' E' H1 locs1 (cells + mc) → W p l e R s m args below meth c H1 locs1 (cells + mc) (slots + ms) Q (F0 m (pc + 3) ls rest)) : W p l e R s m args below meth c H locs cells slots Q (F0 m pc ls (.ref (g.2.2 + p0) :: rest)) := by
  intro T hT X
  obtain ⟨v, st₀, t, T', Lo, h0, X', hLo, e1, e2, ⟨ho, hP', hz', hF'⟩, stp⟩ := hrun T hT X
  cases ho
  obtain ⟨hP, hz, ⟨s1, s2, s3⟩, hg, hkk⟩ := hS
  have f1 := hF'.1
  rw [h0] at f1
  obtain ⟨t2, a1, b1⟩ := kk T'.heap (locs ++ Lo) ⟨by rw [e1]; exact hP', by rw [e1]; exact hz', ⟨by rw [e1]; omega, fun q q1 q2 => by rw [e1, hF'.2 q (by rw [h0]; omega) q2, h0]; exact s2 q q1 q2, fun q hq => by
    rcases List.mem_append.mp hq with h | h
    · exact s3 q h
    · exact hLo q h⟩, hg, by omega⟩ T' rfl X'
  exact ⟨t2, stp t2 a1, b1⟩
theorem ct_pre {p0 : Nat} (hK : KX g s) (hS : kS g s k E H locs cells) : PreS s H (ctP g k E p0) (.ref (g.2.2 + p0) :: []) := ⟨ctP_blind, fun U hU hW => ⟨rfl, by rw [hU]; exact hS.1, by rw [hU]; exact hS.2.1, KX_t hK hW⟩⟩
end
section
variable {l : Launch} {g : sm_G} {k : Nat} {E : Nat → va_E}
theorem ct_entry {C : String} {bytes : ByteArray} {fr lo mc ms p0 k' : Nat} {E' : Nat → va_E} (hpl : plainName C = true)
    (body : ∀ (p : Program) (e : Env) (s : State) (m : MethodId) (below : List Frame) (meth : Method) (c : Code) (ls : Array Slot), cCx g C bytes p s m meth c → kS g s k E s.heap [] 0 → lv_has ls 1 [(0, .ref (g.2.2 + p0))] →
      W p l e { frames := fr, cells := mc, slots := ms, locals := lo } s m #[.ref (g.2.2 + p0)] below meth c s.heap [] 0 0 (MQ below (ctQ g k' E') #[.ref (g.2.2 + p0)] s mc ms (A1 g)) (F0 m 0 ls [])) : ctM l g C bytes fr lo mc ms k E p0 k' E' := by
  refine Met.ofW (cc := bytes) (maxL := 1) (ret := none) hpl rfl ?_
  intro p e s m args below meth c s₁ B hml hv
  obtain ⟨rfl, hP, hz, hK⟩ := hv
  have hown : s.vm.findClass C = some m.cls := findClass_of_methodNamed B.named
  have hnm : meth.name = "<init>" := (name_of_methodNamed B.named B.method).1
  have hl := lv_entry [Value.ref (g.2.2 + p0)] (n := 1) (Nat.le_of_ble_eq_true rfl)
  have e0 := lg_entry_eq (m := m) (vs := [Value.ref (g.2.2 + p0)]) (n := 1)
  rw [e0]
  exact body p e s m below meth c _ ⟨B.exec, B.bytes, hml, hown, hnm, B.returns, B.notSynchronized, hK⟩ ⟨hP, hz, va_S.rf, by omega, by omega⟩ hl
variable {p : Program} {e : Env} {R : Room} {s : State} {m : MethodId} {args : Array Value} {below : List Frame} {meth : Method} {c : Code} {H : Heap} {locs : List Loc} {cells slots : Nat} {Q : State → Prop} {cc : ByteArray} {pc : Nat} {ls : Array Slot} {rest : List Value}
theorem kw_callN {own : String} (hC : cCx g own cc p s m meth c) (hls : ls.size = 1) (hS : kS g s k E H locs cells) {C : String} {bytes : ByteArray} {fr lo mc ms p0 k' idx : Nat} {E' : Nat → va_E} (hM : ctM l g C bytes fr lo mc ms k E p0 k' E') (hk : k' = k + mc)
    (jc jl : Nat) (w1 : ct_ws[jc]? = some (.code (ct_n C) bytes 1 none)) (w2 : ct_ws[jc + 1]? = some (.initialized C)) (w3 : ct_ws[jc + 2]? = some (.instanceMethod (ct_n C))) (w4 : ct_ws[jl]? = some (.methodLinkNest own idx (ct_n C) "SpillingColours")) (hy : C ≠ "java/lang/invoke/MethodHandle" ∧ C ≠ "java/lang/invoke/VarHandle")
    (r1 : fr + 1 ≤ R.frames) (r2 : 8 + (1 + 11) + lo ≤ R.locals) (r3 : cells + mc ≤ R.cells) (r4 : slots + ms ≤ R.slots) (hst : (rest.map fun v => v.category).sum ≤ 8) (hdg : decode cc pc = .ok (.invokespecial idx, 3))
    (kk : ∀ (H1 : Heap) (locs1 : List Loc), kS g s k' E' H1 locs1 (cells + mc) → W p l e R s m args below meth c H1 locs1 (cells + mc) (slots + ms) Q (F0 m (pc + 3) ls rest)) : W p l e R s m args below meth c H locs cells slots Q (F0 m pc ls (.ref (g.2.2 + p0) :: rest)) := by
  obtain ⟨hx, hb, hml, how, hnm, hr, hlk, hK⟩ := id hC
  have hcode : (Cond.code (ct_n C) bytes 1 none).before args s = true := KX_w hK jc w1 rfl
  have hwk : ∀ w ∈ [Cond.code (ct_n C) bytes 1 none], ∀ (a' : Array Value) (U : State), s.WarmedH U.vm → w.before a' U = true := by
    intro w hw a' U hW
    rw [List.mem_singleton.mp hw]
    exact word_at hW (Or.inl rfl) hcode
  have hrun := va_runIN (p := p) (l := l) (e := e) (R := R) (s := s) (m := m) (args := args) (below := below) (meth := meth) (c := c) (H := H) (locs := locs) (cells := cells) (slots := slots) (Ts := []) (cc := cc) (nL := 1) (own := own) (host := "SpillingColours") (index := idx) (n := 0) (bytes := bytes) (maxL := 1) (As := []) (b := g.2.2 + p0) (rest := rest) (g := F0 m pc ls (.ref (g.2.2 + p0) :: rest)) ⟨hx, hb, hml, how, fun w hw => by cases hw⟩ hM ⟨⟨⟨rfl, rfl, r1, r2, hwk, List.mem_singleton.mpr rfl⟩, hcode, KX_w hK (jc + 1) w2 rfl, hy, fun sig h => by
      have h' : (parseMethodDescriptor "()V").map (fun d => d.parameters.length) = some 0 := by decide +kernel
      have h : parseMethodDescriptor "()V" = some sig := h
      rw [h] at h'
      exact (Option.some.inj h').symm, KX_w hK jl w4 rfl⟩, rfl, KX_w hK (jc + 2) w3 rfl⟩ (ct_pre hK hS) rfl rfl hls rfl (by show 2 * 0 + _ ≤ 8; omega) hdg ⟨r3, r4⟩
  exact kw_ran (C := C) hk hS hrun kk
theorem kw_ret {own : String} (hC : cCx g own cc p s m meth c) (hS : kS g s k E H locs cells) (hdg : decode cc pc = .ok (.return_, 1)) : W p l e R s m args below meth c H locs cells slots (MQ below (ctQ g k E) args s cells slots (A1 g)) (F0 m pc ls []) := by
  obtain ⟨hx, hb, hml, how, hnm, hr, hlk, hK⟩ := id hC
  exact W.vret hx hb hr (fun t ht hW => ⟨rfl, by rw [ht]; exact hS.1, by rw [ht]; exact hS.2.1, hS.2.2.1.F ht⟩) hS.2.2.1.2.2 hdg hlk
end
