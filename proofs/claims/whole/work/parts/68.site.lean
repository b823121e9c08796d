section
variable {p : Program} {l : Launch} {e : Env} {R : Room} {s : State} {m : MethodId} {args : Array Value} {below : List Frame} {meth : Method} {c : Code} {T : State} {locs : List Loc} {cells slots : Nat}
/-- the state from which the method might have been called just now -/
abbrev xs_b (T : State) (m : MethodId) (args : Array Value) (below : List Frame) : State := T.setFrames (.invoking m args :: below)
abbrev xs_R (R : Room) (cells slots : Nat) : Room := { frames := R.frames, cells := R.cells - cells, slots := R.slots - slots, locals := R.locals }
theorem xs_base (X : Stand p l e R s m args below meth c T locs cells slots) (hc : cells ≤ R.cells) (hs : slots ≤ R.slots) : Stand p l e (xs_R R cells slots) (xs_b T m args below) m args below meth c T [] 0 0 := by
  obtain ⟨g₀, hr⟩ := X.frames_eq
  obtain ⟨th, hth, -⟩ := State.frames_cons hr
  have hcur : T.cur < T.threads.size := (Array.getElem?_eq_some_iff.mp hth).1
  have hF : (xs_b T m args below).frames = .invoking m args :: below := State.frames_setFrames _ hcur
  have hm' : (xs_b T m args below).vm.method? m = some meth := X.method'
  have hmeth : ∀ mm : MethodId, (xs_b T m args below).vm.method? mm = s.vm.method? mm := fun mm => X.warmed.alike.method? mm
  have hcode : ∀ mm : MethodId, (xs_b T m args below).code? mm = s.code? mm := fun mm => by
    rw [State.code?_eq, State.code?_eq, hmeth]
  have hU : (xs_b T m args below).localsInUse = s.localsInUse := by
    rw [State.localsInUse_invoking hF hm' X.code, State.localsInUse_invoking X.frames X.method X.code]
  have hlim : e.platform.stackLimits (xs_b T m args below).me = e.platform.stackLimits s.me := (State.stackLimits_setFrames _ _ _).trans X.limits
  have hby : (xs_b T m args below).me.stackBytes = s.me.stackBytes := (State.stackBytes_setFrames _ _).trans X.bytes
  have hroom : (xs_b T m args below).hasRoom e.platform (xs_R R cells slots) = true := by
    have h := X.room
    unfold State.hasRoom at h ⊢
    rw [hU, hlim, hby, hF]
    rw [X.frames] at h
    simp only [Bool.and_eq_true, decide_eq_true_eq] at h ⊢
    obtain ⟨⟨⟨⟨h1, h2⟩, h3⟩, h4⟩, h5⟩ := h
    have z1 := X.heapSize
    have z2 := X.used
    refine ⟨⟨⟨⟨h1, h2⟩, ?_⟩, ?_⟩, ?_⟩
    · show T.heap.size + (R.cells - cells) ≤ _; omega
    · show T.slotsUsed + (R.slots - slots) ≤ _; omega
    · exact X.book
  have hhears : (xs_b T m args below).hears m below = true := by
    have h := X.hears
    cases hb : below with
    | nil => rw [hb] at h hmeth; simp only [State.hears] at h ⊢; rw [hmeth]; exact h
    | cons f r =>
      rw [hb] at h hcode hmeth
      cases f <;> simp only [State.hears] at h ⊢ <;> first | (rw [hcode]; exact h) | (rw [hmeth]; exact h) | exact h
  have hcur' : (xs_b T m args below).cur < (xs_b T m args below).threads.size := by
    show T.cur < (T.setFrames _).threads.size
    simp [State.setFrames]; exact hcur
  obtain ⟨th', hth', -⟩ := State.frames_cons hF
  have hsame := (State.sameButNew.refl (xs_b T m args below) hth').setFrames T.frames hcur'
  rw [State.setFrames_setFrames, State.setFrames_self hth] at hsame
  exact ⟨X.admits, X.cas, X.clock, hF, hroom, hhears, hm', X.code, X.here, X.tail, State.WarmedH.refl _, X.limits.trans hlim.symm, X.bytes.trans hby.symm, hsame⟩
end
/-- a word that warmer tables keep, and new cells -/
def xs_ok (w : Cond) : Bool := w.keepsFace && (w.onTables || (match w with | .laysStatic .. => true | .isRef (.static ..) => true | _ => false))
theorem xs_st {C n d : String} {args args' : Array Value} {V U : State} (hv : V.vm = U.vm) (hh : ∀ q, q < V.heap.size → U.heap[q]? = V.heap[q]?) {v : Value} (h : (Term.static C n d).eval args V none [] V = some v) : (Term.static C n d).eval args' U none [] U = some v := by
  have hf : U.fieldNamed? C n d true = V.fieldNamed? C n d true := by
    unfold State.fieldNamed? State.fieldFound?
    rw [hv]
  simp only [Term.eval] at h ⊢
  rw [hf]
  cases hn : V.fieldNamed? C n d true with
  | none => rw [hn] at h; exact h
  | some r =>
    obtain ⟨c1, k1, i1⟩ := r
    rw [hn] at h
    simp only [Option.bind_eq_bind, Option.bind_some] at h ⊢
    cases hk : k1.statics with
    | none => rw [hk] at h; exact h
    | some a =>
      rw [hk] at h
      simp only [Option.bind_some] at h ⊢
      cases hc : V.heap[a]? with
      | none => rw [hc] at h; cases h
      | some cell =>
        rw [hh a (Array.getElem?_eq_some_iff.mp hc).1, hc]
        rw [hc] at h
        exact h
theorem xs_move {w : Cond} (hw : xs_ok w = true) {s U : State} (hW : s.WarmedH U.vm) (hh : ∀ q, q < s.heap.size → U.heap[q]? = s.heap[q]?) {args args' : Array Value} (h : w.before args s = true) : w.before args' U = true := by
  unfold xs_ok at hw
  rw [Bool.and_eq_true] at hw
  have h1 : w.before args (s.setVm U.vm) = true := Cond.before_shiftedFace (State.Shifted.of_warmed hW) w hw.1 h
  rcases Bool.or_eq_true _ _ ▸ hw.2 with h2 | h2
  · exact va_tabs h2 (show (s.setVm U.vm).vm = U.vm from rfl) h1
  · have hv : (s.setVm U.vm).vm = U.vm := rfl
    have hh' : ∀ q, q < (s.setVm U.vm).heap.size → U.heap[q]? = (s.setVm U.vm).heap[q]? := hh
    generalize s.setVm U.vm = V at h1 hv hh'
    split at h2
    · rename_i C n d
      obtain ⟨c, k, i, f, a, cell, hc, hi, hst, ha, hcell, hs, hcls, hlt, hty⟩ := Cond.laysStatic_spec h1
      have hi' : U.fieldFound? C n d = some (c, k, i, f) := by
        rw [← hi]; unfold State.fieldFound?; rw [hv]
      have hcell' : U.heap[a]? = some cell := by rw [hh' a (Array.getElem?_eq_some_iff.mp hcell).1]; exact hcell
      simp [Cond.before, Cond.holds, Cond.value, ← hv, hc, hi', hst, ha, hcell', hs, hcls, hlt, hty]
    · rename_i C n d
      cases he : (Term.static C n d).eval args V none [] V with
      | none => simp [Cond.before, Cond.holds, Cond.value, he] at h1
      | some v =>
        have he' := xs_st (args' := args') hv hh' he
        simp only [Cond.before, Cond.holds, Cond.value, he, he'] at h1 ⊢
        exact h1
    · cases h2
def xs_nm : List String := ["java/lang/RuntimeException", "java/lang/Exception"]
def xs_ws (own : String) (ik ic : Nat) (X : String) : List Cond := [.classLink own ik X, .initialized X] ++ Bundle.ownAtoms0 own ic X xs_nm
def xs_X (B : Nat) (s : State) (ws : List Cond) : Prop := ∀ U : State, s.WarmedH U.vm → (∀ q, q < B → U.heap[q]? = s.heap[q]?) → ∀ w ∈ ws, ∀ A : Array Value, w.before A U = true
theorem xs_X_t {B : Nat} {s U : State} {ws : List Cond} (h : xs_X B s ws) (hW : s.WarmedH U.vm) (hh : ∀ q, q < B → U.heap[q]? = s.heap[q]?) : xs_X B U ws :=
  fun V h1 h2 => h V (State.WarmedH.trans hW h1) (fun q hq => (h2 q hq).trans (hh q hq))
theorem xs_X_0 {s : State} {ws : List Cond} (hk : ws.all xs_ok = true) {args : Array Value} (h : ∀ w ∈ ws, w.before args s = true) : xs_X s.heap.size s ws :=
  fun U h1 h2 w hw A => xs_move (List.all_eq_true.mp hk w hw) h1 h2 (h w hw)
section
variable {p : Program} {l : Launch} {e : Env} {R : Room} {s : State} {m : MethodId} {args : Array Value} {below : List Frame} {meth : Method} {c : Code} {T : State} {locs : List Loc} {cells slots : Nat}
theorem xs_same0 {s t : State} {k n : Nat} (h : s.sameButNew t [] k n) : ∀ q, q < s.heap.size → t.heap[q]? = s.heap[q]? := by
  intro q hq
  have hc : s.heap[q]? = some s.heap[q] := Array.getElem?_eq_getElem hq
  obtain ⟨c', h1, h2, h3, h4⟩ := h.2.2.2.2.2 q _ hc
  rw [h1, hc]
  have : c'.slots = s.heap[q].slots := Array.ext (by rw [h3]) (fun i i1 i2 => by
    have := h4 i (by simp)
    rw [Array.getElem?_eq_getElem i1, Array.getElem?_eq_getElem i2] at this
    exact Option.some.inj this)
  rw [h2, this]
/-- new X; dup; invokespecial X.<init>; athrow: the method ends with the new exception, nothing else has changed -/
theorem xs_throw (X : Stand p l e R s m args below meth c T locs cells slots) (hx : p.tables.exec = Jvm.exec) (htr : e.platform.stackTraces = false) (hc1 : cells + 1 ≤ R.cells) (hs6 : slots + 6 ≤ R.slots)
    {own cls : String} {ik ic : Nat} (hown : s.vm.findClass own = some m.cls) (hfit : Bundle.fit cls = true)
    (hw : ∀ w ∈ xs_ws own ik ic cls, w.before args (xs_b T m args below) = true) (hnh : c.exceptionTable.toList = [])
    {cc : ByteArray} (hb : c.code = cc) {pc : Nat} {ls : Array Slot} (hls : ls.size = c.maxLocals)
    (d0 : decode cc pc = .ok (.new ik, 3)) (d3 : decode cc (pc + 3) = .ok (.dup, 1)) (d4 : decode cc (pc + 4) = .ok (.invokespecial ic, 3)) (d7 : decode cc (pc + 7) = .ok (.athrow, 1))
    (hfr : 6 ≤ R.frames) (hlo : 90 ≤ R.locals) (hlk : meth.locks = false) :
    ∃ (t : State) (a : Addr) (ce : Cell), Steps p.tables e below (T.setTop (F0 m pc ls [])) t ∧ t.status = .running ∧ Ended t below (.threw a) ∧ s.WarmedH t.vm ∧ s.sameButNew ({ t with vm := s.vm } : State) locs (cells + 1) (slots + 6) ∧
      T.heap.size ≤ a ∧ t.heap[a]? = some ce ∧ ce.vm = .none ∧ s.vm.findClass cls = some ce.cls ∧ ∀ q, q < T.heap.size → t.heap[q]? = T.heap[q]? := by
  subst hb
  have X0 := xs_base X (by omega) (by omega)
  have hown' : (xs_b T m args below).vm.findClass own = some m.cls := (X.warmed.alike.findClass own none).trans hown
  obtain ⟨vm₁, cX, kX, hfX, hkX, -, -, X₁, st1⟩ := X0.newCold hx (own := own) (C := cls) (index := ik) (n := 6) hown' (hw _ (by simp [xs_ws])) (hw (.instantiable cls 6) (by simp [xs_ws, Bundle.ownAtoms0])) (hw (.initialized cls) (by simp [xs_ws]))
    (g := F0 m pc ls []) rfl d0 (show 0 + 1 ≤ R.cells - cells by omega) (show 0 + 6 ≤ R.slots - slots by omega)
  generalize hT : (T.setVm vm₁).pushCell { cls := cX, slots := kX.instanceTypes.map defaultValue, vm := .none } = T1 at X₁ st1
  have hcellA : T1.heap[T.heap.size]? = some (freshCell cX kX) := by rw [← hT]; exact State.heap_pushCell_size _ _
  obtain ⟨U, hsteps, hrun, hend, hW, hsame, ce, hce, K⟩ := X₁.ctorThrow0 hx htr (own := own) (cls := cls) (names := xs_nm) (ic := ic) hown' hfit (by decide +kernel)
    (fun y hy => hw y (by unfold xs_ws; exact List.mem_append_right _ hy)) (fun y hy => by cases hy) hfX hkX hcellA (Nat.le_refl _)
    (g := F0 m (pc + 4) ls [.ref T.heap.size, .ref T.heap.size]) rfl hls rfl rfl (rest := []) rfl d4 d7 (fun x hx => by rw [hnh] at hx; cases hx) (show 2 + 3 < R.frames by omega) (by simp [xs_nm, Value.category, JFrame.monitorRoom]; omega) hlk
  refine ⟨U, T.heap.size, ce, ?_, hrun, hend, ?_, ?_, Nat.le_refl _, hce, K.vm, ?_, ?_⟩
  · refine st1 _ ?_
    show Steps p.tables e below (T1.setTop (F0 m (pc + 3) ls [.ref T.heap.size])) _
    jvm_step X₁.here [X₁.here.top, hx, d3, Value.category]
    exact hsteps
  · exact State.WarmedH.trans X.warmed hW
  · have h1 : T.sameButNew ({ U with vm := T.vm } : State) [] 1 6 := by
      obtain ⟨q1, q2, q3, q4, q5, q6⟩ := hsame
      refine ⟨?_, q2, q3, q4, q5, q6⟩
      rw [State.setFrames_setFrames] at q1
      exact q1
    have h2 := X.same.trans (h1.setVm s.vm)
    rw [List.append_nil] at h2
    exact h2
  · exact (X.warmed.alike.findClass cls none).symm.trans K.cls
  · have h3 := xs_same0 hsame
    exact h3
end
def xs_IA : String := "java/lang/IllegalArgumentException"
def xs_IS : String := "java/lang/IllegalStateException"
def xs_IO : String := "java/lang/IndexOutOfBoundsException"
def xs_all : List Cond := xs_ws "SpillingColours" 55 57 xs_IA ++ (xs_ws "SpillingColours" 62 64 xs_IS ++ xs_ws "SpillingColours" 96 98 xs_IO)
/-- what is known of the run where the throwing methods run -/
def xk (g : sm_G) : sx_K := fun _ _ e R s _ _ _ _ c => e.platform.stackTraces = false ∧ 6 ≤ R.frames ∧ 90 ≤ R.locals ∧ 1 ≤ R.cells ∧ 6 ≤ R.slots ∧ c.exceptionTable.toList = [] ∧ g.2.2 ≤ s.heap.size ∧ xs_X g.2.2 s xs_all
/-- the end of a method that threw a new cls; memory is M -/
def xT (g : sm_G) (cls : String) (M : sm_M) (below : List Frame) (s t : State) : Prop := ∃ (a : Addr) (ce : Cell), t.status = .running ∧ Ended t below (.threw a) ∧ s.WarmedH t.vm ∧ (∃ L, s.sameButNew ({ t with vm := s.vm } : State) L 1 6 ∧ ∀ q ∈ L, sm_A g q.base) ∧ va_P g.1 sm_Cl (sm_wo g M) t.heap ∧ va_F (sm_A g) s t ∧ t.heap[a]? = some ce ∧ ce.vm = .none ∧ s.vm.findClass cls = some ce.cls
def xF (g : sm_G) (z : Nat) (as : List Value) (M : sm_M) (cs : List (String × Int)) : sm_F := fun below args s t => MQ below (sm_Qc g (i_ret g z as)) args s 0 0 (sm_A g) t ∨ ∃ q ∈ cs, i_thr g z as M q.2 ∧ xT g q.1 M below s t
theorem xsite {g : sm_G} {y z : Nat} {as : List Value} {M : sm_M} {cs : List (String × Int)} {cls : String} {k : Int} (hm : (cls, k) ∈ cs) (ht : i_thr g z as M k) {ik ic : Nat} (hsub : ∀ w ∈ xs_ws "SpillingColours" ik ic cls, w ∈ xs_all) (hfit : Bundle.fit cls = true) (how : sm_ow y = "SpillingColours") {pc : Nat}
    (d0 : decode (sm_cc y) pc = .ok (.new ik, 3)) (d3 : decode (sm_cc y) (pc + 3) = .ok (.dup, 1)) (d4 : decode (sm_cc y) (pc + 4) = .ok (.invokespecial ic, 3)) (d7 : decode (sm_cc y) (pc + 7) = .ok (.athrow, 1)) {L : List Value} :
    sx_Go g y (xk g) (0, 0) (xF g z as M cs) pc L [] M := by
  intro p l e R s m args below meth c H locs ls hC hL hP hS T hT X
  obtain ⟨⟨k1, k2, k3, k4, k5, k6, k7, k8⟩, -, hx, hb, hml, hown, hWW, hK, hr, hlk, hfr, hrl⟩ := hC
  subst hT
  have ag : ∀ q, q < g.2.2 → T.heap[q]? = s.heap[q]? := fun q hq => hS.2.1 q (by omega) (fun z => by have := z.1; omega)
  obtain ⟨t, a, ce, h1, h2, h3, h4, h5, h6, h7, h8, h9, h10⟩ := xs_throw X hx k1 (show 0 + 1 ≤ R.cells by omega) (show 0 + 6 ≤ R.slots by omega) (own := "SpillingColours") (cls := cls) (ik := ik) (ic := ic) (by rw [← how]; exact hown) hfit
    (fun w hw => k8 (xs_b T m args below) X.warmed ag w (hsub w hw) args) k6 hb (pc := pc) (ls := ls) (by rw [hL.1, hml]) d0 d3 d4 d7 k2 k3 hlk
  refine ⟨t, h1, Or.inr ⟨(cls, k), hm, ht, a, ce, h2, h3, h4, ⟨locs, h5, hS.2.2⟩, ?_, ?_, h7, h8, h9⟩⟩
  · exact va_P.kept hP (fun j x hx => h10 x.1 ((hP j x hx).lt))
  · refine ⟨?_, fun q q1 q2 => ?_⟩
    · have := h5.2.1; exact this
    · rw [h10 q (Nat.lt_of_lt_of_le q1 hS.1)]; exact hS.2.1 q q1 q2
theorem xs_in1 : ∀ w ∈ xs_ws "SpillingColours" 55 57 xs_IA, w ∈ xs_all := fun w hw => List.mem_append_left _ hw
theorem xs_in2 : ∀ w ∈ xs_ws "SpillingColours" 62 64 xs_IS, w ∈ xs_all := fun w hw => List.mem_append_right _ (List.mem_append_left _ hw)
theorem xs_in3 : ∀ w ∈ xs_ws "SpillingColours" 96 98 xs_IO, w ∈ xs_all := fun w hw => List.mem_append_right _ (List.mem_append_right _ hw)
section
variable {g : sm_G} {M : sm_M}
theorem xp_put (h : INV M) {x1 x2 x3 x4 : Int32} : sx_Go g 51 (xk g) (0, 0) (xF g 83 [.int x1, .int x2, .int x3, .int x4] M [(xs_IA, 1), (xs_IS, 2)]) 0 [.ref 0, .int x1, .int x2, .int x3, .int x4] [] M :=
  xq_put h (fun _ _ _ _ z => Or.inl z) (fun t => xsite (by simp) t xs_in1 (by decide +kernel) rfl (by decide +kernel) (by decide +kernel) (by decide +kernel) (by decide +kernel)) (fun t => xsite (by simp) t xs_in2 (by decide +kernel) rfl (by decide +kernel) (by decide +kernel) (by decide +kernel) (by decide +kernel))
theorem xp_allocate (h : INV M) {x1 : Int32} : sx_Go g 54 (xk g) (0, 0) (xF g 104 [.int x1] M [(xs_IA, 1)]) 0 [.ref 0, .int x1, .null] [] M :=
  xq_allocate h (fun _ _ _ _ z => Or.inl z) (fun t => xsite (by simp) t xs_in1 (by decide +kernel) rfl (by decide +kernel) (by decide +kernel) (by decide +kernel) (by decide +kernel))
theorem xp_line (h : INV M) {x1 x2 : Int32} : sx_Go g 56 (xk g) (0, 0) (xF g 107 [.int x1, .int x2] M [(xs_IO, 1)]) 0 [.ref 0, .int x1, .int x2] [] M :=
  xq_line h (fun _ _ _ _ z => Or.inl z) (fun t => xsite (by simp) t xs_in3 (by decide +kernel) rfl (by decide +kernel) (by decide +kernel) (by decide +kernel) (by decide +kernel))
theorem xp_run (h : INV M) {x1 : Int32} : sx_Go g 61 (xk g) (0, 0) (xF g 117 [.int x1] M [(xs_IA, 1), (xs_IS, 2)]) 0 [.ref 0, .int x1] [] M :=
  xq_run h (fun _ _ _ _ z => Or.inl z) (fun t => xsite (by simp) t xs_in1 (by decide +kernel) rfl (by decide +kernel) (by decide +kernel) (by decide +kernel) (by decide +kernel)) (fun t => xsite (by simp) t xs_in2 (by decide +kernel) rfl (by decide +kernel) (by decide +kernel) (by decide +kernel) (by decide +kernel))
theorem xp_shown (h : INV M) {x1 : Int32} : sx_Go g 62 (xk g) (0, 0) (xF g 118 [.int x1] M [(xs_IO, 1)]) 0 [.ref 0, .int x1] [] M :=
  xq_shown h (fun _ _ _ _ z => Or.inl z) (fun t => xsite (by simp) t xs_in3 (by decide +kernel) rfl (by decide +kernel) (by decide +kernel) (by decide +kernel) (by decide +kernel))
end
