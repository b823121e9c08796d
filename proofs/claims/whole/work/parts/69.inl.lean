section
variable {p : Program} {l : Launch} {e : Env} {R : Room} {s : State} {m : MethodId} {args : Array Value} {below : List Frame} {meth : Method} {c : Code} {H : Heap} {locs : List Loc} {cells slots : Nat} {Q : State → Prop}
theorem xi_weak {tb : Tables} {e : Env} {mid below : List Frame} {a b : State} (h : Steps tb e (mid ++ below) a b) : Steps tb e below a b := by
  obtain ⟨k, h1, h2⟩ := h
  exact ⟨k, h1, fun j hj => (h2 j hj).weaken⟩
/-- a static method with handlers, walked where it is called -/
theorem xi_S {cc : ByteArray} {nL : Nat} (hx : p.tables.exec = Jvm.exec) (hb : c.code = cc) (hml : c.maxLocals = nL) {own : String} {idx : Nat} {y : MethodName} {bytes : ByteArray} {maxL : Nat} {ret : Option FieldType} {hh : List (Nat × Nat × Nat × Nat)}
    (hown : s.vm.findClass own = some m.cls) (hlink : (Cond.methodLink own idx y).before args s = true) (hstat : (Cond.static y).before args s = true) (hini : (Cond.initialized y.cls).before args s = true)
    (hcw : (Cond.codeWith y bytes maxL ret hh).before args s = true) (hy : y.cls ≠ "java/lang/invoke/MethodHandle" ∧ y.cls ≠ "java/lang/invoke/VarHandle") (hpl : plainName y.cls = true)
    {pc : Nat} {ls : Array Slot} {argsL rest : List Value} (hls : ls.size = nL) (hn : ∀ sig, parseMethodDescriptor y.desc = some sig → argsL.length = sig.parameters.length) (hdg : decode cc pc = .ok (.invokestatic idx, 3))
    {R' : Room} (r1 : R'.frames + 1 ≤ R.frames) (r2 : (rest.map fun v => v.category).sum + (maxL + 11) + R'.locals ≤ R.locals) (r3 : cells + R'.cells ≤ R.cells) (r4 : slots + R'.slots ≤ R.slots)
    {Z : List Frame → State → State → Prop}
    (body : ∀ (s' : State) (mk : MethodId) (methk : Method) (ck : Code) (bl : List Frame), s'.heap = H → s.WarmedH s'.vm → s'.vm.findClass y.cls = some mk.cls → ck.code = bytes → ck.maxLocals = maxL → ck.exceptionTable.toList.map (fun h => (h.startPc, h.endPc, h.handlerPc, h.catchType)) = hh → methk.sig.returnType = ret → methk.locks = false →
      W p l e R' s' mk argsL.toArray bl methk ck H [] 0 0 (Z bl s') (entryFrame mk argsL.toArray maxL))
    (fin : ∀ (s' t : State) (bl : List Frame), s'.heap = H → Z bl s' t → ∃ (v : Option Value) (L : List Loc) (k n : Nat), Ended t bl (.returned v) ∧ s'.WarmedH t.vm ∧ s'.sameButNew ({ t with vm := s'.vm } : State) L k n ∧
      W p l e R s m args below meth c t.heap (locs ++ L) (cells + k) (slots + n) Q (F0 m (pc + 3) ls (v.toList ++ rest))) :
    W p l e R s m args below meth c H locs cells slots Q (F0 m pc ls (argsL.reverse ++ rest)) := by
  intro T hT X
  subst hb; subst hT
  obtain ⟨mk, methM, cM, hnamed, hmethM, hcodeM, hby, hmx, hhs, hret, hlk, hsig⟩ := Cond.codeWith_spec hcw
  have hstatic : methM.isStatic = true := Cond.static_spec hnamed hmethM hstat
  obtain ⟨kP, hkP, hkn⟩ := className_of_methodNamed hnamed
  have hinitP : kP.init = .initialized := Cond.initialized_spec (findClass_of_methodNamed hnamed) hkP hini
  obtain ⟨vm₁, X₁, hstep₁⟩ := X.invokestatic hx hown hlink hnamed hmethM hstatic hkP hinitP hy (g := F0 m pc ls (argsL.reverse ++ rest)) rfl (argsL := argsL) (rest := rest) (hn _ hsig) rfl hdg
  have hal := X₁.warmed.alike
  have hpk : (T.setVm vm₁).plainMethod mk := by
    intro k hk
    obtain ⟨k', hk', he⟩ := hal.2.2 _ _ hkP
    cases hk.symm.trans hk'
    refine plain_of_name ?_
    have : k.name = kP.name := by first | rw [he] | exact he.1 | (rw [he.1])
    rw [this, hkn]; exact hpl
  obtain ⟨Y, hin⟩ := X₁.into (g := F0 m pc ls rest) rfl (by rw [hml]; exact hls) hdg argsL.toArray (R' := R') ((hal.method? mk).trans hmethM) hcodeM hlk hpk r1 (by simp only [JFrame.monitorRoom]; simp; rw [hmx]; omega) r3 r4
  have B := body ((T.setVm vm₁).calling (F0 m pc ls rest) mk argsL.toArray) mk methM cM (.java (F0 m pc ls rest) :: below) rfl X₁.warmed ((hal.findClass y.cls none).trans (findClass_of_methodNamed hnamed)) hby hmx hhs hret hlk
  rw [hmx] at Y hin
  obtain ⟨t, st, hz⟩ := B (((T.setVm vm₁).setTop (F0 m pc ls rest)).pushFrame (.java (entryFrame mk argsL.toArray maxL))) rfl Y
  obtain ⟨v, L, k, n, hend, hW, hsame, hk⟩ := fin ((T.setVm vm₁).calling (F0 m pc ls rest) mk argsL.toArray) t (.java (F0 m pc ls rest) :: below) rfl hz
  obtain ⟨T', X', -, -, ht⟩ := X₁.outOf (g := F0 m pc ls rest) rfl hdg hend hW hsame
  have hth : T'.heap = t.heap := by rw [ht]; rfl
  obtain ⟨t2, a1, b1⟩ := hk T' hth X'
  refine ⟨t2, hstep₁ _ (fun acts => ?_), b1⟩
  rw [hin acts]
  refine (xi_weak (mid := [.java (F0 m pc ls rest)]) st).trans ?_
  rw [ht]; exact a1
/-- a method of an object, walked where it is called; it returns or throws -/
theorem xi_V {cc : ByteArray} {nL : Nat} (hx : p.tables.exec = Jvm.exec) (hb : c.code = cc) (hml : c.maxLocals = nL) {own C : String} {idx : Nat} {y : MethodName} {bytes : ByteArray} {maxL : Nat} {ret : Option FieldType}
    (hown : s.vm.findClass own = some m.cls) (hlink : (Cond.methodLink own idx y).before args s = true) (hinst : (Cond.instanceMethod y).before args s = true) (hsel : (Cond.selects C y y).before args s = true)
    (hcw : (Cond.code y bytes maxL ret).before args s = true) (hy : y.cls ≠ "java/lang/invoke/MethodHandle" ∧ y.cls ≠ "java/lang/invoke/VarHandle") (hpl : plainName y.cls = true)
    {b : Addr} {cellB : Cell} (hcell : H[b]? = some cellB) (hobj : cellB.vm.isStatics = false) (hcls : s.vm.findClass C = some cellB.cls)
    {pc : Nat} {ls : Array Slot} {argsL rest : List Value} (hls : ls.size = nL) (hn : ∀ sig, parseMethodDescriptor y.desc = some sig → argsL.length = sig.parameters.length) (hdg : decode cc pc = .ok (.invokevirtual idx, 3))
    {R' : Room} (r1 : R'.frames + 1 ≤ R.frames) (r2 : (rest.map fun v => v.category).sum + (maxL + 11) + R'.locals ≤ R.locals) (r3 : cells + R'.cells ≤ R.cells) (r4 : slots + R'.slots ≤ R.slots)
    {Z : List Frame → State → State → Prop}
    (body : ∀ (s' : State) (mk : MethodId) (methk : Method) (ck : Code) (bl : List Frame), s'.heap = H → s.WarmedH s'.vm → s'.vm.findClass y.cls = some mk.cls → ck.code = bytes → ck.maxLocals = maxL → ck.exceptionTable.toList = [] → methk.sig.returnType = ret → methk.locks = false →
      W p l e R' s' mk (.ref b :: argsL).toArray bl methk ck H [] 0 0 (Z bl s') (entryFrame mk (.ref b :: argsL).toArray maxL))
    (fin : ∀ (s' t : State) (bl : List Frame), s'.heap = H → s.WarmedH s'.vm → Z bl s' t → (∃ (v : Option Value) (L : List Loc) (k n : Nat), Ended t bl (.returned v) ∧ s'.WarmedH t.vm ∧ s'.sameButNew ({ t with vm := s'.vm } : State) L k n ∧
        W p l e R s m args below meth c t.heap (locs ++ L) (cells + k) (slots + n) Q (F0 m (pc + 3) ls (v.toList ++ rest))) ∨
      ∃ (a : Addr) (L : List Loc) (k n : Nat), Ended t bl (.threw a) ∧ s'.WarmedH t.vm ∧ s'.sameButNew ({ t with vm := s'.vm } : State) L k n ∧
        ∀ T' : State, T'.heap = t.heap → Stand p l e R s m args below meth c T' (locs ++ L) (cells + k) (slots + n) → ∃ t2, Steps p.tables e below ((T'.setTop (F0 m pc ls rest)).pushFrame (.throwing a)) t2 ∧ Q t2) :
    W p l e R s m args below meth c H locs cells slots Q (F0 m pc ls (argsL.reverse ++ .ref b :: rest)) := by
  intro T hT X
  subst hb; subst hT
  obtain ⟨mk, hnamed⟩ := Cond.code_named hcw
  obtain ⟨methM, cM, hmethM, hcodeM, hby, hmx, hret, hlk, hemp, hsig⟩ := Cond.code_spec hnamed hcw
  obtain ⟨mk1, meth1, hn1, hm1, hst1, hab1⟩ := Cond.instanceMethod_spec hinst
  cases hnamed.symm.trans hn1
  cases hmethM.symm.trans hm1
  obtain ⟨kP, hkP, hkn⟩ := className_of_methodNamed hnamed
  obtain ⟨c2, r2', m2, q1, q2, q3, q4, kQ, hkQ, hni⟩ := Cond.selects_spec hsel
  cases hcls.symm.trans q1
  cases (State.methodFound?_of_named hnamed hy).symm.trans q2
  cases hnamed.symm.trans q3
  have hselP : selectMethod e.platform s.vm cellB.cls mk = .method mk := by rw [Launch.admits_selectMethod X.admits]; exact q4
  obtain ⟨vm₁, X₁, hstep₁⟩ := X.invokevirtual hx hown hlink hnamed hmethM hst1 hkQ hni hy (a := b) (cell := cellB) hcell (fun z h => by rw [h] at hobj; cases hobj) hselP hmethM hab1 hkQ hni (g := F0 m pc ls (argsL.reverse ++ .ref b :: rest)) rfl (argsL := argsL) (rest := rest) (hn _ hsig) rfl hdg
  generalize (Value.ref b :: argsL).toArray = aa at body hstep₁
  have hal := X₁.warmed.alike
  have hpk : (T.setVm vm₁).plainMethod mk := by
    intro k hk
    obtain ⟨k', hk', he⟩ := hal.2.2 _ _ hkP
    cases hk.symm.trans hk'
    refine plain_of_name ?_
    have : k.name = kP.name := by first | rw [he] | exact he.1 | (rw [he.1])
    rw [this, hkn]; exact hpl
  obtain ⟨Y, hin⟩ := X₁.into (g := F0 m pc ls rest) rfl (by rw [hml]; exact hls) hdg aa (R' := R') ((hal.method? mk).trans hmethM) hcodeM hlk hpk r1 (by simp only [JFrame.monitorRoom]; simp; rw [hmx]; omega) r3 r4
  have hnh : cM.exceptionTable.toList = [] := by
    have := Array.isEmpty_iff.mp hemp
    rw [this]
  have B := body ((T.setVm vm₁).calling (F0 m pc ls rest) mk aa) mk methM cM (.java (F0 m pc ls rest) :: below) rfl X₁.warmed ((hal.findClass y.cls none).trans (findClass_of_methodNamed hnamed)) hby hmx hnh hret hlk
  rw [hmx] at Y hin
  obtain ⟨t, st, hz⟩ := B (((T.setVm vm₁).setTop (F0 m pc ls rest)).pushFrame (.java (entryFrame mk aa maxL))) rfl Y
  rcases fin ((T.setVm vm₁).calling (F0 m pc ls rest) mk aa) t (.java (F0 m pc ls rest) :: below) rfl X₁.warmed hz with ⟨v, L, k, n, hend, hW, hsame, hk⟩ | ⟨a, L, k, n, hend, hW, hsame, hk⟩
  · obtain ⟨T', X', -, -, ht⟩ := X₁.outOf (g := F0 m pc ls rest) rfl hdg hend hW hsame
    have hth : T'.heap = t.heap := by rw [ht]; rfl
    obtain ⟨t2, a1, b1⟩ := hk T' hth X'
    refine ⟨t2, hstep₁ _ (fun acts => ?_), b1⟩
    rw [hin acts]
    refine (xi_weak (mid := [.java (F0 m pc ls rest)]) st).trans ?_
    rw [ht]; exact a1
  · obtain ⟨T', X', -, -, ht⟩ := X₁.outOfThrown (g := F0 m pc ls rest) rfl hend hW hsame
    have hth : T'.heap = t.heap := by rw [ht, Stand.throwing_heap]
    obtain ⟨t2, a1, b1⟩ := hk T' hth X'
    refine ⟨t2, hstep₁ _ (fun acts => ?_), b1⟩
    rw [hin acts]
    refine (xi_weak (mid := [.java (F0 m pc ls rest)]) st).trans ?_
    rw [ht]; exact a1
end
theorem xs_nc {a b : String} {s U : State} (hW : s.WarmedH U.vm) {args args' : Array Value} (h : (Cond.not (.castable a b)).before args s = true) : (Cond.not (.castable a b)).before args' U = true := by
  have hv := Cond.holds_not_iff.mp h
  refine Cond.holds_not_iff.mpr ?_
  simp only [Cond.value] at hv ⊢
  rw [hW.alike.findClass a none, hW.alike.findClass b none]
  cases ha : s.vm.findClass a with
  | none => rw [ha] at hv; simp at hv
  | some x =>
    cases hb : s.vm.findClass b with
    | none => rw [ha, hb] at hv; simp at hv
    | some y =>
      rw [ha, hb] at hv
      simp only at hv ⊢
      rw [hW.alike.assignable]; exact hv
-- the law's own array
def ou (g : sm_G) (f : Nat → Int64) : Nat × va_E := (g.2.2 + 59, .inl (g.2.1.2.2, 1, .inr (.inl f)))
def lwo (g : sm_G) (M : sm_M) (f : Nat → Int64) : va_W := sm_wo g M ++ [ou g f]
abbrev A1 (g : sm_G) : Nat → Prop := fun q => g.2.2 ≤ q
theorem sm_wo_len {g : sm_G} {M : sm_M} : (sm_wo g M).length = 59 := by simp [sm_wo, sm_NP]
theorem lwo_l {g : sm_G} {M : sm_M} {f : Nat → Int64} {H : Heap} (h : va_P g.1 sm_Cl (lwo g M f) H) : va_P g.1 sm_Cl (sm_wo g M) H := fun k q hk => h k q (by
  unfold lwo
  rw [List.getElem?_append_left (List.getElem?_eq_some_iff.mp hk).1]; exact hk)
theorem lwo_o {g : sm_G} {M : sm_M} {f : Nat → Int64} : (lwo g M f)[59]? = some (ou g f) := by
  unfold lwo
  rw [List.getElem?_append_right (by rw [sm_wo_len]; exact Nat.le_refl _), sm_wo_len]; rfl
theorem lwo_r {g : sm_G} {M : sm_M} {f : Nat → Int64} {H : Heap} (h : va_P g.1 sm_Cl (lwo g M f) H) : va_P g.1 sm_Cl [ou g f] H := fun k q hk => h 59 q (by
  match k, hk with
  | 0, hk => rw [lwo_o]; exact hk
  | k + 1, hk => cases hk)
theorem lwo_D {g : sm_G} {M : sm_M} {f : Nat → Int64} : va_D (A1 g) (lwo g M f) := by
  refine va_D.app (va_D.weaken sm_wo_D (fun k q _ h => h.1)) ⟨fun i j p q hi hj _ => ?_, fun k q hk => ?_⟩ (fun i j p q hi hj e => ?_)
  · have := (List.getElem?_eq_some_iff.mp hi).1
    have := (List.getElem?_eq_some_iff.mp hj).1
    simp at *; omega
  · match k, hk with
    | 0, hk => cases hk; exact Nat.le_add_right _ _
  · obtain ⟨h1, rfl⟩ := sm_wo_of hi
    match j, hj with
    | 0, hj =>
      cases hj
      have e : g.2.2 + i = g.2.2 + 59 := e
      have : i < 59 := h1
      omega
theorem lwo_set {g : sm_G} {M : sm_M} {f f' : Nat → Int64} : (lwo g M f).set 59 (ou g f') = lwo g M f' := by
  unfold lwo
  rw [List.set_append_right _ _ (by rw [sm_wo_len]; exact Nat.le_refl _), sm_wo_len]; rfl
/-- what one knows where the law runs -/
def LX (g : sm_G) (ws : List Cond) (U : State) : Prop := g.2.2 ≤ U.heap.size ∧ sm_WW U ∧ va_K g.1 sm_Cl (sm_ty g) U ∧ xs_X g.2.2 U xs_all ∧ xs_X g.2.2 U ws ∧ (Cond.not (.castable xs_IS xs_IA)).before #[] U = true
theorem LX_t {g : sm_G} {ws : List Cond} {s U : State} (h : LX g ws s) (hW : s.WarmedH U.vm) (hz : g.2.2 ≤ U.heap.size) (hh : ∀ q, q < g.2.2 → U.heap[q]? = s.heap[q]?) : LX g ws U :=
  ⟨hz, sm_WW_warm hW h.2.1, va_K.moved hW.alike h.2.2.1, xs_X_t h.2.2.2.1 hW hh, xs_X_t h.2.2.2.2.1 hW hh, xs_nc hW h.2.2.2.2.2⟩
theorem LX_w {g : sm_G} {ws : List Cond} {U : State} (h : LX g ws U) {w : Cond} (hw : w ∈ ws) {A : Array Value} : w.before A U = true := h.2.2.2.2.1 U (State.WarmedH.refl U) (fun _ _ => rfl) w hw A
/-- what a wrapper's call comes to -/
def wp (g : sm_G) (z : Nat) (as : List Value) (M : sm_M) (k : Int32) (f' : Nat → Int64) (M' : sm_M) : Prop :=
  (k = 0 ∧ ∃ r : Int32, f' 0 = r.toInt64 ∧ i_ret g z as (some (.int r)) M') ∨ ∃ kk : Int, (kk = 1 ∨ kk = 2) ∧ k = Int32.ofInt kk ∧ M' = M ∧ i_thr g z as M kk
def wQ (g : sm_G) (z : Nat) (as : List Value) (M : sm_M) : Array Value → State → Outcome → State → Prop := fun _ st o t => ∃ (k : Int32) (M' : sm_M) (f' : Nat → Int64), o = .returned (some (.int k)) ∧ va_P g.1 sm_Cl (lwo g M' f') t.heap ∧ va_F (A1 g) st t ∧ wp g z as M k f' M'
section
variable {p : Program} {l : Launch} {e : Env} {R : Room} {s : State} {m : MethodId} {args : Array Value} {below : List Frame} {meth : Method} {c : Code} {H : Heap} {locs : List Loc} {cells slots : Nat}
theorem wr_end {cc : ByteArray} (hx : p.tables.exec = Jvm.exec) (hb : c.code = cc) (hr : meth.sig.returnType = some .int) (hlk : meth.locks = false) {g : sm_G} {z : Nat} {as : List Value} {M M' : sm_M} {f' : Nat → Int64} {k : Int32} {pc : Nat} {ls : Array Slot} (d0 : decode cc pc = .ok (.ireturn, 1))
    (hP : va_P g.1 sm_Cl (lwo g M' f') H) (hS : va_S (A1 g) s.heap H locs) (hw : wp g z as M k f' M') (h1 : cells ≤ 1) (h6 : slots ≤ 6) :
    W p l e R s m args below meth c H locs cells slots (MQ below (wQ g z as M) args s 1 6 (A1 g)) (F0 m pc ls [.int k]) :=
  W.widen h1 h6 (W.iret hx hb hr (fun t ht hW => ⟨k, M', f', rfl, by rw [ht]; exact hP, hS.F ht, hw⟩) hS.2.2 d0 hlk)
end
/-- one row of a table whose class may be unresolved: the search resolves it, then takes the exception or goes on -/
theorem xc_row {Q : Handler → Pre} {E : CtlPost} {e : Env} {d : Bool} {acts : List Action} {S : State} {f : JFrame} {a : Addr} {x : ExceptionTableEntry} {t : List ExceptionTableEntry} {cl : ClassId} {cell : Cell} (hcov : covers x f.pc = true) (h0 : x.catchType ≠ 0)
    (hl : S.vm.ClassLinks e.platform f.method.cls x.catchType cl) (ha : S.heap[a]? = some cell) (hobj : ∀ k, cell.vm ≠ .statics k) (hk : ∃ k, S.vm.classes[cell.cls]? = some k) {vm' : Vm} (hvm : S.vm.noted f.method.cls x.catchType (.cls cl) = vm') :
    Sem.wp (findHandler.go f a (x :: t)) Q E e d acts S ↔ if S.vm.assignable cell.cls cl = true then Q (.found x.handlerPc) d acts (S.setVm vm') else Sem.wp (findHandler.go f a t) Q E e d acts (S.setVm vm') := by
  subst hvm
  have hal : S.vm.Alike (S.vm.noted f.method.cls x.catchType (.cls cl)) := (Vm.Alike.refl S.vm).noted _ _ _
  obtain ⟨q1, q2⟩ := (resolveClass_links e.toSetting hl).op (op := VmOp.resolveClass f.method.cls x.catchType) rfl
  obtain ⟨_, _, _, kc, _, _, _, _, _, hkc, _, _⟩ := hl.here
  obtain ⟨kx, hkx⟩ := hk
  obtain ⟨kx', hkx', -⟩ := hal.2.2 _ _ hkx
  obtain ⟨kc', hkc', -⟩ := hal.2.2 _ _ hkc
  have hz := hal.assignable cell.cls cl
  simp only [covers] at hcov
  cases hf : S.vm.assignable cell.cls cl <;> rw [hf] at hz <;> simp [findHandler.go, hcov, h0, q1, q2, ha, hobj, hkx', hkc', hz, VmOp.dirties, VmOp.acts]
/-- the search has found a handler, and left its tables: the method goes on there -/
theorem xc_step {tb : Tables} {e : Env} {u target : State} {fr : JFrame} {c : Code} {below : List Frame} {a : Addr} (h : At u fr.method c below) {pc : Nat} {vm' : Vm}
    (hf : ∀ (Q : Handler → Pre) (E : CtlPost) (d : Bool) (acts : List Action), Sem.wp (findHandler fr a) Q E e d acts ((u.setTop fr).pushFrame (.throwing a)) ↔ Q (.found pc) d acts (((u.setTop fr).pushFrame (.throwing a)).setVm vm'))
    (hrest : Steps tb e below ((u.setVm vm').setTop { fr with pc := pc, stack := [.ref a] }) target) : Steps tb e below ((u.setTop fr).pushFrame (.throwing a)) target := by
  obtain ⟨g₀, hg⟩ := Option.isSome_iff_exists.mp h.top
  obtain ⟨r, hr⟩ := State.topJava?_eq_some.mp hg
  have hr' : (u.setVm vm').frames = .java g₀ :: r := hr
  have hs : (stepThrowing e ((u.setTop fr).pushFrame (.throwing a)) a (.java fr :: u.frames.tail)).1 = (u.setVm vm').setTop { fr with pc := pc, stack := [.ref a] } := by
    simp only [stepThrowing, searchFrame, vmDo]
    generalize hgo : Sem.go _ e false [] _ = res
    obtain ⟨as, rfl, -⟩ := Sem.eq_ok_of hgo (a := Handler.found pc) (s' := ((u.setTop fr).pushFrame (.throwing a)).setVm vm') (acts' := []) (by simp [hf _ _ _ _])
    rw [State.setTop_of_frames _ hr', hr]
    show ((((u.setTop fr).pushFrame (.throwing a)).setVm vm').setFrames _) = _
    rw [State.pushFrame, State.setTop_of_frames _ hr, State.setFrames_setFrames]
    show ((u.setVm vm').setFrames _).setFrames _ = _
    rw [State.setFrames_setFrames]
    rfl
  obtain ⟨hgo, hw⟩ := h.throwing a
  refine Steps.head hgo hw ?_
  rw [stepThread_throwing (frames_entered h.top _), hs]
  exact hrest
section
variable {p : Program} {l : Launch} {e : Env} {R : Room} {s : State} {m : MethodId} {args : Array Value} {below : List Frame} {meth : Method} {c : Code} {Q : State → Prop} {T' : State} {L : List Loc} {k n : Nat}
/-- a row out of its word: it can be resolved in the tables as they are now, and what that leaves is warmer -/
theorem xc_link (X : Stand p l e R s m args below meth c T' L k n) {own cls : String} (hown : s.vm.findClass own = some m.cls) {vm : Vm} (hW : s.WarmedH vm) {i : Nat} (hlink : (Cond.classLink own i cls).before args s = true) {cl : ClassId} (hc : s.vm.findClass cls = some cl) :
    vm.ClassLinks e.platform m.cls i cl ∧ s.WarmedH (vm.noted m.cls i (.cls cl)) := by
  have hpl : e.platform.magicAccessors = ({} : Platform).magicAccessors := by rw [X.admits.platform]
  obtain ⟨c', hc', hcl⟩ := Cond.classLink_spec hown hlink e.platform hpl
  cases hc.symm.trans hc'
  obtain ⟨_, _, _, _, hd, _, _, _, _, _, _, hopen⟩ := hcl.here
  exact ⟨hW.classLinks hcl, hW.noted hd hopen (State.rightAt_cls hcl)⟩
theorem xc_cls {U : State} (hW : s.WarmedH U.vm) {cls : String} {cl : ClassId} (hc : s.vm.findClass cls = some cl) : ∃ kc, U.vm.classes[cl]? = some kc :=
  Vm.classAt_of_findClass ((hW.alike.findClass cls none).trans hc)
theorem xc_self {cls : String} {cl : ClassId} (hc : s.vm.findClass cls = some cl) (hcast : (Cond.castable cls cls).before args s = true) {vm : Vm} (hW : s.WarmedH vm) : vm.assignable cl cl = true := by
  obtain ⟨c1, c2, h1, h2, h3⟩ := Cond.castable_spec hcast
  cases hc.symm.trans h1
  cases hc.symm.trans h2
  rw [hW.alike.assignable]; exact h3
theorem xc_not {cls other : String} {cl co : ClassId} (hc : s.vm.findClass cls = some cl) (ho : s.vm.findClass other = some co) (hno : (Cond.not (.castable cls other)).before args s = true) {vm : Vm} (hW : s.WarmedH vm) : vm.assignable cl co = false := by
  have hv := Cond.holds_not_iff.mp hno
  simp only [Cond.value, hc, ho] at hv
  rw [hW.alike.assignable]; exact Option.some.inj hv
/-- the first row takes it -/
theorem wr_c0 (X : Stand p l e R s m args below meth c T' L k n) {own cls : String} (hown : s.vm.findClass own = some m.cls) {a : Addr} {ce : Cell} (ha : T'.heap[a]? = some ce) (hv : ce.vm = .none) (hc : s.vm.findClass cls = some ce.cls) {pc : Nat} {ls : Array Slot} {st : List Value}
    {x : ExceptionTableEntry} {rest : List ExceptionTableEntry} (hsplit : c.exceptionTable.toList = x :: rest) (hcov : covers x pc = true) (h0 : x.catchType ≠ 0) (hlink : (Cond.classLink own x.catchType cls).before args s = true) (hcast : (Cond.castable cls cls).before args s = true)
    (hk : W p l e R s m args below meth c T'.heap L k n Q (F0 m x.handlerPc ls [.ref a])) : ∃ t2, Steps p.tables e below ((T'.setTop (F0 m pc ls st)).pushFrame (.throwing a)) t2 ∧ Q t2 := by
  obtain ⟨h1, h2⟩ := xc_link X hown X.warmed hlink hc
  obtain ⟨t2, a1, b1⟩ := hk (T'.setVm (T'.vm.noted m.cls x.catchType (.cls ce.cls))) rfl (X.noted h2)
  refine ⟨t2, xc_step (fr := F0 m pc ls st) X.here (fun Q E d acts => ?_) a1, b1⟩
  rw [W.findHandler_eq (meth := meth) (code := c) X.method' X.code, hsplit]
  have k1 : Sem.wp (findHandler.go (F0 m pc ls st) a (x :: rest)) Q E e d acts ((T'.setTop (F0 m pc ls st)).pushFrame (.throwing a)) ↔ if T'.vm.assignable ce.cls ce.cls = true then Q (.found x.handlerPc) d acts (((T'.setTop (F0 m pc ls st)).pushFrame (.throwing a)).setVm (T'.vm.noted m.cls x.catchType (.cls ce.cls))) else Sem.wp (findHandler.go (F0 m pc ls st) a rest) Q E e d acts (((T'.setTop (F0 m pc ls st)).pushFrame (.throwing a)).setVm (T'.vm.noted m.cls x.catchType (.cls ce.cls))) :=
    xc_row (S := (T'.setTop (F0 m pc ls st)).pushFrame (.throwing a)) (f := F0 m pc ls st) (cell := ce) hcov h0 h1 ha (fun k h => by rw [hv] at h; cases h) (xc_cls (U := T') X.warmed hc) rfl
  rw [if_pos (xc_self hc hcast X.warmed)] at k1
  exact k1
/-- the first row passes it, the second takes it -/
theorem wr_c1 (X : Stand p l e R s m args below meth c T' L k n) {own cls other : String} (hown : s.vm.findClass own = some m.cls) {a : Addr} {ce : Cell} (ha : T'.heap[a]? = some ce) (hv : ce.vm = .none) (hc : s.vm.findClass cls = some ce.cls) {pc : Nat} {ls : Array Slot} {st : List Value}
    {x y : ExceptionTableEntry} {rest : List ExceptionTableEntry} (hsplit : c.exceptionTable.toList = y :: x :: rest) (hcov : covers x pc = true) (h0 : x.catchType ≠ 0) (hlink : (Cond.classLink own x.catchType cls).before args s = true) (hcast : (Cond.castable cls cls).before args s = true)
    (hcovy : covers y pc = true) (h0y : y.catchType ≠ 0) (hlinky : (Cond.classLink own y.catchType other).before args s = true) (hoo : (Cond.castable other other).before args s = true) (hno : (Cond.not (.castable cls other)).before args s = true)
    (hk : W p l e R s m args below meth c T'.heap L k n Q (F0 m x.handlerPc ls [.ref a])) : ∃ t2, Steps p.tables e below ((T'.setTop (F0 m pc ls st)).pushFrame (.throwing a)) t2 ∧ Q t2 := by
  obtain ⟨co, _, ho, _, _⟩ := Cond.castable_spec hoo
  obtain ⟨g1, g2⟩ := xc_link X hown X.warmed hlinky ho
  obtain ⟨h1, h2⟩ := xc_link X hown g2 hlink hc
  obtain ⟨t2, a1, b1⟩ := hk (T'.setVm ((T'.vm.noted m.cls y.catchType (.cls co)).noted m.cls x.catchType (.cls ce.cls))) rfl (X.noted h2)
  refine ⟨t2, xc_step (fr := F0 m pc ls st) X.here (fun Q E d acts => ?_) a1, b1⟩
  rw [W.findHandler_eq (meth := meth) (code := c) X.method' X.code, hsplit]
  have k1 : Sem.wp (findHandler.go (F0 m pc ls st) a (y :: x :: rest)) Q E e d acts ((T'.setTop (F0 m pc ls st)).pushFrame (.throwing a)) ↔ if T'.vm.assignable ce.cls co = true then Q (.found y.handlerPc) d acts (((T'.setTop (F0 m pc ls st)).pushFrame (.throwing a)).setVm (T'.vm.noted m.cls y.catchType (.cls co))) else Sem.wp (findHandler.go (F0 m pc ls st) a (x :: rest)) Q E e d acts (((T'.setTop (F0 m pc ls st)).pushFrame (.throwing a)).setVm (T'.vm.noted m.cls y.catchType (.cls co))) :=
    xc_row (S := (T'.setTop (F0 m pc ls st)).pushFrame (.throwing a)) (f := F0 m pc ls st) (cell := ce) hcovy h0y g1 ha (fun k h => by rw [hv] at h; cases h) (xc_cls (U := T') X.warmed hc) rfl
  rw [if_neg (by rw [xc_not hc ho hno X.warmed]; decide)] at k1
  have k2 : Sem.wp (findHandler.go (F0 m pc ls st) a (x :: rest)) Q E e d acts (((T'.setTop (F0 m pc ls st)).pushFrame (.throwing a)).setVm (T'.vm.noted m.cls y.catchType (.cls co))) ↔ if (T'.vm.noted m.cls y.catchType (.cls co)).assignable ce.cls ce.cls = true then Q (.found x.handlerPc) d acts (((T'.setTop (F0 m pc ls st)).pushFrame (.throwing a)).setVm ((T'.vm.noted m.cls y.catchType (.cls co)).noted m.cls x.catchType (.cls ce.cls))) else Sem.wp (findHandler.go (F0 m pc ls st) a rest) Q E e d acts (((T'.setTop (F0 m pc ls st)).pushFrame (.throwing a)).setVm ((T'.vm.noted m.cls y.catchType (.cls co)).noted m.cls x.catchType (.cls ce.cls))) :=
    xc_row (S := ((T'.setTop (F0 m pc ls st)).pushFrame (.throwing a)).setVm (T'.vm.noted m.cls y.catchType (.cls co))) (f := F0 m pc ls st) (cell := ce) hcov h0 h1 ha (fun k h => by rw [hv] at h; cases h) (xc_cls (U := T'.setVm (T'.vm.noted m.cls y.catchType (.cls co))) g2 hc) rfl
  rw [if_pos (xc_self hc hcast g2)] at k2
  exact k1.trans k2
end
/-- the way into a method walked in a known run -/
theorem sx_entry {g : sm_G} {y : Nat} {K : sx_K} {n : Nat × Nat} {Fi : sm_F} {as : List Value} {M : sm_M} {p : Program} {l : Launch} {e : Env} {R : Room} {s : State} {m : MethodId} {below : List Frame} {meth : Method} {c : Code} {H : Heap}
    (hlen : (sm_l0 as).length ≤ sm_nl y) (h : sx_Go g y K n Fi 0 (sm_l0 as ++ List.replicate (sm_nl y - (sm_l0 as).length) .null) [] M)
    (hC : sx_Cx g y K n p l e R s m (as.map (sm_tv g)).toArray below meth c) (hP : va_P g.1 sm_Cl (sm_wo g M) H) (hS : va_S (sm_A g) s.heap H []) :
    W p l e R s m (as.map (sm_tv g)).toArray below meth c H [] n.1 n.2 (Fi below (as.map (sm_tv g)).toArray s) (entryFrame m (as.map (sm_tv g)).toArray (sm_nl y)) := by
  have hl := lv_entry (as.map (sm_tv g)) (n := sm_nl y) (by rw [sm_l0_len]; exact hlen)
  rw [lg_entry_eq]
  refine h p l e R s m _ below meth c H [] _ hC ⟨hl.1, hl.2.1, fun k hk => ?_⟩ hP hS
  rw [sm_at_app] at hk ⊢
  have h9 := hl.2.2 _ (sm_l0_at g as 0 k hk)
  rwa [Nat.zero_add] at h9
def wr_R : Room := { frames := 6, cells := 1, slots := 6, locals := 149 }
section
variable {p : Program} {l : Launch} {e : Env} {R : Room} {s : State} {m : MethodId} {args : Array Value} {below : List Frame} {meth : Method} {c : Code}
/-- the wrapper from its call on -/
theorem wr_call {cc : ByteArray} {nL : Nat} (hx : p.tables.exec = Jvm.exec) (htr : e.platform.stackTraces = false) (hb : c.code = cc) (hml : c.maxLocals = nL) (hr : meth.sig.returnType = some .int) (hlk : meth.locks = false) {own : String} (hown : s.vm.findClass own = some m.cls) {g : sm_G} {ws : List Cond} (hX : LX g ws s)
    {y z idx : Nat} {as : List Value} {M : sm_M} {f : Nat → Int64} {cs : List (String × Int)} (hpl : plainName (sm_nm y).cls = true) (hlink : (Cond.methodLink own idx (sm_nm y)).before args s = true) (hy : Nat.blt y sm_NM = true) (hys : sm_ss y = false) (hmc : sm_mc y = 8) (hret : sm_re y = some .int) (has : as.length = sm_ar y) (hint : as.map (sm_tv g) = as)
    (hlv : sm_lv y ≤ 6) (hrl : sm_rl y ≤ 149) (hlen : (sm_l0 (.ref 0 :: as)).length ≤ sm_nl y) (hgo : sx_Go g y (xk g) (0, 0) (xF g z as M cs) 0 (sm_l0 (.ref 0 :: as) ++ List.replicate (sm_nl y - (sm_l0 (.ref 0 :: as)).length) .null) [] M)
    (r1 : 7 ≤ R.frames) (r2 : 2 + (sm_nl y + 11) + 149 ≤ R.locals) (r3 : 1 ≤ R.cells) (r4 : 6 ≤ R.slots)
    (hP : va_P g.1 sm_Cl (lwo g M f) s.heap) {pc tg : Nat} {off : Int} {ls : Array Slot} (hls : ls.size = nL)
    (d0 : decode cc pc = .ok (.invokevirtual idx, 3)) (d3 : decode cc (pc + 3) = .ok (.i2l, 1)) (d4 : decode cc (pc + 4) = .ok (.lastore, 1)) (d5 : decode cc (pc + 5) = .ok (.goto off, 3)) (ht : ((pc + 5 : Nat) : Int) + off = (tg : Int)) (d8 : decode cc tg = .ok (.iconst 0, 1)) (d9 : decode cc (tg + 1) = .ok (.ireturn, 1))
    (hcat : ∀ q ∈ cs, i_thr g z as M q.2 → ∀ (T' : State) (a : Addr) (ce : Cell) (L : List Loc), Stand p l e R s m args below meth c T' L 1 6 → T'.heap[a]? = some ce → ce.vm = .none → s.vm.findClass q.1 = some ce.cls → va_P g.1 sm_Cl (lwo g M f) T'.heap → va_S (A1 g) s.heap T'.heap L →
      ∃ t2, Steps p.tables e below ((T'.setTop (F0 m pc ls [.int 0, .ref (g.2.2 + 59)])).pushFrame (.throwing a)) t2 ∧ MQ below (wQ g z as M) args s 1 6 (A1 g) t2) :
    W p l e R s m args below meth c s.heap [] 0 0 (MQ below (wQ g z as M) args s 1 6 (A1 g)) (F0 m pc ls (as.reverse ++ .ref g.2.2 :: [.int 0, .ref (g.2.2 + 59)])) := by
  obtain ⟨hz, hWW, hK, hxa, hxw, hnc⟩ := id hX
  have hy' := sm_blt hy
  obtain ⟨v1, v2, v3⟩ := sm_mok y hy'
  obtain ⟨cq, hcq, hcn⟩ := sm_mcl y hy' hys
  have hcode : va_Nw (sm_cw y) s := hWW.2.2.1 y hy' _ (by simp [sm_mw, hys, sm_cw])
  have hins : va_Nw (.instanceMethod (sm_nm y)) s := hWW.2.2.1 y hy' _ (by simp [sm_mw, hys])
  have hsel : va_Nw (.selects (sm_nm y).cls (sm_nm y) (sm_nm y)) s := hWW.2.2.1 y hy' _ (by simp [sm_mw, hys])
  have hP0 := lwo_l hP
  have hobj := sm_lay_obj (q := 0) (ci := 8) (rs := _) rfl (by decide) hP0 hK (by rw [← hmc]; exact hcq)
  rw [hcn] at hobj
  obtain ⟨cellB, o1, o2, o3⟩ := hobj
  have ea : ((.ref 0 :: as).map (sm_tv g)).toArray = (Value.ref g.2.2 :: as).toArray := by rw [List.map_cons, hint]; rfl
  refine xi_V (Z := fun bl s' t => xF g z as M cs bl (Value.ref g.2.2 :: as).toArray s' t) (R' := wr_R) hx hb hml (C := (sm_nm y).cls) hown hlink (va_Nw.use rfl hins) (va_Nw.use rfl hsel) (va_Nw.use rfl hcode) v1 hpl o1 o2 o3 (argsL := as) (rest := [.int 0, .ref (g.2.2 + 59)]) hls (fun sig h => by rw [has]; exact v2 sig h) d0 r1 (by show 1 + (1 + 0) + (sm_nl y + 11) + 149 ≤ _; omega) (by show 0 + 1 ≤ _; omega) (by show 0 + 6 ≤ _; omega) ?_ ?_
  · intro s' mk methk ck bl e1 hW e2 e3 e4 e5 e6 e7
    have hX' := LX_t hX hW (by rw [e1]; exact hz) (fun q _ => by rw [e1])
    have hC : sx_Cx g y (xk g) (0, 0) p l e wr_R s' mk ((.ref 0 :: as).map (sm_tv g)).toArray bl methk ck := ⟨⟨htr, by decide, by decide, by decide, by decide, e5, hX'.1, hX'.2.2.2.1⟩, ⟨by decide, by decide⟩, hx, e3, e4, e2, hX'.2.1, hX'.2.2.1, e6, e7, hlv, hrl⟩
    have B := sx_entry hlen hgo hC (H := s'.heap) (by rw [e1]; exact hP0) va_S.rf
    rw [ea] at B
    rw [← e1]
    exact B
  · intro s' t bl e1 hW hz'
    rcases hz' with ⟨o, -, hend, ⟨r, M', hi, rfl, hP', hF'⟩, L, ⟨-, hW2, hsame⟩, hL⟩ | ⟨q, hq, hthr, a, ce, -, hend, hW2, ⟨L, hsame, hL⟩, hP', hF', ha, hv, hc⟩
    · left
      have hi' := hi
      obtain ⟨r0, rfl, -⟩ := hi'
      refine ⟨some (.int r0), L, 0, 0, hend, hW2, hsame, ?_⟩
      have hPO : va_P g.1 sm_Cl (lwo g M' f) t.heap := by
        refine va_P.app hP' (va_P.kept (lwo_r hP) (fun k x hx => ?_))
        match k, hx with
        | 0, hx =>
          cases hx
          show t.heap[g.2.2 + 59]? = s.heap[g.2.2 + 59]?
          rw [hF'.2 (g.2.2 + 59) (by rw [e1]; exact (hP 59 _ lwo_o).lt) (fun w => by have w : _ ∧ g.2.2 + 59 < g.2.2 + 59 := w; omega), e1]
      have hS1 : va_S (A1 g) s.heap t.heap ([] ++ L) := ⟨by rw [← e1]; exact hF'.1, fun x x1 x2 => by rw [hF'.2 x (by rw [e1]; exact x1) (fun w => x2 w.1), e1], fun x hx => by
        rw [List.nil_append] at hx
        exact (hL x hx).1⟩
      refine lv_i2l hx hb d3 rfl ?_
      refine va_last hx hb hK hPO lwo_D hS1 59 2 lwo_o rfl (i := 0) (by unfold vp_in; decide) d4 (fun H1 locs1 hP1 hD1 hS2 => ?_)
      refine lv_goto hx hb d5 ht ?_
      refine lv_iconst hx hb d8 rfl ?_
      have hP2 : va_P g.1 sm_Cl (lwo g M' (vp_updL f 0 r0.toInt64)) H1 := by rw [← lwo_set (f := f)]; exact hP1
      exact wr_end hx hb hr hlk d9 hP2 hS2 (Or.inl ⟨rfl, r0, by simp [vp_updL], hi⟩) (by omega) (by omega)
    · right
      refine ⟨a, L, 1, 6, hend, hW2, hsame, fun T' hT X' => ?_⟩
      have hPO : va_P g.1 sm_Cl (lwo g M f) T'.heap := by
        rw [hT]
        refine va_P.app hP' (va_P.kept (lwo_r hP) (fun k x hx => ?_))
        match k, hx with
        | 0, hx =>
          cases hx
          show t.heap[g.2.2 + 59]? = s.heap[g.2.2 + 59]?
          rw [hF'.2 (g.2.2 + 59) (by rw [e1]; exact (hP 59 _ lwo_o).lt) (fun w => by have w : _ ∧ g.2.2 + 59 < g.2.2 + 59 := w; omega), e1]
      rw [List.nil_append] at X'
      refine hcat q hq hthr T' a ce L X' (by rw [hT]; exact ha) hv ((hW.alike.findClass q.1 none).symm.trans hc) hPO ⟨by rw [hT, ← e1]; exact hF'.1, fun x x1 x2 => by rw [hT, hF'.2 x (by rw [e1]; exact x1) (fun w => x2 w.1), e1], fun x hx => (hL x hx).1⟩
end
