-- THE SMALL MACHINE. A reference in it is a place: .ref p is the p-th cell made since the law began.
abbrev sm_M : Type := (Nat → Nat → Int32) × (Nat → Nat → Int64)
abbrev sm_G : Type := va_G × (Nat × Nat × Nat) × Nat
def sm_tv (g : sm_G) (v : Value) : Value := match v with
  | .ref p => .ref (g.2.2 + p)
  | .int x => .int x
  | .long x => .long x
  | .float x => .float x
  | .double x => .double x
  | .null => .null
  | .retAddr x => .retAddr x
theorem sm_cat (g : sm_G) (v : Value) : (sm_tv g v).category = v.category := by cases v <;> rfl
def sm_at : List Value → Nat → Value
  | [], _ => .null
  | v :: _, 0 => v
  | _ :: l, k + 1 => sm_at l k
def sm_se : List Value → Nat → Value → List Value
  | [], _, _ => []
  | _ :: l, 0, v => v :: l
  | w :: l, k + 1, v => w :: sm_se l k v
theorem sm_at_se : ∀ (L : List Value) (i : Nat) (v : Value) (k : Nat), sm_at (sm_se L i v) k = if k = i ∧ i < L.length then v else sm_at L k
  | [], i, v, k => by simp [sm_se, sm_at]
  | w :: l, 0, v, 0 => by simp [sm_se, sm_at]
  | w :: l, 0, v, k + 1 => by simp [sm_se, sm_at]
  | w :: l, i + 1, v, 0 => by simp [sm_se, sm_at]
  | w :: l, i + 1, v, k + 1 => by
    simp only [sm_se, sm_at, sm_at_se l i v k, List.length_cons]
    by_cases h : k = i ∧ i < l.length
    · rw [if_pos h, if_pos ⟨by omega, by omega⟩]
    · rw [if_neg h, if_neg (fun q => h ⟨by omega, by omega⟩)]
theorem sm_se_len : ∀ (L : List Value) (i : Nat) (v : Value), (sm_se L i v).length = L.length
  | [], i, v => rfl
  | w :: l, 0, v => rfl
  | w :: l, i + 1, v => by simp [sm_se, sm_se_len l i v]
theorem sm_at_len : ∀ (L : List Value) (k : Nat), sm_at L k ≠ .null → k < L.length
  | [], k, h => absurd rfl h
  | w :: l, 0, h => by simp
  | w :: l, k + 1, h => by
    have := sm_at_len l k h
    simp; omega
def sm_ki (L : List Value) (i : Nat) : List Value := match i with
  | 0 => L
  | j + 1 => match sm_at L j with
    | .long _ => sm_se L j .null
    | .double _ => sm_se L j .null
    | _ => L
def sm_s1 (L : List Value) (i : Nat) (v : Value) : List Value := sm_se (sm_ki L i) i v
def sm_s2 (L : List Value) (i : Nat) (v : Value) : List Value := sm_se (sm_se (sm_ki L i) i v) (i + 1) .null
theorem sm_ki_ne {L : List Value} {i k : Nat} (h : sm_at (sm_ki L i) k ≠ .null) : sm_at (sm_ki L i) k = sm_at L k ∧ ¬ (k + 1 = i ∧ (sm_at L k).category = 2) := by
  cases i with
  | zero => exact ⟨rfl, fun q => by omega⟩
  | succ j =>
    have key : ((sm_at L j).category = 2 ∧ sm_ki L (j + 1) = sm_se L j .null) ∨ ((sm_at L j).category ≠ 2 ∧ sm_ki L (j + 1) = L) := by
      unfold sm_ki
      cases hv : sm_at L j <;> simp [Value.category, hv]
    rcases key with ⟨hc, e⟩ | ⟨hc, e⟩
    · rw [e, sm_at_se] at h ⊢
      by_cases hk : k = j ∧ j < L.length
      · rw [if_pos hk] at h
        exact absurd rfl h
      · rw [if_neg hk] at h ⊢
        refine ⟨rfl, fun q => hk ⟨by omega, ?_⟩⟩
        have := sm_at_len L k h
        omega
    · rw [e] at h ⊢
      refine ⟨rfl, fun q => hc ?_⟩
      have : k = j := by omega
      rw [← this]
      exact q.2
def sm_LV (g : sm_G) (ls : Array Slot) (nL : Nat) (L : List Value) : Prop := ls.size = nL ∧ lv_wf ls ∧ ∀ k, sm_at L k ≠ .null → ls[k]? = some (.val (sm_tv g (sm_at L k)))
def sm_tl (g : sm_G) (L : List Value) : List (Nat × Value) := (List.range L.length).filterMap (fun k => if sm_at L k = .null then none else some (k, sm_tv g (sm_at L k)))
theorem sm_tl_has {g : sm_G} {ls : Array Slot} {nL : Nat} {L : List Value} (h : sm_LV g ls nL L) : lv_has ls nL (sm_tl g L) := by
  refine ⟨h.1, h.2.1, fun q hq => ?_⟩
  obtain ⟨k, hk, e⟩ := List.mem_filterMap.mp hq
  by_cases hn : sm_at L k = .null
  · rw [if_pos hn] at e; cases e
  · rw [if_neg hn] at e; cases e; exact h.2.2 k hn
theorem sm_tl_mem {g : sm_G} {L : List Value} {k : Nat} (hn : sm_at L k ≠ .null) : (k, sm_tv g (sm_at L k)) ∈ sm_tl g L :=
  List.mem_filterMap.mpr ⟨k, List.mem_range.mpr (sm_at_len _ _ hn), by rw [if_neg hn]⟩
theorem sm_lv1 {g : sm_G} {ls' : Array Slot} {nL i : Nat} {L : List Value} {v : Value} (h' : lv_has ls' nL ((i, sm_tv g v) :: (sm_tl g L).filter (fun q => !(q.1 == i) && !(q.1 + 1 == i && q.2.category == 2)))) : sm_LV g ls' nL (sm_s1 L i v) := by
  refine ⟨h'.1, h'.2.1, fun k hk => ?_⟩
  unfold sm_s1 at hk ⊢
  rw [sm_at_se] at hk ⊢
  by_cases hi : k = i ∧ i < (sm_ki L i).length
  · rw [if_pos hi, hi.1]
    exact h'.2.2 (i, sm_tv g v) List.mem_cons_self
  · rw [if_neg hi] at hk ⊢
    have hki : k ≠ i := fun e => hi ⟨e, by have := sm_at_len _ _ hk; omega⟩
    obtain ⟨h2, h3⟩ := sm_ki_ne hk
    rw [h2] at hk ⊢
    refine h'.2.2 (k, sm_tv g (sm_at L k)) (List.mem_cons_of_mem _ (List.mem_filter.mpr ⟨sm_tl_mem hk, ?_⟩))
    simp only [sm_cat, Bool.and_eq_true, Bool.not_eq_true', beq_eq_false_iff_ne, ne_eq, Bool.and_eq_false_iff]
    refine ⟨hki, ?_⟩
    by_cases a : k + 1 = i
    · exact Or.inr (fun b => h3 ⟨a, by first | exact b | exact (sm_cat g _).symm.trans b⟩)
    · exact Or.inl a
theorem sm_lv2 {g : sm_G} {ls' : Array Slot} {nL i : Nat} {L : List Value} {v : Value} (h' : lv_has ls' nL ((i, sm_tv g v) :: (sm_tl g L).filter (fun q => !(q.1 == i) && (!(q.1 == i + 1) && !(q.1 + 1 == i && q.2.category == 2))))) : sm_LV g ls' nL (sm_s2 L i v) := by
  refine ⟨h'.1, h'.2.1, fun k hk => ?_⟩
  unfold sm_s2 at hk ⊢
  rw [sm_at_se] at hk ⊢
  by_cases hi1 : k = i + 1 ∧ i + 1 < (sm_se (sm_ki L i) i v).length
  · rw [if_pos hi1] at hk
    exact absurd rfl hk
  · rw [if_neg hi1] at hk ⊢
    have hk1 : k ≠ i + 1 := fun e => hi1 ⟨e, by have := sm_at_len _ _ hk; omega⟩
    rw [sm_at_se] at hk ⊢
    by_cases hi : k = i ∧ i < (sm_ki L i).length
    · rw [if_pos hi, hi.1]
      exact h'.2.2 (i, sm_tv g v) List.mem_cons_self
    · rw [if_neg hi] at hk ⊢
      have hki : k ≠ i := fun e => hi ⟨e, by have := sm_at_len _ _ hk; omega⟩
      obtain ⟨h2, h3⟩ := sm_ki_ne hk
      rw [h2] at hk ⊢
      refine h'.2.2 (k, sm_tv g (sm_at L k)) (List.mem_cons_of_mem _ (List.mem_filter.mpr ⟨sm_tl_mem hk, ?_⟩))
      simp only [sm_cat, Bool.and_eq_true, Bool.not_eq_true', beq_eq_false_iff_ne, ne_eq, Bool.and_eq_false_iff]
      refine ⟨hki, hk1, ?_⟩
      by_cases a : k + 1 = i
      · exact Or.inr (fun b => h3 ⟨a, by first | exact b | exact (sm_cat g _).symm.trans b⟩)
      · exact Or.inl a
-- memory
def sm_fs (M : sm_M) (p k : Nat) (rs : List Nat) (c : Nat) : Value := match c with
  | 0 => .int (M.1 p k)
  | 1 => .int (M.1 p k)
  | 2 => .long (M.2 p k)
  | _ => .ref (rs.getD k 0)
def sm_fl (g : sm_G) (M : sm_M) (p : Nat) (rs cs : List Nat) : List Value := cs.zipIdx.map (fun q => sm_tv g (sm_fs M p q.2 rs q.1))
theorem sm_fl_get {g : sm_G} {M : sm_M} {p k : Nat} {rs cs : List Nat} : (sm_fl g M p rs cs)[k]? = cs[k]?.map (fun c => sm_tv g (sm_fs M p k rs c)) := by
  simp only [sm_fl, List.getElem?_map, List.getElem?_zipIdx]
  cases cs[k]? <;> simp
theorem sm_fl_len {g : sm_G} {M : sm_M} {p : Nat} {rs cs : List Nat} : (sm_fl g M p rs cs).length = cs.length := by simp [sm_fl]
def sm_ce (g : sm_G) (M : sm_M) (p : Nat) : va_E := match sm_lay p with
  | (0, n, _) => .inl (g.2.1.1, n, .inl (M.1 p))
  | (1, n, _) => .inl (g.2.1.2.1, n, .inl (M.1 p))
  | (2, n, _) => .inl (g.2.1.2.2, n, .inr (.inl (M.2 p)))
  | (_, ci, rs) => .inr (ci, sm_fl g M p rs (sm_fk ci))
def sm_wo (g : sm_G) (M : sm_M) : va_W := (List.range sm_NP).map (fun p => (g.2.2 + p, sm_ce g M p))
abbrev sm_A (g : sm_G) : Nat → Prop := fun q => g.2.2 ≤ q ∧ q < g.2.2 + sm_NP
abbrev sm_ty (g : sm_G) : List (ClassId × FieldType) := [(g.2.1.1, .int), (g.2.1.2.1, .boolean), (g.2.1.2.2, .long)]
theorem sm_wo_get {g : sm_G} {M : sm_M} {p : Nat} (h : p < sm_NP) : (sm_wo g M)[p]? = some (g.2.2 + p, sm_ce g M p) := by
  simp [sm_wo, List.getElem?_map, List.getElem?_range, h]
theorem sm_wo_of {g : sm_G} {M : sm_M} {k : Nat} {q : Nat × va_E} (h : (sm_wo g M)[k]? = some q) : k < sm_NP ∧ q = (g.2.2 + k, sm_ce g M k) := by
  have hl := (List.getElem?_eq_some_iff.mp h).1
  have hk : k < sm_NP := by simpa [sm_wo] using hl
  rw [sm_wo_get hk] at h
  exact ⟨hk, (Option.some.inj h).symm⟩
theorem sm_wo_D {g : sm_G} {M : sm_M} : va_D (sm_A g) (sm_wo g M) := by
  refine ⟨fun i j a b hi hj hab => ?_, fun k q hk => ?_⟩
  · obtain ⟨-, rfl⟩ := sm_wo_of hi
    obtain ⟨-, rfl⟩ := sm_wo_of hj
    simp only at hab
    omega
  · obtain ⟨hlt, rfl⟩ := sm_wo_of hk
    exact ⟨Nat.le_add_right _ _, Nat.add_lt_add_left hlt _⟩
def sm_up {α : Type} (f : Nat → Nat → α) (p : Nat) (h : Nat → α) : Nat → Nat → α := fun q => if q = p then h else f q
theorem sm_up_s {α : Type} {f : Nat → Nat → α} {p : Nat} {h : Nat → α} : sm_up f p h p = h := by simp [sm_up]
theorem sm_up_n {α : Type} {f : Nat → Nat → α} {p q : Nat} {h : Nat → α} (hq : q ≠ p) : sm_up f p h q = f q := by simp [sm_up, hq]
def sm_sI (M : sm_M) (p i : Nat) (x : Int32) : sm_M := (sm_up M.1 p (upd (M.1 p) i x), M.2)
def sm_sL (M : sm_M) (p i : Nat) (x : Int64) : sm_M := (M.1, sm_up M.2 p (vp_updL (M.2 p) i x))
def sm_cI (M : sm_M) (p : Nat) (h : Nat → Int32) : sm_M := (sm_up M.1 p h, M.2)
theorem sm_ce_c {g : sm_G} {M M' : sm_M} {q : Nat} (h1 : M'.1 q = M.1 q) (h2 : M'.2 q = M.2 q) : sm_ce g M' q = sm_ce g M q := by
  unfold sm_ce sm_fl sm_fs
  rw [h1, h2]
theorem sm_wo_set {g : sm_G} {M M' : sm_M} {p : Nat} {e : va_E} (h1 : ∀ q, q ≠ p → M'.1 q = M.1 q) (h2 : ∀ q, q ≠ p → M'.2 q = M.2 q) (he : sm_ce g M' p = e) : (sm_wo g M).set p (g.2.2 + p, e) = sm_wo g M' := by
  apply List.ext_getElem?
  intro k
  have hlen : (sm_wo g M).length = sm_NP := by simp [sm_wo]
  by_cases hk : k < sm_NP
  · rw [sm_wo_get hk]
    by_cases hkp : k = p
    · subst hkp
      rw [List.getElem?_set_self (by omega), he]
    · rw [List.getElem?_set_ne (Ne.symm hkp), sm_wo_get hk, sm_ce_c (h1 k hkp) (h2 k hkp)]
  · rw [List.getElem?_eq_none (by simp [sm_wo]; omega), List.getElem?_eq_none (by simp [sm_wo]; omega)]
theorem sm_ce_0 {g : sm_G} {M : sm_M} {p n : Nat} {rs : List Nat} (h : sm_lay p = (0, n, rs)) : sm_ce g M p = .inl (g.2.1.1, n, .inl (M.1 p)) := by unfold sm_ce; simp only [h]
theorem sm_ce_1 {g : sm_G} {M : sm_M} {p n : Nat} {rs : List Nat} (h : sm_lay p = (1, n, rs)) : sm_ce g M p = .inl (g.2.1.2.1, n, .inl (M.1 p)) := by unfold sm_ce; simp only [h]
theorem sm_ce_2 {g : sm_G} {M : sm_M} {p n : Nat} {rs : List Nat} (h : sm_lay p = (2, n, rs)) : sm_ce g M p = .inl (g.2.1.2.2, n, .inr (.inl (M.2 p))) := by unfold sm_ce; simp only [h]
theorem sm_ce_3 {g : sm_G} {M : sm_M} {p ci : Nat} {rs : List Nat} (h : sm_lay p = (3, ci, rs)) : sm_ce g M p = .inr (ci, sm_fl g M p rs (sm_fk ci)) := by unfold sm_ce; simp only [h]
-- the words that every method stands on
def sm_WW (U : State) : Prop := (∀ (ci : Nat) (q : vw_C), sm_Cl[ci]? = some q → ∀ w ∈ u_ws q.1 q.2.1 q.2.2, va_Nw w U) ∧ (∀ (y pc : Nat) (e : Instr × Nat × Nat × Nat), sm_tab y pc = some e → ∀ w ∈ sm_lw y e, va_Nw w U) ∧ (∀ y, y < sm_NM → ∀ w ∈ sm_mw y, va_Nw w U) ∧ ∀ w ∈ sm_bw, va_Nw w U
theorem sm_Nw_warm {w : Cond} (hc : (w.onTables && w.keepsH) = true) {s U : State} (hW : s.WarmedH U.vm) (h : va_Nw w s) : va_Nw w U := by
  rw [Bool.and_eq_true] at hc
  have h1 := Cond.onTables_warmH (T := U) (args' := #[]) hW hc.1 hc.2 h
  rwa [State.setVm_self] at h1
theorem sm_u_good {C : String} {T : u_T} {N : Nat} {w : Cond} (h : w ∈ u_ws C T N) : (w.onTables && w.keepsH) = true := by
  unfold u_ws at h
  obtain ⟨k, -, rfl⟩ := List.mem_map.mp h
  unfold u_lay
  split <;> rfl
theorem sm_lw_good {y : Nat} {e : Instr × Nat × Nat × Nat} {w : Cond} (h : w ∈ sm_lw y e) : (w.onTables && w.keepsH) = true := by
  unfold sm_lw at h
  split at h
  · split at h
    · rw [List.mem_singleton.mp h]; rfl
    · cases h
  · split at h
    · rw [List.mem_singleton.mp h]; rfl
    · cases h
  · rename_i ne
    rw [List.mem_singleton.mp h]
    cases (Nat.beq ne 0) <;> rfl
  · rename_i ne
    rw [List.mem_singleton.mp h]
    cases (Nat.beq ne 0) <;> rfl
  · rw [List.mem_singleton.mp h]; rfl
  · cases h
theorem sm_mw_good {y : Nat} {w : Cond} (h : w ∈ sm_mw y) : (w.onTables && w.keepsH) = true := by
  unfold sm_mw at h
  split at h <;> simp only [List.mem_cons, List.not_mem_nil, or_false] at h <;> (rcases h with rfl | h) <;> first | rfl | (rcases h with rfl | h) <;> first | rfl | (rcases h with rfl | h) <;> first | rfl | (subst h; rfl)
theorem sm_WW_warm {s U : State} (hW : s.WarmedH U.vm) (h : sm_WW s) : sm_WW U :=
  ⟨fun ci q hq w hw => sm_Nw_warm (sm_u_good hw) hW (h.1 ci q hq w hw), fun y pc e he w hw => sm_Nw_warm (sm_lw_good hw) hW (h.2.1 y pc e he w hw), fun y hy w hw => sm_Nw_warm (sm_mw_good hw) hW (h.2.2.1 y hy w hw), fun w hw => sm_Nw_warm (sm_bw_good w hw) hW (h.2.2.2 w hw)⟩
theorem sm_WW_same {u U : State} (hv : u.vm = U.vm) (h : sm_WW u) : sm_WW U :=
  ⟨fun ci q hq w hw => va_Nw.same (Bool.and_eq_true _ _ ▸ sm_u_good hw).1 hv (h.1 ci q hq w hw), fun y pc e he w hw => va_Nw.same (Bool.and_eq_true _ _ ▸ sm_lw_good hw).1 hv (h.2.1 y pc e he w hw), fun y hy w hw => va_Nw.same (Bool.and_eq_true _ _ ▸ sm_mw_good hw).1 hv (h.2.2.1 y hy w hw), fun w hw => va_Nw.same (Bool.and_eq_true _ _ ▸ sm_bw_good w hw).1 hv (h.2.2.2 w hw)⟩
-- contracts
def sm_cw (y : Nat) : Cond := .code (sm_nm y) (sm_cc y) (sm_nl y) (sm_re y)
def sm_rm (y : Nat) : Room := { frames := sm_lv y, cells := 0, slots := 0, locals := sm_rl y }
def sm_Pc (g : sm_G) (as : List Value) (M : sm_M) : Array Value → State → Prop := fun a U => a = (as.map (sm_tv g)).toArray ∧ va_P g.1 sm_Cl (sm_wo g M) U.heap ∧ va_K g.1 sm_Cl (sm_ty g) U ∧ sm_WW U
def sm_Qc (g : sm_G) (Q : Option Value → sm_M → Prop) : Array Value → State → Outcome → State → Prop := fun _ st o t => ∃ (r : Option Value) (M' : sm_M), Q r M' ∧ o = .returned (r.map (sm_tv g)) ∧ va_P g.1 sm_Cl (sm_wo g M') t.heap ∧ va_F (sm_A g) st t
def sm_Sm (g : sm_G) (y : Nat) (as : List Value) (M : sm_M) (Q : Option Value → sm_M → Prop) : Prop := ∀ l : Launch, Met l (sm_nm y) [sm_cw y] (sm_rm y) (sm_Pc g as M) (sm_Qc g Q) 0 0 (sm_A g)
def sm_Cx (g : sm_G) (y : Nat) (p : Program) (R : Room) (s : State) (m : MethodId) (args : Array Value) (meth : Method) (c : Code) : Prop :=
  p.tables.exec = Jvm.exec ∧ c.code = sm_cc y ∧ c.maxLocals = sm_nl y ∧ s.vm.findClass (sm_ow y) = some m.cls ∧ sm_WW s ∧ va_K g.1 sm_Cl (sm_ty g) s ∧ meth.sig.returnType = sm_re y ∧ meth.locks = false ∧ sm_lv y ≤ R.frames ∧ sm_rl y ≤ R.locals
abbrev sm_K : Type := Nat → List Value → List Value → sm_M → Prop
abbrev sm_F : Type := List Frame → Array Value → State → State → Prop
def sm_Go (g : sm_G) (y : Nat) (Fi : sm_F) : sm_K := fun pc L st M =>
  ∀ (p : Program) (l : Launch) (e : Env) (R : Room) (s : State) (m : MethodId) (args : Array Value) (below : List Frame) (meth : Method) (c : Code) (H : Heap) (locs : List Loc) (ls : Array Slot),
    sm_Cx g y p R s m args meth c → sm_LV g ls (sm_nl y) L → va_P g.1 sm_Cl (sm_wo g M) H → va_S (sm_A g) s.heap H locs → W p l e R s m args below meth c H locs 0 0 (Fi below args s) (F0 m pc ls (st.map (sm_tv g)))
def sm_po : Nat → List Value → List Value → List Value × List Value
  | 0, acc, st => (acc, st)
  | n + 1, acc, v :: st => sm_po n (v :: acc) st
  | _ + 1, acc, [] => (acc, [])
theorem sm_po_eq : ∀ (n : Nat) (acc st : List Value) (As r : List Value), sm_po n acc st = (As, r) → As.reverse ++ r = acc.reverse ++ st ∧ As.length ≤ acc.length + n
  | 0, acc, st, As, r, h => by cases h; exact ⟨rfl, Nat.le_refl _⟩
  | n + 1, acc, v :: st, As, r, h => by
    obtain ⟨h1, h2⟩ := sm_po_eq n (v :: acc) st As r h
    refine ⟨by rw [h1]; simp, by simp at h2; omega⟩
  | n + 1, acc, [], As, r, h => by cases h; exact ⟨rfl, by omega⟩
def sm_cs (r : List Value) : Nat := (r.map fun v => v.category).sum
def sm_ov (f : Prop) (o : Option Value) : Prop := match o with | none => f | some _ => False
def sm_oi (f : Int32 → Prop) (o : Option Value) : Prop := match o with | some (.int x) => f x | _ => False
def sm_ol (f : Int64 → Prop) (o : Option Value) : Prop := match o with | some (.long x) => f x | _ => False
def sm_rp (k : sm_K) (rt : Nat) (pc : Nat) (L r : List Value) : Option Value → sm_M → Prop := match rt with
  | 0 => fun o M' => sm_ov (k pc L r M') o
  | 1 => fun o M' => sm_oi (fun x => k pc L (.int x :: r) M') o
  | 2 => fun o M' => sm_oi (fun x => k pc L (.int x :: r) M') o
  | _ => fun o M' => sm_ol (fun x => k pc L (.long x :: r) M') o
def sm_sw (x : Int32) (K : Int → Prop) : Int → List Int → Prop
  | _, [] => True
  | v, o :: os => (x.toInt = v → K o) ∧ sm_sw x K (v + 1) os
theorem sm_sw_at {x : Int32} {K : Int → Prop} : ∀ (v : Int) (os : List Int) (j : Nat) (o : Int), sm_sw x K v os → os[j]? = some o → x.toInt = v + j → K o
  | v, [], j, o, _, h, _ => by simp at h
  | v, a :: os, 0, o, hs, h, hx => by
    simp at h
    subst h
    exact hs.1 (by simpa using hx)
  | v, a :: os, j + 1, o, hs, h, hx => sm_sw_at (v + 1) os j o hs.2 (by simpa using h) (by rw [hx]; push_cast; omega)

def sm_in (y : Nat) (Q : Option Value → sm_M → Prop) (S : Nat → List Value → sm_M → (Option Value → sm_M → Prop) → Prop) (k G : sm_K) (ix : Instr × Nat × Nat × Nat) : sm_K := fun pc L st M =>
  match ix with
  | (i, a, b, ne) => match i with
    | .aload_n j => (match sm_at L j.val with | .ref x => k (pc + 1) L (.ref x :: st) M | _ => False)
    | .iload_n j => (match sm_at L j.val with | .int x => k (pc + 1) L (.int x :: st) M | _ => False)
    | .lload_n j => (match sm_at L j.val with | .long x => k (pc + 1) L (.long x :: st) M | _ => False)
    | .aload j => (match sm_at L j with | .ref x => k (pc + 2) L (.ref x :: st) M | _ => False)
    | .iload j => (match sm_at L j with | .int x => k (pc + 2) L (.int x :: st) M | _ => False)
    | .lload j => (match sm_at L j with | .long x => k (pc + 2) L (.long x :: st) M | _ => False)
    | .istore_n j => (match st with | .int x :: r => bif Nat.blt (j.val) (sm_nl y) then k (pc + 1) (sm_s1 L j.val (.int x)) r M else False | _ => False)
    | .astore_n j => (match st with | .ref x :: r => bif Nat.blt (j.val) (sm_nl y) then k (pc + 1) (sm_s1 L j.val (.ref x)) r M else False | _ => False)
    | .lstore_n j => (match st with | .long x :: r => bif Nat.blt (j.val + 1) (sm_nl y) then k (pc + 1) (sm_s2 L j.val (.long x)) r M else False | _ => False)
    | .istore j => (match st with | .int x :: r => bif Nat.blt (j) (sm_nl y) then k (pc + 2) (sm_s1 L j (.int x)) r M else False | _ => False)
    | .astore j => (match st with | .ref x :: r => bif Nat.blt (j) (sm_nl y) then k (pc + 2) (sm_s1 L j (.ref x)) r M else False | _ => False)
    | .lstore j => (match st with | .long x :: r => bif Nat.blt (j + 1) (sm_nl y) then k (pc + 2) (sm_s2 L j (.long x)) r M else False | _ => False)
    | .iinc j n => (match sm_at L j with | .int x => k (pc + 3) (sm_s1 L j (.int (x + Int32.ofInt n))) st M | _ => False)
    | .iconst n => k (pc + 1) L (.int (Int32.ofInt n) :: st) M
    | .bipush n => (bif decide (-128 ≤ n) && decide (n < 128) then k (pc + 2) L (.int (Int32.ofInt n) :: st) M else False)
    | .sipush n => (bif decide (-32768 ≤ n) && decide (n < 32768) then k (pc + 3) L (.int (Int32.ofInt n) :: st) M else False)
    | .lconst n => k (pc + 1) L (.long (Int64.ofNat n.val) :: st) M
    | .ldc2_w j => k (pc + 3) L (.long (Int64.ofNat a) :: st) M
    | .iadd => (match st with | .int z :: .int x :: r => k (pc + 1) L (.int (x + z) :: r) M | _ => False)
    | .isub => (match st with | .int z :: .int x :: r => k (pc + 1) L (.int (x - z) :: r) M | _ => False)
    | .imul => (match st with | .int z :: .int x :: r => k (pc + 1) L (.int (x * z) :: r) M | _ => False)
    | .iand => (match st with | .int z :: .int x :: r => k (pc + 1) L (.int (x &&& z) :: r) M | _ => False)
    | .ior => (match st with | .int z :: .int x :: r => k (pc + 1) L (.int (x ||| z) :: r) M | _ => False)
    | .ixor => (match st with | .int z :: .int x :: r => k (pc + 1) L (.int (x ^^^ z) :: r) M | _ => False)
    | .ishl => (match st with | .int z :: .int x :: r => k (pc + 1) L (.int (x <<< (z &&& 31)) :: r) M | _ => False)
    | .ishr => (match st with | .int z :: .int x :: r => k (pc + 1) L (.int (x >>> (z &&& 31)) :: r) M | _ => False)
    | .ladd => (match st with | .long z :: .long x :: r => k (pc + 1) L (.long (x + z) :: r) M | _ => False)
    | .lsub => (match st with | .long z :: .long x :: r => k (pc + 1) L (.long (x - z) :: r) M | _ => False)
    | .land => (match st with | .long z :: .long x :: r => k (pc + 1) L (.long (x &&& z) :: r) M | _ => False)
    | .lor => (match st with | .long z :: .long x :: r => k (pc + 1) L (.long (x ||| z) :: r) M | _ => False)
    | .lxor => (match st with | .long z :: .long x :: r => k (pc + 1) L (.long (x ^^^ z) :: r) M | _ => False)
    | .lshl => (match st with | .int z :: .long x :: r => k (pc + 1) L (.long (x <<< (z.toInt64 &&& 63)) :: r) M | _ => False)
    | .lshr => (match st with | .int z :: .long x :: r => k (pc + 1) L (.long (x >>> (z.toInt64 &&& 63)) :: r) M | _ => False)
    | .lushr => (match st with | .int z :: .long x :: r => k (pc + 1) L (.long ((x.toUInt64 >>> (z.toInt64.toUInt64 &&& Int64.toUInt64 63)).toInt64) :: r) M | _ => False)
    | .i2l => (match st with | .int x :: r => k (pc + 1) L (.long x.toInt64 :: r) M | _ => False)
    | .l2i => (match st with | .long x :: r => k (pc + 1) L (.int x.toInt32 :: r) M | _ => False)
    | .lcmp => (match st with | .long z :: .long x :: r => k (pc + 1) L (.int (lg_cmp x z) :: r) M | _ => False)
    | .dup => (match st with | .int x :: r => k (pc + 1) L (.int x :: .int x :: r) M | .ref x :: r => k (pc + 1) L (.ref x :: .ref x :: r) M | _ => False)
    | .pop => (match st with | .int _ :: r => k (pc + 1) L r M | .ref _ :: r => k (pc + 1) L r M | _ => False)
    | .dup_x1 => (match st with | .int x :: .ref z :: r => k (pc + 1) L (.int x :: .ref z :: .int x :: r) M | _ => False)
    | .dup2 => (match st with | .int x :: .ref z :: r => k (pc + 1) L (.int x :: .ref z :: .int x :: .ref z :: r) M | .long x :: r => k (pc + 1) L (.long x :: .long x :: r) M | _ => False)
    | .ifCond cd off => (match st with | .int x :: r => (match cd with | .eq => ((x = 0 → k a L r M) ∧ (¬ x = 0 → k (pc + 3) L r M)) | .ne => ((¬ x = 0 → k a L r M) ∧ (x = 0 → k (pc + 3) L r M)) | .lt => ((x < 0 → k a L r M) ∧ (¬ x < 0 → k (pc + 3) L r M)) | .ge => ((0 ≤ x → k a L r M) ∧ (¬ 0 ≤ x → k (pc + 3) L r M)) | .gt => ((0 < x → k a L r M) ∧ (¬ 0 < x → k (pc + 3) L r M)) | .le => ((x ≤ 0 → k a L r M) ∧ (¬ x ≤ 0 → k (pc + 3) L r M))) | _ => False)
    | .if_icmp cd off => (match st with | .int z :: .int x :: r => (match cd with | .eq => ((x = z → k a L r M) ∧ (¬ x = z → k (pc + 3) L r M)) | .ne => ((¬ x = z → k a L r M) ∧ (x = z → k (pc + 3) L r M)) | .lt => ((x < z → k a L r M) ∧ (¬ x < z → k (pc + 3) L r M)) | .ge => ((z ≤ x → k a L r M) ∧ (¬ z ≤ x → k (pc + 3) L r M)) | .gt => ((z < x → k a L r M) ∧ (¬ z < x → k (pc + 3) L r M)) | .le => ((x ≤ z → k a L r M) ∧ (¬ x ≤ z → k (pc + 3) L r M))) | _ => False)
    | .goto off => k a L st M
    | .tableswitch d lo hi offs => (match st with | .int x :: r => (((x.toInt < lo ∨ hi < x.toInt) → k ((pc : Int) + d).toNat L r M) ∧ sm_sw x (fun o => k ((pc : Int) + o).toNat L r M) lo offs.toList) | _ => False)
    | .iaload => (match st with | .int i :: .ref q :: r => (match sm_lay q with | (0, n, _) => bif Nat.blt q sm_NP then (vp_in i n ∧ k (pc + 1) L (.int (M.1 q i.toNatClampNeg) :: r) M) else False | _ => False) | _ => False)
    | .baload => (match st with | .int i :: .ref q :: r => (match sm_lay q with | (1, n, _) => bif Nat.blt q sm_NP then (vp_in i n ∧ k (pc + 1) L (.int (M.1 q i.toNatClampNeg) :: r) M) else False | _ => False) | _ => False)
    | .laload => (match st with | .int i :: .ref q :: r => (match sm_lay q with | (2, n, _) => bif Nat.blt q sm_NP then (vp_in i n ∧ k (pc + 1) L (.long (M.2 q i.toNatClampNeg) :: r) M) else False | _ => False) | _ => False)
    | .iastore => (match st with | .int x :: .int i :: .ref q :: r => (match sm_lay q with | (0, n, _) => bif Nat.blt q sm_NP then (vp_in i n ∧ k (pc + 1) L r (sm_sI M q i.toNatClampNeg x)) else False | _ => False) | _ => False)
    | .bastore => (match st with | .int x :: .int i :: .ref q :: r => (match sm_lay q with | (1, n, _) => bif Nat.blt q sm_NP then ((x = 0 ∨ x = 1) ∧ vp_in i n ∧ k (pc + 1) L r (sm_sI M q i.toNatClampNeg x)) else False | _ => False) | _ => False)
    | .lastore => (match st with | .long x :: .int i :: .ref q :: r => (match sm_lay q with | (2, n, _) => bif Nat.blt q sm_NP then (vp_in i n ∧ k (pc + 1) L r (sm_sL M q i.toNatClampNeg x)) else False | _ => False) | _ => False)
    | .arraylength => (match st with | .ref q :: r => (match sm_lay q with | (0, n, _) => bif Nat.blt q sm_NP then k (pc + 1) L (.int (Int32.ofInt n) :: r) M else False | (2, n, _) => bif Nat.blt q sm_NP then k (pc + 1) L (.int (Int32.ofInt n) :: r) M else False | _ => False) | _ => False)
    | .getfield j => (match st with | .ref q :: r => (match sm_lay q with | (3, ci, rs) => bif Nat.blt q sm_NP && Nat.beq ci a then (match (sm_fk ci)[b]? with | some cd => k (pc + 3) L (sm_fs M q b rs cd :: r) M | none => False) else False | _ => False) | _ => False)
    | .putfield j => (match st with | .int x :: .ref q :: r => (match sm_lay q with | (3, ci, rs) => bif Nat.blt q sm_NP && Nat.beq ci a then (match (sm_fk ci)[b]? with | some 0 => k (pc + 3) L r (sm_sI M q b x) | some 1 => ((x = 0 ∨ x = 1) ∧ k (pc + 3) L r (sm_sI M q b x)) | _ => False) else False | _ => False) | .long x :: .ref q :: r => (match sm_lay q with | (3, ci, rs) => bif Nat.blt q sm_NP && Nat.beq ci a then (match (sm_fk ci)[b]? with | some 2 => k (pc + 3) L r (sm_sL M q b x) | _ => False) else False | _ => False) | _ => False)
    | .invokevirtual j => (match sm_po (sm_ar a) [] st with | (As, .ref q :: r) => (match sm_lay q with | (3, ci, _) => bif Nat.blt q sm_NP && (Nat.beq ci (sm_mc a) && (Nat.beq As.length (sm_ar a) && (Nat.blt (sm_lv a) (sm_lv y) && (Nat.ble (8 + (sm_nl a + 11) + sm_rl a) (sm_rl y) && (Nat.ble (sm_cs r) 8 && (Nat.blt a sm_NM && !(sm_ss a))))))) then S a (.ref q :: As) M (sm_rp k (sm_rt a) (pc + 3) L r) else False | _ => False) | _ => False)
    | .invokestatic j => (match a with | 1002 => (match st with | .int n :: .int dp :: .ref q1 :: .int sp :: .ref q0 :: r => (match sm_lay q0, sm_lay q1 with | (0, n0, _), (0, n1, _) => bif Nat.beq ne 0 && (Nat.blt q0 sm_NP && (Nat.blt q1 sm_NP && (Nat.ble (sm_cs r) 8 && (Nat.blt 0 (sm_lv y) && Nat.ble 48 (sm_rl y))))) then ((¬ sp < 0 ∧ ¬ dp < 0 ∧ ¬ n < 0 ∧ sp.toNatClampNeg + n.toNatClampNeg ≤ n0 ∧ dp.toNatClampNeg + n.toNatClampNeg ≤ n1) ∧ k (pc + 3) L r (sm_cI M q1 (va_cpy (M.1 q0) (M.1 q1) sp.toNatClampNeg dp.toNatClampNeg n.toNatClampNeg))) else False | _, _ => False) | _ => False) | _ => (match sm_po (sm_ar a) [] st with | (As, r) => bif Nat.beq As.length (sm_ar a) && (Nat.blt (sm_lv a) (sm_lv y) && (Nat.ble (8 + (sm_nl a + 11) + sm_rl a) (sm_rl y) && (Nat.ble (sm_cs r) 8 && (Nat.blt a sm_NM && sm_ss a)))) then S a As M (sm_rp k (sm_rt a) (pc + 3) L r) else False))
    | .ireturn => (match st with | [.int x] => (match sm_rt y with | 1 => Q (some (.int x)) M | 2 => ((x = 0 ∨ x = 1) ∧ Q (some (.int x)) M) | _ => False) | _ => False)
    | .lreturn => (match st with | [.long x] => (match sm_rt y with | 3 => Q (some (.long x)) M | _ => False) | _ => False)
    | .return_ => (match st with | [] => (match sm_rt y with | 0 => Q none M | _ => False) | _ => False)
    | .new j => G pc L st M
    | _ => False
def sm_ex (y : Nat) (Q : Option Value → sm_M → Prop) (S : Nat → List Value → sm_M → (Option Value → sm_M → Prop) → Prop) (G : sm_K) : Nat → sm_K
  | 0 => fun pc L st M => G pc L st M
  | n + 1 => fun pc L st M => match sm_tab y pc with
    | none => False
    | some e => sm_in y Q S (fun pc' L' st' M' => bif sm_hd y pc' then G pc' L' st' M' else sm_ex y Q S G n pc' L' st' M') G e pc L st M
-- small facts
theorem sm_bf {b : Bool} {A : Prop} (h : bif b then A else False) : b = true ∧ A := by cases b <;> first | exact h.elim | exact ⟨rfl, h⟩
theorem sm_an {a b : Bool} (h : (a && b) = true) : a = true ∧ b = true := by cases a <;> cases b <;> first | exact ⟨rfl, rfl⟩ | cases h
theorem sm_blt {a b : Nat} (h : Nat.blt a b = true) : a < b := Nat.le_of_ble_eq_true h
theorem sm_g1 {a b : Bool} (h : (a && b) = true) : a = true := (sm_an h).1
theorem sm_bi {n : Int} (h : -128 ≤ n ∧ n < 128) : (Int8.ofInt n).toInt32 = Int32.ofInt n := by
  apply Int32.toInt_inj.mp
  rw [Int8.toInt_toInt32, Int8.toInt_ofInt_of_le (by omega) (by omega), Int32.toInt_ofInt_of_le (by omega) (by omega)]
theorem sm_si {n : Int} (h : -32768 ≤ n ∧ n < 32768) : (Int16.ofInt n).toInt32 = Int32.ofInt n := by
  apply Int32.toInt_inj.mp
  rw [Int16.toInt_toInt32, Int16.toInt_ofInt_of_le (by omega) (by omega), Int32.toInt_ofInt_of_le (by omega) (by omega)]
theorem sm_ofN (n : Nat) : Int32.ofNat n = Int32.ofInt n := Int32.ofInt_eq_ofNat.symm
theorem sm_nz {x : Int32} (h : x = 0 ∨ x = 1) : narrow .boolean (.int x) = .int x := by rcases h with rfl | rfl <;> decide +kernel
theorem sm_fz {x : Int32} (h : x = 0 ∨ x = 1) : fits .boolean (.int x) = true := by rcases h with rfl | rfl <;> decide +kernel
theorem sm_zn {x : Int32} (h : x = 0 ∨ x = 1) : vp_nar .boolean x = x := by rcases h with rfl | rfl <;> decide +kernel
theorem sm_fl_i {g : sm_G} {M : sm_M} {q b ci : Nat} {rs : List Nat} {x : Int32} (h : (sm_fk ci)[b]? = some 0) : sm_fl g (sm_sI M q b x) q rs (sm_fk ci) = (sm_fl g M q rs (sm_fk ci)).set b (.int x) := by
  apply List.ext_getElem?
  intro k
  by_cases hk : k = b
  · subst hk
    rw [List.getElem?_set_self (by rw [sm_fl_len]; exact (List.getElem?_eq_some_iff.mp h).1), sm_fl_get, h]
    simp [sm_fs, sm_sI, sm_up_s, upd, sm_tv]
  · rw [List.getElem?_set_ne (Ne.symm hk), sm_fl_get, sm_fl_get]
    congr 1
    funext c
    simp [sm_fs, sm_sI, sm_up_s, upd, hk]
theorem sm_fl_z {g : sm_G} {M : sm_M} {q b ci : Nat} {rs : List Nat} {x : Int32} (h : (sm_fk ci)[b]? = some 1) : sm_fl g (sm_sI M q b x) q rs (sm_fk ci) = (sm_fl g M q rs (sm_fk ci)).set b (.int x) := by
  apply List.ext_getElem?
  intro k
  by_cases hk : k = b
  · subst hk
    rw [List.getElem?_set_self (by rw [sm_fl_len]; exact (List.getElem?_eq_some_iff.mp h).1), sm_fl_get, h]
    simp [sm_fs, sm_sI, sm_up_s, upd, sm_tv]
  · rw [List.getElem?_set_ne (Ne.symm hk), sm_fl_get, sm_fl_get]
    congr 1
    funext c
    simp [sm_fs, sm_sI, sm_up_s, upd, hk]
theorem sm_fl_l {g : sm_G} {M : sm_M} {q b ci : Nat} {rs : List Nat} {x : Int64} (h : (sm_fk ci)[b]? = some 2) : sm_fl g (sm_sL M q b x) q rs (sm_fk ci) = (sm_fl g M q rs (sm_fk ci)).set b (.long x) := by
  apply List.ext_getElem?
  intro k
  by_cases hk : k = b
  · subst hk
    rw [List.getElem?_set_self (by rw [sm_fl_len]; exact (List.getElem?_eq_some_iff.mp h).1), sm_fl_get, h]
    simp [sm_fs, sm_sL, sm_up_s, vp_updL, sm_tv]
  · rw [List.getElem?_set_ne (Ne.symm hk), sm_fl_get, sm_fl_get]
    congr 1
    funext c
    simp [sm_fs, sm_sL, sm_up_s, vp_updL, hk]
theorem sm_mono {p : Program} {l : Launch} {e : Env} {R : Room} {s : State} {m : MethodId} {args : Array Value} {below : List Frame} {meth : Method} {c : Code} {H : Heap} {locs : List Loc} {cells slots : Nat} {Q Q' : State → Prop} {g : JFrame} (h : ∀ t, Q t → Q' t) (k : W p l e R s m args below meth c H locs cells slots Q g) : W p l e R s m args below meth c H locs cells slots Q' g := by
  intro T hT X
  obtain ⟨t, a, b⟩ := k T hT X
  exact ⟨t, a, h t b⟩
theorem sm_cs_map (g : sm_G) (r : List Value) : ((r.map (sm_tv g)).map fun v => v.category).sum = sm_cs r := by
  unfold sm_cs
  rw [List.map_map]
  congr 2
  funext v
  exact sm_cat g v
theorem sm_lay_obj {g : sm_G} {M : sm_M} {q ci : Nat} {rs : List Nat} {H : Heap} {s : State} (hla : sm_lay q = (3, ci, rs)) (hq : q < sm_NP) (hP : va_P g.1 sm_Cl (sm_wo g M) H) (hK : va_K g.1 sm_Cl (sm_ty g) s) {cq : vw_C} (hcq : sm_Cl[ci]? = some cq) : ∃ cellB : Cell, H[g.2.2 + q]? = some cellB ∧ cellB.vm.isStatics = false ∧ s.vm.findClass cq.1 = some cellB.cls := by
  obtain ⟨r, h1, cell, q1, q2, q3, q4⟩ := hP q _ (by rw [sm_wo_get hq, sm_ce_3 hla])
  have hr : r = cq := Option.some.inj (h1.symm.trans hcq)
  subst hr
  obtain ⟨-, hfc, -⟩ := hK.1 ci _ hcq
  exact ⟨cell, q1, by rw [q3]; rfl, by rw [q2]; exact hfc⟩
theorem sm_blind {g : sm_G} {as : List Value} {M : sm_M} : FrameBlind (sm_Pc g as M) := by
  intro a U gf mk h
  obtain ⟨q0, qP, qK, qW⟩ := h
  exact ⟨q0, qP, va_K.moved (u := U) (U := U.calling gf mk a) (Vm.Alike.refl U.vm) qK, sm_WW_same (u := U) (U := U.calling gf mk a) rfl qW⟩
theorem sm_rp_st {k : sm_K} {rt pc : Nat} {L r : List Value} {o : Option Value} {M' : sm_M} (h : sm_rp k rt pc L r o M') : k pc L (o.toList ++ r) M' := by
  match rt, h with
  | 0, h => rcases o with _ | v
            · exact h
            · exact False.elim h
  | 1, h => rcases o with _ | v
            · exact False.elim h
            · cases v <;> first | exact h | exact False.elim h
  | 2, h => rcases o with _ | v
            · exact False.elim h
            · cases v <;> first | exact h | exact False.elim h
  | _ + 3, h => rcases o with _ | v
                · exact False.elim h
                · cases v <;> first | exact h | exact False.elim h
/-- a call, as the kit has it, turned to the small machine -/
theorem sm_run {g : sm_G} (a : Nat) {k : sm_K} {Fi : sm_F} {y pc : Nat} {L : List Value} (r : List Value) {p : Program} {l : Launch} {e : Env} {R : Room} {s : State} {m : MethodId} {args : Array Value} {below : List Frame} {meth : Method} {c : Code} {H : Heap} {locs : List Loc} {ls : Array Slot} {st0 : List Value} (aa : Array Value)
    (hk : ∀ pc L st M, k pc L st M → sm_Go g y Fi pc L st M) (hC : sm_Cx g y p R s m args meth c) (hL : sm_LV g ls (sm_nl y) L) (hS : va_S (sm_A g) s.heap H locs)
    (hrun : va_Run p l e R s m args below meth c H locs 0 0 0 0 (F0 m pc ls st0) (r.map (sm_tv g)) (sm_Qc g (sm_rp k (sm_rt a) (pc + 3) L r) aa) (sm_A g)) :
    W p l e R s m args below meth c H locs 0 0 (Fi below args s) (F0 m pc ls st0) := by
  intro T hT X
  obtain ⟨v, st₀, t, T', Lo, h0, X', hLo, e1, e2, ⟨o, M', hq, ho, hP', hz, hkp⟩, stp⟩ := hrun T hT X
  cases ho
  rw [h0] at hz hkp
  have hS' : va_S (sm_A g) s.heap T'.heap (locs ++ Lo) := ⟨Nat.le_trans hS.1 (by rw [e1]; exact hz), fun q h1 h2 => by rw [e1, hkp q (Nat.lt_of_lt_of_le h1 hS.1) h2]; exact hS.2.1 q h1 h2, fun q hq => by
      rcases List.mem_append.mp hq with h | h
      · exact hS.2.2 q h
      · exact hLo q h⟩
  have hP2 : va_P g.1 sm_Cl (sm_wo g M') T'.heap := by rw [e1]; exact hP'
  obtain ⟨t2, a1, b1⟩ := hk _ _ _ _ (sm_rp_st hq) p l e R s m args below meth c T'.heap (locs ++ Lo) ls hC hL hP2 hS' T' rfl X'
  refine ⟨t2, stp t2 ?_, b1⟩
  cases o <;> exact a1
theorem sm_callV {g : sm_G} {Fi : sm_F} {k : sm_K} {y pc a b ne j q ci : Nat} {As r st L : List Value} {rs : List Nat} {M : sm_M} {S : Nat → List Value → sm_M → (Option Value → sm_M → Prop) → Prop}
    (hS0 : ∀ a as M P, S a as M P → sm_Sm g a as M P) (hk : ∀ pc L st M, k pc L st M → sm_Go g y Fi pc L st M) (hd : decode (sm_cc y) pc = .ok (.invokevirtual j, 3)) (ht : sm_tab y pc = some (.invokevirtual j, a, b, ne)) (hla : sm_lay q = (3, ci, rs)) (hpo : sm_po (sm_ar a) [] st = (As, .ref q :: r))
    (hq : (Nat.blt q sm_NP && (Nat.beq ci (sm_mc a) && (Nat.beq As.length (sm_ar a) && (Nat.blt (sm_lv a) (sm_lv y) && (Nat.ble (8 + (sm_nl a + 11) + sm_rl a) (sm_rl y) && (Nat.ble (sm_cs r) 8 && (Nat.blt a sm_NM && !(sm_ss a)))))))) = true) (h : S a (.ref q :: As) M (sm_rp k (sm_rt a) (pc + 3) L r)) : sm_Go g y Fi pc L st M := by
  intro p l e R s m args below meth c H locs ls hC hL hP hS
  obtain ⟨hx, hb, hml, hown, hWW, hK, hr, hlk, hRf, hRl⟩ := id hC
  obtain ⟨h1, hq⟩ := sm_an hq
  obtain ⟨h2, hq⟩ := sm_an hq
  obtain ⟨h3, hq⟩ := sm_an hq
  obtain ⟨h4, hq⟩ := sm_an hq
  obtain ⟨h8, hq⟩ := sm_an hq
  obtain ⟨h5, hq⟩ := sm_an hq
  obtain ⟨h6, h7⟩ := sm_an hq
  have h1 := sm_blt h1
  have h2 := Nat.eq_of_beq_eq_true h2
  have h3 := Nat.eq_of_beq_eq_true h3
  have h4 := sm_blt h4
  have h8 := Nat.le_of_ble_eq_true h8
  have h5 := Nat.le_of_ble_eq_true h5
  have h6 := sm_blt h6
  have h7 : sm_ss a = false := by cases hss : sm_ss a <;> simp [hss] at h7 ⊢
  have hst : st = As.reverse ++ .ref q :: r := by have := (sm_po_eq _ _ _ _ _ hpo).1; simpa using this.symm
  obtain ⟨v1, v2, v3⟩ := sm_mok a h6
  obtain ⟨cq, hcq, hcn⟩ := sm_mcl a h6 h7
  subst h2
  have hcode : va_Nw (sm_cw a) s := hWW.2.2.1 a h6 _ (by simp [sm_mw, h7, sm_cw])
  have hini : va_Nw (.initialized (sm_nm a).cls) s := hWW.2.2.1 a h6 _ (by simp [sm_mw, h7])
  have hins : va_Nw (.instanceMethod (sm_nm a)) s := hWW.2.2.1 a h6 _ (by simp [sm_mw, h7])
  have hsel : va_Nw (.selects (sm_nm a).cls (sm_nm a) (sm_nm a)) s := hWW.2.2.1 a h6 _ (by simp [sm_mw, h7])
  have hobj := sm_lay_obj hla h1 hP hK hcq
  rw [hcn] at hobj
  have hpre : PreV s H (sm_nm a).cls (g.2.2 + q) (sm_Pc g (.ref q :: As) M) (As.map (sm_tv g)) := ⟨sm_blind, hobj, fun U hU hW => ⟨rfl, by rw [hU]; exact hP, va_K.moved hW.alike hK, sm_WW_warm hW hWW⟩⟩
  have hwk : ∀ w ∈ [sm_cw a], ∀ (a' : Array Value) (U : State), s.WarmedH U.vm → w.before a' U = true := by
    intro w hw a' U hW
    rw [List.mem_singleton.mp hw]
    exact word_at hW (Or.inl rfl) hcode
  have hRR : (sm_rm a).frames + 1 ≤ R.frames ∧ 8 + (sm_nl a + 11) + (sm_rm a).locals ≤ R.locals := ⟨by simp only [sm_rm]; omega, by simp only [sm_rm]; omega⟩
  have hlw := hWW.2.1 y pc _ ht
  have hM := hS0 _ _ _ _ h l
  have hF0 : F0 m pc ls (st.map (sm_tv g)) = F0 m pc ls ((As.map (sm_tv g)).reverse ++ .ref (g.2.2 + q) :: r.map (sm_tv g)) := by
    rw [hst]
    simp [sm_tv]
  rw [hF0]
  refine sm_run a r (Value.ref (g.2.2 + q) :: As.map (sm_tv g)).toArray hk hC hL hS ?_
  cases hne : Nat.beq ne 0 with
  | true =>
    refine va_runV (Ts := []) (cc := sm_cc y) (nL := sm_nl y) (own := sm_ow y) (C := (sm_nm a).cls) (index := j) (n := sm_ar a) (bytes := sm_cc a) (maxL := sm_nl a) (ret := sm_re a) (As := As.map (sm_tv g)) ⟨hx, hb, hml, hown, fun w hw => by cases hw⟩ hM ⟨⟨rfl, rfl, hRR.1, hRR.2, hwk, List.mem_singleton.mpr rfl, va_Nw.use rfl hcode, va_Nw.use rfl hini, v1, v2, va_Nw.use rfl (hlw _ (by simp [sm_lw, hne]))⟩, va_Nw.use rfl hins, va_Nw.use rfl hsel⟩ hpre rfl (by rw [List.length_map]; exact h3) hL.1 rfl (by rw [sm_cs_map]; show 2 * 0 + _ ≤ 8; omega) hd ⟨Nat.zero_le _, Nat.zero_le _⟩
  | false =>
    refine va_runVN (Ts := []) (cc := sm_cc y) (nL := sm_nl y) (own := sm_ow y) (host := sm_ho) (C := (sm_nm a).cls) (index := j) (n := sm_ar a) (bytes := sm_cc a) (maxL := sm_nl a) (ret := sm_re a) (As := As.map (sm_tv g)) ⟨hx, hb, hml, hown, fun w hw => by cases hw⟩ hM ⟨⟨⟨rfl, rfl, hRR.1, hRR.2, hwk, List.mem_singleton.mpr rfl⟩, va_Nw.use rfl hcode, va_Nw.use rfl hini, v1, v2, va_Nw.use rfl (hlw _ (by simp [sm_lw, hne]))⟩, va_Nw.use rfl hins, va_Nw.use rfl hsel⟩ hpre rfl (by rw [List.length_map]; exact h3) hL.1 rfl (by rw [sm_cs_map]; show 2 * 0 + _ ≤ 8; omega) hd ⟨Nat.zero_le _, Nat.zero_le _⟩
theorem sm_callS {g : sm_G} {Fi : sm_F} {k : sm_K} {y pc a b ne j : Nat} {As r st L : List Value} {M : sm_M} {S : Nat → List Value → sm_M → (Option Value → sm_M → Prop) → Prop}
    (hS0 : ∀ a as M P, S a as M P → sm_Sm g a as M P) (hk : ∀ pc L st M, k pc L st M → sm_Go g y Fi pc L st M) (hd : decode (sm_cc y) pc = .ok (.invokestatic j, 3)) (ht : sm_tab y pc = some (.invokestatic j, a, b, ne)) (hpo : sm_po (sm_ar a) [] st = (As, r))
    (hq : (Nat.beq As.length (sm_ar a) && (Nat.blt (sm_lv a) (sm_lv y) && (Nat.ble (8 + (sm_nl a + 11) + sm_rl a) (sm_rl y) && (Nat.ble (sm_cs r) 8 && (Nat.blt a sm_NM && sm_ss a))))) = true) (h : S a As M (sm_rp k (sm_rt a) (pc + 3) L r)) : sm_Go g y Fi pc L st M := by
  intro p l e R s m args below meth c H locs ls hC hL hP hS
  obtain ⟨hx, hb, hml, hown, hWW, hK, hr, hlk, hRf, hRl⟩ := id hC
  obtain ⟨h3, hq⟩ := sm_an hq
  obtain ⟨h4, hq⟩ := sm_an hq
  obtain ⟨h8, hq⟩ := sm_an hq
  obtain ⟨h5, hq⟩ := sm_an hq
  obtain ⟨h6, h7⟩ := sm_an hq
  have h3 := Nat.eq_of_beq_eq_true h3
  have h4 := sm_blt h4
  have h8 := Nat.le_of_ble_eq_true h8
  have h5 := Nat.le_of_ble_eq_true h5
  have h6 := sm_blt h6
  have hst : st = As.reverse ++ r := by have := (sm_po_eq _ _ _ _ _ hpo).1; simpa using this.symm
  obtain ⟨v1, v2, v3⟩ := sm_mok a h6
  have hcode : va_Nw (sm_cw a) s := hWW.2.2.1 a h6 _ (by simp [sm_mw, h7, sm_cw])
  have hini : va_Nw (.initialized (sm_nm a).cls) s := hWW.2.2.1 a h6 _ (by simp [sm_mw, h7])
  have hsta : va_Nw (.static (sm_nm a)) s := hWW.2.2.1 a h6 _ (by simp [sm_mw, h7])
  have hpre : PreS s H (sm_Pc g As M) (As.map (sm_tv g)) := ⟨sm_blind, fun U hU hW => ⟨rfl, by rw [hU]; exact hP, va_K.moved hW.alike hK, sm_WW_warm hW hWW⟩⟩
  have hwk : ∀ w ∈ [sm_cw a], ∀ (a' : Array Value) (U : State), s.WarmedH U.vm → w.before a' U = true := by
    intro w hw a' U hW
    rw [List.mem_singleton.mp hw]
    exact word_at hW (Or.inl rfl) hcode
  have hRR : (sm_rm a).frames + 1 ≤ R.frames ∧ 8 + (sm_nl a + 11) + (sm_rm a).locals ≤ R.locals := ⟨by simp only [sm_rm]; omega, by simp only [sm_rm]; omega⟩
  have hlw := hWW.2.1 y pc _ ht
  have hM := hS0 _ _ _ _ h l
  have hF0 : F0 m pc ls (st.map (sm_tv g)) = F0 m pc ls ((As.map (sm_tv g)).reverse ++ r.map (sm_tv g)) := by
    rw [hst]
    simp
  rw [hF0]
  refine sm_run a r (As.map (sm_tv g)).toArray hk hC hL hS ?_
  cases hne : Nat.beq ne 0 with
  | true =>
    refine va_runS (Ts := []) (cc := sm_cc y) (nL := sm_nl y) (own := sm_ow y) (index := j) (n := sm_ar a) (bytes := sm_cc a) (maxL := sm_nl a) (ret := sm_re a) (As := As.map (sm_tv g)) ⟨hx, hb, hml, hown, fun w hw => by cases hw⟩ hM ⟨⟨rfl, rfl, hRR.1, hRR.2, hwk, List.mem_singleton.mpr rfl, va_Nw.use rfl hcode, va_Nw.use rfl hini, v1, v2, va_Nw.use rfl (hlw _ (by simp [sm_lw, hne]))⟩, va_Nw.use rfl hsta⟩ hpre rfl (by rw [List.length_map]; exact h3) hL.1 rfl (by rw [sm_cs_map]; show 2 * 0 + _ ≤ 8; omega) hd ⟨Nat.zero_le _, Nat.zero_le _⟩
  | false =>
    refine va_runSN (Ts := []) (cc := sm_cc y) (nL := sm_nl y) (own := sm_ow y) (host := sm_ho) (index := j) (n := sm_ar a) (bytes := sm_cc a) (maxL := sm_nl a) (ret := sm_re a) (As := As.map (sm_tv g)) ⟨hx, hb, hml, hown, fun w hw => by cases hw⟩ hM ⟨⟨⟨rfl, rfl, hRR.1, hRR.2, hwk, List.mem_singleton.mpr rfl⟩, va_Nw.use rfl hcode, va_Nw.use rfl hini, v1, v2, va_Nw.use rfl (hlw _ (by simp [sm_lw, hne]))⟩, va_Nw.use rfl hsta, trivial⟩ hpre rfl (by rw [List.length_map]; exact h3) hL.1 rfl (by rw [sm_cs_map]; show 2 * 0 + _ ≤ 8; omega) hd ⟨Nat.zero_le _, Nat.zero_le _⟩

set_option maxHeartbeats 4000000 in
theorem sm_in_ok {g : sm_G} {y : Nat} {Fi : sm_F} {Q : Option Value → sm_M → Prop} {S : Nat → List Value → sm_M → (Option Value → sm_M → Prop) → Prop} {k G : sm_K} (hS0 : ∀ a as M P, S a as M P → sm_Sm g a as M P) (hF : ∀ below args s t, MQ below (sm_Qc g Q) args s 0 0 (sm_A g) t → Fi below args s t) (hk : ∀ pc L st M, k pc L st M → sm_Go g y Fi pc L st M) (hG : ∀ pc L st M, G pc L st M → sm_Go g y Fi pc L st M)
    {ix : Instr × Nat × Nat × Nat} {pc : Nat} {L st : List Value} {M : sm_M} (ht : sm_tab y pc = some ix) (h : sm_in y Q S k G ix pc L st M) : sm_Go g y Fi pc L st M := by
  intro p l e R s m args below meth c H locs ls hC hL hP hS
  obtain ⟨hx, hb, hml, hown, hWW, hK, hr, hlk, hRf, hRl⟩ := id hC
  obtain ⟨i, a, b, ne⟩ := ix
  obtain ⟨ln, hd, hln, hT, hsw⟩ := sm_dec y pc i a b ne ht
  cases i with
  | aload_n j =>
    have hl0 := hln (by simp [sm_ln])
    subst hl0
    simp only [sm_in] at h
    split at h
    · rename_i x hx0
      have hl := hL.2.2 j.val (by rw [hx0]; exact fun q => by cases q)
      rw [hx0] at hl
      exact lv_aload_n hx hb hd rfl hl (hk _ _ _ _ h p l e R s m args below meth c H locs ls hC hL hP hS)
    · exact h.elim
  | iload_n j =>
    have hl0 := hln (by simp [sm_ln])
    subst hl0
    simp only [sm_in] at h
    split at h
    · rename_i x hx0
      have hl := hL.2.2 j.val (by rw [hx0]; exact fun q => by cases q)
      rw [hx0] at hl
      exact lv_iload_n hx hb hd rfl hl (hk _ _ _ _ h p l e R s m args below meth c H locs ls hC hL hP hS)
    · exact h.elim
  | lload_n j =>
    have hl0 := hln (by simp [sm_ln])
    subst hl0
    simp only [sm_in] at h
    split at h
    · rename_i x hx0
      have hl := hL.2.2 j.val (by rw [hx0]; exact fun q => by cases q)
      rw [hx0] at hl
      exact lv_lload_n hx hb hd rfl hl (hk _ _ _ _ h p l e R s m args below meth c H locs ls hC hL hP hS)
    · exact h.elim
  | aload j =>
    have hl0 := hln (by simp [sm_ln])
    subst hl0
    simp only [sm_in] at h
    split at h
    · rename_i x hx0
      have hl := hL.2.2 j (by rw [hx0]; exact fun q => by cases q)
      rw [hx0] at hl
      exact lv_aload hx hb hd hl (hk _ _ _ _ h p l e R s m args below meth c H locs ls hC hL hP hS)
    · exact h.elim
  | iload j =>
    have hl0 := hln (by simp [sm_ln])
    subst hl0
    simp only [sm_in] at h
    split at h
    · rename_i x hx0
      have hl := hL.2.2 j (by rw [hx0]; exact fun q => by cases q)
      rw [hx0] at hl
      exact lv_iload hx hb hd hl (hk _ _ _ _ h p l e R s m args below meth c H locs ls hC hL hP hS)
    · exact h.elim
  | lload j =>
    have hl0 := hln (by simp [sm_ln])
    subst hl0
    simp only [sm_in] at h
    split at h
    · rename_i x hx0
      have hl := hL.2.2 j (by rw [hx0]; exact fun q => by cases q)
      rw [hx0] at hl
      exact lv_lload hx hb hd hl (hk _ _ _ _ h p l e R s m args below meth c H locs ls hC hL hP hS)
    · exact h.elim
  | istore_n j =>
    have hl0 := hln (by simp [sm_ln])
    subst hl0
    simp only [sm_in] at h
    split at h
    · rename_i x r
      obtain ⟨hj, h⟩ := sm_bf h
      exact lv_istore_n hx hb hd rfl (sm_tl_has hL) (sm_blt hj) rfl (fun ls' h' => hk _ _ _ _ h p l e R s m args below meth c H locs ls' hC (sm_lv1 h') hP hS)
    · exact h.elim
  | astore_n j =>
    have hl0 := hln (by simp [sm_ln])
    subst hl0
    simp only [sm_in] at h
    split at h
    · rename_i x r
      obtain ⟨hj, h⟩ := sm_bf h
      exact lv_astore_n hx hb hd rfl (sm_tl_has hL) (sm_blt hj) rfl (fun ls' h' => hk _ _ _ _ h p l e R s m args below meth c H locs ls' hC (sm_lv1 h') hP hS)
    · exact h.elim
  | lstore_n j =>
    have hl0 := hln (by simp [sm_ln])
    subst hl0
    simp only [sm_in] at h
    split at h
    · rename_i x r
      obtain ⟨hj, h⟩ := sm_bf h
      exact lv_lstore_n hx hb hd rfl (sm_tl_has hL) (sm_blt hj) rfl (fun ls' h' => hk _ _ _ _ h p l e R s m args below meth c H locs ls' hC (sm_lv2 h') hP hS)
    · exact h.elim
  | istore j =>
    have hl0 := hln (by simp [sm_ln])
    subst hl0
    simp only [sm_in] at h
    split at h
    · rename_i x r
      obtain ⟨hj, h⟩ := sm_bf h
      exact lv_istore hx hb hd (sm_tl_has hL) (sm_blt hj) rfl (fun ls' h' => hk _ _ _ _ h p l e R s m args below meth c H locs ls' hC (sm_lv1 h') hP hS)
    · exact h.elim
  | astore j =>
    have hl0 := hln (by simp [sm_ln])
    subst hl0
    simp only [sm_in] at h
    split at h
    · rename_i x r
      obtain ⟨hj, h⟩ := sm_bf h
      exact lv_astore hx hb hd (sm_tl_has hL) (sm_blt hj) rfl (fun ls' h' => hk _ _ _ _ h p l e R s m args below meth c H locs ls' hC (sm_lv1 h') hP hS)
    · exact h.elim
  | lstore j =>
    have hl0 := hln (by simp [sm_ln])
    subst hl0
    simp only [sm_in] at h
    split at h
    · rename_i x r
      obtain ⟨hj, h⟩ := sm_bf h
      exact lv_lstore hx hb hd (sm_tl_has hL) (sm_blt hj) rfl (fun ls' h' => hk _ _ _ _ h p l e R s m args below meth c H locs ls' hC (sm_lv2 h') hP hS)
    · exact h.elim
  | iinc j n =>
    have hl0 := hln (by simp [sm_ln])
    subst hl0
    simp only [sm_in] at h
    split at h
    · rename_i x hx0
      have hn0 : sm_at L j ≠ .null := by rw [hx0]; exact fun q => by cases q
      have hm := sm_tl_mem (g := g) hn0
      rw [hx0] at hm
      obtain ⟨k0, hk0⟩ := List.getElem?_of_mem hm
      have hj : j < sm_nl y := by have h9 := hL.2.2 j hn0; have h8 := lv_lt h9; have h7 := hL.1; omega
      exact lv_iinc hx hb hd (sm_tl_has hL) hk0 rfl hj rfl (fun ls' h' => hk _ _ _ _ h p l e R s m args below meth c H locs ls' hC (sm_lv1 (v := .int (x + Int32.ofInt n)) h') hP hS)
    · exact h.elim
  | iconst n =>
    have hl0 := hln (by simp [sm_ln])
    subst hl0
    simp only [sm_in] at h
    exact lv_iconst hx hb hd rfl (hk _ _ _ _ h p l e R s m args below meth c H locs ls hC hL hP hS)
  | bipush n =>
    have hl0 := hln (by simp [sm_ln])
    subst hl0
    simp only [sm_in] at h
    obtain ⟨h1, h2⟩ := sm_bf h
    exact lv_bipush hx hb hd (sm_bi (by simpa using h1)) (hk _ _ _ _ h2 p l e R s m args below meth c H locs ls hC hL hP hS)
  | sipush n =>
    have hl0 := hln (by simp [sm_ln])
    subst hl0
    simp only [sm_in] at h
    obtain ⟨h1, h2⟩ := sm_bf h
    exact lv_sipush hx hb hd (sm_si (by simpa using h1)) (hk _ _ _ _ h2 p l e R s m args below meth c H locs ls hC hL hP hS)
  | lconst n =>
    have hl0 := hln (by simp [sm_ln])
    subst hl0
    simp only [sm_in] at h
    exact lv_lconst hx hb hd rfl (hk _ _ _ _ h p l e R s m args below meth c H locs ls hC hL hP hS)
  | ldc2_w j =>
    have hl0 := hln (by simp [sm_ln])
    subst hl0
    simp only [sm_in] at h
    exact lv_ldc2 hx hb hown (va_Nw.use rfl (hWW.2.1 y pc _ ht _ (by simp [sm_lw]))) hd (hk _ _ _ _ h p l e R s m args below meth c H locs ls hC hL hP hS)
  | iadd =>
    have hl0 := hln (by simp [sm_ln])
    subst hl0
    simp only [sm_in] at h
    split at h
    · exact lv_iadd hx hb hd (hk _ _ _ _ h p l e R s m args below meth c H locs ls hC hL hP hS)
    · exact h.elim
  | isub =>
    have hl0 := hln (by simp [sm_ln])
    subst hl0
    simp only [sm_in] at h
    split at h
    · exact lv_isub hx hb hd (hk _ _ _ _ h p l e R s m args below meth c H locs ls hC hL hP hS)
    · exact h.elim
  | imul =>
    have hl0 := hln (by simp [sm_ln])
    subst hl0
    simp only [sm_in] at h
    split at h
    · exact lv_imul hx hb hd (hk _ _ _ _ h p l e R s m args below meth c H locs ls hC hL hP hS)
    · exact h.elim
  | iand =>
    have hl0 := hln (by simp [sm_ln])
    subst hl0
    simp only [sm_in] at h
    split at h
    · exact lv_iand hx hb hd (hk _ _ _ _ h p l e R s m args below meth c H locs ls hC hL hP hS)
    · exact h.elim
  | ior =>
    have hl0 := hln (by simp [sm_ln])
    subst hl0
    simp only [sm_in] at h
    split at h
    · exact lv_ior hx hb hd (hk _ _ _ _ h p l e R s m args below meth c H locs ls hC hL hP hS)
    · exact h.elim
  | ixor =>
    have hl0 := hln (by simp [sm_ln])
    subst hl0
    simp only [sm_in] at h
    split at h
    · exact lv_ixor hx hb hd (hk _ _ _ _ h p l e R s m args below meth c H locs ls hC hL hP hS)
    · exact h.elim
  | ishl =>
    have hl0 := hln (by simp [sm_ln])
    subst hl0
    simp only [sm_in] at h
    split at h
    · exact lv_ishl hx hb hd (hk _ _ _ _ h p l e R s m args below meth c H locs ls hC hL hP hS)
    · exact h.elim
  | ishr =>
    have hl0 := hln (by simp [sm_ln])
    subst hl0
    simp only [sm_in] at h
    split at h
    · exact lv_ishr hx hb hd (hk _ _ _ _ h p l e R s m args below meth c H locs ls hC hL hP hS)
    · exact h.elim
  | ladd =>
    have hl0 := hln (by simp [sm_ln])
    subst hl0
    simp only [sm_in] at h
    split at h
    · exact lv_ladd hx hb hd (hk _ _ _ _ h p l e R s m args below meth c H locs ls hC hL hP hS)
    · exact h.elim
  | lsub =>
    have hl0 := hln (by simp [sm_ln])
    subst hl0
    simp only [sm_in] at h
    split at h
    · exact lv_lsub hx hb hd (hk _ _ _ _ h p l e R s m args below meth c H locs ls hC hL hP hS)
    · exact h.elim
  | land =>
    have hl0 := hln (by simp [sm_ln])
    subst hl0
    simp only [sm_in] at h
    split at h
    · exact lv_land hx hb hd (hk _ _ _ _ h p l e R s m args below meth c H locs ls hC hL hP hS)
    · exact h.elim
  | lor =>
    have hl0 := hln (by simp [sm_ln])
    subst hl0
    simp only [sm_in] at h
    split at h
    · exact lv_lor hx hb hd (hk _ _ _ _ h p l e R s m args below meth c H locs ls hC hL hP hS)
    · exact h.elim
  | lxor =>
    have hl0 := hln (by simp [sm_ln])
    subst hl0
    simp only [sm_in] at h
    split at h
    · exact lv_lxor hx hb hd (hk _ _ _ _ h p l e R s m args below meth c H locs ls hC hL hP hS)
    · exact h.elim
  | lshl =>
    have hl0 := hln (by simp [sm_ln])
    subst hl0
    simp only [sm_in] at h
    split at h
    · exact lv_lshl hx hb hd rfl (hk _ _ _ _ h p l e R s m args below meth c H locs ls hC hL hP hS)
    · exact h.elim
  | lshr =>
    have hl0 := hln (by simp [sm_ln])
    subst hl0
    simp only [sm_in] at h
    split at h
    · exact lv_lshr hx hb hd rfl (hk _ _ _ _ h p l e R s m args below meth c H locs ls hC hL hP hS)
    · exact h.elim
  | lushr =>
    have hl0 := hln (by simp [sm_ln])
    subst hl0
    simp only [sm_in] at h
    split at h
    · exact lv_lushr hx hb hd rfl (hk _ _ _ _ h p l e R s m args below meth c H locs ls hC hL hP hS)
    · exact h.elim
  | i2l =>
    have hl0 := hln (by simp [sm_ln])
    subst hl0
    simp only [sm_in] at h
    split at h
    · exact lv_i2l hx hb hd rfl (hk _ _ _ _ h p l e R s m args below meth c H locs ls hC hL hP hS)
    · exact h.elim
  | l2i =>
    have hl0 := hln (by simp [sm_ln])
    subst hl0
    simp only [sm_in] at h
    split at h
    · exact lv_l2i hx hb hd rfl (hk _ _ _ _ h p l e R s m args below meth c H locs ls hC hL hP hS)
    · exact h.elim
  | lcmp =>
    have hl0 := hln (by simp [sm_ln])
    subst hl0
    simp only [sm_in] at h
    split at h
    · exact W.lcmp hx hb hd (hk _ _ _ _ h p l e R s m args below meth c H locs ls hC hL hP hS)
    · exact h.elim
  | dup =>
    have hl0 := hln (by simp [sm_ln])
    subst hl0
    simp only [sm_in] at h
    split at h
    · exact lv_dup hx hb hd rfl (hk _ _ _ _ h p l e R s m args below meth c H locs ls hC hL hP hS)
    · exact lv_dup hx hb hd rfl (hk _ _ _ _ h p l e R s m args below meth c H locs ls hC hL hP hS)
    · exact h.elim
  | pop =>
    have hl0 := hln (by simp [sm_ln])
    subst hl0
    simp only [sm_in] at h
    split at h
    · exact lv_pop hx hb hd rfl (hk _ _ _ _ h p l e R s m args below meth c H locs ls hC hL hP hS)
    · exact lv_pop hx hb hd rfl (hk _ _ _ _ h p l e R s m args below meth c H locs ls hC hL hP hS)
    · exact h.elim
  | dup_x1 =>
    have hl0 := hln (by simp [sm_ln])
    subst hl0
    simp only [sm_in] at h
    split at h
    · exact lv_dup_x1 hx hb hd rfl rfl (hk _ _ _ _ h p l e R s m args below meth c H locs ls hC hL hP hS)
    · exact h.elim
  | dup2 =>
    have hl0 := hln (by simp [sm_ln])
    subst hl0
    simp only [sm_in] at h
    split at h
    · exact lv_dup2_11 hx hb hd rfl rfl (hk _ _ _ _ h p l e R s m args below meth c H locs ls hC hL hP hS)
    · exact lv_dup2_2 hx hb hd rfl (hk _ _ _ _ h p l e R s m args below meth c H locs ls hC hL hP hS)
    · exact h.elim
  | ifCond cd off =>
    have hl0 := hln (by simp [sm_ln])
    subst hl0
    simp only [sm_in] at h
    split at h
    · rename_i x r
      have htg := hT _ rfl
      cases cd with
      | eq => exact lv_if_eq hx hb hd htg (fun q => hk _ _ _ _ (h.1 q) p l e R s m args below meth c H locs ls hC hL hP hS) (fun q => hk _ _ _ _ (h.2 q) p l e R s m args below meth c H locs ls hC hL hP hS)
      | ne => exact lv_if_ne hx hb hd htg (fun q => hk _ _ _ _ (h.1 q) p l e R s m args below meth c H locs ls hC hL hP hS) (fun q => hk _ _ _ _ (h.2 q) p l e R s m args below meth c H locs ls hC hL hP hS)
      | lt => exact lv_if_lt hx hb hd htg (fun q => hk _ _ _ _ (h.1 q) p l e R s m args below meth c H locs ls hC hL hP hS) (fun q => hk _ _ _ _ (h.2 q) p l e R s m args below meth c H locs ls hC hL hP hS)
      | ge => exact lv_if_ge hx hb hd htg (fun q => hk _ _ _ _ (h.1 q) p l e R s m args below meth c H locs ls hC hL hP hS) (fun q => hk _ _ _ _ (h.2 q) p l e R s m args below meth c H locs ls hC hL hP hS)
      | gt => exact lv_if_gt hx hb hd htg (fun q => hk _ _ _ _ (h.1 q) p l e R s m args below meth c H locs ls hC hL hP hS) (fun q => hk _ _ _ _ (h.2 q) p l e R s m args below meth c H locs ls hC hL hP hS)
      | le => exact lv_if_le hx hb hd htg (fun q => hk _ _ _ _ (h.1 q) p l e R s m args below meth c H locs ls hC hL hP hS) (fun q => hk _ _ _ _ (h.2 q) p l e R s m args below meth c H locs ls hC hL hP hS)
    · exact h.elim
  | if_icmp cd off =>
    have hl0 := hln (by simp [sm_ln])
    subst hl0
    simp only [sm_in] at h
    split at h
    · rename_i z x r
      have htg := hT _ rfl
      cases cd with
      | eq => exact lv_icmp_eq hx hb hd htg (fun q => hk _ _ _ _ (h.1 q) p l e R s m args below meth c H locs ls hC hL hP hS) (fun q => hk _ _ _ _ (h.2 q) p l e R s m args below meth c H locs ls hC hL hP hS)
      | ne => exact lv_icmp_ne hx hb hd htg (fun q => hk _ _ _ _ (h.1 q) p l e R s m args below meth c H locs ls hC hL hP hS) (fun q => hk _ _ _ _ (h.2 q) p l e R s m args below meth c H locs ls hC hL hP hS)
      | lt => exact lv_icmp_lt hx hb hd htg (fun q => hk _ _ _ _ (h.1 q) p l e R s m args below meth c H locs ls hC hL hP hS) (fun q => hk _ _ _ _ (h.2 q) p l e R s m args below meth c H locs ls hC hL hP hS)
      | ge => exact lv_icmp_ge hx hb hd htg (fun q => hk _ _ _ _ (h.1 q) p l e R s m args below meth c H locs ls hC hL hP hS) (fun q => hk _ _ _ _ (h.2 q) p l e R s m args below meth c H locs ls hC hL hP hS)
      | gt => exact lv_icmp_gt hx hb hd htg (fun q => hk _ _ _ _ (h.1 q) p l e R s m args below meth c H locs ls hC hL hP hS) (fun q => hk _ _ _ _ (h.2 q) p l e R s m args below meth c H locs ls hC hL hP hS)
      | le => exact lv_icmp_le hx hb hd htg (fun q => hk _ _ _ _ (h.1 q) p l e R s m args below meth c H locs ls hC hL hP hS) (fun q => hk _ _ _ _ (h.2 q) p l e R s m args below meth c H locs ls hC hL hP hS)
    · exact h.elim
  | goto off =>
    have hl0 := hln (by simp [sm_ln])
    subst hl0
    simp only [sm_in] at h
    exact lv_goto hx hb hd (hT _ rfl) (hk _ _ _ _ h p l e R s m args below meth c H locs ls hC hL hP hS)
  | tableswitch d lo hi offs =>
    simp only [sm_in] at h
    split at h
    · rename_i x r
      obtain ⟨s1, s2, s3⟩ := hsw _ _ _ _ rfl
      by_cases hout : x.toInt < lo ∨ hi < x.toInt
      · exact lv_tableOut hx hb hd hout (by omega) (hk _ _ _ _ (h.1 hout) p l e R s m args below meth c H locs ls hC hL hP hS)
      · have e1 : ¬ x.toInt < lo := fun q => hout (Or.inl q)
        have e2 : ¬ hi < x.toInt := fun q => hout (Or.inr q)
        have hlt : (x.toInt - lo).toNat < offs.size := by omega
        have ho : offs[(x.toInt - lo).toNat]? = some offs[(x.toInt - lo).toNat] := Array.getElem?_eq_getElem hlt
        have h9 := s3 _ (Array.mem_of_getElem? ho)
        exact lv_tableIn hx hb hd e1 e2 ho (tgt := ((pc : Int) + offs[(x.toInt - lo).toNat]).toNat) (by omega) (hk _ _ _ _ (sm_sw_at _ _ _ _ h.2 (by rw [Array.getElem?_toList]; exact ho) (by omega)) p l e R s m args below meth c H locs ls hC hL hP hS)
    · exact h.elim
  | iaload =>
    have hl0 := hln (by simp [sm_ln])
    subst hl0
    simp only [sm_in] at h
    split at h
    · rename_i i q r
      split at h
      · rename_i n rs hla
        obtain ⟨hq, h⟩ := sm_bf h
        exact va_iald hx hb hK hP q 0 (by rw [sm_wo_get (sm_blt hq), sm_ce_0 hla]) rfl h.1 hd (hk _ _ _ _ h.2 p l e R s m args below meth c H locs ls hC hL hP hS)
      · exact h.elim
    · exact h.elim
  | baload =>
    have hl0 := hln (by simp [sm_ln])
    subst hl0
    simp only [sm_in] at h
    split at h
    · rename_i i q r
      split at h
      · rename_i n rs hla
        obtain ⟨hq, h⟩ := sm_bf h
        exact va_zald hx hb hK hP q 1 (by rw [sm_wo_get (sm_blt hq), sm_ce_1 hla]) rfl h.1 hd (hk _ _ _ _ h.2 p l e R s m args below meth c H locs ls hC hL hP hS)
      · exact h.elim
    · exact h.elim
  | laload =>
    have hl0 := hln (by simp [sm_ln])
    subst hl0
    simp only [sm_in] at h
    split at h
    · rename_i i q r
      split at h
      · rename_i n rs hla
        obtain ⟨hq, h⟩ := sm_bf h
        exact va_lald hx hb hK hP q 2 (by rw [sm_wo_get (sm_blt hq), sm_ce_2 hla]) rfl h.1 hd (hk _ _ _ _ h.2 p l e R s m args below meth c H locs ls hC hL hP hS)
      · exact h.elim
    · exact h.elim
  | iastore =>
    have hl0 := hln (by simp [sm_ln])
    subst hl0
    simp only [sm_in] at h
    split at h
    · rename_i x i q r
      split at h
      · rename_i n rs hla
        obtain ⟨hq, h⟩ := sm_bf h
        refine va_iast hx hb hK hP sm_wo_D hS q 0 (by rw [sm_wo_get (sm_blt hq), sm_ce_0 hla]) rfl h.1 hd (fun H1 locs1 hP1 _ hS1 => ?_)
        rw [sm_wo_set (M := M) (M' := sm_sI M q i.toNatClampNeg x) (fun a ha => sm_up_n ha) (fun a ha => rfl) (by rw [sm_ce_0 hla]; simp only [sm_sI, sm_up_s])] at hP1
        exact hk _ _ _ _ h.2 p l e R s m args below meth c H1 locs1 ls hC hL hP1 hS1
      · exact h.elim
    · exact h.elim
  | bastore =>
    have hl0 := hln (by simp [sm_ln])
    subst hl0
    simp only [sm_in] at h
    split at h
    · rename_i x i q r
      split at h
      · rename_i n rs hla
        obtain ⟨hq, h⟩ := sm_bf h
        obtain ⟨h0, h⟩ := h
        refine va_zast hx hb hK hP sm_wo_D hS q 1 (by rw [sm_wo_get (sm_blt hq), sm_ce_1 hla]) rfl h.1 hd (fun H1 locs1 hP1 _ hS1 => ?_)
        rw [sm_zn h0] at hP1
        rw [sm_wo_set (M := M) (M' := sm_sI M q i.toNatClampNeg x) (fun a ha => sm_up_n ha) (fun a ha => rfl) (by rw [sm_ce_1 hla]; simp only [sm_sI, sm_up_s])] at hP1
        exact hk _ _ _ _ h.2 p l e R s m args below meth c H1 locs1 ls hC hL hP1 hS1
      · exact h.elim
    · exact h.elim
  | lastore =>
    have hl0 := hln (by simp [sm_ln])
    subst hl0
    simp only [sm_in] at h
    split at h
    · rename_i x i q r
      split at h
      · rename_i n rs hla
        obtain ⟨hq, h⟩ := sm_bf h
        refine va_last hx hb hK hP sm_wo_D hS q 2 (by rw [sm_wo_get (sm_blt hq), sm_ce_2 hla]) rfl h.1 hd (fun H1 locs1 hP1 _ hS1 => ?_)
        rw [sm_wo_set (M := M) (M' := sm_sL M q i.toNatClampNeg x) (fun a ha => rfl) (fun a ha => sm_up_n ha) (by rw [sm_ce_2 hla]; simp only [sm_sL, sm_up_s])] at hP1
        exact hk _ _ _ _ h.2 p l e R s m args below meth c H1 locs1 ls hC hL hP1 hS1
      · exact h.elim
    · exact h.elim
  | arraylength =>
    have hl0 := hln (by simp [sm_ln])
    subst hl0
    simp only [sm_in] at h
    split at h
    · rename_i q r
      split at h
      · rename_i n rs hla
        obtain ⟨hq, h⟩ := sm_bf h
        exact va_alen hx hb hK hP q 0 (by rw [sm_wo_get (sm_blt hq), sm_ce_0 hla]) rfl (sm_ofN n) hd (hk _ _ _ _ h p l e R s m args below meth c H locs ls hC hL hP hS)
      · rename_i n rs hla
        obtain ⟨hq, h⟩ := sm_bf h
        exact va_alen hx hb hK hP q 2 (by rw [sm_wo_get (sm_blt hq), sm_ce_2 hla]) rfl (sm_ofN n) hd (hk _ _ _ _ h p l e R s m args below meth c H locs ls hC hL hP hS)
      · exact h.elim
    · exact h.elim
  | getfield j =>
    have hl0 := hln (by simp [sm_ln])
    subst hl0
    simp only [sm_in] at h
    split at h
    · rename_i q r
      split at h
      · rename_i ci rs hla
        obtain ⟨hq0, h1⟩ := sm_bf h
        obtain ⟨hq1, hca0⟩ := sm_an hq0
        have hca := Nat.eq_of_beq_eq_true hca0
        clear hq0 hca0 h
        subst hca
        split at h1
        · rename_i cd hcd
          obtain ⟨cq, hcq, hcn, hck⟩ := sm_clk ci b cd hcd
          have hget : (sm_wo g M)[q]? = some (g.2.2 + q, .inr (ci, sm_fl g M q rs (sm_fk ci))) := by rw [sm_wo_get (sm_blt hq1), sm_ce_3 hla]
          have hvv : (sm_fl g M q rs (sm_fk ci))[b]? = some (sm_tv g (sm_fs M q b rs cd)) := by rw [sm_fl_get, hcd]; rfl
          have hlw := hWW.2.1 y pc _ ht
          have hts : ∀ w ∈ u_ws cq.1 cq.2.1 cq.2.2, w.before args s = true := fun w hw => va_Nw.use (sm_g1 (sm_u_good hw)) (hWW.1 ci cq hcq w hw)
          exact va_get (ref := cq.1) hx hb hts (fun w hw => hw) hown hK hP q hget hcq b hcn (va_Nw.use rfl (hlw _ (by simp [sm_lw, hcq]))) (fun x hx => by rw [← hck]; exact hx) hvv hd (hk _ _ _ _ h1 p l e R s m args below meth c H locs ls hC hL hP hS)
        · exact h1.elim
      · exact h.elim
    · exact h.elim
  | putfield j =>
    have hl0 := hln (by simp [sm_ln])
    subst hl0
    simp only [sm_in] at h
    split at h
    · rename_i x q r
      split at h
      · rename_i ci rs hla
        obtain ⟨hq0, h1⟩ := sm_bf h
        obtain ⟨hq1, hca0⟩ := sm_an hq0
        have hca := Nat.eq_of_beq_eq_true hca0
        clear hq0 hca0 h
        subst hca
        have hget : (sm_wo g M)[q]? = some (g.2.2 + q, .inr (ci, sm_fl g M q rs (sm_fk ci))) := by rw [sm_wo_get (sm_blt hq1), sm_ce_3 hla]
        split at h1
        · rename_i hcd
          obtain ⟨cq, hcq, hcn, hck⟩ := sm_clk ci b _ hcd
          obtain ⟨t1, t2, t3, t4⟩ := sm_clp ci b _ cq hcd (by decide) hcq
          have hlw := hWW.2.1 y pc _ ht
          have hts : ∀ w ∈ u_ws cq.1 cq.2.1 cq.2.2, w.before args s = true := fun w hw => va_Nw.use (sm_g1 (sm_u_good hw)) (hWW.1 ci cq hcq w hw)
          have fin : ∀ (H1 : Heap) (locs1 : List Loc), va_P g.1 sm_Cl ((sm_wo g M).set q (g.2.2 + q, .inr (ci, (sm_fl g M q rs (sm_fk ci)).set b (.int x)))) H1 → va_D (sm_A g) ((sm_wo g M).set q (g.2.2 + q, .inr (ci, (sm_fl g M q rs (sm_fk ci)).set b (.int x)))) → va_S (sm_A g) s.heap H1 locs1 → W p l e R s m args below meth c H1 locs1 0 0 (Fi below args s) (F0 m (pc + 3) ls (r.map (sm_tv g))) := by
            intro H1 locs1 hP1 _ hS1
            rw [sm_wo_set (M := M) (M' := sm_sI M q b x) (fun a ha => sm_up_n ha) (fun a ha => rfl) (by rw [sm_ce_3 hla, sm_fl_i hcd])] at hP1
            exact hk _ _ _ _ h1 p l e R s m args below meth c H1 locs1 ls hC hL hP1 hS1
          exact va_put (ref := cq.1) hx hb hts (fun w hw => hw) (sm_cty ci) t1 t2 hown hK hP sm_wo_D hS q hget hcq b hcn (va_Nw.use rfl (hlw _ (by simp [sm_lw, hcq]))) (fun x hx => by rw [← hck]; exact hx) t3 (ty := .int) (by exact t4) (rfl) (rfl) (by rw [sm_fl_len]; exact (List.getElem?_eq_some_iff.mp hcd).1) hd fin
        · rename_i hcd
          obtain ⟨cq, hcq, hcn, hck⟩ := sm_clk ci b _ hcd
          obtain ⟨t1, t2, t3, t4⟩ := sm_clp ci b _ cq hcd (by decide) hcq
          have hlw := hWW.2.1 y pc _ ht
          have hts : ∀ w ∈ u_ws cq.1 cq.2.1 cq.2.2, w.before args s = true := fun w hw => va_Nw.use (sm_g1 (sm_u_good hw)) (hWW.1 ci cq hcq w hw)
          obtain ⟨h0, h1⟩ := h1
          have fin : ∀ (H1 : Heap) (locs1 : List Loc), va_P g.1 sm_Cl ((sm_wo g M).set q (g.2.2 + q, .inr (ci, (sm_fl g M q rs (sm_fk ci)).set b (.int x)))) H1 → va_D (sm_A g) ((sm_wo g M).set q (g.2.2 + q, .inr (ci, (sm_fl g M q rs (sm_fk ci)).set b (.int x)))) → va_S (sm_A g) s.heap H1 locs1 → W p l e R s m args below meth c H1 locs1 0 0 (Fi below args s) (F0 m (pc + 3) ls (r.map (sm_tv g))) := by
            intro H1 locs1 hP1 _ hS1
            rw [sm_wo_set (M := M) (M' := sm_sI M q b x) (fun a ha => sm_up_n ha) (fun a ha => rfl) (by rw [sm_ce_3 hla, sm_fl_z hcd])] at hP1
            exact hk _ _ _ _ h1 p l e R s m args below meth c H1 locs1 ls hC hL hP1 hS1
          exact va_put (ref := cq.1) hx hb hts (fun w hw => hw) (sm_cty ci) t1 t2 hown hK hP sm_wo_D hS q hget hcq b hcn (va_Nw.use rfl (hlw _ (by simp [sm_lw, hcq]))) (fun x hx => by rw [← hck]; exact hx) t3 (ty := .boolean) (by exact t4) (sm_nz h0) (sm_fz h0) (by rw [sm_fl_len]; exact (List.getElem?_eq_some_iff.mp hcd).1) hd fin
        · exact h1.elim
      · exact h.elim
    · rename_i x q r
      split at h
      · rename_i ci rs hla
        obtain ⟨hq0, h1⟩ := sm_bf h
        obtain ⟨hq1, hca0⟩ := sm_an hq0
        have hca := Nat.eq_of_beq_eq_true hca0
        clear hq0 hca0 h
        subst hca
        have hget : (sm_wo g M)[q]? = some (g.2.2 + q, .inr (ci, sm_fl g M q rs (sm_fk ci))) := by rw [sm_wo_get (sm_blt hq1), sm_ce_3 hla]
        split at h1
        · rename_i hcd
          obtain ⟨cq, hcq, hcn, hck⟩ := sm_clk ci b _ hcd
          obtain ⟨t1, t2, t3, t4⟩ := sm_clp ci b _ cq hcd (by decide) hcq
          have hlw := hWW.2.1 y pc _ ht
          have hts : ∀ w ∈ u_ws cq.1 cq.2.1 cq.2.2, w.before args s = true := fun w hw => va_Nw.use (sm_g1 (sm_u_good hw)) (hWW.1 ci cq hcq w hw)
          have fin : ∀ (H1 : Heap) (locs1 : List Loc), va_P g.1 sm_Cl ((sm_wo g M).set q (g.2.2 + q, .inr (ci, (sm_fl g M q rs (sm_fk ci)).set b (.long x)))) H1 → va_D (sm_A g) ((sm_wo g M).set q (g.2.2 + q, .inr (ci, (sm_fl g M q rs (sm_fk ci)).set b (.long x)))) → va_S (sm_A g) s.heap H1 locs1 → W p l e R s m args below meth c H1 locs1 0 0 (Fi below args s) (F0 m (pc + 3) ls (r.map (sm_tv g))) := by
            intro H1 locs1 hP1 _ hS1
            rw [sm_wo_set (M := M) (M' := sm_sL M q b x) (fun a ha => rfl) (fun a ha => sm_up_n ha) (by rw [sm_ce_3 hla, sm_fl_l hcd])] at hP1
            exact hk _ _ _ _ h1 p l e R s m args below meth c H1 locs1 ls hC hL hP1 hS1
          exact va_put (ref := cq.1) hx hb hts (fun w hw => hw) (sm_cty ci) t1 t2 hown hK hP sm_wo_D hS q hget hcq b hcn (va_Nw.use rfl (hlw _ (by simp [sm_lw, hcq]))) (fun x hx => by rw [← hck]; exact hx) t3 (ty := .long) (by exact t4) (rfl) (rfl) (by rw [sm_fl_len]; exact (List.getElem?_eq_some_iff.mp hcd).1) hd fin
        · exact h1.elim
      · exact h.elim
    · exact h.elim
  | invokevirtual j =>
    have hl0 := hln (by simp [sm_ln])
    subst hl0
    simp only [sm_in] at h
    split at h
    · rename_i As q r hpo
      split at h
      · rename_i ci rs hla
        obtain ⟨hq, h⟩ := sm_bf h
        exact sm_callV hS0 hk hd ht hla hpo hq h p l e R s m args below meth c H locs ls hC hL hP hS
      · exact h.elim
    · exact h.elim
  | invokestatic j =>
    have hl0 := hln (by simp [sm_ln])
    subst hl0
    simp only [sm_in] at h
    split at h
    · split at h
      · rename_i n dp q1 sp q0 r
        split at h
        · rename_i n0 rs0 n1 rs1 hl0 hl1
          obtain ⟨hq, h⟩ := sm_bf h
          obtain ⟨hne0, hq⟩ := sm_an hq
          obtain ⟨g1, hq⟩ := sm_an hq
          obtain ⟨g2, hq⟩ := sm_an hq
          obtain ⟨h1, hq⟩ := sm_an hq
          obtain ⟨h2, h3⟩ := sm_an hq
          have h1 := Nat.le_of_ble_eq_true h1
          have h2 := sm_blt h2
          have h3 := Nat.le_of_ble_eq_true h3
          have h9 : nativeFrameWords "java/lang/System" "arraycopy" 5 + 11 ≤ 40 := by decide +kernel
          obtain ⟨⟨c1, c2, c3, c4, c5⟩, h⟩ := h
          refine va_copyi hx hb (by rw [hml, hL.1]) hown (va_Nw.use rfl (hWW.2.1 y pc _ ht _ (by simp [sm_lw, sm_nm_cpy, hne0]))) (va_Nw.use rfl (hWW.2.2.2 _ (sm_bw_at 0 rfl))) (va_Nw.use rfl (hWW.2.2.2 _ (sm_bw_at 1 rfl))) (va_Nw.use rfl (hWW.2.2.2 _ (sm_bw_at 2 rfl))) hK hP sm_wo_D hS q0 q1 0 0 (by rw [sm_wo_get (sm_blt g1), sm_ce_0 hl0]) (by rw [sm_wo_get (sm_blt g2), sm_ce_0 hl1]) rfl rfl rfl c1 c2 c3 c4 c5 (fun _ _ => rfl) (by omega) (by rw [sm_cs_map]; omega) hd (fun H1 locs1 hP1 _ hS1 => ?_)
          rw [sm_wo_set (M := M) (M' := sm_cI M q1 (va_cpy (M.1 q0) (M.1 q1) sp.toNatClampNeg dp.toNatClampNeg n.toNatClampNeg)) (fun a ha => sm_up_n ha) (fun a ha => rfl) (by rw [sm_ce_0 hl1]; simp only [sm_cI, sm_up_s])] at hP1
          exact hk _ _ _ _ h p l e R s m args below meth c H1 locs1 ls hC hL hP1 hS1
        · exact h.elim
      · exact h.elim
    · obtain ⟨hq, h⟩ := sm_bf h
      exact sm_callS hS0 hk hd ht (As := (sm_po (sm_ar a) [] st).1) (r := (sm_po (sm_ar a) [] st).2) rfl hq h p l e R s m args below meth c H locs ls hC hL hP hS
  | ireturn =>
    have hl0 := hln (by simp [sm_ln])
    subst hl0
    simp only [sm_in] at h
    split at h
    · rename_i x
      split at h
      · rename_i hrt
        exact sm_mono (fun t ht => hF _ _ _ t ht) (W.iret hx hb (by rw [hr, sm_re1 hrt]) (fun t ht hW => ⟨_, _, h, rfl, by rw [ht]; exact hP, hS.F ht⟩) hS.2.2 hd hlk)
      · rename_i hrt
        exact sm_mono (fun t ht => hF _ _ _ t ht) (W.zret hx hb (by rw [hr, sm_re2 hrt]) (sm_nz h.1) (fun t ht hW => ⟨_, _, h.2, rfl, by rw [ht]; exact hP, hS.F ht⟩) hS.2.2 hd hlk)
      · exact h.elim
    · exact h.elim
  | lreturn =>
    have hl0 := hln (by simp [sm_ln])
    subst hl0
    simp only [sm_in] at h
    split at h
    · rename_i x
      split at h
      · rename_i hrt
        exact sm_mono (fun t ht => hF _ _ _ t ht) (W.lret hx hb (by rw [hr, sm_re3 hrt]) (fun t ht hW => ⟨_, _, h, rfl, by rw [ht]; exact hP, hS.F ht⟩) hS.2.2 hd hlk)
      · exact h.elim
    · exact h.elim
  | return_ =>
    have hl0 := hln (by simp [sm_ln])
    subst hl0
    simp only [sm_in] at h
    split at h
    · split at h
      · rename_i hrt
        exact sm_mono (fun t ht => hF _ _ _ t ht) (W.vret hx hb (by rw [hr, sm_re0 hrt]) (fun t ht hW => ⟨_, _, h, rfl, by rw [ht]; exact hP, hS.F ht⟩) hS.2.2 hd hlk)
      · exact h.elim
    · exact h.elim
  | new j =>
    have hl0 := hln (by simp [sm_ln])
    subst hl0
    simp only [sm_in] at h
    exact hG _ _ _ _ h p l e R s m args below meth c H locs ls hC hL hP hS
  | _ => exact h.elim
theorem sm_ok {g : sm_G} {y : Nat} {Fi : sm_F} {Q : Option Value → sm_M → Prop} {S : Nat → List Value → sm_M → (Option Value → sm_M → Prop) → Prop} {G : sm_K} (hS0 : ∀ a as M P, S a as M P → sm_Sm g a as M P) (hF : ∀ below args s t, MQ below (sm_Qc g Q) args s 0 0 (sm_A g) t → Fi below args s t) (hG : ∀ pc L st M, G pc L st M → sm_Go g y Fi pc L st M) : ∀ (n pc : Nat) (L st : List Value) (M : sm_M), sm_ex y Q S G n pc L st M → sm_Go g y Fi pc L st M
  | 0, pc, L, st, M, h => hG _ _ _ _ h
  | n + 1, pc, L, st, M, h => by
    simp only [sm_ex] at h
    split at h
    · exact h.elim
    · rename_i e he
      refine sm_in_ok hS0 hF (fun pc' L' st' M' h' => ?_) hG he h
      cases hh : sm_hd y pc' with
      | true => rw [hh] at h'; exact hG _ _ _ _ h'
      | false => rw [hh] at h'; exact sm_ok hS0 hF hG n pc' L' st' M' h'
-- the way in: a method's contract out of its body's walk
def sm_l0 : List Value → List Value
  | [] => []
  | .long x :: r => .long x :: .null :: sm_l0 r
  | .double x :: r => .double x :: .null :: sm_l0 r
  | v :: r => v :: sm_l0 r
theorem sm_l0_len (g : sm_G) : ∀ (as : List Value), (lg_sl (as.map (sm_tv g))).length = (sm_l0 as).length
  | [] => rfl
  | v :: r => by
    have ih := sm_l0_len g r
    have e : lg_sl ((v :: r).map (sm_tv g)) = (if (sm_tv g v).category = 2 then [Slot.val (sm_tv g v), Slot.second] else [Slot.val (sm_tv g v)]) ++ lg_sl (r.map (sm_tv g)) := rfl
    rw [e, List.length_append, ih]
    cases v <;> simp [sm_l0, sm_tv, Value.category] <;> omega
theorem sm_l0_at (g : sm_G) : ∀ (as : List Value) (o k : Nat), sm_at (sm_l0 as) k ≠ .null → (o + k, sm_tv g (sm_at (sm_l0 as) k)) ∈ lv_args o (as.map (sm_tv g))
  | [], o, k, h => absurd rfl h
  | v :: r, o, k, h => by
    have ih1 := fun k' => sm_l0_at g r (o + 1) k'
    have ih2 := fun k' => sm_l0_at g r (o + 2) k'
    have e1 : ∀ k', o + 1 + k' = o + (k' + 1) := fun k' => by omega
    have e2 : ∀ k', o + 2 + k' = o + (k' + 1 + 1) := fun k' => by omega
    cases v with
    | long x =>
      match k, h with
      | 0, h => exact List.mem_cons_self
      | 1, h => exact absurd rfl h
      | k' + 2, h => exact List.mem_cons_of_mem _ (e2 k' ▸ ih2 k' h)
    | double x =>
      match k, h with
      | 0, h => exact List.mem_cons_self
      | 1, h => exact absurd rfl h
      | k' + 2, h => exact List.mem_cons_of_mem _ (e2 k' ▸ ih2 k' h)
    | _ =>
      match k, h with
      | 0, h => exact List.mem_cons_self
      | k' + 1, h => exact List.mem_cons_of_mem _ (e1 k' ▸ ih1 k' h)
theorem sm_at_rep : ∀ (n k : Nat), sm_at (List.replicate n .null) k = .null
  | 0, _ => rfl
  | n + 1, 0 => rfl
  | n + 1, k + 1 => sm_at_rep n k
theorem sm_at_app : ∀ (l : List Value) (n k : Nat), sm_at (l ++ List.replicate n .null) k = sm_at l k
  | [], n, k => sm_at_rep n k
  | v :: l, n, 0 => rfl
  | v :: l, n, k + 1 => sm_at_app l n k
abbrev sm_Fn (g : sm_G) (Q : Option Value → sm_M → Prop) : sm_F := fun below args s => MQ below (sm_Qc g Q) args s 0 0 (sm_A g)
theorem sm_Met_mono {l : Launch} {y : MethodName} {ws : List Cond} {rm : Room} {Pc : Array Value → State → Prop} {Qc Qc' : Array Value → State → Outcome → State → Prop} {mc ms : Nat} {free : Addr → Prop} (h : Met l y ws rm Pc Qc mc ms free) (hq : ∀ a st o t, Qc a st o t → Qc' a st o t) : Met l y ws rm Pc Qc' mc ms free := by
  intro p e h1 h2 h3 s m args below h4 h5 h6 h7
  obtain ⟨n, o, a, b, c, d, L, hf⟩ := h p e h1 h2 h3 s m args below h4 h5 h6 h7
  exact ⟨n, o, a, b, c, hq _ _ _ _ d, L, hf⟩
theorem sm_Sm_mono {g : sm_G} {y : Nat} {as : List Value} {M : sm_M} {Q Q' : Option Value → sm_M → Prop} (h : sm_Sm g y as M Q) (hQ : ∀ r M', Q r M' → Q' r M') : sm_Sm g y as M Q' := by
  intro l
  refine sm_Met_mono (h l) ?_
  intro a st o t hq
  obtain ⟨r, M', h1, h2⟩ := hq
  exact ⟨r, M', hQ r M' h1, h2⟩
theorem sm_ofW {l : Launch} {y : MethodName} {ws ws' : List Cond} {rm : Room} {Pc : Array Value → State → Prop} {Qc : Array Value → State → Outcome → State → Prop} {mc ms : Nat} {free : Addr → Prop} {cc : ByteArray} {maxL : Nat} {ret : Option FieldType}
    (hy : plainFor y = true) (hw : ws = Cond.code y cc maxL ret :: ws')
    (body : ∀ p e s m args below meth c s₁, BodyLoose p l y (headSpec ws rm) cc maxL ret e s m args below meth c s₁ → c.maxLocals = maxL → Pc args s →
      W p l e (headSpec ws rm).room s m args below meth c s.heap [] 0 0 (MQ below Qc args s mc ms free) (entryFrame m args maxL)) : Met l y ws rm Pc Qc mc ms free := by
  refine MetFree.of_bodySF (code := cc) (maxLocals := maxL) (ret := ret) hy ?_ ?_
  · intro args s m h hn
    obtain ⟨meth, c, h1, h2, h3, h4, h5, h6, -, -⟩ := Cond.code_spec hn (atoms_spec (ws := ws) h _ (by rw [hw]; exact List.mem_cons_self))
    exact ⟨meth, c, h1, h2, h3, h4, h5, h6⟩
  · intro p e s m args below meth c s₁ B hml hP _
    have hh0 : s₁.heap = s.heap := by rw [B.state]; rfl
    obtain ⟨t, a1, o, b1, b2, b3⟩ := body p e s m args below meth c s₁ B hml hP s₁ hh0 (Stand.of_body B)
    exact ⟨t, o, a1, b1, b2, ⟨b3.1, b3.2⟩⟩
theorem sm_entry {g : sm_G} {y : Nat} {as : List Value} {M : sm_M} {Q : Option Value → sm_M → Prop} (hy : y < sm_NM) (hlen : (sm_l0 as).length ≤ sm_nl y) (h : sm_Go g y (sm_Fn g Q) 0 (sm_l0 as ++ List.replicate (sm_nl y - (sm_l0 as).length) .null) [] M) : sm_Sm g y as M Q := by
  intro l
  obtain ⟨v1, v2, v3⟩ := sm_mok y hy
  refine sm_ofW (cc := sm_cc y) (maxL := sm_nl y) (ret := sm_re y) v3 rfl ?_
  intro p e s m args below meth c s₁ B hml hv
  obtain ⟨rfl, hP, hK, hW⟩ := hv
  have hown : s.vm.findClass (sm_nm y).cls = some m.cls := findClass_of_methodNamed B.named
  have hl := lv_entry (as.map (sm_tv g)) (n := sm_nl y) (by rw [sm_l0_len]; exact hlen)
  rw [lg_entry_eq]
  refine h p l e _ s m _ below meth c s.heap [] _ ⟨B.exec, B.bytes, hml, hown, hW, hK, B.returns, B.notSynchronized, Nat.le_refl _, Nat.le_refl _⟩ ⟨hl.1, hl.2.1, fun k hk => ?_⟩ hP va_S.rf
  rw [sm_at_app] at hk ⊢
  have h9 := hl.2.2 _ (sm_l0_at g as 0 k hk)
  rwa [Nat.zero_add] at h9
