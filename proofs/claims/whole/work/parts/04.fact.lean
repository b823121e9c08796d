def sm_tyc : Nat → FieldType
  | 0 => .int
  | 1 => .boolean
  | _ => .long
def sm_kc (ci : Nat) : Bool := match sm_Cl[ci]? with
  | none => false
  | some q => Nat.beq q.2.2 (sm_fk ci).length && ((List.range q.2.2).all (fun k => decide (parseFieldDescriptor (q.2.1 k).2.2.1 = some (sm_cty ci k)) && (decide ((q.2.1 k).1 = q.1) && (Nat.ble 3 ((sm_fk ci).getD k 0) || ((!(q.2.1 k).2.2.2) && decide (sm_cty ci k = sm_tyc ((sm_fk ci).getD k 0)))))) && (List.range q.2.2).all (fun a => (List.range q.2.2).all (fun b => Nat.beq a b || decide ((q.2.1 a).2.1 ≠ (q.2.1 b).2.1))))
set_option maxRecDepth 100000 in
theorem sm_kca : (List.range 10).all sm_kc = true := by decide +kernel
theorem sm_kc_of {ci b cd : Nat} (h : (sm_fk ci)[b]? = some cd) : sm_kc ci = true := by
  cases hb : Nat.blt ci 10 with
  | false => unfold sm_fk at h; rw [hb] at h; simp at h
  | true => exact List.all_eq_true.mp sm_kca ci (List.mem_range.mpr (Nat.le_of_ble_eq_true hb))
theorem sm_clk (ci b cd : Nat) (h : (sm_fk ci)[b]? = some cd) : ∃ cq, sm_Cl[ci]? = some cq ∧ b < cq.2.2 ∧ (cq.2.1 b).1 = cq.1 := by
  have hk := sm_kc_of h
  unfold sm_kc at hk
  split at hk
  · cases hk
  · rename_i cq hq
    simp only [Bool.and_eq_true, List.all_eq_true, List.mem_range, decide_eq_true_eq] at hk
    have hb : b < cq.2.2 := by rw [Nat.eq_of_beq_eq_true hk.1]; exact (List.getElem?_eq_some_iff.mp h).1
    exact ⟨cq, hq, hb, (hk.2.1 b hb).2.1⟩
theorem sm_clp (ci b cd : Nat) (cq : vw_C) (h : (sm_fk ci)[b]? = some cd) (hcd : cd < 3) (hcq : sm_Cl[ci]? = some cq) : (∀ k, k < cq.2.2 → parseFieldDescriptor (cq.2.1 k).2.2.1 = some (sm_cty ci k)) ∧ (∀ a, a < cq.2.2 → ∀ b, b < cq.2.2 → a ≠ b → (cq.2.1 a).2.1 ≠ (cq.2.1 b).2.1) ∧ (cq.2.1 b).2.2.2 = false ∧ parseFieldDescriptor (cq.2.1 b).2.2.1 = some (sm_tyc cd) := by
  have hk := sm_kc_of h
  unfold sm_kc at hk
  rw [hcq] at hk
  simp only [Bool.and_eq_true, List.all_eq_true, List.mem_range, decide_eq_true_eq, Bool.or_eq_true, Bool.not_eq_true'] at hk
  obtain ⟨h1, h2, h3⟩ := hk
  have hb : b < cq.2.2 := by rw [Nat.eq_of_beq_eq_true h1]; exact (List.getElem?_eq_some_iff.mp h).1
  have hg : (sm_fk ci).getD b 0 = cd := by rw [List.getD_eq_getElem?_getD, h]; rfl
  have h4 := (h2 b hb).2.2
  rw [hg] at h4
  refine ⟨fun k hk => (h2 k hk).1, fun a ha b hb hab => ?_, ?_, ?_⟩
  · rcases h3 a ha b hb with q | q
    · exact absurd (Nat.eq_of_beq_eq_true q) hab
    · exact q
  · rcases h4 with q | q
    · have := Nat.le_of_ble_eq_true q; omega
    · exact q.1
  · rcases h4 with q | q
    · have := Nat.le_of_ble_eq_true q; omega
    · rw [(h2 b hb).1, q.2]
def sm_ko (y : Nat) : Bool := decide ((sm_nm y).cls ≠ "java/lang/invoke/MethodHandle") && (decide ((sm_nm y).cls ≠ "java/lang/invoke/VarHandle") && (decide ((parseMethodDescriptor (sm_nm y).desc).map (fun d => d.parameters.length) = some (sm_ar y)) && (plainFor (sm_nm y) && (sm_ss y || (match sm_Cl[sm_mc y]? with | some q => decide (q.1 = (sm_nm y).cls) | none => false)))))
set_option maxRecDepth 100000 in
theorem sm_koa : (List.range 125).all sm_ko = true := by decide +kernel
theorem sm_ko_of {y : Nat} (h : y < sm_NM) : sm_ko y = true := List.all_eq_true.mp sm_koa y (List.mem_range.mpr h)
theorem sm_mok (y : Nat) (h : y < sm_NM) : ((sm_nm y).cls ≠ "java/lang/invoke/MethodHandle" ∧ (sm_nm y).cls ≠ "java/lang/invoke/VarHandle") ∧ (∀ sig, parseMethodDescriptor (sm_nm y).desc = some sig → sm_ar y = sig.parameters.length) ∧ plainFor (sm_nm y) = true := by
  have hk := sm_ko_of h
  unfold sm_ko at hk
  simp only [Bool.and_eq_true, decide_eq_true_eq] at hk
  refine ⟨⟨hk.1, hk.2.1⟩, fun sig hs => ?_, hk.2.2.2.1⟩
  have h2 := hk.2.2.1
  rw [hs] at h2
  exact (Option.some.inj h2).symm
theorem sm_mcl (y : Nat) (h : y < sm_NM) (hs : sm_ss y = false) : ∃ cq, sm_Cl[sm_mc y]? = some cq ∧ cq.1 = (sm_nm y).cls := by
  have hk := sm_ko_of h
  unfold sm_ko at hk
  rw [hs] at hk
  simp only [Bool.and_eq_true, decide_eq_true_eq, Bool.false_or] at hk
  have h2 := hk.2.2.2.2
  split at h2
  · rename_i q hq
    exact ⟨q, hq, by simpa using h2⟩
  · cases h2
theorem sm_re0 {y : Nat} (h : sm_rt y = 0) : sm_re y = none := by unfold sm_re; simp only [h]
theorem sm_re1 {y : Nat} (h : sm_rt y = 1) : sm_re y = some .int := by unfold sm_re; simp only [h]
theorem sm_re2 {y : Nat} (h : sm_rt y = 2) : sm_re y = some .boolean := by unfold sm_re; simp only [h]
theorem sm_re3 {y : Nat} (h : sm_rt y = 3) : sm_re y = some .long := by unfold sm_re; simp only [h]
def sm_lw (y : Nat) (e : Instr × Nat × Nat × Nat) : List Cond := match e with
  | (.getfield j, a, b, _) => (match sm_Cl[a]? with | some q => [.fieldLink (sm_ow y) j q.1 (q.2.1 b).2.1 (q.2.1 b).2.2.1] | none => [])
  | (.putfield j, a, b, _) => (match sm_Cl[a]? with | some q => [.fieldLink (sm_ow y) j q.1 (q.2.1 b).2.1 (q.2.1 b).2.2.1] | none => [])
  | (.invokevirtual j, a, _, ne) => [bif Nat.beq ne 0 then .methodLink (sm_ow y) j (sm_nm a) else .methodLinkNest (sm_ow y) j (sm_nm a) sm_ho]
  | (.invokestatic j, a, _, ne) => [bif Nat.beq ne 0 then .methodLink (sm_ow y) j (sm_nm a) else .methodLinkNest (sm_ow y) j (sm_nm a) sm_ho]
  | (.ldc2_w j, a, _, _) => [.constantLong (sm_ow y) j (Int64.ofNat a)]
  | _ => []
def sm_mw (y : Nat) : List Cond := if sm_ss y = true then [.code (sm_nm y) (sm_cc y) (sm_nl y) (sm_re y), .initialized (sm_nm y).cls, .static (sm_nm y)] else [.code (sm_nm y) (sm_cc y) (sm_nl y) (sm_re y), .initialized (sm_nm y).cls, .instanceMethod (sm_nm y), .selects (sm_nm y).cls (sm_nm y) (sm_nm y)]
def sm_bw : List Cond := [.native arraycopyName, .static arraycopyName, .initialized "java/lang/System"]
theorem sm_bw_at {w : Cond} (j : Nat) (h : sm_bw[j]? = some w) : w ∈ sm_bw := List.mem_of_getElem? h
theorem sm_bw_good : ∀ w ∈ sm_bw, (w.onTables && w.keepsH) = true := by decide +kernel
theorem sm_nm_cpy : sm_nm 1002 = arraycopyName := rfl
