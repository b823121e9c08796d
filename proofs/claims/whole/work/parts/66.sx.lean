-- the small machine in a run of which more is known (K), behind cells made before (n)
abbrev sx_K : Type := Program → Launch → Env → Room → State → MethodId → Array Value → List Frame → Method → Code → Prop
def sx_Cx (g : sm_G) (y : Nat) (K : sx_K) (n : Nat × Nat) (p : Program) (l : Launch) (e : Env) (R : Room) (s : State) (m : MethodId) (args : Array Value) (below : List Frame) (meth : Method) (c : Code) : Prop :=
  K p l e R s m args below meth c ∧ (n.1 + 0 ≤ R.cells ∧ n.2 + 0 ≤ R.slots) ∧ sm_Cx g y p R s m args meth c
def sx_Go (g : sm_G) (y : Nat) (K : sx_K) (n : Nat × Nat) (Fi : sm_F) : sm_K := fun pc L st M =>
  ∀ (p : Program) (l : Launch) (e : Env) (R : Room) (s : State) (m : MethodId) (args : Array Value) (below : List Frame) (meth : Method) (c : Code) (H : Heap) (locs : List Loc) (ls : Array Slot),
    sx_Cx g y K n p l e R s m args below meth c → sm_LV g ls (sm_nl y) L → va_P g.1 sm_Cl (sm_wo g M) H → va_S (sm_A g) s.heap H locs → W p l e R s m args below meth c H locs n.1 n.2 (Fi below args s) (F0 m pc ls (st.map (sm_tv g)))
/-- a call, as the kit has it, turned to the small machine -/
theorem sx_run {g : sm_G} {K : sx_K} {n : Nat × Nat} (a : Nat) {k : sm_K} {Fi : sm_F} {y pc : Nat} {L : List Value} (r : List Value) {p : Program} {l : Launch} {e : Env} {R : Room} {s : State} {m : MethodId} {args : Array Value} {below : List Frame} {meth : Method} {c : Code} {H : Heap} {locs : List Loc} {ls : Array Slot} {st0 : List Value} (aa : Array Value)
    (hk : ∀ pc L st M, k pc L st M → sx_Go g y K n Fi pc L st M) (hC : sx_Cx g y K n p l e R s m args below meth c) (hL : sm_LV g ls (sm_nl y) L) (hS : va_S (sm_A g) s.heap H locs)
    (hrun : va_Run p l e R s m args below meth c H locs n.1 n.2 0 0 (F0 m pc ls st0) (r.map (sm_tv g)) (sm_Qc g (sm_rp k (sm_rt a) (pc + 3) L r) aa) (sm_A g)) :
    W p l e R s m args below meth c H locs n.1 n.2 (Fi below args s) (F0 m pc ls st0) := by
  intro T hT X
  obtain ⟨v, st₀, t, T', Lo, h0, X', hLo, e1, e2, ⟨o, M', hq, ho, hP', hz, hkp⟩, stp⟩ := hrun T hT X
  cases ho
  rw [h0] at hz hkp
  have hS' : va_S (sm_A g) s.heap T'.heap (locs ++ Lo) := ⟨Nat.le_trans hS.1 (by rw [e1]; exact hz), fun q h1 h2 => by rw [e1, hkp q (Nat.lt_of_lt_of_le h1 hS.1) h2]; exact hS.2.1 q h1 h2, fun q hq => by
      rcases List.mem_append.mp hq with h | h
      · exact hS.2.2 q h
      · exact hLo q h⟩
  have hP2 : va_P g.1 sm_Cl (sm_wo g M') T'.heap := by rw [e1]; exact hP'
  obtain ⟨t2, a1, b1⟩ := hk _ _ _ _ (sm_rp_st hq) p l e R s m args below meth c T'.heap (locs ++ Lo) ls hC hL hP2 hS' T' rfl X'
  refine ⟨t2, stp t2 ?_, b1⟩
  cases o <;> exact a1
theorem sx_callV {g : sm_G} {K : sx_K} {n : Nat × Nat} {Fi : sm_F} {k : sm_K} {y pc a b ne j q ci : Nat} {As r st L : List Value} {rs : List Nat} {M : sm_M} {S : Nat → List Value → sm_M → (Option Value → sm_M → Prop) → Prop}
    (hS0 : ∀ a as M P, S a as M P → sm_Sm g a as M P) (hk : ∀ pc L st M, k pc L st M → sx_Go g y K n Fi pc L st M) (hd : decode (sm_cc y) pc = .ok (.invokevirtual j, 3)) (ht : sm_tab y pc = some (.invokevirtual j, a, b, ne)) (hla : sm_lay q = (3, ci, rs)) (hpo : sm_po (sm_ar a) [] st = (As, .ref q :: r))
    (hq : (Nat.blt q sm_NP && (Nat.beq ci (sm_mc a) && (Nat.beq As.length (sm_ar a) && (Nat.blt (sm_lv a) (sm_lv y) && (Nat.ble (8 + (sm_nl a + 11) + sm_rl a) (sm_rl y) && (Nat.ble (sm_cs r) 8 && (Nat.blt a sm_NM && !(sm_ss a)))))))) = true) (h : S a (.ref q :: As) M (sm_rp k (sm_rt a) (pc + 3) L r)) : sx_Go g y K n Fi pc L st M := by
  intro p l e R s m args below meth c H locs ls hC hL hP hS
  obtain ⟨hx, hb, hml, hown, hWW, hK, hr, hlk, hRf, hRl⟩ := id hC.2.2
  obtain ⟨h1, hq⟩ := sm_an hq
  obtain ⟨h2, hq⟩ := sm_an hq
  obtain ⟨h3, hq⟩ := sm_an hq
  obtain ⟨h4, hq⟩ := sm_an hq
  obtain ⟨h8, hq⟩ := sm_an hq
  obtain ⟨h5, hq⟩ := sm_an hq
  obtain ⟨h6, h7⟩ := sm_an hq
  have h1 := sm_blt h1
  have h2 := Nat.eq_of_beq_eq_true h2
  have h3 := Nat.eq_of_beq_eq_true h3
  have h4 := sm_blt h4
  have h8 := Nat.le_of_ble_eq_true h8
  have h5 := Nat.le_of_ble_eq_true h5
  have h6 := sm_blt h6
  have h7 : sm_ss a = false := by cases hss : sm_ss a <;> simp [hss] at h7 ⊢
  have hst : st = As.reverse ++ .ref q :: r := by have := (sm_po_eq _ _ _ _ _ hpo).1; simpa using this.symm
  obtain ⟨v1, v2, v3⟩ := sm_mok a h6
  obtain ⟨cq, hcq, hcn⟩ := sm_mcl a h6 h7
  subst h2
  have hcode : va_Nw (sm_cw a) s := hWW.2.2.1 a h6 _ (by simp [sm_mw, h7, sm_cw])
  have hini : va_Nw (.initialized (sm_nm a).cls) s := hWW.2.2.1 a h6 _ (by simp [sm_mw, h7])
  have hins : va_Nw (.instanceMethod (sm_nm a)) s := hWW.2.2.1 a h6 _ (by simp [sm_mw, h7])
  have hsel : va_Nw (.selects (sm_nm a).cls (sm_nm a) (sm_nm a)) s := hWW.2.2.1 a h6 _ (by simp [sm_mw, h7])
  have hobj := sm_lay_obj hla h1 hP hK hcq
  rw [hcn] at hobj
  have hpre : PreV s H (sm_nm a).cls (g.2.2 + q) (sm_Pc g (.ref q :: As) M) (As.map (sm_tv g)) := ⟨sm_blind, hobj, fun U hU hW => ⟨rfl, by rw [hU]; exact hP, va_K.moved hW.alike hK, sm_WW_warm hW hWW⟩⟩
  have hwk : ∀ w ∈ [sm_cw a], ∀ (a' : Array Value) (U : State), s.WarmedH U.vm → w.before a' U = true := by
    intro w hw a' U hW
    rw [List.mem_singleton.mp hw]
    exact word_at hW (Or.inl rfl) hcode
  have hRR : (sm_rm a).frames + 1 ≤ R.frames ∧ 8 + (sm_nl a + 11) + (sm_rm a).locals ≤ R.locals := ⟨by simp only [sm_rm]; omega, by simp only [sm_rm]; omega⟩
  have hlw := hWW.2.1 y pc _ ht
  have hM := hS0 _ _ _ _ h l
  have hF0 : F0 m pc ls (st.map (sm_tv g)) = F0 m pc ls ((As.map (sm_tv g)).reverse ++ .ref (g.2.2 + q) :: r.map (sm_tv g)) := by
    rw [hst]
    simp [sm_tv]
  rw [hF0]
  refine sx_run a r (Value.ref (g.2.2 + q) :: As.map (sm_tv g)).toArray hk hC hL hS ?_
  cases hne : Nat.beq ne 0 with
  | true =>
    refine va_runV (Ts := []) (cc := sm_cc y) (nL := sm_nl y) (own := sm_ow y) (C := (sm_nm a).cls) (index := j) (n := sm_ar a) (bytes := sm_cc a) (maxL := sm_nl a) (ret := sm_re a) (As := As.map (sm_tv g)) ⟨hx, hb, hml, hown, fun w hw => by cases hw⟩ hM ⟨⟨rfl, rfl, hRR.1, hRR.2, hwk, List.mem_singleton.mpr rfl, va_Nw.use rfl hcode, va_Nw.use rfl hini, v1, v2, va_Nw.use rfl (hlw _ (by simp [sm_lw, hne]))⟩, va_Nw.use rfl hins, va_Nw.use rfl hsel⟩ hpre rfl (by rw [List.length_map]; exact h3) hL.1 rfl (by rw [sm_cs_map]; show 2 * 0 + _ ≤ 8; omega) hd hC.2.1
  | false =>
    refine va_runVN (Ts := []) (cc := sm_cc y) (nL := sm_nl y) (own := sm_ow y) (host := sm_ho) (C := (sm_nm a).cls) (index := j) (n := sm_ar a) (bytes := sm_cc a) (maxL := sm_nl a) (ret := sm_re a) (As := As.map (sm_tv g)) ⟨hx, hb, hml, hown, fun w hw => by cases hw⟩ hM ⟨⟨⟨rfl, rfl, hRR.1, hRR.2, hwk, List.mem_singleton.mpr rfl⟩, va_Nw.use rfl hcode, va_Nw.use rfl hini, v1, v2, va_Nw.use rfl (hlw _ (by simp [sm_lw, hne]))⟩, va_Nw.use rfl hins, va_Nw.use rfl hsel⟩ hpre rfl (by rw [List.length_map]; exact h3) hL.1 rfl (by rw [sm_cs_map]; show 2 * 0 + _ ≤ 8; omega) hd hC.2.1
theorem sx_callS {g : sm_G} {K : sx_K} {n : Nat × Nat} {Fi : sm_F} {k : sm_K} {y pc a b ne j : Nat} {As r st L : List Value} {M : sm_M} {S : Nat → List Value → sm_M → (Option Value → sm_M → Prop) → Prop}
    (hS0 : ∀ a as M P, S a as M P → sm_Sm g a as M P) (hk : ∀ pc L st M, k pc L st M → sx_Go g y K n Fi pc L st M) (hd : decode (sm_cc y) pc = .ok (.invokestatic j, 3)) (ht : sm_tab y pc = some (.invokestatic j, a, b, ne)) (hpo : sm_po (sm_ar a) [] st = (As, r))
    (hq : (Nat.beq As.length (sm_ar a) && (Nat.blt (sm_lv a) (sm_lv y) && (Nat.ble (8 + (sm_nl a + 11) + sm_rl a) (sm_rl y) && (Nat.ble (sm_cs r) 8 && (Nat.blt a sm_NM && sm_ss a))))) = true) (h : S a As M (sm_rp k (sm_rt a) (pc + 3) L r)) : sx_Go g y K n Fi pc L st M := by
  intro p l e R s m args below meth c H locs ls hC hL hP hS
  obtain ⟨hx, hb, hml, hown, hWW, hK, hr, hlk, hRf, hRl⟩ := id hC.2.2
  obtain ⟨h3, hq⟩ := sm_an hq
  obtain ⟨h4, hq⟩ := sm_an hq
  obtain ⟨h8, hq⟩ := sm_an hq
  obtain ⟨h5, hq⟩ := sm_an hq
  obtain ⟨h6, h7⟩ := sm_an hq
  have h3 := Nat.eq_of_beq_eq_true h3
  have h4 := sm_blt h4
  have h8 := Nat.le_of_ble_eq_true h8
  have h5 := Nat.le_of_ble_eq_true h5
  have h6 := sm_blt h6
  have hst : st = As.reverse ++ r := by have := (sm_po_eq _ _ _ _ _ hpo).1; simpa using this.symm
  obtain ⟨v1, v2, v3⟩ := sm_mok a h6
  have hcode : va_Nw (sm_cw a) s := hWW.2.2.1 a h6 _ (by simp [sm_mw, h7, sm_cw])
  have hini : va_Nw (.initialized (sm_nm a).cls) s := hWW.2.2.1 a h6 _ (by simp [sm_mw, h7])
  have hsta : va_Nw (.static (sm_nm a)) s := hWW.2.2.1 a h6 _ (by simp [sm_mw, h7])
  have hpre : PreS s H (sm_Pc g As M) (As.map (sm_tv g)) := ⟨sm_blind, fun U hU hW => ⟨rfl, by rw [hU]; exact hP, va_K.moved hW.alike hK, sm_WW_warm hW hWW⟩⟩
  have hwk : ∀ w ∈ [sm_cw a], ∀ (a' : Array Value) (U : State), s.WarmedH U.vm → w.before a' U = true := by
    intro w hw a' U hW
    rw [List.mem_singleton.mp hw]
    exact word_at hW (Or.inl rfl) hcode
  have hRR : (sm_rm a).frames + 1 ≤ R.frames ∧ 8 + (sm_nl a + 11) + (sm_rm a).locals ≤ R.locals := ⟨by simp only [sm_rm]; omega, by simp only [sm_rm]; omega⟩
  have hlw := hWW.2.1 y pc _ ht
  have hM := hS0 _ _ _ _ h l
  have hF0 : F0 m pc ls (st.map (sm_tv g)) = F0 m pc ls ((As.map (sm_tv g)).reverse ++ r.map (sm_tv g)) := by
    rw [hst]
    simp
  rw [hF0]
  refine sx_run a r (As.map (sm_tv g)).toArray hk hC hL hS ?_
  cases hne : Nat.beq ne 0 with
  | true =>
    refine va_runS (Ts := []) (cc := sm_cc y) (nL := sm_nl y) (own := sm_ow y) (index := j) (n := sm_ar a) (bytes := sm_cc a) (maxL := sm_nl a) (ret := sm_re a) (As := As.map (sm_tv g)) ⟨hx, hb, hml, hown, fun w hw => by cases hw⟩ hM ⟨⟨rfl, rfl, hRR.1, hRR.2, hwk, List.mem_singleton.mpr rfl, va_Nw.use rfl hcode, va_Nw.use rfl hini, v1, v2, va_Nw.use rfl (hlw _ (by simp [sm_lw, hne]))⟩, va_Nw.use rfl hsta⟩ hpre rfl (by rw [List.length_map]; exact h3) hL.1 rfl (by rw [sm_cs_map]; show 2 * 0 + _ ≤ 8; omega) hd hC.2.1
  | false =>
    refine va_runSN (Ts := []) (cc := sm_cc y) (nL := sm_nl y) (own := sm_ow y) (host := sm_ho) (index := j) (n := sm_ar a) (bytes := sm_cc a) (maxL := sm_nl a) (ret := sm_re a) (As := As.map (sm_tv g)) ⟨hx, hb, hml, hown, fun w hw => by cases hw⟩ hM ⟨⟨⟨rfl, rfl, hRR.1, hRR.2, hwk, List.mem_singleton.mpr rfl⟩, va_Nw.use rfl hcode, va_Nw.use rfl hini, v1, v2, va_Nw.use rfl (hlw _ (by simp [sm_lw, hne]))⟩, va_Nw.use rfl hsta, trivial⟩ hpre rfl (by rw [List.length_map]; exact h3) hL.1 rfl (by rw [sm_cs_map]; show 2 * 0 + _ ≤ 8; omega) hd hC.2.1

set_option maxHeartbeats 4000000 in
theorem sx_in_ok {g : sm_G} {K : sx_K} {n : Nat × Nat} {y : Nat} {Fi : sm_F} {Q : Option Value → sm_M → Prop} {S : Nat → List Value → sm_M → (Option Value → sm_M → Prop) → Prop} {k G : sm_K} (hS0 : ∀ a as M P, S a as M P → sm_Sm g a as M P) (hF : ∀ below args s t, MQ below (sm_Qc g Q) args s n.1 n.2 (sm_A g) t → Fi below args s t) (hk : ∀ pc L st M, k pc L st M → sx_Go g y K n Fi pc L st M) (hG : ∀ pc L st M, G pc L st M → sx_Go g y K n Fi pc L st M)
    {ix : Instr × Nat × Nat × Nat} {pc : Nat} {L st : List Value} {M : sm_M} (ht : sm_tab y pc = some ix) (h : sm_in y Q S k G ix pc L st M) : sx_Go g y K n Fi pc L st M := by
  intro p l e R s m args below meth c H locs ls hC hL hP hS
  obtain ⟨hx, hb, hml, hown, hWW, hK, hr, hlk, hRf, hRl⟩ := id hC.2.2
  obtain ⟨i, a, b, ne⟩ := ix
  obtain ⟨ln, hd, hln, hT, hsw⟩ := sm_dec y pc i a b ne ht
  cases i with
  | aload_n j =>
    have hl0 := hln (by simp [sm_ln])
    subst hl0
    simp only [sm_in] at h
    split at h
    · rename_i x hx0
      have hl := hL.2.2 j.val (by rw [hx0]; exact fun q => by cases q)
      rw [hx0] at hl
      exact lv_aload_n hx hb hd rfl hl (hk _ _ _ _ h p l e R s m args below meth c H locs ls hC hL hP hS)
    · exact h.elim
  | iload_n j =>
    have hl0 := hln (by simp [sm_ln])
    subst hl0
    simp only [sm_in] at h
    split at h
    · rename_i x hx0
      have hl := hL.2.2 j.val (by rw [hx0]; exact fun q => by cases q)
      rw [hx0] at hl
      exact lv_iload_n hx hb hd rfl hl (hk _ _ _ _ h p l e R s m args below meth c H locs ls hC hL hP hS)
    · exact h.elim
  | lload_n j =>
    have hl0 := hln (by simp [sm_ln])
    subst hl0
    simp only [sm_in] at h
    split at h
    · rename_i x hx0
      have hl := hL.2.2 j.val (by rw [hx0]; exact fun q => by cases q)
      rw [hx0] at hl
      exact lv_lload_n hx hb hd rfl hl (hk _ _ _ _ h p l e R s m args below meth c H locs ls hC hL hP hS)
    · exact h.elim
  | aload j =>
    have hl0 := hln (by simp [sm_ln])
    subst hl0
    simp only [sm_in] at h
    split at h
    · rename_i x hx0
      have hl := hL.2.2 j (by rw [hx0]; exact fun q => by cases q)
      rw [hx0] at hl
      exact lv_aload hx hb hd hl (hk _ _ _ _ h p l e R s m args below meth c H locs ls hC hL hP hS)
    · exact h.elim
  | iload j =>
    have hl0 := hln (by simp [sm_ln])
    subst hl0
    simp only [sm_in] at h
    split at h
    · rename_i x hx0
      have hl := hL.2.2 j (by rw [hx0]; exact fun q => by cases q)
      rw [hx0] at hl
      exact lv_iload hx hb hd hl (hk _ _ _ _ h p l e R s m args below meth c H locs ls hC hL hP hS)
    · exact h.elim
  | lload j =>
    have hl0 := hln (by simp [sm_ln])
    subst hl0
    simp only [sm_in] at h
    split at h
    · rename_i x hx0
      have hl := hL.2.2 j (by rw [hx0]; exact fun q => by cases q)
      rw [hx0] at hl
      exact lv_lload hx hb hd hl (hk _ _ _ _ h p l e R s m args below meth c H locs ls hC hL hP hS)
    · exact h.elim
  | istore_n j =>
    have hl0 := hln (by simp [sm_ln])
    subst hl0
    simp only [sm_in] at h
    split at h
    · rename_i x r
      obtain ⟨hj, h⟩ := sm_bf h
      exact lv_istore_n hx hb hd rfl (sm_tl_has hL) (sm_blt hj) rfl (fun ls' h' => hk _ _ _ _ h p l e R s m args below meth c H locs ls' hC (sm_lv1 h') hP hS)
    · exact h.elim
  | astore_n j =>
    have hl0 := hln (by simp [sm_ln])
    subst hl0
    simp only [sm_in] at h
    split at h
    · rename_i x r
      obtain ⟨hj, h⟩ := sm_bf h
      exact lv_astore_n hx hb hd rfl (sm_tl_has hL) (sm_blt hj) rfl (fun ls' h' => hk _ _ _ _ h p l e R s m args below meth c H locs ls' hC (sm_lv1 h') hP hS)
    · exact h.elim
  | lstore_n j =>
    have hl0 := hln (by simp [sm_ln])
    subst hl0
    simp only [sm_in] at h
    split at h
    · rename_i x r
      obtain ⟨hj, h⟩ := sm_bf h
      exact lv_lstore_n hx hb hd rfl (sm_tl_has hL) (sm_blt hj) rfl (fun ls' h' => hk _ _ _ _ h p l e R s m args below meth c H locs ls' hC (sm_lv2 h') hP hS)
    · exact h.elim
  | istore j =>
    have hl0 := hln (by simp [sm_ln])
    subst hl0
    simp only [sm_in] at h
    split at h
    · rename_i x r
      obtain ⟨hj, h⟩ := sm_bf h
      exact lv_istore hx hb hd (sm_tl_has hL) (sm_blt hj) rfl (fun ls' h' => hk _ _ _ _ h p l e R s m args below meth c H locs ls' hC (sm_lv1 h') hP hS)
    · exact h.elim
  | astore j =>
    have hl0 := hln (by simp [sm_ln])
    subst hl0
    simp only [sm_in] at h
    split at h
    · rename_i x r
      obtain ⟨hj, h⟩ := sm_bf h
      exact lv_astore hx hb hd (sm_tl_has hL) (sm_blt hj) rfl (fun ls' h' => hk _ _ _ _ h p l e R s m args below meth c H locs ls' hC (sm_lv1 h') hP hS)
    · exact h.elim
  | lstore j =>
    have hl0 := hln (by simp [sm_ln])
    subst hl0
    simp only [sm_in] at h
    split at h
    · rename_i x r
      obtain ⟨hj, h⟩ := sm_bf h
      exact lv_lstore hx hb hd (sm_tl_has hL) (sm_blt hj) rfl (fun ls' h' => hk _ _ _ _ h p l e R s m args below meth c H locs ls' hC (sm_lv2 h') hP hS)
    · exact h.elim
  | iinc j n =>
    have hl0 := hln (by simp [sm_ln])
    subst hl0
    simp only [sm_in] at h
    split at h
    · rename_i x hx0
      have hn0 : sm_at L j ≠ .null := by rw [hx0]; exact fun q => by cases q
      have hm := sm_tl_mem (g := g) hn0
      rw [hx0] at hm
      obtain ⟨k0, hk0⟩ := List.getElem?_of_mem hm
      have hj : j < sm_nl y := by have h9 := hL.2.2 j hn0; have h8 := lv_lt h9; have h7 := hL.1; omega
      exact lv_iinc hx hb hd (sm_tl_has hL) hk0 rfl hj rfl (fun ls' h' => hk _ _ _ _ h p l e R s m args below meth c H locs ls' hC (sm_lv1 (v := .int (x + Int32.ofInt n)) h') hP hS)
    · exact h.elim
  | iconst n =>
    have hl0 := hln (by simp [sm_ln])
    subst hl0
    simp only [sm_in] at h
    exact lv_iconst hx hb hd rfl (hk _ _ _ _ h p l e R s m args below meth c H locs ls hC hL hP hS)
  | bipush n =>
    have hl0 := hln (by simp [sm_ln])
    subst hl0
    simp only [sm_in] at h
    obtain ⟨h1, h2⟩ := sm_bf h
    exact lv_bipush hx hb hd (sm_bi (by simpa using h1)) (hk _ _ _ _ h2 p l e R s m args below meth c H locs ls hC hL hP hS)
  | sipush n =>
    have hl0 := hln (by simp [sm_ln])
    subst hl0
    simp only [sm_in] at h
    obtain ⟨h1, h2⟩ := sm_bf h
    exact lv_sipush hx hb hd (sm_si (by simpa using h1)) (hk _ _ _ _ h2 p l e R s m args below meth c H locs ls hC hL hP hS)
  | lconst n =>
    have hl0 := hln (by simp [sm_ln])
    subst hl0
    simp only [sm_in] at h
    exact lv_lconst hx hb hd rfl (hk _ _ _ _ h p l e R s m args below meth c H locs ls hC hL hP hS)
  | ldc2_w j =>
    have hl0 := hln (by simp [sm_ln])
    subst hl0
    simp only [sm_in] at h
    exact lv_ldc2 hx hb hown (va_Nw.use rfl (hWW.2.1 y pc _ ht _ (by simp [sm_lw]))) hd (hk _ _ _ _ h p l e R s m args below meth c H locs ls hC hL hP hS)
  | iadd =>
    have hl0 := hln (by simp [sm_ln])
    subst hl0
    simp only [sm_in] at h
    split at h
    · exact lv_iadd hx hb hd (hk _ _ _ _ h p l e R s m args below meth c H locs ls hC hL hP hS)
    · exact h.elim
  | isub =>
    have hl0 := hln (by simp [sm_ln])
    subst hl0
    simp only [sm_in] at h
    split at h
    · exact lv_isub hx hb hd (hk _ _ _ _ h p l e R s m args below meth c H locs ls hC hL hP hS)
    · exact h.elim
  | imul =>
    have hl0 := hln (by simp [sm_ln])
    subst hl0
    simp only [sm_in] at h
    split at h
    · exact lv_imul hx hb hd (hk _ _ _ _ h p l e R s m args below meth c H locs ls hC hL hP hS)
    · exact h.elim
  | iand =>
    have hl0 := hln (by simp [sm_ln])
    subst hl0
    simp only [sm_in] at h
    split at h
    · exact lv_iand hx hb hd (hk _ _ _ _ h p l e R s m args below meth c H locs ls hC hL hP hS)
    · exact h.elim
  | ior =>
    have hl0 := hln (by simp [sm_ln])
    subst hl0
    simp only [sm_in] at h
    split at h
    · exact lv_ior hx hb hd (hk _ _ _ _ h p l e R s m args below meth c H locs ls hC hL hP hS)
    · exact h.elim
  | ixor =>
    have hl0 := hln (by simp [sm_ln])
    subst hl0
    simp only [sm_in] at h
    split at h
    · exact lv_ixor hx hb hd (hk _ _ _ _ h p l e R s m args below meth c H locs ls hC hL hP hS)
    · exact h.elim
  | ishl =>
    have hl0 := hln (by simp [sm_ln])
    subst hl0
    simp only [sm_in] at h
    split at h
    · exact lv_ishl hx hb hd (hk _ _ _ _ h p l e R s m args below meth c H locs ls hC hL hP hS)
    · exact h.elim
  | ishr =>
    have hl0 := hln (by simp [sm_ln])
    subst hl0
    simp only [sm_in] at h
    split at h
    · exact lv_ishr hx hb hd (hk _ _ _ _ h p l e R s m args below meth c H locs ls hC hL hP hS)
    · exact h.elim
  | ladd =>
    have hl0 := hln (by simp [sm_ln])
    subst hl0
    simp only [sm_in] at h
    split at h
    · exact lv_ladd hx hb hd (hk _ _ _ _ h p l e R s m args below meth c H locs ls hC hL hP hS)
    · exact h.elim
  | lsub =>
    have hl0 := hln (by simp [sm_ln])
    subst hl0
    simp only [sm_in] at h
    split at h
    · exact lv_lsub hx hb hd (hk _ _ _ _ h p l e R s m args below meth c H locs ls hC hL hP hS)
    · exact h.elim
  | land =>
    have hl0 := hln (by simp [sm_ln])
    subst hl0
    simp only [sm_in] at h
    split at h
    · exact lv_land hx hb hd (hk _ _ _ _ h p l e R s m args below meth c H locs ls hC hL hP hS)
    · exact h.elim
  | lor =>
    have hl0 := hln (by simp [sm_ln])
    subst hl0
    simp only [sm_in] at h
    split at h
    · exact lv_lor hx hb hd (hk _ _ _ _ h p l e R s m args below meth c H locs ls hC hL hP hS)
    · exact h.elim
  | lxor =>
    have hl0 := hln (by simp [sm_ln])
    subst hl0
    simp only [sm_in] at h
    split at h
    · exact lv_lxor hx hb hd (hk _ _ _ _ h p l e R s m args below meth c H locs ls hC hL hP hS)
    · exact h.elim
  | lshl =>
    have hl0 := hln (by simp [sm_ln])
    subst hl0
    simp only [sm_in] at h
    split at h
    · exact lv_lshl hx hb hd rfl (hk _ _ _ _ h p l e R s m args below meth c H locs ls hC hL hP hS)
    · exact h.elim
  | lshr =>
    have hl0 := hln (by simp [sm_ln])
    subst hl0
    simp only [sm_in] at h
    split at h
    · exact lv_lshr hx hb hd rfl (hk _ _ _ _ h p l e R s m args below meth c H locs ls hC hL hP hS)
    · exact h.elim
  | lushr =>
    have hl0 := hln (by simp [sm_ln])
    subst hl0
    simp only [sm_in] at h
    split at h
    · exact lv_lushr hx hb hd rfl (hk _ _ _ _ h p l e R s m args below meth c H locs ls hC hL hP hS)
    · exact h.elim
  | i2l =>
    have hl0 := hln (by simp [sm_ln])
    subst hl0
    simp only [sm_in] at h
    split at h
    · exact lv_i2l hx hb hd rfl (hk _ _ _ _ h p l e R s m args below meth c H locs ls hC hL hP hS)
    · exact h.elim
  | l2i =>
    have hl0 := hln (by simp [sm_ln])
    subst hl0
    simp only [sm_in] at h
    split at h
    · exact lv_l2i hx hb hd rfl (hk _ _ _ _ h p l e R s m args below meth c H locs ls hC hL hP hS)
    · exact h.elim
  | lcmp =>
    have hl0 := hln (by simp [sm_ln])
    subst hl0
    simp only [sm_in] at h
    split at h
    · exact W.lcmp hx hb hd (hk _ _ _ _ h p l e R s m args below meth c H locs ls hC hL hP hS)
    · exact h.elim
  | dup =>
    have hl0 := hln (by simp [sm_ln])
    subst hl0
    simp only [sm_in] at h
    split at h
    · exact lv_dup hx hb hd rfl (hk _ _ _ _ h p l e R s m args below meth c H locs ls hC hL hP hS)
    · exact lv_dup hx hb hd rfl (hk _ _ _ _ h p l e R s m args below meth c H locs ls hC hL hP hS)
    · exact h.elim
  | pop =>
    have hl0 := hln (by simp [sm_ln])
    subst hl0
    simp only [sm_in] at h
    split at h
    · exact lv_pop hx hb hd rfl (hk _ _ _ _ h p l e R s m args below meth c H locs ls hC hL hP hS)
    · exact lv_pop hx hb hd rfl (hk _ _ _ _ h p l e R s m args below meth c H locs ls hC hL hP hS)
    · exact h.elim
  | dup_x1 =>
    have hl0 := hln (by simp [sm_ln])
    subst hl0
    simp only [sm_in] at h
    split at h
    · exact lv_dup_x1 hx hb hd rfl rfl (hk _ _ _ _ h p l e R s m args below meth c H locs ls hC hL hP hS)
    · exact h.elim
  | dup2 =>
    have hl0 := hln (by simp [sm_ln])
    subst hl0
    simp only [sm_in] at h
    split at h
    · exact lv_dup2_11 hx hb hd rfl rfl (hk _ _ _ _ h p l e R s m args below meth c H locs ls hC hL hP hS)
    · exact lv_dup2_2 hx hb hd rfl (hk _ _ _ _ h p l e R s m args below meth c H locs ls hC hL hP hS)
    · exact h.elim
  | ifCond cd off =>
    have hl0 := hln (by simp [sm_ln])
    subst hl0
    simp only [sm_in] at h
    split at h
    · rename_i x r
      have htg := hT _ rfl
      cases cd with
      | eq => exact lv_if_eq hx hb hd htg (fun q => hk _ _ _ _ (h.1 q) p l e R s m args below meth c H locs ls hC hL hP hS) (fun q => hk _ _ _ _ (h.2 q) p l e R s m args below meth c H locs ls hC hL hP hS)
      | ne => exact lv_if_ne hx hb hd htg (fun q => hk _ _ _ _ (h.1 q) p l e R s m args below meth c H locs ls hC hL hP hS) (fun q => hk _ _ _ _ (h.2 q) p l e R s m args below meth c H locs ls hC hL hP hS)
      | lt => exact lv_if_lt hx hb hd htg (fun q => hk _ _ _ _ (h.1 q) p l e R s m args below meth c H locs ls hC hL hP hS) (fun q => hk _ _ _ _ (h.2 q) p l e R s m args below meth c H locs ls hC hL hP hS)
      | ge => exact lv_if_ge hx hb hd htg (fun q => hk _ _ _ _ (h.1 q) p l e R s m args below meth c H locs ls hC hL hP hS) (fun q => hk _ _ _ _ (h.2 q) p l e R s m args below meth c H locs ls hC hL hP hS)
      | gt => exact lv_if_gt hx hb hd htg (fun q => hk _ _ _ _ (h.1 q) p l e R s m args below meth c H locs ls hC hL hP hS) (fun q => hk _ _ _ _ (h.2 q) p l e R s m args below meth c H locs ls hC hL hP hS)
      | le => exact lv_if_le hx hb hd htg (fun q => hk _ _ _ _ (h.1 q) p l e R s m args below meth c H locs ls hC hL hP hS) (fun q => hk _ _ _ _ (h.2 q) p l e R s m args below meth c H locs ls hC hL hP hS)
    · exact h.elim
  | if_icmp cd off =>
    have hl0 := hln (by simp [sm_ln])
    subst hl0
    simp only [sm_in] at h
    split at h
    · rename_i z x r
      have htg := hT _ rfl
      cases cd with
      | eq => exact lv_icmp_eq hx hb hd htg (fun q => hk _ _ _ _ (h.1 q) p l e R s m args below meth c H locs ls hC hL hP hS) (fun q => hk _ _ _ _ (h.2 q) p l e R s m args below meth c H locs ls hC hL hP hS)
      | ne => exact lv_icmp_ne hx hb hd htg (fun q => hk _ _ _ _ (h.1 q) p l e R s m args below meth c H locs ls hC hL hP hS) (fun q => hk _ _ _ _ (h.2 q) p l e R s m args below meth c H locs ls hC hL hP hS)
      | lt => exact lv_icmp_lt hx hb hd htg (fun q => hk _ _ _ _ (h.1 q) p l e R s m args below meth c H locs ls hC hL hP hS) (fun q => hk _ _ _ _ (h.2 q) p l e R s m args below meth c H locs ls hC hL hP hS)
      | ge => exact lv_icmp_ge hx hb hd htg (fun q => hk _ _ _ _ (h.1 q) p l e R s m args below meth c H locs ls hC hL hP hS) (fun q => hk _ _ _ _ (h.2 q) p l e R s m args below meth c H locs ls hC hL hP hS)
      | gt => exact lv_icmp_gt hx hb hd htg (fun q => hk _ _ _ _ (h.1 q) p l e R s m args below meth c H locs ls hC hL hP hS) (fun q => hk _ _ _ _ (h.2 q) p l e R s m args below meth c H locs ls hC hL hP hS)
      | le => exact lv_icmp_le hx hb hd htg (fun q => hk _ _ _ _ (h.1 q) p l e R s m args below meth c H locs ls hC hL hP hS) (fun q => hk _ _ _ _ (h.2 q) p l e R s m args below meth c H locs ls hC hL hP hS)
    · exact h.elim
  | goto off =>
    have hl0 := hln (by simp [sm_ln])
    subst hl0
    simp only [sm_in] at h
    exact lv_goto hx hb hd (hT _ rfl) (hk _ _ _ _ h p l e R s m args below meth c H locs ls hC hL hP hS)
  | tableswitch d lo hi offs =>
    simp only [sm_in] at h
    split at h
    · rename_i x r
      obtain ⟨s1, s2, s3⟩ := hsw _ _ _ _ rfl
      by_cases hout : x.toInt < lo ∨ hi < x.toInt
      · exact lv_tableOut hx hb hd hout (by omega) (hk _ _ _ _ (h.1 hout) p l e R s m args below meth c H locs ls hC hL hP hS)
      · have e1 : ¬ x.toInt < lo := fun q => hout (Or.inl q)
        have e2 : ¬ hi < x.toInt := fun q => hout (Or.inr q)
        have hlt : (x.toInt - lo).toNat < offs.size := by omega
        have ho : offs[(x.toInt - lo).toNat]? = some offs[(x.toInt - lo).toNat] := Array.getElem?_eq_getElem hlt
        have h9 := s3 _ (Array.mem_of_getElem? ho)
        exact lv_tableIn hx hb hd e1 e2 ho (tgt := ((pc : Int) + offs[(x.toInt - lo).toNat]).toNat) (by omega) (hk _ _ _ _ (sm_sw_at _ _ _ _ h.2 (by rw [Array.getElem?_toList]; exact ho) (by omega)) p l e R s m args below meth c H locs ls hC hL hP hS)
    · exact h.elim
  | iaload =>
    have hl0 := hln (by simp [sm_ln])
    subst hl0
    simp only [sm_in] at h
    split at h
    · rename_i i q r
      split at h
      · rename_i n rs hla
        obtain ⟨hq, h⟩ := sm_bf h
        exact va_iald hx hb hK hP q 0 (by rw [sm_wo_get (sm_blt hq), sm_ce_0 hla]) rfl h.1 hd (hk _ _ _ _ h.2 p l e R s m args below meth c H locs ls hC hL hP hS)
      · exact h.elim
    · exact h.elim
  | baload =>
    have hl0 := hln (by simp [sm_ln])
    subst hl0
    simp only [sm_in] at h
    split at h
    · rename_i i q r
      split at h
      · rename_i n rs hla
        obtain ⟨hq, h⟩ := sm_bf h
        exact va_zald hx hb hK hP q 1 (by rw [sm_wo_get (sm_blt hq), sm_ce_1 hla]) rfl h.1 hd (hk _ _ _ _ h.2 p l e R s m args below meth c H locs ls hC hL hP hS)
      · exact h.elim
    · exact h.elim
  | laload =>
    have hl0 := hln (by simp [sm_ln])
    subst hl0
    simp only [sm_in] at h
    split at h
    · rename_i i q r
      split at h
      · rename_i n rs hla
        obtain ⟨hq, h⟩ := sm_bf h
        exact va_lald hx hb hK hP q 2 (by rw [sm_wo_get (sm_blt hq), sm_ce_2 hla]) rfl h.1 hd (hk _ _ _ _ h.2 p l e R s m args below meth c H locs ls hC hL hP hS)
      · exact h.elim
    · exact h.elim
  | iastore =>
    have hl0 := hln (by simp [sm_ln])
    subst hl0
    simp only [sm_in] at h
    split at h
    · rename_i x i q r
      split at h
      · rename_i n rs hla
        obtain ⟨hq, h⟩ := sm_bf h
        refine va_iast hx hb hK hP sm_wo_D hS q 0 (by rw [sm_wo_get (sm_blt hq), sm_ce_0 hla]) rfl h.1 hd (fun H1 locs1 hP1 _ hS1 => ?_)
        rw [sm_wo_set (M := M) (M' := sm_sI M q i.toNatClampNeg x) (fun a ha => sm_up_n ha) (fun a ha => rfl) (by rw [sm_ce_0 hla]; simp only [sm_sI, sm_up_s])] at hP1
        exact hk _ _ _ _ h.2 p l e R s m args below meth c H1 locs1 ls hC hL hP1 hS1
      · exact h.elim
    · exact h.elim
  | bastore =>
    have hl0 := hln (by simp [sm_ln])
    subst hl0
    simp only [sm_in] at h
    split at h
    · rename_i x i q r
      split at h
      · rename_i n rs hla
        obtain ⟨hq, h⟩ := sm_bf h
        obtain ⟨h0, h⟩ := h
        refine va_zast hx hb hK hP sm_wo_D hS q 1 (by rw [sm_wo_get (sm_blt hq), sm_ce_1 hla]) rfl h.1 hd (fun H1 locs1 hP1 _ hS1 => ?_)
        rw [sm_zn h0] at hP1
        rw [sm_wo_set (M := M) (M' := sm_sI M q i.toNatClampNeg x) (fun a ha => sm_up_n ha) (fun a ha => rfl) (by rw [sm_ce_1 hla]; simp only [sm_sI, sm_up_s])] at hP1
        exact hk _ _ _ _ h.2 p l e R s m args below meth c H1 locs1 ls hC hL hP1 hS1
      · exact h.elim
    · exact h.elim
  | lastore =>
    have hl0 := hln (by simp [sm_ln])
    subst hl0
    simp only [sm_in] at h
    split at h
    · rename_i x i q r
      split at h
      · rename_i n rs hla
        obtain ⟨hq, h⟩ := sm_bf h
        refine va_last hx hb hK hP sm_wo_D hS q 2 (by rw [sm_wo_get (sm_blt hq), sm_ce_2 hla]) rfl h.1 hd (fun H1 locs1 hP1 _ hS1 => ?_)
        rw [sm_wo_set (M := M) (M' := sm_sL M q i.toNatClampNeg x) (fun a ha => rfl) (fun a ha => sm_up_n ha) (by rw [sm_ce_2 hla]; simp only [sm_sL, sm_up_s])] at hP1
        exact hk _ _ _ _ h.2 p l e R s m args below meth c H1 locs1 ls hC hL hP1 hS1
      · exact h.elim
    · exact h.elim
  | arraylength =>
    have hl0 := hln (by simp [sm_ln])
    subst hl0
    simp only [sm_in] at h
    split at h
    · rename_i q r
      split at h
      · rename_i n rs hla
        obtain ⟨hq, h⟩ := sm_bf h
        exact va_alen hx hb hK hP q 0 (by rw [sm_wo_get (sm_blt hq), sm_ce_0 hla]) rfl (sm_ofN n) hd (hk _ _ _ _ h p l e R s m args below meth c H locs ls hC hL hP hS)
      · rename_i n rs hla
        obtain ⟨hq, h⟩ := sm_bf h
        exact va_alen hx hb hK hP q 2 (by rw [sm_wo_get (sm_blt hq), sm_ce_2 hla]) rfl (sm_ofN n) hd (hk _ _ _ _ h p l e R s m args below meth c H locs ls hC hL hP hS)
      · exact h.elim
    · exact h.elim
  | getfield j =>
    have hl0 := hln (by simp [sm_ln])
    subst hl0
    simp only [sm_in] at h
    split at h
    · rename_i q r
      split at h
      · rename_i ci rs hla
        obtain ⟨hq0, h1⟩ := sm_bf h
        obtain ⟨hq1, hca0⟩ := sm_an hq0
        have hca := Nat.eq_of_beq_eq_true hca0
        clear hq0 hca0 h
        subst hca
        split at h1
        · rename_i cd hcd
          obtain ⟨cq, hcq, hcn, hck⟩ := sm_clk ci b cd hcd
          have hget : (sm_wo g M)[q]? = some (g.2.2 + q, .inr (ci, sm_fl g M q rs (sm_fk ci))) := by rw [sm_wo_get (sm_blt hq1), sm_ce_3 hla]
          have hvv : (sm_fl g M q rs (sm_fk ci))[b]? = some (sm_tv g (sm_fs M q b rs cd)) := by rw [sm_fl_get, hcd]; rfl
          have hlw := hWW.2.1 y pc _ ht
          have hts : ∀ w ∈ u_ws cq.1 cq.2.1 cq.2.2, w.before args s = true := fun w hw => va_Nw.use (sm_g1 (sm_u_good hw)) (hWW.1 ci cq hcq w hw)
          exact va_get (ref := cq.1) hx hb hts (fun w hw => hw) hown hK hP q hget hcq b hcn (va_Nw.use rfl (hlw _ (by simp [sm_lw, hcq]))) (fun x hx => by rw [← hck]; exact hx) hvv hd (hk _ _ _ _ h1 p l e R s m args below meth c H locs ls hC hL hP hS)
        · exact h1.elim
      · exact h.elim
    · exact h.elim
  | putfield j =>
    have hl0 := hln (by simp [sm_ln])
    subst hl0
    simp only [sm_in] at h
    split at h
    · rename_i x q r
      split at h
      · rename_i ci rs hla
        obtain ⟨hq0, h1⟩ := sm_bf h
        obtain ⟨hq1, hca0⟩ := sm_an hq0
        have hca := Nat.eq_of_beq_eq_true hca0
        clear hq0 hca0 h
        subst hca
        have hget : (sm_wo g M)[q]? = some (g.2.2 + q, .inr (ci, sm_fl g M q rs (sm_fk ci))) := by rw [sm_wo_get (sm_blt hq1), sm_ce_3 hla]
        split at h1
        · rename_i hcd
          obtain ⟨cq, hcq, hcn, hck⟩ := sm_clk ci b _ hcd
          obtain ⟨t1, t2, t3, t4⟩ := sm_clp ci b _ cq hcd (by decide) hcq
          have hlw := hWW.2.1 y pc _ ht
          have hts : ∀ w ∈ u_ws cq.1 cq.2.1 cq.2.2, w.before args s = true := fun w hw => va_Nw.use (sm_g1 (sm_u_good hw)) (hWW.1 ci cq hcq w hw)
          have fin : ∀ (H1 : Heap) (locs1 : List Loc), va_P g.1 sm_Cl ((sm_wo g M).set q (g.2.2 + q, .inr (ci, (sm_fl g M q rs (sm_fk ci)).set b (.int x)))) H1 → va_D (sm_A g) ((sm_wo g M).set q (g.2.2 + q, .inr (ci, (sm_fl g M q rs (sm_fk ci)).set b (.int x)))) → va_S (sm_A g) s.heap H1 locs1 → W p l e R s m args below meth c H1 locs1 n.1 n.2 (Fi below args s) (F0 m (pc + 3) ls (r.map (sm_tv g))) := by
            intro H1 locs1 hP1 _ hS1
            rw [sm_wo_set (M := M) (M' := sm_sI M q b x) (fun a ha => sm_up_n ha) (fun a ha => rfl) (by rw [sm_ce_3 hla, sm_fl_i hcd])] at hP1
            exact hk _ _ _ _ h1 p l e R s m args below meth c H1 locs1 ls hC hL hP1 hS1
          exact va_put (ref := cq.1) hx hb hts (fun w hw => hw) (sm_cty ci) t1 t2 hown hK hP sm_wo_D hS q hget hcq b hcn (va_Nw.use rfl (hlw _ (by simp [sm_lw, hcq]))) (fun x hx => by rw [← hck]; exact hx) t3 (ty := .int) (by exact t4) (rfl) (rfl) (by rw [sm_fl_len]; exact (List.getElem?_eq_some_iff.mp hcd).1) hd fin
        · rename_i hcd
          obtain ⟨cq, hcq, hcn, hck⟩ := sm_clk ci b _ hcd
          obtain ⟨t1, t2, t3, t4⟩ := sm_clp ci b _ cq hcd (by decide) hcq
          have hlw := hWW.2.1 y pc _ ht
          have hts : ∀ w ∈ u_ws cq.1 cq.2.1 cq.2.2, w.before args s = true := fun w hw => va_Nw.use (sm_g1 (sm_u_good hw)) (hWW.1 ci cq hcq w hw)
          obtain ⟨h0, h1⟩ := h1
          have fin : ∀ (H1 : Heap) (locs1 : List Loc), va_P g.1 sm_Cl ((sm_wo g M).set q (g.2.2 + q, .inr (ci, (sm_fl g M q rs (sm_fk ci)).set b (.int x)))) H1 → va_D (sm_A g) ((sm_wo g M).set q (g.2.2 + q, .inr (ci, (sm_fl g M q rs (sm_fk ci)).set b (.int x)))) → va_S (sm_A g) s.heap H1 locs1 → W p l e R s m args below meth c H1 locs1 n.1 n.2 (Fi below args s) (F0 m (pc + 3) ls (r.map (sm_tv g))) := by
            intro H1 locs1 hP1 _ hS1
            rw [sm_wo_set (M := M) (M' := sm_sI M q b x) (fun a ha => sm_up_n ha) (fun a ha => rfl) (by rw [sm_ce_3 hla, sm_fl_z hcd])] at hP1
            exact hk _ _ _ _ h1 p l e R s m args below meth c H1 locs1 ls hC hL hP1 hS1
          exact va_put (ref := cq.1) hx hb hts (fun w hw => hw) (sm_cty ci) t1 t2 hown hK hP sm_wo_D hS q hget hcq b hcn (va_Nw.use rfl (hlw _ (by simp [sm_lw, hcq]))) (fun x hx => by rw [← hck]; exact hx) t3 (ty := .boolean) (by exact t4) (sm_nz h0) (sm_fz h0) (by rw [sm_fl_len]; exact (List.getElem?_eq_some_iff.mp hcd).1) hd fin
        · exact h1.elim
      · exact h.elim
    · rename_i x q r
      split at h
      · rename_i ci rs hla
        obtain ⟨hq0, h1⟩ := sm_bf h
        obtain ⟨hq1, hca0⟩ := sm_an hq0
        have hca := Nat.eq_of_beq_eq_true hca0
        clear hq0 hca0 h
        subst hca
        have hget : (sm_wo g M)[q]? = some (g.2.2 + q, .inr (ci, sm_fl g M q rs (sm_fk ci))) := by rw [sm_wo_get (sm_blt hq1), sm_ce_3 hla]
        split at h1
        · rename_i hcd
          obtain ⟨cq, hcq, hcn, hck⟩ := sm_clk ci b _ hcd
          obtain ⟨t1, t2, t3, t4⟩ := sm_clp ci b _ cq hcd (by decide) hcq
          have hlw := hWW.2.1 y pc _ ht
          have hts : ∀ w ∈ u_ws cq.1 cq.2.1 cq.2.2, w.before args s = true := fun w hw => va_Nw.use (sm_g1 (sm_u_good hw)) (hWW.1 ci cq hcq w hw)
          have fin : ∀ (H1 : Heap) (locs1 : List Loc), va_P g.1 sm_Cl ((sm_wo g M).set q (g.2.2 + q, .inr (ci, (sm_fl g M q rs (sm_fk ci)).set b (.long x)))) H1 → va_D (sm_A g) ((sm_wo g M).set q (g.2.2 + q, .inr (ci, (sm_fl g M q rs (sm_fk ci)).set b (.long x)))) → va_S (sm_A g) s.heap H1 locs1 → W p l e R s m args below meth c H1 locs1 n.1 n.2 (Fi below args s) (F0 m (pc + 3) ls (r.map (sm_tv g))) := by
            intro H1 locs1 hP1 _ hS1
            rw [sm_wo_set (M := M) (M' := sm_sL M q b x) (fun a ha => rfl) (fun a ha => sm_up_n ha) (by rw [sm_ce_3 hla, sm_fl_l hcd])] at hP1
            exact hk _ _ _ _ h1 p l e R s m args below meth c H1 locs1 ls hC hL hP1 hS1
          exact va_put (ref := cq.1) hx hb hts (fun w hw => hw) (sm_cty ci) t1 t2 hown hK hP sm_wo_D hS q hget hcq b hcn (va_Nw.use rfl (hlw _ (by simp [sm_lw, hcq]))) (fun x hx => by rw [← hck]; exact hx) t3 (ty := .long) (by exact t4) (rfl) (rfl) (by rw [sm_fl_len]; exact (List.getElem?_eq_some_iff.mp hcd).1) hd fin
        · exact h1.elim
      · exact h.elim
    · exact h.elim
  | invokevirtual j =>
    have hl0 := hln (by simp [sm_ln])
    subst hl0
    simp only [sm_in] at h
    split at h
    · rename_i As q r hpo
      split at h
      · rename_i ci rs hla
        obtain ⟨hq, h⟩ := sm_bf h
        exact sx_callV hS0 hk hd ht hla hpo hq h p l e R s m args below meth c H locs ls hC hL hP hS
      · exact h.elim
    · exact h.elim
  | invokestatic j =>
    have hl0 := hln (by simp [sm_ln])
    subst hl0
    simp only [sm_in] at h
    split at h
    · split at h
      · rename_i n dp q1 sp q0 r
        split at h
        · rename_i n0 rs0 n1 rs1 hl0 hl1
          obtain ⟨hq, h⟩ := sm_bf h
          obtain ⟨hne0, hq⟩ := sm_an hq
          obtain ⟨g1, hq⟩ := sm_an hq
          obtain ⟨g2, hq⟩ := sm_an hq
          obtain ⟨h1, hq⟩ := sm_an hq
          obtain ⟨h2, h3⟩ := sm_an hq
          have h1 := Nat.le_of_ble_eq_true h1
          have h2 := sm_blt h2
          have h3 := Nat.le_of_ble_eq_true h3
          have h9 : nativeFrameWords "java/lang/System" "arraycopy" 5 + 11 ≤ 40 := by decide +kernel
          obtain ⟨⟨c1, c2, c3, c4, c5⟩, h⟩ := h
          refine va_copyi hx hb (by rw [hml, hL.1]) hown (va_Nw.use rfl (hWW.2.1 y pc _ ht _ (by simp [sm_lw, sm_nm_cpy, hne0]))) (va_Nw.use rfl (hWW.2.2.2 _ (sm_bw_at 0 rfl))) (va_Nw.use rfl (hWW.2.2.2 _ (sm_bw_at 1 rfl))) (va_Nw.use rfl (hWW.2.2.2 _ (sm_bw_at 2 rfl))) hK hP sm_wo_D hS q0 q1 0 0 (by rw [sm_wo_get (sm_blt g1), sm_ce_0 hl0]) (by rw [sm_wo_get (sm_blt g2), sm_ce_0 hl1]) rfl rfl rfl c1 c2 c3 c4 c5 (fun _ _ => rfl) (by omega) (by rw [sm_cs_map]; omega) hd (fun H1 locs1 hP1 _ hS1 => ?_)
          rw [sm_wo_set (M := M) (M' := sm_cI M q1 (va_cpy (M.1 q0) (M.1 q1) sp.toNatClampNeg dp.toNatClampNeg n.toNatClampNeg)) (fun a ha => sm_up_n ha) (fun a ha => rfl) (by rw [sm_ce_0 hl1]; simp only [sm_cI, sm_up_s])] at hP1
          exact hk _ _ _ _ h p l e R s m args below meth c H1 locs1 ls hC hL hP1 hS1
        · exact h.elim
      · exact h.elim
    · obtain ⟨hq, h⟩ := sm_bf h
      exact sx_callS hS0 hk hd ht (As := (sm_po (sm_ar a) [] st).1) (r := (sm_po (sm_ar a) [] st).2) rfl hq h p l e R s m args below meth c H locs ls hC hL hP hS
  | ireturn =>
    have hl0 := hln (by simp [sm_ln])
    subst hl0
    simp only [sm_in] at h
    split at h
    · rename_i x
      split at h
      · rename_i hrt
        exact sm_mono (fun t ht => hF _ _ _ t ht) (W.iret hx hb (by rw [hr, sm_re1 hrt]) (fun t ht hW => ⟨_, _, h, rfl, by rw [ht]; exact hP, hS.F ht⟩) hS.2.2 hd hlk)
      · rename_i hrt
        exact sm_mono (fun t ht => hF _ _ _ t ht) (W.zret hx hb (by rw [hr, sm_re2 hrt]) (sm_nz h.1) (fun t ht hW => ⟨_, _, h.2, rfl, by rw [ht]; exact hP, hS.F ht⟩) hS.2.2 hd hlk)
      · exact h.elim
    · exact h.elim
  | lreturn =>
    have hl0 := hln (by simp [sm_ln])
    subst hl0
    simp only [sm_in] at h
    split at h
    · rename_i x
      split at h
      · rename_i hrt
        exact sm_mono (fun t ht => hF _ _ _ t ht) (W.lret hx hb (by rw [hr, sm_re3 hrt]) (fun t ht hW => ⟨_, _, h, rfl, by rw [ht]; exact hP, hS.F ht⟩) hS.2.2 hd hlk)
      · exact h.elim
    · exact h.elim
  | return_ =>
    have hl0 := hln (by simp [sm_ln])
    subst hl0
    simp only [sm_in] at h
    split at h
    · split at h
      · rename_i hrt
        exact sm_mono (fun t ht => hF _ _ _ t ht) (W.vret hx hb (by rw [hr, sm_re0 hrt]) (fun t ht hW => ⟨_, _, h, rfl, by rw [ht]; exact hP, hS.F ht⟩) hS.2.2 hd hlk)
      · exact h.elim
    · exact h.elim
  | new j =>
    have hl0 := hln (by simp [sm_ln])
    subst hl0
    simp only [sm_in] at h
    exact hG _ _ _ _ h p l e R s m args below meth c H locs ls hC hL hP hS
  | _ => exact h.elim
theorem sx_ok {g : sm_G} {K : sx_K} {n : Nat × Nat} {y : Nat} {Fi : sm_F} {Q : Option Value → sm_M → Prop} {S : Nat → List Value → sm_M → (Option Value → sm_M → Prop) → Prop} {G : sm_K} (hS0 : ∀ a as M P, S a as M P → sm_Sm g a as M P) (hF : ∀ below args s t, MQ below (sm_Qc g Q) args s n.1 n.2 (sm_A g) t → Fi below args s t) (hG : ∀ pc L st M, G pc L st M → sx_Go g y K n Fi pc L st M) : ∀ (f pc : Nat) (L st : List Value) (M : sm_M), sm_ex y Q S G f pc L st M → sx_Go g y K n Fi pc L st M
  | 0, pc, L, st, M, h => hG _ _ _ _ h
  | f + 1, pc, L, st, M, h => by
    simp only [sm_ex] at h
    split at h
    · exact h.elim
    · rename_i e he
      refine sx_in_ok hS0 hF (fun pc' L' st' M' h' => ?_) hG he h
      cases hh : sm_hd y pc' with
      | true => rw [hh] at h'; exact hG _ _ _ _ h'
      | false => rw [hh] at h'; exact sx_ok hS0 hF hG f pc' L' st' M' h'
