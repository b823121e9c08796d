-- what the law's start gives
theorem kx_a' {s : State} {ty : FieldType} {B A : Array Value} (h : (Cond.arrayClass ty).before B s = true) : (Cond.arrayClass ty).before A s = true := word_at (State.WarmedH.refl s) (Or.inr ⟨ty, rfl⟩) h
section
variable {p : Program} {e : Env} {s : State} {m : MethodId} {meth : Method} {c : Code} {b L : Nat} {xs : Nat → Int32}
theorem s0_nw (hts : ∀ w ∈ lw_tbl, w.before #[Value.ref b] s = true) {w : Cond} (hw : w ∈ lw_tbl) (ho : w.onTables = true) : va_Nw w s := va_tabs ho rfl (hts w hw)
theorem s0_tab {y pc : Nat} {x : Instr × Nat × Nat × Nat} (h : sm_tab y pc = some x) : y < 125 ∧ pc < sm_sz y := by
  have hb : (Nat.blt y sm_NM && Nat.blt pc (sm_sz y)) = true := by
    cases hc : (Nat.blt y sm_NM && Nat.blt pc (sm_sz y)) with
    | true => rfl
    | false => unfold sm_tab at h; rw [hc] at h; cases h
  rw [Bool.and_eq_true] at hb
  exact ⟨Nat.le_of_ble_eq_true hb.1, Nat.le_of_ble_eq_true hb.2⟩
theorem s0_WW (hts : ∀ w ∈ lw_tbl, w.before #[Value.ref b] s = true) : sm_WW s := by
  refine ⟨fun ci q hq w hw => s0_nw hts (wi_cw_t w ?_) (sm_g1 (sm_u_good hw)), fun y pc x hx w hw => s0_nw hts (wi_lw_t w ?_) (sm_g1 (sm_lw_good hw)), fun y hy w hw => s0_nw hts (wi_mw_t w ?_) (sm_g1 (sm_mw_good hw)), fun w hw => s0_nw hts (wi_bw_t w hw) (sm_g1 (sm_bw_good w hw))⟩
  · exact List.mem_flatMap.mpr ⟨q, List.mem_of_getElem? hq, hw⟩
  · obtain ⟨h1, h2⟩ := s0_tab hx
    refine List.mem_flatMap.mpr ⟨y, List.mem_range.mpr h1, List.mem_flatMap.mpr ⟨pc, List.mem_range.mpr h2, ?_⟩⟩
    rw [hx]; exact hw
  · exact List.mem_flatMap.mpr ⟨y, List.mem_range.mpr hy, hw⟩
theorem s0_g (hts : ∀ w ∈ lw_tbl, w.before #[Value.ref b] s = true) : ∃ g : sm_G, g.2.2 = s.heap.size ∧ va_K g.1 sm_Cl (sm_ty g) s := by
  have hi : ∀ (ci : Nat) (q : vw_C), sm_Cl[ci]? = some q → (Cond.instantiable q.1 q.2.2).before #[Value.ref b] s = true := by
    intro ci q hq
    have h10 : ci < 10 := (List.getElem?_eq_some_iff.mp hq).1
    match ci, h10, hq with
    | 0, _, hq => cases hq; exact hts _ (wi_kw_t _ (ct_at 5 rfl))
    | 1, _, hq => cases hq; exact hts _ (wi_kw_t _ (ct_at 9 rfl))
    | 2, _, hq => cases hq; exact hts _ (wi_kw_t _ (ct_at 13 rfl))
    | 3, _, hq => cases hq; exact hts _ (wi_kw_t _ (ct_at 17 rfl))
    | 4, _, hq => cases hq; exact hts _ (wi_kw_t _ (ct_at 21 rfl))
    | 5, _, hq => cases hq; exact hts _ (wi_kw_t _ (ct_at 25 rfl))
    | 6, _, hq => cases hq; exact hts _ (wi_kw_t _ (ct_at 29 rfl))
    | 7, _, hq => cases hq; exact hts _ (wi_kw_t _ (ct_at 33 rfl))
    | 8, _, hq => cases hq; exact hts _ (wi_kw_t _ (ct_at 37 rfl))
    | 9, _, hq => cases hq; exact hts _ (wi_kw_t _ (ct_at 41 rfl))
    | n + 10, h, _ => exact absurd h (by omega)
  have hk : ∀ ci : Nat, ∃ r : ClassId × (Nat → Nat), ∀ q : vw_C, sm_Cl[ci]? = some q → u_Kn s q.1 q.2.1 q.2.2 r.1 r.2 := by
    intro ci
    cases hq : sm_Cl[ci]? with
    | none => exact ⟨(0, fun _ => 0), fun q h => by cases h⟩
    | some q =>
      obtain ⟨cC, iS, h⟩ := u_known (ws := u_ws q.1 q.2.1 q.2.2) (T := q.2.1) (fun w hw => va_Nw.use (sm_g1 (sm_u_good hw)) ((s0_WW hts).1 ci q hq w hw)) (fun w hw => hw) (hi ci q hq)
      exact ⟨(cC, iS), fun q' h' => by cases h'; exact h⟩
  obtain ⟨F, hF⟩ := Classical.axiomOfChoice hk
  have ha : ∀ ty : FieldType, (Cond.arrayClass ty).before #[Value.ref b] s = true → ∃ cA : ClassId, ArrOfT s cA ty ∧ s.vm.findClass ("[" ++ ty.toString) = some cA := by
    intro ty h
    obtain ⟨cA, kA, comp, h1, h2, h3⟩ := Cond.arrayClass_spec h
    exact ⟨cA, fun n z => ⟨fun k h => (by cases h), kA, h2, comp, h3⟩, h1⟩
  obtain ⟨a1, a2, a3⟩ := ha .int (hts _ (wi_aw_t _ (by simp [wi_aw])))
  obtain ⟨b1, b2, b3⟩ := ha .boolean (hts _ (wi_aw_t _ (by simp [wi_aw])))
  obtain ⟨c1, c2, c3⟩ := ha .long (hts _ (wi_aw_t _ (by simp [wi_aw])))
  refine ⟨((fun ci => (F ci).1, fun ci => (F ci).2), (a1, b1, c1), s.heap.size), rfl, fun ci q hq => hF ci q hq, fun k q hk => ?_⟩
  match k, hk with
  | 0, hk => cases hk; exact ⟨a2, a3⟩
  | 1, hk => cases hk; exact ⟨b2, b3⟩
  | 2, hk => cases hk; exact ⟨c2, c3⟩
theorem s0_KX (hts : ∀ w ∈ lw_tbl, w.before #[Value.ref b] s = true) {g : sm_G} (hK : va_K g.1 sm_Cl (sm_ty g) s) : KX g s := by
  refine ⟨s0_WW hts, hK, fun w hw => s0_nw hts (wi_kw_t w hw) (sm_g1 (List.all_eq_true.mp ct_ok w hw)), ?_, ?_, ?_⟩
  · exact kx_a' (hts _ (wi_aw_t _ (by simp [wi_aw])))
  · exact kx_a' (hts _ (wi_aw_t _ (by simp [wi_aw])))
  · exact kx_a' (hts _ (wi_aw_t _ (by simp [wi_aw])))
theorem s0_LX (hts : ∀ w ∈ lw_tbl, w.before #[Value.ref b] s = true) (hgv : (Jvm.Cond.and given_1 narrow_1).before #[Value.ref b] s = true) {g : sm_G} (hg : g.2.2 = s.heap.size) (hK : va_K g.1 sm_Cl (sm_ty g) s) : LX g wr_ws s := by
  have hs := flat_of_before _ hgv
  refine ⟨by omega, s0_WW hts, hK, ?_, ?_, ?_⟩
  · rw [hg]
    refine xs_X_0 (args := #[Value.ref b]) (by decide +kernel) (fun w hw => ?_)
    cases hr : wi_isr w with
    | false => exact hts w (wi_xw_t w (List.mem_filter.mpr ⟨hw, by rw [hr]; rfl⟩))
    | true =>
      have key : ∀ w ∈ xs_all, wi_isr w = true → w = .isRef (.static Bundle.tN "UNASSIGNED_STACK" Bundle.steD) ∨ w = .isRef (.static Bundle.tN "SUPPRESSED_SENTINEL" Bundle.listD) := by decide +kernel
      rcases key w hw hr with rfl | rfl
      · exact hs _ (by decide +kernel)
      · exact hs _ (by decide +kernel)
  · rw [hg]
    exact xs_X_0 (args := #[Value.ref b]) wr_wok (fun w hw => hts w (wi_ww_t w hw))
  · exact xs_nc (State.WarmedH.refl s) (hs (Cond.not (.castable xs_IS xs_IA)) (by decide +kernel))
end
