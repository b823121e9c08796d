def sm_ln : Instr → Nat
  | .bipush _ | .iload _ | .lload _ | .aload _ | .istore _ | .lstore _ | .astore _ => 2
  | .sipush _ | .ldc2_w _ | .iinc _ _ | .ifCond _ _ | .if_icmp _ _ | .goto _ | .getfield _ | .putfield _ | .invokevirtual _ | .invokestatic _ | .new _ => 3
  | .tableswitch _ _ _ _ => 0
  | _ => 1
def sm_tg : Instr → Option Int
  | .ifCond _ o => some o
  | .if_icmp _ o => some o
  | .goto o => some o
  | _ => none
def sm_chk (y pc : Nat) : Bool := match sm_tab y pc with
  | none => true
  | some (i, a, _, _) => match decode (sm_cc y) pc with
    | .ok (i', ln) => decide (i' = i) && ((Nat.beq (sm_ln i) 0 || Nat.beq ln (sm_ln i)) && ((match sm_tg i with | some o => decide ((pc : Int) + o = (a : Int)) | none => true) && (match i with | .tableswitch d lo hi offs => decide (0 ≤ (pc : Int) + d) && (decide ((offs.size : Int) = hi - lo + 1) && offs.toList.all (fun o => decide (0 ≤ (pc : Int) + o))) | _ => true)))
    | .error _ => false
set_option maxRecDepth 100000 in
theorem sm_all0 : (List.range' 0 8).all (fun y => (List.range (sm_sz y)).all (sm_chk y)) = true := by decide +kernel
set_option maxRecDepth 100000 in
theorem sm_all1 : (List.range' 8 15).all (fun y => (List.range (sm_sz y)).all (sm_chk y)) = true := by decide +kernel
set_option maxRecDepth 100000 in
theorem sm_all2 : (List.range' 23 9).all (fun y => (List.range (sm_sz y)).all (sm_chk y)) = true := by decide +kernel
set_option maxRecDepth 100000 in
theorem sm_all3 : (List.range' 32 7).all (fun y => (List.range (sm_sz y)).all (sm_chk y)) = true := by decide +kernel
set_option maxRecDepth 100000 in
theorem sm_all4 : (List.range' 39 13).all (fun y => (List.range (sm_sz y)).all (sm_chk y)) = true := by decide +kernel
set_option maxRecDepth 100000 in
theorem sm_all5 : (List.range' 52 23).all (fun y => (List.range (sm_sz y)).all (sm_chk y)) = true := by decide +kernel
set_option maxRecDepth 100000 in
theorem sm_all6 : (List.range' 75 11).all (fun y => (List.range (sm_sz y)).all (sm_chk y)) = true := by decide +kernel
set_option maxRecDepth 100000 in
theorem sm_all7 : (List.range' 86 5).all (fun y => (List.range (sm_sz y)).all (sm_chk y)) = true := by decide +kernel
set_option maxRecDepth 100000 in
theorem sm_all8 : (List.range' 91 6).all (fun y => (List.range (sm_sz y)).all (sm_chk y)) = true := by decide +kernel
set_option maxRecDepth 100000 in
theorem sm_all9 : (List.range' 97 6).all (fun y => (List.range (sm_sz y)).all (sm_chk y)) = true := by decide +kernel
set_option maxRecDepth 100000 in
theorem sm_all10 : (List.range' 103 4).all (fun y => (List.range (sm_sz y)).all (sm_chk y)) = true := by decide +kernel
set_option maxRecDepth 100000 in
theorem sm_all11 : (List.range' 107 5).all (fun y => (List.range (sm_sz y)).all (sm_chk y)) = true := by decide +kernel
set_option maxRecDepth 100000 in
theorem sm_all12 : (List.range' 112 5).all (fun y => (List.range (sm_sz y)).all (sm_chk y)) = true := by decide +kernel
set_option maxRecDepth 100000 in
theorem sm_all13 : (List.range' 117 8).all (fun y => (List.range (sm_sz y)).all (sm_chk y)) = true := by decide +kernel
theorem sm_all (y : Nat) (hy : y < sm_NM) (pc : Nat) (hpc : pc < sm_sz y) : sm_chk y pc = true := by
  have key : ∀ (s n : Nat), (List.range' s n).all (fun y => (List.range (sm_sz y)).all (sm_chk y)) = true → s ≤ y → y < s + n → sm_chk y pc = true := by
    intro s n h h1 h2
    have h3 := List.all_eq_true.mp h y (by simp [List.mem_range']; exact ⟨y - s, by omega, by omega⟩)
    exact List.all_eq_true.mp h3 pc (List.mem_range.mpr hpc)
  have hy : y < 125 := hy
  by_cases h0 : y < 8
  · exact key 0 8 sm_all0 (by omega) (by omega)
  by_cases h1 : y < 23
  · exact key 8 15 sm_all1 (by omega) (by omega)
  by_cases h2 : y < 32
  · exact key 23 9 sm_all2 (by omega) (by omega)
  by_cases h3 : y < 39
  · exact key 32 7 sm_all3 (by omega) (by omega)
  by_cases h4 : y < 52
  · exact key 39 13 sm_all4 (by omega) (by omega)
  by_cases h5 : y < 75
  · exact key 52 23 sm_all5 (by omega) (by omega)
  by_cases h6 : y < 86
  · exact key 75 11 sm_all6 (by omega) (by omega)
  by_cases h7 : y < 91
  · exact key 86 5 sm_all7 (by omega) (by omega)
  by_cases h8 : y < 97
  · exact key 91 6 sm_all8 (by omega) (by omega)
  by_cases h9 : y < 103
  · exact key 97 6 sm_all9 (by omega) (by omega)
  by_cases h10 : y < 107
  · exact key 103 4 sm_all10 (by omega) (by omega)
  by_cases h11 : y < 112
  · exact key 107 5 sm_all11 (by omega) (by omega)
  by_cases h12 : y < 117
  · exact key 112 5 sm_all12 (by omega) (by omega)
  by_cases h13 : y < 125
  · exact key 117 8 sm_all13 (by omega) (by omega)
  omega
theorem sm_dec (y pc : Nat) (i : Instr) (a b ne : Nat) (h : sm_tab y pc = some (i, a, b, ne)) : ∃ ln, decode (sm_cc y) pc = .ok (i, ln) ∧ (sm_ln i ≠ 0 → ln = sm_ln i) ∧ (∀ o, sm_tg i = some o → (pc : Int) + o = (a : Int)) ∧ (∀ d lo hi offs, i = .tableswitch d lo hi offs → 0 ≤ (pc : Int) + d ∧ (offs.size : Int) = hi - lo + 1 ∧ ∀ o ∈ offs, 0 ≤ (pc : Int) + o) := by
  have hb : (Nat.blt y sm_NM && Nat.blt pc (sm_sz y)) = true := by
    cases hc : (Nat.blt y sm_NM && Nat.blt pc (sm_sz y)) with
    | true => rfl
    | false => unfold sm_tab at h; rw [hc] at h; cases h
  rw [Bool.and_eq_true] at hb
  have hc := sm_all y (Nat.le_of_ble_eq_true hb.1) pc (Nat.le_of_ble_eq_true hb.2)
  unfold sm_chk at hc
  rw [h] at hc
  simp only at hc
  split at hc
  · rename_i i' ln hd
    simp only [Bool.and_eq_true, Bool.or_eq_true, decide_eq_true_eq] at hc
    obtain ⟨h1, h2, h3, h4⟩ := hc
    subst h1
    refine ⟨ln, hd, fun hn => ?_, fun o ho => ?_, fun d lo hi offs he => ?_⟩
    · rcases h2 with h2 | h2
      · exact absurd (Nat.eq_of_beq_eq_true h2) hn
      · exact Nat.eq_of_beq_eq_true h2
    · rw [ho] at h3
      simpa using h3
    · subst he
      simp only [Bool.and_eq_true, decide_eq_true_eq, List.all_eq_true] at h4
      exact ⟨h4.1, h4.2.1, fun o ho => h4.2.2 o (by simpa using ho)⟩
  · cases hc
