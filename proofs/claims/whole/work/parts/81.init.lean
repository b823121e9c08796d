-- the law's start
theorem INV_z : INV (fun _ _ => 0, fun _ _ => 0) := by
  refine ⟨0, fun _ _ => 0, ⟨by omega, rfl, rfl, fun i hi => by omega, fun i hi => by omega, fun i hi => by omega⟩, Or.inl ⟨rfl, rfl⟩, rfl, by decide, rfl, Or.inl rfl, fun t _ => rfl⟩
def st_F (g : sm_G) : Nat → va_E := kup (cE_9 g 36 (kup (cE_8 g 1 (kup (fun _ => ka 0 0) 0 (.inr (8, [.null, .null, .null, .null, .null, .null, .int 0]))) 0) 35 (.inr (9, [.int 0, .null, .null, .null, .null, .null, .int 0, .int 0, .int 0, .null, .null, .null, .null, .null, .null, .null, .null, .null, .null, .null, .int 0, .int 0, .int 0, .int 0, .int 0, .null, .int 0, .null, .null, .null, .null, .null, .null, .int 0, .int 0]))) 35) 59 (kl g.2.1.2.2 1)
set_option maxRecDepth 100000 in
theorem st_ce {g : sm_G} : ∀ p, p < 59 → st_F g p = sm_ce g (fun _ _ => 0, fun _ _ => 0) p := by
  intro p hp
  match p, hp with
  | 0, _ => exact rfl
  | 1, _ => exact rfl
  | 2, _ => exact rfl
  | 3, _ => exact rfl
  | 4, _ => exact rfl
  | 5, _ => exact rfl
  | 6, _ => exact rfl
  | 7, _ => exact rfl
  | 8, _ => exact rfl
  | 9, _ => exact rfl
  | 10, _ => exact rfl
  | 11, _ => exact rfl
  | 12, _ => exact rfl
  | 13, _ => exact rfl
  | 14, _ => exact rfl
  | 15, _ => exact rfl
  | 16, _ => exact rfl
  | 17, _ => exact rfl
  | 18, _ => exact rfl
  | 19, _ => exact rfl
  | 20, _ => exact rfl
  | 21, _ => exact rfl
  | 22, _ => exact rfl
  | 23, _ => exact rfl
  | 24, _ => exact rfl
  | 25, _ => exact rfl
  | 26, _ => exact rfl
  | 27, _ => exact rfl
  | 28, _ => exact rfl
  | 29, _ => exact rfl
  | 30, _ => exact rfl
  | 31, _ => exact rfl
  | 32, _ => exact rfl
  | 33, _ => exact rfl
  | 34, _ => exact rfl
  | 35, _ => exact rfl
  | 36, _ => exact rfl
  | 37, _ => exact rfl
  | 38, _ => exact rfl
  | 39, _ => exact rfl
  | 40, _ => exact rfl
  | 41, _ => exact rfl
  | 42, _ => exact rfl
  | 43, _ => exact rfl
  | 44, _ => exact rfl
  | 45, _ => exact rfl
  | 46, _ => exact rfl
  | 47, _ => exact rfl
  | 48, _ => exact rfl
  | 49, _ => exact rfl
  | 50, _ => exact rfl
  | 51, _ => exact rfl
  | 52, _ => exact rfl
  | 53, _ => exact rfl
  | 54, _ => exact rfl
  | 55, _ => exact rfl
  | 56, _ => exact rfl
  | 57, _ => exact rfl
  | 58, _ => exact rfl
  | n + 59, h => exact absurd h (by omega)
theorem st_P {g : sm_G} {H : Heap} (h : va_P g.1 sm_Cl (pw g 60 (st_F g)) H) : va_P g.1 sm_Cl (lwo g (fun _ _ => 0, fun _ _ => 0) (fun _ => 0)) H := by
  intro k q hk
  by_cases hl : k < 59
  · unfold lwo at hk
    rw [List.getElem?_append_left (by rw [sm_wo_len]; exact hl)] at hk
    obtain ⟨-, rfl⟩ := sm_wo_of hk
    have := h k _ (pw_get (by omega))
    rw [st_ce k hl] at this
    exact this
  · have hk' := (List.getElem?_eq_some_iff.mp hk).1
    have e59 : k = 59 := by
      unfold lwo at hk'
      rw [List.length_append, sm_wo_len] at hk'
      simp at hk'; omega
    subst e59
    rw [lwo_o] at hk
    cases hk
    have := h 59 _ (pw_get (by omega))
    exact this
