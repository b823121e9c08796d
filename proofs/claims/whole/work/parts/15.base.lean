-- more is known of the locals than is asked
def sm_le : List Value → List Value → Prop
  | [], _ => True
  | .null :: l, _ :: l' => sm_le l l'
  | v :: l, v' :: l' => v' = v ∧ sm_le l l'
  | _ :: _, [] => False
theorem sm_le_at : ∀ (L L' : List Value) (k : Nat), sm_le L L' → sm_at L k ≠ .null → sm_at L' k = sm_at L k
  | [], _, k, _, h => absurd rfl h
  | v :: l, v' :: l', k, hl, h => by
    have h2 : (v = .null ∨ v' = v) ∧ sm_le l l' := by
      cases v <;> first | exact ⟨Or.inl rfl, hl⟩ | exact ⟨Or.inr hl.1, hl.2⟩
    match k, h with
    | 0, h => rcases h2.1 with e | e
              · exact absurd e h
              · exact e
    | k + 1, h => exact sm_le_at l l' k h2.2 h
  | v :: l, [], k, hl, h => by cases v <;> exact hl.elim
theorem sm_wk {g : sm_G} {y : Nat} {Fi : sm_F} {pc : Nat} {L L' st : List Value} {M : sm_M} (hl : sm_le L L') (h : sm_Go g y Fi pc L st M) : sm_Go g y Fi pc L' st M := by
  intro p l e R s m args below meth c H locs ls hC hL hP hS
  refine h p l e R s m args below meth c H locs ls hC ⟨hL.1, hL.2.1, fun k hk => ?_⟩ hP hS
  have e1 := sm_le_at L L' k hl hk
  rw [← e1]
  exact hL.2.2 k (by rw [e1]; exact hk)
-- memories
theorem sm_ext {M N : sm_M} (h1 : ∀ p, M.1 p = N.1 p) (h2 : ∀ p, M.2 p = N.2 p) : M = N := Prod.ext (funext h1) (funext h2)
theorem sI_1 {M : sm_M} {p q i : Nat} {x : Int32} (h : q ≠ p) : (sm_sI M p i x).1 q = M.1 q := sm_up_n h
theorem sI_s {M : sm_M} {p i : Nat} {x : Int32} : (sm_sI M p i x).1 p = upd (M.1 p) i x := sm_up_s
theorem sI_2 {M : sm_M} {p i : Nat} {x : Int32} : (sm_sI M p i x).2 = M.2 := rfl
theorem sL_2 {M : sm_M} {p q i : Nat} {x : Int64} (h : q ≠ p) : (sm_sL M p i x).2 q = M.2 q := sm_up_n h
theorem sL_s {M : sm_M} {p i : Nat} {x : Int64} : (sm_sL M p i x).2 p = vp_updL (M.2 p) i x := sm_up_s
theorem sL_1 {M : sm_M} {p i : Nat} {x : Int64} : (sm_sL M p i x).1 = M.1 := rfl
def fl_n {α : Type} (f : Nat → α) (n : Nat) (x : α) : Nat → α := fun j => if j < n then x else f j
section
variable {g : sm_G} {M : sm_M}
def fi_ok (q n : Nat) : Prop := (q = 13 ∧ n = 60) ∨ (q = 14 ∧ n = 60) ∨ (q = 17 ∧ n = 60) ∨ (q = 21 ∧ n = 60) ∨ (q = 28 ∧ n = 784) ∨ (q = 32 ∧ n = 10) ∨ (q = 33 ∧ n = 10)
theorem fi_le {q n : Nat} (h : fi_ok q n) : n ≤ 784 := by
  unfold fi_ok at h
  omega
/-- Arrays.fill(int[], int) -/
theorem c_fillI {q n : Nat} (hq : fi_ok q n) (x : Int32) : sm_Sm g 124 [.ref q, .int x] M (fun o M' => o = none ∧ M' = sm_cI M q (fl_n (M.1 q) n x)) := by
  have hn := fi_le hq
  have key : ∀ (d k : Nat), k + d = n → sm_Go g 124 (sm_Fn g (fun o M' => o = none ∧ M' = sm_cI M q (fl_n (M.1 q) n x))) 5 [.ref q, .int x, .int (Int32.ofInt k), .int (Int32.ofInt (n : Nat))] [] (sm_cI M q (fl_n (M.1 q) k x)) := by
    intro d
    induction d with
    | zero =>
      intro k hk
      refine k124_5 hq (fun _ _ _ _ h => h) ⟨fun _ => ⟨rfl, by rw [show k = n by omega]⟩, fun h => ?_⟩
      rw [jn_le (by omega) (by omega) (by omega) (by omega)] at h
      omega
    | succ d ih =>
      intro k hk
      refine k124_5 hq (fun _ _ _ _ h => h) ⟨fun h => ?_, fun _ => ?_⟩
      · rw [jn_le (by omega) (by omega) (by omega) (by omega)] at h
        omega
      · rw [jn_in (by omega) (by omega), jn_cl (by omega) (by omega), jn_add]
        refine ⟨by omega, ?_⟩
        have e : sm_sI (sm_cI M q (fl_n (M.1 q) k x)) q (k : Int).toNat x = sm_cI M q (fl_n (M.1 q) (k + 1) x) := by
          refine sm_ext (fun p => ?_) (fun _ => rfl)
          by_cases hp : p = q
          · subst hp
            rw [sI_s]
            show upd (sm_up _ _ _ _) _ _ = sm_up _ _ _ _
            rw [sm_up_s, sm_up_s]
            funext j
            unfold upd fl_n
            by_cases hj : j = k
            · subst hj; simp
            · by_cases h2 : j < k
              · rw [if_neg (by omega), if_pos h2, if_pos (by omega)]
              · rw [if_neg (by omega), if_neg h2, if_neg (by omega)]
          · rw [sI_1 hp]
            show sm_up _ _ _ _ = sm_up _ _ _ _
            rw [sm_up_n hp, sm_up_n hp]
        rw [e]
        exact ih (k + 1) (by omega)
  refine sm_entry (Nat.le_of_ble_eq_true rfl) (Nat.le_of_ble_eq_true rfl) ?_
  refine k124_0 hq (fun _ _ _ _ h => h) ?_
  have k0 := key n 0 (by omega)
  have e0 : sm_cI M q (fl_n (M.1 q) 0 x) = M := by
    refine sm_ext (fun p => ?_) (fun _ => rfl)
    show sm_up _ _ _ _ = _
    by_cases hp : p = q
    · subst hp; rw [sm_up_s]; funext j; simp [fl_n]
    · rw [sm_up_n hp]
  rw [e0] at k0
  exact k0
def fj_ok (q n : Nat) : Prop := (q = 7 ∧ n = 49) ∨ (q = 11 ∧ n = 49) ∨ (q = 15 ∧ n = 60)
def sm_cL (M : sm_M) (p : Nat) (h : Nat → Int64) : sm_M := (M.1, sm_up M.2 p h)
/-- Arrays.fill(long[], long) -/
theorem c_fillL {q n : Nat} (hq : fj_ok q n) (x : Int64) : sm_Sm g 123 [.ref q, .long x] M (fun o M' => o = none ∧ M' = sm_cL M q (fl_n (M.2 q) n x)) := by
  have hn : n ≤ 60 := by unfold fj_ok at hq; omega
  have key : ∀ (d k : Nat), k + d = n → sm_Go g 123 (sm_Fn g (fun o M' => o = none ∧ M' = sm_cL M q (fl_n (M.2 q) n x))) 6 [.ref q, .long x, .null, .int (Int32.ofInt k), .int (Int32.ofInt (n : Nat))] [] (sm_cL M q (fl_n (M.2 q) k x)) := by
    intro d
    induction d with
    | zero =>
      intro k hk
      refine k123_6 hq (fun _ _ _ _ h => h) ⟨fun _ => ⟨rfl, by rw [show k = n by omega]⟩, fun h => ?_⟩
      rw [jn_le (by omega) (by omega) (by omega) (by omega)] at h
      omega
    | succ d ih =>
      intro k hk
      refine k123_6 hq (fun _ _ _ _ h => h) ⟨fun h => ?_, fun _ => ?_⟩
      · rw [jn_le (by omega) (by omega) (by omega) (by omega)] at h
        omega
      · rw [jn_in (by omega) (by omega), jn_cl (by omega) (by omega), jn_add]
        refine ⟨by omega, ?_⟩
        have e : sm_sL (sm_cL M q (fl_n (M.2 q) k x)) q (k : Int).toNat x = sm_cL M q (fl_n (M.2 q) (k + 1) x) := by
          refine sm_ext (fun _ => rfl) (fun p => ?_)
          by_cases hp : p = q
          · subst hp
            rw [sL_s]
            show vp_updL (sm_up _ _ _ _) _ _ = sm_up _ _ _ _
            rw [sm_up_s, sm_up_s]
            funext j
            unfold vp_updL fl_n
            by_cases hj : j = k
            · subst hj; simp
            · by_cases h2 : j < k
              · rw [if_neg (by omega), if_pos h2, if_pos (by omega)]
              · rw [if_neg (by omega), if_neg h2, if_neg (by omega)]
          · rw [sL_2 hp]
            show sm_up _ _ _ _ = sm_up _ _ _ _
            rw [sm_up_n hp, sm_up_n hp]
        rw [e]
        exact ih (k + 1) (by omega)
  refine sm_entry (Nat.le_of_ble_eq_true rfl) (Nat.le_of_ble_eq_true rfl) ?_
  refine k123_0 hq (fun _ _ _ _ h => h) ?_
  have k0 := key n 0 (by omega)
  have e0 : sm_cL M q (fl_n (M.2 q) 0 x) = M := by
    refine sm_ext (fun _ => rfl) (fun p => ?_)
    show sm_up _ _ _ _ = _
    by_cases hp : p = q
    · subst hp; rw [sm_up_s]; funext j; simp [fl_n]
    · rw [sm_up_n hp]
  rw [e0] at k0
  exact k0
end
