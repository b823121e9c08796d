-- all joins of a round
def jl (L : Int → Int → Int) (n : Nat) (s : jS) : Prop := ∀ i : Nat, i < n → L i 0 = 1 → (0 ≤ L i 1 ∧ L i 1 < 60) ∧ (0 ≤ L i 2 ∧ L i 2 < 60) ∧ 0 ≤ js_ld s (L i 1).toNat ∧ 0 ≤ js_ld s (L i 2).toNat
def js_f (L : Int → Int → Int) (n : Nat) (k : Int) (s : jS) : Option (Nat × Nat) := jf L (js_ld s) (fun a b => jo_mj (js_nb s) a b k) n 0
def jrun (L : Int → Int → Int) (n : Nat) (k : Int) : Nat → jS → jS
  | 0, s => s
  | d + 1, s => match js_f L n k s with
    | none => s
    | some p => jrun L n k d (jj s (min p.1 p.2) (max p.1 p.2))
theorem jf_some {L : Int → Int → Int} {ld : Nat → Int} {mj : Nat → Nat → Bool} {p : Nat × Nat} : ∀ (d i : Nat), jf L ld mj d i = some p → ∃ t, i ≤ t ∧ t < i + d ∧ L t 0 = 1 ∧ p = jf_p L ld t ∧ mj p.1 p.2 = true
  | 0, i, h => by cases h
  | d + 1, i, h => by
    rw [jf] at h
    by_cases e : L i 0 = 1 ∧ mj (jf_p L ld i).1 (jf_p L ld i).2 = true
    · rw [if_pos e] at h
      cases h
      exact ⟨i, by omega, by omega, e.1, rfl, e.2⟩
    · rw [if_neg e] at h
      obtain ⟨t, h1, h2, h3⟩ := jf_some d (i + 1) h
      exact ⟨t, by omega, by omega, h3⟩
theorem jo_mj_of {nb : Nat → Nat → Bool} {a b : Nat} {k : Int} (h : jo_mj nb a b k = true) : a ≠ b ∧ nb a b = false := by
  unfold jo_mj at h
  simp only [Bool.and_eq_true, Bool.not_eq_true', decide_eq_false_iff_not, decide_eq_true_eq] at h
  exact ⟨h.1, h.2.1⟩
/-- what is known of two groups that are joined -/
theorem js_f_ok {L : Int → Int → Int} {n : Nat} {k : Int} {s : jS} (hw : jw s) (hl : jl L n s) {p : Nat × Nat} (h : js_f L n k s = some p) : (min p.1 p.2 < max p.1 p.2 ∧ max p.1 p.2 < 60) ∧ js_gr s (min p.1 p.2) = true ∧ js_gr s (max p.1 p.2) = true ∧ js_nb s (min p.1 p.2) (max p.1 p.2) = false := by
  obtain ⟨t, h1, h2, h3, h4, h5⟩ := jf_some n 0 h
  obtain ⟨l1, l2, l3, l4⟩ := hl t (by omega) h3
  have g1 := jw_g hw (by omega) l3
  have g2 := jw_g hw (by omega) l4
  obtain ⟨x, y⟩ := p
  unfold jf_p at h4
  injection h4 with e1 e2
  obtain ⟨m1, m2⟩ := jo_mj_of h5
  dsimp only at m1 m2 ⊢
  rw [← e1] at g1
  rw [← e2] at g2
  have b1 := (hw.1 x g1).1
  have b2 := (hw.1 y g2).1
  by_cases c : x < y
  · rw [Nat.min_eq_left (by omega), Nat.max_eq_right (by omega)]
    exact ⟨by omega, g1, g2, m2⟩
  · rw [Nat.min_eq_right (by omega), Nat.max_eq_left (by omega)]
    exact ⟨by omega, g2, g1, by rw [hw.2.2.1]; exact m2⟩
theorem jl_jj {L : Int → Int → Int} {n : Nat} {s : jS} (hl : jl L n s) (a b : Nat) : jl L n (jj s a b) := by
  intro i hi h0
  obtain ⟨l1, l2, l3, l4⟩ := hl i hi h0
  have z : ∀ v, 0 ≤ js_ld s v → 0 ≤ jj_l (js_ld s) a b v := fun v h => by unfold jj_l; split <;> omega
  exact ⟨l1, l2, z _ l3, z _ l4⟩
section
variable {g : sm_G}
theorem c_joinMoves {M0 : sm_M} {n : Nat} (hn : cd_n M0 23 = (n : Int)) (hn2 : n ≤ 48) {k : Int} (hk : 0 ≤ k ∧ k < 100) {s : jS} (hw : jw s) (hl : jl (cd_l M0 23) n s) (hc : jc_is M0 s) : sm_Sm g 28 [.ref 12, .ref 23, .int (Int32.ofInt k)] M0 (fun o M' => o = none ∧ jc_is M' (jrun (cd_l M0 23) n k 60 s) ∧ jc_ke M0 M') := by
  have loop : ∀ (d w : Nat) (M : sm_M) (t : jS), w + d = 60 → jw t → jl (cd_l M0 23) n t → jc_is M t → jc_ke M0 M → sm_Go g 28 (sm_Fn g (fun o M' => o = none ∧ jc_is M' (jrun (cd_l M0 23) n k d t) ∧ jc_ke M0 M')) 5 [.ref 12, .ref 23, .int (Int32.ofInt k), .int (Int32.ofInt 1), .int (Int32.ofInt (w : Int))] [] M := by
    intro d
    induction d with
    | zero =>
      intro w M t hd h1 h2 h3 h4
      refine k28_5 (fun _ _ _ _ h => h) ⟨fun _ => ⟨rfl, h3, h4⟩, fun q => absurd ?_ q⟩
      rw [jn_le (by omega) (by omega) (by omega) (by omega)]; omega
    | succ d ih =>
      intro w M t hd h1 h2 h3 h4
      refine k28_5 (fun _ _ _ _ h => h) ⟨fun q => ?_, fun _ => ⟨fun q => absurd q (by decide), fun _ => ?_⟩⟩
      · rw [jn_le (by omega) (by omega) (by omega) (by omega)] at q; omega
      have eL : cd_l M 23 = cd_l M0 23 := by funext i j; unfold cd_l; rw [h4.1 24 (by decide) (by decide) (by decide)]
      have eN : cd_n M 23 = (n : Int) := by rw [← hn]; unfold cd_n; rw [h4.1 23 (by decide) (by decide) (by decide)]
      have J := c_joinFirst (g := g) eN hn2 h3.2.1 (fun u v _ _ => h1.2.2.1 u v) (fun u _ => h1.2.2.2.1 u) h3.1 (fun v hv => jw_r h1 hv) (by rw [eL]; exact h2) hk
      rw [eL] at J
      refine sm_Sm_mono J (fun o M' h' => ?_)
      show sm_oi _ o
      cases e : js_f (cd_l M0 23) n k t with
      | none =>
        have e2 : jf (cd_l M0 23) (js_ld t) (fun a b => jo_mj (js_nb t) a b k) n 0 = none := e
        rw [e2] at h'
        obtain ⟨rfl, rfl⟩ := h'
        have ej : jrun (cd_l M0 23) n k (d + 1) t = t := by rw [jrun, e]
        rw [ej, jn_add]
        refine k28_5 (fun _ _ _ _ h => h) ⟨fun _ => ⟨rfl, h3, h4⟩, fun _ => ⟨fun _ => ⟨rfl, h3, h4⟩, fun q => absurd rfl q⟩⟩
      | some p =>
        have e2 : jf (cd_l M0 23) (js_ld t) (fun a b => jo_mj (js_nb t) a b k) n 0 = some p := e
        rw [e2] at h'
        obtain ⟨rfl, hp⟩ := h'
        obtain ⟨b1, g1, g2, nn⟩ := js_f_ok h1 h2 e
        obtain ⟨c1, c2⟩ := jc_jj h3 h1 (by omega) (by omega) g1 g2 (by omega) nn hp
        have ej : jrun (cd_l M0 23) n k (d + 1) t = jrun (cd_l M0 23) n k d (jj t (min p.1 p.2) (max p.1 p.2)) := by rw [jrun, e]
        show sm_Go g 28 _ 5 _ _ _
        rw [ej, jn_add, show (w : Int) + 1 = ((w + 1 : Nat) : Int) by omega]
        exact ih (w + 1) M' _ (by omega) (jw_jj h1 g1 (by omega) nn) (jl_jj h2 _ _) c1 (jc_kt h4 c2)
  refine sm_entry (Nat.le_of_ble_eq_true rfl) (Nat.le_of_ble_eq_true rfl) ?_
  exact k28_0 (fun _ _ _ _ h => h) (loop 60 0 M0 s (by omega) hw hl hc ⟨fun _ _ _ _ => rfl, fun _ _ _ => rfl⟩)
end
