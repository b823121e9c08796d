-- the class's joinFirstMove
def jf_p (L : Int → Int → Int) (ld : Nat → Int) (i : Nat) : Nat × Nat := ((ld (L i 1).toNat).toNat, (ld (L i 2).toNat).toNat)
def jf (L : Int → Int → Int) (ld : Nat → Int) (mj : Nat → Nat → Bool) : Nat → Nat → Option (Nat × Nat)
  | 0, _ => none
  | d + 1, i => if L i 0 = 1 ∧ mj (jf_p L ld i).1 (jf_p L ld i).2 = true then some (jf_p L ld i) else jf L ld mj d (i + 1)
def jf_post (M0 : sm_M) (nb : Nat → Nat → Bool) (ld : Nat → Int) (r : Option (Nat × Nat)) (o : Option Value) (M' : sm_M) : Prop :=
  match r with
  | none => o = some (.int (Int32.ofInt 0)) ∧ M' = M0
  | some p => o = some (.int (Int32.ofInt 1)) ∧ cj_post M0 M' nb ld (min p.1 p.2) (max p.1 p.2)
section
variable {g : sm_G} {M0 : sm_M}
theorem c_joinFirst {n : Nat} (hn : cd_n M0 23 = (n : Int)) (hn2 : n ≤ 48) {nb : Nat → Nat → Bool} {ld : Nat → Int} (hb : jo_nb M0 nb) (hs : ∀ u v, u < 60 → v < 60 → nb u v = nb v u) (hi : ∀ u, u < 60 → nb u u = false) (hl : ∀ v, v < 60 → M0.1 13 v = Int32.ofInt (ld v)) (hr : ∀ v, v < 60 → -1 ≤ ld v ∧ ld v < 60)
    (hL : ∀ i : Nat, i < n → cd_l M0 23 i 0 = 1 → (0 ≤ cd_l M0 23 i 1 ∧ cd_l M0 23 i 1 < 60) ∧ (0 ≤ cd_l M0 23 i 2 ∧ cd_l M0 23 i 2 < 60) ∧ 0 ≤ ld (cd_l M0 23 i 1).toNat ∧ 0 ≤ ld (cd_l M0 23 i 2).toNat) {k : Int} (hk : 0 ≤ k ∧ k < 100) :
    sm_Sm g 29 [.ref 12, .ref 23, .int (Int32.ofInt k)] M0 (jf_post M0 nb ld (jf (cd_l M0 23) ld (fun a b => jo_mj nb a b k) n 0)) := by
  have e1 : M0.1 23 1 = Int32.ofInt (n : Int) := by rw [← hn, cd_n, jn_self]
  have loop : ∀ (d i : Nat), i + d = n → sm_Go g 29 (sm_Fn g (jf_post M0 nb ld (jf (cd_l M0 23) ld (fun a b => jo_mj nb a b k) d i))) 2 [.ref 12, .ref 23, .int (Int32.ofInt k), .int (Int32.ofInt (i : Int)), .null, .null] [] M0 := by
    intro d
    induction d with
    | zero =>
      intro i hd
      refine k29_2 (fun _ _ _ _ h => h) ⟨fun _ => ⟨Or.inl rfl, rfl, rfl⟩, fun q => absurd ?_ q⟩
      rw [e1, jn_le (by omega) (by omega) (by omega) (by omega)]; omega
    | succ d ih =>
      intro i hd
      have nx : jf (cd_l M0 23) ld (fun a b => jo_mj nb a b k) (d + 1) i = jf (cd_l M0 23) ld (fun a b => jo_mj nb a b k) d (i + 1) → sm_Go g 29 (sm_Fn g (jf_post M0 nb ld (jf (cd_l M0 23) ld (fun a b => jo_mj nb a b k) (d + 1) i))) 78 [.ref 12, .ref 23, .int (Int32.ofInt k), .int (Int32.ofInt (i : Int)), .null, .null] [] M0 := fun e => by
        rw [e]
        refine k29_78 (fun _ _ _ _ h => h) ?_
        rw [jn_add, show (i : Int) + 1 = ((i + 1 : Nat) : Int) by omega]
        exact ih (i + 1) (by omega)
      have lr := @cd_lr M0 23 i
      have j0 : (Int32.ofInt 0).toInt = 0 := rfl
      have j1 : (Int32.ofInt 1).toInt = 1 := rfl
      have j2 : (Int32.ofInt 2).toInt = 2 := rfl
      have ji : (Int32.ofInt (i : Int)).toInt = i := jn_to (by omega) (by omega)
      refine k29_2 (fun _ _ _ _ h => h) ⟨fun q => ?_, fun _ => ?_⟩
      · rw [e1, jn_le (by omega) (by omega) (by omega) (by omega)] at q; omega
      · rw [j0, j1, j2, ji, ← Int32.toInt_inj, cd_lt, j1]
        refine ⟨by omega, fun q => nx (by rw [jf, if_neg (fun z => q z.1)]), fun q => ?_⟩
        obtain ⟨hd1, ha1, hd2, ha2⟩ := hL i (by omega) q
        have rd := hr (cd_l M0 23 i 1).toNat (by omega)
        have ra := hr (cd_l M0 23 i 2).toNat (by omega)
        rw [jn_cl (a := cd_l M0 23 i 1) (by omega) (by omega), jn_cl (a := cd_l M0 23 i 2) (by omega) (by omega), hl (cd_l M0 23 i 1).toNat (by omega), hl (cd_l M0 23 i 2).toNat (by omega), show ld (cd_l M0 23 i 1).toNat = (((jf_p (cd_l M0 23) ld i).1 : Nat) : Int) by unfold jf_p; omega, show ld (cd_l M0 23 i 2).toNat = (((jf_p (cd_l M0 23) ld i).2 : Nat) : Int) by unfold jf_p; omega]
        have p1 : (jf_p (cd_l M0 23) ld i).1 < 60 := by unfold jf_p; omega
        have p2 : (jf_p (cd_l M0 23) ld i).2 < 60 := by unfold jf_p; omega
        refine ⟨by omega, by rw [jn_in (by omega) (by omega)]; omega, by omega, by rw [jn_in (by omega) (by omega)]; omega, sm_Sm_mono (c_mayJoin hb p1 p2 hk) (fun o M' h' => ?_)⟩
        obtain ⟨rfl, rfl⟩ := h'
        generalize hx : (jf_p (cd_l M' 23) ld i).1 = x at *
        generalize hy : (jf_p (cd_l M' 23) ld i).2 = y at *
        show (_ → _) ∧ (_ → _)
        rw [sm_z0]
        refine ⟨fun q2 => ?_, fun q2 => ?_⟩
        · exact sm_wk (L := [.ref 12, .ref 23, .int (Int32.ofInt k), .int (Int32.ofInt (i : Int)), .null, .null]) ⟨rfl, rfl, rfl, rfl, trivial⟩ (nx (by rw [jf, if_neg (fun z => by rw [hx, hy, q2] at z; cases z.2)]))
        · rw [Bool.not_eq_false] at q2
          have q3 := q2
          unfold jo_mj at q3
          simp only [Bool.and_eq_true, Bool.not_eq_true', decide_eq_false_iff_not, decide_eq_true_eq] at q3
          obtain ⟨hxy, hnb, -⟩ := q3
          have hnb2 : nb y x = false := by rw [hs y x p2 p1]; exact hnb
          have er : jf (cd_l M' 23) ld (fun a b => jo_mj nb a b k) (d + 1) i = some (jf_p (cd_l M' 23) ld i) := by rw [jf, if_pos ⟨q, by rw [hx, hy]; exact q2⟩]
          rw [er]
          have lyx : Int32.ofInt (y : Int) < Int32.ofInt (x : Int) ↔ (y : Int) < (x : Int) := jn_lt (by omega) (by omega) (by omega) (by omega)
          have lxy : Int32.ofInt (x : Int) < Int32.ofInt (y : Int) ↔ (x : Int) < (y : Int) := jn_lt (by omega) (by omega) (by omega) (by omega)
          by_cases c : x < y
          · rw [if_neg (fun z => by have := lyx.mp z; omega), if_pos (lxy.mpr (by omega))]
            refine sm_Sm_mono (c_join hb hl hr p1 p2 (by omega) (hi y p2) hnb2) (fun o M2 h2 => ?_)
            obtain ⟨rfl, h2⟩ := h2
            refine ⟨Or.inr rfl, rfl, ?_⟩
            rw [hx, hy, Nat.min_eq_left (by omega), Nat.max_eq_right (by omega)]; exact h2
          · rw [if_pos (lyx.mpr (by omega)), if_neg (fun z => by have := lxy.mp z; omega)]
            refine sm_Sm_mono (c_join hb hl hr p2 p1 (by omega) (hi x p1) hnb) (fun o M2 h2 => ?_)
            obtain ⟨rfl, h2⟩ := h2
            refine ⟨Or.inr rfl, rfl, ?_⟩
            rw [hx, hy, Nat.min_eq_right (by omega), Nat.max_eq_left (by omega)]; exact h2
  refine sm_entry (Nat.le_of_ble_eq_true rfl) (Nat.le_of_ble_eq_true rfl) ?_
  exact k29_0 (fun _ _ _ _ h => h) (loop n 0 (by omega))
end
