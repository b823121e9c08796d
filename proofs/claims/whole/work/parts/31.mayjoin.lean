-- joining: may two groups be joined
theorem bct_0 {f : Nat → Bool} {k : Nat} : ∀ d, (∀ i, k ≤ i → i < k + d → f i = false) → bct f (k + d) = bct f k
  | 0, _ => rfl
  | d + 1, h => by
    show bct f (k + d) + (if f (k + d) = true then 1 else 0) = _
    rw [h (k + d) (by omega) (by omega), bct_0 d (fun i h1 h2 => h i h1 (by omega))]
    rfl
def jo_d (nb : Nat → Nat → Bool) (a b v : Nat) : Int := (bct (nb v) 60 : Int) - (if (nb v a && nb v b) = true then 1 else 0)
def jo_cs (nb : Nat → Nat → Bool) (a b : Nat) (k : Int) (v : Nat) : Bool := (nb a v || nb b v) && !decide (jo_d nb a b v < k)
def jo_mj (nb : Nat → Nat → Bool) (a b : Nat) (k : Int) : Bool := !decide (a = b) && (!nb a b && decide ((bct (jo_cs nb a b k) 60 : Int) < k))
def jo_nb (M : sm_M) (nb : Nat → Nat → Bool) : Prop := (∀ u, u < 60 → ∀ v, v < 64 → bs_t (M.2 15 u) v = nb u v) ∧ ∀ u v, 60 ≤ v → nb u v = false
theorem jo_bc {M : sm_M} {nb : Nat → Nat → Bool} (h : jo_nb M nb) {u : Nat} (hu : u < 60) : pf_bc (M.2 15 u) = Int32.ofInt ((bct (nb u) 60 : Nat) : Int) := by
  rw [bc_ok, bct_c (f' := nb u) 64 (fun i hi => h.1 u hu i hi), bct_0 (k := 60) 4 (fun i h1 _ => h.2 u i h1)]
section
variable {g : sm_G} {M : sm_M}
theorem c_mayJoin {nb : Nat → Nat → Bool} (h : jo_nb M nb) {a b : Nat} (ha : a < 60) (hb : b < 60) {k : Int} (hk : 0 ≤ k ∧ k < 100) : sm_Sm g 30 [.ref 12, .int (Int32.ofInt (a : Int)), .int (Int32.ofInt (b : Int)), .int (Int32.ofInt k)] M (sm_P (.int (sm_z (jo_mj nb a b k))) M) := by
  have ina : vp_in (Int32.ofInt (a : Int)) 60 := by rw [jn_in (by omega) (by omega)]; omega
  have inb : vp_in (Int32.ofInt (b : Int)) 60 := by rw [jn_in (by omega) (by omega)]; omega
  have cla : (Int32.ofInt (a : Int)).toNatClampNeg = a := by rw [jn_cl (by omega) (by omega)]; omega
  have clb : (Int32.ofInt (b : Int)).toNatClampNeg = b := by rw [jn_cl (by omega) (by omega)]; omega
  have hbt : ∀ (u v : Nat), u < 60 → v < 60 → pf_hb (M.2 15 u) (Int32.ofInt (v : Int)) = nb u v := fun u v hu hv => by rw [bs_hb (by omega)]; exact h.1 u hu v (by omega)
  generalize hQ : sm_P (.int (sm_z (jo_mj nb a b k))) M = Q
  have loop : a ≠ b → nb a b = false → ∀ (d w : Nat), w + d = 60 → sm_Go g 30 (sm_Fn g Q) 41 [.ref 12, .int (Int32.ofInt (a : Int)), .int (Int32.ofInt (b : Int)), .int (Int32.ofInt k), .long (M.2 15 a ||| M.2 15 b), .null, .int (Int32.ofInt ((bct (jo_cs nb a b k) w : Nat) : Int)), .int (Int32.ofInt (w : Int))] [] M := by
    intro hab hnb d
    induction d with
    | zero =>
      intro w hw
      have ew : w = 60 := by omega
      subst ew
      have := bct_le (jo_cs nb a b k) 60
      refine k30_41 (fun _ _ _ _ h => h) ⟨fun _ => ?_, fun q => absurd ?_ q⟩
      · rw [jn_le (by omega) (by omega) (by omega) (by omega), ← hQ, jo_mj, hnb, decide_eq_false hab]
        refine ⟨fun q => ⟨Or.inl rfl, ?_, rfl⟩, fun q => ⟨Or.inr rfl, ?_, rfl⟩⟩
        · rw [decide_eq_false (show ¬ ((bct (jo_cs nb a b k) 60 : Nat) : Int) < k by omega), sm_o0]; rfl
        · rw [decide_eq_true (show ((bct (jo_cs nb a b k) 60 : Nat) : Int) < k by omega), sm_o1]; rfl
      · rw [jn_le (by omega) (by omega) (by omega) (by omega)]; omega
    | succ d ih =>
      intro w hw
      have b1 := bct_le (jo_cs nb a b k) w
      have b2 := bct_le (nb w) 60
      have on : ∀ c : Nat, c = bct (jo_cs nb a b k) (w + 1) → sm_Go g 30 (sm_Fn g Q) 73 [.ref 12, .int (Int32.ofInt (a : Int)), .int (Int32.ofInt (b : Int)), .int (Int32.ofInt k), .long (M.2 15 a ||| M.2 15 b), .null, .int (Int32.ofInt (c : Int)), .int (Int32.ofInt (w : Int))] [] M := by
        intro c hc
        subst hc
        refine k30_73 (fun _ _ _ _ h => h) ?_
        rw [jn_add, show (w : Int) + 1 = ((w + 1 : Nat) : Int) by omega]
        exact ih (w + 1) (by omega)
      have hl4 : pf_hb (M.2 15 a ||| M.2 15 b) (Int32.ofInt (w : Int)) = (nb a w || nb b w) := by
        rw [bs_hb (by omega)]
        show bs_t _ w = _
        rw [bs_or, h.1 a ha w (by omega), h.1 b hb w (by omega)]
      have hdg : (if (pf_hb (M.2 15 w) (Int32.ofInt (a : Int)) && pf_hb (M.2 15 w) (Int32.ofInt (b : Int))) = true then pf_bc (M.2 15 w) - Int32.ofInt 1 else pf_bc (M.2 15 w)) = Int32.ofInt (jo_d nb a b w) := by
        rw [hbt w a (by omega) ha, hbt w b (by omega) hb, jo_bc h (by omega), jo_d]
        split
        · rw [jn_sub]
        · congr 1; try omega
      have rd : -1 ≤ jo_d nb a b w ∧ jo_d nb a b w ≤ 60 := by unfold jo_d; split <;> omega
      refine k30_41 (fun _ _ _ _ h => h) ⟨fun q => ?_, fun _ => ?_⟩
      · rw [jn_le (by omega) (by omega) (by omega) (by omega)] at q; omega
      · rw [show (Int32.ofInt (w : Int)).toNatClampNeg = w by rw [jn_cl (by omega) (by omega)]; omega, hl4, hdg, sm_z0, jn_lt (by omega) (by omega) (by omega) (by omega), jn_add]
        refine ⟨fun q => on _ ?_, fun q => ⟨by rw [jn_in (by omega) (by omega)]; omega, fun q2 => on _ ?_, fun q2 => ?_⟩⟩
        · rw [bct, jo_cs, q]; rfl
        · rw [bct, jo_cs, decide_eq_true q2]; simp
        · rw [Bool.not_eq_false] at q
          rw [show ((bct (jo_cs nb a b k) w : Nat) : Int) + 1 = ((bct (jo_cs nb a b k) w + 1 : Nat) : Int) by omega]
          refine on _ ?_
          rw [bct, jo_cs, q, decide_eq_false q2]; rfl
  refine sm_entry (Nat.le_of_ble_eq_true rfl) (Nat.le_of_ble_eq_true rfl) ?_
  refine k30_0 (fun _ _ _ _ h => h) ?_
  rw [cla, clb, hbt a b ha hb, sm_z0, jn_eq (by omega) (by omega) (by omega) (by omega)]
  refine ⟨fun q => ⟨Or.inl rfl, ?_⟩, fun q => ⟨ina, fun q2 => ⟨ina, inb, loop (by omega) q2 60 0 (by omega)⟩, fun q2 => ⟨Or.inl rfl, ?_⟩⟩⟩
  · rw [← hQ, jo_mj, decide_eq_true (show a = b by omega)]
    exact ⟨rfl, rfl⟩
  · rw [Bool.not_eq_false] at q2
    rw [← hQ, jo_mj, q2]
    refine ⟨?_, rfl⟩
    simp [sm_z]
end
