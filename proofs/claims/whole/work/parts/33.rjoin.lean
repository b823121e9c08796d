-- the reference's join
def rj_n (nr : Nat → Nat → Bool) (a b w u v : Nat) : Bool := if u = a ∧ v < w then nr a v || nr b v else if v = a ∧ u < w then nr a u || nr b u else nr u v
def rj_l (lr : Nat → Int) (a b : Nat) (w v : Nat) : Int := if v < w ∧ lr v = (b : Int) then (a : Int) else lr v
def rj_is (M0 M : sm_M) (nr : Nat → Nat → Bool) (lr : Nat → Int) (a b w : Nat) : Prop :=
  (∀ u, u < 60 → ∀ v, v < 60 → M.1 43 (60 * u + v) = sm_z (rj_n nr a b w u v)) ∧ (∀ v, v < 60 → M.1 45 v = Int32.ofInt (rj_l lr a b w v)) ∧ (∀ p, p ≠ 43 → p ≠ 45 → M.1 p = M0.1 p) ∧ M.2 = M0.2
def rj_post (M0 M : sm_M) (nr : Nat → Nat → Bool) (lr : Nat → Int) (a b : Nat) : Prop :=
  (∀ u, u < 60 → ∀ v, v < 60 → M.1 43 (60 * u + v) = sm_z (rj_n nr a b 60 u v)) ∧ (∀ v, v < 60 → M.1 45 v = Int32.ofInt (rj_l lr a b 60 v)) ∧ M.1 44 = upd (M0.1 44) b 0 ∧ M.1 46 = upd (M0.1 46) a (M0.1 46 a + M0.1 46 b) ∧ M.1 35 = upd (M0.1 35) 20 (M0.1 35 20 + Int32.ofInt 1) ∧ (∀ p, p ≠ 35 → p ≠ 43 → p ≠ 44 → p ≠ 45 → p ≠ 46 → M.1 p = M0.1 p) ∧ M.2 = M0.2
section
variable {g : sm_G} {M0 : sm_M}
theorem c_rjoin {nr : Nat → Nat → Bool} {lr : Nat → Int} (hn : ∀ u, u < 60 → ∀ v, v < 60 → M0.1 43 (60 * u + v) = sm_z (nr u v)) (hl : ∀ v, v < 60 → M0.1 45 v = Int32.ofInt (lr v)) (hr : ∀ v, v < 60 → -1 ≤ lr v ∧ lr v < 60) {a b : Nat} (hab : a < b) (hb : b < 60) : sm_Sm g 92 [.ref 35, .int (Int32.ofInt (a : Int)), .int (Int32.ofInt (b : Int))] M0 (fun o M' => o = none ∧ rj_post M0 M' nr lr a b) := by
  have ina : vp_in (Int32.ofInt (a : Int)) 60 := by rw [jn_in (by omega) (by omega)]; omega
  have inb : vp_in (Int32.ofInt (b : Int)) 60 := by rw [jn_in (by omega) (by omega)]; omega
  have cla : (Int32.ofInt (a : Int)).toNatClampNeg = a := by rw [jn_cl (by omega) (by omega)]; omega
  have clb : (Int32.ofInt (b : Int)).toNatClampNeg = b := by rw [jn_cl (by omega) (by omega)]; omega
  generalize hQ : (fun (o : Option Value) (M' : sm_M) => o = none ∧ rj_post M0 M' nr lr a b) = Q
  have loop : ∀ (d w : Nat) (M : sm_M), w + d = 60 → rj_is M0 M nr lr a b w → sm_Go g 92 (sm_Fn g Q) 2 [.ref 35, .int (Int32.ofInt (a : Int)), .int (Int32.ofInt (b : Int)), .int (Int32.ofInt (w : Int)), .null] [] M := by
    intro d
    induction d with
    | zero =>
      intro w M hw hM
      have ew : w = 60 := by omega
      subst ew
      obtain ⟨m1, m2, m3, m4⟩ := hM
      refine k92_2 (fun _ _ _ _ h => h) ⟨fun _ => ⟨Or.inl rfl, inb, ina, inb, ina, ?_⟩, fun q => absurd ?_ q⟩
      · rw [cla, clb, ← hQ]
        refine ⟨rfl, fun u hu v hv => ?_, fun v hv => ?_, ?_, ?_, ?_, fun p p1 p2 p3 p4 p5 => ?_, m4⟩
        · rw [sI_1 (by decide), sI_1 (by decide), sI_1 (by decide)]; exact m1 u hu v hv
        · rw [sI_1 (by decide), sI_1 (by decide), sI_1 (by decide)]; exact m2 v hv
        · rw [sI_1 (by decide), sI_1 (by decide), sI_s, m3 44 (by decide) (by decide)]; rfl
        · rw [sI_1 (by decide), sI_s, sI_1 (by decide), m3 46 (by decide) (by decide)]
        · rw [sI_s, sI_1 (by decide), sI_1 (by decide), m3 35 (by decide) (by decide)]
        · rw [sI_1 p1, sI_1 p5, sI_1 p3]; exact m3 p p2 p4
      · rw [jn_le (by omega) (by omega) (by omega) (by omega)]; omega
    | succ d ih =>
      intro w M hw hM
      have hw6 : w < 60 := by omega
      obtain ⟨m1, m2, m3, m4⟩ := hM
      have inw : vp_in (Int32.ofInt (w : Int)) 60 := by rw [jn_in (by omega) (by omega)]; omega
      have clw : (Int32.ofInt (w : Int)).toNatClampNeg = w := by rw [jn_cl (by omega) (by omega)]; omega
      have claw : (Int32.ofInt (60 * (a : Int) + (w : Int))).toNatClampNeg = 60 * a + w := by rw [jn_cl (by omega) (by omega)]; omega
      have clwa : (Int32.ofInt (60 * (w : Int) + (a : Int))).toNatClampNeg = 60 * w + a := by rw [jn_cl (by omega) (by omega)]; omega
      have clbw : (Int32.ofInt (60 * (b : Int) + (w : Int))).toNatClampNeg = 60 * b + w := by rw [jn_cl (by omega) (by omega)]; omega
      have raw : M.1 43 (60 * a + w) = sm_z (nr a w) := by
        rw [m1 a (by omega) w hw6, rj_n, if_neg (by omega), if_neg (by omega)]
      have rbw : M.1 43 (60 * b + w) = sm_z (nr b w) := by
        rw [m1 b (by omega) w hw6, rj_n, if_neg (by omega), if_neg (by omega)]
      have rlw : M.1 45 w = Int32.ofInt (lr w) := by
        rw [m2 w hw6, rj_l, if_neg (by omega)]
      have hrw := hr w hw6
      have h41 : ∀ s : Int32, s = sm_z (nr a w || nr b w) → sm_Go g 92 (sm_Fn g Q) 41 [.ref 35, .int (Int32.ofInt (a : Int)), .int (Int32.ofInt (b : Int)), .int (Int32.ofInt (w : Int)), .null] [.int s] M := by
        intro s hs
        have h94 : ∀ y : Int32, y = Int32.ofInt (rj_l lr a b (w + 1) w) → sm_Go g 92 (sm_Fn g Q) 94 [.ref 35, .int (Int32.ofInt (a : Int)), .int (Int32.ofInt (b : Int)), .int (Int32.ofInt (w : Int)), .int s] [.int y, .int (Int32.ofInt (w : Int)), .ref 45] (sm_sI (sm_sI M 43 (60 * a + w) s) 43 (60 * w + a) s) := by
          intro y hy
          refine k92_94 (fun _ _ _ _ h => h) ⟨inw, ?_⟩
          rw [clw, jn_add, show (w : Int) + 1 = ((w + 1 : Nat) : Int) by omega]
          refine sm_wk (L := [.ref 35, .int (Int32.ofInt (a : Int)), .int (Int32.ofInt (b : Int)), .int (Int32.ofInt ((w + 1 : Nat) : Int)), .null]) ⟨rfl, rfl, rfl, rfl, trivial⟩ (ih (w + 1) _ (by omega) ⟨fun u hu v hv => ?_, fun v hv => ?_, fun p p1 p2 => ?_, m4⟩)
          · rw [sI_1 (by decide), sI_s, sI_s]
            by_cases e1 : u = w ∧ v = a
            · rw [e1.1, e1.2, pk_us, hs, rj_n]
              by_cases e2 : w = a
              · rw [if_pos (by omega), e2]
              · rw [if_neg (by omega), if_pos (by omega)]
            · rw [pk_un (by omega)]
              by_cases e2 : u = a ∧ v = w
              · rw [e2.1, e2.2, pk_us, hs, rj_n, if_pos (by omega)]
              · rw [pk_un (by omega), m1 u hu v hv, rj_n, rj_n]
                by_cases e3 : u = a ∧ v < w
                · rw [if_pos e3, if_pos (by omega)]
                · rw [if_neg e3, if_neg (show ¬ (u = a ∧ v < w + 1) by omega)]
                  by_cases e4 : v = a ∧ u < w
                  · rw [if_pos e4, if_pos (show v = a ∧ u < w + 1 by omega)]
                  · rw [if_neg e4, if_neg (show ¬ (v = a ∧ u < w + 1) by omega)]
          · rw [sI_s]
            by_cases e : v = w
            · rw [e, pk_us, hy]
            · rw [pk_un e, sI_1 (by decide), sI_1 (by decide), m2 v hv, rj_l, rj_l]
              by_cases e3 : v < w ∧ lr v = (b : Int)
              · rw [if_pos e3, if_pos (by omega)]
              · rw [if_neg e3, if_neg (by omega)]
          · rw [sI_1 p2, sI_1 p1, sI_1 p1]; exact m3 p p1 p2
        refine k92_41 (fun _ _ _ _ h => h) ?_
        rw [jn_mul, jn_add, jn_mul, jn_add, claw, clwa, clw, rlw, jn_eq (by omega) (by omega) (by omega) (by omega)]
        refine ⟨by rw [hs]; exact sm_zb _, by rw [jn_in (by omega) (by omega)]; omega, by rw [hs]; exact sm_zb _, by rw [jn_in (by omega) (by omega)]; omega, inw, fun q => ⟨inw, h94 _ ?_⟩, fun q => h94 _ ?_⟩
        · rw [rj_l, if_neg (by omega)]
        · rw [rj_l, if_pos (by omega)]
      refine k92_2 (fun _ _ _ _ h => h) ⟨fun q => ?_, fun _ => ?_⟩
      · rw [jn_le (by omega) (by omega) (by omega) (by omega)] at q; omega
      · rw [jn_mul, jn_add, jn_mul, jn_add, claw, clbw, raw, rbw, sm_z0, sm_z0]
        have h36 : (nr a w || nr b w) = true → sm_Go g 92 (sm_Fn g Q) 36 [.ref 35, .int (Int32.ofInt (a : Int)), .int (Int32.ofInt (b : Int)), .int (Int32.ofInt (w : Int)), .null] [] M := fun z => k92_36 (fun _ _ _ _ h => h) (h41 _ (by rw [z]; exact sm_o1))
        refine ⟨by rw [jn_in (by omega) (by omega)]; omega, fun q => h36 ?_, fun q => ⟨by rw [jn_in (by omega) (by omega)]; omega, fun q2 => h41 _ ?_, fun q2 => h36 ?_⟩⟩
        · rw [Bool.not_eq_false] at q
          rw [q]; rfl
        · rw [q, q2]; exact sm_o0
        · rw [Bool.not_eq_false] at q2
          rw [q2]; simp
  refine sm_entry (Nat.le_of_ble_eq_true rfl) (Nat.le_of_ble_eq_true rfl) ?_
  refine k92_0 (fun _ _ _ _ h => h) (loop 60 0 M0 (by omega) ⟨fun u hu v hv => ?_, fun v hv => ?_, fun _ _ _ => rfl, rfl⟩)
  · rw [hn u hu v hv, rj_n, if_neg (by omega), if_neg (by omega)]
  · rw [hl v hv, rj_l, if_neg (by omega)]
end
