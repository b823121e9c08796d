-- the class's join
def cj_w (nb : Nat → Nat → Bool) (a b w u v : Nat) : Bool := if u < w ∧ nb b u = true then (nb u v && !decide (b = v)) || decide (a = v) else nb u v
def cj_n (nb : Nat → Nat → Bool) (a b u v : Nat) : Bool := if u = b then false else if u = a then nb a v || nb b v else cj_w nb a b 60 u v
def cj_is (M0 M : sm_M) (nb : Nat → Nat → Bool) (ld : Nat → Int) (a b w : Nat) : Prop :=
  (∀ u, u < 60 → ∀ v, v < 64 → bs_t (M.2 15 u) v = cj_w nb a b w u v) ∧ (∀ v, v < 60 → M.1 13 v = Int32.ofInt (rj_l ld a b w v)) ∧ (∀ p, p ≠ 13 → M.1 p = M0.1 p) ∧ ∀ p, p ≠ 15 → M.2 p = M0.2 p
def cj_post (M0 M : sm_M) (nb : Nat → Nat → Bool) (ld : Nat → Int) (a b : Nat) : Prop :=
  (∀ u, u < 60 → ∀ v, v < 64 → bs_t (M.2 15 u) v = cj_n nb a b u v) ∧ (∀ v, v < 60 → M.1 13 v = Int32.ofInt (rj_l ld a b 60 v)) ∧ (∀ v, v < 64 → bs_t (M.2 12 3) v = (bs_t (M0.2 12 3) v && !decide (b = v))) ∧
  (∀ v, v < 64 → bs_t (M.2 12 4) v = (if bs_t (M0.2 12 4) b = true then (bs_t (M0.2 12 4) v && !decide (b = v)) || decide (a = v) else bs_t (M0.2 12 4) v)) ∧ M.1 14 = upd (M0.1 14) a (M0.1 14 a + M0.1 14 b) ∧ M.1 12 = upd (M0.1 12) 5 (M0.1 12 5 + Int32.ofInt 1) ∧ (∀ p, p ≠ 12 → p ≠ 13 → p ≠ 14 → M.1 p = M0.1 p) ∧ ∀ p, p ≠ 12 → p ≠ 15 → M.2 p = M0.2 p
section
variable {g : sm_G} {M0 : sm_M}
theorem c_join {nb : Nat → Nat → Bool} {ld : Nat → Int} (hn : jo_nb M0 nb) (hl : ∀ v, v < 60 → M0.1 13 v = Int32.ofInt (ld v)) (hr : ∀ v, v < 60 → -1 ≤ ld v ∧ ld v < 60) {a b : Nat} (ha : a < 60) (hb : b < 60) (hab : a ≠ b) (nbb : nb b b = false) (nba : nb b a = false) : sm_Sm g 32 [.ref 12, .int (Int32.ofInt (a : Int)), .int (Int32.ofInt (b : Int))] M0 (fun o M' => o = none ∧ cj_post M0 M' nb ld a b) := by
  have ina : vp_in (Int32.ofInt (a : Int)) 60 := by rw [jn_in (by omega) (by omega)]; omega
  have inb : vp_in (Int32.ofInt (b : Int)) 60 := by rw [jn_in (by omega) (by omega)]; omega
  have cla : (Int32.ofInt (a : Int)).toNatClampNeg = a := by rw [jn_cl (by omega) (by omega)]; omega
  have clb : (Int32.ofInt (b : Int)).toNatClampNeg = b := by rw [jn_cl (by omega) (by omega)]; omega
  have hbt : ∀ (x v : Nat), x < 60 → v < 64 → bs_t (pf_bit (Int32.ofInt (x : Int))) v = decide (x = v) := fun x v hx hv => by
    rw [bs_bitI (by omega) hv]
    by_cases e : x = v
    · rw [e]; simp
    · rw [decide_eq_false e, decide_eq_false (by omega)]
  generalize hQ : (fun (o : Option Value) (M' : sm_M) => o = none ∧ cj_post M0 M' nb ld a b) = Q
  have loop : ∀ (d w : Nat) (M : sm_M), w + d = 60 → cj_is M0 M nb ld a b w → sm_Go g 32 (sm_Fn g Q) 2 [.ref 12, .int (Int32.ofInt (a : Int)), .int (Int32.ofInt (b : Int)), .int (Int32.ofInt (w : Int))] [] M := by
    intro d
    induction d with
    | zero =>
      intro w M hw hM
      have ew : w = 60 := by omega
      subst ew
      obtain ⟨m1, m2, m3, m4⟩ := hM
      have ra : ∀ v, v < 64 → bs_t (M.2 15 a) v = nb a v := fun v hv => by rw [m1 a ha v hv, cj_w, if_neg (fun z => by rw [nba] at z; cases z.2)]
      have rb : ∀ v, v < 64 → bs_t (M.2 15 b) v = nb b v := fun v hv => by rw [m1 b hb v hv, cj_w, if_neg (fun z => by rw [nbb] at z; cases z.2)]
      have N : ∀ u, u < 60 → ∀ v, v < 64 → bs_t (vp_updL (vp_updL (M.2 15) a (M.2 15 a ||| M.2 15 b)) b (Int64.ofNat 0) u) v = cj_n nb a b u v := fun u hu v hv => by
        unfold cj_n
        by_cases e : u = b
        · rw [e, pk_uLs, bs_0, if_pos rfl]
        · rw [pk_uLn e, if_neg e]
          by_cases e2 : u = a
          · rw [e2, pk_uLs, bs_or, ra v hv, rb v hv, if_pos rfl]
          · rw [pk_uLn e2, if_neg e2]; exact m1 u hu v hv
      refine k32_2 (fun _ _ _ _ h => h) ⟨fun _ => ?_, fun q => absurd ?_ q⟩
      · rw [cla, clb, pk_uLn (show 4 ≠ 3 by decide), sm_z0, m4 12 (by decide), bs_hb (by omega)]
        refine ⟨ina, inb, ina, inb, ina, inb, ina, fun q => k32_157 (fun _ _ _ _ h => h) ?_, fun q => k32_157 (fun _ _ _ _ h => h) ?_⟩
        · rw [← hQ]
          have q' : bs_t (M0.2 12 4) b = false := q
          refine ⟨rfl, fun u hu v hv => ?_, fun v hv => ?_, fun v hv => ?_, fun v hv => ?_, ?_, ?_, fun p p1 p2 p3 => ?_, fun p p1 p2 => ?_⟩
          · rw [sI_2, sL_2 (by decide), sI_2, sL_s, sL_s]; exact N u hu v hv
          · rw [sI_1 (by decide), sL_1, sI_1 (by decide), sL_1, sL_1]; exact m2 v hv
          · rw [sI_2, sL_s, pk_uLs, bs_and, bs_not _ hv, hbt b v hb hv]
          · rw [sI_2, sL_s, pk_uLn (by decide), sI_2, sL_2 (by decide), sL_2 (by decide), m4 12 (by decide), if_neg (by rw [q']; simp)]
          · rw [sI_1 (by decide), sL_1, sI_s, sL_1, sL_1, m3 14 (by decide)]
          · rw [sI_s, sL_1, sI_1 (by decide), sL_1, sL_1, m3 12 (by decide)]
          · rw [sI_1 p1, sL_1, sI_1 p3, sL_1, sL_1]; exact m3 p p2
          · rw [sI_2, sL_2 p1, sI_2, sL_2 p2, sL_2 p2]; exact m4 p p2
        · rw [← hQ]
          have q' : bs_t (M0.2 12 4) b = true := by simpa using q
          refine ⟨rfl, fun u hu v hv => ?_, fun v hv => ?_, fun v hv => ?_, fun v hv => ?_, ?_, ?_, fun p p1 p2 p3 => ?_, fun p p1 p2 => ?_⟩
          · rw [sI_2, sL_2 (by decide), sL_2 (by decide), sI_2, sL_s, sL_s]; exact N u hu v hv
          · rw [sI_1 (by decide), sL_1, sL_1, sI_1 (by decide), sL_1, sL_1]; exact m2 v hv
          · rw [sI_2, sL_s, pk_uLn (by decide), sL_s, pk_uLs, bs_and, bs_not _ hv, hbt b v hb hv]
          · rw [sI_2, sL_s, pk_uLs, bs_or, bs_and, bs_not _ hv, hbt b v hb hv, hbt a v ha hv, if_pos q']
          · rw [sI_1 (by decide), sL_1, sL_1, sI_s, sL_1, sL_1, m3 14 (by decide)]
          · rw [sI_s, sL_1, sL_1, sI_1 (by decide), sL_1, sL_1, m3 12 (by decide)]
          · rw [sI_1 p1, sL_1, sL_1, sI_1 p3, sL_1, sL_1]; exact m3 p p2
          · rw [sI_2, sL_2 p1, sL_2 p1, sI_2, sL_2 p2, sL_2 p2]; exact m4 p p2
      · rw [jn_le (by omega) (by omega) (by omega) (by omega)]; omega
    | succ d ih =>
      intro w M hw hM
      have hw6 : w < 60 := by omega
      obtain ⟨m1, m2, m3, m4⟩ := hM
      have inw : vp_in (Int32.ofInt (w : Int)) 60 := by rw [jn_in (by omega) (by omega)]; omega
      have clw : (Int32.ofInt (w : Int)).toNatClampNeg = w := by rw [jn_cl (by omega) (by omega)]; omega
      have hrw := hr w hw6
      have rlw : M.1 13 w = Int32.ofInt (ld w) := by rw [m2 w hw6, rj_l, if_neg (by omega)]
      have h25 : ∀ M1 : sm_M, M1.2 = M.2 → (∀ v, v < 60 → M1.1 13 v = Int32.ofInt (rj_l ld a b (w + 1) v)) → (∀ p, p ≠ 13 → M1.1 p = M0.1 p) → sm_Go g 32 (sm_Fn g Q) 25 [.ref 12, .int (Int32.ofInt (a : Int)), .int (Int32.ofInt (b : Int)), .int (Int32.ofInt (w : Int))] [] M1 := by
        intro M1 h2 h13 hp
        have rbw : pf_hb (M1.2 15 b) (Int32.ofInt (w : Int)) = nb b w := by
          rw [bs_hb (by omega), h2]
          show bs_t (M.2 15 b) w = _
          rw [m1 b hb w (by omega), cj_w, if_neg (fun z => by rw [nbb] at z; cases z.2)]
        refine k32_25 (fun _ _ _ _ h => h) ?_
        rw [clb, clw, rbw, sm_z0]
        refine ⟨inb, fun q => k32_64 (fun _ _ _ _ h => h) ?_, fun q => ⟨inw, inw, k32_64 (fun _ _ _ _ h => h) ?_⟩⟩ <;> rw [jn_add, show (w : Int) + 1 = ((w + 1 : Nat) : Int) by omega]
        · refine ih (w + 1) M1 (by omega) ⟨fun u hu v hv => ?_, h13, hp, fun p p1 => by rw [h2]; exact m4 p p1⟩
          rw [h2, m1 u hu v hv, cj_w, cj_w]
          by_cases e : u < w ∧ nb b u = true
          · rw [if_pos e, if_pos ⟨by omega, e.2⟩]
          · rw [if_neg e, if_neg (fun z => e ⟨by
              have : u ≠ w := fun y => by rw [y, q] at z; cases z.2
              omega, z.2⟩)]
        · rw [Bool.not_eq_false] at q
          refine ih (w + 1) _ (by omega) ⟨fun u hu v hv => ?_, fun v hv => by rw [sL_1]; exact h13 v hv, fun p p1 => by rw [sL_1]; exact hp p p1, fun p p1 => by rw [sL_2 p1, h2]; exact m4 p p1⟩
          rw [sL_s]
          by_cases e : u = w
          · rw [e, pk_uLs, bs_or, bs_and, bs_not _ hv, hbt b v hb hv, hbt a v ha hv, h2, m1 w hw6 v hv, cj_w, cj_w, if_neg (show ¬ (w < w ∧ nb b w = true) by omega), if_pos ⟨by omega, q⟩]
          · rw [pk_uLn e, h2, m1 u hu v hv, cj_w, cj_w]
            by_cases e2 : u < w ∧ nb b u = true
            · rw [if_pos e2, if_pos ⟨by omega, e2.2⟩]
            · rw [if_neg e2, if_neg (fun z => e2 ⟨by omega, z.2⟩)]
      refine k32_2 (fun _ _ _ _ h => h) ⟨fun q => ?_, fun _ => ?_⟩
      · rw [jn_le (by omega) (by omega) (by omega) (by omega)] at q; omega
      · rw [clw, rlw, jn_eq (by omega) (by omega) (by omega) (by omega)]
        refine ⟨inw, fun q => h25 M rfl (fun v hv => ?_) m3, fun q => ⟨inw, h25 _ rfl (fun v hv => ?_) (fun p p1 => by rw [sI_1 p1]; exact m3 p p1)⟩⟩
        · rw [m2 v hv, rj_l, rj_l]
          by_cases e : v < w ∧ ld v = (b : Int)
          · rw [if_pos e, if_pos (by omega)]
          · rw [if_neg e, if_neg (fun z => e ⟨by
              have : v ≠ w := fun y => by rw [y] at z; exact q z.2
              omega, z.2⟩)]
        · rw [sI_s]
          by_cases e2 : v = w
          · rw [e2, pk_us, rj_l, if_pos ⟨by omega, q⟩]
          · rw [pk_un e2, m2 v hv, rj_l, rj_l]
            by_cases e : v < w ∧ ld v = (b : Int)
            · rw [if_pos e, if_pos (by omega)]
            · rw [if_neg e, if_neg (fun z => e ⟨by omega, z.2⟩)]
  refine sm_entry (Nat.le_of_ble_eq_true rfl) (Nat.le_of_ble_eq_true rfl) ?_
  refine k32_0 (fun _ _ _ _ h => h) (loop 60 0 M0 (by omega) ⟨fun u hu v hv => ?_, fun v hv => ?_, fun _ _ => rfl, fun _ _ => rfl⟩)
  · rw [hn.1 u hu v hv, cj_w, if_neg (by omega)]
  · rw [hl v hv, rj_l, if_neg (by omega)]
end
