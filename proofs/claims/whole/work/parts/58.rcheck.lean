-- the reference's checker: a line's way, and an arrival
section
variable {g : sm_G} {M : sm_M}
def ps_fr (M0 M : sm_M) : Prop := (∀ p, p ≠ 54 → M.1 p = M0.1 p) ∧ M.2 = M0.2
theorem c_pass {i : Nat} (hi : i < 48) {ns k : Nat} (hns : ns ≤ 16) (hk : k ≤ 6) {Ls : Int → Int → Int} (hs : ∀ i : Nat, i < ns → sok (Ls i)) {l : Int → Int} (hr : rok ns Ls k l) (l0 : M.1 36 (16 + i) = Int32.ofInt (l 0)) (l1 : M.1 37 (16 + i) = Int32.ofInt (l 1)) (l2 : M.1 38 (16 + i) = Int32.ofInt (l 2)) (l4 : M.1 40 (16 + i) = Int32.ofInt (l 4)) (hS : ∀ o : Nat, o < ns → M.1 37 o = Int32.ofInt (Ls o 1)) {th : Nat → Bool} (hth : ∀ t, t < 8820 → M.1 53 t = sm_z (th t)) (lr : ∀ j, -2147483648 ≤ l j ∧ l j < 2147483648) :
    sm_Sm g 111 [.ref 35, .int (Int32.ofInt (i : Int))] M (fun o M' => o = none ∧ (∀ q u, q < 18 → u < 10 → M'.1 54 (10 * q + u) = sm_z (ck_tr 6 l (Ls (l 4) 1).toNat (fun q u => th (180 * i + 10 * q + u)) q u)) ∧ ps_fr M M') := by
  obtain ⟨a1, a2, a3, a4, a5⟩ := rok_n hs hr
  have h09 := hr.1
  have r0 := lr 0
  have r1 := lr 1
  have r2 := lr 2
  have r4 := lr 4
  have ix : vp_in (Int32.ofInt (16 + (i : Int))) 112 := by rw [jn_in (by omega) (by omega)]; omega
  have clx : (Int32.ofInt (16 + (i : Int))).toNatClampNeg = 16 + i := by rw [jn_cl (by omega) (by omega)]; omega
  generalize hv : (Ls (l 4) 1).toNat = v at *
  generalize hQ : (fun (o : Option Value) (M' : sm_M) => o = none ∧ (∀ q u, q < 18 → u < 10 → M'.1 54 (10 * q + u) = sm_z (ck_tr 6 l v (fun q u => th (180 * i + 10 * q + u)) q u)) ∧ ps_fr M M') = Q
  -- the third loop
  have pre : Nat → Nat → Bool := fun q u => if l 0 ≤ 4 then th (180 * i + 10 * q + u) && !decide (u = v) else th (180 * i + 10 * q + u)
  have loopC : ∀ (x4 : Int32), (l 0 ≤ 4 → x4 = Int32.ofInt (v : Int)) → ∀ (d w : Nat) (M1 : sm_M), w + d = 10 → (∀ q u, q < 18 → u < 10 → M1.1 54 (10 * q + u) = sm_z (if u < w then ck_tr 6 l v (fun q u => th (180 * i + 10 * q + u)) q u else if l 0 ≤ 4 then th (180 * i + 10 * q + u) && !decide (u = v) else th (180 * i + 10 * q + u))) → ps_fr M M1 → sm_Go g 111 (sm_Fn g Q) 121 [.ref 35, .int (Int32.ofInt (i : Int)), .int (Int32.ofInt (16 + (i : Int))), .int (Int32.ofInt (10 * l 1)), .int x4, .int (Int32.ofInt (w : Int))] [] M1 := by
    intro x4 hx4 d
    induction d with
    | zero =>
      intro w M1 hd h1 hf
      refine k111_121 (fun _ _ _ _ h => h) ⟨fun _ => ?_, fun q => absurd ?_ q⟩
      · rw [← hQ]
        exact ⟨rfl, fun q u hq hu => by rw [h1 q u hq hu, if_pos (by omega)], hf⟩
      · rw [jn_le (by omega) (by omega) (by omega) (by omega)]; omega
    | succ d ih =>
      intro w M1 hd h1 hf
      have b0 : M1.1 36 (16 + i) = Int32.ofInt (l 0) := by rw [hf.1 36 (by decide)]; exact l0
      have b2 : M1.1 38 (16 + i) = Int32.ofInt (l 2) := by rw [hf.1 38 (by decide)]; exact l2
      have on : ∀ M2 : sm_M, (∀ q u, q < 18 → u < 10 → M2.1 54 (10 * q + u) = sm_z (if u < w + 1 then ck_tr 6 l v (fun q u => th (180 * i + 10 * q + u)) q u else if l 0 ≤ 4 then th (180 * i + 10 * q + u) && !decide (u = v) else th (180 * i + 10 * q + u))) → ps_fr M M2 → sm_Go g 111 (sm_Fn g Q) 275 [.ref 35, .int (Int32.ofInt (i : Int)), .int (Int32.ofInt (16 + (i : Int))), .int (Int32.ofInt (10 * l 1)), .int x4, .int (Int32.ofInt (w : Int))] [] M2 := fun M2 c1 c2 => by
        refine k111_275 (fun _ _ _ _ h => h) ?_
        rw [jn_add, show (w : Int) + 1 = ((w + 1 : Nat) : Int) by omega]
        exact ih (w + 1) M2 (by omega) c1 c2
      -- a place written at w
      have wr : ∀ (q0 : Nat) (y : Bool), q0 < 18 → y = ck_tr 6 l v (fun q u => th (180 * i + 10 * q + u)) q0 w → (∀ q, q < 18 → q ≠ q0 → ck_tr 6 l v (fun q u => th (180 * i + 10 * q + u)) q w = (if l 0 ≤ 4 then th (180 * i + 10 * q + w) && !decide (w = v) else th (180 * i + 10 * q + w))) → sm_Go g 111 (sm_Fn g Q) 275 [.ref 35, .int (Int32.ofInt (i : Int)), .int (Int32.ofInt (16 + (i : Int))), .int (Int32.ofInt (10 * l 1)), .int x4, .int (Int32.ofInt (w : Int))] [] (sm_sI M1 54 (10 * q0 + w) (sm_z y)) := fun q0 y hq0 hy hrest => by
        refine on _ (fun q u hq hu => ?_) ⟨fun p hp => by rw [sI_1 hp]; exact hf.1 p hp, hf.2⟩
        rw [sI_s]
        by_cases c : q = q0 ∧ u = w
        · rw [c.1, c.2, pk_us, hy, if_pos (by omega)]
        · rw [pk_un (by omega), h1 q u hq hu]
          by_cases e : u < w
          · rw [if_pos e, if_pos (show u < w + 1 by omega)]
          · rw [if_neg e]
            by_cases e2 : u = w
            · rw [if_pos (show u < w + 1 by omega), e2, hrest q hq (by omega)]
            · rw [if_neg (show ¬ u < w + 1 by omega)]
      refine k111_121 (fun _ _ _ _ h => h) ⟨fun q => ?_, fun _ => ⟨ix, ?_⟩⟩
      · rw [jn_le (by omega) (by omega) (by omega) (by omega)] at q; omega
      rw [clx, b0, b2, jn_eq (by omega) (by omega) (by omega) (by omega), jn_eq (by omega) (by omega) (by omega) (by omega), jn_lt (by omega) (by omega) (by omega) (by omega), jn_eq (by omega) (by omega) (by omega) (by omega), jn_add, jn_mul, jn_add, jn_add, jn_add]
      refine ⟨fun q8 => ⟨ix, fun q9 => ⟨ix, fun q4 => ?_, fun q4 => ?_⟩, fun q9 => ?_⟩, fun q8 => ?_⟩
      · refine on M1 (fun q u hq hu => ?_) hf
        rw [h1 q u hq hu]
        have et : ck_tr 6 l v (fun q u => th (180 * i + 10 * q + u)) q u = th (180 * i + 10 * q + u) := by unfold ck_tr; rw [if_neg q8, if_neg q9, if_neg (by omega)]
        by_cases e : u < w
        · rw [if_pos e, if_pos (show u < w + 1 by omega)]
        · rw [if_neg e]
          by_cases e2 : u < w + 1
          · rw [if_pos e2, et, if_neg (show ¬ l 0 ≤ 4 by omega)]
          · rw [if_neg e2]
      · have e4 : l 0 ≤ 4 := by omega
        have c1 := a1 (by omega)
        have c4 := a4 e4
        have ex4 := hx4 e4
        have tr1 : ck_tr 6 l v (fun q u => th (180 * i + 10 * q + u)) (l 1).toNat w = (decide (w = v) || (decide (l 0 = 1) && (th (180 * i + 10 * (l 2).toNat + w) && !decide (w = v)))) := by unfold ck_tr; rw [if_neg q8, if_neg q9, if_pos e4, if_pos (by omega)]
        have rest : ∀ q, q < 18 → q ≠ (l 1).toNat → ck_tr 6 l v (fun q u => th (180 * i + 10 * q + u)) q w = (if l 0 ≤ 4 then th (180 * i + 10 * q + w) && !decide (w = v) else th (180 * i + 10 * q + w)) := fun q hq hn => by unfold ck_tr; rw [if_neg q8, if_neg q9, if_pos e4, if_neg (by omega), if_pos e4]
        have e54 : (Int32.ofInt (10 * l 1 + (w : Int))).toNatClampNeg = 10 * (l 1).toNat + w := by rw [jn_cl (by omega) (by omega)]; omega
        have i54 : vp_in (Int32.ofInt (10 * l 1 + (w : Int))) 180 := by rw [jn_in (by omega) (by omega)]; omega
        have f274 : ∀ y : Bool, y = ck_tr 6 l v (fun q u => th (180 * i + 10 * q + u)) (l 1).toNat w → sm_Go g 111 (sm_Fn g Q) 274 [.ref 35, .int (Int32.ofInt (i : Int)), .int (Int32.ofInt (16 + (i : Int))), .int (Int32.ofInt (10 * l 1)), .int x4, .int (Int32.ofInt (w : Int))] [.int (sm_z y), .int (Int32.ofInt (10 * l 1 + (w : Int))), .ref 54] M1 := fun y hy => by
          refine k111_274 (fun _ _ _ _ h => h) ⟨sm_zb _, i54, ?_⟩
          rw [e54]
          exact wr _ y (by omega) hy rest
        have yes : ck_tr 6 l v (fun q u => th (180 * i + 10 * q + u)) (l 1).toNat w = true → sm_Go g 111 (sm_Fn g Q) 269 [.ref 35, .int (Int32.ofInt (i : Int)), .int (Int32.ofInt (16 + (i : Int))), .int (Int32.ofInt (10 * l 1)), .int x4, .int (Int32.ofInt (w : Int))] [.int (Int32.ofInt (10 * l 1 + (w : Int))), .ref 54] M1 := fun e => by
          refine k111_269 (fun _ _ _ _ h => h) ?_
          rw [sm_o1]; exact f274 true e.symm
        have no : ck_tr 6 l v (fun q u => th (180 * i + 10 * q + u)) (l 1).toNat w = false → sm_Go g 111 (sm_Fn g Q) 273 [.ref 35, .int (Int32.ofInt (i : Int)), .int (Int32.ofInt (16 + (i : Int))), .int (Int32.ofInt (10 * l 1)), .int x4, .int (Int32.ofInt (w : Int))] [.int (Int32.ofInt (10 * l 1 + (w : Int))), .ref 54] M1 := fun e => by
          refine k111_273 (fun _ _ _ _ h => h) ?_
          rw [sm_o0]; exact f274 false e.symm
        rw [ex4] at yes no ⊢
        rw [jn_eq (by omega) (by omega) (by omega) (by omega)]
        refine ⟨fun q => yes (by rw [tr1, decide_eq_true (show w = v by omega)]; rfl), fun q => ⟨ix, fun q1 => no (by rw [tr1, decide_eq_false (show ¬ w = v by omega), decide_eq_false q1]; rfl), fun q1 => ⟨ix, ?_⟩⟩⟩
        have c2 := a2 q1
        have e38 : (Int32.ofInt (10 * l 2 + (w : Int))).toNatClampNeg = 10 * (l 2).toNat + w := by rw [jn_cl (by omega) (by omega)]; omega
        rw [e38, h1 (l 2).toNat w (by omega) (by omega), if_neg (by omega), if_pos e4, sm_z0]
        refine ⟨by rw [jn_in (by omega) (by omega)]; omega, fun z => no ?_, fun z => yes ?_⟩
        · rw [tr1, z, decide_eq_false (show ¬ w = v by omega)]; simp
        · rw [Bool.not_eq_false] at z
          rw [tr1, z, decide_eq_true q1]; simp
      · have c1 := a1 (by omega)
        have c3 := a3 (by omega)
        have e1 : (Int32.ofInt (10 * l 1 + (w : Int))).toNatClampNeg = 10 * (l 1).toNat + w := by rw [jn_cl (by omega) (by omega)]; omega
        have e2 : (Int32.ofInt (60 + 10 * l 2 + (w : Int))).toNatClampNeg = 10 * (6 + (l 2).toNat) + w := by rw [jn_cl (by omega) (by omega)]; omega
        rw [e1, e2, h1 (l 1).toNat w (by omega) (by omega), if_neg (by omega), if_neg (by omega)]
        refine ⟨ix, by rw [jn_in (by omega) (by omega)]; omega, sm_zb _, by rw [jn_in (by omega) (by omega)]; omega, wr _ _ (by omega) ?_ (fun q hq hn => ?_)⟩
        · unfold ck_tr; rw [if_neg q8, if_pos q9, if_pos rfl]
        · unfold ck_tr; rw [if_neg q8, if_pos q9, if_neg hn, if_neg (by omega)]
      · have c1 := a1 (by omega)
        have c3 := a3 (by omega)
        have e1 : (Int32.ofInt (10 * l 1 + (w : Int))).toNatClampNeg = 10 * (l 1).toNat + w := by rw [jn_cl (by omega) (by omega)]; omega
        have e2 : (Int32.ofInt (60 + 10 * l 2 + (w : Int))).toNatClampNeg = 10 * (6 + (l 2).toNat) + w := by rw [jn_cl (by omega) (by omega)]; omega
        rw [e1, e2, h1 (6 + (l 2).toNat) w (by omega) (by omega), if_neg (by omega), if_neg (by omega)]
        refine ⟨ix, by rw [jn_in (by omega) (by omega)]; omega, sm_zb _, by rw [jn_in (by omega) (by omega)]; omega, wr _ _ (by omega) ?_ (fun q hq hn => ?_)⟩
        · unfold ck_tr; rw [if_pos q8, if_pos (by omega)]
        · unfold ck_tr; rw [if_pos q8, if_neg (by omega), if_neg (by omega)]
  -- the second loop
  have toC : ∀ (x4 x5 : Int32) (M1 : sm_M), (l 0 ≤ 4 → x4 = Int32.ofInt (v : Int)) → (∀ q u, q < 18 → u < 10 → M1.1 54 (10 * q + u) = sm_z (if l 0 ≤ 4 then th (180 * i + 10 * q + u) && !decide (u = v) else th (180 * i + 10 * q + u))) → ps_fr M M1 → sm_Go g 111 (sm_Fn g Q) 118 [.ref 35, .int (Int32.ofInt (i : Int)), .int (Int32.ofInt (16 + (i : Int))), .int (Int32.ofInt (10 * l 1)), .int x4, .int x5] [] M1 := fun x4 x5 M1 hx4 h1 hf =>
    k111_118 (fun _ _ _ _ h => h) (loopC x4 hx4 10 0 M1 (by omega) (fun q u hq hu => by rw [h1 q u hq hu, if_neg (show ¬ u < 0 by omega)]) hf)
  have loopB : ∀ (x4 : Int32), (l 0 ≤ 4 → x4 = Int32.ofInt (v : Int)) → ∀ (d w : Nat) (M1 : sm_M), w + d = 18 → (0 < w → l 0 ≤ 4) → (∀ q u, q < 18 → u < 10 → M1.1 54 (10 * q + u) = sm_z (th (180 * i + 10 * q + u) && (!decide (q < w) || !decide (u = v)))) → ps_fr M M1 → sm_Go g 111 (sm_Fn g Q) 81 [.ref 35, .int (Int32.ofInt (i : Int)), .int (Int32.ofInt (16 + (i : Int))), .int (Int32.ofInt (10 * l 1)), .int x4, .int (Int32.ofInt (w : Int))] [] M1 := by
    intro x4 hx4 d
    induction d with
    | zero =>
      intro w M1 hd h4 h1 hf
      refine k111_81 (fun _ _ _ _ h => h) ⟨fun _ => toC _ _ M1 hx4 (fun q u hq hu => ?_) hf, fun q => absurd ?_ q⟩
      · rw [h1 q u hq hu, decide_eq_true (show q < w by omega), if_pos (h4 (by omega))]; rfl
      · rw [jn_le (by omega) (by omega) (by omega) (by omega)]; omega
    | succ d ih =>
      intro w M1 hd h4 h1 hf
      have b0 : M1.1 36 (16 + i) = Int32.ofInt (l 0) := by rw [hf.1 36 (by decide)]; exact l0
      refine k111_81 (fun _ _ _ _ h => h) ⟨fun q => ?_, fun _ => ⟨ix, ?_⟩⟩
      · rw [jn_le (by omega) (by omega) (by omega) (by omega)] at q; omega
      rw [clx, b0, jn_lt (by omega) (by omega) (by omega) (by omega)]
      refine ⟨fun q4 => toC _ _ M1 hx4 (fun q u hq hu => ?_) hf, fun q4 => ⟨Or.inl rfl, ?_⟩⟩
      · have : w = 0 := by
          apply Classical.byContradiction
          intro hn
          have := h4 (by omega)
          omega
        rw [h1 q u hq hu, decide_eq_false (show ¬ q < w by omega), if_neg (by omega)]; simp
      · have e4 : l 0 ≤ 4 := by omega
        have c4 := a4 e4
        have ex4 := hx4 e4
        rw [ex4] at ih ⊢
        have e1 : (Int32.ofInt (10 * (w : Int) + (v : Int))).toNatClampNeg = 10 * w + v := by rw [jn_cl (by omega) (by omega)]; omega
        rw [jn_mul, jn_add, e1, jn_add, show (w : Int) + 1 = ((w + 1 : Nat) : Int) by omega]
        refine ⟨by rw [jn_in (by omega) (by omega)]; omega, ih (w + 1) _ (by omega) (fun _ => e4) (fun q u hq hu => ?_) ⟨fun p hp => by rw [sI_1 hp]; exact hf.1 p hp, hf.2⟩⟩
        rw [sI_s]
        by_cases c : q = w ∧ u = v
        · rw [c.1, c.2, pk_us, decide_eq_true (show w < w + 1 by omega), decide_eq_true rfl, sm_o0]; simp
        · rw [pk_un (by omega), h1 q u hq hu]
          congr 2
          by_cases e : u = v
          · rw [decide_eq_true e, decide_eq_decide.mpr (show q < w ↔ q < w + 1 by omega)]
          · rw [decide_eq_false e]; simp
  have start : ∀ (x4 y : Int32) (M1 : sm_M), (l 0 ≤ 4 → y = Int32.ofInt (v : Int)) → (∀ t, t < 180 → M1.1 54 t = sm_z (th (180 * i + t))) → ps_fr M M1 → sm_Go g 111 (sm_Fn g Q) 76 [.ref 35, .int (Int32.ofInt (i : Int)), .int (Int32.ofInt (16 + (i : Int))), .int (Int32.ofInt (10 * l 1)), .int x4, .null] [.int y] M1 := fun x4 y M1 hy h1 hf => by
    refine k111_76 (fun _ _ _ _ h => h) (loopB y hy 18 0 M1 (by omega) (fun z => absurd z (by omega)) (fun q u hq hu => ?_) hf)
    rw [h1 _ (by omega), decide_eq_false (show ¬ q < 0 by omega), show 180 * i + (10 * q + u) = 180 * i + 10 * q + u by omega]; simp
  -- the first loop
  have loopA : ∀ (d w : Nat) (M1 : sm_M), w + d = 180 → (∀ t, t < w → M1.1 54 t = sm_z (th (180 * i + t))) → ps_fr M M1 → sm_Go g 111 (sm_Fn g Q) 18 [.ref 35, .int (Int32.ofInt (i : Int)), .int (Int32.ofInt (16 + (i : Int))), .int (Int32.ofInt (10 * l 1)), .int (Int32.ofInt (w : Int)), .null] [] M1 := by
    intro d
    induction d with
    | zero =>
      intro w M1 hd h1 hf
      have ew : w = 180 := by omega
      subst ew
      have b4 : M1.1 40 (16 + i) = Int32.ofInt (l 4) := by rw [hf.1 40 (by decide)]; exact l4
      refine k111_18 (fun _ _ _ _ h => h) ⟨fun _ => ⟨ix, ?_⟩, fun q => absurd ?_ q⟩
      · rw [clx, b4, jn_0, jn_le (by omega) (by omega) (by omega) (by omega)]
        refine ⟨fun q => ?_, fun q => start _ _ M1 (fun e4 => ?_) h1 hf⟩
        · have l48 : l 0 < 8 := by
            apply Classical.byContradiction
            intro hn
            have := (hr.2.2.2.2.1 (by omega)).2
            omega
          have c5 := a5 l48
          have e40 : (Int32.ofInt (l 4)).toNatClampNeg = (l 4).toNat := jn_cl (by omega) (by omega)
          rw [e40, hf.1 37 (by decide), hS (l 4).toNat (by omega), show (((l 4).toNat : Nat) : Int) = l 4 by omega]
          refine ⟨ix, by rw [jn_in (by omega) (by omega)]; omega, start _ _ M1 (fun e4 => ?_) h1 hf⟩
          have c4 := a4 e4
          rw [← hv]; congr 1; omega
        · have := a5 (by omega); omega
      · rw [jn_le (by omega) (by omega) (by omega) (by omega)]; omega
    | succ d ih =>
      intro w M1 hd h1 hf
      refine k111_18 (fun _ _ _ _ h => h) ⟨fun q => ?_, fun _ => ?_⟩
      · rw [jn_le (by omega) (by omega) (by omega) (by omega)] at q; omega
      have e1 : (Int32.ofInt (180 * (i : Int) + (w : Int))).toNatClampNeg = 180 * i + w := by rw [jn_cl (by omega) (by omega)]; omega
      rw [jn_mul, jn_add, e1, hf.1 53 (by decide), hth _ (by omega), show (Int32.ofInt (w : Int)).toNatClampNeg = w by rw [jn_cl (by omega) (by omega)]; omega, jn_add, show (w : Int) + 1 = ((w + 1 : Nat) : Int) by omega]
      refine ⟨by rw [jn_in (by omega) (by omega)]; omega, sm_zb _, by rw [jn_in (by omega) (by omega)]; omega, ih (w + 1) _ (by omega) (fun t ht => ?_) ⟨fun p hp => by rw [sI_1 hp]; exact hf.1 p hp, hf.2⟩⟩
      rw [sI_s]
      by_cases e : t = w
      · rw [e, pk_us]
      · rw [pk_un e]; exact h1 t (by omega)
  refine sm_entry (Nat.le_of_ble_eq_true rfl) (Nat.le_of_ble_eq_true rfl) ?_
  refine k111_0 (fun _ _ _ _ h => h) ?_
  rw [jn_add, clx, l1, jn_mul]
  exact ⟨ix, loopA 180 0 M (by omega) (fun t ht => absurd ht (by omega)) ⟨fun _ _ => rfl, rfl⟩⟩
/-- what an arrival does in the reference -/
def ra_post (M0 : sm_M) (t : Nat) (th nw : Nat → Bool) (M' : sm_M) : Prop := (∀ c, c < 8820 → M'.1 53 c = sm_z (th c && (!decide (c / 180 = t) || nw (c % 180)))) ∧ M'.1 55 = upd (M0.1 55) t (Int32.ofInt 1) ∧ (∀ p, p ≠ 53 → p ≠ 55 → M'.1 p = M0.1 p) ∧ M'.2 = M0.2
theorem c_meets {n : Nat} (hn : M.1 35 7 = Int32.ofInt (n : Int)) (hn2 : n ≤ 48) {x : Int} (hx : 0 ≤ x ∧ x < 2147483648) {th nw : Nat → Bool} (hth : ∀ t, t < 8820 → M.1 53 t = sm_z (th t)) (hnw : ∀ t, t < 180 → M.1 54 t = sm_z (nw t)) :
    sm_Sm g 112 [.ref 35, .int (Int32.ofInt x)] M (fun o M' => ra_post M (mw_cl n x).toNat th nw M' ∧ ∃ b : Bool, o = some (.int (sm_z b)) ∧ (b = false ↔ (¬ M.1 55 (mw_cl n x).toNat = 0 ∧ ∀ s, s < 180 → th (180 * (mw_cl n x).toNat + s) = true → nw s = true))) := by
  have ht : (mw_cl n x).toNat ≤ 48 ∧ mw_cl n x = ((mw_cl n x).toNat : Int) := by unfold mw_cl; split <;> omega
  have hcl : mw_cl n x = if (n : Int) < x then (n : Int) else x := rfl
  generalize htt : (mw_cl n x).toNat = t at *
  have int' : vp_in (Int32.ofInt (t : Int)) 49 := by rw [jn_in (by omega) (by omega)]; omega
  have clt : (Int32.ofInt (t : Int)).toNatClampNeg = t := by rw [jn_cl (by omega) (by omega)]; omega
  generalize hQ : (fun (o : Option Value) (M' : sm_M) => ra_post M t th nw M' ∧ ∃ b : Bool, o = some (.int (sm_z b)) ∧ (b = false ↔ (¬ M.1 55 t = 0 ∧ ∀ s, s < 180 → th (180 * t + s) = true → nw s = true))) = Q
  have loop : ∀ (d w : Nat) (M1 : sm_M) (b : Bool), w + d = 180 → (∀ c, c < 8820 → M1.1 53 c = sm_z (th c && (!decide (c / 180 = t ∧ c % 180 < w) || nw (c % 180)))) → (∀ p, p ≠ 53 → M1.1 p = M.1 p) → M1.2 = M.2 → (b = false ↔ (¬ M.1 55 t = 0 ∧ ∀ s, s < w → th (180 * t + s) = true → nw s = true)) → sm_Go g 112 (sm_Fn g Q) 35 [.ref 35, .int (Int32.ofInt x), .int (Int32.ofInt (t : Int)), .int (sm_z b), .int (Int32.ofInt (w : Int)), .null] [] M1 := by
    intro d
    induction d with
    | zero =>
      intro w M1 b hd h1 h2 h3 hb
      have ew : w = 180 := by omega
      subst ew
      refine k112_35 (fun _ _ _ _ h => h) ⟨fun _ => ⟨Or.inr rfl, int', sm_zb _, ?_⟩, fun q => absurd ?_ q⟩
      · rw [← hQ, clt]
        refine ⟨⟨fun c hc => ?_, ?_, fun p p1 p2 => ?_, h3⟩, b, rfl, hb⟩
        · rw [sI_1 (by decide), h1 c hc, decide_eq_decide.mpr (show (c / 180 = t ∧ c % 180 < 180) ↔ c / 180 = t by omega)]
        · rw [sI_s, h2 55 (by decide)]
        · rw [sI_1 p2]; exact h2 p p1
      · rw [jn_le (by omega) (by omega) (by omega) (by omega)]; omega
    | succ d ih =>
      intro w M1 b hd h1 h2 h3 hb
      have i1 : vp_in (Int32.ofInt (180 * (t : Int) + (w : Int))) 8820 := by rw [jn_in (by omega) (by omega)]; omega
      have e1 : (Int32.ofInt (180 * (t : Int) + (w : Int))).toNatClampNeg = 180 * t + w := by rw [jn_cl (by omega) (by omega)]; omega
      have iw : vp_in (Int32.ofInt (w : Int)) 180 := by rw [jn_in (by omega) (by omega)]; omega
      have ew : (Int32.ofInt (w : Int)).toNatClampNeg = w := by rw [jn_cl (by omega) (by omega)]; omega
      have v53 : M1.1 53 (180 * t + w) = sm_z (th (180 * t + w)) := by
        rw [h1 _ (by omega), decide_eq_false (by omega)]; simp
      have f103 : ∀ b2 : Bool, (b2 = false ↔ (¬ M.1 55 t = 0 ∧ ∀ s, s < w + 1 → th (180 * t + s) = true → nw s = true)) → ∀ x3 : Int32, sm_Go g 112 (sm_Fn g Q) 103 [.ref 35, .int (Int32.ofInt x), .int (Int32.ofInt (t : Int)), .int x3, .int (Int32.ofInt (w : Int)), .int (sm_z (th (180 * t + w) && nw w))] [.int (sm_z b2)] M1 := fun b2 hb2 x3 => by
        refine k112_103 (fun _ _ _ _ h => h) ⟨sm_zb _, ?_⟩
        rw [jn_mul, jn_add, e1, jn_add, show (w : Int) + 1 = ((w + 1 : Nat) : Int) by omega]
        refine ⟨i1, sm_wk (L := [.ref 35, .int (Int32.ofInt x), .int (Int32.ofInt (t : Int)), .int (sm_z b2), .int (Int32.ofInt ((w + 1 : Nat) : Int)), .null]) ⟨rfl, rfl, rfl, rfl, rfl, trivial⟩ (ih (w + 1) _ b2 (by omega) (fun c hc => ?_) (fun p hp => by rw [sI_1 hp]; exact h2 p hp) h3 hb2)⟩
        rw [sI_s]
        by_cases e : c = 180 * t + w
        · rw [e, pk_us, decide_eq_true (show (180 * t + w) / 180 = t ∧ (180 * t + w) % 180 < w + 1 by omega), show (180 * t + w) % 180 = w by omega]; rfl
        · rw [pk_un e, h1 c hc, decide_eq_decide.mpr (show (c / 180 = t ∧ c % 180 < w) ↔ (c / 180 = t ∧ c % 180 < w + 1) by omega)]
      have f74 : ∀ y : Bool, y = (th (180 * t + w) && nw w) → sm_Go g 112 (sm_Fn g Q) 74 [.ref 35, .int (Int32.ofInt x), .int (Int32.ofInt (t : Int)), .int (sm_z b), .int (Int32.ofInt (w : Int)), .null] [.int (sm_z y)] M1 := fun y hy => by
        refine k112_74 (fun _ _ _ _ h => h) ?_
        rw [jn_mul, jn_add, e1, v53, sm_z0 (b := b), sm_zi, hy]
        refine ⟨fun q => k112_98 (fun _ _ _ _ h => h) ?_, fun q => ⟨i1, fun q2 => ?_, fun q2 => k112_98 (fun _ _ _ _ h => h) ?_⟩⟩
        · rw [sm_o1]
          exact f103 true ⟨fun z => by (cases z), fun z => absurd (hb.mpr ⟨z.1, fun s hs => z.2 s (by omega)⟩) q⟩ _
        · rw [sm_o0]
          have z := hb.mp q
          refine f103 false ⟨fun _ => ⟨z.1, fun s hs hts => ?_⟩, fun _ => rfl⟩ _
          by_cases e : s = w
          · rw [e] at hts ⊢
            rw [hts, Bool.true_and] at q2; exact q2
          · exact z.2 s (by omega) hts
        · rw [sm_o1]
          refine f103 true ⟨fun z => by (cases z), fun z => absurd ?_ q2⟩ _
          cases e : th (180 * t + w)
          · rfl
          · rw [z.2 w (by omega) e]; rfl
      refine k112_35 (fun _ _ _ _ h => h) ⟨fun q => ?_, fun _ => ?_⟩
      · rw [jn_le (by omega) (by omega) (by omega) (by omega)] at q; omega
      rw [jn_mul, jn_add, e1, v53, sm_z0, ew, h2 54 (by decide), hnw w (by omega), sm_z0]
      refine ⟨i1, fun q => k112_73 (fun _ _ _ _ h => h) ?_, fun q => ⟨iw, fun q2 => k112_73 (fun _ _ _ _ h => h) ?_, fun q2 => ?_⟩⟩
      · rw [sm_o0]; exact f74 false (by rw [q]; rfl)
      · rw [sm_o0]; exact f74 false (by rw [q2]; simp)
      · rw [Bool.not_eq_false] at q q2
        rw [sm_o1]; exact f74 true (by rw [q, q2]; rfl)
  have start : ∀ b : Bool, (b = false ↔ ¬ M.1 55 t = 0) → sm_Go g 112 (sm_Fn g Q) 31 [.ref 35, .int (Int32.ofInt x), .int (Int32.ofInt (t : Int)), .null, .null, .null] [.int (sm_z b)] M := fun b hb => by
    refine k112_31 (fun _ _ _ _ h => h) (loop 180 0 M b (by omega) (fun c hc => ?_) (fun _ _ => rfl) rfl ⟨fun z => ⟨hb.mp z, fun s hs => absurd hs (by omega)⟩, fun z => hb.mpr z.1⟩)
    rw [hth c hc, decide_eq_false (by omega)]; simp
  have f16 : sm_Go g 112 (sm_Fn g Q) 16 [.ref 35, .int (Int32.ofInt x), .null, .null, .null, .null] [.int (Int32.ofInt (t : Int))] M := by
    refine k112_16 (fun _ _ _ _ h => h) ⟨int', ?_⟩
    rw [clt]
    refine ⟨fun q => ?_, fun q => ?_⟩
    · rw [sm_o0]; exact start false ⟨fun _ => q, fun _ => rfl⟩
    · rw [sm_o1]; exact start true ⟨fun z => by (cases z), fun z => absurd q z⟩
  refine sm_entry (Nat.le_of_ble_eq_true rfl) (Nat.le_of_ble_eq_true rfl) ?_
  refine k112_0 (fun _ _ _ _ h => h) ?_
  rw [hn, jn_le (by omega) (by omega) (by omega) (by omega)]
  refine ⟨fun q => ?_, fun q => ?_⟩
  · rw [if_neg (by omega)] at hcl
    have e : x = (t : Int) := by omega
    have := f16
    rw [← e] at this
    exact this
  · rw [if_pos (by omega)] at hcl
    have e : (n : Int) = (t : Int) := by omega
    have := f16
    rw [← e] at this
    exact this
end
