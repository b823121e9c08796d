-- the reference takes the groups off
section
variable {g : sm_G} {M : sm_M}
theorem c_isTemporary {s : jS} (hl : ∀ v, v < 60 → M.1 45 v = Int32.ofInt (jr_l s v)) (hw : jw s) {x : Nat} (gx : js_gr s x = true) : sm_Sm g 94 [.ref 35, .int (Int32.ofInt (x : Int))] M (sm_P (.int (sm_z (jt (js_ld s) x 60))) M) := by
  have hx := hw.1 x gx
  generalize hQ : sm_P (.int (sm_z (jt (js_ld s) x 60))) M = Q
  have loop : ∀ (d w : Nat), w + d = 60 → 10 ≤ w → sm_Go g 94 (sm_Fn g Q) 5 [.ref 35, .int (Int32.ofInt (x : Int)), .int (sm_z (jt (js_ld s) x w)), .int (Int32.ofInt (w : Int))] [] M := by
    intro d
    induction d with
    | zero =>
      intro w hd _
      have ew : w = 60 := by omega
      subst ew
      refine k94_5 (fun _ _ _ _ h => h) ⟨fun _ => ⟨sm_zb _, ?_⟩, fun q => absurd ?_ q⟩
      · rw [← hQ]; exact ⟨rfl, rfl⟩
      · rw [jn_le (by omega) (by omega) (by omega) (by omega)]; omega
    | succ d ih =>
      intro w hd h10
      have rl := jr_lr hw (v := w) (by omega)
      have on : ∀ (b : Int32) (x2 : Value), b = sm_z (jt (js_ld s) x (w + 1)) → ∀ x2 : Int32, sm_Go g 94 (sm_Fn g Q) 30 [.ref 35, .int (Int32.ofInt (x : Int)), .int x2, .int (Int32.ofInt (w : Int))] [.int b] M := fun b _ e x2 => by
        refine k94_30 (fun _ _ _ _ h => h) ?_
        rw [jn_add, show (w : Int) + 1 = ((w + 1 : Nat) : Int) by omega, e]
        exact ih (w + 1) (by omega) (by omega)
      have js : jt (js_ld s) x (w + 1) = (jt (js_ld s) x w || decide (jr_l s w = (x : Int))) := by
        show (jt (js_ld s) x w || (decide (10 ≤ w) && decide (js_ld s w = (x : Int)))) = _
        rw [decide_eq_true h10, Bool.true_and]
        congr 1
        refine decide_eq_decide.mpr ?_
        unfold jr_l
        by_cases e : js_ld s w = -1
        · rw [if_pos e]
          constructor
          · intro z; omega
          · intro z
            have : w = x := by omega
            rw [this] at e; omega
        · rw [if_neg e]
      refine k94_5 (fun _ _ _ _ h => h) ⟨fun q => ?_, fun _ => ?_⟩
      · rw [jn_le (by omega) (by omega) (by omega) (by omega)] at q; omega
      rw [sm_z0, show (Int32.ofInt (w : Int)).toNatClampNeg = w by rw [jn_cl (by omega) (by omega)]; omega, hl w (by omega), jn_eq (by omega) (by omega) (by omega) (by omega)]
      refine ⟨fun q => k94_25 (fun _ _ _ _ h => h) (on _ .null ?_ _), fun q => ⟨by rw [jn_in (by omega) (by omega)]; omega, fun q2 => on _ .null ?_ _, fun q2 => k94_25 (fun _ _ _ _ h => h) (on _ .null ?_ _)⟩⟩
      · rw [Bool.not_eq_false] at q
        rw [js, q]; exact sm_o1
      · rw [js, q, decide_eq_false q2]; exact sm_o0
      · rw [js, q, decide_eq_true q2]; exact sm_o1
  refine sm_entry (Nat.le_of_ble_eq_true rfl) (Nat.le_of_ble_eq_true rfl) ?_
  refine k94_0 (fun _ _ _ _ h => h) ?_
  have e10 : jt (js_ld s) x 10 = false := by rw [jt_b (jt_iff 10)]; rintro ⟨w, h1, h2, _⟩; omega
  have l10 := loop 50 10 (by omega) (by omega)
  rw [e10] at l10
  exact l10
theorem c_least {lf : Nat → Bool} (hf : ∀ v, v < 60 → M.1 47 v = sm_z (lf v)) : sm_Sm g 96 [.ref 35] M (sm_P (.int (Int32.ofInt (on_i (ff lf 60 0)))) M) := by
  have loop : ∀ (d w : Nat), w + d = 60 → sm_Go g 96 (sm_Fn g (sm_P (.int (Int32.ofInt (on_i (ff lf d w)))) M)) 2 [.ref 35, .int (Int32.ofInt (w : Int))] [] M := by
    intro d
    induction d with
    | zero =>
      intro w hd
      refine k96_2 (fun _ _ _ _ h => h) ⟨fun _ => ⟨rfl, rfl⟩, fun q => absurd ?_ q⟩
      rw [jn_le (by omega) (by omega) (by omega) (by omega)]; omega
    | succ d ih =>
      intro w hd
      refine k96_2 (fun _ _ _ _ h => h) ⟨fun q => ?_, fun _ => ?_⟩
      · rw [jn_le (by omega) (by omega) (by omega) (by omega)] at q; omega
      rw [show (Int32.ofInt (w : Int)).toNatClampNeg = w by rw [jn_cl (by omega) (by omega)]; omega, hf w (by omega), sm_z0, ff, jn_add, show (w : Int) + 1 = ((w + 1 : Nat) : Int) by omega]
      refine ⟨by rw [jn_in (by omega) (by omega)]; omega, fun q => ?_, fun q => ?_⟩
      · rw [if_neg (by rw [q]; simp)]; exact ih (w + 1) (by omega)
      · rw [Bool.not_eq_false] at q
        rw [if_pos q]; exact ⟨rfl, rfl⟩
  refine sm_entry (Nat.le_of_ble_eq_true rfl) (Nat.le_of_ble_eq_true rfl) ?_
  exact k96_0 (fun _ _ _ _ h => h) (loop 60 0 (by omega))
theorem c_dg {s : jS} (hw : jw s) {nr : Nat → Nat → Bool} (hi : jr_is M (js_gr s) nr) (hok : jr_ok (js_gr s) nr (js_nb s)) {lf : Nat → Bool} (hf : ∀ v, v < 60 → M.1 47 v = sm_z (lf v)) (hg : ∀ v, lf v = true → js_gr s v = true) {u : Nat} (gu : js_gr s u = true) :
    sm_Sm g 90 [.ref 35, .int (Int32.ofInt (u : Int)), .int (Int32.ofInt 1)] M (sm_P (.int (Int32.ofInt ((dg (js_nb s) lf u : Nat) : Int))) M) := by
  have hu := (hw.1 u gu).1
  have D := c_degree (g := g) (lf := lf) hi hu (f := true) (fun _ => hf)
  rw [← sm_o1, bct_c (f' := fun v => js_nb s u v && lf v) 60 (fun v hv => ?_)] at D
  · exact D
  · cases gv : js_gr s v
    · have : lf v = false := by
        cases e : lf v
        · rfl
        · rw [hg v e] at gv; cases gv
      rw [this]; simp
    · rw [hok.1 u v hu hv gu gv]; simp
def nx_r (s : jS) (lf : Nat → Bool) (k : Int) : Option Nat := match nx_1 s lf k with
  | some v => some v
  | none => nx_2 s lf
theorem c_next {s : jS} (hw : jw s) (hm : jm_is M s) {lf : Nat → Bool} (hf : ∀ v, v < 60 → M.1 47 v = sm_z (lf v)) (hg : ∀ v, lf v = true → js_gr s v = true) {k : Int} (hk : 0 ≤ k ∧ k < 100) :
    sm_Sm g 95 [.ref 35, .int (Int32.ofInt k)] M (sm_P (.int (Int32.ofInt (on_i (nx_r s lf k)))) M) := by
  obtain ⟨nr, mi, mk, m5, m6, mj⟩ := hm
  generalize hQ : sm_P (.int (Int32.ofInt (on_i (nx_r s lf k)))) M = Q
  have o60 : ∀ P : Nat → Bool, -1 ≤ on_i (ff P 60 0) ∧ on_i (ff P 60 0) < 60 := fun P => by
    cases e : ff P 60 0 with
    | none => show -1 ≤ (-1 : Int) ∧ (-1 : Int) < 60; omega
    | some b => have := (ff_some 60 0 e).1; show -1 ≤ (b : Int) ∧ (b : Int) < 60; omega
  -- the lightest
  have end2 : nx_1 s lf k = none → ∀ x4 : Int32, sm_Go g 95 (sm_Fn g Q) 136 [.ref 35, .int (Int32.ofInt k), .int (Int32.ofInt (-1)), .int (Int32.ofInt (on_i (nx_2 s lf))), .int x4, .null] [] M := fun e x4 => by
    refine k95_136 (fun _ _ _ _ h => h) ⟨fun _ => ?_, fun q => absurd (by decide) q⟩
    rw [← hQ]; unfold nx_r; rw [e]; exact ⟨rfl, rfl⟩
  have loop2 : nx_1 s lf k = none → ∀ (d w : Nat), w + d = 60 → sm_Go g 95 (sm_Fn g Q) 46 [.ref 35, .int (Int32.ofInt k), .int (Int32.ofInt (-1)), .int (Int32.ofInt (on_i (cl_b (fun v => lf v && !jt (js_ld s) v 60) (co_lt s lf) w))), .int (Int32.ofInt (w : Int)), .null] [] M := by
    intro e1 d
    induction d with
    | zero =>
      intro w hd
      have ew : w = 60 := by omega
      subst ew
      refine k95_46 (fun _ _ _ _ h => h) ⟨fun _ => end2 e1 _, fun q => absurd ?_ q⟩
      rw [jn_le (by omega) (by omega) (by omega) (by omega)]; omega
    | succ d ih =>
      intro w hd
      generalize hP : (fun v => lf v && !jt (js_ld s) v 60) = P at *
      have hPw : P w = (lf w && !jt (js_ld s) w 60) := by rw [← hP]
      have on : ∀ (b : Int) (x3 x5 : Int32), b = on_i (cl_b P (co_lt s lf) (w + 1)) → sm_Go g 95 (sm_Fn g Q) 129 [.ref 35, .int (Int32.ofInt k), .int (Int32.ofInt (-1)), .int x3, .int (Int32.ofInt (w : Int)), .int x5] [.int (Int32.ofInt b)] M := fun b x3 x5 e => by
        refine k95_129 (fun _ _ _ _ h => h) ?_
        rw [jn_add, show (w : Int) + 1 = ((w + 1 : Nat) : Int) by omega, e]
        exact sm_wk (L := [.ref 35, .int (Int32.ofInt k), .int (Int32.ofInt (-1)), .int (Int32.ofInt (on_i (cl_b P (co_lt s lf) (w + 1)))), .int (Int32.ofInt ((w + 1 : Nat) : Int)), .null]) ⟨rfl, rfl, rfl, rfl, rfl, trivial⟩ (ih (w + 1) (by omega))
      have r1 : -1 ≤ on_i (cl_b P (co_lt s lf) w) ∧ on_i (cl_b P (co_lt s lf) w) < 60 := by
        cases e : cl_b P (co_lt s lf) w with
        | none => show -1 ≤ (-1 : Int) ∧ (-1 : Int) < 60; omega
        | some b => have := (cl_b_some w e).1; show -1 ≤ (b : Int) ∧ (b : Int) < 60; omega
      have h81 : ∀ b : Bool, b = P w → sm_Go g 95 (sm_Fn g Q) 81 [.ref 35, .int (Int32.ofInt k), .int (Int32.ofInt (-1)), .int (Int32.ofInt (on_i (cl_b P (co_lt s lf) w))), .int (Int32.ofInt (w : Int)), .null] [.int (sm_z b)] M := by
        intro b hb
        have no : ¬ (P w && cl_u (co_lt s lf) w (cl_b P (co_lt s lf) w)) = true → sm_Go g 95 (sm_Fn g Q) 128 [.ref 35, .int (Int32.ofInt k), .int (Int32.ofInt (-1)), .int (Int32.ofInt (on_i (cl_b P (co_lt s lf) w))), .int (Int32.ofInt (w : Int)), .int (sm_z b)] [] M := fun e => k95_128 (fun _ _ _ _ h => h) (on _ _ _ (by rw [cl_b, if_neg e]))
        have go : (P w && cl_u (co_lt s lf) w (cl_b P (co_lt s lf) w)) = true → sm_Go g 95 (sm_Fn g Q) 123 [.ref 35, .int (Int32.ofInt k), .int (Int32.ofInt (-1)), .int (Int32.ofInt (on_i (cl_b P (co_lt s lf) w))), .int (Int32.ofInt (w : Int)), .int (sm_z b)] [] M := fun e => k95_123 (fun _ _ _ _ h => h) (on w _ _ (by rw [cl_b, if_pos e]; rfl))
        refine k95_81 (fun _ _ _ _ h => h) ⟨fun q => no ?_, fun q => ?_⟩
        · rw [sm_z0] at q
          rw [← hb, q]; simp
        · rw [sm_z0, Bool.not_eq_false] at q
          rw [q] at hb
          rw [jn_0, jn_lt (by omega) (by omega) (by omega) (by omega)]
          refine ⟨fun q2 => go ?_, fun q2 => ?_⟩
          · cases e : cl_b P (co_lt s lf) w with
            | none => rw [← hb]; rfl
            | some b =>
              rw [e] at q2
              have q2 : (b : Int) < 0 := q2
              omega
          · cases e : cl_b P (co_lt s lf) w with
            | none => rw [e] at q2; exact absurd (show (-1 : Int) < 0 by decide) q2
            | some b2 =>
              obtain ⟨hb2, hPb⟩ := cl_b_some w e
              have gw : js_gr s w = true := hg w (by rw [hPw] at hb; have := hb.symm; rw [Bool.and_eq_true] at this; exact this.1)
              have gb : js_gr s b2 = true := hg b2 (by rw [← hP] at hPb; dsimp only at hPb; rw [Bool.and_eq_true] at hPb; exact hPb.1)
              rw [e] at no go
              show vp_in _ 60 ∧ sm_Sm g 90 [.ref 35, .int (Int32.ofInt (b2 : Int)), .int (Int32.ofInt 1)] M _
              refine ⟨by rw [jn_in (by omega) (by omega)]; omega, sm_Sm_mono (c_dg hw mi mk hf hg gb) (fun o M1 h' => ?_)⟩
              obtain ⟨rfl, rfl⟩ := h'
              refine ⟨by show vp_in (Int32.ofInt (b2 : Int)) 60; rw [jn_in (by omega) (by omega)]; omega, sm_Sm_mono (c_dg hw mi mk hf hg gw) (fun o M2 h' => ?_)⟩
              obtain ⟨rfl, rfl⟩ := h'
              show (_ → _) ∧ (_ → _)
              rw [show (Int32.ofInt (on_i (some b2))).toNatClampNeg = b2 by show (Int32.ofInt (b2 : Int)).toNatClampNeg = b2; rw [jn_cl (by omega) (by omega)]; omega, show (Int32.ofInt (w : Int)).toNatClampNeg = w by rw [jn_cl (by omega) (by omega)]; omega, m6 w (by omega), m6 b2 (by omega)]
              refine ⟨fun q3 => no ?_, fun q3 => go ?_⟩
              · rw [← hb]; show ¬ (true && co_lt s lf w b2) = true
                unfold co_lt; rw [decide_eq_false (fun z => z q3)]; simp
              · rw [← hb]; show (true && co_lt s lf w b2) = true
                unfold co_lt; rw [decide_eq_true q3]; rfl
      refine k95_46 (fun _ _ _ _ h => h) ⟨fun q => ?_, fun _ => ⟨fun q => absurd q (by decide), fun _ => ?_⟩⟩
      · rw [jn_le (by omega) (by omega) (by omega) (by omega)] at q; omega
      rw [show (Int32.ofInt (w : Int)).toNatClampNeg = w by rw [jn_cl (by omega) (by omega)]; omega, hf w (by omega), sm_z0]
      refine ⟨by rw [jn_in (by omega) (by omega)]; omega, fun q => k95_80 (fun _ _ _ _ h => h) ?_, fun q => ?_⟩
      · rw [sm_o0]; exact h81 false (by rw [hPw, q]; rfl)
      · rw [Bool.not_eq_false] at q
        refine sm_Sm_mono (c_isTemporary m5 hw (hg w q)) (fun o M1 h' => ?_)
        obtain ⟨rfl, rfl⟩ := h'
        show (_ → _) ∧ (_ → _)
        rw [sm_z0]
        refine ⟨fun q2 => k95_80 (fun _ _ _ _ h => h) ?_, fun q2 => ?_⟩
        · rw [Bool.not_eq_false] at q2
          rw [sm_o0]; exact h81 false (by rw [hPw, q, q2]; rfl)
        · rw [sm_o1]; exact h81 true (by rw [hPw, q, q2]; rfl)
  -- the first below k
  have loop1 : ∀ (w d : Nat), w + d = 60 → sm_Go g 95 (sm_Fn g Q) 8 [.ref 35, .int (Int32.ofInt k), .int (Int32.ofInt (on_i (ff (fun v => lf v && decide ((dg (js_nb s) lf v : Int) < k)) d w))), .int (Int32.ofInt (-1)), .int (Int32.ofInt ((w : Int) - 1)), .null] [] M := by
    intro w
    induction w with
    | zero =>
      intro d hd
      have ed : d = 60 := by omega
      subst ed
      refine k95_8 (fun _ _ _ _ h => h) ⟨fun _ => ?_, fun q => absurd (by decide) q⟩
      show sm_Go g 95 (sm_Fn g Q) 46 [.ref 35, .int (Int32.ofInt k), .int (Int32.ofInt (on_i (nx_1 s lf k))), .int (Int32.ofInt (-1)), .int (Int32.ofInt 0), .null] [] M
      cases e1 : nx_1 s lf k with
      | none => exact loop2 e1 60 0 (by omega)
      | some v =>
        have hv := (ff_some 60 0 e1).1
        refine k95_46 (fun _ _ _ _ h => h) ⟨fun q => absurd q (by decide), fun _ => ⟨fun _ => ?_, fun q => absurd ?_ q⟩⟩
        · refine k95_136 (fun _ _ _ _ h => h) ⟨fun q => ?_, fun q => ?_⟩
          · have q : Int32.ofInt (v : Int) < 0 := q
            rw [jn_0, jn_lt (by omega) (by omega) (by omega) (by omega)] at q; omega
          · rw [← hQ]; unfold nx_r; rw [e1]; exact ⟨rfl, rfl⟩
        · show 0 ≤ Int32.ofInt (v : Int)
          rw [jn_0, jn_le (by omega) (by omega) (by omega) (by omega)]; omega
    | succ w ih =>
      intro d hd
      rw [show ((w + 1 : Nat) : Int) - 1 = (w : Int) by omega]
      have on : ∀ x2 : Int, x2 = on_i (ff (fun v => lf v && decide ((dg (js_nb s) lf v : Int) < k)) (d + 1) w) → sm_Go g 95 (sm_Fn g Q) 37 [.ref 35, .int (Int32.ofInt k), .int (Int32.ofInt x2), .int (Int32.ofInt (-1)), .int (Int32.ofInt (w : Int)), .null] [] M := fun x2 e => by
        refine k95_37 (fun _ _ _ _ h => h) ?_
        rw [jn_add, show (w : Int) + -1 = (w : Int) - 1 by omega, e]
        exact ih (d + 1) (by omega)
      refine k95_8 (fun _ _ _ _ h => h) ⟨fun q => ?_, fun _ => ?_⟩
      · rw [jn_0, jn_lt (by omega) (by omega) (by omega) (by omega)] at q; omega
      rw [show (Int32.ofInt (w : Int)).toNatClampNeg = w by rw [jn_cl (by omega) (by omega)]; omega, hf w (by omega), sm_z0]
      refine ⟨by rw [jn_in (by omega) (by omega)]; omega, fun q => on _ ?_, fun q => ?_⟩
      · rw [ff, if_neg (by rw [q]; simp)]
      · rw [Bool.not_eq_false] at q
        have dl := dg_lt hw (lf := lf) (v := w) (by omega)
        refine sm_Sm_mono (c_dg hw mi mk hf hg (hg w q)) (fun o M1 h' => ?_)
        obtain ⟨rfl, rfl⟩ := h'
        show (_ → _) ∧ (_ → _)
        rw [jn_le (by omega) (by omega) (by omega) (by omega)]
        refine ⟨fun q2 => on _ ?_, fun q2 => on w ?_⟩
        · rw [ff, if_neg (by rw [decide_eq_false (by omega)]; simp)]
        · rw [ff, if_pos (by rw [q, decide_eq_true (by omega)]; rfl)]; rfl
  refine sm_entry (Nat.le_of_ble_eq_true rfl) (Nat.le_of_ble_eq_true rfl) ?_
  exact k95_0 (fun _ _ _ _ h => h) (loop1 60 0 (by omega))
end
