-- put
section
variable {g : sm_G} {M : sm_M}
/-- what the reference still has to do where the class has thrown: it says which exception -/
def i_thr (g : sm_G) (z : Nat) (as : List Value) (M : sm_M) (k : Int) : Prop := sm_Sm g z (.ref 35 :: as) M (fun o2 M2 => (∃ r, o2 = some (.int r)) ∧ M2.1 35 0 = Int32.ofInt k ∧ INV M2)
/-- what it has to do where the class has returned -/
def i_ret (g : sm_G) (z : Nat) (as : List Value) (o : Option Value) (M1 : sm_M) : Prop := ∃ r, o = some (.int r) ∧ sm_Sm g z (.ref 35 :: as) M1 (fun o2 M2 => o2 = some (.int r) ∧ M2.1 35 0 = Int32.ofInt 0 ∧ INV M2)
def pt_ok (o d a b : Int) : Bool := (decide (0 ≤ o) && decide (o ≤ 7)) && (pf_ft o 1 d && (pf_ft o 2 a && pf_ft o 3 b))
def pt_l (o d a b : Int) (n : Nat) : Int → Int := mkl o (pf_mt o 1 d) (pf_mt o 2 a) (pf_mt o 3 b) (n : Int)
theorem pt_D {o : Int} (h : 0 ≤ o ∧ o ≤ 7) (d : Int) : (pf_ft o 1 d = (!pf_rD o || pf_iv d)) ∧ pf_mt o 1 d = if pf_rD o = true then d else 0 := by
  have e := pf_hv1 (o := o) (by omega)
  have t : pf_tc o = 2 ∨ pf_tc o = 3 ∨ pf_tc o = -1 := by unfold pf_tc; split <;> (try split) <;> omega
  unfold pf_ft pf_mt
  rw [e]
  cases hr : pf_rD o
  · refine ⟨by rw [if_neg (by decide), if_neg (by omega)]; rfl, ?_⟩
    rw [if_neg (by simp; omega), if_neg (by decide)]
  · exact ⟨by rw [if_pos rfl]; rfl, by rw [if_pos (Or.inl rfl), if_pos rfl]⟩
theorem pt_A {o : Int} (a : Int) : (pf_ft o 2 a = ((!pf_rA o || pf_iv a) && (!decide (o = 5) || pf_il a))) ∧ pf_mt o 2 a = if pf_rA o = true ∨ o = 0 ∨ o = 5 then a else 0 := by
  unfold pf_ft pf_mt
  rw [pf_hv2]
  have t : (2 = pf_tc o) ↔ o = 5 := by
    unfold pf_tc
    by_cases e : o = 5
    · rw [if_pos e]; exact ⟨fun _ => e, fun _ => rfl⟩
    · rw [if_neg e]
      by_cases e2 : o = 6
      · rw [if_pos e2]; constructor <;> intro z <;> omega
      · rw [if_neg e2]; constructor <;> intro z <;> omega
  cases hr : pf_rA o
  · refine ⟨?_, ?_⟩
    · rw [if_neg (by decide)]
      by_cases e : o = 5
      · rw [if_pos (t.mpr e), decide_eq_true e]; rfl
      · rw [if_neg (fun z => e (t.mp z)), decide_eq_false e]; rfl
    · by_cases e : o = 0 ∨ o = 5
      · rw [if_pos, if_pos (Or.inr e)]
        rcases e with e | e
        · exact Or.inr (Or.inr ⟨e, rfl⟩)
        · exact Or.inr (Or.inl (t.mpr e))
      · rw [if_neg, if_neg]
        · rintro (z | z)
          · cases z
          · exact e z
        · rintro (z | z | z)
          · cases z
          · exact e (Or.inr (t.mp z))
          · exact e (Or.inl z.1)
  · refine ⟨?_, by rw [if_pos (Or.inl rfl), if_pos (Or.inl rfl)]⟩
    rw [if_pos rfl]
    have n5 : o ≠ 5 := fun z => by rw [z] at hr; exact absurd hr (by decide)
    rw [decide_eq_false n5]; simp [pf_iv]
theorem pt_B {o : Int} (b : Int) : (pf_ft o 3 b = ((!pf_rB o || pf_iv b) && (!decide (o = 6) || pf_il b))) ∧ pf_mt o 3 b = if pf_rB o = true ∨ o = 6 then b else 0 := by
  unfold pf_ft pf_mt
  rw [pf_hv3]
  have t : (3 = pf_tc o) ↔ o = 6 := by
    unfold pf_tc
    by_cases e : o = 5
    · rw [if_pos e]; constructor <;> intro z <;> omega
    · rw [if_neg e]
      by_cases e2 : o = 6
      · rw [if_pos e2]; exact ⟨fun _ => e2, fun _ => rfl⟩
      · rw [if_neg e2]; constructor <;> intro z <;> omega
  cases hr : pf_rB o
  · refine ⟨?_, ?_⟩
    · rw [if_neg (by decide)]
      by_cases e : o = 6
      · rw [if_pos (t.mpr e), decide_eq_true e]; rfl
      · rw [if_neg (fun z => e (t.mp z)), decide_eq_false e]; rfl
    · by_cases e : o = 6
      · rw [if_pos (Or.inr (Or.inl (t.mpr e))), if_pos (Or.inr e)]
      · rw [if_neg, if_neg]
        · rintro (z | z)
          · cases z
          · exact e z
        · rintro (z | z | z)
          · cases z
          · exact e (t.mp z)
          · omega
  · refine ⟨?_, by rw [if_pos (Or.inl rfl), if_pos (Or.inl rfl)]⟩
    rw [if_pos rfl]
    have n5 : o ≠ 6 := fun z => by rw [z] at hr; exact absurd hr (by decide)
    rw [decide_eq_false n5]; simp [pf_iv]
def rp_new (M : sm_M) (ns : Nat) (o d a b : Int) : sm_M := sm_sI (sm_sI (st_M (sm_sI M 35 0 (Int32.ofInt 0)) ns (Int32.ofInt o) (Int32.ofInt (pf_mt o 1 d)) (Int32.ofInt (pf_mt o 2 a)) (Int32.ofInt (pf_mt o 3 b)) (Int32.ofInt (ns : Int))) 35 6 (Int32.ofInt ((ns + 1 : Nat) : Int))) 35 24 (Int32.ofInt 0)
def rp_post (M : sm_M) (ns : Nat) (o d a b : Int) (r : Option Value) (M' : sm_M) : Prop := (pt_ok o d a b = false → r = some (.int (Int32.ofInt 0)) ∧ M' = sm_sI M 35 0 (Int32.ofInt 1)) ∧ (pt_ok o d a b = true → ns = 16 → r = some (.int (Int32.ofInt 0)) ∧ M' = sm_sI M 35 0 (Int32.ofInt 2)) ∧ (pt_ok o d a b = true → ns ≠ 16 → r = some (.int (Int32.ofInt ((ns + 1 : Nat) : Int))) ∧ M' = rp_new M ns o d a b)
/-- the reference's put: which exception it would be, or a line more -/
theorem c_rput {ns : Nat} (hns : ns ≤ 16) (hn : M.1 35 6 = Int32.ofInt (ns : Int)) {o d a b : Int} (ho : -2147483648 ≤ o ∧ o < 2147483648) (hd : -2147483648 ≤ d ∧ d < 2147483648) (ha : -2147483648 ≤ a ∧ a < 2147483648) (hb : -2147483648 ≤ b ∧ b < 2147483648) :
    sm_Sm g 83 [.ref 35, .int (Int32.ofInt o), .int (Int32.ofInt d), .int (Int32.ofInt a), .int (Int32.ofInt b)] M (rp_post M ns o d a b) := by
  generalize hQ : rp_post M ns o d a b = Q
  have to : (Int32.ofInt o).toInt = o := jn_to ho.1 ho.2
  have td : (Int32.ofInt d).toInt = d := jn_to hd.1 hd.2
  have ta : (Int32.ofInt a).toInt = a := jn_to ha.1 ha.2
  have tb : (Int32.ofInt b).toInt = b := jn_to hb.1 hb.2
  have bad : pt_ok o d a b = false → ∀ x5 : Int32, sm_Go g 83 (sm_Fn g Q) 91 [.ref 35, .int (Int32.ofInt o), .int (Int32.ofInt d), .int (Int32.ofInt a), .int (Int32.ofInt b), .int x5, .null] [] M := fun e x5 => by
    refine k83_91 (fun _ _ _ _ h => h) (k83_96 (fun _ _ _ _ h => h) ⟨fun q => absurd q (by decide), fun _ => ?_⟩)
    refine k83_122 (fun _ _ _ _ h => h) ⟨fun q => absurd q (by rw [pk_us]; decide), fun _ => ?_⟩
    rw [← hQ]; exact ⟨fun _ => ⟨rfl, rfl⟩, fun z => by (rw [e] at z; cases z), fun z => by (rw [e] at z; cases z)⟩
  have out : ∀ e : ¬ (0 ≤ o ∧ o ≤ 7), sm_Go g 83 (sm_Fn g Q) 10 [.ref 35, .int (Int32.ofInt o), .int (Int32.ofInt d), .int (Int32.ofInt a), .int (Int32.ofInt b), .null, .null] [] M := fun e => by
    refine k83_10 (fun _ _ _ _ h => h) (k83_15 (fun _ _ _ _ h => h) ⟨fun _ => bad ?_ _, fun q => absurd q (by decide)⟩)
    unfold pt_ok
    by_cases z : 0 ≤ o
    · rw [decide_eq_false (show ¬ o ≤ 7 by omega)]; simp
    · rw [decide_eq_false z]; rfl
  refine sm_entry (Nat.le_of_ble_eq_true rfl) (Nat.le_of_ble_eq_true rfl) (k83_0 (fun _ _ _ _ h => h) ?_)
  rw [jn_0, jn_lt (by omega) (by omega) (by omega) (by omega), jn_le (by omega) (by omega) (by omega) (by omega)]
  refine ⟨fun q => out (by omega), fun q => ⟨fun q2 => ?_, fun q2 => out (by omega)⟩⟩
  have h7 : 0 ≤ o ∧ o ≤ 7 := by omega
  obtain ⟨D1, D2⟩ := pt_D h7 d
  obtain ⟨A1, A2⟩ := pt_A (o := o) a
  obtain ⟨B1, B2⟩ := pt_B (o := o) b
  have ok : pt_ok o d a b = ((!pf_rD o || pf_iv d) && (((!pf_rA o || pf_iv a) && (!decide (o = 5) || pf_il a)) && ((!pf_rB o || pf_iv b) && (!decide (o = 6) || pf_il b)))) := by
    unfold pt_ok
    rw [decide_eq_true h7.1, decide_eq_true h7.2, D1, A1, B1]; rfl
  -- the line is good
  have good : pt_ok o d a b = true → sm_Go g 83 (sm_Fn g Q) 95 [.ref 35, .int (Int32.ofInt o), .int (Int32.ofInt d), .int (Int32.ofInt a), .int (Int32.ofInt b), .int (Int32.ofInt 0), .null] [] M := fun e => by
    have ne : ¬ pt_ok o d a b = false := by rw [e]; decide
    refine k83_95 (fun _ _ _ _ h => h) (k83_96 (fun _ _ _ _ h => h) ⟨fun _ => ?_, fun q => absurd rfl q⟩)
    rw [hn, jn_eq (by omega) (by omega) (by omega) (by omega)]
    refine ⟨fun z => ?_, fun z => ?_⟩
    · refine k83_122 (fun _ _ _ _ h => h) ⟨fun _ => ?_, fun q => absurd (by rw [pk_us]; decide) q⟩
      generalize hM1 : sm_sI M 35 0 (Int32.ofInt 0) = M1
      have m6 : M1.1 35 6 = Int32.ofInt (ns : Int) := by rw [← hM1, sI_s, pk_un (by decide)]; exact hn
      have f204 : ∀ (x6 : Int32), sm_Go g 83 (sm_Fn g Q) 204 [.ref 35, .int (Int32.ofInt o), .int (Int32.ofInt d), .int (Int32.ofInt a), .int (Int32.ofInt b), .int (Int32.ofInt 0), .int x6] [.int (Int32.ofInt (pf_mt o 3 b)), .int (Int32.ofInt (pf_mt o 2 a)), .int (Int32.ofInt (pf_mt o 1 d)), .int (Int32.ofInt o), .int (Int32.ofInt (ns : Int)), .ref 35] M1 := fun x6 => by
        refine k83_204 (fun _ _ _ _ h => h) ?_
        rw [m6]
        refine sm_Sm_mono (c_set (a := (ns : Int)) (by omega)) (fun r M2 h2 => ?_)
        obtain ⟨rfl, h2⟩ := h2
        rw [show ((ns : Int)).toNat = ns by omega] at h2
        refine ⟨Or.inl rfl, ?_⟩
        have e6 : M2.1 35 6 = Int32.ofInt (ns : Int) := by rw [h2, st_o (by omega)]; exact m6
        rw [← hQ, pk_un (by decide), pk_us, e6, jn_add, show (ns : Int) + 1 = ((ns + 1 : Nat) : Int) by omega, h2, ← hM1]
        exact ⟨fun y => absurd y ne, fun _ y => absurd y (by omega), fun _ _ => ⟨rfl, rfl⟩⟩
      have f198 : pf_rB o = true ∨ o = 6 → ∀ (x6 : Int32), sm_Go g 83 (sm_Fn g Q) 198 [.ref 35, .int (Int32.ofInt o), .int (Int32.ofInt d), .int (Int32.ofInt a), .int (Int32.ofInt b), .int (Int32.ofInt 0), .int x6] [.int (Int32.ofInt (pf_mt o 2 a)), .int (Int32.ofInt (pf_mt o 1 d)), .int (Int32.ofInt o), .int (Int32.ofInt (ns : Int)), .ref 35] M1 := fun e x6 => by
        refine k83_198 (fun _ _ _ _ h => h) ?_
        have := f204 x6
        rw [B2, if_pos e] at this
        exact this
      have f185 : ∀ (x6 : Int32), sm_Go g 83 (sm_Fn g Q) 185 [.ref 35, .int (Int32.ofInt o), .int (Int32.ofInt d), .int (Int32.ofInt a), .int (Int32.ofInt b), .int (Int32.ofInt 0), .int x6] [.int (Int32.ofInt (pf_mt o 2 a)), .int (Int32.ofInt (pf_mt o 1 d)), .int (Int32.ofInt o), .int (Int32.ofInt (ns : Int)), .ref 35] M1 := fun x6 => by
        refine k83_185 (fun _ _ _ _ h => h) ?_
        rw [to, sm_z0, jn_eq (by omega) (by omega) (by omega) (by omega)]
        refine ⟨fun w => f198 (Or.inl (by rw [Bool.not_eq_false] at w; exact w)) x6, fun w => ⟨fun w2 => ?_, fun w2 => f198 (Or.inr w2) x6⟩⟩
        have := f204 x6
        rw [B2, if_neg (by rintro (y | y); rw [w] at y; cases y; exact w2 y)] at this
        exact this
      have f175 : ∀ num : Bool, (num = true ↔ (pf_rA o = true ∨ o = 0 ∨ o = 5)) → sm_Go g 83 (sm_Fn g Q) 175 [.ref 35, .int (Int32.ofInt o), .int (Int32.ofInt d), .int (Int32.ofInt a), .int (Int32.ofInt b), .int (Int32.ofInt 0), .int (sm_z num)] [.int (Int32.ofInt (pf_mt o 1 d)), .int (Int32.ofInt o), .int (Int32.ofInt (ns : Int)), .ref 35] M1 := fun num hnum => by
        refine k83_175 (fun _ _ _ _ h => h) ?_
        rw [sm_z0]
        have F := f185 (sm_z num)
        refine ⟨fun w => ?_, fun w => ?_⟩
        · rw [A2, if_neg (fun y => by rw [hnum.mpr y] at w; cases w)] at F; exact F
        · rw [Bool.not_eq_false] at w
          rw [A2, if_pos (hnum.mp w)] at F; exact F
      have f155 : ∀ num : Bool, (num = true ↔ (pf_rA o = true ∨ o = 0 ∨ o = 5)) → sm_Go g 83 (sm_Fn g Q) 155 [.ref 35, .int (Int32.ofInt o), .int (Int32.ofInt d), .int (Int32.ofInt a), .int (Int32.ofInt b), .int (Int32.ofInt 0), .null] [.int (sm_z num)] M1 := fun num hnum => by
        refine k83_155 (fun _ _ _ _ h => h) ?_
        rw [to, sm_z0, m6]
        have F := f175 num hnum
        refine ⟨fun w => ?_, fun w => ?_⟩
        · rw [D2, if_neg (by rw [w]; decide)] at F; exact F
        · rw [Bool.not_eq_false] at w
          rw [D2, if_pos w] at F; exact F
      have yes : (pf_rA o = true ∨ o = 0 ∨ o = 5) → sm_Go g 83 (sm_Fn g Q) 150 [.ref 35, .int (Int32.ofInt o), .int (Int32.ofInt d), .int (Int32.ofInt a), .int (Int32.ofInt b), .int (Int32.ofInt 0), .null] [] M1 := fun e => by
        refine k83_150 (fun _ _ _ _ h => h) ?_
        rw [sm_o1]; exact f155 true ⟨fun _ => e, fun _ => rfl⟩
      rw [to, sm_z0, jn_0, jn_eq (by omega) (by omega) (by omega) (by omega), jn_eq (by omega) (by omega) (by omega) (by omega)]
      refine ⟨fun w => yes (Or.inl (by rw [Bool.not_eq_false] at w; exact w)), fun w => ⟨fun w2 => yes (Or.inr (Or.inl w2)), fun w2 => ⟨fun w3 => ?_, fun w3 => yes (Or.inr (Or.inr w3))⟩⟩⟩
      rw [show Int32.ofInt 0 = sm_z false from sm_o0]
      have nn : ¬ (pf_rA o = true ∨ o = 0 ∨ o = 5) := by
        rintro (y | y | y)
        · rw [w] at y; cases y
        · exact w2 y
        · exact w3 y
      have F := f155 false ⟨fun y => absurd y (by decide), fun y => absurd y nn⟩
      rw [show Int32.ofInt 0 = sm_z false from sm_o0] at F
      exact F
    · refine k83_122 (fun _ _ _ _ h => h) ⟨fun q => absurd q (by rw [pk_us]; decide), fun _ => ?_⟩
      rw [← hQ]; exact ⟨fun y => absurd y ne, fun _ _ => ⟨rfl, rfl⟩, fun _ y => absurd (show ns = 16 by omega) y⟩
  -- the tests
  have f77 : ((!pf_rD o || pf_iv d) && (!pf_rA o || pf_iv a) && (!pf_rB o || pf_iv b) && (!decide (o = 5) || pf_il a)) = true → sm_Go g 83 (sm_Fn g Q) 77 [.ref 35, .int (Int32.ofInt o), .int (Int32.ofInt d), .int (Int32.ofInt a), .int (Int32.ofInt b), .int (Int32.ofInt 0), .null] [] M := fun e => by
    rw [Bool.and_eq_true, Bool.and_eq_true, Bool.and_eq_true] at e
    obtain ⟨⟨⟨e1, e2⟩, e3⟩, e4⟩ := e
    refine k83_77 (fun _ _ _ _ h => h) ?_
    rw [tb, sm_z0, jn_eq (by omega) (by omega) (by omega) (by omega)]
    refine ⟨fun w => good ?_, fun w => ⟨fun w2 => good ?_, fun w2 => bad ?_ _⟩⟩
    · rw [ok, e1, e2, e3, e4, decide_eq_false w]; rfl
    · rw [Bool.not_eq_false] at w2
      rw [ok, e1, e2, e3, e4, w2]; simp
    · rw [ok, w2, decide_eq_true w]; simp
  have f65 : ((!pf_rD o || pf_iv d) && (!pf_rA o || pf_iv a) && (!pf_rB o || pf_iv b)) = true → sm_Go g 83 (sm_Fn g Q) 65 [.ref 35, .int (Int32.ofInt o), .int (Int32.ofInt d), .int (Int32.ofInt a), .int (Int32.ofInt b), .int (Int32.ofInt 0), .null] [] M := fun e => by
    refine k83_65 (fun _ _ _ _ h => h) ?_
    rw [ta, sm_z0, jn_eq (by omega) (by omega) (by omega) (by omega)]
    refine ⟨fun w => f77 ?_, fun w => ⟨fun w2 => bad ?_ _, fun w2 => f77 ?_⟩⟩
    · rw [e, decide_eq_false w]; rfl
    · rw [ok, w2, decide_eq_true w]; simp
    · rw [Bool.not_eq_false] at w2
      rw [e, w2]; simp
  have f50 : ((!pf_rD o || pf_iv d) && (!pf_rA o || pf_iv a)) = true → sm_Go g 83 (sm_Fn g Q) 50 [.ref 35, .int (Int32.ofInt o), .int (Int32.ofInt d), .int (Int32.ofInt a), .int (Int32.ofInt b), .int (Int32.ofInt 0), .null] [] M := fun e => by
    refine k83_50 (fun _ _ _ _ h => h) ?_
    rw [to, tb, sm_z0, sm_z0]
    refine ⟨fun w => f65 ?_, fun w => ⟨fun w2 => bad ?_ _, fun w2 => f65 ?_⟩⟩
    · rw [e, w]; rfl
    · rw [Bool.not_eq_false] at w
      rw [ok, w, w2]; simp
    · rw [Bool.not_eq_false] at w2
      rw [e, w2]; simp
  have f36 : (!pf_rD o || pf_iv d) = true → sm_Go g 83 (sm_Fn g Q) 36 [.ref 35, .int (Int32.ofInt o), .int (Int32.ofInt d), .int (Int32.ofInt a), .int (Int32.ofInt b), .int (Int32.ofInt 0), .null] [] M := fun e => by
    refine k83_36 (fun _ _ _ _ h => h) ?_
    rw [to, ta, sm_z0, sm_z0]
    refine ⟨fun w => f50 ?_, fun w => ⟨fun w2 => bad ?_ _, fun w2 => f50 ?_⟩⟩
    · rw [e, w]; rfl
    · rw [Bool.not_eq_false] at w
      rw [ok, w, w2]; simp
    · rw [Bool.not_eq_false] at w2
      rw [e, w2]; simp
  refine k83_15 (fun _ _ _ _ h => h) ⟨fun q => absurd rfl q, fun _ => ?_⟩
  rw [to, td, sm_z0, sm_z0]
  refine ⟨fun w => f36 ?_, fun w => ⟨fun w2 => bad ?_ _, fun w2 => f36 ?_⟩⟩
  · rw [w]; rfl
  · rw [Bool.not_eq_false] at w
    rw [ok, w, w2]; rfl
  · rw [Bool.not_eq_false] at w2
    rw [w2]; simp
end
