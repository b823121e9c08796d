-- the class's checker
section
variable {g : sm_G} {M : sm_M}
theorem c_changeSets {k : Nat} (hk : k ≤ 6) {i : Nat} (hi : i < 48) {ns : Nat} (hns : ns ≤ 16) {Ls : Int → Int → Int} (hs : ∀ i : Nat, i < ns → sok (Ls i)) (hS : Ln ns (cd_l M 1) Ls) (hr : rok ns Ls k (cd_l M 3 i)) :
    sm_Sm g 6 [.ref 27, .ref 1, .ref 3, .int (Int32.ofInt (i : Int)), .int (Int32.ofInt (k : Int))] M (fun o M' => o = none ∧ (∀ p, p < 16 → ∀ u, u < 32 → b32 (M'.1 30 p) u = ck_tr k (cd_l M 3 i) (Ls (cd_l M 3 i 4) 1).toNat (fun p u => b32 (M.1 30 p) u) p u) ∧ (∀ p, p ≠ 30 → M'.1 p = M.1 p) ∧ M'.2 = M.2) := by
  have ti : (Int32.ofInt (i : Int)).toInt = i := jn_to (by omega) (by omega)
  have t0 : (Int32.ofInt 0).toInt = 0 := rfl
  have t1 : (Int32.ofInt 1).toInt = 1 := rfl
  have t2 : (Int32.ofInt 2).toInt = 2 := rfl
  have t4 : (Int32.ofInt 4).toInt = 4 := rfl
  obtain ⟨a1, a2, a3, a4, a5⟩ := rok_n hs hr
  have h09 := hr.1
  have lr := fun j => @cd_lr M 3 i j
  generalize hQ : (fun (o : Option Value) (M' : sm_M) => o = none ∧ (∀ p, p < 16 → ∀ u, u < 32 → b32 (M'.1 30 p) u = ck_tr k (cd_l M 3 i) (Ls (cd_l M 3 i 4) 1).toNat (fun p u => b32 (M.1 30 p) u) p u) ∧ (∀ p, p ≠ 30 → M'.1 p = M.1 p) ∧ M'.2 = M.2) = Q
  refine sm_entry (Nat.le_of_ble_eq_true rfl) (Nat.le_of_ble_eq_true rfl) ?_
  refine k6_0 (fun _ _ _ _ h => h) ?_
  rw [ti, t0, t1, t2, t4, cd_lt, cd_lt]
  have eS : cd_l M 3 i 0 ≤ 4 → cd_l M 1 (cd_l M 3 i 4) 1 = Ls (cd_l M 3 i 4) 1 := fun q => by
    have b := a5 (by omega)
    have := Ln_o hS (i := (cd_l M 3 i 4).toNat) (by omega) (j := 1) (by omega)
    rwa [show (((cd_l M 3 i 4).toNat : Nat) : Int) = cd_l M 3 i 4 by omega] at this
  generalize hl : cd_l M 3 i = l at *
  have l1 := lr 1
  have l2 := lr 2
  have l0 := lr 0
  have l4 := lr 4
  rw [jn_eq (by omega) (by omega) (by omega) (by omega), jn_eq (by omega) (by omega) (by omega) (by omega), jn_add]
  refine ⟨⟨by omega, by omega, by omega, by omega⟩, ⟨by omega, by omega, by omega, by omega⟩, ⟨by omega, by omega, by omega, by omega⟩, fun q8 => ⟨fun q9 => ?_, fun q9 => ?_⟩, fun q8 => ?_⟩
  · rw [sm_z0]
    refine ⟨fun q => ?_, fun q => ?_⟩
    · rw [← hQ]
      refine ⟨rfl, fun p hp u hu => ?_, fun _ _ => rfl, rfl⟩
      have n4 : ¬ l 0 ≤ 4 := fun z => by
        unfold pf_dv at q
        rw [decide_eq_true z] at q; cases q
      unfold ck_tr
      rw [if_neg q8, if_neg q9, if_neg n4]
    · rw [Bool.not_eq_false] at q
      have e4 : l 0 ≤ 4 := by
        unfold pf_dv at q
        simp only [Bool.or_eq_true, decide_eq_true_eq] at q
        omega
      have b1 := a1 (by omega)
      have b4 := a4 e4
      have b5 := a5 (by omega)
      rw [eS e4]
      refine ⟨⟨by omega, by omega, by omega, by omega⟩, ⟨by omega, by omega, by omega, by omega⟩, ?_⟩
      rw [show Ls (l 4) 1 = (((Ls (l 4) 1).toNat : Nat) : Int) by omega]
      have bit := b32_bit (Ls (l 4) 1).toNat (by omega)
      generalize hv : (Ls (l 4) 1).toNat = v at *
      generalize hx : Int32.ofInt 1 <<< (Int32.ofInt ((v : Nat) : Int) &&& 31) = x at *
      have loop : ∀ (d w : Nat) (M1 : sm_M), w + d = 16 → (∀ p, p < 16 → ∀ u, u < 32 → b32 (M1.1 30 p) u = (b32 (M.1 30 p) u && (!decide (p < w) || !decide (u = v)))) → (∀ p, p ≠ 30 → M1.1 p = M.1 p) → M1.2 = M.2 → sm_Go g 6 (sm_Fn g Q) 104 [.ref 27, .ref 1, .ref 3, .int (Int32.ofInt (i : Int)), .int (Int32.ofInt (k : Int)), .int (Int32.ofInt (l 0)), .int (Int32.ofInt (l 1)), .int (Int32.ofInt (l 2)), .int x, .int (Int32.ofInt (w : Int))] [] M1 := by
        intro d
        induction d with
        | zero =>
          intro w M1 hd h1 h2 h3
          have fin : ∀ y : Int32, (∀ u, u < 32 → b32 y u = (decide (u = v) || (decide (l 0 = 1) && (b32 (M.1 30 (l 2).toNat) u && !decide (u = v))))) → Q none (sm_sI M1 30 (l 1).toNat y) := fun y hy => by
            rw [← hQ]
            refine ⟨rfl, fun p hp u hu => ?_, fun p hp => by rw [sI_1 hp]; exact h2 p hp, h3⟩
            unfold ck_tr
            rw [if_neg q8, if_neg q9, if_pos e4, sI_s]
            by_cases c : (p : Int) = l 1
            · rw [if_pos c, show p = (l 1).toNat by omega, pk_us]; exact hy u hu
            · rw [if_neg c, pk_un (by omega), h1 p hp u hu, decide_eq_true (show p < w by omega)]; rfl
          refine k6_104 (fun _ _ _ _ h => h) ⟨fun _ => ?_, fun q => absurd ?_ q⟩
          · rw [jn_eq (by omega) (by omega) (by omega) (by omega), jn_cl (a := l 1) (by omega) (by omega), jn_cl (a := l 2) (by omega) (by omega)]
            have in1 : vp_in (Int32.ofInt (l 1)) 16 := by rw [jn_in (by omega) (by omega)]; omega
            refine ⟨fun c => ⟨in1, fin x (fun u hu => ?_)⟩, fun c => ?_⟩
            · rw [bit u hu, decide_eq_false c]; simp
            · have b2 := a2 c
              refine ⟨by rw [jn_in (by omega) (by omega)]; omega, in1, fin _ (fun u hu => ?_)⟩
              rw [b32_or, bit u hu, h1 _ (by omega) u hu, decide_eq_true c, decide_eq_true (show (l 2).toNat < w by omega), Bool.or_comm]; rfl
          · rw [jn_le (by omega) (by omega) (by omega) (by omega)]; omega
        | succ d ih =>
          intro w M1 hd h1 h2 h3
          have inw : vp_in (Int32.ofInt (w : Int)) 16 := by rw [jn_in (by omega) (by omega)]; omega
          refine k6_104 (fun _ _ _ _ h => h) ⟨fun q => ?_, fun _ => ⟨inw, inw, ?_⟩⟩
          · rw [jn_le (by omega) (by omega) (by omega) (by omega)] at q; omega
          rw [show (Int32.ofInt (w : Int)).toNatClampNeg = w by rw [jn_cl (by omega) (by omega)]; omega, jn_add, show (w : Int) + 1 = ((w + 1 : Nat) : Int) by omega]
          refine ih (w + 1) _ (by omega) (fun p hp u hu => ?_) (fun p hp => by rw [sI_1 hp]; exact h2 p hp) h3
          rw [sI_s]
          by_cases c : p = w
          · rw [c, pk_us, b32_and, b32_not _ hu, h1 w (by omega) u hu, bit u hu, decide_eq_false (show ¬ w < w by omega), decide_eq_true (show w < w + 1 by omega)]; simp
          · rw [pk_un c, h1 p hp u hu]
            congr 2
            rw [decide_eq_decide.mpr (show p < w ↔ p < w + 1 by omega)]
      exact loop 16 0 M (by omega) (fun p hp u hu => by simp) (fun _ _ => rfl) rfl
  · have b1 := a1 (by omega)
    have b3 := a3 (by omega)
    rw [jn_cl (a := (k : Int) + l 2) (by omega) (by omega), jn_cl (a := l 1) (by omega) (by omega)]
    refine ⟨by rw [jn_in (by omega) (by omega)]; omega, by rw [jn_in (by omega) (by omega)]; omega, ?_⟩
    rw [← hQ]
    refine ⟨rfl, fun p hp u hu => ?_, fun p hp => sI_1 hp, rfl⟩
    unfold ck_tr
    rw [if_neg q8, if_pos q9, sI_s]
    by_cases c : p = k + (l 2).toNat
    · rw [if_pos c, show p = ((k : Int) + l 2).toNat by omega, pk_us]
    · rw [if_neg c, pk_un (by omega)]
  · have b1 := a1 (by omega)
    have b3 := a3 (by omega)
    rw [jn_cl (a := (k : Int) + l 2) (by omega) (by omega), jn_cl (a := l 1) (by omega) (by omega)]
    refine ⟨by rw [jn_in (by omega) (by omega)]; omega, by rw [jn_in (by omega) (by omega)]; omega, ?_⟩
    rw [← hQ]
    refine ⟨rfl, fun p hp u hu => ?_, fun p hp => sI_1 hp, rfl⟩
    unfold ck_tr
    rw [if_pos q8, sI_s]
    by_cases c : (p : Int) = l 1
    · rw [if_pos c, show p = (l 1).toNat by omega, pk_us, show ((k : Int) + l 2).toNat = k + (l 2).toNat by omega]
    · rw [if_neg c, pk_un (by omega)]
/-- what an arrival does -/
def ca_post (M0 : sm_M) (t : Nat) (M' : sm_M) : Prop := (∀ c, c < 784 → M'.1 28 c = if c / 16 = t then M0.1 28 c &&& M0.1 30 (c % 16) else M0.1 28 c) ∧ M'.1 29 = upd (M0.1 29) t (Int32.ofInt 1) ∧ (∀ p, p ≠ 28 → p ≠ 29 → M'.1 p = M0.1 p) ∧ M'.2 = M0.2
theorem c_arrive {t : Nat} (ht : t ≤ 48) : sm_Sm g 7 [.ref 27, .int (Int32.ofInt (t : Int))] M (fun o M' => ca_post M t M' ∧ ∃ b : Bool, o = some (.int (sm_z b)) ∧ (b = false ↔ (¬ M.1 29 t = 0 ∧ ∀ p, p < 16 → M.1 28 (t * 16 + p) &&& M.1 30 p = M.1 28 (t * 16 + p)))) := by
  have int' : vp_in (Int32.ofInt (t : Int)) 49 := by rw [jn_in (by omega) (by omega)]; omega
  have clt : (Int32.ofInt (t : Int)).toNatClampNeg = t := by rw [jn_cl (by omega) (by omega)]; omega
  generalize hQ : (fun (o : Option Value) (M' : sm_M) => ca_post M t M' ∧ ∃ b : Bool, o = some (.int (sm_z b)) ∧ (b = false ↔ (¬ M.1 29 t = 0 ∧ ∀ p, p < 16 → M.1 28 (t * 16 + p) &&& M.1 30 p = M.1 28 (t * 16 + p)))) = Q
  have loop : ∀ (d w : Nat) (M1 : sm_M) (b : Bool), w + d = 16 → (∀ c, c < 784 → M1.1 28 c = if c / 16 = t ∧ c % 16 < w then M.1 28 c &&& M.1 30 (c % 16) else M.1 28 c) → M1.1 29 = upd (M.1 29) t (Int32.ofInt 1) → (∀ p, p ≠ 28 → p ≠ 29 → M1.1 p = M.1 p) → M1.2 = M.2 → (b = false ↔ (¬ M.1 29 t = 0 ∧ ∀ p, p < w → M.1 28 (t * 16 + p) &&& M.1 30 p = M.1 28 (t * 16 + p))) → sm_Go g 7 (sm_Fn g Q) 24 [.ref 27, .int (Int32.ofInt (t : Int)), .int (sm_z b), .int (Int32.ofInt (w : Int)), .null, .null] [] M1 := by
    intro d
    induction d with
    | zero =>
      intro w M1 b hd h1 h2 h3 h4 hb
      have ew : w = 16 := by omega
      subst ew
      refine k7_24 (fun _ _ _ _ h => h) ⟨fun _ => ⟨sm_zb _, ?_⟩, fun q => absurd ?_ q⟩
      · rw [← hQ]
        refine ⟨⟨fun c hc => ?_, h2, h3, h4⟩, b, rfl, hb⟩
        rw [h1 c hc]
        by_cases e : c / 16 = t
        · rw [if_pos ⟨e, by omega⟩, if_pos e]
        · rw [if_neg (fun z => e z.1), if_neg e]
      · rw [jn_le (by omega) (by omega) (by omega) (by omega)]; omega
    | succ d ih =>
      intro w M1 b hd h1 h2 h3 h4 hb
      have inx : vp_in (Int32.ofInt ((t : Int) * 16 + (w : Int))) 784 := by rw [jn_in (by omega) (by omega)]; omega
      have inw : vp_in (Int32.ofInt (w : Int)) 16 := by rw [jn_in (by omega) (by omega)]; omega
      have clx : (Int32.ofInt ((t : Int) * 16 + (w : Int))).toNatClampNeg = t * 16 + w := by rw [jn_cl (by omega) (by omega)]; omega
      have clw : (Int32.ofInt (w : Int)).toNatClampNeg = w := by rw [jn_cl (by omega) (by omega)]; omega
      have v28 : M1.1 28 (t * 16 + w) = M.1 28 (t * 16 + w) := by rw [h1 _ (by omega), if_neg (by omega)]
      have on : ∀ (b2 : Bool) (x2 : Int32), (b2 = false ↔ (¬ M.1 29 t = 0 ∧ ∀ p, p < w + 1 → M.1 28 (t * 16 + p) &&& M.1 30 p = M.1 28 (t * 16 + p))) → ∀ x4 x5 : Int32, sm_Go g 7 (sm_Fn g Q) 83 [.ref 27, .int (Int32.ofInt (t : Int)), .int x2, .int (Int32.ofInt (w : Int)), .int x4, .int x5] [.int (sm_z b2)] (sm_sI M1 28 (t * 16 + w) (M.1 28 (t * 16 + w) &&& M.1 30 w)) := by
        intro b2 x2 hb2 x4 x5
        refine k7_83 (fun _ _ _ _ h => h) ?_
        rw [jn_add, show (w : Int) + 1 = ((w + 1 : Nat) : Int) by omega]
        refine sm_wk (L := [.ref 27, .int (Int32.ofInt (t : Int)), .int (sm_z b2), .int (Int32.ofInt ((w + 1 : Nat) : Int)), .null, .null]) ⟨rfl, rfl, rfl, rfl, trivial⟩ (ih (w + 1) _ b2 (by omega) (fun c hc => ?_) ?_ (fun p p1 p2 => ?_) h4 hb2)
        · rw [sI_s]
          by_cases e : c = t * 16 + w
          · rw [e, pk_us, if_pos (by omega), show (t * 16 + w) % 16 = w by omega]
          · rw [pk_un e, h1 c hc]
            by_cases e2 : c / 16 = t ∧ c % 16 < w
            · rw [if_pos e2, if_pos (by omega)]
            · rw [if_neg e2, if_neg (by omega)]
        · rw [sI_1 (by decide)]; exact h2
        · rw [sI_1 p1]; exact h3 p p1 p2
      refine k7_24 (fun _ _ _ _ h => h) ⟨fun q => ?_, fun _ => ?_⟩
      · rw [jn_le (by omega) (by omega) (by omega) (by omega)] at q; omega
      rw [jn_mul, jn_add, clx, clw, v28, h3 30 (by decide) (by decide), sm_z0]
      refine ⟨inx, inw, inx, fun q => k7_78 (fun _ _ _ _ h => h) ?_, fun q => ⟨fun q2 => ?_, fun q2 => k7_78 (fun _ _ _ _ h => h) ?_⟩⟩
      · rw [sm_o1]
        refine on true _ ⟨fun z => by (cases z), fun z => absurd (hb.mpr ⟨z.1, fun p hp => z.2 p (by omega)⟩) q⟩ _ _
      · rw [sm_o0]
        have z := hb.mp q
        refine on false _ ⟨fun _ => ⟨z.1, fun p hp => ?_⟩, fun _ => rfl⟩ _ _
        by_cases e : p = w
        · rw [e]; exact q2
        · exact z.2 p (by omega)
      · rw [sm_o1]
        refine on true _ ⟨fun z => by (cases z), fun z => absurd (z.2 w (by omega)) q2⟩ _ _
  refine sm_entry (Nat.le_of_ble_eq_true rfl) (Nat.le_of_ble_eq_true rfl) ?_
  have start : ∀ b : Bool, (b = false ↔ ¬ M.1 29 t = 0) → sm_Go g 7 (sm_Fn g Q) 14 [.ref 27, .int (Int32.ofInt (t : Int)), .null, .null, .null, .null] [.int (sm_z b)] M := fun b hb => by
    refine k7_14 (fun _ _ _ _ h => h) ⟨Or.inr rfl, int', ?_⟩
    rw [clt]
    refine loop 16 0 _ b (by omega) (fun c hc => ?_) ?_ (fun p p1 p2 => ?_) rfl ⟨fun z => ⟨hb.mp z, fun p hp => absurd hp (by omega)⟩, fun z => hb.mpr z.1⟩
    · rw [sI_1 (by decide), if_neg (by omega)]
    · rw [sI_s]
    · rw [sI_1 p2]
  refine k7_0 (fun _ _ _ _ h => h) ⟨int', ?_⟩
  rw [clt]
  refine ⟨fun q => ?_, fun q => ?_⟩
  · rw [sm_o0]; exact start false ⟨fun _ => q, fun _ => rfl⟩
  · rw [sm_o1]; exact start true ⟨fun z => by (cases z), fun z => absurd q z⟩
-- what is still there to be taken out
def ch_b (M : sm_M) (t : Nat) : Bool := b32 (M.1 28 (t / 10)) (t % 10)
def ch_p (M : sm_M) : Nat := bct (ch_b M) 7840 + bct (fun i => decide (M.1 29 i = 0)) 49
def ch_in (M : sm_M) : Prop := ∀ c, c < 784 → ∀ u, 10 ≤ u → u < 32 → b32 (M.1 28 c) u = false
theorem ca_le {M0 M' : sm_M} {t : Nat} (ht : t ≤ 48) (h : ca_post M0 t M') (hin : ch_in M0) : ch_in M' ∧ ch_p M' ≤ ch_p M0 ∧ ((¬ M0.1 29 t = 0 ∧ ∀ p, p < 16 → M0.1 28 (t * 16 + p) &&& M0.1 30 p = M0.1 28 (t * 16 + p)) → (∀ c, c < 784 → M'.1 28 c = M0.1 28 c) ∧ ∀ i, ¬ M0.1 29 i = 0 ↔ ¬ M'.1 29 i = 0) ∧ (¬ (¬ M0.1 29 t = 0 ∧ ∀ p, p < 16 → M0.1 28 (t * 16 + p) &&& M0.1 30 p = M0.1 28 (t * 16 + p)) → ch_p M' < ch_p M0) := by
  obtain ⟨h1, h2, h3, h4⟩ := h
  have m1 : ∀ i, i < 7840 → ch_b M' i = true → ch_b M0 i = true := fun i hi hb => by
    unfold ch_b at *
    rw [h1 (i / 10) (by omega)] at hb
    by_cases e : i / 10 / 16 = t
    · rw [if_pos e, b32_and, Bool.and_eq_true] at hb; exact hb.1
    · rw [if_neg e] at hb; exact hb
  have m2 : ∀ i, i < 49 → decide (M'.1 29 i = 0) = true → decide (M0.1 29 i = 0) = true := fun i hi hb => by
    rw [decide_eq_true_eq] at *
    rw [h2] at hb
    by_cases e : i = t
    · rw [e, pk_us] at hb; exact absurd hb (by decide)
    · rw [pk_un e] at hb; exact hb
  refine ⟨fun c hc u u1 u2 => ?_, ?_, fun hz => ⟨fun c hc => ?_, fun i => ?_⟩, fun hz => ?_⟩
  · rw [h1 c hc]
    by_cases e : c / 16 = t
    · rw [if_pos e, b32_and, hin c hc u u1 u2]; rfl
    · rw [if_neg e]; exact hin c hc u u1 u2
  · have := bct_mono 7840 m1
    have := bct_mono 49 m2
    unfold ch_p; omega
  · rw [h1 c hc]
    by_cases e : c / 16 = t
    · rw [if_pos e]
      have := hz.2 (c % 16) (by omega)
      rw [show t * 16 + c % 16 = c by omega] at this
      exact this
    · rw [if_neg e]
  · rw [h2]
    by_cases e : i = t
    · rw [e, pk_us]
      exact ⟨fun _ => by decide, fun _ => hz.1⟩
    · rw [pk_un e]
  · have b1 := bct_mono 7840 m1
    have b2 := bct_mono 49 m2
    unfold ch_p
    by_cases c : M0.1 29 t = 0
    · have := bct_str (f := fun i => decide (M'.1 29 i = 0)) (h := fun i => decide (M0.1 29 i = 0)) (x := t) (decide_eq_true c) (decide_eq_false (by rw [h2, pk_us]; decide)) 49 (by omega) m2
      omega
    · have hne : ∃ p, p < 16 ∧ ¬ M0.1 28 (t * 16 + p) &&& M0.1 30 p = M0.1 28 (t * 16 + p) := by
        apply Classical.byContradiction
        intro hn
        exact hz ⟨c, fun p hp => Classical.byContradiction fun z => hn ⟨p, hp, z⟩⟩
      obtain ⟨p, hp, hne⟩ := hne
      have hu : ∃ u, u < 32 ∧ ¬ b32 (M0.1 28 (t * 16 + p) &&& M0.1 30 p) u = b32 (M0.1 28 (t * 16 + p)) u := by
        apply Classical.byContradiction
        intro hn
        exact hne (b32_ext fun u hu => Classical.byContradiction fun z => hn ⟨u, hu, z⟩)
      obtain ⟨u, u1, u2⟩ := hu
      have u10 : u < 10 := by
        apply Classical.byContradiction
        intro hn
        apply u2
        rw [b32_and, hin _ (by omega) u (by omega) u1]; rfl
      rw [b32_and] at u2
      have x1 : b32 (M0.1 28 (t * 16 + p)) u = true := by
        cases e : b32 (M0.1 28 (t * 16 + p)) u
        · rw [e] at u2; simp at u2
        · rfl
      have x2 : b32 (M0.1 30 p) u = false := by
        cases e : b32 (M0.1 30 p) u
        · rfl
        · rw [e, x1] at u2; simp at u2
      have := bct_str (f := ch_b M') (h := ch_b M0) (x := (t * 16 + p) * 10 + u) (by unfold ch_b; rw [show ((t * 16 + p) * 10 + u) / 10 = t * 16 + p by omega, show ((t * 16 + p) * 10 + u) % 10 = u by omega]; exact x1) (by unfold ch_b; rw [show ((t * 16 + p) * 10 + u) / 10 = t * 16 + p by omega, show ((t * 16 + p) * 10 + u) % 10 = u by omega, h1 _ (by omega), if_pos (by omega), show (t * 16 + p) % 16 = p by omega, b32_and, x2]; simp) 7840 (by omega) m1
      omega
end
