-- the class's checker, its passes
theorem ck_tr_c {ns k : Nat} {Ls : Int → Int → Int} {l : Int → Int} (hs : ∀ i : Nat, i < ns → sok (Ls i)) (h : rok ns Ls k l) {v : Nat} {nw nr : Nat → Nat → Bool} {u : Nat} (hn : ∀ p, p < k + 10 → nw p u = nr p u) {p : Nat} (hp : p < k + 10) : ck_tr k l v nw p u = ck_tr k l v nr p u := by
  obtain ⟨a1, a2, a3, a4, a5⟩ := rok_n hs h
  unfold ck_tr
  by_cases e8 : l 0 = 8
  · have b3 := a3 (by omega)
    rw [if_pos e8, if_pos e8, hn _ (by omega), hn p hp]
  · rw [if_neg e8, if_neg e8]
    by_cases e9 : l 0 = 9
    · have b1 := a1 (by omega)
      rw [if_pos e9, if_pos e9, hn (l 1).toNat (by omega), hn p hp]
    · rw [if_neg e9, if_neg e9]
      by_cases e4 : l 0 ≤ 4
      · rw [if_pos e4, if_pos e4, hn p hp]
        by_cases c1 : l 0 = 1
        · have b2 := a2 c1
          rw [hn (l 2).toNat (by omega)]
        · rw [decide_eq_false c1]; simp
      · rw [if_neg e4, if_neg e4, hn p hp]
theorem ck_me_c {n k : Nat} {t : Int} {nw nr : Nat → Nat → Bool} {X : kX} (hX : ∀ i p u, X.2 i p u = true → p < k + 10 ∧ u < 10) (h : ∀ p u, p < k + 10 → u < 10 → nw p u = nr p u) : ck_me n t nw X = ck_me n t nr X := by
  unfold ck_me
  by_cases c : t < n
  · rw [if_pos c, if_pos c]
    congr 1
    funext i p u
    cases e : X.2 i p u
    · rfl
    · obtain ⟨a, b⟩ := hX i p u e
      rw [h p u a b]
  · rw [if_neg c, if_neg c]
section
variable {g : sm_G}
def cx (n k : Nat) (M : sm_M) : kX := (fun i => decide (i < n) && decide (¬ M.1 29 i = 0), fun i p u => decide (i < n ∧ p < k + 10 ∧ u < 10) && b32 (M.1 28 (i * 16 + p)) u)
theorem cx_r {n k : Nat} {M : sm_M} (i p u : Nat) (h : (cx n k M).2 i p u = true) : p < k + 10 ∧ u < 10 := by
  have h : (decide (i < n ∧ p < k + 10 ∧ u < 10) && b32 (M.1 28 (i * 16 + p)) u) = true := h
  rw [Bool.and_eq_true, decide_eq_true_eq] at h
  exact h.1.2
theorem cx_me {n k : Nat} (hn : n ≤ 48) (hk : k ≤ 6) {M M' : sm_M} {t : Nat} {nw : Nat → Nat → Bool} (h : ca_post M t M') (hnw : ∀ p u, p < k + 10 → u < 10 → b32 (M.1 30 p) u = nw p u) : cx n k M' = ck_me n t nw (cx n k M) := by
  obtain ⟨h1, h2, h3, h4⟩ := h
  unfold ck_me
  by_cases c : (t : Int) < n
  · rw [if_pos c]
    unfold cx
    refine Prod.ext ?_ ?_
    · funext i
      show (decide (i < n) && decide (¬ M'.1 29 i = 0)) = (decide (i < n) && decide (¬ M.1 29 i = 0) || decide ((i : Int) = (t : Int)))
      rw [h2]
      by_cases e : i = t
      · rw [e, pk_us, decide_eq_true (show t < n by omega), decide_eq_true (show ((t : Nat) : Int) = (t : Int) from rfl), Bool.or_true]; rfl
      · rw [pk_un e, decide_eq_false (show ¬ (i : Int) = (t : Int) by omega), Bool.or_false]
    · funext i p u
      show (decide (i < n ∧ p < k + 10 ∧ u < 10) && b32 (M'.1 28 (i * 16 + p)) u) = ((decide (i < n ∧ p < k + 10 ∧ u < 10) && b32 (M.1 28 (i * 16 + p)) u) && (!decide ((i : Int) = (t : Int)) || nw p u))
      by_cases r : i < n ∧ p < k + 10 ∧ u < 10
      · rw [decide_eq_true r, h1 _ (by omega), show (i * 16 + p) / 16 = i by omega, show (i * 16 + p) % 16 = p by omega]
        by_cases e : i = t
        · rw [if_pos e, b32_and, hnw p u r.2.1 r.2.2, decide_eq_true (show (i : Int) = (t : Int) by omega)]; rfl
        · rw [if_neg e, decide_eq_false (show ¬ (i : Int) = (t : Int) by omega)]; simp
      · rw [decide_eq_false r]; rfl
  · rw [if_neg c]
    unfold cx
    refine Prod.ext ?_ ?_
    · funext i
      show (decide (i < n) && decide (¬ M'.1 29 i = 0)) = (decide (i < n) && decide (¬ M.1 29 i = 0))
      rw [h2]
      by_cases e : i = t
      · rw [decide_eq_false (show ¬ i < n by omega)]; rfl
      · rw [pk_un e]
    · funext i p u
      show (decide (i < n ∧ p < k + 10 ∧ u < 10) && b32 (M'.1 28 (i * 16 + p)) u) = (decide (i < n ∧ p < k + 10 ∧ u < 10) && b32 (M.1 28 (i * 16 + p)) u)
      by_cases r : i < n ∧ p < k + 10 ∧ u < 10
      · rw [h1 _ (by omega), if_neg (by omega)]
      · rw [decide_eq_false r]; rfl
/-- what the checker looks at -/
def ch_ok (ns : Nat) (Ls : Int → Int → Int) (n k : Nat) (L : Int → Int → Int) (M : sm_M) : Prop := (ns ≤ 16 ∧ n ≤ 48 ∧ k ≤ 6) ∧ (∀ i : Nat, i < ns → sok (Ls i)) ∧ Ln ns (cd_l M 1) Ls ∧ M.1 3 1 = Int32.ofInt (n : Int) ∧ Ln n (cd_l M 3) L ∧ ∀ i : Nat, i < n → rok ns Ls k (L i)
def ch_fr (M0 M : sm_M) : Prop := (∀ p, p ≠ 28 → p ≠ 29 → p ≠ 30 → M.1 p = M0.1 p) ∧ M.2 = M0.2
theorem ch_ok_c {ns : Nat} {Ls : Int → Int → Int} {n k : Nat} {L : Int → Int → Int} {M M' : sm_M} (h : ch_ok ns Ls n k L M) (h2 : M'.1 2 = M.1 2) (h3 : M'.1 3 = M.1 3) (h4 : M'.1 4 = M.1 4) : ch_ok ns Ls n k L M' := by
  unfold ch_ok Ln cd_l at *
  rw [h2, h3, h4]; exact h
theorem ck_tr_l {k v : Nat} {l l' : Int → Int} (h : ln_eq l l') : ck_tr k l v = ck_tr k l' v := by
  obtain ⟨e0, e1, e2, e3, e4⟩ := h
  funext nw p u
  unfold ck_tr
  rw [e0, e1, e2]
def same (M M' : sm_M) : Prop := (∀ c, c < 784 → M'.1 28 c = M.1 28 c) ∧ ∀ i, ¬ M.1 29 i = 0 ↔ ¬ M'.1 29 i = 0
theorem same_t {M M1 M2 : sm_M} (h : same M M1) (h' : same M1 M2) : same M M2 := ⟨fun c hc => by rw [h'.1 c hc, h.1 c hc], fun i => (h.2 i).trans (h'.2 i)⟩
theorem c_goOn {ns : Nat} {Ls : Int → Int → Int} {n k : Nat} {L : Int → Int → Int} {M0 : sm_M} (ho : ch_ok ns Ls n k L M0) (hin : ch_in M0) :
    sm_Sm g 5 [.ref 27, .ref 1, .ref 3, .int (Int32.ofInt (k : Int))] M0 (fun o M' => ∃ b : Bool, o = some (.int (sm_z b)) ∧ cx n k M' = ck_F n k L Ls n (cx n k M0) ∧ ch_in M' ∧ (b = true → ch_p M' < ch_p M0) ∧ (b = false → same M0 M') ∧ ch_fr M0 M') := by
  obtain ⟨⟨o1, o2, o3⟩, o4, o5, o6, o7, o8⟩ := ho
  generalize hQ : (fun (o : Option Value) (M' : sm_M) => ∃ b : Bool, o = some (.int (sm_z b)) ∧ cx n k M' = ck_F n k L Ls n (cx n k M0) ∧ ch_in M' ∧ (b = true → ch_p M' < ch_p M0) ∧ (b = false → same M0 M') ∧ ch_fr M0 M') = Q
  have loop : ∀ (d i : Nat) (M : sm_M) (b : Bool), i + d = n → cx n k M = ck_F n k L Ls i (cx n k M0) → ch_in M → ch_p M ≤ ch_p M0 → (b = true → ch_p M < ch_p M0) → (b = false → same M0 M) → ch_fr M0 M → sm_Go g 5 (sm_Fn g Q) 6 [.ref 27, .ref 1, .ref 3, .int (Int32.ofInt (k : Int)), .int (sm_z b), .int (Int32.ofInt (i : Int)), .null, .null] [] M := by
    intro d
    induction d with
    | zero =>
      intro i M b hd h1 h2 h3 h4 h5 h6
      have ei : i = n := by omega
      subst ei
      refine k5_6 (fun _ _ _ _ h => h) ⟨fun _ => ⟨sm_zb _, ?_⟩, fun q => absurd ?_ q⟩
      · rw [← hQ]; exact ⟨b, rfl, h1, h2, h4, h5, h6⟩
      · rw [h6.1 3 (by decide) (by decide) (by decide), o6, jn_le (by omega) (by omega) (by omega) (by omega)]; omega
    | succ d ih =>
      intro i M b hd h1 h2 h3 h4 h5 h6
      have ti : (Int32.ofInt (i : Int)).toInt = i := jn_to (by omega) (by omega)
      have cli : (Int32.ofInt (i : Int)).toNatClampNeg = i := by rw [jn_cl (by omega) (by omega)]; omega
      have eF : ck_F n k L Ls (i + 1) (cx n k M0) = ck_st n k L Ls i (cx n k M) := by rw [ck_F, ← h1]
      have on : ∀ (M2 : sm_M) (b2 : Bool), cx n k M2 = ck_st n k L Ls i (cx n k M) → ch_in M2 → ch_p M2 ≤ ch_p M0 → (b2 = true → ch_p M2 < ch_p M0) → (b2 = false → same M0 M2) → ch_fr M0 M2 → sm_Go g 5 (sm_Fn g Q) 99 [.ref 27, .ref 1, .ref 3, .int (Int32.ofInt (k : Int)), .int (sm_z b2), .int (Int32.ofInt (i : Int)), .null, .null] [] M2 := fun M2 b2 a1 a2 a3 a4 a5 a6 => by
        refine k5_99 (fun _ _ _ _ h => h) ?_
        rw [jn_add, show (i : Int) + 1 = ((i + 1 : Nat) : Int) by omega]
        exact ih (i + 1) M2 b2 (by omega) (by rw [a1, eF]) a2 a3 a4 a5 a6
      have rc : (cx n k M).1 i = decide (¬ M.1 29 i = 0) := by
        show (decide (i < n) && decide (¬ M.1 29 i = 0)) = _
        rw [decide_eq_true (show i < n by omega)]; rfl
      refine k5_6 (fun _ _ _ _ h => h) ⟨fun q => ?_, fun _ => ⟨by rw [jn_in (by omega) (by omega)]; omega, ?_⟩⟩
      · rw [h6.1 3 (by decide) (by decide) (by decide), o6, jn_le (by omega) (by omega) (by omega) (by omega)] at q; omega
      rw [cli, ti, jn_mul, jn_cl (a := (i : Int) * 16) (by omega) (by omega)]
      refine ⟨fun q => on M b ?_ h2 h3 h4 h5 h6, fun q => ⟨⟨?_, by decide, by decide, ?_, by decide⟩, ?_⟩⟩
      · unfold ck_st
        rw [rc, decide_eq_false (fun z => z q), if_neg (by decide)]
      · rw [jn_0, jn_lt (by omega) (by omega) (by omega) (by omega)]; omega
      · show ((i : Int) * 16).toNat + 16 ≤ 784; omega
      have e0 : (Int32.ofInt 0).toNatClampNeg = 0 := rfl
      have e16 : (Int32.ofInt 16).toNatClampNeg = 16 := rfl
      rw [e0, e16]
      generalize hM1 : sm_cI M 30 (va_cpy (M.1 28) (M.1 30) ((i : Int) * 16).toNat 0 16) = M1
      have m30 : ∀ p, p < 16 → M1.1 30 p = M.1 28 (i * 16 + p) := fun p hp => by
        rw [← hM1, cI_s]
        show (if _ ∧ _ then _ else _) = _
        rw [if_pos (by omega), show ((i : Int) * 16).toNat + (p - 0) = i * 16 + p by omega]
      have m1p : ∀ p, p ≠ 30 → M1.1 p = M.1 p := fun p hp => by rw [← hM1, cI_1 hp]
      have m12 : M1.2 = M.2 := by rw [← hM1]; rfl
      have eL1 : cd_l M1 3 = cd_l M0 3 := by funext a j; unfold cd_l; rw [m1p 4 (by decide), h6.1 4 (by decide) (by decide) (by decide)]
      have eS1 : cd_l M1 1 = cd_l M0 1 := by funext a j; unfold cd_l; rw [m1p 2 (by decide), h6.1 2 (by decide) (by decide) (by decide)]
      have li := o7 i (by omega)
      have ri : rok ns Ls k (cd_l M1 3 i) := by rw [eL1]; exact rok_c li (o8 i (by omega))
      refine sm_Sm_mono (c_changeSets o3 (by omega) o1 o4 (by rw [eS1]; exact o5) ri) (fun o M2 h' => ?_)
      obtain ⟨rfl, n1, n2, n3⟩ := h'
      rw [eL1, ck_tr_l li, show cd_l M0 3 i 4 = L i 4 from li.2.2.2.2] at n1
      have hnw : ∀ p u, p < k + 10 → u < 10 → b32 (M2.1 30 p) u = ck_tr k (L i) (Ls (L i 4) 1).toNat ((cx n k M).2 i) p u := fun p u hp hu => by
        rw [n1 p (by omega) u (by omega)]
        refine ck_tr_c o4 (o8 i (by omega)) (fun p hp => ?_) hp
        show b32 (M1.1 30 p) u = (decide (i < n ∧ p < k + 10 ∧ u < 10) && b32 (M.1 28 (i * 16 + p)) u)
        rw [m30 p (by omega), decide_eq_true ⟨by omega, hp, hu⟩]; rfl
      generalize hT : ck_tr k (L i) (Ls (L i 4) 1).toNat ((cx n k M).2 i) = nw at *
      have m2p : ∀ p, p ≠ 30 → M2.1 p = M.1 p := fun p hp => by rw [n2 p hp, m1p p hp]
      have cnk : ∀ M' : sm_M, M'.1 3 = M.1 3 → cd_n M' 3 = (n : Int) := fun M' h => by unfold cd_n; rw [h, h6.1 3 (by decide) (by decide) (by decide), o6, jn_to (by omega) (by omega)]
      have cdk : ∀ M' : sm_M, M'.1 4 = M.1 4 → cd_l M' 3 = cd_l M0 3 := fun M' h => by funext a j; unfold cd_l; rw [h, h6.1 4 (by decide) (by decide) (by decide)]
      have eon : ∀ M' : sm_M, M'.1 3 = M.1 3 → M'.1 4 = M.1 4 → cd_on M' 3 i = lv_on (L i) n i := fun M' a b => by rw [lv_won, cnk M' a, cdk M' b]; exact lv_on_c li.1 n i
      have eas : ∀ M' : sm_M, M'.1 3 = M.1 3 → M'.1 4 = M.1 4 → cd_as M' 3 i = lv_as (L i) n := fun M' a b => by rw [lv_was, cnk M' a, cdk M' b]; exact lv_as_c li.1 li.2.2.1 li.2.2.2.1 n
      have ron : 0 ≤ lv_on (L i) n i ∧ lv_on (L i) n i ≤ n := by unfold lv_on; split <;> omega
      have ras : 0 ≤ lv_as (L i) n ∧ lv_as (L i) n ≤ n := by
        have z := o8 i (by omega)
        unfold lv_as mw_cl
        split
        · rename_i q; have := z.2.2.1 q; split <;> omega
        · split
          · rename_i q; have := z.2.2.2.1 q; split <;> omega
          · omega
      have cx2 : cx n k M2 = cx n k M := by
        unfold cx
        rw [m2p 29 (by decide), m2p 28 (by decide)]
      have in2 : ch_in M2 := fun c hc u u1 u2 => by rw [m2p 28 (by decide)]; exact h2 c hc u u1 u2
      have p2 : ch_p M2 = ch_p M := by
        unfold ch_p
        rw [show ch_b M2 = ch_b M by unfold ch_b; rw [m2p 28 (by decide)], m2p 29 (by decide)]
      have s2 : same M M2 := ⟨fun c hc => by rw [m2p 28 (by decide)], fun t => by rw [m2p 29 (by decide)]⟩
      refine ⟨⟨by omega, by omega⟩, ?_⟩
      rw [eon M2 (m2p 3 (by decide)) (m2p 4 (by decide)), show lv_on (L i) n i = (((lv_on (L i) n i).toNat : Nat) : Int) by omega]
      refine sm_Sm_mono (c_arrive (t := (lv_on (L i) n i).toNat) (by omega)) (fun o M3 h3' => ?_)
      obtain ⟨a3, r3, rfl, hr3⟩ := h3'
      obtain ⟨in3, p3, q3, z3⟩ := ca_le (by omega) a3 in2
      have cx3 := cx_me o2 o3 a3 hnw
      rw [show (((lv_on (L i) n i).toNat : Nat) : Int) = lv_on (L i) n i by omega, cx2] at cx3
      have m3p : ∀ p, p ≠ 28 → p ≠ 29 → p ≠ 30 → M3.1 p = M.1 p := fun p x1 x2 x3 => by rw [a3.2.2.1 p x1 x2, m2p p x3]
      refine ⟨⟨by omega, by omega⟩, ?_⟩
      rw [eas M3 (m3p 3 (by decide) (by decide) (by decide)) (m3p 4 (by decide) (by decide) (by decide)), show lv_as (L i) n = (((lv_as (L i) n).toNat : Nat) : Int) by omega]
      refine sm_Sm_mono (c_arrive (t := (lv_as (L i) n).toNat) (by omega)) (fun o M4 h4' => ?_)
      obtain ⟨a4, r4, rfl, hr4⟩ := h4'
      obtain ⟨in4, p4, q4, z4⟩ := ca_le (by omega) a4 in3
      have cx4 := cx_me o2 o3 (nw := nw) a4 (fun p u hp hu => by rw [a3.2.2.1 30 (by decide) (by decide)]; exact hnw p u hp hu)
      rw [show (((lv_as (L i) n).toNat : Nat) : Int) = lv_as (L i) n by omega, cx3] at cx4
      have cx5 : cx n k M4 = ck_st n k L Ls i (cx n k M) := by
        rw [cx4]
        unfold ck_st
        rw [if_pos (by rw [rc, decide_eq_true q]), hT]
      have fr4 : ch_fr M0 M4 := ⟨fun p x1 x2 x3 => by rw [a4.2.2.1 p x1 x2, m3p p x1 x2 x3]; exact h6.1 p x1 x2 x3, by rw [a4.2.2.2, a3.2.2.2, n3, m12]; exact h6.2⟩
      have lt : ∀ {x : Bool} {P : Prop}, (x = false ↔ P) → x = true → ¬ P := fun h1 h2 h3 => by rw [h1.mpr h3] at h2; cases h2
      have yes : ch_p M4 < ch_p M0 → sm_Go g 5 (sm_Fn g Q) 92 [.ref 27, .ref 1, .ref 3, .int (Int32.ofInt (k : Int)), .int (sm_z b), .int (Int32.ofInt (i : Int)), .int (sm_z r3), .int (sm_z r4)] [] M4 := fun hlt => by
        refine k5_92 (fun _ _ _ _ h => h) (k5_97 (fun _ _ _ _ h => h) ?_)
        rw [sm_o1]
        refine sm_wk (L := [.ref 27, .ref 1, .ref 3, .int (Int32.ofInt (k : Int)), .int (sm_z true), .int (Int32.ofInt (i : Int)), .null, .null]) ⟨rfl, rfl, rfl, rfl, rfl, rfl, trivial⟩ (on M4 true cx5 in4 (by omega) (fun _ => hlt) (fun z => by cases z) fr4)
      show (_ → _) ∧ (_ → _)
      rw [sm_z0, sm_z0, sm_z0]
      refine ⟨fun x => yes ?_, fun x => ⟨fun x2 => yes ?_, fun x2 => ⟨fun x3 => ?_, fun x3 => yes ?_⟩⟩⟩
      · rw [Bool.not_eq_false] at x
        have := h4 x
        omega
      · rw [Bool.not_eq_false] at x2
        have := z3 (lt hr3 x2)
        omega
      · refine k5_97 (fun _ _ _ _ h => h) ?_
        rw [sm_o0]
        refine sm_wk (L := [.ref 27, .ref 1, .ref 3, .int (Int32.ofInt (k : Int)), .int (sm_z false), .int (Int32.ofInt (i : Int)), .null, .null]) ⟨rfl, rfl, rfl, rfl, rfl, rfl, trivial⟩ (on M4 false cx5 in4 (by omega) (fun z => by cases z) (fun _ => ?_) fr4)
        exact same_t (h5 x) (same_t s2 (same_t (q3 (hr3.mp x2)) (q4 (hr4.mp x3))))
      · rw [Bool.not_eq_false] at x3
        have := z4 (lt hr4 x3)
        omega
  refine sm_entry (Nat.le_of_ble_eq_true rfl) (Nat.le_of_ble_eq_true rfl) ?_
  exact k5_0 (fun _ _ _ _ h => h) (loop n 0 M0 false (by omega) rfl hin (Nat.le_refl _) (fun z => by cases z) (fun _ => ⟨fun _ _ => rfl, fun _ => Iff.rfl⟩) ⟨fun _ _ _ _ => rfl, rfl⟩)
theorem cx_same {n k : Nat} (hn : n ≤ 48) (hk : k ≤ 6) {M M' : sm_M} (h : same M M') : cx n k M' = cx n k M := by
  unfold cx
  refine Prod.ext ?_ ?_
  · funext i
    show (decide (i < n) && decide (¬ M'.1 29 i = 0)) = (decide (i < n) && decide (¬ M.1 29 i = 0))
    rw [decide_eq_decide.mpr (h.2 i)]
  · funext i p u
    show (decide (i < n ∧ p < k + 10 ∧ u < 10) && b32 (M'.1 28 (i * 16 + p)) u) = (decide (i < n ∧ p < k + 10 ∧ u < 10) && b32 (M.1 28 (i * 16 + p)) u)
    by_cases r : i < n ∧ p < k + 10 ∧ u < 10
    · rw [h.1 _ (by omega)]
    · rw [decide_eq_false r]; rfl
theorem sok_n {ns : Nat} {Ls : Int → Int → Int} (hs : ∀ i : Nat, i < ns → sok (Ls i)) {k : Nat} {l : Int → Int} (h : rok ns Ls k l) {j : Int} (hj : j = 2 ∨ j = 3) (hv : pf_hv (l 0) j = true) : (0 ≤ l j ∧ l j < k) ∧ (0 ≤ l 4 ∧ l 4 < ns) ∧ (0 ≤ Ls (l 4) j ∧ Ls (l 4) j < 10) := by
  obtain ⟨h0, h1, h2, h3, h4, h5⟩ := h
  have l8 : l 0 < 8 := by
    apply Classical.byContradiction
    intro hn
    have : l 0 = 8 ∨ l 0 = 9 := by omega
    rcases this with e | e <;> rcases hj with z | z <;> rw [e, z] at hv <;> exact absurd hv (by decide)
  obtain ⟨a1, a2, a3⟩ := h5 l8
  have hh := hs (l 4).toNat (by omega)
  rw [show (((l 4).toNat : Nat) : Int) = l 4 by omega] at hh
  exact ⟨h1 _ (stn_hv (by omega) hv), ⟨a1, a2⟩, hh.2.1 _ (stn_hv (by omega) (by rw [a3]; exact hv))⟩
theorem c_everyUse {ns : Nat} {Ls : Int → Int → Int} {n k : Nat} {L : Int → Int → Int} {M : sm_M} (ho : ch_ok ns Ls n k L M) : sm_Sm g 8 [.ref 27, .ref 1, .ref 3] M (sm_P (.int (sm_z (ck_a L Ls (cx n k M) n))) M) := by
  obtain ⟨⟨o1, o2, o3⟩, o4, o5, o6, o7, o8⟩ := ho
  generalize hQ : sm_P (.int (sm_z (ck_a L Ls (cx n k M) n))) M = Q
  have loop : ∀ (d i : Nat), i + d = n → ck_a L Ls (cx n k M) i = true → sm_Go g 8 (sm_Fn g Q) 2 [.ref 27, .ref 1, .ref 3, .int (Int32.ofInt (i : Int))] [] M := by
    intro d
    induction d with
    | zero =>
      intro i hd ha
      have ei : i = n := by omega
      subst ei
      refine k8_2 (fun _ _ _ _ h => h) ⟨fun _ => ⟨Or.inr rfl, ?_⟩, fun q => absurd ?_ q⟩
      · rw [← hQ, ha, ← sm_o1]; exact ⟨rfl, rfl⟩
      · rw [o6, jn_le (by omega) (by omega) (by omega) (by omega)]; omega
    | succ d ih =>
      intro i hd ha
      have ti : (Int32.ofInt (i : Int)).toInt = i := jn_to (by omega) (by omega)
      have t2 : (Int32.ofInt 2).toInt = 2 := rfl
      have t3 : (Int32.ofInt 3).toInt = 3 := rfl
      have t4 : (Int32.ofInt 4).toInt = 4 := rfl
      have cli : (Int32.ofInt (i : Int)).toNatClampNeg = i := by rw [jn_cl (by omega) (by omega)]; omega
      have on : ck_g L Ls (cx n k M) i = true → sm_Go g 8 (sm_Fn g Q) 53 [.ref 27, .ref 1, .ref 3, .int (Int32.ofInt (i : Int))] [] M := fun e => by
        refine k8_53 (fun _ _ _ _ h => h) ?_
        rw [jn_add, show (i : Int) + 1 = ((i + 1 : Nat) : Int) by omega]
        exact ih (i + 1) (by omega) (by rw [ck_a, ha, e]; rfl)
      have no : ck_g L Ls (cx n k M) i = false → Q (some (.int (Int32.ofInt 0))) M := fun e => by
        rw [← hQ]
        have : ck_a L Ls (cx n k M) n = false := by
          cases z : ck_a L Ls (cx n k M) n
          · rfl
          · have := ck_a_le d (i + 1) (by rw [show i + 1 + d = n by omega]; exact z)
            rw [ck_a, e, Bool.and_false] at this; cases this
        rw [this, ← sm_o0]; exact ⟨rfl, rfl⟩
      obtain ⟨e0, e1, e2, e3, e4⟩ := o7 i (by omega)
      have ri := o8 i (by omega)
      have rc : (cx n k M).1 i = decide (¬ M.1 29 i = 0) := by
        show (decide (i < n) && decide (¬ M.1 29 i = 0)) = _
        rw [decide_eq_true (show i < n by omega)]; rfl
      have lr4 := @cd_lr M 3 i 4
      have uh : ∀ j, (j = 2 ∨ j = 3) → cd_uh M i j = (!pf_hv (L i 0) j || (cx n k M).2 i (L i j).toNat (Ls (L i 4) j).toNat) := fun j hj => by
        have ej : cd_l M 3 i j = L i j := by rcases hj with z | z <;> subst z <;> assumption
        unfold cd_uh
        rw [e0, ej, e4]
        cases hv : pf_hv (L i 0) j
        · rfl
        · obtain ⟨b1, b2, b3⟩ := sok_n o4 ri hj hv
          have hS := Ln_o o5 (i := (L i 4).toNat) (by omega) (j := j) (by omega)
          rw [show (((L i 4).toNat : Nat) : Int) = L i 4 by omega] at hS
          rw [hS, bs_hbI (by omega), b32_64 _ (by omega)]
          show _ = (!true || (decide (i < n ∧ (L i j).toNat < k + 10 ∧ (Ls (L i 4) j).toNat < 10) && b32 (M.1 28 (i * 16 + (L i j).toNat)) (Ls (L i 4) j).toNat))
          rw [decide_eq_true ⟨by omega, by omega, by omega⟩, show ((i : Int) * 16 + L i j).toNat = i * 16 + (L i j).toNat by omega]
          simp
      have side : ∀ j : Int, (j = 2 ∨ j = 3) → pf_hv (cd_l M 3 i 0) j = true → (0 ≤ cd_l M 3 i j ∧ cd_l M 3 i j < 16) ∧ (0 ≤ cd_l M 3 i 4 ∧ cd_l M 3 i 4 < 48) := fun j hj hv => by
        have ej : cd_l M 3 i j = L i j := by rcases hj with z | z <;> subst z <;> assumption
        rw [e0] at hv
        obtain ⟨b1, b2, b3⟩ := sok_n o4 ri hj hv
        rw [ej, e4]; omega
      refine k8_2 (fun _ _ _ _ h => h) ⟨fun q => ?_, fun _ => ⟨by rw [jn_in (by omega) (by omega)]; omega, ?_⟩⟩
      · rw [o6, jn_le (by omega) (by omega) (by omega) (by omega)] at q; omega
      rw [cli, ti, t2, t3, t4, jn_eq (by omega) (by omega) (by omega) (by omega), e4, uh 2 (Or.inl rfl), uh 3 (Or.inr rfl), sm_z0, sm_z0]
      have g0 : ck_g L Ls (cx n k M) i = (!decide (¬ M.1 29 i = 0) || (decide (L i 4 < 0) || ((!pf_hv (L i 0) 2 || (cx n k M).2 i (L i 2).toNat (Ls (L i 4) 2).toNat) && (!pf_hv (L i 0) 3 || (cx n k M).2 i (L i 3).toNat (Ls (L i 4) 3).toNat)))) := by unfold ck_g; rw [rc]
      have l4 : L i 4 < 0 ↔ L i 4 = -1 := by
        have h4 := ri.2.2.2.2.1
        have h5 := ri.2.2.2.2.2
        by_cases c : 8 ≤ L i 0
        · have := (h4 c).2; omega
        · have := h5 (by omega); omega
      refine ⟨fun q => on ?_, fun q => ⟨⟨by omega, by omega, by omega, by omega⟩, fun q2 => on ?_, fun q2 => ⟨⟨by omega, by omega, by omega, fun hv => by have := side 2 (Or.inl rfl) hv; rw [e4] at this; exact this⟩, fun q3 => ⟨Or.inl rfl, no ?_⟩, fun q3 => ⟨⟨by omega, by omega, by omega, fun hv => by have := side 3 (Or.inr rfl) hv; rw [e4] at this; exact this⟩, fun q4 => on ?_, fun q4 => ⟨Or.inl rfl, no ?_⟩⟩⟩⟩⟩
      · rw [g0, decide_eq_false (fun z => z q)]; rfl
      · rw [g0, decide_eq_true (l4.mpr q2)]; simp
      · rw [g0, decide_eq_true q, decide_eq_false (fun z => q2 (l4.mp z)), q3]; rfl
      · rw [Bool.not_eq_false] at q3 q4
        rw [g0, q3, q4]; simp
      · rw [g0, decide_eq_true q, decide_eq_false (fun z => q2 (l4.mp z)), q4]; simp
  refine sm_entry (Nat.le_of_ble_eq_true rfl) (Nat.le_of_ble_eq_true rfl) ?_
  exact k8_0 (fun _ _ _ _ h => h) (loop n 0 (by omega) rfl)
/-- the answer of the checker -/
def ck_ans (n k : Nat) (L Ls : Int → Int → Int) (b : Bool) : Prop := ∃ m, ck_F n k L Ls n (ck_it n k L Ls m (ck_X0 n k)) = ck_it n k L Ls m (ck_X0 n k) ∧ b = ck_a L Ls (ck_it n k L Ls m (ck_X0 n k)) n
theorem ck_ans_un {n k : Nat} {L Ls : Int → Int → Int} {a b : Bool} (ha : ck_ans n k L Ls a) (hb : ck_ans n k L Ls b) : a = b := by
  obtain ⟨m1, h1, e1⟩ := ha
  obtain ⟨m2, h2, e2⟩ := hb
  rw [e1, e2, ck_un h1 h2]
theorem c_agrees {ns : Nat} {Ls : Int → Int → Int} {n k : Nat} {L : Int → Int → Int} {M0 : sm_M} (ho : ch_ok ns Ls n k L M0) : sm_Sm g 4 [.ref 27, .ref 1, .ref 3, .int (Int32.ofInt (k : Int))] M0 (fun o M' => (∃ b : Bool, o = some (.int (sm_z b)) ∧ ck_ans n k L Ls b) ∧ ch_fr M0 M') := by
  have ho' := ho
  obtain ⟨⟨o1, o2, o3⟩, o4, o5, o6, o7, o8⟩ := ho
  generalize hQ : (fun (o : Option Value) (M' : sm_M) => (∃ b : Bool, o = some (.int (sm_z b)) ∧ ck_ans n k L Ls b) ∧ ch_fr M0 M') = Q
  have okf : ∀ {M : sm_M}, ch_fr M0 M → ch_ok ns Ls n k L M := fun h => ch_ok_c ho' (h.1 2 (by decide) (by decide) (by decide)) (h.1 3 (by decide) (by decide) (by decide)) (h.1 4 (by decide) (by decide) (by decide))
  have fin : ∀ (M : sm_M) (m : Nat) (x4 x5 : Int32), ch_fr M0 M → cx n k M = ck_it n k L Ls m (ck_X0 n k) → ck_F n k L Ls n (cx n k M) = cx n k M → sm_Go g 4 (sm_Fn g Q) 77 [.ref 27, .ref 1, .ref 3, .int (Int32.ofInt (k : Int)), .int x4, .int x5] [] M := by
    intro M m x4 x5 hf hm hfix
    refine k4_77 (fun _ _ _ _ h => h) (sm_Sm_mono (c_everyUse (okf hf)) (fun o M1 h1 => ?_))
    obtain ⟨rfl, rfl⟩ := h1
    refine ⟨sm_zb _, ?_⟩
    rw [← hQ]
    refine ⟨⟨_, rfl, m, ?_, ?_⟩, hf⟩
    · rw [← hm]; exact hfix
    · rw [hm]
  have loop : ∀ (P m : Nat) (M : sm_M), ch_p M ≤ P → m + P ≤ 7889 → ch_in M → ch_fr M0 M → cx n k M = ck_it n k L Ls m (ck_X0 n k) → sm_Go g 4 (sm_Fn g Q) 49 [.ref 27, .ref 1, .ref 3, .int (Int32.ofInt (k : Int)), .int (Int32.ofInt 1), .int (Int32.ofInt (m : Int))] [] M := by
    intro P
    induction P with
    | zero =>
      intro m M hp hm hi hf hc
      refine k4_49 (fun _ _ _ _ h => h) ⟨fun q => ?_, fun _ => ⟨fun q => absurd q (by decide), fun _ => ?_⟩⟩
      · rw [jn_le (by omega) (by omega) (by omega) (by omega)] at q; omega
      refine sm_Sm_mono (c_goOn (okf hf) hi) (fun o M1 h1 => ?_)
      obtain ⟨b, rfl, a1, a2, a3, a4, a5⟩ := h1
      cases b with
      | true => have := a3 rfl; omega
      | false =>
        have sm := a4 rfl
        have ec := cx_same o2 o3 sm
        have hf1 : ch_fr M0 M1 := ⟨fun p x1 x2 x3 => by rw [a5.1 p x1 x2 x3]; exact hf.1 p x1 x2 x3, by rw [a5.2, hf.2]⟩
        have F := fun x4 x5 => fin M1 m x4 x5 hf1 (by rw [ec]; exact hc) (by rw [ec, ← a1]; exact ec)
        exact k4_49 (fun _ _ _ _ h => h) ⟨fun _ => F _ _, fun _ => ⟨fun _ => F _ _, fun q => absurd rfl q⟩⟩
    | succ P ih =>
      intro m M hp hm hi hf hc
      refine k4_49 (fun _ _ _ _ h => h) ⟨fun q => ?_, fun _ => ⟨fun q => absurd q (by decide), fun _ => ?_⟩⟩
      · rw [jn_le (by omega) (by omega) (by omega) (by omega)] at q; omega
      refine sm_Sm_mono (c_goOn (okf hf) hi) (fun o M1 h1 => ?_)
      obtain ⟨b, rfl, a1, a2, a3, a4, a5⟩ := h1
      have hf1 : ch_fr M0 M1 := ⟨fun p x1 x2 x3 => by rw [a5.1 p x1 x2 x3]; exact hf.1 p x1 x2 x3, by rw [a5.2, hf.2]⟩
      cases b with
      | true =>
        have := a3 rfl
        show sm_Go g 4 _ 49 _ _ _
        rw [← sm_o1, jn_add, show (m : Int) + 1 = ((m + 1 : Nat) : Int) by omega]
        exact ih (m + 1) M1 (by omega) (by omega) a2 hf1 (by rw [a1, hc]; rfl)
      | false =>
        have sm := a4 rfl
        have ec := cx_same o2 o3 sm
        have F := fun x4 x5 => fin M1 m x4 x5 hf1 (by rw [ec]; exact hc) (by rw [ec, ← a1]; exact ec)
        exact k4_49 (fun _ _ _ _ h => h) ⟨fun _ => F _ _, fun _ => ⟨fun _ => F _ _, fun q => absurd rfl q⟩⟩
  have loop0 : ∀ (d w : Nat) (M : sm_M), w + d = 49 → (∀ c, c < 784 → M.1 28 c = Int32.ofInt 1023) → (∀ i, i < w → M.1 29 i = sm_z (decide (i = 0))) → ch_fr M0 M → sm_Go g 4 (sm_Fn g Q) 13 [.ref 27, .ref 1, .ref 3, .int (Int32.ofInt (k : Int)), .int (Int32.ofInt (w : Int)), .null] [] M := by
    intro d
    induction d with
    | zero =>
      intro w M hd h1 h2 hf
      refine k4_13 (fun _ _ _ _ h => h) ⟨fun _ => ?_, fun q => absurd ?_ q⟩
      · refine loop 7889 0 M ?_ (by omega) (fun c hc u u1 u2 => by rw [h1 c hc, b32_1023 u u2, decide_eq_false (by omega)]) hf ?_
        · unfold ch_p
          have a := bct_le (ch_b M) 7840
          have b := bct_le (fun i => decide (M.1 29 i = 0)) 49
          omega
        · show cx n k M = ck_X0 n k
          unfold cx ck_X0
          refine Prod.ext ?_ ?_
          · funext i
            show (decide (i < n) && decide (¬ M.1 29 i = 0)) = (decide (i < n) && decide (i = 0))
            by_cases r : i < n
            · rw [decide_eq_true r, h2 i (by omega), Bool.true_and, Bool.true_and]
              by_cases c : i = 0
              · rw [decide_eq_true c]; rfl
              · rw [decide_eq_false c]; rfl
            · rw [decide_eq_false r]; rfl
          · funext i p u
            show (decide (i < n ∧ p < k + 10 ∧ u < 10) && b32 (M.1 28 (i * 16 + p)) u) = decide (i < n ∧ p < k + 10 ∧ u < 10)
            by_cases r : i < n ∧ p < k + 10 ∧ u < 10
            · rw [decide_eq_true r, h1 _ (by omega), b32_1023 u (by omega), decide_eq_true r.2.2]; rfl
            · rw [decide_eq_false r]; rfl
      · rw [jn_lt (by omega) (by omega) (by omega) (by omega)]; omega
    | succ d ih =>
      intro w M hd h1 h2 hf
      have clw : (Int32.ofInt (w : Int)).toNatClampNeg = w := by rw [jn_cl (by omega) (by omega)]; omega
      have f36 : ∀ b : Bool, b = decide (w = 0) → sm_Go g 4 (sm_Fn g Q) 36 [.ref 27, .ref 1, .ref 3, .int (Int32.ofInt (k : Int)), .int (Int32.ofInt (w : Int)), .null] [.int (sm_z b), .int (Int32.ofInt (w : Int)), .ref 29] M := fun b hb => by
        refine k4_36 (fun _ _ _ _ h => h) ⟨sm_zb _, by rw [jn_in (by omega) (by omega)]; omega, ?_⟩
        rw [clw, jn_add, show (w : Int) + 1 = ((w + 1 : Nat) : Int) by omega]
        refine ih (w + 1) _ (by omega) (fun c hc => by rw [sI_1 (by decide)]; exact h1 c hc) (fun i hi => ?_) ⟨fun p x1 x2 x3 => by rw [sI_1 x2]; exact hf.1 p x1 x2 x3, hf.2⟩
        rw [sI_s]
        by_cases e : i = w
        · rw [e, pk_us, hb]
        · rw [pk_un e]; exact h2 i (by omega)
      refine k4_13 (fun _ _ _ _ h => h) ⟨fun q => ?_, fun _ => ?_⟩
      · rw [jn_lt (by omega) (by omega) (by omega) (by omega)] at q; omega
      rw [jn_0, jn_eq (by omega) (by omega) (by omega) (by omega)]
      refine ⟨fun q => ?_, fun q => ?_⟩
      · rw [sm_o0]; exact f36 false (decide_eq_false (by omega)).symm
      · rw [sm_o1]; exact f36 true (decide_eq_true (by omega)).symm
  refine sm_entry (Nat.le_of_ble_eq_true rfl) (Nat.le_of_ble_eq_true rfl) ?_
  refine k4_0 (fun _ _ _ _ h => h) (sm_Sm_mono (c_fillI (q := 28) (n := 784) (by unfold fi_ok; omega) _) (fun o1 M1 h1 => ?_))
  obtain ⟨rfl, rfl⟩ := h1
  refine loop0 49 0 _ (by omega) (fun c hc => ?_) (fun i hi => absurd hi (by omega)) ⟨fun p x1 x2 x3 => cI_1 x1, rfl⟩
  rw [cI_s, fl_n, if_pos hc]
end
