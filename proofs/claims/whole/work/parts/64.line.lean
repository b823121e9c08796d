-- line, shown, run
theorem has_l {n : Nat} (hn : n ≤ 48) {a : Int} (r1 : -2147483648 ≤ a ∧ a < 2147483648) : (decide (¬ Int32.ofInt 1 = (0 : Int32)) && (decide (¬ Int32.ofInt a < (0 : Int32)) && decide (¬ Int32.ofInt (n : Int) ≤ Int32.ofInt a))) = decide (0 ≤ a ∧ a < (n : Int)) := by
  have c1 : decide (¬ Int32.ofInt 1 = (0 : Int32)) = true := by decide
  have c2 : decide (¬ Int32.ofInt a < (0 : Int32)) = decide (0 ≤ a) := decide_eq_decide.mpr (by rw [jn_0, jn_lt (by omega) (by omega) (by omega) (by omega)]; omega)
  have c3 : decide (¬ Int32.ofInt (n : Int) ≤ Int32.ofInt a) = decide (a < n) := decide_eq_decide.mpr (by rw [jn_le (by omega) (by omega) (by omega) (by omega)]; omega)
  rw [c1, c2, c3, Bool.true_and, ← Bool.decide_and]
section
variable {g : sm_G} {M : sm_M}
theorem q_line (h : INV M) {x1 x2 : Int32} {Fi : sm_F} (hF : ∀ below args s t, MQ below (sm_Qc g (i_ret g 107 [.int x1, .int x2])) args s 0 0 (sm_A g) t → Fi below args s t)
    (t1 : i_thr g 107 [.int x1, .int x2] M 1 → sm_Go g 56 Fi 17 [.ref 0, .int x1, .int x2] [] M) : sm_Go g 56 Fi 0 [.ref 0, .int x1, .int x2] [] M := by
  have h' := h
  obtain ⟨ns, Ls, ⟨s1, s2, s3, s4, s5, s6⟩, r, m⟩ := h
  have e1 : x1 = Int32.ofInt x1.toInt := (jn_self x1).symm
  have e2 : x2 = Int32.ofInt x2.toInt := (jn_self x2).symm
  have r1 : -2147483648 ≤ x1.toInt ∧ x1.toInt < 2147483648 := ⟨x1.le_toInt, x1.toInt_lt⟩
  have r2 : -2147483648 ≤ x2.toInt ∧ x2.toInt < 2147483648 := ⟨x2.le_toInt, x2.toInt_lt⟩
  generalize x1.toInt = a at *
  generalize x2.toInt = b at *
  subst e1 e2
  have ta : (Int32.ofInt a).toInt = a := jn_to r1.1 r1.2
  have tb : (Int32.ofInt b).toInt = b := jn_to r2.1 r2.2
  have c4 : Int32.ofInt b < (0 : Int32) ↔ b < 0 := by rw [jn_0, jn_lt (by omega) (by omega) (by omega) (by omega)]
  -- the reference's exception
  have thr : ∀ (e : ¬ (∃ n : Nat, M.1 35 24 = Int32.ofInt 1 ∧ n ≤ 48 ∧ M.1 35 7 = Int32.ofInt (n : Int) ∧ 0 ≤ a ∧ a < n ∧ 0 ≤ b ∧ b < 5)), i_thr g 107 [.int (Int32.ofInt a), .int (Int32.ofInt b)] M 1 := fun e => by
    have f23 : sm_Go g 107 (sm_Fn g (fun o2 M2 => (∃ r, o2 = some (.int r)) ∧ M2.1 35 0 = Int32.ofInt 1 ∧ INV M2)) 18 [.ref 35, .int (Int32.ofInt a), .int (Int32.ofInt b), .null] [.ref 35] M := by
      refine k107_18 (fun _ _ _ _ h => h) (k107_23 (fun _ _ _ _ h => h) ⟨fun q => absurd q (by rw [pk_us]; decide), fun _ => ⟨⟨_, rfl⟩, by rw [sI_s, pk_us], INV_0 h' _⟩⟩)
    refine sm_entry (Nat.le_of_ble_eq_true rfl) (Nat.le_of_ble_eq_true rfl) (k107_0 (fun _ _ _ _ h => h) ?_)
    rcases r with ⟨q1, q2⟩ | ⟨q1, q2, n, k, L, a1, a2, a3, -⟩
    · rw [q2, sm_z0]
      exact ⟨fun _ => f23, fun q => absurd rfl q⟩
    · rw [q2, a3, sm_z0, has_l a1.1 r1, c4, jn_le (by omega) (by omega) (by omega) (by omega)]
      refine ⟨fun _ => f23, fun q => ⟨fun _ => f23, fun q5 => ⟨fun q6 => ?_, fun _ => f23⟩⟩⟩
      rw [Bool.not_eq_false, decide_eq_true_eq] at q
      exact absurd ⟨n, q2, a1.1, a3, by omega, by omega, by omega, by omega⟩ e
  refine k56_0 hF ?_
  rcases r with ⟨q1, q2⟩ | ⟨q1, q2, n, k, L, a1, a2, a3, a4, a5, -⟩
  · rw [q1, sm_z0]
    refine ⟨fun _ => t1 (thr ?_), fun q => absurd rfl q⟩
    rintro ⟨n, z, -⟩
    rw [q2] at z; exact absurd z (by decide)
  · have no : ¬ (0 ≤ a ∧ a < n ∧ 0 ≤ b ∧ b < 5) → sm_Go g 56 Fi 17 [.ref 0, .int (Int32.ofInt a), .int (Int32.ofInt b)] [] M := fun e => t1 (thr (by
      rintro ⟨n2, -, z2, z3, z⟩
      rw [a3, jn_eq (by omega) (by omega) (by omega) (by omega)] at z3
      exact e (by omega)))
    rw [q1, a2, sm_z0, has_l a1.1 r1, c4, jn_lt (by omega) (by omega) (by omega) (by omega), ta, tb]
    refine ⟨fun q => no ?_, fun q => ⟨fun q5 => no (by omega), fun q5 => ⟨fun q6 => ?_, fun q6 => no (by omega)⟩⟩⟩
    · intro z
      rw [decide_eq_true (show 0 ≤ a ∧ a < (n : Int) by omega)] at q; cases q
    · rw [Bool.not_eq_false, decide_eq_true_eq] at q
      refine ⟨⟨by omega, by omega, by omega, by omega⟩, _, rfl, ?_⟩
      have ea : ((a.toNat : Nat) : Int) = a := by omega
      obtain ⟨l0, l1, l2, l3, l4⟩ := rL_at a5 (i := a.toNat) (by omega)
      rw [ea] at l0 l1 l2 l3 l4
      have cl : cd_l M 3 a b = L a b := by have := Ln_o a4 (i := a.toNat) (by omega) (j := b) (by omega); rwa [ea] at this
      rw [cl]
      have ix : vp_in (Int32.ofInt (16 + a)) 112 := by rw [jn_in (by omega) (by omega)]; omega
      have clx : (Int32.ofInt (16 + a)).toNatClampNeg = 16 + a.toNat := by rw [jn_cl (by omega) (by omega)]; omega
      have eb : ∀ x : Int32, (∀ j : Int, j = b → x = Int32.ofInt (L a j)) → x = Int32.ofInt (L a b) := fun x hx => hx b rfl
      refine sm_entry (Nat.le_of_ble_eq_true rfl) (Nat.le_of_ble_eq_true rfl) (k107_0 (fun _ _ _ _ h => h) ?_)
      rw [q2, a3, sm_z0, has_l a1.1 r1, c4, jn_le (by omega) (by omega) (by omega) (by omega)]
      refine ⟨fun z => ?_, fun _ => ⟨fun z => by omega, fun _ => ⟨fun _ => ?_, fun z => by omega⟩⟩⟩
      · rw [decide_eq_true (show 0 ≤ a ∧ a < (n : Int) by omega)] at z; cases z
      refine k107_23 (fun _ _ _ _ h => h) ⟨fun _ => ?_, fun z => absurd (by rw [pk_us]; decide) z⟩
      have c0 : Int32.ofInt b = (0 : Int32) ↔ b = 0 := by rw [jn_0, jn_eq (by omega) (by omega) (by omega) (by omega)]
      rw [c0, jn_eq (by omega) (by omega) (by omega) (by omega), jn_eq (by omega) (by omega) (by omega) (by omega), jn_eq (by omega) (by omega) (by omega) (by omega), jn_add, clx, l0, l1, l2, l3, l4]
      have fin : ∀ j : Int, b = j → (some (Value.int (Int32.ofInt (L a j))) = some (.int (Int32.ofInt (L a b))) ∧ (sm_sI M 35 0 (Int32.ofInt 0)).1 35 0 = Int32.ofInt 0 ∧ INV (sm_sI M 35 0 (Int32.ofInt 0))) := fun j hj => by
        rw [hj]; exact ⟨rfl, by rw [sI_s, pk_us], INV_0 h' _⟩
      exact ⟨fun z0 => ⟨fun z1 => ⟨fun z2 => ⟨fun z3 => ⟨ix, fin 4 (by omega)⟩, fun z3 => ⟨ix, fin 3 z3⟩⟩, fun z2 => ⟨ix, fin 2 z2⟩⟩, fun z1 => ⟨ix, fin 1 z1⟩⟩, fun z0 => ⟨ix, fin 0 z0⟩⟩
theorem q_shown (h : INV M) {x1 : Int32} {Fi : sm_F} (hF : ∀ below args s t, MQ below (sm_Qc g (i_ret g 118 [.int x1])) args s 0 0 (sm_A g) t → Fi below args s t)
    (t1 : i_thr g 118 [.int x1] M 1 → sm_Go g 62 Fi 15 [.ref 0, .int x1] [] M) : sm_Go g 62 Fi 0 [.ref 0, .int x1] [] M := by
  have h' := h
  obtain ⟨ns, Ls, -, -, m1, m2, m3, m4, m5⟩ := h
  have e1 : x1 = Int32.ofInt x1.toInt := (jn_self x1).symm
  have r1 : -2147483648 ≤ x1.toInt ∧ x1.toInt < 2147483648 := ⟨x1.le_toInt, x1.toInt_lt⟩
  generalize x1.toInt = a at *
  subst e1
  have eo : M.1 31 3 = Int32.ofInt (M.1 31 3).toInt := (jn_self _).symm
  have ro : (M.1 31 3).toInt < 2147483648 := Int32.toInt_lt _
  generalize (M.1 31 3).toInt = oc at *
  have eo2 : M.1 35 33 = Int32.ofInt oc := by rw [← m1]; exact eo
  have c2 : Int32.ofInt a < (0 : Int32) ↔ a < 0 := by rw [jn_0, jn_lt (by omega) (by omega) (by omega) (by omega)]
  have thr : ¬ (0 ≤ a ∧ a < oc ∧ a < 20) → i_thr g 118 [.int (Int32.ofInt a)] M 1 := fun e => by
    have f19 : sm_Go g 118 (sm_Fn g (fun o2 M2 => (∃ r, o2 = some (.int r)) ∧ M2.1 35 0 = Int32.ofInt 1 ∧ INV M2)) 19 [.ref 35, .int (Int32.ofInt a)] [.ref 35] M := k118_19 (fun _ _ _ _ h => h) (k118_24 (fun _ _ _ _ h => h) ⟨fun q => absurd q (by rw [pk_us]; decide), fun _ => ⟨⟨_, rfl⟩, by rw [sI_s, pk_us], INV_0 h' _⟩⟩)
    refine sm_entry (Nat.le_of_ble_eq_true rfl) (Nat.le_of_ble_eq_true rfl) (k118_0 (fun _ _ _ _ h => h) ?_)
    rw [c2, eo2, jn_le (by omega) (by omega) (by omega) (by omega), jn_lt (by omega) (by omega) (by omega) (by omega)]
    exact ⟨fun _ => f19, fun q => ⟨fun _ => f19, fun q2 => ⟨fun q3 => absurd (by omega) e, fun _ => f19⟩⟩⟩
  have ek : (if Int32.ofInt 20 < M.1 31 3 then Int32.ofInt 20 else M.1 31 3) = Int32.ofInt (if 20 < oc then 20 else oc) := by
    rw [eo]
    have l : Int32.ofInt 20 < Int32.ofInt oc ↔ 20 < oc := jn_lt (by omega) (by omega) (by omega) (by omega)
    by_cases c : 20 < oc
    · rw [if_pos (l.mpr c), if_pos c]
    · rw [if_neg (fun z => c (l.mp z)), if_neg c]
  refine k62_0 hF ?_
  have rk : (if 20 < oc then (20 : Int) else oc) ≤ 20 ∧ 0 ≤ (if 20 < oc then (20 : Int) else oc) ∧ (a < (if 20 < oc then (20 : Int) else oc) ↔ a < oc ∧ a < 20) := by split <;> omega
  rw [ek, c2, jn_lt (by omega) (by omega) (by omega) (by omega)]
  refine ⟨fun q => t1 (thr (by omega)), fun q => ⟨fun q2 => ?_, fun q2 => t1 (thr (by omega))⟩⟩
  have q3 := rk.2.2.mp q2
  have cl : (Int32.ofInt a).toNatClampNeg = a.toNat := jn_cl (by omega) (by omega)
  have ia : vp_in (Int32.ofInt a) 20 := by rw [jn_in (by omega) (by omega)]; omega
  refine ⟨ia, _, rfl, ?_⟩
  refine sm_entry (Nat.le_of_ble_eq_true rfl) (Nat.le_of_ble_eq_true rfl) (k118_0 (fun _ _ _ _ h => h) ?_)
  rw [c2, eo2, jn_le (by omega) (by omega) (by omega) (by omega), jn_lt (by omega) (by omega) (by omega) (by omega)]
  refine ⟨fun z => by omega, fun _ => ⟨fun z => by omega, fun _ => ⟨fun _ => ?_, fun z => by omega⟩⟩⟩
  refine k118_24 (fun _ _ _ _ h => h) ⟨fun _ => ⟨ia, ?_, by rw [sI_s, pk_us], INV_0 h' _⟩, fun z => absurd (by rw [pk_us]; decide) z⟩
  rw [cl, m5 a.toNat (by omega)]
-- the machines of both sides
def mt_eq (t t' : mw_T) : Prop := (∀ j, j < 10 → t.1 j = t'.1 j) ∧ (∀ j, j < 10 → t.2.1 j = t'.2.1 j) ∧ (∀ j, j < 20 → t.2.2.1 j = t'.2.2.1 j) ∧ t.2.2.2 = t'.2.2.2
theorem mt_u {f f' : Nat → Int32} (h : ∀ j, j < 10 → f j = f' j) {k : Nat} {x x' : Int32} (hx : x = x') (j : Nat) (hj : j < 10) : upd f k x j = upd f' k x' j := by
  by_cases e : j = k
  · rw [e, pk_us, pk_us, hx]
  · rw [pk_un e, pk_un e, h j hj]
theorem mt_w {l l' : Int → Int} (hl : ln_eq l l') (ho : mw_ok l') {t t' : mw_T} (h : mt_eq t t') : mt_eq (mw_w l t) (mw_w l' t') := by
  obtain ⟨e0, e1, e2, e3, e4⟩ := hl
  obtain ⟨h1, h2, h3, h4⟩ := h
  obtain ⟨o0, o1, o2, o3, -, -⟩ := ho
  have hv2 : (1 ≤ l' 0 ∧ l' 0 ≤ 4) ∨ l' 0 = 6 ∨ l' 0 = 7 ∨ 8 ≤ l' 0 → 0 ≤ l' 2 ∧ l' 2 < 10 := fun q => by
    by_cases c : 8 ≤ l' 0
    · exact o2 (Or.inr c)
    · refine o2 (Or.inl ?_)
      rw [pf_hv2]; unfold pf_rA
      simp only [Bool.or_eq_true, Bool.and_eq_true, decide_eq_true_eq]
      omega
  have hv3 : 2 ≤ l' 0 ∧ l' 0 ≤ 4 → 0 ≤ l' 3 ∧ l' 3 < 10 := fun q => o3 (by
    rw [pf_hv3]; unfold pf_rB
    simp only [Bool.and_eq_true, decide_eq_true_eq]
    omega)
  have hv1 : l' 0 ≤ 4 ∨ 8 ≤ l' 0 → 0 ≤ l' 1 ∧ l' 1 < 10 := fun q => o1 (by
    rw [pf_hv1 o0]; unfold pf_rD
    simp only [Bool.or_eq_true, decide_eq_true_eq]
    omega)
  unfold mw_w
  rw [e0, e1, e2, e3]
  by_cases c0 : l' 0 = 0
  · rw [if_pos c0, if_pos c0]; exact ⟨mt_u h1 rfl, h2, h3, h4⟩
  rw [if_neg c0, if_neg c0]
  by_cases c1 : l' 0 = 1
  · have := hv2 (by omega)
    rw [if_pos c1, if_pos c1]; exact ⟨mt_u h1 (h1 _ (by omega)), h2, h3, h4⟩
  rw [if_neg c1, if_neg c1]
  by_cases c2 : l' 0 = 2
  · have := hv2 (by omega)
    have := hv3 (by omega)
    rw [if_pos c2, if_pos c2]; exact ⟨mt_u h1 (by rw [h1 _ (by omega), h1 _ (by omega)]), h2, h3, h4⟩
  rw [if_neg c2, if_neg c2]
  by_cases c3 : l' 0 = 3
  · have := hv2 (by omega)
    have := hv3 (by omega)
    rw [if_pos c3, if_pos c3]; exact ⟨mt_u h1 (by rw [h1 _ (by omega), h1 _ (by omega)]), h2, h3, h4⟩
  rw [if_neg c3, if_neg c3]
  by_cases c4 : l' 0 = 4
  · have := hv2 (by omega)
    have := hv3 (by omega)
    rw [if_pos c4, if_pos c4]; exact ⟨mt_u h1 (by rw [h1 _ (by omega), h1 _ (by omega)]), h2, h3, h4⟩
  rw [if_neg c4, if_neg c4]
  by_cases c7 : l' 0 = 7
  · have := hv2 (by omega)
    rw [if_pos c7, if_pos c7]
    unfold mw_out
    rw [h4, h1 _ (by omega)]
    refine ⟨h1, h2, fun j hj => ?_, rfl⟩
    show (if t'.2.2.2.toInt < 20 then upd t.2.2.1 t'.2.2.2.toInt.toNat _ else t.2.2.1) j = (if t'.2.2.2.toInt < 20 then upd t'.2.2.1 t'.2.2.2.toInt.toNat _ else t'.2.2.1) j
    by_cases c : t'.2.2.2.toInt < 20
    · rw [if_pos c, if_pos c]
      by_cases e : j = t'.2.2.2.toInt.toNat
      · rw [e, pk_us, pk_us]
      · rw [pk_un e, pk_un e]; exact h3 j hj
    · rw [if_neg c, if_neg c]; exact h3 j hj
  rw [if_neg c7, if_neg c7]
  by_cases c8 : l' 0 = 8
  · have := hv2 (by omega)
    rw [if_pos c8, if_pos c8]; exact ⟨mt_u h1 (h2 _ (by omega)), h2, h3, h4⟩
  rw [if_neg c8, if_neg c8]
  by_cases c9 : l' 0 = 9
  · have := hv1 (by omega)
    rw [if_pos c9, if_pos c9]; exact ⟨h1, mt_u h2 (h1 _ (by omega)), h3, h4⟩
  rw [if_neg c9, if_neg c9]
  exact ⟨h1, h2, h3, h4⟩
theorem mt_run {L L' : Int → Int → Int} {n : Nat} (hL : Ln n L L') (ho : ∀ i : Nat, i < n → mw_ok (L' i)) : ∀ (f : Nat) (i k : Int) (t t' : mw_T), 0 ≤ i → mt_eq t t' → (mw_run L n f i k t).1 = (mw_run L' n f i k t').1 ∧ mt_eq (mw_run L n f i k t).2 (mw_run L' n f i k t').2
  | 0, i, k, t, t', _, h => ⟨rfl, h⟩
  | f + 1, i, k, t, t', h0, h => by
    rw [mw_run, mw_run]
    by_cases c : (n : Int) ≤ i
    · rw [if_pos c, if_pos c]; exact ⟨rfl, h⟩
    · rw [if_neg c, if_neg c]
      have ei : ((i.toNat : Nat) : Int) = i := by omega
      have le := hL i.toNat (by omega)
      have oi := ho i.toNat (by omega)
      rw [ei] at le oi
      have w := mt_w le oi h
      have e0 := le.1
      rw [e0]
      by_cases c2 : L' i 0 < 8 ∧ k = 200
      · rw [if_pos c2, if_pos c2]; exact ⟨rfl, h⟩
      · rw [if_neg c2, if_neg c2]
        have nx : mw_nx (L i) n i (mw_w (L i) t).1 = mw_nx (L' i) n i (mw_w (L' i) t').1 := by
          unfold mw_nx
          rw [le.1, le.2.2.1, le.2.2.2.1]
          by_cases c6 : L' i 0 = 6
          · have r2 : 0 ≤ L' i 2 ∧ L' i 2 < 10 := oi.2.2.1 (Or.inl (by rw [c6]; rfl))
            rw [w.1 _ (by omega)]
          · rw [if_neg (show ¬ (L' i 0 = 6 ∧ ¬ (mw_w (L i) t).1 (L' i 2).toNat = 0) from fun z => c6 z.1), if_neg (show ¬ (L' i 0 = 6 ∧ ¬ (mw_w (L' i) t').1 (L' i 2).toNat = 0) from fun z => c6 z.1)]
        rw [nx]
        refine mt_run hL ho f _ _ _ _ ?_ w
        unfold mw_nx
        have o5 := oi.2.2.2.2.1
        have o6 := oi.2.2.2.2.2
        split
        · rename_i q; have := o5 q; split <;> omega
        · split
          · rename_i q; have := o6 q.1; split <;> omega
          · omega
theorem sok_mw {l : Int → Int} (h : sok l) : mw_ok l := by
  obtain ⟨h0, h1, h2, h3⟩ := h
  refine ⟨by omega, fun q => h1 _ (Or.inl ⟨q, rfl⟩), fun q => ?_, fun q => h1 _ (Or.inr (Or.inr ⟨q, rfl⟩)), h2, h3⟩
  rcases q with q | q
  · exact h1 _ (Or.inr (Or.inl ⟨q, rfl⟩))
  · omega
theorem rok_mw {ns k : Nat} (hk : k ≤ 6) {Ls : Int → Int → Int} {l : Int → Int} (h : rok ns Ls k l) : mw_ok l := by
  obtain ⟨h0, h1, h2, h3, h4, h5⟩ := h
  refine ⟨h0, fun q => ?_, fun q => ?_, fun q => ?_, h2, h3⟩
  · have := h1 _ (Or.inl ⟨q, rfl⟩); omega
  · rcases q with q | q
    · have := h1 _ (Or.inr (Or.inl ⟨q, rfl⟩)); omega
    · exact (h4 q).1
  · have := h1 _ (Or.inr (Or.inr ⟨q, rfl⟩)); omega
theorem mw_ok_c {l l' : Int → Int} (e : ln_eq l l') (h : mw_ok l') : mw_ok l := by
  obtain ⟨e0, e1, e2, e3, e4⟩ := e
  unfold mw_ok at *
  rw [e0, e1, e2, e3]; exact h
theorem mw_pos {L : Int → Int → Int} {n : Int} : ∀ (f : Nat) (i k : Int) (t : mw_T), f < 100000 → 0 ≤ t.2.2.2.toInt ∧ t.2.2.2.toInt + f < 200000 → 0 ≤ (mw_run L n f i k t).2.2.2.2.toInt
  | 0, i, k, t, _, h => h.1
  | f + 1, i, k, t, hf, h => by
    rw [mw_run]
    split
    · exact h.1
    · split
      · exact h.1
      · refine mw_pos f _ _ _ (by omega) ?_
        have w : (mw_w (L i) t).2.2.2 = t.2.2.2 ∨ (mw_w (L i) t).2.2.2 = t.2.2.2 + Int32.ofInt 1 := by
          unfold mw_w mw_out
          split
          · exact Or.inl rfl
          · split
            · exact Or.inl rfl
            · split
              · exact Or.inl rfl
              · split
                · exact Or.inl rfl
                · split
                  · exact Or.inl rfl
                  · split
                    · exact Or.inr rfl
                    · split
                      · exact Or.inl rfl
                      · split
                        · exact Or.inl rfl
                        · exact Or.inl rfl
        rcases w with w | w
        · rw [w]; omega
        · rw [w, ← jn_self t.2.2.2, jn_add, jn_to (by omega) (by omega)]; omega
end
