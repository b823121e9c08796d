-- the class takes the groups off
section
variable {g : sm_G} {M : sm_M}
theorem c_leastBelow {l : Int64} {lf : Nat → Bool} (hl : ∀ v, v < 60 → bs_t l v = lf v) {dv : Nat → Nat} (hd : ∀ v, v < 60 → M.1 19 v = Int32.ofInt (dv v : Nat)) (hd2 : ∀ v, v < 60 → dv v ≤ 60) {b : Int} (hb : 0 ≤ b ∧ b < 100) :
    sm_Sm g 20 [.ref 16, .long l, .int (Int32.ofInt b)] M (sm_P (.int (Int32.ofInt (on_i (ff (fun v => lf v && decide ((dv v : Int) < b)) 60 0)))) M) := by
  have loop : ∀ (d w : Nat), w + d = 60 → sm_Go g 20 (sm_Fn g (sm_P (.int (Int32.ofInt (on_i (ff (fun v => lf v && decide ((dv v : Int) < b)) d w)))) M)) 3 [.ref 16, .long l, .null, .int (Int32.ofInt b), .int (Int32.ofInt (w : Int))] [] M := by
    intro d
    induction d with
    | zero =>
      intro w hw
      refine k20_3 (fun _ _ _ _ h => h) ⟨fun _ => ⟨rfl, rfl⟩, fun q => absurd ?_ q⟩
      rw [jn_le (by omega) (by omega) (by omega) (by omega)]; omega
    | succ d ih =>
      intro w hw
      have dw := hd2 w (by omega)
      refine k20_3 (fun _ _ _ _ h => h) ⟨fun q => ?_, fun _ => ?_⟩
      · rw [jn_le (by omega) (by omega) (by omega) (by omega)] at q; omega
      rw [bs_hb (by omega), hl w (by omega), sm_z0, show (Int32.ofInt (w : Int)).toNatClampNeg = w by rw [jn_cl (by omega) (by omega)]; omega, hd w (by omega), jn_le (by omega) (by omega) (by omega) (by omega), ff]
      have nx : ¬ (lf w && decide ((dv w : Int) < b)) = true → sm_Go g 20 (sm_Fn g (sm_P (.int (Int32.ofInt (on_i (if (lf w && decide ((dv w : Int) < b)) = true then some w else ff (fun v => lf v && decide ((dv v : Int) < b)) d (w + 1))))) M)) 33 [.ref 16, .long l, .null, .int (Int32.ofInt b), .int (Int32.ofInt (w : Int))] [] M := fun e => by
        rw [if_neg e]
        refine k20_33 (fun _ _ _ _ h => h) ?_
        rw [jn_add, show (w : Int) + 1 = ((w + 1 : Nat) : Int) by omega]
        exact ih (w + 1) (by omega)
      refine ⟨fun q => nx (by rw [q]; simp), fun q => ⟨by rw [jn_in (by omega) (by omega)]; omega, fun q2 => nx (by rw [decide_eq_false (by omega)]; simp), fun q2 => ?_⟩⟩
      rw [Bool.not_eq_false] at q
      rw [q, decide_eq_true (show (dv w : Int) < b by omega)]
      exact ⟨rfl, rfl⟩
  refine sm_entry (Nat.le_of_ble_eq_true rfl) (Nat.le_of_ble_eq_true rfl) ?_
  exact k20_0 (fun _ _ _ _ h => h) (loop 60 0 (by omega))
theorem c_lightest {l : Int64} {P : Nat → Bool} (hl : ∀ v, v < 60 → bs_t l v = P v) {s : jS} {lf : Nat → Bool} (hd : ∀ v, v < 60 → M.1 19 v = Int32.ofInt (dg (js_nb s) lf v : Nat)) (hc : ∀ v, v < 60 → M.1 14 v = js_ct s v) :
    sm_Sm g 21 [.ref 16, .ref 12, .long l] M (sm_P (.int (Int32.ofInt (on_i (cl_b P (co_lt s lf) 60)))) M) := by
  generalize hQ : sm_P (.int (Int32.ofInt (on_i (cl_b P (co_lt s lf) 60)))) M = Q
  have loop : ∀ (d w : Nat), w + d = 60 → sm_Go g 21 (sm_Fn g Q) 6 [.ref 16, .ref 12, .long l, .null, .int (Int32.ofInt (on_i (cl_b P (co_lt s lf) w))), .int (Int32.ofInt (w : Int))] [] M := by
    intro d
    induction d with
    | zero =>
      intro w hw
      have ew : w = 60 := by omega
      subst ew
      refine k21_6 (fun _ _ _ _ h => h) ⟨fun _ => ?_, fun q => absurd ?_ q⟩
      · rw [← hQ]; exact ⟨rfl, rfl⟩
      · rw [jn_le (by omega) (by omega) (by omega) (by omega)]; omega
    | succ d ih =>
      intro w hw
      have on : ∀ b, b = on_i (cl_b P (co_lt s lf) (w + 1)) → sm_Go g 21 (sm_Fn g Q) 44 [.ref 16, .ref 12, .long l, .null, .int (Int32.ofInt b), .int (Int32.ofInt (w : Int))] [] M := fun b e => by
        refine k21_44 (fun _ _ _ _ h => h) ?_
        rw [jn_add, show (w : Int) + 1 = ((w + 1 : Nat) : Int) by omega, e]
        exact ih (w + 1) (by omega)
      have r1 : -1 ≤ on_i (cl_b P (co_lt s lf) w) ∧ on_i (cl_b P (co_lt s lf) w) < 60 := by
        cases e : cl_b P (co_lt s lf) w with
        | none => show -1 ≤ (-1 : Int) ∧ (-1 : Int) < 60; omega
        | some b => have := (cl_b_some w e).1; show -1 ≤ (b : Int) ∧ (b : Int) < 60; omega
      refine k21_6 (fun _ _ _ _ h => h) ⟨fun q => ?_, fun _ => ?_⟩
      · rw [jn_le (by omega) (by omega) (by omega) (by omega)] at q; omega
      rw [bs_hb (by omega), hl w (by omega), sm_z0, jn_eq (by omega) (by omega) (by omega) (by omega), on_i0, show (Int32.ofInt (w : Int)).toNatClampNeg = w by rw [jn_cl (by omega) (by omega)]; omega]
      have go : (P w && cl_u (co_lt s lf) w (cl_b P (co_lt s lf) w)) = true → ∀ b, sm_Go g 21 (sm_Fn g Q) 40 [.ref 16, .ref 12, .long l, .null, .int (Int32.ofInt b), .int (Int32.ofInt (w : Int))] [] M := fun e b => k21_40 (fun _ _ _ _ h => h) (on w (by rw [cl_b, if_pos e]; rfl))
      have no : ¬ (P w && cl_u (co_lt s lf) w (cl_b P (co_lt s lf) w)) = true → sm_Go g 21 (sm_Fn g Q) 44 [.ref 16, .ref 12, .long l, .null, .int (Int32.ofInt (on_i (cl_b P (co_lt s lf) w))), .int (Int32.ofInt (w : Int))] [] M := fun e => on _ (by rw [cl_b, if_neg e])
      refine ⟨fun q => no (by rw [q]; simp), fun q => ?_⟩
      rw [Bool.not_eq_false] at q
      refine ⟨fun q2 => go (by rw [q, q2]; rfl) _, fun q2 => ?_⟩
      cases e : cl_b P (co_lt s lf) w with
      | none => exact absurd e q2
      | some b =>
        have hb := (cl_b_some w e).1
        rw [e] at go no
        show (vp_in _ 60 ∧ vp_in (Int32.ofInt (b : Int)) 60) ∧ _
        rw [show (Int32.ofInt (on_i (some b))).toNatClampNeg = b by show (Int32.ofInt (b : Int)).toNatClampNeg = b; rw [jn_cl (by omega) (by omega)]; omega, hd w (by omega), hd b (by omega), hc w (by omega), hc b (by omega), sm_z0]
        refine ⟨⟨by rw [jn_in (by omega) (by omega)]; omega, by rw [jn_in (by omega) (by omega)]; omega⟩, fun q3 => no ?_, fun q3 => go ?_ _⟩
        · rw [q]; show ¬ (true && co_lt s lf w b) = true
          unfold co_lt; rw [q3]; simp
        · rw [Bool.not_eq_false] at q3
          rw [q]; show (true && co_lt s lf w b) = true
          unfold co_lt; rw [q3]; rfl
  refine sm_entry (Nat.le_of_ble_eq_true rfl) (Nat.le_of_ble_eq_true rfl) ?_
  exact k21_0 (fun _ _ _ _ h => h) (loop 60 0 (by omega))
theorem c_nextToTake {s : jS} (hw : jw s) (hc : jc_is M s) {l : Int64} {lf : Nat → Bool} (hl : ∀ v, v < 64 → bs_t l v = lf v) (hl6 : ∀ v, 60 ≤ v → lf v = false) {k : Int} (hk : 0 ≤ k ∧ k < 100) :
    sm_Sm g 19 [.ref 16, .ref 12, .long l, .int (Int32.ofInt k)] M (fun o M' => o = some (.int (Int32.ofInt (on_i (nx s lf k)))) ∧ (∀ p, p ≠ 19 → M'.1 p = M.1 p) ∧ M'.2 = M.2) := by
  generalize hQ : (fun (o : Option Value) (M' : sm_M) => o = some (.int (Int32.ofInt (on_i (nx s lf k)))) ∧ (∀ p, p ≠ 19 → M'.1 p = M.1 p) ∧ M'.2 = M.2) = Q
  have loop : ∀ (d w : Nat) (M1 : sm_M), w + d = 60 → ((∀ v, v < w → M1.1 19 v = Int32.ofInt (dg (js_nb s) lf v : Nat)) ∧ (∀ p, p ≠ 19 → M1.1 p = M.1 p) ∧ M1.2 = M.2) → sm_Go g 19 (sm_Fn g Q) 3 [.ref 16, .ref 12, .long l, .null, .int (Int32.ofInt k), .int (Int32.ofInt (w : Int)), .null] [] M1 := by
    intro d
    induction d with
    | zero =>
      intro w M1 hd h
      have ew : w = 60 := by omega
      subst ew
      obtain ⟨h1, h2, h3⟩ := h
      refine k19_3 (fun _ _ _ _ h => h) ⟨fun _ => ?_, fun q => absurd ?_ q⟩
      · refine sm_Sm_mono (c_leastBelow (lf := lf) (fun v hv => hl v (by omega)) h1 (fun v hv => Nat.le_of_lt (dg_lt hw hv)) hk) (fun o M2 h' => ?_)
        obtain ⟨rfl, rfl⟩ := h'
        show (_ → _) ∧ (_ → _)
        have f1 : ff (fun v => lf v && decide ((dg (js_nb s) lf v : Int) < k)) 60 0 = nx_1 s lf k := rfl
        rw [f1]
        cases e1 : nx_1 s lf k with
        | some v =>
          have hv := (ff_some 60 0 e1).1
          have en : nx s lf k = some v := by unfold nx; rw [e1]
          rw [en] at hQ
          refine ⟨fun q => ?_, fun _ => ?_⟩
          · have q : Int32.ofInt (v : Int) = Int32.ofInt (-1) := q
            rw [jn_eq (by omega) (by omega) (by omega) (by omega)] at q; omega
          · rw [← hQ]; exact ⟨rfl, h2, h3⟩
        | none =>
          refine ⟨fun _ => ?_, fun q => absurd rfl q⟩
          have cl : ∀ v, v < 60 → bs_t (l &&& (M2.2 12 4 ^^^ Int64.ofNat 18446744073709551615)) v = (lf v && !jt (js_ld s) v 60) := fun v hv => by
            rw [bs_and, bs_not _ (by omega), hl v (by omega), h3, hc.2.2.2.1 v (by omega)]
          refine sm_Sm_mono (c_lightest (s := s) (lf := lf) cl h1 (fun v hv => by rw [h2 14 (by decide)]; exact hc.2.2.2.2.1 v hv)) (fun o M3 h' => ?_)
          obtain ⟨rfl, rfl⟩ := h'
          show (_ → _) ∧ (_ → _)
          have f2 : cl_b (fun v => lf v && !jt (js_ld s) v 60) (co_lt s lf) 60 = nx_2 s lf := rfl
          rw [f2]
          cases e2 : nx_2 s lf with
          | some v =>
            have hv := (cl_b_some 60 e2).1
            have en : nx s lf k = some v := by unfold nx; rw [e1, e2]
            rw [en] at hQ
            refine ⟨fun q => ?_, fun _ => ?_⟩
            · have q : Int32.ofInt (v : Int) = Int32.ofInt (-1) := q
              rw [jn_eq (by omega) (by omega) (by omega) (by omega)] at q; omega
            · rw [← hQ]; exact ⟨rfl, h2, h3⟩
          | none =>
            refine ⟨fun _ => ?_, fun q => absurd rfl q⟩
            refine sm_Sm_mono (c_leastBelow (lf := lf) (fun v hv => hl v (by omega)) h1 (fun v hv => Nat.le_of_lt (dg_lt hw hv)) (b := 60) (by omega)) (fun o M4 h' => ?_)
            obtain ⟨rfl, rfl⟩ := h'
            show Q _ _
            rw [← hQ]
            refine ⟨?_, h2, h3⟩
            have en : nx s lf k = ff lf 60 0 := by unfold nx; rw [e1, e2]
            rw [en, ff_c (P' := lf) 60 0 (fun v _ hv => by have := dg_lt hw (lf := lf) (v := v) (by omega); rw [decide_eq_true (by omega)]; simp)]
      · rw [jn_le (by omega) (by omega) (by omega) (by omega)]; omega
    | succ d ih =>
      intro w M1 hd h
      obtain ⟨h1, h2, h3⟩ := h
      refine k19_3 (fun _ _ _ _ h => h) ⟨fun q => ?_, fun _ => ?_⟩
      · rw [jn_le (by omega) (by omega) (by omega) (by omega)] at q; omega
      have inw : vp_in (Int32.ofInt (w : Int)) 60 := by rw [jn_in (by omega) (by omega)]; omega
      rw [show (Int32.ofInt (w : Int)).toNatClampNeg = w by rw [jn_cl (by omega) (by omega)]; omega, jn_add, show (w : Int) + 1 = ((w + 1 : Nat) : Int) by omega, h3]
      refine ⟨inw, inw, ih (w + 1) _ (by omega) ⟨fun v hv => ?_, fun p hp => by rw [sI_1 hp]; exact h2 p hp, h3⟩⟩
      rw [sI_s]
      by_cases e : v = w
      · rw [e, pk_us, bc_ok, bct_c (f' := fun u => js_nb s w u && lf u) 64 (fun i hi => by rw [bs_and, hc.2.1.1 w (by omega) i hi, hl i hi]), bct_0 (k := 60) 4 (fun i h1 _ => by rw [hl6 i h1]; simp)]
        rfl
      · rw [pk_un e]; exact h1 v (by omega)
  refine sm_entry (Nat.le_of_ble_eq_true rfl) (Nat.le_of_ble_eq_true rfl) ?_
  exact k19_0 (fun _ _ _ _ h => h) (loop 60 0 M (by omega) ⟨fun v hv => absurd hv (by omega), fun _ _ => rfl, rfl⟩)
def tk_ke (M M' : sm_M) : Prop := (∀ p, p ≠ 16 → p ≠ 18 → p ≠ 19 → M'.1 p = M.1 p) ∧ (∀ i, i ≠ 3 → M'.1 16 i = M.1 16 i) ∧ M'.2 = M.2
theorem jc_c {M M' : sm_M} {s : jS} (h : jc_is M s) (h12 : M'.1 12 = M.1 12) (h13 : M'.1 13 = M.1 13) (h14 : M'.1 14 = M.1 14) (l12 : M'.2 12 = M.2 12) (l15 : M'.2 15 = M.2 15) : jc_is M' s := by
  unfold jc_is jo_nb at *
  rw [h12, h13, h14, l12, l15]; exact h
theorem c_takeOff {s : jS} (hw : jw s) (hc : jc_is M s) {k : Int} (hk : 0 ≤ k ∧ k < 100) :
    sm_Sm g 18 [.ref 16, .ref 12, .int (Int32.ofInt k)] M (fun o M' => o = none ∧ (M'.1 16 3 = Int32.ofInt (tk_T s : Nat) ∧ ∀ i, i < tk_T s → M'.1 18 i = Int32.ofInt (tk_v s k i : Nat)) ∧ tk_ke M M') := by
  have hT := tk_T60 s
  generalize hQ : (fun (o : Option Value) (M' : sm_M) => o = none ∧ (M'.1 16 3 = Int32.ofInt (tk_T s : Nat) ∧ ∀ i, i < tk_T s → M'.1 18 i = Int32.ofInt (tk_v s k i : Nat)) ∧ tk_ke M M') = Q
  have loop : ∀ (d i : Nat) (M1 : sm_M) (l : Int64), i + d = tk_T s → (∀ v, v < 64 → bs_t l v = tk_l s k i v) → (M1.1 16 3 = Int32.ofInt (tk_T s : Nat) ∧ ∀ t, t < i → M1.1 18 t = Int32.ofInt (tk_v s k t : Nat)) → tk_ke M M1 → sm_Go g 18 (sm_Fn g Q) 16 [.ref 16, .ref 12, .int (Int32.ofInt k), .long l, .null, .int (Int32.ofInt (i : Int)), .null] [] M1 := by
    intro d
    induction d with
    | zero =>
      intro i M1 l hd _ h1 h2
      have ei : i = tk_T s := by omega
      subst ei
      refine k18_16 (fun _ _ _ _ h => h) ⟨fun _ => ?_, fun q => absurd ?_ q⟩
      · rw [← hQ]; exact ⟨rfl, h1, h2⟩
      · rw [h1.1, jn_le (by omega) (by omega) (by omega) (by omega)]; omega
    | succ d ih =>
      intro i M1 l hd hl h1 h2
      have hin := tk_in (s := s) (k := k) (i := i) (by omega)
      have hnx := tk_nx (s := s) (k := k) (i := i) (by omega)
      refine k18_16 (fun _ _ _ _ h => h) ⟨fun q => ?_, fun _ => ?_⟩
      · rw [h1.1, jn_le (by omega) (by omega) (by omega) (by omega)] at q; omega
      have hc1 : jc_is M1 s := jc_c hc (h2.1 12 (by decide) (by decide) (by decide)) (h2.1 13 (by decide) (by decide) (by decide)) (h2.1 14 (by decide) (by decide) (by decide)) (by rw [h2.2.2]) (by rw [h2.2.2])
      have hl6 : ∀ v, 60 ≤ v → tk_l s k i v = false := fun v hv => by
        cases e : tk_l s k i v
        · rfl
        · have := (hw.1 v (tk_gr e)).1; omega
      refine sm_Sm_mono (c_nextToTake hw hc1 hl hl6 hk) (fun o M2 h' => ?_)
      obtain ⟨rfl, m1, m2⟩ := h'
      rw [hnx]
      show vp_in _ 60 ∧ sm_Go g 18 _ 16 _ _ _
      have eo : on_i (some (tk_v s k i)) = ((tk_v s k i : Nat) : Int) := rfl
      rw [eo, show (Int32.ofInt (i : Int)).toNatClampNeg = i by rw [jn_cl (by omega) (by omega)]; omega, jn_add, show (i : Int) + 1 = ((i + 1 : Nat) : Int) by omega]
      refine ⟨by rw [jn_in (by omega) (by omega)]; omega, sm_wk (L := [.ref 16, .ref 12, .int (Int32.ofInt k), .long (l &&& (pf_bit (Int32.ofInt ((tk_v s k i : Nat) : Int)) ^^^ Int64.ofNat 18446744073709551615)), .null, .int (Int32.ofInt ((i + 1 : Nat) : Int)), .null]) ⟨rfl, rfl, rfl, rfl, rfl, trivial⟩ (ih (i + 1) _ _ (by omega) (fun v hv => ?_) ⟨?_, fun t ht => ?_⟩ ⟨fun p q1 q2 q3 => ?_, fun t ht => ?_, ?_⟩)⟩
      · rw [bs_and, bs_not _ hv, hl v hv, bs_bitI (by omega) hv]
        show _ = (tk_l s k i v && !decide (tk_v s k i = v))
        rw [decide_eq_decide.mpr (show ((tk_v s k i : Nat) : Int) = (v : Int) ↔ tk_v s k i = v by omega)]
      · rw [sI_1 (by decide), m1 16 (by decide)]; exact h1.1
      · rw [sI_s]
        by_cases e : t = i
        · rw [e, pk_us]
        · rw [pk_un e, m1 18 (by decide)]; exact h1.2 t (by omega)
      · rw [sI_1 q2, m1 p q3]; exact h2.1 p q1 q2 q3
      · rw [sI_1 (by decide), m1 16 (by decide)]; exact h2.2.1 t ht
      · rw [← h2.2.2, ← m2]; rfl
  refine sm_entry (Nat.le_of_ble_eq_true rfl) (Nat.le_of_ble_eq_true rfl) ?_
  refine k18_0 (fun _ _ _ _ h => h) (loop (tk_T s) 0 _ _ (by omega) (fun v hv => hc.2.2.1 v hv) ⟨?_, fun t ht => absurd ht (by omega)⟩ ⟨fun p q1 q2 q3 => by rw [sI_1 q1], fun t ht => by rw [sI_s, pk_un ht], rfl⟩)
  rw [sI_s, pk_us, bc_ok, bct_c (f' := js_gr s) 64 (fun i hi => hc.2.2.1 i hi), bct_0 (k := 60) 4 (fun i h1 _ => by
    cases e : js_gr s i
    · rfl
    · have := (hw.1 i e).1; omega)]
  rfl
end
