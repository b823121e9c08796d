-- the reference gives registers
section
variable {g : sm_G} {M : sm_M}
theorem c_isTaken {s : jS} (hw : jw s) {nr : Nat → Nat → Bool} (hi : jr_is M (js_gr s) nr) (hok : jr_ok (js_gr s) nr (js_nb s)) {x : Nat} (gx : js_gr s x = true) {rg : Nat → Int} (hr : ∀ u, u < 60 → M.1 49 u = Int32.ofInt (rg u)) (hr2 : ∀ u, -1 ≤ rg u ∧ rg u < 100) {r : Int} (h0 : 0 ≤ r ∧ r < 100) :
    sm_Sm g 98 [.ref 35, .int (Int32.ofInt (x : Int)), .int (Int32.ofInt r)] M (sm_P (.int (sm_z (tn (js_nb s) rg x r 60))) M) := by
  have hx := (hw.1 x gx).1
  generalize hQ : sm_P (.int (sm_z (tn (js_nb s) rg x r 60))) M = Q
  have loop : ∀ (d w : Nat), w + d = 60 → sm_Go g 98 (sm_Fn g Q) 5 [.ref 35, .int (Int32.ofInt (x : Int)), .int (Int32.ofInt r), .int (sm_z (tn (js_nb s) rg x r w)), .int (Int32.ofInt (w : Int))] [] M := by
    intro d
    induction d with
    | zero =>
      intro w hd
      have ew : w = 60 := by omega
      subst ew
      refine k98_5 (fun _ _ _ _ h => h) ⟨fun _ => ⟨sm_zb _, ?_⟩, fun q => absurd ?_ q⟩
      · rw [← hQ]; exact ⟨rfl, rfl⟩
      · rw [jn_le (by omega) (by omega) (by omega) (by omega)]; omega
    | succ d ih =>
      intro w hd
      have rw1 := hr2 w
      have on : ∀ (b : Int32) (x3 : Int32), b = sm_z (tn (js_nb s) rg x r (w + 1)) → sm_Go g 98 (sm_Fn g Q) 57 [.ref 35, .int (Int32.ofInt (x : Int)), .int (Int32.ofInt r), .int x3, .int (Int32.ofInt (w : Int))] [.int b] M := fun b x3 e => by
        refine k98_57 (fun _ _ _ _ h => h) ?_
        rw [jn_add, show (w : Int) + 1 = ((w + 1 : Nat) : Int) by omega, e]
        exact ih (w + 1) (by omega)
      have ts : tn (js_nb s) rg x r (w + 1) = (tn (js_nb s) rg x r w || (js_nb s x w && decide (rg w = r))) := rfl
      have yes : tn (js_nb s) rg x r (w + 1) = true → ∀ x3 : Int32, sm_Go g 98 (sm_Fn g Q) 52 [.ref 35, .int (Int32.ofInt (x : Int)), .int (Int32.ofInt r), .int x3, .int (Int32.ofInt (w : Int))] [] M := fun e x3 => k98_52 (fun _ _ _ _ h => h) (on _ _ (by rw [e]; exact sm_o1))
      have no : tn (js_nb s) rg x r (w + 1) = false → ∀ x3 : Int32, sm_Go g 98 (sm_Fn g Q) 56 [.ref 35, .int (Int32.ofInt (x : Int)), .int (Int32.ofInt r), .int x3, .int (Int32.ofInt (w : Int))] [] M := fun e x3 => k98_56 (fun _ _ _ _ h => h) (on _ _ (by rw [e]; exact sm_o0))
      refine k98_5 (fun _ _ _ _ h => h) ⟨fun q => ?_, fun _ => ?_⟩
      · rw [jn_le (by omega) (by omega) (by omega) (by omega)] at q; omega
      have inw : vp_in (Int32.ofInt (w : Int)) 60 := by rw [jn_in (by omega) (by omega)]; omega
      rw [sm_z0, show (Int32.ofInt (w : Int)).toNatClampNeg = w by rw [jn_cl (by omega) (by omega)]; omega, hi.1 w (by omega), sm_z0, jn_mul, jn_add, show (Int32.ofInt (60 * (x : Int) + (w : Int))).toNatClampNeg = 60 * x + w by rw [jn_cl (by omega) (by omega)]; omega, hi.2 x hx w (by omega), sm_z0, hr w (by omega), jn_eq (by omega) (by omega) (by omega) (by omega)]
      refine ⟨fun q => yes ?_ _, fun q => ⟨inw, fun q2 => no ?_ _, fun q2 => ⟨by rw [jn_in (by omega) (by omega)]; omega, fun q3 => no ?_ _, fun q3 => ⟨inw, fun q4 => no ?_ _, fun q4 => yes ?_ _⟩⟩⟩⟩
      · rw [Bool.not_eq_false] at q; rw [ts, q]; rfl
      · have : js_nb s x w = false := by
          cases e : js_nb s x w
          · rfl
          · rw [(hw.2.2.2.2 x w e).2] at q2; cases q2
        rw [ts, q, this]; rfl
      · rw [Bool.not_eq_false] at q2
        rw [hok.1 x w hx (by omega) gx q2] at q3
        rw [ts, q, q3]; rfl
      · rw [ts, q, decide_eq_false q4]; simp
      · rw [Bool.not_eq_false] at q2
        rw [hok.1 x w hx (by omega) gx q2, Bool.not_eq_false] at q3
        rw [ts, q3, decide_eq_true q4]; simp
  refine sm_entry (Nat.le_of_ble_eq_true rfl) (Nat.le_of_ble_eq_true rfl) ?_
  exact k98_0 (fun _ _ _ _ h => h) (loop 60 0 (by omega))
def gal (s : jS) (k : Nat) : Nat → Bool
  | 0 => true
  | m + 1 => gal s k m && !decide (fr s k (gv s k m) (gv_x s k m) = none)
theorem gal_iff {s : jS} {k : Nat} : ∀ m, m ≤ tk_T s → (gal s k m = true ↔ ∀ v, v < 60 → gsp s k m v = false)
  | 0, _ => ⟨fun _ _ _ => rfl, fun _ => rfl⟩
  | m + 1, h => by
    have ih := gal_iff (s := s) (k := k) m (by omega)
    have hx : gv_x s k m < 60 := (tk_in (s := s) (k := k) (i := tk_T s - 1 - m) (by omega)).1
    show (gal s k m && !decide (fr s k (gv s k m) (gv_x s k m) = none)) = true ↔ ∀ v, v < 60 → (gsp s k m v || (decide (gv_x s k m = v) && decide (fr s k (gv s k m) (gv_x s k m) = none))) = false
    rw [Bool.and_eq_true, ih, Bool.not_eq_true', decide_eq_false_iff_not]
    constructor
    · rintro ⟨h1, h2⟩ v hv
      rw [h1 v hv, decide_eq_false h2]; simp
    · intro h1
      refine ⟨fun v hv => ?_, fun e => ?_⟩
      · have := h1 v hv
        rw [Bool.or_eq_false_iff] at this
        exact this.1
      · have := h1 _ hx
        rw [decide_eq_true rfl, decide_eq_true e] at this
        simp at this
def co_ke (M M' : sm_M) : Prop := (∀ p, p ≠ 47 → p ≠ 48 → p ≠ 49 → p ≠ 50 → M'.1 p = M.1 p) ∧ M'.2 = M.2
theorem jm_c {M M' : sm_M} {s : jS} (h : jm_is M s) (h35 : M'.1 35 20 = M.1 35 20) (h43 : M'.1 43 = M.1 43) (h44 : M'.1 44 = M.1 44) (h45 : M'.1 45 = M.1 45) (h46 : M'.1 46 = M.1 46) : jm_is M' s := by
  unfold jm_is jr_is at *
  rw [h35, h43, h44, h45, h46]; exact h
theorem jm_ck {M M' : sm_M} {s : jS} (h : jm_is M s) (hk : co_ke M M') : jm_is M' s := jm_c h (by rw [hk.1 35 (by decide) (by decide) (by decide) (by decide)]) (hk.1 43 (by decide) (by decide) (by decide) (by decide)) (hk.1 44 (by decide) (by decide) (by decide) (by decide)) (hk.1 45 (by decide) (by decide) (by decide) (by decide)) (hk.1 46 (by decide) (by decide) (by decide) (by decide))
def co_post (s : jS) (k : Nat) (M' : sm_M) : Prop := (∀ v, v < 60 → M'.1 49 v = Int32.ofInt (gv s k (tk_T s) v)) ∧ ∀ v, v < 60 → M'.1 50 v = sm_z (gsp s k (tk_T s) v)
theorem c_colour {s : jS} (hw : jw s) (hm : jm_is M s) {k : Nat} (hk : k ≤ 6) :
    sm_Sm g 97 [.ref 35, .int (Int32.ofInt (k : Int))] M (fun o M' => o = some (.int (sm_z (gal s k (tk_T s)))) ∧ co_post s k M' ∧ co_ke M M') := by
  have hT := tk_T60 s
  generalize hQ : (fun (o : Option Value) (M' : sm_M) => o = some (.int (sm_z (gal s k (tk_T s)))) ∧ co_post s k M' ∧ co_ke M M') = Q
  -- giving
  have loop3 : ∀ (d m : Nat) (M1 : sm_M) (x2 : Int32), m + d = tk_T s → (∀ i, i < tk_T s → M1.1 48 i = Int32.ofInt (tk_v s k i : Nat)) → (∀ v, v < 60 → M1.1 49 v = Int32.ofInt (gv s k m v)) → (∀ v, v < 60 → M1.1 50 v = sm_z (gsp s k m v)) → co_ke M M1 → sm_Go g 97 (sm_Fn g Q) 95 [.ref 35, .int (Int32.ofInt (k : Int)), .int x2, .int (sm_z (gal s k m)), .int (Int32.ofInt ((d : Int) - 1)), .null, .null] [] M1 := by
    intro d
    induction d with
    | zero =>
      intro m M1 x2 hd h48 h49 h50 hke
      have em : m = tk_T s := by omega
      subst em
      refine k97_95 (fun _ _ _ _ h => h) ⟨fun _ => ⟨sm_zb _, ?_⟩, fun q => absurd (by decide) q⟩
      rw [← hQ]; exact ⟨rfl, ⟨h49, h50⟩, hke⟩
    | succ d ih =>
      intro m M1 x2 hd h48 h49 h50 hke
      have ed : (((d + 1 : Nat) : Int) - 1) = (d : Int) := by omega
      have ex : tk_v s k d = gv_x s k m := by unfold gv_x; congr 1; omega
      have hx := tk_in (s := s) (k := k) (i := d) (by omega)
      rw [ed]
      rw [ex] at hx
      have gx := tk_gr hx.2
      have hx := hx.1
      have inx : vp_in (Int32.ofInt ((gv_x s k m : Nat) : Int)) 60 := by rw [jn_in (by omega) (by omega)]; omega
      have clx : (Int32.ofInt ((gv_x s k m : Nat) : Int)).toNatClampNeg = gv_x s k m := by rw [jn_cl (by omega) (by omega)]; omega
      obtain ⟨nr, mi, mk, m5, m6, mj⟩ := jm_ck hm hke
      refine k97_95 (fun _ _ _ _ h => h) ⟨fun q => ?_, fun _ => ?_⟩
      · rw [jn_0, jn_lt (by omega) (by omega) (by omega) (by omega)] at q; omega
      rw [show (Int32.ofInt (d : Int)).toNatClampNeg = d by rw [jn_cl (by omega) (by omega)]; omega, h48 d (by omega), ex]
      refine ⟨by rw [jn_in (by omega) (by omega)]; omega, ?_⟩
      -- what follows once the register r is found
      have fin : ∀ (r : Nat), r ≤ k → on_i (fr s k (gv s k m) (gv_x s k m)) = (if r < k then (r : Int) else -1) → sm_Go g 97 (sm_Fn g Q) 135 [.ref 35, .int (Int32.ofInt (k : Int)), .int x2, .int (sm_z (gal s k m)), .int (Int32.ofInt (d : Int)), .int (Int32.ofInt ((gv_x s k m : Nat) : Int)), .int (Int32.ofInt (r : Int))] [] M1 := by
        intro r hr he
        have hno : fr s k (gv s k m) (gv_x s k m) = none ↔ r = k := by
          rw [← on_i0, he]
          by_cases c : r < k
          · rw [if_pos c]; omega
          · rw [if_neg c]; omega
        have g153 : ∀ x : Int, x = on_i (fr s k (gv s k m) (gv_x s k m)) → sm_Go g 97 (sm_Fn g Q) 153 [.ref 35, .int (Int32.ofInt (k : Int)), .int x2, .int (sm_z (gal s k m)), .int (Int32.ofInt (d : Int)), .int (Int32.ofInt ((gv_x s k m : Nat) : Int)), .int (Int32.ofInt (r : Int))] [.int (Int32.ofInt x), .int (Int32.ofInt ((gv_x s k m : Nat) : Int)), .ref 49] M1 := by
          intro x hxx
          have g187 : ∀ (M3 : sm_M) (b : Int32), M3 = sm_sI (sm_sI M1 49 (gv_x s k m) (Int32.ofInt x)) 50 (gv_x s k m) (sm_z (decide (r = k))) → b = sm_z (gal s k (m + 1)) → sm_Go g 97 (sm_Fn g Q) 187 [.ref 35, .int (Int32.ofInt (k : Int)), .int x2, .int (sm_z (gal s k m)), .int (Int32.ofInt (d : Int)), .int (Int32.ofInt ((gv_x s k m : Nat) : Int)), .int (Int32.ofInt (r : Int))] [.int b] M3 := by
            intro M3 b hM3 hb
            refine k97_187 (fun _ _ _ _ h => h) ?_
            rw [jn_add, show (d : Int) + -1 = (d : Int) - 1 by omega, hb]
            refine sm_wk (L := [.ref 35, .int (Int32.ofInt (k : Int)), .int x2, .int (sm_z (gal s k (m + 1))), .int (Int32.ofInt ((d : Int) - 1)), .null, .null]) ⟨rfl, rfl, rfl, rfl, rfl, trivial⟩ (ih (m + 1) M3 x2 (by omega) (fun i hi => ?_) (fun v hv => ?_) (fun v hv => ?_) ⟨fun p q1 q2 q3 q4 => ?_, ?_⟩)
            · rw [hM3, sI_1 (by decide), sI_1 (by decide)]; exact h48 i hi
            · rw [hM3, sI_1 (by decide), sI_s]
              show _ = Int32.ofInt (if v = gv_x s k m then on_i (fr s k (gv s k m) (gv_x s k m)) else gv s k m v)
              by_cases e : v = gv_x s k m
              · rw [if_pos e, e, pk_us, hxx]
              · rw [if_neg e, pk_un e]; exact h49 v hv
            · rw [hM3, sI_s]
              show _ = sm_z (gsp s k m v || (decide (gv_x s k m = v) && decide (fr s k (gv s k m) (gv_x s k m) = none)))
              by_cases e : v = gv_x s k m
              · rw [e, pk_us, gsp_x (by omega), decide_eq_true rfl, Bool.false_or, Bool.true_and, decide_eq_decide.mpr hno]
              · rw [pk_un e, sI_1 (by decide), h50 v hv, decide_eq_false (fun z => e z.symm)]; simp
            · rw [hM3, sI_1 q4, sI_1 q3]; exact hke.1 p q1 q2 q3 q4
            · rw [hM3]; exact hke.2
          have g171 : ∀ b : Bool, b = decide (r = k) → sm_Go g 97 (sm_Fn g Q) 171 [.ref 35, .int (Int32.ofInt (k : Int)), .int x2, .int (sm_z (gal s k m)), .int (Int32.ofInt (d : Int)), .int (Int32.ofInt ((gv_x s k m : Nat) : Int)), .int (Int32.ofInt (r : Int))] [.int (sm_z b), .int (Int32.ofInt ((gv_x s k m : Nat) : Int)), .ref 50] (sm_sI M1 49 (gv_x s k m) (Int32.ofInt x)) := by
            intro b hb
            refine k97_171 (fun _ _ _ _ h => h) ?_
            rw [clx, hb, sm_z0 (b := gal s k m), jn_le (by omega) (by omega) (by omega) (by omega)]
            have hg : gal s k (m + 1) = (gal s k m && !decide (r = k)) := by
              show (gal s k m && !decide (fr s k (gv s k m) (gv_x s k m) = none)) = _
              rw [decide_eq_decide.mpr hno]
            refine ⟨sm_zb _, inx, fun q => k97_186 (fun _ _ _ _ h => h) (g187 _ _ rfl ?_), fun q => ⟨fun q2 => k97_186 (fun _ _ _ _ h => h) (g187 _ _ rfl ?_), fun q2 => g187 _ _ rfl ?_⟩⟩
            · rw [hg, q]; exact sm_o0
            · rw [hg, decide_eq_true (show r = k by omega)]; simp; exact sm_o0
            · rw [Bool.not_eq_false] at q
              rw [hg, q, decide_eq_false (show ¬ r = k by omega)]; exact sm_o1
          refine k97_153 (fun _ _ _ _ h => h) ?_
          rw [clx, jn_eq (by omega) (by omega) (by omega) (by omega)]
          refine ⟨inx, fun q => ?_, fun q => ?_⟩
          · rw [sm_o0]; exact g171 false (decide_eq_false (by omega)).symm
          · rw [sm_o1]; exact g171 true (decide_eq_true (by omega)).symm
        refine k97_135 (fun _ _ _ _ h => h) ?_
        rw [jn_le (by omega) (by omega) (by omega) (by omega)]
        refine ⟨fun q => g153 _ ?_, fun q => g153 _ ?_⟩
        · rw [he, if_neg (by omega)]
        · rw [he, if_pos (by omega)]
      have loopr : ∀ (e r : Nat), r + e = k → fr s k (gv s k m) (gv_x s k m) = ff (fun r => !tn (js_nb s) (gv s k m) (gv_x s k m) r 60) e r → sm_Go g 97 (sm_Fn g Q) 112 [.ref 35, .int (Int32.ofInt (k : Int)), .int x2, .int (sm_z (gal s k m)), .int (Int32.ofInt (d : Int)), .int (Int32.ofInt ((gv_x s k m : Nat) : Int)), .int (Int32.ofInt (r : Int))] [] M1 := by
        intro e
        induction e with
        | zero =>
          intro r hr hf
          refine k97_112 (fun _ _ _ _ h => h) ⟨fun _ => fin r (by omega) (by rw [hf, if_neg (by omega)]; rfl), fun q => absurd ?_ q⟩
          rw [jn_le (by omega) (by omega) (by omega) (by omega)]; omega
        | succ e ihe =>
          intro r hr hf
          refine k97_112 (fun _ _ _ _ h => h) ⟨fun q => ?_, fun _ => ?_⟩
          · rw [jn_le (by omega) (by omega) (by omega) (by omega)] at q; omega
          refine sm_Sm_mono (c_isTaken hw mi mk gx h49 (fun u => by have := gv_r (s := s) (k := k) m u; omega) (by omega)) (fun o M2 h' => ?_)
          obtain ⟨rfl, rfl⟩ := h'
          show (_ → _) ∧ (_ → _)
          rw [sm_z0]
          refine ⟨fun q => fin r (by omega) ?_, fun q => ?_⟩
          · rw [hf, ff, if_pos (by rw [q]; rfl), if_pos (by omega)]; rfl
          · rw [Bool.not_eq_false] at q
            rw [jn_add, show (r : Int) + 1 = ((r + 1 : Nat) : Int) by omega]
            exact ihe (r + 1) (by omega) (by rw [hf, ff, if_neg (by rw [q]; simp)])
      exact loopr k 0 (by omega) rfl
  -- taking off
  have loop2 : ∀ (d i : Nat) (M1 : sm_M) (x3 : Int32), i + d = tk_T s → (∀ v, v < 60 → M1.1 47 v = sm_z (tk_l s k i v)) → (∀ t, t < i → M1.1 48 t = Int32.ofInt (tk_v s k t : Nat)) → (∀ v, v < 60 → M1.1 49 v = Int32.ofInt (-1)) → (∀ v, v < 60 → M1.1 50 v = Int32.ofInt 0) → co_ke M M1 → sm_Go g 97 (sm_Fn g Q) 42 [.ref 35, .int (Int32.ofInt (k : Int)), .int (Int32.ofInt (i : Int)), .int x3, .null, .null, .null] [] M1 := by
    intro d
    induction d with
    | zero =>
      intro i M1 x3 hd h47 h48 h49 h50 hke
      have ei : i = tk_T s := by omega
      subst ei
      refine k97_42 (fun _ _ _ _ h => h) (sm_Sm_mono (c_least h47) (fun o M2 h' => ?_))
      obtain ⟨rfl, rfl⟩ := h'
      have en : ff (tk_l s k (tk_T s)) 60 0 = none := by
        cases e : ff (tk_l s k (tk_T s)) 60 0 with
        | none => rfl
        | some v =>
          obtain ⟨h1, h2⟩ := ff_some 60 0 e
          have z := bct_z 60 (show bct (tk_l s k (tk_T s)) 60 = 0 by rw [tk_ct _ (Nat.le_refl _)]; omega) v (by omega)
          rw [z] at h2; cases h2
      rw [en]
      show (_ → _) ∧ (_ → _)
      refine ⟨fun _ => ?_, fun q => absurd (by decide) q⟩
      rw [jn_sub]
      have L := loop3 (tk_T s) 0 M2 (Int32.ofInt ((tk_T s : Nat) : Int)) (by omega) h48 h49 (fun v hv => by rw [h50 v hv]; exact sm_o0) hke
      rw [show sm_z (gal s k 0) = Int32.ofInt 1 from sm_o1.symm] at L
      exact L
    | succ d ih =>
      intro i M1 x3 hd h47 h48 h49 h50 hke
      have hin := tk_in (s := s) (k := k) (i := i) (by omega)
      have hnx := tk_nx (s := s) (k := k) (i := i) (by omega)
      have f67 : ∀ x3 : Int32, sm_Go g 97 (sm_Fn g Q) 67 [.ref 35, .int (Int32.ofInt (k : Int)), .int (Int32.ofInt (i : Int)), .int x3, .null, .null, .null] [.int (Int32.ofInt ((tk_v s k i : Nat) : Int))] M1 := by
        intro x3
        refine k97_67 (fun _ _ _ _ h => h) ?_
        rw [show (Int32.ofInt (i : Int)).toNatClampNeg = i by rw [jn_cl (by omega) (by omega)]; omega, show (Int32.ofInt ((tk_v s k i : Nat) : Int)).toNatClampNeg = tk_v s k i by rw [jn_cl (by omega) (by omega)]; omega, jn_add, show (i : Int) + 1 = ((i + 1 : Nat) : Int) by omega]
        refine ⟨by rw [jn_in (by omega) (by omega)]; omega, Or.inl rfl, by rw [jn_in (by omega) (by omega)]; omega, ih (i + 1) _ _ (by omega) (fun v hv => ?_) (fun t ht => ?_) (fun v hv => ?_) (fun v hv => ?_) ⟨fun p q1 q2 q3 q4 => ?_, hke.2⟩⟩
        · rw [sI_s]
          show _ = sm_z (tk_l s k i v && !decide (tk_v s k i = v))
          by_cases e : v = tk_v s k i
          · rw [e, pk_us, decide_eq_true rfl]; simp; exact sm_o0
          · rw [pk_un e, sI_1 (by decide), h47 v hv, decide_eq_false (fun z => e z.symm)]; simp
        · rw [sI_1 (by decide), sI_s]
          by_cases e : t = i
          · rw [e, pk_us]
          · rw [pk_un e]; exact h48 t (by omega)
        · rw [sI_1 (by decide), sI_1 (by decide)]; exact h49 v hv
        · rw [sI_1 (by decide), sI_1 (by decide)]; exact h50 v hv
        · rw [sI_1 q1, sI_1 q2]; exact hke.1 p q1 q2 q3 q4
      refine k97_42 (fun _ _ _ _ h => h) (sm_Sm_mono (c_least h47) (fun o M2 h' => ?_))
      obtain ⟨rfl, rfl⟩ := h'
      show (_ → _) ∧ (_ → _)
      cases e : ff (tk_l s k i) 60 0 with
      | none =>
        have := ff_none 60 0 e (tk_v s k i) (by omega) (by omega)
        rw [hin.2] at this; cases this
      | some y =>
        have hy := (ff_some 60 0 e).1
        refine ⟨fun q => ?_, fun _ => ?_⟩
        · have q : Int32.ofInt (y : Int) < 0 := q
          rw [jn_0, jn_lt (by omega) (by omega) (by omega) (by omega)] at q; omega
        refine sm_Sm_mono (c_next hw (jm_ck hm hke) h47 (fun v hv => tk_gr hv) (by omega)) (fun o M3 h' => ?_)
        obtain ⟨rfl, rfl⟩ := h'
        show (_ → _) ∧ (_ → _)
        have un : nx s (tk_l s k i) k = match nx_r s (tk_l s k i) k with | some v => some v | none => ff (tk_l s k i) 60 0 := by
          unfold nx nx_r
          cases e1 : nx_1 s (tk_l s k i) k with
          | some v => rfl
          | none => cases e2 : nx_2 s (tk_l s k i) <;> rfl
        rw [hnx] at un
        cases er : nx_r s (tk_l s k i) k with
        | some v =>
          rw [er] at un
          injection un with un
          rw [← un]
          refine ⟨fun _ => f67 _, fun q => absurd ?_ q⟩
          show 0 ≤ Int32.ofInt ((tk_v s k i : Nat) : Int)
          rw [jn_0, jn_le (by omega) (by omega) (by omega) (by omega)]; omega
        | none =>
          rw [er] at un
          refine ⟨fun q => absurd q (by decide), fun _ => ?_⟩
          refine sm_Sm_mono (c_least h47) (fun o M4 h' => ?_)
          obtain ⟨rfl, rfl⟩ := h'
          rw [← show some (tk_v s k i) = ff (tk_l s k i) 60 0 from un]
          exact f67 _
  -- the start
  have loop1 : ∀ (d w : Nat) (M1 : sm_M), w + d = 60 → (∀ v, v < w → M1.1 47 v = sm_z (js_gr s v)) → (∀ v, v < w → M1.1 49 v = Int32.ofInt (-1)) → (∀ v, v < w → M1.1 50 v = Int32.ofInt 0) → co_ke M M1 → sm_Go g 97 (sm_Fn g Q) 4 [.ref 35, .int (Int32.ofInt (k : Int)), .int (Int32.ofInt 0), .int (Int32.ofInt (w : Int)), .null, .null, .null] [] M1 := by
    intro d
    induction d with
    | zero =>
      intro w M1 hd h1 h2 h3 hke
      have ew : w = 60 := by omega
      subst ew
      refine k97_4 (fun _ _ _ _ h => h) ⟨fun _ => loop2 (tk_T s) 0 M1 _ (by omega) h1 (fun t ht => absurd ht (by omega)) h2 h3 hke, fun q => absurd ?_ q⟩
      rw [jn_le (by omega) (by omega) (by omega) (by omega)]; omega
    | succ d ih =>
      intro w M1 hd h1 h2 h3 hke
      obtain ⟨nr, mi, mk, m5, m6, mj⟩ := jm_ck hm hke
      have inw : vp_in (Int32.ofInt (w : Int)) 60 := by rw [jn_in (by omega) (by omega)]; omega
      refine k97_4 (fun _ _ _ _ h => h) ⟨fun q => ?_, fun _ => ?_⟩
      · rw [jn_le (by omega) (by omega) (by omega) (by omega)] at q; omega
      rw [show (Int32.ofInt (w : Int)).toNatClampNeg = w by rw [jn_cl (by omega) (by omega)]; omega, mi.1 w (by omega), jn_add, show (w : Int) + 1 = ((w + 1 : Nat) : Int) by omega]
      refine ⟨inw, sm_zb _, inw, inw, Or.inl rfl, inw, ih (w + 1) _ (by omega) (fun v hv => ?_) (fun v hv => ?_) (fun v hv => ?_) ⟨fun p q1 q2 q3 q4 => ?_, hke.2⟩⟩
      · rw [sI_1 (by decide), sI_1 (by decide), sI_s]
        by_cases e : v = w
        · rw [e, pk_us]
        · rw [pk_un e]; exact h1 v (by omega)
      · rw [sI_1 (by decide), sI_s]
        by_cases e : v = w
        · rw [e, pk_us]
        · rw [pk_un e, sI_1 (by decide)]; exact h2 v (by omega)
      · rw [sI_s]
        by_cases e : v = w
        · rw [e, pk_us]
        · rw [pk_un e, sI_1 (by decide), sI_1 (by decide)]; exact h3 v (by omega)
      · rw [sI_1 q4, sI_1 q3, sI_1 q1]; exact hke.1 p q1 q2 q3 q4
  refine sm_entry (Nat.le_of_ble_eq_true rfl) (Nat.le_of_ble_eq_true rfl) ?_
  exact k97_0 (fun _ _ _ _ h => h) (loop1 60 0 M (by omega) (fun v hv => absurd hv (by omega)) (fun v hv => absurd hv (by omega)) (fun v hv => absurd hv (by omega)) ⟨fun _ _ _ _ _ => rfl, rfl⟩)
end
