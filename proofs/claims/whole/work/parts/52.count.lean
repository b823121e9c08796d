-- the class's rounds
theorem bs_z {x : Int64} : lg_cmp x (Int64.ofNat 0) = 0 ↔ ∀ v, v < 64 → bs_t x v = false := by
  rw [lg_0]
  constructor
  · intro h v _; rw [h]; exact bs_0 v
  · intro h; exact bs_ext (fun i hi => by rw [h i hi, bs_0])
section
variable {g : sm_G}
/-- the class's code between two rounds -/
def ci_is (k : Nat) (M0 M : sm_M) (c : aC) : Prop := M.1 23 1 = Int32.ofInt (c.1 : Int) ∧ Ln c.1 (cd_l M 23) c.2.1 ∧ M.1 20 2 = Int32.ofInt c.2.2.1 ∧ M.1 20 3 = Int32.ofInt c.2.2.2 ∧ M.1 8 6 = Int32.ofInt (k : Int) ∧ (∀ p, p < 8 ∨ 26 < p → M.1 p = M0.1 p) ∧ ∀ p, p < 8 ∨ 26 < p → M.2 p = M0.2 p
def ci_end (k : Nat) (M0 M : sm_M) (c : aC) : Prop := M.1 23 1 = Int32.ofInt (c.1 : Int) ∧ Ln c.1 (cd_l M 23) c.2.1 ∧ (∀ v, v < 60 → M.1 13 v = Int32.ofInt (js_ld (r_s k c) v)) ∧ (∀ v, v < 60 → M.1 17 v = Int32.ofInt (gv (r_s k c) k (tk_T (r_s k c)) v)) ∧ M.1 20 3 = Int32.ofInt c.2.2.2 ∧ M.1 12 5 = js_j (r_s k c)
def ci_post (k : Nat) (M0 : sm_M) (a : Option (Nat × aC)) (o : Option Value) (M' : sm_M) : Prop :=
  (M'.1 8 6 = Int32.ofInt (k : Int) ∧ (∀ p, p < 8 ∨ 26 < p → M'.1 p = M0.1 p) ∧ ∀ p, p < 8 ∨ 26 < p → M'.2 p = M0.2 p) ∧
  match a with
  | none => o = some (.int (Int32.ofInt (-1)))
  | some (r, c) => o = some (.int (Int32.ofInt (r : Int))) ∧ ci_end k M0 M' c
theorem ci_H {M M1 : sm_M} {n : Nat} (hn : n ≤ 48) (hk : ∀ i : Nat, i < n → lv_ok (cd_l M 23 i)) (h : fd_post M 9 23 n M1) : ∀ i v, i < n → v < 64 → bs_t (M1.2 10 i) v = Hc (cd_l M 23) n i v := by
  intro i v hi hv
  obtain ⟨h1, h2, h3⟩ := h
  obtain ⟨col, hc, hb⟩ := h3 v hv
  rw [hb i (by omega), lv_Is_eq hc (lvc_Is hn v)]
  unfold Hc
  by_cases e : v < 60
  · rw [decide_eq_true e]; rfl
  · rw [decide_eq_false e, Bool.false_and]
    have no : ∀ x, lvc (cd_l M 23) n v x = false := fun x => by
      cases e2 : lvc (cd_l M 23) n v x
      · rfl
      · obtain ⟨t, t1, t2⟩ := lvc_stn hn (fun i hi => (hk i hi).1) e2
        have := stn_r (hk t t1) t2
        omega
    rw [no, no]; rfl
theorem gb_jc {M1 M2 : sm_M} {L : Int → Int → Int} {n : Nat} (hn : n ≤ 48) (hk : ∀ i : Nat, i < n → lv_ok (L i)) (h : gb_post M1 L (Hc L n) n M2) : jc_is M2 (gs L n) := by
  obtain ⟨h1, h2, h3, h4, h5, h6, -⟩ := h
  have w := gs_w hn hk
  refine ⟨fun v hv => ?_, ⟨h5, fun u v hv => ?_⟩, h3, fun v hv => ?_, h2, h6⟩
  · rw [h1 v hv]
    show _ = Int32.ofInt (if 0 < gr_c L n v then (v : Int) else -1)
    split <;> rfl
  · cases e : js_nb (gs L n) u v
    · rfl
    · have := (w.1 v (w.2.2.2.2 u v e).2).1; omega
  · rw [h4 v hv, Bool.eq_iff_iff, jt_iff, Bool.and_eq_true, decide_eq_true_eq, decide_eq_true_eq]
    constructor
    · rintro ⟨a, b⟩
      refine ⟨v, b, (w.1 v (decide_eq_true a)).1, ?_⟩
      show (if 0 < gr_c L n v then (v : Int) else -1) = _
      rw [if_pos a]
    · rintro ⟨x, a, b, c⟩
      have c : (if 0 < gr_c L n x then (x : Int) else -1) = (v : Int) := c
      by_cases d : 0 < gr_c L n x
      · rw [if_pos d] at c
        have : x = v := by omega
        subst this
        exact ⟨d, a⟩
      · rw [if_neg d] at c; omega
theorem c_rounds {ns : Nat} {Ls : Int → Int → Int} {M0 : sm_M} {k : Nat} (hk : 3 ≤ k ∧ k ≤ 6) : ∀ (f r : Nat) (c : aC) (M : sm_M), r + f = 12 → aI ns Ls c → ci_is k M0 M c → sm_Go g 0 (sm_Fn g (ci_post k M0 (ar k f c r))) 22 [.ref 8, .ref 1, .int (Int32.ofInt (k : Int)), .int (Int32.ofInt (r : Int))] [] M := by
  intro f
  induction f with
  | zero =>
    intro r c M hr ha hc
    refine k0_22 (fun _ _ _ _ h => h) ⟨fun _ => ⟨⟨hc.2.2.2.2.1, hc.2.2.2.2.2.1, hc.2.2.2.2.2.2⟩, rfl⟩, fun q => absurd ?_ q⟩
    rw [jn_lt (by omega) (by omega) (by omega) (by omega)]; omega
  | succ f ih =>
    intro r c M hr ha hc
    obtain ⟨c1, c2, c3, c4, c5, c6, c7⟩ := hc
    have n48 := ha.1
    have hok : ∀ i : Nat, i < c.1 → lv_ok (cd_l M 23 i) := fun i hi => ln_ok (c2 i hi) (aI_ok ha i hi)
    have hok' : ∀ i : Int, 0 ≤ i → i < (c.1 : Int) → lv_ok (cd_l M 23 i) := fun i h1 h2 => by have := hok i.toNat (by omega); rwa [show ((i.toNat : Nat) : Int) = i by omega] at this
    have cn : cd_n M 23 = (c.1 : Int) := by unfold cd_n; rw [c1, jn_to (by omega) (by omega)]
    obtain ⟨w1, w2, w3, w4⟩ := r_s_p ha k
    refine k0_22 (fun _ _ _ _ h => h) ⟨fun q => ?_, fun _ => ?_⟩
    · rw [jn_lt (by omega) (by omega) (by omega) (by omega)] at q; omega
    refine sm_Sm_mono (c_find (u := 9) (c := 23) (by omega) cn (by omega) hok') (fun o M1 h1 => ?_)
    obtain ⟨rfl, h1⟩ := h1
    have hH := ci_H n48 hok h1
    have e1 : M1.1 = M.1 := h1.1
    have eL1 : cd_l M1 23 = cd_l M 23 := by funext i j; unfold cd_l; rw [e1]
    refine sm_Sm_mono (c_build (n := c.1) (by unfold cd_n; rw [e1]; exact cn) n48 (by rw [eL1]; exact hok') (H := Hc (cd_l M 23) c.1) hH (fun i v _ hv => by unfold Hc; rw [decide_eq_false (by omega)]; rfl)) (fun o M2 h2 => ?_)
    obtain ⟨rfl, h2⟩ := h2
    rw [eL1] at h2
    have j2 := gb_jc n48 hok h2
    obtain ⟨-, -, -, -, -, -, -, b8, b9⟩ := h2
    have eL2 : cd_l M2 23 = cd_l M 23 := by funext i j; unfold cd_l; rw [b8 24 (by decide) (by decide) (by decide), e1]
    have egs : gs (cd_l M 23) c.1 = gs c.2.1 c.1 := gs_c n48 c2
    refine sm_Sm_mono (c_joinMoves (n := c.1) (by unfold cd_n; rw [b8 23 (by decide) (by decide) (by decide), e1]; exact cn) n48 (k := (k : Int)) (by omega) (s := gs (cd_l M 23) c.1) (gs_w n48 hok) (by rw [eL2]; exact gs_l hok) j2) (fun o M3 h3 => ?_)
    obtain ⟨rfl, j3, k3⟩ := h3
    have es : jrun (cd_l M2 23) c.1 k 60 (gs (cd_l M 23) c.1) = r_s k c := by rw [eL2, jrun_c c2, egs]; rfl
    rw [es] at j3
    refine sm_Sm_mono (c_takeOff w1 j3 (by omega)) (fun o M4 h4 => ?_)
    obtain ⟨rfl, t4, k4⟩ := h4
    have j4 : jc_is M4 (r_s k c) := jc_c j3 (k4.1 12 (by decide) (by decide) (by decide)) (k4.1 13 (by decide) (by decide) (by decide)) (k4.1 14 (by decide) (by decide) (by decide)) (by rw [k4.2.2]) (by rw [k4.2.2])
    refine sm_Sm_mono (c_give w1 j4 hk.2 t4.1 t4.2) (fun o M5 h5 => ?_)
    obtain ⟨rfl, t5, k5⟩ := h5
    -- what has stayed
    have s1 : ∀ p, p ≠ 12 → p ≠ 13 → p ≠ 14 → p ≠ 16 → p ≠ 17 → p ≠ 18 → p ≠ 19 → M5.1 p = M.1 p := fun p q1 q2 q3 q4 q5 q6 q7 => by rw [k5.1 p q5, k4.1 p q4 q6 q7, k3.1 p q1 q2 q3, b8 p q1 q2 q3, e1]
    have s2 : ∀ p, p ≠ 10 → p ≠ 11 → p ≠ 12 → p ≠ 15 → p ≠ 16 → M5.2 p = M.2 p := fun p q1 q2 q3 q4 q5 => by rw [k5.2 p q5, k4.2.2, k3.2 p q3 q4, b9 p q3 q4, h1.2.1 p q1 q2]
    have j5 : jc_is M5 (r_s k c) := jc_c j4 (k5.1 12 (by decide)) (k5.1 13 (by decide)) (k5.1 14 (by decide)) (k5.2 12 (by decide)) (k5.2 15 (by decide))
    have gf : ∀ {M' : sm_M}, (∀ p, p < 8 ∨ 26 < p → M'.1 p = M5.1 p) → (∀ p, p < 8 ∨ 26 < p → M'.2 p = M5.2 p) → (∀ p, p < 8 ∨ 26 < p → M'.1 p = M0.1 p) ∧ ∀ p, p < 8 ∨ 26 < p → M'.2 p = M0.2 p := fun f1 f2 => ⟨fun p hp => by rw [f1 p hp, s1 p (by omega) (by omega) (by omega) (by omega) (by omega) (by omega) (by omega), c6 p hp], fun p hp => by rw [f2 p hp, s2 p (by omega) (by omega) (by omega) (by omega) (by omega), c7 p hp]⟩
    have a8 : M5.1 8 6 = Int32.ofInt (k : Int) := by rw [s1 8 (by decide) (by decide) (by decide) (by decide) (by decide) (by decide) (by decide)]; exact c5
    have g5 := gf (M' := M5) (fun _ _ => rfl) (fun _ _ => rfl)
    -- the bits of the spilled groups
    have sp6 : ∀ v, 60 ≤ v → r_sp k c v = false := fun v hv => by
      cases e : r_sp k c v
      · rfl
      · have := (w1.1 v (gsp_gr (Nat.le_refl _) e)).1; omega
    have zal : lg_cmp (M5.2 16 4) (Int64.ofNat 0) = 0 ↔ r_al k c = true := by
      rw [bs_z]
      unfold r_al
      rw [gal_iff _ (Nat.le_refl _)]
      constructor
      · intro h v hv; rw [← t5.2 v (by omega)]; exact h v (by omega)
      · intro h v hv
        rw [t5.2 v hv]
        by_cases e : v < 60
        · exact h v e
        · exact sp6 v (by omega)
    have zta : lg_cmp (M5.2 16 4 &&& M5.2 12 4) (Int64.ofNat 0) = 0 ↔ ta (r_sp k c) (js_ld (r_s k c)) 60 = true := by
      rw [bs_z, ta_iff]
      constructor
      · intro h v hv hs
        have := h v (by omega)
        rw [bs_and, t5.2 v (by omega), j5.2.2.2.1 v (by omega)] at this
        have hs : gsp (r_s k c) k (tk_T (r_s k c)) v = true := hs
        rw [hs, Bool.true_and] at this
        exact this
      · intro h v hv
        rw [bs_and, t5.2 v hv, j5.2.2.2.1 v hv]
        cases e : gsp (r_s k c) k (tk_T (r_s k c)) v
        · rfl
        · by_cases e2 : v < 60
          · rw [h v e2 e]; rfl
          · have := sp6 v (by omega)
            have this : gsp (r_s k c) k (tk_T (r_s k c)) v = false := this
            rw [this] at e; cases e
    have no : r_al k c = false → r_ok k c = false → ar k (f + 1) c r = none := fun a b => by rw [ar, if_neg (by rw [a]; decide), if_neg (by rw [b]; decide)]
    show (_ → _) ∧ (_ → _)
    rw [zal, zta]
    refine ⟨fun q => ?_, fun q => ?_⟩
    · have q1 : r_al k c = false := by cases e : r_al k c; rfl; exact absurd e q
      refine ⟨fun q2 => ?_, fun q2 => ?_⟩
      · have hr := fun v (hv : v < 60) => jw_r w1 hv
        have S0 := ha.2.2.2.1
        have S1 := ha.2.2.2.2
        refine sm_Sm_mono (c_giveSlots (ld := js_ld (r_s k c)) j5.1 hr (sp := r_sp k c) (fun v hv => t5.2 v (by omega)) (S := c.2.2.2) (by rw [s1 20 (by decide) (by decide) (by decide) (by decide) (by decide) (by decide) (by decide)]; exact c4) (by omega)) (fun o M6 h6 => ?_)
        obtain ⟨rfl, d1, d2, d3, d4, d5⟩ := h6
        have eL6 : cd_l M6 23 = cd_l M 23 := by funext i j; unfold cd_l; rw [d4 24 (by decide) (by decide), s1 24 (by decide) (by decide) (by decide) (by decide) (by decide) (by decide) (by decide)]
        have e23 : M6.1 23 1 = Int32.ofInt (c.1 : Int) := by rw [d4 23 (by decide) (by decide), s1 23 (by decide) (by decide) (by decide) (by decide) (by decide) (by decide) (by decide)]; exact c1
        have e20 : M6.1 20 2 = Int32.ofInt c.2.2.1 := by rw [d3 2 (by decide), s1 20 (by decide) (by decide) (by decide) (by decide) (by decide) (by decide) (by decide)]; exact c3
        have slk : ∀ i : Nat, i < c.1 → sl_ok M6 (r_sv k c) i := fun i hi => ⟨by rw [eL6]; exact hok i hi, d1, fun v hv => svv_r (by omega) v (hr v hv).2⟩
        have ew := fun m hm => wa_c (sv := r_sv k c) (V := c.2.2.1) c2 m hm
        have V0 := ha.2.2.1
        have R6 := c_hasRoom (g := g) (sv := r_sv k c) e23 n48 slk e20 (by omega)
        rw [eL6, (ew c.1 (Nat.le_refl _)).2] at R6
        refine sm_Sm_mono R6 (fun o M7 h7 => ?_)
        obtain ⟨rfl, rfl⟩ := h7
        show (_ → _) ∧ (_ → _)
        rw [sm_z0]
        have rok : r_ok k c = (decide (c.1 + wg (r_sv k c) c.2.1 c.1 ≤ 48) && decide (c.2.2.1 + (wg (r_sv k c) c.2.1 c.1 : Nat) ≤ 60)) := by unfold r_ok; rw [q2, Bool.true_and]
        rw [← rok]
        refine ⟨fun q3 => ?_, fun q3 => ?_⟩
        · rw [Bool.not_eq_false] at q3
          obtain ⟨⟨st1, st2⟩, st3, st4⟩ := r_step ha q3 q1
          have hN : c.1 + wg (r_sv k c) (cd_l M7 23) c.1 ≤ 48 := by
            rw [eL6, (ew c.1 (Nat.le_refl _)).2]
            rw [rok, Bool.and_eq_true, decide_eq_true_eq] at q3
            exact q3.1
          refine sm_Sm_mono (c_rewrite (M0 := M7) (sv := r_sv k c) (n := c.1) e23 n48 slk (V := c.2.2.1) e20 (by omega) hN (by rw [eL6, (ew c.1 (Nat.le_refl _)).1]; exact st3)) (fun o M8 h8 => ?_)
          obtain ⟨rfl, p1, p2, p3, p4, p5, p6⟩ := h8
          rw [eL6] at p1 p2 p3
          refine sm_Sm_mono (c_copyFrom (c := 23) (d := 25) (by omega)) (fun o M9 h9 => ?_)
          obtain ⟨rfl, f1, f2, f3, f4⟩ := h9
          show sm_Go g 0 _ 22 _ _ _
          have ea : ar k (f + 1) c r = ar k f (r_nx k c) (r + 1) := by rw [ar, if_neg q, if_pos q3]
          rw [ea, jn_add, show (r : Int) + 1 = ((r + 1 : Nat) : Int) by omega]
          refine ih (r + 1) (r_nx k c) M9 (by omega) st1 ⟨?_, Ln_j (fun i hi j hj => ?_), ?_, ?_, ?_, fun p hp => ?_, fun p hp => ?_⟩
          · rw [f1, p1, (ew c.1 (Nat.le_refl _)).1, r_nx1]
          · rw [r_nx1] at hi
            have hi2 := st1.1
            rw [r_nx1] at hi2
            rw [f2 i j (by omega) hj, p2 i (by rw [(ew c.1 (Nat.le_refl _)).1]; exact hi) j hj, r_nxL, (ew c.1 (Nat.le_refl _)).1]
            unfold fx
            by_cases e : j = pf_tc ((wa (r_sv k c) c.2.1 c.2.2.1 c.1).2.1 i 0)
            · rw [if_pos e, if_pos e]
              have ok := st3 i hi
              have x0 : 0 ≤ (wa (r_sv k c) c.2.1 c.2.2.1 c.1).2.1 i j := by
                rcases pf_tc_ne (o := (wa (r_sv k c) c.2.1 c.2.2.1 c.1).2.1 i 0) (by omega) with ⟨z1, z2⟩ | ⟨z1, z2⟩
                · rw [e, z2]; exact ok.1 z1
                · rw [e, z2]; exact ok.2 z1
              show ((wa (r_sv k c) (cd_l M 23) c.2.2.1 _).1 : Int) = ((wa (r_sv k c) c.2.1 c.2.2.1 _).1 : Int)
              rw [(ew _ (show (if (c.1 : Int) < (wa (r_sv k c) c.2.1 c.2.2.1 c.1).2.1 i j then (c.1 : Int) else (wa (r_sv k c) c.2.1 c.2.2.1 c.1).2.1 i j).toNat ≤ c.1 by split <;> omega)).1]
            · rw [if_neg e, if_neg e]
          · rw [f3 20 (by decide) (by decide), p3, (ew c.1 (Nat.le_refl _)).1, r_nxV]
          · rw [f3 20 (by decide) (by decide), p5 3 (by decide), d2, r_nxS]
          · rw [f3 8 (by decide) (by decide), p4 8 (by decide) (by decide) (by decide) (by decide), d4 8 (by decide) (by decide)]; exact a8
          · rw [f3 p (by omega) (by omega), p4 p (by omega) (by omega) (by omega) (by omega), d4 p (by omega) (by omega)]; exact g5.1 p hp
          · rw [f4, p6, d5]; exact g5.2 p hp
        · rw [no q1 q3]
          exact ⟨⟨by rw [d4 8 (by decide) (by decide)]; exact a8, fun p hp => by rw [d4 p (by omega) (by omega)]; exact g5.1 p hp, fun p hp => by rw [d5]; exact g5.2 p hp⟩, rfl⟩
      · have q3 : r_ok k c = false := by
          unfold r_ok
          cases e : ta (r_sp k c) (js_ld (r_s k c)) 60
          · rfl
          · exact absurd e q2
        rw [no q1 q3]
        exact ⟨⟨a8, g5.1, g5.2⟩, rfl⟩
    · have ea : ar k (f + 1) c r = some (r, c) := by rw [ar, if_pos q]
      rw [ea]
      refine ⟨⟨a8, g5.1, g5.2⟩, rfl, ?_, fun i hi => ?_, j5.1, t5.1, ?_, j5.2.2.2.2.2⟩
      · rw [s1 23 (by decide) (by decide) (by decide) (by decide) (by decide) (by decide) (by decide)]; exact c1
      · have : cd_l M5 23 = cd_l M 23 := by funext i j; unfold cd_l; rw [s1 24 (by decide) (by decide) (by decide) (by decide) (by decide) (by decide) (by decide)]
        rw [this]; exact c2 i hi
      · rw [s1 20 (by decide) (by decide) (by decide) (by decide) (by decide) (by decide) (by decide)]; exact c4
theorem c_countRounds {ns : Nat} {Ls : Int → Int → Int} {M0 : sm_M} {k : Nat} (hk : 3 ≤ k ∧ k ≤ 6) (hn : M0.1 1 1 = Int32.ofInt (ns : Int)) (hL : Ln ns (cd_l M0 1) Ls) (ha : aI ns Ls (ns, Ls, 10, 0)) : sm_Sm g 0 [.ref 8, .ref 1, .int (Int32.ofInt (k : Int))] M0 (ci_post k M0 (ar k 11 (ns, Ls, 10, 0) 1)) := by
  have n48 := ha.1
  refine sm_entry (Nat.le_of_ble_eq_true rfl) (Nat.le_of_ble_eq_true rfl) ?_
  refine k0_0 (fun _ _ _ _ h => h) ?_
  refine sm_Sm_mono (c_copyFrom (c := 23) (d := 1) (by omega)) (fun o M1 h1 => ?_)
  obtain ⟨rfl, f1, f2, f3, f4⟩ := h1
  have B : sm_Sm g 40 [.ref 20] M1 (fun o M' => o = none ∧ M' = sm_sI (sm_sI M1 20 3 (Int32.ofInt 0)) 20 2 (Int32.ofInt 10)) := sm_entry (Nat.le_of_ble_eq_true rfl) (Nat.le_of_ble_eq_true rfl) (k40_0 (fun _ _ _ _ h => h) ⟨rfl, rfl⟩)
  refine sm_Sm_mono B (fun o M2 h2 => ?_)
  obtain ⟨rfl, rfl⟩ := h2
  refine c_rounds hk 11 1 (ns, Ls, 10, 0) _ (by omega) ha ⟨?_, fun i hi => ?_, ?_, ?_, ?_, fun p hp => ?_, fun p hp => ?_⟩
  · rw [sI_1 (by decide), sI_1 (by decide), f1, sI_1 (by decide)]; exact hn
  · have n48 : ns ≤ 48 := n48
    have hi : i < ns := hi
    have e : ∀ j : Int, 0 ≤ j ∧ j < 5 → cd_l (sm_sI (sm_sI M1 20 3 (Int32.ofInt 0)) 20 2 (Int32.ofInt 10)) 23 i j = Ls i j := fun j hj => by
      have a : cd_l (sm_sI (sm_sI M1 20 3 (Int32.ofInt 0)) 20 2 (Int32.ofInt 10)) 23 i j = cd_l M1 23 i j := by unfold cd_l; rw [sI_1 (by decide), sI_1 (by decide)]
      rw [a, f2 i j (by omega) hj]
      have b : cd_l (sm_sI M0 8 6 (Int32.ofInt (k : Int))) 1 i j = cd_l M0 1 i j := by unfold cd_l; rw [sI_1 (by decide)]
      rw [b]; exact Ln_o hL hi hj
    exact ⟨e 0 (by omega), e 1 (by omega), e 2 (by omega), e 3 (by omega), e 4 (by omega)⟩
  · rw [sI_s, pk_us]
  · rw [sI_s, pk_un (by decide), sI_s, pk_us]
  · rw [sI_1 (by decide), sI_1 (by decide), f3 8 (by decide) (by decide), sI_s, pk_us]
  · rw [sI_1 (by omega), sI_1 (by omega), f3 p (by omega) (by omega), sI_1 (by omega)]
  · show M1.2 p = _; rw [f4]; rfl
/-- the lines of the result -/
def r_fin (k : Nat) (c : aC) (i : Int) (j : Int) : Int := if pf_hv (c.2.1 i 0) j = true then gv (r_s k c) k (tk_T (r_s k c)) (js_ld (r_s k c) (c.2.1 i j).toNat).toNat else c.2.1 i j
theorem c_writeTo {ns : Nat} {Ls : Int → Int → Int} {M0 Mx : sm_M} {k : Nat} (hk : k ≤ 6) {c : aC} (ha : aI ns Ls c) (hc : ci_end k Mx M0 c) : sm_Sm g 1 [.ref 8, .ref 3] M0 (fun o M' => o = none ∧ M'.1 3 1 = Int32.ofInt (c.1 : Int) ∧ Ln c.1 (cd_l M' 3) (r_fin k c) ∧ (∀ p, p ≠ 3 → p ≠ 4 → M'.1 p = M0.1 p) ∧ M'.2 = M0.2) := by
  obtain ⟨c1, c2, c3, c4, c5, c6⟩ := hc
  have n48 := ha.1
  have hok : ∀ i : Nat, i < c.1 → lv_ok (c.2.1 i) := aI_ok ha
  obtain ⟨w1, w2, w3, w4⟩ := r_s_p ha k
  generalize hQ : (fun (o : Option Value) (M' : sm_M) => o = none ∧ M'.1 3 1 = Int32.ofInt (c.1 : Int) ∧ Ln c.1 (cd_l M' 3) (r_fin k c) ∧ (∀ p, p ≠ 3 → p ≠ 4 → M'.1 p = M0.1 p) ∧ M'.2 = M0.2) = Q
  -- a line's columns below b are done, and all lines below i
  let inv : Nat → Int → sm_M → Prop := fun i b M => M.1 3 1 = Int32.ofInt (c.1 : Int) ∧ (∀ a : Nat, a < c.1 → ∀ j : Int, 0 ≤ j ∧ j < 5 → cd_l M 3 a j = if a < i ∨ (a = i ∧ j < b) then r_fin k c a j else c.2.1 a j) ∧ (∀ p, p ≠ 3 → p ≠ 4 → M.1 p = M0.1 p) ∧ M.2 = M0.2
  have rf0 : ∀ i j, j < 1 ∨ 3 < j → r_fin k c i j = c.2.1 i j := fun i j hj => by
    unfold r_fin
    rw [if_neg]
    unfold pf_hv
    simp only [Bool.or_eq_true, Bool.and_eq_true, decide_eq_true_eq]
    omega
  have loop : ∀ (d i : Nat) (M : sm_M), i + d = c.1 → inv i 0 M → sm_Go g 1 (sm_Fn g Q) 10 [.ref 8, .ref 3, .int (Int32.ofInt (i : Int)), .null, .null] [] M := by
    intro d
    induction d with
    | zero =>
      intro i M hd hi
      obtain ⟨i1, i2, i3, i4⟩ := hi
      refine k1_10 (fun _ _ _ _ h => h) ⟨fun _ => ?_, fun q => absurd ?_ q⟩
      · rw [← hQ]
        exact ⟨rfl, i1, Ln_j (fun a ha j hj => by rw [i2 a ha j hj, if_pos (by omega)]), i3, i4⟩
      · rw [i3 23 (by decide) (by decide), c1, jn_le (by omega) (by omega) (by omega) (by omega)]; omega
    | succ d ih =>
      intro i M hd hi
      refine k1_10 (fun _ _ _ _ h => h) ⟨fun q => ?_, fun _ => ?_⟩
      · rw [hi.2.2.1 23 (by decide) (by decide), c1, jn_le (by omega) (by omega) (by omega) (by omega)] at q; omega
      have hi0 : inv i 1 M := by
        obtain ⟨i1, i2, i3, i4⟩ := hi
        refine ⟨i1, fun a ha j hj => ?_, i3, i4⟩
        rw [i2 a ha j hj]
        by_cases e : a < i
        · rw [if_pos (by omega), if_pos (by omega)]
        · rw [if_neg (by omega)]
          by_cases e2 : a = i ∧ j < 1
          · rw [if_pos (by omega), rf0 _ _ (by omega)]
          · rw [if_neg (by omega)]
      have last : ∀ M2 : sm_M, inv i 4 M2 → sm_Go g 1 (sm_Fn g Q) 23 [.ref 8, .ref 3, .int (Int32.ofInt (i : Int)), .int (Int32.ofInt 4), .null] [] M2 := fun M2 h2 => by
        refine k1_23 (fun _ _ _ _ h => h) ⟨fun _ => ?_, fun q => absurd (by decide) q⟩
        rw [jn_add, show (i : Int) + 1 = ((i + 1 : Nat) : Int) by omega]
        refine sm_wk (L := [.ref 8, .ref 3, .int (Int32.ofInt ((i + 1 : Nat) : Int)), .null, .null]) ⟨rfl, rfl, rfl, trivial⟩ (ih (i + 1) M2 (by omega) ?_)
        obtain ⟨i1, i2, i3, i4⟩ := h2
        refine ⟨i1, fun a ha j hj => ?_, i3, i4⟩
        rw [i2 a ha j hj]
        by_cases e : a < i
        · rw [if_pos (by omega), if_pos (by omega)]
        · by_cases e2 : a = i
          · rw [if_pos (show a < i + 1 ∨ (a = i + 1 ∧ j < 0) by omega)]
            by_cases e3 : j < 4
            · rw [if_pos (by omega)]
            · rw [if_neg (by omega), rf0 _ _ (by omega)]
          · rw [if_neg (by omega), if_neg (by omega)]
      have step : ∀ b : Int, 1 ≤ b ∧ b < 4 → (∀ M2 : sm_M, inv i (b + 1) M2 → sm_Go g 1 (sm_Fn g Q) 23 [.ref 8, .ref 3, .int (Int32.ofInt (i : Int)), .int (Int32.ofInt (b + 1)), .null] [] M2) → ∀ M2 : sm_M, inv i b M2 → sm_Go g 1 (sm_Fn g Q) 23 [.ref 8, .ref 3, .int (Int32.ofInt (i : Int)), .int (Int32.ofInt b), .null] [] M2 := by
        intro b hb nxt M2 h2
        obtain ⟨i1, i2, i3, i4⟩ := h2
        have ti : (Int32.ofInt (i : Int)).toInt = i := jn_to (by omega) (by omega)
        have tb : (Int32.ofInt b).toInt = b := jn_to (by omega) (by omega)
        have t0 : (Int32.ofInt 0).toInt = 0 := rfl
        have eL : ∀ j : Int, 0 ≤ j ∧ j < 5 → cd_l M2 23 i j = c.2.1 i j := fun j hj => by
          have : cd_l M2 23 i j = cd_l M0 23 i j := by unfold cd_l; rw [i3 24 (by decide) (by decide)]
          rw [this]; exact Ln_o c2 (by omega) hj
        refine k1_23 (fun _ _ _ _ h => h) ⟨fun q => ?_, fun _ => ?_⟩
        · rw [jn_lt (by omega) (by omega) (by omega) (by omega)] at q; omega
        rw [ti, tb, t0, cd_lt, eL 0 (by omega), eL b (by omega), sm_z0]
        refine ⟨⟨by omega, by omega, by omega, by omega⟩, fun q => k1_79 (fun _ _ _ _ h => h) ?_, fun q => ?_⟩
        · rw [jn_add]
          refine nxt M2 ⟨i1, fun a ha j hj => ?_, i3, i4⟩
          rw [i2 a ha j hj]
          by_cases e : a < i ∨ (a = i ∧ j < b)
          · rw [if_pos e, if_pos (by omega)]
          · rw [if_neg e]
            by_cases e2 : a = i ∧ j = b
            · rw [if_pos (by omega), e2.1, e2.2, r_fin, if_neg (by rw [q]; decide)]
            · rw [if_neg (by omega)]
        · rw [Bool.not_eq_false] at q
          have rb := lv_hv (hok i (by omega)) hb q
          have hst : stn (c.2.1 i) (c.2.1 i b) := by
            have hj3 : b = 1 ∨ b = 2 ∨ b = 3 := by omega
            rcases hj3 with e | e | e <;> subst e
            · exact Or.inl ⟨q, rfl⟩
            · exact Or.inr (Or.inl ⟨q, rfl⟩)
            · exact Or.inr (Or.inr ⟨q, rfl⟩)
          have l0 := w4 (c.2.1 i b).toNat ((gr_c_stn _).mpr ⟨i, by omega, by rw [show (((c.2.1 i b).toNat : Nat) : Int) = c.2.1 i b by omega]; exact hst⟩)
          have lr := jw_r w1 (v := (c.2.1 i b).toNat) (by omega)
          have gr := gv_r (s := r_s k c) (k := k) (tk_T (r_s k c)) (js_ld (r_s k c) (c.2.1 i b).toNat).toNat
          rw [jn_cl (a := c.2.1 i b) (by omega) (by omega), i3 13 (by decide) (by decide), c3 _ (by omega), jn_cl (a := js_ld (r_s k c) (c.2.1 i b).toNat) (by omega) (by omega), i3 17 (by decide) (by decide), c4 _ (by omega)]
          refine ⟨⟨by omega, by omega, by omega, by omega⟩, by rw [jn_in (by omega) (by omega)]; omega, by rw [jn_in (by omega) (by omega)]; omega, sm_Sm_mono (c_change (by omega) (by omega) (by omega)) (fun o M3 h3 => ?_)⟩
          obtain ⟨rfl, rfl⟩ := h3
          refine sm_wk (L := [.ref 8, .ref 3, .int (Int32.ofInt (i : Int)), .int (Int32.ofInt b), .null]) ⟨rfl, rfl, rfl, rfl, trivial⟩ (k1_79 (fun _ _ _ _ h => h) ?_)
          rw [jn_add]
          refine nxt _ ⟨by rw [sI_1 (by decide)]; exact i1, fun a ha j hj => ?_, fun p p1 p2 => by rw [sI_1 p2]; exact i3 p p1 p2, i4⟩
          rw [cd_set (by omega) (by omega) (by omega) hj]
          by_cases e2 : (a : Int) = i ∧ j = b
          · have ea : a = i := by omega
            rw [if_pos e2, if_pos (by omega), ea, e2.2, r_fin, if_pos q, jn_to (by omega) (by omega)]
          · rw [if_neg e2, i2 a ha j hj]
            by_cases e : a < i ∨ (a = i ∧ j < b)
            · rw [if_pos e, if_pos (by omega)]
            · rw [if_neg e, if_neg (by omega)]
      exact step 1 (by omega) (step 2 (by omega) (step 3 (by omega) last)) M hi0
  refine sm_entry (Nat.le_of_ble_eq_true rfl) (Nat.le_of_ble_eq_true rfl) ?_
  refine k1_0 (fun _ _ _ _ h => h) (sm_Sm_mono (c_copyFrom (c := 3) (d := 23) (by omega)) (fun o M1 h1 => ?_))
  obtain ⟨rfl, f1, f2, f3, f4⟩ := h1
  refine loop c.1 0 M1 (by omega) ⟨by rw [f1]; exact c1, fun a ha j hj => ?_, f3, f4⟩
  rw [f2 a j (by omega) hj, if_neg (by omega)]
  exact Ln_o c2 ha hj
end
