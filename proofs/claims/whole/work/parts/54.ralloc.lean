-- the reference's rounds
section
variable {g : sm_G}
theorem jrun_none {L : Int → Int → Int} {n : Nat} {k : Int} {s : jS} (h : js_f L n k s = none) : ∀ d, jrun L n k d s = s
  | 0 => rfl
  | d + 1 => by rw [jrun, h]
theorem rf_stable {M M' : sm_M} {L : Int → Int → Int} {n : Nat} (h : jm_ke M M') (hL : Ln n (rf_L M 16) L) : Ln n (rf_L M' 16) L := rL_c hL (h.2.1 36 (by decide) (by decide) (by decide) (by decide) (by decide)) (h.2.1 37 (by decide) (by decide) (by decide) (by decide) (by decide)) (h.2.1 38 (by decide) (by decide) (by decide) (by decide) (by decide)) (h.2.1 39 (by decide) (by decide) (by decide) (by decide) (by decide)) (h.2.1 40 (by decide) (by decide) (by decide) (by decide) (by decide))
theorem c_mjoins {Fi : sm_F} {k n : Nat} (hk : k ≤ 6) (hn2 : n ≤ 48) {L : Int → Int → Int} {x2 x3 : Int32} {Mx : sm_M} {sx : jS} (cont : ∀ M, jm_ke Mx M → jm_is M sx → Ln n (rf_L M 16) L → sm_Go g 104 Fi 123 [.ref 35, .int (Int32.ofInt (k : Int)), .int x2, .int x3, .int (Int32.ofInt 0), .null] [] M) {Q : Option Value → sm_M → Prop} (hF : ∀ below args s t, MQ below (sm_Qc g Q) args s 0 0 (sm_A g) t → Fi below args s t) :
    ∀ (d : Nat) (s : jS) (M : sm_M), bct (js_gr s) 60 ≤ d → jw s → jl L n s → jm_is M s → jm_ke Mx M → Ln n (rf_L M 16) L → M.1 35 7 = Int32.ofInt (n : Int) → jrun L n k d s = sx → sm_Go g 104 Fi 123 [.ref 35, .int (Int32.ofInt (k : Int)), .int x2, .int x3, .int (Int32.ofInt 1), .null] [] M := by
  intro d
  induction d with
  | zero =>
    intro s M hb hw hl hm hke hL h7 hx
    refine k104_123 hF ⟨fun q => absurd q (by decide), fun _ => ?_⟩
    have ef : js_f (rf_L M 16) n k s = js_f L n k s := jf_c hL n 0 (by omega)
    have hl' : jl (rf_L M 16) n s := fun i hi h0 => by
      obtain ⟨a0, a1, a2, a3, a4⟩ := hL i hi
      rw [a0] at h0
      rw [a1, a2]; exact hl i hi h0
    refine sm_Sm_mono (c_joinsOne h7 hn2 (by omega) hw hl' hm) (fun o M1 h1 => ?_)
    rw [ef] at h1
    cases e : js_f L n k s with
    | none =>
      rw [e] at h1
      obtain ⟨rfl, rfl⟩ := h1
      rw [jrun_none e] at hx
      rw [← hx] at cont
      exact cont M1 hke hm hL
    | some p =>
      obtain ⟨b1, g1, g2, nn⟩ := js_f_ok hw hl e
      have := bct_z (f := js_gr s) 60 (by omega) (max p.1 p.2) (by omega)
      rw [g2] at this; cases this
  | succ d ih =>
    intro s M hb hw hl hm hke hL h7 hx
    refine k104_123 hF ⟨fun q => absurd q (by decide), fun _ => ?_⟩
    have ef : js_f (rf_L M 16) n k s = js_f L n k s := jf_c hL n 0 (by omega)
    have hl' : jl (rf_L M 16) n s := fun i hi h0 => by
      obtain ⟨a0, a1, a2, a3, a4⟩ := hL i hi
      rw [a0] at h0
      rw [a1, a2]; exact hl i hi h0
    refine sm_Sm_mono (c_joinsOne h7 hn2 (by omega) hw hl' hm) (fun o M1 h1 => ?_)
    rw [ef] at h1
    cases e : js_f L n k s with
    | none =>
      rw [e] at h1
      obtain ⟨rfl, rfl⟩ := h1
      rw [jrun_none e] at hx
      rw [← hx] at cont
      exact cont M1 hke hm hL
    | some p =>
      rw [e] at h1
      obtain ⟨rfl, j1, k1⟩ := h1
      obtain ⟨b1, g1, g2, nn⟩ := js_f_ok hw hl e
      have bo := bct_out g2 60 b1.2
      rw [jrun, e] at hx
      refine ih (jj s (min p.1 p.2) (max p.1 p.2)) M1 ?_ (jw_jj hw g1 (by omega) nn) (jl_jj hl _ _) j1 (jm_kt hke k1) (rf_stable k1 hL) (by rw [k1.1 7 (by decide)]; exact h7) hx
      show bct (fun v => js_gr s v && !decide (max p.1 p.2 = v)) 60 ≤ d
      omega
theorem c_mrounds {ns : Nat} {Ls : Int → Int → Int} {M0 : sm_M} {k : Nat} (hk : 3 ≤ k ∧ k ≤ 6) : ∀ (f r : Nat) (c : aC) (M : sm_M), r + f = 12 → 1 ≤ r → 11 - c.2.2.2 ≤ (f : Int) → aI ns Ls c → mi_is k M0 M c → sm_Go g 104 (sm_Fn g (mi_post k M0 (ar k f c r))) 87 [.ref 35, .int (Int32.ofInt (k : Int)), .int (Int32.ofInt ((r : Int) - 1)), .int (Int32.ofInt 1), .null, .null] [] M := by
  intro f
  induction f with
  | zero =>
    intro r c M hr hr1 hf ha hc
    have := ha.2.2.2.2
    omega
  | succ f ih =>
    intro r c M hr hr1 hf ha hc
    obtain ⟨hm, c24, c7, cL, c21, c22⟩ := hc
    have n48 := ha.1
    have hok : ∀ i : Nat, i < c.1 → lv_ok (c.2.1 i) := aI_ok ha
    obtain ⟨w1, w2, w3, w4⟩ := r_s_p ha k
    have hrl : ∀ i : Int, 0 ≤ i → i < (c.1 : Int) → rl_ok (rf_L M 16 i) := fun i h1 h2 => by
      obtain ⟨a0, a1, a2, a3, a4⟩ := cL i.toNat (by omega)
      rw [show ((i.toNat : Nat) : Int) = i by omega] at a0 a1 a2 a3 a4
      have := hok i.toNat (by omega)
      rw [show ((i.toNat : Nat) : Int) = i by omega] at this
      unfold rl_ok
      rw [a0, a2, a3]; exact ⟨this.2.2.2.2.1, this.2.2.2.2.2⟩
    refine k104_87 (fun _ _ _ _ h => h) ⟨fun q => absurd q (by decide), fun _ => ⟨fun q => absurd c24 q, fun _ => ?_⟩⟩
    rw [c7]
    refine sm_Sm_mono (c_findLive (b := 16) (n := (c.1 : Int)) (by omega) (by omega) hrl) (fun o M1 h1 => ?_)
    obtain ⟨rfl, l1, l2, l3⟩ := h1
    have eL1 : Ln c.1 (rf_L M1 16) c.2.1 := rL_c cL (l2 36 (by decide) (by decide)) (l2 37 (by decide) (by decide)) (l2 38 (by decide) (by decide)) (l2 39 (by decide) (by decide)) (l2 40 (by decide) (by decide))
    have hok1 : ∀ i : Int, 0 ≤ i → i < (c.1 : Int) → lv_ok (rf_L M1 16 i) := fun i h1 h2 => by
      have a := ln_ok (eL1 i.toNat (by omega)) (hok i.toNat (by omega))
      rwa [show ((i.toNat : Nat) : Int) = i by omega] at a
    have hH : ∀ i v, i < c.1 → v < 60 → M1.1 42 (60 * i + v) = sm_z (Hc c.2.1 c.1 i v) := fun i v hi hv => by
      obtain ⟨col, hc1, hc2⟩ := l3 v hv
      rw [hc2 i (by omega), lv_Is_eq (lv_Is_c cL hc1) (lvc_Is n48 v)]
      obtain ⟨a0, a1, a2, a3, a4⟩ := cL i hi
      unfold Hc lv_on lv_as
      rw [decide_eq_true hv, Bool.true_and, a0, a2, a3]
    refine sm_Sm_mono (c_buildGroups (n := c.1) (by rw [l2 35 (by decide) (by decide)]; exact c7) n48 hok1 hH) (fun o M2 h2 => ?_)
    obtain ⟨rfl, h2⟩ := h2
    rw [show gr_c (rf_L M1 16) c.1 = gr_c c.2.1 c.1 from funext fun v => gr_c_c c.1 eL1, show gr_N (rf_L M1 16) (Hc c.2.1 c.1) c.1 = gr_N c.2.1 (Hc c.2.1 c.1) c.1 from funext fun u => funext fun v => gr_N_c c.1 eL1 (fun _ _ => ⟨rfl, rfl⟩)] at h2
    have j3 := rb_jm n48 hok h2
    obtain ⟨-, -, -, -, b5, b6⟩ := h2
    show sm_Go g 104 _ 123 _ _ _
    rw [jn_add, show (r : Int) - 1 + 1 = (r : Int) by omega]
    generalize hM3 : sm_sI M2 35 20 (Int32.ofInt 0) = M3 at *
    have m3p : ∀ p, p < 41 ∨ 46 < p → p ≠ 35 → M3.1 p = M.1 p := fun p q1 q2 => by rw [← hM3, sI_1 q2, b5 p (by omega) (by omega) (by omega) (by omega), l2 p (by omega) (by omega)]
    have m335 : ∀ i, i ≠ 20 → M3.1 35 i = M.1 35 i := fun i hi => by rw [← hM3, sI_s, pk_un hi, b5 35 (by decide) (by decide) (by decide) (by decide), l2 35 (by decide) (by decide)]
    have m32 : M3.2 = M.2 := by rw [← hM3]; show M2.2 = M.2; rw [b6, l1]
    have eL3 : Ln c.1 (rf_L M3 16) c.2.1 := rL_c cL (m3p 36 (by decide) (by decide)) (m3p 37 (by decide) (by decide)) (m3p 38 (by decide) (by decide)) (m3p 39 (by decide) (by decide)) (m3p 40 (by decide) (by decide))
    refine c_mjoins (n := c.1) hk.2 n48 (L := c.2.1) (Mx := M3) (sx := r_s k c) (fun M4 k4 j4 L4 => ?_) (fun _ _ _ _ h => h) 60 (gs c.2.1 c.1) M3 (bct_le _ _) (gs_w n48 hok) (gs_l hok) j3 ⟨fun _ _ => rfl, fun _ _ _ _ _ _ => rfl, rfl⟩ eL3 (by rw [m335 7 (by decide)]; exact c7) rfl
    -- all is joined
    refine k104_123 (fun _ _ _ _ h => h) ⟨fun _ => ?_, fun q => absurd rfl q⟩
    refine sm_Sm_mono (c_colour w1 j4 hk.2) (fun o M5 h5 => ?_)
    obtain ⟨rfl, p5, k5⟩ := h5
    show (_ ∨ _) ∧ _
    rw [pk_us]
    have e0 : ∀ p, p < 41 ∨ 52 < p → p ≠ 35 → M5.1 p = M.1 p := fun p q1 q2 => by rw [k5.1 p (by omega) (by omega) (by omega) (by omega), k4.2.1 p q2 (by omega) (by omega) (by omega) (by omega), m3p p (by omega) q2]
    have e35 : ∀ i, i ≠ 20 → M5.1 35 i = M.1 35 i := fun i hi => by rw [k5.1 35 (by decide) (by decide) (by decide) (by decide), k4.1 i hi, m335 i hi]
    have e2 : M5.2 = M.2 := by rw [k5.2, k4.2.2, m32]
    have j5 : jm_is M5 (r_s k c) := jm_ck j4 k5
    -- after done is set
    generalize hM6 : sm_sI M5 35 24 (sm_z (gal (r_s k c) k (tk_T (r_s k c)))) = M6 at *
    have m6p : ∀ p, p ≠ 35 → M6.1 p = M5.1 p := fun p hp => by rw [← hM6, sI_1 hp]
    have m635 : ∀ i, i ≠ 24 → M6.1 35 i = M5.1 35 i := fun i hi => by rw [← hM6, sI_s, pk_un hi]
    have m624 : M6.1 35 24 = sm_z (r_al k c) := by rw [← hM6, sI_s, pk_us]; rfl
    have f6 : mf k M0 M6 := mf_c hm (fun p q1 q2 => by rw [m6p p q2]; exact e0 p q1 q2) (fun i i1 i2 => by rw [m635 i i2]; exact e35 i i1) (by rw [← hM6]; exact e2)
    have L6 : Ln c.1 (rf_L M6 16) c.2.1 := rL_c cL (by rw [m6p 36 (by decide)]; exact e0 36 (by decide) (by decide)) (by rw [m6p 37 (by decide)]; exact e0 37 (by decide) (by decide)) (by rw [m6p 38 (by decide)]; exact e0 38 (by decide) (by decide)) (by rw [m6p 39 (by decide)]; exact e0 39 (by decide) (by decide)) (by rw [m6p 40 (by decide)]; exact e0 40 (by decide) (by decide))
    have c76 : M6.1 35 7 = Int32.ofInt (c.1 : Int) := by rw [m635 7 (by decide), e35 7 (by decide)]; exact c7
    have j6 : jm_is M6 (r_s k c) := jm_c j5 (m635 20 (by decide)) (m6p 43 (by decide)) (m6p 44 (by decide)) (m6p 45 (by decide)) (m6p 46 (by decide))
    have ral : sm_z (gal (r_s k c) k (tk_T (r_s k c))) = sm_z (r_al k c) := rfl
    refine ⟨sm_zb _, ?_⟩
    rw [ral, sm_z0]
    refine ⟨fun q => ?_, fun q => ?_⟩
    · rw [Bool.not_eq_false] at q
      have ea : ar k (f + 1) c r = some (r, c) := by rw [ar, if_pos q]
      rw [ea]
      refine k104_161 (fun _ _ _ _ h => h) (k104_166 (fun _ _ _ _ h => h) ?_)
      refine sm_wk (L := [.ref 35, .int (Int32.ofInt (k : Int)), .int (Int32.ofInt (r : Int)), .int (Int32.ofInt 1), .null, .null]) ⟨rfl, rfl, rfl, rfl, trivial⟩ ?_
      obtain ⟨nr, mi, mk, m5, m6, mj⟩ := j6
      have e24 : M6.1 35 24 = Int32.ofInt 1 := by rw [m624, q]; rfl
      have F := c_mfin (g := g) hk ha (r := r) (x3 := Int32.ofInt 1) (x4 := 0) (M := M6) (by omega) f6 e24 c76 L6 (by rw [m635 22 (by decide), e35 22 (by decide)]; exact c22) mj m5 (fun v hv => by rw [m6p 49 (by decide)]; exact p5.1 v hv)
      exact k104_87 (fun _ _ _ _ h => h) ⟨fun _ => F, fun _ => ⟨fun _ => F, fun z => by rw [e24] at z; exact absurd z (by decide)⟩⟩
    · have V0 := ha.2.2.1
      have S0 := ha.2.2.2.1
      have S1 := ha.2.2.2.2
      have ew := fun m hm => wa_c (sv := r_sv k c) (V := c.2.2.1) L6 m hm
      have erk : rA_ok M6 (r_s k c) (r_sp k c) c.1 c.2.2.1 c.2.2.2 = r_ok k c := by
        unfold rA_ok
        rw [show svv (js_ld (r_s k c)) (r_sp k c) c.2.2.2 60 = r_sv k c from rfl, (ew c.1 (Nat.le_refl _)).2]
        rfl
      have W := wa_q (ns := ns) (Ls := Ls) (S := c.2.2.2 + (bct (r_sp k c) 60 : Nat)) (sv := r_sv k c) (P := fun v => True) (L := c.2.1) (n := c.1) (V := c.2.2.1) (S0 := c.2.2.2) V0.1 (by omega) ha.2.1 (fun i hi v hv hn => by
        obtain ⟨a1, a2, a3⟩ := svv_ne hn
        have := bct_lt2 a2 60 (by omega)
        unfold r_sv
        rw [a3]; omega) (fun _ _ _ _ _ => trivial) c.1 (Nat.le_refl _)
      have A := c_rewriteAll (g := g) (M0 := M6) w1 j6 (n := c.1) c76 n48 (fun i hi => ln_ok (L6 i hi) (hok i hi)) (sp := r_sp k c) (fun v hv => by rw [m6p 50 (by decide)]; exact p5.2 v hv) (fun v hv => gsp_gr (Nat.le_refl _) hv) (V := c.2.2.1) (S := c.2.2.2) (by rw [m635 21 (by decide), e35 21 (by decide)]; exact c21) (by omega) (by rw [m635 22 (by decide), e35 22 (by decide)]; exact c22) (by omega)
        (fun hta i hi h9 => by
          obtain ⟨a0, a1, a2, a3, a4⟩ := L6 i hi
          rw [a0] at h9
          rw [a1]
          apply Classical.byContradiction
          intro hn
          obtain ⟨b1, b2, b3⟩ := svv_ne hn
          have l1 := ((ha.2.1 i hi).2.2.2.2.1 (by omega)).1
          have hst : stn (c.2.1 i) (c.2.1 i 1) := Or.inl ⟨by rw [h9]; rfl, rfl⟩
          have r1 := (ha.2.1 i hi).2.1 _ hst
          have := (ta_iff 60).mp hta _ (by omega) b2
          rw [jt_b (jt_iff 60)] at this
          exact this ⟨(c.2.1 i 1).toNat, by omega, by omega, by omega⟩)
        (by
          rw [show svv (js_ld (r_s k c)) (r_sp k c) c.2.2.2 60 = r_sv k c from rfl, (ew c.1 (Nat.le_refl _)).1]
          exact fun i hi => ⟨(W i hi).1.2.2.1, (W i hi).1.2.2.2.1⟩)
      rw [erk] at A
      refine sm_Sm_mono A (fun o M7 h7 => ?_)
      obtain ⟨rfl, fr7, po7⟩ := h7
      have f7 : mf k M0 M7 := by
        obtain ⟨a1, a2, a3, a4, a5, a6⟩ := f6
        exact ⟨fun p q1 => by rw [fr7.1 p (by omega) (by omega) (by omega)]; exact a1 p q1, fun i q1 q2 q3 q4 q5 q6 q7 q8 q9 => by rw [fr7.2.1 i q2 q3 q5 q6 q9]; exact a2 i q1 q2 q3 q4 q5 q6 q7 q8 q9, fun j hj i hi => by rw [fr7.2.2.1 j hj i hi]; exact a3 j hj i hi, by rw [fr7.2.2.2, a4], by rw [fr7.2.1 0 (by decide) (by decide) (by decide) (by decide) (by decide)]; exact a5, by rw [fr7.2.1 23 (by decide) (by decide) (by decide) (by decide) (by decide)]; exact a6⟩
      have c247 : M7.1 35 24 = Int32.ofInt 0 := by rw [fr7.2.1 24 (by decide) (by decide) (by decide) (by decide) (by decide), m624, q]; rfl
      show (_ → _) ∧ (_ → _)
      rw [sm_z0]
      refine ⟨fun q2 => k104_166 (fun _ _ _ _ h => h) ?_, fun q2 => k104_161 (fun _ _ _ _ h => h) (k104_166 (fun _ _ _ _ h => h) ?_)⟩
      · have ea : ar k (f + 1) c r = none := by rw [ar, if_neg (by rw [q]; decide), if_neg (by rw [q2]; decide)]
        rw [ea]
        refine sm_wk (L := [.ref 35, .int (Int32.ofInt (k : Int)), .int (Int32.ofInt (r : Int)), .int (Int32.ofInt 0), .null, .null]) ⟨rfl, rfl, rfl, rfl, trivial⟩ ?_
        refine k104_87 (fun _ _ _ _ h => h) ⟨fun _ => k104_170 (fun _ _ _ _ h => h) ⟨fun z => absurd c247 z, fun _ => ⟨f7, rfl, c247⟩⟩, fun z => absurd rfl z⟩
      · rw [Bool.not_eq_false] at q2
        obtain ⟨⟨st1, st2⟩, st3, st4⟩ := r_step ha q2 q
        obtain ⟨o1, o2, o3, o4⟩ := po7 q2
        rw [show svv (js_ld (r_s k c)) (r_sp k c) c.2.2.2 60 = r_sv k c from rfl] at o1 o2 o3
        have ea : ar k (f + 1) c r = ar k f (r_nx k c) (r + 1) := by rw [ar, if_neg (by rw [q]; decide), if_pos q2]
        rw [ea]
        refine sm_wk (L := [.ref 35, .int (Int32.ofInt (k : Int)), .int (Int32.ofInt (((r + 1 : Nat) : Int) - 1)), .int (Int32.ofInt 1), .null, .null]) ⟨rfl, rfl, by rw [show ((r + 1 : Nat) : Int) - 1 = (r : Int) by omega], rfl, trivial⟩ (ih (r + 1) (r_nx k c) M7 (by omega) (by omega) (by omega) st1 ⟨f7, c247, ?_, rL_of (fun i hi j hj => ?_), ?_, ?_⟩)
        · rw [o1, (ew c.1 (Nat.le_refl _)).1, r_nx1]
        · rw [r_nx1] at hi
          rw [o2 i (by rw [(ew c.1 (Nat.le_refl _)).1]; exact hi) j hj, r_nxL, (ew c.1 (Nat.le_refl _)).1]
          unfold fx
          by_cases e : (j : Int) = pf_tc ((wa (r_sv k c) c.2.1 c.2.2.1 c.1).2.1 i 0)
          · rw [if_pos e, if_pos e]
            have ok := st3 i hi
            have x0 : 0 ≤ (wa (r_sv k c) c.2.1 c.2.2.1 c.1).2.1 i (j : Int) := by
              rcases pf_tc_ne (o := (wa (r_sv k c) c.2.1 c.2.2.1 c.1).2.1 i 0) (by omega) with ⟨z1, z2⟩ | ⟨z1, z2⟩
              · rw [e, z2]; exact ok.1 z1
              · rw [e, z2]; exact ok.2 z1
            show ((wa (r_sv k c) (rf_L M6 16) c.2.2.1 _).1 : Int) = ((wa (r_sv k c) c.2.1 c.2.2.1 _).1 : Int)
            rw [(ew _ (show (if (c.1 : Int) < (wa (r_sv k c) c.2.1 c.2.2.1 c.1).2.1 i (j : Int) then (c.1 : Int) else (wa (r_sv k c) c.2.1 c.2.2.1 c.1).2.1 i (j : Int)).toNat ≤ c.1 by split <;> omega)).1]
          · rw [if_neg e, if_neg e]
        · rw [o3, (ew c.1 (Nat.le_refl _)).1, r_nxV]
        · rw [o4, r_nxS]
/-- allocate: the reference fails outside 3 to 6, else it goes the rounds -/
def al_post (k : Int) (ns : Nat) (Ls : Int → Int → Int) (M0 : sm_M) (o : Option Value) (M' : sm_M) : Prop :=
  if 3 ≤ k ∧ k ≤ 6 then mi_post k.toNat M0 (ar k.toNat 11 (ns, Ls, 10, 0) 1) o M' else o = some (.int (Int32.ofInt 0)) ∧ M' = sm_sI M0 35 0 (Int32.ofInt 1)
theorem c_rallocate {ns : Nat} {Ls : Int → Int → Int} {M0 : sm_M} {k : Int} (hk : -2147483648 ≤ k ∧ k < 2147483648) (hn : M0.1 35 6 = Int32.ofInt (ns : Int)) (hns : ns ≤ 16) (hL : Ln ns (rf_L M0 0) Ls) (ha : aI ns Ls (ns, Ls, 10, 0)) : sm_Sm g 104 [.ref 35, .int (Int32.ofInt k)] M0 (al_post k ns Ls M0) := by
  refine sm_entry (Nat.le_of_ble_eq_true rfl) (Nat.le_of_ble_eq_true rfl) ?_
  refine k104_0 (fun _ _ _ _ h => h) ?_
  rw [jn_lt (by omega) (by omega) (by omega) (by omega), jn_le (by omega) (by omega) (by omega) (by omega)]
  have bad : ¬ (3 ≤ k ∧ k ≤ 6) → sm_Go g 104 (sm_Fn g (al_post k ns Ls M0)) 12 [.ref 35, .int (Int32.ofInt k), .null, .null, .null, .null] [.ref 35] M0 := fun e => by
    refine k104_12 (fun _ _ _ _ h => h) (k104_17 (fun _ _ _ _ h => h) ⟨fun q => ?_, fun _ => ?_⟩)
    · rw [pk_us] at q; exact absurd q (by decide)
    · unfold al_post; rw [if_neg e]; exact ⟨rfl, rfl⟩
  refine ⟨fun q => bad (by omega), fun q => ⟨fun q2 => ?_, fun q2 => bad (by omega)⟩⟩
  have h36 : 3 ≤ k ∧ k ≤ 6 := by omega
  have ek : (k.toNat : Int) = k := by omega
  have eQ : al_post k ns Ls M0 = mi_post k.toNat M0 (ar k.toNat 11 (ns, Ls, 10, 0) 1) := by funext o M'; unfold al_post; rw [if_pos h36]
  rw [eQ]
  refine k104_17 (fun _ _ _ _ h => h) ⟨fun _ => ⟨Or.inl rfl, ?_⟩, fun q => absurd (by rw [pk_us]; decide) q⟩
  rw [pk_un (by decide), pk_un (by decide), pk_un (by decide), pk_un (by decide), pk_un (by decide), hn]
  generalize hM1 : sm_sI (sm_sI (sm_sI (sm_sI (sm_sI (sm_sI M0 35 0 (Int32.ofInt 0)) 35 23 (Int32.ofInt k)) 35 21 (Int32.ofInt 10)) 35 22 (Int32.ofInt 0)) 35 24 (Int32.ofInt 0)) 35 7 (Int32.ofInt (ns : Int)) = M1
  have p1 : ∀ p, p ≠ 35 → M1.1 p = M0.1 p := fun p hp => by rw [← hM1, sI_1 hp, sI_1 hp, sI_1 hp, sI_1 hp, sI_1 hp, sI_1 hp]
  have p35 : ∀ i, i ≠ 0 → i ≠ 23 → i ≠ 21 → i ≠ 22 → i ≠ 24 → i ≠ 7 → M1.1 35 i = M0.1 35 i := fun i q1 q2 q3 q4 q5 q6 => by rw [← hM1, sI_s, pk_un q6, sI_s, pk_un q5, sI_s, pk_un q4, sI_s, pk_un q3, sI_s, pk_un q2, sI_s, pk_un q1]
  have a7 : M1.1 35 7 = Int32.ofInt (ns : Int) := by rw [← hM1, sI_s, pk_us]
  have a24 : M1.1 35 24 = Int32.ofInt 0 := by rw [← hM1, sI_s, pk_un (by decide), sI_s, pk_us]
  have a22 : M1.1 35 22 = Int32.ofInt 0 := by rw [← hM1, sI_s, pk_un (by decide), sI_s, pk_un (by decide), sI_s, pk_us]
  have a21 : M1.1 35 21 = Int32.ofInt 10 := by rw [← hM1, sI_s, pk_un (by decide), sI_s, pk_un (by decide), sI_s, pk_un (by decide), sI_s, pk_us]
  have a23 : M1.1 35 23 = Int32.ofInt ((k.toNat : Nat) : Int) := by rw [← hM1, sI_s, pk_un (by decide), sI_s, pk_un (by decide), sI_s, pk_un (by decide), sI_s, pk_un (by decide), sI_s, pk_us, ek]
  have a0 : M1.1 35 0 = Int32.ofInt 0 := by rw [← hM1, sI_s, pk_un (by decide), sI_s, pk_un (by decide), sI_s, pk_un (by decide), sI_s, pk_un (by decide), sI_s, pk_un (by decide), sI_s, pk_us]
  have a6 : M1.1 35 6 = Int32.ofInt (ns : Int) := by rw [p35 6 (by decide) (by decide) (by decide) (by decide) (by decide) (by decide)]; exact hn
  have a2 : M1.2 = M0.2 := by rw [← hM1]; rfl
  have loop : ∀ (d i : Nat) (M : sm_M), i + d = ns → (∀ p, p < 36 ∨ 40 < p → M.1 p = M1.1 p) → M.2 = M1.2 → (∀ j, j < 5 → ∀ t, t < 16 → M.1 (36 + j) t = M0.1 (36 + j) t) → (∀ a : Nat, a < i → ∀ j : Nat, j < 5 → (M.1 (36 + j) (16 + a)).toInt = Ls a j) → sm_Go g 104 (sm_Fn g (mi_post k.toNat M0 (ar k.toNat 11 (ns, Ls, 10, 0) 1))) 60 [.ref 35, .int (Int32.ofInt k), .int (Int32.ofInt (i : Int)), .null, .null, .null] [] M := by
    intro d
    induction d with
    | zero =>
      intro i M hd hp h2 h16 hl
      have e35 : M.1 35 = M1.1 35 := hp 35 (by omega)
      have R := c_mrounds (g := g) (ns := ns) (Ls := Ls) (M0 := M0) (k := k.toNat) (by omega) 11 1 (ns, Ls, 10, 0) M (by omega) (by omega) (by show 11 - (0 : Int) ≤ ((11 : Nat) : Int); omega) ha ⟨⟨fun p q1 => ?_, fun t q1 q2 q3 q4 q5 q6 q7 q8 q9 => ?_, h16, ?_, ?_, ?_⟩, ?_, ?_, rL_of (fun a ha j hj => hl a (by have : a < ns := ha; omega) j hj), ?_, ?_⟩
      · rw [ek] at R
        refine k104_60 (fun _ _ _ _ h => h) ⟨fun _ => R, fun q => absurd ?_ q⟩
        rw [e35, a6, jn_le (by omega) (by omega) (by omega) (by omega)]; omega
      · rw [hp p (by omega), p1 p (by omega)]
      · rw [e35]; exact p35 t q1 q7 q5 q6 q8 q2
      · rw [h2, a2]
      · rw [e35]; exact a0
      · rw [e35]; exact a23
      · rw [e35]; exact a24
      · rw [e35]; exact a7
      · rw [e35]; exact a21
      · rw [e35]; exact a22
    | succ d ih =>
      intro i M hd hp h2 h16 hl
      have e35 : M.1 35 = M1.1 35 := hp 35 (by omega)
      refine k104_60 (fun _ _ _ _ h => h) ⟨fun q => ?_, fun _ => ?_⟩
      · rw [e35, a6, jn_le (by omega) (by omega) (by omega) (by omega)] at q; omega
      rw [jn_add]
      refine sm_Sm_mono (c_copy (a := (i : Int)) (b := 16 + (i : Int)) (by omega) (by omega)) (fun o M2 h' => ?_)
      obtain ⟨rfl, h'⟩ := h'
      rw [show (16 + (i : Int)).toNat = 16 + i by omega, show ((i : Int)).toNat = i by omega] at h'
      show sm_Go g 104 _ 60 _ _ _
      rw [jn_add, show (i : Int) + 1 = ((i + 1 : Nat) : Int) by omega]
      refine ih (i + 1) M2 (by omega) (fun p q1 => ?_) (by rw [h']; exact h2) (fun j hj t ht => ?_) (fun a ha j hj => ?_)
      · rw [h', st_o q1]; exact hp p q1
      · rw [h', st_n hj (by omega)]; exact h16 j hj t ht
      · by_cases e : a = i
        · rw [e, h', st_s hj]
          have q := fun j hj => h16 j hj i (by omega)
          have q0 : M.1 36 i = M0.1 36 i := q 0 (by omega)
          have q1 : M.1 37 i = M0.1 37 i := q 1 (by omega)
          have q2 : M.1 38 i = M0.1 38 i := q 2 (by omega)
          have q3 : M.1 39 i = M0.1 39 i := q 3 (by omega)
          have q4 : M.1 40 i = M0.1 40 i := q 4 (by omega)
          rw [q0, q1, q2, q3, q4]
          obtain ⟨b0, b1, b2, b3, b4⟩ := hL i (by omega)
          have z : (0 + (i : Int)).toNat = i := by omega
          have b0 : (M0.1 36 (0 + (i : Int)).toNat).toInt = Ls i 0 := b0
          have b1 : (M0.1 37 (0 + (i : Int)).toNat).toInt = Ls i 1 := b1
          have b2 : (M0.1 38 (0 + (i : Int)).toNat).toInt = Ls i 2 := b2
          have b3 : (M0.1 39 (0 + (i : Int)).toNat).toInt = Ls i 3 := b3
          have b4 : (M0.1 40 (0 + (i : Int)).toNat).toInt = Ls i 4 := b4
          rw [z] at b0 b1 b2 b3 b4
          rw [b0, b1, b2, b3, b4]
          have hj5 : j = 0 ∨ j = 1 ∨ j = 2 ∨ j = 3 ∨ j = 4 := by omega
          rcases hj5 with e | e | e | e | e <;> subst e <;> rfl
        · rw [h', st_n hj (by omega)]; exact hl a (by omega) j hj
  exact loop ns 0 M1 (by omega) (fun _ _ => rfl) rfl (fun j hj t ht => by rw [p1 (36 + j) (by omega)]) (fun a ha => absurd ha (by omega))
end
