-- the class's put and allocate, up to where they throw
section
variable {g : sm_G} {M : sm_M}
theorem rL0_of {M' : sm_M} {n : Nat} {L : Int → Int → Int} (h : ∀ i : Nat, i < n → ∀ j : Nat, j < 5 → (M'.1 (36 + j) i).toInt = L i j) : Ln n (rf_L M' 0) L := by
  intro i hi
  have e : (0 + (i : Int)).toNat = i := by omega
  refine ⟨?_, ?_, ?_, ?_, ?_⟩
  · show (M'.1 36 (0 + (i : Int)).toNat).toInt = _; rw [e]; exact h i hi 0 (by omega)
  · show (M'.1 37 (0 + (i : Int)).toNat).toInt = _; rw [e]; exact h i hi 1 (by omega)
  · show (M'.1 38 (0 + (i : Int)).toNat).toInt = _; rw [e]; exact h i hi 2 (by omega)
  · show (M'.1 39 (0 + (i : Int)).toNat).toInt = _; rw [e]; exact h i hi 3 (by omega)
  · show (M'.1 40 (0 + (i : Int)).toNat).toInt = _; rw [e]; exact h i hi 4 (by omega)
theorem rL0_at {M' : sm_M} {n : Nat} {L : Int → Int → Int} (h : Ln n (rf_L M' 0) L) {i : Nat} (hi : i < n) {j : Nat} (hj : j < 5) : (M'.1 (36 + j) i).toInt = L i j := by
  have := Ln_o h hi (j := (j : Int)) (by omega)
  rw [← this]
  unfold rf_L rf_l
  rw [show (0 + (i : Int)).toNat = i by omega, show ((j : Nat) : Int).toNat = j by omega]
theorem pt_sok {o d a b : Int} {n : Nat} (h : pt_ok o d a b = true) : sok (pt_l o d a b n) ∧ pt_l o d a b n 4 = (n : Int) := by
  unfold pt_ok at h
  simp only [Bool.and_eq_true, decide_eq_true_eq] at h
  obtain ⟨h7, hd, ha, hb⟩ := h
  have l0 : pt_l o d a b n 0 = o := rfl
  have l1 : pt_l o d a b n 1 = pf_mt o 1 d := rfl
  have l2 : pt_l o d a b n 2 = pf_mt o 2 a := rfl
  have l3 : pt_l o d a b n 3 = pf_mt o 3 b := rfl
  have key : ∀ (j x : Int), pf_hv o j = true → pf_ft o j x = true → 0 ≤ pf_mt o j x ∧ pf_mt o j x < 10 := fun j x hv hf => by
    unfold pf_ft at hf
    rw [if_pos hv, Bool.and_eq_true, decide_eq_true_eq, decide_eq_true_eq] at hf
    unfold pf_mt
    rw [if_pos (Or.inl hv)]; exact hf
  refine ⟨⟨by rw [l0]; exact h7, fun v hv => ?_, fun q => ?_, fun q => ?_⟩, rfl⟩
  · unfold stn at hv
    rw [l0, l1, l2, l3] at hv
    rcases hv with hv | hv | hv
    · rw [← hv.2]; exact key 1 d hv.1 hd
    · rw [← hv.2]; exact key 2 a hv.1 ha
    · rw [← hv.2]; exact key 3 b hv.1 hb
  · rw [l0] at q
    rw [l2, q]
    rw [q] at ha
    unfold pf_ft at ha
    rw [if_neg (by decide), if_pos (show (2 : Int) = pf_tc 5 from rfl), Bool.and_eq_true, decide_eq_true_eq] at ha
    unfold pf_mt
    rw [if_pos (Or.inr (Or.inl (show (2 : Int) = pf_tc 5 from rfl)))]; exact ha.1
  · rw [l0] at q
    rw [l3, q]
    rw [q] at hb
    unfold pf_ft at hb
    rw [if_neg (by decide), if_pos (show (3 : Int) = pf_tc 6 from rfl), Bool.and_eq_true, decide_eq_true_eq] at hb
    unfold pf_mt
    rw [if_pos (Or.inr (Or.inl (show (3 : Int) = pf_tc 6 from rfl)))]; exact hb.1
theorem mt_r {o j x : Int} (h : -2147483648 ≤ x ∧ x < 2147483648) : -2147483648 ≤ pf_mt o j x ∧ pf_mt o j x < 2147483648 := by unfold pf_mt; split <;> omega
theorem q_put (h : INV M) {x1 x2 x3 x4 : Int32} {Fi : sm_F} (hF : ∀ below args s t, MQ below (sm_Qc g (i_ret g 83 [.int x1, .int x2, .int x3, .int x4])) args s 0 0 (sm_A g) t → Fi below args s t)
    (t1 : i_thr g 83 [.int x1, .int x2, .int x3, .int x4] M 1 → sm_Go g 51 Fi 38 [.ref 0, .int x1, .int x2, .int x3, .int x4] [] M) (t2 : i_thr g 83 [.int x1, .int x2, .int x3, .int x4] M 2 → sm_Go g 51 Fi 58 [.ref 0, .int x1, .int x2, .int x3, .int x4] [] M) : sm_Go g 51 Fi 0 [.ref 0, .int x1, .int x2, .int x3, .int x4] [] M := by
  have h' := h
  obtain ⟨ns, Ls, ⟨s1, s2, s3, s4, s5, s6⟩, r, m⟩ := h
  have e1 : x1 = Int32.ofInt x1.toInt := (jn_self x1).symm
  have e2 : x2 = Int32.ofInt x2.toInt := (jn_self x2).symm
  have e3 : x3 = Int32.ofInt x3.toInt := (jn_self x3).symm
  have e4 : x4 = Int32.ofInt x4.toInt := (jn_self x4).symm
  have r1 : -2147483648 ≤ x1.toInt ∧ x1.toInt < 2147483648 := ⟨x1.le_toInt, x1.toInt_lt⟩
  have r2 : -2147483648 ≤ x2.toInt ∧ x2.toInt < 2147483648 := ⟨x2.le_toInt, x2.toInt_lt⟩
  have r3 : -2147483648 ≤ x3.toInt ∧ x3.toInt < 2147483648 := ⟨x3.le_toInt, x3.toInt_lt⟩
  have r4 : -2147483648 ≤ x4.toInt ∧ x4.toInt < 2147483648 := ⟨x4.le_toInt, x4.toInt_lt⟩
  generalize x1.toInt = o at *
  generalize x2.toInt = d at *
  generalize x3.toInt = a at *
  generalize x4.toInt = b at *
  subst e1 e2 e3 e4
  have to : (Int32.ofInt o).toInt = o := jn_to r1.1 r1.2
  have td : (Int32.ofInt d).toInt = d := jn_to r2.1 r2.2
  have ta : (Int32.ofInt a).toInt = a := jn_to r3.1 r3.2
  have tb : (Int32.ofInt b).toInt = b := jn_to r4.1 r4.2
  have v1 : (Int32.ofInt 1).toInt = 1 := rfl
  have v2 : (Int32.ofInt 2).toInt = 2 := rfl
  have v3 : (Int32.ofInt 3).toInt = 3 := rfl
  have R := fun {M : sm_M} hn => c_rput (g := g) (M := M) s1 hn r1 r2 r3 r4
  have bad : pt_ok o d a b = false → sm_Go g 51 Fi 38 [.ref 0, .int (Int32.ofInt o), .int (Int32.ofInt d), .int (Int32.ofInt a), .int (Int32.ofInt b)] [] M := fun e => t1 (sm_Sm_mono (R s3) (fun r M2 hp => by
    obtain ⟨p1, p2⟩ := hp.1 e
    rw [p2]
    exact ⟨⟨_, p1⟩, by rw [sI_s, pk_us], INV_0 h' _⟩))
  refine k51_0 hF ?_
  rw [to, td, ta, tb, v1, v2, v3, sm_z0, sm_z0, sm_z0, s2, jn_0, jn_lt (by omega) (by omega) (by omega) (by omega), jn_lt (by omega) (by omega) (by omega) (by omega), jn_lt (by omega) (by omega) (by omega) (by omega)]
  refine ⟨fun q => bad ?_, fun q => ⟨fun q2 => bad ?_, fun q2 => ⟨fun q3 => bad ?_, fun q3 => ⟨fun q4 => bad ?_, fun q4 => ⟨fun q5 => ?_, fun q5 => bad ?_⟩⟩⟩⟩⟩
  · unfold pt_ok; rw [decide_eq_false (show ¬ 0 ≤ o by omega)]; rfl
  · unfold pt_ok; rw [decide_eq_false (show ¬ o ≤ 7 by omega)]; simp
  · unfold pt_ok; rw [q3]; simp
  · unfold pt_ok; rw [q4]; simp
  · rw [Bool.not_eq_false] at q3 q4 q5
    have ok : pt_ok o d a b = true := by unfold pt_ok; rw [decide_eq_true (show 0 ≤ o by omega), decide_eq_true (show o ≤ 7 by omega), q3, q4, q5]; rfl
    refine ⟨fun q6 => ?_, fun q6 => t2 (sm_Sm_mono (R s3) (fun r M2 hp => ?_))⟩
    · refine sm_Sm_mono (c_add (c := 1) (n := ns) (by omega) s2 (by omega)) (fun oo M1 h1 => ?_)
      obtain ⟨rfl, a1, a2, a3, a4⟩ := h1
      have er : M1.1 1 1 = Int32.ofInt ((ns + 1 : Nat) : Int) := by rw [a1, pk_us]
      refine ⟨Or.inl rfl, M1.1 1 1, rfl, ?_⟩
      have hn1 : (sm_sI M1 0 6 (Int32.ofInt 0)).1 35 6 = Int32.ofInt (ns : Int) := by rw [sI_1 (by decide), a3 35 (by decide) (by decide)]; exact s3
      refine sm_Sm_mono (R hn1) (fun r M2 hp => ?_)
      obtain ⟨p1, p2⟩ := hp.2.2 ok (by omega)
      have m0 : ∀ p, p ≠ 35 → (p < 36 ∨ 40 < p) → M2.1 p = (sm_sI M1 0 6 (Int32.ofInt 0)).1 p := fun p x1 x2 => by rw [p2]; unfold rp_new; rw [sI_1 x1, sI_1 x1, st_o x2, sI_1 x1]
      have m35 : ∀ i, i ≠ 0 → i ≠ 6 → i ≠ 24 → M2.1 35 i = M.1 35 i := fun i x1 x2 x3 => by rw [p2]; unfold rp_new; rw [sI_s, pk_un x3, sI_s, pk_un x2, st_o (by omega), sI_s, pk_un x1, sI_1 (by decide), a3 35 (by decide) (by decide)]
      have mc : ∀ p, 1 < p → p ≠ 2 → p < 35 ∨ 40 < p → M2.1 p = M.1 p := fun p x1 x2 x3 => by rw [m0 p (by omega) (by omega), sI_1 (by omega), a3 p (by omega) (by omega)]
      have Lc : Ln (ns + 1) (cd_l M2 1) (fun i j => if i = (ns : Int) then pt_l o d a b ns j else Ls i j) := Ln_j (fun i hi j hj => by
        have e : cd_l M2 1 i j = cd_l M1 1 i j := by unfold cd_l; rw [m0 2 (by decide) (by omega), sI_1 (by decide)]
        rw [e, a2 i j (by omega) hj]
        have mr1 := mt_r (o := o) (j := 1) r2
        have mr2 := mt_r (o := o) (j := 2) r3
        have mr3 := mt_r (o := o) (j := 3) r4
        by_cases c : (i : Int) = (ns : Int)
        · rw [if_pos c, if_pos c, to, jn_to mr1.1 mr1.2, jn_to mr2.1 mr2.2, jn_to mr3.1 mr3.2, jn_to (by omega) (by omega)]; rfl
        · rw [if_neg c, if_neg c]; exact Ln_o s4 (by omega) hj)
      have Lr : Ln (ns + 1) (rf_L M2 0) (fun i j => if i = (ns : Int) then pt_l o d a b ns j else Ls i j) := rL0_of (fun i hi j hj => by
        have mr1 := mt_r (o := o) (j := 1) r2
        have mr2 := mt_r (o := o) (j := 2) r3
        have mr3 := mt_r (o := o) (j := 3) r4
        have e : M2.1 (36 + j) i = (st_M (sm_sI (sm_sI M1 0 6 (Int32.ofInt 0)) 35 0 (Int32.ofInt 0)) ns (Int32.ofInt o) (Int32.ofInt (pf_mt o 1 d)) (Int32.ofInt (pf_mt o 2 a)) (Int32.ofInt (pf_mt o 3 b)) (Int32.ofInt (ns : Int))).1 (36 + j) i := by rw [p2]; unfold rp_new; rw [sI_1 (by omega), sI_1 (by omega)]
        rw [e]
        by_cases c : i = ns
        · rw [if_pos (by omega), c, st_s hj, to, jn_to mr1.1 mr1.2, jn_to mr2.1 mr2.2, jn_to mr3.1 mr3.2, jn_to (by omega) (by omega)]; rfl
        · rw [if_neg (by omega), st_n hj c, sI_1 (by omega), sI_1 (by omega), a3 (36 + j) (by omega) (by omega)]
          exact rL0_at s5 (by omega) hj)
      refine ⟨by rw [p1, er], by rw [p2]; unfold rp_new; rw [sI_s, pk_un (by decide), sI_s, pk_un (by decide), st_o (by omega), sI_s, pk_us], ns + 1, _, ⟨by omega, ?_, ?_, Lc, Lr, fun i hi => ?_⟩, Or.inl ⟨?_, ?_⟩, ?_⟩
      · rw [m0 1 (by decide) (by omega), sI_1 (by decide)]; exact er
      · rw [p2]; unfold rp_new; rw [sI_s, pk_un (by decide), sI_s, pk_us]
      · by_cases c : (i : Int) = (ns : Int)
        · have z := pt_sok (n := ns) ok
          refine ⟨sok_c (l' := pt_l o d a b ns) ⟨if_pos c, if_pos c, if_pos c, if_pos c, if_pos c⟩ z.1, ?_⟩
          show (if (i : Int) = (ns : Int) then pt_l o d a b ns 4 else Ls i 4) = _
          rw [if_pos c, z.2, c]
        · refine ⟨sok_c (l' := Ls i) ⟨if_neg c, if_neg c, if_neg c, if_neg c, if_neg c⟩ (s6 i (by omega)).1, ?_⟩
          show (if (i : Int) = (ns : Int) then pt_l o d a b ns 4 else Ls i 4) = _
          rw [if_neg c]; exact (s6 i (by omega)).2
      · rw [m0 0 (by decide) (by omega), sI_s, pk_us]
      · rw [p2]; unfold rp_new; rw [sI_s, pk_us]
      · obtain ⟨n1, n2, n3, n4, n5⟩ := m
        exact ⟨by rw [mc 31 (by decide) (by decide) (by omega), m35 33 (by decide) (by decide) (by decide)]; exact n1, by rw [mc 31 (by decide) (by decide) (by omega)]; exact n2, by rw [mc 31 (by decide) (by decide) (by omega), m35 34 (by decide) (by decide) (by decide)]; exact n3, by rw [mc 31 (by decide) (by decide) (by omega)]; exact n4, fun t ht => by rw [mc 34 (by decide) (by decide) (by omega), mc 58 (by decide) (by decide) (by omega)]; exact n5 t ht⟩
    · obtain ⟨p1, p2⟩ := hp.2.1 ok (by omega)
      rw [p2]
      exact ⟨⟨_, p1⟩, by rw [sI_s, pk_us], INV_0 h' _⟩
  · unfold pt_ok; rw [q5]; simp
-- every group gets a place in the order, and where none is spilled a register
theorem tk_all {s : jS} {k : Int} (hw : jw s) {v : Nat} (gv : js_gr s v = true) : ∃ i, i < tk_T s ∧ tk_v s k i = v := by
  have v60 := (hw.1 v gv).1
  have z := bct_z 60 (show bct (tk_l s k (tk_T s)) 60 = 0 by rw [tk_ct _ (Nat.le_refl _)]; omega) v v60
  have : ∀ m, m ≤ tk_T s → tk_l s k m v = false → ∃ i, i < m ∧ tk_v s k i = v := by
    intro m
    induction m with
    | zero => intro _ e; rw [show tk_l s k 0 v = js_gr s v from rfl, gv] at e; cases e
    | succ m ih =>
      intro hm e
      have e : (tk_l s k m v && !decide (tk_v s k m = v)) = false := e
      cases c : tk_l s k m v
      · obtain ⟨i, h1, h2⟩ := ih (by omega) c
        exact ⟨i, by omega, h2⟩
      · rw [c, Bool.true_and, Bool.not_eq_false', decide_eq_true_eq] at e
        exact ⟨m, by omega, e⟩
  exact this _ (Nat.le_refl _) z
theorem gv_keep {s : jS} {k : Nat} {t : Nat} : ∀ (d : Nat), t + 1 + d ≤ tk_T s → gv s k (t + 1 + d) (gv_x s k t) = on_i (fr s k (gv s k t) (gv_x s k t))
  | 0, h => by
    show (if gv_x s k t = gv_x s k t then _ else _) = _
    rw [if_pos rfl]
  | d + 1, h => by
    show (if gv_x s k t = gv_x s k (t + 1 + d) then on_i (fr s k (gv s k (t + 1 + d)) (gv_x s k (t + 1 + d))) else gv s k (t + 1 + d) (gv_x s k t)) = _
    rw [if_neg, gv_keep d (by omega)]
    unfold gv_x
    exact tk_ne (by omega) (by omega)
theorem gal_all {s : jS} {k : Nat} : ∀ m, gal s k m = true → ∀ t, t < m → fr s k (gv s k t) (gv_x s k t) ≠ none
  | 0, _, t, ht => by omega
  | m + 1, h, t, ht => by
    have h : (gal s k m && !decide (fr s k (gv s k m) (gv_x s k m) = none)) = true := h
    rw [Bool.and_eq_true, Bool.not_eq_true', decide_eq_false_iff_not] at h
    by_cases e : t = m
    · rw [e]; exact h.2
    · exact gal_all m h.1 t (by omega)
theorem gv_pos {s : jS} (hw : jw s) {k : Nat} (hal : gal s k (tk_T s) = true) {v : Nat} (gvv : js_gr s v = true) : 0 ≤ gv s k (tk_T s) v := by
  obtain ⟨i, h1, h2⟩ := tk_all (k := (k : Int)) hw gvv
  have ex : gv_x s k (tk_T s - 1 - i) = v := by unfold gv_x; rw [← h2]; congr 1; omega
  have hk := gv_keep (s := s) (k := k) (t := tk_T s - 1 - i) i (by omega)
  rw [show tk_T s - 1 - i + 1 + i = tk_T s by omega, ex] at hk
  have ne := gal_all _ hal (tk_T s - 1 - i) (by omega)
  rw [ex] at ne
  rw [hk]
  cases e : fr s k (gv s k (tk_T s - 1 - i)) v with
  | none => exact absurd e ne
  | some r => show 0 ≤ (r : Int); omega
theorem ar_inv {ns : Nat} {Ls : Int → Int → Int} {k : Nat} : ∀ (f : Nat) (c : aC) (r : Nat) (r' : Nat) (c' : aC), aI ns Ls c → ar k f c r = some (r', c') → aI ns Ls c' ∧ r_al k c' = true ∧ r' < r + f
  | 0, _, _, _, _, _, h => by cases h
  | f + 1, c, r, r', c', ha, h => by
    rw [ar] at h
    cases e : r_al k c
    · rw [if_neg (by rw [e]; decide)] at h
      cases e2 : r_ok k c
      · rw [if_neg (by rw [e2]; decide)] at h; cases h
      · rw [if_pos e2] at h
        obtain ⟨a1, a2, a3⟩ := ar_inv f _ _ _ _ (r_step ha e2 e).1.1 h
        exact ⟨a1, a2, by omega⟩
    · rw [if_pos e] at h
      cases h
      exact ⟨ha, e, by omega⟩
theorem r_fin_ok {ns : Nat} {Ls : Int → Int → Int} {c : aC} (ha : aI ns Ls c) {k : Nat} (hal : r_al k c = true) (i : Nat) (hi : i < c.1) : rok ns Ls k (r_fin k c i) := by
  obtain ⟨w1, w2, w3, w4⟩ := r_s_p ha k
  obtain ⟨h0, h1, h2, h3, h4, h5⟩ := ha.2.1 i hi
  have ok := aI_ok ha i hi
  have f0 : r_fin k c i 0 = c.2.1 i 0 := by
    unfold r_fin; rw [if_neg]; unfold pf_hv; simp
  have f4 : r_fin k c i 4 = c.2.1 i 4 := by
    unfold r_fin; rw [if_neg]; unfold pf_hv; simp
  have fj : ∀ j, pf_hv (c.2.1 i 0) j = false → r_fin k c i j = c.2.1 i j := fun j hj => by unfold r_fin; rw [if_neg (by rw [hj]; decide)]
  have S1 := ha.2.2.2.2
  refine ⟨by rw [f0]; exact h0, fun v hv => ?_, fun q => ?_, fun q => ?_, fun q => ?_, fun q => ?_⟩
  · have key : ∀ j : Int, 1 ≤ j ∧ j < 4 → pf_hv (c.2.1 i 0) j = true → r_fin k c i j = v → 0 ≤ v ∧ v < (k : Int) := fun j hj p1 p2 => by
      have rb := lv_hv ok hj p1
      have hst := stn_hv hj p1
      have l0 := w4 (c.2.1 i j).toNat ((gr_c_stn _).mpr ⟨i, hi, by rw [show (((c.2.1 i j).toNat : Nat) : Int) = c.2.1 i j by omega]; exact hst⟩)
      have gg := jw_g w1 (v := (c.2.1 i j).toNat) (by omega) l0
      have pos := gv_pos w1 hal gg
      have gr := gv_r (s := r_s k c) (k := k) (tk_T (r_s k c)) (js_ld (r_s k c) (c.2.1 i j).toNat).toNat
      rw [← p2]
      unfold r_fin
      rw [if_pos p1]; exact ⟨pos, gr.2⟩
    unfold stn at hv
    rw [f0] at hv
    rcases hv with hv | hv | hv
    · exact key 1 (by omega) hv.1 hv.2
    · exact key 2 (by omega) hv.1 hv.2
    · exact key 3 (by omega) hv.1 hv.2
  · rw [f0] at q
    rw [fj 2 (by rw [q]; rfl)]; exact h2 q
  · rw [f0] at q
    rw [fj 3 (by rw [q]; rfl)]; exact h3 q
  · rw [f0] at q
    have o : c.2.1 i 0 = 8 ∨ c.2.1 i 0 = 9 := by omega
    rw [f4, fj 2 (by rcases o with o | o <;> rw [o] <;> rfl)]
    have := h4 q
    exact ⟨by omega, this.2.2⟩
  · rw [f0] at q
    rw [f0, f4]
    obtain ⟨oo, p1, p2, p3⟩ := h5 q
    rw [p2]; exact ⟨by omega, by omega, p3⟩
theorem aI_0 {ns : Nat} {Ls : Int → Int → Int} (hns : ns ≤ 16) (s6 : ∀ i : Nat, i < ns → sok (Ls i) ∧ Ls i 4 = (i : Int)) : aI ns Ls (ns, Ls, 10, 0) := by
  refine ⟨by show ns ≤ 48; omega, fun i hi => ?_, ⟨by show (10 : Int) ≤ 10; omega, by show (10 : Int) ≤ 60; omega⟩, by show (0 : Int) ≤ 0; omega, ?_⟩
  · have hi : i < ns := hi
    obtain ⟨⟨h0, h1, h2, h3⟩, h4⟩ := s6 i hi
    exact ⟨⟨h0.1, by have := h0.2; show Ls i 0 ≤ 9; omega⟩, h1, h2, h3, fun q => by have q : 8 ≤ Ls i 0 := q; omega, fun _ => ⟨i, hi, h4, rfl⟩⟩
  · have := bct_le (fun v => decide (0 < gr_c Ls ns v)) 10
    show (0 : Int) + (sc Ls ns : Nat) ≤ 10
    unfold sc; omega
theorem q_allocate (h : INV M) {x1 : Int32} {Fi : sm_F} (hF : ∀ below args s t, MQ below (sm_Qc g (i_ret g 104 [.int x1])) args s 0 0 (sm_A g) t → Fi below args s t)
    (t1 : i_thr g 104 [.int x1] M 1 → sm_Go g 54 Fi 11 [.ref 0, .int x1, .null] [] M) : sm_Go g 54 Fi 0 [.ref 0, .int x1, .null] [] M := by
  have h' := h
  obtain ⟨ns, Ls, ⟨s1, s2, s3, s4, s5, s6⟩, r, m⟩ := h
  have e1 : x1 = Int32.ofInt x1.toInt := (jn_self x1).symm
  have r1 : -2147483648 ≤ x1.toInt ∧ x1.toInt < 2147483648 := ⟨x1.le_toInt, x1.toInt_lt⟩
  generalize x1.toInt = k at *
  subst e1
  have ha := aI_0 s1 s6
  have bad : ¬ (3 ≤ k ∧ k ≤ 6) → sm_Go g 54 Fi 11 [.ref 0, .int (Int32.ofInt k), .null] [] M := fun e => t1 (sm_Sm_mono (c_rallocate r1 s3 s1 s5 ha) (fun o M2 hp => by
    unfold al_post at hp
    rw [if_neg e] at hp
    rw [hp.2]
    exact ⟨⟨_, hp.1⟩, by rw [sI_s, pk_us], INV_0 h' _⟩))
  refine k54_0 hF ?_
  rw [jn_lt (by omega) (by omega) (by omega) (by omega), jn_le (by omega) (by omega) (by omega) (by omega)]
  refine ⟨fun q => bad (by omega), fun q => ⟨fun q2 => ?_, fun q2 => bad (by omega)⟩⟩
  have h36 : 3 ≤ k ∧ k ≤ 6 := by omega
  have ek : ((k.toNat : Nat) : Int) = k := by omega
  have C := c_countRounds (g := g) (ns := ns) (Ls := Ls) (M0 := M) (k := k.toNat) (by omega) s2 s4 ha
  rw [ek] at C
  refine sm_Sm_mono C (fun o M1 h1 => ?_)
  obtain ⟨⟨c8, cp, cl⟩, hc⟩ := h1
  rw [ek] at c8
  -- the reference, from any memory whose part is as it was
  have R : ∀ M3 : sm_M, (∀ p, 35 ≤ p → M3.1 p = M.1 p) → sm_Sm g 104 [.ref 35, .int (Int32.ofInt k)] M3 (mi_post k.toNat M3 (ar k.toNat 11 (ns, Ls, 10, 0) 1)) := fun M3 hp => by
    have A := c_rallocate (g := g) (M0 := M3) r1 (by rw [hp 35 (by omega)]; exact s3) s1 (rL_c s5 (hp 36 (by omega)) (hp 37 (by omega)) (hp 38 (by omega)) (hp 39 (by omega)) (hp 40 (by omega))) ha
    refine sm_Sm_mono A (fun o M2 hp => ?_)
    unfold al_post at hp
    rw [if_pos h36] at hp; exact hp
  -- what the reference leaves
  have srcM : ∀ M3 M2 : sm_M, (∀ p, 35 ≤ p → M3.1 p = M.1 p) → M3.1 1 = M.1 1 → M3.1 2 = M.1 2 → mf k.toNat M3 M2 → i_src M2 ns Ls := fun M3 M2 hp q1 q2 hm => by
    refine ⟨s1, by rw [hm.1 1 (by omega), q1]; exact s2, by rw [hm.2.1 6 (by decide) (by decide) (by decide) (by decide) (by decide) (by decide) (by decide) (by decide) (by decide), hp 35 (by omega)]; exact s3, by rw [cd_lc (hm.1 2 (by omega)), cd_lc q2]; exact s4, rL0_of (fun i hi j hj => ?_), s6⟩
    rw [hm.2.2.1 j hj i (by omega), hp (36 + j) (by omega)]; exact rL0_at s5 hi hj
  have macM : ∀ M3 M2 : sm_M, (∀ p, 35 ≤ p → M3.1 p = M.1 p) → M3.1 31 = M.1 31 → M3.1 34 = M.1 34 → mf k.toNat M3 M2 → i_mac M2 := fun M3 M2 hp q1 q2 hm => by
    obtain ⟨n1, n2, n3, n4, n5⟩ := m
    have e33 : M2.1 35 33 = M.1 35 33 := by rw [hm.2.1 33 (by decide) (by decide) (by decide) (by decide) (by decide) (by decide) (by decide) (by decide) (by decide), hp 35 (by omega)]
    have e34 : M2.1 35 34 = M.1 35 34 := by rw [hm.2.1 34 (by decide) (by decide) (by decide) (by decide) (by decide) (by decide) (by decide) (by decide) (by decide), hp 35 (by omega)]
    have e31 : M2.1 31 = M.1 31 := by rw [hm.1 31 (by omega), q1]
    exact ⟨by rw [e31, e33]; exact n1, by rw [e31]; exact n2, by rw [e31, e34]; exact n3, by rw [e31]; exact n4, fun t ht => by rw [hm.1 34 (by omega), q2, hm.1 58 (by omega), hp 58 (by omega)]; exact n5 t ht⟩
  cases ea : ar k.toNat 11 (ns, Ls, 10, 0) 1 with
  | none =>
    rw [ea] at hc
    have hc : o = some (.int (Int32.ofInt (-1))) := hc
    subst hc
    show (_ → _) ∧ (_ → _)
    refine ⟨fun _ => ?_, fun q => absurd rfl q⟩
    refine k54_43 hF ⟨Or.inl rfl, ?_⟩
    rw [pk_us]
    refine ⟨fun _ => ⟨_, rfl, ?_⟩, fun q => absurd rfl q⟩
    have hp3 : ∀ p, 35 ≤ p → (sm_sI M1 0 6 (Int32.ofInt 0)).1 p = M.1 p := fun p hp => by rw [sI_1 (by omega), cp p (by omega)]
    refine sm_Sm_mono (R _ hp3) (fun o2 M2 h2 => ?_)
    rw [ea] at h2
    obtain ⟨hm, h2, h24⟩ := h2
    refine ⟨h2, hm.2.2.2.2.1, ns, Ls, srcM _ M2 hp3 (by rw [sI_1 (by decide), cp 1 (by omega)]) (by rw [sI_1 (by decide), cp 2 (by omega)]) hm, Or.inl ⟨by rw [hm.1 0 (by omega), sI_s, pk_us], h24⟩, macM _ M2 hp3 (by rw [sI_1 (by decide), cp 31 (by omega)]) (by rw [sI_1 (by decide), cp 34 (by omega)]) hm⟩
  | some rc =>
    obtain ⟨rr, c⟩ := rc
    rw [ea] at hc
    obtain ⟨ho, hend⟩ := hc
    subst ho
    obtain ⟨i1, i2, i3⟩ := ar_inv 11 _ _ _ _ ha ea
    show (_ → _) ∧ (_ → _)
    rw [jn_eq (by omega) (by omega) (by omega) (by omega)]
    refine ⟨fun q => by omega, fun _ => ?_⟩
    refine k54_43 hF ⟨Or.inr rfl, ?_⟩
    rw [pk_us]
    refine ⟨fun q => absurd q z01, fun _ => ?_⟩
    have hend2 : ci_end k.toNat M (sm_sI M1 0 6 (Int32.ofInt 1)) c := by
      obtain ⟨b1, b2, b3, b4, b5, b6⟩ := hend
      exact ⟨by rw [sI_1 (by decide)]; exact b1, by rw [cd_lc (sI_1 (by decide))]; exact b2, fun v hv => by rw [sI_1 (by decide)]; exact b3 v hv, fun v hv => by rw [sI_1 (by decide)]; exact b4 v hv, by rw [sI_1 (by decide)]; exact b5, by rw [sI_1 (by decide)]; exact b6⟩
    refine sm_Sm_mono (c_writeTo (k := k.toNat) (by omega) i1 hend2) (fun o3 M3 h3 => ?_)
    obtain ⟨rfl, w1, w2, w3, w4⟩ := h3
    refine ⟨_, rfl, ?_⟩
    have hp3 : ∀ p, 35 ≤ p → M3.1 p = M.1 p := fun p hp => by rw [w3 p (by omega) (by omega), sI_1 (by omega), cp p (by omega)]
    refine sm_Sm_mono (R M3 hp3) (fun o2 M2 h2 => ?_)
    rw [ea] at h2
    obtain ⟨hm, h2, h24, h7, hL, h22, h20⟩ := h2
    refine ⟨h2, hm.2.2.2.2.1, ns, Ls, srcM _ M2 hp3 (by rw [w3 1 (by decide) (by decide), sI_1 (by decide), cp 1 (by omega)]) (by rw [w3 2 (by decide) (by decide), sI_1 (by decide), cp 2 (by omega)]) hm, Or.inr ⟨by rw [hm.1 0 (by omega), w3 0 (by decide) (by decide), sI_s, pk_us], h24, c.1, k.toNat, r_fin k.toNat c, ⟨i1.1, by omega, by omega⟩, by rw [hm.1 3 (by omega)]; exact w1, h7, by rw [cd_lc (hm.1 4 (by omega))]; exact w2, hL, fun i hi => r_fin_ok i1 i2 i hi, by rw [hm.1 8 (by omega), w3 8 (by decide) (by decide), sI_1 (by decide), ek]; exact c8, hm.2.2.2.2.2, ?_, ?_⟩, macM _ M2 hp3 (by rw [w3 31 (by decide) (by decide), sI_1 (by decide), cp 31 (by omega)]) (by rw [w3 34 (by decide) (by decide), sI_1 (by decide), cp 34 (by omega)]) hm⟩
    · rw [hm.1 20 (by omega), w3 20 (by decide) (by decide), h22]; exact hend2.2.2.2.2.1
    · rw [hm.1 12 (by omega), w3 12 (by decide) (by decide), h20]; exact hend2.2.2.2.2.2
end
