def gr_N (L : Int → Int → Int) (H : Nat → Nat → Bool) : Nat → Nat → Nat → Bool
  | 0, _, _ => false
  | k + 1, u, v => gr_N L H k u v || gr_x (L k) (H k) u v
/-- what Groups.build leaves -/
def gb_post (M0 : sm_M) (L : Int → Int → Int) (H : Nat → Nat → Bool) (n : Nat) (M : sm_M) : Prop :=
  (∀ v, v < 60 → M.1 13 v = (if 0 < gr_c L n v then Int32.ofInt v else Int32.ofInt (-1))) ∧ (∀ v, v < 60 → M.1 14 v = Int32.ofInt (gr_c L n v)) ∧ (∀ v, v < 64 → bs_t (M.2 12 3) v = decide (0 < gr_c L n v)) ∧ (∀ v, v < 64 → bs_t (M.2 12 4) v = (decide (0 < gr_c L n v) && decide (10 ≤ v))) ∧
  (∀ u, u < 60 → ∀ v, v < 64 → bs_t (M.2 15 u) v = gr_N L H n u v) ∧ M.1 12 5 = 0 ∧ (∀ k, k ≠ 5 → M.1 12 k = M0.1 12 k) ∧ (∀ p, p ≠ 12 → p ≠ 13 → p ≠ 14 → M.1 p = M0.1 p) ∧ (∀ p, p ≠ 12 → p ≠ 15 → M.2 p = M0.2 p)
theorem cL_s {M : sm_M} {p : Nat} {f : Nat → Int64} : (sm_cL M p f).2 p = f := sm_up_s
theorem cL_2 {M : sm_M} {p q : Nat} {f : Nat → Int64} (h : q ≠ p) : (sm_cL M p f).2 q = M.2 q := sm_up_n h
theorem cL_1 {M : sm_M} {p : Nat} {f : Nat → Int64} : (sm_cL M p f).1 = M.1 := rfl
theorem cI_2 {M : sm_M} {p : Nat} {f : Nat → Int32} : (sm_cI M p f).2 = M.2 := rfl
section
variable {g : sm_G} {M0 : sm_M}
theorem c_build {n : Nat} (hn : cd_n M0 23 = (n : Int)) (hn2 : n ≤ 48) (hl : ∀ i, 0 ≤ i → i < (n : Int) → lv_ok (cd_l M0 23 i)) {H : Nat → Nat → Bool} (hH : ∀ i v, i < n → v < 64 → bs_t (M0.2 10 i) v = H i v) (hH60 : ∀ i v, i < n → 60 ≤ v → H i v = false) :
    sm_Sm g 25 [.ref 12, .ref 23, .ref 9] M0 (fun o M' => o = none ∧ gb_post M0 (cd_l M0 23) H n M') := by
  generalize hQ : (fun (o : Option Value) (M' : sm_M) => o = none ∧ gb_post M0 (cd_l M0 23) H n M') = Q
  refine sm_entry (Nat.le_of_ble_eq_true rfl) (Nat.le_of_ble_eq_true rfl) ?_
  refine k25_0 (fun _ _ _ _ h => h) ?_
  refine sm_Sm_mono (c_fillI (q := 13) (n := 60) (by unfold fi_ok; omega) _) (fun o1 M1 h1 => ?_)
  obtain ⟨rfl, h1⟩ := h1
  refine sm_Sm_mono (c_fillI (q := 14) (n := 60) (by unfold fi_ok; omega) _) (fun o2 M2 h2 => ?_)
  obtain ⟨rfl, h2⟩ := h2
  refine sm_Sm_mono (c_fillL (q := 15) (n := 60) (by unfold fj_ok; omega) _) (fun o3 M3 h3 => ?_)
  obtain ⟨rfl, h3⟩ := h3
  show sm_Go g 25 _ 41 _ _ _
  generalize hMb : sm_sI (sm_sL (sm_sL M3 12 3 (Int64.ofNat 0)) 12 4 (Int64.ofNat 0)) 12 5 (Int32.ofInt 0) = Mb
  have b13 : ∀ v, v < 60 → Mb.1 13 v = Int32.ofInt (-1) := fun v hv => by rw [← hMb, sI_1 (by decide), sL_1, sL_1, h3, cL_1, h2, cI_1 (by decide), h1, cI_s]; simp [fl_n, hv]
  have b14 : ∀ v, v < 60 → Mb.1 14 v = Int32.ofInt 0 := fun v hv => by rw [← hMb, sI_1 (by decide), sL_1, sL_1, h3, cL_1, h2, cI_s]; simp [fl_n, hv]
  have b15 : ∀ v, v < 60 → Mb.2 15 v = Int64.ofNat 0 := fun v hv => by rw [← hMb, sI_2, sL_2 (by decide), sL_2 (by decide), h3, cL_s]; simp [fl_n, hv]
  have b3 : Mb.2 12 3 = Int64.ofNat 0 := by rw [← hMb, sI_2, sL_s, pk_uLn (by decide), sL_s, pk_uLs]
  have b4 : Mb.2 12 4 = Int64.ofNat 0 := by rw [← hMb, sI_2, sL_s, pk_uLs]
  have b5 : Mb.1 12 5 = 0 := by rw [← hMb, sI_s, pk_us]; decide
  have bk : ∀ k, k ≠ 5 → Mb.1 12 k = M0.1 12 k := fun k hk => by rw [← hMb, sI_s, pk_un hk, sL_1, sL_1, h3, cL_1, h2, cI_1 (by decide), h1, cI_1 (by decide)]
  have bp : ∀ p, p ≠ 12 → p ≠ 13 → p ≠ 14 → Mb.1 p = M0.1 p := fun p p1 p2 p3 => by rw [← hMb, sI_1 p1, sL_1, sL_1, h3, cL_1, h2, cI_1 p3, h1, cI_1 p2]
  have bq : ∀ p, p ≠ 12 → p ≠ 15 → Mb.2 p = M0.2 p := fun p p1 p2 => by rw [← hMb, sI_2, sL_2 p1, sL_2 p1, h3, cL_2 p2, h2, cI_2, h1, cI_2]
  have bl : cd_l Mb 23 = cd_l M0 23 := by unfold cd_l; rw [bp 24 (by decide) (by decide) (by decide)]
  have e1 : M0.1 23 1 = Int32.ofInt (n : Int) := by rw [← hn, cd_n, jn_self]
  -- the second walk over the lines
  have nloop : ∀ (Mc : sm_M), gs_is Mb Mc (gr_c (cd_l M0 23) n) → ∀ (d i : Nat) (M : sm_M), i + d = n → gn_is Mc M (gr_N (cd_l M0 23) H i) → sm_Go g 25 (sm_Fn g Q) 97 [.ref 12, .ref 23, .ref 9, .int (Int32.ofInt (i : Int)), .null] [] M := by
    intro Mc hMc d
    obtain ⟨s1, s2, s3, s4, s5, s6⟩ := hMc
    have ecd : cd_l Mc 23 = cd_l M0 23 := by rw [← bl]; unfold cd_l; rw [s5 24 (by decide) (by decide)]
    have en : ∀ M : sm_M, M.1 = Mc.1 → M.1 23 1 = Int32.ofInt (n : Int) := fun M hM => by rw [hM, s5 23 (by decide) (by decide), bp 23 (by decide) (by decide) (by decide), e1]
    induction d with
    | zero =>
      intro i M hi hM
      have ei : i = n := by omega
      subst ei
      refine k25_97 (fun _ _ _ _ h => h) ⟨fun _ => ?_, fun q => absurd ?_ q⟩
      · rw [← hQ]
        obtain ⟨n1, n2, n3⟩ := hM
        refine ⟨rfl, fun v hv => by rw [n2]; exact s1 v hv, fun v hv => by rw [n2]; exact s2 v hv, fun v hv => by rw [n3 12 (by decide)]; exact s3 v hv, fun v hv => by rw [n3 12 (by decide)]; exact s4 v hv, n1, by rw [n2, s5 12 (by decide) (by decide)]; exact b5, fun k hk => by rw [n2, s5 12 (by decide) (by decide)]; exact bk k hk, fun p p1 p2 p3 => by rw [n2, s5 p p2 p3]; exact bp p p1 p2 p3, fun p p1 p2 => by rw [n3 p p2, s6 p p1]; exact bq p p1 p2⟩
      · rw [en M hM.2.1, jn_le (by omega) (by omega) (by omega) (by omega)]; omega
    | succ d ih =>
      intro i M hi hM
      refine k25_97 (fun _ _ _ _ h => h) ⟨fun q => ?_, fun _ => ?_⟩
      · rw [en M hM.2.1, jn_le (by omega) (by omega) (by omega) (by omega)] at q; omega
      · rw [jn_cl (by omega) (by omega), show ((i : Int)).toNat = i by omega]
        have e10 : M.2 10 = M0.2 10 := by rw [hM.2.2 10 (by decide), s6 10 (by decide), bq 10 (by decide) (by decide)]
        refine ⟨by rw [jn_in (by omega) (by omega)]; omega, sm_Sm_mono (c_interfere (N' := gr_N (cd_l M0 23) H (i + 1)) hM (by omega) (by rw [ecd]; exact hl i (by omega) (by omega)) (fun v hv => by rw [e10]; exact hH i v (by omega) hv) (fun v hv => hH60 i v (by omega) hv) (fun u hu v hv => by rw [ecd]; rfl)) (fun o M4 h4 => ?_)⟩
        obtain ⟨rfl, h4⟩ := h4
        show sm_Go g 25 _ 97 _ _ _
        rw [jn_add, show (i : Int) + 1 = ((i + 1 : Nat) : Int) by omega]
        exact ih (i + 1) M4 (by omega) h4
  -- the first walk
  have eM : ∀ M C, gs_is Mb M C → cd_l M 23 = cd_l M0 23 ∧ M.1 23 1 = Int32.ofInt (n : Int) := fun M C hM => by
    refine ⟨?_, by rw [hM.2.2.2.2.1 23 (by decide) (by decide), bp 23 (by decide) (by decide) (by decide), e1]⟩
    rw [← bl]
    unfold cd_l
    rw [hM.2.2.2.2.1 24 (by decide) (by decide)]
  have step : ∀ (i j : Nat) (C C' : Nat → Nat) (M : sm_M), i < n → 1 ≤ j → j ≤ 3 → (∀ v, C' v = C v + gr_1 (cd_l M0 23 i) j v) → gs_is Mb M C → (∀ M', gs_is Mb M' C' → sm_Go g 25 (sm_Fn g Q) 52 [.ref 12, .ref 23, .ref 9, .int (Int32.ofInt (i : Int)), .int (Int32.ofInt ((j + 1 : Nat) : Int))] [] M') → sm_Go g 25 (sm_Fn g Q) 52 [.ref 12, .ref 23, .ref 9, .int (Int32.ofInt (i : Int)), .int (Int32.ofInt (j : Int))] [] M := by
    intro i j C C' M hi hj1 hj3 hC hM K
    obtain ⟨el, -⟩ := eM M C hM
    have hlk := hl i (by omega) (by omega)
    obtain ⟨-, wd, wa, wb, -, -⟩ := hlk
    have go83 : ∀ M', gs_is Mb M' C' → sm_Go g 25 (sm_Fn g Q) 83 [.ref 12, .ref 23, .ref 9, .int (Int32.ofInt (i : Int)), .int (Int32.ofInt (j : Int))] [] M' := by
      intro M' hM'
      refine k25_83 (fun _ _ _ _ h => h) ?_
      rw [jn_add, show (j : Int) + 1 = ((j + 1 : Nat) : Int) by omega]
      exact K M' hM'
    refine k25_52 (fun _ _ _ _ h => h) ⟨fun q => ?_, fun _ => ?_⟩
    · rw [jn_lt (by omega) (by omega) (by omega) (by omega)] at q; omega
    · rw [jn_to (show -2147483648 ≤ (i : Int) by omega) (by omega), jn_to (show -2147483648 ≤ (j : Int) by omega) (by omega), jn_to (show -2147483648 ≤ (0 : Int) by omega) (by omega), cd_lt, el, sm_z0]
      refine ⟨by omega, fun q => go83 M ?_, fun q => ⟨by omega, ?_⟩⟩
      · have : C' = C := by
          funext v
          rw [hC, gr_1, if_neg (by rw [q]; simp)]; rfl
        rw [this]; exact hM
      · have q' : pf_hv (cd_l M0 23 i 0) j = true := by simpa using q
        have hx : 0 ≤ cd_l M0 23 i j ∧ cd_l M0 23 i j < 60 := by
          have h3 : j = 1 ∨ j = 2 ∨ j = 3 := by omega
          rcases h3 with rfl | rfl | rfl
          · exact wd q'
          · exact wa q'
          · exact wb q'
        refine sm_Sm_mono (c_addStanding (C' := C') hM hx (fun v => ?_)) (fun o M' h4 => ?_)
        · rw [hC, gr_1]
          by_cases e : cd_l M0 23 i j = (v : Int)
          · rw [if_pos ⟨q', e⟩, if_pos e]
          · rw [if_neg (fun z => e z.2), if_neg e]
        · obtain ⟨rfl, h4⟩ := h4
          exact go83 M' h4
  have sloop : ∀ (d i : Nat) (M : sm_M), i + d = n → gs_is Mb M (gr_c (cd_l M0 23) i) → sm_Go g 25 (sm_Fn g Q) 41 [.ref 12, .ref 23, .ref 9, .int (Int32.ofInt (i : Int)), .null] [] M := by
    intro d
    induction d with
    | zero =>
      intro i M hi hM
      have ei : i = n := by omega
      subst ei
      refine k25_41 (fun _ _ _ _ h => h) ⟨fun _ => ?_, fun q => absurd ?_ q⟩
      · refine nloop M hM i 0 M (by omega) ⟨fun u hu v hv => ?_, rfl, fun _ _ => rfl⟩
        rw [hM.2.2.2.2.2 15 (by decide), b15 u hu, bs_0]; rfl
      · rw [(eM M _ hM).2, jn_le (by omega) (by omega) (by omega) (by omega)]; omega
    | succ d ih =>
      intro i M hi hM
      refine k25_41 (fun _ _ _ _ h => h) ⟨fun q => ?_, fun _ => ?_⟩
      · rw [(eM M _ hM).2, jn_le (by omega) (by omega) (by omega) (by omega)] at q; omega
      · refine step i 1 _ (fun v => gr_c (cd_l M0 23) i v + gr_1 (cd_l M0 23 i) 1 v) M (by omega) (by omega) (by omega) (fun v => rfl) hM (fun Ma ha => ?_)
        refine step i 2 _ (fun v => gr_c (cd_l M0 23) i v + gr_1 (cd_l M0 23 i) 1 v + gr_1 (cd_l M0 23 i) 2 v) Ma (by omega) (by omega) (by omega) (fun v => rfl) ha (fun Mb2 hb => ?_)
        refine step i 3 _ (gr_c (cd_l M0 23) (i + 1)) Mb2 (by omega) (by omega) (by omega) (fun v => by show gr_c (cd_l M0 23) (i + 1) v = gr_c (cd_l M0 23) i v + gr_1 (cd_l M0 23 i) 1 v + gr_1 (cd_l M0 23 i) 2 v + gr_1 (cd_l M0 23 i) 3 v; rw [gr_c]; omega) hb (fun Mc2 hc => ?_)
        refine k25_52 (fun _ _ _ _ h => h) ⟨fun _ => ?_, fun q => absurd (by decide) q⟩
        rw [jn_add, show (i : Int) + 1 = ((i + 1 : Nat) : Int) by omega]
        exact sm_wk (L := [.ref 12, .ref 23, .ref 9, .int (Int32.ofInt ((i + 1 : Nat) : Int)), .null]) ⟨rfl, rfl, rfl, rfl, trivial⟩ (ih (i + 1) Mc2 (by omega) hc)
  refine sloop n 0 Mb (by omega) ⟨fun v hv => ?_, fun v hv => ?_, fun v hv => ?_, fun v hv => ?_, fun _ _ _ => rfl, fun _ _ => rfl⟩
  · rw [b13 v hv]; rfl
  · rw [b14 v hv]; rfl
  · rw [b3, bs_0]; rfl
  · rw [b4, bs_0]; rfl
end
