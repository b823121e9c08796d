-- groups: how often values stand in the code, and which interfere
def gr_1 (l : Int → Int) (j : Int) (v : Nat) : Nat := if pf_hv (l 0) j = true ∧ l j = (v : Int) then 1 else 0
def gr_c (L : Int → Int → Int) : Nat → Nat → Nat
  | 0, _ => 0
  | k + 1, v => gr_c L k v + (gr_1 (L k) 1 v + gr_1 (L k) 2 v + gr_1 (L k) 3 v)
theorem gr_c_le (L : Int → Int → Int) (v : Nat) : ∀ k, gr_c L k v ≤ 3 * k
  | 0 => Nat.le_refl _
  | k + 1 => by
    have := gr_c_le L v k
    have h : ∀ j, gr_1 (L k) j v ≤ 1 := fun j => by unfold gr_1; split <;> omega
    have := h 1
    have := h 2
    have := h 3
    unfold gr_c
    omega
def gs_is (M0 M : sm_M) (C : Nat → Nat) : Prop :=
  (∀ v, v < 60 → M.1 13 v = (if 0 < C v then Int32.ofInt v else Int32.ofInt (-1))) ∧ (∀ v, v < 60 → M.1 14 v = Int32.ofInt (C v)) ∧ (∀ v, v < 64 → bs_t (M.2 12 3) v = decide (0 < C v)) ∧ (∀ v, v < 64 → bs_t (M.2 12 4) v = (decide (0 < C v) && decide (10 ≤ v))) ∧
  (∀ p, p ≠ 13 → p ≠ 14 → M.1 p = M0.1 p) ∧ (∀ p, p ≠ 12 → M.2 p = M0.2 p)
section
variable {g : sm_G} {M M0 : sm_M}
theorem c_addStanding {C C' : Nat → Nat} (h : gs_is M0 M C) {x : Int} (hx : 0 ≤ x ∧ x < 60) (hC' : ∀ v : Nat, C' v = C v + (if x = (v : Int) then 1 else 0)) : sm_Sm g 26 [.ref 12, .int (Int32.ofInt x)] M (fun o M' => o = none ∧ gs_is M0 M' C') := by
  have hin : vp_in (Int32.ofInt x) 60 := by rw [jn_in (by omega) (by omega)]; omega
  have hcl : (Int32.ofInt x).toNatClampNeg = x.toNat := jn_cl (by omega) (by omega)
  obtain ⟨h1, h2, h3, h4, h5, h6⟩ := h
  have ex : ((x.toNat : Nat) : Int) = x := by omega
  have A1 : ∀ v, v < 60 → upd (M.1 13) x.toNat (Int32.ofInt x) v = (if 0 < C' v then Int32.ofInt v else Int32.ofInt (-1)) := fun v hv => by
    by_cases e : v = x.toNat
    · rw [e, pk_us, hC', ex, if_pos rfl, if_pos (by omega)]
    · have hc2 : C' v = C v := by rw [hC', if_neg (by omega)]; rfl
      rw [pk_un e, h1 v hv, hc2]
  have A2 : ∀ v, v < 60 → upd (M.1 14) x.toNat (M.1 14 x.toNat + Int32.ofInt 1) v = Int32.ofInt (C' v) := fun v hv => by
    by_cases e : v = x.toNat
    · rw [e, pk_us, hC', ex, if_pos rfl, h2 _ (by omega), jn_add]; congr 1
    · have hc2 : C' v = C v := by rw [hC', if_neg (by omega)]; rfl
      rw [pk_un e, h2 v hv, hc2]
  have A3 : ∀ v, v < 64 → bs_t (M.2 12 3 ||| pf_bit (Int32.ofInt x)) v = decide (0 < C' v) := fun v hv => by
    rw [bs_or, h3 v hv, bs_bitI (by omega) hv, hC']
    by_cases e : x = (v : Int)
    · rw [decide_eq_true e, if_pos e, decide_eq_true (show 0 < C v + 1 by omega)]; simp
    · rw [decide_eq_false e, if_neg e]; simp
  refine sm_entry (Nat.le_of_ble_eq_true rfl) (Nat.le_of_ble_eq_true rfl) ?_
  refine k26_0 (fun _ _ _ _ h => h) ?_
  rw [hcl, jn_lt (by omega) (by omega) (by omega) (by omega)]
  refine ⟨hin, hin, hin, fun q => ⟨rfl, ?_⟩, fun q => ⟨rfl, ?_⟩⟩
  · refine ⟨fun v hv => ?_, fun v hv => ?_, fun v hv => ?_, fun v hv => ?_, fun p p1 p2 => ?_, fun p p1 => ?_⟩
    · rw [sL_1, sI_1 (by decide), sI_s]; exact A1 v hv
    · rw [sL_1, sI_s, sI_1 (by decide)]; exact A2 v hv
    · rw [sL_s, pk_uLs]; exact A3 v hv
    · rw [sL_s, pk_uLn (by decide), sI_2, sI_2, h4 v hv, hC']
      by_cases e : x = (v : Int)
      · rw [decide_eq_false (show ¬ 10 ≤ v by omega)]; simp
      · rw [if_neg e]; rfl
    · rw [sL_1, sI_1 p2, sI_1 p1]; exact h5 p p1 p2
    · rw [sL_2 p1, sI_2, sI_2]; exact h6 p p1
  · refine ⟨fun v hv => ?_, fun v hv => ?_, fun v hv => ?_, fun v hv => ?_, fun p p1 p2 => ?_, fun p p1 => ?_⟩
    · rw [sL_1, sL_1, sI_1 (by decide), sI_s]; exact A1 v hv
    · rw [sL_1, sL_1, sI_s, sI_1 (by decide)]; exact A2 v hv
    · rw [sL_s, pk_uLn (by decide), sL_s, pk_uLs]; exact A3 v hv
    · rw [sL_s, pk_uLs, pk_uLn (by decide), bs_or, h4 v hv, bs_bitI (by omega) hv, hC']
      by_cases e : x = (v : Int)
      · rw [decide_eq_true e, if_pos e, decide_eq_true (show 0 < C v + 1 by omega), decide_eq_true (show 10 ≤ v by omega)]; simp
      · rw [decide_eq_false e, if_neg e]; simp
    · rw [sL_1, sL_1, sI_1 p2, sI_1 p1]; exact h5 p p1 p2
    · rw [sL_2 p1, sL_2 p1, sI_2, sI_2]; exact h6 p p1
def gn_is (M0 M : sm_M) (N : Nat → Nat → Bool) : Prop := (∀ u, u < 60 → ∀ v, v < 64 → bs_t (M.2 15 u) v = N u v) ∧ M.1 = M0.1 ∧ ∀ p, p ≠ 15 → M.2 p = M0.2 p
-- of a line: which other values its own value meets (H: live behind it)
def gr_o (l : Int → Int) (H : Nat → Bool) (w : Nat) : Bool := H w && (!decide (l 1 = (w : Int)) && !(decide (l 0 = 1) && decide (l 2 = (w : Int))))
def gr_x (l : Int → Int) (H : Nat → Bool) (u v : Nat) : Bool := pf_dv (l 0) && ((decide (l 1 = (u : Int)) && gr_o l H v) || (decide (l 1 = (v : Int)) && gr_o l H u))
theorem gn_or {N N' : Nat → Nat → Bool} {M1 : sm_M} (h : gn_is M0 M1 N) {k : Nat} (hk : k < 60) {s : Int64} (hN : ∀ u, u < 60 → ∀ v, v < 64 → N' u v = (N u v || (decide (u = k) && bs_t s v))) : gn_is M0 (sm_sL M1 15 k (M1.2 15 k ||| s)) N' := by
  obtain ⟨h1, h2, h3⟩ := h
  refine ⟨fun u hu v hv => ?_, h2, fun p hp => ?_⟩
  · rw [sL_s, hN u hu v hv]
    by_cases e : u = k
    · rw [e, pk_uLs, bs_or, h1 k hk v hv]; simp
    · rw [pk_uLn e, h1 u hu v hv]; simp [e]
  · rw [sL_2 hp]; exact h3 p hp
theorem c_interfere {N N' : Nat → Nat → Bool} (h : gn_is M0 M N) {i : Int} (hi : 0 ≤ i ∧ i < 48) (hl : lv_ok (cd_l M0 23 i)) {b : Int64} {H : Nat → Bool} (hH : ∀ v, v < 64 → bs_t b v = H v) (hH60 : ∀ v, 60 ≤ v → H v = false)
    (hN : ∀ u, u < 60 → ∀ v, v < 64 → N' u v = (N u v || gr_x (cd_l M0 23 i) H u v)) : sm_Sm g 27 [.ref 12, .ref 23, .int (Int32.ofInt i), .long b] M (fun o M' => o = none ∧ gn_is M0 M' N') := by
  have ei : (Int32.ofInt i).toInt = i := jn_to (by omega) (by omega)
  have eL : cd_l M 23 = cd_l M0 23 := cd_l_1 h.2.1
  obtain ⟨⟨o0, o9⟩, wd, wa, -, -, -⟩ := id hl
  have lr := @cd_lr M0 23 i
  refine sm_entry (Nat.le_of_ble_eq_true rfl) (Nat.le_of_ble_eq_true rfl) ?_
  refine k27_0 (fun _ _ _ _ h => h) ?_
  rw [ei]
  simp (disch := omega) only [cd_lt, jn_to, sm_z0, ← Int32.toInt_inj, eL]
  refine ⟨⟨hi.1, hi.2, by omega, by omega⟩, fun q => ?_, fun q => ⟨(by trivial), ?_⟩⟩
  · have q' : pf_dv (cd_l M0 23 i 0) = true := by cases hq : pf_dv (cd_l M0 23 i 0) <;> simp_all [sm_zt]
    have hd := wd (by unfold pf_dv at q'; unfold pf_hv; simp at q' ⊢; omega)
    -- what follows: the set s of the others
    have rest : ∀ (s : Int64) (x5 : Int32), (∀ v, v < 64 → bs_t s v = gr_o (cd_l M0 23 i) H v) → sm_Go g 27 (sm_Fn g (fun o M' => o = none ∧ gn_is M0 M' N')) 62 [.ref 12, .ref 23, .int (Int32.ofInt i), .long b, .null, .int x5, .int (Int32.ofInt (cd_l M0 23 i 1)), .long s, .null, .null] [] M := by
      intro s x5 hs
      have hin : vp_in (Int32.ofInt (cd_l M0 23 i 1)) 60 := by rw [jn_in (by omega) (by omega)]; omega
      have hcl : (Int32.ofInt (cd_l M0 23 i 1)).toNatClampNeg = (cd_l M0 23 i 1).toNat := jn_cl (by omega) (by omega)
      generalize hdn : (cd_l M0 23 i 1).toNat = dn at *
      have hdi : cd_l M0 23 i 1 = (dn : Int) := by omega
      have loop : ∀ (d w : Nat) (M1 : sm_M), w + d = 60 → gn_is M0 M1 (fun u v => N u v || ((decide (u = dn) && gr_o (cd_l M0 23 i) H v) || (decide (u < w) && (gr_o (cd_l M0 23 i) H u && decide (v = dn))))) → sm_Go g 27 (sm_Fn g (fun o M' => o = none ∧ gn_is M0 M' N')) 77 [.ref 12, .ref 23, .int (Int32.ofInt i), .long b, .null, .int x5, .int (Int32.ofInt (cd_l M0 23 i 1)), .long s, .null, .int (Int32.ofInt (w : Int))] [] M1 := by
        intro d
        induction d with
        | zero =>
          intro w M1 hw h1
          refine k27_77 (fun _ _ _ _ h => h) ⟨fun _ => ⟨rfl, fun u hu v hv => ?_, h1.2⟩, fun z => absurd ?_ z⟩
          · rw [h1.1 u hu v hv, hN u hu v hv, gr_x, q', hdi]
            dsimp only
            rw [decide_eq_true (show u < w by omega)]
            have e1 : decide ((dn : Int) = (u : Int)) = decide (u = dn) := by by_cases e : u = dn <;> simp [e]; omega
            have e2 : decide ((dn : Int) = (v : Int)) = decide (v = dn) := by by_cases e : v = dn <;> simp [e]; omega
            rw [e1, e2, Bool.and_comm (gr_o _ _ u)]
            rfl
          · rw [jn_le (by omega) (by omega) (by omega) (by omega)]; omega
        | succ d ih =>
          intro w M1 hw h1
          refine k27_77 (fun _ _ _ _ h => h) ⟨fun z => ?_, fun _ => ?_⟩
          · rw [jn_le (by omega) (by omega) (by omega) (by omega)] at z; omega
          · have hb : pf_hb s (Int32.ofInt (w : Int)) = gr_o (cd_l M0 23 i) H w := by rw [bs_hb (by omega)]; exact hs w (by omega)
            rw [sm_z0, hb, jn_cl (by omega) (by omega), show ((w : Int)).toNat = w by omega]
            have hinw : vp_in (Int32.ofInt (w : Int)) 60 := by rw [jn_in (by omega) (by omega)]; omega
            refine ⟨fun z => k27_109 (fun _ _ _ _ h => h) ?_, fun z => ⟨hinw, hinw, k27_109 (fun _ _ _ _ h => h) ?_⟩⟩ <;>
              rw [jn_add, show (w : Int) + 1 = ((w + 1 : Nat) : Int) by omega] <;> refine ih (w + 1) _ (by omega) ?_
            · refine ⟨fun u hu v hv => ?_, h1.2⟩
              rw [h1.1 u hu v hv]
              dsimp only
              by_cases e : u = w
              · subst e; rw [z]; simp
              · rw [show decide (u < w + 1) = decide (u < w) by by_cases y : u < w <;> simp [y] <;> omega]
            · have z' : gr_o (cd_l M0 23 i) H w = true := by cases hq : gr_o (cd_l M0 23 i) H w <;> simp_all
              refine gn_or h1 (by omega) (fun u hu v hv => ?_)
              rw [bs_bitI (by omega) hv, hdi]
              have e2 : decide ((dn : Int) = (v : Int)) = decide (v = dn) := by by_cases e : v = dn <;> simp [e]; omega
              rw [e2]
              by_cases e : u = w
              · subst e; rw [z']; simp [Bool.or_assoc]
              · rw [show decide (u < w + 1) = decide (u < w) by by_cases y : u < w <;> simp [y] <;> omega, decide_eq_false e]; simp
      refine k27_62 (fun _ _ _ _ h => h) ?_
      rw [hcl]
      refine ⟨hin, hin, loop 60 0 _ (by omega) (gn_or h (by omega) (fun u hu v hv => ?_))⟩
      rw [hs v hv]; simp
    have s1 : ∀ v, v < 64 → bs_t (b &&& (pf_bit (Int32.ofInt (cd_l M0 23 i 1)) ^^^ Int64.ofNat 18446744073709551615)) v = (H v && !decide (cd_l M0 23 i 1 = (v : Int))) := fun v hv => by
      rw [bs_and, bs_not _ hv, hH v hv, bs_bitI (by omega) hv]
    refine ⟨⟨hi.1, hi.2, by omega, by omega⟩, fun z => rest _ _ (fun v hv => ?_), fun z => ⟨⟨hi.1, hi.2, by omega, by omega⟩, rest _ _ (fun v hv => ?_)⟩⟩
    · rw [s1 v hv, gr_o, decide_eq_false z]; simp
    · have ha := wa (by rw [z]; decide)
      rw [bs_and, s1 v hv, bs_not _ hv, bs_bitI (by omega) hv, gr_o, decide_eq_true z]
      simp [Bool.and_assoc]
  · have q' : pf_dv (cd_l M0 23 i 0) = false := by cases hq : pf_dv (cd_l M0 23 i 0) <;> simp_all [sm_zt]
    refine ⟨fun u hu v hv => ?_, h.2⟩
    rw [hN u hu v hv, gr_x, q', h.1 u hu v hv]; simp
end
