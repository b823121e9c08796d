def rl_post (M0 : sm_M) (b n : Int) (u : Nat) (M' : sm_M) : Prop := M'.2 = M0.2 ∧ (∀ p, p ≠ 41 → p ≠ 42 → M'.1 p = M0.1 p) ∧ ∀ v : Nat, v < u → ∃ col, lv_Is (rf_L M0 b) n v col ∧ ∀ i : Nat, (i : Int) < n → M'.1 42 (60 * i + v) = sm_z (col (lv_on (rf_L M0 b i) n i) || col (lv_as (rf_L M0 b i) n))
theorem rl_L0 {Mv M : sm_M} (h : ∀ p, p ≠ 41 → p ≠ 42 → M.1 p = Mv.1 p) {b i : Int} {j : Int} (hj : j.toNat < 5) : rf_L M b i j = rf_L Mv b i j := by
  unfold rf_L rf_l
  rw [h _ (by omega) (by omega)]
theorem lv_us_c {l l' : Int → Int} (h0 : l 0 = l' 0) (h1 : l 1 = l' 1) (h2 : l 2 = l' 2) (h3 : l 3 = l' 3) (v : Int) : lv_us l v = lv_us l' v := by unfold lv_us; rw [h0, h1, h2, h3]
theorem lv_on_c {l l' : Int → Int} (h0 : l 0 = l' 0) (n i : Int) : lv_on l n i = lv_on l' n i := by unfold lv_on; rw [h0]
theorem lv_as_c {l l' : Int → Int} (h0 : l 0 = l' 0) (h2 : l 2 = l' 2) (h3 : l 3 = l' 3) (n : Int) : lv_as l n = lv_as l' n := by unfold lv_as; rw [h0, h2, h3]
section
variable {g : sm_G} {M0 : sm_M}
set_option maxHeartbeats 2000000 in
theorem c_findLive {b n : Int} (hb : b = 0 ∨ b = 16) (hn : 0 ≤ n ∧ n ≤ 48) (hl : ∀ i, 0 ≤ i → i < n → rl_ok (rf_L M0 b i)) : sm_Sm g 86 [.ref 35, .int (Int32.ofInt b), .int (Int32.ofInt n)] M0 (fun o M' => o = none ∧ rl_post M0 b n 60 M') := by
  generalize hQ : (fun (o : Option Value) (M' : sm_M) => o = none ∧ rl_post M0 b n 60 M') = Q
  have outer : ∀ (d v : Nat) (M : sm_M), v + d = 60 → rl_post M0 b n v M → sm_Go g 86 (sm_Fn g Q) 2 [.ref 35, .int (Int32.ofInt b), .int (Int32.ofInt n), .int (Int32.ofInt (v : Int)), .null, .null, .null] [] M := by
    intro d
    induction d with
    | zero =>
      intro v M hv hM
      refine k86_2 (fun _ _ _ _ h => h) ⟨fun _ => ?_, fun q => absurd ?_ q⟩
      · rw [← hQ]; rw [show v = 60 by omega] at hM; exact ⟨rfl, hM⟩
      · rw [jn_le (by omega) (by omega) (by omega) (by omega)]; omega
    | succ d ih =>
      intro v Mv hv hMv
      obtain ⟨m2, m1, mc⟩ := hMv
      have eL : ∀ i j : Int, j.toNat < 5 → rf_L Mv b i j = rf_L M0 b i j := fun i j hj => rl_L0 m1 hj
      -- the column is done: the next one
      have fin : ∀ (M : sm_M), rl_P Mv b n v M → rl_fix Mv b n v M → sm_Go g 86 (sm_Fn g Q) 60 [.ref 35, .int (Int32.ofInt b), .int (Int32.ofInt n), .int (Int32.ofInt (v : Int)), .int 0, .null, .null] [] M := by
        intro M hP hf
        obtain ⟨hIs, hH⟩ := rl_Is hP hf
        refine k86_60 (fun _ _ _ _ h => h) ⟨fun _ => ?_, fun q => absurd rfl q⟩
        rw [jn_add, show (v : Int) + 1 = ((v + 1 : Nat) : Int) by omega]
        refine sm_wk (L := [.ref 35, .int (Int32.ofInt b), .int (Int32.ofInt n), .int (Int32.ofInt ((v + 1 : Nat) : Int)), .null, .null, .null]) ⟨rfl, rfl, rfl, rfl, trivial⟩ (ih (v + 1) M (by omega) ⟨hP.1.1.trans m2, fun p p1 p2 => (hP.1.2.1 p p1 p2).trans (m1 p p1 p2), fun w hw => ?_⟩)
        by_cases e : w = v
        · subst e
          have eqL : ∀ i : Int, ∀ x, lv_f (rf_L Mv b) n w i x = lv_f (rf_L M0 b) n w i x := fun i x => by
            unfold lv_f
            rw [lv_us_c (eL i 0 (by decide)) (eL i 1 (by decide)) (eL i 2 (by decide)) (eL i 3 (by decide)), lv_on_c (eL i 0 (by decide)), lv_as_c (eL i 0 (by decide)) (eL i 2 (by decide)) (eL i 3 (by decide))]
            unfold lv_df
            rw [eL i 0 (by decide), eL i 1 (by decide)]
          have cle : ∀ S, lv_cl (rf_L Mv b) n w S ↔ lv_cl (rf_L M0 b) n w S := fun S => by
            unfold lv_cl
            constructor <;> intro h <;> refine ⟨h.1, fun i a1 a2 a3 => h.2 i a1 a2 ?_⟩
            · rw [eqL]; exact a3
            · rw [← eqL]; exact a3
          refine ⟨rl_B M n w, ⟨(cle _).mp hIs.1, fun S hS => hIs.2 S ((cle S).mpr hS)⟩, fun i hi => ?_⟩
          rw [← lv_on_c (eL i 0 (by decide)), ← lv_as_c (eL i 0 (by decide)) (eL i 2 (by decide)) (eL i 3 (by decide)), ← hH i (by omega) hi, rl_H_at (by omega)]
          have hz := hP.2.1 i (by omega) hi
          rw [show (60 * (i : Int) + (w : Int)).toNat = 60 * i + w by omega] at hz ⊢
          rcases hz with z | z <;> rw [z] <;> decide
        · obtain ⟨col, c1, c2⟩ := mc w (by omega)
          refine ⟨col, c1, fun i hi => ?_⟩
          rw [hP.1.2.2 _ (by omega)]
          exact c2 i hi
      have hv60 : v < 60 := by omega
      -- one pass over the lines
      have pass : ∀ (M : sm_M), rl_P Mv b n v M → (∀ M2, rl_P Mv b n v M2 → lv_ct (rl_H M n v) n.toNat + 1 ≤ lv_ct (rl_H M2 n v) n.toNat → sm_Go g 86 (sm_Fn g Q) 60 [.ref 35, .int (Int32.ofInt b), .int (Int32.ofInt n), .int (Int32.ofInt (v : Int)), .int 1, .null, .null] [] M2) → sm_Go g 86 (sm_Fn g Q) 60 [.ref 35, .int (Int32.ofInt b), .int (Int32.ofInt n), .int (Int32.ofInt (v : Int)), .int 1, .null, .null] [] M := by
        intro M hPM more
        have lp : ∀ (dd i : Nat) (M2 : sm_M) (x : Int32), i + dd = n.toNat → rl_P Mv b n v M2 → ((x = 0 ∧ M2 = M ∧ ∀ j : Int, 0 ≤ j → j < i → (rl_B M n v (lv_on (rf_L Mv b j) n j) || rl_B M n v (lv_as (rf_L Mv b j) n)) = true → rl_H M n v j = true) ∨ (x = 1 ∧ lv_ct (rl_H M n v) n.toNat + 1 ≤ lv_ct (rl_H M2 n v) n.toNat)) →
            sm_Go g 86 (sm_Fn g Q) 71 [.ref 35, .int (Int32.ofInt b), .int (Int32.ofInt n), .int (Int32.ofInt (v : Int)), .int x, .int (Int32.ofInt (i : Int)), .null] [] M2 := by
          intro dd
          induction dd with
          | zero =>
            intro i M2 x hi hP hx
            refine k86_71 (fun _ _ _ _ h => h) ⟨fun _ => ?_, fun q => absurd ?_ q⟩
            · refine sm_wk (L := [.ref 35, .int (Int32.ofInt b), .int (Int32.ofInt n), .int (Int32.ofInt (v : Int)), .int x, .null, .null]) ⟨rfl, rfl, rfl, rfl, rfl, trivial⟩ ?_
              rcases hx with ⟨rfl, rfl, hx⟩ | ⟨rfl, hx⟩
              · exact fin M2 hP (fun j j1 j2 => hx j j1 (by omega))
              · exact more M2 hP hx
            · rw [jn_le (by omega) (by omega) (by omega) (by omega)]; omega
          | succ dd ihd =>
            intro i M2 x hi hP hx
            have hin : vp_in (Int32.ofInt (60 * (i : Int) + v)) 2880 := by rw [jn_in (by omega) (by omega)]; omega
            have hcl : (Int32.ofInt (60 * (i : Int) + v)).toNatClampNeg = (60 * (i : Int) + v).toNat := jn_cl (by omega) (by omega)
            have hin2 : vp_in (Int32.ofInt (b + i)) 112 := by rw [jn_in (by omega) (by omega)]; omega
            have hcl2 : (Int32.ofInt (b + i)).toNatClampNeg = (b + i).toNat := jn_cl (by omega) (by omega)
            have e2 : ∀ j : Int, j.toNat < 5 → rf_L M2 b i j = rf_L Mv b i j := fun j hj => rl_L hP.1 i hj
            have hok : rl_ok (rf_L M2 b i) := by
              have h9 := hl i (by omega) (by omega)
              unfold rl_ok at *
              rw [e2 0 (by decide), e2 2 (by decide), e2 3 (by decide), eL i 0 (by decide), eL i 2 (by decide), eL i 3 (by decide)]
              exact h9
            have hcm : rf_cm M2 b n i v = (rl_B M2 n v (lv_on (rf_L Mv b i) n i) || rl_B M2 n v (lv_as (rf_L Mv b i) n)) := by
              rw [rl_cm (by omega) hok, lv_on_c (e2 0 (by decide)), lv_as_c (e2 0 (by decide)) (e2 2 (by decide)) (e2 3 (by decide))]
            -- on to the next line
            have on : ∀ (M3 : sm_M) (x3 x6 : Int32), rl_P Mv b n v M3 → ((x3 = 0 ∧ M3 = M ∧ ∀ j : Int, 0 ≤ j → j < ((i + 1 : Nat) : Int) → (rl_B M n v (lv_on (rf_L Mv b j) n j) || rl_B M n v (lv_as (rf_L Mv b j) n)) = true → rl_H M n v j = true) ∨ (x3 = 1 ∧ lv_ct (rl_H M n v) n.toNat + 1 ≤ lv_ct (rl_H M3 n v) n.toNat)) →
                sm_Go g 86 (sm_Fn g Q) 192 [.ref 35, .int (Int32.ofInt b), .int (Int32.ofInt n), .int (Int32.ofInt (v : Int)), .int x3, .int (Int32.ofInt (i : Int)), .null] [] M3 := by
              intro M3 x3 x6 hP3 h3
              refine k86_192 (fun _ _ _ _ h => h) ?_
              rw [jn_add, show (i : Int) + 1 = ((i + 1 : Nat) : Int) by omega]
              exact ihd (i + 1) M3 x3 (by omega) hP3 h3
            refine k86_71 (fun _ _ _ _ h => h) ⟨fun q => ?_, fun _ => ?_⟩
            · rw [jn_le (by omega) (by omega) (by omega) (by omega)] at q; omega
            · rw [jn_mul, jn_add, jn_add, hcl, hcl2, jn_to (by omega) (by omega), jn_to (by omega) (by omega), jn_to (by omega) (by omega), jn_to (by omega) (by omega), hcm]
              simp only [sm_z0]
              refine ⟨hin, fun q => on M2 x 0 hP ?_, fun q => ⟨⟨⟨by omega, by omega, by omega, by omega, by omega, by omega, by omega, by omega⟩, rl_to hok hn.1⟩, fun q2 => on M2 x 0 hP ?_, fun q2 => ⟨Or.inr rfl, hin, hin2, ?_⟩⟩⟩
              · rcases hx with ⟨x0, xM, hx⟩ | hx
                · refine Or.inl ⟨x0, xM, fun j j1 j2 hj => ?_⟩
                  by_cases ej : j = i
                  · rw [ej, ← xM, rl_H_at (by omega)]; exact decide_eq_true q
                  · exact hx j j1 (by omega) hj
                · exact Or.inr hx
              · rcases hx with ⟨x0, xM, hx⟩ | hx
                · refine Or.inl ⟨x0, xM, fun j j1 j2 hj => ?_⟩
                  by_cases ej : j = i
                  · rw [ej, ← xM, q2] at hj; cases hj
                  · exact hx j j1 (by omega) hj
                · exact Or.inr hx
              · have q2' : (rl_B M2 n v (lv_on (rf_L Mv b i) n i) || rl_B M2 n v (lv_as (rf_L Mv b i) n)) = true := by simp only [Bool.not_eq_false] at q2; exact q2
                have hH : rl_H M2 n v i = false := by rw [rl_H_at (by omega)]; exact decide_eq_false (fun z => z q)
                have e0 : (M2.1 36 (b + i).toNat).toInt = rf_L Mv b i 0 := e2 0 (by decide)
                have e1 : M2.1 37 (b + i).toNat = Int32.ofInt (rf_L Mv b i 1) := by rw [← e2 1 (by decide)]; exact rf_at M2 (b + i) 1
                have r1 : -2147483648 ≤ rf_L Mv b i 1 ∧ rf_L Mv b i 1 < 2147483648 := ⟨(Mv.1 (36 + 1) (b + i).toNat).le_toInt, (Mv.1 (36 + 1) (b + i).toNat).toInt_lt⟩
                have store : ∀ (x4 x6 y : Int32), y = sm_z (rl_B M2 n v i || !lv_df (rf_L Mv b i) v) → sm_Go g 86 (sm_Fn g Q) 188 [.ref 35, .int (Int32.ofInt b), .int (Int32.ofInt n), .int (Int32.ofInt (v : Int)), .int x4, .int (Int32.ofInt (i : Int)), .int x6] [.int y, .int (Int32.ofInt (60 * (i : Int) + v)), .ref 41] (sm_sI M2 42 (60 * (i : Int) + v).toNat (Int32.ofInt 1)) := by
                  intro x4 x6 y hy
                  refine k86_188 (fun _ _ _ _ h => h) ⟨by rw [hy]; exact sm_zb _, hin, ?_⟩
                  rw [hcl]
                  have hs := rl_set hv60 hP (i := i) (by omega) hH q2' hy
                  rw [jn_1] at hs
                  refine sm_wk (L := [.ref 35, .int (Int32.ofInt b), .int (Int32.ofInt n), .int (Int32.ofInt (v : Int)), .int (Int32.ofInt 1), .int (Int32.ofInt (i : Int)), .null]) ⟨rfl, rfl, rfl, rfl, rfl, rfl, trivial⟩ (on _ _ 0 hs.1 (Or.inr ⟨by decide, ?_⟩))
                  rcases hx with ⟨-, rfl, -⟩ | hx
                  · exact hs.2
                  · omega
                have mid : ∀ (s : Int32), s = sm_z (lv_df (rf_L Mv b i) v) → sm_Go g 86 (sm_Fn g Q) 150 [.ref 35, .int (Int32.ofInt b), .int (Int32.ofInt n), .int (Int32.ofInt (v : Int)), .int x, .int (Int32.ofInt (i : Int)), .null] [.int s] (sm_sI M2 42 (60 * (i : Int) + v).toNat (Int32.ofInt 1)) := by
                  intro s hs
                  refine k86_150 (fun _ _ _ _ h => h) ?_
                  rw [jn_mul, jn_add, hcl, sI_1 (by decide)]
                  have bi : rl_B M2 n v i = decide (¬ M2.1 41 (60 * (i : Int) + v).toNat = 0) := rl_B_at (by omega)
                  refine ⟨hin, fun z => k86_183 (fun _ _ _ _ h => h) (store _ _ _ ?_), fun z => ⟨fun z2 => store _ _ _ ?_, fun z2 => k86_183 (fun _ _ _ _ h => h) (store _ _ _ ?_)⟩⟩
                  · rw [bi, decide_eq_true z]; exact sm_o1
                  · rw [hs, sm_z0] at z2
                    simp only [Bool.not_eq_false] at z2
                    rw [bi, decide_eq_false (fun y => y z), z2]; exact sm_o0
                  · rw [hs, sm_z0] at z2
                    rw [bi, decide_eq_false (fun y => y z), z2]; exact sm_o1
                rw [e0, e1, jn_eq (by omega) (by omega) (by omega) (by omega)]
                refine ⟨fun z => k86_149 (fun _ _ _ _ h => h) (mid _ ?_), fun z => ⟨hin2, fun z2 => k86_149 (fun _ _ _ _ h => h) (mid _ ?_), fun z2 => mid _ ?_⟩⟩
                · rw [lv_df, z]; exact sm_o0
                · rw [lv_df, decide_eq_false z2, Bool.and_false]; exact sm_o0
                · simp only [Bool.not_eq_false] at z
                  rw [lv_df, decide_eq_true z2, z]; exact sm_o1
        refine k86_60 (fun _ _ _ _ h => h) ⟨fun q => absurd q (by decide), fun _ => ?_⟩
        exact lp n.toNat 0 M _ (by omega) hPM (Or.inl ⟨by decide, rfl, fun j j1 j2 => by omega⟩)
      have iters : ∀ (e : Nat) (M : sm_M), rl_P Mv b n v M → n.toNat - lv_ct (rl_H M n v) n.toNat ≤ e → sm_Go g 86 (sm_Fn g Q) 60 [.ref 35, .int (Int32.ofInt b), .int (Int32.ofInt n), .int (Int32.ofInt (v : Int)), .int 1, .null, .null] [] M := by
        intro e
        induction e with
        | zero =>
          intro M hP hct
          refine pass M hP (fun M2 hP2 h2 => ?_)
          have := lv_ct_le (rl_H M2 n v) n.toNat
          omega
        | succ e ihe =>
          intro M hP hct
          exact pass M hP (fun M2 hP2 h2 => ihe M2 hP2 (by omega))
      have init : ∀ (dd i : Nat) (M : sm_M), i + dd = n.toNat → rl_R Mv M v → (∀ j : Nat, j < i → M.1 41 (60 * j + v) = sm_z (lv_us (rf_L Mv b j) v) ∧ M.1 42 (60 * j + v) = 0) → sm_Go g 86 (sm_Fn g Q) 11 [.ref 35, .int (Int32.ofInt b), .int (Int32.ofInt n), .int (Int32.ofInt (v : Int)), .int (Int32.ofInt (i : Int)), .null, .null] [] M := by
        intro dd
        induction dd with
        | zero =>
          intro i M hi hR hM
          refine k86_11 (fun _ _ _ _ h => h) ⟨fun _ => ?_, fun q => absurd ?_ q⟩
          · have hB : ∀ j : Int, 0 ≤ j → j < n → rl_B M n v j = lv_us (rf_L Mv b j) v := fun j j1 j2 => by
              have h9 := (hM j.toNat (by omega)).1
              rw [rl_B_at ⟨j1, j2⟩, show (60 * j + (v : Int)).toNat = 60 * j.toNat + v by omega, h9, show ((j.toNat : Nat) : Int) = j by omega]
              cases lv_us (rf_L Mv b j) v <;> decide
            have hH : ∀ j : Int, 0 ≤ j → j < n → rl_H M n v j = false := fun j j1 j2 => by
              have h9 := (hM j.toNat (by omega)).2
              rw [rl_H_at ⟨j1, j2⟩, show (60 * j + (v : Int)).toNat = 60 * j.toNat + v by omega, h9]
              decide
            have w := iters n.toNat M ⟨hR, fun j j1 j2 => Or.inl (by rw [show (60 * j + (v : Int)).toNat = 60 * j.toNat + v by omega]; exact (hM j.toNat (by omega)).2), fun j j1 j2 => by rw [hB j j1 j2, hH j j1 j2]; simp, fun j j1 j2 hj => (by rw [hH j j1 j2] at hj; cases hj), fun S hS j hj => ?_⟩ (by omega)
            · rw [jn_1] at w
              exact w
            · have hr : 0 ≤ j ∧ j < n := by
                unfold rl_B at hj
                simp only [Bool.and_eq_true, decide_eq_true_eq] at hj
                exact ⟨hj.1, hj.2.1⟩
              refine hS.2 j hr.1 hr.2 ?_
              rw [hB j hr.1 hr.2] at hj
              unfold lv_f
              rw [hj]; rfl
          · rw [jn_le (by omega) (by omega) (by omega) (by omega)]; omega
        | succ dd ihd =>
          intro i M hi hR hM
          have hin : vp_in (Int32.ofInt (60 * (i : Int) + v)) 2880 := by rw [jn_in (by omega) (by omega)]; omega
          have hcl : (Int32.ofInt (60 * (i : Int) + v)).toNatClampNeg = 60 * i + v := by rw [jn_cl (by omega) (by omega)]; omega
          refine k86_11 (fun _ _ _ _ h => h) ⟨fun q => ?_, fun _ => ?_⟩
          · rw [jn_le (by omega) (by omega) (by omega) (by omega)] at q; omega
          · rw [jn_add, jn_mul, jn_add, jn_add, hcl, jn_to (by omega) (by omega), jn_to (by omega) (by omega)]
            refine ⟨by omega, sm_zb _, hin, Or.inl rfl, hin, ?_⟩
            have eus : rf_us M (b + i) v = lv_us (rf_L Mv b i) v := by
              show lv_us (rf_L M b i) v = _
              exact lv_us_c (rl_L hR i (by decide)) (rl_L hR i (by decide)) (rl_L hR i (by decide)) (rl_L hR i (by decide)) v
            rw [eus, show (i : Int) + 1 = ((i + 1 : Nat) : Int) by omega]
            refine ihd (i + 1) _ (by omega) ⟨hR.1, fun p p1 p2 => ?_, fun k hk => ?_⟩ (fun j hj => ?_)
            · rw [sI_1 p2, sI_1 p1]; exact hR.2.1 p p1 p2
            · rw [sI_s, pk_un (by omega), sI_1 (by decide)]; exact hR.2.2 k hk
            · rw [sI_s, sI_1 (show 41 ≠ 42 by decide), sI_s, sI_1 (show 42 ≠ 41 by decide)]
              by_cases e : j = i
              · subst e
                rw [pk_us, pk_us]; exact ⟨rfl, by decide⟩
              · rw [pk_un (by omega), pk_un (by omega)]; exact hM j (by omega)
      refine k86_2 (fun _ _ _ _ h => h) ⟨fun q => ?_, fun _ => ?_⟩
      · rw [jn_le (by omega) (by omega) (by omega) (by omega)] at q; omega
      · exact init n.toNat 0 Mv (by omega) ⟨rfl, fun _ _ _ => rfl, fun _ _ => rfl⟩ (fun j hj => by omega)
  refine sm_entry (Nat.le_of_ble_eq_true rfl) (Nat.le_of_ble_eq_true rfl) ?_
  exact k86_0 (fun _ _ _ _ h => h) (outer 60 0 M0 (by omega) ⟨rfl, fun _ _ _ => rfl, fun v hv => by omega⟩)
end
