-- the reference's checker
section
variable {g : sm_G}
def rx (n k : Nat) (M : sm_M) : kX := (fun i => decide (i < n) && decide (¬ M.1 55 i = 0), fun i p u => decide (i < n ∧ p < k + 10 ∧ u < 10) && decide (¬ M.1 53 (180 * i + 10 * ck_r k p + u) = 0))
theorem ck_r_lt {k p : Nat} (hk : k ≤ 6) (hp : p < k + 10) : ck_r k p < 16 := by unfold ck_r; split <;> omega
theorem rx_me {n k : Nat} (hn : n ≤ 48) (hk : k ≤ 6) {M M' : sm_M} {t : Nat} {th nr : Nat → Bool} {nw : Nat → Nat → Bool} (hth : ∀ t, t < 8820 → M.1 53 t = sm_z (th t)) (h : ra_post M t th nr M') (hnw : ∀ p u, p < k + 10 → u < 10 → nr (10 * ck_r k p + u) = nw p u) : rx n k M' = ck_me n t nw (rx n k M) := by
  obtain ⟨h1, h2, h3, h4⟩ := h
  have hz : ∀ b : Bool, decide (¬ sm_z b = 0) = b := fun b => by cases b <;> decide
  have st : ∀ i p u, i < n ∧ p < k + 10 ∧ u < 10 → decide (¬ M'.1 53 (180 * i + 10 * ck_r k p + u) = 0) = (decide (¬ M.1 53 (180 * i + 10 * ck_r k p + u) = 0) && (!decide (i = t) || nw p u)) := fun i p u r => by
    have rp := ck_r_lt hk r.2.1
    rw [h1 _ (by omega), hth _ (by omega), hz, hz, show (180 * i + 10 * ck_r k p + u) / 180 = i by omega, show (180 * i + 10 * ck_r k p + u) % 180 = 10 * ck_r k p + u by omega, hnw p u r.2.1 r.2.2]
  unfold ck_me
  by_cases c : (t : Int) < n
  · rw [if_pos c]
    unfold rx
    refine Prod.ext ?_ ?_
    · funext i
      show (decide (i < n) && decide (¬ M'.1 55 i = 0)) = (decide (i < n) && decide (¬ M.1 55 i = 0) || decide ((i : Int) = (t : Int)))
      rw [h2]
      by_cases e : i = t
      · rw [e, pk_us, decide_eq_true (show t < n by omega), decide_eq_true (show ((t : Nat) : Int) = (t : Int) from rfl), Bool.or_true]; rfl
      · rw [pk_un e, decide_eq_false (show ¬ (i : Int) = (t : Int) by omega), Bool.or_false]
    · funext i p u
      show (decide (i < n ∧ p < k + 10 ∧ u < 10) && decide (¬ M'.1 53 (180 * i + 10 * ck_r k p + u) = 0)) = ((decide (i < n ∧ p < k + 10 ∧ u < 10) && decide (¬ M.1 53 (180 * i + 10 * ck_r k p + u) = 0)) && (!decide ((i : Int) = (t : Int)) || nw p u))
      by_cases r : i < n ∧ p < k + 10 ∧ u < 10
      · rw [decide_eq_true r, st i p u r, Bool.true_and, Bool.true_and, decide_eq_decide.mpr (show i = t ↔ (i : Int) = (t : Int) by omega)]
      · rw [decide_eq_false r]; rfl
  · rw [if_neg c]
    unfold rx
    refine Prod.ext ?_ ?_
    · funext i
      show (decide (i < n) && decide (¬ M'.1 55 i = 0)) = (decide (i < n) && decide (¬ M.1 55 i = 0))
      rw [h2]
      by_cases e : i = t
      · rw [decide_eq_false (show ¬ i < n by omega)]; rfl
      · rw [pk_un e]
    · funext i p u
      show (decide (i < n ∧ p < k + 10 ∧ u < 10) && decide (¬ M'.1 53 (180 * i + 10 * ck_r k p + u) = 0)) = (decide (i < n ∧ p < k + 10 ∧ u < 10) && decide (¬ M.1 53 (180 * i + 10 * ck_r k p + u) = 0))
      by_cases r : i < n ∧ p < k + 10 ∧ u < 10
      · rw [st i p u r, decide_eq_false (show ¬ i = t by omega)]; simp
      · rw [decide_eq_false r]; rfl
def rh_p (M : sm_M) : Nat := bct (fun t => decide (¬ M.1 53 t = 0)) 8820 + bct (fun i => decide (M.1 55 i = 0)) 49
def rh_in (M : sm_M) (th : Nat → Bool) : Prop := ∀ t, t < 8820 → M.1 53 t = sm_z (th t)
def rsame (M M' : sm_M) : Prop := (∀ c, c < 8820 → M'.1 53 c = M.1 53 c) ∧ ∀ i, ¬ M.1 55 i = 0 ↔ ¬ M'.1 55 i = 0
theorem rsame_t {M M1 M2 : sm_M} (h : rsame M M1) (h' : rsame M1 M2) : rsame M M2 := ⟨fun c hc => by rw [h'.1 c hc, h.1 c hc], fun i => (h.2 i).trans (h'.2 i)⟩
theorem ra_le {M0 M' : sm_M} {t : Nat} (ht : t ≤ 48) {th nw : Nat → Bool} (hth : rh_in M0 th) (h : ra_post M0 t th nw M') : rh_in M' (fun c => th c && (!decide (c / 180 = t) || nw (c % 180))) ∧ rh_p M' ≤ rh_p M0 ∧ ((¬ M0.1 55 t = 0 ∧ ∀ s, s < 180 → th (180 * t + s) = true → nw s = true) → rsame M0 M') ∧ (¬ (¬ M0.1 55 t = 0 ∧ ∀ s, s < 180 → th (180 * t + s) = true → nw s = true) → rh_p M' < rh_p M0) := by
  obtain ⟨h1, h2, h3, h4⟩ := h
  have hz : ∀ b : Bool, decide (¬ sm_z b = 0) = b := fun b => by cases b <;> decide
  have m1 : ∀ i, i < 8820 → decide (¬ M'.1 53 i = 0) = true → decide (¬ M0.1 53 i = 0) = true := fun i hi hb => by
    rw [h1 i hi, hz, Bool.and_eq_true] at hb
    rw [hth i hi, hz]; exact hb.1
  have m2 : ∀ i, i < 49 → decide (M'.1 55 i = 0) = true → decide (M0.1 55 i = 0) = true := fun i hi hb => by
    rw [decide_eq_true_eq] at *
    rw [h2] at hb
    by_cases e : i = t
    · rw [e, pk_us] at hb; exact absurd hb (by decide)
    · rw [pk_un e] at hb; exact hb
  refine ⟨h1, ?_, fun hz' => ⟨fun c hc => ?_, fun i => ?_⟩, fun hz' => ?_⟩
  · have := bct_mono 8820 m1
    have := bct_mono 49 m2
    unfold rh_p; omega
  · rw [h1 c hc, hth c hc]
    congr 1
    cases e : th c
    · rfl
    · by_cases e2 : c / 180 = t
      · rw [hz'.2 (c % 180) (by omega) (by rw [show 180 * t + c % 180 = c by omega]; exact e)]; simp
      · rw [decide_eq_false e2]; rfl
  · rw [h2]
    by_cases e : i = t
    · rw [e, pk_us]; exact ⟨fun _ => by decide, fun _ => hz'.1⟩
    · rw [pk_un e]
  · have b1 := bct_mono 8820 m1
    have b2 := bct_mono 49 m2
    unfold rh_p
    by_cases c : M0.1 55 t = 0
    · have := bct_str (f := fun i => decide (M'.1 55 i = 0)) (h := fun i => decide (M0.1 55 i = 0)) (x := t) (decide_eq_true c) (decide_eq_false (by rw [h2, pk_us]; decide)) 49 (by omega) m2
      omega
    · have hne : ∃ s, s < 180 ∧ th (180 * t + s) = true ∧ nw s = false := by
        apply Classical.byContradiction
        intro hn
        refine hz' ⟨c, fun s hs hts => ?_⟩
        cases e : nw s
        · exact absurd ⟨s, hs, hts, e⟩ hn
        · rfl
      obtain ⟨s, hs, x1, x2⟩ := hne
      have := bct_str (f := fun t => decide (¬ M'.1 53 t = 0)) (h := fun t => decide (¬ M0.1 53 t = 0)) (x := 180 * t + s) (by rw [hth _ (by omega), hz]; exact x1) (by rw [h1 _ (by omega), hz, show (180 * t + s) / 180 = t by omega, show (180 * t + s) % 180 = s by omega, x2, decide_eq_true rfl]; simp) 8820 (by omega) m1
      omega
/-- what the reference's checker looks at -/
def rh_ok (ns : Nat) (Ls : Int → Int → Int) (n k : Nat) (L : Int → Int → Int) (M : sm_M) : Prop := (ns ≤ 16 ∧ n ≤ 48 ∧ k ≤ 6) ∧ (∀ i : Nat, i < ns → sok (Ls i)) ∧ (∀ o : Nat, o < ns → M.1 37 o = Int32.ofInt (Ls o 1) ∧ M.1 38 o = Int32.ofInt (Ls o 2) ∧ M.1 39 o = Int32.ofInt (Ls o 3)) ∧ M.1 35 7 = Int32.ofInt (n : Int) ∧ Ln n (rf_L M 16) L ∧ ∀ i : Nat, i < n → rok ns Ls k (L i)
def rh_fr (M0 M : sm_M) : Prop := (∀ p, p ≠ 53 → p ≠ 54 → p ≠ 55 → M.1 p = M0.1 p) ∧ M.2 = M0.2
theorem rh_ok_c {ns : Nat} {Ls : Int → Int → Int} {n k : Nat} {L : Int → Int → Int} {M M' : sm_M} (h : rh_ok ns Ls n k L M) (hf : rh_fr M M') : rh_ok ns Ls n k L M' := by
  obtain ⟨a, b, c, d, e, f⟩ := h
  refine ⟨a, b, fun o ho => ?_, ?_, ?_, f⟩
  · rw [hf.1 37 (by decide) (by decide) (by decide), hf.1 38 (by decide) (by decide) (by decide), hf.1 39 (by decide) (by decide) (by decide)]; exact c o ho
  · rw [hf.1 35 (by decide) (by decide) (by decide)]; exact d
  · exact rL_c e (hf.1 36 (by decide) (by decide) (by decide)) (hf.1 37 (by decide) (by decide) (by decide)) (hf.1 38 (by decide) (by decide) (by decide)) (hf.1 39 (by decide) (by decide) (by decide)) (hf.1 40 (by decide) (by decide) (by decide))
theorem rh_lr {M : sm_M} {n : Nat} {L : Int → Int → Int} (h : Ln n (rf_L M 16) L) {i : Nat} (hi : i < n) {j : Int} (hj : 0 ≤ j ∧ j < 5) : -2147483648 ≤ L i j ∧ L i j < 2147483648 := by
  rw [← Ln_o h hi hj]; unfold rf_L rf_l; exact ⟨Int32.le_toInt _, Int32.toInt_lt _⟩
theorem c_isGood {ns : Nat} {Ls : Int → Int → Int} {n k : Nat} {L : Int → Int → Int} {M : sm_M} (ho : rh_ok ns Ls n k L M) {i : Nat} (hi : i < n) : sm_Sm g 113 [.ref 35, .int (Int32.ofInt (i : Int))] M (sm_P (.int (sm_z (ck_g L Ls (rx n k M) i))) M) := by
  obtain ⟨⟨o1, o2, o3⟩, o4, o5, o6, o7, o8⟩ := ho
  obtain ⟨l0, l1, l2, l3, l4⟩ := rL_at o7 hi
  have ri := o8 i hi
  have r0 := rh_lr o7 hi (j := 0) (by omega)
  have r2 := rh_lr o7 hi (j := 2) (by omega)
  have r3 := rh_lr o7 hi (j := 3) (by omega)
  have r4 := rh_lr o7 hi (j := 4) (by omega)
  have ix : vp_in (Int32.ofInt (16 + (i : Int))) 112 := by rw [jn_in (by omega) (by omega)]; omega
  have clx : (Int32.ofInt (16 + (i : Int))).toNatClampNeg = 16 + i := by rw [jn_cl (by omega) (by omega)]; omega
  have t0 : (Int32.ofInt (L i 0)).toInt = L i 0 := jn_to r0.1 r0.2
  have rc : (rx n k M).1 i = decide (¬ M.1 55 i = 0) := by
    show (decide (i < n) && decide (¬ M.1 55 i = 0)) = _
    rw [decide_eq_true hi]; rfl
  have g0 : ck_g L Ls (rx n k M) i = (!decide (¬ M.1 55 i = 0) || (decide (L i 4 < 0) || ((!pf_hv (L i 0) 2 || (rx n k M).2 i (L i 2).toNat (Ls (L i 4) 2).toNat) && (!pf_hv (L i 0) 3 || (rx n k M).2 i (L i 3).toNat (Ls (L i 4) 3).toNat)))) := by unfold ck_g; rw [rc]
  have rd : ∀ j, (j = 2 ∨ j = 3) → pf_hv (L i 0) j = true → (0 ≤ L i j ∧ L i j < k) ∧ (0 ≤ L i 4 ∧ L i 4 < ns) ∧ (0 ≤ Ls (L i 4) j ∧ Ls (L i 4) j < 10) ∧ (rx n k M).2 i (L i j).toNat (Ls (L i 4) j).toNat = decide (¬ M.1 53 (180 * i + 10 * (L i j).toNat + (Ls (L i 4) j).toNat) = 0) := fun j hj hv => by
    obtain ⟨b1, b2, b3⟩ := sok_n o4 ri hj hv
    refine ⟨b1, b2, b3, ?_⟩
    show (decide (i < n ∧ (L i j).toNat < k + 10 ∧ (Ls (L i 4) j).toNat < 10) && decide (¬ M.1 53 (180 * i + 10 * ck_r k (L i j).toNat + (Ls (L i 4) j).toNat) = 0)) = _
    rw [decide_eq_true ⟨hi, by omega, by omega⟩, show ck_r k (L i j).toNat = (L i j).toNat by unfold ck_r; rw [if_pos (by omega)]]; rfl
  generalize hQ : sm_P (.int (sm_z (ck_g L Ls (rx n k M) i))) M = Q
  have ans : ∀ b : Bool, b = ck_g L Ls (rx n k M) i → Q (some (.int (sm_z b))) M := fun b hb => by rw [← hQ, hb]; exact ⟨rfl, rfl⟩
  refine sm_entry (Nat.le_of_ble_eq_true rfl) (Nat.le_of_ble_eq_true rfl) ?_
  refine k113_0 (fun _ _ _ _ h => h) ?_
  rw [jn_add, clx, l0, l2, l4, t0, sm_z0, show (Int32.ofInt (i : Int)).toNatClampNeg = i by rw [jn_cl (by omega) (by omega)]; omega, jn_0, jn_le (by omega) (by omega) (by omega) (by omega)]
  refine ⟨ix, by rw [jn_in (by omega) (by omega)]; omega, fun q => ⟨Or.inr rfl, ?_⟩, fun q => ⟨fun q4 => ⟨ix, ?_⟩, fun q4 => ⟨Or.inr rfl, ?_⟩⟩⟩
  · rw [sm_o1]; exact ans true (by rw [g0, jn_0, decide_eq_false (fun z => z q)]; rfl)
  · have q5 : ¬ M.1 55 i = 0 := by rw [jn_0]; exact q
    rw [decide_eq_true q5, decide_eq_false (show ¬ L i 4 < 0 by omega), Bool.not_true, Bool.false_or, Bool.false_or] at g0
    -- the second value
    have f74 : ∀ one : Bool, one = (!pf_hv (L i 0) 2 || (rx n k M).2 i (L i 2).toNat (Ls (L i 4) 2).toNat) → sm_Go g 113 (sm_Fn g Q) 74 [.ref 35, .int (Int32.ofInt (i : Int)), .int (Int32.ofInt (16 + (i : Int))), .int (Int32.ofInt (L i 4)), .null, .null] [.int (sm_z one)] M := fun one h1 => by
      rw [← h1] at g0
      have f123 : ∀ two : Bool, two = (!pf_hv (L i 0) 3 || (rx n k M).2 i (L i 3).toNat (Ls (L i 4) 3).toNat) → sm_Go g 113 (sm_Fn g Q) 123 [.ref 35, .int (Int32.ofInt (i : Int)), .int (Int32.ofInt (16 + (i : Int))), .int (Int32.ofInt (L i 4)), .int (sm_z one), .null] [.int (sm_z two)] M := fun two h2 => by
        rw [← h2] at g0
        refine k113_123 (fun _ _ _ _ h => h) ?_
        rw [sm_z0, sm_z0]
        refine ⟨fun z => ⟨Or.inl rfl, ?_⟩, fun z => ⟨fun z2 => ⟨Or.inl rfl, ?_⟩, fun z2 => ⟨Or.inr rfl, ?_⟩⟩⟩
        · rw [sm_o0]; exact ans false (by rw [g0, z]; rfl)
        · rw [sm_o0]; exact ans false (by rw [g0, z2]; simp)
        · rw [Bool.not_eq_false] at z z2
          rw [sm_o1]; exact ans true (by rw [g0, z, z2]; rfl)
      have yes : (!pf_hv (L i 0) 3 || (rx n k M).2 i (L i 3).toNat (Ls (L i 4) 3).toNat) = true → sm_Go g 113 (sm_Fn g Q) 118 [.ref 35, .int (Int32.ofInt (i : Int)), .int (Int32.ofInt (16 + (i : Int))), .int (Int32.ofInt (L i 4)), .int (sm_z one), .null] [] M := fun e => by
        refine k113_118 (fun _ _ _ _ h => h) ?_
        rw [sm_o1]; exact f123 true e.symm
      refine k113_74 (fun _ _ _ _ h => h) ⟨ix, ?_⟩
      rw [clx, l0, l3, t0, sm_z0]
      refine ⟨fun z => yes (by rw [pf_hv3, z]; rfl), fun z => ?_⟩
      rw [Bool.not_eq_false] at z
      obtain ⟨b1, b2, b3, b4⟩ := rd 3 (Or.inr rfl) (by rw [pf_hv3]; exact z)
      have so := (o5 (L i 4).toNat (by omega)).2.2
      rw [show (((L i 4).toNat : Nat) : Int) = L i 4 by omega] at so
      have cl : (Int32.ofInt (180 * (i : Int) + 10 * L i 3 + Ls (L i 4) 3)).toNatClampNeg = 180 * i + 10 * (L i 3).toNat + (Ls (L i 4) 3).toNat := by rw [jn_cl (by omega) (by omega)]; omega
      rw [jn_cl (a := L i 4) (by omega) (by omega), so, jn_mul, jn_mul, jn_add, jn_add, cl]
      refine ⟨ix, by rw [jn_in (by omega) (by omega)]; omega, by rw [jn_in (by omega) (by omega)]; omega, fun w => ?_, fun w => yes ?_⟩
      · rw [sm_o0]; exact f123 false (by rw [b4, decide_eq_false (fun x => x w), pf_hv3, z]; rfl)
      · rw [b4, decide_eq_true w]; simp
    have yes : (!pf_hv (L i 0) 2 || (rx n k M).2 i (L i 2).toNat (Ls (L i 4) 2).toNat) = true → sm_Go g 113 (sm_Fn g Q) 69 [.ref 35, .int (Int32.ofInt (i : Int)), .int (Int32.ofInt (16 + (i : Int))), .int (Int32.ofInt (L i 4)), .null, .null] [] M := fun e => by
      refine k113_69 (fun _ _ _ _ h => h) ?_
      rw [sm_o1]; exact f74 true e.symm
    refine ⟨fun z => yes (by rw [pf_hv2, z]; rfl), fun z => ?_⟩
    rw [Bool.not_eq_false] at z
    obtain ⟨b1, b2, b3, b4⟩ := rd 2 (Or.inl rfl) (by rw [pf_hv2]; exact z)
    have so := (o5 (L i 4).toNat (by omega)).2.1
    rw [show (((L i 4).toNat : Nat) : Int) = L i 4 by omega] at so
    have cl : (Int32.ofInt (180 * (i : Int) + 10 * L i 2 + Ls (L i 4) 2)).toNatClampNeg = 180 * i + 10 * (L i 2).toNat + (Ls (L i 4) 2).toNat := by rw [jn_cl (by omega) (by omega)]; omega
    rw [jn_cl (a := L i 4) (by omega) (by omega), so, jn_mul, jn_mul, jn_add, jn_add, cl]
    refine ⟨ix, by rw [jn_in (by omega) (by omega)]; omega, by rw [jn_in (by omega) (by omega)]; omega, fun w => ?_, fun w => yes ?_⟩
    · rw [sm_o0]; exact f74 false (by rw [b4, decide_eq_false (fun x => x w), pf_hv2, z]; rfl)
    · rw [b4, decide_eq_true (p := ¬ M.1 53 _ = 0) w]; simp
  · rw [sm_o1]; exact ans true (by rw [g0, decide_eq_true (show L i 4 < 0 by omega)]; simp)
theorem rx_same {n k : Nat} (hn : n ≤ 48) (hk : k ≤ 6) {M M' : sm_M} (h : rsame M M') : rx n k M' = rx n k M := by
  unfold rx
  refine Prod.ext ?_ ?_
  · funext i
    show (decide (i < n) && decide (¬ M'.1 55 i = 0)) = (decide (i < n) && decide (¬ M.1 55 i = 0))
    rw [decide_eq_decide.mpr (h.2 i)]
  · funext i p u
    show (decide (i < n ∧ p < k + 10 ∧ u < 10) && decide (¬ M'.1 53 (180 * i + 10 * ck_r k p + u) = 0)) = (decide (i < n ∧ p < k + 10 ∧ u < 10) && decide (¬ M.1 53 (180 * i + 10 * ck_r k p + u) = 0))
    by_cases r : i < n ∧ p < k + 10 ∧ u < 10
    · have := ck_r_lt hk r.2.1
      rw [h.1 _ (by omega)]
    · rw [decide_eq_false r]; rfl
theorem rx_r {n k : Nat} {M : sm_M} (i p u : Nat) (h : (rx n k M).2 i p u = true) : p < k + 10 ∧ u < 10 := by
  have h : (decide (i < n ∧ p < k + 10 ∧ u < 10) && decide (¬ M.1 53 (180 * i + 10 * ck_r k p + u) = 0)) = true := h
  rw [Bool.and_eq_true, decide_eq_true_eq] at h
  exact h.1.2
theorem ck_me_n {n : Nat} {nw : Nat → Nat → Bool} {X : kX} : ck_me n n nw X = X := by unfold ck_me; rw [if_neg (by omega)]
/-- one pass over the lines: what is left to show once it is done -/
theorem c_rpass {ns : Nat} {Ls : Int → Int → Int} {n k : Nat} {L : Int → Int → Int} {M0 : sm_M} {Q : Option Value → sm_M → Prop} (ho : rh_ok ns Ls n k L M0) {t0 : Nat → Bool} (hin0 : rh_in M0 t0)
    (cont : ∀ (M : sm_M) (b : Bool) (th : Nat → Bool), rx n k M = ck_F n k L Ls n (rx n k M0) → rh_in M th → (b = true → rh_p M < rh_p M0) → (b = false → rsame M0 M) → rh_fr M0 M → sm_Go g 114 (sm_Fn g Q) 67 [.ref 35, .int (sm_z b), .null, .null, .null, .null] [] M) :
    sm_Go g 114 (sm_Fn g Q) 75 [.ref 35, .int (Int32.ofInt 0), .int (Int32.ofInt 0), .null, .null, .null] [] M0 := by
  have ho' := ho
  obtain ⟨⟨o1, o2, o3⟩, o4, o5, o6, o7, o8⟩ := ho
  have loop : ∀ (d i : Nat) (M : sm_M) (b : Bool) (th : Nat → Bool), i + d = n → rx n k M = ck_F n k L Ls i (rx n k M0) → rh_in M th → rh_p M ≤ rh_p M0 → (b = true → rh_p M < rh_p M0) → (b = false → rsame M0 M) → rh_fr M0 M → sm_Go g 114 (sm_Fn g Q) 75 [.ref 35, .int (sm_z b), .int (Int32.ofInt (i : Int)), .null, .null, .null] [] M := by
    intro d
    induction d with
    | zero =>
      intro i M b th hd h1 h2 h3 h4 h5 h6
      have ei : i = n := by omega
      subst ei
      refine k114_75 (fun _ _ _ _ h => h) ⟨fun _ => ?_, fun q => absurd ?_ q⟩
      · exact sm_wk (L := [.ref 35, .int (sm_z b), .null, .null, .null, .null]) ⟨rfl, rfl, trivial⟩ (cont M b th h1 h2 h4 h5 h6)
      · rw [h6.1 35 (by decide) (by decide) (by decide), o6, jn_le (by omega) (by omega) (by omega) (by omega)]; omega
    | succ d ih =>
      intro i M b th hd h1 h2 h3 h4 h5 h6
      have hiN : i < n := by omega
      have okM := rh_ok_c ho' h6
      obtain ⟨-, -, p5, p6, p7, -⟩ := okM
      obtain ⟨l0, l1, l2, l3, l4⟩ := rL_at p7 hiN
      have ri := o8 i hiN
      have rr := fun j (hj : 0 ≤ j ∧ j < 5) => rh_lr p7 hiN hj
      have r0 := rr 0 (by omega)
      have r2 := rr 2 (by omega)
      have r3 := rr 3 (by omega)
      have ix : vp_in (Int32.ofInt (16 + (i : Int))) 112 := by rw [jn_in (by omega) (by omega)]; omega
      have clx : (Int32.ofInt (16 + (i : Int))).toNatClampNeg = 16 + i := by rw [jn_cl (by omega) (by omega)]; omega
      have cli : (Int32.ofInt (i : Int)).toNatClampNeg = i := by rw [jn_cl (by omega) (by omega)]; omega
      have eF : ck_F n k L Ls (i + 1) (rx n k M0) = ck_st n k L Ls i (rx n k M) := by rw [ck_F, ← h1]
      have on : ∀ (M2 : sm_M) (b2 : Bool) (th2 : Nat → Bool), rx n k M2 = ck_st n k L Ls i (rx n k M) → rh_in M2 th2 → rh_p M2 ≤ rh_p M0 → (b2 = true → rh_p M2 < rh_p M0) → (b2 = false → rsame M0 M2) → rh_fr M0 M2 → sm_Go g 114 (sm_Fn g Q) 182 [.ref 35, .int (sm_z b2), .int (Int32.ofInt (i : Int)), .null, .null, .null] [] M2 := fun M2 b2 th2 a1 a2 a3 a4 a5 a6 => by
        refine k114_182 (fun _ _ _ _ h => h) ?_
        rw [jn_add, show (i : Int) + 1 = ((i + 1 : Nat) : Int) by omega]
        exact ih (i + 1) M2 b2 th2 (by omega) (by rw [a1, eF]) a2 a3 a4 a5 a6
      have rc : (rx n k M).1 i = decide (¬ M.1 55 i = 0) := by
        show (decide (i < n) && decide (¬ M.1 55 i = 0)) = _
        rw [decide_eq_true hiN]; rfl
      refine k114_75 (fun _ _ _ _ h => h) ⟨fun q => ?_, fun _ => ⟨by rw [jn_in (by omega) (by omega)]; omega, ?_⟩⟩
      · rw [h6.1 35 (by decide) (by decide) (by decide), o6, jn_le (by omega) (by omega) (by omega) (by omega)] at q; omega
      rw [cli, jn_add, clx, l0, jn_eq (by omega) (by omega) (by omega) (by omega)]
      refine ⟨fun q => on M b th ?_ h2 h3 h4 h5 h6, fun q => ⟨ix, ?_⟩⟩
      · unfold ck_st
        rw [rc, decide_eq_false (fun z => z q), if_neg (by decide)]
      have lrl : ∀ j, -2147483648 ≤ (fun j => if 0 ≤ j ∧ j < 5 then L i j else 0) j ∧ (fun j => if 0 ≤ j ∧ j < 5 then L i j else 0) j < 2147483648 := fun j => by
        show -2147483648 ≤ (if 0 ≤ j ∧ j < 5 then L i j else 0) ∧ (if 0 ≤ j ∧ j < 5 then L i j else 0) < 2147483648
        split
        · exact rr j (by assumption)
        · omega
      have elq : ln_eq (fun j => if 0 ≤ j ∧ j < 5 then L i j else 0) (L i) := ⟨rfl, rfl, rfl, rfl, rfl⟩
      refine sm_Sm_mono (c_pass (i := i) (by omega) o1 o3 o4 (l := fun j => if 0 ≤ j ∧ j < 5 then L i j else 0) (rok_c elq ri) l0 l1 l2 l4 (fun o ho => (p5 o ho).1) h2 lrl) (fun o M2 h' => ?_)
      obtain ⟨rfl, n1, n2⟩ := h'
      rw [ck_tr_l elq, if_pos (show (0 : Int) ≤ 4 ∧ (4 : Int) < 5 by omega)] at n1
      -- what now holds
      have hz : ∀ b : Bool, decide (¬ sm_z b = 0) = b := fun b => by cases b <;> decide
      let nr : Nat → Bool := fun t => ck_tr 6 (L i) (Ls (L i 4) 1).toNat (fun q u => th (180 * i + 10 * q + u)) (t / 10) (t % 10)
      have hnr : ∀ t, t < 180 → M2.1 54 t = sm_z (nr t) := fun t ht => by
        have := n1 (t / 10) (t % 10) (by omega) (by omega)
        rw [show 10 * (t / 10) + t % 10 = t by omega] at this
        exact this
      have hnw : ∀ p u, p < k + 10 → u < 10 → nr (10 * ck_r k p + u) = ck_tr k (L i) (Ls (L i 4) 1).toNat ((rx n k M).2 i) p u := fun p u hp hu => by
        have rp := ck_r_lt o3 hp
        show ck_tr 6 (L i) (Ls (L i 4) 1).toNat (fun q u => th (180 * i + 10 * q + u)) ((10 * ck_r k p + u) / 10) ((10 * ck_r k p + u) % 10) = _
        rw [show (10 * ck_r k p + u) / 10 = ck_r k p by omega, show (10 * ck_r k p + u) % 10 = u by omega]
        refine (ck_tr_r o3 o4 ri (fun p hp => ?_) hp).symm
        show (decide (i < n ∧ p < k + 10 ∧ u < 10) && decide (¬ M.1 53 (180 * i + 10 * ck_r k p + u) = 0)) = _
        have rp := ck_r_lt o3 hp
        rw [decide_eq_true ⟨hiN, hp, hu⟩, h2 _ (by omega), hz]; rfl
      generalize hT : ck_tr k (L i) (Ls (L i 4) 1).toNat ((rx n k M).2 i) = nw at *
      have est : ck_st n k L Ls i (rx n k M) = ck_me n (lv_as (L i) n) nw (ck_me n (lv_on (L i) n i) nw (rx n k M)) := by
        unfold ck_st
        rw [if_pos (by rw [rc, decide_eq_true q]), hT]
      have rx2 : rx n k M2 = rx n k M := by unfold rx; rw [n2.1 55 (by decide), n2.1 53 (by decide)]
      have in2 : rh_in M2 th := fun t ht => by rw [n2.1 53 (by decide)]; exact h2 t ht
      have p2 : rh_p M2 = rh_p M := by unfold rh_p; rw [n2.1 55 (by decide), n2.1 53 (by decide)]
      have s2 : rsame M M2 := ⟨fun c hc => by rw [n2.1 53 (by decide)], fun t => by rw [n2.1 55 (by decide)]⟩
      have f2 : rh_fr M0 M2 := ⟨fun p x1 x2 x3 => by rw [n2.1 p x2]; exact h6.1 p x1 x2 x3, by rw [n2.2, h6.2]⟩
      have k7 : ∀ {M' : sm_M}, rh_fr M0 M' → M'.1 35 7 = Int32.ofInt (n : Int) := fun h => by rw [h.1 35 (by decide) (by decide) (by decide)]; exact o6
      have k36 : ∀ {M' : sm_M}, rh_fr M0 M' → ∀ p, 36 ≤ p → p ≤ 40 → M'.1 p = M.1 p := fun h p q1 q2 => by rw [h.1 p (by omega) (by omega) (by omega), h6.1 p (by omega) (by omega) (by omega)]
      -- the end of a line
      have f160 : ∀ (M4 : sm_M) (th4 : Nat → Bool) (one two : Bool), rx n k M4 = ck_st n k L Ls i (rx n k M) → rh_in M4 th4 → rh_p M4 ≤ rh_p M → ((one = true ∨ two = true) → rh_p M4 < rh_p M) → (one = false → two = false → rsame M M4) → rh_fr M0 M4 → sm_Go g 114 (sm_Fn g Q) 160 [.ref 35, .int (sm_z b), .int (Int32.ofInt (i : Int)), .int (Int32.ofInt (L i 0)), .int (sm_z one), .null] [.int (sm_z two)] M4 := by
        intro M4 th4 one two a1 a2 a3 a4 a5 a6
        have yes : rh_p M4 < rh_p M0 → ∀ x5 : Int32, sm_Go g 114 (sm_Fn g Q) 176 [.ref 35, .int (sm_z b), .int (Int32.ofInt (i : Int)), .int (Int32.ofInt (L i 0)), .int (sm_z one), .int x5] [] M4 := fun hlt x5 => by
          refine k114_176 (fun _ _ _ _ h => h) (k114_181 (fun _ _ _ _ h => h) ?_)
          rw [sm_o1]
          exact sm_wk (L := [.ref 35, .int (sm_z true), .int (Int32.ofInt (i : Int)), .null, .null, .null]) ⟨rfl, rfl, rfl, trivial⟩ (on M4 true th4 a1 a2 (by omega) (fun _ => hlt) (fun z => by cases z) a6)
        refine k114_160 (fun _ _ _ _ h => h) ?_
        rw [sm_z0, sm_z0, sm_z0]
        refine ⟨fun x => yes ?_ _, fun x => ⟨fun x2 => yes ?_ _, fun x2 => ⟨fun x3 => ?_, fun x3 => yes ?_ _⟩⟩⟩
        · rw [Bool.not_eq_false] at x
          have := h4 x; omega
        · rw [Bool.not_eq_false] at x2
          have := a4 (Or.inl x2); omega
        · refine k114_181 (fun _ _ _ _ h => h) ?_
          rw [sm_o0]
          exact sm_wk (L := [.ref 35, .int (sm_z false), .int (Int32.ofInt (i : Int)), .null, .null, .null]) ⟨rfl, rfl, rfl, trivial⟩ (on M4 false th4 a1 a2 (by omega) (fun z => by cases z) (fun _ => rsame_t (h5 x) (a5 x2 x3)) a6)
        · rw [Bool.not_eq_false] at x3
          have := a4 (Or.inr x3); omega
      have lt : ∀ {x : Bool} {P : Prop}, (x = false ↔ P) → x = true → ¬ P := fun h1 h2 h3 => by rw [h1.mpr h3] at h2; cases h2
      -- the way by a jump
      have f127 : ∀ (M3 : sm_M) (th3 : Nat → Bool) (one : Bool), rx n k M3 = ck_me n (lv_on (L i) n i) nw (rx n k M) → rh_in M3 th3 → M3.1 54 = M2.1 54 → rh_p M3 ≤ rh_p M → (one = true → rh_p M3 < rh_p M) → (one = false → rsame M M3) → rh_fr M0 M3 → sm_Go g 114 (sm_Fn g Q) 127 [.ref 35, .int (sm_z b), .int (Int32.ofInt (i : Int)), .int (Int32.ofInt (L i 0)), .null, .null] [.int (sm_z one)] M3 := by
        intro M3 th3 one a1 a2 a54 a3 a4 a5 a6
        have f140 : ∀ x : Int, 0 ≤ x ∧ x < 2147483648 → lv_as (L i) n = mw_cl n x → (if M3.1 36 (16 + i) = Int32.ofInt 5 then M3.1 38 (16 + i) else M3.1 39 (16 + i)) = Int32.ofInt x → sm_Go g 114 (sm_Fn g Q) 140 [.ref 35, .int (sm_z b), .int (Int32.ofInt (i : Int)), .int (Int32.ofInt (L i 0)), .int (sm_z one), .null] [] M3 := by
          intro x hx hxl hif
          refine k114_140 (fun _ _ _ _ h => h) ?_
          rw [jn_add, clx, hif]
          have tt : (mw_cl n x).toNat ≤ 48 ∧ ((mw_cl n x).toNat : Int) = mw_cl n x := by unfold mw_cl; split <;> omega
          refine ⟨ix, sm_Sm_mono (c_meets (k7 a6) o2 hx a2 (fun t ht => by rw [a54]; exact hnr t ht)) (fun o M4 h4' => ?_)⟩
          obtain ⟨b4, r4, rfl, hr4⟩ := h4'
          obtain ⟨in4, p4, q4, z4⟩ := ra_le tt.1 a2 b4
          have rx4 := rx_me o2 o3 a2 b4 hnw
          rw [tt.2, ← hxl, a1, ← est] at rx4
          have f4 : rh_fr M0 M4 := ⟨fun p x1 x2 x3 => by rw [b4.2.2.1 p x1 x3]; exact a6.1 p x1 x2 x3, by rw [b4.2.2.2, a6.2]⟩
          have E := f160 M4 _ one r4 rx4 in4 (by omega) (fun z => by
            rcases z with z | z
            · have := a4 z; omega
            · have := z4 (lt hr4 z); omega) (fun z1 z2 => rsame_t (a5 z1) (q4 (hr4.mp z2))) f4
          show (_ → _) ∧ (_ → _)
          rw [sm_z0]
          refine ⟨fun z => k114_159 (fun _ _ _ _ h => h) ?_, fun z => ?_⟩
          · rw [z] at E; rw [sm_o0]; exact E
          · rw [Bool.not_eq_false] at z
            rw [z] at E; rw [sm_o1]; exact E
        refine k114_127 (fun _ _ _ _ h => h) ?_
        rw [jn_eq (by omega) (by omega) (by omega) (by omega), jn_eq (by omega) (by omega) (by omega) (by omega)]
        have e36 : M3.1 36 (16 + i) = Int32.ofInt (L i 0) := by rw [k36 a6 36 (by omega) (by omega)]; exact l0
        have e38 : M3.1 38 (16 + i) = Int32.ofInt (L i 2) := by rw [k36 a6 38 (by omega) (by omega)]; exact l2
        have e39 : M3.1 39 (16 + i) = Int32.ofInt (L i 3) := by rw [k36 a6 39 (by omega) (by omega)]; exact l3
        have eq5 : Int32.ofInt (L i 0) = Int32.ofInt 5 ↔ L i 0 = 5 := jn_eq (by omega) (by omega) (by omega) (by omega)
        refine ⟨fun z => f140 (L i 2) ⟨ri.2.2.1 z, by omega⟩ ?_ ?_, fun z => ⟨fun z2 => k114_159 (fun _ _ _ _ h => h) ?_, fun z2 => f140 (L i 3) ⟨ri.2.2.2.1 z2, by omega⟩ ?_ ?_⟩⟩
        · unfold lv_as; rw [if_pos z]
        · rw [e36, e38, if_pos (eq5.mpr z)]
        · rw [sm_o0]
          have eas : lv_as (L i) n = (n : Int) := by unfold lv_as; rw [if_neg z, if_neg z2]
          exact f160 M3 th3 one false (by rw [est, eas, ck_me_n]; exact a1) a2 a3 (fun y => by
            rcases y with y | y
            · exact a4 y
            · cases y) (fun y _ => a5 y) a6
        · unfold lv_as; rw [if_neg z, if_pos z2]
        · rw [e36, e39, if_neg (fun y => z (eq5.mp y))]
      refine ⟨fun z => k114_126 (fun _ _ _ _ h => h) ?_, fun z => ?_⟩
      · rw [sm_o0]
        have eon : lv_on (L i) n i = (n : Int) := by unfold lv_on; rw [if_pos z]
        exact f127 M2 th false (by rw [eon, ck_me_n]; exact rx2) in2 rfl (by omega) (fun y => by cases y) (fun _ => s2) f2
      · have eon : lv_on (L i) n i = (i : Int) + 1 := by unfold lv_on; rw [if_neg z]
        rw [jn_add]
        have tt : mw_cl n ((i : Int) + 1) = (i : Int) + 1 := by unfold mw_cl; rw [if_neg (by omega)]
        refine sm_Sm_mono (c_meets (k7 f2) o2 (x := (i : Int) + 1) (by omega) in2 hnr) (fun o M3 h3' => ?_)
        obtain ⟨b3, r3, rfl, hr3⟩ := h3'
        rw [tt] at b3 hr3
        obtain ⟨in3, p3, q3, z3⟩ := ra_le (by omega) in2 b3
        have rx3 := rx_me o2 o3 in2 b3 hnw
        rw [show ((((i : Int) + 1).toNat : Nat) : Int) = (i : Int) + 1 by omega, ← eon, rx2] at rx3
        have f3 : rh_fr M0 M3 := ⟨fun p x1 x2 x3 => by rw [b3.2.2.1 p x1 x3]; exact f2.1 p x1 x2 x3, by rw [b3.2.2.2, f2.2]⟩
        have E := f127 M3 _ r3 rx3 in3 (b3.2.2.1 54 (by decide) (by decide)) (by omega) (fun y => by have := z3 (lt hr3 y); omega) (fun y => rsame_t s2 (q3 (hr3.mp y))) f3
        show (_ → _) ∧ (_ → _)
        rw [sm_z0]
        refine ⟨fun y => k114_126 (fun _ _ _ _ h => h) ?_, fun y => ?_⟩
        · rw [y] at E; rw [sm_o0]; exact E
        · rw [Bool.not_eq_false] at y
          rw [y] at E; rw [sm_o1]; exact E
  have L0 := loop n 0 M0 false t0 (by omega) rfl hin0 (Nat.le_refl _) (fun z => by cases z) (fun _ => ⟨fun _ _ => rfl, fun _ => Iff.rfl⟩) ⟨fun _ _ _ _ => rfl, rfl⟩
  rw [← sm_o0] at L0
  exact L0
def ac_fr (M0 M : sm_M) : Prop := (∀ p, p ≠ 35 → p ≠ 53 → p ≠ 54 → p ≠ 55 → M.1 p = M0.1 p) ∧ (∀ i, i ≠ 0 → M.1 35 i = M0.1 35 i) ∧ M.1 35 0 = Int32.ofInt 0 ∧ M.2 = M0.2
theorem c_raccepts0 {M0 : sm_M} (h24 : M0.1 35 24 = Int32.ofInt 0) : sm_Sm g 114 [.ref 35] M0 (fun o M' => o = some (.int (Int32.ofInt 0)) ∧ ac_fr M0 M') := by
  refine sm_entry (Nat.le_of_ble_eq_true rfl) (Nat.le_of_ble_eq_true rfl) ?_
  refine k114_0 (fun _ _ _ _ h => h) ?_
  rw [pk_un (by decide), h24]
  exact ⟨fun q => absurd rfl q, fun _ => ⟨Or.inl rfl, rfl, fun p p1 _ _ _ => sI_1 p1, fun i hi => by rw [sI_s, pk_un hi], by rw [sI_s, pk_us], rfl⟩⟩
theorem c_raccepts {ns : Nat} {Ls : Int → Int → Int} {n k : Nat} {L : Int → Int → Int} {M0 : sm_M} (ho : rh_ok ns Ls n k L M0) (h24 : M0.1 35 24 = Int32.ofInt 1) : sm_Sm g 114 [.ref 35] M0 (fun o M' => (∃ b : Bool, o = some (.int (sm_z b)) ∧ ck_ans n k L Ls b) ∧ ac_fr M0 M') := by
  have ho' := ho
  obtain ⟨⟨o1, o2, o3⟩, o4, o5, o6, o7, o8⟩ := ho
  generalize hQ : (fun (o : Option Value) (M' : sm_M) => (∃ b : Bool, o = some (.int (sm_z b)) ∧ ck_ans n k L Ls b) ∧ ac_fr M0 M') = Q
  generalize hMs : sm_sI M0 35 0 (Int32.ofInt 0) = Ms
  have sp : ∀ p, p ≠ 35 → Ms.1 p = M0.1 p := fun p hp => by rw [← hMs, sI_1 hp]
  have s35 : ∀ i, i ≠ 0 → Ms.1 35 i = M0.1 35 i := fun i hi => by rw [← hMs, sI_s, pk_un hi]
  have s0 : Ms.1 35 0 = Int32.ofInt 0 := by rw [← hMs, sI_s, pk_us]
  have s2 : Ms.2 = M0.2 := by rw [← hMs]; rfl
  have hs : rh_ok ns Ls n k L Ms := ⟨⟨o1, o2, o3⟩, o4, fun o ho => by rw [sp 37 (by decide), sp 38 (by decide), sp 39 (by decide)]; exact o5 o ho, by rw [s35 7 (by decide)]; exact o6, rL_c o7 (sp 36 (by decide)) (sp 37 (by decide)) (sp 38 (by decide)) (sp 39 (by decide)) (sp 40 (by decide)), o8⟩
  have acf : ∀ {M : sm_M}, rh_fr Ms M → ac_fr M0 M := fun h => ⟨fun p p1 p2 p3 p4 => by rw [h.1 p p2 p3 p4, sp p p1], fun i hi => by rw [h.1 35 (by decide) (by decide) (by decide), s35 i hi], by rw [h.1 35 (by decide) (by decide) (by decide)]; exact s0, by rw [h.2, s2]⟩
  have frt : ∀ {A B C : sm_M}, rh_fr A B → rh_fr B C → rh_fr A C := fun h h' => ⟨fun p x1 x2 x3 => by rw [h'.1 p x1 x2 x3]; exact h.1 p x1 x2 x3, by rw [h'.2, h.2]⟩
  -- are all uses good
  have fin : ∀ (M : sm_M) (m : Nat), rh_fr Ms M → rx n k M = ck_it n k L Ls m (ck_X0 n k) → ck_F n k L Ls n (rx n k M) = rx n k M → ∀ (d i : Nat) (x1 : Int32), i + d = n → sm_Go g 114 (sm_Fn g Q) 195 [.ref 35, .int x1, .int (sm_z (ck_a L Ls (rx n k M) i)), .int (Int32.ofInt (i : Int)), .null, .null] [] M := by
    intro M m hf hm hfix d
    have okM := rh_ok_c hs hf
    have e7 : M.1 35 7 = Int32.ofInt (n : Int) := okM.2.2.2.1
    induction d with
    | zero =>
      intro i x1 hd
      have ei : i = n := by omega
      subst ei
      refine k114_195 (fun _ _ _ _ h => h) ⟨fun _ => ⟨sm_zb _, ?_⟩, fun q => absurd ?_ q⟩
      · rw [← hQ]
        exact ⟨⟨_, rfl, m, by rw [← hm]; exact hfix, by rw [hm]⟩, acf hf⟩
      · rw [e7, jn_le (by omega) (by omega) (by omega) (by omega)]; omega
    | succ d ih =>
      intro i x1 hd
      have f220 : ∀ (b : Bool) (x2 : Int32), b = ck_a L Ls (rx n k M) (i + 1) → sm_Go g 114 (sm_Fn g Q) 220 [.ref 35, .int x1, .int x2, .int (Int32.ofInt (i : Int)), .null, .null] [.int (sm_z b)] M := fun b x2 hb => by
        refine k114_220 (fun _ _ _ _ h => h) ?_
        rw [jn_add, show (i : Int) + 1 = ((i + 1 : Nat) : Int) by omega, hb]
        exact ih (i + 1) x1 (by omega)
      have no : ck_a L Ls (rx n k M) (i + 1) = false → ∀ x2 : Int32, sm_Go g 114 (sm_Fn g Q) 219 [.ref 35, .int x1, .int x2, .int (Int32.ofInt (i : Int)), .null, .null] [] M := fun e x2 => by
        refine k114_219 (fun _ _ _ _ h => h) ?_
        rw [sm_o0]; exact f220 false _ e.symm
      refine k114_195 (fun _ _ _ _ h => h) ⟨fun q => ?_, fun _ => ?_⟩
      · rw [e7, jn_le (by omega) (by omega) (by omega) (by omega)] at q; omega
      rw [sm_z0]
      refine ⟨fun q => no (by rw [ck_a, q]; rfl) _, fun q => ?_⟩
      rw [Bool.not_eq_false] at q
      refine sm_Sm_mono (c_isGood okM (i := i) (by omega)) (fun o M1 h1 => ?_)
      obtain ⟨rfl, rfl⟩ := h1
      show (_ → _) ∧ (_ → _)
      rw [sm_z0]
      refine ⟨fun z => no (by rw [ck_a, z, Bool.and_false]) _, fun z => ?_⟩
      rw [Bool.not_eq_false] at z
      rw [sm_o1]; exact f220 true _ (by rw [ck_a, q, z]; rfl)
  -- the passes
  have loop : ∀ (P m : Nat) (M : sm_M) (th : Nat → Bool), rh_p M ≤ P → rh_in M th → rh_fr Ms M → rx n k M = ck_it n k L Ls m (ck_X0 n k) → sm_Go g 114 (sm_Fn g Q) 67 [.ref 35, .int (Int32.ofInt 1), .null, .null, .null, .null] [] M := by
    intro P
    induction P with
    | zero =>
      intro m M th hp hi hf hc
      refine k114_67 (fun _ _ _ _ h => h) ⟨fun q => absurd q (by decide), fun _ => ?_⟩
      refine c_rpass (rh_ok_c hs hf) hi (fun M1 b th1 a1 a2 a3 a4 a5 => ?_)
      cases b with
      | true => have := a3 rfl; omega
      | false =>
        have sm := a4 rfl
        have ec := rx_same o2 o3 sm
        refine k114_67 (fun _ _ _ _ h => h) ⟨fun _ => ?_, fun q => absurd rfl q⟩
        exact fin M1 m (frt hf a5) (by rw [ec]; exact hc) (by rw [ec, ← a1]; exact ec) n 0 _ (by omega)
    | succ P ih =>
      intro m M th hp hi hf hc
      refine k114_67 (fun _ _ _ _ h => h) ⟨fun q => absurd q (by decide), fun _ => ?_⟩
      refine c_rpass (rh_ok_c hs hf) hi (fun M1 b th1 a1 a2 a3 a4 a5 => ?_)
      cases b with
      | true =>
        have := a3 rfl
        rw [← sm_o1]
        exact ih (m + 1) M1 th1 (by omega) a2 (frt hf a5) (by rw [a1, hc]; rfl)
      | false =>
        have sm := a4 rfl
        have ec := rx_same o2 o3 sm
        refine k114_67 (fun _ _ _ _ h => h) ⟨fun _ => ?_, fun q => absurd rfl q⟩
        exact fin M1 m (frt hf a5) (by rw [ec]; exact hc) (by rw [ec, ← a1]; exact ec) n 0 _ (by omega)
  have loopr : ∀ (d w : Nat) (M : sm_M), w + d = 49 → (∀ c, c < 8820 → M.1 53 c = Int32.ofInt 1) → (∀ i, i < w → M.1 55 i = sm_z (decide (i = 0))) → rh_fr Ms M → sm_Go g 114 (sm_Fn g Q) 38 [.ref 35, .int (Int32.ofInt (w : Int)), .null, .null, .null, .null] [] M := by
    intro d
    induction d with
    | zero =>
      intro w M hd h1 h2 hf
      refine k114_38 (fun _ _ _ _ h => h) ⟨fun _ => loop (rh_p M) 0 M (fun _ => true) (Nat.le_refl _) h1 hf ?_, fun q => absurd ?_ q⟩
      · show rx n k M = ck_X0 n k
        unfold rx ck_X0
        refine Prod.ext ?_ ?_
        · funext i
          show (decide (i < n) && decide (¬ M.1 55 i = 0)) = (decide (i < n) && decide (i = 0))
          by_cases r : i < n
          · rw [decide_eq_true r, h2 i (by omega), Bool.true_and, Bool.true_and]
            by_cases c : i = 0
            · rw [decide_eq_true c]; rfl
            · rw [decide_eq_false c]; rfl
          · rw [decide_eq_false r]; rfl
        · funext i p u
          show (decide (i < n ∧ p < k + 10 ∧ u < 10) && decide (¬ M.1 53 (180 * i + 10 * ck_r k p + u) = 0)) = decide (i < n ∧ p < k + 10 ∧ u < 10)
          by_cases r : i < n ∧ p < k + 10 ∧ u < 10
          · have := ck_r_lt o3 r.2.1
            rw [decide_eq_true r, h1 _ (by omega)]; rfl
          · rw [decide_eq_false r]; rfl
      · rw [jn_le (by omega) (by omega) (by omega) (by omega)]; omega
    | succ d ih =>
      intro w M hd h1 h2 hf
      have clw : (Int32.ofInt (w : Int)).toNatClampNeg = w := by rw [jn_cl (by omega) (by omega)]; omega
      have f58 : ∀ b : Bool, b = decide (w = 0) → sm_Go g 114 (sm_Fn g Q) 58 [.ref 35, .int (Int32.ofInt (w : Int)), .null, .null, .null, .null] [.int (sm_z b), .int (Int32.ofInt (w : Int)), .ref 55] M := fun b hb => by
        refine k114_58 (fun _ _ _ _ h => h) ⟨sm_zb _, by rw [jn_in (by omega) (by omega)]; omega, ?_⟩
        rw [clw, jn_add, show (w : Int) + 1 = ((w + 1 : Nat) : Int) by omega]
        refine ih (w + 1) _ (by omega) (fun c hc => by rw [sI_1 (by decide)]; exact h1 c hc) (fun i hi => ?_) ⟨fun p x1 x2 x3 => by rw [sI_1 x3]; exact hf.1 p x1 x2 x3, hf.2⟩
        rw [sI_s]
        by_cases e : i = w
        · rw [e, pk_us, hb]
        · rw [pk_un e]; exact h2 i (by omega)
      refine k114_38 (fun _ _ _ _ h => h) ⟨fun q => ?_, fun _ => ?_⟩
      · rw [jn_le (by omega) (by omega) (by omega) (by omega)] at q; omega
      rw [jn_0, jn_eq (by omega) (by omega) (by omega) (by omega)]
      refine ⟨fun q => ?_, fun q => ?_⟩
      · rw [sm_o0]; exact f58 false (decide_eq_false (by omega)).symm
      · rw [sm_o1]; exact f58 true (decide_eq_true (by omega)).symm
  have loopt : ∀ (d w : Nat) (M : sm_M), w + d = 8820 → (∀ c, c < w → M.1 53 c = Int32.ofInt 1) → rh_fr Ms M → sm_Go g 114 (sm_Fn g Q) 16 [.ref 35, .int (Int32.ofInt (w : Int)), .null, .null, .null, .null] [] M := by
    intro d
    induction d with
    | zero =>
      intro w M hd h1 hf
      refine k114_16 (fun _ _ _ _ h => h) ⟨fun _ => loopr 49 0 M (by omega) (fun c hc => h1 c (by omega)) (fun i hi => absurd hi (by omega)) hf, fun q => absurd ?_ q⟩
      rw [jn_le (by omega) (by omega) (by omega) (by omega)]; omega
    | succ d ih =>
      intro w M hd h1 hf
      have clw : (Int32.ofInt (w : Int)).toNatClampNeg = w := by rw [jn_cl (by omega) (by omega)]; omega
      refine k114_16 (fun _ _ _ _ h => h) ⟨fun q => ?_, fun _ => ⟨Or.inr rfl, by rw [jn_in (by omega) (by omega)]; omega, ?_⟩⟩
      · rw [jn_le (by omega) (by omega) (by omega) (by omega)] at q; omega
      rw [clw, jn_add, show (w : Int) + 1 = ((w + 1 : Nat) : Int) by omega]
      refine ih (w + 1) _ (by omega) (fun c hc => ?_) ⟨fun p x1 x2 x3 => by rw [sI_1 x1]; exact hf.1 p x1 x2 x3, hf.2⟩
      rw [sI_s]
      by_cases e : c = w
      · rw [e, pk_us]
      · rw [pk_un e]; exact h1 c (by omega)
  refine sm_entry (Nat.le_of_ble_eq_true rfl) (Nat.le_of_ble_eq_true rfl) ?_
  refine k114_0 (fun _ _ _ _ h => h) ?_
  rw [pk_un (by decide), h24, hMs]
  exact ⟨fun _ => loopt 8820 0 Ms (by omega) (fun c hc => absurd hc (by omega)) ⟨fun _ _ _ _ => rfl, rfl⟩, fun q => absurd q (by decide)⟩
end
