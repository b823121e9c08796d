-- a round, as a function of the lines
def Ln (n : Nat) (L L' : Int → Int → Int) : Prop := ∀ i : Nat, i < n → ln_eq (L i) (L' i)
theorem Ln_s {n : Nat} {L L' : Int → Int → Int} (h : Ln n L L') : Ln n L' L := fun i hi => ⟨(h i hi).1.symm, (h i hi).2.1.symm, (h i hi).2.2.1.symm, (h i hi).2.2.2.1.symm, (h i hi).2.2.2.2.symm⟩
theorem Ln_t {n : Nat} {L L' L2 : Int → Int → Int} (h : Ln n L L') (h' : Ln n L' L2) : Ln n L L2 := fun i hi => ⟨(h i hi).1.trans (h' i hi).1, (h i hi).2.1.trans (h' i hi).2.1, (h i hi).2.2.1.trans (h' i hi).2.2.1, (h i hi).2.2.2.1.trans (h' i hi).2.2.2.1, (h i hi).2.2.2.2.trans (h' i hi).2.2.2.2⟩
theorem Ln_j {n : Nat} {L L' : Int → Int → Int} (h : ∀ i : Nat, i < n → ∀ j : Int, 0 ≤ j ∧ j < 5 → L i j = L' i j) : Ln n L L' := fun i hi => ⟨h i hi 0 (by omega), h i hi 1 (by omega), h i hi 2 (by omega), h i hi 3 (by omega), h i hi 4 (by omega)⟩
theorem Ln_o {n : Nat} {L L' : Int → Int → Int} (h : Ln n L L') {i : Nat} (hi : i < n) {j : Int} (hj : 0 ≤ j ∧ j < 5) : L i j = L' i j := by
  obtain ⟨h0, h1, h2, h3, h4⟩ := h i hi
  have hj5 : j = 0 ∨ j = 1 ∨ j = 2 ∨ j = 3 ∨ j = 4 := by omega
  rcases hj5 with e | e | e | e | e <;> subst e <;> assumption
theorem gr_1_c {l l' : Int → Int} (h : ln_eq l l') (v : Nat) : gr_1 l 1 v = gr_1 l' 1 v ∧ gr_1 l 2 v = gr_1 l' 2 v ∧ gr_1 l 3 v = gr_1 l' 3 v := by
  obtain ⟨h0, h1, h2, h3, h4⟩ := h
  unfold gr_1
  rw [h0, h1, h2, h3]; exact ⟨rfl, rfl, rfl⟩
theorem gr_c_c {L L' : Int → Int → Int} {v : Nat} : ∀ n, Ln n L L' → gr_c L n v = gr_c L' n v
  | 0, _ => rfl
  | n + 1, h => by
    obtain ⟨a1, a2, a3⟩ := gr_1_c (h n (by omega)) v
    rw [gr_c, gr_c, gr_c_c n (fun i hi => h i (by omega)), a1, a2, a3]
theorem gr_N_c {L L' : Int → Int → Int} {H H' : Nat → Nat → Bool} {u v : Nat} : ∀ n, Ln n L L' → (∀ i, i < n → H i u = H' i u ∧ H i v = H' i v) → gr_N L H n u v = gr_N L' H' n u v
  | 0, _, _ => rfl
  | n + 1, h, hH => by
    obtain ⟨h0, h1, h2, h3, h4⟩ := h n (by omega)
    obtain ⟨b1, b2⟩ := hH n (by omega)
    rw [gr_N, gr_N, gr_N_c n (fun i hi => h i (by omega)) (fun i hi => hH i (by omega))]
    congr 1
    unfold gr_x gr_o
    rw [h0, h1, h2, b1, b2]
theorem jf_c {L L' : Int → Int → Int} {ld : Nat → Int} {mj : Nat → Nat → Bool} {n : Nat} (h : Ln n L L') : ∀ (d i : Nat), i + d ≤ n → jf L ld mj d i = jf L' ld mj d i
  | 0, _, _ => rfl
  | d + 1, i, hd => by
    obtain ⟨h0, h1, h2, h3, h4⟩ := h i (by omega)
    have e : jf_p L ld i = jf_p L' ld i := by unfold jf_p; rw [h1, h2]
    rw [jf, jf, e, h0, jf_c h d (i + 1) (by omega)]
theorem jrun_c {L L' : Int → Int → Int} {n : Nat} {k : Int} (h : Ln n L L') : ∀ (d : Nat) (s : jS), jrun L n k d s = jrun L' n k d s
  | 0, _ => rfl
  | d + 1, s => by
    have e : js_f L n k s = js_f L' n k s := jf_c h n 0 (by omega)
    rw [jrun, jrun, e]
    cases js_f L' n k s with
    | none => rfl
    | some p => exact jrun_c h d _
theorem lv_f_c {L L' : Int → Int → Int} {n : Nat} (h : Ln n L L') {v i : Int} (hi : 0 ≤ i ∧ i < n) (col : Int → Bool) : lv_f L n v i col = lv_f L' n v i col := by
  obtain ⟨h0, h1, h2, h3, h4⟩ := h i.toNat (by omega)
  rw [show ((i.toNat : Nat) : Int) = i by omega] at h0 h1 h2 h3 h4
  unfold lv_f lv_us lv_df lv_on lv_as
  rw [h0, h1, h2, h3]
theorem lv_Is_c {L L' : Int → Int → Int} {n : Nat} (h : Ln n L L') {v : Int} {col : Int → Bool} (hc : lv_Is L n v col) : lv_Is L' n v col := by
  have cl : ∀ {L L' : Int → Int → Int}, Ln n L L' → ∀ S, lv_cl L n v S → lv_cl L' n v S := fun h S hS => ⟨hS.1, fun i h1 h2 hf => hS.2 i h1 h2 (by rw [lv_f_c h ⟨h1, h2⟩]; exact hf)⟩
  exact ⟨cl h col hc.1, fun S hS => hc.2 S (cl (Ln_s h) S hS)⟩
theorem wa_c {sv : Nat → Int} {L L' : Int → Int → Int} {V : Int} {n : Nat} (h : Ln n L L') : ∀ i, i ≤ n → wa sv L V i = wa sv L' V i ∧ wg sv L i = wg sv L' i
  | 0, _ => ⟨rfl, rfl⟩
  | i + 1, hi => by
    obtain ⟨a1, a2⟩ := wa_c (sv := sv) (V := V) h i (by omega)
    have b := ln_w (h i (by omega)) sv (wa sv L' V i)
    rw [wa, wa, wg, wg, a1, a2, b.1, b.2]; exact ⟨rfl, rfl⟩
-- live behind a line
def lvc (L : Int → Int → Int) (n v : Nat) : Int → Bool := lv_it L n v 48
theorem lvc_Is {L : Int → Int → Int} {n : Nat} (hn : n ≤ 48) (v : Nat) : lv_Is L n v (lvc L n v) := lv_it_Is (by omega) (lv_it_48 (by omega))
def Hc (L : Int → Int → Int) (n : Nat) (i v : Nat) : Bool := decide (v < 60) && (lvc L n v (lv_on (L i) n i) || lvc L n v (lv_as (L i) n))
theorem lvc_c {L L' : Int → Int → Int} {n : Nat} (hn : n ≤ 48) (h : Ln n L L') (v : Nat) : lvc L n v = lvc L' n v := lv_Is_eq (lv_Is_c h (lvc_Is hn v)) (lvc_Is hn v)
theorem Hc_c {L L' : Int → Int → Int} {n : Nat} (hn : n ≤ 48) (h : Ln n L L') {i : Nat} (hi : i < n) (v : Nat) : Hc L n i v = Hc L' n i v := by
  obtain ⟨h0, h1, h2, h3, h4⟩ := h i hi
  unfold Hc lv_on lv_as
  rw [lvc_c hn h, h0, h2, h3]
/-- a value stands in a line -/
def stn (l : Int → Int) (v : Int) : Prop := (pf_hv (l 0) 1 = true ∧ l 1 = v) ∨ (pf_hv (l 0) 2 = true ∧ l 2 = v) ∨ (pf_hv (l 0) 3 = true ∧ l 3 = v)
theorem gr_1_stn (l : Int → Int) (v : Nat) : 0 < gr_1 l 1 v + gr_1 l 2 v + gr_1 l 3 v ↔ stn l v := by
  unfold gr_1 stn
  by_cases a : pf_hv (l 0) 1 = true ∧ l 1 = (v : Int)
  · rw [if_pos a]; exact ⟨fun _ => Or.inl a, fun _ => by omega⟩
  · rw [if_neg a]
    by_cases b : pf_hv (l 0) 2 = true ∧ l 2 = (v : Int)
    · rw [if_pos b]; exact ⟨fun _ => Or.inr (Or.inl b), fun _ => by omega⟩
    · rw [if_neg b]
      by_cases c : pf_hv (l 0) 3 = true ∧ l 3 = (v : Int)
      · rw [if_pos c]; exact ⟨fun _ => Or.inr (Or.inr c), fun _ => by omega⟩
      · rw [if_neg c]
        constructor
        · intro h; omega
        · rintro (h | h | h)
          · exact absurd h a
          · exact absurd h b
          · exact absurd h c
theorem gr_c_stn {L : Int → Int → Int} {v : Nat} : ∀ n, 0 < gr_c L n v ↔ ∃ i : Nat, i < n ∧ stn (L i) v
  | 0 => ⟨fun h => absurd h (by show ¬ 0 < 0; omega), fun ⟨i, h, _⟩ => by omega⟩
  | n + 1 => by
    have ih := gr_c_stn (L := L) (v := v) n
    have g := gr_1_stn (L n) v
    rw [gr_c]
    constructor
    · intro h
      by_cases c : 0 < gr_c L n v
      · obtain ⟨i, h1, h2⟩ := ih.mp c
        exact ⟨i, by omega, h2⟩
      · exact ⟨n, by omega, g.mp (by omega)⟩
    · rintro ⟨i, h1, h2⟩
      by_cases c : i = n
      · rw [c] at h2
        have := g.mpr h2
        omega
      · have := ih.mpr ⟨i, by omega, h2⟩
        omega
theorem us_stn {l : Int → Int} {v : Int} (h0 : 0 ≤ l 0 ∧ l 0 ≤ 9) (h : lv_us l v = true) : stn l v := by
  unfold lv_us at h
  simp only [Bool.or_eq_true, Bool.and_eq_true, decide_eq_true_eq] at h
  rcases h with h | h | h
  · exact Or.inr (Or.inl ⟨by rw [pf_hv2]; exact h.1, h.2⟩)
  · exact Or.inr (Or.inr ⟨by rw [pf_hv3]; exact h.1, h.2⟩)
  · refine Or.inl ⟨?_, h.2⟩
    rw [pf_hv1 h0]
    unfold pf_rD
    simp only [Bool.or_eq_true, decide_eq_true_eq]
    omega
theorem dv_hv {o : Int} (h0 : 0 ≤ o ∧ o ≤ 9) (h : pf_dv o = true) : pf_hv o 1 = true := by
  rw [pf_hv1 h0]
  unfold pf_dv at h
  unfold pf_rD
  simp only [Bool.or_eq_true, decide_eq_true_eq] at h ⊢
  omega
/-- a value that is live somewhere stands somewhere -/
theorem lvc_stn {L : Int → Int → Int} {n : Nat} (hn : n ≤ 48) (h0 : ∀ i : Nat, i < n → 0 ≤ L i 0 ∧ L i 0 ≤ 9) {v : Nat} {i : Int} (h : lvc L n v i = true) : ∃ t : Nat, t < n ∧ stn (L t) v := by
  apply Classical.byContradiction
  intro hno
  have hS : lv_cl L n v (fun _ => false) := by
    refine ⟨fun i (hi : false = true) => absurd hi (by decide), fun i h1 h2 hf => ?_⟩
    unfold lv_f at hf
    simp only [Bool.or_false, Bool.and_false, Bool.or_eq_true] at hf
    have hu : lv_us (L i) v = true := by simpa using hf
    have e : ((i.toNat : Nat) : Int) = i := by omega
    have := us_stn (v := (v : Int)) (l := L i) (by have := h0 i.toNat (by omega); rw [e] at this; exact this) hu
    exact absurd ⟨i.toNat, by omega, by rw [e]; exact this⟩ hno
  have := (lvc_Is hn v).2 _ hS i h
  cases this
theorem Hc_stn {L : Int → Int → Int} {n : Nat} (hn : n ≤ 48) (h0 : ∀ i : Nat, i < n → 0 ≤ L i 0 ∧ L i 0 ≤ 9) {v i : Nat} (h : Hc L n i v = true) : ∃ t : Nat, t < n ∧ stn (L t) v := by
  unfold Hc at h
  simp only [Bool.and_eq_true, Bool.or_eq_true] at h
  rcases h.2 with h | h
  · exact lvc_stn hn h0 h
  · exact lvc_stn hn h0 h
theorem stn_r {l : Int → Int} (hk : lv_ok l) {v : Int} (h : stn l v) : 0 ≤ v ∧ v < 60 := by
  rcases h with h | h | h
  · rw [← h.2]; exact hk.2.1 h.1
  · rw [← h.2]; exact hk.2.2.1 h.1
  · rw [← h.2]; exact hk.2.2.2.1 h.1
/-- the groups before any join -/
def gs (L : Int → Int → Int) (n : Nat) : jS := (fun v => decide (0 < gr_c L n v), fun v => if 0 < gr_c L n v then (v : Int) else -1, gr_N L (Hc L n) n, fun v => Int32.ofInt (gr_c L n v : Nat), 0)
theorem gr_N_p {L : Int → Int → Int} {n : Nat} (hn : n ≤ 48) (hk : ∀ i : Nat, i < n → lv_ok (L i)) : ∀ m, m ≤ n → (∀ u v, gr_N L (Hc L n) m u v = gr_N L (Hc L n) m v u) ∧ (∀ u, gr_N L (Hc L n) m u u = false) ∧ ∀ u v, gr_N L (Hc L n) m u v = true → 0 < gr_c L n u ∧ 0 < gr_c L n v
  | 0, _ => ⟨fun _ _ => rfl, fun _ => rfl, fun _ _ h => by cases h⟩
  | m + 1, h => by
    obtain ⟨a1, a2, a3⟩ := gr_N_p hn hk m (by omega)
    have h0 : ∀ i : Nat, i < n → 0 ≤ L i 0 ∧ L i 0 ≤ 9 := fun i hi => (hk i hi).1
    refine ⟨fun u v => ?_, fun u => ?_, fun u v huv => ?_⟩
    · rw [gr_N, gr_N, a1 u v]
      congr 1
      unfold gr_x
      congr 1
      exact Bool.or_comm _ _
    · rw [gr_N, a2 u, Bool.false_or]
      unfold gr_x gr_o
      cases decide (L m 1 = (u : Int)) <;> simp
    · rw [gr_N, Bool.or_eq_true] at huv
      rcases huv with huv | huv
      · exact a3 u v huv
      · unfold gr_x gr_o at huv
        simp only [Bool.and_eq_true, Bool.or_eq_true, decide_eq_true_eq] at huv
        have dh := dv_hv (h0 m (by omega)) huv.1
        have key : ∀ x y : Nat, L m 1 = (x : Int) → Hc L n m y = true → 0 < gr_c L n x ∧ 0 < gr_c L n y := fun x y e1 e2 => ⟨(gr_c_stn n).mpr ⟨m, by omega, Or.inl ⟨dh, e1⟩⟩, (gr_c_stn n).mpr (Hc_stn hn h0 e2)⟩
        rcases huv.2 with q | q
        · exact key u v q.1 q.2.1
        · exact (key v u q.1 q.2.1).symm
theorem gs_w {L : Int → Int → Int} {n : Nat} (hn : n ≤ 48) (hk : ∀ i : Nat, i < n → lv_ok (L i)) : jw (gs L n) := by
  obtain ⟨a1, a2, a3⟩ := gr_N_p hn hk n (Nat.le_refl _)
  refine ⟨fun v hv => ?_, fun v hv => ?_, a1, a2, fun u v h => ?_⟩
  · have hv : decide (0 < gr_c L n v) = true := hv
    rw [decide_eq_true_eq] at hv
    obtain ⟨i, h1, h2⟩ := (gr_c_stn n).mp hv
    have := stn_r (hk i h1) h2
    refine ⟨by omega, ?_⟩
    show (if 0 < gr_c L n v then (v : Int) else -1) = _
    rw [if_pos hv]
  · show (if 0 < gr_c L n v then (v : Int) else -1) = -1 ∨ ∃ w : Nat, (if 0 < gr_c L n v then (v : Int) else -1) = (w : Int) ∧ decide (0 < gr_c L n w) = true
    by_cases c : 0 < gr_c L n v
    · rw [if_pos c]; exact Or.inr ⟨v, rfl, decide_eq_true c⟩
    · rw [if_neg c]; exact Or.inl rfl
  · obtain ⟨b1, b2⟩ := a3 u v h
    exact ⟨decide_eq_true b1, decide_eq_true b2⟩
theorem gs_l {L : Int → Int → Int} {n : Nat} (hk : ∀ i : Nat, i < n → lv_ok (L i)) : jl L n (gs L n) := by
  intro i hi h1
  have hd : pf_hv (L i 0) 1 = true := by rw [h1]; rfl
  have ha : pf_hv (L i 0) 2 = true := by rw [h1]; rfl
  have rd := (hk i hi).2.1 hd
  have ra := (hk i hi).2.2.1 ha
  have gd : 0 < gr_c L n (L i 1).toNat := (gr_c_stn n).mpr ⟨i, hi, Or.inl ⟨hd, by omega⟩⟩
  have ga : 0 < gr_c L n (L i 2).toNat := (gr_c_stn n).mpr ⟨i, hi, Or.inr (Or.inl ⟨ha, by omega⟩)⟩
  refine ⟨rd, ra, ?_, ?_⟩
  · show 0 ≤ (if 0 < gr_c L n (L i 1).toNat then (((L i 1).toNat : Nat) : Int) else -1); rw [if_pos gd]; omega
  · show 0 ≤ (if 0 < gr_c L n (L i 2).toNat then (((L i 2).toNat : Nat) : Int) else -1); rw [if_pos ga]; omega
theorem gs_c {L L' : Int → Int → Int} {n : Nat} (hn : n ≤ 48) (h : Ln n L L') : gs L n = gs L' n := by
  have e : gr_c L n = gr_c L' n := funext fun v => gr_c_c n h
  have e2 : gr_N L (Hc L n) n = gr_N L' (Hc L' n) n := funext fun u => funext fun v => gr_N_c n h (fun i hi => ⟨Hc_c hn h hi u, Hc_c hn h hi v⟩)
  unfold gs
  rw [e, e2]
/-- what joins keep -/
theorem jrun_p {L : Int → Int → Int} {n : Nat} {k : Int} : ∀ (d : Nat) (s : jS), jw s → jl L n s → jw (jrun L n k d s) ∧ jl L n (jrun L n k d s) ∧ (∀ v, js_gr (jrun L n k d s) v = true → js_gr s v = true) ∧ ∀ v, 0 ≤ js_ld s v → 0 ≤ js_ld (jrun L n k d s) v
  | 0, s, h1, h2 => ⟨h1, h2, fun _ h => h, fun _ h => h⟩
  | d + 1, s, h1, h2 => by
    rw [jrun]
    cases e : js_f L n k s with
    | none => exact ⟨h1, h2, fun _ h => h, fun _ h => h⟩
    | some p =>
      obtain ⟨b1, g1, g2, nn⟩ := js_f_ok h1 h2 e
      obtain ⟨a1, a2, a3, a4⟩ := jrun_p (k := k) d (jj s (min p.1 p.2) (max p.1 p.2)) (jw_jj h1 g1 (by omega) nn) (jl_jj h2 _ _)
      refine ⟨a1, a2, fun v hv => ?_, fun v hv => a4 v ?_⟩
      · have := a3 v hv
        have this : (js_gr s v && !decide (max p.1 p.2 = v)) = true := this
        rw [Bool.and_eq_true] at this
        exact this.1
      · show 0 ≤ jj_l (js_ld s) _ _ v
        unfold jj_l
        split <;> omega
