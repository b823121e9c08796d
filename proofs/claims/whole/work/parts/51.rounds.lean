-- the rounds
abbrev aC : Type := Nat × (Int → Int → Int) × Int × Int
def r_s (k : Nat) (c : aC) : jS := jrun c.2.1 c.1 k 60 (gs c.2.1 c.1)
def r_sp (k : Nat) (c : aC) : Nat → Bool := gsp (r_s k c) k (tk_T (r_s k c))
def r_sv (k : Nat) (c : aC) : Nat → Int := svv (js_ld (r_s k c)) (r_sp k c) c.2.2.2 60
def r_al (k : Nat) (c : aC) : Bool := gal (r_s k c) k (tk_T (r_s k c))
def r_ok (k : Nat) (c : aC) : Bool := ta (r_sp k c) (js_ld (r_s k c)) 60 && (decide (c.1 + wg (r_sv k c) c.2.1 c.1 ≤ 48) && decide (c.2.2.1 + (wg (r_sv k c) c.2.1 c.1 : Nat) ≤ 60))
def r_nx (k : Nat) (c : aC) : aC := ((wa (r_sv k c) c.2.1 c.2.2.1 c.1).1, fun i => fx (fun t => ((wa (r_sv k c) c.2.1 c.2.2.1 t).1 : Int)) c.1 ((wa (r_sv k c) c.2.1 c.2.2.1 c.1).2.1 i.toNat), (wa (r_sv k c) c.2.1 c.2.2.1 c.1).2.2, c.2.2.2 + (bct (r_sp k c) 60 : Nat))
theorem r_nx1 (k : Nat) (c : aC) : (r_nx k c).1 = (wa (r_sv k c) c.2.1 c.2.2.1 c.1).1 := rfl
theorem r_nxL (k : Nat) (c : aC) (i : Nat) : (r_nx k c).2.1 i = fx (fun t => ((wa (r_sv k c) c.2.1 c.2.2.1 t).1 : Int)) c.1 ((wa (r_sv k c) c.2.1 c.2.2.1 c.1).2.1 i) := by
  unfold r_nx
  dsimp only
  rw [show ((i : Nat) : Int).toNat = i by omega]
theorem r_nxV (k : Nat) (c : aC) : (r_nx k c).2.2.1 = (wa (r_sv k c) c.2.1 c.2.2.1 c.1).2.2 := rfl
theorem r_nxS (k : Nat) (c : aC) : (r_nx k c).2.2.2 = c.2.2.2 + (bct (r_sp k c) 60 : Nat) := rfl
def ar (k : Nat) : Nat → aC → Nat → Option (Nat × aC)
  | 0, _, _ => none
  | f + 1, c, r => if r_al k c = true then some (r, c) else if r_ok k c = true then ar k f (r_nx k c) (r + 1) else none
def aI (ns : Nat) (Ls : Int → Int → Int) (c : aC) : Prop := c.1 ≤ 48 ∧ (∀ i : Nat, i < c.1 → cinv ns Ls c.2.2.1 c.2.2.2 (c.2.1 i)) ∧ (10 ≤ c.2.2.1 ∧ c.2.2.1 ≤ 60) ∧ 0 ≤ c.2.2.2 ∧ c.2.2.2 + (sc c.2.1 c.1 : Nat) ≤ 10
theorem aI_ok {ns : Nat} {Ls : Int → Int → Int} {c : aC} (h : aI ns Ls c) : ∀ i : Nat, i < c.1 → lv_ok (c.2.1 i) := fun i hi => cinv_ok (h.2.1 i hi) h.2.2.1.2
theorem r_s_p {ns : Nat} {Ls : Int → Int → Int} {c : aC} (h : aI ns Ls c) (k : Nat) : jw (r_s k c) ∧ jl c.2.1 c.1 (r_s k c) ∧ (∀ v, js_gr (r_s k c) v = true → 0 < gr_c c.2.1 c.1 v) ∧ ∀ v, 0 < gr_c c.2.1 c.1 v → 0 ≤ js_ld (r_s k c) v := by
  obtain ⟨a1, a2, a3, a4⟩ := jrun_p (k := (k : Int)) 60 (gs c.2.1 c.1) (gs_w h.1 (aI_ok h)) (gs_l (aI_ok h))
  refine ⟨a1, a2, fun v hv => ?_, fun v hv => a4 v ?_⟩
  · have := a3 v hv
    exact of_decide_eq_true this
  · show 0 ≤ (if 0 < gr_c c.2.1 c.1 v then (v : Int) else -1)
    rw [if_pos hv]; omega
theorem gsp_gr {s : jS} {k : Nat} {m v : Nat} (hm : m ≤ tk_T s) (h : gsp s k m v = true) : js_gr s v = true := by
  obtain ⟨t, h1, h2⟩ := gsp_of m h
  have := (tk_in (s := s) (k := (k : Int)) (i := tk_T s - 1 - t) (by omega)).2
  unfold gv_x at h2
  rw [h2] at this
  exact tk_gr this
theorem bct_lt2 {f : Nat → Bool} {x : Nat} (hx : f x = true) : ∀ k, x < k → bct f x < bct f k
  | k + 1, h => by
    show _ < bct f k + (if f k = true then 1 else 0)
    by_cases e : x = k
    · rw [← e, hx]; simp
    · have := bct_lt2 hx k (by omega)
      split <;> omega
theorem ta_iff {sp : Nat → Bool} {ld : Nat → Int} : ∀ w, ta sp ld w = true ↔ ∀ v, v < w → sp v = true → jt ld v 60 = false
  | 0 => ⟨fun _ v hv => by omega, fun _ => rfl⟩
  | w + 1 => by
    refine ⟨ta_of (w + 1), fun h => ?_⟩
    show (ta sp ld w && !(sp w && jt ld w 60)) = true
    rw [(ta_iff w).mpr (fun v hv => h v (by omega))]
    cases e : sp w
    · rfl
    · rw [h w (by omega) e]; rfl
/-- a value with a slot is in a spilled group -/
theorem svv_ne {ld : Nat → Int} {sp : Nat → Bool} {S : Int} {v : Nat} (h : ¬ svv ld sp S 60 v = -1) : (0 ≤ ld v ∧ ld v < 60) ∧ sp (ld v).toNat = true ∧ svv ld sp S 60 v = S + (bct sp (ld v).toNat : Nat) := by
  unfold svv at *
  by_cases c : 0 ≤ ld v ∧ ld v < ((60 : Nat) : Int) ∧ sp (ld v).toNat = true
  · rw [if_pos c]; exact ⟨⟨c.1, by omega⟩, c.2.2, rfl⟩
  · rw [if_neg c] at h; exact absurd rfl h
theorem r_step {ns : Nat} {Ls : Int → Int → Int} {c : aC} (h : aI ns Ls c) {k : Nat} (hok : r_ok k c = true) (hal : r_al k c = false) : (aI ns Ls (r_nx k c) ∧ c.2.2.2 + 1 ≤ (r_nx k c).2.2.2) ∧ (∀ i : Nat, i < (wa (r_sv k c) c.2.1 c.2.2.1 c.1).1 → rl_ok ((wa (r_sv k c) c.2.1 c.2.2.1 c.1).2.1 i)) ∧ ∀ i : Nat, i < c.1 → c.2.1 i 0 = 9 → r_sv k c (c.2.1 i 1).toNat = -1 := by
  obtain ⟨w1, w2, w3, w4⟩ := r_s_p h k
  obtain ⟨i1, i2, i3, i4, i5⟩ := h
  have hok2 := hok
  unfold r_ok at hok2
  simp only [Bool.and_eq_true, decide_eq_true_eq] at hok2
  obtain ⟨o1, o2, o3⟩ := hok2
  have hta := (ta_iff 60).mp o1
  have spg : ∀ v, r_sp k c v = true → js_gr (r_s k c) v = true := fun v hv => gsp_gr (Nat.le_refl _) hv
  have sp10 : ∀ v, r_sp k c v = true → v < 10 ∧ js_ld (r_s k c) v = (v : Int) := fun v hv => by
    have gv := w1.1 v (spg v hv)
    refine ⟨?_, gv.2⟩
    apply Classical.byContradiction
    intro hn
    have := hta v gv.1 hv
    rw [jt_b (jt_iff 60)] at this
    exact this ⟨v, by omega, gv.1, gv.2⟩
  have svn : ∀ v, ¬ r_sv k c v = -1 → 0 ≤ r_sv k c v ∧ r_sv k c v < c.2.2.2 + (bct (r_sp k c) 60 : Nat) := fun v hv => by
    obtain ⟨a1, a2, a3⟩ := svv_ne hv
    have := bct_lt2 a2 60 (by omega)
    unfold r_sv
    rw [a3]
    omega
  have q := wa_q (ns := ns) (Ls := Ls) (S := c.2.2.2 + (bct (r_sp k c) 60 : Nat)) (sv := r_sv k c) (P := fun v => (∃ i : Nat, i < c.1 ∧ stn (c.2.1 i) v) ∧ r_sv k c v.toNat = -1) (L := c.2.1) (n := c.1) (V := c.2.2.1) (S0 := c.2.2.2) i3.1 (by omega) i2 (fun i hi v hv hn => svn _ hn) (fun i hi v hv hn => ⟨⟨i, hi, hv⟩, hn⟩) c.1 (Nat.le_refl _)
  obtain ⟨n1, n2⟩ := wa_n (r_sv k c) c.2.1 c.2.2.1 c.1
  have b1 : 1 ≤ bct (r_sp k c) 60 := by
    apply Classical.byContradiction
    intro hn
    have z := bct_z 60 (show bct (r_sp k c) 60 = 0 by omega)
    have := (gal_iff (s := r_s k c) (k := k) (tk_T (r_s k c)) (Nat.le_refl _)).mpr z
    unfold r_al at hal
    rw [this] at hal; cases hal
  have e10 : bct (r_sp k c) 60 = bct (r_sp k c) 10 := bct_0 (k := 10) 50 (fun v h1 h2 => by
    cases e : r_sp k c v
    · rfl
    · have := (sp10 v e).1; omega)
  have hsc : sc (r_nx k c).2.1 (r_nx k c).1 + bct (r_sp k c) 10 ≤ sc c.2.1 c.1 := by
    unfold sc
    refine bct_sub 10 (fun v hv hf => ?_) (fun v hv hs => ?_)
    · have hf := of_decide_eq_true hf
      obtain ⟨i, h1, h2⟩ := (gr_c_stn _).mp hf
      rw [r_nxL, fx_stn] at h2
      rw [r_nx1] at h1
      have hq := (q i h1).2 v h2 (by omega)
      refine ⟨decide_eq_true ((gr_c_stn _).mpr hq.1), ?_⟩
      have hsv : r_sv k c v = -1 := by have := hq.2; rw [show ((v : Nat) : Int).toNat = v by omega] at this; exact this
      cases e : r_sp k c v
      · rfl
      · have e2 := (sp10 v e).2
        have : r_sv k c v = c.2.2.2 + (bct (r_sp k c) (js_ld (r_s k c) v).toNat : Nat) := by
          unfold r_sv svv
          rw [if_pos ⟨by omega, by omega, by rw [e2, show ((v : Int)).toNat = v by omega]; exact e⟩]
        omega
    · exact decide_eq_true (w3 v (spg v hs))
  refine ⟨⟨⟨?_, fun i hi => ?_, ?_, ?_, ?_⟩, ?_⟩, fun i hi => ?_, fun i hi h9 => ?_⟩
  · rw [r_nx1]; omega
  · rw [r_nx1] at hi
    rw [r_nxL, r_nxV, r_nxS]
    exact fx_inv (fun t => Int.natCast_nonneg _) (q i hi).1
  · rw [r_nxV]; omega
  · rw [r_nxS]; omega
  · rw [r_nxS]; omega
  · rw [r_nxS]; omega
  · have := (q i hi).1
    exact ⟨this.2.2.1, this.2.2.2.1⟩
  · apply Classical.byContradiction
    intro hn
    obtain ⟨a1, a2, a3⟩ := svv_ne hn
    have l1 := ((i2 i hi).2.2.2.2.1 (by omega)).1
    have hst : stn (c.2.1 i) (c.2.1 i 1) := Or.inl ⟨by rw [h9]; rfl, rfl⟩
    have r1 := (i2 i hi).2.1 _ hst
    have := hta _ (by omega) a2
    rw [jt_b (jt_iff 60)] at this
    exact this ⟨(c.2.1 i 1).toNat, by omega, by omega, by omega⟩
