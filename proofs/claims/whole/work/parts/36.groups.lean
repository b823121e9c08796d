-- groups as they stand between two joins: which are groups, each value's group, neighbours, counts, joins
abbrev jS : Type := (Nat → Bool) × (Nat → Int) × (Nat → Nat → Bool) × (Nat → Int32) × Int32
abbrev js_gr (s : jS) : Nat → Bool := s.1
abbrev js_ld (s : jS) : Nat → Int := s.2.1
abbrev js_nb (s : jS) : Nat → Nat → Bool := s.2.2.1
abbrev js_ct (s : jS) : Nat → Int32 := s.2.2.2.1
abbrev js_j (s : jS) : Int32 := s.2.2.2.2
def jj_n (nb : Nat → Nat → Bool) (a b u v : Nat) : Bool := if u = b ∨ v = b then false else if u = a then nb a v || nb b v else if v = a then nb u a || nb u b else nb u v
def jj_l (ld : Nat → Int) (a b : Nat) (v : Nat) : Int := if ld v = (b : Int) then (a : Int) else ld v
def jj (s : jS) (a b : Nat) : jS := (fun v => js_gr s v && !decide (b = v), jj_l (js_ld s) a b, jj_n (js_nb s) a b, upd (js_ct s) a (js_ct s a + js_ct s b), js_j s + Int32.ofInt 1)
/-- what always holds of them -/
def jw (s : jS) : Prop := (∀ v, js_gr s v = true → v < 60 ∧ js_ld s v = (v : Int)) ∧ (∀ v, v < 60 → js_ld s v = -1 ∨ ∃ w : Nat, js_ld s v = (w : Int) ∧ js_gr s w = true) ∧
  (∀ u v, js_nb s u v = js_nb s v u) ∧ (∀ u, js_nb s u u = false) ∧ ∀ u v, js_nb s u v = true → js_gr s u = true ∧ js_gr s v = true
theorem jw_r {s : jS} (h : jw s) {v : Nat} (hv : v < 60) : -1 ≤ js_ld s v ∧ js_ld s v < 60 := by
  rcases h.2.1 v hv with e | ⟨w, e, hw⟩
  · omega
  · have := (h.1 w hw).1; omega
theorem jw_g {s : jS} (h : jw s) {v : Nat} (hv : v < 60) (h0 : 0 ≤ js_ld s v) : js_gr s (js_ld s v).toNat = true := by
  rcases h.2.1 v hv with e | ⟨w, e, hw⟩
  · omega
  · rw [e]; exact hw
theorem jw_jj {s : jS} (h : jw s) {a b : Nat} (ga : js_gr s a = true) (hab : a ≠ b) (nab : js_nb s a b = false) : jw (jj s a b) := by
  obtain ⟨h1, h2, h3, h4, h5⟩ := h
  have nba : js_nb s b a = false := by rw [h3]; exact nab
  refine ⟨fun v hv => ?_, fun v hv => ?_, fun u v => ?_, fun u => ?_, fun u v huv => ?_⟩
  · simp only [jj, js_gr, Bool.and_eq_true, Bool.not_eq_true', decide_eq_false_iff_not] at hv
    obtain ⟨e1, e2⟩ := h1 v hv.1
    refine ⟨e1, ?_⟩
    show jj_l (js_ld s) a b v = _
    rw [jj_l, if_neg (by omega), e2]
  · show jj_l (js_ld s) a b v = -1 ∨ ∃ w : Nat, jj_l (js_ld s) a b v = (w : Int) ∧ (js_gr s w && !decide (b = w)) = true
    unfold jj_l
    by_cases e : js_ld s v = (b : Int)
    · rw [if_pos e]
      exact Or.inr ⟨a, rfl, by rw [ga, decide_eq_false (by omega)]; rfl⟩
    · rw [if_neg e]
      rcases h2 v hv with e1 | ⟨w, e1, hw⟩
      · exact Or.inl e1
      · exact Or.inr ⟨w, e1, by rw [hw, decide_eq_false (by omega)]; rfl⟩
  · show jj_n (js_nb s) a b u v = jj_n (js_nb s) a b v u
    unfold jj_n
    by_cases e : u = b ∨ v = b
    · rw [if_pos e, if_pos (by omega)]
    · rw [if_neg e, if_neg (show ¬ (v = b ∨ u = b) by omega)]
      by_cases e1 : u = a
      · rw [if_pos e1]
        by_cases e2 : v = a
        · rw [if_pos e2, e1, e2]
        · rw [if_neg e2, if_pos e1, h3 a v, h3 b v]
      · rw [if_neg e1]
        by_cases e2 : v = a
        · rw [if_pos e2, if_pos e2, h3 u a, h3 u b]
        · rw [if_neg e2, if_neg e2, if_neg e1, h3 u v]
  · show jj_n (js_nb s) a b u u = false
    unfold jj_n
    by_cases e : u = b ∨ u = b
    · rw [if_pos e]
    · rw [if_neg e]
      by_cases e1 : u = a
      · rw [if_pos e1, e1, h4 a, nba]; rfl
      · rw [if_neg e1, if_neg e1, h4 u]
  · have huv : jj_n (js_nb s) a b u v = true := huv
    show (js_gr s u && !decide (b = u)) = true ∧ (js_gr s v && !decide (b = v)) = true
    unfold jj_n at huv
    by_cases e : u = b ∨ v = b
    · rw [if_pos e] at huv; cases huv
    · rw [if_neg e] at huv
      rw [decide_eq_false (show ¬ b = u by omega), decide_eq_false (show ¬ b = v by omega), Bool.not_false, Bool.and_true, Bool.and_true]
      by_cases e1 : u = a
      · rw [if_pos e1, Bool.or_eq_true] at huv
        rw [e1]
        rcases huv with q | q
        · exact h5 a v q
        · exact ⟨ga, (h5 b v q).2⟩
      · rw [if_neg e1] at huv
        by_cases e2 : v = a
        · rw [if_pos e2, Bool.or_eq_true] at huv
          rw [e2]
          rcases huv with q | q
          · exact h5 u a q
          · exact ⟨(h5 u b q).1, ga⟩
        · rw [if_neg e2] at huv
          exact h5 u v huv
/-- a group with a temporary value -/
def jt (ld : Nat → Int) (g : Nat) : Nat → Bool
  | 0 => false
  | k + 1 => jt ld g k || (decide (10 ≤ k) && decide (ld k = (g : Int)))
theorem jt_iff {ld : Nat → Int} {g : Nat} : ∀ k, jt ld g k = true ↔ ∃ w, 10 ≤ w ∧ w < k ∧ ld w = (g : Int)
  | 0 => ⟨fun h => (by cases h), fun ⟨w, _, h, _⟩ => absurd h (by omega)⟩
  | k + 1 => by
    show (jt ld g k || (decide (10 ≤ k) && decide (ld k = (g : Int)))) = true ↔ _
    rw [Bool.or_eq_true, Bool.and_eq_true, decide_eq_true_eq, decide_eq_true_eq, jt_iff k]
    constructor
    · rintro (⟨w, h1, h2, h3⟩ | ⟨h1, h2⟩)
      · exact ⟨w, h1, by omega, h3⟩
      · exact ⟨k, h1, by omega, h2⟩
    · rintro ⟨w, h1, h2, h3⟩
      by_cases e : w = k
      · exact Or.inr ⟨by omega, by rw [← e]; exact h3⟩
      · exact Or.inl ⟨w, h1, by omega, h3⟩
theorem jt_b {x : Bool} {P : Prop} (h : x = true ↔ P) : x = false ↔ ¬ P := by rw [← h]; cases x <;> simp
theorem jt_jj {ld : Nat → Int} {a b : Nat} (hab : a ≠ b) (v : Nat) : jt (jj_l ld a b) v 60 = (if jt ld b 60 = true then (jt ld v 60 && !decide (b = v)) || decide (a = v) else jt ld v 60) := by
  rw [Bool.eq_iff_iff, jt_iff]
  by_cases hb : jt ld b 60 = true
  · rw [if_pos hb, Bool.or_eq_true, Bool.and_eq_true, jt_iff, Bool.not_eq_true', decide_eq_false_iff_not, decide_eq_true_eq]
    constructor
    · rintro ⟨w, h1, h2, h3⟩
      unfold jj_l at h3
      by_cases e : ld w = (b : Int)
      · rw [if_pos e] at h3; exact Or.inr (by omega)
      · rw [if_neg e] at h3; exact Or.inl ⟨⟨w, h1, h2, h3⟩, fun z => e (by rw [h3, z])⟩
    · rintro (⟨⟨w, h1, h2, h3⟩, h4⟩ | h)
      · exact ⟨w, h1, h2, by rw [jj_l, if_neg (by omega)]; exact h3⟩
      · obtain ⟨w, h1, h2, h3⟩ := (jt_iff 60).mp hb
        exact ⟨w, h1, h2, by rw [jj_l, if_pos h3, h]⟩
  · rw [if_neg hb, jt_iff]
    have hn : ∀ w, 10 ≤ w → w < 60 → ld w ≠ (b : Int) := fun w h1 h2 h3 => hb ((jt_iff 60).mpr ⟨w, h1, h2, h3⟩)
    constructor
    · rintro ⟨w, h1, h2, h3⟩
      rw [jj_l, if_neg (hn w h1 h2)] at h3
      exact ⟨w, h1, h2, h3⟩
    · rintro ⟨w, h1, h2, h3⟩
      exact ⟨w, h1, h2, by rw [jj_l, if_neg (hn w h1 h2)]; exact h3⟩
-- how the class keeps them
def jc_is (M : sm_M) (s : jS) : Prop := (∀ v, v < 60 → M.1 13 v = Int32.ofInt (js_ld s v)) ∧ jo_nb M (js_nb s) ∧ (∀ v, v < 64 → bs_t (M.2 12 3) v = js_gr s v) ∧ (∀ v, v < 64 → bs_t (M.2 12 4) v = jt (js_ld s) v 60) ∧ (∀ v, v < 60 → M.1 14 v = js_ct s v) ∧ M.1 12 5 = js_j s
def jc_ke (M M' : sm_M) : Prop := (∀ p, p ≠ 12 → p ≠ 13 → p ≠ 14 → M'.1 p = M.1 p) ∧ ∀ p, p ≠ 12 → p ≠ 15 → M'.2 p = M.2 p
theorem jc_kt {M M1 M2 : sm_M} (h : jc_ke M M1) (h' : jc_ke M1 M2) : jc_ke M M2 := ⟨fun p a b c => by rw [h'.1 p a b c, h.1 p a b c], fun p a b => by rw [h'.2 p a b, h.2 p a b]⟩
theorem jc_jj {M M' : sm_M} {s : jS} (hc : jc_is M s) (hw : jw s) {a b : Nat} (ha : a < 60) (hb : b < 60) (ga : js_gr s a = true) (gb : js_gr s b = true) (hab : a ≠ b) (nab : js_nb s a b = false) (hp : cj_post M M' (js_nb s) (js_ld s) a b) : jc_is M' (jj s a b) ∧ jc_ke M M' := by
  obtain ⟨c1, c2, c3, c4, c5, c6⟩ := hc
  obtain ⟨p1, p2, p3, p4, p5, p6, p7, p8⟩ := hp
  obtain ⟨w1, w2, w3, w4, w5⟩ := hw
  have nba : js_nb s b a = false := by rw [w3]; exact nab
  have n60 : ∀ u v, 60 ≤ v → js_nb s u v = false := fun u v hv => by
    cases e : js_nb s u v
    · rfl
    · have := (w1 v (w5 u v e).2).1; omega
  have n61 : ∀ u v, 60 ≤ v → jj_n (js_nb s) a b u v = false := fun u v hv => by
    unfold jj_n
    rw [n60 a v hv, n60 b v hv, n60 u v hv]
    by_cases e : u = b ∨ v = b
    · rw [if_pos e]
    · rw [if_neg e]
      by_cases e1 : u = a
      · rw [if_pos e1]; rfl
      · rw [if_neg e1, if_neg (by omega)]
  refine ⟨⟨fun v hv => ?_, ⟨fun u hu v hv => ?_, n61⟩, fun v hv => ?_, fun v hv => ?_, fun v hv => ?_, ?_⟩, ⟨fun p q1 q2 q3 => p7 p q1 q2 q3, fun p q1 q2 => p8 p q1 q2⟩⟩
  · rw [p2 v hv]
    show _ = Int32.ofInt (jj_l (js_ld s) a b v)
    rw [rj_l, jj_l]
    by_cases e : js_ld s v = (b : Int)
    · rw [if_pos ⟨hv, e⟩, if_pos e]
    · rw [if_neg (fun z => e z.2), if_neg e]
  · rw [p1 u hu v hv]
    show _ = jj_n (js_nb s) a b u v
    unfold cj_n jj_n cj_w
    by_cases e : u = b
    · rw [if_pos e, if_pos (Or.inl e)]
    · rw [if_neg e]
      by_cases e1 : u = a
      · rw [if_pos e1]
        by_cases e2 : v = b
        · rw [if_pos (Or.inr e2), e2, nab, w4 b]; rfl
        · rw [if_neg (by omega), if_pos e1]
      · rw [if_neg e1]
        by_cases e2 : v = b
        · rw [if_pos (Or.inr e2), e2]
          by_cases e3 : u < 60 ∧ js_nb s b u = true
          · rw [if_pos e3, decide_eq_true rfl, decide_eq_false hab]; simp
          · rw [if_neg e3]
            cases e4 : js_nb s u b
            · rfl
            · exact absurd ⟨hu, by rw [w3]; exact e4⟩ e3
        · rw [if_neg (show ¬ (u = b ∨ v = b) by omega), if_neg e1]
          by_cases e5 : v = a
          · rw [if_pos e5, e5, decide_eq_true rfl, w3 u b]
            by_cases e3 : u < 60 ∧ js_nb s b u = true
            · rw [if_pos e3, e3.2]; simp
            · rw [if_neg e3]
              cases e4 : js_nb s b u
              · simp
              · exact absurd ⟨hu, e4⟩ e3
          · rw [if_neg e5, decide_eq_false (show ¬ b = v by omega), decide_eq_false (show ¬ a = v by omega)]
            simp
  · rw [p3 v hv, c3 v hv]; rfl
  · rw [p4 v hv, c4 b (by omega), c4 v hv]
    exact (jt_jj hab v).symm
  · rw [p5]
    show upd (M.1 14) a (M.1 14 a + M.1 14 b) v = upd (js_ct s) a (js_ct s a + js_ct s b) v
    rw [c5 a ha, c5 b hb]
    by_cases e : v = a
    · rw [e, pk_us, pk_us]
    · rw [pk_un e, pk_un e, c5 v hv]
  · rw [p6, pk_us, c6]; rfl
-- how the reference keeps them
def jr_l (s : jS) (v : Nat) : Int := if js_ld s v = -1 then (v : Int) else js_ld s v
def jm_is (M : sm_M) (s : jS) : Prop := ∃ nr, jr_is M (js_gr s) nr ∧ jr_ok (js_gr s) nr (js_nb s) ∧ (∀ v, v < 60 → M.1 45 v = Int32.ofInt (jr_l s v)) ∧ (∀ v, v < 60 → M.1 46 v = js_ct s v) ∧ M.1 35 20 = js_j s
def jm_ke (M M' : sm_M) : Prop := (∀ i, i ≠ 20 → M'.1 35 i = M.1 35 i) ∧ (∀ p, p ≠ 35 → p ≠ 43 → p ≠ 44 → p ≠ 45 → p ≠ 46 → M'.1 p = M.1 p) ∧ M'.2 = M.2
theorem jm_kt {M M1 M2 : sm_M} (h : jm_ke M M1) (h' : jm_ke M1 M2) : jm_ke M M2 := ⟨fun p a => by rw [h'.1 p a, h.1 p a], fun p a b c d e => by rw [h'.2.1 p a b c d e, h.2.1 p a b c d e], by rw [h'.2.2, h.2.2]⟩
theorem jm_jj {M M' : sm_M} {s : jS} {nr : Nat → Nat → Bool} (hi : jr_is M (js_gr s) nr) (hok : jr_ok (js_gr s) nr (js_nb s)) (h5 : ∀ v, v < 60 → M.1 46 v = js_ct s v) (h6 : M.1 35 20 = js_j s) (hw : jw s) {a b : Nat} (ha : a < 60) (hb : b < 60) (ga : js_gr s a = true) (gb : js_gr s b = true) (hab : a ≠ b) (nab : js_nb s a b = false) (hp : rj_post M M' nr (jr_l s) a b) : jm_is M' (jj s a b) ∧ jm_ke M M' := by
  obtain ⟨p1, p2, p3, p4, p5, p6, p7⟩ := hp
  have hw' := jw_jj hw ga hab nab
  obtain ⟨w1, w2, w3, w4, w5⟩ := hw
  refine ⟨⟨rj_n nr a b 60, ⟨fun v hv => ?_, fun u hu v hv => p1 u hu v hv⟩, ⟨fun u v hu hv gu gv => ?_, fun u v hu hv h => hw'.2.2.2.2 u v h, fun u v hu hv => hw'.2.2.1 u v⟩, fun v hv => ?_, fun v hv => ?_, ?_⟩, fun i hi => ?_, p6, p7⟩
  · rw [p3]
    show upd (M.1 44) b 0 v = sm_z (js_gr s v && !decide (b = v))
    by_cases e : v = b
    · rw [e, pk_us, decide_eq_true rfl]; simp [sm_z]
    · rw [pk_un e, hi.1 v hv, decide_eq_false (by omega)]; simp
  · have gu : (js_gr s u && !decide (b = u)) = true := gu
    have gv : (js_gr s v && !decide (b = v)) = true := gv
    simp only [Bool.and_eq_true, Bool.not_eq_true', decide_eq_false_iff_not] at gu gv
    show rj_n nr a b 60 u v = jj_n (js_nb s) a b u v
    unfold rj_n jj_n
    rw [if_neg (show ¬ (u = b ∨ v = b) by omega)]
    by_cases e1 : u = a
    · rw [if_pos ⟨e1, hv⟩, if_pos e1, hok.1 a v ha hv ga gv.1, hok.1 b v hb hv gb gv.1]
    · rw [if_neg (fun z => e1 z.1), if_neg e1]
      by_cases e2 : v = a
      · rw [if_pos ⟨e2, hu⟩, if_pos e2, hok.1 a u ha hu ga gu.1, hok.1 b u hb hu gb gu.1, w3 a u, w3 b u]
      · rw [if_neg (fun z => e2 z.1), if_neg e2, hok.1 u v hu hv gu.1 gv.1]
  · rw [p2 v hv]
    show Int32.ofInt (rj_l (jr_l s) a b 60 v) = Int32.ofInt (if jj_l (js_ld s) a b v = -1 then (v : Int) else jj_l (js_ld s) a b v)
    congr 1
    unfold rj_l jr_l jj_l
    by_cases e1 : js_ld s v = -1
    · rw [if_pos e1, if_neg (show ¬ js_ld s v = (b : Int) by omega), if_pos e1]
      have : v ≠ b := fun z => by have := (w1 b gb).2; rw [z] at e1; omega
      rw [if_neg (by omega)]
    · rw [if_neg e1]
      by_cases e2 : js_ld s v = (b : Int)
      · rw [if_pos ⟨hv, e2⟩, if_pos e2, if_neg (by omega)]
      · rw [if_neg (fun z => e2 z.2), if_neg e2, if_neg e1]
  · rw [p4]
    show upd (M.1 46) a (M.1 46 a + M.1 46 b) v = upd (js_ct s) a (js_ct s a + js_ct s b) v
    rw [h5 a ha, h5 b hb]
    by_cases e : v = a
    · rw [e, pk_us, pk_us]
    · rw [pk_un e, pk_un e, h5 v hv]
  · rw [p5, pk_us, h6]; rfl
  · rw [p5, pk_un hi]
