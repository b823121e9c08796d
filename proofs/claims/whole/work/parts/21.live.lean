-- which values are live: a column (one value v) of lines
def lv_us (l : Int → Int) (v : Int) : Bool := (pf_rA (l 0) && decide (l 2 = v)) || ((pf_rB (l 0) && decide (l 3 = v)) || (decide (l 0 = 9) && decide (l 1 = v)))
def lv_df (l : Int → Int) (v : Int) : Bool := pf_dv (l 0) && decide (l 1 = v)
def lv_on (l : Int → Int) (n i : Int) : Int := if l 0 = 5 then n else i + 1
def lv_as (l : Int → Int) (n : Int) : Int := if l 0 = 5 then mw_cl n (l 2) else if l 0 = 6 then mw_cl n (l 3) else n
-- a column as a function of the line; beyond the end it is false
def lv_f (L : Int → Int → Int) (n v : Int) (i : Int) (col : Int → Bool) : Bool := lv_us (L i) v || (!lv_df (L i) v && (col (lv_on (L i) n i) || col (lv_as (L i) n)))
def lv_st (L : Int → Int → Int) (n v : Int) (i : Int) (col : Int → Bool) : Int → Bool := fun j => if j = i then lv_f L n v i col else col j
def lv_pC (L : Int → Int → Int) (n v : Int) : Nat → (Int → Bool) → (Int → Bool)
  | 0, col => col
  | k + 1, col => lv_pC L n v k (lv_st L n v k col)
def lv_le (a b : Int → Bool) : Prop := ∀ i, a i = true → b i = true
theorem lv_f_mono {L : Int → Int → Int} {n v i : Int} {a b : Int → Bool} (h : lv_le a b) (ha : lv_f L n v i a = true) : lv_f L n v i b = true := by
  unfold lv_f at *
  simp only [Bool.or_eq_true, Bool.and_eq_true] at *
  rcases ha with ha | ⟨h1, h2 | h2⟩
  · exact Or.inl ha
  · exact Or.inr ⟨h1, Or.inl (h _ h2)⟩
  · exact Or.inr ⟨h1, Or.inr (h _ h2)⟩
-- a column that each line's own reason bears out
def lv_in (L : Int → Int → Int) (n v : Int) (col : Int → Bool) : Prop := ∀ i, col i = true → 0 ≤ i ∧ i < n ∧ lv_f L n v i col = true
theorem lv_st_le {L : Int → Int → Int} {n v i : Int} {col : Int → Bool} (h : lv_in L n v col) : lv_le col (lv_st L n v i col) := by
  intro j hj
  unfold lv_st
  split
  · rename_i e
    rw [← e]
    exact (h j hj).2.2
  · exact hj
theorem lv_st_in {L : Int → Int → Int} {n v i : Int} {col : Int → Bool} (h : lv_in L n v col) (hi : 0 ≤ i ∧ i < n) : lv_in L n v (lv_st L n v i col) := by
  intro j hj
  have hle := lv_st_le (i := i) h
  by_cases e : j = i
  · subst e
    have h1 : lv_f L n v j col = true := by unfold lv_st at hj; rwa [if_pos rfl] at hj
    exact ⟨hi.1, hi.2, lv_f_mono hle h1⟩
  · have h1 : col j = true := by unfold lv_st at hj; rwa [if_neg e] at hj
    obtain ⟨a, b, c⟩ := h j h1
    exact ⟨a, b, lv_f_mono hle c⟩
theorem lv_pC_in {L : Int → Int → Int} {n v : Int} : ∀ (k : Nat) {col : Int → Bool}, (k : Int) ≤ n → lv_in L n v col → lv_in L n v (lv_pC L n v k col) ∧ lv_le col (lv_pC L n v k col)
  | 0, col, _, h => ⟨h, fun _ h => h⟩
  | k + 1, col, hk, h => by
    have h1 := lv_st_in (i := k) h (by omega)
    obtain ⟨a, b⟩ := lv_pC_in k (by omega) h1
    exact ⟨a, fun j hj => b j (lv_st_le h j hj)⟩
/-- a pass that changes nothing: each line's reason is the line -/
theorem lv_pC_fix {L : Int → Int → Int} {n v : Int} : ∀ (k : Nat) {col : Int → Bool}, (k : Int) ≤ n → lv_in L n v col → lv_le (lv_pC L n v k col) col → ∀ i : Int, 0 ≤ i → i < k → lv_f L n v i col = true → col i = true
  | 0, col, _, _, _, i, h0, h1, _ => by omega
  | k + 1, col, hk, h, hp, i, h0, h1, hf => by
    have h2 := lv_st_in (i := k) h (by omega)
    obtain ⟨-, b⟩ := lv_pC_in k (by omega) h2
    have e : lv_le (lv_st L n v k col) col := fun j hj => hp j (b j hj)
    by_cases ei : i = k
    · subst ei
      refine e k ?_
      unfold lv_st
      rw [if_pos rfl]
      exact hf
    · have e2 : lv_st L n v k col = col := by
        funext j
        have := lv_st_le (i := k) h j
        have := e j
        cases hc : col j <;> cases hs : lv_st L n v k col j <;> simp_all
      refine lv_pC_fix k (by omega) h ?_ i h0 (by omega) hf
      intro j hj
      refine hp j ?_
      show lv_pC L n v k (lv_st L n v k col) j = true
      rw [e2]
      exact hj
-- how many lines of a column are true
def lv_ct (col : Int → Bool) : Nat → Nat
  | 0 => 0
  | k + 1 => lv_ct col k + (if col k = true then 1 else 0)
theorem lv_ct_le (col : Int → Bool) : ∀ k, lv_ct col k ≤ k
  | 0 => Nat.le_refl _
  | k + 1 => by
    have := lv_ct_le col k
    unfold lv_ct
    split <;> omega
theorem lv_ct_mono {a b : Int → Bool} (h : lv_le a b) : ∀ k, lv_ct a k ≤ lv_ct b k
  | 0 => Nat.le_refl _
  | k + 1 => by
    have := lv_ct_mono h k
    unfold lv_ct
    by_cases q : a k = true
    · rw [if_pos q, if_pos (h k q)]; omega
    · rw [if_neg q]; omega
theorem lv_ct_lt {a b : Int → Bool} (h : lv_le a b) {i : Nat} (ha : a i = false) (hb : b i = true) : ∀ k, i < k → lv_ct a k + 1 ≤ lv_ct b k
  | 0, hi => by omega
  | k + 1, hi => by
    unfold lv_ct
    by_cases e : i = k
    · subst e
      have := lv_ct_mono h i
      rw [if_neg (by simp [ha]), if_pos hb]
      omega
    · have := lv_ct_lt h ha hb k (by omega)
      by_cases q : a k = true
      · rw [if_pos q, if_pos (h k q)]; omega
      · rw [if_neg q]; omega
-- passes one behind another
def lv_it (L : Int → Int → Int) (n v : Int) : Nat → (Int → Bool)
  | 0 => fun _ => false
  | p + 1 => lv_pC L n v n.toNat (lv_it L n v p)
theorem lv_it_in {L : Int → Int → Int} {n v : Int} (hn : 0 ≤ n) : ∀ p, lv_in L n v (lv_it L n v p)
  | 0 => fun i h => by cases h
  | p + 1 => (lv_pC_in n.toNat (by omega) (lv_it_in hn p)).1
theorem lv_it_le {L : Int → Int → Int} {n v : Int} (hn : 0 ≤ n) (p : Nat) : lv_le (lv_it L n v p) (lv_it L n v (p + 1)) := (lv_pC_in n.toNat (by omega) (lv_it_in hn p)).2
theorem lv_it_eq {L : Int → Int → Int} {n v : Int} {p : Nat} (h : lv_it L n v (p + 1) = lv_it L n v p) : ∀ q, p ≤ q → lv_it L n v (q + 1) = lv_it L n v q := by
  intro q hq
  induction q with
  | zero => rw [show p = 0 by omega] at h; exact h
  | succ q ih =>
    by_cases e : p = q + 1
    · subst e; exact h
    · have := ih (by omega)
      show lv_pC L n v n.toNat (lv_it L n v (q + 1)) = lv_pC L n v n.toNat (lv_it L n v q)
      rw [this]
theorem lv_it_ct {L : Int → Int → Int} {n v : Int} (hn : 0 ≤ n) (p : Nat) (h : lv_it L n v (p + 1) ≠ lv_it L n v p) : p + 1 ≤ lv_ct (lv_it L n v (p + 1)) n.toNat := by
  have step : ∀ q, lv_it L n v (q + 1) ≠ lv_it L n v q → lv_ct (lv_it L n v q) n.toNat + 1 ≤ lv_ct (lv_it L n v (q + 1)) n.toNat := by
    intro q hq
    have : ∃ i, lv_it L n v (q + 1) i ≠ lv_it L n v q i := by
      false_or_by_contra
      rename_i hc
      exact hq (funext fun i => by
        false_or_by_contra
        rename_i hi
        exact hc ⟨i, hi⟩)
    obtain ⟨i, hi⟩ := this
    have hle := lv_it_le (L := L) (v := v) hn q i
    have hb : lv_it L n v (q + 1) i = true := by
      cases hx : lv_it L n v (q + 1) i <;> cases hy : lv_it L n v q i <;> simp_all
    have ha : lv_it L n v q i = false := by
      cases hy : lv_it L n v q i <;> simp_all
    obtain ⟨i0, i1, -⟩ := lv_it_in hn (q + 1) i hb
    have e : (i.toNat : Int) = i := by omega
    exact lv_ct_lt (lv_it_le hn q) (i := i.toNat) (by rw [e]; exact ha) (by rw [e]; exact hb) n.toNat (by omega)
  have all : ∀ q, q ≤ p → lv_it L n v (q + 1) ≠ lv_it L n v q := by
    intro q hq he
    exact h (lv_it_eq he p hq)
  have cnt : ∀ q, q ≤ p → q + 1 ≤ lv_ct (lv_it L n v (q + 1)) n.toNat := by
    intro q
    induction q with
    | zero => intro hq; have := step 0 (all 0 hq); omega
    | succ q ih => intro hq; have := step (q + 1) (all (q + 1) hq); have := ih (by omega); omega
  exact cnt p (Nat.le_refl _)
/-- after 48 passes nothing changes any more -/
theorem lv_it_48 {L : Int → Int → Int} {n v : Int} (hn : 0 ≤ n ∧ n ≤ 48) : lv_it L n v 49 = lv_it L n v 48 := by
  false_or_by_contra
  rename_i h
  have h1 := lv_it_ct hn.1 48 h
  have h2 := lv_ct_le (lv_it L n v (48 + 1)) n.toNat
  omega
-- the least column
def lv_cl (L : Int → Int → Int) (n v : Int) (S : Int → Bool) : Prop := (∀ i, S i = true → 0 ≤ i ∧ i < n) ∧ ∀ i, 0 ≤ i → i < n → lv_f L n v i S = true → S i = true
def lv_Is (L : Int → Int → Int) (n v : Int) (col : Int → Bool) : Prop := lv_cl L n v col ∧ ∀ S, lv_cl L n v S → lv_le col S
theorem lv_Is_eq {L : Int → Int → Int} {n v : Int} {a b : Int → Bool} (ha : lv_Is L n v a) (hb : lv_Is L n v b) : a = b := by
  funext i
  have h1 := ha.2 b hb.1 i
  have h2 := hb.2 a ha.1 i
  cases hx : a i <;> cases hy : b i <;> simp_all
theorem lv_pC_lo {L : Int → Int → Int} {n v : Int} {S : Int → Bool} (hS : lv_cl L n v S) : ∀ (k : Nat) {col : Int → Bool}, (k : Int) ≤ n → lv_le col S → lv_le (lv_pC L n v k col) S
  | 0, col, _, h => h
  | k + 1, col, hk, h => lv_pC_lo hS k (by omega) (fun j hj => by
      unfold lv_st at hj
      split at hj
      · rename_i e
        rw [e]
        exact hS.2 k (by omega) (by omega) (lv_f_mono h hj)
      · exact h j hj)
theorem lv_it_lo {L : Int → Int → Int} {n v : Int} (hn : 0 ≤ n) {S : Int → Bool} (hS : lv_cl L n v S) : ∀ p, lv_le (lv_it L n v p) S
  | 0 => fun i h => by cases h
  | p + 1 => lv_pC_lo hS n.toNat (by omega) (lv_it_lo hn hS p)
theorem lv_it_Is {L : Int → Int → Int} {n v : Int} (hn : 0 ≤ n) {p : Nat} (h : lv_it L n v (p + 1) = lv_it L n v p) : lv_Is L n v (lv_it L n v p) := by
  refine ⟨⟨fun i hi => ⟨(lv_it_in hn p i hi).1, (lv_it_in hn p i hi).2.1⟩, fun i h0 h1 hf => ?_⟩, fun S hS => lv_it_lo hn hS p⟩
  refine lv_pC_fix n.toNat (by omega) (lv_it_in hn p) ?_ i h0 (by omega) hf
  intro j hj
  rw [← h]
  exact hj
