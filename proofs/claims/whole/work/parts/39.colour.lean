-- taking off and giving, as functions of the groups
def ff (P : Nat → Bool) : Nat → Nat → Option Nat
  | 0, _ => none
  | d + 1, i => if P i = true then some i else ff P d (i + 1)
theorem ff_some {P : Nat → Bool} {v : Nat} : ∀ (d i : Nat), ff P d i = some v → (i ≤ v ∧ v < i + d) ∧ P v = true
  | 0, i, h => by cases h
  | d + 1, i, h => by
    rw [ff] at h
    by_cases e : P i = true
    · rw [if_pos e] at h; cases h; exact ⟨by omega, e⟩
    · rw [if_neg e] at h
      obtain ⟨h1, h2⟩ := ff_some d (i + 1) h
      exact ⟨by omega, h2⟩
theorem ff_none {P : Nat → Bool} : ∀ (d i : Nat), ff P d i = none → ∀ v, i ≤ v → v < i + d → P v = false
  | 0, i, _, v, h1, h2 => by omega
  | d + 1, i, h, v, h1, h2 => by
    rw [ff] at h
    by_cases e : P i = true
    · rw [if_pos e] at h; cases h
    · rw [if_neg e] at h
      by_cases e2 : v = i
      · rw [e2]; exact Bool.not_eq_true _ ▸ e
      · exact ff_none d (i + 1) h v (by omega) (by omega)
theorem ff_c {P P' : Nat → Bool} : ∀ (d i : Nat), (∀ v, i ≤ v → v < i + d → P v = P' v) → ff P d i = ff P' d i
  | 0, _, _ => rfl
  | d + 1, i, h => by rw [ff, ff, h i (by omega) (by omega), ff_c d (i + 1) (fun v h1 h2 => h v (by omega) (by omega))]
def on_i : Option Nat → Int
  | none => -1
  | some v => (v : Int)
theorem on_i0 {o : Option Nat} : on_i o = -1 ↔ o = none := by
  cases o
  · simp [on_i]
  · simp only [on_i, reduceCtorEq]
def cl_u (lt : Nat → Nat → Bool) (w : Nat) : Option Nat → Bool
  | none => true
  | some b => lt w b
def cl_b (P : Nat → Bool) (lt : Nat → Nat → Bool) : Nat → Option Nat
  | 0 => none
  | w + 1 => if (P w && cl_u lt w (cl_b P lt w)) = true then some w else cl_b P lt w
theorem cl_b_some {P : Nat → Bool} {lt : Nat → Nat → Bool} {v : Nat} : ∀ w, cl_b P lt w = some v → v < w ∧ P v = true
  | 0, h => by cases h
  | w + 1, h => by
    rw [cl_b] at h
    by_cases e : (P w && cl_u lt w (cl_b P lt w)) = true
    · rw [if_pos e] at h; cases h
      rw [Bool.and_eq_true] at e
      exact ⟨by omega, e.1⟩
    · rw [if_neg e] at h
      obtain ⟨h1, h2⟩ := cl_b_some w h
      exact ⟨by omega, h2⟩
def dg (nb : Nat → Nat → Bool) (lf : Nat → Bool) (v : Nat) : Nat := bct (fun u => nb v u && lf u) 60
def co_lt (s : jS) (lf : Nat → Bool) (g b : Nat) : Bool := decide (¬ js_ct s b * Int32.ofInt (dg (js_nb s) lf g : Nat) ≤ js_ct s g * Int32.ofInt (dg (js_nb s) lf b : Nat))
def nx_1 (s : jS) (lf : Nat → Bool) (k : Int) : Option Nat := ff (fun v => lf v && decide ((dg (js_nb s) lf v : Int) < k)) 60 0
def nx_2 (s : jS) (lf : Nat → Bool) : Option Nat := cl_b (fun v => lf v && !jt (js_ld s) v 60) (co_lt s lf) 60
def nx (s : jS) (lf : Nat → Bool) (k : Int) : Option Nat := match nx_1 s lf k with
  | some v => some v
  | none => match nx_2 s lf with
    | some v => some v
    | none => ff lf 60 0
theorem nx_some {s : jS} {lf : Nat → Bool} {k : Int} {v : Nat} (h : nx s lf k = some v) : v < 60 ∧ lf v = true := by
  unfold nx at h
  cases e1 : nx_1 s lf k with
  | some w =>
    rw [e1] at h; cases h
    obtain ⟨h1, h2⟩ := ff_some 60 0 e1
    rw [Bool.and_eq_true] at h2
    exact ⟨by omega, h2.1⟩
  | none =>
    rw [e1] at h
    cases e2 : nx_2 s lf with
    | some w =>
      rw [e2] at h; cases h
      obtain ⟨h1, h2⟩ := cl_b_some 60 e2
      rw [Bool.and_eq_true] at h2
      exact ⟨h1, h2.1⟩
    | none =>
      rw [e2] at h
      obtain ⟨h1, h2⟩ := ff_some 60 0 h
      exact ⟨by omega, h2⟩
theorem nx_none {s : jS} {lf : Nat → Bool} {k : Int} (h : nx s lf k = none) : ∀ v, v < 60 → lf v = false := by
  unfold nx at h
  cases e1 : nx_1 s lf k with
  | some w => rw [e1] at h; cases h
  | none =>
    rw [e1] at h
    cases e2 : nx_2 s lf with
    | some w => rw [e2] at h; cases h
    | none =>
      rw [e2] at h
      exact fun v hv => ff_none 60 0 h v (by omega) (by omega)
theorem bct_lt {f : Nat → Bool} {v : Nat} (hf : f v = false) : ∀ k, v < k → bct f k < k
  | k + 1, h => by
    show bct f k + (if f k = true then 1 else 0) < k + 1
    by_cases e : v = k
    · rw [← e, hf]
      have := bct_le f v
      simp; omega
    · have := bct_lt hf k (by omega)
      split <;> omega
theorem dg_lt {s : jS} (hw : jw s) {lf : Nat → Bool} {v : Nat} (hv : v < 60) : dg (js_nb s) lf v < 60 := bct_lt (v := v) (by rw [hw.2.2.2.1 v]; rfl) 60 hv
theorem bct_out {f : Nat → Bool} {x : Nat} (hx : f x = true) : ∀ k, x < k → bct (fun v => f v && !decide (x = v)) k + 1 = bct f k
  | k + 1, h => by
    show bct (fun v => f v && !decide (x = v)) k + (if (f k && !decide (x = k)) = true then 1 else 0) + 1 = bct f k + (if f k = true then 1 else 0)
    by_cases e : x = k
    · subst e
      rw [decide_eq_true rfl, hx]
      have : ∀ j, j ≤ x → bct (fun v => f v && !decide (x = v)) j = bct f j := by
        intro j
        induction j with
        | zero => intro _; rfl
        | succ j ih =>
          intro hj
          show bct (fun v => f v && !decide (x = v)) j + (if (f j && !decide (x = j)) = true then 1 else 0) = bct f j + (if f j = true then 1 else 0)
          rw [ih (by omega), decide_eq_false (show ¬ x = j by omega)]
          simp
      rw [this x (Nat.le_refl _)]
      simp
    · have := bct_out hx k (by omega)
      rw [decide_eq_false e]
      simp only [Bool.not_false, Bool.and_true]
      omega
theorem bct_z {f : Nat → Bool} : ∀ k, bct f k = 0 → ∀ v, v < k → f v = false
  | k + 1, h, v, hv => by
    have h : bct f k + (if f k = true then 1 else 0) = 0 := h
    by_cases e : v = k
    · rw [e]
      cases e2 : f k
      · rfl
      · rw [e2] at h; simp at h
    · exact bct_z k (by omega) v (by omega)
theorem bct_z2 {f : Nat → Bool} : ∀ k, (∀ v, v < k → f v = false) → bct f k = 0
  | 0, _ => rfl
  | k + 1, h => by
    show bct f k + (if f k = true then 1 else 0) = 0
    rw [h k (by omega), bct_z2 k (fun v hv => h v (by omega))]
    rfl
-- the order
def tk_l (s : jS) (k : Int) : Nat → Nat → Bool
  | 0 => js_gr s
  | i + 1 => fun v => tk_l s k i v && !decide ((nx s (tk_l s k i) k).getD 0 = v)
def tk_v (s : jS) (k : Int) (i : Nat) : Nat := (nx s (tk_l s k i) k).getD 0
def tk_T (s : jS) : Nat := bct (js_gr s) 60
theorem tk_ct {s : jS} {k : Int} : ∀ i, i ≤ tk_T s → bct (tk_l s k i) 60 = tk_T s - i
  | 0, _ => rfl
  | i + 1, h => by
    have ih := tk_ct (s := s) (k := k) i (by omega)
    cases e : nx s (tk_l s k i) k with
    | none =>
      have := bct_z2 60 (nx_none e)
      omega
    | some v =>
      obtain ⟨h1, h2⟩ := nx_some e
      have := bct_out h2 60 h1
      show bct (fun v => tk_l s k i v && !decide ((nx s (tk_l s k i) k).getD 0 = v)) 60 = _
      rw [e]
      show bct (fun w => tk_l s k i w && !decide (v = w)) 60 = _
      omega
theorem tk_nx {s : jS} {k : Int} {i : Nat} (h : i < tk_T s) : nx s (tk_l s k i) k = some (tk_v s k i) := by
  cases e : nx s (tk_l s k i) k with
  | none =>
    have := bct_z2 60 (nx_none e)
    have := tk_ct (s := s) (k := k) i (by omega)
    omega
  | some v => unfold tk_v; rw [e]; rfl
theorem tk_in {s : jS} {k : Int} {i : Nat} (h : i < tk_T s) : tk_v s k i < 60 ∧ tk_l s k i (tk_v s k i) = true := nx_some (tk_nx h)
theorem tk_sub {s : jS} {k : Int} {v : Nat} : ∀ (d i : Nat), tk_l s k (i + d) v = true → tk_l s k i v = true
  | 0, i, h => h
  | d + 1, i, h => by
    have h : (tk_l s k (i + d) v && !decide ((nx s (tk_l s k (i + d)) k).getD 0 = v)) = true := h
    rw [Bool.and_eq_true] at h
    exact tk_sub d i h.1
theorem tk_gr {s : jS} {k : Int} {v i : Nat} (h : tk_l s k i v = true) : js_gr s v = true := tk_sub (s := s) (k := k) i 0 (by rw [Nat.zero_add]; exact h)
theorem tk_ne {s : jS} {k : Int} {i j : Nat} (hij : i < j) (hj : j < tk_T s) : tk_v s k j ≠ tk_v s k i := by
  intro e
  have h1 := (tk_in (s := s) (k := k) hj).2
  have h2 : tk_l s k (i + 1) (tk_v s k j) = true := tk_sub (j - (i + 1)) (i + 1) (by rw [show i + 1 + (j - (i + 1)) = j by omega]; exact h1)
  have h3 : (tk_l s k i (tk_v s k j) && !decide (tk_v s k i = tk_v s k j)) = true := h2
  rw [e, decide_eq_true rfl] at h3
  simp at h3
theorem tk_T60 (s : jS) : tk_T s ≤ 60 := bct_le _ _
-- the registers
def tn (nb : Nat → Nat → Bool) (rg : Nat → Int) (v : Nat) (r : Int) : Nat → Bool
  | 0 => false
  | w + 1 => tn nb rg v r w || (nb v w && decide (rg w = r))
def fr (s : jS) (k : Nat) (rg : Nat → Int) (v : Nat) : Option Nat := ff (fun r => !tn (js_nb s) rg v r 60) k 0
def gv_x (s : jS) (k : Nat) (m : Nat) : Nat := tk_v s k (tk_T s - 1 - m)
def gv (s : jS) (k : Nat) : Nat → Nat → Int
  | 0 => fun _ => -1
  | m + 1 => fun v => if v = gv_x s k m then on_i (fr s k (gv s k m) (gv_x s k m)) else gv s k m v
def gsp (s : jS) (k : Nat) : Nat → Nat → Bool
  | 0 => fun _ => false
  | m + 1 => fun v => gsp s k m v || (decide (gv_x s k m = v) && decide (fr s k (gv s k m) (gv_x s k m) = none))
theorem fr_lt {s : jS} {k : Nat} {rg : Nat → Int} {v r : Nat} (h : fr s k rg v = some r) : r < k := by have := (ff_some k 0 h).1; omega
theorem gv_r {s : jS} {k : Nat} : ∀ (m v : Nat), -1 ≤ gv s k m v ∧ gv s k m v < (k : Int)
  | 0, v => by show -1 ≤ (-1 : Int) ∧ (-1 : Int) < k; omega
  | m + 1, v => by
    show -1 ≤ (if v = gv_x s k m then on_i (fr s k (gv s k m) (gv_x s k m)) else gv s k m v) ∧ (if v = gv_x s k m then on_i (fr s k (gv s k m) (gv_x s k m)) else gv s k m v) < _
    by_cases e : v = gv_x s k m
    · rw [if_pos e]
      cases e2 : fr s k (gv s k m) (gv_x s k m) with
      | none => show -1 ≤ (-1 : Int) ∧ (-1 : Int) < k; omega
      | some r => have := fr_lt e2; show -1 ≤ (r : Int) ∧ (r : Int) < k; omega
    · rw [if_neg e]; exact gv_r m v
theorem gsp_of {s : jS} {k : Nat} {v : Nat} : ∀ m, gsp s k m v = true → ∃ t, t < m ∧ gv_x s k t = v
  | 0, h => by cases h
  | m + 1, h => by
    have h : (gsp s k m v || (decide (gv_x s k m = v) && decide (fr s k (gv s k m) (gv_x s k m) = none))) = true := h
    rw [Bool.or_eq_true, Bool.and_eq_true, decide_eq_true_eq] at h
    rcases h with h | h
    · obtain ⟨t, h1, h2⟩ := gsp_of m h
      exact ⟨t, by omega, h2⟩
    · exact ⟨m, by omega, h.1⟩
theorem gsp_x {s : jS} {k : Nat} {m : Nat} (hm : m < tk_T s) : gsp s k m (gv_x s k m) = false := by
  cases e : gsp s k m (gv_x s k m)
  · rfl
  · obtain ⟨t, h1, h2⟩ := gsp_of m e
    exact absurd h2 (tk_ne (by omega) (by omega))
