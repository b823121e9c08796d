-- rewriting, as a function of the lines and of the slots of values
abbrev wT : Type := Nat × (Nat → Int → Int) × Int
def mkl (a b c d e : Int) : Int → Int := fun j => if j = 0 then a else if j = 1 then b else if j = 2 then c else if j = 3 then d else e
def w_ap (t : wT) (l : Int → Int) : wT := (t.1 + 1, fun i => if i = t.1 then l else t.2.1 i, t.2.2)
def w_nv (t : wT) : wT := (t.1, t.2.1, t.2.2 + 1)
def sl_at (sv : Nat → Int) (l : Int → Int) (j : Int) : Int := if pf_hv (l 0) j = true then sv (l j).toNat else -1
def w_ld (sv : Nat → Int) (l : Int → Int) (j : Int) (t : wT) : wT := if sl_at sv l j = -1 then t else w_ap (w_nv t) (mkl 8 t.2.2 (sl_at sv l j) 0 (-1))
def w_lv (sv : Nat → Int) (l : Int → Int) (j : Int) (t : wT) : Int := if sl_at sv l j = -1 then l j else t.2.2
def sl_tw (sv : Nat → Int) (l : Int → Int) : Bool := decide (¬ sl_at sv l 2 = -1) && (decide (¬ sl_at sv l 3 = -1) && decide (l 2 = l 3))
def w_tb (sv : Nat → Int) (l : Int → Int) (t : wT) : wT := if sl_tw sv l = true then w_ld sv l 2 t else w_ld sv l 3 (w_ld sv l 2 t)
def w_b (sv : Nat → Int) (l : Int → Int) (t : wT) : Int := if sl_tw sv l = true then w_lv sv l 2 t else w_lv sv l 3 (w_ld sv l 2 t)
def w_td (sv : Nat → Int) (l : Int → Int) (t : wT) : wT := if sl_at sv l 1 = -1 then w_tb sv l t else w_nv (w_tb sv l t)
def w_d (sv : Nat → Int) (l : Int → Int) (t : wT) : Int := if sl_at sv l 1 = -1 then l 1 else (w_tb sv l t).2.2
def w_tl (sv : Nat → Int) (l : Int → Int) (t : wT) : wT := w_ap (w_td sv l t) (mkl (l 0) (w_d sv l t) (w_lv sv l 2 t) (w_b sv l t) (l 4))
def w_line (sv : Nat → Int) (l : Int → Int) (t : wT) : wT := if sl_at sv l 1 = -1 then w_tl sv l t else w_ap (w_tl sv l t) (mkl 9 (w_d sv l t) (sl_at sv l 1) 0 (-1))
def gl_j (sv : Nat → Int) (l : Int → Int) (j : Int) : Nat := if sl_at sv l j = -1 then 0 else 1
def gl (sv : Nat → Int) (l : Int → Int) : Nat := gl_j sv l 1 + gl_j sv l 2 + gl_j sv l 3 - (if sl_tw sv l = true then 1 else 0)
theorem gl_j1 (sv : Nat → Int) (l : Int → Int) (j : Int) : gl_j sv l j ≤ 1 := by unfold gl_j; split <;> omega
theorem w_ld_n (sv : Nat → Int) (l : Int → Int) (j : Int) (t : wT) : (w_ld sv l j t).1 = t.1 + gl_j sv l j ∧ (w_ld sv l j t).2.2 = t.2.2 + gl_j sv l j := by
  unfold w_ld gl_j
  split
  · exact ⟨rfl, by omega⟩
  · exact ⟨rfl, rfl⟩
theorem gl_eq (sv : Nat → Int) (l : Int → Int) : gl sv l = gl_j sv l 2 + (if sl_tw sv l = true then 0 else gl_j sv l 3) + gl_j sv l 1 := by
  unfold gl
  by_cases e : sl_tw sv l = true
  · have e2 := e
    unfold sl_tw at e2
    simp only [Bool.and_eq_true, decide_eq_true_eq] at e2
    rw [if_pos e, if_pos e, show gl_j sv l 3 = 1 by unfold gl_j; rw [if_neg e2.2.1]]
    omega
  · rw [if_neg e, if_neg e]; omega
theorem w_tb_n (sv : Nat → Int) (l : Int → Int) (t : wT) : (w_tb sv l t).1 + gl_j sv l 1 = t.1 + gl sv l ∧ (w_tb sv l t).2.2 + gl_j sv l 1 = t.2.2 + gl sv l := by
  rw [gl_eq]
  unfold w_tb
  have h2 := w_ld_n sv l 2 t
  by_cases e : sl_tw sv l = true
  · rw [if_pos e, if_pos e]; omega
  · rw [if_neg e, if_neg e]
    have h3 := w_ld_n sv l 3 (w_ld sv l 2 t)
    omega
theorem w_line_n (sv : Nat → Int) (l : Int → Int) (t : wT) : (w_line sv l t).1 = t.1 + 1 + gl sv l ∧ (w_line sv l t).2.2 = t.2.2 + gl sv l := by
  obtain ⟨h1, h2⟩ := w_tb_n sv l t
  unfold w_line
  by_cases e : sl_at sv l 1 = -1
  · rw [if_pos e]
    have g1 : gl_j sv l 1 = 0 := by unfold gl_j; rw [if_pos e]
    show (w_td sv l t).1 + 1 = _ ∧ (w_td sv l t).2.2 = _
    unfold w_td
    rw [if_pos e]; omega
  · rw [if_neg e]
    have g1 : gl_j sv l 1 = 1 := by unfold gl_j; rw [if_neg e]
    show (w_td sv l t).1 + 1 + 1 = _ ∧ (w_td sv l t).2.2 = _
    unfold w_td
    rw [if_neg e]
    show (w_tb sv l t).1 + 1 + 1 = _ ∧ (w_tb sv l t).2.2 + 1 = _
    omega
def wa (sv : Nat → Int) (L : Int → Int → Int) (V : Int) : Nat → wT
  | 0 => (0, fun _ _ => 0, V)
  | i + 1 => w_line sv (L i) (wa sv L V i)
def wg (sv : Nat → Int) (L : Int → Int → Int) : Nat → Nat
  | 0 => 0
  | i + 1 => wg sv L i + gl sv (L i)
theorem wa_n (sv : Nat → Int) (L : Int → Int → Int) (V : Int) : ∀ i, (wa sv L V i).1 = i + wg sv L i ∧ (wa sv L V i).2.2 = V + wg sv L i
  | 0 => ⟨rfl, by show V = V + ((0 : Nat) : Int); omega⟩
  | i + 1 => by
    obtain ⟨h1, h2⟩ := wa_n sv L V i
    obtain ⟨g1, g2⟩ := w_line_n sv (L i) (wa sv L V i)
    show (w_line sv (L i) (wa sv L V i)).1 = i + 1 + (wg sv L i + gl sv (L i)) ∧ (w_line sv (L i) (wa sv L V i)).2.2 = V + ((wg sv L i + gl sv (L i) : Nat) : Int)
    omega
theorem wg_mono (sv : Nat → Int) (L : Int → Int → Int) : ∀ (d i : Nat), wg sv L i ≤ wg sv L (i + d)
  | 0, i => Nat.le_refl _
  | d + 1, i => by
    have := wg_mono sv L d i
    show _ ≤ wg sv L (i + d) + gl sv (L ((i + d : Nat) : Int))
    omega
theorem wg_le (sv : Nat → Int) (L : Int → Int → Int) : ∀ i, wg sv L i ≤ 3 * i
  | 0 => Nat.le_refl _
  | i + 1 => by
    have := wg_le sv L i
    have h1 := gl_j1 sv (L i) 1
    have h2 := gl_j1 sv (L i) 2
    have h3 := gl_j1 sv (L i) 3
    show wg sv L i + gl sv (L i) ≤ _
    unfold gl
    omega
/-- jumps lead to where their lines now begin -/
def fx (St : Nat → Int) (n : Int) (l : Int → Int) (j : Int) : Int := if j = pf_tc (l 0) then St (if n < l j then n else l j).toNat else l j
