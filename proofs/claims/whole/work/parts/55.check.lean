-- the checker, as a function of the lines
abbrev kX : Type := (Nat → Bool) × (Nat → Nat → Nat → Bool)
def ck_tr (k : Nat) (l : Int → Int) (v : Nat) (nw : Nat → Nat → Bool) (p u : Nat) : Bool :=
  if l 0 = 8 then (if (p : Int) = l 1 then nw (k + (l 2).toNat) u else nw p u)
  else if l 0 = 9 then (if p = k + (l 2).toNat then nw (l 1).toNat u else nw p u)
  else if l 0 ≤ 4 then (if (p : Int) = l 1 then decide (u = v) || (decide (l 0 = 1) && (nw (l 2).toNat u && !decide (u = v))) else nw p u && !decide (u = v))
  else nw p u
def ck_me (n : Nat) (t : Int) (nw : Nat → Nat → Bool) (X : kX) : kX := if t < n then (fun i => X.1 i || decide ((i : Int) = t), fun i p u => X.2 i p u && (!decide ((i : Int) = t) || nw p u)) else X
def ck_st (n k : Nat) (L Ls : Int → Int → Int) (i : Nat) (X : kX) : kX := if X.1 i = true then ck_me n (lv_as (L i) n) (ck_tr k (L i) (Ls (L i 4) 1).toNat (X.2 i)) (ck_me n (lv_on (L i) n i) (ck_tr k (L i) (Ls (L i 4) 1).toNat (X.2 i)) X) else X
def ck_F (n k : Nat) (L Ls : Int → Int → Int) : Nat → kX → kX
  | 0, X => X
  | i + 1, X => ck_st n k L Ls i (ck_F n k L Ls i X)
def ck_it (n k : Nat) (L Ls : Int → Int → Int) : Nat → kX → kX
  | 0, X => X
  | m + 1, X => ck_F n k L Ls n (ck_it n k L Ls m X)
theorem ck_fix {n k : Nat} {L Ls : Int → Int → Int} {X : kX} {m : Nat} (h : ck_F n k L Ls n (ck_it n k L Ls m X) = ck_it n k L Ls m X) : ∀ d, ck_it n k L Ls (m + d) X = ck_it n k L Ls m X
  | 0 => rfl
  | d + 1 => by
    show ck_F n k L Ls n (ck_it n k L Ls (m + d) X) = _
    rw [ck_fix h d, h]
theorem ck_un {n k : Nat} {L Ls : Int → Int → Int} {X : kX} {a b : Nat} (ha : ck_F n k L Ls n (ck_it n k L Ls a X) = ck_it n k L Ls a X) (hb : ck_F n k L Ls n (ck_it n k L Ls b X) = ck_it n k L Ls b X) : ck_it n k L Ls a X = ck_it n k L Ls b X := by
  by_cases c : a ≤ b
  · have := ck_fix ha (b - a)
    rw [show a + (b - a) = b by omega] at this
    exact this.symm
  · have := ck_fix hb (a - b)
    rw [show b + (a - b) = a by omega] at this
    exact this
def ck_X0 (n k : Nat) : kX := (fun i => decide (i < n) && decide (i = 0), fun i p u => decide (i < n ∧ p < k + 10 ∧ u < 10))
def ck_g (L Ls : Int → Int → Int) (X : kX) (i : Nat) : Bool := !X.1 i || (decide (L i 4 < 0) || ((!pf_hv (L i 0) 2 || X.2 i (L i 2).toNat (Ls (L i 4) 2).toNat) && (!pf_hv (L i 0) 3 || X.2 i (L i 3).toNat (Ls (L i 4) 3).toNat)))
def ck_a (L Ls : Int → Int → Int) (X : kX) : Nat → Bool
  | 0 => true
  | i + 1 => ck_a L Ls X i && ck_g L Ls X i
theorem ck_a_le {L Ls : Int → Int → Int} {X : kX} : ∀ (d i : Nat), ck_a L Ls X (i + d) = true → ck_a L Ls X i = true
  | 0, _, h => h
  | d + 1, i, h => by
    have h : (ck_a L Ls X (i + d) && ck_g L Ls X (i + d)) = true := h
    rw [Bool.and_eq_true] at h
    exact ck_a_le d i h.1
/-- the lines of a result, and of a source -/
def rok (ns : Nat) (Ls : Int → Int → Int) (k : Nat) (l : Int → Int) : Prop :=
  (0 ≤ l 0 ∧ l 0 ≤ 9) ∧ (∀ v, stn l v → 0 ≤ v ∧ v < (k : Int)) ∧ (l 0 = 5 → 0 ≤ l 2) ∧ (l 0 = 6 → 0 ≤ l 3) ∧ (8 ≤ l 0 → (0 ≤ l 2 ∧ l 2 < 10) ∧ l 4 = -1) ∧ (l 0 < 8 → 0 ≤ l 4 ∧ l 4 < ns ∧ Ls (l 4) 0 = l 0)
def sok (l : Int → Int) : Prop := (0 ≤ l 0 ∧ l 0 ≤ 7) ∧ (∀ v, stn l v → 0 ≤ v ∧ v < 10) ∧ (l 0 = 5 → 0 ≤ l 2) ∧ (l 0 = 6 → 0 ≤ l 3)
theorem rok_c {ns k : Nat} {Ls : Int → Int → Int} {l l' : Int → Int} (e : ln_eq l l') (h : rok ns Ls k l') : rok ns Ls k l := by
  obtain ⟨e0, e1, e2, e3, e4⟩ := e
  unfold rok stn at *
  rw [e0, e1, e2, e3, e4]; exact h
theorem sok_c {l l' : Int → Int} (e : ln_eq l l') (h : sok l') : sok l := by
  obtain ⟨e0, e1, e2, e3, e4⟩ := e
  unfold sok stn at *
  rw [e0, e1, e2, e3]; exact h
theorem stn_hv {l : Int → Int} {j : Int} (hj : 1 ≤ j ∧ j < 4) (hv : pf_hv (l 0) j = true) : stn l (l j) := by
  have hj3 : j = 1 ∨ j = 2 ∨ j = 3 := by omega
  rcases hj3 with rfl | rfl | rfl
  · exact Or.inl ⟨hv, rfl⟩
  · exact Or.inr (Or.inl ⟨hv, rfl⟩)
  · exact Or.inr (Or.inr ⟨hv, rfl⟩)
/-- what a line's numbers may be -/
theorem rok_n {ns k : Nat} {Ls : Int → Int → Int} {l : Int → Int} (hs : ∀ i : Nat, i < ns → sok (Ls i)) (h : rok ns Ls k l) : (l 0 ≤ 4 ∨ 8 ≤ l 0 → 0 ≤ l 1 ∧ l 1 < k) ∧ (l 0 = 1 → 0 ≤ l 2 ∧ l 2 < k) ∧ (8 ≤ l 0 → 0 ≤ l 2 ∧ l 2 < 10) ∧ (l 0 ≤ 4 → 0 ≤ Ls (l 4) 1 ∧ Ls (l 4) 1 < 10) ∧ (l 0 < 8 → 0 ≤ l 4 ∧ l 4 < ns) := by
  obtain ⟨h0, h1, h2, h3, h4, h5⟩ := h
  refine ⟨fun q => h1 _ (stn_hv (j := 1) (by omega) ?_), fun q => h1 _ (stn_hv (j := 2) (by omega) (by rw [q]; rfl)), fun q => (h4 q).1, fun q => ?_, fun q => ⟨(h5 q).1, (h5 q).2.1⟩⟩
  · rw [pf_hv1 h0]
    unfold pf_rD
    simp only [Bool.or_eq_true, decide_eq_true_eq]
    omega
  · obtain ⟨a1, a2, a3⟩ := h5 (by omega)
    have hh := hs (l 4).toNat (by omega)
    rw [show (((l 4).toNat : Nat) : Int) = l 4 by omega] at hh
    refine hh.2.1 _ (stn_hv (j := 1) (by omega) ?_)
    rw [a3, pf_hv1 h0]
    unfold pf_rD
    simp only [Bool.or_eq_true, decide_eq_true_eq]
    omega
def ck_r (k p : Nat) : Nat := if p < k then p else 6 + (p - k)
theorem ck_tr_r {ns k : Nat} (hk : k ≤ 6) {Ls : Int → Int → Int} {l : Int → Int} (hs : ∀ i : Nat, i < ns → sok (Ls i)) (h : rok ns Ls k l) {v : Nat} {nw nr : Nat → Nat → Bool} {u : Nat} (hn : ∀ p, p < k + 10 → nw p u = nr (ck_r k p) u) {p : Nat} (hp : p < k + 10) : ck_tr k l v nw p u = ck_tr 6 l v nr (ck_r k p) u := by
  obtain ⟨a1, a2, a3, a4, a5⟩ := rok_n hs h
  have rp : (ck_r k p < k ∧ ck_r k p = p) ∨ (6 ≤ ck_r k p ∧ ck_r k p = 6 + (p - k) ∧ k ≤ p) := by
    unfold ck_r; split <;> omega
  unfold ck_tr
  by_cases e8 : l 0 = 8
  · rw [if_pos e8, if_pos e8]
    have b1 := a1 (by omega)
    have b3 := a3 (by omega)
    by_cases c : (p : Int) = l 1
    · rw [if_pos c, if_pos (by omega), hn _ (by omega)]
      congr 1
      unfold ck_r; rw [if_neg (by omega)]; omega
    · rw [if_neg c, if_neg (by omega)]; exact hn p hp
  · rw [if_neg e8, if_neg e8]
    by_cases e9 : l 0 = 9
    · rw [if_pos e9, if_pos e9]
      have b1 := a1 (by omega)
      have b3 := a3 (by omega)
      by_cases c : p = k + (l 2).toNat
      · rw [if_pos c, if_pos (by omega), hn _ (by omega)]
        congr 1
        unfold ck_r; rw [if_pos (by omega)]
      · rw [if_neg c, if_neg (by omega)]; exact hn p hp
    · rw [if_neg e9, if_neg e9]
      by_cases e4 : l 0 ≤ 4
      · rw [if_pos e4, if_pos e4]
        have b1 := a1 (by omega)
        by_cases c : (p : Int) = l 1
        · rw [if_pos c, if_pos (by omega)]
          by_cases c1 : l 0 = 1
          · have b2 := a2 c1
            rw [hn (l 2).toNat (by omega), show ck_r k (l 2).toNat = (l 2).toNat by unfold ck_r; rw [if_pos (by omega)]]
          · rw [decide_eq_false c1]; simp
        · rw [if_neg c, if_neg (by omega), hn p hp]
      · rw [if_neg e4, if_neg e4]; exact hn p hp
theorem bct_mono {f h : Nat → Bool} : ∀ k, (∀ i, i < k → f i = true → h i = true) → bct f k ≤ bct h k
  | 0, _ => Nat.le_refl _
  | k + 1, a => by
    have ih := bct_mono (f := f) (h := h) k (fun i hi => a i (by omega))
    show bct f k + (if f k = true then 1 else 0) ≤ bct h k + (if h k = true then 1 else 0)
    by_cases e : f k = true
    · rw [if_pos e, if_pos (a k (by omega) e)]; omega
    · rw [if_neg e]; omega
theorem bct_str {f h : Nat → Bool} {x : Nat} (hx : h x = true) (hf : f x = false) : ∀ k, x < k → (∀ i, i < k → f i = true → h i = true) → bct f k < bct h k
  | k + 1, hk, a => by
    show bct f k + (if f k = true then 1 else 0) < bct h k + (if h k = true then 1 else 0)
    by_cases e : x = k
    · have := bct_mono (f := f) (h := h) k (fun i hi => a i (by omega))
      rw [← e, hx, hf]; rw [← e] at this; simp; omega
    · have := bct_str hx hf k (by omega) (fun i hi => a i (by omega))
      by_cases e2 : f k = true
      · rw [if_pos e2, if_pos (a k (by omega) e2)]; omega
      · rw [if_neg e2]; omega
-- bits of ints
def b32 (x : Int32) (u : Nat) : Bool := x.toBitVec.getLsbD u
theorem b32_and (x y : Int32) (u : Nat) : b32 (x &&& y) u = (b32 x u && b32 y u) := by simp [b32]
theorem b32_or (x y : Int32) (u : Nat) : b32 (x ||| y) u = (b32 x u || b32 y u) := by simp [b32]
theorem b32_ext {x y : Int32} (h : ∀ u, u < 32 → b32 x u = b32 y u) : x = y := by
  apply Int32.toBitVec.inj
  apply BitVec.eq_of_getLsbD_eq
  intro i hi
  exact h i hi
theorem b32_m1 : ∀ u, u < 32 → b32 (Int32.ofInt (-1)) u = true := by decide +kernel
theorem b32_not (x : Int32) {u : Nat} (h : u < 32) : b32 (x ^^^ Int32.ofInt (-1)) u = !b32 x u := by
  have := b32_m1 u h
  simp only [b32, Int32.toBitVec_xor, BitVec.getLsbD_xor] at this ⊢
  rw [this]
  cases x.toBitVec.getLsbD u <;> rfl
theorem b32_bit : ∀ v, v < 10 → ∀ u, u < 32 → b32 (Int32.ofInt 1 <<< (Int32.ofInt ((v : Nat) : Int) &&& 31)) u = decide (u = v) := by decide +kernel
theorem b32_1023 : ∀ u, u < 32 → b32 (Int32.ofInt 1023) u = decide (u < 10) := by decide +kernel
theorem b32_64 (x : Int32) {u : Nat} (h : u < 32) : bs_t x.toInt64 u = b32 x u := by
  unfold bs_t b32
  rw [Int32.toBitVec_toInt64, BitVec.getLsbD_signExtend]
  simp [h]
  omega
