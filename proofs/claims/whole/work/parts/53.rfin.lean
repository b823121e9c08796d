-- the reference's allocate
section
variable {g : sm_G}
theorem rL_at {M : sm_M} {n : Nat} {L : Int → Int → Int} (h : Ln n (rf_L M 16) L) {i : Nat} (hi : i < n) : M.1 36 (16 + i) = Int32.ofInt (L i 0) ∧ M.1 37 (16 + i) = Int32.ofInt (L i 1) ∧ M.1 38 (16 + i) = Int32.ofInt (L i 2) ∧ M.1 39 (16 + i) = Int32.ofInt (L i 3) ∧ M.1 40 (16 + i) = Int32.ofInt (L i 4) := by
  obtain ⟨h0, h1, h2, h3, h4⟩ := h i hi
  have e : (16 + (i : Int)).toNat = 16 + i := by omega
  have a0 : (M.1 36 (16 + (i : Int)).toNat).toInt = L i 0 := h0
  have a1 : (M.1 37 (16 + (i : Int)).toNat).toInt = L i 1 := h1
  have a2 : (M.1 38 (16 + (i : Int)).toNat).toInt = L i 2 := h2
  have a3 : (M.1 39 (16 + (i : Int)).toNat).toInt = L i 3 := h3
  have a4 : (M.1 40 (16 + (i : Int)).toNat).toInt = L i 4 := h4
  rw [e] at a0 a1 a2 a3 a4
  rw [← a0, ← a1, ← a2, ← a3, ← a4]
  simp only [jn_self, and_self]
theorem rL_of {M : sm_M} {n : Nat} {L : Int → Int → Int} (h : ∀ i : Nat, i < n → ∀ j : Nat, j < 5 → (M.1 (36 + j) (16 + i)).toInt = L i j) : Ln n (rf_L M 16) L := by
  intro i hi
  have e : (16 + (i : Int)).toNat = 16 + i := by omega
  refine ⟨?_, ?_, ?_, ?_, ?_⟩
  · show (M.1 36 (16 + (i : Int)).toNat).toInt = _; rw [e]; exact h i hi 0 (by omega)
  · show (M.1 37 (16 + (i : Int)).toNat).toInt = _; rw [e]; exact h i hi 1 (by omega)
  · show (M.1 38 (16 + (i : Int)).toNat).toInt = _; rw [e]; exact h i hi 2 (by omega)
  · show (M.1 39 (16 + (i : Int)).toNat).toInt = _; rw [e]; exact h i hi 3 (by omega)
  · show (M.1 40 (16 + (i : Int)).toNat).toInt = _; rw [e]; exact h i hi 4 (by omega)
theorem rL_c {M M' : sm_M} {n : Nat} {L : Int → Int → Int} {b : Int} (h : Ln n (rf_L M b) L) (h0 : M'.1 36 = M.1 36) (h1 : M'.1 37 = M.1 37) (h2 : M'.1 38 = M.1 38) (h3 : M'.1 39 = M.1 39) (h4 : M'.1 40 = M.1 40) : Ln n (rf_L M' b) L := by
  intro i hi
  obtain ⟨a0, a1, a2, a3, a4⟩ := h i hi
  refine ⟨?_, ?_, ?_, ?_, ?_⟩
  · rw [← a0]; show (M'.1 36 _).toInt = (M.1 36 _).toInt; rw [h0]
  · rw [← a1]; show (M'.1 37 _).toInt = (M.1 37 _).toInt; rw [h1]
  · rw [← a2]; show (M'.1 38 _).toInt = (M.1 38 _).toInt; rw [h2]
  · rw [← a3]; show (M'.1 39 _).toInt = (M.1 39 _).toInt; rw [h3]
  · rw [← a4]; show (M'.1 40 _).toInt = (M.1 40 _).toInt; rw [h4]
def mf (k : Nat) (M0 M : sm_M) : Prop := (∀ p, p < 35 ∨ 52 < p → M.1 p = M0.1 p) ∧ (∀ i, i ≠ 0 → i ≠ 7 → i ≠ 8 → i ≠ 20 → i ≠ 21 → i ≠ 22 → i ≠ 23 → i ≠ 24 → i ≠ 26 → M.1 35 i = M0.1 35 i) ∧ (∀ j, j < 5 → ∀ i, i < 16 → M.1 (36 + j) i = M0.1 (36 + j) i) ∧ M.2 = M0.2 ∧ M.1 35 0 = Int32.ofInt 0 ∧ M.1 35 23 = Int32.ofInt (k : Int)
theorem mf_c {k : Nat} {M0 M M' : sm_M} (h : mf k M0 M) (hp : ∀ p, p < 41 ∨ 52 < p → p ≠ 35 → M'.1 p = M.1 p) (h35 : ∀ i, i ≠ 20 → i ≠ 24 → M'.1 35 i = M.1 35 i) (h2 : M'.2 = M.2) : mf k M0 M' := by
  obtain ⟨a1, a2, a3, a4, a5, a6⟩ := h
  exact ⟨fun p q => by rw [hp p (by omega) (by omega)]; exact a1 p q, fun i q1 q2 q3 q4 q5 q6 q7 q8 q9 => by rw [h35 i q4 q8]; exact a2 i q1 q2 q3 q4 q5 q6 q7 q8 q9, fun j hj i hi => by rw [hp (36 + j) (by omega) (by omega)]; exact a3 j hj i hi, by rw [h2, a4], by rw [h35 0 (by decide) (by decide)]; exact a5, by rw [h35 23 (by decide) (by decide)]; exact a6⟩
def mi_is (k : Nat) (M0 M : sm_M) (c : aC) : Prop := mf k M0 M ∧ M.1 35 24 = Int32.ofInt 0 ∧ M.1 35 7 = Int32.ofInt (c.1 : Int) ∧ Ln c.1 (rf_L M 16) c.2.1 ∧ M.1 35 21 = Int32.ofInt c.2.2.1 ∧ M.1 35 22 = Int32.ofInt c.2.2.2
def mi_post (k : Nat) (M0 : sm_M) (a : Option (Nat × aC)) (o : Option Value) (M' : sm_M) : Prop :=
  mf k M0 M' ∧ match a with
  | none => o = some (.int (Int32.ofInt (-1))) ∧ M'.1 35 24 = Int32.ofInt 0
  | some (r, c) => o = some (.int (Int32.ofInt (r : Int))) ∧ M'.1 35 24 = Int32.ofInt 1 ∧ M'.1 35 7 = Int32.ofInt (c.1 : Int) ∧ Ln c.1 (rf_L M' 16) (r_fin k c) ∧ M'.1 35 22 = Int32.ofInt c.2.2.2 ∧ M'.1 35 20 = js_j (r_s k c)
theorem rb_jm {M1 M2 : sm_M} {L : Int → Int → Int} {n : Nat} (hn : n ≤ 48) (hk : ∀ i : Nat, i < n → lv_ok (L i)) (h : rb_is M1 M2 (gr_c L n) (gr_N L (Hc L n) n)) : jm_is (sm_sI M2 35 20 (Int32.ofInt 0)) (gs L n) := by
  obtain ⟨h1, h2, h3, h4, h5, h6⟩ := h
  have w := gs_w hn hk
  refine ⟨gr_N L (Hc L n) n, ⟨fun v hv => ?_, fun u hu v hv => ?_⟩, ⟨fun _ _ _ _ _ _ => rfl, fun u v _ _ h => w.2.2.2.2 u v h, fun u v _ _ => w.2.2.1 u v⟩, fun v hv => ?_, fun v hv => ?_, ?_⟩
  · rw [sI_1 (by decide)]; exact h1 v hv
  · rw [sI_1 (by decide)]; exact h4 u hu v hv
  · rw [sI_1 (by decide), h2 v hv]
    congr 1
    unfold jr_l
    show (v : Int) = if (if 0 < gr_c L n v then (v : Int) else -1) = -1 then (v : Int) else (if 0 < gr_c L n v then (v : Int) else -1)
    by_cases c : 0 < gr_c L n v
    · rw [if_pos c, if_neg (by omega)]
    · rw [if_neg c, if_pos rfl]
  · rw [sI_1 (by decide)]; exact h3 v hv
  · rw [sI_s, pk_us]; rfl
theorem c_mfin {ns : Nat} {Ls : Int → Int → Int} {M0 : sm_M} {k : Nat} (hk : 3 ≤ k ∧ k ≤ 6) {c : aC} (ha : aI ns Ls c) {r : Nat} {x3 x4 : Int32} {M : sm_M} (hr : r < 100) (hm : mf k M0 M) (h24 : M.1 35 24 = Int32.ofInt 1) (h7 : M.1 35 7 = Int32.ofInt (c.1 : Int)) (hL : Ln c.1 (rf_L M 16) c.2.1) (h22 : M.1 35 22 = Int32.ofInt c.2.2.2) (h20 : M.1 35 20 = js_j (r_s k c)) (h45 : ∀ v, v < 60 → M.1 45 v = Int32.ofInt (jr_l (r_s k c) v)) (h49 : ∀ v, v < 60 → M.1 49 v = Int32.ofInt (gv (r_s k c) k (tk_T (r_s k c)) v)) :
    sm_Go g 104 (sm_Fn g (mi_post k M0 (some (r, c)))) 170 [.ref 35, .int (Int32.ofInt (k : Int)), .int (Int32.ofInt (r : Int)), .int x3, .null, .null] [] M := by
  have n48 := ha.1
  have hok : ∀ i : Nat, i < c.1 → lv_ok (c.2.1 i) := aI_ok ha
  obtain ⟨w1, w2, w3, w4⟩ := r_s_p ha k
  have rf0 : ∀ i j, j < 1 ∨ 3 < j → r_fin k c i j = c.2.1 i j := fun i j hj => by
    unfold r_fin
    rw [if_neg]
    unfold pf_hv
    simp only [Bool.or_eq_true, Bool.and_eq_true, decide_eq_true_eq]
    omega
  have loop : ∀ (d i : Nat) (M1 : sm_M), i + d = c.1 → (∀ p, p ≠ 37 → p ≠ 38 → p ≠ 39 → M1.1 p = M.1 p) → M1.2 = M.2 → (∀ j, j < 5 → ∀ t, t < 16 → M1.1 (36 + j) t = M.1 (36 + j) t) → (∀ a : Nat, a < c.1 → ∀ j : Nat, j < 5 → (M1.1 (36 + j) (16 + a)).toInt = if a < i then r_fin k c a j else c.2.1 a j) → sm_Go g 104 (sm_Fn g (mi_post k M0 (some (r, c)))) 183 [.ref 35, .int (Int32.ofInt (k : Int)), .int (Int32.ofInt (r : Int)), .int x3, .int (Int32.ofInt (16 + (i : Int))), .null] [] M1 := by
    intro d
    induction d with
    | zero =>
      intro i M1 hd hp h2 h16 hl
      have e35 : M1.1 35 = M.1 35 := hp 35 (by decide) (by decide) (by decide)
      refine k104_183 (fun _ _ _ _ h => h) ⟨fun _ => ?_, fun q => absurd ?_ q⟩
      · refine ⟨⟨fun p q => ?_, fun t q1 q2 q3 q4 q5 q6 q7 q8 q9 => ?_, fun j hj t ht => ?_, ?_, ?_, ?_⟩, rfl, ?_, ?_, rL_of (fun a ha j hj => by rw [hl a ha j hj, if_pos (by omega)]), ?_, ?_⟩
        · rw [hp p (by omega) (by omega) (by omega)]; exact hm.1 p q
        · rw [e35]; exact hm.2.1 t q1 q2 q3 q4 q5 q6 q7 q8 q9
        · rw [h16 j hj t ht]; exact hm.2.2.1 j hj t ht
        · rw [h2]; exact hm.2.2.2.1
        · rw [e35]; exact hm.2.2.2.2.1
        · rw [e35]; exact hm.2.2.2.2.2
        · rw [e35]; exact h24
        · rw [e35]; exact h7
        · rw [e35]; exact h22
        · rw [e35]; exact h20
      · rw [e35, h7, jn_add, jn_le (by omega) (by omega) (by omega) (by omega)]; omega
    | succ d ih =>
      intro i M1 hd hp h2 h16 hl
      have e35 : M1.1 35 = M.1 35 := hp 35 (by decide) (by decide) (by decide)
      have ix : vp_in (Int32.ofInt (16 + (i : Int))) 112 := by rw [jn_in (by omega) (by omega)]; omega
      have clx : (Int32.ofInt (16 + (i : Int))).toNatClampNeg = 16 + i := by rw [jn_cl (by omega) (by omega)]; omega
      have lv : ∀ j : Nat, j < 5 → M1.1 (36 + j) (16 + i) = Int32.ofInt (c.2.1 i j) := fun j hj => by rw [← jn_self (M1.1 (36 + j) (16 + i)), hl i (by omega) j hj, if_neg (by omega)]
      have l0 : M1.1 36 (16 + i) = Int32.ofInt (c.2.1 i 0) := lv 0 (by omega)
      have l1 : M1.1 37 (16 + i) = Int32.ofInt (c.2.1 i 1) := lv 1 (by omega)
      have l2 : M1.1 38 (16 + i) = Int32.ofInt (c.2.1 i 2) := lv 2 (by omega)
      have l3 : M1.1 39 (16 + i) = Int32.ofInt (c.2.1 i 3) := lv 3 (by omega)
      have lr : ∀ j : Nat, j < 5 → -2147483648 ≤ c.2.1 i j ∧ c.2.1 i j < 2147483648 := fun j hj => by
        have := hl i (by omega) j hj
        rw [if_neg (by omega)] at this
        rw [← this]; exact ⟨Int32.le_toInt _, Int32.toInt_lt _⟩
      have r0 : -2147483648 ≤ c.2.1 i 0 ∧ c.2.1 i 0 < 2147483648 := lr 0 (by omega)
      have r1 : -2147483648 ≤ c.2.1 i 1 ∧ c.2.1 i 1 < 2147483648 := lr 1 (by omega)
      have r2 : -2147483648 ≤ c.2.1 i 2 ∧ c.2.1 i 2 < 2147483648 := lr 2 (by omega)
      have r3 : -2147483648 ≤ c.2.1 i 3 ∧ c.2.1 i 3 < 2147483648 := lr 3 (by omega)
      have t0 : (Int32.ofInt (c.2.1 i 0)).toInt = c.2.1 i 0 := jn_to r0.1 r0.2
      have o09 := (hok i (by omega)).1
      -- a value's register
      have reg : ∀ j : Int, 1 ≤ j ∧ j < 4 → pf_hv (c.2.1 i 0) j = true → (0 ≤ c.2.1 i j ∧ c.2.1 i j < 60) ∧ (0 ≤ js_ld (r_s k c) (c.2.1 i j).toNat ∧ js_ld (r_s k c) (c.2.1 i j).toNat < 60) ∧ M.1 45 (c.2.1 i j).toNat = Int32.ofInt (js_ld (r_s k c) (c.2.1 i j).toNat) ∧ M.1 49 (js_ld (r_s k c) (c.2.1 i j).toNat).toNat = Int32.ofInt (r_fin k c i j) ∧ (-1 ≤ r_fin k c i j ∧ r_fin k c i j < 6) := fun j hj hv => by
        have rb := lv_hv (hok i (by omega)) hj hv
        have hst : stn (c.2.1 i) (c.2.1 i j) := by
          have hj3 : j = 1 ∨ j = 2 ∨ j = 3 := by omega
          rcases hj3 with e | e | e <;> subst e
          · exact Or.inl ⟨hv, rfl⟩
          · exact Or.inr (Or.inl ⟨hv, rfl⟩)
          · exact Or.inr (Or.inr ⟨hv, rfl⟩)
        have l0 := w4 (c.2.1 i j).toNat ((gr_c_stn _).mpr ⟨i, by omega, by rw [show (((c.2.1 i j).toNat : Nat) : Int) = c.2.1 i j by omega]; exact hst⟩)
        have lr := jw_r w1 (v := (c.2.1 i j).toNat) (by omega)
        have gr := gv_r (s := r_s k c) (k := k) (tk_T (r_s k c)) (js_ld (r_s k c) (c.2.1 i j).toNat).toNat
        have e : r_fin k c i j = gv (r_s k c) k (tk_T (r_s k c)) (js_ld (r_s k c) (c.2.1 i j).toNat).toNat := by unfold r_fin; rw [if_pos hv]
        refine ⟨rb, by omega, by rw [h45 _ (by omega), jr_l0 l0], by rw [h49 _ (by omega), e], by rw [e]; omega⟩
      -- the three columns
      have f329 : ∀ (y1 y2 y3 : Int32) (x5 : Int32), y1.toInt = r_fin k c i 1 → y2.toInt = r_fin k c i 2 → y3.toInt = r_fin k c i 3 → sm_Go g 104 (sm_Fn g (mi_post k M0 (some (r, c)))) 329 [.ref 35, .int (Int32.ofInt (k : Int)), .int (Int32.ofInt (r : Int)), .int x3, .int (Int32.ofInt (16 + (i : Int))), .int x5] [.int y3, .int (Int32.ofInt (16 + (i : Int))), .ref 39] (sm_sI (sm_sI M1 37 (16 + i) y1) 38 (16 + i) y2) := by
        intro y1 y2 y3 x5 e1 e2 e3
        refine k104_329 (fun _ _ _ _ h => h) ⟨ix, ?_⟩
        rw [clx, jn_add, show 16 + (i : Int) + 1 = 16 + ((i + 1 : Nat) : Int) by omega]
        have N : ∀ j, j < 5 → ∀ t, t ≠ 16 + i → (sm_sI (sm_sI (sm_sI M1 37 (16 + i) y1) 38 (16 + i) y2) 39 (16 + i) y3).1 (36 + j) t = M1.1 (36 + j) t := fun j hj t ht => by
          have hj5 : j = 0 ∨ j = 1 ∨ j = 2 ∨ j = 3 ∨ j = 4 := by omega
          rcases hj5 with e | e | e | e | e <;> subst e
          · rw [sI_1 (by decide), sI_1 (by decide), sI_1 (by decide)]
          · rw [sI_1 (by decide), sI_1 (by decide)]
            show (sm_sI M1 37 (16 + i) y1).1 37 t = M1.1 37 t
            rw [sI_s, pk_un ht]
          · rw [sI_1 (by decide)]
            show (sm_sI (sm_sI M1 37 (16 + i) y1) 38 (16 + i) y2).1 38 t = M1.1 38 t
            rw [sI_s, pk_un ht, sI_1 (by decide)]
          · show (sm_sI (sm_sI (sm_sI M1 37 (16 + i) y1) 38 (16 + i) y2) 39 (16 + i) y3).1 39 t = M1.1 39 t
            rw [sI_s, pk_un ht, sI_1 (by decide), sI_1 (by decide)]
          · rw [sI_1 (by decide), sI_1 (by decide), sI_1 (by decide)]
        refine sm_wk (L := [.ref 35, .int (Int32.ofInt (k : Int)), .int (Int32.ofInt (r : Int)), .int x3, .int (Int32.ofInt (16 + ((i + 1 : Nat) : Int))), .null]) ⟨rfl, rfl, rfl, rfl, rfl, trivial⟩ (ih (i + 1) _ (by omega) (fun p p1 p2 p3 => ?_) h2 (fun j hj t ht => ?_) (fun a ha j hj => ?_))
        · rw [sI_1 p3, sI_1 p2, sI_1 p1]; exact hp p p1 p2 p3
        · rw [N j hj t (by omega)]; exact h16 j hj t ht
        · by_cases e : a = i
          · subst e
            rw [if_pos (by omega)]
            have hj5 : j = 0 ∨ j = 1 ∨ j = 2 ∨ j = 3 ∨ j = 4 := by omega
            rcases hj5 with e | e | e | e | e <;> subst e
            · rw [sI_1 (by decide), sI_1 (by decide), sI_1 (by decide), hl a ha 0 (by omega), if_neg (by omega), rf0 _ _ (by omega)]
            · rw [sI_1 (by decide), sI_1 (by decide)]
              show ((sm_sI M1 37 (16 + a) y1).1 37 (16 + a)).toInt = _
              rw [sI_s, pk_us]; exact e1
            · rw [sI_1 (by decide)]
              show ((sm_sI (sm_sI M1 37 (16 + a) y1) 38 (16 + a) y2).1 38 (16 + a)).toInt = _
              rw [sI_s, pk_us]; exact e2
            · show ((sm_sI (sm_sI (sm_sI M1 37 (16 + a) y1) 38 (16 + a) y2) 39 (16 + a) y3).1 39 (16 + a)).toInt = _
              rw [sI_s, pk_us]; exact e3
            · rw [sI_1 (by decide), sI_1 (by decide), sI_1 (by decide), hl a ha 4 (by omega), if_neg (by omega), rf0 _ _ (by omega)]
          · rw [N j hj (16 + a) (by omega), hl a ha j hj]
            by_cases e2 : a < i
            · rw [if_pos e2, if_pos (by omega)]
            · rw [if_neg e2, if_neg (by omega)]
      have f287 : ∀ (y1 y2 : Int32), y1.toInt = r_fin k c i 1 → y2.toInt = r_fin k c i 2 → sm_Go g 104 (sm_Fn g (mi_post k M0 (some (r, c)))) 287 [.ref 35, .int (Int32.ofInt (k : Int)), .int (Int32.ofInt (r : Int)), .int x3, .int (Int32.ofInt (16 + (i : Int))), .int (Int32.ofInt (c.2.1 i 0))] [.int y2, .int (Int32.ofInt (16 + (i : Int))), .ref 38] (sm_sI M1 37 (16 + i) y1) := by
        intro y1 y2 e1 e2
        refine k104_287 (fun _ _ _ _ h => h) ⟨ix, ?_⟩
        rw [clx, t0, sm_z0, sI_1 (by decide), l3, sI_1 (by decide), sI_1 (by decide)]
        refine ⟨fun q => ⟨ix, f329 _ _ _ _ e1 e2 ?_⟩, fun q => ?_⟩
        · rw [jn_to r3.1 r3.2]; unfold r_fin; rw [if_neg (by rw [pf_hv3, q]; decide)]
        · rw [Bool.not_eq_false] at q
          obtain ⟨b1, b2, b3, b4, b5⟩ := reg 3 (by omega) (by rw [pf_hv3]; exact q)
          rw [jn_cl (a := c.2.1 i 3) (by omega) (by omega), hp 45 (by decide) (by decide) (by decide), b3, jn_cl (a := js_ld (r_s k c) (c.2.1 i 3).toNat) (by omega) (by omega), hp 49 (by decide) (by decide) (by decide), b4]
          refine ⟨ix, by rw [jn_in (by omega) (by omega)]; omega, by rw [jn_in (by omega) (by omega)]; omega, f329 _ _ _ _ e1 e2 (jn_to (by omega) (by omega))⟩
      have f245 : ∀ y1 : Int32, y1.toInt = r_fin k c i 1 → sm_Go g 104 (sm_Fn g (mi_post k M0 (some (r, c)))) 245 [.ref 35, .int (Int32.ofInt (k : Int)), .int (Int32.ofInt (r : Int)), .int x3, .int (Int32.ofInt (16 + (i : Int))), .int (Int32.ofInt (c.2.1 i 0))] [.int y1, .int (Int32.ofInt (16 + (i : Int))), .ref 37] M1 := by
        intro y1 e1
        refine k104_245 (fun _ _ _ _ h => h) ⟨ix, ?_⟩
        rw [clx, t0, sm_z0, l2]
        refine ⟨fun q => ⟨ix, f287 _ _ e1 ?_⟩, fun q => ?_⟩
        · rw [jn_to r2.1 r2.2]; unfold r_fin; rw [if_neg (by rw [pf_hv2, q]; decide)]
        · rw [Bool.not_eq_false] at q
          obtain ⟨b1, b2, b3, b4, b5⟩ := reg 2 (by omega) (by rw [pf_hv2]; exact q)
          rw [jn_cl (a := c.2.1 i 2) (by omega) (by omega), hp 45 (by decide) (by decide) (by decide), b3, jn_cl (a := js_ld (r_s k c) (c.2.1 i 2).toNat) (by omega) (by omega), hp 49 (by decide) (by decide) (by decide), b4]
          refine ⟨ix, by rw [jn_in (by omega) (by omega)]; omega, by rw [jn_in (by omega) (by omega)]; omega, f287 _ _ e1 (jn_to (by omega) (by omega))⟩
      refine k104_183 (fun _ _ _ _ h => h) ⟨fun q => ?_, fun _ => ⟨ix, ?_⟩⟩
      · rw [e35, h7, jn_add, jn_le (by omega) (by omega) (by omega) (by omega)] at q; omega
      rw [clx, l0, t0, sm_z0, l1]
      refine ⟨fun q => ⟨ix, f245 _ ?_⟩, fun q => ?_⟩
      · rw [jn_to r1.1 r1.2]; unfold r_fin; rw [if_neg (by rw [pf_hv1 o09, q]; decide)]
      · rw [Bool.not_eq_false] at q
        obtain ⟨b1, b2, b3, b4, b5⟩ := reg 1 (by omega) (by rw [pf_hv1 o09]; exact q)
        rw [jn_cl (a := c.2.1 i 1) (by omega) (by omega), hp 45 (by decide) (by decide) (by decide), b3, jn_cl (a := js_ld (r_s k c) (c.2.1 i 1).toNat) (by omega) (by omega), hp 49 (by decide) (by decide) (by decide), b4]
        refine ⟨ix, by rw [jn_in (by omega) (by omega)]; omega, by rw [jn_in (by omega) (by omega)]; omega, f245 _ (jn_to (by omega) (by omega))⟩
  refine k104_170 (fun _ _ _ _ h => h) ⟨fun _ => ?_, fun q => ?_⟩
  · refine loop c.1 0 M (by omega) (fun _ _ _ _ => rfl) rfl (fun _ _ _ _ => rfl) (fun a ha j hj => ?_)
    rw [if_neg (by omega)]
    have := Ln_o hL ha (j := (j : Int)) (by omega)
    rw [← this]
    unfold rf_L rf_l
    rw [show (16 + (a : Int)).toNat = 16 + a by omega, show ((j : Nat) : Int).toNat = j by omega]
  · rw [h24] at q; exact absurd q (by decide)
end
