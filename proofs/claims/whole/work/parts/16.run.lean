-- running a code: what both sides do
abbrev mw_T : Type := (Nat → Int32) × (Nat → Int32) × (Nat → Int32) × Int32
def mw_out (x : Int32) (t : mw_T) : mw_T := (t.1, t.2.1, if t.2.2.2.toInt < 20 then upd t.2.2.1 t.2.2.2.toInt.toNat x else t.2.2.1, t.2.2.2 + Int32.ofInt 1)
def mw_w (l : Int → Int) (t : mw_T) : mw_T :=
  if l 0 = 0 then (upd t.1 (l 1).toNat (Int32.ofInt (l 2)), t.2)
  else if l 0 = 1 then (upd t.1 (l 1).toNat (t.1 (l 2).toNat), t.2)
  else if l 0 = 2 then (upd t.1 (l 1).toNat (t.1 (l 2).toNat + t.1 (l 3).toNat), t.2)
  else if l 0 = 3 then (upd t.1 (l 1).toNat (t.1 (l 2).toNat - t.1 (l 3).toNat), t.2)
  else if l 0 = 4 then (upd t.1 (l 1).toNat (if t.1 (l 3).toNat ≤ t.1 (l 2).toNat then Int32.ofInt 0 else Int32.ofInt 1), t.2)
  else if l 0 = 7 then mw_out (t.1 (l 2).toNat) t
  else if l 0 = 8 then (upd t.1 (l 1).toNat (t.2.1 (l 2).toNat), t.2)
  else if l 0 = 9 then (t.1, upd t.2.1 (l 2).toNat (t.1 (l 1).toNat), t.2.2)
  else t
def mw_ok (l : Int → Int) : Prop := (0 ≤ l 0 ∧ l 0 ≤ 9) ∧ (pf_hv (l 0) 1 = true → 0 ≤ l 1 ∧ l 1 < 10) ∧ (pf_hv (l 0) 2 = true ∨ 8 ≤ l 0 → 0 ≤ l 2 ∧ l 2 < 10) ∧ (pf_hv (l 0) 3 = true → 0 ≤ l 3 ∧ l 3 < 10) ∧ (l 0 = 5 → 0 ≤ l 2) ∧ (l 0 = 6 → 0 ≤ l 3)
-- the line that follows
def mw_nx (l : Int → Int) (n i : Int) (r : Nat → Int32) : Int :=
  if l 0 = 5 then (if n < l 2 then n else l 2)
  else if l 0 = 6 ∧ ¬ r (l 2).toNat = 0 then (if n < l 3 then n else l 3)
  else i + 1
def mw_run (L : Int → Int → Int) (n : Int) : Nat → Int → Int → mw_T → Int × mw_T
  | 0, i, _, t => (i, t)
  | f + 1, i, k, t => if n ≤ i then (i, t) else if L i 0 < 8 ∧ k = 200 then (i, t) else mw_run L n f (mw_nx (L i) n i (mw_w (L i) t).1) (if L i 0 < 8 then k + 1 else k) (mw_w (L i) t)
-- the class's machine
def mw_get (M : sm_M) : mw_T := (M.1 32, M.1 33, M.1 34, M.1 31 3)
def mw_is (M0 M : sm_M) (t : mw_T) : Prop := mw_get M = t ∧ (∀ k, k ≠ 3 → M.1 31 k = M0.1 31 k) ∧ (∀ p, p ≠ 31 → p ≠ 32 → p ≠ 33 → p ≠ 34 → M.1 p = M0.1 p) ∧ M.2 = M0.2
theorem mw_r {M0 M : sm_M} {t : mw_T} (h : mw_is M0 M t) (k : Nat) (v : Int32) : mw_is M0 (sm_sI M 32 k v) (upd t.1 k v, t.2) := by
  obtain ⟨rfl, h2, h3, h4⟩ := h
  refine ⟨?_, fun j hj => ?_, fun p h5 h6 h7 h8 => ?_, h4⟩
  · simp [mw_get, sI_s, sI_1]
  · rw [sI_1 (by decide)]; exact h2 j hj
  · rw [sI_1 h6]; exact h3 p h5 h6 h7 h8
theorem mw_s {M0 M : sm_M} {t : mw_T} (h : mw_is M0 M t) (k : Nat) (v : Int32) : mw_is M0 (sm_sI M 33 k v) (t.1, upd t.2.1 k v, t.2.2) := by
  obtain ⟨rfl, h2, h3, h4⟩ := h
  refine ⟨?_, fun j hj => ?_, fun p h5 h6 h7 h8 => ?_, h4⟩
  · simp [mw_get, sI_s, sI_1]
  · rw [sI_1 (by decide)]; exact h2 j hj
  · rw [sI_1 h7]; exact h3 p h5 h6 h7 h8
theorem mw_o {M0 M : sm_M} {t : mw_T} (h : mw_is M0 M t) (k : Nat) (v : Int32) : mw_is M0 (sm_sI M 34 k v) (t.1, t.2.1, upd t.2.2.1 k v, t.2.2.2) := by
  obtain ⟨rfl, h2, h3, h4⟩ := h
  refine ⟨?_, fun j hj => ?_, fun p h5 h6 h7 h8 => ?_, h4⟩
  · simp [mw_get, sI_s, sI_1]
  · rw [sI_1 (by decide)]; exact h2 j hj
  · rw [sI_1 h8]; exact h3 p h5 h6 h7 h8
theorem mw_c {M0 M : sm_M} {t : mw_T} (h : mw_is M0 M t) (v : Int32) : mw_is M0 (sm_sI M 31 3 v) (t.1, t.2.1, t.2.2.1, v) := by
  obtain ⟨rfl, h2, h3, h4⟩ := h
  refine ⟨?_, fun j hj => ?_, fun p h5 h6 h7 h8 => ?_, h4⟩
  · simp [mw_get, sI_s, sI_1, upd]
  · rw [sI_s]; simp [upd, hj]; exact h2 j hj
  · rw [sI_1 h5]; exact h3 p h5 h6 h7 h8
theorem mw_0 (M : sm_M) : mw_is M M (mw_get M) := ⟨rfl, fun _ _ => rfl, fun _ _ _ _ _ => rfl, rfl⟩
theorem mw_l {M0 M : sm_M} {t : mw_T} (h : mw_is M0 M t) {c : Nat} (hc : c = 1 ∨ c = 3) (i j : Int) : cd_l M c i j = cd_l M0 c i j := by
  unfold cd_l
  rw [h.2.2.1 (c + 1) (by omega) (by omega) (by omega) (by omega)]
theorem mw_n {M0 M : sm_M} {t : mw_T} (h : mw_is M0 M t) {c : Nat} (hc : c = 1 ∨ c = 3) : M.1 c 1 = M0.1 c 1 := by
  rw [h.2.2.1 c (by omega) (by omega) (by omega) (by omega)]
section
variable {g : sm_G} {M M0 : sm_M}
theorem c_putOut {t : mw_T} (h : mw_is M0 M t) (h0 : 0 ≤ t.2.2.2.toInt) (x : Int32) : sm_Sm g 39 [.ref 31, .int x] M (fun o M' => o = none ∧ mw_is M0 M' (mw_out x t)) := by
  have e : M.1 31 3 = t.2.2.2 := by rw [← h.1]; rfl
  refine sm_entry (Nat.le_of_ble_eq_true rfl) (Nat.le_of_ble_eq_true rfl) ?_
  refine k39_0 (fun _ _ _ _ h => h) ⟨fun q => k39_19 (fun _ _ _ _ h => h) ⟨rfl, ?_⟩, fun q => ⟨?_, k39_19 (fun _ _ _ _ h => h) ⟨rfl, ?_⟩⟩⟩ <;>
    rw [e] at q ⊢ <;> simp (disch := omega) only [Int32.le_iff_toInt_le, jn_to] at q
  · have := mw_c h (t.2.2.2 + Int32.ofInt 1)
    rw [mw_out, if_neg (by omega)]
    exact this
  · rw [vp_in_iff]; omega
  · have h1 := mw_o h t.2.2.2.toNatClampNeg x
    have h2 := mw_c h1 (t.2.2.2 + Int32.ofInt 1)
    rw [mw_out, if_pos (by omega)]
    rw [sI_1 (by decide), e]
    exact h2
theorem c_work {t : mw_T} (h : mw_is M0 M t) {c : Nat} (hc : c = 1 ∨ c = 3) {i : Int} (hi : 0 ≤ i ∧ i < 48) (hl : mw_ok (cd_l M0 c i)) (h0 : 0 ≤ t.2.2.2.toInt) : sm_Sm g 38 [.ref 31, .ref c, .int (Int32.ofInt i)] M (fun o M' => o = none ∧ mw_is M0 M' (mw_w (cd_l M0 c i) t)) := by
  have ei : (Int32.ofInt i).toInt = i := jn_to (by omega) (by omega)
  have er : ∀ k, M.1 32 k = t.1 k := fun k => by rw [← h.1]; rfl
  have es : ∀ k, M.1 33 k = t.2.1 k := fun k => by rw [← h.1]; rfl
  obtain ⟨⟨a0, a9⟩, wd, wa, wb, -, -⟩ := hl
  refine sm_entry (Nat.le_of_ble_eq_true rfl) (Nat.le_of_ble_eq_true rfl) ?_
  refine k38_0 hc (fun _ _ _ _ h => h) ?_
  rw [ei]
  simp (disch := omega) only [cd_lt, jn_to]
  simp only [mw_l h hc]
  have lr := fun j => @cd_lr M0 c i j
  have hin : ∀ j, (0 ≤ cd_l M0 c i j ∧ cd_l M0 c i j < 10) → vp_in (Int32.ofInt (cd_l M0 c i j)) 10 := fun j hj => by
    rw [jn_in (by omega) (by omega)]; omega
  have hcl : ∀ j, (0 ≤ cd_l M0 c i j ∧ cd_l M0 c i j < 10) → (Int32.ofInt (cd_l M0 c i j)).toNatClampNeg = (cd_l M0 c i j).toNat := fun j hj => jn_cl (by omega) (by omega)
  refine ⟨⟨hi.1, hi.2, by omega, by omega⟩, ⟨hi.1, hi.2, by omega, by omega⟩, ⟨hi.1, hi.2, by omega, by omega⟩, ⟨hi.1, hi.2, by omega, by omega⟩, fun q => by omega, fun q => ?_, fun q => ?_, fun q => ?_, fun q => ?_, fun q => ?_, fun q => ?_, fun q => ?_, fun q => ?_, fun q => ?_, fun q => ?_, trivial⟩
  · have q2 : cd_l M0 c i 0 = 0 := by omega
    have hd := wd (by rw [q2]; decide)
    refine ⟨hin 1 hd, (by trivial), ?_⟩
    rw [mw_w, if_pos q2]
    rw [hcl 1 hd]
    exact mw_r h _ _
  · have q2 : cd_l M0 c i 0 = 1 := by omega
    have hd := wd (by rw [q2]; decide)
    have ha := wa (Or.inl (by rw [q2]; decide))
    refine ⟨hin 2 ha, hin 1 hd, (by trivial), ?_⟩
    rw [mw_w, if_neg (by omega), if_pos q2]
    rw [hcl 1 hd, hcl 2 ha, er]
    exact mw_r h _ _
  · have q2 : cd_l M0 c i 0 = 2 := by omega
    have hd := wd (by rw [q2]; decide)
    have ha := wa (Or.inl (by rw [q2]; decide))
    have hb := wb (by rw [q2]; decide)
    refine ⟨hin 2 ha, hin 3 hb, hin 1 hd, (by trivial), ?_⟩
    rw [mw_w, if_neg (by omega), if_neg (by omega), if_pos q2]
    rw [hcl 1 hd, hcl 2 ha, hcl 3 hb, er, er]
    exact mw_r h _ _
  · have q2 : cd_l M0 c i 0 = 3 := by omega
    have hd := wd (by rw [q2]; decide)
    have ha := wa (Or.inl (by rw [q2]; decide))
    have hb := wb (by rw [q2]; decide)
    refine ⟨hin 2 ha, hin 3 hb, hin 1 hd, (by trivial), ?_⟩
    rw [mw_w, if_neg (by omega), if_neg (by omega), if_neg (by omega), if_pos q2]
    rw [hcl 1 hd, hcl 2 ha, hcl 3 hb, er, er]
    exact mw_r h _ _
  · have q2 : cd_l M0 c i 0 = 4 := by omega
    have hd := wd (by rw [q2]; decide)
    have ha := wa (Or.inl (by rw [q2]; decide))
    have hb := wb (by rw [q2]; decide)
    rw [hcl 1 hd, hcl 2 ha, hcl 3 hb, er, er]
    refine ⟨hin 2 ha, hin 3 hb, fun z => ⟨hin 1 hd, (by trivial), ?_⟩, fun z => ⟨hin 1 hd, (by trivial), ?_⟩⟩
    · rw [mw_w, if_neg (by omega), if_neg (by omega), if_neg (by omega), if_neg (by omega), if_pos q2]; rw [if_pos z]; exact mw_r h _ _
    · rw [mw_w, if_neg (by omega), if_neg (by omega), if_neg (by omega), if_neg (by omega), if_pos q2]; rw [if_neg z]; exact mw_r h _ _
  · have q2 : cd_l M0 c i 0 = 5 := by omega
    refine ⟨(by trivial), ?_⟩
    rw [mw_w, if_neg (by omega), if_neg (by omega), if_neg (by omega), if_neg (by omega), if_neg (by omega), if_neg (by omega), if_neg (by omega), if_neg (by omega)]
    exact h
  · have q2 : cd_l M0 c i 0 = 6 := by omega
    refine ⟨(by trivial), ?_⟩
    rw [mw_w, if_neg (by omega), if_neg (by omega), if_neg (by omega), if_neg (by omega), if_neg (by omega), if_neg (by omega), if_neg (by omega), if_neg (by omega)]
    exact h
  · have q2 : cd_l M0 c i 0 = 7 := by omega
    have ha := wa (Or.inl (by rw [q2]; decide))
    refine ⟨hin 2 ha, ?_⟩
    rw [hcl 2 ha, er]
    refine sm_Sm_mono (c_putOut h h0 _) (fun r M' hr => ?_)
    obtain ⟨rfl, hr⟩ := hr
    refine ⟨(by trivial), ?_⟩
    rw [mw_w, if_neg (by omega), if_neg (by omega), if_neg (by omega), if_neg (by omega), if_neg (by omega), if_pos q2]
    exact hr
  · have q2 : cd_l M0 c i 0 = 8 := by omega
    have hd := wd (by rw [q2]; decide)
    have ha := wa (Or.inr (by omega))
    refine ⟨hin 2 ha, hin 1 hd, (by trivial), ?_⟩
    rw [mw_w, if_neg (by omega), if_neg (by omega), if_neg (by omega), if_neg (by omega), if_neg (by omega), if_neg (by omega), if_pos q2]
    rw [hcl 1 hd, hcl 2 ha, es]
    exact mw_r h _ _
  · have q2 : cd_l M0 c i 0 = 9 := by omega
    have hd := wd (by rw [q2]; decide)
    have ha := wa (Or.inr (by omega))
    refine ⟨hin 1 hd, hin 2 ha, (by trivial), ?_⟩
    rw [mw_w, if_neg (by omega), if_neg (by omega), if_neg (by omega), if_neg (by omega), if_neg (by omega), if_neg (by omega), if_neg (by omega), if_pos q2]
    rw [hcl 1 hd, hcl 2 ha, er]
    exact mw_s h _ _
end
