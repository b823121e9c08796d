-- what every code of an allocation keeps to
def cinv (ns : Nat) (Ls : Int → Int → Int) (V S : Int) (l : Int → Int) : Prop :=
  (0 ≤ l 0 ∧ l 0 ≤ 9) ∧ (∀ v, stn l v → 0 ≤ v ∧ v < V) ∧ (l 0 = 5 → 0 ≤ l 2) ∧ (l 0 = 6 → 0 ≤ l 3) ∧ (8 ≤ l 0 → 10 ≤ l 1 ∧ (0 ≤ l 2 ∧ l 2 < S) ∧ l 4 = -1) ∧ (l 0 < 8 → ∃ o : Nat, o < ns ∧ l 4 = (o : Int) ∧ Ls o 0 = l 0)
theorem cinv_mono {ns : Nat} {Ls : Int → Int → Int} {V S V' S' : Int} {l : Int → Int} (h : cinv ns Ls V S l) (hV : V ≤ V') (hS : S ≤ S') : cinv ns Ls V' S' l := by
  obtain ⟨h0, h1, h2, h3, h4, h5⟩ := h
  exact ⟨h0, fun v hv => ⟨(h1 v hv).1, by have := (h1 v hv).2; omega⟩, h2, h3, fun q => ⟨(h4 q).1, by have := (h4 q).2.1; omega, (h4 q).2.2⟩, h5⟩
theorem cinv_ok {ns : Nat} {Ls : Int → Int → Int} {V S : Int} {l : Int → Int} (h : cinv ns Ls V S l) (hV : V ≤ 60) : lv_ok l := by
  obtain ⟨h0, h1, h2, h3, h4, h5⟩ := h
  refine ⟨h0, fun q => ?_, fun q => ?_, fun q => ?_, h2, h3⟩
  · have := h1 _ (Or.inl ⟨q, rfl⟩); omega
  · have := h1 _ (Or.inr (Or.inl ⟨q, rfl⟩)); omega
  · have := h1 _ (Or.inr (Or.inr ⟨q, rfl⟩)); omega
theorem cinv_c {ns : Nat} {Ls : Int → Int → Int} {V S : Int} {l l' : Int → Int} (e : ln_eq l l') (h : cinv ns Ls V S l') : cinv ns Ls V S l := by
  obtain ⟨e0, e1, e2, e3, e4⟩ := e
  unfold cinv stn at *
  rw [e0, e1, e2, e3, e4]; exact h
def wgd (ns : Nat) (Ls : Int → Int → Int) (S : Int) (P : Int → Prop) (V : Int) (l : Int → Int) : Prop := cinv ns Ls V S l ∧ ∀ v, stn l v → v < 10 → P v
def wq (ns : Nat) (Ls : Int → Int → Int) (S : Int) (P : Int → Prop) (t : wT) : Prop := ∀ i : Nat, i < t.1 → wgd ns Ls S P t.2.2 (t.2.1 i)
theorem wq_ap {ns : Nat} {Ls : Int → Int → Int} {S : Int} {P : Int → Prop} {t : wT} (h : wq ns Ls S P t) {l : Int → Int} (hl : wgd ns Ls S P t.2.2 l) : wq ns Ls S P (w_ap t l) := by
  intro i hi
  have hi : i < t.1 + 1 := hi
  show wgd ns Ls S P t.2.2 (if i = t.1 then l else t.2.1 i)
  by_cases e : i = t.1
  · rw [if_pos e]; exact hl
  · rw [if_neg e]; exact h i (by omega)
theorem wq_nv {ns : Nat} {Ls : Int → Int → Int} {S : Int} {P : Int → Prop} {t : wT} (h : wq ns Ls S P t) : wq ns Ls S P (w_nv t) := fun i hi => ⟨cinv_mono (h i hi).1 (by show t.2.2 ≤ t.2.2 + 1; omega) (by omega), (h i hi).2⟩
theorem stn_8 {d a v : Int} (h : stn (mkl 8 d a 0 (-1)) v) : d = v := by
  rcases h with h | h | h
  · exact h.2
  · exact absurd h.1 (show ¬ pf_hv 8 2 = true by decide)
  · exact absurd h.1 (show ¬ pf_hv 8 3 = true by decide)
theorem stn_9 {d a v : Int} (h : stn (mkl 9 d a 0 (-1)) v) : d = v := by
  rcases h with h | h | h
  · exact h.2
  · exact absurd h.1 (show ¬ pf_hv 9 2 = true by decide)
  · exact absurd h.1 (show ¬ pf_hv 9 3 = true by decide)
theorem wgd_8 {ns : Nat} {Ls : Int → Int → Int} {S : Int} {P : Int → Prop} {V d a : Int} (hd : 10 ≤ d ∧ d < V) (ha : 0 ≤ a ∧ a < S) : wgd ns Ls S P V (mkl 8 d a 0 (-1)) := by
  have m0 : mkl 8 d a 0 (-1) 0 = 8 := rfl
  refine ⟨⟨by rw [m0]; omega, fun v hv => ?_, fun q => ?_, fun q => ?_, fun _ => ⟨hd.1, ha, rfl⟩, fun q => ?_⟩, fun v hv h10 => ?_⟩
  · have := stn_8 hv; omega
  · rw [m0] at q; omega
  · rw [m0] at q; omega
  · rw [m0] at q; omega
  · have := stn_8 hv; omega
theorem wgd_9 {ns : Nat} {Ls : Int → Int → Int} {S : Int} {P : Int → Prop} {V d a : Int} (hd : 10 ≤ d ∧ d < V) (ha : 0 ≤ a ∧ a < S) : wgd ns Ls S P V (mkl 9 d a 0 (-1)) := by
  have m0 : mkl 9 d a 0 (-1) 0 = 9 := rfl
  refine ⟨⟨by rw [m0]; omega, fun v hv => ?_, fun q => ?_, fun q => ?_, fun _ => ⟨hd.1, ha, rfl⟩, fun q => ?_⟩, fun v hv h10 => ?_⟩
  · have := stn_9 hv; omega
  · rw [m0] at q; omega
  · rw [m0] at q; omega
  · rw [m0] at q; omega
  · have := stn_9 hv; omega
theorem sl_no {sv : Nat → Int} {l : Int → Int} {j : Int} (h : pf_hv (l 0) j = false) : sl_at sv l j = -1 := by unfold sl_at; rw [if_neg (by rw [h]; decide)]
theorem w_line_q {ns : Nat} {Ls : Int → Int → Int} {S : Int} {sv : Nat → Int} {P : Int → Prop} {t : wT} (h : wq ns Ls S P t) (hV : 10 ≤ t.2.2) {l : Int → Int} {V0 S0 : Int} (hl : cinv ns Ls V0 S0 l) (hV0 : V0 ≤ t.2.2) (hS0 : S0 ≤ S) (hs : ∀ v, stn l v → ¬ sv v.toNat = -1 → 0 ≤ sv v.toNat ∧ sv v.toNat < S) (hP : ∀ v, stn l v → sv v.toNat = -1 → P v) :
    wq ns Ls S P (w_line sv l t) := by
  obtain ⟨h0, h1, h2, h3, h4, h5⟩ := hl
  have st : ∀ j : Int, 1 ≤ j ∧ j < 4 → pf_hv (l 0) j = true → stn l (l j) := fun j hj hv => by
    have hj3 : j = 1 ∨ j = 2 ∨ j = 3 := by omega
    rcases hj3 with rfl | rfl | rfl
    · exact Or.inl ⟨hv, rfl⟩
    · exact Or.inr (Or.inl ⟨hv, rfl⟩)
    · exact Or.inr (Or.inr ⟨hv, rfl⟩)
  have sr : ∀ j : Int, 1 ≤ j ∧ j < 4 → ¬ sl_at sv l j = -1 → 0 ≤ sl_at sv l j ∧ sl_at sv l j < S := fun j hj hn => by
    unfold sl_at at hn ⊢
    by_cases e : pf_hv (l 0) j = true
    · rw [if_pos e] at hn ⊢
      exact hs _ (st j hj e) hn
    · rw [if_neg e] at hn; exact absurd rfl hn
  have qld : ∀ (j : Int) (t' : wT), 1 ≤ j ∧ j < 4 → 10 ≤ t'.2.2 → wq ns Ls S P t' → wq ns Ls S P (w_ld sv l j t') := fun j t' hj h10 hq => by
    unfold w_ld
    by_cases e : sl_at sv l j = -1
    · rw [if_pos e]; exact hq
    · rw [if_neg e]
      exact wq_ap (wq_nv hq) (wgd_8 ⟨h10, by show t'.2.2 < t'.2.2 + 1; omega⟩ (sr j hj e))
  have n2 := w_ld_n sv l 2 t
  have q2 := qld 2 t (by omega) hV h
  have n3 := w_ld_n sv l 3 (w_ld sv l 2 t)
  have q3 := qld 3 _ (by omega) (by omega) q2
  have qb : wq ns Ls S P (w_tb sv l t) := by unfold w_tb; split <;> assumption
  have nb := w_tb_n sv l t
  have ge := gl_eq sv l
  have vb : t.2.2 ≤ (w_tb sv l t).2.2 := by
    unfold w_tb; split <;> omega
  have qd : wq ns Ls S P (w_td sv l t) := by unfold w_td; split; exact qb; exact wq_nv qb
  have vd : t.2.2 ≤ (w_td sv l t).2.2 := by
    unfold w_td; split
    · exact vb
    · show t.2.2 ≤ (w_tb sv l t).2.2 + 1; omega
  -- what may stand in the line
  have good : ∀ (j x : Int), 1 ≤ j ∧ j < 4 → pf_hv (l 0) j = true → (sl_at sv l j = -1 ∧ x = l j) ∨ (10 ≤ x ∧ x < (w_td sv l t).2.2) → (0 ≤ x ∧ x < (w_td sv l t).2.2) ∧ (x < 10 → P x) := fun j x hj hv hx => by
    rcases hx with ⟨e1, e2⟩ | e
    · have hst := st j hj hv
      rw [← e2] at hst
      have := h1 x hst
      refine ⟨by omega, fun _ => hP x hst ?_⟩
      unfold sl_at at e1
      rw [if_pos hv, ← e2] at e1
      exact e1
    · exact ⟨by omega, fun q => by omega⟩
  have ca : (sl_at sv l 2 = -1 ∧ w_lv sv l 2 t = l 2) ∨ (10 ≤ w_lv sv l 2 t ∧ w_lv sv l 2 t < (w_td sv l t).2.2) := by
    unfold w_lv
    by_cases e : sl_at sv l 2 = -1
    · rw [if_pos e]; exact Or.inl ⟨e, rfl⟩
    · rw [if_neg e]
      have g2 : gl_j sv l 2 = 1 := by unfold gl_j; rw [if_neg e]
      have : t.2.2 + 1 ≤ (w_tb sv l t).2.2 := by unfold w_tb; split <;> omega
      have : (w_tb sv l t).2.2 ≤ (w_td sv l t).2.2 := by
        unfold w_td; split
        · exact Int.le_refl _
        · show (w_tb sv l t).2.2 ≤ (w_tb sv l t).2.2 + 1; omega
      exact Or.inr (by omega)
  have cb : (sl_at sv l 3 = -1 ∧ w_b sv l t = l 3) ∨ (10 ≤ w_b sv l t ∧ w_b sv l t < (w_td sv l t).2.2) := by
    have vbd : (w_tb sv l t).2.2 ≤ (w_td sv l t).2.2 := by
      unfold w_td; split
      · exact Int.le_refl _
      · show (w_tb sv l t).2.2 ≤ (w_tb sv l t).2.2 + 1; omega
    unfold w_b
    by_cases e : sl_tw sv l = true
    · rw [if_pos e]
      have e2 := e
      unfold sl_tw at e2
      simp only [Bool.and_eq_true, decide_eq_true_eq] at e2
      rcases ca with c | c
      · exact absurd c.1 e2.1
      · exact Or.inr c
    · rw [if_neg e]
      unfold w_lv
      by_cases e3 : sl_at sv l 3 = -1
      · rw [if_pos e3]; exact Or.inl ⟨e3, rfl⟩
      · rw [if_neg e3]
        have g3 : gl_j sv l 3 = 1 := by unfold gl_j; rw [if_neg e3]
        have : (w_tb sv l t).2.2 = (w_ld sv l 3 (w_ld sv l 2 t)).2.2 := by unfold w_tb; rw [if_neg e]
        exact Or.inr (by omega)
  have cd : (sl_at sv l 1 = -1 ∧ w_d sv l t = l 1) ∨ (10 ≤ w_d sv l t ∧ w_d sv l t < (w_td sv l t).2.2) := by
    unfold w_d w_td
    by_cases e : sl_at sv l 1 = -1
    · rw [if_pos e]; exact Or.inl ⟨e, rfl⟩
    · rw [if_neg e, if_neg e]
      refine Or.inr ⟨by omega, ?_⟩
      show (w_tb sv l t).2.2 < (w_tb sv l t).2.2 + 1; omega
  have ql : wq ns Ls S P (w_tl sv l t) := by
    unfold w_tl
    refine wq_ap qd ⟨⟨h0, fun v hv => ?_, fun q => ?_, fun q => ?_, fun q => ?_, fun q => h5 q⟩, fun v hv h10 => ?_⟩
    · rcases hv with hv | hv | hv
      · rw [← hv.2]; exact (good 1 _ (by omega) hv.1 cd).1
      · rw [← hv.2]; exact (good 2 _ (by omega) hv.1 ca).1
      · rw [← hv.2]; exact (good 3 _ (by omega) hv.1 cb).1
    · have q : l 0 = 5 := q
      have e : sl_at sv l 2 = -1 := sl_no (by rw [q]; rfl)
      show 0 ≤ w_lv sv l 2 t
      rw [w_lv_y e]; exact h2 q
    · have q : l 0 = 6 := q
      have e : sl_at sv l 3 = -1 := sl_no (by rw [q]; rfl)
      show 0 ≤ w_b sv l t
      unfold w_b
      rw [if_neg (by unfold sl_tw; rw [decide_eq_false (p := ¬ sl_at sv l 3 = -1) (fun z => z e)]; simp), w_lv_y e]
      exact h3 q
    · have q : 8 ≤ l 0 := q
      obtain ⟨a1, a2, a3⟩ := h4 q
      have e : sl_at sv l 2 = -1 := by
        apply sl_no
        have : l 0 = 8 ∨ l 0 = 9 := by omega
        rcases this with e | e <;> rw [e] <;> rfl
      refine ⟨?_, ?_, a3⟩
      · show 10 ≤ w_d sv l t
        rcases cd with c | c
        · rw [c.2]; exact a1
        · exact c.1
      · show 0 ≤ w_lv sv l 2 t ∧ w_lv sv l 2 t < S
        rw [w_lv_y e]; omega
    · rcases hv with hv | hv | hv
      · rw [← hv.2] at h10 ⊢; exact (good 1 _ (by omega) hv.1 cd).2 h10
      · rw [← hv.2] at h10 ⊢; exact (good 2 _ (by omega) hv.1 ca).2 h10
      · rw [← hv.2] at h10 ⊢; exact (good 3 _ (by omega) hv.1 cb).2 h10
  unfold w_line
  by_cases e : sl_at sv l 1 = -1
  · rw [if_pos e]; exact ql
  · rw [if_neg e]
    rcases cd with c | c
    · exact absurd c.1 e
    · exact wq_ap ql (wgd_9 c (sr 1 (by omega) e))
theorem wa_q {ns : Nat} {Ls : Int → Int → Int} {S : Int} {sv : Nat → Int} {P : Int → Prop} {L : Int → Int → Int} {n : Nat} {V S0 : Int} (hV : 10 ≤ V) (hS0 : S0 ≤ S) (hl : ∀ i : Nat, i < n → cinv ns Ls V S0 (L i)) (hs : ∀ i : Nat, i < n → ∀ v, stn (L i) v → ¬ sv v.toNat = -1 → 0 ≤ sv v.toNat ∧ sv v.toNat < S) (hP : ∀ i : Nat, i < n → ∀ v, stn (L i) v → sv v.toNat = -1 → P v) : ∀ m, m ≤ n → wq ns Ls S P (wa sv L V m)
  | 0, _ => fun i hi => absurd hi (by show ¬ i < 0; omega)
  | m + 1, h => by
    have := (wa_n sv L V m).2
    exact w_line_q (wa_q hV hS0 hl hs hP m (by omega)) (by omega) (hl m (by omega)) (by omega) hS0 (hs m (by omega)) (hP m (by omega))
theorem fx_stn {St : Nat → Int} {n : Int} {l : Int → Int} (v : Int) : stn (fx St n l) v ↔ stn l v := by
  have f0 : fx St n l 0 = l 0 := by
    unfold fx; rw [if_neg]
    unfold pf_tc; split
    · omega
    · split <;> omega
  have f1 : fx St n l 1 = l 1 := by
    unfold fx; rw [if_neg]
    unfold pf_tc; split
    · omega
    · split <;> omega
  have f2 : pf_hv (l 0) 2 = true → fx St n l 2 = l 2 := fun q => by
    unfold fx; rw [if_neg]
    intro z
    unfold pf_tc at z
    by_cases e : l 0 = 5
    · rw [e] at q; exact absurd q (by decide)
    · rw [if_neg e] at z; split at z <;> omega
  have f3 : pf_hv (l 0) 3 = true → fx St n l 3 = l 3 := fun q => by
    unfold fx; rw [if_neg]
    intro z
    unfold pf_tc at z
    by_cases e : l 0 = 5
    · rw [if_pos e] at z; omega
    · rw [if_neg e] at z
      by_cases e2 : l 0 = 6
      · rw [e2] at q; exact absurd q (by decide)
      · rw [if_neg e2] at z; omega
  unfold stn
  rw [f0, f1]
  constructor
  · rintro (h | h | h)
    · exact Or.inl h
    · exact Or.inr (Or.inl ⟨h.1, by rw [← f2 h.1]; exact h.2⟩)
    · exact Or.inr (Or.inr ⟨h.1, by rw [← f3 h.1]; exact h.2⟩)
  · rintro (h | h | h)
    · exact Or.inl h
    · exact Or.inr (Or.inl ⟨h.1, by rw [f2 h.1]; exact h.2⟩)
    · exact Or.inr (Or.inr ⟨h.1, by rw [f3 h.1]; exact h.2⟩)
theorem fx_inv {ns : Nat} {Ls : Int → Int → Int} {V S : Int} {St : Nat → Int} (hSt : ∀ t, 0 ≤ St t) {n : Int} {l : Int → Int} (h : cinv ns Ls V S l) : cinv ns Ls V S (fx St n l) := by
  obtain ⟨h0, h1, h2, h3, h4, h5⟩ := h
  have tc : pf_tc (l 0) = if l 0 = 5 then 2 else if l 0 = 6 then 3 else -1 := rfl
  have f0 : fx St n l 0 = l 0 := by unfold fx; rw [tc, if_neg (by split; omega; split <;> omega)]
  have f1 : fx St n l 1 = l 1 := by unfold fx; rw [tc, if_neg (by split; omega; split <;> omega)]
  have f4 : fx St n l 4 = l 4 := by unfold fx; rw [tc, if_neg (by split; omega; split <;> omega)]
  refine ⟨by rw [f0]; exact h0, fun v hv => h1 v ((fx_stn v).mp hv), fun q => ?_, fun q => ?_, fun q => ?_, fun q => ?_⟩
  · rw [f0] at q
    unfold fx
    rw [tc, if_pos q, if_pos rfl]; exact hSt _
  · rw [f0] at q
    unfold fx
    rw [tc, if_neg (show ¬ l 0 = 5 by omega), if_pos q, if_pos rfl]; exact hSt _
  · rw [f0] at q
    rw [f1, f4]
    have f2 : fx St n l 2 = l 2 := by unfold fx; rw [tc, if_neg (by rw [if_neg (by omega), if_neg (by omega)]; omega)]
    rw [f2]; exact h4 q
  · rw [f0] at q
    rw [f0, f4]; exact h5 q
theorem bct_sub {f h p : Nat → Bool} : ∀ k, (∀ v, v < k → f v = true → p v = true ∧ h v = false) → (∀ v, v < k → h v = true → p v = true) → bct f k + bct h k ≤ bct p k
  | 0, _, _ => Nat.le_refl _
  | k + 1, a, b => by
    have ih := bct_sub (f := f) (h := h) (p := p) k (fun v hv => a v (by omega)) (fun v hv => b v (by omega))
    have a := a k (by omega)
    have b := b k (by omega)
    show bct f k + (if f k = true then 1 else 0) + (bct h k + (if h k = true then 1 else 0)) ≤ bct p k + (if p k = true then 1 else 0)
    by_cases e1 : f k = true
    · obtain ⟨c1, c2⟩ := a e1
      rw [if_pos e1, c1, c2]; simp; omega
    · rw [if_neg e1]
      by_cases e2 : h k = true
      · rw [if_pos e2, b e2]; simp; omega
      · rw [if_neg e2]; omega
def sc (L : Int → Int → Int) (n : Nat) : Nat := bct (fun v => decide (0 < gr_c L n v)) 10
