-- the class gives registers
section
variable {g : sm_G} {M : sm_M}
theorem tn_r {nb : Nat → Nat → Bool} {rg : Nat → Int} {v : Nat} {r : Int} : ∀ w, tn nb rg v r w = true → ∃ u, u < w ∧ nb v u = true ∧ rg u = r
  | 0, h => by cases h
  | w + 1, h => by
    have h : (tn nb rg v r w || (nb v w && decide (rg w = r))) = true := h
    rw [Bool.or_eq_true, Bool.and_eq_true, decide_eq_true_eq] at h
    rcases h with h | h
    · obtain ⟨u, h1, h2⟩ := tn_r w h
      exact ⟨u, by omega, h2⟩
    · exact ⟨w, by omega, h⟩
theorem c_freeRegister {s : jS} {v : Nat} {l : Int64} (hl : ∀ u, u < 64 → bs_t l u = js_nb s v u) {rg : Nat → Int} (hr : ∀ u, u < 60 → M.1 17 u = Int32.ofInt (rg u)) {k : Nat} (hk : k ≤ 6) (hr2 : ∀ u, -1 ≤ rg u ∧ rg u < (k : Int)) :
    sm_Sm g 24 [.ref 16, .long l, .int (Int32.ofInt (k : Int))] M (sm_P (.int (Int32.ofInt (on_i (fr s k rg v)))) M) := by
  have loop2 : ∀ (d r : Nat) (l4 : Int64), r + d = k → (∀ t : Nat, t < 64 → bs_t l4 t = tn (js_nb s) rg v t 60) → sm_Go g 24 (sm_Fn g (sm_P (.int (Int32.ofInt (on_i (ff (fun r => !tn (js_nb s) rg v r 60) d r)))) M)) 57 [.ref 16, .long l, .null, .int (Int32.ofInt (k : Int)), .long l4, .null, .int (Int32.ofInt (r : Int))] [] M := by
    intro d
    induction d with
    | zero =>
      intro r l4 hd hg
      refine k24_57 (fun _ _ _ _ h => h) ⟨fun _ => ⟨rfl, rfl⟩, fun q => absurd ?_ q⟩
      rw [jn_le (by omega) (by omega) (by omega) (by omega)]; omega
    | succ d ih =>
      intro r l4 hd hg
      refine k24_57 (fun _ _ _ _ h => h) ⟨fun q => ?_, fun _ => ?_⟩
      · rw [jn_le (by omega) (by omega) (by omega) (by omega)] at q; omega
      rw [bs_hb (by omega), hg r (by omega), sm_z0, ff, jn_add, show (r : Int) + 1 = ((r + 1 : Nat) : Int) by omega]
      refine ⟨fun q => ?_, fun q => ?_⟩
      · rw [Bool.not_eq_false] at q
        rw [if_neg (by rw [q]; simp)]
        exact ih (r + 1) l4 (by omega) hg
      · rw [if_pos (by rw [q]; rfl)]
        exact ⟨rfl, rfl⟩
  have loop1 : ∀ (d w : Nat) (l4 : Int64), w + d = 60 → (∀ t : Nat, t < 64 → bs_t l4 t = tn (js_nb s) rg v t w) → sm_Go g 24 (sm_Fn g (sm_P (.int (Int32.ofInt (on_i (fr s k rg v)))) M)) 6 [.ref 16, .long l, .null, .int (Int32.ofInt (k : Int)), .long l4, .null, .int (Int32.ofInt (w : Int))] [] M := by
    intro d
    induction d with
    | zero =>
      intro w l4 hd hg
      have ew : w = 60 := by omega
      subst ew
      refine k24_6 (fun _ _ _ _ h => h) ⟨fun _ => loop2 k 0 l4 (by omega) hg, fun q => absurd ?_ q⟩
      rw [jn_le (by omega) (by omega) (by omega) (by omega)]; omega
    | succ d ih =>
      intro w l4 hd hg
      have rw1 := hr2 w
      have inw : vp_in (Int32.ofInt (w : Int)) 60 := by rw [jn_in (by omega) (by omega)]; omega
      refine k24_6 (fun _ _ _ _ h => h) ⟨fun q => ?_, fun _ => ?_⟩
      · rw [jn_le (by omega) (by omega) (by omega) (by omega)] at q; omega
      rw [bs_hb (by omega), hl w (by omega), sm_z0, show (Int32.ofInt (w : Int)).toNatClampNeg = w by rw [jn_cl (by omega) (by omega)]; omega, hr w (by omega), jn_eq (by omega) (by omega) (by omega) (by omega)]
      have on : ∀ l4 : Int64, (∀ t : Nat, t < 64 → bs_t l4 t = tn (js_nb s) rg v t (w + 1)) → sm_Go g 24 (sm_Fn g (sm_P (.int (Int32.ofInt (on_i (fr s k rg v)))) M)) 48 [.ref 16, .long l, .null, .int (Int32.ofInt (k : Int)), .long l4, .null, .int (Int32.ofInt (w : Int))] [] M := fun l4 h4 => by
        refine k24_48 (fun _ _ _ _ h => h) ?_
        rw [jn_add, show (w : Int) + 1 = ((w + 1 : Nat) : Int) by omega]
        exact ih (w + 1) l4 (by omega) h4
      refine ⟨fun q => on l4 (fun t ht => ?_), fun q => ⟨inw, fun q2 => on l4 (fun t ht => ?_), fun q2 => ⟨inw, on _ (fun t ht => ?_)⟩⟩⟩
      · rw [hg t ht]; show _ = (tn (js_nb s) rg v t w || (js_nb s v w && decide (rg w = t))); rw [q]; simp
      · rw [hg t ht]; show _ = (tn (js_nb s) rg v t w || (js_nb s v w && decide (rg w = t))); rw [decide_eq_false (show ¬ rg w = (t : Int) by omega)]; simp
      · rw [Bool.not_eq_false] at q
        rw [bs_or, hg t ht, bs_bitI (by omega) ht]; show _ = (tn (js_nb s) rg v t w || (js_nb s v w && decide (rg w = t))); rw [q]; simp
  refine sm_entry (Nat.le_of_ble_eq_true rfl) (Nat.le_of_ble_eq_true rfl) ?_
  exact k24_0 (fun _ _ _ _ h => h) (loop1 60 0 _ (by omega) (fun t _ => by rw [bs_0]; rfl))
def gi_ke (M M' : sm_M) : Prop := (∀ p, p ≠ 17 → M'.1 p = M.1 p) ∧ (∀ p, p ≠ 16 → M'.2 p = M.2 p)
theorem c_give {s : jS} (hw : jw s) (hc : jc_is M s) {k : Nat} (hk : k ≤ 6) (hT1 : M.1 16 3 = Int32.ofInt (tk_T s : Nat)) (hT2 : ∀ i, i < tk_T s → M.1 18 i = Int32.ofInt (tk_v s k i : Nat)) :
    sm_Sm g 23 [.ref 16, .ref 12, .int (Int32.ofInt (k : Int))] M (fun o M' => o = none ∧ ((∀ v, v < 60 → M'.1 17 v = Int32.ofInt (gv s k (tk_T s) v)) ∧ ∀ v, v < 64 → bs_t (M'.2 16 4) v = gsp s k (tk_T s) v) ∧ gi_ke M M') := by
  have hT := tk_T60 s
  generalize hQ : (fun (o : Option Value) (M' : sm_M) => o = none ∧ ((∀ v, v < 60 → M'.1 17 v = Int32.ofInt (gv s k (tk_T s) v)) ∧ ∀ v, v < 64 → bs_t (M'.2 16 4) v = gsp s k (tk_T s) v) ∧ gi_ke M M') = Q
  have loop : ∀ (d m : Nat) (M1 : sm_M), m + d = tk_T s → ((∀ v, v < 60 → M1.1 17 v = Int32.ofInt (gv s k m v)) ∧ ∀ v, v < 64 → bs_t (M1.2 16 4) v = gsp s k m v) → gi_ke M M1 → sm_Go g 23 (sm_Fn g Q) 20 [.ref 16, .ref 12, .int (Int32.ofInt (k : Int)), .int (Int32.ofInt ((d : Int) - 1)), .null] [] M1 := by
    intro d
    induction d with
    | zero =>
      intro m M1 hd h1 h2
      have em : m = tk_T s := by omega
      subst em
      refine k23_20 (fun _ _ _ _ h => h) ⟨fun _ => ?_, fun q => absurd ?_ q⟩
      · rw [← hQ]; exact ⟨rfl, h1, h2⟩
      · decide
    | succ d ih =>
      intro m M1 hd h1 h2
      have ed : (((d + 1 : Nat) : Int) - 1) = (d : Int) := by omega
      have ex : tk_v s k d = gv_x s k m := by unfold gv_x; congr 1; omega
      have hx := (tk_in (s := s) (k := k) (i := d) (by omega)).1
      rw [ed]
      have e18 : M1.1 18 d = Int32.ofInt (gv_x s k m : Nat) := by rw [h2.1 18 (by decide), hT2 d (by omega), ex]
      rw [ex] at hx
      have inx : vp_in (Int32.ofInt ((gv_x s k m : Nat) : Int)) 60 := by rw [jn_in (by omega) (by omega)]; omega
      refine k23_20 (fun _ _ _ _ h => h) ⟨fun q => ?_, fun _ => ?_⟩
      · rw [jn_0, jn_lt (by omega) (by omega) (by omega) (by omega)] at q; omega
      rw [show (Int32.ofInt (d : Int)).toNatClampNeg = d by rw [jn_cl (by omega) (by omega)]; omega, e18, show (Int32.ofInt ((gv_x s k m : Nat) : Int)).toNatClampNeg = gv_x s k m by rw [jn_cl (by omega) (by omega)]; omega]
      refine ⟨by rw [jn_in (by omega) (by omega)]; omega, inx, sm_Sm_mono (c_freeRegister (s := s) (v := gv_x s k m) (fun u hu => by rw [h2.2 15 (by decide)]; exact hc.2.1.1 _ hx u hu) h1.1 hk (gv_r m)) (fun o M2 h' => ?_)⟩
      obtain ⟨rfl, rfl⟩ := h'
      show vp_in _ 60 ∧ vp_in _ 60 ∧ (_ → _) ∧ (_ → _)
      have r1 : -1 ≤ on_i (fr s k (gv s k m) (gv_x s k m)) ∧ on_i (fr s k (gv s k m) (gv_x s k m)) < 6 := by
        cases e2 : fr s k (gv s k m) (gv_x s k m) with
        | none => show -1 ≤ (-1 : Int) ∧ (-1 : Int) < 6; omega
        | some r => have := fr_lt e2; show -1 ≤ (r : Int) ∧ (r : Int) < 6; omega
      rw [pk_us, jn_eq (by omega) (by omega) (by omega) (by omega), on_i0]
      have on : ∀ M3 : sm_M, ((∀ v, v < 60 → M3.1 17 v = Int32.ofInt (gv s k (m + 1) v)) ∧ ∀ v, v < 64 → bs_t (M3.2 16 4) v = gsp s k (m + 1) v) → gi_ke M M3 → sm_Go g 23 (sm_Fn g Q) 76 [.ref 16, .ref 12, .int (Int32.ofInt (k : Int)), .int (Int32.ofInt (d : Int)), .int (Int32.ofInt ((gv_x s k m : Nat) : Int))] [] M3 := fun M3 h3 h4 => by
        refine k23_76 (fun _ _ _ _ h => h) ?_
        rw [jn_add, show (d : Int) + -1 = (d : Int) - 1 by omega]
        exact sm_wk (L := [.ref 16, .ref 12, .int (Int32.ofInt (k : Int)), .int (Int32.ofInt ((d : Int) - 1)), .null]) ⟨rfl, rfl, rfl, rfl, trivial⟩ (ih (m + 1) M3 (by omega) h3 h4)
      have rg : ∀ v, v < 60 → upd (M2.1 17) (gv_x s k m) (Int32.ofInt (on_i (fr s k (gv s k m) (gv_x s k m)))) v = Int32.ofInt (gv s k (m + 1) v) := fun v hv => by
        show _ = Int32.ofInt (if v = gv_x s k m then on_i (fr s k (gv s k m) (gv_x s k m)) else gv s k m v)
        by_cases e : v = gv_x s k m
        · rw [if_pos e, e, pk_us]
        · rw [if_neg e, pk_un e]; exact h1.1 v hv
      refine ⟨inx, inx, fun q => on _ ⟨fun v hv => ?_, fun v hv => ?_⟩ ⟨fun p hp => ?_, fun p hp => ?_⟩, fun q => on _ ⟨fun v hv => ?_, fun v hv => ?_⟩ ⟨fun p hp => ?_, fun p hp => ?_⟩⟩
      · rw [sI_s]; exact rg v hv
      · show bs_t (M2.2 16 4) v = (gsp s k m v || (decide (gv_x s k m = v) && decide (fr s k (gv s k m) (gv_x s k m) = none)))
        rw [h1.2 v hv, decide_eq_false q]; simp
      · rw [sI_1 hp]; exact h2.1 p hp
      · exact h2.2 p hp
      · rw [sL_1, sI_s]; exact rg v hv
      · rw [sL_s, pk_uLs, bs_or, h1.2 v hv, bs_bitI (by omega) hv]
        show _ = (gsp s k m v || (decide (gv_x s k m = v) && decide (fr s k (gv s k m) (gv_x s k m) = none)))
        rw [decide_eq_true q, Bool.and_true]
        congr 1
        exact decide_eq_decide.mpr (by omega)
      · rw [sL_1, sI_1 hp]; exact h2.1 p hp
      · rw [sL_2 hp]; exact h2.2 p hp
  refine sm_entry (Nat.le_of_ble_eq_true rfl) (Nat.le_of_ble_eq_true rfl) ?_
  refine k23_0 (fun _ _ _ _ h => h) ?_
  refine sm_Sm_mono (c_fillI (q := 17) (n := 60) (by unfold fi_ok; omega) _) (fun o1 M1 h1 => ?_)
  obtain ⟨rfl, rfl⟩ := h1
  show sm_Go g 23 _ 20 _ _ _
  rw [cI_1 (by decide), hT1, jn_sub]
  refine loop (tk_T s) 0 _ (by omega) ⟨fun v hv => ?_, fun v hv => ?_⟩ ⟨fun p hp => ?_, fun p hp => ?_⟩
  · rw [sL_1]
    rw [cI_s, fl_n, if_pos hv]; rfl
  · rw [sL_s, pk_uLs, bs_0]; rfl
  · rw [sL_1]; exact cI_1 hp
  · rw [sL_2 hp]; rfl
end
