-- the reference rewrites the code
section
variable {g : sm_G} {M : sm_M}
theorem c_copy {a b : Int} (ha : 0 ≤ a ∧ a < 112) (hb : 0 ≤ b ∧ b < 112) : sm_Sm g 82 [.ref 35, .int (Int32.ofInt a), .int (Int32.ofInt b)] M (fun o M' => o = none ∧ M' = st_M M b.toNat (M.1 36 a.toNat) (M.1 37 a.toNat) (M.1 38 a.toNat) (M.1 39 a.toNat) (M.1 40 a.toNat)) := by
  have ia : vp_in (Int32.ofInt a) 112 := by rw [jn_in (by omega) (by omega)]; omega
  refine sm_entry (Nat.le_of_ble_eq_true rfl) (Nat.le_of_ble_eq_true rfl) ?_
  refine k82_0 (fun _ _ _ _ h => h) ?_
  rw [jn_cl (by omega) (by omega)]
  refine ⟨ia, ia, ia, ia, ia, sm_Sm_mono (c_set hb) (fun o M1 h1 => ?_)⟩
  obtain ⟨rfl, h1⟩ := h1
  exact ⟨rfl, h1⟩
/-- two lines with the same columns -/
def ln_eq (l l' : Int → Int) : Prop := l 0 = l' 0 ∧ l 1 = l' 1 ∧ l 2 = l' 2 ∧ l 3 = l' 3 ∧ l 4 = l' 4
theorem ln_sl {l l' : Int → Int} (h : ln_eq l l') (sv : Nat → Int) : sl_at sv l 1 = sl_at sv l' 1 ∧ sl_at sv l 2 = sl_at sv l' 2 ∧ sl_at sv l 3 = sl_at sv l' 3 := by
  obtain ⟨h0, h1, h2, h3, h4⟩ := h
  unfold sl_at
  rw [h0, h1, h2, h3]; exact ⟨rfl, rfl, rfl⟩
theorem ln_w {l l' : Int → Int} (h : ln_eq l l') (sv : Nat → Int) (t : wT) : w_line sv l t = w_line sv l' t ∧ gl sv l = gl sv l' := by
  obtain ⟨s1, s2, s3⟩ := ln_sl h sv
  obtain ⟨h0, h1, h2, h3, h4⟩ := h
  unfold w_line w_tl w_td w_d w_b w_tb w_lv w_ld gl gl_j sl_tw
  rw [s1, s2, s3, h0, h1, h2, h3, h4]; exact ⟨rfl, rfl⟩
theorem ln_ok {l l' : Int → Int} (h : ln_eq l l') (hk : lv_ok l') : lv_ok l := by
  obtain ⟨h0, h1, h2, h3, h4⟩ := h
  unfold lv_ok
  rw [h0, h1, h2, h3]; exact hk
def ta (sp : Nat → Bool) (ld : Nat → Int) : Nat → Bool
  | 0 => true
  | w + 1 => ta sp ld w && !(sp w && jt ld w 60)
theorem ta_of {sp : Nat → Bool} {ld : Nat → Int} : ∀ w, ta sp ld w = true → ∀ v, v < w → sp v = true → jt ld v 60 = false
  | 0, _, v, hv, _ => by omega
  | w + 1, h, v, hv, hs => by
    have h : (ta sp ld w && !(sp w && jt ld w 60)) = true := h
    rw [Bool.and_eq_true] at h
    by_cases e : v = w
    · rw [e] at hs ⊢
      have := h.2
      rw [hs] at this
      simpa using this
    · exact ta_of w h.1 v (by omega) hs
def rA_fr (M0 M' : sm_M) : Prop := (∀ p, (p < 35 ∨ 40 < p) → p ≠ 51 → p ≠ 52 → M'.1 p = M0.1 p) ∧ (∀ i, i ≠ 7 → i ≠ 8 → i ≠ 21 → i ≠ 22 → i ≠ 26 → M'.1 35 i = M0.1 35 i) ∧ (∀ j, j < 5 → ∀ i, i < 16 → M'.1 (36 + j) i = M0.1 (36 + j) i) ∧ M'.2 = M0.2
def rA_ok (M0 : sm_M) (s : jS) (sp : Nat → Bool) (n : Nat) (V S : Int) : Bool := ta sp (js_ld s) 60 && (decide (n + wg (svv (js_ld s) sp S 60) (rf_L M0 16) n ≤ 48) && decide (V + (wg (svv (js_ld s) sp S 60) (rf_L M0 16) n : Nat) ≤ 60))
def rA_post (M0 M' : sm_M) (s : jS) (sp : Nat → Bool) (n : Nat) (V S : Int) : Prop :=
  M'.1 35 7 = Int32.ofInt ((wa (svv (js_ld s) sp S 60) (rf_L M0 16) V n).1 : Nat) ∧ (∀ i : Nat, i < (wa (svv (js_ld s) sp S 60) (rf_L M0 16) V n).1 → ∀ j : Nat, j < 5 → (M'.1 (36 + j) (16 + i)).toInt = fx (fun t => ((wa (svv (js_ld s) sp S 60) (rf_L M0 16) V t).1 : Int)) n ((wa (svv (js_ld s) sp S 60) (rf_L M0 16) V n).2.1 i) (j : Int)) ∧ M'.1 35 21 = Int32.ofInt (wa (svv (js_ld s) sp S 60) (rf_L M0 16) V n).2.2 ∧ M'.1 35 22 = Int32.ofInt (S + (bct sp 60 : Nat))
theorem c_rewriteAll {M0 : sm_M} {s : jS} (hw : jw s) (hm : jm_is M0 s) {n : Nat} (hn : M0.1 35 7 = Int32.ofInt (n : Int)) (hn2 : n ≤ 48) (hk : ∀ i : Nat, i < n → lv_ok (rf_L M0 16 i)) {sp : Nat → Bool} (hsp : ∀ v, v < 60 → M0.1 50 v = sm_z (sp v)) (hsg : ∀ v, sp v = true → js_gr s v = true) {V S : Int} (hV : M0.1 35 21 = Int32.ofInt V) (hV2 : 0 ≤ V ∧ V ≤ 60) (hS : M0.1 35 22 = Int32.ofInt S) (hS2 : 0 ≤ S ∧ S ≤ 20)
    (h9 : ta sp (js_ld s) 60 = true → ∀ i : Nat, i < n → rf_L M0 16 i 0 = 9 → svv (js_ld s) sp S 60 (rf_L M0 16 i 1).toNat = -1)
    (hR : ∀ i : Nat, i < (wa (svv (js_ld s) sp S 60) (rf_L M0 16) V n).1 → rl_ok ((wa (svv (js_ld s) sp S 60) (rf_L M0 16) V n).2.1 i)) :
    sm_Sm g 103 [.ref 35] M0 (fun o M' => o = some (.int (sm_z (rA_ok M0 s sp n V S))) ∧ rA_fr M0 M' ∧ (rA_ok M0 s sp n V S = true → rA_post M0 M' s sp n V S)) := by
  obtain ⟨nr, mi, mk, m5, m6, mj⟩ := hm
  generalize hQ : (fun (o : Option Value) (M' : sm_M) => o = some (.int (sm_z (rA_ok M0 s sp n V S))) ∧ rA_fr M0 M' ∧ (rA_ok M0 s sp n V S = true → rA_post M0 M' s sp n V S)) = Q
  have hwa := fun i => wa_n (svv (js_ld s) sp S 60) (rf_L M0 16) V i
  have hmono := fun i => wg_mono (svv (js_ld s) sp S 60) (rf_L M0 16) (n - i) i
  unfold rA_ok rA_post at hQ
  generalize hsv : svv (js_ld s) sp S 60 = sv at *
  generalize hL : rf_L M0 16 = L at *
  have bS := fun w => bct_le sp w
  -- it fails
  have fail : (ta sp (js_ld s) 60 && (decide (n + wg sv L n ≤ 48) && decide (V + (wg sv L n : Nat) ≤ 60))) = false → ∀ (M1 : sm_M) (x1 : Int32), rA_fr M0 M1 → M1.1 35 26 = Int32.ofInt 0 → sm_Go g 103 (sm_Fn g Q) 118 [.ref 35, .int x1, .null, .null] [] M1 := fun e M1 x1 hf h26 => by
    refine k103_118 (fun _ _ _ _ h => h) ⟨fun q => absurd h26 q, fun _ => ⟨Or.inl rfl, ?_⟩⟩
    rw [← hQ, e, ← sm_o0]
    exact ⟨rfl, hf, fun z => by cases z⟩
  -- the jumps
  have loop3 : (ta sp (js_ld s) 60 && (decide (n + wg sv L n ≤ 48) && decide (V + (wg sv L n : Nat) ≤ 60))) = true → n + wg sv L n ≤ 48 → ∀ (d i : Nat) (M1 : sm_M), i + d = (wa sv L V n).1 → rA_fr M0 M1 → M1.1 35 7 = Int32.ofInt (n : Int) → M1.1 35 8 = Int32.ofInt ((wa sv L V n).1 : Int) → M1.1 35 21 = Int32.ofInt (wa sv L V n).2.2 → M1.1 35 22 = Int32.ofInt (S + (bct sp 60 : Nat)) → (∀ t, t ≤ n → M1.1 52 t = Int32.ofInt ((wa sv L V t).1 : Nat)) → (∀ a : Nat, a < (wa sv L V n).1 → ∀ j : Nat, j < 5 → (M1.1 (36 + j) (64 + a)).toInt = (wa sv L V n).2.1 a (j : Int)) → (∀ a : Nat, a < i → ∀ j : Nat, j < 5 → (M1.1 (36 + j) (16 + a)).toInt = fx (fun t => ((wa sv L V t).1 : Int)) n ((wa sv L V n).2.1 a) (j : Int)) → sm_Go g 103 (sm_Fn g Q) 142 [.ref 35, .int (Int32.ofInt (i : Int)), .null, .null] [] M1 := by
    intro hok hN d
    have hN2 := (hwa n).1
    generalize hF : wa sv L V n = F at *
    induction d with
    | zero =>
      intro i M1 hd hf h7 h8 h21 h22 h52 h64 h16
      refine k103_142 (fun _ _ _ _ h => h) ⟨fun _ => ⟨Or.inr rfl, ?_⟩, fun q => absurd ?_ q⟩
      · rw [← hQ, hok, ← sm_o1, h8]
        refine ⟨rfl, ⟨fun p p1 p2 p3 => ?_, fun t t1 t2 t3 t4 t5 => ?_, fun j hj t ht => ?_, hf.2.2.2⟩, fun _ => ⟨?_, fun a ha j hj => ?_, ?_, ?_⟩⟩
        · rw [sI_1 (by omega)]; exact hf.1 p p1 p2 p3
        · rw [sI_s, pk_un t1]; exact hf.2.1 t t1 t2 t3 t4 t5
        · rw [sI_1 (by omega)]; exact hf.2.2.1 j hj t ht
        · rw [sI_s, pk_us]
        · rw [sI_1 (by omega)]; exact h16 a (by omega) j hj
        · rw [sI_s, pk_un (by decide)]; exact h21
        · rw [sI_s, pk_un (by decide)]; exact h22
      · rw [h8, jn_le (by omega) (by omega) (by omega) (by omega)]; omega
    | succ d ih =>
      intro i M1 hd hf h7 h8 h21 h22 h52 h64 h16
      refine k103_142 (fun _ _ _ _ h => h) ⟨fun q => ?_, fun _ => ?_⟩
      · rw [h8, jn_le (by omega) (by omega) (by omega) (by omega)] at q; omega
      rw [jn_add, jn_add]
      refine sm_Sm_mono (c_copy (a := 64 + (i : Int)) (b := 16 + (i : Int)) (by omega) (by omega)) (fun o M2 h2 => ?_)
      obtain ⟨rfl, h2⟩ := h2
      rw [show (16 + (i : Int)).toNat = 16 + i by omega, show (64 + (i : Int)).toNat = 64 + i by omega] at h2
      have ix : vp_in (Int32.ofInt (16 + (i : Int))) 112 := by rw [jn_in (by omega) (by omega)]; omega
      have clx : (Int32.ofInt (16 + (i : Int))).toNatClampNeg = 16 + i := by rw [jn_cl (by omega) (by omega)]; omega
      have e64 : ∀ j : Nat, j < 5 → M1.1 (36 + j) (64 + i) = Int32.ofInt (F.2.1 i (j : Int)) := fun j hj => by rw [← h64 i (by omega) j hj, jn_self]
      have a0 : M2.1 36 = upd (M1.1 36) (16 + i) (Int32.ofInt (F.2.1 i 0)) := by rw [h2, (st_at).1]; rw [show M1.1 36 (64 + i) = Int32.ofInt (F.2.1 i 0) from e64 0 (by omega)]
      have a1 : M2.1 37 = upd (M1.1 37) (16 + i) (Int32.ofInt (F.2.1 i 1)) := by rw [h2, (st_at).2.1]; rw [show M1.1 37 (64 + i) = Int32.ofInt (F.2.1 i 1) from e64 1 (by omega)]
      have a2 : M2.1 38 = upd (M1.1 38) (16 + i) (Int32.ofInt (F.2.1 i 2)) := by rw [h2, (st_at).2.2.1]; rw [show M1.1 38 (64 + i) = Int32.ofInt (F.2.1 i 2) from e64 2 (by omega)]
      have a3 : M2.1 39 = upd (M1.1 39) (16 + i) (Int32.ofInt (F.2.1 i 3)) := by rw [h2, (st_at).2.2.2.1]; rw [show M1.1 39 (64 + i) = Int32.ofInt (F.2.1 i 3) from e64 3 (by omega)]
      have a4 : M2.1 40 = upd (M1.1 40) (16 + i) (Int32.ofInt (F.2.1 i 4)) := by rw [h2, (st_at).2.2.2.2]; rw [show M1.1 40 (64 + i) = Int32.ofInt (F.2.1 i 4) from e64 4 (by omega)]
      have ao : ∀ p, (p < 36 ∨ 40 < p) → M2.1 p = M1.1 p := fun p hp => by rw [h2]; exact st_o hp
      have am : M2.2 = M1.2 := by rw [h2]; rfl
      have Rr : ∀ j : Nat, j < 5 → -2147483648 ≤ F.2.1 i (j : Int) ∧ F.2.1 i (j : Int) < 2147483648 := fun j hj => by rw [← h64 i (by omega) j hj]; exact ⟨Int32.le_toInt _, Int32.toInt_lt _⟩
      have R0 := Rr 0 (by omega)
      have R2 := Rr 2 (by omega)
      have R3 := Rr 3 (by omega)
      have R0' : -2147483648 ≤ F.2.1 i 0 ∧ F.2.1 i 0 < 2147483648 := R0
      have R2' : -2147483648 ≤ F.2.1 i 2 ∧ F.2.1 i 2 < 2147483648 := R2
      have R3' : -2147483648 ≤ F.2.1 i 3 ∧ F.2.1 i 3 < 2147483648 := R3
      have ok := hR i (by omega)
      have b36 : M2.1 36 (16 + i) = Int32.ofInt (F.2.1 i 0) := by rw [a0, pk_us]
      have b38 : M2.1 38 (16 + i) = Int32.ofInt (F.2.1 i 2) := by rw [a2, pk_us]
      have b39 : M2.1 39 (16 + i) = Int32.ofInt (F.2.1 i 3) := by rw [a3, pk_us]
      have St : ∀ t : Int, 0 ≤ t → t ≤ n → M2.1 52 t.toNat = Int32.ofInt ((wa sv L V t.toNat).1 : Nat) := fun t t1 t2 => by rw [ao 52 (by omega)]; exact h52 _ (by omega)
      -- the two columns
      have f277 : ∀ (y2 y3 : Int32) (x2 x3 : Int32), y2.toInt = fx (fun t => ((wa sv L V t).1 : Int)) n (F.2.1 i) 2 → y3.toInt = fx (fun t => ((wa sv L V t).1 : Int)) n (F.2.1 i) 3 → sm_Go g 103 (sm_Fn g Q) 277 [.ref 35, .int (Int32.ofInt (i : Int)), .int x2, .int x3] [.int y3, .int (Int32.ofInt (16 + (i : Int))), .ref 39] (sm_sI M2 38 (16 + i) y2) := by
        intro y2 y3 x2 x3 e2 e3
        refine k103_277 (fun _ _ _ _ h => h) ⟨ix, ?_⟩
        rw [clx, jn_add, show (i : Int) + 1 = ((i + 1 : Nat) : Int) by omega]
        refine sm_wk (L := [.ref 35, .int (Int32.ofInt ((i + 1 : Nat) : Int)), .null, .null]) ⟨rfl, rfl, trivial⟩ (ih (i + 1) _ (by omega) ⟨fun p p1 p2 p3 => ?_, fun t t1 t2 t3 t4 t5 => ?_, fun j hj t ht => ?_, ?_⟩ ?_ ?_ ?_ ?_ (fun t ht => ?_) (fun a ha j hj => ?_) (fun a ha j hj => ?_))
        · rw [sI_1 (by omega), sI_1 (by omega), ao p (by omega)]; exact hf.1 p p1 p2 p3
        · rw [sI_1 (by decide), sI_1 (by decide), ao 35 (by omega)]; exact hf.2.1 t t1 t2 t3 t4 t5
        · rw [← hf.2.2.1 j hj t ht]
          have hj5 : j = 0 ∨ j = 1 ∨ j = 2 ∨ j = 3 ∨ j = 4 := by omega
          rcases hj5 with e | e | e | e | e <;> subst e
          · show (sm_sI (sm_sI M2 38 (16 + i) y2) 39 (16 + i) y3).1 36 t = M1.1 36 t
            rw [sI_1 (by decide), sI_1 (by decide), a0, pk_un (by omega)]
          · show (sm_sI (sm_sI M2 38 (16 + i) y2) 39 (16 + i) y3).1 37 t = M1.1 37 t
            rw [sI_1 (by decide), sI_1 (by decide), a1, pk_un (by omega)]
          · show (sm_sI (sm_sI M2 38 (16 + i) y2) 39 (16 + i) y3).1 38 t = M1.1 38 t
            rw [sI_1 (by decide), sI_s, pk_un (by omega), a2, pk_un (by omega)]
          · show (sm_sI (sm_sI M2 38 (16 + i) y2) 39 (16 + i) y3).1 39 t = M1.1 39 t
            rw [sI_s, pk_un (by omega), sI_1 (by decide), a3, pk_un (by omega)]
          · show (sm_sI (sm_sI M2 38 (16 + i) y2) 39 (16 + i) y3).1 40 t = M1.1 40 t
            rw [sI_1 (by decide), sI_1 (by decide), a4, pk_un (by omega)]
        · show M2.2 = M0.2; rw [am]; exact hf.2.2.2
        · rw [sI_1 (by decide), sI_1 (by decide), ao 35 (by omega)]; exact h7
        · rw [sI_1 (by decide), sI_1 (by decide), ao 35 (by omega)]; exact h8
        · rw [sI_1 (by decide), sI_1 (by decide), ao 35 (by omega)]; exact h21
        · rw [sI_1 (by decide), sI_1 (by decide), ao 35 (by omega)]; exact h22
        · rw [sI_1 (by decide), sI_1 (by decide), ao 52 (by omega)]; exact h52 t ht
        · rw [← h64 a ha j hj]
          have hj5 : j = 0 ∨ j = 1 ∨ j = 2 ∨ j = 3 ∨ j = 4 := by omega
          congr 1
          rcases hj5 with e | e | e | e | e <;> subst e
          · show (sm_sI (sm_sI M2 38 (16 + i) y2) 39 (16 + i) y3).1 36 (64 + a) = M1.1 36 (64 + a)
            rw [sI_1 (by decide), sI_1 (by decide), a0, pk_un (by omega)]
          · show (sm_sI (sm_sI M2 38 (16 + i) y2) 39 (16 + i) y3).1 37 (64 + a) = M1.1 37 (64 + a)
            rw [sI_1 (by decide), sI_1 (by decide), a1, pk_un (by omega)]
          · show (sm_sI (sm_sI M2 38 (16 + i) y2) 39 (16 + i) y3).1 38 (64 + a) = M1.1 38 (64 + a)
            rw [sI_1 (by decide), sI_s, pk_un (by omega), a2, pk_un (by omega)]
          · show (sm_sI (sm_sI M2 38 (16 + i) y2) 39 (16 + i) y3).1 39 (64 + a) = M1.1 39 (64 + a)
            rw [sI_s, pk_un (by omega), sI_1 (by decide), a3, pk_un (by omega)]
          · show (sm_sI (sm_sI M2 38 (16 + i) y2) 39 (16 + i) y3).1 40 (64 + a) = M1.1 40 (64 + a)
            rw [sI_1 (by decide), sI_1 (by decide), a4, pk_un (by omega)]
        · have hj5 : j = 0 ∨ j = 1 ∨ j = 2 ∨ j = 3 ∨ j = 4 := by omega
          have tcr : pf_tc (F.2.1 i 0) = -1 ∨ pf_tc (F.2.1 i 0) = 2 ∨ pf_tc (F.2.1 i 0) = 3 := by unfold pf_tc; split <;> (try split) <;> omega
          by_cases ea : a = i
          · subst ea
            rcases hj5 with e | e | e | e | e <;> subst e
            · show ((sm_sI (sm_sI M2 38 (16 + a) y2) 39 (16 + a) y3).1 36 (16 + a)).toInt = fx _ n (F.2.1 a) 0
              rw [sI_1 (by decide), sI_1 (by decide), b36, jn_to R0'.1 R0'.2, fx, if_neg (by omega)]
            · show ((sm_sI (sm_sI M2 38 (16 + a) y2) 39 (16 + a) y3).1 37 (16 + a)).toInt = fx _ n (F.2.1 a) 1
              have R1 := Rr 1 (by omega)
              rw [sI_1 (by decide), sI_1 (by decide), a1, pk_us, fx, if_neg (by omega)]
              exact jn_to R1.1 R1.2
            · show ((sm_sI (sm_sI M2 38 (16 + a) y2) 39 (16 + a) y3).1 38 (16 + a)).toInt = fx _ n (F.2.1 a) 2
              rw [sI_1 (by decide), sI_s, pk_us]; exact e2
            · show ((sm_sI (sm_sI M2 38 (16 + a) y2) 39 (16 + a) y3).1 39 (16 + a)).toInt = fx _ n (F.2.1 a) 3
              rw [sI_s, pk_us]; exact e3
            · show ((sm_sI (sm_sI M2 38 (16 + a) y2) 39 (16 + a) y3).1 40 (16 + a)).toInt = fx _ n (F.2.1 a) 4
              have R4 := Rr 4 (by omega)
              rw [sI_1 (by decide), sI_1 (by decide), a4, pk_us, fx, if_neg (by omega)]
              exact jn_to R4.1 R4.2
          · rw [← h16 a (by omega) j hj]
            congr 1
            rcases hj5 with e | e | e | e | e <;> subst e
            · show (sm_sI (sm_sI M2 38 (16 + i) y2) 39 (16 + i) y3).1 36 (16 + a) = M1.1 36 (16 + a)
              rw [sI_1 (by decide), sI_1 (by decide), a0, pk_un (by omega)]
            · show (sm_sI (sm_sI M2 38 (16 + i) y2) 39 (16 + i) y3).1 37 (16 + a) = M1.1 37 (16 + a)
              rw [sI_1 (by decide), sI_1 (by decide), a1, pk_un (by omega)]
            · show (sm_sI (sm_sI M2 38 (16 + i) y2) 39 (16 + i) y3).1 38 (16 + a) = M1.1 38 (16 + a)
              rw [sI_1 (by decide), sI_s, pk_un (by omega), a2, pk_un (by omega)]
            · show (sm_sI (sm_sI M2 38 (16 + i) y2) 39 (16 + i) y3).1 39 (16 + a) = M1.1 39 (16 + a)
              rw [sI_s, pk_un (by omega), sI_1 (by decide), a3, pk_un (by omega)]
            · show (sm_sI (sm_sI M2 38 (16 + i) y2) 39 (16 + i) y3).1 40 (16 + a) = M1.1 40 (16 + a)
              rw [sI_1 (by decide), sI_1 (by decide), a4, pk_un (by omega)]
      have cl : ∀ x : Int, 0 ≤ x → 0 ≤ mw_cl n x ∧ mw_cl n x ≤ n := fun x hx => by unfold mw_cl; split <;> omega
      have stw : ∀ t : Int, 0 ≤ t → t ≤ n → 0 ≤ ((wa sv L V t.toNat).1 : Int) ∧ ((wa sv L V t.toNat).1 : Int) ≤ 48 := fun t t1 t2 => by
        have := (hwa t.toNat).1
        have m := hmono t.toNat
        rw [show t.toNat + (n - t.toNat) = n by omega] at m
        omega
      -- with the target c
      have f212 : ∀ (c : Int) (x3 : Int32), 0 ≤ c ∧ c ≤ n → (F.2.1 i 0 = 5 → c = mw_cl n (F.2.1 i 2)) → (F.2.1 i 0 = 6 → c = mw_cl n (F.2.1 i 3)) → sm_Go g 103 (sm_Fn g Q) 212 [.ref 35, .int (Int32.ofInt (i : Int)), .int (Int32.ofInt (F.2.1 i 0)), .int x3] [.int (Int32.ofInt c)] M2 := by
        intro c x3 hc c5 c6
        have inc : vp_in (Int32.ofInt c) 49 := by rw [jn_in (by omega) (by omega)]; omega
        have clc : (Int32.ofInt c).toNatClampNeg = c.toNat := jn_cl (by omega) (by omega)
        have sw := stw c hc.1 hc.2
        have f244 : ∀ y2 : Int32, y2.toInt = fx (fun t => ((wa sv L V t).1 : Int)) n (F.2.1 i) 2 → sm_Go g 103 (sm_Fn g Q) 244 [.ref 35, .int (Int32.ofInt (i : Int)), .int (Int32.ofInt (F.2.1 i 0)), .int (Int32.ofInt c)] [.int y2, .int (Int32.ofInt (16 + (i : Int))), .ref 38] M2 := by
          intro y2 e2
          refine k103_244 (fun _ _ _ _ h => h) ⟨ix, ?_⟩
          rw [jn_add, clx, clc, jn_eq (by omega) (by omega) (by omega) (by omega), b39, St c hc.1 hc.2]
          refine ⟨fun q => ⟨ix, f277 _ _ _ _ e2 ?_⟩, fun q => ⟨inc, f277 _ _ _ _ e2 ?_⟩⟩
          · rw [jn_to (by omega) (by omega), fx, if_neg]
            unfold pf_tc
            rw [if_neg q]
            split <;> omega
          · rw [jn_to (by omega) (by omega), fx, if_pos (by unfold pf_tc; rw [if_neg (by omega), if_pos q]), c6 q]; rfl
        refine k103_212 (fun _ _ _ _ h => h) ?_
        rw [jn_add, clx, clc, jn_eq (by omega) (by omega) (by omega) (by omega), b38, St c hc.1 hc.2]
        refine ⟨fun q => ⟨ix, f244 _ ?_⟩, fun q => ⟨inc, f244 _ ?_⟩⟩
        · rw [jn_to (by omega) (by omega), fx, if_neg]
          unfold pf_tc
          rw [if_neg q]
          split <;> omega
        · rw [jn_to (by omega) (by omega), fx, if_pos (by unfold pf_tc; rw [if_pos q]), c5 q]; rfl
      have e7 : M2.1 35 7 = Int32.ofInt (n : Int) := by rw [ao 35 (by omega)]; exact h7
      have f195 : ∀ x : Int, (0 ≤ x ∧ x < 2147483648) → (F.2.1 i 0 = 5 → x = F.2.1 i 2) → (F.2.1 i 0 = 6 → x = F.2.1 i 3) → sm_Go g 103 (sm_Fn g Q) 195 [.ref 35, .int (Int32.ofInt (i : Int)), .int (Int32.ofInt (F.2.1 i 0)), .null] [.int (Int32.ofInt x)] M2 := by
        intro x hx c5 c6
        refine k103_195 (fun _ _ _ _ h => h) ?_
        rw [e7, jn_le (by omega) (by omega) (by omega) (by omega)]
        refine ⟨fun q => f212 x _ (by omega) (fun z => ?_) (fun z => ?_), fun q => f212 n _ (by omega) (fun z => ?_) (fun z => ?_)⟩
        · rw [← c5 z, mw_cl, if_neg (by omega)]
        · rw [← c6 z, mw_cl, if_neg (by omega)]
        · rw [← c5 z, mw_cl, if_pos (by omega)]
        · rw [← c6 z, mw_cl, if_pos (by omega)]
      have f183 : F.2.1 i 0 = 5 ∨ F.2.1 i 0 = 6 → sm_Go g 103 (sm_Fn g Q) 183 [.ref 35, .int (Int32.ofInt (i : Int)), .int (Int32.ofInt (F.2.1 i 0)), .null] [] M2 := by
        intro h56
        refine k103_183 (fun _ _ _ _ h => h) ?_
        rw [jn_add, clx, b36, b38, b39]
        refine ⟨ix, ?_⟩
        have eq5 : Int32.ofInt (F.2.1 i 0) = Int32.ofInt 5 ↔ F.2.1 i 0 = 5 := jn_eq (by omega) (by omega) (by omega) (by omega)
        rcases h56 with e | e
        · rw [if_pos (eq5.mpr e)]
          exact f195 _ ⟨ok.1 e, by omega⟩ (fun _ => rfl) (fun z => by omega)
        · rw [if_neg (fun z => by have := eq5.mp z; omega)]
          exact f195 _ ⟨ok.2 e, by omega⟩ (fun z => by omega) (fun _ => rfl)
      show vp_in _ 112 ∧ _
      rw [clx, b36, jn_eq (by omega) (by omega) (by omega) (by omega), jn_eq (by omega) (by omega) (by omega) (by omega)]
      exact ⟨ix, fun q => f183 (Or.inl q), fun q => ⟨fun q2 => f195 0 (by omega) (fun z => absurd z q) (fun z => absurd z q2), fun q2 => f183 (Or.inr q2)⟩⟩
  -- the lines
  have loop2 : ∀ M1 : sm_M, rs_ok M1 (jr_l s) sv → (∀ i : Nat, ln_eq (rf_L M1 16 i) (L i)) → M1.1 35 7 = Int32.ofInt (n : Int) → M1.1 35 22 = Int32.ofInt (S + (bct sp 60 : Nat)) → rA_fr M0 M1 → (ta sp (js_ld s) 60 = true) → ∀ (d i : Nat) (M2 : sm_M), i + d = n → wr_is M1 M2 (wa sv L V i) → (∀ t, t < i → M2.1 52 t = Int32.ofInt ((wa sv L V t).1 : Nat)) → sm_Go g 103 (sm_Fn g Q) 79 [.ref 35, .int (Int32.ofInt (i : Int)), .null, .null] [] M2 := by
    intro M1 hrs hL1 h17 h122 hfr hta d
    have frt : ∀ M2 : sm_M, wr_fr M1 M2 → rA_fr M0 M2 := fun M2 hf => ⟨fun p p1 p2 p3 => by rw [hf.1 p p1 p3]; exact hfr.1 p p1 p2 p3, fun i i1 i2 i3 i4 i5 => by rw [hf.2.1 i i2 i3 i5]; exact hfr.2.1 i i1 i2 i3 i4 i5, fun j hj i hi => by rw [hf.2.2.1 j hj i (by omega)]; exact hfr.2.2.1 j hj i hi, by rw [hf.2.2.2, hfr.2.2.2]⟩
    have out : ∀ i, i ≤ n → ¬ wr_in (wa sv L V i) → (ta sp (js_ld s) 60 && (decide (n + wg sv L n ≤ 48) && decide (V + (wg sv L n : Nat) ≤ 60))) = false := fun i hi hx => by
      have a := hwa i
      have m := hmono i
      rw [show i + (n - i) = n by omega] at m
      cases e1 : decide (n + wg sv L n ≤ 48)
      · simp
      · cases e2 : decide (V + (wg sv L n : Nat) ≤ 60)
        · simp
        · rw [decide_eq_true_eq] at e1 e2
          exact absurd ⟨by omega, by omega⟩ hx
    induction d with
    | zero =>
      intro i M2 hd h1 h52
      have ei : i = n := by omega
      subst ei
      have e7 : M2.1 35 7 = Int32.ofInt (i : Int) := by rw [h1.1.2.1 7 (by decide) (by decide) (by decide)]; exact h17
      refine k103_79 (fun _ _ _ _ h => h) ⟨fun _ => ?_, fun q => absurd ?_ q⟩
      · by_cases hin : wr_in (wa sv L V i)
        · obtain ⟨a1, a2, a3, a4⟩ := h1.2.2.2.2.1 hin
          have a := hwa i
          have b1 := hin.1
          have b2 := hin.2
          have hok : (ta sp (js_ld s) 60 && (decide (i + wg sv L i ≤ 48) && decide (V + (wg sv L i : Nat) ≤ 60))) = true := by rw [hta, decide_eq_true (by omega), decide_eq_true (by omega)]; rfl
          refine k103_118 (fun _ _ _ _ h => h) ⟨fun _ => ?_, fun q => ?_⟩
          · rw [e7, a1, show (Int32.ofInt (i : Int)).toNatClampNeg = i by rw [jn_cl (by omega) (by omega)]; omega]
            have f := frt M2 h1.1
            refine ⟨by rw [jn_in (by omega) (by omega)]; omega, loop3 hok (by omega) (wa sv L V i).1 0 _ (by omega) ⟨fun p p1 p2 p3 => ?_, fun t t1 t2 t3 t4 t5 => ?_, fun j hj t ht => ?_, f.2.2.2⟩ ?_ ?_ ?_ ?_ (fun t ht => ?_) (fun a ha j hj => ?_) (fun a ha => absurd ha (by omega))⟩
            · rw [sI_1 p3]; exact f.1 p p1 p2 p3
            · rw [sI_1 (by decide)]; exact f.2.1 t t1 t2 t3 t4 t5
            · rw [sI_1 (by omega)]; exact f.2.2.1 j hj t ht
            · rw [sI_1 (by decide)]; exact e7
            · rw [sI_1 (by decide)]; exact a1
            · rw [sI_1 (by decide)]; exact a2
            · rw [sI_1 (by decide), h1.1.2.1 22 (by decide) (by decide) (by decide)]; exact h122
            · rw [sI_s]
              by_cases e : t = i
              · rw [e, pk_us]
              · rw [pk_un e]; exact h52 t (by omega)
            · rw [sI_1 (by omega)]; exact a4 a ha j hj
          · rw [a3] at q; exact absurd q (by decide)
        · exact fail (out i (by omega) hin) M2 _ (frt M2 h1.1) (h1.2.2.2.2.2 hin)
      · rw [e7, jn_le (by omega) (by omega) (by omega) (by omega)]; omega
    | succ d ih =>
      intro i M2 hd h1 h52
      have e7 : M2.1 35 7 = Int32.ofInt (n : Int) := by rw [h1.1.2.1 7 (by decide) (by decide) (by decide)]; exact h17
      refine k103_79 (fun _ _ _ _ h => h) ⟨fun q => ?_, fun _ => ?_⟩
      · rw [e7, jn_le (by omega) (by omega) (by omega) (by omega)] at q; omega
      by_cases hin : wr_in (wa sv L V i)
      · obtain ⟨a1, a2, a3, a4⟩ := h1.2.2.2.2.1 hin
        refine ⟨fun q => ?_, fun _ => ?_⟩
        · rw [a3] at q; exact absurd q (by decide)
        rw [a1, show (Int32.ofInt (i : Int)).toNatClampNeg = i by rw [jn_cl (by omega) (by omega)]; omega, jn_add]
        have h1' : wr_is M1 (sm_sI M2 52 i (Int32.ofInt ((wa sv L V i).1 : Int))) (wa sv L V i) := by
          obtain ⟨⟨f1, f2, f3, f4⟩, v0, r8, r21, hin', hout⟩ := h1
          refine ⟨⟨fun p p1 p2 => by rw [sI_1 p2]; exact f1 p p1 p2, fun t t1 t2 t3 => by rw [sI_1 (by decide)]; exact f2 t t1 t2 t3, fun j hj t ht => by rw [sI_1 (by omega)]; exact f3 j hj t ht, f4⟩, v0, by rw [sI_1 (by decide)]; exact r8, by rw [sI_1 (by decide)]; exact r21, fun _ => ⟨by rw [sI_1 (by decide)]; exact a1, by rw [sI_1 (by decide)]; exact a2, by rw [sI_1 (by decide)]; exact a3, fun t ht j hj => by rw [sI_1 (by omega)]; exact a4 t ht j hj⟩, fun z => absurd hin z⟩
        refine ⟨by rw [jn_in (by omega) (by omega)]; omega, ?_⟩
        have hkl : lv_ok (rf_L M1 16 i) := ln_ok (hL1 i) (hk i (by omega))
        have hk9 : rf_L M1 16 i 0 = 9 → sv (rf_L M1 16 i 1).toNat = -1 := by rw [(hL1 i).1, (hL1 i).2.1]; exact h9 hta i (by omega)
        have C := c_rwLine (g := g) h1' hrs (i := i) (by omega) hkl hk9
        rw [(ln_w (hL1 i) sv _).1] at C
        refine sm_Sm_mono C (fun o M3 h3 => ?_)
        obtain ⟨rfl, h3, k3⟩ := h3
        show sm_Go g 103 _ 79 _ _ _
        rw [jn_add, show (i : Int) + 1 = ((i + 1 : Nat) : Int) by omega]
        refine ih (i + 1) M3 (by omega) h3 (fun t ht => ?_)
        rw [k3, sI_s]
        by_cases e : t = i
        · rw [e, pk_us]
        · rw [pk_un e]; exact h52 t (by omega)
      · have z := h1.2.2.2.2.2 hin
        exact ⟨fun _ => fail (out i (by omega) hin) M2 _ (frt M2 h1.1) z, fun q => absurd z q⟩
  -- the slots
  have loop1 : ∀ (d w : Nat) (M1 : sm_M), w + d = 60 → M1.1 35 26 = sm_z (ta sp (js_ld s) w) → M1.1 35 22 = Int32.ofInt (S + (bct sp w : Nat)) → (∀ v, v < w → sp v = true → M1.1 51 v = Int32.ofInt (S + (bct sp v : Nat))) → (∀ p, p ≠ 35 → p ≠ 51 → M1.1 p = M0.1 p) → (∀ i, i ≠ 22 → i ≠ 26 → M1.1 35 i = M0.1 35 i) → M1.2 = M0.2 → sm_Go g 103 (sm_Fn g Q) 7 [.ref 35, .int (Int32.ofInt (w : Int)), .null, .null] [] M1 := by
    intro d
    induction d with
    | zero =>
      intro w M1 hd h26 h22 h51 hp h35 h2
      have ew : w = 60 := by omega
      subst ew
      refine k103_7 (fun _ _ _ _ h => h) ⟨fun _ => ?_, fun q => absurd ?_ q⟩
      · have hfr : rA_fr M0 (sm_sI M1 35 8 (Int32.ofInt 0)) := ⟨fun p p1 p2 p3 => by rw [sI_1 (by omega)]; exact hp p (by omega) p2, fun i i1 i2 i3 i4 i5 => by rw [sI_s, pk_un i2]; exact h35 i i4 i5, fun j hj i hi => by rw [sI_1 (by omega), hp (36 + j) (by omega) (by omega)], h2⟩
        have e7 : (sm_sI M1 35 8 (Int32.ofInt 0)).1 35 7 = Int32.ofInt (n : Int) := by rw [sI_s, pk_un (by decide), h35 7 (by decide) (by decide)]; exact hn
        cases hta : ta sp (js_ld s) 60 with
        | false =>
          have e26 : (sm_sI M1 35 8 (Int32.ofInt 0)).1 35 26 = Int32.ofInt 0 := by rw [sI_s, pk_un (by decide), h26, hta]; rfl
          have F := fun x1 => fail (by rw [hta]; rfl) _ x1 hfr e26
          refine k103_79 (fun _ _ _ _ h => h) ⟨fun _ => F _, fun _ => ⟨fun _ => F _, fun q => absurd e26 q⟩⟩
        | true =>
          refine loop2 (sm_sI M1 35 8 (Int32.ofInt 0)) ?_ ?_ e7 ?_ hfr hta n 0 _ (by omega) ⟨⟨fun _ _ _ => rfl, fun _ _ _ _ => rfl, fun _ _ _ _ => rfl, rfl⟩, (by show 0 ≤ V; omega), ?_, ?_, fun _ => ⟨?_, ?_, ?_, fun i hi => absurd hi (by show ¬ i < 0; omega)⟩, fun z => absurd ⟨by show 0 ≤ 48; omega, by show V ≤ 60; omega⟩ z⟩ (fun t ht => absurd ht (by omega))
          · intro v hv
            have r := jr_lr hw hv
            refine ⟨r, ?_, ?_, fun hn1 => ?_, ?_⟩
            · rw [sI_1 (by decide), hp 45 (by decide) (by decide)]; exact m5 v hv
            · rw [sI_1 (by decide), hp 50 (by decide) (by decide), hsp _ (by omega)]
              congr 1
              rw [← hsv]
              unfold svv jr_l
              by_cases e : js_ld s v = -1
              · rw [if_pos e, if_neg (by omega)]
                have : sp v = false := by
                  cases e2 : sp v
                  · rfl
                  · have := (hw.1 v (hsg v e2)).2; omega
                rw [show ((v : Int)).toNat = v by omega, this]; rfl
              · have r2 := jw_r hw hv
                rw [if_neg e]
                cases e2 : sp (js_ld s v).toNat
                · rw [if_neg (fun z => by cases z.2.2)]; rfl
                · rw [if_pos ⟨by omega, by omega, rfl⟩, decide_eq_true]
                  have := bS (js_ld s v).toNat
                  omega
            · rw [← hsv] at hn1 ⊢
              unfold svv at hn1 ⊢
              by_cases c : 0 ≤ js_ld s v ∧ js_ld s v < ((60 : Nat) : Int) ∧ sp (js_ld s v).toNat = true
              · rw [if_pos c, sI_1 (by decide), jr_l0 c.1]
                exact h51 _ (by omega) c.2.2
              · rw [if_neg c] at hn1; exact absurd rfl hn1
            · rw [← hsv]
              have r2 := jw_r hw hv
              exact svv_r (by omega) v (by omega)
          · rw [← hL]
            intro i
            unfold ln_eq rf_L rf_l
            refine ⟨?_, ?_, ?_, ?_, ?_⟩
            · show ((sm_sI M1 35 8 (Int32.ofInt 0)).1 36 _).toInt = (M0.1 36 _).toInt
              rw [sI_1 (by decide), hp 36 (by decide) (by decide)]
            · show ((sm_sI M1 35 8 (Int32.ofInt 0)).1 37 _).toInt = (M0.1 37 _).toInt
              rw [sI_1 (by decide), hp 37 (by decide) (by decide)]
            · show ((sm_sI M1 35 8 (Int32.ofInt 0)).1 38 _).toInt = (M0.1 38 _).toInt
              rw [sI_1 (by decide), hp 38 (by decide) (by decide)]
            · show ((sm_sI M1 35 8 (Int32.ofInt 0)).1 39 _).toInt = (M0.1 39 _).toInt
              rw [sI_1 (by decide), hp 39 (by decide) (by decide)]
            · show ((sm_sI M1 35 8 (Int32.ofInt 0)).1 40 _).toInt = (M0.1 40 _).toInt
              rw [sI_1 (by decide), hp 40 (by decide) (by decide)]
          · rw [sI_s, pk_un (by decide)]; exact h22
          · rw [sI_s, pk_us]; decide
          · rw [sI_s, pk_un (by decide), h35 21 (by decide) (by decide), hV, jn_to (by omega) (by omega)]; exact hV2
          · rw [sI_s, pk_us]; rfl
          · rw [sI_s, pk_un (by decide), h35 21 (by decide) (by decide), hV]; rfl
          · rw [sI_s, pk_un (by decide), h26, hta]; rfl
      · rw [jn_le (by omega) (by omega) (by omega) (by omega)]; omega
    | succ d ih =>
      intro w M1 hd h26 h22 h51 hp h35 h2
      have on : ∀ M2 : sm_M, M2.1 35 26 = sm_z (ta sp (js_ld s) (w + 1)) → M2.1 35 22 = Int32.ofInt (S + (bct sp (w + 1) : Nat)) → (∀ v, v < w + 1 → sp v = true → M2.1 51 v = Int32.ofInt (S + (bct sp v : Nat))) → (∀ p, p ≠ 35 → p ≠ 51 → M2.1 p = M0.1 p) → (∀ i, i ≠ 22 → i ≠ 26 → M2.1 35 i = M0.1 35 i) → M2.2 = M0.2 → sm_Go g 103 (sm_Fn g Q) 66 [.ref 35, .int (Int32.ofInt (w : Int)), .null, .null] [] M2 := fun M2 a b c d' e f => by
        refine k103_66 (fun _ _ _ _ h => h) ?_
        rw [jn_add, show (w : Int) + 1 = ((w + 1 : Nat) : Int) by omega]
        exact ih (w + 1) M2 (by omega) a b c d' e f
      have bs : bct sp (w + 1) = bct sp w + (if sp w = true then 1 else 0) := rfl
      have ts : ta sp (js_ld s) (w + 1) = (ta sp (js_ld s) w && !(sp w && jt (js_ld s) w 60)) := rfl
      have inw : vp_in (Int32.ofInt (w : Int)) 60 := by rw [jn_in (by omega) (by omega)]; omega
      have clw : (Int32.ofInt (w : Int)).toNatClampNeg = w := by rw [jn_cl (by omega) (by omega)]; omega
      refine k103_7 (fun _ _ _ _ h => h) ⟨fun q => ?_, fun _ => ?_⟩
      · rw [jn_le (by omega) (by omega) (by omega) (by omega)] at q; omega
      rw [clw, hp 50 (by decide) (by decide), hsp w (by omega), h26, sm_z0, sm_z0]
      refine ⟨inw, fun q => on M1 ?_ ?_ (fun v hv hs => ?_) hp h35 h2, fun q => ?_⟩
      · rw [ts, q, h26]; simp
      · rw [bs, q]; exact h22
      · by_cases e : v = w
        · rw [e, q] at hs; cases hs
        · exact h51 v (by omega) hs
      · rw [Bool.not_eq_false] at q
        rw [q] at bs
        have f43 : ∀ b : Bool, b = ta sp (js_ld s) (w + 1) → sm_Go g 103 (sm_Fn g Q) 43 [.ref 35, .int (Int32.ofInt (w : Int)), .null, .null] [.int (sm_z b), .ref 35] M1 := fun b hb => by
          refine k103_43 (fun _ _ _ _ h => h) ⟨sm_zb _, inw, ?_⟩
          rw [clw, pk_un (by decide), h22, jn_add]
          refine on _ ?_ ?_ (fun v hv hs => ?_) (fun p p1 p2 => ?_) (fun i i1 i2 => ?_) h2
          · rw [sI_s, pk_un (by decide), sI_1 (by decide), sI_s, pk_us, hb]
          · rw [sI_s, pk_us, bs]; congr 1; simp only [if_pos]; omega
          · rw [sI_1 (by decide), sI_s]
            by_cases e : v = w
            · rw [e, pk_us]
            · rw [pk_un e, sI_1 (by decide)]; exact h51 v (by omega) hs
          · rw [sI_1 p1, sI_1 p2, sI_1 p1]; exact hp p p1 p2
          · rw [sI_s, pk_un i1, sI_1 (by decide), sI_s, pk_un i2]; exact h35 i i1 i2
        refine ⟨fun q2 => k103_42 (fun _ _ _ _ h => h) ?_, fun q2 => ?_⟩
        · rw [sm_o0]; exact f43 false (by rw [ts, q2]; rfl)
        · rw [Bool.not_eq_false] at q2
          refine sm_Sm_mono (c_isTemporary (fun v hv => by rw [hp 45 (by decide) (by decide)]; exact m5 v hv) hw (hsg w q)) (fun o M2 h' => ?_)
          obtain ⟨rfl, rfl⟩ := h'
          show (_ → _) ∧ (_ → _)
          rw [sm_z0]
          refine ⟨fun q3 => k103_42 (fun _ _ _ _ h => h) ?_, fun q3 => ?_⟩
          · rw [Bool.not_eq_false] at q3
            rw [sm_o0]; exact f43 false (by rw [ts, q, q3]; simp)
          · rw [sm_o1]; exact f43 true (by rw [ts, q2, q3]; simp)
  refine sm_entry (Nat.le_of_ble_eq_true rfl) (Nat.le_of_ble_eq_true rfl) ?_
  refine k103_0 (fun _ _ _ _ h => h) ⟨Or.inr rfl, loop1 60 0 _ (by omega) ?_ ?_ (fun v hv => absurd hv (by omega)) (fun p p1 p2 => ?_) (fun i i1 i2 => ?_) rfl⟩
  · rw [sI_s, pk_us]; rfl
  · rw [sI_s, pk_un (by decide), hS]
    show _ = Int32.ofInt (S + ((0 : Nat) : Int))
    congr 1; omega
  · rw [sI_1 p1]
  · rw [sI_s, pk_un i2]
end
