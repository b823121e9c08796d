-- the reference's joinsOne
section
variable {g : sm_G} {M0 : sm_M}
theorem jr_l0 {s : jS} {v : Nat} (h : 0 ≤ js_ld s v) : jr_l s v = js_ld s v := by unfold jr_l; rw [if_neg (by omega)]
theorem jr_lr {s : jS} (hw : jw s) {v : Nat} (hv : v < 60) : 0 ≤ jr_l s v ∧ jr_l s v < 60 := by
  have := jw_r hw hv
  unfold jr_l
  split <;> omega
def jm_post (M0 : sm_M) (s : jS) (r : Option (Nat × Nat)) (o : Option Value) (M' : sm_M) : Prop :=
  match r with
  | none => o = some (.int (Int32.ofInt 0)) ∧ M' = M0
  | some p => o = some (.int (Int32.ofInt 1)) ∧ jm_is M' (jj s (min p.1 p.2) (max p.1 p.2)) ∧ jm_ke M0 M'
theorem c_joinsOne {n : Nat} (hn : M0.1 35 7 = Int32.ofInt (n : Int)) (hn2 : n ≤ 48) {k : Int} (hk : 0 ≤ k ∧ k < 100) {s : jS} (hw : jw s) (hl : jl (rf_L M0 16) n s) (hm : jm_is M0 s) : sm_Sm g 93 [.ref 35, .int (Int32.ofInt k)] M0 (jm_post M0 s (js_f (rf_L M0 16) n k s)) := by
  obtain ⟨nr, mi, mk, m5, m6, mj⟩ := hm
  have loop : ∀ (d i : Nat), i + d = n → sm_Go g 93 (sm_Fn g (jm_post M0 s (jf (rf_L M0 16) (js_ld s) (fun a b => jo_mj (js_nb s) a b k) d i))) 2 [.ref 35, .int (Int32.ofInt k), .int (Int32.ofInt (i : Int)), .null, .null] [] M0 := by
    intro d
    induction d with
    | zero =>
      intro i hd
      refine k93_2 (fun _ _ _ _ h => h) ⟨fun _ => ⟨Or.inl rfl, rfl, rfl⟩, fun q => absurd ?_ q⟩
      rw [hn, jn_le (by omega) (by omega) (by omega) (by omega)]; omega
    | succ d ih =>
      intro i hd
      have nx : jf (rf_L M0 16) (js_ld s) (fun a b => jo_mj (js_nb s) a b k) (d + 1) i = jf (rf_L M0 16) (js_ld s) (fun a b => jo_mj (js_nb s) a b k) d (i + 1) → sm_Go g 93 (sm_Fn g (jm_post M0 s (jf (rf_L M0 16) (js_ld s) (fun a b => jo_mj (js_nb s) a b k) (d + 1) i))) 116 [.ref 35, .int (Int32.ofInt k), .int (Int32.ofInt (i : Int)), .null, .null] [] M0 := fun e => by
        rw [e]
        refine k93_116 (fun _ _ _ _ h => h) ?_
        rw [jn_add, show (i : Int) + 1 = ((i + 1 : Nat) : Int) by omega]
        exact ih (i + 1) (by omega)
      have c16 : (Int32.ofInt (16 + (i : Int))).toNatClampNeg = (16 + (i : Int)).toNat := jn_cl (by omega) (by omega)
      have e0 : M0.1 36 (16 + (i : Int)).toNat = Int32.ofInt (rf_L M0 16 i 0) := rf_at M0 (16 + i) 0
      have e1 : M0.1 37 (16 + (i : Int)).toNat = Int32.ofInt (rf_L M0 16 i 1) := rf_at M0 (16 + i) 1
      have e2 : M0.1 38 (16 + (i : Int)).toNat = Int32.ofInt (rf_L M0 16 i 2) := rf_at M0 (16 + i) 2
      have in16 : vp_in (Int32.ofInt (16 + (i : Int))) 112 := by rw [jn_in (by omega) (by omega)]; omega
      have l0 : (Int32.ofInt (rf_L M0 16 i 0)).toInt = rf_L M0 16 i 0 := rf_lt
      refine k93_2 (fun _ _ _ _ h => h) ⟨fun q => ?_, fun _ => ?_⟩
      · rw [hn, jn_le (by omega) (by omega) (by omega) (by omega)] at q; omega
      · rw [jn_add, c16, e0, e1, e2, ← Int32.toInt_inj, l0]
        refine ⟨in16, fun q => nx (by rw [jf, if_neg (fun z => q z.1)]), fun q => ?_⟩
        obtain ⟨hd1, ha1, hd2, ha2⟩ := hl i (by omega) q
        have rd := jw_r hw (v := (rf_L M0 16 i 1).toNat) (by omega)
        have ra := jw_r hw (v := (rf_L M0 16 i 2).toNat) (by omega)
        have gx := jw_g hw (v := (rf_L M0 16 i 1).toNat) (by omega) hd2
        have gy := jw_g hw (v := (rf_L M0 16 i 2).toNat) (by omega) ha2
        rw [jn_cl (a := rf_L M0 16 i 1) (by omega) (by omega), jn_cl (a := rf_L M0 16 i 2) (by omega) (by omega), m5 (rf_L M0 16 i 1).toNat (by omega), m5 (rf_L M0 16 i 2).toNat (by omega), jr_l0 hd2, jr_l0 ha2]
        have p1 : (jf_p (rf_L M0 16) (js_ld s) i).1 = (js_ld s (rf_L M0 16 i 1).toNat).toNat := rfl
        have p2 : (jf_p (rf_L M0 16) (js_ld s) i).2 = (js_ld s (rf_L M0 16 i 2).toNat).toNat := rfl
        have ed : js_ld s (rf_L M0 16 i 1).toNat = (((js_ld s (rf_L M0 16 i 1).toNat).toNat : Nat) : Int) := by omega
        have ea : js_ld s (rf_L M0 16 i 2).toNat = (((js_ld s (rf_L M0 16 i 2).toNat).toNat : Nat) : Int) := by omega
        rw [ed, ea]
        have px : (js_ld s (rf_L M0 16 i 1).toNat).toNat < 60 := by omega
        have py : (js_ld s (rf_L M0 16 i 2).toNat).toNat < 60 := by omega
        have inD : vp_in (Int32.ofInt (rf_L M0 16 i 1)) 60 := by rw [jn_in (by omega) (by omega)]; omega
        have inA : vp_in (Int32.ofInt (rf_L M0 16 i 2)) 60 := by rw [jn_in (by omega) (by omega)]; omega
        have ej : jf (rf_L M0 16) (js_ld s) (fun a b => jo_mj (js_nb s) a b k) (d + 1) i = if rf_L M0 16 i 0 = 1 ∧ jo_mj (js_nb s) (js_ld s (rf_L M0 16 i 1).toNat).toNat (js_ld s (rf_L M0 16 i 2).toNat).toNat k = true then some ((js_ld s (rf_L M0 16 i 1).toNat).toNat, (js_ld s (rf_L M0 16 i 2).toNat).toNat) else jf (rf_L M0 16) (js_ld s) (fun a b => jo_mj (js_nb s) a b k) d (i + 1) := by rw [jf]; rfl
        clear ed ea p1 p2 rd ra hd2 ha2
        generalize (js_ld s (rf_L M0 16 i 1).toNat).toNat = x at *
        generalize (js_ld s (rf_L M0 16 i 2).toNat).toNat = y at *
        have cxy : (Int32.ofInt (60 * (x : Int) + (y : Int))).toNatClampNeg = 60 * x + y := by rw [jn_cl (by omega) (by omega)]; omega
        have nxy : nr x y = js_nb s x y := mk.1 x y px py gx gy
        rw [jn_mul, jn_add, cxy, mi.2 x px y py, sm_z0, nxy, jn_eq (by omega) (by omega) (by omega) (by omega), jn_le (by omega) (by omega) (by omega) (by omega)]
        have no : jo_mj (js_nb s) x y k = false → ∀ (a b : Value), sm_Go g 93 (sm_Fn g (jm_post M0 s (jf (rf_L M0 16) (js_ld s) (fun a b => jo_mj (js_nb s) a b k) (d + 1) i))) 116 [.ref 35, .int (Int32.ofInt k), .int (Int32.ofInt (i : Int)), a, b] [] M0 := fun z a b =>
          sm_wk (L := [.ref 35, .int (Int32.ofInt k), .int (Int32.ofInt (i : Int)), .null, .null]) ⟨rfl, rfl, rfl, trivial⟩ (nx (by rw [ej, if_neg (fun w => by rw [z] at w; cases w.2)]))
        refine ⟨in16, inD, in16, inA, fun q1 => no ?_ _ _, fun q1 => ⟨?_, fun q2 => no ?_ _ _, fun q2 => ?_⟩⟩
        · unfold jo_mj; rw [decide_eq_true (show x = y by omega)]; rfl
        · rw [jn_in (by omega) (by omega)]; omega
        · rw [Bool.not_eq_false] at q2
          unfold jo_mj; rw [q2]; simp
        · refine sm_Sm_mono (c_isSafe mi mk px py gx gy hk) (fun o M' h' => ?_)
          obtain ⟨rfl, rfl⟩ := h'
          show (_ → _) ∧ (_ → _)
          rw [sm_z0]
          refine ⟨fun q3 => no ?_ _ _, fun q3 => ?_⟩
          · unfold jo_mj; rw [q3]; simp
          · rw [Bool.not_eq_false] at q3
            have mjt : jo_mj (js_nb s) x y k = true := by unfold jo_mj; rw [q3, q2, decide_eq_false (show ¬ x = y by omega)]; rfl
            have er : jf (rf_L M' 16) (js_ld s) (fun a b => jo_mj (js_nb s) a b k) (d + 1) i = some (x, y) := by rw [ej, if_pos ⟨q, mjt⟩]
            rw [er]
            have hlr : ∀ v, v < 60 → -1 ≤ jr_l s v ∧ jr_l s v < 60 := fun v hv => by have := jr_lr hw hv; omega
            refine ⟨fun q4 => k93_99 (fun _ _ _ _ h => h) ?_, fun q4 => k93_99 (fun _ _ _ _ h => h) ?_⟩
            · rw [jn_le (by omega) (by omega) (by omega) (by omega)]
              refine ⟨fun _ => k93_111 (fun _ _ _ _ h => h) ?_, fun z => absurd q4 z⟩
              refine sm_Sm_mono (c_rjoin mi.2 m5 hlr (by omega) px) (fun o M2 h2 => ?_)
              obtain ⟨rfl, h2⟩ := h2
              refine ⟨Or.inr rfl, rfl, ?_⟩
              rw [show min (x, y).1 (x, y).2 = y from Nat.min_eq_right (by omega), show max (x, y).1 (x, y).2 = x from Nat.max_eq_left (by omega)]
              exact jm_jj mi mk m6 mj hw py px gy gx (by omega) (by rw [hw.2.2.1]; exact q2) h2
            · rw [jn_le (by omega) (by omega) (by omega) (by omega)]
              refine ⟨fun z => absurd z q4, fun _ => k93_111 (fun _ _ _ _ h => h) ?_⟩
              refine sm_Sm_mono (c_rjoin mi.2 m5 hlr (by omega) py) (fun o M2 h2 => ?_)
              obtain ⟨rfl, h2⟩ := h2
              refine ⟨Or.inr rfl, rfl, ?_⟩
              rw [show min (x, y).1 (x, y).2 = x from Nat.min_eq_left (by omega), show max (x, y).1 (x, y).2 = y from Nat.max_eq_right (by omega)]
              exact jm_jj mi mk m6 mj hw px py gx gy (by omega) q2 h2
  refine sm_entry (Nat.le_of_ble_eq_true rfl) (Nat.le_of_ble_eq_true rfl) ?_
  exact k93_0 (fun _ _ _ _ h => h) (loop n 0 (by omega))
end
