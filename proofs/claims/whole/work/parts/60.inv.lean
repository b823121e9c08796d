-- what holds between two calls of the law
def i_src (M : sm_M) (ns : Nat) (Ls : Int → Int → Int) : Prop := ns ≤ 16 ∧ M.1 1 1 = Int32.ofInt (ns : Int) ∧ M.1 35 6 = Int32.ofInt (ns : Int) ∧ Ln ns (cd_l M 1) Ls ∧ Ln ns (rf_L M 0) Ls ∧ ∀ i : Nat, i < ns → sok (Ls i) ∧ Ls i 4 = (i : Int)
def i_rs (M : sm_M) (ns : Nat) (Ls : Int → Int → Int) (n k : Nat) (L : Int → Int → Int) : Prop := (n ≤ 48 ∧ 3 ≤ k ∧ k ≤ 6) ∧ M.1 3 1 = Int32.ofInt (n : Int) ∧ M.1 35 7 = Int32.ofInt (n : Int) ∧ Ln n (cd_l M 3) L ∧ Ln n (rf_L M 16) L ∧ (∀ i : Nat, i < n → rok ns Ls k (L i)) ∧ M.1 8 6 = Int32.ofInt (k : Int) ∧ M.1 35 23 = Int32.ofInt (k : Int) ∧ M.1 20 3 = M.1 35 22 ∧ M.1 12 5 = M.1 35 20
def i_res (M : sm_M) (ns : Nat) (Ls : Int → Int → Int) : Prop := (M.1 0 6 = Int32.ofInt 0 ∧ M.1 35 24 = Int32.ofInt 0) ∨ (M.1 0 6 = Int32.ofInt 1 ∧ M.1 35 24 = Int32.ofInt 1 ∧ ∃ n k L, i_rs M ns Ls n k L)
def i_mac (M : sm_M) : Prop := M.1 31 3 = M.1 35 33 ∧ 0 ≤ (M.1 31 3).toInt ∧ M.1 31 4 = M.1 35 34 ∧ (M.1 31 4 = 0 ∨ M.1 31 4 = 1) ∧ ∀ t, t < 20 → M.1 34 t = M.1 58 t
def INV (M : sm_M) : Prop := ∃ ns Ls, i_src M ns Ls ∧ i_res M ns Ls ∧ i_mac M
def i_p (p : Nat) : Prop := p < 5 ∨ p = 8 ∨ p = 12 ∨ p = 20 ∨ p = 31 ∨ p = 34 ∨ (36 ≤ p ∧ p ≤ 40) ∨ p = 58
theorem cd_lc {M M' : sm_M} {c : Nat} (h : M'.1 (c + 1) = M.1 (c + 1)) : cd_l M' c = cd_l M c := by funext i j; unfold cd_l; rw [h]
theorem INV_c {M M' : sm_M} (h : INV M) (hp : ∀ p, i_p p → M'.1 p = M.1 p) (h35 : ∀ i, i ≠ 0 → M'.1 35 i = M.1 35 i) : INV M' := by
  obtain ⟨ns, Ls, ⟨s1, s2, s3, s4, s5, s6⟩, r, ⟨m1, m2, m3, m4, m5⟩⟩ := h
  have q := fun p h => hp p (show i_p p from h)
  have p36 : M'.1 36 = M.1 36 := hp 36 (by unfold i_p; omega)
  have p37 : M'.1 37 = M.1 37 := hp 37 (by unfold i_p; omega)
  have p38 : M'.1 38 = M.1 38 := hp 38 (by unfold i_p; omega)
  have p39 : M'.1 39 = M.1 39 := hp 39 (by unfold i_p; omega)
  have p40 : M'.1 40 = M.1 40 := hp 40 (by unfold i_p; omega)
  have e0 : M'.1 0 = M.1 0 := hp 0 (by unfold i_p; omega)
  have e1 : M'.1 1 = M.1 1 := hp 1 (by unfold i_p; omega)
  have e2 : M'.1 2 = M.1 2 := hp 2 (by unfold i_p; omega)
  have e3 : M'.1 3 = M.1 3 := hp 3 (by unfold i_p; omega)
  have e4 : M'.1 4 = M.1 4 := hp 4 (by unfold i_p; omega)
  have e8 : M'.1 8 = M.1 8 := hp 8 (by unfold i_p; omega)
  have e12 : M'.1 12 = M.1 12 := hp 12 (by unfold i_p; omega)
  have e20 : M'.1 20 = M.1 20 := hp 20 (by unfold i_p; omega)
  have e31 : M'.1 31 = M.1 31 := hp 31 (by unfold i_p; omega)
  have e34 : M'.1 34 = M.1 34 := hp 34 (by unfold i_p; omega)
  have e58 : M'.1 58 = M.1 58 := hp 58 (by unfold i_p; omega)
  refine ⟨ns, Ls, ⟨s1, by rw [e1]; exact s2, by rw [h35 6 (by decide)]; exact s3, by rw [cd_lc e2]; exact s4, rL_c s5 p36 p37 p38 p39 p40, s6⟩, ?_, ⟨by rw [e31, h35 33 (by decide)]; exact m1, by rw [e31]; exact m2, by rw [e31, h35 34 (by decide)]; exact m3, by rw [e31]; exact m4, fun t ht => by rw [e34, e58]; exact m5 t ht⟩⟩
  rcases r with ⟨r1, r2⟩ | ⟨r1, r2, n, k, L, a1, a2, a3, a4, a5, a6, a7, a8, a9, a10⟩
  · exact Or.inl ⟨by rw [e0]; exact r1, by rw [h35 24 (by decide)]; exact r2⟩
  · exact Or.inr ⟨by rw [e0]; exact r1, by rw [h35 24 (by decide)]; exact r2, n, k, L, a1, by rw [e3]; exact a2, by rw [h35 7 (by decide)]; exact a3, by rw [cd_lc e4]; exact a4, rL_c a5 p36 p37 p38 p39 p40, a6, by rw [e8]; exact a7, by rw [h35 23 (by decide)]; exact a8, by rw [e20, h35 22 (by decide)]; exact a9, by rw [e12, h35 20 (by decide)]; exact a10⟩
theorem INV_0 {M : sm_M} (h : INV M) (x : Int32) : INV (sm_sI M 35 0 x) := INV_c h (fun p hp => sI_1 (by unfold i_p at hp; omega)) (fun i hi => by rw [sI_s, pk_un hi])
/-- a class's call and then the reference's: the same answer, and the same holds after -/
def pair (g : sm_G) (y z : Nat) (as : List Value) (M : sm_M) : Prop := sm_Sm g y (.ref 0 :: as) M (fun o1 M1 => ∃ r, o1 = some (.int r) ∧ sm_Sm g z (.ref 35 :: as) M1 (fun o2 M2 => o2 = some (.int r) ∧ INV M2))
section
variable {g : sm_G} {M : sm_M}
theorem p_clear (h : INV M) : pair g 52 84 [] M := by
  obtain ⟨ns, Ls, ⟨s1, s2, s3, s4, s5, s6⟩, r, ⟨m1, m2, m3, m4, m5⟩⟩ := h
  refine sm_entry (Nat.le_of_ble_eq_true rfl) (Nat.le_of_ble_eq_true rfl) (k52_0 (fun _ _ _ _ h => h) ⟨Or.inl rfl, M.1 1 1, rfl, ?_⟩)
  refine sm_entry (Nat.le_of_ble_eq_true rfl) (Nat.le_of_ble_eq_true rfl) (k84_0 (fun _ _ _ _ h => h) ⟨Or.inl rfl, ?_, 0, Ls, ⟨by omega, ?_, ?_, fun i hi => absurd hi (by omega), fun i hi => absurd hi (by omega), fun i hi => absurd hi (by omega)⟩, Or.inl ⟨?_, ?_⟩, ?_, ?_, ?_, ?_, fun t ht => ?_⟩)
  · rw [pk_un (by decide), sI_1 (by decide), sI_1 (by decide), s2, s3]
  · rw [sI_1 (by decide), sI_1 (by decide), sI_1 (by decide), sI_1 (by decide), sI_s, pk_us]; rfl
  · rw [sI_s, pk_un (by decide), sI_s, pk_us]; rfl
  · rw [sI_1 (by decide), sI_1 (by decide), sI_1 (by decide), sI_s, pk_us]
  · rw [sI_s, pk_us]
  · rw [sI_1 (by decide), sI_1 (by decide), sI_1 (by decide), sI_1 (by decide), sI_1 (by decide), sI_s, pk_un (by decide), sI_s, pk_un (by decide), sI_s, pk_un (by decide), sI_1 (by decide), sI_1 (by decide)]; exact m1
  · rw [sI_1 (by decide), sI_1 (by decide), sI_1 (by decide), sI_1 (by decide), sI_1 (by decide)]; exact m2
  · rw [sI_1 (by decide), sI_1 (by decide), sI_1 (by decide), sI_1 (by decide), sI_1 (by decide), sI_s, pk_un (by decide), sI_s, pk_un (by decide), sI_s, pk_un (by decide), sI_1 (by decide), sI_1 (by decide)]; exact m3
  · rw [sI_1 (by decide), sI_1 (by decide), sI_1 (by decide), sI_1 (by decide), sI_1 (by decide)]; exact m4
  · rw [sI_1 (by decide), sI_1 (by decide), sI_1 (by decide), sI_1 (by decide), sI_1 (by decide), sI_1 (by decide), sI_1 (by decide), sI_1 (by decide), sI_1 (by decide), sI_1 (by decide)]; exact m5 t ht
theorem z01 : ¬ (Int32.ofInt 1 : Int32) = 0 := by decide
theorem p_lines (h : INV M) : pair g 55 106 [] M := by
  have h' := h
  obtain ⟨ns, Ls, -, r, -⟩ := h
  refine sm_entry (Nat.le_of_ble_eq_true rfl) (Nat.le_of_ble_eq_true rfl) (k55_0 (fun _ _ _ _ h => h) ?_)
  rcases r with ⟨r1, r2⟩ | ⟨r1, r2, n, k, L, a1, a2, a3, -⟩
  · rw [r1]
    refine ⟨fun _ => ⟨_, rfl, sm_entry (Nat.le_of_ble_eq_true rfl) (Nat.le_of_ble_eq_true rfl) (k106_0 (fun _ _ _ _ h => h) ?_)⟩, fun q => absurd rfl q⟩
    rw [pk_un (by decide), r2]
    exact ⟨fun _ => ⟨rfl, INV_0 h' _⟩, fun q => absurd rfl q⟩
  · rw [r1]
    refine ⟨fun q => absurd q z01, fun _ => ⟨_, rfl, sm_entry (Nat.le_of_ble_eq_true rfl) (Nat.le_of_ble_eq_true rfl) (k106_0 (fun _ _ _ _ h => h) ?_)⟩⟩
    rw [pk_un (by decide), r2, pk_un (by decide), a2, a3]
    exact ⟨fun q => absurd q z01, fun _ => ⟨rfl, INV_0 h' _⟩⟩
theorem p_slots (h : INV M) : pair g 57 108 [] M := by
  have h' := h
  obtain ⟨ns, Ls, -, r, -⟩ := h
  refine sm_entry (Nat.le_of_ble_eq_true rfl) (Nat.le_of_ble_eq_true rfl) (k57_0 (fun _ _ _ _ h => h) ?_)
  rcases r with ⟨r1, r2⟩ | ⟨r1, r2, n, k, L, a1, a2, a3, a4, a5, a6, a7, a8, a9, a10⟩
  · rw [r1]
    refine ⟨fun _ => ⟨_, rfl, sm_entry (Nat.le_of_ble_eq_true rfl) (Nat.le_of_ble_eq_true rfl) (k108_0 (fun _ _ _ _ h => h) ?_)⟩, fun q => absurd rfl q⟩
    rw [pk_un (by decide), r2]
    exact ⟨fun _ => ⟨rfl, INV_0 h' _⟩, fun q => absurd rfl q⟩
  · rw [r1]
    refine ⟨fun q => absurd q z01, fun _ => ⟨_, rfl, sm_entry (Nat.le_of_ble_eq_true rfl) (Nat.le_of_ble_eq_true rfl) (k108_0 (fun _ _ _ _ h => h) ?_)⟩⟩
    rw [pk_un (by decide), r2, pk_un (by decide), a9]
    exact ⟨fun q => absurd q z01, fun _ => ⟨rfl, INV_0 h' _⟩⟩
theorem p_joined (h : INV M) : pair g 58 109 [] M := by
  have h' := h
  obtain ⟨ns, Ls, -, r, -⟩ := h
  refine sm_entry (Nat.le_of_ble_eq_true rfl) (Nat.le_of_ble_eq_true rfl) (k58_0 (fun _ _ _ _ h => h) ?_)
  rcases r with ⟨r1, r2⟩ | ⟨r1, r2, n, k, L, a1, a2, a3, a4, a5, a6, a7, a8, a9, a10⟩
  · rw [r1]
    refine ⟨fun _ => ⟨_, rfl, sm_entry (Nat.le_of_ble_eq_true rfl) (Nat.le_of_ble_eq_true rfl) (k109_0 (fun _ _ _ _ h => h) ?_)⟩, fun q => absurd rfl q⟩
    rw [pk_un (by decide), r2]
    exact ⟨fun _ => ⟨rfl, INV_0 h' _⟩, fun q => absurd rfl q⟩
  · rw [r1]
    refine ⟨fun q => absurd q z01, fun _ => ⟨_, rfl, sm_entry (Nat.le_of_ble_eq_true rfl) (Nat.le_of_ble_eq_true rfl) (k109_0 (fun _ _ _ _ h => h) ?_)⟩⟩
    rw [pk_un (by decide), r2, pk_un (by decide), a10]
    exact ⟨fun q => absurd q z01, fun _ => ⟨rfl, INV_0 h' _⟩⟩
theorem p_ended (h : INV M) : pair g 63 119 [] M := by
  have h' := h
  obtain ⟨ns, Ls, -, -, m1, m2, m3, m4, m5⟩ := h
  refine sm_entry (Nat.le_of_ble_eq_true rfl) (Nat.le_of_ble_eq_true rfl) (k63_0 (fun _ _ _ _ h => h) ⟨m4, _, rfl, ?_⟩)
  refine sm_entry (Nat.le_of_ble_eq_true rfl) (Nat.le_of_ble_eq_true rfl) (k119_0 (fun _ _ _ _ h => h) ?_)
  rw [pk_un (by decide), ← m3]
  exact ⟨m4, rfl, INV_0 h' _⟩
theorem i_ok {ns : Nat} {Ls : Int → Int → Int} (s6 : ∀ i : Nat, i < ns → sok (Ls i) ∧ Ls i 4 = (i : Int)) (i : Nat) (hi : i < ns) : lv_ok (Ls i) := by
  obtain ⟨h0, h1, h2, h3⟩ := (s6 i hi).1
  exact ⟨by omega, fun q => by have := h1 _ (Or.inl ⟨q, rfl⟩); omega, fun q => by have := h1 _ (Or.inr (Or.inl ⟨q, rfl⟩)); omega, fun q => by have := h1 _ (Or.inr (Or.inr ⟨q, rfl⟩)); omega, h2, h3⟩
theorem p_live (h : INV M) {x1 x2 : Int32} : pair g 53 87 [.int x1, .int x2] M := by
  have h' := h
  obtain ⟨ns, Ls, ⟨s1, s2, s3, s4, s5, s6⟩, -, -⟩ := h
  have t1 : x1 = Int32.ofInt x1.toInt := (jn_self x1).symm
  have t2 : x2 = Int32.ofInt x2.toInt := (jn_self x2).symm
  have r1 := x1.le_toInt
  have r1' := x1.toInt_lt
  have r2 := x2.le_toInt
  have r2' := x2.toInt_lt
  generalize x1.toInt = a at *
  generalize x2.toInt = b at *
  subst t1 t2
  have iv : pf_iv (Int32.ofInt b).toInt = (decide (0 ≤ b) && decide (b < 10)) := by rw [jn_to (by omega) (by omega)]; rfl
  have bad : ¬ (0 ≤ a ∧ a < ns ∧ 0 ≤ b ∧ b < 10) → ∃ r, some (.int (Int32.ofInt 0)) = some (Value.int r) ∧ sm_Sm g 87 [.ref 35, .int (Int32.ofInt a), .int (Int32.ofInt b)] M (fun o2 M2 => o2 = some (.int r) ∧ INV M2) := fun hb => by
    refine ⟨_, rfl, sm_entry (Nat.le_of_ble_eq_true rfl) (Nat.le_of_ble_eq_true rfl) (k87_0 (fun _ _ _ _ h => h) ?_)⟩
    have out : ((Int32.ofInt 0 = 0 ∨ Int32.ofInt 0 = 1) ∧ ((some (Value.int (Int32.ofInt 0)) = some (Value.int (Int32.ofInt 0))) ∧ INV (sm_sI M 35 0 (Int32.ofInt 0)))) := ⟨Or.inl rfl, rfl, INV_0 h' _⟩
    refine ⟨fun _ => out, fun q => ⟨fun _ => out, fun q2 => ⟨fun q3 => ?_, fun _ => out⟩⟩⟩
    rw [sm_z0, iv, Bool.not_eq_false, Bool.and_eq_true, decide_eq_true_eq, decide_eq_true_eq] at q3
    rw [pk_un (by decide), s3, jn_le (by omega) (by omega) (by omega) (by omega)] at q2
    rw [jn_0, jn_lt (by omega) (by omega) (by omega) (by omega)] at q
    omega
  refine sm_entry (Nat.le_of_ble_eq_true rfl) (Nat.le_of_ble_eq_true rfl) (k53_0 (fun _ _ _ _ h => h) ?_)
  rw [s2, jn_0, jn_lt (by omega) (by omega) (by omega) (by omega), jn_le (by omega) (by omega) (by omega) (by omega), jn_lt (by omega) (by omega) (by omega) (by omega), jn_lt (by omega) (by omega) (by omega) (by omega)]
  refine ⟨fun q => ⟨Or.inl rfl, bad (by omega)⟩, fun q => ⟨fun q2 => ⟨Or.inl rfl, bad (by omega)⟩, fun q2 => ⟨fun q3 => ⟨Or.inl rfl, bad (by omega)⟩, fun q3 => ⟨fun q4 => ?_, fun q4 => ⟨Or.inl rfl, bad (by omega)⟩⟩⟩⟩⟩
  have ok := i_ok s6
  have hokc : ∀ i : Int, 0 ≤ i → i < (ns : Int) → lv_ok (cd_l M 1 i) := fun i i1 i2 => by
    have := ln_ok (s4 i.toNat (by omega)) (ok i.toNat (by omega))
    rwa [show ((i.toNat : Nat) : Int) = i by omega] at this
  have cn : cd_n M 1 = (ns : Int) := by unfold cd_n; rw [s2, jn_to (by omega) (by omega)]
  refine sm_Sm_mono (c_find (u := 5) (c := 1) (by omega) cn (by omega) hokc) (fun o M1 h1 => ?_)
  obtain ⟨rfl, e1, e2, e3⟩ := h1
  obtain ⟨col, hc, hb⟩ := e3 b.toNat (by omega)
  have eb := hb a.toNat (by omega)
  rw [lv_Is_eq (lv_Is_c s4 hc) (lvc_Is (by omega) b.toNat)] at eb
  obtain ⟨z0, z1, z2, z3, z4⟩ := s4 a.toNat (by omega)
  rw [lv_on_c z0, lv_as_c z0 z2 z3] at eb
  show vp_in _ 48 ∧ _
  rw [jn_cl (a := a) (by omega) (by omega), bs_hbI (s := M1.2 6 a.toNat) (v := b) (by omega), show bs_t (M1.2 6 a.toNat) b.toNat = _ from eb]
  refine ⟨by rw [jn_in (by omega) (by omega)]; omega, sm_zb _, _, rfl, ?_⟩
  have hI : INV M1 := INV_c h' (fun p _ => by rw [e1]) (fun i _ => by rw [e1])
  refine sm_entry (Nat.le_of_ble_eq_true rfl) (Nat.le_of_ble_eq_true rfl) (k87_0 (fun _ _ _ _ h => h) ?_)
  rw [pk_un (by decide), e1, s3, jn_0, jn_lt (by omega) (by omega) (by omega) (by omega), jn_le (by omega) (by omega) (by omega) (by omega)]
  refine ⟨fun q => by omega, fun _ => ⟨fun q => by omega, fun _ => ⟨fun _ => ?_, fun q => ?_⟩⟩⟩
  · have L0 : Ln ns (rf_L (sm_sI M1 35 0 (Int32.ofInt 0)) 0) Ls := rL_c s5 (by rw [sI_1 (by decide), e1]) (by rw [sI_1 (by decide), e1]) (by rw [sI_1 (by decide), e1]) (by rw [sI_1 (by decide), e1]) (by rw [sI_1 (by decide), e1])
    have hrl : ∀ i : Int, 0 ≤ i → i < (ns : Int) → rl_ok (rf_L (sm_sI M1 35 0 (Int32.ofInt 0)) 0 i) := fun i i1 i2 => by
      have := ln_ok (L0 i.toNat (by omega)) (ok i.toNat (by omega))
      rw [show ((i.toNat : Nat) : Int) = i by omega] at this
      exact ⟨this.2.2.2.2.1, this.2.2.2.2.2⟩
    refine sm_Sm_mono (c_findLive (b := 0) (n := (ns : Int)) (by omega) (by omega) hrl) (fun o M2 h2 => ?_)
    obtain ⟨rfl, f1, f2, f3⟩ := h2
    obtain ⟨col2, hc2, hb2⟩ := f3 b.toNat (by omega)
    have eb2 := hb2 a.toNat (by omega)
    rw [lv_Is_eq (lv_Is_c L0 hc2) (lvc_Is (by omega) b.toNat)] at eb2
    obtain ⟨y0, y1, y2, y3, y4⟩ := L0 a.toNat (by omega)
    rw [lv_on_c y0, lv_as_c y0 y2 y3] at eb2
    show vp_in _ 2880 ∧ _
    rw [jn_mul, jn_add, show (Int32.ofInt (60 * a + b)).toNatClampNeg = 60 * a.toNat + b.toNat by rw [jn_cl (by omega) (by omega)]; omega, eb2]
    refine ⟨by rw [jn_in (by omega) (by omega)]; omega, sm_zb _, rfl, INV_c (INV_0 hI (Int32.ofInt 0)) (fun p hp => f2 p (by unfold i_p at hp; omega) (by unfold i_p at hp; omega)) (fun i _ => by rw [f2 35 (by decide) (by decide)])⟩
  · rw [iv, decide_eq_true (show 0 ≤ b by omega), decide_eq_true q4] at q
    exact absurd q (by decide)
theorem i_son {ns : Nat} {Ls : Int → Int → Int} (s6 : ∀ i : Nat, i < ns → sok (Ls i) ∧ Ls i 4 = (i : Int)) : ∀ i : Nat, i < ns → sok (Ls i) := fun i hi => (s6 i hi).1
theorem p_accepts (h : INV M) : pair g 60 114 [] M := by
  have h' := h
  obtain ⟨ns, Ls, ⟨s1, s2, s3, s4, s5, s6⟩, r, -⟩ := h
  refine sm_entry (Nat.le_of_ble_eq_true rfl) (Nat.le_of_ble_eq_true rfl) (k60_0 (fun _ _ _ _ h => h) ?_)
  rcases r with ⟨r1, r2⟩ | ⟨r1, r2, n, k, L, a1, a2, a3, a4, a5, a6, a7, a8, a9, a10⟩
  · rw [r1]
    refine ⟨fun _ => ⟨Or.inl rfl, _, rfl, sm_Sm_mono (c_raccepts0 r2) (fun o M2 h2 => ⟨h2.1, ?_⟩)⟩, fun q => absurd rfl q⟩
    exact INV_c h' (fun p hp => h2.2.1 p (by unfold i_p at hp; omega) (by unfold i_p at hp; omega) (by unfold i_p at hp; omega) (by unfold i_p at hp; omega)) h2.2.2.1
  · rw [r1, a7]
    refine ⟨fun q => absurd q z01, fun _ => sm_Sm_mono (c_agrees (ns := ns) (Ls := Ls) (n := n) (k := k) (L := L) ⟨⟨s1, a1.1, a1.2.2⟩, i_son s6, s4, a2, a4, a6⟩) (fun o M1 h1 => ?_)⟩
    obtain ⟨⟨b, rfl, hb⟩, f1⟩ := h1
    have hI : INV M1 := INV_c h' (fun p hp => f1.1 p (by unfold i_p at hp; omega) (by unfold i_p at hp; omega) (by unfold i_p at hp; omega)) (fun i _ => by rw [f1.1 35 (by decide) (by decide) (by decide)])
    have src : ∀ o : Nat, o < ns → M1.1 37 o = Int32.ofInt (Ls o 1) ∧ M1.1 38 o = Int32.ofInt (Ls o 2) ∧ M1.1 39 o = Int32.ofInt (Ls o 3) := fun o ho => by
      rw [f1.1 37 (by decide) (by decide) (by decide), f1.1 38 (by decide) (by decide) (by decide), f1.1 39 (by decide) (by decide) (by decide)]
      obtain ⟨b0, b1, b2, b3, b4⟩ := s5 o ho
      have z : (0 + (o : Int)).toNat = o := by omega
      have b1 : (M.1 37 (0 + (o : Int)).toNat).toInt = Ls o 1 := b1
      have b2 : (M.1 38 (0 + (o : Int)).toNat).toInt = Ls o 2 := b2
      have b3 : (M.1 39 (0 + (o : Int)).toNat).toInt = Ls o 3 := b3
      rw [z] at b1 b2 b3
      rw [← b1, ← b2, ← b3]
      exact ⟨(jn_self _).symm, (jn_self _).symm, (jn_self _).symm⟩
    have R := c_raccepts (g := g) (ns := ns) (Ls := Ls) (n := n) (k := k) (L := L) (M0 := M1) ⟨⟨s1, a1.1, a1.2.2⟩, i_son s6, src, by rw [f1.1 35 (by decide) (by decide) (by decide)]; exact a3, rL_c a5 (f1.1 36 (by decide) (by decide) (by decide)) (f1.1 37 (by decide) (by decide) (by decide)) (f1.1 38 (by decide) (by decide) (by decide)) (f1.1 39 (by decide) (by decide) (by decide)) (f1.1 40 (by decide) (by decide) (by decide)), a6⟩ (by rw [f1.1 35 (by decide) (by decide) (by decide)]; exact r2)
    have fin : sm_Sm g 114 [.ref 35] M1 (fun o2 M2 => o2 = some (.int (sm_z b)) ∧ INV M2) := sm_Sm_mono R (fun o2 M2 h2 => by
      obtain ⟨⟨b2, rfl, hb2⟩, f2⟩ := h2
      refine ⟨by rw [ck_ans_un hb2 hb], INV_c hI (fun p hp => f2.1 p (by unfold i_p at hp; omega) (by unfold i_p at hp; omega) (by unfold i_p at hp; omega) (by unfold i_p at hp; omega)) f2.2.1⟩)
    show (_ → _) ∧ (_ → _)
    rw [sm_z0]
    refine ⟨fun q => ⟨Or.inl rfl, _, rfl, ?_⟩, fun q => ⟨Or.inr rfl, _, rfl, ?_⟩⟩
    · rw [q] at fin; rw [sm_o0]; exact fin
    · rw [Bool.not_eq_false] at q
      rw [q] at fin; rw [sm_o1]; exact fin
end
