-- the reference's degree and isSafe
def jr_is (M : sm_M) (gr : Nat → Bool) (nr : Nat → Nat → Bool) : Prop := (∀ v, v < 60 → M.1 44 v = sm_z (gr v)) ∧ ∀ u, u < 60 → ∀ v, v < 60 → M.1 43 (60 * u + v) = sm_z (nr u v)
def jr_ok (gr : Nat → Bool) (nr nb : Nat → Nat → Bool) : Prop := (∀ u v, u < 60 → v < 60 → gr u = true → gr v = true → nr u v = nb u v) ∧ (∀ u v, u < 60 → v < 60 → nb u v = true → gr u = true ∧ gr v = true) ∧ ∀ u v, u < 60 → v < 60 → nb u v = nb v u
section
variable {g : sm_G} {M : sm_M}
theorem c_degree {gr lf : Nat → Bool} {nr : Nat → Nat → Bool} (h : jr_is M gr nr) {u : Nat} (hu : u < 60) {f : Bool} (hlf : f = true → ∀ v, v < 60 → M.1 47 v = sm_z (lf v)) : sm_Sm g 90 [.ref 35, .int (Int32.ofInt (u : Int)), .int (sm_z f)] M (sm_P (.int (Int32.ofInt ((bct (fun v => gr v && (nr u v && (!f || lf v))) 60 : Nat) : Int))) M) := by
  generalize hF : (fun v => gr v && (nr u v && (!f || lf v))) = F
  generalize hQ : sm_P (.int (Int32.ofInt ((bct F 60 : Nat) : Int))) M = Q
  have loop : ∀ (d w : Nat), w + d = 60 → sm_Go g 90 (sm_Fn g Q) 5 [.ref 35, .int (Int32.ofInt (u : Int)), .int (sm_z f), .int (Int32.ofInt ((bct F w : Nat) : Int)), .int (Int32.ofInt (w : Int))] [] M := by
    intro d
    induction d with
    | zero =>
      intro w hw
      have ew : w = 60 := by omega
      subst ew
      refine k90_5 (fun _ _ _ _ h => h) ⟨fun _ => ?_, fun q => absurd ?_ q⟩
      · rw [← hQ]; exact ⟨rfl, rfl⟩
      · rw [jn_le (by omega) (by omega) (by omega) (by omega)]; omega
    | succ d ih =>
      intro w hw
      have on : ∀ (c : Nat) (x3 : Int32), c = bct F (w + 1) → sm_Go g 90 (sm_Fn g Q) 58 [.ref 35, .int (Int32.ofInt (u : Int)), .int (sm_z f), .int x3, .int (Int32.ofInt (w : Int))] [.int (Int32.ofInt (c : Int))] M := by
        intro c x3 hc
        subst hc
        refine k90_58 (fun _ _ _ _ h => h) ?_
        rw [jn_add, show (w : Int) + 1 = ((w + 1 : Nat) : Int) by omega]
        exact ih (w + 1) (by omega)
      have no : F w = false → sm_Go g 90 (sm_Fn g Q) 57 [.ref 35, .int (Int32.ofInt (u : Int)), .int (sm_z f), .int (Int32.ofInt ((bct F w : Nat) : Int)), .int (Int32.ofInt (w : Int))] [] M := fun z => k90_57 (fun _ _ _ _ h => h) (on _ _ (by rw [bct, z]; rfl))
      have yes : F w = true → sm_Go g 90 (sm_Fn g Q) 51 [.ref 35, .int (Int32.ofInt (u : Int)), .int (sm_z f), .int (Int32.ofInt ((bct F w : Nat) : Int)), .int (Int32.ofInt (w : Int))] [] M := fun z => by
        refine k90_51 (fun _ _ _ _ h => h) ?_
        rw [jn_add, show ((bct F w : Nat) : Int) + 1 = ((bct F w + 1 : Nat) : Int) by omega]
        exact on _ _ (by rw [bct, z]; rfl)
      have inw : vp_in (Int32.ofInt (w : Int)) 60 := by rw [jn_in (by omega) (by omega)]; omega
      have eF : F w = (gr w && (nr u w && (!f || lf w))) := by rw [← hF]
      refine k90_5 (fun _ _ _ _ h => h) ⟨fun q => ?_, fun _ => ?_⟩
      · rw [jn_le (by omega) (by omega) (by omega) (by omega)] at q; omega
      · rw [show (Int32.ofInt (w : Int)).toNatClampNeg = w by rw [jn_cl (by omega) (by omega)]; omega, jn_mul, jn_add, show (Int32.ofInt (60 * (u : Int) + (w : Int))).toNatClampNeg = 60 * u + w by rw [jn_cl (by omega) (by omega)]; omega, h.1 w (by omega), h.2 u hu w (by omega), sm_z0, sm_z0, sm_z0]
        refine ⟨inw, fun q => no ?_, fun q => ⟨by rw [jn_in (by omega) (by omega)]; omega, fun q2 => no ?_, fun q2 => ⟨fun q3 => yes ?_, fun q3 => ⟨inw, ?_⟩⟩⟩⟩
        · rw [eF, q]; rfl
        · rw [eF, q2]; simp
        · rw [Bool.not_eq_false] at q q2
          rw [eF, q, q2, q3]; rfl
        · rw [Bool.not_eq_false] at q q2 q3
          rw [hlf q3 w (by omega), sm_z0]
          refine ⟨fun q4 => no ?_, fun q4 => yes ?_⟩
          · rw [eF, q4, q3]; simp
          · rw [Bool.not_eq_false] at q4
            rw [eF, q, q2, q4]; simp
  refine sm_entry (Nat.le_of_ble_eq_true rfl) (Nat.le_of_ble_eq_true rfl) ?_
  exact k90_0 (fun _ _ _ _ h => h) (loop 60 0 (by omega))
theorem c_isSafe {gr : Nat → Bool} {nr nb : Nat → Nat → Bool} (h : jr_is M gr nr) (hk : jr_ok gr nr nb) {a b : Nat} (ha : a < 60) (hb : b < 60) (ga : gr a = true) (gb : gr b = true) {k : Int} (hk2 : 0 ≤ k ∧ k < 100) : sm_Sm g 91 [.ref 35, .int (Int32.ofInt (a : Int)), .int (Int32.ofInt (b : Int)), .int (Int32.ofInt k)] M (sm_P (.int (sm_z (decide ((bct (jo_cs nb a b k) 60 : Int) < k)))) M) := by
  generalize hQ : sm_P (.int (sm_z (decide ((bct (jo_cs nb a b k) 60 : Int) < k)))) M = Q
  obtain ⟨k1, k2, k3⟩ := hk
  have loop : ∀ (d w : Nat), w + d = 60 → sm_Go g 91 (sm_Fn g Q) 6 [.ref 35, .int (Int32.ofInt (a : Int)), .int (Int32.ofInt (b : Int)), .int (Int32.ofInt k), .int (Int32.ofInt ((bct (jo_cs nb a b k) w : Nat) : Int)), .int (Int32.ofInt (w : Int)), .null, .null, .null] [] M := by
    intro d
    induction d with
    | zero =>
      intro w hw
      have ew : w = 60 := by omega
      subst ew
      have := bct_le (jo_cs nb a b k) 60
      refine k91_6 (fun _ _ _ _ h => h) ⟨fun _ => ?_, fun q => absurd ?_ q⟩
      · rw [jn_le (by omega) (by omega) (by omega) (by omega), ← hQ]
        refine ⟨fun q => ⟨Or.inl rfl, ?_, rfl⟩, fun q => ⟨Or.inr rfl, ?_, rfl⟩⟩
        · rw [decide_eq_false (show ¬ ((bct (jo_cs nb a b k) 60 : Nat) : Int) < k by omega), sm_o0]
        · rw [decide_eq_true (show ((bct (jo_cs nb a b k) 60 : Nat) : Int) < k by omega), sm_o1]
      · rw [jn_le (by omega) (by omega) (by omega) (by omega)]; omega
    | succ d ih =>
      intro w hw
      have hw6 : w < 60 := by omega
      have b1 := bct_le (jo_cs nb a b k) w
      have b2 := bct_le (nb w) 60
      have on : ∀ (c : Nat) (x6 x7 : Int32), c = bct (jo_cs nb a b k) (w + 1) → sm_Go g 91 (sm_Fn g Q) 109 [.ref 35, .int (Int32.ofInt (a : Int)), .int (Int32.ofInt (b : Int)), .int (Int32.ofInt k), .int (Int32.ofInt (c : Int)), .int (Int32.ofInt (w : Int)), .int x6, .int x7, .null] [] M := by
        intro c x6 x7 hc
        subst hc
        refine k91_109 (fun _ _ _ _ h => h) ?_
        rw [jn_add, show (w : Int) + 1 = ((w + 1 : Nat) : Int) by omega]
        exact sm_wk (L := [.ref 35, .int (Int32.ofInt (a : Int)), .int (Int32.ofInt (b : Int)), .int (Int32.ofInt k), .int (Int32.ofInt ((bct (jo_cs nb a b k) (w + 1) : Nat) : Int)), .int (Int32.ofInt ((w + 1 : Nat) : Int)), .null, .null, .null]) ⟨rfl, rfl, rfl, rfl, rfl, rfl, trivial⟩ (ih (w + 1) (by omega))
      have h90 : ∀ x6 x7 : Int32, gr w = true → (nb a w || nb b w) = true → sm_Go g 91 (sm_Fn g Q) 90 [.ref 35, .int (Int32.ofInt (a : Int)), .int (Int32.ofInt (b : Int)), .int (Int32.ofInt k), .int (Int32.ofInt ((bct (jo_cs nb a b k) w : Nat) : Int)), .int (Int32.ofInt (w : Int)), .int x6, .int x7, .null] [.int (Int32.ofInt (jo_d nb a b w))] M := by
        intro x6 x7 gw hn
        have rd : -1 ≤ jo_d nb a b w ∧ jo_d nb a b w ≤ 60 := by unfold jo_d; split <;> omega
        refine k91_90 (fun _ _ _ _ h => h) ?_
        rw [jn_lt (by omega) (by omega) (by omega) (by omega), jn_add, show ((bct (jo_cs nb a b k) w : Nat) : Int) + 1 = ((bct (jo_cs nb a b k) w + 1 : Nat) : Int) by omega]
        refine ⟨fun q => k91_107 (fun _ _ _ _ h => h) ?_, fun q => k91_107 (fun _ _ _ _ h => h) ?_⟩
        · exact sm_wk (L := [.ref 35, .int (Int32.ofInt (a : Int)), .int (Int32.ofInt (b : Int)), .int (Int32.ofInt k), .int (Int32.ofInt ((bct (jo_cs nb a b k) w : Nat) : Int)), .int (Int32.ofInt (w : Int)), .int x6, .int x7, .null]) ⟨rfl, rfl, rfl, rfl, rfl, rfl, rfl, rfl, trivial⟩ (on _ _ _ (by rw [bct, jo_cs, hn, decide_eq_true q]; rfl))
        · exact sm_wk (L := [.ref 35, .int (Int32.ofInt (a : Int)), .int (Int32.ofInt (b : Int)), .int (Int32.ofInt k), .int (Int32.ofInt ((bct (jo_cs nb a b k) w + 1 : Nat) : Int)), .int (Int32.ofInt (w : Int)), .int x6, .int x7, .null]) ⟨rfl, rfl, rfl, rfl, rfl, rfl, rfl, rfl, trivial⟩ (on _ _ _ (by rw [bct, jo_cs, hn, decide_eq_false q]; rfl))
      have deg : gr w = true → sm_Sm g 90 [.ref 35, .int (Int32.ofInt (w : Int)), .int (Int32.ofInt 0)] M (sm_P (.int (Int32.ofInt ((bct (nb w) 60 : Nat) : Int))) M) := fun gw => by
        have e := c_degree (g := g) (lf := fun _ => true) h hw6 (f := false) (fun z => by cases z)
        rw [bct_c (f' := nb w) 60 (fun i hi => by
          try dsimp only
          by_cases gi : gr i = true
          · rw [gi, k1 w i hw6 hi gw gi]; simp
          · have : nb w i = false := by
              cases z : nb w i
              · rfl
              · exact absurd (k2 w i hw6 hi z).2 gi
            simp only [Bool.not_eq_true] at gi
            rw [gi, this]; rfl), ← sm_o0] at e
        exact e
      have h61 : gr w = true → (nb a w || nb b w) = true → sm_Go g 91 (sm_Fn g Q) 61 [.ref 35, .int (Int32.ofInt (a : Int)), .int (Int32.ofInt (b : Int)), .int (Int32.ofInt k), .int (Int32.ofInt ((bct (jo_cs nb a b k) w : Nat) : Int)), .int (Int32.ofInt (w : Int)), .int (sm_z (nb a w)), .int (sm_z (nb b w)), .null] [] M := by
        intro gw hn
        have h83 : (nb a w && nb b w) = false → sm_Go g 91 (sm_Fn g Q) 83 [.ref 35, .int (Int32.ofInt (a : Int)), .int (Int32.ofInt (b : Int)), .int (Int32.ofInt k), .int (Int32.ofInt ((bct (jo_cs nb a b k) w : Nat) : Int)), .int (Int32.ofInt (w : Int)), .int (sm_z (nb a w)), .int (sm_z (nb b w)), .null] [] M := fun z => by
          refine k91_83 (fun _ _ _ _ h => h) (sm_Sm_mono (deg gw) (fun o M' h' => ?_))
          obtain ⟨rfl, rfl⟩ := h'
          have e := h90 (sm_z (nb a w)) (sm_z (nb b w)) gw hn
          rw [jo_d, k3 w a hw6 ha, k3 w b hw6 hb, z] at e
          show sm_Go g 91 _ 90 _ _ _
          simpa using e
        refine k91_61 (fun _ _ _ _ h => h) ?_
        rw [sm_z0, sm_z0]
        refine ⟨fun q => h83 (by rw [q]; rfl), fun q => ⟨fun q2 => h83 (by rw [q2]; simp), fun q2 => sm_Sm_mono (deg gw) (fun o M' h' => ?_)⟩⟩
        obtain ⟨rfl, rfl⟩ := h'
        rw [Bool.not_eq_false] at q q2
        have e := h90 (sm_z (nb a w)) (sm_z (nb b w)) gw hn
        rw [jo_d, k3 w a hw6 ha, k3 w b hw6 hb, q, q2] at e
        show sm_Go g 91 _ 90 _ [.int (Int32.ofInt _ - Int32.ofInt 1)] _
        rw [jn_sub, q, q2]
        simpa using e
      refine k91_6 (fun _ _ _ _ h => h) ⟨fun q => ?_, fun _ => ?_⟩
      · rw [jn_le (by omega) (by omega) (by omega) (by omega)] at q; omega
      · rw [show (Int32.ofInt (w : Int)).toNatClampNeg = w by rw [jn_cl (by omega) (by omega)]; omega, jn_mul, jn_add, jn_mul, jn_add, show (Int32.ofInt (60 * (a : Int) + (w : Int))).toNatClampNeg = 60 * a + w by rw [jn_cl (by omega) (by omega)]; omega, show (Int32.ofInt (60 * (b : Int) + (w : Int))).toNatClampNeg = 60 * b + w by rw [jn_cl (by omega) (by omega)]; omega, h.1 w hw6, h.2 a ha w hw6, h.2 b hb w hw6, sm_z0, sm_z0, sm_z0]
        refine ⟨by rw [jn_in (by omega) (by omega)]; omega, by rw [jn_in (by omega) (by omega)]; omega, by rw [jn_in (by omega) (by omega)]; omega, fun q => on _ _ _ ?_, fun q => ?_⟩
        · have na : nb a w = false := by
            cases z : nb a w
            · rfl
            · rw [(k2 a w ha hw6 z).2] at q; cases q
          have nbb : nb b w = false := by
            cases z : nb b w
            · rfl
            · rw [(k2 b w hb hw6 z).2] at q; cases q
          rw [bct, jo_cs, na, nbb]; rfl
        · rw [Bool.not_eq_false] at q
          rw [k1 a w ha hw6 ga q, k1 b w hb hw6 gb q]
          refine ⟨fun q2 => h61 q ?_, fun q2 => ⟨fun q3 => on _ _ _ ?_, fun q3 => h61 q ?_⟩⟩
          · rw [Bool.not_eq_false] at q2
            rw [q2]; rfl
          · rw [bct, jo_cs, q2, q3]; rfl
          · rw [Bool.not_eq_false] at q3
            rw [q3]; simp
  refine sm_entry (Nat.le_of_ble_eq_true rfl) (Nat.le_of_ble_eq_true rfl) ?_
  exact k91_0 (fun _ _ _ _ h => h) (loop 60 0 (by omega))
end
