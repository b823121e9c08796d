-- the law's loop
theorem l_and (x : Int32) : 0 ≤ (x &&& 15).toInt ∧ (x &&& 15).toInt ≤ 15 := by
  have h : (x &&& 15).toBitVec.toNat ≤ 15 := by
    rw [Int32.toBitVec_and, BitVec.toNat_and]; exact Nat.and_le_right
  have e : (x &&& 15).toInt = ((x &&& 15).toBitVec.toNat : Int) := by
    show (x &&& 15).toBitVec.toInt = _
    exact BitVec.toInt_eq_toNat_of_lt (by omega)
  omega
section
variable {p : Program} {l : Launch} {e : Env} {s : State} {m : MethodId} {below : List Frame} {meth : Method} {c : Code} {b L : Nat} {xs : Nat → Int32} {g : sm_G}
theorem l_loop (hC : lCx g p e s m meth c b L xs) {N0 : Nat} (hN : N0 ≤ 27290) : ∀ (t i : Nat) (n : Nat × Nat) (M : sm_M) (f : Nat → Int64) (H : Heap) (locs : List Loc) (ls : Array Slot), L + 5 - i ≤ t → i ≤ L + 5 → 5 * n.1 ≤ 300 + i → 5 * n.2 ≤ 5 * N0 + 6 * i → INV M → va_P g.1 sm_Cl (lwo g M f) H → va_S (A1 g) s.heap H locs → lv_has ls 7 (lvi g b i) → lW p l e s m below meth c b H locs n (F0 m 23 ls [])
  | t, i, n, M, f, H, locs, ls, ht, hi, b1, b2, hI, hP, hS, hl => by
    obtain ⟨hx, htr, hb, hml, hown, hX, hxs, hbg, hgs, hL, hr, hlk⟩ := id hC
    refine lv_iload hx hb dd_law_23 (lv_at hl 4 rfl) ?_
    refine lv_aload_n (i := 0) hx hb dd_law_25 rfl (lv_at hl 0 rfl) ?_
    refine va_slen hx hb hxs (by omega) (fun z => by have z : g.2.2 ≤ b := z; omega) hS dd_law_26 ?_
    refine lv_iconst hx hb dd_law_27 rfl ?_
    refine lv_isub hx hb dd_law_28 ?_
    have es : Int32.ofNat L - Int32.ofInt 5 = Int32.ofInt ((L : Int) - 5) := by
      rw [show Int32.ofNat L = Int32.ofInt (L : Int) from by first | rfl | exact (Int32.ofInt_eq_ofNat).symm]
      exact (Int32.ofInt_sub _ _).symm
    rw [es]
    refine lv_icmp_gt (tgt := 602) hx hb dd_law_29 (by decide) (fun z => ?_) (fun z => ?_)
    · refine lv_iconst (v := 1) hx hb dd_law_602 rfl ?_
      refine va_forget (fun q hq => by rw [← hgs]; exact hS.2.2 q hq) ?_
      exact W.widen (by omega) (by omega) (lw_ret hx hb hr hlk dd_law_603)
    · have hi5 : i + 5 ≤ L := by
        rw [jn_lt (by omega) (by omega) (by omega) (by omega)] at z; omega
      match t, ht with
      | 0, ht => omega
      | t + 1, ht =>
      have hn : n.1 + 1 ≤ 1091 ∧ n.2 + 6 ≤ 30369 := by omega
      have N : lNx g p l e s m below meth c b i (n.1 + 1, n.2 + 6) := fun M' f' H' locs' ls' hI' hP' hS' hl' => by
        refine lv_iinc (k := 4) (v := Int32.ofInt ((i + 5 : Nat) : Int)) hx hb dd_law_596 hl' rfl (by rw [jn_add]; exact congrArg Int32.ofInt (by omega)) (by decide) rfl (fun ls2 hl2 => ?_)
        refine lv_goto hx hb dd_law_599 (tgt := 23) (by decide) ?_
        exact l_loop hC hN t (i + 5) (n.1 + 1, n.2 + 6) M' f' H' locs' ls2 (by omega) (by omega) (by simp only; omega) (by simp only; omega) hI' hP' hS' (lv_sub hl2 [1, 2, 3, 4, 0] rfl)
      refine lv_aload_n (i := 0) hx hb dd_law_32 rfl (lv_at hl 0 rfl) ?_
      refine lv_iload hx hb dd_law_33 (lv_at hl 4 rfl) ?_
      have hin : vp_in (Int32.ofInt (i : Int)) L := by rw [jn_in (by omega) (by omega)]; omega
      refine va_sld hx hb hxs (by omega) (fun z => by have z : g.2.2 ≤ b := z; omega) hS hin dd_law_35 ?_
      refine lv_bipush (v := 15) hx hb dd_law_36 rfl ?_
      refine lv_iand hx hb dd_law_38 ?_
      have hv := l_and (xs (Int32.ofInt (i : Int)).toNatClampNeg)
      generalize (xs (Int32.ofInt (i : Int)).toNatClampNeg &&& 15) = v at hv ⊢
      have cases16 : v.toInt = 0 ∨ v.toInt = 1 ∨ v.toInt = 2 ∨ v.toInt = 3 ∨ v.toInt = 4 ∨ v.toInt = 5 ∨ v.toInt = 6 ∨ v.toInt = 7 ∨ v.toInt = 8 ∨ v.toInt = 9 ∨ v.toInt = 10 ∨ v.toInt = 11 ∨ v.toInt = 12 ∨ 12 < v.toInt := by omega
      rcases cases16 with h | h | h | h | h | h | h | h | h | h | h | h | h | h
      · exact lv_tableIn hx hb dd_law_39 (tgt := 104) (by omega) (by omega) (by rw [h]; rfl) (by decide) (lc_0 hC hn hI hP hS hi5 hl N)
      · exact lv_tableIn hx hb dd_law_39 (tgt := 196) (by omega) (by omega) (by rw [h]; rfl) (by decide) (lc_1 hC hn hI hP hS hi5 hl N)
      · exact lv_tableIn hx hb dd_law_39 (tgt := 209) (by omega) (by omega) (by rw [h]; rfl) (by decide) (lc_2 hC hn hI hP hS hi5 hl N)
      · exact lv_tableIn hx hb dd_law_39 (tgt := 246) (by omega) (by omega) (by rw [h]; rfl) (by decide) (lc_3 hC hn hI hP hS hi5 hl N)
      · exact lv_tableIn hx hb dd_law_39 (tgt := 302) (by omega) (by omega) (by rw [h]; rfl) (by decide) (lc_4 hC hn hI hP hS hi5 hl N)
      · exact lv_tableIn hx hb dd_law_39 (tgt := 315) (by omega) (by omega) (by rw [h]; rfl) (by decide) (lc_5 hC hn hI hP hS hi5 hl N)
      · exact lv_tableIn hx hb dd_law_39 (tgt := 383) (by omega) (by omega) (by rw [h]; rfl) (by decide) (lc_6 hC hn hI hP hS hi5 hl N)
      · exact lv_tableIn hx hb dd_law_39 (tgt := 396) (by omega) (by omega) (by rw [h]; rfl) (by decide) (lc_7 hC hn hI hP hS hi5 hl N)
      · exact lv_tableIn hx hb dd_law_39 (tgt := 409) (by omega) (by omega) (by rw [h]; rfl) (by decide) (lc_8 hC hn hI hP hS hi5 hl N)
      · exact lv_tableIn hx hb dd_law_39 (tgt := 458) (by omega) (by omega) (by rw [h]; rfl) (by decide) (lc_9 hC hn hI hP hS hi5 hl N)
      · exact lv_tableIn hx hb dd_law_39 (tgt := 471) (by omega) (by omega) (by rw [h]; rfl) (by decide) (lc_10 hC hn hI hP hS hi5 hl N)
      · exact lv_tableIn hx hb dd_law_39 (tgt := 527) (by omega) (by omega) (by rw [h]; rfl) (by decide) (lc_11 hC hn hI hP hS hi5 hl N)
      · exact lv_tableIn hx hb dd_law_39 (tgt := 583) (by omega) (by omega) (by rw [h]; rfl) (by decide) (lc_12 hC hn hI hP hS hi5 hl N)
      · exact lv_tableOut hx hb dd_law_39 (tgt := 596) (Or.inr (by omega)) (by decide) (W.widen (Nat.le_succ _) (Nat.le_add_right _ _) (N M f H locs ls hI hP hS hl))
end
