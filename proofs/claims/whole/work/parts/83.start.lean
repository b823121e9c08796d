-- the law from its entry
section
variable {p : Program} {l : Launch} {e : Env} {R : Room} {s : State} {m : MethodId} {args : Array Value} {below : List Frame} {meth : Method} {c : Code} {H : Heap} {locs : List Loc} {cells slots : Nat} {Q : State → Prop} {cc : ByteArray} {pc : Nat} {ls : Array Slot} {rest : List Value} {g : sm_G} {k : Nat} {E : Nat → va_E}
theorem kw_callL {own : String} {nL : Nat} (hx : p.tables.exec = Jvm.exec) (hb : c.code = cc) (hml : c.maxLocals = nL) (how : s.vm.findClass own = some m.cls) (hK : KX g s) (hls : ls.size = nL) (hS : kS g s k E H locs cells) {C : String} {bytes : ByteArray} {fr lo mc ms p0 k' idx : Nat} {E' : Nat → va_E} (hM : ctM l g C bytes fr lo mc ms k E p0 k' E') (hk : k' = k + mc)
    (jc jl : Nat) (w1 : ct_ws[jc]? = some (.code (ct_n C) bytes 1 none)) (w2 : ct_ws[jc + 1]? = some (.initialized C)) (w3 : ct_ws[jc + 2]? = some (.instanceMethod (ct_n C))) (w4 : ct_ws[jl]? = some (.methodLink own idx (ct_n C))) (hy : C ≠ "java/lang/invoke/MethodHandle" ∧ C ≠ "java/lang/invoke/VarHandle")
    (r1 : fr + 1 ≤ R.frames) (r2 : 8 + (1 + 11) + lo ≤ R.locals) (r3 : cells + mc ≤ R.cells) (r4 : slots + ms ≤ R.slots) (hst : (rest.map fun v => v.category).sum ≤ 8) (hdg : decode cc pc = .ok (.invokespecial idx, 3))
    (kk : ∀ (H1 : Heap) (locs1 : List Loc), kS g s k' E' H1 locs1 (cells + mc) → W p l e R s m args below meth c H1 locs1 (cells + mc) (slots + ms) Q (F0 m (pc + 3) ls rest)) : W p l e R s m args below meth c H locs cells slots Q (F0 m pc ls (.ref (g.2.2 + p0) :: rest)) := by
  have hcode : (Cond.code (ct_n C) bytes 1 none).before args s = true := KX_w hK jc w1 rfl
  have hwk : ∀ w ∈ [Cond.code (ct_n C) bytes 1 none], ∀ (a' : Array Value) (U : State), s.WarmedH U.vm → w.before a' U = true := by
    intro w hw a' U hW
    rw [List.mem_singleton.mp hw]
    exact word_at hW (Or.inl rfl) hcode
  have hrun := va_runI (p := p) (l := l) (e := e) (R := R) (s := s) (m := m) (args := args) (below := below) (meth := meth) (c := c) (H := H) (locs := locs) (cells := cells) (slots := slots) (Ts := []) (cc := cc) (nL := nL) (own := own) (index := idx) (n := 0) (bytes := bytes) (maxL := 1) (As := []) (b := g.2.2 + p0) (rest := rest) (g := F0 m pc ls (.ref (g.2.2 + p0) :: rest)) ⟨hx, hb, hml, how, fun w hw => by cases hw⟩ hM ⟨⟨rfl, rfl, r1, r2, hwk, List.mem_singleton.mpr rfl, hcode, KX_w hK (jc + 1) w2 rfl, hy, fun sig h => by
      have h' : (parseMethodDescriptor "()V").map (fun d => d.parameters.length) = some 0 := by decide +kernel
      have h : parseMethodDescriptor "()V" = some sig := h
      rw [h] at h'
      exact (Option.some.inj h').symm, KX_w hK jl w4 rfl⟩, rfl, KX_w hK (jc + 2) w3 rfl⟩ (ct_pre hK hS) rfl rfl hls rfl (by show 2 * 0 + _ ≤ 8; omega) hdg ⟨r3, r4⟩
  exact kw_ran (C := C) hk hS hrun kk
end
theorem ws_start {p : Program} {e : Env} {s : State} {m : MethodId} {below : List Frame} {meth : Method} {c : Code} (l : Launch) {b L : Nat} {xs : Nat → Int32} (hL : L ≤ 2560) (C0 : lw_At p s m meth c b L xs) (htr : e.platform.stackTraces = false) : W p l e room_1 s m #[Value.ref b] below meth c s.heap [] 0 0 (lw_Z below #[Value.ref b] s) (entryFrame m ([Value.ref b] : List Value).toArray 7) := by
  obtain ⟨hx, hb, hr, hml, hown, hts, hX, hbl, hlk, hgv⟩ := C0
  obtain ⟨g, hg, hK0⟩ := s0_g hts
  have hK := s0_KX hts hK0
  have LL := s0_LX hts hgv hg hK0
  have hl := lv_entry [Value.ref b] (n := 7) (Nat.le_of_ble_eq_true rfl)
  have e0 := lg_entry_eq (m := m) (vs := [Value.ref b]) (n := 7)
  rw [e0]
  generalize (lg_sl [Value.ref b] ++ List.replicate (7 - (lg_sl [Value.ref b]).length) Slot.unset).toArray = ls at hl ⊢
  have hS0 : kS g s 0 (fun _ => ka 0 0) s.heap [] 0 := ⟨fun k q h => by obtain ⟨z, -⟩ := pw_of h; omega, by omega, va_S.rf, by omega, by omega⟩
  refine kw_new (ci := 8) (fs := [.null, .null, .null, .null, .null, .null, .int 0]) hx hb hK hS0 hown rfl rfl (KX_w hK 127 rfl rfl) (KX_w hK 37 rfl rfl) (KX_w hK 35 rfl rfl) (by intro j hj; match j, hj with | 0, _ => rfl | 1, _ => rfl | 2, _ => rfl | 3, _ => rfl | 4, _ => rfl | 5, _ => rfl | 6, _ => rfl) (by decide) (by decide) dd_law_0 (fun H1 hS1 => ?_)
  refine lv_dup hx hb dd_law_3 rfl ?_
  refine kw_callL (p0 := 0) hx hb hml hown hK hl.1 hS1 (ct_8 (by omega) kup_s) rfl 34 125 rfl rfl rfl rfl ⟨by decide +kernel, by decide +kernel⟩ (by decide) (by decide) (by decide) (by decide) (Nat.le_of_ble_eq_true rfl) dd_law_4 (fun H2 locs2 hS2 => ?_)
  refine lv_astore_n (i := 1) hx hb dd_law_7 rfl hl (by decide) rfl (fun ls1 hl1 => ?_)
  refine kw_new (ci := 9) (fs := [.int 0, .null, .null, .null, .null, .null, .int 0, .int 0, .int 0, .null, .null, .null, .null, .null, .null, .null, .null, .null, .null, .null, .int 0, .int 0, .int 0, .int 0, .int 0, .null, .int 0, .null, .null, .null, .null, .null, .null, .int 0, .int 0]) hx hb hK hS2 hown rfl rfl (KX_w hK 128 rfl rfl) (KX_w hK 41 rfl rfl) (KX_w hK 39 rfl rfl) (by intro j hj; match j, hj with | 0, _ => rfl | 1, _ => rfl | 2, _ => rfl | 3, _ => rfl | 4, _ => rfl | 5, _ => rfl | 6, _ => rfl | 7, _ => rfl | 8, _ => rfl | 9, _ => rfl | 10, _ => rfl | 11, _ => rfl | 12, _ => rfl | 13, _ => rfl | 14, _ => rfl | 15, _ => rfl | 16, _ => rfl | 17, _ => rfl | 18, _ => rfl | 19, _ => rfl | 20, _ => rfl | 21, _ => rfl | 22, _ => rfl | 23, _ => rfl | 24, _ => rfl | 25, _ => rfl | 26, _ => rfl | 27, _ => rfl | 28, _ => rfl | 29, _ => rfl | 30, _ => rfl | 31, _ => rfl | 32, _ => rfl | 33, _ => rfl | 34, _ => rfl | n + 35, h => exact absurd h (by omega)) (by decide) (by decide) dd_law_8 (fun H3 hS3 => ?_)
  refine lv_dup hx hb dd_law_11 rfl ?_
  refine kw_callL (p0 := 35) hx hb hml hown hK hl1.1 hS3 (ct_9 (by omega) kup_s) rfl 38 126 rfl rfl rfl rfl ⟨by decide +kernel, by decide +kernel⟩ (by decide) (by decide) (by decide) (by decide) (Nat.le_of_ble_eq_true rfl) dd_law_12 (fun H4 locs4 hS4 => ?_)
  refine lv_astore_n (i := 2) hx hb dd_law_15 rfl hl1 (by decide) rfl (fun ls2 hl2 => ?_)
  refine lv_iconst (v := 1) hx hb dd_law_16 rfl ?_
  refine kw_newl (N := 1) hx hb hK hS4 (by decide) rfl (by decide) (by decide) (by decide) dd_law_17 (fun H5 hS5 => ?_)
  refine lv_astore_n (i := 3) hx hb dd_law_19 rfl hl2 (by decide) rfl (fun ls3 hl3 => ?_)
  refine lv_iconst (v := 0) hx hb dd_law_20 rfl ?_
  refine lv_istore hx hb dd_law_21 hl3 (by decide) rfl (fun ls4 hl4 => ?_)
  have hP5 : va_P g.1 sm_Cl (pw g 60 (st_F g)) H5 := hS5.1
  have hlv : lv_has ls4 7 (lvi g b 0) := lv_sub hl4 [4, 3, 2, 1, 0] rfl
  exact l_loop (N0 := 22135) ⟨hx, htr, hb, hml, hown, LL, hX, by omega, hg, hL, hr, hlk⟩ (by decide) (L + 5) 0 (60, 22135) _ _ H5 _ ls4 (by omega) (by omega) (by decide) (by decide) INV_z (st_P hP5) hS5.2.2.1 hlv
