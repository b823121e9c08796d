-- the constructors: a world of k cells, one behind the other
def kup (E : Nat → va_E) (p : Nat) (e : va_E) : Nat → va_E := fun q => bif Nat.beq q p then e else E q
theorem kup_s {E : Nat → va_E} {p : Nat} {e : va_E} : kup E p e p = e := by unfold kup; rw [show Nat.beq p p = true from Nat.beq_refl p]; rfl
theorem kup_n {E : Nat → va_E} {p q : Nat} {e : va_E} (h : q ≠ p) : kup E p e q = E q := by
  unfold kup
  cases hb : Nat.beq q p
  · rfl
  · exact absurd (Nat.eq_of_beq_eq_true hb) h
def pw (g : sm_G) (k : Nat) (E : Nat → va_E) : va_W := (List.range k).map (fun p => (g.2.2 + p, E p))
theorem pw_get {g : sm_G} {k : Nat} {E : Nat → va_E} {p : Nat} (h : p < k) : (pw g k E)[p]? = some (g.2.2 + p, E p) := by
  simp [pw, List.getElem?_map, List.getElem?_range, h]
theorem pw_of {g : sm_G} {k : Nat} {E : Nat → va_E} {p : Nat} {q : Nat × va_E} (h : (pw g k E)[p]? = some q) : p < k ∧ q = (g.2.2 + p, E p) := by
  have hl := (List.getElem?_eq_some_iff.mp h).1
  have hk : p < k := by simpa [pw] using hl
  rw [pw_get hk] at h
  exact ⟨hk, (Option.some.inj h).symm⟩
theorem pw_D {g : sm_G} {k : Nat} {E : Nat → va_E} : va_D (A1 g) (pw g k E) := by
  refine ⟨fun i j a b hi hj hab => ?_, fun p q hk => ?_⟩
  · obtain ⟨-, rfl⟩ := pw_of hi
    obtain ⟨-, rfl⟩ := pw_of hj
    simp only at hab
    omega
  · obtain ⟨-, rfl⟩ := pw_of hk
    exact Nat.le_add_right _ _
theorem pw_set {g : sm_G} {k p : Nat} {E : Nat → va_E} {e : va_E} : (pw g k E).set p (g.2.2 + p, e) = pw g k (kup E p e) := by
  apply List.ext_getElem?
  intro j
  have hlen : (pw g k E).length = k := by simp [pw]
  by_cases hj : j < k
  · rw [pw_get hj]
    by_cases hp : j = p
    · subst hp
      rw [List.getElem?_set_self (by omega), kup_s]
    · rw [List.getElem?_set_ne (Ne.symm hp), pw_get hj, kup_n hp]
  · rw [List.getElem?_eq_none (by simp [pw]; omega), List.getElem?_eq_none (by simp [pw]; omega)]
theorem pw_push {g : sm_G} {k : Nat} {E : Nat → va_E} {e : va_E} {H H1 : Heap} (h : va_P g.1 sm_Cl (pw g k E) H) (ho : ∀ q, q < H.size → H1[q]? = H[q]?) (he : va_at g.1 sm_Cl (g.2.2 + k, e) H1) : va_P g.1 sm_Cl (pw g (k + 1) (kup E k e)) H1 := by
  intro j q hj
  obtain ⟨h1, rfl⟩ := pw_of hj
  by_cases hk : j = k
  · subst hk
    rw [kup_s]; exact he
  · rw [kup_n hk]
    have z := h j _ (pw_get (by omega))
    exact z.kept (ho _ z.lt)
theorem kw_cl {ci b cd : Nat} {cq : vw_C} (h : (sm_fk ci)[b]? = some cd) (hcq : sm_Cl[ci]? = some cq) : (∀ k, k < cq.2.2 → parseFieldDescriptor (cq.2.1 k).2.2.1 = some (sm_cty ci k)) ∧ (∀ a, a < cq.2.2 → ∀ b, b < cq.2.2 → a ≠ b → (cq.2.1 a).2.1 ≠ (cq.2.1 b).2.1) := by
  have hk := sm_kc_of h
  unfold sm_kc at hk
  rw [hcq] at hk
  simp only [Bool.and_eq_true, List.all_eq_true, List.mem_range, decide_eq_true_eq, Bool.or_eq_true, Bool.not_eq_true'] at hk
  obtain ⟨h1, h2, h3⟩ := hk
  refine ⟨fun k hk => (h2 k hk).1, fun a ha b hb hab => ?_⟩
  rcases h3 a ha b hb with q | q
  · exact absurd (Nat.eq_of_beq_eq_true q) hab
  · simpa using q
def ct_n (C : String) : MethodName := ⟨C, "<init>", "()V"⟩
def ct_ws : List Cond := [.instanceMethod Lib.objectInit,
  .code Lib.objectInit ⟨#[0xb1]⟩ 1 none,
  .code (ct_n "SpillingColours$Allocator") prog_2_method_1_code 1 none,
  .initialized "SpillingColours$Allocator",
  .instanceMethod (ct_n "SpillingColours$Allocator"),
  .instantiable "SpillingColours$Allocator" 7,
  .code (ct_n "SpillingColours$Checker") prog_3_method_1_code 1 none,
  .initialized "SpillingColours$Checker",
  .instanceMethod (ct_n "SpillingColours$Checker"),
  .instantiable "SpillingColours$Checker" 3,
  .code (ct_n "SpillingColours$Code") prog_4_method_1_code 1 none,
  .initialized "SpillingColours$Code",
  .instanceMethod (ct_n "SpillingColours$Code"),
  .instantiable "SpillingColours$Code" 2,
  .code (ct_n "SpillingColours$Colouring") prog_5_method_1_code 1 none,
  .initialized "SpillingColours$Colouring",
  .instanceMethod (ct_n "SpillingColours$Colouring"),
  .instantiable "SpillingColours$Colouring" 5,
  .code (ct_n "SpillingColours$Groups") prog_6_method_1_code 1 none,
  .initialized "SpillingColours$Groups",
  .instanceMethod (ct_n "SpillingColours$Groups"),
  .instantiable "SpillingColours$Groups" 6,
  .code (ct_n "SpillingColours$Liveness") prog_7_method_1_code 1 none,
  .initialized "SpillingColours$Liveness",
  .instanceMethod (ct_n "SpillingColours$Liveness"),
  .instantiable "SpillingColours$Liveness" 2,
  .code (ct_n "SpillingColours$Machine") prog_8_method_1_code 1 none,
  .initialized "SpillingColours$Machine",
  .instanceMethod (ct_n "SpillingColours$Machine"),
  .instantiable "SpillingColours$Machine" 5,
  .code (ct_n "SpillingColours$Spiller") prog_9_method_1_code 1 none,
  .initialized "SpillingColours$Spiller",
  .instanceMethod (ct_n "SpillingColours$Spiller"),
  .instantiable "SpillingColours$Spiller" 4,
  .code (ct_n "SpillingColours") prog_1_method_1_code 1 none,
  .initialized "SpillingColours",
  .instanceMethod (ct_n "SpillingColours"),
  .instantiable "SpillingColours" 7,
  .code (ct_n "SpillingColoursModel") prog_11_method_1_code 1 none,
  .initialized "SpillingColoursModel",
  .instanceMethod (ct_n "SpillingColoursModel"),
  .instantiable "SpillingColoursModel" 35,
  .methodLink "SpillingColours$Allocator" 3 Lib.objectInit,
  .classLink "SpillingColours$Allocator" 9 "SpillingColours$Liveness",
  .methodLinkNest "SpillingColours$Allocator" 11 (ct_n "SpillingColours$Liveness") "SpillingColours",
  .fieldLink "SpillingColours$Allocator" 12 "SpillingColours$Allocator" "liveness" "LSpillingColours$Liveness;",
  .classLink "SpillingColours$Allocator" 18 "SpillingColours$Groups",
  .methodLinkNest "SpillingColours$Allocator" 20 (ct_n "SpillingColours$Groups") "SpillingColours",
  .fieldLink "SpillingColours$Allocator" 21 "SpillingColours$Allocator" "groups" "LSpillingColours$Groups;",
  .classLink "SpillingColours$Allocator" 25 "SpillingColours$Colouring",
  .methodLinkNest "SpillingColours$Allocator" 27 (ct_n "SpillingColours$Colouring") "SpillingColours",
  .fieldLink "SpillingColours$Allocator" 28 "SpillingColours$Allocator" "colouring" "LSpillingColours$Colouring;",
  .classLink "SpillingColours$Allocator" 32 "SpillingColours$Spiller",
  .methodLinkNest "SpillingColours$Allocator" 34 (ct_n "SpillingColours$Spiller") "SpillingColours",
  .fieldLink "SpillingColours$Allocator" 35 "SpillingColours$Allocator" "spiller" "LSpillingColours$Spiller;",
  .classLink "SpillingColours$Allocator" 39 "SpillingColours$Code",
  .methodLinkNest "SpillingColours$Allocator" 41 (ct_n "SpillingColours$Code") "SpillingColours",
  .fieldLink "SpillingColours$Allocator" 42 "SpillingColours$Allocator" "code" "LSpillingColours$Code;",
  .fieldLink "SpillingColours$Allocator" 46 "SpillingColours$Allocator" "next" "LSpillingColours$Code;",
  .methodLink "SpillingColours$Checker" 5 Lib.objectInit,
  .fieldLink "SpillingColours$Checker" 11 "SpillingColours$Checker" "sets" "[I",
  .fieldLink "SpillingColours$Checker" 15 "SpillingColours$Checker" "reached" "[Z",
  .fieldLink "SpillingColours$Checker" 19 "SpillingColours$Checker" "now" "[I",
  .methodLink "SpillingColours$Code" 3 Lib.objectInit,
  .fieldLink "SpillingColours$Code" 9 "SpillingColours$Code" "cells" "[I",
  .methodLink "SpillingColours$Colouring" 3 Lib.objectInit,
  .fieldLink "SpillingColours$Colouring" 9 "SpillingColours$Colouring" "registerOf" "[I",
  .fieldLink "SpillingColours$Colouring" 15 "SpillingColours$Colouring" "order" "[I",
  .fieldLink "SpillingColours$Colouring" 18 "SpillingColours$Colouring" "degreeLeft" "[I",
  .methodLink "SpillingColours$Groups" 3 Lib.objectInit,
  .fieldLink "SpillingColours$Groups" 9 "SpillingColours$Groups" "groupOf" "[I",
  .fieldLink "SpillingColours$Groups" 15 "SpillingColours$Groups" "timesStanding" "[I",
  .fieldLink "SpillingColours$Groups" 18 "SpillingColours$Groups" "neighbours" "[J",
  .methodLink "SpillingColours$Liveness" 3 Lib.objectInit,
  .fieldLink "SpillingColours$Liveness" 9 "SpillingColours$Liveness" "behind" "[J",
  .fieldLink "SpillingColours$Liveness" 15 "SpillingColours$Liveness" "before" "[J",
  .methodLink "SpillingColours$Machine" 5 Lib.objectInit,
  .fieldLink "SpillingColours$Machine" 11 "SpillingColours$Machine" "numbers" "[I",
  .fieldLink "SpillingColours$Machine" 15 "SpillingColours$Machine" "inSlots" "[I",
  .fieldLink "SpillingColours$Machine" 18 "SpillingColours$Machine" "out" "[I",
  .methodLink "SpillingColours$Spiller" 3 Lib.objectInit,
  .fieldLink "SpillingColours$Spiller" 9 "SpillingColours$Spiller" "slotOf" "[I",
  .fieldLink "SpillingColours$Spiller" 15 "SpillingColours$Spiller" "starts" "[I",
  .methodLink "SpillingColours" 3 Lib.objectInit,
  .classLink "SpillingColours" 9 "SpillingColours$Code",
  .methodLinkNest "SpillingColours" 11 (ct_n "SpillingColours$Code") "SpillingColours",
  .fieldLink "SpillingColours" 12 "SpillingColours" "source" "LSpillingColours$Code;",
  .fieldLink "SpillingColours" 16 "SpillingColours" "result" "LSpillingColours$Code;",
  .classLink "SpillingColours" 19 "SpillingColours$Liveness",
  .methodLinkNest "SpillingColours" 21 (ct_n "SpillingColours$Liveness") "SpillingColours",
  .fieldLink "SpillingColours" 22 "SpillingColours" "liveness" "LSpillingColours$Liveness;",
  .classLink "SpillingColours" 26 "SpillingColours$Allocator",
  .methodLinkNest "SpillingColours" 28 (ct_n "SpillingColours$Allocator") "SpillingColours",
  .fieldLink "SpillingColours" 29 "SpillingColours" "allocator" "LSpillingColours$Allocator;",
  .classLink "SpillingColours" 33 "SpillingColours$Checker",
  .methodLinkNest "SpillingColours" 35 (ct_n "SpillingColours$Checker") "SpillingColours",
  .fieldLink "SpillingColours" 36 "SpillingColours" "checker" "LSpillingColours$Checker;",
  .classLink "SpillingColours" 40 "SpillingColours$Machine",
  .methodLinkNest "SpillingColours" 42 (ct_n "SpillingColours$Machine") "SpillingColours",
  .fieldLink "SpillingColours" 43 "SpillingColours" "machine" "LSpillingColours$Machine;",
  .fieldLink "SpillingColours" 47 "SpillingColours" "hasResult" "Z",
  .methodLink "SpillingColoursModel" 1 Lib.objectInit,
  .fieldLink "SpillingColoursModel" 7 "SpillingColoursModel" "ops" "[I",
  .fieldLink "SpillingColoursModel" 13 "SpillingColoursModel" "ds" "[I",
  .fieldLink "SpillingColoursModel" 16 "SpillingColoursModel" "as" "[I",
  .fieldLink "SpillingColoursModel" 19 "SpillingColoursModel" "bs" "[I",
  .fieldLink "SpillingColoursModel" 22 "SpillingColoursModel" "origins" "[I",
  .fieldLink "SpillingColoursModel" 25 "SpillingColoursModel" "before" "[Z",
  .fieldLink "SpillingColoursModel" 29 "SpillingColoursModel" "behind" "[Z",
  .fieldLink "SpillingColoursModel" 32 "SpillingColoursModel" "near" "[Z",
  .fieldLink "SpillingColoursModel" 35 "SpillingColoursModel" "group" "[Z",
  .fieldLink "SpillingColoursModel" 38 "SpillingColoursModel" "leader" "[I",
  .fieldLink "SpillingColoursModel" 41 "SpillingColoursModel" "counts" "[I",
  .fieldLink "SpillingColoursModel" 44 "SpillingColoursModel" "left" "[Z",
  .fieldLink "SpillingColoursModel" 47 "SpillingColoursModel" "order" "[I",
  .fieldLink "SpillingColoursModel" 50 "SpillingColoursModel" "register" "[I",
  .fieldLink "SpillingColoursModel" 53 "SpillingColoursModel" "spilled" "[Z",
  .fieldLink "SpillingColoursModel" 56 "SpillingColoursModel" "slot" "[I",
  .fieldLink "SpillingColoursModel" 59 "SpillingColoursModel" "place" "[I",
  .fieldLink "SpillingColoursModel" 62 "SpillingColoursModel" "there" "[Z",
  .fieldLink "SpillingColoursModel" 65 "SpillingColoursModel" "now" "[Z",
  .fieldLink "SpillingColoursModel" 68 "SpillingColoursModel" "reached" "[Z",
  .fieldLink "SpillingColoursModel" 71 "SpillingColoursModel" "cells" "[I",
  .fieldLink "SpillingColoursModel" 74 "SpillingColoursModel" "stored" "[I",
  .fieldLink "SpillingColoursModel" 77 "SpillingColoursModel" "out" "[I",
  .methodLink "SpillingColoursLaw" 33 (ct_n "SpillingColours"),
  .methodLink "SpillingColoursLaw" 36 (ct_n "SpillingColoursModel"),
  .classLink "SpillingColoursLaw" 8 "SpillingColours",
  .classLink "SpillingColoursLaw" 34 "SpillingColoursModel"]
theorem ct_at {w : Cond} (j : Nat) (h : ct_ws[j]? = some w) : w ∈ ct_ws := List.mem_of_getElem? h
theorem ct_ok : ct_ws.all (fun w => w.onTables && w.keepsH) = true := by decide +kernel
/-- what one knows where the constructors run -/
def KX (g : sm_G) (U : State) : Prop := sm_WW U ∧ va_K g.1 sm_Cl (sm_ty g) U ∧ (∀ w ∈ ct_ws, va_Nw w U) ∧ (Cond.arrayClass .int).before #[] U = true ∧ (Cond.arrayClass .boolean).before #[] U = true ∧ (Cond.arrayClass .long).before #[] U = true
theorem KX_t {g : sm_G} {s U : State} (h : KX g s) (hW : s.WarmedH U.vm) : KX g U :=
  ⟨sm_WW_warm hW h.1, va_K.moved hW.alike h.2.1, fun w hw => sm_Nw_warm (List.all_eq_true.mp ct_ok w hw) hW (h.2.2.1 w hw), word_at hW (Or.inr ⟨_, rfl⟩) h.2.2.2.1, word_at hW (Or.inr ⟨_, rfl⟩) h.2.2.2.2.1, word_at hW (Or.inr ⟨_, rfl⟩) h.2.2.2.2.2⟩
theorem KX_w {g : sm_G} {U : State} (h : KX g U) (j : Nat) {w : Cond} (hw : ct_ws[j]? = some w) (ho : w.onTables = true) {A : Array Value} : w.before A U = true := va_Nw.use ho (h.2.2.1 w (ct_at j hw))
def ctP (g : sm_G) (k : Nat) (E : Nat → va_E) (p0 : Nat) : Array Value → State → Prop := fun a U => a = #[.ref (g.2.2 + p0)] ∧ va_P g.1 sm_Cl (pw g k E) U.heap ∧ U.heap.size = g.2.2 + k ∧ KX g U
def ctQ (g : sm_G) (k : Nat) (E : Nat → va_E) : Array Value → State → Outcome → State → Prop := fun _ st o t => o = .returned none ∧ va_P g.1 sm_Cl (pw g k E) t.heap ∧ t.heap.size = g.2.2 + k ∧ va_F (A1 g) st t
def ctM (l : Launch) (g : sm_G) (C : String) (bytes : ByteArray) (fr lo mc ms : Nat) (k : Nat) (E : Nat → va_E) (p0 : Nat) (k' : Nat) (E' : Nat → va_E) : Prop :=
  Met l (ct_n C) [.code (ct_n C) bytes 1 none] { frames := fr, cells := mc, slots := ms, locals := lo } (ctP g k E p0) (ctQ g k' E') mc ms (A1 g)
theorem ctP_blind {g : sm_G} {k : Nat} {E : Nat → va_E} {p0 : Nat} : FrameBlind (ctP g k E p0) := by
  intro a U gf mk h
  obtain ⟨q0, qP, qz, qK⟩ := h
  exact ⟨q0, qP, qz, KX_t (s := U) (U := U.calling gf mk a) qK (State.WarmedH.refl U)⟩
