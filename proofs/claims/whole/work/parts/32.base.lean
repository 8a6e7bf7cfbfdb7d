/-! the worlds' common words: nest links, array classes, contracts' starts and ends; the mirrors' own steps -/
def nw_l : List Cond := [.methodLinkNest RX4 9 yX3_init "WordGrounds",
  .fieldLinkNest RX0 22 "WordGrounds$Words" "total" "I" "WordGrounds",
  .fieldLinkNest RX4 52 "WordGrounds$Words" "total" "I" "WordGrounds",
  .fieldLinkNest RX1 54 "WordGrounds$Words" "total" "I" "WordGrounds",
  .fieldLinkNest RX4 122 "WordGrounds$Words" "known" "I" "WordGrounds",
  .fieldLinkNest RX1 28 "WordGrounds$Words" "defined" "I" "WordGrounds",
  .fieldLinkNest RX4 170 "WordGrounds$Words" "defined" "I" "WordGrounds",
  .fieldLinkNest RX4 106 "WordGrounds$Words" "costs" "[I" "WordGrounds",
  .fieldLinkNest RX0 25 "WordGrounds$Words" "definitions" "[I" "WordGrounds",
  .fieldLinkNest RX1 57 "WordGrounds$Words" "definitions" "[I" "WordGrounds",
  .fieldLinkNest RX4 91 "WordGrounds$Words" "definitions" "[I" "WordGrounds",
  .methodLinkNest RX4 22 yX2_init "WordGrounds",
  .fieldLinkNest RX4 59 "WordGrounds$Text" "length" "I" "WordGrounds",
  .methodLinkNest RX4 29 yX0_init "WordGrounds",
  .fieldLinkNest RX1 31 "WordGrounds$Rings" "inRings" "I" "WordGrounds",
  .fieldLinkNest RX4 158 "WordGrounds$Rings" "inRings" "I" "WordGrounds",
  .methodLinkNest RX4 36 yX1_init "WordGrounds",
  .methodLinkNest RX4 55 yX3_resize "WordGrounds",
  .methodLinkNest RX4 62 yX2_append "WordGrounds",
  .methodLinkNest RX4 65 yX2_faultPlace "WordGrounds",
  .methodLinkNest RX4 69 yX2_toldWord "WordGrounds",
  .methodLinkNest RX4 73 yX2_tellsBare "WordGrounds",
  .methodLinkNest RX4 77 yX3_makeBare "WordGrounds",
  .methodLinkNest RX4 80 yX2_toldSet "WordGrounds",
  .methodLinkNest RX4 83 yX3_setDefinition "WordGrounds",
  .methodLinkNest RX4 87 yX3_isBare "WordGrounds",
  .methodLinkNest RX4 100 yX3_has "WordGrounds",
  .methodLinkNest RX4 103 yX3_usersOf "WordGrounds",
  .methodLinkNest RX4 109 yX3_hasAll "WordGrounds",
  .methodLinkNest RX4 112 yX3_groundedBy "WordGrounds",
  .methodLinkNest RX4 115 yX3_daysTill "WordGrounds",
  .methodLinkNest RX4 119 yX3_nextDay "WordGrounds",
  .methodLinkNest RX4 180 yX0_trace "WordGrounds",
  .methodLinkNest RX4 183 yX1_find "WordGrounds",
  .methodLinkNest RX1 22 yX3_all "WordGrounds",
  .methodLinkNest RX4 129 yX1_cheapest "WordGrounds",
  .methodLinkNest RX1 67 yX3_costOf "WordGrounds",
  .methodLinkNest RX4 133 yX3_costOf "WordGrounds",
  .methodLinkNest RX4 136 yX3_all "WordGrounds",
  .methodLinkNest RX4 139 yX1_greatestLeast "WordGrounds",
  .methodLinkNest RX4 142 yX1_leastWith "WordGrounds",
  .methodLinkNest RX4 145 yX3_stepsBetween "WordGrounds",
  .methodLinkNest RX4 152 yX0_howMany "WordGrounds",
  .methodLinkNest RX4 155 yX0_numbered "WordGrounds",
  .methodLinkNest RX4 161 yX0_before "WordGrounds",
  .methodLinkNest RX4 164 yX0_behind "WordGrounds",
  .methodLinkNest RX4 167 yX3_used "WordGrounds",
  .methodLinkNest RX4 173 yX3_copyFrom "WordGrounds",
  .methodLinkNest RX4 177 yX3_howOftenUsed "WordGrounds"]
def nw_ok (w : Cond) : Bool := match w with
  | .fieldLinkNest .. => true
  | .methodLinkNest .. => true
  | _ => false
theorem nw_l_ok : ∀ w ∈ nw_l, nw_ok w = true := by decide +kernel
def NW (U : State) : Prop := (∀ w ∈ nw_l, va_Nw w U) ∧ va_AO RX3 U
theorem NW.warm {s U : State} (h : NW s) (hW : s.WarmedH U.vm) : NW U := by
  refine ⟨fun w hw => ?_, h.2.moved hW.alike⟩
  have h1 := h.1 w hw
  have h2 := nw_l_ok w hw
  cases w <;> first | exact va_Nw.warmF hW h1 | exact va_Nw.warmM hW h1 | (exfalso; revert h2; simp [nw_ok]; done)
theorem NW.call {U : State} {g : JFrame} {mk : MethodId} {a : Array Value} (h : NW U) : NW (U.calling g mk a) := by
  refine ⟨fun w hw => ?_, h.2.moved (Vm.Alike.refl U.vm)⟩
  have h1 := h.1 w hw
  have h2 := nw_l_ok w hw
  cases w <;> first | exact va_Nw.same rfl (u := U) rfl h1 | (exfalso; revert h2; simp [nw_ok]; done)
abbrev K4t (cI cZ cJ cW : ClassId) : List (ClassId × FieldType) := [(cI, .int), (cZ, .boolean), (cJ, .long), (cW, .object RX3)]
def RP (D : va_G) (cI cZ cJ cW : ClassId) (ws : va_W) (U : State) : Prop := va_P D vwCl ws U.heap ∧ va_K D vwCl (K4t cI cZ cJ cW) U ∧ NW U
def MP (D : va_G) (cI cZ cJ cW : ClassId) (sz : Nat) (ws : va_W) (U : State) : Prop := U.heap.size = sz ∧ va_P D vwCl ws U.heap ∧ va_K D vwCl (K4t cI cZ cJ cW) U ∧ NW U ∧ va_D (fun _ => True) ws
def PB (D : va_G) (A : Nat → Prop) (ws : va_W) : Unit → State → Prop := fun _ t => va_P D vwCl ws t.heap ∧ va_D A ws
def PBr (D : va_G) (r0 : Nat) (A : Nat → Prop) (ws : va_W) : Unit → Nat → State → Prop := fun _ a t => r0 = a ∧ va_P D vwCl ws t.heap ∧ va_D A ws
theorem TP.blind {av : List Value} : FrameBlind (va_Pc av (fun _ => True)) := fun _ _ _ _ q => ⟨q.1, trivial⟩
theorem RP.blind {av : List Value} {D : va_G} {cI cZ cJ cW : ClassId} {ws : va_W} : FrameBlind (va_Pc av (RP D cI cZ cJ cW ws)) := by
  intro a U g mk q
  obtain ⟨q0, qP, qK, qN⟩ := q
  exact ⟨q0, qP, va_K.moved (u := U) (U := U.calling g mk a) (Vm.Alike.refl U.vm) qK, qN.call⟩
theorem MP.blind {av : List Value} {D : va_G} {cI cZ cJ cW : ClassId} {sz : Nat} {ws : va_W} : FrameBlind (va_Pc av (MP D cI cZ cJ cW sz ws)) := by
  intro a U g mk q
  obtain ⟨q0, q1, qP, qK, qN, qD⟩ := q
  exact ⟨q0, q1, qP, va_K.moved (u := U) (U := U.calling g mk a) (Vm.Alike.refl U.vm) qK, qN.call, qD⟩
theorem K4.I {D : va_G} {cl : List vw_C} {cI cZ cJ cW cA : ClassId} {s : State} (h : va_K D cl (K4t cI cZ cJ cW) s) (h2 : va_K D cl (K4t cI cZ cJ cW ++ [(cA, .int)]) s) : cI = cA := Option.some.inj ((h.2 0 _ rfl).2.symm.trans (h2.2 4 _ rfl).2)
theorem K4.Z {D : va_G} {cl : List vw_C} {cI cZ cJ cW cA : ClassId} {s : State} (h : va_K D cl (K4t cI cZ cJ cW) s) (h2 : va_K D cl (K4t cI cZ cJ cW ++ [(cA, .boolean)]) s) : cZ = cA := Option.some.inj ((h.2 1 _ rfl).2.symm.trans (h2.2 4 _ rfl).2)
theorem K4.J {D : va_G} {cl : List vw_C} {cI cZ cJ cW cA : ClassId} {s : State} (h : va_K D cl (K4t cI cZ cJ cW) s) (h2 : va_K D cl (K4t cI cZ cJ cW ++ [(cA, .long)]) s) : cJ = cA := Option.some.inj ((h.2 2 _ rfl).2.symm.trans (h2.2 4 _ rfl).2)
theorem K4.A {D : va_G} {cl : List vw_C} {cI cZ cJ cW cA : ClassId} {s : State} (h : va_K D cl (K4t cI cZ cJ cW) s) (h2 : va_K D cl (K4t cI cZ cJ cW ++ [(cA, .object RX3)]) s) : cW = cA := by
  obtain ⟨_, _, _, _, _, e1⟩ := (h.2 3 _ rfl).2
  obtain ⟨_, _, _, _, _, e2⟩ := (h2.2 4 _ rfl).2
  exact Option.some.inj (e1.symm.trans e2)
def im2 (a b : Nat) : Nat → Option Nat := fun k => if k = 0 then some a else if k = 1 then some b else none
theorem im2_eq (a b : Nat) : va_up (va_up (fun _ => none) (0 : Int32).toNatClampNeg (some a)) (1 : Int32).toNatClampNeg (some b) = im2 a b := by
  funext k
  show (if k = 1 then some b else if k = 0 then some a else none) = im2 a b k
  unfold im2
  by_cases h0 : k = 0
  · subst h0; rfl
  · by_cases h1 : k = 1
    · subst h1; rfl
    · simp only [if_neg h0, if_neg h1]
theorem ob_none {α : Type} {r : α} (h : (none : Option α) = some r) : False := by cases h
theorem ob_pos {α : Type} {c : Prop} [Decidable c] {a b : Option α} {r : α} (hc : c) (h : (if c then a else b) = some r) : a = some r := by rwa [if_pos hc] at h
theorem ob_neg {α : Type} {c : Prop} [Decidable c] {a b : Option α} {r : α} (hc : ¬ c) (h : (if c then a else b) = some r) : b = some r := by rwa [if_neg hc] at h
theorem ob_get {α : Type} {c : Prop} [Decidable c] {a : Option α} {r : α} (h : (if c then none else a) = some r) : ¬ c ∧ a = some r := by
  by_cases hc : c
  · rw [if_pos hc] at h; cases h
  · rw [if_neg hc] at h; exact ⟨hc, h⟩
theorem ob_zr {α : Type} {c : Prop} [Decidable c] {a : Option α} {r : α} (h : (if c then a else none) = some r) : c ∧ a = some r := by
  by_cases hc : c
  · rw [if_pos hc] at h; exact ⟨hc, h⟩
  · rw [if_neg hc] at h; cases h
theorem ob_bind {α β : Type} {o : Option α} {f : α → Option β} {b : β} (h : o.bind f = some b) : ∃ a, o = some a ∧ f a = some b := by
  cases o with
  | none => cases h
  | some a => exact ⟨a, rfl, h⟩
theorem nar_b {v : Int32} (h : v = 0 ∨ v = 1) : narrow .boolean (.int v) = .int v := by
  rcases h with h | h <;> subst h <;> rfl
