/-! X2_wordBit -/
abbrev rm_X2_wordBit : Room := { frames := 0, cells := 0, slots := 0, locals := 0 }
set_option maxHeartbeats 4000000 in
set_option maxRecDepth 100000 in
theorem c_X2_wordBit (l : Launch) (dC : Nat → ClassId) (dI : Nat → Nat → Nat) (cI cZ cJ cW : ClassId) (p0 : Int32) (p1 : Int32) (R : Int32) (hM : M_X2_wordBit p0 p1 = some R) : Met l yX2_wordBit wsX2_wordBit rm_X2_wordBit (va_Pc [.int p0, .int p1] (fun _ => True)) (vp_Si (fun r => R = r)) 0 0 (fun _ => False) := by
  refine Met.ofW (cc := cX2_wordBit) (maxL := 3) (ret := (some .int)) (by decide) rfl ?_
  intro p e s m args below meth c s₁ B hml hv
  obtain ⟨rfl, -⟩ := hv
  have hx := B.exec
  have hb := B.bytes
  have hr := B.returns
  have hts := atoms_spec (ws := wsX2_wordBit) B.pre
  have hown : s.vm.findClass RX2 = some m.cls := findClass_of_methodNamed B.named
  have hlocks := B.notSynchronized
  have hl := lv_entry ([.int p0, .int p1]) (n := 3) (Nat.le_of_ble_eq_true rfl)
  rw [lg_entry_eq]
  generalize (lg_sl ([.int p0, .int p1]) ++ List.replicate (3 - (lg_sl ([.int p0, .int p1])).length) Slot.unset).toArray = ls at hl ⊢
  have hl : lv_has ls 3 [(0, .int p0), (1, .int p1)] := hl
  have hM : (if (p0 - 97) < 0 then (some 0) else (if p1 ≤ (p0 - 97) then (some 0) else (some ((1 : Int32) <<< ((p0 - 97) &&& 31))))) = some R := hM
  refine lv_iload_n hx hb dX2_wordBit_0 rfl (lv_at hl 0 rfl) ?_
  refine lv_bipush (v := 97) hx hb dX2_wordBit_1 (by decide) ?_
  refine lv_isub hx hb dX2_wordBit_3 ?_
  refine lv_istore_n (lv' := [(2, .int (p0 - 97)), (0, .int p0), (1, .int p1)]) hx hb dX2_wordBit_4 rfl hl (by decide) rfl (fun ls hl => ?_)
  refine lv_iload_n hx hb dX2_wordBit_5 rfl (lv_at hl 0 rfl) ?_
  refine lv_if_lt (tgt := 20) hx hb dX2_wordBit_6 (by decide) (fun c_6 => ?_) (fun c_6 => ?_)
  · replace hM := ob_pos c_6 hM
    refine lv_iconst (v := 0) hx hb dX2_wordBit_20 (by decide) ?_
    exact W.iret (v := 0) hx hb hr (fun t ht hW => ⟨_, rfl, (Option.some.inj hM).symm, ht⟩) (fun _ h => by cases h) dX2_wordBit_21
  · replace hM := ob_neg c_6 hM
    refine lv_iload_n hx hb dX2_wordBit_9 rfl (lv_at hl 0 rfl) ?_
    refine lv_iload_n hx hb dX2_wordBit_10 rfl (lv_at hl 2 rfl) ?_
    refine lv_icmp_ge (tgt := 20) hx hb dX2_wordBit_11 (by decide) (fun c_11 => ?_) (fun c_11 => ?_)
    · replace hM := ob_pos c_11 hM
      refine lv_iconst (v := 0) hx hb dX2_wordBit_20 (by decide) ?_
      exact W.iret (v := 0) hx hb hr (fun t ht hW => ⟨_, rfl, (Option.some.inj hM).symm, ht⟩) (fun _ h => by cases h) dX2_wordBit_21
    · replace hM := ob_neg c_11 hM
      refine lv_iconst (v := 1) hx hb dX2_wordBit_14 (by decide) ?_
      refine lv_iload_n hx hb dX2_wordBit_15 rfl (lv_at hl 0 rfl) ?_
      refine lv_ishl hx hb dX2_wordBit_16 ?_
      refine lv_goto (tgt := 21) hx hb dX2_wordBit_17 (by decide) ?_
      exact W.iret (v := ((1 : Int32) <<< ((p0 - 97) &&& 31))) hx hb hr (fun t ht hW => ⟨_, rfl, (Option.some.inj hM).symm, ht⟩) (fun _ h => by cases h) dX2_wordBit_21
/-! X2_append -/
abbrev rm_X2_append : Room := { frames := 0, cells := 0, slots := 0, locals := 0 }
theorem in_X2_append_2 : ∀ w ∈ u_ws RX2 TX2 2, w ∈ wsX2_append := by decide +kernel
set_option maxHeartbeats 4000000 in
set_option maxRecDepth 100000 in
theorem c_X2_append (l : Launch) (dC : Nat → ClassId) (dI : Nat → Nat → Nat) (cI cZ cJ cW : ClassId) (sz : Nat) (t_a t_sg_a : Nat) (t_ln : Int32) (t_sg : Nat → Int32) (p1 : Int32) (R : Int32 × (Nat → Int32)) (hM : M_X2_append p1 t_sg t_ln = some R) : Met l yX2_append wsX2_append rm_X2_append (va_Pc [.ref t_a, .int p1] (MP (dC, dI) cI cZ cJ cW sz [(t_a, .inr (2, [.ref t_sg_a, .int t_ln])), (t_sg_a, .inl (cI, 20, .inl t_sg))])) (va_Qv (fun (_ : Unit) => True) (PB (dC, dI) (va_A [(t_a, .inr (2, [.ref t_sg_a, .int t_ln])), (t_sg_a, .inl (cI, 20, .inl t_sg))] sz) [(t_a, .inr (2, [.ref t_sg_a, .int R.1])), (t_sg_a, .inl (cI, 20, .inl R.2))]) (va_A [(t_a, .inr (2, [.ref t_sg_a, .int t_ln])), (t_sg_a, .inl (cI, 20, .inl t_sg))] sz)) 0 0 (va_A [(t_a, .inr (2, [.ref t_sg_a, .int t_ln])), (t_sg_a, .inl (cI, 20, .inl t_sg))] sz) := by
  refine Met.ofW (cc := cX2_append) (maxL := 2) (ret := none) (by decide) rfl ?_
  intro p e s m args below meth c s₁ B hml hv
  obtain ⟨rfl, hsz, hP, hK, hN, hD0⟩ := hv
  have hx := B.exec
  have hb := B.bytes
  have hr := B.returns
  have hts := atoms_spec (ws := wsX2_append) B.pre
  have hown : s.vm.findClass RX2 = some m.cls := findClass_of_methodNamed B.named
  have hlocks := B.notSynchronized
  subst hsz
  have hD := hD0.self (sz := s.heap.size)
  generalize hAe : va_A [(t_a, .inr (2, [.ref t_sg_a, .int t_ln])), (t_sg_a, .inl (cI, 20, .inl t_sg))] s.heap.size = A at hD ⊢
  have hA : ∀ q : Nat, s.heap.size ≤ q → A q := fun q h => by rw [← hAe]; exact Or.inr h
  have hS : va_S A s.heap s.heap [] := va_S.rf
  have hf9 := hts (.fieldLink RX2 9 "WordGrounds$Text" "signs" "[I") (by decide +kernel)
  have hf15 := hts (.fieldLink RX2 15 "WordGrounds$Text" "length" "I") (by decide +kernel)
  have hl := lv_entry ([.ref t_a, .int p1]) (n := 2) (Nat.le_of_ble_eq_true rfl)
  rw [lg_entry_eq]
  generalize (lg_sl ([.ref t_a, .int p1]) ++ List.replicate (2 - (lg_sl ([.ref t_a, .int p1])).length) Slot.unset).toArray = ls at hl ⊢
  have hl : lv_has ls 2 [(0, .ref t_a), (1, .int p1)] := hl
  have hP : va_P (dC, dI) vwCl [(t_a, .inr (2, [.ref t_sg_a, .int t_ln])), (t_sg_a, .inl (cI, 20, .inl t_sg))] s.heap := hP
  have hM : (if 20 ≤ t_ln then (some (t_ln, t_sg)) else (if t_ln < 0 ∨ 20 ≤ (t_ln).toNatClampNeg then none else (some ((t_ln + 1), (upd t_sg (t_ln).toNatClampNeg p1))))) = some R := hM
  refine lv_aload_n hx hb dX2_append_0 rfl (lv_at hl 0 rfl) ?_
  refine va_get (D := (dC, dI)) (ci := 2) (v := .int t_ln) (C := RX2) (T := TX2) (N := 2) hx hb hts in_X2_append_2 hown hK hP 0 rfl rfl 1 (by decide) hf15 (fun _ h9 => h9) rfl dX2_append_1 ?_
  refine lv_bipush (v := 20) hx hb dX2_append_4 (by decide) ?_
  refine lv_icmp_ge (tgt := 29) hx hb dX2_append_6 (by decide) (fun c_6 => ?_) (fun c_6 => ?_)
  · replace hM := ob_pos c_6 hM
    obtain rfl := Option.some.inj hM
    have hP9 := hP.sub (ws' := [(t_a, .inr (2, [.ref t_sg_a, .int t_ln])), (t_sg_a, .inl (cI, 20, .inl t_sg))]) [0, 1] rfl
    have hD9 := hD.sub (ws' := [(t_a, .inr (2, [.ref t_sg_a, .int t_ln])), (t_sg_a, .inl (cI, 20, .inl t_sg))]) [0, 1] (by decide) rfl
    exact W.vret hx hb hr (fun t ht hW => ⟨⟨(), rfl, trivial, by rw [ht]; exact hP9, hD9⟩, hS.F ht⟩) hS.2.2 dX2_append_29
  · replace hM := ob_neg c_6 hM
    refine lv_aload_n hx hb dX2_append_9 rfl (lv_at hl 0 rfl) ?_
    refine va_get (D := (dC, dI)) (ci := 2) (v := .ref t_sg_a) (C := RX2) (T := TX2) (N := 2) hx hb hts in_X2_append_2 hown hK hP 0 rfl rfl 0 (by decide) hf9 (fun _ h9 => h9) rfl dX2_append_10 ?_
    refine lv_aload_n hx hb dX2_append_13 rfl (lv_at hl 0 rfl) ?_
    refine va_get (D := (dC, dI)) (ci := 2) (v := .int t_ln) (C := RX2) (T := TX2) (N := 2) hx hb hts in_X2_append_2 hown hK hP 0 rfl rfl 1 (by decide) hf15 (fun _ h9 => h9) rfl dX2_append_14 ?_
    refine lv_iload_n hx hb dX2_append_17 rfl (lv_at hl 1 rfl) ?_
    obtain ⟨h_18, hM⟩ := ob_get hM
    refine va_iast hx hb hK hP hD hS 1 0 rfl rfl h_18 dX2_append_18 (fun H locs hP hD hS => ?_)
    have hP : va_P (dC, dI) vwCl [(t_a, .inr (2, [.ref t_sg_a, .int t_ln])), (t_sg_a, .inl (cI, 20, .inl (upd t_sg (t_ln).toNatClampNeg p1)))] H := hP
    have hD : va_D A [(t_a, .inr (2, [.ref t_sg_a, .int t_ln])), (t_sg_a, .inl (cI, 20, .inl (upd t_sg (t_ln).toNatClampNeg p1)))] := hD
    refine lv_aload_n hx hb dX2_append_19 rfl (lv_at hl 0 rfl) ?_
    refine lv_dup hx hb dX2_append_20 rfl ?_
    refine va_get (D := (dC, dI)) (ci := 2) (v := .int t_ln) (C := RX2) (T := TX2) (N := 2) hx hb hts in_X2_append_2 hown hK hP 0 rfl rfl 1 (by decide) hf15 (fun _ h9 => h9) rfl dX2_append_21 ?_
    refine lv_iconst (v := 1) hx hb dX2_append_24 (by decide) ?_
    refine lv_iadd hx hb dX2_append_25 ?_
    refine va_put (D := (dC, dI)) (ci := 2) (v := .int (t_ln + 1)) (ty := .int) (C := RX2) (T := TX2) (N := 2) hx hb hts in_X2_append_2 tyX2 tyX2_ok nmX2 hown hK hP hD hS 0 rfl rfl 1 (by decide) hf15 (fun _ h9 => h9) rfl (by decide +kernel) rfl rfl (Nat.le_of_ble_eq_true rfl) dX2_append_26 (fun H locs hP hD hS => ?_)
    have hP : va_P (dC, dI) vwCl [(t_a, .inr (2, [.ref t_sg_a, .int (t_ln + 1)])), (t_sg_a, .inl (cI, 20, .inl (upd t_sg (t_ln).toNatClampNeg p1)))] H := hP
    have hD : va_D A [(t_a, .inr (2, [.ref t_sg_a, .int (t_ln + 1)])), (t_sg_a, .inl (cI, 20, .inl (upd t_sg (t_ln).toNatClampNeg p1)))] := hD
    obtain rfl := Option.some.inj hM
    have hP9 := hP.sub (ws' := [(t_a, .inr (2, [.ref t_sg_a, .int (t_ln + 1)])), (t_sg_a, .inl (cI, 20, .inl (upd t_sg (t_ln).toNatClampNeg p1)))]) [0, 1] rfl
    have hD9 := hD.sub (ws' := [(t_a, .inr (2, [.ref t_sg_a, .int (t_ln + 1)])), (t_sg_a, .inl (cI, 20, .inl (upd t_sg (t_ln).toNatClampNeg p1)))]) [0, 1] (by decide) rfl
    exact W.vret hx hb hr (fun t ht hW => ⟨⟨(), rfl, trivial, by rw [ht]; exact hP9, hD9⟩, hS.F ht⟩) hS.2.2 dX2_append_29
/-! X2_tellsBare -/
abbrev rm_X2_tellsBare : Room := { frames := 0, cells := 0, slots := 0, locals := 0 }
theorem in_X2_tellsBare_2 : ∀ w ∈ u_ws RX2 TX2 2, w ∈ wsX2_tellsBare := by decide +kernel
set_option maxHeartbeats 4000000 in
set_option maxRecDepth 100000 in
theorem c_X2_tellsBare (l : Launch) (dC : Nat → ClassId) (dI : Nat → Nat → Nat) (cI cZ cJ cW : ClassId) (t_a t_sg_a : Nat) (t_ln : Int32) (t_sg : Nat → Int32) (R : Int32) (hM : M_X2_tellsBare t_sg = some R) : Met l yX2_tellsBare wsX2_tellsBare rm_X2_tellsBare (va_Pc [.ref t_a] (RP (dC, dI) cI cZ cJ cW [(t_a, .inr (2, [.ref t_sg_a, .int t_ln])), (t_sg_a, .inl (cI, 20, .inl t_sg))])) (vp_Si (fun r => R = r)) 0 0 (fun _ => False) := by
  refine Met.ofW (cc := cX2_tellsBare) (maxL := 1) (ret := (some .boolean)) (by decide) rfl ?_
  intro p e s m args below meth c s₁ B hml hv
  obtain ⟨rfl, hP, hK, hN⟩ := hv
  have hx := B.exec
  have hb := B.bytes
  have hr := B.returns
  have hts := atoms_spec (ws := wsX2_tellsBare) B.pre
  have hown : s.vm.findClass RX2 = some m.cls := findClass_of_methodNamed B.named
  have hlocks := B.notSynchronized
  have hf9 := hts (.fieldLink RX2 9 "WordGrounds$Text" "signs" "[I") (by decide +kernel)
  have hl := lv_entry ([.ref t_a]) (n := 1) (Nat.le_of_ble_eq_true rfl)
  rw [lg_entry_eq]
  generalize (lg_sl ([.ref t_a]) ++ List.replicate (1 - (lg_sl ([.ref t_a])).length) Slot.unset).toArray = ls at hl ⊢
  have hl : lv_has ls 1 [(0, .ref t_a)] := hl
  have hM : (if (t_sg (1 : Int32).toNatClampNeg) = 46 then (some 1) else (some 0)) = some R := hM
  refine lv_aload_n hx hb dX2_tellsBare_0 rfl (lv_at hl 0 rfl) ?_
  refine va_get (D := (dC, dI)) (ci := 2) (v := .ref t_sg_a) (C := RX2) (T := TX2) (N := 2) hx hb hts in_X2_tellsBare_2 hown hK hP 0 rfl rfl 0 (by decide) hf9 (fun _ h9 => h9) rfl dX2_tellsBare_1 ?_
  refine lv_iconst (v := 1) hx hb dX2_tellsBare_4 (by decide) ?_
  refine va_iald hx hb hK hP 1 0 rfl rfl (show vp_in 1 20 from by unfold vp_in; decide) dX2_tellsBare_5 ?_
  refine lv_bipush (v := 46) hx hb dX2_tellsBare_6 (by decide) ?_
  refine lv_icmp_ne (tgt := 15) hx hb dX2_tellsBare_8 (by decide) (fun c_8 => ?_) (fun c_8 => ?_)
  · replace hM := ob_neg c_8 hM
    refine lv_iconst (v := 0) hx hb dX2_tellsBare_15 (by decide) ?_
    exact W.zret (v := 0) hx hb hr (by rfl) (fun t ht hW => ⟨_, rfl, (Option.some.inj hM).symm, ht⟩) (fun _ h => by cases h) dX2_tellsBare_16
  · replace hM := ob_pos c_8 hM
    refine lv_iconst (v := 1) hx hb dX2_tellsBare_11 (by decide) ?_
    refine lv_goto (tgt := 16) hx hb dX2_tellsBare_12 (by decide) ?_
    exact W.zret (v := 1) hx hb hr (by rfl) (fun t ht hW => ⟨_, rfl, (Option.some.inj hM).symm, ht⟩) (fun _ h => by cases h) dX2_tellsBare_16
/-! X2_faultPlace -/
abbrev rm_X2_faultPlace : Room := { frames := 1, cells := 0, slots := 0, locals := 22 }
theorem in_X2_faultPlace_2 : ∀ w ∈ u_ws RX2 TX2 2, w ∈ wsX2_faultPlace := by decide +kernel
set_option maxHeartbeats 4000000 in
set_option maxRecDepth 100000 in
theorem c_X2_faultPlace (l : Launch) (dC : Nat → ClassId) (dI : Nat → Nat → Nat) (cI cZ cJ cW : ClassId) (t_a t_sg_a : Nat) (t_ln : Int32) (t_sg : Nat → Int32) (p1 : Int32) (R : Int32) (hM : M_X2_faultPlace p1 t_sg t_ln = some R) : Met l yX2_faultPlace wsX2_faultPlace rm_X2_faultPlace (va_Pc [.ref t_a, .int p1] (RP (dC, dI) cI cZ cJ cW [(t_a, .inr (2, [.ref t_sg_a, .int t_ln])), (t_sg_a, .inl (cI, 20, .inl t_sg))])) (vp_Si (fun r => R = r)) 0 0 (fun _ => False) := by
  refine Met.ofW (cc := cX2_faultPlace) (maxL := 5) (ret := (some .int)) (by decide) rfl ?_
  intro p e s m args below meth c s₁ B hml hv
  obtain ⟨rfl, hP, hK, hN⟩ := hv
  have hx := B.exec
  have hb := B.bytes
  have hr := B.returns
  have hts := atoms_spec (ws := wsX2_faultPlace) B.pre
  have hown : s.vm.findClass RX2 = some m.cls := findClass_of_methodNamed B.named
  have hlocks := B.notSynchronized
  have hf9 := hts (.fieldLink RX2 9 "WordGrounds$Text" "signs" "[I") (by decide +kernel)
  have hf15 := hts (.fieldLink RX2 15 "WordGrounds$Text" "length" "I") (by decide +kernel)
  have hl := lv_entry ([.ref t_a, .int p1]) (n := 5) (Nat.le_of_ble_eq_true rfl)
  rw [lg_entry_eq]
  generalize (lg_sl ([.ref t_a, .int p1]) ++ List.replicate (5 - (lg_sl ([.ref t_a, .int p1])).length) Slot.unset).toArray = ls at hl ⊢
  have hl : lv_has ls 5 [(0, .ref t_a), (1, .int p1)] := hl
  have hM : (if t_ln = 0 then (some 0) else ((M_X2_wordBit (t_sg (0 : Int32).toNatClampNeg) p1).bind (fun q14 => if q14 = 0 then (some 0) else (if t_ln = 1 then (some 1) else (if (t_sg (1 : Int32).toNatClampNeg) = 58 then ((M_X2_tellsBare t_sg).bind (fun q55 => if q55 = 0 then (L_X2_faultPlace_80 p1 t_sg t_ln (fun (v3_80 : Int32) (v2_80 : Int32) => some (-6)) 40 2 0) else (if t_ln = 2 then (some (-6)) else (some 2)))) else (if (t_sg (1 : Int32).toNatClampNeg) = 46 then ((M_X2_tellsBare t_sg).bind (fun q55 => if q55 = 0 then (L_X2_faultPlace_80 p1 t_sg t_ln (fun (v3_80 : Int32) (v2_80 : Int32) => some (-6)) 40 2 0) else (if t_ln = 2 then (some (-6)) else (some 2)))) else (some 1))))))) = some R := hM
  refine lv_aload_n hx hb dX2_faultPlace_0 rfl (lv_at hl 0 rfl) ?_
  refine va_get (D := (dC, dI)) (ci := 2) (v := .int t_ln) (C := RX2) (T := TX2) (N := 2) hx hb hts in_X2_faultPlace_2 hown hK hP 0 rfl rfl 1 (by decide) hf15 (fun _ h9 => h9) rfl dX2_faultPlace_1 ?_
  refine lv_if_eq (tgt := 20) hx hb dX2_faultPlace_4 (by decide) (fun c_4 => ?_) (fun c_4 => ?_)
  · replace hM := ob_pos c_4 hM
    refine lv_iconst (v := 0) hx hb dX2_faultPlace_20 (by decide) ?_
    exact W.iret (v := 0) hx hb hr (fun t ht hW => ⟨_, rfl, (Option.some.inj hM).symm, ht⟩) (fun _ h => by cases h) dX2_faultPlace_21
  · replace hM := ob_neg c_4 hM
    refine lv_aload_n hx hb dX2_faultPlace_7 rfl (lv_at hl 0 rfl) ?_
    refine va_get (D := (dC, dI)) (ci := 2) (v := .ref t_sg_a) (C := RX2) (T := TX2) (N := 2) hx hb hts in_X2_faultPlace_2 hown hK hP 0 rfl rfl 0 (by decide) hf9 (fun _ h9 => h9) rfl dX2_faultPlace_8 ?_
    refine lv_iconst (v := 0) hx hb dX2_faultPlace_11 (by decide) ?_
    refine va_iald hx hb hK hP 1 0 rfl rfl (show vp_in 0 20 from by unfold vp_in; decide) dX2_faultPlace_12 ?_
    refine lv_iload_n hx hb dX2_faultPlace_13 rfl (lv_at hl 1 rfl) ?_
    obtain ⟨q14, hv14, hM⟩ := ob_bind hM
    refine vp_callSi (va_Run.run (va_runS (As := [.int (t_sg (0 : Int32).toNatClampNeg), .int p1]) (rest := []) ⟨hx, hb, hml, hown, hts⟩ (c_X2_wordBit l dC dI cI cZ cJ cW (t_sg (0 : Int32).toNatClampNeg) p1 q14 hv14) (va_cwS 2 hts gX2_faultPlace_X2_wordBit rfl rfl rfl (by decide +kernel) ⟨Nat.le_of_ble_eq_true rfl, Nat.le_of_ble_eq_true rfl⟩) ⟨TP.blind, fun U hU hW => ⟨rfl, trivial⟩⟩ rfl rfl hl.1 rfl (lv_room (Nat.le_of_ble_eq_true rfl)) dX2_faultPlace_14 ⟨Nat.le_of_ble_eq_true rfl, Nat.le_of_ble_eq_true rfl⟩)) (fun r hr => ?_)
    subst hr
    refine lv_if_ne (tgt := 22) hx hb dX2_faultPlace_17 (by decide) (fun c_17 => ?_) (fun c_17 => ?_)
    · replace hM := ob_neg c_17 hM
      refine lv_aload_n hx hb dX2_faultPlace_22 rfl (lv_at hl 0 rfl) ?_
      refine va_get (D := (dC, dI)) (ci := 2) (v := .int t_ln) (C := RX2) (T := TX2) (N := 2) hx hb hts in_X2_faultPlace_2 hown hK hP 0 rfl rfl 1 (by decide) hf15 (fun _ h9 => h9) rfl dX2_faultPlace_23 ?_
      refine lv_iconst (v := 1) hx hb dX2_faultPlace_26 (by decide) ?_
      refine lv_icmp_eq (tgt := 52) hx hb dX2_faultPlace_27 (by decide) (fun c_27 => ?_) (fun c_27 => ?_)
      · replace hM := ob_pos c_27 hM
        refine lv_iconst (v := 1) hx hb dX2_faultPlace_52 (by decide) ?_
        exact W.iret (v := 1) hx hb hr (fun t ht hW => ⟨_, rfl, (Option.some.inj hM).symm, ht⟩) (fun _ h => by cases h) dX2_faultPlace_53
      · replace hM := ob_neg c_27 hM
        refine lv_aload_n hx hb dX2_faultPlace_30 rfl (lv_at hl 0 rfl) ?_
        refine va_get (D := (dC, dI)) (ci := 2) (v := .ref t_sg_a) (C := RX2) (T := TX2) (N := 2) hx hb hts in_X2_faultPlace_2 hown hK hP 0 rfl rfl 0 (by decide) hf9 (fun _ h9 => h9) rfl dX2_faultPlace_31 ?_
        refine lv_iconst (v := 1) hx hb dX2_faultPlace_34 (by decide) ?_
        refine va_iald hx hb hK hP 1 0 rfl rfl (show vp_in 1 20 from by unfold vp_in; decide) dX2_faultPlace_35 ?_
        refine lv_bipush (v := 58) hx hb dX2_faultPlace_36 (by decide) ?_
        refine lv_icmp_eq (tgt := 54) hx hb dX2_faultPlace_38 (by decide) (fun c_38 => ?_) (fun c_38 => ?_)
        · replace hM := ob_pos c_38 hM
          refine lv_aload_n hx hb dX2_faultPlace_54 rfl (lv_at hl 0 rfl) ?_
          obtain ⟨q55, hv55, hM⟩ := ob_bind hM
          refine vp_callSi (va_Run.run (va_runV (As := []) (rest := []) ⟨hx, hb, hml, hown, hts⟩ (c_X2_tellsBare l dC dI cI cZ cJ cW t_a t_sg_a t_ln t_sg q55 hv55) (cwV 0 hts gX2_faultPlace_X2_tellsBare rfl rfl rfl (by decide +kernel) ⟨Nat.le_of_ble_eq_true rfl, Nat.le_of_ble_eq_true rfl⟩) ⟨RP.blind, va_recv hK hP (ci := 2) (q0 := 0) rfl rfl, fun U hU hW => ⟨rfl, by rw [hU]; exact hP.sub (ws' := [(t_a, .inr (2, [.ref t_sg_a, .int t_ln])), (t_sg_a, .inl (cI, 20, .inl t_sg))]) [0, 1] rfl, va_K.moved hW.alike hK, hN.warm hW⟩⟩ rfl rfl hl.1 rfl (lv_room (Nat.le_of_ble_eq_true rfl)) dX2_faultPlace_55 ⟨Nat.le_of_ble_eq_true rfl, Nat.le_of_ble_eq_true rfl⟩)) (fun r hr => ?_)
          subst hr
          refine lv_if_eq (tgt := 76) hx hb dX2_faultPlace_58 (by decide) (fun c_58 => ?_) (fun c_58 => ?_)
          · replace hM := ob_pos c_58 hM
            refine lv_iconst (v := 0) hx hb dX2_faultPlace_76 (by decide) ?_
            refine lv_istore_n (lv' := [(2, .int 0), (0, .ref t_a), (1, .int p1)]) hx hb dX2_faultPlace_77 rfl hl (by decide) rfl (fun ls hl => ?_)
            refine lv_iconst (v := 2) hx hb dX2_faultPlace_78 (by decide) ?_
            refine lv_istore_n (lv' := [(3, .int 2), (2, .int 0), (0, .ref t_a), (1, .int p1)]) hx hb dX2_faultPlace_79 rfl hl (by decide) rfl (fun ls hl => ?_)
            obtain ⟨K80, hK80⟩ : ∃ K : Int32 → Int32 → Option (Int32), K = (fun (v3_80 : Int32) (v2_80 : Int32) => some (-6)) := ⟨_, rfl⟩
            have hM : L_X2_faultPlace_80 p1 t_sg t_ln K80 40 2 0 = some R := by rw [hK80]; exact hM
            have hL80 : ∀ (k80 : Nat) (v3_80 : Int32) (v2_80 : Int32) (ls : Array Slot), L_X2_faultPlace_80 p1 t_sg t_ln K80 k80 v3_80 v2_80 = some R → lv_has ls 5 [(3, .int v3_80), (2, .int v2_80), (0, .ref t_a), (1, .int p1)] → W p l e rm_X2_faultPlace s m ([.ref t_a, .int p1] : List Value).toArray below meth c s.heap [] 0 0 (MQ below (vp_Si (fun r => R = r)) ([.ref t_a, .int p1] : List Value).toArray s 0 0 (fun _ => False)) (F0 m 80 ls []) := by
              intro k80
              induction k80 with
              | zero => intro v3_80 v2_80 ls hM; exact (ob_none hM).elim
              | succ k80 ih80 =>
                intro v3_80 v2_80 ls hM hl
                have hM : (if t_ln ≤ v3_80 then (K80 v3_80 v2_80) else (if v3_80 < 0 ∨ 20 ≤ (v3_80).toNatClampNeg then none else ((M_X2_wordBit (t_sg (v3_80).toNatClampNeg) p1).bind (fun q95 => if q95 = 0 then (some v3_80) else (if (v2_80 &&& q95) = 0 then (L_X2_faultPlace_80 p1 t_sg t_ln K80 k80 (v3_80 + 1) (v2_80 ||| q95)) else (some v3_80)))))) = some R := hM
                refine lv_iload_n hx hb dX2_faultPlace_80 rfl (lv_at hl 0 rfl) ?_
                refine lv_aload_n hx hb dX2_faultPlace_81 rfl (lv_at hl 2 rfl) ?_
                refine va_get (D := (dC, dI)) (ci := 2) (v := .int t_ln) (C := RX2) (T := TX2) (N := 2) hx hb hts in_X2_faultPlace_2 hown hK hP 0 rfl rfl 1 (by decide) hf15 (fun _ h9 => h9) rfl dX2_faultPlace_82 ?_
                refine lv_icmp_ge (tgt := 125) hx hb dX2_faultPlace_85 (by decide) (fun c_85 => ?_) (fun c_85 => ?_)
                · replace hM := ob_pos c_85 hM
                  have hM : (some (-6)) = some R := by rw [hK80] at hM; exact hM
                  refine lv_bipush (v := (-6)) hx hb dX2_faultPlace_125 (by decide) ?_
                  exact W.iret (v := (-6)) hx hb hr (fun t ht hW => ⟨_, rfl, (Option.some.inj hM).symm, ht⟩) (fun _ h => by cases h) dX2_faultPlace_127
                · replace hM := ob_neg c_85 hM
                  refine lv_aload_n hx hb dX2_faultPlace_88 rfl (lv_at hl 2 rfl) ?_
                  refine va_get (D := (dC, dI)) (ci := 2) (v := .ref t_sg_a) (C := RX2) (T := TX2) (N := 2) hx hb hts in_X2_faultPlace_2 hown hK hP 0 rfl rfl 0 (by decide) hf9 (fun _ h9 => h9) rfl dX2_faultPlace_89 ?_
                  refine lv_iload_n hx hb dX2_faultPlace_92 rfl (lv_at hl 0 rfl) ?_
                  obtain ⟨h_93, hM⟩ := ob_get hM
                  refine va_iald hx hb hK hP 1 0 rfl rfl h_93 dX2_faultPlace_93 ?_
                  refine lv_iload_n hx hb dX2_faultPlace_94 rfl (lv_at hl 3 rfl) ?_
                  obtain ⟨q95, hv95, hM⟩ := ob_bind hM
                  refine vp_callSi (va_Run.run (va_runS (As := [.int (t_sg (v3_80).toNatClampNeg), .int p1]) (rest := []) ⟨hx, hb, hml, hown, hts⟩ (c_X2_wordBit l dC dI cI cZ cJ cW (t_sg (v3_80).toNatClampNeg) p1 q95 hv95) (va_cwS 2 hts gX2_faultPlace_X2_wordBit rfl rfl rfl (by decide +kernel) ⟨Nat.le_of_ble_eq_true rfl, Nat.le_of_ble_eq_true rfl⟩) ⟨TP.blind, fun U hU hW => ⟨rfl, trivial⟩⟩ rfl rfl hl.1 rfl (lv_room (Nat.le_of_ble_eq_true rfl)) dX2_faultPlace_95 ⟨Nat.le_of_ble_eq_true rfl, Nat.le_of_ble_eq_true rfl⟩)) (fun r hr => ?_)
                  subst hr
                  refine lv_istore (lv' := [(4, .int q95), (3, .int v3_80), (2, .int v2_80), (0, .ref t_a), (1, .int p1)]) hx hb dX2_faultPlace_98 hl (by decide) rfl (fun ls hl => ?_)
                  refine lv_iload hx hb dX2_faultPlace_100 (lv_at hl 0 rfl) ?_
                  refine lv_if_eq (tgt := 112) hx hb dX2_faultPlace_102 (by decide) (fun c_102 => ?_) (fun c_102 => ?_)
                  · replace hM := ob_pos c_102 hM
                    refine lv_iload_n hx hb dX2_faultPlace_112 rfl (lv_at hl 1 rfl) ?_
                    exact W.iret (v := v3_80) hx hb hr (fun t ht hW => ⟨_, rfl, (Option.some.inj hM).symm, ht⟩) (fun _ h => by cases h) dX2_faultPlace_113
                  · replace hM := ob_neg c_102 hM
                    refine lv_iload_n hx hb dX2_faultPlace_105 rfl (lv_at hl 2 rfl) ?_
                    refine lv_iload hx hb dX2_faultPlace_106 (lv_at hl 0 rfl) ?_
                    refine lv_iand hx hb dX2_faultPlace_108 ?_
                    refine lv_if_eq (tgt := 114) hx hb dX2_faultPlace_109 (by decide) (fun c_109 => ?_) (fun c_109 => ?_)
                    · replace hM := ob_pos c_109 hM
                      refine lv_iload_n hx hb dX2_faultPlace_114 rfl (lv_at hl 2 rfl) ?_
                      refine lv_iload hx hb dX2_faultPlace_115 (lv_at hl 0 rfl) ?_
                      refine lv_ior hx hb dX2_faultPlace_117 ?_
                      refine lv_istore_n (lv' := [(2, .int (v2_80 ||| q95)), (4, .int q95), (3, .int v3_80), (0, .ref t_a), (1, .int p1)]) hx hb dX2_faultPlace_118 rfl hl (by decide) rfl (fun ls hl => ?_)
                      refine lv_iinc (v := (v3_80 + 1)) (lv' := [(3, .int (v3_80 + 1)), (2, .int (v2_80 ||| q95)), (4, .int q95), (0, .ref t_a), (1, .int p1)]) hx hb dX2_faultPlace_119 hl (k := 2) rfl (by rfl) (by decide) rfl (fun ls hl => ?_)
                      refine lv_goto (tgt := 80) hx hb dX2_faultPlace_122 (by decide) ?_
                      exact ih80 (v3_80 + 1) (v2_80 ||| q95) _ hM (lv_sub hl [0, 1, 3, 4] rfl)
                    · replace hM := ob_neg c_109 hM
                      refine lv_iload_n hx hb dX2_faultPlace_112 rfl (lv_at hl 1 rfl) ?_
                      exact W.iret (v := v3_80) hx hb hr (fun t ht hW => ⟨_, rfl, (Option.some.inj hM).symm, ht⟩) (fun _ h => by cases h) dX2_faultPlace_113
            exact hL80 40 2 0 _ hM (lv_sub hl [0, 1, 2, 3] rfl)
          · replace hM := ob_neg c_58 hM
            refine lv_aload_n hx hb dX2_faultPlace_61 rfl (lv_at hl 0 rfl) ?_
            refine va_get (D := (dC, dI)) (ci := 2) (v := .int t_ln) (C := RX2) (T := TX2) (N := 2) hx hb hts in_X2_faultPlace_2 hown hK hP 0 rfl rfl 1 (by decide) hf15 (fun _ h9 => h9) rfl dX2_faultPlace_62 ?_
            refine lv_iconst (v := 2) hx hb dX2_faultPlace_65 (by decide) ?_
            refine lv_icmp_ne (tgt := 74) hx hb dX2_faultPlace_66 (by decide) (fun c_66 => ?_) (fun c_66 => ?_)
            · replace hM := ob_neg c_66 hM
              refine lv_iconst (v := 2) hx hb dX2_faultPlace_74 (by decide) ?_
              exact W.iret (v := 2) hx hb hr (fun t ht hW => ⟨_, rfl, (Option.some.inj hM).symm, ht⟩) (fun _ h => by cases h) dX2_faultPlace_75
            · replace hM := ob_pos c_66 hM
              refine lv_bipush (v := (-6)) hx hb dX2_faultPlace_69 (by decide) ?_
              refine lv_goto (tgt := 75) hx hb dX2_faultPlace_71 (by decide) ?_
              exact W.iret (v := (-6)) hx hb hr (fun t ht hW => ⟨_, rfl, (Option.some.inj hM).symm, ht⟩) (fun _ h => by cases h) dX2_faultPlace_75
        · replace hM := ob_neg c_38 hM
          refine lv_aload_n hx hb dX2_faultPlace_41 rfl (lv_at hl 0 rfl) ?_
          refine va_get (D := (dC, dI)) (ci := 2) (v := .ref t_sg_a) (C := RX2) (T := TX2) (N := 2) hx hb hts in_X2_faultPlace_2 hown hK hP 0 rfl rfl 0 (by decide) hf9 (fun _ h9 => h9) rfl dX2_faultPlace_42 ?_
          refine lv_iconst (v := 1) hx hb dX2_faultPlace_45 (by decide) ?_
          refine va_iald hx hb hK hP 1 0 rfl rfl (show vp_in 1 20 from by unfold vp_in; decide) dX2_faultPlace_46 ?_
          refine lv_bipush (v := 46) hx hb dX2_faultPlace_47 (by decide) ?_
          refine lv_icmp_eq (tgt := 54) hx hb dX2_faultPlace_49 (by decide) (fun c_49 => ?_) (fun c_49 => ?_)
          · replace hM := ob_pos c_49 hM
            refine lv_aload_n hx hb dX2_faultPlace_54 rfl (lv_at hl 0 rfl) ?_
            obtain ⟨q55, hv55, hM⟩ := ob_bind hM
            refine vp_callSi (va_Run.run (va_runV (As := []) (rest := []) ⟨hx, hb, hml, hown, hts⟩ (c_X2_tellsBare l dC dI cI cZ cJ cW t_a t_sg_a t_ln t_sg q55 hv55) (cwV 0 hts gX2_faultPlace_X2_tellsBare rfl rfl rfl (by decide +kernel) ⟨Nat.le_of_ble_eq_true rfl, Nat.le_of_ble_eq_true rfl⟩) ⟨RP.blind, va_recv hK hP (ci := 2) (q0 := 0) rfl rfl, fun U hU hW => ⟨rfl, by rw [hU]; exact hP.sub (ws' := [(t_a, .inr (2, [.ref t_sg_a, .int t_ln])), (t_sg_a, .inl (cI, 20, .inl t_sg))]) [0, 1] rfl, va_K.moved hW.alike hK, hN.warm hW⟩⟩ rfl rfl hl.1 rfl (lv_room (Nat.le_of_ble_eq_true rfl)) dX2_faultPlace_55 ⟨Nat.le_of_ble_eq_true rfl, Nat.le_of_ble_eq_true rfl⟩)) (fun r hr => ?_)
            subst hr
            refine lv_if_eq (tgt := 76) hx hb dX2_faultPlace_58 (by decide) (fun c_58 => ?_) (fun c_58 => ?_)
            · replace hM := ob_pos c_58 hM
              refine lv_iconst (v := 0) hx hb dX2_faultPlace_76 (by decide) ?_
              refine lv_istore_n (lv' := [(2, .int 0), (0, .ref t_a), (1, .int p1)]) hx hb dX2_faultPlace_77 rfl hl (by decide) rfl (fun ls hl => ?_)
              refine lv_iconst (v := 2) hx hb dX2_faultPlace_78 (by decide) ?_
              refine lv_istore_n (lv' := [(3, .int 2), (2, .int 0), (0, .ref t_a), (1, .int p1)]) hx hb dX2_faultPlace_79 rfl hl (by decide) rfl (fun ls hl => ?_)
              obtain ⟨K80, hK80⟩ : ∃ K : Int32 → Int32 → Option (Int32), K = (fun (v3_80 : Int32) (v2_80 : Int32) => some (-6)) := ⟨_, rfl⟩
              have hM : L_X2_faultPlace_80 p1 t_sg t_ln K80 40 2 0 = some R := by rw [hK80]; exact hM
              have hL80 : ∀ (k80 : Nat) (v3_80 : Int32) (v2_80 : Int32) (ls : Array Slot), L_X2_faultPlace_80 p1 t_sg t_ln K80 k80 v3_80 v2_80 = some R → lv_has ls 5 [(3, .int v3_80), (2, .int v2_80), (0, .ref t_a), (1, .int p1)] → W p l e rm_X2_faultPlace s m ([.ref t_a, .int p1] : List Value).toArray below meth c s.heap [] 0 0 (MQ below (vp_Si (fun r => R = r)) ([.ref t_a, .int p1] : List Value).toArray s 0 0 (fun _ => False)) (F0 m 80 ls []) := by
                intro k80
                induction k80 with
                | zero => intro v3_80 v2_80 ls hM; exact (ob_none hM).elim
                | succ k80 ih80 =>
                  intro v3_80 v2_80 ls hM hl
                  have hM : (if t_ln ≤ v3_80 then (K80 v3_80 v2_80) else (if v3_80 < 0 ∨ 20 ≤ (v3_80).toNatClampNeg then none else ((M_X2_wordBit (t_sg (v3_80).toNatClampNeg) p1).bind (fun q95 => if q95 = 0 then (some v3_80) else (if (v2_80 &&& q95) = 0 then (L_X2_faultPlace_80 p1 t_sg t_ln K80 k80 (v3_80 + 1) (v2_80 ||| q95)) else (some v3_80)))))) = some R := hM
                  refine lv_iload_n hx hb dX2_faultPlace_80 rfl (lv_at hl 0 rfl) ?_
                  refine lv_aload_n hx hb dX2_faultPlace_81 rfl (lv_at hl 2 rfl) ?_
                  refine va_get (D := (dC, dI)) (ci := 2) (v := .int t_ln) (C := RX2) (T := TX2) (N := 2) hx hb hts in_X2_faultPlace_2 hown hK hP 0 rfl rfl 1 (by decide) hf15 (fun _ h9 => h9) rfl dX2_faultPlace_82 ?_
                  refine lv_icmp_ge (tgt := 125) hx hb dX2_faultPlace_85 (by decide) (fun c_85 => ?_) (fun c_85 => ?_)
                  · replace hM := ob_pos c_85 hM
                    have hM : (some (-6)) = some R := by rw [hK80] at hM; exact hM
                    refine lv_bipush (v := (-6)) hx hb dX2_faultPlace_125 (by decide) ?_
                    exact W.iret (v := (-6)) hx hb hr (fun t ht hW => ⟨_, rfl, (Option.some.inj hM).symm, ht⟩) (fun _ h => by cases h) dX2_faultPlace_127
                  · replace hM := ob_neg c_85 hM
                    refine lv_aload_n hx hb dX2_faultPlace_88 rfl (lv_at hl 2 rfl) ?_
                    refine va_get (D := (dC, dI)) (ci := 2) (v := .ref t_sg_a) (C := RX2) (T := TX2) (N := 2) hx hb hts in_X2_faultPlace_2 hown hK hP 0 rfl rfl 0 (by decide) hf9 (fun _ h9 => h9) rfl dX2_faultPlace_89 ?_
                    refine lv_iload_n hx hb dX2_faultPlace_92 rfl (lv_at hl 0 rfl) ?_
                    obtain ⟨h_93, hM⟩ := ob_get hM
                    refine va_iald hx hb hK hP 1 0 rfl rfl h_93 dX2_faultPlace_93 ?_
                    refine lv_iload_n hx hb dX2_faultPlace_94 rfl (lv_at hl 3 rfl) ?_
                    obtain ⟨q95, hv95, hM⟩ := ob_bind hM
                    refine vp_callSi (va_Run.run (va_runS (As := [.int (t_sg (v3_80).toNatClampNeg), .int p1]) (rest := []) ⟨hx, hb, hml, hown, hts⟩ (c_X2_wordBit l dC dI cI cZ cJ cW (t_sg (v3_80).toNatClampNeg) p1 q95 hv95) (va_cwS 2 hts gX2_faultPlace_X2_wordBit rfl rfl rfl (by decide +kernel) ⟨Nat.le_of_ble_eq_true rfl, Nat.le_of_ble_eq_true rfl⟩) ⟨TP.blind, fun U hU hW => ⟨rfl, trivial⟩⟩ rfl rfl hl.1 rfl (lv_room (Nat.le_of_ble_eq_true rfl)) dX2_faultPlace_95 ⟨Nat.le_of_ble_eq_true rfl, Nat.le_of_ble_eq_true rfl⟩)) (fun r hr => ?_)
                    subst hr
                    refine lv_istore (lv' := [(4, .int q95), (3, .int v3_80), (2, .int v2_80), (0, .ref t_a), (1, .int p1)]) hx hb dX2_faultPlace_98 hl (by decide) rfl (fun ls hl => ?_)
                    refine lv_iload hx hb dX2_faultPlace_100 (lv_at hl 0 rfl) ?_
                    refine lv_if_eq (tgt := 112) hx hb dX2_faultPlace_102 (by decide) (fun c_102 => ?_) (fun c_102 => ?_)
                    · replace hM := ob_pos c_102 hM
                      refine lv_iload_n hx hb dX2_faultPlace_112 rfl (lv_at hl 1 rfl) ?_
                      exact W.iret (v := v3_80) hx hb hr (fun t ht hW => ⟨_, rfl, (Option.some.inj hM).symm, ht⟩) (fun _ h => by cases h) dX2_faultPlace_113
                    · replace hM := ob_neg c_102 hM
                      refine lv_iload_n hx hb dX2_faultPlace_105 rfl (lv_at hl 2 rfl) ?_
                      refine lv_iload hx hb dX2_faultPlace_106 (lv_at hl 0 rfl) ?_
                      refine lv_iand hx hb dX2_faultPlace_108 ?_
                      refine lv_if_eq (tgt := 114) hx hb dX2_faultPlace_109 (by decide) (fun c_109 => ?_) (fun c_109 => ?_)
                      · replace hM := ob_pos c_109 hM
                        refine lv_iload_n hx hb dX2_faultPlace_114 rfl (lv_at hl 2 rfl) ?_
                        refine lv_iload hx hb dX2_faultPlace_115 (lv_at hl 0 rfl) ?_
                        refine lv_ior hx hb dX2_faultPlace_117 ?_
                        refine lv_istore_n (lv' := [(2, .int (v2_80 ||| q95)), (4, .int q95), (3, .int v3_80), (0, .ref t_a), (1, .int p1)]) hx hb dX2_faultPlace_118 rfl hl (by decide) rfl (fun ls hl => ?_)
                        refine lv_iinc (v := (v3_80 + 1)) (lv' := [(3, .int (v3_80 + 1)), (2, .int (v2_80 ||| q95)), (4, .int q95), (0, .ref t_a), (1, .int p1)]) hx hb dX2_faultPlace_119 hl (k := 2) rfl (by rfl) (by decide) rfl (fun ls hl => ?_)
                        refine lv_goto (tgt := 80) hx hb dX2_faultPlace_122 (by decide) ?_
                        exact ih80 (v3_80 + 1) (v2_80 ||| q95) _ hM (lv_sub hl [0, 1, 3, 4] rfl)
                      · replace hM := ob_neg c_109 hM
                        refine lv_iload_n hx hb dX2_faultPlace_112 rfl (lv_at hl 1 rfl) ?_
                        exact W.iret (v := v3_80) hx hb hr (fun t ht hW => ⟨_, rfl, (Option.some.inj hM).symm, ht⟩) (fun _ h => by cases h) dX2_faultPlace_113
              exact hL80 40 2 0 _ hM (lv_sub hl [0, 1, 2, 3] rfl)
            · replace hM := ob_neg c_58 hM
              refine lv_aload_n hx hb dX2_faultPlace_61 rfl (lv_at hl 0 rfl) ?_
              refine va_get (D := (dC, dI)) (ci := 2) (v := .int t_ln) (C := RX2) (T := TX2) (N := 2) hx hb hts in_X2_faultPlace_2 hown hK hP 0 rfl rfl 1 (by decide) hf15 (fun _ h9 => h9) rfl dX2_faultPlace_62 ?_
              refine lv_iconst (v := 2) hx hb dX2_faultPlace_65 (by decide) ?_
              refine lv_icmp_ne (tgt := 74) hx hb dX2_faultPlace_66 (by decide) (fun c_66 => ?_) (fun c_66 => ?_)
              · replace hM := ob_neg c_66 hM
                refine lv_iconst (v := 2) hx hb dX2_faultPlace_74 (by decide) ?_
                exact W.iret (v := 2) hx hb hr (fun t ht hW => ⟨_, rfl, (Option.some.inj hM).symm, ht⟩) (fun _ h => by cases h) dX2_faultPlace_75
              · replace hM := ob_pos c_66 hM
                refine lv_bipush (v := (-6)) hx hb dX2_faultPlace_69 (by decide) ?_
                refine lv_goto (tgt := 75) hx hb dX2_faultPlace_71 (by decide) ?_
                exact W.iret (v := (-6)) hx hb hr (fun t ht hW => ⟨_, rfl, (Option.some.inj hM).symm, ht⟩) (fun _ h => by cases h) dX2_faultPlace_75
          · replace hM := ob_neg c_49 hM
            refine lv_iconst (v := 1) hx hb dX2_faultPlace_52 (by decide) ?_
            exact W.iret (v := 1) hx hb hr (fun t ht hW => ⟨_, rfl, (Option.some.inj hM).symm, ht⟩) (fun _ h => by cases h) dX2_faultPlace_53
    · replace hM := ob_pos c_17 hM
      refine lv_iconst (v := 0) hx hb dX2_faultPlace_20 (by decide) ?_
      exact W.iret (v := 0) hx hb hr (fun t ht hW => ⟨_, rfl, (Option.some.inj hM).symm, ht⟩) (fun _ h => by cases h) dX2_faultPlace_21
/-! X2_toldWord -/
abbrev rm_X2_toldWord : Room := { frames := 0, cells := 0, slots := 0, locals := 0 }
theorem in_X2_toldWord_2 : ∀ w ∈ u_ws RX2 TX2 2, w ∈ wsX2_toldWord := by decide +kernel
set_option maxHeartbeats 4000000 in
set_option maxRecDepth 100000 in
theorem c_X2_toldWord (l : Launch) (dC : Nat → ClassId) (dI : Nat → Nat → Nat) (cI cZ cJ cW : ClassId) (t_a t_sg_a : Nat) (t_ln : Int32) (t_sg : Nat → Int32) (R : Int32) (hM : M_X2_toldWord t_sg = some R) : Met l yX2_toldWord wsX2_toldWord rm_X2_toldWord (va_Pc [.ref t_a] (RP (dC, dI) cI cZ cJ cW [(t_a, .inr (2, [.ref t_sg_a, .int t_ln])), (t_sg_a, .inl (cI, 20, .inl t_sg))])) (vp_Si (fun r => R = r)) 0 0 (fun _ => False) := by
  refine Met.ofW (cc := cX2_toldWord) (maxL := 1) (ret := (some .int)) (by decide) rfl ?_
  intro p e s m args below meth c s₁ B hml hv
  obtain ⟨rfl, hP, hK, hN⟩ := hv
  have hx := B.exec
  have hb := B.bytes
  have hr := B.returns
  have hts := atoms_spec (ws := wsX2_toldWord) B.pre
  have hown : s.vm.findClass RX2 = some m.cls := findClass_of_methodNamed B.named
  have hlocks := B.notSynchronized
  have hf9 := hts (.fieldLink RX2 9 "WordGrounds$Text" "signs" "[I") (by decide +kernel)
  have hl := lv_entry ([.ref t_a]) (n := 1) (Nat.le_of_ble_eq_true rfl)
  rw [lg_entry_eq]
  generalize (lg_sl ([.ref t_a]) ++ List.replicate (1 - (lg_sl ([.ref t_a])).length) Slot.unset).toArray = ls at hl ⊢
  have hl : lv_has ls 1 [(0, .ref t_a)] := hl
  have hM : (some ((t_sg (0 : Int32).toNatClampNeg) - 97)) = some R := hM
  refine lv_aload_n hx hb dX2_toldWord_0 rfl (lv_at hl 0 rfl) ?_
  refine va_get (D := (dC, dI)) (ci := 2) (v := .ref t_sg_a) (C := RX2) (T := TX2) (N := 2) hx hb hts in_X2_toldWord_2 hown hK hP 0 rfl rfl 0 (by decide) hf9 (fun _ h9 => h9) rfl dX2_toldWord_1 ?_
  refine lv_iconst (v := 0) hx hb dX2_toldWord_4 (by decide) ?_
  refine va_iald hx hb hK hP 1 0 rfl rfl (show vp_in 0 20 from by unfold vp_in; decide) dX2_toldWord_5 ?_
  refine lv_bipush (v := 97) hx hb dX2_toldWord_6 (by decide) ?_
  refine lv_isub hx hb dX2_toldWord_8 ?_
  exact W.iret (v := ((t_sg (0 : Int32).toNatClampNeg) - 97)) hx hb hr (fun t ht hW => ⟨_, rfl, (Option.some.inj hM).symm, ht⟩) (fun _ h => by cases h) dX2_toldWord_9
/-! X2_toldSet -/
abbrev rm_X2_toldSet : Room := { frames := 1, cells := 0, slots := 0, locals := 22 }
theorem in_X2_toldSet_2 : ∀ w ∈ u_ws RX2 TX2 2, w ∈ wsX2_toldSet := by decide +kernel
set_option maxHeartbeats 4000000 in
set_option maxRecDepth 100000 in
theorem c_X2_toldSet (l : Launch) (dC : Nat → ClassId) (dI : Nat → Nat → Nat) (cI cZ cJ cW : ClassId) (t_a t_sg_a : Nat) (t_ln : Int32) (t_sg : Nat → Int32) (R : Int32) (hM : M_X2_toldSet t_sg t_ln = some R) : Met l yX2_toldSet wsX2_toldSet rm_X2_toldSet (va_Pc [.ref t_a] (RP (dC, dI) cI cZ cJ cW [(t_a, .inr (2, [.ref t_sg_a, .int t_ln])), (t_sg_a, .inl (cI, 20, .inl t_sg))])) (vp_Si (fun r => R = r)) 0 0 (fun _ => False) := by
  refine Met.ofW (cc := cX2_toldSet) (maxL := 3) (ret := (some .int)) (by decide) rfl ?_
  intro p e s m args below meth c s₁ B hml hv
  obtain ⟨rfl, hP, hK, hN⟩ := hv
  have hx := B.exec
  have hb := B.bytes
  have hr := B.returns
  have hts := atoms_spec (ws := wsX2_toldSet) B.pre
  have hown : s.vm.findClass RX2 = some m.cls := findClass_of_methodNamed B.named
  have hlocks := B.notSynchronized
  have hf9 := hts (.fieldLink RX2 9 "WordGrounds$Text" "signs" "[I") (by decide +kernel)
  have hf15 := hts (.fieldLink RX2 15 "WordGrounds$Text" "length" "I") (by decide +kernel)
  have hl := lv_entry ([.ref t_a]) (n := 3) (Nat.le_of_ble_eq_true rfl)
  rw [lg_entry_eq]
  generalize (lg_sl ([.ref t_a]) ++ List.replicate (3 - (lg_sl ([.ref t_a])).length) Slot.unset).toArray = ls at hl ⊢
  have hl : lv_has ls 3 [(0, .ref t_a)] := hl
  have hM : (L_X2_toldSet_4 t_sg t_ln (fun (v2_4 : Int32) (v1_4 : Int32) => some v1_4) 40 2 0) = some R := hM
  refine lv_iconst (v := 0) hx hb dX2_toldSet_0 (by decide) ?_
  refine lv_istore_n (lv' := [(1, .int 0), (0, .ref t_a)]) hx hb dX2_toldSet_1 rfl hl (by decide) rfl (fun ls hl => ?_)
  refine lv_iconst (v := 2) hx hb dX2_toldSet_2 (by decide) ?_
  refine lv_istore_n (lv' := [(2, .int 2), (1, .int 0), (0, .ref t_a)]) hx hb dX2_toldSet_3 rfl hl (by decide) rfl (fun ls hl => ?_)
  obtain ⟨K4, hK4⟩ : ∃ K : Int32 → Int32 → Option (Int32), K = (fun (v2_4 : Int32) (v1_4 : Int32) => some v1_4) := ⟨_, rfl⟩
  have hM : L_X2_toldSet_4 t_sg t_ln K4 40 2 0 = some R := by rw [hK4]; exact hM
  have hL4 : ∀ (k4 : Nat) (v2_4 : Int32) (v1_4 : Int32) (ls : Array Slot), L_X2_toldSet_4 t_sg t_ln K4 k4 v2_4 v1_4 = some R → lv_has ls 3 [(2, .int v2_4), (1, .int v1_4), (0, .ref t_a)] → W p l e rm_X2_toldSet s m ([.ref t_a] : List Value).toArray below meth c s.heap [] 0 0 (MQ below (vp_Si (fun r => R = r)) ([.ref t_a] : List Value).toArray s 0 0 (fun _ => False)) (F0 m 4 ls []) := by
    intro k4
    induction k4 with
    | zero => intro v2_4 v1_4 ls hM; exact (ob_none hM).elim
    | succ k4 ih4 =>
      intro v2_4 v1_4 ls hM hl
      have hM : (if t_ln ≤ v2_4 then (K4 v2_4 v1_4) else (if v2_4 < 0 ∨ 20 ≤ (v2_4).toNatClampNeg then none else ((M_X2_wordBit (t_sg (v2_4).toNatClampNeg) 14).bind (fun q21 => L_X2_toldSet_4 t_sg t_ln K4 k4 (v2_4 + 1) (v1_4 ||| q21))))) = some R := hM
      refine lv_iload_n hx hb dX2_toldSet_4 rfl (lv_at hl 0 rfl) ?_
      refine lv_aload_n hx hb dX2_toldSet_5 rfl (lv_at hl 2 rfl) ?_
      refine va_get (D := (dC, dI)) (ci := 2) (v := .int t_ln) (C := RX2) (T := TX2) (N := 2) hx hb hts in_X2_toldSet_2 hown hK hP 0 rfl rfl 1 (by decide) hf15 (fun _ h9 => h9) rfl dX2_toldSet_6 ?_
      refine lv_icmp_ge (tgt := 32) hx hb dX2_toldSet_9 (by decide) (fun c_9 => ?_) (fun c_9 => ?_)
      · replace hM := ob_pos c_9 hM
        have hM : (some v1_4) = some R := by rw [hK4] at hM; exact hM
        refine lv_iload_n hx hb dX2_toldSet_32 rfl (lv_at hl 1 rfl) ?_
        exact W.iret (v := v1_4) hx hb hr (fun t ht hW => ⟨_, rfl, (Option.some.inj hM).symm, ht⟩) (fun _ h => by cases h) dX2_toldSet_33
      · replace hM := ob_neg c_9 hM
        refine lv_iload_n hx hb dX2_toldSet_12 rfl (lv_at hl 1 rfl) ?_
        refine lv_aload_n hx hb dX2_toldSet_13 rfl (lv_at hl 2 rfl) ?_
        refine va_get (D := (dC, dI)) (ci := 2) (v := .ref t_sg_a) (C := RX2) (T := TX2) (N := 2) hx hb hts in_X2_toldSet_2 hown hK hP 0 rfl rfl 0 (by decide) hf9 (fun _ h9 => h9) rfl dX2_toldSet_14 ?_
        refine lv_iload_n hx hb dX2_toldSet_17 rfl (lv_at hl 0 rfl) ?_
        obtain ⟨h_18, hM⟩ := ob_get hM
        refine va_iald hx hb hK hP 1 0 rfl rfl h_18 dX2_toldSet_18 ?_
        refine lv_bipush (v := 14) hx hb dX2_toldSet_19 (by decide) ?_
        obtain ⟨q21, hv21, hM⟩ := ob_bind hM
        refine vp_callSi (va_Run.run (va_runS (As := [.int (t_sg (v2_4).toNatClampNeg), .int 14]) (rest := [.int v1_4]) ⟨hx, hb, hml, hown, hts⟩ (c_X2_wordBit l dC dI cI cZ cJ cW (t_sg (v2_4).toNatClampNeg) 14 q21 hv21) (va_cwS 2 hts gX2_toldSet_X2_wordBit rfl rfl rfl (by decide +kernel) ⟨Nat.le_of_ble_eq_true rfl, Nat.le_of_ble_eq_true rfl⟩) ⟨TP.blind, fun U hU hW => ⟨rfl, trivial⟩⟩ rfl rfl hl.1 rfl (lv_room (Nat.le_of_ble_eq_true rfl)) dX2_toldSet_21 ⟨Nat.le_of_ble_eq_true rfl, Nat.le_of_ble_eq_true rfl⟩)) (fun r hr => ?_)
        subst hr
        refine lv_ior hx hb dX2_toldSet_24 ?_
        refine lv_istore_n (lv' := [(1, .int (v1_4 ||| q21)), (2, .int v2_4), (0, .ref t_a)]) hx hb dX2_toldSet_25 rfl hl (by decide) rfl (fun ls hl => ?_)
        refine lv_iinc (v := (v2_4 + 1)) (lv' := [(2, .int (v2_4 + 1)), (1, .int (v1_4 ||| q21)), (0, .ref t_a)]) hx hb dX2_toldSet_26 hl (k := 1) rfl (by rfl) (by decide) rfl (fun ls hl => ?_)
        refine lv_goto (tgt := 4) hx hb dX2_toldSet_29 (by decide) ?_
        exact ih4 (v2_4 + 1) (v1_4 ||| q21) _ hM (lv_sub hl [0, 1, 2] rfl)
  exact hL4 40 2 0 _ hM (lv_sub hl [0, 1, 2] rfl)
/-! X0_trace -/
abbrev rm_X0_trace : Room := { frames := 0, cells := 0, slots := 0, locals := 0 }
theorem in_X0_trace_0 : ∀ w ∈ u_ws RX0 TX0 3, w ∈ wsX0_trace := by decide +kernel
theorem in_X0_trace_3 : ∀ w ∈ u_ws RX3 TX3 5, w ∈ wsX0_trace := by decide +kernel
set_option maxHeartbeats 4000000 in
set_option maxRecDepth 100000 in
theorem c_X0_trace (l : Launch) (dC : Nat → ClassId) (dI : Nat → Nat → Nat) (cI cZ cJ cW : ClassId) (sz : Nat) (r_a r_rc_a w_a w_cs_a w_ds_a : Nat) (r_t : Int32) (r_ir : Int32) (r_rc : Nat → Int32) (w_t : Int32) (w_k : Int32) (w_f : Int32) (w_cs : Nat → Int32) (w_ds : Nat → Int32) (R : Int32 × Int32 × (Nat → Int32)) (hM : M_X0_trace w_t w_ds r_rc = some R) : Met l yX0_trace wsX0_trace rm_X0_trace (va_Pc [.ref r_a, .ref w_a] (MP (dC, dI) cI cZ cJ cW sz [(r_a, .inr (0, [.int r_t, .ref r_rc_a, .int r_ir])), (r_rc_a, .inl (cI, 14, .inl r_rc)), (w_a, .inr (3, [.int w_t, .int w_k, .int w_f, .ref w_cs_a, .ref w_ds_a])), (w_cs_a, .inl (cI, 14, .inl w_cs)), (w_ds_a, .inl (cI, 14, .inl w_ds))])) (va_Qv (fun (_ : Unit) => True) (PB (dC, dI) (va_A [(r_a, .inr (0, [.int r_t, .ref r_rc_a, .int r_ir])), (r_rc_a, .inl (cI, 14, .inl r_rc)), (w_a, .inr (3, [.int w_t, .int w_k, .int w_f, .ref w_cs_a, .ref w_ds_a])), (w_cs_a, .inl (cI, 14, .inl w_cs)), (w_ds_a, .inl (cI, 14, .inl w_ds))] sz) [(r_a, .inr (0, [.int R.1, .ref r_rc_a, .int R.2.1])), (r_rc_a, .inl (cI, 14, .inl R.2.2)), (w_a, .inr (3, [.int w_t, .int w_k, .int w_f, .ref w_cs_a, .ref w_ds_a])), (w_cs_a, .inl (cI, 14, .inl w_cs)), (w_ds_a, .inl (cI, 14, .inl w_ds))]) (va_A [(r_a, .inr (0, [.int r_t, .ref r_rc_a, .int r_ir])), (r_rc_a, .inl (cI, 14, .inl r_rc)), (w_a, .inr (3, [.int w_t, .int w_k, .int w_f, .ref w_cs_a, .ref w_ds_a])), (w_cs_a, .inl (cI, 14, .inl w_cs)), (w_ds_a, .inl (cI, 14, .inl w_ds))] sz)) 0 0 (va_A [(r_a, .inr (0, [.int r_t, .ref r_rc_a, .int r_ir])), (r_rc_a, .inl (cI, 14, .inl r_rc)), (w_a, .inr (3, [.int w_t, .int w_k, .int w_f, .ref w_cs_a, .ref w_ds_a])), (w_cs_a, .inl (cI, 14, .inl w_cs)), (w_ds_a, .inl (cI, 14, .inl w_ds))] sz) := by
  refine Met.ofW (cc := cX0_trace) (maxL := 4) (ret := none) (by decide) rfl ?_
  intro p e s m args below meth c s₁ B hml hv
  obtain ⟨rfl, hsz, hP, hK, hN, hD0⟩ := hv
  have hx := B.exec
  have hb := B.bytes
  have hr := B.returns
  have hts := atoms_spec (ws := wsX0_trace) B.pre
  have hown : s.vm.findClass RX0 = some m.cls := findClass_of_methodNamed B.named
  have hlocks := B.notSynchronized
  subst hsz
  have hD := hD0.self (sz := s.heap.size)
  generalize hAe : va_A [(r_a, .inr (0, [.int r_t, .ref r_rc_a, .int r_ir])), (r_rc_a, .inl (cI, 14, .inl r_rc)), (w_a, .inr (3, [.int w_t, .int w_k, .int w_f, .ref w_cs_a, .ref w_ds_a])), (w_cs_a, .inl (cI, 14, .inl w_cs)), (w_ds_a, .inl (cI, 14, .inl w_ds))] s.heap.size = A at hD ⊢
  have hA : ∀ q : Nat, s.heap.size ≤ q → A q := fun q h => by rw [← hAe]; exact Or.inr h
  have hS : va_S A s.heap s.heap [] := va_S.rf
  have hf9 := hts (.fieldLink RX0 9 "WordGrounds$Rings" "total" "I") (by decide +kernel)
  have hf15 := hts (.fieldLink RX0 15 "WordGrounds$Rings" "reach" "[I") (by decide +kernel)
  have hf19 := hts (.fieldLink RX0 19 "WordGrounds$Rings" "inRings" "I") (by decide +kernel)
  have hl := lv_entry ([.ref r_a, .ref w_a]) (n := 4) (Nat.le_of_ble_eq_true rfl)
  rw [lg_entry_eq]
  generalize (lg_sl ([.ref r_a, .ref w_a]) ++ List.replicate (4 - (lg_sl ([.ref r_a, .ref w_a])).length) Slot.unset).toArray = ls at hl ⊢
  have hl : lv_has ls 4 [(0, .ref r_a), (1, .ref w_a)] := hl
  have hP : va_P (dC, dI) vwCl [(r_a, .inr (0, [.int r_t, .ref r_rc_a, .int r_ir])), (r_rc_a, .inl (cI, 14, .inl r_rc)), (w_a, .inr (3, [.int w_t, .int w_k, .int w_f, .ref w_cs_a, .ref w_ds_a])), (w_cs_a, .inl (cI, 14, .inl w_cs)), (w_ds_a, .inl (cI, 14, .inl w_ds))] s.heap := hP
  have hM : (L_X0_trace_10 w_t w_ds (fun (v2_10 : Int32) (r_rc_10 : Nat → Int32) => L_X0_trace_38 w_t (fun (v2_38 : Int32) (r_rc_38 : Nat → Int32) => L_X0_trace_103 w_t r_rc_38 (fun (v2_103 : Int32) (r_ir_103 : Int32) => some (w_t, r_ir_103, r_rc_38)) 40 0 0) 40 0 r_rc_10) 40 0 r_rc) = some R := hM
  refine lv_aload_n hx hb dX0_trace_0 rfl (lv_at hl 0 rfl) ?_
  refine lv_aload_n hx hb dX0_trace_1 rfl (lv_at hl 1 rfl) ?_
  refine va_getN (D := (dC, dI)) (ci := 3) (v := .int w_t) (C := RX3) (T := TX3) (N := 5) hx hb hts in_X0_trace_3 hown hK hP 2 rfl rfl 0 (by decide) (va_Nw.use rfl (hN.1 (.fieldLinkNest RX0 22 "WordGrounds$Words" "total" "I" "WordGrounds") (List.mem_of_getElem? (i := 1) rfl))) (fun _ h9 => h9) rfl dX0_trace_2 ?_
  refine va_put (D := (dC, dI)) (ci := 0) (v := .int w_t) (ty := .int) (C := RX0) (T := TX0) (N := 3) hx hb hts in_X0_trace_0 tyX0 tyX0_ok nmX0 hown hK hP hD hS 0 rfl rfl 0 (by decide) hf9 (fun _ h9 => h9) rfl (by decide +kernel) rfl rfl (Nat.le_of_ble_eq_true rfl) dX0_trace_5 (fun H locs hP hD hS => ?_)
  have hP : va_P (dC, dI) vwCl [(r_a, .inr (0, [.int w_t, .ref r_rc_a, .int r_ir])), (r_rc_a, .inl (cI, 14, .inl r_rc)), (w_a, .inr (3, [.int w_t, .int w_k, .int w_f, .ref w_cs_a, .ref w_ds_a])), (w_cs_a, .inl (cI, 14, .inl w_cs)), (w_ds_a, .inl (cI, 14, .inl w_ds))] H := hP
  have hD : va_D A [(r_a, .inr (0, [.int w_t, .ref r_rc_a, .int r_ir])), (r_rc_a, .inl (cI, 14, .inl r_rc)), (w_a, .inr (3, [.int w_t, .int w_k, .int w_f, .ref w_cs_a, .ref w_ds_a])), (w_cs_a, .inl (cI, 14, .inl w_cs)), (w_ds_a, .inl (cI, 14, .inl w_ds))] := hD
  refine lv_iconst (v := 0) hx hb dX0_trace_8 (by decide) ?_
  refine lv_istore_n (lv' := [(2, .int 0), (0, .ref r_a), (1, .ref w_a)]) hx hb dX0_trace_9 rfl hl (by decide) rfl (fun ls hl => ?_)
  obtain ⟨K10, hK10⟩ : ∃ K : Int32 → (Nat → Int32) → Option (Int32 × Int32 × (Nat → Int32)), K = (fun (v2_10 : Int32) (r_rc_10 : Nat → Int32) => L_X0_trace_38 w_t (fun (v2_38 : Int32) (r_rc_38 : Nat → Int32) => L_X0_trace_103 w_t r_rc_38 (fun (v2_103 : Int32) (r_ir_103 : Int32) => some (w_t, r_ir_103, r_rc_38)) 40 0 0) 40 0 r_rc_10) := ⟨_, rfl⟩
  have hM : L_X0_trace_10 w_t w_ds K10 40 0 r_rc = some R := by rw [hK10]; exact hM
  have hL10 : ∀ (k10 : Nat) (v2_10 : Int32) (r_rc_10 : Nat → Int32) (H : Heap) (locs : List Loc) (ls : Array Slot), L_X0_trace_10 w_t w_ds K10 k10 v2_10 r_rc_10 = some R → va_P (dC, dI) vwCl [(r_a, .inr (0, [.int w_t, .ref r_rc_a, .int r_ir])), (r_rc_a, .inl (cI, 14, .inl r_rc_10)), (w_a, .inr (3, [.int w_t, .int w_k, .int w_f, .ref w_cs_a, .ref w_ds_a])), (w_cs_a, .inl (cI, 14, .inl w_cs)), (w_ds_a, .inl (cI, 14, .inl w_ds))] H → va_D A [(r_a, .inr (0, [.int w_t, .ref r_rc_a, .int r_ir])), (r_rc_a, .inl (cI, 14, .inl r_rc_10)), (w_a, .inr (3, [.int w_t, .int w_k, .int w_f, .ref w_cs_a, .ref w_ds_a])), (w_cs_a, .inl (cI, 14, .inl w_cs)), (w_ds_a, .inl (cI, 14, .inl w_ds))] → va_S A s.heap H locs → lv_has ls 4 [(2, .int v2_10), (0, .ref r_a), (1, .ref w_a)] → W p l e rm_X0_trace s m ([.ref r_a, .ref w_a] : List Value).toArray below meth c H locs 0 0 (MQ below (va_Qv (fun (_ : Unit) => True) (PB (dC, dI) A [(r_a, .inr (0, [.int R.1, .ref r_rc_a, .int R.2.1])), (r_rc_a, .inl (cI, 14, .inl R.2.2)), (w_a, .inr (3, [.int w_t, .int w_k, .int w_f, .ref w_cs_a, .ref w_ds_a])), (w_cs_a, .inl (cI, 14, .inl w_cs)), (w_ds_a, .inl (cI, 14, .inl w_ds))]) A) ([.ref r_a, .ref w_a] : List Value).toArray s 0 0 A) (F0 m 10 ls []) := by
    intro k10
    induction k10 with
    | zero => intro v2_10 r_rc_10 H locs ls hM; exact (ob_none hM).elim
    | succ k10 ih10 =>
      intro v2_10 r_rc_10 H locs ls hM hP hD hS hl
      have hM : (if w_t ≤ v2_10 then (K10 v2_10 r_rc_10) else (if v2_10 < 0 ∨ 14 ≤ (v2_10).toNatClampNeg then none else (if v2_10 < 0 ∨ 14 ≤ (v2_10).toNatClampNeg then none else (L_X0_trace_10 w_t w_ds K10 k10 (v2_10 + 1) (upd r_rc_10 (v2_10).toNatClampNeg (w_ds (v2_10).toNatClampNeg)))))) = some R := hM
      refine lv_iload_n hx hb dX0_trace_10 rfl (lv_at hl 0 rfl) ?_
      refine lv_aload_n hx hb dX0_trace_11 rfl (lv_at hl 1 rfl) ?_
      refine va_get (D := (dC, dI)) (ci := 0) (v := .int w_t) (C := RX0) (T := TX0) (N := 3) hx hb hts in_X0_trace_0 hown hK hP 0 rfl rfl 0 (by decide) hf9 (fun _ h9 => h9) rfl dX0_trace_12 ?_
      refine lv_icmp_ge (tgt := 36) hx hb dX0_trace_15 (by decide) (fun c_15 => ?_) (fun c_15 => ?_)
      · replace hM := ob_pos c_15 hM
        have hM : (L_X0_trace_38 w_t (fun (v2_38 : Int32) (r_rc_38 : Nat → Int32) => L_X0_trace_103 w_t r_rc_38 (fun (v2_103 : Int32) (r_ir_103 : Int32) => some (w_t, r_ir_103, r_rc_38)) 40 0 0) 40 0 r_rc_10) = some R := by rw [hK10] at hM; exact hM
        refine lv_iconst (v := 0) hx hb dX0_trace_36 (by decide) ?_
        refine lv_istore_n (lv' := [(2, .int 0), (0, .ref r_a), (1, .ref w_a)]) hx hb dX0_trace_37 rfl hl (by decide) rfl (fun ls hl => ?_)
        obtain ⟨K38, hK38⟩ : ∃ K : Int32 → (Nat → Int32) → Option (Int32 × Int32 × (Nat → Int32)), K = (fun (v2_38 : Int32) (r_rc_38 : Nat → Int32) => L_X0_trace_103 w_t r_rc_38 (fun (v2_103 : Int32) (r_ir_103 : Int32) => some (w_t, r_ir_103, r_rc_38)) 40 0 0) := ⟨_, rfl⟩
        have hM : L_X0_trace_38 w_t K38 40 0 r_rc_10 = some R := by rw [hK38]; exact hM
        have hL38 : ∀ (k38 : Nat) (v2_38 : Int32) (r_rc_38 : Nat → Int32) (H : Heap) (locs : List Loc) (ls : Array Slot), L_X0_trace_38 w_t K38 k38 v2_38 r_rc_38 = some R → va_P (dC, dI) vwCl [(r_a, .inr (0, [.int w_t, .ref r_rc_a, .int r_ir])), (r_rc_a, .inl (cI, 14, .inl r_rc_38)), (w_a, .inr (3, [.int w_t, .int w_k, .int w_f, .ref w_cs_a, .ref w_ds_a])), (w_cs_a, .inl (cI, 14, .inl w_cs)), (w_ds_a, .inl (cI, 14, .inl w_ds))] H → va_D A [(r_a, .inr (0, [.int w_t, .ref r_rc_a, .int r_ir])), (r_rc_a, .inl (cI, 14, .inl r_rc_38)), (w_a, .inr (3, [.int w_t, .int w_k, .int w_f, .ref w_cs_a, .ref w_ds_a])), (w_cs_a, .inl (cI, 14, .inl w_cs)), (w_ds_a, .inl (cI, 14, .inl w_ds))] → va_S A s.heap H locs → lv_has ls 4 [(2, .int v2_38), (0, .ref r_a), (1, .ref w_a)] → W p l e rm_X0_trace s m ([.ref r_a, .ref w_a] : List Value).toArray below meth c H locs 0 0 (MQ below (va_Qv (fun (_ : Unit) => True) (PB (dC, dI) A [(r_a, .inr (0, [.int R.1, .ref r_rc_a, .int R.2.1])), (r_rc_a, .inl (cI, 14, .inl R.2.2)), (w_a, .inr (3, [.int w_t, .int w_k, .int w_f, .ref w_cs_a, .ref w_ds_a])), (w_cs_a, .inl (cI, 14, .inl w_cs)), (w_ds_a, .inl (cI, 14, .inl w_ds))]) A) ([.ref r_a, .ref w_a] : List Value).toArray s 0 0 A) (F0 m 38 ls []) := by
          intro k38
          induction k38 with
          | zero => intro v2_38 r_rc_38 H locs ls hM; exact (ob_none hM).elim
          | succ k38 ih38 =>
            intro v2_38 r_rc_38 H locs ls hM hP hD hS hl
            have hM : (if w_t ≤ v2_38 then (K38 v2_38 r_rc_38) else (L_X0_trace_48 w_t v2_38 (fun (v3_48 : Int32) (r_rc_48 : Nat → Int32) => L_X0_trace_38 w_t K38 k38 (v2_38 + 1) r_rc_48) 40 0 r_rc_38)) = some R := hM
            refine lv_iload_n hx hb dX0_trace_38 rfl (lv_at hl 0 rfl) ?_
            refine lv_aload_n hx hb dX0_trace_39 rfl (lv_at hl 1 rfl) ?_
            refine va_get (D := (dC, dI)) (ci := 0) (v := .int w_t) (C := RX0) (T := TX0) (N := 3) hx hb hts in_X0_trace_0 hown hK hP 0 rfl rfl 0 (by decide) hf9 (fun _ h9 => h9) rfl dX0_trace_40 ?_
            refine lv_icmp_ge (tgt := 96) hx hb dX0_trace_43 (by decide) (fun c_43 => ?_) (fun c_43 => ?_)
            · replace hM := ob_pos c_43 hM
              have hM : (L_X0_trace_103 w_t r_rc_38 (fun (v2_103 : Int32) (r_ir_103 : Int32) => some (w_t, r_ir_103, r_rc_38)) 40 0 0) = some R := by rw [hK38] at hM; exact hM
              refine lv_aload_n hx hb dX0_trace_96 rfl (lv_at hl 1 rfl) ?_
              refine lv_iconst (v := 0) hx hb dX0_trace_97 (by decide) ?_
              refine va_put (D := (dC, dI)) (ci := 0) (v := .int 0) (ty := .int) (C := RX0) (T := TX0) (N := 3) hx hb hts in_X0_trace_0 tyX0 tyX0_ok nmX0 hown hK hP hD hS 0 rfl rfl 2 (by decide) hf19 (fun _ h9 => h9) rfl (by decide +kernel) rfl rfl (Nat.le_of_ble_eq_true rfl) dX0_trace_98 (fun H locs hP hD hS => ?_)
              have hP : va_P (dC, dI) vwCl [(r_a, .inr (0, [.int w_t, .ref r_rc_a, .int 0])), (r_rc_a, .inl (cI, 14, .inl r_rc_38)), (w_a, .inr (3, [.int w_t, .int w_k, .int w_f, .ref w_cs_a, .ref w_ds_a])), (w_cs_a, .inl (cI, 14, .inl w_cs)), (w_ds_a, .inl (cI, 14, .inl w_ds))] H := hP
              have hD : va_D A [(r_a, .inr (0, [.int w_t, .ref r_rc_a, .int 0])), (r_rc_a, .inl (cI, 14, .inl r_rc_38)), (w_a, .inr (3, [.int w_t, .int w_k, .int w_f, .ref w_cs_a, .ref w_ds_a])), (w_cs_a, .inl (cI, 14, .inl w_cs)), (w_ds_a, .inl (cI, 14, .inl w_ds))] := hD
              refine lv_iconst (v := 0) hx hb dX0_trace_101 (by decide) ?_
              refine lv_istore_n (lv' := [(2, .int 0), (0, .ref r_a), (1, .ref w_a)]) hx hb dX0_trace_102 rfl hl (by decide) rfl (fun ls hl => ?_)
              obtain ⟨K103, hK103⟩ : ∃ K : Int32 → Int32 → Option (Int32 × Int32 × (Nat → Int32)), K = (fun (v2_103 : Int32) (r_ir_103 : Int32) => some (w_t, r_ir_103, r_rc_38)) := ⟨_, rfl⟩
              have hM : L_X0_trace_103 w_t r_rc_38 K103 40 0 0 = some R := by rw [hK103]; exact hM
              have hL103 : ∀ (k103 : Nat) (v2_103 : Int32) (r_ir_103 : Int32) (H : Heap) (locs : List Loc) (ls : Array Slot), L_X0_trace_103 w_t r_rc_38 K103 k103 v2_103 r_ir_103 = some R → va_P (dC, dI) vwCl [(r_a, .inr (0, [.int w_t, .ref r_rc_a, .int r_ir_103])), (r_rc_a, .inl (cI, 14, .inl r_rc_38)), (w_a, .inr (3, [.int w_t, .int w_k, .int w_f, .ref w_cs_a, .ref w_ds_a])), (w_cs_a, .inl (cI, 14, .inl w_cs)), (w_ds_a, .inl (cI, 14, .inl w_ds))] H → va_D A [(r_a, .inr (0, [.int w_t, .ref r_rc_a, .int r_ir_103])), (r_rc_a, .inl (cI, 14, .inl r_rc_38)), (w_a, .inr (3, [.int w_t, .int w_k, .int w_f, .ref w_cs_a, .ref w_ds_a])), (w_cs_a, .inl (cI, 14, .inl w_cs)), (w_ds_a, .inl (cI, 14, .inl w_ds))] → va_S A s.heap H locs → lv_has ls 4 [(2, .int v2_103), (0, .ref r_a), (1, .ref w_a)] → W p l e rm_X0_trace s m ([.ref r_a, .ref w_a] : List Value).toArray below meth c H locs 0 0 (MQ below (va_Qv (fun (_ : Unit) => True) (PB (dC, dI) A [(r_a, .inr (0, [.int R.1, .ref r_rc_a, .int R.2.1])), (r_rc_a, .inl (cI, 14, .inl R.2.2)), (w_a, .inr (3, [.int w_t, .int w_k, .int w_f, .ref w_cs_a, .ref w_ds_a])), (w_cs_a, .inl (cI, 14, .inl w_cs)), (w_ds_a, .inl (cI, 14, .inl w_ds))]) A) ([.ref r_a, .ref w_a] : List Value).toArray s 0 0 A) (F0 m 103 ls []) := by
                intro k103
                induction k103 with
                | zero => intro v2_103 r_ir_103 H locs ls hM; exact (ob_none hM).elim
                | succ k103 ih103 =>
                  intro v2_103 r_ir_103 H locs ls hM hP hD hS hl
                  have hM : (if w_t ≤ v2_103 then (K103 v2_103 r_ir_103) else (if v2_103 < 0 ∨ 14 ≤ (v2_103).toNatClampNeg then none else (L_X0_trace_103 w_t r_rc_38 K103 k103 (v2_103 + 1) (r_ir_103 ||| ((r_rc_38 (v2_103).toNatClampNeg) &&& ((1 : Int32) <<< (v2_103 &&& 31))))))) = some R := hM
                  refine lv_iload_n hx hb dX0_trace_103 rfl (lv_at hl 0 rfl) ?_
                  refine lv_aload_n hx hb dX0_trace_104 rfl (lv_at hl 1 rfl) ?_
                  refine va_get (D := (dC, dI)) (ci := 0) (v := .int w_t) (C := RX0) (T := TX0) (N := 3) hx hb hts in_X0_trace_0 hown hK hP 0 rfl rfl 0 (by decide) hf9 (fun _ h9 => h9) rfl dX0_trace_105 ?_
                  refine lv_icmp_ge (tgt := 136) hx hb dX0_trace_108 (by decide) (fun c_108 => ?_) (fun c_108 => ?_)
                  · replace hM := ob_pos c_108 hM
                    have hM : (some (w_t, r_ir_103, r_rc_38)) = some R := by rw [hK103] at hM; exact hM
                    obtain rfl := Option.some.inj hM
                    have hP9 := hP.sub (ws' := [(r_a, .inr (0, [.int w_t, .ref r_rc_a, .int r_ir_103])), (r_rc_a, .inl (cI, 14, .inl r_rc_38)), (w_a, .inr (3, [.int w_t, .int w_k, .int w_f, .ref w_cs_a, .ref w_ds_a])), (w_cs_a, .inl (cI, 14, .inl w_cs)), (w_ds_a, .inl (cI, 14, .inl w_ds))]) [0, 1, 2, 3, 4] rfl
                    have hD9 := hD.sub (ws' := [(r_a, .inr (0, [.int w_t, .ref r_rc_a, .int r_ir_103])), (r_rc_a, .inl (cI, 14, .inl r_rc_38)), (w_a, .inr (3, [.int w_t, .int w_k, .int w_f, .ref w_cs_a, .ref w_ds_a])), (w_cs_a, .inl (cI, 14, .inl w_cs)), (w_ds_a, .inl (cI, 14, .inl w_ds))]) [0, 1, 2, 3, 4] (by decide) rfl
                    exact W.vret hx hb hr (fun t ht hW => ⟨⟨(), rfl, trivial, by rw [ht]; exact hP9, hD9⟩, hS.F ht⟩) hS.2.2 dX0_trace_136
                  · replace hM := ob_neg c_108 hM
                    refine lv_aload_n hx hb dX0_trace_111 rfl (lv_at hl 1 rfl) ?_
                    refine lv_dup hx hb dX0_trace_112 rfl ?_
                    refine va_get (D := (dC, dI)) (ci := 0) (v := .int r_ir_103) (C := RX0) (T := TX0) (N := 3) hx hb hts in_X0_trace_0 hown hK hP 0 rfl rfl 2 (by decide) hf19 (fun _ h9 => h9) rfl dX0_trace_113 ?_
                    refine lv_aload_n hx hb dX0_trace_116 rfl (lv_at hl 1 rfl) ?_
                    refine va_get (D := (dC, dI)) (ci := 0) (v := .ref r_rc_a) (C := RX0) (T := TX0) (N := 3) hx hb hts in_X0_trace_0 hown hK hP 0 rfl rfl 1 (by decide) hf15 (fun _ h9 => h9) rfl dX0_trace_117 ?_
                    refine lv_iload_n hx hb dX0_trace_120 rfl (lv_at hl 0 rfl) ?_
                    obtain ⟨h_121, hM⟩ := ob_get hM
                    refine va_iald hx hb hK hP 1 0 rfl rfl h_121 dX0_trace_121 ?_
                    refine lv_iconst (v := 1) hx hb dX0_trace_122 (by decide) ?_
                    refine lv_iload_n hx hb dX0_trace_123 rfl (lv_at hl 0 rfl) ?_
                    refine lv_ishl hx hb dX0_trace_124 ?_
                    refine lv_iand hx hb dX0_trace_125 ?_
                    refine lv_ior hx hb dX0_trace_126 ?_
                    refine va_put (D := (dC, dI)) (ci := 0) (v := .int (r_ir_103 ||| ((r_rc_38 (v2_103).toNatClampNeg) &&& ((1 : Int32) <<< (v2_103 &&& 31))))) (ty := .int) (C := RX0) (T := TX0) (N := 3) hx hb hts in_X0_trace_0 tyX0 tyX0_ok nmX0 hown hK hP hD hS 0 rfl rfl 2 (by decide) hf19 (fun _ h9 => h9) rfl (by decide +kernel) rfl rfl (Nat.le_of_ble_eq_true rfl) dX0_trace_127 (fun H locs hP hD hS => ?_)
                    have hP : va_P (dC, dI) vwCl [(r_a, .inr (0, [.int w_t, .ref r_rc_a, .int (r_ir_103 ||| ((r_rc_38 (v2_103).toNatClampNeg) &&& ((1 : Int32) <<< (v2_103 &&& 31))))])), (r_rc_a, .inl (cI, 14, .inl r_rc_38)), (w_a, .inr (3, [.int w_t, .int w_k, .int w_f, .ref w_cs_a, .ref w_ds_a])), (w_cs_a, .inl (cI, 14, .inl w_cs)), (w_ds_a, .inl (cI, 14, .inl w_ds))] H := hP
                    have hD : va_D A [(r_a, .inr (0, [.int w_t, .ref r_rc_a, .int (r_ir_103 ||| ((r_rc_38 (v2_103).toNatClampNeg) &&& ((1 : Int32) <<< (v2_103 &&& 31))))])), (r_rc_a, .inl (cI, 14, .inl r_rc_38)), (w_a, .inr (3, [.int w_t, .int w_k, .int w_f, .ref w_cs_a, .ref w_ds_a])), (w_cs_a, .inl (cI, 14, .inl w_cs)), (w_ds_a, .inl (cI, 14, .inl w_ds))] := hD
                    refine lv_iinc (v := (v2_103 + 1)) (lv' := [(2, .int (v2_103 + 1)), (0, .ref r_a), (1, .ref w_a)]) hx hb dX0_trace_130 hl (k := 0) rfl (by rfl) (by decide) rfl (fun ls hl => ?_)
                    refine lv_goto (tgt := 103) hx hb dX0_trace_133 (by decide) ?_
                    exact ih103 (v2_103 + 1) (r_ir_103 ||| ((r_rc_38 (v2_103).toNatClampNeg) &&& ((1 : Int32) <<< (v2_103 &&& 31)))) _ _ _ hM (hP.sub [0, 1, 2, 3, 4] rfl) (hD.sub [0, 1, 2, 3, 4] (by decide) rfl) hS (lv_sub hl [0, 1, 2] rfl)
              exact hL103 40 0 0 _ _ _ hM hP hD hS (lv_sub hl [0, 1, 2] rfl)
            · replace hM := ob_neg c_43 hM
              refine lv_iconst (v := 0) hx hb dX0_trace_46 (by decide) ?_
              refine lv_istore_n (lv' := [(3, .int 0), (2, .int v2_38), (0, .ref r_a), (1, .ref w_a)]) hx hb dX0_trace_47 rfl hl (by decide) rfl (fun ls hl => ?_)
              obtain ⟨K48, hK48⟩ : ∃ K : Int32 → (Nat → Int32) → Option (Int32 × Int32 × (Nat → Int32)), K = (fun (v3_48 : Int32) (r_rc_48 : Nat → Int32) => L_X0_trace_38 w_t K38 k38 (v2_38 + 1) r_rc_48) := ⟨_, rfl⟩
              have hM : L_X0_trace_48 w_t v2_38 K48 40 0 r_rc_38 = some R := by rw [hK48]; exact hM
              have hL48 : ∀ (k48 : Nat) (v3_48 : Int32) (r_rc_48 : Nat → Int32) (H : Heap) (locs : List Loc) (ls : Array Slot), L_X0_trace_48 w_t v2_38 K48 k48 v3_48 r_rc_48 = some R → va_P (dC, dI) vwCl [(r_a, .inr (0, [.int w_t, .ref r_rc_a, .int r_ir])), (r_rc_a, .inl (cI, 14, .inl r_rc_48)), (w_a, .inr (3, [.int w_t, .int w_k, .int w_f, .ref w_cs_a, .ref w_ds_a])), (w_cs_a, .inl (cI, 14, .inl w_cs)), (w_ds_a, .inl (cI, 14, .inl w_ds))] H → va_D A [(r_a, .inr (0, [.int w_t, .ref r_rc_a, .int r_ir])), (r_rc_a, .inl (cI, 14, .inl r_rc_48)), (w_a, .inr (3, [.int w_t, .int w_k, .int w_f, .ref w_cs_a, .ref w_ds_a])), (w_cs_a, .inl (cI, 14, .inl w_cs)), (w_ds_a, .inl (cI, 14, .inl w_ds))] → va_S A s.heap H locs → lv_has ls 4 [(3, .int v3_48), (2, .int v2_38), (0, .ref r_a), (1, .ref w_a)] → W p l e rm_X0_trace s m ([.ref r_a, .ref w_a] : List Value).toArray below meth c H locs 0 0 (MQ below (va_Qv (fun (_ : Unit) => True) (PB (dC, dI) A [(r_a, .inr (0, [.int R.1, .ref r_rc_a, .int R.2.1])), (r_rc_a, .inl (cI, 14, .inl R.2.2)), (w_a, .inr (3, [.int w_t, .int w_k, .int w_f, .ref w_cs_a, .ref w_ds_a])), (w_cs_a, .inl (cI, 14, .inl w_cs)), (w_ds_a, .inl (cI, 14, .inl w_ds))]) A) ([.ref r_a, .ref w_a] : List Value).toArray s 0 0 A) (F0 m 48 ls []) := by
                intro k48
                induction k48 with
                | zero => intro v3_48 r_rc_48 H locs ls hM; exact (ob_none hM).elim
                | succ k48 ih48 =>
                  intro v3_48 r_rc_48 H locs ls hM hP hD hS hl
                  have hM : (if w_t ≤ v3_48 then (K48 v3_48 r_rc_48) else (if v3_48 < 0 ∨ 14 ≤ (v3_48).toNatClampNeg then none else (if (((r_rc_48 (v3_48).toNatClampNeg) >>> (v2_38 &&& 31)) &&& 1) = 0 then (L_X0_trace_48 w_t v2_38 K48 k48 (v3_48 + 1) r_rc_48) else (if v3_48 < 0 ∨ 14 ≤ (v3_48).toNatClampNeg then none else (if v2_38 < 0 ∨ 14 ≤ (v2_38).toNatClampNeg then none else (if v3_48 < 0 ∨ 14 ≤ (v3_48).toNatClampNeg then none else (L_X0_trace_48 w_t v2_38 K48 k48 (v3_48 + 1) (upd r_rc_48 (v3_48).toNatClampNeg ((r_rc_48 (v3_48).toNatClampNeg) ||| (r_rc_48 (v2_38).toNatClampNeg)))))))))) = some R := hM
                  refine lv_iload_n hx hb dX0_trace_48 rfl (lv_at hl 0 rfl) ?_
                  refine lv_aload_n hx hb dX0_trace_49 rfl (lv_at hl 2 rfl) ?_
                  refine va_get (D := (dC, dI)) (ci := 0) (v := .int w_t) (C := RX0) (T := TX0) (N := 3) hx hb hts in_X0_trace_0 hown hK hP 0 rfl rfl 0 (by decide) hf9 (fun _ h9 => h9) rfl dX0_trace_50 ?_
                  refine lv_icmp_ge (tgt := 90) hx hb dX0_trace_53 (by decide) (fun c_53 => ?_) (fun c_53 => ?_)
                  · replace hM := ob_pos c_53 hM
                    have hM : (L_X0_trace_38 w_t K38 k38 (v2_38 + 1) r_rc_48) = some R := by rw [hK48] at hM; exact hM
                    refine lv_iinc (v := (v2_38 + 1)) (lv' := [(2, .int (v2_38 + 1)), (3, .int v3_48), (0, .ref r_a), (1, .ref w_a)]) hx hb dX0_trace_90 hl (k := 1) rfl (by rfl) (by decide) rfl (fun ls hl => ?_)
                    refine lv_goto (tgt := 38) hx hb dX0_trace_93 (by decide) ?_
                    exact ih38 (v2_38 + 1) r_rc_48 _ _ _ hM (hP.sub [0, 1, 2, 3, 4] rfl) (hD.sub [0, 1, 2, 3, 4] (by decide) rfl) hS (lv_sub hl [0, 2, 3] rfl)
                  · replace hM := ob_neg c_53 hM
                    refine lv_aload_n hx hb dX0_trace_56 rfl (lv_at hl 2 rfl) ?_
                    refine va_get (D := (dC, dI)) (ci := 0) (v := .ref r_rc_a) (C := RX0) (T := TX0) (N := 3) hx hb hts in_X0_trace_0 hown hK hP 0 rfl rfl 1 (by decide) hf15 (fun _ h9 => h9) rfl dX0_trace_57 ?_
                    refine lv_iload_n hx hb dX0_trace_60 rfl (lv_at hl 0 rfl) ?_
                    obtain ⟨h_61, hM⟩ := ob_get hM
                    refine va_iald hx hb hK hP 1 0 rfl rfl h_61 dX0_trace_61 ?_
                    refine lv_iload_n hx hb dX0_trace_62 rfl (lv_at hl 1 rfl) ?_
                    refine lv_ishr hx hb dX0_trace_63 ?_
                    refine lv_iconst (v := 1) hx hb dX0_trace_64 (by decide) ?_
                    refine lv_iand hx hb dX0_trace_65 ?_
                    refine lv_if_eq (tgt := 84) hx hb dX0_trace_66 (by decide) (fun c_66 => ?_) (fun c_66 => ?_)
                    · replace hM := ob_pos c_66 hM
                      refine lv_iinc (v := (v3_48 + 1)) (lv' := [(3, .int (v3_48 + 1)), (2, .int v2_38), (0, .ref r_a), (1, .ref w_a)]) hx hb dX0_trace_84 hl (k := 0) rfl (by rfl) (by decide) rfl (fun ls hl => ?_)
                      refine lv_goto (tgt := 48) hx hb dX0_trace_87 (by decide) ?_
                      exact ih48 (v3_48 + 1) r_rc_48 _ _ _ hM (hP.sub [0, 1, 2, 3, 4] rfl) (hD.sub [0, 1, 2, 3, 4] (by decide) rfl) hS (lv_sub hl [0, 1, 2, 3] rfl)
                    · replace hM := ob_neg c_66 hM
                      refine lv_aload_n hx hb dX0_trace_69 rfl (lv_at hl 2 rfl) ?_
                      refine va_get (D := (dC, dI)) (ci := 0) (v := .ref r_rc_a) (C := RX0) (T := TX0) (N := 3) hx hb hts in_X0_trace_0 hown hK hP 0 rfl rfl 1 (by decide) hf15 (fun _ h9 => h9) rfl dX0_trace_70 ?_
                      refine lv_iload_n hx hb dX0_trace_73 rfl (lv_at hl 0 rfl) ?_
                      refine lv_dup2_11 hx hb dX0_trace_74 rfl rfl ?_
                      obtain ⟨h_75, hM⟩ := ob_get hM
                      refine va_iald hx hb hK hP 1 0 rfl rfl h_75 dX0_trace_75 ?_
                      refine lv_aload_n hx hb dX0_trace_76 rfl (lv_at hl 2 rfl) ?_
                      refine va_get (D := (dC, dI)) (ci := 0) (v := .ref r_rc_a) (C := RX0) (T := TX0) (N := 3) hx hb hts in_X0_trace_0 hown hK hP 0 rfl rfl 1 (by decide) hf15 (fun _ h9 => h9) rfl dX0_trace_77 ?_
                      refine lv_iload_n hx hb dX0_trace_80 rfl (lv_at hl 1 rfl) ?_
                      obtain ⟨h_81, hM⟩ := ob_get hM
                      refine va_iald hx hb hK hP 1 0 rfl rfl h_81 dX0_trace_81 ?_
                      refine lv_ior hx hb dX0_trace_82 ?_
                      obtain ⟨h_83, hM⟩ := ob_get hM
                      refine va_iast hx hb hK hP hD hS 1 0 rfl rfl h_83 dX0_trace_83 (fun H locs hP hD hS => ?_)
                      have hP : va_P (dC, dI) vwCl [(r_a, .inr (0, [.int w_t, .ref r_rc_a, .int r_ir])), (r_rc_a, .inl (cI, 14, .inl (upd r_rc_48 (v3_48).toNatClampNeg ((r_rc_48 (v3_48).toNatClampNeg) ||| (r_rc_48 (v2_38).toNatClampNeg))))), (w_a, .inr (3, [.int w_t, .int w_k, .int w_f, .ref w_cs_a, .ref w_ds_a])), (w_cs_a, .inl (cI, 14, .inl w_cs)), (w_ds_a, .inl (cI, 14, .inl w_ds))] H := hP
                      have hD : va_D A [(r_a, .inr (0, [.int w_t, .ref r_rc_a, .int r_ir])), (r_rc_a, .inl (cI, 14, .inl (upd r_rc_48 (v3_48).toNatClampNeg ((r_rc_48 (v3_48).toNatClampNeg) ||| (r_rc_48 (v2_38).toNatClampNeg))))), (w_a, .inr (3, [.int w_t, .int w_k, .int w_f, .ref w_cs_a, .ref w_ds_a])), (w_cs_a, .inl (cI, 14, .inl w_cs)), (w_ds_a, .inl (cI, 14, .inl w_ds))] := hD
                      refine lv_iinc (v := (v3_48 + 1)) (lv' := [(3, .int (v3_48 + 1)), (2, .int v2_38), (0, .ref r_a), (1, .ref w_a)]) hx hb dX0_trace_84 hl (k := 0) rfl (by rfl) (by decide) rfl (fun ls hl => ?_)
                      refine lv_goto (tgt := 48) hx hb dX0_trace_87 (by decide) ?_
                      exact ih48 (v3_48 + 1) (upd r_rc_48 (v3_48).toNatClampNeg ((r_rc_48 (v3_48).toNatClampNeg) ||| (r_rc_48 (v2_38).toNatClampNeg))) _ _ _ hM (hP.sub [0, 1, 2, 3, 4] rfl) (hD.sub [0, 1, 2, 3, 4] (by decide) rfl) hS (lv_sub hl [0, 1, 2, 3] rfl)
              exact hL48 40 0 r_rc_38 _ _ _ hM hP hD hS (lv_sub hl [0, 1, 2, 3] rfl)
        exact hL38 40 0 r_rc_10 _ _ _ hM hP hD hS (lv_sub hl [0, 1, 2] rfl)
      · replace hM := ob_neg c_15 hM
        refine lv_aload_n hx hb dX0_trace_18 rfl (lv_at hl 1 rfl) ?_
        refine va_get (D := (dC, dI)) (ci := 0) (v := .ref r_rc_a) (C := RX0) (T := TX0) (N := 3) hx hb hts in_X0_trace_0 hown hK hP 0 rfl rfl 1 (by decide) hf15 (fun _ h9 => h9) rfl dX0_trace_19 ?_
        refine lv_iload_n hx hb dX0_trace_22 rfl (lv_at hl 0 rfl) ?_
        refine lv_aload_n hx hb dX0_trace_23 rfl (lv_at hl 2 rfl) ?_
        refine va_getN (D := (dC, dI)) (ci := 3) (v := .ref w_ds_a) (C := RX3) (T := TX3) (N := 5) hx hb hts in_X0_trace_3 hown hK hP 2 rfl rfl 4 (by decide) (va_Nw.use rfl (hN.1 (.fieldLinkNest RX0 25 "WordGrounds$Words" "definitions" "[I" "WordGrounds") (List.mem_of_getElem? (i := 8) rfl))) (fun _ h9 => h9) rfl dX0_trace_24 ?_
        refine lv_iload_n hx hb dX0_trace_27 rfl (lv_at hl 0 rfl) ?_
        obtain ⟨h_28, hM⟩ := ob_get hM
        refine va_iald hx hb hK hP 4 0 rfl rfl h_28 dX0_trace_28 ?_
        obtain ⟨h_29, hM⟩ := ob_get hM
        refine va_iast hx hb hK hP hD hS 1 0 rfl rfl h_29 dX0_trace_29 (fun H locs hP hD hS => ?_)
        have hP : va_P (dC, dI) vwCl [(r_a, .inr (0, [.int w_t, .ref r_rc_a, .int r_ir])), (r_rc_a, .inl (cI, 14, .inl (upd r_rc_10 (v2_10).toNatClampNeg (w_ds (v2_10).toNatClampNeg)))), (w_a, .inr (3, [.int w_t, .int w_k, .int w_f, .ref w_cs_a, .ref w_ds_a])), (w_cs_a, .inl (cI, 14, .inl w_cs)), (w_ds_a, .inl (cI, 14, .inl w_ds))] H := hP
        have hD : va_D A [(r_a, .inr (0, [.int w_t, .ref r_rc_a, .int r_ir])), (r_rc_a, .inl (cI, 14, .inl (upd r_rc_10 (v2_10).toNatClampNeg (w_ds (v2_10).toNatClampNeg)))), (w_a, .inr (3, [.int w_t, .int w_k, .int w_f, .ref w_cs_a, .ref w_ds_a])), (w_cs_a, .inl (cI, 14, .inl w_cs)), (w_ds_a, .inl (cI, 14, .inl w_ds))] := hD
        refine lv_iinc (v := (v2_10 + 1)) (lv' := [(2, .int (v2_10 + 1)), (0, .ref r_a), (1, .ref w_a)]) hx hb dX0_trace_30 hl (k := 0) rfl (by rfl) (by decide) rfl (fun ls hl => ?_)
        refine lv_goto (tgt := 10) hx hb dX0_trace_33 (by decide) ?_
        exact ih10 (v2_10 + 1) (upd r_rc_10 (v2_10).toNatClampNeg (w_ds (v2_10).toNatClampNeg)) _ _ _ hM (hP.sub [0, 1, 2, 3, 4] rfl) (hD.sub [0, 1, 2, 3, 4] (by decide) rfl) hS (lv_sub hl [0, 1, 2] rfl)
  exact hL10 40 0 r_rc _ _ _ hM hP hD hS (lv_sub hl [0, 1, 2] rfl)
/-! X0_ringOf -/
abbrev rm_X0_ringOf : Room := { frames := 0, cells := 0, slots := 0, locals := 0 }
theorem in_X0_ringOf_0 : ∀ w ∈ u_ws RX0 TX0 3, w ∈ wsX0_ringOf := by decide +kernel
set_option maxHeartbeats 4000000 in
set_option maxRecDepth 100000 in
theorem c_X0_ringOf (l : Launch) (dC : Nat → ClassId) (dI : Nat → Nat → Nat) (cI cZ cJ cW : ClassId) (r_a r_rc_a : Nat) (r_t : Int32) (r_ir : Int32) (r_rc : Nat → Int32) (p1 : Int32) (R : Int32) (hM : M_X0_ringOf p1 r_t r_rc = some R) : Met l yX0_ringOf wsX0_ringOf rm_X0_ringOf (va_Pc [.ref r_a, .int p1] (RP (dC, dI) cI cZ cJ cW [(r_a, .inr (0, [.int r_t, .ref r_rc_a, .int r_ir])), (r_rc_a, .inl (cI, 14, .inl r_rc))])) (vp_Si (fun r => R = r)) 0 0 (fun _ => False) := by
  refine Met.ofW (cc := cX0_ringOf) (maxL := 4) (ret := (some .int)) (by decide) rfl ?_
  intro p e s m args below meth c s₁ B hml hv
  obtain ⟨rfl, hP, hK, hN⟩ := hv
  have hx := B.exec
  have hb := B.bytes
  have hr := B.returns
  have hts := atoms_spec (ws := wsX0_ringOf) B.pre
  have hown : s.vm.findClass RX0 = some m.cls := findClass_of_methodNamed B.named
  have hlocks := B.notSynchronized
  have hf9 := hts (.fieldLink RX0 9 "WordGrounds$Rings" "total" "I") (by decide +kernel)
  have hf15 := hts (.fieldLink RX0 15 "WordGrounds$Rings" "reach" "[I") (by decide +kernel)
  have hl := lv_entry ([.ref r_a, .int p1]) (n := 4) (Nat.le_of_ble_eq_true rfl)
  rw [lg_entry_eq]
  generalize (lg_sl ([.ref r_a, .int p1]) ++ List.replicate (4 - (lg_sl ([.ref r_a, .int p1])).length) Slot.unset).toArray = ls at hl ⊢
  have hl : lv_has ls 4 [(0, .ref r_a), (1, .int p1)] := hl
  have hM : (L_X0_ringOf_4 p1 r_t r_rc (fun (v3_4 : Int32) (v2_4 : Int32) => some v2_4) 40 0 0) = some R := hM
  refine lv_iconst (v := 0) hx hb dX0_ringOf_0 (by decide) ?_
  refine lv_istore_n (lv' := [(2, .int 0), (0, .ref r_a), (1, .int p1)]) hx hb dX0_ringOf_1 rfl hl (by decide) rfl (fun ls hl => ?_)
  refine lv_iconst (v := 0) hx hb dX0_ringOf_2 (by decide) ?_
  refine lv_istore_n (lv' := [(3, .int 0), (2, .int 0), (0, .ref r_a), (1, .int p1)]) hx hb dX0_ringOf_3 rfl hl (by decide) rfl (fun ls hl => ?_)
  obtain ⟨K4, hK4⟩ : ∃ K : Int32 → Int32 → Option (Int32), K = (fun (v3_4 : Int32) (v2_4 : Int32) => some v2_4) := ⟨_, rfl⟩
  have hM : L_X0_ringOf_4 p1 r_t r_rc K4 40 0 0 = some R := by rw [hK4]; exact hM
  have hL4 : ∀ (k4 : Nat) (v3_4 : Int32) (v2_4 : Int32) (ls : Array Slot), L_X0_ringOf_4 p1 r_t r_rc K4 k4 v3_4 v2_4 = some R → lv_has ls 4 [(3, .int v3_4), (2, .int v2_4), (0, .ref r_a), (1, .int p1)] → W p l e rm_X0_ringOf s m ([.ref r_a, .int p1] : List Value).toArray below meth c s.heap [] 0 0 (MQ below (vp_Si (fun r => R = r)) ([.ref r_a, .int p1] : List Value).toArray s 0 0 (fun _ => False)) (F0 m 4 ls []) := by
    intro k4
    induction k4 with
    | zero => intro v3_4 v2_4 ls hM; exact (ob_none hM).elim
    | succ k4 ih4 =>
      intro v3_4 v2_4 ls hM hl
      have hM : (if r_t ≤ v3_4 then (K4 v3_4 v2_4) else (if p1 < 0 ∨ 14 ≤ (p1).toNatClampNeg then none else (if (((r_rc (p1).toNatClampNeg) >>> (v3_4 &&& 31)) &&& 1) = 0 then (L_X0_ringOf_4 p1 r_t r_rc K4 k4 (v3_4 + 1) v2_4) else (if v3_4 < 0 ∨ 14 ≤ (v3_4).toNatClampNeg then none else (if (((r_rc (v3_4).toNatClampNeg) >>> (p1 &&& 31)) &&& 1) = 0 then (L_X0_ringOf_4 p1 r_t r_rc K4 k4 (v3_4 + 1) v2_4) else (L_X0_ringOf_4 p1 r_t r_rc K4 k4 (v3_4 + 1) (v2_4 ||| ((1 : Int32) <<< (v3_4 &&& 31))))))))) = some R := hM
      refine lv_iload_n hx hb dX0_ringOf_4 rfl (lv_at hl 0 rfl) ?_
      refine lv_aload_n hx hb dX0_ringOf_5 rfl (lv_at hl 2 rfl) ?_
      refine va_get (D := (dC, dI)) (ci := 0) (v := .int r_t) (C := RX0) (T := TX0) (N := 3) hx hb hts in_X0_ringOf_0 hown hK hP 0 rfl rfl 0 (by decide) hf9 (fun _ h9 => h9) rfl dX0_ringOf_6 ?_
      refine lv_icmp_ge (tgt := 50) hx hb dX0_ringOf_9 (by decide) (fun c_9 => ?_) (fun c_9 => ?_)
      · replace hM := ob_pos c_9 hM
        have hM : (some v2_4) = some R := by rw [hK4] at hM; exact hM
        refine lv_iload_n hx hb dX0_ringOf_50 rfl (lv_at hl 1 rfl) ?_
        exact W.iret (v := v2_4) hx hb hr (fun t ht hW => ⟨_, rfl, (Option.some.inj hM).symm, ht⟩) (fun _ h => by cases h) dX0_ringOf_51
      · replace hM := ob_neg c_9 hM
        refine lv_aload_n hx hb dX0_ringOf_12 rfl (lv_at hl 2 rfl) ?_
        refine va_get (D := (dC, dI)) (ci := 0) (v := .ref r_rc_a) (C := RX0) (T := TX0) (N := 3) hx hb hts in_X0_ringOf_0 hown hK hP 0 rfl rfl 1 (by decide) hf15 (fun _ h9 => h9) rfl dX0_ringOf_13 ?_
        refine lv_iload_n hx hb dX0_ringOf_16 rfl (lv_at hl 3 rfl) ?_
        obtain ⟨h_17, hM⟩ := ob_get hM
        refine va_iald hx hb hK hP 1 0 rfl rfl h_17 dX0_ringOf_17 ?_
        refine lv_iload_n hx hb dX0_ringOf_18 rfl (lv_at hl 0 rfl) ?_
        refine lv_ishr hx hb dX0_ringOf_19 ?_
        refine lv_iconst (v := 1) hx hb dX0_ringOf_20 (by decide) ?_
        refine lv_iand hx hb dX0_ringOf_21 ?_
        refine lv_if_eq (tgt := 44) hx hb dX0_ringOf_22 (by decide) (fun c_22 => ?_) (fun c_22 => ?_)
        · replace hM := ob_pos c_22 hM
          refine lv_iinc (v := (v3_4 + 1)) (lv' := [(3, .int (v3_4 + 1)), (2, .int v2_4), (0, .ref r_a), (1, .int p1)]) hx hb dX0_ringOf_44 hl (k := 0) rfl (by rfl) (by decide) rfl (fun ls hl => ?_)
          refine lv_goto (tgt := 4) hx hb dX0_ringOf_47 (by decide) ?_
          exact ih4 (v3_4 + 1) v2_4 _ hM (lv_sub hl [0, 1, 2, 3] rfl)
        · replace hM := ob_neg c_22 hM
          refine lv_aload_n hx hb dX0_ringOf_25 rfl (lv_at hl 2 rfl) ?_
          refine va_get (D := (dC, dI)) (ci := 0) (v := .ref r_rc_a) (C := RX0) (T := TX0) (N := 3) hx hb hts in_X0_ringOf_0 hown hK hP 0 rfl rfl 1 (by decide) hf15 (fun _ h9 => h9) rfl dX0_ringOf_26 ?_
          refine lv_iload_n hx hb dX0_ringOf_29 rfl (lv_at hl 0 rfl) ?_
          obtain ⟨h_30, hM⟩ := ob_get hM
          refine va_iald hx hb hK hP 1 0 rfl rfl h_30 dX0_ringOf_30 ?_
          refine lv_iload_n hx hb dX0_ringOf_31 rfl (lv_at hl 3 rfl) ?_
          refine lv_ishr hx hb dX0_ringOf_32 ?_
          refine lv_iconst (v := 1) hx hb dX0_ringOf_33 (by decide) ?_
          refine lv_iand hx hb dX0_ringOf_34 ?_
          refine lv_if_eq (tgt := 44) hx hb dX0_ringOf_35 (by decide) (fun c_35 => ?_) (fun c_35 => ?_)
          · replace hM := ob_pos c_35 hM
            refine lv_iinc (v := (v3_4 + 1)) (lv' := [(3, .int (v3_4 + 1)), (2, .int v2_4), (0, .ref r_a), (1, .int p1)]) hx hb dX0_ringOf_44 hl (k := 0) rfl (by rfl) (by decide) rfl (fun ls hl => ?_)
            refine lv_goto (tgt := 4) hx hb dX0_ringOf_47 (by decide) ?_
            exact ih4 (v3_4 + 1) v2_4 _ hM (lv_sub hl [0, 1, 2, 3] rfl)
          · replace hM := ob_neg c_35 hM
            refine lv_iload_n hx hb dX0_ringOf_38 rfl (lv_at hl 1 rfl) ?_
            refine lv_iconst (v := 1) hx hb dX0_ringOf_39 (by decide) ?_
            refine lv_iload_n hx hb dX0_ringOf_40 rfl (lv_at hl 0 rfl) ?_
            refine lv_ishl hx hb dX0_ringOf_41 ?_
            refine lv_ior hx hb dX0_ringOf_42 ?_
            refine lv_istore_n (lv' := [(2, .int (v2_4 ||| ((1 : Int32) <<< (v3_4 &&& 31)))), (3, .int v3_4), (0, .ref r_a), (1, .int p1)]) hx hb dX0_ringOf_43 rfl hl (by decide) rfl (fun ls hl => ?_)
            refine lv_iinc (v := (v3_4 + 1)) (lv' := [(3, .int (v3_4 + 1)), (2, .int (v2_4 ||| ((1 : Int32) <<< (v3_4 &&& 31)))), (0, .ref r_a), (1, .int p1)]) hx hb dX0_ringOf_44 hl (k := 1) rfl (by rfl) (by decide) rfl (fun ls hl => ?_)
            refine lv_goto (tgt := 4) hx hb dX0_ringOf_47 (by decide) ?_
            exact ih4 (v3_4 + 1) (v2_4 ||| ((1 : Int32) <<< (v3_4 &&& 31))) _ hM (lv_sub hl [0, 1, 2, 3] rfl)
  exact hL4 40 0 0 _ hM (lv_sub hl [0, 1, 2, 3] rfl)
/-! X0_howMany -/
abbrev rm_X0_howMany : Room := { frames := 1, cells := 0, slots := 0, locals := 23 }
theorem in_X0_howMany_0 : ∀ w ∈ u_ws RX0 TX0 3, w ∈ wsX0_howMany := by decide +kernel
set_option maxHeartbeats 4000000 in
set_option maxRecDepth 100000 in
theorem c_X0_howMany (l : Launch) (dC : Nat → ClassId) (dI : Nat → Nat → Nat) (cI cZ cJ cW : ClassId) (r_a r_rc_a : Nat) (r_t : Int32) (r_ir : Int32) (r_rc : Nat → Int32) (R : Int32) (hM : M_X0_howMany r_t r_rc r_ir = some R) : Met l yX0_howMany wsX0_howMany rm_X0_howMany (va_Pc [.ref r_a] (RP (dC, dI) cI cZ cJ cW [(r_a, .inr (0, [.int r_t, .ref r_rc_a, .int r_ir])), (r_rc_a, .inl (cI, 14, .inl r_rc))])) (vp_Si (fun r => R = r)) 0 0 (fun _ => False) := by
  refine Met.ofW (cc := cX0_howMany) (maxL := 4) (ret := (some .int)) (by decide) rfl ?_
  intro p e s m args below meth c s₁ B hml hv
  obtain ⟨rfl, hP, hK, hN⟩ := hv
  have hx := B.exec
  have hb := B.bytes
  have hr := B.returns
  have hts := atoms_spec (ws := wsX0_howMany) B.pre
  have hown : s.vm.findClass RX0 = some m.cls := findClass_of_methodNamed B.named
  have hlocks := B.notSynchronized
  have hf9 := hts (.fieldLink RX0 9 "WordGrounds$Rings" "total" "I") (by decide +kernel)
  have hf19 := hts (.fieldLink RX0 19 "WordGrounds$Rings" "inRings" "I") (by decide +kernel)
  have hl := lv_entry ([.ref r_a]) (n := 4) (Nat.le_of_ble_eq_true rfl)
  rw [lg_entry_eq]
  generalize (lg_sl ([.ref r_a]) ++ List.replicate (4 - (lg_sl ([.ref r_a])).length) Slot.unset).toArray = ls at hl ⊢
  have hl : lv_has ls 4 [(0, .ref r_a)] := hl
  have hM : (L_X0_howMany_9 r_t r_rc (fun (v3_9 : Int32) (v2_9 : Int32) (v1_9 : Int32) => some v1_9) 40 0 r_ir 0) = some R := hM
  refine lv_iconst (v := 0) hx hb dX0_howMany_0 (by decide) ?_
  refine lv_istore_n (lv' := [(1, .int 0), (0, .ref r_a)]) hx hb dX0_howMany_1 rfl hl (by decide) rfl (fun ls hl => ?_)
  refine lv_aload_n hx hb dX0_howMany_2 rfl (lv_at hl 1 rfl) ?_
  refine va_get (D := (dC, dI)) (ci := 0) (v := .int r_ir) (C := RX0) (T := TX0) (N := 3) hx hb hts in_X0_howMany_0 hown hK hP 0 rfl rfl 2 (by decide) hf19 (fun _ h9 => h9) rfl dX0_howMany_3 ?_
  refine lv_istore_n (lv' := [(2, .int r_ir), (1, .int 0), (0, .ref r_a)]) hx hb dX0_howMany_6 rfl hl (by decide) rfl (fun ls hl => ?_)
  refine lv_iconst (v := 0) hx hb dX0_howMany_7 (by decide) ?_
  refine lv_istore_n (lv' := [(3, .int 0), (2, .int r_ir), (1, .int 0), (0, .ref r_a)]) hx hb dX0_howMany_8 rfl hl (by decide) rfl (fun ls hl => ?_)
  obtain ⟨K9, hK9⟩ : ∃ K : Int32 → Int32 → Int32 → Option (Int32), K = (fun (v3_9 : Int32) (v2_9 : Int32) (v1_9 : Int32) => some v1_9) := ⟨_, rfl⟩
  have hM : L_X0_howMany_9 r_t r_rc K9 40 0 r_ir 0 = some R := by rw [hK9]; exact hM
  have hL9 : ∀ (k9 : Nat) (v3_9 : Int32) (v2_9 : Int32) (v1_9 : Int32) (ls : Array Slot), L_X0_howMany_9 r_t r_rc K9 k9 v3_9 v2_9 v1_9 = some R → lv_has ls 4 [(3, .int v3_9), (2, .int v2_9), (1, .int v1_9), (0, .ref r_a)] → W p l e rm_X0_howMany s m ([.ref r_a] : List Value).toArray below meth c s.heap [] 0 0 (MQ below (vp_Si (fun r => R = r)) ([.ref r_a] : List Value).toArray s 0 0 (fun _ => False)) (F0 m 9 ls []) := by
    intro k9
    induction k9 with
    | zero => intro v3_9 v2_9 v1_9 ls hM; exact (ob_none hM).elim
    | succ k9 ih9 =>
      intro v3_9 v2_9 v1_9 ls hM hl
      have hM : (if r_t ≤ v3_9 then (K9 v3_9 v2_9 v1_9) else (if ((v2_9 >>> (v3_9 &&& 31)) &&& 1) = 0 then (L_X0_howMany_9 r_t r_rc K9 k9 (v3_9 + 1) v2_9 v1_9) else ((M_X0_ringOf v3_9 r_t r_rc).bind (fun q28 => L_X0_howMany_9 r_t r_rc K9 k9 (v3_9 + 1) (v2_9 &&& (q28 ^^^ (-1))) (v1_9 + 1))))) = some R := hM
      refine lv_iload_n hx hb dX0_howMany_9 rfl (lv_at hl 0 rfl) ?_
      refine lv_aload_n hx hb dX0_howMany_10 rfl (lv_at hl 3 rfl) ?_
      refine va_get (D := (dC, dI)) (ci := 0) (v := .int r_t) (C := RX0) (T := TX0) (N := 3) hx hb hts in_X0_howMany_0 hown hK hP 0 rfl rfl 0 (by decide) hf9 (fun _ h9 => h9) rfl dX0_howMany_11 ?_
      refine lv_icmp_ge (tgt := 44) hx hb dX0_howMany_14 (by decide) (fun c_14 => ?_) (fun c_14 => ?_)
      · replace hM := ob_pos c_14 hM
        have hM : (some v1_9) = some R := by rw [hK9] at hM; exact hM
        refine lv_iload_n hx hb dX0_howMany_44 rfl (lv_at hl 2 rfl) ?_
        exact W.iret (v := v1_9) hx hb hr (fun t ht hW => ⟨_, rfl, (Option.some.inj hM).symm, ht⟩) (fun _ h => by cases h) dX0_howMany_45
      · replace hM := ob_neg c_14 hM
        refine lv_iload_n hx hb dX0_howMany_17 rfl (lv_at hl 1 rfl) ?_
        refine lv_iload_n hx hb dX0_howMany_18 rfl (lv_at hl 0 rfl) ?_
        refine lv_ishr hx hb dX0_howMany_19 ?_
        refine lv_iconst (v := 1) hx hb dX0_howMany_20 (by decide) ?_
        refine lv_iand hx hb dX0_howMany_21 ?_
        refine lv_if_eq (tgt := 38) hx hb dX0_howMany_22 (by decide) (fun c_22 => ?_) (fun c_22 => ?_)
        · replace hM := ob_pos c_22 hM
          refine lv_iinc (v := (v3_9 + 1)) (lv' := [(3, .int (v3_9 + 1)), (2, .int v2_9), (1, .int v1_9), (0, .ref r_a)]) hx hb dX0_howMany_38 hl (k := 0) rfl (by rfl) (by decide) rfl (fun ls hl => ?_)
          refine lv_goto (tgt := 9) hx hb dX0_howMany_41 (by decide) ?_
          exact ih9 (v3_9 + 1) v2_9 v1_9 _ hM (lv_sub hl [0, 1, 2, 3] rfl)
        · replace hM := ob_neg c_22 hM
          refine lv_iload_n hx hb dX0_howMany_25 rfl (lv_at hl 1 rfl) ?_
          refine lv_aload_n hx hb dX0_howMany_26 rfl (lv_at hl 3 rfl) ?_
          refine lv_iload_n hx hb dX0_howMany_27 rfl (lv_at hl 0 rfl) ?_
          obtain ⟨q28, hv28, hM⟩ := ob_bind hM
          refine vp_callSi (va_Run.run (va_runV (As := [.int v3_9]) (rest := [.int v2_9]) ⟨hx, hb, hml, hown, hts⟩ (c_X0_ringOf l dC dI cI cZ cJ cW r_a r_rc_a r_t r_ir r_rc v3_9 q28 hv28) (cwV 1 hts gX0_howMany_X0_ringOf rfl rfl rfl (by decide +kernel) ⟨Nat.le_of_ble_eq_true rfl, Nat.le_of_ble_eq_true rfl⟩) ⟨RP.blind, va_recv hK hP (ci := 0) (q0 := 0) rfl rfl, fun U hU hW => ⟨rfl, by rw [hU]; exact hP.sub (ws' := [(r_a, .inr (0, [.int r_t, .ref r_rc_a, .int r_ir])), (r_rc_a, .inl (cI, 14, .inl r_rc))]) [0, 1] rfl, va_K.moved hW.alike hK, hN.warm hW⟩⟩ rfl rfl hl.1 rfl (lv_room (Nat.le_of_ble_eq_true rfl)) dX0_howMany_28 ⟨Nat.le_of_ble_eq_true rfl, Nat.le_of_ble_eq_true rfl⟩)) (fun r hr => ?_)
          subst hr
          refine lv_iconst (v := (-1)) hx hb dX0_howMany_31 (by decide) ?_
          refine lv_ixor hx hb dX0_howMany_32 ?_
          refine lv_iand hx hb dX0_howMany_33 ?_
          refine lv_istore_n (lv' := [(2, .int (v2_9 &&& (q28 ^^^ (-1)))), (3, .int v3_9), (1, .int v1_9), (0, .ref r_a)]) hx hb dX0_howMany_34 rfl hl (by decide) rfl (fun ls hl => ?_)
          refine lv_iinc (v := (v1_9 + 1)) (lv' := [(1, .int (v1_9 + 1)), (2, .int (v2_9 &&& (q28 ^^^ (-1)))), (3, .int v3_9), (0, .ref r_a)]) hx hb dX0_howMany_35 hl (k := 2) rfl (by rfl) (by decide) rfl (fun ls hl => ?_)
          refine lv_iinc (v := (v3_9 + 1)) (lv' := [(3, .int (v3_9 + 1)), (1, .int (v1_9 + 1)), (2, .int (v2_9 &&& (q28 ^^^ (-1)))), (0, .ref r_a)]) hx hb dX0_howMany_38 hl (k := 2) rfl (by rfl) (by decide) rfl (fun ls hl => ?_)
          refine lv_goto (tgt := 9) hx hb dX0_howMany_41 (by decide) ?_
          exact ih9 (v3_9 + 1) (v2_9 &&& (q28 ^^^ (-1))) (v1_9 + 1) _ hM (lv_sub hl [0, 2, 1, 3] rfl)
  exact hL9 40 0 r_ir 0 _ hM (lv_sub hl [0, 1, 2, 3] rfl)
/-! X0_numbered -/
abbrev rm_X0_numbered : Room := { frames := 1, cells := 0, slots := 0, locals := 23 }
theorem in_X0_numbered_0 : ∀ w ∈ u_ws RX0 TX0 3, w ∈ wsX0_numbered := by decide +kernel
set_option maxHeartbeats 4000000 in
set_option maxRecDepth 100000 in
theorem c_X0_numbered (l : Launch) (dC : Nat → ClassId) (dI : Nat → Nat → Nat) (cI cZ cJ cW : ClassId) (r_a r_rc_a : Nat) (r_t : Int32) (r_ir : Int32) (r_rc : Nat → Int32) (p1 : Int32) (R : Int32) (hM : M_X0_numbered p1 r_t r_rc r_ir = some R) : Met l yX0_numbered wsX0_numbered rm_X0_numbered (va_Pc [.ref r_a, .int p1] (RP (dC, dI) cI cZ cJ cW [(r_a, .inr (0, [.int r_t, .ref r_rc_a, .int r_ir])), (r_rc_a, .inl (cI, 14, .inl r_rc))])) (vp_Si (fun r => R = r)) 0 0 (fun _ => False) := by
  refine Met.ofW (cc := cX0_numbered) (maxL := 6) (ret := (some .int)) (by decide) rfl ?_
  intro p e s m args below meth c s₁ B hml hv
  obtain ⟨rfl, hP, hK, hN⟩ := hv
  have hx := B.exec
  have hb := B.bytes
  have hr := B.returns
  have hts := atoms_spec (ws := wsX0_numbered) B.pre
  have hown : s.vm.findClass RX0 = some m.cls := findClass_of_methodNamed B.named
  have hlocks := B.notSynchronized
  have hf9 := hts (.fieldLink RX0 9 "WordGrounds$Rings" "total" "I") (by decide +kernel)
  have hf19 := hts (.fieldLink RX0 19 "WordGrounds$Rings" "inRings" "I") (by decide +kernel)
  have hl := lv_entry ([.ref r_a, .int p1]) (n := 6) (Nat.le_of_ble_eq_true rfl)
  rw [lg_entry_eq]
  generalize (lg_sl ([.ref r_a, .int p1]) ++ List.replicate (6 - (lg_sl ([.ref r_a, .int p1])).length) Slot.unset).toArray = ls at hl ⊢
  have hl : lv_has ls 6 [(0, .ref r_a), (1, .int p1)] := hl
  have hM : (L_X0_numbered_10 p1 r_t r_rc (fun (v4_10 : Int32) (v3_10 : Int32) (v2_10 : Int32) => some (-6)) 40 0 r_ir 0) = some R := hM
  refine lv_iconst (v := 0) hx hb dX0_numbered_0 (by decide) ?_
  refine lv_istore_n (lv' := [(2, .int 0), (0, .ref r_a), (1, .int p1)]) hx hb dX0_numbered_1 rfl hl (by decide) rfl (fun ls hl => ?_)
  refine lv_aload_n hx hb dX0_numbered_2 rfl (lv_at hl 1 rfl) ?_
  refine va_get (D := (dC, dI)) (ci := 0) (v := .int r_ir) (C := RX0) (T := TX0) (N := 3) hx hb hts in_X0_numbered_0 hown hK hP 0 rfl rfl 2 (by decide) hf19 (fun _ h9 => h9) rfl dX0_numbered_3 ?_
  refine lv_istore_n (lv' := [(3, .int r_ir), (2, .int 0), (0, .ref r_a), (1, .int p1)]) hx hb dX0_numbered_6 rfl hl (by decide) rfl (fun ls hl => ?_)
  refine lv_iconst (v := 0) hx hb dX0_numbered_7 (by decide) ?_
  refine lv_istore (lv' := [(4, .int 0), (3, .int r_ir), (2, .int 0), (0, .ref r_a), (1, .int p1)]) hx hb dX0_numbered_8 hl (by decide) rfl (fun ls hl => ?_)
  obtain ⟨K10, hK10⟩ : ∃ K : Int32 → Int32 → Int32 → Option (Int32), K = (fun (v4_10 : Int32) (v3_10 : Int32) (v2_10 : Int32) => some (-6)) := ⟨_, rfl⟩
  have hM : L_X0_numbered_10 p1 r_t r_rc K10 40 0 r_ir 0 = some R := by rw [hK10]; exact hM
  have hL10 : ∀ (k10 : Nat) (v4_10 : Int32) (v3_10 : Int32) (v2_10 : Int32) (ls : Array Slot), L_X0_numbered_10 p1 r_t r_rc K10 k10 v4_10 v3_10 v2_10 = some R → lv_has ls 6 [(4, .int v4_10), (3, .int v3_10), (2, .int v2_10), (0, .ref r_a), (1, .int p1)] → W p l e rm_X0_numbered s m ([.ref r_a, .int p1] : List Value).toArray below meth c s.heap [] 0 0 (MQ below (vp_Si (fun r => R = r)) ([.ref r_a, .int p1] : List Value).toArray s 0 0 (fun _ => False)) (F0 m 10 ls []) := by
    intro k10
    induction k10 with
    | zero => intro v4_10 v3_10 v2_10 ls hM; exact (ob_none hM).elim
    | succ k10 ih10 =>
      intro v4_10 v3_10 v2_10 ls hM hl
      have hM : (if r_t ≤ v4_10 then (K10 v4_10 v3_10 v2_10) else (if ((v3_10 >>> (v4_10 &&& 31)) &&& 1) = 0 then (L_X0_numbered_10 p1 r_t r_rc K10 k10 (v4_10 + 1) v3_10 v2_10) else ((M_X0_ringOf v4_10 r_t r_rc).bind (fun q31 => if v2_10 = p1 then (some q31) else (L_X0_numbered_10 p1 r_t r_rc K10 k10 (v4_10 + 1) (v3_10 &&& (q31 ^^^ (-1))) (v2_10 + 1)))))) = some R := hM
      refine lv_iload hx hb dX0_numbered_10 (lv_at hl 0 rfl) ?_
      refine lv_aload_n hx hb dX0_numbered_12 rfl (lv_at hl 3 rfl) ?_
      refine va_get (D := (dC, dI)) (ci := 0) (v := .int r_t) (C := RX0) (T := TX0) (N := 3) hx hb hts in_X0_numbered_0 hown hK hP 0 rfl rfl 0 (by decide) hf9 (fun _ h9 => h9) rfl dX0_numbered_13 ?_
      refine lv_icmp_ge (tgt := 60) hx hb dX0_numbered_16 (by decide) (fun c_16 => ?_) (fun c_16 => ?_)
      · replace hM := ob_pos c_16 hM
        have hM : (some (-6)) = some R := by rw [hK10] at hM; exact hM
        refine lv_bipush (v := (-6)) hx hb dX0_numbered_60 (by decide) ?_
        exact W.iret (v := (-6)) hx hb hr (fun t ht hW => ⟨_, rfl, (Option.some.inj hM).symm, ht⟩) (fun _ h => by cases h) dX0_numbered_62
      · replace hM := ob_neg c_16 hM
        refine lv_iload_n hx hb dX0_numbered_19 rfl (lv_at hl 1 rfl) ?_
        refine lv_iload hx hb dX0_numbered_20 (lv_at hl 0 rfl) ?_
        refine lv_ishr hx hb dX0_numbered_22 ?_
        refine lv_iconst (v := 1) hx hb dX0_numbered_23 (by decide) ?_
        refine lv_iand hx hb dX0_numbered_24 ?_
        refine lv_if_eq (tgt := 54) hx hb dX0_numbered_25 (by decide) (fun c_25 => ?_) (fun c_25 => ?_)
        · replace hM := ob_pos c_25 hM
          refine lv_iinc (v := (v4_10 + 1)) (lv' := [(4, .int (v4_10 + 1)), (3, .int v3_10), (2, .int v2_10), (0, .ref r_a), (1, .int p1)]) hx hb dX0_numbered_54 hl (k := 0) rfl (by rfl) (by decide) rfl (fun ls hl => ?_)
          refine lv_goto (tgt := 10) hx hb dX0_numbered_57 (by decide) ?_
          exact ih10 (v4_10 + 1) v3_10 v2_10 _ hM (lv_sub hl [0, 1, 2, 3, 4] rfl)
        · replace hM := ob_neg c_25 hM
          refine lv_aload_n hx hb dX0_numbered_28 rfl (lv_at hl 3 rfl) ?_
          refine lv_iload hx hb dX0_numbered_29 (lv_at hl 0 rfl) ?_
          obtain ⟨q31, hv31, hM⟩ := ob_bind hM
          refine vp_callSi (va_Run.run (va_runV (As := [.int v4_10]) (rest := []) ⟨hx, hb, hml, hown, hts⟩ (c_X0_ringOf l dC dI cI cZ cJ cW r_a r_rc_a r_t r_ir r_rc v4_10 q31 hv31) (cwV 1 hts gX0_numbered_X0_ringOf rfl rfl rfl (by decide +kernel) ⟨Nat.le_of_ble_eq_true rfl, Nat.le_of_ble_eq_true rfl⟩) ⟨RP.blind, va_recv hK hP (ci := 0) (q0 := 0) rfl rfl, fun U hU hW => ⟨rfl, by rw [hU]; exact hP.sub (ws' := [(r_a, .inr (0, [.int r_t, .ref r_rc_a, .int r_ir])), (r_rc_a, .inl (cI, 14, .inl r_rc))]) [0, 1] rfl, va_K.moved hW.alike hK, hN.warm hW⟩⟩ rfl rfl hl.1 rfl (lv_room (Nat.le_of_ble_eq_true rfl)) dX0_numbered_31 ⟨Nat.le_of_ble_eq_true rfl, Nat.le_of_ble_eq_true rfl⟩)) (fun r hr => ?_)
          subst hr
          refine lv_istore (lv' := [(5, .int q31), (4, .int v4_10), (3, .int v3_10), (2, .int v2_10), (0, .ref r_a), (1, .int p1)]) hx hb dX0_numbered_34 hl (by decide) rfl (fun ls hl => ?_)
          refine lv_iload_n hx hb dX0_numbered_36 rfl (lv_at hl 3 rfl) ?_
          refine lv_iload_n hx hb dX0_numbered_37 rfl (lv_at hl 5 rfl) ?_
          refine lv_icmp_ne (tgt := 44) hx hb dX0_numbered_38 (by decide) (fun c_38 => ?_) (fun c_38 => ?_)
          · replace hM := ob_neg c_38 hM
            refine lv_iload_n hx hb dX0_numbered_44 rfl (lv_at hl 2 rfl) ?_
            refine lv_iload hx hb dX0_numbered_45 (lv_at hl 0 rfl) ?_
            refine lv_iconst (v := (-1)) hx hb dX0_numbered_47 (by decide) ?_
            refine lv_ixor hx hb dX0_numbered_48 ?_
            refine lv_iand hx hb dX0_numbered_49 ?_
            refine lv_istore_n (lv' := [(3, .int (v3_10 &&& (q31 ^^^ (-1)))), (5, .int q31), (4, .int v4_10), (2, .int v2_10), (0, .ref r_a), (1, .int p1)]) hx hb dX0_numbered_50 rfl hl (by decide) rfl (fun ls hl => ?_)
            refine lv_iinc (v := (v2_10 + 1)) (lv' := [(2, .int (v2_10 + 1)), (3, .int (v3_10 &&& (q31 ^^^ (-1)))), (5, .int q31), (4, .int v4_10), (0, .ref r_a), (1, .int p1)]) hx hb dX0_numbered_51 hl (k := 3) rfl (by rfl) (by decide) rfl (fun ls hl => ?_)
            refine lv_iinc (v := (v4_10 + 1)) (lv' := [(4, .int (v4_10 + 1)), (2, .int (v2_10 + 1)), (3, .int (v3_10 &&& (q31 ^^^ (-1)))), (5, .int q31), (0, .ref r_a), (1, .int p1)]) hx hb dX0_numbered_54 hl (k := 3) rfl (by rfl) (by decide) rfl (fun ls hl => ?_)
            refine lv_goto (tgt := 10) hx hb dX0_numbered_57 (by decide) ?_
            exact ih10 (v4_10 + 1) (v3_10 &&& (q31 ^^^ (-1))) (v2_10 + 1) _ hM (lv_sub hl [0, 2, 1, 4, 5] rfl)
          · replace hM := ob_pos c_38 hM
            refine lv_iload hx hb dX0_numbered_41 (lv_at hl 0 rfl) ?_
            exact W.iret (v := q31) hx hb hr (fun t ht hW => ⟨_, rfl, (Option.some.inj hM).symm, ht⟩) (fun _ h => by cases h) dX0_numbered_43
  exact hL10 40 0 r_ir 0 _ hM (lv_sub hl [0, 1, 2, 3, 4] rfl)
/-! X0_before -/
abbrev rm_X0_before : Room := { frames := 0, cells := 0, slots := 0, locals := 0 }
theorem in_X0_before_0 : ∀ w ∈ u_ws RX0 TX0 3, w ∈ wsX0_before := by decide +kernel
set_option maxHeartbeats 4000000 in
set_option maxRecDepth 100000 in
theorem c_X0_before (l : Launch) (dC : Nat → ClassId) (dI : Nat → Nat → Nat) (cI cZ cJ cW : ClassId) (r_a r_rc_a : Nat) (r_t : Int32) (r_ir : Int32) (r_rc : Nat → Int32) (R : Int32) (hM : M_X0_before r_t r_rc r_ir = some R) : Met l yX0_before wsX0_before rm_X0_before (va_Pc [.ref r_a] (RP (dC, dI) cI cZ cJ cW [(r_a, .inr (0, [.int r_t, .ref r_rc_a, .int r_ir])), (r_rc_a, .inl (cI, 14, .inl r_rc))])) (vp_Si (fun r => R = r)) 0 0 (fun _ => False) := by
  refine Met.ofW (cc := cX0_before) (maxL := 3) (ret := (some .int)) (by decide) rfl ?_
  intro p e s m args below meth c s₁ B hml hv
  obtain ⟨rfl, hP, hK, hN⟩ := hv
  have hx := B.exec
  have hb := B.bytes
  have hr := B.returns
  have hts := atoms_spec (ws := wsX0_before) B.pre
  have hown : s.vm.findClass RX0 = some m.cls := findClass_of_methodNamed B.named
  have hlocks := B.notSynchronized
  have hf9 := hts (.fieldLink RX0 9 "WordGrounds$Rings" "total" "I") (by decide +kernel)
  have hf15 := hts (.fieldLink RX0 15 "WordGrounds$Rings" "reach" "[I") (by decide +kernel)
  have hf19 := hts (.fieldLink RX0 19 "WordGrounds$Rings" "inRings" "I") (by decide +kernel)
  have hl := lv_entry ([.ref r_a]) (n := 3) (Nat.le_of_ble_eq_true rfl)
  rw [lg_entry_eq]
  generalize (lg_sl ([.ref r_a]) ++ List.replicate (3 - (lg_sl ([.ref r_a])).length) Slot.unset).toArray = ls at hl ⊢
  have hl : lv_has ls 3 [(0, .ref r_a)] := hl
  have hM : (L_X0_before_4 r_t r_rc r_ir (fun (v2_4 : Int32) (v1_4 : Int32) => some (v1_4 &&& (r_ir ^^^ (-1)))) 40 0 0) = some R := hM
  refine lv_iconst (v := 0) hx hb dX0_before_0 (by decide) ?_
  refine lv_istore_n (lv' := [(1, .int 0), (0, .ref r_a)]) hx hb dX0_before_1 rfl hl (by decide) rfl (fun ls hl => ?_)
  refine lv_iconst (v := 0) hx hb dX0_before_2 (by decide) ?_
  refine lv_istore_n (lv' := [(2, .int 0), (1, .int 0), (0, .ref r_a)]) hx hb dX0_before_3 rfl hl (by decide) rfl (fun ls hl => ?_)
  obtain ⟨K4, hK4⟩ : ∃ K : Int32 → Int32 → Option (Int32), K = (fun (v2_4 : Int32) (v1_4 : Int32) => some (v1_4 &&& (r_ir ^^^ (-1)))) := ⟨_, rfl⟩
  have hM : L_X0_before_4 r_t r_rc r_ir K4 40 0 0 = some R := by rw [hK4]; exact hM
  have hL4 : ∀ (k4 : Nat) (v2_4 : Int32) (v1_4 : Int32) (ls : Array Slot), L_X0_before_4 r_t r_rc r_ir K4 k4 v2_4 v1_4 = some R → lv_has ls 3 [(2, .int v2_4), (1, .int v1_4), (0, .ref r_a)] → W p l e rm_X0_before s m ([.ref r_a] : List Value).toArray below meth c s.heap [] 0 0 (MQ below (vp_Si (fun r => R = r)) ([.ref r_a] : List Value).toArray s 0 0 (fun _ => False)) (F0 m 4 ls []) := by
    intro k4
    induction k4 with
    | zero => intro v2_4 v1_4 ls hM; exact (ob_none hM).elim
    | succ k4 ih4 =>
      intro v2_4 v1_4 ls hM hl
      have hM : (if r_t ≤ v2_4 then (K4 v2_4 v1_4) else (if ((r_ir >>> (v2_4 &&& 31)) &&& 1) = 0 then (L_X0_before_4 r_t r_rc r_ir K4 k4 (v2_4 + 1) v1_4) else (if v2_4 < 0 ∨ 14 ≤ (v2_4).toNatClampNeg then none else (L_X0_before_4 r_t r_rc r_ir K4 k4 (v2_4 + 1) (v1_4 ||| (r_rc (v2_4).toNatClampNeg)))))) = some R := hM
      refine lv_iload_n hx hb dX0_before_4 rfl (lv_at hl 0 rfl) ?_
      refine lv_aload_n hx hb dX0_before_5 rfl (lv_at hl 2 rfl) ?_
      refine va_get (D := (dC, dI)) (ci := 0) (v := .int r_t) (C := RX0) (T := TX0) (N := 3) hx hb hts in_X0_before_0 hown hK hP 0 rfl rfl 0 (by decide) hf9 (fun _ h9 => h9) rfl dX0_before_6 ?_
      refine lv_icmp_ge (tgt := 38) hx hb dX0_before_9 (by decide) (fun c_9 => ?_) (fun c_9 => ?_)
      · replace hM := ob_pos c_9 hM
        have hM : (some (v1_4 &&& (r_ir ^^^ (-1)))) = some R := by rw [hK4] at hM; exact hM
        refine lv_iload_n hx hb dX0_before_38 rfl (lv_at hl 1 rfl) ?_
        refine lv_aload_n hx hb dX0_before_39 rfl (lv_at hl 2 rfl) ?_
        refine va_get (D := (dC, dI)) (ci := 0) (v := .int r_ir) (C := RX0) (T := TX0) (N := 3) hx hb hts in_X0_before_0 hown hK hP 0 rfl rfl 2 (by decide) hf19 (fun _ h9 => h9) rfl dX0_before_40 ?_
        refine lv_iconst (v := (-1)) hx hb dX0_before_43 (by decide) ?_
        refine lv_ixor hx hb dX0_before_44 ?_
        refine lv_iand hx hb dX0_before_45 ?_
        exact W.iret (v := (v1_4 &&& (r_ir ^^^ (-1)))) hx hb hr (fun t ht hW => ⟨_, rfl, (Option.some.inj hM).symm, ht⟩) (fun _ h => by cases h) dX0_before_46
      · replace hM := ob_neg c_9 hM
        refine lv_aload_n hx hb dX0_before_12 rfl (lv_at hl 2 rfl) ?_
        refine va_get (D := (dC, dI)) (ci := 0) (v := .int r_ir) (C := RX0) (T := TX0) (N := 3) hx hb hts in_X0_before_0 hown hK hP 0 rfl rfl 2 (by decide) hf19 (fun _ h9 => h9) rfl dX0_before_13 ?_
        refine lv_iload_n hx hb dX0_before_16 rfl (lv_at hl 0 rfl) ?_
        refine lv_ishr hx hb dX0_before_17 ?_
        refine lv_iconst (v := 1) hx hb dX0_before_18 (by decide) ?_
        refine lv_iand hx hb dX0_before_19 ?_
        refine lv_if_eq (tgt := 32) hx hb dX0_before_20 (by decide) (fun c_20 => ?_) (fun c_20 => ?_)
        · replace hM := ob_pos c_20 hM
          refine lv_iinc (v := (v2_4 + 1)) (lv' := [(2, .int (v2_4 + 1)), (1, .int v1_4), (0, .ref r_a)]) hx hb dX0_before_32 hl (k := 0) rfl (by rfl) (by decide) rfl (fun ls hl => ?_)
          refine lv_goto (tgt := 4) hx hb dX0_before_35 (by decide) ?_
          exact ih4 (v2_4 + 1) v1_4 _ hM (lv_sub hl [0, 1, 2] rfl)
        · replace hM := ob_neg c_20 hM
          refine lv_iload_n hx hb dX0_before_23 rfl (lv_at hl 1 rfl) ?_
          refine lv_aload_n hx hb dX0_before_24 rfl (lv_at hl 2 rfl) ?_
          refine va_get (D := (dC, dI)) (ci := 0) (v := .ref r_rc_a) (C := RX0) (T := TX0) (N := 3) hx hb hts in_X0_before_0 hown hK hP 0 rfl rfl 1 (by decide) hf15 (fun _ h9 => h9) rfl dX0_before_25 ?_
          refine lv_iload_n hx hb dX0_before_28 rfl (lv_at hl 0 rfl) ?_
          obtain ⟨h_29, hM⟩ := ob_get hM
          refine va_iald hx hb hK hP 1 0 rfl rfl h_29 dX0_before_29 ?_
          refine lv_ior hx hb dX0_before_30 ?_
          refine lv_istore_n (lv' := [(1, .int (v1_4 ||| (r_rc (v2_4).toNatClampNeg))), (2, .int v2_4), (0, .ref r_a)]) hx hb dX0_before_31 rfl hl (by decide) rfl (fun ls hl => ?_)
          refine lv_iinc (v := (v2_4 + 1)) (lv' := [(2, .int (v2_4 + 1)), (1, .int (v1_4 ||| (r_rc (v2_4).toNatClampNeg))), (0, .ref r_a)]) hx hb dX0_before_32 hl (k := 1) rfl (by rfl) (by decide) rfl (fun ls hl => ?_)
          refine lv_goto (tgt := 4) hx hb dX0_before_35 (by decide) ?_
          exact ih4 (v2_4 + 1) (v1_4 ||| (r_rc (v2_4).toNatClampNeg)) _ hM (lv_sub hl [0, 1, 2] rfl)
  exact hL4 40 0 0 _ hM (lv_sub hl [0, 1, 2] rfl)
/-! X0_behind -/
abbrev rm_X0_behind : Room := { frames := 0, cells := 0, slots := 0, locals := 0 }
theorem in_X0_behind_0 : ∀ w ∈ u_ws RX0 TX0 3, w ∈ wsX0_behind := by decide +kernel
set_option maxHeartbeats 4000000 in
set_option maxRecDepth 100000 in
theorem c_X0_behind (l : Launch) (dC : Nat → ClassId) (dI : Nat → Nat → Nat) (cI cZ cJ cW : ClassId) (r_a r_rc_a : Nat) (r_t : Int32) (r_ir : Int32) (r_rc : Nat → Int32) (R : Int32) (hM : M_X0_behind r_t r_rc r_ir = some R) : Met l yX0_behind wsX0_behind rm_X0_behind (va_Pc [.ref r_a] (RP (dC, dI) cI cZ cJ cW [(r_a, .inr (0, [.int r_t, .ref r_rc_a, .int r_ir])), (r_rc_a, .inl (cI, 14, .inl r_rc))])) (vp_Si (fun r => R = r)) 0 0 (fun _ => False) := by
  refine Met.ofW (cc := cX0_behind) (maxL := 3) (ret := (some .int)) (by decide) rfl ?_
  intro p e s m args below meth c s₁ B hml hv
  obtain ⟨rfl, hP, hK, hN⟩ := hv
  have hx := B.exec
  have hb := B.bytes
  have hr := B.returns
  have hts := atoms_spec (ws := wsX0_behind) B.pre
  have hown : s.vm.findClass RX0 = some m.cls := findClass_of_methodNamed B.named
  have hlocks := B.notSynchronized
  have hf9 := hts (.fieldLink RX0 9 "WordGrounds$Rings" "total" "I") (by decide +kernel)
  have hf15 := hts (.fieldLink RX0 15 "WordGrounds$Rings" "reach" "[I") (by decide +kernel)
  have hf19 := hts (.fieldLink RX0 19 "WordGrounds$Rings" "inRings" "I") (by decide +kernel)
  have hl := lv_entry ([.ref r_a]) (n := 3) (Nat.le_of_ble_eq_true rfl)
  rw [lg_entry_eq]
  generalize (lg_sl ([.ref r_a]) ++ List.replicate (3 - (lg_sl ([.ref r_a])).length) Slot.unset).toArray = ls at hl ⊢
  have hl : lv_has ls 3 [(0, .ref r_a)] := hl
  have hM : (L_X0_behind_4 r_t r_rc r_ir (fun (v2_4 : Int32) (v1_4 : Int32) => some (v1_4 &&& (r_ir ^^^ (-1)))) 40 0 0) = some R := hM
  refine lv_iconst (v := 0) hx hb dX0_behind_0 (by decide) ?_
  refine lv_istore_n (lv' := [(1, .int 0), (0, .ref r_a)]) hx hb dX0_behind_1 rfl hl (by decide) rfl (fun ls hl => ?_)
  refine lv_iconst (v := 0) hx hb dX0_behind_2 (by decide) ?_
  refine lv_istore_n (lv' := [(2, .int 0), (1, .int 0), (0, .ref r_a)]) hx hb dX0_behind_3 rfl hl (by decide) rfl (fun ls hl => ?_)
  obtain ⟨K4, hK4⟩ : ∃ K : Int32 → Int32 → Option (Int32), K = (fun (v2_4 : Int32) (v1_4 : Int32) => some (v1_4 &&& (r_ir ^^^ (-1)))) := ⟨_, rfl⟩
  have hM : L_X0_behind_4 r_t r_rc r_ir K4 40 0 0 = some R := by rw [hK4]; exact hM
  have hL4 : ∀ (k4 : Nat) (v2_4 : Int32) (v1_4 : Int32) (ls : Array Slot), L_X0_behind_4 r_t r_rc r_ir K4 k4 v2_4 v1_4 = some R → lv_has ls 3 [(2, .int v2_4), (1, .int v1_4), (0, .ref r_a)] → W p l e rm_X0_behind s m ([.ref r_a] : List Value).toArray below meth c s.heap [] 0 0 (MQ below (vp_Si (fun r => R = r)) ([.ref r_a] : List Value).toArray s 0 0 (fun _ => False)) (F0 m 4 ls []) := by
    intro k4
    induction k4 with
    | zero => intro v2_4 v1_4 ls hM; exact (ob_none hM).elim
    | succ k4 ih4 =>
      intro v2_4 v1_4 ls hM hl
      have hM : (if r_t ≤ v2_4 then (K4 v2_4 v1_4) else (if v2_4 < 0 ∨ 14 ≤ (v2_4).toNatClampNeg then none else (if ((r_rc (v2_4).toNatClampNeg) &&& r_ir) = 0 then (L_X0_behind_4 r_t r_rc r_ir K4 k4 (v2_4 + 1) v1_4) else (L_X0_behind_4 r_t r_rc r_ir K4 k4 (v2_4 + 1) (v1_4 ||| ((1 : Int32) <<< (v2_4 &&& 31))))))) = some R := hM
      refine lv_iload_n hx hb dX0_behind_4 rfl (lv_at hl 0 rfl) ?_
      refine lv_aload_n hx hb dX0_behind_5 rfl (lv_at hl 2 rfl) ?_
      refine va_get (D := (dC, dI)) (ci := 0) (v := .int r_t) (C := RX0) (T := TX0) (N := 3) hx hb hts in_X0_behind_0 hown hK hP 0 rfl rfl 0 (by decide) hf9 (fun _ h9 => h9) rfl dX0_behind_6 ?_
      refine lv_icmp_ge (tgt := 38) hx hb dX0_behind_9 (by decide) (fun c_9 => ?_) (fun c_9 => ?_)
      · replace hM := ob_pos c_9 hM
        have hM : (some (v1_4 &&& (r_ir ^^^ (-1)))) = some R := by rw [hK4] at hM; exact hM
        refine lv_iload_n hx hb dX0_behind_38 rfl (lv_at hl 1 rfl) ?_
        refine lv_aload_n hx hb dX0_behind_39 rfl (lv_at hl 2 rfl) ?_
        refine va_get (D := (dC, dI)) (ci := 0) (v := .int r_ir) (C := RX0) (T := TX0) (N := 3) hx hb hts in_X0_behind_0 hown hK hP 0 rfl rfl 2 (by decide) hf19 (fun _ h9 => h9) rfl dX0_behind_40 ?_
        refine lv_iconst (v := (-1)) hx hb dX0_behind_43 (by decide) ?_
        refine lv_ixor hx hb dX0_behind_44 ?_
        refine lv_iand hx hb dX0_behind_45 ?_
        exact W.iret (v := (v1_4 &&& (r_ir ^^^ (-1)))) hx hb hr (fun t ht hW => ⟨_, rfl, (Option.some.inj hM).symm, ht⟩) (fun _ h => by cases h) dX0_behind_46
      · replace hM := ob_neg c_9 hM
        refine lv_aload_n hx hb dX0_behind_12 rfl (lv_at hl 2 rfl) ?_
        refine va_get (D := (dC, dI)) (ci := 0) (v := .ref r_rc_a) (C := RX0) (T := TX0) (N := 3) hx hb hts in_X0_behind_0 hown hK hP 0 rfl rfl 1 (by decide) hf15 (fun _ h9 => h9) rfl dX0_behind_13 ?_
        refine lv_iload_n hx hb dX0_behind_16 rfl (lv_at hl 0 rfl) ?_
        obtain ⟨h_17, hM⟩ := ob_get hM
        refine va_iald hx hb hK hP 1 0 rfl rfl h_17 dX0_behind_17 ?_
        refine lv_aload_n hx hb dX0_behind_18 rfl (lv_at hl 2 rfl) ?_
        refine va_get (D := (dC, dI)) (ci := 0) (v := .int r_ir) (C := RX0) (T := TX0) (N := 3) hx hb hts in_X0_behind_0 hown hK hP 0 rfl rfl 2 (by decide) hf19 (fun _ h9 => h9) rfl dX0_behind_19 ?_
        refine lv_iand hx hb dX0_behind_22 ?_
        refine lv_if_eq (tgt := 32) hx hb dX0_behind_23 (by decide) (fun c_23 => ?_) (fun c_23 => ?_)
        · replace hM := ob_pos c_23 hM
          refine lv_iinc (v := (v2_4 + 1)) (lv' := [(2, .int (v2_4 + 1)), (1, .int v1_4), (0, .ref r_a)]) hx hb dX0_behind_32 hl (k := 0) rfl (by rfl) (by decide) rfl (fun ls hl => ?_)
          refine lv_goto (tgt := 4) hx hb dX0_behind_35 (by decide) ?_
          exact ih4 (v2_4 + 1) v1_4 _ hM (lv_sub hl [0, 1, 2] rfl)
        · replace hM := ob_neg c_23 hM
          refine lv_iload_n hx hb dX0_behind_26 rfl (lv_at hl 1 rfl) ?_
          refine lv_iconst (v := 1) hx hb dX0_behind_27 (by decide) ?_
          refine lv_iload_n hx hb dX0_behind_28 rfl (lv_at hl 0 rfl) ?_
          refine lv_ishl hx hb dX0_behind_29 ?_
          refine lv_ior hx hb dX0_behind_30 ?_
          refine lv_istore_n (lv' := [(1, .int (v1_4 ||| ((1 : Int32) <<< (v2_4 &&& 31)))), (2, .int v2_4), (0, .ref r_a)]) hx hb dX0_behind_31 rfl hl (by decide) rfl (fun ls hl => ?_)
          refine lv_iinc (v := (v2_4 + 1)) (lv' := [(2, .int (v2_4 + 1)), (1, .int (v1_4 ||| ((1 : Int32) <<< (v2_4 &&& 31)))), (0, .ref r_a)]) hx hb dX0_behind_32 hl (k := 1) rfl (by rfl) (by decide) rfl (fun ls hl => ?_)
          refine lv_goto (tgt := 4) hx hb dX0_behind_35 (by decide) ?_
          exact ih4 (v2_4 + 1) (v1_4 ||| ((1 : Int32) <<< (v2_4 &&& 31))) _ hM (lv_sub hl [0, 1, 2] rfl)
  exact hL4 40 0 0 _ hM (lv_sub hl [0, 1, 2] rfl)
