/-! X1_nextSubset -/
abbrev rm_X1_nextSubset : Room := { frames := 0, cells := 0, slots := 0, locals := 0 }
set_option maxHeartbeats 4000000 in
set_option maxRecDepth 100000 in
theorem c_X1_nextSubset (l : Launch) (dC : Nat → ClassId) (dI : Nat → Nat → Nat) (cI cZ cJ cW : ClassId) (p0 : Int32) (p1 : Int32) (R : Int32) (hM : M_X1_nextSubset p0 p1 = some R) : Met l yX1_nextSubset wsX1_nextSubset rm_X1_nextSubset (va_Pc [.int p0, .int p1] (fun _ => True)) (vp_Si (fun r => R = r)) 0 0 (fun _ => False) := by
  refine Met.ofW (cc := cX1_nextSubset) (maxL := 2) (ret := (some .int)) (by decide) rfl ?_
  intro p e s m args below meth c s₁ B hml hv
  obtain ⟨rfl, -⟩ := hv
  have hx := B.exec
  have hb := B.bytes
  have hr := B.returns
  have hts := atoms_spec (ws := wsX1_nextSubset) B.pre
  have hown : s.vm.findClass RX1 = some m.cls := findClass_of_methodNamed B.named
  have hlocks := B.notSynchronized
  have hl := lv_entry ([.int p0, .int p1]) (n := 2) (Nat.le_of_ble_eq_true rfl)
  rw [lg_entry_eq]
  generalize (lg_sl ([.int p0, .int p1]) ++ List.replicate (2 - (lg_sl ([.int p0, .int p1])).length) Slot.unset).toArray = ls at hl ⊢
  have hl : lv_has ls 2 [(0, .int p0), (1, .int p1)] := hl
  have hM : (some ((p0 - p1) &&& p1)) = some R := hM
  refine lv_iload_n hx hb dX1_nextSubset_0 rfl (lv_at hl 0 rfl) ?_
  refine lv_iload_n hx hb dX1_nextSubset_1 rfl (lv_at hl 1 rfl) ?_
  refine lv_isub hx hb dX1_nextSubset_2 ?_
  refine lv_iload_n hx hb dX1_nextSubset_3 rfl (lv_at hl 1 rfl) ?_
  refine lv_iand hx hb dX1_nextSubset_4 ?_
  exact W.iret (v := ((p0 - p1) &&& p1)) hx hb hr (fun t ht hW => ⟨_, rfl, (Option.some.inj hM).symm, ht⟩) (fun _ h => by cases h) dX1_nextSubset_5
/-! X1_isFree -/
abbrev rm_X1_isFree : Room := { frames := 0, cells := 0, slots := 0, locals := 0 }
theorem in_X1_isFree_1 : ∀ w ∈ u_ws RX1 TX1 3, w ∈ wsX1_isFree := by decide +kernel
set_option maxHeartbeats 4000000 in
set_option maxRecDepth 100000 in
theorem c_X1_isFree (l : Launch) (dC : Nat → ClassId) (dI : Nat → Nat → Nat) (cI cZ cJ cW : ClassId) (e_a e_cf_a : Nat) (e_mu : Int32) (e_ma : Int32) (e_cf : Nat → Int64) (p1 : Int32) (R : Int32) (hM : M_X1_isFree p1 e_cf = some R) : Met l yX1_isFree wsX1_isFree rm_X1_isFree (va_Pc [.ref e_a, .int p1] (RP (dC, dI) cI cZ cJ cW [(e_a, .inr (1, [.int e_mu, .int e_ma, .ref e_cf_a])), (e_cf_a, .inl (cJ, 256, .inr (.inl e_cf)))])) (vp_Si (fun r => R = r)) 0 0 (fun _ => False) := by
  refine Met.ofW (cc := cX1_isFree) (maxL := 3) (ret := (some .boolean)) (by decide) rfl ?_
  intro p e s m args below meth c s₁ B hml hv
  obtain ⟨rfl, hP, hK, hN⟩ := hv
  have hx := B.exec
  have hb := B.bytes
  have hr := B.returns
  have hts := atoms_spec (ws := wsX1_isFree) B.pre
  have hown : s.vm.findClass RX1 = some m.cls := findClass_of_methodNamed B.named
  have hlocks := B.notSynchronized
  have hf18 := hts (.fieldLink RX1 18 "WordGrounds$Tellings" "circleFree" "[J") (by decide +kernel)
  have hl := lv_entry ([.ref e_a, .int p1]) (n := 3) (Nat.le_of_ble_eq_true rfl)
  rw [lg_entry_eq]
  generalize (lg_sl ([.ref e_a, .int p1]) ++ List.replicate (3 - (lg_sl ([.ref e_a, .int p1])).length) Slot.unset).toArray = ls at hl ⊢
  have hl : lv_has ls 3 [(0, .ref e_a), (1, .int p1)] := hl
  have hM : (if (p1 / 64) < 0 then (some 0) else (if 256 ≤ (p1 / 64) then (some 0) else (if (p1 / 64) < 0 ∨ 256 ≤ ((p1 / 64)).toNatClampNeg then none else (if (lg_cmp (((e_cf ((p1 / 64)).toNatClampNeg) >>> (Int32.toInt64 (p1 - p1 / 64 * 64) &&& 63)) &&& 1) 0) = 0 then (some 0) else (some 1))))) = some R := hM
  refine lv_iload_n hx hb dX1_isFree_0 rfl (lv_at hl 1 rfl) ?_
  refine lv_bipush (v := 64) hx hb dX1_isFree_1 (by decide) ?_
  refine lv_idiv hx hb dX1_isFree_3 (by decide) ?_
  refine lv_istore_n (lv' := [(2, .int (p1 / 64)), (0, .ref e_a), (1, .int p1)]) hx hb dX1_isFree_4 rfl hl (by decide) rfl (fun ls hl => ?_)
  refine lv_iload_n hx hb dX1_isFree_5 rfl (lv_at hl 0 rfl) ?_
  refine lv_if_lt (tgt := 40) hx hb dX1_isFree_6 (by decide) (fun c_6 => ?_) (fun c_6 => ?_)
  · replace hM := ob_pos c_6 hM
    refine lv_iconst (v := 0) hx hb dX1_isFree_40 (by decide) ?_
    exact W.zret (v := 0) hx hb hr (by rfl) (fun t ht hW => ⟨_, rfl, (Option.some.inj hM).symm, ht⟩) (fun _ h => by cases h) dX1_isFree_41
  · replace hM := ob_neg c_6 hM
    refine lv_iload_n hx hb dX1_isFree_9 rfl (lv_at hl 0 rfl) ?_
    refine lv_aload_n hx hb dX1_isFree_10 rfl (lv_at hl 1 rfl) ?_
    refine va_get (D := (dC, dI)) (ci := 1) (v := .ref e_cf_a) (C := RX1) (T := TX1) (N := 3) hx hb hts in_X1_isFree_1 hown hK hP 0 rfl rfl 2 (by decide) hf18 (fun _ h9 => h9) rfl dX1_isFree_11 ?_
    refine va_alen hx hb hK hP 1 2 rfl rfl (v := 256) rfl dX1_isFree_14 ?_
    refine lv_icmp_ge (tgt := 40) hx hb dX1_isFree_15 (by decide) (fun c_15 => ?_) (fun c_15 => ?_)
    · replace hM := ob_pos c_15 hM
      refine lv_iconst (v := 0) hx hb dX1_isFree_40 (by decide) ?_
      exact W.zret (v := 0) hx hb hr (by rfl) (fun t ht hW => ⟨_, rfl, (Option.some.inj hM).symm, ht⟩) (fun _ h => by cases h) dX1_isFree_41
    · replace hM := ob_neg c_15 hM
      refine lv_aload_n hx hb dX1_isFree_18 rfl (lv_at hl 1 rfl) ?_
      refine va_get (D := (dC, dI)) (ci := 1) (v := .ref e_cf_a) (C := RX1) (T := TX1) (N := 3) hx hb hts in_X1_isFree_1 hown hK hP 0 rfl rfl 2 (by decide) hf18 (fun _ h9 => h9) rfl dX1_isFree_19 ?_
      refine lv_iload_n hx hb dX1_isFree_22 rfl (lv_at hl 0 rfl) ?_
      obtain ⟨h_23, hM⟩ := ob_get hM
      refine va_lald hx hb hK hP 1 2 rfl rfl h_23 dX1_isFree_23 ?_
      refine lv_iload_n hx hb dX1_isFree_24 rfl (lv_at hl 2 rfl) ?_
      refine lv_bipush (v := 64) hx hb dX1_isFree_25 (by decide) ?_
      refine lv_irem hx hb dX1_isFree_27 (by decide) ?_
      refine lv_lshr (v := ((e_cf ((p1 / 64)).toNatClampNeg) >>> (Int32.toInt64 (p1 - p1 / 64 * 64) &&& 63))) hx hb dX1_isFree_28 rfl ?_
      refine lv_lconst (v := 1) hx hb dX1_isFree_29 (by decide) ?_
      refine lv_land hx hb dX1_isFree_30 ?_
      refine lv_lconst (v := 0) hx hb dX1_isFree_31 (by decide) ?_
      refine W.lcmp hx hb dX1_isFree_32 ?_
      refine lv_if_eq (tgt := 40) hx hb dX1_isFree_33 (by decide) (fun c_33 => ?_) (fun c_33 => ?_)
      · replace hM := ob_pos c_33 hM
        refine lv_iconst (v := 0) hx hb dX1_isFree_40 (by decide) ?_
        exact W.zret (v := 0) hx hb hr (by rfl) (fun t ht hW => ⟨_, rfl, (Option.some.inj hM).symm, ht⟩) (fun _ h => by cases h) dX1_isFree_41
      · replace hM := ob_neg c_33 hM
        refine lv_iconst (v := 1) hx hb dX1_isFree_36 (by decide) ?_
        refine lv_goto (tgt := 41) hx hb dX1_isFree_37 (by decide) ?_
        exact W.zret (v := 1) hx hb hr (by rfl) (fun t ht hW => ⟨_, rfl, (Option.some.inj hM).symm, ht⟩) (fun _ h => by cases h) dX1_isFree_41
/-! X1_mark -/
abbrev rm_X1_mark : Room := { frames := 0, cells := 0, slots := 0, locals := 0 }
theorem in_X1_mark_1 : ∀ w ∈ u_ws RX1 TX1 3, w ∈ wsX1_mark := by decide +kernel
set_option maxHeartbeats 4000000 in
set_option maxRecDepth 100000 in
theorem c_X1_mark (l : Launch) (dC : Nat → ClassId) (dI : Nat → Nat → Nat) (cI cZ cJ cW : ClassId) (sz : Nat) (e_a e_cf_a : Nat) (e_mu : Int32) (e_ma : Int32) (e_cf : Nat → Int64) (p1 : Int32) (p2 : Int32) (R : (Nat → Int64)) (hM : M_X1_mark p1 p2 e_cf = some R) : Met l yX1_mark wsX1_mark rm_X1_mark (va_Pc [.ref e_a, .int p1, .int p2] (MP (dC, dI) cI cZ cJ cW sz [(e_a, .inr (1, [.int e_mu, .int e_ma, .ref e_cf_a])), (e_cf_a, .inl (cJ, 256, .inr (.inl e_cf)))])) (va_Qv (fun (_ : Unit) => True) (PB (dC, dI) (va_A [(e_a, .inr (1, [.int e_mu, .int e_ma, .ref e_cf_a])), (e_cf_a, .inl (cJ, 256, .inr (.inl e_cf)))] sz) [(e_a, .inr (1, [.int e_mu, .int e_ma, .ref e_cf_a])), (e_cf_a, .inl (cJ, 256, .inr (.inl R)))]) (va_A [(e_a, .inr (1, [.int e_mu, .int e_ma, .ref e_cf_a])), (e_cf_a, .inl (cJ, 256, .inr (.inl e_cf)))] sz)) 0 0 (va_A [(e_a, .inr (1, [.int e_mu, .int e_ma, .ref e_cf_a])), (e_cf_a, .inl (cJ, 256, .inr (.inl e_cf)))] sz) := by
  refine Met.ofW (cc := cX1_mark) (maxL := 6) (ret := none) (by decide) rfl ?_
  intro p e s m args below meth c s₁ B hml hv
  obtain ⟨rfl, hsz, hP, hK, hN, hD0⟩ := hv
  have hx := B.exec
  have hb := B.bytes
  have hr := B.returns
  have hts := atoms_spec (ws := wsX1_mark) B.pre
  have hown : s.vm.findClass RX1 = some m.cls := findClass_of_methodNamed B.named
  have hlocks := B.notSynchronized
  subst hsz
  have hD := hD0.self (sz := s.heap.size)
  generalize hAe : va_A [(e_a, .inr (1, [.int e_mu, .int e_ma, .ref e_cf_a])), (e_cf_a, .inl (cJ, 256, .inr (.inl e_cf)))] s.heap.size = A at hD ⊢
  have hA : ∀ q : Nat, s.heap.size ≤ q → A q := fun q h => by rw [← hAe]; exact Or.inr h
  have hS : va_S A s.heap s.heap [] := va_S.rf
  have hf18 := hts (.fieldLink RX1 18 "WordGrounds$Tellings" "circleFree" "[J") (by decide +kernel)
  have hl := lv_entry ([.ref e_a, .int p1, .int p2]) (n := 6) (Nat.le_of_ble_eq_true rfl)
  rw [lg_entry_eq]
  generalize (lg_sl ([.ref e_a, .int p1, .int p2]) ++ List.replicate (6 - (lg_sl ([.ref e_a, .int p1, .int p2])).length) Slot.unset).toArray = ls at hl ⊢
  have hl : lv_has ls 6 [(0, .ref e_a), (1, .int p1), (2, .int p2)] := hl
  have hP : va_P (dC, dI) vwCl [(e_a, .inr (1, [.int e_mu, .int e_ma, .ref e_cf_a])), (e_cf_a, .inl (cJ, 256, .inr (.inl e_cf)))] s.heap := hP
  have hM : (if (p1 / 64) < 0 then (some e_cf) else (if 256 ≤ (p1 / 64) then (some e_cf) else (if p2 = 0 then (if (p1 / 64) < 0 ∨ 256 ≤ ((p1 / 64)).toNatClampNeg then none else (if (p1 / 64) < 0 ∨ 256 ≤ ((p1 / 64)).toNatClampNeg then none else (some (vp_updL e_cf ((p1 / 64)).toNatClampNeg ((e_cf ((p1 / 64)).toNatClampNeg) &&& (((1 : Int64) <<< (Int32.toInt64 (p1 - p1 / 64 * 64) &&& 63)) ^^^ (-1))))))) else (if (p1 / 64) < 0 ∨ 256 ≤ ((p1 / 64)).toNatClampNeg then none else (if (p1 / 64) < 0 ∨ 256 ≤ ((p1 / 64)).toNatClampNeg then none else (some (vp_updL e_cf ((p1 / 64)).toNatClampNeg ((e_cf ((p1 / 64)).toNatClampNeg) ||| ((1 : Int64) <<< (Int32.toInt64 (p1 - p1 / 64 * 64) &&& 63)))))))))) = some R := hM
  refine lv_iload_n hx hb dX1_mark_0 rfl (lv_at hl 1 rfl) ?_
  refine lv_bipush (v := 64) hx hb dX1_mark_1 (by decide) ?_
  refine lv_idiv hx hb dX1_mark_3 (by decide) ?_
  refine lv_istore_n (lv' := [(3, .int (p1 / 64)), (0, .ref e_a), (1, .int p1), (2, .int p2)]) hx hb dX1_mark_4 rfl hl (by decide) rfl (fun ls hl => ?_)
  refine lv_lconst (v := 1) hx hb dX1_mark_5 (by decide) ?_
  refine lv_iload_n hx hb dX1_mark_6 rfl (lv_at hl 2 rfl) ?_
  refine lv_bipush (v := 64) hx hb dX1_mark_7 (by decide) ?_
  refine lv_irem hx hb dX1_mark_9 (by decide) ?_
  refine lv_lshl (v := ((1 : Int64) <<< (Int32.toInt64 (p1 - p1 / 64 * 64) &&& 63))) hx hb dX1_mark_10 rfl ?_
  refine lv_lstore (lv' := [(4, .long ((1 : Int64) <<< (Int32.toInt64 (p1 - p1 / 64 * 64) &&& 63))), (3, .int (p1 / 64)), (0, .ref e_a), (1, .int p1), (2, .int p2)]) hx hb dX1_mark_11 hl (by decide) rfl (fun ls hl => ?_)
  refine lv_iload_n hx hb dX1_mark_13 rfl (lv_at hl 1 rfl) ?_
  refine lv_if_lt (tgt := 61) hx hb dX1_mark_14 (by decide) (fun c_14 => ?_) (fun c_14 => ?_)
  · replace hM := ob_pos c_14 hM
    obtain rfl := Option.some.inj hM
    have hP9 := hP.sub (ws' := [(e_a, .inr (1, [.int e_mu, .int e_ma, .ref e_cf_a])), (e_cf_a, .inl (cJ, 256, .inr (.inl e_cf)))]) [0, 1] rfl
    have hD9 := hD.sub (ws' := [(e_a, .inr (1, [.int e_mu, .int e_ma, .ref e_cf_a])), (e_cf_a, .inl (cJ, 256, .inr (.inl e_cf)))]) [0, 1] (by decide) rfl
    exact W.vret hx hb hr (fun t ht hW => ⟨⟨(), rfl, trivial, by rw [ht]; exact hP9, hD9⟩, hS.F ht⟩) hS.2.2 dX1_mark_61
  · replace hM := ob_neg c_14 hM
    refine lv_iload_n hx hb dX1_mark_17 rfl (lv_at hl 1 rfl) ?_
    refine lv_aload_n hx hb dX1_mark_18 rfl (lv_at hl 2 rfl) ?_
    refine va_get (D := (dC, dI)) (ci := 1) (v := .ref e_cf_a) (C := RX1) (T := TX1) (N := 3) hx hb hts in_X1_mark_1 hown hK hP 0 rfl rfl 2 (by decide) hf18 (fun _ h9 => h9) rfl dX1_mark_19 ?_
    refine va_alen hx hb hK hP 1 2 rfl rfl (v := 256) rfl dX1_mark_22 ?_
    refine lv_icmp_ge (tgt := 61) hx hb dX1_mark_23 (by decide) (fun c_23 => ?_) (fun c_23 => ?_)
    · replace hM := ob_pos c_23 hM
      obtain rfl := Option.some.inj hM
      have hP9 := hP.sub (ws' := [(e_a, .inr (1, [.int e_mu, .int e_ma, .ref e_cf_a])), (e_cf_a, .inl (cJ, 256, .inr (.inl e_cf)))]) [0, 1] rfl
      have hD9 := hD.sub (ws' := [(e_a, .inr (1, [.int e_mu, .int e_ma, .ref e_cf_a])), (e_cf_a, .inl (cJ, 256, .inr (.inl e_cf)))]) [0, 1] (by decide) rfl
      exact W.vret hx hb hr (fun t ht hW => ⟨⟨(), rfl, trivial, by rw [ht]; exact hP9, hD9⟩, hS.F ht⟩) hS.2.2 dX1_mark_61
    · replace hM := ob_neg c_23 hM
      refine lv_aload_n hx hb dX1_mark_26 rfl (lv_at hl 2 rfl) ?_
      refine va_get (D := (dC, dI)) (ci := 1) (v := .ref e_cf_a) (C := RX1) (T := TX1) (N := 3) hx hb hts in_X1_mark_1 hown hK hP 0 rfl rfl 2 (by decide) hf18 (fun _ h9 => h9) rfl dX1_mark_27 ?_
      refine lv_iload_n hx hb dX1_mark_30 rfl (lv_at hl 1 rfl) ?_
      refine lv_iload_n hx hb dX1_mark_31 rfl (lv_at hl 4 rfl) ?_
      refine lv_if_eq (tgt := 47) hx hb dX1_mark_32 (by decide) (fun c_32 => ?_) (fun c_32 => ?_)
      · replace hM := ob_pos c_32 hM
        refine lv_aload_n hx hb dX1_mark_47 rfl (lv_at hl 2 rfl) ?_
        refine va_get (D := (dC, dI)) (ci := 1) (v := .ref e_cf_a) (C := RX1) (T := TX1) (N := 3) hx hb hts in_X1_mark_1 hown hK hP 0 rfl rfl 2 (by decide) hf18 (fun _ h9 => h9) rfl dX1_mark_48 ?_
        refine lv_iload_n hx hb dX1_mark_51 rfl (lv_at hl 1 rfl) ?_
        obtain ⟨h_52, hM⟩ := ob_get hM
        refine va_lald hx hb hK hP 1 2 rfl rfl h_52 dX1_mark_52 ?_
        refine lv_lload hx hb dX1_mark_53 (lv_at hl 0 rfl) ?_
        refine lv_ldc2 (v := (-1)) hx hb hown (hts (.constantLong RX1 65 (-1)) (by decide +kernel)) dX1_mark_55 ?_
        refine lv_lxor hx hb dX1_mark_58 ?_
        refine lv_land hx hb dX1_mark_59 ?_
        obtain ⟨h_60, hM⟩ := ob_get hM
        refine va_last hx hb hK hP hD hS 1 2 rfl rfl h_60 dX1_mark_60 (fun H locs hP hD hS => ?_)
        have hP : va_P (dC, dI) vwCl [(e_a, .inr (1, [.int e_mu, .int e_ma, .ref e_cf_a])), (e_cf_a, .inl (cJ, 256, .inr (.inl (vp_updL e_cf ((p1 / 64)).toNatClampNeg ((e_cf ((p1 / 64)).toNatClampNeg) &&& (((1 : Int64) <<< (Int32.toInt64 (p1 - p1 / 64 * 64) &&& 63)) ^^^ (-1)))))))] H := hP
        have hD : va_D A [(e_a, .inr (1, [.int e_mu, .int e_ma, .ref e_cf_a])), (e_cf_a, .inl (cJ, 256, .inr (.inl (vp_updL e_cf ((p1 / 64)).toNatClampNeg ((e_cf ((p1 / 64)).toNatClampNeg) &&& (((1 : Int64) <<< (Int32.toInt64 (p1 - p1 / 64 * 64) &&& 63)) ^^^ (-1)))))))] := hD
        obtain rfl := Option.some.inj hM
        have hP9 := hP.sub (ws' := [(e_a, .inr (1, [.int e_mu, .int e_ma, .ref e_cf_a])), (e_cf_a, .inl (cJ, 256, .inr (.inl (vp_updL e_cf ((p1 / 64)).toNatClampNeg ((e_cf ((p1 / 64)).toNatClampNeg) &&& (((1 : Int64) <<< (Int32.toInt64 (p1 - p1 / 64 * 64) &&& 63)) ^^^ (-1)))))))]) [0, 1] rfl
        have hD9 := hD.sub (ws' := [(e_a, .inr (1, [.int e_mu, .int e_ma, .ref e_cf_a])), (e_cf_a, .inl (cJ, 256, .inr (.inl (vp_updL e_cf ((p1 / 64)).toNatClampNeg ((e_cf ((p1 / 64)).toNatClampNeg) &&& (((1 : Int64) <<< (Int32.toInt64 (p1 - p1 / 64 * 64) &&& 63)) ^^^ (-1)))))))]) [0, 1] (by decide) rfl
        exact W.vret hx hb hr (fun t ht hW => ⟨⟨(), rfl, trivial, by rw [ht]; exact hP9, hD9⟩, hS.F ht⟩) hS.2.2 dX1_mark_61
      · replace hM := ob_neg c_32 hM
        refine lv_aload_n hx hb dX1_mark_35 rfl (lv_at hl 2 rfl) ?_
        refine va_get (D := (dC, dI)) (ci := 1) (v := .ref e_cf_a) (C := RX1) (T := TX1) (N := 3) hx hb hts in_X1_mark_1 hown hK hP 0 rfl rfl 2 (by decide) hf18 (fun _ h9 => h9) rfl dX1_mark_36 ?_
        refine lv_iload_n hx hb dX1_mark_39 rfl (lv_at hl 1 rfl) ?_
        obtain ⟨h_40, hM⟩ := ob_get hM
        refine va_lald hx hb hK hP 1 2 rfl rfl h_40 dX1_mark_40 ?_
        refine lv_lload hx hb dX1_mark_41 (lv_at hl 0 rfl) ?_
        refine lv_lor hx hb dX1_mark_43 ?_
        refine lv_goto (tgt := 60) hx hb dX1_mark_44 (by decide) ?_
        obtain ⟨h_60, hM⟩ := ob_get hM
        refine va_last hx hb hK hP hD hS 1 2 rfl rfl h_60 dX1_mark_60 (fun H locs hP hD hS => ?_)
        have hP : va_P (dC, dI) vwCl [(e_a, .inr (1, [.int e_mu, .int e_ma, .ref e_cf_a])), (e_cf_a, .inl (cJ, 256, .inr (.inl (vp_updL e_cf ((p1 / 64)).toNatClampNeg ((e_cf ((p1 / 64)).toNatClampNeg) ||| ((1 : Int64) <<< (Int32.toInt64 (p1 - p1 / 64 * 64) &&& 63)))))))] H := hP
        have hD : va_D A [(e_a, .inr (1, [.int e_mu, .int e_ma, .ref e_cf_a])), (e_cf_a, .inl (cJ, 256, .inr (.inl (vp_updL e_cf ((p1 / 64)).toNatClampNeg ((e_cf ((p1 / 64)).toNatClampNeg) ||| ((1 : Int64) <<< (Int32.toInt64 (p1 - p1 / 64 * 64) &&& 63)))))))] := hD
        obtain rfl := Option.some.inj hM
        have hP9 := hP.sub (ws' := [(e_a, .inr (1, [.int e_mu, .int e_ma, .ref e_cf_a])), (e_cf_a, .inl (cJ, 256, .inr (.inl (vp_updL e_cf ((p1 / 64)).toNatClampNeg ((e_cf ((p1 / 64)).toNatClampNeg) ||| ((1 : Int64) <<< (Int32.toInt64 (p1 - p1 / 64 * 64) &&& 63)))))))]) [0, 1] rfl
        have hD9 := hD.sub (ws' := [(e_a, .inr (1, [.int e_mu, .int e_ma, .ref e_cf_a])), (e_cf_a, .inl (cJ, 256, .inr (.inl (vp_updL e_cf ((p1 / 64)).toNatClampNeg ((e_cf ((p1 / 64)).toNatClampNeg) ||| ((1 : Int64) <<< (Int32.toInt64 (p1 - p1 / 64 * 64) &&& 63)))))))]) [0, 1] (by decide) rfl
        exact W.vret hx hb hr (fun t ht hW => ⟨⟨(), rfl, trivial, by rw [ht]; exact hP9, hD9⟩, hS.F ht⟩) hS.2.2 dX1_mark_61
/-! X1_isFreeWithoutOne -/
abbrev rm_X1_isFreeWithoutOne : Room := { frames := 1, cells := 0, slots := 0, locals := 22 }
theorem in_X1_isFreeWithoutOne_3 : ∀ w ∈ u_ws RX3 TX3 5, w ∈ wsX1_isFreeWithoutOne := by decide +kernel
set_option maxHeartbeats 4000000 in
set_option maxRecDepth 100000 in
theorem c_X1_isFreeWithoutOne (l : Launch) (dC : Nat → ClassId) (dI : Nat → Nat → Nat) (cI cZ cJ cW : ClassId) (e_a e_cf_a w_a w_cs_a w_ds_a : Nat) (e_mu : Int32) (e_ma : Int32) (e_cf : Nat → Int64) (w_t : Int32) (w_k : Int32) (w_f : Int32) (w_cs : Nat → Int32) (w_ds : Nat → Int32) (p2 : Int32) (R : Int32) (hM : M_X1_isFreeWithoutOne w_t w_ds p2 e_cf = some R) : Met l yX1_isFreeWithoutOne wsX1_isFreeWithoutOne rm_X1_isFreeWithoutOne (va_Pc [.ref e_a, .ref w_a, .int p2] (RP (dC, dI) cI cZ cJ cW [(e_a, .inr (1, [.int e_mu, .int e_ma, .ref e_cf_a])), (e_cf_a, .inl (cJ, 256, .inr (.inl e_cf))), (w_a, .inr (3, [.int w_t, .int w_k, .int w_f, .ref w_cs_a, .ref w_ds_a])), (w_cs_a, .inl (cI, 14, .inl w_cs)), (w_ds_a, .inl (cI, 14, .inl w_ds))])) (vp_Si (fun r => R = r)) 0 0 (fun _ => False) := by
  refine Met.ofW (cc := cX1_isFreeWithoutOne) (maxL := 4) (ret := (some .boolean)) (by decide) rfl ?_
  intro p e s m args below meth c s₁ B hml hv
  obtain ⟨rfl, hP, hK, hN⟩ := hv
  have hx := B.exec
  have hb := B.bytes
  have hr := B.returns
  have hts := atoms_spec (ws := wsX1_isFreeWithoutOne) B.pre
  have hown : s.vm.findClass RX1 = some m.cls := findClass_of_methodNamed B.named
  have hlocks := B.notSynchronized
  have hl := lv_entry ([.ref e_a, .ref w_a, .int p2]) (n := 4) (Nat.le_of_ble_eq_true rfl)
  rw [lg_entry_eq]
  generalize (lg_sl ([.ref e_a, .ref w_a, .int p2]) ++ List.replicate (4 - (lg_sl ([.ref e_a, .ref w_a, .int p2])).length) Slot.unset).toArray = ls at hl ⊢
  have hl : lv_has ls 4 [(0, .ref e_a), (1, .ref w_a), (2, .int p2)] := hl
  have hM : (L_X1_isFreeWithoutOne_2 w_t w_ds p2 e_cf (fun (v3_2 : Int32) => some 0) 40 0) = some R := hM
  refine lv_iconst (v := 0) hx hb dX1_isFreeWithoutOne_0 (by decide) ?_
  refine lv_istore_n (lv' := [(3, .int 0), (0, .ref e_a), (1, .ref w_a), (2, .int p2)]) hx hb dX1_isFreeWithoutOne_1 rfl hl (by decide) rfl (fun ls hl => ?_)
  obtain ⟨K2, hK2⟩ : ∃ K : Int32 → Option (Int32), K = (fun (v3_2 : Int32) => some 0) := ⟨_, rfl⟩
  have hM : L_X1_isFreeWithoutOne_2 w_t w_ds p2 e_cf K2 40 0 = some R := by rw [hK2]; exact hM
  have hL2 : ∀ (k2 : Nat) (v3_2 : Int32) (ls : Array Slot), L_X1_isFreeWithoutOne_2 w_t w_ds p2 e_cf K2 k2 v3_2 = some R → lv_has ls 4 [(3, .int v3_2), (0, .ref e_a), (1, .ref w_a), (2, .int p2)] → W p l e rm_X1_isFreeWithoutOne s m ([.ref e_a, .ref w_a, .int p2] : List Value).toArray below meth c s.heap [] 0 0 (MQ below (vp_Si (fun r => R = r)) ([.ref e_a, .ref w_a, .int p2] : List Value).toArray s 0 0 (fun _ => False)) (F0 m 2 ls []) := by
    intro k2
    induction k2 with
    | zero => intro v3_2 ls hM; exact (ob_none hM).elim
    | succ k2 ih2 =>
      intro v3_2 ls hM hl
      have hM : (if w_t ≤ v3_2 then (K2 v3_2) else (if ((p2 >>> (v3_2 &&& 31)) &&& 1) = 0 then (L_X1_isFreeWithoutOne_2 w_t w_ds p2 e_cf K2 k2 (v3_2 + 1)) else (if v3_2 < 0 ∨ 14 ≤ (v3_2).toNatClampNeg then none else (if ((w_ds (v3_2).toNatClampNeg) &&& p2) = 0 then ((M_X1_isFree (p2 &&& (((1 : Int32) <<< (v3_2 &&& 31)) ^^^ (-1))) e_cf).bind (fun q37 => if q37 = 0 ∨ q37 = 1 then some q37 else none)) else (L_X1_isFreeWithoutOne_2 w_t w_ds p2 e_cf K2 k2 (v3_2 + 1)))))) = some R := hM
      refine lv_iload_n hx hb dX1_isFreeWithoutOne_2 rfl (lv_at hl 0 rfl) ?_
      refine lv_aload_n hx hb dX1_isFreeWithoutOne_3 rfl (lv_at hl 2 rfl) ?_
      refine va_getN (D := (dC, dI)) (ci := 3) (v := .int w_t) (C := RX3) (T := TX3) (N := 5) hx hb hts in_X1_isFreeWithoutOne_3 hown hK hP 2 rfl rfl 0 (by decide) (va_Nw.use rfl (hN.1 (.fieldLinkNest RX1 54 "WordGrounds$Words" "total" "I" "WordGrounds") (List.mem_of_getElem? (i := 3) rfl))) (fun _ h9 => h9) rfl dX1_isFreeWithoutOne_4 ?_
      refine lv_icmp_ge (tgt := 47) hx hb dX1_isFreeWithoutOne_7 (by decide) (fun c_7 => ?_) (fun c_7 => ?_)
      · replace hM := ob_pos c_7 hM
        have hM : (some 0) = some R := by rw [hK2] at hM; exact hM
        refine lv_iconst (v := 0) hx hb dX1_isFreeWithoutOne_47 (by decide) ?_
        exact W.zret (v := 0) hx hb hr (by rfl) (fun t ht hW => ⟨_, rfl, (Option.some.inj hM).symm, ht⟩) (fun _ h => by cases h) dX1_isFreeWithoutOne_48
      · replace hM := ob_neg c_7 hM
        refine lv_iload_n hx hb dX1_isFreeWithoutOne_10 rfl (lv_at hl 3 rfl) ?_
        refine lv_iload_n hx hb dX1_isFreeWithoutOne_11 rfl (lv_at hl 0 rfl) ?_
        refine lv_ishr hx hb dX1_isFreeWithoutOne_12 ?_
        refine lv_iconst (v := 1) hx hb dX1_isFreeWithoutOne_13 (by decide) ?_
        refine lv_iand hx hb dX1_isFreeWithoutOne_14 ?_
        refine lv_if_eq (tgt := 41) hx hb dX1_isFreeWithoutOne_15 (by decide) (fun c_15 => ?_) (fun c_15 => ?_)
        · replace hM := ob_pos c_15 hM
          refine lv_iinc (v := (v3_2 + 1)) (lv' := [(3, .int (v3_2 + 1)), (0, .ref e_a), (1, .ref w_a), (2, .int p2)]) hx hb dX1_isFreeWithoutOne_41 hl (k := 0) rfl (by rfl) (by decide) rfl (fun ls hl => ?_)
          refine lv_goto (tgt := 2) hx hb dX1_isFreeWithoutOne_44 (by decide) ?_
          exact ih2 (v3_2 + 1) _ hM (lv_sub hl [0, 1, 2, 3] rfl)
        · replace hM := ob_neg c_15 hM
          refine lv_aload_n hx hb dX1_isFreeWithoutOne_18 rfl (lv_at hl 2 rfl) ?_
          refine va_getN (D := (dC, dI)) (ci := 3) (v := .ref w_ds_a) (C := RX3) (T := TX3) (N := 5) hx hb hts in_X1_isFreeWithoutOne_3 hown hK hP 2 rfl rfl 4 (by decide) (va_Nw.use rfl (hN.1 (.fieldLinkNest RX1 57 "WordGrounds$Words" "definitions" "[I" "WordGrounds") (List.mem_of_getElem? (i := 9) rfl))) (fun _ h9 => h9) rfl dX1_isFreeWithoutOne_19 ?_
          refine lv_iload_n hx hb dX1_isFreeWithoutOne_22 rfl (lv_at hl 0 rfl) ?_
          obtain ⟨h_23, hM⟩ := ob_get hM
          refine va_iald hx hb hK hP 4 0 rfl rfl h_23 dX1_isFreeWithoutOne_23 ?_
          refine lv_iload_n hx hb dX1_isFreeWithoutOne_24 rfl (lv_at hl 3 rfl) ?_
          refine lv_iand hx hb dX1_isFreeWithoutOne_25 ?_
          refine lv_if_ne (tgt := 41) hx hb dX1_isFreeWithoutOne_26 (by decide) (fun c_26 => ?_) (fun c_26 => ?_)
          · replace hM := ob_neg c_26 hM
            refine lv_iinc (v := (v3_2 + 1)) (lv' := [(3, .int (v3_2 + 1)), (0, .ref e_a), (1, .ref w_a), (2, .int p2)]) hx hb dX1_isFreeWithoutOne_41 hl (k := 0) rfl (by rfl) (by decide) rfl (fun ls hl => ?_)
            refine lv_goto (tgt := 2) hx hb dX1_isFreeWithoutOne_44 (by decide) ?_
            exact ih2 (v3_2 + 1) _ hM (lv_sub hl [0, 1, 2, 3] rfl)
          · replace hM := ob_pos c_26 hM
            refine lv_aload_n hx hb dX1_isFreeWithoutOne_29 rfl (lv_at hl 1 rfl) ?_
            refine lv_iload_n hx hb dX1_isFreeWithoutOne_30 rfl (lv_at hl 3 rfl) ?_
            refine lv_iconst (v := 1) hx hb dX1_isFreeWithoutOne_31 (by decide) ?_
            refine lv_iload_n hx hb dX1_isFreeWithoutOne_32 rfl (lv_at hl 0 rfl) ?_
            refine lv_ishl hx hb dX1_isFreeWithoutOne_33 ?_
            refine lv_iconst (v := (-1)) hx hb dX1_isFreeWithoutOne_34 (by decide) ?_
            refine lv_ixor hx hb dX1_isFreeWithoutOne_35 ?_
            refine lv_iand hx hb dX1_isFreeWithoutOne_36 ?_
            obtain ⟨q37, hv37, hM⟩ := ob_bind hM
            refine vp_callSi (va_Run.run (va_runV (As := [.int (p2 &&& (((1 : Int32) <<< (v3_2 &&& 31)) ^^^ (-1)))]) (rest := []) ⟨hx, hb, hml, hown, hts⟩ (c_X1_isFree l dC dI cI cZ cJ cW e_a e_cf_a e_mu e_ma e_cf (p2 &&& (((1 : Int32) <<< (v3_2 &&& 31)) ^^^ (-1))) q37 hv37) (cwV 1 hts gX1_isFreeWithoutOne_X1_isFree rfl rfl rfl (by decide +kernel) ⟨Nat.le_of_ble_eq_true rfl, Nat.le_of_ble_eq_true rfl⟩) ⟨RP.blind, va_recv hK hP (ci := 1) (q0 := 0) rfl rfl, fun U hU hW => ⟨rfl, by rw [hU]; exact hP.sub (ws' := [(e_a, .inr (1, [.int e_mu, .int e_ma, .ref e_cf_a])), (e_cf_a, .inl (cJ, 256, .inr (.inl e_cf)))]) [0, 1] rfl, va_K.moved hW.alike hK, hN.warm hW⟩⟩ rfl rfl hl.1 rfl (lv_room (Nat.le_of_ble_eq_true rfl)) dX1_isFreeWithoutOne_37 ⟨Nat.le_of_ble_eq_true rfl, Nat.le_of_ble_eq_true rfl⟩)) (fun r hr => ?_)
            subst hr
            obtain ⟨h_40, hM⟩ := ob_zr hM
            exact W.zret (v := q37) hx hb hr (nar_b h_40) (fun t ht hW => ⟨_, rfl, (Option.some.inj hM).symm, ht⟩) (fun _ h => by cases h) dX1_isFreeWithoutOne_40
  exact hL2 40 0 _ hM (lv_sub hl [0, 1, 2, 3] rfl)
/-! X1_find -/
abbrev rm_X1_find : Room := { frames := 2, cells := 0, slots := 0, locals := 45 }
theorem in_X1_find_0 : ∀ w ∈ u_ws RX0 TX0 3, w ∈ wsX1_find := by decide +kernel
theorem in_X1_find_1 : ∀ w ∈ u_ws RX1 TX1 3, w ∈ wsX1_find := by decide +kernel
theorem in_X1_find_3 : ∀ w ∈ u_ws RX3 TX3 5, w ∈ wsX1_find := by decide +kernel
set_option maxHeartbeats 4000000 in
set_option maxRecDepth 100000 in
theorem c_X1_find (l : Launch) (dC : Nat → ClassId) (dI : Nat → Nat → Nat) (cI cZ cJ cW : ClassId) (sz : Nat) (e_a e_cf_a w_a w_cs_a w_ds_a r_a r_rc_a : Nat) (e_mu : Int32) (e_ma : Int32) (e_cf : Nat → Int64) (w_t : Int32) (w_k : Int32) (w_f : Int32) (w_cs : Nat → Int32) (w_ds : Nat → Int32) (r_t : Int32) (r_ir : Int32) (r_rc : Nat → Int32) (R : Int32 × Int32 × (Nat → Int64)) (hM : M_X1_find w_t w_f w_ds r_ir e_cf = some R) : Met l yX1_find wsX1_find rm_X1_find (va_Pc [.ref e_a, .ref w_a, .ref r_a] (MP (dC, dI) cI cZ cJ cW sz [(e_a, .inr (1, [.int e_mu, .int e_ma, .ref e_cf_a])), (e_cf_a, .inl (cJ, 256, .inr (.inl e_cf))), (w_a, .inr (3, [.int w_t, .int w_k, .int w_f, .ref w_cs_a, .ref w_ds_a])), (w_cs_a, .inl (cI, 14, .inl w_cs)), (w_ds_a, .inl (cI, 14, .inl w_ds)), (r_a, .inr (0, [.int r_t, .ref r_rc_a, .int r_ir])), (r_rc_a, .inl (cI, 14, .inl r_rc))])) (va_Qv (fun (_ : Unit) => True) (PB (dC, dI) (va_A [(e_a, .inr (1, [.int e_mu, .int e_ma, .ref e_cf_a])), (e_cf_a, .inl (cJ, 256, .inr (.inl e_cf))), (w_a, .inr (3, [.int w_t, .int w_k, .int w_f, .ref w_cs_a, .ref w_ds_a])), (w_cs_a, .inl (cI, 14, .inl w_cs)), (w_ds_a, .inl (cI, 14, .inl w_ds)), (r_a, .inr (0, [.int r_t, .ref r_rc_a, .int r_ir])), (r_rc_a, .inl (cI, 14, .inl r_rc))] sz) [(e_a, .inr (1, [.int R.1, .int R.2.1, .ref e_cf_a])), (e_cf_a, .inl (cJ, 256, .inr (.inl R.2.2))), (w_a, .inr (3, [.int w_t, .int w_k, .int w_f, .ref w_cs_a, .ref w_ds_a])), (w_cs_a, .inl (cI, 14, .inl w_cs)), (w_ds_a, .inl (cI, 14, .inl w_ds)), (r_a, .inr (0, [.int r_t, .ref r_rc_a, .int r_ir])), (r_rc_a, .inl (cI, 14, .inl r_rc))]) (va_A [(e_a, .inr (1, [.int e_mu, .int e_ma, .ref e_cf_a])), (e_cf_a, .inl (cJ, 256, .inr (.inl e_cf))), (w_a, .inr (3, [.int w_t, .int w_k, .int w_f, .ref w_cs_a, .ref w_ds_a])), (w_cs_a, .inl (cI, 14, .inl w_cs)), (w_ds_a, .inl (cI, 14, .inl w_ds)), (r_a, .inr (0, [.int r_t, .ref r_rc_a, .int r_ir])), (r_rc_a, .inl (cI, 14, .inl r_rc))] sz)) 0 0 (va_A [(e_a, .inr (1, [.int e_mu, .int e_ma, .ref e_cf_a])), (e_cf_a, .inl (cJ, 256, .inr (.inl e_cf))), (w_a, .inr (3, [.int w_t, .int w_k, .int w_f, .ref w_cs_a, .ref w_ds_a])), (w_cs_a, .inl (cI, 14, .inl w_cs)), (w_ds_a, .inl (cI, 14, .inl w_ds)), (r_a, .inr (0, [.int r_t, .ref r_rc_a, .int r_ir])), (r_rc_a, .inl (cI, 14, .inl r_rc))] sz) := by
  refine Met.ofW (cc := cX1_find) (maxL := 6) (ret := none) (by decide) rfl ?_
  intro p e s m args below meth c s₁ B hml hv
  obtain ⟨rfl, hsz, hP, hK, hN, hD0⟩ := hv
  have hx := B.exec
  have hb := B.bytes
  have hr := B.returns
  have hts := atoms_spec (ws := wsX1_find) B.pre
  have hown : s.vm.findClass RX1 = some m.cls := findClass_of_methodNamed B.named
  have hlocks := B.notSynchronized
  subst hsz
  have hD := hD0.self (sz := s.heap.size)
  generalize hAe : va_A [(e_a, .inr (1, [.int e_mu, .int e_ma, .ref e_cf_a])), (e_cf_a, .inl (cJ, 256, .inr (.inl e_cf))), (w_a, .inr (3, [.int w_t, .int w_k, .int w_f, .ref w_cs_a, .ref w_ds_a])), (w_cs_a, .inl (cI, 14, .inl w_cs)), (w_ds_a, .inl (cI, 14, .inl w_ds)), (r_a, .inr (0, [.int r_t, .ref r_rc_a, .int r_ir])), (r_rc_a, .inl (cI, 14, .inl r_rc))] s.heap.size = A at hD ⊢
  have hA : ∀ q : Nat, s.heap.size ≤ q → A q := fun q h => by rw [← hAe]; exact Or.inr h
  have hS : va_S A s.heap s.heap [] := va_S.rf
  have hf9 := hts (.fieldLink RX1 9 "WordGrounds$Tellings" "must" "I") (by decide +kernel)
  have hf15 := hts (.fieldLink RX1 15 "WordGrounds$Tellings" "may" "I") (by decide +kernel)
  have hl := lv_entry ([.ref e_a, .ref w_a, .ref r_a]) (n := 6) (Nat.le_of_ble_eq_true rfl)
  rw [lg_entry_eq]
  generalize (lg_sl ([.ref e_a, .ref w_a, .ref r_a]) ++ List.replicate (6 - (lg_sl ([.ref e_a, .ref w_a, .ref r_a])).length) Slot.unset).toArray = ls at hl ⊢
  have hl : lv_has ls 6 [(0, .ref e_a), (1, .ref w_a), (2, .ref r_a)] := hl
  have hP : va_P (dC, dI) vwCl [(e_a, .inr (1, [.int e_mu, .int e_ma, .ref e_cf_a])), (e_cf_a, .inl (cJ, 256, .inr (.inl e_cf))), (w_a, .inr (3, [.int w_t, .int w_k, .int w_f, .ref w_cs_a, .ref w_ds_a])), (w_cs_a, .inl (cI, 14, .inl w_cs)), (w_ds_a, .inl (cI, 14, .inl w_ds)), (r_a, .inr (0, [.int r_t, .ref r_rc_a, .int r_ir])), (r_rc_a, .inl (cI, 14, .inl r_rc))] s.heap := hP
  have hM : ((M_X3_all w_t).bind (fun q2 => (M_J6_bitCount_0f7a4 r_ir).bind (fun q28 => L_X1_find_39 w_t w_ds r_ir q28 (fun (v5_39 : Int32) (v4_39 : Int32) (e_cf_39 : Nat → Int64) => some ((q2 &&& (w_f ^^^ (-1))), r_ir, e_cf_39)) 20000 0 0 e_cf))) = some R := hM
  refine lv_aload_n hx hb dX1_find_0 rfl (lv_at hl 0 rfl) ?_
  refine lv_aload_n hx hb dX1_find_1 rfl (lv_at hl 1 rfl) ?_
  obtain ⟨q2, hv2, hM⟩ := ob_bind hM
  refine vp_callSi (va_Run.run (va_runVN (As := []) (rest := [.ref e_a]) ⟨hx, hb, hml, hown, hts⟩ (c_X3_all l dC dI cI cZ cJ cW w_a w_cs_a w_ds_a w_t w_k w_f w_cs w_ds q2 hv2) ⟨va_cnB 0 hts gX1_find_X3_all_n22 rfl rfl rfl (hN.1 (.methodLinkNest RX1 22 yX3_all "WordGrounds") (List.mem_of_getElem? (i := 34) rfl)) (hts (.initialized RX3) (by decide +kernel)) (by decide +kernel) ⟨Nat.le_of_ble_eq_true rfl, Nat.le_of_ble_eq_true rfl⟩, hts (.instanceMethod yX3_all) (by decide +kernel), hts (.selects RX3 yX3_all yX3_all) (by decide +kernel)⟩ ⟨RP.blind, va_recv hK hP (ci := 3) (q0 := 2) rfl rfl, fun U hU hW => ⟨rfl, by rw [hU]; exact hP.sub (ws' := [(w_a, .inr (3, [.int w_t, .int w_k, .int w_f, .ref w_cs_a, .ref w_ds_a])), (w_cs_a, .inl (cI, 14, .inl w_cs)), (w_ds_a, .inl (cI, 14, .inl w_ds))]) [2, 3, 4] rfl, va_K.moved hW.alike hK, hN.warm hW⟩⟩ rfl rfl hl.1 rfl (lv_room (Nat.le_of_ble_eq_true rfl)) dX1_find_2 ⟨Nat.le_of_ble_eq_true rfl, Nat.le_of_ble_eq_true rfl⟩)) (fun r hr => ?_)
  subst hr
  refine lv_aload_n hx hb dX1_find_5 rfl (lv_at hl 1 rfl) ?_
  refine va_getN (D := (dC, dI)) (ci := 3) (v := .int w_f) (C := RX3) (T := TX3) (N := 5) hx hb hts in_X1_find_3 hown hK hP 2 rfl rfl 2 (by decide) (va_Nw.use rfl (hN.1 (.fieldLinkNest RX1 28 "WordGrounds$Words" "defined" "I" "WordGrounds") (List.mem_of_getElem? (i := 5) rfl))) (fun _ h9 => h9) rfl dX1_find_6 ?_
  refine lv_iconst (v := (-1)) hx hb dX1_find_9 (by decide) ?_
  refine lv_ixor hx hb dX1_find_10 ?_
  refine lv_iand hx hb dX1_find_11 ?_
  refine va_put (D := (dC, dI)) (ci := 1) (v := .int (q2 &&& (w_f ^^^ (-1)))) (ty := .int) (C := RX1) (T := TX1) (N := 3) hx hb hts in_X1_find_1 tyX1 tyX1_ok nmX1 hown hK hP hD hS 0 rfl rfl 0 (by decide) hf9 (fun _ h9 => h9) rfl (by decide +kernel) rfl rfl (Nat.le_of_ble_eq_true rfl) dX1_find_12 (fun H locs hP hD hS => ?_)
  have hP : va_P (dC, dI) vwCl [(e_a, .inr (1, [.int (q2 &&& (w_f ^^^ (-1))), .int e_ma, .ref e_cf_a])), (e_cf_a, .inl (cJ, 256, .inr (.inl e_cf))), (w_a, .inr (3, [.int w_t, .int w_k, .int w_f, .ref w_cs_a, .ref w_ds_a])), (w_cs_a, .inl (cI, 14, .inl w_cs)), (w_ds_a, .inl (cI, 14, .inl w_ds)), (r_a, .inr (0, [.int r_t, .ref r_rc_a, .int r_ir])), (r_rc_a, .inl (cI, 14, .inl r_rc))] H := hP
  have hD : va_D A [(e_a, .inr (1, [.int (q2 &&& (w_f ^^^ (-1))), .int e_ma, .ref e_cf_a])), (e_cf_a, .inl (cJ, 256, .inr (.inl e_cf))), (w_a, .inr (3, [.int w_t, .int w_k, .int w_f, .ref w_cs_a, .ref w_ds_a])), (w_cs_a, .inl (cI, 14, .inl w_cs)), (w_ds_a, .inl (cI, 14, .inl w_ds)), (r_a, .inr (0, [.int r_t, .ref r_rc_a, .int r_ir])), (r_rc_a, .inl (cI, 14, .inl r_rc))] := hD
  refine lv_aload_n hx hb dX1_find_15 rfl (lv_at hl 0 rfl) ?_
  refine lv_aload_n hx hb dX1_find_16 rfl (lv_at hl 2 rfl) ?_
  refine va_getN (D := (dC, dI)) (ci := 0) (v := .int r_ir) (C := RX0) (T := TX0) (N := 3) hx hb hts in_X1_find_0 hown hK hP 5 rfl rfl 2 (by decide) (va_Nw.use rfl (hN.1 (.fieldLinkNest RX1 31 "WordGrounds$Rings" "inRings" "I" "WordGrounds") (List.mem_of_getElem? (i := 14) rfl))) (fun _ h9 => h9) rfl dX1_find_17 ?_
  refine va_put (D := (dC, dI)) (ci := 1) (v := .int r_ir) (ty := .int) (C := RX1) (T := TX1) (N := 3) hx hb hts in_X1_find_1 tyX1 tyX1_ok nmX1 hown hK hP hD hS 0 rfl rfl 1 (by decide) hf15 (fun _ h9 => h9) rfl (by decide +kernel) rfl rfl (Nat.le_of_ble_eq_true rfl) dX1_find_20 (fun H locs hP hD hS => ?_)
  have hP : va_P (dC, dI) vwCl [(e_a, .inr (1, [.int (q2 &&& (w_f ^^^ (-1))), .int r_ir, .ref e_cf_a])), (e_cf_a, .inl (cJ, 256, .inr (.inl e_cf))), (w_a, .inr (3, [.int w_t, .int w_k, .int w_f, .ref w_cs_a, .ref w_ds_a])), (w_cs_a, .inl (cI, 14, .inl w_cs)), (w_ds_a, .inl (cI, 14, .inl w_ds)), (r_a, .inr (0, [.int r_t, .ref r_rc_a, .int r_ir])), (r_rc_a, .inl (cI, 14, .inl r_rc))] H := hP
  have hD : va_D A [(e_a, .inr (1, [.int (q2 &&& (w_f ^^^ (-1))), .int r_ir, .ref e_cf_a])), (e_cf_a, .inl (cJ, 256, .inr (.inl e_cf))), (w_a, .inr (3, [.int w_t, .int w_k, .int w_f, .ref w_cs_a, .ref w_ds_a])), (w_cs_a, .inl (cI, 14, .inl w_cs)), (w_ds_a, .inl (cI, 14, .inl w_ds)), (r_a, .inr (0, [.int r_t, .ref r_rc_a, .int r_ir])), (r_rc_a, .inl (cI, 14, .inl r_rc))] := hD
  refine lv_iconst (v := 1) hx hb dX1_find_23 (by decide) ?_
  refine lv_aload_n hx hb dX1_find_24 rfl (lv_at hl 0 rfl) ?_
  refine va_get (D := (dC, dI)) (ci := 1) (v := .int r_ir) (C := RX1) (T := TX1) (N := 3) hx hb hts in_X1_find_1 hown hK hP 0 rfl rfl 1 (by decide) hf15 (fun _ h9 => h9) rfl dX1_find_25 ?_
  obtain ⟨q28, hv28, hM⟩ := ob_bind hM
  refine vp_callSi (va_Run.run (va_runS (As := [.int r_ir]) (rest := [.int 1]) ⟨hx, hb, hml, hown, hts⟩ (c_J6_bitCount_0f7a4 l dC dI cI cZ cJ cW r_ir q28 hv28) (va_cwS 1 hts gX1_find_J6_bitCount_0f7a4 rfl rfl rfl (by decide +kernel) ⟨Nat.le_of_ble_eq_true rfl, Nat.le_of_ble_eq_true rfl⟩) ⟨TP.blind, fun U hU hW => ⟨rfl, trivial⟩⟩ rfl rfl hl.1 rfl (lv_room (Nat.le_of_ble_eq_true rfl)) dX1_find_28 ⟨Nat.le_of_ble_eq_true rfl, Nat.le_of_ble_eq_true rfl⟩)) (fun r hr => ?_)
  subst hr
  refine lv_ishl hx hb dX1_find_31 ?_
  refine lv_istore_n (lv' := [(3, .int ((1 : Int32) <<< (q28 &&& 31))), (0, .ref e_a), (1, .ref w_a), (2, .ref r_a)]) hx hb dX1_find_32 rfl hl (by decide) rfl (fun ls hl => ?_)
  refine lv_iconst (v := 0) hx hb dX1_find_33 (by decide) ?_
  refine lv_istore (lv' := [(4, .int 0), (3, .int ((1 : Int32) <<< (q28 &&& 31))), (0, .ref e_a), (1, .ref w_a), (2, .ref r_a)]) hx hb dX1_find_34 hl (by decide) rfl (fun ls hl => ?_)
  refine lv_iconst (v := 0) hx hb dX1_find_36 (by decide) ?_
  refine lv_istore (lv' := [(5, .int 0), (4, .int 0), (3, .int ((1 : Int32) <<< (q28 &&& 31))), (0, .ref e_a), (1, .ref w_a), (2, .ref r_a)]) hx hb dX1_find_37 hl (by decide) rfl (fun ls hl => ?_)
  obtain ⟨K39, hK39⟩ : ∃ K : Int32 → Int32 → (Nat → Int64) → Option (Int32 × Int32 × (Nat → Int64)), K = (fun (v5_39 : Int32) (v4_39 : Int32) (e_cf_39 : Nat → Int64) => some ((q2 &&& (w_f ^^^ (-1))), r_ir, e_cf_39)) := ⟨_, rfl⟩
  have hM : L_X1_find_39 w_t w_ds r_ir q28 K39 20000 0 0 e_cf = some R := by rw [hK39]; exact hM
  have hL39 : ∀ (k39 : Nat) (v5_39 : Int32) (v4_39 : Int32) (e_cf_39 : Nat → Int64) (H : Heap) (locs : List Loc) (ls : Array Slot), L_X1_find_39 w_t w_ds r_ir q28 K39 k39 v5_39 v4_39 e_cf_39 = some R → va_P (dC, dI) vwCl [(e_a, .inr (1, [.int (q2 &&& (w_f ^^^ (-1))), .int r_ir, .ref e_cf_a])), (e_cf_a, .inl (cJ, 256, .inr (.inl e_cf_39))), (w_a, .inr (3, [.int w_t, .int w_k, .int w_f, .ref w_cs_a, .ref w_ds_a])), (w_cs_a, .inl (cI, 14, .inl w_cs)), (w_ds_a, .inl (cI, 14, .inl w_ds)), (r_a, .inr (0, [.int r_t, .ref r_rc_a, .int r_ir])), (r_rc_a, .inl (cI, 14, .inl r_rc))] H → va_D A [(e_a, .inr (1, [.int (q2 &&& (w_f ^^^ (-1))), .int r_ir, .ref e_cf_a])), (e_cf_a, .inl (cJ, 256, .inr (.inl e_cf_39))), (w_a, .inr (3, [.int w_t, .int w_k, .int w_f, .ref w_cs_a, .ref w_ds_a])), (w_cs_a, .inl (cI, 14, .inl w_cs)), (w_ds_a, .inl (cI, 14, .inl w_ds)), (r_a, .inr (0, [.int r_t, .ref r_rc_a, .int r_ir])), (r_rc_a, .inl (cI, 14, .inl r_rc))] → va_S A s.heap H locs → lv_has ls 6 [(5, .int v5_39), (4, .int v4_39), (3, .int ((1 : Int32) <<< (q28 &&& 31))), (0, .ref e_a), (1, .ref w_a), (2, .ref r_a)] → W p l e rm_X1_find s m ([.ref e_a, .ref w_a, .ref r_a] : List Value).toArray below meth c H locs 0 0 (MQ below (va_Qv (fun (_ : Unit) => True) (PB (dC, dI) A [(e_a, .inr (1, [.int R.1, .int R.2.1, .ref e_cf_a])), (e_cf_a, .inl (cJ, 256, .inr (.inl R.2.2))), (w_a, .inr (3, [.int w_t, .int w_k, .int w_f, .ref w_cs_a, .ref w_ds_a])), (w_cs_a, .inl (cI, 14, .inl w_cs)), (w_ds_a, .inl (cI, 14, .inl w_ds)), (r_a, .inr (0, [.int r_t, .ref r_rc_a, .int r_ir])), (r_rc_a, .inl (cI, 14, .inl r_rc))]) A) ([.ref e_a, .ref w_a, .ref r_a] : List Value).toArray s 0 0 A) (F0 m 39 ls []) := by
    intro k39
    induction k39 with
    | zero => intro v5_39 v4_39 e_cf_39 H locs ls hM; exact (ob_none hM).elim
    | succ k39 ih39 =>
      intro v5_39 v4_39 e_cf_39 H locs ls hM hP hD hS hl
      have hM : (if ((1 : Int32) <<< (q28 &&& 31)) ≤ v5_39 then (K39 v5_39 v4_39 e_cf_39) else (if v4_39 = 0 then ((M_X1_mark v4_39 1 e_cf_39).bind (fun q68 => (M_X1_nextSubset v4_39 r_ir).bind (fun q77 => L_X1_find_39 w_t w_ds r_ir q28 K39 k39 (v5_39 + 1) q77 q68))) else ((M_X1_isFreeWithoutOne w_t w_ds v4_39 e_cf_39).bind (fun q57 => if q57 = 0 then ((M_X1_mark v4_39 0 e_cf_39).bind (fun q68 => (M_X1_nextSubset v4_39 r_ir).bind (fun q77 => L_X1_find_39 w_t w_ds r_ir q28 K39 k39 (v5_39 + 1) q77 q68))) else ((M_X1_mark v4_39 1 e_cf_39).bind (fun q68 => (M_X1_nextSubset v4_39 r_ir).bind (fun q77 => L_X1_find_39 w_t w_ds r_ir q28 K39 k39 (v5_39 + 1) q77 q68))))))) = some R := hM
      refine lv_iload hx hb dX1_find_39 (lv_at hl 0 rfl) ?_
      refine lv_iload_n hx hb dX1_find_41 rfl (lv_at hl 2 rfl) ?_
      refine lv_icmp_ge (tgt := 88) hx hb dX1_find_42 (by decide) (fun c_42 => ?_) (fun c_42 => ?_)
      · replace hM := ob_pos c_42 hM
        have hM : (some ((q2 &&& (w_f ^^^ (-1))), r_ir, e_cf_39)) = some R := by rw [hK39] at hM; exact hM
        obtain rfl := Option.some.inj hM
        have hP9 := hP.sub (ws' := [(e_a, .inr (1, [.int (q2 &&& (w_f ^^^ (-1))), .int r_ir, .ref e_cf_a])), (e_cf_a, .inl (cJ, 256, .inr (.inl e_cf_39))), (w_a, .inr (3, [.int w_t, .int w_k, .int w_f, .ref w_cs_a, .ref w_ds_a])), (w_cs_a, .inl (cI, 14, .inl w_cs)), (w_ds_a, .inl (cI, 14, .inl w_ds)), (r_a, .inr (0, [.int r_t, .ref r_rc_a, .int r_ir])), (r_rc_a, .inl (cI, 14, .inl r_rc))]) [0, 1, 2, 3, 4, 5, 6] rfl
        have hD9 := hD.sub (ws' := [(e_a, .inr (1, [.int (q2 &&& (w_f ^^^ (-1))), .int r_ir, .ref e_cf_a])), (e_cf_a, .inl (cJ, 256, .inr (.inl e_cf_39))), (w_a, .inr (3, [.int w_t, .int w_k, .int w_f, .ref w_cs_a, .ref w_ds_a])), (w_cs_a, .inl (cI, 14, .inl w_cs)), (w_ds_a, .inl (cI, 14, .inl w_ds)), (r_a, .inr (0, [.int r_t, .ref r_rc_a, .int r_ir])), (r_rc_a, .inl (cI, 14, .inl r_rc))]) [0, 1, 2, 3, 4, 5, 6] (by decide) rfl
        exact W.vret hx hb hr (fun t ht hW => ⟨⟨(), rfl, trivial, by rw [ht]; exact hP9, hD9⟩, hS.F ht⟩) hS.2.2 dX1_find_88
      · replace hM := ob_neg c_42 hM
        refine lv_aload_n hx hb dX1_find_45 rfl (lv_at hl 3 rfl) ?_
        refine lv_iload hx hb dX1_find_46 (lv_at hl 1 rfl) ?_
        refine lv_iload hx hb dX1_find_48 (lv_at hl 1 rfl) ?_
        refine lv_if_eq (tgt := 63) hx hb dX1_find_50 (by decide) (fun c_50 => ?_) (fun c_50 => ?_)
        · replace hM := ob_pos c_50 hM
          refine lv_iconst (v := 1) hx hb dX1_find_63 (by decide) ?_
          refine lv_goto (tgt := 68) hx hb dX1_find_64 (by decide) ?_
          obtain ⟨q68, hv68, hM⟩ := ob_bind hM
          have hPc := hP.sub (ws' := [(e_a, .inr (1, [.int (q2 &&& (w_f ^^^ (-1))), .int r_ir, .ref e_cf_a])), (e_cf_a, .inl (cJ, 256, .inr (.inl e_cf_39)))]) [0, 1] rfl
          have hDc := hD.sub (ws' := [(e_a, .inr (1, [.int (q2 &&& (w_f ^^^ (-1))), .int r_ir, .ref e_cf_a])), (e_cf_a, .inl (cJ, 256, .inr (.inl e_cf_39)))]) [0, 1] (by decide) rfl
          have hFc := va_free (wc := [(e_a, .inr (1, [.int (q2 &&& (w_f ^^^ (-1))), .int r_ir, .ref e_cf_a])), (e_cf_a, .inl (cJ, 256, .inr (.inl e_cf_39)))]) hD hS hA [0, 1] rfl
          refine va_callv (va_runV (As := [.int v4_39, .int 1]) (rest := []) ⟨hx, hb, hml, hown, hts⟩ (c_X1_mark l dC dI cI cZ cJ cW (H.size) e_a e_cf_a (q2 &&& (w_f ^^^ (-1))) r_ir e_cf_39 v4_39 1 q68 hv68) (cwV 2 hts gX1_find_X1_mark rfl rfl rfl (by decide +kernel) ⟨Nat.le_of_ble_eq_true rfl, Nat.le_of_ble_eq_true rfl⟩) ⟨MP.blind, va_recv hK hP (ci := 1) (q0 := 0) rfl rfl, fun U hU hW => ⟨rfl, by rw [hU], by rw [hU]; exact hPc, va_K.moved hW.alike hK, hN.warm hW, hDc.weaken (fun _ _ _ _ => trivial)⟩⟩ rfl rfl hl.1 rfl (lv_room (Nat.le_of_ble_eq_true rfl)) dX1_find_68 ⟨Nat.le_of_ble_eq_true rfl, Nat.le_of_ble_eq_true rfl⟩) hS (fun q _ h => hFc q h) hFc (fun u t H1 locs ht hvm hw hB hz1 hk1 hS => ?_)
          obtain ⟨hP1, hD1⟩ := hB
          rw [ht] at hP1
          obtain ⟨hP, hD⟩ := va_join (wr := [(w_a, .inr (3, [.int w_t, .int w_k, .int w_f, .ref w_cs_a, .ref w_ds_a])), (w_cs_a, .inl (cI, 14, .inl w_cs)), (w_ds_a, .inl (cI, 14, .inl w_ds)), (r_a, .inr (0, [.int r_t, .ref r_rc_a, .int r_ir])), (r_rc_a, .inl (cI, 14, .inl r_rc))]) (w1 := [(e_a, .inr (1, [.int (q2 &&& (w_f ^^^ (-1))), .int r_ir, .ref e_cf_a])), (e_cf_a, .inl (cJ, 256, .inr (.inl q68)))]) hP hD [0, 1] [2, 3, 4, 5, 6] rfl rfl (by decide) (by decide) hk1 hFc hP1 hD1
          generalize H1 = H at hP hS ⊢
          have hP : va_P (dC, dI) vwCl [(w_a, .inr (3, [.int w_t, .int w_k, .int w_f, .ref w_cs_a, .ref w_ds_a])), (w_cs_a, .inl (cI, 14, .inl w_cs)), (w_ds_a, .inl (cI, 14, .inl w_ds)), (r_a, .inr (0, [.int r_t, .ref r_rc_a, .int r_ir])), (r_rc_a, .inl (cI, 14, .inl r_rc)), (e_a, .inr (1, [.int (q2 &&& (w_f ^^^ (-1))), .int r_ir, .ref e_cf_a])), (e_cf_a, .inl (cJ, 256, .inr (.inl q68)))] H := hP
          have hD : va_D A [(w_a, .inr (3, [.int w_t, .int w_k, .int w_f, .ref w_cs_a, .ref w_ds_a])), (w_cs_a, .inl (cI, 14, .inl w_cs)), (w_ds_a, .inl (cI, 14, .inl w_ds)), (r_a, .inr (0, [.int r_t, .ref r_rc_a, .int r_ir])), (r_rc_a, .inl (cI, 14, .inl r_rc)), (e_a, .inr (1, [.int (q2 &&& (w_f ^^^ (-1))), .int r_ir, .ref e_cf_a])), (e_cf_a, .inl (cJ, 256, .inr (.inl q68)))] := hD
          refine lv_iload hx hb dX1_find_71 (lv_at hl 1 rfl) ?_
          refine lv_aload_n hx hb dX1_find_73 rfl (lv_at hl 3 rfl) ?_
          refine va_get (D := (dC, dI)) (ci := 1) (v := .int r_ir) (C := RX1) (T := TX1) (N := 3) hx hb hts in_X1_find_1 hown hK hP 5 rfl rfl 1 (by decide) hf15 (fun _ h9 => h9) rfl dX1_find_74 ?_
          obtain ⟨q77, hv77, hM⟩ := ob_bind hM
          refine vp_callSi (va_Run.run (va_runS (As := [.int v4_39, .int r_ir]) (rest := []) ⟨hx, hb, hml, hown, hts⟩ (c_X1_nextSubset l dC dI cI cZ cJ cW v4_39 r_ir q77 hv77) (va_cwS 2 hts gX1_find_X1_nextSubset rfl rfl rfl (by decide +kernel) ⟨Nat.le_of_ble_eq_true rfl, Nat.le_of_ble_eq_true rfl⟩) ⟨TP.blind, fun U hU hW => ⟨rfl, trivial⟩⟩ rfl rfl hl.1 rfl (lv_room (Nat.le_of_ble_eq_true rfl)) dX1_find_77 ⟨Nat.le_of_ble_eq_true rfl, Nat.le_of_ble_eq_true rfl⟩)) (fun r hr => ?_)
          subst hr
          refine lv_istore (lv' := [(4, .int q77), (5, .int v5_39), (3, .int ((1 : Int32) <<< (q28 &&& 31))), (0, .ref e_a), (1, .ref w_a), (2, .ref r_a)]) hx hb dX1_find_80 hl (by decide) rfl (fun ls hl => ?_)
          refine lv_iinc (v := (v5_39 + 1)) (lv' := [(5, .int (v5_39 + 1)), (4, .int q77), (3, .int ((1 : Int32) <<< (q28 &&& 31))), (0, .ref e_a), (1, .ref w_a), (2, .ref r_a)]) hx hb dX1_find_82 hl (k := 1) rfl (by rfl) (by decide) rfl (fun ls hl => ?_)
          refine lv_goto (tgt := 39) hx hb dX1_find_85 (by decide) ?_
          exact ih39 (v5_39 + 1) q77 q68 _ _ _ hM (hP.sub [5, 6, 0, 1, 2, 3, 4] rfl) (hD.sub [5, 6, 0, 1, 2, 3, 4] (by decide) rfl) hS (lv_sub hl [0, 1, 2, 3, 4, 5] rfl)
        · replace hM := ob_neg c_50 hM
          refine lv_aload_n hx hb dX1_find_53 rfl (lv_at hl 3 rfl) ?_
          refine lv_aload_n hx hb dX1_find_54 rfl (lv_at hl 4 rfl) ?_
          refine lv_iload hx hb dX1_find_55 (lv_at hl 1 rfl) ?_
          obtain ⟨q57, hv57, hM⟩ := ob_bind hM
          refine vp_callSi (va_Run.run (va_runV (As := [.ref w_a, .int v4_39]) (rest := [.int v4_39, .ref e_a]) ⟨hx, hb, hml, hown, hts⟩ (c_X1_isFreeWithoutOne l dC dI cI cZ cJ cW e_a e_cf_a w_a w_cs_a w_ds_a (q2 &&& (w_f ^^^ (-1))) r_ir e_cf_39 w_t w_k w_f w_cs w_ds v4_39 q57 hv57) (cwV 2 hts gX1_find_X1_isFreeWithoutOne rfl rfl rfl (by decide +kernel) ⟨Nat.le_of_ble_eq_true rfl, Nat.le_of_ble_eq_true rfl⟩) ⟨RP.blind, va_recv hK hP (ci := 1) (q0 := 0) rfl rfl, fun U hU hW => ⟨rfl, by rw [hU]; exact hP.sub (ws' := [(e_a, .inr (1, [.int (q2 &&& (w_f ^^^ (-1))), .int r_ir, .ref e_cf_a])), (e_cf_a, .inl (cJ, 256, .inr (.inl e_cf_39))), (w_a, .inr (3, [.int w_t, .int w_k, .int w_f, .ref w_cs_a, .ref w_ds_a])), (w_cs_a, .inl (cI, 14, .inl w_cs)), (w_ds_a, .inl (cI, 14, .inl w_ds))]) [0, 1, 2, 3, 4] rfl, va_K.moved hW.alike hK, hN.warm hW⟩⟩ rfl rfl hl.1 rfl (lv_room (Nat.le_of_ble_eq_true rfl)) dX1_find_57 ⟨Nat.le_of_ble_eq_true rfl, Nat.le_of_ble_eq_true rfl⟩)) (fun r hr => ?_)
          subst hr
          refine lv_if_eq (tgt := 67) hx hb dX1_find_60 (by decide) (fun c_60 => ?_) (fun c_60 => ?_)
          · replace hM := ob_pos c_60 hM
            refine lv_iconst (v := 0) hx hb dX1_find_67 (by decide) ?_
            obtain ⟨q68, hv68, hM⟩ := ob_bind hM
            have hPc := hP.sub (ws' := [(e_a, .inr (1, [.int (q2 &&& (w_f ^^^ (-1))), .int r_ir, .ref e_cf_a])), (e_cf_a, .inl (cJ, 256, .inr (.inl e_cf_39)))]) [0, 1] rfl
            have hDc := hD.sub (ws' := [(e_a, .inr (1, [.int (q2 &&& (w_f ^^^ (-1))), .int r_ir, .ref e_cf_a])), (e_cf_a, .inl (cJ, 256, .inr (.inl e_cf_39)))]) [0, 1] (by decide) rfl
            have hFc := va_free (wc := [(e_a, .inr (1, [.int (q2 &&& (w_f ^^^ (-1))), .int r_ir, .ref e_cf_a])), (e_cf_a, .inl (cJ, 256, .inr (.inl e_cf_39)))]) hD hS hA [0, 1] rfl
            refine va_callv (va_runV (As := [.int v4_39, .int 0]) (rest := []) ⟨hx, hb, hml, hown, hts⟩ (c_X1_mark l dC dI cI cZ cJ cW (H.size) e_a e_cf_a (q2 &&& (w_f ^^^ (-1))) r_ir e_cf_39 v4_39 0 q68 hv68) (cwV 2 hts gX1_find_X1_mark rfl rfl rfl (by decide +kernel) ⟨Nat.le_of_ble_eq_true rfl, Nat.le_of_ble_eq_true rfl⟩) ⟨MP.blind, va_recv hK hP (ci := 1) (q0 := 0) rfl rfl, fun U hU hW => ⟨rfl, by rw [hU], by rw [hU]; exact hPc, va_K.moved hW.alike hK, hN.warm hW, hDc.weaken (fun _ _ _ _ => trivial)⟩⟩ rfl rfl hl.1 rfl (lv_room (Nat.le_of_ble_eq_true rfl)) dX1_find_68 ⟨Nat.le_of_ble_eq_true rfl, Nat.le_of_ble_eq_true rfl⟩) hS (fun q _ h => hFc q h) hFc (fun u t H1 locs ht hvm hw hB hz1 hk1 hS => ?_)
            obtain ⟨hP1, hD1⟩ := hB
            rw [ht] at hP1
            obtain ⟨hP, hD⟩ := va_join (wr := [(w_a, .inr (3, [.int w_t, .int w_k, .int w_f, .ref w_cs_a, .ref w_ds_a])), (w_cs_a, .inl (cI, 14, .inl w_cs)), (w_ds_a, .inl (cI, 14, .inl w_ds)), (r_a, .inr (0, [.int r_t, .ref r_rc_a, .int r_ir])), (r_rc_a, .inl (cI, 14, .inl r_rc))]) (w1 := [(e_a, .inr (1, [.int (q2 &&& (w_f ^^^ (-1))), .int r_ir, .ref e_cf_a])), (e_cf_a, .inl (cJ, 256, .inr (.inl q68)))]) hP hD [0, 1] [2, 3, 4, 5, 6] rfl rfl (by decide) (by decide) hk1 hFc hP1 hD1
            generalize H1 = H at hP hS ⊢
            have hP : va_P (dC, dI) vwCl [(w_a, .inr (3, [.int w_t, .int w_k, .int w_f, .ref w_cs_a, .ref w_ds_a])), (w_cs_a, .inl (cI, 14, .inl w_cs)), (w_ds_a, .inl (cI, 14, .inl w_ds)), (r_a, .inr (0, [.int r_t, .ref r_rc_a, .int r_ir])), (r_rc_a, .inl (cI, 14, .inl r_rc)), (e_a, .inr (1, [.int (q2 &&& (w_f ^^^ (-1))), .int r_ir, .ref e_cf_a])), (e_cf_a, .inl (cJ, 256, .inr (.inl q68)))] H := hP
            have hD : va_D A [(w_a, .inr (3, [.int w_t, .int w_k, .int w_f, .ref w_cs_a, .ref w_ds_a])), (w_cs_a, .inl (cI, 14, .inl w_cs)), (w_ds_a, .inl (cI, 14, .inl w_ds)), (r_a, .inr (0, [.int r_t, .ref r_rc_a, .int r_ir])), (r_rc_a, .inl (cI, 14, .inl r_rc)), (e_a, .inr (1, [.int (q2 &&& (w_f ^^^ (-1))), .int r_ir, .ref e_cf_a])), (e_cf_a, .inl (cJ, 256, .inr (.inl q68)))] := hD
            refine lv_iload hx hb dX1_find_71 (lv_at hl 1 rfl) ?_
            refine lv_aload_n hx hb dX1_find_73 rfl (lv_at hl 3 rfl) ?_
            refine va_get (D := (dC, dI)) (ci := 1) (v := .int r_ir) (C := RX1) (T := TX1) (N := 3) hx hb hts in_X1_find_1 hown hK hP 5 rfl rfl 1 (by decide) hf15 (fun _ h9 => h9) rfl dX1_find_74 ?_
            obtain ⟨q77, hv77, hM⟩ := ob_bind hM
            refine vp_callSi (va_Run.run (va_runS (As := [.int v4_39, .int r_ir]) (rest := []) ⟨hx, hb, hml, hown, hts⟩ (c_X1_nextSubset l dC dI cI cZ cJ cW v4_39 r_ir q77 hv77) (va_cwS 2 hts gX1_find_X1_nextSubset rfl rfl rfl (by decide +kernel) ⟨Nat.le_of_ble_eq_true rfl, Nat.le_of_ble_eq_true rfl⟩) ⟨TP.blind, fun U hU hW => ⟨rfl, trivial⟩⟩ rfl rfl hl.1 rfl (lv_room (Nat.le_of_ble_eq_true rfl)) dX1_find_77 ⟨Nat.le_of_ble_eq_true rfl, Nat.le_of_ble_eq_true rfl⟩)) (fun r hr => ?_)
            subst hr
            refine lv_istore (lv' := [(4, .int q77), (5, .int v5_39), (3, .int ((1 : Int32) <<< (q28 &&& 31))), (0, .ref e_a), (1, .ref w_a), (2, .ref r_a)]) hx hb dX1_find_80 hl (by decide) rfl (fun ls hl => ?_)
            refine lv_iinc (v := (v5_39 + 1)) (lv' := [(5, .int (v5_39 + 1)), (4, .int q77), (3, .int ((1 : Int32) <<< (q28 &&& 31))), (0, .ref e_a), (1, .ref w_a), (2, .ref r_a)]) hx hb dX1_find_82 hl (k := 1) rfl (by rfl) (by decide) rfl (fun ls hl => ?_)
            refine lv_goto (tgt := 39) hx hb dX1_find_85 (by decide) ?_
            exact ih39 (v5_39 + 1) q77 q68 _ _ _ hM (hP.sub [5, 6, 0, 1, 2, 3, 4] rfl) (hD.sub [5, 6, 0, 1, 2, 3, 4] (by decide) rfl) hS (lv_sub hl [0, 1, 2, 3, 4, 5] rfl)
          · replace hM := ob_neg c_60 hM
            refine lv_iconst (v := 1) hx hb dX1_find_63 (by decide) ?_
            refine lv_goto (tgt := 68) hx hb dX1_find_64 (by decide) ?_
            obtain ⟨q68, hv68, hM⟩ := ob_bind hM
            have hPc := hP.sub (ws' := [(e_a, .inr (1, [.int (q2 &&& (w_f ^^^ (-1))), .int r_ir, .ref e_cf_a])), (e_cf_a, .inl (cJ, 256, .inr (.inl e_cf_39)))]) [0, 1] rfl
            have hDc := hD.sub (ws' := [(e_a, .inr (1, [.int (q2 &&& (w_f ^^^ (-1))), .int r_ir, .ref e_cf_a])), (e_cf_a, .inl (cJ, 256, .inr (.inl e_cf_39)))]) [0, 1] (by decide) rfl
            have hFc := va_free (wc := [(e_a, .inr (1, [.int (q2 &&& (w_f ^^^ (-1))), .int r_ir, .ref e_cf_a])), (e_cf_a, .inl (cJ, 256, .inr (.inl e_cf_39)))]) hD hS hA [0, 1] rfl
            refine va_callv (va_runV (As := [.int v4_39, .int 1]) (rest := []) ⟨hx, hb, hml, hown, hts⟩ (c_X1_mark l dC dI cI cZ cJ cW (H.size) e_a e_cf_a (q2 &&& (w_f ^^^ (-1))) r_ir e_cf_39 v4_39 1 q68 hv68) (cwV 2 hts gX1_find_X1_mark rfl rfl rfl (by decide +kernel) ⟨Nat.le_of_ble_eq_true rfl, Nat.le_of_ble_eq_true rfl⟩) ⟨MP.blind, va_recv hK hP (ci := 1) (q0 := 0) rfl rfl, fun U hU hW => ⟨rfl, by rw [hU], by rw [hU]; exact hPc, va_K.moved hW.alike hK, hN.warm hW, hDc.weaken (fun _ _ _ _ => trivial)⟩⟩ rfl rfl hl.1 rfl (lv_room (Nat.le_of_ble_eq_true rfl)) dX1_find_68 ⟨Nat.le_of_ble_eq_true rfl, Nat.le_of_ble_eq_true rfl⟩) hS (fun q _ h => hFc q h) hFc (fun u t H1 locs ht hvm hw hB hz1 hk1 hS => ?_)
            obtain ⟨hP1, hD1⟩ := hB
            rw [ht] at hP1
            obtain ⟨hP, hD⟩ := va_join (wr := [(w_a, .inr (3, [.int w_t, .int w_k, .int w_f, .ref w_cs_a, .ref w_ds_a])), (w_cs_a, .inl (cI, 14, .inl w_cs)), (w_ds_a, .inl (cI, 14, .inl w_ds)), (r_a, .inr (0, [.int r_t, .ref r_rc_a, .int r_ir])), (r_rc_a, .inl (cI, 14, .inl r_rc))]) (w1 := [(e_a, .inr (1, [.int (q2 &&& (w_f ^^^ (-1))), .int r_ir, .ref e_cf_a])), (e_cf_a, .inl (cJ, 256, .inr (.inl q68)))]) hP hD [0, 1] [2, 3, 4, 5, 6] rfl rfl (by decide) (by decide) hk1 hFc hP1 hD1
            generalize H1 = H at hP hS ⊢
            have hP : va_P (dC, dI) vwCl [(w_a, .inr (3, [.int w_t, .int w_k, .int w_f, .ref w_cs_a, .ref w_ds_a])), (w_cs_a, .inl (cI, 14, .inl w_cs)), (w_ds_a, .inl (cI, 14, .inl w_ds)), (r_a, .inr (0, [.int r_t, .ref r_rc_a, .int r_ir])), (r_rc_a, .inl (cI, 14, .inl r_rc)), (e_a, .inr (1, [.int (q2 &&& (w_f ^^^ (-1))), .int r_ir, .ref e_cf_a])), (e_cf_a, .inl (cJ, 256, .inr (.inl q68)))] H := hP
            have hD : va_D A [(w_a, .inr (3, [.int w_t, .int w_k, .int w_f, .ref w_cs_a, .ref w_ds_a])), (w_cs_a, .inl (cI, 14, .inl w_cs)), (w_ds_a, .inl (cI, 14, .inl w_ds)), (r_a, .inr (0, [.int r_t, .ref r_rc_a, .int r_ir])), (r_rc_a, .inl (cI, 14, .inl r_rc)), (e_a, .inr (1, [.int (q2 &&& (w_f ^^^ (-1))), .int r_ir, .ref e_cf_a])), (e_cf_a, .inl (cJ, 256, .inr (.inl q68)))] := hD
            refine lv_iload hx hb dX1_find_71 (lv_at hl 1 rfl) ?_
            refine lv_aload_n hx hb dX1_find_73 rfl (lv_at hl 3 rfl) ?_
            refine va_get (D := (dC, dI)) (ci := 1) (v := .int r_ir) (C := RX1) (T := TX1) (N := 3) hx hb hts in_X1_find_1 hown hK hP 5 rfl rfl 1 (by decide) hf15 (fun _ h9 => h9) rfl dX1_find_74 ?_
            obtain ⟨q77, hv77, hM⟩ := ob_bind hM
            refine vp_callSi (va_Run.run (va_runS (As := [.int v4_39, .int r_ir]) (rest := []) ⟨hx, hb, hml, hown, hts⟩ (c_X1_nextSubset l dC dI cI cZ cJ cW v4_39 r_ir q77 hv77) (va_cwS 2 hts gX1_find_X1_nextSubset rfl rfl rfl (by decide +kernel) ⟨Nat.le_of_ble_eq_true rfl, Nat.le_of_ble_eq_true rfl⟩) ⟨TP.blind, fun U hU hW => ⟨rfl, trivial⟩⟩ rfl rfl hl.1 rfl (lv_room (Nat.le_of_ble_eq_true rfl)) dX1_find_77 ⟨Nat.le_of_ble_eq_true rfl, Nat.le_of_ble_eq_true rfl⟩)) (fun r hr => ?_)
            subst hr
            refine lv_istore (lv' := [(4, .int q77), (5, .int v5_39), (3, .int ((1 : Int32) <<< (q28 &&& 31))), (0, .ref e_a), (1, .ref w_a), (2, .ref r_a)]) hx hb dX1_find_80 hl (by decide) rfl (fun ls hl => ?_)
            refine lv_iinc (v := (v5_39 + 1)) (lv' := [(5, .int (v5_39 + 1)), (4, .int q77), (3, .int ((1 : Int32) <<< (q28 &&& 31))), (0, .ref e_a), (1, .ref w_a), (2, .ref r_a)]) hx hb dX1_find_82 hl (k := 1) rfl (by rfl) (by decide) rfl (fun ls hl => ?_)
            refine lv_goto (tgt := 39) hx hb dX1_find_85 (by decide) ?_
            exact ih39 (v5_39 + 1) q77 q68 _ _ _ hM (hP.sub [5, 6, 0, 1, 2, 3, 4] rfl) (hD.sub [5, 6, 0, 1, 2, 3, 4] (by decide) rfl) hS (lv_sub hl [0, 1, 2, 3, 4, 5] rfl)
  exact hL39 20000 0 0 e_cf _ _ _ hM hP hD hS (lv_sub hl [0, 1, 2, 3, 4, 5] rfl)
/-! X1_cheapest -/
abbrev rm_X1_cheapest : Room := { frames := 1, cells := 0, slots := 0, locals := 23 }
theorem in_X1_cheapest_1 : ∀ w ∈ u_ws RX1 TX1 3, w ∈ wsX1_cheapest := by decide +kernel
set_option maxHeartbeats 4000000 in
set_option maxRecDepth 100000 in
theorem c_X1_cheapest (l : Launch) (dC : Nat → ClassId) (dI : Nat → Nat → Nat) (cI cZ cJ cW : ClassId) (e_a e_cf_a w_a w_cs_a w_ds_a : Nat) (e_mu : Int32) (e_ma : Int32) (e_cf : Nat → Int64) (w_t : Int32) (w_k : Int32) (w_f : Int32) (w_cs : Nat → Int32) (w_ds : Nat → Int32) (p2 : Int32) (R : Int32) (hM : M_X1_cheapest w_t w_cs p2 e_mu e_ma e_cf = some R) : Met l yX1_cheapest wsX1_cheapest rm_X1_cheapest (va_Pc [.ref e_a, .ref w_a, .int p2] (RP (dC, dI) cI cZ cJ cW [(e_a, .inr (1, [.int e_mu, .int e_ma, .ref e_cf_a])), (e_cf_a, .inl (cJ, 256, .inr (.inl e_cf))), (w_a, .inr (3, [.int w_t, .int w_k, .int w_f, .ref w_cs_a, .ref w_ds_a])), (w_cs_a, .inl (cI, 14, .inl w_cs)), (w_ds_a, .inl (cI, 14, .inl w_ds))])) (vp_Si (fun r => R = r)) 0 0 (fun _ => False) := by
  refine Met.ofW (cc := cX1_cheapest) (maxL := 11) (ret := (some .int)) (by decide) rfl ?_
  intro p e s m args below meth c s₁ B hml hv
  obtain ⟨rfl, hP, hK, hN⟩ := hv
  have hx := B.exec
  have hb := B.bytes
  have hr := B.returns
  have hts := atoms_spec (ws := wsX1_cheapest) B.pre
  have hown : s.vm.findClass RX1 = some m.cls := findClass_of_methodNamed B.named
  have hlocks := B.notSynchronized
  have hf9 := hts (.fieldLink RX1 9 "WordGrounds$Tellings" "must" "I") (by decide +kernel)
  have hf15 := hts (.fieldLink RX1 15 "WordGrounds$Tellings" "may" "I") (by decide +kernel)
  have hl := lv_entry ([.ref e_a, .ref w_a, .int p2]) (n := 11) (Nat.le_of_ble_eq_true rfl)
  rw [lg_entry_eq]
  generalize (lg_sl ([.ref e_a, .ref w_a, .int p2]) ++ List.replicate (11 - (lg_sl ([.ref e_a, .ref w_a, .int p2])).length) Slot.unset).toArray = ls at hl ⊢
  have hl : lv_has ls 11 [(0, .ref e_a), (1, .ref w_a), (2, .int p2)] := hl
  have hM : ((M_X3_costOf w_t w_cs (e_ma &&& (p2 ^^^ (-1)))).bind (fun q15 => (M_J6_bitCount_0f7a4 (e_ma &&& (p2 ^^^ (-1)))).bind (fun q22 => L_X1_cheapest_34 w_t w_cs p2 e_ma e_cf q22 (fun (v8_34 : Int32) (v7_34 : Int32) (v5_34 : Int32) (v4_34 : Int32) => some (v4_34 ||| (e_mu &&& (p2 ^^^ (-1))))) 20000 0 0 q15 (e_ma &&& (p2 ^^^ (-1)))))) = some R := hM
  refine lv_aload_n hx hb dX1_cheapest_0 rfl (lv_at hl 0 rfl) ?_
  refine va_get (D := (dC, dI)) (ci := 1) (v := .int e_ma) (C := RX1) (T := TX1) (N := 3) hx hb hts in_X1_cheapest_1 hown hK hP 0 rfl rfl 1 (by decide) hf15 (fun _ h9 => h9) rfl dX1_cheapest_1 ?_
  refine lv_iload_n hx hb dX1_cheapest_4 rfl (lv_at hl 2 rfl) ?_
  refine lv_iconst (v := (-1)) hx hb dX1_cheapest_5 (by decide) ?_
  refine lv_ixor hx hb dX1_cheapest_6 ?_
  refine lv_iand hx hb dX1_cheapest_7 ?_
  refine lv_istore_n (lv' := [(3, .int (e_ma &&& (p2 ^^^ (-1)))), (0, .ref e_a), (1, .ref w_a), (2, .int p2)]) hx hb dX1_cheapest_8 rfl hl (by decide) rfl (fun ls hl => ?_)
  refine lv_iload_n hx hb dX1_cheapest_9 rfl (lv_at hl 0 rfl) ?_
  refine lv_istore (lv' := [(4, .int (e_ma &&& (p2 ^^^ (-1)))), (3, .int (e_ma &&& (p2 ^^^ (-1)))), (0, .ref e_a), (1, .ref w_a), (2, .int p2)]) hx hb dX1_cheapest_10 hl (by decide) rfl (fun ls hl => ?_)
  refine lv_aload_n hx hb dX1_cheapest_12 rfl (lv_at hl 3 rfl) ?_
  refine lv_iload hx hb dX1_cheapest_13 (lv_at hl 0 rfl) ?_
  obtain ⟨q15, hv15, hM⟩ := ob_bind hM
  refine vp_callSi (va_Run.run (va_runVN (As := [.int (e_ma &&& (p2 ^^^ (-1)))]) (rest := []) ⟨hx, hb, hml, hown, hts⟩ (c_X3_costOf l dC dI cI cZ cJ cW w_a w_cs_a w_ds_a w_t w_k w_f w_cs w_ds (e_ma &&& (p2 ^^^ (-1))) q15 hv15) ⟨va_cnB 1 hts gX1_cheapest_X3_costOf_n67 rfl rfl rfl (hN.1 (.methodLinkNest RX1 67 yX3_costOf "WordGrounds") (List.mem_of_getElem? (i := 36) rfl)) (hts (.initialized RX3) (by decide +kernel)) (by decide +kernel) ⟨Nat.le_of_ble_eq_true rfl, Nat.le_of_ble_eq_true rfl⟩, hts (.instanceMethod yX3_costOf) (by decide +kernel), hts (.selects RX3 yX3_costOf yX3_costOf) (by decide +kernel)⟩ ⟨RP.blind, va_recv hK hP (ci := 3) (q0 := 2) rfl rfl, fun U hU hW => ⟨rfl, by rw [hU]; exact hP.sub (ws' := [(w_a, .inr (3, [.int w_t, .int w_k, .int w_f, .ref w_cs_a, .ref w_ds_a])), (w_cs_a, .inl (cI, 14, .inl w_cs)), (w_ds_a, .inl (cI, 14, .inl w_ds))]) [2, 3, 4] rfl, va_K.moved hW.alike hK, hN.warm hW⟩⟩ rfl rfl hl.1 rfl (lv_room (Nat.le_of_ble_eq_true rfl)) dX1_cheapest_15 ⟨Nat.le_of_ble_eq_true rfl, Nat.le_of_ble_eq_true rfl⟩)) (fun r hr => ?_)
  subst hr
  refine lv_istore (lv' := [(5, .int q15), (4, .int (e_ma &&& (p2 ^^^ (-1)))), (3, .int (e_ma &&& (p2 ^^^ (-1)))), (0, .ref e_a), (1, .ref w_a), (2, .int p2)]) hx hb dX1_cheapest_18 hl (by decide) rfl (fun ls hl => ?_)
  refine lv_iconst (v := 1) hx hb dX1_cheapest_20 (by decide) ?_
  refine lv_iload_n hx hb dX1_cheapest_21 rfl (lv_at hl 2 rfl) ?_
  obtain ⟨q22, hv22, hM⟩ := ob_bind hM
  refine vp_callSi (va_Run.run (va_runS (As := [.int (e_ma &&& (p2 ^^^ (-1)))]) (rest := [.int 1]) ⟨hx, hb, hml, hown, hts⟩ (c_J6_bitCount_0f7a4 l dC dI cI cZ cJ cW (e_ma &&& (p2 ^^^ (-1))) q22 hv22) (va_cwS 1 hts gX1_cheapest_J6_bitCount_0f7a4 rfl rfl rfl (by decide +kernel) ⟨Nat.le_of_ble_eq_true rfl, Nat.le_of_ble_eq_true rfl⟩) ⟨TP.blind, fun U hU hW => ⟨rfl, trivial⟩⟩ rfl rfl hl.1 rfl (lv_room (Nat.le_of_ble_eq_true rfl)) dX1_cheapest_22 ⟨Nat.le_of_ble_eq_true rfl, Nat.le_of_ble_eq_true rfl⟩)) (fun r hr => ?_)
  subst hr
  refine lv_ishl hx hb dX1_cheapest_25 ?_
  refine lv_istore (lv' := [(6, .int ((1 : Int32) <<< (q22 &&& 31))), (5, .int q15), (4, .int (e_ma &&& (p2 ^^^ (-1)))), (3, .int (e_ma &&& (p2 ^^^ (-1)))), (0, .ref e_a), (1, .ref w_a), (2, .int p2)]) hx hb dX1_cheapest_26 hl (by decide) rfl (fun ls hl => ?_)
  refine lv_iconst (v := 0) hx hb dX1_cheapest_28 (by decide) ?_
  refine lv_istore (lv' := [(7, .int 0), (6, .int ((1 : Int32) <<< (q22 &&& 31))), (5, .int q15), (4, .int (e_ma &&& (p2 ^^^ (-1)))), (3, .int (e_ma &&& (p2 ^^^ (-1)))), (0, .ref e_a), (1, .ref w_a), (2, .int p2)]) hx hb dX1_cheapest_29 hl (by decide) rfl (fun ls hl => ?_)
  refine lv_iconst (v := 0) hx hb dX1_cheapest_31 (by decide) ?_
  refine lv_istore (lv' := [(8, .int 0), (7, .int 0), (6, .int ((1 : Int32) <<< (q22 &&& 31))), (5, .int q15), (4, .int (e_ma &&& (p2 ^^^ (-1)))), (3, .int (e_ma &&& (p2 ^^^ (-1)))), (0, .ref e_a), (1, .ref w_a), (2, .int p2)]) hx hb dX1_cheapest_32 hl (by decide) rfl (fun ls hl => ?_)
  obtain ⟨K34, hK34⟩ : ∃ K : Int32 → Int32 → Int32 → Int32 → Option (Int32), K = (fun (v8_34 : Int32) (v7_34 : Int32) (v5_34 : Int32) (v4_34 : Int32) => some (v4_34 ||| (e_mu &&& (p2 ^^^ (-1))))) := ⟨_, rfl⟩
  have hM : L_X1_cheapest_34 w_t w_cs p2 e_ma e_cf q22 K34 20000 0 0 q15 (e_ma &&& (p2 ^^^ (-1))) = some R := by rw [hK34]; exact hM
  have hL34 : ∀ (k34 : Nat) (v8_34 : Int32) (v7_34 : Int32) (v5_34 : Int32) (v4_34 : Int32) (ls : Array Slot), L_X1_cheapest_34 w_t w_cs p2 e_ma e_cf q22 K34 k34 v8_34 v7_34 v5_34 v4_34 = some R → lv_has ls 11 [(8, .int v8_34), (7, .int v7_34), (6, .int ((1 : Int32) <<< (q22 &&& 31))), (5, .int v5_34), (4, .int v4_34), (3, .int (e_ma &&& (p2 ^^^ (-1)))), (0, .ref e_a), (1, .ref w_a), (2, .int p2)] → W p l e rm_X1_cheapest s m ([.ref e_a, .ref w_a, .int p2] : List Value).toArray below meth c s.heap [] 0 0 (MQ below (vp_Si (fun r => R = r)) ([.ref e_a, .ref w_a, .int p2] : List Value).toArray s 0 0 (fun _ => False)) (F0 m 34 ls []) := by
    intro k34
    induction k34 with
    | zero => intro v8_34 v7_34 v5_34 v4_34 ls hM; exact (ob_none hM).elim
    | succ k34 ih34 =>
      intro v8_34 v7_34 v5_34 v4_34 ls hM hl
      have hM : (if ((1 : Int32) <<< (q22 &&& 31)) ≤ v8_34 then (K34 v8_34 v7_34 v5_34 v4_34) else ((M_X1_isFree ((e_ma &&& (p2 ^^^ (-1))) &&& (v7_34 ^^^ (-1))) e_cf).bind (fun q48 => if q48 = 0 then ((M_X1_nextSubset v7_34 (e_ma &&& (p2 ^^^ (-1)))).bind (fun q112 => L_X1_cheapest_34 w_t w_cs p2 e_ma e_cf q22 K34 k34 (v8_34 + 1) q112 v5_34 v4_34)) else ((M_X3_costOf w_t w_cs v7_34).bind (fun q57 => (M_J6_bitCount_0f7a4 v7_34).bind (fun q64 => (M_J6_bitCount_0f7a4 v4_34).bind (fun q69 => if q69 ≤ q64 then (if q57 < v5_34 then ((M_X1_nextSubset v7_34 (e_ma &&& (p2 ^^^ (-1)))).bind (fun q112 => L_X1_cheapest_34 w_t w_cs p2 e_ma e_cf q22 K34 k34 (v8_34 + 1) q112 q57 v7_34)) else (if q57 = v5_34 then ((M_X1_nextSubset v7_34 (e_ma &&& (p2 ^^^ (-1)))).bind (fun q112 => L_X1_cheapest_34 w_t w_cs p2 e_ma e_cf q22 K34 k34 (v8_34 + 1) q112 v5_34 v4_34)) else ((M_X1_nextSubset v7_34 (e_ma &&& (p2 ^^^ (-1)))).bind (fun q112 => L_X1_cheapest_34 w_t w_cs p2 e_ma e_cf q22 K34 k34 (v8_34 + 1) q112 v5_34 v4_34)))) else (if q57 < v5_34 then ((M_X1_nextSubset v7_34 (e_ma &&& (p2 ^^^ (-1)))).bind (fun q112 => L_X1_cheapest_34 w_t w_cs p2 e_ma e_cf q22 K34 k34 (v8_34 + 1) q112 q57 v7_34)) else (if q57 = v5_34 then ((M_X1_nextSubset v7_34 (e_ma &&& (p2 ^^^ (-1)))).bind (fun q112 => L_X1_cheapest_34 w_t w_cs p2 e_ma e_cf q22 K34 k34 (v8_34 + 1) q112 q57 v7_34)) else ((M_X1_nextSubset v7_34 (e_ma &&& (p2 ^^^ (-1)))).bind (fun q112 => L_X1_cheapest_34 w_t w_cs p2 e_ma e_cf q22 K34 k34 (v8_34 + 1) q112 v5_34 v4_34))))))))))) = some R := hM
      refine lv_iload hx hb dX1_cheapest_34 (lv_at hl 0 rfl) ?_
      refine lv_iload hx hb dX1_cheapest_36 (lv_at hl 2 rfl) ?_
      refine lv_icmp_ge (tgt := 123) hx hb dX1_cheapest_38 (by decide) (fun c_38 => ?_) (fun c_38 => ?_)
      · replace hM := ob_pos c_38 hM
        have hM : (some (v4_34 ||| (e_mu &&& (p2 ^^^ (-1))))) = some R := by rw [hK34] at hM; exact hM
        refine lv_iload hx hb dX1_cheapest_123 (lv_at hl 4 rfl) ?_
        refine lv_aload_n hx hb dX1_cheapest_125 rfl (lv_at hl 6 rfl) ?_
        refine va_get (D := (dC, dI)) (ci := 1) (v := .int e_mu) (C := RX1) (T := TX1) (N := 3) hx hb hts in_X1_cheapest_1 hown hK hP 0 rfl rfl 0 (by decide) hf9 (fun _ h9 => h9) rfl dX1_cheapest_126 ?_
        refine lv_iload_n hx hb dX1_cheapest_129 rfl (lv_at hl 8 rfl) ?_
        refine lv_iconst (v := (-1)) hx hb dX1_cheapest_130 (by decide) ?_
        refine lv_ixor hx hb dX1_cheapest_131 ?_
        refine lv_iand hx hb dX1_cheapest_132 ?_
        refine lv_ior hx hb dX1_cheapest_133 ?_
        exact W.iret (v := (v4_34 ||| (e_mu &&& (p2 ^^^ (-1))))) hx hb hr (fun t ht hW => ⟨_, rfl, (Option.some.inj hM).symm, ht⟩) (fun _ h => by cases h) dX1_cheapest_134
      · replace hM := ob_neg c_38 hM
        refine lv_aload_n hx hb dX1_cheapest_41 rfl (lv_at hl 6 rfl) ?_
        refine lv_iload_n hx hb dX1_cheapest_42 rfl (lv_at hl 5 rfl) ?_
        refine lv_iload hx hb dX1_cheapest_43 (lv_at hl 1 rfl) ?_
        refine lv_iconst (v := (-1)) hx hb dX1_cheapest_45 (by decide) ?_
        refine lv_ixor hx hb dX1_cheapest_46 ?_
        refine lv_iand hx hb dX1_cheapest_47 ?_
        obtain ⟨q48, hv48, hM⟩ := ob_bind hM
        refine vp_callSi (va_Run.run (va_runV (As := [.int ((e_ma &&& (p2 ^^^ (-1))) &&& (v7_34 ^^^ (-1)))]) (rest := []) ⟨hx, hb, hml, hown, hts⟩ (c_X1_isFree l dC dI cI cZ cJ cW e_a e_cf_a e_mu e_ma e_cf ((e_ma &&& (p2 ^^^ (-1))) &&& (v7_34 ^^^ (-1))) q48 hv48) (cwV 1 hts gX1_cheapest_X1_isFree rfl rfl rfl (by decide +kernel) ⟨Nat.le_of_ble_eq_true rfl, Nat.le_of_ble_eq_true rfl⟩) ⟨RP.blind, va_recv hK hP (ci := 1) (q0 := 0) rfl rfl, fun U hU hW => ⟨rfl, by rw [hU]; exact hP.sub (ws' := [(e_a, .inr (1, [.int e_mu, .int e_ma, .ref e_cf_a])), (e_cf_a, .inl (cJ, 256, .inr (.inl e_cf)))]) [0, 1] rfl, va_K.moved hW.alike hK, hN.warm hW⟩⟩ rfl rfl hl.1 rfl (lv_room (Nat.le_of_ble_eq_true rfl)) dX1_cheapest_48 ⟨Nat.le_of_ble_eq_true rfl, Nat.le_of_ble_eq_true rfl⟩)) (fun r hr => ?_)
        subst hr
        refine lv_if_eq (tgt := 109) hx hb dX1_cheapest_51 (by decide) (fun c_51 => ?_) (fun c_51 => ?_)
        · replace hM := ob_pos c_51 hM
          refine lv_iload hx hb dX1_cheapest_109 (lv_at hl 1 rfl) ?_
          refine lv_iload_n hx hb dX1_cheapest_111 rfl (lv_at hl 5 rfl) ?_
          obtain ⟨q112, hv112, hM⟩ := ob_bind hM
          refine vp_callSi (va_Run.run (va_runS (As := [.int v7_34, .int (e_ma &&& (p2 ^^^ (-1)))]) (rest := []) ⟨hx, hb, hml, hown, hts⟩ (c_X1_nextSubset l dC dI cI cZ cJ cW v7_34 (e_ma &&& (p2 ^^^ (-1))) q112 hv112) (va_cwS 2 hts gX1_cheapest_X1_nextSubset rfl rfl rfl (by decide +kernel) ⟨Nat.le_of_ble_eq_true rfl, Nat.le_of_ble_eq_true rfl⟩) ⟨TP.blind, fun U hU hW => ⟨rfl, trivial⟩⟩ rfl rfl hl.1 rfl (lv_room (Nat.le_of_ble_eq_true rfl)) dX1_cheapest_112 ⟨Nat.le_of_ble_eq_true rfl, Nat.le_of_ble_eq_true rfl⟩)) (fun r hr => ?_)
          subst hr
          refine lv_istore (lv' := [(7, .int q112), (8, .int v8_34), (6, .int ((1 : Int32) <<< (q22 &&& 31))), (5, .int v5_34), (4, .int v4_34), (3, .int (e_ma &&& (p2 ^^^ (-1)))), (0, .ref e_a), (1, .ref w_a), (2, .int p2)]) hx hb dX1_cheapest_115 hl (by decide) rfl (fun ls hl => ?_)
          refine lv_iinc (v := (v8_34 + 1)) (lv' := [(8, .int (v8_34 + 1)), (7, .int q112), (6, .int ((1 : Int32) <<< (q22 &&& 31))), (5, .int v5_34), (4, .int v4_34), (3, .int (e_ma &&& (p2 ^^^ (-1)))), (0, .ref e_a), (1, .ref w_a), (2, .int p2)]) hx hb dX1_cheapest_117 hl (k := 1) rfl (by rfl) (by decide) rfl (fun ls hl => ?_)
          refine lv_goto (tgt := 34) hx hb dX1_cheapest_120 (by decide) ?_
          exact ih34 (v8_34 + 1) q112 v5_34 v4_34 _ hM (lv_sub hl [0, 1, 2, 3, 4, 5, 6, 7, 8] rfl)
        · replace hM := ob_neg c_51 hM
          refine lv_aload_n hx hb dX1_cheapest_54 rfl (lv_at hl 7 rfl) ?_
          refine lv_iload hx hb dX1_cheapest_55 (lv_at hl 1 rfl) ?_
          obtain ⟨q57, hv57, hM⟩ := ob_bind hM
          refine vp_callSi (va_Run.run (va_runVN (As := [.int v7_34]) (rest := []) ⟨hx, hb, hml, hown, hts⟩ (c_X3_costOf l dC dI cI cZ cJ cW w_a w_cs_a w_ds_a w_t w_k w_f w_cs w_ds v7_34 q57 hv57) ⟨va_cnB 1 hts gX1_cheapest_X3_costOf_n67 rfl rfl rfl (hN.1 (.methodLinkNest RX1 67 yX3_costOf "WordGrounds") (List.mem_of_getElem? (i := 36) rfl)) (hts (.initialized RX3) (by decide +kernel)) (by decide +kernel) ⟨Nat.le_of_ble_eq_true rfl, Nat.le_of_ble_eq_true rfl⟩, hts (.instanceMethod yX3_costOf) (by decide +kernel), hts (.selects RX3 yX3_costOf yX3_costOf) (by decide +kernel)⟩ ⟨RP.blind, va_recv hK hP (ci := 3) (q0 := 2) rfl rfl, fun U hU hW => ⟨rfl, by rw [hU]; exact hP.sub (ws' := [(w_a, .inr (3, [.int w_t, .int w_k, .int w_f, .ref w_cs_a, .ref w_ds_a])), (w_cs_a, .inl (cI, 14, .inl w_cs)), (w_ds_a, .inl (cI, 14, .inl w_ds))]) [2, 3, 4] rfl, va_K.moved hW.alike hK, hN.warm hW⟩⟩ rfl rfl hl.1 rfl (lv_room (Nat.le_of_ble_eq_true rfl)) dX1_cheapest_57 ⟨Nat.le_of_ble_eq_true rfl, Nat.le_of_ble_eq_true rfl⟩)) (fun r hr => ?_)
          subst hr
          refine lv_istore (lv' := [(9, .int q57), (8, .int v8_34), (7, .int v7_34), (6, .int ((1 : Int32) <<< (q22 &&& 31))), (5, .int v5_34), (4, .int v4_34), (3, .int (e_ma &&& (p2 ^^^ (-1)))), (0, .ref e_a), (1, .ref w_a), (2, .int p2)]) hx hb dX1_cheapest_60 hl (by decide) rfl (fun ls hl => ?_)
          refine lv_iload hx hb dX1_cheapest_62 (lv_at hl 2 rfl) ?_
          obtain ⟨q64, hv64, hM⟩ := ob_bind hM
          refine vp_callSi (va_Run.run (va_runS (As := [.int v7_34]) (rest := []) ⟨hx, hb, hml, hown, hts⟩ (c_J6_bitCount_0f7a4 l dC dI cI cZ cJ cW v7_34 q64 hv64) (va_cwS 1 hts gX1_cheapest_J6_bitCount_0f7a4 rfl rfl rfl (by decide +kernel) ⟨Nat.le_of_ble_eq_true rfl, Nat.le_of_ble_eq_true rfl⟩) ⟨TP.blind, fun U hU hW => ⟨rfl, trivial⟩⟩ rfl rfl hl.1 rfl (lv_room (Nat.le_of_ble_eq_true rfl)) dX1_cheapest_64 ⟨Nat.le_of_ble_eq_true rfl, Nat.le_of_ble_eq_true rfl⟩)) (fun r hr => ?_)
          subst hr
          refine lv_iload hx hb dX1_cheapest_67 (lv_at hl 5 rfl) ?_
          obtain ⟨q69, hv69, hM⟩ := ob_bind hM
          refine vp_callSi (va_Run.run (va_runS (As := [.int v4_34]) (rest := [.int q64]) ⟨hx, hb, hml, hown, hts⟩ (c_J6_bitCount_0f7a4 l dC dI cI cZ cJ cW v4_34 q69 hv69) (va_cwS 1 hts gX1_cheapest_J6_bitCount_0f7a4 rfl rfl rfl (by decide +kernel) ⟨Nat.le_of_ble_eq_true rfl, Nat.le_of_ble_eq_true rfl⟩) ⟨TP.blind, fun U hU hW => ⟨rfl, trivial⟩⟩ rfl rfl hl.1 rfl (lv_room (Nat.le_of_ble_eq_true rfl)) dX1_cheapest_69 ⟨Nat.le_of_ble_eq_true rfl, Nat.le_of_ble_eq_true rfl⟩)) (fun r hr => ?_)
          subst hr
          refine lv_icmp_ge (tgt := 79) hx hb dX1_cheapest_72 (by decide) (fun c_72 => ?_) (fun c_72 => ?_)
          · replace hM := ob_pos c_72 hM
            refine lv_iconst (v := 0) hx hb dX1_cheapest_79 (by decide) ?_
            refine lv_istore (lv' := [(10, .int 0), (9, .int q57), (8, .int v8_34), (7, .int v7_34), (6, .int ((1 : Int32) <<< (q22 &&& 31))), (5, .int v5_34), (4, .int v4_34), (3, .int (e_ma &&& (p2 ^^^ (-1)))), (0, .ref e_a), (1, .ref w_a), (2, .int p2)]) hx hb dX1_cheapest_80 hl (by decide) rfl (fun ls hl => ?_)
            refine lv_iload hx hb dX1_cheapest_82 (lv_at hl 1 rfl) ?_
            refine lv_iload hx hb dX1_cheapest_84 (lv_at hl 5 rfl) ?_
            refine lv_icmp_lt (tgt := 101) hx hb dX1_cheapest_86 (by decide) (fun c_86 => ?_) (fun c_86 => ?_)
            · replace hM := ob_pos c_86 hM
              refine lv_iload hx hb dX1_cheapest_101 (lv_at hl 3 rfl) ?_
              refine lv_istore (lv' := [(4, .int v7_34), (10, .int 0), (9, .int q57), (8, .int v8_34), (7, .int v7_34), (6, .int ((1 : Int32) <<< (q22 &&& 31))), (5, .int v5_34), (3, .int (e_ma &&& (p2 ^^^ (-1)))), (0, .ref e_a), (1, .ref w_a), (2, .int p2)]) hx hb dX1_cheapest_103 hl (by decide) rfl (fun ls hl => ?_)
              refine lv_iload hx hb dX1_cheapest_105 (lv_at hl 2 rfl) ?_
              refine lv_istore (lv' := [(5, .int q57), (4, .int v7_34), (10, .int 0), (9, .int q57), (8, .int v8_34), (7, .int v7_34), (6, .int ((1 : Int32) <<< (q22 &&& 31))), (3, .int (e_ma &&& (p2 ^^^ (-1)))), (0, .ref e_a), (1, .ref w_a), (2, .int p2)]) hx hb dX1_cheapest_107 hl (by decide) rfl (fun ls hl => ?_)
              refine lv_iload hx hb dX1_cheapest_109 (lv_at hl 5 rfl) ?_
              refine lv_iload_n hx hb dX1_cheapest_111 rfl (lv_at hl 7 rfl) ?_
              obtain ⟨q112, hv112, hM⟩ := ob_bind hM
              refine vp_callSi (va_Run.run (va_runS (As := [.int v7_34, .int (e_ma &&& (p2 ^^^ (-1)))]) (rest := []) ⟨hx, hb, hml, hown, hts⟩ (c_X1_nextSubset l dC dI cI cZ cJ cW v7_34 (e_ma &&& (p2 ^^^ (-1))) q112 hv112) (va_cwS 2 hts gX1_cheapest_X1_nextSubset rfl rfl rfl (by decide +kernel) ⟨Nat.le_of_ble_eq_true rfl, Nat.le_of_ble_eq_true rfl⟩) ⟨TP.blind, fun U hU hW => ⟨rfl, trivial⟩⟩ rfl rfl hl.1 rfl (lv_room (Nat.le_of_ble_eq_true rfl)) dX1_cheapest_112 ⟨Nat.le_of_ble_eq_true rfl, Nat.le_of_ble_eq_true rfl⟩)) (fun r hr => ?_)
              subst hr
              refine lv_istore (lv' := [(7, .int q112), (5, .int q57), (4, .int v7_34), (10, .int 0), (9, .int q57), (8, .int v8_34), (6, .int ((1 : Int32) <<< (q22 &&& 31))), (3, .int (e_ma &&& (p2 ^^^ (-1)))), (0, .ref e_a), (1, .ref w_a), (2, .int p2)]) hx hb dX1_cheapest_115 hl (by decide) rfl (fun ls hl => ?_)
              refine lv_iinc (v := (v8_34 + 1)) (lv' := [(8, .int (v8_34 + 1)), (7, .int q112), (5, .int q57), (4, .int v7_34), (10, .int 0), (9, .int q57), (6, .int ((1 : Int32) <<< (q22 &&& 31))), (3, .int (e_ma &&& (p2 ^^^ (-1)))), (0, .ref e_a), (1, .ref w_a), (2, .int p2)]) hx hb dX1_cheapest_117 hl (k := 5) rfl (by rfl) (by decide) rfl (fun ls hl => ?_)
              refine lv_goto (tgt := 34) hx hb dX1_cheapest_120 (by decide) ?_
              exact ih34 (v8_34 + 1) q112 q57 v7_34 _ hM (lv_sub hl [0, 1, 6, 2, 3, 7, 8, 9, 10] rfl)
            · replace hM := ob_neg c_86 hM
              refine lv_iload hx hb dX1_cheapest_89 (lv_at hl 1 rfl) ?_
              refine lv_iload hx hb dX1_cheapest_91 (lv_at hl 5 rfl) ?_
              refine lv_icmp_ne (tgt := 109) hx hb dX1_cheapest_93 (by decide) (fun c_93 => ?_) (fun c_93 => ?_)
              · replace hM := ob_neg c_93 hM
                refine lv_iload hx hb dX1_cheapest_109 (lv_at hl 3 rfl) ?_
                refine lv_iload_n hx hb dX1_cheapest_111 rfl (lv_at hl 7 rfl) ?_
                obtain ⟨q112, hv112, hM⟩ := ob_bind hM
                refine vp_callSi (va_Run.run (va_runS (As := [.int v7_34, .int (e_ma &&& (p2 ^^^ (-1)))]) (rest := []) ⟨hx, hb, hml, hown, hts⟩ (c_X1_nextSubset l dC dI cI cZ cJ cW v7_34 (e_ma &&& (p2 ^^^ (-1))) q112 hv112) (va_cwS 2 hts gX1_cheapest_X1_nextSubset rfl rfl rfl (by decide +kernel) ⟨Nat.le_of_ble_eq_true rfl, Nat.le_of_ble_eq_true rfl⟩) ⟨TP.blind, fun U hU hW => ⟨rfl, trivial⟩⟩ rfl rfl hl.1 rfl (lv_room (Nat.le_of_ble_eq_true rfl)) dX1_cheapest_112 ⟨Nat.le_of_ble_eq_true rfl, Nat.le_of_ble_eq_true rfl⟩)) (fun r hr => ?_)
                subst hr
                refine lv_istore (lv' := [(7, .int q112), (10, .int 0), (9, .int q57), (8, .int v8_34), (6, .int ((1 : Int32) <<< (q22 &&& 31))), (5, .int v5_34), (4, .int v4_34), (3, .int (e_ma &&& (p2 ^^^ (-1)))), (0, .ref e_a), (1, .ref w_a), (2, .int p2)]) hx hb dX1_cheapest_115 hl (by decide) rfl (fun ls hl => ?_)
                refine lv_iinc (v := (v8_34 + 1)) (lv' := [(8, .int (v8_34 + 1)), (7, .int q112), (10, .int 0), (9, .int q57), (6, .int ((1 : Int32) <<< (q22 &&& 31))), (5, .int v5_34), (4, .int v4_34), (3, .int (e_ma &&& (p2 ^^^ (-1)))), (0, .ref e_a), (1, .ref w_a), (2, .int p2)]) hx hb dX1_cheapest_117 hl (k := 3) rfl (by rfl) (by decide) rfl (fun ls hl => ?_)
                refine lv_goto (tgt := 34) hx hb dX1_cheapest_120 (by decide) ?_
                exact ih34 (v8_34 + 1) q112 v5_34 v4_34 _ hM (lv_sub hl [0, 1, 4, 5, 6, 7, 8, 9, 10] rfl)
              · replace hM := ob_pos c_93 hM
                refine lv_iload hx hb dX1_cheapest_96 (lv_at hl 0 rfl) ?_
                refine lv_if_eq (tgt := 109) hx hb dX1_cheapest_98 (by decide) (fun _ => ?_) (fun c_98 => absurd (show _ from by decide) c_98)
                refine lv_iload hx hb dX1_cheapest_109 (lv_at hl 3 rfl) ?_
                refine lv_iload_n hx hb dX1_cheapest_111 rfl (lv_at hl 7 rfl) ?_
                obtain ⟨q112, hv112, hM⟩ := ob_bind hM
                refine vp_callSi (va_Run.run (va_runS (As := [.int v7_34, .int (e_ma &&& (p2 ^^^ (-1)))]) (rest := []) ⟨hx, hb, hml, hown, hts⟩ (c_X1_nextSubset l dC dI cI cZ cJ cW v7_34 (e_ma &&& (p2 ^^^ (-1))) q112 hv112) (va_cwS 2 hts gX1_cheapest_X1_nextSubset rfl rfl rfl (by decide +kernel) ⟨Nat.le_of_ble_eq_true rfl, Nat.le_of_ble_eq_true rfl⟩) ⟨TP.blind, fun U hU hW => ⟨rfl, trivial⟩⟩ rfl rfl hl.1 rfl (lv_room (Nat.le_of_ble_eq_true rfl)) dX1_cheapest_112 ⟨Nat.le_of_ble_eq_true rfl, Nat.le_of_ble_eq_true rfl⟩)) (fun r hr => ?_)
                subst hr
                refine lv_istore (lv' := [(7, .int q112), (10, .int 0), (9, .int q57), (8, .int v8_34), (6, .int ((1 : Int32) <<< (q22 &&& 31))), (5, .int v5_34), (4, .int v4_34), (3, .int (e_ma &&& (p2 ^^^ (-1)))), (0, .ref e_a), (1, .ref w_a), (2, .int p2)]) hx hb dX1_cheapest_115 hl (by decide) rfl (fun ls hl => ?_)
                refine lv_iinc (v := (v8_34 + 1)) (lv' := [(8, .int (v8_34 + 1)), (7, .int q112), (10, .int 0), (9, .int q57), (6, .int ((1 : Int32) <<< (q22 &&& 31))), (5, .int v5_34), (4, .int v4_34), (3, .int (e_ma &&& (p2 ^^^ (-1)))), (0, .ref e_a), (1, .ref w_a), (2, .int p2)]) hx hb dX1_cheapest_117 hl (k := 3) rfl (by rfl) (by decide) rfl (fun ls hl => ?_)
                refine lv_goto (tgt := 34) hx hb dX1_cheapest_120 (by decide) ?_
                exact ih34 (v8_34 + 1) q112 v5_34 v4_34 _ hM (lv_sub hl [0, 1, 4, 5, 6, 7, 8, 9, 10] rfl)
          · replace hM := ob_neg c_72 hM
            refine lv_iconst (v := 1) hx hb dX1_cheapest_75 (by decide) ?_
            refine lv_goto (tgt := 80) hx hb dX1_cheapest_76 (by decide) ?_
            refine lv_istore (lv' := [(10, .int 1), (9, .int q57), (8, .int v8_34), (7, .int v7_34), (6, .int ((1 : Int32) <<< (q22 &&& 31))), (5, .int v5_34), (4, .int v4_34), (3, .int (e_ma &&& (p2 ^^^ (-1)))), (0, .ref e_a), (1, .ref w_a), (2, .int p2)]) hx hb dX1_cheapest_80 hl (by decide) rfl (fun ls hl => ?_)
            refine lv_iload hx hb dX1_cheapest_82 (lv_at hl 1 rfl) ?_
            refine lv_iload hx hb dX1_cheapest_84 (lv_at hl 5 rfl) ?_
            refine lv_icmp_lt (tgt := 101) hx hb dX1_cheapest_86 (by decide) (fun c_86 => ?_) (fun c_86 => ?_)
            · replace hM := ob_pos c_86 hM
              refine lv_iload hx hb dX1_cheapest_101 (lv_at hl 3 rfl) ?_
              refine lv_istore (lv' := [(4, .int v7_34), (10, .int 1), (9, .int q57), (8, .int v8_34), (7, .int v7_34), (6, .int ((1 : Int32) <<< (q22 &&& 31))), (5, .int v5_34), (3, .int (e_ma &&& (p2 ^^^ (-1)))), (0, .ref e_a), (1, .ref w_a), (2, .int p2)]) hx hb dX1_cheapest_103 hl (by decide) rfl (fun ls hl => ?_)
              refine lv_iload hx hb dX1_cheapest_105 (lv_at hl 2 rfl) ?_
              refine lv_istore (lv' := [(5, .int q57), (4, .int v7_34), (10, .int 1), (9, .int q57), (8, .int v8_34), (7, .int v7_34), (6, .int ((1 : Int32) <<< (q22 &&& 31))), (3, .int (e_ma &&& (p2 ^^^ (-1)))), (0, .ref e_a), (1, .ref w_a), (2, .int p2)]) hx hb dX1_cheapest_107 hl (by decide) rfl (fun ls hl => ?_)
              refine lv_iload hx hb dX1_cheapest_109 (lv_at hl 5 rfl) ?_
              refine lv_iload_n hx hb dX1_cheapest_111 rfl (lv_at hl 7 rfl) ?_
              obtain ⟨q112, hv112, hM⟩ := ob_bind hM
              refine vp_callSi (va_Run.run (va_runS (As := [.int v7_34, .int (e_ma &&& (p2 ^^^ (-1)))]) (rest := []) ⟨hx, hb, hml, hown, hts⟩ (c_X1_nextSubset l dC dI cI cZ cJ cW v7_34 (e_ma &&& (p2 ^^^ (-1))) q112 hv112) (va_cwS 2 hts gX1_cheapest_X1_nextSubset rfl rfl rfl (by decide +kernel) ⟨Nat.le_of_ble_eq_true rfl, Nat.le_of_ble_eq_true rfl⟩) ⟨TP.blind, fun U hU hW => ⟨rfl, trivial⟩⟩ rfl rfl hl.1 rfl (lv_room (Nat.le_of_ble_eq_true rfl)) dX1_cheapest_112 ⟨Nat.le_of_ble_eq_true rfl, Nat.le_of_ble_eq_true rfl⟩)) (fun r hr => ?_)
              subst hr
              refine lv_istore (lv' := [(7, .int q112), (5, .int q57), (4, .int v7_34), (10, .int 1), (9, .int q57), (8, .int v8_34), (6, .int ((1 : Int32) <<< (q22 &&& 31))), (3, .int (e_ma &&& (p2 ^^^ (-1)))), (0, .ref e_a), (1, .ref w_a), (2, .int p2)]) hx hb dX1_cheapest_115 hl (by decide) rfl (fun ls hl => ?_)
              refine lv_iinc (v := (v8_34 + 1)) (lv' := [(8, .int (v8_34 + 1)), (7, .int q112), (5, .int q57), (4, .int v7_34), (10, .int 1), (9, .int q57), (6, .int ((1 : Int32) <<< (q22 &&& 31))), (3, .int (e_ma &&& (p2 ^^^ (-1)))), (0, .ref e_a), (1, .ref w_a), (2, .int p2)]) hx hb dX1_cheapest_117 hl (k := 5) rfl (by rfl) (by decide) rfl (fun ls hl => ?_)
              refine lv_goto (tgt := 34) hx hb dX1_cheapest_120 (by decide) ?_
              exact ih34 (v8_34 + 1) q112 q57 v7_34 _ hM (lv_sub hl [0, 1, 6, 2, 3, 7, 8, 9, 10] rfl)
            · replace hM := ob_neg c_86 hM
              refine lv_iload hx hb dX1_cheapest_89 (lv_at hl 1 rfl) ?_
              refine lv_iload hx hb dX1_cheapest_91 (lv_at hl 5 rfl) ?_
              refine lv_icmp_ne (tgt := 109) hx hb dX1_cheapest_93 (by decide) (fun c_93 => ?_) (fun c_93 => ?_)
              · replace hM := ob_neg c_93 hM
                refine lv_iload hx hb dX1_cheapest_109 (lv_at hl 3 rfl) ?_
                refine lv_iload_n hx hb dX1_cheapest_111 rfl (lv_at hl 7 rfl) ?_
                obtain ⟨q112, hv112, hM⟩ := ob_bind hM
                refine vp_callSi (va_Run.run (va_runS (As := [.int v7_34, .int (e_ma &&& (p2 ^^^ (-1)))]) (rest := []) ⟨hx, hb, hml, hown, hts⟩ (c_X1_nextSubset l dC dI cI cZ cJ cW v7_34 (e_ma &&& (p2 ^^^ (-1))) q112 hv112) (va_cwS 2 hts gX1_cheapest_X1_nextSubset rfl rfl rfl (by decide +kernel) ⟨Nat.le_of_ble_eq_true rfl, Nat.le_of_ble_eq_true rfl⟩) ⟨TP.blind, fun U hU hW => ⟨rfl, trivial⟩⟩ rfl rfl hl.1 rfl (lv_room (Nat.le_of_ble_eq_true rfl)) dX1_cheapest_112 ⟨Nat.le_of_ble_eq_true rfl, Nat.le_of_ble_eq_true rfl⟩)) (fun r hr => ?_)
                subst hr
                refine lv_istore (lv' := [(7, .int q112), (10, .int 1), (9, .int q57), (8, .int v8_34), (6, .int ((1 : Int32) <<< (q22 &&& 31))), (5, .int v5_34), (4, .int v4_34), (3, .int (e_ma &&& (p2 ^^^ (-1)))), (0, .ref e_a), (1, .ref w_a), (2, .int p2)]) hx hb dX1_cheapest_115 hl (by decide) rfl (fun ls hl => ?_)
                refine lv_iinc (v := (v8_34 + 1)) (lv' := [(8, .int (v8_34 + 1)), (7, .int q112), (10, .int 1), (9, .int q57), (6, .int ((1 : Int32) <<< (q22 &&& 31))), (5, .int v5_34), (4, .int v4_34), (3, .int (e_ma &&& (p2 ^^^ (-1)))), (0, .ref e_a), (1, .ref w_a), (2, .int p2)]) hx hb dX1_cheapest_117 hl (k := 3) rfl (by rfl) (by decide) rfl (fun ls hl => ?_)
                refine lv_goto (tgt := 34) hx hb dX1_cheapest_120 (by decide) ?_
                exact ih34 (v8_34 + 1) q112 v5_34 v4_34 _ hM (lv_sub hl [0, 1, 4, 5, 6, 7, 8, 9, 10] rfl)
              · replace hM := ob_pos c_93 hM
                refine lv_iload hx hb dX1_cheapest_96 (lv_at hl 0 rfl) ?_
                refine lv_if_eq (tgt := 109) hx hb dX1_cheapest_98 (by decide) (fun c_98 => absurd c_98 (by decide)) (fun _ => ?_)
                refine lv_iload hx hb dX1_cheapest_101 (lv_at hl 3 rfl) ?_
                refine lv_istore (lv' := [(4, .int v7_34), (10, .int 1), (9, .int q57), (8, .int v8_34), (7, .int v7_34), (6, .int ((1 : Int32) <<< (q22 &&& 31))), (5, .int v5_34), (3, .int (e_ma &&& (p2 ^^^ (-1)))), (0, .ref e_a), (1, .ref w_a), (2, .int p2)]) hx hb dX1_cheapest_103 hl (by decide) rfl (fun ls hl => ?_)
                refine lv_iload hx hb dX1_cheapest_105 (lv_at hl 2 rfl) ?_
                refine lv_istore (lv' := [(5, .int q57), (4, .int v7_34), (10, .int 1), (9, .int q57), (8, .int v8_34), (7, .int v7_34), (6, .int ((1 : Int32) <<< (q22 &&& 31))), (3, .int (e_ma &&& (p2 ^^^ (-1)))), (0, .ref e_a), (1, .ref w_a), (2, .int p2)]) hx hb dX1_cheapest_107 hl (by decide) rfl (fun ls hl => ?_)
                refine lv_iload hx hb dX1_cheapest_109 (lv_at hl 5 rfl) ?_
                refine lv_iload_n hx hb dX1_cheapest_111 rfl (lv_at hl 7 rfl) ?_
                obtain ⟨q112, hv112, hM⟩ := ob_bind hM
                refine vp_callSi (va_Run.run (va_runS (As := [.int v7_34, .int (e_ma &&& (p2 ^^^ (-1)))]) (rest := []) ⟨hx, hb, hml, hown, hts⟩ (c_X1_nextSubset l dC dI cI cZ cJ cW v7_34 (e_ma &&& (p2 ^^^ (-1))) q112 hv112) (va_cwS 2 hts gX1_cheapest_X1_nextSubset rfl rfl rfl (by decide +kernel) ⟨Nat.le_of_ble_eq_true rfl, Nat.le_of_ble_eq_true rfl⟩) ⟨TP.blind, fun U hU hW => ⟨rfl, trivial⟩⟩ rfl rfl hl.1 rfl (lv_room (Nat.le_of_ble_eq_true rfl)) dX1_cheapest_112 ⟨Nat.le_of_ble_eq_true rfl, Nat.le_of_ble_eq_true rfl⟩)) (fun r hr => ?_)
                subst hr
                refine lv_istore (lv' := [(7, .int q112), (5, .int q57), (4, .int v7_34), (10, .int 1), (9, .int q57), (8, .int v8_34), (6, .int ((1 : Int32) <<< (q22 &&& 31))), (3, .int (e_ma &&& (p2 ^^^ (-1)))), (0, .ref e_a), (1, .ref w_a), (2, .int p2)]) hx hb dX1_cheapest_115 hl (by decide) rfl (fun ls hl => ?_)
                refine lv_iinc (v := (v8_34 + 1)) (lv' := [(8, .int (v8_34 + 1)), (7, .int q112), (5, .int q57), (4, .int v7_34), (10, .int 1), (9, .int q57), (6, .int ((1 : Int32) <<< (q22 &&& 31))), (3, .int (e_ma &&& (p2 ^^^ (-1)))), (0, .ref e_a), (1, .ref w_a), (2, .int p2)]) hx hb dX1_cheapest_117 hl (k := 5) rfl (by rfl) (by decide) rfl (fun ls hl => ?_)
                refine lv_goto (tgt := 34) hx hb dX1_cheapest_120 (by decide) ?_
                exact ih34 (v8_34 + 1) q112 q57 v7_34 _ hM (lv_sub hl [0, 1, 6, 2, 3, 7, 8, 9, 10] rfl)
  exact hL34 20000 0 0 q15 (e_ma &&& (p2 ^^^ (-1))) _ hM (lv_sub hl [0, 1, 2, 3, 4, 5, 6, 7, 8] rfl)
/-! X1_isLeast -/
abbrev rm_X1_isLeast : Room := { frames := 1, cells := 0, slots := 0, locals := 22 }
theorem in_X1_isLeast_1 : ∀ w ∈ u_ws RX1 TX1 3, w ∈ wsX1_isLeast := by decide +kernel
set_option maxHeartbeats 4000000 in
set_option maxRecDepth 100000 in
theorem c_X1_isLeast (l : Launch) (dC : Nat → ClassId) (dI : Nat → Nat → Nat) (cI cZ cJ cW : ClassId) (e_a e_cf_a : Nat) (e_mu : Int32) (e_ma : Int32) (e_cf : Nat → Int64) (p1 : Int32) (R : Int32) (hM : M_X1_isLeast p1 e_ma e_cf = some R) : Met l yX1_isLeast wsX1_isLeast rm_X1_isLeast (va_Pc [.ref e_a, .int p1] (RP (dC, dI) cI cZ cJ cW [(e_a, .inr (1, [.int e_mu, .int e_ma, .ref e_cf_a])), (e_cf_a, .inl (cJ, 256, .inr (.inl e_cf)))])) (vp_Si (fun r => R = r)) 0 0 (fun _ => False) := by
  refine Met.ofW (cc := cX1_isLeast) (maxL := 4) (ret := (some .boolean)) (by decide) rfl ?_
  intro p e s m args below meth c s₁ B hml hv
  obtain ⟨rfl, hP, hK, hN⟩ := hv
  have hx := B.exec
  have hb := B.bytes
  have hr := B.returns
  have hts := atoms_spec (ws := wsX1_isLeast) B.pre
  have hown : s.vm.findClass RX1 = some m.cls := findClass_of_methodNamed B.named
  have hlocks := B.notSynchronized
  have hf15 := hts (.fieldLink RX1 15 "WordGrounds$Tellings" "may" "I") (by decide +kernel)
  have hl := lv_entry ([.ref e_a, .int p1]) (n := 4) (Nat.le_of_ble_eq_true rfl)
  rw [lg_entry_eq]
  generalize (lg_sl ([.ref e_a, .int p1]) ++ List.replicate (4 - (lg_sl ([.ref e_a, .int p1])).length) Slot.unset).toArray = ls at hl ⊢
  have hl : lv_has ls 4 [(0, .ref e_a), (1, .int p1)] := hl
  have hM : ((M_X1_isFree (e_ma &&& (p1 ^^^ (-1))) e_cf).bind (fun q11 => if q11 = 0 then (some 0) else (L_X1_isLeast_21 p1 e_ma e_cf (fun (v3_21 : Int32) => some 1) 40 0))) = some R := hM
  refine lv_aload_n hx hb dX1_isLeast_0 rfl (lv_at hl 0 rfl) ?_
  refine va_get (D := (dC, dI)) (ci := 1) (v := .int e_ma) (C := RX1) (T := TX1) (N := 3) hx hb hts in_X1_isLeast_1 hown hK hP 0 rfl rfl 1 (by decide) hf15 (fun _ h9 => h9) rfl dX1_isLeast_1 ?_
  refine lv_iload_n hx hb dX1_isLeast_4 rfl (lv_at hl 1 rfl) ?_
  refine lv_iconst (v := (-1)) hx hb dX1_isLeast_5 (by decide) ?_
  refine lv_ixor hx hb dX1_isLeast_6 ?_
  refine lv_iand hx hb dX1_isLeast_7 ?_
  refine lv_istore_n (lv' := [(2, .int (e_ma &&& (p1 ^^^ (-1)))), (0, .ref e_a), (1, .int p1)]) hx hb dX1_isLeast_8 rfl hl (by decide) rfl (fun ls hl => ?_)
  refine lv_aload_n hx hb dX1_isLeast_9 rfl (lv_at hl 1 rfl) ?_
  refine lv_iload_n hx hb dX1_isLeast_10 rfl (lv_at hl 0 rfl) ?_
  obtain ⟨q11, hv11, hM⟩ := ob_bind hM
  refine vp_callSi (va_Run.run (va_runV (As := [.int (e_ma &&& (p1 ^^^ (-1)))]) (rest := []) ⟨hx, hb, hml, hown, hts⟩ (c_X1_isFree l dC dI cI cZ cJ cW e_a e_cf_a e_mu e_ma e_cf (e_ma &&& (p1 ^^^ (-1))) q11 hv11) (cwV 1 hts gX1_isLeast_X1_isFree rfl rfl rfl (by decide +kernel) ⟨Nat.le_of_ble_eq_true rfl, Nat.le_of_ble_eq_true rfl⟩) ⟨RP.blind, va_recv hK hP (ci := 1) (q0 := 0) rfl rfl, fun U hU hW => ⟨rfl, by rw [hU]; exact hP.sub (ws' := [(e_a, .inr (1, [.int e_mu, .int e_ma, .ref e_cf_a])), (e_cf_a, .inl (cJ, 256, .inr (.inl e_cf)))]) [0, 1] rfl, va_K.moved hW.alike hK, hN.warm hW⟩⟩ rfl rfl hl.1 rfl (lv_room (Nat.le_of_ble_eq_true rfl)) dX1_isLeast_11 ⟨Nat.le_of_ble_eq_true rfl, Nat.le_of_ble_eq_true rfl⟩)) (fun r hr => ?_)
  subst hr
  refine lv_if_ne (tgt := 19) hx hb dX1_isLeast_14 (by decide) (fun c_14 => ?_) (fun c_14 => ?_)
  · replace hM := ob_neg c_14 hM
    refine lv_iconst (v := 0) hx hb dX1_isLeast_19 (by decide) ?_
    refine lv_istore_n (lv' := [(3, .int 0), (2, .int (e_ma &&& (p1 ^^^ (-1)))), (0, .ref e_a), (1, .int p1)]) hx hb dX1_isLeast_20 rfl hl (by decide) rfl (fun ls hl => ?_)
    obtain ⟨K21, hK21⟩ : ∃ K : Int32 → Option (Int32), K = (fun (v3_21 : Int32) => some 1) := ⟨_, rfl⟩
    have hM : L_X1_isLeast_21 p1 e_ma e_cf K21 40 0 = some R := by rw [hK21]; exact hM
    have hL21 : ∀ (k21 : Nat) (v3_21 : Int32) (ls : Array Slot), L_X1_isLeast_21 p1 e_ma e_cf K21 k21 v3_21 = some R → lv_has ls 4 [(3, .int v3_21), (2, .int (e_ma &&& (p1 ^^^ (-1)))), (0, .ref e_a), (1, .int p1)] → W p l e rm_X1_isLeast s m ([.ref e_a, .int p1] : List Value).toArray below meth c s.heap [] 0 0 (MQ below (vp_Si (fun r => R = r)) ([.ref e_a, .int p1] : List Value).toArray s 0 0 (fun _ => False)) (F0 m 21 ls []) := by
      intro k21
      induction k21 with
      | zero => intro v3_21 ls hM; exact (ob_none hM).elim
      | succ k21 ih21 =>
        intro v3_21 ls hM hl
        have hM : (if 14 ≤ v3_21 then (K21 v3_21) else (if ((p1 >>> (v3_21 &&& 31)) &&& 1) = 0 then (L_X1_isLeast_21 p1 e_ma e_cf K21 k21 (v3_21 + 1)) else ((M_X1_isFree ((e_ma &&& (p1 ^^^ (-1))) ||| ((1 : Int32) <<< (v3_21 &&& 31))) e_cf).bind (fun q41 => if q41 = 0 then (L_X1_isLeast_21 p1 e_ma e_cf K21 k21 (v3_21 + 1)) else (some 0))))) = some R := hM
        refine lv_iload_n hx hb dX1_isLeast_21 rfl (lv_at hl 0 rfl) ?_
        refine lv_bipush (v := 14) hx hb dX1_isLeast_22 (by decide) ?_
        refine lv_icmp_ge (tgt := 55) hx hb dX1_isLeast_24 (by decide) (fun c_24 => ?_) (fun c_24 => ?_)
        · replace hM := ob_pos c_24 hM
          have hM : (some 1) = some R := by rw [hK21] at hM; exact hM
          refine lv_iconst (v := 1) hx hb dX1_isLeast_55 (by decide) ?_
          exact W.zret (v := 1) hx hb hr (by rfl) (fun t ht hW => ⟨_, rfl, (Option.some.inj hM).symm, ht⟩) (fun _ h => by cases h) dX1_isLeast_56
        · replace hM := ob_neg c_24 hM
          refine lv_iload_n hx hb dX1_isLeast_27 rfl (lv_at hl 3 rfl) ?_
          refine lv_iload_n hx hb dX1_isLeast_28 rfl (lv_at hl 0 rfl) ?_
          refine lv_ishr hx hb dX1_isLeast_29 ?_
          refine lv_iconst (v := 1) hx hb dX1_isLeast_30 (by decide) ?_
          refine lv_iand hx hb dX1_isLeast_31 ?_
          refine lv_if_eq (tgt := 49) hx hb dX1_isLeast_32 (by decide) (fun c_32 => ?_) (fun c_32 => ?_)
          · replace hM := ob_pos c_32 hM
            refine lv_iinc (v := (v3_21 + 1)) (lv' := [(3, .int (v3_21 + 1)), (2, .int (e_ma &&& (p1 ^^^ (-1)))), (0, .ref e_a), (1, .int p1)]) hx hb dX1_isLeast_49 hl (k := 0) rfl (by rfl) (by decide) rfl (fun ls hl => ?_)
            refine lv_goto (tgt := 21) hx hb dX1_isLeast_52 (by decide) ?_
            exact ih21 (v3_21 + 1) _ hM (lv_sub hl [0, 1, 2, 3] rfl)
          · replace hM := ob_neg c_32 hM
            refine lv_aload_n hx hb dX1_isLeast_35 rfl (lv_at hl 2 rfl) ?_
            refine lv_iload_n hx hb dX1_isLeast_36 rfl (lv_at hl 1 rfl) ?_
            refine lv_iconst (v := 1) hx hb dX1_isLeast_37 (by decide) ?_
            refine lv_iload_n hx hb dX1_isLeast_38 rfl (lv_at hl 0 rfl) ?_
            refine lv_ishl hx hb dX1_isLeast_39 ?_
            refine lv_ior hx hb dX1_isLeast_40 ?_
            obtain ⟨q41, hv41, hM⟩ := ob_bind hM
            refine vp_callSi (va_Run.run (va_runV (As := [.int ((e_ma &&& (p1 ^^^ (-1))) ||| ((1 : Int32) <<< (v3_21 &&& 31)))]) (rest := []) ⟨hx, hb, hml, hown, hts⟩ (c_X1_isFree l dC dI cI cZ cJ cW e_a e_cf_a e_mu e_ma e_cf ((e_ma &&& (p1 ^^^ (-1))) ||| ((1 : Int32) <<< (v3_21 &&& 31))) q41 hv41) (cwV 1 hts gX1_isLeast_X1_isFree rfl rfl rfl (by decide +kernel) ⟨Nat.le_of_ble_eq_true rfl, Nat.le_of_ble_eq_true rfl⟩) ⟨RP.blind, va_recv hK hP (ci := 1) (q0 := 0) rfl rfl, fun U hU hW => ⟨rfl, by rw [hU]; exact hP.sub (ws' := [(e_a, .inr (1, [.int e_mu, .int e_ma, .ref e_cf_a])), (e_cf_a, .inl (cJ, 256, .inr (.inl e_cf)))]) [0, 1] rfl, va_K.moved hW.alike hK, hN.warm hW⟩⟩ rfl rfl hl.1 rfl (lv_room (Nat.le_of_ble_eq_true rfl)) dX1_isLeast_41 ⟨Nat.le_of_ble_eq_true rfl, Nat.le_of_ble_eq_true rfl⟩)) (fun r hr => ?_)
            subst hr
            refine lv_if_eq (tgt := 49) hx hb dX1_isLeast_44 (by decide) (fun c_44 => ?_) (fun c_44 => ?_)
            · replace hM := ob_pos c_44 hM
              refine lv_iinc (v := (v3_21 + 1)) (lv' := [(3, .int (v3_21 + 1)), (2, .int (e_ma &&& (p1 ^^^ (-1)))), (0, .ref e_a), (1, .int p1)]) hx hb dX1_isLeast_49 hl (k := 0) rfl (by rfl) (by decide) rfl (fun ls hl => ?_)
              refine lv_goto (tgt := 21) hx hb dX1_isLeast_52 (by decide) ?_
              exact ih21 (v3_21 + 1) _ hM (lv_sub hl [0, 1, 2, 3] rfl)
            · replace hM := ob_neg c_44 hM
              refine lv_iconst (v := 0) hx hb dX1_isLeast_47 (by decide) ?_
              exact W.zret (v := 0) hx hb hr (by rfl) (fun t ht hW => ⟨_, rfl, (Option.some.inj hM).symm, ht⟩) (fun _ h => by cases h) dX1_isLeast_48
    exact hL21 40 0 _ hM (lv_sub hl [0, 1, 2, 3] rfl)
  · replace hM := ob_pos c_14 hM
    refine lv_iconst (v := 0) hx hb dX1_isLeast_17 (by decide) ?_
    exact W.zret (v := 0) hx hb hr (by rfl) (fun t ht hW => ⟨_, rfl, (Option.some.inj hM).symm, ht⟩) (fun _ h => by cases h) dX1_isLeast_18
/-! X1_leastWith -/
abbrev rm_X1_leastWith : Room := { frames := 2, cells := 0, slots := 0, locals := 45 }
theorem in_X1_leastWith_1 : ∀ w ∈ u_ws RX1 TX1 3, w ∈ wsX1_leastWith := by decide +kernel
set_option maxHeartbeats 4000000 in
set_option maxRecDepth 100000 in
theorem c_X1_leastWith (l : Launch) (dC : Nat → ClassId) (dI : Nat → Nat → Nat) (cI cZ cJ cW : ClassId) (e_a e_cf_a : Nat) (e_mu : Int32) (e_ma : Int32) (e_cf : Nat → Int64) (p1 : Int32) (R : Int32) (hM : M_X1_leastWith p1 e_mu e_ma e_cf = some R) : Met l yX1_leastWith wsX1_leastWith rm_X1_leastWith (va_Pc [.ref e_a, .int p1] (RP (dC, dI) cI cZ cJ cW [(e_a, .inr (1, [.int e_mu, .int e_ma, .ref e_cf_a])), (e_cf_a, .inl (cJ, 256, .inr (.inl e_cf)))])) (vp_Si (fun r => R = r)) 0 0 (fun _ => False) := by
  refine Met.ofW (cc := cX1_leastWith) (maxL := 6) (ret := (some .int)) (by decide) rfl ?_
  intro p e s m args below meth c s₁ B hml hv
  obtain ⟨rfl, hP, hK, hN⟩ := hv
  have hx := B.exec
  have hb := B.bytes
  have hr := B.returns
  have hts := atoms_spec (ws := wsX1_leastWith) B.pre
  have hown : s.vm.findClass RX1 = some m.cls := findClass_of_methodNamed B.named
  have hlocks := B.notSynchronized
  have hf9 := hts (.fieldLink RX1 9 "WordGrounds$Tellings" "must" "I") (by decide +kernel)
  have hf15 := hts (.fieldLink RX1 15 "WordGrounds$Tellings" "may" "I") (by decide +kernel)
  have hl := lv_entry ([.ref e_a, .int p1]) (n := 6) (Nat.le_of_ble_eq_true rfl)
  rw [lg_entry_eq]
  generalize (lg_sl ([.ref e_a, .int p1]) ++ List.replicate (6 - (lg_sl ([.ref e_a, .int p1])).length) Slot.unset).toArray = ls at hl ⊢
  have hl : lv_has ls 6 [(0, .ref e_a), (1, .int p1)] := hl
  have hM : ((M_J6_bitCount_0f7a4 e_ma).bind (fun q7 => L_X1_leastWith_18 p1 e_mu e_ma e_cf q7 (fun (v5_18 : Int32) (v4_18 : Int32) (v2_18 : Int32) => some v2_18) 20000 0 0 0)) = some R := hM
  refine lv_iconst (v := 0) hx hb dX1_leastWith_0 (by decide) ?_
  refine lv_istore_n (lv' := [(2, .int 0), (0, .ref e_a), (1, .int p1)]) hx hb dX1_leastWith_1 rfl hl (by decide) rfl (fun ls hl => ?_)
  refine lv_iconst (v := 1) hx hb dX1_leastWith_2 (by decide) ?_
  refine lv_aload_n hx hb dX1_leastWith_3 rfl (lv_at hl 1 rfl) ?_
  refine va_get (D := (dC, dI)) (ci := 1) (v := .int e_ma) (C := RX1) (T := TX1) (N := 3) hx hb hts in_X1_leastWith_1 hown hK hP 0 rfl rfl 1 (by decide) hf15 (fun _ h9 => h9) rfl dX1_leastWith_4 ?_
  obtain ⟨q7, hv7, hM⟩ := ob_bind hM
  refine vp_callSi (va_Run.run (va_runS (As := [.int e_ma]) (rest := [.int 1]) ⟨hx, hb, hml, hown, hts⟩ (c_J6_bitCount_0f7a4 l dC dI cI cZ cJ cW e_ma q7 hv7) (va_cwS 1 hts gX1_leastWith_J6_bitCount_0f7a4 rfl rfl rfl (by decide +kernel) ⟨Nat.le_of_ble_eq_true rfl, Nat.le_of_ble_eq_true rfl⟩) ⟨TP.blind, fun U hU hW => ⟨rfl, trivial⟩⟩ rfl rfl hl.1 rfl (lv_room (Nat.le_of_ble_eq_true rfl)) dX1_leastWith_7 ⟨Nat.le_of_ble_eq_true rfl, Nat.le_of_ble_eq_true rfl⟩)) (fun r hr => ?_)
  subst hr
  refine lv_ishl hx hb dX1_leastWith_10 ?_
  refine lv_istore_n (lv' := [(3, .int ((1 : Int32) <<< (q7 &&& 31))), (2, .int 0), (0, .ref e_a), (1, .int p1)]) hx hb dX1_leastWith_11 rfl hl (by decide) rfl (fun ls hl => ?_)
  refine lv_iconst (v := 0) hx hb dX1_leastWith_12 (by decide) ?_
  refine lv_istore (lv' := [(4, .int 0), (3, .int ((1 : Int32) <<< (q7 &&& 31))), (2, .int 0), (0, .ref e_a), (1, .int p1)]) hx hb dX1_leastWith_13 hl (by decide) rfl (fun ls hl => ?_)
  refine lv_iconst (v := 0) hx hb dX1_leastWith_15 (by decide) ?_
  refine lv_istore (lv' := [(5, .int 0), (4, .int 0), (3, .int ((1 : Int32) <<< (q7 &&& 31))), (2, .int 0), (0, .ref e_a), (1, .int p1)]) hx hb dX1_leastWith_16 hl (by decide) rfl (fun ls hl => ?_)
  obtain ⟨K18, hK18⟩ : ∃ K : Int32 → Int32 → Int32 → Option (Int32), K = (fun (v5_18 : Int32) (v4_18 : Int32) (v2_18 : Int32) => some v2_18) := ⟨_, rfl⟩
  have hM : L_X1_leastWith_18 p1 e_mu e_ma e_cf q7 K18 20000 0 0 0 = some R := by rw [hK18]; exact hM
  have hL18 : ∀ (k18 : Nat) (v5_18 : Int32) (v4_18 : Int32) (v2_18 : Int32) (ls : Array Slot), L_X1_leastWith_18 p1 e_mu e_ma e_cf q7 K18 k18 v5_18 v4_18 v2_18 = some R → lv_has ls 6 [(5, .int v5_18), (4, .int v4_18), (3, .int ((1 : Int32) <<< (q7 &&& 31))), (2, .int v2_18), (0, .ref e_a), (1, .int p1)] → W p l e rm_X1_leastWith s m ([.ref e_a, .int p1] : List Value).toArray below meth c s.heap [] 0 0 (MQ below (vp_Si (fun r => R = r)) ([.ref e_a, .int p1] : List Value).toArray s 0 0 (fun _ => False)) (F0 m 18 ls []) := by
    intro k18
    induction k18 with
    | zero => intro v5_18 v4_18 v2_18 ls hM; exact (ob_none hM).elim
    | succ k18 ih18 =>
      intro v5_18 v4_18 v2_18 ls hM hl
      have hM : (if ((1 : Int32) <<< (q7 &&& 31)) ≤ v5_18 then (K18 v5_18 v4_18 v2_18) else (if (p1 &&& ((v4_18 ||| e_mu) ^^^ (-1))) = 0 then ((M_X1_isLeast v4_18 e_ma e_cf).bind (fun q41 => if q41 = 0 then ((M_X1_nextSubset v4_18 e_ma).bind (fun q56 => L_X1_leastWith_18 p1 e_mu e_ma e_cf q7 K18 k18 (v5_18 + 1) q56 v2_18)) else ((M_X1_nextSubset v4_18 e_ma).bind (fun q56 => L_X1_leastWith_18 p1 e_mu e_ma e_cf q7 K18 k18 (v5_18 + 1) q56 (v2_18 + 1))))) else ((M_X1_nextSubset v4_18 e_ma).bind (fun q56 => L_X1_leastWith_18 p1 e_mu e_ma e_cf q7 K18 k18 (v5_18 + 1) q56 v2_18)))) = some R := hM
      refine lv_iload hx hb dX1_leastWith_18 (lv_at hl 0 rfl) ?_
      refine lv_iload_n hx hb dX1_leastWith_20 rfl (lv_at hl 2 rfl) ?_
      refine lv_icmp_ge (tgt := 67) hx hb dX1_leastWith_21 (by decide) (fun c_21 => ?_) (fun c_21 => ?_)
      · replace hM := ob_pos c_21 hM
        have hM : (some v2_18) = some R := by rw [hK18] at hM; exact hM
        refine lv_iload_n hx hb dX1_leastWith_67 rfl (lv_at hl 3 rfl) ?_
        exact W.iret (v := v2_18) hx hb hr (fun t ht hW => ⟨_, rfl, (Option.some.inj hM).symm, ht⟩) (fun _ h => by cases h) dX1_leastWith_68
      · replace hM := ob_neg c_21 hM
        refine lv_iload_n hx hb dX1_leastWith_24 rfl (lv_at hl 5 rfl) ?_
        refine lv_iload hx hb dX1_leastWith_25 (lv_at hl 1 rfl) ?_
        refine lv_aload_n hx hb dX1_leastWith_27 rfl (lv_at hl 4 rfl) ?_
        refine va_get (D := (dC, dI)) (ci := 1) (v := .int e_mu) (C := RX1) (T := TX1) (N := 3) hx hb hts in_X1_leastWith_1 hown hK hP 0 rfl rfl 0 (by decide) hf9 (fun _ h9 => h9) rfl dX1_leastWith_28 ?_
        refine lv_ior hx hb dX1_leastWith_31 ?_
        refine lv_iconst (v := (-1)) hx hb dX1_leastWith_32 (by decide) ?_
        refine lv_ixor hx hb dX1_leastWith_33 ?_
        refine lv_iand hx hb dX1_leastWith_34 ?_
        refine lv_if_ne (tgt := 50) hx hb dX1_leastWith_35 (by decide) (fun c_35 => ?_) (fun c_35 => ?_)
        · replace hM := ob_neg c_35 hM
          refine lv_iload hx hb dX1_leastWith_50 (lv_at hl 1 rfl) ?_
          refine lv_aload_n hx hb dX1_leastWith_52 rfl (lv_at hl 4 rfl) ?_
          refine va_get (D := (dC, dI)) (ci := 1) (v := .int e_ma) (C := RX1) (T := TX1) (N := 3) hx hb hts in_X1_leastWith_1 hown hK hP 0 rfl rfl 1 (by decide) hf15 (fun _ h9 => h9) rfl dX1_leastWith_53 ?_
          obtain ⟨q56, hv56, hM⟩ := ob_bind hM
          refine vp_callSi (va_Run.run (va_runS (As := [.int v4_18, .int e_ma]) (rest := []) ⟨hx, hb, hml, hown, hts⟩ (c_X1_nextSubset l dC dI cI cZ cJ cW v4_18 e_ma q56 hv56) (va_cwS 2 hts gX1_leastWith_X1_nextSubset rfl rfl rfl (by decide +kernel) ⟨Nat.le_of_ble_eq_true rfl, Nat.le_of_ble_eq_true rfl⟩) ⟨TP.blind, fun U hU hW => ⟨rfl, trivial⟩⟩ rfl rfl hl.1 rfl (lv_room (Nat.le_of_ble_eq_true rfl)) dX1_leastWith_56 ⟨Nat.le_of_ble_eq_true rfl, Nat.le_of_ble_eq_true rfl⟩)) (fun r hr => ?_)
          subst hr
          refine lv_istore (lv' := [(4, .int q56), (5, .int v5_18), (3, .int ((1 : Int32) <<< (q7 &&& 31))), (2, .int v2_18), (0, .ref e_a), (1, .int p1)]) hx hb dX1_leastWith_59 hl (by decide) rfl (fun ls hl => ?_)
          refine lv_iinc (v := (v5_18 + 1)) (lv' := [(5, .int (v5_18 + 1)), (4, .int q56), (3, .int ((1 : Int32) <<< (q7 &&& 31))), (2, .int v2_18), (0, .ref e_a), (1, .int p1)]) hx hb dX1_leastWith_61 hl (k := 1) rfl (by rfl) (by decide) rfl (fun ls hl => ?_)
          refine lv_goto (tgt := 18) hx hb dX1_leastWith_64 (by decide) ?_
          exact ih18 (v5_18 + 1) q56 v2_18 _ hM (lv_sub hl [0, 1, 2, 3, 4, 5] rfl)
        · replace hM := ob_pos c_35 hM
          refine lv_aload_n hx hb dX1_leastWith_38 rfl (lv_at hl 4 rfl) ?_
          refine lv_iload hx hb dX1_leastWith_39 (lv_at hl 1 rfl) ?_
          obtain ⟨q41, hv41, hM⟩ := ob_bind hM
          refine vp_callSi (va_Run.run (va_runV (As := [.int v4_18]) (rest := []) ⟨hx, hb, hml, hown, hts⟩ (c_X1_isLeast l dC dI cI cZ cJ cW e_a e_cf_a e_mu e_ma e_cf v4_18 q41 hv41) (cwV 1 hts gX1_leastWith_X1_isLeast rfl rfl rfl (by decide +kernel) ⟨Nat.le_of_ble_eq_true rfl, Nat.le_of_ble_eq_true rfl⟩) ⟨RP.blind, va_recv hK hP (ci := 1) (q0 := 0) rfl rfl, fun U hU hW => ⟨rfl, by rw [hU]; exact hP.sub (ws' := [(e_a, .inr (1, [.int e_mu, .int e_ma, .ref e_cf_a])), (e_cf_a, .inl (cJ, 256, .inr (.inl e_cf)))]) [0, 1] rfl, va_K.moved hW.alike hK, hN.warm hW⟩⟩ rfl rfl hl.1 rfl (lv_room (Nat.le_of_ble_eq_true rfl)) dX1_leastWith_41 ⟨Nat.le_of_ble_eq_true rfl, Nat.le_of_ble_eq_true rfl⟩)) (fun r hr => ?_)
          subst hr
          refine lv_if_eq (tgt := 50) hx hb dX1_leastWith_44 (by decide) (fun c_44 => ?_) (fun c_44 => ?_)
          · replace hM := ob_pos c_44 hM
            refine lv_iload hx hb dX1_leastWith_50 (lv_at hl 1 rfl) ?_
            refine lv_aload_n hx hb dX1_leastWith_52 rfl (lv_at hl 4 rfl) ?_
            refine va_get (D := (dC, dI)) (ci := 1) (v := .int e_ma) (C := RX1) (T := TX1) (N := 3) hx hb hts in_X1_leastWith_1 hown hK hP 0 rfl rfl 1 (by decide) hf15 (fun _ h9 => h9) rfl dX1_leastWith_53 ?_
            obtain ⟨q56, hv56, hM⟩ := ob_bind hM
            refine vp_callSi (va_Run.run (va_runS (As := [.int v4_18, .int e_ma]) (rest := []) ⟨hx, hb, hml, hown, hts⟩ (c_X1_nextSubset l dC dI cI cZ cJ cW v4_18 e_ma q56 hv56) (va_cwS 2 hts gX1_leastWith_X1_nextSubset rfl rfl rfl (by decide +kernel) ⟨Nat.le_of_ble_eq_true rfl, Nat.le_of_ble_eq_true rfl⟩) ⟨TP.blind, fun U hU hW => ⟨rfl, trivial⟩⟩ rfl rfl hl.1 rfl (lv_room (Nat.le_of_ble_eq_true rfl)) dX1_leastWith_56 ⟨Nat.le_of_ble_eq_true rfl, Nat.le_of_ble_eq_true rfl⟩)) (fun r hr => ?_)
            subst hr
            refine lv_istore (lv' := [(4, .int q56), (5, .int v5_18), (3, .int ((1 : Int32) <<< (q7 &&& 31))), (2, .int v2_18), (0, .ref e_a), (1, .int p1)]) hx hb dX1_leastWith_59 hl (by decide) rfl (fun ls hl => ?_)
            refine lv_iinc (v := (v5_18 + 1)) (lv' := [(5, .int (v5_18 + 1)), (4, .int q56), (3, .int ((1 : Int32) <<< (q7 &&& 31))), (2, .int v2_18), (0, .ref e_a), (1, .int p1)]) hx hb dX1_leastWith_61 hl (k := 1) rfl (by rfl) (by decide) rfl (fun ls hl => ?_)
            refine lv_goto (tgt := 18) hx hb dX1_leastWith_64 (by decide) ?_
            exact ih18 (v5_18 + 1) q56 v2_18 _ hM (lv_sub hl [0, 1, 2, 3, 4, 5] rfl)
          · replace hM := ob_neg c_44 hM
            refine lv_iinc (v := (v2_18 + 1)) (lv' := [(2, .int (v2_18 + 1)), (5, .int v5_18), (4, .int v4_18), (3, .int ((1 : Int32) <<< (q7 &&& 31))), (0, .ref e_a), (1, .int p1)]) hx hb dX1_leastWith_47 hl (k := 3) rfl (by rfl) (by decide) rfl (fun ls hl => ?_)
            refine lv_iload hx hb dX1_leastWith_50 (lv_at hl 2 rfl) ?_
            refine lv_aload_n hx hb dX1_leastWith_52 rfl (lv_at hl 4 rfl) ?_
            refine va_get (D := (dC, dI)) (ci := 1) (v := .int e_ma) (C := RX1) (T := TX1) (N := 3) hx hb hts in_X1_leastWith_1 hown hK hP 0 rfl rfl 1 (by decide) hf15 (fun _ h9 => h9) rfl dX1_leastWith_53 ?_
            obtain ⟨q56, hv56, hM⟩ := ob_bind hM
            refine vp_callSi (va_Run.run (va_runS (As := [.int v4_18, .int e_ma]) (rest := []) ⟨hx, hb, hml, hown, hts⟩ (c_X1_nextSubset l dC dI cI cZ cJ cW v4_18 e_ma q56 hv56) (va_cwS 2 hts gX1_leastWith_X1_nextSubset rfl rfl rfl (by decide +kernel) ⟨Nat.le_of_ble_eq_true rfl, Nat.le_of_ble_eq_true rfl⟩) ⟨TP.blind, fun U hU hW => ⟨rfl, trivial⟩⟩ rfl rfl hl.1 rfl (lv_room (Nat.le_of_ble_eq_true rfl)) dX1_leastWith_56 ⟨Nat.le_of_ble_eq_true rfl, Nat.le_of_ble_eq_true rfl⟩)) (fun r hr => ?_)
            subst hr
            refine lv_istore (lv' := [(4, .int q56), (2, .int (v2_18 + 1)), (5, .int v5_18), (3, .int ((1 : Int32) <<< (q7 &&& 31))), (0, .ref e_a), (1, .int p1)]) hx hb dX1_leastWith_59 hl (by decide) rfl (fun ls hl => ?_)
            refine lv_iinc (v := (v5_18 + 1)) (lv' := [(5, .int (v5_18 + 1)), (4, .int q56), (2, .int (v2_18 + 1)), (3, .int ((1 : Int32) <<< (q7 &&& 31))), (0, .ref e_a), (1, .int p1)]) hx hb dX1_leastWith_61 hl (k := 2) rfl (by rfl) (by decide) rfl (fun ls hl => ?_)
            refine lv_goto (tgt := 18) hx hb dX1_leastWith_64 (by decide) ?_
            exact ih18 (v5_18 + 1) q56 (v2_18 + 1) _ hM (lv_sub hl [0, 1, 3, 2, 4, 5] rfl)
  exact hL18 20000 0 0 0 _ hM (lv_sub hl [0, 1, 2, 3, 4, 5] rfl)
/-! X1_greatestLeast -/
abbrev rm_X1_greatestLeast : Room := { frames := 2, cells := 0, slots := 0, locals := 45 }
theorem in_X1_greatestLeast_1 : ∀ w ∈ u_ws RX1 TX1 3, w ∈ wsX1_greatestLeast := by decide +kernel
set_option maxHeartbeats 4000000 in
set_option maxRecDepth 100000 in
theorem c_X1_greatestLeast (l : Launch) (dC : Nat → ClassId) (dI : Nat → Nat → Nat) (cI cZ cJ cW : ClassId) (e_a e_cf_a : Nat) (e_mu : Int32) (e_ma : Int32) (e_cf : Nat → Int64) (R : Int32) (hM : M_X1_greatestLeast e_mu e_ma e_cf = some R) : Met l yX1_greatestLeast wsX1_greatestLeast rm_X1_greatestLeast (va_Pc [.ref e_a] (RP (dC, dI) cI cZ cJ cW [(e_a, .inr (1, [.int e_mu, .int e_ma, .ref e_cf_a])), (e_cf_a, .inl (cJ, 256, .inr (.inl e_cf)))])) (vp_Si (fun r => R = r)) 0 0 (fun _ => False) := by
  refine Met.ofW (cc := cX1_greatestLeast) (maxL := 6) (ret := (some .int)) (by decide) rfl ?_
  intro p e s m args below meth c s₁ B hml hv
  obtain ⟨rfl, hP, hK, hN⟩ := hv
  have hx := B.exec
  have hb := B.bytes
  have hr := B.returns
  have hts := atoms_spec (ws := wsX1_greatestLeast) B.pre
  have hown : s.vm.findClass RX1 = some m.cls := findClass_of_methodNamed B.named
  have hlocks := B.notSynchronized
  have hf9 := hts (.fieldLink RX1 9 "WordGrounds$Tellings" "must" "I") (by decide +kernel)
  have hf15 := hts (.fieldLink RX1 15 "WordGrounds$Tellings" "may" "I") (by decide +kernel)
  have hl := lv_entry ([.ref e_a]) (n := 6) (Nat.le_of_ble_eq_true rfl)
  rw [lg_entry_eq]
  generalize (lg_sl ([.ref e_a]) ++ List.replicate (6 - (lg_sl ([.ref e_a])).length) Slot.unset).toArray = ls at hl ⊢
  have hl : lv_has ls 6 [(0, .ref e_a)] := hl
  have hM : ((M_J6_bitCount_0f7a4 e_ma).bind (fun q7 => L_X1_greatestLeast_17 e_mu e_ma e_cf q7 (fun (v4_17 : Int32) (v3_17 : Int32) (v1_17 : Int32) => some v1_17) 20000 0 0 0)) = some R := hM
  refine lv_iconst (v := 0) hx hb dX1_greatestLeast_0 (by decide) ?_
  refine lv_istore_n (lv' := [(1, .int 0), (0, .ref e_a)]) hx hb dX1_greatestLeast_1 rfl hl (by decide) rfl (fun ls hl => ?_)
  refine lv_iconst (v := 1) hx hb dX1_greatestLeast_2 (by decide) ?_
  refine lv_aload_n hx hb dX1_greatestLeast_3 rfl (lv_at hl 1 rfl) ?_
  refine va_get (D := (dC, dI)) (ci := 1) (v := .int e_ma) (C := RX1) (T := TX1) (N := 3) hx hb hts in_X1_greatestLeast_1 hown hK hP 0 rfl rfl 1 (by decide) hf15 (fun _ h9 => h9) rfl dX1_greatestLeast_4 ?_
  obtain ⟨q7, hv7, hM⟩ := ob_bind hM
  refine vp_callSi (va_Run.run (va_runS (As := [.int e_ma]) (rest := [.int 1]) ⟨hx, hb, hml, hown, hts⟩ (c_J6_bitCount_0f7a4 l dC dI cI cZ cJ cW e_ma q7 hv7) (va_cwS 1 hts gX1_greatestLeast_J6_bitCount_0f7a4 rfl rfl rfl (by decide +kernel) ⟨Nat.le_of_ble_eq_true rfl, Nat.le_of_ble_eq_true rfl⟩) ⟨TP.blind, fun U hU hW => ⟨rfl, trivial⟩⟩ rfl rfl hl.1 rfl (lv_room (Nat.le_of_ble_eq_true rfl)) dX1_greatestLeast_7 ⟨Nat.le_of_ble_eq_true rfl, Nat.le_of_ble_eq_true rfl⟩)) (fun r hr => ?_)
  subst hr
  refine lv_ishl hx hb dX1_greatestLeast_10 ?_
  refine lv_istore_n (lv' := [(2, .int ((1 : Int32) <<< (q7 &&& 31))), (1, .int 0), (0, .ref e_a)]) hx hb dX1_greatestLeast_11 rfl hl (by decide) rfl (fun ls hl => ?_)
  refine lv_iconst (v := 0) hx hb dX1_greatestLeast_12 (by decide) ?_
  refine lv_istore_n (lv' := [(3, .int 0), (2, .int ((1 : Int32) <<< (q7 &&& 31))), (1, .int 0), (0, .ref e_a)]) hx hb dX1_greatestLeast_13 rfl hl (by decide) rfl (fun ls hl => ?_)
  refine lv_iconst (v := 0) hx hb dX1_greatestLeast_14 (by decide) ?_
  refine lv_istore (lv' := [(4, .int 0), (3, .int 0), (2, .int ((1 : Int32) <<< (q7 &&& 31))), (1, .int 0), (0, .ref e_a)]) hx hb dX1_greatestLeast_15 hl (by decide) rfl (fun ls hl => ?_)
  obtain ⟨K17, hK17⟩ : ∃ K : Int32 → Int32 → Int32 → Option (Int32), K = (fun (v4_17 : Int32) (v3_17 : Int32) (v1_17 : Int32) => some v1_17) := ⟨_, rfl⟩
  have hM : L_X1_greatestLeast_17 e_mu e_ma e_cf q7 K17 20000 0 0 0 = some R := by rw [hK17]; exact hM
  have hL17 : ∀ (k17 : Nat) (v4_17 : Int32) (v3_17 : Int32) (v1_17 : Int32) (ls : Array Slot), L_X1_greatestLeast_17 e_mu e_ma e_cf q7 K17 k17 v4_17 v3_17 v1_17 = some R → lv_has ls 6 [(4, .int v4_17), (3, .int v3_17), (2, .int ((1 : Int32) <<< (q7 &&& 31))), (1, .int v1_17), (0, .ref e_a)] → W p l e rm_X1_greatestLeast s m ([.ref e_a] : List Value).toArray below meth c s.heap [] 0 0 (MQ below (vp_Si (fun r => R = r)) ([.ref e_a] : List Value).toArray s 0 0 (fun _ => False)) (F0 m 17 ls []) := by
    intro k17
    induction k17 with
    | zero => intro v4_17 v3_17 v1_17 ls hM; exact (ob_none hM).elim
    | succ k17 ih17 =>
      intro v4_17 v3_17 v1_17 ls hM hl
      have hM : (if ((1 : Int32) <<< (q7 &&& 31)) ≤ v4_17 then (K17 v4_17 v3_17 v1_17) else ((M_J6_bitCount_0f7a4 (v3_17 ||| e_mu)).bind (fun q29 => if q29 ≤ v1_17 then ((M_X1_nextSubset v3_17 e_ma).bind (fun q56 => L_X1_greatestLeast_17 e_mu e_ma e_cf q7 K17 k17 (v4_17 + 1) q56 v1_17)) else ((M_X1_isLeast v3_17 e_ma e_cf).bind (fun q42 => if q42 = 0 then ((M_X1_nextSubset v3_17 e_ma).bind (fun q56 => L_X1_greatestLeast_17 e_mu e_ma e_cf q7 K17 k17 (v4_17 + 1) q56 v1_17)) else ((M_X1_nextSubset v3_17 e_ma).bind (fun q56 => L_X1_greatestLeast_17 e_mu e_ma e_cf q7 K17 k17 (v4_17 + 1) q56 q29))))))) = some R := hM
      refine lv_iload hx hb dX1_greatestLeast_17 (lv_at hl 0 rfl) ?_
      refine lv_iload_n hx hb dX1_greatestLeast_19 rfl (lv_at hl 2 rfl) ?_
      refine lv_icmp_ge (tgt := 66) hx hb dX1_greatestLeast_20 (by decide) (fun c_20 => ?_) (fun c_20 => ?_)
      · replace hM := ob_pos c_20 hM
        have hM : (some v1_17) = some R := by rw [hK17] at hM; exact hM
        refine lv_iload_n hx hb dX1_greatestLeast_66 rfl (lv_at hl 3 rfl) ?_
        exact W.iret (v := v1_17) hx hb hr (fun t ht hW => ⟨_, rfl, (Option.some.inj hM).symm, ht⟩) (fun _ h => by cases h) dX1_greatestLeast_67
      · replace hM := ob_neg c_20 hM
        refine lv_iload_n hx hb dX1_greatestLeast_23 rfl (lv_at hl 1 rfl) ?_
        refine lv_aload_n hx hb dX1_greatestLeast_24 rfl (lv_at hl 4 rfl) ?_
        refine va_get (D := (dC, dI)) (ci := 1) (v := .int e_mu) (C := RX1) (T := TX1) (N := 3) hx hb hts in_X1_greatestLeast_1 hown hK hP 0 rfl rfl 0 (by decide) hf9 (fun _ h9 => h9) rfl dX1_greatestLeast_25 ?_
        refine lv_ior hx hb dX1_greatestLeast_28 ?_
        obtain ⟨q29, hv29, hM⟩ := ob_bind hM
        refine vp_callSi (va_Run.run (va_runS (As := [.int (v3_17 ||| e_mu)]) (rest := []) ⟨hx, hb, hml, hown, hts⟩ (c_J6_bitCount_0f7a4 l dC dI cI cZ cJ cW (v3_17 ||| e_mu) q29 hv29) (va_cwS 1 hts gX1_greatestLeast_J6_bitCount_0f7a4 rfl rfl rfl (by decide +kernel) ⟨Nat.le_of_ble_eq_true rfl, Nat.le_of_ble_eq_true rfl⟩) ⟨TP.blind, fun U hU hW => ⟨rfl, trivial⟩⟩ rfl rfl hl.1 rfl (lv_room (Nat.le_of_ble_eq_true rfl)) dX1_greatestLeast_29 ⟨Nat.le_of_ble_eq_true rfl, Nat.le_of_ble_eq_true rfl⟩)) (fun r hr => ?_)
        subst hr
        refine lv_istore (lv' := [(5, .int q29), (4, .int v4_17), (3, .int v3_17), (2, .int ((1 : Int32) <<< (q7 &&& 31))), (1, .int v1_17), (0, .ref e_a)]) hx hb dX1_greatestLeast_32 hl (by decide) rfl (fun ls hl => ?_)
        refine lv_iload hx hb dX1_greatestLeast_34 (lv_at hl 0 rfl) ?_
        refine lv_iload_n hx hb dX1_greatestLeast_36 rfl (lv_at hl 4 rfl) ?_
        refine lv_icmp_le (tgt := 51) hx hb dX1_greatestLeast_37 (by decide) (fun c_37 => ?_) (fun c_37 => ?_)
        · replace hM := ob_pos c_37 hM
          refine lv_iload_n hx hb dX1_greatestLeast_51 rfl (lv_at hl 2 rfl) ?_
          refine lv_aload_n hx hb dX1_greatestLeast_52 rfl (lv_at hl 5 rfl) ?_
          refine va_get (D := (dC, dI)) (ci := 1) (v := .int e_ma) (C := RX1) (T := TX1) (N := 3) hx hb hts in_X1_greatestLeast_1 hown hK hP 0 rfl rfl 1 (by decide) hf15 (fun _ h9 => h9) rfl dX1_greatestLeast_53 ?_
          obtain ⟨q56, hv56, hM⟩ := ob_bind hM
          refine vp_callSi (va_Run.run (va_runS (As := [.int v3_17, .int e_ma]) (rest := []) ⟨hx, hb, hml, hown, hts⟩ (c_X1_nextSubset l dC dI cI cZ cJ cW v3_17 e_ma q56 hv56) (va_cwS 2 hts gX1_greatestLeast_X1_nextSubset rfl rfl rfl (by decide +kernel) ⟨Nat.le_of_ble_eq_true rfl, Nat.le_of_ble_eq_true rfl⟩) ⟨TP.blind, fun U hU hW => ⟨rfl, trivial⟩⟩ rfl rfl hl.1 rfl (lv_room (Nat.le_of_ble_eq_true rfl)) dX1_greatestLeast_56 ⟨Nat.le_of_ble_eq_true rfl, Nat.le_of_ble_eq_true rfl⟩)) (fun r hr => ?_)
          subst hr
          refine lv_istore_n (lv' := [(3, .int q56), (5, .int q29), (4, .int v4_17), (2, .int ((1 : Int32) <<< (q7 &&& 31))), (1, .int v1_17), (0, .ref e_a)]) hx hb dX1_greatestLeast_59 rfl hl (by decide) rfl (fun ls hl => ?_)
          refine lv_iinc (v := (v4_17 + 1)) (lv' := [(4, .int (v4_17 + 1)), (3, .int q56), (5, .int q29), (2, .int ((1 : Int32) <<< (q7 &&& 31))), (1, .int v1_17), (0, .ref e_a)]) hx hb dX1_greatestLeast_60 hl (k := 2) rfl (by rfl) (by decide) rfl (fun ls hl => ?_)
          refine lv_goto (tgt := 17) hx hb dX1_greatestLeast_63 (by decide) ?_
          exact ih17 (v4_17 + 1) q56 v1_17 _ hM (lv_sub hl [0, 1, 3, 4, 5] rfl)
        · replace hM := ob_neg c_37 hM
          refine lv_aload_n hx hb dX1_greatestLeast_40 rfl (lv_at hl 5 rfl) ?_
          refine lv_iload_n hx hb dX1_greatestLeast_41 rfl (lv_at hl 2 rfl) ?_
          obtain ⟨q42, hv42, hM⟩ := ob_bind hM
          refine vp_callSi (va_Run.run (va_runV (As := [.int v3_17]) (rest := []) ⟨hx, hb, hml, hown, hts⟩ (c_X1_isLeast l dC dI cI cZ cJ cW e_a e_cf_a e_mu e_ma e_cf v3_17 q42 hv42) (cwV 1 hts gX1_greatestLeast_X1_isLeast rfl rfl rfl (by decide +kernel) ⟨Nat.le_of_ble_eq_true rfl, Nat.le_of_ble_eq_true rfl⟩) ⟨RP.blind, va_recv hK hP (ci := 1) (q0 := 0) rfl rfl, fun U hU hW => ⟨rfl, by rw [hU]; exact hP.sub (ws' := [(e_a, .inr (1, [.int e_mu, .int e_ma, .ref e_cf_a])), (e_cf_a, .inl (cJ, 256, .inr (.inl e_cf)))]) [0, 1] rfl, va_K.moved hW.alike hK, hN.warm hW⟩⟩ rfl rfl hl.1 rfl (lv_room (Nat.le_of_ble_eq_true rfl)) dX1_greatestLeast_42 ⟨Nat.le_of_ble_eq_true rfl, Nat.le_of_ble_eq_true rfl⟩)) (fun r hr => ?_)
          subst hr
          refine lv_if_eq (tgt := 51) hx hb dX1_greatestLeast_45 (by decide) (fun c_45 => ?_) (fun c_45 => ?_)
          · replace hM := ob_pos c_45 hM
            refine lv_iload_n hx hb dX1_greatestLeast_51 rfl (lv_at hl 2 rfl) ?_
            refine lv_aload_n hx hb dX1_greatestLeast_52 rfl (lv_at hl 5 rfl) ?_
            refine va_get (D := (dC, dI)) (ci := 1) (v := .int e_ma) (C := RX1) (T := TX1) (N := 3) hx hb hts in_X1_greatestLeast_1 hown hK hP 0 rfl rfl 1 (by decide) hf15 (fun _ h9 => h9) rfl dX1_greatestLeast_53 ?_
            obtain ⟨q56, hv56, hM⟩ := ob_bind hM
            refine vp_callSi (va_Run.run (va_runS (As := [.int v3_17, .int e_ma]) (rest := []) ⟨hx, hb, hml, hown, hts⟩ (c_X1_nextSubset l dC dI cI cZ cJ cW v3_17 e_ma q56 hv56) (va_cwS 2 hts gX1_greatestLeast_X1_nextSubset rfl rfl rfl (by decide +kernel) ⟨Nat.le_of_ble_eq_true rfl, Nat.le_of_ble_eq_true rfl⟩) ⟨TP.blind, fun U hU hW => ⟨rfl, trivial⟩⟩ rfl rfl hl.1 rfl (lv_room (Nat.le_of_ble_eq_true rfl)) dX1_greatestLeast_56 ⟨Nat.le_of_ble_eq_true rfl, Nat.le_of_ble_eq_true rfl⟩)) (fun r hr => ?_)
            subst hr
            refine lv_istore_n (lv' := [(3, .int q56), (5, .int q29), (4, .int v4_17), (2, .int ((1 : Int32) <<< (q7 &&& 31))), (1, .int v1_17), (0, .ref e_a)]) hx hb dX1_greatestLeast_59 rfl hl (by decide) rfl (fun ls hl => ?_)
            refine lv_iinc (v := (v4_17 + 1)) (lv' := [(4, .int (v4_17 + 1)), (3, .int q56), (5, .int q29), (2, .int ((1 : Int32) <<< (q7 &&& 31))), (1, .int v1_17), (0, .ref e_a)]) hx hb dX1_greatestLeast_60 hl (k := 2) rfl (by rfl) (by decide) rfl (fun ls hl => ?_)
            refine lv_goto (tgt := 17) hx hb dX1_greatestLeast_63 (by decide) ?_
            exact ih17 (v4_17 + 1) q56 v1_17 _ hM (lv_sub hl [0, 1, 3, 4, 5] rfl)
          · replace hM := ob_neg c_45 hM
            refine lv_iload hx hb dX1_greatestLeast_48 (lv_at hl 0 rfl) ?_
            refine lv_istore_n (lv' := [(1, .int q29), (5, .int q29), (4, .int v4_17), (3, .int v3_17), (2, .int ((1 : Int32) <<< (q7 &&& 31))), (0, .ref e_a)]) hx hb dX1_greatestLeast_50 rfl hl (by decide) rfl (fun ls hl => ?_)
            refine lv_iload_n hx hb dX1_greatestLeast_51 rfl (lv_at hl 3 rfl) ?_
            refine lv_aload_n hx hb dX1_greatestLeast_52 rfl (lv_at hl 5 rfl) ?_
            refine va_get (D := (dC, dI)) (ci := 1) (v := .int e_ma) (C := RX1) (T := TX1) (N := 3) hx hb hts in_X1_greatestLeast_1 hown hK hP 0 rfl rfl 1 (by decide) hf15 (fun _ h9 => h9) rfl dX1_greatestLeast_53 ?_
            obtain ⟨q56, hv56, hM⟩ := ob_bind hM
            refine vp_callSi (va_Run.run (va_runS (As := [.int v3_17, .int e_ma]) (rest := []) ⟨hx, hb, hml, hown, hts⟩ (c_X1_nextSubset l dC dI cI cZ cJ cW v3_17 e_ma q56 hv56) (va_cwS 2 hts gX1_greatestLeast_X1_nextSubset rfl rfl rfl (by decide +kernel) ⟨Nat.le_of_ble_eq_true rfl, Nat.le_of_ble_eq_true rfl⟩) ⟨TP.blind, fun U hU hW => ⟨rfl, trivial⟩⟩ rfl rfl hl.1 rfl (lv_room (Nat.le_of_ble_eq_true rfl)) dX1_greatestLeast_56 ⟨Nat.le_of_ble_eq_true rfl, Nat.le_of_ble_eq_true rfl⟩)) (fun r hr => ?_)
            subst hr
            refine lv_istore_n (lv' := [(3, .int q56), (1, .int q29), (5, .int q29), (4, .int v4_17), (2, .int ((1 : Int32) <<< (q7 &&& 31))), (0, .ref e_a)]) hx hb dX1_greatestLeast_59 rfl hl (by decide) rfl (fun ls hl => ?_)
            refine lv_iinc (v := (v4_17 + 1)) (lv' := [(4, .int (v4_17 + 1)), (3, .int q56), (1, .int q29), (5, .int q29), (2, .int ((1 : Int32) <<< (q7 &&& 31))), (0, .ref e_a)]) hx hb dX1_greatestLeast_60 hl (k := 3) rfl (by rfl) (by decide) rfl (fun ls hl => ?_)
            refine lv_goto (tgt := 17) hx hb dX1_greatestLeast_63 (by decide) ?_
            exact ih17 (v4_17 + 1) q56 q29 _ hM (lv_sub hl [0, 1, 4, 2, 5] rfl)
  exact hL17 20000 0 0 0 _ hM (lv_sub hl [0, 1, 2, 3, 4] rfl)
