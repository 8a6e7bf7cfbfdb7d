/-! X5_costOf -/
abbrev rm_X5_costOf : Room := { frames := 1, cells := 0, slots := 0, locals := 21 }
theorem in_X5_costOf_5 : ∀ w ∈ u_ws RX5 TX5 10, w ∈ wsX5_costOf := by decide +kernel
set_option maxHeartbeats 4000000 in
set_option maxRecDepth 100000 in
theorem c_X5_costOf (l : Launch) (dC : Nat → ClassId) (dI : Nat → Nat → Nat) (cI cZ cJ cW : ClassId) (m_a m_ds_a m_cs_a m_tx_a m_ia_a m_im_a m_ik_a : Nat) (m_sz : Int32) (m_kn : Int32) (m_sg : Int32) (m_fa : Int32) (m_ds : Nat → Int32) (m_cs : Nat → Int32) (m_tx : Nat → Int32) (m_ia : Nat → Int32) (m_im : Nat → Int32) (m_ik : Nat → Int32) (p1 : Int32) (R : Int32) (hM : M_X5_costOf p1 m_sz m_cs = some R) : Met l yX5_costOf wsX5_costOf rm_X5_costOf (va_Pc [.ref m_a, .int p1] (RP (dC, dI) cI cZ cJ cW [(m_a, .inr (5, [.int m_sz, .ref m_ds_a, .ref m_cs_a, .int m_kn, .ref m_tx_a, .int m_sg, .int m_fa, .ref m_ia_a, .ref m_im_a, .ref m_ik_a])), (m_ds_a, .inl (cI, 14, .inl m_ds)), (m_cs_a, .inl (cI, 14, .inl m_cs)), (m_tx_a, .inl (cI, 20, .inl m_tx)), (m_ia_a, .inl (cZ, 16384, .inl m_ia)), (m_im_a, .inl (cI, 60, .inl m_im)), (m_ik_a, .inl (cZ, 2, .inl m_ik))])) (vp_Si (fun r => R = r)) 0 0 (fun _ => False) := by
  refine Met.ofW (cc := cX5_costOf) (maxL := 4) (ret := (some .int)) (by decide) rfl ?_
  intro p e s m args below meth c s₁ B hml hv
  obtain ⟨rfl, hP, hK, hN⟩ := hv
  have hx := B.exec
  have hb := B.bytes
  have hr := B.returns
  have hts := atoms_spec (ws := wsX5_costOf) B.pre
  have hown : s.vm.findClass RX5 = some m.cls := findClass_of_methodNamed B.named
  have hlocks := B.notSynchronized
  have hf7 := hts (.fieldLink RX5 7 "WordGroundsModel" "size" "I") (by decide +kernel)
  have hf17 := hts (.fieldLink RX5 17 "WordGroundsModel" "costs" "[I") (by decide +kernel)
  have hl := lv_entry ([.ref m_a, .int p1]) (n := 4) (Nat.le_of_ble_eq_true rfl)
  rw [lg_entry_eq]
  generalize (lg_sl ([.ref m_a, .int p1]) ++ List.replicate (4 - (lg_sl ([.ref m_a, .int p1])).length) Slot.unset).toArray = ls at hl ⊢
  have hl : lv_has ls 4 [(0, .ref m_a), (1, .int p1)] := hl
  have hM : (L_X5_costOf_4 p1 m_sz m_cs (fun (v3_4 : Int32) (v2_4 : Int32) => some v2_4) 40 0 0) = some R := hM
  refine lv_iconst (v := 0) hx hb dX5_costOf_0 (by decide) ?_
  refine lv_istore_n (lv' := [(2, .int 0), (0, .ref m_a), (1, .int p1)]) hx hb dX5_costOf_1 rfl hl (by decide) rfl (fun ls hl => ?_)
  refine lv_iconst (v := 0) hx hb dX5_costOf_2 (by decide) ?_
  refine lv_istore_n (lv' := [(3, .int 0), (2, .int 0), (0, .ref m_a), (1, .int p1)]) hx hb dX5_costOf_3 rfl hl (by decide) rfl (fun ls hl => ?_)
  obtain ⟨K4, hK4⟩ : ∃ K : Int32 → Int32 → Option (Int32), K = (fun (v3_4 : Int32) (v2_4 : Int32) => some v2_4) := ⟨_, rfl⟩
  have hM : L_X5_costOf_4 p1 m_sz m_cs K4 40 0 0 = some R := by rw [hK4]; exact hM
  have hL4 : ∀ (k4 : Nat) (v3_4 : Int32) (v2_4 : Int32) (ls : Array Slot), L_X5_costOf_4 p1 m_sz m_cs K4 k4 v3_4 v2_4 = some R → lv_has ls 4 [(3, .int v3_4), (2, .int v2_4), (0, .ref m_a), (1, .int p1)] → W p l e rm_X5_costOf s m ([.ref m_a, .int p1] : List Value).toArray below meth c s.heap [] 0 0 (MQ below (vp_Si (fun r => R = r)) ([.ref m_a, .int p1] : List Value).toArray s 0 0 (fun _ => False)) (F0 m 4 ls []) := by
    intro k4
    induction k4 with
    | zero => intro v3_4 v2_4 ls hM; exact (ob_none hM).elim
    | succ k4 ih4 =>
      intro v3_4 v2_4 ls hM hl
      have hM : (if m_sz ≤ v3_4 then (K4 v3_4 v2_4) else ((M_X5_has p1 v3_4).bind (fun q15 => if q15 = 0 then (L_X5_costOf_4 p1 m_sz m_cs K4 k4 (v3_4 + 1) (v2_4 + 0)) else (if v3_4 < 0 ∨ 14 ≤ (v3_4).toNatClampNeg then none else (L_X5_costOf_4 p1 m_sz m_cs K4 k4 (v3_4 + 1) (v2_4 + (m_cs (v3_4).toNatClampNeg))))))) = some R := hM
      refine lv_iload_n hx hb dX5_costOf_4 rfl (lv_at hl 0 rfl) ?_
      refine lv_aload_n hx hb dX5_costOf_5 rfl (lv_at hl 2 rfl) ?_
      refine va_get (D := (dC, dI)) (ci := 5) (v := .int m_sz) (C := RX5) (T := TX5) (N := 10) hx hb hts in_X5_costOf_5 hown hK hP 0 rfl rfl 0 (by decide) hf7 (fun _ h9 => h9) rfl dX5_costOf_6 ?_
      refine lv_icmp_ge (tgt := 39) hx hb dX5_costOf_9 (by decide) (fun c_9 => ?_) (fun c_9 => ?_)
      · replace hM := ob_pos c_9 hM
        have hM : (some v2_4) = some R := by rw [hK4] at hM; exact hM
        refine lv_iload_n hx hb dX5_costOf_39 rfl (lv_at hl 1 rfl) ?_
        exact W.iret (v := v2_4) hx hb hr (fun t ht hW => ⟨_, rfl, (Option.some.inj hM).symm, ht⟩) (fun _ h => by cases h) dX5_costOf_40
      · replace hM := ob_neg c_9 hM
        refine lv_iload_n hx hb dX5_costOf_12 rfl (lv_at hl 1 rfl) ?_
        refine lv_iload_n hx hb dX5_costOf_13 rfl (lv_at hl 3 rfl) ?_
        refine lv_iload_n hx hb dX5_costOf_14 rfl (lv_at hl 0 rfl) ?_
        obtain ⟨q15, hv15, hM⟩ := ob_bind hM
        refine vp_callSi (va_Run.run (va_runS (As := [.int p1, .int v3_4]) (rest := [.int v2_4]) ⟨hx, hb, hml, hown, hts⟩ (c_X5_has l dC dI cI cZ cJ cW p1 v3_4 q15 hv15) (va_cwS 2 hts gX5_costOf_X5_has rfl rfl rfl (by decide +kernel) ⟨Nat.le_of_ble_eq_true rfl, Nat.le_of_ble_eq_true rfl⟩) ⟨TP.blind, fun U hU hW => ⟨rfl, trivial⟩⟩ rfl rfl hl.1 rfl (lv_room (Nat.le_of_ble_eq_true rfl)) dX5_costOf_15 ⟨Nat.le_of_ble_eq_true rfl, Nat.le_of_ble_eq_true rfl⟩)) (fun r hr => ?_)
        subst hr
        refine lv_if_eq (tgt := 30) hx hb dX5_costOf_18 (by decide) (fun c_18 => ?_) (fun c_18 => ?_)
        · replace hM := ob_pos c_18 hM
          refine lv_iconst (v := 0) hx hb dX5_costOf_30 (by decide) ?_
          refine lv_iadd hx hb dX5_costOf_31 ?_
          refine lv_istore_n (lv' := [(2, .int (v2_4 + 0)), (3, .int v3_4), (0, .ref m_a), (1, .int p1)]) hx hb dX5_costOf_32 rfl hl (by decide) rfl (fun ls hl => ?_)
          refine lv_iinc (v := (v3_4 + 1)) (lv' := [(3, .int (v3_4 + 1)), (2, .int (v2_4 + 0)), (0, .ref m_a), (1, .int p1)]) hx hb dX5_costOf_33 hl (k := 1) rfl (by rfl) (by decide) rfl (fun ls hl => ?_)
          refine lv_goto (tgt := 4) hx hb dX5_costOf_36 (by decide) ?_
          exact ih4 (v3_4 + 1) (v2_4 + 0) _ hM (lv_sub hl [0, 1, 2, 3] rfl)
        · replace hM := ob_neg c_18 hM
          refine lv_aload_n hx hb dX5_costOf_21 rfl (lv_at hl 2 rfl) ?_
          refine va_get (D := (dC, dI)) (ci := 5) (v := .ref m_cs_a) (C := RX5) (T := TX5) (N := 10) hx hb hts in_X5_costOf_5 hown hK hP 0 rfl rfl 2 (by decide) hf17 (fun _ h9 => h9) rfl dX5_costOf_22 ?_
          refine lv_iload_n hx hb dX5_costOf_25 rfl (lv_at hl 0 rfl) ?_
          obtain ⟨h_26, hM⟩ := ob_get hM
          refine va_iald hx hb hK hP 2 0 rfl rfl h_26 dX5_costOf_26 ?_
          refine lv_goto (tgt := 31) hx hb dX5_costOf_27 (by decide) ?_
          refine lv_iadd hx hb dX5_costOf_31 ?_
          refine lv_istore_n (lv' := [(2, .int (v2_4 + (m_cs (v3_4).toNatClampNeg))), (3, .int v3_4), (0, .ref m_a), (1, .int p1)]) hx hb dX5_costOf_32 rfl hl (by decide) rfl (fun ls hl => ?_)
          refine lv_iinc (v := (v3_4 + 1)) (lv' := [(3, .int (v3_4 + 1)), (2, .int (v2_4 + (m_cs (v3_4).toNatClampNeg))), (0, .ref m_a), (1, .int p1)]) hx hb dX5_costOf_33 hl (k := 1) rfl (by rfl) (by decide) rfl (fun ls hl => ?_)
          refine lv_goto (tgt := 4) hx hb dX5_costOf_36 (by decide) ?_
          exact ih4 (v3_4 + 1) (v2_4 + (m_cs (v3_4).toNatClampNeg)) _ hM (lv_sub hl [0, 1, 2, 3] rfl)
  exact hL4 40 0 0 _ hM (lv_sub hl [0, 1, 2, 3] rfl)
/-! X5_isBetter -/
abbrev rm_X5_isBetter : Room := { frames := 2, cells := 0, slots := 0, locals := 44 }
set_option maxHeartbeats 4000000 in
set_option maxRecDepth 100000 in
theorem c_X5_isBetter (l : Launch) (dC : Nat → ClassId) (dI : Nat → Nat → Nat) (cI cZ cJ cW : ClassId) (m_a m_ds_a m_cs_a m_tx_a m_ia_a m_im_a m_ik_a : Nat) (m_sz : Int32) (m_kn : Int32) (m_sg : Int32) (m_fa : Int32) (m_ds : Nat → Int32) (m_cs : Nat → Int32) (m_tx : Nat → Int32) (m_ia : Nat → Int32) (m_im : Nat → Int32) (m_ik : Nat → Int32) (p1 : Int32) (p2 : Int32) (R : Int32) (hM : M_X5_isBetter p1 p2 m_sz m_cs = some R) : Met l yX5_isBetter wsX5_isBetter rm_X5_isBetter (va_Pc [.ref m_a, .int p1, .int p2] (RP (dC, dI) cI cZ cJ cW [(m_a, .inr (5, [.int m_sz, .ref m_ds_a, .ref m_cs_a, .int m_kn, .ref m_tx_a, .int m_sg, .int m_fa, .ref m_ia_a, .ref m_im_a, .ref m_ik_a])), (m_ds_a, .inl (cI, 14, .inl m_ds)), (m_cs_a, .inl (cI, 14, .inl m_cs)), (m_tx_a, .inl (cI, 20, .inl m_tx)), (m_ia_a, .inl (cZ, 16384, .inl m_ia)), (m_im_a, .inl (cI, 60, .inl m_im)), (m_ik_a, .inl (cZ, 2, .inl m_ik))])) (vp_Si (fun r => R = r)) 0 0 (fun _ => False) := by
  refine Met.ofW (cc := cX5_isBetter) (maxL := 3) (ret := (some .boolean)) (by decide) rfl ?_
  intro p e s m args below meth c s₁ B hml hv
  obtain ⟨rfl, hP, hK, hN⟩ := hv
  have hx := B.exec
  have hb := B.bytes
  have hr := B.returns
  have hts := atoms_spec (ws := wsX5_isBetter) B.pre
  have hown : s.vm.findClass RX5 = some m.cls := findClass_of_methodNamed B.named
  have hlocks := B.notSynchronized
  have hl := lv_entry ([.ref m_a, .int p1, .int p2]) (n := 3) (Nat.le_of_ble_eq_true rfl)
  rw [lg_entry_eq]
  generalize (lg_sl ([.ref m_a, .int p1, .int p2]) ++ List.replicate (3 - (lg_sl ([.ref m_a, .int p1, .int p2])).length) Slot.unset).toArray = ls at hl ⊢
  have hl : lv_has ls 3 [(0, .ref m_a), (1, .int p1), (2, .int p2)] := hl
  have hM : ((M_X5_costOf p1 m_sz m_cs).bind (fun q2 => (M_X5_costOf p2 m_sz m_cs).bind (fun q7 => if q2 = q7 then ((M_X5_bits p1).bind (fun q33 => (M_X5_bits p2).bind (fun q37 => if q37 ≤ q33 then (some 0) else (some 1)))) else ((M_X5_costOf p1 m_sz m_cs).bind (fun q15 => (M_X5_costOf p2 m_sz m_cs).bind (fun q20 => if q20 ≤ q15 then (some 0) else (some 1))))))) = some R := hM
  refine lv_aload_n hx hb dX5_isBetter_0 rfl (lv_at hl 0 rfl) ?_
  refine lv_iload_n hx hb dX5_isBetter_1 rfl (lv_at hl 1 rfl) ?_
  obtain ⟨q2, hv2, hM⟩ := ob_bind hM
  refine vp_callSi (va_Run.run (va_runV (As := [.int p1]) (rest := []) ⟨hx, hb, hml, hown, hts⟩ (c_X5_costOf l dC dI cI cZ cJ cW m_a m_ds_a m_cs_a m_tx_a m_ia_a m_im_a m_ik_a m_sz m_kn m_sg m_fa m_ds m_cs m_tx m_ia m_im m_ik p1 q2 hv2) (cwV 1 hts gX5_isBetter_X5_costOf rfl rfl rfl (by decide +kernel) ⟨Nat.le_of_ble_eq_true rfl, Nat.le_of_ble_eq_true rfl⟩) ⟨RP.blind, va_recv hK hP (ci := 5) (q0 := 0) rfl rfl, fun U hU hW => ⟨rfl, by rw [hU]; exact hP.sub (ws' := [(m_a, .inr (5, [.int m_sz, .ref m_ds_a, .ref m_cs_a, .int m_kn, .ref m_tx_a, .int m_sg, .int m_fa, .ref m_ia_a, .ref m_im_a, .ref m_ik_a])), (m_ds_a, .inl (cI, 14, .inl m_ds)), (m_cs_a, .inl (cI, 14, .inl m_cs)), (m_tx_a, .inl (cI, 20, .inl m_tx)), (m_ia_a, .inl (cZ, 16384, .inl m_ia)), (m_im_a, .inl (cI, 60, .inl m_im)), (m_ik_a, .inl (cZ, 2, .inl m_ik))]) [0, 1, 2, 3, 4, 5, 6] rfl, va_K.moved hW.alike hK, hN.warm hW⟩⟩ rfl rfl hl.1 rfl (lv_room (Nat.le_of_ble_eq_true rfl)) dX5_isBetter_2 ⟨Nat.le_of_ble_eq_true rfl, Nat.le_of_ble_eq_true rfl⟩)) (fun r hr => ?_)
  subst hr
  refine lv_aload_n hx hb dX5_isBetter_5 rfl (lv_at hl 0 rfl) ?_
  refine lv_iload_n hx hb dX5_isBetter_6 rfl (lv_at hl 2 rfl) ?_
  obtain ⟨q7, hv7, hM⟩ := ob_bind hM
  refine vp_callSi (va_Run.run (va_runV (As := [.int p2]) (rest := [.int q2]) ⟨hx, hb, hml, hown, hts⟩ (c_X5_costOf l dC dI cI cZ cJ cW m_a m_ds_a m_cs_a m_tx_a m_ia_a m_im_a m_ik_a m_sz m_kn m_sg m_fa m_ds m_cs m_tx m_ia m_im m_ik p2 q7 hv7) (cwV 1 hts gX5_isBetter_X5_costOf rfl rfl rfl (by decide +kernel) ⟨Nat.le_of_ble_eq_true rfl, Nat.le_of_ble_eq_true rfl⟩) ⟨RP.blind, va_recv hK hP (ci := 5) (q0 := 0) rfl rfl, fun U hU hW => ⟨rfl, by rw [hU]; exact hP.sub (ws' := [(m_a, .inr (5, [.int m_sz, .ref m_ds_a, .ref m_cs_a, .int m_kn, .ref m_tx_a, .int m_sg, .int m_fa, .ref m_ia_a, .ref m_im_a, .ref m_ik_a])), (m_ds_a, .inl (cI, 14, .inl m_ds)), (m_cs_a, .inl (cI, 14, .inl m_cs)), (m_tx_a, .inl (cI, 20, .inl m_tx)), (m_ia_a, .inl (cZ, 16384, .inl m_ia)), (m_im_a, .inl (cI, 60, .inl m_im)), (m_ik_a, .inl (cZ, 2, .inl m_ik))]) [0, 1, 2, 3, 4, 5, 6] rfl, va_K.moved hW.alike hK, hN.warm hW⟩⟩ rfl rfl hl.1 rfl (lv_room (Nat.le_of_ble_eq_true rfl)) dX5_isBetter_7 ⟨Nat.le_of_ble_eq_true rfl, Nat.le_of_ble_eq_true rfl⟩)) (fun r hr => ?_)
  subst hr
  refine lv_icmp_eq (tgt := 32) hx hb dX5_isBetter_10 (by decide) (fun c_10 => ?_) (fun c_10 => ?_)
  · replace hM := ob_pos c_10 hM
    refine lv_iload_n hx hb dX5_isBetter_32 rfl (lv_at hl 1 rfl) ?_
    obtain ⟨q33, hv33, hM⟩ := ob_bind hM
    refine vp_callSi (va_Run.run (va_runS (As := [.int p1]) (rest := []) ⟨hx, hb, hml, hown, hts⟩ (c_X5_bits l dC dI cI cZ cJ cW p1 q33 hv33) (va_cwS 1 hts gX5_isBetter_X5_bits rfl rfl rfl (by decide +kernel) ⟨Nat.le_of_ble_eq_true rfl, Nat.le_of_ble_eq_true rfl⟩) ⟨TP.blind, fun U hU hW => ⟨rfl, trivial⟩⟩ rfl rfl hl.1 rfl (lv_room (Nat.le_of_ble_eq_true rfl)) dX5_isBetter_33 ⟨Nat.le_of_ble_eq_true rfl, Nat.le_of_ble_eq_true rfl⟩)) (fun r hr => ?_)
    subst hr
    refine lv_iload_n hx hb dX5_isBetter_36 rfl (lv_at hl 2 rfl) ?_
    obtain ⟨q37, hv37, hM⟩ := ob_bind hM
    refine vp_callSi (va_Run.run (va_runS (As := [.int p2]) (rest := [.int q33]) ⟨hx, hb, hml, hown, hts⟩ (c_X5_bits l dC dI cI cZ cJ cW p2 q37 hv37) (va_cwS 1 hts gX5_isBetter_X5_bits rfl rfl rfl (by decide +kernel) ⟨Nat.le_of_ble_eq_true rfl, Nat.le_of_ble_eq_true rfl⟩) ⟨TP.blind, fun U hU hW => ⟨rfl, trivial⟩⟩ rfl rfl hl.1 rfl (lv_room (Nat.le_of_ble_eq_true rfl)) dX5_isBetter_37 ⟨Nat.le_of_ble_eq_true rfl, Nat.le_of_ble_eq_true rfl⟩)) (fun r hr => ?_)
    subst hr
    refine lv_icmp_ge (tgt := 47) hx hb dX5_isBetter_40 (by decide) (fun c_40 => ?_) (fun c_40 => ?_)
    · replace hM := ob_pos c_40 hM
      refine lv_iconst (v := 0) hx hb dX5_isBetter_47 (by decide) ?_
      exact W.zret (v := 0) hx hb hr (by rfl) (fun t ht hW => ⟨_, rfl, (Option.some.inj hM).symm, ht⟩) (fun _ h => by cases h) dX5_isBetter_48
    · replace hM := ob_neg c_40 hM
      refine lv_iconst (v := 1) hx hb dX5_isBetter_43 (by decide) ?_
      refine lv_goto (tgt := 48) hx hb dX5_isBetter_44 (by decide) ?_
      exact W.zret (v := 1) hx hb hr (by rfl) (fun t ht hW => ⟨_, rfl, (Option.some.inj hM).symm, ht⟩) (fun _ h => by cases h) dX5_isBetter_48
  · replace hM := ob_neg c_10 hM
    refine lv_aload_n hx hb dX5_isBetter_13 rfl (lv_at hl 0 rfl) ?_
    refine lv_iload_n hx hb dX5_isBetter_14 rfl (lv_at hl 1 rfl) ?_
    obtain ⟨q15, hv15, hM⟩ := ob_bind hM
    refine vp_callSi (va_Run.run (va_runV (As := [.int p1]) (rest := []) ⟨hx, hb, hml, hown, hts⟩ (c_X5_costOf l dC dI cI cZ cJ cW m_a m_ds_a m_cs_a m_tx_a m_ia_a m_im_a m_ik_a m_sz m_kn m_sg m_fa m_ds m_cs m_tx m_ia m_im m_ik p1 q15 hv15) (cwV 1 hts gX5_isBetter_X5_costOf rfl rfl rfl (by decide +kernel) ⟨Nat.le_of_ble_eq_true rfl, Nat.le_of_ble_eq_true rfl⟩) ⟨RP.blind, va_recv hK hP (ci := 5) (q0 := 0) rfl rfl, fun U hU hW => ⟨rfl, by rw [hU]; exact hP.sub (ws' := [(m_a, .inr (5, [.int m_sz, .ref m_ds_a, .ref m_cs_a, .int m_kn, .ref m_tx_a, .int m_sg, .int m_fa, .ref m_ia_a, .ref m_im_a, .ref m_ik_a])), (m_ds_a, .inl (cI, 14, .inl m_ds)), (m_cs_a, .inl (cI, 14, .inl m_cs)), (m_tx_a, .inl (cI, 20, .inl m_tx)), (m_ia_a, .inl (cZ, 16384, .inl m_ia)), (m_im_a, .inl (cI, 60, .inl m_im)), (m_ik_a, .inl (cZ, 2, .inl m_ik))]) [0, 1, 2, 3, 4, 5, 6] rfl, va_K.moved hW.alike hK, hN.warm hW⟩⟩ rfl rfl hl.1 rfl (lv_room (Nat.le_of_ble_eq_true rfl)) dX5_isBetter_15 ⟨Nat.le_of_ble_eq_true rfl, Nat.le_of_ble_eq_true rfl⟩)) (fun r hr => ?_)
    subst hr
    refine lv_aload_n hx hb dX5_isBetter_18 rfl (lv_at hl 0 rfl) ?_
    refine lv_iload_n hx hb dX5_isBetter_19 rfl (lv_at hl 2 rfl) ?_
    obtain ⟨q20, hv20, hM⟩ := ob_bind hM
    refine vp_callSi (va_Run.run (va_runV (As := [.int p2]) (rest := [.int q15]) ⟨hx, hb, hml, hown, hts⟩ (c_X5_costOf l dC dI cI cZ cJ cW m_a m_ds_a m_cs_a m_tx_a m_ia_a m_im_a m_ik_a m_sz m_kn m_sg m_fa m_ds m_cs m_tx m_ia m_im m_ik p2 q20 hv20) (cwV 1 hts gX5_isBetter_X5_costOf rfl rfl rfl (by decide +kernel) ⟨Nat.le_of_ble_eq_true rfl, Nat.le_of_ble_eq_true rfl⟩) ⟨RP.blind, va_recv hK hP (ci := 5) (q0 := 0) rfl rfl, fun U hU hW => ⟨rfl, by rw [hU]; exact hP.sub (ws' := [(m_a, .inr (5, [.int m_sz, .ref m_ds_a, .ref m_cs_a, .int m_kn, .ref m_tx_a, .int m_sg, .int m_fa, .ref m_ia_a, .ref m_im_a, .ref m_ik_a])), (m_ds_a, .inl (cI, 14, .inl m_ds)), (m_cs_a, .inl (cI, 14, .inl m_cs)), (m_tx_a, .inl (cI, 20, .inl m_tx)), (m_ia_a, .inl (cZ, 16384, .inl m_ia)), (m_im_a, .inl (cI, 60, .inl m_im)), (m_ik_a, .inl (cZ, 2, .inl m_ik))]) [0, 1, 2, 3, 4, 5, 6] rfl, va_K.moved hW.alike hK, hN.warm hW⟩⟩ rfl rfl hl.1 rfl (lv_room (Nat.le_of_ble_eq_true rfl)) dX5_isBetter_20 ⟨Nat.le_of_ble_eq_true rfl, Nat.le_of_ble_eq_true rfl⟩)) (fun r hr => ?_)
    subst hr
    refine lv_icmp_ge (tgt := 30) hx hb dX5_isBetter_23 (by decide) (fun c_23 => ?_) (fun c_23 => ?_)
    · replace hM := ob_pos c_23 hM
      refine lv_iconst (v := 0) hx hb dX5_isBetter_30 (by decide) ?_
      exact W.zret (v := 0) hx hb hr (by rfl) (fun t ht hW => ⟨_, rfl, (Option.some.inj hM).symm, ht⟩) (fun _ h => by cases h) dX5_isBetter_31
    · replace hM := ob_neg c_23 hM
      refine lv_iconst (v := 1) hx hb dX5_isBetter_26 (by decide) ?_
      refine lv_goto (tgt := 31) hx hb dX5_isBetter_27 (by decide) ?_
      exact W.zret (v := 1) hx hb hr (by rfl) (fun t ht hW => ⟨_, rfl, (Option.some.inj hM).symm, ht⟩) (fun _ h => by cases h) dX5_isBetter_31
/-! X5_planFor -/
abbrev rm_X5_planFor : Room := { frames := 3, cells := 0, slots := 0, locals := 66 }
set_option maxHeartbeats 4000000 in
set_option maxRecDepth 100000 in
theorem c_X5_planFor (l : Launch) (dC : Nat → ClassId) (dI : Nat → Nat → Nat) (cI cZ cJ cW : ClassId) (m_a m_ds_a m_cs_a m_tx_a m_ia_a m_im_a m_ik_a : Nat) (m_sz : Int32) (m_kn : Int32) (m_sg : Int32) (m_fa : Int32) (m_ds : Nat → Int32) (m_cs : Nat → Int32) (m_tx : Nat → Int32) (m_ia : Nat → Int32) (m_im : Nat → Int32) (m_ik : Nat → Int32) (p1 : Int32) (R : Int32) (hM : M_X5_planFor p1 m_sz m_ds m_cs = some R) : Met l yX5_planFor wsX5_planFor rm_X5_planFor (va_Pc [.ref m_a, .int p1] (RP (dC, dI) cI cZ cJ cW [(m_a, .inr (5, [.int m_sz, .ref m_ds_a, .ref m_cs_a, .int m_kn, .ref m_tx_a, .int m_sg, .int m_fa, .ref m_ia_a, .ref m_im_a, .ref m_ik_a])), (m_ds_a, .inl (cI, 14, .inl m_ds)), (m_cs_a, .inl (cI, 14, .inl m_cs)), (m_tx_a, .inl (cI, 20, .inl m_tx)), (m_ia_a, .inl (cZ, 16384, .inl m_ia)), (m_im_a, .inl (cI, 60, .inl m_im)), (m_ik_a, .inl (cZ, 2, .inl m_ik))])) (vp_Si (fun r => R = r)) 0 0 (fun _ => False) := by
  refine Met.ofW (cc := cX5_planFor) (maxL := 4) (ret := (some .int)) (by decide) rfl ?_
  intro p e s m args below meth c s₁ B hml hv
  obtain ⟨rfl, hP, hK, hN⟩ := hv
  have hx := B.exec
  have hb := B.bytes
  have hr := B.returns
  have hts := atoms_spec (ws := wsX5_planFor) B.pre
  have hown : s.vm.findClass RX5 = some m.cls := findClass_of_methodNamed B.named
  have hlocks := B.notSynchronized
  have hl := lv_entry ([.ref m_a, .int p1]) (n := 4) (Nat.le_of_ble_eq_true rfl)
  rw [lg_entry_eq]
  generalize (lg_sl ([.ref m_a, .int p1]) ++ List.replicate (4 - (lg_sl ([.ref m_a, .int p1])).length) Slot.unset).toArray = ls at hl ⊢
  have hl : lv_has ls 4 [(0, .ref m_a), (1, .int p1)] := hl
  have hM : ((M_X5_all m_sz).bind (fun q1 => L_X5_planFor_11 p1 m_sz m_ds m_cs (fun (v3_11 : Int32) (v2_11 : Int32) => some v2_11) 20000 0 (q1 &&& (p1 ^^^ (-1))))) = some R := hM
  refine lv_aload_n hx hb dX5_planFor_0 rfl (lv_at hl 0 rfl) ?_
  obtain ⟨q1, hv1, hM⟩ := ob_bind hM
  refine vp_callSi (va_Run.run (va_runV (As := []) (rest := []) ⟨hx, hb, hml, hown, hts⟩ (c_X5_all l dC dI cI cZ cJ cW m_a m_ds_a m_cs_a m_tx_a m_ia_a m_im_a m_ik_a m_sz m_kn m_sg m_fa m_ds m_cs m_tx m_ia m_im m_ik q1 hv1) (cwV 0 hts gX5_planFor_X5_all rfl rfl rfl (by decide +kernel) ⟨Nat.le_of_ble_eq_true rfl, Nat.le_of_ble_eq_true rfl⟩) ⟨RP.blind, va_recv hK hP (ci := 5) (q0 := 0) rfl rfl, fun U hU hW => ⟨rfl, by rw [hU]; exact hP.sub (ws' := [(m_a, .inr (5, [.int m_sz, .ref m_ds_a, .ref m_cs_a, .int m_kn, .ref m_tx_a, .int m_sg, .int m_fa, .ref m_ia_a, .ref m_im_a, .ref m_ik_a])), (m_ds_a, .inl (cI, 14, .inl m_ds)), (m_cs_a, .inl (cI, 14, .inl m_cs)), (m_tx_a, .inl (cI, 20, .inl m_tx)), (m_ia_a, .inl (cZ, 16384, .inl m_ia)), (m_im_a, .inl (cI, 60, .inl m_im)), (m_ik_a, .inl (cZ, 2, .inl m_ik))]) [0, 1, 2, 3, 4, 5, 6] rfl, va_K.moved hW.alike hK, hN.warm hW⟩⟩ rfl rfl hl.1 rfl (lv_room (Nat.le_of_ble_eq_true rfl)) dX5_planFor_1 ⟨Nat.le_of_ble_eq_true rfl, Nat.le_of_ble_eq_true rfl⟩)) (fun r hr => ?_)
  subst hr
  refine lv_iload_n hx hb dX5_planFor_4 rfl (lv_at hl 1 rfl) ?_
  refine lv_iconst (v := (-1)) hx hb dX5_planFor_5 (by decide) ?_
  refine lv_ixor hx hb dX5_planFor_6 ?_
  refine lv_iand hx hb dX5_planFor_7 ?_
  refine lv_istore_n (lv' := [(2, .int (q1 &&& (p1 ^^^ (-1)))), (0, .ref m_a), (1, .int p1)]) hx hb dX5_planFor_8 rfl hl (by decide) rfl (fun ls hl => ?_)
  refine lv_iconst (v := 0) hx hb dX5_planFor_9 (by decide) ?_
  refine lv_istore_n (lv' := [(3, .int 0), (2, .int (q1 &&& (p1 ^^^ (-1)))), (0, .ref m_a), (1, .int p1)]) hx hb dX5_planFor_10 rfl hl (by decide) rfl (fun ls hl => ?_)
  obtain ⟨K11, hK11⟩ : ∃ K : Int32 → Int32 → Option (Int32), K = (fun (v3_11 : Int32) (v2_11 : Int32) => some v2_11) := ⟨_, rfl⟩
  have hM : L_X5_planFor_11 p1 m_sz m_ds m_cs K11 20000 0 (q1 &&& (p1 ^^^ (-1))) = some R := by rw [hK11]; exact hM
  have hL11 : ∀ (k11 : Nat) (v3_11 : Int32) (v2_11 : Int32) (ls : Array Slot), L_X5_planFor_11 p1 m_sz m_ds m_cs K11 k11 v3_11 v2_11 = some R → lv_has ls 4 [(3, .int v3_11), (2, .int v2_11), (0, .ref m_a), (1, .int p1)] → W p l e rm_X5_planFor s m ([.ref m_a, .int p1] : List Value).toArray below meth c s.heap [] 0 0 (MQ below (vp_Si (fun r => R = r)) ([.ref m_a, .int p1] : List Value).toArray s 0 0 (fun _ => False)) (F0 m 11 ls []) := by
    intro k11
    induction k11 with
    | zero => intro v3_11 v2_11 ls hM; exact (ob_none hM).elim
    | succ k11 ih11 =>
      intro v3_11 v2_11 ls hM hl
      have hM : ((M_X5_all m_sz).bind (fun q13 => if q13 < v3_11 then (K11 v3_11 v2_11) else (if (v3_11 &&& p1) = 0 then ((M_X5_isBetter v3_11 v2_11 m_sz m_cs).bind (fun q28 => if q28 = 0 then (if v2_11 ≤ v3_11 then (L_X5_planFor_11 p1 m_sz m_ds m_cs K11 k11 (v3_11 + 1) v2_11) else ((M_X5_isBetter v2_11 v3_11 m_sz m_cs).bind (fun q42 => if q42 = 0 then ((M_X5_knownOn (p1 ||| v3_11) 14 m_sz m_ds).bind (fun q54 => (M_X5_all m_sz).bind (fun q58 => if q54 = q58 then (L_X5_planFor_11 p1 m_sz m_ds m_cs K11 k11 (v3_11 + 1) v3_11) else (L_X5_planFor_11 p1 m_sz m_ds m_cs K11 k11 (v3_11 + 1) v2_11)))) else (L_X5_planFor_11 p1 m_sz m_ds m_cs K11 k11 (v3_11 + 1) v2_11)))) else ((M_X5_knownOn (p1 ||| v3_11) 14 m_sz m_ds).bind (fun q54 => (M_X5_all m_sz).bind (fun q58 => if q54 = q58 then (L_X5_planFor_11 p1 m_sz m_ds m_cs K11 k11 (v3_11 + 1) v3_11) else (L_X5_planFor_11 p1 m_sz m_ds m_cs K11 k11 (v3_11 + 1) v2_11)))))) else (L_X5_planFor_11 p1 m_sz m_ds m_cs K11 k11 (v3_11 + 1) v2_11)))) = some R := hM
      refine lv_iload_n hx hb dX5_planFor_11 rfl (lv_at hl 0 rfl) ?_
      refine lv_aload_n hx hb dX5_planFor_12 rfl (lv_at hl 2 rfl) ?_
      obtain ⟨q13, hv13, hM⟩ := ob_bind hM
      refine vp_callSi (va_Run.run (va_runV (As := []) (rest := [.int v3_11]) ⟨hx, hb, hml, hown, hts⟩ (c_X5_all l dC dI cI cZ cJ cW m_a m_ds_a m_cs_a m_tx_a m_ia_a m_im_a m_ik_a m_sz m_kn m_sg m_fa m_ds m_cs m_tx m_ia m_im m_ik q13 hv13) (cwV 0 hts gX5_planFor_X5_all rfl rfl rfl (by decide +kernel) ⟨Nat.le_of_ble_eq_true rfl, Nat.le_of_ble_eq_true rfl⟩) ⟨RP.blind, va_recv hK hP (ci := 5) (q0 := 0) rfl rfl, fun U hU hW => ⟨rfl, by rw [hU]; exact hP.sub (ws' := [(m_a, .inr (5, [.int m_sz, .ref m_ds_a, .ref m_cs_a, .int m_kn, .ref m_tx_a, .int m_sg, .int m_fa, .ref m_ia_a, .ref m_im_a, .ref m_ik_a])), (m_ds_a, .inl (cI, 14, .inl m_ds)), (m_cs_a, .inl (cI, 14, .inl m_cs)), (m_tx_a, .inl (cI, 20, .inl m_tx)), (m_ia_a, .inl (cZ, 16384, .inl m_ia)), (m_im_a, .inl (cI, 60, .inl m_im)), (m_ik_a, .inl (cZ, 2, .inl m_ik))]) [0, 1, 2, 3, 4, 5, 6] rfl, va_K.moved hW.alike hK, hN.warm hW⟩⟩ rfl rfl hl.1 rfl (lv_room (Nat.le_of_ble_eq_true rfl)) dX5_planFor_13 ⟨Nat.le_of_ble_eq_true rfl, Nat.le_of_ble_eq_true rfl⟩)) (fun r hr => ?_)
      subst hr
      refine lv_icmp_gt (tgt := 72) hx hb dX5_planFor_16 (by decide) (fun c_16 => ?_) (fun c_16 => ?_)
      · replace hM := ob_pos c_16 hM
        have hM : (some v2_11) = some R := by rw [hK11] at hM; exact hM
        refine lv_iload_n hx hb dX5_planFor_72 rfl (lv_at hl 1 rfl) ?_
        exact W.iret (v := v2_11) hx hb hr (fun t ht hW => ⟨_, rfl, (Option.some.inj hM).symm, ht⟩) (fun _ h => by cases h) dX5_planFor_73
      · replace hM := ob_neg c_16 hM
        refine lv_iload_n hx hb dX5_planFor_19 rfl (lv_at hl 0 rfl) ?_
        refine lv_iload_n hx hb dX5_planFor_20 rfl (lv_at hl 3 rfl) ?_
        refine lv_iand hx hb dX5_planFor_21 ?_
        refine lv_if_ne (tgt := 66) hx hb dX5_planFor_22 (by decide) (fun c_22 => ?_) (fun c_22 => ?_)
        · replace hM := ob_neg c_22 hM
          refine lv_iinc (v := (v3_11 + 1)) (lv' := [(3, .int (v3_11 + 1)), (2, .int v2_11), (0, .ref m_a), (1, .int p1)]) hx hb dX5_planFor_66 hl (k := 0) rfl (by rfl) (by decide) rfl (fun ls hl => ?_)
          refine lv_goto (tgt := 11) hx hb dX5_planFor_69 (by decide) ?_
          exact ih11 (v3_11 + 1) v2_11 _ hM (lv_sub hl [0, 1, 2, 3] rfl)
        · replace hM := ob_pos c_22 hM
          refine lv_aload_n hx hb dX5_planFor_25 rfl (lv_at hl 2 rfl) ?_
          refine lv_iload_n hx hb dX5_planFor_26 rfl (lv_at hl 0 rfl) ?_
          refine lv_iload_n hx hb dX5_planFor_27 rfl (lv_at hl 1 rfl) ?_
          obtain ⟨q28, hv28, hM⟩ := ob_bind hM
          refine vp_callSi (va_Run.run (va_runV (As := [.int v3_11, .int v2_11]) (rest := []) ⟨hx, hb, hml, hown, hts⟩ (c_X5_isBetter l dC dI cI cZ cJ cW m_a m_ds_a m_cs_a m_tx_a m_ia_a m_im_a m_ik_a m_sz m_kn m_sg m_fa m_ds m_cs m_tx m_ia m_im m_ik v3_11 v2_11 q28 hv28) (cwV 2 hts gX5_planFor_X5_isBetter rfl rfl rfl (by decide +kernel) ⟨Nat.le_of_ble_eq_true rfl, Nat.le_of_ble_eq_true rfl⟩) ⟨RP.blind, va_recv hK hP (ci := 5) (q0 := 0) rfl rfl, fun U hU hW => ⟨rfl, by rw [hU]; exact hP.sub (ws' := [(m_a, .inr (5, [.int m_sz, .ref m_ds_a, .ref m_cs_a, .int m_kn, .ref m_tx_a, .int m_sg, .int m_fa, .ref m_ia_a, .ref m_im_a, .ref m_ik_a])), (m_ds_a, .inl (cI, 14, .inl m_ds)), (m_cs_a, .inl (cI, 14, .inl m_cs)), (m_tx_a, .inl (cI, 20, .inl m_tx)), (m_ia_a, .inl (cZ, 16384, .inl m_ia)), (m_im_a, .inl (cI, 60, .inl m_im)), (m_ik_a, .inl (cZ, 2, .inl m_ik))]) [0, 1, 2, 3, 4, 5, 6] rfl, va_K.moved hW.alike hK, hN.warm hW⟩⟩ rfl rfl hl.1 rfl (lv_room (Nat.le_of_ble_eq_true rfl)) dX5_planFor_28 ⟨Nat.le_of_ble_eq_true rfl, Nat.le_of_ble_eq_true rfl⟩)) (fun r hr => ?_)
          subst hr
          refine lv_if_ne (tgt := 48) hx hb dX5_planFor_31 (by decide) (fun c_31 => ?_) (fun c_31 => ?_)
          · replace hM := ob_neg c_31 hM
            refine lv_aload_n hx hb dX5_planFor_48 rfl (lv_at hl 2 rfl) ?_
            refine lv_iload_n hx hb dX5_planFor_49 rfl (lv_at hl 3 rfl) ?_
            refine lv_iload_n hx hb dX5_planFor_50 rfl (lv_at hl 0 rfl) ?_
            refine lv_ior hx hb dX5_planFor_51 ?_
            refine lv_bipush (v := 14) hx hb dX5_planFor_52 (by decide) ?_
            obtain ⟨q54, hv54, hM⟩ := ob_bind hM
            refine vp_callSi (va_Run.run (va_runV (As := [.int (p1 ||| v3_11), .int 14]) (rest := []) ⟨hx, hb, hml, hown, hts⟩ (c_X5_knownOn l dC dI cI cZ cJ cW m_a m_ds_a m_cs_a m_tx_a m_ia_a m_im_a m_ik_a m_sz m_kn m_sg m_fa m_ds m_cs m_tx m_ia m_im m_ik (p1 ||| v3_11) 14 q54 hv54) (cwV 2 hts gX5_planFor_X5_knownOn rfl rfl rfl (by decide +kernel) ⟨Nat.le_of_ble_eq_true rfl, Nat.le_of_ble_eq_true rfl⟩) ⟨RP.blind, va_recv hK hP (ci := 5) (q0 := 0) rfl rfl, fun U hU hW => ⟨rfl, by rw [hU]; exact hP.sub (ws' := [(m_a, .inr (5, [.int m_sz, .ref m_ds_a, .ref m_cs_a, .int m_kn, .ref m_tx_a, .int m_sg, .int m_fa, .ref m_ia_a, .ref m_im_a, .ref m_ik_a])), (m_ds_a, .inl (cI, 14, .inl m_ds)), (m_cs_a, .inl (cI, 14, .inl m_cs)), (m_tx_a, .inl (cI, 20, .inl m_tx)), (m_ia_a, .inl (cZ, 16384, .inl m_ia)), (m_im_a, .inl (cI, 60, .inl m_im)), (m_ik_a, .inl (cZ, 2, .inl m_ik))]) [0, 1, 2, 3, 4, 5, 6] rfl, va_K.moved hW.alike hK, hN.warm hW⟩⟩ rfl rfl hl.1 rfl (lv_room (Nat.le_of_ble_eq_true rfl)) dX5_planFor_54 ⟨Nat.le_of_ble_eq_true rfl, Nat.le_of_ble_eq_true rfl⟩)) (fun r hr => ?_)
            subst hr
            refine lv_aload_n hx hb dX5_planFor_57 rfl (lv_at hl 2 rfl) ?_
            obtain ⟨q58, hv58, hM⟩ := ob_bind hM
            refine vp_callSi (va_Run.run (va_runV (As := []) (rest := [.int q54]) ⟨hx, hb, hml, hown, hts⟩ (c_X5_all l dC dI cI cZ cJ cW m_a m_ds_a m_cs_a m_tx_a m_ia_a m_im_a m_ik_a m_sz m_kn m_sg m_fa m_ds m_cs m_tx m_ia m_im m_ik q58 hv58) (cwV 0 hts gX5_planFor_X5_all rfl rfl rfl (by decide +kernel) ⟨Nat.le_of_ble_eq_true rfl, Nat.le_of_ble_eq_true rfl⟩) ⟨RP.blind, va_recv hK hP (ci := 5) (q0 := 0) rfl rfl, fun U hU hW => ⟨rfl, by rw [hU]; exact hP.sub (ws' := [(m_a, .inr (5, [.int m_sz, .ref m_ds_a, .ref m_cs_a, .int m_kn, .ref m_tx_a, .int m_sg, .int m_fa, .ref m_ia_a, .ref m_im_a, .ref m_ik_a])), (m_ds_a, .inl (cI, 14, .inl m_ds)), (m_cs_a, .inl (cI, 14, .inl m_cs)), (m_tx_a, .inl (cI, 20, .inl m_tx)), (m_ia_a, .inl (cZ, 16384, .inl m_ia)), (m_im_a, .inl (cI, 60, .inl m_im)), (m_ik_a, .inl (cZ, 2, .inl m_ik))]) [0, 1, 2, 3, 4, 5, 6] rfl, va_K.moved hW.alike hK, hN.warm hW⟩⟩ rfl rfl hl.1 rfl (lv_room (Nat.le_of_ble_eq_true rfl)) dX5_planFor_58 ⟨Nat.le_of_ble_eq_true rfl, Nat.le_of_ble_eq_true rfl⟩)) (fun r hr => ?_)
            subst hr
            refine lv_icmp_ne (tgt := 66) hx hb dX5_planFor_61 (by decide) (fun c_61 => ?_) (fun c_61 => ?_)
            · replace hM := ob_neg c_61 hM
              refine lv_iinc (v := (v3_11 + 1)) (lv' := [(3, .int (v3_11 + 1)), (2, .int v2_11), (0, .ref m_a), (1, .int p1)]) hx hb dX5_planFor_66 hl (k := 0) rfl (by rfl) (by decide) rfl (fun ls hl => ?_)
              refine lv_goto (tgt := 11) hx hb dX5_planFor_69 (by decide) ?_
              exact ih11 (v3_11 + 1) v2_11 _ hM (lv_sub hl [0, 1, 2, 3] rfl)
            · replace hM := ob_pos c_61 hM
              refine lv_iload_n hx hb dX5_planFor_64 rfl (lv_at hl 0 rfl) ?_
              refine lv_istore_n (lv' := [(2, .int v3_11), (3, .int v3_11), (0, .ref m_a), (1, .int p1)]) hx hb dX5_planFor_65 rfl hl (by decide) rfl (fun ls hl => ?_)
              refine lv_iinc (v := (v3_11 + 1)) (lv' := [(3, .int (v3_11 + 1)), (2, .int v3_11), (0, .ref m_a), (1, .int p1)]) hx hb dX5_planFor_66 hl (k := 1) rfl (by rfl) (by decide) rfl (fun ls hl => ?_)
              refine lv_goto (tgt := 11) hx hb dX5_planFor_69 (by decide) ?_
              exact ih11 (v3_11 + 1) v3_11 _ hM (lv_sub hl [0, 1, 2, 3] rfl)
          · replace hM := ob_pos c_31 hM
            refine lv_iload_n hx hb dX5_planFor_34 rfl (lv_at hl 0 rfl) ?_
            refine lv_iload_n hx hb dX5_planFor_35 rfl (lv_at hl 1 rfl) ?_
            refine lv_icmp_ge (tgt := 66) hx hb dX5_planFor_36 (by decide) (fun c_36 => ?_) (fun c_36 => ?_)
            · replace hM := ob_pos c_36 hM
              refine lv_iinc (v := (v3_11 + 1)) (lv' := [(3, .int (v3_11 + 1)), (2, .int v2_11), (0, .ref m_a), (1, .int p1)]) hx hb dX5_planFor_66 hl (k := 0) rfl (by rfl) (by decide) rfl (fun ls hl => ?_)
              refine lv_goto (tgt := 11) hx hb dX5_planFor_69 (by decide) ?_
              exact ih11 (v3_11 + 1) v2_11 _ hM (lv_sub hl [0, 1, 2, 3] rfl)
            · replace hM := ob_neg c_36 hM
              refine lv_aload_n hx hb dX5_planFor_39 rfl (lv_at hl 2 rfl) ?_
              refine lv_iload_n hx hb dX5_planFor_40 rfl (lv_at hl 1 rfl) ?_
              refine lv_iload_n hx hb dX5_planFor_41 rfl (lv_at hl 0 rfl) ?_
              obtain ⟨q42, hv42, hM⟩ := ob_bind hM
              refine vp_callSi (va_Run.run (va_runV (As := [.int v2_11, .int v3_11]) (rest := []) ⟨hx, hb, hml, hown, hts⟩ (c_X5_isBetter l dC dI cI cZ cJ cW m_a m_ds_a m_cs_a m_tx_a m_ia_a m_im_a m_ik_a m_sz m_kn m_sg m_fa m_ds m_cs m_tx m_ia m_im m_ik v2_11 v3_11 q42 hv42) (cwV 2 hts gX5_planFor_X5_isBetter rfl rfl rfl (by decide +kernel) ⟨Nat.le_of_ble_eq_true rfl, Nat.le_of_ble_eq_true rfl⟩) ⟨RP.blind, va_recv hK hP (ci := 5) (q0 := 0) rfl rfl, fun U hU hW => ⟨rfl, by rw [hU]; exact hP.sub (ws' := [(m_a, .inr (5, [.int m_sz, .ref m_ds_a, .ref m_cs_a, .int m_kn, .ref m_tx_a, .int m_sg, .int m_fa, .ref m_ia_a, .ref m_im_a, .ref m_ik_a])), (m_ds_a, .inl (cI, 14, .inl m_ds)), (m_cs_a, .inl (cI, 14, .inl m_cs)), (m_tx_a, .inl (cI, 20, .inl m_tx)), (m_ia_a, .inl (cZ, 16384, .inl m_ia)), (m_im_a, .inl (cI, 60, .inl m_im)), (m_ik_a, .inl (cZ, 2, .inl m_ik))]) [0, 1, 2, 3, 4, 5, 6] rfl, va_K.moved hW.alike hK, hN.warm hW⟩⟩ rfl rfl hl.1 rfl (lv_room (Nat.le_of_ble_eq_true rfl)) dX5_planFor_42 ⟨Nat.le_of_ble_eq_true rfl, Nat.le_of_ble_eq_true rfl⟩)) (fun r hr => ?_)
              subst hr
              refine lv_if_ne (tgt := 66) hx hb dX5_planFor_45 (by decide) (fun c_45 => ?_) (fun c_45 => ?_)
              · replace hM := ob_neg c_45 hM
                refine lv_iinc (v := (v3_11 + 1)) (lv' := [(3, .int (v3_11 + 1)), (2, .int v2_11), (0, .ref m_a), (1, .int p1)]) hx hb dX5_planFor_66 hl (k := 0) rfl (by rfl) (by decide) rfl (fun ls hl => ?_)
                refine lv_goto (tgt := 11) hx hb dX5_planFor_69 (by decide) ?_
                exact ih11 (v3_11 + 1) v2_11 _ hM (lv_sub hl [0, 1, 2, 3] rfl)
              · replace hM := ob_pos c_45 hM
                refine lv_aload_n hx hb dX5_planFor_48 rfl (lv_at hl 2 rfl) ?_
                refine lv_iload_n hx hb dX5_planFor_49 rfl (lv_at hl 3 rfl) ?_
                refine lv_iload_n hx hb dX5_planFor_50 rfl (lv_at hl 0 rfl) ?_
                refine lv_ior hx hb dX5_planFor_51 ?_
                refine lv_bipush (v := 14) hx hb dX5_planFor_52 (by decide) ?_
                obtain ⟨q54, hv54, hM⟩ := ob_bind hM
                refine vp_callSi (va_Run.run (va_runV (As := [.int (p1 ||| v3_11), .int 14]) (rest := []) ⟨hx, hb, hml, hown, hts⟩ (c_X5_knownOn l dC dI cI cZ cJ cW m_a m_ds_a m_cs_a m_tx_a m_ia_a m_im_a m_ik_a m_sz m_kn m_sg m_fa m_ds m_cs m_tx m_ia m_im m_ik (p1 ||| v3_11) 14 q54 hv54) (cwV 2 hts gX5_planFor_X5_knownOn rfl rfl rfl (by decide +kernel) ⟨Nat.le_of_ble_eq_true rfl, Nat.le_of_ble_eq_true rfl⟩) ⟨RP.blind, va_recv hK hP (ci := 5) (q0 := 0) rfl rfl, fun U hU hW => ⟨rfl, by rw [hU]; exact hP.sub (ws' := [(m_a, .inr (5, [.int m_sz, .ref m_ds_a, .ref m_cs_a, .int m_kn, .ref m_tx_a, .int m_sg, .int m_fa, .ref m_ia_a, .ref m_im_a, .ref m_ik_a])), (m_ds_a, .inl (cI, 14, .inl m_ds)), (m_cs_a, .inl (cI, 14, .inl m_cs)), (m_tx_a, .inl (cI, 20, .inl m_tx)), (m_ia_a, .inl (cZ, 16384, .inl m_ia)), (m_im_a, .inl (cI, 60, .inl m_im)), (m_ik_a, .inl (cZ, 2, .inl m_ik))]) [0, 1, 2, 3, 4, 5, 6] rfl, va_K.moved hW.alike hK, hN.warm hW⟩⟩ rfl rfl hl.1 rfl (lv_room (Nat.le_of_ble_eq_true rfl)) dX5_planFor_54 ⟨Nat.le_of_ble_eq_true rfl, Nat.le_of_ble_eq_true rfl⟩)) (fun r hr => ?_)
                subst hr
                refine lv_aload_n hx hb dX5_planFor_57 rfl (lv_at hl 2 rfl) ?_
                obtain ⟨q58, hv58, hM⟩ := ob_bind hM
                refine vp_callSi (va_Run.run (va_runV (As := []) (rest := [.int q54]) ⟨hx, hb, hml, hown, hts⟩ (c_X5_all l dC dI cI cZ cJ cW m_a m_ds_a m_cs_a m_tx_a m_ia_a m_im_a m_ik_a m_sz m_kn m_sg m_fa m_ds m_cs m_tx m_ia m_im m_ik q58 hv58) (cwV 0 hts gX5_planFor_X5_all rfl rfl rfl (by decide +kernel) ⟨Nat.le_of_ble_eq_true rfl, Nat.le_of_ble_eq_true rfl⟩) ⟨RP.blind, va_recv hK hP (ci := 5) (q0 := 0) rfl rfl, fun U hU hW => ⟨rfl, by rw [hU]; exact hP.sub (ws' := [(m_a, .inr (5, [.int m_sz, .ref m_ds_a, .ref m_cs_a, .int m_kn, .ref m_tx_a, .int m_sg, .int m_fa, .ref m_ia_a, .ref m_im_a, .ref m_ik_a])), (m_ds_a, .inl (cI, 14, .inl m_ds)), (m_cs_a, .inl (cI, 14, .inl m_cs)), (m_tx_a, .inl (cI, 20, .inl m_tx)), (m_ia_a, .inl (cZ, 16384, .inl m_ia)), (m_im_a, .inl (cI, 60, .inl m_im)), (m_ik_a, .inl (cZ, 2, .inl m_ik))]) [0, 1, 2, 3, 4, 5, 6] rfl, va_K.moved hW.alike hK, hN.warm hW⟩⟩ rfl rfl hl.1 rfl (lv_room (Nat.le_of_ble_eq_true rfl)) dX5_planFor_58 ⟨Nat.le_of_ble_eq_true rfl, Nat.le_of_ble_eq_true rfl⟩)) (fun r hr => ?_)
                subst hr
                refine lv_icmp_ne (tgt := 66) hx hb dX5_planFor_61 (by decide) (fun c_61 => ?_) (fun c_61 => ?_)
                · replace hM := ob_neg c_61 hM
                  refine lv_iinc (v := (v3_11 + 1)) (lv' := [(3, .int (v3_11 + 1)), (2, .int v2_11), (0, .ref m_a), (1, .int p1)]) hx hb dX5_planFor_66 hl (k := 0) rfl (by rfl) (by decide) rfl (fun ls hl => ?_)
                  refine lv_goto (tgt := 11) hx hb dX5_planFor_69 (by decide) ?_
                  exact ih11 (v3_11 + 1) v2_11 _ hM (lv_sub hl [0, 1, 2, 3] rfl)
                · replace hM := ob_pos c_61 hM
                  refine lv_iload_n hx hb dX5_planFor_64 rfl (lv_at hl 0 rfl) ?_
                  refine lv_istore_n (lv' := [(2, .int v3_11), (3, .int v3_11), (0, .ref m_a), (1, .int p1)]) hx hb dX5_planFor_65 rfl hl (by decide) rfl (fun ls hl => ?_)
                  refine lv_iinc (v := (v3_11 + 1)) (lv' := [(3, .int (v3_11 + 1)), (2, .int v3_11), (0, .ref m_a), (1, .int p1)]) hx hb dX5_planFor_66 hl (k := 1) rfl (by rfl) (by decide) rfl (fun ls hl => ?_)
                  refine lv_goto (tgt := 11) hx hb dX5_planFor_69 (by decide) ?_
                  exact ih11 (v3_11 + 1) v3_11 _ hM (lv_sub hl [0, 1, 2, 3] rfl)
  exact hL11 20000 0 (q1 &&& (p1 ^^^ (-1))) _ hM (lv_sub hl [0, 1, 2, 3] rfl)
/-! X5_plan -/
abbrev rm_X5_plan : Room := { frames := 4, cells := 0, slots := 0, locals := 89 }
theorem in_X5_plan_5 : ∀ w ∈ u_ws RX5 TX5 10, w ∈ wsX5_plan := by decide +kernel
set_option maxHeartbeats 4000000 in
set_option maxRecDepth 100000 in
theorem c_X5_plan (l : Launch) (dC : Nat → ClassId) (dI : Nat → Nat → Nat) (cI cZ cJ cW : ClassId) (m_a m_ds_a m_cs_a m_tx_a m_ia_a m_im_a m_ik_a : Nat) (m_sz : Int32) (m_kn : Int32) (m_sg : Int32) (m_fa : Int32) (m_ds : Nat → Int32) (m_cs : Nat → Int32) (m_tx : Nat → Int32) (m_ia : Nat → Int32) (m_im : Nat → Int32) (m_ik : Nat → Int32) (p1 : Int32) (R : Int32) (hM : M_X5_plan p1 m_sz m_ds m_cs m_kn = some R) : Met l yX5_plan wsX5_plan rm_X5_plan (va_Pc [.ref m_a, .int p1] (RP (dC, dI) cI cZ cJ cW [(m_a, .inr (5, [.int m_sz, .ref m_ds_a, .ref m_cs_a, .int m_kn, .ref m_tx_a, .int m_sg, .int m_fa, .ref m_ia_a, .ref m_im_a, .ref m_ik_a])), (m_ds_a, .inl (cI, 14, .inl m_ds)), (m_cs_a, .inl (cI, 14, .inl m_cs)), (m_tx_a, .inl (cI, 20, .inl m_tx)), (m_ia_a, .inl (cZ, 16384, .inl m_ia)), (m_im_a, .inl (cI, 60, .inl m_im)), (m_ik_a, .inl (cZ, 2, .inl m_ik))])) (vp_Si (fun r => R = r)) 0 0 (fun _ => False) := by
  refine Met.ofW (cc := cX5_plan) (maxL := 4) (ret := (some .int)) (by decide) rfl ?_
  intro p e s m args below meth c s₁ B hml hv
  obtain ⟨rfl, hP, hK, hN⟩ := hv
  have hx := B.exec
  have hb := B.bytes
  have hr := B.returns
  have hts := atoms_spec (ws := wsX5_plan) B.pre
  have hown : s.vm.findClass RX5 = some m.cls := findClass_of_methodNamed B.named
  have hlocks := B.notSynchronized
  have hf44 := hts (.fieldLink RX5 44 "WordGroundsModel" "known" "I") (by decide +kernel)
  have hl := lv_entry ([.ref m_a, .int p1]) (n := 4) (Nat.le_of_ble_eq_true rfl)
  rw [lg_entry_eq]
  generalize (lg_sl ([.ref m_a, .int p1]) ++ List.replicate (4 - (lg_sl ([.ref m_a, .int p1])).length) Slot.unset).toArray = ls at hl ⊢
  have hl : lv_has ls 4 [(0, .ref m_a), (1, .int p1)] := hl
  have hM : ((M_X5_in p1 0 3).bind (fun q3 => if q3 = 0 then (some (-2)) else ((M_X5_planFor m_kn m_sz m_ds m_cs).bind (fun q17 => if 3 ≤ p1 then (L_X5_plan_54 q17 m_sz m_ds m_kn (fun (v3_54 : Int32) => some v3_54) 40 0) else (if p1 = 0 then (some q17) else (if p1 = 1 then ((M_X5_costOf q17 m_sz m_cs).bind (fun q41 => some q41)) else ((M_X5_bits q17).bind (fun q48 => some q48)))))))) = some R := hM
  refine lv_iload_n hx hb dX5_plan_0 rfl (lv_at hl 1 rfl) ?_
  refine lv_iconst (v := 0) hx hb dX5_plan_1 (by decide) ?_
  refine lv_iconst (v := 3) hx hb dX5_plan_2 (by decide) ?_
  obtain ⟨q3, hv3, hM⟩ := ob_bind hM
  refine vp_callSi (va_Run.run (va_runS (As := [.int p1, .int 0, .int 3]) (rest := []) ⟨hx, hb, hml, hown, hts⟩ (c_X5_in l dC dI cI cZ cJ cW p1 0 3 q3 hv3) (va_cwS 3 hts gX5_plan_X5_in rfl rfl rfl (by decide +kernel) ⟨Nat.le_of_ble_eq_true rfl, Nat.le_of_ble_eq_true rfl⟩) ⟨TP.blind, fun U hU hW => ⟨rfl, trivial⟩⟩ rfl rfl hl.1 rfl (lv_room (Nat.le_of_ble_eq_true rfl)) dX5_plan_3 ⟨Nat.le_of_ble_eq_true rfl, Nat.le_of_ble_eq_true rfl⟩)) (fun r hr => ?_)
  subst hr
  refine lv_if_ne (tgt := 12) hx hb dX5_plan_6 (by decide) (fun c_6 => ?_) (fun c_6 => ?_)
  · replace hM := ob_neg c_6 hM
    refine lv_aload_n hx hb dX5_plan_12 rfl (lv_at hl 0 rfl) ?_
    refine lv_aload_n hx hb dX5_plan_13 rfl (lv_at hl 0 rfl) ?_
    refine va_get (D := (dC, dI)) (ci := 5) (v := .int m_kn) (C := RX5) (T := TX5) (N := 10) hx hb hts in_X5_plan_5 hown hK hP 0 rfl rfl 3 (by decide) hf44 (fun _ h9 => h9) rfl dX5_plan_14 ?_
    obtain ⟨q17, hv17, hM⟩ := ob_bind hM
    refine vp_callSi (va_Run.run (va_runV (As := [.int m_kn]) (rest := []) ⟨hx, hb, hml, hown, hts⟩ (c_X5_planFor l dC dI cI cZ cJ cW m_a m_ds_a m_cs_a m_tx_a m_ia_a m_im_a m_ik_a m_sz m_kn m_sg m_fa m_ds m_cs m_tx m_ia m_im m_ik m_kn q17 hv17) (cwV 1 hts gX5_plan_X5_planFor rfl rfl rfl (by decide +kernel) ⟨Nat.le_of_ble_eq_true rfl, Nat.le_of_ble_eq_true rfl⟩) ⟨RP.blind, va_recv hK hP (ci := 5) (q0 := 0) rfl rfl, fun U hU hW => ⟨rfl, by rw [hU]; exact hP.sub (ws' := [(m_a, .inr (5, [.int m_sz, .ref m_ds_a, .ref m_cs_a, .int m_kn, .ref m_tx_a, .int m_sg, .int m_fa, .ref m_ia_a, .ref m_im_a, .ref m_ik_a])), (m_ds_a, .inl (cI, 14, .inl m_ds)), (m_cs_a, .inl (cI, 14, .inl m_cs)), (m_tx_a, .inl (cI, 20, .inl m_tx)), (m_ia_a, .inl (cZ, 16384, .inl m_ia)), (m_im_a, .inl (cI, 60, .inl m_im)), (m_ik_a, .inl (cZ, 2, .inl m_ik))]) [0, 1, 2, 3, 4, 5, 6] rfl, va_K.moved hW.alike hK, hN.warm hW⟩⟩ rfl rfl hl.1 rfl (lv_room (Nat.le_of_ble_eq_true rfl)) dX5_plan_17 ⟨Nat.le_of_ble_eq_true rfl, Nat.le_of_ble_eq_true rfl⟩)) (fun r hr => ?_)
    subst hr
    refine lv_istore_n (lv' := [(2, .int q17), (0, .ref m_a), (1, .int p1)]) hx hb dX5_plan_20 rfl hl (by decide) rfl (fun ls hl => ?_)
    refine lv_iload_n hx hb dX5_plan_21 rfl (lv_at hl 2 rfl) ?_
    refine lv_iconst (v := 3) hx hb dX5_plan_22 (by decide) ?_
    refine lv_icmp_ge (tgt := 52) hx hb dX5_plan_23 (by decide) (fun c_23 => ?_) (fun c_23 => ?_)
    · replace hM := ob_pos c_23 hM
      refine lv_iconst (v := 0) hx hb dX5_plan_52 (by decide) ?_
      refine lv_istore_n (lv' := [(3, .int 0), (2, .int q17), (0, .ref m_a), (1, .int p1)]) hx hb dX5_plan_53 rfl hl (by decide) rfl (fun ls hl => ?_)
      obtain ⟨K54, hK54⟩ : ∃ K : Int32 → Option (Int32), K = (fun (v3_54 : Int32) => some v3_54) := ⟨_, rfl⟩
      have hM : L_X5_plan_54 q17 m_sz m_ds m_kn K54 40 0 = some R := by rw [hK54]; exact hM
      have hL54 : ∀ (k54 : Nat) (v3_54 : Int32) (ls : Array Slot), L_X5_plan_54 q17 m_sz m_ds m_kn K54 k54 v3_54 = some R → lv_has ls 4 [(3, .int v3_54), (2, .int q17), (0, .ref m_a), (1, .int p1)] → W p l e rm_X5_plan s m ([.ref m_a, .int p1] : List Value).toArray below meth c s.heap [] 0 0 (MQ below (vp_Si (fun r => R = r)) ([.ref m_a, .int p1] : List Value).toArray s 0 0 (fun _ => False)) (F0 m 54 ls []) := by
        intro k54
        induction k54 with
        | zero => intro v3_54 ls hM; exact (ob_none hM).elim
        | succ k54 ih54 =>
          intro v3_54 ls hM hl
          have hM : ((M_X5_knownOn (m_kn ||| q17) v3_54 m_sz m_ds).bind (fun q62 => (M_X5_all m_sz).bind (fun q66 => if q62 = q66 then (K54 v3_54) else (L_X5_plan_54 q17 m_sz m_ds m_kn K54 k54 (v3_54 + 1))))) = some R := hM
          refine lv_aload_n hx hb dX5_plan_54 rfl (lv_at hl 2 rfl) ?_
          refine lv_aload_n hx hb dX5_plan_55 rfl (lv_at hl 2 rfl) ?_
          refine va_get (D := (dC, dI)) (ci := 5) (v := .int m_kn) (C := RX5) (T := TX5) (N := 10) hx hb hts in_X5_plan_5 hown hK hP 0 rfl rfl 3 (by decide) hf44 (fun _ h9 => h9) rfl dX5_plan_56 ?_
          refine lv_iload_n hx hb dX5_plan_59 rfl (lv_at hl 1 rfl) ?_
          refine lv_ior hx hb dX5_plan_60 ?_
          refine lv_iload_n hx hb dX5_plan_61 rfl (lv_at hl 0 rfl) ?_
          obtain ⟨q62, hv62, hM⟩ := ob_bind hM
          refine vp_callSi (va_Run.run (va_runV (As := [.int (m_kn ||| q17), .int v3_54]) (rest := []) ⟨hx, hb, hml, hown, hts⟩ (c_X5_knownOn l dC dI cI cZ cJ cW m_a m_ds_a m_cs_a m_tx_a m_ia_a m_im_a m_ik_a m_sz m_kn m_sg m_fa m_ds m_cs m_tx m_ia m_im m_ik (m_kn ||| q17) v3_54 q62 hv62) (cwV 2 hts gX5_plan_X5_knownOn rfl rfl rfl (by decide +kernel) ⟨Nat.le_of_ble_eq_true rfl, Nat.le_of_ble_eq_true rfl⟩) ⟨RP.blind, va_recv hK hP (ci := 5) (q0 := 0) rfl rfl, fun U hU hW => ⟨rfl, by rw [hU]; exact hP.sub (ws' := [(m_a, .inr (5, [.int m_sz, .ref m_ds_a, .ref m_cs_a, .int m_kn, .ref m_tx_a, .int m_sg, .int m_fa, .ref m_ia_a, .ref m_im_a, .ref m_ik_a])), (m_ds_a, .inl (cI, 14, .inl m_ds)), (m_cs_a, .inl (cI, 14, .inl m_cs)), (m_tx_a, .inl (cI, 20, .inl m_tx)), (m_ia_a, .inl (cZ, 16384, .inl m_ia)), (m_im_a, .inl (cI, 60, .inl m_im)), (m_ik_a, .inl (cZ, 2, .inl m_ik))]) [0, 1, 2, 3, 4, 5, 6] rfl, va_K.moved hW.alike hK, hN.warm hW⟩⟩ rfl rfl hl.1 rfl (lv_room (Nat.le_of_ble_eq_true rfl)) dX5_plan_62 ⟨Nat.le_of_ble_eq_true rfl, Nat.le_of_ble_eq_true rfl⟩)) (fun r hr => ?_)
          subst hr
          refine lv_aload_n hx hb dX5_plan_65 rfl (lv_at hl 2 rfl) ?_
          obtain ⟨q66, hv66, hM⟩ := ob_bind hM
          refine vp_callSi (va_Run.run (va_runV (As := []) (rest := [.int q62]) ⟨hx, hb, hml, hown, hts⟩ (c_X5_all l dC dI cI cZ cJ cW m_a m_ds_a m_cs_a m_tx_a m_ia_a m_im_a m_ik_a m_sz m_kn m_sg m_fa m_ds m_cs m_tx m_ia m_im m_ik q66 hv66) (cwV 0 hts gX5_plan_X5_all rfl rfl rfl (by decide +kernel) ⟨Nat.le_of_ble_eq_true rfl, Nat.le_of_ble_eq_true rfl⟩) ⟨RP.blind, va_recv hK hP (ci := 5) (q0 := 0) rfl rfl, fun U hU hW => ⟨rfl, by rw [hU]; exact hP.sub (ws' := [(m_a, .inr (5, [.int m_sz, .ref m_ds_a, .ref m_cs_a, .int m_kn, .ref m_tx_a, .int m_sg, .int m_fa, .ref m_ia_a, .ref m_im_a, .ref m_ik_a])), (m_ds_a, .inl (cI, 14, .inl m_ds)), (m_cs_a, .inl (cI, 14, .inl m_cs)), (m_tx_a, .inl (cI, 20, .inl m_tx)), (m_ia_a, .inl (cZ, 16384, .inl m_ia)), (m_im_a, .inl (cI, 60, .inl m_im)), (m_ik_a, .inl (cZ, 2, .inl m_ik))]) [0, 1, 2, 3, 4, 5, 6] rfl, va_K.moved hW.alike hK, hN.warm hW⟩⟩ rfl rfl hl.1 rfl (lv_room (Nat.le_of_ble_eq_true rfl)) dX5_plan_66 ⟨Nat.le_of_ble_eq_true rfl, Nat.le_of_ble_eq_true rfl⟩)) (fun r hr => ?_)
          subst hr
          refine lv_icmp_eq (tgt := 78) hx hb dX5_plan_69 (by decide) (fun c_69 => ?_) (fun c_69 => ?_)
          · replace hM := ob_pos c_69 hM
            have hM : (some v3_54) = some R := by rw [hK54] at hM; exact hM
            refine lv_iload_n hx hb dX5_plan_78 rfl (lv_at hl 0 rfl) ?_
            exact W.iret (v := v3_54) hx hb hr (fun t ht hW => ⟨_, rfl, (Option.some.inj hM).symm, ht⟩) (fun _ h => by cases h) dX5_plan_79
          · replace hM := ob_neg c_69 hM
            refine lv_iinc (v := (v3_54 + 1)) (lv' := [(3, .int (v3_54 + 1)), (2, .int q17), (0, .ref m_a), (1, .int p1)]) hx hb dX5_plan_72 hl (k := 0) rfl (by rfl) (by decide) rfl (fun ls hl => ?_)
            refine lv_goto (tgt := 54) hx hb dX5_plan_75 (by decide) ?_
            exact ih54 (v3_54 + 1) _ hM (lv_sub hl [0, 1, 2, 3] rfl)
      exact hL54 40 0 _ hM (lv_sub hl [0, 1, 2, 3] rfl)
    · replace hM := ob_neg c_23 hM
      refine lv_iload_n hx hb dX5_plan_26 rfl (lv_at hl 2 rfl) ?_
      refine lv_if_ne (tgt := 34) hx hb dX5_plan_27 (by decide) (fun c_27 => ?_) (fun c_27 => ?_)
      · replace hM := ob_neg c_27 hM
        refine lv_iload_n hx hb dX5_plan_34 rfl (lv_at hl 2 rfl) ?_
        refine lv_iconst (v := 1) hx hb dX5_plan_35 (by decide) ?_
        refine lv_icmp_ne (tgt := 47) hx hb dX5_plan_36 (by decide) (fun c_36 => ?_) (fun c_36 => ?_)
        · replace hM := ob_neg c_36 hM
          refine lv_iload_n hx hb dX5_plan_47 rfl (lv_at hl 0 rfl) ?_
          obtain ⟨q48, hv48, hM⟩ := ob_bind hM
          refine vp_callSi (va_Run.run (va_runS (As := [.int q17]) (rest := []) ⟨hx, hb, hml, hown, hts⟩ (c_X5_bits l dC dI cI cZ cJ cW q17 q48 hv48) (va_cwS 1 hts gX5_plan_X5_bits rfl rfl rfl (by decide +kernel) ⟨Nat.le_of_ble_eq_true rfl, Nat.le_of_ble_eq_true rfl⟩) ⟨TP.blind, fun U hU hW => ⟨rfl, trivial⟩⟩ rfl rfl hl.1 rfl (lv_room (Nat.le_of_ble_eq_true rfl)) dX5_plan_48 ⟨Nat.le_of_ble_eq_true rfl, Nat.le_of_ble_eq_true rfl⟩)) (fun r hr => ?_)
          subst hr
          exact W.iret (v := q48) hx hb hr (fun t ht hW => ⟨_, rfl, (Option.some.inj hM).symm, ht⟩) (fun _ h => by cases h) dX5_plan_51
        · replace hM := ob_pos c_36 hM
          refine lv_aload_n hx hb dX5_plan_39 rfl (lv_at hl 1 rfl) ?_
          refine lv_iload_n hx hb dX5_plan_40 rfl (lv_at hl 0 rfl) ?_
          obtain ⟨q41, hv41, hM⟩ := ob_bind hM
          refine vp_callSi (va_Run.run (va_runV (As := [.int q17]) (rest := []) ⟨hx, hb, hml, hown, hts⟩ (c_X5_costOf l dC dI cI cZ cJ cW m_a m_ds_a m_cs_a m_tx_a m_ia_a m_im_a m_ik_a m_sz m_kn m_sg m_fa m_ds m_cs m_tx m_ia m_im m_ik q17 q41 hv41) (cwV 1 hts gX5_plan_X5_costOf rfl rfl rfl (by decide +kernel) ⟨Nat.le_of_ble_eq_true rfl, Nat.le_of_ble_eq_true rfl⟩) ⟨RP.blind, va_recv hK hP (ci := 5) (q0 := 0) rfl rfl, fun U hU hW => ⟨rfl, by rw [hU]; exact hP.sub (ws' := [(m_a, .inr (5, [.int m_sz, .ref m_ds_a, .ref m_cs_a, .int m_kn, .ref m_tx_a, .int m_sg, .int m_fa, .ref m_ia_a, .ref m_im_a, .ref m_ik_a])), (m_ds_a, .inl (cI, 14, .inl m_ds)), (m_cs_a, .inl (cI, 14, .inl m_cs)), (m_tx_a, .inl (cI, 20, .inl m_tx)), (m_ia_a, .inl (cZ, 16384, .inl m_ia)), (m_im_a, .inl (cI, 60, .inl m_im)), (m_ik_a, .inl (cZ, 2, .inl m_ik))]) [0, 1, 2, 3, 4, 5, 6] rfl, va_K.moved hW.alike hK, hN.warm hW⟩⟩ rfl rfl hl.1 rfl (lv_room (Nat.le_of_ble_eq_true rfl)) dX5_plan_41 ⟨Nat.le_of_ble_eq_true rfl, Nat.le_of_ble_eq_true rfl⟩)) (fun r hr => ?_)
          subst hr
          refine lv_goto (tgt := 51) hx hb dX5_plan_44 (by decide) ?_
          exact W.iret (v := q41) hx hb hr (fun t ht hW => ⟨_, rfl, (Option.some.inj hM).symm, ht⟩) (fun _ h => by cases h) dX5_plan_51
      · replace hM := ob_pos c_27 hM
        refine lv_iload_n hx hb dX5_plan_30 rfl (lv_at hl 0 rfl) ?_
        refine lv_goto (tgt := 51) hx hb dX5_plan_31 (by decide) ?_
        exact W.iret (v := q17) hx hb hr (fun t ht hW => ⟨_, rfl, (Option.some.inj hM).symm, ht⟩) (fun _ h => by cases h) dX5_plan_51
  · replace hM := ob_pos c_6 hM
    refine lv_bipush (v := (-2)) hx hb dX5_plan_9 (by decide) ?_
    exact W.iret (v := (-2)) hx hb hr (fun t ht hW => ⟨_, rfl, (Option.some.inj hM).symm, ht⟩) (fun _ h => by cases h) dX5_plan_11
/-! X5_saves -/
abbrev rm_X5_saves : Room := { frames := 4, cells := 0, slots := 0, locals := 89 }
theorem in_X5_saves_5 : ∀ w ∈ u_ws RX5 TX5 10, w ∈ wsX5_saves := by decide +kernel
set_option maxHeartbeats 4000000 in
set_option maxRecDepth 100000 in
theorem c_X5_saves (l : Launch) (dC : Nat → ClassId) (dI : Nat → Nat → Nat) (cI cZ cJ cW : ClassId) (m_a m_ds_a m_cs_a m_tx_a m_ia_a m_im_a m_ik_a : Nat) (m_sz : Int32) (m_kn : Int32) (m_sg : Int32) (m_fa : Int32) (m_ds : Nat → Int32) (m_cs : Nat → Int32) (m_tx : Nat → Int32) (m_ia : Nat → Int32) (m_im : Nat → Int32) (m_ik : Nat → Int32) (p1 : Int32) (R : Int32) (hM : M_X5_saves p1 m_sz m_ds m_cs m_kn = some R) : Met l yX5_saves wsX5_saves rm_X5_saves (va_Pc [.ref m_a, .int p1] (RP (dC, dI) cI cZ cJ cW [(m_a, .inr (5, [.int m_sz, .ref m_ds_a, .ref m_cs_a, .int m_kn, .ref m_tx_a, .int m_sg, .int m_fa, .ref m_ia_a, .ref m_im_a, .ref m_ik_a])), (m_ds_a, .inl (cI, 14, .inl m_ds)), (m_cs_a, .inl (cI, 14, .inl m_cs)), (m_tx_a, .inl (cI, 20, .inl m_tx)), (m_ia_a, .inl (cZ, 16384, .inl m_ia)), (m_im_a, .inl (cI, 60, .inl m_im)), (m_ik_a, .inl (cZ, 2, .inl m_ik))])) (vp_Si (fun r => R = r)) 0 0 (fun _ => False) := by
  refine Met.ofW (cc := cX5_saves) (maxL := 2) (ret := (some .int)) (by decide) rfl ?_
  intro p e s m args below meth c s₁ B hml hv
  obtain ⟨rfl, hP, hK, hN⟩ := hv
  have hx := B.exec
  have hb := B.bytes
  have hr := B.returns
  have hts := atoms_spec (ws := wsX5_saves) B.pre
  have hown : s.vm.findClass RX5 = some m.cls := findClass_of_methodNamed B.named
  have hlocks := B.notSynchronized
  have hf44 := hts (.fieldLink RX5 44 "WordGroundsModel" "known" "I") (by decide +kernel)
  have hl := lv_entry ([.ref m_a, .int p1]) (n := 2) (Nat.le_of_ble_eq_true rfl)
  rw [lg_entry_eq]
  generalize (lg_sl ([.ref m_a, .int p1]) ++ List.replicate (2 - (lg_sl ([.ref m_a, .int p1])).length) Slot.unset).toArray = ls at hl ⊢
  have hl : lv_has ls 2 [(0, .ref m_a), (1, .int p1)] := hl
  have hM : ((M_X5_isWord p1 m_sz).bind (fun q2 => if q2 = 0 then (some (-1)) else ((M_X5_planFor m_kn m_sz m_ds m_cs).bind (fun q16 => (M_X5_costOf q16 m_sz m_cs).bind (fun q19 => (M_X5_planFor (m_kn ||| ((1 : Int32) <<< (p1 &&& 31))) m_sz m_ds m_cs).bind (fun q32 => (M_X5_costOf q32 m_sz m_cs).bind (fun q35 => some (q19 - q35)))))))) = some R := hM
  refine lv_aload_n hx hb dX5_saves_0 rfl (lv_at hl 0 rfl) ?_
  refine lv_iload_n hx hb dX5_saves_1 rfl (lv_at hl 1 rfl) ?_
  obtain ⟨q2, hv2, hM⟩ := ob_bind hM
  refine vp_callSi (va_Run.run (va_runV (As := [.int p1]) (rest := []) ⟨hx, hb, hml, hown, hts⟩ (c_X5_isWord l dC dI cI cZ cJ cW m_a m_ds_a m_cs_a m_tx_a m_ia_a m_im_a m_ik_a m_sz m_kn m_sg m_fa m_ds m_cs m_tx m_ia m_im m_ik p1 q2 hv2) (cwV 1 hts gX5_saves_X5_isWord rfl rfl rfl (by decide +kernel) ⟨Nat.le_of_ble_eq_true rfl, Nat.le_of_ble_eq_true rfl⟩) ⟨RP.blind, va_recv hK hP (ci := 5) (q0 := 0) rfl rfl, fun U hU hW => ⟨rfl, by rw [hU]; exact hP.sub (ws' := [(m_a, .inr (5, [.int m_sz, .ref m_ds_a, .ref m_cs_a, .int m_kn, .ref m_tx_a, .int m_sg, .int m_fa, .ref m_ia_a, .ref m_im_a, .ref m_ik_a])), (m_ds_a, .inl (cI, 14, .inl m_ds)), (m_cs_a, .inl (cI, 14, .inl m_cs)), (m_tx_a, .inl (cI, 20, .inl m_tx)), (m_ia_a, .inl (cZ, 16384, .inl m_ia)), (m_im_a, .inl (cI, 60, .inl m_im)), (m_ik_a, .inl (cZ, 2, .inl m_ik))]) [0, 1, 2, 3, 4, 5, 6] rfl, va_K.moved hW.alike hK, hN.warm hW⟩⟩ rfl rfl hl.1 rfl (lv_room (Nat.le_of_ble_eq_true rfl)) dX5_saves_2 ⟨Nat.le_of_ble_eq_true rfl, Nat.le_of_ble_eq_true rfl⟩)) (fun r hr => ?_)
  subst hr
  refine lv_if_ne (tgt := 10) hx hb dX5_saves_5 (by decide) (fun c_5 => ?_) (fun c_5 => ?_)
  · replace hM := ob_neg c_5 hM
    refine lv_aload_n hx hb dX5_saves_10 rfl (lv_at hl 0 rfl) ?_
    refine lv_aload_n hx hb dX5_saves_11 rfl (lv_at hl 0 rfl) ?_
    refine lv_aload_n hx hb dX5_saves_12 rfl (lv_at hl 0 rfl) ?_
    refine va_get (D := (dC, dI)) (ci := 5) (v := .int m_kn) (C := RX5) (T := TX5) (N := 10) hx hb hts in_X5_saves_5 hown hK hP 0 rfl rfl 3 (by decide) hf44 (fun _ h9 => h9) rfl dX5_saves_13 ?_
    obtain ⟨q16, hv16, hM⟩ := ob_bind hM
    refine vp_callSi (va_Run.run (va_runV (As := [.int m_kn]) (rest := [.ref m_a]) ⟨hx, hb, hml, hown, hts⟩ (c_X5_planFor l dC dI cI cZ cJ cW m_a m_ds_a m_cs_a m_tx_a m_ia_a m_im_a m_ik_a m_sz m_kn m_sg m_fa m_ds m_cs m_tx m_ia m_im m_ik m_kn q16 hv16) (cwV 1 hts gX5_saves_X5_planFor rfl rfl rfl (by decide +kernel) ⟨Nat.le_of_ble_eq_true rfl, Nat.le_of_ble_eq_true rfl⟩) ⟨RP.blind, va_recv hK hP (ci := 5) (q0 := 0) rfl rfl, fun U hU hW => ⟨rfl, by rw [hU]; exact hP.sub (ws' := [(m_a, .inr (5, [.int m_sz, .ref m_ds_a, .ref m_cs_a, .int m_kn, .ref m_tx_a, .int m_sg, .int m_fa, .ref m_ia_a, .ref m_im_a, .ref m_ik_a])), (m_ds_a, .inl (cI, 14, .inl m_ds)), (m_cs_a, .inl (cI, 14, .inl m_cs)), (m_tx_a, .inl (cI, 20, .inl m_tx)), (m_ia_a, .inl (cZ, 16384, .inl m_ia)), (m_im_a, .inl (cI, 60, .inl m_im)), (m_ik_a, .inl (cZ, 2, .inl m_ik))]) [0, 1, 2, 3, 4, 5, 6] rfl, va_K.moved hW.alike hK, hN.warm hW⟩⟩ rfl rfl hl.1 rfl (lv_room (Nat.le_of_ble_eq_true rfl)) dX5_saves_16 ⟨Nat.le_of_ble_eq_true rfl, Nat.le_of_ble_eq_true rfl⟩)) (fun r hr => ?_)
    subst hr
    obtain ⟨q19, hv19, hM⟩ := ob_bind hM
    refine vp_callSi (va_Run.run (va_runV (As := [.int q16]) (rest := []) ⟨hx, hb, hml, hown, hts⟩ (c_X5_costOf l dC dI cI cZ cJ cW m_a m_ds_a m_cs_a m_tx_a m_ia_a m_im_a m_ik_a m_sz m_kn m_sg m_fa m_ds m_cs m_tx m_ia m_im m_ik q16 q19 hv19) (cwV 1 hts gX5_saves_X5_costOf rfl rfl rfl (by decide +kernel) ⟨Nat.le_of_ble_eq_true rfl, Nat.le_of_ble_eq_true rfl⟩) ⟨RP.blind, va_recv hK hP (ci := 5) (q0 := 0) rfl rfl, fun U hU hW => ⟨rfl, by rw [hU]; exact hP.sub (ws' := [(m_a, .inr (5, [.int m_sz, .ref m_ds_a, .ref m_cs_a, .int m_kn, .ref m_tx_a, .int m_sg, .int m_fa, .ref m_ia_a, .ref m_im_a, .ref m_ik_a])), (m_ds_a, .inl (cI, 14, .inl m_ds)), (m_cs_a, .inl (cI, 14, .inl m_cs)), (m_tx_a, .inl (cI, 20, .inl m_tx)), (m_ia_a, .inl (cZ, 16384, .inl m_ia)), (m_im_a, .inl (cI, 60, .inl m_im)), (m_ik_a, .inl (cZ, 2, .inl m_ik))]) [0, 1, 2, 3, 4, 5, 6] rfl, va_K.moved hW.alike hK, hN.warm hW⟩⟩ rfl rfl hl.1 rfl (lv_room (Nat.le_of_ble_eq_true rfl)) dX5_saves_19 ⟨Nat.le_of_ble_eq_true rfl, Nat.le_of_ble_eq_true rfl⟩)) (fun r hr => ?_)
    subst hr
    refine lv_aload_n hx hb dX5_saves_22 rfl (lv_at hl 0 rfl) ?_
    refine lv_aload_n hx hb dX5_saves_23 rfl (lv_at hl 0 rfl) ?_
    refine lv_aload_n hx hb dX5_saves_24 rfl (lv_at hl 0 rfl) ?_
    refine va_get (D := (dC, dI)) (ci := 5) (v := .int m_kn) (C := RX5) (T := TX5) (N := 10) hx hb hts in_X5_saves_5 hown hK hP 0 rfl rfl 3 (by decide) hf44 (fun _ h9 => h9) rfl dX5_saves_25 ?_
    refine lv_iconst (v := 1) hx hb dX5_saves_28 (by decide) ?_
    refine lv_iload_n hx hb dX5_saves_29 rfl (lv_at hl 1 rfl) ?_
    refine lv_ishl hx hb dX5_saves_30 ?_
    refine lv_ior hx hb dX5_saves_31 ?_
    obtain ⟨q32, hv32, hM⟩ := ob_bind hM
    refine vp_callSi (va_Run.run (va_runV (As := [.int (m_kn ||| ((1 : Int32) <<< (p1 &&& 31)))]) (rest := [.ref m_a, .int q19]) ⟨hx, hb, hml, hown, hts⟩ (c_X5_planFor l dC dI cI cZ cJ cW m_a m_ds_a m_cs_a m_tx_a m_ia_a m_im_a m_ik_a m_sz m_kn m_sg m_fa m_ds m_cs m_tx m_ia m_im m_ik (m_kn ||| ((1 : Int32) <<< (p1 &&& 31))) q32 hv32) (cwV 1 hts gX5_saves_X5_planFor rfl rfl rfl (by decide +kernel) ⟨Nat.le_of_ble_eq_true rfl, Nat.le_of_ble_eq_true rfl⟩) ⟨RP.blind, va_recv hK hP (ci := 5) (q0 := 0) rfl rfl, fun U hU hW => ⟨rfl, by rw [hU]; exact hP.sub (ws' := [(m_a, .inr (5, [.int m_sz, .ref m_ds_a, .ref m_cs_a, .int m_kn, .ref m_tx_a, .int m_sg, .int m_fa, .ref m_ia_a, .ref m_im_a, .ref m_ik_a])), (m_ds_a, .inl (cI, 14, .inl m_ds)), (m_cs_a, .inl (cI, 14, .inl m_cs)), (m_tx_a, .inl (cI, 20, .inl m_tx)), (m_ia_a, .inl (cZ, 16384, .inl m_ia)), (m_im_a, .inl (cI, 60, .inl m_im)), (m_ik_a, .inl (cZ, 2, .inl m_ik))]) [0, 1, 2, 3, 4, 5, 6] rfl, va_K.moved hW.alike hK, hN.warm hW⟩⟩ rfl rfl hl.1 rfl (lv_room (Nat.le_of_ble_eq_true rfl)) dX5_saves_32 ⟨Nat.le_of_ble_eq_true rfl, Nat.le_of_ble_eq_true rfl⟩)) (fun r hr => ?_)
    subst hr
    obtain ⟨q35, hv35, hM⟩ := ob_bind hM
    refine vp_callSi (va_Run.run (va_runV (As := [.int q32]) (rest := [.int q19]) ⟨hx, hb, hml, hown, hts⟩ (c_X5_costOf l dC dI cI cZ cJ cW m_a m_ds_a m_cs_a m_tx_a m_ia_a m_im_a m_ik_a m_sz m_kn m_sg m_fa m_ds m_cs m_tx m_ia m_im m_ik q32 q35 hv35) (cwV 1 hts gX5_saves_X5_costOf rfl rfl rfl (by decide +kernel) ⟨Nat.le_of_ble_eq_true rfl, Nat.le_of_ble_eq_true rfl⟩) ⟨RP.blind, va_recv hK hP (ci := 5) (q0 := 0) rfl rfl, fun U hU hW => ⟨rfl, by rw [hU]; exact hP.sub (ws' := [(m_a, .inr (5, [.int m_sz, .ref m_ds_a, .ref m_cs_a, .int m_kn, .ref m_tx_a, .int m_sg, .int m_fa, .ref m_ia_a, .ref m_im_a, .ref m_ik_a])), (m_ds_a, .inl (cI, 14, .inl m_ds)), (m_cs_a, .inl (cI, 14, .inl m_cs)), (m_tx_a, .inl (cI, 20, .inl m_tx)), (m_ia_a, .inl (cZ, 16384, .inl m_ia)), (m_im_a, .inl (cI, 60, .inl m_im)), (m_ik_a, .inl (cZ, 2, .inl m_ik))]) [0, 1, 2, 3, 4, 5, 6] rfl, va_K.moved hW.alike hK, hN.warm hW⟩⟩ rfl rfl hl.1 rfl (lv_room (Nat.le_of_ble_eq_true rfl)) dX5_saves_35 ⟨Nat.le_of_ble_eq_true rfl, Nat.le_of_ble_eq_true rfl⟩)) (fun r hr => ?_)
    subst hr
    refine lv_isub hx hb dX5_saves_38 ?_
    exact W.iret (v := (q19 - q35)) hx hb hr (fun t ht hW => ⟨_, rfl, (Option.some.inj hM).symm, ht⟩) (fun _ h => by cases h) dX5_saves_39
  · replace hM := ob_pos c_5 hM
    refine lv_iconst (v := (-1)) hx hb dX5_saves_8 (by decide) ?_
    exact W.iret (v := (-1)) hx hb hr (fun t ht hW => ⟨_, rfl, (Option.some.inj hM).symm, ht⟩) (fun _ h => by cases h) dX5_saves_9
/-! X5_isLeast -/
abbrev rm_X5_isLeast : Room := { frames := 1, cells := 0, slots := 0, locals := 21 }
theorem in_X5_isLeast_5 : ∀ w ∈ u_ws RX5 TX5 10, w ∈ wsX5_isLeast := by decide +kernel
set_option maxHeartbeats 4000000 in
set_option maxRecDepth 100000 in
theorem c_X5_isLeast (l : Launch) (dC : Nat → ClassId) (dI : Nat → Nat → Nat) (cI cZ cJ cW : ClassId) (m_a m_ds_a m_cs_a m_tx_a m_ia_a m_im_a m_ik_a : Nat) (m_sz : Int32) (m_kn : Int32) (m_sg : Int32) (m_fa : Int32) (m_ds : Nat → Int32) (m_cs : Nat → Int32) (m_tx : Nat → Int32) (m_ia : Nat → Int32) (m_im : Nat → Int32) (m_ik : Nat → Int32) (p1 : Int32) (R : Int32) (hM : M_X5_isLeast p1 m_sz m_ia = some R) : Met l yX5_isLeast wsX5_isLeast rm_X5_isLeast (va_Pc [.ref m_a, .int p1] (RP (dC, dI) cI cZ cJ cW [(m_a, .inr (5, [.int m_sz, .ref m_ds_a, .ref m_cs_a, .int m_kn, .ref m_tx_a, .int m_sg, .int m_fa, .ref m_ia_a, .ref m_im_a, .ref m_ik_a])), (m_ds_a, .inl (cI, 14, .inl m_ds)), (m_cs_a, .inl (cI, 14, .inl m_cs)), (m_tx_a, .inl (cI, 20, .inl m_tx)), (m_ia_a, .inl (cZ, 16384, .inl m_ia)), (m_im_a, .inl (cI, 60, .inl m_im)), (m_ik_a, .inl (cZ, 2, .inl m_ik))])) (vp_Si (fun r => R = r)) 0 0 (fun _ => False) := by
  refine Met.ofW (cc := cX5_isLeast) (maxL := 4) (ret := (some .boolean)) (by decide) rfl ?_
  intro p e s m args below meth c s₁ B hml hv
  obtain ⟨rfl, hP, hK, hN⟩ := hv
  have hx := B.exec
  have hb := B.bytes
  have hr := B.returns
  have hts := atoms_spec (ws := wsX5_isLeast) B.pre
  have hown : s.vm.findClass RX5 = some m.cls := findClass_of_methodNamed B.named
  have hlocks := B.notSynchronized
  have hf7 := hts (.fieldLink RX5 7 "WordGroundsModel" "size" "I") (by decide +kernel)
  have hf26 := hts (.fieldLink RX5 26 "WordGroundsModel" "isAll" "[Z") (by decide +kernel)
  have hl := lv_entry ([.ref m_a, .int p1]) (n := 4) (Nat.le_of_ble_eq_true rfl)
  rw [lg_entry_eq]
  generalize (lg_sl ([.ref m_a, .int p1]) ++ List.replicate (4 - (lg_sl ([.ref m_a, .int p1])).length) Slot.unset).toArray = ls at hl ⊢
  have hl : lv_has ls 4 [(0, .ref m_a), (1, .int p1)] := hl
  have hM : (if p1 < 0 ∨ 16384 ≤ (p1).toNatClampNeg then none else (L_X5_isLeast_9 p1 m_sz m_ia (fun (v3_9 : Int32) (v2_9 : Int32) => if v2_9 = 0 ∨ v2_9 = 1 then some v2_9 else none) 40 0 (m_ia (p1).toNatClampNeg))) = some R := hM
  refine lv_aload_n hx hb dX5_isLeast_0 rfl (lv_at hl 0 rfl) ?_
  refine va_get (D := (dC, dI)) (ci := 5) (v := .ref m_ia_a) (C := RX5) (T := TX5) (N := 10) hx hb hts in_X5_isLeast_5 hown hK hP 0 rfl rfl 7 (by decide) hf26 (fun _ h9 => h9) rfl dX5_isLeast_1 ?_
  refine lv_iload_n hx hb dX5_isLeast_4 rfl (lv_at hl 1 rfl) ?_
  obtain ⟨h_5, hM⟩ := ob_get hM
  refine va_zald hx hb hK hP 4 1 rfl rfl h_5 dX5_isLeast_5 ?_
  refine lv_istore_n (lv' := [(2, .int (m_ia (p1).toNatClampNeg)), (0, .ref m_a), (1, .int p1)]) hx hb dX5_isLeast_6 rfl hl (by decide) rfl (fun ls hl => ?_)
  refine lv_iconst (v := 0) hx hb dX5_isLeast_7 (by decide) ?_
  refine lv_istore_n (lv' := [(3, .int 0), (2, .int (m_ia (p1).toNatClampNeg)), (0, .ref m_a), (1, .int p1)]) hx hb dX5_isLeast_8 rfl hl (by decide) rfl (fun ls hl => ?_)
  obtain ⟨K9, hK9⟩ : ∃ K : Int32 → Int32 → Option (Int32), K = (fun (v3_9 : Int32) (v2_9 : Int32) => if v2_9 = 0 ∨ v2_9 = 1 then some v2_9 else none) := ⟨_, rfl⟩
  have hM : L_X5_isLeast_9 p1 m_sz m_ia K9 40 0 (m_ia (p1).toNatClampNeg) = some R := by rw [hK9]; exact hM
  have hL9 : ∀ (k9 : Nat) (v3_9 : Int32) (v2_9 : Int32) (ls : Array Slot), L_X5_isLeast_9 p1 m_sz m_ia K9 k9 v3_9 v2_9 = some R → lv_has ls 4 [(3, .int v3_9), (2, .int v2_9), (0, .ref m_a), (1, .int p1)] → W p l e rm_X5_isLeast s m ([.ref m_a, .int p1] : List Value).toArray below meth c s.heap [] 0 0 (MQ below (vp_Si (fun r => R = r)) ([.ref m_a, .int p1] : List Value).toArray s 0 0 (fun _ => False)) (F0 m 9 ls []) := by
    intro k9
    induction k9 with
    | zero => intro v3_9 v2_9 ls hM; exact (ob_none hM).elim
    | succ k9 ih9 =>
      intro v3_9 v2_9 ls hM hl
      have hM : (if m_sz ≤ v3_9 then (K9 v3_9 v2_9) else (if v2_9 = 0 then (L_X5_isLeast_9 p1 m_sz m_ia K9 k9 (v3_9 + 1) 0) else ((M_X5_has p1 v3_9).bind (fun q23 => if q23 = 0 then (L_X5_isLeast_9 p1 m_sz m_ia K9 k9 (v3_9 + 1) 1) else (if (p1 &&& (((1 : Int32) <<< (v3_9 &&& 31)) ^^^ (-1))) < 0 ∨ 16384 ≤ ((p1 &&& (((1 : Int32) <<< (v3_9 &&& 31)) ^^^ (-1)))).toNatClampNeg then none else (if (m_ia ((p1 &&& (((1 : Int32) <<< (v3_9 &&& 31)) ^^^ (-1)))).toNatClampNeg) = 0 then (L_X5_isLeast_9 p1 m_sz m_ia K9 k9 (v3_9 + 1) 1) else (L_X5_isLeast_9 p1 m_sz m_ia K9 k9 (v3_9 + 1) 0))))))) = some R := hM
      refine lv_iload_n hx hb dX5_isLeast_9 rfl (lv_at hl 0 rfl) ?_
      refine lv_aload_n hx hb dX5_isLeast_10 rfl (lv_at hl 2 rfl) ?_
      refine va_get (D := (dC, dI)) (ci := 5) (v := .int m_sz) (C := RX5) (T := TX5) (N := 10) hx hb hts in_X5_isLeast_5 hown hK hP 0 rfl rfl 0 (by decide) hf7 (fun _ h9 => h9) rfl dX5_isLeast_11 ?_
      refine lv_icmp_ge (tgt := 56) hx hb dX5_isLeast_14 (by decide) (fun c_14 => ?_) (fun c_14 => ?_)
      · replace hM := ob_pos c_14 hM
        have hM : (if v2_9 = 0 ∨ v2_9 = 1 then some v2_9 else none) = some R := by rw [hK9] at hM; exact hM
        refine lv_iload_n hx hb dX5_isLeast_56 rfl (lv_at hl 1 rfl) ?_
        obtain ⟨h_57, hM⟩ := ob_zr hM
        exact W.zret (v := v2_9) hx hb hr (nar_b h_57) (fun t ht hW => ⟨_, rfl, (Option.some.inj hM).symm, ht⟩) (fun _ h => by cases h) dX5_isLeast_57
      · replace hM := ob_neg c_14 hM
        refine lv_iload_n hx hb dX5_isLeast_17 rfl (lv_at hl 1 rfl) ?_
        refine lv_if_eq (tgt := 48) hx hb dX5_isLeast_18 (by decide) (fun c_18 => ?_) (fun c_18 => ?_)
        · replace hM := ob_pos c_18 hM
          refine lv_iconst (v := 0) hx hb dX5_isLeast_48 (by decide) ?_
          refine lv_istore_n (lv' := [(2, .int 0), (3, .int v3_9), (0, .ref m_a), (1, .int p1)]) hx hb dX5_isLeast_49 rfl hl (by decide) rfl (fun ls hl => ?_)
          refine lv_iinc (v := (v3_9 + 1)) (lv' := [(3, .int (v3_9 + 1)), (2, .int 0), (0, .ref m_a), (1, .int p1)]) hx hb dX5_isLeast_50 hl (k := 1) rfl (by rfl) (by decide) rfl (fun ls hl => ?_)
          refine lv_goto (tgt := 9) hx hb dX5_isLeast_53 (by decide) ?_
          exact ih9 (v3_9 + 1) 0 _ hM (lv_sub hl [0, 1, 2, 3] rfl)
        · replace hM := ob_neg c_18 hM
          refine lv_iload_n hx hb dX5_isLeast_21 rfl (lv_at hl 3 rfl) ?_
          refine lv_iload_n hx hb dX5_isLeast_22 rfl (lv_at hl 0 rfl) ?_
          obtain ⟨q23, hv23, hM⟩ := ob_bind hM
          refine vp_callSi (va_Run.run (va_runS (As := [.int p1, .int v3_9]) (rest := []) ⟨hx, hb, hml, hown, hts⟩ (c_X5_has l dC dI cI cZ cJ cW p1 v3_9 q23 hv23) (va_cwS 2 hts gX5_isLeast_X5_has rfl rfl rfl (by decide +kernel) ⟨Nat.le_of_ble_eq_true rfl, Nat.le_of_ble_eq_true rfl⟩) ⟨TP.blind, fun U hU hW => ⟨rfl, trivial⟩⟩ rfl rfl hl.1 rfl (lv_room (Nat.le_of_ble_eq_true rfl)) dX5_isLeast_23 ⟨Nat.le_of_ble_eq_true rfl, Nat.le_of_ble_eq_true rfl⟩)) (fun r hr => ?_)
          subst hr
          refine lv_if_eq (tgt := 44) hx hb dX5_isLeast_26 (by decide) (fun c_26 => ?_) (fun c_26 => ?_)
          · replace hM := ob_pos c_26 hM
            refine lv_iconst (v := 1) hx hb dX5_isLeast_44 (by decide) ?_
            refine lv_goto (tgt := 49) hx hb dX5_isLeast_45 (by decide) ?_
            refine lv_istore_n (lv' := [(2, .int 1), (3, .int v3_9), (0, .ref m_a), (1, .int p1)]) hx hb dX5_isLeast_49 rfl hl (by decide) rfl (fun ls hl => ?_)
            refine lv_iinc (v := (v3_9 + 1)) (lv' := [(3, .int (v3_9 + 1)), (2, .int 1), (0, .ref m_a), (1, .int p1)]) hx hb dX5_isLeast_50 hl (k := 1) rfl (by rfl) (by decide) rfl (fun ls hl => ?_)
            refine lv_goto (tgt := 9) hx hb dX5_isLeast_53 (by decide) ?_
            exact ih9 (v3_9 + 1) 1 _ hM (lv_sub hl [0, 1, 2, 3] rfl)
          · replace hM := ob_neg c_26 hM
            refine lv_aload_n hx hb dX5_isLeast_29 rfl (lv_at hl 2 rfl) ?_
            refine va_get (D := (dC, dI)) (ci := 5) (v := .ref m_ia_a) (C := RX5) (T := TX5) (N := 10) hx hb hts in_X5_isLeast_5 hown hK hP 0 rfl rfl 7 (by decide) hf26 (fun _ h9 => h9) rfl dX5_isLeast_30 ?_
            refine lv_iload_n hx hb dX5_isLeast_33 rfl (lv_at hl 3 rfl) ?_
            refine lv_iconst (v := 1) hx hb dX5_isLeast_34 (by decide) ?_
            refine lv_iload_n hx hb dX5_isLeast_35 rfl (lv_at hl 0 rfl) ?_
            refine lv_ishl hx hb dX5_isLeast_36 ?_
            refine lv_iconst (v := (-1)) hx hb dX5_isLeast_37 (by decide) ?_
            refine lv_ixor hx hb dX5_isLeast_38 ?_
            refine lv_iand hx hb dX5_isLeast_39 ?_
            obtain ⟨h_40, hM⟩ := ob_get hM
            refine va_zald hx hb hK hP 4 1 rfl rfl h_40 dX5_isLeast_40 ?_
            refine lv_if_ne (tgt := 48) hx hb dX5_isLeast_41 (by decide) (fun c_41 => ?_) (fun c_41 => ?_)
            · replace hM := ob_neg c_41 hM
              refine lv_iconst (v := 0) hx hb dX5_isLeast_48 (by decide) ?_
              refine lv_istore_n (lv' := [(2, .int 0), (3, .int v3_9), (0, .ref m_a), (1, .int p1)]) hx hb dX5_isLeast_49 rfl hl (by decide) rfl (fun ls hl => ?_)
              refine lv_iinc (v := (v3_9 + 1)) (lv' := [(3, .int (v3_9 + 1)), (2, .int 0), (0, .ref m_a), (1, .int p1)]) hx hb dX5_isLeast_50 hl (k := 1) rfl (by rfl) (by decide) rfl (fun ls hl => ?_)
              refine lv_goto (tgt := 9) hx hb dX5_isLeast_53 (by decide) ?_
              exact ih9 (v3_9 + 1) 0 _ hM (lv_sub hl [0, 1, 2, 3] rfl)
            · replace hM := ob_pos c_41 hM
              refine lv_iconst (v := 1) hx hb dX5_isLeast_44 (by decide) ?_
              refine lv_goto (tgt := 49) hx hb dX5_isLeast_45 (by decide) ?_
              refine lv_istore_n (lv' := [(2, .int 1), (3, .int v3_9), (0, .ref m_a), (1, .int p1)]) hx hb dX5_isLeast_49 rfl hl (by decide) rfl (fun ls hl => ?_)
              refine lv_iinc (v := (v3_9 + 1)) (lv' := [(3, .int (v3_9 + 1)), (2, .int 1), (0, .ref m_a), (1, .int p1)]) hx hb dX5_isLeast_50 hl (k := 1) rfl (by rfl) (by decide) rfl (fun ls hl => ?_)
              refine lv_goto (tgt := 9) hx hb dX5_isLeast_53 (by decide) ?_
              exact ih9 (v3_9 + 1) 1 _ hM (lv_sub hl [0, 1, 2, 3] rfl)
  exact hL9 40 0 (m_ia (p1).toNatClampNeg) _ hM (lv_sub hl [0, 1, 2, 3] rfl)
/-! X5_least -/
abbrev rm_X5_least : Room := { frames := 2, cells := 0, slots := 0, locals := 47 }
theorem in_X5_least_5 : ∀ w ∈ u_ws RX5 TX5 10, w ∈ wsX5_least := by decide +kernel
set_option maxHeartbeats 4000000 in
set_option maxRecDepth 100000 in
theorem c_X5_least (l : Launch) (dC : Nat → ClassId) (dI : Nat → Nat → Nat) (cI cZ cJ cW : ClassId) (sz : Nat) (m_a m_ds_a m_cs_a m_tx_a m_ia_a m_im_a m_ik_a : Nat) (m_sz : Int32) (m_kn : Int32) (m_sg : Int32) (m_fa : Int32) (m_ds : Nat → Int32) (m_cs : Nat → Int32) (m_tx : Nat → Int32) (m_ia : Nat → Int32) (m_im : Nat → Int32) (m_ik : Nat → Int32) (p1 : Int32) (R : Int32 × (Nat → Int32)) (hM : M_X5_least p1 m_sz m_ds m_ia = some R) : Met l yX5_least wsX5_least rm_X5_least (va_Pc [.ref m_a, .int p1] (MP (dC, dI) cI cZ cJ cW sz [(m_a, .inr (5, [.int m_sz, .ref m_ds_a, .ref m_cs_a, .int m_kn, .ref m_tx_a, .int m_sg, .int m_fa, .ref m_ia_a, .ref m_im_a, .ref m_ik_a])), (m_ds_a, .inl (cI, 14, .inl m_ds)), (m_cs_a, .inl (cI, 14, .inl m_cs)), (m_tx_a, .inl (cI, 20, .inl m_tx)), (m_ia_a, .inl (cZ, 16384, .inl m_ia)), (m_im_a, .inl (cI, 60, .inl m_im)), (m_ik_a, .inl (cZ, 2, .inl m_ik))])) (va_Qi (fun (r : Int32) (_ : Unit) => R.1 = r) (PB (dC, dI) (va_A [(m_a, .inr (5, [.int m_sz, .ref m_ds_a, .ref m_cs_a, .int m_kn, .ref m_tx_a, .int m_sg, .int m_fa, .ref m_ia_a, .ref m_im_a, .ref m_ik_a])), (m_ds_a, .inl (cI, 14, .inl m_ds)), (m_cs_a, .inl (cI, 14, .inl m_cs)), (m_tx_a, .inl (cI, 20, .inl m_tx)), (m_ia_a, .inl (cZ, 16384, .inl m_ia)), (m_im_a, .inl (cI, 60, .inl m_im)), (m_ik_a, .inl (cZ, 2, .inl m_ik))] sz) [(m_a, .inr (5, [.int m_sz, .ref m_ds_a, .ref m_cs_a, .int m_kn, .ref m_tx_a, .int m_sg, .int m_fa, .ref m_ia_a, .ref m_im_a, .ref m_ik_a])), (m_ds_a, .inl (cI, 14, .inl m_ds)), (m_cs_a, .inl (cI, 14, .inl m_cs)), (m_tx_a, .inl (cI, 20, .inl m_tx)), (m_ia_a, .inl (cZ, 16384, .inl R.2)), (m_im_a, .inl (cI, 60, .inl m_im)), (m_ik_a, .inl (cZ, 2, .inl m_ik))]) (va_A [(m_a, .inr (5, [.int m_sz, .ref m_ds_a, .ref m_cs_a, .int m_kn, .ref m_tx_a, .int m_sg, .int m_fa, .ref m_ia_a, .ref m_im_a, .ref m_ik_a])), (m_ds_a, .inl (cI, 14, .inl m_ds)), (m_cs_a, .inl (cI, 14, .inl m_cs)), (m_tx_a, .inl (cI, 20, .inl m_tx)), (m_ia_a, .inl (cZ, 16384, .inl m_ia)), (m_im_a, .inl (cI, 60, .inl m_im)), (m_ik_a, .inl (cZ, 2, .inl m_ik))] sz)) 0 0 (va_A [(m_a, .inr (5, [.int m_sz, .ref m_ds_a, .ref m_cs_a, .int m_kn, .ref m_tx_a, .int m_sg, .int m_fa, .ref m_ia_a, .ref m_im_a, .ref m_ik_a])), (m_ds_a, .inl (cI, 14, .inl m_ds)), (m_cs_a, .inl (cI, 14, .inl m_cs)), (m_tx_a, .inl (cI, 20, .inl m_tx)), (m_ia_a, .inl (cZ, 16384, .inl m_ia)), (m_im_a, .inl (cI, 60, .inl m_im)), (m_ik_a, .inl (cZ, 2, .inl m_ik))] sz) := by
  refine Met.ofW (cc := cX5_least) (maxL := 6) (ret := (some .int)) (by decide) rfl ?_
  intro p e s m args below meth c s₁ B hml hv
  obtain ⟨rfl, hsz, hP, hK, hN, hD0⟩ := hv
  have hx := B.exec
  have hb := B.bytes
  have hr := B.returns
  have hts := atoms_spec (ws := wsX5_least) B.pre
  have hown : s.vm.findClass RX5 = some m.cls := findClass_of_methodNamed B.named
  have hlocks := B.notSynchronized
  subst hsz
  have hD := hD0.self (sz := s.heap.size)
  generalize hAe : va_A [(m_a, .inr (5, [.int m_sz, .ref m_ds_a, .ref m_cs_a, .int m_kn, .ref m_tx_a, .int m_sg, .int m_fa, .ref m_ia_a, .ref m_im_a, .ref m_ik_a])), (m_ds_a, .inl (cI, 14, .inl m_ds)), (m_cs_a, .inl (cI, 14, .inl m_cs)), (m_tx_a, .inl (cI, 20, .inl m_tx)), (m_ia_a, .inl (cZ, 16384, .inl m_ia)), (m_im_a, .inl (cI, 60, .inl m_im)), (m_ik_a, .inl (cZ, 2, .inl m_ik))] s.heap.size = A at hD ⊢
  have hA : ∀ q : Nat, s.heap.size ≤ q → A q := fun q h => by rw [← hAe]; exact Or.inr h
  have hS : va_S A s.heap s.heap [] := va_S.rf
  have hf7 := hts (.fieldLink RX5 7 "WordGroundsModel" "size" "I") (by decide +kernel)
  have hf26 := hts (.fieldLink RX5 26 "WordGroundsModel" "isAll" "[Z") (by decide +kernel)
  have hl := lv_entry ([.ref m_a, .int p1]) (n := 6) (Nat.le_of_ble_eq_true rfl)
  rw [lg_entry_eq]
  generalize (lg_sl ([.ref m_a, .int p1]) ++ List.replicate (6 - (lg_sl ([.ref m_a, .int p1])).length) Slot.unset).toArray = ls at hl ⊢
  have hl : lv_has ls 6 [(0, .ref m_a), (1, .int p1)] := hl
  have hP : va_P (dC, dI) vwCl [(m_a, .inr (5, [.int m_sz, .ref m_ds_a, .ref m_cs_a, .int m_kn, .ref m_tx_a, .int m_sg, .int m_fa, .ref m_ia_a, .ref m_im_a, .ref m_ik_a])), (m_ds_a, .inl (cI, 14, .inl m_ds)), (m_cs_a, .inl (cI, 14, .inl m_cs)), (m_tx_a, .inl (cI, 20, .inl m_tx)), (m_ia_a, .inl (cZ, 16384, .inl m_ia)), (m_im_a, .inl (cI, 60, .inl m_im)), (m_ik_a, .inl (cZ, 2, .inl m_ik))] s.heap := hP
  have hM : ((M_X5_in p1 0 1).bind (fun q3 => if q3 = 0 then ((M_X5_in p1 10 (9 + m_sz)).bind (fun q19 => if q19 = 0 then (some ((-2), m_ia)) else (L_X5_least_30 m_sz m_ds (fun (v2_30 : Int32) (m_ia_30 : Nat → Int32) => L_X5_least_79 p1 m_sz m_ia_30 (fun (v5_79 : Int32) (v4_79 : Int32) (v3_79 : Int32) (v2_79 : Int32) => if p1 = 0 then (some (v2_79, m_ia_30)) else (if p1 = 1 then (some (v3_79, m_ia_30)) else (some (v4_79, m_ia_30)))) 20000 0 0 0 0) 20000 0 m_ia))) else (L_X5_least_30 m_sz m_ds (fun (v2_30 : Int32) (m_ia_30 : Nat → Int32) => L_X5_least_79 p1 m_sz m_ia_30 (fun (v5_79 : Int32) (v4_79 : Int32) (v3_79 : Int32) (v2_79 : Int32) => if p1 = 0 then (some (v2_79, m_ia_30)) else (if p1 = 1 then (some (v3_79, m_ia_30)) else (some (v4_79, m_ia_30)))) 20000 0 0 0 0) 20000 0 m_ia))) = some R := hM
  refine lv_iload_n hx hb dX5_least_0 rfl (lv_at hl 1 rfl) ?_
  refine lv_iconst (v := 0) hx hb dX5_least_1 (by decide) ?_
  refine lv_iconst (v := 1) hx hb dX5_least_2 (by decide) ?_
  obtain ⟨q3, hv3, hM⟩ := ob_bind hM
  refine vp_callSi (va_Run.run (va_runS (As := [.int p1, .int 0, .int 1]) (rest := []) ⟨hx, hb, hml, hown, hts⟩ (c_X5_in l dC dI cI cZ cJ cW p1 0 1 q3 hv3) (va_cwS 3 hts gX5_least_X5_in rfl rfl rfl (by decide +kernel) ⟨Nat.le_of_ble_eq_true rfl, Nat.le_of_ble_eq_true rfl⟩) ⟨TP.blind, fun U hU hW => ⟨rfl, trivial⟩⟩ rfl rfl hl.1 rfl (lv_room (Nat.le_of_ble_eq_true rfl)) dX5_least_3 ⟨Nat.le_of_ble_eq_true rfl, Nat.le_of_ble_eq_true rfl⟩)) (fun r hr => ?_)
  subst hr
  refine lv_if_ne (tgt := 28) hx hb dX5_least_6 (by decide) (fun c_6 => ?_) (fun c_6 => ?_)
  · replace hM := ob_neg c_6 hM
    refine lv_iconst (v := 0) hx hb dX5_least_28 (by decide) ?_
    refine lv_istore_n (lv' := [(2, .int 0), (0, .ref m_a), (1, .int p1)]) hx hb dX5_least_29 rfl hl (by decide) rfl (fun ls hl => ?_)
    obtain ⟨K30, hK30⟩ : ∃ K : Int32 → (Nat → Int32) → Option (Int32 × (Nat → Int32)), K = (fun (v2_30 : Int32) (m_ia_30 : Nat → Int32) => L_X5_least_79 p1 m_sz m_ia_30 (fun (v5_79 : Int32) (v4_79 : Int32) (v3_79 : Int32) (v2_79 : Int32) => if p1 = 0 then (some (v2_79, m_ia_30)) else (if p1 = 1 then (some (v3_79, m_ia_30)) else (some (v4_79, m_ia_30)))) 20000 0 0 0 0) := ⟨_, rfl⟩
    have hM : L_X5_least_30 m_sz m_ds K30 20000 0 m_ia = some R := by rw [hK30]; exact hM
    have hL30 : ∀ (k30 : Nat) (v2_30 : Int32) (m_ia_30 : Nat → Int32) (H : Heap) (locs : List Loc) (ls : Array Slot), L_X5_least_30 m_sz m_ds K30 k30 v2_30 m_ia_30 = some R → va_P (dC, dI) vwCl [(m_a, .inr (5, [.int m_sz, .ref m_ds_a, .ref m_cs_a, .int m_kn, .ref m_tx_a, .int m_sg, .int m_fa, .ref m_ia_a, .ref m_im_a, .ref m_ik_a])), (m_ds_a, .inl (cI, 14, .inl m_ds)), (m_cs_a, .inl (cI, 14, .inl m_cs)), (m_tx_a, .inl (cI, 20, .inl m_tx)), (m_ia_a, .inl (cZ, 16384, .inl m_ia_30)), (m_im_a, .inl (cI, 60, .inl m_im)), (m_ik_a, .inl (cZ, 2, .inl m_ik))] H → va_D A [(m_a, .inr (5, [.int m_sz, .ref m_ds_a, .ref m_cs_a, .int m_kn, .ref m_tx_a, .int m_sg, .int m_fa, .ref m_ia_a, .ref m_im_a, .ref m_ik_a])), (m_ds_a, .inl (cI, 14, .inl m_ds)), (m_cs_a, .inl (cI, 14, .inl m_cs)), (m_tx_a, .inl (cI, 20, .inl m_tx)), (m_ia_a, .inl (cZ, 16384, .inl m_ia_30)), (m_im_a, .inl (cI, 60, .inl m_im)), (m_ik_a, .inl (cZ, 2, .inl m_ik))] → va_S A s.heap H locs → lv_has ls 6 [(2, .int v2_30), (0, .ref m_a), (1, .int p1)] → W p l e rm_X5_least s m ([.ref m_a, .int p1] : List Value).toArray below meth c H locs 0 0 (MQ below (va_Qi (fun (r : Int32) (_ : Unit) => R.1 = r) (PB (dC, dI) A [(m_a, .inr (5, [.int m_sz, .ref m_ds_a, .ref m_cs_a, .int m_kn, .ref m_tx_a, .int m_sg, .int m_fa, .ref m_ia_a, .ref m_im_a, .ref m_ik_a])), (m_ds_a, .inl (cI, 14, .inl m_ds)), (m_cs_a, .inl (cI, 14, .inl m_cs)), (m_tx_a, .inl (cI, 20, .inl m_tx)), (m_ia_a, .inl (cZ, 16384, .inl R.2)), (m_im_a, .inl (cI, 60, .inl m_im)), (m_ik_a, .inl (cZ, 2, .inl m_ik))]) A) ([.ref m_a, .int p1] : List Value).toArray s 0 0 A) (F0 m 30 ls []) := by
      intro k30
      induction k30 with
      | zero => intro v2_30 m_ia_30 H locs ls hM; exact (ob_none hM).elim
      | succ k30 ih30 =>
        intro v2_30 m_ia_30 H locs ls hM hP hD hS hl
        have hM : ((M_X5_all m_sz).bind (fun q32 => if q32 < v2_30 then (K30 v2_30 m_ia_30) else ((M_X5_knownOn v2_30 14 m_sz m_ds).bind (fun q47 => (M_X5_all m_sz).bind (fun q51 => if q47 = q51 then (if v2_30 < 0 ∨ 16384 ≤ (v2_30).toNatClampNeg then none else (L_X5_least_30 m_sz m_ds K30 k30 (v2_30 + 1) (upd m_ia_30 (v2_30).toNatClampNeg (vp_nar .boolean 1)))) else (if v2_30 < 0 ∨ 16384 ≤ (v2_30).toNatClampNeg then none else (L_X5_least_30 m_sz m_ds K30 k30 (v2_30 + 1) (upd m_ia_30 (v2_30).toNatClampNeg (vp_nar .boolean 0))))))))) = some R := hM
        refine lv_iload_n hx hb dX5_least_30 rfl (lv_at hl 0 rfl) ?_
        refine lv_aload_n hx hb dX5_least_31 rfl (lv_at hl 1 rfl) ?_
        obtain ⟨q32, hv32, hM⟩ := ob_bind hM
        refine vp_callSi (va_Run.run (va_runV (As := []) (rest := [.int v2_30]) ⟨hx, hb, hml, hown, hts⟩ (c_X5_all l dC dI cI cZ cJ cW m_a m_ds_a m_cs_a m_tx_a m_ia_a m_im_a m_ik_a m_sz m_kn m_sg m_fa m_ds m_cs m_tx m_ia_30 m_im m_ik q32 hv32) (cwV 0 hts gX5_least_X5_all rfl rfl rfl (by decide +kernel) ⟨Nat.le_of_ble_eq_true rfl, Nat.le_of_ble_eq_true rfl⟩) ⟨RP.blind, va_recv hK hP (ci := 5) (q0 := 0) rfl rfl, fun U hU hW => ⟨rfl, by rw [hU]; exact hP.sub (ws' := [(m_a, .inr (5, [.int m_sz, .ref m_ds_a, .ref m_cs_a, .int m_kn, .ref m_tx_a, .int m_sg, .int m_fa, .ref m_ia_a, .ref m_im_a, .ref m_ik_a])), (m_ds_a, .inl (cI, 14, .inl m_ds)), (m_cs_a, .inl (cI, 14, .inl m_cs)), (m_tx_a, .inl (cI, 20, .inl m_tx)), (m_ia_a, .inl (cZ, 16384, .inl m_ia_30)), (m_im_a, .inl (cI, 60, .inl m_im)), (m_ik_a, .inl (cZ, 2, .inl m_ik))]) [0, 1, 2, 3, 4, 5, 6] rfl, va_K.moved hW.alike hK, hN.warm hW⟩⟩ rfl rfl hl.1 rfl (lv_room (Nat.le_of_ble_eq_true rfl)) dX5_least_32 ⟨Nat.le_of_ble_eq_true rfl, Nat.le_of_ble_eq_true rfl⟩)) (fun r hr => ?_)
        subst hr
        refine lv_icmp_gt (tgt := 69) hx hb dX5_least_35 (by decide) (fun c_35 => ?_) (fun c_35 => ?_)
        · replace hM := ob_pos c_35 hM
          have hM : (L_X5_least_79 p1 m_sz m_ia_30 (fun (v5_79 : Int32) (v4_79 : Int32) (v3_79 : Int32) (v2_79 : Int32) => if p1 = 0 then (some (v2_79, m_ia_30)) else (if p1 = 1 then (some (v3_79, m_ia_30)) else (some (v4_79, m_ia_30)))) 20000 0 0 0 0) = some R := by rw [hK30] at hM; exact hM
          refine lv_iconst (v := 0) hx hb dX5_least_69 (by decide) ?_
          refine lv_istore_n (lv' := [(2, .int 0), (0, .ref m_a), (1, .int p1)]) hx hb dX5_least_70 rfl hl (by decide) rfl (fun ls hl => ?_)
          refine lv_iconst (v := 0) hx hb dX5_least_71 (by decide) ?_
          refine lv_istore_n (lv' := [(3, .int 0), (2, .int 0), (0, .ref m_a), (1, .int p1)]) hx hb dX5_least_72 rfl hl (by decide) rfl (fun ls hl => ?_)
          refine lv_iconst (v := 0) hx hb dX5_least_73 (by decide) ?_
          refine lv_istore (lv' := [(4, .int 0), (3, .int 0), (2, .int 0), (0, .ref m_a), (1, .int p1)]) hx hb dX5_least_74 hl (by decide) rfl (fun ls hl => ?_)
          refine lv_iconst (v := 0) hx hb dX5_least_76 (by decide) ?_
          refine lv_istore (lv' := [(5, .int 0), (4, .int 0), (3, .int 0), (2, .int 0), (0, .ref m_a), (1, .int p1)]) hx hb dX5_least_77 hl (by decide) rfl (fun ls hl => ?_)
          obtain ⟨K79, hK79⟩ : ∃ K : Int32 → Int32 → Int32 → Int32 → Option (Int32 × (Nat → Int32)), K = (fun (v5_79 : Int32) (v4_79 : Int32) (v3_79 : Int32) (v2_79 : Int32) => if p1 = 0 then (some (v2_79, m_ia_30)) else (if p1 = 1 then (some (v3_79, m_ia_30)) else (some (v4_79, m_ia_30)))) := ⟨_, rfl⟩
          have hM : L_X5_least_79 p1 m_sz m_ia_30 K79 20000 0 0 0 0 = some R := by rw [hK79]; exact hM
          have hL79 : ∀ (k79 : Nat) (v5_79 : Int32) (v4_79 : Int32) (v3_79 : Int32) (v2_79 : Int32) (H : Heap) (locs : List Loc) (ls : Array Slot), L_X5_least_79 p1 m_sz m_ia_30 K79 k79 v5_79 v4_79 v3_79 v2_79 = some R → va_P (dC, dI) vwCl [(m_a, .inr (5, [.int m_sz, .ref m_ds_a, .ref m_cs_a, .int m_kn, .ref m_tx_a, .int m_sg, .int m_fa, .ref m_ia_a, .ref m_im_a, .ref m_ik_a])), (m_ds_a, .inl (cI, 14, .inl m_ds)), (m_cs_a, .inl (cI, 14, .inl m_cs)), (m_tx_a, .inl (cI, 20, .inl m_tx)), (m_ia_a, .inl (cZ, 16384, .inl m_ia_30)), (m_im_a, .inl (cI, 60, .inl m_im)), (m_ik_a, .inl (cZ, 2, .inl m_ik))] H → va_D A [(m_a, .inr (5, [.int m_sz, .ref m_ds_a, .ref m_cs_a, .int m_kn, .ref m_tx_a, .int m_sg, .int m_fa, .ref m_ia_a, .ref m_im_a, .ref m_ik_a])), (m_ds_a, .inl (cI, 14, .inl m_ds)), (m_cs_a, .inl (cI, 14, .inl m_cs)), (m_tx_a, .inl (cI, 20, .inl m_tx)), (m_ia_a, .inl (cZ, 16384, .inl m_ia_30)), (m_im_a, .inl (cI, 60, .inl m_im)), (m_ik_a, .inl (cZ, 2, .inl m_ik))] → va_S A s.heap H locs → lv_has ls 6 [(5, .int v5_79), (4, .int v4_79), (3, .int v3_79), (2, .int v2_79), (0, .ref m_a), (1, .int p1)] → W p l e rm_X5_least s m ([.ref m_a, .int p1] : List Value).toArray below meth c H locs 0 0 (MQ below (va_Qi (fun (r : Int32) (_ : Unit) => R.1 = r) (PB (dC, dI) A [(m_a, .inr (5, [.int m_sz, .ref m_ds_a, .ref m_cs_a, .int m_kn, .ref m_tx_a, .int m_sg, .int m_fa, .ref m_ia_a, .ref m_im_a, .ref m_ik_a])), (m_ds_a, .inl (cI, 14, .inl m_ds)), (m_cs_a, .inl (cI, 14, .inl m_cs)), (m_tx_a, .inl (cI, 20, .inl m_tx)), (m_ia_a, .inl (cZ, 16384, .inl R.2)), (m_im_a, .inl (cI, 60, .inl m_im)), (m_ik_a, .inl (cZ, 2, .inl m_ik))]) A) ([.ref m_a, .int p1] : List Value).toArray s 0 0 A) (F0 m 79 ls []) := by
            intro k79
            induction k79 with
            | zero => intro v5_79 v4_79 v3_79 v2_79 H locs ls hM; exact (ob_none hM).elim
            | succ k79 ih79 =>
              intro v5_79 v4_79 v3_79 v2_79 H locs ls hM hP hD hS hl
              have hM : ((M_X5_all m_sz).bind (fun q82 => if q82 < v5_79 then (K79 v5_79 v4_79 v3_79 v2_79) else ((M_X5_isLeast v5_79 m_sz m_ia_30).bind (fun q91 => if q91 = 0 then (L_X5_least_79 p1 m_sz m_ia_30 K79 k79 (v5_79 + 1) v4_79 v3_79 v2_79) else ((M_X5_bits v5_79).bind (fun q102 => if q102 ≤ v3_79 then (if p1 ≤ 9 then (L_X5_least_79 p1 m_sz m_ia_30 K79 k79 (v5_79 + 1) (v4_79 + 0) v3_79 (v2_79 + 1)) else ((M_X5_has v5_79 (p1 - 10)).bind (fun q133 => if q133 = 0 then (L_X5_least_79 p1 m_sz m_ia_30 K79 k79 (v5_79 + 1) (v4_79 + 0) v3_79 (v2_79 + 1)) else (L_X5_least_79 p1 m_sz m_ia_30 K79 k79 (v5_79 + 1) (v4_79 + 1) v3_79 (v2_79 + 1))))) else ((M_X5_bits v5_79).bind (fun q111 => if p1 ≤ 9 then (L_X5_least_79 p1 m_sz m_ia_30 K79 k79 (v5_79 + 1) (v4_79 + 0) q111 (v2_79 + 1)) else ((M_X5_has v5_79 (p1 - 10)).bind (fun q133 => if q133 = 0 then (L_X5_least_79 p1 m_sz m_ia_30 K79 k79 (v5_79 + 1) (v4_79 + 0) q111 (v2_79 + 1)) else (L_X5_least_79 p1 m_sz m_ia_30 K79 k79 (v5_79 + 1) (v4_79 + 1) q111 (v2_79 + 1)))))))))))) = some R := hM
              refine lv_iload hx hb dX5_least_79 (lv_at hl 0 rfl) ?_
              refine lv_aload_n hx hb dX5_least_81 rfl (lv_at hl 4 rfl) ?_
              obtain ⟨q82, hv82, hM⟩ := ob_bind hM
              refine vp_callSi (va_Run.run (va_runV (As := []) (rest := [.int v5_79]) ⟨hx, hb, hml, hown, hts⟩ (c_X5_all l dC dI cI cZ cJ cW m_a m_ds_a m_cs_a m_tx_a m_ia_a m_im_a m_ik_a m_sz m_kn m_sg m_fa m_ds m_cs m_tx m_ia_30 m_im m_ik q82 hv82) (cwV 0 hts gX5_least_X5_all rfl rfl rfl (by decide +kernel) ⟨Nat.le_of_ble_eq_true rfl, Nat.le_of_ble_eq_true rfl⟩) ⟨RP.blind, va_recv hK hP (ci := 5) (q0 := 0) rfl rfl, fun U hU hW => ⟨rfl, by rw [hU]; exact hP.sub (ws' := [(m_a, .inr (5, [.int m_sz, .ref m_ds_a, .ref m_cs_a, .int m_kn, .ref m_tx_a, .int m_sg, .int m_fa, .ref m_ia_a, .ref m_im_a, .ref m_ik_a])), (m_ds_a, .inl (cI, 14, .inl m_ds)), (m_cs_a, .inl (cI, 14, .inl m_cs)), (m_tx_a, .inl (cI, 20, .inl m_tx)), (m_ia_a, .inl (cZ, 16384, .inl m_ia_30)), (m_im_a, .inl (cI, 60, .inl m_im)), (m_ik_a, .inl (cZ, 2, .inl m_ik))]) [0, 1, 2, 3, 4, 5, 6] rfl, va_K.moved hW.alike hK, hN.warm hW⟩⟩ rfl rfl hl.1 rfl (lv_room (Nat.le_of_ble_eq_true rfl)) dX5_least_82 ⟨Nat.le_of_ble_eq_true rfl, Nat.le_of_ble_eq_true rfl⟩)) (fun r hr => ?_)
              subst hr
              refine lv_icmp_gt (tgt := 153) hx hb dX5_least_85 (by decide) (fun c_85 => ?_) (fun c_85 => ?_)
              · replace hM := ob_pos c_85 hM
                have hM : (if p1 = 0 then (some (v2_79, m_ia_30)) else (if p1 = 1 then (some (v3_79, m_ia_30)) else (some (v4_79, m_ia_30)))) = some R := by rw [hK79] at hM; exact hM
                refine lv_iload_n hx hb dX5_least_153 rfl (lv_at hl 5 rfl) ?_
                refine lv_if_ne (tgt := 161) hx hb dX5_least_154 (by decide) (fun c_154 => ?_) (fun c_154 => ?_)
                · replace hM := ob_neg c_154 hM
                  refine lv_iload_n hx hb dX5_least_161 rfl (lv_at hl 5 rfl) ?_
                  refine lv_iconst (v := 1) hx hb dX5_least_162 (by decide) ?_
                  refine lv_icmp_ne (tgt := 170) hx hb dX5_least_163 (by decide) (fun c_163 => ?_) (fun c_163 => ?_)
                  · replace hM := ob_neg c_163 hM
                    refine lv_iload hx hb dX5_least_170 (lv_at hl 1 rfl) ?_
                    obtain rfl := Option.some.inj hM
                    have hP9 := hP.sub (ws' := [(m_a, .inr (5, [.int m_sz, .ref m_ds_a, .ref m_cs_a, .int m_kn, .ref m_tx_a, .int m_sg, .int m_fa, .ref m_ia_a, .ref m_im_a, .ref m_ik_a])), (m_ds_a, .inl (cI, 14, .inl m_ds)), (m_cs_a, .inl (cI, 14, .inl m_cs)), (m_tx_a, .inl (cI, 20, .inl m_tx)), (m_ia_a, .inl (cZ, 16384, .inl m_ia_30)), (m_im_a, .inl (cI, 60, .inl m_im)), (m_ik_a, .inl (cZ, 2, .inl m_ik))]) [0, 1, 2, 3, 4, 5, 6] rfl
                    have hD9 := hD.sub (ws' := [(m_a, .inr (5, [.int m_sz, .ref m_ds_a, .ref m_cs_a, .int m_kn, .ref m_tx_a, .int m_sg, .int m_fa, .ref m_ia_a, .ref m_im_a, .ref m_ik_a])), (m_ds_a, .inl (cI, 14, .inl m_ds)), (m_cs_a, .inl (cI, 14, .inl m_cs)), (m_tx_a, .inl (cI, 20, .inl m_tx)), (m_ia_a, .inl (cZ, 16384, .inl m_ia_30)), (m_im_a, .inl (cI, 60, .inl m_im)), (m_ik_a, .inl (cZ, 2, .inl m_ik))]) [0, 1, 2, 3, 4, 5, 6] (by decide) rfl
                    exact W.iret (v := v4_79) hx hb hr (fun t ht hW => ⟨⟨_, (), rfl, rfl, by rw [ht]; exact hP9, hD9⟩, hS.F ht⟩) hS.2.2 dX5_least_172
                  · replace hM := ob_pos c_163 hM
                    refine lv_iload_n hx hb dX5_least_166 rfl (lv_at hl 2 rfl) ?_
                    refine lv_goto (tgt := 172) hx hb dX5_least_167 (by decide) ?_
                    obtain rfl := Option.some.inj hM
                    have hP9 := hP.sub (ws' := [(m_a, .inr (5, [.int m_sz, .ref m_ds_a, .ref m_cs_a, .int m_kn, .ref m_tx_a, .int m_sg, .int m_fa, .ref m_ia_a, .ref m_im_a, .ref m_ik_a])), (m_ds_a, .inl (cI, 14, .inl m_ds)), (m_cs_a, .inl (cI, 14, .inl m_cs)), (m_tx_a, .inl (cI, 20, .inl m_tx)), (m_ia_a, .inl (cZ, 16384, .inl m_ia_30)), (m_im_a, .inl (cI, 60, .inl m_im)), (m_ik_a, .inl (cZ, 2, .inl m_ik))]) [0, 1, 2, 3, 4, 5, 6] rfl
                    have hD9 := hD.sub (ws' := [(m_a, .inr (5, [.int m_sz, .ref m_ds_a, .ref m_cs_a, .int m_kn, .ref m_tx_a, .int m_sg, .int m_fa, .ref m_ia_a, .ref m_im_a, .ref m_ik_a])), (m_ds_a, .inl (cI, 14, .inl m_ds)), (m_cs_a, .inl (cI, 14, .inl m_cs)), (m_tx_a, .inl (cI, 20, .inl m_tx)), (m_ia_a, .inl (cZ, 16384, .inl m_ia_30)), (m_im_a, .inl (cI, 60, .inl m_im)), (m_ik_a, .inl (cZ, 2, .inl m_ik))]) [0, 1, 2, 3, 4, 5, 6] (by decide) rfl
                    exact W.iret (v := v3_79) hx hb hr (fun t ht hW => ⟨⟨_, (), rfl, rfl, by rw [ht]; exact hP9, hD9⟩, hS.F ht⟩) hS.2.2 dX5_least_172
                · replace hM := ob_pos c_154 hM
                  refine lv_iload_n hx hb dX5_least_157 rfl (lv_at hl 3 rfl) ?_
                  refine lv_goto (tgt := 172) hx hb dX5_least_158 (by decide) ?_
                  obtain rfl := Option.some.inj hM
                  have hP9 := hP.sub (ws' := [(m_a, .inr (5, [.int m_sz, .ref m_ds_a, .ref m_cs_a, .int m_kn, .ref m_tx_a, .int m_sg, .int m_fa, .ref m_ia_a, .ref m_im_a, .ref m_ik_a])), (m_ds_a, .inl (cI, 14, .inl m_ds)), (m_cs_a, .inl (cI, 14, .inl m_cs)), (m_tx_a, .inl (cI, 20, .inl m_tx)), (m_ia_a, .inl (cZ, 16384, .inl m_ia_30)), (m_im_a, .inl (cI, 60, .inl m_im)), (m_ik_a, .inl (cZ, 2, .inl m_ik))]) [0, 1, 2, 3, 4, 5, 6] rfl
                  have hD9 := hD.sub (ws' := [(m_a, .inr (5, [.int m_sz, .ref m_ds_a, .ref m_cs_a, .int m_kn, .ref m_tx_a, .int m_sg, .int m_fa, .ref m_ia_a, .ref m_im_a, .ref m_ik_a])), (m_ds_a, .inl (cI, 14, .inl m_ds)), (m_cs_a, .inl (cI, 14, .inl m_cs)), (m_tx_a, .inl (cI, 20, .inl m_tx)), (m_ia_a, .inl (cZ, 16384, .inl m_ia_30)), (m_im_a, .inl (cI, 60, .inl m_im)), (m_ik_a, .inl (cZ, 2, .inl m_ik))]) [0, 1, 2, 3, 4, 5, 6] (by decide) rfl
                  exact W.iret (v := v2_79) hx hb hr (fun t ht hW => ⟨⟨_, (), rfl, rfl, by rw [ht]; exact hP9, hD9⟩, hS.F ht⟩) hS.2.2 dX5_least_172
              · replace hM := ob_neg c_85 hM
                refine lv_aload_n hx hb dX5_least_88 rfl (lv_at hl 4 rfl) ?_
                refine lv_iload hx hb dX5_least_89 (lv_at hl 0 rfl) ?_
                obtain ⟨q91, hv91, hM⟩ := ob_bind hM
                refine vp_callSi (va_Run.run (va_runV (As := [.int v5_79]) (rest := []) ⟨hx, hb, hml, hown, hts⟩ (c_X5_isLeast l dC dI cI cZ cJ cW m_a m_ds_a m_cs_a m_tx_a m_ia_a m_im_a m_ik_a m_sz m_kn m_sg m_fa m_ds m_cs m_tx m_ia_30 m_im m_ik v5_79 q91 hv91) (cwV 1 hts gX5_least_X5_isLeast rfl rfl rfl (by decide +kernel) ⟨Nat.le_of_ble_eq_true rfl, Nat.le_of_ble_eq_true rfl⟩) ⟨RP.blind, va_recv hK hP (ci := 5) (q0 := 0) rfl rfl, fun U hU hW => ⟨rfl, by rw [hU]; exact hP.sub (ws' := [(m_a, .inr (5, [.int m_sz, .ref m_ds_a, .ref m_cs_a, .int m_kn, .ref m_tx_a, .int m_sg, .int m_fa, .ref m_ia_a, .ref m_im_a, .ref m_ik_a])), (m_ds_a, .inl (cI, 14, .inl m_ds)), (m_cs_a, .inl (cI, 14, .inl m_cs)), (m_tx_a, .inl (cI, 20, .inl m_tx)), (m_ia_a, .inl (cZ, 16384, .inl m_ia_30)), (m_im_a, .inl (cI, 60, .inl m_im)), (m_ik_a, .inl (cZ, 2, .inl m_ik))]) [0, 1, 2, 3, 4, 5, 6] rfl, va_K.moved hW.alike hK, hN.warm hW⟩⟩ rfl rfl hl.1 rfl (lv_room (Nat.le_of_ble_eq_true rfl)) dX5_least_91 ⟨Nat.le_of_ble_eq_true rfl, Nat.le_of_ble_eq_true rfl⟩)) (fun r hr => ?_)
                subst hr
                refine lv_if_eq (tgt := 147) hx hb dX5_least_94 (by decide) (fun c_94 => ?_) (fun c_94 => ?_)
                · replace hM := ob_pos c_94 hM
                  refine lv_iinc (v := (v5_79 + 1)) (lv' := [(5, .int (v5_79 + 1)), (4, .int v4_79), (3, .int v3_79), (2, .int v2_79), (0, .ref m_a), (1, .int p1)]) hx hb dX5_least_147 hl (k := 0) rfl (by rfl) (by decide) rfl (fun ls hl => ?_)
                  refine lv_goto (tgt := 79) hx hb dX5_least_150 (by decide) ?_
                  exact ih79 (v5_79 + 1) v4_79 v3_79 v2_79 _ _ _ hM (hP.sub [0, 1, 2, 3, 4, 5, 6] rfl) (hD.sub [0, 1, 2, 3, 4, 5, 6] (by decide) rfl) hS (lv_sub hl [0, 1, 2, 3, 4, 5] rfl)
                · replace hM := ob_neg c_94 hM
                  refine lv_iinc (v := (v2_79 + 1)) (lv' := [(2, .int (v2_79 + 1)), (5, .int v5_79), (4, .int v4_79), (3, .int v3_79), (0, .ref m_a), (1, .int p1)]) hx hb dX5_least_97 hl (k := 3) rfl (by rfl) (by decide) rfl (fun ls hl => ?_)
                  refine lv_iload hx hb dX5_least_100 (lv_at hl 1 rfl) ?_
                  obtain ⟨q102, hv102, hM⟩ := ob_bind hM
                  refine vp_callSi (va_Run.run (va_runS (As := [.int v5_79]) (rest := []) ⟨hx, hb, hml, hown, hts⟩ (c_X5_bits l dC dI cI cZ cJ cW v5_79 q102 hv102) (va_cwS 1 hts gX5_least_X5_bits rfl rfl rfl (by decide +kernel) ⟨Nat.le_of_ble_eq_true rfl, Nat.le_of_ble_eq_true rfl⟩) ⟨TP.blind, fun U hU hW => ⟨rfl, trivial⟩⟩ rfl rfl hl.1 rfl (lv_room (Nat.le_of_ble_eq_true rfl)) dX5_least_102 ⟨Nat.le_of_ble_eq_true rfl, Nat.le_of_ble_eq_true rfl⟩)) (fun r hr => ?_)
                  subst hr
                  refine lv_iload_n hx hb dX5_least_105 rfl (lv_at hl 3 rfl) ?_
                  refine lv_icmp_le (tgt := 117) hx hb dX5_least_106 (by decide) (fun c_106 => ?_) (fun c_106 => ?_)
                  · replace hM := ob_pos c_106 hM
                    refine lv_iload_n hx hb dX5_least_117 rfl (lv_at hl 3 rfl) ?_
                    refine lv_istore_n (lv' := [(3, .int v3_79), (2, .int (v2_79 + 1)), (5, .int v5_79), (4, .int v4_79), (0, .ref m_a), (1, .int p1)]) hx hb dX5_least_118 rfl hl (by decide) rfl (fun ls hl => ?_)
                    refine lv_iload hx hb dX5_least_119 (lv_at hl 3 rfl) ?_
                    refine lv_iload_n hx hb dX5_least_121 rfl (lv_at hl 5 rfl) ?_
                    refine lv_bipush (v := 9) hx hb dX5_least_122 (by decide) ?_
                    refine lv_icmp_le (tgt := 143) hx hb dX5_least_124 (by decide) (fun c_124 => ?_) (fun c_124 => ?_)
                    · replace hM := ob_pos c_124 hM
                      refine lv_iconst (v := 0) hx hb dX5_least_143 (by decide) ?_
                      refine lv_iadd hx hb dX5_least_144 ?_
                      refine lv_istore (lv' := [(4, .int (v4_79 + 0)), (3, .int v3_79), (2, .int (v2_79 + 1)), (5, .int v5_79), (0, .ref m_a), (1, .int p1)]) hx hb dX5_least_145 hl (by decide) rfl (fun ls hl => ?_)
                      refine lv_iinc (v := (v5_79 + 1)) (lv' := [(5, .int (v5_79 + 1)), (4, .int (v4_79 + 0)), (3, .int v3_79), (2, .int (v2_79 + 1)), (0, .ref m_a), (1, .int p1)]) hx hb dX5_least_147 hl (k := 3) rfl (by rfl) (by decide) rfl (fun ls hl => ?_)
                      refine lv_goto (tgt := 79) hx hb dX5_least_150 (by decide) ?_
                      exact ih79 (v5_79 + 1) (v4_79 + 0) v3_79 (v2_79 + 1) _ _ _ hM (hP.sub [0, 1, 2, 3, 4, 5, 6] rfl) (hD.sub [0, 1, 2, 3, 4, 5, 6] (by decide) rfl) hS (lv_sub hl [0, 1, 2, 3, 4, 5] rfl)
                    · replace hM := ob_neg c_124 hM
                      refine lv_iload hx hb dX5_least_127 (lv_at hl 2 rfl) ?_
                      refine lv_iload_n hx hb dX5_least_129 rfl (lv_at hl 5 rfl) ?_
                      refine lv_bipush (v := 10) hx hb dX5_least_130 (by decide) ?_
                      refine lv_isub hx hb dX5_least_132 ?_
                      obtain ⟨q133, hv133, hM⟩ := ob_bind hM
                      refine vp_callSi (va_Run.run (va_runS (As := [.int v5_79, .int (p1 - 10)]) (rest := [.int v4_79]) ⟨hx, hb, hml, hown, hts⟩ (c_X5_has l dC dI cI cZ cJ cW v5_79 (p1 - 10) q133 hv133) (va_cwS 2 hts gX5_least_X5_has rfl rfl rfl (by decide +kernel) ⟨Nat.le_of_ble_eq_true rfl, Nat.le_of_ble_eq_true rfl⟩) ⟨TP.blind, fun U hU hW => ⟨rfl, trivial⟩⟩ rfl rfl hl.1 rfl (lv_room (Nat.le_of_ble_eq_true rfl)) dX5_least_133 ⟨Nat.le_of_ble_eq_true rfl, Nat.le_of_ble_eq_true rfl⟩)) (fun r hr => ?_)
                      subst hr
                      refine lv_if_eq (tgt := 143) hx hb dX5_least_136 (by decide) (fun c_136 => ?_) (fun c_136 => ?_)
                      · replace hM := ob_pos c_136 hM
                        refine lv_iconst (v := 0) hx hb dX5_least_143 (by decide) ?_
                        refine lv_iadd hx hb dX5_least_144 ?_
                        refine lv_istore (lv' := [(4, .int (v4_79 + 0)), (3, .int v3_79), (2, .int (v2_79 + 1)), (5, .int v5_79), (0, .ref m_a), (1, .int p1)]) hx hb dX5_least_145 hl (by decide) rfl (fun ls hl => ?_)
                        refine lv_iinc (v := (v5_79 + 1)) (lv' := [(5, .int (v5_79 + 1)), (4, .int (v4_79 + 0)), (3, .int v3_79), (2, .int (v2_79 + 1)), (0, .ref m_a), (1, .int p1)]) hx hb dX5_least_147 hl (k := 3) rfl (by rfl) (by decide) rfl (fun ls hl => ?_)
                        refine lv_goto (tgt := 79) hx hb dX5_least_150 (by decide) ?_
                        exact ih79 (v5_79 + 1) (v4_79 + 0) v3_79 (v2_79 + 1) _ _ _ hM (hP.sub [0, 1, 2, 3, 4, 5, 6] rfl) (hD.sub [0, 1, 2, 3, 4, 5, 6] (by decide) rfl) hS (lv_sub hl [0, 1, 2, 3, 4, 5] rfl)
                      · replace hM := ob_neg c_136 hM
                        refine lv_iconst (v := 1) hx hb dX5_least_139 (by decide) ?_
                        refine lv_goto (tgt := 144) hx hb dX5_least_140 (by decide) ?_
                        refine lv_iadd hx hb dX5_least_144 ?_
                        refine lv_istore (lv' := [(4, .int (v4_79 + 1)), (3, .int v3_79), (2, .int (v2_79 + 1)), (5, .int v5_79), (0, .ref m_a), (1, .int p1)]) hx hb dX5_least_145 hl (by decide) rfl (fun ls hl => ?_)
                        refine lv_iinc (v := (v5_79 + 1)) (lv' := [(5, .int (v5_79 + 1)), (4, .int (v4_79 + 1)), (3, .int v3_79), (2, .int (v2_79 + 1)), (0, .ref m_a), (1, .int p1)]) hx hb dX5_least_147 hl (k := 3) rfl (by rfl) (by decide) rfl (fun ls hl => ?_)
                        refine lv_goto (tgt := 79) hx hb dX5_least_150 (by decide) ?_
                        exact ih79 (v5_79 + 1) (v4_79 + 1) v3_79 (v2_79 + 1) _ _ _ hM (hP.sub [0, 1, 2, 3, 4, 5, 6] rfl) (hD.sub [0, 1, 2, 3, 4, 5, 6] (by decide) rfl) hS (lv_sub hl [0, 1, 2, 3, 4, 5] rfl)
                  · replace hM := ob_neg c_106 hM
                    refine lv_iload hx hb dX5_least_109 (lv_at hl 1 rfl) ?_
                    obtain ⟨q111, hv111, hM⟩ := ob_bind hM
                    refine vp_callSi (va_Run.run (va_runS (As := [.int v5_79]) (rest := []) ⟨hx, hb, hml, hown, hts⟩ (c_X5_bits l dC dI cI cZ cJ cW v5_79 q111 hv111) (va_cwS 1 hts gX5_least_X5_bits rfl rfl rfl (by decide +kernel) ⟨Nat.le_of_ble_eq_true rfl, Nat.le_of_ble_eq_true rfl⟩) ⟨TP.blind, fun U hU hW => ⟨rfl, trivial⟩⟩ rfl rfl hl.1 rfl (lv_room (Nat.le_of_ble_eq_true rfl)) dX5_least_111 ⟨Nat.le_of_ble_eq_true rfl, Nat.le_of_ble_eq_true rfl⟩)) (fun r hr => ?_)
                    subst hr
                    refine lv_goto (tgt := 118) hx hb dX5_least_114 (by decide) ?_
                    refine lv_istore_n (lv' := [(3, .int q111), (2, .int (v2_79 + 1)), (5, .int v5_79), (4, .int v4_79), (0, .ref m_a), (1, .int p1)]) hx hb dX5_least_118 rfl hl (by decide) rfl (fun ls hl => ?_)
                    refine lv_iload hx hb dX5_least_119 (lv_at hl 3 rfl) ?_
                    refine lv_iload_n hx hb dX5_least_121 rfl (lv_at hl 5 rfl) ?_
                    refine lv_bipush (v := 9) hx hb dX5_least_122 (by decide) ?_
                    refine lv_icmp_le (tgt := 143) hx hb dX5_least_124 (by decide) (fun c_124 => ?_) (fun c_124 => ?_)
                    · replace hM := ob_pos c_124 hM
                      refine lv_iconst (v := 0) hx hb dX5_least_143 (by decide) ?_
                      refine lv_iadd hx hb dX5_least_144 ?_
                      refine lv_istore (lv' := [(4, .int (v4_79 + 0)), (3, .int q111), (2, .int (v2_79 + 1)), (5, .int v5_79), (0, .ref m_a), (1, .int p1)]) hx hb dX5_least_145 hl (by decide) rfl (fun ls hl => ?_)
                      refine lv_iinc (v := (v5_79 + 1)) (lv' := [(5, .int (v5_79 + 1)), (4, .int (v4_79 + 0)), (3, .int q111), (2, .int (v2_79 + 1)), (0, .ref m_a), (1, .int p1)]) hx hb dX5_least_147 hl (k := 3) rfl (by rfl) (by decide) rfl (fun ls hl => ?_)
                      refine lv_goto (tgt := 79) hx hb dX5_least_150 (by decide) ?_
                      exact ih79 (v5_79 + 1) (v4_79 + 0) q111 (v2_79 + 1) _ _ _ hM (hP.sub [0, 1, 2, 3, 4, 5, 6] rfl) (hD.sub [0, 1, 2, 3, 4, 5, 6] (by decide) rfl) hS (lv_sub hl [0, 1, 2, 3, 4, 5] rfl)
                    · replace hM := ob_neg c_124 hM
                      refine lv_iload hx hb dX5_least_127 (lv_at hl 2 rfl) ?_
                      refine lv_iload_n hx hb dX5_least_129 rfl (lv_at hl 5 rfl) ?_
                      refine lv_bipush (v := 10) hx hb dX5_least_130 (by decide) ?_
                      refine lv_isub hx hb dX5_least_132 ?_
                      obtain ⟨q133, hv133, hM⟩ := ob_bind hM
                      refine vp_callSi (va_Run.run (va_runS (As := [.int v5_79, .int (p1 - 10)]) (rest := [.int v4_79]) ⟨hx, hb, hml, hown, hts⟩ (c_X5_has l dC dI cI cZ cJ cW v5_79 (p1 - 10) q133 hv133) (va_cwS 2 hts gX5_least_X5_has rfl rfl rfl (by decide +kernel) ⟨Nat.le_of_ble_eq_true rfl, Nat.le_of_ble_eq_true rfl⟩) ⟨TP.blind, fun U hU hW => ⟨rfl, trivial⟩⟩ rfl rfl hl.1 rfl (lv_room (Nat.le_of_ble_eq_true rfl)) dX5_least_133 ⟨Nat.le_of_ble_eq_true rfl, Nat.le_of_ble_eq_true rfl⟩)) (fun r hr => ?_)
                      subst hr
                      refine lv_if_eq (tgt := 143) hx hb dX5_least_136 (by decide) (fun c_136 => ?_) (fun c_136 => ?_)
                      · replace hM := ob_pos c_136 hM
                        refine lv_iconst (v := 0) hx hb dX5_least_143 (by decide) ?_
                        refine lv_iadd hx hb dX5_least_144 ?_
                        refine lv_istore (lv' := [(4, .int (v4_79 + 0)), (3, .int q111), (2, .int (v2_79 + 1)), (5, .int v5_79), (0, .ref m_a), (1, .int p1)]) hx hb dX5_least_145 hl (by decide) rfl (fun ls hl => ?_)
                        refine lv_iinc (v := (v5_79 + 1)) (lv' := [(5, .int (v5_79 + 1)), (4, .int (v4_79 + 0)), (3, .int q111), (2, .int (v2_79 + 1)), (0, .ref m_a), (1, .int p1)]) hx hb dX5_least_147 hl (k := 3) rfl (by rfl) (by decide) rfl (fun ls hl => ?_)
                        refine lv_goto (tgt := 79) hx hb dX5_least_150 (by decide) ?_
                        exact ih79 (v5_79 + 1) (v4_79 + 0) q111 (v2_79 + 1) _ _ _ hM (hP.sub [0, 1, 2, 3, 4, 5, 6] rfl) (hD.sub [0, 1, 2, 3, 4, 5, 6] (by decide) rfl) hS (lv_sub hl [0, 1, 2, 3, 4, 5] rfl)
                      · replace hM := ob_neg c_136 hM
                        refine lv_iconst (v := 1) hx hb dX5_least_139 (by decide) ?_
                        refine lv_goto (tgt := 144) hx hb dX5_least_140 (by decide) ?_
                        refine lv_iadd hx hb dX5_least_144 ?_
                        refine lv_istore (lv' := [(4, .int (v4_79 + 1)), (3, .int q111), (2, .int (v2_79 + 1)), (5, .int v5_79), (0, .ref m_a), (1, .int p1)]) hx hb dX5_least_145 hl (by decide) rfl (fun ls hl => ?_)
                        refine lv_iinc (v := (v5_79 + 1)) (lv' := [(5, .int (v5_79 + 1)), (4, .int (v4_79 + 1)), (3, .int q111), (2, .int (v2_79 + 1)), (0, .ref m_a), (1, .int p1)]) hx hb dX5_least_147 hl (k := 3) rfl (by rfl) (by decide) rfl (fun ls hl => ?_)
                        refine lv_goto (tgt := 79) hx hb dX5_least_150 (by decide) ?_
                        exact ih79 (v5_79 + 1) (v4_79 + 1) q111 (v2_79 + 1) _ _ _ hM (hP.sub [0, 1, 2, 3, 4, 5, 6] rfl) (hD.sub [0, 1, 2, 3, 4, 5, 6] (by decide) rfl) hS (lv_sub hl [0, 1, 2, 3, 4, 5] rfl)
          exact hL79 20000 0 0 0 0 _ _ _ hM hP hD hS (lv_sub hl [0, 1, 2, 3, 4, 5] rfl)
        · replace hM := ob_neg c_35 hM
          refine lv_aload_n hx hb dX5_least_38 rfl (lv_at hl 1 rfl) ?_
          refine va_get (D := (dC, dI)) (ci := 5) (v := .ref m_ia_a) (C := RX5) (T := TX5) (N := 10) hx hb hts in_X5_least_5 hown hK hP 0 rfl rfl 7 (by decide) hf26 (fun _ h9 => h9) rfl dX5_least_39 ?_
          refine lv_iload_n hx hb dX5_least_42 rfl (lv_at hl 0 rfl) ?_
          refine lv_aload_n hx hb dX5_least_43 rfl (lv_at hl 1 rfl) ?_
          refine lv_iload_n hx hb dX5_least_44 rfl (lv_at hl 0 rfl) ?_
          refine lv_bipush (v := 14) hx hb dX5_least_45 (by decide) ?_
          obtain ⟨q47, hv47, hM⟩ := ob_bind hM
          refine vp_callSi (va_Run.run (va_runV (As := [.int v2_30, .int 14]) (rest := [.int v2_30, .ref m_ia_a]) ⟨hx, hb, hml, hown, hts⟩ (c_X5_knownOn l dC dI cI cZ cJ cW m_a m_ds_a m_cs_a m_tx_a m_ia_a m_im_a m_ik_a m_sz m_kn m_sg m_fa m_ds m_cs m_tx m_ia_30 m_im m_ik v2_30 14 q47 hv47) (cwV 2 hts gX5_least_X5_knownOn rfl rfl rfl (by decide +kernel) ⟨Nat.le_of_ble_eq_true rfl, Nat.le_of_ble_eq_true rfl⟩) ⟨RP.blind, va_recv hK hP (ci := 5) (q0 := 0) rfl rfl, fun U hU hW => ⟨rfl, by rw [hU]; exact hP.sub (ws' := [(m_a, .inr (5, [.int m_sz, .ref m_ds_a, .ref m_cs_a, .int m_kn, .ref m_tx_a, .int m_sg, .int m_fa, .ref m_ia_a, .ref m_im_a, .ref m_ik_a])), (m_ds_a, .inl (cI, 14, .inl m_ds)), (m_cs_a, .inl (cI, 14, .inl m_cs)), (m_tx_a, .inl (cI, 20, .inl m_tx)), (m_ia_a, .inl (cZ, 16384, .inl m_ia_30)), (m_im_a, .inl (cI, 60, .inl m_im)), (m_ik_a, .inl (cZ, 2, .inl m_ik))]) [0, 1, 2, 3, 4, 5, 6] rfl, va_K.moved hW.alike hK, hN.warm hW⟩⟩ rfl rfl hl.1 rfl (lv_room (Nat.le_of_ble_eq_true rfl)) dX5_least_47 ⟨Nat.le_of_ble_eq_true rfl, Nat.le_of_ble_eq_true rfl⟩)) (fun r hr => ?_)
          subst hr
          refine lv_aload_n hx hb dX5_least_50 rfl (lv_at hl 1 rfl) ?_
          obtain ⟨q51, hv51, hM⟩ := ob_bind hM
          refine vp_callSi (va_Run.run (va_runV (As := []) (rest := [.int q47, .int v2_30, .ref m_ia_a]) ⟨hx, hb, hml, hown, hts⟩ (c_X5_all l dC dI cI cZ cJ cW m_a m_ds_a m_cs_a m_tx_a m_ia_a m_im_a m_ik_a m_sz m_kn m_sg m_fa m_ds m_cs m_tx m_ia_30 m_im m_ik q51 hv51) (cwV 0 hts gX5_least_X5_all rfl rfl rfl (by decide +kernel) ⟨Nat.le_of_ble_eq_true rfl, Nat.le_of_ble_eq_true rfl⟩) ⟨RP.blind, va_recv hK hP (ci := 5) (q0 := 0) rfl rfl, fun U hU hW => ⟨rfl, by rw [hU]; exact hP.sub (ws' := [(m_a, .inr (5, [.int m_sz, .ref m_ds_a, .ref m_cs_a, .int m_kn, .ref m_tx_a, .int m_sg, .int m_fa, .ref m_ia_a, .ref m_im_a, .ref m_ik_a])), (m_ds_a, .inl (cI, 14, .inl m_ds)), (m_cs_a, .inl (cI, 14, .inl m_cs)), (m_tx_a, .inl (cI, 20, .inl m_tx)), (m_ia_a, .inl (cZ, 16384, .inl m_ia_30)), (m_im_a, .inl (cI, 60, .inl m_im)), (m_ik_a, .inl (cZ, 2, .inl m_ik))]) [0, 1, 2, 3, 4, 5, 6] rfl, va_K.moved hW.alike hK, hN.warm hW⟩⟩ rfl rfl hl.1 rfl (lv_room (Nat.le_of_ble_eq_true rfl)) dX5_least_51 ⟨Nat.le_of_ble_eq_true rfl, Nat.le_of_ble_eq_true rfl⟩)) (fun r hr => ?_)
          subst hr
          refine lv_icmp_ne (tgt := 61) hx hb dX5_least_54 (by decide) (fun c_54 => ?_) (fun c_54 => ?_)
          · replace hM := ob_neg c_54 hM
            refine lv_iconst (v := 0) hx hb dX5_least_61 (by decide) ?_
            obtain ⟨h_62, hM⟩ := ob_get hM
            refine va_zast hx hb hK hP hD hS 4 1 rfl rfl h_62 dX5_least_62 (fun H locs hP hD hS => ?_)
            have hP : va_P (dC, dI) vwCl [(m_a, .inr (5, [.int m_sz, .ref m_ds_a, .ref m_cs_a, .int m_kn, .ref m_tx_a, .int m_sg, .int m_fa, .ref m_ia_a, .ref m_im_a, .ref m_ik_a])), (m_ds_a, .inl (cI, 14, .inl m_ds)), (m_cs_a, .inl (cI, 14, .inl m_cs)), (m_tx_a, .inl (cI, 20, .inl m_tx)), (m_ia_a, .inl (cZ, 16384, .inl (upd m_ia_30 (v2_30).toNatClampNeg (vp_nar .boolean 0)))), (m_im_a, .inl (cI, 60, .inl m_im)), (m_ik_a, .inl (cZ, 2, .inl m_ik))] H := hP
            have hD : va_D A [(m_a, .inr (5, [.int m_sz, .ref m_ds_a, .ref m_cs_a, .int m_kn, .ref m_tx_a, .int m_sg, .int m_fa, .ref m_ia_a, .ref m_im_a, .ref m_ik_a])), (m_ds_a, .inl (cI, 14, .inl m_ds)), (m_cs_a, .inl (cI, 14, .inl m_cs)), (m_tx_a, .inl (cI, 20, .inl m_tx)), (m_ia_a, .inl (cZ, 16384, .inl (upd m_ia_30 (v2_30).toNatClampNeg (vp_nar .boolean 0)))), (m_im_a, .inl (cI, 60, .inl m_im)), (m_ik_a, .inl (cZ, 2, .inl m_ik))] := hD
            refine lv_iinc (v := (v2_30 + 1)) (lv' := [(2, .int (v2_30 + 1)), (0, .ref m_a), (1, .int p1)]) hx hb dX5_least_63 hl (k := 0) rfl (by rfl) (by decide) rfl (fun ls hl => ?_)
            refine lv_goto (tgt := 30) hx hb dX5_least_66 (by decide) ?_
            exact ih30 (v2_30 + 1) (upd m_ia_30 (v2_30).toNatClampNeg (vp_nar .boolean 0)) _ _ _ hM (hP.sub [0, 1, 2, 3, 4, 5, 6] rfl) (hD.sub [0, 1, 2, 3, 4, 5, 6] (by decide) rfl) hS (lv_sub hl [0, 1, 2] rfl)
          · replace hM := ob_pos c_54 hM
            refine lv_iconst (v := 1) hx hb dX5_least_57 (by decide) ?_
            refine lv_goto (tgt := 62) hx hb dX5_least_58 (by decide) ?_
            obtain ⟨h_62, hM⟩ := ob_get hM
            refine va_zast hx hb hK hP hD hS 4 1 rfl rfl h_62 dX5_least_62 (fun H locs hP hD hS => ?_)
            have hP : va_P (dC, dI) vwCl [(m_a, .inr (5, [.int m_sz, .ref m_ds_a, .ref m_cs_a, .int m_kn, .ref m_tx_a, .int m_sg, .int m_fa, .ref m_ia_a, .ref m_im_a, .ref m_ik_a])), (m_ds_a, .inl (cI, 14, .inl m_ds)), (m_cs_a, .inl (cI, 14, .inl m_cs)), (m_tx_a, .inl (cI, 20, .inl m_tx)), (m_ia_a, .inl (cZ, 16384, .inl (upd m_ia_30 (v2_30).toNatClampNeg (vp_nar .boolean 1)))), (m_im_a, .inl (cI, 60, .inl m_im)), (m_ik_a, .inl (cZ, 2, .inl m_ik))] H := hP
            have hD : va_D A [(m_a, .inr (5, [.int m_sz, .ref m_ds_a, .ref m_cs_a, .int m_kn, .ref m_tx_a, .int m_sg, .int m_fa, .ref m_ia_a, .ref m_im_a, .ref m_ik_a])), (m_ds_a, .inl (cI, 14, .inl m_ds)), (m_cs_a, .inl (cI, 14, .inl m_cs)), (m_tx_a, .inl (cI, 20, .inl m_tx)), (m_ia_a, .inl (cZ, 16384, .inl (upd m_ia_30 (v2_30).toNatClampNeg (vp_nar .boolean 1)))), (m_im_a, .inl (cI, 60, .inl m_im)), (m_ik_a, .inl (cZ, 2, .inl m_ik))] := hD
            refine lv_iinc (v := (v2_30 + 1)) (lv' := [(2, .int (v2_30 + 1)), (0, .ref m_a), (1, .int p1)]) hx hb dX5_least_63 hl (k := 0) rfl (by rfl) (by decide) rfl (fun ls hl => ?_)
            refine lv_goto (tgt := 30) hx hb dX5_least_66 (by decide) ?_
            exact ih30 (v2_30 + 1) (upd m_ia_30 (v2_30).toNatClampNeg (vp_nar .boolean 1)) _ _ _ hM (hP.sub [0, 1, 2, 3, 4, 5, 6] rfl) (hD.sub [0, 1, 2, 3, 4, 5, 6] (by decide) rfl) hS (lv_sub hl [0, 1, 2] rfl)
    exact hL30 20000 0 m_ia _ _ _ hM hP hD hS (lv_sub hl [0, 1, 2] rfl)
  · replace hM := ob_pos c_6 hM
    refine lv_iload_n hx hb dX5_least_9 rfl (lv_at hl 1 rfl) ?_
    refine lv_bipush (v := 10) hx hb dX5_least_10 (by decide) ?_
    refine lv_bipush (v := 9) hx hb dX5_least_12 (by decide) ?_
    refine lv_aload_n hx hb dX5_least_14 rfl (lv_at hl 0 rfl) ?_
    refine va_get (D := (dC, dI)) (ci := 5) (v := .int m_sz) (C := RX5) (T := TX5) (N := 10) hx hb hts in_X5_least_5 hown hK hP 0 rfl rfl 0 (by decide) hf7 (fun _ h9 => h9) rfl dX5_least_15 ?_
    refine lv_iadd hx hb dX5_least_18 ?_
    obtain ⟨q19, hv19, hM⟩ := ob_bind hM
    refine vp_callSi (va_Run.run (va_runS (As := [.int p1, .int 10, .int (9 + m_sz)]) (rest := []) ⟨hx, hb, hml, hown, hts⟩ (c_X5_in l dC dI cI cZ cJ cW p1 10 (9 + m_sz) q19 hv19) (va_cwS 3 hts gX5_least_X5_in rfl rfl rfl (by decide +kernel) ⟨Nat.le_of_ble_eq_true rfl, Nat.le_of_ble_eq_true rfl⟩) ⟨TP.blind, fun U hU hW => ⟨rfl, trivial⟩⟩ rfl rfl hl.1 rfl (lv_room (Nat.le_of_ble_eq_true rfl)) dX5_least_19 ⟨Nat.le_of_ble_eq_true rfl, Nat.le_of_ble_eq_true rfl⟩)) (fun r hr => ?_)
    subst hr
    refine lv_if_ne (tgt := 28) hx hb dX5_least_22 (by decide) (fun c_22 => ?_) (fun c_22 => ?_)
    · replace hM := ob_neg c_22 hM
      refine lv_iconst (v := 0) hx hb dX5_least_28 (by decide) ?_
      refine lv_istore_n (lv' := [(2, .int 0), (0, .ref m_a), (1, .int p1)]) hx hb dX5_least_29 rfl hl (by decide) rfl (fun ls hl => ?_)
      obtain ⟨K30, hK30⟩ : ∃ K : Int32 → (Nat → Int32) → Option (Int32 × (Nat → Int32)), K = (fun (v2_30 : Int32) (m_ia_30 : Nat → Int32) => L_X5_least_79 p1 m_sz m_ia_30 (fun (v5_79 : Int32) (v4_79 : Int32) (v3_79 : Int32) (v2_79 : Int32) => if p1 = 0 then (some (v2_79, m_ia_30)) else (if p1 = 1 then (some (v3_79, m_ia_30)) else (some (v4_79, m_ia_30)))) 20000 0 0 0 0) := ⟨_, rfl⟩
      have hM : L_X5_least_30 m_sz m_ds K30 20000 0 m_ia = some R := by rw [hK30]; exact hM
      have hL30 : ∀ (k30 : Nat) (v2_30 : Int32) (m_ia_30 : Nat → Int32) (H : Heap) (locs : List Loc) (ls : Array Slot), L_X5_least_30 m_sz m_ds K30 k30 v2_30 m_ia_30 = some R → va_P (dC, dI) vwCl [(m_a, .inr (5, [.int m_sz, .ref m_ds_a, .ref m_cs_a, .int m_kn, .ref m_tx_a, .int m_sg, .int m_fa, .ref m_ia_a, .ref m_im_a, .ref m_ik_a])), (m_ds_a, .inl (cI, 14, .inl m_ds)), (m_cs_a, .inl (cI, 14, .inl m_cs)), (m_tx_a, .inl (cI, 20, .inl m_tx)), (m_ia_a, .inl (cZ, 16384, .inl m_ia_30)), (m_im_a, .inl (cI, 60, .inl m_im)), (m_ik_a, .inl (cZ, 2, .inl m_ik))] H → va_D A [(m_a, .inr (5, [.int m_sz, .ref m_ds_a, .ref m_cs_a, .int m_kn, .ref m_tx_a, .int m_sg, .int m_fa, .ref m_ia_a, .ref m_im_a, .ref m_ik_a])), (m_ds_a, .inl (cI, 14, .inl m_ds)), (m_cs_a, .inl (cI, 14, .inl m_cs)), (m_tx_a, .inl (cI, 20, .inl m_tx)), (m_ia_a, .inl (cZ, 16384, .inl m_ia_30)), (m_im_a, .inl (cI, 60, .inl m_im)), (m_ik_a, .inl (cZ, 2, .inl m_ik))] → va_S A s.heap H locs → lv_has ls 6 [(2, .int v2_30), (0, .ref m_a), (1, .int p1)] → W p l e rm_X5_least s m ([.ref m_a, .int p1] : List Value).toArray below meth c H locs 0 0 (MQ below (va_Qi (fun (r : Int32) (_ : Unit) => R.1 = r) (PB (dC, dI) A [(m_a, .inr (5, [.int m_sz, .ref m_ds_a, .ref m_cs_a, .int m_kn, .ref m_tx_a, .int m_sg, .int m_fa, .ref m_ia_a, .ref m_im_a, .ref m_ik_a])), (m_ds_a, .inl (cI, 14, .inl m_ds)), (m_cs_a, .inl (cI, 14, .inl m_cs)), (m_tx_a, .inl (cI, 20, .inl m_tx)), (m_ia_a, .inl (cZ, 16384, .inl R.2)), (m_im_a, .inl (cI, 60, .inl m_im)), (m_ik_a, .inl (cZ, 2, .inl m_ik))]) A) ([.ref m_a, .int p1] : List Value).toArray s 0 0 A) (F0 m 30 ls []) := by
        intro k30
        induction k30 with
        | zero => intro v2_30 m_ia_30 H locs ls hM; exact (ob_none hM).elim
        | succ k30 ih30 =>
          intro v2_30 m_ia_30 H locs ls hM hP hD hS hl
          have hM : ((M_X5_all m_sz).bind (fun q32 => if q32 < v2_30 then (K30 v2_30 m_ia_30) else ((M_X5_knownOn v2_30 14 m_sz m_ds).bind (fun q47 => (M_X5_all m_sz).bind (fun q51 => if q47 = q51 then (if v2_30 < 0 ∨ 16384 ≤ (v2_30).toNatClampNeg then none else (L_X5_least_30 m_sz m_ds K30 k30 (v2_30 + 1) (upd m_ia_30 (v2_30).toNatClampNeg (vp_nar .boolean 1)))) else (if v2_30 < 0 ∨ 16384 ≤ (v2_30).toNatClampNeg then none else (L_X5_least_30 m_sz m_ds K30 k30 (v2_30 + 1) (upd m_ia_30 (v2_30).toNatClampNeg (vp_nar .boolean 0))))))))) = some R := hM
          refine lv_iload_n hx hb dX5_least_30 rfl (lv_at hl 0 rfl) ?_
          refine lv_aload_n hx hb dX5_least_31 rfl (lv_at hl 1 rfl) ?_
          obtain ⟨q32, hv32, hM⟩ := ob_bind hM
          refine vp_callSi (va_Run.run (va_runV (As := []) (rest := [.int v2_30]) ⟨hx, hb, hml, hown, hts⟩ (c_X5_all l dC dI cI cZ cJ cW m_a m_ds_a m_cs_a m_tx_a m_ia_a m_im_a m_ik_a m_sz m_kn m_sg m_fa m_ds m_cs m_tx m_ia_30 m_im m_ik q32 hv32) (cwV 0 hts gX5_least_X5_all rfl rfl rfl (by decide +kernel) ⟨Nat.le_of_ble_eq_true rfl, Nat.le_of_ble_eq_true rfl⟩) ⟨RP.blind, va_recv hK hP (ci := 5) (q0 := 0) rfl rfl, fun U hU hW => ⟨rfl, by rw [hU]; exact hP.sub (ws' := [(m_a, .inr (5, [.int m_sz, .ref m_ds_a, .ref m_cs_a, .int m_kn, .ref m_tx_a, .int m_sg, .int m_fa, .ref m_ia_a, .ref m_im_a, .ref m_ik_a])), (m_ds_a, .inl (cI, 14, .inl m_ds)), (m_cs_a, .inl (cI, 14, .inl m_cs)), (m_tx_a, .inl (cI, 20, .inl m_tx)), (m_ia_a, .inl (cZ, 16384, .inl m_ia_30)), (m_im_a, .inl (cI, 60, .inl m_im)), (m_ik_a, .inl (cZ, 2, .inl m_ik))]) [0, 1, 2, 3, 4, 5, 6] rfl, va_K.moved hW.alike hK, hN.warm hW⟩⟩ rfl rfl hl.1 rfl (lv_room (Nat.le_of_ble_eq_true rfl)) dX5_least_32 ⟨Nat.le_of_ble_eq_true rfl, Nat.le_of_ble_eq_true rfl⟩)) (fun r hr => ?_)
          subst hr
          refine lv_icmp_gt (tgt := 69) hx hb dX5_least_35 (by decide) (fun c_35 => ?_) (fun c_35 => ?_)
          · replace hM := ob_pos c_35 hM
            have hM : (L_X5_least_79 p1 m_sz m_ia_30 (fun (v5_79 : Int32) (v4_79 : Int32) (v3_79 : Int32) (v2_79 : Int32) => if p1 = 0 then (some (v2_79, m_ia_30)) else (if p1 = 1 then (some (v3_79, m_ia_30)) else (some (v4_79, m_ia_30)))) 20000 0 0 0 0) = some R := by rw [hK30] at hM; exact hM
            refine lv_iconst (v := 0) hx hb dX5_least_69 (by decide) ?_
            refine lv_istore_n (lv' := [(2, .int 0), (0, .ref m_a), (1, .int p1)]) hx hb dX5_least_70 rfl hl (by decide) rfl (fun ls hl => ?_)
            refine lv_iconst (v := 0) hx hb dX5_least_71 (by decide) ?_
            refine lv_istore_n (lv' := [(3, .int 0), (2, .int 0), (0, .ref m_a), (1, .int p1)]) hx hb dX5_least_72 rfl hl (by decide) rfl (fun ls hl => ?_)
            refine lv_iconst (v := 0) hx hb dX5_least_73 (by decide) ?_
            refine lv_istore (lv' := [(4, .int 0), (3, .int 0), (2, .int 0), (0, .ref m_a), (1, .int p1)]) hx hb dX5_least_74 hl (by decide) rfl (fun ls hl => ?_)
            refine lv_iconst (v := 0) hx hb dX5_least_76 (by decide) ?_
            refine lv_istore (lv' := [(5, .int 0), (4, .int 0), (3, .int 0), (2, .int 0), (0, .ref m_a), (1, .int p1)]) hx hb dX5_least_77 hl (by decide) rfl (fun ls hl => ?_)
            obtain ⟨K79, hK79⟩ : ∃ K : Int32 → Int32 → Int32 → Int32 → Option (Int32 × (Nat → Int32)), K = (fun (v5_79 : Int32) (v4_79 : Int32) (v3_79 : Int32) (v2_79 : Int32) => if p1 = 0 then (some (v2_79, m_ia_30)) else (if p1 = 1 then (some (v3_79, m_ia_30)) else (some (v4_79, m_ia_30)))) := ⟨_, rfl⟩
            have hM : L_X5_least_79 p1 m_sz m_ia_30 K79 20000 0 0 0 0 = some R := by rw [hK79]; exact hM
            have hL79 : ∀ (k79 : Nat) (v5_79 : Int32) (v4_79 : Int32) (v3_79 : Int32) (v2_79 : Int32) (H : Heap) (locs : List Loc) (ls : Array Slot), L_X5_least_79 p1 m_sz m_ia_30 K79 k79 v5_79 v4_79 v3_79 v2_79 = some R → va_P (dC, dI) vwCl [(m_a, .inr (5, [.int m_sz, .ref m_ds_a, .ref m_cs_a, .int m_kn, .ref m_tx_a, .int m_sg, .int m_fa, .ref m_ia_a, .ref m_im_a, .ref m_ik_a])), (m_ds_a, .inl (cI, 14, .inl m_ds)), (m_cs_a, .inl (cI, 14, .inl m_cs)), (m_tx_a, .inl (cI, 20, .inl m_tx)), (m_ia_a, .inl (cZ, 16384, .inl m_ia_30)), (m_im_a, .inl (cI, 60, .inl m_im)), (m_ik_a, .inl (cZ, 2, .inl m_ik))] H → va_D A [(m_a, .inr (5, [.int m_sz, .ref m_ds_a, .ref m_cs_a, .int m_kn, .ref m_tx_a, .int m_sg, .int m_fa, .ref m_ia_a, .ref m_im_a, .ref m_ik_a])), (m_ds_a, .inl (cI, 14, .inl m_ds)), (m_cs_a, .inl (cI, 14, .inl m_cs)), (m_tx_a, .inl (cI, 20, .inl m_tx)), (m_ia_a, .inl (cZ, 16384, .inl m_ia_30)), (m_im_a, .inl (cI, 60, .inl m_im)), (m_ik_a, .inl (cZ, 2, .inl m_ik))] → va_S A s.heap H locs → lv_has ls 6 [(5, .int v5_79), (4, .int v4_79), (3, .int v3_79), (2, .int v2_79), (0, .ref m_a), (1, .int p1)] → W p l e rm_X5_least s m ([.ref m_a, .int p1] : List Value).toArray below meth c H locs 0 0 (MQ below (va_Qi (fun (r : Int32) (_ : Unit) => R.1 = r) (PB (dC, dI) A [(m_a, .inr (5, [.int m_sz, .ref m_ds_a, .ref m_cs_a, .int m_kn, .ref m_tx_a, .int m_sg, .int m_fa, .ref m_ia_a, .ref m_im_a, .ref m_ik_a])), (m_ds_a, .inl (cI, 14, .inl m_ds)), (m_cs_a, .inl (cI, 14, .inl m_cs)), (m_tx_a, .inl (cI, 20, .inl m_tx)), (m_ia_a, .inl (cZ, 16384, .inl R.2)), (m_im_a, .inl (cI, 60, .inl m_im)), (m_ik_a, .inl (cZ, 2, .inl m_ik))]) A) ([.ref m_a, .int p1] : List Value).toArray s 0 0 A) (F0 m 79 ls []) := by
              intro k79
              induction k79 with
              | zero => intro v5_79 v4_79 v3_79 v2_79 H locs ls hM; exact (ob_none hM).elim
              | succ k79 ih79 =>
                intro v5_79 v4_79 v3_79 v2_79 H locs ls hM hP hD hS hl
                have hM : ((M_X5_all m_sz).bind (fun q82 => if q82 < v5_79 then (K79 v5_79 v4_79 v3_79 v2_79) else ((M_X5_isLeast v5_79 m_sz m_ia_30).bind (fun q91 => if q91 = 0 then (L_X5_least_79 p1 m_sz m_ia_30 K79 k79 (v5_79 + 1) v4_79 v3_79 v2_79) else ((M_X5_bits v5_79).bind (fun q102 => if q102 ≤ v3_79 then (if p1 ≤ 9 then (L_X5_least_79 p1 m_sz m_ia_30 K79 k79 (v5_79 + 1) (v4_79 + 0) v3_79 (v2_79 + 1)) else ((M_X5_has v5_79 (p1 - 10)).bind (fun q133 => if q133 = 0 then (L_X5_least_79 p1 m_sz m_ia_30 K79 k79 (v5_79 + 1) (v4_79 + 0) v3_79 (v2_79 + 1)) else (L_X5_least_79 p1 m_sz m_ia_30 K79 k79 (v5_79 + 1) (v4_79 + 1) v3_79 (v2_79 + 1))))) else ((M_X5_bits v5_79).bind (fun q111 => if p1 ≤ 9 then (L_X5_least_79 p1 m_sz m_ia_30 K79 k79 (v5_79 + 1) (v4_79 + 0) q111 (v2_79 + 1)) else ((M_X5_has v5_79 (p1 - 10)).bind (fun q133 => if q133 = 0 then (L_X5_least_79 p1 m_sz m_ia_30 K79 k79 (v5_79 + 1) (v4_79 + 0) q111 (v2_79 + 1)) else (L_X5_least_79 p1 m_sz m_ia_30 K79 k79 (v5_79 + 1) (v4_79 + 1) q111 (v2_79 + 1)))))))))))) = some R := hM
                refine lv_iload hx hb dX5_least_79 (lv_at hl 0 rfl) ?_
                refine lv_aload_n hx hb dX5_least_81 rfl (lv_at hl 4 rfl) ?_
                obtain ⟨q82, hv82, hM⟩ := ob_bind hM
                refine vp_callSi (va_Run.run (va_runV (As := []) (rest := [.int v5_79]) ⟨hx, hb, hml, hown, hts⟩ (c_X5_all l dC dI cI cZ cJ cW m_a m_ds_a m_cs_a m_tx_a m_ia_a m_im_a m_ik_a m_sz m_kn m_sg m_fa m_ds m_cs m_tx m_ia_30 m_im m_ik q82 hv82) (cwV 0 hts gX5_least_X5_all rfl rfl rfl (by decide +kernel) ⟨Nat.le_of_ble_eq_true rfl, Nat.le_of_ble_eq_true rfl⟩) ⟨RP.blind, va_recv hK hP (ci := 5) (q0 := 0) rfl rfl, fun U hU hW => ⟨rfl, by rw [hU]; exact hP.sub (ws' := [(m_a, .inr (5, [.int m_sz, .ref m_ds_a, .ref m_cs_a, .int m_kn, .ref m_tx_a, .int m_sg, .int m_fa, .ref m_ia_a, .ref m_im_a, .ref m_ik_a])), (m_ds_a, .inl (cI, 14, .inl m_ds)), (m_cs_a, .inl (cI, 14, .inl m_cs)), (m_tx_a, .inl (cI, 20, .inl m_tx)), (m_ia_a, .inl (cZ, 16384, .inl m_ia_30)), (m_im_a, .inl (cI, 60, .inl m_im)), (m_ik_a, .inl (cZ, 2, .inl m_ik))]) [0, 1, 2, 3, 4, 5, 6] rfl, va_K.moved hW.alike hK, hN.warm hW⟩⟩ rfl rfl hl.1 rfl (lv_room (Nat.le_of_ble_eq_true rfl)) dX5_least_82 ⟨Nat.le_of_ble_eq_true rfl, Nat.le_of_ble_eq_true rfl⟩)) (fun r hr => ?_)
                subst hr
                refine lv_icmp_gt (tgt := 153) hx hb dX5_least_85 (by decide) (fun c_85 => ?_) (fun c_85 => ?_)
                · replace hM := ob_pos c_85 hM
                  have hM : (if p1 = 0 then (some (v2_79, m_ia_30)) else (if p1 = 1 then (some (v3_79, m_ia_30)) else (some (v4_79, m_ia_30)))) = some R := by rw [hK79] at hM; exact hM
                  refine lv_iload_n hx hb dX5_least_153 rfl (lv_at hl 5 rfl) ?_
                  refine lv_if_ne (tgt := 161) hx hb dX5_least_154 (by decide) (fun c_154 => ?_) (fun c_154 => ?_)
                  · replace hM := ob_neg c_154 hM
                    refine lv_iload_n hx hb dX5_least_161 rfl (lv_at hl 5 rfl) ?_
                    refine lv_iconst (v := 1) hx hb dX5_least_162 (by decide) ?_
                    refine lv_icmp_ne (tgt := 170) hx hb dX5_least_163 (by decide) (fun c_163 => ?_) (fun c_163 => ?_)
                    · replace hM := ob_neg c_163 hM
                      refine lv_iload hx hb dX5_least_170 (lv_at hl 1 rfl) ?_
                      obtain rfl := Option.some.inj hM
                      have hP9 := hP.sub (ws' := [(m_a, .inr (5, [.int m_sz, .ref m_ds_a, .ref m_cs_a, .int m_kn, .ref m_tx_a, .int m_sg, .int m_fa, .ref m_ia_a, .ref m_im_a, .ref m_ik_a])), (m_ds_a, .inl (cI, 14, .inl m_ds)), (m_cs_a, .inl (cI, 14, .inl m_cs)), (m_tx_a, .inl (cI, 20, .inl m_tx)), (m_ia_a, .inl (cZ, 16384, .inl m_ia_30)), (m_im_a, .inl (cI, 60, .inl m_im)), (m_ik_a, .inl (cZ, 2, .inl m_ik))]) [0, 1, 2, 3, 4, 5, 6] rfl
                      have hD9 := hD.sub (ws' := [(m_a, .inr (5, [.int m_sz, .ref m_ds_a, .ref m_cs_a, .int m_kn, .ref m_tx_a, .int m_sg, .int m_fa, .ref m_ia_a, .ref m_im_a, .ref m_ik_a])), (m_ds_a, .inl (cI, 14, .inl m_ds)), (m_cs_a, .inl (cI, 14, .inl m_cs)), (m_tx_a, .inl (cI, 20, .inl m_tx)), (m_ia_a, .inl (cZ, 16384, .inl m_ia_30)), (m_im_a, .inl (cI, 60, .inl m_im)), (m_ik_a, .inl (cZ, 2, .inl m_ik))]) [0, 1, 2, 3, 4, 5, 6] (by decide) rfl
                      exact W.iret (v := v4_79) hx hb hr (fun t ht hW => ⟨⟨_, (), rfl, rfl, by rw [ht]; exact hP9, hD9⟩, hS.F ht⟩) hS.2.2 dX5_least_172
                    · replace hM := ob_pos c_163 hM
                      refine lv_iload_n hx hb dX5_least_166 rfl (lv_at hl 2 rfl) ?_
                      refine lv_goto (tgt := 172) hx hb dX5_least_167 (by decide) ?_
                      obtain rfl := Option.some.inj hM
                      have hP9 := hP.sub (ws' := [(m_a, .inr (5, [.int m_sz, .ref m_ds_a, .ref m_cs_a, .int m_kn, .ref m_tx_a, .int m_sg, .int m_fa, .ref m_ia_a, .ref m_im_a, .ref m_ik_a])), (m_ds_a, .inl (cI, 14, .inl m_ds)), (m_cs_a, .inl (cI, 14, .inl m_cs)), (m_tx_a, .inl (cI, 20, .inl m_tx)), (m_ia_a, .inl (cZ, 16384, .inl m_ia_30)), (m_im_a, .inl (cI, 60, .inl m_im)), (m_ik_a, .inl (cZ, 2, .inl m_ik))]) [0, 1, 2, 3, 4, 5, 6] rfl
                      have hD9 := hD.sub (ws' := [(m_a, .inr (5, [.int m_sz, .ref m_ds_a, .ref m_cs_a, .int m_kn, .ref m_tx_a, .int m_sg, .int m_fa, .ref m_ia_a, .ref m_im_a, .ref m_ik_a])), (m_ds_a, .inl (cI, 14, .inl m_ds)), (m_cs_a, .inl (cI, 14, .inl m_cs)), (m_tx_a, .inl (cI, 20, .inl m_tx)), (m_ia_a, .inl (cZ, 16384, .inl m_ia_30)), (m_im_a, .inl (cI, 60, .inl m_im)), (m_ik_a, .inl (cZ, 2, .inl m_ik))]) [0, 1, 2, 3, 4, 5, 6] (by decide) rfl
                      exact W.iret (v := v3_79) hx hb hr (fun t ht hW => ⟨⟨_, (), rfl, rfl, by rw [ht]; exact hP9, hD9⟩, hS.F ht⟩) hS.2.2 dX5_least_172
                  · replace hM := ob_pos c_154 hM
                    refine lv_iload_n hx hb dX5_least_157 rfl (lv_at hl 3 rfl) ?_
                    refine lv_goto (tgt := 172) hx hb dX5_least_158 (by decide) ?_
                    obtain rfl := Option.some.inj hM
                    have hP9 := hP.sub (ws' := [(m_a, .inr (5, [.int m_sz, .ref m_ds_a, .ref m_cs_a, .int m_kn, .ref m_tx_a, .int m_sg, .int m_fa, .ref m_ia_a, .ref m_im_a, .ref m_ik_a])), (m_ds_a, .inl (cI, 14, .inl m_ds)), (m_cs_a, .inl (cI, 14, .inl m_cs)), (m_tx_a, .inl (cI, 20, .inl m_tx)), (m_ia_a, .inl (cZ, 16384, .inl m_ia_30)), (m_im_a, .inl (cI, 60, .inl m_im)), (m_ik_a, .inl (cZ, 2, .inl m_ik))]) [0, 1, 2, 3, 4, 5, 6] rfl
                    have hD9 := hD.sub (ws' := [(m_a, .inr (5, [.int m_sz, .ref m_ds_a, .ref m_cs_a, .int m_kn, .ref m_tx_a, .int m_sg, .int m_fa, .ref m_ia_a, .ref m_im_a, .ref m_ik_a])), (m_ds_a, .inl (cI, 14, .inl m_ds)), (m_cs_a, .inl (cI, 14, .inl m_cs)), (m_tx_a, .inl (cI, 20, .inl m_tx)), (m_ia_a, .inl (cZ, 16384, .inl m_ia_30)), (m_im_a, .inl (cI, 60, .inl m_im)), (m_ik_a, .inl (cZ, 2, .inl m_ik))]) [0, 1, 2, 3, 4, 5, 6] (by decide) rfl
                    exact W.iret (v := v2_79) hx hb hr (fun t ht hW => ⟨⟨_, (), rfl, rfl, by rw [ht]; exact hP9, hD9⟩, hS.F ht⟩) hS.2.2 dX5_least_172
                · replace hM := ob_neg c_85 hM
                  refine lv_aload_n hx hb dX5_least_88 rfl (lv_at hl 4 rfl) ?_
                  refine lv_iload hx hb dX5_least_89 (lv_at hl 0 rfl) ?_
                  obtain ⟨q91, hv91, hM⟩ := ob_bind hM
                  refine vp_callSi (va_Run.run (va_runV (As := [.int v5_79]) (rest := []) ⟨hx, hb, hml, hown, hts⟩ (c_X5_isLeast l dC dI cI cZ cJ cW m_a m_ds_a m_cs_a m_tx_a m_ia_a m_im_a m_ik_a m_sz m_kn m_sg m_fa m_ds m_cs m_tx m_ia_30 m_im m_ik v5_79 q91 hv91) (cwV 1 hts gX5_least_X5_isLeast rfl rfl rfl (by decide +kernel) ⟨Nat.le_of_ble_eq_true rfl, Nat.le_of_ble_eq_true rfl⟩) ⟨RP.blind, va_recv hK hP (ci := 5) (q0 := 0) rfl rfl, fun U hU hW => ⟨rfl, by rw [hU]; exact hP.sub (ws' := [(m_a, .inr (5, [.int m_sz, .ref m_ds_a, .ref m_cs_a, .int m_kn, .ref m_tx_a, .int m_sg, .int m_fa, .ref m_ia_a, .ref m_im_a, .ref m_ik_a])), (m_ds_a, .inl (cI, 14, .inl m_ds)), (m_cs_a, .inl (cI, 14, .inl m_cs)), (m_tx_a, .inl (cI, 20, .inl m_tx)), (m_ia_a, .inl (cZ, 16384, .inl m_ia_30)), (m_im_a, .inl (cI, 60, .inl m_im)), (m_ik_a, .inl (cZ, 2, .inl m_ik))]) [0, 1, 2, 3, 4, 5, 6] rfl, va_K.moved hW.alike hK, hN.warm hW⟩⟩ rfl rfl hl.1 rfl (lv_room (Nat.le_of_ble_eq_true rfl)) dX5_least_91 ⟨Nat.le_of_ble_eq_true rfl, Nat.le_of_ble_eq_true rfl⟩)) (fun r hr => ?_)
                  subst hr
                  refine lv_if_eq (tgt := 147) hx hb dX5_least_94 (by decide) (fun c_94 => ?_) (fun c_94 => ?_)
                  · replace hM := ob_pos c_94 hM
                    refine lv_iinc (v := (v5_79 + 1)) (lv' := [(5, .int (v5_79 + 1)), (4, .int v4_79), (3, .int v3_79), (2, .int v2_79), (0, .ref m_a), (1, .int p1)]) hx hb dX5_least_147 hl (k := 0) rfl (by rfl) (by decide) rfl (fun ls hl => ?_)
                    refine lv_goto (tgt := 79) hx hb dX5_least_150 (by decide) ?_
                    exact ih79 (v5_79 + 1) v4_79 v3_79 v2_79 _ _ _ hM (hP.sub [0, 1, 2, 3, 4, 5, 6] rfl) (hD.sub [0, 1, 2, 3, 4, 5, 6] (by decide) rfl) hS (lv_sub hl [0, 1, 2, 3, 4, 5] rfl)
                  · replace hM := ob_neg c_94 hM
                    refine lv_iinc (v := (v2_79 + 1)) (lv' := [(2, .int (v2_79 + 1)), (5, .int v5_79), (4, .int v4_79), (3, .int v3_79), (0, .ref m_a), (1, .int p1)]) hx hb dX5_least_97 hl (k := 3) rfl (by rfl) (by decide) rfl (fun ls hl => ?_)
                    refine lv_iload hx hb dX5_least_100 (lv_at hl 1 rfl) ?_
                    obtain ⟨q102, hv102, hM⟩ := ob_bind hM
                    refine vp_callSi (va_Run.run (va_runS (As := [.int v5_79]) (rest := []) ⟨hx, hb, hml, hown, hts⟩ (c_X5_bits l dC dI cI cZ cJ cW v5_79 q102 hv102) (va_cwS 1 hts gX5_least_X5_bits rfl rfl rfl (by decide +kernel) ⟨Nat.le_of_ble_eq_true rfl, Nat.le_of_ble_eq_true rfl⟩) ⟨TP.blind, fun U hU hW => ⟨rfl, trivial⟩⟩ rfl rfl hl.1 rfl (lv_room (Nat.le_of_ble_eq_true rfl)) dX5_least_102 ⟨Nat.le_of_ble_eq_true rfl, Nat.le_of_ble_eq_true rfl⟩)) (fun r hr => ?_)
                    subst hr
                    refine lv_iload_n hx hb dX5_least_105 rfl (lv_at hl 3 rfl) ?_
                    refine lv_icmp_le (tgt := 117) hx hb dX5_least_106 (by decide) (fun c_106 => ?_) (fun c_106 => ?_)
                    · replace hM := ob_pos c_106 hM
                      refine lv_iload_n hx hb dX5_least_117 rfl (lv_at hl 3 rfl) ?_
                      refine lv_istore_n (lv' := [(3, .int v3_79), (2, .int (v2_79 + 1)), (5, .int v5_79), (4, .int v4_79), (0, .ref m_a), (1, .int p1)]) hx hb dX5_least_118 rfl hl (by decide) rfl (fun ls hl => ?_)
                      refine lv_iload hx hb dX5_least_119 (lv_at hl 3 rfl) ?_
                      refine lv_iload_n hx hb dX5_least_121 rfl (lv_at hl 5 rfl) ?_
                      refine lv_bipush (v := 9) hx hb dX5_least_122 (by decide) ?_
                      refine lv_icmp_le (tgt := 143) hx hb dX5_least_124 (by decide) (fun c_124 => ?_) (fun c_124 => ?_)
                      · replace hM := ob_pos c_124 hM
                        refine lv_iconst (v := 0) hx hb dX5_least_143 (by decide) ?_
                        refine lv_iadd hx hb dX5_least_144 ?_
                        refine lv_istore (lv' := [(4, .int (v4_79 + 0)), (3, .int v3_79), (2, .int (v2_79 + 1)), (5, .int v5_79), (0, .ref m_a), (1, .int p1)]) hx hb dX5_least_145 hl (by decide) rfl (fun ls hl => ?_)
                        refine lv_iinc (v := (v5_79 + 1)) (lv' := [(5, .int (v5_79 + 1)), (4, .int (v4_79 + 0)), (3, .int v3_79), (2, .int (v2_79 + 1)), (0, .ref m_a), (1, .int p1)]) hx hb dX5_least_147 hl (k := 3) rfl (by rfl) (by decide) rfl (fun ls hl => ?_)
                        refine lv_goto (tgt := 79) hx hb dX5_least_150 (by decide) ?_
                        exact ih79 (v5_79 + 1) (v4_79 + 0) v3_79 (v2_79 + 1) _ _ _ hM (hP.sub [0, 1, 2, 3, 4, 5, 6] rfl) (hD.sub [0, 1, 2, 3, 4, 5, 6] (by decide) rfl) hS (lv_sub hl [0, 1, 2, 3, 4, 5] rfl)
                      · replace hM := ob_neg c_124 hM
                        refine lv_iload hx hb dX5_least_127 (lv_at hl 2 rfl) ?_
                        refine lv_iload_n hx hb dX5_least_129 rfl (lv_at hl 5 rfl) ?_
                        refine lv_bipush (v := 10) hx hb dX5_least_130 (by decide) ?_
                        refine lv_isub hx hb dX5_least_132 ?_
                        obtain ⟨q133, hv133, hM⟩ := ob_bind hM
                        refine vp_callSi (va_Run.run (va_runS (As := [.int v5_79, .int (p1 - 10)]) (rest := [.int v4_79]) ⟨hx, hb, hml, hown, hts⟩ (c_X5_has l dC dI cI cZ cJ cW v5_79 (p1 - 10) q133 hv133) (va_cwS 2 hts gX5_least_X5_has rfl rfl rfl (by decide +kernel) ⟨Nat.le_of_ble_eq_true rfl, Nat.le_of_ble_eq_true rfl⟩) ⟨TP.blind, fun U hU hW => ⟨rfl, trivial⟩⟩ rfl rfl hl.1 rfl (lv_room (Nat.le_of_ble_eq_true rfl)) dX5_least_133 ⟨Nat.le_of_ble_eq_true rfl, Nat.le_of_ble_eq_true rfl⟩)) (fun r hr => ?_)
                        subst hr
                        refine lv_if_eq (tgt := 143) hx hb dX5_least_136 (by decide) (fun c_136 => ?_) (fun c_136 => ?_)
                        · replace hM := ob_pos c_136 hM
                          refine lv_iconst (v := 0) hx hb dX5_least_143 (by decide) ?_
                          refine lv_iadd hx hb dX5_least_144 ?_
                          refine lv_istore (lv' := [(4, .int (v4_79 + 0)), (3, .int v3_79), (2, .int (v2_79 + 1)), (5, .int v5_79), (0, .ref m_a), (1, .int p1)]) hx hb dX5_least_145 hl (by decide) rfl (fun ls hl => ?_)
                          refine lv_iinc (v := (v5_79 + 1)) (lv' := [(5, .int (v5_79 + 1)), (4, .int (v4_79 + 0)), (3, .int v3_79), (2, .int (v2_79 + 1)), (0, .ref m_a), (1, .int p1)]) hx hb dX5_least_147 hl (k := 3) rfl (by rfl) (by decide) rfl (fun ls hl => ?_)
                          refine lv_goto (tgt := 79) hx hb dX5_least_150 (by decide) ?_
                          exact ih79 (v5_79 + 1) (v4_79 + 0) v3_79 (v2_79 + 1) _ _ _ hM (hP.sub [0, 1, 2, 3, 4, 5, 6] rfl) (hD.sub [0, 1, 2, 3, 4, 5, 6] (by decide) rfl) hS (lv_sub hl [0, 1, 2, 3, 4, 5] rfl)
                        · replace hM := ob_neg c_136 hM
                          refine lv_iconst (v := 1) hx hb dX5_least_139 (by decide) ?_
                          refine lv_goto (tgt := 144) hx hb dX5_least_140 (by decide) ?_
                          refine lv_iadd hx hb dX5_least_144 ?_
                          refine lv_istore (lv' := [(4, .int (v4_79 + 1)), (3, .int v3_79), (2, .int (v2_79 + 1)), (5, .int v5_79), (0, .ref m_a), (1, .int p1)]) hx hb dX5_least_145 hl (by decide) rfl (fun ls hl => ?_)
                          refine lv_iinc (v := (v5_79 + 1)) (lv' := [(5, .int (v5_79 + 1)), (4, .int (v4_79 + 1)), (3, .int v3_79), (2, .int (v2_79 + 1)), (0, .ref m_a), (1, .int p1)]) hx hb dX5_least_147 hl (k := 3) rfl (by rfl) (by decide) rfl (fun ls hl => ?_)
                          refine lv_goto (tgt := 79) hx hb dX5_least_150 (by decide) ?_
                          exact ih79 (v5_79 + 1) (v4_79 + 1) v3_79 (v2_79 + 1) _ _ _ hM (hP.sub [0, 1, 2, 3, 4, 5, 6] rfl) (hD.sub [0, 1, 2, 3, 4, 5, 6] (by decide) rfl) hS (lv_sub hl [0, 1, 2, 3, 4, 5] rfl)
                    · replace hM := ob_neg c_106 hM
                      refine lv_iload hx hb dX5_least_109 (lv_at hl 1 rfl) ?_
                      obtain ⟨q111, hv111, hM⟩ := ob_bind hM
                      refine vp_callSi (va_Run.run (va_runS (As := [.int v5_79]) (rest := []) ⟨hx, hb, hml, hown, hts⟩ (c_X5_bits l dC dI cI cZ cJ cW v5_79 q111 hv111) (va_cwS 1 hts gX5_least_X5_bits rfl rfl rfl (by decide +kernel) ⟨Nat.le_of_ble_eq_true rfl, Nat.le_of_ble_eq_true rfl⟩) ⟨TP.blind, fun U hU hW => ⟨rfl, trivial⟩⟩ rfl rfl hl.1 rfl (lv_room (Nat.le_of_ble_eq_true rfl)) dX5_least_111 ⟨Nat.le_of_ble_eq_true rfl, Nat.le_of_ble_eq_true rfl⟩)) (fun r hr => ?_)
                      subst hr
                      refine lv_goto (tgt := 118) hx hb dX5_least_114 (by decide) ?_
                      refine lv_istore_n (lv' := [(3, .int q111), (2, .int (v2_79 + 1)), (5, .int v5_79), (4, .int v4_79), (0, .ref m_a), (1, .int p1)]) hx hb dX5_least_118 rfl hl (by decide) rfl (fun ls hl => ?_)
                      refine lv_iload hx hb dX5_least_119 (lv_at hl 3 rfl) ?_
                      refine lv_iload_n hx hb dX5_least_121 rfl (lv_at hl 5 rfl) ?_
                      refine lv_bipush (v := 9) hx hb dX5_least_122 (by decide) ?_
                      refine lv_icmp_le (tgt := 143) hx hb dX5_least_124 (by decide) (fun c_124 => ?_) (fun c_124 => ?_)
                      · replace hM := ob_pos c_124 hM
                        refine lv_iconst (v := 0) hx hb dX5_least_143 (by decide) ?_
                        refine lv_iadd hx hb dX5_least_144 ?_
                        refine lv_istore (lv' := [(4, .int (v4_79 + 0)), (3, .int q111), (2, .int (v2_79 + 1)), (5, .int v5_79), (0, .ref m_a), (1, .int p1)]) hx hb dX5_least_145 hl (by decide) rfl (fun ls hl => ?_)
                        refine lv_iinc (v := (v5_79 + 1)) (lv' := [(5, .int (v5_79 + 1)), (4, .int (v4_79 + 0)), (3, .int q111), (2, .int (v2_79 + 1)), (0, .ref m_a), (1, .int p1)]) hx hb dX5_least_147 hl (k := 3) rfl (by rfl) (by decide) rfl (fun ls hl => ?_)
                        refine lv_goto (tgt := 79) hx hb dX5_least_150 (by decide) ?_
                        exact ih79 (v5_79 + 1) (v4_79 + 0) q111 (v2_79 + 1) _ _ _ hM (hP.sub [0, 1, 2, 3, 4, 5, 6] rfl) (hD.sub [0, 1, 2, 3, 4, 5, 6] (by decide) rfl) hS (lv_sub hl [0, 1, 2, 3, 4, 5] rfl)
                      · replace hM := ob_neg c_124 hM
                        refine lv_iload hx hb dX5_least_127 (lv_at hl 2 rfl) ?_
                        refine lv_iload_n hx hb dX5_least_129 rfl (lv_at hl 5 rfl) ?_
                        refine lv_bipush (v := 10) hx hb dX5_least_130 (by decide) ?_
                        refine lv_isub hx hb dX5_least_132 ?_
                        obtain ⟨q133, hv133, hM⟩ := ob_bind hM
                        refine vp_callSi (va_Run.run (va_runS (As := [.int v5_79, .int (p1 - 10)]) (rest := [.int v4_79]) ⟨hx, hb, hml, hown, hts⟩ (c_X5_has l dC dI cI cZ cJ cW v5_79 (p1 - 10) q133 hv133) (va_cwS 2 hts gX5_least_X5_has rfl rfl rfl (by decide +kernel) ⟨Nat.le_of_ble_eq_true rfl, Nat.le_of_ble_eq_true rfl⟩) ⟨TP.blind, fun U hU hW => ⟨rfl, trivial⟩⟩ rfl rfl hl.1 rfl (lv_room (Nat.le_of_ble_eq_true rfl)) dX5_least_133 ⟨Nat.le_of_ble_eq_true rfl, Nat.le_of_ble_eq_true rfl⟩)) (fun r hr => ?_)
                        subst hr
                        refine lv_if_eq (tgt := 143) hx hb dX5_least_136 (by decide) (fun c_136 => ?_) (fun c_136 => ?_)
                        · replace hM := ob_pos c_136 hM
                          refine lv_iconst (v := 0) hx hb dX5_least_143 (by decide) ?_
                          refine lv_iadd hx hb dX5_least_144 ?_
                          refine lv_istore (lv' := [(4, .int (v4_79 + 0)), (3, .int q111), (2, .int (v2_79 + 1)), (5, .int v5_79), (0, .ref m_a), (1, .int p1)]) hx hb dX5_least_145 hl (by decide) rfl (fun ls hl => ?_)
                          refine lv_iinc (v := (v5_79 + 1)) (lv' := [(5, .int (v5_79 + 1)), (4, .int (v4_79 + 0)), (3, .int q111), (2, .int (v2_79 + 1)), (0, .ref m_a), (1, .int p1)]) hx hb dX5_least_147 hl (k := 3) rfl (by rfl) (by decide) rfl (fun ls hl => ?_)
                          refine lv_goto (tgt := 79) hx hb dX5_least_150 (by decide) ?_
                          exact ih79 (v5_79 + 1) (v4_79 + 0) q111 (v2_79 + 1) _ _ _ hM (hP.sub [0, 1, 2, 3, 4, 5, 6] rfl) (hD.sub [0, 1, 2, 3, 4, 5, 6] (by decide) rfl) hS (lv_sub hl [0, 1, 2, 3, 4, 5] rfl)
                        · replace hM := ob_neg c_136 hM
                          refine lv_iconst (v := 1) hx hb dX5_least_139 (by decide) ?_
                          refine lv_goto (tgt := 144) hx hb dX5_least_140 (by decide) ?_
                          refine lv_iadd hx hb dX5_least_144 ?_
                          refine lv_istore (lv' := [(4, .int (v4_79 + 1)), (3, .int q111), (2, .int (v2_79 + 1)), (5, .int v5_79), (0, .ref m_a), (1, .int p1)]) hx hb dX5_least_145 hl (by decide) rfl (fun ls hl => ?_)
                          refine lv_iinc (v := (v5_79 + 1)) (lv' := [(5, .int (v5_79 + 1)), (4, .int (v4_79 + 1)), (3, .int q111), (2, .int (v2_79 + 1)), (0, .ref m_a), (1, .int p1)]) hx hb dX5_least_147 hl (k := 3) rfl (by rfl) (by decide) rfl (fun ls hl => ?_)
                          refine lv_goto (tgt := 79) hx hb dX5_least_150 (by decide) ?_
                          exact ih79 (v5_79 + 1) (v4_79 + 1) q111 (v2_79 + 1) _ _ _ hM (hP.sub [0, 1, 2, 3, 4, 5, 6] rfl) (hD.sub [0, 1, 2, 3, 4, 5, 6] (by decide) rfl) hS (lv_sub hl [0, 1, 2, 3, 4, 5] rfl)
            exact hL79 20000 0 0 0 0 _ _ _ hM hP hD hS (lv_sub hl [0, 1, 2, 3, 4, 5] rfl)
          · replace hM := ob_neg c_35 hM
            refine lv_aload_n hx hb dX5_least_38 rfl (lv_at hl 1 rfl) ?_
            refine va_get (D := (dC, dI)) (ci := 5) (v := .ref m_ia_a) (C := RX5) (T := TX5) (N := 10) hx hb hts in_X5_least_5 hown hK hP 0 rfl rfl 7 (by decide) hf26 (fun _ h9 => h9) rfl dX5_least_39 ?_
            refine lv_iload_n hx hb dX5_least_42 rfl (lv_at hl 0 rfl) ?_
            refine lv_aload_n hx hb dX5_least_43 rfl (lv_at hl 1 rfl) ?_
            refine lv_iload_n hx hb dX5_least_44 rfl (lv_at hl 0 rfl) ?_
            refine lv_bipush (v := 14) hx hb dX5_least_45 (by decide) ?_
            obtain ⟨q47, hv47, hM⟩ := ob_bind hM
            refine vp_callSi (va_Run.run (va_runV (As := [.int v2_30, .int 14]) (rest := [.int v2_30, .ref m_ia_a]) ⟨hx, hb, hml, hown, hts⟩ (c_X5_knownOn l dC dI cI cZ cJ cW m_a m_ds_a m_cs_a m_tx_a m_ia_a m_im_a m_ik_a m_sz m_kn m_sg m_fa m_ds m_cs m_tx m_ia_30 m_im m_ik v2_30 14 q47 hv47) (cwV 2 hts gX5_least_X5_knownOn rfl rfl rfl (by decide +kernel) ⟨Nat.le_of_ble_eq_true rfl, Nat.le_of_ble_eq_true rfl⟩) ⟨RP.blind, va_recv hK hP (ci := 5) (q0 := 0) rfl rfl, fun U hU hW => ⟨rfl, by rw [hU]; exact hP.sub (ws' := [(m_a, .inr (5, [.int m_sz, .ref m_ds_a, .ref m_cs_a, .int m_kn, .ref m_tx_a, .int m_sg, .int m_fa, .ref m_ia_a, .ref m_im_a, .ref m_ik_a])), (m_ds_a, .inl (cI, 14, .inl m_ds)), (m_cs_a, .inl (cI, 14, .inl m_cs)), (m_tx_a, .inl (cI, 20, .inl m_tx)), (m_ia_a, .inl (cZ, 16384, .inl m_ia_30)), (m_im_a, .inl (cI, 60, .inl m_im)), (m_ik_a, .inl (cZ, 2, .inl m_ik))]) [0, 1, 2, 3, 4, 5, 6] rfl, va_K.moved hW.alike hK, hN.warm hW⟩⟩ rfl rfl hl.1 rfl (lv_room (Nat.le_of_ble_eq_true rfl)) dX5_least_47 ⟨Nat.le_of_ble_eq_true rfl, Nat.le_of_ble_eq_true rfl⟩)) (fun r hr => ?_)
            subst hr
            refine lv_aload_n hx hb dX5_least_50 rfl (lv_at hl 1 rfl) ?_
            obtain ⟨q51, hv51, hM⟩ := ob_bind hM
            refine vp_callSi (va_Run.run (va_runV (As := []) (rest := [.int q47, .int v2_30, .ref m_ia_a]) ⟨hx, hb, hml, hown, hts⟩ (c_X5_all l dC dI cI cZ cJ cW m_a m_ds_a m_cs_a m_tx_a m_ia_a m_im_a m_ik_a m_sz m_kn m_sg m_fa m_ds m_cs m_tx m_ia_30 m_im m_ik q51 hv51) (cwV 0 hts gX5_least_X5_all rfl rfl rfl (by decide +kernel) ⟨Nat.le_of_ble_eq_true rfl, Nat.le_of_ble_eq_true rfl⟩) ⟨RP.blind, va_recv hK hP (ci := 5) (q0 := 0) rfl rfl, fun U hU hW => ⟨rfl, by rw [hU]; exact hP.sub (ws' := [(m_a, .inr (5, [.int m_sz, .ref m_ds_a, .ref m_cs_a, .int m_kn, .ref m_tx_a, .int m_sg, .int m_fa, .ref m_ia_a, .ref m_im_a, .ref m_ik_a])), (m_ds_a, .inl (cI, 14, .inl m_ds)), (m_cs_a, .inl (cI, 14, .inl m_cs)), (m_tx_a, .inl (cI, 20, .inl m_tx)), (m_ia_a, .inl (cZ, 16384, .inl m_ia_30)), (m_im_a, .inl (cI, 60, .inl m_im)), (m_ik_a, .inl (cZ, 2, .inl m_ik))]) [0, 1, 2, 3, 4, 5, 6] rfl, va_K.moved hW.alike hK, hN.warm hW⟩⟩ rfl rfl hl.1 rfl (lv_room (Nat.le_of_ble_eq_true rfl)) dX5_least_51 ⟨Nat.le_of_ble_eq_true rfl, Nat.le_of_ble_eq_true rfl⟩)) (fun r hr => ?_)
            subst hr
            refine lv_icmp_ne (tgt := 61) hx hb dX5_least_54 (by decide) (fun c_54 => ?_) (fun c_54 => ?_)
            · replace hM := ob_neg c_54 hM
              refine lv_iconst (v := 0) hx hb dX5_least_61 (by decide) ?_
              obtain ⟨h_62, hM⟩ := ob_get hM
              refine va_zast hx hb hK hP hD hS 4 1 rfl rfl h_62 dX5_least_62 (fun H locs hP hD hS => ?_)
              have hP : va_P (dC, dI) vwCl [(m_a, .inr (5, [.int m_sz, .ref m_ds_a, .ref m_cs_a, .int m_kn, .ref m_tx_a, .int m_sg, .int m_fa, .ref m_ia_a, .ref m_im_a, .ref m_ik_a])), (m_ds_a, .inl (cI, 14, .inl m_ds)), (m_cs_a, .inl (cI, 14, .inl m_cs)), (m_tx_a, .inl (cI, 20, .inl m_tx)), (m_ia_a, .inl (cZ, 16384, .inl (upd m_ia_30 (v2_30).toNatClampNeg (vp_nar .boolean 0)))), (m_im_a, .inl (cI, 60, .inl m_im)), (m_ik_a, .inl (cZ, 2, .inl m_ik))] H := hP
              have hD : va_D A [(m_a, .inr (5, [.int m_sz, .ref m_ds_a, .ref m_cs_a, .int m_kn, .ref m_tx_a, .int m_sg, .int m_fa, .ref m_ia_a, .ref m_im_a, .ref m_ik_a])), (m_ds_a, .inl (cI, 14, .inl m_ds)), (m_cs_a, .inl (cI, 14, .inl m_cs)), (m_tx_a, .inl (cI, 20, .inl m_tx)), (m_ia_a, .inl (cZ, 16384, .inl (upd m_ia_30 (v2_30).toNatClampNeg (vp_nar .boolean 0)))), (m_im_a, .inl (cI, 60, .inl m_im)), (m_ik_a, .inl (cZ, 2, .inl m_ik))] := hD
              refine lv_iinc (v := (v2_30 + 1)) (lv' := [(2, .int (v2_30 + 1)), (0, .ref m_a), (1, .int p1)]) hx hb dX5_least_63 hl (k := 0) rfl (by rfl) (by decide) rfl (fun ls hl => ?_)
              refine lv_goto (tgt := 30) hx hb dX5_least_66 (by decide) ?_
              exact ih30 (v2_30 + 1) (upd m_ia_30 (v2_30).toNatClampNeg (vp_nar .boolean 0)) _ _ _ hM (hP.sub [0, 1, 2, 3, 4, 5, 6] rfl) (hD.sub [0, 1, 2, 3, 4, 5, 6] (by decide) rfl) hS (lv_sub hl [0, 1, 2] rfl)
            · replace hM := ob_pos c_54 hM
              refine lv_iconst (v := 1) hx hb dX5_least_57 (by decide) ?_
              refine lv_goto (tgt := 62) hx hb dX5_least_58 (by decide) ?_
              obtain ⟨h_62, hM⟩ := ob_get hM
              refine va_zast hx hb hK hP hD hS 4 1 rfl rfl h_62 dX5_least_62 (fun H locs hP hD hS => ?_)
              have hP : va_P (dC, dI) vwCl [(m_a, .inr (5, [.int m_sz, .ref m_ds_a, .ref m_cs_a, .int m_kn, .ref m_tx_a, .int m_sg, .int m_fa, .ref m_ia_a, .ref m_im_a, .ref m_ik_a])), (m_ds_a, .inl (cI, 14, .inl m_ds)), (m_cs_a, .inl (cI, 14, .inl m_cs)), (m_tx_a, .inl (cI, 20, .inl m_tx)), (m_ia_a, .inl (cZ, 16384, .inl (upd m_ia_30 (v2_30).toNatClampNeg (vp_nar .boolean 1)))), (m_im_a, .inl (cI, 60, .inl m_im)), (m_ik_a, .inl (cZ, 2, .inl m_ik))] H := hP
              have hD : va_D A [(m_a, .inr (5, [.int m_sz, .ref m_ds_a, .ref m_cs_a, .int m_kn, .ref m_tx_a, .int m_sg, .int m_fa, .ref m_ia_a, .ref m_im_a, .ref m_ik_a])), (m_ds_a, .inl (cI, 14, .inl m_ds)), (m_cs_a, .inl (cI, 14, .inl m_cs)), (m_tx_a, .inl (cI, 20, .inl m_tx)), (m_ia_a, .inl (cZ, 16384, .inl (upd m_ia_30 (v2_30).toNatClampNeg (vp_nar .boolean 1)))), (m_im_a, .inl (cI, 60, .inl m_im)), (m_ik_a, .inl (cZ, 2, .inl m_ik))] := hD
              refine lv_iinc (v := (v2_30 + 1)) (lv' := [(2, .int (v2_30 + 1)), (0, .ref m_a), (1, .int p1)]) hx hb dX5_least_63 hl (k := 0) rfl (by rfl) (by decide) rfl (fun ls hl => ?_)
              refine lv_goto (tgt := 30) hx hb dX5_least_66 (by decide) ?_
              exact ih30 (v2_30 + 1) (upd m_ia_30 (v2_30).toNatClampNeg (vp_nar .boolean 1)) _ _ _ hM (hP.sub [0, 1, 2, 3, 4, 5, 6] rfl) (hD.sub [0, 1, 2, 3, 4, 5, 6] (by decide) rfl) hS (lv_sub hl [0, 1, 2] rfl)
      exact hL30 20000 0 m_ia _ _ _ hM hP hD hS (lv_sub hl [0, 1, 2] rfl)
    · replace hM := ob_pos c_22 hM
      refine lv_bipush (v := (-2)) hx hb dX5_least_25 (by decide) ?_
      obtain rfl := Option.some.inj hM
      have hP9 := hP.sub (ws' := [(m_a, .inr (5, [.int m_sz, .ref m_ds_a, .ref m_cs_a, .int m_kn, .ref m_tx_a, .int m_sg, .int m_fa, .ref m_ia_a, .ref m_im_a, .ref m_ik_a])), (m_ds_a, .inl (cI, 14, .inl m_ds)), (m_cs_a, .inl (cI, 14, .inl m_cs)), (m_tx_a, .inl (cI, 20, .inl m_tx)), (m_ia_a, .inl (cZ, 16384, .inl m_ia)), (m_im_a, .inl (cI, 60, .inl m_im)), (m_ik_a, .inl (cZ, 2, .inl m_ik))]) [0, 1, 2, 3, 4, 5, 6] rfl
      have hD9 := hD.sub (ws' := [(m_a, .inr (5, [.int m_sz, .ref m_ds_a, .ref m_cs_a, .int m_kn, .ref m_tx_a, .int m_sg, .int m_fa, .ref m_ia_a, .ref m_im_a, .ref m_ik_a])), (m_ds_a, .inl (cI, 14, .inl m_ds)), (m_cs_a, .inl (cI, 14, .inl m_cs)), (m_tx_a, .inl (cI, 20, .inl m_tx)), (m_ia_a, .inl (cZ, 16384, .inl m_ia)), (m_im_a, .inl (cI, 60, .inl m_im)), (m_ik_a, .inl (cZ, 2, .inl m_ik))]) [0, 1, 2, 3, 4, 5, 6] (by decide) rfl
      exact W.iret (v := (-2)) hx hb hr (fun t ht hW => ⟨⟨_, (), rfl, rfl, by rw [ht]; exact hP9, hD9⟩, hS.F ht⟩) hS.2.2 dX5_least_27
/-! X5_reached -/
abbrev rm_X5_reached : Room := { frames := 1, cells := 0, slots := 0, locals := 21 }
theorem in_X5_reached_5 : ∀ w ∈ u_ws RX5 TX5 10, w ∈ wsX5_reached := by decide +kernel
set_option maxHeartbeats 4000000 in
set_option maxRecDepth 100000 in
theorem c_X5_reached (l : Launch) (dC : Nat → ClassId) (dI : Nat → Nat → Nat) (cI cZ cJ cW : ClassId) (m_a m_ds_a m_cs_a m_tx_a m_ia_a m_im_a m_ik_a : Nat) (m_sz : Int32) (m_kn : Int32) (m_sg : Int32) (m_fa : Int32) (m_ds : Nat → Int32) (m_cs : Nat → Int32) (m_tx : Nat → Int32) (m_ia : Nat → Int32) (m_im : Nat → Int32) (m_ik : Nat → Int32) (p1 : Int32) (p2 : Int32) (R : Int32) (hM : M_X5_reached p1 p2 m_sz m_ds = some R) : Met l yX5_reached wsX5_reached rm_X5_reached (va_Pc [.ref m_a, .int p1, .int p2] (RP (dC, dI) cI cZ cJ cW [(m_a, .inr (5, [.int m_sz, .ref m_ds_a, .ref m_cs_a, .int m_kn, .ref m_tx_a, .int m_sg, .int m_fa, .ref m_ia_a, .ref m_im_a, .ref m_ik_a])), (m_ds_a, .inl (cI, 14, .inl m_ds)), (m_cs_a, .inl (cI, 14, .inl m_cs)), (m_tx_a, .inl (cI, 20, .inl m_tx)), (m_ia_a, .inl (cZ, 16384, .inl m_ia)), (m_im_a, .inl (cI, 60, .inl m_im)), (m_ik_a, .inl (cZ, 2, .inl m_ik))])) (vp_Si (fun r => R = r)) 0 0 (fun _ => False) := by
  refine Met.ofW (cc := cX5_reached) (maxL := 7) (ret := (some .int)) (by decide) rfl ?_
  intro p e s m args below meth c s₁ B hml hv
  obtain ⟨rfl, hP, hK, hN⟩ := hv
  have hx := B.exec
  have hb := B.bytes
  have hr := B.returns
  have hts := atoms_spec (ws := wsX5_reached) B.pre
  have hown : s.vm.findClass RX5 = some m.cls := findClass_of_methodNamed B.named
  have hlocks := B.notSynchronized
  have hf7 := hts (.fieldLink RX5 7 "WordGroundsModel" "size" "I") (by decide +kernel)
  have hf13 := hts (.fieldLink RX5 13 "WordGroundsModel" "definitions" "[I") (by decide +kernel)
  have hl := lv_entry ([.ref m_a, .int p1, .int p2]) (n := 7) (Nat.le_of_ble_eq_true rfl)
  rw [lg_entry_eq]
  generalize (lg_sl ([.ref m_a, .int p1, .int p2]) ++ List.replicate (7 - (lg_sl ([.ref m_a, .int p1, .int p2])).length) Slot.unset).toArray = ls at hl ⊢
  have hl : lv_has ls 7 [(0, .ref m_a), (1, .int p1), (2, .int p2)] := hl
  have hM : (L_X5_reached_7 p2 m_sz m_ds (fun (v4_7 : Int32) (v3_7 : Int32) => some v3_7) 40 0 ((1 : Int32) <<< (p1 &&& 31))) = some R := hM
  refine lv_iconst (v := 1) hx hb dX5_reached_0 (by decide) ?_
  refine lv_iload_n hx hb dX5_reached_1 rfl (lv_at hl 1 rfl) ?_
  refine lv_ishl hx hb dX5_reached_2 ?_
  refine lv_istore_n (lv' := [(3, .int ((1 : Int32) <<< (p1 &&& 31))), (0, .ref m_a), (1, .int p1), (2, .int p2)]) hx hb dX5_reached_3 rfl hl (by decide) rfl (fun ls hl => ?_)
  refine lv_iconst (v := 0) hx hb dX5_reached_4 (by decide) ?_
  refine lv_istore (lv' := [(4, .int 0), (3, .int ((1 : Int32) <<< (p1 &&& 31))), (0, .ref m_a), (1, .int p1), (2, .int p2)]) hx hb dX5_reached_5 hl (by decide) rfl (fun ls hl => ?_)
  obtain ⟨K7, hK7⟩ : ∃ K : Int32 → Int32 → Option (Int32), K = (fun (v4_7 : Int32) (v3_7 : Int32) => some v3_7) := ⟨_, rfl⟩
  have hM : L_X5_reached_7 p2 m_sz m_ds K7 40 0 ((1 : Int32) <<< (p1 &&& 31)) = some R := by rw [hK7]; exact hM
  have hL7 : ∀ (k7 : Nat) (v4_7 : Int32) (v3_7 : Int32) (ls : Array Slot), L_X5_reached_7 p2 m_sz m_ds K7 k7 v4_7 v3_7 = some R → lv_has ls 7 [(4, .int v4_7), (3, .int v3_7), (0, .ref m_a), (1, .int p1), (2, .int p2)] → W p l e rm_X5_reached s m ([.ref m_a, .int p1, .int p2] : List Value).toArray below meth c s.heap [] 0 0 (MQ below (vp_Si (fun r => R = r)) ([.ref m_a, .int p1, .int p2] : List Value).toArray s 0 0 (fun _ => False)) (F0 m 7 ls []) := by
    intro k7
    induction k7 with
    | zero => intro v4_7 v3_7 ls hM; exact (ob_none hM).elim
    | succ k7 ih7 =>
      intro v4_7 v3_7 ls hM hl
      have hM : (if p2 ≤ v4_7 then (K7 v4_7 v3_7) else (L_X5_reached_19 m_sz m_ds v3_7 (fun (v6_19 : Int32) (v5_19 : Int32) => L_X5_reached_7 p2 m_sz m_ds K7 k7 (v4_7 + 1) v5_19) 40 0 0)) = some R := hM
      refine lv_iload hx hb dX5_reached_7 (lv_at hl 0 rfl) ?_
      refine lv_iload_n hx hb dX5_reached_9 rfl (lv_at hl 4 rfl) ?_
      refine lv_icmp_ge (tgt := 78) hx hb dX5_reached_10 (by decide) (fun c_10 => ?_) (fun c_10 => ?_)
      · replace hM := ob_pos c_10 hM
        have hM : (some v3_7) = some R := by rw [hK7] at hM; exact hM
        refine lv_iload_n hx hb dX5_reached_78 rfl (lv_at hl 1 rfl) ?_
        exact W.iret (v := v3_7) hx hb hr (fun t ht hW => ⟨_, rfl, (Option.some.inj hM).symm, ht⟩) (fun _ h => by cases h) dX5_reached_79
      · replace hM := ob_neg c_10 hM
        refine lv_iconst (v := 0) hx hb dX5_reached_13 (by decide) ?_
        refine lv_istore (lv' := [(5, .int 0), (4, .int v4_7), (3, .int v3_7), (0, .ref m_a), (1, .int p1), (2, .int p2)]) hx hb dX5_reached_14 hl (by decide) rfl (fun ls hl => ?_)
        refine lv_iconst (v := 0) hx hb dX5_reached_16 (by decide) ?_
        refine lv_istore (lv' := [(6, .int 0), (5, .int 0), (4, .int v4_7), (3, .int v3_7), (0, .ref m_a), (1, .int p1), (2, .int p2)]) hx hb dX5_reached_17 hl (by decide) rfl (fun ls hl => ?_)
        obtain ⟨K19, hK19⟩ : ∃ K : Int32 → Int32 → Option (Int32), K = (fun (v6_19 : Int32) (v5_19 : Int32) => L_X5_reached_7 p2 m_sz m_ds K7 k7 (v4_7 + 1) v5_19) := ⟨_, rfl⟩
        have hM : L_X5_reached_19 m_sz m_ds v3_7 K19 40 0 0 = some R := by rw [hK19]; exact hM
        have hL19 : ∀ (k19 : Nat) (v6_19 : Int32) (v5_19 : Int32) (ls : Array Slot), L_X5_reached_19 m_sz m_ds v3_7 K19 k19 v6_19 v5_19 = some R → lv_has ls 7 [(6, .int v6_19), (5, .int v5_19), (4, .int v4_7), (3, .int v3_7), (0, .ref m_a), (1, .int p1), (2, .int p2)] → W p l e rm_X5_reached s m ([.ref m_a, .int p1, .int p2] : List Value).toArray below meth c s.heap [] 0 0 (MQ below (vp_Si (fun r => R = r)) ([.ref m_a, .int p1, .int p2] : List Value).toArray s 0 0 (fun _ => False)) (F0 m 19 ls []) := by
          intro k19
          induction k19 with
          | zero => intro v6_19 v5_19 ls hM; exact (ob_none hM).elim
          | succ k19 ih19 =>
            intro v6_19 v5_19 ls hM hl
            have hM : (if m_sz ≤ v6_19 then (K19 v6_19 v5_19) else ((M_X5_has v3_7 v6_19).bind (fun q33 => if q33 = 0 then (L_X5_reached_19 m_sz m_ds v3_7 K19 k19 (v6_19 + 1) (v5_19 ||| 0)) else (if v6_19 < 0 ∨ 14 ≤ (v6_19).toNatClampNeg then none else (if (m_ds (v6_19).toNatClampNeg) < 0 then (L_X5_reached_19 m_sz m_ds v3_7 K19 k19 (v6_19 + 1) (v5_19 ||| 0)) else (if v6_19 < 0 ∨ 14 ≤ (v6_19).toNatClampNeg then none else (L_X5_reached_19 m_sz m_ds v3_7 K19 k19 (v6_19 + 1) (v5_19 ||| (m_ds (v6_19).toNatClampNeg))))))))) = some R := hM
            refine lv_iload hx hb dX5_reached_19 (lv_at hl 0 rfl) ?_
            refine lv_aload_n hx hb dX5_reached_21 rfl (lv_at hl 4 rfl) ?_
            refine va_get (D := (dC, dI)) (ci := 5) (v := .int m_sz) (C := RX5) (T := TX5) (N := 10) hx hb hts in_X5_reached_5 hown hK hP 0 rfl rfl 0 (by decide) hf7 (fun _ h9 => h9) rfl dX5_reached_22 ?_
            refine lv_icmp_ge (tgt := 69) hx hb dX5_reached_25 (by decide) (fun c_25 => ?_) (fun c_25 => ?_)
            · replace hM := ob_pos c_25 hM
              have hM : (L_X5_reached_7 p2 m_sz m_ds K7 k7 (v4_7 + 1) v5_19) = some R := by rw [hK19] at hM; exact hM
              refine lv_iload hx hb dX5_reached_69 (lv_at hl 1 rfl) ?_
              refine lv_istore_n (lv' := [(3, .int v5_19), (6, .int v6_19), (5, .int v5_19), (4, .int v4_7), (0, .ref m_a), (1, .int p1), (2, .int p2)]) hx hb dX5_reached_71 rfl hl (by decide) rfl (fun ls hl => ?_)
              refine lv_iinc (v := (v4_7 + 1)) (lv' := [(4, .int (v4_7 + 1)), (3, .int v5_19), (6, .int v6_19), (5, .int v5_19), (0, .ref m_a), (1, .int p1), (2, .int p2)]) hx hb dX5_reached_72 hl (k := 3) rfl (by rfl) (by decide) rfl (fun ls hl => ?_)
              refine lv_goto (tgt := 7) hx hb dX5_reached_75 (by decide) ?_
              exact ih7 (v4_7 + 1) v5_19 _ hM (lv_sub hl [0, 1, 4, 5, 6] rfl)
            · replace hM := ob_neg c_25 hM
              refine lv_iload hx hb dX5_reached_28 (lv_at hl 1 rfl) ?_
              refine lv_iload_n hx hb dX5_reached_30 rfl (lv_at hl 3 rfl) ?_
              refine lv_iload hx hb dX5_reached_31 (lv_at hl 0 rfl) ?_
              obtain ⟨q33, hv33, hM⟩ := ob_bind hM
              refine vp_callSi (va_Run.run (va_runS (As := [.int v3_7, .int v6_19]) (rest := [.int v5_19]) ⟨hx, hb, hml, hown, hts⟩ (c_X5_has l dC dI cI cZ cJ cW v3_7 v6_19 q33 hv33) (va_cwS 2 hts gX5_reached_X5_has rfl rfl rfl (by decide +kernel) ⟨Nat.le_of_ble_eq_true rfl, Nat.le_of_ble_eq_true rfl⟩) ⟨TP.blind, fun U hU hW => ⟨rfl, trivial⟩⟩ rfl rfl hl.1 rfl (lv_room (Nat.le_of_ble_eq_true rfl)) dX5_reached_33 ⟨Nat.le_of_ble_eq_true rfl, Nat.le_of_ble_eq_true rfl⟩)) (fun r hr => ?_)
              subst hr
              refine lv_if_eq (tgt := 59) hx hb dX5_reached_36 (by decide) (fun c_36 => ?_) (fun c_36 => ?_)
              · replace hM := ob_pos c_36 hM
                refine lv_iconst (v := 0) hx hb dX5_reached_59 (by decide) ?_
                refine lv_ior hx hb dX5_reached_60 ?_
                refine lv_istore (lv' := [(5, .int (v5_19 ||| 0)), (6, .int v6_19), (4, .int v4_7), (3, .int v3_7), (0, .ref m_a), (1, .int p1), (2, .int p2)]) hx hb dX5_reached_61 hl (by decide) rfl (fun ls hl => ?_)
                refine lv_iinc (v := (v6_19 + 1)) (lv' := [(6, .int (v6_19 + 1)), (5, .int (v5_19 ||| 0)), (4, .int v4_7), (3, .int v3_7), (0, .ref m_a), (1, .int p1), (2, .int p2)]) hx hb dX5_reached_63 hl (k := 1) rfl (by rfl) (by decide) rfl (fun ls hl => ?_)
                refine lv_goto (tgt := 19) hx hb dX5_reached_66 (by decide) ?_
                exact ih19 (v6_19 + 1) (v5_19 ||| 0) _ hM (lv_sub hl [0, 1, 2, 3, 4, 5, 6] rfl)
              · replace hM := ob_neg c_36 hM
                refine lv_aload_n hx hb dX5_reached_39 rfl (lv_at hl 4 rfl) ?_
                refine va_get (D := (dC, dI)) (ci := 5) (v := .ref m_ds_a) (C := RX5) (T := TX5) (N := 10) hx hb hts in_X5_reached_5 hown hK hP 0 rfl rfl 1 (by decide) hf13 (fun _ h9 => h9) rfl dX5_reached_40 ?_
                refine lv_iload hx hb dX5_reached_43 (lv_at hl 0 rfl) ?_
                obtain ⟨h_45, hM⟩ := ob_get hM
                refine va_iald hx hb hK hP 1 0 rfl rfl h_45 dX5_reached_45 ?_
                refine lv_if_lt (tgt := 59) hx hb dX5_reached_46 (by decide) (fun c_46 => ?_) (fun c_46 => ?_)
                · replace hM := ob_pos c_46 hM
                  refine lv_iconst (v := 0) hx hb dX5_reached_59 (by decide) ?_
                  refine lv_ior hx hb dX5_reached_60 ?_
                  refine lv_istore (lv' := [(5, .int (v5_19 ||| 0)), (6, .int v6_19), (4, .int v4_7), (3, .int v3_7), (0, .ref m_a), (1, .int p1), (2, .int p2)]) hx hb dX5_reached_61 hl (by decide) rfl (fun ls hl => ?_)
                  refine lv_iinc (v := (v6_19 + 1)) (lv' := [(6, .int (v6_19 + 1)), (5, .int (v5_19 ||| 0)), (4, .int v4_7), (3, .int v3_7), (0, .ref m_a), (1, .int p1), (2, .int p2)]) hx hb dX5_reached_63 hl (k := 1) rfl (by rfl) (by decide) rfl (fun ls hl => ?_)
                  refine lv_goto (tgt := 19) hx hb dX5_reached_66 (by decide) ?_
                  exact ih19 (v6_19 + 1) (v5_19 ||| 0) _ hM (lv_sub hl [0, 1, 2, 3, 4, 5, 6] rfl)
                · replace hM := ob_neg c_46 hM
                  refine lv_aload_n hx hb dX5_reached_49 rfl (lv_at hl 4 rfl) ?_
                  refine va_get (D := (dC, dI)) (ci := 5) (v := .ref m_ds_a) (C := RX5) (T := TX5) (N := 10) hx hb hts in_X5_reached_5 hown hK hP 0 rfl rfl 1 (by decide) hf13 (fun _ h9 => h9) rfl dX5_reached_50 ?_
                  refine lv_iload hx hb dX5_reached_53 (lv_at hl 0 rfl) ?_
                  obtain ⟨h_55, hM⟩ := ob_get hM
                  refine va_iald hx hb hK hP 1 0 rfl rfl h_55 dX5_reached_55 ?_
                  refine lv_goto (tgt := 60) hx hb dX5_reached_56 (by decide) ?_
                  refine lv_ior hx hb dX5_reached_60 ?_
                  refine lv_istore (lv' := [(5, .int (v5_19 ||| (m_ds (v6_19).toNatClampNeg))), (6, .int v6_19), (4, .int v4_7), (3, .int v3_7), (0, .ref m_a), (1, .int p1), (2, .int p2)]) hx hb dX5_reached_61 hl (by decide) rfl (fun ls hl => ?_)
                  refine lv_iinc (v := (v6_19 + 1)) (lv' := [(6, .int (v6_19 + 1)), (5, .int (v5_19 ||| (m_ds (v6_19).toNatClampNeg))), (4, .int v4_7), (3, .int v3_7), (0, .ref m_a), (1, .int p1), (2, .int p2)]) hx hb dX5_reached_63 hl (k := 1) rfl (by rfl) (by decide) rfl (fun ls hl => ?_)
                  refine lv_goto (tgt := 19) hx hb dX5_reached_66 (by decide) ?_
                  exact ih19 (v6_19 + 1) (v5_19 ||| (m_ds (v6_19).toNatClampNeg)) _ hM (lv_sub hl [0, 1, 2, 3, 4, 5, 6] rfl)
        exact hL19 40 0 0 _ hM (lv_sub hl [0, 1, 2, 3, 4, 5, 6] rfl)
  exact hL7 40 0 ((1 : Int32) <<< (p1 &&& 31)) _ hM (lv_sub hl [0, 1, 2, 3, 4] rfl)
/-! X5_wayOf -/
abbrev rm_X5_wayOf : Room := { frames := 2, cells := 0, slots := 0, locals := 47 }
theorem in_X5_wayOf_5 : ∀ w ∈ u_ws RX5 TX5 10, w ∈ wsX5_wayOf := by decide +kernel
set_option maxHeartbeats 4000000 in
set_option maxRecDepth 100000 in
theorem c_X5_wayOf (l : Launch) (dC : Nat → ClassId) (dI : Nat → Nat → Nat) (cI cZ cJ cW : ClassId) (m_a m_ds_a m_cs_a m_tx_a m_ia_a m_im_a m_ik_a : Nat) (m_sz : Int32) (m_kn : Int32) (m_sg : Int32) (m_fa : Int32) (m_ds : Nat → Int32) (m_cs : Nat → Int32) (m_tx : Nat → Int32) (m_ia : Nat → Int32) (m_im : Nat → Int32) (m_ik : Nat → Int32) (p1 : Int32) (p2 : Int32) (R : Int32) (hM : M_X5_wayOf p1 p2 m_sz m_ds = some R) : Met l yX5_wayOf wsX5_wayOf rm_X5_wayOf (va_Pc [.ref m_a, .int p1, .int p2] (RP (dC, dI) cI cZ cJ cW [(m_a, .inr (5, [.int m_sz, .ref m_ds_a, .ref m_cs_a, .int m_kn, .ref m_tx_a, .int m_sg, .int m_fa, .ref m_ia_a, .ref m_im_a, .ref m_ik_a])), (m_ds_a, .inl (cI, 14, .inl m_ds)), (m_cs_a, .inl (cI, 14, .inl m_cs)), (m_tx_a, .inl (cI, 20, .inl m_tx)), (m_ia_a, .inl (cZ, 16384, .inl m_ia)), (m_im_a, .inl (cI, 60, .inl m_im)), (m_ik_a, .inl (cZ, 2, .inl m_ik))])) (vp_Si (fun r => R = r)) 0 0 (fun _ => False) := by
  refine Met.ofW (cc := cX5_wayOf) (maxL := 4) (ret := (some .int)) (by decide) rfl ?_
  intro p e s m args below meth c s₁ B hml hv
  obtain ⟨rfl, hP, hK, hN⟩ := hv
  have hx := B.exec
  have hb := B.bytes
  have hr := B.returns
  have hts := atoms_spec (ws := wsX5_wayOf) B.pre
  have hown : s.vm.findClass RX5 = some m.cls := findClass_of_methodNamed B.named
  have hlocks := B.notSynchronized
  have hf7 := hts (.fieldLink RX5 7 "WordGroundsModel" "size" "I") (by decide +kernel)
  have hl := lv_entry ([.ref m_a, .int p1, .int p2]) (n := 4) (Nat.le_of_ble_eq_true rfl)
  rw [lg_entry_eq]
  generalize (lg_sl ([.ref m_a, .int p1, .int p2]) ++ List.replicate (4 - (lg_sl ([.ref m_a, .int p1, .int p2])).length) Slot.unset).toArray = ls at hl ⊢
  have hl : lv_has ls 4 [(0, .ref m_a), (1, .int p1), (2, .int p2)] := hl
  have hM : (L_X5_wayOf_2 p1 p2 m_sz m_ds (fun (v3_2 : Int32) => some (-6)) 40 1) = some R := hM
  refine lv_iconst (v := 1) hx hb dX5_wayOf_0 (by decide) ?_
  refine lv_istore_n (lv' := [(3, .int 1), (0, .ref m_a), (1, .int p1), (2, .int p2)]) hx hb dX5_wayOf_1 rfl hl (by decide) rfl (fun ls hl => ?_)
  obtain ⟨K2, hK2⟩ : ∃ K : Int32 → Option (Int32), K = (fun (v3_2 : Int32) => some (-6)) := ⟨_, rfl⟩
  have hM : L_X5_wayOf_2 p1 p2 m_sz m_ds K2 40 1 = some R := by rw [hK2]; exact hM
  have hL2 : ∀ (k2 : Nat) (v3_2 : Int32) (ls : Array Slot), L_X5_wayOf_2 p1 p2 m_sz m_ds K2 k2 v3_2 = some R → lv_has ls 4 [(3, .int v3_2), (0, .ref m_a), (1, .int p1), (2, .int p2)] → W p l e rm_X5_wayOf s m ([.ref m_a, .int p1, .int p2] : List Value).toArray below meth c s.heap [] 0 0 (MQ below (vp_Si (fun r => R = r)) ([.ref m_a, .int p1, .int p2] : List Value).toArray s 0 0 (fun _ => False)) (F0 m 2 ls []) := by
    intro k2
    induction k2 with
    | zero => intro v3_2 ls hM; exact (ob_none hM).elim
    | succ k2 ih2 =>
      intro v3_2 ls hM hl
      have hM : (if m_sz < v3_2 then (K2 v3_2) else ((M_X5_reached p1 v3_2 m_sz m_ds).bind (fun q13 => (M_X5_has q13 p2).bind (fun q17 => if q17 = 0 then (L_X5_wayOf_2 p1 p2 m_sz m_ds K2 k2 (v3_2 + 1)) else (some v3_2))))) = some R := hM
      refine lv_iload_n hx hb dX5_wayOf_2 rfl (lv_at hl 0 rfl) ?_
      refine lv_aload_n hx hb dX5_wayOf_3 rfl (lv_at hl 1 rfl) ?_
      refine va_get (D := (dC, dI)) (ci := 5) (v := .int m_sz) (C := RX5) (T := TX5) (N := 10) hx hb hts in_X5_wayOf_5 hown hK hP 0 rfl rfl 0 (by decide) hf7 (fun _ h9 => h9) rfl dX5_wayOf_4 ?_
      refine lv_icmp_gt (tgt := 31) hx hb dX5_wayOf_7 (by decide) (fun c_7 => ?_) (fun c_7 => ?_)
      · replace hM := ob_pos c_7 hM
        have hM : (some (-6)) = some R := by rw [hK2] at hM; exact hM
        refine lv_bipush (v := (-6)) hx hb dX5_wayOf_31 (by decide) ?_
        exact W.iret (v := (-6)) hx hb hr (fun t ht hW => ⟨_, rfl, (Option.some.inj hM).symm, ht⟩) (fun _ h => by cases h) dX5_wayOf_33
      · replace hM := ob_neg c_7 hM
        refine lv_aload_n hx hb dX5_wayOf_10 rfl (lv_at hl 1 rfl) ?_
        refine lv_iload_n hx hb dX5_wayOf_11 rfl (lv_at hl 2 rfl) ?_
        refine lv_iload_n hx hb dX5_wayOf_12 rfl (lv_at hl 0 rfl) ?_
        obtain ⟨q13, hv13, hM⟩ := ob_bind hM
        refine vp_callSi (va_Run.run (va_runV (As := [.int p1, .int v3_2]) (rest := []) ⟨hx, hb, hml, hown, hts⟩ (c_X5_reached l dC dI cI cZ cJ cW m_a m_ds_a m_cs_a m_tx_a m_ia_a m_im_a m_ik_a m_sz m_kn m_sg m_fa m_ds m_cs m_tx m_ia m_im m_ik p1 v3_2 q13 hv13) (cwV 2 hts gX5_wayOf_X5_reached rfl rfl rfl (by decide +kernel) ⟨Nat.le_of_ble_eq_true rfl, Nat.le_of_ble_eq_true rfl⟩) ⟨RP.blind, va_recv hK hP (ci := 5) (q0 := 0) rfl rfl, fun U hU hW => ⟨rfl, by rw [hU]; exact hP.sub (ws' := [(m_a, .inr (5, [.int m_sz, .ref m_ds_a, .ref m_cs_a, .int m_kn, .ref m_tx_a, .int m_sg, .int m_fa, .ref m_ia_a, .ref m_im_a, .ref m_ik_a])), (m_ds_a, .inl (cI, 14, .inl m_ds)), (m_cs_a, .inl (cI, 14, .inl m_cs)), (m_tx_a, .inl (cI, 20, .inl m_tx)), (m_ia_a, .inl (cZ, 16384, .inl m_ia)), (m_im_a, .inl (cI, 60, .inl m_im)), (m_ik_a, .inl (cZ, 2, .inl m_ik))]) [0, 1, 2, 3, 4, 5, 6] rfl, va_K.moved hW.alike hK, hN.warm hW⟩⟩ rfl rfl hl.1 rfl (lv_room (Nat.le_of_ble_eq_true rfl)) dX5_wayOf_13 ⟨Nat.le_of_ble_eq_true rfl, Nat.le_of_ble_eq_true rfl⟩)) (fun r hr => ?_)
        subst hr
        refine lv_iload_n hx hb dX5_wayOf_16 rfl (lv_at hl 3 rfl) ?_
        obtain ⟨q17, hv17, hM⟩ := ob_bind hM
        refine vp_callSi (va_Run.run (va_runS (As := [.int q13, .int p2]) (rest := []) ⟨hx, hb, hml, hown, hts⟩ (c_X5_has l dC dI cI cZ cJ cW q13 p2 q17 hv17) (va_cwS 2 hts gX5_wayOf_X5_has rfl rfl rfl (by decide +kernel) ⟨Nat.le_of_ble_eq_true rfl, Nat.le_of_ble_eq_true rfl⟩) ⟨TP.blind, fun U hU hW => ⟨rfl, trivial⟩⟩ rfl rfl hl.1 rfl (lv_room (Nat.le_of_ble_eq_true rfl)) dX5_wayOf_17 ⟨Nat.le_of_ble_eq_true rfl, Nat.le_of_ble_eq_true rfl⟩)) (fun r hr => ?_)
        subst hr
        refine lv_if_eq (tgt := 25) hx hb dX5_wayOf_20 (by decide) (fun c_20 => ?_) (fun c_20 => ?_)
        · replace hM := ob_pos c_20 hM
          refine lv_iinc (v := (v3_2 + 1)) (lv' := [(3, .int (v3_2 + 1)), (0, .ref m_a), (1, .int p1), (2, .int p2)]) hx hb dX5_wayOf_25 hl (k := 0) rfl (by rfl) (by decide) rfl (fun ls hl => ?_)
          refine lv_goto (tgt := 2) hx hb dX5_wayOf_28 (by decide) ?_
          exact ih2 (v3_2 + 1) _ hM (lv_sub hl [0, 1, 2, 3] rfl)
        · replace hM := ob_neg c_20 hM
          refine lv_iload_n hx hb dX5_wayOf_23 rfl (lv_at hl 0 rfl) ?_
          exact W.iret (v := v3_2) hx hb hr (fun t ht hW => ⟨_, rfl, (Option.some.inj hM).symm, ht⟩) (fun _ h => by cases h) dX5_wayOf_24
  exact hL2 40 1 _ hM (lv_sub hl [0, 1, 2, 3] rfl)
/-! X5_way -/
abbrev rm_X5_way : Room := { frames := 3, cells := 0, slots := 0, locals := 70 }
set_option maxHeartbeats 4000000 in
set_option maxRecDepth 100000 in
theorem c_X5_way (l : Launch) (dC : Nat → ClassId) (dI : Nat → Nat → Nat) (cI cZ cJ cW : ClassId) (m_a m_ds_a m_cs_a m_tx_a m_ia_a m_im_a m_ik_a : Nat) (m_sz : Int32) (m_kn : Int32) (m_sg : Int32) (m_fa : Int32) (m_ds : Nat → Int32) (m_cs : Nat → Int32) (m_tx : Nat → Int32) (m_ia : Nat → Int32) (m_im : Nat → Int32) (m_ik : Nat → Int32) (p1 : Int32) (p2 : Int32) (R : Int32) (hM : M_X5_way p1 p2 m_sz m_ds = some R) : Met l yX5_way wsX5_way rm_X5_way (va_Pc [.ref m_a, .int p1, .int p2] (RP (dC, dI) cI cZ cJ cW [(m_a, .inr (5, [.int m_sz, .ref m_ds_a, .ref m_cs_a, .int m_kn, .ref m_tx_a, .int m_sg, .int m_fa, .ref m_ia_a, .ref m_im_a, .ref m_ik_a])), (m_ds_a, .inl (cI, 14, .inl m_ds)), (m_cs_a, .inl (cI, 14, .inl m_cs)), (m_tx_a, .inl (cI, 20, .inl m_tx)), (m_ia_a, .inl (cZ, 16384, .inl m_ia)), (m_im_a, .inl (cI, 60, .inl m_im)), (m_ik_a, .inl (cZ, 2, .inl m_ik))])) (vp_Si (fun r => R = r)) 0 0 (fun _ => False) := by
  refine Met.ofW (cc := cX5_way) (maxL := 3) (ret := (some .int)) (by decide) rfl ?_
  intro p e s m args below meth c s₁ B hml hv
  obtain ⟨rfl, hP, hK, hN⟩ := hv
  have hx := B.exec
  have hb := B.bytes
  have hr := B.returns
  have hts := atoms_spec (ws := wsX5_way) B.pre
  have hown : s.vm.findClass RX5 = some m.cls := findClass_of_methodNamed B.named
  have hlocks := B.notSynchronized
  have hl := lv_entry ([.ref m_a, .int p1, .int p2]) (n := 3) (Nat.le_of_ble_eq_true rfl)
  rw [lg_entry_eq]
  generalize (lg_sl ([.ref m_a, .int p1, .int p2]) ++ List.replicate (3 - (lg_sl ([.ref m_a, .int p1, .int p2])).length) Slot.unset).toArray = ls at hl ⊢
  have hl : lv_has ls 3 [(0, .ref m_a), (1, .int p1), (2, .int p2)] := hl
  have hM : ((M_X5_isWord p1 m_sz).bind (fun q2 => if q2 = 0 then (some (-1)) else ((M_X5_isWord p2 m_sz).bind (fun q10 => if q10 = 0 then (some (-1)) else ((M_X5_wayOf p1 p2 m_sz m_ds).bind (fun q19 => some q19)))))) = some R := hM
  refine lv_aload_n hx hb dX5_way_0 rfl (lv_at hl 0 rfl) ?_
  refine lv_iload_n hx hb dX5_way_1 rfl (lv_at hl 1 rfl) ?_
  obtain ⟨q2, hv2, hM⟩ := ob_bind hM
  refine vp_callSi (va_Run.run (va_runV (As := [.int p1]) (rest := []) ⟨hx, hb, hml, hown, hts⟩ (c_X5_isWord l dC dI cI cZ cJ cW m_a m_ds_a m_cs_a m_tx_a m_ia_a m_im_a m_ik_a m_sz m_kn m_sg m_fa m_ds m_cs m_tx m_ia m_im m_ik p1 q2 hv2) (cwV 1 hts gX5_way_X5_isWord rfl rfl rfl (by decide +kernel) ⟨Nat.le_of_ble_eq_true rfl, Nat.le_of_ble_eq_true rfl⟩) ⟨RP.blind, va_recv hK hP (ci := 5) (q0 := 0) rfl rfl, fun U hU hW => ⟨rfl, by rw [hU]; exact hP.sub (ws' := [(m_a, .inr (5, [.int m_sz, .ref m_ds_a, .ref m_cs_a, .int m_kn, .ref m_tx_a, .int m_sg, .int m_fa, .ref m_ia_a, .ref m_im_a, .ref m_ik_a])), (m_ds_a, .inl (cI, 14, .inl m_ds)), (m_cs_a, .inl (cI, 14, .inl m_cs)), (m_tx_a, .inl (cI, 20, .inl m_tx)), (m_ia_a, .inl (cZ, 16384, .inl m_ia)), (m_im_a, .inl (cI, 60, .inl m_im)), (m_ik_a, .inl (cZ, 2, .inl m_ik))]) [0, 1, 2, 3, 4, 5, 6] rfl, va_K.moved hW.alike hK, hN.warm hW⟩⟩ rfl rfl hl.1 rfl (lv_room (Nat.le_of_ble_eq_true rfl)) dX5_way_2 ⟨Nat.le_of_ble_eq_true rfl, Nat.le_of_ble_eq_true rfl⟩)) (fun r hr => ?_)
  subst hr
  refine lv_if_eq (tgt := 25) hx hb dX5_way_5 (by decide) (fun c_5 => ?_) (fun c_5 => ?_)
  · replace hM := ob_pos c_5 hM
    refine lv_iconst (v := (-1)) hx hb dX5_way_25 (by decide) ?_
    exact W.iret (v := (-1)) hx hb hr (fun t ht hW => ⟨_, rfl, (Option.some.inj hM).symm, ht⟩) (fun _ h => by cases h) dX5_way_26
  · replace hM := ob_neg c_5 hM
    refine lv_aload_n hx hb dX5_way_8 rfl (lv_at hl 0 rfl) ?_
    refine lv_iload_n hx hb dX5_way_9 rfl (lv_at hl 2 rfl) ?_
    obtain ⟨q10, hv10, hM⟩ := ob_bind hM
    refine vp_callSi (va_Run.run (va_runV (As := [.int p2]) (rest := []) ⟨hx, hb, hml, hown, hts⟩ (c_X5_isWord l dC dI cI cZ cJ cW m_a m_ds_a m_cs_a m_tx_a m_ia_a m_im_a m_ik_a m_sz m_kn m_sg m_fa m_ds m_cs m_tx m_ia m_im m_ik p2 q10 hv10) (cwV 1 hts gX5_way_X5_isWord rfl rfl rfl (by decide +kernel) ⟨Nat.le_of_ble_eq_true rfl, Nat.le_of_ble_eq_true rfl⟩) ⟨RP.blind, va_recv hK hP (ci := 5) (q0 := 0) rfl rfl, fun U hU hW => ⟨rfl, by rw [hU]; exact hP.sub (ws' := [(m_a, .inr (5, [.int m_sz, .ref m_ds_a, .ref m_cs_a, .int m_kn, .ref m_tx_a, .int m_sg, .int m_fa, .ref m_ia_a, .ref m_im_a, .ref m_ik_a])), (m_ds_a, .inl (cI, 14, .inl m_ds)), (m_cs_a, .inl (cI, 14, .inl m_cs)), (m_tx_a, .inl (cI, 20, .inl m_tx)), (m_ia_a, .inl (cZ, 16384, .inl m_ia)), (m_im_a, .inl (cI, 60, .inl m_im)), (m_ik_a, .inl (cZ, 2, .inl m_ik))]) [0, 1, 2, 3, 4, 5, 6] rfl, va_K.moved hW.alike hK, hN.warm hW⟩⟩ rfl rfl hl.1 rfl (lv_room (Nat.le_of_ble_eq_true rfl)) dX5_way_10 ⟨Nat.le_of_ble_eq_true rfl, Nat.le_of_ble_eq_true rfl⟩)) (fun r hr => ?_)
    subst hr
    refine lv_if_eq (tgt := 25) hx hb dX5_way_13 (by decide) (fun c_13 => ?_) (fun c_13 => ?_)
    · replace hM := ob_pos c_13 hM
      refine lv_iconst (v := (-1)) hx hb dX5_way_25 (by decide) ?_
      exact W.iret (v := (-1)) hx hb hr (fun t ht hW => ⟨_, rfl, (Option.some.inj hM).symm, ht⟩) (fun _ h => by cases h) dX5_way_26
    · replace hM := ob_neg c_13 hM
      refine lv_aload_n hx hb dX5_way_16 rfl (lv_at hl 0 rfl) ?_
      refine lv_iload_n hx hb dX5_way_17 rfl (lv_at hl 1 rfl) ?_
      refine lv_iload_n hx hb dX5_way_18 rfl (lv_at hl 2 rfl) ?_
      obtain ⟨q19, hv19, hM⟩ := ob_bind hM
      refine vp_callSi (va_Run.run (va_runV (As := [.int p1, .int p2]) (rest := []) ⟨hx, hb, hml, hown, hts⟩ (c_X5_wayOf l dC dI cI cZ cJ cW m_a m_ds_a m_cs_a m_tx_a m_ia_a m_im_a m_ik_a m_sz m_kn m_sg m_fa m_ds m_cs m_tx m_ia m_im m_ik p1 p2 q19 hv19) (cwV 2 hts gX5_way_X5_wayOf rfl rfl rfl (by decide +kernel) ⟨Nat.le_of_ble_eq_true rfl, Nat.le_of_ble_eq_true rfl⟩) ⟨RP.blind, va_recv hK hP (ci := 5) (q0 := 0) rfl rfl, fun U hU hW => ⟨rfl, by rw [hU]; exact hP.sub (ws' := [(m_a, .inr (5, [.int m_sz, .ref m_ds_a, .ref m_cs_a, .int m_kn, .ref m_tx_a, .int m_sg, .int m_fa, .ref m_ia_a, .ref m_im_a, .ref m_ik_a])), (m_ds_a, .inl (cI, 14, .inl m_ds)), (m_cs_a, .inl (cI, 14, .inl m_cs)), (m_tx_a, .inl (cI, 20, .inl m_tx)), (m_ia_a, .inl (cZ, 16384, .inl m_ia)), (m_im_a, .inl (cI, 60, .inl m_im)), (m_ik_a, .inl (cZ, 2, .inl m_ik))]) [0, 1, 2, 3, 4, 5, 6] rfl, va_K.moved hW.alike hK, hN.warm hW⟩⟩ rfl rfl hl.1 rfl (lv_room (Nat.le_of_ble_eq_true rfl)) dX5_way_19 ⟨Nat.le_of_ble_eq_true rfl, Nat.le_of_ble_eq_true rfl⟩)) (fun r hr => ?_)
      subst hr
      refine lv_goto (tgt := 26) hx hb dX5_way_22 (by decide) ?_
      exact W.iret (v := q19) hx hb hr (fun t ht hW => ⟨_, rfl, (Option.some.inj hM).symm, ht⟩) (fun _ h => by cases h) dX5_way_26
/-! X5_ringOf -/
abbrev rm_X5_ringOf : Room := { frames := 3, cells := 0, slots := 0, locals := 70 }
theorem in_X5_ringOf_5 : ∀ w ∈ u_ws RX5 TX5 10, w ∈ wsX5_ringOf := by decide +kernel
set_option maxHeartbeats 4000000 in
set_option maxRecDepth 100000 in
theorem c_X5_ringOf (l : Launch) (dC : Nat → ClassId) (dI : Nat → Nat → Nat) (cI cZ cJ cW : ClassId) (m_a m_ds_a m_cs_a m_tx_a m_ia_a m_im_a m_ik_a : Nat) (m_sz : Int32) (m_kn : Int32) (m_sg : Int32) (m_fa : Int32) (m_ds : Nat → Int32) (m_cs : Nat → Int32) (m_tx : Nat → Int32) (m_ia : Nat → Int32) (m_im : Nat → Int32) (m_ik : Nat → Int32) (p1 : Int32) (R : Int32) (hM : M_X5_ringOf p1 m_sz m_ds = some R) : Met l yX5_ringOf wsX5_ringOf rm_X5_ringOf (va_Pc [.ref m_a, .int p1] (RP (dC, dI) cI cZ cJ cW [(m_a, .inr (5, [.int m_sz, .ref m_ds_a, .ref m_cs_a, .int m_kn, .ref m_tx_a, .int m_sg, .int m_fa, .ref m_ia_a, .ref m_im_a, .ref m_ik_a])), (m_ds_a, .inl (cI, 14, .inl m_ds)), (m_cs_a, .inl (cI, 14, .inl m_cs)), (m_tx_a, .inl (cI, 20, .inl m_tx)), (m_ia_a, .inl (cZ, 16384, .inl m_ia)), (m_im_a, .inl (cI, 60, .inl m_im)), (m_ik_a, .inl (cZ, 2, .inl m_ik))])) (vp_Si (fun r => R = r)) 0 0 (fun _ => False) := by
  refine Met.ofW (cc := cX5_ringOf) (maxL := 4) (ret := (some .int)) (by decide) rfl ?_
  intro p e s m args below meth c s₁ B hml hv
  obtain ⟨rfl, hP, hK, hN⟩ := hv
  have hx := B.exec
  have hb := B.bytes
  have hr := B.returns
  have hts := atoms_spec (ws := wsX5_ringOf) B.pre
  have hown : s.vm.findClass RX5 = some m.cls := findClass_of_methodNamed B.named
  have hlocks := B.notSynchronized
  have hf7 := hts (.fieldLink RX5 7 "WordGroundsModel" "size" "I") (by decide +kernel)
  have hl := lv_entry ([.ref m_a, .int p1]) (n := 4) (Nat.le_of_ble_eq_true rfl)
  rw [lg_entry_eq]
  generalize (lg_sl ([.ref m_a, .int p1]) ++ List.replicate (4 - (lg_sl ([.ref m_a, .int p1])).length) Slot.unset).toArray = ls at hl ⊢
  have hl : lv_has ls 4 [(0, .ref m_a), (1, .int p1)] := hl
  have hM : ((M_X5_wayOf p1 p1 m_sz m_ds).bind (fun q3 => if 0 ≤ q3 then (L_X5_ringOf_15 p1 m_sz m_ds (fun (v3_15 : Int32) (v2_15 : Int32) => some v2_15) 40 0 0) else (some 0))) = some R := hM
  refine lv_aload_n hx hb dX5_ringOf_0 rfl (lv_at hl 0 rfl) ?_
  refine lv_iload_n hx hb dX5_ringOf_1 rfl (lv_at hl 1 rfl) ?_
  refine lv_iload_n hx hb dX5_ringOf_2 rfl (lv_at hl 1 rfl) ?_
  obtain ⟨q3, hv3, hM⟩ := ob_bind hM
  refine vp_callSi (va_Run.run (va_runV (As := [.int p1, .int p1]) (rest := []) ⟨hx, hb, hml, hown, hts⟩ (c_X5_wayOf l dC dI cI cZ cJ cW m_a m_ds_a m_cs_a m_tx_a m_ia_a m_im_a m_ik_a m_sz m_kn m_sg m_fa m_ds m_cs m_tx m_ia m_im m_ik p1 p1 q3 hv3) (cwV 2 hts gX5_ringOf_X5_wayOf rfl rfl rfl (by decide +kernel) ⟨Nat.le_of_ble_eq_true rfl, Nat.le_of_ble_eq_true rfl⟩) ⟨RP.blind, va_recv hK hP (ci := 5) (q0 := 0) rfl rfl, fun U hU hW => ⟨rfl, by rw [hU]; exact hP.sub (ws' := [(m_a, .inr (5, [.int m_sz, .ref m_ds_a, .ref m_cs_a, .int m_kn, .ref m_tx_a, .int m_sg, .int m_fa, .ref m_ia_a, .ref m_im_a, .ref m_ik_a])), (m_ds_a, .inl (cI, 14, .inl m_ds)), (m_cs_a, .inl (cI, 14, .inl m_cs)), (m_tx_a, .inl (cI, 20, .inl m_tx)), (m_ia_a, .inl (cZ, 16384, .inl m_ia)), (m_im_a, .inl (cI, 60, .inl m_im)), (m_ik_a, .inl (cZ, 2, .inl m_ik))]) [0, 1, 2, 3, 4, 5, 6] rfl, va_K.moved hW.alike hK, hN.warm hW⟩⟩ rfl rfl hl.1 rfl (lv_room (Nat.le_of_ble_eq_true rfl)) dX5_ringOf_3 ⟨Nat.le_of_ble_eq_true rfl, Nat.le_of_ble_eq_true rfl⟩)) (fun r hr => ?_)
  subst hr
  refine lv_if_ge (tgt := 11) hx hb dX5_ringOf_6 (by decide) (fun c_6 => ?_) (fun c_6 => ?_)
  · replace hM := ob_pos c_6 hM
    refine lv_iconst (v := 0) hx hb dX5_ringOf_11 (by decide) ?_
    refine lv_istore_n (lv' := [(2, .int 0), (0, .ref m_a), (1, .int p1)]) hx hb dX5_ringOf_12 rfl hl (by decide) rfl (fun ls hl => ?_)
    refine lv_iconst (v := 0) hx hb dX5_ringOf_13 (by decide) ?_
    refine lv_istore_n (lv' := [(3, .int 0), (2, .int 0), (0, .ref m_a), (1, .int p1)]) hx hb dX5_ringOf_14 rfl hl (by decide) rfl (fun ls hl => ?_)
    obtain ⟨K15, hK15⟩ : ∃ K : Int32 → Int32 → Option (Int32), K = (fun (v3_15 : Int32) (v2_15 : Int32) => some v2_15) := ⟨_, rfl⟩
    have hM : L_X5_ringOf_15 p1 m_sz m_ds K15 40 0 0 = some R := by rw [hK15]; exact hM
    have hL15 : ∀ (k15 : Nat) (v3_15 : Int32) (v2_15 : Int32) (ls : Array Slot), L_X5_ringOf_15 p1 m_sz m_ds K15 k15 v3_15 v2_15 = some R → lv_has ls 4 [(3, .int v3_15), (2, .int v2_15), (0, .ref m_a), (1, .int p1)] → W p l e rm_X5_ringOf s m ([.ref m_a, .int p1] : List Value).toArray below meth c s.heap [] 0 0 (MQ below (vp_Si (fun r => R = r)) ([.ref m_a, .int p1] : List Value).toArray s 0 0 (fun _ => False)) (F0 m 15 ls []) := by
      intro k15
      induction k15 with
      | zero => intro v3_15 v2_15 ls hM; exact (ob_none hM).elim
      | succ k15 ih15 =>
        intro v3_15 v2_15 ls hM hl
        have hM : (if m_sz ≤ v3_15 then (K15 v3_15 v2_15) else ((M_X5_wayOf p1 v3_15 m_sz m_ds).bind (fun q27 => if q27 ≤ 0 then (L_X5_ringOf_15 p1 m_sz m_ds K15 k15 (v3_15 + 1) (v2_15 ||| 0)) else ((M_X5_wayOf v3_15 p1 m_sz m_ds).bind (fun q36 => if q36 ≤ 0 then (L_X5_ringOf_15 p1 m_sz m_ds K15 k15 (v3_15 + 1) (v2_15 ||| 0)) else (L_X5_ringOf_15 p1 m_sz m_ds K15 k15 (v3_15 + 1) (v2_15 ||| ((1 : Int32) <<< (v3_15 &&& 31))))))))) = some R := hM
        refine lv_iload_n hx hb dX5_ringOf_15 rfl (lv_at hl 0 rfl) ?_
        refine lv_aload_n hx hb dX5_ringOf_16 rfl (lv_at hl 2 rfl) ?_
        refine va_get (D := (dC, dI)) (ci := 5) (v := .int m_sz) (C := RX5) (T := TX5) (N := 10) hx hb hts in_X5_ringOf_5 hown hK hP 0 rfl rfl 0 (by decide) hf7 (fun _ h9 => h9) rfl dX5_ringOf_17 ?_
        refine lv_icmp_ge (tgt := 57) hx hb dX5_ringOf_20 (by decide) (fun c_20 => ?_) (fun c_20 => ?_)
        · replace hM := ob_pos c_20 hM
          have hM : (some v2_15) = some R := by rw [hK15] at hM; exact hM
          refine lv_iload_n hx hb dX5_ringOf_57 rfl (lv_at hl 1 rfl) ?_
          exact W.iret (v := v2_15) hx hb hr (fun t ht hW => ⟨_, rfl, (Option.some.inj hM).symm, ht⟩) (fun _ h => by cases h) dX5_ringOf_58
        · replace hM := ob_neg c_20 hM
          refine lv_iload_n hx hb dX5_ringOf_23 rfl (lv_at hl 1 rfl) ?_
          refine lv_aload_n hx hb dX5_ringOf_24 rfl (lv_at hl 2 rfl) ?_
          refine lv_iload_n hx hb dX5_ringOf_25 rfl (lv_at hl 3 rfl) ?_
          refine lv_iload_n hx hb dX5_ringOf_26 rfl (lv_at hl 0 rfl) ?_
          obtain ⟨q27, hv27, hM⟩ := ob_bind hM
          refine vp_callSi (va_Run.run (va_runV (As := [.int p1, .int v3_15]) (rest := [.int v2_15]) ⟨hx, hb, hml, hown, hts⟩ (c_X5_wayOf l dC dI cI cZ cJ cW m_a m_ds_a m_cs_a m_tx_a m_ia_a m_im_a m_ik_a m_sz m_kn m_sg m_fa m_ds m_cs m_tx m_ia m_im m_ik p1 v3_15 q27 hv27) (cwV 2 hts gX5_ringOf_X5_wayOf rfl rfl rfl (by decide +kernel) ⟨Nat.le_of_ble_eq_true rfl, Nat.le_of_ble_eq_true rfl⟩) ⟨RP.blind, va_recv hK hP (ci := 5) (q0 := 0) rfl rfl, fun U hU hW => ⟨rfl, by rw [hU]; exact hP.sub (ws' := [(m_a, .inr (5, [.int m_sz, .ref m_ds_a, .ref m_cs_a, .int m_kn, .ref m_tx_a, .int m_sg, .int m_fa, .ref m_ia_a, .ref m_im_a, .ref m_ik_a])), (m_ds_a, .inl (cI, 14, .inl m_ds)), (m_cs_a, .inl (cI, 14, .inl m_cs)), (m_tx_a, .inl (cI, 20, .inl m_tx)), (m_ia_a, .inl (cZ, 16384, .inl m_ia)), (m_im_a, .inl (cI, 60, .inl m_im)), (m_ik_a, .inl (cZ, 2, .inl m_ik))]) [0, 1, 2, 3, 4, 5, 6] rfl, va_K.moved hW.alike hK, hN.warm hW⟩⟩ rfl rfl hl.1 rfl (lv_room (Nat.le_of_ble_eq_true rfl)) dX5_ringOf_27 ⟨Nat.le_of_ble_eq_true rfl, Nat.le_of_ble_eq_true rfl⟩)) (fun r hr => ?_)
          subst hr
          refine lv_if_le (tgt := 48) hx hb dX5_ringOf_30 (by decide) (fun c_30 => ?_) (fun c_30 => ?_)
          · replace hM := ob_pos c_30 hM
            refine lv_iconst (v := 0) hx hb dX5_ringOf_48 (by decide) ?_
            refine lv_ior hx hb dX5_ringOf_49 ?_
            refine lv_istore_n (lv' := [(2, .int (v2_15 ||| 0)), (3, .int v3_15), (0, .ref m_a), (1, .int p1)]) hx hb dX5_ringOf_50 rfl hl (by decide) rfl (fun ls hl => ?_)
            refine lv_iinc (v := (v3_15 + 1)) (lv' := [(3, .int (v3_15 + 1)), (2, .int (v2_15 ||| 0)), (0, .ref m_a), (1, .int p1)]) hx hb dX5_ringOf_51 hl (k := 1) rfl (by rfl) (by decide) rfl (fun ls hl => ?_)
            refine lv_goto (tgt := 15) hx hb dX5_ringOf_54 (by decide) ?_
            exact ih15 (v3_15 + 1) (v2_15 ||| 0) _ hM (lv_sub hl [0, 1, 2, 3] rfl)
          · replace hM := ob_neg c_30 hM
            refine lv_aload_n hx hb dX5_ringOf_33 rfl (lv_at hl 2 rfl) ?_
            refine lv_iload_n hx hb dX5_ringOf_34 rfl (lv_at hl 0 rfl) ?_
            refine lv_iload_n hx hb dX5_ringOf_35 rfl (lv_at hl 3 rfl) ?_
            obtain ⟨q36, hv36, hM⟩ := ob_bind hM
            refine vp_callSi (va_Run.run (va_runV (As := [.int v3_15, .int p1]) (rest := [.int v2_15]) ⟨hx, hb, hml, hown, hts⟩ (c_X5_wayOf l dC dI cI cZ cJ cW m_a m_ds_a m_cs_a m_tx_a m_ia_a m_im_a m_ik_a m_sz m_kn m_sg m_fa m_ds m_cs m_tx m_ia m_im m_ik v3_15 p1 q36 hv36) (cwV 2 hts gX5_ringOf_X5_wayOf rfl rfl rfl (by decide +kernel) ⟨Nat.le_of_ble_eq_true rfl, Nat.le_of_ble_eq_true rfl⟩) ⟨RP.blind, va_recv hK hP (ci := 5) (q0 := 0) rfl rfl, fun U hU hW => ⟨rfl, by rw [hU]; exact hP.sub (ws' := [(m_a, .inr (5, [.int m_sz, .ref m_ds_a, .ref m_cs_a, .int m_kn, .ref m_tx_a, .int m_sg, .int m_fa, .ref m_ia_a, .ref m_im_a, .ref m_ik_a])), (m_ds_a, .inl (cI, 14, .inl m_ds)), (m_cs_a, .inl (cI, 14, .inl m_cs)), (m_tx_a, .inl (cI, 20, .inl m_tx)), (m_ia_a, .inl (cZ, 16384, .inl m_ia)), (m_im_a, .inl (cI, 60, .inl m_im)), (m_ik_a, .inl (cZ, 2, .inl m_ik))]) [0, 1, 2, 3, 4, 5, 6] rfl, va_K.moved hW.alike hK, hN.warm hW⟩⟩ rfl rfl hl.1 rfl (lv_room (Nat.le_of_ble_eq_true rfl)) dX5_ringOf_36 ⟨Nat.le_of_ble_eq_true rfl, Nat.le_of_ble_eq_true rfl⟩)) (fun r hr => ?_)
            subst hr
            refine lv_if_le (tgt := 48) hx hb dX5_ringOf_39 (by decide) (fun c_39 => ?_) (fun c_39 => ?_)
            · replace hM := ob_pos c_39 hM
              refine lv_iconst (v := 0) hx hb dX5_ringOf_48 (by decide) ?_
              refine lv_ior hx hb dX5_ringOf_49 ?_
              refine lv_istore_n (lv' := [(2, .int (v2_15 ||| 0)), (3, .int v3_15), (0, .ref m_a), (1, .int p1)]) hx hb dX5_ringOf_50 rfl hl (by decide) rfl (fun ls hl => ?_)
              refine lv_iinc (v := (v3_15 + 1)) (lv' := [(3, .int (v3_15 + 1)), (2, .int (v2_15 ||| 0)), (0, .ref m_a), (1, .int p1)]) hx hb dX5_ringOf_51 hl (k := 1) rfl (by rfl) (by decide) rfl (fun ls hl => ?_)
              refine lv_goto (tgt := 15) hx hb dX5_ringOf_54 (by decide) ?_
              exact ih15 (v3_15 + 1) (v2_15 ||| 0) _ hM (lv_sub hl [0, 1, 2, 3] rfl)
            · replace hM := ob_neg c_39 hM
              refine lv_iconst (v := 1) hx hb dX5_ringOf_42 (by decide) ?_
              refine lv_iload_n hx hb dX5_ringOf_43 rfl (lv_at hl 0 rfl) ?_
              refine lv_ishl hx hb dX5_ringOf_44 ?_
              refine lv_goto (tgt := 49) hx hb dX5_ringOf_45 (by decide) ?_
              refine lv_ior hx hb dX5_ringOf_49 ?_
              refine lv_istore_n (lv' := [(2, .int (v2_15 ||| ((1 : Int32) <<< (v3_15 &&& 31)))), (3, .int v3_15), (0, .ref m_a), (1, .int p1)]) hx hb dX5_ringOf_50 rfl hl (by decide) rfl (fun ls hl => ?_)
              refine lv_iinc (v := (v3_15 + 1)) (lv' := [(3, .int (v3_15 + 1)), (2, .int (v2_15 ||| ((1 : Int32) <<< (v3_15 &&& 31)))), (0, .ref m_a), (1, .int p1)]) hx hb dX5_ringOf_51 hl (k := 1) rfl (by rfl) (by decide) rfl (fun ls hl => ?_)
              refine lv_goto (tgt := 15) hx hb dX5_ringOf_54 (by decide) ?_
              exact ih15 (v3_15 + 1) (v2_15 ||| ((1 : Int32) <<< (v3_15 &&& 31))) _ hM (lv_sub hl [0, 1, 2, 3] rfl)
    exact hL15 40 0 0 _ hM (lv_sub hl [0, 1, 2, 3] rfl)
  · replace hM := ob_neg c_6 hM
    refine lv_iconst (v := 0) hx hb dX5_ringOf_9 (by decide) ?_
    exact W.iret (v := 0) hx hb hr (fun t ht hW => ⟨_, rfl, (Option.some.inj hM).symm, ht⟩) (fun _ h => by cases h) dX5_ringOf_10
/-! X5_ring -/
abbrev rm_X5_ring : Room := { frames := 4, cells := 0, slots := 0, locals := 93 }
theorem in_X5_ring_5 : ∀ w ∈ u_ws RX5 TX5 10, w ∈ wsX5_ring := by decide +kernel
set_option maxHeartbeats 4000000 in
set_option maxRecDepth 100000 in
theorem c_X5_ring (l : Launch) (dC : Nat → ClassId) (dI : Nat → Nat → Nat) (cI cZ cJ cW : ClassId) (m_a m_ds_a m_cs_a m_tx_a m_ia_a m_im_a m_ik_a : Nat) (m_sz : Int32) (m_kn : Int32) (m_sg : Int32) (m_fa : Int32) (m_ds : Nat → Int32) (m_cs : Nat → Int32) (m_tx : Nat → Int32) (m_ia : Nat → Int32) (m_im : Nat → Int32) (m_ik : Nat → Int32) (p1 : Int32) (R : Int32) (hM : M_X5_ring p1 m_sz m_ds = some R) : Met l yX5_ring wsX5_ring rm_X5_ring (va_Pc [.ref m_a, .int p1] (RP (dC, dI) cI cZ cJ cW [(m_a, .inr (5, [.int m_sz, .ref m_ds_a, .ref m_cs_a, .int m_kn, .ref m_tx_a, .int m_sg, .int m_fa, .ref m_ia_a, .ref m_im_a, .ref m_ik_a])), (m_ds_a, .inl (cI, 14, .inl m_ds)), (m_cs_a, .inl (cI, 14, .inl m_cs)), (m_tx_a, .inl (cI, 20, .inl m_tx)), (m_ia_a, .inl (cZ, 16384, .inl m_ia)), (m_im_a, .inl (cI, 60, .inl m_im)), (m_ik_a, .inl (cZ, 2, .inl m_ik))])) (vp_Si (fun r => R = r)) 0 0 (fun _ => False) := by
  refine Met.ofW (cc := cX5_ring) (maxL := 6) (ret := (some .int)) (by decide) rfl ?_
  intro p e s m args below meth c s₁ B hml hv
  obtain ⟨rfl, hP, hK, hN⟩ := hv
  have hx := B.exec
  have hb := B.bytes
  have hr := B.returns
  have hts := atoms_spec (ws := wsX5_ring) B.pre
  have hown : s.vm.findClass RX5 = some m.cls := findClass_of_methodNamed B.named
  have hlocks := B.notSynchronized
  have hf7 := hts (.fieldLink RX5 7 "WordGroundsModel" "size" "I") (by decide +kernel)
  have hl := lv_entry ([.ref m_a, .int p1]) (n := 6) (Nat.le_of_ble_eq_true rfl)
  rw [lg_entry_eq]
  generalize (lg_sl ([.ref m_a, .int p1]) ++ List.replicate (6 - (lg_sl ([.ref m_a, .int p1])).length) Slot.unset).toArray = ls at hl ⊢
  have hl : lv_has ls 6 [(0, .ref m_a), (1, .int p1)] := hl
  have hM : (if (-1) ≤ p1 then (L_X5_ring_15 p1 m_sz m_ds (fun (v4_15 : Int32) (v3_15 : Int32) (v2_15 : Int32) => if p1 = (-1) then (some v3_15) else (some (-6))) 40 0 0 0) else (some (-2))) = some R := hM
  refine lv_iload_n hx hb dX5_ring_0 rfl (lv_at hl 1 rfl) ?_
  refine lv_iconst (v := (-1)) hx hb dX5_ring_1 (by decide) ?_
  refine lv_icmp_ge (tgt := 8) hx hb dX5_ring_2 (by decide) (fun c_2 => ?_) (fun c_2 => ?_)
  · replace hM := ob_pos c_2 hM
    refine lv_iconst (v := 0) hx hb dX5_ring_8 (by decide) ?_
    refine lv_istore_n (lv' := [(2, .int 0), (0, .ref m_a), (1, .int p1)]) hx hb dX5_ring_9 rfl hl (by decide) rfl (fun ls hl => ?_)
    refine lv_iconst (v := 0) hx hb dX5_ring_10 (by decide) ?_
    refine lv_istore_n (lv' := [(3, .int 0), (2, .int 0), (0, .ref m_a), (1, .int p1)]) hx hb dX5_ring_11 rfl hl (by decide) rfl (fun ls hl => ?_)
    refine lv_iconst (v := 0) hx hb dX5_ring_12 (by decide) ?_
    refine lv_istore (lv' := [(4, .int 0), (3, .int 0), (2, .int 0), (0, .ref m_a), (1, .int p1)]) hx hb dX5_ring_13 hl (by decide) rfl (fun ls hl => ?_)
    obtain ⟨K15, hK15⟩ : ∃ K : Int32 → Int32 → Int32 → Option (Int32), K = (fun (v4_15 : Int32) (v3_15 : Int32) (v2_15 : Int32) => if p1 = (-1) then (some v3_15) else (some (-6))) := ⟨_, rfl⟩
    have hM : L_X5_ring_15 p1 m_sz m_ds K15 40 0 0 0 = some R := by rw [hK15]; exact hM
    have hL15 : ∀ (k15 : Nat) (v4_15 : Int32) (v3_15 : Int32) (v2_15 : Int32) (ls : Array Slot), L_X5_ring_15 p1 m_sz m_ds K15 k15 v4_15 v3_15 v2_15 = some R → lv_has ls 6 [(4, .int v4_15), (3, .int v3_15), (2, .int v2_15), (0, .ref m_a), (1, .int p1)] → W p l e rm_X5_ring s m ([.ref m_a, .int p1] : List Value).toArray below meth c s.heap [] 0 0 (MQ below (vp_Si (fun r => R = r)) ([.ref m_a, .int p1] : List Value).toArray s 0 0 (fun _ => False)) (F0 m 15 ls []) := by
      intro k15
      induction k15 with
      | zero => intro v4_15 v3_15 v2_15 ls hM; exact (ob_none hM).elim
      | succ k15 ih15 =>
        intro v4_15 v3_15 v2_15 ls hM hl
        have hM : (if m_sz ≤ v4_15 then (K15 v4_15 v3_15 v2_15) else ((M_X5_ringOf v4_15 m_sz m_ds).bind (fun q27 => if q27 = 0 then (L_X5_ring_15 p1 m_sz m_ds K15 k15 (v4_15 + 1) v3_15 v2_15) else ((M_X5_has v2_15 v4_15).bind (fun q40 => if q40 = 0 then (if v3_15 = p1 then (some q27) else (L_X5_ring_15 p1 m_sz m_ds K15 k15 (v4_15 + 1) (v3_15 + 1) (v2_15 ||| q27))) else (L_X5_ring_15 p1 m_sz m_ds K15 k15 (v4_15 + 1) v3_15 v2_15)))))) = some R := hM
        refine lv_iload hx hb dX5_ring_15 (lv_at hl 0 rfl) ?_
        refine lv_aload_n hx hb dX5_ring_17 rfl (lv_at hl 3 rfl) ?_
        refine va_get (D := (dC, dI)) (ci := 5) (v := .int m_sz) (C := RX5) (T := TX5) (N := 10) hx hb hts in_X5_ring_5 hown hK hP 0 rfl rfl 0 (by decide) hf7 (fun _ h9 => h9) rfl dX5_ring_18 ?_
        refine lv_icmp_ge (tgt := 68) hx hb dX5_ring_21 (by decide) (fun c_21 => ?_) (fun c_21 => ?_)
        · replace hM := ob_pos c_21 hM
          have hM : (if p1 = (-1) then (some v3_15) else (some (-6))) = some R := by rw [hK15] at hM; exact hM
          refine lv_iload_n hx hb dX5_ring_68 rfl (lv_at hl 4 rfl) ?_
          refine lv_iconst (v := (-1)) hx hb dX5_ring_69 (by decide) ?_
          refine lv_icmp_ne (tgt := 77) hx hb dX5_ring_70 (by decide) (fun c_70 => ?_) (fun c_70 => ?_)
          · replace hM := ob_neg c_70 hM
            refine lv_bipush (v := (-6)) hx hb dX5_ring_77 (by decide) ?_
            exact W.iret (v := (-6)) hx hb hr (fun t ht hW => ⟨_, rfl, (Option.some.inj hM).symm, ht⟩) (fun _ h => by cases h) dX5_ring_79
          · replace hM := ob_pos c_70 hM
            refine lv_iload_n hx hb dX5_ring_73 rfl (lv_at hl 1 rfl) ?_
            refine lv_goto (tgt := 79) hx hb dX5_ring_74 (by decide) ?_
            exact W.iret (v := v3_15) hx hb hr (fun t ht hW => ⟨_, rfl, (Option.some.inj hM).symm, ht⟩) (fun _ h => by cases h) dX5_ring_79
        · replace hM := ob_neg c_21 hM
          refine lv_aload_n hx hb dX5_ring_24 rfl (lv_at hl 3 rfl) ?_
          refine lv_iload hx hb dX5_ring_25 (lv_at hl 0 rfl) ?_
          obtain ⟨q27, hv27, hM⟩ := ob_bind hM
          refine vp_callSi (va_Run.run (va_runV (As := [.int v4_15]) (rest := []) ⟨hx, hb, hml, hown, hts⟩ (c_X5_ringOf l dC dI cI cZ cJ cW m_a m_ds_a m_cs_a m_tx_a m_ia_a m_im_a m_ik_a m_sz m_kn m_sg m_fa m_ds m_cs m_tx m_ia m_im m_ik v4_15 q27 hv27) (cwV 1 hts gX5_ring_X5_ringOf rfl rfl rfl (by decide +kernel) ⟨Nat.le_of_ble_eq_true rfl, Nat.le_of_ble_eq_true rfl⟩) ⟨RP.blind, va_recv hK hP (ci := 5) (q0 := 0) rfl rfl, fun U hU hW => ⟨rfl, by rw [hU]; exact hP.sub (ws' := [(m_a, .inr (5, [.int m_sz, .ref m_ds_a, .ref m_cs_a, .int m_kn, .ref m_tx_a, .int m_sg, .int m_fa, .ref m_ia_a, .ref m_im_a, .ref m_ik_a])), (m_ds_a, .inl (cI, 14, .inl m_ds)), (m_cs_a, .inl (cI, 14, .inl m_cs)), (m_tx_a, .inl (cI, 20, .inl m_tx)), (m_ia_a, .inl (cZ, 16384, .inl m_ia)), (m_im_a, .inl (cI, 60, .inl m_im)), (m_ik_a, .inl (cZ, 2, .inl m_ik))]) [0, 1, 2, 3, 4, 5, 6] rfl, va_K.moved hW.alike hK, hN.warm hW⟩⟩ rfl rfl hl.1 rfl (lv_room (Nat.le_of_ble_eq_true rfl)) dX5_ring_27 ⟨Nat.le_of_ble_eq_true rfl, Nat.le_of_ble_eq_true rfl⟩)) (fun r hr => ?_)
          subst hr
          refine lv_istore (lv' := [(5, .int q27), (4, .int v4_15), (3, .int v3_15), (2, .int v2_15), (0, .ref m_a), (1, .int p1)]) hx hb dX5_ring_30 hl (by decide) rfl (fun ls hl => ?_)
          refine lv_iload hx hb dX5_ring_32 (lv_at hl 0 rfl) ?_
          refine lv_if_eq (tgt := 62) hx hb dX5_ring_34 (by decide) (fun c_34 => ?_) (fun c_34 => ?_)
          · replace hM := ob_pos c_34 hM
            refine lv_iinc (v := (v4_15 + 1)) (lv' := [(4, .int (v4_15 + 1)), (5, .int q27), (3, .int v3_15), (2, .int v2_15), (0, .ref m_a), (1, .int p1)]) hx hb dX5_ring_62 hl (k := 1) rfl (by rfl) (by decide) rfl (fun ls hl => ?_)
            refine lv_goto (tgt := 15) hx hb dX5_ring_65 (by decide) ?_
            exact ih15 (v4_15 + 1) v3_15 v2_15 _ hM (lv_sub hl [0, 2, 3, 4, 5] rfl)
          · replace hM := ob_neg c_34 hM
            refine lv_iload_n hx hb dX5_ring_37 rfl (lv_at hl 3 rfl) ?_
            refine lv_iload hx hb dX5_ring_38 (lv_at hl 1 rfl) ?_
            obtain ⟨q40, hv40, hM⟩ := ob_bind hM
            refine vp_callSi (va_Run.run (va_runS (As := [.int v2_15, .int v4_15]) (rest := []) ⟨hx, hb, hml, hown, hts⟩ (c_X5_has l dC dI cI cZ cJ cW v2_15 v4_15 q40 hv40) (va_cwS 2 hts gX5_ring_X5_has rfl rfl rfl (by decide +kernel) ⟨Nat.le_of_ble_eq_true rfl, Nat.le_of_ble_eq_true rfl⟩) ⟨TP.blind, fun U hU hW => ⟨rfl, trivial⟩⟩ rfl rfl hl.1 rfl (lv_room (Nat.le_of_ble_eq_true rfl)) dX5_ring_40 ⟨Nat.le_of_ble_eq_true rfl, Nat.le_of_ble_eq_true rfl⟩)) (fun r hr => ?_)
            subst hr
            refine lv_if_ne (tgt := 62) hx hb dX5_ring_43 (by decide) (fun c_43 => ?_) (fun c_43 => ?_)
            · replace hM := ob_neg c_43 hM
              refine lv_iinc (v := (v4_15 + 1)) (lv' := [(4, .int (v4_15 + 1)), (5, .int q27), (3, .int v3_15), (2, .int v2_15), (0, .ref m_a), (1, .int p1)]) hx hb dX5_ring_62 hl (k := 1) rfl (by rfl) (by decide) rfl (fun ls hl => ?_)
              refine lv_goto (tgt := 15) hx hb dX5_ring_65 (by decide) ?_
              exact ih15 (v4_15 + 1) v3_15 v2_15 _ hM (lv_sub hl [0, 2, 3, 4, 5] rfl)
            · replace hM := ob_pos c_43 hM
              refine lv_iload_n hx hb dX5_ring_46 rfl (lv_at hl 2 rfl) ?_
              refine lv_iload_n hx hb dX5_ring_47 rfl (lv_at hl 5 rfl) ?_
              refine lv_icmp_ne (tgt := 54) hx hb dX5_ring_48 (by decide) (fun c_48 => ?_) (fun c_48 => ?_)
              · replace hM := ob_neg c_48 hM
                refine lv_iload_n hx hb dX5_ring_54 rfl (lv_at hl 3 rfl) ?_
                refine lv_iload hx hb dX5_ring_55 (lv_at hl 0 rfl) ?_
                refine lv_ior hx hb dX5_ring_57 ?_
                refine lv_istore_n (lv' := [(2, .int (v2_15 ||| q27)), (5, .int q27), (4, .int v4_15), (3, .int v3_15), (0, .ref m_a), (1, .int p1)]) hx hb dX5_ring_58 rfl hl (by decide) rfl (fun ls hl => ?_)
                refine lv_iinc (v := (v3_15 + 1)) (lv' := [(3, .int (v3_15 + 1)), (2, .int (v2_15 ||| q27)), (5, .int q27), (4, .int v4_15), (0, .ref m_a), (1, .int p1)]) hx hb dX5_ring_59 hl (k := 3) rfl (by rfl) (by decide) rfl (fun ls hl => ?_)
                refine lv_iinc (v := (v4_15 + 1)) (lv' := [(4, .int (v4_15 + 1)), (3, .int (v3_15 + 1)), (2, .int (v2_15 ||| q27)), (5, .int q27), (0, .ref m_a), (1, .int p1)]) hx hb dX5_ring_62 hl (k := 3) rfl (by rfl) (by decide) rfl (fun ls hl => ?_)
                refine lv_goto (tgt := 15) hx hb dX5_ring_65 (by decide) ?_
                exact ih15 (v4_15 + 1) (v3_15 + 1) (v2_15 ||| q27) _ hM (lv_sub hl [0, 1, 2, 4, 5] rfl)
              · replace hM := ob_pos c_48 hM
                refine lv_iload hx hb dX5_ring_51 (lv_at hl 0 rfl) ?_
                exact W.iret (v := q27) hx hb hr (fun t ht hW => ⟨_, rfl, (Option.some.inj hM).symm, ht⟩) (fun _ h => by cases h) dX5_ring_53
    exact hL15 40 0 0 0 _ hM (lv_sub hl [0, 1, 2, 3, 4] rfl)
  · replace hM := ob_neg c_2 hM
    refine lv_bipush (v := (-2)) hx hb dX5_ring_5 (by decide) ?_
    exact W.iret (v := (-2)) hx hb hr (fun t ht hW => ⟨_, rfl, (Option.some.inj hM).symm, ht⟩) (fun _ h => by cases h) dX5_ring_7
/-! X5_ringed -/
abbrev rm_X5_ringed : Room := { frames := 4, cells := 0, slots := 0, locals := 93 }
theorem in_X5_ringed_5 : ∀ w ∈ u_ws RX5 TX5 10, w ∈ wsX5_ringed := by decide +kernel
set_option maxHeartbeats 4000000 in
set_option maxRecDepth 100000 in
theorem c_X5_ringed (l : Launch) (dC : Nat → ClassId) (dI : Nat → Nat → Nat) (cI cZ cJ cW : ClassId) (m_a m_ds_a m_cs_a m_tx_a m_ia_a m_im_a m_ik_a : Nat) (m_sz : Int32) (m_kn : Int32) (m_sg : Int32) (m_fa : Int32) (m_ds : Nat → Int32) (m_cs : Nat → Int32) (m_tx : Nat → Int32) (m_ia : Nat → Int32) (m_im : Nat → Int32) (m_ik : Nat → Int32) (R : Int32) (hM : M_X5_ringed m_sz m_ds = some R) : Met l yX5_ringed wsX5_ringed rm_X5_ringed (va_Pc [.ref m_a] (RP (dC, dI) cI cZ cJ cW [(m_a, .inr (5, [.int m_sz, .ref m_ds_a, .ref m_cs_a, .int m_kn, .ref m_tx_a, .int m_sg, .int m_fa, .ref m_ia_a, .ref m_im_a, .ref m_ik_a])), (m_ds_a, .inl (cI, 14, .inl m_ds)), (m_cs_a, .inl (cI, 14, .inl m_cs)), (m_tx_a, .inl (cI, 20, .inl m_tx)), (m_ia_a, .inl (cZ, 16384, .inl m_ia)), (m_im_a, .inl (cI, 60, .inl m_im)), (m_ik_a, .inl (cZ, 2, .inl m_ik))])) (vp_Si (fun r => R = r)) 0 0 (fun _ => False) := by
  refine Met.ofW (cc := cX5_ringed) (maxL := 3) (ret := (some .int)) (by decide) rfl ?_
  intro p e s m args below meth c s₁ B hml hv
  obtain ⟨rfl, hP, hK, hN⟩ := hv
  have hx := B.exec
  have hb := B.bytes
  have hr := B.returns
  have hts := atoms_spec (ws := wsX5_ringed) B.pre
  have hown : s.vm.findClass RX5 = some m.cls := findClass_of_methodNamed B.named
  have hlocks := B.notSynchronized
  have hf7 := hts (.fieldLink RX5 7 "WordGroundsModel" "size" "I") (by decide +kernel)
  have hl := lv_entry ([.ref m_a]) (n := 3) (Nat.le_of_ble_eq_true rfl)
  rw [lg_entry_eq]
  generalize (lg_sl ([.ref m_a]) ++ List.replicate (3 - (lg_sl ([.ref m_a])).length) Slot.unset).toArray = ls at hl ⊢
  have hl : lv_has ls 3 [(0, .ref m_a)] := hl
  have hM : (L_X5_ringed_4 m_sz m_ds (fun (v2_4 : Int32) (v1_4 : Int32) => some v1_4) 40 0 0) = some R := hM
  refine lv_iconst (v := 0) hx hb dX5_ringed_0 (by decide) ?_
  refine lv_istore_n (lv' := [(1, .int 0), (0, .ref m_a)]) hx hb dX5_ringed_1 rfl hl (by decide) rfl (fun ls hl => ?_)
  refine lv_iconst (v := 0) hx hb dX5_ringed_2 (by decide) ?_
  refine lv_istore_n (lv' := [(2, .int 0), (1, .int 0), (0, .ref m_a)]) hx hb dX5_ringed_3 rfl hl (by decide) rfl (fun ls hl => ?_)
  obtain ⟨K4, hK4⟩ : ∃ K : Int32 → Int32 → Option (Int32), K = (fun (v2_4 : Int32) (v1_4 : Int32) => some v1_4) := ⟨_, rfl⟩
  have hM : L_X5_ringed_4 m_sz m_ds K4 40 0 0 = some R := by rw [hK4]; exact hM
  have hL4 : ∀ (k4 : Nat) (v2_4 : Int32) (v1_4 : Int32) (ls : Array Slot), L_X5_ringed_4 m_sz m_ds K4 k4 v2_4 v1_4 = some R → lv_has ls 3 [(2, .int v2_4), (1, .int v1_4), (0, .ref m_a)] → W p l e rm_X5_ringed s m ([.ref m_a] : List Value).toArray below meth c s.heap [] 0 0 (MQ below (vp_Si (fun r => R = r)) ([.ref m_a] : List Value).toArray s 0 0 (fun _ => False)) (F0 m 4 ls []) := by
    intro k4
    induction k4 with
    | zero => intro v2_4 v1_4 ls hM; exact (ob_none hM).elim
    | succ k4 ih4 =>
      intro v2_4 v1_4 ls hM hl
      have hM : (if m_sz ≤ v2_4 then (K4 v2_4 v1_4) else ((M_X5_ringOf v2_4 m_sz m_ds).bind (fun q15 => L_X5_ringed_4 m_sz m_ds K4 k4 (v2_4 + 1) (v1_4 ||| q15)))) = some R := hM
      refine lv_iload_n hx hb dX5_ringed_4 rfl (lv_at hl 0 rfl) ?_
      refine lv_aload_n hx hb dX5_ringed_5 rfl (lv_at hl 2 rfl) ?_
      refine va_get (D := (dC, dI)) (ci := 5) (v := .int m_sz) (C := RX5) (T := TX5) (N := 10) hx hb hts in_X5_ringed_5 hown hK hP 0 rfl rfl 0 (by decide) hf7 (fun _ h9 => h9) rfl dX5_ringed_6 ?_
      refine lv_icmp_ge (tgt := 26) hx hb dX5_ringed_9 (by decide) (fun c_9 => ?_) (fun c_9 => ?_)
      · replace hM := ob_pos c_9 hM
        have hM : (some v1_4) = some R := by rw [hK4] at hM; exact hM
        refine lv_iload_n hx hb dX5_ringed_26 rfl (lv_at hl 1 rfl) ?_
        exact W.iret (v := v1_4) hx hb hr (fun t ht hW => ⟨_, rfl, (Option.some.inj hM).symm, ht⟩) (fun _ h => by cases h) dX5_ringed_27
      · replace hM := ob_neg c_9 hM
        refine lv_iload_n hx hb dX5_ringed_12 rfl (lv_at hl 1 rfl) ?_
        refine lv_aload_n hx hb dX5_ringed_13 rfl (lv_at hl 2 rfl) ?_
        refine lv_iload_n hx hb dX5_ringed_14 rfl (lv_at hl 0 rfl) ?_
        obtain ⟨q15, hv15, hM⟩ := ob_bind hM
        refine vp_callSi (va_Run.run (va_runV (As := [.int v2_4]) (rest := [.int v1_4]) ⟨hx, hb, hml, hown, hts⟩ (c_X5_ringOf l dC dI cI cZ cJ cW m_a m_ds_a m_cs_a m_tx_a m_ia_a m_im_a m_ik_a m_sz m_kn m_sg m_fa m_ds m_cs m_tx m_ia m_im m_ik v2_4 q15 hv15) (cwV 1 hts gX5_ringed_X5_ringOf rfl rfl rfl (by decide +kernel) ⟨Nat.le_of_ble_eq_true rfl, Nat.le_of_ble_eq_true rfl⟩) ⟨RP.blind, va_recv hK hP (ci := 5) (q0 := 0) rfl rfl, fun U hU hW => ⟨rfl, by rw [hU]; exact hP.sub (ws' := [(m_a, .inr (5, [.int m_sz, .ref m_ds_a, .ref m_cs_a, .int m_kn, .ref m_tx_a, .int m_sg, .int m_fa, .ref m_ia_a, .ref m_im_a, .ref m_ik_a])), (m_ds_a, .inl (cI, 14, .inl m_ds)), (m_cs_a, .inl (cI, 14, .inl m_cs)), (m_tx_a, .inl (cI, 20, .inl m_tx)), (m_ia_a, .inl (cZ, 16384, .inl m_ia)), (m_im_a, .inl (cI, 60, .inl m_im)), (m_ik_a, .inl (cZ, 2, .inl m_ik))]) [0, 1, 2, 3, 4, 5, 6] rfl, va_K.moved hW.alike hK, hN.warm hW⟩⟩ rfl rfl hl.1 rfl (lv_room (Nat.le_of_ble_eq_true rfl)) dX5_ringed_15 ⟨Nat.le_of_ble_eq_true rfl, Nat.le_of_ble_eq_true rfl⟩)) (fun r hr => ?_)
        subst hr
        refine lv_ior hx hb dX5_ringed_18 ?_
        refine lv_istore_n (lv' := [(1, .int (v1_4 ||| q15)), (2, .int v2_4), (0, .ref m_a)]) hx hb dX5_ringed_19 rfl hl (by decide) rfl (fun ls hl => ?_)
        refine lv_iinc (v := (v2_4 + 1)) (lv' := [(2, .int (v2_4 + 1)), (1, .int (v1_4 ||| q15)), (0, .ref m_a)]) hx hb dX5_ringed_20 hl (k := 1) rfl (by rfl) (by decide) rfl (fun ls hl => ?_)
        refine lv_goto (tgt := 4) hx hb dX5_ringed_23 (by decide) ?_
        exact ih4 (v2_4 + 1) (v1_4 ||| q15) _ hM (lv_sub hl [0, 1, 2] rfl)
  exact hL4 40 0 0 _ hM (lv_sub hl [0, 1, 2] rfl)
/-! X5_lies -/
abbrev rm_X5_lies : Room := { frames := 5, cells := 0, slots := 0, locals := 115 }
theorem in_X5_lies_5 : ∀ w ∈ u_ws RX5 TX5 10, w ∈ wsX5_lies := by decide +kernel
set_option maxHeartbeats 4000000 in
set_option maxRecDepth 100000 in
theorem c_X5_lies (l : Launch) (dC : Nat → ClassId) (dI : Nat → Nat → Nat) (cI cZ cJ cW : ClassId) (m_a m_ds_a m_cs_a m_tx_a m_ia_a m_im_a m_ik_a : Nat) (m_sz : Int32) (m_kn : Int32) (m_sg : Int32) (m_fa : Int32) (m_ds : Nat → Int32) (m_cs : Nat → Int32) (m_tx : Nat → Int32) (m_ia : Nat → Int32) (m_im : Nat → Int32) (m_ik : Nat → Int32) (p1 : Int32) (p2 : Int32) (R : Int32) (hM : M_X5_lies p1 p2 m_sz m_ds = some R) : Met l yX5_lies wsX5_lies rm_X5_lies (va_Pc [.ref m_a, .int p1, .int p2] (RP (dC, dI) cI cZ cJ cW [(m_a, .inr (5, [.int m_sz, .ref m_ds_a, .ref m_cs_a, .int m_kn, .ref m_tx_a, .int m_sg, .int m_fa, .ref m_ia_a, .ref m_im_a, .ref m_ik_a])), (m_ds_a, .inl (cI, 14, .inl m_ds)), (m_cs_a, .inl (cI, 14, .inl m_cs)), (m_tx_a, .inl (cI, 20, .inl m_tx)), (m_ia_a, .inl (cZ, 16384, .inl m_ia)), (m_im_a, .inl (cI, 60, .inl m_im)), (m_ik_a, .inl (cZ, 2, .inl m_ik))])) (vp_Si (fun r => R = r)) 0 0 (fun _ => False) := by
  refine Met.ofW (cc := cX5_lies) (maxL := 6) (ret := (some .boolean)) (by decide) rfl ?_
  intro p e s m args below meth c s₁ B hml hv
  obtain ⟨rfl, hP, hK, hN⟩ := hv
  have hx := B.exec
  have hb := B.bytes
  have hr := B.returns
  have hts := atoms_spec (ws := wsX5_lies) B.pre
  have hown : s.vm.findClass RX5 = some m.cls := findClass_of_methodNamed B.named
  have hlocks := B.notSynchronized
  have hf7 := hts (.fieldLink RX5 7 "WordGroundsModel" "size" "I") (by decide +kernel)
  have hl := lv_entry ([.ref m_a, .int p1, .int p2]) (n := 6) (Nat.le_of_ble_eq_true rfl)
  rw [lg_entry_eq]
  generalize (lg_sl ([.ref m_a, .int p1, .int p2]) ++ List.replicate (6 - (lg_sl ([.ref m_a, .int p1, .int p2])).length) Slot.unset).toArray = ls at hl ⊢
  have hl : lv_has ls 6 [(0, .ref m_a), (1, .int p1), (2, .int p2)] := hl
  have hM : ((M_X5_ringed m_sz m_ds).bind (fun q1 => L_X5_lies_11 p1 p2 m_sz m_ds q1 (fun (v5_11 : Int32) (v4_11 : Int32) => if v4_11 = 0 then (some 0) else ((M_X5_has q1 p1).bind (fun q79 => if q79 = 0 then (some 1) else (some 0)))) 40 0 0)) = some R := hM
  refine lv_aload_n hx hb dX5_lies_0 rfl (lv_at hl 0 rfl) ?_
  obtain ⟨q1, hv1, hM⟩ := ob_bind hM
  refine vp_callSi (va_Run.run (va_runV (As := []) (rest := []) ⟨hx, hb, hml, hown, hts⟩ (c_X5_ringed l dC dI cI cZ cJ cW m_a m_ds_a m_cs_a m_tx_a m_ia_a m_im_a m_ik_a m_sz m_kn m_sg m_fa m_ds m_cs m_tx m_ia m_im m_ik q1 hv1) (cwV 0 hts gX5_lies_X5_ringed rfl rfl rfl (by decide +kernel) ⟨Nat.le_of_ble_eq_true rfl, Nat.le_of_ble_eq_true rfl⟩) ⟨RP.blind, va_recv hK hP (ci := 5) (q0 := 0) rfl rfl, fun U hU hW => ⟨rfl, by rw [hU]; exact hP.sub (ws' := [(m_a, .inr (5, [.int m_sz, .ref m_ds_a, .ref m_cs_a, .int m_kn, .ref m_tx_a, .int m_sg, .int m_fa, .ref m_ia_a, .ref m_im_a, .ref m_ik_a])), (m_ds_a, .inl (cI, 14, .inl m_ds)), (m_cs_a, .inl (cI, 14, .inl m_cs)), (m_tx_a, .inl (cI, 20, .inl m_tx)), (m_ia_a, .inl (cZ, 16384, .inl m_ia)), (m_im_a, .inl (cI, 60, .inl m_im)), (m_ik_a, .inl (cZ, 2, .inl m_ik))]) [0, 1, 2, 3, 4, 5, 6] rfl, va_K.moved hW.alike hK, hN.warm hW⟩⟩ rfl rfl hl.1 rfl (lv_room (Nat.le_of_ble_eq_true rfl)) dX5_lies_1 ⟨Nat.le_of_ble_eq_true rfl, Nat.le_of_ble_eq_true rfl⟩)) (fun r hr => ?_)
  subst hr
  refine lv_istore_n (lv' := [(3, .int q1), (0, .ref m_a), (1, .int p1), (2, .int p2)]) hx hb dX5_lies_4 rfl hl (by decide) rfl (fun ls hl => ?_)
  refine lv_iconst (v := 0) hx hb dX5_lies_5 (by decide) ?_
  refine lv_istore (lv' := [(4, .int 0), (3, .int q1), (0, .ref m_a), (1, .int p1), (2, .int p2)]) hx hb dX5_lies_6 hl (by decide) rfl (fun ls hl => ?_)
  refine lv_iconst (v := 0) hx hb dX5_lies_8 (by decide) ?_
  refine lv_istore (lv' := [(5, .int 0), (4, .int 0), (3, .int q1), (0, .ref m_a), (1, .int p1), (2, .int p2)]) hx hb dX5_lies_9 hl (by decide) rfl (fun ls hl => ?_)
  obtain ⟨K11, hK11⟩ : ∃ K : Int32 → Int32 → Option (Int32), K = (fun (v5_11 : Int32) (v4_11 : Int32) => if v4_11 = 0 then (some 0) else ((M_X5_has q1 p1).bind (fun q79 => if q79 = 0 then (some 1) else (some 0)))) := ⟨_, rfl⟩
  have hM : L_X5_lies_11 p1 p2 m_sz m_ds q1 K11 40 0 0 = some R := by rw [hK11]; exact hM
  have hL11 : ∀ (k11 : Nat) (v5_11 : Int32) (v4_11 : Int32) (ls : Array Slot), L_X5_lies_11 p1 p2 m_sz m_ds q1 K11 k11 v5_11 v4_11 = some R → lv_has ls 6 [(5, .int v5_11), (4, .int v4_11), (3, .int q1), (0, .ref m_a), (1, .int p1), (2, .int p2)] → W p l e rm_X5_lies s m ([.ref m_a, .int p1, .int p2] : List Value).toArray below meth c s.heap [] 0 0 (MQ below (vp_Si (fun r => R = r)) ([.ref m_a, .int p1, .int p2] : List Value).toArray s 0 0 (fun _ => False)) (F0 m 11 ls []) := by
    intro k11
    induction k11 with
    | zero => intro v5_11 v4_11 ls hM; exact (ob_none hM).elim
    | succ k11 ih11 =>
      intro v5_11 v4_11 ls hM hl
      have hM : (if m_sz ≤ v5_11 then (K11 v5_11 v4_11) else (if v4_11 = 0 then ((M_X5_has q1 v5_11).bind (fun q28 => if q28 = 0 then (L_X5_lies_11 p1 p2 m_sz m_ds q1 K11 k11 (v5_11 + 1) 0) else (if p2 = 1 then ((M_X5_wayOf v5_11 p1 m_sz m_ds).bind (fun q43 => if q43 ≤ 0 then (L_X5_lies_11 p1 p2 m_sz m_ds q1 K11 k11 (v5_11 + 1) 0) else (L_X5_lies_11 p1 p2 m_sz m_ds q1 K11 k11 (v5_11 + 1) 1))) else ((M_X5_wayOf p1 v5_11 m_sz m_ds).bind (fun q53 => if q53 ≤ 0 then (L_X5_lies_11 p1 p2 m_sz m_ds q1 K11 k11 (v5_11 + 1) 0) else (L_X5_lies_11 p1 p2 m_sz m_ds q1 K11 k11 (v5_11 + 1) 1)))))) else (L_X5_lies_11 p1 p2 m_sz m_ds q1 K11 k11 (v5_11 + 1) 1))) = some R := hM
      refine lv_iload hx hb dX5_lies_11 (lv_at hl 0 rfl) ?_
      refine lv_aload_n hx hb dX5_lies_13 rfl (lv_at hl 3 rfl) ?_
      refine va_get (D := (dC, dI)) (ci := 5) (v := .int m_sz) (C := RX5) (T := TX5) (N := 10) hx hb hts in_X5_lies_5 hown hK hP 0 rfl rfl 0 (by decide) hf7 (fun _ h9 => h9) rfl dX5_lies_14 ?_
      refine lv_icmp_ge (tgt := 72) hx hb dX5_lies_17 (by decide) (fun c_17 => ?_) (fun c_17 => ?_)
      · replace hM := ob_pos c_17 hM
        have hM : (if v4_11 = 0 then (some 0) else ((M_X5_has q1 p1).bind (fun q79 => if q79 = 0 then (some 1) else (some 0)))) = some R := by rw [hK11] at hM; exact hM
        refine lv_iload hx hb dX5_lies_72 (lv_at hl 1 rfl) ?_
        refine lv_if_eq (tgt := 89) hx hb dX5_lies_74 (by decide) (fun c_74 => ?_) (fun c_74 => ?_)
        · replace hM := ob_pos c_74 hM
          refine lv_iconst (v := 0) hx hb dX5_lies_89 (by decide) ?_
          exact W.zret (v := 0) hx hb hr (by rfl) (fun t ht hW => ⟨_, rfl, (Option.some.inj hM).symm, ht⟩) (fun _ h => by cases h) dX5_lies_90
        · replace hM := ob_neg c_74 hM
          refine lv_iload_n hx hb dX5_lies_77 rfl (lv_at hl 2 rfl) ?_
          refine lv_iload_n hx hb dX5_lies_78 rfl (lv_at hl 4 rfl) ?_
          obtain ⟨q79, hv79, hM⟩ := ob_bind hM
          refine vp_callSi (va_Run.run (va_runS (As := [.int q1, .int p1]) (rest := []) ⟨hx, hb, hml, hown, hts⟩ (c_X5_has l dC dI cI cZ cJ cW q1 p1 q79 hv79) (va_cwS 2 hts gX5_lies_X5_has rfl rfl rfl (by decide +kernel) ⟨Nat.le_of_ble_eq_true rfl, Nat.le_of_ble_eq_true rfl⟩) ⟨TP.blind, fun U hU hW => ⟨rfl, trivial⟩⟩ rfl rfl hl.1 rfl (lv_room (Nat.le_of_ble_eq_true rfl)) dX5_lies_79 ⟨Nat.le_of_ble_eq_true rfl, Nat.le_of_ble_eq_true rfl⟩)) (fun r hr => ?_)
          subst hr
          refine lv_if_ne (tgt := 89) hx hb dX5_lies_82 (by decide) (fun c_82 => ?_) (fun c_82 => ?_)
          · replace hM := ob_neg c_82 hM
            refine lv_iconst (v := 0) hx hb dX5_lies_89 (by decide) ?_
            exact W.zret (v := 0) hx hb hr (by rfl) (fun t ht hW => ⟨_, rfl, (Option.some.inj hM).symm, ht⟩) (fun _ h => by cases h) dX5_lies_90
          · replace hM := ob_pos c_82 hM
            refine lv_iconst (v := 1) hx hb dX5_lies_85 (by decide) ?_
            refine lv_goto (tgt := 90) hx hb dX5_lies_86 (by decide) ?_
            exact W.zret (v := 1) hx hb hr (by rfl) (fun t ht hW => ⟨_, rfl, (Option.some.inj hM).symm, ht⟩) (fun _ h => by cases h) dX5_lies_90
      · replace hM := ob_neg c_17 hM
        refine lv_iload hx hb dX5_lies_20 (lv_at hl 1 rfl) ?_
        refine lv_if_ne (tgt := 59) hx hb dX5_lies_22 (by decide) (fun c_22 => ?_) (fun c_22 => ?_)
        · replace hM := ob_neg c_22 hM
          refine lv_iconst (v := 1) hx hb dX5_lies_59 (by decide) ?_
          refine lv_goto (tgt := 64) hx hb dX5_lies_60 (by decide) ?_
          refine lv_istore (lv' := [(4, .int 1), (5, .int v5_11), (3, .int q1), (0, .ref m_a), (1, .int p1), (2, .int p2)]) hx hb dX5_lies_64 hl (by decide) rfl (fun ls hl => ?_)
          refine lv_iinc (v := (v5_11 + 1)) (lv' := [(5, .int (v5_11 + 1)), (4, .int 1), (3, .int q1), (0, .ref m_a), (1, .int p1), (2, .int p2)]) hx hb dX5_lies_66 hl (k := 1) rfl (by rfl) (by decide) rfl (fun ls hl => ?_)
          refine lv_goto (tgt := 11) hx hb dX5_lies_69 (by decide) ?_
          exact ih11 (v5_11 + 1) 1 _ hM (lv_sub hl [0, 1, 2, 3, 4, 5] rfl)
        · replace hM := ob_pos c_22 hM
          refine lv_iload_n hx hb dX5_lies_25 rfl (lv_at hl 2 rfl) ?_
          refine lv_iload hx hb dX5_lies_26 (lv_at hl 0 rfl) ?_
          obtain ⟨q28, hv28, hM⟩ := ob_bind hM
          refine vp_callSi (va_Run.run (va_runS (As := [.int q1, .int v5_11]) (rest := []) ⟨hx, hb, hml, hown, hts⟩ (c_X5_has l dC dI cI cZ cJ cW q1 v5_11 q28 hv28) (va_cwS 2 hts gX5_lies_X5_has rfl rfl rfl (by decide +kernel) ⟨Nat.le_of_ble_eq_true rfl, Nat.le_of_ble_eq_true rfl⟩) ⟨TP.blind, fun U hU hW => ⟨rfl, trivial⟩⟩ rfl rfl hl.1 rfl (lv_room (Nat.le_of_ble_eq_true rfl)) dX5_lies_28 ⟨Nat.le_of_ble_eq_true rfl, Nat.le_of_ble_eq_true rfl⟩)) (fun r hr => ?_)
          subst hr
          refine lv_if_eq (tgt := 63) hx hb dX5_lies_31 (by decide) (fun c_31 => ?_) (fun c_31 => ?_)
          · replace hM := ob_pos c_31 hM
            refine lv_iconst (v := 0) hx hb dX5_lies_63 (by decide) ?_
            refine lv_istore (lv' := [(4, .int 0), (5, .int v5_11), (3, .int q1), (0, .ref m_a), (1, .int p1), (2, .int p2)]) hx hb dX5_lies_64 hl (by decide) rfl (fun ls hl => ?_)
            refine lv_iinc (v := (v5_11 + 1)) (lv' := [(5, .int (v5_11 + 1)), (4, .int 0), (3, .int q1), (0, .ref m_a), (1, .int p1), (2, .int p2)]) hx hb dX5_lies_66 hl (k := 1) rfl (by rfl) (by decide) rfl (fun ls hl => ?_)
            refine lv_goto (tgt := 11) hx hb dX5_lies_69 (by decide) ?_
            exact ih11 (v5_11 + 1) 0 _ hM (lv_sub hl [0, 1, 2, 3, 4, 5] rfl)
          · replace hM := ob_neg c_31 hM
            refine lv_iload_n hx hb dX5_lies_34 rfl (lv_at hl 5 rfl) ?_
            refine lv_iconst (v := 1) hx hb dX5_lies_35 (by decide) ?_
            refine lv_icmp_ne (tgt := 49) hx hb dX5_lies_36 (by decide) (fun c_36 => ?_) (fun c_36 => ?_)
            · replace hM := ob_neg c_36 hM
              refine lv_aload_n hx hb dX5_lies_49 rfl (lv_at hl 3 rfl) ?_
              refine lv_iload_n hx hb dX5_lies_50 rfl (lv_at hl 4 rfl) ?_
              refine lv_iload hx hb dX5_lies_51 (lv_at hl 0 rfl) ?_
              obtain ⟨q53, hv53, hM⟩ := ob_bind hM
              refine vp_callSi (va_Run.run (va_runV (As := [.int p1, .int v5_11]) (rest := []) ⟨hx, hb, hml, hown, hts⟩ (c_X5_wayOf l dC dI cI cZ cJ cW m_a m_ds_a m_cs_a m_tx_a m_ia_a m_im_a m_ik_a m_sz m_kn m_sg m_fa m_ds m_cs m_tx m_ia m_im m_ik p1 v5_11 q53 hv53) (cwV 2 hts gX5_lies_X5_wayOf rfl rfl rfl (by decide +kernel) ⟨Nat.le_of_ble_eq_true rfl, Nat.le_of_ble_eq_true rfl⟩) ⟨RP.blind, va_recv hK hP (ci := 5) (q0 := 0) rfl rfl, fun U hU hW => ⟨rfl, by rw [hU]; exact hP.sub (ws' := [(m_a, .inr (5, [.int m_sz, .ref m_ds_a, .ref m_cs_a, .int m_kn, .ref m_tx_a, .int m_sg, .int m_fa, .ref m_ia_a, .ref m_im_a, .ref m_ik_a])), (m_ds_a, .inl (cI, 14, .inl m_ds)), (m_cs_a, .inl (cI, 14, .inl m_cs)), (m_tx_a, .inl (cI, 20, .inl m_tx)), (m_ia_a, .inl (cZ, 16384, .inl m_ia)), (m_im_a, .inl (cI, 60, .inl m_im)), (m_ik_a, .inl (cZ, 2, .inl m_ik))]) [0, 1, 2, 3, 4, 5, 6] rfl, va_K.moved hW.alike hK, hN.warm hW⟩⟩ rfl rfl hl.1 rfl (lv_room (Nat.le_of_ble_eq_true rfl)) dX5_lies_53 ⟨Nat.le_of_ble_eq_true rfl, Nat.le_of_ble_eq_true rfl⟩)) (fun r hr => ?_)
              subst hr
              refine lv_if_le (tgt := 63) hx hb dX5_lies_56 (by decide) (fun c_56 => ?_) (fun c_56 => ?_)
              · replace hM := ob_pos c_56 hM
                refine lv_iconst (v := 0) hx hb dX5_lies_63 (by decide) ?_
                refine lv_istore (lv' := [(4, .int 0), (5, .int v5_11), (3, .int q1), (0, .ref m_a), (1, .int p1), (2, .int p2)]) hx hb dX5_lies_64 hl (by decide) rfl (fun ls hl => ?_)
                refine lv_iinc (v := (v5_11 + 1)) (lv' := [(5, .int (v5_11 + 1)), (4, .int 0), (3, .int q1), (0, .ref m_a), (1, .int p1), (2, .int p2)]) hx hb dX5_lies_66 hl (k := 1) rfl (by rfl) (by decide) rfl (fun ls hl => ?_)
                refine lv_goto (tgt := 11) hx hb dX5_lies_69 (by decide) ?_
                exact ih11 (v5_11 + 1) 0 _ hM (lv_sub hl [0, 1, 2, 3, 4, 5] rfl)
              · replace hM := ob_neg c_56 hM
                refine lv_iconst (v := 1) hx hb dX5_lies_59 (by decide) ?_
                refine lv_goto (tgt := 64) hx hb dX5_lies_60 (by decide) ?_
                refine lv_istore (lv' := [(4, .int 1), (5, .int v5_11), (3, .int q1), (0, .ref m_a), (1, .int p1), (2, .int p2)]) hx hb dX5_lies_64 hl (by decide) rfl (fun ls hl => ?_)
                refine lv_iinc (v := (v5_11 + 1)) (lv' := [(5, .int (v5_11 + 1)), (4, .int 1), (3, .int q1), (0, .ref m_a), (1, .int p1), (2, .int p2)]) hx hb dX5_lies_66 hl (k := 1) rfl (by rfl) (by decide) rfl (fun ls hl => ?_)
                refine lv_goto (tgt := 11) hx hb dX5_lies_69 (by decide) ?_
                exact ih11 (v5_11 + 1) 1 _ hM (lv_sub hl [0, 1, 2, 3, 4, 5] rfl)
            · replace hM := ob_pos c_36 hM
              refine lv_aload_n hx hb dX5_lies_39 rfl (lv_at hl 3 rfl) ?_
              refine lv_iload hx hb dX5_lies_40 (lv_at hl 0 rfl) ?_
              refine lv_iload_n hx hb dX5_lies_42 rfl (lv_at hl 4 rfl) ?_
              obtain ⟨q43, hv43, hM⟩ := ob_bind hM
              refine vp_callSi (va_Run.run (va_runV (As := [.int v5_11, .int p1]) (rest := []) ⟨hx, hb, hml, hown, hts⟩ (c_X5_wayOf l dC dI cI cZ cJ cW m_a m_ds_a m_cs_a m_tx_a m_ia_a m_im_a m_ik_a m_sz m_kn m_sg m_fa m_ds m_cs m_tx m_ia m_im m_ik v5_11 p1 q43 hv43) (cwV 2 hts gX5_lies_X5_wayOf rfl rfl rfl (by decide +kernel) ⟨Nat.le_of_ble_eq_true rfl, Nat.le_of_ble_eq_true rfl⟩) ⟨RP.blind, va_recv hK hP (ci := 5) (q0 := 0) rfl rfl, fun U hU hW => ⟨rfl, by rw [hU]; exact hP.sub (ws' := [(m_a, .inr (5, [.int m_sz, .ref m_ds_a, .ref m_cs_a, .int m_kn, .ref m_tx_a, .int m_sg, .int m_fa, .ref m_ia_a, .ref m_im_a, .ref m_ik_a])), (m_ds_a, .inl (cI, 14, .inl m_ds)), (m_cs_a, .inl (cI, 14, .inl m_cs)), (m_tx_a, .inl (cI, 20, .inl m_tx)), (m_ia_a, .inl (cZ, 16384, .inl m_ia)), (m_im_a, .inl (cI, 60, .inl m_im)), (m_ik_a, .inl (cZ, 2, .inl m_ik))]) [0, 1, 2, 3, 4, 5, 6] rfl, va_K.moved hW.alike hK, hN.warm hW⟩⟩ rfl rfl hl.1 rfl (lv_room (Nat.le_of_ble_eq_true rfl)) dX5_lies_43 ⟨Nat.le_of_ble_eq_true rfl, Nat.le_of_ble_eq_true rfl⟩)) (fun r hr => ?_)
              subst hr
              refine lv_goto (tgt := 56) hx hb dX5_lies_46 (by decide) ?_
              refine lv_if_le (tgt := 63) hx hb dX5_lies_56 (by decide) (fun c_56 => ?_) (fun c_56 => ?_)
              · replace hM := ob_pos c_56 hM
                refine lv_iconst (v := 0) hx hb dX5_lies_63 (by decide) ?_
                refine lv_istore (lv' := [(4, .int 0), (5, .int v5_11), (3, .int q1), (0, .ref m_a), (1, .int p1), (2, .int p2)]) hx hb dX5_lies_64 hl (by decide) rfl (fun ls hl => ?_)
                refine lv_iinc (v := (v5_11 + 1)) (lv' := [(5, .int (v5_11 + 1)), (4, .int 0), (3, .int q1), (0, .ref m_a), (1, .int p1), (2, .int p2)]) hx hb dX5_lies_66 hl (k := 1) rfl (by rfl) (by decide) rfl (fun ls hl => ?_)
                refine lv_goto (tgt := 11) hx hb dX5_lies_69 (by decide) ?_
                exact ih11 (v5_11 + 1) 0 _ hM (lv_sub hl [0, 1, 2, 3, 4, 5] rfl)
              · replace hM := ob_neg c_56 hM
                refine lv_iconst (v := 1) hx hb dX5_lies_59 (by decide) ?_
                refine lv_goto (tgt := 64) hx hb dX5_lies_60 (by decide) ?_
                refine lv_istore (lv' := [(4, .int 1), (5, .int v5_11), (3, .int q1), (0, .ref m_a), (1, .int p1), (2, .int p2)]) hx hb dX5_lies_64 hl (by decide) rfl (fun ls hl => ?_)
                refine lv_iinc (v := (v5_11 + 1)) (lv' := [(5, .int (v5_11 + 1)), (4, .int 1), (3, .int q1), (0, .ref m_a), (1, .int p1), (2, .int p2)]) hx hb dX5_lies_66 hl (k := 1) rfl (by rfl) (by decide) rfl (fun ls hl => ?_)
                refine lv_goto (tgt := 11) hx hb dX5_lies_69 (by decide) ?_
                exact ih11 (v5_11 + 1) 1 _ hM (lv_sub hl [0, 1, 2, 3, 4, 5] rfl)
  exact hL11 40 0 0 _ hM (lv_sub hl [0, 1, 2, 3, 4, 5] rfl)
/-! X5_lie -/
abbrev rm_X5_lie : Room := { frames := 6, cells := 0, slots := 0, locals := 140 }
theorem in_X5_lie_5 : ∀ w ∈ u_ws RX5 TX5 10, w ∈ wsX5_lie := by decide +kernel
set_option maxHeartbeats 4000000 in
set_option maxRecDepth 100000 in
theorem c_X5_lie (l : Launch) (dC : Nat → ClassId) (dI : Nat → Nat → Nat) (cI cZ cJ cW : ClassId) (m_a m_ds_a m_cs_a m_tx_a m_ia_a m_im_a m_ik_a : Nat) (m_sz : Int32) (m_kn : Int32) (m_sg : Int32) (m_fa : Int32) (m_ds : Nat → Int32) (m_cs : Nat → Int32) (m_tx : Nat → Int32) (m_ia : Nat → Int32) (m_im : Nat → Int32) (m_ik : Nat → Int32) (p1 : Int32) (R : Int32) (hM : M_X5_lie p1 m_sz m_ds = some R) : Met l yX5_lie wsX5_lie rm_X5_lie (va_Pc [.ref m_a, .int p1] (RP (dC, dI) cI cZ cJ cW [(m_a, .inr (5, [.int m_sz, .ref m_ds_a, .ref m_cs_a, .int m_kn, .ref m_tx_a, .int m_sg, .int m_fa, .ref m_ia_a, .ref m_im_a, .ref m_ik_a])), (m_ds_a, .inl (cI, 14, .inl m_ds)), (m_cs_a, .inl (cI, 14, .inl m_cs)), (m_tx_a, .inl (cI, 20, .inl m_tx)), (m_ia_a, .inl (cZ, 16384, .inl m_ia)), (m_im_a, .inl (cI, 60, .inl m_im)), (m_ik_a, .inl (cZ, 2, .inl m_ik))])) (vp_Si (fun r => R = r)) 0 0 (fun _ => False) := by
  refine Met.ofW (cc := cX5_lie) (maxL := 5) (ret := (some .int)) (by decide) rfl ?_
  intro p e s m args below meth c s₁ B hml hv
  obtain ⟨rfl, hP, hK, hN⟩ := hv
  have hx := B.exec
  have hb := B.bytes
  have hr := B.returns
  have hts := atoms_spec (ws := wsX5_lie) B.pre
  have hown : s.vm.findClass RX5 = some m.cls := findClass_of_methodNamed B.named
  have hlocks := B.notSynchronized
  have hf7 := hts (.fieldLink RX5 7 "WordGroundsModel" "size" "I") (by decide +kernel)
  have hf13 := hts (.fieldLink RX5 13 "WordGroundsModel" "definitions" "[I") (by decide +kernel)
  have hl := lv_entry ([.ref m_a, .int p1]) (n := 5) (Nat.le_of_ble_eq_true rfl)
  rw [lg_entry_eq]
  generalize (lg_sl ([.ref m_a, .int p1]) ++ List.replicate (5 - (lg_sl ([.ref m_a, .int p1])).length) Slot.unset).toArray = ls at hl ⊢
  have hl : lv_has ls 5 [(0, .ref m_a), (1, .int p1)] := hl
  have hM : ((M_X5_in p1 0 4).bind (fun q3 => if q3 = 0 then (some (-2)) else (L_X5_lie_16 p1 m_sz m_ds (fun (v3_16 : Int32) (v2_16 : Int32) => some v2_16) 40 0 0))) = some R := hM
  refine lv_iload_n hx hb dX5_lie_0 rfl (lv_at hl 1 rfl) ?_
  refine lv_iconst (v := 0) hx hb dX5_lie_1 (by decide) ?_
  refine lv_iconst (v := 4) hx hb dX5_lie_2 (by decide) ?_
  obtain ⟨q3, hv3, hM⟩ := ob_bind hM
  refine vp_callSi (va_Run.run (va_runS (As := [.int p1, .int 0, .int 4]) (rest := []) ⟨hx, hb, hml, hown, hts⟩ (c_X5_in l dC dI cI cZ cJ cW p1 0 4 q3 hv3) (va_cwS 3 hts gX5_lie_X5_in rfl rfl rfl (by decide +kernel) ⟨Nat.le_of_ble_eq_true rfl, Nat.le_of_ble_eq_true rfl⟩) ⟨TP.blind, fun U hU hW => ⟨rfl, trivial⟩⟩ rfl rfl hl.1 rfl (lv_room (Nat.le_of_ble_eq_true rfl)) dX5_lie_3 ⟨Nat.le_of_ble_eq_true rfl, Nat.le_of_ble_eq_true rfl⟩)) (fun r hr => ?_)
  subst hr
  refine lv_if_ne (tgt := 12) hx hb dX5_lie_6 (by decide) (fun c_6 => ?_) (fun c_6 => ?_)
  · replace hM := ob_neg c_6 hM
    refine lv_iconst (v := 0) hx hb dX5_lie_12 (by decide) ?_
    refine lv_istore_n (lv' := [(2, .int 0), (0, .ref m_a), (1, .int p1)]) hx hb dX5_lie_13 rfl hl (by decide) rfl (fun ls hl => ?_)
    refine lv_iconst (v := 0) hx hb dX5_lie_14 (by decide) ?_
    refine lv_istore_n (lv' := [(3, .int 0), (2, .int 0), (0, .ref m_a), (1, .int p1)]) hx hb dX5_lie_15 rfl hl (by decide) rfl (fun ls hl => ?_)
    obtain ⟨K16, hK16⟩ : ∃ K : Int32 → Int32 → Option (Int32), K = (fun (v3_16 : Int32) (v2_16 : Int32) => some v2_16) := ⟨_, rfl⟩
    have hM : L_X5_lie_16 p1 m_sz m_ds K16 40 0 0 = some R := by rw [hK16]; exact hM
    have hL16 : ∀ (k16 : Nat) (v3_16 : Int32) (v2_16 : Int32) (ls : Array Slot), L_X5_lie_16 p1 m_sz m_ds K16 k16 v3_16 v2_16 = some R → lv_has ls 5 [(3, .int v3_16), (2, .int v2_16), (0, .ref m_a), (1, .int p1)] → W p l e rm_X5_lie s m ([.ref m_a, .int p1] : List Value).toArray below meth c s.heap [] 0 0 (MQ below (vp_Si (fun r => R = r)) ([.ref m_a, .int p1] : List Value).toArray s 0 0 (fun _ => False)) (F0 m 16 ls []) := by
      intro k16
      induction k16 with
      | zero => intro v3_16 v2_16 ls hM; exact (ob_none hM).elim
      | succ k16 ih16 =>
        intro v3_16 v2_16 ls hM hl
        have hM : (if m_sz ≤ v3_16 then (K16 v3_16 v2_16) else (if p1 = 0 then ((M_X5_ringOf v3_16 m_sz m_ds).bind (fun q30 => if q30 = 0 then (L_X5_lie_16 p1 m_sz m_ds K16 k16 (v3_16 + 1) (v2_16 ||| 0)) else (L_X5_lie_16 p1 m_sz m_ds K16 k16 (v3_16 + 1) (v2_16 ||| ((1 : Int32) <<< (v3_16 &&& 31)))))) else (if p1 = 3 then ((M_X5_usersOf v3_16 m_sz m_ds).bind (fun q51 => if q51 = 0 then (L_X5_lie_16 p1 m_sz m_ds K16 k16 (v3_16 + 1) (v2_16 ||| ((1 : Int32) <<< (v3_16 &&& 31)))) else (L_X5_lie_16 p1 m_sz m_ds K16 k16 (v3_16 + 1) (v2_16 ||| 0)))) else (if p1 = 4 then (if v3_16 < 0 ∨ 14 ≤ (v3_16).toNatClampNeg then none else (if 0 ≤ (m_ds (v3_16).toNatClampNeg) then (L_X5_lie_16 p1 m_sz m_ds K16 k16 (v3_16 + 1) (v2_16 ||| 0)) else (L_X5_lie_16 p1 m_sz m_ds K16 k16 (v3_16 + 1) (v2_16 ||| ((1 : Int32) <<< (v3_16 &&& 31)))))) else ((M_X5_lies v3_16 p1 m_sz m_ds).bind (fun q90 => if q90 = 0 then (L_X5_lie_16 p1 m_sz m_ds K16 k16 (v3_16 + 1) (v2_16 ||| 0)) else (L_X5_lie_16 p1 m_sz m_ds K16 k16 (v3_16 + 1) (v2_16 ||| ((1 : Int32) <<< (v3_16 &&& 31)))))))))) = some R := hM
        refine lv_iload_n hx hb dX5_lie_16 rfl (lv_at hl 0 rfl) ?_
        refine lv_aload_n hx hb dX5_lie_17 rfl (lv_at hl 2 rfl) ?_
        refine va_get (D := (dC, dI)) (ci := 5) (v := .int m_sz) (C := RX5) (T := TX5) (N := 10) hx hb hts in_X5_lie_5 hown hK hP 0 rfl rfl 0 (by decide) hf7 (fun _ h9 => h9) rfl dX5_lie_18 ?_
        refine lv_icmp_ge (tgt := 116) hx hb dX5_lie_21 (by decide) (fun c_21 => ?_) (fun c_21 => ?_)
        · replace hM := ob_pos c_21 hM
          have hM : (some v2_16) = some R := by rw [hK16] at hM; exact hM
          refine lv_iload_n hx hb dX5_lie_116 rfl (lv_at hl 1 rfl) ?_
          exact W.iret (v := v2_16) hx hb hr (fun t ht hW => ⟨_, rfl, (Option.some.inj hM).symm, ht⟩) (fun _ h => by cases h) dX5_lie_117
        · replace hM := ob_neg c_21 hM
          refine lv_iload_n hx hb dX5_lie_24 rfl (lv_at hl 3 rfl) ?_
          refine lv_if_ne (tgt := 44) hx hb dX5_lie_25 (by decide) (fun c_25 => ?_) (fun c_25 => ?_)
          · replace hM := ob_neg c_25 hM
            refine lv_iload_n hx hb dX5_lie_44 rfl (lv_at hl 3 rfl) ?_
            refine lv_iconst (v := 3) hx hb dX5_lie_45 (by decide) ?_
            refine lv_icmp_ne (tgt := 65) hx hb dX5_lie_46 (by decide) (fun c_46 => ?_) (fun c_46 => ?_)
            · replace hM := ob_neg c_46 hM
              refine lv_iload_n hx hb dX5_lie_65 rfl (lv_at hl 3 rfl) ?_
              refine lv_iconst (v := 4) hx hb dX5_lie_66 (by decide) ?_
              refine lv_icmp_ne (tgt := 87) hx hb dX5_lie_67 (by decide) (fun c_67 => ?_) (fun c_67 => ?_)
              · replace hM := ob_neg c_67 hM
                refine lv_aload_n hx hb dX5_lie_87 rfl (lv_at hl 2 rfl) ?_
                refine lv_iload_n hx hb dX5_lie_88 rfl (lv_at hl 0 rfl) ?_
                refine lv_iload_n hx hb dX5_lie_89 rfl (lv_at hl 3 rfl) ?_
                obtain ⟨q90, hv90, hM⟩ := ob_bind hM
                refine vp_callSi (va_Run.run (va_runV (As := [.int v3_16, .int p1]) (rest := []) ⟨hx, hb, hml, hown, hts⟩ (c_X5_lies l dC dI cI cZ cJ cW m_a m_ds_a m_cs_a m_tx_a m_ia_a m_im_a m_ik_a m_sz m_kn m_sg m_fa m_ds m_cs m_tx m_ia m_im m_ik v3_16 p1 q90 hv90) (cwV 2 hts gX5_lie_X5_lies rfl rfl rfl (by decide +kernel) ⟨Nat.le_of_ble_eq_true rfl, Nat.le_of_ble_eq_true rfl⟩) ⟨RP.blind, va_recv hK hP (ci := 5) (q0 := 0) rfl rfl, fun U hU hW => ⟨rfl, by rw [hU]; exact hP.sub (ws' := [(m_a, .inr (5, [.int m_sz, .ref m_ds_a, .ref m_cs_a, .int m_kn, .ref m_tx_a, .int m_sg, .int m_fa, .ref m_ia_a, .ref m_im_a, .ref m_ik_a])), (m_ds_a, .inl (cI, 14, .inl m_ds)), (m_cs_a, .inl (cI, 14, .inl m_cs)), (m_tx_a, .inl (cI, 20, .inl m_tx)), (m_ia_a, .inl (cZ, 16384, .inl m_ia)), (m_im_a, .inl (cI, 60, .inl m_im)), (m_ik_a, .inl (cZ, 2, .inl m_ik))]) [0, 1, 2, 3, 4, 5, 6] rfl, va_K.moved hW.alike hK, hN.warm hW⟩⟩ rfl rfl hl.1 rfl (lv_room (Nat.le_of_ble_eq_true rfl)) dX5_lie_90 ⟨Nat.le_of_ble_eq_true rfl, Nat.le_of_ble_eq_true rfl⟩)) (fun r hr => ?_)
                subst hr
                refine lv_istore (lv' := [(4, .int q90), (3, .int v3_16), (2, .int v2_16), (0, .ref m_a), (1, .int p1)]) hx hb dX5_lie_93 hl (by decide) rfl (fun ls hl => ?_)
                refine lv_iload_n hx hb dX5_lie_95 rfl (lv_at hl 2 rfl) ?_
                refine lv_iload hx hb dX5_lie_96 (lv_at hl 0 rfl) ?_
                refine lv_if_eq (tgt := 107) hx hb dX5_lie_98 (by decide) (fun c_98 => ?_) (fun c_98 => ?_)
                · replace hM := ob_pos c_98 hM
                  refine lv_iconst (v := 0) hx hb dX5_lie_107 (by decide) ?_
                  refine lv_ior hx hb dX5_lie_108 ?_
                  refine lv_istore_n (lv' := [(2, .int (v2_16 ||| 0)), (4, .int q90), (3, .int v3_16), (0, .ref m_a), (1, .int p1)]) hx hb dX5_lie_109 rfl hl (by decide) rfl (fun ls hl => ?_)
                  refine lv_iinc (v := (v3_16 + 1)) (lv' := [(3, .int (v3_16 + 1)), (2, .int (v2_16 ||| 0)), (4, .int q90), (0, .ref m_a), (1, .int p1)]) hx hb dX5_lie_110 hl (k := 2) rfl (by rfl) (by decide) rfl (fun ls hl => ?_)
                  refine lv_goto (tgt := 16) hx hb dX5_lie_113 (by decide) ?_
                  exact ih16 (v3_16 + 1) (v2_16 ||| 0) _ hM (lv_sub hl [0, 1, 3, 4] rfl)
                · replace hM := ob_neg c_98 hM
                  refine lv_iconst (v := 1) hx hb dX5_lie_101 (by decide) ?_
                  refine lv_iload_n hx hb dX5_lie_102 rfl (lv_at hl 1 rfl) ?_
                  refine lv_ishl hx hb dX5_lie_103 ?_
                  refine lv_goto (tgt := 108) hx hb dX5_lie_104 (by decide) ?_
                  refine lv_ior hx hb dX5_lie_108 ?_
                  refine lv_istore_n (lv' := [(2, .int (v2_16 ||| ((1 : Int32) <<< (v3_16 &&& 31)))), (4, .int q90), (3, .int v3_16), (0, .ref m_a), (1, .int p1)]) hx hb dX5_lie_109 rfl hl (by decide) rfl (fun ls hl => ?_)
                  refine lv_iinc (v := (v3_16 + 1)) (lv' := [(3, .int (v3_16 + 1)), (2, .int (v2_16 ||| ((1 : Int32) <<< (v3_16 &&& 31)))), (4, .int q90), (0, .ref m_a), (1, .int p1)]) hx hb dX5_lie_110 hl (k := 2) rfl (by rfl) (by decide) rfl (fun ls hl => ?_)
                  refine lv_goto (tgt := 16) hx hb dX5_lie_113 (by decide) ?_
                  exact ih16 (v3_16 + 1) (v2_16 ||| ((1 : Int32) <<< (v3_16 &&& 31))) _ hM (lv_sub hl [0, 1, 3, 4] rfl)
              · replace hM := ob_pos c_67 hM
                refine lv_aload_n hx hb dX5_lie_70 rfl (lv_at hl 2 rfl) ?_
                refine va_get (D := (dC, dI)) (ci := 5) (v := .ref m_ds_a) (C := RX5) (T := TX5) (N := 10) hx hb hts in_X5_lie_5 hown hK hP 0 rfl rfl 1 (by decide) hf13 (fun _ h9 => h9) rfl dX5_lie_71 ?_
                refine lv_iload_n hx hb dX5_lie_74 rfl (lv_at hl 0 rfl) ?_
                obtain ⟨h_75, hM⟩ := ob_get hM
                refine va_iald hx hb hK hP 1 0 rfl rfl h_75 dX5_lie_75 ?_
                refine lv_if_ge (tgt := 83) hx hb dX5_lie_76 (by decide) (fun c_76 => ?_) (fun c_76 => ?_)
                · replace hM := ob_pos c_76 hM
                  refine lv_iconst (v := 0) hx hb dX5_lie_83 (by decide) ?_
                  refine lv_goto (tgt := 93) hx hb dX5_lie_84 (by decide) ?_
                  refine lv_istore (lv' := [(4, .int 0), (3, .int v3_16), (2, .int v2_16), (0, .ref m_a), (1, .int p1)]) hx hb dX5_lie_93 hl (by decide) rfl (fun ls hl => ?_)
                  refine lv_iload_n hx hb dX5_lie_95 rfl (lv_at hl 2 rfl) ?_
                  refine lv_iload hx hb dX5_lie_96 (lv_at hl 0 rfl) ?_
                  refine lv_if_eq (tgt := 107) hx hb dX5_lie_98 (by decide) (fun _ => ?_) (fun c_98 => absurd (show _ from by decide) c_98)
                  refine lv_iconst (v := 0) hx hb dX5_lie_107 (by decide) ?_
                  refine lv_ior hx hb dX5_lie_108 ?_
                  refine lv_istore_n (lv' := [(2, .int (v2_16 ||| 0)), (4, .int 0), (3, .int v3_16), (0, .ref m_a), (1, .int p1)]) hx hb dX5_lie_109 rfl hl (by decide) rfl (fun ls hl => ?_)
                  refine lv_iinc (v := (v3_16 + 1)) (lv' := [(3, .int (v3_16 + 1)), (2, .int (v2_16 ||| 0)), (4, .int 0), (0, .ref m_a), (1, .int p1)]) hx hb dX5_lie_110 hl (k := 2) rfl (by rfl) (by decide) rfl (fun ls hl => ?_)
                  refine lv_goto (tgt := 16) hx hb dX5_lie_113 (by decide) ?_
                  exact ih16 (v3_16 + 1) (v2_16 ||| 0) _ hM (lv_sub hl [0, 1, 3, 4] rfl)
                · replace hM := ob_neg c_76 hM
                  refine lv_iconst (v := 1) hx hb dX5_lie_79 (by decide) ?_
                  refine lv_goto (tgt := 93) hx hb dX5_lie_80 (by decide) ?_
                  refine lv_istore (lv' := [(4, .int 1), (3, .int v3_16), (2, .int v2_16), (0, .ref m_a), (1, .int p1)]) hx hb dX5_lie_93 hl (by decide) rfl (fun ls hl => ?_)
                  refine lv_iload_n hx hb dX5_lie_95 rfl (lv_at hl 2 rfl) ?_
                  refine lv_iload hx hb dX5_lie_96 (lv_at hl 0 rfl) ?_
                  refine lv_if_eq (tgt := 107) hx hb dX5_lie_98 (by decide) (fun c_98 => absurd c_98 (by decide)) (fun _ => ?_)
                  refine lv_iconst (v := 1) hx hb dX5_lie_101 (by decide) ?_
                  refine lv_iload_n hx hb dX5_lie_102 rfl (lv_at hl 1 rfl) ?_
                  refine lv_ishl hx hb dX5_lie_103 ?_
                  refine lv_goto (tgt := 108) hx hb dX5_lie_104 (by decide) ?_
                  refine lv_ior hx hb dX5_lie_108 ?_
                  refine lv_istore_n (lv' := [(2, .int (v2_16 ||| ((1 : Int32) <<< (v3_16 &&& 31)))), (4, .int 1), (3, .int v3_16), (0, .ref m_a), (1, .int p1)]) hx hb dX5_lie_109 rfl hl (by decide) rfl (fun ls hl => ?_)
                  refine lv_iinc (v := (v3_16 + 1)) (lv' := [(3, .int (v3_16 + 1)), (2, .int (v2_16 ||| ((1 : Int32) <<< (v3_16 &&& 31)))), (4, .int 1), (0, .ref m_a), (1, .int p1)]) hx hb dX5_lie_110 hl (k := 2) rfl (by rfl) (by decide) rfl (fun ls hl => ?_)
                  refine lv_goto (tgt := 16) hx hb dX5_lie_113 (by decide) ?_
                  exact ih16 (v3_16 + 1) (v2_16 ||| ((1 : Int32) <<< (v3_16 &&& 31))) _ hM (lv_sub hl [0, 1, 3, 4] rfl)
            · replace hM := ob_pos c_46 hM
              refine lv_aload_n hx hb dX5_lie_49 rfl (lv_at hl 2 rfl) ?_
              refine lv_iload_n hx hb dX5_lie_50 rfl (lv_at hl 0 rfl) ?_
              obtain ⟨q51, hv51, hM⟩ := ob_bind hM
              refine vp_callSi (va_Run.run (va_runV (As := [.int v3_16]) (rest := []) ⟨hx, hb, hml, hown, hts⟩ (c_X5_usersOf l dC dI cI cZ cJ cW m_a m_ds_a m_cs_a m_tx_a m_ia_a m_im_a m_ik_a m_sz m_kn m_sg m_fa m_ds m_cs m_tx m_ia m_im m_ik v3_16 q51 hv51) (cwV 1 hts gX5_lie_X5_usersOf rfl rfl rfl (by decide +kernel) ⟨Nat.le_of_ble_eq_true rfl, Nat.le_of_ble_eq_true rfl⟩) ⟨RP.blind, va_recv hK hP (ci := 5) (q0 := 0) rfl rfl, fun U hU hW => ⟨rfl, by rw [hU]; exact hP.sub (ws' := [(m_a, .inr (5, [.int m_sz, .ref m_ds_a, .ref m_cs_a, .int m_kn, .ref m_tx_a, .int m_sg, .int m_fa, .ref m_ia_a, .ref m_im_a, .ref m_ik_a])), (m_ds_a, .inl (cI, 14, .inl m_ds)), (m_cs_a, .inl (cI, 14, .inl m_cs)), (m_tx_a, .inl (cI, 20, .inl m_tx)), (m_ia_a, .inl (cZ, 16384, .inl m_ia)), (m_im_a, .inl (cI, 60, .inl m_im)), (m_ik_a, .inl (cZ, 2, .inl m_ik))]) [0, 1, 2, 3, 4, 5, 6] rfl, va_K.moved hW.alike hK, hN.warm hW⟩⟩ rfl rfl hl.1 rfl (lv_room (Nat.le_of_ble_eq_true rfl)) dX5_lie_51 ⟨Nat.le_of_ble_eq_true rfl, Nat.le_of_ble_eq_true rfl⟩)) (fun r hr => ?_)
              subst hr
              refine lv_if_ne (tgt := 61) hx hb dX5_lie_54 (by decide) (fun c_54 => ?_) (fun c_54 => ?_)
              · replace hM := ob_neg c_54 hM
                refine lv_iconst (v := 0) hx hb dX5_lie_61 (by decide) ?_
                refine lv_goto (tgt := 93) hx hb dX5_lie_62 (by decide) ?_
                refine lv_istore (lv' := [(4, .int 0), (3, .int v3_16), (2, .int v2_16), (0, .ref m_a), (1, .int p1)]) hx hb dX5_lie_93 hl (by decide) rfl (fun ls hl => ?_)
                refine lv_iload_n hx hb dX5_lie_95 rfl (lv_at hl 2 rfl) ?_
                refine lv_iload hx hb dX5_lie_96 (lv_at hl 0 rfl) ?_
                refine lv_if_eq (tgt := 107) hx hb dX5_lie_98 (by decide) (fun _ => ?_) (fun c_98 => absurd (show _ from by decide) c_98)
                refine lv_iconst (v := 0) hx hb dX5_lie_107 (by decide) ?_
                refine lv_ior hx hb dX5_lie_108 ?_
                refine lv_istore_n (lv' := [(2, .int (v2_16 ||| 0)), (4, .int 0), (3, .int v3_16), (0, .ref m_a), (1, .int p1)]) hx hb dX5_lie_109 rfl hl (by decide) rfl (fun ls hl => ?_)
                refine lv_iinc (v := (v3_16 + 1)) (lv' := [(3, .int (v3_16 + 1)), (2, .int (v2_16 ||| 0)), (4, .int 0), (0, .ref m_a), (1, .int p1)]) hx hb dX5_lie_110 hl (k := 2) rfl (by rfl) (by decide) rfl (fun ls hl => ?_)
                refine lv_goto (tgt := 16) hx hb dX5_lie_113 (by decide) ?_
                exact ih16 (v3_16 + 1) (v2_16 ||| 0) _ hM (lv_sub hl [0, 1, 3, 4] rfl)
              · replace hM := ob_pos c_54 hM
                refine lv_iconst (v := 1) hx hb dX5_lie_57 (by decide) ?_
                refine lv_goto (tgt := 93) hx hb dX5_lie_58 (by decide) ?_
                refine lv_istore (lv' := [(4, .int 1), (3, .int v3_16), (2, .int v2_16), (0, .ref m_a), (1, .int p1)]) hx hb dX5_lie_93 hl (by decide) rfl (fun ls hl => ?_)
                refine lv_iload_n hx hb dX5_lie_95 rfl (lv_at hl 2 rfl) ?_
                refine lv_iload hx hb dX5_lie_96 (lv_at hl 0 rfl) ?_
                refine lv_if_eq (tgt := 107) hx hb dX5_lie_98 (by decide) (fun c_98 => absurd c_98 (by decide)) (fun _ => ?_)
                refine lv_iconst (v := 1) hx hb dX5_lie_101 (by decide) ?_
                refine lv_iload_n hx hb dX5_lie_102 rfl (lv_at hl 1 rfl) ?_
                refine lv_ishl hx hb dX5_lie_103 ?_
                refine lv_goto (tgt := 108) hx hb dX5_lie_104 (by decide) ?_
                refine lv_ior hx hb dX5_lie_108 ?_
                refine lv_istore_n (lv' := [(2, .int (v2_16 ||| ((1 : Int32) <<< (v3_16 &&& 31)))), (4, .int 1), (3, .int v3_16), (0, .ref m_a), (1, .int p1)]) hx hb dX5_lie_109 rfl hl (by decide) rfl (fun ls hl => ?_)
                refine lv_iinc (v := (v3_16 + 1)) (lv' := [(3, .int (v3_16 + 1)), (2, .int (v2_16 ||| ((1 : Int32) <<< (v3_16 &&& 31)))), (4, .int 1), (0, .ref m_a), (1, .int p1)]) hx hb dX5_lie_110 hl (k := 2) rfl (by rfl) (by decide) rfl (fun ls hl => ?_)
                refine lv_goto (tgt := 16) hx hb dX5_lie_113 (by decide) ?_
                exact ih16 (v3_16 + 1) (v2_16 ||| ((1 : Int32) <<< (v3_16 &&& 31))) _ hM (lv_sub hl [0, 1, 3, 4] rfl)
          · replace hM := ob_pos c_25 hM
            refine lv_aload_n hx hb dX5_lie_28 rfl (lv_at hl 2 rfl) ?_
            refine lv_iload_n hx hb dX5_lie_29 rfl (lv_at hl 0 rfl) ?_
            obtain ⟨q30, hv30, hM⟩ := ob_bind hM
            refine vp_callSi (va_Run.run (va_runV (As := [.int v3_16]) (rest := []) ⟨hx, hb, hml, hown, hts⟩ (c_X5_ringOf l dC dI cI cZ cJ cW m_a m_ds_a m_cs_a m_tx_a m_ia_a m_im_a m_ik_a m_sz m_kn m_sg m_fa m_ds m_cs m_tx m_ia m_im m_ik v3_16 q30 hv30) (cwV 1 hts gX5_lie_X5_ringOf rfl rfl rfl (by decide +kernel) ⟨Nat.le_of_ble_eq_true rfl, Nat.le_of_ble_eq_true rfl⟩) ⟨RP.blind, va_recv hK hP (ci := 5) (q0 := 0) rfl rfl, fun U hU hW => ⟨rfl, by rw [hU]; exact hP.sub (ws' := [(m_a, .inr (5, [.int m_sz, .ref m_ds_a, .ref m_cs_a, .int m_kn, .ref m_tx_a, .int m_sg, .int m_fa, .ref m_ia_a, .ref m_im_a, .ref m_ik_a])), (m_ds_a, .inl (cI, 14, .inl m_ds)), (m_cs_a, .inl (cI, 14, .inl m_cs)), (m_tx_a, .inl (cI, 20, .inl m_tx)), (m_ia_a, .inl (cZ, 16384, .inl m_ia)), (m_im_a, .inl (cI, 60, .inl m_im)), (m_ik_a, .inl (cZ, 2, .inl m_ik))]) [0, 1, 2, 3, 4, 5, 6] rfl, va_K.moved hW.alike hK, hN.warm hW⟩⟩ rfl rfl hl.1 rfl (lv_room (Nat.le_of_ble_eq_true rfl)) dX5_lie_30 ⟨Nat.le_of_ble_eq_true rfl, Nat.le_of_ble_eq_true rfl⟩)) (fun r hr => ?_)
            subst hr
            refine lv_if_eq (tgt := 40) hx hb dX5_lie_33 (by decide) (fun c_33 => ?_) (fun c_33 => ?_)
            · replace hM := ob_pos c_33 hM
              refine lv_iconst (v := 0) hx hb dX5_lie_40 (by decide) ?_
              refine lv_goto (tgt := 93) hx hb dX5_lie_41 (by decide) ?_
              refine lv_istore (lv' := [(4, .int 0), (3, .int v3_16), (2, .int v2_16), (0, .ref m_a), (1, .int p1)]) hx hb dX5_lie_93 hl (by decide) rfl (fun ls hl => ?_)
              refine lv_iload_n hx hb dX5_lie_95 rfl (lv_at hl 2 rfl) ?_
              refine lv_iload hx hb dX5_lie_96 (lv_at hl 0 rfl) ?_
              refine lv_if_eq (tgt := 107) hx hb dX5_lie_98 (by decide) (fun _ => ?_) (fun c_98 => absurd (show _ from by decide) c_98)
              refine lv_iconst (v := 0) hx hb dX5_lie_107 (by decide) ?_
              refine lv_ior hx hb dX5_lie_108 ?_
              refine lv_istore_n (lv' := [(2, .int (v2_16 ||| 0)), (4, .int 0), (3, .int v3_16), (0, .ref m_a), (1, .int p1)]) hx hb dX5_lie_109 rfl hl (by decide) rfl (fun ls hl => ?_)
              refine lv_iinc (v := (v3_16 + 1)) (lv' := [(3, .int (v3_16 + 1)), (2, .int (v2_16 ||| 0)), (4, .int 0), (0, .ref m_a), (1, .int p1)]) hx hb dX5_lie_110 hl (k := 2) rfl (by rfl) (by decide) rfl (fun ls hl => ?_)
              refine lv_goto (tgt := 16) hx hb dX5_lie_113 (by decide) ?_
              exact ih16 (v3_16 + 1) (v2_16 ||| 0) _ hM (lv_sub hl [0, 1, 3, 4] rfl)
            · replace hM := ob_neg c_33 hM
              refine lv_iconst (v := 1) hx hb dX5_lie_36 (by decide) ?_
              refine lv_goto (tgt := 93) hx hb dX5_lie_37 (by decide) ?_
              refine lv_istore (lv' := [(4, .int 1), (3, .int v3_16), (2, .int v2_16), (0, .ref m_a), (1, .int p1)]) hx hb dX5_lie_93 hl (by decide) rfl (fun ls hl => ?_)
              refine lv_iload_n hx hb dX5_lie_95 rfl (lv_at hl 2 rfl) ?_
              refine lv_iload hx hb dX5_lie_96 (lv_at hl 0 rfl) ?_
              refine lv_if_eq (tgt := 107) hx hb dX5_lie_98 (by decide) (fun c_98 => absurd c_98 (by decide)) (fun _ => ?_)
              refine lv_iconst (v := 1) hx hb dX5_lie_101 (by decide) ?_
              refine lv_iload_n hx hb dX5_lie_102 rfl (lv_at hl 1 rfl) ?_
              refine lv_ishl hx hb dX5_lie_103 ?_
              refine lv_goto (tgt := 108) hx hb dX5_lie_104 (by decide) ?_
              refine lv_ior hx hb dX5_lie_108 ?_
              refine lv_istore_n (lv' := [(2, .int (v2_16 ||| ((1 : Int32) <<< (v3_16 &&& 31)))), (4, .int 1), (3, .int v3_16), (0, .ref m_a), (1, .int p1)]) hx hb dX5_lie_109 rfl hl (by decide) rfl (fun ls hl => ?_)
              refine lv_iinc (v := (v3_16 + 1)) (lv' := [(3, .int (v3_16 + 1)), (2, .int (v2_16 ||| ((1 : Int32) <<< (v3_16 &&& 31)))), (4, .int 1), (0, .ref m_a), (1, .int p1)]) hx hb dX5_lie_110 hl (k := 2) rfl (by rfl) (by decide) rfl (fun ls hl => ?_)
              refine lv_goto (tgt := 16) hx hb dX5_lie_113 (by decide) ?_
              exact ih16 (v3_16 + 1) (v2_16 ||| ((1 : Int32) <<< (v3_16 &&& 31))) _ hM (lv_sub hl [0, 1, 3, 4] rfl)
    exact hL16 40 0 0 _ hM (lv_sub hl [0, 1, 2, 3] rfl)
  · replace hM := ob_pos c_6 hM
    refine lv_bipush (v := (-2)) hx hb dX5_lie_9 (by decide) ?_
    exact W.iret (v := (-2)) hx hb hr (fun t ht hW => ⟨_, rfl, (Option.some.inj hM).symm, ht⟩) (fun _ h => by cases h) dX5_lie_11
/-! X5_image -/
abbrev rm_X5_image : Room := { frames := 1, cells := 0, slots := 0, locals := 22 }
theorem in_X5_image_5 : ∀ w ∈ u_ws RX5 TX5 10, w ∈ wsX5_image := by decide +kernel
set_option maxHeartbeats 4000000 in
set_option maxRecDepth 100000 in
theorem c_X5_image (l : Launch) (dC : Nat → ClassId) (dI : Nat → Nat → Nat) (cI cZ cJ cW : ClassId) (sz : Nat) (m_a m_ds_a m_cs_a m_tx_a m_ia_a m_im_a m_ik_a : Nat) (m_sz : Int32) (m_kn : Int32) (m_sg : Int32) (m_fa : Int32) (m_ds : Nat → Int32) (m_cs : Nat → Int32) (m_tx : Nat → Int32) (m_ia : Nat → Int32) (m_im : Nat → Int32) (m_ik : Nat → Int32) (p1 : Int32) (R : Int32 × (Nat → Int32) × (Nat → Int32)) (hM : M_X5_image p1 m_sz m_ds m_cs m_kn m_im m_ik = some R) : Met l yX5_image wsX5_image rm_X5_image (va_Pc [.ref m_a, .int p1] (MP (dC, dI) cI cZ cJ cW sz [(m_a, .inr (5, [.int m_sz, .ref m_ds_a, .ref m_cs_a, .int m_kn, .ref m_tx_a, .int m_sg, .int m_fa, .ref m_ia_a, .ref m_im_a, .ref m_ik_a])), (m_ds_a, .inl (cI, 14, .inl m_ds)), (m_cs_a, .inl (cI, 14, .inl m_cs)), (m_tx_a, .inl (cI, 20, .inl m_tx)), (m_ia_a, .inl (cZ, 16384, .inl m_ia)), (m_im_a, .inl (cI, 60, .inl m_im)), (m_ik_a, .inl (cZ, 2, .inl m_ik))])) (va_Qi (fun (r : Int32) (_ : Unit) => R.1 = r) (PB (dC, dI) (va_A [(m_a, .inr (5, [.int m_sz, .ref m_ds_a, .ref m_cs_a, .int m_kn, .ref m_tx_a, .int m_sg, .int m_fa, .ref m_ia_a, .ref m_im_a, .ref m_ik_a])), (m_ds_a, .inl (cI, 14, .inl m_ds)), (m_cs_a, .inl (cI, 14, .inl m_cs)), (m_tx_a, .inl (cI, 20, .inl m_tx)), (m_ia_a, .inl (cZ, 16384, .inl m_ia)), (m_im_a, .inl (cI, 60, .inl m_im)), (m_ik_a, .inl (cZ, 2, .inl m_ik))] sz) [(m_a, .inr (5, [.int m_sz, .ref m_ds_a, .ref m_cs_a, .int m_kn, .ref m_tx_a, .int m_sg, .int m_fa, .ref m_ia_a, .ref m_im_a, .ref m_ik_a])), (m_ds_a, .inl (cI, 14, .inl m_ds)), (m_cs_a, .inl (cI, 14, .inl m_cs)), (m_tx_a, .inl (cI, 20, .inl m_tx)), (m_ia_a, .inl (cZ, 16384, .inl m_ia)), (m_im_a, .inl (cI, 60, .inl R.2.1)), (m_ik_a, .inl (cZ, 2, .inl R.2.2))]) (va_A [(m_a, .inr (5, [.int m_sz, .ref m_ds_a, .ref m_cs_a, .int m_kn, .ref m_tx_a, .int m_sg, .int m_fa, .ref m_ia_a, .ref m_im_a, .ref m_ik_a])), (m_ds_a, .inl (cI, 14, .inl m_ds)), (m_cs_a, .inl (cI, 14, .inl m_cs)), (m_tx_a, .inl (cI, 20, .inl m_tx)), (m_ia_a, .inl (cZ, 16384, .inl m_ia)), (m_im_a, .inl (cI, 60, .inl m_im)), (m_ik_a, .inl (cZ, 2, .inl m_ik))] sz)) 0 0 (va_A [(m_a, .inr (5, [.int m_sz, .ref m_ds_a, .ref m_cs_a, .int m_kn, .ref m_tx_a, .int m_sg, .int m_fa, .ref m_ia_a, .ref m_im_a, .ref m_ik_a])), (m_ds_a, .inl (cI, 14, .inl m_ds)), (m_cs_a, .inl (cI, 14, .inl m_cs)), (m_tx_a, .inl (cI, 20, .inl m_tx)), (m_ia_a, .inl (cZ, 16384, .inl m_ia)), (m_im_a, .inl (cI, 60, .inl m_im)), (m_ik_a, .inl (cZ, 2, .inl m_ik))] sz) := by
  refine Met.ofW (cc := cX5_image) (maxL := 3) (ret := (some .int)) (by decide) rfl ?_
  intro p e s m args below meth c s₁ B hml hv
  obtain ⟨rfl, hsz, hP, hK, hN, hD0⟩ := hv
  have hx := B.exec
  have hb := B.bytes
  have hr := B.returns
  have hts := atoms_spec (ws := wsX5_image) B.pre
  have hown : s.vm.findClass RX5 = some m.cls := findClass_of_methodNamed B.named
  have hlocks := B.notSynchronized
  subst hsz
  have hD := hD0.self (sz := s.heap.size)
  generalize hAe : va_A [(m_a, .inr (5, [.int m_sz, .ref m_ds_a, .ref m_cs_a, .int m_kn, .ref m_tx_a, .int m_sg, .int m_fa, .ref m_ia_a, .ref m_im_a, .ref m_ik_a])), (m_ds_a, .inl (cI, 14, .inl m_ds)), (m_cs_a, .inl (cI, 14, .inl m_cs)), (m_tx_a, .inl (cI, 20, .inl m_tx)), (m_ia_a, .inl (cZ, 16384, .inl m_ia)), (m_im_a, .inl (cI, 60, .inl m_im)), (m_ik_a, .inl (cZ, 2, .inl m_ik))] s.heap.size = A at hD ⊢
  have hA : ∀ q : Nat, s.heap.size ≤ q → A q := fun q h => by rw [← hAe]; exact Or.inr h
  have hS : va_S A s.heap s.heap [] := va_S.rf
  have hf7 := hts (.fieldLink RX5 7 "WordGroundsModel" "size" "I") (by decide +kernel)
  have hf13 := hts (.fieldLink RX5 13 "WordGroundsModel" "definitions" "[I") (by decide +kernel)
  have hf17 := hts (.fieldLink RX5 17 "WordGroundsModel" "costs" "[I") (by decide +kernel)
  have hf30 := hts (.fieldLink RX5 30 "WordGroundsModel" "image" "[I") (by decide +kernel)
  have hf33 := hts (.fieldLink RX5 33 "WordGroundsModel" "isKept" "[Z") (by decide +kernel)
  have hf44 := hts (.fieldLink RX5 44 "WordGroundsModel" "known" "I") (by decide +kernel)
  have hl := lv_entry ([.ref m_a, .int p1]) (n := 3) (Nat.le_of_ble_eq_true rfl)
  rw [lg_entry_eq]
  generalize (lg_sl ([.ref m_a, .int p1]) ++ List.replicate (3 - (lg_sl ([.ref m_a, .int p1])).length) Slot.unset).toArray = ls at hl ⊢
  have hl : lv_has ls 3 [(0, .ref m_a), (1, .int p1)] := hl
  have hP : va_P (dC, dI) vwCl [(m_a, .inr (5, [.int m_sz, .ref m_ds_a, .ref m_cs_a, .int m_kn, .ref m_tx_a, .int m_sg, .int m_fa, .ref m_ia_a, .ref m_im_a, .ref m_ik_a])), (m_ds_a, .inl (cI, 14, .inl m_ds)), (m_cs_a, .inl (cI, 14, .inl m_cs)), (m_tx_a, .inl (cI, 20, .inl m_tx)), (m_ia_a, .inl (cZ, 16384, .inl m_ia)), (m_im_a, .inl (cI, 60, .inl m_im)), (m_ik_a, .inl (cZ, 2, .inl m_ik))] s.heap := hP
  have hM : ((M_X5_in p1 0 1).bind (fun q3 => if q3 = 0 then (some ((-2), m_im, m_ik)) else (if (30 * p1) < 0 ∨ 60 ≤ ((30 * p1)).toNatClampNeg then none else (if ((30 * p1) + 1) < 0 ∨ 60 ≤ (((30 * p1) + 1)).toNatClampNeg then none else (L_X5_image_42 p1 m_ds m_cs (fun (v2_42 : Int32) (m_im_42 : Nat → Int32) => if p1 < 0 ∨ 2 ≤ (p1).toNatClampNeg then none else (some (1, m_im_42, (upd m_ik (p1).toNatClampNeg (vp_nar .boolean 1))))) 40 0 (upd (upd m_im ((30 * p1)).toNatClampNeg m_sz) (((30 * p1) + 1)).toNatClampNeg m_kn)))))) = some R := hM
  refine lv_iload_n hx hb dX5_image_0 rfl (lv_at hl 1 rfl) ?_
  refine lv_iconst (v := 0) hx hb dX5_image_1 (by decide) ?_
  refine lv_iconst (v := 1) hx hb dX5_image_2 (by decide) ?_
  obtain ⟨q3, hv3, hM⟩ := ob_bind hM
  refine vp_callSi (va_Run.run (va_runS (As := [.int p1, .int 0, .int 1]) (rest := []) ⟨hx, hb, hml, hown, hts⟩ (c_X5_in l dC dI cI cZ cJ cW p1 0 1 q3 hv3) (va_cwS 3 hts gX5_image_X5_in rfl rfl rfl (by decide +kernel) ⟨Nat.le_of_ble_eq_true rfl, Nat.le_of_ble_eq_true rfl⟩) ⟨TP.blind, fun U hU hW => ⟨rfl, trivial⟩⟩ rfl rfl hl.1 rfl (lv_room (Nat.le_of_ble_eq_true rfl)) dX5_image_3 ⟨Nat.le_of_ble_eq_true rfl, Nat.le_of_ble_eq_true rfl⟩)) (fun r hr => ?_)
  subst hr
  refine lv_if_ne (tgt := 12) hx hb dX5_image_6 (by decide) (fun c_6 => ?_) (fun c_6 => ?_)
  · replace hM := ob_neg c_6 hM
    refine lv_aload_n hx hb dX5_image_12 rfl (lv_at hl 0 rfl) ?_
    refine va_get (D := (dC, dI)) (ci := 5) (v := .ref m_im_a) (C := RX5) (T := TX5) (N := 10) hx hb hts in_X5_image_5 hown hK hP 0 rfl rfl 8 (by decide) hf30 (fun _ h9 => h9) rfl dX5_image_13 ?_
    refine lv_bipush (v := 30) hx hb dX5_image_16 (by decide) ?_
    refine lv_iload_n hx hb dX5_image_18 rfl (lv_at hl 1 rfl) ?_
    refine lv_imul hx hb dX5_image_19 ?_
    refine lv_aload_n hx hb dX5_image_20 rfl (lv_at hl 0 rfl) ?_
    refine va_get (D := (dC, dI)) (ci := 5) (v := .int m_sz) (C := RX5) (T := TX5) (N := 10) hx hb hts in_X5_image_5 hown hK hP 0 rfl rfl 0 (by decide) hf7 (fun _ h9 => h9) rfl dX5_image_21 ?_
    obtain ⟨h_24, hM⟩ := ob_get hM
    refine va_iast hx hb hK hP hD hS 5 0 rfl rfl h_24 dX5_image_24 (fun H locs hP hD hS => ?_)
    have hP : va_P (dC, dI) vwCl [(m_a, .inr (5, [.int m_sz, .ref m_ds_a, .ref m_cs_a, .int m_kn, .ref m_tx_a, .int m_sg, .int m_fa, .ref m_ia_a, .ref m_im_a, .ref m_ik_a])), (m_ds_a, .inl (cI, 14, .inl m_ds)), (m_cs_a, .inl (cI, 14, .inl m_cs)), (m_tx_a, .inl (cI, 20, .inl m_tx)), (m_ia_a, .inl (cZ, 16384, .inl m_ia)), (m_im_a, .inl (cI, 60, .inl (upd m_im ((30 * p1)).toNatClampNeg m_sz))), (m_ik_a, .inl (cZ, 2, .inl m_ik))] H := hP
    have hD : va_D A [(m_a, .inr (5, [.int m_sz, .ref m_ds_a, .ref m_cs_a, .int m_kn, .ref m_tx_a, .int m_sg, .int m_fa, .ref m_ia_a, .ref m_im_a, .ref m_ik_a])), (m_ds_a, .inl (cI, 14, .inl m_ds)), (m_cs_a, .inl (cI, 14, .inl m_cs)), (m_tx_a, .inl (cI, 20, .inl m_tx)), (m_ia_a, .inl (cZ, 16384, .inl m_ia)), (m_im_a, .inl (cI, 60, .inl (upd m_im ((30 * p1)).toNatClampNeg m_sz))), (m_ik_a, .inl (cZ, 2, .inl m_ik))] := hD
    refine lv_aload_n hx hb dX5_image_25 rfl (lv_at hl 0 rfl) ?_
    refine va_get (D := (dC, dI)) (ci := 5) (v := .ref m_im_a) (C := RX5) (T := TX5) (N := 10) hx hb hts in_X5_image_5 hown hK hP 0 rfl rfl 8 (by decide) hf30 (fun _ h9 => h9) rfl dX5_image_26 ?_
    refine lv_bipush (v := 30) hx hb dX5_image_29 (by decide) ?_
    refine lv_iload_n hx hb dX5_image_31 rfl (lv_at hl 1 rfl) ?_
    refine lv_imul hx hb dX5_image_32 ?_
    refine lv_iconst (v := 1) hx hb dX5_image_33 (by decide) ?_
    refine lv_iadd hx hb dX5_image_34 ?_
    refine lv_aload_n hx hb dX5_image_35 rfl (lv_at hl 0 rfl) ?_
    refine va_get (D := (dC, dI)) (ci := 5) (v := .int m_kn) (C := RX5) (T := TX5) (N := 10) hx hb hts in_X5_image_5 hown hK hP 0 rfl rfl 3 (by decide) hf44 (fun _ h9 => h9) rfl dX5_image_36 ?_
    obtain ⟨h_39, hM⟩ := ob_get hM
    refine va_iast hx hb hK hP hD hS 5 0 rfl rfl h_39 dX5_image_39 (fun H locs hP hD hS => ?_)
    have hP : va_P (dC, dI) vwCl [(m_a, .inr (5, [.int m_sz, .ref m_ds_a, .ref m_cs_a, .int m_kn, .ref m_tx_a, .int m_sg, .int m_fa, .ref m_ia_a, .ref m_im_a, .ref m_ik_a])), (m_ds_a, .inl (cI, 14, .inl m_ds)), (m_cs_a, .inl (cI, 14, .inl m_cs)), (m_tx_a, .inl (cI, 20, .inl m_tx)), (m_ia_a, .inl (cZ, 16384, .inl m_ia)), (m_im_a, .inl (cI, 60, .inl (upd (upd m_im ((30 * p1)).toNatClampNeg m_sz) (((30 * p1) + 1)).toNatClampNeg m_kn))), (m_ik_a, .inl (cZ, 2, .inl m_ik))] H := hP
    have hD : va_D A [(m_a, .inr (5, [.int m_sz, .ref m_ds_a, .ref m_cs_a, .int m_kn, .ref m_tx_a, .int m_sg, .int m_fa, .ref m_ia_a, .ref m_im_a, .ref m_ik_a])), (m_ds_a, .inl (cI, 14, .inl m_ds)), (m_cs_a, .inl (cI, 14, .inl m_cs)), (m_tx_a, .inl (cI, 20, .inl m_tx)), (m_ia_a, .inl (cZ, 16384, .inl m_ia)), (m_im_a, .inl (cI, 60, .inl (upd (upd m_im ((30 * p1)).toNatClampNeg m_sz) (((30 * p1) + 1)).toNatClampNeg m_kn))), (m_ik_a, .inl (cZ, 2, .inl m_ik))] := hD
    refine lv_iconst (v := 0) hx hb dX5_image_40 (by decide) ?_
    refine lv_istore_n (lv' := [(2, .int 0), (0, .ref m_a), (1, .int p1)]) hx hb dX5_image_41 rfl hl (by decide) rfl (fun ls hl => ?_)
    obtain ⟨K42, hK42⟩ : ∃ K : Int32 → (Nat → Int32) → Option (Int32 × (Nat → Int32) × (Nat → Int32)), K = (fun (v2_42 : Int32) (m_im_42 : Nat → Int32) => if p1 < 0 ∨ 2 ≤ (p1).toNatClampNeg then none else (some (1, m_im_42, (upd m_ik (p1).toNatClampNeg (vp_nar .boolean 1))))) := ⟨_, rfl⟩
    have hM : L_X5_image_42 p1 m_ds m_cs K42 40 0 (upd (upd m_im ((30 * p1)).toNatClampNeg m_sz) (((30 * p1) + 1)).toNatClampNeg m_kn) = some R := by rw [hK42]; exact hM
    have hL42 : ∀ (k42 : Nat) (v2_42 : Int32) (m_im_42 : Nat → Int32) (H : Heap) (locs : List Loc) (ls : Array Slot), L_X5_image_42 p1 m_ds m_cs K42 k42 v2_42 m_im_42 = some R → va_P (dC, dI) vwCl [(m_a, .inr (5, [.int m_sz, .ref m_ds_a, .ref m_cs_a, .int m_kn, .ref m_tx_a, .int m_sg, .int m_fa, .ref m_ia_a, .ref m_im_a, .ref m_ik_a])), (m_ds_a, .inl (cI, 14, .inl m_ds)), (m_cs_a, .inl (cI, 14, .inl m_cs)), (m_tx_a, .inl (cI, 20, .inl m_tx)), (m_ia_a, .inl (cZ, 16384, .inl m_ia)), (m_im_a, .inl (cI, 60, .inl m_im_42)), (m_ik_a, .inl (cZ, 2, .inl m_ik))] H → va_D A [(m_a, .inr (5, [.int m_sz, .ref m_ds_a, .ref m_cs_a, .int m_kn, .ref m_tx_a, .int m_sg, .int m_fa, .ref m_ia_a, .ref m_im_a, .ref m_ik_a])), (m_ds_a, .inl (cI, 14, .inl m_ds)), (m_cs_a, .inl (cI, 14, .inl m_cs)), (m_tx_a, .inl (cI, 20, .inl m_tx)), (m_ia_a, .inl (cZ, 16384, .inl m_ia)), (m_im_a, .inl (cI, 60, .inl m_im_42)), (m_ik_a, .inl (cZ, 2, .inl m_ik))] → va_S A s.heap H locs → lv_has ls 3 [(2, .int v2_42), (0, .ref m_a), (1, .int p1)] → W p l e rm_X5_image s m ([.ref m_a, .int p1] : List Value).toArray below meth c H locs 0 0 (MQ below (va_Qi (fun (r : Int32) (_ : Unit) => R.1 = r) (PB (dC, dI) A [(m_a, .inr (5, [.int m_sz, .ref m_ds_a, .ref m_cs_a, .int m_kn, .ref m_tx_a, .int m_sg, .int m_fa, .ref m_ia_a, .ref m_im_a, .ref m_ik_a])), (m_ds_a, .inl (cI, 14, .inl m_ds)), (m_cs_a, .inl (cI, 14, .inl m_cs)), (m_tx_a, .inl (cI, 20, .inl m_tx)), (m_ia_a, .inl (cZ, 16384, .inl m_ia)), (m_im_a, .inl (cI, 60, .inl R.2.1)), (m_ik_a, .inl (cZ, 2, .inl R.2.2))]) A) ([.ref m_a, .int p1] : List Value).toArray s 0 0 A) (F0 m 42 ls []) := by
      intro k42
      induction k42 with
      | zero => intro v2_42 m_im_42 H locs ls hM; exact (ob_none hM).elim
      | succ k42 ih42 =>
        intro v2_42 m_im_42 H locs ls hM hP hD hS hl
        have hM : (if 14 ≤ v2_42 then (K42 v2_42 m_im_42) else (if v2_42 < 0 ∨ 14 ≤ (v2_42).toNatClampNeg then none else (if (((30 * p1) + 2) + v2_42) < 0 ∨ 60 ≤ ((((30 * p1) + 2) + v2_42)).toNatClampNeg then none else (if v2_42 < 0 ∨ 14 ≤ (v2_42).toNatClampNeg then none else (if (((30 * p1) + 16) + v2_42) < 0 ∨ 60 ≤ ((((30 * p1) + 16) + v2_42)).toNatClampNeg then none else (L_X5_image_42 p1 m_ds m_cs K42 k42 (v2_42 + 1) (upd (upd m_im_42 ((((30 * p1) + 2) + v2_42)).toNatClampNeg (m_ds (v2_42).toNatClampNeg)) ((((30 * p1) + 16) + v2_42)).toNatClampNeg (m_cs (v2_42).toNatClampNeg)))))))) = some R := hM
        refine lv_iload_n hx hb dX5_image_42 rfl (lv_at hl 0 rfl) ?_
        refine lv_bipush (v := 14) hx hb dX5_image_43 (by decide) ?_
        refine lv_icmp_ge (tgt := 93) hx hb dX5_image_45 (by decide) (fun c_45 => ?_) (fun c_45 => ?_)
        · replace hM := ob_pos c_45 hM
          have hM : (if p1 < 0 ∨ 2 ≤ (p1).toNatClampNeg then none else (some (1, m_im_42, (upd m_ik (p1).toNatClampNeg (vp_nar .boolean 1))))) = some R := by rw [hK42] at hM; exact hM
          refine lv_aload_n hx hb dX5_image_93 rfl (lv_at hl 1 rfl) ?_
          refine va_get (D := (dC, dI)) (ci := 5) (v := .ref m_ik_a) (C := RX5) (T := TX5) (N := 10) hx hb hts in_X5_image_5 hown hK hP 0 rfl rfl 9 (by decide) hf33 (fun _ h9 => h9) rfl dX5_image_94 ?_
          refine lv_iload_n hx hb dX5_image_97 rfl (lv_at hl 2 rfl) ?_
          refine lv_iconst (v := 1) hx hb dX5_image_98 (by decide) ?_
          obtain ⟨h_99, hM⟩ := ob_get hM
          refine va_zast hx hb hK hP hD hS 6 1 rfl rfl h_99 dX5_image_99 (fun H locs hP hD hS => ?_)
          have hP : va_P (dC, dI) vwCl [(m_a, .inr (5, [.int m_sz, .ref m_ds_a, .ref m_cs_a, .int m_kn, .ref m_tx_a, .int m_sg, .int m_fa, .ref m_ia_a, .ref m_im_a, .ref m_ik_a])), (m_ds_a, .inl (cI, 14, .inl m_ds)), (m_cs_a, .inl (cI, 14, .inl m_cs)), (m_tx_a, .inl (cI, 20, .inl m_tx)), (m_ia_a, .inl (cZ, 16384, .inl m_ia)), (m_im_a, .inl (cI, 60, .inl m_im_42)), (m_ik_a, .inl (cZ, 2, .inl (upd m_ik (p1).toNatClampNeg (vp_nar .boolean 1))))] H := hP
          have hD : va_D A [(m_a, .inr (5, [.int m_sz, .ref m_ds_a, .ref m_cs_a, .int m_kn, .ref m_tx_a, .int m_sg, .int m_fa, .ref m_ia_a, .ref m_im_a, .ref m_ik_a])), (m_ds_a, .inl (cI, 14, .inl m_ds)), (m_cs_a, .inl (cI, 14, .inl m_cs)), (m_tx_a, .inl (cI, 20, .inl m_tx)), (m_ia_a, .inl (cZ, 16384, .inl m_ia)), (m_im_a, .inl (cI, 60, .inl m_im_42)), (m_ik_a, .inl (cZ, 2, .inl (upd m_ik (p1).toNatClampNeg (vp_nar .boolean 1))))] := hD
          refine lv_iconst (v := 1) hx hb dX5_image_100 (by decide) ?_
          obtain rfl := Option.some.inj hM
          have hP9 := hP.sub (ws' := [(m_a, .inr (5, [.int m_sz, .ref m_ds_a, .ref m_cs_a, .int m_kn, .ref m_tx_a, .int m_sg, .int m_fa, .ref m_ia_a, .ref m_im_a, .ref m_ik_a])), (m_ds_a, .inl (cI, 14, .inl m_ds)), (m_cs_a, .inl (cI, 14, .inl m_cs)), (m_tx_a, .inl (cI, 20, .inl m_tx)), (m_ia_a, .inl (cZ, 16384, .inl m_ia)), (m_im_a, .inl (cI, 60, .inl m_im_42)), (m_ik_a, .inl (cZ, 2, .inl (upd m_ik (p1).toNatClampNeg (vp_nar .boolean 1))))]) [0, 1, 2, 3, 4, 5, 6] rfl
          have hD9 := hD.sub (ws' := [(m_a, .inr (5, [.int m_sz, .ref m_ds_a, .ref m_cs_a, .int m_kn, .ref m_tx_a, .int m_sg, .int m_fa, .ref m_ia_a, .ref m_im_a, .ref m_ik_a])), (m_ds_a, .inl (cI, 14, .inl m_ds)), (m_cs_a, .inl (cI, 14, .inl m_cs)), (m_tx_a, .inl (cI, 20, .inl m_tx)), (m_ia_a, .inl (cZ, 16384, .inl m_ia)), (m_im_a, .inl (cI, 60, .inl m_im_42)), (m_ik_a, .inl (cZ, 2, .inl (upd m_ik (p1).toNatClampNeg (vp_nar .boolean 1))))]) [0, 1, 2, 3, 4, 5, 6] (by decide) rfl
          exact W.iret (v := 1) hx hb hr (fun t ht hW => ⟨⟨_, (), rfl, rfl, by rw [ht]; exact hP9, hD9⟩, hS.F ht⟩) hS.2.2 dX5_image_101
        · replace hM := ob_neg c_45 hM
          refine lv_aload_n hx hb dX5_image_48 rfl (lv_at hl 1 rfl) ?_
          refine va_get (D := (dC, dI)) (ci := 5) (v := .ref m_im_a) (C := RX5) (T := TX5) (N := 10) hx hb hts in_X5_image_5 hown hK hP 0 rfl rfl 8 (by decide) hf30 (fun _ h9 => h9) rfl dX5_image_49 ?_
          refine lv_bipush (v := 30) hx hb dX5_image_52 (by decide) ?_
          refine lv_iload_n hx hb dX5_image_54 rfl (lv_at hl 2 rfl) ?_
          refine lv_imul hx hb dX5_image_55 ?_
          refine lv_iconst (v := 2) hx hb dX5_image_56 (by decide) ?_
          refine lv_iadd hx hb dX5_image_57 ?_
          refine lv_iload_n hx hb dX5_image_58 rfl (lv_at hl 0 rfl) ?_
          refine lv_iadd hx hb dX5_image_59 ?_
          refine lv_aload_n hx hb dX5_image_60 rfl (lv_at hl 1 rfl) ?_
          refine va_get (D := (dC, dI)) (ci := 5) (v := .ref m_ds_a) (C := RX5) (T := TX5) (N := 10) hx hb hts in_X5_image_5 hown hK hP 0 rfl rfl 1 (by decide) hf13 (fun _ h9 => h9) rfl dX5_image_61 ?_
          refine lv_iload_n hx hb dX5_image_64 rfl (lv_at hl 0 rfl) ?_
          obtain ⟨h_65, hM⟩ := ob_get hM
          refine va_iald hx hb hK hP 1 0 rfl rfl h_65 dX5_image_65 ?_
          obtain ⟨h_66, hM⟩ := ob_get hM
          refine va_iast hx hb hK hP hD hS 5 0 rfl rfl h_66 dX5_image_66 (fun H locs hP hD hS => ?_)
          have hP : va_P (dC, dI) vwCl [(m_a, .inr (5, [.int m_sz, .ref m_ds_a, .ref m_cs_a, .int m_kn, .ref m_tx_a, .int m_sg, .int m_fa, .ref m_ia_a, .ref m_im_a, .ref m_ik_a])), (m_ds_a, .inl (cI, 14, .inl m_ds)), (m_cs_a, .inl (cI, 14, .inl m_cs)), (m_tx_a, .inl (cI, 20, .inl m_tx)), (m_ia_a, .inl (cZ, 16384, .inl m_ia)), (m_im_a, .inl (cI, 60, .inl (upd m_im_42 ((((30 * p1) + 2) + v2_42)).toNatClampNeg (m_ds (v2_42).toNatClampNeg)))), (m_ik_a, .inl (cZ, 2, .inl m_ik))] H := hP
          have hD : va_D A [(m_a, .inr (5, [.int m_sz, .ref m_ds_a, .ref m_cs_a, .int m_kn, .ref m_tx_a, .int m_sg, .int m_fa, .ref m_ia_a, .ref m_im_a, .ref m_ik_a])), (m_ds_a, .inl (cI, 14, .inl m_ds)), (m_cs_a, .inl (cI, 14, .inl m_cs)), (m_tx_a, .inl (cI, 20, .inl m_tx)), (m_ia_a, .inl (cZ, 16384, .inl m_ia)), (m_im_a, .inl (cI, 60, .inl (upd m_im_42 ((((30 * p1) + 2) + v2_42)).toNatClampNeg (m_ds (v2_42).toNatClampNeg)))), (m_ik_a, .inl (cZ, 2, .inl m_ik))] := hD
          refine lv_aload_n hx hb dX5_image_67 rfl (lv_at hl 1 rfl) ?_
          refine va_get (D := (dC, dI)) (ci := 5) (v := .ref m_im_a) (C := RX5) (T := TX5) (N := 10) hx hb hts in_X5_image_5 hown hK hP 0 rfl rfl 8 (by decide) hf30 (fun _ h9 => h9) rfl dX5_image_68 ?_
          refine lv_bipush (v := 30) hx hb dX5_image_71 (by decide) ?_
          refine lv_iload_n hx hb dX5_image_73 rfl (lv_at hl 2 rfl) ?_
          refine lv_imul hx hb dX5_image_74 ?_
          refine lv_bipush (v := 16) hx hb dX5_image_75 (by decide) ?_
          refine lv_iadd hx hb dX5_image_77 ?_
          refine lv_iload_n hx hb dX5_image_78 rfl (lv_at hl 0 rfl) ?_
          refine lv_iadd hx hb dX5_image_79 ?_
          refine lv_aload_n hx hb dX5_image_80 rfl (lv_at hl 1 rfl) ?_
          refine va_get (D := (dC, dI)) (ci := 5) (v := .ref m_cs_a) (C := RX5) (T := TX5) (N := 10) hx hb hts in_X5_image_5 hown hK hP 0 rfl rfl 2 (by decide) hf17 (fun _ h9 => h9) rfl dX5_image_81 ?_
          refine lv_iload_n hx hb dX5_image_84 rfl (lv_at hl 0 rfl) ?_
          obtain ⟨h_85, hM⟩ := ob_get hM
          refine va_iald hx hb hK hP 2 0 rfl rfl h_85 dX5_image_85 ?_
          obtain ⟨h_86, hM⟩ := ob_get hM
          refine va_iast hx hb hK hP hD hS 5 0 rfl rfl h_86 dX5_image_86 (fun H locs hP hD hS => ?_)
          have hP : va_P (dC, dI) vwCl [(m_a, .inr (5, [.int m_sz, .ref m_ds_a, .ref m_cs_a, .int m_kn, .ref m_tx_a, .int m_sg, .int m_fa, .ref m_ia_a, .ref m_im_a, .ref m_ik_a])), (m_ds_a, .inl (cI, 14, .inl m_ds)), (m_cs_a, .inl (cI, 14, .inl m_cs)), (m_tx_a, .inl (cI, 20, .inl m_tx)), (m_ia_a, .inl (cZ, 16384, .inl m_ia)), (m_im_a, .inl (cI, 60, .inl (upd (upd m_im_42 ((((30 * p1) + 2) + v2_42)).toNatClampNeg (m_ds (v2_42).toNatClampNeg)) ((((30 * p1) + 16) + v2_42)).toNatClampNeg (m_cs (v2_42).toNatClampNeg)))), (m_ik_a, .inl (cZ, 2, .inl m_ik))] H := hP
          have hD : va_D A [(m_a, .inr (5, [.int m_sz, .ref m_ds_a, .ref m_cs_a, .int m_kn, .ref m_tx_a, .int m_sg, .int m_fa, .ref m_ia_a, .ref m_im_a, .ref m_ik_a])), (m_ds_a, .inl (cI, 14, .inl m_ds)), (m_cs_a, .inl (cI, 14, .inl m_cs)), (m_tx_a, .inl (cI, 20, .inl m_tx)), (m_ia_a, .inl (cZ, 16384, .inl m_ia)), (m_im_a, .inl (cI, 60, .inl (upd (upd m_im_42 ((((30 * p1) + 2) + v2_42)).toNatClampNeg (m_ds (v2_42).toNatClampNeg)) ((((30 * p1) + 16) + v2_42)).toNatClampNeg (m_cs (v2_42).toNatClampNeg)))), (m_ik_a, .inl (cZ, 2, .inl m_ik))] := hD
          refine lv_iinc (v := (v2_42 + 1)) (lv' := [(2, .int (v2_42 + 1)), (0, .ref m_a), (1, .int p1)]) hx hb dX5_image_87 hl (k := 0) rfl (by rfl) (by decide) rfl (fun ls hl => ?_)
          refine lv_goto (tgt := 42) hx hb dX5_image_90 (by decide) ?_
          exact ih42 (v2_42 + 1) (upd (upd m_im_42 ((((30 * p1) + 2) + v2_42)).toNatClampNeg (m_ds (v2_42).toNatClampNeg)) ((((30 * p1) + 16) + v2_42)).toNatClampNeg (m_cs (v2_42).toNatClampNeg)) _ _ _ hM (hP.sub [0, 1, 2, 3, 4, 5, 6] rfl) (hD.sub [0, 1, 2, 3, 4, 5, 6] (by decide) rfl) hS (lv_sub hl [0, 1, 2] rfl)
    exact hL42 40 0 (upd (upd m_im ((30 * p1)).toNatClampNeg m_sz) (((30 * p1) + 1)).toNatClampNeg m_kn) _ _ _ hM hP hD hS (lv_sub hl [0, 1, 2] rfl)
  · replace hM := ob_pos c_6 hM
    refine lv_bipush (v := (-2)) hx hb dX5_image_9 (by decide) ?_
    obtain rfl := Option.some.inj hM
    have hP9 := hP.sub (ws' := [(m_a, .inr (5, [.int m_sz, .ref m_ds_a, .ref m_cs_a, .int m_kn, .ref m_tx_a, .int m_sg, .int m_fa, .ref m_ia_a, .ref m_im_a, .ref m_ik_a])), (m_ds_a, .inl (cI, 14, .inl m_ds)), (m_cs_a, .inl (cI, 14, .inl m_cs)), (m_tx_a, .inl (cI, 20, .inl m_tx)), (m_ia_a, .inl (cZ, 16384, .inl m_ia)), (m_im_a, .inl (cI, 60, .inl m_im)), (m_ik_a, .inl (cZ, 2, .inl m_ik))]) [0, 1, 2, 3, 4, 5, 6] rfl
    have hD9 := hD.sub (ws' := [(m_a, .inr (5, [.int m_sz, .ref m_ds_a, .ref m_cs_a, .int m_kn, .ref m_tx_a, .int m_sg, .int m_fa, .ref m_ia_a, .ref m_im_a, .ref m_ik_a])), (m_ds_a, .inl (cI, 14, .inl m_ds)), (m_cs_a, .inl (cI, 14, .inl m_cs)), (m_tx_a, .inl (cI, 20, .inl m_tx)), (m_ia_a, .inl (cZ, 16384, .inl m_ia)), (m_im_a, .inl (cI, 60, .inl m_im)), (m_ik_a, .inl (cZ, 2, .inl m_ik))]) [0, 1, 2, 3, 4, 5, 6] (by decide) rfl
    exact W.iret (v := (-2)) hx hb hr (fun t ht hW => ⟨⟨_, (), rfl, rfl, by rw [ht]; exact hP9, hD9⟩, hS.F ht⟩) hS.2.2 dX5_image_11
/-! X5_restore -/
abbrev rm_X5_restore : Room := { frames := 1, cells := 0, slots := 0, locals := 22 }
theorem in_X5_restore_5 : ∀ w ∈ u_ws RX5 TX5 10, w ∈ wsX5_restore := by decide +kernel
set_option maxHeartbeats 4000000 in
set_option maxRecDepth 100000 in
theorem c_X5_restore (l : Launch) (dC : Nat → ClassId) (dI : Nat → Nat → Nat) (cI cZ cJ cW : ClassId) (sz : Nat) (m_a m_ds_a m_cs_a m_tx_a m_ia_a m_im_a m_ik_a : Nat) (m_sz : Int32) (m_kn : Int32) (m_sg : Int32) (m_fa : Int32) (m_ds : Nat → Int32) (m_cs : Nat → Int32) (m_tx : Nat → Int32) (m_ia : Nat → Int32) (m_im : Nat → Int32) (m_ik : Nat → Int32) (p1 : Int32) (R : Int32 × Int32 × Int32 × (Nat → Int32) × (Nat → Int32)) (hM : M_X5_restore p1 m_sz m_ds m_cs m_kn m_im m_ik = some R) : Met l yX5_restore wsX5_restore rm_X5_restore (va_Pc [.ref m_a, .int p1] (MP (dC, dI) cI cZ cJ cW sz [(m_a, .inr (5, [.int m_sz, .ref m_ds_a, .ref m_cs_a, .int m_kn, .ref m_tx_a, .int m_sg, .int m_fa, .ref m_ia_a, .ref m_im_a, .ref m_ik_a])), (m_ds_a, .inl (cI, 14, .inl m_ds)), (m_cs_a, .inl (cI, 14, .inl m_cs)), (m_tx_a, .inl (cI, 20, .inl m_tx)), (m_ia_a, .inl (cZ, 16384, .inl m_ia)), (m_im_a, .inl (cI, 60, .inl m_im)), (m_ik_a, .inl (cZ, 2, .inl m_ik))])) (va_Qi (fun (r : Int32) (_ : Unit) => R.1 = r) (PB (dC, dI) (va_A [(m_a, .inr (5, [.int m_sz, .ref m_ds_a, .ref m_cs_a, .int m_kn, .ref m_tx_a, .int m_sg, .int m_fa, .ref m_ia_a, .ref m_im_a, .ref m_ik_a])), (m_ds_a, .inl (cI, 14, .inl m_ds)), (m_cs_a, .inl (cI, 14, .inl m_cs)), (m_tx_a, .inl (cI, 20, .inl m_tx)), (m_ia_a, .inl (cZ, 16384, .inl m_ia)), (m_im_a, .inl (cI, 60, .inl m_im)), (m_ik_a, .inl (cZ, 2, .inl m_ik))] sz) [(m_a, .inr (5, [.int R.2.1, .ref m_ds_a, .ref m_cs_a, .int R.2.2.1, .ref m_tx_a, .int m_sg, .int m_fa, .ref m_ia_a, .ref m_im_a, .ref m_ik_a])), (m_ds_a, .inl (cI, 14, .inl R.2.2.2.1)), (m_cs_a, .inl (cI, 14, .inl R.2.2.2.2)), (m_tx_a, .inl (cI, 20, .inl m_tx)), (m_ia_a, .inl (cZ, 16384, .inl m_ia)), (m_im_a, .inl (cI, 60, .inl m_im)), (m_ik_a, .inl (cZ, 2, .inl m_ik))]) (va_A [(m_a, .inr (5, [.int m_sz, .ref m_ds_a, .ref m_cs_a, .int m_kn, .ref m_tx_a, .int m_sg, .int m_fa, .ref m_ia_a, .ref m_im_a, .ref m_ik_a])), (m_ds_a, .inl (cI, 14, .inl m_ds)), (m_cs_a, .inl (cI, 14, .inl m_cs)), (m_tx_a, .inl (cI, 20, .inl m_tx)), (m_ia_a, .inl (cZ, 16384, .inl m_ia)), (m_im_a, .inl (cI, 60, .inl m_im)), (m_ik_a, .inl (cZ, 2, .inl m_ik))] sz)) 0 0 (va_A [(m_a, .inr (5, [.int m_sz, .ref m_ds_a, .ref m_cs_a, .int m_kn, .ref m_tx_a, .int m_sg, .int m_fa, .ref m_ia_a, .ref m_im_a, .ref m_ik_a])), (m_ds_a, .inl (cI, 14, .inl m_ds)), (m_cs_a, .inl (cI, 14, .inl m_cs)), (m_tx_a, .inl (cI, 20, .inl m_tx)), (m_ia_a, .inl (cZ, 16384, .inl m_ia)), (m_im_a, .inl (cI, 60, .inl m_im)), (m_ik_a, .inl (cZ, 2, .inl m_ik))] sz) := by
  refine Met.ofW (cc := cX5_restore) (maxL := 3) (ret := (some .int)) (by decide) rfl ?_
  intro p e s m args below meth c s₁ B hml hv
  obtain ⟨rfl, hsz, hP, hK, hN, hD0⟩ := hv
  have hx := B.exec
  have hb := B.bytes
  have hr := B.returns
  have hts := atoms_spec (ws := wsX5_restore) B.pre
  have hown : s.vm.findClass RX5 = some m.cls := findClass_of_methodNamed B.named
  have hlocks := B.notSynchronized
  subst hsz
  have hD := hD0.self (sz := s.heap.size)
  generalize hAe : va_A [(m_a, .inr (5, [.int m_sz, .ref m_ds_a, .ref m_cs_a, .int m_kn, .ref m_tx_a, .int m_sg, .int m_fa, .ref m_ia_a, .ref m_im_a, .ref m_ik_a])), (m_ds_a, .inl (cI, 14, .inl m_ds)), (m_cs_a, .inl (cI, 14, .inl m_cs)), (m_tx_a, .inl (cI, 20, .inl m_tx)), (m_ia_a, .inl (cZ, 16384, .inl m_ia)), (m_im_a, .inl (cI, 60, .inl m_im)), (m_ik_a, .inl (cZ, 2, .inl m_ik))] s.heap.size = A at hD ⊢
  have hA : ∀ q : Nat, s.heap.size ≤ q → A q := fun q h => by rw [← hAe]; exact Or.inr h
  have hS : va_S A s.heap s.heap [] := va_S.rf
  have hf7 := hts (.fieldLink RX5 7 "WordGroundsModel" "size" "I") (by decide +kernel)
  have hf13 := hts (.fieldLink RX5 13 "WordGroundsModel" "definitions" "[I") (by decide +kernel)
  have hf17 := hts (.fieldLink RX5 17 "WordGroundsModel" "costs" "[I") (by decide +kernel)
  have hf30 := hts (.fieldLink RX5 30 "WordGroundsModel" "image" "[I") (by decide +kernel)
  have hf33 := hts (.fieldLink RX5 33 "WordGroundsModel" "isKept" "[Z") (by decide +kernel)
  have hf44 := hts (.fieldLink RX5 44 "WordGroundsModel" "known" "I") (by decide +kernel)
  have hl := lv_entry ([.ref m_a, .int p1]) (n := 3) (Nat.le_of_ble_eq_true rfl)
  rw [lg_entry_eq]
  generalize (lg_sl ([.ref m_a, .int p1]) ++ List.replicate (3 - (lg_sl ([.ref m_a, .int p1])).length) Slot.unset).toArray = ls at hl ⊢
  have hl : lv_has ls 3 [(0, .ref m_a), (1, .int p1)] := hl
  have hP : va_P (dC, dI) vwCl [(m_a, .inr (5, [.int m_sz, .ref m_ds_a, .ref m_cs_a, .int m_kn, .ref m_tx_a, .int m_sg, .int m_fa, .ref m_ia_a, .ref m_im_a, .ref m_ik_a])), (m_ds_a, .inl (cI, 14, .inl m_ds)), (m_cs_a, .inl (cI, 14, .inl m_cs)), (m_tx_a, .inl (cI, 20, .inl m_tx)), (m_ia_a, .inl (cZ, 16384, .inl m_ia)), (m_im_a, .inl (cI, 60, .inl m_im)), (m_ik_a, .inl (cZ, 2, .inl m_ik))] s.heap := hP
  have hM : ((M_X5_in p1 0 1).bind (fun q3 => if q3 = 0 then (some ((-2), m_sz, m_kn, m_ds, m_cs)) else (if p1 < 0 ∨ 2 ≤ (p1).toNatClampNeg then none else (if (m_ik (p1).toNatClampNeg) = 0 then (some ((-3), m_sz, m_kn, m_ds, m_cs)) else (if (30 * p1) < 0 ∨ 60 ≤ ((30 * p1)).toNatClampNeg then none else (if ((30 * p1) + 1) < 0 ∨ 60 ≤ (((30 * p1) + 1)).toNatClampNeg then none else (L_X5_restore_54 p1 m_im (fun (v2_54 : Int32) (m_ds_54 : Nat → Int32) (m_cs_54 : Nat → Int32) => some (1, (m_im ((30 * p1)).toNatClampNeg), (m_im (((30 * p1) + 1)).toNatClampNeg), m_ds_54, m_cs_54)) 40 0 m_ds m_cs))))))) = some R := hM
  refine lv_iload_n hx hb dX5_restore_0 rfl (lv_at hl 1 rfl) ?_
  refine lv_iconst (v := 0) hx hb dX5_restore_1 (by decide) ?_
  refine lv_iconst (v := 1) hx hb dX5_restore_2 (by decide) ?_
  obtain ⟨q3, hv3, hM⟩ := ob_bind hM
  refine vp_callSi (va_Run.run (va_runS (As := [.int p1, .int 0, .int 1]) (rest := []) ⟨hx, hb, hml, hown, hts⟩ (c_X5_in l dC dI cI cZ cJ cW p1 0 1 q3 hv3) (va_cwS 3 hts gX5_restore_X5_in rfl rfl rfl (by decide +kernel) ⟨Nat.le_of_ble_eq_true rfl, Nat.le_of_ble_eq_true rfl⟩) ⟨TP.blind, fun U hU hW => ⟨rfl, trivial⟩⟩ rfl rfl hl.1 rfl (lv_room (Nat.le_of_ble_eq_true rfl)) dX5_restore_3 ⟨Nat.le_of_ble_eq_true rfl, Nat.le_of_ble_eq_true rfl⟩)) (fun r hr => ?_)
  subst hr
  refine lv_if_ne (tgt := 12) hx hb dX5_restore_6 (by decide) (fun c_6 => ?_) (fun c_6 => ?_)
  · replace hM := ob_neg c_6 hM
    refine lv_aload_n hx hb dX5_restore_12 rfl (lv_at hl 0 rfl) ?_
    refine va_get (D := (dC, dI)) (ci := 5) (v := .ref m_ik_a) (C := RX5) (T := TX5) (N := 10) hx hb hts in_X5_restore_5 hown hK hP 0 rfl rfl 9 (by decide) hf33 (fun _ h9 => h9) rfl dX5_restore_13 ?_
    refine lv_iload_n hx hb dX5_restore_16 rfl (lv_at hl 1 rfl) ?_
    obtain ⟨h_17, hM⟩ := ob_get hM
    refine va_zald hx hb hK hP 6 1 rfl rfl h_17 dX5_restore_17 ?_
    refine lv_if_ne (tgt := 24) hx hb dX5_restore_18 (by decide) (fun c_18 => ?_) (fun c_18 => ?_)
    · replace hM := ob_neg c_18 hM
      refine lv_aload_n hx hb dX5_restore_24 rfl (lv_at hl 0 rfl) ?_
      refine lv_aload_n hx hb dX5_restore_25 rfl (lv_at hl 0 rfl) ?_
      refine va_get (D := (dC, dI)) (ci := 5) (v := .ref m_im_a) (C := RX5) (T := TX5) (N := 10) hx hb hts in_X5_restore_5 hown hK hP 0 rfl rfl 8 (by decide) hf30 (fun _ h9 => h9) rfl dX5_restore_26 ?_
      refine lv_bipush (v := 30) hx hb dX5_restore_29 (by decide) ?_
      refine lv_iload_n hx hb dX5_restore_31 rfl (lv_at hl 1 rfl) ?_
      refine lv_imul hx hb dX5_restore_32 ?_
      obtain ⟨h_33, hM⟩ := ob_get hM
      refine va_iald hx hb hK hP 5 0 rfl rfl h_33 dX5_restore_33 ?_
      refine va_put (D := (dC, dI)) (ci := 5) (v := .int (m_im ((30 * p1)).toNatClampNeg)) (ty := .int) (C := RX5) (T := TX5) (N := 10) hx hb hts in_X5_restore_5 tyX5 tyX5_ok nmX5 hown hK hP hD hS 0 rfl rfl 0 (by decide) hf7 (fun _ h9 => h9) rfl (by decide +kernel) rfl rfl (Nat.le_of_ble_eq_true rfl) dX5_restore_34 (fun H locs hP hD hS => ?_)
      have hP : va_P (dC, dI) vwCl [(m_a, .inr (5, [.int (m_im ((30 * p1)).toNatClampNeg), .ref m_ds_a, .ref m_cs_a, .int m_kn, .ref m_tx_a, .int m_sg, .int m_fa, .ref m_ia_a, .ref m_im_a, .ref m_ik_a])), (m_ds_a, .inl (cI, 14, .inl m_ds)), (m_cs_a, .inl (cI, 14, .inl m_cs)), (m_tx_a, .inl (cI, 20, .inl m_tx)), (m_ia_a, .inl (cZ, 16384, .inl m_ia)), (m_im_a, .inl (cI, 60, .inl m_im)), (m_ik_a, .inl (cZ, 2, .inl m_ik))] H := hP
      have hD : va_D A [(m_a, .inr (5, [.int (m_im ((30 * p1)).toNatClampNeg), .ref m_ds_a, .ref m_cs_a, .int m_kn, .ref m_tx_a, .int m_sg, .int m_fa, .ref m_ia_a, .ref m_im_a, .ref m_ik_a])), (m_ds_a, .inl (cI, 14, .inl m_ds)), (m_cs_a, .inl (cI, 14, .inl m_cs)), (m_tx_a, .inl (cI, 20, .inl m_tx)), (m_ia_a, .inl (cZ, 16384, .inl m_ia)), (m_im_a, .inl (cI, 60, .inl m_im)), (m_ik_a, .inl (cZ, 2, .inl m_ik))] := hD
      refine lv_aload_n hx hb dX5_restore_37 rfl (lv_at hl 0 rfl) ?_
      refine lv_aload_n hx hb dX5_restore_38 rfl (lv_at hl 0 rfl) ?_
      refine va_get (D := (dC, dI)) (ci := 5) (v := .ref m_im_a) (C := RX5) (T := TX5) (N := 10) hx hb hts in_X5_restore_5 hown hK hP 0 rfl rfl 8 (by decide) hf30 (fun _ h9 => h9) rfl dX5_restore_39 ?_
      refine lv_bipush (v := 30) hx hb dX5_restore_42 (by decide) ?_
      refine lv_iload_n hx hb dX5_restore_44 rfl (lv_at hl 1 rfl) ?_
      refine lv_imul hx hb dX5_restore_45 ?_
      refine lv_iconst (v := 1) hx hb dX5_restore_46 (by decide) ?_
      refine lv_iadd hx hb dX5_restore_47 ?_
      obtain ⟨h_48, hM⟩ := ob_get hM
      refine va_iald hx hb hK hP 5 0 rfl rfl h_48 dX5_restore_48 ?_
      refine va_put (D := (dC, dI)) (ci := 5) (v := .int (m_im (((30 * p1) + 1)).toNatClampNeg)) (ty := .int) (C := RX5) (T := TX5) (N := 10) hx hb hts in_X5_restore_5 tyX5 tyX5_ok nmX5 hown hK hP hD hS 0 rfl rfl 3 (by decide) hf44 (fun _ h9 => h9) rfl (by decide +kernel) rfl rfl (Nat.le_of_ble_eq_true rfl) dX5_restore_49 (fun H locs hP hD hS => ?_)
      have hP : va_P (dC, dI) vwCl [(m_a, .inr (5, [.int (m_im ((30 * p1)).toNatClampNeg), .ref m_ds_a, .ref m_cs_a, .int (m_im (((30 * p1) + 1)).toNatClampNeg), .ref m_tx_a, .int m_sg, .int m_fa, .ref m_ia_a, .ref m_im_a, .ref m_ik_a])), (m_ds_a, .inl (cI, 14, .inl m_ds)), (m_cs_a, .inl (cI, 14, .inl m_cs)), (m_tx_a, .inl (cI, 20, .inl m_tx)), (m_ia_a, .inl (cZ, 16384, .inl m_ia)), (m_im_a, .inl (cI, 60, .inl m_im)), (m_ik_a, .inl (cZ, 2, .inl m_ik))] H := hP
      have hD : va_D A [(m_a, .inr (5, [.int (m_im ((30 * p1)).toNatClampNeg), .ref m_ds_a, .ref m_cs_a, .int (m_im (((30 * p1) + 1)).toNatClampNeg), .ref m_tx_a, .int m_sg, .int m_fa, .ref m_ia_a, .ref m_im_a, .ref m_ik_a])), (m_ds_a, .inl (cI, 14, .inl m_ds)), (m_cs_a, .inl (cI, 14, .inl m_cs)), (m_tx_a, .inl (cI, 20, .inl m_tx)), (m_ia_a, .inl (cZ, 16384, .inl m_ia)), (m_im_a, .inl (cI, 60, .inl m_im)), (m_ik_a, .inl (cZ, 2, .inl m_ik))] := hD
      refine lv_iconst (v := 0) hx hb dX5_restore_52 (by decide) ?_
      refine lv_istore_n (lv' := [(2, .int 0), (0, .ref m_a), (1, .int p1)]) hx hb dX5_restore_53 rfl hl (by decide) rfl (fun ls hl => ?_)
      obtain ⟨K54, hK54⟩ : ∃ K : Int32 → (Nat → Int32) → (Nat → Int32) → Option (Int32 × Int32 × Int32 × (Nat → Int32) × (Nat → Int32)), K = (fun (v2_54 : Int32) (m_ds_54 : Nat → Int32) (m_cs_54 : Nat → Int32) => some (1, (m_im ((30 * p1)).toNatClampNeg), (m_im (((30 * p1) + 1)).toNatClampNeg), m_ds_54, m_cs_54)) := ⟨_, rfl⟩
      have hM : L_X5_restore_54 p1 m_im K54 40 0 m_ds m_cs = some R := by rw [hK54]; exact hM
      have hL54 : ∀ (k54 : Nat) (v2_54 : Int32) (m_ds_54 : Nat → Int32) (m_cs_54 : Nat → Int32) (H : Heap) (locs : List Loc) (ls : Array Slot), L_X5_restore_54 p1 m_im K54 k54 v2_54 m_ds_54 m_cs_54 = some R → va_P (dC, dI) vwCl [(m_a, .inr (5, [.int (m_im ((30 * p1)).toNatClampNeg), .ref m_ds_a, .ref m_cs_a, .int (m_im (((30 * p1) + 1)).toNatClampNeg), .ref m_tx_a, .int m_sg, .int m_fa, .ref m_ia_a, .ref m_im_a, .ref m_ik_a])), (m_ds_a, .inl (cI, 14, .inl m_ds_54)), (m_cs_a, .inl (cI, 14, .inl m_cs_54)), (m_tx_a, .inl (cI, 20, .inl m_tx)), (m_ia_a, .inl (cZ, 16384, .inl m_ia)), (m_im_a, .inl (cI, 60, .inl m_im)), (m_ik_a, .inl (cZ, 2, .inl m_ik))] H → va_D A [(m_a, .inr (5, [.int (m_im ((30 * p1)).toNatClampNeg), .ref m_ds_a, .ref m_cs_a, .int (m_im (((30 * p1) + 1)).toNatClampNeg), .ref m_tx_a, .int m_sg, .int m_fa, .ref m_ia_a, .ref m_im_a, .ref m_ik_a])), (m_ds_a, .inl (cI, 14, .inl m_ds_54)), (m_cs_a, .inl (cI, 14, .inl m_cs_54)), (m_tx_a, .inl (cI, 20, .inl m_tx)), (m_ia_a, .inl (cZ, 16384, .inl m_ia)), (m_im_a, .inl (cI, 60, .inl m_im)), (m_ik_a, .inl (cZ, 2, .inl m_ik))] → va_S A s.heap H locs → lv_has ls 3 [(2, .int v2_54), (0, .ref m_a), (1, .int p1)] → W p l e rm_X5_restore s m ([.ref m_a, .int p1] : List Value).toArray below meth c H locs 0 0 (MQ below (va_Qi (fun (r : Int32) (_ : Unit) => R.1 = r) (PB (dC, dI) A [(m_a, .inr (5, [.int R.2.1, .ref m_ds_a, .ref m_cs_a, .int R.2.2.1, .ref m_tx_a, .int m_sg, .int m_fa, .ref m_ia_a, .ref m_im_a, .ref m_ik_a])), (m_ds_a, .inl (cI, 14, .inl R.2.2.2.1)), (m_cs_a, .inl (cI, 14, .inl R.2.2.2.2)), (m_tx_a, .inl (cI, 20, .inl m_tx)), (m_ia_a, .inl (cZ, 16384, .inl m_ia)), (m_im_a, .inl (cI, 60, .inl m_im)), (m_ik_a, .inl (cZ, 2, .inl m_ik))]) A) ([.ref m_a, .int p1] : List Value).toArray s 0 0 A) (F0 m 54 ls []) := by
        intro k54
        induction k54 with
        | zero => intro v2_54 m_ds_54 m_cs_54 H locs ls hM; exact (ob_none hM).elim
        | succ k54 ih54 =>
          intro v2_54 m_ds_54 m_cs_54 H locs ls hM hP hD hS hl
          have hM : (if 14 ≤ v2_54 then (K54 v2_54 m_ds_54 m_cs_54) else (if (((30 * p1) + 2) + v2_54) < 0 ∨ 60 ≤ ((((30 * p1) + 2) + v2_54)).toNatClampNeg then none else (if v2_54 < 0 ∨ 14 ≤ (v2_54).toNatClampNeg then none else (if (((30 * p1) + 16) + v2_54) < 0 ∨ 60 ≤ ((((30 * p1) + 16) + v2_54)).toNatClampNeg then none else (if v2_54 < 0 ∨ 14 ≤ (v2_54).toNatClampNeg then none else (L_X5_restore_54 p1 m_im K54 k54 (v2_54 + 1) (upd m_ds_54 (v2_54).toNatClampNeg (m_im ((((30 * p1) + 2) + v2_54)).toNatClampNeg)) (upd m_cs_54 (v2_54).toNatClampNeg (m_im ((((30 * p1) + 16) + v2_54)).toNatClampNeg)))))))) = some R := hM
          refine lv_iload_n hx hb dX5_restore_54 rfl (lv_at hl 0 rfl) ?_
          refine lv_bipush (v := 14) hx hb dX5_restore_55 (by decide) ?_
          refine lv_icmp_ge (tgt := 105) hx hb dX5_restore_57 (by decide) (fun c_57 => ?_) (fun c_57 => ?_)
          · replace hM := ob_pos c_57 hM
            have hM : (some (1, (m_im ((30 * p1)).toNatClampNeg), (m_im (((30 * p1) + 1)).toNatClampNeg), m_ds_54, m_cs_54)) = some R := by rw [hK54] at hM; exact hM
            refine lv_iconst (v := 1) hx hb dX5_restore_105 (by decide) ?_
            obtain rfl := Option.some.inj hM
            have hP9 := hP.sub (ws' := [(m_a, .inr (5, [.int (m_im ((30 * p1)).toNatClampNeg), .ref m_ds_a, .ref m_cs_a, .int (m_im (((30 * p1) + 1)).toNatClampNeg), .ref m_tx_a, .int m_sg, .int m_fa, .ref m_ia_a, .ref m_im_a, .ref m_ik_a])), (m_ds_a, .inl (cI, 14, .inl m_ds_54)), (m_cs_a, .inl (cI, 14, .inl m_cs_54)), (m_tx_a, .inl (cI, 20, .inl m_tx)), (m_ia_a, .inl (cZ, 16384, .inl m_ia)), (m_im_a, .inl (cI, 60, .inl m_im)), (m_ik_a, .inl (cZ, 2, .inl m_ik))]) [0, 1, 2, 3, 4, 5, 6] rfl
            have hD9 := hD.sub (ws' := [(m_a, .inr (5, [.int (m_im ((30 * p1)).toNatClampNeg), .ref m_ds_a, .ref m_cs_a, .int (m_im (((30 * p1) + 1)).toNatClampNeg), .ref m_tx_a, .int m_sg, .int m_fa, .ref m_ia_a, .ref m_im_a, .ref m_ik_a])), (m_ds_a, .inl (cI, 14, .inl m_ds_54)), (m_cs_a, .inl (cI, 14, .inl m_cs_54)), (m_tx_a, .inl (cI, 20, .inl m_tx)), (m_ia_a, .inl (cZ, 16384, .inl m_ia)), (m_im_a, .inl (cI, 60, .inl m_im)), (m_ik_a, .inl (cZ, 2, .inl m_ik))]) [0, 1, 2, 3, 4, 5, 6] (by decide) rfl
            exact W.iret (v := 1) hx hb hr (fun t ht hW => ⟨⟨_, (), rfl, rfl, by rw [ht]; exact hP9, hD9⟩, hS.F ht⟩) hS.2.2 dX5_restore_106
          · replace hM := ob_neg c_57 hM
            refine lv_aload_n hx hb dX5_restore_60 rfl (lv_at hl 1 rfl) ?_
            refine va_get (D := (dC, dI)) (ci := 5) (v := .ref m_ds_a) (C := RX5) (T := TX5) (N := 10) hx hb hts in_X5_restore_5 hown hK hP 0 rfl rfl 1 (by decide) hf13 (fun _ h9 => h9) rfl dX5_restore_61 ?_
            refine lv_iload_n hx hb dX5_restore_64 rfl (lv_at hl 0 rfl) ?_
            refine lv_aload_n hx hb dX5_restore_65 rfl (lv_at hl 1 rfl) ?_
            refine va_get (D := (dC, dI)) (ci := 5) (v := .ref m_im_a) (C := RX5) (T := TX5) (N := 10) hx hb hts in_X5_restore_5 hown hK hP 0 rfl rfl 8 (by decide) hf30 (fun _ h9 => h9) rfl dX5_restore_66 ?_
            refine lv_bipush (v := 30) hx hb dX5_restore_69 (by decide) ?_
            refine lv_iload_n hx hb dX5_restore_71 rfl (lv_at hl 2 rfl) ?_
            refine lv_imul hx hb dX5_restore_72 ?_
            refine lv_iconst (v := 2) hx hb dX5_restore_73 (by decide) ?_
            refine lv_iadd hx hb dX5_restore_74 ?_
            refine lv_iload_n hx hb dX5_restore_75 rfl (lv_at hl 0 rfl) ?_
            refine lv_iadd hx hb dX5_restore_76 ?_
            obtain ⟨h_77, hM⟩ := ob_get hM
            refine va_iald hx hb hK hP 5 0 rfl rfl h_77 dX5_restore_77 ?_
            obtain ⟨h_78, hM⟩ := ob_get hM
            refine va_iast hx hb hK hP hD hS 1 0 rfl rfl h_78 dX5_restore_78 (fun H locs hP hD hS => ?_)
            have hP : va_P (dC, dI) vwCl [(m_a, .inr (5, [.int (m_im ((30 * p1)).toNatClampNeg), .ref m_ds_a, .ref m_cs_a, .int (m_im (((30 * p1) + 1)).toNatClampNeg), .ref m_tx_a, .int m_sg, .int m_fa, .ref m_ia_a, .ref m_im_a, .ref m_ik_a])), (m_ds_a, .inl (cI, 14, .inl (upd m_ds_54 (v2_54).toNatClampNeg (m_im ((((30 * p1) + 2) + v2_54)).toNatClampNeg)))), (m_cs_a, .inl (cI, 14, .inl m_cs_54)), (m_tx_a, .inl (cI, 20, .inl m_tx)), (m_ia_a, .inl (cZ, 16384, .inl m_ia)), (m_im_a, .inl (cI, 60, .inl m_im)), (m_ik_a, .inl (cZ, 2, .inl m_ik))] H := hP
            have hD : va_D A [(m_a, .inr (5, [.int (m_im ((30 * p1)).toNatClampNeg), .ref m_ds_a, .ref m_cs_a, .int (m_im (((30 * p1) + 1)).toNatClampNeg), .ref m_tx_a, .int m_sg, .int m_fa, .ref m_ia_a, .ref m_im_a, .ref m_ik_a])), (m_ds_a, .inl (cI, 14, .inl (upd m_ds_54 (v2_54).toNatClampNeg (m_im ((((30 * p1) + 2) + v2_54)).toNatClampNeg)))), (m_cs_a, .inl (cI, 14, .inl m_cs_54)), (m_tx_a, .inl (cI, 20, .inl m_tx)), (m_ia_a, .inl (cZ, 16384, .inl m_ia)), (m_im_a, .inl (cI, 60, .inl m_im)), (m_ik_a, .inl (cZ, 2, .inl m_ik))] := hD
            refine lv_aload_n hx hb dX5_restore_79 rfl (lv_at hl 1 rfl) ?_
            refine va_get (D := (dC, dI)) (ci := 5) (v := .ref m_cs_a) (C := RX5) (T := TX5) (N := 10) hx hb hts in_X5_restore_5 hown hK hP 0 rfl rfl 2 (by decide) hf17 (fun _ h9 => h9) rfl dX5_restore_80 ?_
            refine lv_iload_n hx hb dX5_restore_83 rfl (lv_at hl 0 rfl) ?_
            refine lv_aload_n hx hb dX5_restore_84 rfl (lv_at hl 1 rfl) ?_
            refine va_get (D := (dC, dI)) (ci := 5) (v := .ref m_im_a) (C := RX5) (T := TX5) (N := 10) hx hb hts in_X5_restore_5 hown hK hP 0 rfl rfl 8 (by decide) hf30 (fun _ h9 => h9) rfl dX5_restore_85 ?_
            refine lv_bipush (v := 30) hx hb dX5_restore_88 (by decide) ?_
            refine lv_iload_n hx hb dX5_restore_90 rfl (lv_at hl 2 rfl) ?_
            refine lv_imul hx hb dX5_restore_91 ?_
            refine lv_bipush (v := 16) hx hb dX5_restore_92 (by decide) ?_
            refine lv_iadd hx hb dX5_restore_94 ?_
            refine lv_iload_n hx hb dX5_restore_95 rfl (lv_at hl 0 rfl) ?_
            refine lv_iadd hx hb dX5_restore_96 ?_
            obtain ⟨h_97, hM⟩ := ob_get hM
            refine va_iald hx hb hK hP 5 0 rfl rfl h_97 dX5_restore_97 ?_
            obtain ⟨h_98, hM⟩ := ob_get hM
            refine va_iast hx hb hK hP hD hS 2 0 rfl rfl h_98 dX5_restore_98 (fun H locs hP hD hS => ?_)
            have hP : va_P (dC, dI) vwCl [(m_a, .inr (5, [.int (m_im ((30 * p1)).toNatClampNeg), .ref m_ds_a, .ref m_cs_a, .int (m_im (((30 * p1) + 1)).toNatClampNeg), .ref m_tx_a, .int m_sg, .int m_fa, .ref m_ia_a, .ref m_im_a, .ref m_ik_a])), (m_ds_a, .inl (cI, 14, .inl (upd m_ds_54 (v2_54).toNatClampNeg (m_im ((((30 * p1) + 2) + v2_54)).toNatClampNeg)))), (m_cs_a, .inl (cI, 14, .inl (upd m_cs_54 (v2_54).toNatClampNeg (m_im ((((30 * p1) + 16) + v2_54)).toNatClampNeg)))), (m_tx_a, .inl (cI, 20, .inl m_tx)), (m_ia_a, .inl (cZ, 16384, .inl m_ia)), (m_im_a, .inl (cI, 60, .inl m_im)), (m_ik_a, .inl (cZ, 2, .inl m_ik))] H := hP
            have hD : va_D A [(m_a, .inr (5, [.int (m_im ((30 * p1)).toNatClampNeg), .ref m_ds_a, .ref m_cs_a, .int (m_im (((30 * p1) + 1)).toNatClampNeg), .ref m_tx_a, .int m_sg, .int m_fa, .ref m_ia_a, .ref m_im_a, .ref m_ik_a])), (m_ds_a, .inl (cI, 14, .inl (upd m_ds_54 (v2_54).toNatClampNeg (m_im ((((30 * p1) + 2) + v2_54)).toNatClampNeg)))), (m_cs_a, .inl (cI, 14, .inl (upd m_cs_54 (v2_54).toNatClampNeg (m_im ((((30 * p1) + 16) + v2_54)).toNatClampNeg)))), (m_tx_a, .inl (cI, 20, .inl m_tx)), (m_ia_a, .inl (cZ, 16384, .inl m_ia)), (m_im_a, .inl (cI, 60, .inl m_im)), (m_ik_a, .inl (cZ, 2, .inl m_ik))] := hD
            refine lv_iinc (v := (v2_54 + 1)) (lv' := [(2, .int (v2_54 + 1)), (0, .ref m_a), (1, .int p1)]) hx hb dX5_restore_99 hl (k := 0) rfl (by rfl) (by decide) rfl (fun ls hl => ?_)
            refine lv_goto (tgt := 54) hx hb dX5_restore_102 (by decide) ?_
            exact ih54 (v2_54 + 1) (upd m_ds_54 (v2_54).toNatClampNeg (m_im ((((30 * p1) + 2) + v2_54)).toNatClampNeg)) (upd m_cs_54 (v2_54).toNatClampNeg (m_im ((((30 * p1) + 16) + v2_54)).toNatClampNeg)) _ _ _ hM (hP.sub [0, 1, 2, 3, 4, 5, 6] rfl) (hD.sub [0, 1, 2, 3, 4, 5, 6] (by decide) rfl) hS (lv_sub hl [0, 1, 2] rfl)
      exact hL54 40 0 m_ds m_cs _ _ _ hM hP hD hS (lv_sub hl [0, 1, 2] rfl)
    · replace hM := ob_pos c_18 hM
      refine lv_bipush (v := (-3)) hx hb dX5_restore_21 (by decide) ?_
      obtain rfl := Option.some.inj hM
      have hP9 := hP.sub (ws' := [(m_a, .inr (5, [.int m_sz, .ref m_ds_a, .ref m_cs_a, .int m_kn, .ref m_tx_a, .int m_sg, .int m_fa, .ref m_ia_a, .ref m_im_a, .ref m_ik_a])), (m_ds_a, .inl (cI, 14, .inl m_ds)), (m_cs_a, .inl (cI, 14, .inl m_cs)), (m_tx_a, .inl (cI, 20, .inl m_tx)), (m_ia_a, .inl (cZ, 16384, .inl m_ia)), (m_im_a, .inl (cI, 60, .inl m_im)), (m_ik_a, .inl (cZ, 2, .inl m_ik))]) [0, 1, 2, 3, 4, 5, 6] rfl
      have hD9 := hD.sub (ws' := [(m_a, .inr (5, [.int m_sz, .ref m_ds_a, .ref m_cs_a, .int m_kn, .ref m_tx_a, .int m_sg, .int m_fa, .ref m_ia_a, .ref m_im_a, .ref m_ik_a])), (m_ds_a, .inl (cI, 14, .inl m_ds)), (m_cs_a, .inl (cI, 14, .inl m_cs)), (m_tx_a, .inl (cI, 20, .inl m_tx)), (m_ia_a, .inl (cZ, 16384, .inl m_ia)), (m_im_a, .inl (cI, 60, .inl m_im)), (m_ik_a, .inl (cZ, 2, .inl m_ik))]) [0, 1, 2, 3, 4, 5, 6] (by decide) rfl
      exact W.iret (v := (-3)) hx hb hr (fun t ht hW => ⟨⟨_, (), rfl, rfl, by rw [ht]; exact hP9, hD9⟩, hS.F ht⟩) hS.2.2 dX5_restore_23
  · replace hM := ob_pos c_6 hM
    refine lv_bipush (v := (-2)) hx hb dX5_restore_9 (by decide) ?_
    obtain rfl := Option.some.inj hM
    have hP9 := hP.sub (ws' := [(m_a, .inr (5, [.int m_sz, .ref m_ds_a, .ref m_cs_a, .int m_kn, .ref m_tx_a, .int m_sg, .int m_fa, .ref m_ia_a, .ref m_im_a, .ref m_ik_a])), (m_ds_a, .inl (cI, 14, .inl m_ds)), (m_cs_a, .inl (cI, 14, .inl m_cs)), (m_tx_a, .inl (cI, 20, .inl m_tx)), (m_ia_a, .inl (cZ, 16384, .inl m_ia)), (m_im_a, .inl (cI, 60, .inl m_im)), (m_ik_a, .inl (cZ, 2, .inl m_ik))]) [0, 1, 2, 3, 4, 5, 6] rfl
    have hD9 := hD.sub (ws' := [(m_a, .inr (5, [.int m_sz, .ref m_ds_a, .ref m_cs_a, .int m_kn, .ref m_tx_a, .int m_sg, .int m_fa, .ref m_ia_a, .ref m_im_a, .ref m_ik_a])), (m_ds_a, .inl (cI, 14, .inl m_ds)), (m_cs_a, .inl (cI, 14, .inl m_cs)), (m_tx_a, .inl (cI, 20, .inl m_tx)), (m_ia_a, .inl (cZ, 16384, .inl m_ia)), (m_im_a, .inl (cI, 60, .inl m_im)), (m_ik_a, .inl (cZ, 2, .inl m_ik))]) [0, 1, 2, 3, 4, 5, 6] (by decide) rfl
    exact W.iret (v := (-2)) hx hb hr (fun t ht hW => ⟨⟨_, (), rfl, rfl, by rw [ht]; exact hP9, hD9⟩, hS.F ht⟩) hS.2.2 dX5_restore_11
/-! X5_count -/
abbrev rm_X5_count : Room := { frames := 1, cells := 0, slots := 0, locals := 22 }
theorem in_X5_count_5 : ∀ w ∈ u_ws RX5 TX5 10, w ∈ wsX5_count := by decide +kernel
set_option maxHeartbeats 4000000 in
set_option maxRecDepth 100000 in
theorem c_X5_count (l : Launch) (dC : Nat → ClassId) (dI : Nat → Nat → Nat) (cI cZ cJ cW : ClassId) (m_a m_ds_a m_cs_a m_tx_a m_ia_a m_im_a m_ik_a : Nat) (m_sz : Int32) (m_kn : Int32) (m_sg : Int32) (m_fa : Int32) (m_ds : Nat → Int32) (m_cs : Nat → Int32) (m_tx : Nat → Int32) (m_ia : Nat → Int32) (m_im : Nat → Int32) (m_ik : Nat → Int32) (p1 : Int32) (R : Int32) (hM : M_X5_count p1 m_sz m_ds m_cs m_kn m_sg m_fa m_ik = some R) : Met l yX5_count wsX5_count rm_X5_count (va_Pc [.ref m_a, .int p1] (RP (dC, dI) cI cZ cJ cW [(m_a, .inr (5, [.int m_sz, .ref m_ds_a, .ref m_cs_a, .int m_kn, .ref m_tx_a, .int m_sg, .int m_fa, .ref m_ia_a, .ref m_im_a, .ref m_ik_a])), (m_ds_a, .inl (cI, 14, .inl m_ds)), (m_cs_a, .inl (cI, 14, .inl m_cs)), (m_tx_a, .inl (cI, 20, .inl m_tx)), (m_ia_a, .inl (cZ, 16384, .inl m_ia)), (m_im_a, .inl (cI, 60, .inl m_im)), (m_ik_a, .inl (cZ, 2, .inl m_ik))])) (vp_Si (fun r => R = r)) 0 0 (fun _ => False) := by
  refine Met.ofW (cc := cX5_count) (maxL := 5) (ret := (some .int)) (by decide) rfl ?_
  intro p e s m args below meth c s₁ B hml hv
  obtain ⟨rfl, hP, hK, hN⟩ := hv
  have hx := B.exec
  have hb := B.bytes
  have hr := B.returns
  have hts := atoms_spec (ws := wsX5_count) B.pre
  have hown : s.vm.findClass RX5 = some m.cls := findClass_of_methodNamed B.named
  have hlocks := B.notSynchronized
  have hf7 := hts (.fieldLink RX5 7 "WordGroundsModel" "size" "I") (by decide +kernel)
  have hf13 := hts (.fieldLink RX5 13 "WordGroundsModel" "definitions" "[I") (by decide +kernel)
  have hf17 := hts (.fieldLink RX5 17 "WordGroundsModel" "costs" "[I") (by decide +kernel)
  have hf23 := hts (.fieldLink RX5 23 "WordGroundsModel" "fault" "I") (by decide +kernel)
  have hf33 := hts (.fieldLink RX5 33 "WordGroundsModel" "isKept" "[Z") (by decide +kernel)
  have hf44 := hts (.fieldLink RX5 44 "WordGroundsModel" "known" "I") (by decide +kernel)
  have hf47 := hts (.fieldLink RX5 47 "WordGroundsModel" "signs" "I") (by decide +kernel)
  have hl := lv_entry ([.ref m_a, .int p1]) (n := 5) (Nat.le_of_ble_eq_true rfl)
  rw [lg_entry_eq]
  generalize (lg_sl ([.ref m_a, .int p1]) ++ List.replicate (5 - (lg_sl ([.ref m_a, .int p1])).length) Slot.unset).toArray = ls at hl ⊢
  have hl : lv_has ls 5 [(0, .ref m_a), (1, .int p1)] := hl
  have hM : ((M_X5_in p1 10 (9 + m_sz)).bind (fun q10 => if q10 = 0 then (L_X5_count_33 m_sz m_ds (fun (v4_33 : Int32) (v3_33 : Int32) (v2_33 : Int32) => if p1 = 0 then (some m_sz) else (if p1 = 1 then (some m_kn) else (if p1 = 2 then (some v2_33) else (if p1 = 3 then (some v3_33) else (if p1 = 4 then (some m_sg) else (if p1 = 5 then (some m_fa) else (if p1 = 6 then (if (m_ik (0 : Int32).toNatClampNeg) = 0 then (if (m_ik (1 : Int32).toNatClampNeg) = 0 then (some ((0 : Int32) + 0)) else (some ((0 : Int32) + 2))) else (if (m_ik (1 : Int32).toNatClampNeg) = 0 then (some ((1 : Int32) + 0)) else (some ((1 : Int32) + 2)))) else (some (-2))))))))) 40 0 0 0) else (if (p1 - 10) < 0 ∨ 14 ≤ ((p1 - 10)).toNatClampNeg then none else (some (m_cs ((p1 - 10)).toNatClampNeg))))) = some R := hM
  refine lv_iload_n hx hb dX5_count_0 rfl (lv_at hl 1 rfl) ?_
  refine lv_bipush (v := 10) hx hb dX5_count_1 (by decide) ?_
  refine lv_bipush (v := 9) hx hb dX5_count_3 (by decide) ?_
  refine lv_aload_n hx hb dX5_count_5 rfl (lv_at hl 0 rfl) ?_
  refine va_get (D := (dC, dI)) (ci := 5) (v := .int m_sz) (C := RX5) (T := TX5) (N := 10) hx hb hts in_X5_count_5 hown hK hP 0 rfl rfl 0 (by decide) hf7 (fun _ h9 => h9) rfl dX5_count_6 ?_
  refine lv_iadd hx hb dX5_count_9 ?_
  obtain ⟨q10, hv10, hM⟩ := ob_bind hM
  refine vp_callSi (va_Run.run (va_runS (As := [.int p1, .int 10, .int (9 + m_sz)]) (rest := []) ⟨hx, hb, hml, hown, hts⟩ (c_X5_in l dC dI cI cZ cJ cW p1 10 (9 + m_sz) q10 hv10) (va_cwS 3 hts gX5_count_X5_in rfl rfl rfl (by decide +kernel) ⟨Nat.le_of_ble_eq_true rfl, Nat.le_of_ble_eq_true rfl⟩) ⟨TP.blind, fun U hU hW => ⟨rfl, trivial⟩⟩ rfl rfl hl.1 rfl (lv_room (Nat.le_of_ble_eq_true rfl)) dX5_count_10 ⟨Nat.le_of_ble_eq_true rfl, Nat.le_of_ble_eq_true rfl⟩)) (fun r hr => ?_)
  subst hr
  refine lv_if_eq (tgt := 26) hx hb dX5_count_13 (by decide) (fun c_13 => ?_) (fun c_13 => ?_)
  · replace hM := ob_pos c_13 hM
    refine lv_iconst (v := 0) hx hb dX5_count_26 (by decide) ?_
    refine lv_istore_n (lv' := [(2, .int 0), (0, .ref m_a), (1, .int p1)]) hx hb dX5_count_27 rfl hl (by decide) rfl (fun ls hl => ?_)
    refine lv_iconst (v := 0) hx hb dX5_count_28 (by decide) ?_
    refine lv_istore_n (lv' := [(3, .int 0), (2, .int 0), (0, .ref m_a), (1, .int p1)]) hx hb dX5_count_29 rfl hl (by decide) rfl (fun ls hl => ?_)
    refine lv_iconst (v := 0) hx hb dX5_count_30 (by decide) ?_
    refine lv_istore (lv' := [(4, .int 0), (3, .int 0), (2, .int 0), (0, .ref m_a), (1, .int p1)]) hx hb dX5_count_31 hl (by decide) rfl (fun ls hl => ?_)
    obtain ⟨K33, hK33⟩ : ∃ K : Int32 → Int32 → Int32 → Option (Int32), K = (fun (v4_33 : Int32) (v3_33 : Int32) (v2_33 : Int32) => if p1 = 0 then (some m_sz) else (if p1 = 1 then (some m_kn) else (if p1 = 2 then (some v2_33) else (if p1 = 3 then (some v3_33) else (if p1 = 4 then (some m_sg) else (if p1 = 5 then (some m_fa) else (if p1 = 6 then (if (m_ik (0 : Int32).toNatClampNeg) = 0 then (if (m_ik (1 : Int32).toNatClampNeg) = 0 then (some ((0 : Int32) + 0)) else (some ((0 : Int32) + 2))) else (if (m_ik (1 : Int32).toNatClampNeg) = 0 then (some ((1 : Int32) + 0)) else (some ((1 : Int32) + 2)))) else (some (-2))))))))) := ⟨_, rfl⟩
    have hM : L_X5_count_33 m_sz m_ds K33 40 0 0 0 = some R := by rw [hK33]; exact hM
    have hL33 : ∀ (k33 : Nat) (v4_33 : Int32) (v3_33 : Int32) (v2_33 : Int32) (ls : Array Slot), L_X5_count_33 m_sz m_ds K33 k33 v4_33 v3_33 v2_33 = some R → lv_has ls 5 [(4, .int v4_33), (3, .int v3_33), (2, .int v2_33), (0, .ref m_a), (1, .int p1)] → W p l e rm_X5_count s m ([.ref m_a, .int p1] : List Value).toArray below meth c s.heap [] 0 0 (MQ below (vp_Si (fun r => R = r)) ([.ref m_a, .int p1] : List Value).toArray s 0 0 (fun _ => False)) (F0 m 33 ls []) := by
      intro k33
      induction k33 with
      | zero => intro v4_33 v3_33 v2_33 ls hM; exact (ob_none hM).elim
      | succ k33 ih33 =>
        intro v4_33 v3_33 v2_33 ls hM hl
        have hM : (if m_sz ≤ v4_33 then (K33 v4_33 v3_33 v2_33) else (if v4_33 < 0 ∨ 14 ≤ (v4_33).toNatClampNeg then none else (if (m_ds (v4_33).toNatClampNeg) < 0 then (if v4_33 < 0 ∨ 14 ≤ (v4_33).toNatClampNeg then none else (if (m_ds (v4_33).toNatClampNeg) < 0 then (L_X5_count_33 m_sz m_ds K33 k33 (v4_33 + 1) (v3_33 + 0) (v2_33 + 0)) else (if v4_33 < 0 ∨ 14 ≤ (v4_33).toNatClampNeg then none else ((M_X5_bits (m_ds (v4_33).toNatClampNeg)).bind (fun q78 => L_X5_count_33 m_sz m_ds K33 k33 (v4_33 + 1) (v3_33 + q78) (v2_33 + 0)))))) else (if v4_33 < 0 ∨ 14 ≤ (v4_33).toNatClampNeg then none else (if (m_ds (v4_33).toNatClampNeg) < 0 then (L_X5_count_33 m_sz m_ds K33 k33 (v4_33 + 1) (v3_33 + 0) (v2_33 + 1)) else (if v4_33 < 0 ∨ 14 ≤ (v4_33).toNatClampNeg then none else ((M_X5_bits (m_ds (v4_33).toNatClampNeg)).bind (fun q78 => L_X5_count_33 m_sz m_ds K33 k33 (v4_33 + 1) (v3_33 + q78) (v2_33 + 1))))))))) = some R := hM
        refine lv_iload hx hb dX5_count_33 (lv_at hl 0 rfl) ?_
        refine lv_aload_n hx hb dX5_count_35 rfl (lv_at hl 3 rfl) ?_
        refine va_get (D := (dC, dI)) (ci := 5) (v := .int m_sz) (C := RX5) (T := TX5) (N := 10) hx hb hts in_X5_count_5 hown hK hP 0 rfl rfl 0 (by decide) hf7 (fun _ h9 => h9) rfl dX5_count_36 ?_
        refine lv_icmp_ge (tgt := 93) hx hb dX5_count_39 (by decide) (fun c_39 => ?_) (fun c_39 => ?_)
        · replace hM := ob_pos c_39 hM
          have hM : (if p1 = 0 then (some m_sz) else (if p1 = 1 then (some m_kn) else (if p1 = 2 then (some v2_33) else (if p1 = 3 then (some v3_33) else (if p1 = 4 then (some m_sg) else (if p1 = 5 then (some m_fa) else (if p1 = 6 then (if (m_ik (0 : Int32).toNatClampNeg) = 0 then (if (m_ik (1 : Int32).toNatClampNeg) = 0 then (some ((0 : Int32) + 0)) else (some ((0 : Int32) + 2))) else (if (m_ik (1 : Int32).toNatClampNeg) = 0 then (some ((1 : Int32) + 0)) else (some ((1 : Int32) + 2)))) else (some (-2))))))))) = some R := by rw [hK33] at hM; exact hM
          refine lv_iload_n hx hb dX5_count_93 rfl (lv_at hl 4 rfl) ?_
          rcases Decidable.em (p1 = 0) with c_94_0 | c_94_0
          · replace hM := ob_pos c_94_0 hM
            refine lv_tableIn (off := 42) (tgt := 136) hx hb dX5_count_94 (by rw [c_94_0]; decide) (by rw [c_94_0]; decide) (by rw [c_94_0]; rfl) (by decide) ?_
            refine lv_aload_n hx hb dX5_count_136 rfl (lv_at hl 3 rfl) ?_
            refine va_get (D := (dC, dI)) (ci := 5) (v := .int m_sz) (C := RX5) (T := TX5) (N := 10) hx hb hts in_X5_count_5 hown hK hP 0 rfl rfl 0 (by decide) hf7 (fun _ h9 => h9) rfl dX5_count_137 ?_
            exact W.iret (v := m_sz) hx hb hr (fun t ht hW => ⟨_, rfl, (Option.some.inj hM).symm, ht⟩) (fun _ h => by cases h) dX5_count_140
          replace hM := ob_neg c_94_0 hM
          rcases Decidable.em (p1 = 1) with c_94_1 | c_94_1
          · replace hM := ob_pos c_94_1 hM
            refine lv_tableIn (off := 47) (tgt := 141) hx hb dX5_count_94 (by rw [c_94_1]; decide) (by rw [c_94_1]; decide) (by rw [c_94_1]; rfl) (by decide) ?_
            refine lv_aload_n hx hb dX5_count_141 rfl (lv_at hl 3 rfl) ?_
            refine va_get (D := (dC, dI)) (ci := 5) (v := .int m_kn) (C := RX5) (T := TX5) (N := 10) hx hb hts in_X5_count_5 hown hK hP 0 rfl rfl 3 (by decide) hf44 (fun _ h9 => h9) rfl dX5_count_142 ?_
            exact W.iret (v := m_kn) hx hb hr (fun t ht hW => ⟨_, rfl, (Option.some.inj hM).symm, ht⟩) (fun _ h => by cases h) dX5_count_145
          replace hM := ob_neg c_94_1 hM
          rcases Decidable.em (p1 = 2) with c_94_2 | c_94_2
          · replace hM := ob_pos c_94_2 hM
            refine lv_tableIn (off := 52) (tgt := 146) hx hb dX5_count_94 (by rw [c_94_2]; decide) (by rw [c_94_2]; decide) (by rw [c_94_2]; rfl) (by decide) ?_
            refine lv_iload_n hx hb dX5_count_146 rfl (lv_at hl 2 rfl) ?_
            exact W.iret (v := v2_33) hx hb hr (fun t ht hW => ⟨_, rfl, (Option.some.inj hM).symm, ht⟩) (fun _ h => by cases h) dX5_count_147
          replace hM := ob_neg c_94_2 hM
          rcases Decidable.em (p1 = 3) with c_94_3 | c_94_3
          · replace hM := ob_pos c_94_3 hM
            refine lv_tableIn (off := 54) (tgt := 148) hx hb dX5_count_94 (by rw [c_94_3]; decide) (by rw [c_94_3]; decide) (by rw [c_94_3]; rfl) (by decide) ?_
            refine lv_iload_n hx hb dX5_count_148 rfl (lv_at hl 1 rfl) ?_
            exact W.iret (v := v3_33) hx hb hr (fun t ht hW => ⟨_, rfl, (Option.some.inj hM).symm, ht⟩) (fun _ h => by cases h) dX5_count_149
          replace hM := ob_neg c_94_3 hM
          rcases Decidable.em (p1 = 4) with c_94_4 | c_94_4
          · replace hM := ob_pos c_94_4 hM
            refine lv_tableIn (off := 56) (tgt := 150) hx hb dX5_count_94 (by rw [c_94_4]; decide) (by rw [c_94_4]; decide) (by rw [c_94_4]; rfl) (by decide) ?_
            refine lv_aload_n hx hb dX5_count_150 rfl (lv_at hl 3 rfl) ?_
            refine va_get (D := (dC, dI)) (ci := 5) (v := .int m_sg) (C := RX5) (T := TX5) (N := 10) hx hb hts in_X5_count_5 hown hK hP 0 rfl rfl 5 (by decide) hf47 (fun _ h9 => h9) rfl dX5_count_151 ?_
            exact W.iret (v := m_sg) hx hb hr (fun t ht hW => ⟨_, rfl, (Option.some.inj hM).symm, ht⟩) (fun _ h => by cases h) dX5_count_154
          replace hM := ob_neg c_94_4 hM
          rcases Decidable.em (p1 = 5) with c_94_5 | c_94_5
          · replace hM := ob_pos c_94_5 hM
            refine lv_tableIn (off := 61) (tgt := 155) hx hb dX5_count_94 (by rw [c_94_5]; decide) (by rw [c_94_5]; decide) (by rw [c_94_5]; rfl) (by decide) ?_
            refine lv_aload_n hx hb dX5_count_155 rfl (lv_at hl 3 rfl) ?_
            refine va_get (D := (dC, dI)) (ci := 5) (v := .int m_fa) (C := RX5) (T := TX5) (N := 10) hx hb hts in_X5_count_5 hown hK hP 0 rfl rfl 6 (by decide) hf23 (fun _ h9 => h9) rfl dX5_count_156 ?_
            exact W.iret (v := m_fa) hx hb hr (fun t ht hW => ⟨_, rfl, (Option.some.inj hM).symm, ht⟩) (fun _ h => by cases h) dX5_count_159
          replace hM := ob_neg c_94_5 hM
          rcases Decidable.em (p1 = 6) with c_94_6 | c_94_6
          · replace hM := ob_pos c_94_6 hM
            refine lv_tableIn (off := 66) (tgt := 160) hx hb dX5_count_94 (by rw [c_94_6]; decide) (by rw [c_94_6]; decide) (by rw [c_94_6]; rfl) (by decide) ?_
            refine lv_aload_n hx hb dX5_count_160 rfl (lv_at hl 3 rfl) ?_
            refine va_get (D := (dC, dI)) (ci := 5) (v := .ref m_ik_a) (C := RX5) (T := TX5) (N := 10) hx hb hts in_X5_count_5 hown hK hP 0 rfl rfl 9 (by decide) hf33 (fun _ h9 => h9) rfl dX5_count_161 ?_
            refine lv_iconst (v := 0) hx hb dX5_count_164 (by decide) ?_
            refine va_zald hx hb hK hP 6 1 rfl rfl (show vp_in 0 2 from by unfold vp_in; decide) dX5_count_165 ?_
            refine lv_if_eq (tgt := 173) hx hb dX5_count_166 (by decide) (fun c_166 => ?_) (fun c_166 => ?_)
            · replace hM := ob_pos c_166 hM
              refine lv_iconst (v := 0) hx hb dX5_count_173 (by decide) ?_
              refine lv_aload_n hx hb dX5_count_174 rfl (lv_at hl 3 rfl) ?_
              refine va_get (D := (dC, dI)) (ci := 5) (v := .ref m_ik_a) (C := RX5) (T := TX5) (N := 10) hx hb hts in_X5_count_5 hown hK hP 0 rfl rfl 9 (by decide) hf33 (fun _ h9 => h9) rfl dX5_count_175 ?_
              refine lv_iconst (v := 1) hx hb dX5_count_178 (by decide) ?_
              refine va_zald hx hb hK hP 6 1 rfl rfl (show vp_in 1 2 from by unfold vp_in; decide) dX5_count_179 ?_
              refine lv_if_eq (tgt := 187) hx hb dX5_count_180 (by decide) (fun c_180 => ?_) (fun c_180 => ?_)
              · replace hM := ob_pos c_180 hM
                refine lv_iconst (v := 0) hx hb dX5_count_187 (by decide) ?_
                refine lv_iadd hx hb dX5_count_188 ?_
                exact W.iret (v := ((0 : Int32) + 0)) hx hb hr (fun t ht hW => ⟨_, rfl, (Option.some.inj hM).symm, ht⟩) (fun _ h => by cases h) dX5_count_189
              · replace hM := ob_neg c_180 hM
                refine lv_iconst (v := 2) hx hb dX5_count_183 (by decide) ?_
                refine lv_goto (tgt := 188) hx hb dX5_count_184 (by decide) ?_
                refine lv_iadd hx hb dX5_count_188 ?_
                exact W.iret (v := ((0 : Int32) + 2)) hx hb hr (fun t ht hW => ⟨_, rfl, (Option.some.inj hM).symm, ht⟩) (fun _ h => by cases h) dX5_count_189
            · replace hM := ob_neg c_166 hM
              refine lv_iconst (v := 1) hx hb dX5_count_169 (by decide) ?_
              refine lv_goto (tgt := 174) hx hb dX5_count_170 (by decide) ?_
              refine lv_aload_n hx hb dX5_count_174 rfl (lv_at hl 3 rfl) ?_
              refine va_get (D := (dC, dI)) (ci := 5) (v := .ref m_ik_a) (C := RX5) (T := TX5) (N := 10) hx hb hts in_X5_count_5 hown hK hP 0 rfl rfl 9 (by decide) hf33 (fun _ h9 => h9) rfl dX5_count_175 ?_
              refine lv_iconst (v := 1) hx hb dX5_count_178 (by decide) ?_
              refine va_zald hx hb hK hP 6 1 rfl rfl (show vp_in 1 2 from by unfold vp_in; decide) dX5_count_179 ?_
              refine lv_if_eq (tgt := 187) hx hb dX5_count_180 (by decide) (fun c_180 => ?_) (fun c_180 => ?_)
              · replace hM := ob_pos c_180 hM
                refine lv_iconst (v := 0) hx hb dX5_count_187 (by decide) ?_
                refine lv_iadd hx hb dX5_count_188 ?_
                exact W.iret (v := ((1 : Int32) + 0)) hx hb hr (fun t ht hW => ⟨_, rfl, (Option.some.inj hM).symm, ht⟩) (fun _ h => by cases h) dX5_count_189
              · replace hM := ob_neg c_180 hM
                refine lv_iconst (v := 2) hx hb dX5_count_183 (by decide) ?_
                refine lv_goto (tgt := 188) hx hb dX5_count_184 (by decide) ?_
                refine lv_iadd hx hb dX5_count_188 ?_
                exact W.iret (v := ((1 : Int32) + 2)) hx hb hr (fun t ht hW => ⟨_, rfl, (Option.some.inj hM).symm, ht⟩) (fun _ h => by cases h) dX5_count_189
          replace hM := ob_neg c_94_6 hM
          refine lv_tableOut (tgt := 190) hx hb dX5_count_94 (by have z0 := lv_neT (a := 0) c_94_0 (by decide); have z1 := lv_neT (a := 1) c_94_1 (by decide); have z2 := lv_neT (a := 2) c_94_2 (by decide); have z3 := lv_neT (a := 3) c_94_3 (by decide); have z4 := lv_neT (a := 4) c_94_4 (by decide); have z5 := lv_neT (a := 5) c_94_5 (by decide); have z6 := lv_neT (a := 6) c_94_6 (by decide); omega) (by decide) ?_
          refine lv_bipush (v := (-2)) hx hb dX5_count_190 (by decide) ?_
          exact W.iret (v := (-2)) hx hb hr (fun t ht hW => ⟨_, rfl, (Option.some.inj hM).symm, ht⟩) (fun _ h => by cases h) dX5_count_192
        · replace hM := ob_neg c_39 hM
          refine lv_iload_n hx hb dX5_count_42 rfl (lv_at hl 2 rfl) ?_
          refine lv_aload_n hx hb dX5_count_43 rfl (lv_at hl 3 rfl) ?_
          refine va_get (D := (dC, dI)) (ci := 5) (v := .ref m_ds_a) (C := RX5) (T := TX5) (N := 10) hx hb hts in_X5_count_5 hown hK hP 0 rfl rfl 1 (by decide) hf13 (fun _ h9 => h9) rfl dX5_count_44 ?_
          refine lv_iload hx hb dX5_count_47 (lv_at hl 0 rfl) ?_
          obtain ⟨h_49, hM⟩ := ob_get hM
          refine va_iald hx hb hK hP 1 0 rfl rfl h_49 dX5_count_49 ?_
          refine lv_if_lt (tgt := 57) hx hb dX5_count_50 (by decide) (fun c_50 => ?_) (fun c_50 => ?_)
          · replace hM := ob_pos c_50 hM
            refine lv_iconst (v := 0) hx hb dX5_count_57 (by decide) ?_
            refine lv_iadd hx hb dX5_count_58 ?_
            refine lv_istore_n (lv' := [(2, .int (v2_33 + 0)), (4, .int v4_33), (3, .int v3_33), (0, .ref m_a), (1, .int p1)]) hx hb dX5_count_59 rfl hl (by decide) rfl (fun ls hl => ?_)
            refine lv_iload_n hx hb dX5_count_60 rfl (lv_at hl 2 rfl) ?_
            refine lv_aload_n hx hb dX5_count_61 rfl (lv_at hl 3 rfl) ?_
            refine va_get (D := (dC, dI)) (ci := 5) (v := .ref m_ds_a) (C := RX5) (T := TX5) (N := 10) hx hb hts in_X5_count_5 hown hK hP 0 rfl rfl 1 (by decide) hf13 (fun _ h9 => h9) rfl dX5_count_62 ?_
            refine lv_iload hx hb dX5_count_65 (lv_at hl 1 rfl) ?_
            obtain ⟨h_67, hM⟩ := ob_get hM
            refine va_iald hx hb hK hP 1 0 rfl rfl h_67 dX5_count_67 ?_
            refine lv_if_lt (tgt := 84) hx hb dX5_count_68 (by decide) (fun c_68 => ?_) (fun c_68 => ?_)
            · replace hM := ob_pos c_68 hM
              refine lv_iconst (v := 0) hx hb dX5_count_84 (by decide) ?_
              refine lv_iadd hx hb dX5_count_85 ?_
              refine lv_istore_n (lv' := [(3, .int (v3_33 + 0)), (2, .int (v2_33 + 0)), (4, .int v4_33), (0, .ref m_a), (1, .int p1)]) hx hb dX5_count_86 rfl hl (by decide) rfl (fun ls hl => ?_)
              refine lv_iinc (v := (v4_33 + 1)) (lv' := [(4, .int (v4_33 + 1)), (3, .int (v3_33 + 0)), (2, .int (v2_33 + 0)), (0, .ref m_a), (1, .int p1)]) hx hb dX5_count_87 hl (k := 2) rfl (by rfl) (by decide) rfl (fun ls hl => ?_)
              refine lv_goto (tgt := 33) hx hb dX5_count_90 (by decide) ?_
              exact ih33 (v4_33 + 1) (v3_33 + 0) (v2_33 + 0) _ hM (lv_sub hl [0, 1, 2, 3, 4] rfl)
            · replace hM := ob_neg c_68 hM
              refine lv_aload_n hx hb dX5_count_71 rfl (lv_at hl 3 rfl) ?_
              refine va_get (D := (dC, dI)) (ci := 5) (v := .ref m_ds_a) (C := RX5) (T := TX5) (N := 10) hx hb hts in_X5_count_5 hown hK hP 0 rfl rfl 1 (by decide) hf13 (fun _ h9 => h9) rfl dX5_count_72 ?_
              refine lv_iload hx hb dX5_count_75 (lv_at hl 1 rfl) ?_
              obtain ⟨h_77, hM⟩ := ob_get hM
              refine va_iald hx hb hK hP 1 0 rfl rfl h_77 dX5_count_77 ?_
              obtain ⟨q78, hv78, hM⟩ := ob_bind hM
              refine vp_callSi (va_Run.run (va_runS (As := [.int (m_ds (v4_33).toNatClampNeg)]) (rest := [.int v3_33]) ⟨hx, hb, hml, hown, hts⟩ (c_X5_bits l dC dI cI cZ cJ cW (m_ds (v4_33).toNatClampNeg) q78 hv78) (va_cwS 1 hts gX5_count_X5_bits rfl rfl rfl (by decide +kernel) ⟨Nat.le_of_ble_eq_true rfl, Nat.le_of_ble_eq_true rfl⟩) ⟨TP.blind, fun U hU hW => ⟨rfl, trivial⟩⟩ rfl rfl hl.1 rfl (lv_room (Nat.le_of_ble_eq_true rfl)) dX5_count_78 ⟨Nat.le_of_ble_eq_true rfl, Nat.le_of_ble_eq_true rfl⟩)) (fun r hr => ?_)
              subst hr
              refine lv_goto (tgt := 85) hx hb dX5_count_81 (by decide) ?_
              refine lv_iadd hx hb dX5_count_85 ?_
              refine lv_istore_n (lv' := [(3, .int (v3_33 + q78)), (2, .int (v2_33 + 0)), (4, .int v4_33), (0, .ref m_a), (1, .int p1)]) hx hb dX5_count_86 rfl hl (by decide) rfl (fun ls hl => ?_)
              refine lv_iinc (v := (v4_33 + 1)) (lv' := [(4, .int (v4_33 + 1)), (3, .int (v3_33 + q78)), (2, .int (v2_33 + 0)), (0, .ref m_a), (1, .int p1)]) hx hb dX5_count_87 hl (k := 2) rfl (by rfl) (by decide) rfl (fun ls hl => ?_)
              refine lv_goto (tgt := 33) hx hb dX5_count_90 (by decide) ?_
              exact ih33 (v4_33 + 1) (v3_33 + q78) (v2_33 + 0) _ hM (lv_sub hl [0, 1, 2, 3, 4] rfl)
          · replace hM := ob_neg c_50 hM
            refine lv_iconst (v := 1) hx hb dX5_count_53 (by decide) ?_
            refine lv_goto (tgt := 58) hx hb dX5_count_54 (by decide) ?_
            refine lv_iadd hx hb dX5_count_58 ?_
            refine lv_istore_n (lv' := [(2, .int (v2_33 + 1)), (4, .int v4_33), (3, .int v3_33), (0, .ref m_a), (1, .int p1)]) hx hb dX5_count_59 rfl hl (by decide) rfl (fun ls hl => ?_)
            refine lv_iload_n hx hb dX5_count_60 rfl (lv_at hl 2 rfl) ?_
            refine lv_aload_n hx hb dX5_count_61 rfl (lv_at hl 3 rfl) ?_
            refine va_get (D := (dC, dI)) (ci := 5) (v := .ref m_ds_a) (C := RX5) (T := TX5) (N := 10) hx hb hts in_X5_count_5 hown hK hP 0 rfl rfl 1 (by decide) hf13 (fun _ h9 => h9) rfl dX5_count_62 ?_
            refine lv_iload hx hb dX5_count_65 (lv_at hl 1 rfl) ?_
            obtain ⟨h_67, hM⟩ := ob_get hM
            refine va_iald hx hb hK hP 1 0 rfl rfl h_67 dX5_count_67 ?_
            refine lv_if_lt (tgt := 84) hx hb dX5_count_68 (by decide) (fun c_68 => ?_) (fun c_68 => ?_)
            · replace hM := ob_pos c_68 hM
              refine lv_iconst (v := 0) hx hb dX5_count_84 (by decide) ?_
              refine lv_iadd hx hb dX5_count_85 ?_
              refine lv_istore_n (lv' := [(3, .int (v3_33 + 0)), (2, .int (v2_33 + 1)), (4, .int v4_33), (0, .ref m_a), (1, .int p1)]) hx hb dX5_count_86 rfl hl (by decide) rfl (fun ls hl => ?_)
              refine lv_iinc (v := (v4_33 + 1)) (lv' := [(4, .int (v4_33 + 1)), (3, .int (v3_33 + 0)), (2, .int (v2_33 + 1)), (0, .ref m_a), (1, .int p1)]) hx hb dX5_count_87 hl (k := 2) rfl (by rfl) (by decide) rfl (fun ls hl => ?_)
              refine lv_goto (tgt := 33) hx hb dX5_count_90 (by decide) ?_
              exact ih33 (v4_33 + 1) (v3_33 + 0) (v2_33 + 1) _ hM (lv_sub hl [0, 1, 2, 3, 4] rfl)
            · replace hM := ob_neg c_68 hM
              refine lv_aload_n hx hb dX5_count_71 rfl (lv_at hl 3 rfl) ?_
              refine va_get (D := (dC, dI)) (ci := 5) (v := .ref m_ds_a) (C := RX5) (T := TX5) (N := 10) hx hb hts in_X5_count_5 hown hK hP 0 rfl rfl 1 (by decide) hf13 (fun _ h9 => h9) rfl dX5_count_72 ?_
              refine lv_iload hx hb dX5_count_75 (lv_at hl 1 rfl) ?_
              obtain ⟨h_77, hM⟩ := ob_get hM
              refine va_iald hx hb hK hP 1 0 rfl rfl h_77 dX5_count_77 ?_
              obtain ⟨q78, hv78, hM⟩ := ob_bind hM
              refine vp_callSi (va_Run.run (va_runS (As := [.int (m_ds (v4_33).toNatClampNeg)]) (rest := [.int v3_33]) ⟨hx, hb, hml, hown, hts⟩ (c_X5_bits l dC dI cI cZ cJ cW (m_ds (v4_33).toNatClampNeg) q78 hv78) (va_cwS 1 hts gX5_count_X5_bits rfl rfl rfl (by decide +kernel) ⟨Nat.le_of_ble_eq_true rfl, Nat.le_of_ble_eq_true rfl⟩) ⟨TP.blind, fun U hU hW => ⟨rfl, trivial⟩⟩ rfl rfl hl.1 rfl (lv_room (Nat.le_of_ble_eq_true rfl)) dX5_count_78 ⟨Nat.le_of_ble_eq_true rfl, Nat.le_of_ble_eq_true rfl⟩)) (fun r hr => ?_)
              subst hr
              refine lv_goto (tgt := 85) hx hb dX5_count_81 (by decide) ?_
              refine lv_iadd hx hb dX5_count_85 ?_
              refine lv_istore_n (lv' := [(3, .int (v3_33 + q78)), (2, .int (v2_33 + 1)), (4, .int v4_33), (0, .ref m_a), (1, .int p1)]) hx hb dX5_count_86 rfl hl (by decide) rfl (fun ls hl => ?_)
              refine lv_iinc (v := (v4_33 + 1)) (lv' := [(4, .int (v4_33 + 1)), (3, .int (v3_33 + q78)), (2, .int (v2_33 + 1)), (0, .ref m_a), (1, .int p1)]) hx hb dX5_count_87 hl (k := 2) rfl (by rfl) (by decide) rfl (fun ls hl => ?_)
              refine lv_goto (tgt := 33) hx hb dX5_count_90 (by decide) ?_
              exact ih33 (v4_33 + 1) (v3_33 + q78) (v2_33 + 1) _ hM (lv_sub hl [0, 1, 2, 3, 4] rfl)
    exact hL33 40 0 0 0 _ hM (lv_sub hl [0, 1, 2, 3, 4] rfl)
  · replace hM := ob_neg c_13 hM
    refine lv_aload_n hx hb dX5_count_16 rfl (lv_at hl 0 rfl) ?_
    refine va_get (D := (dC, dI)) (ci := 5) (v := .ref m_cs_a) (C := RX5) (T := TX5) (N := 10) hx hb hts in_X5_count_5 hown hK hP 0 rfl rfl 2 (by decide) hf17 (fun _ h9 => h9) rfl dX5_count_17 ?_
    refine lv_iload_n hx hb dX5_count_20 rfl (lv_at hl 1 rfl) ?_
    refine lv_bipush (v := 10) hx hb dX5_count_21 (by decide) ?_
    refine lv_isub hx hb dX5_count_23 ?_
    obtain ⟨h_24, hM⟩ := ob_get hM
    refine va_iald hx hb hK hP 2 0 rfl rfl h_24 dX5_count_24 ?_
    exact W.iret (v := (m_cs ((p1 - 10)).toNatClampNeg)) hx hb hr (fun t ht hW => ⟨_, rfl, (Option.some.inj hM).symm, ht⟩) (fun _ h => by cases h) dX5_count_25
