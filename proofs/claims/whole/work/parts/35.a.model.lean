/-! X5_init -/
abbrev rm_X5_init : Room := { frames := 1, cells := 6, slots := 16494, locals := 20 }
theorem in_X5_init_5 : ∀ w ∈ u_ws RX5 TX5 10, w ∈ wsX5_init := by decide +kernel
set_option maxHeartbeats 4000000 in
set_option maxRecDepth 100000 in
theorem c_X5_init (l : Launch) (dC : Nat → ClassId) (dI : Nat → Nat → Nat) (cI cZ cJ cW : ClassId) (sz : Nat) (m_a : Nat) (R : (Nat → Int32) × (Nat → Int32)) (hM : M_X5_init = some R) : Met l yX5_init wsX5_init rm_X5_init (va_Pc [.ref m_a] (MP (dC, dI) cI cZ cJ cW sz [(m_a, .inr (5, [.int 0, .null, .null, .int 0, .null, .int 0, .int 0, .null, .null, .null]))])) (va_Qv (fun (_ : Nat × Nat × Nat × Nat × Nat × Nat) => True) (fun u t => va_P (dC, dI) vwCl [(m_a, .inr (5, [.int 8, .ref u.1, .ref u.2.1, .int 0, .ref u.2.2.1, .int 0, .int (-6), .ref u.2.2.2.1, .ref u.2.2.2.2.1, .ref u.2.2.2.2.2])), (u.1, .inl (cI, 14, .inl R.1)), (u.2.1, .inl (cI, 14, .inl R.2)), (u.2.2.1, .inl (cI, 20, .inl (fun _ => 0))), (u.2.2.2.1, .inl (cZ, 16384, .inl (fun _ => 0))), (u.2.2.2.2.1, .inl (cI, 60, .inl (fun _ => 0))), (u.2.2.2.2.2, .inl (cZ, 2, .inl (fun _ => 0)))] t.heap ∧ va_D (va_A [(m_a, .inr (5, [.int 0, .null, .null, .int 0, .null, .int 0, .int 0, .null, .null, .null]))] sz) [(m_a, .inr (5, [.int 8, .ref u.1, .ref u.2.1, .int 0, .ref u.2.2.1, .int 0, .int (-6), .ref u.2.2.2.1, .ref u.2.2.2.2.1, .ref u.2.2.2.2.2])), (u.1, .inl (cI, 14, .inl R.1)), (u.2.1, .inl (cI, 14, .inl R.2)), (u.2.2.1, .inl (cI, 20, .inl (fun _ => 0))), (u.2.2.2.1, .inl (cZ, 16384, .inl (fun _ => 0))), (u.2.2.2.2.1, .inl (cI, 60, .inl (fun _ => 0))), (u.2.2.2.2.2, .inl (cZ, 2, .inl (fun _ => 0)))]) (va_A [(m_a, .inr (5, [.int 0, .null, .null, .int 0, .null, .int 0, .int 0, .null, .null, .null]))] sz)) 6 16494 (va_A [(m_a, .inr (5, [.int 0, .null, .null, .int 0, .null, .int 0, .int 0, .null, .null, .null]))] sz) := by
  refine Met.ofW (cc := cX5_init) (maxL := 2) (ret := none) (by decide) rfl ?_
  intro p e s m args below meth c s₁ B hml hv
  obtain ⟨rfl, hsz, hP, hK, hN, hD0⟩ := hv
  have hx := B.exec
  have hb := B.bytes
  have hr := B.returns
  have hts := atoms_spec (ws := wsX5_init) B.pre
  have hown : s.vm.findClass RX5 = some m.cls := findClass_of_methodNamed B.named
  have hlocks := B.notSynchronized
  have hini : meth.name = "<init>" := (name_of_methodNamed B.named B.method).1
  have hoi := hts (.code objectInit ⟨#[0xb1]⟩ 1 none) (List.mem_cons_of_mem _ (List.mem_append_left _ (List.mem_of_getElem? (i := 2) rfl)))
  subst hsz
  have hD := hD0.self (sz := s.heap.size)
  generalize hAe : va_A [(m_a, .inr (5, [.int 0, .null, .null, .int 0, .null, .int 0, .int 0, .null, .null, .null]))] s.heap.size = A at hD ⊢
  have hA : ∀ q : Nat, s.heap.size ≤ q → A q := fun q h => by rw [← hAe]; exact Or.inr h
  have hS : va_S A s.heap s.heap [] := va_S.rf
  have hf7 := hts (.fieldLink RX5 7 "WordGroundsModel" "size" "I") (by decide +kernel)
  have hf13 := hts (.fieldLink RX5 13 "WordGroundsModel" "definitions" "[I") (by decide +kernel)
  have hf17 := hts (.fieldLink RX5 17 "WordGroundsModel" "costs" "[I") (by decide +kernel)
  have hf20 := hts (.fieldLink RX5 20 "WordGroundsModel" "text" "[I") (by decide +kernel)
  have hf23 := hts (.fieldLink RX5 23 "WordGroundsModel" "fault" "I") (by decide +kernel)
  have hf26 := hts (.fieldLink RX5 26 "WordGroundsModel" "isAll" "[Z") (by decide +kernel)
  have hf30 := hts (.fieldLink RX5 30 "WordGroundsModel" "image" "[I") (by decide +kernel)
  have hf33 := hts (.fieldLink RX5 33 "WordGroundsModel" "isKept" "[Z") (by decide +kernel)
  have hl := lv_entry ([.ref m_a]) (n := 2) (Nat.le_of_ble_eq_true rfl)
  rw [lg_entry_eq]
  generalize (lg_sl ([.ref m_a]) ++ List.replicate (2 - (lg_sl ([.ref m_a])).length) Slot.unset).toArray = ls at hl ⊢
  have hl : lv_has ls 2 [(0, .ref m_a)] := hl
  have hP : va_P (dC, dI) vwCl [(m_a, .inr (5, [.int 0, .null, .null, .int 0, .null, .int 0, .int 0, .null, .null, .null]))] s.heap := hP
  have hM : (L_X5_init_66 (fun (v1_66 : Int32) (n_n13_f_66 : Nat → Int32) (n_n21_f_66 : Nat → Int32) => some (n_n13_f_66, n_n21_f_66)) 40 0 (fun _ => 0) (fun _ => 0)) = some R := hM
  refine lv_aload_n hx hb dX5_init_0 rfl (lv_at hl 0 rfl) ?_
  refine W.objInit hx hb hown (hts (.methodLink RX5 1 objectInit) (by decide +kernel)) (hts (.instanceMethod objectInit) (by decide +kernel)) hoi rfl (by rw [hml]; exact hl.1) rfl dX5_init_1 (Nat.le_of_ble_eq_true rfl) (Nat.le_of_ble_eq_true rfl) ?_
  refine W.eq (g2 := F0 m 4 ls []) rfl ?_
  refine lv_aload_n hx hb dX5_init_4 rfl (lv_at hl 0 rfl) ?_
  refine lv_bipush (v := 8) hx hb dX5_init_5 (by decide) ?_
  refine va_put (D := (dC, dI)) (ci := 5) (v := .int 8) (ty := .int) (C := RX5) (T := TX5) (N := 10) hx hb hts in_X5_init_5 tyX5 tyX5_ok nmX5 hown hK hP hD hS 0 rfl rfl 0 (by decide) hf7 (fun _ h9 => h9) rfl (by decide +kernel) rfl rfl (Nat.le_of_ble_eq_true rfl) dX5_init_7 (fun H locs hP hD hS => ?_)
  have hP : va_P (dC, dI) vwCl [(m_a, .inr (5, [.int 8, .null, .null, .int 0, .null, .int 0, .int 0, .null, .null, .null]))] H := hP
  have hD : va_D A [(m_a, .inr (5, [.int 8, .null, .null, .int 0, .null, .int 0, .int 0, .null, .null, .null]))] := hD
  refine lv_aload_n hx hb dX5_init_10 rfl (lv_at hl 0 rfl) ?_
  refine lv_bipush (v := 14) hx hb dX5_init_11 (by decide) ?_
  refine va_newa (atype := .int) (a0 := (14, .inl (fun _ => 0))) hx hb (hts (.arrayClass .int) (by decide +kernel)) rfl hK hP hD hS hA (fun _ => rfl) (by decide) (by decide) (Nat.le_of_ble_eq_true rfl) (Nat.le_of_ble_eq_true rfl) (Nat.le_of_ble_eq_true rfl) dX5_init_13 (fun n13 cA H hKn hP hD hS => ?_)
  obtain rfl : cI = cA := K4.I hK hKn
  have hP : va_P (dC, dI) vwCl [(m_a, .inr (5, [.int 8, .null, .null, .int 0, .null, .int 0, .int 0, .null, .null, .null])), (n13, .inl (cI, 14, .inl (fun _ => 0)))] H := hP
  have hD : va_D A [(m_a, .inr (5, [.int 8, .null, .null, .int 0, .null, .int 0, .int 0, .null, .null, .null])), (n13, .inl (cI, 14, .inl (fun _ => 0)))] := hD
  refine W.widen (k := 1) (n := 14) (Nat.le_of_ble_eq_true rfl) (Nat.le_of_ble_eq_true rfl) ?_
  refine va_putF (D := (dC, dI)) (ci := 5) (v := .ref n13) (ty := (.array .int)) (C := RX5) (T := TX5) (N := 10) hx hb hts in_X5_init_5 tyX5 tyX5_ok nmX5 hown hK hP hD hS 0 rfl rfl 1 (by decide) hf13 (fun _ h9 => h9) rfl hini rfl (by decide +kernel) rfl rfl (Nat.le_of_ble_eq_true rfl) dX5_init_15 (fun H locs hP hD hS => ?_)
  have hP : va_P (dC, dI) vwCl [(m_a, .inr (5, [.int 8, .ref n13, .null, .int 0, .null, .int 0, .int 0, .null, .null, .null])), (n13, .inl (cI, 14, .inl (fun _ => 0)))] H := hP
  have hD : va_D A [(m_a, .inr (5, [.int 8, .ref n13, .null, .int 0, .null, .int 0, .int 0, .null, .null, .null])), (n13, .inl (cI, 14, .inl (fun _ => 0)))] := hD
  refine lv_aload_n hx hb dX5_init_18 rfl (lv_at hl 0 rfl) ?_
  refine lv_bipush (v := 14) hx hb dX5_init_19 (by decide) ?_
  refine va_newa (atype := .int) (a0 := (14, .inl (fun _ => 0))) hx hb (hts (.arrayClass .int) (by decide +kernel)) rfl hK hP hD hS hA (fun _ => rfl) (by decide) (by decide) (Nat.le_of_ble_eq_true rfl) (Nat.le_of_ble_eq_true rfl) (Nat.le_of_ble_eq_true rfl) dX5_init_21 (fun n21 cA H hKn hP hD hS => ?_)
  obtain rfl : cI = cA := K4.I hK hKn
  have hP : va_P (dC, dI) vwCl [(m_a, .inr (5, [.int 8, .ref n13, .null, .int 0, .null, .int 0, .int 0, .null, .null, .null])), (n13, .inl (cI, 14, .inl (fun _ => 0))), (n21, .inl (cI, 14, .inl (fun _ => 0)))] H := hP
  have hD : va_D A [(m_a, .inr (5, [.int 8, .ref n13, .null, .int 0, .null, .int 0, .int 0, .null, .null, .null])), (n13, .inl (cI, 14, .inl (fun _ => 0))), (n21, .inl (cI, 14, .inl (fun _ => 0)))] := hD
  refine W.widen (k := 2) (n := 28) (Nat.le_of_ble_eq_true rfl) (Nat.le_of_ble_eq_true rfl) ?_
  refine va_putF (D := (dC, dI)) (ci := 5) (v := .ref n21) (ty := (.array .int)) (C := RX5) (T := TX5) (N := 10) hx hb hts in_X5_init_5 tyX5 tyX5_ok nmX5 hown hK hP hD hS 0 rfl rfl 2 (by decide) hf17 (fun _ h9 => h9) rfl hini rfl (by decide +kernel) rfl rfl (Nat.le_of_ble_eq_true rfl) dX5_init_23 (fun H locs hP hD hS => ?_)
  have hP : va_P (dC, dI) vwCl [(m_a, .inr (5, [.int 8, .ref n13, .ref n21, .int 0, .null, .int 0, .int 0, .null, .null, .null])), (n13, .inl (cI, 14, .inl (fun _ => 0))), (n21, .inl (cI, 14, .inl (fun _ => 0)))] H := hP
  have hD : va_D A [(m_a, .inr (5, [.int 8, .ref n13, .ref n21, .int 0, .null, .int 0, .int 0, .null, .null, .null])), (n13, .inl (cI, 14, .inl (fun _ => 0))), (n21, .inl (cI, 14, .inl (fun _ => 0)))] := hD
  refine lv_aload_n hx hb dX5_init_26 rfl (lv_at hl 0 rfl) ?_
  refine lv_bipush (v := 20) hx hb dX5_init_27 (by decide) ?_
  refine va_newa (atype := .int) (a0 := (20, .inl (fun _ => 0))) hx hb (hts (.arrayClass .int) (by decide +kernel)) rfl hK hP hD hS hA (fun _ => rfl) (by decide) (by decide) (Nat.le_of_ble_eq_true rfl) (Nat.le_of_ble_eq_true rfl) (Nat.le_of_ble_eq_true rfl) dX5_init_29 (fun n29 cA H hKn hP hD hS => ?_)
  obtain rfl : cI = cA := K4.I hK hKn
  have hP : va_P (dC, dI) vwCl [(m_a, .inr (5, [.int 8, .ref n13, .ref n21, .int 0, .null, .int 0, .int 0, .null, .null, .null])), (n13, .inl (cI, 14, .inl (fun _ => 0))), (n21, .inl (cI, 14, .inl (fun _ => 0))), (n29, .inl (cI, 20, .inl (fun _ => 0)))] H := hP
  have hD : va_D A [(m_a, .inr (5, [.int 8, .ref n13, .ref n21, .int 0, .null, .int 0, .int 0, .null, .null, .null])), (n13, .inl (cI, 14, .inl (fun _ => 0))), (n21, .inl (cI, 14, .inl (fun _ => 0))), (n29, .inl (cI, 20, .inl (fun _ => 0)))] := hD
  refine W.widen (k := 3) (n := 48) (Nat.le_of_ble_eq_true rfl) (Nat.le_of_ble_eq_true rfl) ?_
  refine va_putF (D := (dC, dI)) (ci := 5) (v := .ref n29) (ty := (.array .int)) (C := RX5) (T := TX5) (N := 10) hx hb hts in_X5_init_5 tyX5 tyX5_ok nmX5 hown hK hP hD hS 0 rfl rfl 4 (by decide) hf20 (fun _ h9 => h9) rfl hini rfl (by decide +kernel) rfl rfl (Nat.le_of_ble_eq_true rfl) dX5_init_31 (fun H locs hP hD hS => ?_)
  have hP : va_P (dC, dI) vwCl [(m_a, .inr (5, [.int 8, .ref n13, .ref n21, .int 0, .ref n29, .int 0, .int 0, .null, .null, .null])), (n13, .inl (cI, 14, .inl (fun _ => 0))), (n21, .inl (cI, 14, .inl (fun _ => 0))), (n29, .inl (cI, 20, .inl (fun _ => 0)))] H := hP
  have hD : va_D A [(m_a, .inr (5, [.int 8, .ref n13, .ref n21, .int 0, .ref n29, .int 0, .int 0, .null, .null, .null])), (n13, .inl (cI, 14, .inl (fun _ => 0))), (n21, .inl (cI, 14, .inl (fun _ => 0))), (n29, .inl (cI, 20, .inl (fun _ => 0)))] := hD
  refine lv_aload_n hx hb dX5_init_34 rfl (lv_at hl 0 rfl) ?_
  refine lv_bipush (v := (-6)) hx hb dX5_init_35 (by decide) ?_
  refine va_put (D := (dC, dI)) (ci := 5) (v := .int (-6)) (ty := .int) (C := RX5) (T := TX5) (N := 10) hx hb hts in_X5_init_5 tyX5 tyX5_ok nmX5 hown hK hP hD hS 0 rfl rfl 6 (by decide) hf23 (fun _ h9 => h9) rfl (by decide +kernel) rfl rfl (Nat.le_of_ble_eq_true rfl) dX5_init_37 (fun H locs hP hD hS => ?_)
  have hP : va_P (dC, dI) vwCl [(m_a, .inr (5, [.int 8, .ref n13, .ref n21, .int 0, .ref n29, .int 0, .int (-6), .null, .null, .null])), (n13, .inl (cI, 14, .inl (fun _ => 0))), (n21, .inl (cI, 14, .inl (fun _ => 0))), (n29, .inl (cI, 20, .inl (fun _ => 0)))] H := hP
  have hD : va_D A [(m_a, .inr (5, [.int 8, .ref n13, .ref n21, .int 0, .ref n29, .int 0, .int (-6), .null, .null, .null])), (n13, .inl (cI, 14, .inl (fun _ => 0))), (n21, .inl (cI, 14, .inl (fun _ => 0))), (n29, .inl (cI, 20, .inl (fun _ => 0)))] := hD
  refine lv_aload_n hx hb dX5_init_40 rfl (lv_at hl 0 rfl) ?_
  refine lv_sipush (v := 16384) hx hb dX5_init_41 (by decide) ?_
  refine va_newa (atype := .boolean) (a0 := (16384, .inl (fun _ => 0))) hx hb (hts (.arrayClass .boolean) (by decide +kernel)) rfl hK hP hD hS hA (fun _ => rfl) (by decide) (by decide) (Nat.le_of_ble_eq_true rfl) (Nat.le_of_ble_eq_true rfl) (Nat.le_of_ble_eq_true rfl) dX5_init_44 (fun n44 cA H hKn hP hD hS => ?_)
  obtain rfl : cZ = cA := K4.Z hK hKn
  have hP : va_P (dC, dI) vwCl [(m_a, .inr (5, [.int 8, .ref n13, .ref n21, .int 0, .ref n29, .int 0, .int (-6), .null, .null, .null])), (n13, .inl (cI, 14, .inl (fun _ => 0))), (n21, .inl (cI, 14, .inl (fun _ => 0))), (n29, .inl (cI, 20, .inl (fun _ => 0))), (n44, .inl (cZ, 16384, .inl (fun _ => 0)))] H := hP
  have hD : va_D A [(m_a, .inr (5, [.int 8, .ref n13, .ref n21, .int 0, .ref n29, .int 0, .int (-6), .null, .null, .null])), (n13, .inl (cI, 14, .inl (fun _ => 0))), (n21, .inl (cI, 14, .inl (fun _ => 0))), (n29, .inl (cI, 20, .inl (fun _ => 0))), (n44, .inl (cZ, 16384, .inl (fun _ => 0)))] := hD
  refine W.widen (k := 4) (n := 16432) (Nat.le_of_ble_eq_true rfl) (Nat.le_of_ble_eq_true rfl) ?_
  refine va_putF (D := (dC, dI)) (ci := 5) (v := .ref n44) (ty := (.array .boolean)) (C := RX5) (T := TX5) (N := 10) hx hb hts in_X5_init_5 tyX5 tyX5_ok nmX5 hown hK hP hD hS 0 rfl rfl 7 (by decide) hf26 (fun _ h9 => h9) rfl hini rfl (by decide +kernel) rfl rfl (Nat.le_of_ble_eq_true rfl) dX5_init_46 (fun H locs hP hD hS => ?_)
  have hP : va_P (dC, dI) vwCl [(m_a, .inr (5, [.int 8, .ref n13, .ref n21, .int 0, .ref n29, .int 0, .int (-6), .ref n44, .null, .null])), (n13, .inl (cI, 14, .inl (fun _ => 0))), (n21, .inl (cI, 14, .inl (fun _ => 0))), (n29, .inl (cI, 20, .inl (fun _ => 0))), (n44, .inl (cZ, 16384, .inl (fun _ => 0)))] H := hP
  have hD : va_D A [(m_a, .inr (5, [.int 8, .ref n13, .ref n21, .int 0, .ref n29, .int 0, .int (-6), .ref n44, .null, .null])), (n13, .inl (cI, 14, .inl (fun _ => 0))), (n21, .inl (cI, 14, .inl (fun _ => 0))), (n29, .inl (cI, 20, .inl (fun _ => 0))), (n44, .inl (cZ, 16384, .inl (fun _ => 0)))] := hD
  refine lv_aload_n hx hb dX5_init_49 rfl (lv_at hl 0 rfl) ?_
  refine lv_bipush (v := 60) hx hb dX5_init_50 (by decide) ?_
  refine va_newa (atype := .int) (a0 := (60, .inl (fun _ => 0))) hx hb (hts (.arrayClass .int) (by decide +kernel)) rfl hK hP hD hS hA (fun _ => rfl) (by decide) (by decide) (Nat.le_of_ble_eq_true rfl) (Nat.le_of_ble_eq_true rfl) (Nat.le_of_ble_eq_true rfl) dX5_init_52 (fun n52 cA H hKn hP hD hS => ?_)
  obtain rfl : cI = cA := K4.I hK hKn
  have hP : va_P (dC, dI) vwCl [(m_a, .inr (5, [.int 8, .ref n13, .ref n21, .int 0, .ref n29, .int 0, .int (-6), .ref n44, .null, .null])), (n13, .inl (cI, 14, .inl (fun _ => 0))), (n21, .inl (cI, 14, .inl (fun _ => 0))), (n29, .inl (cI, 20, .inl (fun _ => 0))), (n44, .inl (cZ, 16384, .inl (fun _ => 0))), (n52, .inl (cI, 60, .inl (fun _ => 0)))] H := hP
  have hD : va_D A [(m_a, .inr (5, [.int 8, .ref n13, .ref n21, .int 0, .ref n29, .int 0, .int (-6), .ref n44, .null, .null])), (n13, .inl (cI, 14, .inl (fun _ => 0))), (n21, .inl (cI, 14, .inl (fun _ => 0))), (n29, .inl (cI, 20, .inl (fun _ => 0))), (n44, .inl (cZ, 16384, .inl (fun _ => 0))), (n52, .inl (cI, 60, .inl (fun _ => 0)))] := hD
  refine W.widen (k := 5) (n := 16492) (Nat.le_of_ble_eq_true rfl) (Nat.le_of_ble_eq_true rfl) ?_
  refine va_putF (D := (dC, dI)) (ci := 5) (v := .ref n52) (ty := (.array .int)) (C := RX5) (T := TX5) (N := 10) hx hb hts in_X5_init_5 tyX5 tyX5_ok nmX5 hown hK hP hD hS 0 rfl rfl 8 (by decide) hf30 (fun _ h9 => h9) rfl hini rfl (by decide +kernel) rfl rfl (Nat.le_of_ble_eq_true rfl) dX5_init_54 (fun H locs hP hD hS => ?_)
  have hP : va_P (dC, dI) vwCl [(m_a, .inr (5, [.int 8, .ref n13, .ref n21, .int 0, .ref n29, .int 0, .int (-6), .ref n44, .ref n52, .null])), (n13, .inl (cI, 14, .inl (fun _ => 0))), (n21, .inl (cI, 14, .inl (fun _ => 0))), (n29, .inl (cI, 20, .inl (fun _ => 0))), (n44, .inl (cZ, 16384, .inl (fun _ => 0))), (n52, .inl (cI, 60, .inl (fun _ => 0)))] H := hP
  have hD : va_D A [(m_a, .inr (5, [.int 8, .ref n13, .ref n21, .int 0, .ref n29, .int 0, .int (-6), .ref n44, .ref n52, .null])), (n13, .inl (cI, 14, .inl (fun _ => 0))), (n21, .inl (cI, 14, .inl (fun _ => 0))), (n29, .inl (cI, 20, .inl (fun _ => 0))), (n44, .inl (cZ, 16384, .inl (fun _ => 0))), (n52, .inl (cI, 60, .inl (fun _ => 0)))] := hD
  refine lv_aload_n hx hb dX5_init_57 rfl (lv_at hl 0 rfl) ?_
  refine lv_iconst (v := 2) hx hb dX5_init_58 (by decide) ?_
  refine va_newa (atype := .boolean) (a0 := (2, .inl (fun _ => 0))) hx hb (hts (.arrayClass .boolean) (by decide +kernel)) rfl hK hP hD hS hA (fun _ => rfl) (by decide) (by decide) (Nat.le_of_ble_eq_true rfl) (Nat.le_of_ble_eq_true rfl) (Nat.le_of_ble_eq_true rfl) dX5_init_59 (fun n59 cA H hKn hP hD hS => ?_)
  obtain rfl : cZ = cA := K4.Z hK hKn
  have hP : va_P (dC, dI) vwCl [(m_a, .inr (5, [.int 8, .ref n13, .ref n21, .int 0, .ref n29, .int 0, .int (-6), .ref n44, .ref n52, .null])), (n13, .inl (cI, 14, .inl (fun _ => 0))), (n21, .inl (cI, 14, .inl (fun _ => 0))), (n29, .inl (cI, 20, .inl (fun _ => 0))), (n44, .inl (cZ, 16384, .inl (fun _ => 0))), (n52, .inl (cI, 60, .inl (fun _ => 0))), (n59, .inl (cZ, 2, .inl (fun _ => 0)))] H := hP
  have hD : va_D A [(m_a, .inr (5, [.int 8, .ref n13, .ref n21, .int 0, .ref n29, .int 0, .int (-6), .ref n44, .ref n52, .null])), (n13, .inl (cI, 14, .inl (fun _ => 0))), (n21, .inl (cI, 14, .inl (fun _ => 0))), (n29, .inl (cI, 20, .inl (fun _ => 0))), (n44, .inl (cZ, 16384, .inl (fun _ => 0))), (n52, .inl (cI, 60, .inl (fun _ => 0))), (n59, .inl (cZ, 2, .inl (fun _ => 0)))] := hD
  refine W.widen (k := 6) (n := 16494) (Nat.le_of_ble_eq_true rfl) (Nat.le_of_ble_eq_true rfl) ?_
  refine va_putF (D := (dC, dI)) (ci := 5) (v := .ref n59) (ty := (.array .boolean)) (C := RX5) (T := TX5) (N := 10) hx hb hts in_X5_init_5 tyX5 tyX5_ok nmX5 hown hK hP hD hS 0 rfl rfl 9 (by decide) hf33 (fun _ h9 => h9) rfl hini rfl (by decide +kernel) rfl rfl (Nat.le_of_ble_eq_true rfl) dX5_init_61 (fun H locs hP hD hS => ?_)
  have hP : va_P (dC, dI) vwCl [(m_a, .inr (5, [.int 8, .ref n13, .ref n21, .int 0, .ref n29, .int 0, .int (-6), .ref n44, .ref n52, .ref n59])), (n13, .inl (cI, 14, .inl (fun _ => 0))), (n21, .inl (cI, 14, .inl (fun _ => 0))), (n29, .inl (cI, 20, .inl (fun _ => 0))), (n44, .inl (cZ, 16384, .inl (fun _ => 0))), (n52, .inl (cI, 60, .inl (fun _ => 0))), (n59, .inl (cZ, 2, .inl (fun _ => 0)))] H := hP
  have hD : va_D A [(m_a, .inr (5, [.int 8, .ref n13, .ref n21, .int 0, .ref n29, .int 0, .int (-6), .ref n44, .ref n52, .ref n59])), (n13, .inl (cI, 14, .inl (fun _ => 0))), (n21, .inl (cI, 14, .inl (fun _ => 0))), (n29, .inl (cI, 20, .inl (fun _ => 0))), (n44, .inl (cZ, 16384, .inl (fun _ => 0))), (n52, .inl (cI, 60, .inl (fun _ => 0))), (n59, .inl (cZ, 2, .inl (fun _ => 0)))] := hD
  refine lv_iconst (v := 0) hx hb dX5_init_64 (by decide) ?_
  refine lv_istore_n (lv' := [(1, .int 0), (0, .ref m_a)]) hx hb dX5_init_65 rfl hl (by decide) rfl (fun ls hl => ?_)
  obtain ⟨K66, hK66⟩ : ∃ K : Int32 → (Nat → Int32) → (Nat → Int32) → Option ((Nat → Int32) × (Nat → Int32)), K = (fun (v1_66 : Int32) (n_n13_f_66 : Nat → Int32) (n_n21_f_66 : Nat → Int32) => some (n_n13_f_66, n_n21_f_66)) := ⟨_, rfl⟩
  have hM : L_X5_init_66 K66 40 0 (fun _ => 0) (fun _ => 0) = some R := by rw [hK66]; exact hM
  have hL66 : ∀ (k66 : Nat) (v1_66 : Int32) (n_n13_f_66 : Nat → Int32) (n_n21_f_66 : Nat → Int32) (H : Heap) (locs : List Loc) (ls : Array Slot), L_X5_init_66 K66 k66 v1_66 n_n13_f_66 n_n21_f_66 = some R → va_P (dC, dI) vwCl [(m_a, .inr (5, [.int 8, .ref n13, .ref n21, .int 0, .ref n29, .int 0, .int (-6), .ref n44, .ref n52, .ref n59])), (n13, .inl (cI, 14, .inl n_n13_f_66)), (n21, .inl (cI, 14, .inl n_n21_f_66)), (n29, .inl (cI, 20, .inl (fun _ => 0))), (n44, .inl (cZ, 16384, .inl (fun _ => 0))), (n52, .inl (cI, 60, .inl (fun _ => 0))), (n59, .inl (cZ, 2, .inl (fun _ => 0)))] H → va_D A [(m_a, .inr (5, [.int 8, .ref n13, .ref n21, .int 0, .ref n29, .int 0, .int (-6), .ref n44, .ref n52, .ref n59])), (n13, .inl (cI, 14, .inl n_n13_f_66)), (n21, .inl (cI, 14, .inl n_n21_f_66)), (n29, .inl (cI, 20, .inl (fun _ => 0))), (n44, .inl (cZ, 16384, .inl (fun _ => 0))), (n52, .inl (cI, 60, .inl (fun _ => 0))), (n59, .inl (cZ, 2, .inl (fun _ => 0)))] → va_S A s.heap H locs → lv_has ls 2 [(1, .int v1_66), (0, .ref m_a)] → W p l e rm_X5_init s m ([.ref m_a] : List Value).toArray below meth c H locs 6 16494 (MQ below (va_Qv (fun (_ : Nat × Nat × Nat × Nat × Nat × Nat) => True) (fun u t => va_P (dC, dI) vwCl [(m_a, .inr (5, [.int 8, .ref u.1, .ref u.2.1, .int 0, .ref u.2.2.1, .int 0, .int (-6), .ref u.2.2.2.1, .ref u.2.2.2.2.1, .ref u.2.2.2.2.2])), (u.1, .inl (cI, 14, .inl R.1)), (u.2.1, .inl (cI, 14, .inl R.2)), (u.2.2.1, .inl (cI, 20, .inl (fun _ => 0))), (u.2.2.2.1, .inl (cZ, 16384, .inl (fun _ => 0))), (u.2.2.2.2.1, .inl (cI, 60, .inl (fun _ => 0))), (u.2.2.2.2.2, .inl (cZ, 2, .inl (fun _ => 0)))] t.heap ∧ va_D A [(m_a, .inr (5, [.int 8, .ref u.1, .ref u.2.1, .int 0, .ref u.2.2.1, .int 0, .int (-6), .ref u.2.2.2.1, .ref u.2.2.2.2.1, .ref u.2.2.2.2.2])), (u.1, .inl (cI, 14, .inl R.1)), (u.2.1, .inl (cI, 14, .inl R.2)), (u.2.2.1, .inl (cI, 20, .inl (fun _ => 0))), (u.2.2.2.1, .inl (cZ, 16384, .inl (fun _ => 0))), (u.2.2.2.2.1, .inl (cI, 60, .inl (fun _ => 0))), (u.2.2.2.2.2, .inl (cZ, 2, .inl (fun _ => 0)))]) A) ([.ref m_a] : List Value).toArray s 6 16494 A) (F0 m 66 ls []) := by
    intro k66
    induction k66 with
    | zero => intro v1_66 n_n13_f_66 n_n21_f_66 H locs ls hM; exact (ob_none hM).elim
    | succ k66 ih66 =>
      intro v1_66 n_n13_f_66 n_n21_f_66 H locs ls hM hP hD hS hl
      have hM : (if 14 ≤ v1_66 then (K66 v1_66 n_n13_f_66 n_n21_f_66) else (if v1_66 < 0 ∨ 14 ≤ (v1_66).toNatClampNeg then none else (if v1_66 < 0 ∨ 14 ≤ (v1_66).toNatClampNeg then none else (L_X5_init_66 K66 k66 (v1_66 + 1) (upd n_n13_f_66 (v1_66).toNatClampNeg (-6)) (upd n_n21_f_66 (v1_66).toNatClampNeg 1))))) = some R := hM
      refine lv_iload_n hx hb dX5_init_66 rfl (lv_at hl 0 rfl) ?_
      refine lv_bipush (v := 14) hx hb dX5_init_67 (by decide) ?_
      refine lv_icmp_ge (tgt := 93) hx hb dX5_init_69 (by decide) (fun c_69 => ?_) (fun c_69 => ?_)
      · replace hM := ob_pos c_69 hM
        have hM : (some (n_n13_f_66, n_n21_f_66)) = some R := by rw [hK66] at hM; exact hM
        obtain rfl := Option.some.inj hM
        have hP9 := hP.sub (ws' := [(m_a, .inr (5, [.int 8, .ref n13, .ref n21, .int 0, .ref n29, .int 0, .int (-6), .ref n44, .ref n52, .ref n59])), (n13, .inl (cI, 14, .inl n_n13_f_66)), (n21, .inl (cI, 14, .inl n_n21_f_66)), (n29, .inl (cI, 20, .inl (fun _ => 0))), (n44, .inl (cZ, 16384, .inl (fun _ => 0))), (n52, .inl (cI, 60, .inl (fun _ => 0))), (n59, .inl (cZ, 2, .inl (fun _ => 0)))]) [0, 1, 2, 3, 4, 5, 6] rfl
        have hD9 := hD.sub (ws' := [(m_a, .inr (5, [.int 8, .ref n13, .ref n21, .int 0, .ref n29, .int 0, .int (-6), .ref n44, .ref n52, .ref n59])), (n13, .inl (cI, 14, .inl n_n13_f_66)), (n21, .inl (cI, 14, .inl n_n21_f_66)), (n29, .inl (cI, 20, .inl (fun _ => 0))), (n44, .inl (cZ, 16384, .inl (fun _ => 0))), (n52, .inl (cI, 60, .inl (fun _ => 0))), (n59, .inl (cZ, 2, .inl (fun _ => 0)))]) [0, 1, 2, 3, 4, 5, 6] (by decide) rfl
        refine W.widen (k := 6) (n := 16494) (Nat.le_refl _) (Nat.le_refl _) ?_
        exact W.vret hx hb hr (fun t ht hW => ⟨⟨(n13, n21, n29, n44, n52, n59), rfl, trivial, by rw [ht]; exact hP9, hD9⟩, hS.F ht⟩) hS.2.2 dX5_init_93
      · replace hM := ob_neg c_69 hM
        refine lv_aload_n hx hb dX5_init_72 rfl (lv_at hl 1 rfl) ?_
        refine va_get (D := (dC, dI)) (ci := 5) (v := .ref n13) (C := RX5) (T := TX5) (N := 10) hx hb hts in_X5_init_5 hown hK hP 0 rfl rfl 1 (by decide) hf13 (fun _ h9 => h9) rfl dX5_init_73 ?_
        refine lv_iload_n hx hb dX5_init_76 rfl (lv_at hl 0 rfl) ?_
        refine lv_bipush (v := (-6)) hx hb dX5_init_77 (by decide) ?_
        obtain ⟨h_79, hM⟩ := ob_get hM
        refine va_iast hx hb hK hP hD hS 1 0 rfl rfl h_79 dX5_init_79 (fun H locs hP hD hS => ?_)
        have hP : va_P (dC, dI) vwCl [(m_a, .inr (5, [.int 8, .ref n13, .ref n21, .int 0, .ref n29, .int 0, .int (-6), .ref n44, .ref n52, .ref n59])), (n13, .inl (cI, 14, .inl (upd n_n13_f_66 (v1_66).toNatClampNeg (-6)))), (n21, .inl (cI, 14, .inl n_n21_f_66)), (n29, .inl (cI, 20, .inl (fun _ => 0))), (n44, .inl (cZ, 16384, .inl (fun _ => 0))), (n52, .inl (cI, 60, .inl (fun _ => 0))), (n59, .inl (cZ, 2, .inl (fun _ => 0)))] H := hP
        have hD : va_D A [(m_a, .inr (5, [.int 8, .ref n13, .ref n21, .int 0, .ref n29, .int 0, .int (-6), .ref n44, .ref n52, .ref n59])), (n13, .inl (cI, 14, .inl (upd n_n13_f_66 (v1_66).toNatClampNeg (-6)))), (n21, .inl (cI, 14, .inl n_n21_f_66)), (n29, .inl (cI, 20, .inl (fun _ => 0))), (n44, .inl (cZ, 16384, .inl (fun _ => 0))), (n52, .inl (cI, 60, .inl (fun _ => 0))), (n59, .inl (cZ, 2, .inl (fun _ => 0)))] := hD
        refine lv_aload_n hx hb dX5_init_80 rfl (lv_at hl 1 rfl) ?_
        refine va_get (D := (dC, dI)) (ci := 5) (v := .ref n21) (C := RX5) (T := TX5) (N := 10) hx hb hts in_X5_init_5 hown hK hP 0 rfl rfl 2 (by decide) hf17 (fun _ h9 => h9) rfl dX5_init_81 ?_
        refine lv_iload_n hx hb dX5_init_84 rfl (lv_at hl 0 rfl) ?_
        refine lv_iconst (v := 1) hx hb dX5_init_85 (by decide) ?_
        obtain ⟨h_86, hM⟩ := ob_get hM
        refine va_iast hx hb hK hP hD hS 2 0 rfl rfl h_86 dX5_init_86 (fun H locs hP hD hS => ?_)
        have hP : va_P (dC, dI) vwCl [(m_a, .inr (5, [.int 8, .ref n13, .ref n21, .int 0, .ref n29, .int 0, .int (-6), .ref n44, .ref n52, .ref n59])), (n13, .inl (cI, 14, .inl (upd n_n13_f_66 (v1_66).toNatClampNeg (-6)))), (n21, .inl (cI, 14, .inl (upd n_n21_f_66 (v1_66).toNatClampNeg 1))), (n29, .inl (cI, 20, .inl (fun _ => 0))), (n44, .inl (cZ, 16384, .inl (fun _ => 0))), (n52, .inl (cI, 60, .inl (fun _ => 0))), (n59, .inl (cZ, 2, .inl (fun _ => 0)))] H := hP
        have hD : va_D A [(m_a, .inr (5, [.int 8, .ref n13, .ref n21, .int 0, .ref n29, .int 0, .int (-6), .ref n44, .ref n52, .ref n59])), (n13, .inl (cI, 14, .inl (upd n_n13_f_66 (v1_66).toNatClampNeg (-6)))), (n21, .inl (cI, 14, .inl (upd n_n21_f_66 (v1_66).toNatClampNeg 1))), (n29, .inl (cI, 20, .inl (fun _ => 0))), (n44, .inl (cZ, 16384, .inl (fun _ => 0))), (n52, .inl (cI, 60, .inl (fun _ => 0))), (n59, .inl (cZ, 2, .inl (fun _ => 0)))] := hD
        refine lv_iinc (v := (v1_66 + 1)) (lv' := [(1, .int (v1_66 + 1)), (0, .ref m_a)]) hx hb dX5_init_87 hl (k := 0) rfl (by rfl) (by decide) rfl (fun ls hl => ?_)
        refine lv_goto (tgt := 66) hx hb dX5_init_90 (by decide) ?_
        exact ih66 (v1_66 + 1) (upd n_n13_f_66 (v1_66).toNatClampNeg (-6)) (upd n_n21_f_66 (v1_66).toNatClampNeg 1) _ _ _ hM (hP.sub [0, 1, 2, 3, 4, 5, 6] rfl) (hD.sub [0, 1, 2, 3, 4, 5, 6] (by decide) rfl) hS (lv_sub hl [0, 1] rfl)
  exact hL66 40 0 (fun _ => 0) (fun _ => 0) _ _ _ hM hP hD hS (lv_sub hl [0, 1] rfl)
/-! X5_in -/
abbrev rm_X5_in : Room := { frames := 0, cells := 0, slots := 0, locals := 0 }
set_option maxHeartbeats 4000000 in
set_option maxRecDepth 100000 in
theorem c_X5_in (l : Launch) (dC : Nat → ClassId) (dI : Nat → Nat → Nat) (cI cZ cJ cW : ClassId) (p0 : Int32) (p1 : Int32) (p2 : Int32) (R : Int32) (hM : M_X5_in p0 p1 p2 = some R) : Met l yX5_in wsX5_in rm_X5_in (va_Pc [.int p0, .int p1, .int p2] (fun _ => True)) (vp_Si (fun r => R = r)) 0 0 (fun _ => False) := by
  refine Met.ofW (cc := cX5_in) (maxL := 3) (ret := (some .boolean)) (by decide) rfl ?_
  intro p e s m args below meth c s₁ B hml hv
  obtain ⟨rfl, -⟩ := hv
  have hx := B.exec
  have hb := B.bytes
  have hr := B.returns
  have hts := atoms_spec (ws := wsX5_in) B.pre
  have hown : s.vm.findClass RX5 = some m.cls := findClass_of_methodNamed B.named
  have hlocks := B.notSynchronized
  have hl := lv_entry ([.int p0, .int p1, .int p2]) (n := 3) (Nat.le_of_ble_eq_true rfl)
  rw [lg_entry_eq]
  generalize (lg_sl ([.int p0, .int p1, .int p2]) ++ List.replicate (3 - (lg_sl ([.int p0, .int p1, .int p2])).length) Slot.unset).toArray = ls at hl ⊢
  have hl : lv_has ls 3 [(0, .int p0), (1, .int p1), (2, .int p2)] := hl
  have hM : (if p0 < p1 then (some 0) else (if p2 < p0 then (some 0) else (some 1))) = some R := hM
  refine lv_iload_n hx hb dX5_in_0 rfl (lv_at hl 0 rfl) ?_
  refine lv_iload_n hx hb dX5_in_1 rfl (lv_at hl 1 rfl) ?_
  refine lv_icmp_lt (tgt := 14) hx hb dX5_in_2 (by decide) (fun c_2 => ?_) (fun c_2 => ?_)
  · replace hM := ob_pos c_2 hM
    refine lv_iconst (v := 0) hx hb dX5_in_14 (by decide) ?_
    exact W.zret (v := 0) hx hb hr (by rfl) (fun t ht hW => ⟨_, rfl, (Option.some.inj hM).symm, ht⟩) (fun _ h => by cases h) dX5_in_15
  · replace hM := ob_neg c_2 hM
    refine lv_iload_n hx hb dX5_in_5 rfl (lv_at hl 0 rfl) ?_
    refine lv_iload_n hx hb dX5_in_6 rfl (lv_at hl 2 rfl) ?_
    refine lv_icmp_gt (tgt := 14) hx hb dX5_in_7 (by decide) (fun c_7 => ?_) (fun c_7 => ?_)
    · replace hM := ob_pos c_7 hM
      refine lv_iconst (v := 0) hx hb dX5_in_14 (by decide) ?_
      exact W.zret (v := 0) hx hb hr (by rfl) (fun t ht hW => ⟨_, rfl, (Option.some.inj hM).symm, ht⟩) (fun _ h => by cases h) dX5_in_15
    · replace hM := ob_neg c_7 hM
      refine lv_iconst (v := 1) hx hb dX5_in_10 (by decide) ?_
      refine lv_goto (tgt := 15) hx hb dX5_in_11 (by decide) ?_
      exact W.zret (v := 1) hx hb hr (by rfl) (fun t ht hW => ⟨_, rfl, (Option.some.inj hM).symm, ht⟩) (fun _ h => by cases h) dX5_in_15
/-! X5_isWord -/
abbrev rm_X5_isWord : Room := { frames := 1, cells := 0, slots := 0, locals := 22 }
theorem in_X5_isWord_5 : ∀ w ∈ u_ws RX5 TX5 10, w ∈ wsX5_isWord := by decide +kernel
set_option maxHeartbeats 4000000 in
set_option maxRecDepth 100000 in
theorem c_X5_isWord (l : Launch) (dC : Nat → ClassId) (dI : Nat → Nat → Nat) (cI cZ cJ cW : ClassId) (m_a m_ds_a m_cs_a m_tx_a m_ia_a m_im_a m_ik_a : Nat) (m_sz : Int32) (m_kn : Int32) (m_sg : Int32) (m_fa : Int32) (m_ds : Nat → Int32) (m_cs : Nat → Int32) (m_tx : Nat → Int32) (m_ia : Nat → Int32) (m_im : Nat → Int32) (m_ik : Nat → Int32) (p1 : Int32) (R : Int32) (hM : M_X5_isWord p1 m_sz = some R) : Met l yX5_isWord wsX5_isWord rm_X5_isWord (va_Pc [.ref m_a, .int p1] (RP (dC, dI) cI cZ cJ cW [(m_a, .inr (5, [.int m_sz, .ref m_ds_a, .ref m_cs_a, .int m_kn, .ref m_tx_a, .int m_sg, .int m_fa, .ref m_ia_a, .ref m_im_a, .ref m_ik_a])), (m_ds_a, .inl (cI, 14, .inl m_ds)), (m_cs_a, .inl (cI, 14, .inl m_cs)), (m_tx_a, .inl (cI, 20, .inl m_tx)), (m_ia_a, .inl (cZ, 16384, .inl m_ia)), (m_im_a, .inl (cI, 60, .inl m_im)), (m_ik_a, .inl (cZ, 2, .inl m_ik))])) (vp_Si (fun r => R = r)) 0 0 (fun _ => False) := by
  refine Met.ofW (cc := cX5_isWord) (maxL := 2) (ret := (some .boolean)) (by decide) rfl ?_
  intro p e s m args below meth c s₁ B hml hv
  obtain ⟨rfl, hP, hK, hN⟩ := hv
  have hx := B.exec
  have hb := B.bytes
  have hr := B.returns
  have hts := atoms_spec (ws := wsX5_isWord) B.pre
  have hown : s.vm.findClass RX5 = some m.cls := findClass_of_methodNamed B.named
  have hlocks := B.notSynchronized
  have hf7 := hts (.fieldLink RX5 7 "WordGroundsModel" "size" "I") (by decide +kernel)
  have hl := lv_entry ([.ref m_a, .int p1]) (n := 2) (Nat.le_of_ble_eq_true rfl)
  rw [lg_entry_eq]
  generalize (lg_sl ([.ref m_a, .int p1]) ++ List.replicate (2 - (lg_sl ([.ref m_a, .int p1])).length) Slot.unset).toArray = ls at hl ⊢
  have hl : lv_has ls 2 [(0, .ref m_a), (1, .int p1)] := hl
  have hM : ((M_X5_in p1 0 (m_sz - 1)).bind (fun q8 => if q8 = 0 ∨ q8 = 1 then some q8 else none)) = some R := hM
  refine lv_iload_n hx hb dX5_isWord_0 rfl (lv_at hl 1 rfl) ?_
  refine lv_iconst (v := 0) hx hb dX5_isWord_1 (by decide) ?_
  refine lv_aload_n hx hb dX5_isWord_2 rfl (lv_at hl 0 rfl) ?_
  refine va_get (D := (dC, dI)) (ci := 5) (v := .int m_sz) (C := RX5) (T := TX5) (N := 10) hx hb hts in_X5_isWord_5 hown hK hP 0 rfl rfl 0 (by decide) hf7 (fun _ h9 => h9) rfl dX5_isWord_3 ?_
  refine lv_iconst (v := 1) hx hb dX5_isWord_6 (by decide) ?_
  refine lv_isub hx hb dX5_isWord_7 ?_
  obtain ⟨q8, hv8, hM⟩ := ob_bind hM
  refine vp_callSi (va_Run.run (va_runS (As := [.int p1, .int 0, .int (m_sz - 1)]) (rest := []) ⟨hx, hb, hml, hown, hts⟩ (c_X5_in l dC dI cI cZ cJ cW p1 0 (m_sz - 1) q8 hv8) (va_cwS 3 hts gX5_isWord_X5_in rfl rfl rfl (by decide +kernel) ⟨Nat.le_of_ble_eq_true rfl, Nat.le_of_ble_eq_true rfl⟩) ⟨TP.blind, fun U hU hW => ⟨rfl, trivial⟩⟩ rfl rfl hl.1 rfl (lv_room (Nat.le_of_ble_eq_true rfl)) dX5_isWord_8 ⟨Nat.le_of_ble_eq_true rfl, Nat.le_of_ble_eq_true rfl⟩)) (fun r hr => ?_)
  subst hr
  obtain ⟨h_11, hM⟩ := ob_zr hM
  exact W.zret (v := q8) hx hb hr (nar_b h_11) (fun t ht hW => ⟨_, rfl, (Option.some.inj hM).symm, ht⟩) (fun _ h => by cases h) dX5_isWord_11
/-! X5_all -/
abbrev rm_X5_all : Room := { frames := 0, cells := 0, slots := 0, locals := 0 }
theorem in_X5_all_5 : ∀ w ∈ u_ws RX5 TX5 10, w ∈ wsX5_all := by decide +kernel
set_option maxHeartbeats 4000000 in
set_option maxRecDepth 100000 in
theorem c_X5_all (l : Launch) (dC : Nat → ClassId) (dI : Nat → Nat → Nat) (cI cZ cJ cW : ClassId) (m_a m_ds_a m_cs_a m_tx_a m_ia_a m_im_a m_ik_a : Nat) (m_sz : Int32) (m_kn : Int32) (m_sg : Int32) (m_fa : Int32) (m_ds : Nat → Int32) (m_cs : Nat → Int32) (m_tx : Nat → Int32) (m_ia : Nat → Int32) (m_im : Nat → Int32) (m_ik : Nat → Int32) (R : Int32) (hM : M_X5_all m_sz = some R) : Met l yX5_all wsX5_all rm_X5_all (va_Pc [.ref m_a] (RP (dC, dI) cI cZ cJ cW [(m_a, .inr (5, [.int m_sz, .ref m_ds_a, .ref m_cs_a, .int m_kn, .ref m_tx_a, .int m_sg, .int m_fa, .ref m_ia_a, .ref m_im_a, .ref m_ik_a])), (m_ds_a, .inl (cI, 14, .inl m_ds)), (m_cs_a, .inl (cI, 14, .inl m_cs)), (m_tx_a, .inl (cI, 20, .inl m_tx)), (m_ia_a, .inl (cZ, 16384, .inl m_ia)), (m_im_a, .inl (cI, 60, .inl m_im)), (m_ik_a, .inl (cZ, 2, .inl m_ik))])) (vp_Si (fun r => R = r)) 0 0 (fun _ => False) := by
  refine Met.ofW (cc := cX5_all) (maxL := 1) (ret := (some .int)) (by decide) rfl ?_
  intro p e s m args below meth c s₁ B hml hv
  obtain ⟨rfl, hP, hK, hN⟩ := hv
  have hx := B.exec
  have hb := B.bytes
  have hr := B.returns
  have hts := atoms_spec (ws := wsX5_all) B.pre
  have hown : s.vm.findClass RX5 = some m.cls := findClass_of_methodNamed B.named
  have hlocks := B.notSynchronized
  have hf7 := hts (.fieldLink RX5 7 "WordGroundsModel" "size" "I") (by decide +kernel)
  have hl := lv_entry ([.ref m_a]) (n := 1) (Nat.le_of_ble_eq_true rfl)
  rw [lg_entry_eq]
  generalize (lg_sl ([.ref m_a]) ++ List.replicate (1 - (lg_sl ([.ref m_a])).length) Slot.unset).toArray = ls at hl ⊢
  have hl : lv_has ls 1 [(0, .ref m_a)] := hl
  have hM : (some (((1 : Int32) <<< (m_sz &&& 31)) - 1)) = some R := hM
  refine lv_iconst (v := 1) hx hb dX5_all_0 (by decide) ?_
  refine lv_aload_n hx hb dX5_all_1 rfl (lv_at hl 0 rfl) ?_
  refine va_get (D := (dC, dI)) (ci := 5) (v := .int m_sz) (C := RX5) (T := TX5) (N := 10) hx hb hts in_X5_all_5 hown hK hP 0 rfl rfl 0 (by decide) hf7 (fun _ h9 => h9) rfl dX5_all_2 ?_
  refine lv_ishl hx hb dX5_all_5 ?_
  refine lv_iconst (v := 1) hx hb dX5_all_6 (by decide) ?_
  refine lv_isub hx hb dX5_all_7 ?_
  exact W.iret (v := (((1 : Int32) <<< (m_sz &&& 31)) - 1)) hx hb hr (fun t ht hW => ⟨_, rfl, (Option.some.inj hM).symm, ht⟩) (fun _ h => by cases h) dX5_all_8
/-! X5_isSet -/
abbrev rm_X5_isSet : Room := { frames := 1, cells := 0, slots := 0, locals := 22 }
set_option maxHeartbeats 4000000 in
set_option maxRecDepth 100000 in
theorem c_X5_isSet (l : Launch) (dC : Nat → ClassId) (dI : Nat → Nat → Nat) (cI cZ cJ cW : ClassId) (m_a m_ds_a m_cs_a m_tx_a m_ia_a m_im_a m_ik_a : Nat) (m_sz : Int32) (m_kn : Int32) (m_sg : Int32) (m_fa : Int32) (m_ds : Nat → Int32) (m_cs : Nat → Int32) (m_tx : Nat → Int32) (m_ia : Nat → Int32) (m_im : Nat → Int32) (m_ik : Nat → Int32) (p1 : Int32) (R : Int32) (hM : M_X5_isSet p1 m_sz = some R) : Met l yX5_isSet wsX5_isSet rm_X5_isSet (va_Pc [.ref m_a, .int p1] (RP (dC, dI) cI cZ cJ cW [(m_a, .inr (5, [.int m_sz, .ref m_ds_a, .ref m_cs_a, .int m_kn, .ref m_tx_a, .int m_sg, .int m_fa, .ref m_ia_a, .ref m_im_a, .ref m_ik_a])), (m_ds_a, .inl (cI, 14, .inl m_ds)), (m_cs_a, .inl (cI, 14, .inl m_cs)), (m_tx_a, .inl (cI, 20, .inl m_tx)), (m_ia_a, .inl (cZ, 16384, .inl m_ia)), (m_im_a, .inl (cI, 60, .inl m_im)), (m_ik_a, .inl (cZ, 2, .inl m_ik))])) (vp_Si (fun r => R = r)) 0 0 (fun _ => False) := by
  refine Met.ofW (cc := cX5_isSet) (maxL := 2) (ret := (some .boolean)) (by decide) rfl ?_
  intro p e s m args below meth c s₁ B hml hv
  obtain ⟨rfl, hP, hK, hN⟩ := hv
  have hx := B.exec
  have hb := B.bytes
  have hr := B.returns
  have hts := atoms_spec (ws := wsX5_isSet) B.pre
  have hown : s.vm.findClass RX5 = some m.cls := findClass_of_methodNamed B.named
  have hlocks := B.notSynchronized
  have hl := lv_entry ([.ref m_a, .int p1]) (n := 2) (Nat.le_of_ble_eq_true rfl)
  rw [lg_entry_eq]
  generalize (lg_sl ([.ref m_a, .int p1]) ++ List.replicate (2 - (lg_sl ([.ref m_a, .int p1])).length) Slot.unset).toArray = ls at hl ⊢
  have hl : lv_has ls 2 [(0, .ref m_a), (1, .int p1)] := hl
  have hM : ((M_X5_all m_sz).bind (fun q3 => (M_X5_in p1 0 q3).bind (fun q6 => if q6 = 0 ∨ q6 = 1 then some q6 else none))) = some R := hM
  refine lv_iload_n hx hb dX5_isSet_0 rfl (lv_at hl 1 rfl) ?_
  refine lv_iconst (v := 0) hx hb dX5_isSet_1 (by decide) ?_
  refine lv_aload_n hx hb dX5_isSet_2 rfl (lv_at hl 0 rfl) ?_
  obtain ⟨q3, hv3, hM⟩ := ob_bind hM
  refine vp_callSi (va_Run.run (va_runV (As := []) (rest := [.int 0, .int p1]) ⟨hx, hb, hml, hown, hts⟩ (c_X5_all l dC dI cI cZ cJ cW m_a m_ds_a m_cs_a m_tx_a m_ia_a m_im_a m_ik_a m_sz m_kn m_sg m_fa m_ds m_cs m_tx m_ia m_im m_ik q3 hv3) (cwV 0 hts gX5_isSet_X5_all rfl rfl rfl (by decide +kernel) ⟨Nat.le_of_ble_eq_true rfl, Nat.le_of_ble_eq_true rfl⟩) ⟨RP.blind, va_recv hK hP (ci := 5) (q0 := 0) rfl rfl, fun U hU hW => ⟨rfl, by rw [hU]; exact hP.sub (ws' := [(m_a, .inr (5, [.int m_sz, .ref m_ds_a, .ref m_cs_a, .int m_kn, .ref m_tx_a, .int m_sg, .int m_fa, .ref m_ia_a, .ref m_im_a, .ref m_ik_a])), (m_ds_a, .inl (cI, 14, .inl m_ds)), (m_cs_a, .inl (cI, 14, .inl m_cs)), (m_tx_a, .inl (cI, 20, .inl m_tx)), (m_ia_a, .inl (cZ, 16384, .inl m_ia)), (m_im_a, .inl (cI, 60, .inl m_im)), (m_ik_a, .inl (cZ, 2, .inl m_ik))]) [0, 1, 2, 3, 4, 5, 6] rfl, va_K.moved hW.alike hK, hN.warm hW⟩⟩ rfl rfl hl.1 rfl (lv_room (Nat.le_of_ble_eq_true rfl)) dX5_isSet_3 ⟨Nat.le_of_ble_eq_true rfl, Nat.le_of_ble_eq_true rfl⟩)) (fun r hr => ?_)
  subst hr
  obtain ⟨q6, hv6, hM⟩ := ob_bind hM
  refine vp_callSi (va_Run.run (va_runS (As := [.int p1, .int 0, .int q3]) (rest := []) ⟨hx, hb, hml, hown, hts⟩ (c_X5_in l dC dI cI cZ cJ cW p1 0 q3 q6 hv6) (va_cwS 3 hts gX5_isSet_X5_in rfl rfl rfl (by decide +kernel) ⟨Nat.le_of_ble_eq_true rfl, Nat.le_of_ble_eq_true rfl⟩) ⟨TP.blind, fun U hU hW => ⟨rfl, trivial⟩⟩ rfl rfl hl.1 rfl (lv_room (Nat.le_of_ble_eq_true rfl)) dX5_isSet_6 ⟨Nat.le_of_ble_eq_true rfl, Nat.le_of_ble_eq_true rfl⟩)) (fun r hr => ?_)
  subst hr
  obtain ⟨h_9, hM⟩ := ob_zr hM
  exact W.zret (v := q6) hx hb hr (nar_b h_9) (fun t ht hW => ⟨_, rfl, (Option.some.inj hM).symm, ht⟩) (fun _ h => by cases h) dX5_isSet_9
/-! X5_has -/
abbrev rm_X5_has : Room := { frames := 0, cells := 0, slots := 0, locals := 0 }
set_option maxHeartbeats 4000000 in
set_option maxRecDepth 100000 in
theorem c_X5_has (l : Launch) (dC : Nat → ClassId) (dI : Nat → Nat → Nat) (cI cZ cJ cW : ClassId) (p0 : Int32) (p1 : Int32) (R : Int32) (hM : M_X5_has p0 p1 = some R) : Met l yX5_has wsX5_has rm_X5_has (va_Pc [.int p0, .int p1] (fun _ => True)) (vp_Si (fun r => R = r)) 0 0 (fun _ => False) := by
  refine Met.ofW (cc := cX5_has) (maxL := 2) (ret := (some .boolean)) (by decide) rfl ?_
  intro p e s m args below meth c s₁ B hml hv
  obtain ⟨rfl, -⟩ := hv
  have hx := B.exec
  have hb := B.bytes
  have hr := B.returns
  have hts := atoms_spec (ws := wsX5_has) B.pre
  have hown : s.vm.findClass RX5 = some m.cls := findClass_of_methodNamed B.named
  have hlocks := B.notSynchronized
  have hl := lv_entry ([.int p0, .int p1]) (n := 2) (Nat.le_of_ble_eq_true rfl)
  rw [lg_entry_eq]
  generalize (lg_sl ([.int p0, .int p1]) ++ List.replicate (2 - (lg_sl ([.int p0, .int p1])).length) Slot.unset).toArray = ls at hl ⊢
  have hl : lv_has ls 2 [(0, .int p0), (1, .int p1)] := hl
  have hM : (if ((p0 >>> (p1 &&& 31)) &&& 1) = 1 then (some 1) else (some 0)) = some R := hM
  refine lv_iload_n hx hb dX5_has_0 rfl (lv_at hl 0 rfl) ?_
  refine lv_iload_n hx hb dX5_has_1 rfl (lv_at hl 1 rfl) ?_
  refine lv_ishr hx hb dX5_has_2 ?_
  refine lv_iconst (v := 1) hx hb dX5_has_3 (by decide) ?_
  refine lv_iand hx hb dX5_has_4 ?_
  refine lv_iconst (v := 1) hx hb dX5_has_5 (by decide) ?_
  refine lv_icmp_ne (tgt := 13) hx hb dX5_has_6 (by decide) (fun c_6 => ?_) (fun c_6 => ?_)
  · replace hM := ob_neg c_6 hM
    refine lv_iconst (v := 0) hx hb dX5_has_13 (by decide) ?_
    exact W.zret (v := 0) hx hb hr (by rfl) (fun t ht hW => ⟨_, rfl, (Option.some.inj hM).symm, ht⟩) (fun _ h => by cases h) dX5_has_14
  · replace hM := ob_pos c_6 hM
    refine lv_iconst (v := 1) hx hb dX5_has_9 (by decide) ?_
    refine lv_goto (tgt := 14) hx hb dX5_has_10 (by decide) ?_
    exact W.zret (v := 1) hx hb hr (by rfl) (fun t ht hW => ⟨_, rfl, (Option.some.inj hM).symm, ht⟩) (fun _ h => by cases h) dX5_has_14
/-! X5_bits -/
abbrev rm_X5_bits : Room := { frames := 0, cells := 0, slots := 0, locals := 0 }
set_option maxHeartbeats 4000000 in
set_option maxRecDepth 100000 in
theorem c_X5_bits (l : Launch) (dC : Nat → ClassId) (dI : Nat → Nat → Nat) (cI cZ cJ cW : ClassId) (p0 : Int32) (R : Int32) (hM : M_X5_bits p0 = some R) : Met l yX5_bits wsX5_bits rm_X5_bits (va_Pc [.int p0] (fun _ => True)) (vp_Si (fun r => R = r)) 0 0 (fun _ => False) := by
  refine Met.ofW (cc := cX5_bits) (maxL := 3) (ret := (some .int)) (by decide) rfl ?_
  intro p e s m args below meth c s₁ B hml hv
  obtain ⟨rfl, -⟩ := hv
  have hx := B.exec
  have hb := B.bytes
  have hr := B.returns
  have hts := atoms_spec (ws := wsX5_bits) B.pre
  have hown : s.vm.findClass RX5 = some m.cls := findClass_of_methodNamed B.named
  have hlocks := B.notSynchronized
  have hl := lv_entry ([.int p0]) (n := 3) (Nat.le_of_ble_eq_true rfl)
  rw [lg_entry_eq]
  generalize (lg_sl ([.int p0]) ++ List.replicate (3 - (lg_sl ([.int p0])).length) Slot.unset).toArray = ls at hl ⊢
  have hl : lv_has ls 3 [(0, .int p0)] := hl
  have hM : (L_X5_bits_4 p0 (fun (v2_4 : Int32) (v1_4 : Int32) => some v1_4) 40 0 0) = some R := hM
  refine lv_iconst (v := 0) hx hb dX5_bits_0 (by decide) ?_
  refine lv_istore_n (lv' := [(1, .int 0), (0, .int p0)]) hx hb dX5_bits_1 rfl hl (by decide) rfl (fun ls hl => ?_)
  refine lv_iconst (v := 0) hx hb dX5_bits_2 (by decide) ?_
  refine lv_istore_n (lv' := [(2, .int 0), (1, .int 0), (0, .int p0)]) hx hb dX5_bits_3 rfl hl (by decide) rfl (fun ls hl => ?_)
  obtain ⟨K4, hK4⟩ : ∃ K : Int32 → Int32 → Option (Int32), K = (fun (v2_4 : Int32) (v1_4 : Int32) => some v1_4) := ⟨_, rfl⟩
  have hM : L_X5_bits_4 p0 K4 40 0 0 = some R := by rw [hK4]; exact hM
  have hL4 : ∀ (k4 : Nat) (v2_4 : Int32) (v1_4 : Int32) (ls : Array Slot), L_X5_bits_4 p0 K4 k4 v2_4 v1_4 = some R → lv_has ls 3 [(2, .int v2_4), (1, .int v1_4), (0, .int p0)] → W p l e rm_X5_bits s m ([.int p0] : List Value).toArray below meth c s.heap [] 0 0 (MQ below (vp_Si (fun r => R = r)) ([.int p0] : List Value).toArray s 0 0 (fun _ => False)) (F0 m 4 ls []) := by
    intro k4
    induction k4 with
    | zero => intro v2_4 v1_4 ls hM; exact (ob_none hM).elim
    | succ k4 ih4 =>
      intro v2_4 v1_4 ls hM hl
      have hM : (if 14 ≤ v2_4 then (K4 v2_4 v1_4) else (L_X5_bits_4 p0 K4 k4 (v2_4 + 1) (v1_4 + ((p0 >>> (v2_4 &&& 31)) &&& 1)))) = some R := hM
      refine lv_iload_n hx hb dX5_bits_4 rfl (lv_at hl 0 rfl) ?_
      refine lv_bipush (v := 14) hx hb dX5_bits_5 (by decide) ?_
      refine lv_icmp_ge (tgt := 24) hx hb dX5_bits_7 (by decide) (fun c_7 => ?_) (fun c_7 => ?_)
      · replace hM := ob_pos c_7 hM
        have hM : (some v1_4) = some R := by rw [hK4] at hM; exact hM
        refine lv_iload_n hx hb dX5_bits_24 rfl (lv_at hl 1 rfl) ?_
        exact W.iret (v := v1_4) hx hb hr (fun t ht hW => ⟨_, rfl, (Option.some.inj hM).symm, ht⟩) (fun _ h => by cases h) dX5_bits_25
      · replace hM := ob_neg c_7 hM
        refine lv_iload_n hx hb dX5_bits_10 rfl (lv_at hl 1 rfl) ?_
        refine lv_iload_n hx hb dX5_bits_11 rfl (lv_at hl 2 rfl) ?_
        refine lv_iload_n hx hb dX5_bits_12 rfl (lv_at hl 0 rfl) ?_
        refine lv_ishr hx hb dX5_bits_13 ?_
        refine lv_iconst (v := 1) hx hb dX5_bits_14 (by decide) ?_
        refine lv_iand hx hb dX5_bits_15 ?_
        refine lv_iadd hx hb dX5_bits_16 ?_
        refine lv_istore_n (lv' := [(1, .int (v1_4 + ((p0 >>> (v2_4 &&& 31)) &&& 1))), (2, .int v2_4), (0, .int p0)]) hx hb dX5_bits_17 rfl hl (by decide) rfl (fun ls hl => ?_)
        refine lv_iinc (v := (v2_4 + 1)) (lv' := [(2, .int (v2_4 + 1)), (1, .int (v1_4 + ((p0 >>> (v2_4 &&& 31)) &&& 1))), (0, .int p0)]) hx hb dX5_bits_18 hl (k := 1) rfl (by rfl) (by decide) rfl (fun ls hl => ?_)
        refine lv_goto (tgt := 4) hx hb dX5_bits_21 (by decide) ?_
        exact ih4 (v2_4 + 1) (v1_4 + ((p0 >>> (v2_4 &&& 31)) &&& 1)) _ hM (lv_sub hl [0, 1, 2] rfl)
  exact hL4 40 0 0 _ hM (lv_sub hl [0, 1, 2] rfl)
/-! X5_size -/
abbrev rm_X5_size : Room := { frames := 1, cells := 0, slots := 0, locals := 22 }
theorem in_X5_size_5 : ∀ w ∈ u_ws RX5 TX5 10, w ∈ wsX5_size := by decide +kernel
set_option maxHeartbeats 4000000 in
set_option maxRecDepth 100000 in
theorem c_X5_size (l : Launch) (dC : Nat → ClassId) (dI : Nat → Nat → Nat) (cI cZ cJ cW : ClassId) (sz : Nat) (m_a m_ds_a m_cs_a m_tx_a m_ia_a m_im_a m_ik_a : Nat) (m_sz : Int32) (m_kn : Int32) (m_sg : Int32) (m_fa : Int32) (m_ds : Nat → Int32) (m_cs : Nat → Int32) (m_tx : Nat → Int32) (m_ia : Nat → Int32) (m_im : Nat → Int32) (m_ik : Nat → Int32) (p1 : Int32) (R : Int32 × Int32 × Int32 × (Nat → Int32) × (Nat → Int32)) (hM : M_X5_size p1 m_sz m_ds m_cs m_kn = some R) : Met l yX5_size wsX5_size rm_X5_size (va_Pc [.ref m_a, .int p1] (MP (dC, dI) cI cZ cJ cW sz [(m_a, .inr (5, [.int m_sz, .ref m_ds_a, .ref m_cs_a, .int m_kn, .ref m_tx_a, .int m_sg, .int m_fa, .ref m_ia_a, .ref m_im_a, .ref m_ik_a])), (m_ds_a, .inl (cI, 14, .inl m_ds)), (m_cs_a, .inl (cI, 14, .inl m_cs)), (m_tx_a, .inl (cI, 20, .inl m_tx)), (m_ia_a, .inl (cZ, 16384, .inl m_ia)), (m_im_a, .inl (cI, 60, .inl m_im)), (m_ik_a, .inl (cZ, 2, .inl m_ik))])) (va_Qi (fun (r : Int32) (_ : Unit) => R.1 = r) (PB (dC, dI) (va_A [(m_a, .inr (5, [.int m_sz, .ref m_ds_a, .ref m_cs_a, .int m_kn, .ref m_tx_a, .int m_sg, .int m_fa, .ref m_ia_a, .ref m_im_a, .ref m_ik_a])), (m_ds_a, .inl (cI, 14, .inl m_ds)), (m_cs_a, .inl (cI, 14, .inl m_cs)), (m_tx_a, .inl (cI, 20, .inl m_tx)), (m_ia_a, .inl (cZ, 16384, .inl m_ia)), (m_im_a, .inl (cI, 60, .inl m_im)), (m_ik_a, .inl (cZ, 2, .inl m_ik))] sz) [(m_a, .inr (5, [.int R.2.1, .ref m_ds_a, .ref m_cs_a, .int R.2.2.1, .ref m_tx_a, .int m_sg, .int m_fa, .ref m_ia_a, .ref m_im_a, .ref m_ik_a])), (m_ds_a, .inl (cI, 14, .inl R.2.2.2.1)), (m_cs_a, .inl (cI, 14, .inl R.2.2.2.2)), (m_tx_a, .inl (cI, 20, .inl m_tx)), (m_ia_a, .inl (cZ, 16384, .inl m_ia)), (m_im_a, .inl (cI, 60, .inl m_im)), (m_ik_a, .inl (cZ, 2, .inl m_ik))]) (va_A [(m_a, .inr (5, [.int m_sz, .ref m_ds_a, .ref m_cs_a, .int m_kn, .ref m_tx_a, .int m_sg, .int m_fa, .ref m_ia_a, .ref m_im_a, .ref m_ik_a])), (m_ds_a, .inl (cI, 14, .inl m_ds)), (m_cs_a, .inl (cI, 14, .inl m_cs)), (m_tx_a, .inl (cI, 20, .inl m_tx)), (m_ia_a, .inl (cZ, 16384, .inl m_ia)), (m_im_a, .inl (cI, 60, .inl m_im)), (m_ik_a, .inl (cZ, 2, .inl m_ik))] sz)) 0 0 (va_A [(m_a, .inr (5, [.int m_sz, .ref m_ds_a, .ref m_cs_a, .int m_kn, .ref m_tx_a, .int m_sg, .int m_fa, .ref m_ia_a, .ref m_im_a, .ref m_ik_a])), (m_ds_a, .inl (cI, 14, .inl m_ds)), (m_cs_a, .inl (cI, 14, .inl m_cs)), (m_tx_a, .inl (cI, 20, .inl m_tx)), (m_ia_a, .inl (cZ, 16384, .inl m_ia)), (m_im_a, .inl (cI, 60, .inl m_im)), (m_ik_a, .inl (cZ, 2, .inl m_ik))] sz) := by
  refine Met.ofW (cc := cX5_size) (maxL := 4) (ret := (some .int)) (by decide) rfl ?_
  intro p e s m args below meth c s₁ B hml hv
  obtain ⟨rfl, hsz, hP, hK, hN, hD0⟩ := hv
  have hx := B.exec
  have hb := B.bytes
  have hr := B.returns
  have hts := atoms_spec (ws := wsX5_size) B.pre
  have hown : s.vm.findClass RX5 = some m.cls := findClass_of_methodNamed B.named
  have hlocks := B.notSynchronized
  subst hsz
  have hD := hD0.self (sz := s.heap.size)
  generalize hAe : va_A [(m_a, .inr (5, [.int m_sz, .ref m_ds_a, .ref m_cs_a, .int m_kn, .ref m_tx_a, .int m_sg, .int m_fa, .ref m_ia_a, .ref m_im_a, .ref m_ik_a])), (m_ds_a, .inl (cI, 14, .inl m_ds)), (m_cs_a, .inl (cI, 14, .inl m_cs)), (m_tx_a, .inl (cI, 20, .inl m_tx)), (m_ia_a, .inl (cZ, 16384, .inl m_ia)), (m_im_a, .inl (cI, 60, .inl m_im)), (m_ik_a, .inl (cZ, 2, .inl m_ik))] s.heap.size = A at hD ⊢
  have hA : ∀ q : Nat, s.heap.size ≤ q → A q := fun q h => by rw [← hAe]; exact Or.inr h
  have hS : va_S A s.heap s.heap [] := va_S.rf
  have hf7 := hts (.fieldLink RX5 7 "WordGroundsModel" "size" "I") (by decide +kernel)
  have hf13 := hts (.fieldLink RX5 13 "WordGroundsModel" "definitions" "[I") (by decide +kernel)
  have hf17 := hts (.fieldLink RX5 17 "WordGroundsModel" "costs" "[I") (by decide +kernel)
  have hf44 := hts (.fieldLink RX5 44 "WordGroundsModel" "known" "I") (by decide +kernel)
  have hl := lv_entry ([.ref m_a, .int p1]) (n := 4) (Nat.le_of_ble_eq_true rfl)
  rw [lg_entry_eq]
  generalize (lg_sl ([.ref m_a, .int p1]) ++ List.replicate (4 - (lg_sl ([.ref m_a, .int p1])).length) Slot.unset).toArray = ls at hl ⊢
  have hl : lv_has ls 4 [(0, .ref m_a), (1, .int p1)] := hl
  have hP : va_P (dC, dI) vwCl [(m_a, .inr (5, [.int m_sz, .ref m_ds_a, .ref m_cs_a, .int m_kn, .ref m_tx_a, .int m_sg, .int m_fa, .ref m_ia_a, .ref m_im_a, .ref m_ik_a])), (m_ds_a, .inl (cI, 14, .inl m_ds)), (m_cs_a, .inl (cI, 14, .inl m_cs)), (m_tx_a, .inl (cI, 20, .inl m_tx)), (m_ia_a, .inl (cZ, 16384, .inl m_ia)), (m_im_a, .inl (cI, 60, .inl m_im)), (m_ik_a, .inl (cZ, 2, .inl m_ik))] s.heap := hP
  have hM : ((M_X5_in p1 1 14).bind (fun q4 => if q4 = 0 then (some ((-2), m_sz, m_kn, m_ds, m_cs)) else (L_X5_size_25 p1 (fun (v3_25 : Int32) (m_ds_25 : Nat → Int32) (m_cs_25 : Nat → Int32) => (M_X5_all p1).bind (fun q88 => some (m_sz, p1, (m_kn &&& q88), m_ds_25, m_cs_25))) 40 0 m_ds m_cs))) = some R := hM
  refine lv_iload_n hx hb dX5_size_0 rfl (lv_at hl 1 rfl) ?_
  refine lv_iconst (v := 1) hx hb dX5_size_1 (by decide) ?_
  refine lv_bipush (v := 14) hx hb dX5_size_2 (by decide) ?_
  obtain ⟨q4, hv4, hM⟩ := ob_bind hM
  refine vp_callSi (va_Run.run (va_runS (As := [.int p1, .int 1, .int 14]) (rest := []) ⟨hx, hb, hml, hown, hts⟩ (c_X5_in l dC dI cI cZ cJ cW p1 1 14 q4 hv4) (va_cwS 3 hts gX5_size_X5_in rfl rfl rfl (by decide +kernel) ⟨Nat.le_of_ble_eq_true rfl, Nat.le_of_ble_eq_true rfl⟩) ⟨TP.blind, fun U hU hW => ⟨rfl, trivial⟩⟩ rfl rfl hl.1 rfl (lv_room (Nat.le_of_ble_eq_true rfl)) dX5_size_4 ⟨Nat.le_of_ble_eq_true rfl, Nat.le_of_ble_eq_true rfl⟩)) (fun r hr => ?_)
  subst hr
  refine lv_if_ne (tgt := 13) hx hb dX5_size_7 (by decide) (fun c_7 => ?_) (fun c_7 => ?_)
  · replace hM := ob_neg c_7 hM
    refine lv_aload_n hx hb dX5_size_13 rfl (lv_at hl 0 rfl) ?_
    refine va_get (D := (dC, dI)) (ci := 5) (v := .int m_sz) (C := RX5) (T := TX5) (N := 10) hx hb hts in_X5_size_5 hown hK hP 0 rfl rfl 0 (by decide) hf7 (fun _ h9 => h9) rfl dX5_size_14 ?_
    refine lv_istore_n (lv' := [(2, .int m_sz), (0, .ref m_a), (1, .int p1)]) hx hb dX5_size_17 rfl hl (by decide) rfl (fun ls hl => ?_)
    refine lv_aload_n hx hb dX5_size_18 rfl (lv_at hl 1 rfl) ?_
    refine lv_iload_n hx hb dX5_size_19 rfl (lv_at hl 2 rfl) ?_
    refine va_put (D := (dC, dI)) (ci := 5) (v := .int p1) (ty := .int) (C := RX5) (T := TX5) (N := 10) hx hb hts in_X5_size_5 tyX5 tyX5_ok nmX5 hown hK hP hD hS 0 rfl rfl 0 (by decide) hf7 (fun _ h9 => h9) rfl (by decide +kernel) rfl rfl (Nat.le_of_ble_eq_true rfl) dX5_size_20 (fun H locs hP hD hS => ?_)
    have hP : va_P (dC, dI) vwCl [(m_a, .inr (5, [.int p1, .ref m_ds_a, .ref m_cs_a, .int m_kn, .ref m_tx_a, .int m_sg, .int m_fa, .ref m_ia_a, .ref m_im_a, .ref m_ik_a])), (m_ds_a, .inl (cI, 14, .inl m_ds)), (m_cs_a, .inl (cI, 14, .inl m_cs)), (m_tx_a, .inl (cI, 20, .inl m_tx)), (m_ia_a, .inl (cZ, 16384, .inl m_ia)), (m_im_a, .inl (cI, 60, .inl m_im)), (m_ik_a, .inl (cZ, 2, .inl m_ik))] H := hP
    have hD : va_D A [(m_a, .inr (5, [.int p1, .ref m_ds_a, .ref m_cs_a, .int m_kn, .ref m_tx_a, .int m_sg, .int m_fa, .ref m_ia_a, .ref m_im_a, .ref m_ik_a])), (m_ds_a, .inl (cI, 14, .inl m_ds)), (m_cs_a, .inl (cI, 14, .inl m_cs)), (m_tx_a, .inl (cI, 20, .inl m_tx)), (m_ia_a, .inl (cZ, 16384, .inl m_ia)), (m_im_a, .inl (cI, 60, .inl m_im)), (m_ik_a, .inl (cZ, 2, .inl m_ik))] := hD
    refine lv_iconst (v := 0) hx hb dX5_size_23 (by decide) ?_
    refine lv_istore_n (lv' := [(3, .int 0), (2, .int m_sz), (0, .ref m_a), (1, .int p1)]) hx hb dX5_size_24 rfl hl (by decide) rfl (fun ls hl => ?_)
    obtain ⟨K25, hK25⟩ : ∃ K : Int32 → (Nat → Int32) → (Nat → Int32) → Option (Int32 × Int32 × Int32 × (Nat → Int32) × (Nat → Int32)), K = (fun (v3_25 : Int32) (m_ds_25 : Nat → Int32) (m_cs_25 : Nat → Int32) => (M_X5_all p1).bind (fun q88 => some (m_sz, p1, (m_kn &&& q88), m_ds_25, m_cs_25))) := ⟨_, rfl⟩
    have hM : L_X5_size_25 p1 K25 40 0 m_ds m_cs = some R := by rw [hK25]; exact hM
    have hL25 : ∀ (k25 : Nat) (v3_25 : Int32) (m_ds_25 : Nat → Int32) (m_cs_25 : Nat → Int32) (H : Heap) (locs : List Loc) (ls : Array Slot), L_X5_size_25 p1 K25 k25 v3_25 m_ds_25 m_cs_25 = some R → va_P (dC, dI) vwCl [(m_a, .inr (5, [.int p1, .ref m_ds_a, .ref m_cs_a, .int m_kn, .ref m_tx_a, .int m_sg, .int m_fa, .ref m_ia_a, .ref m_im_a, .ref m_ik_a])), (m_ds_a, .inl (cI, 14, .inl m_ds_25)), (m_cs_a, .inl (cI, 14, .inl m_cs_25)), (m_tx_a, .inl (cI, 20, .inl m_tx)), (m_ia_a, .inl (cZ, 16384, .inl m_ia)), (m_im_a, .inl (cI, 60, .inl m_im)), (m_ik_a, .inl (cZ, 2, .inl m_ik))] H → va_D A [(m_a, .inr (5, [.int p1, .ref m_ds_a, .ref m_cs_a, .int m_kn, .ref m_tx_a, .int m_sg, .int m_fa, .ref m_ia_a, .ref m_im_a, .ref m_ik_a])), (m_ds_a, .inl (cI, 14, .inl m_ds_25)), (m_cs_a, .inl (cI, 14, .inl m_cs_25)), (m_tx_a, .inl (cI, 20, .inl m_tx)), (m_ia_a, .inl (cZ, 16384, .inl m_ia)), (m_im_a, .inl (cI, 60, .inl m_im)), (m_ik_a, .inl (cZ, 2, .inl m_ik))] → va_S A s.heap H locs → lv_has ls 4 [(3, .int v3_25), (2, .int m_sz), (0, .ref m_a), (1, .int p1)] → W p l e rm_X5_size s m ([.ref m_a, .int p1] : List Value).toArray below meth c H locs 0 0 (MQ below (va_Qi (fun (r : Int32) (_ : Unit) => R.1 = r) (PB (dC, dI) A [(m_a, .inr (5, [.int R.2.1, .ref m_ds_a, .ref m_cs_a, .int R.2.2.1, .ref m_tx_a, .int m_sg, .int m_fa, .ref m_ia_a, .ref m_im_a, .ref m_ik_a])), (m_ds_a, .inl (cI, 14, .inl R.2.2.2.1)), (m_cs_a, .inl (cI, 14, .inl R.2.2.2.2)), (m_tx_a, .inl (cI, 20, .inl m_tx)), (m_ia_a, .inl (cZ, 16384, .inl m_ia)), (m_im_a, .inl (cI, 60, .inl m_im)), (m_ik_a, .inl (cZ, 2, .inl m_ik))]) A) ([.ref m_a, .int p1] : List Value).toArray s 0 0 A) (F0 m 25 ls []) := by
      intro k25
      induction k25 with
      | zero => intro v3_25 m_ds_25 m_cs_25 H locs ls hM; exact (ob_none hM).elim
      | succ k25 ih25 =>
        intro v3_25 m_ds_25 m_cs_25 H locs ls hM hP hD hS hl
        have hM : (if 14 ≤ v3_25 then (K25 v3_25 m_ds_25 m_cs_25) else (if v3_25 < p1 then (if v3_25 < 0 ∨ 14 ≤ (v3_25).toNatClampNeg then none else (if (m_ds_25 (v3_25).toNatClampNeg) < 0 then (L_X5_size_25 p1 K25 k25 (v3_25 + 1) m_ds_25 m_cs_25) else (if v3_25 < 0 ∨ 14 ≤ (v3_25).toNatClampNeg then none else ((M_X5_all p1).bind (fun q71 => if v3_25 < 0 ∨ 14 ≤ (v3_25).toNatClampNeg then none else (L_X5_size_25 p1 K25 k25 (v3_25 + 1) (upd m_ds_25 (v3_25).toNatClampNeg ((m_ds_25 (v3_25).toNatClampNeg) &&& q71)) m_cs_25)))))) else (if v3_25 < 0 ∨ 14 ≤ (v3_25).toNatClampNeg then none else (if v3_25 < 0 ∨ 14 ≤ (v3_25).toNatClampNeg then none else (L_X5_size_25 p1 K25 k25 (v3_25 + 1) (upd m_ds_25 (v3_25).toNatClampNeg (-6)) (upd m_cs_25 (v3_25).toNatClampNeg 1)))))) = some R := hM
        refine lv_iload_n hx hb dX5_size_25 rfl (lv_at hl 0 rfl) ?_
        refine lv_bipush (v := 14) hx hb dX5_size_26 (by decide) ?_
        refine lv_icmp_ge (tgt := 82) hx hb dX5_size_28 (by decide) (fun c_28 => ?_) (fun c_28 => ?_)
        · replace hM := ob_pos c_28 hM
          have hM : ((M_X5_all p1).bind (fun q88 => some (m_sz, p1, (m_kn &&& q88), m_ds_25, m_cs_25))) = some R := by rw [hK25] at hM; exact hM
          refine lv_aload_n hx hb dX5_size_82 rfl (lv_at hl 2 rfl) ?_
          refine lv_dup hx hb dX5_size_83 rfl ?_
          refine va_get (D := (dC, dI)) (ci := 5) (v := .int m_kn) (C := RX5) (T := TX5) (N := 10) hx hb hts in_X5_size_5 hown hK hP 0 rfl rfl 3 (by decide) hf44 (fun _ h9 => h9) rfl dX5_size_84 ?_
          refine lv_aload_n hx hb dX5_size_87 rfl (lv_at hl 2 rfl) ?_
          obtain ⟨q88, hv88, hM⟩ := ob_bind hM
          refine vp_callSi (va_Run.run (va_runV (As := []) (rest := [.int m_kn, .ref m_a]) ⟨hx, hb, hml, hown, hts⟩ (c_X5_all l dC dI cI cZ cJ cW m_a m_ds_a m_cs_a m_tx_a m_ia_a m_im_a m_ik_a p1 m_kn m_sg m_fa m_ds_25 m_cs_25 m_tx m_ia m_im m_ik q88 hv88) (cwV 0 hts gX5_size_X5_all rfl rfl rfl (by decide +kernel) ⟨Nat.le_of_ble_eq_true rfl, Nat.le_of_ble_eq_true rfl⟩) ⟨RP.blind, va_recv hK hP (ci := 5) (q0 := 0) rfl rfl, fun U hU hW => ⟨rfl, by rw [hU]; exact hP.sub (ws' := [(m_a, .inr (5, [.int p1, .ref m_ds_a, .ref m_cs_a, .int m_kn, .ref m_tx_a, .int m_sg, .int m_fa, .ref m_ia_a, .ref m_im_a, .ref m_ik_a])), (m_ds_a, .inl (cI, 14, .inl m_ds_25)), (m_cs_a, .inl (cI, 14, .inl m_cs_25)), (m_tx_a, .inl (cI, 20, .inl m_tx)), (m_ia_a, .inl (cZ, 16384, .inl m_ia)), (m_im_a, .inl (cI, 60, .inl m_im)), (m_ik_a, .inl (cZ, 2, .inl m_ik))]) [0, 1, 2, 3, 4, 5, 6] rfl, va_K.moved hW.alike hK, hN.warm hW⟩⟩ rfl rfl hl.1 rfl (lv_room (Nat.le_of_ble_eq_true rfl)) dX5_size_88 ⟨Nat.le_of_ble_eq_true rfl, Nat.le_of_ble_eq_true rfl⟩)) (fun r hr => ?_)
          subst hr
          refine lv_iand hx hb dX5_size_91 ?_
          refine va_put (D := (dC, dI)) (ci := 5) (v := .int (m_kn &&& q88)) (ty := .int) (C := RX5) (T := TX5) (N := 10) hx hb hts in_X5_size_5 tyX5 tyX5_ok nmX5 hown hK hP hD hS 0 rfl rfl 3 (by decide) hf44 (fun _ h9 => h9) rfl (by decide +kernel) rfl rfl (Nat.le_of_ble_eq_true rfl) dX5_size_92 (fun H locs hP hD hS => ?_)
          have hP : va_P (dC, dI) vwCl [(m_a, .inr (5, [.int p1, .ref m_ds_a, .ref m_cs_a, .int (m_kn &&& q88), .ref m_tx_a, .int m_sg, .int m_fa, .ref m_ia_a, .ref m_im_a, .ref m_ik_a])), (m_ds_a, .inl (cI, 14, .inl m_ds_25)), (m_cs_a, .inl (cI, 14, .inl m_cs_25)), (m_tx_a, .inl (cI, 20, .inl m_tx)), (m_ia_a, .inl (cZ, 16384, .inl m_ia)), (m_im_a, .inl (cI, 60, .inl m_im)), (m_ik_a, .inl (cZ, 2, .inl m_ik))] H := hP
          have hD : va_D A [(m_a, .inr (5, [.int p1, .ref m_ds_a, .ref m_cs_a, .int (m_kn &&& q88), .ref m_tx_a, .int m_sg, .int m_fa, .ref m_ia_a, .ref m_im_a, .ref m_ik_a])), (m_ds_a, .inl (cI, 14, .inl m_ds_25)), (m_cs_a, .inl (cI, 14, .inl m_cs_25)), (m_tx_a, .inl (cI, 20, .inl m_tx)), (m_ia_a, .inl (cZ, 16384, .inl m_ia)), (m_im_a, .inl (cI, 60, .inl m_im)), (m_ik_a, .inl (cZ, 2, .inl m_ik))] := hD
          refine lv_iload_n hx hb dX5_size_95 rfl (lv_at hl 1 rfl) ?_
          obtain rfl := Option.some.inj hM
          have hP9 := hP.sub (ws' := [(m_a, .inr (5, [.int p1, .ref m_ds_a, .ref m_cs_a, .int (m_kn &&& q88), .ref m_tx_a, .int m_sg, .int m_fa, .ref m_ia_a, .ref m_im_a, .ref m_ik_a])), (m_ds_a, .inl (cI, 14, .inl m_ds_25)), (m_cs_a, .inl (cI, 14, .inl m_cs_25)), (m_tx_a, .inl (cI, 20, .inl m_tx)), (m_ia_a, .inl (cZ, 16384, .inl m_ia)), (m_im_a, .inl (cI, 60, .inl m_im)), (m_ik_a, .inl (cZ, 2, .inl m_ik))]) [0, 1, 2, 3, 4, 5, 6] rfl
          have hD9 := hD.sub (ws' := [(m_a, .inr (5, [.int p1, .ref m_ds_a, .ref m_cs_a, .int (m_kn &&& q88), .ref m_tx_a, .int m_sg, .int m_fa, .ref m_ia_a, .ref m_im_a, .ref m_ik_a])), (m_ds_a, .inl (cI, 14, .inl m_ds_25)), (m_cs_a, .inl (cI, 14, .inl m_cs_25)), (m_tx_a, .inl (cI, 20, .inl m_tx)), (m_ia_a, .inl (cZ, 16384, .inl m_ia)), (m_im_a, .inl (cI, 60, .inl m_im)), (m_ik_a, .inl (cZ, 2, .inl m_ik))]) [0, 1, 2, 3, 4, 5, 6] (by decide) rfl
          exact W.iret (v := m_sz) hx hb hr (fun t ht hW => ⟨⟨_, (), rfl, rfl, by rw [ht]; exact hP9, hD9⟩, hS.F ht⟩) hS.2.2 dX5_size_96
        · replace hM := ob_neg c_28 hM
          refine lv_iload_n hx hb dX5_size_31 rfl (lv_at hl 0 rfl) ?_
          refine lv_iload_n hx hb dX5_size_32 rfl (lv_at hl 3 rfl) ?_
          refine lv_icmp_lt (tgt := 54) hx hb dX5_size_33 (by decide) (fun c_33 => ?_) (fun c_33 => ?_)
          · replace hM := ob_pos c_33 hM
            refine lv_aload_n hx hb dX5_size_54 rfl (lv_at hl 2 rfl) ?_
            refine va_get (D := (dC, dI)) (ci := 5) (v := .ref m_ds_a) (C := RX5) (T := TX5) (N := 10) hx hb hts in_X5_size_5 hown hK hP 0 rfl rfl 1 (by decide) hf13 (fun _ h9 => h9) rfl dX5_size_55 ?_
            refine lv_iload_n hx hb dX5_size_58 rfl (lv_at hl 0 rfl) ?_
            obtain ⟨h_59, hM⟩ := ob_get hM
            refine va_iald hx hb hK hP 1 0 rfl rfl h_59 dX5_size_59 ?_
            refine lv_if_lt (tgt := 76) hx hb dX5_size_60 (by decide) (fun c_60 => ?_) (fun c_60 => ?_)
            · replace hM := ob_pos c_60 hM
              refine lv_iinc (v := (v3_25 + 1)) (lv' := [(3, .int (v3_25 + 1)), (2, .int m_sz), (0, .ref m_a), (1, .int p1)]) hx hb dX5_size_76 hl (k := 0) rfl (by rfl) (by decide) rfl (fun ls hl => ?_)
              refine lv_goto (tgt := 25) hx hb dX5_size_79 (by decide) ?_
              exact ih25 (v3_25 + 1) m_ds_25 m_cs_25 _ _ _ hM (hP.sub [0, 1, 2, 3, 4, 5, 6] rfl) (hD.sub [0, 1, 2, 3, 4, 5, 6] (by decide) rfl) hS (lv_sub hl [0, 1, 2, 3] rfl)
            · replace hM := ob_neg c_60 hM
              refine lv_aload_n hx hb dX5_size_63 rfl (lv_at hl 2 rfl) ?_
              refine va_get (D := (dC, dI)) (ci := 5) (v := .ref m_ds_a) (C := RX5) (T := TX5) (N := 10) hx hb hts in_X5_size_5 hown hK hP 0 rfl rfl 1 (by decide) hf13 (fun _ h9 => h9) rfl dX5_size_64 ?_
              refine lv_iload_n hx hb dX5_size_67 rfl (lv_at hl 0 rfl) ?_
              refine lv_dup2_11 hx hb dX5_size_68 rfl rfl ?_
              obtain ⟨h_69, hM⟩ := ob_get hM
              refine va_iald hx hb hK hP 1 0 rfl rfl h_69 dX5_size_69 ?_
              refine lv_aload_n hx hb dX5_size_70 rfl (lv_at hl 2 rfl) ?_
              obtain ⟨q71, hv71, hM⟩ := ob_bind hM
              refine vp_callSi (va_Run.run (va_runV (As := []) (rest := [.int (m_ds_25 (v3_25).toNatClampNeg), .int v3_25, .ref m_ds_a]) ⟨hx, hb, hml, hown, hts⟩ (c_X5_all l dC dI cI cZ cJ cW m_a m_ds_a m_cs_a m_tx_a m_ia_a m_im_a m_ik_a p1 m_kn m_sg m_fa m_ds_25 m_cs_25 m_tx m_ia m_im m_ik q71 hv71) (cwV 0 hts gX5_size_X5_all rfl rfl rfl (by decide +kernel) ⟨Nat.le_of_ble_eq_true rfl, Nat.le_of_ble_eq_true rfl⟩) ⟨RP.blind, va_recv hK hP (ci := 5) (q0 := 0) rfl rfl, fun U hU hW => ⟨rfl, by rw [hU]; exact hP.sub (ws' := [(m_a, .inr (5, [.int p1, .ref m_ds_a, .ref m_cs_a, .int m_kn, .ref m_tx_a, .int m_sg, .int m_fa, .ref m_ia_a, .ref m_im_a, .ref m_ik_a])), (m_ds_a, .inl (cI, 14, .inl m_ds_25)), (m_cs_a, .inl (cI, 14, .inl m_cs_25)), (m_tx_a, .inl (cI, 20, .inl m_tx)), (m_ia_a, .inl (cZ, 16384, .inl m_ia)), (m_im_a, .inl (cI, 60, .inl m_im)), (m_ik_a, .inl (cZ, 2, .inl m_ik))]) [0, 1, 2, 3, 4, 5, 6] rfl, va_K.moved hW.alike hK, hN.warm hW⟩⟩ rfl rfl hl.1 rfl (lv_room (Nat.le_of_ble_eq_true rfl)) dX5_size_71 ⟨Nat.le_of_ble_eq_true rfl, Nat.le_of_ble_eq_true rfl⟩)) (fun r hr => ?_)
              subst hr
              refine lv_iand hx hb dX5_size_74 ?_
              obtain ⟨h_75, hM⟩ := ob_get hM
              refine va_iast hx hb hK hP hD hS 1 0 rfl rfl h_75 dX5_size_75 (fun H locs hP hD hS => ?_)
              have hP : va_P (dC, dI) vwCl [(m_a, .inr (5, [.int p1, .ref m_ds_a, .ref m_cs_a, .int m_kn, .ref m_tx_a, .int m_sg, .int m_fa, .ref m_ia_a, .ref m_im_a, .ref m_ik_a])), (m_ds_a, .inl (cI, 14, .inl (upd m_ds_25 (v3_25).toNatClampNeg ((m_ds_25 (v3_25).toNatClampNeg) &&& q71)))), (m_cs_a, .inl (cI, 14, .inl m_cs_25)), (m_tx_a, .inl (cI, 20, .inl m_tx)), (m_ia_a, .inl (cZ, 16384, .inl m_ia)), (m_im_a, .inl (cI, 60, .inl m_im)), (m_ik_a, .inl (cZ, 2, .inl m_ik))] H := hP
              have hD : va_D A [(m_a, .inr (5, [.int p1, .ref m_ds_a, .ref m_cs_a, .int m_kn, .ref m_tx_a, .int m_sg, .int m_fa, .ref m_ia_a, .ref m_im_a, .ref m_ik_a])), (m_ds_a, .inl (cI, 14, .inl (upd m_ds_25 (v3_25).toNatClampNeg ((m_ds_25 (v3_25).toNatClampNeg) &&& q71)))), (m_cs_a, .inl (cI, 14, .inl m_cs_25)), (m_tx_a, .inl (cI, 20, .inl m_tx)), (m_ia_a, .inl (cZ, 16384, .inl m_ia)), (m_im_a, .inl (cI, 60, .inl m_im)), (m_ik_a, .inl (cZ, 2, .inl m_ik))] := hD
              refine lv_iinc (v := (v3_25 + 1)) (lv' := [(3, .int (v3_25 + 1)), (2, .int m_sz), (0, .ref m_a), (1, .int p1)]) hx hb dX5_size_76 hl (k := 0) rfl (by rfl) (by decide) rfl (fun ls hl => ?_)
              refine lv_goto (tgt := 25) hx hb dX5_size_79 (by decide) ?_
              exact ih25 (v3_25 + 1) (upd m_ds_25 (v3_25).toNatClampNeg ((m_ds_25 (v3_25).toNatClampNeg) &&& q71)) m_cs_25 _ _ _ hM (hP.sub [0, 1, 2, 3, 4, 5, 6] rfl) (hD.sub [0, 1, 2, 3, 4, 5, 6] (by decide) rfl) hS (lv_sub hl [0, 1, 2, 3] rfl)
          · replace hM := ob_neg c_33 hM
            refine lv_aload_n hx hb dX5_size_36 rfl (lv_at hl 2 rfl) ?_
            refine va_get (D := (dC, dI)) (ci := 5) (v := .ref m_ds_a) (C := RX5) (T := TX5) (N := 10) hx hb hts in_X5_size_5 hown hK hP 0 rfl rfl 1 (by decide) hf13 (fun _ h9 => h9) rfl dX5_size_37 ?_
            refine lv_iload_n hx hb dX5_size_40 rfl (lv_at hl 0 rfl) ?_
            refine lv_bipush (v := (-6)) hx hb dX5_size_41 (by decide) ?_
            obtain ⟨h_43, hM⟩ := ob_get hM
            refine va_iast hx hb hK hP hD hS 1 0 rfl rfl h_43 dX5_size_43 (fun H locs hP hD hS => ?_)
            have hP : va_P (dC, dI) vwCl [(m_a, .inr (5, [.int p1, .ref m_ds_a, .ref m_cs_a, .int m_kn, .ref m_tx_a, .int m_sg, .int m_fa, .ref m_ia_a, .ref m_im_a, .ref m_ik_a])), (m_ds_a, .inl (cI, 14, .inl (upd m_ds_25 (v3_25).toNatClampNeg (-6)))), (m_cs_a, .inl (cI, 14, .inl m_cs_25)), (m_tx_a, .inl (cI, 20, .inl m_tx)), (m_ia_a, .inl (cZ, 16384, .inl m_ia)), (m_im_a, .inl (cI, 60, .inl m_im)), (m_ik_a, .inl (cZ, 2, .inl m_ik))] H := hP
            have hD : va_D A [(m_a, .inr (5, [.int p1, .ref m_ds_a, .ref m_cs_a, .int m_kn, .ref m_tx_a, .int m_sg, .int m_fa, .ref m_ia_a, .ref m_im_a, .ref m_ik_a])), (m_ds_a, .inl (cI, 14, .inl (upd m_ds_25 (v3_25).toNatClampNeg (-6)))), (m_cs_a, .inl (cI, 14, .inl m_cs_25)), (m_tx_a, .inl (cI, 20, .inl m_tx)), (m_ia_a, .inl (cZ, 16384, .inl m_ia)), (m_im_a, .inl (cI, 60, .inl m_im)), (m_ik_a, .inl (cZ, 2, .inl m_ik))] := hD
            refine lv_aload_n hx hb dX5_size_44 rfl (lv_at hl 2 rfl) ?_
            refine va_get (D := (dC, dI)) (ci := 5) (v := .ref m_cs_a) (C := RX5) (T := TX5) (N := 10) hx hb hts in_X5_size_5 hown hK hP 0 rfl rfl 2 (by decide) hf17 (fun _ h9 => h9) rfl dX5_size_45 ?_
            refine lv_iload_n hx hb dX5_size_48 rfl (lv_at hl 0 rfl) ?_
            refine lv_iconst (v := 1) hx hb dX5_size_49 (by decide) ?_
            obtain ⟨h_50, hM⟩ := ob_get hM
            refine va_iast hx hb hK hP hD hS 2 0 rfl rfl h_50 dX5_size_50 (fun H locs hP hD hS => ?_)
            have hP : va_P (dC, dI) vwCl [(m_a, .inr (5, [.int p1, .ref m_ds_a, .ref m_cs_a, .int m_kn, .ref m_tx_a, .int m_sg, .int m_fa, .ref m_ia_a, .ref m_im_a, .ref m_ik_a])), (m_ds_a, .inl (cI, 14, .inl (upd m_ds_25 (v3_25).toNatClampNeg (-6)))), (m_cs_a, .inl (cI, 14, .inl (upd m_cs_25 (v3_25).toNatClampNeg 1))), (m_tx_a, .inl (cI, 20, .inl m_tx)), (m_ia_a, .inl (cZ, 16384, .inl m_ia)), (m_im_a, .inl (cI, 60, .inl m_im)), (m_ik_a, .inl (cZ, 2, .inl m_ik))] H := hP
            have hD : va_D A [(m_a, .inr (5, [.int p1, .ref m_ds_a, .ref m_cs_a, .int m_kn, .ref m_tx_a, .int m_sg, .int m_fa, .ref m_ia_a, .ref m_im_a, .ref m_ik_a])), (m_ds_a, .inl (cI, 14, .inl (upd m_ds_25 (v3_25).toNatClampNeg (-6)))), (m_cs_a, .inl (cI, 14, .inl (upd m_cs_25 (v3_25).toNatClampNeg 1))), (m_tx_a, .inl (cI, 20, .inl m_tx)), (m_ia_a, .inl (cZ, 16384, .inl m_ia)), (m_im_a, .inl (cI, 60, .inl m_im)), (m_ik_a, .inl (cZ, 2, .inl m_ik))] := hD
            refine lv_goto (tgt := 76) hx hb dX5_size_51 (by decide) ?_
            refine lv_iinc (v := (v3_25 + 1)) (lv' := [(3, .int (v3_25 + 1)), (2, .int m_sz), (0, .ref m_a), (1, .int p1)]) hx hb dX5_size_76 hl (k := 0) rfl (by rfl) (by decide) rfl (fun ls hl => ?_)
            refine lv_goto (tgt := 25) hx hb dX5_size_79 (by decide) ?_
            exact ih25 (v3_25 + 1) (upd m_ds_25 (v3_25).toNatClampNeg (-6)) (upd m_cs_25 (v3_25).toNatClampNeg 1) _ _ _ hM (hP.sub [0, 1, 2, 3, 4, 5, 6] rfl) (hD.sub [0, 1, 2, 3, 4, 5, 6] (by decide) rfl) hS (lv_sub hl [0, 1, 2, 3] rfl)
    exact hL25 40 0 m_ds m_cs _ _ _ hM hP hD hS (lv_sub hl [0, 1, 2, 3] rfl)
  · replace hM := ob_pos c_7 hM
    refine lv_bipush (v := (-2)) hx hb dX5_size_10 (by decide) ?_
    obtain rfl := Option.some.inj hM
    have hP9 := hP.sub (ws' := [(m_a, .inr (5, [.int m_sz, .ref m_ds_a, .ref m_cs_a, .int m_kn, .ref m_tx_a, .int m_sg, .int m_fa, .ref m_ia_a, .ref m_im_a, .ref m_ik_a])), (m_ds_a, .inl (cI, 14, .inl m_ds)), (m_cs_a, .inl (cI, 14, .inl m_cs)), (m_tx_a, .inl (cI, 20, .inl m_tx)), (m_ia_a, .inl (cZ, 16384, .inl m_ia)), (m_im_a, .inl (cI, 60, .inl m_im)), (m_ik_a, .inl (cZ, 2, .inl m_ik))]) [0, 1, 2, 3, 4, 5, 6] rfl
    have hD9 := hD.sub (ws' := [(m_a, .inr (5, [.int m_sz, .ref m_ds_a, .ref m_cs_a, .int m_kn, .ref m_tx_a, .int m_sg, .int m_fa, .ref m_ia_a, .ref m_im_a, .ref m_ik_a])), (m_ds_a, .inl (cI, 14, .inl m_ds)), (m_cs_a, .inl (cI, 14, .inl m_cs)), (m_tx_a, .inl (cI, 20, .inl m_tx)), (m_ia_a, .inl (cZ, 16384, .inl m_ia)), (m_im_a, .inl (cI, 60, .inl m_im)), (m_ik_a, .inl (cZ, 2, .inl m_ik))]) [0, 1, 2, 3, 4, 5, 6] (by decide) rfl
    exact W.iret (v := (-2)) hx hb hr (fun t ht hW => ⟨⟨_, (), rfl, rfl, by rw [ht]; exact hP9, hD9⟩, hS.F ht⟩) hS.2.2 dX5_size_12
/-! X5_say -/
abbrev rm_X5_say : Room := { frames := 1, cells := 0, slots := 0, locals := 22 }
theorem in_X5_say_5 : ∀ w ∈ u_ws RX5 TX5 10, w ∈ wsX5_say := by decide +kernel
set_option maxHeartbeats 4000000 in
set_option maxRecDepth 100000 in
theorem c_X5_say (l : Launch) (dC : Nat → ClassId) (dI : Nat → Nat → Nat) (cI cZ cJ cW : ClassId) (sz : Nat) (m_a m_ds_a m_cs_a m_tx_a m_ia_a m_im_a m_ik_a : Nat) (m_sz : Int32) (m_kn : Int32) (m_sg : Int32) (m_fa : Int32) (m_ds : Nat → Int32) (m_cs : Nat → Int32) (m_tx : Nat → Int32) (m_ia : Nat → Int32) (m_im : Nat → Int32) (m_ik : Nat → Int32) (p1 : Int32) (R : Int32 × Int32 × (Nat → Int32)) (hM : M_X5_say p1 m_tx m_sg = some R) : Met l yX5_say wsX5_say rm_X5_say (va_Pc [.ref m_a, .int p1] (MP (dC, dI) cI cZ cJ cW sz [(m_a, .inr (5, [.int m_sz, .ref m_ds_a, .ref m_cs_a, .int m_kn, .ref m_tx_a, .int m_sg, .int m_fa, .ref m_ia_a, .ref m_im_a, .ref m_ik_a])), (m_ds_a, .inl (cI, 14, .inl m_ds)), (m_cs_a, .inl (cI, 14, .inl m_cs)), (m_tx_a, .inl (cI, 20, .inl m_tx)), (m_ia_a, .inl (cZ, 16384, .inl m_ia)), (m_im_a, .inl (cI, 60, .inl m_im)), (m_ik_a, .inl (cZ, 2, .inl m_ik))])) (va_Qi (fun (r : Int32) (_ : Unit) => R.1 = r) (PB (dC, dI) (va_A [(m_a, .inr (5, [.int m_sz, .ref m_ds_a, .ref m_cs_a, .int m_kn, .ref m_tx_a, .int m_sg, .int m_fa, .ref m_ia_a, .ref m_im_a, .ref m_ik_a])), (m_ds_a, .inl (cI, 14, .inl m_ds)), (m_cs_a, .inl (cI, 14, .inl m_cs)), (m_tx_a, .inl (cI, 20, .inl m_tx)), (m_ia_a, .inl (cZ, 16384, .inl m_ia)), (m_im_a, .inl (cI, 60, .inl m_im)), (m_ik_a, .inl (cZ, 2, .inl m_ik))] sz) [(m_a, .inr (5, [.int m_sz, .ref m_ds_a, .ref m_cs_a, .int m_kn, .ref m_tx_a, .int R.2.1, .int m_fa, .ref m_ia_a, .ref m_im_a, .ref m_ik_a])), (m_ds_a, .inl (cI, 14, .inl m_ds)), (m_cs_a, .inl (cI, 14, .inl m_cs)), (m_tx_a, .inl (cI, 20, .inl R.2.2)), (m_ia_a, .inl (cZ, 16384, .inl m_ia)), (m_im_a, .inl (cI, 60, .inl m_im)), (m_ik_a, .inl (cZ, 2, .inl m_ik))]) (va_A [(m_a, .inr (5, [.int m_sz, .ref m_ds_a, .ref m_cs_a, .int m_kn, .ref m_tx_a, .int m_sg, .int m_fa, .ref m_ia_a, .ref m_im_a, .ref m_ik_a])), (m_ds_a, .inl (cI, 14, .inl m_ds)), (m_cs_a, .inl (cI, 14, .inl m_cs)), (m_tx_a, .inl (cI, 20, .inl m_tx)), (m_ia_a, .inl (cZ, 16384, .inl m_ia)), (m_im_a, .inl (cI, 60, .inl m_im)), (m_ik_a, .inl (cZ, 2, .inl m_ik))] sz)) 0 0 (va_A [(m_a, .inr (5, [.int m_sz, .ref m_ds_a, .ref m_cs_a, .int m_kn, .ref m_tx_a, .int m_sg, .int m_fa, .ref m_ia_a, .ref m_im_a, .ref m_ik_a])), (m_ds_a, .inl (cI, 14, .inl m_ds)), (m_cs_a, .inl (cI, 14, .inl m_cs)), (m_tx_a, .inl (cI, 20, .inl m_tx)), (m_ia_a, .inl (cZ, 16384, .inl m_ia)), (m_im_a, .inl (cI, 60, .inl m_im)), (m_ik_a, .inl (cZ, 2, .inl m_ik))] sz) := by
  refine Met.ofW (cc := cX5_say) (maxL := 2) (ret := (some .int)) (by decide) rfl ?_
  intro p e s m args below meth c s₁ B hml hv
  obtain ⟨rfl, hsz, hP, hK, hN, hD0⟩ := hv
  have hx := B.exec
  have hb := B.bytes
  have hr := B.returns
  have hts := atoms_spec (ws := wsX5_say) B.pre
  have hown : s.vm.findClass RX5 = some m.cls := findClass_of_methodNamed B.named
  have hlocks := B.notSynchronized
  subst hsz
  have hD := hD0.self (sz := s.heap.size)
  generalize hAe : va_A [(m_a, .inr (5, [.int m_sz, .ref m_ds_a, .ref m_cs_a, .int m_kn, .ref m_tx_a, .int m_sg, .int m_fa, .ref m_ia_a, .ref m_im_a, .ref m_ik_a])), (m_ds_a, .inl (cI, 14, .inl m_ds)), (m_cs_a, .inl (cI, 14, .inl m_cs)), (m_tx_a, .inl (cI, 20, .inl m_tx)), (m_ia_a, .inl (cZ, 16384, .inl m_ia)), (m_im_a, .inl (cI, 60, .inl m_im)), (m_ik_a, .inl (cZ, 2, .inl m_ik))] s.heap.size = A at hD ⊢
  have hA : ∀ q : Nat, s.heap.size ≤ q → A q := fun q h => by rw [← hAe]; exact Or.inr h
  have hS : va_S A s.heap s.heap [] := va_S.rf
  have hf20 := hts (.fieldLink RX5 20 "WordGroundsModel" "text" "[I") (by decide +kernel)
  have hf47 := hts (.fieldLink RX5 47 "WordGroundsModel" "signs" "I") (by decide +kernel)
  have hl := lv_entry ([.ref m_a, .int p1]) (n := 2) (Nat.le_of_ble_eq_true rfl)
  rw [lg_entry_eq]
  generalize (lg_sl ([.ref m_a, .int p1]) ++ List.replicate (2 - (lg_sl ([.ref m_a, .int p1])).length) Slot.unset).toArray = ls at hl ⊢
  have hl : lv_has ls 2 [(0, .ref m_a), (1, .int p1)] := hl
  have hP : va_P (dC, dI) vwCl [(m_a, .inr (5, [.int m_sz, .ref m_ds_a, .ref m_cs_a, .int m_kn, .ref m_tx_a, .int m_sg, .int m_fa, .ref m_ia_a, .ref m_im_a, .ref m_ik_a])), (m_ds_a, .inl (cI, 14, .inl m_ds)), (m_cs_a, .inl (cI, 14, .inl m_cs)), (m_tx_a, .inl (cI, 20, .inl m_tx)), (m_ia_a, .inl (cZ, 16384, .inl m_ia)), (m_im_a, .inl (cI, 60, .inl m_im)), (m_ik_a, .inl (cZ, 2, .inl m_ik))] s.heap := hP
  have hM : ((M_X5_in p1 33 126).bind (fun q5 => if q5 = 0 then (some ((-2), m_sg, m_tx)) else (if m_sg = 20 then (some ((-3), m_sg, m_tx)) else (if m_sg < 0 ∨ 20 ≤ (m_sg).toNatClampNeg then none else (some ((m_sg + 1), (m_sg + 1), (upd m_tx (m_sg).toNatClampNeg p1))))))) = some R := hM
  refine lv_iload_n hx hb dX5_say_0 rfl (lv_at hl 1 rfl) ?_
  refine lv_bipush (v := 33) hx hb dX5_say_1 (by decide) ?_
  refine lv_bipush (v := 126) hx hb dX5_say_3 (by decide) ?_
  obtain ⟨q5, hv5, hM⟩ := ob_bind hM
  refine vp_callSi (va_Run.run (va_runS (As := [.int p1, .int 33, .int 126]) (rest := []) ⟨hx, hb, hml, hown, hts⟩ (c_X5_in l dC dI cI cZ cJ cW p1 33 126 q5 hv5) (va_cwS 3 hts gX5_say_X5_in rfl rfl rfl (by decide +kernel) ⟨Nat.le_of_ble_eq_true rfl, Nat.le_of_ble_eq_true rfl⟩) ⟨TP.blind, fun U hU hW => ⟨rfl, trivial⟩⟩ rfl rfl hl.1 rfl (lv_room (Nat.le_of_ble_eq_true rfl)) dX5_say_5 ⟨Nat.le_of_ble_eq_true rfl, Nat.le_of_ble_eq_true rfl⟩)) (fun r hr => ?_)
  subst hr
  refine lv_if_ne (tgt := 14) hx hb dX5_say_8 (by decide) (fun c_8 => ?_) (fun c_8 => ?_)
  · replace hM := ob_neg c_8 hM
    refine lv_aload_n hx hb dX5_say_14 rfl (lv_at hl 0 rfl) ?_
    refine va_get (D := (dC, dI)) (ci := 5) (v := .int m_sg) (C := RX5) (T := TX5) (N := 10) hx hb hts in_X5_say_5 hown hK hP 0 rfl rfl 5 (by decide) hf47 (fun _ h9 => h9) rfl dX5_say_15 ?_
    refine lv_bipush (v := 20) hx hb dX5_say_18 (by decide) ?_
    refine lv_icmp_ne (tgt := 26) hx hb dX5_say_20 (by decide) (fun c_20 => ?_) (fun c_20 => ?_)
    · replace hM := ob_neg c_20 hM
      refine lv_aload_n hx hb dX5_say_26 rfl (lv_at hl 0 rfl) ?_
      refine va_get (D := (dC, dI)) (ci := 5) (v := .ref m_tx_a) (C := RX5) (T := TX5) (N := 10) hx hb hts in_X5_say_5 hown hK hP 0 rfl rfl 4 (by decide) hf20 (fun _ h9 => h9) rfl dX5_say_27 ?_
      refine lv_aload_n hx hb dX5_say_30 rfl (lv_at hl 0 rfl) ?_
      refine va_get (D := (dC, dI)) (ci := 5) (v := .int m_sg) (C := RX5) (T := TX5) (N := 10) hx hb hts in_X5_say_5 hown hK hP 0 rfl rfl 5 (by decide) hf47 (fun _ h9 => h9) rfl dX5_say_31 ?_
      refine lv_iload_n hx hb dX5_say_34 rfl (lv_at hl 1 rfl) ?_
      obtain ⟨h_35, hM⟩ := ob_get hM
      refine va_iast hx hb hK hP hD hS 3 0 rfl rfl h_35 dX5_say_35 (fun H locs hP hD hS => ?_)
      have hP : va_P (dC, dI) vwCl [(m_a, .inr (5, [.int m_sz, .ref m_ds_a, .ref m_cs_a, .int m_kn, .ref m_tx_a, .int m_sg, .int m_fa, .ref m_ia_a, .ref m_im_a, .ref m_ik_a])), (m_ds_a, .inl (cI, 14, .inl m_ds)), (m_cs_a, .inl (cI, 14, .inl m_cs)), (m_tx_a, .inl (cI, 20, .inl (upd m_tx (m_sg).toNatClampNeg p1))), (m_ia_a, .inl (cZ, 16384, .inl m_ia)), (m_im_a, .inl (cI, 60, .inl m_im)), (m_ik_a, .inl (cZ, 2, .inl m_ik))] H := hP
      have hD : va_D A [(m_a, .inr (5, [.int m_sz, .ref m_ds_a, .ref m_cs_a, .int m_kn, .ref m_tx_a, .int m_sg, .int m_fa, .ref m_ia_a, .ref m_im_a, .ref m_ik_a])), (m_ds_a, .inl (cI, 14, .inl m_ds)), (m_cs_a, .inl (cI, 14, .inl m_cs)), (m_tx_a, .inl (cI, 20, .inl (upd m_tx (m_sg).toNatClampNeg p1))), (m_ia_a, .inl (cZ, 16384, .inl m_ia)), (m_im_a, .inl (cI, 60, .inl m_im)), (m_ik_a, .inl (cZ, 2, .inl m_ik))] := hD
      refine lv_aload_n hx hb dX5_say_36 rfl (lv_at hl 0 rfl) ?_
      refine lv_dup hx hb dX5_say_37 rfl ?_
      refine va_get (D := (dC, dI)) (ci := 5) (v := .int m_sg) (C := RX5) (T := TX5) (N := 10) hx hb hts in_X5_say_5 hown hK hP 0 rfl rfl 5 (by decide) hf47 (fun _ h9 => h9) rfl dX5_say_38 ?_
      refine lv_iconst (v := 1) hx hb dX5_say_41 (by decide) ?_
      refine lv_iadd hx hb dX5_say_42 ?_
      refine va_put (D := (dC, dI)) (ci := 5) (v := .int (m_sg + 1)) (ty := .int) (C := RX5) (T := TX5) (N := 10) hx hb hts in_X5_say_5 tyX5 tyX5_ok nmX5 hown hK hP hD hS 0 rfl rfl 5 (by decide) hf47 (fun _ h9 => h9) rfl (by decide +kernel) rfl rfl (Nat.le_of_ble_eq_true rfl) dX5_say_43 (fun H locs hP hD hS => ?_)
      have hP : va_P (dC, dI) vwCl [(m_a, .inr (5, [.int m_sz, .ref m_ds_a, .ref m_cs_a, .int m_kn, .ref m_tx_a, .int (m_sg + 1), .int m_fa, .ref m_ia_a, .ref m_im_a, .ref m_ik_a])), (m_ds_a, .inl (cI, 14, .inl m_ds)), (m_cs_a, .inl (cI, 14, .inl m_cs)), (m_tx_a, .inl (cI, 20, .inl (upd m_tx (m_sg).toNatClampNeg p1))), (m_ia_a, .inl (cZ, 16384, .inl m_ia)), (m_im_a, .inl (cI, 60, .inl m_im)), (m_ik_a, .inl (cZ, 2, .inl m_ik))] H := hP
      have hD : va_D A [(m_a, .inr (5, [.int m_sz, .ref m_ds_a, .ref m_cs_a, .int m_kn, .ref m_tx_a, .int (m_sg + 1), .int m_fa, .ref m_ia_a, .ref m_im_a, .ref m_ik_a])), (m_ds_a, .inl (cI, 14, .inl m_ds)), (m_cs_a, .inl (cI, 14, .inl m_cs)), (m_tx_a, .inl (cI, 20, .inl (upd m_tx (m_sg).toNatClampNeg p1))), (m_ia_a, .inl (cZ, 16384, .inl m_ia)), (m_im_a, .inl (cI, 60, .inl m_im)), (m_ik_a, .inl (cZ, 2, .inl m_ik))] := hD
      refine lv_aload_n hx hb dX5_say_46 rfl (lv_at hl 0 rfl) ?_
      refine va_get (D := (dC, dI)) (ci := 5) (v := .int (m_sg + 1)) (C := RX5) (T := TX5) (N := 10) hx hb hts in_X5_say_5 hown hK hP 0 rfl rfl 5 (by decide) hf47 (fun _ h9 => h9) rfl dX5_say_47 ?_
      obtain rfl := Option.some.inj hM
      have hP9 := hP.sub (ws' := [(m_a, .inr (5, [.int m_sz, .ref m_ds_a, .ref m_cs_a, .int m_kn, .ref m_tx_a, .int (m_sg + 1), .int m_fa, .ref m_ia_a, .ref m_im_a, .ref m_ik_a])), (m_ds_a, .inl (cI, 14, .inl m_ds)), (m_cs_a, .inl (cI, 14, .inl m_cs)), (m_tx_a, .inl (cI, 20, .inl (upd m_tx (m_sg).toNatClampNeg p1))), (m_ia_a, .inl (cZ, 16384, .inl m_ia)), (m_im_a, .inl (cI, 60, .inl m_im)), (m_ik_a, .inl (cZ, 2, .inl m_ik))]) [0, 1, 2, 3, 4, 5, 6] rfl
      have hD9 := hD.sub (ws' := [(m_a, .inr (5, [.int m_sz, .ref m_ds_a, .ref m_cs_a, .int m_kn, .ref m_tx_a, .int (m_sg + 1), .int m_fa, .ref m_ia_a, .ref m_im_a, .ref m_ik_a])), (m_ds_a, .inl (cI, 14, .inl m_ds)), (m_cs_a, .inl (cI, 14, .inl m_cs)), (m_tx_a, .inl (cI, 20, .inl (upd m_tx (m_sg).toNatClampNeg p1))), (m_ia_a, .inl (cZ, 16384, .inl m_ia)), (m_im_a, .inl (cI, 60, .inl m_im)), (m_ik_a, .inl (cZ, 2, .inl m_ik))]) [0, 1, 2, 3, 4, 5, 6] (by decide) rfl
      exact W.iret (v := (m_sg + 1)) hx hb hr (fun t ht hW => ⟨⟨_, (), rfl, rfl, by rw [ht]; exact hP9, hD9⟩, hS.F ht⟩) hS.2.2 dX5_say_50
    · replace hM := ob_pos c_20 hM
      refine lv_bipush (v := (-3)) hx hb dX5_say_23 (by decide) ?_
      obtain rfl := Option.some.inj hM
      have hP9 := hP.sub (ws' := [(m_a, .inr (5, [.int m_sz, .ref m_ds_a, .ref m_cs_a, .int m_kn, .ref m_tx_a, .int m_sg, .int m_fa, .ref m_ia_a, .ref m_im_a, .ref m_ik_a])), (m_ds_a, .inl (cI, 14, .inl m_ds)), (m_cs_a, .inl (cI, 14, .inl m_cs)), (m_tx_a, .inl (cI, 20, .inl m_tx)), (m_ia_a, .inl (cZ, 16384, .inl m_ia)), (m_im_a, .inl (cI, 60, .inl m_im)), (m_ik_a, .inl (cZ, 2, .inl m_ik))]) [0, 1, 2, 3, 4, 5, 6] rfl
      have hD9 := hD.sub (ws' := [(m_a, .inr (5, [.int m_sz, .ref m_ds_a, .ref m_cs_a, .int m_kn, .ref m_tx_a, .int m_sg, .int m_fa, .ref m_ia_a, .ref m_im_a, .ref m_ik_a])), (m_ds_a, .inl (cI, 14, .inl m_ds)), (m_cs_a, .inl (cI, 14, .inl m_cs)), (m_tx_a, .inl (cI, 20, .inl m_tx)), (m_ia_a, .inl (cZ, 16384, .inl m_ia)), (m_im_a, .inl (cI, 60, .inl m_im)), (m_ik_a, .inl (cZ, 2, .inl m_ik))]) [0, 1, 2, 3, 4, 5, 6] (by decide) rfl
      exact W.iret (v := (-3)) hx hb hr (fun t ht hW => ⟨⟨_, (), rfl, rfl, by rw [ht]; exact hP9, hD9⟩, hS.F ht⟩) hS.2.2 dX5_say_25
  · replace hM := ob_pos c_8 hM
    refine lv_bipush (v := (-2)) hx hb dX5_say_11 (by decide) ?_
    obtain rfl := Option.some.inj hM
    have hP9 := hP.sub (ws' := [(m_a, .inr (5, [.int m_sz, .ref m_ds_a, .ref m_cs_a, .int m_kn, .ref m_tx_a, .int m_sg, .int m_fa, .ref m_ia_a, .ref m_im_a, .ref m_ik_a])), (m_ds_a, .inl (cI, 14, .inl m_ds)), (m_cs_a, .inl (cI, 14, .inl m_cs)), (m_tx_a, .inl (cI, 20, .inl m_tx)), (m_ia_a, .inl (cZ, 16384, .inl m_ia)), (m_im_a, .inl (cI, 60, .inl m_im)), (m_ik_a, .inl (cZ, 2, .inl m_ik))]) [0, 1, 2, 3, 4, 5, 6] rfl
    have hD9 := hD.sub (ws' := [(m_a, .inr (5, [.int m_sz, .ref m_ds_a, .ref m_cs_a, .int m_kn, .ref m_tx_a, .int m_sg, .int m_fa, .ref m_ia_a, .ref m_im_a, .ref m_ik_a])), (m_ds_a, .inl (cI, 14, .inl m_ds)), (m_cs_a, .inl (cI, 14, .inl m_cs)), (m_tx_a, .inl (cI, 20, .inl m_tx)), (m_ia_a, .inl (cZ, 16384, .inl m_ia)), (m_im_a, .inl (cI, 60, .inl m_im)), (m_ik_a, .inl (cZ, 2, .inl m_ik))]) [0, 1, 2, 3, 4, 5, 6] (by decide) rfl
    exact W.iret (v := (-2)) hx hb hr (fun t ht hW => ⟨⟨_, (), rfl, rfl, by rw [ht]; exact hP9, hD9⟩, hS.F ht⟩) hS.2.2 dX5_say_13
/-! X5_wipe -/
abbrev rm_X5_wipe : Room := { frames := 0, cells := 0, slots := 0, locals := 0 }
theorem in_X5_wipe_5 : ∀ w ∈ u_ws RX5 TX5 10, w ∈ wsX5_wipe := by decide +kernel
set_option maxHeartbeats 4000000 in
set_option maxRecDepth 100000 in
theorem c_X5_wipe (l : Launch) (dC : Nat → ClassId) (dI : Nat → Nat → Nat) (cI cZ cJ cW : ClassId) (sz : Nat) (m_a m_ds_a m_cs_a m_tx_a m_ia_a m_im_a m_ik_a : Nat) (m_sz : Int32) (m_kn : Int32) (m_sg : Int32) (m_fa : Int32) (m_ds : Nat → Int32) (m_cs : Nat → Int32) (m_tx : Nat → Int32) (m_ia : Nat → Int32) (m_im : Nat → Int32) (m_ik : Nat → Int32) (R : Int32 × Int32) (hM : M_X5_wipe m_sg = some R) : Met l yX5_wipe wsX5_wipe rm_X5_wipe (va_Pc [.ref m_a] (MP (dC, dI) cI cZ cJ cW sz [(m_a, .inr (5, [.int m_sz, .ref m_ds_a, .ref m_cs_a, .int m_kn, .ref m_tx_a, .int m_sg, .int m_fa, .ref m_ia_a, .ref m_im_a, .ref m_ik_a])), (m_ds_a, .inl (cI, 14, .inl m_ds)), (m_cs_a, .inl (cI, 14, .inl m_cs)), (m_tx_a, .inl (cI, 20, .inl m_tx)), (m_ia_a, .inl (cZ, 16384, .inl m_ia)), (m_im_a, .inl (cI, 60, .inl m_im)), (m_ik_a, .inl (cZ, 2, .inl m_ik))])) (va_Qi (fun (r : Int32) (_ : Unit) => R.1 = r) (PB (dC, dI) (va_A [(m_a, .inr (5, [.int m_sz, .ref m_ds_a, .ref m_cs_a, .int m_kn, .ref m_tx_a, .int m_sg, .int m_fa, .ref m_ia_a, .ref m_im_a, .ref m_ik_a])), (m_ds_a, .inl (cI, 14, .inl m_ds)), (m_cs_a, .inl (cI, 14, .inl m_cs)), (m_tx_a, .inl (cI, 20, .inl m_tx)), (m_ia_a, .inl (cZ, 16384, .inl m_ia)), (m_im_a, .inl (cI, 60, .inl m_im)), (m_ik_a, .inl (cZ, 2, .inl m_ik))] sz) [(m_a, .inr (5, [.int m_sz, .ref m_ds_a, .ref m_cs_a, .int m_kn, .ref m_tx_a, .int R.2, .int m_fa, .ref m_ia_a, .ref m_im_a, .ref m_ik_a])), (m_ds_a, .inl (cI, 14, .inl m_ds)), (m_cs_a, .inl (cI, 14, .inl m_cs)), (m_tx_a, .inl (cI, 20, .inl m_tx)), (m_ia_a, .inl (cZ, 16384, .inl m_ia)), (m_im_a, .inl (cI, 60, .inl m_im)), (m_ik_a, .inl (cZ, 2, .inl m_ik))]) (va_A [(m_a, .inr (5, [.int m_sz, .ref m_ds_a, .ref m_cs_a, .int m_kn, .ref m_tx_a, .int m_sg, .int m_fa, .ref m_ia_a, .ref m_im_a, .ref m_ik_a])), (m_ds_a, .inl (cI, 14, .inl m_ds)), (m_cs_a, .inl (cI, 14, .inl m_cs)), (m_tx_a, .inl (cI, 20, .inl m_tx)), (m_ia_a, .inl (cZ, 16384, .inl m_ia)), (m_im_a, .inl (cI, 60, .inl m_im)), (m_ik_a, .inl (cZ, 2, .inl m_ik))] sz)) 0 0 (va_A [(m_a, .inr (5, [.int m_sz, .ref m_ds_a, .ref m_cs_a, .int m_kn, .ref m_tx_a, .int m_sg, .int m_fa, .ref m_ia_a, .ref m_im_a, .ref m_ik_a])), (m_ds_a, .inl (cI, 14, .inl m_ds)), (m_cs_a, .inl (cI, 14, .inl m_cs)), (m_tx_a, .inl (cI, 20, .inl m_tx)), (m_ia_a, .inl (cZ, 16384, .inl m_ia)), (m_im_a, .inl (cI, 60, .inl m_im)), (m_ik_a, .inl (cZ, 2, .inl m_ik))] sz) := by
  refine Met.ofW (cc := cX5_wipe) (maxL := 2) (ret := (some .int)) (by decide) rfl ?_
  intro p e s m args below meth c s₁ B hml hv
  obtain ⟨rfl, hsz, hP, hK, hN, hD0⟩ := hv
  have hx := B.exec
  have hb := B.bytes
  have hr := B.returns
  have hts := atoms_spec (ws := wsX5_wipe) B.pre
  have hown : s.vm.findClass RX5 = some m.cls := findClass_of_methodNamed B.named
  have hlocks := B.notSynchronized
  subst hsz
  have hD := hD0.self (sz := s.heap.size)
  generalize hAe : va_A [(m_a, .inr (5, [.int m_sz, .ref m_ds_a, .ref m_cs_a, .int m_kn, .ref m_tx_a, .int m_sg, .int m_fa, .ref m_ia_a, .ref m_im_a, .ref m_ik_a])), (m_ds_a, .inl (cI, 14, .inl m_ds)), (m_cs_a, .inl (cI, 14, .inl m_cs)), (m_tx_a, .inl (cI, 20, .inl m_tx)), (m_ia_a, .inl (cZ, 16384, .inl m_ia)), (m_im_a, .inl (cI, 60, .inl m_im)), (m_ik_a, .inl (cZ, 2, .inl m_ik))] s.heap.size = A at hD ⊢
  have hA : ∀ q : Nat, s.heap.size ≤ q → A q := fun q h => by rw [← hAe]; exact Or.inr h
  have hS : va_S A s.heap s.heap [] := va_S.rf
  have hf47 := hts (.fieldLink RX5 47 "WordGroundsModel" "signs" "I") (by decide +kernel)
  have hl := lv_entry ([.ref m_a]) (n := 2) (Nat.le_of_ble_eq_true rfl)
  rw [lg_entry_eq]
  generalize (lg_sl ([.ref m_a]) ++ List.replicate (2 - (lg_sl ([.ref m_a])).length) Slot.unset).toArray = ls at hl ⊢
  have hl : lv_has ls 2 [(0, .ref m_a)] := hl
  have hP : va_P (dC, dI) vwCl [(m_a, .inr (5, [.int m_sz, .ref m_ds_a, .ref m_cs_a, .int m_kn, .ref m_tx_a, .int m_sg, .int m_fa, .ref m_ia_a, .ref m_im_a, .ref m_ik_a])), (m_ds_a, .inl (cI, 14, .inl m_ds)), (m_cs_a, .inl (cI, 14, .inl m_cs)), (m_tx_a, .inl (cI, 20, .inl m_tx)), (m_ia_a, .inl (cZ, 16384, .inl m_ia)), (m_im_a, .inl (cI, 60, .inl m_im)), (m_ik_a, .inl (cZ, 2, .inl m_ik))] s.heap := hP
  have hM : (some (m_sg, 0)) = some R := hM
  refine lv_aload_n hx hb dX5_wipe_0 rfl (lv_at hl 0 rfl) ?_
  refine va_get (D := (dC, dI)) (ci := 5) (v := .int m_sg) (C := RX5) (T := TX5) (N := 10) hx hb hts in_X5_wipe_5 hown hK hP 0 rfl rfl 5 (by decide) hf47 (fun _ h9 => h9) rfl dX5_wipe_1 ?_
  refine lv_istore_n (lv' := [(1, .int m_sg), (0, .ref m_a)]) hx hb dX5_wipe_4 rfl hl (by decide) rfl (fun ls hl => ?_)
  refine lv_aload_n hx hb dX5_wipe_5 rfl (lv_at hl 1 rfl) ?_
  refine lv_iconst (v := 0) hx hb dX5_wipe_6 (by decide) ?_
  refine va_put (D := (dC, dI)) (ci := 5) (v := .int 0) (ty := .int) (C := RX5) (T := TX5) (N := 10) hx hb hts in_X5_wipe_5 tyX5 tyX5_ok nmX5 hown hK hP hD hS 0 rfl rfl 5 (by decide) hf47 (fun _ h9 => h9) rfl (by decide +kernel) rfl rfl (Nat.le_of_ble_eq_true rfl) dX5_wipe_7 (fun H locs hP hD hS => ?_)
  have hP : va_P (dC, dI) vwCl [(m_a, .inr (5, [.int m_sz, .ref m_ds_a, .ref m_cs_a, .int m_kn, .ref m_tx_a, .int 0, .int m_fa, .ref m_ia_a, .ref m_im_a, .ref m_ik_a])), (m_ds_a, .inl (cI, 14, .inl m_ds)), (m_cs_a, .inl (cI, 14, .inl m_cs)), (m_tx_a, .inl (cI, 20, .inl m_tx)), (m_ia_a, .inl (cZ, 16384, .inl m_ia)), (m_im_a, .inl (cI, 60, .inl m_im)), (m_ik_a, .inl (cZ, 2, .inl m_ik))] H := hP
  have hD : va_D A [(m_a, .inr (5, [.int m_sz, .ref m_ds_a, .ref m_cs_a, .int m_kn, .ref m_tx_a, .int 0, .int m_fa, .ref m_ia_a, .ref m_im_a, .ref m_ik_a])), (m_ds_a, .inl (cI, 14, .inl m_ds)), (m_cs_a, .inl (cI, 14, .inl m_cs)), (m_tx_a, .inl (cI, 20, .inl m_tx)), (m_ia_a, .inl (cZ, 16384, .inl m_ia)), (m_im_a, .inl (cI, 60, .inl m_im)), (m_ik_a, .inl (cZ, 2, .inl m_ik))] := hD
  refine lv_iload_n hx hb dX5_wipe_10 rfl (lv_at hl 0 rfl) ?_
  obtain rfl := Option.some.inj hM
  have hP9 := hP.sub (ws' := [(m_a, .inr (5, [.int m_sz, .ref m_ds_a, .ref m_cs_a, .int m_kn, .ref m_tx_a, .int 0, .int m_fa, .ref m_ia_a, .ref m_im_a, .ref m_ik_a])), (m_ds_a, .inl (cI, 14, .inl m_ds)), (m_cs_a, .inl (cI, 14, .inl m_cs)), (m_tx_a, .inl (cI, 20, .inl m_tx)), (m_ia_a, .inl (cZ, 16384, .inl m_ia)), (m_im_a, .inl (cI, 60, .inl m_im)), (m_ik_a, .inl (cZ, 2, .inl m_ik))]) [0, 1, 2, 3, 4, 5, 6] rfl
  have hD9 := hD.sub (ws' := [(m_a, .inr (5, [.int m_sz, .ref m_ds_a, .ref m_cs_a, .int m_kn, .ref m_tx_a, .int 0, .int m_fa, .ref m_ia_a, .ref m_im_a, .ref m_ik_a])), (m_ds_a, .inl (cI, 14, .inl m_ds)), (m_cs_a, .inl (cI, 14, .inl m_cs)), (m_tx_a, .inl (cI, 20, .inl m_tx)), (m_ia_a, .inl (cZ, 16384, .inl m_ia)), (m_im_a, .inl (cI, 60, .inl m_im)), (m_ik_a, .inl (cZ, 2, .inl m_ik))]) [0, 1, 2, 3, 4, 5, 6] (by decide) rfl
  exact W.iret (v := m_sg) hx hb hr (fun t ht hW => ⟨⟨_, (), rfl, rfl, by rw [ht]; exact hP9, hD9⟩, hS.F ht⟩) hS.2.2 dX5_wipe_11
/-! X5_toldUpTo -/
abbrev rm_X5_toldUpTo : Room := { frames := 0, cells := 0, slots := 0, locals := 0 }
theorem in_X5_toldUpTo_5 : ∀ w ∈ u_ws RX5 TX5 10, w ∈ wsX5_toldUpTo := by decide +kernel
set_option maxHeartbeats 4000000 in
set_option maxRecDepth 100000 in
theorem c_X5_toldUpTo (l : Launch) (dC : Nat → ClassId) (dI : Nat → Nat → Nat) (cI cZ cJ cW : ClassId) (m_a m_ds_a m_cs_a m_tx_a m_ia_a m_im_a m_ik_a : Nat) (m_sz : Int32) (m_kn : Int32) (m_sg : Int32) (m_fa : Int32) (m_ds : Nat → Int32) (m_cs : Nat → Int32) (m_tx : Nat → Int32) (m_ia : Nat → Int32) (m_im : Nat → Int32) (m_ik : Nat → Int32) (p1 : Int32) (R : Int32) (hM : M_X5_toldUpTo p1 m_tx = some R) : Met l yX5_toldUpTo wsX5_toldUpTo rm_X5_toldUpTo (va_Pc [.ref m_a, .int p1] (RP (dC, dI) cI cZ cJ cW [(m_a, .inr (5, [.int m_sz, .ref m_ds_a, .ref m_cs_a, .int m_kn, .ref m_tx_a, .int m_sg, .int m_fa, .ref m_ia_a, .ref m_im_a, .ref m_ik_a])), (m_ds_a, .inl (cI, 14, .inl m_ds)), (m_cs_a, .inl (cI, 14, .inl m_cs)), (m_tx_a, .inl (cI, 20, .inl m_tx)), (m_ia_a, .inl (cZ, 16384, .inl m_ia)), (m_im_a, .inl (cI, 60, .inl m_im)), (m_ik_a, .inl (cZ, 2, .inl m_ik))])) (vp_Si (fun r => R = r)) 0 0 (fun _ => False) := by
  refine Met.ofW (cc := cX5_toldUpTo) (maxL := 4) (ret := (some .int)) (by decide) rfl ?_
  intro p e s m args below meth c s₁ B hml hv
  obtain ⟨rfl, hP, hK, hN⟩ := hv
  have hx := B.exec
  have hb := B.bytes
  have hr := B.returns
  have hts := atoms_spec (ws := wsX5_toldUpTo) B.pre
  have hown : s.vm.findClass RX5 = some m.cls := findClass_of_methodNamed B.named
  have hlocks := B.notSynchronized
  have hf20 := hts (.fieldLink RX5 20 "WordGroundsModel" "text" "[I") (by decide +kernel)
  have hl := lv_entry ([.ref m_a, .int p1]) (n := 4) (Nat.le_of_ble_eq_true rfl)
  rw [lg_entry_eq]
  generalize (lg_sl ([.ref m_a, .int p1]) ++ List.replicate (4 - (lg_sl ([.ref m_a, .int p1])).length) Slot.unset).toArray = ls at hl ⊢
  have hl : lv_has ls 4 [(0, .ref m_a), (1, .int p1)] := hl
  have hM : (L_X5_toldUpTo_4 p1 m_tx (fun (v3_4 : Int32) (v2_4 : Int32) => some v2_4) 40 2 0) = some R := hM
  refine lv_iconst (v := 0) hx hb dX5_toldUpTo_0 (by decide) ?_
  refine lv_istore_n (lv' := [(2, .int 0), (0, .ref m_a), (1, .int p1)]) hx hb dX5_toldUpTo_1 rfl hl (by decide) rfl (fun ls hl => ?_)
  refine lv_iconst (v := 2) hx hb dX5_toldUpTo_2 (by decide) ?_
  refine lv_istore_n (lv' := [(3, .int 2), (2, .int 0), (0, .ref m_a), (1, .int p1)]) hx hb dX5_toldUpTo_3 rfl hl (by decide) rfl (fun ls hl => ?_)
  obtain ⟨K4, hK4⟩ : ∃ K : Int32 → Int32 → Option (Int32), K = (fun (v3_4 : Int32) (v2_4 : Int32) => some v2_4) := ⟨_, rfl⟩
  have hM : L_X5_toldUpTo_4 p1 m_tx K4 40 2 0 = some R := by rw [hK4]; exact hM
  have hL4 : ∀ (k4 : Nat) (v3_4 : Int32) (v2_4 : Int32) (ls : Array Slot), L_X5_toldUpTo_4 p1 m_tx K4 k4 v3_4 v2_4 = some R → lv_has ls 4 [(3, .int v3_4), (2, .int v2_4), (0, .ref m_a), (1, .int p1)] → W p l e rm_X5_toldUpTo s m ([.ref m_a, .int p1] : List Value).toArray below meth c s.heap [] 0 0 (MQ below (vp_Si (fun r => R = r)) ([.ref m_a, .int p1] : List Value).toArray s 0 0 (fun _ => False)) (F0 m 4 ls []) := by
    intro k4
    induction k4 with
    | zero => intro v3_4 v2_4 ls hM; exact (ob_none hM).elim
    | succ k4 ih4 =>
      intro v3_4 v2_4 ls hM hl
      have hM : (if p1 ≤ v3_4 then (K4 v3_4 v2_4) else (if v3_4 < 0 ∨ 20 ≤ (v3_4).toNatClampNeg then none else (L_X5_toldUpTo_4 p1 m_tx K4 k4 (v3_4 + 1) (v2_4 ||| ((1 : Int32) <<< (((m_tx (v3_4).toNatClampNeg) - 97) &&& 31)))))) = some R := hM
      refine lv_iload_n hx hb dX5_toldUpTo_4 rfl (lv_at hl 0 rfl) ?_
      refine lv_iload_n hx hb dX5_toldUpTo_5 rfl (lv_at hl 3 rfl) ?_
      refine lv_icmp_ge (tgt := 29) hx hb dX5_toldUpTo_6 (by decide) (fun c_6 => ?_) (fun c_6 => ?_)
      · replace hM := ob_pos c_6 hM
        have hM : (some v2_4) = some R := by rw [hK4] at hM; exact hM
        refine lv_iload_n hx hb dX5_toldUpTo_29 rfl (lv_at hl 1 rfl) ?_
        exact W.iret (v := v2_4) hx hb hr (fun t ht hW => ⟨_, rfl, (Option.some.inj hM).symm, ht⟩) (fun _ h => by cases h) dX5_toldUpTo_30
      · replace hM := ob_neg c_6 hM
        refine lv_iload_n hx hb dX5_toldUpTo_9 rfl (lv_at hl 1 rfl) ?_
        refine lv_iconst (v := 1) hx hb dX5_toldUpTo_10 (by decide) ?_
        refine lv_aload_n hx hb dX5_toldUpTo_11 rfl (lv_at hl 2 rfl) ?_
        refine va_get (D := (dC, dI)) (ci := 5) (v := .ref m_tx_a) (C := RX5) (T := TX5) (N := 10) hx hb hts in_X5_toldUpTo_5 hown hK hP 0 rfl rfl 4 (by decide) hf20 (fun _ h9 => h9) rfl dX5_toldUpTo_12 ?_
        refine lv_iload_n hx hb dX5_toldUpTo_15 rfl (lv_at hl 0 rfl) ?_
        obtain ⟨h_16, hM⟩ := ob_get hM
        refine va_iald hx hb hK hP 3 0 rfl rfl h_16 dX5_toldUpTo_16 ?_
        refine lv_bipush (v := 97) hx hb dX5_toldUpTo_17 (by decide) ?_
        refine lv_isub hx hb dX5_toldUpTo_19 ?_
        refine lv_ishl hx hb dX5_toldUpTo_20 ?_
        refine lv_ior hx hb dX5_toldUpTo_21 ?_
        refine lv_istore_n (lv' := [(2, .int (v2_4 ||| ((1 : Int32) <<< (((m_tx (v3_4).toNatClampNeg) - 97) &&& 31)))), (3, .int v3_4), (0, .ref m_a), (1, .int p1)]) hx hb dX5_toldUpTo_22 rfl hl (by decide) rfl (fun ls hl => ?_)
        refine lv_iinc (v := (v3_4 + 1)) (lv' := [(3, .int (v3_4 + 1)), (2, .int (v2_4 ||| ((1 : Int32) <<< (((m_tx (v3_4).toNatClampNeg) - 97) &&& 31)))), (0, .ref m_a), (1, .int p1)]) hx hb dX5_toldUpTo_23 hl (k := 1) rfl (by rfl) (by decide) rfl (fun ls hl => ?_)
        refine lv_goto (tgt := 4) hx hb dX5_toldUpTo_26 (by decide) ?_
        exact ih4 (v3_4 + 1) (v2_4 ||| ((1 : Int32) <<< (((m_tx (v3_4).toNatClampNeg) - 97) &&& 31))) _ hM (lv_sub hl [0, 1, 2, 3] rfl)
  exact hL4 40 2 0 _ hM (lv_sub hl [0, 1, 2, 3] rfl)
/-! X5_canStand -/
abbrev rm_X5_canStand : Room := { frames := 2, cells := 0, slots := 0, locals := 43 }
theorem in_X5_canStand_5 : ∀ w ∈ u_ws RX5 TX5 10, w ∈ wsX5_canStand := by decide +kernel
set_option maxHeartbeats 4000000 in
set_option maxRecDepth 100000 in
theorem c_X5_canStand (l : Launch) (dC : Nat → ClassId) (dI : Nat → Nat → Nat) (cI cZ cJ cW : ClassId) (m_a m_ds_a m_cs_a m_tx_a m_ia_a m_im_a m_ik_a : Nat) (m_sz : Int32) (m_kn : Int32) (m_sg : Int32) (m_fa : Int32) (m_ds : Nat → Int32) (m_cs : Nat → Int32) (m_tx : Nat → Int32) (m_ia : Nat → Int32) (m_im : Nat → Int32) (m_ik : Nat → Int32) (p1 : Int32) (R : Int32) (hM : M_X5_canStand p1 m_sz m_tx = some R) : Met l yX5_canStand wsX5_canStand rm_X5_canStand (va_Pc [.ref m_a, .int p1] (RP (dC, dI) cI cZ cJ cW [(m_a, .inr (5, [.int m_sz, .ref m_ds_a, .ref m_cs_a, .int m_kn, .ref m_tx_a, .int m_sg, .int m_fa, .ref m_ia_a, .ref m_im_a, .ref m_ik_a])), (m_ds_a, .inl (cI, 14, .inl m_ds)), (m_cs_a, .inl (cI, 14, .inl m_cs)), (m_tx_a, .inl (cI, 20, .inl m_tx)), (m_ia_a, .inl (cZ, 16384, .inl m_ia)), (m_im_a, .inl (cI, 60, .inl m_im)), (m_ik_a, .inl (cZ, 2, .inl m_ik))])) (vp_Si (fun r => R = r)) 0 0 (fun _ => False) := by
  refine Met.ofW (cc := cX5_canStand) (maxL := 3) (ret := (some .boolean)) (by decide) rfl ?_
  intro p e s m args below meth c s₁ B hml hv
  obtain ⟨rfl, hP, hK, hN⟩ := hv
  have hx := B.exec
  have hb := B.bytes
  have hr := B.returns
  have hts := atoms_spec (ws := wsX5_canStand) B.pre
  have hown : s.vm.findClass RX5 = some m.cls := findClass_of_methodNamed B.named
  have hlocks := B.notSynchronized
  have hf20 := hts (.fieldLink RX5 20 "WordGroundsModel" "text" "[I") (by decide +kernel)
  have hl := lv_entry ([.ref m_a, .int p1]) (n := 3) (Nat.le_of_ble_eq_true rfl)
  rw [lg_entry_eq]
  generalize (lg_sl ([.ref m_a, .int p1]) ++ List.replicate (3 - (lg_sl ([.ref m_a, .int p1])).length) Slot.unset).toArray = ls at hl ⊢
  have hl : lv_has ls 3 [(0, .ref m_a), (1, .int p1)] := hl
  have hM : (if p1 < 0 ∨ 20 ≤ (p1).toNatClampNeg then none else (if p1 = 0 then ((M_X5_isWord ((m_tx (p1).toNatClampNeg) - 97) m_sz).bind (fun q16 => if q16 = 0 ∨ q16 = 1 then some q16 else none)) else (if p1 = 1 then (if (m_tx (1 : Int32).toNatClampNeg) = 58 then (some 1) else (if (m_tx (1 : Int32).toNatClampNeg) = 46 then (some 1) else (some 0))) else (if (m_tx (1 : Int32).toNatClampNeg) = 58 then ((M_X5_isWord ((m_tx (p1).toNatClampNeg) - 97) m_sz).bind (fun q66 => if q66 = 0 then (some 0) else ((M_X5_toldUpTo p1 m_tx).bind (fun q74 => (M_X5_has q74 ((m_tx (p1).toNatClampNeg) - 97)).bind (fun q78 => if q78 = 0 then (some 1) else (some 0)))))) else (some 0))))) = some R := hM
  refine lv_aload_n hx hb dX5_canStand_0 rfl (lv_at hl 0 rfl) ?_
  refine va_get (D := (dC, dI)) (ci := 5) (v := .ref m_tx_a) (C := RX5) (T := TX5) (N := 10) hx hb hts in_X5_canStand_5 hown hK hP 0 rfl rfl 4 (by decide) hf20 (fun _ h9 => h9) rfl dX5_canStand_1 ?_
  refine lv_iload_n hx hb dX5_canStand_4 rfl (lv_at hl 1 rfl) ?_
  obtain ⟨h_5, hM⟩ := ob_get hM
  refine va_iald hx hb hK hP 3 0 rfl rfl h_5 dX5_canStand_5 ?_
  refine lv_bipush (v := 97) hx hb dX5_canStand_6 (by decide) ?_
  refine lv_isub hx hb dX5_canStand_8 ?_
  refine lv_istore_n (lv' := [(2, .int ((m_tx (p1).toNatClampNeg) - 97)), (0, .ref m_a), (1, .int p1)]) hx hb dX5_canStand_9 rfl hl (by decide) rfl (fun ls hl => ?_)
  refine lv_iload_n hx hb dX5_canStand_10 rfl (lv_at hl 2 rfl) ?_
  refine lv_if_ne (tgt := 20) hx hb dX5_canStand_11 (by decide) (fun c_11 => ?_) (fun c_11 => ?_)
  · replace hM := ob_neg c_11 hM
    refine lv_iload_n hx hb dX5_canStand_20 rfl (lv_at hl 2 rfl) ?_
    refine lv_iconst (v := 1) hx hb dX5_canStand_21 (by decide) ?_
    refine lv_icmp_ne (tgt := 53) hx hb dX5_canStand_22 (by decide) (fun c_22 => ?_) (fun c_22 => ?_)
    · replace hM := ob_neg c_22 hM
      refine lv_aload_n hx hb dX5_canStand_53 rfl (lv_at hl 1 rfl) ?_
      refine va_get (D := (dC, dI)) (ci := 5) (v := .ref m_tx_a) (C := RX5) (T := TX5) (N := 10) hx hb hts in_X5_canStand_5 hown hK hP 0 rfl rfl 4 (by decide) hf20 (fun _ h9 => h9) rfl dX5_canStand_54 ?_
      refine lv_iconst (v := 1) hx hb dX5_canStand_57 (by decide) ?_
      refine va_iald hx hb hK hP 3 0 rfl rfl (show vp_in 1 20 from by unfold vp_in; decide) dX5_canStand_58 ?_
      refine lv_bipush (v := 58) hx hb dX5_canStand_59 (by decide) ?_
      refine lv_icmp_ne (tgt := 88) hx hb dX5_canStand_61 (by decide) (fun c_61 => ?_) (fun c_61 => ?_)
      · replace hM := ob_neg c_61 hM
        refine lv_iconst (v := 0) hx hb dX5_canStand_88 (by decide) ?_
        exact W.zret (v := 0) hx hb hr (by rfl) (fun t ht hW => ⟨_, rfl, (Option.some.inj hM).symm, ht⟩) (fun _ h => by cases h) dX5_canStand_89
      · replace hM := ob_pos c_61 hM
        refine lv_aload_n hx hb dX5_canStand_64 rfl (lv_at hl 1 rfl) ?_
        refine lv_iload_n hx hb dX5_canStand_65 rfl (lv_at hl 0 rfl) ?_
        obtain ⟨q66, hv66, hM⟩ := ob_bind hM
        refine vp_callSi (va_Run.run (va_runV (As := [.int ((m_tx (p1).toNatClampNeg) - 97)]) (rest := []) ⟨hx, hb, hml, hown, hts⟩ (c_X5_isWord l dC dI cI cZ cJ cW m_a m_ds_a m_cs_a m_tx_a m_ia_a m_im_a m_ik_a m_sz m_kn m_sg m_fa m_ds m_cs m_tx m_ia m_im m_ik ((m_tx (p1).toNatClampNeg) - 97) q66 hv66) (cwV 1 hts gX5_canStand_X5_isWord rfl rfl rfl (by decide +kernel) ⟨Nat.le_of_ble_eq_true rfl, Nat.le_of_ble_eq_true rfl⟩) ⟨RP.blind, va_recv hK hP (ci := 5) (q0 := 0) rfl rfl, fun U hU hW => ⟨rfl, by rw [hU]; exact hP.sub (ws' := [(m_a, .inr (5, [.int m_sz, .ref m_ds_a, .ref m_cs_a, .int m_kn, .ref m_tx_a, .int m_sg, .int m_fa, .ref m_ia_a, .ref m_im_a, .ref m_ik_a])), (m_ds_a, .inl (cI, 14, .inl m_ds)), (m_cs_a, .inl (cI, 14, .inl m_cs)), (m_tx_a, .inl (cI, 20, .inl m_tx)), (m_ia_a, .inl (cZ, 16384, .inl m_ia)), (m_im_a, .inl (cI, 60, .inl m_im)), (m_ik_a, .inl (cZ, 2, .inl m_ik))]) [0, 1, 2, 3, 4, 5, 6] rfl, va_K.moved hW.alike hK, hN.warm hW⟩⟩ rfl rfl hl.1 rfl (lv_room (Nat.le_of_ble_eq_true rfl)) dX5_canStand_66 ⟨Nat.le_of_ble_eq_true rfl, Nat.le_of_ble_eq_true rfl⟩)) (fun r hr => ?_)
        subst hr
        refine lv_if_eq (tgt := 88) hx hb dX5_canStand_69 (by decide) (fun c_69 => ?_) (fun c_69 => ?_)
        · replace hM := ob_pos c_69 hM
          refine lv_iconst (v := 0) hx hb dX5_canStand_88 (by decide) ?_
          exact W.zret (v := 0) hx hb hr (by rfl) (fun t ht hW => ⟨_, rfl, (Option.some.inj hM).symm, ht⟩) (fun _ h => by cases h) dX5_canStand_89
        · replace hM := ob_neg c_69 hM
          refine lv_aload_n hx hb dX5_canStand_72 rfl (lv_at hl 1 rfl) ?_
          refine lv_iload_n hx hb dX5_canStand_73 rfl (lv_at hl 2 rfl) ?_
          obtain ⟨q74, hv74, hM⟩ := ob_bind hM
          refine vp_callSi (va_Run.run (va_runV (As := [.int p1]) (rest := []) ⟨hx, hb, hml, hown, hts⟩ (c_X5_toldUpTo l dC dI cI cZ cJ cW m_a m_ds_a m_cs_a m_tx_a m_ia_a m_im_a m_ik_a m_sz m_kn m_sg m_fa m_ds m_cs m_tx m_ia m_im m_ik p1 q74 hv74) (cwV 1 hts gX5_canStand_X5_toldUpTo rfl rfl rfl (by decide +kernel) ⟨Nat.le_of_ble_eq_true rfl, Nat.le_of_ble_eq_true rfl⟩) ⟨RP.blind, va_recv hK hP (ci := 5) (q0 := 0) rfl rfl, fun U hU hW => ⟨rfl, by rw [hU]; exact hP.sub (ws' := [(m_a, .inr (5, [.int m_sz, .ref m_ds_a, .ref m_cs_a, .int m_kn, .ref m_tx_a, .int m_sg, .int m_fa, .ref m_ia_a, .ref m_im_a, .ref m_ik_a])), (m_ds_a, .inl (cI, 14, .inl m_ds)), (m_cs_a, .inl (cI, 14, .inl m_cs)), (m_tx_a, .inl (cI, 20, .inl m_tx)), (m_ia_a, .inl (cZ, 16384, .inl m_ia)), (m_im_a, .inl (cI, 60, .inl m_im)), (m_ik_a, .inl (cZ, 2, .inl m_ik))]) [0, 1, 2, 3, 4, 5, 6] rfl, va_K.moved hW.alike hK, hN.warm hW⟩⟩ rfl rfl hl.1 rfl (lv_room (Nat.le_of_ble_eq_true rfl)) dX5_canStand_74 ⟨Nat.le_of_ble_eq_true rfl, Nat.le_of_ble_eq_true rfl⟩)) (fun r hr => ?_)
          subst hr
          refine lv_iload_n hx hb dX5_canStand_77 rfl (lv_at hl 0 rfl) ?_
          obtain ⟨q78, hv78, hM⟩ := ob_bind hM
          refine vp_callSi (va_Run.run (va_runS (As := [.int q74, .int ((m_tx (p1).toNatClampNeg) - 97)]) (rest := []) ⟨hx, hb, hml, hown, hts⟩ (c_X5_has l dC dI cI cZ cJ cW q74 ((m_tx (p1).toNatClampNeg) - 97) q78 hv78) (va_cwS 2 hts gX5_canStand_X5_has rfl rfl rfl (by decide +kernel) ⟨Nat.le_of_ble_eq_true rfl, Nat.le_of_ble_eq_true rfl⟩) ⟨TP.blind, fun U hU hW => ⟨rfl, trivial⟩⟩ rfl rfl hl.1 rfl (lv_room (Nat.le_of_ble_eq_true rfl)) dX5_canStand_78 ⟨Nat.le_of_ble_eq_true rfl, Nat.le_of_ble_eq_true rfl⟩)) (fun r hr => ?_)
          subst hr
          refine lv_if_ne (tgt := 88) hx hb dX5_canStand_81 (by decide) (fun c_81 => ?_) (fun c_81 => ?_)
          · replace hM := ob_neg c_81 hM
            refine lv_iconst (v := 0) hx hb dX5_canStand_88 (by decide) ?_
            exact W.zret (v := 0) hx hb hr (by rfl) (fun t ht hW => ⟨_, rfl, (Option.some.inj hM).symm, ht⟩) (fun _ h => by cases h) dX5_canStand_89
          · replace hM := ob_pos c_81 hM
            refine lv_iconst (v := 1) hx hb dX5_canStand_84 (by decide) ?_
            refine lv_goto (tgt := 89) hx hb dX5_canStand_85 (by decide) ?_
            exact W.zret (v := 1) hx hb hr (by rfl) (fun t ht hW => ⟨_, rfl, (Option.some.inj hM).symm, ht⟩) (fun _ h => by cases h) dX5_canStand_89
    · replace hM := ob_pos c_22 hM
      refine lv_aload_n hx hb dX5_canStand_25 rfl (lv_at hl 1 rfl) ?_
      refine va_get (D := (dC, dI)) (ci := 5) (v := .ref m_tx_a) (C := RX5) (T := TX5) (N := 10) hx hb hts in_X5_canStand_5 hown hK hP 0 rfl rfl 4 (by decide) hf20 (fun _ h9 => h9) rfl dX5_canStand_26 ?_
      refine lv_iconst (v := 1) hx hb dX5_canStand_29 (by decide) ?_
      refine va_iald hx hb hK hP 3 0 rfl rfl (show vp_in 1 20 from by unfold vp_in; decide) dX5_canStand_30 ?_
      refine lv_bipush (v := 58) hx hb dX5_canStand_31 (by decide) ?_
      refine lv_icmp_eq (tgt := 47) hx hb dX5_canStand_33 (by decide) (fun c_33 => ?_) (fun c_33 => ?_)
      · replace hM := ob_pos c_33 hM
        refine lv_iconst (v := 1) hx hb dX5_canStand_47 (by decide) ?_
        refine lv_goto (tgt := 52) hx hb dX5_canStand_48 (by decide) ?_
        exact W.zret (v := 1) hx hb hr (by rfl) (fun t ht hW => ⟨_, rfl, (Option.some.inj hM).symm, ht⟩) (fun _ h => by cases h) dX5_canStand_52
      · replace hM := ob_neg c_33 hM
        refine lv_aload_n hx hb dX5_canStand_36 rfl (lv_at hl 1 rfl) ?_
        refine va_get (D := (dC, dI)) (ci := 5) (v := .ref m_tx_a) (C := RX5) (T := TX5) (N := 10) hx hb hts in_X5_canStand_5 hown hK hP 0 rfl rfl 4 (by decide) hf20 (fun _ h9 => h9) rfl dX5_canStand_37 ?_
        refine lv_iconst (v := 1) hx hb dX5_canStand_40 (by decide) ?_
        refine va_iald hx hb hK hP 3 0 rfl rfl (show vp_in 1 20 from by unfold vp_in; decide) dX5_canStand_41 ?_
        refine lv_bipush (v := 46) hx hb dX5_canStand_42 (by decide) ?_
        refine lv_icmp_ne (tgt := 51) hx hb dX5_canStand_44 (by decide) (fun c_44 => ?_) (fun c_44 => ?_)
        · replace hM := ob_neg c_44 hM
          refine lv_iconst (v := 0) hx hb dX5_canStand_51 (by decide) ?_
          exact W.zret (v := 0) hx hb hr (by rfl) (fun t ht hW => ⟨_, rfl, (Option.some.inj hM).symm, ht⟩) (fun _ h => by cases h) dX5_canStand_52
        · replace hM := ob_pos c_44 hM
          refine lv_iconst (v := 1) hx hb dX5_canStand_47 (by decide) ?_
          refine lv_goto (tgt := 52) hx hb dX5_canStand_48 (by decide) ?_
          exact W.zret (v := 1) hx hb hr (by rfl) (fun t ht hW => ⟨_, rfl, (Option.some.inj hM).symm, ht⟩) (fun _ h => by cases h) dX5_canStand_52
  · replace hM := ob_pos c_11 hM
    refine lv_aload_n hx hb dX5_canStand_14 rfl (lv_at hl 1 rfl) ?_
    refine lv_iload_n hx hb dX5_canStand_15 rfl (lv_at hl 0 rfl) ?_
    obtain ⟨q16, hv16, hM⟩ := ob_bind hM
    refine vp_callSi (va_Run.run (va_runV (As := [.int ((m_tx (p1).toNatClampNeg) - 97)]) (rest := []) ⟨hx, hb, hml, hown, hts⟩ (c_X5_isWord l dC dI cI cZ cJ cW m_a m_ds_a m_cs_a m_tx_a m_ia_a m_im_a m_ik_a m_sz m_kn m_sg m_fa m_ds m_cs m_tx m_ia m_im m_ik ((m_tx (p1).toNatClampNeg) - 97) q16 hv16) (cwV 1 hts gX5_canStand_X5_isWord rfl rfl rfl (by decide +kernel) ⟨Nat.le_of_ble_eq_true rfl, Nat.le_of_ble_eq_true rfl⟩) ⟨RP.blind, va_recv hK hP (ci := 5) (q0 := 0) rfl rfl, fun U hU hW => ⟨rfl, by rw [hU]; exact hP.sub (ws' := [(m_a, .inr (5, [.int m_sz, .ref m_ds_a, .ref m_cs_a, .int m_kn, .ref m_tx_a, .int m_sg, .int m_fa, .ref m_ia_a, .ref m_im_a, .ref m_ik_a])), (m_ds_a, .inl (cI, 14, .inl m_ds)), (m_cs_a, .inl (cI, 14, .inl m_cs)), (m_tx_a, .inl (cI, 20, .inl m_tx)), (m_ia_a, .inl (cZ, 16384, .inl m_ia)), (m_im_a, .inl (cI, 60, .inl m_im)), (m_ik_a, .inl (cZ, 2, .inl m_ik))]) [0, 1, 2, 3, 4, 5, 6] rfl, va_K.moved hW.alike hK, hN.warm hW⟩⟩ rfl rfl hl.1 rfl (lv_room (Nat.le_of_ble_eq_true rfl)) dX5_canStand_16 ⟨Nat.le_of_ble_eq_true rfl, Nat.le_of_ble_eq_true rfl⟩)) (fun r hr => ?_)
    subst hr
    obtain ⟨h_19, hM⟩ := ob_zr hM
    exact W.zret (v := q16) hx hb hr (nar_b h_19) (fun t ht hW => ⟨_, rfl, (Option.some.inj hM).symm, ht⟩) (fun _ h => by cases h) dX5_canStand_19
/-! X5_faultNow -/
abbrev rm_X5_faultNow : Room := { frames := 3, cells := 0, slots := 0, locals := 65 }
theorem in_X5_faultNow_5 : ∀ w ∈ u_ws RX5 TX5 10, w ∈ wsX5_faultNow := by decide +kernel
set_option maxHeartbeats 4000000 in
set_option maxRecDepth 100000 in
theorem c_X5_faultNow (l : Launch) (dC : Nat → ClassId) (dI : Nat → Nat → Nat) (cI cZ cJ cW : ClassId) (m_a m_ds_a m_cs_a m_tx_a m_ia_a m_im_a m_ik_a : Nat) (m_sz : Int32) (m_kn : Int32) (m_sg : Int32) (m_fa : Int32) (m_ds : Nat → Int32) (m_cs : Nat → Int32) (m_tx : Nat → Int32) (m_ia : Nat → Int32) (m_im : Nat → Int32) (m_ik : Nat → Int32) (R : Int32) (hM : M_X5_faultNow m_sz m_tx m_sg = some R) : Met l yX5_faultNow wsX5_faultNow rm_X5_faultNow (va_Pc [.ref m_a] (RP (dC, dI) cI cZ cJ cW [(m_a, .inr (5, [.int m_sz, .ref m_ds_a, .ref m_cs_a, .int m_kn, .ref m_tx_a, .int m_sg, .int m_fa, .ref m_ia_a, .ref m_im_a, .ref m_ik_a])), (m_ds_a, .inl (cI, 14, .inl m_ds)), (m_cs_a, .inl (cI, 14, .inl m_cs)), (m_tx_a, .inl (cI, 20, .inl m_tx)), (m_ia_a, .inl (cZ, 16384, .inl m_ia)), (m_im_a, .inl (cI, 60, .inl m_im)), (m_ik_a, .inl (cZ, 2, .inl m_ik))])) (vp_Si (fun r => R = r)) 0 0 (fun _ => False) := by
  refine Met.ofW (cc := cX5_faultNow) (maxL := 2) (ret := (some .int)) (by decide) rfl ?_
  intro p e s m args below meth c s₁ B hml hv
  obtain ⟨rfl, hP, hK, hN⟩ := hv
  have hx := B.exec
  have hb := B.bytes
  have hr := B.returns
  have hts := atoms_spec (ws := wsX5_faultNow) B.pre
  have hown : s.vm.findClass RX5 = some m.cls := findClass_of_methodNamed B.named
  have hlocks := B.notSynchronized
  have hf47 := hts (.fieldLink RX5 47 "WordGroundsModel" "signs" "I") (by decide +kernel)
  have hl := lv_entry ([.ref m_a]) (n := 2) (Nat.le_of_ble_eq_true rfl)
  rw [lg_entry_eq]
  generalize (lg_sl ([.ref m_a]) ++ List.replicate (2 - (lg_sl ([.ref m_a])).length) Slot.unset).toArray = ls at hl ⊢
  have hl : lv_has ls 2 [(0, .ref m_a)] := hl
  have hM : (L_X5_faultNow_2 m_sz m_tx m_sg (fun (v1_2 : Int32) => if 2 ≤ m_sg then (some (-6)) else (some m_sg)) 40 0) = some R := hM
  refine lv_iconst (v := 0) hx hb dX5_faultNow_0 (by decide) ?_
  refine lv_istore_n (lv' := [(1, .int 0), (0, .ref m_a)]) hx hb dX5_faultNow_1 rfl hl (by decide) rfl (fun ls hl => ?_)
  obtain ⟨K2, hK2⟩ : ∃ K : Int32 → Option (Int32), K = (fun (v1_2 : Int32) => if 2 ≤ m_sg then (some (-6)) else (some m_sg)) := ⟨_, rfl⟩
  have hM : L_X5_faultNow_2 m_sz m_tx m_sg K2 40 0 = some R := by rw [hK2]; exact hM
  have hL2 : ∀ (k2 : Nat) (v1_2 : Int32) (ls : Array Slot), L_X5_faultNow_2 m_sz m_tx m_sg K2 k2 v1_2 = some R → lv_has ls 2 [(1, .int v1_2), (0, .ref m_a)] → W p l e rm_X5_faultNow s m ([.ref m_a] : List Value).toArray below meth c s.heap [] 0 0 (MQ below (vp_Si (fun r => R = r)) ([.ref m_a] : List Value).toArray s 0 0 (fun _ => False)) (F0 m 2 ls []) := by
    intro k2
    induction k2 with
    | zero => intro v1_2 ls hM; exact (ob_none hM).elim
    | succ k2 ih2 =>
      intro v1_2 ls hM hl
      have hM : (if m_sg ≤ v1_2 then (K2 v1_2) else ((M_X5_canStand v1_2 m_sz m_tx).bind (fun q12 => if q12 = 0 then (some v1_2) else (L_X5_faultNow_2 m_sz m_tx m_sg K2 k2 (v1_2 + 1))))) = some R := hM
      refine lv_iload_n hx hb dX5_faultNow_2 rfl (lv_at hl 0 rfl) ?_
      refine lv_aload_n hx hb dX5_faultNow_3 rfl (lv_at hl 1 rfl) ?_
      refine va_get (D := (dC, dI)) (ci := 5) (v := .int m_sg) (C := RX5) (T := TX5) (N := 10) hx hb hts in_X5_faultNow_5 hown hK hP 0 rfl rfl 5 (by decide) hf47 (fun _ h9 => h9) rfl dX5_faultNow_4 ?_
      refine lv_icmp_ge (tgt := 26) hx hb dX5_faultNow_7 (by decide) (fun c_7 => ?_) (fun c_7 => ?_)
      · replace hM := ob_pos c_7 hM
        have hM : (if 2 ≤ m_sg then (some (-6)) else (some m_sg)) = some R := by rw [hK2] at hM; exact hM
        refine lv_aload_n hx hb dX5_faultNow_26 rfl (lv_at hl 1 rfl) ?_
        refine va_get (D := (dC, dI)) (ci := 5) (v := .int m_sg) (C := RX5) (T := TX5) (N := 10) hx hb hts in_X5_faultNow_5 hown hK hP 0 rfl rfl 5 (by decide) hf47 (fun _ h9 => h9) rfl dX5_faultNow_27 ?_
        refine lv_iconst (v := 2) hx hb dX5_faultNow_30 (by decide) ?_
        refine lv_icmp_ge (tgt := 41) hx hb dX5_faultNow_31 (by decide) (fun c_31 => ?_) (fun c_31 => ?_)
        · replace hM := ob_pos c_31 hM
          refine lv_bipush (v := (-6)) hx hb dX5_faultNow_41 (by decide) ?_
          exact W.iret (v := (-6)) hx hb hr (fun t ht hW => ⟨_, rfl, (Option.some.inj hM).symm, ht⟩) (fun _ h => by cases h) dX5_faultNow_43
        · replace hM := ob_neg c_31 hM
          refine lv_aload_n hx hb dX5_faultNow_34 rfl (lv_at hl 1 rfl) ?_
          refine va_get (D := (dC, dI)) (ci := 5) (v := .int m_sg) (C := RX5) (T := TX5) (N := 10) hx hb hts in_X5_faultNow_5 hown hK hP 0 rfl rfl 5 (by decide) hf47 (fun _ h9 => h9) rfl dX5_faultNow_35 ?_
          refine lv_goto (tgt := 43) hx hb dX5_faultNow_38 (by decide) ?_
          exact W.iret (v := m_sg) hx hb hr (fun t ht hW => ⟨_, rfl, (Option.some.inj hM).symm, ht⟩) (fun _ h => by cases h) dX5_faultNow_43
      · replace hM := ob_neg c_7 hM
        refine lv_aload_n hx hb dX5_faultNow_10 rfl (lv_at hl 1 rfl) ?_
        refine lv_iload_n hx hb dX5_faultNow_11 rfl (lv_at hl 0 rfl) ?_
        obtain ⟨q12, hv12, hM⟩ := ob_bind hM
        refine vp_callSi (va_Run.run (va_runV (As := [.int v1_2]) (rest := []) ⟨hx, hb, hml, hown, hts⟩ (c_X5_canStand l dC dI cI cZ cJ cW m_a m_ds_a m_cs_a m_tx_a m_ia_a m_im_a m_ik_a m_sz m_kn m_sg m_fa m_ds m_cs m_tx m_ia m_im m_ik v1_2 q12 hv12) (cwV 1 hts gX5_faultNow_X5_canStand rfl rfl rfl (by decide +kernel) ⟨Nat.le_of_ble_eq_true rfl, Nat.le_of_ble_eq_true rfl⟩) ⟨RP.blind, va_recv hK hP (ci := 5) (q0 := 0) rfl rfl, fun U hU hW => ⟨rfl, by rw [hU]; exact hP.sub (ws' := [(m_a, .inr (5, [.int m_sz, .ref m_ds_a, .ref m_cs_a, .int m_kn, .ref m_tx_a, .int m_sg, .int m_fa, .ref m_ia_a, .ref m_im_a, .ref m_ik_a])), (m_ds_a, .inl (cI, 14, .inl m_ds)), (m_cs_a, .inl (cI, 14, .inl m_cs)), (m_tx_a, .inl (cI, 20, .inl m_tx)), (m_ia_a, .inl (cZ, 16384, .inl m_ia)), (m_im_a, .inl (cI, 60, .inl m_im)), (m_ik_a, .inl (cZ, 2, .inl m_ik))]) [0, 1, 2, 3, 4, 5, 6] rfl, va_K.moved hW.alike hK, hN.warm hW⟩⟩ rfl rfl hl.1 rfl (lv_room (Nat.le_of_ble_eq_true rfl)) dX5_faultNow_12 ⟨Nat.le_of_ble_eq_true rfl, Nat.le_of_ble_eq_true rfl⟩)) (fun r hr => ?_)
        subst hr
        refine lv_if_ne (tgt := 20) hx hb dX5_faultNow_15 (by decide) (fun c_15 => ?_) (fun c_15 => ?_)
        · replace hM := ob_neg c_15 hM
          refine lv_iinc (v := (v1_2 + 1)) (lv' := [(1, .int (v1_2 + 1)), (0, .ref m_a)]) hx hb dX5_faultNow_20 hl (k := 0) rfl (by rfl) (by decide) rfl (fun ls hl => ?_)
          refine lv_goto (tgt := 2) hx hb dX5_faultNow_23 (by decide) ?_
          exact ih2 (v1_2 + 1) _ hM (lv_sub hl [0, 1] rfl)
        · replace hM := ob_pos c_15 hM
          refine lv_iload_n hx hb dX5_faultNow_18 rfl (lv_at hl 0 rfl) ?_
          exact W.iret (v := v1_2) hx hb hr (fun t ht hW => ⟨_, rfl, (Option.some.inj hM).symm, ht⟩) (fun _ h => by cases h) dX5_faultNow_19
  exact hL2 40 0 _ hM (lv_sub hl [0, 1] rfl)
/-! X5_define -/
abbrev rm_X5_define : Room := { frames := 4, cells := 0, slots := 0, locals := 86 }
theorem in_X5_define_5 : ∀ w ∈ u_ws RX5 TX5 10, w ∈ wsX5_define := by decide +kernel
set_option maxHeartbeats 4000000 in
set_option maxRecDepth 100000 in
theorem c_X5_define (l : Launch) (dC : Nat → ClassId) (dI : Nat → Nat → Nat) (cI cZ cJ cW : ClassId) (sz : Nat) (m_a m_ds_a m_cs_a m_tx_a m_ia_a m_im_a m_ik_a : Nat) (m_sz : Int32) (m_kn : Int32) (m_sg : Int32) (m_fa : Int32) (m_ds : Nat → Int32) (m_cs : Nat → Int32) (m_tx : Nat → Int32) (m_ia : Nat → Int32) (m_im : Nat → Int32) (m_ik : Nat → Int32) (R : Int32 × Int32 × Int32 × (Nat → Int32)) (hM : M_X5_define m_sz m_ds m_tx m_sg m_fa = some R) : Met l yX5_define wsX5_define rm_X5_define (va_Pc [.ref m_a] (MP (dC, dI) cI cZ cJ cW sz [(m_a, .inr (5, [.int m_sz, .ref m_ds_a, .ref m_cs_a, .int m_kn, .ref m_tx_a, .int m_sg, .int m_fa, .ref m_ia_a, .ref m_im_a, .ref m_ik_a])), (m_ds_a, .inl (cI, 14, .inl m_ds)), (m_cs_a, .inl (cI, 14, .inl m_cs)), (m_tx_a, .inl (cI, 20, .inl m_tx)), (m_ia_a, .inl (cZ, 16384, .inl m_ia)), (m_im_a, .inl (cI, 60, .inl m_im)), (m_ik_a, .inl (cZ, 2, .inl m_ik))])) (va_Qi (fun (r : Int32) (_ : Unit) => R.1 = r) (PB (dC, dI) (va_A [(m_a, .inr (5, [.int m_sz, .ref m_ds_a, .ref m_cs_a, .int m_kn, .ref m_tx_a, .int m_sg, .int m_fa, .ref m_ia_a, .ref m_im_a, .ref m_ik_a])), (m_ds_a, .inl (cI, 14, .inl m_ds)), (m_cs_a, .inl (cI, 14, .inl m_cs)), (m_tx_a, .inl (cI, 20, .inl m_tx)), (m_ia_a, .inl (cZ, 16384, .inl m_ia)), (m_im_a, .inl (cI, 60, .inl m_im)), (m_ik_a, .inl (cZ, 2, .inl m_ik))] sz) [(m_a, .inr (5, [.int m_sz, .ref m_ds_a, .ref m_cs_a, .int m_kn, .ref m_tx_a, .int R.2.1, .int R.2.2.1, .ref m_ia_a, .ref m_im_a, .ref m_ik_a])), (m_ds_a, .inl (cI, 14, .inl R.2.2.2)), (m_cs_a, .inl (cI, 14, .inl m_cs)), (m_tx_a, .inl (cI, 20, .inl m_tx)), (m_ia_a, .inl (cZ, 16384, .inl m_ia)), (m_im_a, .inl (cI, 60, .inl m_im)), (m_ik_a, .inl (cZ, 2, .inl m_ik))]) (va_A [(m_a, .inr (5, [.int m_sz, .ref m_ds_a, .ref m_cs_a, .int m_kn, .ref m_tx_a, .int m_sg, .int m_fa, .ref m_ia_a, .ref m_im_a, .ref m_ik_a])), (m_ds_a, .inl (cI, 14, .inl m_ds)), (m_cs_a, .inl (cI, 14, .inl m_cs)), (m_tx_a, .inl (cI, 20, .inl m_tx)), (m_ia_a, .inl (cZ, 16384, .inl m_ia)), (m_im_a, .inl (cI, 60, .inl m_im)), (m_ik_a, .inl (cZ, 2, .inl m_ik))] sz)) 0 0 (va_A [(m_a, .inr (5, [.int m_sz, .ref m_ds_a, .ref m_cs_a, .int m_kn, .ref m_tx_a, .int m_sg, .int m_fa, .ref m_ia_a, .ref m_im_a, .ref m_ik_a])), (m_ds_a, .inl (cI, 14, .inl m_ds)), (m_cs_a, .inl (cI, 14, .inl m_cs)), (m_tx_a, .inl (cI, 20, .inl m_tx)), (m_ia_a, .inl (cZ, 16384, .inl m_ia)), (m_im_a, .inl (cI, 60, .inl m_im)), (m_ik_a, .inl (cZ, 2, .inl m_ik))] sz) := by
  refine Met.ofW (cc := cX5_define) (maxL := 3) (ret := (some .int)) (by decide) rfl ?_
  intro p e s m args below meth c s₁ B hml hv
  obtain ⟨rfl, hsz, hP, hK, hN, hD0⟩ := hv
  have hx := B.exec
  have hb := B.bytes
  have hr := B.returns
  have hts := atoms_spec (ws := wsX5_define) B.pre
  have hown : s.vm.findClass RX5 = some m.cls := findClass_of_methodNamed B.named
  have hlocks := B.notSynchronized
  subst hsz
  have hD := hD0.self (sz := s.heap.size)
  generalize hAe : va_A [(m_a, .inr (5, [.int m_sz, .ref m_ds_a, .ref m_cs_a, .int m_kn, .ref m_tx_a, .int m_sg, .int m_fa, .ref m_ia_a, .ref m_im_a, .ref m_ik_a])), (m_ds_a, .inl (cI, 14, .inl m_ds)), (m_cs_a, .inl (cI, 14, .inl m_cs)), (m_tx_a, .inl (cI, 20, .inl m_tx)), (m_ia_a, .inl (cZ, 16384, .inl m_ia)), (m_im_a, .inl (cI, 60, .inl m_im)), (m_ik_a, .inl (cZ, 2, .inl m_ik))] s.heap.size = A at hD ⊢
  have hA : ∀ q : Nat, s.heap.size ≤ q → A q := fun q h => by rw [← hAe]; exact Or.inr h
  have hS : va_S A s.heap s.heap [] := va_S.rf
  have hf13 := hts (.fieldLink RX5 13 "WordGroundsModel" "definitions" "[I") (by decide +kernel)
  have hf20 := hts (.fieldLink RX5 20 "WordGroundsModel" "text" "[I") (by decide +kernel)
  have hf23 := hts (.fieldLink RX5 23 "WordGroundsModel" "fault" "I") (by decide +kernel)
  have hf47 := hts (.fieldLink RX5 47 "WordGroundsModel" "signs" "I") (by decide +kernel)
  have hl := lv_entry ([.ref m_a]) (n := 3) (Nat.le_of_ble_eq_true rfl)
  rw [lg_entry_eq]
  generalize (lg_sl ([.ref m_a]) ++ List.replicate (3 - (lg_sl ([.ref m_a])).length) Slot.unset).toArray = ls at hl ⊢
  have hl : lv_has ls 3 [(0, .ref m_a)] := hl
  have hP : va_P (dC, dI) vwCl [(m_a, .inr (5, [.int m_sz, .ref m_ds_a, .ref m_cs_a, .int m_kn, .ref m_tx_a, .int m_sg, .int m_fa, .ref m_ia_a, .ref m_im_a, .ref m_ik_a])), (m_ds_a, .inl (cI, 14, .inl m_ds)), (m_cs_a, .inl (cI, 14, .inl m_cs)), (m_tx_a, .inl (cI, 20, .inl m_tx)), (m_ia_a, .inl (cZ, 16384, .inl m_ia)), (m_im_a, .inl (cI, 60, .inl m_im)), (m_ik_a, .inl (cZ, 2, .inl m_ik))] s.heap := hP
  have hM : ((M_X5_faultNow m_sz m_tx m_sg).bind (fun q1 => if q1 < 0 then (if (m_tx (1 : Int32).toNatClampNeg) = 46 then (if ((m_tx (0 : Int32).toNatClampNeg) - 97) < 0 ∨ 14 ≤ (((m_tx (0 : Int32).toNatClampNeg) - 97)).toNatClampNeg then none else (if ((m_tx (0 : Int32).toNatClampNeg) - 97) < 0 ∨ 14 ≤ (((m_tx (0 : Int32).toNatClampNeg) - 97)).toNatClampNeg then none else (if 0 ≤ ((upd m_ds (((m_tx (0 : Int32).toNatClampNeg) - 97)).toNatClampNeg (-6)) (((m_tx (0 : Int32).toNatClampNeg) - 97)).toNatClampNeg) then (if ((m_tx (0 : Int32).toNatClampNeg) - 97) < 0 ∨ 14 ≤ (((m_tx (0 : Int32).toNatClampNeg) - 97)).toNatClampNeg then none else ((M_X5_bits ((upd m_ds (((m_tx (0 : Int32).toNatClampNeg) - 97)).toNatClampNeg (-6)) (((m_tx (0 : Int32).toNatClampNeg) - 97)).toNatClampNeg)).bind (fun q82 => some (q82, 0, m_fa, (upd m_ds (((m_tx (0 : Int32).toNatClampNeg) - 97)).toNatClampNeg (-6)))))) else (some ((-6), 0, m_fa, (upd m_ds (((m_tx (0 : Int32).toNatClampNeg) - 97)).toNatClampNeg (-6))))))) else ((M_X5_toldUpTo m_sg m_tx).bind (fun q53 => if ((m_tx (0 : Int32).toNatClampNeg) - 97) < 0 ∨ 14 ≤ (((m_tx (0 : Int32).toNatClampNeg) - 97)).toNatClampNeg then none else (if ((m_tx (0 : Int32).toNatClampNeg) - 97) < 0 ∨ 14 ≤ (((m_tx (0 : Int32).toNatClampNeg) - 97)).toNatClampNeg then none else (if 0 ≤ ((upd m_ds (((m_tx (0 : Int32).toNatClampNeg) - 97)).toNatClampNeg q53) (((m_tx (0 : Int32).toNatClampNeg) - 97)).toNatClampNeg) then (if ((m_tx (0 : Int32).toNatClampNeg) - 97) < 0 ∨ 14 ≤ (((m_tx (0 : Int32).toNatClampNeg) - 97)).toNatClampNeg then none else ((M_X5_bits ((upd m_ds (((m_tx (0 : Int32).toNatClampNeg) - 97)).toNatClampNeg q53) (((m_tx (0 : Int32).toNatClampNeg) - 97)).toNatClampNeg)).bind (fun q82 => some (q82, 0, m_fa, (upd m_ds (((m_tx (0 : Int32).toNatClampNeg) - 97)).toNatClampNeg q53))))) else (some ((-6), 0, m_fa, (upd m_ds (((m_tx (0 : Int32).toNatClampNeg) - 97)).toNatClampNeg q53)))))))) else (some ((-7), m_sg, q1, m_ds)))) = some R := hM
  refine lv_aload_n hx hb dX5_define_0 rfl (lv_at hl 0 rfl) ?_
  obtain ⟨q1, hv1, hM⟩ := ob_bind hM
  refine vp_callSi (va_Run.run (va_runV (As := []) (rest := []) ⟨hx, hb, hml, hown, hts⟩ (c_X5_faultNow l dC dI cI cZ cJ cW m_a m_ds_a m_cs_a m_tx_a m_ia_a m_im_a m_ik_a m_sz m_kn m_sg m_fa m_ds m_cs m_tx m_ia m_im m_ik q1 hv1) (cwV 0 hts gX5_define_X5_faultNow rfl rfl rfl (by decide +kernel) ⟨Nat.le_of_ble_eq_true rfl, Nat.le_of_ble_eq_true rfl⟩) ⟨RP.blind, va_recv hK hP (ci := 5) (q0 := 0) rfl rfl, fun U hU hW => ⟨rfl, by rw [hU]; exact hP.sub (ws' := [(m_a, .inr (5, [.int m_sz, .ref m_ds_a, .ref m_cs_a, .int m_kn, .ref m_tx_a, .int m_sg, .int m_fa, .ref m_ia_a, .ref m_im_a, .ref m_ik_a])), (m_ds_a, .inl (cI, 14, .inl m_ds)), (m_cs_a, .inl (cI, 14, .inl m_cs)), (m_tx_a, .inl (cI, 20, .inl m_tx)), (m_ia_a, .inl (cZ, 16384, .inl m_ia)), (m_im_a, .inl (cI, 60, .inl m_im)), (m_ik_a, .inl (cZ, 2, .inl m_ik))]) [0, 1, 2, 3, 4, 5, 6] rfl, va_K.moved hW.alike hK, hN.warm hW⟩⟩ rfl rfl hl.1 rfl (lv_room (Nat.le_of_ble_eq_true rfl)) dX5_define_1 ⟨Nat.le_of_ble_eq_true rfl, Nat.le_of_ble_eq_true rfl⟩)) (fun r hr => ?_)
  subst hr
  refine lv_istore_n (lv' := [(1, .int q1), (0, .ref m_a)]) hx hb dX5_define_4 rfl hl (by decide) rfl (fun ls hl => ?_)
  refine lv_iload_n hx hb dX5_define_5 rfl (lv_at hl 0 rfl) ?_
  refine lv_if_lt (tgt := 17) hx hb dX5_define_6 (by decide) (fun c_6 => ?_) (fun c_6 => ?_)
  · replace hM := ob_pos c_6 hM
    refine lv_aload_n hx hb dX5_define_17 rfl (lv_at hl 1 rfl) ?_
    refine va_get (D := (dC, dI)) (ci := 5) (v := .ref m_tx_a) (C := RX5) (T := TX5) (N := 10) hx hb hts in_X5_define_5 hown hK hP 0 rfl rfl 4 (by decide) hf20 (fun _ h9 => h9) rfl dX5_define_18 ?_
    refine lv_iconst (v := 0) hx hb dX5_define_21 (by decide) ?_
    refine va_iald hx hb hK hP 3 0 rfl rfl (show vp_in 0 20 from by unfold vp_in; decide) dX5_define_22 ?_
    refine lv_bipush (v := 97) hx hb dX5_define_23 (by decide) ?_
    refine lv_isub hx hb dX5_define_25 ?_
    refine lv_istore_n (lv' := [(2, .int ((m_tx (0 : Int32).toNatClampNeg) - 97)), (1, .int q1), (0, .ref m_a)]) hx hb dX5_define_26 rfl hl (by decide) rfl (fun ls hl => ?_)
    refine lv_aload_n hx hb dX5_define_27 rfl (lv_at hl 2 rfl) ?_
    refine va_get (D := (dC, dI)) (ci := 5) (v := .ref m_ds_a) (C := RX5) (T := TX5) (N := 10) hx hb hts in_X5_define_5 hown hK hP 0 rfl rfl 1 (by decide) hf13 (fun _ h9 => h9) rfl dX5_define_28 ?_
    refine lv_iload_n hx hb dX5_define_31 rfl (lv_at hl 0 rfl) ?_
    refine lv_aload_n hx hb dX5_define_32 rfl (lv_at hl 2 rfl) ?_
    refine va_get (D := (dC, dI)) (ci := 5) (v := .ref m_tx_a) (C := RX5) (T := TX5) (N := 10) hx hb hts in_X5_define_5 hown hK hP 0 rfl rfl 4 (by decide) hf20 (fun _ h9 => h9) rfl dX5_define_33 ?_
    refine lv_iconst (v := 1) hx hb dX5_define_36 (by decide) ?_
    refine va_iald hx hb hK hP 3 0 rfl rfl (show vp_in 1 20 from by unfold vp_in; decide) dX5_define_37 ?_
    refine lv_bipush (v := 46) hx hb dX5_define_38 (by decide) ?_
    refine lv_icmp_ne (tgt := 48) hx hb dX5_define_40 (by decide) (fun c_40 => ?_) (fun c_40 => ?_)
    · replace hM := ob_neg c_40 hM
      refine lv_aload_n hx hb dX5_define_48 rfl (lv_at hl 2 rfl) ?_
      refine lv_aload_n hx hb dX5_define_49 rfl (lv_at hl 2 rfl) ?_
      refine va_get (D := (dC, dI)) (ci := 5) (v := .int m_sg) (C := RX5) (T := TX5) (N := 10) hx hb hts in_X5_define_5 hown hK hP 0 rfl rfl 5 (by decide) hf47 (fun _ h9 => h9) rfl dX5_define_50 ?_
      obtain ⟨q53, hv53, hM⟩ := ob_bind hM
      refine vp_callSi (va_Run.run (va_runV (As := [.int m_sg]) (rest := [.int ((m_tx (0 : Int32).toNatClampNeg) - 97), .ref m_ds_a]) ⟨hx, hb, hml, hown, hts⟩ (c_X5_toldUpTo l dC dI cI cZ cJ cW m_a m_ds_a m_cs_a m_tx_a m_ia_a m_im_a m_ik_a m_sz m_kn m_sg m_fa m_ds m_cs m_tx m_ia m_im m_ik m_sg q53 hv53) (cwV 1 hts gX5_define_X5_toldUpTo rfl rfl rfl (by decide +kernel) ⟨Nat.le_of_ble_eq_true rfl, Nat.le_of_ble_eq_true rfl⟩) ⟨RP.blind, va_recv hK hP (ci := 5) (q0 := 0) rfl rfl, fun U hU hW => ⟨rfl, by rw [hU]; exact hP.sub (ws' := [(m_a, .inr (5, [.int m_sz, .ref m_ds_a, .ref m_cs_a, .int m_kn, .ref m_tx_a, .int m_sg, .int m_fa, .ref m_ia_a, .ref m_im_a, .ref m_ik_a])), (m_ds_a, .inl (cI, 14, .inl m_ds)), (m_cs_a, .inl (cI, 14, .inl m_cs)), (m_tx_a, .inl (cI, 20, .inl m_tx)), (m_ia_a, .inl (cZ, 16384, .inl m_ia)), (m_im_a, .inl (cI, 60, .inl m_im)), (m_ik_a, .inl (cZ, 2, .inl m_ik))]) [0, 1, 2, 3, 4, 5, 6] rfl, va_K.moved hW.alike hK, hN.warm hW⟩⟩ rfl rfl hl.1 rfl (lv_room (Nat.le_of_ble_eq_true rfl)) dX5_define_53 ⟨Nat.le_of_ble_eq_true rfl, Nat.le_of_ble_eq_true rfl⟩)) (fun r hr => ?_)
      subst hr
      obtain ⟨h_56, hM⟩ := ob_get hM
      refine va_iast hx hb hK hP hD hS 1 0 rfl rfl h_56 dX5_define_56 (fun H locs hP hD hS => ?_)
      have hP : va_P (dC, dI) vwCl [(m_a, .inr (5, [.int m_sz, .ref m_ds_a, .ref m_cs_a, .int m_kn, .ref m_tx_a, .int m_sg, .int m_fa, .ref m_ia_a, .ref m_im_a, .ref m_ik_a])), (m_ds_a, .inl (cI, 14, .inl (upd m_ds (((m_tx (0 : Int32).toNatClampNeg) - 97)).toNatClampNeg q53))), (m_cs_a, .inl (cI, 14, .inl m_cs)), (m_tx_a, .inl (cI, 20, .inl m_tx)), (m_ia_a, .inl (cZ, 16384, .inl m_ia)), (m_im_a, .inl (cI, 60, .inl m_im)), (m_ik_a, .inl (cZ, 2, .inl m_ik))] H := hP
      have hD : va_D A [(m_a, .inr (5, [.int m_sz, .ref m_ds_a, .ref m_cs_a, .int m_kn, .ref m_tx_a, .int m_sg, .int m_fa, .ref m_ia_a, .ref m_im_a, .ref m_ik_a])), (m_ds_a, .inl (cI, 14, .inl (upd m_ds (((m_tx (0 : Int32).toNatClampNeg) - 97)).toNatClampNeg q53))), (m_cs_a, .inl (cI, 14, .inl m_cs)), (m_tx_a, .inl (cI, 20, .inl m_tx)), (m_ia_a, .inl (cZ, 16384, .inl m_ia)), (m_im_a, .inl (cI, 60, .inl m_im)), (m_ik_a, .inl (cZ, 2, .inl m_ik))] := hD
      refine lv_aload_n hx hb dX5_define_57 rfl (lv_at hl 2 rfl) ?_
      refine lv_iconst (v := 0) hx hb dX5_define_58 (by decide) ?_
      refine va_put (D := (dC, dI)) (ci := 5) (v := .int 0) (ty := .int) (C := RX5) (T := TX5) (N := 10) hx hb hts in_X5_define_5 tyX5 tyX5_ok nmX5 hown hK hP hD hS 0 rfl rfl 5 (by decide) hf47 (fun _ h9 => h9) rfl (by decide +kernel) rfl rfl (Nat.le_of_ble_eq_true rfl) dX5_define_59 (fun H locs hP hD hS => ?_)
      have hP : va_P (dC, dI) vwCl [(m_a, .inr (5, [.int m_sz, .ref m_ds_a, .ref m_cs_a, .int m_kn, .ref m_tx_a, .int 0, .int m_fa, .ref m_ia_a, .ref m_im_a, .ref m_ik_a])), (m_ds_a, .inl (cI, 14, .inl (upd m_ds (((m_tx (0 : Int32).toNatClampNeg) - 97)).toNatClampNeg q53))), (m_cs_a, .inl (cI, 14, .inl m_cs)), (m_tx_a, .inl (cI, 20, .inl m_tx)), (m_ia_a, .inl (cZ, 16384, .inl m_ia)), (m_im_a, .inl (cI, 60, .inl m_im)), (m_ik_a, .inl (cZ, 2, .inl m_ik))] H := hP
      have hD : va_D A [(m_a, .inr (5, [.int m_sz, .ref m_ds_a, .ref m_cs_a, .int m_kn, .ref m_tx_a, .int 0, .int m_fa, .ref m_ia_a, .ref m_im_a, .ref m_ik_a])), (m_ds_a, .inl (cI, 14, .inl (upd m_ds (((m_tx (0 : Int32).toNatClampNeg) - 97)).toNatClampNeg q53))), (m_cs_a, .inl (cI, 14, .inl m_cs)), (m_tx_a, .inl (cI, 20, .inl m_tx)), (m_ia_a, .inl (cZ, 16384, .inl m_ia)), (m_im_a, .inl (cI, 60, .inl m_im)), (m_ik_a, .inl (cZ, 2, .inl m_ik))] := hD
      refine lv_aload_n hx hb dX5_define_62 rfl (lv_at hl 2 rfl) ?_
      refine va_get (D := (dC, dI)) (ci := 5) (v := .ref m_ds_a) (C := RX5) (T := TX5) (N := 10) hx hb hts in_X5_define_5 hown hK hP 0 rfl rfl 1 (by decide) hf13 (fun _ h9 => h9) rfl dX5_define_63 ?_
      refine lv_iload_n hx hb dX5_define_66 rfl (lv_at hl 0 rfl) ?_
      obtain ⟨h_67, hM⟩ := ob_get hM
      refine va_iald hx hb hK hP 1 0 rfl rfl h_67 dX5_define_67 ?_
      refine lv_if_ge (tgt := 76) hx hb dX5_define_68 (by decide) (fun c_68 => ?_) (fun c_68 => ?_)
      · replace hM := ob_pos c_68 hM
        refine lv_aload_n hx hb dX5_define_76 rfl (lv_at hl 2 rfl) ?_
        refine va_get (D := (dC, dI)) (ci := 5) (v := .ref m_ds_a) (C := RX5) (T := TX5) (N := 10) hx hb hts in_X5_define_5 hown hK hP 0 rfl rfl 1 (by decide) hf13 (fun _ h9 => h9) rfl dX5_define_77 ?_
        refine lv_iload_n hx hb dX5_define_80 rfl (lv_at hl 0 rfl) ?_
        obtain ⟨h_81, hM⟩ := ob_get hM
        refine va_iald hx hb hK hP 1 0 rfl rfl h_81 dX5_define_81 ?_
        obtain ⟨q82, hv82, hM⟩ := ob_bind hM
        refine vp_callSi (va_Run.run (va_runS (As := [.int ((upd m_ds (((m_tx (0 : Int32).toNatClampNeg) - 97)).toNatClampNeg q53) (((m_tx (0 : Int32).toNatClampNeg) - 97)).toNatClampNeg)]) (rest := []) ⟨hx, hb, hml, hown, hts⟩ (c_X5_bits l dC dI cI cZ cJ cW ((upd m_ds (((m_tx (0 : Int32).toNatClampNeg) - 97)).toNatClampNeg q53) (((m_tx (0 : Int32).toNatClampNeg) - 97)).toNatClampNeg) q82 hv82) (va_cwS 1 hts gX5_define_X5_bits rfl rfl rfl (by decide +kernel) ⟨Nat.le_of_ble_eq_true rfl, Nat.le_of_ble_eq_true rfl⟩) ⟨TP.blind, fun U hU hW => ⟨rfl, trivial⟩⟩ rfl rfl hl.1 rfl (lv_room (Nat.le_of_ble_eq_true rfl)) dX5_define_82 ⟨Nat.le_of_ble_eq_true rfl, Nat.le_of_ble_eq_true rfl⟩)) (fun r hr => ?_)
        subst hr
        obtain rfl := Option.some.inj hM
        have hP9 := hP.sub (ws' := [(m_a, .inr (5, [.int m_sz, .ref m_ds_a, .ref m_cs_a, .int m_kn, .ref m_tx_a, .int 0, .int m_fa, .ref m_ia_a, .ref m_im_a, .ref m_ik_a])), (m_ds_a, .inl (cI, 14, .inl (upd m_ds (((m_tx (0 : Int32).toNatClampNeg) - 97)).toNatClampNeg q53))), (m_cs_a, .inl (cI, 14, .inl m_cs)), (m_tx_a, .inl (cI, 20, .inl m_tx)), (m_ia_a, .inl (cZ, 16384, .inl m_ia)), (m_im_a, .inl (cI, 60, .inl m_im)), (m_ik_a, .inl (cZ, 2, .inl m_ik))]) [0, 1, 2, 3, 4, 5, 6] rfl
        have hD9 := hD.sub (ws' := [(m_a, .inr (5, [.int m_sz, .ref m_ds_a, .ref m_cs_a, .int m_kn, .ref m_tx_a, .int 0, .int m_fa, .ref m_ia_a, .ref m_im_a, .ref m_ik_a])), (m_ds_a, .inl (cI, 14, .inl (upd m_ds (((m_tx (0 : Int32).toNatClampNeg) - 97)).toNatClampNeg q53))), (m_cs_a, .inl (cI, 14, .inl m_cs)), (m_tx_a, .inl (cI, 20, .inl m_tx)), (m_ia_a, .inl (cZ, 16384, .inl m_ia)), (m_im_a, .inl (cI, 60, .inl m_im)), (m_ik_a, .inl (cZ, 2, .inl m_ik))]) [0, 1, 2, 3, 4, 5, 6] (by decide) rfl
        exact W.iret (v := q82) hx hb hr (fun t ht hW => ⟨⟨_, (), rfl, rfl, by rw [ht]; exact hP9, hD9⟩, hS.F ht⟩) hS.2.2 dX5_define_85
      · replace hM := ob_neg c_68 hM
        refine lv_bipush (v := (-6)) hx hb dX5_define_71 (by decide) ?_
        refine lv_goto (tgt := 85) hx hb dX5_define_73 (by decide) ?_
        obtain rfl := Option.some.inj hM
        have hP9 := hP.sub (ws' := [(m_a, .inr (5, [.int m_sz, .ref m_ds_a, .ref m_cs_a, .int m_kn, .ref m_tx_a, .int 0, .int m_fa, .ref m_ia_a, .ref m_im_a, .ref m_ik_a])), (m_ds_a, .inl (cI, 14, .inl (upd m_ds (((m_tx (0 : Int32).toNatClampNeg) - 97)).toNatClampNeg q53))), (m_cs_a, .inl (cI, 14, .inl m_cs)), (m_tx_a, .inl (cI, 20, .inl m_tx)), (m_ia_a, .inl (cZ, 16384, .inl m_ia)), (m_im_a, .inl (cI, 60, .inl m_im)), (m_ik_a, .inl (cZ, 2, .inl m_ik))]) [0, 1, 2, 3, 4, 5, 6] rfl
        have hD9 := hD.sub (ws' := [(m_a, .inr (5, [.int m_sz, .ref m_ds_a, .ref m_cs_a, .int m_kn, .ref m_tx_a, .int 0, .int m_fa, .ref m_ia_a, .ref m_im_a, .ref m_ik_a])), (m_ds_a, .inl (cI, 14, .inl (upd m_ds (((m_tx (0 : Int32).toNatClampNeg) - 97)).toNatClampNeg q53))), (m_cs_a, .inl (cI, 14, .inl m_cs)), (m_tx_a, .inl (cI, 20, .inl m_tx)), (m_ia_a, .inl (cZ, 16384, .inl m_ia)), (m_im_a, .inl (cI, 60, .inl m_im)), (m_ik_a, .inl (cZ, 2, .inl m_ik))]) [0, 1, 2, 3, 4, 5, 6] (by decide) rfl
        exact W.iret (v := (-6)) hx hb hr (fun t ht hW => ⟨⟨_, (), rfl, rfl, by rw [ht]; exact hP9, hD9⟩, hS.F ht⟩) hS.2.2 dX5_define_85
    · replace hM := ob_pos c_40 hM
      refine lv_bipush (v := (-6)) hx hb dX5_define_43 (by decide) ?_
      refine lv_goto (tgt := 56) hx hb dX5_define_45 (by decide) ?_
      obtain ⟨h_56, hM⟩ := ob_get hM
      refine va_iast hx hb hK hP hD hS 1 0 rfl rfl h_56 dX5_define_56 (fun H locs hP hD hS => ?_)
      have hP : va_P (dC, dI) vwCl [(m_a, .inr (5, [.int m_sz, .ref m_ds_a, .ref m_cs_a, .int m_kn, .ref m_tx_a, .int m_sg, .int m_fa, .ref m_ia_a, .ref m_im_a, .ref m_ik_a])), (m_ds_a, .inl (cI, 14, .inl (upd m_ds (((m_tx (0 : Int32).toNatClampNeg) - 97)).toNatClampNeg (-6)))), (m_cs_a, .inl (cI, 14, .inl m_cs)), (m_tx_a, .inl (cI, 20, .inl m_tx)), (m_ia_a, .inl (cZ, 16384, .inl m_ia)), (m_im_a, .inl (cI, 60, .inl m_im)), (m_ik_a, .inl (cZ, 2, .inl m_ik))] H := hP
      have hD : va_D A [(m_a, .inr (5, [.int m_sz, .ref m_ds_a, .ref m_cs_a, .int m_kn, .ref m_tx_a, .int m_sg, .int m_fa, .ref m_ia_a, .ref m_im_a, .ref m_ik_a])), (m_ds_a, .inl (cI, 14, .inl (upd m_ds (((m_tx (0 : Int32).toNatClampNeg) - 97)).toNatClampNeg (-6)))), (m_cs_a, .inl (cI, 14, .inl m_cs)), (m_tx_a, .inl (cI, 20, .inl m_tx)), (m_ia_a, .inl (cZ, 16384, .inl m_ia)), (m_im_a, .inl (cI, 60, .inl m_im)), (m_ik_a, .inl (cZ, 2, .inl m_ik))] := hD
      refine lv_aload_n hx hb dX5_define_57 rfl (lv_at hl 2 rfl) ?_
      refine lv_iconst (v := 0) hx hb dX5_define_58 (by decide) ?_
      refine va_put (D := (dC, dI)) (ci := 5) (v := .int 0) (ty := .int) (C := RX5) (T := TX5) (N := 10) hx hb hts in_X5_define_5 tyX5 tyX5_ok nmX5 hown hK hP hD hS 0 rfl rfl 5 (by decide) hf47 (fun _ h9 => h9) rfl (by decide +kernel) rfl rfl (Nat.le_of_ble_eq_true rfl) dX5_define_59 (fun H locs hP hD hS => ?_)
      have hP : va_P (dC, dI) vwCl [(m_a, .inr (5, [.int m_sz, .ref m_ds_a, .ref m_cs_a, .int m_kn, .ref m_tx_a, .int 0, .int m_fa, .ref m_ia_a, .ref m_im_a, .ref m_ik_a])), (m_ds_a, .inl (cI, 14, .inl (upd m_ds (((m_tx (0 : Int32).toNatClampNeg) - 97)).toNatClampNeg (-6)))), (m_cs_a, .inl (cI, 14, .inl m_cs)), (m_tx_a, .inl (cI, 20, .inl m_tx)), (m_ia_a, .inl (cZ, 16384, .inl m_ia)), (m_im_a, .inl (cI, 60, .inl m_im)), (m_ik_a, .inl (cZ, 2, .inl m_ik))] H := hP
      have hD : va_D A [(m_a, .inr (5, [.int m_sz, .ref m_ds_a, .ref m_cs_a, .int m_kn, .ref m_tx_a, .int 0, .int m_fa, .ref m_ia_a, .ref m_im_a, .ref m_ik_a])), (m_ds_a, .inl (cI, 14, .inl (upd m_ds (((m_tx (0 : Int32).toNatClampNeg) - 97)).toNatClampNeg (-6)))), (m_cs_a, .inl (cI, 14, .inl m_cs)), (m_tx_a, .inl (cI, 20, .inl m_tx)), (m_ia_a, .inl (cZ, 16384, .inl m_ia)), (m_im_a, .inl (cI, 60, .inl m_im)), (m_ik_a, .inl (cZ, 2, .inl m_ik))] := hD
      refine lv_aload_n hx hb dX5_define_62 rfl (lv_at hl 2 rfl) ?_
      refine va_get (D := (dC, dI)) (ci := 5) (v := .ref m_ds_a) (C := RX5) (T := TX5) (N := 10) hx hb hts in_X5_define_5 hown hK hP 0 rfl rfl 1 (by decide) hf13 (fun _ h9 => h9) rfl dX5_define_63 ?_
      refine lv_iload_n hx hb dX5_define_66 rfl (lv_at hl 0 rfl) ?_
      obtain ⟨h_67, hM⟩ := ob_get hM
      refine va_iald hx hb hK hP 1 0 rfl rfl h_67 dX5_define_67 ?_
      refine lv_if_ge (tgt := 76) hx hb dX5_define_68 (by decide) (fun c_68 => ?_) (fun c_68 => ?_)
      · replace hM := ob_pos c_68 hM
        refine lv_aload_n hx hb dX5_define_76 rfl (lv_at hl 2 rfl) ?_
        refine va_get (D := (dC, dI)) (ci := 5) (v := .ref m_ds_a) (C := RX5) (T := TX5) (N := 10) hx hb hts in_X5_define_5 hown hK hP 0 rfl rfl 1 (by decide) hf13 (fun _ h9 => h9) rfl dX5_define_77 ?_
        refine lv_iload_n hx hb dX5_define_80 rfl (lv_at hl 0 rfl) ?_
        obtain ⟨h_81, hM⟩ := ob_get hM
        refine va_iald hx hb hK hP 1 0 rfl rfl h_81 dX5_define_81 ?_
        obtain ⟨q82, hv82, hM⟩ := ob_bind hM
        refine vp_callSi (va_Run.run (va_runS (As := [.int ((upd m_ds (((m_tx (0 : Int32).toNatClampNeg) - 97)).toNatClampNeg (-6)) (((m_tx (0 : Int32).toNatClampNeg) - 97)).toNatClampNeg)]) (rest := []) ⟨hx, hb, hml, hown, hts⟩ (c_X5_bits l dC dI cI cZ cJ cW ((upd m_ds (((m_tx (0 : Int32).toNatClampNeg) - 97)).toNatClampNeg (-6)) (((m_tx (0 : Int32).toNatClampNeg) - 97)).toNatClampNeg) q82 hv82) (va_cwS 1 hts gX5_define_X5_bits rfl rfl rfl (by decide +kernel) ⟨Nat.le_of_ble_eq_true rfl, Nat.le_of_ble_eq_true rfl⟩) ⟨TP.blind, fun U hU hW => ⟨rfl, trivial⟩⟩ rfl rfl hl.1 rfl (lv_room (Nat.le_of_ble_eq_true rfl)) dX5_define_82 ⟨Nat.le_of_ble_eq_true rfl, Nat.le_of_ble_eq_true rfl⟩)) (fun r hr => ?_)
        subst hr
        obtain rfl := Option.some.inj hM
        have hP9 := hP.sub (ws' := [(m_a, .inr (5, [.int m_sz, .ref m_ds_a, .ref m_cs_a, .int m_kn, .ref m_tx_a, .int 0, .int m_fa, .ref m_ia_a, .ref m_im_a, .ref m_ik_a])), (m_ds_a, .inl (cI, 14, .inl (upd m_ds (((m_tx (0 : Int32).toNatClampNeg) - 97)).toNatClampNeg (-6)))), (m_cs_a, .inl (cI, 14, .inl m_cs)), (m_tx_a, .inl (cI, 20, .inl m_tx)), (m_ia_a, .inl (cZ, 16384, .inl m_ia)), (m_im_a, .inl (cI, 60, .inl m_im)), (m_ik_a, .inl (cZ, 2, .inl m_ik))]) [0, 1, 2, 3, 4, 5, 6] rfl
        have hD9 := hD.sub (ws' := [(m_a, .inr (5, [.int m_sz, .ref m_ds_a, .ref m_cs_a, .int m_kn, .ref m_tx_a, .int 0, .int m_fa, .ref m_ia_a, .ref m_im_a, .ref m_ik_a])), (m_ds_a, .inl (cI, 14, .inl (upd m_ds (((m_tx (0 : Int32).toNatClampNeg) - 97)).toNatClampNeg (-6)))), (m_cs_a, .inl (cI, 14, .inl m_cs)), (m_tx_a, .inl (cI, 20, .inl m_tx)), (m_ia_a, .inl (cZ, 16384, .inl m_ia)), (m_im_a, .inl (cI, 60, .inl m_im)), (m_ik_a, .inl (cZ, 2, .inl m_ik))]) [0, 1, 2, 3, 4, 5, 6] (by decide) rfl
        exact W.iret (v := q82) hx hb hr (fun t ht hW => ⟨⟨_, (), rfl, rfl, by rw [ht]; exact hP9, hD9⟩, hS.F ht⟩) hS.2.2 dX5_define_85
      · replace hM := ob_neg c_68 hM
        refine lv_bipush (v := (-6)) hx hb dX5_define_71 (by decide) ?_
        refine lv_goto (tgt := 85) hx hb dX5_define_73 (by decide) ?_
        obtain rfl := Option.some.inj hM
        have hP9 := hP.sub (ws' := [(m_a, .inr (5, [.int m_sz, .ref m_ds_a, .ref m_cs_a, .int m_kn, .ref m_tx_a, .int 0, .int m_fa, .ref m_ia_a, .ref m_im_a, .ref m_ik_a])), (m_ds_a, .inl (cI, 14, .inl (upd m_ds (((m_tx (0 : Int32).toNatClampNeg) - 97)).toNatClampNeg (-6)))), (m_cs_a, .inl (cI, 14, .inl m_cs)), (m_tx_a, .inl (cI, 20, .inl m_tx)), (m_ia_a, .inl (cZ, 16384, .inl m_ia)), (m_im_a, .inl (cI, 60, .inl m_im)), (m_ik_a, .inl (cZ, 2, .inl m_ik))]) [0, 1, 2, 3, 4, 5, 6] rfl
        have hD9 := hD.sub (ws' := [(m_a, .inr (5, [.int m_sz, .ref m_ds_a, .ref m_cs_a, .int m_kn, .ref m_tx_a, .int 0, .int m_fa, .ref m_ia_a, .ref m_im_a, .ref m_ik_a])), (m_ds_a, .inl (cI, 14, .inl (upd m_ds (((m_tx (0 : Int32).toNatClampNeg) - 97)).toNatClampNeg (-6)))), (m_cs_a, .inl (cI, 14, .inl m_cs)), (m_tx_a, .inl (cI, 20, .inl m_tx)), (m_ia_a, .inl (cZ, 16384, .inl m_ia)), (m_im_a, .inl (cI, 60, .inl m_im)), (m_ik_a, .inl (cZ, 2, .inl m_ik))]) [0, 1, 2, 3, 4, 5, 6] (by decide) rfl
        exact W.iret (v := (-6)) hx hb hr (fun t ht hW => ⟨⟨_, (), rfl, rfl, by rw [ht]; exact hP9, hD9⟩, hS.F ht⟩) hS.2.2 dX5_define_85
  · replace hM := ob_neg c_6 hM
    refine lv_aload_n hx hb dX5_define_9 rfl (lv_at hl 1 rfl) ?_
    refine lv_iload_n hx hb dX5_define_10 rfl (lv_at hl 0 rfl) ?_
    refine va_put (D := (dC, dI)) (ci := 5) (v := .int q1) (ty := .int) (C := RX5) (T := TX5) (N := 10) hx hb hts in_X5_define_5 tyX5 tyX5_ok nmX5 hown hK hP hD hS 0 rfl rfl 6 (by decide) hf23 (fun _ h9 => h9) rfl (by decide +kernel) rfl rfl (Nat.le_of_ble_eq_true rfl) dX5_define_11 (fun H locs hP hD hS => ?_)
    have hP : va_P (dC, dI) vwCl [(m_a, .inr (5, [.int m_sz, .ref m_ds_a, .ref m_cs_a, .int m_kn, .ref m_tx_a, .int m_sg, .int q1, .ref m_ia_a, .ref m_im_a, .ref m_ik_a])), (m_ds_a, .inl (cI, 14, .inl m_ds)), (m_cs_a, .inl (cI, 14, .inl m_cs)), (m_tx_a, .inl (cI, 20, .inl m_tx)), (m_ia_a, .inl (cZ, 16384, .inl m_ia)), (m_im_a, .inl (cI, 60, .inl m_im)), (m_ik_a, .inl (cZ, 2, .inl m_ik))] H := hP
    have hD : va_D A [(m_a, .inr (5, [.int m_sz, .ref m_ds_a, .ref m_cs_a, .int m_kn, .ref m_tx_a, .int m_sg, .int q1, .ref m_ia_a, .ref m_im_a, .ref m_ik_a])), (m_ds_a, .inl (cI, 14, .inl m_ds)), (m_cs_a, .inl (cI, 14, .inl m_cs)), (m_tx_a, .inl (cI, 20, .inl m_tx)), (m_ia_a, .inl (cZ, 16384, .inl m_ia)), (m_im_a, .inl (cI, 60, .inl m_im)), (m_ik_a, .inl (cZ, 2, .inl m_ik))] := hD
    refine lv_bipush (v := (-7)) hx hb dX5_define_14 (by decide) ?_
    obtain rfl := Option.some.inj hM
    have hP9 := hP.sub (ws' := [(m_a, .inr (5, [.int m_sz, .ref m_ds_a, .ref m_cs_a, .int m_kn, .ref m_tx_a, .int m_sg, .int q1, .ref m_ia_a, .ref m_im_a, .ref m_ik_a])), (m_ds_a, .inl (cI, 14, .inl m_ds)), (m_cs_a, .inl (cI, 14, .inl m_cs)), (m_tx_a, .inl (cI, 20, .inl m_tx)), (m_ia_a, .inl (cZ, 16384, .inl m_ia)), (m_im_a, .inl (cI, 60, .inl m_im)), (m_ik_a, .inl (cZ, 2, .inl m_ik))]) [0, 1, 2, 3, 4, 5, 6] rfl
    have hD9 := hD.sub (ws' := [(m_a, .inr (5, [.int m_sz, .ref m_ds_a, .ref m_cs_a, .int m_kn, .ref m_tx_a, .int m_sg, .int q1, .ref m_ia_a, .ref m_im_a, .ref m_ik_a])), (m_ds_a, .inl (cI, 14, .inl m_ds)), (m_cs_a, .inl (cI, 14, .inl m_cs)), (m_tx_a, .inl (cI, 20, .inl m_tx)), (m_ia_a, .inl (cZ, 16384, .inl m_ia)), (m_im_a, .inl (cI, 60, .inl m_im)), (m_ik_a, .inl (cZ, 2, .inl m_ik))]) [0, 1, 2, 3, 4, 5, 6] (by decide) rfl
    exact W.iret (v := (-7)) hx hb hr (fun t ht hW => ⟨⟨_, (), rfl, rfl, by rw [ht]; exact hP9, hD9⟩, hS.F ht⟩) hS.2.2 dX5_define_16
/-! X5_fault -/
abbrev rm_X5_fault : Room := { frames := 4, cells := 0, slots := 0, locals := 86 }
set_option maxHeartbeats 4000000 in
set_option maxRecDepth 100000 in
theorem c_X5_fault (l : Launch) (dC : Nat → ClassId) (dI : Nat → Nat → Nat) (cI cZ cJ cW : ClassId) (m_a m_ds_a m_cs_a m_tx_a m_ia_a m_im_a m_ik_a : Nat) (m_sz : Int32) (m_kn : Int32) (m_sg : Int32) (m_fa : Int32) (m_ds : Nat → Int32) (m_cs : Nat → Int32) (m_tx : Nat → Int32) (m_ia : Nat → Int32) (m_im : Nat → Int32) (m_ik : Nat → Int32) (R : Int32) (hM : M_X5_fault m_sz m_tx m_sg = some R) : Met l yX5_fault wsX5_fault rm_X5_fault (va_Pc [.ref m_a] (RP (dC, dI) cI cZ cJ cW [(m_a, .inr (5, [.int m_sz, .ref m_ds_a, .ref m_cs_a, .int m_kn, .ref m_tx_a, .int m_sg, .int m_fa, .ref m_ia_a, .ref m_im_a, .ref m_ik_a])), (m_ds_a, .inl (cI, 14, .inl m_ds)), (m_cs_a, .inl (cI, 14, .inl m_cs)), (m_tx_a, .inl (cI, 20, .inl m_tx)), (m_ia_a, .inl (cZ, 16384, .inl m_ia)), (m_im_a, .inl (cI, 60, .inl m_im)), (m_ik_a, .inl (cZ, 2, .inl m_ik))])) (vp_Si (fun r => R = r)) 0 0 (fun _ => False) := by
  refine Met.ofW (cc := cX5_fault) (maxL := 1) (ret := (some .int)) (by decide) rfl ?_
  intro p e s m args below meth c s₁ B hml hv
  obtain ⟨rfl, hP, hK, hN⟩ := hv
  have hx := B.exec
  have hb := B.bytes
  have hr := B.returns
  have hts := atoms_spec (ws := wsX5_fault) B.pre
  have hown : s.vm.findClass RX5 = some m.cls := findClass_of_methodNamed B.named
  have hlocks := B.notSynchronized
  have hl := lv_entry ([.ref m_a]) (n := 1) (Nat.le_of_ble_eq_true rfl)
  rw [lg_entry_eq]
  generalize (lg_sl ([.ref m_a]) ++ List.replicate (1 - (lg_sl ([.ref m_a])).length) Slot.unset).toArray = ls at hl ⊢
  have hl : lv_has ls 1 [(0, .ref m_a)] := hl
  have hM : ((M_X5_faultNow m_sz m_tx m_sg).bind (fun q1 => some q1)) = some R := hM
  refine lv_aload_n hx hb dX5_fault_0 rfl (lv_at hl 0 rfl) ?_
  obtain ⟨q1, hv1, hM⟩ := ob_bind hM
  refine vp_callSi (va_Run.run (va_runV (As := []) (rest := []) ⟨hx, hb, hml, hown, hts⟩ (c_X5_faultNow l dC dI cI cZ cJ cW m_a m_ds_a m_cs_a m_tx_a m_ia_a m_im_a m_ik_a m_sz m_kn m_sg m_fa m_ds m_cs m_tx m_ia m_im m_ik q1 hv1) (cwV 0 hts gX5_fault_X5_faultNow rfl rfl rfl (by decide +kernel) ⟨Nat.le_of_ble_eq_true rfl, Nat.le_of_ble_eq_true rfl⟩) ⟨RP.blind, va_recv hK hP (ci := 5) (q0 := 0) rfl rfl, fun U hU hW => ⟨rfl, by rw [hU]; exact hP.sub (ws' := [(m_a, .inr (5, [.int m_sz, .ref m_ds_a, .ref m_cs_a, .int m_kn, .ref m_tx_a, .int m_sg, .int m_fa, .ref m_ia_a, .ref m_im_a, .ref m_ik_a])), (m_ds_a, .inl (cI, 14, .inl m_ds)), (m_cs_a, .inl (cI, 14, .inl m_cs)), (m_tx_a, .inl (cI, 20, .inl m_tx)), (m_ia_a, .inl (cZ, 16384, .inl m_ia)), (m_im_a, .inl (cI, 60, .inl m_im)), (m_ik_a, .inl (cZ, 2, .inl m_ik))]) [0, 1, 2, 3, 4, 5, 6] rfl, va_K.moved hW.alike hK, hN.warm hW⟩⟩ rfl rfl hl.1 rfl (lv_room (Nat.le_of_ble_eq_true rfl)) dX5_fault_1 ⟨Nat.le_of_ble_eq_true rfl, Nat.le_of_ble_eq_true rfl⟩)) (fun r hr => ?_)
  subst hr
  exact W.iret (v := q1) hx hb hr (fun t ht hW => ⟨_, rfl, (Option.some.inj hM).symm, ht⟩) (fun _ h => by cases h) dX5_fault_4
/-! X5_uses -/
abbrev rm_X5_uses : Room := { frames := 2, cells := 0, slots := 0, locals := 43 }
theorem in_X5_uses_5 : ∀ w ∈ u_ws RX5 TX5 10, w ∈ wsX5_uses := by decide +kernel
set_option maxHeartbeats 4000000 in
set_option maxRecDepth 100000 in
theorem c_X5_uses (l : Launch) (dC : Nat → ClassId) (dI : Nat → Nat → Nat) (cI cZ cJ cW : ClassId) (m_a m_ds_a m_cs_a m_tx_a m_ia_a m_im_a m_ik_a : Nat) (m_sz : Int32) (m_kn : Int32) (m_sg : Int32) (m_fa : Int32) (m_ds : Nat → Int32) (m_cs : Nat → Int32) (m_tx : Nat → Int32) (m_ia : Nat → Int32) (m_im : Nat → Int32) (m_ik : Nat → Int32) (p1 : Int32) (R : Int32) (hM : M_X5_uses p1 m_sz m_ds = some R) : Met l yX5_uses wsX5_uses rm_X5_uses (va_Pc [.ref m_a, .int p1] (RP (dC, dI) cI cZ cJ cW [(m_a, .inr (5, [.int m_sz, .ref m_ds_a, .ref m_cs_a, .int m_kn, .ref m_tx_a, .int m_sg, .int m_fa, .ref m_ia_a, .ref m_im_a, .ref m_ik_a])), (m_ds_a, .inl (cI, 14, .inl m_ds)), (m_cs_a, .inl (cI, 14, .inl m_cs)), (m_tx_a, .inl (cI, 20, .inl m_tx)), (m_ia_a, .inl (cZ, 16384, .inl m_ia)), (m_im_a, .inl (cI, 60, .inl m_im)), (m_ik_a, .inl (cZ, 2, .inl m_ik))])) (vp_Si (fun r => R = r)) 0 0 (fun _ => False) := by
  refine Met.ofW (cc := cX5_uses) (maxL := 2) (ret := (some .int)) (by decide) rfl ?_
  intro p e s m args below meth c s₁ B hml hv
  obtain ⟨rfl, hP, hK, hN⟩ := hv
  have hx := B.exec
  have hb := B.bytes
  have hr := B.returns
  have hts := atoms_spec (ws := wsX5_uses) B.pre
  have hown : s.vm.findClass RX5 = some m.cls := findClass_of_methodNamed B.named
  have hlocks := B.notSynchronized
  have hf13 := hts (.fieldLink RX5 13 "WordGroundsModel" "definitions" "[I") (by decide +kernel)
  have hl := lv_entry ([.ref m_a, .int p1]) (n := 2) (Nat.le_of_ble_eq_true rfl)
  rw [lg_entry_eq]
  generalize (lg_sl ([.ref m_a, .int p1]) ++ List.replicate (2 - (lg_sl ([.ref m_a, .int p1])).length) Slot.unset).toArray = ls at hl ⊢
  have hl : lv_has ls 2 [(0, .ref m_a), (1, .int p1)] := hl
  have hM : ((M_X5_isWord p1 m_sz).bind (fun q2 => if q2 = 0 then (some (-1)) else (if p1 < 0 ∨ 14 ≤ (p1).toNatClampNeg then none else (some (m_ds (p1).toNatClampNeg))))) = some R := hM
  refine lv_aload_n hx hb dX5_uses_0 rfl (lv_at hl 0 rfl) ?_
  refine lv_iload_n hx hb dX5_uses_1 rfl (lv_at hl 1 rfl) ?_
  obtain ⟨q2, hv2, hM⟩ := ob_bind hM
  refine vp_callSi (va_Run.run (va_runV (As := [.int p1]) (rest := []) ⟨hx, hb, hml, hown, hts⟩ (c_X5_isWord l dC dI cI cZ cJ cW m_a m_ds_a m_cs_a m_tx_a m_ia_a m_im_a m_ik_a m_sz m_kn m_sg m_fa m_ds m_cs m_tx m_ia m_im m_ik p1 q2 hv2) (cwV 1 hts gX5_uses_X5_isWord rfl rfl rfl (by decide +kernel) ⟨Nat.le_of_ble_eq_true rfl, Nat.le_of_ble_eq_true rfl⟩) ⟨RP.blind, va_recv hK hP (ci := 5) (q0 := 0) rfl rfl, fun U hU hW => ⟨rfl, by rw [hU]; exact hP.sub (ws' := [(m_a, .inr (5, [.int m_sz, .ref m_ds_a, .ref m_cs_a, .int m_kn, .ref m_tx_a, .int m_sg, .int m_fa, .ref m_ia_a, .ref m_im_a, .ref m_ik_a])), (m_ds_a, .inl (cI, 14, .inl m_ds)), (m_cs_a, .inl (cI, 14, .inl m_cs)), (m_tx_a, .inl (cI, 20, .inl m_tx)), (m_ia_a, .inl (cZ, 16384, .inl m_ia)), (m_im_a, .inl (cI, 60, .inl m_im)), (m_ik_a, .inl (cZ, 2, .inl m_ik))]) [0, 1, 2, 3, 4, 5, 6] rfl, va_K.moved hW.alike hK, hN.warm hW⟩⟩ rfl rfl hl.1 rfl (lv_room (Nat.le_of_ble_eq_true rfl)) dX5_uses_2 ⟨Nat.le_of_ble_eq_true rfl, Nat.le_of_ble_eq_true rfl⟩)) (fun r hr => ?_)
  subst hr
  refine lv_if_eq (tgt := 17) hx hb dX5_uses_5 (by decide) (fun c_5 => ?_) (fun c_5 => ?_)
  · replace hM := ob_pos c_5 hM
    refine lv_iconst (v := (-1)) hx hb dX5_uses_17 (by decide) ?_
    exact W.iret (v := (-1)) hx hb hr (fun t ht hW => ⟨_, rfl, (Option.some.inj hM).symm, ht⟩) (fun _ h => by cases h) dX5_uses_18
  · replace hM := ob_neg c_5 hM
    refine lv_aload_n hx hb dX5_uses_8 rfl (lv_at hl 0 rfl) ?_
    refine va_get (D := (dC, dI)) (ci := 5) (v := .ref m_ds_a) (C := RX5) (T := TX5) (N := 10) hx hb hts in_X5_uses_5 hown hK hP 0 rfl rfl 1 (by decide) hf13 (fun _ h9 => h9) rfl dX5_uses_9 ?_
    refine lv_iload_n hx hb dX5_uses_12 rfl (lv_at hl 1 rfl) ?_
    obtain ⟨h_13, hM⟩ := ob_get hM
    refine va_iald hx hb hK hP 1 0 rfl rfl h_13 dX5_uses_13 ?_
    refine lv_goto (tgt := 18) hx hb dX5_uses_14 (by decide) ?_
    exact W.iret (v := (m_ds (p1).toNatClampNeg)) hx hb hr (fun t ht hW => ⟨_, rfl, (Option.some.inj hM).symm, ht⟩) (fun _ h => by cases h) dX5_uses_18
/-! X5_isUsed -/
abbrev rm_X5_isUsed : Room := { frames := 1, cells := 0, slots := 0, locals := 21 }
theorem in_X5_isUsed_5 : ∀ w ∈ u_ws RX5 TX5 10, w ∈ wsX5_isUsed := by decide +kernel
set_option maxHeartbeats 4000000 in
set_option maxRecDepth 100000 in
theorem c_X5_isUsed (l : Launch) (dC : Nat → ClassId) (dI : Nat → Nat → Nat) (cI cZ cJ cW : ClassId) (m_a m_ds_a m_cs_a m_tx_a m_ia_a m_im_a m_ik_a : Nat) (m_sz : Int32) (m_kn : Int32) (m_sg : Int32) (m_fa : Int32) (m_ds : Nat → Int32) (m_cs : Nat → Int32) (m_tx : Nat → Int32) (m_ia : Nat → Int32) (m_im : Nat → Int32) (m_ik : Nat → Int32) (p1 : Int32) (p2 : Int32) (R : Int32) (hM : M_X5_isUsed p1 p2 m_ds = some R) : Met l yX5_isUsed wsX5_isUsed rm_X5_isUsed (va_Pc [.ref m_a, .int p1, .int p2] (RP (dC, dI) cI cZ cJ cW [(m_a, .inr (5, [.int m_sz, .ref m_ds_a, .ref m_cs_a, .int m_kn, .ref m_tx_a, .int m_sg, .int m_fa, .ref m_ia_a, .ref m_im_a, .ref m_ik_a])), (m_ds_a, .inl (cI, 14, .inl m_ds)), (m_cs_a, .inl (cI, 14, .inl m_cs)), (m_tx_a, .inl (cI, 20, .inl m_tx)), (m_ia_a, .inl (cZ, 16384, .inl m_ia)), (m_im_a, .inl (cI, 60, .inl m_im)), (m_ik_a, .inl (cZ, 2, .inl m_ik))])) (vp_Si (fun r => R = r)) 0 0 (fun _ => False) := by
  refine Met.ofW (cc := cX5_isUsed) (maxL := 3) (ret := (some .boolean)) (by decide) rfl ?_
  intro p e s m args below meth c s₁ B hml hv
  obtain ⟨rfl, hP, hK, hN⟩ := hv
  have hx := B.exec
  have hb := B.bytes
  have hr := B.returns
  have hts := atoms_spec (ws := wsX5_isUsed) B.pre
  have hown : s.vm.findClass RX5 = some m.cls := findClass_of_methodNamed B.named
  have hlocks := B.notSynchronized
  have hf13 := hts (.fieldLink RX5 13 "WordGroundsModel" "definitions" "[I") (by decide +kernel)
  have hl := lv_entry ([.ref m_a, .int p1, .int p2]) (n := 3) (Nat.le_of_ble_eq_true rfl)
  rw [lg_entry_eq]
  generalize (lg_sl ([.ref m_a, .int p1, .int p2]) ++ List.replicate (3 - (lg_sl ([.ref m_a, .int p1, .int p2])).length) Slot.unset).toArray = ls at hl ⊢
  have hl : lv_has ls 3 [(0, .ref m_a), (1, .int p1), (2, .int p2)] := hl
  have hM : (if p1 < 0 ∨ 14 ≤ (p1).toNatClampNeg then none else (if (m_ds (p1).toNatClampNeg) < 0 then (some 0) else (if p1 < 0 ∨ 14 ≤ (p1).toNatClampNeg then none else ((M_X5_has (m_ds (p1).toNatClampNeg) p2).bind (fun q16 => if q16 = 0 then (some 0) else (some 1)))))) = some R := hM
  refine lv_aload_n hx hb dX5_isUsed_0 rfl (lv_at hl 0 rfl) ?_
  refine va_get (D := (dC, dI)) (ci := 5) (v := .ref m_ds_a) (C := RX5) (T := TX5) (N := 10) hx hb hts in_X5_isUsed_5 hown hK hP 0 rfl rfl 1 (by decide) hf13 (fun _ h9 => h9) rfl dX5_isUsed_1 ?_
  refine lv_iload_n hx hb dX5_isUsed_4 rfl (lv_at hl 1 rfl) ?_
  obtain ⟨h_5, hM⟩ := ob_get hM
  refine va_iald hx hb hK hP 1 0 rfl rfl h_5 dX5_isUsed_5 ?_
  refine lv_if_lt (tgt := 26) hx hb dX5_isUsed_6 (by decide) (fun c_6 => ?_) (fun c_6 => ?_)
  · replace hM := ob_pos c_6 hM
    refine lv_iconst (v := 0) hx hb dX5_isUsed_26 (by decide) ?_
    exact W.zret (v := 0) hx hb hr (by rfl) (fun t ht hW => ⟨_, rfl, (Option.some.inj hM).symm, ht⟩) (fun _ h => by cases h) dX5_isUsed_27
  · replace hM := ob_neg c_6 hM
    refine lv_aload_n hx hb dX5_isUsed_9 rfl (lv_at hl 0 rfl) ?_
    refine va_get (D := (dC, dI)) (ci := 5) (v := .ref m_ds_a) (C := RX5) (T := TX5) (N := 10) hx hb hts in_X5_isUsed_5 hown hK hP 0 rfl rfl 1 (by decide) hf13 (fun _ h9 => h9) rfl dX5_isUsed_10 ?_
    refine lv_iload_n hx hb dX5_isUsed_13 rfl (lv_at hl 1 rfl) ?_
    obtain ⟨h_14, hM⟩ := ob_get hM
    refine va_iald hx hb hK hP 1 0 rfl rfl h_14 dX5_isUsed_14 ?_
    refine lv_iload_n hx hb dX5_isUsed_15 rfl (lv_at hl 2 rfl) ?_
    obtain ⟨q16, hv16, hM⟩ := ob_bind hM
    refine vp_callSi (va_Run.run (va_runS (As := [.int (m_ds (p1).toNatClampNeg), .int p2]) (rest := []) ⟨hx, hb, hml, hown, hts⟩ (c_X5_has l dC dI cI cZ cJ cW (m_ds (p1).toNatClampNeg) p2 q16 hv16) (va_cwS 2 hts gX5_isUsed_X5_has rfl rfl rfl (by decide +kernel) ⟨Nat.le_of_ble_eq_true rfl, Nat.le_of_ble_eq_true rfl⟩) ⟨TP.blind, fun U hU hW => ⟨rfl, trivial⟩⟩ rfl rfl hl.1 rfl (lv_room (Nat.le_of_ble_eq_true rfl)) dX5_isUsed_16 ⟨Nat.le_of_ble_eq_true rfl, Nat.le_of_ble_eq_true rfl⟩)) (fun r hr => ?_)
    subst hr
    refine lv_if_eq (tgt := 26) hx hb dX5_isUsed_19 (by decide) (fun c_19 => ?_) (fun c_19 => ?_)
    · replace hM := ob_pos c_19 hM
      refine lv_iconst (v := 0) hx hb dX5_isUsed_26 (by decide) ?_
      exact W.zret (v := 0) hx hb hr (by rfl) (fun t ht hW => ⟨_, rfl, (Option.some.inj hM).symm, ht⟩) (fun _ h => by cases h) dX5_isUsed_27
    · replace hM := ob_neg c_19 hM
      refine lv_iconst (v := 1) hx hb dX5_isUsed_22 (by decide) ?_
      refine lv_goto (tgt := 27) hx hb dX5_isUsed_23 (by decide) ?_
      exact W.zret (v := 1) hx hb hr (by rfl) (fun t ht hW => ⟨_, rfl, (Option.some.inj hM).symm, ht⟩) (fun _ h => by cases h) dX5_isUsed_27
/-! X5_usersOf -/
abbrev rm_X5_usersOf : Room := { frames := 2, cells := 0, slots := 0, locals := 43 }
theorem in_X5_usersOf_5 : ∀ w ∈ u_ws RX5 TX5 10, w ∈ wsX5_usersOf := by decide +kernel
set_option maxHeartbeats 4000000 in
set_option maxRecDepth 100000 in
theorem c_X5_usersOf (l : Launch) (dC : Nat → ClassId) (dI : Nat → Nat → Nat) (cI cZ cJ cW : ClassId) (m_a m_ds_a m_cs_a m_tx_a m_ia_a m_im_a m_ik_a : Nat) (m_sz : Int32) (m_kn : Int32) (m_sg : Int32) (m_fa : Int32) (m_ds : Nat → Int32) (m_cs : Nat → Int32) (m_tx : Nat → Int32) (m_ia : Nat → Int32) (m_im : Nat → Int32) (m_ik : Nat → Int32) (p1 : Int32) (R : Int32) (hM : M_X5_usersOf p1 m_sz m_ds = some R) : Met l yX5_usersOf wsX5_usersOf rm_X5_usersOf (va_Pc [.ref m_a, .int p1] (RP (dC, dI) cI cZ cJ cW [(m_a, .inr (5, [.int m_sz, .ref m_ds_a, .ref m_cs_a, .int m_kn, .ref m_tx_a, .int m_sg, .int m_fa, .ref m_ia_a, .ref m_im_a, .ref m_ik_a])), (m_ds_a, .inl (cI, 14, .inl m_ds)), (m_cs_a, .inl (cI, 14, .inl m_cs)), (m_tx_a, .inl (cI, 20, .inl m_tx)), (m_ia_a, .inl (cZ, 16384, .inl m_ia)), (m_im_a, .inl (cI, 60, .inl m_im)), (m_ik_a, .inl (cZ, 2, .inl m_ik))])) (vp_Si (fun r => R = r)) 0 0 (fun _ => False) := by
  refine Met.ofW (cc := cX5_usersOf) (maxL := 4) (ret := (some .int)) (by decide) rfl ?_
  intro p e s m args below meth c s₁ B hml hv
  obtain ⟨rfl, hP, hK, hN⟩ := hv
  have hx := B.exec
  have hb := B.bytes
  have hr := B.returns
  have hts := atoms_spec (ws := wsX5_usersOf) B.pre
  have hown : s.vm.findClass RX5 = some m.cls := findClass_of_methodNamed B.named
  have hlocks := B.notSynchronized
  have hf7 := hts (.fieldLink RX5 7 "WordGroundsModel" "size" "I") (by decide +kernel)
  have hl := lv_entry ([.ref m_a, .int p1]) (n := 4) (Nat.le_of_ble_eq_true rfl)
  rw [lg_entry_eq]
  generalize (lg_sl ([.ref m_a, .int p1]) ++ List.replicate (4 - (lg_sl ([.ref m_a, .int p1])).length) Slot.unset).toArray = ls at hl ⊢
  have hl : lv_has ls 4 [(0, .ref m_a), (1, .int p1)] := hl
  have hM : (L_X5_usersOf_4 p1 m_sz m_ds (fun (v3_4 : Int32) (v2_4 : Int32) => some v2_4) 40 0 0) = some R := hM
  refine lv_iconst (v := 0) hx hb dX5_usersOf_0 (by decide) ?_
  refine lv_istore_n (lv' := [(2, .int 0), (0, .ref m_a), (1, .int p1)]) hx hb dX5_usersOf_1 rfl hl (by decide) rfl (fun ls hl => ?_)
  refine lv_iconst (v := 0) hx hb dX5_usersOf_2 (by decide) ?_
  refine lv_istore_n (lv' := [(3, .int 0), (2, .int 0), (0, .ref m_a), (1, .int p1)]) hx hb dX5_usersOf_3 rfl hl (by decide) rfl (fun ls hl => ?_)
  obtain ⟨K4, hK4⟩ : ∃ K : Int32 → Int32 → Option (Int32), K = (fun (v3_4 : Int32) (v2_4 : Int32) => some v2_4) := ⟨_, rfl⟩
  have hM : L_X5_usersOf_4 p1 m_sz m_ds K4 40 0 0 = some R := by rw [hK4]; exact hM
  have hL4 : ∀ (k4 : Nat) (v3_4 : Int32) (v2_4 : Int32) (ls : Array Slot), L_X5_usersOf_4 p1 m_sz m_ds K4 k4 v3_4 v2_4 = some R → lv_has ls 4 [(3, .int v3_4), (2, .int v2_4), (0, .ref m_a), (1, .int p1)] → W p l e rm_X5_usersOf s m ([.ref m_a, .int p1] : List Value).toArray below meth c s.heap [] 0 0 (MQ below (vp_Si (fun r => R = r)) ([.ref m_a, .int p1] : List Value).toArray s 0 0 (fun _ => False)) (F0 m 4 ls []) := by
    intro k4
    induction k4 with
    | zero => intro v3_4 v2_4 ls hM; exact (ob_none hM).elim
    | succ k4 ih4 =>
      intro v3_4 v2_4 ls hM hl
      have hM : (if m_sz ≤ v3_4 then (K4 v3_4 v2_4) else ((M_X5_isUsed v3_4 p1 m_ds).bind (fun q16 => if q16 = 0 then (L_X5_usersOf_4 p1 m_sz m_ds K4 k4 (v3_4 + 1) (v2_4 ||| 0)) else (L_X5_usersOf_4 p1 m_sz m_ds K4 k4 (v3_4 + 1) (v2_4 ||| ((1 : Int32) <<< (v3_4 &&& 31))))))) = some R := hM
      refine lv_iload_n hx hb dX5_usersOf_4 rfl (lv_at hl 0 rfl) ?_
      refine lv_aload_n hx hb dX5_usersOf_5 rfl (lv_at hl 2 rfl) ?_
      refine va_get (D := (dC, dI)) (ci := 5) (v := .int m_sz) (C := RX5) (T := TX5) (N := 10) hx hb hts in_X5_usersOf_5 hown hK hP 0 rfl rfl 0 (by decide) hf7 (fun _ h9 => h9) rfl dX5_usersOf_6 ?_
      refine lv_icmp_ge (tgt := 37) hx hb dX5_usersOf_9 (by decide) (fun c_9 => ?_) (fun c_9 => ?_)
      · replace hM := ob_pos c_9 hM
        have hM : (some v2_4) = some R := by rw [hK4] at hM; exact hM
        refine lv_iload_n hx hb dX5_usersOf_37 rfl (lv_at hl 1 rfl) ?_
        exact W.iret (v := v2_4) hx hb hr (fun t ht hW => ⟨_, rfl, (Option.some.inj hM).symm, ht⟩) (fun _ h => by cases h) dX5_usersOf_38
      · replace hM := ob_neg c_9 hM
        refine lv_iload_n hx hb dX5_usersOf_12 rfl (lv_at hl 1 rfl) ?_
        refine lv_aload_n hx hb dX5_usersOf_13 rfl (lv_at hl 2 rfl) ?_
        refine lv_iload_n hx hb dX5_usersOf_14 rfl (lv_at hl 0 rfl) ?_
        refine lv_iload_n hx hb dX5_usersOf_15 rfl (lv_at hl 3 rfl) ?_
        obtain ⟨q16, hv16, hM⟩ := ob_bind hM
        refine vp_callSi (va_Run.run (va_runV (As := [.int v3_4, .int p1]) (rest := [.int v2_4]) ⟨hx, hb, hml, hown, hts⟩ (c_X5_isUsed l dC dI cI cZ cJ cW m_a m_ds_a m_cs_a m_tx_a m_ia_a m_im_a m_ik_a m_sz m_kn m_sg m_fa m_ds m_cs m_tx m_ia m_im m_ik v3_4 p1 q16 hv16) (cwV 2 hts gX5_usersOf_X5_isUsed rfl rfl rfl (by decide +kernel) ⟨Nat.le_of_ble_eq_true rfl, Nat.le_of_ble_eq_true rfl⟩) ⟨RP.blind, va_recv hK hP (ci := 5) (q0 := 0) rfl rfl, fun U hU hW => ⟨rfl, by rw [hU]; exact hP.sub (ws' := [(m_a, .inr (5, [.int m_sz, .ref m_ds_a, .ref m_cs_a, .int m_kn, .ref m_tx_a, .int m_sg, .int m_fa, .ref m_ia_a, .ref m_im_a, .ref m_ik_a])), (m_ds_a, .inl (cI, 14, .inl m_ds)), (m_cs_a, .inl (cI, 14, .inl m_cs)), (m_tx_a, .inl (cI, 20, .inl m_tx)), (m_ia_a, .inl (cZ, 16384, .inl m_ia)), (m_im_a, .inl (cI, 60, .inl m_im)), (m_ik_a, .inl (cZ, 2, .inl m_ik))]) [0, 1, 2, 3, 4, 5, 6] rfl, va_K.moved hW.alike hK, hN.warm hW⟩⟩ rfl rfl hl.1 rfl (lv_room (Nat.le_of_ble_eq_true rfl)) dX5_usersOf_16 ⟨Nat.le_of_ble_eq_true rfl, Nat.le_of_ble_eq_true rfl⟩)) (fun r hr => ?_)
        subst hr
        refine lv_if_eq (tgt := 28) hx hb dX5_usersOf_19 (by decide) (fun c_19 => ?_) (fun c_19 => ?_)
        · replace hM := ob_pos c_19 hM
          refine lv_iconst (v := 0) hx hb dX5_usersOf_28 (by decide) ?_
          refine lv_ior hx hb dX5_usersOf_29 ?_
          refine lv_istore_n (lv' := [(2, .int (v2_4 ||| 0)), (3, .int v3_4), (0, .ref m_a), (1, .int p1)]) hx hb dX5_usersOf_30 rfl hl (by decide) rfl (fun ls hl => ?_)
          refine lv_iinc (v := (v3_4 + 1)) (lv' := [(3, .int (v3_4 + 1)), (2, .int (v2_4 ||| 0)), (0, .ref m_a), (1, .int p1)]) hx hb dX5_usersOf_31 hl (k := 1) rfl (by rfl) (by decide) rfl (fun ls hl => ?_)
          refine lv_goto (tgt := 4) hx hb dX5_usersOf_34 (by decide) ?_
          exact ih4 (v3_4 + 1) (v2_4 ||| 0) _ hM (lv_sub hl [0, 1, 2, 3] rfl)
        · replace hM := ob_neg c_19 hM
          refine lv_iconst (v := 1) hx hb dX5_usersOf_22 (by decide) ?_
          refine lv_iload_n hx hb dX5_usersOf_23 rfl (lv_at hl 0 rfl) ?_
          refine lv_ishl hx hb dX5_usersOf_24 ?_
          refine lv_goto (tgt := 29) hx hb dX5_usersOf_25 (by decide) ?_
          refine lv_ior hx hb dX5_usersOf_29 ?_
          refine lv_istore_n (lv' := [(2, .int (v2_4 ||| ((1 : Int32) <<< (v3_4 &&& 31)))), (3, .int v3_4), (0, .ref m_a), (1, .int p1)]) hx hb dX5_usersOf_30 rfl hl (by decide) rfl (fun ls hl => ?_)
          refine lv_iinc (v := (v3_4 + 1)) (lv' := [(3, .int (v3_4 + 1)), (2, .int (v2_4 ||| ((1 : Int32) <<< (v3_4 &&& 31)))), (0, .ref m_a), (1, .int p1)]) hx hb dX5_usersOf_31 hl (k := 1) rfl (by rfl) (by decide) rfl (fun ls hl => ?_)
          refine lv_goto (tgt := 4) hx hb dX5_usersOf_34 (by decide) ?_
          exact ih4 (v3_4 + 1) (v2_4 ||| ((1 : Int32) <<< (v3_4 &&& 31))) _ hM (lv_sub hl [0, 1, 2, 3] rfl)
  exact hL4 40 0 0 _ hM (lv_sub hl [0, 1, 2, 3] rfl)
/-! X5_users -/
abbrev rm_X5_users : Room := { frames := 3, cells := 0, slots := 0, locals := 66 }
set_option maxHeartbeats 4000000 in
set_option maxRecDepth 100000 in
theorem c_X5_users (l : Launch) (dC : Nat → ClassId) (dI : Nat → Nat → Nat) (cI cZ cJ cW : ClassId) (m_a m_ds_a m_cs_a m_tx_a m_ia_a m_im_a m_ik_a : Nat) (m_sz : Int32) (m_kn : Int32) (m_sg : Int32) (m_fa : Int32) (m_ds : Nat → Int32) (m_cs : Nat → Int32) (m_tx : Nat → Int32) (m_ia : Nat → Int32) (m_im : Nat → Int32) (m_ik : Nat → Int32) (p1 : Int32) (R : Int32) (hM : M_X5_users p1 m_sz m_ds = some R) : Met l yX5_users wsX5_users rm_X5_users (va_Pc [.ref m_a, .int p1] (RP (dC, dI) cI cZ cJ cW [(m_a, .inr (5, [.int m_sz, .ref m_ds_a, .ref m_cs_a, .int m_kn, .ref m_tx_a, .int m_sg, .int m_fa, .ref m_ia_a, .ref m_im_a, .ref m_ik_a])), (m_ds_a, .inl (cI, 14, .inl m_ds)), (m_cs_a, .inl (cI, 14, .inl m_cs)), (m_tx_a, .inl (cI, 20, .inl m_tx)), (m_ia_a, .inl (cZ, 16384, .inl m_ia)), (m_im_a, .inl (cI, 60, .inl m_im)), (m_ik_a, .inl (cZ, 2, .inl m_ik))])) (vp_Si (fun r => R = r)) 0 0 (fun _ => False) := by
  refine Met.ofW (cc := cX5_users) (maxL := 2) (ret := (some .int)) (by decide) rfl ?_
  intro p e s m args below meth c s₁ B hml hv
  obtain ⟨rfl, hP, hK, hN⟩ := hv
  have hx := B.exec
  have hb := B.bytes
  have hr := B.returns
  have hts := atoms_spec (ws := wsX5_users) B.pre
  have hown : s.vm.findClass RX5 = some m.cls := findClass_of_methodNamed B.named
  have hlocks := B.notSynchronized
  have hl := lv_entry ([.ref m_a, .int p1]) (n := 2) (Nat.le_of_ble_eq_true rfl)
  rw [lg_entry_eq]
  generalize (lg_sl ([.ref m_a, .int p1]) ++ List.replicate (2 - (lg_sl ([.ref m_a, .int p1])).length) Slot.unset).toArray = ls at hl ⊢
  have hl : lv_has ls 2 [(0, .ref m_a), (1, .int p1)] := hl
  have hM : ((M_X5_isWord p1 m_sz).bind (fun q2 => if q2 = 0 then (some (-1)) else ((M_X5_usersOf p1 m_sz m_ds).bind (fun q10 => some q10)))) = some R := hM
  refine lv_aload_n hx hb dX5_users_0 rfl (lv_at hl 0 rfl) ?_
  refine lv_iload_n hx hb dX5_users_1 rfl (lv_at hl 1 rfl) ?_
  obtain ⟨q2, hv2, hM⟩ := ob_bind hM
  refine vp_callSi (va_Run.run (va_runV (As := [.int p1]) (rest := []) ⟨hx, hb, hml, hown, hts⟩ (c_X5_isWord l dC dI cI cZ cJ cW m_a m_ds_a m_cs_a m_tx_a m_ia_a m_im_a m_ik_a m_sz m_kn m_sg m_fa m_ds m_cs m_tx m_ia m_im m_ik p1 q2 hv2) (cwV 1 hts gX5_users_X5_isWord rfl rfl rfl (by decide +kernel) ⟨Nat.le_of_ble_eq_true rfl, Nat.le_of_ble_eq_true rfl⟩) ⟨RP.blind, va_recv hK hP (ci := 5) (q0 := 0) rfl rfl, fun U hU hW => ⟨rfl, by rw [hU]; exact hP.sub (ws' := [(m_a, .inr (5, [.int m_sz, .ref m_ds_a, .ref m_cs_a, .int m_kn, .ref m_tx_a, .int m_sg, .int m_fa, .ref m_ia_a, .ref m_im_a, .ref m_ik_a])), (m_ds_a, .inl (cI, 14, .inl m_ds)), (m_cs_a, .inl (cI, 14, .inl m_cs)), (m_tx_a, .inl (cI, 20, .inl m_tx)), (m_ia_a, .inl (cZ, 16384, .inl m_ia)), (m_im_a, .inl (cI, 60, .inl m_im)), (m_ik_a, .inl (cZ, 2, .inl m_ik))]) [0, 1, 2, 3, 4, 5, 6] rfl, va_K.moved hW.alike hK, hN.warm hW⟩⟩ rfl rfl hl.1 rfl (lv_room (Nat.le_of_ble_eq_true rfl)) dX5_users_2 ⟨Nat.le_of_ble_eq_true rfl, Nat.le_of_ble_eq_true rfl⟩)) (fun r hr => ?_)
  subst hr
  refine lv_if_eq (tgt := 16) hx hb dX5_users_5 (by decide) (fun c_5 => ?_) (fun c_5 => ?_)
  · replace hM := ob_pos c_5 hM
    refine lv_iconst (v := (-1)) hx hb dX5_users_16 (by decide) ?_
    exact W.iret (v := (-1)) hx hb hr (fun t ht hW => ⟨_, rfl, (Option.some.inj hM).symm, ht⟩) (fun _ h => by cases h) dX5_users_17
  · replace hM := ob_neg c_5 hM
    refine lv_aload_n hx hb dX5_users_8 rfl (lv_at hl 0 rfl) ?_
    refine lv_iload_n hx hb dX5_users_9 rfl (lv_at hl 1 rfl) ?_
    obtain ⟨q10, hv10, hM⟩ := ob_bind hM
    refine vp_callSi (va_Run.run (va_runV (As := [.int p1]) (rest := []) ⟨hx, hb, hml, hown, hts⟩ (c_X5_usersOf l dC dI cI cZ cJ cW m_a m_ds_a m_cs_a m_tx_a m_ia_a m_im_a m_ik_a m_sz m_kn m_sg m_fa m_ds m_cs m_tx m_ia m_im m_ik p1 q10 hv10) (cwV 1 hts gX5_users_X5_usersOf rfl rfl rfl (by decide +kernel) ⟨Nat.le_of_ble_eq_true rfl, Nat.le_of_ble_eq_true rfl⟩) ⟨RP.blind, va_recv hK hP (ci := 5) (q0 := 0) rfl rfl, fun U hU hW => ⟨rfl, by rw [hU]; exact hP.sub (ws' := [(m_a, .inr (5, [.int m_sz, .ref m_ds_a, .ref m_cs_a, .int m_kn, .ref m_tx_a, .int m_sg, .int m_fa, .ref m_ia_a, .ref m_im_a, .ref m_ik_a])), (m_ds_a, .inl (cI, 14, .inl m_ds)), (m_cs_a, .inl (cI, 14, .inl m_cs)), (m_tx_a, .inl (cI, 20, .inl m_tx)), (m_ia_a, .inl (cZ, 16384, .inl m_ia)), (m_im_a, .inl (cI, 60, .inl m_im)), (m_ik_a, .inl (cZ, 2, .inl m_ik))]) [0, 1, 2, 3, 4, 5, 6] rfl, va_K.moved hW.alike hK, hN.warm hW⟩⟩ rfl rfl hl.1 rfl (lv_room (Nat.le_of_ble_eq_true rfl)) dX5_users_10 ⟨Nat.le_of_ble_eq_true rfl, Nat.le_of_ble_eq_true rfl⟩)) (fun r hr => ?_)
    subst hr
    refine lv_goto (tgt := 17) hx hb dX5_users_13 (by decide) ?_
    exact W.iret (v := q10) hx hb hr (fun t ht hW => ⟨_, rfl, (Option.some.inj hM).symm, ht⟩) (fun _ h => by cases h) dX5_users_17
/-! X5_cost -/
abbrev rm_X5_cost : Room := { frames := 2, cells := 0, slots := 0, locals := 43 }
theorem in_X5_cost_5 : ∀ w ∈ u_ws RX5 TX5 10, w ∈ wsX5_cost := by decide +kernel
set_option maxHeartbeats 4000000 in
set_option maxRecDepth 100000 in
theorem c_X5_cost (l : Launch) (dC : Nat → ClassId) (dI : Nat → Nat → Nat) (cI cZ cJ cW : ClassId) (sz : Nat) (m_a m_ds_a m_cs_a m_tx_a m_ia_a m_im_a m_ik_a : Nat) (m_sz : Int32) (m_kn : Int32) (m_sg : Int32) (m_fa : Int32) (m_ds : Nat → Int32) (m_cs : Nat → Int32) (m_tx : Nat → Int32) (m_ia : Nat → Int32) (m_im : Nat → Int32) (m_ik : Nat → Int32) (p1 : Int32) (p2 : Int32) (R : Int32 × (Nat → Int32)) (hM : M_X5_cost p1 p2 m_sz m_cs = some R) : Met l yX5_cost wsX5_cost rm_X5_cost (va_Pc [.ref m_a, .int p1, .int p2] (MP (dC, dI) cI cZ cJ cW sz [(m_a, .inr (5, [.int m_sz, .ref m_ds_a, .ref m_cs_a, .int m_kn, .ref m_tx_a, .int m_sg, .int m_fa, .ref m_ia_a, .ref m_im_a, .ref m_ik_a])), (m_ds_a, .inl (cI, 14, .inl m_ds)), (m_cs_a, .inl (cI, 14, .inl m_cs)), (m_tx_a, .inl (cI, 20, .inl m_tx)), (m_ia_a, .inl (cZ, 16384, .inl m_ia)), (m_im_a, .inl (cI, 60, .inl m_im)), (m_ik_a, .inl (cZ, 2, .inl m_ik))])) (va_Qi (fun (r : Int32) (_ : Unit) => R.1 = r) (PB (dC, dI) (va_A [(m_a, .inr (5, [.int m_sz, .ref m_ds_a, .ref m_cs_a, .int m_kn, .ref m_tx_a, .int m_sg, .int m_fa, .ref m_ia_a, .ref m_im_a, .ref m_ik_a])), (m_ds_a, .inl (cI, 14, .inl m_ds)), (m_cs_a, .inl (cI, 14, .inl m_cs)), (m_tx_a, .inl (cI, 20, .inl m_tx)), (m_ia_a, .inl (cZ, 16384, .inl m_ia)), (m_im_a, .inl (cI, 60, .inl m_im)), (m_ik_a, .inl (cZ, 2, .inl m_ik))] sz) [(m_a, .inr (5, [.int m_sz, .ref m_ds_a, .ref m_cs_a, .int m_kn, .ref m_tx_a, .int m_sg, .int m_fa, .ref m_ia_a, .ref m_im_a, .ref m_ik_a])), (m_ds_a, .inl (cI, 14, .inl m_ds)), (m_cs_a, .inl (cI, 14, .inl R.2)), (m_tx_a, .inl (cI, 20, .inl m_tx)), (m_ia_a, .inl (cZ, 16384, .inl m_ia)), (m_im_a, .inl (cI, 60, .inl m_im)), (m_ik_a, .inl (cZ, 2, .inl m_ik))]) (va_A [(m_a, .inr (5, [.int m_sz, .ref m_ds_a, .ref m_cs_a, .int m_kn, .ref m_tx_a, .int m_sg, .int m_fa, .ref m_ia_a, .ref m_im_a, .ref m_ik_a])), (m_ds_a, .inl (cI, 14, .inl m_ds)), (m_cs_a, .inl (cI, 14, .inl m_cs)), (m_tx_a, .inl (cI, 20, .inl m_tx)), (m_ia_a, .inl (cZ, 16384, .inl m_ia)), (m_im_a, .inl (cI, 60, .inl m_im)), (m_ik_a, .inl (cZ, 2, .inl m_ik))] sz)) 0 0 (va_A [(m_a, .inr (5, [.int m_sz, .ref m_ds_a, .ref m_cs_a, .int m_kn, .ref m_tx_a, .int m_sg, .int m_fa, .ref m_ia_a, .ref m_im_a, .ref m_ik_a])), (m_ds_a, .inl (cI, 14, .inl m_ds)), (m_cs_a, .inl (cI, 14, .inl m_cs)), (m_tx_a, .inl (cI, 20, .inl m_tx)), (m_ia_a, .inl (cZ, 16384, .inl m_ia)), (m_im_a, .inl (cI, 60, .inl m_im)), (m_ik_a, .inl (cZ, 2, .inl m_ik))] sz) := by
  refine Met.ofW (cc := cX5_cost) (maxL := 4) (ret := (some .int)) (by decide) rfl ?_
  intro p e s m args below meth c s₁ B hml hv
  obtain ⟨rfl, hsz, hP, hK, hN, hD0⟩ := hv
  have hx := B.exec
  have hb := B.bytes
  have hr := B.returns
  have hts := atoms_spec (ws := wsX5_cost) B.pre
  have hown : s.vm.findClass RX5 = some m.cls := findClass_of_methodNamed B.named
  have hlocks := B.notSynchronized
  subst hsz
  have hD := hD0.self (sz := s.heap.size)
  generalize hAe : va_A [(m_a, .inr (5, [.int m_sz, .ref m_ds_a, .ref m_cs_a, .int m_kn, .ref m_tx_a, .int m_sg, .int m_fa, .ref m_ia_a, .ref m_im_a, .ref m_ik_a])), (m_ds_a, .inl (cI, 14, .inl m_ds)), (m_cs_a, .inl (cI, 14, .inl m_cs)), (m_tx_a, .inl (cI, 20, .inl m_tx)), (m_ia_a, .inl (cZ, 16384, .inl m_ia)), (m_im_a, .inl (cI, 60, .inl m_im)), (m_ik_a, .inl (cZ, 2, .inl m_ik))] s.heap.size = A at hD ⊢
  have hA : ∀ q : Nat, s.heap.size ≤ q → A q := fun q h => by rw [← hAe]; exact Or.inr h
  have hS : va_S A s.heap s.heap [] := va_S.rf
  have hf17 := hts (.fieldLink RX5 17 "WordGroundsModel" "costs" "[I") (by decide +kernel)
  have hl := lv_entry ([.ref m_a, .int p1, .int p2]) (n := 4) (Nat.le_of_ble_eq_true rfl)
  rw [lg_entry_eq]
  generalize (lg_sl ([.ref m_a, .int p1, .int p2]) ++ List.replicate (4 - (lg_sl ([.ref m_a, .int p1, .int p2])).length) Slot.unset).toArray = ls at hl ⊢
  have hl : lv_has ls 4 [(0, .ref m_a), (1, .int p1), (2, .int p2)] := hl
  have hP : va_P (dC, dI) vwCl [(m_a, .inr (5, [.int m_sz, .ref m_ds_a, .ref m_cs_a, .int m_kn, .ref m_tx_a, .int m_sg, .int m_fa, .ref m_ia_a, .ref m_im_a, .ref m_ik_a])), (m_ds_a, .inl (cI, 14, .inl m_ds)), (m_cs_a, .inl (cI, 14, .inl m_cs)), (m_tx_a, .inl (cI, 20, .inl m_tx)), (m_ia_a, .inl (cZ, 16384, .inl m_ia)), (m_im_a, .inl (cI, 60, .inl m_im)), (m_ik_a, .inl (cZ, 2, .inl m_ik))] s.heap := hP
  have hM : ((M_X5_isWord p1 m_sz).bind (fun q2 => if q2 = 0 then (some ((-1), m_cs)) else ((M_X5_in p2 1 9).bind (fun q14 => if q14 = 0 then (some ((-2), m_cs)) else (if p1 < 0 ∨ 14 ≤ (p1).toNatClampNeg then none else (if p1 < 0 ∨ 14 ≤ (p1).toNatClampNeg then none else (some ((m_cs (p1).toNatClampNeg), (upd m_cs (p1).toNatClampNeg p2))))))))) = some R := hM
  refine lv_aload_n hx hb dX5_cost_0 rfl (lv_at hl 0 rfl) ?_
  refine lv_iload_n hx hb dX5_cost_1 rfl (lv_at hl 1 rfl) ?_
  obtain ⟨q2, hv2, hM⟩ := ob_bind hM
  refine vp_callSi (va_Run.run (va_runV (As := [.int p1]) (rest := []) ⟨hx, hb, hml, hown, hts⟩ (c_X5_isWord l dC dI cI cZ cJ cW m_a m_ds_a m_cs_a m_tx_a m_ia_a m_im_a m_ik_a m_sz m_kn m_sg m_fa m_ds m_cs m_tx m_ia m_im m_ik p1 q2 hv2) (cwV 1 hts gX5_cost_X5_isWord rfl rfl rfl (by decide +kernel) ⟨Nat.le_of_ble_eq_true rfl, Nat.le_of_ble_eq_true rfl⟩) ⟨RP.blind, va_recv hK hP (ci := 5) (q0 := 0) rfl rfl, fun U hU hW => ⟨rfl, by rw [hU]; exact hP.sub (ws' := [(m_a, .inr (5, [.int m_sz, .ref m_ds_a, .ref m_cs_a, .int m_kn, .ref m_tx_a, .int m_sg, .int m_fa, .ref m_ia_a, .ref m_im_a, .ref m_ik_a])), (m_ds_a, .inl (cI, 14, .inl m_ds)), (m_cs_a, .inl (cI, 14, .inl m_cs)), (m_tx_a, .inl (cI, 20, .inl m_tx)), (m_ia_a, .inl (cZ, 16384, .inl m_ia)), (m_im_a, .inl (cI, 60, .inl m_im)), (m_ik_a, .inl (cZ, 2, .inl m_ik))]) [0, 1, 2, 3, 4, 5, 6] rfl, va_K.moved hW.alike hK, hN.warm hW⟩⟩ rfl rfl hl.1 rfl (lv_room (Nat.le_of_ble_eq_true rfl)) dX5_cost_2 ⟨Nat.le_of_ble_eq_true rfl, Nat.le_of_ble_eq_true rfl⟩)) (fun r hr => ?_)
  subst hr
  refine lv_if_ne (tgt := 10) hx hb dX5_cost_5 (by decide) (fun c_5 => ?_) (fun c_5 => ?_)
  · replace hM := ob_neg c_5 hM
    refine lv_iload_n hx hb dX5_cost_10 rfl (lv_at hl 2 rfl) ?_
    refine lv_iconst (v := 1) hx hb dX5_cost_11 (by decide) ?_
    refine lv_bipush (v := 9) hx hb dX5_cost_12 (by decide) ?_
    obtain ⟨q14, hv14, hM⟩ := ob_bind hM
    refine vp_callSi (va_Run.run (va_runS (As := [.int p2, .int 1, .int 9]) (rest := []) ⟨hx, hb, hml, hown, hts⟩ (c_X5_in l dC dI cI cZ cJ cW p2 1 9 q14 hv14) (va_cwS 3 hts gX5_cost_X5_in rfl rfl rfl (by decide +kernel) ⟨Nat.le_of_ble_eq_true rfl, Nat.le_of_ble_eq_true rfl⟩) ⟨TP.blind, fun U hU hW => ⟨rfl, trivial⟩⟩ rfl rfl hl.1 rfl (lv_room (Nat.le_of_ble_eq_true rfl)) dX5_cost_14 ⟨Nat.le_of_ble_eq_true rfl, Nat.le_of_ble_eq_true rfl⟩)) (fun r hr => ?_)
    subst hr
    refine lv_if_ne (tgt := 23) hx hb dX5_cost_17 (by decide) (fun c_17 => ?_) (fun c_17 => ?_)
    · replace hM := ob_neg c_17 hM
      refine lv_aload_n hx hb dX5_cost_23 rfl (lv_at hl 0 rfl) ?_
      refine va_get (D := (dC, dI)) (ci := 5) (v := .ref m_cs_a) (C := RX5) (T := TX5) (N := 10) hx hb hts in_X5_cost_5 hown hK hP 0 rfl rfl 2 (by decide) hf17 (fun _ h9 => h9) rfl dX5_cost_24 ?_
      refine lv_iload_n hx hb dX5_cost_27 rfl (lv_at hl 1 rfl) ?_
      obtain ⟨h_28, hM⟩ := ob_get hM
      refine va_iald hx hb hK hP 2 0 rfl rfl h_28 dX5_cost_28 ?_
      refine lv_istore_n (lv' := [(3, .int (m_cs (p1).toNatClampNeg)), (0, .ref m_a), (1, .int p1), (2, .int p2)]) hx hb dX5_cost_29 rfl hl (by decide) rfl (fun ls hl => ?_)
      refine lv_aload_n hx hb dX5_cost_30 rfl (lv_at hl 1 rfl) ?_
      refine va_get (D := (dC, dI)) (ci := 5) (v := .ref m_cs_a) (C := RX5) (T := TX5) (N := 10) hx hb hts in_X5_cost_5 hown hK hP 0 rfl rfl 2 (by decide) hf17 (fun _ h9 => h9) rfl dX5_cost_31 ?_
      refine lv_iload_n hx hb dX5_cost_34 rfl (lv_at hl 2 rfl) ?_
      refine lv_iload_n hx hb dX5_cost_35 rfl (lv_at hl 3 rfl) ?_
      obtain ⟨h_36, hM⟩ := ob_get hM
      refine va_iast hx hb hK hP hD hS 2 0 rfl rfl h_36 dX5_cost_36 (fun H locs hP hD hS => ?_)
      have hP : va_P (dC, dI) vwCl [(m_a, .inr (5, [.int m_sz, .ref m_ds_a, .ref m_cs_a, .int m_kn, .ref m_tx_a, .int m_sg, .int m_fa, .ref m_ia_a, .ref m_im_a, .ref m_ik_a])), (m_ds_a, .inl (cI, 14, .inl m_ds)), (m_cs_a, .inl (cI, 14, .inl (upd m_cs (p1).toNatClampNeg p2))), (m_tx_a, .inl (cI, 20, .inl m_tx)), (m_ia_a, .inl (cZ, 16384, .inl m_ia)), (m_im_a, .inl (cI, 60, .inl m_im)), (m_ik_a, .inl (cZ, 2, .inl m_ik))] H := hP
      have hD : va_D A [(m_a, .inr (5, [.int m_sz, .ref m_ds_a, .ref m_cs_a, .int m_kn, .ref m_tx_a, .int m_sg, .int m_fa, .ref m_ia_a, .ref m_im_a, .ref m_ik_a])), (m_ds_a, .inl (cI, 14, .inl m_ds)), (m_cs_a, .inl (cI, 14, .inl (upd m_cs (p1).toNatClampNeg p2))), (m_tx_a, .inl (cI, 20, .inl m_tx)), (m_ia_a, .inl (cZ, 16384, .inl m_ia)), (m_im_a, .inl (cI, 60, .inl m_im)), (m_ik_a, .inl (cZ, 2, .inl m_ik))] := hD
      refine lv_iload_n hx hb dX5_cost_37 rfl (lv_at hl 0 rfl) ?_
      obtain rfl := Option.some.inj hM
      have hP9 := hP.sub (ws' := [(m_a, .inr (5, [.int m_sz, .ref m_ds_a, .ref m_cs_a, .int m_kn, .ref m_tx_a, .int m_sg, .int m_fa, .ref m_ia_a, .ref m_im_a, .ref m_ik_a])), (m_ds_a, .inl (cI, 14, .inl m_ds)), (m_cs_a, .inl (cI, 14, .inl (upd m_cs (p1).toNatClampNeg p2))), (m_tx_a, .inl (cI, 20, .inl m_tx)), (m_ia_a, .inl (cZ, 16384, .inl m_ia)), (m_im_a, .inl (cI, 60, .inl m_im)), (m_ik_a, .inl (cZ, 2, .inl m_ik))]) [0, 1, 2, 3, 4, 5, 6] rfl
      have hD9 := hD.sub (ws' := [(m_a, .inr (5, [.int m_sz, .ref m_ds_a, .ref m_cs_a, .int m_kn, .ref m_tx_a, .int m_sg, .int m_fa, .ref m_ia_a, .ref m_im_a, .ref m_ik_a])), (m_ds_a, .inl (cI, 14, .inl m_ds)), (m_cs_a, .inl (cI, 14, .inl (upd m_cs (p1).toNatClampNeg p2))), (m_tx_a, .inl (cI, 20, .inl m_tx)), (m_ia_a, .inl (cZ, 16384, .inl m_ia)), (m_im_a, .inl (cI, 60, .inl m_im)), (m_ik_a, .inl (cZ, 2, .inl m_ik))]) [0, 1, 2, 3, 4, 5, 6] (by decide) rfl
      exact W.iret (v := (m_cs (p1).toNatClampNeg)) hx hb hr (fun t ht hW => ⟨⟨_, (), rfl, rfl, by rw [ht]; exact hP9, hD9⟩, hS.F ht⟩) hS.2.2 dX5_cost_38
    · replace hM := ob_pos c_17 hM
      refine lv_bipush (v := (-2)) hx hb dX5_cost_20 (by decide) ?_
      obtain rfl := Option.some.inj hM
      have hP9 := hP.sub (ws' := [(m_a, .inr (5, [.int m_sz, .ref m_ds_a, .ref m_cs_a, .int m_kn, .ref m_tx_a, .int m_sg, .int m_fa, .ref m_ia_a, .ref m_im_a, .ref m_ik_a])), (m_ds_a, .inl (cI, 14, .inl m_ds)), (m_cs_a, .inl (cI, 14, .inl m_cs)), (m_tx_a, .inl (cI, 20, .inl m_tx)), (m_ia_a, .inl (cZ, 16384, .inl m_ia)), (m_im_a, .inl (cI, 60, .inl m_im)), (m_ik_a, .inl (cZ, 2, .inl m_ik))]) [0, 1, 2, 3, 4, 5, 6] rfl
      have hD9 := hD.sub (ws' := [(m_a, .inr (5, [.int m_sz, .ref m_ds_a, .ref m_cs_a, .int m_kn, .ref m_tx_a, .int m_sg, .int m_fa, .ref m_ia_a, .ref m_im_a, .ref m_ik_a])), (m_ds_a, .inl (cI, 14, .inl m_ds)), (m_cs_a, .inl (cI, 14, .inl m_cs)), (m_tx_a, .inl (cI, 20, .inl m_tx)), (m_ia_a, .inl (cZ, 16384, .inl m_ia)), (m_im_a, .inl (cI, 60, .inl m_im)), (m_ik_a, .inl (cZ, 2, .inl m_ik))]) [0, 1, 2, 3, 4, 5, 6] (by decide) rfl
      exact W.iret (v := (-2)) hx hb hr (fun t ht hW => ⟨⟨_, (), rfl, rfl, by rw [ht]; exact hP9, hD9⟩, hS.F ht⟩) hS.2.2 dX5_cost_22
  · replace hM := ob_pos c_5 hM
    refine lv_iconst (v := (-1)) hx hb dX5_cost_8 (by decide) ?_
    obtain rfl := Option.some.inj hM
    have hP9 := hP.sub (ws' := [(m_a, .inr (5, [.int m_sz, .ref m_ds_a, .ref m_cs_a, .int m_kn, .ref m_tx_a, .int m_sg, .int m_fa, .ref m_ia_a, .ref m_im_a, .ref m_ik_a])), (m_ds_a, .inl (cI, 14, .inl m_ds)), (m_cs_a, .inl (cI, 14, .inl m_cs)), (m_tx_a, .inl (cI, 20, .inl m_tx)), (m_ia_a, .inl (cZ, 16384, .inl m_ia)), (m_im_a, .inl (cI, 60, .inl m_im)), (m_ik_a, .inl (cZ, 2, .inl m_ik))]) [0, 1, 2, 3, 4, 5, 6] rfl
    have hD9 := hD.sub (ws' := [(m_a, .inr (5, [.int m_sz, .ref m_ds_a, .ref m_cs_a, .int m_kn, .ref m_tx_a, .int m_sg, .int m_fa, .ref m_ia_a, .ref m_im_a, .ref m_ik_a])), (m_ds_a, .inl (cI, 14, .inl m_ds)), (m_cs_a, .inl (cI, 14, .inl m_cs)), (m_tx_a, .inl (cI, 20, .inl m_tx)), (m_ia_a, .inl (cZ, 16384, .inl m_ia)), (m_im_a, .inl (cI, 60, .inl m_im)), (m_ik_a, .inl (cZ, 2, .inl m_ik))]) [0, 1, 2, 3, 4, 5, 6] (by decide) rfl
    exact W.iret (v := (-1)) hx hb hr (fun t ht hW => ⟨⟨_, (), rfl, rfl, by rw [ht]; exact hP9, hD9⟩, hS.F ht⟩) hS.2.2 dX5_cost_9
/-! X5_after -/
abbrev rm_X5_after : Room := { frames := 0, cells := 0, slots := 0, locals := 0 }
theorem in_X5_after_5 : ∀ w ∈ u_ws RX5 TX5 10, w ∈ wsX5_after := by decide +kernel
set_option maxHeartbeats 4000000 in
set_option maxRecDepth 100000 in
theorem c_X5_after (l : Launch) (dC : Nat → ClassId) (dI : Nat → Nat → Nat) (cI cZ cJ cW : ClassId) (m_a m_ds_a m_cs_a m_tx_a m_ia_a m_im_a m_ik_a : Nat) (m_sz : Int32) (m_kn : Int32) (m_sg : Int32) (m_fa : Int32) (m_ds : Nat → Int32) (m_cs : Nat → Int32) (m_tx : Nat → Int32) (m_ia : Nat → Int32) (m_im : Nat → Int32) (m_ik : Nat → Int32) (p1 : Int32) (R : Int32) (hM : M_X5_after p1 m_sz m_ds = some R) : Met l yX5_after wsX5_after rm_X5_after (va_Pc [.ref m_a, .int p1] (RP (dC, dI) cI cZ cJ cW [(m_a, .inr (5, [.int m_sz, .ref m_ds_a, .ref m_cs_a, .int m_kn, .ref m_tx_a, .int m_sg, .int m_fa, .ref m_ia_a, .ref m_im_a, .ref m_ik_a])), (m_ds_a, .inl (cI, 14, .inl m_ds)), (m_cs_a, .inl (cI, 14, .inl m_cs)), (m_tx_a, .inl (cI, 20, .inl m_tx)), (m_ia_a, .inl (cZ, 16384, .inl m_ia)), (m_im_a, .inl (cI, 60, .inl m_im)), (m_ik_a, .inl (cZ, 2, .inl m_ik))])) (vp_Si (fun r => R = r)) 0 0 (fun _ => False) := by
  refine Met.ofW (cc := cX5_after) (maxL := 4) (ret := (some .int)) (by decide) rfl ?_
  intro p e s m args below meth c s₁ B hml hv
  obtain ⟨rfl, hP, hK, hN⟩ := hv
  have hx := B.exec
  have hb := B.bytes
  have hr := B.returns
  have hts := atoms_spec (ws := wsX5_after) B.pre
  have hown : s.vm.findClass RX5 = some m.cls := findClass_of_methodNamed B.named
  have hlocks := B.notSynchronized
  have hf7 := hts (.fieldLink RX5 7 "WordGroundsModel" "size" "I") (by decide +kernel)
  have hf13 := hts (.fieldLink RX5 13 "WordGroundsModel" "definitions" "[I") (by decide +kernel)
  have hl := lv_entry ([.ref m_a, .int p1]) (n := 4) (Nat.le_of_ble_eq_true rfl)
  rw [lg_entry_eq]
  generalize (lg_sl ([.ref m_a, .int p1]) ++ List.replicate (4 - (lg_sl ([.ref m_a, .int p1])).length) Slot.unset).toArray = ls at hl ⊢
  have hl : lv_has ls 4 [(0, .ref m_a), (1, .int p1)] := hl
  have hM : (L_X5_after_4 p1 m_sz m_ds (fun (v3_4 : Int32) (v2_4 : Int32) => some v2_4) 40 0 p1) = some R := hM
  refine lv_iload_n hx hb dX5_after_0 rfl (lv_at hl 1 rfl) ?_
  refine lv_istore_n (lv' := [(2, .int p1), (0, .ref m_a), (1, .int p1)]) hx hb dX5_after_1 rfl hl (by decide) rfl (fun ls hl => ?_)
  refine lv_iconst (v := 0) hx hb dX5_after_2 (by decide) ?_
  refine lv_istore_n (lv' := [(3, .int 0), (2, .int p1), (0, .ref m_a), (1, .int p1)]) hx hb dX5_after_3 rfl hl (by decide) rfl (fun ls hl => ?_)
  obtain ⟨K4, hK4⟩ : ∃ K : Int32 → Int32 → Option (Int32), K = (fun (v3_4 : Int32) (v2_4 : Int32) => some v2_4) := ⟨_, rfl⟩
  have hM : L_X5_after_4 p1 m_sz m_ds K4 40 0 p1 = some R := by rw [hK4]; exact hM
  have hL4 : ∀ (k4 : Nat) (v3_4 : Int32) (v2_4 : Int32) (ls : Array Slot), L_X5_after_4 p1 m_sz m_ds K4 k4 v3_4 v2_4 = some R → lv_has ls 4 [(3, .int v3_4), (2, .int v2_4), (0, .ref m_a), (1, .int p1)] → W p l e rm_X5_after s m ([.ref m_a, .int p1] : List Value).toArray below meth c s.heap [] 0 0 (MQ below (vp_Si (fun r => R = r)) ([.ref m_a, .int p1] : List Value).toArray s 0 0 (fun _ => False)) (F0 m 4 ls []) := by
    intro k4
    induction k4 with
    | zero => intro v3_4 v2_4 ls hM; exact (ob_none hM).elim
    | succ k4 ih4 =>
      intro v3_4 v2_4 ls hM hl
      have hM : (if m_sz ≤ v3_4 then (K4 v3_4 v2_4) else (if v3_4 < 0 ∨ 14 ≤ (v3_4).toNatClampNeg then none else (if (m_ds (v3_4).toNatClampNeg) < 0 then (L_X5_after_4 p1 m_sz m_ds K4 k4 (v3_4 + 1) (v2_4 ||| 0)) else (if v3_4 < 0 ∨ 14 ≤ (v3_4).toNatClampNeg then none else (if ((m_ds (v3_4).toNatClampNeg) &&& (p1 ^^^ (-1))) = 0 then (L_X5_after_4 p1 m_sz m_ds K4 k4 (v3_4 + 1) (v2_4 ||| ((1 : Int32) <<< (v3_4 &&& 31)))) else (L_X5_after_4 p1 m_sz m_ds K4 k4 (v3_4 + 1) (v2_4 ||| 0))))))) = some R := hM
      refine lv_iload_n hx hb dX5_after_4 rfl (lv_at hl 0 rfl) ?_
      refine lv_aload_n hx hb dX5_after_5 rfl (lv_at hl 2 rfl) ?_
      refine va_get (D := (dC, dI)) (ci := 5) (v := .int m_sz) (C := RX5) (T := TX5) (N := 10) hx hb hts in_X5_after_5 hown hK hP 0 rfl rfl 0 (by decide) hf7 (fun _ h9 => h9) rfl dX5_after_6 ?_
      refine lv_icmp_ge (tgt := 50) hx hb dX5_after_9 (by decide) (fun c_9 => ?_) (fun c_9 => ?_)
      · replace hM := ob_pos c_9 hM
        have hM : (some v2_4) = some R := by rw [hK4] at hM; exact hM
        refine lv_iload_n hx hb dX5_after_50 rfl (lv_at hl 1 rfl) ?_
        exact W.iret (v := v2_4) hx hb hr (fun t ht hW => ⟨_, rfl, (Option.some.inj hM).symm, ht⟩) (fun _ h => by cases h) dX5_after_51
      · replace hM := ob_neg c_9 hM
        refine lv_iload_n hx hb dX5_after_12 rfl (lv_at hl 1 rfl) ?_
        refine lv_aload_n hx hb dX5_after_13 rfl (lv_at hl 2 rfl) ?_
        refine va_get (D := (dC, dI)) (ci := 5) (v := .ref m_ds_a) (C := RX5) (T := TX5) (N := 10) hx hb hts in_X5_after_5 hown hK hP 0 rfl rfl 1 (by decide) hf13 (fun _ h9 => h9) rfl dX5_after_14 ?_
        refine lv_iload_n hx hb dX5_after_17 rfl (lv_at hl 0 rfl) ?_
        obtain ⟨h_18, hM⟩ := ob_get hM
        refine va_iald hx hb hK hP 1 0 rfl rfl h_18 dX5_after_18 ?_
        refine lv_if_lt (tgt := 41) hx hb dX5_after_19 (by decide) (fun c_19 => ?_) (fun c_19 => ?_)
        · replace hM := ob_pos c_19 hM
          refine lv_iconst (v := 0) hx hb dX5_after_41 (by decide) ?_
          refine lv_ior hx hb dX5_after_42 ?_
          refine lv_istore_n (lv' := [(2, .int (v2_4 ||| 0)), (3, .int v3_4), (0, .ref m_a), (1, .int p1)]) hx hb dX5_after_43 rfl hl (by decide) rfl (fun ls hl => ?_)
          refine lv_iinc (v := (v3_4 + 1)) (lv' := [(3, .int (v3_4 + 1)), (2, .int (v2_4 ||| 0)), (0, .ref m_a), (1, .int p1)]) hx hb dX5_after_44 hl (k := 1) rfl (by rfl) (by decide) rfl (fun ls hl => ?_)
          refine lv_goto (tgt := 4) hx hb dX5_after_47 (by decide) ?_
          exact ih4 (v3_4 + 1) (v2_4 ||| 0) _ hM (lv_sub hl [0, 1, 2, 3] rfl)
        · replace hM := ob_neg c_19 hM
          refine lv_aload_n hx hb dX5_after_22 rfl (lv_at hl 2 rfl) ?_
          refine va_get (D := (dC, dI)) (ci := 5) (v := .ref m_ds_a) (C := RX5) (T := TX5) (N := 10) hx hb hts in_X5_after_5 hown hK hP 0 rfl rfl 1 (by decide) hf13 (fun _ h9 => h9) rfl dX5_after_23 ?_
          refine lv_iload_n hx hb dX5_after_26 rfl (lv_at hl 0 rfl) ?_
          obtain ⟨h_27, hM⟩ := ob_get hM
          refine va_iald hx hb hK hP 1 0 rfl rfl h_27 dX5_after_27 ?_
          refine lv_iload_n hx hb dX5_after_28 rfl (lv_at hl 3 rfl) ?_
          refine lv_iconst (v := (-1)) hx hb dX5_after_29 (by decide) ?_
          refine lv_ixor hx hb dX5_after_30 ?_
          refine lv_iand hx hb dX5_after_31 ?_
          refine lv_if_ne (tgt := 41) hx hb dX5_after_32 (by decide) (fun c_32 => ?_) (fun c_32 => ?_)
          · replace hM := ob_neg c_32 hM
            refine lv_iconst (v := 0) hx hb dX5_after_41 (by decide) ?_
            refine lv_ior hx hb dX5_after_42 ?_
            refine lv_istore_n (lv' := [(2, .int (v2_4 ||| 0)), (3, .int v3_4), (0, .ref m_a), (1, .int p1)]) hx hb dX5_after_43 rfl hl (by decide) rfl (fun ls hl => ?_)
            refine lv_iinc (v := (v3_4 + 1)) (lv' := [(3, .int (v3_4 + 1)), (2, .int (v2_4 ||| 0)), (0, .ref m_a), (1, .int p1)]) hx hb dX5_after_44 hl (k := 1) rfl (by rfl) (by decide) rfl (fun ls hl => ?_)
            refine lv_goto (tgt := 4) hx hb dX5_after_47 (by decide) ?_
            exact ih4 (v3_4 + 1) (v2_4 ||| 0) _ hM (lv_sub hl [0, 1, 2, 3] rfl)
          · replace hM := ob_pos c_32 hM
            refine lv_iconst (v := 1) hx hb dX5_after_35 (by decide) ?_
            refine lv_iload_n hx hb dX5_after_36 rfl (lv_at hl 0 rfl) ?_
            refine lv_ishl hx hb dX5_after_37 ?_
            refine lv_goto (tgt := 42) hx hb dX5_after_38 (by decide) ?_
            refine lv_ior hx hb dX5_after_42 ?_
            refine lv_istore_n (lv' := [(2, .int (v2_4 ||| ((1 : Int32) <<< (v3_4 &&& 31)))), (3, .int v3_4), (0, .ref m_a), (1, .int p1)]) hx hb dX5_after_43 rfl hl (by decide) rfl (fun ls hl => ?_)
            refine lv_iinc (v := (v3_4 + 1)) (lv' := [(3, .int (v3_4 + 1)), (2, .int (v2_4 ||| ((1 : Int32) <<< (v3_4 &&& 31)))), (0, .ref m_a), (1, .int p1)]) hx hb dX5_after_44 hl (k := 1) rfl (by rfl) (by decide) rfl (fun ls hl => ?_)
            refine lv_goto (tgt := 4) hx hb dX5_after_47 (by decide) ?_
            exact ih4 (v3_4 + 1) (v2_4 ||| ((1 : Int32) <<< (v3_4 &&& 31))) _ hM (lv_sub hl [0, 1, 2, 3] rfl)
  exact hL4 40 0 p1 _ hM (lv_sub hl [0, 1, 2, 3] rfl)
/-! X5_knownOn -/
abbrev rm_X5_knownOn : Room := { frames := 1, cells := 0, slots := 0, locals := 23 }
set_option maxHeartbeats 4000000 in
set_option maxRecDepth 100000 in
theorem c_X5_knownOn (l : Launch) (dC : Nat → ClassId) (dI : Nat → Nat → Nat) (cI cZ cJ cW : ClassId) (m_a m_ds_a m_cs_a m_tx_a m_ia_a m_im_a m_ik_a : Nat) (m_sz : Int32) (m_kn : Int32) (m_sg : Int32) (m_fa : Int32) (m_ds : Nat → Int32) (m_cs : Nat → Int32) (m_tx : Nat → Int32) (m_ia : Nat → Int32) (m_im : Nat → Int32) (m_ik : Nat → Int32) (p1 : Int32) (p2 : Int32) (R : Int32) (hM : M_X5_knownOn p1 p2 m_sz m_ds = some R) : Met l yX5_knownOn wsX5_knownOn rm_X5_knownOn (va_Pc [.ref m_a, .int p1, .int p2] (RP (dC, dI) cI cZ cJ cW [(m_a, .inr (5, [.int m_sz, .ref m_ds_a, .ref m_cs_a, .int m_kn, .ref m_tx_a, .int m_sg, .int m_fa, .ref m_ia_a, .ref m_im_a, .ref m_ik_a])), (m_ds_a, .inl (cI, 14, .inl m_ds)), (m_cs_a, .inl (cI, 14, .inl m_cs)), (m_tx_a, .inl (cI, 20, .inl m_tx)), (m_ia_a, .inl (cZ, 16384, .inl m_ia)), (m_im_a, .inl (cI, 60, .inl m_im)), (m_ik_a, .inl (cZ, 2, .inl m_ik))])) (vp_Si (fun r => R = r)) 0 0 (fun _ => False) := by
  refine Met.ofW (cc := cX5_knownOn) (maxL := 5) (ret := (some .int)) (by decide) rfl ?_
  intro p e s m args below meth c s₁ B hml hv
  obtain ⟨rfl, hP, hK, hN⟩ := hv
  have hx := B.exec
  have hb := B.bytes
  have hr := B.returns
  have hts := atoms_spec (ws := wsX5_knownOn) B.pre
  have hown : s.vm.findClass RX5 = some m.cls := findClass_of_methodNamed B.named
  have hlocks := B.notSynchronized
  have hl := lv_entry ([.ref m_a, .int p1, .int p2]) (n := 5) (Nat.le_of_ble_eq_true rfl)
  rw [lg_entry_eq]
  generalize (lg_sl ([.ref m_a, .int p1, .int p2]) ++ List.replicate (5 - (lg_sl ([.ref m_a, .int p1, .int p2])).length) Slot.unset).toArray = ls at hl ⊢
  have hl : lv_has ls 5 [(0, .ref m_a), (1, .int p1), (2, .int p2)] := hl
  have hM : (L_X5_knownOn_5 p2 m_sz m_ds (fun (v4_5 : Int32) (v3_5 : Int32) => some v3_5) 40 0 p1) = some R := hM
  refine lv_iload_n hx hb dX5_knownOn_0 rfl (lv_at hl 1 rfl) ?_
  refine lv_istore_n (lv' := [(3, .int p1), (0, .ref m_a), (1, .int p1), (2, .int p2)]) hx hb dX5_knownOn_1 rfl hl (by decide) rfl (fun ls hl => ?_)
  refine lv_iconst (v := 0) hx hb dX5_knownOn_2 (by decide) ?_
  refine lv_istore (lv' := [(4, .int 0), (3, .int p1), (0, .ref m_a), (1, .int p1), (2, .int p2)]) hx hb dX5_knownOn_3 hl (by decide) rfl (fun ls hl => ?_)
  obtain ⟨K5, hK5⟩ : ∃ K : Int32 → Int32 → Option (Int32), K = (fun (v4_5 : Int32) (v3_5 : Int32) => some v3_5) := ⟨_, rfl⟩
  have hM : L_X5_knownOn_5 p2 m_sz m_ds K5 40 0 p1 = some R := by rw [hK5]; exact hM
  have hL5 : ∀ (k5 : Nat) (v4_5 : Int32) (v3_5 : Int32) (ls : Array Slot), L_X5_knownOn_5 p2 m_sz m_ds K5 k5 v4_5 v3_5 = some R → lv_has ls 5 [(4, .int v4_5), (3, .int v3_5), (0, .ref m_a), (1, .int p1), (2, .int p2)] → W p l e rm_X5_knownOn s m ([.ref m_a, .int p1, .int p2] : List Value).toArray below meth c s.heap [] 0 0 (MQ below (vp_Si (fun r => R = r)) ([.ref m_a, .int p1, .int p2] : List Value).toArray s 0 0 (fun _ => False)) (F0 m 5 ls []) := by
    intro k5
    induction k5 with
    | zero => intro v4_5 v3_5 ls hM; exact (ob_none hM).elim
    | succ k5 ih5 =>
      intro v4_5 v3_5 ls hM hl
      have hM : (if p2 ≤ v4_5 then (K5 v4_5 v3_5) else ((M_X5_after v3_5 m_sz m_ds).bind (fun q13 => L_X5_knownOn_5 p2 m_sz m_ds K5 k5 (v4_5 + 1) q13))) = some R := hM
      refine lv_iload hx hb dX5_knownOn_5 (lv_at hl 0 rfl) ?_
      refine lv_iload_n hx hb dX5_knownOn_7 rfl (lv_at hl 4 rfl) ?_
      refine lv_icmp_ge (tgt := 23) hx hb dX5_knownOn_8 (by decide) (fun c_8 => ?_) (fun c_8 => ?_)
      · replace hM := ob_pos c_8 hM
        have hM : (some v3_5) = some R := by rw [hK5] at hM; exact hM
        refine lv_iload_n hx hb dX5_knownOn_23 rfl (lv_at hl 1 rfl) ?_
        exact W.iret (v := v3_5) hx hb hr (fun t ht hW => ⟨_, rfl, (Option.some.inj hM).symm, ht⟩) (fun _ h => by cases h) dX5_knownOn_24
      · replace hM := ob_neg c_8 hM
        refine lv_aload_n hx hb dX5_knownOn_11 rfl (lv_at hl 2 rfl) ?_
        refine lv_iload_n hx hb dX5_knownOn_12 rfl (lv_at hl 1 rfl) ?_
        obtain ⟨q13, hv13, hM⟩ := ob_bind hM
        refine vp_callSi (va_Run.run (va_runV (As := [.int v3_5]) (rest := []) ⟨hx, hb, hml, hown, hts⟩ (c_X5_after l dC dI cI cZ cJ cW m_a m_ds_a m_cs_a m_tx_a m_ia_a m_im_a m_ik_a m_sz m_kn m_sg m_fa m_ds m_cs m_tx m_ia m_im m_ik v3_5 q13 hv13) (cwV 1 hts gX5_knownOn_X5_after rfl rfl rfl (by decide +kernel) ⟨Nat.le_of_ble_eq_true rfl, Nat.le_of_ble_eq_true rfl⟩) ⟨RP.blind, va_recv hK hP (ci := 5) (q0 := 0) rfl rfl, fun U hU hW => ⟨rfl, by rw [hU]; exact hP.sub (ws' := [(m_a, .inr (5, [.int m_sz, .ref m_ds_a, .ref m_cs_a, .int m_kn, .ref m_tx_a, .int m_sg, .int m_fa, .ref m_ia_a, .ref m_im_a, .ref m_ik_a])), (m_ds_a, .inl (cI, 14, .inl m_ds)), (m_cs_a, .inl (cI, 14, .inl m_cs)), (m_tx_a, .inl (cI, 20, .inl m_tx)), (m_ia_a, .inl (cZ, 16384, .inl m_ia)), (m_im_a, .inl (cI, 60, .inl m_im)), (m_ik_a, .inl (cZ, 2, .inl m_ik))]) [0, 1, 2, 3, 4, 5, 6] rfl, va_K.moved hW.alike hK, hN.warm hW⟩⟩ rfl rfl hl.1 rfl (lv_room (Nat.le_of_ble_eq_true rfl)) dX5_knownOn_13 ⟨Nat.le_of_ble_eq_true rfl, Nat.le_of_ble_eq_true rfl⟩)) (fun r hr => ?_)
        subst hr
        refine lv_istore_n (lv' := [(3, .int q13), (4, .int v4_5), (0, .ref m_a), (1, .int p1), (2, .int p2)]) hx hb dX5_knownOn_16 rfl hl (by decide) rfl (fun ls hl => ?_)
        refine lv_iinc (v := (v4_5 + 1)) (lv' := [(4, .int (v4_5 + 1)), (3, .int q13), (0, .ref m_a), (1, .int p1), (2, .int p2)]) hx hb dX5_knownOn_17 hl (k := 1) rfl (by rfl) (by decide) rfl (fun ls hl => ?_)
        refine lv_goto (tgt := 5) hx hb dX5_knownOn_20 (by decide) ?_
        exact ih5 (v4_5 + 1) q13 _ hM (lv_sub hl [0, 1, 2, 3, 4] rfl)
  exact hL5 40 0 p1 _ hM (lv_sub hl [0, 1, 2, 3, 4] rfl)
/-! X5_grounds -/
abbrev rm_X5_grounds : Room := { frames := 2, cells := 0, slots := 0, locals := 47 }
set_option maxHeartbeats 4000000 in
set_option maxRecDepth 100000 in
theorem c_X5_grounds (l : Launch) (dC : Nat → ClassId) (dI : Nat → Nat → Nat) (cI cZ cJ cW : ClassId) (m_a m_ds_a m_cs_a m_tx_a m_ia_a m_im_a m_ik_a : Nat) (m_sz : Int32) (m_kn : Int32) (m_sg : Int32) (m_fa : Int32) (m_ds : Nat → Int32) (m_cs : Nat → Int32) (m_tx : Nat → Int32) (m_ia : Nat → Int32) (m_im : Nat → Int32) (m_ik : Nat → Int32) (p1 : Int32) (R : Int32) (hM : M_X5_grounds p1 m_sz m_ds = some R) : Met l yX5_grounds wsX5_grounds rm_X5_grounds (va_Pc [.ref m_a, .int p1] (RP (dC, dI) cI cZ cJ cW [(m_a, .inr (5, [.int m_sz, .ref m_ds_a, .ref m_cs_a, .int m_kn, .ref m_tx_a, .int m_sg, .int m_fa, .ref m_ia_a, .ref m_im_a, .ref m_ik_a])), (m_ds_a, .inl (cI, 14, .inl m_ds)), (m_cs_a, .inl (cI, 14, .inl m_cs)), (m_tx_a, .inl (cI, 20, .inl m_tx)), (m_ia_a, .inl (cZ, 16384, .inl m_ia)), (m_im_a, .inl (cI, 60, .inl m_im)), (m_ik_a, .inl (cZ, 2, .inl m_ik))])) (vp_Si (fun r => R = r)) 0 0 (fun _ => False) := by
  refine Met.ofW (cc := cX5_grounds) (maxL := 2) (ret := (some .int)) (by decide) rfl ?_
  intro p e s m args below meth c s₁ B hml hv
  obtain ⟨rfl, hP, hK, hN⟩ := hv
  have hx := B.exec
  have hb := B.bytes
  have hr := B.returns
  have hts := atoms_spec (ws := wsX5_grounds) B.pre
  have hown : s.vm.findClass RX5 = some m.cls := findClass_of_methodNamed B.named
  have hlocks := B.notSynchronized
  have hl := lv_entry ([.ref m_a, .int p1]) (n := 2) (Nat.le_of_ble_eq_true rfl)
  rw [lg_entry_eq]
  generalize (lg_sl ([.ref m_a, .int p1]) ++ List.replicate (2 - (lg_sl ([.ref m_a, .int p1])).length) Slot.unset).toArray = ls at hl ⊢
  have hl : lv_has ls 2 [(0, .ref m_a), (1, .int p1)] := hl
  have hM : ((M_X5_isSet p1 m_sz).bind (fun q2 => if q2 = 0 then (some (-2)) else ((M_X5_knownOn p1 14 m_sz m_ds).bind (fun q12 => some q12)))) = some R := hM
  refine lv_aload_n hx hb dX5_grounds_0 rfl (lv_at hl 0 rfl) ?_
  refine lv_iload_n hx hb dX5_grounds_1 rfl (lv_at hl 1 rfl) ?_
  obtain ⟨q2, hv2, hM⟩ := ob_bind hM
  refine vp_callSi (va_Run.run (va_runV (As := [.int p1]) (rest := []) ⟨hx, hb, hml, hown, hts⟩ (c_X5_isSet l dC dI cI cZ cJ cW m_a m_ds_a m_cs_a m_tx_a m_ia_a m_im_a m_ik_a m_sz m_kn m_sg m_fa m_ds m_cs m_tx m_ia m_im m_ik p1 q2 hv2) (cwV 1 hts gX5_grounds_X5_isSet rfl rfl rfl (by decide +kernel) ⟨Nat.le_of_ble_eq_true rfl, Nat.le_of_ble_eq_true rfl⟩) ⟨RP.blind, va_recv hK hP (ci := 5) (q0 := 0) rfl rfl, fun U hU hW => ⟨rfl, by rw [hU]; exact hP.sub (ws' := [(m_a, .inr (5, [.int m_sz, .ref m_ds_a, .ref m_cs_a, .int m_kn, .ref m_tx_a, .int m_sg, .int m_fa, .ref m_ia_a, .ref m_im_a, .ref m_ik_a])), (m_ds_a, .inl (cI, 14, .inl m_ds)), (m_cs_a, .inl (cI, 14, .inl m_cs)), (m_tx_a, .inl (cI, 20, .inl m_tx)), (m_ia_a, .inl (cZ, 16384, .inl m_ia)), (m_im_a, .inl (cI, 60, .inl m_im)), (m_ik_a, .inl (cZ, 2, .inl m_ik))]) [0, 1, 2, 3, 4, 5, 6] rfl, va_K.moved hW.alike hK, hN.warm hW⟩⟩ rfl rfl hl.1 rfl (lv_room (Nat.le_of_ble_eq_true rfl)) dX5_grounds_2 ⟨Nat.le_of_ble_eq_true rfl, Nat.le_of_ble_eq_true rfl⟩)) (fun r hr => ?_)
  subst hr
  refine lv_if_eq (tgt := 18) hx hb dX5_grounds_5 (by decide) (fun c_5 => ?_) (fun c_5 => ?_)
  · replace hM := ob_pos c_5 hM
    refine lv_bipush (v := (-2)) hx hb dX5_grounds_18 (by decide) ?_
    exact W.iret (v := (-2)) hx hb hr (fun t ht hW => ⟨_, rfl, (Option.some.inj hM).symm, ht⟩) (fun _ h => by cases h) dX5_grounds_20
  · replace hM := ob_neg c_5 hM
    refine lv_aload_n hx hb dX5_grounds_8 rfl (lv_at hl 0 rfl) ?_
    refine lv_iload_n hx hb dX5_grounds_9 rfl (lv_at hl 1 rfl) ?_
    refine lv_bipush (v := 14) hx hb dX5_grounds_10 (by decide) ?_
    obtain ⟨q12, hv12, hM⟩ := ob_bind hM
    refine vp_callSi (va_Run.run (va_runV (As := [.int p1, .int 14]) (rest := []) ⟨hx, hb, hml, hown, hts⟩ (c_X5_knownOn l dC dI cI cZ cJ cW m_a m_ds_a m_cs_a m_tx_a m_ia_a m_im_a m_ik_a m_sz m_kn m_sg m_fa m_ds m_cs m_tx m_ia m_im m_ik p1 14 q12 hv12) (cwV 2 hts gX5_grounds_X5_knownOn rfl rfl rfl (by decide +kernel) ⟨Nat.le_of_ble_eq_true rfl, Nat.le_of_ble_eq_true rfl⟩) ⟨RP.blind, va_recv hK hP (ci := 5) (q0 := 0) rfl rfl, fun U hU hW => ⟨rfl, by rw [hU]; exact hP.sub (ws' := [(m_a, .inr (5, [.int m_sz, .ref m_ds_a, .ref m_cs_a, .int m_kn, .ref m_tx_a, .int m_sg, .int m_fa, .ref m_ia_a, .ref m_im_a, .ref m_ik_a])), (m_ds_a, .inl (cI, 14, .inl m_ds)), (m_cs_a, .inl (cI, 14, .inl m_cs)), (m_tx_a, .inl (cI, 20, .inl m_tx)), (m_ia_a, .inl (cZ, 16384, .inl m_ia)), (m_im_a, .inl (cI, 60, .inl m_im)), (m_ik_a, .inl (cZ, 2, .inl m_ik))]) [0, 1, 2, 3, 4, 5, 6] rfl, va_K.moved hW.alike hK, hN.warm hW⟩⟩ rfl rfl hl.1 rfl (lv_room (Nat.le_of_ble_eq_true rfl)) dX5_grounds_12 ⟨Nat.le_of_ble_eq_true rfl, Nat.le_of_ble_eq_true rfl⟩)) (fun r hr => ?_)
    subst hr
    refine lv_goto (tgt := 20) hx hb dX5_grounds_15 (by decide) ?_
    exact W.iret (v := q12) hx hb hr (fun t ht hW => ⟨_, rfl, (Option.some.inj hM).symm, ht⟩) (fun _ h => by cases h) dX5_grounds_20
/-! X5_day -/
abbrev rm_X5_day : Room := { frames := 2, cells := 0, slots := 0, locals := 47 }
set_option maxHeartbeats 4000000 in
set_option maxRecDepth 100000 in
theorem c_X5_day (l : Launch) (dC : Nat → ClassId) (dI : Nat → Nat → Nat) (cI cZ cJ cW : ClassId) (m_a m_ds_a m_cs_a m_tx_a m_ia_a m_im_a m_ik_a : Nat) (m_sz : Int32) (m_kn : Int32) (m_sg : Int32) (m_fa : Int32) (m_ds : Nat → Int32) (m_cs : Nat → Int32) (m_tx : Nat → Int32) (m_ia : Nat → Int32) (m_im : Nat → Int32) (m_ik : Nat → Int32) (p1 : Int32) (p2 : Int32) (R : Int32) (hM : M_X5_day p1 p2 m_sz m_ds = some R) : Met l yX5_day wsX5_day rm_X5_day (va_Pc [.ref m_a, .int p1, .int p2] (RP (dC, dI) cI cZ cJ cW [(m_a, .inr (5, [.int m_sz, .ref m_ds_a, .ref m_cs_a, .int m_kn, .ref m_tx_a, .int m_sg, .int m_fa, .ref m_ia_a, .ref m_im_a, .ref m_ik_a])), (m_ds_a, .inl (cI, 14, .inl m_ds)), (m_cs_a, .inl (cI, 14, .inl m_cs)), (m_tx_a, .inl (cI, 20, .inl m_tx)), (m_ia_a, .inl (cZ, 16384, .inl m_ia)), (m_im_a, .inl (cI, 60, .inl m_im)), (m_ik_a, .inl (cZ, 2, .inl m_ik))])) (vp_Si (fun r => R = r)) 0 0 (fun _ => False) := by
  refine Met.ofW (cc := cX5_day) (maxL := 5) (ret := (some .int)) (by decide) rfl ?_
  intro p e s m args below meth c s₁ B hml hv
  obtain ⟨rfl, hP, hK, hN⟩ := hv
  have hx := B.exec
  have hb := B.bytes
  have hr := B.returns
  have hts := atoms_spec (ws := wsX5_day) B.pre
  have hown : s.vm.findClass RX5 = some m.cls := findClass_of_methodNamed B.named
  have hlocks := B.notSynchronized
  have hl := lv_entry ([.ref m_a, .int p1, .int p2]) (n := 5) (Nat.le_of_ble_eq_true rfl)
  rw [lg_entry_eq]
  generalize (lg_sl ([.ref m_a, .int p1, .int p2]) ++ List.replicate (5 - (lg_sl ([.ref m_a, .int p1, .int p2])).length) Slot.unset).toArray = ls at hl ⊢
  have hl : lv_has ls 5 [(0, .ref m_a), (1, .int p1), (2, .int p2)] := hl
  have hM : ((M_X5_isWord p1 m_sz).bind (fun q2 => if q2 = 0 then (some (-1)) else ((M_X5_isSet p2 m_sz).bind (fun q12 => if q12 = 0 then (some (-2)) else (L_X5_day_28 p1 p2 m_sz m_ds (fun (v4_28 : Int32) (v3_28 : Int32) => some v3_28) 40 14 (-6)))))) = some R := hM
  refine lv_aload_n hx hb dX5_day_0 rfl (lv_at hl 0 rfl) ?_
  refine lv_iload_n hx hb dX5_day_1 rfl (lv_at hl 1 rfl) ?_
  obtain ⟨q2, hv2, hM⟩ := ob_bind hM
  refine vp_callSi (va_Run.run (va_runV (As := [.int p1]) (rest := []) ⟨hx, hb, hml, hown, hts⟩ (c_X5_isWord l dC dI cI cZ cJ cW m_a m_ds_a m_cs_a m_tx_a m_ia_a m_im_a m_ik_a m_sz m_kn m_sg m_fa m_ds m_cs m_tx m_ia m_im m_ik p1 q2 hv2) (cwV 1 hts gX5_day_X5_isWord rfl rfl rfl (by decide +kernel) ⟨Nat.le_of_ble_eq_true rfl, Nat.le_of_ble_eq_true rfl⟩) ⟨RP.blind, va_recv hK hP (ci := 5) (q0 := 0) rfl rfl, fun U hU hW => ⟨rfl, by rw [hU]; exact hP.sub (ws' := [(m_a, .inr (5, [.int m_sz, .ref m_ds_a, .ref m_cs_a, .int m_kn, .ref m_tx_a, .int m_sg, .int m_fa, .ref m_ia_a, .ref m_im_a, .ref m_ik_a])), (m_ds_a, .inl (cI, 14, .inl m_ds)), (m_cs_a, .inl (cI, 14, .inl m_cs)), (m_tx_a, .inl (cI, 20, .inl m_tx)), (m_ia_a, .inl (cZ, 16384, .inl m_ia)), (m_im_a, .inl (cI, 60, .inl m_im)), (m_ik_a, .inl (cZ, 2, .inl m_ik))]) [0, 1, 2, 3, 4, 5, 6] rfl, va_K.moved hW.alike hK, hN.warm hW⟩⟩ rfl rfl hl.1 rfl (lv_room (Nat.le_of_ble_eq_true rfl)) dX5_day_2 ⟨Nat.le_of_ble_eq_true rfl, Nat.le_of_ble_eq_true rfl⟩)) (fun r hr => ?_)
  subst hr
  refine lv_if_ne (tgt := 10) hx hb dX5_day_5 (by decide) (fun c_5 => ?_) (fun c_5 => ?_)
  · replace hM := ob_neg c_5 hM
    refine lv_aload_n hx hb dX5_day_10 rfl (lv_at hl 0 rfl) ?_
    refine lv_iload_n hx hb dX5_day_11 rfl (lv_at hl 2 rfl) ?_
    obtain ⟨q12, hv12, hM⟩ := ob_bind hM
    refine vp_callSi (va_Run.run (va_runV (As := [.int p2]) (rest := []) ⟨hx, hb, hml, hown, hts⟩ (c_X5_isSet l dC dI cI cZ cJ cW m_a m_ds_a m_cs_a m_tx_a m_ia_a m_im_a m_ik_a m_sz m_kn m_sg m_fa m_ds m_cs m_tx m_ia m_im m_ik p2 q12 hv12) (cwV 1 hts gX5_day_X5_isSet rfl rfl rfl (by decide +kernel) ⟨Nat.le_of_ble_eq_true rfl, Nat.le_of_ble_eq_true rfl⟩) ⟨RP.blind, va_recv hK hP (ci := 5) (q0 := 0) rfl rfl, fun U hU hW => ⟨rfl, by rw [hU]; exact hP.sub (ws' := [(m_a, .inr (5, [.int m_sz, .ref m_ds_a, .ref m_cs_a, .int m_kn, .ref m_tx_a, .int m_sg, .int m_fa, .ref m_ia_a, .ref m_im_a, .ref m_ik_a])), (m_ds_a, .inl (cI, 14, .inl m_ds)), (m_cs_a, .inl (cI, 14, .inl m_cs)), (m_tx_a, .inl (cI, 20, .inl m_tx)), (m_ia_a, .inl (cZ, 16384, .inl m_ia)), (m_im_a, .inl (cI, 60, .inl m_im)), (m_ik_a, .inl (cZ, 2, .inl m_ik))]) [0, 1, 2, 3, 4, 5, 6] rfl, va_K.moved hW.alike hK, hN.warm hW⟩⟩ rfl rfl hl.1 rfl (lv_room (Nat.le_of_ble_eq_true rfl)) dX5_day_12 ⟨Nat.le_of_ble_eq_true rfl, Nat.le_of_ble_eq_true rfl⟩)) (fun r hr => ?_)
    subst hr
    refine lv_if_ne (tgt := 21) hx hb dX5_day_15 (by decide) (fun c_15 => ?_) (fun c_15 => ?_)
    · replace hM := ob_neg c_15 hM
      refine lv_bipush (v := (-6)) hx hb dX5_day_21 (by decide) ?_
      refine lv_istore_n (lv' := [(3, .int (-6)), (0, .ref m_a), (1, .int p1), (2, .int p2)]) hx hb dX5_day_23 rfl hl (by decide) rfl (fun ls hl => ?_)
      refine lv_bipush (v := 14) hx hb dX5_day_24 (by decide) ?_
      refine lv_istore (lv' := [(4, .int 14), (3, .int (-6)), (0, .ref m_a), (1, .int p1), (2, .int p2)]) hx hb dX5_day_26 hl (by decide) rfl (fun ls hl => ?_)
      obtain ⟨K28, hK28⟩ : ∃ K : Int32 → Int32 → Option (Int32), K = (fun (v4_28 : Int32) (v3_28 : Int32) => some v3_28) := ⟨_, rfl⟩
      have hM : L_X5_day_28 p1 p2 m_sz m_ds K28 40 14 (-6) = some R := by rw [hK28]; exact hM
      have hL28 : ∀ (k28 : Nat) (v4_28 : Int32) (v3_28 : Int32) (ls : Array Slot), L_X5_day_28 p1 p2 m_sz m_ds K28 k28 v4_28 v3_28 = some R → lv_has ls 5 [(4, .int v4_28), (3, .int v3_28), (0, .ref m_a), (1, .int p1), (2, .int p2)] → W p l e rm_X5_day s m ([.ref m_a, .int p1, .int p2] : List Value).toArray below meth c s.heap [] 0 0 (MQ below (vp_Si (fun r => R = r)) ([.ref m_a, .int p1, .int p2] : List Value).toArray s 0 0 (fun _ => False)) (F0 m 28 ls []) := by
        intro k28
        induction k28 with
        | zero => intro v4_28 v3_28 ls hM; exact (ob_none hM).elim
        | succ k28 ih28 =>
          intro v4_28 v3_28 ls hM hl
          have hM : (if v4_28 < 0 then (K28 v4_28 v3_28) else ((M_X5_knownOn p2 v4_28 m_sz m_ds).bind (fun q37 => (M_X5_has q37 p1).bind (fun q41 => if q41 = 0 then (L_X5_day_28 p1 p2 m_sz m_ds K28 k28 (v4_28 + (-1)) v3_28) else (L_X5_day_28 p1 p2 m_sz m_ds K28 k28 (v4_28 + (-1)) v4_28))))) = some R := hM
          refine lv_iload hx hb dX5_day_28 (lv_at hl 0 rfl) ?_
          refine lv_if_lt (tgt := 60) hx hb dX5_day_30 (by decide) (fun c_30 => ?_) (fun c_30 => ?_)
          · replace hM := ob_pos c_30 hM
            have hM : (some v3_28) = some R := by rw [hK28] at hM; exact hM
            refine lv_iload_n hx hb dX5_day_60 rfl (lv_at hl 1 rfl) ?_
            exact W.iret (v := v3_28) hx hb hr (fun t ht hW => ⟨_, rfl, (Option.some.inj hM).symm, ht⟩) (fun _ h => by cases h) dX5_day_61
          · replace hM := ob_neg c_30 hM
            refine lv_aload_n hx hb dX5_day_33 rfl (lv_at hl 2 rfl) ?_
            refine lv_iload_n hx hb dX5_day_34 rfl (lv_at hl 4 rfl) ?_
            refine lv_iload hx hb dX5_day_35 (lv_at hl 0 rfl) ?_
            obtain ⟨q37, hv37, hM⟩ := ob_bind hM
            refine vp_callSi (va_Run.run (va_runV (As := [.int p2, .int v4_28]) (rest := []) ⟨hx, hb, hml, hown, hts⟩ (c_X5_knownOn l dC dI cI cZ cJ cW m_a m_ds_a m_cs_a m_tx_a m_ia_a m_im_a m_ik_a m_sz m_kn m_sg m_fa m_ds m_cs m_tx m_ia m_im m_ik p2 v4_28 q37 hv37) (cwV 2 hts gX5_day_X5_knownOn rfl rfl rfl (by decide +kernel) ⟨Nat.le_of_ble_eq_true rfl, Nat.le_of_ble_eq_true rfl⟩) ⟨RP.blind, va_recv hK hP (ci := 5) (q0 := 0) rfl rfl, fun U hU hW => ⟨rfl, by rw [hU]; exact hP.sub (ws' := [(m_a, .inr (5, [.int m_sz, .ref m_ds_a, .ref m_cs_a, .int m_kn, .ref m_tx_a, .int m_sg, .int m_fa, .ref m_ia_a, .ref m_im_a, .ref m_ik_a])), (m_ds_a, .inl (cI, 14, .inl m_ds)), (m_cs_a, .inl (cI, 14, .inl m_cs)), (m_tx_a, .inl (cI, 20, .inl m_tx)), (m_ia_a, .inl (cZ, 16384, .inl m_ia)), (m_im_a, .inl (cI, 60, .inl m_im)), (m_ik_a, .inl (cZ, 2, .inl m_ik))]) [0, 1, 2, 3, 4, 5, 6] rfl, va_K.moved hW.alike hK, hN.warm hW⟩⟩ rfl rfl hl.1 rfl (lv_room (Nat.le_of_ble_eq_true rfl)) dX5_day_37 ⟨Nat.le_of_ble_eq_true rfl, Nat.le_of_ble_eq_true rfl⟩)) (fun r hr => ?_)
            subst hr
            refine lv_iload_n hx hb dX5_day_40 rfl (lv_at hl 3 rfl) ?_
            obtain ⟨q41, hv41, hM⟩ := ob_bind hM
            refine vp_callSi (va_Run.run (va_runS (As := [.int q37, .int p1]) (rest := []) ⟨hx, hb, hml, hown, hts⟩ (c_X5_has l dC dI cI cZ cJ cW q37 p1 q41 hv41) (va_cwS 2 hts gX5_day_X5_has rfl rfl rfl (by decide +kernel) ⟨Nat.le_of_ble_eq_true rfl, Nat.le_of_ble_eq_true rfl⟩) ⟨TP.blind, fun U hU hW => ⟨rfl, trivial⟩⟩ rfl rfl hl.1 rfl (lv_room (Nat.le_of_ble_eq_true rfl)) dX5_day_41 ⟨Nat.le_of_ble_eq_true rfl, Nat.le_of_ble_eq_true rfl⟩)) (fun r hr => ?_)
            subst hr
            refine lv_if_eq (tgt := 52) hx hb dX5_day_44 (by decide) (fun c_44 => ?_) (fun c_44 => ?_)
            · replace hM := ob_pos c_44 hM
              refine lv_iload_n hx hb dX5_day_52 rfl (lv_at hl 1 rfl) ?_
              refine lv_istore_n (lv' := [(3, .int v3_28), (4, .int v4_28), (0, .ref m_a), (1, .int p1), (2, .int p2)]) hx hb dX5_day_53 rfl hl (by decide) rfl (fun ls hl => ?_)
              refine lv_iinc (v := (v4_28 + (-1))) (lv' := [(4, .int (v4_28 + (-1))), (3, .int v3_28), (0, .ref m_a), (1, .int p1), (2, .int p2)]) hx hb dX5_day_54 hl (k := 1) rfl (by rfl) (by decide) rfl (fun ls hl => ?_)
              refine lv_goto (tgt := 28) hx hb dX5_day_57 (by decide) ?_
              exact ih28 (v4_28 + (-1)) v3_28 _ hM (lv_sub hl [0, 1, 2, 3, 4] rfl)
            · replace hM := ob_neg c_44 hM
              refine lv_iload hx hb dX5_day_47 (lv_at hl 0 rfl) ?_
              refine lv_goto (tgt := 53) hx hb dX5_day_49 (by decide) ?_
              refine lv_istore_n (lv' := [(3, .int v4_28), (4, .int v4_28), (0, .ref m_a), (1, .int p1), (2, .int p2)]) hx hb dX5_day_53 rfl hl (by decide) rfl (fun ls hl => ?_)
              refine lv_iinc (v := (v4_28 + (-1))) (lv' := [(4, .int (v4_28 + (-1))), (3, .int v4_28), (0, .ref m_a), (1, .int p1), (2, .int p2)]) hx hb dX5_day_54 hl (k := 1) rfl (by rfl) (by decide) rfl (fun ls hl => ?_)
              refine lv_goto (tgt := 28) hx hb dX5_day_57 (by decide) ?_
              exact ih28 (v4_28 + (-1)) v4_28 _ hM (lv_sub hl [0, 1, 2, 3, 4] rfl)
      exact hL28 40 14 (-6) _ hM (lv_sub hl [0, 1, 2, 3, 4] rfl)
    · replace hM := ob_pos c_15 hM
      refine lv_bipush (v := (-2)) hx hb dX5_day_18 (by decide) ?_
      exact W.iret (v := (-2)) hx hb hr (fun t ht hW => ⟨_, rfl, (Option.some.inj hM).symm, ht⟩) (fun _ h => by cases h) dX5_day_20
  · replace hM := ob_pos c_5 hM
    refine lv_iconst (v := (-1)) hx hb dX5_day_8 (by decide) ?_
    exact W.iret (v := (-1)) hx hb hr (fun t ht hW => ⟨_, rfl, (Option.some.inj hM).symm, ht⟩) (fun _ h => by cases h) dX5_day_9
/-! X5_learned -/
abbrev rm_X5_learned : Room := { frames := 2, cells := 0, slots := 0, locals := 47 }
set_option maxHeartbeats 4000000 in
set_option maxRecDepth 100000 in
theorem c_X5_learned (l : Launch) (dC : Nat → ClassId) (dI : Nat → Nat → Nat) (cI cZ cJ cW : ClassId) (m_a m_ds_a m_cs_a m_tx_a m_ia_a m_im_a m_ik_a : Nat) (m_sz : Int32) (m_kn : Int32) (m_sg : Int32) (m_fa : Int32) (m_ds : Nat → Int32) (m_cs : Nat → Int32) (m_tx : Nat → Int32) (m_ia : Nat → Int32) (m_im : Nat → Int32) (m_ik : Nat → Int32) (p1 : Int32) (p2 : Int32) (R : Int32) (hM : M_X5_learned p1 p2 m_sz m_ds = some R) : Met l yX5_learned wsX5_learned rm_X5_learned (va_Pc [.ref m_a, .int p1, .int p2] (RP (dC, dI) cI cZ cJ cW [(m_a, .inr (5, [.int m_sz, .ref m_ds_a, .ref m_cs_a, .int m_kn, .ref m_tx_a, .int m_sg, .int m_fa, .ref m_ia_a, .ref m_im_a, .ref m_ik_a])), (m_ds_a, .inl (cI, 14, .inl m_ds)), (m_cs_a, .inl (cI, 14, .inl m_cs)), (m_tx_a, .inl (cI, 20, .inl m_tx)), (m_ia_a, .inl (cZ, 16384, .inl m_ia)), (m_im_a, .inl (cI, 60, .inl m_im)), (m_ik_a, .inl (cZ, 2, .inl m_ik))])) (vp_Si (fun r => R = r)) 0 0 (fun _ => False) := by
  refine Met.ofW (cc := cX5_learned) (maxL := 3) (ret := (some .int)) (by decide) rfl ?_
  intro p e s m args below meth c s₁ B hml hv
  obtain ⟨rfl, hP, hK, hN⟩ := hv
  have hx := B.exec
  have hb := B.bytes
  have hr := B.returns
  have hts := atoms_spec (ws := wsX5_learned) B.pre
  have hown : s.vm.findClass RX5 = some m.cls := findClass_of_methodNamed B.named
  have hlocks := B.notSynchronized
  have hl := lv_entry ([.ref m_a, .int p1, .int p2]) (n := 3) (Nat.le_of_ble_eq_true rfl)
  rw [lg_entry_eq]
  generalize (lg_sl ([.ref m_a, .int p1, .int p2]) ++ List.replicate (3 - (lg_sl ([.ref m_a, .int p1, .int p2])).length) Slot.unset).toArray = ls at hl ⊢
  have hl : lv_has ls 3 [(0, .ref m_a), (1, .int p1), (2, .int p2)] := hl
  have hM : ((M_X5_isSet p1 m_sz).bind (fun q2 => if q2 = 0 then (some (-2)) else ((M_X5_in p2 1 14).bind (fun q12 => if q12 = 0 then (some (-2)) else ((M_X5_knownOn p1 p2 m_sz m_ds).bind (fun q24 => (M_X5_knownOn p1 (p2 - 1) m_sz m_ds).bind (fun q32 => some (q24 &&& (q32 ^^^ (-1)))))))))) = some R := hM
  refine lv_aload_n hx hb dX5_learned_0 rfl (lv_at hl 0 rfl) ?_
  refine lv_iload_n hx hb dX5_learned_1 rfl (lv_at hl 1 rfl) ?_
  obtain ⟨q2, hv2, hM⟩ := ob_bind hM
  refine vp_callSi (va_Run.run (va_runV (As := [.int p1]) (rest := []) ⟨hx, hb, hml, hown, hts⟩ (c_X5_isSet l dC dI cI cZ cJ cW m_a m_ds_a m_cs_a m_tx_a m_ia_a m_im_a m_ik_a m_sz m_kn m_sg m_fa m_ds m_cs m_tx m_ia m_im m_ik p1 q2 hv2) (cwV 1 hts gX5_learned_X5_isSet rfl rfl rfl (by decide +kernel) ⟨Nat.le_of_ble_eq_true rfl, Nat.le_of_ble_eq_true rfl⟩) ⟨RP.blind, va_recv hK hP (ci := 5) (q0 := 0) rfl rfl, fun U hU hW => ⟨rfl, by rw [hU]; exact hP.sub (ws' := [(m_a, .inr (5, [.int m_sz, .ref m_ds_a, .ref m_cs_a, .int m_kn, .ref m_tx_a, .int m_sg, .int m_fa, .ref m_ia_a, .ref m_im_a, .ref m_ik_a])), (m_ds_a, .inl (cI, 14, .inl m_ds)), (m_cs_a, .inl (cI, 14, .inl m_cs)), (m_tx_a, .inl (cI, 20, .inl m_tx)), (m_ia_a, .inl (cZ, 16384, .inl m_ia)), (m_im_a, .inl (cI, 60, .inl m_im)), (m_ik_a, .inl (cZ, 2, .inl m_ik))]) [0, 1, 2, 3, 4, 5, 6] rfl, va_K.moved hW.alike hK, hN.warm hW⟩⟩ rfl rfl hl.1 rfl (lv_room (Nat.le_of_ble_eq_true rfl)) dX5_learned_2 ⟨Nat.le_of_ble_eq_true rfl, Nat.le_of_ble_eq_true rfl⟩)) (fun r hr => ?_)
  subst hr
  refine lv_if_eq (tgt := 18) hx hb dX5_learned_5 (by decide) (fun c_5 => ?_) (fun c_5 => ?_)
  · replace hM := ob_pos c_5 hM
    refine lv_bipush (v := (-2)) hx hb dX5_learned_18 (by decide) ?_
    exact W.iret (v := (-2)) hx hb hr (fun t ht hW => ⟨_, rfl, (Option.some.inj hM).symm, ht⟩) (fun _ h => by cases h) dX5_learned_20
  · replace hM := ob_neg c_5 hM
    refine lv_iload_n hx hb dX5_learned_8 rfl (lv_at hl 2 rfl) ?_
    refine lv_iconst (v := 1) hx hb dX5_learned_9 (by decide) ?_
    refine lv_bipush (v := 14) hx hb dX5_learned_10 (by decide) ?_
    obtain ⟨q12, hv12, hM⟩ := ob_bind hM
    refine vp_callSi (va_Run.run (va_runS (As := [.int p2, .int 1, .int 14]) (rest := []) ⟨hx, hb, hml, hown, hts⟩ (c_X5_in l dC dI cI cZ cJ cW p2 1 14 q12 hv12) (va_cwS 3 hts gX5_learned_X5_in rfl rfl rfl (by decide +kernel) ⟨Nat.le_of_ble_eq_true rfl, Nat.le_of_ble_eq_true rfl⟩) ⟨TP.blind, fun U hU hW => ⟨rfl, trivial⟩⟩ rfl rfl hl.1 rfl (lv_room (Nat.le_of_ble_eq_true rfl)) dX5_learned_12 ⟨Nat.le_of_ble_eq_true rfl, Nat.le_of_ble_eq_true rfl⟩)) (fun r hr => ?_)
    subst hr
    refine lv_if_ne (tgt := 21) hx hb dX5_learned_15 (by decide) (fun c_15 => ?_) (fun c_15 => ?_)
    · replace hM := ob_neg c_15 hM
      refine lv_aload_n hx hb dX5_learned_21 rfl (lv_at hl 0 rfl) ?_
      refine lv_iload_n hx hb dX5_learned_22 rfl (lv_at hl 1 rfl) ?_
      refine lv_iload_n hx hb dX5_learned_23 rfl (lv_at hl 2 rfl) ?_
      obtain ⟨q24, hv24, hM⟩ := ob_bind hM
      refine vp_callSi (va_Run.run (va_runV (As := [.int p1, .int p2]) (rest := []) ⟨hx, hb, hml, hown, hts⟩ (c_X5_knownOn l dC dI cI cZ cJ cW m_a m_ds_a m_cs_a m_tx_a m_ia_a m_im_a m_ik_a m_sz m_kn m_sg m_fa m_ds m_cs m_tx m_ia m_im m_ik p1 p2 q24 hv24) (cwV 2 hts gX5_learned_X5_knownOn rfl rfl rfl (by decide +kernel) ⟨Nat.le_of_ble_eq_true rfl, Nat.le_of_ble_eq_true rfl⟩) ⟨RP.blind, va_recv hK hP (ci := 5) (q0 := 0) rfl rfl, fun U hU hW => ⟨rfl, by rw [hU]; exact hP.sub (ws' := [(m_a, .inr (5, [.int m_sz, .ref m_ds_a, .ref m_cs_a, .int m_kn, .ref m_tx_a, .int m_sg, .int m_fa, .ref m_ia_a, .ref m_im_a, .ref m_ik_a])), (m_ds_a, .inl (cI, 14, .inl m_ds)), (m_cs_a, .inl (cI, 14, .inl m_cs)), (m_tx_a, .inl (cI, 20, .inl m_tx)), (m_ia_a, .inl (cZ, 16384, .inl m_ia)), (m_im_a, .inl (cI, 60, .inl m_im)), (m_ik_a, .inl (cZ, 2, .inl m_ik))]) [0, 1, 2, 3, 4, 5, 6] rfl, va_K.moved hW.alike hK, hN.warm hW⟩⟩ rfl rfl hl.1 rfl (lv_room (Nat.le_of_ble_eq_true rfl)) dX5_learned_24 ⟨Nat.le_of_ble_eq_true rfl, Nat.le_of_ble_eq_true rfl⟩)) (fun r hr => ?_)
      subst hr
      refine lv_aload_n hx hb dX5_learned_27 rfl (lv_at hl 0 rfl) ?_
      refine lv_iload_n hx hb dX5_learned_28 rfl (lv_at hl 1 rfl) ?_
      refine lv_iload_n hx hb dX5_learned_29 rfl (lv_at hl 2 rfl) ?_
      refine lv_iconst (v := 1) hx hb dX5_learned_30 (by decide) ?_
      refine lv_isub hx hb dX5_learned_31 ?_
      obtain ⟨q32, hv32, hM⟩ := ob_bind hM
      refine vp_callSi (va_Run.run (va_runV (As := [.int p1, .int (p2 - 1)]) (rest := [.int q24]) ⟨hx, hb, hml, hown, hts⟩ (c_X5_knownOn l dC dI cI cZ cJ cW m_a m_ds_a m_cs_a m_tx_a m_ia_a m_im_a m_ik_a m_sz m_kn m_sg m_fa m_ds m_cs m_tx m_ia m_im m_ik p1 (p2 - 1) q32 hv32) (cwV 2 hts gX5_learned_X5_knownOn rfl rfl rfl (by decide +kernel) ⟨Nat.le_of_ble_eq_true rfl, Nat.le_of_ble_eq_true rfl⟩) ⟨RP.blind, va_recv hK hP (ci := 5) (q0 := 0) rfl rfl, fun U hU hW => ⟨rfl, by rw [hU]; exact hP.sub (ws' := [(m_a, .inr (5, [.int m_sz, .ref m_ds_a, .ref m_cs_a, .int m_kn, .ref m_tx_a, .int m_sg, .int m_fa, .ref m_ia_a, .ref m_im_a, .ref m_ik_a])), (m_ds_a, .inl (cI, 14, .inl m_ds)), (m_cs_a, .inl (cI, 14, .inl m_cs)), (m_tx_a, .inl (cI, 20, .inl m_tx)), (m_ia_a, .inl (cZ, 16384, .inl m_ia)), (m_im_a, .inl (cI, 60, .inl m_im)), (m_ik_a, .inl (cZ, 2, .inl m_ik))]) [0, 1, 2, 3, 4, 5, 6] rfl, va_K.moved hW.alike hK, hN.warm hW⟩⟩ rfl rfl hl.1 rfl (lv_room (Nat.le_of_ble_eq_true rfl)) dX5_learned_32 ⟨Nat.le_of_ble_eq_true rfl, Nat.le_of_ble_eq_true rfl⟩)) (fun r hr => ?_)
      subst hr
      refine lv_iconst (v := (-1)) hx hb dX5_learned_35 (by decide) ?_
      refine lv_ixor hx hb dX5_learned_36 ?_
      refine lv_iand hx hb dX5_learned_37 ?_
      exact W.iret (v := (q24 &&& (q32 ^^^ (-1)))) hx hb hr (fun t ht hW => ⟨_, rfl, (Option.some.inj hM).symm, ht⟩) (fun _ h => by cases h) dX5_learned_38
    · replace hM := ob_pos c_15 hM
      refine lv_bipush (v := (-2)) hx hb dX5_learned_18 (by decide) ?_
      exact W.iret (v := (-2)) hx hb hr (fun t ht hW => ⟨_, rfl, (Option.some.inj hM).symm, ht⟩) (fun _ h => by cases h) dX5_learned_20
/-! X5_know -/
abbrev rm_X5_know : Room := { frames := 2, cells := 0, slots := 0, locals := 43 }
theorem in_X5_know_5 : ∀ w ∈ u_ws RX5 TX5 10, w ∈ wsX5_know := by decide +kernel
set_option maxHeartbeats 4000000 in
set_option maxRecDepth 100000 in
theorem c_X5_know (l : Launch) (dC : Nat → ClassId) (dI : Nat → Nat → Nat) (cI cZ cJ cW : ClassId) (sz : Nat) (m_a m_ds_a m_cs_a m_tx_a m_ia_a m_im_a m_ik_a : Nat) (m_sz : Int32) (m_kn : Int32) (m_sg : Int32) (m_fa : Int32) (m_ds : Nat → Int32) (m_cs : Nat → Int32) (m_tx : Nat → Int32) (m_ia : Nat → Int32) (m_im : Nat → Int32) (m_ik : Nat → Int32) (p1 : Int32) (R : Int32 × Int32) (hM : M_X5_know p1 m_sz m_kn = some R) : Met l yX5_know wsX5_know rm_X5_know (va_Pc [.ref m_a, .int p1] (MP (dC, dI) cI cZ cJ cW sz [(m_a, .inr (5, [.int m_sz, .ref m_ds_a, .ref m_cs_a, .int m_kn, .ref m_tx_a, .int m_sg, .int m_fa, .ref m_ia_a, .ref m_im_a, .ref m_ik_a])), (m_ds_a, .inl (cI, 14, .inl m_ds)), (m_cs_a, .inl (cI, 14, .inl m_cs)), (m_tx_a, .inl (cI, 20, .inl m_tx)), (m_ia_a, .inl (cZ, 16384, .inl m_ia)), (m_im_a, .inl (cI, 60, .inl m_im)), (m_ik_a, .inl (cZ, 2, .inl m_ik))])) (va_Qi (fun (r : Int32) (_ : Unit) => R.1 = r) (PB (dC, dI) (va_A [(m_a, .inr (5, [.int m_sz, .ref m_ds_a, .ref m_cs_a, .int m_kn, .ref m_tx_a, .int m_sg, .int m_fa, .ref m_ia_a, .ref m_im_a, .ref m_ik_a])), (m_ds_a, .inl (cI, 14, .inl m_ds)), (m_cs_a, .inl (cI, 14, .inl m_cs)), (m_tx_a, .inl (cI, 20, .inl m_tx)), (m_ia_a, .inl (cZ, 16384, .inl m_ia)), (m_im_a, .inl (cI, 60, .inl m_im)), (m_ik_a, .inl (cZ, 2, .inl m_ik))] sz) [(m_a, .inr (5, [.int m_sz, .ref m_ds_a, .ref m_cs_a, .int R.2, .ref m_tx_a, .int m_sg, .int m_fa, .ref m_ia_a, .ref m_im_a, .ref m_ik_a])), (m_ds_a, .inl (cI, 14, .inl m_ds)), (m_cs_a, .inl (cI, 14, .inl m_cs)), (m_tx_a, .inl (cI, 20, .inl m_tx)), (m_ia_a, .inl (cZ, 16384, .inl m_ia)), (m_im_a, .inl (cI, 60, .inl m_im)), (m_ik_a, .inl (cZ, 2, .inl m_ik))]) (va_A [(m_a, .inr (5, [.int m_sz, .ref m_ds_a, .ref m_cs_a, .int m_kn, .ref m_tx_a, .int m_sg, .int m_fa, .ref m_ia_a, .ref m_im_a, .ref m_ik_a])), (m_ds_a, .inl (cI, 14, .inl m_ds)), (m_cs_a, .inl (cI, 14, .inl m_cs)), (m_tx_a, .inl (cI, 20, .inl m_tx)), (m_ia_a, .inl (cZ, 16384, .inl m_ia)), (m_im_a, .inl (cI, 60, .inl m_im)), (m_ik_a, .inl (cZ, 2, .inl m_ik))] sz)) 0 0 (va_A [(m_a, .inr (5, [.int m_sz, .ref m_ds_a, .ref m_cs_a, .int m_kn, .ref m_tx_a, .int m_sg, .int m_fa, .ref m_ia_a, .ref m_im_a, .ref m_ik_a])), (m_ds_a, .inl (cI, 14, .inl m_ds)), (m_cs_a, .inl (cI, 14, .inl m_cs)), (m_tx_a, .inl (cI, 20, .inl m_tx)), (m_ia_a, .inl (cZ, 16384, .inl m_ia)), (m_im_a, .inl (cI, 60, .inl m_im)), (m_ik_a, .inl (cZ, 2, .inl m_ik))] sz) := by
  refine Met.ofW (cc := cX5_know) (maxL := 3) (ret := (some .int)) (by decide) rfl ?_
  intro p e s m args below meth c s₁ B hml hv
  obtain ⟨rfl, hsz, hP, hK, hN, hD0⟩ := hv
  have hx := B.exec
  have hb := B.bytes
  have hr := B.returns
  have hts := atoms_spec (ws := wsX5_know) B.pre
  have hown : s.vm.findClass RX5 = some m.cls := findClass_of_methodNamed B.named
  have hlocks := B.notSynchronized
  subst hsz
  have hD := hD0.self (sz := s.heap.size)
  generalize hAe : va_A [(m_a, .inr (5, [.int m_sz, .ref m_ds_a, .ref m_cs_a, .int m_kn, .ref m_tx_a, .int m_sg, .int m_fa, .ref m_ia_a, .ref m_im_a, .ref m_ik_a])), (m_ds_a, .inl (cI, 14, .inl m_ds)), (m_cs_a, .inl (cI, 14, .inl m_cs)), (m_tx_a, .inl (cI, 20, .inl m_tx)), (m_ia_a, .inl (cZ, 16384, .inl m_ia)), (m_im_a, .inl (cI, 60, .inl m_im)), (m_ik_a, .inl (cZ, 2, .inl m_ik))] s.heap.size = A at hD ⊢
  have hA : ∀ q : Nat, s.heap.size ≤ q → A q := fun q h => by rw [← hAe]; exact Or.inr h
  have hS : va_S A s.heap s.heap [] := va_S.rf
  have hf44 := hts (.fieldLink RX5 44 "WordGroundsModel" "known" "I") (by decide +kernel)
  have hl := lv_entry ([.ref m_a, .int p1]) (n := 3) (Nat.le_of_ble_eq_true rfl)
  rw [lg_entry_eq]
  generalize (lg_sl ([.ref m_a, .int p1]) ++ List.replicate (3 - (lg_sl ([.ref m_a, .int p1])).length) Slot.unset).toArray = ls at hl ⊢
  have hl : lv_has ls 3 [(0, .ref m_a), (1, .int p1)] := hl
  have hP : va_P (dC, dI) vwCl [(m_a, .inr (5, [.int m_sz, .ref m_ds_a, .ref m_cs_a, .int m_kn, .ref m_tx_a, .int m_sg, .int m_fa, .ref m_ia_a, .ref m_im_a, .ref m_ik_a])), (m_ds_a, .inl (cI, 14, .inl m_ds)), (m_cs_a, .inl (cI, 14, .inl m_cs)), (m_tx_a, .inl (cI, 20, .inl m_tx)), (m_ia_a, .inl (cZ, 16384, .inl m_ia)), (m_im_a, .inl (cI, 60, .inl m_im)), (m_ik_a, .inl (cZ, 2, .inl m_ik))] s.heap := hP
  have hM : ((M_X5_isSet p1 m_sz).bind (fun q2 => if q2 = 0 then (some ((-2), m_kn)) else (some (m_kn, p1)))) = some R := hM
  refine lv_aload_n hx hb dX5_know_0 rfl (lv_at hl 0 rfl) ?_
  refine lv_iload_n hx hb dX5_know_1 rfl (lv_at hl 1 rfl) ?_
  obtain ⟨q2, hv2, hM⟩ := ob_bind hM
  refine vp_callSi (va_Run.run (va_runV (As := [.int p1]) (rest := []) ⟨hx, hb, hml, hown, hts⟩ (c_X5_isSet l dC dI cI cZ cJ cW m_a m_ds_a m_cs_a m_tx_a m_ia_a m_im_a m_ik_a m_sz m_kn m_sg m_fa m_ds m_cs m_tx m_ia m_im m_ik p1 q2 hv2) (cwV 1 hts gX5_know_X5_isSet rfl rfl rfl (by decide +kernel) ⟨Nat.le_of_ble_eq_true rfl, Nat.le_of_ble_eq_true rfl⟩) ⟨RP.blind, va_recv hK hP (ci := 5) (q0 := 0) rfl rfl, fun U hU hW => ⟨rfl, by rw [hU]; exact hP.sub (ws' := [(m_a, .inr (5, [.int m_sz, .ref m_ds_a, .ref m_cs_a, .int m_kn, .ref m_tx_a, .int m_sg, .int m_fa, .ref m_ia_a, .ref m_im_a, .ref m_ik_a])), (m_ds_a, .inl (cI, 14, .inl m_ds)), (m_cs_a, .inl (cI, 14, .inl m_cs)), (m_tx_a, .inl (cI, 20, .inl m_tx)), (m_ia_a, .inl (cZ, 16384, .inl m_ia)), (m_im_a, .inl (cI, 60, .inl m_im)), (m_ik_a, .inl (cZ, 2, .inl m_ik))]) [0, 1, 2, 3, 4, 5, 6] rfl, va_K.moved hW.alike hK, hN.warm hW⟩⟩ rfl rfl hl.1 rfl (lv_room (Nat.le_of_ble_eq_true rfl)) dX5_know_2 ⟨Nat.le_of_ble_eq_true rfl, Nat.le_of_ble_eq_true rfl⟩)) (fun r hr => ?_)
  subst hr
  refine lv_if_ne (tgt := 11) hx hb dX5_know_5 (by decide) (fun c_5 => ?_) (fun c_5 => ?_)
  · replace hM := ob_neg c_5 hM
    refine lv_aload_n hx hb dX5_know_11 rfl (lv_at hl 0 rfl) ?_
    refine va_get (D := (dC, dI)) (ci := 5) (v := .int m_kn) (C := RX5) (T := TX5) (N := 10) hx hb hts in_X5_know_5 hown hK hP 0 rfl rfl 3 (by decide) hf44 (fun _ h9 => h9) rfl dX5_know_12 ?_
    refine lv_istore_n (lv' := [(2, .int m_kn), (0, .ref m_a), (1, .int p1)]) hx hb dX5_know_15 rfl hl (by decide) rfl (fun ls hl => ?_)
    refine lv_aload_n hx hb dX5_know_16 rfl (lv_at hl 1 rfl) ?_
    refine lv_iload_n hx hb dX5_know_17 rfl (lv_at hl 2 rfl) ?_
    refine va_put (D := (dC, dI)) (ci := 5) (v := .int p1) (ty := .int) (C := RX5) (T := TX5) (N := 10) hx hb hts in_X5_know_5 tyX5 tyX5_ok nmX5 hown hK hP hD hS 0 rfl rfl 3 (by decide) hf44 (fun _ h9 => h9) rfl (by decide +kernel) rfl rfl (Nat.le_of_ble_eq_true rfl) dX5_know_18 (fun H locs hP hD hS => ?_)
    have hP : va_P (dC, dI) vwCl [(m_a, .inr (5, [.int m_sz, .ref m_ds_a, .ref m_cs_a, .int p1, .ref m_tx_a, .int m_sg, .int m_fa, .ref m_ia_a, .ref m_im_a, .ref m_ik_a])), (m_ds_a, .inl (cI, 14, .inl m_ds)), (m_cs_a, .inl (cI, 14, .inl m_cs)), (m_tx_a, .inl (cI, 20, .inl m_tx)), (m_ia_a, .inl (cZ, 16384, .inl m_ia)), (m_im_a, .inl (cI, 60, .inl m_im)), (m_ik_a, .inl (cZ, 2, .inl m_ik))] H := hP
    have hD : va_D A [(m_a, .inr (5, [.int m_sz, .ref m_ds_a, .ref m_cs_a, .int p1, .ref m_tx_a, .int m_sg, .int m_fa, .ref m_ia_a, .ref m_im_a, .ref m_ik_a])), (m_ds_a, .inl (cI, 14, .inl m_ds)), (m_cs_a, .inl (cI, 14, .inl m_cs)), (m_tx_a, .inl (cI, 20, .inl m_tx)), (m_ia_a, .inl (cZ, 16384, .inl m_ia)), (m_im_a, .inl (cI, 60, .inl m_im)), (m_ik_a, .inl (cZ, 2, .inl m_ik))] := hD
    refine lv_iload_n hx hb dX5_know_21 rfl (lv_at hl 0 rfl) ?_
    obtain rfl := Option.some.inj hM
    have hP9 := hP.sub (ws' := [(m_a, .inr (5, [.int m_sz, .ref m_ds_a, .ref m_cs_a, .int p1, .ref m_tx_a, .int m_sg, .int m_fa, .ref m_ia_a, .ref m_im_a, .ref m_ik_a])), (m_ds_a, .inl (cI, 14, .inl m_ds)), (m_cs_a, .inl (cI, 14, .inl m_cs)), (m_tx_a, .inl (cI, 20, .inl m_tx)), (m_ia_a, .inl (cZ, 16384, .inl m_ia)), (m_im_a, .inl (cI, 60, .inl m_im)), (m_ik_a, .inl (cZ, 2, .inl m_ik))]) [0, 1, 2, 3, 4, 5, 6] rfl
    have hD9 := hD.sub (ws' := [(m_a, .inr (5, [.int m_sz, .ref m_ds_a, .ref m_cs_a, .int p1, .ref m_tx_a, .int m_sg, .int m_fa, .ref m_ia_a, .ref m_im_a, .ref m_ik_a])), (m_ds_a, .inl (cI, 14, .inl m_ds)), (m_cs_a, .inl (cI, 14, .inl m_cs)), (m_tx_a, .inl (cI, 20, .inl m_tx)), (m_ia_a, .inl (cZ, 16384, .inl m_ia)), (m_im_a, .inl (cI, 60, .inl m_im)), (m_ik_a, .inl (cZ, 2, .inl m_ik))]) [0, 1, 2, 3, 4, 5, 6] (by decide) rfl
    exact W.iret (v := m_kn) hx hb hr (fun t ht hW => ⟨⟨_, (), rfl, rfl, by rw [ht]; exact hP9, hD9⟩, hS.F ht⟩) hS.2.2 dX5_know_22
  · replace hM := ob_pos c_5 hM
    refine lv_bipush (v := (-2)) hx hb dX5_know_8 (by decide) ?_
    obtain rfl := Option.some.inj hM
    have hP9 := hP.sub (ws' := [(m_a, .inr (5, [.int m_sz, .ref m_ds_a, .ref m_cs_a, .int m_kn, .ref m_tx_a, .int m_sg, .int m_fa, .ref m_ia_a, .ref m_im_a, .ref m_ik_a])), (m_ds_a, .inl (cI, 14, .inl m_ds)), (m_cs_a, .inl (cI, 14, .inl m_cs)), (m_tx_a, .inl (cI, 20, .inl m_tx)), (m_ia_a, .inl (cZ, 16384, .inl m_ia)), (m_im_a, .inl (cI, 60, .inl m_im)), (m_ik_a, .inl (cZ, 2, .inl m_ik))]) [0, 1, 2, 3, 4, 5, 6] rfl
    have hD9 := hD.sub (ws' := [(m_a, .inr (5, [.int m_sz, .ref m_ds_a, .ref m_cs_a, .int m_kn, .ref m_tx_a, .int m_sg, .int m_fa, .ref m_ia_a, .ref m_im_a, .ref m_ik_a])), (m_ds_a, .inl (cI, 14, .inl m_ds)), (m_cs_a, .inl (cI, 14, .inl m_cs)), (m_tx_a, .inl (cI, 20, .inl m_tx)), (m_ia_a, .inl (cZ, 16384, .inl m_ia)), (m_im_a, .inl (cI, 60, .inl m_im)), (m_ik_a, .inl (cZ, 2, .inl m_ik))]) [0, 1, 2, 3, 4, 5, 6] (by decide) rfl
    exact W.iret (v := (-2)) hx hb hr (fun t ht hW => ⟨⟨_, (), rfl, rfl, by rw [ht]; exact hP9, hD9⟩, hS.F ht⟩) hS.2.2 dX5_know_10
