/-! X3_init -/
abbrev rm_X3_init : Room := { frames := 1, cells := 2, slots := 28, locals := 20 }
theorem in_X3_init_3 : ∀ w ∈ u_ws RX3 TX3 5, w ∈ wsX3_init := by decide +kernel
set_option maxHeartbeats 4000000 in
set_option maxRecDepth 100000 in
theorem c_X3_init (l : Launch) (dC : Nat → ClassId) (dI : Nat → Nat → Nat) (cI cZ cJ cW : ClassId) (sz : Nat) (w_a : Nat) (R : (Nat → Int32)) (hM : M_X3_init = some R) : Met l yX3_init wsX3_init rm_X3_init (va_Pc [.ref w_a] (MP (dC, dI) cI cZ cJ cW sz [(w_a, .inr (3, [.int 0, .int 0, .int 0, .null, .null]))])) (va_Qv (fun (_ : Nat × Nat) => True) (fun u t => va_P (dC, dI) vwCl [(w_a, .inr (3, [.int 8, .int 0, .int 0, .ref u.1, .ref u.2])), (u.1, .inl (cI, 14, .inl R)), (u.2, .inl (cI, 14, .inl (fun _ => 0)))] t.heap ∧ va_D (va_A [(w_a, .inr (3, [.int 0, .int 0, .int 0, .null, .null]))] sz) [(w_a, .inr (3, [.int 8, .int 0, .int 0, .ref u.1, .ref u.2])), (u.1, .inl (cI, 14, .inl R)), (u.2, .inl (cI, 14, .inl (fun _ => 0)))]) (va_A [(w_a, .inr (3, [.int 0, .int 0, .int 0, .null, .null]))] sz)) 2 28 (va_A [(w_a, .inr (3, [.int 0, .int 0, .int 0, .null, .null]))] sz) := by
  refine Met.ofW (cc := cX3_init) (maxL := 2) (ret := none) (by decide) rfl ?_
  intro p e s m args below meth c s₁ B hml hv
  obtain ⟨rfl, hsz, hP, hK, hN, hD0⟩ := hv
  have hx := B.exec
  have hb := B.bytes
  have hr := B.returns
  have hts := atoms_spec (ws := wsX3_init) B.pre
  have hown : s.vm.findClass RX3 = some m.cls := findClass_of_methodNamed B.named
  have hlocks := B.notSynchronized
  have hini : meth.name = "<init>" := (name_of_methodNamed B.named B.method).1
  have hoi := hts (.code objectInit ⟨#[0xb1]⟩ 1 none) (List.mem_cons_of_mem _ (List.mem_append_left _ (List.mem_of_getElem? (i := 2) rfl)))
  subst hsz
  have hD := hD0.self (sz := s.heap.size)
  generalize hAe : va_A [(w_a, .inr (3, [.int 0, .int 0, .int 0, .null, .null]))] s.heap.size = A at hD ⊢
  have hA : ∀ q : Nat, s.heap.size ≤ q → A q := fun q h => by rw [← hAe]; exact Or.inr h
  have hS : va_S A s.heap s.heap [] := va_S.rf
  have hf9 := hts (.fieldLink RX3 9 "WordGrounds$Words" "total" "I") (by decide +kernel)
  have hf15 := hts (.fieldLink RX3 15 "WordGrounds$Words" "known" "I") (by decide +kernel)
  have hf18 := hts (.fieldLink RX3 18 "WordGrounds$Words" "defined" "I") (by decide +kernel)
  have hf21 := hts (.fieldLink RX3 21 "WordGrounds$Words" "costs" "[I") (by decide +kernel)
  have hf25 := hts (.fieldLink RX3 25 "WordGrounds$Words" "definitions" "[I") (by decide +kernel)
  have hl := lv_entry ([.ref w_a]) (n := 2) (Nat.le_of_ble_eq_true rfl)
  rw [lg_entry_eq]
  generalize (lg_sl ([.ref w_a]) ++ List.replicate (2 - (lg_sl ([.ref w_a])).length) Slot.unset).toArray = ls at hl ⊢
  have hl : lv_has ls 2 [(0, .ref w_a)] := hl
  have hP : va_P (dC, dI) vwCl [(w_a, .inr (3, [.int 0, .int 0, .int 0, .null, .null]))] s.heap := hP
  have hM : (L_X3_init_38 (fun (v1_38 : Int32) (n_n23_f_38 : Nat → Int32) => some n_n23_f_38) 40 0 (fun _ => 0)) = some R := hM
  refine lv_aload_n hx hb dX3_init_0 rfl (lv_at hl 0 rfl) ?_
  refine W.objInit hx hb hown (hts (.methodLink RX3 3 objectInit) (by decide +kernel)) (hts (.instanceMethod objectInit) (by decide +kernel)) hoi rfl (by rw [hml]; exact hl.1) rfl dX3_init_1 (Nat.le_of_ble_eq_true rfl) (Nat.le_of_ble_eq_true rfl) ?_
  refine W.eq (g2 := F0 m 4 ls []) rfl ?_
  refine lv_aload_n hx hb dX3_init_4 rfl (lv_at hl 0 rfl) ?_
  refine lv_bipush (v := 8) hx hb dX3_init_5 (by decide) ?_
  refine va_put (D := (dC, dI)) (ci := 3) (v := .int 8) (ty := .int) (C := RX3) (T := TX3) (N := 5) hx hb hts in_X3_init_3 tyX3 tyX3_ok nmX3 hown hK hP hD hS 0 rfl rfl 0 (by decide) hf9 (fun _ h9 => h9) rfl (by decide +kernel) rfl rfl (Nat.le_of_ble_eq_true rfl) dX3_init_7 (fun H locs hP hD hS => ?_)
  have hP : va_P (dC, dI) vwCl [(w_a, .inr (3, [.int 8, .int 0, .int 0, .null, .null]))] H := hP
  have hD : va_D A [(w_a, .inr (3, [.int 8, .int 0, .int 0, .null, .null]))] := hD
  refine lv_aload_n hx hb dX3_init_10 rfl (lv_at hl 0 rfl) ?_
  refine lv_iconst (v := 0) hx hb dX3_init_11 (by decide) ?_
  refine va_put (D := (dC, dI)) (ci := 3) (v := .int 0) (ty := .int) (C := RX3) (T := TX3) (N := 5) hx hb hts in_X3_init_3 tyX3 tyX3_ok nmX3 hown hK hP hD hS 0 rfl rfl 1 (by decide) hf15 (fun _ h9 => h9) rfl (by decide +kernel) rfl rfl (Nat.le_of_ble_eq_true rfl) dX3_init_12 (fun H locs hP hD hS => ?_)
  have hP : va_P (dC, dI) vwCl [(w_a, .inr (3, [.int 8, .int 0, .int 0, .null, .null]))] H := hP
  have hD : va_D A [(w_a, .inr (3, [.int 8, .int 0, .int 0, .null, .null]))] := hD
  refine lv_aload_n hx hb dX3_init_15 rfl (lv_at hl 0 rfl) ?_
  refine lv_iconst (v := 0) hx hb dX3_init_16 (by decide) ?_
  refine va_put (D := (dC, dI)) (ci := 3) (v := .int 0) (ty := .int) (C := RX3) (T := TX3) (N := 5) hx hb hts in_X3_init_3 tyX3 tyX3_ok nmX3 hown hK hP hD hS 0 rfl rfl 2 (by decide) hf18 (fun _ h9 => h9) rfl (by decide +kernel) rfl rfl (Nat.le_of_ble_eq_true rfl) dX3_init_17 (fun H locs hP hD hS => ?_)
  have hP : va_P (dC, dI) vwCl [(w_a, .inr (3, [.int 8, .int 0, .int 0, .null, .null]))] H := hP
  have hD : va_D A [(w_a, .inr (3, [.int 8, .int 0, .int 0, .null, .null]))] := hD
  refine lv_aload_n hx hb dX3_init_20 rfl (lv_at hl 0 rfl) ?_
  refine lv_bipush (v := 14) hx hb dX3_init_21 (by decide) ?_
  refine va_newa (atype := .int) (a0 := (14, .inl (fun _ => 0))) hx hb (hts (.arrayClass .int) (by decide +kernel)) rfl hK hP hD hS hA (fun _ => rfl) (by decide) (by decide) (Nat.le_of_ble_eq_true rfl) (Nat.le_of_ble_eq_true rfl) (Nat.le_of_ble_eq_true rfl) dX3_init_23 (fun n23 cA H hKn hP hD hS => ?_)
  obtain rfl : cI = cA := K4.I hK hKn
  have hP : va_P (dC, dI) vwCl [(w_a, .inr (3, [.int 8, .int 0, .int 0, .null, .null])), (n23, .inl (cI, 14, .inl (fun _ => 0)))] H := hP
  have hD : va_D A [(w_a, .inr (3, [.int 8, .int 0, .int 0, .null, .null])), (n23, .inl (cI, 14, .inl (fun _ => 0)))] := hD
  refine W.widen (k := 1) (n := 14) (Nat.le_of_ble_eq_true rfl) (Nat.le_of_ble_eq_true rfl) ?_
  refine va_putF (D := (dC, dI)) (ci := 3) (v := .ref n23) (ty := (.array .int)) (C := RX3) (T := TX3) (N := 5) hx hb hts in_X3_init_3 tyX3 tyX3_ok nmX3 hown hK hP hD hS 0 rfl rfl 3 (by decide) hf21 (fun _ h9 => h9) rfl hini rfl (by decide +kernel) rfl rfl (Nat.le_of_ble_eq_true rfl) dX3_init_25 (fun H locs hP hD hS => ?_)
  have hP : va_P (dC, dI) vwCl [(w_a, .inr (3, [.int 8, .int 0, .int 0, .ref n23, .null])), (n23, .inl (cI, 14, .inl (fun _ => 0)))] H := hP
  have hD : va_D A [(w_a, .inr (3, [.int 8, .int 0, .int 0, .ref n23, .null])), (n23, .inl (cI, 14, .inl (fun _ => 0)))] := hD
  refine lv_aload_n hx hb dX3_init_28 rfl (lv_at hl 0 rfl) ?_
  refine lv_bipush (v := 14) hx hb dX3_init_29 (by decide) ?_
  refine va_newa (atype := .int) (a0 := (14, .inl (fun _ => 0))) hx hb (hts (.arrayClass .int) (by decide +kernel)) rfl hK hP hD hS hA (fun _ => rfl) (by decide) (by decide) (Nat.le_of_ble_eq_true rfl) (Nat.le_of_ble_eq_true rfl) (Nat.le_of_ble_eq_true rfl) dX3_init_31 (fun n31 cA H hKn hP hD hS => ?_)
  obtain rfl : cI = cA := K4.I hK hKn
  have hP : va_P (dC, dI) vwCl [(w_a, .inr (3, [.int 8, .int 0, .int 0, .ref n23, .null])), (n23, .inl (cI, 14, .inl (fun _ => 0))), (n31, .inl (cI, 14, .inl (fun _ => 0)))] H := hP
  have hD : va_D A [(w_a, .inr (3, [.int 8, .int 0, .int 0, .ref n23, .null])), (n23, .inl (cI, 14, .inl (fun _ => 0))), (n31, .inl (cI, 14, .inl (fun _ => 0)))] := hD
  refine W.widen (k := 2) (n := 28) (Nat.le_of_ble_eq_true rfl) (Nat.le_of_ble_eq_true rfl) ?_
  refine va_putF (D := (dC, dI)) (ci := 3) (v := .ref n31) (ty := (.array .int)) (C := RX3) (T := TX3) (N := 5) hx hb hts in_X3_init_3 tyX3 tyX3_ok nmX3 hown hK hP hD hS 0 rfl rfl 4 (by decide) hf25 (fun _ h9 => h9) rfl hini rfl (by decide +kernel) rfl rfl (Nat.le_of_ble_eq_true rfl) dX3_init_33 (fun H locs hP hD hS => ?_)
  have hP : va_P (dC, dI) vwCl [(w_a, .inr (3, [.int 8, .int 0, .int 0, .ref n23, .ref n31])), (n23, .inl (cI, 14, .inl (fun _ => 0))), (n31, .inl (cI, 14, .inl (fun _ => 0)))] H := hP
  have hD : va_D A [(w_a, .inr (3, [.int 8, .int 0, .int 0, .ref n23, .ref n31])), (n23, .inl (cI, 14, .inl (fun _ => 0))), (n31, .inl (cI, 14, .inl (fun _ => 0)))] := hD
  refine lv_iconst (v := 0) hx hb dX3_init_36 (by decide) ?_
  refine lv_istore_n (lv' := [(1, .int 0), (0, .ref w_a)]) hx hb dX3_init_37 rfl hl (by decide) rfl (fun ls hl => ?_)
  obtain ⟨K38, hK38⟩ : ∃ K : Int32 → (Nat → Int32) → Option ((Nat → Int32)), K = (fun (v1_38 : Int32) (n_n23_f_38 : Nat → Int32) => some n_n23_f_38) := ⟨_, rfl⟩
  have hM : L_X3_init_38 K38 40 0 (fun _ => 0) = some R := by rw [hK38]; exact hM
  have hL38 : ∀ (k38 : Nat) (v1_38 : Int32) (n_n23_f_38 : Nat → Int32) (H : Heap) (locs : List Loc) (ls : Array Slot), L_X3_init_38 K38 k38 v1_38 n_n23_f_38 = some R → va_P (dC, dI) vwCl [(w_a, .inr (3, [.int 8, .int 0, .int 0, .ref n23, .ref n31])), (n23, .inl (cI, 14, .inl n_n23_f_38)), (n31, .inl (cI, 14, .inl (fun _ => 0)))] H → va_D A [(w_a, .inr (3, [.int 8, .int 0, .int 0, .ref n23, .ref n31])), (n23, .inl (cI, 14, .inl n_n23_f_38)), (n31, .inl (cI, 14, .inl (fun _ => 0)))] → va_S A s.heap H locs → lv_has ls 2 [(1, .int v1_38), (0, .ref w_a)] → W p l e rm_X3_init s m ([.ref w_a] : List Value).toArray below meth c H locs 2 28 (MQ below (va_Qv (fun (_ : Nat × Nat) => True) (fun u t => va_P (dC, dI) vwCl [(w_a, .inr (3, [.int 8, .int 0, .int 0, .ref u.1, .ref u.2])), (u.1, .inl (cI, 14, .inl R)), (u.2, .inl (cI, 14, .inl (fun _ => 0)))] t.heap ∧ va_D A [(w_a, .inr (3, [.int 8, .int 0, .int 0, .ref u.1, .ref u.2])), (u.1, .inl (cI, 14, .inl R)), (u.2, .inl (cI, 14, .inl (fun _ => 0)))]) A) ([.ref w_a] : List Value).toArray s 2 28 A) (F0 m 38 ls []) := by
    intro k38
    induction k38 with
    | zero => intro v1_38 n_n23_f_38 H locs ls hM; exact (ob_none hM).elim
    | succ k38 ih38 =>
      intro v1_38 n_n23_f_38 H locs ls hM hP hD hS hl
      have hM : (if 14 ≤ v1_38 then (K38 v1_38 n_n23_f_38) else (if v1_38 < 0 ∨ 14 ≤ (v1_38).toNatClampNeg then none else (L_X3_init_38 K38 k38 (v1_38 + 1) (upd n_n23_f_38 (v1_38).toNatClampNeg 1)))) = some R := hM
      refine lv_iload_n hx hb dX3_init_38 rfl (lv_at hl 0 rfl) ?_
      refine lv_bipush (v := 14) hx hb dX3_init_39 (by decide) ?_
      refine lv_icmp_ge (tgt := 57) hx hb dX3_init_41 (by decide) (fun c_41 => ?_) (fun c_41 => ?_)
      · replace hM := ob_pos c_41 hM
        have hM : (some n_n23_f_38) = some R := by rw [hK38] at hM; exact hM
        obtain rfl := Option.some.inj hM
        have hP9 := hP.sub (ws' := [(w_a, .inr (3, [.int 8, .int 0, .int 0, .ref n23, .ref n31])), (n23, .inl (cI, 14, .inl n_n23_f_38)), (n31, .inl (cI, 14, .inl (fun _ => 0)))]) [0, 1, 2] rfl
        have hD9 := hD.sub (ws' := [(w_a, .inr (3, [.int 8, .int 0, .int 0, .ref n23, .ref n31])), (n23, .inl (cI, 14, .inl n_n23_f_38)), (n31, .inl (cI, 14, .inl (fun _ => 0)))]) [0, 1, 2] (by decide) rfl
        refine W.widen (k := 2) (n := 28) (Nat.le_refl _) (Nat.le_refl _) ?_
        exact W.vret hx hb hr (fun t ht hW => ⟨⟨(n23, n31), rfl, trivial, by rw [ht]; exact hP9, hD9⟩, hS.F ht⟩) hS.2.2 dX3_init_57
      · replace hM := ob_neg c_41 hM
        refine lv_aload_n hx hb dX3_init_44 rfl (lv_at hl 1 rfl) ?_
        refine va_get (D := (dC, dI)) (ci := 3) (v := .ref n23) (C := RX3) (T := TX3) (N := 5) hx hb hts in_X3_init_3 hown hK hP 0 rfl rfl 3 (by decide) hf21 (fun _ h9 => h9) rfl dX3_init_45 ?_
        refine lv_iload_n hx hb dX3_init_48 rfl (lv_at hl 0 rfl) ?_
        refine lv_iconst (v := 1) hx hb dX3_init_49 (by decide) ?_
        obtain ⟨h_50, hM⟩ := ob_get hM
        refine va_iast hx hb hK hP hD hS 1 0 rfl rfl h_50 dX3_init_50 (fun H locs hP hD hS => ?_)
        have hP : va_P (dC, dI) vwCl [(w_a, .inr (3, [.int 8, .int 0, .int 0, .ref n23, .ref n31])), (n23, .inl (cI, 14, .inl (upd n_n23_f_38 (v1_38).toNatClampNeg 1))), (n31, .inl (cI, 14, .inl (fun _ => 0)))] H := hP
        have hD : va_D A [(w_a, .inr (3, [.int 8, .int 0, .int 0, .ref n23, .ref n31])), (n23, .inl (cI, 14, .inl (upd n_n23_f_38 (v1_38).toNatClampNeg 1))), (n31, .inl (cI, 14, .inl (fun _ => 0)))] := hD
        refine lv_iinc (v := (v1_38 + 1)) (lv' := [(1, .int (v1_38 + 1)), (0, .ref w_a)]) hx hb dX3_init_51 hl (k := 0) rfl (by rfl) (by decide) rfl (fun ls hl => ?_)
        refine lv_goto (tgt := 38) hx hb dX3_init_54 (by decide) ?_
        exact ih38 (v1_38 + 1) (upd n_n23_f_38 (v1_38).toNatClampNeg 1) _ _ _ hM (hP.sub [0, 1, 2] rfl) (hD.sub [0, 1, 2] (by decide) rfl) hS (lv_sub hl [0, 1] rfl)
  exact hL38 40 0 (fun _ => 0) _ _ _ hM hP hD hS (lv_sub hl [0, 1] rfl)
/-! X2_init -/
abbrev rm_X2_init : Room := { frames := 1, cells := 1, slots := 20, locals := 20 }
theorem in_X2_init_2 : ∀ w ∈ u_ws RX2 TX2 2, w ∈ wsX2_init := by decide +kernel
set_option maxHeartbeats 4000000 in
set_option maxRecDepth 100000 in
theorem c_X2_init (l : Launch) (dC : Nat → ClassId) (dI : Nat → Nat → Nat) (cI cZ cJ cW : ClassId) (sz : Nat) (t_a : Nat) : Met l yX2_init wsX2_init rm_X2_init (va_Pc [.ref t_a] (MP (dC, dI) cI cZ cJ cW sz [(t_a, .inr (2, [.null, .int 0]))])) (va_Qv (fun (_ : Nat) => True) (fun u t => va_P (dC, dI) vwCl [(t_a, .inr (2, [.ref u, .int 0])), (u, .inl (cI, 20, .inl (fun _ => 0)))] t.heap ∧ va_D (va_A [(t_a, .inr (2, [.null, .int 0]))] sz) [(t_a, .inr (2, [.ref u, .int 0])), (u, .inl (cI, 20, .inl (fun _ => 0)))]) (va_A [(t_a, .inr (2, [.null, .int 0]))] sz)) 1 20 (va_A [(t_a, .inr (2, [.null, .int 0]))] sz) := by
  refine Met.ofW (cc := cX2_init) (maxL := 1) (ret := none) (by decide) rfl ?_
  intro p e s m args below meth c s₁ B hml hv
  obtain ⟨rfl, hsz, hP, hK, hN, hD0⟩ := hv
  have hx := B.exec
  have hb := B.bytes
  have hr := B.returns
  have hts := atoms_spec (ws := wsX2_init) B.pre
  have hown : s.vm.findClass RX2 = some m.cls := findClass_of_methodNamed B.named
  have hlocks := B.notSynchronized
  have hini : meth.name = "<init>" := (name_of_methodNamed B.named B.method).1
  have hoi := hts (.code objectInit ⟨#[0xb1]⟩ 1 none) (List.mem_cons_of_mem _ (List.mem_append_left _ (List.mem_of_getElem? (i := 2) rfl)))
  subst hsz
  have hD := hD0.self (sz := s.heap.size)
  generalize hAe : va_A [(t_a, .inr (2, [.null, .int 0]))] s.heap.size = A at hD ⊢
  have hA : ∀ q : Nat, s.heap.size ≤ q → A q := fun q h => by rw [← hAe]; exact Or.inr h
  have hS : va_S A s.heap s.heap [] := va_S.rf
  have hf9 := hts (.fieldLink RX2 9 "WordGrounds$Text" "signs" "[I") (by decide +kernel)
  have hf15 := hts (.fieldLink RX2 15 "WordGrounds$Text" "length" "I") (by decide +kernel)
  have hl := lv_entry ([.ref t_a]) (n := 1) (Nat.le_of_ble_eq_true rfl)
  rw [lg_entry_eq]
  generalize (lg_sl ([.ref t_a]) ++ List.replicate (1 - (lg_sl ([.ref t_a])).length) Slot.unset).toArray = ls at hl ⊢
  have hl : lv_has ls 1 [(0, .ref t_a)] := hl
  have hP : va_P (dC, dI) vwCl [(t_a, .inr (2, [.null, .int 0]))] s.heap := hP
  refine lv_aload_n hx hb dX2_init_0 rfl (lv_at hl 0 rfl) ?_
  refine W.objInit hx hb hown (hts (.methodLink RX2 3 objectInit) (by decide +kernel)) (hts (.instanceMethod objectInit) (by decide +kernel)) hoi rfl (by rw [hml]; exact hl.1) rfl dX2_init_1 (Nat.le_of_ble_eq_true rfl) (Nat.le_of_ble_eq_true rfl) ?_
  refine W.eq (g2 := F0 m 4 ls []) rfl ?_
  refine lv_aload_n hx hb dX2_init_4 rfl (lv_at hl 0 rfl) ?_
  refine lv_bipush (v := 20) hx hb dX2_init_5 (by decide) ?_
  refine va_newa (atype := .int) (a0 := (20, .inl (fun _ => 0))) hx hb (hts (.arrayClass .int) (by decide +kernel)) rfl hK hP hD hS hA (fun _ => rfl) (by decide) (by decide) (Nat.le_of_ble_eq_true rfl) (Nat.le_of_ble_eq_true rfl) (Nat.le_of_ble_eq_true rfl) dX2_init_7 (fun n7 cA H hKn hP hD hS => ?_)
  obtain rfl : cI = cA := K4.I hK hKn
  have hP : va_P (dC, dI) vwCl [(t_a, .inr (2, [.null, .int 0])), (n7, .inl (cI, 20, .inl (fun _ => 0)))] H := hP
  have hD : va_D A [(t_a, .inr (2, [.null, .int 0])), (n7, .inl (cI, 20, .inl (fun _ => 0)))] := hD
  refine W.widen (k := 1) (n := 20) (Nat.le_of_ble_eq_true rfl) (Nat.le_of_ble_eq_true rfl) ?_
  refine va_putF (D := (dC, dI)) (ci := 2) (v := .ref n7) (ty := (.array .int)) (C := RX2) (T := TX2) (N := 2) hx hb hts in_X2_init_2 tyX2 tyX2_ok nmX2 hown hK hP hD hS 0 rfl rfl 0 (by decide) hf9 (fun _ h9 => h9) rfl hini rfl (by decide +kernel) rfl rfl (Nat.le_of_ble_eq_true rfl) dX2_init_9 (fun H locs hP hD hS => ?_)
  have hP : va_P (dC, dI) vwCl [(t_a, .inr (2, [.ref n7, .int 0])), (n7, .inl (cI, 20, .inl (fun _ => 0)))] H := hP
  have hD : va_D A [(t_a, .inr (2, [.ref n7, .int 0])), (n7, .inl (cI, 20, .inl (fun _ => 0)))] := hD
  refine lv_aload_n hx hb dX2_init_12 rfl (lv_at hl 0 rfl) ?_
  refine lv_iconst (v := 0) hx hb dX2_init_13 (by decide) ?_
  refine va_put (D := (dC, dI)) (ci := 2) (v := .int 0) (ty := .int) (C := RX2) (T := TX2) (N := 2) hx hb hts in_X2_init_2 tyX2 tyX2_ok nmX2 hown hK hP hD hS 0 rfl rfl 1 (by decide) hf15 (fun _ h9 => h9) rfl (by decide +kernel) rfl rfl (Nat.le_of_ble_eq_true rfl) dX2_init_14 (fun H locs hP hD hS => ?_)
  have hP : va_P (dC, dI) vwCl [(t_a, .inr (2, [.ref n7, .int 0])), (n7, .inl (cI, 20, .inl (fun _ => 0)))] H := hP
  have hD : va_D A [(t_a, .inr (2, [.ref n7, .int 0])), (n7, .inl (cI, 20, .inl (fun _ => 0)))] := hD
  have hP9 := hP.sub (ws' := [(t_a, .inr (2, [.ref n7, .int 0])), (n7, .inl (cI, 20, .inl (fun _ => 0)))]) [0, 1] rfl
  have hD9 := hD.sub (ws' := [(t_a, .inr (2, [.ref n7, .int 0])), (n7, .inl (cI, 20, .inl (fun _ => 0)))]) [0, 1] (by decide) rfl
  refine W.widen (k := 1) (n := 20) (Nat.le_refl _) (Nat.le_refl _) ?_
  exact W.vret hx hb hr (fun t ht hW => ⟨⟨n7, rfl, trivial, by rw [ht]; exact hP9, hD9⟩, hS.F ht⟩) hS.2.2 dX2_init_17
/-! X0_init -/
abbrev rm_X0_init : Room := { frames := 1, cells := 1, slots := 14, locals := 20 }
theorem in_X0_init_0 : ∀ w ∈ u_ws RX0 TX0 3, w ∈ wsX0_init := by decide +kernel
set_option maxHeartbeats 4000000 in
set_option maxRecDepth 100000 in
theorem c_X0_init (l : Launch) (dC : Nat → ClassId) (dI : Nat → Nat → Nat) (cI cZ cJ cW : ClassId) (sz : Nat) (r_a : Nat) : Met l yX0_init wsX0_init rm_X0_init (va_Pc [.ref r_a] (MP (dC, dI) cI cZ cJ cW sz [(r_a, .inr (0, [.int 0, .null, .int 0]))])) (va_Qv (fun (_ : Nat) => True) (fun u t => va_P (dC, dI) vwCl [(r_a, .inr (0, [.int 0, .ref u, .int 0])), (u, .inl (cI, 14, .inl (fun _ => 0)))] t.heap ∧ va_D (va_A [(r_a, .inr (0, [.int 0, .null, .int 0]))] sz) [(r_a, .inr (0, [.int 0, .ref u, .int 0])), (u, .inl (cI, 14, .inl (fun _ => 0)))]) (va_A [(r_a, .inr (0, [.int 0, .null, .int 0]))] sz)) 1 14 (va_A [(r_a, .inr (0, [.int 0, .null, .int 0]))] sz) := by
  refine Met.ofW (cc := cX0_init) (maxL := 1) (ret := none) (by decide) rfl ?_
  intro p e s m args below meth c s₁ B hml hv
  obtain ⟨rfl, hsz, hP, hK, hN, hD0⟩ := hv
  have hx := B.exec
  have hb := B.bytes
  have hr := B.returns
  have hts := atoms_spec (ws := wsX0_init) B.pre
  have hown : s.vm.findClass RX0 = some m.cls := findClass_of_methodNamed B.named
  have hlocks := B.notSynchronized
  have hini : meth.name = "<init>" := (name_of_methodNamed B.named B.method).1
  have hoi := hts (.code objectInit ⟨#[0xb1]⟩ 1 none) (List.mem_cons_of_mem _ (List.mem_append_left _ (List.mem_of_getElem? (i := 2) rfl)))
  subst hsz
  have hD := hD0.self (sz := s.heap.size)
  generalize hAe : va_A [(r_a, .inr (0, [.int 0, .null, .int 0]))] s.heap.size = A at hD ⊢
  have hA : ∀ q : Nat, s.heap.size ≤ q → A q := fun q h => by rw [← hAe]; exact Or.inr h
  have hS : va_S A s.heap s.heap [] := va_S.rf
  have hf9 := hts (.fieldLink RX0 9 "WordGrounds$Rings" "total" "I") (by decide +kernel)
  have hf15 := hts (.fieldLink RX0 15 "WordGrounds$Rings" "reach" "[I") (by decide +kernel)
  have hf19 := hts (.fieldLink RX0 19 "WordGrounds$Rings" "inRings" "I") (by decide +kernel)
  have hl := lv_entry ([.ref r_a]) (n := 1) (Nat.le_of_ble_eq_true rfl)
  rw [lg_entry_eq]
  generalize (lg_sl ([.ref r_a]) ++ List.replicate (1 - (lg_sl ([.ref r_a])).length) Slot.unset).toArray = ls at hl ⊢
  have hl : lv_has ls 1 [(0, .ref r_a)] := hl
  have hP : va_P (dC, dI) vwCl [(r_a, .inr (0, [.int 0, .null, .int 0]))] s.heap := hP
  refine lv_aload_n hx hb dX0_init_0 rfl (lv_at hl 0 rfl) ?_
  refine W.objInit hx hb hown (hts (.methodLink RX0 3 objectInit) (by decide +kernel)) (hts (.instanceMethod objectInit) (by decide +kernel)) hoi rfl (by rw [hml]; exact hl.1) rfl dX0_init_1 (Nat.le_of_ble_eq_true rfl) (Nat.le_of_ble_eq_true rfl) ?_
  refine W.eq (g2 := F0 m 4 ls []) rfl ?_
  refine lv_aload_n hx hb dX0_init_4 rfl (lv_at hl 0 rfl) ?_
  refine lv_iconst (v := 0) hx hb dX0_init_5 (by decide) ?_
  refine va_put (D := (dC, dI)) (ci := 0) (v := .int 0) (ty := .int) (C := RX0) (T := TX0) (N := 3) hx hb hts in_X0_init_0 tyX0 tyX0_ok nmX0 hown hK hP hD hS 0 rfl rfl 0 (by decide) hf9 (fun _ h9 => h9) rfl (by decide +kernel) rfl rfl (Nat.le_of_ble_eq_true rfl) dX0_init_6 (fun H locs hP hD hS => ?_)
  have hP : va_P (dC, dI) vwCl [(r_a, .inr (0, [.int 0, .null, .int 0]))] H := hP
  have hD : va_D A [(r_a, .inr (0, [.int 0, .null, .int 0]))] := hD
  refine lv_aload_n hx hb dX0_init_9 rfl (lv_at hl 0 rfl) ?_
  refine lv_bipush (v := 14) hx hb dX0_init_10 (by decide) ?_
  refine va_newa (atype := .int) (a0 := (14, .inl (fun _ => 0))) hx hb (hts (.arrayClass .int) (by decide +kernel)) rfl hK hP hD hS hA (fun _ => rfl) (by decide) (by decide) (Nat.le_of_ble_eq_true rfl) (Nat.le_of_ble_eq_true rfl) (Nat.le_of_ble_eq_true rfl) dX0_init_12 (fun n12 cA H hKn hP hD hS => ?_)
  obtain rfl : cI = cA := K4.I hK hKn
  have hP : va_P (dC, dI) vwCl [(r_a, .inr (0, [.int 0, .null, .int 0])), (n12, .inl (cI, 14, .inl (fun _ => 0)))] H := hP
  have hD : va_D A [(r_a, .inr (0, [.int 0, .null, .int 0])), (n12, .inl (cI, 14, .inl (fun _ => 0)))] := hD
  refine W.widen (k := 1) (n := 14) (Nat.le_of_ble_eq_true rfl) (Nat.le_of_ble_eq_true rfl) ?_
  refine va_putF (D := (dC, dI)) (ci := 0) (v := .ref n12) (ty := (.array .int)) (C := RX0) (T := TX0) (N := 3) hx hb hts in_X0_init_0 tyX0 tyX0_ok nmX0 hown hK hP hD hS 0 rfl rfl 1 (by decide) hf15 (fun _ h9 => h9) rfl hini rfl (by decide +kernel) rfl rfl (Nat.le_of_ble_eq_true rfl) dX0_init_14 (fun H locs hP hD hS => ?_)
  have hP : va_P (dC, dI) vwCl [(r_a, .inr (0, [.int 0, .ref n12, .int 0])), (n12, .inl (cI, 14, .inl (fun _ => 0)))] H := hP
  have hD : va_D A [(r_a, .inr (0, [.int 0, .ref n12, .int 0])), (n12, .inl (cI, 14, .inl (fun _ => 0)))] := hD
  refine lv_aload_n hx hb dX0_init_17 rfl (lv_at hl 0 rfl) ?_
  refine lv_iconst (v := 0) hx hb dX0_init_18 (by decide) ?_
  refine va_put (D := (dC, dI)) (ci := 0) (v := .int 0) (ty := .int) (C := RX0) (T := TX0) (N := 3) hx hb hts in_X0_init_0 tyX0 tyX0_ok nmX0 hown hK hP hD hS 0 rfl rfl 2 (by decide) hf19 (fun _ h9 => h9) rfl (by decide +kernel) rfl rfl (Nat.le_of_ble_eq_true rfl) dX0_init_19 (fun H locs hP hD hS => ?_)
  have hP : va_P (dC, dI) vwCl [(r_a, .inr (0, [.int 0, .ref n12, .int 0])), (n12, .inl (cI, 14, .inl (fun _ => 0)))] H := hP
  have hD : va_D A [(r_a, .inr (0, [.int 0, .ref n12, .int 0])), (n12, .inl (cI, 14, .inl (fun _ => 0)))] := hD
  have hP9 := hP.sub (ws' := [(r_a, .inr (0, [.int 0, .ref n12, .int 0])), (n12, .inl (cI, 14, .inl (fun _ => 0)))]) [0, 1] rfl
  have hD9 := hD.sub (ws' := [(r_a, .inr (0, [.int 0, .ref n12, .int 0])), (n12, .inl (cI, 14, .inl (fun _ => 0)))]) [0, 1] (by decide) rfl
  refine W.widen (k := 1) (n := 14) (Nat.le_refl _) (Nat.le_refl _) ?_
  exact W.vret hx hb hr (fun t ht hW => ⟨⟨n12, rfl, trivial, by rw [ht]; exact hP9, hD9⟩, hS.F ht⟩) hS.2.2 dX0_init_22
/-! X1_init -/
abbrev rm_X1_init : Room := { frames := 1, cells := 1, slots := 256, locals := 20 }
theorem in_X1_init_1 : ∀ w ∈ u_ws RX1 TX1 3, w ∈ wsX1_init := by decide +kernel
set_option maxHeartbeats 4000000 in
set_option maxRecDepth 100000 in
theorem c_X1_init (l : Launch) (dC : Nat → ClassId) (dI : Nat → Nat → Nat) (cI cZ cJ cW : ClassId) (sz : Nat) (e_a : Nat) : Met l yX1_init wsX1_init rm_X1_init (va_Pc [.ref e_a] (MP (dC, dI) cI cZ cJ cW sz [(e_a, .inr (1, [.int 0, .int 0, .null]))])) (va_Qv (fun (_ : Nat) => True) (fun u t => va_P (dC, dI) vwCl [(e_a, .inr (1, [.int 0, .int 0, .ref u])), (u, .inl (cJ, 256, .inr (.inl (fun _ => 0))))] t.heap ∧ va_D (va_A [(e_a, .inr (1, [.int 0, .int 0, .null]))] sz) [(e_a, .inr (1, [.int 0, .int 0, .ref u])), (u, .inl (cJ, 256, .inr (.inl (fun _ => 0))))]) (va_A [(e_a, .inr (1, [.int 0, .int 0, .null]))] sz)) 1 256 (va_A [(e_a, .inr (1, [.int 0, .int 0, .null]))] sz) := by
  refine Met.ofW (cc := cX1_init) (maxL := 1) (ret := none) (by decide) rfl ?_
  intro p e s m args below meth c s₁ B hml hv
  obtain ⟨rfl, hsz, hP, hK, hN, hD0⟩ := hv
  have hx := B.exec
  have hb := B.bytes
  have hr := B.returns
  have hts := atoms_spec (ws := wsX1_init) B.pre
  have hown : s.vm.findClass RX1 = some m.cls := findClass_of_methodNamed B.named
  have hlocks := B.notSynchronized
  have hini : meth.name = "<init>" := (name_of_methodNamed B.named B.method).1
  have hoi := hts (.code objectInit ⟨#[0xb1]⟩ 1 none) (List.mem_cons_of_mem _ (List.mem_append_left _ (List.mem_of_getElem? (i := 2) rfl)))
  subst hsz
  have hD := hD0.self (sz := s.heap.size)
  generalize hAe : va_A [(e_a, .inr (1, [.int 0, .int 0, .null]))] s.heap.size = A at hD ⊢
  have hA : ∀ q : Nat, s.heap.size ≤ q → A q := fun q h => by rw [← hAe]; exact Or.inr h
  have hS : va_S A s.heap s.heap [] := va_S.rf
  have hf9 := hts (.fieldLink RX1 9 "WordGrounds$Tellings" "must" "I") (by decide +kernel)
  have hf15 := hts (.fieldLink RX1 15 "WordGrounds$Tellings" "may" "I") (by decide +kernel)
  have hf18 := hts (.fieldLink RX1 18 "WordGrounds$Tellings" "circleFree" "[J") (by decide +kernel)
  have hl := lv_entry ([.ref e_a]) (n := 1) (Nat.le_of_ble_eq_true rfl)
  rw [lg_entry_eq]
  generalize (lg_sl ([.ref e_a]) ++ List.replicate (1 - (lg_sl ([.ref e_a])).length) Slot.unset).toArray = ls at hl ⊢
  have hl : lv_has ls 1 [(0, .ref e_a)] := hl
  have hP : va_P (dC, dI) vwCl [(e_a, .inr (1, [.int 0, .int 0, .null]))] s.heap := hP
  refine lv_aload_n hx hb dX1_init_0 rfl (lv_at hl 0 rfl) ?_
  refine W.objInit hx hb hown (hts (.methodLink RX1 3 objectInit) (by decide +kernel)) (hts (.instanceMethod objectInit) (by decide +kernel)) hoi rfl (by rw [hml]; exact hl.1) rfl dX1_init_1 (Nat.le_of_ble_eq_true rfl) (Nat.le_of_ble_eq_true rfl) ?_
  refine W.eq (g2 := F0 m 4 ls []) rfl ?_
  refine lv_aload_n hx hb dX1_init_4 rfl (lv_at hl 0 rfl) ?_
  refine lv_iconst (v := 0) hx hb dX1_init_5 (by decide) ?_
  refine va_put (D := (dC, dI)) (ci := 1) (v := .int 0) (ty := .int) (C := RX1) (T := TX1) (N := 3) hx hb hts in_X1_init_1 tyX1 tyX1_ok nmX1 hown hK hP hD hS 0 rfl rfl 0 (by decide) hf9 (fun _ h9 => h9) rfl (by decide +kernel) rfl rfl (Nat.le_of_ble_eq_true rfl) dX1_init_6 (fun H locs hP hD hS => ?_)
  have hP : va_P (dC, dI) vwCl [(e_a, .inr (1, [.int 0, .int 0, .null]))] H := hP
  have hD : va_D A [(e_a, .inr (1, [.int 0, .int 0, .null]))] := hD
  refine lv_aload_n hx hb dX1_init_9 rfl (lv_at hl 0 rfl) ?_
  refine lv_iconst (v := 0) hx hb dX1_init_10 (by decide) ?_
  refine va_put (D := (dC, dI)) (ci := 1) (v := .int 0) (ty := .int) (C := RX1) (T := TX1) (N := 3) hx hb hts in_X1_init_1 tyX1 tyX1_ok nmX1 hown hK hP hD hS 0 rfl rfl 1 (by decide) hf15 (fun _ h9 => h9) rfl (by decide +kernel) rfl rfl (Nat.le_of_ble_eq_true rfl) dX1_init_11 (fun H locs hP hD hS => ?_)
  have hP : va_P (dC, dI) vwCl [(e_a, .inr (1, [.int 0, .int 0, .null]))] H := hP
  have hD : va_D A [(e_a, .inr (1, [.int 0, .int 0, .null]))] := hD
  refine lv_aload_n hx hb dX1_init_14 rfl (lv_at hl 0 rfl) ?_
  refine lv_sipush (v := 256) hx hb dX1_init_15 (by decide) ?_
  refine va_newa (atype := .long) (a0 := (256, .inr (.inl (fun _ => 0)))) hx hb (hts (.arrayClass .long) (by decide +kernel)) rfl hK hP hD hS hA (fun _ => rfl) (by decide) (by decide) (Nat.le_of_ble_eq_true rfl) (Nat.le_of_ble_eq_true rfl) (Nat.le_of_ble_eq_true rfl) dX1_init_18 (fun n18 cA H hKn hP hD hS => ?_)
  obtain rfl : cJ = cA := K4.J hK hKn
  have hP : va_P (dC, dI) vwCl [(e_a, .inr (1, [.int 0, .int 0, .null])), (n18, .inl (cJ, 256, .inr (.inl (fun _ => 0))))] H := hP
  have hD : va_D A [(e_a, .inr (1, [.int 0, .int 0, .null])), (n18, .inl (cJ, 256, .inr (.inl (fun _ => 0))))] := hD
  refine W.widen (k := 1) (n := 256) (Nat.le_of_ble_eq_true rfl) (Nat.le_of_ble_eq_true rfl) ?_
  refine va_putF (D := (dC, dI)) (ci := 1) (v := .ref n18) (ty := (.array .long)) (C := RX1) (T := TX1) (N := 3) hx hb hts in_X1_init_1 tyX1 tyX1_ok nmX1 hown hK hP hD hS 0 rfl rfl 2 (by decide) hf18 (fun _ h9 => h9) rfl hini rfl (by decide +kernel) rfl rfl (Nat.le_of_ble_eq_true rfl) dX1_init_20 (fun H locs hP hD hS => ?_)
  have hP : va_P (dC, dI) vwCl [(e_a, .inr (1, [.int 0, .int 0, .ref n18])), (n18, .inl (cJ, 256, .inr (.inl (fun _ => 0))))] H := hP
  have hD : va_D A [(e_a, .inr (1, [.int 0, .int 0, .ref n18])), (n18, .inl (cJ, 256, .inr (.inl (fun _ => 0))))] := hD
  have hP9 := hP.sub (ws' := [(e_a, .inr (1, [.int 0, .int 0, .ref n18])), (n18, .inl (cJ, 256, .inr (.inl (fun _ => 0))))]) [0, 1] rfl
  have hD9 := hD.sub (ws' := [(e_a, .inr (1, [.int 0, .int 0, .ref n18])), (n18, .inl (cJ, 256, .inr (.inl (fun _ => 0))))]) [0, 1] (by decide) rfl
  refine W.widen (k := 1) (n := 256) (Nat.le_refl _) (Nat.le_refl _) ?_
  exact W.vret hx hb hr (fun t ht hW => ⟨⟨n18, rfl, trivial, by rw [ht]; exact hP9, hD9⟩, hS.F ht⟩) hS.2.2 dX1_init_23
/-! X4_init -/
abbrev rm_X4_init : Room := { frames := 2, cells := 16, slots := 399, locals := 49 }
theorem in_X4_init_0 : ∀ w ∈ u_ws RX0 TX0 3, w ∈ wsX4_init := by decide +kernel
theorem in_X4_init_1 : ∀ w ∈ u_ws RX1 TX1 3, w ∈ wsX4_init := by decide +kernel
theorem in_X4_init_2 : ∀ w ∈ u_ws RX2 TX2 2, w ∈ wsX4_init := by decide +kernel
theorem in_X4_init_3 : ∀ w ∈ u_ws RX3 TX3 5, w ∈ wsX4_init := by decide +kernel
theorem in_X4_init_4 : ∀ w ∈ u_ws RX4 TX4 8, w ∈ wsX4_init := by decide +kernel
set_option maxHeartbeats 4000000 in
set_option maxRecDepth 100000 in
theorem c_X4_init (l : Launch) (dC : Nat → ClassId) (dI : Nat → Nat → Nat) (cI cZ cJ cW : ClassId) (sz : Nat) (g_a : Nat) (R : (Nat → Int32) × (Nat → Int32) × (Nat → Int32)) (hM : M_X4_init = some R) : Met l yX4_init wsX4_init rm_X4_init (va_Pc [.ref g_a] (MP (dC, dI) cI cZ cJ cW sz [(g_a, .inr (4, [.null, .null, .null, .null, .null, .int 0, .int 0, .int 0]))])) (va_Qv (fun (_ : Nat × Nat × Nat × Nat × Nat × Nat × Nat × Nat × Nat × Nat × Nat × Nat × Nat × Nat × Nat × Nat) => True) (fun u t => va_P (dC, dI) vwCl [(g_a, .inr (4, [.ref u.1, .ref u.2.2.2.1, .ref u.2.2.2.2.2.2.2.2.2.2.1, .ref u.2.2.2.2.2.2.2.2.2.2.2.2.1, .ref u.2.2.2.2.2.2.2.2.2.2.2.2.2.2.1, .int 0, .int (-6), .int 0])), (u.1, .inr (3, [.int 8, .int 0, .int 0, .ref u.2.1, .ref u.2.2.1])), (u.2.1, .inl (cI, 14, .inl R.1)), (u.2.2.1, .inl (cI, 14, .inl (fun _ => 0))), (u.2.2.2.1, .inl (cW, 2, .inr (.inr (.inr (.inr (im2 u.2.2.2.2.1 u.2.2.2.2.2.2.2.1)))))), (u.2.2.2.2.1, .inr (3, [.int 8, .int 0, .int 0, .ref u.2.2.2.2.2.1, .ref u.2.2.2.2.2.2.1])), (u.2.2.2.2.2.1, .inl (cI, 14, .inl R.2.1)), (u.2.2.2.2.2.2.1, .inl (cI, 14, .inl (fun _ => 0))), (u.2.2.2.2.2.2.2.1, .inr (3, [.int 8, .int 0, .int 0, .ref u.2.2.2.2.2.2.2.2.1, .ref u.2.2.2.2.2.2.2.2.2.1])), (u.2.2.2.2.2.2.2.2.1, .inl (cI, 14, .inl R.2.2)), (u.2.2.2.2.2.2.2.2.2.1, .inl (cI, 14, .inl (fun _ => 0))), (u.2.2.2.2.2.2.2.2.2.2.1, .inr (2, [.ref u.2.2.2.2.2.2.2.2.2.2.2.1, .int 0])), (u.2.2.2.2.2.2.2.2.2.2.2.1, .inl (cI, 20, .inl (fun _ => 0))), (u.2.2.2.2.2.2.2.2.2.2.2.2.1, .inr (0, [.int 0, .ref u.2.2.2.2.2.2.2.2.2.2.2.2.2.1, .int 0])), (u.2.2.2.2.2.2.2.2.2.2.2.2.2.1, .inl (cI, 14, .inl (fun _ => 0))), (u.2.2.2.2.2.2.2.2.2.2.2.2.2.2.1, .inr (1, [.int 0, .int 0, .ref u.2.2.2.2.2.2.2.2.2.2.2.2.2.2.2])), (u.2.2.2.2.2.2.2.2.2.2.2.2.2.2.2, .inl (cJ, 256, .inr (.inl (fun _ => 0))))] t.heap ∧ va_D (va_A [(g_a, .inr (4, [.null, .null, .null, .null, .null, .int 0, .int 0, .int 0]))] sz) [(g_a, .inr (4, [.ref u.1, .ref u.2.2.2.1, .ref u.2.2.2.2.2.2.2.2.2.2.1, .ref u.2.2.2.2.2.2.2.2.2.2.2.2.1, .ref u.2.2.2.2.2.2.2.2.2.2.2.2.2.2.1, .int 0, .int (-6), .int 0])), (u.1, .inr (3, [.int 8, .int 0, .int 0, .ref u.2.1, .ref u.2.2.1])), (u.2.1, .inl (cI, 14, .inl R.1)), (u.2.2.1, .inl (cI, 14, .inl (fun _ => 0))), (u.2.2.2.1, .inl (cW, 2, .inr (.inr (.inr (.inr (im2 u.2.2.2.2.1 u.2.2.2.2.2.2.2.1)))))), (u.2.2.2.2.1, .inr (3, [.int 8, .int 0, .int 0, .ref u.2.2.2.2.2.1, .ref u.2.2.2.2.2.2.1])), (u.2.2.2.2.2.1, .inl (cI, 14, .inl R.2.1)), (u.2.2.2.2.2.2.1, .inl (cI, 14, .inl (fun _ => 0))), (u.2.2.2.2.2.2.2.1, .inr (3, [.int 8, .int 0, .int 0, .ref u.2.2.2.2.2.2.2.2.1, .ref u.2.2.2.2.2.2.2.2.2.1])), (u.2.2.2.2.2.2.2.2.1, .inl (cI, 14, .inl R.2.2)), (u.2.2.2.2.2.2.2.2.2.1, .inl (cI, 14, .inl (fun _ => 0))), (u.2.2.2.2.2.2.2.2.2.2.1, .inr (2, [.ref u.2.2.2.2.2.2.2.2.2.2.2.1, .int 0])), (u.2.2.2.2.2.2.2.2.2.2.2.1, .inl (cI, 20, .inl (fun _ => 0))), (u.2.2.2.2.2.2.2.2.2.2.2.2.1, .inr (0, [.int 0, .ref u.2.2.2.2.2.2.2.2.2.2.2.2.2.1, .int 0])), (u.2.2.2.2.2.2.2.2.2.2.2.2.2.1, .inl (cI, 14, .inl (fun _ => 0))), (u.2.2.2.2.2.2.2.2.2.2.2.2.2.2.1, .inr (1, [.int 0, .int 0, .ref u.2.2.2.2.2.2.2.2.2.2.2.2.2.2.2])), (u.2.2.2.2.2.2.2.2.2.2.2.2.2.2.2, .inl (cJ, 256, .inr (.inl (fun _ => 0))))]) (va_A [(g_a, .inr (4, [.null, .null, .null, .null, .null, .int 0, .int 0, .int 0]))] sz)) 16 399 (va_A [(g_a, .inr (4, [.null, .null, .null, .null, .null, .int 0, .int 0, .int 0]))] sz) := by
  refine Met.ofW (cc := cX4_init) (maxL := 1) (ret := none) (by decide) rfl ?_
  intro p e s m args below meth c s₁ B hml hv
  obtain ⟨rfl, hsz, hP, hK, hN, hD0⟩ := hv
  have hx := B.exec
  have hb := B.bytes
  have hr := B.returns
  have hts := atoms_spec (ws := wsX4_init) B.pre
  have hown : s.vm.findClass RX4 = some m.cls := findClass_of_methodNamed B.named
  have hlocks := B.notSynchronized
  have hini : meth.name = "<init>" := (name_of_methodNamed B.named B.method).1
  have hoi := hts (.code objectInit ⟨#[0xb1]⟩ 1 none) (List.mem_cons_of_mem _ (List.mem_append_left _ (List.mem_append_left _ (List.mem_append_left _ (List.mem_append_left _ (List.mem_append_left _ (List.mem_append_left _ (List.mem_of_getElem? (i := 2) rfl))))))))
  subst hsz
  have hD := hD0.self (sz := s.heap.size)
  generalize hAe : va_A [(g_a, .inr (4, [.null, .null, .null, .null, .null, .int 0, .int 0, .int 0]))] s.heap.size = A at hD ⊢
  have hA : ∀ q : Nat, s.heap.size ≤ q → A q := fun q h => by rw [← hAe]; exact Or.inr h
  have hS : va_S A s.heap s.heap [] := va_S.rf
  have hf10 := hts (.fieldLink RX4 10 "WordGrounds" "words" "LWordGrounds$Words;") (by decide +kernel)
  have hf16 := hts (.fieldLink RX4 16 "WordGrounds" "images" "[LWordGrounds$Words;") (by decide +kernel)
  have hf23 := hts (.fieldLink RX4 23 "WordGrounds" "text" "LWordGrounds$Text;") (by decide +kernel)
  have hf30 := hts (.fieldLink RX4 30 "WordGrounds" "rings" "LWordGrounds$Rings;") (by decide +kernel)
  have hf37 := hts (.fieldLink RX4 37 "WordGrounds" "tellings" "LWordGrounds$Tellings;") (by decide +kernel)
  have hf41 := hts (.fieldLink RX4 41 "WordGrounds" "keptImages" "I") (by decide +kernel)
  have hf45 := hts (.fieldLink RX4 45 "WordGrounds" "toldFault" "I") (by decide +kernel)
  have hf48 := hts (.fieldLink RX4 48 "WordGrounds" "tellingsStand" "Z") (by decide +kernel)
  have hl := lv_entry ([.ref g_a]) (n := 1) (Nat.le_of_ble_eq_true rfl)
  rw [lg_entry_eq]
  generalize (lg_sl ([.ref g_a]) ++ List.replicate (1 - (lg_sl ([.ref g_a])).length) Slot.unset).toArray = ls at hl ⊢
  have hl : lv_has ls 1 [(0, .ref g_a)] := hl
  have hP : va_P (dC, dI) vwCl [(g_a, .inr (4, [.null, .null, .null, .null, .null, .int 0, .int 0, .int 0]))] s.heap := hP
  have hM : ((M_X3_init).bind (fun q9 => (M_X3_init).bind (fun q26 => (M_X3_init).bind (fun q36 => some (q9, q26, q36))))) = some R := hM
  refine lv_aload_n hx hb dX4_init_0 rfl (lv_at hl 0 rfl) ?_
  refine W.objInit hx hb hown (hts (.methodLink RX4 1 objectInit) (by decide +kernel)) (hts (.instanceMethod objectInit) (by decide +kernel)) hoi rfl (by rw [hml]; exact hl.1) rfl dX4_init_1 (Nat.le_of_ble_eq_true rfl) (Nat.le_of_ble_eq_true rfl) ?_
  refine W.eq (g2 := F0 m 4 ls []) rfl ?_
  refine lv_aload_n hx hb dX4_init_4 rfl (lv_at hl 0 rfl) ?_
  refine va_new (ci := 3) (fs := [.int 0, .int 0, .int 0, .null, .null]) (C := RX3) (T := TX3) (N := 5) hx hb hts in_X4_init_3 tyX3 tyX3_ok hown (hts (.classLink RX4 7 RX3) (by decide +kernel)) (hts (.instantiable RX3 5) (by decide +kernel)) (hts (.initialized RX3) (by decide +kernel)) hK hP hD hS hA rfl (fun j hj => by rcases (show j = 0 ∨ j = 1 ∨ j = 2 ∨ j = 3 ∨ j = 4 by omega) with rfl | rfl | rfl | rfl | rfl <;> rfl) (Nat.le_of_ble_eq_true rfl) (Nat.le_of_ble_eq_true rfl) dX4_init_5 (fun n5 H hP hD hS => ?_)
  have hP : va_P (dC, dI) vwCl [(g_a, .inr (4, [.null, .null, .null, .null, .null, .int 0, .int 0, .int 0])), (n5, .inr (3, [.int 0, .int 0, .int 0, .null, .null]))] H := hP
  have hD : va_D A [(g_a, .inr (4, [.null, .null, .null, .null, .null, .int 0, .int 0, .int 0])), (n5, .inr (3, [.int 0, .int 0, .int 0, .null, .null]))] := hD
  refine W.widen (k := 1) (n := 5) (Nat.le_of_ble_eq_true rfl) (Nat.le_of_ble_eq_true rfl) ?_
  refine lv_dup hx hb dX4_init_8 rfl ?_
  obtain ⟨q9, hv9, hM⟩ := ob_bind hM
  have hPc := hP.sub (ws' := [(n5, .inr (3, [.int 0, .int 0, .int 0, .null, .null]))]) [1] rfl
  have hDc := hD.sub (ws' := [(n5, .inr (3, [.int 0, .int 0, .int 0, .null, .null]))]) [1] (by decide) rfl
  have hFc := va_free (wc := [(n5, .inr (3, [.int 0, .int 0, .int 0, .null, .null]))]) hD hS hA [1] rfl
  refine va_callv (va_runIN (As := []) (rest := [.ref n5, .ref g_a]) ⟨hx, hb, hml, hown, hts⟩ (c_X3_init l dC dI cI cZ cJ cW (H.size) n5 q9 hv9) ⟨va_cnB 0 hts gX4_init_X3_init_n9 rfl rfl rfl (hN.1 (.methodLinkNest RX4 9 yX3_init "WordGrounds") (List.mem_of_getElem? (i := 0) rfl)) (hts (.initialized RX3) (by decide +kernel)) (by decide +kernel) ⟨Nat.le_of_ble_eq_true rfl, Nat.le_of_ble_eq_true rfl⟩, rfl, hts (.instanceMethod yX3_init) (by decide +kernel)⟩ ⟨MP.blind, fun U hU hW => ⟨rfl, by rw [hU], by rw [hU]; exact hPc, va_K.moved hW.alike hK, hN.warm hW, hDc.weaken (fun _ _ _ _ => trivial)⟩⟩ rfl rfl hl.1 rfl (lv_room (Nat.le_of_ble_eq_true rfl)) dX4_init_9 ⟨Nat.le_of_ble_eq_true rfl, Nat.le_of_ble_eq_true rfl⟩) hS (fun q _ h => hFc q h) hFc (fun u t H1 locs ht hvm hw hB hz1 hk1 hS => ?_)
  obtain ⟨a9_0, a9_1⟩ := u
  obtain ⟨hP1, hD1⟩ := hB
  rw [ht] at hP1
  obtain ⟨hP, hD⟩ := va_join (wr := [(g_a, .inr (4, [.null, .null, .null, .null, .null, .int 0, .int 0, .int 0]))]) (w1 := [(n5, .inr (3, [.int 8, .int 0, .int 0, .ref a9_0, .ref a9_1])), (a9_0, .inl (cI, 14, .inl q9)), (a9_1, .inl (cI, 14, .inl (fun _ => 0)))]) hP hD [1] [0] rfl rfl (by decide) (by decide) hk1 hFc hP1 hD1
  generalize H1 = H at hP hS ⊢
  have hP : va_P (dC, dI) vwCl [(g_a, .inr (4, [.null, .null, .null, .null, .null, .int 0, .int 0, .int 0])), (n5, .inr (3, [.int 8, .int 0, .int 0, .ref a9_0, .ref a9_1])), (a9_0, .inl (cI, 14, .inl q9)), (a9_1, .inl (cI, 14, .inl (fun _ => 0)))] H := hP
  have hD : va_D A [(g_a, .inr (4, [.null, .null, .null, .null, .null, .int 0, .int 0, .int 0])), (n5, .inr (3, [.int 8, .int 0, .int 0, .ref a9_0, .ref a9_1])), (a9_0, .inl (cI, 14, .inl q9)), (a9_1, .inl (cI, 14, .inl (fun _ => 0)))] := hD
  refine W.widen (k := 3) (n := 33) (Nat.le_of_ble_eq_true rfl) (Nat.le_of_ble_eq_true rfl) ?_
  refine va_putF (D := (dC, dI)) (ci := 4) (v := .ref n5) (ty := (.object "WordGrounds$Words")) (C := RX4) (T := TX4) (N := 8) hx hb hts in_X4_init_4 tyX4 tyX4_ok nmX4 hown hK hP hD hS 0 rfl rfl 0 (by decide) hf10 (fun _ h9 => h9) rfl hini rfl (by decide +kernel) rfl rfl (Nat.le_of_ble_eq_true rfl) dX4_init_12 (fun H locs hP hD hS => ?_)
  have hP : va_P (dC, dI) vwCl [(g_a, .inr (4, [.ref n5, .null, .null, .null, .null, .int 0, .int 0, .int 0])), (n5, .inr (3, [.int 8, .int 0, .int 0, .ref a9_0, .ref a9_1])), (a9_0, .inl (cI, 14, .inl q9)), (a9_1, .inl (cI, 14, .inl (fun _ => 0)))] H := hP
  have hD : va_D A [(g_a, .inr (4, [.ref n5, .null, .null, .null, .null, .int 0, .int 0, .int 0])), (n5, .inr (3, [.int 8, .int 0, .int 0, .ref a9_0, .ref a9_1])), (a9_0, .inl (cI, 14, .inl q9)), (a9_1, .inl (cI, 14, .inl (fun _ => 0)))] := hD
  refine lv_aload_n hx hb dX4_init_15 rfl (lv_at hl 0 rfl) ?_
  refine lv_iconst (v := 2) hx hb dX4_init_16 (by decide) ?_
  refine va_newq (C := RX3) hx hb hown (hts (.classLink RX4 7 RX3) (by decide +kernel)) hN.2 hK hP hD hS hA (by decide) (N' := 2) (by decide) (Nat.le_of_ble_eq_true rfl) (Nat.le_of_ble_eq_true rfl) (Nat.le_of_ble_eq_true rfl) dX4_init_17 (fun n17 cA H hKn hP hD hS => ?_)
  obtain rfl : cW = cA := K4.A hK hKn
  have hP : va_P (dC, dI) vwCl [(g_a, .inr (4, [.ref n5, .null, .null, .null, .null, .int 0, .int 0, .int 0])), (n5, .inr (3, [.int 8, .int 0, .int 0, .ref a9_0, .ref a9_1])), (a9_0, .inl (cI, 14, .inl q9)), (a9_1, .inl (cI, 14, .inl (fun _ => 0))), (n17, .inl (cW, 2, .inr (.inr (.inr (.inr ((fun _ => none)))))))] H := hP
  have hD : va_D A [(g_a, .inr (4, [.ref n5, .null, .null, .null, .null, .int 0, .int 0, .int 0])), (n5, .inr (3, [.int 8, .int 0, .int 0, .ref a9_0, .ref a9_1])), (a9_0, .inl (cI, 14, .inl q9)), (a9_1, .inl (cI, 14, .inl (fun _ => 0))), (n17, .inl (cW, 2, .inr (.inr (.inr (.inr ((fun _ => none)))))))] := hD
  refine W.widen (k := 4) (n := 35) (Nat.le_of_ble_eq_true rfl) (Nat.le_of_ble_eq_true rfl) ?_
  refine lv_dup hx hb dX4_init_20 rfl ?_
  refine lv_iconst (v := 0) hx hb dX4_init_21 (by decide) ?_
  refine va_new (ci := 3) (fs := [.int 0, .int 0, .int 0, .null, .null]) (C := RX3) (T := TX3) (N := 5) hx hb hts in_X4_init_3 tyX3 tyX3_ok hown (hts (.classLink RX4 7 RX3) (by decide +kernel)) (hts (.instantiable RX3 5) (by decide +kernel)) (hts (.initialized RX3) (by decide +kernel)) hK hP hD hS hA rfl (fun j hj => by rcases (show j = 0 ∨ j = 1 ∨ j = 2 ∨ j = 3 ∨ j = 4 by omega) with rfl | rfl | rfl | rfl | rfl <;> rfl) (Nat.le_of_ble_eq_true rfl) (Nat.le_of_ble_eq_true rfl) dX4_init_22 (fun n22 H hP hD hS => ?_)
  have hP : va_P (dC, dI) vwCl [(g_a, .inr (4, [.ref n5, .null, .null, .null, .null, .int 0, .int 0, .int 0])), (n5, .inr (3, [.int 8, .int 0, .int 0, .ref a9_0, .ref a9_1])), (a9_0, .inl (cI, 14, .inl q9)), (a9_1, .inl (cI, 14, .inl (fun _ => 0))), (n17, .inl (cW, 2, .inr (.inr (.inr (.inr ((fun _ => none))))))), (n22, .inr (3, [.int 0, .int 0, .int 0, .null, .null]))] H := hP
  have hD : va_D A [(g_a, .inr (4, [.ref n5, .null, .null, .null, .null, .int 0, .int 0, .int 0])), (n5, .inr (3, [.int 8, .int 0, .int 0, .ref a9_0, .ref a9_1])), (a9_0, .inl (cI, 14, .inl q9)), (a9_1, .inl (cI, 14, .inl (fun _ => 0))), (n17, .inl (cW, 2, .inr (.inr (.inr (.inr ((fun _ => none))))))), (n22, .inr (3, [.int 0, .int 0, .int 0, .null, .null]))] := hD
  refine W.widen (k := 5) (n := 40) (Nat.le_of_ble_eq_true rfl) (Nat.le_of_ble_eq_true rfl) ?_
  refine lv_dup hx hb dX4_init_25 rfl ?_
  obtain ⟨q26, hv26, hM⟩ := ob_bind hM
  have hPc := hP.sub (ws' := [(n22, .inr (3, [.int 0, .int 0, .int 0, .null, .null]))]) [5] rfl
  have hDc := hD.sub (ws' := [(n22, .inr (3, [.int 0, .int 0, .int 0, .null, .null]))]) [5] (by decide) rfl
  have hFc := va_free (wc := [(n22, .inr (3, [.int 0, .int 0, .int 0, .null, .null]))]) hD hS hA [5] rfl
  refine va_callv (va_runIN (As := []) (rest := [.ref n22, .int 0, .ref n17, .ref n17, .ref g_a]) ⟨hx, hb, hml, hown, hts⟩ (c_X3_init l dC dI cI cZ cJ cW (H.size) n22 q26 hv26) ⟨va_cnB 0 hts gX4_init_X3_init_n9 rfl rfl rfl (hN.1 (.methodLinkNest RX4 9 yX3_init "WordGrounds") (List.mem_of_getElem? (i := 0) rfl)) (hts (.initialized RX3) (by decide +kernel)) (by decide +kernel) ⟨Nat.le_of_ble_eq_true rfl, Nat.le_of_ble_eq_true rfl⟩, rfl, hts (.instanceMethod yX3_init) (by decide +kernel)⟩ ⟨MP.blind, fun U hU hW => ⟨rfl, by rw [hU], by rw [hU]; exact hPc, va_K.moved hW.alike hK, hN.warm hW, hDc.weaken (fun _ _ _ _ => trivial)⟩⟩ rfl rfl hl.1 rfl (lv_room (Nat.le_of_ble_eq_true rfl)) dX4_init_26 ⟨Nat.le_of_ble_eq_true rfl, Nat.le_of_ble_eq_true rfl⟩) hS (fun q _ h => hFc q h) hFc (fun u t H1 locs ht hvm hw hB hz1 hk1 hS => ?_)
  obtain ⟨a26_0, a26_1⟩ := u
  obtain ⟨hP1, hD1⟩ := hB
  rw [ht] at hP1
  obtain ⟨hP, hD⟩ := va_join (wr := [(g_a, .inr (4, [.ref n5, .null, .null, .null, .null, .int 0, .int 0, .int 0])), (n5, .inr (3, [.int 8, .int 0, .int 0, .ref a9_0, .ref a9_1])), (a9_0, .inl (cI, 14, .inl q9)), (a9_1, .inl (cI, 14, .inl (fun _ => 0))), (n17, .inl (cW, 2, .inr (.inr (.inr (.inr ((fun _ => none)))))))]) (w1 := [(n22, .inr (3, [.int 8, .int 0, .int 0, .ref a26_0, .ref a26_1])), (a26_0, .inl (cI, 14, .inl q26)), (a26_1, .inl (cI, 14, .inl (fun _ => 0)))]) hP hD [5] [0, 1, 2, 3, 4] rfl rfl (by decide) (by decide) hk1 hFc hP1 hD1
  generalize H1 = H at hP hS ⊢
  have hP : va_P (dC, dI) vwCl [(g_a, .inr (4, [.ref n5, .null, .null, .null, .null, .int 0, .int 0, .int 0])), (n5, .inr (3, [.int 8, .int 0, .int 0, .ref a9_0, .ref a9_1])), (a9_0, .inl (cI, 14, .inl q9)), (a9_1, .inl (cI, 14, .inl (fun _ => 0))), (n17, .inl (cW, 2, .inr (.inr (.inr (.inr ((fun _ => none))))))), (n22, .inr (3, [.int 8, .int 0, .int 0, .ref a26_0, .ref a26_1])), (a26_0, .inl (cI, 14, .inl q26)), (a26_1, .inl (cI, 14, .inl (fun _ => 0)))] H := hP
  have hD : va_D A [(g_a, .inr (4, [.ref n5, .null, .null, .null, .null, .int 0, .int 0, .int 0])), (n5, .inr (3, [.int 8, .int 0, .int 0, .ref a9_0, .ref a9_1])), (a9_0, .inl (cI, 14, .inl q9)), (a9_1, .inl (cI, 14, .inl (fun _ => 0))), (n17, .inl (cW, 2, .inr (.inr (.inr (.inr ((fun _ => none))))))), (n22, .inr (3, [.int 8, .int 0, .int 0, .ref a26_0, .ref a26_1])), (a26_0, .inl (cI, 14, .inl q26)), (a26_1, .inl (cI, 14, .inl (fun _ => 0)))] := hD
  refine W.widen (k := 7) (n := 68) (Nat.le_of_ble_eq_true rfl) (Nat.le_of_ble_eq_true rfl) ?_
  refine va_astq (r := (RX3, TX3, 5)) hx hb hK hP hD hS 4 3 5 3 rfl rfl rfl rfl (i := 0) (by unfold vp_in; decide) dX4_init_29 (fun H locs hP hD hS => ?_)
  have hP : va_P (dC, dI) vwCl [(g_a, .inr (4, [.ref n5, .null, .null, .null, .null, .int 0, .int 0, .int 0])), (n5, .inr (3, [.int 8, .int 0, .int 0, .ref a9_0, .ref a9_1])), (a9_0, .inl (cI, 14, .inl q9)), (a9_1, .inl (cI, 14, .inl (fun _ => 0))), (n17, .inl (cW, 2, .inr (.inr (.inr (.inr ((va_up (fun _ => none) (0 : Int32).toNatClampNeg (some n22)))))))), (n22, .inr (3, [.int 8, .int 0, .int 0, .ref a26_0, .ref a26_1])), (a26_0, .inl (cI, 14, .inl q26)), (a26_1, .inl (cI, 14, .inl (fun _ => 0)))] H := hP
  have hD : va_D A [(g_a, .inr (4, [.ref n5, .null, .null, .null, .null, .int 0, .int 0, .int 0])), (n5, .inr (3, [.int 8, .int 0, .int 0, .ref a9_0, .ref a9_1])), (a9_0, .inl (cI, 14, .inl q9)), (a9_1, .inl (cI, 14, .inl (fun _ => 0))), (n17, .inl (cW, 2, .inr (.inr (.inr (.inr ((va_up (fun _ => none) (0 : Int32).toNatClampNeg (some n22)))))))), (n22, .inr (3, [.int 8, .int 0, .int 0, .ref a26_0, .ref a26_1])), (a26_0, .inl (cI, 14, .inl q26)), (a26_1, .inl (cI, 14, .inl (fun _ => 0)))] := hD
  refine lv_dup hx hb dX4_init_30 rfl ?_
  refine lv_iconst (v := 1) hx hb dX4_init_31 (by decide) ?_
  refine va_new (ci := 3) (fs := [.int 0, .int 0, .int 0, .null, .null]) (C := RX3) (T := TX3) (N := 5) hx hb hts in_X4_init_3 tyX3 tyX3_ok hown (hts (.classLink RX4 7 RX3) (by decide +kernel)) (hts (.instantiable RX3 5) (by decide +kernel)) (hts (.initialized RX3) (by decide +kernel)) hK hP hD hS hA rfl (fun j hj => by rcases (show j = 0 ∨ j = 1 ∨ j = 2 ∨ j = 3 ∨ j = 4 by omega) with rfl | rfl | rfl | rfl | rfl <;> rfl) (Nat.le_of_ble_eq_true rfl) (Nat.le_of_ble_eq_true rfl) dX4_init_32 (fun n32 H hP hD hS => ?_)
  have hP : va_P (dC, dI) vwCl [(g_a, .inr (4, [.ref n5, .null, .null, .null, .null, .int 0, .int 0, .int 0])), (n5, .inr (3, [.int 8, .int 0, .int 0, .ref a9_0, .ref a9_1])), (a9_0, .inl (cI, 14, .inl q9)), (a9_1, .inl (cI, 14, .inl (fun _ => 0))), (n17, .inl (cW, 2, .inr (.inr (.inr (.inr ((va_up (fun _ => none) (0 : Int32).toNatClampNeg (some n22)))))))), (n22, .inr (3, [.int 8, .int 0, .int 0, .ref a26_0, .ref a26_1])), (a26_0, .inl (cI, 14, .inl q26)), (a26_1, .inl (cI, 14, .inl (fun _ => 0))), (n32, .inr (3, [.int 0, .int 0, .int 0, .null, .null]))] H := hP
  have hD : va_D A [(g_a, .inr (4, [.ref n5, .null, .null, .null, .null, .int 0, .int 0, .int 0])), (n5, .inr (3, [.int 8, .int 0, .int 0, .ref a9_0, .ref a9_1])), (a9_0, .inl (cI, 14, .inl q9)), (a9_1, .inl (cI, 14, .inl (fun _ => 0))), (n17, .inl (cW, 2, .inr (.inr (.inr (.inr ((va_up (fun _ => none) (0 : Int32).toNatClampNeg (some n22)))))))), (n22, .inr (3, [.int 8, .int 0, .int 0, .ref a26_0, .ref a26_1])), (a26_0, .inl (cI, 14, .inl q26)), (a26_1, .inl (cI, 14, .inl (fun _ => 0))), (n32, .inr (3, [.int 0, .int 0, .int 0, .null, .null]))] := hD
  refine W.widen (k := 8) (n := 73) (Nat.le_of_ble_eq_true rfl) (Nat.le_of_ble_eq_true rfl) ?_
  refine lv_dup hx hb dX4_init_35 rfl ?_
  obtain ⟨q36, hv36, hM⟩ := ob_bind hM
  have hPc := hP.sub (ws' := [(n32, .inr (3, [.int 0, .int 0, .int 0, .null, .null]))]) [8] rfl
  have hDc := hD.sub (ws' := [(n32, .inr (3, [.int 0, .int 0, .int 0, .null, .null]))]) [8] (by decide) rfl
  have hFc := va_free (wc := [(n32, .inr (3, [.int 0, .int 0, .int 0, .null, .null]))]) hD hS hA [8] rfl
  refine va_callv (va_runIN (As := []) (rest := [.ref n32, .int 1, .ref n17, .ref n17, .ref g_a]) ⟨hx, hb, hml, hown, hts⟩ (c_X3_init l dC dI cI cZ cJ cW (H.size) n32 q36 hv36) ⟨va_cnB 0 hts gX4_init_X3_init_n9 rfl rfl rfl (hN.1 (.methodLinkNest RX4 9 yX3_init "WordGrounds") (List.mem_of_getElem? (i := 0) rfl)) (hts (.initialized RX3) (by decide +kernel)) (by decide +kernel) ⟨Nat.le_of_ble_eq_true rfl, Nat.le_of_ble_eq_true rfl⟩, rfl, hts (.instanceMethod yX3_init) (by decide +kernel)⟩ ⟨MP.blind, fun U hU hW => ⟨rfl, by rw [hU], by rw [hU]; exact hPc, va_K.moved hW.alike hK, hN.warm hW, hDc.weaken (fun _ _ _ _ => trivial)⟩⟩ rfl rfl hl.1 rfl (lv_room (Nat.le_of_ble_eq_true rfl)) dX4_init_36 ⟨Nat.le_of_ble_eq_true rfl, Nat.le_of_ble_eq_true rfl⟩) hS (fun q _ h => hFc q h) hFc (fun u t H1 locs ht hvm hw hB hz1 hk1 hS => ?_)
  obtain ⟨a36_0, a36_1⟩ := u
  obtain ⟨hP1, hD1⟩ := hB
  rw [ht] at hP1
  obtain ⟨hP, hD⟩ := va_join (wr := [(g_a, .inr (4, [.ref n5, .null, .null, .null, .null, .int 0, .int 0, .int 0])), (n5, .inr (3, [.int 8, .int 0, .int 0, .ref a9_0, .ref a9_1])), (a9_0, .inl (cI, 14, .inl q9)), (a9_1, .inl (cI, 14, .inl (fun _ => 0))), (n17, .inl (cW, 2, .inr (.inr (.inr (.inr ((va_up (fun _ => none) (0 : Int32).toNatClampNeg (some n22)))))))), (n22, .inr (3, [.int 8, .int 0, .int 0, .ref a26_0, .ref a26_1])), (a26_0, .inl (cI, 14, .inl q26)), (a26_1, .inl (cI, 14, .inl (fun _ => 0)))]) (w1 := [(n32, .inr (3, [.int 8, .int 0, .int 0, .ref a36_0, .ref a36_1])), (a36_0, .inl (cI, 14, .inl q36)), (a36_1, .inl (cI, 14, .inl (fun _ => 0)))]) hP hD [8] [0, 1, 2, 3, 4, 5, 6, 7] rfl rfl (by decide) (by decide) hk1 hFc hP1 hD1
  generalize H1 = H at hP hS ⊢
  have hP : va_P (dC, dI) vwCl [(g_a, .inr (4, [.ref n5, .null, .null, .null, .null, .int 0, .int 0, .int 0])), (n5, .inr (3, [.int 8, .int 0, .int 0, .ref a9_0, .ref a9_1])), (a9_0, .inl (cI, 14, .inl q9)), (a9_1, .inl (cI, 14, .inl (fun _ => 0))), (n17, .inl (cW, 2, .inr (.inr (.inr (.inr ((va_up (fun _ => none) (0 : Int32).toNatClampNeg (some n22)))))))), (n22, .inr (3, [.int 8, .int 0, .int 0, .ref a26_0, .ref a26_1])), (a26_0, .inl (cI, 14, .inl q26)), (a26_1, .inl (cI, 14, .inl (fun _ => 0))), (n32, .inr (3, [.int 8, .int 0, .int 0, .ref a36_0, .ref a36_1])), (a36_0, .inl (cI, 14, .inl q36)), (a36_1, .inl (cI, 14, .inl (fun _ => 0)))] H := hP
  have hD : va_D A [(g_a, .inr (4, [.ref n5, .null, .null, .null, .null, .int 0, .int 0, .int 0])), (n5, .inr (3, [.int 8, .int 0, .int 0, .ref a9_0, .ref a9_1])), (a9_0, .inl (cI, 14, .inl q9)), (a9_1, .inl (cI, 14, .inl (fun _ => 0))), (n17, .inl (cW, 2, .inr (.inr (.inr (.inr ((va_up (fun _ => none) (0 : Int32).toNatClampNeg (some n22)))))))), (n22, .inr (3, [.int 8, .int 0, .int 0, .ref a26_0, .ref a26_1])), (a26_0, .inl (cI, 14, .inl q26)), (a26_1, .inl (cI, 14, .inl (fun _ => 0))), (n32, .inr (3, [.int 8, .int 0, .int 0, .ref a36_0, .ref a36_1])), (a36_0, .inl (cI, 14, .inl q36)), (a36_1, .inl (cI, 14, .inl (fun _ => 0)))] := hD
  refine W.widen (k := 10) (n := 101) (Nat.le_of_ble_eq_true rfl) (Nat.le_of_ble_eq_true rfl) ?_
  refine va_astq (r := (RX3, TX3, 5)) hx hb hK hP hD hS 4 3 8 3 rfl rfl rfl rfl (i := 1) (by unfold vp_in; decide) dX4_init_39 (fun H locs hP hD hS => ?_)
  rw [show va_up (va_up (fun _ => none) (0 : Int32).toNatClampNeg (some n22)) (1 : Int32).toNatClampNeg (some n32) = im2 n22 n32 from im2_eq _ _] at hP hD
  have hP : va_P (dC, dI) vwCl [(g_a, .inr (4, [.ref n5, .null, .null, .null, .null, .int 0, .int 0, .int 0])), (n5, .inr (3, [.int 8, .int 0, .int 0, .ref a9_0, .ref a9_1])), (a9_0, .inl (cI, 14, .inl q9)), (a9_1, .inl (cI, 14, .inl (fun _ => 0))), (n17, .inl (cW, 2, .inr (.inr (.inr (.inr (im2 n22 n32)))))), (n22, .inr (3, [.int 8, .int 0, .int 0, .ref a26_0, .ref a26_1])), (a26_0, .inl (cI, 14, .inl q26)), (a26_1, .inl (cI, 14, .inl (fun _ => 0))), (n32, .inr (3, [.int 8, .int 0, .int 0, .ref a36_0, .ref a36_1])), (a36_0, .inl (cI, 14, .inl q36)), (a36_1, .inl (cI, 14, .inl (fun _ => 0)))] H := hP
  have hD : va_D A [(g_a, .inr (4, [.ref n5, .null, .null, .null, .null, .int 0, .int 0, .int 0])), (n5, .inr (3, [.int 8, .int 0, .int 0, .ref a9_0, .ref a9_1])), (a9_0, .inl (cI, 14, .inl q9)), (a9_1, .inl (cI, 14, .inl (fun _ => 0))), (n17, .inl (cW, 2, .inr (.inr (.inr (.inr (im2 n22 n32)))))), (n22, .inr (3, [.int 8, .int 0, .int 0, .ref a26_0, .ref a26_1])), (a26_0, .inl (cI, 14, .inl q26)), (a26_1, .inl (cI, 14, .inl (fun _ => 0))), (n32, .inr (3, [.int 8, .int 0, .int 0, .ref a36_0, .ref a36_1])), (a36_0, .inl (cI, 14, .inl q36)), (a36_1, .inl (cI, 14, .inl (fun _ => 0)))] := hD
  refine va_putF (D := (dC, dI)) (ci := 4) (v := .ref n17) (ty := (.array (.object "WordGrounds$Words"))) (C := RX4) (T := TX4) (N := 8) hx hb hts in_X4_init_4 tyX4 tyX4_ok nmX4 hown hK hP hD hS 0 rfl rfl 1 (by decide) hf16 (fun _ h9 => h9) rfl hini rfl (by decide +kernel) rfl rfl (Nat.le_of_ble_eq_true rfl) dX4_init_40 (fun H locs hP hD hS => ?_)
  have hP : va_P (dC, dI) vwCl [(g_a, .inr (4, [.ref n5, .ref n17, .null, .null, .null, .int 0, .int 0, .int 0])), (n5, .inr (3, [.int 8, .int 0, .int 0, .ref a9_0, .ref a9_1])), (a9_0, .inl (cI, 14, .inl q9)), (a9_1, .inl (cI, 14, .inl (fun _ => 0))), (n17, .inl (cW, 2, .inr (.inr (.inr (.inr (im2 n22 n32)))))), (n22, .inr (3, [.int 8, .int 0, .int 0, .ref a26_0, .ref a26_1])), (a26_0, .inl (cI, 14, .inl q26)), (a26_1, .inl (cI, 14, .inl (fun _ => 0))), (n32, .inr (3, [.int 8, .int 0, .int 0, .ref a36_0, .ref a36_1])), (a36_0, .inl (cI, 14, .inl q36)), (a36_1, .inl (cI, 14, .inl (fun _ => 0)))] H := hP
  have hD : va_D A [(g_a, .inr (4, [.ref n5, .ref n17, .null, .null, .null, .int 0, .int 0, .int 0])), (n5, .inr (3, [.int 8, .int 0, .int 0, .ref a9_0, .ref a9_1])), (a9_0, .inl (cI, 14, .inl q9)), (a9_1, .inl (cI, 14, .inl (fun _ => 0))), (n17, .inl (cW, 2, .inr (.inr (.inr (.inr (im2 n22 n32)))))), (n22, .inr (3, [.int 8, .int 0, .int 0, .ref a26_0, .ref a26_1])), (a26_0, .inl (cI, 14, .inl q26)), (a26_1, .inl (cI, 14, .inl (fun _ => 0))), (n32, .inr (3, [.int 8, .int 0, .int 0, .ref a36_0, .ref a36_1])), (a36_0, .inl (cI, 14, .inl q36)), (a36_1, .inl (cI, 14, .inl (fun _ => 0)))] := hD
  refine lv_aload_n hx hb dX4_init_43 rfl (lv_at hl 0 rfl) ?_
  refine va_new (ci := 2) (fs := [.null, .int 0]) (C := RX2) (T := TX2) (N := 2) hx hb hts in_X4_init_2 tyX2 tyX2_ok hown (hts (.classLink RX4 20 RX2) (by decide +kernel)) (hts (.instantiable RX2 2) (by decide +kernel)) (hts (.initialized RX2) (by decide +kernel)) hK hP hD hS hA rfl (fun j hj => by rcases (show j = 0 ∨ j = 1 by omega) with rfl | rfl <;> rfl) (Nat.le_of_ble_eq_true rfl) (Nat.le_of_ble_eq_true rfl) dX4_init_44 (fun n44 H hP hD hS => ?_)
  have hP : va_P (dC, dI) vwCl [(g_a, .inr (4, [.ref n5, .ref n17, .null, .null, .null, .int 0, .int 0, .int 0])), (n5, .inr (3, [.int 8, .int 0, .int 0, .ref a9_0, .ref a9_1])), (a9_0, .inl (cI, 14, .inl q9)), (a9_1, .inl (cI, 14, .inl (fun _ => 0))), (n17, .inl (cW, 2, .inr (.inr (.inr (.inr (im2 n22 n32)))))), (n22, .inr (3, [.int 8, .int 0, .int 0, .ref a26_0, .ref a26_1])), (a26_0, .inl (cI, 14, .inl q26)), (a26_1, .inl (cI, 14, .inl (fun _ => 0))), (n32, .inr (3, [.int 8, .int 0, .int 0, .ref a36_0, .ref a36_1])), (a36_0, .inl (cI, 14, .inl q36)), (a36_1, .inl (cI, 14, .inl (fun _ => 0))), (n44, .inr (2, [.null, .int 0]))] H := hP
  have hD : va_D A [(g_a, .inr (4, [.ref n5, .ref n17, .null, .null, .null, .int 0, .int 0, .int 0])), (n5, .inr (3, [.int 8, .int 0, .int 0, .ref a9_0, .ref a9_1])), (a9_0, .inl (cI, 14, .inl q9)), (a9_1, .inl (cI, 14, .inl (fun _ => 0))), (n17, .inl (cW, 2, .inr (.inr (.inr (.inr (im2 n22 n32)))))), (n22, .inr (3, [.int 8, .int 0, .int 0, .ref a26_0, .ref a26_1])), (a26_0, .inl (cI, 14, .inl q26)), (a26_1, .inl (cI, 14, .inl (fun _ => 0))), (n32, .inr (3, [.int 8, .int 0, .int 0, .ref a36_0, .ref a36_1])), (a36_0, .inl (cI, 14, .inl q36)), (a36_1, .inl (cI, 14, .inl (fun _ => 0))), (n44, .inr (2, [.null, .int 0]))] := hD
  refine W.widen (k := 11) (n := 103) (Nat.le_of_ble_eq_true rfl) (Nat.le_of_ble_eq_true rfl) ?_
  refine lv_dup hx hb dX4_init_47 rfl ?_
  have hPc := hP.sub (ws' := [(n44, .inr (2, [.null, .int 0]))]) [11] rfl
  have hDc := hD.sub (ws' := [(n44, .inr (2, [.null, .int 0]))]) [11] (by decide) rfl
  have hFc := va_free (wc := [(n44, .inr (2, [.null, .int 0]))]) hD hS hA [11] rfl
  refine va_callv (va_runIN (As := []) (rest := [.ref n44, .ref g_a]) ⟨hx, hb, hml, hown, hts⟩ (c_X2_init l dC dI cI cZ cJ cW (H.size) n44) ⟨va_cnB 0 hts gX4_init_X2_init_n22 rfl rfl rfl (hN.1 (.methodLinkNest RX4 22 yX2_init "WordGrounds") (List.mem_of_getElem? (i := 11) rfl)) (hts (.initialized RX2) (by decide +kernel)) (by decide +kernel) ⟨Nat.le_of_ble_eq_true rfl, Nat.le_of_ble_eq_true rfl⟩, rfl, hts (.instanceMethod yX2_init) (by decide +kernel)⟩ ⟨MP.blind, fun U hU hW => ⟨rfl, by rw [hU], by rw [hU]; exact hPc, va_K.moved hW.alike hK, hN.warm hW, hDc.weaken (fun _ _ _ _ => trivial)⟩⟩ rfl rfl hl.1 rfl (lv_room (Nat.le_of_ble_eq_true rfl)) dX4_init_48 ⟨Nat.le_of_ble_eq_true rfl, Nat.le_of_ble_eq_true rfl⟩) hS (fun q _ h => hFc q h) hFc (fun u t H1 locs ht hvm hw hB hz1 hk1 hS => ?_)
  obtain ⟨a48_0, rfl⟩ : ∃ z, z = u := ⟨_, rfl⟩
  obtain ⟨hP1, hD1⟩ := hB
  rw [ht] at hP1
  obtain ⟨hP, hD⟩ := va_join (wr := [(g_a, .inr (4, [.ref n5, .ref n17, .null, .null, .null, .int 0, .int 0, .int 0])), (n5, .inr (3, [.int 8, .int 0, .int 0, .ref a9_0, .ref a9_1])), (a9_0, .inl (cI, 14, .inl q9)), (a9_1, .inl (cI, 14, .inl (fun _ => 0))), (n17, .inl (cW, 2, .inr (.inr (.inr (.inr (im2 n22 n32)))))), (n22, .inr (3, [.int 8, .int 0, .int 0, .ref a26_0, .ref a26_1])), (a26_0, .inl (cI, 14, .inl q26)), (a26_1, .inl (cI, 14, .inl (fun _ => 0))), (n32, .inr (3, [.int 8, .int 0, .int 0, .ref a36_0, .ref a36_1])), (a36_0, .inl (cI, 14, .inl q36)), (a36_1, .inl (cI, 14, .inl (fun _ => 0)))]) (w1 := [(n44, .inr (2, [.ref a48_0, .int 0])), (a48_0, .inl (cI, 20, .inl (fun _ => 0)))]) hP hD [11] [0, 1, 2, 3, 4, 5, 6, 7, 8, 9, 10] rfl rfl (by decide) (by decide) hk1 hFc hP1 hD1
  generalize H1 = H at hP hS ⊢
  have hP : va_P (dC, dI) vwCl [(g_a, .inr (4, [.ref n5, .ref n17, .null, .null, .null, .int 0, .int 0, .int 0])), (n5, .inr (3, [.int 8, .int 0, .int 0, .ref a9_0, .ref a9_1])), (a9_0, .inl (cI, 14, .inl q9)), (a9_1, .inl (cI, 14, .inl (fun _ => 0))), (n17, .inl (cW, 2, .inr (.inr (.inr (.inr (im2 n22 n32)))))), (n22, .inr (3, [.int 8, .int 0, .int 0, .ref a26_0, .ref a26_1])), (a26_0, .inl (cI, 14, .inl q26)), (a26_1, .inl (cI, 14, .inl (fun _ => 0))), (n32, .inr (3, [.int 8, .int 0, .int 0, .ref a36_0, .ref a36_1])), (a36_0, .inl (cI, 14, .inl q36)), (a36_1, .inl (cI, 14, .inl (fun _ => 0))), (n44, .inr (2, [.ref a48_0, .int 0])), (a48_0, .inl (cI, 20, .inl (fun _ => 0)))] H := hP
  have hD : va_D A [(g_a, .inr (4, [.ref n5, .ref n17, .null, .null, .null, .int 0, .int 0, .int 0])), (n5, .inr (3, [.int 8, .int 0, .int 0, .ref a9_0, .ref a9_1])), (a9_0, .inl (cI, 14, .inl q9)), (a9_1, .inl (cI, 14, .inl (fun _ => 0))), (n17, .inl (cW, 2, .inr (.inr (.inr (.inr (im2 n22 n32)))))), (n22, .inr (3, [.int 8, .int 0, .int 0, .ref a26_0, .ref a26_1])), (a26_0, .inl (cI, 14, .inl q26)), (a26_1, .inl (cI, 14, .inl (fun _ => 0))), (n32, .inr (3, [.int 8, .int 0, .int 0, .ref a36_0, .ref a36_1])), (a36_0, .inl (cI, 14, .inl q36)), (a36_1, .inl (cI, 14, .inl (fun _ => 0))), (n44, .inr (2, [.ref a48_0, .int 0])), (a48_0, .inl (cI, 20, .inl (fun _ => 0)))] := hD
  refine W.widen (k := 12) (n := 123) (Nat.le_of_ble_eq_true rfl) (Nat.le_of_ble_eq_true rfl) ?_
  refine va_putF (D := (dC, dI)) (ci := 4) (v := .ref n44) (ty := (.object "WordGrounds$Text")) (C := RX4) (T := TX4) (N := 8) hx hb hts in_X4_init_4 tyX4 tyX4_ok nmX4 hown hK hP hD hS 0 rfl rfl 2 (by decide) hf23 (fun _ h9 => h9) rfl hini rfl (by decide +kernel) rfl rfl (Nat.le_of_ble_eq_true rfl) dX4_init_51 (fun H locs hP hD hS => ?_)
  have hP : va_P (dC, dI) vwCl [(g_a, .inr (4, [.ref n5, .ref n17, .ref n44, .null, .null, .int 0, .int 0, .int 0])), (n5, .inr (3, [.int 8, .int 0, .int 0, .ref a9_0, .ref a9_1])), (a9_0, .inl (cI, 14, .inl q9)), (a9_1, .inl (cI, 14, .inl (fun _ => 0))), (n17, .inl (cW, 2, .inr (.inr (.inr (.inr (im2 n22 n32)))))), (n22, .inr (3, [.int 8, .int 0, .int 0, .ref a26_0, .ref a26_1])), (a26_0, .inl (cI, 14, .inl q26)), (a26_1, .inl (cI, 14, .inl (fun _ => 0))), (n32, .inr (3, [.int 8, .int 0, .int 0, .ref a36_0, .ref a36_1])), (a36_0, .inl (cI, 14, .inl q36)), (a36_1, .inl (cI, 14, .inl (fun _ => 0))), (n44, .inr (2, [.ref a48_0, .int 0])), (a48_0, .inl (cI, 20, .inl (fun _ => 0)))] H := hP
  have hD : va_D A [(g_a, .inr (4, [.ref n5, .ref n17, .ref n44, .null, .null, .int 0, .int 0, .int 0])), (n5, .inr (3, [.int 8, .int 0, .int 0, .ref a9_0, .ref a9_1])), (a9_0, .inl (cI, 14, .inl q9)), (a9_1, .inl (cI, 14, .inl (fun _ => 0))), (n17, .inl (cW, 2, .inr (.inr (.inr (.inr (im2 n22 n32)))))), (n22, .inr (3, [.int 8, .int 0, .int 0, .ref a26_0, .ref a26_1])), (a26_0, .inl (cI, 14, .inl q26)), (a26_1, .inl (cI, 14, .inl (fun _ => 0))), (n32, .inr (3, [.int 8, .int 0, .int 0, .ref a36_0, .ref a36_1])), (a36_0, .inl (cI, 14, .inl q36)), (a36_1, .inl (cI, 14, .inl (fun _ => 0))), (n44, .inr (2, [.ref a48_0, .int 0])), (a48_0, .inl (cI, 20, .inl (fun _ => 0)))] := hD
  refine lv_aload_n hx hb dX4_init_54 rfl (lv_at hl 0 rfl) ?_
  refine va_new (ci := 0) (fs := [.int 0, .null, .int 0]) (C := RX0) (T := TX0) (N := 3) hx hb hts in_X4_init_0 tyX0 tyX0_ok hown (hts (.classLink RX4 27 RX0) (by decide +kernel)) (hts (.instantiable RX0 3) (by decide +kernel)) (hts (.initialized RX0) (by decide +kernel)) hK hP hD hS hA rfl (fun j hj => by rcases (show j = 0 ∨ j = 1 ∨ j = 2 by omega) with rfl | rfl | rfl <;> rfl) (Nat.le_of_ble_eq_true rfl) (Nat.le_of_ble_eq_true rfl) dX4_init_55 (fun n55 H hP hD hS => ?_)
  have hP : va_P (dC, dI) vwCl [(g_a, .inr (4, [.ref n5, .ref n17, .ref n44, .null, .null, .int 0, .int 0, .int 0])), (n5, .inr (3, [.int 8, .int 0, .int 0, .ref a9_0, .ref a9_1])), (a9_0, .inl (cI, 14, .inl q9)), (a9_1, .inl (cI, 14, .inl (fun _ => 0))), (n17, .inl (cW, 2, .inr (.inr (.inr (.inr (im2 n22 n32)))))), (n22, .inr (3, [.int 8, .int 0, .int 0, .ref a26_0, .ref a26_1])), (a26_0, .inl (cI, 14, .inl q26)), (a26_1, .inl (cI, 14, .inl (fun _ => 0))), (n32, .inr (3, [.int 8, .int 0, .int 0, .ref a36_0, .ref a36_1])), (a36_0, .inl (cI, 14, .inl q36)), (a36_1, .inl (cI, 14, .inl (fun _ => 0))), (n44, .inr (2, [.ref a48_0, .int 0])), (a48_0, .inl (cI, 20, .inl (fun _ => 0))), (n55, .inr (0, [.int 0, .null, .int 0]))] H := hP
  have hD : va_D A [(g_a, .inr (4, [.ref n5, .ref n17, .ref n44, .null, .null, .int 0, .int 0, .int 0])), (n5, .inr (3, [.int 8, .int 0, .int 0, .ref a9_0, .ref a9_1])), (a9_0, .inl (cI, 14, .inl q9)), (a9_1, .inl (cI, 14, .inl (fun _ => 0))), (n17, .inl (cW, 2, .inr (.inr (.inr (.inr (im2 n22 n32)))))), (n22, .inr (3, [.int 8, .int 0, .int 0, .ref a26_0, .ref a26_1])), (a26_0, .inl (cI, 14, .inl q26)), (a26_1, .inl (cI, 14, .inl (fun _ => 0))), (n32, .inr (3, [.int 8, .int 0, .int 0, .ref a36_0, .ref a36_1])), (a36_0, .inl (cI, 14, .inl q36)), (a36_1, .inl (cI, 14, .inl (fun _ => 0))), (n44, .inr (2, [.ref a48_0, .int 0])), (a48_0, .inl (cI, 20, .inl (fun _ => 0))), (n55, .inr (0, [.int 0, .null, .int 0]))] := hD
  refine W.widen (k := 13) (n := 126) (Nat.le_of_ble_eq_true rfl) (Nat.le_of_ble_eq_true rfl) ?_
  refine lv_dup hx hb dX4_init_58 rfl ?_
  have hPc := hP.sub (ws' := [(n55, .inr (0, [.int 0, .null, .int 0]))]) [13] rfl
  have hDc := hD.sub (ws' := [(n55, .inr (0, [.int 0, .null, .int 0]))]) [13] (by decide) rfl
  have hFc := va_free (wc := [(n55, .inr (0, [.int 0, .null, .int 0]))]) hD hS hA [13] rfl
  refine va_callv (va_runIN (As := []) (rest := [.ref n55, .ref g_a]) ⟨hx, hb, hml, hown, hts⟩ (c_X0_init l dC dI cI cZ cJ cW (H.size) n55) ⟨va_cnB 0 hts gX4_init_X0_init_n29 rfl rfl rfl (hN.1 (.methodLinkNest RX4 29 yX0_init "WordGrounds") (List.mem_of_getElem? (i := 13) rfl)) (hts (.initialized RX0) (by decide +kernel)) (by decide +kernel) ⟨Nat.le_of_ble_eq_true rfl, Nat.le_of_ble_eq_true rfl⟩, rfl, hts (.instanceMethod yX0_init) (by decide +kernel)⟩ ⟨MP.blind, fun U hU hW => ⟨rfl, by rw [hU], by rw [hU]; exact hPc, va_K.moved hW.alike hK, hN.warm hW, hDc.weaken (fun _ _ _ _ => trivial)⟩⟩ rfl rfl hl.1 rfl (lv_room (Nat.le_of_ble_eq_true rfl)) dX4_init_59 ⟨Nat.le_of_ble_eq_true rfl, Nat.le_of_ble_eq_true rfl⟩) hS (fun q _ h => hFc q h) hFc (fun u t H1 locs ht hvm hw hB hz1 hk1 hS => ?_)
  obtain ⟨a59_0, rfl⟩ : ∃ z, z = u := ⟨_, rfl⟩
  obtain ⟨hP1, hD1⟩ := hB
  rw [ht] at hP1
  obtain ⟨hP, hD⟩ := va_join (wr := [(g_a, .inr (4, [.ref n5, .ref n17, .ref n44, .null, .null, .int 0, .int 0, .int 0])), (n5, .inr (3, [.int 8, .int 0, .int 0, .ref a9_0, .ref a9_1])), (a9_0, .inl (cI, 14, .inl q9)), (a9_1, .inl (cI, 14, .inl (fun _ => 0))), (n17, .inl (cW, 2, .inr (.inr (.inr (.inr (im2 n22 n32)))))), (n22, .inr (3, [.int 8, .int 0, .int 0, .ref a26_0, .ref a26_1])), (a26_0, .inl (cI, 14, .inl q26)), (a26_1, .inl (cI, 14, .inl (fun _ => 0))), (n32, .inr (3, [.int 8, .int 0, .int 0, .ref a36_0, .ref a36_1])), (a36_0, .inl (cI, 14, .inl q36)), (a36_1, .inl (cI, 14, .inl (fun _ => 0))), (n44, .inr (2, [.ref a48_0, .int 0])), (a48_0, .inl (cI, 20, .inl (fun _ => 0)))]) (w1 := [(n55, .inr (0, [.int 0, .ref a59_0, .int 0])), (a59_0, .inl (cI, 14, .inl (fun _ => 0)))]) hP hD [13] [0, 1, 2, 3, 4, 5, 6, 7, 8, 9, 10, 11, 12] rfl rfl (by decide) (by decide) hk1 hFc hP1 hD1
  generalize H1 = H at hP hS ⊢
  have hP : va_P (dC, dI) vwCl [(g_a, .inr (4, [.ref n5, .ref n17, .ref n44, .null, .null, .int 0, .int 0, .int 0])), (n5, .inr (3, [.int 8, .int 0, .int 0, .ref a9_0, .ref a9_1])), (a9_0, .inl (cI, 14, .inl q9)), (a9_1, .inl (cI, 14, .inl (fun _ => 0))), (n17, .inl (cW, 2, .inr (.inr (.inr (.inr (im2 n22 n32)))))), (n22, .inr (3, [.int 8, .int 0, .int 0, .ref a26_0, .ref a26_1])), (a26_0, .inl (cI, 14, .inl q26)), (a26_1, .inl (cI, 14, .inl (fun _ => 0))), (n32, .inr (3, [.int 8, .int 0, .int 0, .ref a36_0, .ref a36_1])), (a36_0, .inl (cI, 14, .inl q36)), (a36_1, .inl (cI, 14, .inl (fun _ => 0))), (n44, .inr (2, [.ref a48_0, .int 0])), (a48_0, .inl (cI, 20, .inl (fun _ => 0))), (n55, .inr (0, [.int 0, .ref a59_0, .int 0])), (a59_0, .inl (cI, 14, .inl (fun _ => 0)))] H := hP
  have hD : va_D A [(g_a, .inr (4, [.ref n5, .ref n17, .ref n44, .null, .null, .int 0, .int 0, .int 0])), (n5, .inr (3, [.int 8, .int 0, .int 0, .ref a9_0, .ref a9_1])), (a9_0, .inl (cI, 14, .inl q9)), (a9_1, .inl (cI, 14, .inl (fun _ => 0))), (n17, .inl (cW, 2, .inr (.inr (.inr (.inr (im2 n22 n32)))))), (n22, .inr (3, [.int 8, .int 0, .int 0, .ref a26_0, .ref a26_1])), (a26_0, .inl (cI, 14, .inl q26)), (a26_1, .inl (cI, 14, .inl (fun _ => 0))), (n32, .inr (3, [.int 8, .int 0, .int 0, .ref a36_0, .ref a36_1])), (a36_0, .inl (cI, 14, .inl q36)), (a36_1, .inl (cI, 14, .inl (fun _ => 0))), (n44, .inr (2, [.ref a48_0, .int 0])), (a48_0, .inl (cI, 20, .inl (fun _ => 0))), (n55, .inr (0, [.int 0, .ref a59_0, .int 0])), (a59_0, .inl (cI, 14, .inl (fun _ => 0)))] := hD
  refine W.widen (k := 14) (n := 140) (Nat.le_of_ble_eq_true rfl) (Nat.le_of_ble_eq_true rfl) ?_
  refine va_putF (D := (dC, dI)) (ci := 4) (v := .ref n55) (ty := (.object "WordGrounds$Rings")) (C := RX4) (T := TX4) (N := 8) hx hb hts in_X4_init_4 tyX4 tyX4_ok nmX4 hown hK hP hD hS 0 rfl rfl 3 (by decide) hf30 (fun _ h9 => h9) rfl hini rfl (by decide +kernel) rfl rfl (Nat.le_of_ble_eq_true rfl) dX4_init_62 (fun H locs hP hD hS => ?_)
  have hP : va_P (dC, dI) vwCl [(g_a, .inr (4, [.ref n5, .ref n17, .ref n44, .ref n55, .null, .int 0, .int 0, .int 0])), (n5, .inr (3, [.int 8, .int 0, .int 0, .ref a9_0, .ref a9_1])), (a9_0, .inl (cI, 14, .inl q9)), (a9_1, .inl (cI, 14, .inl (fun _ => 0))), (n17, .inl (cW, 2, .inr (.inr (.inr (.inr (im2 n22 n32)))))), (n22, .inr (3, [.int 8, .int 0, .int 0, .ref a26_0, .ref a26_1])), (a26_0, .inl (cI, 14, .inl q26)), (a26_1, .inl (cI, 14, .inl (fun _ => 0))), (n32, .inr (3, [.int 8, .int 0, .int 0, .ref a36_0, .ref a36_1])), (a36_0, .inl (cI, 14, .inl q36)), (a36_1, .inl (cI, 14, .inl (fun _ => 0))), (n44, .inr (2, [.ref a48_0, .int 0])), (a48_0, .inl (cI, 20, .inl (fun _ => 0))), (n55, .inr (0, [.int 0, .ref a59_0, .int 0])), (a59_0, .inl (cI, 14, .inl (fun _ => 0)))] H := hP
  have hD : va_D A [(g_a, .inr (4, [.ref n5, .ref n17, .ref n44, .ref n55, .null, .int 0, .int 0, .int 0])), (n5, .inr (3, [.int 8, .int 0, .int 0, .ref a9_0, .ref a9_1])), (a9_0, .inl (cI, 14, .inl q9)), (a9_1, .inl (cI, 14, .inl (fun _ => 0))), (n17, .inl (cW, 2, .inr (.inr (.inr (.inr (im2 n22 n32)))))), (n22, .inr (3, [.int 8, .int 0, .int 0, .ref a26_0, .ref a26_1])), (a26_0, .inl (cI, 14, .inl q26)), (a26_1, .inl (cI, 14, .inl (fun _ => 0))), (n32, .inr (3, [.int 8, .int 0, .int 0, .ref a36_0, .ref a36_1])), (a36_0, .inl (cI, 14, .inl q36)), (a36_1, .inl (cI, 14, .inl (fun _ => 0))), (n44, .inr (2, [.ref a48_0, .int 0])), (a48_0, .inl (cI, 20, .inl (fun _ => 0))), (n55, .inr (0, [.int 0, .ref a59_0, .int 0])), (a59_0, .inl (cI, 14, .inl (fun _ => 0)))] := hD
  refine lv_aload_n hx hb dX4_init_65 rfl (lv_at hl 0 rfl) ?_
  refine va_new (ci := 1) (fs := [.int 0, .int 0, .null]) (C := RX1) (T := TX1) (N := 3) hx hb hts in_X4_init_1 tyX1 tyX1_ok hown (hts (.classLink RX4 34 RX1) (by decide +kernel)) (hts (.instantiable RX1 3) (by decide +kernel)) (hts (.initialized RX1) (by decide +kernel)) hK hP hD hS hA rfl (fun j hj => by rcases (show j = 0 ∨ j = 1 ∨ j = 2 by omega) with rfl | rfl | rfl <;> rfl) (Nat.le_of_ble_eq_true rfl) (Nat.le_of_ble_eq_true rfl) dX4_init_66 (fun n66 H hP hD hS => ?_)
  have hP : va_P (dC, dI) vwCl [(g_a, .inr (4, [.ref n5, .ref n17, .ref n44, .ref n55, .null, .int 0, .int 0, .int 0])), (n5, .inr (3, [.int 8, .int 0, .int 0, .ref a9_0, .ref a9_1])), (a9_0, .inl (cI, 14, .inl q9)), (a9_1, .inl (cI, 14, .inl (fun _ => 0))), (n17, .inl (cW, 2, .inr (.inr (.inr (.inr (im2 n22 n32)))))), (n22, .inr (3, [.int 8, .int 0, .int 0, .ref a26_0, .ref a26_1])), (a26_0, .inl (cI, 14, .inl q26)), (a26_1, .inl (cI, 14, .inl (fun _ => 0))), (n32, .inr (3, [.int 8, .int 0, .int 0, .ref a36_0, .ref a36_1])), (a36_0, .inl (cI, 14, .inl q36)), (a36_1, .inl (cI, 14, .inl (fun _ => 0))), (n44, .inr (2, [.ref a48_0, .int 0])), (a48_0, .inl (cI, 20, .inl (fun _ => 0))), (n55, .inr (0, [.int 0, .ref a59_0, .int 0])), (a59_0, .inl (cI, 14, .inl (fun _ => 0))), (n66, .inr (1, [.int 0, .int 0, .null]))] H := hP
  have hD : va_D A [(g_a, .inr (4, [.ref n5, .ref n17, .ref n44, .ref n55, .null, .int 0, .int 0, .int 0])), (n5, .inr (3, [.int 8, .int 0, .int 0, .ref a9_0, .ref a9_1])), (a9_0, .inl (cI, 14, .inl q9)), (a9_1, .inl (cI, 14, .inl (fun _ => 0))), (n17, .inl (cW, 2, .inr (.inr (.inr (.inr (im2 n22 n32)))))), (n22, .inr (3, [.int 8, .int 0, .int 0, .ref a26_0, .ref a26_1])), (a26_0, .inl (cI, 14, .inl q26)), (a26_1, .inl (cI, 14, .inl (fun _ => 0))), (n32, .inr (3, [.int 8, .int 0, .int 0, .ref a36_0, .ref a36_1])), (a36_0, .inl (cI, 14, .inl q36)), (a36_1, .inl (cI, 14, .inl (fun _ => 0))), (n44, .inr (2, [.ref a48_0, .int 0])), (a48_0, .inl (cI, 20, .inl (fun _ => 0))), (n55, .inr (0, [.int 0, .ref a59_0, .int 0])), (a59_0, .inl (cI, 14, .inl (fun _ => 0))), (n66, .inr (1, [.int 0, .int 0, .null]))] := hD
  refine W.widen (k := 15) (n := 143) (Nat.le_of_ble_eq_true rfl) (Nat.le_of_ble_eq_true rfl) ?_
  refine lv_dup hx hb dX4_init_69 rfl ?_
  have hPc := hP.sub (ws' := [(n66, .inr (1, [.int 0, .int 0, .null]))]) [15] rfl
  have hDc := hD.sub (ws' := [(n66, .inr (1, [.int 0, .int 0, .null]))]) [15] (by decide) rfl
  have hFc := va_free (wc := [(n66, .inr (1, [.int 0, .int 0, .null]))]) hD hS hA [15] rfl
  refine va_callv (va_runIN (As := []) (rest := [.ref n66, .ref g_a]) ⟨hx, hb, hml, hown, hts⟩ (c_X1_init l dC dI cI cZ cJ cW (H.size) n66) ⟨va_cnB 0 hts gX4_init_X1_init_n36 rfl rfl rfl (hN.1 (.methodLinkNest RX4 36 yX1_init "WordGrounds") (List.mem_of_getElem? (i := 16) rfl)) (hts (.initialized RX1) (by decide +kernel)) (by decide +kernel) ⟨Nat.le_of_ble_eq_true rfl, Nat.le_of_ble_eq_true rfl⟩, rfl, hts (.instanceMethod yX1_init) (by decide +kernel)⟩ ⟨MP.blind, fun U hU hW => ⟨rfl, by rw [hU], by rw [hU]; exact hPc, va_K.moved hW.alike hK, hN.warm hW, hDc.weaken (fun _ _ _ _ => trivial)⟩⟩ rfl rfl hl.1 rfl (lv_room (Nat.le_of_ble_eq_true rfl)) dX4_init_70 ⟨Nat.le_of_ble_eq_true rfl, Nat.le_of_ble_eq_true rfl⟩) hS (fun q _ h => hFc q h) hFc (fun u t H1 locs ht hvm hw hB hz1 hk1 hS => ?_)
  obtain ⟨a70_0, rfl⟩ : ∃ z, z = u := ⟨_, rfl⟩
  obtain ⟨hP1, hD1⟩ := hB
  rw [ht] at hP1
  obtain ⟨hP, hD⟩ := va_join (wr := [(g_a, .inr (4, [.ref n5, .ref n17, .ref n44, .ref n55, .null, .int 0, .int 0, .int 0])), (n5, .inr (3, [.int 8, .int 0, .int 0, .ref a9_0, .ref a9_1])), (a9_0, .inl (cI, 14, .inl q9)), (a9_1, .inl (cI, 14, .inl (fun _ => 0))), (n17, .inl (cW, 2, .inr (.inr (.inr (.inr (im2 n22 n32)))))), (n22, .inr (3, [.int 8, .int 0, .int 0, .ref a26_0, .ref a26_1])), (a26_0, .inl (cI, 14, .inl q26)), (a26_1, .inl (cI, 14, .inl (fun _ => 0))), (n32, .inr (3, [.int 8, .int 0, .int 0, .ref a36_0, .ref a36_1])), (a36_0, .inl (cI, 14, .inl q36)), (a36_1, .inl (cI, 14, .inl (fun _ => 0))), (n44, .inr (2, [.ref a48_0, .int 0])), (a48_0, .inl (cI, 20, .inl (fun _ => 0))), (n55, .inr (0, [.int 0, .ref a59_0, .int 0])), (a59_0, .inl (cI, 14, .inl (fun _ => 0)))]) (w1 := [(n66, .inr (1, [.int 0, .int 0, .ref a70_0])), (a70_0, .inl (cJ, 256, .inr (.inl (fun _ => 0))))]) hP hD [15] [0, 1, 2, 3, 4, 5, 6, 7, 8, 9, 10, 11, 12, 13, 14] rfl rfl (by decide) (by decide) hk1 hFc hP1 hD1
  generalize H1 = H at hP hS ⊢
  have hP : va_P (dC, dI) vwCl [(g_a, .inr (4, [.ref n5, .ref n17, .ref n44, .ref n55, .null, .int 0, .int 0, .int 0])), (n5, .inr (3, [.int 8, .int 0, .int 0, .ref a9_0, .ref a9_1])), (a9_0, .inl (cI, 14, .inl q9)), (a9_1, .inl (cI, 14, .inl (fun _ => 0))), (n17, .inl (cW, 2, .inr (.inr (.inr (.inr (im2 n22 n32)))))), (n22, .inr (3, [.int 8, .int 0, .int 0, .ref a26_0, .ref a26_1])), (a26_0, .inl (cI, 14, .inl q26)), (a26_1, .inl (cI, 14, .inl (fun _ => 0))), (n32, .inr (3, [.int 8, .int 0, .int 0, .ref a36_0, .ref a36_1])), (a36_0, .inl (cI, 14, .inl q36)), (a36_1, .inl (cI, 14, .inl (fun _ => 0))), (n44, .inr (2, [.ref a48_0, .int 0])), (a48_0, .inl (cI, 20, .inl (fun _ => 0))), (n55, .inr (0, [.int 0, .ref a59_0, .int 0])), (a59_0, .inl (cI, 14, .inl (fun _ => 0))), (n66, .inr (1, [.int 0, .int 0, .ref a70_0])), (a70_0, .inl (cJ, 256, .inr (.inl (fun _ => 0))))] H := hP
  have hD : va_D A [(g_a, .inr (4, [.ref n5, .ref n17, .ref n44, .ref n55, .null, .int 0, .int 0, .int 0])), (n5, .inr (3, [.int 8, .int 0, .int 0, .ref a9_0, .ref a9_1])), (a9_0, .inl (cI, 14, .inl q9)), (a9_1, .inl (cI, 14, .inl (fun _ => 0))), (n17, .inl (cW, 2, .inr (.inr (.inr (.inr (im2 n22 n32)))))), (n22, .inr (3, [.int 8, .int 0, .int 0, .ref a26_0, .ref a26_1])), (a26_0, .inl (cI, 14, .inl q26)), (a26_1, .inl (cI, 14, .inl (fun _ => 0))), (n32, .inr (3, [.int 8, .int 0, .int 0, .ref a36_0, .ref a36_1])), (a36_0, .inl (cI, 14, .inl q36)), (a36_1, .inl (cI, 14, .inl (fun _ => 0))), (n44, .inr (2, [.ref a48_0, .int 0])), (a48_0, .inl (cI, 20, .inl (fun _ => 0))), (n55, .inr (0, [.int 0, .ref a59_0, .int 0])), (a59_0, .inl (cI, 14, .inl (fun _ => 0))), (n66, .inr (1, [.int 0, .int 0, .ref a70_0])), (a70_0, .inl (cJ, 256, .inr (.inl (fun _ => 0))))] := hD
  refine W.widen (k := 16) (n := 399) (Nat.le_of_ble_eq_true rfl) (Nat.le_of_ble_eq_true rfl) ?_
  refine va_putF (D := (dC, dI)) (ci := 4) (v := .ref n66) (ty := (.object "WordGrounds$Tellings")) (C := RX4) (T := TX4) (N := 8) hx hb hts in_X4_init_4 tyX4 tyX4_ok nmX4 hown hK hP hD hS 0 rfl rfl 4 (by decide) hf37 (fun _ h9 => h9) rfl hini rfl (by decide +kernel) rfl rfl (Nat.le_of_ble_eq_true rfl) dX4_init_73 (fun H locs hP hD hS => ?_)
  have hP : va_P (dC, dI) vwCl [(g_a, .inr (4, [.ref n5, .ref n17, .ref n44, .ref n55, .ref n66, .int 0, .int 0, .int 0])), (n5, .inr (3, [.int 8, .int 0, .int 0, .ref a9_0, .ref a9_1])), (a9_0, .inl (cI, 14, .inl q9)), (a9_1, .inl (cI, 14, .inl (fun _ => 0))), (n17, .inl (cW, 2, .inr (.inr (.inr (.inr (im2 n22 n32)))))), (n22, .inr (3, [.int 8, .int 0, .int 0, .ref a26_0, .ref a26_1])), (a26_0, .inl (cI, 14, .inl q26)), (a26_1, .inl (cI, 14, .inl (fun _ => 0))), (n32, .inr (3, [.int 8, .int 0, .int 0, .ref a36_0, .ref a36_1])), (a36_0, .inl (cI, 14, .inl q36)), (a36_1, .inl (cI, 14, .inl (fun _ => 0))), (n44, .inr (2, [.ref a48_0, .int 0])), (a48_0, .inl (cI, 20, .inl (fun _ => 0))), (n55, .inr (0, [.int 0, .ref a59_0, .int 0])), (a59_0, .inl (cI, 14, .inl (fun _ => 0))), (n66, .inr (1, [.int 0, .int 0, .ref a70_0])), (a70_0, .inl (cJ, 256, .inr (.inl (fun _ => 0))))] H := hP
  have hD : va_D A [(g_a, .inr (4, [.ref n5, .ref n17, .ref n44, .ref n55, .ref n66, .int 0, .int 0, .int 0])), (n5, .inr (3, [.int 8, .int 0, .int 0, .ref a9_0, .ref a9_1])), (a9_0, .inl (cI, 14, .inl q9)), (a9_1, .inl (cI, 14, .inl (fun _ => 0))), (n17, .inl (cW, 2, .inr (.inr (.inr (.inr (im2 n22 n32)))))), (n22, .inr (3, [.int 8, .int 0, .int 0, .ref a26_0, .ref a26_1])), (a26_0, .inl (cI, 14, .inl q26)), (a26_1, .inl (cI, 14, .inl (fun _ => 0))), (n32, .inr (3, [.int 8, .int 0, .int 0, .ref a36_0, .ref a36_1])), (a36_0, .inl (cI, 14, .inl q36)), (a36_1, .inl (cI, 14, .inl (fun _ => 0))), (n44, .inr (2, [.ref a48_0, .int 0])), (a48_0, .inl (cI, 20, .inl (fun _ => 0))), (n55, .inr (0, [.int 0, .ref a59_0, .int 0])), (a59_0, .inl (cI, 14, .inl (fun _ => 0))), (n66, .inr (1, [.int 0, .int 0, .ref a70_0])), (a70_0, .inl (cJ, 256, .inr (.inl (fun _ => 0))))] := hD
  refine lv_aload_n hx hb dX4_init_76 rfl (lv_at hl 0 rfl) ?_
  refine lv_iconst (v := 0) hx hb dX4_init_77 (by decide) ?_
  refine va_put (D := (dC, dI)) (ci := 4) (v := .int 0) (ty := .int) (C := RX4) (T := TX4) (N := 8) hx hb hts in_X4_init_4 tyX4 tyX4_ok nmX4 hown hK hP hD hS 0 rfl rfl 5 (by decide) hf41 (fun _ h9 => h9) rfl (by decide +kernel) rfl rfl (Nat.le_of_ble_eq_true rfl) dX4_init_78 (fun H locs hP hD hS => ?_)
  have hP : va_P (dC, dI) vwCl [(g_a, .inr (4, [.ref n5, .ref n17, .ref n44, .ref n55, .ref n66, .int 0, .int 0, .int 0])), (n5, .inr (3, [.int 8, .int 0, .int 0, .ref a9_0, .ref a9_1])), (a9_0, .inl (cI, 14, .inl q9)), (a9_1, .inl (cI, 14, .inl (fun _ => 0))), (n17, .inl (cW, 2, .inr (.inr (.inr (.inr (im2 n22 n32)))))), (n22, .inr (3, [.int 8, .int 0, .int 0, .ref a26_0, .ref a26_1])), (a26_0, .inl (cI, 14, .inl q26)), (a26_1, .inl (cI, 14, .inl (fun _ => 0))), (n32, .inr (3, [.int 8, .int 0, .int 0, .ref a36_0, .ref a36_1])), (a36_0, .inl (cI, 14, .inl q36)), (a36_1, .inl (cI, 14, .inl (fun _ => 0))), (n44, .inr (2, [.ref a48_0, .int 0])), (a48_0, .inl (cI, 20, .inl (fun _ => 0))), (n55, .inr (0, [.int 0, .ref a59_0, .int 0])), (a59_0, .inl (cI, 14, .inl (fun _ => 0))), (n66, .inr (1, [.int 0, .int 0, .ref a70_0])), (a70_0, .inl (cJ, 256, .inr (.inl (fun _ => 0))))] H := hP
  have hD : va_D A [(g_a, .inr (4, [.ref n5, .ref n17, .ref n44, .ref n55, .ref n66, .int 0, .int 0, .int 0])), (n5, .inr (3, [.int 8, .int 0, .int 0, .ref a9_0, .ref a9_1])), (a9_0, .inl (cI, 14, .inl q9)), (a9_1, .inl (cI, 14, .inl (fun _ => 0))), (n17, .inl (cW, 2, .inr (.inr (.inr (.inr (im2 n22 n32)))))), (n22, .inr (3, [.int 8, .int 0, .int 0, .ref a26_0, .ref a26_1])), (a26_0, .inl (cI, 14, .inl q26)), (a26_1, .inl (cI, 14, .inl (fun _ => 0))), (n32, .inr (3, [.int 8, .int 0, .int 0, .ref a36_0, .ref a36_1])), (a36_0, .inl (cI, 14, .inl q36)), (a36_1, .inl (cI, 14, .inl (fun _ => 0))), (n44, .inr (2, [.ref a48_0, .int 0])), (a48_0, .inl (cI, 20, .inl (fun _ => 0))), (n55, .inr (0, [.int 0, .ref a59_0, .int 0])), (a59_0, .inl (cI, 14, .inl (fun _ => 0))), (n66, .inr (1, [.int 0, .int 0, .ref a70_0])), (a70_0, .inl (cJ, 256, .inr (.inl (fun _ => 0))))] := hD
  refine lv_aload_n hx hb dX4_init_81 rfl (lv_at hl 0 rfl) ?_
  refine lv_bipush (v := (-6)) hx hb dX4_init_82 (by decide) ?_
  refine va_put (D := (dC, dI)) (ci := 4) (v := .int (-6)) (ty := .int) (C := RX4) (T := TX4) (N := 8) hx hb hts in_X4_init_4 tyX4 tyX4_ok nmX4 hown hK hP hD hS 0 rfl rfl 6 (by decide) hf45 (fun _ h9 => h9) rfl (by decide +kernel) rfl rfl (Nat.le_of_ble_eq_true rfl) dX4_init_84 (fun H locs hP hD hS => ?_)
  have hP : va_P (dC, dI) vwCl [(g_a, .inr (4, [.ref n5, .ref n17, .ref n44, .ref n55, .ref n66, .int 0, .int (-6), .int 0])), (n5, .inr (3, [.int 8, .int 0, .int 0, .ref a9_0, .ref a9_1])), (a9_0, .inl (cI, 14, .inl q9)), (a9_1, .inl (cI, 14, .inl (fun _ => 0))), (n17, .inl (cW, 2, .inr (.inr (.inr (.inr (im2 n22 n32)))))), (n22, .inr (3, [.int 8, .int 0, .int 0, .ref a26_0, .ref a26_1])), (a26_0, .inl (cI, 14, .inl q26)), (a26_1, .inl (cI, 14, .inl (fun _ => 0))), (n32, .inr (3, [.int 8, .int 0, .int 0, .ref a36_0, .ref a36_1])), (a36_0, .inl (cI, 14, .inl q36)), (a36_1, .inl (cI, 14, .inl (fun _ => 0))), (n44, .inr (2, [.ref a48_0, .int 0])), (a48_0, .inl (cI, 20, .inl (fun _ => 0))), (n55, .inr (0, [.int 0, .ref a59_0, .int 0])), (a59_0, .inl (cI, 14, .inl (fun _ => 0))), (n66, .inr (1, [.int 0, .int 0, .ref a70_0])), (a70_0, .inl (cJ, 256, .inr (.inl (fun _ => 0))))] H := hP
  have hD : va_D A [(g_a, .inr (4, [.ref n5, .ref n17, .ref n44, .ref n55, .ref n66, .int 0, .int (-6), .int 0])), (n5, .inr (3, [.int 8, .int 0, .int 0, .ref a9_0, .ref a9_1])), (a9_0, .inl (cI, 14, .inl q9)), (a9_1, .inl (cI, 14, .inl (fun _ => 0))), (n17, .inl (cW, 2, .inr (.inr (.inr (.inr (im2 n22 n32)))))), (n22, .inr (3, [.int 8, .int 0, .int 0, .ref a26_0, .ref a26_1])), (a26_0, .inl (cI, 14, .inl q26)), (a26_1, .inl (cI, 14, .inl (fun _ => 0))), (n32, .inr (3, [.int 8, .int 0, .int 0, .ref a36_0, .ref a36_1])), (a36_0, .inl (cI, 14, .inl q36)), (a36_1, .inl (cI, 14, .inl (fun _ => 0))), (n44, .inr (2, [.ref a48_0, .int 0])), (a48_0, .inl (cI, 20, .inl (fun _ => 0))), (n55, .inr (0, [.int 0, .ref a59_0, .int 0])), (a59_0, .inl (cI, 14, .inl (fun _ => 0))), (n66, .inr (1, [.int 0, .int 0, .ref a70_0])), (a70_0, .inl (cJ, 256, .inr (.inl (fun _ => 0))))] := hD
  refine lv_aload_n hx hb dX4_init_87 rfl (lv_at hl 0 rfl) ?_
  refine lv_iconst (v := 0) hx hb dX4_init_88 (by decide) ?_
  refine va_put (D := (dC, dI)) (ci := 4) (v := .int 0) (ty := .boolean) (C := RX4) (T := TX4) (N := 8) hx hb hts in_X4_init_4 tyX4 tyX4_ok nmX4 hown hK hP hD hS 0 rfl rfl 7 (by decide) hf48 (fun _ h9 => h9) rfl (by decide +kernel) rfl rfl (Nat.le_of_ble_eq_true rfl) dX4_init_89 (fun H locs hP hD hS => ?_)
  have hP : va_P (dC, dI) vwCl [(g_a, .inr (4, [.ref n5, .ref n17, .ref n44, .ref n55, .ref n66, .int 0, .int (-6), .int 0])), (n5, .inr (3, [.int 8, .int 0, .int 0, .ref a9_0, .ref a9_1])), (a9_0, .inl (cI, 14, .inl q9)), (a9_1, .inl (cI, 14, .inl (fun _ => 0))), (n17, .inl (cW, 2, .inr (.inr (.inr (.inr (im2 n22 n32)))))), (n22, .inr (3, [.int 8, .int 0, .int 0, .ref a26_0, .ref a26_1])), (a26_0, .inl (cI, 14, .inl q26)), (a26_1, .inl (cI, 14, .inl (fun _ => 0))), (n32, .inr (3, [.int 8, .int 0, .int 0, .ref a36_0, .ref a36_1])), (a36_0, .inl (cI, 14, .inl q36)), (a36_1, .inl (cI, 14, .inl (fun _ => 0))), (n44, .inr (2, [.ref a48_0, .int 0])), (a48_0, .inl (cI, 20, .inl (fun _ => 0))), (n55, .inr (0, [.int 0, .ref a59_0, .int 0])), (a59_0, .inl (cI, 14, .inl (fun _ => 0))), (n66, .inr (1, [.int 0, .int 0, .ref a70_0])), (a70_0, .inl (cJ, 256, .inr (.inl (fun _ => 0))))] H := hP
  have hD : va_D A [(g_a, .inr (4, [.ref n5, .ref n17, .ref n44, .ref n55, .ref n66, .int 0, .int (-6), .int 0])), (n5, .inr (3, [.int 8, .int 0, .int 0, .ref a9_0, .ref a9_1])), (a9_0, .inl (cI, 14, .inl q9)), (a9_1, .inl (cI, 14, .inl (fun _ => 0))), (n17, .inl (cW, 2, .inr (.inr (.inr (.inr (im2 n22 n32)))))), (n22, .inr (3, [.int 8, .int 0, .int 0, .ref a26_0, .ref a26_1])), (a26_0, .inl (cI, 14, .inl q26)), (a26_1, .inl (cI, 14, .inl (fun _ => 0))), (n32, .inr (3, [.int 8, .int 0, .int 0, .ref a36_0, .ref a36_1])), (a36_0, .inl (cI, 14, .inl q36)), (a36_1, .inl (cI, 14, .inl (fun _ => 0))), (n44, .inr (2, [.ref a48_0, .int 0])), (a48_0, .inl (cI, 20, .inl (fun _ => 0))), (n55, .inr (0, [.int 0, .ref a59_0, .int 0])), (a59_0, .inl (cI, 14, .inl (fun _ => 0))), (n66, .inr (1, [.int 0, .int 0, .ref a70_0])), (a70_0, .inl (cJ, 256, .inr (.inl (fun _ => 0))))] := hD
  obtain rfl := Option.some.inj hM
  have hP9 := hP.sub (ws' := [(g_a, .inr (4, [.ref n5, .ref n17, .ref n44, .ref n55, .ref n66, .int 0, .int (-6), .int 0])), (n5, .inr (3, [.int 8, .int 0, .int 0, .ref a9_0, .ref a9_1])), (a9_0, .inl (cI, 14, .inl q9)), (a9_1, .inl (cI, 14, .inl (fun _ => 0))), (n17, .inl (cW, 2, .inr (.inr (.inr (.inr (im2 n22 n32)))))), (n22, .inr (3, [.int 8, .int 0, .int 0, .ref a26_0, .ref a26_1])), (a26_0, .inl (cI, 14, .inl q26)), (a26_1, .inl (cI, 14, .inl (fun _ => 0))), (n32, .inr (3, [.int 8, .int 0, .int 0, .ref a36_0, .ref a36_1])), (a36_0, .inl (cI, 14, .inl q36)), (a36_1, .inl (cI, 14, .inl (fun _ => 0))), (n44, .inr (2, [.ref a48_0, .int 0])), (a48_0, .inl (cI, 20, .inl (fun _ => 0))), (n55, .inr (0, [.int 0, .ref a59_0, .int 0])), (a59_0, .inl (cI, 14, .inl (fun _ => 0))), (n66, .inr (1, [.int 0, .int 0, .ref a70_0])), (a70_0, .inl (cJ, 256, .inr (.inl (fun _ => 0))))]) [0, 1, 2, 3, 4, 5, 6, 7, 8, 9, 10, 11, 12, 13, 14, 15, 16] rfl
  have hD9 := hD.sub (ws' := [(g_a, .inr (4, [.ref n5, .ref n17, .ref n44, .ref n55, .ref n66, .int 0, .int (-6), .int 0])), (n5, .inr (3, [.int 8, .int 0, .int 0, .ref a9_0, .ref a9_1])), (a9_0, .inl (cI, 14, .inl q9)), (a9_1, .inl (cI, 14, .inl (fun _ => 0))), (n17, .inl (cW, 2, .inr (.inr (.inr (.inr (im2 n22 n32)))))), (n22, .inr (3, [.int 8, .int 0, .int 0, .ref a26_0, .ref a26_1])), (a26_0, .inl (cI, 14, .inl q26)), (a26_1, .inl (cI, 14, .inl (fun _ => 0))), (n32, .inr (3, [.int 8, .int 0, .int 0, .ref a36_0, .ref a36_1])), (a36_0, .inl (cI, 14, .inl q36)), (a36_1, .inl (cI, 14, .inl (fun _ => 0))), (n44, .inr (2, [.ref a48_0, .int 0])), (a48_0, .inl (cI, 20, .inl (fun _ => 0))), (n55, .inr (0, [.int 0, .ref a59_0, .int 0])), (a59_0, .inl (cI, 14, .inl (fun _ => 0))), (n66, .inr (1, [.int 0, .int 0, .ref a70_0])), (a70_0, .inl (cJ, 256, .inr (.inl (fun _ => 0))))]) [0, 1, 2, 3, 4, 5, 6, 7, 8, 9, 10, 11, 12, 13, 14, 15, 16] (by decide) rfl
  refine W.widen (k := 16) (n := 399) (Nat.le_refl _) (Nat.le_refl _) ?_
  exact W.vret hx hb hr (fun t ht hW => ⟨⟨(n5, a9_0, a9_1, n17, n22, a26_0, a26_1, n32, a36_0, a36_1, n44, a48_0, n55, a59_0, n66, a70_0), rfl, trivial, by rw [ht]; exact hP9, hD9⟩, hS.F ht⟩) hS.2.2 dX4_init_92
