/-! J6_bitCount_0f7a4 -/
abbrev rm_J6_bitCount_0f7a4 : Room := { frames := 0, cells := 0, slots := 0, locals := 0 }
set_option maxHeartbeats 4000000 in
set_option maxRecDepth 100000 in
theorem c_J6_bitCount_0f7a4 (l : Launch) (dC : Nat → ClassId) (dI : Nat → Nat → Nat) (cI cZ cJ cW : ClassId) (p0 : Int32) (R : Int32) (hM : M_J6_bitCount_0f7a4 p0 = some R) : Met l yJ6_bitCount_0f7a4 wsJ6_bitCount_0f7a4 rm_J6_bitCount_0f7a4 (va_Pc [.int p0] (fun _ => True)) (vp_Si (fun r => R = r)) 0 0 (fun _ => False) := by
  refine Met.ofW (cc := cJ6_bitCount_0f7a4) (maxL := 1) (ret := (some .int)) (by decide) rfl ?_
  intro p e s m args below meth c s₁ B hml hv
  obtain ⟨rfl, -⟩ := hv
  have hx := B.exec
  have hb := B.bytes
  have hr := B.returns
  have hts := atoms_spec (ws := wsJ6_bitCount_0f7a4) B.pre
  have hown : s.vm.findClass RJ6 = some m.cls := findClass_of_methodNamed B.named
  have hlocks := B.notSynchronized
  have hl := lv_entry ([.int p0]) (n := 1) (Nat.le_of_ble_eq_true rfl)
  rw [lg_entry_eq]
  generalize (lg_sl ([.int p0]) ++ List.replicate (1 - (lg_sl ([.int p0])).length) Slot.unset).toArray = ls at hl ⊢
  have hl : lv_has ls 1 [(0, .int p0)] := hl
  have hM : (some ((((((((p0 - (((Int32.toUInt32 p0 >>> (Int32.toUInt32 1 &&& Int32.toUInt32 31)).toInt32) &&& 1431655765)) &&& 858993459) + (((Int32.toUInt32 (p0 - (((Int32.toUInt32 p0 >>> (Int32.toUInt32 1 &&& Int32.toUInt32 31)).toInt32) &&& 1431655765)) >>> (Int32.toUInt32 2 &&& Int32.toUInt32 31)).toInt32) &&& 858993459)) + ((Int32.toUInt32 (((p0 - (((Int32.toUInt32 p0 >>> (Int32.toUInt32 1 &&& Int32.toUInt32 31)).toInt32) &&& 1431655765)) &&& 858993459) + (((Int32.toUInt32 (p0 - (((Int32.toUInt32 p0 >>> (Int32.toUInt32 1 &&& Int32.toUInt32 31)).toInt32) &&& 1431655765)) >>> (Int32.toUInt32 2 &&& Int32.toUInt32 31)).toInt32) &&& 858993459)) >>> (Int32.toUInt32 4 &&& Int32.toUInt32 31)).toInt32)) &&& 252645135) + ((Int32.toUInt32 (((((p0 - (((Int32.toUInt32 p0 >>> (Int32.toUInt32 1 &&& Int32.toUInt32 31)).toInt32) &&& 1431655765)) &&& 858993459) + (((Int32.toUInt32 (p0 - (((Int32.toUInt32 p0 >>> (Int32.toUInt32 1 &&& Int32.toUInt32 31)).toInt32) &&& 1431655765)) >>> (Int32.toUInt32 2 &&& Int32.toUInt32 31)).toInt32) &&& 858993459)) + ((Int32.toUInt32 (((p0 - (((Int32.toUInt32 p0 >>> (Int32.toUInt32 1 &&& Int32.toUInt32 31)).toInt32) &&& 1431655765)) &&& 858993459) + (((Int32.toUInt32 (p0 - (((Int32.toUInt32 p0 >>> (Int32.toUInt32 1 &&& Int32.toUInt32 31)).toInt32) &&& 1431655765)) >>> (Int32.toUInt32 2 &&& Int32.toUInt32 31)).toInt32) &&& 858993459)) >>> (Int32.toUInt32 4 &&& Int32.toUInt32 31)).toInt32)) &&& 252645135) >>> (Int32.toUInt32 8 &&& Int32.toUInt32 31)).toInt32)) + ((Int32.toUInt32 ((((((p0 - (((Int32.toUInt32 p0 >>> (Int32.toUInt32 1 &&& Int32.toUInt32 31)).toInt32) &&& 1431655765)) &&& 858993459) + (((Int32.toUInt32 (p0 - (((Int32.toUInt32 p0 >>> (Int32.toUInt32 1 &&& Int32.toUInt32 31)).toInt32) &&& 1431655765)) >>> (Int32.toUInt32 2 &&& Int32.toUInt32 31)).toInt32) &&& 858993459)) + ((Int32.toUInt32 (((p0 - (((Int32.toUInt32 p0 >>> (Int32.toUInt32 1 &&& Int32.toUInt32 31)).toInt32) &&& 1431655765)) &&& 858993459) + (((Int32.toUInt32 (p0 - (((Int32.toUInt32 p0 >>> (Int32.toUInt32 1 &&& Int32.toUInt32 31)).toInt32) &&& 1431655765)) >>> (Int32.toUInt32 2 &&& Int32.toUInt32 31)).toInt32) &&& 858993459)) >>> (Int32.toUInt32 4 &&& Int32.toUInt32 31)).toInt32)) &&& 252645135) + ((Int32.toUInt32 (((((p0 - (((Int32.toUInt32 p0 >>> (Int32.toUInt32 1 &&& Int32.toUInt32 31)).toInt32) &&& 1431655765)) &&& 858993459) + (((Int32.toUInt32 (p0 - (((Int32.toUInt32 p0 >>> (Int32.toUInt32 1 &&& Int32.toUInt32 31)).toInt32) &&& 1431655765)) >>> (Int32.toUInt32 2 &&& Int32.toUInt32 31)).toInt32) &&& 858993459)) + ((Int32.toUInt32 (((p0 - (((Int32.toUInt32 p0 >>> (Int32.toUInt32 1 &&& Int32.toUInt32 31)).toInt32) &&& 1431655765)) &&& 858993459) + (((Int32.toUInt32 (p0 - (((Int32.toUInt32 p0 >>> (Int32.toUInt32 1 &&& Int32.toUInt32 31)).toInt32) &&& 1431655765)) >>> (Int32.toUInt32 2 &&& Int32.toUInt32 31)).toInt32) &&& 858993459)) >>> (Int32.toUInt32 4 &&& Int32.toUInt32 31)).toInt32)) &&& 252645135) >>> (Int32.toUInt32 8 &&& Int32.toUInt32 31)).toInt32)) >>> (Int32.toUInt32 16 &&& Int32.toUInt32 31)).toInt32)) &&& 63)) = some R := hM
  refine lv_iload_n hx hb dJ6_bitCount_0f7a4_0 rfl (lv_at hl 0 rfl) ?_
  refine lv_iload_n hx hb dJ6_bitCount_0f7a4_1 rfl (lv_at hl 0 rfl) ?_
  refine lv_iconst (v := 1) hx hb dJ6_bitCount_0f7a4_2 (by decide) ?_
  refine lv_iushr (v := ((Int32.toUInt32 p0 >>> (Int32.toUInt32 1 &&& Int32.toUInt32 31)).toInt32)) hx hb dJ6_bitCount_0f7a4_3 rfl ?_
  refine lv_ldcw (v := 1431655765) hx hb hown (hts (.constant RJ6 265 (1431655765)) (by decide +kernel)) dJ6_bitCount_0f7a4_4 ?_
  refine lv_iand hx hb dJ6_bitCount_0f7a4_7 ?_
  refine lv_isub hx hb dJ6_bitCount_0f7a4_8 ?_
  refine lv_istore_n (lv' := [(0, .int (p0 - (((Int32.toUInt32 p0 >>> (Int32.toUInt32 1 &&& Int32.toUInt32 31)).toInt32) &&& 1431655765)))]) hx hb dJ6_bitCount_0f7a4_9 rfl hl (by decide) rfl (fun ls hl => ?_)
  refine lv_iload_n hx hb dJ6_bitCount_0f7a4_10 rfl (lv_at hl 0 rfl) ?_
  refine lv_ldcw (v := 858993459) hx hb hown (hts (.constant RJ6 266 (858993459)) (by decide +kernel)) dJ6_bitCount_0f7a4_11 ?_
  refine lv_iand hx hb dJ6_bitCount_0f7a4_14 ?_
  refine lv_iload_n hx hb dJ6_bitCount_0f7a4_15 rfl (lv_at hl 0 rfl) ?_
  refine lv_iconst (v := 2) hx hb dJ6_bitCount_0f7a4_16 (by decide) ?_
  refine lv_iushr (v := ((Int32.toUInt32 (p0 - (((Int32.toUInt32 p0 >>> (Int32.toUInt32 1 &&& Int32.toUInt32 31)).toInt32) &&& 1431655765)) >>> (Int32.toUInt32 2 &&& Int32.toUInt32 31)).toInt32)) hx hb dJ6_bitCount_0f7a4_17 rfl ?_
  refine lv_ldcw (v := 858993459) hx hb hown (hts (.constant RJ6 266 (858993459)) (by decide +kernel)) dJ6_bitCount_0f7a4_18 ?_
  refine lv_iand hx hb dJ6_bitCount_0f7a4_21 ?_
  refine lv_iadd hx hb dJ6_bitCount_0f7a4_22 ?_
  refine lv_istore_n (lv' := [(0, .int (((p0 - (((Int32.toUInt32 p0 >>> (Int32.toUInt32 1 &&& Int32.toUInt32 31)).toInt32) &&& 1431655765)) &&& 858993459) + (((Int32.toUInt32 (p0 - (((Int32.toUInt32 p0 >>> (Int32.toUInt32 1 &&& Int32.toUInt32 31)).toInt32) &&& 1431655765)) >>> (Int32.toUInt32 2 &&& Int32.toUInt32 31)).toInt32) &&& 858993459)))]) hx hb dJ6_bitCount_0f7a4_23 rfl hl (by decide) rfl (fun ls hl => ?_)
  refine lv_iload_n hx hb dJ6_bitCount_0f7a4_24 rfl (lv_at hl 0 rfl) ?_
  refine lv_iload_n hx hb dJ6_bitCount_0f7a4_25 rfl (lv_at hl 0 rfl) ?_
  refine lv_iconst (v := 4) hx hb dJ6_bitCount_0f7a4_26 (by decide) ?_
  refine lv_iushr (v := ((Int32.toUInt32 (((p0 - (((Int32.toUInt32 p0 >>> (Int32.toUInt32 1 &&& Int32.toUInt32 31)).toInt32) &&& 1431655765)) &&& 858993459) + (((Int32.toUInt32 (p0 - (((Int32.toUInt32 p0 >>> (Int32.toUInt32 1 &&& Int32.toUInt32 31)).toInt32) &&& 1431655765)) >>> (Int32.toUInt32 2 &&& Int32.toUInt32 31)).toInt32) &&& 858993459)) >>> (Int32.toUInt32 4 &&& Int32.toUInt32 31)).toInt32)) hx hb dJ6_bitCount_0f7a4_27 rfl ?_
  refine lv_iadd hx hb dJ6_bitCount_0f7a4_28 ?_
  refine lv_ldcw (v := 252645135) hx hb hown (hts (.constant RJ6 267 (252645135)) (by decide +kernel)) dJ6_bitCount_0f7a4_29 ?_
  refine lv_iand hx hb dJ6_bitCount_0f7a4_32 ?_
  refine lv_istore_n (lv' := [(0, .int (((((p0 - (((Int32.toUInt32 p0 >>> (Int32.toUInt32 1 &&& Int32.toUInt32 31)).toInt32) &&& 1431655765)) &&& 858993459) + (((Int32.toUInt32 (p0 - (((Int32.toUInt32 p0 >>> (Int32.toUInt32 1 &&& Int32.toUInt32 31)).toInt32) &&& 1431655765)) >>> (Int32.toUInt32 2 &&& Int32.toUInt32 31)).toInt32) &&& 858993459)) + ((Int32.toUInt32 (((p0 - (((Int32.toUInt32 p0 >>> (Int32.toUInt32 1 &&& Int32.toUInt32 31)).toInt32) &&& 1431655765)) &&& 858993459) + (((Int32.toUInt32 (p0 - (((Int32.toUInt32 p0 >>> (Int32.toUInt32 1 &&& Int32.toUInt32 31)).toInt32) &&& 1431655765)) >>> (Int32.toUInt32 2 &&& Int32.toUInt32 31)).toInt32) &&& 858993459)) >>> (Int32.toUInt32 4 &&& Int32.toUInt32 31)).toInt32)) &&& 252645135))]) hx hb dJ6_bitCount_0f7a4_33 rfl hl (by decide) rfl (fun ls hl => ?_)
  refine lv_iload_n hx hb dJ6_bitCount_0f7a4_34 rfl (lv_at hl 0 rfl) ?_
  refine lv_iload_n hx hb dJ6_bitCount_0f7a4_35 rfl (lv_at hl 0 rfl) ?_
  refine lv_bipush (v := 8) hx hb dJ6_bitCount_0f7a4_36 (by decide) ?_
  refine lv_iushr (v := ((Int32.toUInt32 (((((p0 - (((Int32.toUInt32 p0 >>> (Int32.toUInt32 1 &&& Int32.toUInt32 31)).toInt32) &&& 1431655765)) &&& 858993459) + (((Int32.toUInt32 (p0 - (((Int32.toUInt32 p0 >>> (Int32.toUInt32 1 &&& Int32.toUInt32 31)).toInt32) &&& 1431655765)) >>> (Int32.toUInt32 2 &&& Int32.toUInt32 31)).toInt32) &&& 858993459)) + ((Int32.toUInt32 (((p0 - (((Int32.toUInt32 p0 >>> (Int32.toUInt32 1 &&& Int32.toUInt32 31)).toInt32) &&& 1431655765)) &&& 858993459) + (((Int32.toUInt32 (p0 - (((Int32.toUInt32 p0 >>> (Int32.toUInt32 1 &&& Int32.toUInt32 31)).toInt32) &&& 1431655765)) >>> (Int32.toUInt32 2 &&& Int32.toUInt32 31)).toInt32) &&& 858993459)) >>> (Int32.toUInt32 4 &&& Int32.toUInt32 31)).toInt32)) &&& 252645135) >>> (Int32.toUInt32 8 &&& Int32.toUInt32 31)).toInt32)) hx hb dJ6_bitCount_0f7a4_38 rfl ?_
  refine lv_iadd hx hb dJ6_bitCount_0f7a4_39 ?_
  refine lv_istore_n (lv' := [(0, .int ((((((p0 - (((Int32.toUInt32 p0 >>> (Int32.toUInt32 1 &&& Int32.toUInt32 31)).toInt32) &&& 1431655765)) &&& 858993459) + (((Int32.toUInt32 (p0 - (((Int32.toUInt32 p0 >>> (Int32.toUInt32 1 &&& Int32.toUInt32 31)).toInt32) &&& 1431655765)) >>> (Int32.toUInt32 2 &&& Int32.toUInt32 31)).toInt32) &&& 858993459)) + ((Int32.toUInt32 (((p0 - (((Int32.toUInt32 p0 >>> (Int32.toUInt32 1 &&& Int32.toUInt32 31)).toInt32) &&& 1431655765)) &&& 858993459) + (((Int32.toUInt32 (p0 - (((Int32.toUInt32 p0 >>> (Int32.toUInt32 1 &&& Int32.toUInt32 31)).toInt32) &&& 1431655765)) >>> (Int32.toUInt32 2 &&& Int32.toUInt32 31)).toInt32) &&& 858993459)) >>> (Int32.toUInt32 4 &&& Int32.toUInt32 31)).toInt32)) &&& 252645135) + ((Int32.toUInt32 (((((p0 - (((Int32.toUInt32 p0 >>> (Int32.toUInt32 1 &&& Int32.toUInt32 31)).toInt32) &&& 1431655765)) &&& 858993459) + (((Int32.toUInt32 (p0 - (((Int32.toUInt32 p0 >>> (Int32.toUInt32 1 &&& Int32.toUInt32 31)).toInt32) &&& 1431655765)) >>> (Int32.toUInt32 2 &&& Int32.toUInt32 31)).toInt32) &&& 858993459)) + ((Int32.toUInt32 (((p0 - (((Int32.toUInt32 p0 >>> (Int32.toUInt32 1 &&& Int32.toUInt32 31)).toInt32) &&& 1431655765)) &&& 858993459) + (((Int32.toUInt32 (p0 - (((Int32.toUInt32 p0 >>> (Int32.toUInt32 1 &&& Int32.toUInt32 31)).toInt32) &&& 1431655765)) >>> (Int32.toUInt32 2 &&& Int32.toUInt32 31)).toInt32) &&& 858993459)) >>> (Int32.toUInt32 4 &&& Int32.toUInt32 31)).toInt32)) &&& 252645135) >>> (Int32.toUInt32 8 &&& Int32.toUInt32 31)).toInt32)))]) hx hb dJ6_bitCount_0f7a4_40 rfl hl (by decide) rfl (fun ls hl => ?_)
  refine lv_iload_n hx hb dJ6_bitCount_0f7a4_41 rfl (lv_at hl 0 rfl) ?_
  refine lv_iload_n hx hb dJ6_bitCount_0f7a4_42 rfl (lv_at hl 0 rfl) ?_
  refine lv_bipush (v := 16) hx hb dJ6_bitCount_0f7a4_43 (by decide) ?_
  refine lv_iushr (v := ((Int32.toUInt32 ((((((p0 - (((Int32.toUInt32 p0 >>> (Int32.toUInt32 1 &&& Int32.toUInt32 31)).toInt32) &&& 1431655765)) &&& 858993459) + (((Int32.toUInt32 (p0 - (((Int32.toUInt32 p0 >>> (Int32.toUInt32 1 &&& Int32.toUInt32 31)).toInt32) &&& 1431655765)) >>> (Int32.toUInt32 2 &&& Int32.toUInt32 31)).toInt32) &&& 858993459)) + ((Int32.toUInt32 (((p0 - (((Int32.toUInt32 p0 >>> (Int32.toUInt32 1 &&& Int32.toUInt32 31)).toInt32) &&& 1431655765)) &&& 858993459) + (((Int32.toUInt32 (p0 - (((Int32.toUInt32 p0 >>> (Int32.toUInt32 1 &&& Int32.toUInt32 31)).toInt32) &&& 1431655765)) >>> (Int32.toUInt32 2 &&& Int32.toUInt32 31)).toInt32) &&& 858993459)) >>> (Int32.toUInt32 4 &&& Int32.toUInt32 31)).toInt32)) &&& 252645135) + ((Int32.toUInt32 (((((p0 - (((Int32.toUInt32 p0 >>> (Int32.toUInt32 1 &&& Int32.toUInt32 31)).toInt32) &&& 1431655765)) &&& 858993459) + (((Int32.toUInt32 (p0 - (((Int32.toUInt32 p0 >>> (Int32.toUInt32 1 &&& Int32.toUInt32 31)).toInt32) &&& 1431655765)) >>> (Int32.toUInt32 2 &&& Int32.toUInt32 31)).toInt32) &&& 858993459)) + ((Int32.toUInt32 (((p0 - (((Int32.toUInt32 p0 >>> (Int32.toUInt32 1 &&& Int32.toUInt32 31)).toInt32) &&& 1431655765)) &&& 858993459) + (((Int32.toUInt32 (p0 - (((Int32.toUInt32 p0 >>> (Int32.toUInt32 1 &&& Int32.toUInt32 31)).toInt32) &&& 1431655765)) >>> (Int32.toUInt32 2 &&& Int32.toUInt32 31)).toInt32) &&& 858993459)) >>> (Int32.toUInt32 4 &&& Int32.toUInt32 31)).toInt32)) &&& 252645135) >>> (Int32.toUInt32 8 &&& Int32.toUInt32 31)).toInt32)) >>> (Int32.toUInt32 16 &&& Int32.toUInt32 31)).toInt32)) hx hb dJ6_bitCount_0f7a4_45 rfl ?_
  refine lv_iadd hx hb dJ6_bitCount_0f7a4_46 ?_
  refine lv_istore_n (lv' := [(0, .int (((((((p0 - (((Int32.toUInt32 p0 >>> (Int32.toUInt32 1 &&& Int32.toUInt32 31)).toInt32) &&& 1431655765)) &&& 858993459) + (((Int32.toUInt32 (p0 - (((Int32.toUInt32 p0 >>> (Int32.toUInt32 1 &&& Int32.toUInt32 31)).toInt32) &&& 1431655765)) >>> (Int32.toUInt32 2 &&& Int32.toUInt32 31)).toInt32) &&& 858993459)) + ((Int32.toUInt32 (((p0 - (((Int32.toUInt32 p0 >>> (Int32.toUInt32 1 &&& Int32.toUInt32 31)).toInt32) &&& 1431655765)) &&& 858993459) + (((Int32.toUInt32 (p0 - (((Int32.toUInt32 p0 >>> (Int32.toUInt32 1 &&& Int32.toUInt32 31)).toInt32) &&& 1431655765)) >>> (Int32.toUInt32 2 &&& Int32.toUInt32 31)).toInt32) &&& 858993459)) >>> (Int32.toUInt32 4 &&& Int32.toUInt32 31)).toInt32)) &&& 252645135) + ((Int32.toUInt32 (((((p0 - (((Int32.toUInt32 p0 >>> (Int32.toUInt32 1 &&& Int32.toUInt32 31)).toInt32) &&& 1431655765)) &&& 858993459) + (((Int32.toUInt32 (p0 - (((Int32.toUInt32 p0 >>> (Int32.toUInt32 1 &&& Int32.toUInt32 31)).toInt32) &&& 1431655765)) >>> (Int32.toUInt32 2 &&& Int32.toUInt32 31)).toInt32) &&& 858993459)) + ((Int32.toUInt32 (((p0 - (((Int32.toUInt32 p0 >>> (Int32.toUInt32 1 &&& Int32.toUInt32 31)).toInt32) &&& 1431655765)) &&& 858993459) + (((Int32.toUInt32 (p0 - (((Int32.toUInt32 p0 >>> (Int32.toUInt32 1 &&& Int32.toUInt32 31)).toInt32) &&& 1431655765)) >>> (Int32.toUInt32 2 &&& Int32.toUInt32 31)).toInt32) &&& 858993459)) >>> (Int32.toUInt32 4 &&& Int32.toUInt32 31)).toInt32)) &&& 252645135) >>> (Int32.toUInt32 8 &&& Int32.toUInt32 31)).toInt32)) + ((Int32.toUInt32 ((((((p0 - (((Int32.toUInt32 p0 >>> (Int32.toUInt32 1 &&& Int32.toUInt32 31)).toInt32) &&& 1431655765)) &&& 858993459) + (((Int32.toUInt32 (p0 - (((Int32.toUInt32 p0 >>> (Int32.toUInt32 1 &&& Int32.toUInt32 31)).toInt32) &&& 1431655765)) >>> (Int32.toUInt32 2 &&& Int32.toUInt32 31)).toInt32) &&& 858993459)) + ((Int32.toUInt32 (((p0 - (((Int32.toUInt32 p0 >>> (Int32.toUInt32 1 &&& Int32.toUInt32 31)).toInt32) &&& 1431655765)) &&& 858993459) + (((Int32.toUInt32 (p0 - (((Int32.toUInt32 p0 >>> (Int32.toUInt32 1 &&& Int32.toUInt32 31)).toInt32) &&& 1431655765)) >>> (Int32.toUInt32 2 &&& Int32.toUInt32 31)).toInt32) &&& 858993459)) >>> (Int32.toUInt32 4 &&& Int32.toUInt32 31)).toInt32)) &&& 252645135) + ((Int32.toUInt32 (((((p0 - (((Int32.toUInt32 p0 >>> (Int32.toUInt32 1 &&& Int32.toUInt32 31)).toInt32) &&& 1431655765)) &&& 858993459) + (((Int32.toUInt32 (p0 - (((Int32.toUInt32 p0 >>> (Int32.toUInt32 1 &&& Int32.toUInt32 31)).toInt32) &&& 1431655765)) >>> (Int32.toUInt32 2 &&& Int32.toUInt32 31)).toInt32) &&& 858993459)) + ((Int32.toUInt32 (((p0 - (((Int32.toUInt32 p0 >>> (Int32.toUInt32 1 &&& Int32.toUInt32 31)).toInt32) &&& 1431655765)) &&& 858993459) + (((Int32.toUInt32 (p0 - (((Int32.toUInt32 p0 >>> (Int32.toUInt32 1 &&& Int32.toUInt32 31)).toInt32) &&& 1431655765)) >>> (Int32.toUInt32 2 &&& Int32.toUInt32 31)).toInt32) &&& 858993459)) >>> (Int32.toUInt32 4 &&& Int32.toUInt32 31)).toInt32)) &&& 252645135) >>> (Int32.toUInt32 8 &&& Int32.toUInt32 31)).toInt32)) >>> (Int32.toUInt32 16 &&& Int32.toUInt32 31)).toInt32)))]) hx hb dJ6_bitCount_0f7a4_47 rfl hl (by decide) rfl (fun ls hl => ?_)
  refine lv_iload_n hx hb dJ6_bitCount_0f7a4_48 rfl (lv_at hl 0 rfl) ?_
  refine lv_bipush (v := 63) hx hb dJ6_bitCount_0f7a4_49 (by decide) ?_
  refine lv_iand hx hb dJ6_bitCount_0f7a4_51 ?_
  exact W.iret (v := ((((((((p0 - (((Int32.toUInt32 p0 >>> (Int32.toUInt32 1 &&& Int32.toUInt32 31)).toInt32) &&& 1431655765)) &&& 858993459) + (((Int32.toUInt32 (p0 - (((Int32.toUInt32 p0 >>> (Int32.toUInt32 1 &&& Int32.toUInt32 31)).toInt32) &&& 1431655765)) >>> (Int32.toUInt32 2 &&& Int32.toUInt32 31)).toInt32) &&& 858993459)) + ((Int32.toUInt32 (((p0 - (((Int32.toUInt32 p0 >>> (Int32.toUInt32 1 &&& Int32.toUInt32 31)).toInt32) &&& 1431655765)) &&& 858993459) + (((Int32.toUInt32 (p0 - (((Int32.toUInt32 p0 >>> (Int32.toUInt32 1 &&& Int32.toUInt32 31)).toInt32) &&& 1431655765)) >>> (Int32.toUInt32 2 &&& Int32.toUInt32 31)).toInt32) &&& 858993459)) >>> (Int32.toUInt32 4 &&& Int32.toUInt32 31)).toInt32)) &&& 252645135) + ((Int32.toUInt32 (((((p0 - (((Int32.toUInt32 p0 >>> (Int32.toUInt32 1 &&& Int32.toUInt32 31)).toInt32) &&& 1431655765)) &&& 858993459) + (((Int32.toUInt32 (p0 - (((Int32.toUInt32 p0 >>> (Int32.toUInt32 1 &&& Int32.toUInt32 31)).toInt32) &&& 1431655765)) >>> (Int32.toUInt32 2 &&& Int32.toUInt32 31)).toInt32) &&& 858993459)) + ((Int32.toUInt32 (((p0 - (((Int32.toUInt32 p0 >>> (Int32.toUInt32 1 &&& Int32.toUInt32 31)).toInt32) &&& 1431655765)) &&& 858993459) + (((Int32.toUInt32 (p0 - (((Int32.toUInt32 p0 >>> (Int32.toUInt32 1 &&& Int32.toUInt32 31)).toInt32) &&& 1431655765)) >>> (Int32.toUInt32 2 &&& Int32.toUInt32 31)).toInt32) &&& 858993459)) >>> (Int32.toUInt32 4 &&& Int32.toUInt32 31)).toInt32)) &&& 252645135) >>> (Int32.toUInt32 8 &&& Int32.toUInt32 31)).toInt32)) + ((Int32.toUInt32 ((((((p0 - (((Int32.toUInt32 p0 >>> (Int32.toUInt32 1 &&& Int32.toUInt32 31)).toInt32) &&& 1431655765)) &&& 858993459) + (((Int32.toUInt32 (p0 - (((Int32.toUInt32 p0 >>> (Int32.toUInt32 1 &&& Int32.toUInt32 31)).toInt32) &&& 1431655765)) >>> (Int32.toUInt32 2 &&& Int32.toUInt32 31)).toInt32) &&& 858993459)) + ((Int32.toUInt32 (((p0 - (((Int32.toUInt32 p0 >>> (Int32.toUInt32 1 &&& Int32.toUInt32 31)).toInt32) &&& 1431655765)) &&& 858993459) + (((Int32.toUInt32 (p0 - (((Int32.toUInt32 p0 >>> (Int32.toUInt32 1 &&& Int32.toUInt32 31)).toInt32) &&& 1431655765)) >>> (Int32.toUInt32 2 &&& Int32.toUInt32 31)).toInt32) &&& 858993459)) >>> (Int32.toUInt32 4 &&& Int32.toUInt32 31)).toInt32)) &&& 252645135) + ((Int32.toUInt32 (((((p0 - (((Int32.toUInt32 p0 >>> (Int32.toUInt32 1 &&& Int32.toUInt32 31)).toInt32) &&& 1431655765)) &&& 858993459) + (((Int32.toUInt32 (p0 - (((Int32.toUInt32 p0 >>> (Int32.toUInt32 1 &&& Int32.toUInt32 31)).toInt32) &&& 1431655765)) >>> (Int32.toUInt32 2 &&& Int32.toUInt32 31)).toInt32) &&& 858993459)) + ((Int32.toUInt32 (((p0 - (((Int32.toUInt32 p0 >>> (Int32.toUInt32 1 &&& Int32.toUInt32 31)).toInt32) &&& 1431655765)) &&& 858993459) + (((Int32.toUInt32 (p0 - (((Int32.toUInt32 p0 >>> (Int32.toUInt32 1 &&& Int32.toUInt32 31)).toInt32) &&& 1431655765)) >>> (Int32.toUInt32 2 &&& Int32.toUInt32 31)).toInt32) &&& 858993459)) >>> (Int32.toUInt32 4 &&& Int32.toUInt32 31)).toInt32)) &&& 252645135) >>> (Int32.toUInt32 8 &&& Int32.toUInt32 31)).toInt32)) >>> (Int32.toUInt32 16 &&& Int32.toUInt32 31)).toInt32)) &&& 63)) hx hb hr (fun t ht hW => ⟨_, rfl, (Option.some.inj hM).symm, ht⟩) (fun _ h => by cases h) dJ6_bitCount_0f7a4_52
/-! X3_all -/
abbrev rm_X3_all : Room := { frames := 0, cells := 0, slots := 0, locals := 0 }
theorem in_X3_all_3 : ∀ w ∈ u_ws RX3 TX3 5, w ∈ wsX3_all := by decide +kernel
set_option maxHeartbeats 4000000 in
set_option maxRecDepth 100000 in
theorem c_X3_all (l : Launch) (dC : Nat → ClassId) (dI : Nat → Nat → Nat) (cI cZ cJ cW : ClassId) (w_a w_cs_a w_ds_a : Nat) (w_t : Int32) (w_k : Int32) (w_f : Int32) (w_cs : Nat → Int32) (w_ds : Nat → Int32) (R : Int32) (hM : M_X3_all w_t = some R) : Met l yX3_all wsX3_all rm_X3_all (va_Pc [.ref w_a] (RP (dC, dI) cI cZ cJ cW [(w_a, .inr (3, [.int w_t, .int w_k, .int w_f, .ref w_cs_a, .ref w_ds_a])), (w_cs_a, .inl (cI, 14, .inl w_cs)), (w_ds_a, .inl (cI, 14, .inl w_ds))])) (vp_Si (fun r => R = r)) 0 0 (fun _ => False) := by
  refine Met.ofW (cc := cX3_all) (maxL := 1) (ret := (some .int)) (by decide) rfl ?_
  intro p e s m args below meth c s₁ B hml hv
  obtain ⟨rfl, hP, hK, hN⟩ := hv
  have hx := B.exec
  have hb := B.bytes
  have hr := B.returns
  have hts := atoms_spec (ws := wsX3_all) B.pre
  have hown : s.vm.findClass RX3 = some m.cls := findClass_of_methodNamed B.named
  have hlocks := B.notSynchronized
  have hf9 := hts (.fieldLink RX3 9 "WordGrounds$Words" "total" "I") (by decide +kernel)
  have hl := lv_entry ([.ref w_a]) (n := 1) (Nat.le_of_ble_eq_true rfl)
  rw [lg_entry_eq]
  generalize (lg_sl ([.ref w_a]) ++ List.replicate (1 - (lg_sl ([.ref w_a])).length) Slot.unset).toArray = ls at hl ⊢
  have hl : lv_has ls 1 [(0, .ref w_a)] := hl
  have hM : (some (((1 : Int32) <<< (w_t &&& 31)) - 1)) = some R := hM
  refine lv_iconst (v := 1) hx hb dX3_all_0 (by decide) ?_
  refine lv_aload_n hx hb dX3_all_1 rfl (lv_at hl 0 rfl) ?_
  refine va_get (D := (dC, dI)) (ci := 3) (v := .int w_t) (C := RX3) (T := TX3) (N := 5) hx hb hts in_X3_all_3 hown hK hP 0 rfl rfl 0 (by decide) hf9 (fun _ h9 => h9) rfl dX3_all_2 ?_
  refine lv_ishl hx hb dX3_all_5 ?_
  refine lv_iconst (v := 1) hx hb dX3_all_6 (by decide) ?_
  refine lv_isub hx hb dX3_all_7 ?_
  exact W.iret (v := (((1 : Int32) <<< (w_t &&& 31)) - 1)) hx hb hr (fun t ht hW => ⟨_, rfl, (Option.some.inj hM).symm, ht⟩) (fun _ h => by cases h) dX3_all_8
/-! X3_has -/
abbrev rm_X3_has : Room := { frames := 0, cells := 0, slots := 0, locals := 0 }
theorem in_X3_has_3 : ∀ w ∈ u_ws RX3 TX3 5, w ∈ wsX3_has := by decide +kernel
set_option maxHeartbeats 4000000 in
set_option maxRecDepth 100000 in
theorem c_X3_has (l : Launch) (dC : Nat → ClassId) (dI : Nat → Nat → Nat) (cI cZ cJ cW : ClassId) (w_a w_cs_a w_ds_a : Nat) (w_t : Int32) (w_k : Int32) (w_f : Int32) (w_cs : Nat → Int32) (w_ds : Nat → Int32) (p1 : Int32) (R : Int32) (hM : M_X3_has w_t p1 = some R) : Met l yX3_has wsX3_has rm_X3_has (va_Pc [.ref w_a, .int p1] (RP (dC, dI) cI cZ cJ cW [(w_a, .inr (3, [.int w_t, .int w_k, .int w_f, .ref w_cs_a, .ref w_ds_a])), (w_cs_a, .inl (cI, 14, .inl w_cs)), (w_ds_a, .inl (cI, 14, .inl w_ds))])) (vp_Si (fun r => R = r)) 0 0 (fun _ => False) := by
  refine Met.ofW (cc := cX3_has) (maxL := 2) (ret := (some .boolean)) (by decide) rfl ?_
  intro p e s m args below meth c s₁ B hml hv
  obtain ⟨rfl, hP, hK, hN⟩ := hv
  have hx := B.exec
  have hb := B.bytes
  have hr := B.returns
  have hts := atoms_spec (ws := wsX3_has) B.pre
  have hown : s.vm.findClass RX3 = some m.cls := findClass_of_methodNamed B.named
  have hlocks := B.notSynchronized
  have hf9 := hts (.fieldLink RX3 9 "WordGrounds$Words" "total" "I") (by decide +kernel)
  have hl := lv_entry ([.ref w_a, .int p1]) (n := 2) (Nat.le_of_ble_eq_true rfl)
  rw [lg_entry_eq]
  generalize (lg_sl ([.ref w_a, .int p1]) ++ List.replicate (2 - (lg_sl ([.ref w_a, .int p1])).length) Slot.unset).toArray = ls at hl ⊢
  have hl : lv_has ls 2 [(0, .ref w_a), (1, .int p1)] := hl
  have hM : (if p1 < 0 then (some 0) else (if w_t ≤ p1 then (some 0) else (some 1))) = some R := hM
  refine lv_iload_n hx hb dX3_has_0 rfl (lv_at hl 1 rfl) ?_
  refine lv_if_lt (tgt := 16) hx hb dX3_has_1 (by decide) (fun c_1 => ?_) (fun c_1 => ?_)
  · replace hM := ob_pos c_1 hM
    refine lv_iconst (v := 0) hx hb dX3_has_16 (by decide) ?_
    exact W.zret (v := 0) hx hb hr (by rfl) (fun t ht hW => ⟨_, rfl, (Option.some.inj hM).symm, ht⟩) (fun _ h => by cases h) dX3_has_17
  · replace hM := ob_neg c_1 hM
    refine lv_iload_n hx hb dX3_has_4 rfl (lv_at hl 1 rfl) ?_
    refine lv_aload_n hx hb dX3_has_5 rfl (lv_at hl 0 rfl) ?_
    refine va_get (D := (dC, dI)) (ci := 3) (v := .int w_t) (C := RX3) (T := TX3) (N := 5) hx hb hts in_X3_has_3 hown hK hP 0 rfl rfl 0 (by decide) hf9 (fun _ h9 => h9) rfl dX3_has_6 ?_
    refine lv_icmp_ge (tgt := 16) hx hb dX3_has_9 (by decide) (fun c_9 => ?_) (fun c_9 => ?_)
    · replace hM := ob_pos c_9 hM
      refine lv_iconst (v := 0) hx hb dX3_has_16 (by decide) ?_
      exact W.zret (v := 0) hx hb hr (by rfl) (fun t ht hW => ⟨_, rfl, (Option.some.inj hM).symm, ht⟩) (fun _ h => by cases h) dX3_has_17
    · replace hM := ob_neg c_9 hM
      refine lv_iconst (v := 1) hx hb dX3_has_12 (by decide) ?_
      refine lv_goto (tgt := 17) hx hb dX3_has_13 (by decide) ?_
      exact W.zret (v := 1) hx hb hr (by rfl) (fun t ht hW => ⟨_, rfl, (Option.some.inj hM).symm, ht⟩) (fun _ h => by cases h) dX3_has_17
/-! X3_hasAll -/
abbrev rm_X3_hasAll : Room := { frames := 1, cells := 0, slots := 0, locals := 20 }
set_option maxHeartbeats 4000000 in
set_option maxRecDepth 100000 in
theorem c_X3_hasAll (l : Launch) (dC : Nat → ClassId) (dI : Nat → Nat → Nat) (cI cZ cJ cW : ClassId) (w_a w_cs_a w_ds_a : Nat) (w_t : Int32) (w_k : Int32) (w_f : Int32) (w_cs : Nat → Int32) (w_ds : Nat → Int32) (p1 : Int32) (R : Int32) (hM : M_X3_hasAll w_t p1 = some R) : Met l yX3_hasAll wsX3_hasAll rm_X3_hasAll (va_Pc [.ref w_a, .int p1] (RP (dC, dI) cI cZ cJ cW [(w_a, .inr (3, [.int w_t, .int w_k, .int w_f, .ref w_cs_a, .ref w_ds_a])), (w_cs_a, .inl (cI, 14, .inl w_cs)), (w_ds_a, .inl (cI, 14, .inl w_ds))])) (vp_Si (fun r => R = r)) 0 0 (fun _ => False) := by
  refine Met.ofW (cc := cX3_hasAll) (maxL := 2) (ret := (some .boolean)) (by decide) rfl ?_
  intro p e s m args below meth c s₁ B hml hv
  obtain ⟨rfl, hP, hK, hN⟩ := hv
  have hx := B.exec
  have hb := B.bytes
  have hr := B.returns
  have hts := atoms_spec (ws := wsX3_hasAll) B.pre
  have hown : s.vm.findClass RX3 = some m.cls := findClass_of_methodNamed B.named
  have hlocks := B.notSynchronized
  have hl := lv_entry ([.ref w_a, .int p1]) (n := 2) (Nat.le_of_ble_eq_true rfl)
  rw [lg_entry_eq]
  generalize (lg_sl ([.ref w_a, .int p1]) ++ List.replicate (2 - (lg_sl ([.ref w_a, .int p1])).length) Slot.unset).toArray = ls at hl ⊢
  have hl : lv_has ls 2 [(0, .ref w_a), (1, .int p1)] := hl
  have hM : ((M_X3_all w_t).bind (fun q2 => if (p1 &&& (q2 ^^^ (-1))) = 0 then (some 1) else (some 0))) = some R := hM
  refine lv_iload_n hx hb dX3_hasAll_0 rfl (lv_at hl 1 rfl) ?_
  refine lv_aload_n hx hb dX3_hasAll_1 rfl (lv_at hl 0 rfl) ?_
  obtain ⟨q2, hv2, hM⟩ := ob_bind hM
  refine vp_callSi (va_Run.run (va_runV (As := []) (rest := [.int p1]) ⟨hx, hb, hml, hown, hts⟩ (c_X3_all l dC dI cI cZ cJ cW w_a w_cs_a w_ds_a w_t w_k w_f w_cs w_ds q2 hv2) (cwV 0 hts gX3_hasAll_X3_all rfl rfl rfl (by decide +kernel) ⟨Nat.le_of_ble_eq_true rfl, Nat.le_of_ble_eq_true rfl⟩) ⟨RP.blind, va_recv hK hP (ci := 3) (q0 := 0) rfl rfl, fun U hU hW => ⟨rfl, by rw [hU]; exact hP.sub (ws' := [(w_a, .inr (3, [.int w_t, .int w_k, .int w_f, .ref w_cs_a, .ref w_ds_a])), (w_cs_a, .inl (cI, 14, .inl w_cs)), (w_ds_a, .inl (cI, 14, .inl w_ds))]) [0, 1, 2] rfl, va_K.moved hW.alike hK, hN.warm hW⟩⟩ rfl rfl hl.1 rfl (lv_room (Nat.le_of_ble_eq_true rfl)) dX3_hasAll_2 ⟨Nat.le_of_ble_eq_true rfl, Nat.le_of_ble_eq_true rfl⟩)) (fun r hr => ?_)
  subst hr
  refine lv_iconst (v := (-1)) hx hb dX3_hasAll_5 (by decide) ?_
  refine lv_ixor hx hb dX3_hasAll_6 ?_
  refine lv_iand hx hb dX3_hasAll_7 ?_
  refine lv_if_ne (tgt := 15) hx hb dX3_hasAll_8 (by decide) (fun c_8 => ?_) (fun c_8 => ?_)
  · replace hM := ob_neg c_8 hM
    refine lv_iconst (v := 0) hx hb dX3_hasAll_15 (by decide) ?_
    exact W.zret (v := 0) hx hb hr (by rfl) (fun t ht hW => ⟨_, rfl, (Option.some.inj hM).symm, ht⟩) (fun _ h => by cases h) dX3_hasAll_16
  · replace hM := ob_pos c_8 hM
    refine lv_iconst (v := 1) hx hb dX3_hasAll_11 (by decide) ?_
    refine lv_goto (tgt := 16) hx hb dX3_hasAll_12 (by decide) ?_
    exact W.zret (v := 1) hx hb hr (by rfl) (fun t ht hW => ⟨_, rfl, (Option.some.inj hM).symm, ht⟩) (fun _ h => by cases h) dX3_hasAll_16
/-! X3_isBare -/
abbrev rm_X3_isBare : Room := { frames := 0, cells := 0, slots := 0, locals := 0 }
theorem in_X3_isBare_3 : ∀ w ∈ u_ws RX3 TX3 5, w ∈ wsX3_isBare := by decide +kernel
set_option maxHeartbeats 4000000 in
set_option maxRecDepth 100000 in
theorem c_X3_isBare (l : Launch) (dC : Nat → ClassId) (dI : Nat → Nat → Nat) (cI cZ cJ cW : ClassId) (w_a w_cs_a w_ds_a : Nat) (w_t : Int32) (w_k : Int32) (w_f : Int32) (w_cs : Nat → Int32) (w_ds : Nat → Int32) (p1 : Int32) (R : Int32) (hM : M_X3_isBare w_f p1 = some R) : Met l yX3_isBare wsX3_isBare rm_X3_isBare (va_Pc [.ref w_a, .int p1] (RP (dC, dI) cI cZ cJ cW [(w_a, .inr (3, [.int w_t, .int w_k, .int w_f, .ref w_cs_a, .ref w_ds_a])), (w_cs_a, .inl (cI, 14, .inl w_cs)), (w_ds_a, .inl (cI, 14, .inl w_ds))])) (vp_Si (fun r => R = r)) 0 0 (fun _ => False) := by
  refine Met.ofW (cc := cX3_isBare) (maxL := 2) (ret := (some .boolean)) (by decide) rfl ?_
  intro p e s m args below meth c s₁ B hml hv
  obtain ⟨rfl, hP, hK, hN⟩ := hv
  have hx := B.exec
  have hb := B.bytes
  have hr := B.returns
  have hts := atoms_spec (ws := wsX3_isBare) B.pre
  have hown : s.vm.findClass RX3 = some m.cls := findClass_of_methodNamed B.named
  have hlocks := B.notSynchronized
  have hf18 := hts (.fieldLink RX3 18 "WordGrounds$Words" "defined" "I") (by decide +kernel)
  have hl := lv_entry ([.ref w_a, .int p1]) (n := 2) (Nat.le_of_ble_eq_true rfl)
  rw [lg_entry_eq]
  generalize (lg_sl ([.ref w_a, .int p1]) ++ List.replicate (2 - (lg_sl ([.ref w_a, .int p1])).length) Slot.unset).toArray = ls at hl ⊢
  have hl : lv_has ls 2 [(0, .ref w_a), (1, .int p1)] := hl
  have hM : (if ((w_f >>> (p1 &&& 31)) &&& 1) = 0 then (some 1) else (some 0)) = some R := hM
  refine lv_aload_n hx hb dX3_isBare_0 rfl (lv_at hl 0 rfl) ?_
  refine va_get (D := (dC, dI)) (ci := 3) (v := .int w_f) (C := RX3) (T := TX3) (N := 5) hx hb hts in_X3_isBare_3 hown hK hP 0 rfl rfl 2 (by decide) hf18 (fun _ h9 => h9) rfl dX3_isBare_1 ?_
  refine lv_iload_n hx hb dX3_isBare_4 rfl (lv_at hl 1 rfl) ?_
  refine lv_ishr hx hb dX3_isBare_5 ?_
  refine lv_iconst (v := 1) hx hb dX3_isBare_6 (by decide) ?_
  refine lv_iand hx hb dX3_isBare_7 ?_
  refine lv_if_ne (tgt := 15) hx hb dX3_isBare_8 (by decide) (fun c_8 => ?_) (fun c_8 => ?_)
  · replace hM := ob_neg c_8 hM
    refine lv_iconst (v := 0) hx hb dX3_isBare_15 (by decide) ?_
    exact W.zret (v := 0) hx hb hr (by rfl) (fun t ht hW => ⟨_, rfl, (Option.some.inj hM).symm, ht⟩) (fun _ h => by cases h) dX3_isBare_16
  · replace hM := ob_pos c_8 hM
    refine lv_iconst (v := 1) hx hb dX3_isBare_11 (by decide) ?_
    refine lv_goto (tgt := 16) hx hb dX3_isBare_12 (by decide) ?_
    exact W.zret (v := 1) hx hb hr (by rfl) (fun t ht hW => ⟨_, rfl, (Option.some.inj hM).symm, ht⟩) (fun _ h => by cases h) dX3_isBare_16
/-! X3_makeBare -/
abbrev rm_X3_makeBare : Room := { frames := 0, cells := 0, slots := 0, locals := 0 }
theorem in_X3_makeBare_3 : ∀ w ∈ u_ws RX3 TX3 5, w ∈ wsX3_makeBare := by decide +kernel
set_option maxHeartbeats 4000000 in
set_option maxRecDepth 100000 in
theorem c_X3_makeBare (l : Launch) (dC : Nat → ClassId) (dI : Nat → Nat → Nat) (cI cZ cJ cW : ClassId) (sz : Nat) (w_a w_cs_a w_ds_a : Nat) (w_t : Int32) (w_k : Int32) (w_f : Int32) (w_cs : Nat → Int32) (w_ds : Nat → Int32) (p1 : Int32) (R : Int32 × (Nat → Int32)) (hM : M_X3_makeBare w_f w_ds p1 = some R) : Met l yX3_makeBare wsX3_makeBare rm_X3_makeBare (va_Pc [.ref w_a, .int p1] (MP (dC, dI) cI cZ cJ cW sz [(w_a, .inr (3, [.int w_t, .int w_k, .int w_f, .ref w_cs_a, .ref w_ds_a])), (w_cs_a, .inl (cI, 14, .inl w_cs)), (w_ds_a, .inl (cI, 14, .inl w_ds))])) (va_Qv (fun (_ : Unit) => True) (PB (dC, dI) (va_A [(w_a, .inr (3, [.int w_t, .int w_k, .int w_f, .ref w_cs_a, .ref w_ds_a])), (w_cs_a, .inl (cI, 14, .inl w_cs)), (w_ds_a, .inl (cI, 14, .inl w_ds))] sz) [(w_a, .inr (3, [.int w_t, .int w_k, .int R.1, .ref w_cs_a, .ref w_ds_a])), (w_cs_a, .inl (cI, 14, .inl w_cs)), (w_ds_a, .inl (cI, 14, .inl R.2))]) (va_A [(w_a, .inr (3, [.int w_t, .int w_k, .int w_f, .ref w_cs_a, .ref w_ds_a])), (w_cs_a, .inl (cI, 14, .inl w_cs)), (w_ds_a, .inl (cI, 14, .inl w_ds))] sz)) 0 0 (va_A [(w_a, .inr (3, [.int w_t, .int w_k, .int w_f, .ref w_cs_a, .ref w_ds_a])), (w_cs_a, .inl (cI, 14, .inl w_cs)), (w_ds_a, .inl (cI, 14, .inl w_ds))] sz) := by
  refine Met.ofW (cc := cX3_makeBare) (maxL := 2) (ret := none) (by decide) rfl ?_
  intro p e s m args below meth c s₁ B hml hv
  obtain ⟨rfl, hsz, hP, hK, hN, hD0⟩ := hv
  have hx := B.exec
  have hb := B.bytes
  have hr := B.returns
  have hts := atoms_spec (ws := wsX3_makeBare) B.pre
  have hown : s.vm.findClass RX3 = some m.cls := findClass_of_methodNamed B.named
  have hlocks := B.notSynchronized
  subst hsz
  have hD := hD0.self (sz := s.heap.size)
  generalize hAe : va_A [(w_a, .inr (3, [.int w_t, .int w_k, .int w_f, .ref w_cs_a, .ref w_ds_a])), (w_cs_a, .inl (cI, 14, .inl w_cs)), (w_ds_a, .inl (cI, 14, .inl w_ds))] s.heap.size = A at hD ⊢
  have hA : ∀ q : Nat, s.heap.size ≤ q → A q := fun q h => by rw [← hAe]; exact Or.inr h
  have hS : va_S A s.heap s.heap [] := va_S.rf
  have hf18 := hts (.fieldLink RX3 18 "WordGrounds$Words" "defined" "I") (by decide +kernel)
  have hf25 := hts (.fieldLink RX3 25 "WordGrounds$Words" "definitions" "[I") (by decide +kernel)
  have hl := lv_entry ([.ref w_a, .int p1]) (n := 2) (Nat.le_of_ble_eq_true rfl)
  rw [lg_entry_eq]
  generalize (lg_sl ([.ref w_a, .int p1]) ++ List.replicate (2 - (lg_sl ([.ref w_a, .int p1])).length) Slot.unset).toArray = ls at hl ⊢
  have hl : lv_has ls 2 [(0, .ref w_a), (1, .int p1)] := hl
  have hP : va_P (dC, dI) vwCl [(w_a, .inr (3, [.int w_t, .int w_k, .int w_f, .ref w_cs_a, .ref w_ds_a])), (w_cs_a, .inl (cI, 14, .inl w_cs)), (w_ds_a, .inl (cI, 14, .inl w_ds))] s.heap := hP
  have hM : (if p1 < 0 ∨ 14 ≤ (p1).toNatClampNeg then none else (some ((w_f &&& (((1 : Int32) <<< (p1 &&& 31)) ^^^ (-1))), (upd w_ds (p1).toNatClampNeg 0)))) = some R := hM
  refine lv_aload_n hx hb dX3_makeBare_0 rfl (lv_at hl 0 rfl) ?_
  refine va_get (D := (dC, dI)) (ci := 3) (v := .ref w_ds_a) (C := RX3) (T := TX3) (N := 5) hx hb hts in_X3_makeBare_3 hown hK hP 0 rfl rfl 4 (by decide) hf25 (fun _ h9 => h9) rfl dX3_makeBare_1 ?_
  refine lv_iload_n hx hb dX3_makeBare_4 rfl (lv_at hl 1 rfl) ?_
  refine lv_iconst (v := 0) hx hb dX3_makeBare_5 (by decide) ?_
  obtain ⟨h_6, hM⟩ := ob_get hM
  refine va_iast hx hb hK hP hD hS 2 0 rfl rfl h_6 dX3_makeBare_6 (fun H locs hP hD hS => ?_)
  have hP : va_P (dC, dI) vwCl [(w_a, .inr (3, [.int w_t, .int w_k, .int w_f, .ref w_cs_a, .ref w_ds_a])), (w_cs_a, .inl (cI, 14, .inl w_cs)), (w_ds_a, .inl (cI, 14, .inl (upd w_ds (p1).toNatClampNeg 0)))] H := hP
  have hD : va_D A [(w_a, .inr (3, [.int w_t, .int w_k, .int w_f, .ref w_cs_a, .ref w_ds_a])), (w_cs_a, .inl (cI, 14, .inl w_cs)), (w_ds_a, .inl (cI, 14, .inl (upd w_ds (p1).toNatClampNeg 0)))] := hD
  refine lv_aload_n hx hb dX3_makeBare_7 rfl (lv_at hl 0 rfl) ?_
  refine lv_dup hx hb dX3_makeBare_8 rfl ?_
  refine va_get (D := (dC, dI)) (ci := 3) (v := .int w_f) (C := RX3) (T := TX3) (N := 5) hx hb hts in_X3_makeBare_3 hown hK hP 0 rfl rfl 2 (by decide) hf18 (fun _ h9 => h9) rfl dX3_makeBare_9 ?_
  refine lv_iconst (v := 1) hx hb dX3_makeBare_12 (by decide) ?_
  refine lv_iload_n hx hb dX3_makeBare_13 rfl (lv_at hl 1 rfl) ?_
  refine lv_ishl hx hb dX3_makeBare_14 ?_
  refine lv_iconst (v := (-1)) hx hb dX3_makeBare_15 (by decide) ?_
  refine lv_ixor hx hb dX3_makeBare_16 ?_
  refine lv_iand hx hb dX3_makeBare_17 ?_
  refine va_put (D := (dC, dI)) (ci := 3) (v := .int (w_f &&& (((1 : Int32) <<< (p1 &&& 31)) ^^^ (-1)))) (ty := .int) (C := RX3) (T := TX3) (N := 5) hx hb hts in_X3_makeBare_3 tyX3 tyX3_ok nmX3 hown hK hP hD hS 0 rfl rfl 2 (by decide) hf18 (fun _ h9 => h9) rfl (by decide +kernel) rfl rfl (Nat.le_of_ble_eq_true rfl) dX3_makeBare_18 (fun H locs hP hD hS => ?_)
  have hP : va_P (dC, dI) vwCl [(w_a, .inr (3, [.int w_t, .int w_k, .int (w_f &&& (((1 : Int32) <<< (p1 &&& 31)) ^^^ (-1))), .ref w_cs_a, .ref w_ds_a])), (w_cs_a, .inl (cI, 14, .inl w_cs)), (w_ds_a, .inl (cI, 14, .inl (upd w_ds (p1).toNatClampNeg 0)))] H := hP
  have hD : va_D A [(w_a, .inr (3, [.int w_t, .int w_k, .int (w_f &&& (((1 : Int32) <<< (p1 &&& 31)) ^^^ (-1))), .ref w_cs_a, .ref w_ds_a])), (w_cs_a, .inl (cI, 14, .inl w_cs)), (w_ds_a, .inl (cI, 14, .inl (upd w_ds (p1).toNatClampNeg 0)))] := hD
  obtain rfl := Option.some.inj hM
  have hP9 := hP.sub (ws' := [(w_a, .inr (3, [.int w_t, .int w_k, .int (w_f &&& (((1 : Int32) <<< (p1 &&& 31)) ^^^ (-1))), .ref w_cs_a, .ref w_ds_a])), (w_cs_a, .inl (cI, 14, .inl w_cs)), (w_ds_a, .inl (cI, 14, .inl (upd w_ds (p1).toNatClampNeg 0)))]) [0, 1, 2] rfl
  have hD9 := hD.sub (ws' := [(w_a, .inr (3, [.int w_t, .int w_k, .int (w_f &&& (((1 : Int32) <<< (p1 &&& 31)) ^^^ (-1))), .ref w_cs_a, .ref w_ds_a])), (w_cs_a, .inl (cI, 14, .inl w_cs)), (w_ds_a, .inl (cI, 14, .inl (upd w_ds (p1).toNatClampNeg 0)))]) [0, 1, 2] (by decide) rfl
  exact W.vret hx hb hr (fun t ht hW => ⟨⟨(), rfl, trivial, by rw [ht]; exact hP9, hD9⟩, hS.F ht⟩) hS.2.2 dX3_makeBare_21
/-! X3_setDefinition -/
abbrev rm_X3_setDefinition : Room := { frames := 0, cells := 0, slots := 0, locals := 0 }
theorem in_X3_setDefinition_3 : ∀ w ∈ u_ws RX3 TX3 5, w ∈ wsX3_setDefinition := by decide +kernel
set_option maxHeartbeats 4000000 in
set_option maxRecDepth 100000 in
theorem c_X3_setDefinition (l : Launch) (dC : Nat → ClassId) (dI : Nat → Nat → Nat) (cI cZ cJ cW : ClassId) (sz : Nat) (w_a w_cs_a w_ds_a : Nat) (w_t : Int32) (w_k : Int32) (w_f : Int32) (w_cs : Nat → Int32) (w_ds : Nat → Int32) (p1 : Int32) (p2 : Int32) (R : Int32 × (Nat → Int32)) (hM : M_X3_setDefinition w_f w_ds p1 p2 = some R) : Met l yX3_setDefinition wsX3_setDefinition rm_X3_setDefinition (va_Pc [.ref w_a, .int p1, .int p2] (MP (dC, dI) cI cZ cJ cW sz [(w_a, .inr (3, [.int w_t, .int w_k, .int w_f, .ref w_cs_a, .ref w_ds_a])), (w_cs_a, .inl (cI, 14, .inl w_cs)), (w_ds_a, .inl (cI, 14, .inl w_ds))])) (va_Qv (fun (_ : Unit) => True) (PB (dC, dI) (va_A [(w_a, .inr (3, [.int w_t, .int w_k, .int w_f, .ref w_cs_a, .ref w_ds_a])), (w_cs_a, .inl (cI, 14, .inl w_cs)), (w_ds_a, .inl (cI, 14, .inl w_ds))] sz) [(w_a, .inr (3, [.int w_t, .int w_k, .int R.1, .ref w_cs_a, .ref w_ds_a])), (w_cs_a, .inl (cI, 14, .inl w_cs)), (w_ds_a, .inl (cI, 14, .inl R.2))]) (va_A [(w_a, .inr (3, [.int w_t, .int w_k, .int w_f, .ref w_cs_a, .ref w_ds_a])), (w_cs_a, .inl (cI, 14, .inl w_cs)), (w_ds_a, .inl (cI, 14, .inl w_ds))] sz)) 0 0 (va_A [(w_a, .inr (3, [.int w_t, .int w_k, .int w_f, .ref w_cs_a, .ref w_ds_a])), (w_cs_a, .inl (cI, 14, .inl w_cs)), (w_ds_a, .inl (cI, 14, .inl w_ds))] sz) := by
  refine Met.ofW (cc := cX3_setDefinition) (maxL := 3) (ret := none) (by decide) rfl ?_
  intro p e s m args below meth c s₁ B hml hv
  obtain ⟨rfl, hsz, hP, hK, hN, hD0⟩ := hv
  have hx := B.exec
  have hb := B.bytes
  have hr := B.returns
  have hts := atoms_spec (ws := wsX3_setDefinition) B.pre
  have hown : s.vm.findClass RX3 = some m.cls := findClass_of_methodNamed B.named
  have hlocks := B.notSynchronized
  subst hsz
  have hD := hD0.self (sz := s.heap.size)
  generalize hAe : va_A [(w_a, .inr (3, [.int w_t, .int w_k, .int w_f, .ref w_cs_a, .ref w_ds_a])), (w_cs_a, .inl (cI, 14, .inl w_cs)), (w_ds_a, .inl (cI, 14, .inl w_ds))] s.heap.size = A at hD ⊢
  have hA : ∀ q : Nat, s.heap.size ≤ q → A q := fun q h => by rw [← hAe]; exact Or.inr h
  have hS : va_S A s.heap s.heap [] := va_S.rf
  have hf18 := hts (.fieldLink RX3 18 "WordGrounds$Words" "defined" "I") (by decide +kernel)
  have hf25 := hts (.fieldLink RX3 25 "WordGrounds$Words" "definitions" "[I") (by decide +kernel)
  have hl := lv_entry ([.ref w_a, .int p1, .int p2]) (n := 3) (Nat.le_of_ble_eq_true rfl)
  rw [lg_entry_eq]
  generalize (lg_sl ([.ref w_a, .int p1, .int p2]) ++ List.replicate (3 - (lg_sl ([.ref w_a, .int p1, .int p2])).length) Slot.unset).toArray = ls at hl ⊢
  have hl : lv_has ls 3 [(0, .ref w_a), (1, .int p1), (2, .int p2)] := hl
  have hP : va_P (dC, dI) vwCl [(w_a, .inr (3, [.int w_t, .int w_k, .int w_f, .ref w_cs_a, .ref w_ds_a])), (w_cs_a, .inl (cI, 14, .inl w_cs)), (w_ds_a, .inl (cI, 14, .inl w_ds))] s.heap := hP
  have hM : (if p1 < 0 ∨ 14 ≤ (p1).toNatClampNeg then none else (some ((w_f ||| ((1 : Int32) <<< (p1 &&& 31))), (upd w_ds (p1).toNatClampNeg p2)))) = some R := hM
  refine lv_aload_n hx hb dX3_setDefinition_0 rfl (lv_at hl 0 rfl) ?_
  refine va_get (D := (dC, dI)) (ci := 3) (v := .ref w_ds_a) (C := RX3) (T := TX3) (N := 5) hx hb hts in_X3_setDefinition_3 hown hK hP 0 rfl rfl 4 (by decide) hf25 (fun _ h9 => h9) rfl dX3_setDefinition_1 ?_
  refine lv_iload_n hx hb dX3_setDefinition_4 rfl (lv_at hl 1 rfl) ?_
  refine lv_iload_n hx hb dX3_setDefinition_5 rfl (lv_at hl 2 rfl) ?_
  obtain ⟨h_6, hM⟩ := ob_get hM
  refine va_iast hx hb hK hP hD hS 2 0 rfl rfl h_6 dX3_setDefinition_6 (fun H locs hP hD hS => ?_)
  have hP : va_P (dC, dI) vwCl [(w_a, .inr (3, [.int w_t, .int w_k, .int w_f, .ref w_cs_a, .ref w_ds_a])), (w_cs_a, .inl (cI, 14, .inl w_cs)), (w_ds_a, .inl (cI, 14, .inl (upd w_ds (p1).toNatClampNeg p2)))] H := hP
  have hD : va_D A [(w_a, .inr (3, [.int w_t, .int w_k, .int w_f, .ref w_cs_a, .ref w_ds_a])), (w_cs_a, .inl (cI, 14, .inl w_cs)), (w_ds_a, .inl (cI, 14, .inl (upd w_ds (p1).toNatClampNeg p2)))] := hD
  refine lv_aload_n hx hb dX3_setDefinition_7 rfl (lv_at hl 0 rfl) ?_
  refine lv_dup hx hb dX3_setDefinition_8 rfl ?_
  refine va_get (D := (dC, dI)) (ci := 3) (v := .int w_f) (C := RX3) (T := TX3) (N := 5) hx hb hts in_X3_setDefinition_3 hown hK hP 0 rfl rfl 2 (by decide) hf18 (fun _ h9 => h9) rfl dX3_setDefinition_9 ?_
  refine lv_iconst (v := 1) hx hb dX3_setDefinition_12 (by decide) ?_
  refine lv_iload_n hx hb dX3_setDefinition_13 rfl (lv_at hl 1 rfl) ?_
  refine lv_ishl hx hb dX3_setDefinition_14 ?_
  refine lv_ior hx hb dX3_setDefinition_15 ?_
  refine va_put (D := (dC, dI)) (ci := 3) (v := .int (w_f ||| ((1 : Int32) <<< (p1 &&& 31)))) (ty := .int) (C := RX3) (T := TX3) (N := 5) hx hb hts in_X3_setDefinition_3 tyX3 tyX3_ok nmX3 hown hK hP hD hS 0 rfl rfl 2 (by decide) hf18 (fun _ h9 => h9) rfl (by decide +kernel) rfl rfl (Nat.le_of_ble_eq_true rfl) dX3_setDefinition_16 (fun H locs hP hD hS => ?_)
  have hP : va_P (dC, dI) vwCl [(w_a, .inr (3, [.int w_t, .int w_k, .int (w_f ||| ((1 : Int32) <<< (p1 &&& 31))), .ref w_cs_a, .ref w_ds_a])), (w_cs_a, .inl (cI, 14, .inl w_cs)), (w_ds_a, .inl (cI, 14, .inl (upd w_ds (p1).toNatClampNeg p2)))] H := hP
  have hD : va_D A [(w_a, .inr (3, [.int w_t, .int w_k, .int (w_f ||| ((1 : Int32) <<< (p1 &&& 31))), .ref w_cs_a, .ref w_ds_a])), (w_cs_a, .inl (cI, 14, .inl w_cs)), (w_ds_a, .inl (cI, 14, .inl (upd w_ds (p1).toNatClampNeg p2)))] := hD
  obtain rfl := Option.some.inj hM
  have hP9 := hP.sub (ws' := [(w_a, .inr (3, [.int w_t, .int w_k, .int (w_f ||| ((1 : Int32) <<< (p1 &&& 31))), .ref w_cs_a, .ref w_ds_a])), (w_cs_a, .inl (cI, 14, .inl w_cs)), (w_ds_a, .inl (cI, 14, .inl (upd w_ds (p1).toNatClampNeg p2)))]) [0, 1, 2] rfl
  have hD9 := hD.sub (ws' := [(w_a, .inr (3, [.int w_t, .int w_k, .int (w_f ||| ((1 : Int32) <<< (p1 &&& 31))), .ref w_cs_a, .ref w_ds_a])), (w_cs_a, .inl (cI, 14, .inl w_cs)), (w_ds_a, .inl (cI, 14, .inl (upd w_ds (p1).toNatClampNeg p2)))]) [0, 1, 2] (by decide) rfl
  exact W.vret hx hb hr (fun t ht hW => ⟨⟨(), rfl, trivial, by rw [ht]; exact hP9, hD9⟩, hS.F ht⟩) hS.2.2 dX3_setDefinition_19
/-! X3_resize -/
abbrev rm_X3_resize : Room := { frames := 1, cells := 0, slots := 0, locals := 21 }
theorem in_X3_resize_3 : ∀ w ∈ u_ws RX3 TX3 5, w ∈ wsX3_resize := by decide +kernel
set_option maxHeartbeats 4000000 in
set_option maxRecDepth 100000 in
theorem c_X3_resize (l : Launch) (dC : Nat → ClassId) (dI : Nat → Nat → Nat) (cI cZ cJ cW : ClassId) (sz : Nat) (w_a w_cs_a w_ds_a : Nat) (w_t : Int32) (w_k : Int32) (w_f : Int32) (w_cs : Nat → Int32) (w_ds : Nat → Int32) (p1 : Int32) (R : Int32 × Int32 × Int32 × (Nat → Int32) × (Nat → Int32)) (hM : M_X3_resize w_k w_f w_cs w_ds p1 = some R) : Met l yX3_resize wsX3_resize rm_X3_resize (va_Pc [.ref w_a, .int p1] (MP (dC, dI) cI cZ cJ cW sz [(w_a, .inr (3, [.int w_t, .int w_k, .int w_f, .ref w_cs_a, .ref w_ds_a])), (w_cs_a, .inl (cI, 14, .inl w_cs)), (w_ds_a, .inl (cI, 14, .inl w_ds))])) (va_Qv (fun (_ : Unit) => True) (PB (dC, dI) (va_A [(w_a, .inr (3, [.int w_t, .int w_k, .int w_f, .ref w_cs_a, .ref w_ds_a])), (w_cs_a, .inl (cI, 14, .inl w_cs)), (w_ds_a, .inl (cI, 14, .inl w_ds))] sz) [(w_a, .inr (3, [.int R.1, .int R.2.1, .int R.2.2.1, .ref w_cs_a, .ref w_ds_a])), (w_cs_a, .inl (cI, 14, .inl R.2.2.2.1)), (w_ds_a, .inl (cI, 14, .inl R.2.2.2.2))]) (va_A [(w_a, .inr (3, [.int w_t, .int w_k, .int w_f, .ref w_cs_a, .ref w_ds_a])), (w_cs_a, .inl (cI, 14, .inl w_cs)), (w_ds_a, .inl (cI, 14, .inl w_ds))] sz)) 0 0 (va_A [(w_a, .inr (3, [.int w_t, .int w_k, .int w_f, .ref w_cs_a, .ref w_ds_a])), (w_cs_a, .inl (cI, 14, .inl w_cs)), (w_ds_a, .inl (cI, 14, .inl w_ds))] sz) := by
  refine Met.ofW (cc := cX3_resize) (maxL := 3) (ret := none) (by decide) rfl ?_
  intro p e s m args below meth c s₁ B hml hv
  obtain ⟨rfl, hsz, hP, hK, hN, hD0⟩ := hv
  have hx := B.exec
  have hb := B.bytes
  have hr := B.returns
  have hts := atoms_spec (ws := wsX3_resize) B.pre
  have hown : s.vm.findClass RX3 = some m.cls := findClass_of_methodNamed B.named
  have hlocks := B.notSynchronized
  subst hsz
  have hD := hD0.self (sz := s.heap.size)
  generalize hAe : va_A [(w_a, .inr (3, [.int w_t, .int w_k, .int w_f, .ref w_cs_a, .ref w_ds_a])), (w_cs_a, .inl (cI, 14, .inl w_cs)), (w_ds_a, .inl (cI, 14, .inl w_ds))] s.heap.size = A at hD ⊢
  have hA : ∀ q : Nat, s.heap.size ≤ q → A q := fun q h => by rw [← hAe]; exact Or.inr h
  have hS : va_S A s.heap s.heap [] := va_S.rf
  have hf9 := hts (.fieldLink RX3 9 "WordGrounds$Words" "total" "I") (by decide +kernel)
  have hf15 := hts (.fieldLink RX3 15 "WordGrounds$Words" "known" "I") (by decide +kernel)
  have hf21 := hts (.fieldLink RX3 21 "WordGrounds$Words" "costs" "[I") (by decide +kernel)
  have hf25 := hts (.fieldLink RX3 25 "WordGrounds$Words" "definitions" "[I") (by decide +kernel)
  have hl := lv_entry ([.ref w_a, .int p1]) (n := 3) (Nat.le_of_ble_eq_true rfl)
  rw [lg_entry_eq]
  generalize (lg_sl ([.ref w_a, .int p1]) ++ List.replicate (3 - (lg_sl ([.ref w_a, .int p1])).length) Slot.unset).toArray = ls at hl ⊢
  have hl : lv_has ls 3 [(0, .ref w_a), (1, .int p1)] := hl
  have hP : va_P (dC, dI) vwCl [(w_a, .inr (3, [.int w_t, .int w_k, .int w_f, .ref w_cs_a, .ref w_ds_a])), (w_cs_a, .inl (cI, 14, .inl w_cs)), (w_ds_a, .inl (cI, 14, .inl w_ds))] s.heap := hP
  have hM : ((M_X3_all p1).bind (fun q11 => L_X3_resize_20 p1 (fun (v2_20 : Int32) (w_ds_20 : Nat → Int32) => L_X3_resize_46 (fun (v2_46 : Int32) (w_f_46 : Int32) (w_cs_46 : Nat → Int32) (w_ds_46 : Nat → Int32) => some (p1, (w_k &&& q11), w_f_46, w_cs_46, w_ds_46)) 40 p1 w_f w_cs w_ds_20) 40 0 w_ds)) = some R := hM
  refine lv_aload_n hx hb dX3_resize_0 rfl (lv_at hl 0 rfl) ?_
  refine lv_iload_n hx hb dX3_resize_1 rfl (lv_at hl 1 rfl) ?_
  refine va_put (D := (dC, dI)) (ci := 3) (v := .int p1) (ty := .int) (C := RX3) (T := TX3) (N := 5) hx hb hts in_X3_resize_3 tyX3 tyX3_ok nmX3 hown hK hP hD hS 0 rfl rfl 0 (by decide) hf9 (fun _ h9 => h9) rfl (by decide +kernel) rfl rfl (Nat.le_of_ble_eq_true rfl) dX3_resize_2 (fun H locs hP hD hS => ?_)
  have hP : va_P (dC, dI) vwCl [(w_a, .inr (3, [.int p1, .int w_k, .int w_f, .ref w_cs_a, .ref w_ds_a])), (w_cs_a, .inl (cI, 14, .inl w_cs)), (w_ds_a, .inl (cI, 14, .inl w_ds))] H := hP
  have hD : va_D A [(w_a, .inr (3, [.int p1, .int w_k, .int w_f, .ref w_cs_a, .ref w_ds_a])), (w_cs_a, .inl (cI, 14, .inl w_cs)), (w_ds_a, .inl (cI, 14, .inl w_ds))] := hD
  refine lv_aload_n hx hb dX3_resize_5 rfl (lv_at hl 0 rfl) ?_
  refine lv_dup hx hb dX3_resize_6 rfl ?_
  refine va_get (D := (dC, dI)) (ci := 3) (v := .int w_k) (C := RX3) (T := TX3) (N := 5) hx hb hts in_X3_resize_3 hown hK hP 0 rfl rfl 1 (by decide) hf15 (fun _ h9 => h9) rfl dX3_resize_7 ?_
  refine lv_aload_n hx hb dX3_resize_10 rfl (lv_at hl 0 rfl) ?_
  obtain ⟨q11, hv11, hM⟩ := ob_bind hM
  refine vp_callSi (va_Run.run (va_runV (As := []) (rest := [.int w_k, .ref w_a]) ⟨hx, hb, hml, hown, hts⟩ (c_X3_all l dC dI cI cZ cJ cW w_a w_cs_a w_ds_a p1 w_k w_f w_cs w_ds q11 hv11) (cwV 0 hts gX3_resize_X3_all rfl rfl rfl (by decide +kernel) ⟨Nat.le_of_ble_eq_true rfl, Nat.le_of_ble_eq_true rfl⟩) ⟨RP.blind, va_recv hK hP (ci := 3) (q0 := 0) rfl rfl, fun U hU hW => ⟨rfl, by rw [hU]; exact hP.sub (ws' := [(w_a, .inr (3, [.int p1, .int w_k, .int w_f, .ref w_cs_a, .ref w_ds_a])), (w_cs_a, .inl (cI, 14, .inl w_cs)), (w_ds_a, .inl (cI, 14, .inl w_ds))]) [0, 1, 2] rfl, va_K.moved hW.alike hK, hN.warm hW⟩⟩ rfl rfl hl.1 rfl (lv_room (Nat.le_of_ble_eq_true rfl)) dX3_resize_11 ⟨Nat.le_of_ble_eq_true rfl, Nat.le_of_ble_eq_true rfl⟩)) (fun r hr => ?_)
  subst hr
  refine lv_iand hx hb dX3_resize_14 ?_
  refine va_put (D := (dC, dI)) (ci := 3) (v := .int (w_k &&& q11)) (ty := .int) (C := RX3) (T := TX3) (N := 5) hx hb hts in_X3_resize_3 tyX3 tyX3_ok nmX3 hown hK hP hD hS 0 rfl rfl 1 (by decide) hf15 (fun _ h9 => h9) rfl (by decide +kernel) rfl rfl (Nat.le_of_ble_eq_true rfl) dX3_resize_15 (fun H locs hP hD hS => ?_)
  have hP : va_P (dC, dI) vwCl [(w_a, .inr (3, [.int p1, .int (w_k &&& q11), .int w_f, .ref w_cs_a, .ref w_ds_a])), (w_cs_a, .inl (cI, 14, .inl w_cs)), (w_ds_a, .inl (cI, 14, .inl w_ds))] H := hP
  have hD : va_D A [(w_a, .inr (3, [.int p1, .int (w_k &&& q11), .int w_f, .ref w_cs_a, .ref w_ds_a])), (w_cs_a, .inl (cI, 14, .inl w_cs)), (w_ds_a, .inl (cI, 14, .inl w_ds))] := hD
  refine lv_iconst (v := 0) hx hb dX3_resize_18 (by decide) ?_
  refine lv_istore_n (lv' := [(2, .int 0), (0, .ref w_a), (1, .int p1)]) hx hb dX3_resize_19 rfl hl (by decide) rfl (fun ls hl => ?_)
  obtain ⟨K20, hK20⟩ : ∃ K : Int32 → (Nat → Int32) → Option (Int32 × Int32 × Int32 × (Nat → Int32) × (Nat → Int32)), K = (fun (v2_20 : Int32) (w_ds_20 : Nat → Int32) => L_X3_resize_46 (fun (v2_46 : Int32) (w_f_46 : Int32) (w_cs_46 : Nat → Int32) (w_ds_46 : Nat → Int32) => some (p1, (w_k &&& q11), w_f_46, w_cs_46, w_ds_46)) 40 p1 w_f w_cs w_ds_20) := ⟨_, rfl⟩
  have hM : L_X3_resize_20 p1 K20 40 0 w_ds = some R := by rw [hK20]; exact hM
  have hL20 : ∀ (k20 : Nat) (v2_20 : Int32) (w_ds_20 : Nat → Int32) (H : Heap) (locs : List Loc) (ls : Array Slot), L_X3_resize_20 p1 K20 k20 v2_20 w_ds_20 = some R → va_P (dC, dI) vwCl [(w_a, .inr (3, [.int p1, .int (w_k &&& q11), .int w_f, .ref w_cs_a, .ref w_ds_a])), (w_cs_a, .inl (cI, 14, .inl w_cs)), (w_ds_a, .inl (cI, 14, .inl w_ds_20))] H → va_D A [(w_a, .inr (3, [.int p1, .int (w_k &&& q11), .int w_f, .ref w_cs_a, .ref w_ds_a])), (w_cs_a, .inl (cI, 14, .inl w_cs)), (w_ds_a, .inl (cI, 14, .inl w_ds_20))] → va_S A s.heap H locs → lv_has ls 3 [(2, .int v2_20), (0, .ref w_a), (1, .int p1)] → W p l e rm_X3_resize s m ([.ref w_a, .int p1] : List Value).toArray below meth c H locs 0 0 (MQ below (va_Qv (fun (_ : Unit) => True) (PB (dC, dI) A [(w_a, .inr (3, [.int R.1, .int R.2.1, .int R.2.2.1, .ref w_cs_a, .ref w_ds_a])), (w_cs_a, .inl (cI, 14, .inl R.2.2.2.1)), (w_ds_a, .inl (cI, 14, .inl R.2.2.2.2))]) A) ([.ref w_a, .int p1] : List Value).toArray s 0 0 A) (F0 m 20 ls []) := by
    intro k20
    induction k20 with
    | zero => intro v2_20 w_ds_20 H locs ls hM; exact (ob_none hM).elim
    | succ k20 ih20 =>
      intro v2_20 w_ds_20 H locs ls hM hP hD hS hl
      have hM : (if p1 ≤ v2_20 then (K20 v2_20 w_ds_20) else (if v2_20 < 0 ∨ 14 ≤ (v2_20).toNatClampNeg then none else ((M_X3_all p1).bind (fun q33 => if v2_20 < 0 ∨ 14 ≤ (v2_20).toNatClampNeg then none else (L_X3_resize_20 p1 K20 k20 (v2_20 + 1) (upd w_ds_20 (v2_20).toNatClampNeg ((w_ds_20 (v2_20).toNatClampNeg) &&& q33))))))) = some R := hM
      refine lv_iload_n hx hb dX3_resize_20 rfl (lv_at hl 0 rfl) ?_
      refine lv_iload_n hx hb dX3_resize_21 rfl (lv_at hl 2 rfl) ?_
      refine lv_icmp_ge (tgt := 44) hx hb dX3_resize_22 (by decide) (fun c_22 => ?_) (fun c_22 => ?_)
      · replace hM := ob_pos c_22 hM
        have hM : (L_X3_resize_46 (fun (v2_46 : Int32) (w_f_46 : Int32) (w_cs_46 : Nat → Int32) (w_ds_46 : Nat → Int32) => some (p1, (w_k &&& q11), w_f_46, w_cs_46, w_ds_46)) 40 p1 w_f w_cs w_ds_20) = some R := by rw [hK20] at hM; exact hM
        refine lv_iload_n hx hb dX3_resize_44 rfl (lv_at hl 2 rfl) ?_
        refine lv_istore_n (lv' := [(2, .int p1), (0, .ref w_a), (1, .int p1)]) hx hb dX3_resize_45 rfl hl (by decide) rfl (fun ls hl => ?_)
        obtain ⟨K46, hK46⟩ : ∃ K : Int32 → Int32 → (Nat → Int32) → (Nat → Int32) → Option (Int32 × Int32 × Int32 × (Nat → Int32) × (Nat → Int32)), K = (fun (v2_46 : Int32) (w_f_46 : Int32) (w_cs_46 : Nat → Int32) (w_ds_46 : Nat → Int32) => some (p1, (w_k &&& q11), w_f_46, w_cs_46, w_ds_46)) := ⟨_, rfl⟩
        have hM : L_X3_resize_46 K46 40 p1 w_f w_cs w_ds_20 = some R := by rw [hK46]; exact hM
        have hL46 : ∀ (k46 : Nat) (v2_46 : Int32) (w_f_46 : Int32) (w_cs_46 : Nat → Int32) (w_ds_46 : Nat → Int32) (H : Heap) (locs : List Loc) (ls : Array Slot), L_X3_resize_46 K46 k46 v2_46 w_f_46 w_cs_46 w_ds_46 = some R → va_P (dC, dI) vwCl [(w_a, .inr (3, [.int p1, .int (w_k &&& q11), .int w_f_46, .ref w_cs_a, .ref w_ds_a])), (w_cs_a, .inl (cI, 14, .inl w_cs_46)), (w_ds_a, .inl (cI, 14, .inl w_ds_46))] H → va_D A [(w_a, .inr (3, [.int p1, .int (w_k &&& q11), .int w_f_46, .ref w_cs_a, .ref w_ds_a])), (w_cs_a, .inl (cI, 14, .inl w_cs_46)), (w_ds_a, .inl (cI, 14, .inl w_ds_46))] → va_S A s.heap H locs → lv_has ls 3 [(2, .int v2_46), (0, .ref w_a), (1, .int p1)] → W p l e rm_X3_resize s m ([.ref w_a, .int p1] : List Value).toArray below meth c H locs 0 0 (MQ below (va_Qv (fun (_ : Unit) => True) (PB (dC, dI) A [(w_a, .inr (3, [.int R.1, .int R.2.1, .int R.2.2.1, .ref w_cs_a, .ref w_ds_a])), (w_cs_a, .inl (cI, 14, .inl R.2.2.2.1)), (w_ds_a, .inl (cI, 14, .inl R.2.2.2.2))]) A) ([.ref w_a, .int p1] : List Value).toArray s 0 0 A) (F0 m 46 ls []) := by
          intro k46
          induction k46 with
          | zero => intro v2_46 w_f_46 w_cs_46 w_ds_46 H locs ls hM; exact (ob_none hM).elim
          | succ k46 ih46 =>
            intro v2_46 w_f_46 w_cs_46 w_ds_46 H locs ls hM hP hD hS hl
            have hM : (if 14 ≤ v2_46 then (K46 v2_46 w_f_46 w_cs_46 w_ds_46) else ((M_X3_makeBare w_f_46 w_ds_46 v2_46).bind (fun q54 => if v2_46 < 0 ∨ 14 ≤ (v2_46).toNatClampNeg then none else (L_X3_resize_46 K46 k46 (v2_46 + 1) q54.1 (upd w_cs_46 (v2_46).toNatClampNeg 1) q54.2)))) = some R := hM
            refine lv_iload_n hx hb dX3_resize_46 rfl (lv_at hl 0 rfl) ?_
            refine lv_bipush (v := 14) hx hb dX3_resize_47 (by decide) ?_
            refine lv_icmp_ge (tgt := 70) hx hb dX3_resize_49 (by decide) (fun c_49 => ?_) (fun c_49 => ?_)
            · replace hM := ob_pos c_49 hM
              have hM : (some (p1, (w_k &&& q11), w_f_46, w_cs_46, w_ds_46)) = some R := by rw [hK46] at hM; exact hM
              obtain rfl := Option.some.inj hM
              have hP9 := hP.sub (ws' := [(w_a, .inr (3, [.int p1, .int (w_k &&& q11), .int w_f_46, .ref w_cs_a, .ref w_ds_a])), (w_cs_a, .inl (cI, 14, .inl w_cs_46)), (w_ds_a, .inl (cI, 14, .inl w_ds_46))]) [0, 1, 2] rfl
              have hD9 := hD.sub (ws' := [(w_a, .inr (3, [.int p1, .int (w_k &&& q11), .int w_f_46, .ref w_cs_a, .ref w_ds_a])), (w_cs_a, .inl (cI, 14, .inl w_cs_46)), (w_ds_a, .inl (cI, 14, .inl w_ds_46))]) [0, 1, 2] (by decide) rfl
              exact W.vret hx hb hr (fun t ht hW => ⟨⟨(), rfl, trivial, by rw [ht]; exact hP9, hD9⟩, hS.F ht⟩) hS.2.2 dX3_resize_70
            · replace hM := ob_neg c_49 hM
              refine lv_aload_n hx hb dX3_resize_52 rfl (lv_at hl 1 rfl) ?_
              refine lv_iload_n hx hb dX3_resize_53 rfl (lv_at hl 0 rfl) ?_
              obtain ⟨q54, hv54, hM⟩ := ob_bind hM
              have hPc := hP.sub (ws' := [(w_a, .inr (3, [.int p1, .int (w_k &&& q11), .int w_f_46, .ref w_cs_a, .ref w_ds_a])), (w_cs_a, .inl (cI, 14, .inl w_cs_46)), (w_ds_a, .inl (cI, 14, .inl w_ds_46))]) [0, 1, 2] rfl
              have hDc := hD.sub (ws' := [(w_a, .inr (3, [.int p1, .int (w_k &&& q11), .int w_f_46, .ref w_cs_a, .ref w_ds_a])), (w_cs_a, .inl (cI, 14, .inl w_cs_46)), (w_ds_a, .inl (cI, 14, .inl w_ds_46))]) [0, 1, 2] (by decide) rfl
              have hFc := va_free (wc := [(w_a, .inr (3, [.int p1, .int (w_k &&& q11), .int w_f_46, .ref w_cs_a, .ref w_ds_a])), (w_cs_a, .inl (cI, 14, .inl w_cs_46)), (w_ds_a, .inl (cI, 14, .inl w_ds_46))]) hD hS hA [0, 1, 2] rfl
              refine va_callv (va_runV (As := [.int v2_46]) (rest := []) ⟨hx, hb, hml, hown, hts⟩ (c_X3_makeBare l dC dI cI cZ cJ cW (H.size) w_a w_cs_a w_ds_a p1 (w_k &&& q11) w_f_46 w_cs_46 w_ds_46 v2_46 q54 hv54) (cwV 1 hts gX3_resize_X3_makeBare rfl rfl rfl (by decide +kernel) ⟨Nat.le_of_ble_eq_true rfl, Nat.le_of_ble_eq_true rfl⟩) ⟨MP.blind, va_recv hK hP (ci := 3) (q0 := 0) rfl rfl, fun U hU hW => ⟨rfl, by rw [hU], by rw [hU]; exact hPc, va_K.moved hW.alike hK, hN.warm hW, hDc.weaken (fun _ _ _ _ => trivial)⟩⟩ rfl rfl hl.1 rfl (lv_room (Nat.le_of_ble_eq_true rfl)) dX3_resize_54 ⟨Nat.le_of_ble_eq_true rfl, Nat.le_of_ble_eq_true rfl⟩) hS (fun q _ h => hFc q h) hFc (fun u t H1 locs ht hvm hw hB hz1 hk1 hS => ?_)
              obtain ⟨hP1, hD1⟩ := hB
              rw [ht] at hP1
              obtain ⟨hP, hD⟩ := va_join (wr := []) (w1 := [(w_a, .inr (3, [.int p1, .int (w_k &&& q11), .int q54.1, .ref w_cs_a, .ref w_ds_a])), (w_cs_a, .inl (cI, 14, .inl w_cs_46)), (w_ds_a, .inl (cI, 14, .inl q54.2))]) hP hD [0, 1, 2] [] rfl rfl (by decide) (by decide) hk1 hFc hP1 hD1
              generalize H1 = H at hP hS ⊢
              have hP : va_P (dC, dI) vwCl [(w_a, .inr (3, [.int p1, .int (w_k &&& q11), .int q54.1, .ref w_cs_a, .ref w_ds_a])), (w_cs_a, .inl (cI, 14, .inl w_cs_46)), (w_ds_a, .inl (cI, 14, .inl q54.2))] H := hP
              have hD : va_D A [(w_a, .inr (3, [.int p1, .int (w_k &&& q11), .int q54.1, .ref w_cs_a, .ref w_ds_a])), (w_cs_a, .inl (cI, 14, .inl w_cs_46)), (w_ds_a, .inl (cI, 14, .inl q54.2))] := hD
              refine lv_aload_n hx hb dX3_resize_57 rfl (lv_at hl 1 rfl) ?_
              refine va_get (D := (dC, dI)) (ci := 3) (v := .ref w_cs_a) (C := RX3) (T := TX3) (N := 5) hx hb hts in_X3_resize_3 hown hK hP 0 rfl rfl 3 (by decide) hf21 (fun _ h9 => h9) rfl dX3_resize_58 ?_
              refine lv_iload_n hx hb dX3_resize_61 rfl (lv_at hl 0 rfl) ?_
              refine lv_iconst (v := 1) hx hb dX3_resize_62 (by decide) ?_
              obtain ⟨h_63, hM⟩ := ob_get hM
              refine va_iast hx hb hK hP hD hS 1 0 rfl rfl h_63 dX3_resize_63 (fun H locs hP hD hS => ?_)
              have hP : va_P (dC, dI) vwCl [(w_a, .inr (3, [.int p1, .int (w_k &&& q11), .int q54.1, .ref w_cs_a, .ref w_ds_a])), (w_cs_a, .inl (cI, 14, .inl (upd w_cs_46 (v2_46).toNatClampNeg 1))), (w_ds_a, .inl (cI, 14, .inl q54.2))] H := hP
              have hD : va_D A [(w_a, .inr (3, [.int p1, .int (w_k &&& q11), .int q54.1, .ref w_cs_a, .ref w_ds_a])), (w_cs_a, .inl (cI, 14, .inl (upd w_cs_46 (v2_46).toNatClampNeg 1))), (w_ds_a, .inl (cI, 14, .inl q54.2))] := hD
              refine lv_iinc (v := (v2_46 + 1)) (lv' := [(2, .int (v2_46 + 1)), (0, .ref w_a), (1, .int p1)]) hx hb dX3_resize_64 hl (k := 0) rfl (by rfl) (by decide) rfl (fun ls hl => ?_)
              refine lv_goto (tgt := 46) hx hb dX3_resize_67 (by decide) ?_
              exact ih46 (v2_46 + 1) q54.1 (upd w_cs_46 (v2_46).toNatClampNeg 1) q54.2 _ _ _ hM (hP.sub [0, 1, 2] rfl) (hD.sub [0, 1, 2] (by decide) rfl) hS (lv_sub hl [0, 1, 2] rfl)
        exact hL46 40 p1 w_f w_cs w_ds_20 _ _ _ hM hP hD hS (lv_sub hl [0, 1, 2] rfl)
      · replace hM := ob_neg c_22 hM
        refine lv_aload_n hx hb dX3_resize_25 rfl (lv_at hl 1 rfl) ?_
        refine va_get (D := (dC, dI)) (ci := 3) (v := .ref w_ds_a) (C := RX3) (T := TX3) (N := 5) hx hb hts in_X3_resize_3 hown hK hP 0 rfl rfl 4 (by decide) hf25 (fun _ h9 => h9) rfl dX3_resize_26 ?_
        refine lv_iload_n hx hb dX3_resize_29 rfl (lv_at hl 0 rfl) ?_
        refine lv_dup2_11 hx hb dX3_resize_30 rfl rfl ?_
        obtain ⟨h_31, hM⟩ := ob_get hM
        refine va_iald hx hb hK hP 2 0 rfl rfl h_31 dX3_resize_31 ?_
        refine lv_aload_n hx hb dX3_resize_32 rfl (lv_at hl 1 rfl) ?_
        obtain ⟨q33, hv33, hM⟩ := ob_bind hM
        refine vp_callSi (va_Run.run (va_runV (As := []) (rest := [.int (w_ds_20 (v2_20).toNatClampNeg), .int v2_20, .ref w_ds_a]) ⟨hx, hb, hml, hown, hts⟩ (c_X3_all l dC dI cI cZ cJ cW w_a w_cs_a w_ds_a p1 (w_k &&& q11) w_f w_cs w_ds_20 q33 hv33) (cwV 0 hts gX3_resize_X3_all rfl rfl rfl (by decide +kernel) ⟨Nat.le_of_ble_eq_true rfl, Nat.le_of_ble_eq_true rfl⟩) ⟨RP.blind, va_recv hK hP (ci := 3) (q0 := 0) rfl rfl, fun U hU hW => ⟨rfl, by rw [hU]; exact hP.sub (ws' := [(w_a, .inr (3, [.int p1, .int (w_k &&& q11), .int w_f, .ref w_cs_a, .ref w_ds_a])), (w_cs_a, .inl (cI, 14, .inl w_cs)), (w_ds_a, .inl (cI, 14, .inl w_ds_20))]) [0, 1, 2] rfl, va_K.moved hW.alike hK, hN.warm hW⟩⟩ rfl rfl hl.1 rfl (lv_room (Nat.le_of_ble_eq_true rfl)) dX3_resize_33 ⟨Nat.le_of_ble_eq_true rfl, Nat.le_of_ble_eq_true rfl⟩)) (fun r hr => ?_)
        subst hr
        refine lv_iand hx hb dX3_resize_36 ?_
        obtain ⟨h_37, hM⟩ := ob_get hM
        refine va_iast hx hb hK hP hD hS 2 0 rfl rfl h_37 dX3_resize_37 (fun H locs hP hD hS => ?_)
        have hP : va_P (dC, dI) vwCl [(w_a, .inr (3, [.int p1, .int (w_k &&& q11), .int w_f, .ref w_cs_a, .ref w_ds_a])), (w_cs_a, .inl (cI, 14, .inl w_cs)), (w_ds_a, .inl (cI, 14, .inl (upd w_ds_20 (v2_20).toNatClampNeg ((w_ds_20 (v2_20).toNatClampNeg) &&& q33))))] H := hP
        have hD : va_D A [(w_a, .inr (3, [.int p1, .int (w_k &&& q11), .int w_f, .ref w_cs_a, .ref w_ds_a])), (w_cs_a, .inl (cI, 14, .inl w_cs)), (w_ds_a, .inl (cI, 14, .inl (upd w_ds_20 (v2_20).toNatClampNeg ((w_ds_20 (v2_20).toNatClampNeg) &&& q33))))] := hD
        refine lv_iinc (v := (v2_20 + 1)) (lv' := [(2, .int (v2_20 + 1)), (0, .ref w_a), (1, .int p1)]) hx hb dX3_resize_38 hl (k := 0) rfl (by rfl) (by decide) rfl (fun ls hl => ?_)
        refine lv_goto (tgt := 20) hx hb dX3_resize_41 (by decide) ?_
        exact ih20 (v2_20 + 1) (upd w_ds_20 (v2_20).toNatClampNeg ((w_ds_20 (v2_20).toNatClampNeg) &&& q33)) _ _ _ hM (hP.sub [0, 1, 2] rfl) (hD.sub [0, 1, 2] (by decide) rfl) hS (lv_sub hl [0, 1, 2] rfl)
  exact hL20 40 0 w_ds _ _ _ hM hP hD hS (lv_sub hl [0, 1, 2] rfl)
/-! X3_copyFrom -/
abbrev rm_X3_copyFrom : Room := { frames := 0, cells := 0, slots := 0, locals := 0 }
theorem in_X3_copyFrom_3 : ∀ w ∈ u_ws RX3 TX3 5, w ∈ wsX3_copyFrom := by decide +kernel
set_option maxHeartbeats 4000000 in
set_option maxRecDepth 100000 in
theorem c_X3_copyFrom (l : Launch) (dC : Nat → ClassId) (dI : Nat → Nat → Nat) (cI cZ cJ cW : ClassId) (sz : Nat) (w_a w_cs_a w_ds_a o_a o_cs_a o_ds_a : Nat) (w_t : Int32) (w_k : Int32) (w_f : Int32) (w_cs : Nat → Int32) (w_ds : Nat → Int32) (o_t : Int32) (o_k : Int32) (o_f : Int32) (o_cs : Nat → Int32) (o_ds : Nat → Int32) (R : Int32 × Int32 × Int32 × (Nat → Int32) × (Nat → Int32)) (hM : M_X3_copyFrom w_cs w_ds o_t o_k o_f o_cs o_ds = some R) : Met l yX3_copyFrom wsX3_copyFrom rm_X3_copyFrom (va_Pc [.ref w_a, .ref o_a] (MP (dC, dI) cI cZ cJ cW sz [(w_a, .inr (3, [.int w_t, .int w_k, .int w_f, .ref w_cs_a, .ref w_ds_a])), (w_cs_a, .inl (cI, 14, .inl w_cs)), (w_ds_a, .inl (cI, 14, .inl w_ds)), (o_a, .inr (3, [.int o_t, .int o_k, .int o_f, .ref o_cs_a, .ref o_ds_a])), (o_cs_a, .inl (cI, 14, .inl o_cs)), (o_ds_a, .inl (cI, 14, .inl o_ds))])) (va_Qv (fun (_ : Unit) => True) (PB (dC, dI) (va_A [(w_a, .inr (3, [.int w_t, .int w_k, .int w_f, .ref w_cs_a, .ref w_ds_a])), (w_cs_a, .inl (cI, 14, .inl w_cs)), (w_ds_a, .inl (cI, 14, .inl w_ds)), (o_a, .inr (3, [.int o_t, .int o_k, .int o_f, .ref o_cs_a, .ref o_ds_a])), (o_cs_a, .inl (cI, 14, .inl o_cs)), (o_ds_a, .inl (cI, 14, .inl o_ds))] sz) [(w_a, .inr (3, [.int R.1, .int R.2.1, .int R.2.2.1, .ref w_cs_a, .ref w_ds_a])), (w_cs_a, .inl (cI, 14, .inl R.2.2.2.1)), (w_ds_a, .inl (cI, 14, .inl R.2.2.2.2)), (o_a, .inr (3, [.int o_t, .int o_k, .int o_f, .ref o_cs_a, .ref o_ds_a])), (o_cs_a, .inl (cI, 14, .inl o_cs)), (o_ds_a, .inl (cI, 14, .inl o_ds))]) (va_A [(w_a, .inr (3, [.int w_t, .int w_k, .int w_f, .ref w_cs_a, .ref w_ds_a])), (w_cs_a, .inl (cI, 14, .inl w_cs)), (w_ds_a, .inl (cI, 14, .inl w_ds)), (o_a, .inr (3, [.int o_t, .int o_k, .int o_f, .ref o_cs_a, .ref o_ds_a])), (o_cs_a, .inl (cI, 14, .inl o_cs)), (o_ds_a, .inl (cI, 14, .inl o_ds))] sz)) 0 0 (va_A [(w_a, .inr (3, [.int w_t, .int w_k, .int w_f, .ref w_cs_a, .ref w_ds_a])), (w_cs_a, .inl (cI, 14, .inl w_cs)), (w_ds_a, .inl (cI, 14, .inl w_ds)), (o_a, .inr (3, [.int o_t, .int o_k, .int o_f, .ref o_cs_a, .ref o_ds_a])), (o_cs_a, .inl (cI, 14, .inl o_cs)), (o_ds_a, .inl (cI, 14, .inl o_ds))] sz) := by
  refine Met.ofW (cc := cX3_copyFrom) (maxL := 3) (ret := none) (by decide) rfl ?_
  intro p e s m args below meth c s₁ B hml hv
  obtain ⟨rfl, hsz, hP, hK, hN, hD0⟩ := hv
  have hx := B.exec
  have hb := B.bytes
  have hr := B.returns
  have hts := atoms_spec (ws := wsX3_copyFrom) B.pre
  have hown : s.vm.findClass RX3 = some m.cls := findClass_of_methodNamed B.named
  have hlocks := B.notSynchronized
  subst hsz
  have hD := hD0.self (sz := s.heap.size)
  generalize hAe : va_A [(w_a, .inr (3, [.int w_t, .int w_k, .int w_f, .ref w_cs_a, .ref w_ds_a])), (w_cs_a, .inl (cI, 14, .inl w_cs)), (w_ds_a, .inl (cI, 14, .inl w_ds)), (o_a, .inr (3, [.int o_t, .int o_k, .int o_f, .ref o_cs_a, .ref o_ds_a])), (o_cs_a, .inl (cI, 14, .inl o_cs)), (o_ds_a, .inl (cI, 14, .inl o_ds))] s.heap.size = A at hD ⊢
  have hA : ∀ q : Nat, s.heap.size ≤ q → A q := fun q h => by rw [← hAe]; exact Or.inr h
  have hS : va_S A s.heap s.heap [] := va_S.rf
  have hf9 := hts (.fieldLink RX3 9 "WordGrounds$Words" "total" "I") (by decide +kernel)
  have hf15 := hts (.fieldLink RX3 15 "WordGrounds$Words" "known" "I") (by decide +kernel)
  have hf18 := hts (.fieldLink RX3 18 "WordGrounds$Words" "defined" "I") (by decide +kernel)
  have hf21 := hts (.fieldLink RX3 21 "WordGrounds$Words" "costs" "[I") (by decide +kernel)
  have hf25 := hts (.fieldLink RX3 25 "WordGrounds$Words" "definitions" "[I") (by decide +kernel)
  have hl := lv_entry ([.ref w_a, .ref o_a]) (n := 3) (Nat.le_of_ble_eq_true rfl)
  rw [lg_entry_eq]
  generalize (lg_sl ([.ref w_a, .ref o_a]) ++ List.replicate (3 - (lg_sl ([.ref w_a, .ref o_a])).length) Slot.unset).toArray = ls at hl ⊢
  have hl : lv_has ls 3 [(0, .ref w_a), (1, .ref o_a)] := hl
  have hP : va_P (dC, dI) vwCl [(w_a, .inr (3, [.int w_t, .int w_k, .int w_f, .ref w_cs_a, .ref w_ds_a])), (w_cs_a, .inl (cI, 14, .inl w_cs)), (w_ds_a, .inl (cI, 14, .inl w_ds)), (o_a, .inr (3, [.int o_t, .int o_k, .int o_f, .ref o_cs_a, .ref o_ds_a])), (o_cs_a, .inl (cI, 14, .inl o_cs)), (o_ds_a, .inl (cI, 14, .inl o_ds))] s.heap := hP
  have hM : (L_X3_copyFrom_26 o_cs o_ds (fun (v2_26 : Int32) (w_cs_26 : Nat → Int32) (w_ds_26 : Nat → Int32) => some (o_t, o_k, o_f, w_cs_26, w_ds_26)) 40 0 w_cs w_ds) = some R := hM
  refine lv_aload_n hx hb dX3_copyFrom_0 rfl (lv_at hl 0 rfl) ?_
  refine lv_aload_n hx hb dX3_copyFrom_1 rfl (lv_at hl 1 rfl) ?_
  refine va_get (D := (dC, dI)) (ci := 3) (v := .int o_t) (C := RX3) (T := TX3) (N := 5) hx hb hts in_X3_copyFrom_3 hown hK hP 3 rfl rfl 0 (by decide) hf9 (fun _ h9 => h9) rfl dX3_copyFrom_2 ?_
  refine va_put (D := (dC, dI)) (ci := 3) (v := .int o_t) (ty := .int) (C := RX3) (T := TX3) (N := 5) hx hb hts in_X3_copyFrom_3 tyX3 tyX3_ok nmX3 hown hK hP hD hS 0 rfl rfl 0 (by decide) hf9 (fun _ h9 => h9) rfl (by decide +kernel) rfl rfl (Nat.le_of_ble_eq_true rfl) dX3_copyFrom_5 (fun H locs hP hD hS => ?_)
  have hP : va_P (dC, dI) vwCl [(w_a, .inr (3, [.int o_t, .int w_k, .int w_f, .ref w_cs_a, .ref w_ds_a])), (w_cs_a, .inl (cI, 14, .inl w_cs)), (w_ds_a, .inl (cI, 14, .inl w_ds)), (o_a, .inr (3, [.int o_t, .int o_k, .int o_f, .ref o_cs_a, .ref o_ds_a])), (o_cs_a, .inl (cI, 14, .inl o_cs)), (o_ds_a, .inl (cI, 14, .inl o_ds))] H := hP
  have hD : va_D A [(w_a, .inr (3, [.int o_t, .int w_k, .int w_f, .ref w_cs_a, .ref w_ds_a])), (w_cs_a, .inl (cI, 14, .inl w_cs)), (w_ds_a, .inl (cI, 14, .inl w_ds)), (o_a, .inr (3, [.int o_t, .int o_k, .int o_f, .ref o_cs_a, .ref o_ds_a])), (o_cs_a, .inl (cI, 14, .inl o_cs)), (o_ds_a, .inl (cI, 14, .inl o_ds))] := hD
  refine lv_aload_n hx hb dX3_copyFrom_8 rfl (lv_at hl 0 rfl) ?_
  refine lv_aload_n hx hb dX3_copyFrom_9 rfl (lv_at hl 1 rfl) ?_
  refine va_get (D := (dC, dI)) (ci := 3) (v := .int o_k) (C := RX3) (T := TX3) (N := 5) hx hb hts in_X3_copyFrom_3 hown hK hP 3 rfl rfl 1 (by decide) hf15 (fun _ h9 => h9) rfl dX3_copyFrom_10 ?_
  refine va_put (D := (dC, dI)) (ci := 3) (v := .int o_k) (ty := .int) (C := RX3) (T := TX3) (N := 5) hx hb hts in_X3_copyFrom_3 tyX3 tyX3_ok nmX3 hown hK hP hD hS 0 rfl rfl 1 (by decide) hf15 (fun _ h9 => h9) rfl (by decide +kernel) rfl rfl (Nat.le_of_ble_eq_true rfl) dX3_copyFrom_13 (fun H locs hP hD hS => ?_)
  have hP : va_P (dC, dI) vwCl [(w_a, .inr (3, [.int o_t, .int o_k, .int w_f, .ref w_cs_a, .ref w_ds_a])), (w_cs_a, .inl (cI, 14, .inl w_cs)), (w_ds_a, .inl (cI, 14, .inl w_ds)), (o_a, .inr (3, [.int o_t, .int o_k, .int o_f, .ref o_cs_a, .ref o_ds_a])), (o_cs_a, .inl (cI, 14, .inl o_cs)), (o_ds_a, .inl (cI, 14, .inl o_ds))] H := hP
  have hD : va_D A [(w_a, .inr (3, [.int o_t, .int o_k, .int w_f, .ref w_cs_a, .ref w_ds_a])), (w_cs_a, .inl (cI, 14, .inl w_cs)), (w_ds_a, .inl (cI, 14, .inl w_ds)), (o_a, .inr (3, [.int o_t, .int o_k, .int o_f, .ref o_cs_a, .ref o_ds_a])), (o_cs_a, .inl (cI, 14, .inl o_cs)), (o_ds_a, .inl (cI, 14, .inl o_ds))] := hD
  refine lv_aload_n hx hb dX3_copyFrom_16 rfl (lv_at hl 0 rfl) ?_
  refine lv_aload_n hx hb dX3_copyFrom_17 rfl (lv_at hl 1 rfl) ?_
  refine va_get (D := (dC, dI)) (ci := 3) (v := .int o_f) (C := RX3) (T := TX3) (N := 5) hx hb hts in_X3_copyFrom_3 hown hK hP 3 rfl rfl 2 (by decide) hf18 (fun _ h9 => h9) rfl dX3_copyFrom_18 ?_
  refine va_put (D := (dC, dI)) (ci := 3) (v := .int o_f) (ty := .int) (C := RX3) (T := TX3) (N := 5) hx hb hts in_X3_copyFrom_3 tyX3 tyX3_ok nmX3 hown hK hP hD hS 0 rfl rfl 2 (by decide) hf18 (fun _ h9 => h9) rfl (by decide +kernel) rfl rfl (Nat.le_of_ble_eq_true rfl) dX3_copyFrom_21 (fun H locs hP hD hS => ?_)
  have hP : va_P (dC, dI) vwCl [(w_a, .inr (3, [.int o_t, .int o_k, .int o_f, .ref w_cs_a, .ref w_ds_a])), (w_cs_a, .inl (cI, 14, .inl w_cs)), (w_ds_a, .inl (cI, 14, .inl w_ds)), (o_a, .inr (3, [.int o_t, .int o_k, .int o_f, .ref o_cs_a, .ref o_ds_a])), (o_cs_a, .inl (cI, 14, .inl o_cs)), (o_ds_a, .inl (cI, 14, .inl o_ds))] H := hP
  have hD : va_D A [(w_a, .inr (3, [.int o_t, .int o_k, .int o_f, .ref w_cs_a, .ref w_ds_a])), (w_cs_a, .inl (cI, 14, .inl w_cs)), (w_ds_a, .inl (cI, 14, .inl w_ds)), (o_a, .inr (3, [.int o_t, .int o_k, .int o_f, .ref o_cs_a, .ref o_ds_a])), (o_cs_a, .inl (cI, 14, .inl o_cs)), (o_ds_a, .inl (cI, 14, .inl o_ds))] := hD
  refine lv_iconst (v := 0) hx hb dX3_copyFrom_24 (by decide) ?_
  refine lv_istore_n (lv' := [(2, .int 0), (0, .ref w_a), (1, .ref o_a)]) hx hb dX3_copyFrom_25 rfl hl (by decide) rfl (fun ls hl => ?_)
  obtain ⟨K26, hK26⟩ : ∃ K : Int32 → (Nat → Int32) → (Nat → Int32) → Option (Int32 × Int32 × Int32 × (Nat → Int32) × (Nat → Int32)), K = (fun (v2_26 : Int32) (w_cs_26 : Nat → Int32) (w_ds_26 : Nat → Int32) => some (o_t, o_k, o_f, w_cs_26, w_ds_26)) := ⟨_, rfl⟩
  have hM : L_X3_copyFrom_26 o_cs o_ds K26 40 0 w_cs w_ds = some R := by rw [hK26]; exact hM
  have hL26 : ∀ (k26 : Nat) (v2_26 : Int32) (w_cs_26 : Nat → Int32) (w_ds_26 : Nat → Int32) (H : Heap) (locs : List Loc) (ls : Array Slot), L_X3_copyFrom_26 o_cs o_ds K26 k26 v2_26 w_cs_26 w_ds_26 = some R → va_P (dC, dI) vwCl [(w_a, .inr (3, [.int o_t, .int o_k, .int o_f, .ref w_cs_a, .ref w_ds_a])), (w_cs_a, .inl (cI, 14, .inl w_cs_26)), (w_ds_a, .inl (cI, 14, .inl w_ds_26)), (o_a, .inr (3, [.int o_t, .int o_k, .int o_f, .ref o_cs_a, .ref o_ds_a])), (o_cs_a, .inl (cI, 14, .inl o_cs)), (o_ds_a, .inl (cI, 14, .inl o_ds))] H → va_D A [(w_a, .inr (3, [.int o_t, .int o_k, .int o_f, .ref w_cs_a, .ref w_ds_a])), (w_cs_a, .inl (cI, 14, .inl w_cs_26)), (w_ds_a, .inl (cI, 14, .inl w_ds_26)), (o_a, .inr (3, [.int o_t, .int o_k, .int o_f, .ref o_cs_a, .ref o_ds_a])), (o_cs_a, .inl (cI, 14, .inl o_cs)), (o_ds_a, .inl (cI, 14, .inl o_ds))] → va_S A s.heap H locs → lv_has ls 3 [(2, .int v2_26), (0, .ref w_a), (1, .ref o_a)] → W p l e rm_X3_copyFrom s m ([.ref w_a, .ref o_a] : List Value).toArray below meth c H locs 0 0 (MQ below (va_Qv (fun (_ : Unit) => True) (PB (dC, dI) A [(w_a, .inr (3, [.int R.1, .int R.2.1, .int R.2.2.1, .ref w_cs_a, .ref w_ds_a])), (w_cs_a, .inl (cI, 14, .inl R.2.2.2.1)), (w_ds_a, .inl (cI, 14, .inl R.2.2.2.2)), (o_a, .inr (3, [.int o_t, .int o_k, .int o_f, .ref o_cs_a, .ref o_ds_a])), (o_cs_a, .inl (cI, 14, .inl o_cs)), (o_ds_a, .inl (cI, 14, .inl o_ds))]) A) ([.ref w_a, .ref o_a] : List Value).toArray s 0 0 A) (F0 m 26 ls []) := by
    intro k26
    induction k26 with
    | zero => intro v2_26 w_cs_26 w_ds_26 H locs ls hM; exact (ob_none hM).elim
    | succ k26 ih26 =>
      intro v2_26 w_cs_26 w_ds_26 H locs ls hM hP hD hS hl
      have hM : (if 14 ≤ v2_26 then (K26 v2_26 w_cs_26 w_ds_26) else (if v2_26 < 0 ∨ 14 ≤ (v2_26).toNatClampNeg then none else (if v2_26 < 0 ∨ 14 ≤ (v2_26).toNatClampNeg then none else (if v2_26 < 0 ∨ 14 ≤ (v2_26).toNatClampNeg then none else (if v2_26 < 0 ∨ 14 ≤ (v2_26).toNatClampNeg then none else (L_X3_copyFrom_26 o_cs o_ds K26 k26 (v2_26 + 1) (upd w_cs_26 (v2_26).toNatClampNeg (o_cs (v2_26).toNatClampNeg)) (upd w_ds_26 (v2_26).toNatClampNeg (o_ds (v2_26).toNatClampNeg)))))))) = some R := hM
      refine lv_iload_n hx hb dX3_copyFrom_26 rfl (lv_at hl 0 rfl) ?_
      refine lv_bipush (v := 14) hx hb dX3_copyFrom_27 (by decide) ?_
      refine lv_icmp_ge (tgt := 62) hx hb dX3_copyFrom_29 (by decide) (fun c_29 => ?_) (fun c_29 => ?_)
      · replace hM := ob_pos c_29 hM
        have hM : (some (o_t, o_k, o_f, w_cs_26, w_ds_26)) = some R := by rw [hK26] at hM; exact hM
        obtain rfl := Option.some.inj hM
        have hP9 := hP.sub (ws' := [(w_a, .inr (3, [.int o_t, .int o_k, .int o_f, .ref w_cs_a, .ref w_ds_a])), (w_cs_a, .inl (cI, 14, .inl w_cs_26)), (w_ds_a, .inl (cI, 14, .inl w_ds_26)), (o_a, .inr (3, [.int o_t, .int o_k, .int o_f, .ref o_cs_a, .ref o_ds_a])), (o_cs_a, .inl (cI, 14, .inl o_cs)), (o_ds_a, .inl (cI, 14, .inl o_ds))]) [0, 1, 2, 3, 4, 5] rfl
        have hD9 := hD.sub (ws' := [(w_a, .inr (3, [.int o_t, .int o_k, .int o_f, .ref w_cs_a, .ref w_ds_a])), (w_cs_a, .inl (cI, 14, .inl w_cs_26)), (w_ds_a, .inl (cI, 14, .inl w_ds_26)), (o_a, .inr (3, [.int o_t, .int o_k, .int o_f, .ref o_cs_a, .ref o_ds_a])), (o_cs_a, .inl (cI, 14, .inl o_cs)), (o_ds_a, .inl (cI, 14, .inl o_ds))]) [0, 1, 2, 3, 4, 5] (by decide) rfl
        exact W.vret hx hb hr (fun t ht hW => ⟨⟨(), rfl, trivial, by rw [ht]; exact hP9, hD9⟩, hS.F ht⟩) hS.2.2 dX3_copyFrom_62
      · replace hM := ob_neg c_29 hM
        refine lv_aload_n hx hb dX3_copyFrom_32 rfl (lv_at hl 1 rfl) ?_
        refine va_get (D := (dC, dI)) (ci := 3) (v := .ref w_cs_a) (C := RX3) (T := TX3) (N := 5) hx hb hts in_X3_copyFrom_3 hown hK hP 0 rfl rfl 3 (by decide) hf21 (fun _ h9 => h9) rfl dX3_copyFrom_33 ?_
        refine lv_iload_n hx hb dX3_copyFrom_36 rfl (lv_at hl 0 rfl) ?_
        refine lv_aload_n hx hb dX3_copyFrom_37 rfl (lv_at hl 2 rfl) ?_
        refine va_get (D := (dC, dI)) (ci := 3) (v := .ref o_cs_a) (C := RX3) (T := TX3) (N := 5) hx hb hts in_X3_copyFrom_3 hown hK hP 3 rfl rfl 3 (by decide) hf21 (fun _ h9 => h9) rfl dX3_copyFrom_38 ?_
        refine lv_iload_n hx hb dX3_copyFrom_41 rfl (lv_at hl 0 rfl) ?_
        obtain ⟨h_42, hM⟩ := ob_get hM
        refine va_iald hx hb hK hP 4 0 rfl rfl h_42 dX3_copyFrom_42 ?_
        obtain ⟨h_43, hM⟩ := ob_get hM
        refine va_iast hx hb hK hP hD hS 1 0 rfl rfl h_43 dX3_copyFrom_43 (fun H locs hP hD hS => ?_)
        have hP : va_P (dC, dI) vwCl [(w_a, .inr (3, [.int o_t, .int o_k, .int o_f, .ref w_cs_a, .ref w_ds_a])), (w_cs_a, .inl (cI, 14, .inl (upd w_cs_26 (v2_26).toNatClampNeg (o_cs (v2_26).toNatClampNeg)))), (w_ds_a, .inl (cI, 14, .inl w_ds_26)), (o_a, .inr (3, [.int o_t, .int o_k, .int o_f, .ref o_cs_a, .ref o_ds_a])), (o_cs_a, .inl (cI, 14, .inl o_cs)), (o_ds_a, .inl (cI, 14, .inl o_ds))] H := hP
        have hD : va_D A [(w_a, .inr (3, [.int o_t, .int o_k, .int o_f, .ref w_cs_a, .ref w_ds_a])), (w_cs_a, .inl (cI, 14, .inl (upd w_cs_26 (v2_26).toNatClampNeg (o_cs (v2_26).toNatClampNeg)))), (w_ds_a, .inl (cI, 14, .inl w_ds_26)), (o_a, .inr (3, [.int o_t, .int o_k, .int o_f, .ref o_cs_a, .ref o_ds_a])), (o_cs_a, .inl (cI, 14, .inl o_cs)), (o_ds_a, .inl (cI, 14, .inl o_ds))] := hD
        refine lv_aload_n hx hb dX3_copyFrom_44 rfl (lv_at hl 1 rfl) ?_
        refine va_get (D := (dC, dI)) (ci := 3) (v := .ref w_ds_a) (C := RX3) (T := TX3) (N := 5) hx hb hts in_X3_copyFrom_3 hown hK hP 0 rfl rfl 4 (by decide) hf25 (fun _ h9 => h9) rfl dX3_copyFrom_45 ?_
        refine lv_iload_n hx hb dX3_copyFrom_48 rfl (lv_at hl 0 rfl) ?_
        refine lv_aload_n hx hb dX3_copyFrom_49 rfl (lv_at hl 2 rfl) ?_
        refine va_get (D := (dC, dI)) (ci := 3) (v := .ref o_ds_a) (C := RX3) (T := TX3) (N := 5) hx hb hts in_X3_copyFrom_3 hown hK hP 3 rfl rfl 4 (by decide) hf25 (fun _ h9 => h9) rfl dX3_copyFrom_50 ?_
        refine lv_iload_n hx hb dX3_copyFrom_53 rfl (lv_at hl 0 rfl) ?_
        obtain ⟨h_54, hM⟩ := ob_get hM
        refine va_iald hx hb hK hP 5 0 rfl rfl h_54 dX3_copyFrom_54 ?_
        obtain ⟨h_55, hM⟩ := ob_get hM
        refine va_iast hx hb hK hP hD hS 2 0 rfl rfl h_55 dX3_copyFrom_55 (fun H locs hP hD hS => ?_)
        have hP : va_P (dC, dI) vwCl [(w_a, .inr (3, [.int o_t, .int o_k, .int o_f, .ref w_cs_a, .ref w_ds_a])), (w_cs_a, .inl (cI, 14, .inl (upd w_cs_26 (v2_26).toNatClampNeg (o_cs (v2_26).toNatClampNeg)))), (w_ds_a, .inl (cI, 14, .inl (upd w_ds_26 (v2_26).toNatClampNeg (o_ds (v2_26).toNatClampNeg)))), (o_a, .inr (3, [.int o_t, .int o_k, .int o_f, .ref o_cs_a, .ref o_ds_a])), (o_cs_a, .inl (cI, 14, .inl o_cs)), (o_ds_a, .inl (cI, 14, .inl o_ds))] H := hP
        have hD : va_D A [(w_a, .inr (3, [.int o_t, .int o_k, .int o_f, .ref w_cs_a, .ref w_ds_a])), (w_cs_a, .inl (cI, 14, .inl (upd w_cs_26 (v2_26).toNatClampNeg (o_cs (v2_26).toNatClampNeg)))), (w_ds_a, .inl (cI, 14, .inl (upd w_ds_26 (v2_26).toNatClampNeg (o_ds (v2_26).toNatClampNeg)))), (o_a, .inr (3, [.int o_t, .int o_k, .int o_f, .ref o_cs_a, .ref o_ds_a])), (o_cs_a, .inl (cI, 14, .inl o_cs)), (o_ds_a, .inl (cI, 14, .inl o_ds))] := hD
        refine lv_iinc (v := (v2_26 + 1)) (lv' := [(2, .int (v2_26 + 1)), (0, .ref w_a), (1, .ref o_a)]) hx hb dX3_copyFrom_56 hl (k := 0) rfl (by rfl) (by decide) rfl (fun ls hl => ?_)
        refine lv_goto (tgt := 26) hx hb dX3_copyFrom_59 (by decide) ?_
        exact ih26 (v2_26 + 1) (upd w_cs_26 (v2_26).toNatClampNeg (o_cs (v2_26).toNatClampNeg)) (upd w_ds_26 (v2_26).toNatClampNeg (o_ds (v2_26).toNatClampNeg)) _ _ _ hM (hP.sub [0, 1, 2, 3, 4, 5] rfl) (hD.sub [0, 1, 2, 3, 4, 5] (by decide) rfl) hS (lv_sub hl [0, 1, 2] rfl)
  exact hL26 40 0 w_cs w_ds _ _ _ hM hP hD hS (lv_sub hl [0, 1, 2] rfl)
/-! X3_usersOf -/
abbrev rm_X3_usersOf : Room := { frames := 0, cells := 0, slots := 0, locals := 0 }
theorem in_X3_usersOf_3 : ∀ w ∈ u_ws RX3 TX3 5, w ∈ wsX3_usersOf := by decide +kernel
set_option maxHeartbeats 4000000 in
set_option maxRecDepth 100000 in
theorem c_X3_usersOf (l : Launch) (dC : Nat → ClassId) (dI : Nat → Nat → Nat) (cI cZ cJ cW : ClassId) (w_a w_cs_a w_ds_a : Nat) (w_t : Int32) (w_k : Int32) (w_f : Int32) (w_cs : Nat → Int32) (w_ds : Nat → Int32) (p1 : Int32) (R : Int32) (hM : M_X3_usersOf w_t w_ds p1 = some R) : Met l yX3_usersOf wsX3_usersOf rm_X3_usersOf (va_Pc [.ref w_a, .int p1] (RP (dC, dI) cI cZ cJ cW [(w_a, .inr (3, [.int w_t, .int w_k, .int w_f, .ref w_cs_a, .ref w_ds_a])), (w_cs_a, .inl (cI, 14, .inl w_cs)), (w_ds_a, .inl (cI, 14, .inl w_ds))])) (vp_Si (fun r => R = r)) 0 0 (fun _ => False) := by
  refine Met.ofW (cc := cX3_usersOf) (maxL := 4) (ret := (some .int)) (by decide) rfl ?_
  intro p e s m args below meth c s₁ B hml hv
  obtain ⟨rfl, hP, hK, hN⟩ := hv
  have hx := B.exec
  have hb := B.bytes
  have hr := B.returns
  have hts := atoms_spec (ws := wsX3_usersOf) B.pre
  have hown : s.vm.findClass RX3 = some m.cls := findClass_of_methodNamed B.named
  have hlocks := B.notSynchronized
  have hf9 := hts (.fieldLink RX3 9 "WordGrounds$Words" "total" "I") (by decide +kernel)
  have hf25 := hts (.fieldLink RX3 25 "WordGrounds$Words" "definitions" "[I") (by decide +kernel)
  have hl := lv_entry ([.ref w_a, .int p1]) (n := 4) (Nat.le_of_ble_eq_true rfl)
  rw [lg_entry_eq]
  generalize (lg_sl ([.ref w_a, .int p1]) ++ List.replicate (4 - (lg_sl ([.ref w_a, .int p1])).length) Slot.unset).toArray = ls at hl ⊢
  have hl : lv_has ls 4 [(0, .ref w_a), (1, .int p1)] := hl
  have hM : (L_X3_usersOf_4 w_t w_ds p1 (fun (v3_4 : Int32) (v2_4 : Int32) => some v2_4) 40 0 0) = some R := hM
  refine lv_iconst (v := 0) hx hb dX3_usersOf_0 (by decide) ?_
  refine lv_istore_n (lv' := [(2, .int 0), (0, .ref w_a), (1, .int p1)]) hx hb dX3_usersOf_1 rfl hl (by decide) rfl (fun ls hl => ?_)
  refine lv_iconst (v := 0) hx hb dX3_usersOf_2 (by decide) ?_
  refine lv_istore_n (lv' := [(3, .int 0), (2, .int 0), (0, .ref w_a), (1, .int p1)]) hx hb dX3_usersOf_3 rfl hl (by decide) rfl (fun ls hl => ?_)
  obtain ⟨K4, hK4⟩ : ∃ K : Int32 → Int32 → Option (Int32), K = (fun (v3_4 : Int32) (v2_4 : Int32) => some v2_4) := ⟨_, rfl⟩
  have hM : L_X3_usersOf_4 w_t w_ds p1 K4 40 0 0 = some R := by rw [hK4]; exact hM
  have hL4 : ∀ (k4 : Nat) (v3_4 : Int32) (v2_4 : Int32) (ls : Array Slot), L_X3_usersOf_4 w_t w_ds p1 K4 k4 v3_4 v2_4 = some R → lv_has ls 4 [(3, .int v3_4), (2, .int v2_4), (0, .ref w_a), (1, .int p1)] → W p l e rm_X3_usersOf s m ([.ref w_a, .int p1] : List Value).toArray below meth c s.heap [] 0 0 (MQ below (vp_Si (fun r => R = r)) ([.ref w_a, .int p1] : List Value).toArray s 0 0 (fun _ => False)) (F0 m 4 ls []) := by
    intro k4
    induction k4 with
    | zero => intro v3_4 v2_4 ls hM; exact (ob_none hM).elim
    | succ k4 ih4 =>
      intro v3_4 v2_4 ls hM hl
      have hM : (if w_t ≤ v3_4 then (K4 v3_4 v2_4) else (if v3_4 < 0 ∨ 14 ≤ (v3_4).toNatClampNeg then none else (L_X3_usersOf_4 w_t w_ds p1 K4 k4 (v3_4 + 1) (v2_4 ||| ((((w_ds (v3_4).toNatClampNeg) >>> (p1 &&& 31)) &&& 1) <<< (v3_4 &&& 31)))))) = some R := hM
      refine lv_iload_n hx hb dX3_usersOf_4 rfl (lv_at hl 0 rfl) ?_
      refine lv_aload_n hx hb dX3_usersOf_5 rfl (lv_at hl 2 rfl) ?_
      refine va_get (D := (dC, dI)) (ci := 3) (v := .int w_t) (C := RX3) (T := TX3) (N := 5) hx hb hts in_X3_usersOf_3 hown hK hP 0 rfl rfl 0 (by decide) hf9 (fun _ h9 => h9) rfl dX3_usersOf_6 ?_
      refine lv_icmp_ge (tgt := 33) hx hb dX3_usersOf_9 (by decide) (fun c_9 => ?_) (fun c_9 => ?_)
      · replace hM := ob_pos c_9 hM
        have hM : (some v2_4) = some R := by rw [hK4] at hM; exact hM
        refine lv_iload_n hx hb dX3_usersOf_33 rfl (lv_at hl 1 rfl) ?_
        exact W.iret (v := v2_4) hx hb hr (fun t ht hW => ⟨_, rfl, (Option.some.inj hM).symm, ht⟩) (fun _ h => by cases h) dX3_usersOf_34
      · replace hM := ob_neg c_9 hM
        refine lv_iload_n hx hb dX3_usersOf_12 rfl (lv_at hl 1 rfl) ?_
        refine lv_aload_n hx hb dX3_usersOf_13 rfl (lv_at hl 2 rfl) ?_
        refine va_get (D := (dC, dI)) (ci := 3) (v := .ref w_ds_a) (C := RX3) (T := TX3) (N := 5) hx hb hts in_X3_usersOf_3 hown hK hP 0 rfl rfl 4 (by decide) hf25 (fun _ h9 => h9) rfl dX3_usersOf_14 ?_
        refine lv_iload_n hx hb dX3_usersOf_17 rfl (lv_at hl 0 rfl) ?_
        obtain ⟨h_18, hM⟩ := ob_get hM
        refine va_iald hx hb hK hP 2 0 rfl rfl h_18 dX3_usersOf_18 ?_
        refine lv_iload_n hx hb dX3_usersOf_19 rfl (lv_at hl 3 rfl) ?_
        refine lv_ishr hx hb dX3_usersOf_20 ?_
        refine lv_iconst (v := 1) hx hb dX3_usersOf_21 (by decide) ?_
        refine lv_iand hx hb dX3_usersOf_22 ?_
        refine lv_iload_n hx hb dX3_usersOf_23 rfl (lv_at hl 0 rfl) ?_
        refine lv_ishl hx hb dX3_usersOf_24 ?_
        refine lv_ior hx hb dX3_usersOf_25 ?_
        refine lv_istore_n (lv' := [(2, .int (v2_4 ||| ((((w_ds (v3_4).toNatClampNeg) >>> (p1 &&& 31)) &&& 1) <<< (v3_4 &&& 31)))), (3, .int v3_4), (0, .ref w_a), (1, .int p1)]) hx hb dX3_usersOf_26 rfl hl (by decide) rfl (fun ls hl => ?_)
        refine lv_iinc (v := (v3_4 + 1)) (lv' := [(3, .int (v3_4 + 1)), (2, .int (v2_4 ||| ((((w_ds (v3_4).toNatClampNeg) >>> (p1 &&& 31)) &&& 1) <<< (v3_4 &&& 31)))), (0, .ref w_a), (1, .int p1)]) hx hb dX3_usersOf_27 hl (k := 1) rfl (by rfl) (by decide) rfl (fun ls hl => ?_)
        refine lv_goto (tgt := 4) hx hb dX3_usersOf_30 (by decide) ?_
        exact ih4 (v3_4 + 1) (v2_4 ||| ((((w_ds (v3_4).toNatClampNeg) >>> (p1 &&& 31)) &&& 1) <<< (v3_4 &&& 31))) _ hM (lv_sub hl [0, 1, 2, 3] rfl)
  exact hL4 40 0 0 _ hM (lv_sub hl [0, 1, 2, 3] rfl)
/-! X3_used -/
abbrev rm_X3_used : Room := { frames := 0, cells := 0, slots := 0, locals := 0 }
theorem in_X3_used_3 : ∀ w ∈ u_ws RX3 TX3 5, w ∈ wsX3_used := by decide +kernel
set_option maxHeartbeats 4000000 in
set_option maxRecDepth 100000 in
theorem c_X3_used (l : Launch) (dC : Nat → ClassId) (dI : Nat → Nat → Nat) (cI cZ cJ cW : ClassId) (w_a w_cs_a w_ds_a : Nat) (w_t : Int32) (w_k : Int32) (w_f : Int32) (w_cs : Nat → Int32) (w_ds : Nat → Int32) (R : Int32) (hM : M_X3_used w_t w_ds = some R) : Met l yX3_used wsX3_used rm_X3_used (va_Pc [.ref w_a] (RP (dC, dI) cI cZ cJ cW [(w_a, .inr (3, [.int w_t, .int w_k, .int w_f, .ref w_cs_a, .ref w_ds_a])), (w_cs_a, .inl (cI, 14, .inl w_cs)), (w_ds_a, .inl (cI, 14, .inl w_ds))])) (vp_Si (fun r => R = r)) 0 0 (fun _ => False) := by
  refine Met.ofW (cc := cX3_used) (maxL := 3) (ret := (some .int)) (by decide) rfl ?_
  intro p e s m args below meth c s₁ B hml hv
  obtain ⟨rfl, hP, hK, hN⟩ := hv
  have hx := B.exec
  have hb := B.bytes
  have hr := B.returns
  have hts := atoms_spec (ws := wsX3_used) B.pre
  have hown : s.vm.findClass RX3 = some m.cls := findClass_of_methodNamed B.named
  have hlocks := B.notSynchronized
  have hf9 := hts (.fieldLink RX3 9 "WordGrounds$Words" "total" "I") (by decide +kernel)
  have hf25 := hts (.fieldLink RX3 25 "WordGrounds$Words" "definitions" "[I") (by decide +kernel)
  have hl := lv_entry ([.ref w_a]) (n := 3) (Nat.le_of_ble_eq_true rfl)
  rw [lg_entry_eq]
  generalize (lg_sl ([.ref w_a]) ++ List.replicate (3 - (lg_sl ([.ref w_a])).length) Slot.unset).toArray = ls at hl ⊢
  have hl : lv_has ls 3 [(0, .ref w_a)] := hl
  have hM : (L_X3_used_4 w_t w_ds (fun (v2_4 : Int32) (v1_4 : Int32) => some v1_4) 40 0 0) = some R := hM
  refine lv_iconst (v := 0) hx hb dX3_used_0 (by decide) ?_
  refine lv_istore_n (lv' := [(1, .int 0), (0, .ref w_a)]) hx hb dX3_used_1 rfl hl (by decide) rfl (fun ls hl => ?_)
  refine lv_iconst (v := 0) hx hb dX3_used_2 (by decide) ?_
  refine lv_istore_n (lv' := [(2, .int 0), (1, .int 0), (0, .ref w_a)]) hx hb dX3_used_3 rfl hl (by decide) rfl (fun ls hl => ?_)
  obtain ⟨K4, hK4⟩ : ∃ K : Int32 → Int32 → Option (Int32), K = (fun (v2_4 : Int32) (v1_4 : Int32) => some v1_4) := ⟨_, rfl⟩
  have hM : L_X3_used_4 w_t w_ds K4 40 0 0 = some R := by rw [hK4]; exact hM
  have hL4 : ∀ (k4 : Nat) (v2_4 : Int32) (v1_4 : Int32) (ls : Array Slot), L_X3_used_4 w_t w_ds K4 k4 v2_4 v1_4 = some R → lv_has ls 3 [(2, .int v2_4), (1, .int v1_4), (0, .ref w_a)] → W p l e rm_X3_used s m ([.ref w_a] : List Value).toArray below meth c s.heap [] 0 0 (MQ below (vp_Si (fun r => R = r)) ([.ref w_a] : List Value).toArray s 0 0 (fun _ => False)) (F0 m 4 ls []) := by
    intro k4
    induction k4 with
    | zero => intro v2_4 v1_4 ls hM; exact (ob_none hM).elim
    | succ k4 ih4 =>
      intro v2_4 v1_4 ls hM hl
      have hM : (if w_t ≤ v2_4 then (K4 v2_4 v1_4) else (if v2_4 < 0 ∨ 14 ≤ (v2_4).toNatClampNeg then none else (L_X3_used_4 w_t w_ds K4 k4 (v2_4 + 1) (v1_4 ||| (w_ds (v2_4).toNatClampNeg))))) = some R := hM
      refine lv_iload_n hx hb dX3_used_4 rfl (lv_at hl 0 rfl) ?_
      refine lv_aload_n hx hb dX3_used_5 rfl (lv_at hl 2 rfl) ?_
      refine va_get (D := (dC, dI)) (ci := 3) (v := .int w_t) (C := RX3) (T := TX3) (N := 5) hx hb hts in_X3_used_3 hown hK hP 0 rfl rfl 0 (by decide) hf9 (fun _ h9 => h9) rfl dX3_used_6 ?_
      refine lv_icmp_ge (tgt := 27) hx hb dX3_used_9 (by decide) (fun c_9 => ?_) (fun c_9 => ?_)
      · replace hM := ob_pos c_9 hM
        have hM : (some v1_4) = some R := by rw [hK4] at hM; exact hM
        refine lv_iload_n hx hb dX3_used_27 rfl (lv_at hl 1 rfl) ?_
        exact W.iret (v := v1_4) hx hb hr (fun t ht hW => ⟨_, rfl, (Option.some.inj hM).symm, ht⟩) (fun _ h => by cases h) dX3_used_28
      · replace hM := ob_neg c_9 hM
        refine lv_iload_n hx hb dX3_used_12 rfl (lv_at hl 1 rfl) ?_
        refine lv_aload_n hx hb dX3_used_13 rfl (lv_at hl 2 rfl) ?_
        refine va_get (D := (dC, dI)) (ci := 3) (v := .ref w_ds_a) (C := RX3) (T := TX3) (N := 5) hx hb hts in_X3_used_3 hown hK hP 0 rfl rfl 4 (by decide) hf25 (fun _ h9 => h9) rfl dX3_used_14 ?_
        refine lv_iload_n hx hb dX3_used_17 rfl (lv_at hl 0 rfl) ?_
        obtain ⟨h_18, hM⟩ := ob_get hM
        refine va_iald hx hb hK hP 2 0 rfl rfl h_18 dX3_used_18 ?_
        refine lv_ior hx hb dX3_used_19 ?_
        refine lv_istore_n (lv' := [(1, .int (v1_4 ||| (w_ds (v2_4).toNatClampNeg))), (2, .int v2_4), (0, .ref w_a)]) hx hb dX3_used_20 rfl hl (by decide) rfl (fun ls hl => ?_)
        refine lv_iinc (v := (v2_4 + 1)) (lv' := [(2, .int (v2_4 + 1)), (1, .int (v1_4 ||| (w_ds (v2_4).toNatClampNeg))), (0, .ref w_a)]) hx hb dX3_used_21 hl (k := 1) rfl (by rfl) (by decide) rfl (fun ls hl => ?_)
        refine lv_goto (tgt := 4) hx hb dX3_used_24 (by decide) ?_
        exact ih4 (v2_4 + 1) (v1_4 ||| (w_ds (v2_4).toNatClampNeg)) _ hM (lv_sub hl [0, 1, 2] rfl)
  exact hL4 40 0 0 _ hM (lv_sub hl [0, 1, 2] rfl)
/-! X3_howOftenUsed -/
abbrev rm_X3_howOftenUsed : Room := { frames := 1, cells := 0, slots := 0, locals := 20 }
theorem in_X3_howOftenUsed_3 : ∀ w ∈ u_ws RX3 TX3 5, w ∈ wsX3_howOftenUsed := by decide +kernel
set_option maxHeartbeats 4000000 in
set_option maxRecDepth 100000 in
theorem c_X3_howOftenUsed (l : Launch) (dC : Nat → ClassId) (dI : Nat → Nat → Nat) (cI cZ cJ cW : ClassId) (w_a w_cs_a w_ds_a : Nat) (w_t : Int32) (w_k : Int32) (w_f : Int32) (w_cs : Nat → Int32) (w_ds : Nat → Int32) (R : Int32) (hM : M_X3_howOftenUsed w_t w_ds = some R) : Met l yX3_howOftenUsed wsX3_howOftenUsed rm_X3_howOftenUsed (va_Pc [.ref w_a] (RP (dC, dI) cI cZ cJ cW [(w_a, .inr (3, [.int w_t, .int w_k, .int w_f, .ref w_cs_a, .ref w_ds_a])), (w_cs_a, .inl (cI, 14, .inl w_cs)), (w_ds_a, .inl (cI, 14, .inl w_ds))])) (vp_Si (fun r => R = r)) 0 0 (fun _ => False) := by
  refine Met.ofW (cc := cX3_howOftenUsed) (maxL := 3) (ret := (some .int)) (by decide) rfl ?_
  intro p e s m args below meth c s₁ B hml hv
  obtain ⟨rfl, hP, hK, hN⟩ := hv
  have hx := B.exec
  have hb := B.bytes
  have hr := B.returns
  have hts := atoms_spec (ws := wsX3_howOftenUsed) B.pre
  have hown : s.vm.findClass RX3 = some m.cls := findClass_of_methodNamed B.named
  have hlocks := B.notSynchronized
  have hf9 := hts (.fieldLink RX3 9 "WordGrounds$Words" "total" "I") (by decide +kernel)
  have hf25 := hts (.fieldLink RX3 25 "WordGrounds$Words" "definitions" "[I") (by decide +kernel)
  have hl := lv_entry ([.ref w_a]) (n := 3) (Nat.le_of_ble_eq_true rfl)
  rw [lg_entry_eq]
  generalize (lg_sl ([.ref w_a]) ++ List.replicate (3 - (lg_sl ([.ref w_a])).length) Slot.unset).toArray = ls at hl ⊢
  have hl : lv_has ls 3 [(0, .ref w_a)] := hl
  have hM : (L_X3_howOftenUsed_4 w_t w_ds (fun (v2_4 : Int32) (v1_4 : Int32) => some v1_4) 40 0 0) = some R := hM
  refine lv_iconst (v := 0) hx hb dX3_howOftenUsed_0 (by decide) ?_
  refine lv_istore_n (lv' := [(1, .int 0), (0, .ref w_a)]) hx hb dX3_howOftenUsed_1 rfl hl (by decide) rfl (fun ls hl => ?_)
  refine lv_iconst (v := 0) hx hb dX3_howOftenUsed_2 (by decide) ?_
  refine lv_istore_n (lv' := [(2, .int 0), (1, .int 0), (0, .ref w_a)]) hx hb dX3_howOftenUsed_3 rfl hl (by decide) rfl (fun ls hl => ?_)
  obtain ⟨K4, hK4⟩ : ∃ K : Int32 → Int32 → Option (Int32), K = (fun (v2_4 : Int32) (v1_4 : Int32) => some v1_4) := ⟨_, rfl⟩
  have hM : L_X3_howOftenUsed_4 w_t w_ds K4 40 0 0 = some R := by rw [hK4]; exact hM
  have hL4 : ∀ (k4 : Nat) (v2_4 : Int32) (v1_4 : Int32) (ls : Array Slot), L_X3_howOftenUsed_4 w_t w_ds K4 k4 v2_4 v1_4 = some R → lv_has ls 3 [(2, .int v2_4), (1, .int v1_4), (0, .ref w_a)] → W p l e rm_X3_howOftenUsed s m ([.ref w_a] : List Value).toArray below meth c s.heap [] 0 0 (MQ below (vp_Si (fun r => R = r)) ([.ref w_a] : List Value).toArray s 0 0 (fun _ => False)) (F0 m 4 ls []) := by
    intro k4
    induction k4 with
    | zero => intro v2_4 v1_4 ls hM; exact (ob_none hM).elim
    | succ k4 ih4 =>
      intro v2_4 v1_4 ls hM hl
      have hM : (if w_t ≤ v2_4 then (K4 v2_4 v1_4) else (if v2_4 < 0 ∨ 14 ≤ (v2_4).toNatClampNeg then none else ((M_J6_bitCount_0f7a4 (w_ds (v2_4).toNatClampNeg)).bind (fun q19 => L_X3_howOftenUsed_4 w_t w_ds K4 k4 (v2_4 + 1) (v1_4 + q19))))) = some R := hM
      refine lv_iload_n hx hb dX3_howOftenUsed_4 rfl (lv_at hl 0 rfl) ?_
      refine lv_aload_n hx hb dX3_howOftenUsed_5 rfl (lv_at hl 2 rfl) ?_
      refine va_get (D := (dC, dI)) (ci := 3) (v := .int w_t) (C := RX3) (T := TX3) (N := 5) hx hb hts in_X3_howOftenUsed_3 hown hK hP 0 rfl rfl 0 (by decide) hf9 (fun _ h9 => h9) rfl dX3_howOftenUsed_6 ?_
      refine lv_icmp_ge (tgt := 30) hx hb dX3_howOftenUsed_9 (by decide) (fun c_9 => ?_) (fun c_9 => ?_)
      · replace hM := ob_pos c_9 hM
        have hM : (some v1_4) = some R := by rw [hK4] at hM; exact hM
        refine lv_iload_n hx hb dX3_howOftenUsed_30 rfl (lv_at hl 1 rfl) ?_
        exact W.iret (v := v1_4) hx hb hr (fun t ht hW => ⟨_, rfl, (Option.some.inj hM).symm, ht⟩) (fun _ h => by cases h) dX3_howOftenUsed_31
      · replace hM := ob_neg c_9 hM
        refine lv_iload_n hx hb dX3_howOftenUsed_12 rfl (lv_at hl 1 rfl) ?_
        refine lv_aload_n hx hb dX3_howOftenUsed_13 rfl (lv_at hl 2 rfl) ?_
        refine va_get (D := (dC, dI)) (ci := 3) (v := .ref w_ds_a) (C := RX3) (T := TX3) (N := 5) hx hb hts in_X3_howOftenUsed_3 hown hK hP 0 rfl rfl 4 (by decide) hf25 (fun _ h9 => h9) rfl dX3_howOftenUsed_14 ?_
        refine lv_iload_n hx hb dX3_howOftenUsed_17 rfl (lv_at hl 0 rfl) ?_
        obtain ⟨h_18, hM⟩ := ob_get hM
        refine va_iald hx hb hK hP 2 0 rfl rfl h_18 dX3_howOftenUsed_18 ?_
        obtain ⟨q19, hv19, hM⟩ := ob_bind hM
        refine vp_callSi (va_Run.run (va_runS (As := [.int (w_ds (v2_4).toNatClampNeg)]) (rest := [.int v1_4]) ⟨hx, hb, hml, hown, hts⟩ (c_J6_bitCount_0f7a4 l dC dI cI cZ cJ cW (w_ds (v2_4).toNatClampNeg) q19 hv19) (va_cwS 1 hts gX3_howOftenUsed_J6_bitCount_0f7a4 rfl rfl rfl (by decide +kernel) ⟨Nat.le_of_ble_eq_true rfl, Nat.le_of_ble_eq_true rfl⟩) ⟨TP.blind, fun U hU hW => ⟨rfl, trivial⟩⟩ rfl rfl hl.1 rfl (lv_room (Nat.le_of_ble_eq_true rfl)) dX3_howOftenUsed_19 ⟨Nat.le_of_ble_eq_true rfl, Nat.le_of_ble_eq_true rfl⟩)) (fun r hr => ?_)
        subst hr
        refine lv_iadd hx hb dX3_howOftenUsed_22 ?_
        refine lv_istore_n (lv' := [(1, .int (v1_4 + q19)), (2, .int v2_4), (0, .ref w_a)]) hx hb dX3_howOftenUsed_23 rfl hl (by decide) rfl (fun ls hl => ?_)
        refine lv_iinc (v := (v2_4 + 1)) (lv' := [(2, .int (v2_4 + 1)), (1, .int (v1_4 + q19)), (0, .ref w_a)]) hx hb dX3_howOftenUsed_24 hl (k := 1) rfl (by rfl) (by decide) rfl (fun ls hl => ?_)
        refine lv_goto (tgt := 4) hx hb dX3_howOftenUsed_27 (by decide) ?_
        exact ih4 (v2_4 + 1) (v1_4 + q19) _ hM (lv_sub hl [0, 1, 2] rfl)
  exact hL4 40 0 0 _ hM (lv_sub hl [0, 1, 2] rfl)
/-! X3_costOf -/
abbrev rm_X3_costOf : Room := { frames := 0, cells := 0, slots := 0, locals := 0 }
theorem in_X3_costOf_3 : ∀ w ∈ u_ws RX3 TX3 5, w ∈ wsX3_costOf := by decide +kernel
set_option maxHeartbeats 4000000 in
set_option maxRecDepth 100000 in
theorem c_X3_costOf (l : Launch) (dC : Nat → ClassId) (dI : Nat → Nat → Nat) (cI cZ cJ cW : ClassId) (w_a w_cs_a w_ds_a : Nat) (w_t : Int32) (w_k : Int32) (w_f : Int32) (w_cs : Nat → Int32) (w_ds : Nat → Int32) (p1 : Int32) (R : Int32) (hM : M_X3_costOf w_t w_cs p1 = some R) : Met l yX3_costOf wsX3_costOf rm_X3_costOf (va_Pc [.ref w_a, .int p1] (RP (dC, dI) cI cZ cJ cW [(w_a, .inr (3, [.int w_t, .int w_k, .int w_f, .ref w_cs_a, .ref w_ds_a])), (w_cs_a, .inl (cI, 14, .inl w_cs)), (w_ds_a, .inl (cI, 14, .inl w_ds))])) (vp_Si (fun r => R = r)) 0 0 (fun _ => False) := by
  refine Met.ofW (cc := cX3_costOf) (maxL := 4) (ret := (some .int)) (by decide) rfl ?_
  intro p e s m args below meth c s₁ B hml hv
  obtain ⟨rfl, hP, hK, hN⟩ := hv
  have hx := B.exec
  have hb := B.bytes
  have hr := B.returns
  have hts := atoms_spec (ws := wsX3_costOf) B.pre
  have hown : s.vm.findClass RX3 = some m.cls := findClass_of_methodNamed B.named
  have hlocks := B.notSynchronized
  have hf9 := hts (.fieldLink RX3 9 "WordGrounds$Words" "total" "I") (by decide +kernel)
  have hf21 := hts (.fieldLink RX3 21 "WordGrounds$Words" "costs" "[I") (by decide +kernel)
  have hl := lv_entry ([.ref w_a, .int p1]) (n := 4) (Nat.le_of_ble_eq_true rfl)
  rw [lg_entry_eq]
  generalize (lg_sl ([.ref w_a, .int p1]) ++ List.replicate (4 - (lg_sl ([.ref w_a, .int p1])).length) Slot.unset).toArray = ls at hl ⊢
  have hl : lv_has ls 4 [(0, .ref w_a), (1, .int p1)] := hl
  have hM : (L_X3_costOf_4 w_t w_cs p1 (fun (v3_4 : Int32) (v2_4 : Int32) => some v2_4) 40 0 0) = some R := hM
  refine lv_iconst (v := 0) hx hb dX3_costOf_0 (by decide) ?_
  refine lv_istore_n (lv' := [(2, .int 0), (0, .ref w_a), (1, .int p1)]) hx hb dX3_costOf_1 rfl hl (by decide) rfl (fun ls hl => ?_)
  refine lv_iconst (v := 0) hx hb dX3_costOf_2 (by decide) ?_
  refine lv_istore_n (lv' := [(3, .int 0), (2, .int 0), (0, .ref w_a), (1, .int p1)]) hx hb dX3_costOf_3 rfl hl (by decide) rfl (fun ls hl => ?_)
  obtain ⟨K4, hK4⟩ : ∃ K : Int32 → Int32 → Option (Int32), K = (fun (v3_4 : Int32) (v2_4 : Int32) => some v2_4) := ⟨_, rfl⟩
  have hM : L_X3_costOf_4 w_t w_cs p1 K4 40 0 0 = some R := by rw [hK4]; exact hM
  have hL4 : ∀ (k4 : Nat) (v3_4 : Int32) (v2_4 : Int32) (ls : Array Slot), L_X3_costOf_4 w_t w_cs p1 K4 k4 v3_4 v2_4 = some R → lv_has ls 4 [(3, .int v3_4), (2, .int v2_4), (0, .ref w_a), (1, .int p1)] → W p l e rm_X3_costOf s m ([.ref w_a, .int p1] : List Value).toArray below meth c s.heap [] 0 0 (MQ below (vp_Si (fun r => R = r)) ([.ref w_a, .int p1] : List Value).toArray s 0 0 (fun _ => False)) (F0 m 4 ls []) := by
    intro k4
    induction k4 with
    | zero => intro v3_4 v2_4 ls hM; exact (ob_none hM).elim
    | succ k4 ih4 =>
      intro v3_4 v2_4 ls hM hl
      have hM : (if w_t ≤ v3_4 then (K4 v3_4 v2_4) else (if ((p1 >>> (v3_4 &&& 31)) &&& 1) = 0 then (L_X3_costOf_4 w_t w_cs p1 K4 k4 (v3_4 + 1) v2_4) else (if v3_4 < 0 ∨ 14 ≤ (v3_4).toNatClampNeg then none else (L_X3_costOf_4 w_t w_cs p1 K4 k4 (v3_4 + 1) (v2_4 + (w_cs (v3_4).toNatClampNeg)))))) = some R := hM
      refine lv_iload_n hx hb dX3_costOf_4 rfl (lv_at hl 0 rfl) ?_
      refine lv_aload_n hx hb dX3_costOf_5 rfl (lv_at hl 2 rfl) ?_
      refine va_get (D := (dC, dI)) (ci := 3) (v := .int w_t) (C := RX3) (T := TX3) (N := 5) hx hb hts in_X3_costOf_3 hown hK hP 0 rfl rfl 0 (by decide) hf9 (fun _ h9 => h9) rfl dX3_costOf_6 ?_
      refine lv_icmp_ge (tgt := 35) hx hb dX3_costOf_9 (by decide) (fun c_9 => ?_) (fun c_9 => ?_)
      · replace hM := ob_pos c_9 hM
        have hM : (some v2_4) = some R := by rw [hK4] at hM; exact hM
        refine lv_iload_n hx hb dX3_costOf_35 rfl (lv_at hl 1 rfl) ?_
        exact W.iret (v := v2_4) hx hb hr (fun t ht hW => ⟨_, rfl, (Option.some.inj hM).symm, ht⟩) (fun _ h => by cases h) dX3_costOf_36
      · replace hM := ob_neg c_9 hM
        refine lv_iload_n hx hb dX3_costOf_12 rfl (lv_at hl 3 rfl) ?_
        refine lv_iload_n hx hb dX3_costOf_13 rfl (lv_at hl 0 rfl) ?_
        refine lv_ishr hx hb dX3_costOf_14 ?_
        refine lv_iconst (v := 1) hx hb dX3_costOf_15 (by decide) ?_
        refine lv_iand hx hb dX3_costOf_16 ?_
        refine lv_if_eq (tgt := 29) hx hb dX3_costOf_17 (by decide) (fun c_17 => ?_) (fun c_17 => ?_)
        · replace hM := ob_pos c_17 hM
          refine lv_iinc (v := (v3_4 + 1)) (lv' := [(3, .int (v3_4 + 1)), (2, .int v2_4), (0, .ref w_a), (1, .int p1)]) hx hb dX3_costOf_29 hl (k := 0) rfl (by rfl) (by decide) rfl (fun ls hl => ?_)
          refine lv_goto (tgt := 4) hx hb dX3_costOf_32 (by decide) ?_
          exact ih4 (v3_4 + 1) v2_4 _ hM (lv_sub hl [0, 1, 2, 3] rfl)
        · replace hM := ob_neg c_17 hM
          refine lv_iload_n hx hb dX3_costOf_20 rfl (lv_at hl 1 rfl) ?_
          refine lv_aload_n hx hb dX3_costOf_21 rfl (lv_at hl 2 rfl) ?_
          refine va_get (D := (dC, dI)) (ci := 3) (v := .ref w_cs_a) (C := RX3) (T := TX3) (N := 5) hx hb hts in_X3_costOf_3 hown hK hP 0 rfl rfl 3 (by decide) hf21 (fun _ h9 => h9) rfl dX3_costOf_22 ?_
          refine lv_iload_n hx hb dX3_costOf_25 rfl (lv_at hl 0 rfl) ?_
          obtain ⟨h_26, hM⟩ := ob_get hM
          refine va_iald hx hb hK hP 1 0 rfl rfl h_26 dX3_costOf_26 ?_
          refine lv_iadd hx hb dX3_costOf_27 ?_
          refine lv_istore_n (lv' := [(2, .int (v2_4 + (w_cs (v3_4).toNatClampNeg))), (3, .int v3_4), (0, .ref w_a), (1, .int p1)]) hx hb dX3_costOf_28 rfl hl (by decide) rfl (fun ls hl => ?_)
          refine lv_iinc (v := (v3_4 + 1)) (lv' := [(3, .int (v3_4 + 1)), (2, .int (v2_4 + (w_cs (v3_4).toNatClampNeg))), (0, .ref w_a), (1, .int p1)]) hx hb dX3_costOf_29 hl (k := 1) rfl (by rfl) (by decide) rfl (fun ls hl => ?_)
          refine lv_goto (tgt := 4) hx hb dX3_costOf_32 (by decide) ?_
          exact ih4 (v3_4 + 1) (v2_4 + (w_cs (v3_4).toNatClampNeg)) _ hM (lv_sub hl [0, 1, 2, 3] rfl)
  exact hL4 40 0 0 _ hM (lv_sub hl [0, 1, 2, 3] rfl)
/-! X3_nextDay -/
abbrev rm_X3_nextDay : Room := { frames := 1, cells := 0, slots := 0, locals := 21 }
theorem in_X3_nextDay_3 : ∀ w ∈ u_ws RX3 TX3 5, w ∈ wsX3_nextDay := by decide +kernel
set_option maxHeartbeats 4000000 in
set_option maxRecDepth 100000 in
theorem c_X3_nextDay (l : Launch) (dC : Nat → ClassId) (dI : Nat → Nat → Nat) (cI cZ cJ cW : ClassId) (w_a w_cs_a w_ds_a : Nat) (w_t : Int32) (w_k : Int32) (w_f : Int32) (w_cs : Nat → Int32) (w_ds : Nat → Int32) (p1 : Int32) (R : Int32) (hM : M_X3_nextDay w_t w_f w_ds p1 = some R) : Met l yX3_nextDay wsX3_nextDay rm_X3_nextDay (va_Pc [.ref w_a, .int p1] (RP (dC, dI) cI cZ cJ cW [(w_a, .inr (3, [.int w_t, .int w_k, .int w_f, .ref w_cs_a, .ref w_ds_a])), (w_cs_a, .inl (cI, 14, .inl w_cs)), (w_ds_a, .inl (cI, 14, .inl w_ds))])) (vp_Si (fun r => R = r)) 0 0 (fun _ => False) := by
  refine Met.ofW (cc := cX3_nextDay) (maxL := 4) (ret := (some .int)) (by decide) rfl ?_
  intro p e s m args below meth c s₁ B hml hv
  obtain ⟨rfl, hP, hK, hN⟩ := hv
  have hx := B.exec
  have hb := B.bytes
  have hr := B.returns
  have hts := atoms_spec (ws := wsX3_nextDay) B.pre
  have hown : s.vm.findClass RX3 = some m.cls := findClass_of_methodNamed B.named
  have hlocks := B.notSynchronized
  have hf9 := hts (.fieldLink RX3 9 "WordGrounds$Words" "total" "I") (by decide +kernel)
  have hf25 := hts (.fieldLink RX3 25 "WordGrounds$Words" "definitions" "[I") (by decide +kernel)
  have hl := lv_entry ([.ref w_a, .int p1]) (n := 4) (Nat.le_of_ble_eq_true rfl)
  rw [lg_entry_eq]
  generalize (lg_sl ([.ref w_a, .int p1]) ++ List.replicate (4 - (lg_sl ([.ref w_a, .int p1])).length) Slot.unset).toArray = ls at hl ⊢
  have hl : lv_has ls 4 [(0, .ref w_a), (1, .int p1)] := hl
  have hM : (L_X3_nextDay_4 w_t w_f w_ds p1 (fun (v3_4 : Int32) (v2_4 : Int32) => some v2_4) 40 0 p1) = some R := hM
  refine lv_iload_n hx hb dX3_nextDay_0 rfl (lv_at hl 1 rfl) ?_
  refine lv_istore_n (lv' := [(2, .int p1), (0, .ref w_a), (1, .int p1)]) hx hb dX3_nextDay_1 rfl hl (by decide) rfl (fun ls hl => ?_)
  refine lv_iconst (v := 0) hx hb dX3_nextDay_2 (by decide) ?_
  refine lv_istore_n (lv' := [(3, .int 0), (2, .int p1), (0, .ref w_a), (1, .int p1)]) hx hb dX3_nextDay_3 rfl hl (by decide) rfl (fun ls hl => ?_)
  obtain ⟨K4, hK4⟩ : ∃ K : Int32 → Int32 → Option (Int32), K = (fun (v3_4 : Int32) (v2_4 : Int32) => some v2_4) := ⟨_, rfl⟩
  have hM : L_X3_nextDay_4 w_t w_f w_ds p1 K4 40 0 p1 = some R := by rw [hK4]; exact hM
  have hL4 : ∀ (k4 : Nat) (v3_4 : Int32) (v2_4 : Int32) (ls : Array Slot), L_X3_nextDay_4 w_t w_f w_ds p1 K4 k4 v3_4 v2_4 = some R → lv_has ls 4 [(3, .int v3_4), (2, .int v2_4), (0, .ref w_a), (1, .int p1)] → W p l e rm_X3_nextDay s m ([.ref w_a, .int p1] : List Value).toArray below meth c s.heap [] 0 0 (MQ below (vp_Si (fun r => R = r)) ([.ref w_a, .int p1] : List Value).toArray s 0 0 (fun _ => False)) (F0 m 4 ls []) := by
    intro k4
    induction k4 with
    | zero => intro v3_4 v2_4 ls hM; exact (ob_none hM).elim
    | succ k4 ih4 =>
      intro v3_4 v2_4 ls hM hl
      have hM : (if w_t ≤ v3_4 then (K4 v3_4 v2_4) else ((M_X3_isBare w_f v3_4).bind (fun q14 => if q14 = 0 then (if v3_4 < 0 ∨ 14 ≤ (v3_4).toNatClampNeg then none else (if ((w_ds (v3_4).toNatClampNeg) &&& (p1 ^^^ (-1))) = 0 then (L_X3_nextDay_4 w_t w_f w_ds p1 K4 k4 (v3_4 + 1) (v2_4 ||| ((1 : Int32) <<< (v3_4 &&& 31)))) else (L_X3_nextDay_4 w_t w_f w_ds p1 K4 k4 (v3_4 + 1) v2_4))) else (L_X3_nextDay_4 w_t w_f w_ds p1 K4 k4 (v3_4 + 1) v2_4)))) = some R := hM
      refine lv_iload_n hx hb dX3_nextDay_4 rfl (lv_at hl 0 rfl) ?_
      refine lv_aload_n hx hb dX3_nextDay_5 rfl (lv_at hl 2 rfl) ?_
      refine va_get (D := (dC, dI)) (ci := 3) (v := .int w_t) (C := RX3) (T := TX3) (N := 5) hx hb hts in_X3_nextDay_3 hown hK hP 0 rfl rfl 0 (by decide) hf9 (fun _ h9 => h9) rfl dX3_nextDay_6 ?_
      refine lv_icmp_ge (tgt := 45) hx hb dX3_nextDay_9 (by decide) (fun c_9 => ?_) (fun c_9 => ?_)
      · replace hM := ob_pos c_9 hM
        have hM : (some v2_4) = some R := by rw [hK4] at hM; exact hM
        refine lv_iload_n hx hb dX3_nextDay_45 rfl (lv_at hl 1 rfl) ?_
        exact W.iret (v := v2_4) hx hb hr (fun t ht hW => ⟨_, rfl, (Option.some.inj hM).symm, ht⟩) (fun _ h => by cases h) dX3_nextDay_46
      · replace hM := ob_neg c_9 hM
        refine lv_aload_n hx hb dX3_nextDay_12 rfl (lv_at hl 2 rfl) ?_
        refine lv_iload_n hx hb dX3_nextDay_13 rfl (lv_at hl 0 rfl) ?_
        obtain ⟨q14, hv14, hM⟩ := ob_bind hM
        refine vp_callSi (va_Run.run (va_runV (As := [.int v3_4]) (rest := []) ⟨hx, hb, hml, hown, hts⟩ (c_X3_isBare l dC dI cI cZ cJ cW w_a w_cs_a w_ds_a w_t w_k w_f w_cs w_ds v3_4 q14 hv14) (cwV 1 hts gX3_nextDay_X3_isBare rfl rfl rfl (by decide +kernel) ⟨Nat.le_of_ble_eq_true rfl, Nat.le_of_ble_eq_true rfl⟩) ⟨RP.blind, va_recv hK hP (ci := 3) (q0 := 0) rfl rfl, fun U hU hW => ⟨rfl, by rw [hU]; exact hP.sub (ws' := [(w_a, .inr (3, [.int w_t, .int w_k, .int w_f, .ref w_cs_a, .ref w_ds_a])), (w_cs_a, .inl (cI, 14, .inl w_cs)), (w_ds_a, .inl (cI, 14, .inl w_ds))]) [0, 1, 2] rfl, va_K.moved hW.alike hK, hN.warm hW⟩⟩ rfl rfl hl.1 rfl (lv_room (Nat.le_of_ble_eq_true rfl)) dX3_nextDay_14 ⟨Nat.le_of_ble_eq_true rfl, Nat.le_of_ble_eq_true rfl⟩)) (fun r hr => ?_)
        subst hr
        refine lv_if_ne (tgt := 39) hx hb dX3_nextDay_17 (by decide) (fun c_17 => ?_) (fun c_17 => ?_)
        · replace hM := ob_neg c_17 hM
          refine lv_iinc (v := (v3_4 + 1)) (lv' := [(3, .int (v3_4 + 1)), (2, .int v2_4), (0, .ref w_a), (1, .int p1)]) hx hb dX3_nextDay_39 hl (k := 0) rfl (by rfl) (by decide) rfl (fun ls hl => ?_)
          refine lv_goto (tgt := 4) hx hb dX3_nextDay_42 (by decide) ?_
          exact ih4 (v3_4 + 1) v2_4 _ hM (lv_sub hl [0, 1, 2, 3] rfl)
        · replace hM := ob_pos c_17 hM
          refine lv_aload_n hx hb dX3_nextDay_20 rfl (lv_at hl 2 rfl) ?_
          refine va_get (D := (dC, dI)) (ci := 3) (v := .ref w_ds_a) (C := RX3) (T := TX3) (N := 5) hx hb hts in_X3_nextDay_3 hown hK hP 0 rfl rfl 4 (by decide) hf25 (fun _ h9 => h9) rfl dX3_nextDay_21 ?_
          refine lv_iload_n hx hb dX3_nextDay_24 rfl (lv_at hl 0 rfl) ?_
          obtain ⟨h_25, hM⟩ := ob_get hM
          refine va_iald hx hb hK hP 2 0 rfl rfl h_25 dX3_nextDay_25 ?_
          refine lv_iload_n hx hb dX3_nextDay_26 rfl (lv_at hl 3 rfl) ?_
          refine lv_iconst (v := (-1)) hx hb dX3_nextDay_27 (by decide) ?_
          refine lv_ixor hx hb dX3_nextDay_28 ?_
          refine lv_iand hx hb dX3_nextDay_29 ?_
          refine lv_if_ne (tgt := 39) hx hb dX3_nextDay_30 (by decide) (fun c_30 => ?_) (fun c_30 => ?_)
          · replace hM := ob_neg c_30 hM
            refine lv_iinc (v := (v3_4 + 1)) (lv' := [(3, .int (v3_4 + 1)), (2, .int v2_4), (0, .ref w_a), (1, .int p1)]) hx hb dX3_nextDay_39 hl (k := 0) rfl (by rfl) (by decide) rfl (fun ls hl => ?_)
            refine lv_goto (tgt := 4) hx hb dX3_nextDay_42 (by decide) ?_
            exact ih4 (v3_4 + 1) v2_4 _ hM (lv_sub hl [0, 1, 2, 3] rfl)
          · replace hM := ob_pos c_30 hM
            refine lv_iload_n hx hb dX3_nextDay_33 rfl (lv_at hl 1 rfl) ?_
            refine lv_iconst (v := 1) hx hb dX3_nextDay_34 (by decide) ?_
            refine lv_iload_n hx hb dX3_nextDay_35 rfl (lv_at hl 0 rfl) ?_
            refine lv_ishl hx hb dX3_nextDay_36 ?_
            refine lv_ior hx hb dX3_nextDay_37 ?_
            refine lv_istore_n (lv' := [(2, .int (v2_4 ||| ((1 : Int32) <<< (v3_4 &&& 31)))), (3, .int v3_4), (0, .ref w_a), (1, .int p1)]) hx hb dX3_nextDay_38 rfl hl (by decide) rfl (fun ls hl => ?_)
            refine lv_iinc (v := (v3_4 + 1)) (lv' := [(3, .int (v3_4 + 1)), (2, .int (v2_4 ||| ((1 : Int32) <<< (v3_4 &&& 31)))), (0, .ref w_a), (1, .int p1)]) hx hb dX3_nextDay_39 hl (k := 1) rfl (by rfl) (by decide) rfl (fun ls hl => ?_)
            refine lv_goto (tgt := 4) hx hb dX3_nextDay_42 (by decide) ?_
            exact ih4 (v3_4 + 1) (v2_4 ||| ((1 : Int32) <<< (v3_4 &&& 31))) _ hM (lv_sub hl [0, 1, 2, 3] rfl)
  exact hL4 40 0 p1 _ hM (lv_sub hl [0, 1, 2, 3] rfl)
/-! X3_groundedBy -/
abbrev rm_X3_groundedBy : Room := { frames := 2, cells := 0, slots := 0, locals := 44 }
theorem in_X3_groundedBy_3 : ∀ w ∈ u_ws RX3 TX3 5, w ∈ wsX3_groundedBy := by decide +kernel
set_option maxHeartbeats 4000000 in
set_option maxRecDepth 100000 in
theorem c_X3_groundedBy (l : Launch) (dC : Nat → ClassId) (dI : Nat → Nat → Nat) (cI cZ cJ cW : ClassId) (w_a w_cs_a w_ds_a : Nat) (w_t : Int32) (w_k : Int32) (w_f : Int32) (w_cs : Nat → Int32) (w_ds : Nat → Int32) (p1 : Int32) (R : Int32) (hM : M_X3_groundedBy w_t w_f w_ds p1 = some R) : Met l yX3_groundedBy wsX3_groundedBy rm_X3_groundedBy (va_Pc [.ref w_a, .int p1] (RP (dC, dI) cI cZ cJ cW [(w_a, .inr (3, [.int w_t, .int w_k, .int w_f, .ref w_cs_a, .ref w_ds_a])), (w_cs_a, .inl (cI, 14, .inl w_cs)), (w_ds_a, .inl (cI, 14, .inl w_ds))])) (vp_Si (fun r => R = r)) 0 0 (fun _ => False) := by
  refine Met.ofW (cc := cX3_groundedBy) (maxL := 4) (ret := (some .int)) (by decide) rfl ?_
  intro p e s m args below meth c s₁ B hml hv
  obtain ⟨rfl, hP, hK, hN⟩ := hv
  have hx := B.exec
  have hb := B.bytes
  have hr := B.returns
  have hts := atoms_spec (ws := wsX3_groundedBy) B.pre
  have hown : s.vm.findClass RX3 = some m.cls := findClass_of_methodNamed B.named
  have hlocks := B.notSynchronized
  have hf9 := hts (.fieldLink RX3 9 "WordGrounds$Words" "total" "I") (by decide +kernel)
  have hl := lv_entry ([.ref w_a, .int p1]) (n := 4) (Nat.le_of_ble_eq_true rfl)
  rw [lg_entry_eq]
  generalize (lg_sl ([.ref w_a, .int p1]) ++ List.replicate (4 - (lg_sl ([.ref w_a, .int p1])).length) Slot.unset).toArray = ls at hl ⊢
  have hl : lv_has ls 4 [(0, .ref w_a), (1, .int p1)] := hl
  have hM : (L_X3_groundedBy_4 w_t w_f w_ds (fun (v3_4 : Int32) (v2_4 : Int32) => some v2_4) 40 0 p1) = some R := hM
  refine lv_iload_n hx hb dX3_groundedBy_0 rfl (lv_at hl 1 rfl) ?_
  refine lv_istore_n (lv' := [(2, .int p1), (0, .ref w_a), (1, .int p1)]) hx hb dX3_groundedBy_1 rfl hl (by decide) rfl (fun ls hl => ?_)
  refine lv_iconst (v := 0) hx hb dX3_groundedBy_2 (by decide) ?_
  refine lv_istore_n (lv' := [(3, .int 0), (2, .int p1), (0, .ref w_a), (1, .int p1)]) hx hb dX3_groundedBy_3 rfl hl (by decide) rfl (fun ls hl => ?_)
  obtain ⟨K4, hK4⟩ : ∃ K : Int32 → Int32 → Option (Int32), K = (fun (v3_4 : Int32) (v2_4 : Int32) => some v2_4) := ⟨_, rfl⟩
  have hM : L_X3_groundedBy_4 w_t w_f w_ds K4 40 0 p1 = some R := by rw [hK4]; exact hM
  have hL4 : ∀ (k4 : Nat) (v3_4 : Int32) (v2_4 : Int32) (ls : Array Slot), L_X3_groundedBy_4 w_t w_f w_ds K4 k4 v3_4 v2_4 = some R → lv_has ls 4 [(3, .int v3_4), (2, .int v2_4), (0, .ref w_a), (1, .int p1)] → W p l e rm_X3_groundedBy s m ([.ref w_a, .int p1] : List Value).toArray below meth c s.heap [] 0 0 (MQ below (vp_Si (fun r => R = r)) ([.ref w_a, .int p1] : List Value).toArray s 0 0 (fun _ => False)) (F0 m 4 ls []) := by
    intro k4
    induction k4 with
    | zero => intro v3_4 v2_4 ls hM; exact (ob_none hM).elim
    | succ k4 ih4 =>
      intro v3_4 v2_4 ls hM hl
      have hM : (if w_t ≤ v3_4 then (K4 v3_4 v2_4) else ((M_X3_nextDay w_t w_f w_ds v2_4).bind (fun q14 => L_X3_groundedBy_4 w_t w_f w_ds K4 k4 (v3_4 + 1) q14))) = some R := hM
      refine lv_iload_n hx hb dX3_groundedBy_4 rfl (lv_at hl 0 rfl) ?_
      refine lv_aload_n hx hb dX3_groundedBy_5 rfl (lv_at hl 2 rfl) ?_
      refine va_get (D := (dC, dI)) (ci := 3) (v := .int w_t) (C := RX3) (T := TX3) (N := 5) hx hb hts in_X3_groundedBy_3 hown hK hP 0 rfl rfl 0 (by decide) hf9 (fun _ h9 => h9) rfl dX3_groundedBy_6 ?_
      refine lv_icmp_ge (tgt := 24) hx hb dX3_groundedBy_9 (by decide) (fun c_9 => ?_) (fun c_9 => ?_)
      · replace hM := ob_pos c_9 hM
        have hM : (some v2_4) = some R := by rw [hK4] at hM; exact hM
        refine lv_iload_n hx hb dX3_groundedBy_24 rfl (lv_at hl 1 rfl) ?_
        exact W.iret (v := v2_4) hx hb hr (fun t ht hW => ⟨_, rfl, (Option.some.inj hM).symm, ht⟩) (fun _ h => by cases h) dX3_groundedBy_25
      · replace hM := ob_neg c_9 hM
        refine lv_aload_n hx hb dX3_groundedBy_12 rfl (lv_at hl 2 rfl) ?_
        refine lv_iload_n hx hb dX3_groundedBy_13 rfl (lv_at hl 1 rfl) ?_
        obtain ⟨q14, hv14, hM⟩ := ob_bind hM
        refine vp_callSi (va_Run.run (va_runV (As := [.int v2_4]) (rest := []) ⟨hx, hb, hml, hown, hts⟩ (c_X3_nextDay l dC dI cI cZ cJ cW w_a w_cs_a w_ds_a w_t w_k w_f w_cs w_ds v2_4 q14 hv14) (cwV 1 hts gX3_groundedBy_X3_nextDay rfl rfl rfl (by decide +kernel) ⟨Nat.le_of_ble_eq_true rfl, Nat.le_of_ble_eq_true rfl⟩) ⟨RP.blind, va_recv hK hP (ci := 3) (q0 := 0) rfl rfl, fun U hU hW => ⟨rfl, by rw [hU]; exact hP.sub (ws' := [(w_a, .inr (3, [.int w_t, .int w_k, .int w_f, .ref w_cs_a, .ref w_ds_a])), (w_cs_a, .inl (cI, 14, .inl w_cs)), (w_ds_a, .inl (cI, 14, .inl w_ds))]) [0, 1, 2] rfl, va_K.moved hW.alike hK, hN.warm hW⟩⟩ rfl rfl hl.1 rfl (lv_room (Nat.le_of_ble_eq_true rfl)) dX3_groundedBy_14 ⟨Nat.le_of_ble_eq_true rfl, Nat.le_of_ble_eq_true rfl⟩)) (fun r hr => ?_)
        subst hr
        refine lv_istore_n (lv' := [(2, .int q14), (3, .int v3_4), (0, .ref w_a), (1, .int p1)]) hx hb dX3_groundedBy_17 rfl hl (by decide) rfl (fun ls hl => ?_)
        refine lv_iinc (v := (v3_4 + 1)) (lv' := [(3, .int (v3_4 + 1)), (2, .int q14), (0, .ref w_a), (1, .int p1)]) hx hb dX3_groundedBy_18 hl (k := 1) rfl (by rfl) (by decide) rfl (fun ls hl => ?_)
        refine lv_goto (tgt := 4) hx hb dX3_groundedBy_21 (by decide) ?_
        exact ih4 (v3_4 + 1) q14 _ hM (lv_sub hl [0, 1, 2, 3] rfl)
  exact hL4 40 0 p1 _ hM (lv_sub hl [0, 1, 2, 3] rfl)
/-! X3_daysTill -/
abbrev rm_X3_daysTill : Room := { frames := 2, cells := 0, slots := 0, locals := 44 }
theorem in_X3_daysTill_3 : ∀ w ∈ u_ws RX3 TX3 5, w ∈ wsX3_daysTill := by decide +kernel
set_option maxHeartbeats 4000000 in
set_option maxRecDepth 100000 in
theorem c_X3_daysTill (l : Launch) (dC : Nat → ClassId) (dI : Nat → Nat → Nat) (cI cZ cJ cW : ClassId) (w_a w_cs_a w_ds_a : Nat) (w_t : Int32) (w_k : Int32) (w_f : Int32) (w_cs : Nat → Int32) (w_ds : Nat → Int32) (p1 : Int32) (p2 : Int32) (R : Int32) (hM : M_X3_daysTill w_t w_f w_ds p1 p2 = some R) : Met l yX3_daysTill wsX3_daysTill rm_X3_daysTill (va_Pc [.ref w_a, .int p1, .int p2] (RP (dC, dI) cI cZ cJ cW [(w_a, .inr (3, [.int w_t, .int w_k, .int w_f, .ref w_cs_a, .ref w_ds_a])), (w_cs_a, .inl (cI, 14, .inl w_cs)), (w_ds_a, .inl (cI, 14, .inl w_ds))])) (vp_Si (fun r => R = r)) 0 0 (fun _ => False) := by
  refine Met.ofW (cc := cX3_daysTill) (maxL := 5) (ret := (some .int)) (by decide) rfl ?_
  intro p e s m args below meth c s₁ B hml hv
  obtain ⟨rfl, hP, hK, hN⟩ := hv
  have hx := B.exec
  have hb := B.bytes
  have hr := B.returns
  have hts := atoms_spec (ws := wsX3_daysTill) B.pre
  have hown : s.vm.findClass RX3 = some m.cls := findClass_of_methodNamed B.named
  have hlocks := B.notSynchronized
  have hf9 := hts (.fieldLink RX3 9 "WordGrounds$Words" "total" "I") (by decide +kernel)
  have hl := lv_entry ([.ref w_a, .int p1, .int p2]) (n := 5) (Nat.le_of_ble_eq_true rfl)
  rw [lg_entry_eq]
  generalize (lg_sl ([.ref w_a, .int p1, .int p2]) ++ List.replicate (5 - (lg_sl ([.ref w_a, .int p1, .int p2])).length) Slot.unset).toArray = ls at hl ⊢
  have hl : lv_has ls 5 [(0, .ref w_a), (1, .int p1), (2, .int p2)] := hl
  have hM : (L_X3_daysTill_5 w_t w_f w_ds p1 (fun (v4_5 : Int32) (v3_5 : Int32) => some (-6)) 40 0 p2) = some R := hM
  refine lv_iload_n hx hb dX3_daysTill_0 rfl (lv_at hl 2 rfl) ?_
  refine lv_istore_n (lv' := [(3, .int p2), (0, .ref w_a), (1, .int p1), (2, .int p2)]) hx hb dX3_daysTill_1 rfl hl (by decide) rfl (fun ls hl => ?_)
  refine lv_iconst (v := 0) hx hb dX3_daysTill_2 (by decide) ?_
  refine lv_istore (lv' := [(4, .int 0), (3, .int p2), (0, .ref w_a), (1, .int p1), (2, .int p2)]) hx hb dX3_daysTill_3 hl (by decide) rfl (fun ls hl => ?_)
  obtain ⟨K5, hK5⟩ : ∃ K : Int32 → Int32 → Option (Int32), K = (fun (v4_5 : Int32) (v3_5 : Int32) => some (-6)) := ⟨_, rfl⟩
  have hM : L_X3_daysTill_5 w_t w_f w_ds p1 K5 40 0 p2 = some R := by rw [hK5]; exact hM
  have hL5 : ∀ (k5 : Nat) (v4_5 : Int32) (v3_5 : Int32) (ls : Array Slot), L_X3_daysTill_5 w_t w_f w_ds p1 K5 k5 v4_5 v3_5 = some R → lv_has ls 5 [(4, .int v4_5), (3, .int v3_5), (0, .ref w_a), (1, .int p1), (2, .int p2)] → W p l e rm_X3_daysTill s m ([.ref w_a, .int p1, .int p2] : List Value).toArray below meth c s.heap [] 0 0 (MQ below (vp_Si (fun r => R = r)) ([.ref w_a, .int p1, .int p2] : List Value).toArray s 0 0 (fun _ => False)) (F0 m 5 ls []) := by
    intro k5
    induction k5 with
    | zero => intro v4_5 v3_5 ls hM; exact (ob_none hM).elim
    | succ k5 ih5 =>
      intro v4_5 v3_5 ls hM hl
      have hM : (if w_t < v4_5 then (K5 v4_5 v3_5) else (if (p1 &&& (v3_5 ^^^ (-1))) = 0 then (some v4_5) else ((M_X3_nextDay w_t w_f w_ds v3_5).bind (fun q27 => L_X3_daysTill_5 w_t w_f w_ds p1 K5 k5 (v4_5 + 1) q27)))) = some R := hM
      refine lv_iload hx hb dX3_daysTill_5 (lv_at hl 0 rfl) ?_
      refine lv_aload_n hx hb dX3_daysTill_7 rfl (lv_at hl 2 rfl) ?_
      refine va_get (D := (dC, dI)) (ci := 3) (v := .int w_t) (C := RX3) (T := TX3) (N := 5) hx hb hts in_X3_daysTill_3 hown hK hP 0 rfl rfl 0 (by decide) hf9 (fun _ h9 => h9) rfl dX3_daysTill_8 ?_
      refine lv_icmp_gt (tgt := 37) hx hb dX3_daysTill_11 (by decide) (fun c_11 => ?_) (fun c_11 => ?_)
      · replace hM := ob_pos c_11 hM
        have hM : (some (-6)) = some R := by rw [hK5] at hM; exact hM
        refine lv_bipush (v := (-6)) hx hb dX3_daysTill_37 (by decide) ?_
        exact W.iret (v := (-6)) hx hb hr (fun t ht hW => ⟨_, rfl, (Option.some.inj hM).symm, ht⟩) (fun _ h => by cases h) dX3_daysTill_39
      · replace hM := ob_neg c_11 hM
        refine lv_iload_n hx hb dX3_daysTill_14 rfl (lv_at hl 3 rfl) ?_
        refine lv_iload_n hx hb dX3_daysTill_15 rfl (lv_at hl 1 rfl) ?_
        refine lv_iconst (v := (-1)) hx hb dX3_daysTill_16 (by decide) ?_
        refine lv_ixor hx hb dX3_daysTill_17 ?_
        refine lv_iand hx hb dX3_daysTill_18 ?_
        refine lv_if_ne (tgt := 25) hx hb dX3_daysTill_19 (by decide) (fun c_19 => ?_) (fun c_19 => ?_)
        · replace hM := ob_neg c_19 hM
          refine lv_aload_n hx hb dX3_daysTill_25 rfl (lv_at hl 2 rfl) ?_
          refine lv_iload_n hx hb dX3_daysTill_26 rfl (lv_at hl 1 rfl) ?_
          obtain ⟨q27, hv27, hM⟩ := ob_bind hM
          refine vp_callSi (va_Run.run (va_runV (As := [.int v3_5]) (rest := []) ⟨hx, hb, hml, hown, hts⟩ (c_X3_nextDay l dC dI cI cZ cJ cW w_a w_cs_a w_ds_a w_t w_k w_f w_cs w_ds v3_5 q27 hv27) (cwV 1 hts gX3_daysTill_X3_nextDay rfl rfl rfl (by decide +kernel) ⟨Nat.le_of_ble_eq_true rfl, Nat.le_of_ble_eq_true rfl⟩) ⟨RP.blind, va_recv hK hP (ci := 3) (q0 := 0) rfl rfl, fun U hU hW => ⟨rfl, by rw [hU]; exact hP.sub (ws' := [(w_a, .inr (3, [.int w_t, .int w_k, .int w_f, .ref w_cs_a, .ref w_ds_a])), (w_cs_a, .inl (cI, 14, .inl w_cs)), (w_ds_a, .inl (cI, 14, .inl w_ds))]) [0, 1, 2] rfl, va_K.moved hW.alike hK, hN.warm hW⟩⟩ rfl rfl hl.1 rfl (lv_room (Nat.le_of_ble_eq_true rfl)) dX3_daysTill_27 ⟨Nat.le_of_ble_eq_true rfl, Nat.le_of_ble_eq_true rfl⟩)) (fun r hr => ?_)
          subst hr
          refine lv_istore_n (lv' := [(3, .int q27), (4, .int v4_5), (0, .ref w_a), (1, .int p1), (2, .int p2)]) hx hb dX3_daysTill_30 rfl hl (by decide) rfl (fun ls hl => ?_)
          refine lv_iinc (v := (v4_5 + 1)) (lv' := [(4, .int (v4_5 + 1)), (3, .int q27), (0, .ref w_a), (1, .int p1), (2, .int p2)]) hx hb dX3_daysTill_31 hl (k := 1) rfl (by rfl) (by decide) rfl (fun ls hl => ?_)
          refine lv_goto (tgt := 5) hx hb dX3_daysTill_34 (by decide) ?_
          exact ih5 (v4_5 + 1) q27 _ hM (lv_sub hl [0, 1, 2, 3, 4] rfl)
        · replace hM := ob_pos c_19 hM
          refine lv_iload hx hb dX3_daysTill_22 (lv_at hl 0 rfl) ?_
          exact W.iret (v := v4_5) hx hb hr (fun t ht hW => ⟨_, rfl, (Option.some.inj hM).symm, ht⟩) (fun _ h => by cases h) dX3_daysTill_24
  exact hL5 40 0 p2 _ hM (lv_sub hl [0, 1, 2, 3, 4] rfl)
/-! X3_usedByAny -/
abbrev rm_X3_usedByAny : Room := { frames := 0, cells := 0, slots := 0, locals := 0 }
theorem in_X3_usedByAny_3 : ∀ w ∈ u_ws RX3 TX3 5, w ∈ wsX3_usedByAny := by decide +kernel
set_option maxHeartbeats 4000000 in
set_option maxRecDepth 100000 in
theorem c_X3_usedByAny (l : Launch) (dC : Nat → ClassId) (dI : Nat → Nat → Nat) (cI cZ cJ cW : ClassId) (w_a w_cs_a w_ds_a : Nat) (w_t : Int32) (w_k : Int32) (w_f : Int32) (w_cs : Nat → Int32) (w_ds : Nat → Int32) (p1 : Int32) (R : Int32) (hM : M_X3_usedByAny w_t w_ds p1 = some R) : Met l yX3_usedByAny wsX3_usedByAny rm_X3_usedByAny (va_Pc [.ref w_a, .int p1] (RP (dC, dI) cI cZ cJ cW [(w_a, .inr (3, [.int w_t, .int w_k, .int w_f, .ref w_cs_a, .ref w_ds_a])), (w_cs_a, .inl (cI, 14, .inl w_cs)), (w_ds_a, .inl (cI, 14, .inl w_ds))])) (vp_Si (fun r => R = r)) 0 0 (fun _ => False) := by
  refine Met.ofW (cc := cX3_usedByAny) (maxL := 4) (ret := (some .int)) (by decide) rfl ?_
  intro p e s m args below meth c s₁ B hml hv
  obtain ⟨rfl, hP, hK, hN⟩ := hv
  have hx := B.exec
  have hb := B.bytes
  have hr := B.returns
  have hts := atoms_spec (ws := wsX3_usedByAny) B.pre
  have hown : s.vm.findClass RX3 = some m.cls := findClass_of_methodNamed B.named
  have hlocks := B.notSynchronized
  have hf9 := hts (.fieldLink RX3 9 "WordGrounds$Words" "total" "I") (by decide +kernel)
  have hf25 := hts (.fieldLink RX3 25 "WordGrounds$Words" "definitions" "[I") (by decide +kernel)
  have hl := lv_entry ([.ref w_a, .int p1]) (n := 4) (Nat.le_of_ble_eq_true rfl)
  rw [lg_entry_eq]
  generalize (lg_sl ([.ref w_a, .int p1]) ++ List.replicate (4 - (lg_sl ([.ref w_a, .int p1])).length) Slot.unset).toArray = ls at hl ⊢
  have hl : lv_has ls 4 [(0, .ref w_a), (1, .int p1)] := hl
  have hM : (L_X3_usedByAny_4 w_t w_ds p1 (fun (v3_4 : Int32) (v2_4 : Int32) => some v2_4) 40 0 0) = some R := hM
  refine lv_iconst (v := 0) hx hb dX3_usedByAny_0 (by decide) ?_
  refine lv_istore_n (lv' := [(2, .int 0), (0, .ref w_a), (1, .int p1)]) hx hb dX3_usedByAny_1 rfl hl (by decide) rfl (fun ls hl => ?_)
  refine lv_iconst (v := 0) hx hb dX3_usedByAny_2 (by decide) ?_
  refine lv_istore_n (lv' := [(3, .int 0), (2, .int 0), (0, .ref w_a), (1, .int p1)]) hx hb dX3_usedByAny_3 rfl hl (by decide) rfl (fun ls hl => ?_)
  obtain ⟨K4, hK4⟩ : ∃ K : Int32 → Int32 → Option (Int32), K = (fun (v3_4 : Int32) (v2_4 : Int32) => some v2_4) := ⟨_, rfl⟩
  have hM : L_X3_usedByAny_4 w_t w_ds p1 K4 40 0 0 = some R := by rw [hK4]; exact hM
  have hL4 : ∀ (k4 : Nat) (v3_4 : Int32) (v2_4 : Int32) (ls : Array Slot), L_X3_usedByAny_4 w_t w_ds p1 K4 k4 v3_4 v2_4 = some R → lv_has ls 4 [(3, .int v3_4), (2, .int v2_4), (0, .ref w_a), (1, .int p1)] → W p l e rm_X3_usedByAny s m ([.ref w_a, .int p1] : List Value).toArray below meth c s.heap [] 0 0 (MQ below (vp_Si (fun r => R = r)) ([.ref w_a, .int p1] : List Value).toArray s 0 0 (fun _ => False)) (F0 m 4 ls []) := by
    intro k4
    induction k4 with
    | zero => intro v3_4 v2_4 ls hM; exact (ob_none hM).elim
    | succ k4 ih4 =>
      intro v3_4 v2_4 ls hM hl
      have hM : (if w_t ≤ v3_4 then (K4 v3_4 v2_4) else (if ((p1 >>> (v3_4 &&& 31)) &&& 1) = 0 then (L_X3_usedByAny_4 w_t w_ds p1 K4 k4 (v3_4 + 1) v2_4) else (if v3_4 < 0 ∨ 14 ≤ (v3_4).toNatClampNeg then none else (L_X3_usedByAny_4 w_t w_ds p1 K4 k4 (v3_4 + 1) (v2_4 ||| (w_ds (v3_4).toNatClampNeg)))))) = some R := hM
      refine lv_iload_n hx hb dX3_usedByAny_4 rfl (lv_at hl 0 rfl) ?_
      refine lv_aload_n hx hb dX3_usedByAny_5 rfl (lv_at hl 2 rfl) ?_
      refine va_get (D := (dC, dI)) (ci := 3) (v := .int w_t) (C := RX3) (T := TX3) (N := 5) hx hb hts in_X3_usedByAny_3 hown hK hP 0 rfl rfl 0 (by decide) hf9 (fun _ h9 => h9) rfl dX3_usedByAny_6 ?_
      refine lv_icmp_ge (tgt := 35) hx hb dX3_usedByAny_9 (by decide) (fun c_9 => ?_) (fun c_9 => ?_)
      · replace hM := ob_pos c_9 hM
        have hM : (some v2_4) = some R := by rw [hK4] at hM; exact hM
        refine lv_iload_n hx hb dX3_usedByAny_35 rfl (lv_at hl 1 rfl) ?_
        exact W.iret (v := v2_4) hx hb hr (fun t ht hW => ⟨_, rfl, (Option.some.inj hM).symm, ht⟩) (fun _ h => by cases h) dX3_usedByAny_36
      · replace hM := ob_neg c_9 hM
        refine lv_iload_n hx hb dX3_usedByAny_12 rfl (lv_at hl 3 rfl) ?_
        refine lv_iload_n hx hb dX3_usedByAny_13 rfl (lv_at hl 0 rfl) ?_
        refine lv_ishr hx hb dX3_usedByAny_14 ?_
        refine lv_iconst (v := 1) hx hb dX3_usedByAny_15 (by decide) ?_
        refine lv_iand hx hb dX3_usedByAny_16 ?_
        refine lv_if_eq (tgt := 29) hx hb dX3_usedByAny_17 (by decide) (fun c_17 => ?_) (fun c_17 => ?_)
        · replace hM := ob_pos c_17 hM
          refine lv_iinc (v := (v3_4 + 1)) (lv' := [(3, .int (v3_4 + 1)), (2, .int v2_4), (0, .ref w_a), (1, .int p1)]) hx hb dX3_usedByAny_29 hl (k := 0) rfl (by rfl) (by decide) rfl (fun ls hl => ?_)
          refine lv_goto (tgt := 4) hx hb dX3_usedByAny_32 (by decide) ?_
          exact ih4 (v3_4 + 1) v2_4 _ hM (lv_sub hl [0, 1, 2, 3] rfl)
        · replace hM := ob_neg c_17 hM
          refine lv_iload_n hx hb dX3_usedByAny_20 rfl (lv_at hl 1 rfl) ?_
          refine lv_aload_n hx hb dX3_usedByAny_21 rfl (lv_at hl 2 rfl) ?_
          refine va_get (D := (dC, dI)) (ci := 3) (v := .ref w_ds_a) (C := RX3) (T := TX3) (N := 5) hx hb hts in_X3_usedByAny_3 hown hK hP 0 rfl rfl 4 (by decide) hf25 (fun _ h9 => h9) rfl dX3_usedByAny_22 ?_
          refine lv_iload_n hx hb dX3_usedByAny_25 rfl (lv_at hl 0 rfl) ?_
          obtain ⟨h_26, hM⟩ := ob_get hM
          refine va_iald hx hb hK hP 2 0 rfl rfl h_26 dX3_usedByAny_26 ?_
          refine lv_ior hx hb dX3_usedByAny_27 ?_
          refine lv_istore_n (lv' := [(2, .int (v2_4 ||| (w_ds (v3_4).toNatClampNeg))), (3, .int v3_4), (0, .ref w_a), (1, .int p1)]) hx hb dX3_usedByAny_28 rfl hl (by decide) rfl (fun ls hl => ?_)
          refine lv_iinc (v := (v3_4 + 1)) (lv' := [(3, .int (v3_4 + 1)), (2, .int (v2_4 ||| (w_ds (v3_4).toNatClampNeg))), (0, .ref w_a), (1, .int p1)]) hx hb dX3_usedByAny_29 hl (k := 1) rfl (by rfl) (by decide) rfl (fun ls hl => ?_)
          refine lv_goto (tgt := 4) hx hb dX3_usedByAny_32 (by decide) ?_
          exact ih4 (v3_4 + 1) (v2_4 ||| (w_ds (v3_4).toNatClampNeg)) _ hM (lv_sub hl [0, 1, 2, 3] rfl)
  exact hL4 40 0 0 _ hM (lv_sub hl [0, 1, 2, 3] rfl)
/-! X3_stepsBetween -/
abbrev rm_X3_stepsBetween : Room := { frames := 1, cells := 0, slots := 0, locals := 23 }
theorem in_X3_stepsBetween_3 : ∀ w ∈ u_ws RX3 TX3 5, w ∈ wsX3_stepsBetween := by decide +kernel
set_option maxHeartbeats 4000000 in
set_option maxRecDepth 100000 in
theorem c_X3_stepsBetween (l : Launch) (dC : Nat → ClassId) (dI : Nat → Nat → Nat) (cI cZ cJ cW : ClassId) (w_a w_cs_a w_ds_a : Nat) (w_t : Int32) (w_k : Int32) (w_f : Int32) (w_cs : Nat → Int32) (w_ds : Nat → Int32) (p1 : Int32) (p2 : Int32) (R : Int32) (hM : M_X3_stepsBetween w_t w_ds p1 p2 = some R) : Met l yX3_stepsBetween wsX3_stepsBetween rm_X3_stepsBetween (va_Pc [.ref w_a, .int p1, .int p2] (RP (dC, dI) cI cZ cJ cW [(w_a, .inr (3, [.int w_t, .int w_k, .int w_f, .ref w_cs_a, .ref w_ds_a])), (w_cs_a, .inl (cI, 14, .inl w_cs)), (w_ds_a, .inl (cI, 14, .inl w_ds))])) (vp_Si (fun r => R = r)) 0 0 (fun _ => False) := by
  refine Met.ofW (cc := cX3_stepsBetween) (maxL := 5) (ret := (some .int)) (by decide) rfl ?_
  intro p e s m args below meth c s₁ B hml hv
  obtain ⟨rfl, hP, hK, hN⟩ := hv
  have hx := B.exec
  have hb := B.bytes
  have hr := B.returns
  have hts := atoms_spec (ws := wsX3_stepsBetween) B.pre
  have hown : s.vm.findClass RX3 = some m.cls := findClass_of_methodNamed B.named
  have hlocks := B.notSynchronized
  have hf9 := hts (.fieldLink RX3 9 "WordGrounds$Words" "total" "I") (by decide +kernel)
  have hf25 := hts (.fieldLink RX3 25 "WordGrounds$Words" "definitions" "[I") (by decide +kernel)
  have hl := lv_entry ([.ref w_a, .int p1, .int p2]) (n := 5) (Nat.le_of_ble_eq_true rfl)
  rw [lg_entry_eq]
  generalize (lg_sl ([.ref w_a, .int p1, .int p2]) ++ List.replicate (5 - (lg_sl ([.ref w_a, .int p1, .int p2])).length) Slot.unset).toArray = ls at hl ⊢
  have hl : lv_has ls 5 [(0, .ref w_a), (1, .int p1), (2, .int p2)] := hl
  have hM : (if p1 < 0 ∨ 14 ≤ (p1).toNatClampNeg then none else (L_X3_stepsBetween_10 w_t w_ds p2 (fun (v4_10 : Int32) (v3_10 : Int32) => some (-6)) 40 1 (w_ds (p1).toNatClampNeg))) = some R := hM
  refine lv_aload_n hx hb dX3_stepsBetween_0 rfl (lv_at hl 0 rfl) ?_
  refine va_get (D := (dC, dI)) (ci := 3) (v := .ref w_ds_a) (C := RX3) (T := TX3) (N := 5) hx hb hts in_X3_stepsBetween_3 hown hK hP 0 rfl rfl 4 (by decide) hf25 (fun _ h9 => h9) rfl dX3_stepsBetween_1 ?_
  refine lv_iload_n hx hb dX3_stepsBetween_4 rfl (lv_at hl 1 rfl) ?_
  obtain ⟨h_5, hM⟩ := ob_get hM
  refine va_iald hx hb hK hP 2 0 rfl rfl h_5 dX3_stepsBetween_5 ?_
  refine lv_istore_n (lv' := [(3, .int (w_ds (p1).toNatClampNeg)), (0, .ref w_a), (1, .int p1), (2, .int p2)]) hx hb dX3_stepsBetween_6 rfl hl (by decide) rfl (fun ls hl => ?_)
  refine lv_iconst (v := 1) hx hb dX3_stepsBetween_7 (by decide) ?_
  refine lv_istore (lv' := [(4, .int 1), (3, .int (w_ds (p1).toNatClampNeg)), (0, .ref w_a), (1, .int p1), (2, .int p2)]) hx hb dX3_stepsBetween_8 hl (by decide) rfl (fun ls hl => ?_)
  obtain ⟨K10, hK10⟩ : ∃ K : Int32 → Int32 → Option (Int32), K = (fun (v4_10 : Int32) (v3_10 : Int32) => some (-6)) := ⟨_, rfl⟩
  have hM : L_X3_stepsBetween_10 w_t w_ds p2 K10 40 1 (w_ds (p1).toNatClampNeg) = some R := by rw [hK10]; exact hM
  have hL10 : ∀ (k10 : Nat) (v4_10 : Int32) (v3_10 : Int32) (ls : Array Slot), L_X3_stepsBetween_10 w_t w_ds p2 K10 k10 v4_10 v3_10 = some R → lv_has ls 5 [(4, .int v4_10), (3, .int v3_10), (0, .ref w_a), (1, .int p1), (2, .int p2)] → W p l e rm_X3_stepsBetween s m ([.ref w_a, .int p1, .int p2] : List Value).toArray below meth c s.heap [] 0 0 (MQ below (vp_Si (fun r => R = r)) ([.ref w_a, .int p1, .int p2] : List Value).toArray s 0 0 (fun _ => False)) (F0 m 10 ls []) := by
    intro k10
    induction k10 with
    | zero => intro v4_10 v3_10 ls hM; exact (ob_none hM).elim
    | succ k10 ih10 =>
      intro v4_10 v3_10 ls hM hl
      have hM : (if w_t < v4_10 then (K10 v4_10 v3_10) else (if ((v3_10 >>> (p2 &&& 31)) &&& 1) = 0 then ((M_X3_usedByAny w_t w_ds v3_10).bind (fun q33 => L_X3_stepsBetween_10 w_t w_ds p2 K10 k10 (v4_10 + 1) (v3_10 ||| q33))) else (some v4_10))) = some R := hM
      refine lv_iload hx hb dX3_stepsBetween_10 (lv_at hl 0 rfl) ?_
      refine lv_aload_n hx hb dX3_stepsBetween_12 rfl (lv_at hl 2 rfl) ?_
      refine va_get (D := (dC, dI)) (ci := 3) (v := .int w_t) (C := RX3) (T := TX3) (N := 5) hx hb hts in_X3_stepsBetween_3 hown hK hP 0 rfl rfl 0 (by decide) hf9 (fun _ h9 => h9) rfl dX3_stepsBetween_13 ?_
      refine lv_icmp_gt (tgt := 44) hx hb dX3_stepsBetween_16 (by decide) (fun c_16 => ?_) (fun c_16 => ?_)
      · replace hM := ob_pos c_16 hM
        have hM : (some (-6)) = some R := by rw [hK10] at hM; exact hM
        refine lv_bipush (v := (-6)) hx hb dX3_stepsBetween_44 (by decide) ?_
        exact W.iret (v := (-6)) hx hb hr (fun t ht hW => ⟨_, rfl, (Option.some.inj hM).symm, ht⟩) (fun _ h => by cases h) dX3_stepsBetween_46
      · replace hM := ob_neg c_16 hM
        refine lv_iload_n hx hb dX3_stepsBetween_19 rfl (lv_at hl 1 rfl) ?_
        refine lv_iload_n hx hb dX3_stepsBetween_20 rfl (lv_at hl 4 rfl) ?_
        refine lv_ishr hx hb dX3_stepsBetween_21 ?_
        refine lv_iconst (v := 1) hx hb dX3_stepsBetween_22 (by decide) ?_
        refine lv_iand hx hb dX3_stepsBetween_23 ?_
        refine lv_if_eq (tgt := 30) hx hb dX3_stepsBetween_24 (by decide) (fun c_24 => ?_) (fun c_24 => ?_)
        · replace hM := ob_pos c_24 hM
          refine lv_iload_n hx hb dX3_stepsBetween_30 rfl (lv_at hl 1 rfl) ?_
          refine lv_aload_n hx hb dX3_stepsBetween_31 rfl (lv_at hl 2 rfl) ?_
          refine lv_iload_n hx hb dX3_stepsBetween_32 rfl (lv_at hl 1 rfl) ?_
          obtain ⟨q33, hv33, hM⟩ := ob_bind hM
          refine vp_callSi (va_Run.run (va_runV (As := [.int v3_10]) (rest := [.int v3_10]) ⟨hx, hb, hml, hown, hts⟩ (c_X3_usedByAny l dC dI cI cZ cJ cW w_a w_cs_a w_ds_a w_t w_k w_f w_cs w_ds v3_10 q33 hv33) (cwV 1 hts gX3_stepsBetween_X3_usedByAny rfl rfl rfl (by decide +kernel) ⟨Nat.le_of_ble_eq_true rfl, Nat.le_of_ble_eq_true rfl⟩) ⟨RP.blind, va_recv hK hP (ci := 3) (q0 := 0) rfl rfl, fun U hU hW => ⟨rfl, by rw [hU]; exact hP.sub (ws' := [(w_a, .inr (3, [.int w_t, .int w_k, .int w_f, .ref w_cs_a, .ref w_ds_a])), (w_cs_a, .inl (cI, 14, .inl w_cs)), (w_ds_a, .inl (cI, 14, .inl w_ds))]) [0, 1, 2] rfl, va_K.moved hW.alike hK, hN.warm hW⟩⟩ rfl rfl hl.1 rfl (lv_room (Nat.le_of_ble_eq_true rfl)) dX3_stepsBetween_33 ⟨Nat.le_of_ble_eq_true rfl, Nat.le_of_ble_eq_true rfl⟩)) (fun r hr => ?_)
          subst hr
          refine lv_ior hx hb dX3_stepsBetween_36 ?_
          refine lv_istore_n (lv' := [(3, .int (v3_10 ||| q33)), (4, .int v4_10), (0, .ref w_a), (1, .int p1), (2, .int p2)]) hx hb dX3_stepsBetween_37 rfl hl (by decide) rfl (fun ls hl => ?_)
          refine lv_iinc (v := (v4_10 + 1)) (lv' := [(4, .int (v4_10 + 1)), (3, .int (v3_10 ||| q33)), (0, .ref w_a), (1, .int p1), (2, .int p2)]) hx hb dX3_stepsBetween_38 hl (k := 1) rfl (by rfl) (by decide) rfl (fun ls hl => ?_)
          refine lv_goto (tgt := 10) hx hb dX3_stepsBetween_41 (by decide) ?_
          exact ih10 (v4_10 + 1) (v3_10 ||| q33) _ hM (lv_sub hl [0, 1, 2, 3, 4] rfl)
        · replace hM := ob_neg c_24 hM
          refine lv_iload hx hb dX3_stepsBetween_27 (lv_at hl 0 rfl) ?_
          exact W.iret (v := v4_10) hx hb hr (fun t ht hW => ⟨_, rfl, (Option.some.inj hM).symm, ht⟩) (fun _ h => by cases h) dX3_stepsBetween_29
  exact hL10 40 1 (w_ds (p1).toNatClampNeg) _ hM (lv_sub hl [0, 1, 2, 3, 4] rfl)
