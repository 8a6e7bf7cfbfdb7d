/-! what each method does, as a function: laid by program out of the bytecode -/
/-! J6_bitCount_0f7a4 -/
def M_J6_bitCount_0f7a4 (p0 : Int32) : Option (Int32) := some ((((((((p0 - (((Int32.toUInt32 p0 >>> (Int32.toUInt32 1 &&& Int32.toUInt32 31)).toInt32) &&& 1431655765)) &&& 858993459) + (((Int32.toUInt32 (p0 - (((Int32.toUInt32 p0 >>> (Int32.toUInt32 1 &&& Int32.toUInt32 31)).toInt32) &&& 1431655765)) >>> (Int32.toUInt32 2 &&& Int32.toUInt32 31)).toInt32) &&& 858993459)) + ((Int32.toUInt32 (((p0 - (((Int32.toUInt32 p0 >>> (Int32.toUInt32 1 &&& Int32.toUInt32 31)).toInt32) &&& 1431655765)) &&& 858993459) + (((Int32.toUInt32 (p0 - (((Int32.toUInt32 p0 >>> (Int32.toUInt32 1 &&& Int32.toUInt32 31)).toInt32) &&& 1431655765)) >>> (Int32.toUInt32 2 &&& Int32.toUInt32 31)).toInt32) &&& 858993459)) >>> (Int32.toUInt32 4 &&& Int32.toUInt32 31)).toInt32)) &&& 252645135) + ((Int32.toUInt32 (((((p0 - (((Int32.toUInt32 p0 >>> (Int32.toUInt32 1 &&& Int32.toUInt32 31)).toInt32) &&& 1431655765)) &&& 858993459) + (((Int32.toUInt32 (p0 - (((Int32.toUInt32 p0 >>> (Int32.toUInt32 1 &&& Int32.toUInt32 31)).toInt32) &&& 1431655765)) >>> (Int32.toUInt32 2 &&& Int32.toUInt32 31)).toInt32) &&& 858993459)) + ((Int32.toUInt32 (((p0 - (((Int32.toUInt32 p0 >>> (Int32.toUInt32 1 &&& Int32.toUInt32 31)).toInt32) &&& 1431655765)) &&& 858993459) + (((Int32.toUInt32 (p0 - (((Int32.toUInt32 p0 >>> (Int32.toUInt32 1 &&& Int32.toUInt32 31)).toInt32) &&& 1431655765)) >>> (Int32.toUInt32 2 &&& Int32.toUInt32 31)).toInt32) &&& 858993459)) >>> (Int32.toUInt32 4 &&& Int32.toUInt32 31)).toInt32)) &&& 252645135) >>> (Int32.toUInt32 8 &&& Int32.toUInt32 31)).toInt32)) + ((Int32.toUInt32 ((((((p0 - (((Int32.toUInt32 p0 >>> (Int32.toUInt32 1 &&& Int32.toUInt32 31)).toInt32) &&& 1431655765)) &&& 858993459) + (((Int32.toUInt32 (p0 - (((Int32.toUInt32 p0 >>> (Int32.toUInt32 1 &&& Int32.toUInt32 31)).toInt32) &&& 1431655765)) >>> (Int32.toUInt32 2 &&& Int32.toUInt32 31)).toInt32) &&& 858993459)) + ((Int32.toUInt32 (((p0 - (((Int32.toUInt32 p0 >>> (Int32.toUInt32 1 &&& Int32.toUInt32 31)).toInt32) &&& 1431655765)) &&& 858993459) + (((Int32.toUInt32 (p0 - (((Int32.toUInt32 p0 >>> (Int32.toUInt32 1 &&& Int32.toUInt32 31)).toInt32) &&& 1431655765)) >>> (Int32.toUInt32 2 &&& Int32.toUInt32 31)).toInt32) &&& 858993459)) >>> (Int32.toUInt32 4 &&& Int32.toUInt32 31)).toInt32)) &&& 252645135) + ((Int32.toUInt32 (((((p0 - (((Int32.toUInt32 p0 >>> (Int32.toUInt32 1 &&& Int32.toUInt32 31)).toInt32) &&& 1431655765)) &&& 858993459) + (((Int32.toUInt32 (p0 - (((Int32.toUInt32 p0 >>> (Int32.toUInt32 1 &&& Int32.toUInt32 31)).toInt32) &&& 1431655765)) >>> (Int32.toUInt32 2 &&& Int32.toUInt32 31)).toInt32) &&& 858993459)) + ((Int32.toUInt32 (((p0 - (((Int32.toUInt32 p0 >>> (Int32.toUInt32 1 &&& Int32.toUInt32 31)).toInt32) &&& 1431655765)) &&& 858993459) + (((Int32.toUInt32 (p0 - (((Int32.toUInt32 p0 >>> (Int32.toUInt32 1 &&& Int32.toUInt32 31)).toInt32) &&& 1431655765)) >>> (Int32.toUInt32 2 &&& Int32.toUInt32 31)).toInt32) &&& 858993459)) >>> (Int32.toUInt32 4 &&& Int32.toUInt32 31)).toInt32)) &&& 252645135) >>> (Int32.toUInt32 8 &&& Int32.toUInt32 31)).toInt32)) >>> (Int32.toUInt32 16 &&& Int32.toUInt32 31)).toInt32)) &&& 63)
/-! X3_all -/
def M_X3_all (w_t : Int32) : Option (Int32) := some (((1 : Int32) <<< (w_t &&& 31)) - 1)
/-! X3_has -/
def M_X3_has (w_t : Int32) (p1 : Int32) : Option (Int32) := if p1 < 0 then (some 0) else (if w_t ≤ p1 then (some 0) else (some 1))
/-! X3_hasAll -/
def M_X3_hasAll (w_t : Int32) (p1 : Int32) : Option (Int32) := (M_X3_all w_t).bind (fun q2 => if (p1 &&& (q2 ^^^ (-1))) = 0 then (some 1) else (some 0))
/-! X3_isBare -/
def M_X3_isBare (w_f : Int32) (p1 : Int32) : Option (Int32) := if ((w_f >>> (p1 &&& 31)) &&& 1) = 0 then (some 1) else (some 0)
/-! X3_makeBare -/
def M_X3_makeBare (w_f : Int32) (w_ds : Nat → Int32) (p1 : Int32) : Option (Int32 × (Nat → Int32)) := if p1 < 0 ∨ 14 ≤ (p1).toNatClampNeg then none else (some ((w_f &&& (((1 : Int32) <<< (p1 &&& 31)) ^^^ (-1))), (upd w_ds (p1).toNatClampNeg 0)))
/-! X3_setDefinition -/
def M_X3_setDefinition (w_f : Int32) (w_ds : Nat → Int32) (p1 : Int32) (p2 : Int32) : Option (Int32 × (Nat → Int32)) := if p1 < 0 ∨ 14 ≤ (p1).toNatClampNeg then none else (some ((w_f ||| ((1 : Int32) <<< (p1 &&& 31))), (upd w_ds (p1).toNatClampNeg p2)))
/-! X3_resize -/
def L_X3_resize_46 (K46 : Int32 → Int32 → (Nat → Int32) → (Nat → Int32) → Option (Int32 × Int32 × Int32 × (Nat → Int32) × (Nat → Int32))) : Nat → Int32 → Int32 → (Nat → Int32) → (Nat → Int32) → Option (Int32 × Int32 × Int32 × (Nat → Int32) × (Nat → Int32))
  | 0, _, _, _, _ => none
  | k46 + 1, v2_46, w_f_46, w_cs_46, w_ds_46 => if 14 ≤ v2_46 then (K46 v2_46 w_f_46 w_cs_46 w_ds_46) else ((M_X3_makeBare w_f_46 w_ds_46 v2_46).bind (fun q54 => if v2_46 < 0 ∨ 14 ≤ (v2_46).toNatClampNeg then none else (L_X3_resize_46 K46 k46 (v2_46 + 1) q54.1 (upd w_cs_46 (v2_46).toNatClampNeg 1) q54.2)))

def L_X3_resize_20 (p1 : Int32) (K20 : Int32 → (Nat → Int32) → Option (Int32 × Int32 × Int32 × (Nat → Int32) × (Nat → Int32))) : Nat → Int32 → (Nat → Int32) → Option (Int32 × Int32 × Int32 × (Nat → Int32) × (Nat → Int32))
  | 0, _, _ => none
  | k20 + 1, v2_20, w_ds_20 => if p1 ≤ v2_20 then (K20 v2_20 w_ds_20) else (if v2_20 < 0 ∨ 14 ≤ (v2_20).toNatClampNeg then none else ((M_X3_all p1).bind (fun q33 => if v2_20 < 0 ∨ 14 ≤ (v2_20).toNatClampNeg then none else (L_X3_resize_20 p1 K20 k20 (v2_20 + 1) (upd w_ds_20 (v2_20).toNatClampNeg ((w_ds_20 (v2_20).toNatClampNeg) &&& q33))))))

def M_X3_resize (w_k : Int32) (w_f : Int32) (w_cs : Nat → Int32) (w_ds : Nat → Int32) (p1 : Int32) : Option (Int32 × Int32 × Int32 × (Nat → Int32) × (Nat → Int32)) := (M_X3_all p1).bind (fun q11 => L_X3_resize_20 p1 (fun (v2_20 : Int32) (w_ds_20 : Nat → Int32) => L_X3_resize_46 (fun (v2_46 : Int32) (w_f_46 : Int32) (w_cs_46 : Nat → Int32) (w_ds_46 : Nat → Int32) => some (p1, (w_k &&& q11), w_f_46, w_cs_46, w_ds_46)) 40 p1 w_f w_cs w_ds_20) 40 0 w_ds)
/-! X3_copyFrom -/
def L_X3_copyFrom_26 (o_cs : Nat → Int32) (o_ds : Nat → Int32) (K26 : Int32 → (Nat → Int32) → (Nat → Int32) → Option (Int32 × Int32 × Int32 × (Nat → Int32) × (Nat → Int32))) : Nat → Int32 → (Nat → Int32) → (Nat → Int32) → Option (Int32 × Int32 × Int32 × (Nat → Int32) × (Nat → Int32))
  | 0, _, _, _ => none
  | k26 + 1, v2_26, w_cs_26, w_ds_26 => if 14 ≤ v2_26 then (K26 v2_26 w_cs_26 w_ds_26) else (if v2_26 < 0 ∨ 14 ≤ (v2_26).toNatClampNeg then none else (if v2_26 < 0 ∨ 14 ≤ (v2_26).toNatClampNeg then none else (if v2_26 < 0 ∨ 14 ≤ (v2_26).toNatClampNeg then none else (if v2_26 < 0 ∨ 14 ≤ (v2_26).toNatClampNeg then none else (L_X3_copyFrom_26 o_cs o_ds K26 k26 (v2_26 + 1) (upd w_cs_26 (v2_26).toNatClampNeg (o_cs (v2_26).toNatClampNeg)) (upd w_ds_26 (v2_26).toNatClampNeg (o_ds (v2_26).toNatClampNeg)))))))

def M_X3_copyFrom (w_cs : Nat → Int32) (w_ds : Nat → Int32) (o_t : Int32) (o_k : Int32) (o_f : Int32) (o_cs : Nat → Int32) (o_ds : Nat → Int32) : Option (Int32 × Int32 × Int32 × (Nat → Int32) × (Nat → Int32)) := L_X3_copyFrom_26 o_cs o_ds (fun (v2_26 : Int32) (w_cs_26 : Nat → Int32) (w_ds_26 : Nat → Int32) => some (o_t, o_k, o_f, w_cs_26, w_ds_26)) 40 0 w_cs w_ds
/-! X3_usersOf -/
def L_X3_usersOf_4 (w_t : Int32) (w_ds : Nat → Int32) (p1 : Int32) (K4 : Int32 → Int32 → Option (Int32)) : Nat → Int32 → Int32 → Option (Int32)
  | 0, _, _ => none
  | k4 + 1, v3_4, v2_4 => if w_t ≤ v3_4 then (K4 v3_4 v2_4) else (if v3_4 < 0 ∨ 14 ≤ (v3_4).toNatClampNeg then none else (L_X3_usersOf_4 w_t w_ds p1 K4 k4 (v3_4 + 1) (v2_4 ||| ((((w_ds (v3_4).toNatClampNeg) >>> (p1 &&& 31)) &&& 1) <<< (v3_4 &&& 31)))))

def M_X3_usersOf (w_t : Int32) (w_ds : Nat → Int32) (p1 : Int32) : Option (Int32) := L_X3_usersOf_4 w_t w_ds p1 (fun (v3_4 : Int32) (v2_4 : Int32) => some v2_4) 40 0 0
/-! X3_used -/
def L_X3_used_4 (w_t : Int32) (w_ds : Nat → Int32) (K4 : Int32 → Int32 → Option (Int32)) : Nat → Int32 → Int32 → Option (Int32)
  | 0, _, _ => none
  | k4 + 1, v2_4, v1_4 => if w_t ≤ v2_4 then (K4 v2_4 v1_4) else (if v2_4 < 0 ∨ 14 ≤ (v2_4).toNatClampNeg then none else (L_X3_used_4 w_t w_ds K4 k4 (v2_4 + 1) (v1_4 ||| (w_ds (v2_4).toNatClampNeg))))

def M_X3_used (w_t : Int32) (w_ds : Nat → Int32) : Option (Int32) := L_X3_used_4 w_t w_ds (fun (v2_4 : Int32) (v1_4 : Int32) => some v1_4) 40 0 0
/-! X3_howOftenUsed -/
def L_X3_howOftenUsed_4 (w_t : Int32) (w_ds : Nat → Int32) (K4 : Int32 → Int32 → Option (Int32)) : Nat → Int32 → Int32 → Option (Int32)
  | 0, _, _ => none
  | k4 + 1, v2_4, v1_4 => if w_t ≤ v2_4 then (K4 v2_4 v1_4) else (if v2_4 < 0 ∨ 14 ≤ (v2_4).toNatClampNeg then none else ((M_J6_bitCount_0f7a4 (w_ds (v2_4).toNatClampNeg)).bind (fun q19 => L_X3_howOftenUsed_4 w_t w_ds K4 k4 (v2_4 + 1) (v1_4 + q19))))

def M_X3_howOftenUsed (w_t : Int32) (w_ds : Nat → Int32) : Option (Int32) := L_X3_howOftenUsed_4 w_t w_ds (fun (v2_4 : Int32) (v1_4 : Int32) => some v1_4) 40 0 0
/-! X3_costOf -/
def L_X3_costOf_4 (w_t : Int32) (w_cs : Nat → Int32) (p1 : Int32) (K4 : Int32 → Int32 → Option (Int32)) : Nat → Int32 → Int32 → Option (Int32)
  | 0, _, _ => none
  | k4 + 1, v3_4, v2_4 => if w_t ≤ v3_4 then (K4 v3_4 v2_4) else (if ((p1 >>> (v3_4 &&& 31)) &&& 1) = 0 then (L_X3_costOf_4 w_t w_cs p1 K4 k4 (v3_4 + 1) v2_4) else (if v3_4 < 0 ∨ 14 ≤ (v3_4).toNatClampNeg then none else (L_X3_costOf_4 w_t w_cs p1 K4 k4 (v3_4 + 1) (v2_4 + (w_cs (v3_4).toNatClampNeg)))))

def M_X3_costOf (w_t : Int32) (w_cs : Nat → Int32) (p1 : Int32) : Option (Int32) := L_X3_costOf_4 w_t w_cs p1 (fun (v3_4 : Int32) (v2_4 : Int32) => some v2_4) 40 0 0
/-! X3_nextDay -/
def L_X3_nextDay_4 (w_t : Int32) (w_f : Int32) (w_ds : Nat → Int32) (p1 : Int32) (K4 : Int32 → Int32 → Option (Int32)) : Nat → Int32 → Int32 → Option (Int32)
  | 0, _, _ => none
  | k4 + 1, v3_4, v2_4 => if w_t ≤ v3_4 then (K4 v3_4 v2_4) else ((M_X3_isBare w_f v3_4).bind (fun q14 => if q14 = 0 then (if v3_4 < 0 ∨ 14 ≤ (v3_4).toNatClampNeg then none else (if ((w_ds (v3_4).toNatClampNeg) &&& (p1 ^^^ (-1))) = 0 then (L_X3_nextDay_4 w_t w_f w_ds p1 K4 k4 (v3_4 + 1) (v2_4 ||| ((1 : Int32) <<< (v3_4 &&& 31)))) else (L_X3_nextDay_4 w_t w_f w_ds p1 K4 k4 (v3_4 + 1) v2_4))) else (L_X3_nextDay_4 w_t w_f w_ds p1 K4 k4 (v3_4 + 1) v2_4)))

def M_X3_nextDay (w_t : Int32) (w_f : Int32) (w_ds : Nat → Int32) (p1 : Int32) : Option (Int32) := L_X3_nextDay_4 w_t w_f w_ds p1 (fun (v3_4 : Int32) (v2_4 : Int32) => some v2_4) 40 0 p1
/-! X3_groundedBy -/
def L_X3_groundedBy_4 (w_t : Int32) (w_f : Int32) (w_ds : Nat → Int32) (K4 : Int32 → Int32 → Option (Int32)) : Nat → Int32 → Int32 → Option (Int32)
  | 0, _, _ => none
  | k4 + 1, v3_4, v2_4 => if w_t ≤ v3_4 then (K4 v3_4 v2_4) else ((M_X3_nextDay w_t w_f w_ds v2_4).bind (fun q14 => L_X3_groundedBy_4 w_t w_f w_ds K4 k4 (v3_4 + 1) q14))

def M_X3_groundedBy (w_t : Int32) (w_f : Int32) (w_ds : Nat → Int32) (p1 : Int32) : Option (Int32) := L_X3_groundedBy_4 w_t w_f w_ds (fun (v3_4 : Int32) (v2_4 : Int32) => some v2_4) 40 0 p1
/-! X3_daysTill -/
def L_X3_daysTill_5 (w_t : Int32) (w_f : Int32) (w_ds : Nat → Int32) (p1 : Int32) (K5 : Int32 → Int32 → Option (Int32)) : Nat → Int32 → Int32 → Option (Int32)
  | 0, _, _ => none
  | k5 + 1, v4_5, v3_5 => if w_t < v4_5 then (K5 v4_5 v3_5) else (if (p1 &&& (v3_5 ^^^ (-1))) = 0 then (some v4_5) else ((M_X3_nextDay w_t w_f w_ds v3_5).bind (fun q27 => L_X3_daysTill_5 w_t w_f w_ds p1 K5 k5 (v4_5 + 1) q27)))

def M_X3_daysTill (w_t : Int32) (w_f : Int32) (w_ds : Nat → Int32) (p1 : Int32) (p2 : Int32) : Option (Int32) := L_X3_daysTill_5 w_t w_f w_ds p1 (fun (v4_5 : Int32) (v3_5 : Int32) => some (-6)) 40 0 p2
/-! X3_usedByAny -/
def L_X3_usedByAny_4 (w_t : Int32) (w_ds : Nat → Int32) (p1 : Int32) (K4 : Int32 → Int32 → Option (Int32)) : Nat → Int32 → Int32 → Option (Int32)
  | 0, _, _ => none
  | k4 + 1, v3_4, v2_4 => if w_t ≤ v3_4 then (K4 v3_4 v2_4) else (if ((p1 >>> (v3_4 &&& 31)) &&& 1) = 0 then (L_X3_usedByAny_4 w_t w_ds p1 K4 k4 (v3_4 + 1) v2_4) else (if v3_4 < 0 ∨ 14 ≤ (v3_4).toNatClampNeg then none else (L_X3_usedByAny_4 w_t w_ds p1 K4 k4 (v3_4 + 1) (v2_4 ||| (w_ds (v3_4).toNatClampNeg)))))

def M_X3_usedByAny (w_t : Int32) (w_ds : Nat → Int32) (p1 : Int32) : Option (Int32) := L_X3_usedByAny_4 w_t w_ds p1 (fun (v3_4 : Int32) (v2_4 : Int32) => some v2_4) 40 0 0
/-! X3_stepsBetween -/
def L_X3_stepsBetween_10 (w_t : Int32) (w_ds : Nat → Int32) (p2 : Int32) (K10 : Int32 → Int32 → Option (Int32)) : Nat → Int32 → Int32 → Option (Int32)
  | 0, _, _ => none
  | k10 + 1, v4_10, v3_10 => if w_t < v4_10 then (K10 v4_10 v3_10) else (if ((v3_10 >>> (p2 &&& 31)) &&& 1) = 0 then ((M_X3_usedByAny w_t w_ds v3_10).bind (fun q33 => L_X3_stepsBetween_10 w_t w_ds p2 K10 k10 (v4_10 + 1) (v3_10 ||| q33))) else (some v4_10))

def M_X3_stepsBetween (w_t : Int32) (w_ds : Nat → Int32) (p1 : Int32) (p2 : Int32) : Option (Int32) := if p1 < 0 ∨ 14 ≤ (p1).toNatClampNeg then none else (L_X3_stepsBetween_10 w_t w_ds p2 (fun (v4_10 : Int32) (v3_10 : Int32) => some (-6)) 40 1 (w_ds (p1).toNatClampNeg))
/-! X2_wordBit -/
def M_X2_wordBit (p0 : Int32) (p1 : Int32) : Option (Int32) := if (p0 - 97) < 0 then (some 0) else (if p1 ≤ (p0 - 97) then (some 0) else (some ((1 : Int32) <<< ((p0 - 97) &&& 31))))
/-! X2_append -/
def M_X2_append (p1 : Int32) (t_sg : Nat → Int32) (t_ln : Int32) : Option (Int32 × (Nat → Int32)) := if 20 ≤ t_ln then (some (t_ln, t_sg)) else (if t_ln < 0 ∨ 20 ≤ (t_ln).toNatClampNeg then none else (some ((t_ln + 1), (upd t_sg (t_ln).toNatClampNeg p1))))
/-! X2_tellsBare -/
def M_X2_tellsBare (t_sg : Nat → Int32) : Option (Int32) := if (t_sg (1 : Int32).toNatClampNeg) = 46 then (some 1) else (some 0)
/-! X2_faultPlace -/
def L_X2_faultPlace_80 (p1 : Int32) (t_sg : Nat → Int32) (t_ln : Int32) (K80 : Int32 → Int32 → Option (Int32)) : Nat → Int32 → Int32 → Option (Int32)
  | 0, _, _ => none
  | k80 + 1, v3_80, v2_80 => if t_ln ≤ v3_80 then (K80 v3_80 v2_80) else (if v3_80 < 0 ∨ 20 ≤ (v3_80).toNatClampNeg then none else ((M_X2_wordBit (t_sg (v3_80).toNatClampNeg) p1).bind (fun q95 => if q95 = 0 then (some v3_80) else (if (v2_80 &&& q95) = 0 then (L_X2_faultPlace_80 p1 t_sg t_ln K80 k80 (v3_80 + 1) (v2_80 ||| q95)) else (some v3_80)))))

def M_X2_faultPlace (p1 : Int32) (t_sg : Nat → Int32) (t_ln : Int32) : Option (Int32) := if t_ln = 0 then (some 0) else ((M_X2_wordBit (t_sg (0 : Int32).toNatClampNeg) p1).bind (fun q14 => if q14 = 0 then (some 0) else (if t_ln = 1 then (some 1) else (if (t_sg (1 : Int32).toNatClampNeg) = 58 then ((M_X2_tellsBare t_sg).bind (fun q55 => if q55 = 0 then (L_X2_faultPlace_80 p1 t_sg t_ln (fun (v3_80 : Int32) (v2_80 : Int32) => some (-6)) 40 2 0) else (if t_ln = 2 then (some (-6)) else (some 2)))) else (if (t_sg (1 : Int32).toNatClampNeg) = 46 then ((M_X2_tellsBare t_sg).bind (fun q55 => if q55 = 0 then (L_X2_faultPlace_80 p1 t_sg t_ln (fun (v3_80 : Int32) (v2_80 : Int32) => some (-6)) 40 2 0) else (if t_ln = 2 then (some (-6)) else (some 2)))) else (some 1))))))
/-! X2_toldWord -/
def M_X2_toldWord (t_sg : Nat → Int32) : Option (Int32) := some ((t_sg (0 : Int32).toNatClampNeg) - 97)
/-! X2_toldSet -/
def L_X2_toldSet_4 (t_sg : Nat → Int32) (t_ln : Int32) (K4 : Int32 → Int32 → Option (Int32)) : Nat → Int32 → Int32 → Option (Int32)
  | 0, _, _ => none
  | k4 + 1, v2_4, v1_4 => if t_ln ≤ v2_4 then (K4 v2_4 v1_4) else (if v2_4 < 0 ∨ 20 ≤ (v2_4).toNatClampNeg then none else ((M_X2_wordBit (t_sg (v2_4).toNatClampNeg) 14).bind (fun q21 => L_X2_toldSet_4 t_sg t_ln K4 k4 (v2_4 + 1) (v1_4 ||| q21))))

def M_X2_toldSet (t_sg : Nat → Int32) (t_ln : Int32) : Option (Int32) := L_X2_toldSet_4 t_sg t_ln (fun (v2_4 : Int32) (v1_4 : Int32) => some v1_4) 40 2 0
/-! X0_trace -/
def L_X0_trace_48 (w_t : Int32) (v2_38 : Int32) (K48 : Int32 → (Nat → Int32) → Option (Int32 × Int32 × (Nat → Int32))) : Nat → Int32 → (Nat → Int32) → Option (Int32 × Int32 × (Nat → Int32))
  | 0, _, _ => none
  | k48 + 1, v3_48, r_rc_48 => if w_t ≤ v3_48 then (K48 v3_48 r_rc_48) else (if v3_48 < 0 ∨ 14 ≤ (v3_48).toNatClampNeg then none else (if (((r_rc_48 (v3_48).toNatClampNeg) >>> (v2_38 &&& 31)) &&& 1) = 0 then (L_X0_trace_48 w_t v2_38 K48 k48 (v3_48 + 1) r_rc_48) else (if v3_48 < 0 ∨ 14 ≤ (v3_48).toNatClampNeg then none else (if v2_38 < 0 ∨ 14 ≤ (v2_38).toNatClampNeg then none else (if v3_48 < 0 ∨ 14 ≤ (v3_48).toNatClampNeg then none else (L_X0_trace_48 w_t v2_38 K48 k48 (v3_48 + 1) (upd r_rc_48 (v3_48).toNatClampNeg ((r_rc_48 (v3_48).toNatClampNeg) ||| (r_rc_48 (v2_38).toNatClampNeg)))))))))

def L_X0_trace_103 (w_t : Int32) (r_rc_38 : Nat → Int32) (K103 : Int32 → Int32 → Option (Int32 × Int32 × (Nat → Int32))) : Nat → Int32 → Int32 → Option (Int32 × Int32 × (Nat → Int32))
  | 0, _, _ => none
  | k103 + 1, v2_103, r_ir_103 => if w_t ≤ v2_103 then (K103 v2_103 r_ir_103) else (if v2_103 < 0 ∨ 14 ≤ (v2_103).toNatClampNeg then none else (L_X0_trace_103 w_t r_rc_38 K103 k103 (v2_103 + 1) (r_ir_103 ||| ((r_rc_38 (v2_103).toNatClampNeg) &&& ((1 : Int32) <<< (v2_103 &&& 31))))))

def L_X0_trace_38 (w_t : Int32) (K38 : Int32 → (Nat → Int32) → Option (Int32 × Int32 × (Nat → Int32))) : Nat → Int32 → (Nat → Int32) → Option (Int32 × Int32 × (Nat → Int32))
  | 0, _, _ => none
  | k38 + 1, v2_38, r_rc_38 => if w_t ≤ v2_38 then (K38 v2_38 r_rc_38) else (L_X0_trace_48 w_t v2_38 (fun (v3_48 : Int32) (r_rc_48 : Nat → Int32) => L_X0_trace_38 w_t K38 k38 (v2_38 + 1) r_rc_48) 40 0 r_rc_38)

def L_X0_trace_10 (w_t : Int32) (w_ds : Nat → Int32) (K10 : Int32 → (Nat → Int32) → Option (Int32 × Int32 × (Nat → Int32))) : Nat → Int32 → (Nat → Int32) → Option (Int32 × Int32 × (Nat → Int32))
  | 0, _, _ => none
  | k10 + 1, v2_10, r_rc_10 => if w_t ≤ v2_10 then (K10 v2_10 r_rc_10) else (if v2_10 < 0 ∨ 14 ≤ (v2_10).toNatClampNeg then none else (if v2_10 < 0 ∨ 14 ≤ (v2_10).toNatClampNeg then none else (L_X0_trace_10 w_t w_ds K10 k10 (v2_10 + 1) (upd r_rc_10 (v2_10).toNatClampNeg (w_ds (v2_10).toNatClampNeg)))))

def M_X0_trace (w_t : Int32) (w_ds : Nat → Int32) (r_rc : Nat → Int32) : Option (Int32 × Int32 × (Nat → Int32)) := L_X0_trace_10 w_t w_ds (fun (v2_10 : Int32) (r_rc_10 : Nat → Int32) => L_X0_trace_38 w_t (fun (v2_38 : Int32) (r_rc_38 : Nat → Int32) => L_X0_trace_103 w_t r_rc_38 (fun (v2_103 : Int32) (r_ir_103 : Int32) => some (w_t, r_ir_103, r_rc_38)) 40 0 0) 40 0 r_rc_10) 40 0 r_rc
/-! X0_ringOf -/
def L_X0_ringOf_4 (p1 : Int32) (r_t : Int32) (r_rc : Nat → Int32) (K4 : Int32 → Int32 → Option (Int32)) : Nat → Int32 → Int32 → Option (Int32)
  | 0, _, _ => none
  | k4 + 1, v3_4, v2_4 => if r_t ≤ v3_4 then (K4 v3_4 v2_4) else (if p1 < 0 ∨ 14 ≤ (p1).toNatClampNeg then none else (if (((r_rc (p1).toNatClampNeg) >>> (v3_4 &&& 31)) &&& 1) = 0 then (L_X0_ringOf_4 p1 r_t r_rc K4 k4 (v3_4 + 1) v2_4) else (if v3_4 < 0 ∨ 14 ≤ (v3_4).toNatClampNeg then none else (if (((r_rc (v3_4).toNatClampNeg) >>> (p1 &&& 31)) &&& 1) = 0 then (L_X0_ringOf_4 p1 r_t r_rc K4 k4 (v3_4 + 1) v2_4) else (L_X0_ringOf_4 p1 r_t r_rc K4 k4 (v3_4 + 1) (v2_4 ||| ((1 : Int32) <<< (v3_4 &&& 31))))))))

def M_X0_ringOf (p1 : Int32) (r_t : Int32) (r_rc : Nat → Int32) : Option (Int32) := L_X0_ringOf_4 p1 r_t r_rc (fun (v3_4 : Int32) (v2_4 : Int32) => some v2_4) 40 0 0
/-! X0_howMany -/
def L_X0_howMany_9 (r_t : Int32) (r_rc : Nat → Int32) (K9 : Int32 → Int32 → Int32 → Option (Int32)) : Nat → Int32 → Int32 → Int32 → Option (Int32)
  | 0, _, _, _ => none
  | k9 + 1, v3_9, v2_9, v1_9 => if r_t ≤ v3_9 then (K9 v3_9 v2_9 v1_9) else (if ((v2_9 >>> (v3_9 &&& 31)) &&& 1) = 0 then (L_X0_howMany_9 r_t r_rc K9 k9 (v3_9 + 1) v2_9 v1_9) else ((M_X0_ringOf v3_9 r_t r_rc).bind (fun q28 => L_X0_howMany_9 r_t r_rc K9 k9 (v3_9 + 1) (v2_9 &&& (q28 ^^^ (-1))) (v1_9 + 1))))

def M_X0_howMany (r_t : Int32) (r_rc : Nat → Int32) (r_ir : Int32) : Option (Int32) := L_X0_howMany_9 r_t r_rc (fun (v3_9 : Int32) (v2_9 : Int32) (v1_9 : Int32) => some v1_9) 40 0 r_ir 0
/-! X0_numbered -/
def L_X0_numbered_10 (p1 : Int32) (r_t : Int32) (r_rc : Nat → Int32) (K10 : Int32 → Int32 → Int32 → Option (Int32)) : Nat → Int32 → Int32 → Int32 → Option (Int32)
  | 0, _, _, _ => none
  | k10 + 1, v4_10, v3_10, v2_10 => if r_t ≤ v4_10 then (K10 v4_10 v3_10 v2_10) else (if ((v3_10 >>> (v4_10 &&& 31)) &&& 1) = 0 then (L_X0_numbered_10 p1 r_t r_rc K10 k10 (v4_10 + 1) v3_10 v2_10) else ((M_X0_ringOf v4_10 r_t r_rc).bind (fun q31 => if v2_10 = p1 then (some q31) else (L_X0_numbered_10 p1 r_t r_rc K10 k10 (v4_10 + 1) (v3_10 &&& (q31 ^^^ (-1))) (v2_10 + 1)))))

def M_X0_numbered (p1 : Int32) (r_t : Int32) (r_rc : Nat → Int32) (r_ir : Int32) : Option (Int32) := L_X0_numbered_10 p1 r_t r_rc (fun (v4_10 : Int32) (v3_10 : Int32) (v2_10 : Int32) => some (-6)) 40 0 r_ir 0
/-! X0_before -/
def L_X0_before_4 (r_t : Int32) (r_rc : Nat → Int32) (r_ir : Int32) (K4 : Int32 → Int32 → Option (Int32)) : Nat → Int32 → Int32 → Option (Int32)
  | 0, _, _ => none
  | k4 + 1, v2_4, v1_4 => if r_t ≤ v2_4 then (K4 v2_4 v1_4) else (if ((r_ir >>> (v2_4 &&& 31)) &&& 1) = 0 then (L_X0_before_4 r_t r_rc r_ir K4 k4 (v2_4 + 1) v1_4) else (if v2_4 < 0 ∨ 14 ≤ (v2_4).toNatClampNeg then none else (L_X0_before_4 r_t r_rc r_ir K4 k4 (v2_4 + 1) (v1_4 ||| (r_rc (v2_4).toNatClampNeg)))))

def M_X0_before (r_t : Int32) (r_rc : Nat → Int32) (r_ir : Int32) : Option (Int32) := L_X0_before_4 r_t r_rc r_ir (fun (v2_4 : Int32) (v1_4 : Int32) => some (v1_4 &&& (r_ir ^^^ (-1)))) 40 0 0
/-! X0_behind -/
def L_X0_behind_4 (r_t : Int32) (r_rc : Nat → Int32) (r_ir : Int32) (K4 : Int32 → Int32 → Option (Int32)) : Nat → Int32 → Int32 → Option (Int32)
  | 0, _, _ => none
  | k4 + 1, v2_4, v1_4 => if r_t ≤ v2_4 then (K4 v2_4 v1_4) else (if v2_4 < 0 ∨ 14 ≤ (v2_4).toNatClampNeg then none else (if ((r_rc (v2_4).toNatClampNeg) &&& r_ir) = 0 then (L_X0_behind_4 r_t r_rc r_ir K4 k4 (v2_4 + 1) v1_4) else (L_X0_behind_4 r_t r_rc r_ir K4 k4 (v2_4 + 1) (v1_4 ||| ((1 : Int32) <<< (v2_4 &&& 31))))))

def M_X0_behind (r_t : Int32) (r_rc : Nat → Int32) (r_ir : Int32) : Option (Int32) := L_X0_behind_4 r_t r_rc r_ir (fun (v2_4 : Int32) (v1_4 : Int32) => some (v1_4 &&& (r_ir ^^^ (-1)))) 40 0 0
/-! X1_nextSubset -/
def M_X1_nextSubset (p0 : Int32) (p1 : Int32) : Option (Int32) := some ((p0 - p1) &&& p1)
/-! X1_isFree -/
def M_X1_isFree (p1 : Int32) (e_cf : Nat → Int64) : Option (Int32) := if (p1 / 64) < 0 then (some 0) else (if 256 ≤ (p1 / 64) then (some 0) else (if (p1 / 64) < 0 ∨ 256 ≤ ((p1 / 64)).toNatClampNeg then none else (if (lg_cmp (((e_cf ((p1 / 64)).toNatClampNeg) >>> (Int32.toInt64 (p1 - p1 / 64 * 64) &&& 63)) &&& 1) 0) = 0 then (some 0) else (some 1))))
/-! X1_mark -/
def M_X1_mark (p1 : Int32) (p2 : Int32) (e_cf : Nat → Int64) : Option ((Nat → Int64)) := if (p1 / 64) < 0 then (some e_cf) else (if 256 ≤ (p1 / 64) then (some e_cf) else (if p2 = 0 then (if (p1 / 64) < 0 ∨ 256 ≤ ((p1 / 64)).toNatClampNeg then none else (if (p1 / 64) < 0 ∨ 256 ≤ ((p1 / 64)).toNatClampNeg then none else (some (vp_updL e_cf ((p1 / 64)).toNatClampNeg ((e_cf ((p1 / 64)).toNatClampNeg) &&& (((1 : Int64) <<< (Int32.toInt64 (p1 - p1 / 64 * 64) &&& 63)) ^^^ (-1))))))) else (if (p1 / 64) < 0 ∨ 256 ≤ ((p1 / 64)).toNatClampNeg then none else (if (p1 / 64) < 0 ∨ 256 ≤ ((p1 / 64)).toNatClampNeg then none else (some (vp_updL e_cf ((p1 / 64)).toNatClampNeg ((e_cf ((p1 / 64)).toNatClampNeg) ||| ((1 : Int64) <<< (Int32.toInt64 (p1 - p1 / 64 * 64) &&& 63)))))))))
/-! X1_isFreeWithoutOne -/
def L_X1_isFreeWithoutOne_2 (w_t : Int32) (w_ds : Nat → Int32) (p2 : Int32) (e_cf : Nat → Int64) (K2 : Int32 → Option (Int32)) : Nat → Int32 → Option (Int32)
  | 0, _ => none
  | k2 + 1, v3_2 => if w_t ≤ v3_2 then (K2 v3_2) else (if ((p2 >>> (v3_2 &&& 31)) &&& 1) = 0 then (L_X1_isFreeWithoutOne_2 w_t w_ds p2 e_cf K2 k2 (v3_2 + 1)) else (if v3_2 < 0 ∨ 14 ≤ (v3_2).toNatClampNeg then none else (if ((w_ds (v3_2).toNatClampNeg) &&& p2) = 0 then ((M_X1_isFree (p2 &&& (((1 : Int32) <<< (v3_2 &&& 31)) ^^^ (-1))) e_cf).bind (fun q37 => if q37 = 0 ∨ q37 = 1 then some q37 else none)) else (L_X1_isFreeWithoutOne_2 w_t w_ds p2 e_cf K2 k2 (v3_2 + 1)))))

def M_X1_isFreeWithoutOne (w_t : Int32) (w_ds : Nat → Int32) (p2 : Int32) (e_cf : Nat → Int64) : Option (Int32) := L_X1_isFreeWithoutOne_2 w_t w_ds p2 e_cf (fun (v3_2 : Int32) => some 0) 40 0
/-! X1_find -/
def L_X1_find_39 (w_t : Int32) (w_ds : Nat → Int32) (r_ir : Int32) (q28 : Int32) (K39 : Int32 → Int32 → (Nat → Int64) → Option (Int32 × Int32 × (Nat → Int64))) : Nat → Int32 → Int32 → (Nat → Int64) → Option (Int32 × Int32 × (Nat → Int64))
  | 0, _, _, _ => none
  | k39 + 1, v5_39, v4_39, e_cf_39 => if ((1 : Int32) <<< (q28 &&& 31)) ≤ v5_39 then (K39 v5_39 v4_39 e_cf_39) else (if v4_39 = 0 then ((M_X1_mark v4_39 1 e_cf_39).bind (fun q68 => (M_X1_nextSubset v4_39 r_ir).bind (fun q77 => L_X1_find_39 w_t w_ds r_ir q28 K39 k39 (v5_39 + 1) q77 q68))) else ((M_X1_isFreeWithoutOne w_t w_ds v4_39 e_cf_39).bind (fun q57 => if q57 = 0 then ((M_X1_mark v4_39 0 e_cf_39).bind (fun q68 => (M_X1_nextSubset v4_39 r_ir).bind (fun q77 => L_X1_find_39 w_t w_ds r_ir q28 K39 k39 (v5_39 + 1) q77 q68))) else ((M_X1_mark v4_39 1 e_cf_39).bind (fun q68 => (M_X1_nextSubset v4_39 r_ir).bind (fun q77 => L_X1_find_39 w_t w_ds r_ir q28 K39 k39 (v5_39 + 1) q77 q68))))))

def M_X1_find (w_t : Int32) (w_f : Int32) (w_ds : Nat → Int32) (r_ir : Int32) (e_cf : Nat → Int64) : Option (Int32 × Int32 × (Nat → Int64)) := (M_X3_all w_t).bind (fun q2 => (M_J6_bitCount_0f7a4 r_ir).bind (fun q28 => L_X1_find_39 w_t w_ds r_ir q28 (fun (v5_39 : Int32) (v4_39 : Int32) (e_cf_39 : Nat → Int64) => some ((q2 &&& (w_f ^^^ (-1))), r_ir, e_cf_39)) 20000 0 0 e_cf))
/-! X1_cheapest -/
def L_X1_cheapest_34 (w_t : Int32) (w_cs : Nat → Int32) (p2 : Int32) (e_ma : Int32) (e_cf : Nat → Int64) (q22 : Int32) (K34 : Int32 → Int32 → Int32 → Int32 → Option (Int32)) : Nat → Int32 → Int32 → Int32 → Int32 → Option (Int32)
  | 0, _, _, _, _ => none
  | k34 + 1, v8_34, v7_34, v5_34, v4_34 => if ((1 : Int32) <<< (q22 &&& 31)) ≤ v8_34 then (K34 v8_34 v7_34 v5_34 v4_34) else ((M_X1_isFree ((e_ma &&& (p2 ^^^ (-1))) &&& (v7_34 ^^^ (-1))) e_cf).bind (fun q48 => if q48 = 0 then ((M_X1_nextSubset v7_34 (e_ma &&& (p2 ^^^ (-1)))).bind (fun q112 => L_X1_cheapest_34 w_t w_cs p2 e_ma e_cf q22 K34 k34 (v8_34 + 1) q112 v5_34 v4_34)) else ((M_X3_costOf w_t w_cs v7_34).bind (fun q57 => (M_J6_bitCount_0f7a4 v7_34).bind (fun q64 => (M_J6_bitCount_0f7a4 v4_34).bind (fun q69 => if q69 ≤ q64 then (if q57 < v5_34 then ((M_X1_nextSubset v7_34 (e_ma &&& (p2 ^^^ (-1)))).bind (fun q112 => L_X1_cheapest_34 w_t w_cs p2 e_ma e_cf q22 K34 k34 (v8_34 + 1) q112 q57 v7_34)) else (if q57 = v5_34 then ((M_X1_nextSubset v7_34 (e_ma &&& (p2 ^^^ (-1)))).bind (fun q112 => L_X1_cheapest_34 w_t w_cs p2 e_ma e_cf q22 K34 k34 (v8_34 + 1) q112 v5_34 v4_34)) else ((M_X1_nextSubset v7_34 (e_ma &&& (p2 ^^^ (-1)))).bind (fun q112 => L_X1_cheapest_34 w_t w_cs p2 e_ma e_cf q22 K34 k34 (v8_34 + 1) q112 v5_34 v4_34)))) else (if q57 < v5_34 then ((M_X1_nextSubset v7_34 (e_ma &&& (p2 ^^^ (-1)))).bind (fun q112 => L_X1_cheapest_34 w_t w_cs p2 e_ma e_cf q22 K34 k34 (v8_34 + 1) q112 q57 v7_34)) else (if q57 = v5_34 then ((M_X1_nextSubset v7_34 (e_ma &&& (p2 ^^^ (-1)))).bind (fun q112 => L_X1_cheapest_34 w_t w_cs p2 e_ma e_cf q22 K34 k34 (v8_34 + 1) q112 q57 v7_34)) else ((M_X1_nextSubset v7_34 (e_ma &&& (p2 ^^^ (-1)))).bind (fun q112 => L_X1_cheapest_34 w_t w_cs p2 e_ma e_cf q22 K34 k34 (v8_34 + 1) q112 v5_34 v4_34))))))))))

def M_X1_cheapest (w_t : Int32) (w_cs : Nat → Int32) (p2 : Int32) (e_mu : Int32) (e_ma : Int32) (e_cf : Nat → Int64) : Option (Int32) := (M_X3_costOf w_t w_cs (e_ma &&& (p2 ^^^ (-1)))).bind (fun q15 => (M_J6_bitCount_0f7a4 (e_ma &&& (p2 ^^^ (-1)))).bind (fun q22 => L_X1_cheapest_34 w_t w_cs p2 e_ma e_cf q22 (fun (v8_34 : Int32) (v7_34 : Int32) (v5_34 : Int32) (v4_34 : Int32) => some (v4_34 ||| (e_mu &&& (p2 ^^^ (-1))))) 20000 0 0 q15 (e_ma &&& (p2 ^^^ (-1)))))
/-! X1_isLeast -/
def L_X1_isLeast_21 (p1 : Int32) (e_ma : Int32) (e_cf : Nat → Int64) (K21 : Int32 → Option (Int32)) : Nat → Int32 → Option (Int32)
  | 0, _ => none
  | k21 + 1, v3_21 => if 14 ≤ v3_21 then (K21 v3_21) else (if ((p1 >>> (v3_21 &&& 31)) &&& 1) = 0 then (L_X1_isLeast_21 p1 e_ma e_cf K21 k21 (v3_21 + 1)) else ((M_X1_isFree ((e_ma &&& (p1 ^^^ (-1))) ||| ((1 : Int32) <<< (v3_21 &&& 31))) e_cf).bind (fun q41 => if q41 = 0 then (L_X1_isLeast_21 p1 e_ma e_cf K21 k21 (v3_21 + 1)) else (some 0))))

def M_X1_isLeast (p1 : Int32) (e_ma : Int32) (e_cf : Nat → Int64) : Option (Int32) := (M_X1_isFree (e_ma &&& (p1 ^^^ (-1))) e_cf).bind (fun q11 => if q11 = 0 then (some 0) else (L_X1_isLeast_21 p1 e_ma e_cf (fun (v3_21 : Int32) => some 1) 40 0))
/-! X1_leastWith -/
def L_X1_leastWith_18 (p1 : Int32) (e_mu : Int32) (e_ma : Int32) (e_cf : Nat → Int64) (q7 : Int32) (K18 : Int32 → Int32 → Int32 → Option (Int32)) : Nat → Int32 → Int32 → Int32 → Option (Int32)
  | 0, _, _, _ => none
  | k18 + 1, v5_18, v4_18, v2_18 => if ((1 : Int32) <<< (q7 &&& 31)) ≤ v5_18 then (K18 v5_18 v4_18 v2_18) else (if (p1 &&& ((v4_18 ||| e_mu) ^^^ (-1))) = 0 then ((M_X1_isLeast v4_18 e_ma e_cf).bind (fun q41 => if q41 = 0 then ((M_X1_nextSubset v4_18 e_ma).bind (fun q56 => L_X1_leastWith_18 p1 e_mu e_ma e_cf q7 K18 k18 (v5_18 + 1) q56 v2_18)) else ((M_X1_nextSubset v4_18 e_ma).bind (fun q56 => L_X1_leastWith_18 p1 e_mu e_ma e_cf q7 K18 k18 (v5_18 + 1) q56 (v2_18 + 1))))) else ((M_X1_nextSubset v4_18 e_ma).bind (fun q56 => L_X1_leastWith_18 p1 e_mu e_ma e_cf q7 K18 k18 (v5_18 + 1) q56 v2_18)))

def M_X1_leastWith (p1 : Int32) (e_mu : Int32) (e_ma : Int32) (e_cf : Nat → Int64) : Option (Int32) := (M_J6_bitCount_0f7a4 e_ma).bind (fun q7 => L_X1_leastWith_18 p1 e_mu e_ma e_cf q7 (fun (v5_18 : Int32) (v4_18 : Int32) (v2_18 : Int32) => some v2_18) 20000 0 0 0)
/-! X1_greatestLeast -/
def L_X1_greatestLeast_17 (e_mu : Int32) (e_ma : Int32) (e_cf : Nat → Int64) (q7 : Int32) (K17 : Int32 → Int32 → Int32 → Option (Int32)) : Nat → Int32 → Int32 → Int32 → Option (Int32)
  | 0, _, _, _ => none
  | k17 + 1, v4_17, v3_17, v1_17 => if ((1 : Int32) <<< (q7 &&& 31)) ≤ v4_17 then (K17 v4_17 v3_17 v1_17) else ((M_J6_bitCount_0f7a4 (v3_17 ||| e_mu)).bind (fun q29 => if q29 ≤ v1_17 then ((M_X1_nextSubset v3_17 e_ma).bind (fun q56 => L_X1_greatestLeast_17 e_mu e_ma e_cf q7 K17 k17 (v4_17 + 1) q56 v1_17)) else ((M_X1_isLeast v3_17 e_ma e_cf).bind (fun q42 => if q42 = 0 then ((M_X1_nextSubset v3_17 e_ma).bind (fun q56 => L_X1_greatestLeast_17 e_mu e_ma e_cf q7 K17 k17 (v4_17 + 1) q56 v1_17)) else ((M_X1_nextSubset v3_17 e_ma).bind (fun q56 => L_X1_greatestLeast_17 e_mu e_ma e_cf q7 K17 k17 (v4_17 + 1) q56 q29))))))

def M_X1_greatestLeast (e_mu : Int32) (e_ma : Int32) (e_cf : Nat → Int64) : Option (Int32) := (M_J6_bitCount_0f7a4 e_ma).bind (fun q7 => L_X1_greatestLeast_17 e_mu e_ma e_cf q7 (fun (v4_17 : Int32) (v3_17 : Int32) (v1_17 : Int32) => some v1_17) 20000 0 0 0)
/-! X3_init -/
def L_X3_init_38 (K38 : Int32 → (Nat → Int32) → Option ((Nat → Int32))) : Nat → Int32 → (Nat → Int32) → Option ((Nat → Int32))
  | 0, _, _ => none
  | k38 + 1, v1_38, n_n23_f_38 => if 14 ≤ v1_38 then (K38 v1_38 n_n23_f_38) else (if v1_38 < 0 ∨ 14 ≤ (v1_38).toNatClampNeg then none else (L_X3_init_38 K38 k38 (v1_38 + 1) (upd n_n23_f_38 (v1_38).toNatClampNeg 1)))

def M_X3_init : Option ((Nat → Int32)) := L_X3_init_38 (fun (v1_38 : Int32) (n_n23_f_38 : Nat → Int32) => some n_n23_f_38) 40 0 (fun _ => 0)
/-! X4_init -/
def M_X4_init : Option ((Nat → Int32) × (Nat → Int32) × (Nat → Int32)) := (M_X3_init).bind (fun q9 => (M_X3_init).bind (fun q26 => (M_X3_init).bind (fun q36 => some (q9, q26, q36))))
/-! X4_size -/
def M_X4_size (w_t : Int32) (w_k : Int32) (w_f : Int32) (w_cs : Nat → Int32) (w_ds : Nat → Int32) (p1 : Int32) (g_ts : Int32) : Option (Int32 × Int32 × Int32 × Int32 × Int32 × (Nat → Int32) × (Nat → Int32)) := if p1 < 1 then (some ((-2), g_ts, w_t, w_k, w_f, w_cs, w_ds)) else (if p1 ≤ 14 then ((M_X3_resize w_k w_f w_cs w_ds p1).bind (fun q27 => some (w_t, 0, q27.1, q27.2.1, q27.2.2.1, q27.2.2.2.1, q27.2.2.2.2))) else (some ((-2), g_ts, w_t, w_k, w_f, w_cs, w_ds)))
/-! X4_say -/
def M_X4_say (p1 : Int32) (t_sg : Nat → Int32) (t_ln : Int32) : Option (Int32 × Int32 × (Nat → Int32)) := if p1 < 33 then (some ((-2), t_ln, t_sg)) else (if p1 ≤ 126 then (if t_ln < 20 then ((M_X2_append p1 t_sg t_ln).bind (fun q35 => some (q35.1, q35.1, q35.2))) else (some ((-3), t_ln, t_sg))) else (some ((-2), t_ln, t_sg)))
/-! X4_wipe -/
def M_X4_wipe (t_ln : Int32) : Option (Int32 × Int32) := some (t_ln, 0)
/-! X4_define -/
def M_X4_define (w_t : Int32) (w_f : Int32) (w_ds : Nat → Int32) (t_sg : Nat → Int32) (t_ln : Int32) (g_tf : Int32) (g_ts : Int32) : Option (Int32 × Int32 × Int32 × Int32 × (Nat → Int32) × Int32) := (M_X2_faultPlace w_t t_sg t_ln).bind (fun q11 => if q11 = (-6) then ((M_X2_toldWord t_sg).bind (fun q33 => (M_X2_tellsBare t_sg).bind (fun q41 => if q41 = 0 then ((M_X2_toldSet t_sg t_ln).bind (fun q67 => (M_X3_setDefinition w_f w_ds q33 q67).bind (fun q70 => (M_X3_isBare q70.1 q33).bind (fun q91 => if q91 = 0 then (if q33 < 0 ∨ 14 ≤ (q33).toNatClampNeg then none else ((M_J6_bitCount_0f7a4 (q70.2 (q33).toNatClampNeg)).bind (fun q111 => some (q111, g_tf, 0, q70.1, q70.2, 0)))) else (some ((-6), g_tf, 0, q70.1, q70.2, 0)))))) else ((M_X3_makeBare w_f w_ds q33).bind (fun q52 => (M_X3_isBare q52.1 q33).bind (fun q91 => if q91 = 0 then (if q33 < 0 ∨ 14 ≤ (q33).toNatClampNeg then none else ((M_J6_bitCount_0f7a4 (q52.2 (q33).toNatClampNeg)).bind (fun q111 => some (q111, g_tf, 0, q52.1, q52.2, 0)))) else (some ((-6), g_tf, 0, q52.1, q52.2, 0)))))))) else (some ((-7), q11, g_ts, w_f, w_ds, t_ln)))
/-! X4_fault -/
def M_X4_fault (w_t : Int32) (t_sg : Nat → Int32) (t_ln : Int32) : Option (Int32) := (M_X2_faultPlace w_t t_sg t_ln).bind (fun q11 => some q11)
/-! X4_uses -/
def M_X4_uses (w_t : Int32) (w_f : Int32) (w_ds : Nat → Int32) (p1 : Int32) : Option (Int32) := (M_X3_has w_t p1).bind (fun q5 => if q5 = 0 then (some (-1)) else ((M_X3_isBare w_f p1).bind (fun q18 => if q18 = 0 then (if p1 < 0 ∨ 14 ≤ (p1).toNatClampNeg then none else (some (w_ds (p1).toNatClampNeg))) else (some (-6)))))
/-! X4_users -/
def M_X4_users (w_t : Int32) (w_ds : Nat → Int32) (p1 : Int32) : Option (Int32) := (M_X3_has w_t p1).bind (fun q5 => if q5 = 0 then (some (-1)) else ((M_X3_usersOf w_t w_ds p1).bind (fun q18 => some q18)))
/-! X4_cost -/
def M_X4_cost (w_t : Int32) (w_cs : Nat → Int32) (p1 : Int32) (p2 : Int32) : Option (Int32 × (Nat → Int32)) := (M_X3_has w_t p1).bind (fun q5 => if q5 = 0 then (some ((-1), w_cs)) else (if p2 < 1 then (some ((-2), w_cs)) else (if p2 ≤ 9 then (if p1 < 0 ∨ 14 ≤ (p1).toNatClampNeg then none else (if p1 < 0 ∨ 14 ≤ (p1).toNatClampNeg then none else (some ((w_cs (p1).toNatClampNeg), (upd w_cs (p1).toNatClampNeg p2))))) else (some ((-2), w_cs)))))
/-! X4_grounds -/
def M_X4_grounds (w_t : Int32) (w_f : Int32) (w_ds : Nat → Int32) (p1 : Int32) : Option (Int32) := (M_X3_hasAll w_t p1).bind (fun q5 => if q5 = 0 then (some (-2)) else ((M_X3_groundedBy w_t w_f w_ds p1).bind (fun q19 => some q19)))
/-! X4_day -/
def M_X4_day (w_t : Int32) (w_f : Int32) (w_ds : Nat → Int32) (p1 : Int32) (p2 : Int32) : Option (Int32) := (M_X3_has w_t p1).bind (fun q5 => if q5 = 0 then (some (-1)) else ((M_X3_hasAll w_t p2).bind (fun q18 => if q18 = 0 then (some (-2)) else ((M_X3_daysTill w_t w_f w_ds ((1 : Int32) <<< (p1 &&& 31)) p2).bind (fun q35 => some q35)))))
/-! X4_learned -/
def L_X4_learned_30 (w_t : Int32) (w_f : Int32) (w_ds : Nat → Int32) (p2 : Int32) (K30 : Int32 → Int32 → Option (Int32)) : Nat → Int32 → Int32 → Option (Int32)
  | 0, _, _ => none
  | k30 + 1, v4_30, v3_30 => if p2 ≤ v4_30 then (K30 v4_30 v3_30) else ((M_X3_nextDay w_t w_f w_ds v3_30).bind (fun q41 => L_X4_learned_30 w_t w_f w_ds p2 K30 k30 (v4_30 + 1) q41))

def M_X4_learned (w_t : Int32) (w_f : Int32) (w_ds : Nat → Int32) (p1 : Int32) (p2 : Int32) : Option (Int32) := (M_X3_hasAll w_t p1).bind (fun q5 => if q5 = 0 then (some (-2)) else (if p2 < 1 then (some (-2)) else (if p2 ≤ 14 then (L_X4_learned_30 w_t w_f w_ds p2 (fun (v4_30 : Int32) (v3_30 : Int32) => (M_X3_nextDay w_t w_f w_ds v3_30).bind (fun q56 => some (q56 &&& (v3_30 ^^^ (-1))))) 40 1 p1) else (some (-2)))))
/-! X4_know -/
def M_X4_know (w_t : Int32) (w_k : Int32) (p1 : Int32) : Option (Int32 × Int32) := (M_X3_hasAll w_t p1).bind (fun q5 => if q5 = 0 then (some ((-2), w_k)) else (some (w_k, p1)))
/-! X4_currentRings -/
def M_X4_currentRings (w_t : Int32) (w_ds : Nat → Int32) (r_rc : Nat → Int32) : Option (Int32 × Int32 × (Nat → Int32)) := (M_X0_trace w_t w_ds r_rc).bind (fun q8 => some (q8.1, q8.2.1, q8.2.2))
/-! X4_currentTellings -/
def M_X4_currentTellings (w_t : Int32) (w_f : Int32) (w_ds : Nat → Int32) (r_t : Int32) (r_rc : Nat → Int32) (r_ir : Int32) (e_mu : Int32) (e_ma : Int32) (e_cf : Nat → Int64) (g_ts : Int32) : Option (Int32 × Int32 × Int32 × (Nat → Int32) × Int32 × Int32 × (Nat → Int64)) := if g_ts = 0 then ((M_X4_currentRings w_t w_ds r_rc).bind (fun q16 => (M_X1_find w_t w_f w_ds q16.2.1 e_cf).bind (fun q19 => some (1, q16.1, q16.2.1, q16.2.2, q19.1, q19.2.1, q19.2.2)))) else (some (g_ts, r_t, r_ir, r_rc, e_mu, e_ma, e_cf))
/-! X4_plan -/
def M_X4_plan (w_t : Int32) (w_k : Int32) (w_f : Int32) (w_cs : Nat → Int32) (w_ds : Nat → Int32) (p1 : Int32) (r_t : Int32) (r_rc : Nat → Int32) (r_ir : Int32) (e_mu : Int32) (e_ma : Int32) (e_cf : Nat → Int64) (g_ts : Int32) : Option (Int32 × Int32 × Int32 × Int32 × (Nat → Int32) × Int32 × Int32 × (Nat → Int64)) := if p1 < 0 then (some ((-2), g_ts, r_t, r_ir, r_rc, e_mu, e_ma, e_cf)) else (if p1 ≤ 3 then ((M_X4_currentTellings w_t w_f w_ds r_t r_rc r_ir e_mu e_ma e_cf g_ts).bind (fun q13 => (M_X1_cheapest w_t w_cs w_k q13.2.2.2.2.1 q13.2.2.2.2.2.1 q13.2.2.2.2.2.2).bind (fun q27 => if p1 = 0 then (some (q27, q13.1, q13.2.1, q13.2.2.1, q13.2.2.2.1, q13.2.2.2.2.1, q13.2.2.2.2.2.1, q13.2.2.2.2.2.2)) else (if p1 = 1 then ((M_X3_costOf w_t w_cs q27).bind (fun q67 => some (q67, q13.1, q13.2.1, q13.2.2.1, q13.2.2.2.1, q13.2.2.2.2.1, q13.2.2.2.2.2.1, q13.2.2.2.2.2.2))) else (if p1 = 2 then ((M_J6_bitCount_0f7a4 q27).bind (fun q72 => some (q72, q13.1, q13.2.1, q13.2.2.1, q13.2.2.2.1, q13.2.2.2.2.1, q13.2.2.2.2.2.1, q13.2.2.2.2.2.2))) else ((M_X3_all w_t).bind (fun q84 => (M_X3_daysTill w_t w_f w_ds q84 (w_k ||| q27)).bind (fun q96 => some (q96, q13.1, q13.2.1, q13.2.2.1, q13.2.2.2.1, q13.2.2.2.2.1, q13.2.2.2.2.2.1, q13.2.2.2.2.2.2))))))))) else (some ((-2), g_ts, r_t, r_ir, r_rc, e_mu, e_ma, e_cf)))
/-! X4_saves -/
def M_X4_saves (w_t : Int32) (w_k : Int32) (w_f : Int32) (w_cs : Nat → Int32) (w_ds : Nat → Int32) (p1 : Int32) (r_t : Int32) (r_rc : Nat → Int32) (r_ir : Int32) (e_mu : Int32) (e_ma : Int32) (e_cf : Nat → Int64) (g_ts : Int32) : Option (Int32 × Int32 × Int32 × Int32 × (Nat → Int32) × Int32 × Int32 × (Nat → Int64)) := (M_X3_has w_t p1).bind (fun q5 => if q5 = 0 then (some ((-1), g_ts, r_t, r_ir, r_rc, e_mu, e_ma, e_cf)) else ((M_X4_currentTellings w_t w_f w_ds r_t r_rc r_ir e_mu e_ma e_cf g_ts).bind (fun q14 => (M_X1_cheapest w_t w_cs w_k q14.2.2.2.2.1 q14.2.2.2.2.2.1 q14.2.2.2.2.2.2).bind (fun q30 => (M_X1_cheapest w_t w_cs (w_k ||| ((1 : Int32) <<< (p1 &&& 31))) q14.2.2.2.2.1 q14.2.2.2.2.2.1 q14.2.2.2.2.2.2).bind (fun q50 => (M_X3_costOf w_t w_cs q30).bind (fun q60 => (M_X3_costOf w_t w_cs q50).bind (fun q69 => some ((q60 - q69), q14.1, q14.2.1, q14.2.2.1, q14.2.2.2.1, q14.2.2.2.2.1, q14.2.2.2.2.2.1, q14.2.2.2.2.2.2))))))))
/-! X4_least -/
def M_X4_least (w_t : Int32) (w_f : Int32) (w_ds : Nat → Int32) (p1 : Int32) (r_t : Int32) (r_rc : Nat → Int32) (r_ir : Int32) (e_mu : Int32) (e_ma : Int32) (e_cf : Nat → Int64) (g_ts : Int32) : Option (Int32 × Int32 × Int32 × Int32 × (Nat → Int32) × Int32 × Int32 × (Nat → Int64)) := if p1 = 0 then ((M_X4_currentTellings w_t w_f w_ds r_t r_rc r_ir e_mu e_ma e_cf g_ts).bind (fun q27 => if p1 = 1 then ((M_X1_greatestLeast q27.2.2.2.2.1 q27.2.2.2.2.2.1 q27.2.2.2.2.2.2).bind (fun q37 => some (q37, q27.1, q27.2.1, q27.2.2.1, q27.2.2.2.1, q27.2.2.2.2.1, q27.2.2.2.2.2.1, q27.2.2.2.2.2.2))) else (if p1 = 0 then ((M_X1_leastWith 0 q27.2.2.2.2.1 q27.2.2.2.2.2.1 q27.2.2.2.2.2.2).bind (fun q56 => some (q56, q27.1, q27.2.1, q27.2.2.1, q27.2.2.2.1, q27.2.2.2.2.1, q27.2.2.2.2.2.1, q27.2.2.2.2.2.2))) else ((M_X1_leastWith ((1 : Int32) <<< ((p1 - 10) &&& 31)) q27.2.2.2.2.1 q27.2.2.2.2.2.1 q27.2.2.2.2.2.2).bind (fun q56 => some (q56, q27.1, q27.2.1, q27.2.2.1, q27.2.2.2.1, q27.2.2.2.2.1, q27.2.2.2.2.2.1, q27.2.2.2.2.2.2)))))) else (if p1 = 1 then ((M_X4_currentTellings w_t w_f w_ds r_t r_rc r_ir e_mu e_ma e_cf g_ts).bind (fun q27 => if p1 = 1 then ((M_X1_greatestLeast q27.2.2.2.2.1 q27.2.2.2.2.2.1 q27.2.2.2.2.2.2).bind (fun q37 => some (q37, q27.1, q27.2.1, q27.2.2.1, q27.2.2.2.1, q27.2.2.2.2.1, q27.2.2.2.2.2.1, q27.2.2.2.2.2.2))) else (if p1 = 0 then ((M_X1_leastWith 0 q27.2.2.2.2.1 q27.2.2.2.2.2.1 q27.2.2.2.2.2.2).bind (fun q56 => some (q56, q27.1, q27.2.1, q27.2.2.1, q27.2.2.2.1, q27.2.2.2.2.1, q27.2.2.2.2.2.1, q27.2.2.2.2.2.2))) else ((M_X1_leastWith ((1 : Int32) <<< ((p1 - 10) &&& 31)) q27.2.2.2.2.1 q27.2.2.2.2.2.1 q27.2.2.2.2.2.2).bind (fun q56 => some (q56, q27.1, q27.2.1, q27.2.2.1, q27.2.2.2.1, q27.2.2.2.2.1, q27.2.2.2.2.2.1, q27.2.2.2.2.2.2)))))) else ((M_X3_has w_t (p1 - 10)).bind (fun q17 => if q17 = 0 then (some ((-2), g_ts, r_t, r_ir, r_rc, e_mu, e_ma, e_cf)) else ((M_X4_currentTellings w_t w_f w_ds r_t r_rc r_ir e_mu e_ma e_cf g_ts).bind (fun q27 => if p1 = 1 then ((M_X1_greatestLeast q27.2.2.2.2.1 q27.2.2.2.2.2.1 q27.2.2.2.2.2.2).bind (fun q37 => some (q37, q27.1, q27.2.1, q27.2.2.1, q27.2.2.2.1, q27.2.2.2.2.1, q27.2.2.2.2.2.1, q27.2.2.2.2.2.2))) else (if p1 = 0 then ((M_X1_leastWith 0 q27.2.2.2.2.1 q27.2.2.2.2.2.1 q27.2.2.2.2.2.2).bind (fun q56 => some (q56, q27.1, q27.2.1, q27.2.2.1, q27.2.2.2.1, q27.2.2.2.2.1, q27.2.2.2.2.2.1, q27.2.2.2.2.2.2))) else ((M_X1_leastWith ((1 : Int32) <<< ((p1 - 10) &&& 31)) q27.2.2.2.2.1 q27.2.2.2.2.2.1 q27.2.2.2.2.2.2).bind (fun q56 => some (q56, q27.1, q27.2.1, q27.2.2.1, q27.2.2.2.1, q27.2.2.2.2.1, q27.2.2.2.2.2.1, q27.2.2.2.2.2.2)))))))))
/-! X4_way -/
def M_X4_way (w_t : Int32) (w_ds : Nat → Int32) (p1 : Int32) (p2 : Int32) : Option (Int32) := (M_X3_has w_t p1).bind (fun q5 => if q5 = 0 then (some (-1)) else ((M_X3_has w_t p2).bind (fun q16 => if q16 = 0 then (some (-1)) else ((M_X3_stepsBetween w_t w_ds p1 p2).bind (fun q30 => some q30)))))
/-! X4_ring -/
def M_X4_ring (w_t : Int32) (w_ds : Nat → Int32) (p1 : Int32) (r_t : Int32) (r_rc : Nat → Int32) (r_ir : Int32) : Option (Int32 × Int32 × Int32 × (Nat → Int32)) := if (-1) ≤ p1 then ((M_X4_currentRings w_t w_ds r_rc).bind (fun q9 => if p1 = (-1) then ((M_X0_howMany q9.1 q9.2.2 q9.2.1).bind (fun q19 => some (q19, q9.1, q9.2.1, q9.2.2))) else ((M_X0_numbered p1 q9.1 q9.2.2 q9.2.1).bind (fun q27 => some (q27, q9.1, q9.2.1, q9.2.2))))) else (some ((-2), r_t, r_ir, r_rc))
/-! X4_lie -/
def M_X4_lie (w_t : Int32) (w_f : Int32) (w_ds : Nat → Int32) (p1 : Int32) (r_t : Int32) (r_rc : Nat → Int32) (r_ir : Int32) : Option (Int32 × Int32 × Int32 × (Nat → Int32)) := if p1 = 0 then ((M_X4_currentRings w_t w_ds r_rc).bind (fun q37 => some (q37.2.1, q37.1, q37.2.1, q37.2.2))) else (if p1 = 1 then ((M_X4_currentRings w_t w_ds r_rc).bind (fun q45 => (M_X0_before q45.1 q45.2.2 q45.2.1).bind (fun q48 => some (q48, q45.1, q45.2.1, q45.2.2)))) else (if p1 = 2 then ((M_X4_currentRings w_t w_ds r_rc).bind (fun q53 => (M_X0_behind q53.1 q53.2.2 q53.2.1).bind (fun q56 => some (q56, q53.1, q53.2.1, q53.2.2)))) else (if p1 = 3 then ((M_X3_all w_t).bind (fun q64 => (M_X3_used w_t w_ds).bind (fun q71 => some ((q64 &&& (q71 ^^^ (-1))), r_t, r_ir, r_rc)))) else (if p1 = 4 then ((M_X3_all w_t).bind (fun q82 => some ((q82 &&& (w_f ^^^ (-1))), r_t, r_ir, r_rc))) else (some ((-2), r_t, r_ir, r_rc))))))
/-! X4_image -/
def M_X4_image (w_t : Int32) (w_k : Int32) (w_f : Int32) (w_cs : Nat → Int32) (w_ds : Nat → Int32) (p1 : Int32) (i_t : Int32) (i_k : Int32) (i_f : Int32) (i_cs : Nat → Int32) (i_ds : Nat → Int32) (j_t : Int32) (j_k : Int32) (j_f : Int32) (j_cs : Nat → Int32) (j_ds : Nat → Int32) (g_kp : Int32) : Option (Int32 × Int32 × Int32 × Int32 × Int32 × (Nat → Int32) × (Nat → Int32) × Int32 × Int32 × Int32 × (Nat → Int32) × (Nat → Int32)) := if p1 < 0 then (some ((-2), g_kp, i_t, i_k, i_f, i_cs, i_ds, j_t, j_k, j_f, j_cs, j_ds)) else (if p1 < 2 then (if p1 = 0 then ((M_X3_copyFrom i_cs i_ds w_t w_k w_f w_cs w_ds).bind (fun q22 => some (1, (g_kp ||| ((1 : Int32) <<< (p1 &&& 31))), q22.1, q22.2.1, q22.2.2.1, q22.2.2.2.1, q22.2.2.2.2, j_t, j_k, j_f, j_cs, j_ds))) else if p1 = 1 then ((M_X3_copyFrom j_cs j_ds w_t w_k w_f w_cs w_ds).bind (fun q22 => some (1, (g_kp ||| ((1 : Int32) <<< (p1 &&& 31))), i_t, i_k, i_f, i_cs, i_ds, q22.1, q22.2.1, q22.2.2.1, q22.2.2.2.1, q22.2.2.2.2))) else none) else (some ((-2), g_kp, i_t, i_k, i_f, i_cs, i_ds, j_t, j_k, j_f, j_cs, j_ds)))
/-! X4_restore -/
def M_X4_restore (w_t : Int32) (w_k : Int32) (w_f : Int32) (w_cs : Nat → Int32) (w_ds : Nat → Int32) (p1 : Int32) (i_t : Int32) (i_k : Int32) (i_f : Int32) (i_cs : Nat → Int32) (i_ds : Nat → Int32) (j_t : Int32) (j_k : Int32) (j_f : Int32) (j_cs : Nat → Int32) (j_ds : Nat → Int32) (g_kp : Int32) (g_ts : Int32) : Option (Int32 × Int32 × Int32 × Int32 × Int32 × (Nat → Int32) × (Nat → Int32)) := if p1 < 0 then (some ((-2), g_ts, w_t, w_k, w_f, w_cs, w_ds)) else (if p1 < 2 then (if ((g_kp >>> (p1 &&& 31)) &&& 1) = 0 then (some ((-3), g_ts, w_t, w_k, w_f, w_cs, w_ds)) else (if p1 = 0 then ((M_X3_copyFrom w_cs w_ds i_t i_k i_f i_cs i_ds).bind (fun q36 => some (1, 0, q36.1, q36.2.1, q36.2.2.1, q36.2.2.2.1, q36.2.2.2.2))) else if p1 = 1 then ((M_X3_copyFrom w_cs w_ds j_t j_k j_f j_cs j_ds).bind (fun q36 => some (1, 0, q36.1, q36.2.1, q36.2.2.1, q36.2.2.2.1, q36.2.2.2.2))) else none)) else (some ((-2), g_ts, w_t, w_k, w_f, w_cs, w_ds)))
/-! X4_count -/
def M_X4_count (w_t : Int32) (w_k : Int32) (w_f : Int32) (w_cs : Nat → Int32) (w_ds : Nat → Int32) (p1 : Int32) (t_ln : Int32) (g_kp : Int32) (g_tf : Int32) : Option (Int32) := if p1 = 0 then (some w_t) else (if p1 = 1 then (some w_k) else (if p1 = 2 then ((M_J6_bitCount_0f7a4 w_f).bind (fun q67 => some q67)) else (if p1 = 3 then ((M_X3_howOftenUsed w_t w_ds).bind (fun q75 => some q75)) else (if p1 = 4 then (some t_ln) else (if p1 = 5 then (some g_tf) else (if p1 = 6 then (some g_kp) else ((M_X3_has w_t (p1 - 10)).bind (fun q105 => if q105 = 0 then (some (-2)) else (if (p1 - 10) < 0 ∨ 14 ≤ ((p1 - 10)).toNatClampNeg then none else (some (w_cs ((p1 - 10)).toNatClampNeg)))))))))))
/-! X5_init -/
def L_X5_init_66 (K66 : Int32 → (Nat → Int32) → (Nat → Int32) → Option ((Nat → Int32) × (Nat → Int32))) : Nat → Int32 → (Nat → Int32) → (Nat → Int32) → Option ((Nat → Int32) × (Nat → Int32))
  | 0, _, _, _ => none
  | k66 + 1, v1_66, n_n13_f_66, n_n21_f_66 => if 14 ≤ v1_66 then (K66 v1_66 n_n13_f_66 n_n21_f_66) else (if v1_66 < 0 ∨ 14 ≤ (v1_66).toNatClampNeg then none else (if v1_66 < 0 ∨ 14 ≤ (v1_66).toNatClampNeg then none else (L_X5_init_66 K66 k66 (v1_66 + 1) (upd n_n13_f_66 (v1_66).toNatClampNeg (-6)) (upd n_n21_f_66 (v1_66).toNatClampNeg 1))))

def M_X5_init : Option ((Nat → Int32) × (Nat → Int32)) := L_X5_init_66 (fun (v1_66 : Int32) (n_n13_f_66 : Nat → Int32) (n_n21_f_66 : Nat → Int32) => some (n_n13_f_66, n_n21_f_66)) 40 0 (fun _ => 0) (fun _ => 0)
/-! X5_in -/
def M_X5_in (p0 : Int32) (p1 : Int32) (p2 : Int32) : Option (Int32) := if p0 < p1 then (some 0) else (if p2 < p0 then (some 0) else (some 1))
/-! X5_isWord -/
def M_X5_isWord (p1 : Int32) (m_sz : Int32) : Option (Int32) := (M_X5_in p1 0 (m_sz - 1)).bind (fun q8 => if q8 = 0 ∨ q8 = 1 then some q8 else none)
/-! X5_all -/
def M_X5_all (m_sz : Int32) : Option (Int32) := some (((1 : Int32) <<< (m_sz &&& 31)) - 1)
/-! X5_isSet -/
def M_X5_isSet (p1 : Int32) (m_sz : Int32) : Option (Int32) := (M_X5_all m_sz).bind (fun q3 => (M_X5_in p1 0 q3).bind (fun q6 => if q6 = 0 ∨ q6 = 1 then some q6 else none))
/-! X5_has -/
def M_X5_has (p0 : Int32) (p1 : Int32) : Option (Int32) := if ((p0 >>> (p1 &&& 31)) &&& 1) = 1 then (some 1) else (some 0)
/-! X5_bits -/
def L_X5_bits_4 (p0 : Int32) (K4 : Int32 → Int32 → Option (Int32)) : Nat → Int32 → Int32 → Option (Int32)
  | 0, _, _ => none
  | k4 + 1, v2_4, v1_4 => if 14 ≤ v2_4 then (K4 v2_4 v1_4) else (L_X5_bits_4 p0 K4 k4 (v2_4 + 1) (v1_4 + ((p0 >>> (v2_4 &&& 31)) &&& 1)))

def M_X5_bits (p0 : Int32) : Option (Int32) := L_X5_bits_4 p0 (fun (v2_4 : Int32) (v1_4 : Int32) => some v1_4) 40 0 0
/-! X5_size -/
def L_X5_size_25 (p1 : Int32) (K25 : Int32 → (Nat → Int32) → (Nat → Int32) → Option (Int32 × Int32 × Int32 × (Nat → Int32) × (Nat → Int32))) : Nat → Int32 → (Nat → Int32) → (Nat → Int32) → Option (Int32 × Int32 × Int32 × (Nat → Int32) × (Nat → Int32))
  | 0, _, _, _ => none
  | k25 + 1, v3_25, m_ds_25, m_cs_25 => if 14 ≤ v3_25 then (K25 v3_25 m_ds_25 m_cs_25) else (if v3_25 < p1 then (if v3_25 < 0 ∨ 14 ≤ (v3_25).toNatClampNeg then none else (if (m_ds_25 (v3_25).toNatClampNeg) < 0 then (L_X5_size_25 p1 K25 k25 (v3_25 + 1) m_ds_25 m_cs_25) else (if v3_25 < 0 ∨ 14 ≤ (v3_25).toNatClampNeg then none else ((M_X5_all p1).bind (fun q71 => if v3_25 < 0 ∨ 14 ≤ (v3_25).toNatClampNeg then none else (L_X5_size_25 p1 K25 k25 (v3_25 + 1) (upd m_ds_25 (v3_25).toNatClampNeg ((m_ds_25 (v3_25).toNatClampNeg) &&& q71)) m_cs_25)))))) else (if v3_25 < 0 ∨ 14 ≤ (v3_25).toNatClampNeg then none else (if v3_25 < 0 ∨ 14 ≤ (v3_25).toNatClampNeg then none else (L_X5_size_25 p1 K25 k25 (v3_25 + 1) (upd m_ds_25 (v3_25).toNatClampNeg (-6)) (upd m_cs_25 (v3_25).toNatClampNeg 1)))))

def M_X5_size (p1 : Int32) (m_sz : Int32) (m_ds : Nat → Int32) (m_cs : Nat → Int32) (m_kn : Int32) : Option (Int32 × Int32 × Int32 × (Nat → Int32) × (Nat → Int32)) := (M_X5_in p1 1 14).bind (fun q4 => if q4 = 0 then (some ((-2), m_sz, m_kn, m_ds, m_cs)) else (L_X5_size_25 p1 (fun (v3_25 : Int32) (m_ds_25 : Nat → Int32) (m_cs_25 : Nat → Int32) => (M_X5_all p1).bind (fun q88 => some (m_sz, p1, (m_kn &&& q88), m_ds_25, m_cs_25))) 40 0 m_ds m_cs))
/-! X5_say -/
def M_X5_say (p1 : Int32) (m_tx : Nat → Int32) (m_sg : Int32) : Option (Int32 × Int32 × (Nat → Int32)) := (M_X5_in p1 33 126).bind (fun q5 => if q5 = 0 then (some ((-2), m_sg, m_tx)) else (if m_sg = 20 then (some ((-3), m_sg, m_tx)) else (if m_sg < 0 ∨ 20 ≤ (m_sg).toNatClampNeg then none else (some ((m_sg + 1), (m_sg + 1), (upd m_tx (m_sg).toNatClampNeg p1))))))
/-! X5_wipe -/
def M_X5_wipe (m_sg : Int32) : Option (Int32 × Int32) := some (m_sg, 0)
/-! X5_toldUpTo -/
def L_X5_toldUpTo_4 (p1 : Int32) (m_tx : Nat → Int32) (K4 : Int32 → Int32 → Option (Int32)) : Nat → Int32 → Int32 → Option (Int32)
  | 0, _, _ => none
  | k4 + 1, v3_4, v2_4 => if p1 ≤ v3_4 then (K4 v3_4 v2_4) else (if v3_4 < 0 ∨ 20 ≤ (v3_4).toNatClampNeg then none else (L_X5_toldUpTo_4 p1 m_tx K4 k4 (v3_4 + 1) (v2_4 ||| ((1 : Int32) <<< (((m_tx (v3_4).toNatClampNeg) - 97) &&& 31)))))

def M_X5_toldUpTo (p1 : Int32) (m_tx : Nat → Int32) : Option (Int32) := L_X5_toldUpTo_4 p1 m_tx (fun (v3_4 : Int32) (v2_4 : Int32) => some v2_4) 40 2 0
/-! X5_canStand -/
def M_X5_canStand (p1 : Int32) (m_sz : Int32) (m_tx : Nat → Int32) : Option (Int32) := if p1 < 0 ∨ 20 ≤ (p1).toNatClampNeg then none else (if p1 = 0 then ((M_X5_isWord ((m_tx (p1).toNatClampNeg) - 97) m_sz).bind (fun q16 => if q16 = 0 ∨ q16 = 1 then some q16 else none)) else (if p1 = 1 then (if (m_tx (1 : Int32).toNatClampNeg) = 58 then (some 1) else (if (m_tx (1 : Int32).toNatClampNeg) = 46 then (some 1) else (some 0))) else (if (m_tx (1 : Int32).toNatClampNeg) = 58 then ((M_X5_isWord ((m_tx (p1).toNatClampNeg) - 97) m_sz).bind (fun q66 => if q66 = 0 then (some 0) else ((M_X5_toldUpTo p1 m_tx).bind (fun q74 => (M_X5_has q74 ((m_tx (p1).toNatClampNeg) - 97)).bind (fun q78 => if q78 = 0 then (some 1) else (some 0)))))) else (some 0))))
/-! X5_faultNow -/
def L_X5_faultNow_2 (m_sz : Int32) (m_tx : Nat → Int32) (m_sg : Int32) (K2 : Int32 → Option (Int32)) : Nat → Int32 → Option (Int32)
  | 0, _ => none
  | k2 + 1, v1_2 => if m_sg ≤ v1_2 then (K2 v1_2) else ((M_X5_canStand v1_2 m_sz m_tx).bind (fun q12 => if q12 = 0 then (some v1_2) else (L_X5_faultNow_2 m_sz m_tx m_sg K2 k2 (v1_2 + 1))))

def M_X5_faultNow (m_sz : Int32) (m_tx : Nat → Int32) (m_sg : Int32) : Option (Int32) := L_X5_faultNow_2 m_sz m_tx m_sg (fun (v1_2 : Int32) => if 2 ≤ m_sg then (some (-6)) else (some m_sg)) 40 0
/-! X5_define -/
def M_X5_define (m_sz : Int32) (m_ds : Nat → Int32) (m_tx : Nat → Int32) (m_sg : Int32) (m_fa : Int32) : Option (Int32 × Int32 × Int32 × (Nat → Int32)) := (M_X5_faultNow m_sz m_tx m_sg).bind (fun q1 => if q1 < 0 then (if (m_tx (1 : Int32).toNatClampNeg) = 46 then (if ((m_tx (0 : Int32).toNatClampNeg) - 97) < 0 ∨ 14 ≤ (((m_tx (0 : Int32).toNatClampNeg) - 97)).toNatClampNeg then none else (if ((m_tx (0 : Int32).toNatClampNeg) - 97) < 0 ∨ 14 ≤ (((m_tx (0 : Int32).toNatClampNeg) - 97)).toNatClampNeg then none else (if 0 ≤ ((upd m_ds (((m_tx (0 : Int32).toNatClampNeg) - 97)).toNatClampNeg (-6)) (((m_tx (0 : Int32).toNatClampNeg) - 97)).toNatClampNeg) then (if ((m_tx (0 : Int32).toNatClampNeg) - 97) < 0 ∨ 14 ≤ (((m_tx (0 : Int32).toNatClampNeg) - 97)).toNatClampNeg then none else ((M_X5_bits ((upd m_ds (((m_tx (0 : Int32).toNatClampNeg) - 97)).toNatClampNeg (-6)) (((m_tx (0 : Int32).toNatClampNeg) - 97)).toNatClampNeg)).bind (fun q82 => some (q82, 0, m_fa, (upd m_ds (((m_tx (0 : Int32).toNatClampNeg) - 97)).toNatClampNeg (-6)))))) else (some ((-6), 0, m_fa, (upd m_ds (((m_tx (0 : Int32).toNatClampNeg) - 97)).toNatClampNeg (-6))))))) else ((M_X5_toldUpTo m_sg m_tx).bind (fun q53 => if ((m_tx (0 : Int32).toNatClampNeg) - 97) < 0 ∨ 14 ≤ (((m_tx (0 : Int32).toNatClampNeg) - 97)).toNatClampNeg then none else (if ((m_tx (0 : Int32).toNatClampNeg) - 97) < 0 ∨ 14 ≤ (((m_tx (0 : Int32).toNatClampNeg) - 97)).toNatClampNeg then none else (if 0 ≤ ((upd m_ds (((m_tx (0 : Int32).toNatClampNeg) - 97)).toNatClampNeg q53) (((m_tx (0 : Int32).toNatClampNeg) - 97)).toNatClampNeg) then (if ((m_tx (0 : Int32).toNatClampNeg) - 97) < 0 ∨ 14 ≤ (((m_tx (0 : Int32).toNatClampNeg) - 97)).toNatClampNeg then none else ((M_X5_bits ((upd m_ds (((m_tx (0 : Int32).toNatClampNeg) - 97)).toNatClampNeg q53) (((m_tx (0 : Int32).toNatClampNeg) - 97)).toNatClampNeg)).bind (fun q82 => some (q82, 0, m_fa, (upd m_ds (((m_tx (0 : Int32).toNatClampNeg) - 97)).toNatClampNeg q53))))) else (some ((-6), 0, m_fa, (upd m_ds (((m_tx (0 : Int32).toNatClampNeg) - 97)).toNatClampNeg q53)))))))) else (some ((-7), m_sg, q1, m_ds)))
/-! X5_fault -/
def M_X5_fault (m_sz : Int32) (m_tx : Nat → Int32) (m_sg : Int32) : Option (Int32) := (M_X5_faultNow m_sz m_tx m_sg).bind (fun q1 => some q1)
/-! X5_uses -/
def M_X5_uses (p1 : Int32) (m_sz : Int32) (m_ds : Nat → Int32) : Option (Int32) := (M_X5_isWord p1 m_sz).bind (fun q2 => if q2 = 0 then (some (-1)) else (if p1 < 0 ∨ 14 ≤ (p1).toNatClampNeg then none else (some (m_ds (p1).toNatClampNeg))))
/-! X5_isUsed -/
def M_X5_isUsed (p1 : Int32) (p2 : Int32) (m_ds : Nat → Int32) : Option (Int32) := if p1 < 0 ∨ 14 ≤ (p1).toNatClampNeg then none else (if (m_ds (p1).toNatClampNeg) < 0 then (some 0) else (if p1 < 0 ∨ 14 ≤ (p1).toNatClampNeg then none else ((M_X5_has (m_ds (p1).toNatClampNeg) p2).bind (fun q16 => if q16 = 0 then (some 0) else (some 1)))))
/-! X5_usersOf -/
def L_X5_usersOf_4 (p1 : Int32) (m_sz : Int32) (m_ds : Nat → Int32) (K4 : Int32 → Int32 → Option (Int32)) : Nat → Int32 → Int32 → Option (Int32)
  | 0, _, _ => none
  | k4 + 1, v3_4, v2_4 => if m_sz ≤ v3_4 then (K4 v3_4 v2_4) else ((M_X5_isUsed v3_4 p1 m_ds).bind (fun q16 => if q16 = 0 then (L_X5_usersOf_4 p1 m_sz m_ds K4 k4 (v3_4 + 1) (v2_4 ||| 0)) else (L_X5_usersOf_4 p1 m_sz m_ds K4 k4 (v3_4 + 1) (v2_4 ||| ((1 : Int32) <<< (v3_4 &&& 31))))))

def M_X5_usersOf (p1 : Int32) (m_sz : Int32) (m_ds : Nat → Int32) : Option (Int32) := L_X5_usersOf_4 p1 m_sz m_ds (fun (v3_4 : Int32) (v2_4 : Int32) => some v2_4) 40 0 0
/-! X5_users -/
def M_X5_users (p1 : Int32) (m_sz : Int32) (m_ds : Nat → Int32) : Option (Int32) := (M_X5_isWord p1 m_sz).bind (fun q2 => if q2 = 0 then (some (-1)) else ((M_X5_usersOf p1 m_sz m_ds).bind (fun q10 => some q10)))
/-! X5_cost -/
def M_X5_cost (p1 : Int32) (p2 : Int32) (m_sz : Int32) (m_cs : Nat → Int32) : Option (Int32 × (Nat → Int32)) := (M_X5_isWord p1 m_sz).bind (fun q2 => if q2 = 0 then (some ((-1), m_cs)) else ((M_X5_in p2 1 9).bind (fun q14 => if q14 = 0 then (some ((-2), m_cs)) else (if p1 < 0 ∨ 14 ≤ (p1).toNatClampNeg then none else (if p1 < 0 ∨ 14 ≤ (p1).toNatClampNeg then none else (some ((m_cs (p1).toNatClampNeg), (upd m_cs (p1).toNatClampNeg p2))))))))
/-! X5_after -/
def L_X5_after_4 (p1 : Int32) (m_sz : Int32) (m_ds : Nat → Int32) (K4 : Int32 → Int32 → Option (Int32)) : Nat → Int32 → Int32 → Option (Int32)
  | 0, _, _ => none
  | k4 + 1, v3_4, v2_4 => if m_sz ≤ v3_4 then (K4 v3_4 v2_4) else (if v3_4 < 0 ∨ 14 ≤ (v3_4).toNatClampNeg then none else (if (m_ds (v3_4).toNatClampNeg) < 0 then (L_X5_after_4 p1 m_sz m_ds K4 k4 (v3_4 + 1) (v2_4 ||| 0)) else (if v3_4 < 0 ∨ 14 ≤ (v3_4).toNatClampNeg then none else (if ((m_ds (v3_4).toNatClampNeg) &&& (p1 ^^^ (-1))) = 0 then (L_X5_after_4 p1 m_sz m_ds K4 k4 (v3_4 + 1) (v2_4 ||| ((1 : Int32) <<< (v3_4 &&& 31)))) else (L_X5_after_4 p1 m_sz m_ds K4 k4 (v3_4 + 1) (v2_4 ||| 0))))))

def M_X5_after (p1 : Int32) (m_sz : Int32) (m_ds : Nat → Int32) : Option (Int32) := L_X5_after_4 p1 m_sz m_ds (fun (v3_4 : Int32) (v2_4 : Int32) => some v2_4) 40 0 p1
/-! X5_knownOn -/
def L_X5_knownOn_5 (p2 : Int32) (m_sz : Int32) (m_ds : Nat → Int32) (K5 : Int32 → Int32 → Option (Int32)) : Nat → Int32 → Int32 → Option (Int32)
  | 0, _, _ => none
  | k5 + 1, v4_5, v3_5 => if p2 ≤ v4_5 then (K5 v4_5 v3_5) else ((M_X5_after v3_5 m_sz m_ds).bind (fun q13 => L_X5_knownOn_5 p2 m_sz m_ds K5 k5 (v4_5 + 1) q13))

def M_X5_knownOn (p1 : Int32) (p2 : Int32) (m_sz : Int32) (m_ds : Nat → Int32) : Option (Int32) := L_X5_knownOn_5 p2 m_sz m_ds (fun (v4_5 : Int32) (v3_5 : Int32) => some v3_5) 40 0 p1
/-! X5_grounds -/
def M_X5_grounds (p1 : Int32) (m_sz : Int32) (m_ds : Nat → Int32) : Option (Int32) := (M_X5_isSet p1 m_sz).bind (fun q2 => if q2 = 0 then (some (-2)) else ((M_X5_knownOn p1 14 m_sz m_ds).bind (fun q12 => some q12)))
/-! X5_day -/
def L_X5_day_28 (p1 : Int32) (p2 : Int32) (m_sz : Int32) (m_ds : Nat → Int32) (K28 : Int32 → Int32 → Option (Int32)) : Nat → Int32 → Int32 → Option (Int32)
  | 0, _, _ => none
  | k28 + 1, v4_28, v3_28 => if v4_28 < 0 then (K28 v4_28 v3_28) else ((M_X5_knownOn p2 v4_28 m_sz m_ds).bind (fun q37 => (M_X5_has q37 p1).bind (fun q41 => if q41 = 0 then (L_X5_day_28 p1 p2 m_sz m_ds K28 k28 (v4_28 + (-1)) v3_28) else (L_X5_day_28 p1 p2 m_sz m_ds K28 k28 (v4_28 + (-1)) v4_28))))

def M_X5_day (p1 : Int32) (p2 : Int32) (m_sz : Int32) (m_ds : Nat → Int32) : Option (Int32) := (M_X5_isWord p1 m_sz).bind (fun q2 => if q2 = 0 then (some (-1)) else ((M_X5_isSet p2 m_sz).bind (fun q12 => if q12 = 0 then (some (-2)) else (L_X5_day_28 p1 p2 m_sz m_ds (fun (v4_28 : Int32) (v3_28 : Int32) => some v3_28) 40 14 (-6)))))
/-! X5_learned -/
def M_X5_learned (p1 : Int32) (p2 : Int32) (m_sz : Int32) (m_ds : Nat → Int32) : Option (Int32) := (M_X5_isSet p1 m_sz).bind (fun q2 => if q2 = 0 then (some (-2)) else ((M_X5_in p2 1 14).bind (fun q12 => if q12 = 0 then (some (-2)) else ((M_X5_knownOn p1 p2 m_sz m_ds).bind (fun q24 => (M_X5_knownOn p1 (p2 - 1) m_sz m_ds).bind (fun q32 => some (q24 &&& (q32 ^^^ (-1)))))))))
/-! X5_know -/
def M_X5_know (p1 : Int32) (m_sz : Int32) (m_kn : Int32) : Option (Int32 × Int32) := (M_X5_isSet p1 m_sz).bind (fun q2 => if q2 = 0 then (some ((-2), m_kn)) else (some (m_kn, p1)))
/-! X5_costOf -/
def L_X5_costOf_4 (p1 : Int32) (m_sz : Int32) (m_cs : Nat → Int32) (K4 : Int32 → Int32 → Option (Int32)) : Nat → Int32 → Int32 → Option (Int32)
  | 0, _, _ => none
  | k4 + 1, v3_4, v2_4 => if m_sz ≤ v3_4 then (K4 v3_4 v2_4) else ((M_X5_has p1 v3_4).bind (fun q15 => if q15 = 0 then (L_X5_costOf_4 p1 m_sz m_cs K4 k4 (v3_4 + 1) (v2_4 + 0)) else (if v3_4 < 0 ∨ 14 ≤ (v3_4).toNatClampNeg then none else (L_X5_costOf_4 p1 m_sz m_cs K4 k4 (v3_4 + 1) (v2_4 + (m_cs (v3_4).toNatClampNeg))))))

def M_X5_costOf (p1 : Int32) (m_sz : Int32) (m_cs : Nat → Int32) : Option (Int32) := L_X5_costOf_4 p1 m_sz m_cs (fun (v3_4 : Int32) (v2_4 : Int32) => some v2_4) 40 0 0
/-! X5_isBetter -/
def M_X5_isBetter (p1 : Int32) (p2 : Int32) (m_sz : Int32) (m_cs : Nat → Int32) : Option (Int32) := (M_X5_costOf p1 m_sz m_cs).bind (fun q2 => (M_X5_costOf p2 m_sz m_cs).bind (fun q7 => if q2 = q7 then ((M_X5_bits p1).bind (fun q33 => (M_X5_bits p2).bind (fun q37 => if q37 ≤ q33 then (some 0) else (some 1)))) else ((M_X5_costOf p1 m_sz m_cs).bind (fun q15 => (M_X5_costOf p2 m_sz m_cs).bind (fun q20 => if q20 ≤ q15 then (some 0) else (some 1))))))
/-! X5_planFor -/
def L_X5_planFor_11 (p1 : Int32) (m_sz : Int32) (m_ds : Nat → Int32) (m_cs : Nat → Int32) (K11 : Int32 → Int32 → Option (Int32)) : Nat → Int32 → Int32 → Option (Int32)
  | 0, _, _ => none
  | k11 + 1, v3_11, v2_11 => (M_X5_all m_sz).bind (fun q13 => if q13 < v3_11 then (K11 v3_11 v2_11) else (if (v3_11 &&& p1) = 0 then ((M_X5_isBetter v3_11 v2_11 m_sz m_cs).bind (fun q28 => if q28 = 0 then (if v2_11 ≤ v3_11 then (L_X5_planFor_11 p1 m_sz m_ds m_cs K11 k11 (v3_11 + 1) v2_11) else ((M_X5_isBetter v2_11 v3_11 m_sz m_cs).bind (fun q42 => if q42 = 0 then ((M_X5_knownOn (p1 ||| v3_11) 14 m_sz m_ds).bind (fun q54 => (M_X5_all m_sz).bind (fun q58 => if q54 = q58 then (L_X5_planFor_11 p1 m_sz m_ds m_cs K11 k11 (v3_11 + 1) v3_11) else (L_X5_planFor_11 p1 m_sz m_ds m_cs K11 k11 (v3_11 + 1) v2_11)))) else (L_X5_planFor_11 p1 m_sz m_ds m_cs K11 k11 (v3_11 + 1) v2_11)))) else ((M_X5_knownOn (p1 ||| v3_11) 14 m_sz m_ds).bind (fun q54 => (M_X5_all m_sz).bind (fun q58 => if q54 = q58 then (L_X5_planFor_11 p1 m_sz m_ds m_cs K11 k11 (v3_11 + 1) v3_11) else (L_X5_planFor_11 p1 m_sz m_ds m_cs K11 k11 (v3_11 + 1) v2_11)))))) else (L_X5_planFor_11 p1 m_sz m_ds m_cs K11 k11 (v3_11 + 1) v2_11)))

def M_X5_planFor (p1 : Int32) (m_sz : Int32) (m_ds : Nat → Int32) (m_cs : Nat → Int32) : Option (Int32) := (M_X5_all m_sz).bind (fun q1 => L_X5_planFor_11 p1 m_sz m_ds m_cs (fun (v3_11 : Int32) (v2_11 : Int32) => some v2_11) 20000 0 (q1 &&& (p1 ^^^ (-1))))
/-! X5_plan -/
def L_X5_plan_54 (q17 : Int32) (m_sz : Int32) (m_ds : Nat → Int32) (m_kn : Int32) (K54 : Int32 → Option (Int32)) : Nat → Int32 → Option (Int32)
  | 0, _ => none
  | k54 + 1, v3_54 => (M_X5_knownOn (m_kn ||| q17) v3_54 m_sz m_ds).bind (fun q62 => (M_X5_all m_sz).bind (fun q66 => if q62 = q66 then (K54 v3_54) else (L_X5_plan_54 q17 m_sz m_ds m_kn K54 k54 (v3_54 + 1))))

def M_X5_plan (p1 : Int32) (m_sz : Int32) (m_ds : Nat → Int32) (m_cs : Nat → Int32) (m_kn : Int32) : Option (Int32) := (M_X5_in p1 0 3).bind (fun q3 => if q3 = 0 then (some (-2)) else ((M_X5_planFor m_kn m_sz m_ds m_cs).bind (fun q17 => if 3 ≤ p1 then (L_X5_plan_54 q17 m_sz m_ds m_kn (fun (v3_54 : Int32) => some v3_54) 40 0) else (if p1 = 0 then (some q17) else (if p1 = 1 then ((M_X5_costOf q17 m_sz m_cs).bind (fun q41 => some q41)) else ((M_X5_bits q17).bind (fun q48 => some q48)))))))
/-! X5_saves -/
def M_X5_saves (p1 : Int32) (m_sz : Int32) (m_ds : Nat → Int32) (m_cs : Nat → Int32) (m_kn : Int32) : Option (Int32) := (M_X5_isWord p1 m_sz).bind (fun q2 => if q2 = 0 then (some (-1)) else ((M_X5_planFor m_kn m_sz m_ds m_cs).bind (fun q16 => (M_X5_costOf q16 m_sz m_cs).bind (fun q19 => (M_X5_planFor (m_kn ||| ((1 : Int32) <<< (p1 &&& 31))) m_sz m_ds m_cs).bind (fun q32 => (M_X5_costOf q32 m_sz m_cs).bind (fun q35 => some (q19 - q35)))))))
/-! X5_isLeast -/
def L_X5_isLeast_9 (p1 : Int32) (m_sz : Int32) (m_ia : Nat → Int32) (K9 : Int32 → Int32 → Option (Int32)) : Nat → Int32 → Int32 → Option (Int32)
  | 0, _, _ => none
  | k9 + 1, v3_9, v2_9 => if m_sz ≤ v3_9 then (K9 v3_9 v2_9) else (if v2_9 = 0 then (L_X5_isLeast_9 p1 m_sz m_ia K9 k9 (v3_9 + 1) 0) else ((M_X5_has p1 v3_9).bind (fun q23 => if q23 = 0 then (L_X5_isLeast_9 p1 m_sz m_ia K9 k9 (v3_9 + 1) 1) else (if (p1 &&& (((1 : Int32) <<< (v3_9 &&& 31)) ^^^ (-1))) < 0 ∨ 16384 ≤ ((p1 &&& (((1 : Int32) <<< (v3_9 &&& 31)) ^^^ (-1)))).toNatClampNeg then none else (if (m_ia ((p1 &&& (((1 : Int32) <<< (v3_9 &&& 31)) ^^^ (-1)))).toNatClampNeg) = 0 then (L_X5_isLeast_9 p1 m_sz m_ia K9 k9 (v3_9 + 1) 1) else (L_X5_isLeast_9 p1 m_sz m_ia K9 k9 (v3_9 + 1) 0))))))

def M_X5_isLeast (p1 : Int32) (m_sz : Int32) (m_ia : Nat → Int32) : Option (Int32) := if p1 < 0 ∨ 16384 ≤ (p1).toNatClampNeg then none else (L_X5_isLeast_9 p1 m_sz m_ia (fun (v3_9 : Int32) (v2_9 : Int32) => if v2_9 = 0 ∨ v2_9 = 1 then some v2_9 else none) 40 0 (m_ia (p1).toNatClampNeg))
/-! X5_least -/
def L_X5_least_79 (p1 : Int32) (m_sz : Int32) (m_ia_30 : Nat → Int32) (K79 : Int32 → Int32 → Int32 → Int32 → Option (Int32 × (Nat → Int32))) : Nat → Int32 → Int32 → Int32 → Int32 → Option (Int32 × (Nat → Int32))
  | 0, _, _, _, _ => none
  | k79 + 1, v5_79, v4_79, v3_79, v2_79 => (M_X5_all m_sz).bind (fun q82 => if q82 < v5_79 then (K79 v5_79 v4_79 v3_79 v2_79) else ((M_X5_isLeast v5_79 m_sz m_ia_30).bind (fun q91 => if q91 = 0 then (L_X5_least_79 p1 m_sz m_ia_30 K79 k79 (v5_79 + 1) v4_79 v3_79 v2_79) else ((M_X5_bits v5_79).bind (fun q102 => if q102 ≤ v3_79 then (if p1 ≤ 9 then (L_X5_least_79 p1 m_sz m_ia_30 K79 k79 (v5_79 + 1) (v4_79 + 0) v3_79 (v2_79 + 1)) else ((M_X5_has v5_79 (p1 - 10)).bind (fun q133 => if q133 = 0 then (L_X5_least_79 p1 m_sz m_ia_30 K79 k79 (v5_79 + 1) (v4_79 + 0) v3_79 (v2_79 + 1)) else (L_X5_least_79 p1 m_sz m_ia_30 K79 k79 (v5_79 + 1) (v4_79 + 1) v3_79 (v2_79 + 1))))) else ((M_X5_bits v5_79).bind (fun q111 => if p1 ≤ 9 then (L_X5_least_79 p1 m_sz m_ia_30 K79 k79 (v5_79 + 1) (v4_79 + 0) q111 (v2_79 + 1)) else ((M_X5_has v5_79 (p1 - 10)).bind (fun q133 => if q133 = 0 then (L_X5_least_79 p1 m_sz m_ia_30 K79 k79 (v5_79 + 1) (v4_79 + 0) q111 (v2_79 + 1)) else (L_X5_least_79 p1 m_sz m_ia_30 K79 k79 (v5_79 + 1) (v4_79 + 1) q111 (v2_79 + 1)))))))))))

def L_X5_least_30 (m_sz : Int32) (m_ds : Nat → Int32) (K30 : Int32 → (Nat → Int32) → Option (Int32 × (Nat → Int32))) : Nat → Int32 → (Nat → Int32) → Option (Int32 × (Nat → Int32))
  | 0, _, _ => none
  | k30 + 1, v2_30, m_ia_30 => (M_X5_all m_sz).bind (fun q32 => if q32 < v2_30 then (K30 v2_30 m_ia_30) else ((M_X5_knownOn v2_30 14 m_sz m_ds).bind (fun q47 => (M_X5_all m_sz).bind (fun q51 => if q47 = q51 then (if v2_30 < 0 ∨ 16384 ≤ (v2_30).toNatClampNeg then none else (L_X5_least_30 m_sz m_ds K30 k30 (v2_30 + 1) (upd m_ia_30 (v2_30).toNatClampNeg (vp_nar .boolean 1)))) else (if v2_30 < 0 ∨ 16384 ≤ (v2_30).toNatClampNeg then none else (L_X5_least_30 m_sz m_ds K30 k30 (v2_30 + 1) (upd m_ia_30 (v2_30).toNatClampNeg (vp_nar .boolean 0))))))))

def M_X5_least (p1 : Int32) (m_sz : Int32) (m_ds : Nat → Int32) (m_ia : Nat → Int32) : Option (Int32 × (Nat → Int32)) := (M_X5_in p1 0 1).bind (fun q3 => if q3 = 0 then ((M_X5_in p1 10 (9 + m_sz)).bind (fun q19 => if q19 = 0 then (some ((-2), m_ia)) else (L_X5_least_30 m_sz m_ds (fun (v2_30 : Int32) (m_ia_30 : Nat → Int32) => L_X5_least_79 p1 m_sz m_ia_30 (fun (v5_79 : Int32) (v4_79 : Int32) (v3_79 : Int32) (v2_79 : Int32) => if p1 = 0 then (some (v2_79, m_ia_30)) else (if p1 = 1 then (some (v3_79, m_ia_30)) else (some (v4_79, m_ia_30)))) 20000 0 0 0 0) 20000 0 m_ia))) else (L_X5_least_30 m_sz m_ds (fun (v2_30 : Int32) (m_ia_30 : Nat → Int32) => L_X5_least_79 p1 m_sz m_ia_30 (fun (v5_79 : Int32) (v4_79 : Int32) (v3_79 : Int32) (v2_79 : Int32) => if p1 = 0 then (some (v2_79, m_ia_30)) else (if p1 = 1 then (some (v3_79, m_ia_30)) else (some (v4_79, m_ia_30)))) 20000 0 0 0 0) 20000 0 m_ia))
/-! X5_reached -/
def L_X5_reached_19 (m_sz : Int32) (m_ds : Nat → Int32) (v3_7 : Int32) (K19 : Int32 → Int32 → Option (Int32)) : Nat → Int32 → Int32 → Option (Int32)
  | 0, _, _ => none
  | k19 + 1, v6_19, v5_19 => if m_sz ≤ v6_19 then (K19 v6_19 v5_19) else ((M_X5_has v3_7 v6_19).bind (fun q33 => if q33 = 0 then (L_X5_reached_19 m_sz m_ds v3_7 K19 k19 (v6_19 + 1) (v5_19 ||| 0)) else (if v6_19 < 0 ∨ 14 ≤ (v6_19).toNatClampNeg then none else (if (m_ds (v6_19).toNatClampNeg) < 0 then (L_X5_reached_19 m_sz m_ds v3_7 K19 k19 (v6_19 + 1) (v5_19 ||| 0)) else (if v6_19 < 0 ∨ 14 ≤ (v6_19).toNatClampNeg then none else (L_X5_reached_19 m_sz m_ds v3_7 K19 k19 (v6_19 + 1) (v5_19 ||| (m_ds (v6_19).toNatClampNeg))))))))

def L_X5_reached_7 (p2 : Int32) (m_sz : Int32) (m_ds : Nat → Int32) (K7 : Int32 → Int32 → Option (Int32)) : Nat → Int32 → Int32 → Option (Int32)
  | 0, _, _ => none
  | k7 + 1, v4_7, v3_7 => if p2 ≤ v4_7 then (K7 v4_7 v3_7) else (L_X5_reached_19 m_sz m_ds v3_7 (fun (v6_19 : Int32) (v5_19 : Int32) => L_X5_reached_7 p2 m_sz m_ds K7 k7 (v4_7 + 1) v5_19) 40 0 0)

def M_X5_reached (p1 : Int32) (p2 : Int32) (m_sz : Int32) (m_ds : Nat → Int32) : Option (Int32) := L_X5_reached_7 p2 m_sz m_ds (fun (v4_7 : Int32) (v3_7 : Int32) => some v3_7) 40 0 ((1 : Int32) <<< (p1 &&& 31))
/-! X5_wayOf -/
def L_X5_wayOf_2 (p1 : Int32) (p2 : Int32) (m_sz : Int32) (m_ds : Nat → Int32) (K2 : Int32 → Option (Int32)) : Nat → Int32 → Option (Int32)
  | 0, _ => none
  | k2 + 1, v3_2 => if m_sz < v3_2 then (K2 v3_2) else ((M_X5_reached p1 v3_2 m_sz m_ds).bind (fun q13 => (M_X5_has q13 p2).bind (fun q17 => if q17 = 0 then (L_X5_wayOf_2 p1 p2 m_sz m_ds K2 k2 (v3_2 + 1)) else (some v3_2))))

def M_X5_wayOf (p1 : Int32) (p2 : Int32) (m_sz : Int32) (m_ds : Nat → Int32) : Option (Int32) := L_X5_wayOf_2 p1 p2 m_sz m_ds (fun (v3_2 : Int32) => some (-6)) 40 1
/-! X5_way -/
def M_X5_way (p1 : Int32) (p2 : Int32) (m_sz : Int32) (m_ds : Nat → Int32) : Option (Int32) := (M_X5_isWord p1 m_sz).bind (fun q2 => if q2 = 0 then (some (-1)) else ((M_X5_isWord p2 m_sz).bind (fun q10 => if q10 = 0 then (some (-1)) else ((M_X5_wayOf p1 p2 m_sz m_ds).bind (fun q19 => some q19)))))
/-! X5_ringOf -/
def L_X5_ringOf_15 (p1 : Int32) (m_sz : Int32) (m_ds : Nat → Int32) (K15 : Int32 → Int32 → Option (Int32)) : Nat → Int32 → Int32 → Option (Int32)
  | 0, _, _ => none
  | k15 + 1, v3_15, v2_15 => if m_sz ≤ v3_15 then (K15 v3_15 v2_15) else ((M_X5_wayOf p1 v3_15 m_sz m_ds).bind (fun q27 => if q27 ≤ 0 then (L_X5_ringOf_15 p1 m_sz m_ds K15 k15 (v3_15 + 1) (v2_15 ||| 0)) else ((M_X5_wayOf v3_15 p1 m_sz m_ds).bind (fun q36 => if q36 ≤ 0 then (L_X5_ringOf_15 p1 m_sz m_ds K15 k15 (v3_15 + 1) (v2_15 ||| 0)) else (L_X5_ringOf_15 p1 m_sz m_ds K15 k15 (v3_15 + 1) (v2_15 ||| ((1 : Int32) <<< (v3_15 &&& 31))))))))

def M_X5_ringOf (p1 : Int32) (m_sz : Int32) (m_ds : Nat → Int32) : Option (Int32) := (M_X5_wayOf p1 p1 m_sz m_ds).bind (fun q3 => if 0 ≤ q3 then (L_X5_ringOf_15 p1 m_sz m_ds (fun (v3_15 : Int32) (v2_15 : Int32) => some v2_15) 40 0 0) else (some 0))
/-! X5_ring -/
def L_X5_ring_15 (p1 : Int32) (m_sz : Int32) (m_ds : Nat → Int32) (K15 : Int32 → Int32 → Int32 → Option (Int32)) : Nat → Int32 → Int32 → Int32 → Option (Int32)
  | 0, _, _, _ => none
  | k15 + 1, v4_15, v3_15, v2_15 => if m_sz ≤ v4_15 then (K15 v4_15 v3_15 v2_15) else ((M_X5_ringOf v4_15 m_sz m_ds).bind (fun q27 => if q27 = 0 then (L_X5_ring_15 p1 m_sz m_ds K15 k15 (v4_15 + 1) v3_15 v2_15) else ((M_X5_has v2_15 v4_15).bind (fun q40 => if q40 = 0 then (if v3_15 = p1 then (some q27) else (L_X5_ring_15 p1 m_sz m_ds K15 k15 (v4_15 + 1) (v3_15 + 1) (v2_15 ||| q27))) else (L_X5_ring_15 p1 m_sz m_ds K15 k15 (v4_15 + 1) v3_15 v2_15)))))

def M_X5_ring (p1 : Int32) (m_sz : Int32) (m_ds : Nat → Int32) : Option (Int32) := if (-1) ≤ p1 then (L_X5_ring_15 p1 m_sz m_ds (fun (v4_15 : Int32) (v3_15 : Int32) (v2_15 : Int32) => if p1 = (-1) then (some v3_15) else (some (-6))) 40 0 0 0) else (some (-2))
/-! X5_ringed -/
def L_X5_ringed_4 (m_sz : Int32) (m_ds : Nat → Int32) (K4 : Int32 → Int32 → Option (Int32)) : Nat → Int32 → Int32 → Option (Int32)
  | 0, _, _ => none
  | k4 + 1, v2_4, v1_4 => if m_sz ≤ v2_4 then (K4 v2_4 v1_4) else ((M_X5_ringOf v2_4 m_sz m_ds).bind (fun q15 => L_X5_ringed_4 m_sz m_ds K4 k4 (v2_4 + 1) (v1_4 ||| q15)))

def M_X5_ringed (m_sz : Int32) (m_ds : Nat → Int32) : Option (Int32) := L_X5_ringed_4 m_sz m_ds (fun (v2_4 : Int32) (v1_4 : Int32) => some v1_4) 40 0 0
/-! X5_lies -/
def L_X5_lies_11 (p1 : Int32) (p2 : Int32) (m_sz : Int32) (m_ds : Nat → Int32) (q1 : Int32) (K11 : Int32 → Int32 → Option (Int32)) : Nat → Int32 → Int32 → Option (Int32)
  | 0, _, _ => none
  | k11 + 1, v5_11, v4_11 => if m_sz ≤ v5_11 then (K11 v5_11 v4_11) else (if v4_11 = 0 then ((M_X5_has q1 v5_11).bind (fun q28 => if q28 = 0 then (L_X5_lies_11 p1 p2 m_sz m_ds q1 K11 k11 (v5_11 + 1) 0) else (if p2 = 1 then ((M_X5_wayOf v5_11 p1 m_sz m_ds).bind (fun q43 => if q43 ≤ 0 then (L_X5_lies_11 p1 p2 m_sz m_ds q1 K11 k11 (v5_11 + 1) 0) else (L_X5_lies_11 p1 p2 m_sz m_ds q1 K11 k11 (v5_11 + 1) 1))) else ((M_X5_wayOf p1 v5_11 m_sz m_ds).bind (fun q53 => if q53 ≤ 0 then (L_X5_lies_11 p1 p2 m_sz m_ds q1 K11 k11 (v5_11 + 1) 0) else (L_X5_lies_11 p1 p2 m_sz m_ds q1 K11 k11 (v5_11 + 1) 1)))))) else (L_X5_lies_11 p1 p2 m_sz m_ds q1 K11 k11 (v5_11 + 1) 1))

def M_X5_lies (p1 : Int32) (p2 : Int32) (m_sz : Int32) (m_ds : Nat → Int32) : Option (Int32) := (M_X5_ringed m_sz m_ds).bind (fun q1 => L_X5_lies_11 p1 p2 m_sz m_ds q1 (fun (v5_11 : Int32) (v4_11 : Int32) => if v4_11 = 0 then (some 0) else ((M_X5_has q1 p1).bind (fun q79 => if q79 = 0 then (some 1) else (some 0)))) 40 0 0)
/-! X5_lie -/
def L_X5_lie_16 (p1 : Int32) (m_sz : Int32) (m_ds : Nat → Int32) (K16 : Int32 → Int32 → Option (Int32)) : Nat → Int32 → Int32 → Option (Int32)
  | 0, _, _ => none
  | k16 + 1, v3_16, v2_16 => if m_sz ≤ v3_16 then (K16 v3_16 v2_16) else (if p1 = 0 then ((M_X5_ringOf v3_16 m_sz m_ds).bind (fun q30 => if q30 = 0 then (L_X5_lie_16 p1 m_sz m_ds K16 k16 (v3_16 + 1) (v2_16 ||| 0)) else (L_X5_lie_16 p1 m_sz m_ds K16 k16 (v3_16 + 1) (v2_16 ||| ((1 : Int32) <<< (v3_16 &&& 31)))))) else (if p1 = 3 then ((M_X5_usersOf v3_16 m_sz m_ds).bind (fun q51 => if q51 = 0 then (L_X5_lie_16 p1 m_sz m_ds K16 k16 (v3_16 + 1) (v2_16 ||| ((1 : Int32) <<< (v3_16 &&& 31)))) else (L_X5_lie_16 p1 m_sz m_ds K16 k16 (v3_16 + 1) (v2_16 ||| 0)))) else (if p1 = 4 then (if v3_16 < 0 ∨ 14 ≤ (v3_16).toNatClampNeg then none else (if 0 ≤ (m_ds (v3_16).toNatClampNeg) then (L_X5_lie_16 p1 m_sz m_ds K16 k16 (v3_16 + 1) (v2_16 ||| 0)) else (L_X5_lie_16 p1 m_sz m_ds K16 k16 (v3_16 + 1) (v2_16 ||| ((1 : Int32) <<< (v3_16 &&& 31)))))) else ((M_X5_lies v3_16 p1 m_sz m_ds).bind (fun q90 => if q90 = 0 then (L_X5_lie_16 p1 m_sz m_ds K16 k16 (v3_16 + 1) (v2_16 ||| 0)) else (L_X5_lie_16 p1 m_sz m_ds K16 k16 (v3_16 + 1) (v2_16 ||| ((1 : Int32) <<< (v3_16 &&& 31)))))))))

def M_X5_lie (p1 : Int32) (m_sz : Int32) (m_ds : Nat → Int32) : Option (Int32) := (M_X5_in p1 0 4).bind (fun q3 => if q3 = 0 then (some (-2)) else (L_X5_lie_16 p1 m_sz m_ds (fun (v3_16 : Int32) (v2_16 : Int32) => some v2_16) 40 0 0))
/-! X5_image -/
def L_X5_image_42 (p1 : Int32) (m_ds : Nat → Int32) (m_cs : Nat → Int32) (K42 : Int32 → (Nat → Int32) → Option (Int32 × (Nat → Int32) × (Nat → Int32))) : Nat → Int32 → (Nat → Int32) → Option (Int32 × (Nat → Int32) × (Nat → Int32))
  | 0, _, _ => none
  | k42 + 1, v2_42, m_im_42 => if 14 ≤ v2_42 then (K42 v2_42 m_im_42) else (if v2_42 < 0 ∨ 14 ≤ (v2_42).toNatClampNeg then none else (if (((30 * p1) + 2) + v2_42) < 0 ∨ 60 ≤ ((((30 * p1) + 2) + v2_42)).toNatClampNeg then none else (if v2_42 < 0 ∨ 14 ≤ (v2_42).toNatClampNeg then none else (if (((30 * p1) + 16) + v2_42) < 0 ∨ 60 ≤ ((((30 * p1) + 16) + v2_42)).toNatClampNeg then none else (L_X5_image_42 p1 m_ds m_cs K42 k42 (v2_42 + 1) (upd (upd m_im_42 ((((30 * p1) + 2) + v2_42)).toNatClampNeg (m_ds (v2_42).toNatClampNeg)) ((((30 * p1) + 16) + v2_42)).toNatClampNeg (m_cs (v2_42).toNatClampNeg)))))))

def M_X5_image (p1 : Int32) (m_sz : Int32) (m_ds : Nat → Int32) (m_cs : Nat → Int32) (m_kn : Int32) (m_im : Nat → Int32) (m_ik : Nat → Int32) : Option (Int32 × (Nat → Int32) × (Nat → Int32)) := (M_X5_in p1 0 1).bind (fun q3 => if q3 = 0 then (some ((-2), m_im, m_ik)) else (if (30 * p1) < 0 ∨ 60 ≤ ((30 * p1)).toNatClampNeg then none else (if ((30 * p1) + 1) < 0 ∨ 60 ≤ (((30 * p1) + 1)).toNatClampNeg then none else (L_X5_image_42 p1 m_ds m_cs (fun (v2_42 : Int32) (m_im_42 : Nat → Int32) => if p1 < 0 ∨ 2 ≤ (p1).toNatClampNeg then none else (some (1, m_im_42, (upd m_ik (p1).toNatClampNeg (vp_nar .boolean 1))))) 40 0 (upd (upd m_im ((30 * p1)).toNatClampNeg m_sz) (((30 * p1) + 1)).toNatClampNeg m_kn)))))
/-! X5_restore -/
def L_X5_restore_54 (p1 : Int32) (m_im : Nat → Int32) (K54 : Int32 → (Nat → Int32) → (Nat → Int32) → Option (Int32 × Int32 × Int32 × (Nat → Int32) × (Nat → Int32))) : Nat → Int32 → (Nat → Int32) → (Nat → Int32) → Option (Int32 × Int32 × Int32 × (Nat → Int32) × (Nat → Int32))
  | 0, _, _, _ => none
  | k54 + 1, v2_54, m_ds_54, m_cs_54 => if 14 ≤ v2_54 then (K54 v2_54 m_ds_54 m_cs_54) else (if (((30 * p1) + 2) + v2_54) < 0 ∨ 60 ≤ ((((30 * p1) + 2) + v2_54)).toNatClampNeg then none else (if v2_54 < 0 ∨ 14 ≤ (v2_54).toNatClampNeg then none else (if (((30 * p1) + 16) + v2_54) < 0 ∨ 60 ≤ ((((30 * p1) + 16) + v2_54)).toNatClampNeg then none else (if v2_54 < 0 ∨ 14 ≤ (v2_54).toNatClampNeg then none else (L_X5_restore_54 p1 m_im K54 k54 (v2_54 + 1) (upd m_ds_54 (v2_54).toNatClampNeg (m_im ((((30 * p1) + 2) + v2_54)).toNatClampNeg)) (upd m_cs_54 (v2_54).toNatClampNeg (m_im ((((30 * p1) + 16) + v2_54)).toNatClampNeg)))))))

def M_X5_restore (p1 : Int32) (m_sz : Int32) (m_ds : Nat → Int32) (m_cs : Nat → Int32) (m_kn : Int32) (m_im : Nat → Int32) (m_ik : Nat → Int32) : Option (Int32 × Int32 × Int32 × (Nat → Int32) × (Nat → Int32)) := (M_X5_in p1 0 1).bind (fun q3 => if q3 = 0 then (some ((-2), m_sz, m_kn, m_ds, m_cs)) else (if p1 < 0 ∨ 2 ≤ (p1).toNatClampNeg then none else (if (m_ik (p1).toNatClampNeg) = 0 then (some ((-3), m_sz, m_kn, m_ds, m_cs)) else (if (30 * p1) < 0 ∨ 60 ≤ ((30 * p1)).toNatClampNeg then none else (if ((30 * p1) + 1) < 0 ∨ 60 ≤ (((30 * p1) + 1)).toNatClampNeg then none else (L_X5_restore_54 p1 m_im (fun (v2_54 : Int32) (m_ds_54 : Nat → Int32) (m_cs_54 : Nat → Int32) => some (1, (m_im ((30 * p1)).toNatClampNeg), (m_im (((30 * p1) + 1)).toNatClampNeg), m_ds_54, m_cs_54)) 40 0 m_ds m_cs))))))
/-! X5_count -/
def L_X5_count_33 (m_sz : Int32) (m_ds : Nat → Int32) (K33 : Int32 → Int32 → Int32 → Option (Int32)) : Nat → Int32 → Int32 → Int32 → Option (Int32)
  | 0, _, _, _ => none
  | k33 + 1, v4_33, v3_33, v2_33 => if m_sz ≤ v4_33 then (K33 v4_33 v3_33 v2_33) else (if v4_33 < 0 ∨ 14 ≤ (v4_33).toNatClampNeg then none else (if (m_ds (v4_33).toNatClampNeg) < 0 then (if v4_33 < 0 ∨ 14 ≤ (v4_33).toNatClampNeg then none else (if (m_ds (v4_33).toNatClampNeg) < 0 then (L_X5_count_33 m_sz m_ds K33 k33 (v4_33 + 1) (v3_33 + 0) (v2_33 + 0)) else (if v4_33 < 0 ∨ 14 ≤ (v4_33).toNatClampNeg then none else ((M_X5_bits (m_ds (v4_33).toNatClampNeg)).bind (fun q78 => L_X5_count_33 m_sz m_ds K33 k33 (v4_33 + 1) (v3_33 + q78) (v2_33 + 0)))))) else (if v4_33 < 0 ∨ 14 ≤ (v4_33).toNatClampNeg then none else (if (m_ds (v4_33).toNatClampNeg) < 0 then (L_X5_count_33 m_sz m_ds K33 k33 (v4_33 + 1) (v3_33 + 0) (v2_33 + 1)) else (if v4_33 < 0 ∨ 14 ≤ (v4_33).toNatClampNeg then none else ((M_X5_bits (m_ds (v4_33).toNatClampNeg)).bind (fun q78 => L_X5_count_33 m_sz m_ds K33 k33 (v4_33 + 1) (v3_33 + q78) (v2_33 + 1))))))))

def M_X5_count (p1 : Int32) (m_sz : Int32) (m_ds : Nat → Int32) (m_cs : Nat → Int32) (m_kn : Int32) (m_sg : Int32) (m_fa : Int32) (m_ik : Nat → Int32) : Option (Int32) := (M_X5_in p1 10 (9 + m_sz)).bind (fun q10 => if q10 = 0 then (L_X5_count_33 m_sz m_ds (fun (v4_33 : Int32) (v3_33 : Int32) (v2_33 : Int32) => if p1 = 0 then (some m_sz) else (if p1 = 1 then (some m_kn) else (if p1 = 2 then (some v2_33) else (if p1 = 3 then (some v3_33) else (if p1 = 4 then (some m_sg) else (if p1 = 5 then (some m_fa) else (if p1 = 6 then (if (m_ik (0 : Int32).toNatClampNeg) = 0 then (if (m_ik (1 : Int32).toNatClampNeg) = 0 then (some ((0 : Int32) + 0)) else (some ((0 : Int32) + 2))) else (if (m_ik (1 : Int32).toNatClampNeg) = 0 then (some ((1 : Int32) + 0)) else (some ((1 : Int32) + 2)))) else (some (-2))))))))) 40 0 0 0) else (if (p1 - 10) < 0 ∨ 14 ≤ ((p1 - 10)).toNatClampNeg then none else (some (m_cs ((p1 - 10)).toNatClampNeg))))
