/-! ints by their bits (rows of kit/laws/BITS and NUMBERS to begin with) -/
def bt (x : Int32) (i : Nat) : Bool := x.toBitVec.getLsbD i
theorem b_ext {x y : Int32} (h : ∀ i, i < 32 → bt x i = bt y i) : x = y := Int32.toBitVec_inj.mp (BitVec.eq_of_getLsbD_eq (fun i hi => h i hi))
theorem b_or (x y : Int32) (i : Nat) : bt (x ||| y) i = (bt x i || bt y i) := by unfold bt; rw [Int32.toBitVec_or, BitVec.getLsbD_or]
theorem b_and (x y : Int32) (i : Nat) : bt (x &&& y) i = (bt x i && bt y i) := by unfold bt; rw [Int32.toBitVec_and, BitVec.getLsbD_and]
theorem b_xor (x y : Int32) (i : Nat) : bt (x ^^^ y) i = (bt x i ^^ bt y i) := by unfold bt; rw [Int32.toBitVec_xor, BitVec.getLsbD_xor]
theorem b_m1 : ∀ i, i < 32 → bt (-1) i = true := by decide +kernel
theorem s_l : ∀ n, n < 32 → ((nI n &&& 31).toBitVec.smod 32).toNat = n := by decide +kernel
theorem b_nI (a i : Nat) (hi : i < 32) : bt (nI a) i = a.testBit i := by
  show (BitVec.ofNat 32 a).getLsbD i = _
  rw [BitVec.getLsbD_ofNat, decide_eq_true hi, Bool.true_and]
theorem i_or (a b : Nat) : nI a ||| nI b = nI (a ||| b) := b_ext fun i hi => by rw [b_or, b_nI _ _ hi, b_nI _ _ hi, b_nI _ _ hi, Nat.testBit_or]
theorem i_and (a b : Nat) : nI a &&& nI b = nI (a &&& b) := b_ext fun i hi => by rw [b_and, b_nI _ _ hi, b_nI _ _ hi, b_nI _ _ hi, Nat.testBit_and]
theorem i_dif (a b : Nat) : nI a &&& (nI b ^^^ (-1)) = nI (zdif a b) := b_ext fun i hi => by
  rw [b_and, b_xor, b_m1 i hi, b_nI _ _ hi, b_nI _ _ hi, b_nI _ _ hi, zdif_bit]
  cases a.testBit i <;> cases b.testBit i <;> rfl
theorem i_of (x : Int32) : ∃ a : Nat, a < 2 ^ 32 ∧ x = nI a := ⟨x.toBitVec.toNat, x.toBitVec.isLt, Int32.toBitVec_inj.mp (by
  show x.toBitVec = BitVec.ofNat 32 x.toBitVec.toNat
  simp)⟩
theorem i_eq {a b : Nat} (ha : a < 2 ^ 32) (hb : b < 2 ^ 32) : nI a = nI b ↔ a = b := by
  constructor
  · intro h
    have h1 : (nI a).toBitVec.toNat = (nI b).toBitVec.toNat := by rw [h]
    rwa [pk_tn ha, pk_tn hb] at h1
  · intro h; rw [h]
theorem i_zero {a : Nat} (ha : a < 2 ^ 32) : nI a = 0 ↔ a = 0 := i_eq (b := 0) ha (by decide)
theorem i_one {w : Nat} (hw : w < 32) : (1 : Int32) <<< (nI w &&& 31) = nI (2 ^ w) := by
  apply Int32.toBitVec_inj.mp
  rw [Int32.toBitVec_shiftLeft]
  show (1 : Int32).toBitVec <<< ((nI w &&& 31).toBitVec.smod 32).toNat = BitVec.ofNat 32 (2 ^ w)
  rw [s_l w hw]
  apply BitVec.eq_of_toNat_eq
  have : (2 : Nat) ^ w < 2 ^ 32 := Nat.pow_lt_pow_right (by decide) hw
  show (1 <<< w) % 2 ^ 32 = 2 ^ w % 2 ^ 32
  rw [Nat.one_shiftLeft]
theorem i_all {n : Nat} (hn : n < 32) : ((1 : Int32) <<< (nI n &&& 31)) - 1 = nI (2 ^ n - 1) := by
  rw [i_one hn]
  exact pk_sub (Nat.two_pow_pos n)
theorem i_shr {a w : Nat} (ha : a < 2 ^ 31) (hw : w < 32) : nI a >>> (nI w &&& 31) = nI (a / 2 ^ w) := pk_shrN ha _ w (s_l w hw)
theorem i_bit {a w : Nat} (ha : a < 2 ^ 31) (hw : w < 32) : (nI a >>> (nI w &&& 31)) &&& 1 = if a.testBit w then 1 else 0 := by
  rw [i_shr ha hw]
  have h : nI (a / 2 ^ w) &&& 1 = nI ((a / 2 ^ w) % 2) := by
    rw [← Nat.and_one_is_mod]
    exact i_and _ 1
  rw [h, Nat.testBit_eq_decide_div_mod_eq]
  rcases Nat.mod_two_eq_zero_or_one (a / 2 ^ w) with e | e
  · rw [e]; rfl
  · rw [e]; rfl
theorem i_bit0 {a w : Nat} (ha : a < 2 ^ 31) (hw : w < 32) : ((nI a >>> (nI w &&& 31)) &&& 1 = 0) ↔ a.testBit w = false := by
  rw [i_bit ha hw]
  cases a.testBit w <;> decide
theorem i_bit1 {a w : Nat} (ha : a < 2 ^ 31) (hw : w < 32) : ((nI a >>> (nI w &&& 31)) &&& 1 = 1) ↔ a.testBit w = true := by
  rw [i_bit ha hw]
  cases a.testBit w <;> decide
theorem i_or0 (x : Int32) : x ||| 0 = x := b_ext fun i hi => by
  rw [b_or]
  have : bt 0 i = false := BitVec.getLsbD_zero
  rw [this, Bool.or_false]
theorem i_add0 (x : Int32) : x + 0 = x := by simp
theorem i_in {i N : Nat} (h : i < N) (hN : N < 2 ^ 31) : ¬ (nI i < 0 ∨ N ≤ (nI i).toNatClampNeg) := nI_in h hN
theorem i_cl {i : Nat} (h : i < 2 ^ 31) : (nI i).toNatClampNeg = i := nI_clamp h
theorem p14 {n : Nat} (h : n ≤ 14) : 2 ^ n ≤ 16384 := Nat.pow_le_pow_right (n := 2) (by decide) h
theorem lt31 {x n : Nat} (h : x < 2 ^ n) (hn : n ≤ 14) : x < 2 ^ 31 := Nat.lt_trans (Nat.lt_of_lt_of_le h (p14 hn)) (by decide)
theorem lt32 {x n : Nat} (h : x < 2 ^ n) (hn : n ≤ 14) : x < 2 ^ 32 := Nat.lt_trans (lt31 h hn) (by decide)
theorem lt14 {x n : Nat} (h : x < 2 ^ n) (hn : n ≤ 14) : x < 2 ^ 14 := Nat.lt_of_lt_of_le h (Nat.pow_le_pow_right (by decide) hn)
theorem ite_ff {α : Type} (a b : α) : (if false = true then a else b) = b := rfl
theorem ite_tt {α : Type} (a b : α) : (if true = true then a else b) = a := rfl
theorem n14 {i : Nat} (h : i < 14) : ¬ (14 : Int32) ≤ nI i := nI_ge (b := 14) h (by decide)
theorem l14 : (14 : Int32) ≤ nI 14 := nI_le (b := 14) (Nat.le_refl 14) (by decide)
theorem ob_sb {α β : Type} (a : α) (f : α → Option β) : (some a).bind f = f a := rfl
