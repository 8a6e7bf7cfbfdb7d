/-! sets of words as numbers: differences, parts, how many; chains that grow come to rest -/
def zdif (x y : Nat) : Nat := x ^^^ (x &&& y)
theorem zdif_bit (x y i : Nat) : (zdif x y).testBit i = (x.testBit i && !y.testBit i) := by
  unfold zdif
  rw [Nat.testBit_xor, Nat.testBit_and]
  cases x.testBit i <;> cases y.testBit i <;> rfl
def zsub (x y : Nat) : Prop := ∀ i, x.testBit i = true → y.testBit i = true
theorem zsub_refl (x : Nat) : zsub x x := fun _ h => h
theorem zsub_trans {x y z : Nat} (h : zsub x y) (g : zsub y z) : zsub x z := fun i hi => g i (h i hi)
theorem zsub_le {x y : Nat} (h : zsub x y) : x ≤ y := Nat.le_of_testBit h
theorem zsub_anti {x y : Nat} (h : zsub x y) (g : zsub y x) : x = y := Nat.eq_of_testBit_eq fun i => by
  cases hx : x.testBit i with
  | true => rw [h i hx]
  | false =>
    cases hy : y.testBit i with
    | true => rw [g i hy] at hx; cases hx
    | false => rfl
theorem zsub_lt {x y : Nat} (h : zsub x y) (hne : x ≠ y) : x < y := Nat.lt_of_le_of_ne (zsub_le h) hne
theorem zero_of_bits {x : Nat} (h : ∀ i, x.testBit i = false) : x = 0 := Nat.eq_of_testBit_eq fun i => by rw [h i, Nat.zero_testBit]
theorem bit_of_ne {x : Nat} (h : x ≠ 0) : ∃ i, x.testBit i = true := Nat.exists_testBit_of_ne_zero h
theorem ne_of_bit {x i : Nat} (h : x.testBit i = true) : x ≠ 0 := fun e => by rw [e, Nat.zero_testBit] at h; cases h
theorem zdif_zero {x y : Nat} : zdif x y = 0 ↔ zsub x y := by
  constructor
  · intro h i hi
    have h1 := zdif_bit x y i
    rw [h, Nat.zero_testBit, hi] at h1
    cases hy : y.testBit i with
    | true => rfl
    | false => rw [hy] at h1; cases h1
  · intro h
    refine zero_of_bits fun i => ?_
    rw [zdif_bit]
    cases hx : x.testBit i with
    | false => rfl
    | true => rw [h i hx]; rfl
theorem zlt_bit {x n i : Nat} (h : x < 2 ^ n) (hi : n ≤ i) : x.testBit i = false := Nat.testBit_lt_two_pow (Nat.lt_of_lt_of_le h (Nat.pow_le_pow_right (by decide) hi))
theorem zbit_lt {x n i : Nat} (h : x < 2 ^ n) (hi : x.testBit i = true) : i < n := by
  rcases Nat.lt_or_ge i n with g | g
  · exact g
  · rw [zlt_bit h g] at hi; cases hi
theorem zlt_of {x n : Nat} (h : ∀ i, x.testBit i = true → i < n) : x < 2 ^ n := Nat.lt_pow_two_of_testBit x fun i hi => by
  cases hx : x.testBit i with
  | false => rfl
  | true => exact absurd (h i hx) (Nat.not_lt.mpr hi)
theorem zfull_bit (n i : Nat) : (2 ^ n - 1).testBit i = decide (i < n) := Nat.testBit_two_pow_sub_one n i
theorem zsub_full {x n : Nat} : zsub x (2 ^ n - 1) ↔ x < 2 ^ n := by
  constructor
  · intro h
    exact zlt_of fun i hi => by have := h i hi; rw [zfull_bit] at this; exact of_decide_eq_true this
  · intro h i hi
    rw [zfull_bit]; exact decide_eq_true (zbit_lt h hi)
theorem zsub_lt2 {x y n : Nat} (h : zsub x y) (hy : y < 2 ^ n) : x < 2 ^ n := Nat.lt_of_le_of_lt (zsub_le h) hy
theorem zdif_lt {x y n : Nat} (h : x < 2 ^ n) : zdif x y < 2 ^ n := zlt_of fun i hi => by
  rw [zdif_bit] at hi
  exact zbit_lt h (by cases hx : x.testBit i with | true => rfl | false => rw [hx] at hi; cases hi)
theorem zdif_sub (x y : Nat) : zsub (zdif x y) x := fun i hi => by
  rw [zdif_bit] at hi
  cases hx : x.testBit i with | true => rfl | false => rw [hx] at hi; cases hi
theorem zone_bit (w i : Nat) : (2 ^ w).testBit i = decide (w = i) := Nat.testBit_two_pow
/-- how many words of a set lie below n -/
def zpc (S : Nat) : Nat → Nat
  | 0 => 0
  | n + 1 => zpc S n + (if S.testBit n then 1 else 0)
theorem zpc_le (S n : Nat) : zpc S n ≤ n := by
  induction n with
  | zero => exact Nat.le_refl 0
  | succ n ih =>
    show zpc S n + _ ≤ n + 1
    split <;> omega
theorem zpc_mono {S T : Nat} (h : zsub S T) (n : Nat) : zpc S n ≤ zpc T n := by
  induction n with
  | zero => exact Nat.le_refl 0
  | succ n ih =>
    show zpc S n + _ ≤ zpc T n + _
    cases hs : S.testBit n with
    | true => rw [h n hs]; simp; exact ih
    | false => simp; exact Nat.le_trans ih (Nat.le_add_right _ _)
theorem zpc_strict {S T : Nat} (h : zsub S T) {i : Nat} (hi : T.testBit i = true) (hs : S.testBit i = false) (n : Nat) (hn : i < n) : zpc S n < zpc T n := by
  induction n with
  | zero => omega
  | succ n ih =>
    show zpc S n + _ < zpc T n + _
    by_cases e : i = n
    · subst e
      rw [hs, hi]
      have := zpc_mono h i
      simp; omega
    · have := ih (by omega)
      cases h2 : S.testBit n with
      | true => rw [h n h2]; simp; exact this
      | false => simp; exact Nat.lt_of_lt_of_le this (Nat.le_add_right _ _)
theorem zpc_lt {S T n : Nat} (h : zsub S T) (hT : T < 2 ^ n) (hne : S ≠ T) : zpc S n < zpc T n := by
  have : ∃ i, T.testBit i = true ∧ S.testBit i = false := by
    apply Classical.byContradiction
    intro hc
    exact hne (zsub_anti h fun i hi => by
      cases hs : S.testBit i with
      | true => rfl
      | false => exact absurd ⟨i, hi, hs⟩ hc)
  obtain ⟨i, hi, hs⟩ := this
  exact zpc_strict h hi hs n (zbit_lt hT hi)
/-- a chain of sets of words below n that grows by one rule rests behind n steps -/
theorem zchain_st (f : Nat → Nat) (X : Nat → Nat) (hX : ∀ k, X (k + 1) = f (X k)) {k : Nat} (h : X (k + 1) = X k) : ∀ m, k ≤ m → X m = X k := by
  intro m hm
  induction m with
  | zero => rw [show k = 0 by omega]
  | succ m ih =>
    by_cases e : k = m + 1
    · rw [e]
    · rw [hX m, ih (by omega), ← hX k, h]
theorem zchain (f : Nat → Nat) (n : Nat) (X : Nat → Nat) (hX : ∀ k, X (k + 1) = f (X k)) (hs : ∀ k, zsub (X k) (X (k + 1))) (hb : ∀ k, X k < 2 ^ n) : ∀ m, n ≤ m → X m = X n := by
  refine zchain_st f X hX ?_
  apply Classical.byContradiction
  intro hc
  have hne : ∀ k, k ≤ n → X k ≠ X (k + 1) := fun k hk e => hc (by
    rw [zchain_st f X hX e.symm (n + 1) (by omega), zchain_st f X hX e.symm n hk])
  have hp : ∀ k, k ≤ n + 1 → k ≤ zpc (X k) n := by
    intro k
    induction k with
    | zero => intro _; exact Nat.zero_le _
    | succ k ih =>
      intro hk
      have h1 := ih (by omega)
      have h2 := zpc_lt (hs k) (hb (k + 1)) (hne k (by omega))
      omega
  have h1 := hp (n + 1) (Nat.le_refl _)
  have h2 := zpc_le (X (n + 1)) n
  omega
/-! loops by the row of their states -/
theorem loop_seq {S α : Type} (Lf : Nat → S → Option α) (st : Nat → S) (n : Nat) (r : Option α) (hs : ∀ k i, i < n → Lf (k + 1) (st i) = Lf k (st (i + 1))) (he : ∀ k, Lf (k + 1) (st n) = r) : ∀ (j i fuel : Nat), i + j = n → j < fuel → Lf fuel (st i) = r := by
  intro j
  induction j with
  | zero =>
    intro i fuel h1 h2
    obtain ⟨k, rfl⟩ : ∃ k, fuel = k + 1 := ⟨fuel - 1, by omega⟩
    rw [show i = n by omega]
    exact he k
  | succ j ih =>
    intro i fuel h1 h2
    obtain ⟨k, rfl⟩ : ∃ k, fuel = k + 1 := ⟨fuel - 1, by omega⟩
    rw [hs k i (by omega)]
    exact ih (i + 1) k (by omega) (by omega)
theorem first_of (P : Nat → Prop) (n : Nat) : (∀ k, k < n → ¬ P k) ∨ ∃ k, k < n ∧ P k ∧ ∀ j, j < k → ¬ P j := by
  induction n with
  | zero => exact Or.inl fun k h => absurd h (Nat.not_lt_zero k)
  | succ n ih =>
    rcases ih with h | ⟨k, h1, h2, h3⟩
    · by_cases hp : P n
      · exact Or.inr ⟨n, Nat.lt_succ_self n, hp, h⟩
      · refine Or.inl fun k hk => ?_
        by_cases e : k = n
        · rw [e]; exact hp
        · exact h k (by omega)
    · exact Or.inr ⟨k, by omega, h2, h3⟩
