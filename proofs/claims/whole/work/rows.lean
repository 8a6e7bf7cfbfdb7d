section
/-! sets of words as numbers: differences, parts, how many; chains that grow come to rest -/
def zdif (x y : Nat) : Nat := x ^^^ (x &&& y)
theorem zdif_bit (x y i : Nat) : (zdif x y).testBit i = (x.testBit i && !y.testBit i) := by
  unfold zdif
  rw [Nat.testBit_xor, Nat.testBit_and]
  cases x.testBit i <;> cases y.testBit i <;> rfl
def zsub (x y : Nat) : Prop := ∀ i, x.testBit i = true → y.testBit i = true
theorem zsub_refl (x : Nat) : zsub x x := fun _ h => h
theorem zsub_trans {x y z : Nat} (h : zsub x y) (g : zsub y z) : zsub x z := fun i hi => g i (h i hi)
theorem zsub_le {x y : Nat} (h : zsub x y) : x ≤ y := Nat.le_of_testBit h
theorem zsub_anti {x y : Nat} (h : zsub x y) (g : zsub y x) : x = y := Nat.eq_of_testBit_eq fun i => by
  cases hx : x.testBit i with
  | true => rw [h i hx]
  | false =>
    cases hy : y.testBit i with
    | true => rw [g i hy] at hx; cases hx
    | false => rfl
theorem zsub_lt {x y : Nat} (h : zsub x y) (hne : x ≠ y) : x < y := Nat.lt_of_le_of_ne (zsub_le h) hne
theorem zero_of_bits {x : Nat} (h : ∀ i, x.testBit i = false) : x = 0 := Nat.eq_of_testBit_eq fun i => by rw [h i, Nat.zero_testBit]
theorem bit_of_ne {x : Nat} (h : x ≠ 0) : ∃ i, x.testBit i = true := Nat.exists_testBit_of_ne_zero h
theorem ne_of_bit {x i : Nat} (h : x.testBit i = true) : x ≠ 0 := fun e => by rw [e, Nat.zero_testBit] at h; cases h
theorem zdif_zero {x y : Nat} : zdif x y = 0 ↔ zsub x y := by
  constructor
  · intro h i hi
    have h1 := zdif_bit x y i
    rw [h, Nat.zero_testBit, hi] at h1
    cases hy : y.testBit i with
    | true => rfl
    | false => rw [hy] at h1; cases h1
  · intro h
    refine zero_of_bits fun i => ?_
    rw [zdif_bit]
    cases hx : x.testBit i with
    | false => rfl
    | true => rw [h i hx]; rfl
theorem zlt_bit {x n i : Nat} (h : x < 2 ^ n) (hi : n ≤ i) : x.testBit i = false := Nat.testBit_lt_two_pow (Nat.lt_of_lt_of_le h (Nat.pow_le_pow_right (by decide) hi))
theorem zbit_lt {x n i : Nat} (h : x < 2 ^ n) (hi : x.testBit i = true) : i < n := by
  rcases Nat.lt_or_ge i n with g | g
  · exact g
  · rw [zlt_bit h g] at hi; cases hi
theorem zlt_of {x n : Nat} (h : ∀ i, x.testBit i = true → i < n) : x < 2 ^ n := Nat.lt_pow_two_of_testBit x fun i hi => by
  cases hx : x.testBit i with
  | false => rfl
  | true => exact absurd (h i hx) (Nat.not_lt.mpr hi)
theorem zfull_bit (n i : Nat) : (2 ^ n - 1).testBit i = decide (i < n) := Nat.testBit_two_pow_sub_one n i
theorem zsub_full {x n : Nat} : zsub x (2 ^ n - 1) ↔ x < 2 ^ n := by
  constructor
  · intro h
    exact zlt_of fun i hi => by have := h i hi; rw [zfull_bit] at this; exact of_decide_eq_true this
  · intro h i hi
    rw [zfull_bit]; exact decide_eq_true (zbit_lt h hi)
theorem zsub_lt2 {x y n : Nat} (h : zsub x y) (hy : y < 2 ^ n) : x < 2 ^ n := Nat.lt_of_le_of_lt (zsub_le h) hy
theorem zdif_lt {x y n : Nat} (h : x < 2 ^ n) : zdif x y < 2 ^ n := zlt_of fun i hi => by
  rw [zdif_bit] at hi
  exact zbit_lt h (by cases hx : x.testBit i with | true => rfl | false => rw [hx] at hi; cases hi)
theorem zdif_sub (x y : Nat) : zsub (zdif x y) x := fun i hi => by
  rw [zdif_bit] at hi
  cases hx : x.testBit i with | true => rfl | false => rw [hx] at hi; cases hi
theorem zone_bit (w i : Nat) : (2 ^ w).testBit i = decide (w = i) := Nat.testBit_two_pow
/-- how many words of a set lie below n -/
def zpc (S : Nat) : Nat → Nat
  | 0 => 0
  | n + 1 => zpc S n + (if S.testBit n then 1 else 0)
theorem zpc_le (S n : Nat) : zpc S n ≤ n := by
  induction n with
  | zero => exact Nat.le_refl 0
  | succ n ih =>
    show zpc S n + _ ≤ n + 1
    split <;> omega
theorem zpc_mono {S T : Nat} (h : zsub S T) (n : Nat) : zpc S n ≤ zpc T n := by
  induction n with
  | zero => exact Nat.le_refl 0
  | succ n ih =>
    show zpc S n + _ ≤ zpc T n + _
    cases hs : S.testBit n with
    | true => rw [h n hs]; simp; exact ih
    | false => simp; exact Nat.le_trans ih (Nat.le_add_right _ _)
theorem zpc_strict {S T : Nat} (h : zsub S T) {i : Nat} (hi : T.testBit i = true) (hs : S.testBit i = false) (n : Nat) (hn : i < n) : zpc S n < zpc T n := by
  induction n with
  | zero => omega
  | succ n ih =>
    show zpc S n + _ < zpc T n + _
    by_cases e : i = n
    · subst e
      rw [hs, hi]
      have := zpc_mono h i
      simp; omega
    · have := ih (by omega)
      cases h2 : S.testBit n with
      | true => rw [h n h2]; simp; exact this
      | false => simp; exact Nat.lt_of_lt_of_le this (Nat.le_add_right _ _)
theorem zpc_lt {S T n : Nat} (h : zsub S T) (hT : T < 2 ^ n) (hne : S ≠ T) : zpc S n < zpc T n := by
  have : ∃ i, T.testBit i = true ∧ S.testBit i = false := by
    apply Classical.byContradiction
    intro hc
    exact hne (zsub_anti h fun i hi => by
      cases hs : S.testBit i with
      | true => rfl
      | false => exact absurd ⟨i, hi, hs⟩ hc)
  obtain ⟨i, hi, hs⟩ := this
  exact zpc_strict h hi hs n (zbit_lt hT hi)
/-- a chain of sets of words below n that grows by one rule rests behind n steps -/
theorem zchain_st (f : Nat → Nat) (X : Nat → Nat) (hX : ∀ k, X (k + 1) = f (X k)) {k : Nat} (h : X (k + 1) = X k) : ∀ m, k ≤ m → X m = X k := by
  intro m hm
  induction m with
  | zero => rw [show k = 0 by omega]
  | succ m ih =>
    by_cases e : k = m + 1
    · rw [e]
    · rw [hX m, ih (by omega), ← hX k, h]
theorem zchain (f : Nat → Nat) (n : Nat) (X : Nat → Nat) (hX : ∀ k, X (k + 1) = f (X k)) (hs : ∀ k, zsub (X k) (X (k + 1))) (hb : ∀ k, X k < 2 ^ n) : ∀ m, n ≤ m → X m = X n := by
  refine zchain_st f X hX ?_
  apply Classical.byContradiction
  intro hc
  have hne : ∀ k, k ≤ n → X k ≠ X (k + 1) := fun k hk e => hc (by
    rw [zchain_st f X hX e.symm (n + 1) (by omega), zchain_st f X hX e.symm n hk])
  have hp : ∀ k, k ≤ n + 1 → k ≤ zpc (X k) n := by
    intro k
    induction k with
    | zero => intro _; exact Nat.zero_le _
    | succ k ih =>
      intro hk
      have h1 := ih (by omega)
      have h2 := zpc_lt (hs k) (hb (k + 1)) (hne k (by omega))
      omega
  have h1 := hp (n + 1) (Nat.le_refl _)
  have h2 := zpc_le (X (n + 1)) n
  omega
/-! loops by the row of their states -/
theorem loop_seq {S α : Type} (Lf : Nat → S → Option α) (st : Nat → S) (n : Nat) (r : Option α) (hs : ∀ k i, i < n → Lf (k + 1) (st i) = Lf k (st (i + 1))) (he : ∀ k, Lf (k + 1) (st n) = r) : ∀ (j i fuel : Nat), i + j = n → j < fuel → Lf fuel (st i) = r := by
  intro j
  induction j with
  | zero =>
    intro i fuel h1 h2
    obtain ⟨k, rfl⟩ : ∃ k, fuel = k + 1 := ⟨fuel - 1, by omega⟩
    rw [show i = n by omega]
    exact he k
  | succ j ih =>
    intro i fuel h1 h2
    obtain ⟨k, rfl⟩ : ∃ k, fuel = k + 1 := ⟨fuel - 1, by omega⟩
    rw [hs k i (by omega)]
    exact ih (i + 1) k (by omega) (by omega)
theorem first_of (P : Nat → Prop) (n : Nat) : (∀ k, k < n → ¬ P k) ∨ ∃ k, k < n ∧ P k ∧ ∀ j, j < k → ¬ P j := by
  induction n with
  | zero => exact Or.inl fun k h => absurd h (Nat.not_lt_zero k)
  | succ n ih =>
    rcases ih with h | ⟨k, h1, h2, h3⟩
    · by_cases hp : P n
      · exact Or.inr ⟨n, Nat.lt_succ_self n, hp, h⟩
      · refine Or.inl fun k hk => ?_
        by_cases e : k = n
        · rw [e]; exact hp
        · exact h k (by omega)
    · exact Or.inr ⟨k, by omega, h2, h3⟩
end
section
/-! learning, ways, rings and what grounds all, over numbers -/
def zu (d : Nat → Option Nat) (w : Nat) : Nat := (d w).getD 0
def zlearn (d : Nat → Option Nat) (S w : Nat) : Bool := match d w with
  | none => false
  | some s => decide (zdif s S = 0)
def zaft (d : Nat → Option Nat) (S : Nat) : Nat → Nat
  | 0 => S
  | i + 1 => zaft d S i ||| (if zlearn d S i then 2 ^ i else 0)
theorem zaft_bit (d : Nat → Option Nat) (S i w : Nat) : (zaft d S i).testBit w = (S.testBit w || (decide (w < i) && zlearn d S w)) := by
  induction i with
  | zero => simp [zaft]
  | succ i ih =>
    show (zaft d S i ||| _).testBit w = _
    rw [Nat.testBit_or, ih]
    by_cases e : w = i
    · subst e
      cases hl : zlearn d S w <;> cases hS : S.testBit w <;> simp [zone_bit]
    · have h1 : (if zlearn d S i then 2 ^ i else 0).testBit w = false := by
        split
        · rw [zone_bit]; exact decide_eq_false (fun h => e h.symm)
        · exact Nat.zero_testBit w
      rw [h1, Bool.or_false]
      have h2 : decide (w < i + 1) = decide (w < i) := by
        by_cases g : w < i
        · rw [decide_eq_true g, decide_eq_true (by omega)]
        · rw [decide_eq_false g, decide_eq_false (by omega)]
      rw [h2]
def zday (d : Nat → Option Nat) (n S : Nat) : Nat → Nat
  | 0 => S
  | k + 1 => zaft d (zday d n S k) n
theorem zaft_sub (d : Nat → Option Nat) (S n : Nat) : zsub S (zaft d S n) := fun i hi => by rw [zaft_bit, hi]; rfl
theorem zaft_lt {d : Nat → Option Nat} {S n : Nat} (h : S < 2 ^ n) : zaft d S n < 2 ^ n := zlt_of fun i hi => by
  rw [zaft_bit] at hi
  cases hS : S.testBit i with
  | true => exact zbit_lt h hS
  | false =>
    rw [hS, Bool.false_or, Bool.and_eq_true] at hi
    exact of_decide_eq_true hi.1
theorem zday_lt {d : Nat → Option Nat} {S n : Nat} (h : S < 2 ^ n) (k : Nat) : zday d n S k < 2 ^ n := by
  induction k with
  | zero => exact h
  | succ k ih => exact zaft_lt ih
theorem zday_step (d : Nat → Option Nat) (n S k : Nat) : zsub (zday d n S k) (zday d n S (k + 1)) := zaft_sub d _ n
theorem zday_le (d : Nat → Option Nat) (n S : Nat) {k m : Nat} (h : k ≤ m) : zsub (zday d n S k) (zday d n S m) := by
  induction m with
  | zero => rw [show k = 0 by omega]; exact zsub_refl _
  | succ m ih =>
    by_cases e : k = m + 1
    · rw [e]; exact zsub_refl _
    · exact zsub_trans (ih (by omega)) (zday_step d n S m)
theorem zday_rest {d : Nat → Option Nat} {S n : Nat} (h : S < 2 ^ n) : ∀ m, n ≤ m → zday d n S m = zday d n S n := zchain (fun x => zaft d x n) n (zday d n S) (fun _ => rfl) (zday_step d n S) (zday_lt h)
/-- a set without a core: each part of it that isn't empty has a word that uses none of the part -/
def zfree (d : Nat → Option Nat) (S : Nat) : Prop := ∀ C, zsub C S → C ≠ 0 → ∃ w, C.testBit w = true ∧ zu d w &&& C = 0
theorem zfree_sub {d : Nat → Option Nat} {S T : Nat} (h : zsub S T) (g : zfree d T) : zfree d S := fun C hC h0 => g C (zsub_trans hC h) h0
theorem zfree_zero (d : Nat → Option Nat) : zfree d 0 := fun C hC h0 => absurd (zsub_anti hC (fun i hi => by rw [Nat.zero_testBit] at hi; cases hi)) h0
theorem zand_zero {x y z : Nat} (h : x &&& y = 0) (hz : zsub z y) : x &&& z = 0 := zero_of_bits fun i => by
  rw [Nat.testBit_and]
  cases hx : x.testBit i with
  | false => rfl
  | true =>
    cases hq : z.testBit i with
    | false => rfl
    | true =>
      have h1 : (x &&& y).testBit i = true := by rw [Nat.testBit_and, hx, hz i hq]; rfl
      rw [h, Nat.zero_testBit] at h1
      cases h1
theorem zfree_rem {d : Nat → Option Nat} {S w : Nat} (hu : zu d w &&& S = 0) : zfree d S ↔ zfree d (zdif S (2 ^ w)) := by
  constructor
  · exact zfree_sub (zdif_sub S _)
  · intro h C hC h0
    cases hw : C.testBit w with
    | true => exact ⟨w, hw, zand_zero hu hC⟩
    | false =>
      refine h C (fun i hi => ?_) h0
      rw [zdif_bit, hC i hi, zone_bit]
      by_cases e : w = i
      · rw [e, hi] at hw; cases hw
      · rw [decide_eq_false e]; rfl
theorem zfree_none {d : Nat → Option Nat} {S : Nat} (h0 : S ≠ 0) (h : ∀ w, S.testBit w = true → ¬ zu d w &&& S = 0) : ¬ zfree d S := fun g => by
  obtain ⟨w, h1, h2⟩ := g S (zsub_refl S) h0
  exact h w h1 h2
/-- what the words are: definitions below n alone, of words below n -/
def zwf (d : Nat → Option Nat) (n : Nat) : Prop := ∀ w s, d w = some s → w < n ∧ s < 2 ^ n
theorem zu_lt {d : Nat → Option Nat} {n : Nat} (h : zwf d n) (w : Nat) : zu d w < 2 ^ n := by
  unfold zu
  cases hd : d w with
  | none => exact Nat.pow_pos (by decide)
  | some s => exact (h w s hd).2
theorem zlearn_iff {d : Nat → Option Nat} {S w : Nat} : zlearn d S w = true ↔ ∃ s, d w = some s ∧ zsub s S := by
  unfold zlearn
  cases hd : d w with
  | none => exact ⟨fun h => (by cases h), fun ⟨s, h, _⟩ => (by cases h)⟩
  | some s => exact ⟨fun h => ⟨s, rfl, zdif_zero.mp (of_decide_eq_true h)⟩, fun ⟨s', h, h2⟩ => by cases h; exact decide_eq_true (zdif_zero.mpr h2)⟩
theorem zgall_iff {d : Nat → Option Nat} {n K : Nat} (hd : zwf d n) (hK : K < 2 ^ n) : zday d n K n = 2 ^ n - 1 ↔ (∀ w, w < n → d w = none → K.testBit w = true) ∧ zfree d (zdif (2 ^ n - 1) K) := by
  constructor
  · intro h
    have hall : ∀ w, w < n → ∃ k, (zday d n K k).testBit w = true := fun w hw => ⟨n, by rw [h, zfull_bit]; exact decide_eq_true hw⟩
    refine ⟨fun w hw hb => ?_, fun C hC h0 => ?_⟩
    · have key : ∀ k, (zday d n K k).testBit w = true → K.testBit w = true := by
        intro k
        induction k with
        | zero => exact fun h => h
        | succ k ih =>
          intro h2
          have h3 : (zaft d (zday d n K k) n).testBit w = true := h2
          rw [zaft_bit] at h3
          have h4 : zlearn d (zday d n K k) w = false := by unfold zlearn; rw [hb]
          rw [h4, Bool.and_false, Bool.or_false] at h3
          exact ih h3
      obtain ⟨k, hk⟩ := hall w hw
      exact key k hk
    · -- the first day on which a word of C is known
      have hex : ∃ k, zday d n K k &&& C ≠ 0 := by
        obtain ⟨i, hi⟩ := bit_of_ne h0
        have h1 : i < n := by
          have := hC i hi
          rw [zdif_bit, zfull_bit, Bool.and_eq_true] at this
          exact of_decide_eq_true this.1
        exact ⟨n, ne_of_bit (i := i) (by rw [Nat.testBit_and, h, zfull_bit, hi, decide_eq_true h1]; rfl)⟩
      obtain ⟨k, hk, hmin⟩ := pk_least _ hex
      obtain ⟨w, hw⟩ := bit_of_ne hk
      rw [Nat.testBit_and, Bool.and_eq_true] at hw
      cases k with
      | zero =>
        have h1 := hC w hw.2
        rw [zdif_bit, Bool.and_eq_true] at h1
        have h2 : K.testBit w = true := hw.1
        rw [h2] at h1
        cases h1.2
      | succ k =>
        have h1 : ¬ zday d n K k &&& C ≠ 0 := hmin k (Nat.lt_succ_self k)
        have h2 : zday d n K k &&& C = 0 := Classical.not_not.mp h1
        have h3 : (zaft d (zday d n K k) n).testBit w = true := hw.1
        have h4 : (zday d n K k).testBit w = false := by
          cases hz : (zday d n K k).testBit w with
          | false => rfl
          | true =>
            have : (zday d n K k &&& C).testBit w = true := by rw [Nat.testBit_and, hz, hw.2]; rfl
            rw [h2, Nat.zero_testBit] at this
            cases this
        rw [zaft_bit, h4, Bool.false_or, Bool.and_eq_true] at h3
        obtain ⟨s, hs1, hs2⟩ := zlearn_iff.mp h3.2
        refine ⟨w, hw.2, ?_⟩
        have h5 : zu d w = s := by unfold zu; rw [hs1]; rfl
        rw [h5, Nat.and_comm]
        rw [Nat.and_comm] at h2
        exact zand_zero h2 hs2
  · intro ⟨hb, hf⟩
    have hlt := zday_lt (d := d) hK n
    refine zsub_anti (zsub_full.mpr hlt) ?_
    have hfix : zaft d (zday d n K n) n = zday d n K n := zday_rest hK (n + 1) (by omega)
    have hC0 : zdif (2 ^ n - 1) (zday d n K n) = 0 := by
      apply Classical.byContradiction
      intro h0
      have hCs : zsub (zdif (2 ^ n - 1) (zday d n K n)) (zdif (2 ^ n - 1) K) := fun i hi => by
        rw [zdif_bit, Bool.and_eq_true] at hi
        rw [zdif_bit, hi.1]
        cases hk : K.testBit i with
        | false => rfl
        | true =>
          have := zday_le d n K (Nat.zero_le n) i hk
          rw [this] at hi
          cases hi.2
      obtain ⟨w, h1, h2⟩ := hf _ hCs h0
      have hwn : w < n ∧ (zday d n K n).testBit w = false := by
        rw [zdif_bit, zfull_bit, Bool.and_eq_true] at h1
        exact ⟨of_decide_eq_true h1.1, by cases hz : (zday d n K n).testBit w with | false => rfl | true => rw [hz] at h1; cases h1.2⟩
      have hdw : ∃ s, d w = some s := by
        cases hd0 : d w with
        | some s => exact ⟨s, rfl⟩
        | none =>
          have := zday_le d n K (Nat.zero_le n) w (hb w hwn.1 hd0)
          rw [this] at hwn
          cases hwn.2
      obtain ⟨s, hs⟩ := hdw
      have h5 : zu d w = s := by unfold zu; rw [hs]; rfl
      have hsub : zsub s (zday d n K n) := fun i hi => by
        cases hz : (zday d n K n).testBit i with
        | true => rfl
        | false =>
          have hin : i < n := zbit_lt (hd w s hs).2 hi
          have : (zu d w &&& zdif (2 ^ n - 1) (zday d n K n)).testBit i = true := by
            rw [Nat.testBit_and, h5, hi, zdif_bit, zfull_bit, decide_eq_true hin, hz]; rfl
          rw [h2, Nat.zero_testBit] at this
          cases this
      have h6 : (zaft d (zday d n K n) n).testBit w = true := by
        rw [zaft_bit, zlearn_iff.mpr ⟨s, hs, hsub⟩, decide_eq_true hwn.1]
        simp
      rw [hfix, hwn.2] at h6
      cases h6
    exact zdif_zero.mp hC0
/-- Warshall's rule: from a to b with words below v between them -/
def zP (d : Nat → Option Nat) : Nat → Nat → Nat → Bool
  | 0, a, b => (zu d a).testBit b
  | v + 1, a, b => zP d v a b || (zP d v a v && zP d v v b)
theorem zP_up {d : Nat → Option Nat} {v a b : Nat} (h : zP d v a b = true) : zP d (v + 1) a b = true := by
  show (zP d v a b || _) = true
  rw [h]; rfl
theorem zP_le {d : Nat → Option Nat} {v m a b : Nat} (hm : v ≤ m) (h : zP d v a b = true) : zP d m a b = true := by
  induction m with
  | zero => rw [show v = 0 by omega] at h; exact h
  | succ m ih =>
    by_cases e : v = m + 1
    · rw [← e]; exact h
    · exact zP_up (ih (by omega))
theorem zP_iff {d : Nat → Option Nat} {v a b : Nat} : zP d (v + 1) a b = true ↔ zP d v a b = true ∨ (zP d v a v = true ∧ zP d v v b = true) := by
  show (zP d v a b || (zP d v a v && zP d v v b)) = true ↔ _
  rw [Bool.or_eq_true, Bool.and_eq_true]
theorem zP_tr {d : Nat → Option Nat} : ∀ (v a w b : Nat), w < v → zP d v a w = true → zP d v w b = true → zP d v a b = true := by
  intro v
  induction v with
  | zero => intro a w b h; exact absurd h (Nat.not_lt_zero w)
  | succ v ih =>
    intro a w b hw h1 h2
    by_cases e : w = v
    · subst e
      have g1 : zP d w a w = true := by rcases zP_iff.mp h1 with h | h; exact h; exact h.1
      have g2 : zP d w w b = true := by rcases zP_iff.mp h2 with h | h; exact h; exact h.2
      exact zP_iff.mpr (Or.inr ⟨g1, g2⟩)
    · have hv : w < v := by omega
      rcases zP_iff.mp h1 with h | h <;> rcases zP_iff.mp h2 with g | g
      · exact zP_up (ih a w b hv h g)
      · exact zP_iff.mpr (Or.inr ⟨ih a w v hv h g.1, g.2⟩)
      · exact zP_iff.mpr (Or.inr ⟨h.1, ih v w b hv h.2 g⟩)
      · exact zP_iff.mpr (Or.inr ⟨h.1, g.2⟩)
theorem zP_lt {d : Nat → Option Nat} {n : Nat} (hd : zwf d n) : ∀ (v a b : Nat), v ≤ n → zP d v a b = true → a < n ∧ b < n := by
  intro v
  induction v with
  | zero =>
    intro a b _ h
    have h1 : (zu d a).testBit b = true := h
    refine ⟨?_, zbit_lt (zu_lt hd a) h1⟩
    unfold zu at h1
    cases hda : d a with
    | none => rw [hda] at h1; rw [show (none : Option Nat).getD 0 = 0 from rfl, Nat.zero_testBit] at h1; cases h1
    | some s => exact (hd a s hda).1
  | succ v ih =>
    intro a b hv h
    rcases zP_iff.mp h with h | h
    · exact ih a b (by omega) h
    · exact ⟨(ih a v (by omega) h.1).1, (ih v b (by omega) h.2).2⟩
/-- words that are in rings -/
def zring (d : Nat → Option Nat) (n : Nat) : Nat → Nat
  | 0 => 0
  | i + 1 => zring d n i ||| (if zP d n i i then 2 ^ i else 0)
theorem zring_bit' (d : Nat → Option Nat) (n i w : Nat) : (zring d n i).testBit w = (decide (w < i) && zP d n w w) := by
  induction i with
  | zero => simp [zring]
  | succ i ih =>
    show (zring d n i ||| _).testBit w = _
    rw [Nat.testBit_or, ih]
    by_cases e : w = i
    · subst e
      cases hl : zP d n w w <;> simp [zone_bit]
    · have h1 : (if zP d n i i then 2 ^ i else 0).testBit w = false := by
        split
        · rw [zone_bit]; exact decide_eq_false (fun h => e h.symm)
        · exact Nat.zero_testBit w
      rw [h1, Bool.or_false]
      have h2 : decide (w < i + 1) = decide (w < i) := by
        by_cases g : w < i
        · rw [decide_eq_true g, decide_eq_true (by omega)]
        · rw [decide_eq_false g, decide_eq_false (by omega)]
      rw [h2]
theorem zring_bit {d : Nat → Option Nat} {n : Nat} (hd : zwf d n) (w : Nat) : (zring d n n).testBit w = zP d n w w := by
  rw [zring_bit']
  cases h : zP d n w w with
  | false => exact Bool.and_false _
  | true => rw [decide_eq_true (zP_lt hd n w w (Nat.le_refl n) h).1]; rfl
theorem zring_lt (d : Nat → Option Nat) (n : Nat) : zring d n n < 2 ^ n := zlt_of fun i hi => by
  rw [zring_bit', Bool.and_eq_true] at hi
  exact of_decide_eq_true hi.1
/-- the words that a word reaches -/
def zrow (d : Nat → Option Nat) (v a : Nat) : Nat → Nat
  | 0 => 0
  | i + 1 => zrow d v a i ||| (if zP d v a i then 2 ^ i else 0)
theorem zrow_bit' (d : Nat → Option Nat) (v a i w : Nat) : (zrow d v a i).testBit w = (decide (w < i) && zP d v a w) := by
  induction i with
  | zero => simp [zrow]
  | succ i ih =>
    show (zrow d v a i ||| _).testBit w = _
    rw [Nat.testBit_or, ih]
    by_cases e : w = i
    · subst e
      cases hl : zP d v a w <;> simp [zone_bit]
    · have h1 : (if zP d v a i then 2 ^ i else 0).testBit w = false := by
        split
        · rw [zone_bit]; exact decide_eq_false (fun h => e h.symm)
        · exact Nat.zero_testBit w
      rw [h1, Bool.or_false]
      have h2 : decide (w < i + 1) = decide (w < i) := by
        by_cases g : w < i
        · rw [decide_eq_true g, decide_eq_true (by omega)]
        · rw [decide_eq_false g, decide_eq_false (by omega)]
      rw [h2]
theorem zrow_bit {d : Nat → Option Nat} {n v : Nat} (hd : zwf d n) (hv : v ≤ n) (a w : Nat) : (zrow d v a n).testBit w = zP d v a w := by
  rw [zrow_bit']
  cases h : zP d v a w with
  | false => exact Bool.and_false _
  | true => rw [decide_eq_true (zP_lt hd v a w hv h).2]; rfl
theorem zrow_lt (d : Nat → Option Nat) (v a n : Nat) : zrow d v a n < 2 ^ n := zlt_of fun i hi => by
  rw [zrow_bit', Bool.and_eq_true] at hi
  exact of_decide_eq_true hi.1
/-- a core has a core of words in rings -/
theorem zcore_ring {d : Nat → Option Nat} {n : Nat} (hd : zwf d n) : ∀ (m C : Nat), C ≤ m → C ≠ 0 → (∀ w, C.testBit w = true → ¬ zu d w &&& C = 0) → ∃ C', C' ≠ 0 ∧ zsub C' C ∧ zsub C' (zring d n n) ∧ ∀ w, C'.testBit w = true → ¬ zu d w &&& C' = 0 := by
  intro m
  induction m with
  | zero => intro C h h0; exact absurd (Nat.le_zero.mp h) h0
  | succ m ih =>
    intro C hm h0 hc
    by_cases hall : ∀ w, C.testBit w = true → zP d n w w = true
    · exact ⟨C, h0, zsub_refl C, fun i hi => by rw [zring_bit hd]; exact hall i hi, hc⟩
    · obtain ⟨w, hw⟩ := Classical.not_forall.mp hall
      obtain ⟨hw1, hw2⟩ := Classical.not_imp.mp hw
      have hbit : ∀ i, (C &&& zrow d n w n).testBit i = (C.testBit i && zP d n w i) := fun i => by rw [Nat.testBit_and, zrow_bit hd (Nat.le_refl n)]
      have hs : zsub (C &&& zrow d n w n) C := fun i hi => by rw [hbit, Bool.and_eq_true] at hi; exact hi.1
      have hne : C &&& zrow d n w n ≠ C := fun e => by
        have := hbit w
        rw [e, hw1, Bool.true_and] at this
        exact hw2 this.symm
      have hlt := zsub_lt hs hne
      have step : ∀ x, zP d n w x = true ∨ x = w → C.testBit x = true → ∃ y, (zu d x).testBit y = true ∧ (C &&& zrow d n w n).testBit y = true := by
        intro x hx hxC
        obtain ⟨y, hy⟩ := bit_of_ne (hc x hxC)
        rw [Nat.testBit_and, Bool.and_eq_true] at hy
        refine ⟨y, hy.1, ?_⟩
        rw [hbit, hy.2, Bool.true_and]
        have h1 : zP d n x y = true := zP_le (Nat.zero_le n) (v := 0) hy.1
        rcases hx with hx | hx
        · exact zP_tr n w x y (zP_lt hd n w x (Nat.le_refl n) hx).2 hx h1
        · rw [← hx]; exact h1
      obtain ⟨y0, -, hy0⟩ := step w (Or.inr rfl) hw1
      obtain ⟨C', g1, g2, g3, g4⟩ := ih (C &&& zrow d n w n) (by omega) (ne_of_bit hy0) (fun x hx => by
        rw [hbit, Bool.and_eq_true] at hx
        obtain ⟨y, hy1, hy2⟩ := step x (Or.inl hx.2) hx.1
        exact ne_of_bit (i := y) (by rw [Nat.testBit_and, hy1, hy2]; rfl))
      exact ⟨C', g1, zsub_trans g2 hs, g3, g4⟩
theorem zfree_ring {d : Nat → Option Nat} {n S : Nat} (hd : zwf d n) : zfree d S ↔ zfree d (zring d n n &&& S) := by
  constructor
  · exact zfree_sub (fun i hi => by rw [Nat.testBit_and, Bool.and_eq_true] at hi; exact hi.2)
  · intro h C hC h0
    apply Classical.byContradiction
    intro hn
    have hc : ∀ w, C.testBit w = true → ¬ zu d w &&& C = 0 := fun w hw e => hn ⟨w, hw, e⟩
    obtain ⟨C', g1, g2, g3, g4⟩ := zcore_ring hd C C (Nat.le_refl C) h0 hc
    obtain ⟨w, h1, h2⟩ := h C' (fun i hi => by rw [Nat.testBit_and, g3 i hi, hC i (g2 i hi)]; rfl) g1
    exact g4 w h1 h2
/-- what grounds all: all bare words, and no circle among the ring words outside -/
theorem zgall_ring {d : Nat → Option Nat} {n K : Nat} (hd : zwf d n) (hK : K < 2 ^ n) : zday d n K n = 2 ^ n - 1 ↔ (∀ w, w < n → d w = none → K.testBit w = true) ∧ zfree d (zdif (zring d n n) K) := by
  rw [zgall_iff hd hK, zfree_ring (S := zdif (2 ^ n - 1) K) hd]
  have e : zring d n n &&& zdif (2 ^ n - 1) K = zdif (zring d n n) K := Nat.eq_of_testBit_eq fun i => by
    rw [Nat.testBit_and, zdif_bit, zdif_bit, zfull_bit]
    cases h : (zring d n n).testBit i with
    | false => rfl
    | true => rw [decide_eq_true (zbit_lt (zring_lt d n) h)]; rfl
  rw [e]
/-! ways: what is come to by just k steps, and by at most k -/
def zst (d : Nat → Option Nat) (S : Nat) : Nat → Nat
  | 0 => 0
  | i + 1 => zst d S i ||| (if S.testBit i then zu d i else 0)
theorem zst_bit (d : Nat → Option Nat) (S n b : Nat) : (zst d S n).testBit b = true ↔ ∃ w, w < n ∧ S.testBit w = true ∧ (zu d w).testBit b = true := by
  induction n with
  | zero => exact ⟨fun h => (by rw [show zst d S 0 = 0 from rfl, Nat.zero_testBit] at h; cases h), fun ⟨w, h, _⟩ => absurd h (Nat.not_lt_zero w)⟩
  | succ n ih =>
    show (zst d S n ||| _).testBit b = true ↔ _
    rw [Nat.testBit_or, Bool.or_eq_true, ih]
    constructor
    · rintro (⟨w, h1, h2⟩ | h)
      · exact ⟨w, by omega, h2⟩
      · cases hS : S.testBit n with
        | false => rw [hS] at h; rw [if_neg (by decide), Nat.zero_testBit] at h; cases h
        | true => rw [hS, if_pos rfl] at h; exact ⟨n, Nat.lt_succ_self n, hS, h⟩
    · rintro ⟨w, h1, h2, h3⟩
      by_cases e : w = n
      · subst e
        exact Or.inr (by rw [h2, if_pos rfl]; exact h3)
      · exact Or.inl ⟨w, by omega, h2, h3⟩
theorem zst_lt {d : Nat → Option Nat} {n : Nat} (hd : zwf d n) (S : Nat) : zst d S n < 2 ^ n := zlt_of fun i hi => by
  obtain ⟨w, -, -, h⟩ := (zst_bit d S n i).mp hi
  exact zbit_lt (zu_lt hd w) h
def zE (d : Nat → Option Nat) (n a : Nat) : Nat → Nat
  | 0 => 2 ^ a
  | k + 1 => zst d (zE d n a k) n
def zX (d : Nat → Option Nat) (n a : Nat) : Nat → Nat
  | 0 => 0
  | k + 1 => zu d a ||| zst d (zX d n a k) n
theorem zX_lt {d : Nat → Option Nat} {n : Nat} (hd : zwf d n) (a k : Nat) : zX d n a k < 2 ^ n := by
  cases k with
  | zero => exact Nat.pow_pos (by decide)
  | succ k => exact Nat.or_lt_two_pow (zu_lt hd a) (zst_lt hd _)
theorem zX_step (d : Nat → Option Nat) (n a k : Nat) : zsub (zX d n a k) (zX d n a (k + 1)) := by
  induction k with
  | zero => exact fun i hi => by rw [show zX d n a 0 = 0 from rfl, Nat.zero_testBit] at hi; cases hi
  | succ k ih =>
    intro i hi
    have h1 : (zu d a ||| zst d (zX d n a k) n).testBit i = true := hi
    show (zu d a ||| zst d (zX d n a (k + 1)) n).testBit i = true
    rw [Nat.testBit_or, Bool.or_eq_true] at h1 ⊢
    rcases h1 with h1 | h1
    · exact Or.inl h1
    · obtain ⟨w, g1, g2, g3⟩ := (zst_bit _ _ _ _).mp h1
      exact Or.inr ((zst_bit _ _ _ _).mpr ⟨w, g1, ih w g2, g3⟩)
theorem zX_le (d : Nat → Option Nat) (n a : Nat) {k m : Nat} (h : k ≤ m) : zsub (zX d n a k) (zX d n a m) := by
  induction m with
  | zero => rw [show k = 0 by omega]; exact zsub_refl _
  | succ m ih =>
    by_cases e : k = m + 1
    · rw [e]; exact zsub_refl _
    · exact zsub_trans (ih (by omega)) (zX_step d n a m)
theorem zX_rest {d : Nat → Option Nat} {n : Nat} (hd : zwf d n) (a : Nat) : ∀ m, n ≤ m → zX d n a m = zX d n a n := zchain (fun x => zu d a ||| zst d x n) n (zX d n a) (fun _ => rfl) (zX_step d n a) (zX_lt hd a)
theorem zE_one {d : Nat → Option Nat} {n a : Nat} (ha : a < n) : zE d n a 1 = zu d a := Nat.eq_of_testBit_eq fun b => by
  have h := zst_bit d (2 ^ a) n b
  show (zst d (2 ^ a) n).testBit b = _
  cases hu : (zu d a).testBit b with
  | true => exact h.mpr ⟨a, ha, by rw [zone_bit]; exact decide_eq_true rfl, hu⟩
  | false =>
    cases hz : (zst d (2 ^ a) n).testBit b with
    | false => rfl
    | true =>
      obtain ⟨w, -, h2, h3⟩ := h.mp hz
      rw [zone_bit] at h2
      rw [← of_decide_eq_true h2, hu] at h3
      cases h3
theorem zX_iff {d : Nat → Option Nat} {n a : Nat} (ha : a < n) (k b : Nat) : (zX d n a k).testBit b = true ↔ ∃ j, 1 ≤ j ∧ j ≤ k ∧ (zE d n a j).testBit b = true := by
  induction k generalizing b with
  | zero => exact ⟨fun h => (by rw [show zX d n a 0 = 0 from rfl, Nat.zero_testBit] at h; cases h), fun ⟨j, h1, h2, _⟩ => (by omega)⟩
  | succ k ih =>
    show (zu d a ||| zst d (zX d n a k) n).testBit b = true ↔ _
    rw [Nat.testBit_or, Bool.or_eq_true, zst_bit]
    constructor
    · rintro (h | ⟨w, h1, h2, h3⟩)
      · exact ⟨1, Nat.le_refl 1, by omega, by rw [zE_one ha]; exact h⟩
      · obtain ⟨j, g1, g2, g3⟩ := (ih w).mp h2
        exact ⟨j + 1, by omega, by omega, (zst_bit _ _ _ _).mpr ⟨w, h1, g3, h3⟩⟩
    · rintro ⟨j, h1, h2, h3⟩
      obtain ⟨i, rfl⟩ : ∃ i, j = i + 1 := ⟨j - 1, by omega⟩
      by_cases e : i = 0
      · subst e
        rw [zE_one ha] at h3
        exact Or.inl h3
      · obtain ⟨w, g1, g2, g3⟩ := (zst_bit _ _ _ _).mp h3
        exact Or.inr ⟨w, g1, (ih w).mpr ⟨i, by omega, by omega, g2⟩, g3⟩
theorem zE_add {d : Nat → Option Nat} {n : Nat} (a c b : Nat) {j : Nat} (h1 : (zE d n a j).testBit c = true) : ∀ k, (zE d n c k).testBit b = true → (zE d n a (j + k)).testBit b = true := by
  intro k
  induction k generalizing b with
  | zero =>
    intro h
    have h2 : (2 ^ c).testBit b = true := h
    rw [zone_bit] at h2
    rw [← of_decide_eq_true h2]
    exact h1
  | succ k ih =>
    intro h
    obtain ⟨w, g1, g2, g3⟩ := (zst_bit _ _ _ _).mp h
    exact (zst_bit _ _ _ _).mpr ⟨w, g1, ih w g2, g3⟩
theorem zP_way {d : Nat → Option Nat} {n : Nat} (hd : zwf d n) : ∀ (v a b : Nat), v ≤ n → zP d v a b = true → ∃ k, 1 ≤ k ∧ (zE d n a k).testBit b = true := by
  intro v
  induction v with
  | zero =>
    intro a b h0 h
    exact ⟨1, Nat.le_refl 1, by rw [zE_one (zP_lt hd 0 a b h0 h).1]; exact h⟩
  | succ v ih =>
    intro a b hv h
    rcases zP_iff.mp h with h | ⟨h, g⟩
    · exact ih a b (by omega) h
    · obtain ⟨j, j1, j2⟩ := ih a v (by omega) h
      obtain ⟨k, k1, k2⟩ := ih v b (by omega) g
      exact ⟨j + k, by omega, zE_add a v b j2 k k2⟩
theorem zE_P {d : Nat → Option Nat} {n : Nat} (hd : zwf d n) {a : Nat} (ha : a < n) : ∀ (k b : Nat), (zE d n a (k + 1)).testBit b = true → zP d n a b = true := by
  intro k
  induction k with
  | zero =>
    intro b h
    rw [zE_one ha] at h
    exact zP_le (Nat.zero_le n) (v := 0) h
  | succ k ih =>
    intro b h
    obtain ⟨w, g1, g2, g3⟩ := (zst_bit _ _ _ _).mp h
    exact zP_tr n a w b g1 (ih w g2) (zP_le (Nat.zero_le n) (v := 0) g3)
theorem zX_P {d : Nat → Option Nat} {n : Nat} (hd : zwf d n) {a : Nat} (ha : a < n) (b : Nat) : (zX d n a n).testBit b = zP d n a b := by
  cases h : zP d n a b with
  | true =>
    obtain ⟨k, k1, k2⟩ := zP_way hd n a b (Nat.le_refl n) h
    have h1 := (zX_iff ha k b).mpr ⟨k, k1, Nat.le_refl k, k2⟩
    rcases Nat.lt_or_ge k n with g | g
    · exact zX_le d n a (Nat.le_of_lt g) b h1
    · rw [← zX_rest hd a k g]; exact h1
  | false =>
    cases hx : (zX d n a n).testBit b with
    | false => rfl
    | true =>
      obtain ⟨j, j1, -, j3⟩ := (zX_iff ha n b).mp hx
      obtain ⟨i, rfl⟩ : ∃ i, j = i + 1 := ⟨j - 1, by omega⟩
      rw [zE_P hd ha i b j3] at h
      cases h
end
section
/-! the sets of some words, one behind the other; how many; costs; the best one -/
theorem zsub_half {s o : Nat} : zsub s o ↔ zsub (s / 2) (o / 2) ∧ s % 2 ≤ o % 2 := by
  constructor
  · intro h
    refine ⟨fun i hi => ?_, ?_⟩
    · rw [Nat.testBit_div_two] at hi ⊢; exact h _ hi
    · have h1 := h 0
      rw [Nat.testBit_zero, Nat.testBit_zero] at h1
      by_cases e : s % 2 = 1
      · have := of_decide_eq_true (h1 (decide_eq_true e)); omega
      · omega
  · intro ⟨h1, h2⟩ i hi
    cases i with
    | zero =>
      rw [Nat.testBit_zero] at hi ⊢
      have := of_decide_eq_true hi
      exact decide_eq_true (by omega)
    | succ i =>
      rw [Nat.testBit_add_one] at hi ⊢
      exact h1 i hi
def zn (k s o : Nat) : Nat := (2 ^ k + s - o) &&& o
theorem zn_full {k o : Nat} (h : o < 2 ^ k) : zn k o o = 0 := by
  unfold zn
  rw [Nat.add_sub_cancel]
  refine zero_of_bits fun i => ?_
  rw [Nat.testBit_and, zone_bit]
  by_cases e : k = i
  · subst e
    rw [zlt_bit h (Nat.le_refl k), Bool.and_false]
  · rw [decide_eq_false e]; rfl
theorem zadd_or : ∀ (x y : Nat), x &&& y = 0 → x + y = x ||| y := by
  intro x
  induction x using Nat.strongRecOn with
  | _ x ih =>
    intro y h
    by_cases hx : x = 0
    · subst hx; rw [Nat.zero_or, Nat.zero_add]
    · have h2 : x / 2 &&& y / 2 = 0 := by rw [← Nat.and_div_two, h]
      have h1 := ih (x / 2) (by omega) (y / 2) h2
      have h3 : (x ||| y) / 2 = x / 2 + y / 2 := by rw [Nat.or_div_two, h1]
      have h4 : ¬ (x % 2 = 1 ∧ y % 2 = 1) := fun g => by
        have := Nat.and_mod_two_eq_one.mpr g
        rw [h] at this
        omega
      have h5 : (x ||| y) % 2 = x % 2 + y % 2 := by
        have g := @Nat.or_mod_two_eq_one x y
        by_cases e : (x ||| y) % 2 = 1
        · have := g.mp e; omega
        · have : ¬ (x % 2 = 1 ∨ y % 2 = 1) := fun q => e (g.mpr q)
          omega
      omega
theorem zcompl {k s o : Nat} (ho : o < 2 ^ k) (hs : zsub s o) : (2 ^ k + s - o - 1) &&& o = s := by
  have hle := zsub_le hs
  have hx : o - s = zdif o s := by
    have h1 : s + zdif o s = o := by
      have h2 : s &&& zdif o s = 0 := zero_of_bits fun i => by
        rw [Nat.testBit_and, zdif_bit]
        cases s.testBit i <;> simp
      have h3 : s ||| zdif o s = o := Nat.eq_of_testBit_eq fun i => by
        rw [Nat.testBit_or, zdif_bit]
        cases h4 : s.testBit i with
        | true => rw [hs i h4]; rfl
        | false => simp
      have h5 : s + zdif o s = s ||| zdif o s := by
        have := zadd_or s (zdif o s) h2
        exact this
      rw [h5, h3]
    omega
  have e : 2 ^ k + s - o - 1 = 2 ^ k - (zdif o s + 1) := by omega
  rw [e]
  refine Nat.eq_of_testBit_eq fun i => ?_
  rw [Nat.testBit_and, Nat.testBit_two_pow_sub_succ (zdif_lt ho), zdif_bit]
  cases ho' : o.testBit i with
  | false =>
    cases hs' : s.testBit i with
    | false => simp
    | true => rw [hs i hs'] at ho'; cases ho'
  | true =>
    rw [decide_eq_true (zbit_lt ho ho')]
    cases s.testBit i <;> rfl
theorem zn_spec : ∀ (k s o : Nat), o < 2 ^ k → zsub s o → s ≠ o → s < zn k s o ∧ zsub (zn k s o) o ∧ ∀ K, zsub K o → s < K → zn k s o ≤ K := by
  intro k
  induction k with
  | zero =>
    intro s o ho hs hne
    have : o = 0 := by simp at ho; exact ho
    exact absurd (by have := zsub_le hs; omega) hne
  | succ k ih =>
    intro s o ho hs hne
    have hp : 2 ^ (k + 1) = 2 * 2 ^ k := by rw [Nat.pow_succ]; omega
    obtain ⟨hs', hab⟩ := zsub_half.mp hs
    have hle := zsub_le hs'
    have ho' : o / 2 < 2 ^ k := by omega
    have hzs : zsub (zn (k + 1) s o) o := fun i hi => by unfold zn at hi; rw [Nat.testBit_and, Bool.and_eq_true] at hi; exact hi.2
    by_cases hc : s % 2 = o % 2
    · have hz2 : zn (k + 1) s o / 2 = zn k (s / 2) (o / 2) := by
        unfold zn
        rw [Nat.and_div_two]
        have : (2 ^ (k + 1) + s - o) / 2 = 2 ^ k + s / 2 - o / 2 := by omega
        rw [this]
      have hz0 : zn (k + 1) s o % 2 = 0 := by
        have : ¬ zn (k + 1) s o % 2 = 1 := by
          unfold zn
          rw [Nat.and_mod_two_eq_one]
          omega
        omega
      have hz : zn (k + 1) s o = 2 * zn k (s / 2) (o / 2) := by omega
      have hne' : s / 2 ≠ o / 2 := fun e => hne (by omega)
      obtain ⟨g1, g2, g3⟩ := ih (s / 2) (o / 2) ho' hs' hne'
      refine ⟨by omega, hzs, fun K hK hlt => ?_⟩
      obtain ⟨hK1, hK2⟩ := zsub_half.mp hK
      have h1 : s / 2 < K / 2 := by omega
      have h2 := g3 (K / 2) hK1 h1
      omega
    · have hs2 : s % 2 = 0 := by omega
      have ho2 : o % 2 = 1 := by omega
      have hz2 : zn (k + 1) s o / 2 = s / 2 := by
        unfold zn
        rw [Nat.and_div_two]
        have : (2 ^ (k + 1) + s - o) / 2 = 2 ^ k + s / 2 - o / 2 - 1 := by omega
        rw [this]
        exact zcompl ho' hs'
      have hz0 : zn (k + 1) s o % 2 = 1 := by
        unfold zn
        rw [Nat.and_mod_two_eq_one]
        omega
      have hz : zn (k + 1) s o = s + 1 := by omega
      exact ⟨by omega, hzs, fun K hK hlt => by omega⟩
/-- how many numbers below x have a property -/
def zcnt (p : Nat → Bool) : Nat → Nat
  | 0 => 0
  | x + 1 => zcnt p x + (if p x then 1 else 0)
theorem zcnt_same {p q : Nat → Bool} {x : Nat} (h : ∀ k, k < x → p k = q k) : zcnt p x = zcnt q x := by
  induction x with
  | zero => rfl
  | succ x ih =>
    show zcnt p x + _ = zcnt q x + _
    rw [ih (fun k hk => h k (by omega)), h x (Nat.lt_succ_self x)]
theorem zcnt_add (p : Nat → Bool) (x m : Nat) : zcnt p (x + m) = zcnt p x + zcnt (fun j => p (x + j)) m := by
  induction m with
  | zero => rfl
  | succ m ih =>
    show zcnt p (x + m) + (if p (x + m) then 1 else 0) = zcnt p x + (zcnt (fun j => p (x + j)) m + (if p (x + m) then 1 else 0))
    rw [ih]; omega
theorem zcnt_gap {p : Nat → Bool} {x y : Nat} (hxy : x ≤ y) (h : ∀ k, x ≤ k → k < y → p k = false) : zcnt p y = zcnt p x := by
  induction y with
  | zero => rw [show x = 0 by omega]
  | succ y ih =>
    by_cases e : x = y + 1
    · rw [e]
    · show zcnt p y + _ = _
      rw [ih (by omega) (fun k h1 h2 => h k h1 (by omega)), h y (by omega) (Nat.lt_succ_self y)]
      rfl
theorem zcnt_none {p : Nat → Bool} {x : Nat} (h : ∀ k, k < x → p k = false) : zcnt p x = 0 := by
  have := zcnt_gap (p := p) (Nat.zero_le x) (fun k _ h2 => h k h2)
  rw [this]; rfl
theorem zcnt_le {p : Nat → Bool} (x : Nat) : zcnt p x ≤ x := by
  induction x with
  | zero => exact Nat.le_refl 0
  | succ x ih =>
    show zcnt p x + _ ≤ x + 1
    split <;> omega
theorem zcnt_mono {p : Nat → Bool} {x y : Nat} (h : x ≤ y) : zcnt p x ≤ zcnt p y := by
  obtain ⟨m, rfl⟩ : ∃ m, y = x + m := ⟨y - x, by omega⟩
  rw [zcnt_add]; omega
theorem zcnt_drop {p : Nat → Bool} {x y : Nat} (hy : y < x) (hp : p y = true) : zcnt (fun k => p k && !decide (k = y)) x + 1 = zcnt p x := by
  induction x with
  | zero => omega
  | succ x ih =>
    show zcnt (fun k => p k && !decide (k = y)) x + (if (p x && !decide (x = y)) = true then 1 else 0) + 1 = zcnt p x + (if p x = true then 1 else 0)
    by_cases e : y = x
    · subst e
      rw [zcnt_same (q := p) (fun k hk => by rw [decide_eq_false (by omega)]; simp), hp]
      simp
    · have := ih (by omega)
      rw [decide_eq_false (fun h : x = y => e h.symm)]
      simp only [Bool.not_false, Bool.and_true]
      omega
theorem zcnt_inj {p q : Nat → Bool} {f : Nat → Nat} : ∀ (x y : Nat) (q : Nat → Bool), (∀ k, k < x → p k = true → f k < y ∧ q (f k) = true) → (∀ j k, j < x → k < x → p j = true → p k = true → f j = f k → j = k) → zcnt p x ≤ zcnt q y := by
  intro x
  induction x with
  | zero => intro y q _ _; exact Nat.zero_le _
  | succ x ih =>
    intro y q h1 h2
    show zcnt p x + _ ≤ _
    cases hp : p x with
    | false =>
      rw [if_neg (by decide)]
      exact ih y q (fun k hk => h1 k (by omega)) (fun j k hj hk => h2 j k (by omega) (by omega))
    | true =>
      rw [if_pos rfl]
      obtain ⟨g1, g2⟩ := h1 x (Nat.lt_succ_self x) hp
      rw [← zcnt_drop g1 g2]
      refine Nat.succ_le_succ (ih y _ (fun k hk hpk => ?_) (fun j k hj hk => h2 j k (by omega) (by omega)))
      obtain ⟨g3, g4⟩ := h1 k (by omega) hpk
      refine ⟨g3, ?_⟩
      rw [g4, decide_eq_false]
      · rfl
      · intro e
        have := h2 k x (by omega) (Nat.lt_succ_self x) hpk hp e
        omega
def zin (o K : Nat) : Bool := decide (zdif K o = 0)
theorem zin_iff {o K : Nat} : zin o K = true ↔ zsub K o := ⟨fun h => zdif_zero.mp (of_decide_eq_true h), fun h => decide_eq_true (zdif_zero.mpr h)⟩
theorem zin_false {o K : Nat} (h : ¬ zsub K o) : zin o K = false := by
  cases e : zin o K with
  | false => rfl
  | true => exact absurd (zin_iff.mp e) h
theorem zcnt_subs (o : Nat) : ∀ k, zcnt (zin o) (2 ^ k) = 2 ^ zpc o k := by
  intro k
  induction k with
  | zero =>
    show 0 + (if zin o 0 then 1 else 0) = 1
    rw [zin_iff.mpr (fun i hi => by rw [Nat.zero_testBit] at hi; cases hi)]
    rfl
  | succ k ih =>
    have hp : 2 ^ (k + 1) = 2 ^ k + 2 ^ k := by rw [Nat.pow_succ]; omega
    rw [hp, zcnt_add, ih]
    show _ = 2 ^ (zpc o k + _)
    have hb : ∀ j, j < 2 ^ k → ∀ i, (2 ^ k + j).testBit i = (decide (k = i) || j.testBit i) := fun j hj i => by
      rw [← Nat.mul_one (2 ^ k), Nat.two_pow_add_eq_or_of_lt hj 1, Nat.mul_one, Nat.testBit_or, zone_bit]
    cases ho : o.testBit k with
    | false =>
      rw [zcnt_none (fun j hj => zin_false (fun h => by
        have := h k (by rw [hb j hj, decide_eq_true rfl]; rfl)
        rw [ho] at this; cases this))]
      simp
    | true =>
      rw [zcnt_same (q := zin o) (fun j hj => by
        have key : zsub (2 ^ k + j) o ↔ zsub j o := by
          constructor
          · intro h i hi
            exact h i (by rw [hb j hj, hi, Bool.or_true])
          · intro h i hi
            rw [hb j hj, Bool.or_eq_true] at hi
            rcases hi with hi | hi
            · rw [← of_decide_eq_true hi]; exact ho
            · exact h i hi
        cases e : zin o j with
        | true => exact zin_iff.mpr (key.mpr (zin_iff.mp e))
        | false => exact zin_false (fun h => by rw [zin_iff.mpr (key.mp h)] at e; cases e)), ih]
      simp [Nat.pow_succ]; omega
/-- costs -/
def zcost (c : Nat → Nat) (S : Nat) : Nat → Nat
  | 0 => 0
  | n + 1 => zcost c S n + (if S.testBit n then c n else 0)
theorem zpc_cost (S n : Nat) : zpc S n = zcost (fun _ => 1) S n := by
  induction n with
  | zero => rfl
  | succ n ih =>
    show zpc S n + _ = zcost _ S n + _
    rw [ih]
theorem zcost_or (c : Nat → Nat) {S T : Nat} (h : S &&& T = 0) (n : Nat) : zcost c (S ||| T) n = zcost c S n + zcost c T n := by
  induction n with
  | zero => rfl
  | succ n ih =>
    show zcost c (S ||| T) n + _ = (zcost c S n + _) + (zcost c T n + _)
    rw [ih, Nat.testBit_or]
    have hb : ¬ (S.testBit n = true ∧ T.testBit n = true) := fun ⟨h1, h2⟩ => by
      have : (S &&& T).testBit n = true := by rw [Nat.testBit_and, h1, h2]; rfl
      rw [h, Nat.zero_testBit] at this; cases this
    cases hS : S.testBit n with
    | false =>
      cases hT : T.testBit n with
      | false => simp
      | true => simp; omega
    | true =>
      cases hT : T.testBit n with
      | false => simp; omega
      | true => exact absurd ⟨hS, hT⟩ hb
theorem zcost_mono (c : Nat → Nat) {S T : Nat} (h : zsub S T) (n : Nat) : zcost c S n ≤ zcost c T n := by
  induction n with
  | zero => exact Nat.le_refl 0
  | succ n ih =>
    show zcost c S n + _ ≤ zcost c T n + _
    cases hs : S.testBit n with
    | true => rw [h n hs]; simp; exact ih
    | false => simp; exact Nat.le_trans ih (Nat.le_add_right _ _)
theorem zcost_strict {c : Nat → Nat} {S T : Nat} (h : zsub S T) {i : Nat} (hc : 1 ≤ c i) (hi : T.testBit i = true) (hs : S.testBit i = false) (n : Nat) (hn : i < n) : zcost c S n < zcost c T n := by
  induction n with
  | zero => omega
  | succ n ih =>
    show zcost c S n + _ < zcost c T n + _
    by_cases e : i = n
    · subst e
      rw [hs, hi]
      have := zcost_mono c h i
      simp; omega
    · have := ih (by omega)
      cases h2 : S.testBit n with
      | true => rw [h n h2]; simp; exact this
      | false => simp; exact Nat.lt_of_lt_of_le this (Nat.le_add_right _ _)
theorem zcost_lt {c : Nat → Nat} {S T n : Nat} (hc : ∀ w, w < n → 1 ≤ c w) (h : zsub S T) (hT : T < 2 ^ n) (hne : S ≠ T) : zcost c S n < zcost c T n := by
  have : ∃ i, T.testBit i = true ∧ S.testBit i = false := by
    apply Classical.byContradiction
    intro hc
    exact hne (zsub_anti h fun i hi => by
      cases hs : S.testBit i with
      | true => rfl
      | false => exact absurd ⟨i, hi, hs⟩ hc)
  obtain ⟨i, hi, hs⟩ := this
  exact zcost_strict h (hc i (zbit_lt hT hi)) hi hs n (zbit_lt hT hi)
theorem zcost_le {c : Nat → Nat} {m : Nat} (hc : ∀ w, c w ≤ m) (S n : Nat) : zcost c S n ≤ m * n := by
  induction n with
  | zero => exact Nat.le_refl 0
  | succ n ih =>
    show zcost c S n + _ ≤ m * (n + 1)
    rw [Nat.mul_succ]
    have := hc n
    split <;> omega
/-- better: less cost, or as much and fewer words; less: better, or as good and a lesser number -/
def zbet (c : Nat → Nat) (n S T : Nat) : Prop := zcost c S n < zcost c T n ∨ (zcost c S n = zcost c T n ∧ zpc S n < zpc T n)
def zles (c : Nat → Nat) (n S T : Nat) : Prop := zbet c n S T ∨ (zcost c S n = zcost c T n ∧ zpc S n = zpc T n ∧ S < T)
theorem zles_irr {c : Nat → Nat} {n S : Nat} : ¬ zles c n S S := by unfold zles zbet; omega
theorem zles_tr {c : Nat → Nat} {n S T U : Nat} (h : zles c n S T) (g : zles c n T U) : zles c n S U := by
  unfold zles zbet at *; omega
theorem zles_tri (c : Nat → Nat) (n S T : Nat) : zles c n S T ∨ S = T ∨ zles c n T S := by
  unfold zles zbet; omega
theorem zbet_les {c : Nat → Nat} {n S T : Nat} (h : zbet c n S T) : zles c n S T := Or.inl h
/-- the best of those that may be, in the order of their numbers -/
noncomputable def zmin (feas : Nat → Prop) (bet : Nat → Nat → Prop) (b : Nat) : Nat → Nat
  | 0 => b
  | i + 1 => @ite _ (feas i ∧ bet i (zmin feas bet b i)) (Classical.propDecidable _) i (zmin feas bet b i)
theorem zmin_yes {feas : Nat → Prop} {bet : Nat → Nat → Prop} {b i : Nat} (h : feas i ∧ bet i (zmin feas bet b i)) : zmin feas bet b (i + 1) = i := if_pos h
theorem zmin_no {feas : Nat → Prop} {bet : Nat → Nat → Prop} {b i : Nat} (h : ¬ (feas i ∧ bet i (zmin feas bet b i))) : zmin feas bet b (i + 1) = zmin feas bet b i := if_neg h
theorem zmin_gap {feas : Nat → Prop} {bet : Nat → Nat → Prop} {b x y : Nat} (hxy : x ≤ y) (h : ∀ k, x ≤ k → k < y → ¬ feas k) : zmin feas bet b y = zmin feas bet b x := by
  induction y with
  | zero => rw [show x = 0 by omega]
  | succ y ih =>
    by_cases e : x = y + 1
    · rw [e]
    · rw [zmin_no (fun g => h y (by omega) (Nat.lt_succ_self y) g.1)]
      exact ih (by omega) (fun k h1 h2 => h k h1 (by omega))
/-- the model's way: all in order, by 'less' -/
theorem zmin_les {feas : Nat → Prop} {c : Nat → Nat} {n b : Nat} (hb : feas b) : ∀ i, feas (zmin feas (zles c n) b i) ∧ ∀ K, K < i → feas K → ¬ zles c n K (zmin feas (zles c n) b i) := by
  intro i
  induction i with
  | zero => exact ⟨hb, fun K h => absurd h (Nat.not_lt_zero K)⟩
  | succ i ih =>
    by_cases h : feas i ∧ zles c n i (zmin feas (zles c n) b i)
    · rw [zmin_yes h]
      refine ⟨h.1, fun K hK hf hl => ?_⟩
      by_cases e : K = i
      · rw [e] at hl; exact zles_irr hl
      · exact ih.2 K (by omega) hf (zles_tr hl h.2)
    · rw [zmin_no h]
      refine ⟨ih.1, fun K hK hf => ?_⟩
      by_cases e : K = i
      · rw [e] at hf ⊢; exact fun hl => h ⟨hf, hl⟩
      · exact ih.2 K (by omega) hf
/-- the class's way: parts of one set in order, by 'better' -/
theorem zmin_bet {feas : Nat → Prop} {c : Nat → Nat} {n b : Nat} (hc : ∀ w, w < n → 1 ≤ c w) (hbn : b < 2 ^ n) (hb : feas b) (hs : ∀ K, feas K → zsub K b) : ∀ i, feas (zmin feas (zbet c n) b i) ∧ (zmin feas (zbet c n) b i < i ∨ zmin feas (zbet c n) b i = b) ∧ ∀ K, K < i → feas K → ¬ zles c n K (zmin feas (zbet c n) b i) := by
  intro i
  induction i with
  | zero => exact ⟨hb, Or.inr rfl, fun K h => absurd h (Nat.not_lt_zero K)⟩
  | succ i ih =>
    obtain ⟨i1, i2, i3⟩ := ih
    by_cases h : feas i ∧ zbet c n i (zmin feas (zbet c n) b i)
    · rw [zmin_yes h]
      refine ⟨h.1, Or.inl (Nat.lt_succ_self i), fun K hK hf hl => ?_⟩
      by_cases e : K = i
      · rw [e] at hl; exact zles_irr hl
      · exact i3 K (by omega) hf (zles_tr hl (zbet_les h.2))
    · rw [zmin_no h]
      refine ⟨i1, ?_, fun K hK hf hl => ?_⟩
      · rcases i2 with i2 | i2
        · exact Or.inl (by omega)
        · exact Or.inr i2
      · by_cases e : K = i
        · subst e
          rcases hl with hl | hl
          · exact h ⟨hf, hl⟩
          · rcases i2 with i2 | i2
            · omega
            · refine h ⟨hf, ?_⟩
              rw [i2] at hl ⊢
              exact Or.inl (zcost_lt hc (hs K hf) hbn (by omega))
        · exact i3 K (by omega) hf hl
end
section
/-! the plan, and the least sets: all sets tried, and ring words alone -/
theorem zP_def {d : Nat → Option Nat} : ∀ (v a b : Nat), zP d v a b = true → ∃ s, d a = some s := by
  intro v
  induction v with
  | zero =>
    intro a b h
    have h1 : (zu d a).testBit b = true := h
    unfold zu at h1
    cases hda : d a with
    | none => rw [hda] at h1; rw [show (none : Option Nat).getD 0 = 0 from rfl, Nat.zero_testBit] at h1; cases h1
    | some s => exact ⟨s, rfl⟩
  | succ v ih =>
    intro a b h
    rcases zP_iff.mp h with h | h
    · exact ih a b h
    · exact ih a v h.1
/-- the bare words, as a set -/
def zbar (d : Nat → Option Nat) (n B : Nat) : Prop := ∀ w, B.testBit w = true ↔ (w < n ∧ d w = none)
theorem zbar_lt {d : Nat → Option Nat} {n B : Nat} (h : zbar d n B) : B < 2 ^ n := zlt_of fun i hi => ((h i).mp hi).1
theorem zbar_ring {d : Nat → Option Nat} {n B : Nat} (hd : zwf d n) (h : zbar d n B) {i : Nat} (hi : B.testBit i = true) : (zring d n n).testBit i = false := by
  cases hr : (zring d n n).testBit i with
  | false => rfl
  | true =>
    rw [zring_bit hd] at hr
    obtain ⟨s, hs⟩ := zP_def n i i hr
    rw [((h i).mp hi).2] at hs
    cases hs
theorem zgall_bar {d : Nat → Option Nat} {n B K : Nat} (hd : zwf d n) (hB : zbar d n B) (hK : K < 2 ^ n) : zday d n K n = 2 ^ n - 1 ↔ zsub B K ∧ zfree d (zdif (zring d n n) K) := by
  rw [zgall_ring hd hK]
  have e : (∀ w, w < n → d w = none → K.testBit w = true) ↔ zsub B K := ⟨fun h i hi => h i ((hB i).mp hi).1 ((hB i).mp hi).2, fun h w h1 h2 => h w ((hB w).mpr ⟨h1, h2⟩)⟩
  rw [e]
def zfeM (d : Nat → Option Nat) (n base S : Nat) : Prop := S &&& base = 0 ∧ zday d n (base ||| S) n = 2 ^ n - 1
def zfeC (d : Nat → Option Nat) (ch T : Nat) : Prop := zsub T ch ∧ zfree d (zdif ch T)
theorem zfeM_iff {d : Nat → Option Nat} {n B base S : Nat} (hd : zwf d n) (hB : zbar d n B) (hb : base < 2 ^ n) (hS : S < 2 ^ n) : zday d n (base ||| S) n = 2 ^ n - 1 ↔ zsub (zdif B base) S ∧ zfree d (zdif (zdif (zring d n n) base) S) := by
  rw [zgall_bar hd hB (Nat.or_lt_two_pow hb hS)]
  have e1 : zsub B (base ||| S) ↔ zsub (zdif B base) S := by
    constructor
    · intro h i hi
      rw [zdif_bit, Bool.and_eq_true] at hi
      have := h i hi.1
      rw [Nat.testBit_or, Bool.or_eq_true] at this
      rcases this with g | g
      · rw [g] at hi; cases hi.2
      · exact g
    · intro h i hi
      rw [Nat.testBit_or]
      cases hb : base.testBit i with
      | true => rfl
      | false => rw [h i (by rw [zdif_bit, hi, hb]; rfl)]; rfl
  have e2 : zdif (zring d n n) (base ||| S) = zdif (zdif (zring d n n) base) S := Nat.eq_of_testBit_eq fun i => by
    rw [zdif_bit, zdif_bit, zdif_bit, Nat.testBit_or]
    cases (zring d n n).testBit i <;> cases base.testBit i <;> cases S.testBit i <;> rfl
  rw [e1, e2]
theorem zmin_lt {feas : Nat → Prop} {bet : Nat → Nat → Prop} {b N : Nat} (hb : b < N) : ∀ i, i ≤ N → zmin feas bet b i < N := by
  intro i
  induction i with
  | zero => exact fun _ => hb
  | succ i ih =>
    intro h
    by_cases g : feas i ∧ bet i (zmin feas bet b i)
    · rw [zmin_yes g]; omega
    · rw [zmin_no g]; exact ih (by omega)
theorem zplan {d : Nat → Option Nat} {n B base X : Nat} {c : Nat → Nat} (hd : zwf d n) (hB : zbar d n B) (hb : base < 2 ^ n) (hc : ∀ w, w < n → 1 ≤ c w) (hX : zdif (zring d n n) base < X) :
    zmin (zfeM d n base) (zles c n) (zdif (2 ^ n - 1) base) (2 ^ n) = zmin (zfeC d (zdif (zring d n n) base)) (zbet c n) (zdif (zring d n n) base) X ||| zdif B base := by
  have hchn : zdif (zring d n n) base < 2 ^ n := zdif_lt (zring_lt d n)
  have hMn : zdif B base < 2 ^ n := zdif_lt (zbar_lt hB)
  have hfull : zdif (2 ^ n - 1) base < 2 ^ n := zdif_lt (by have := Nat.two_pow_pos n; omega)
  obtain ⟨ch, hch⟩ : ∃ x, x = zdif (zring d n n) base := ⟨_, rfl⟩
  obtain ⟨M', hM'⟩ : ∃ x, x = zdif B base := ⟨_, rfl⟩
  rw [← hch] at hchn hX ⊢
  rw [← hM'] at hMn ⊢
  have hchb : ∀ i, ch.testBit i = ((zring d n n).testBit i && !base.testBit i) := fun i => by rw [hch, zdif_bit]
  have hMb : ∀ i, M'.testBit i = (B.testBit i && !base.testBit i) := fun i => by rw [hM', zdif_bit]
  have hdisj : ∀ i, ch.testBit i = true → M'.testBit i = false := fun i hi => by
    rw [hchb, Bool.and_eq_true] at hi
    cases hm : M'.testBit i with
    | false => rfl
    | true =>
      rw [hMb, Bool.and_eq_true] at hm
      rw [zbar_ring hd hB hm.1] at hi
      cases hi.1
  have hMiff : ∀ S, S < 2 ^ n → (zday d n (base ||| S) n = 2 ^ n - 1 ↔ zsub M' S ∧ zfree d (zdif ch S)) := fun S hS => by rw [zfeM_iff hd hB hb hS, ← hch, ← hM']
  -- the class's best
  obtain ⟨T1, T2, T3⟩ := zmin_bet (feas := zfeC d ch) (c := c) (n := n) (b := ch) hc hchn ⟨zsub_refl ch, by rw [zdif_zero.mpr (zsub_refl ch)]; exact zfree_zero d⟩ (fun K hK => hK.1) X
  obtain ⟨T, hT⟩ : ∃ x, x = zmin (zfeC d ch) (zbet c n) ch X := ⟨_, rfl⟩
  rw [← hT] at T1 T2 T3 ⊢
  have hTn : T < 2 ^ n := zsub_lt2 T1.1 hchn
  have and0 : ∀ x y : Nat, (∀ i, x.testBit i = true → y.testBit i = false) → x &&& y = 0 := fun x y h => zero_of_bits fun i => by
    rw [Nat.testBit_and]
    cases hx : x.testBit i with
    | false => rfl
    | true => rw [h i hx]; rfl
  have hTM : T &&& M' = 0 := and0 _ _ fun i hi => hdisj i (T1.1 i hi)
  have hSc : T ||| M' < 2 ^ n := Nat.or_lt_two_pow hTn hMn
  have hScF : zfeM d n base (T ||| M') := by
    refine ⟨and0 _ _ fun i hi => ?_, (hMiff _ hSc).mpr ⟨fun i hi => by rw [Nat.testBit_or, hi, Bool.or_true], ?_⟩⟩
    · rw [Nat.testBit_or, Bool.or_eq_true] at hi
      rcases hi with hi | hi
      · have := T1.1 i hi
        rw [hchb, Bool.and_eq_true] at this
        cases hq : base.testBit i with
        | false => rfl
        | true => rw [hq] at this; cases this.2
      · rw [hMb, Bool.and_eq_true] at hi
        cases hq : base.testBit i with
        | false => rfl
        | true => rw [hq] at hi; cases hi.2
    · have e : zdif ch (T ||| M') = zdif ch T := Nat.eq_of_testBit_eq fun i => by
        rw [zdif_bit, zdif_bit, Nat.testBit_or]
        cases hq : ch.testBit i with
        | false => rfl
        | true => rw [hdisj i hq, Bool.or_false]
      rw [e]; exact T1.2
  -- the model's best
  have hb0 : zfeM d n base (zdif (2 ^ n - 1) base) := by
    refine ⟨and0 _ _ fun i hi => ?_, ?_⟩
    · rw [zdif_bit, Bool.and_eq_true] at hi
      cases hq : base.testBit i with
      | false => rfl
      | true => rw [hq] at hi; cases hi.2
    · have e : base ||| zdif (2 ^ n - 1) base = 2 ^ n - 1 := Nat.eq_of_testBit_eq fun i => by
        rw [Nat.testBit_or, zdif_bit, zfull_bit]
        cases hq : base.testBit i with
        | false => simp
        | true => rw [decide_eq_true (zbit_lt hb hq)]; rfl
      rw [e]
      exact zsub_anti (zsub_full.mpr (zday_lt (by have := Nat.two_pow_pos n; omega) n)) (zday_le d n _ (Nat.zero_le n))
  obtain ⟨S1, S2⟩ := zmin_les (feas := zfeM d n base) (c := c) (n := n) hb0 (2 ^ n)
  have hSn := zmin_lt (feas := zfeM d n base) (bet := zles c n) hfull (2 ^ n) (Nat.le_refl _)
  obtain ⟨S, hS⟩ : ∃ x, x = zmin (zfeM d n base) (zles c n) (zdif (2 ^ n - 1) base) (2 ^ n) := ⟨_, rfl⟩
  rw [← hS] at S1 S2 hSn ⊢
  rcases zles_tri c n S (T ||| M') with h | h | h
  · exfalso
    obtain ⟨g1, g2⟩ := (hMiff S hSn).mp S1.2
    have hU : zfeC d ch (ch &&& S) := by
      refine ⟨fun i hi => by rw [Nat.testBit_and, Bool.and_eq_true] at hi; exact hi.1, ?_⟩
      have e : zdif ch (ch &&& S) = zdif ch S := Nat.eq_of_testBit_eq fun i => by
        rw [zdif_bit, zdif_bit, Nat.testBit_and]
        cases ch.testBit i <;> simp
      rw [e]; exact g2
    have hUX : ch &&& S < X := Nat.lt_of_le_of_lt (zsub_le hU.1) hX
    refine T3 _ hUX hU ?_
    have hUM : (ch &&& S) &&& M' = 0 := and0 _ _ fun i hi => hdisj i (hU.1 i hi)
    have hsub : zsub ((ch &&& S) ||| M') S := fun i hi => by
      rw [Nat.testBit_or, Bool.or_eq_true] at hi
      rcases hi with hi | hi
      · rw [Nat.testBit_and, Bool.and_eq_true] at hi; exact hi.2
      · exact g1 i hi
    have q1 := zcost_mono c hsub n
    have q2 := zpc_mono hsub n
    have q3 := zsub_le hsub
    have r1 := zcost_or c hUM n
    have r2 := zcost_or c hTM n
    have r3 := zcost_or (fun _ => 1) hUM n
    have r4 := zcost_or (fun _ => 1) hTM n
    rw [← zpc_cost, ← zpc_cost, ← zpc_cost] at r3 r4
    have r5 := zadd_or _ _ hUM
    have r6 := zadd_or _ _ hTM
    unfold zles zbet at h ⊢
    omega
  · exact h
  · exact absurd h (S2 _ hSc hScF)
/-! least sets -/
def zleC (d : Nat → Option Nat) (R T : Nat) : Prop := zfree d (zdif R T) ∧ ∀ w, T.testBit w = true → ¬ zfree d (zdif R T ||| 2 ^ w)
def zleM (d : Nat → Option Nat) (n K : Nat) : Prop := zday d n K n = 2 ^ n - 1 ∧ ∀ w, K.testBit w = true → ¬ zday d n (zdif K (2 ^ w)) n = 2 ^ n - 1
theorem zleast_iff {d : Nat → Option Nat} {n B K : Nat} (hd : zwf d n) (hB : zbar d n B) (hK : K < 2 ^ n) : zleM d n K ↔ K = (zring d n n &&& K) ||| B ∧ zleC d (zring d n n) (zring d n n &&& K) := by
  obtain ⟨R, hR⟩ : ∃ x, x = zring d n n := ⟨_, rfl⟩
  have hRB : ∀ i, B.testBit i = true → R.testBit i = false := fun i hi => by rw [hR]; exact zbar_ring hd hB hi
  have hG : ∀ X, X < 2 ^ n → (zday d n X n = 2 ^ n - 1 ↔ zsub B X ∧ zfree d (zdif R X)) := fun X hX => by rw [hR]; exact zgall_bar hd hB hX
  have hrem : ∀ w, zdif K (2 ^ w) < 2 ^ n := fun w => zdif_lt hK
  have eR : zdif R (R &&& K) = zdif R K := Nat.eq_of_testBit_eq fun i => by
    rw [zdif_bit, zdif_bit, Nat.testBit_and]
    cases R.testBit i <;> simp
  have eW : ∀ w, R.testBit w = true → K.testBit w = true → zdif R (zdif K (2 ^ w)) = zdif R K ||| 2 ^ w := fun w h1 h2 => Nat.eq_of_testBit_eq fun i => by
    rw [zdif_bit, zdif_bit, Nat.testBit_or, zdif_bit, zone_bit]
    by_cases e : w = i
    · subst e; rw [h1, decide_eq_true rfl]; simp
    · rw [decide_eq_false e]; simp
  rw [← hR]
  unfold zleM zleC
  rw [eR]
  constructor
  · intro ⟨h1, h2⟩
    obtain ⟨g1, g2⟩ := (hG K hK).mp h1
    refine ⟨Nat.eq_of_testBit_eq fun i => ?_, g2, fun w hw hf => ?_⟩
    · rw [Nat.testBit_or, Nat.testBit_and]
      cases hk : K.testBit i with
      | false =>
        cases hb : B.testBit i with
        | false => simp
        | true => rw [g1 i hb] at hk; cases hk
      | true =>
        cases hr : R.testBit i with
        | true => rfl
        | false =>
          cases hb : B.testBit i with
          | true => rfl
          | false =>
            exfalso
            refine h2 i hk ((hG _ (hrem i)).mpr ⟨fun j hj => ?_, ?_⟩)
            · rw [zdif_bit, g1 j hj, zone_bit, decide_eq_false (fun e => by rw [e, hj] at hb; cases hb)]; rfl
            · have e : zdif R (zdif K (2 ^ i)) = zdif R K := Nat.eq_of_testBit_eq fun j => by
                rw [zdif_bit, zdif_bit, zdif_bit, zone_bit]
                by_cases e : i = j
                · subst e; rw [hr]; rfl
                · rw [decide_eq_false e]; simp
              rw [e]; exact g2
    · rw [Nat.testBit_and, Bool.and_eq_true] at hw
      refine h2 w hw.2 ((hG _ (hrem w)).mpr ⟨fun j hj => ?_, by rw [eW w hw.1 hw.2]; exact hf⟩)
      rw [zdif_bit, g1 j hj, zone_bit, decide_eq_false (fun e => by rw [← e] at hj; rw [hRB w hj] at hw; cases hw.1)]
      rfl
  · intro ⟨h1, h2, h3⟩
    have hBK : zsub B K := fun i hi => by rw [h1, Nat.testBit_or, hi, Bool.or_true]
    refine ⟨(hG K hK).mpr ⟨hBK, h2⟩, fun w hw hg => ?_⟩
    obtain ⟨g1, g2⟩ := (hG _ (hrem w)).mp hg
    cases hb : B.testBit w with
    | true =>
      have := g1 w hb
      rw [zdif_bit, zone_bit, decide_eq_true rfl] at this
      simp at this
    | false =>
      have hr : R.testBit w = true := by
        have := hw
        rw [h1, Nat.testBit_or, Nat.testBit_and, hb, Bool.or_false, Bool.and_eq_true] at this
        exact this.1
      rw [eW w hr hw] at g2
      exact h3 w (by rw [Nat.testBit_and, hr, hw]; rfl) g2
/-- as many least sets, each with what it has -/
theorem zleast_cnt {d : Nat → Option Nat} {n B : Nat} (hd : zwf d n) (hB : zbar d n B) {p q : Nat → Bool} {N : Nat} (hN : zring d n n < N) (f : Nat → Bool)
    (hp : ∀ K, K < 2 ^ n → (p K = true ↔ zleM d n K ∧ f K = true)) (hq : ∀ T, T < N → (q T = true ↔ zsub T (zring d n n) ∧ zleC d (zring d n n) T ∧ f (T ||| B) = true)) : zcnt p (2 ^ n) = zcnt q N := by
  have hRB : ∀ i, B.testBit i = true → (zring d n n).testBit i = false := fun i hi => zbar_ring hd hB hi
  have back : ∀ T, zsub T (zring d n n) → zring d n n &&& (T ||| B) = T := fun T hT => Nat.eq_of_testBit_eq fun i => by
    rw [Nat.testBit_and, Nat.testBit_or]
    cases ht : T.testBit i with
    | true => rw [hT i ht]; rfl
    | false =>
      cases hb : B.testBit i with
      | true => rw [hRB i hb]; rfl
      | false => simp
  refine Nat.le_antisymm ?_ ?_
  · refine zcnt_inj (p := p) (q := q) (f := fun K => zring d n n &&& K) (2 ^ n) N q (fun K hK h => ?_) (fun J K hJ hK h1 h2 e => ?_)
    · obtain ⟨h1, h2⟩ := (hp K hK).mp h
      obtain ⟨g1, g2⟩ := (zleast_iff hd hB hK).mp h1
      have hs : zsub (zring d n n &&& K) (zring d n n) := fun i hi => by rw [Nat.testBit_and, Bool.and_eq_true] at hi; exact hi.1
      have hl : zring d n n &&& K < N := Nat.lt_of_le_of_lt (zsub_le hs) hN
      exact ⟨hl, (hq _ hl).mpr ⟨hs, g2, by rw [← g1]; exact h2⟩⟩
    · have g1 := ((zleast_iff hd hB hJ).mp ((hp J hJ).mp h1).1).1
      have g2 := ((zleast_iff hd hB hK).mp ((hp K hK).mp h2).1).1
      rw [g1, g2, e]
  · refine zcnt_inj (p := q) (q := p) (f := fun T => T ||| B) N (2 ^ n) p (fun T hT h => ?_) (fun J K hJ hK h1 h2 e => ?_)
    · obtain ⟨h1, h2, h3⟩ := (hq T hT).mp h
      have hl : T ||| B < 2 ^ n := Nat.or_lt_two_pow (zsub_lt2 h1 (zring_lt d n)) (zbar_lt hB)
      refine ⟨hl, (hp _ hl).mpr ⟨(zleast_iff hd hB hl).mpr ?_, h3⟩⟩
      rw [back T h1]
      exact ⟨rfl, h2⟩
    · have g1 := back J ((hq J hJ).mp h1).1
      have g2 := back K ((hq K hK).mp h2).1
      rw [← g1, ← g2, e]
/-- the greatest value -/
def zmax (p : Nat → Bool) (v : Nat → Nat) : Nat → Nat
  | 0 => 0
  | x + 1 => if p x then (if zmax p v x < v x then v x else zmax p v x) else zmax p v x
theorem zmax_le {p : Nat → Bool} {v : Nat → Nat} {m : Nat} : ∀ x, zmax p v x ≤ m ↔ ∀ k, k < x → p k = true → v k ≤ m := by
  intro x
  induction x with
  | zero => exact ⟨fun _ k h => absurd h (Nat.not_lt_zero k), fun _ => Nat.zero_le m⟩
  | succ x ih =>
    have e : zmax p v (x + 1) = if p x then (if zmax p v x < v x then v x else zmax p v x) else zmax p v x := rfl
    constructor
    · intro h k hk hp
      by_cases ek : k = x
      · subst ek
        rw [e, hp, if_pos rfl] at h
        split at h <;> omega
      · refine ih.mp ?_ k (by omega) hp
        rw [e] at h
        split at h
        · split at h <;> omega
        · exact h
    · intro h
      have h1 := ih.mpr (fun k hk => h k (by omega))
      rw [e]
      cases hp : p x with
      | false => simp; exact h1
      | true =>
        have := h x (Nat.lt_succ_self x) hp
        rw [if_pos rfl]
        split <;> omega
theorem zmax_gap {p : Nat → Bool} {v : Nat → Nat} {x y : Nat} (hxy : x ≤ y) (h : ∀ k, x ≤ k → k < y → p k = false) : zmax p v y = zmax p v x := by
  induction y with
  | zero => rw [show x = 0 by omega]
  | succ y ih =>
    by_cases e : x = y + 1
    · rw [e]
    · show (if p y then _ else zmax p v y) = _
      rw [h y (by omega) (Nat.lt_succ_self y), if_neg (by decide)]
      exact ih (by omega) (fun k h1 h2 => h k h1 (by omega))
theorem zleast_max {d : Nat → Option Nat} {n B : Nat} (hd : zwf d n) (hB : zbar d n B) {p q : Nat → Bool} {v v' : Nat → Nat} {N : Nat} (hN : zring d n n < N)
    (hp : ∀ K, K < 2 ^ n → (p K = true ↔ zleM d n K)) (hq : ∀ T, T < N → (q T = true ↔ zsub T (zring d n n) ∧ zleC d (zring d n n) T)) (hv : ∀ T, v' T = v (T ||| B)) : zmax p v (2 ^ n) = zmax q v' N := by
  have hRB : ∀ i, B.testBit i = true → (zring d n n).testBit i = false := fun i hi => zbar_ring hd hB hi
  have back : ∀ T, zsub T (zring d n n) → zring d n n &&& (T ||| B) = T := fun T hT => Nat.eq_of_testBit_eq fun i => by
    rw [Nat.testBit_and, Nat.testBit_or]
    cases ht : T.testBit i with
    | true => rw [hT i ht]; rfl
    | false =>
      cases hb : B.testBit i with
      | true => rw [hRB i hb]; rfl
      | false => simp
  refine Nat.le_antisymm ((zmax_le _).mpr fun K hK h => ?_) ((zmax_le _).mpr fun T hT h => ?_)
  · obtain ⟨g1, g2⟩ := (zleast_iff hd hB hK).mp ((hp K hK).mp h)
    have hs : zsub (zring d n n &&& K) (zring d n n) := fun i hi => by rw [Nat.testBit_and, Bool.and_eq_true] at hi; exact hi.1
    have hl : zring d n n &&& K < N := Nat.lt_of_le_of_lt (zsub_le hs) hN
    have := (zmax_le (p := q) (v := v') N).mp (Nat.le_refl _) _ hl ((hq _ hl).mpr ⟨hs, g2⟩)
    rw [hv, ← g1] at this
    exact this
  · obtain ⟨h1, h2⟩ := (hq T hT).mp h
    have hl : T ||| B < 2 ^ n := Nat.or_lt_two_pow (zsub_lt2 h1 (zring_lt d n)) (zbar_lt hB)
    have := (zmax_le (p := p) (v := v) (2 ^ n)).mp (Nat.le_refl _) _ hl ((hp _ hl).mpr ((zleast_iff hd hB hl).mpr (by rw [back T h1]; exact ⟨rfl, h2⟩)))
    rw [hv]
    exact this
end
