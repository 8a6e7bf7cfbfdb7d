/-! the sets of some words, one behind the other; how many; costs; the best one -/
theorem zsub_half {s o : Nat} : zsub s o ↔ zsub (s / 2) (o / 2) ∧ s % 2 ≤ o % 2 := by
  constructor
  · intro h
    refine ⟨fun i hi => ?_, ?_⟩
    · rw [Nat.testBit_div_two] at hi ⊢; exact h _ hi
    · have h1 := h 0
      rw [Nat.testBit_zero, Nat.testBit_zero] at h1
      by_cases e : s % 2 = 1
      · have := of_decide_eq_true (h1 (decide_eq_true e)); omega
      · omega
  · intro ⟨h1, h2⟩ i hi
    cases i with
    | zero =>
      rw [Nat.testBit_zero] at hi ⊢
      have := of_decide_eq_true hi
      exact decide_eq_true (by omega)
    | succ i =>
      rw [Nat.testBit_add_one] at hi ⊢
      exact h1 i hi
def zn (k s o : Nat) : Nat := (2 ^ k + s - o) &&& o
theorem zn_full {k o : Nat} (h : o < 2 ^ k) : zn k o o = 0 := by
  unfold zn
  rw [Nat.add_sub_cancel]
  refine zero_of_bits fun i => ?_
  rw [Nat.testBit_and, zone_bit]
  by_cases e : k = i
  · subst e
    rw [zlt_bit h (Nat.le_refl k), Bool.and_false]
  · rw [decide_eq_false e]; rfl
theorem zadd_or : ∀ (x y : Nat), x &&& y = 0 → x + y = x ||| y := by
  intro x
  induction x using Nat.strongRecOn with
  | _ x ih =>
    intro y h
    by_cases hx : x = 0
    · subst hx; rw [Nat.zero_or, Nat.zero_add]
    · have h2 : x / 2 &&& y / 2 = 0 := by rw [← Nat.and_div_two, h]
      have h1 := ih (x / 2) (by omega) (y / 2) h2
      have h3 : (x ||| y) / 2 = x / 2 + y / 2 := by rw [Nat.or_div_two, h1]
      have h4 : ¬ (x % 2 = 1 ∧ y % 2 = 1) := fun g => by
        have := Nat.and_mod_two_eq_one.mpr g
        rw [h] at this
        omega
      have h5 : (x ||| y) % 2 = x % 2 + y % 2 := by
        have g := @Nat.or_mod_two_eq_one x y
        by_cases e : (x ||| y) % 2 = 1
        · have := g.mp e; omega
        · have : ¬ (x % 2 = 1 ∨ y % 2 = 1) := fun q => e (g.mpr q)
          omega
      omega
theorem zcompl {k s o : Nat} (ho : o < 2 ^ k) (hs : zsub s o) : (2 ^ k + s - o - 1) &&& o = s := by
  have hle := zsub_le hs
  have hx : o - s = zdif o s := by
    have h1 : s + zdif o s = o := by
      have h2 : s &&& zdif o s = 0 := zero_of_bits fun i => by
        rw [Nat.testBit_and, zdif_bit]
        cases s.testBit i <;> simp
      have h3 : s ||| zdif o s = o := Nat.eq_of_testBit_eq fun i => by
        rw [Nat.testBit_or, zdif_bit]
        cases h4 : s.testBit i with
        | true => rw [hs i h4]; rfl
        | false => simp
      have h5 : s + zdif o s = s ||| zdif o s := by
        have := zadd_or s (zdif o s) h2
        exact this
      rw [h5, h3]
    omega
  have e : 2 ^ k + s - o - 1 = 2 ^ k - (zdif o s + 1) := by omega
  rw [e]
  refine Nat.eq_of_testBit_eq fun i => ?_
  rw [Nat.testBit_and, Nat.testBit_two_pow_sub_succ (zdif_lt ho), zdif_bit]
  cases ho' : o.testBit i with
  | false =>
    cases hs' : s.testBit i with
    | false => simp
    | true => rw [hs i hs'] at ho'; cases ho'
  | true =>
    rw [decide_eq_true (zbit_lt ho ho')]
    cases s.testBit i <;> rfl
theorem zn_spec : ∀ (k s o : Nat), o < 2 ^ k → zsub s o → s ≠ o → s < zn k s o ∧ zsub (zn k s o) o ∧ ∀ K, zsub K o → s < K → zn k s o ≤ K := by
  intro k
  induction k with
  | zero =>
    intro s o ho hs hne
    have : o = 0 := by simp at ho; exact ho
    exact absurd (by have := zsub_le hs; omega) hne
  | succ k ih =>
    intro s o ho hs hne
    have hp : 2 ^ (k + 1) = 2 * 2 ^ k := by rw [Nat.pow_succ]; omega
    obtain ⟨hs', hab⟩ := zsub_half.mp hs
    have hle := zsub_le hs'
    have ho' : o / 2 < 2 ^ k := by omega
    have hzs : zsub (zn (k + 1) s o) o := fun i hi => by unfold zn at hi; rw [Nat.testBit_and, Bool.and_eq_true] at hi; exact hi.2
    by_cases hc : s % 2 = o % 2
    · have hz2 : zn (k + 1) s o / 2 = zn k (s / 2) (o / 2) := by
        unfold zn
        rw [Nat.and_div_two]
        have : (2 ^ (k + 1) + s - o) / 2 = 2 ^ k + s / 2 - o / 2 := by omega
        rw [this]
      have hz0 : zn (k + 1) s o % 2 = 0 := by
        have : ¬ zn (k + 1) s o % 2 = 1 := by
          unfold zn
          rw [Nat.and_mod_two_eq_one]
          omega
        omega
      have hz : zn (k + 1) s o = 2 * zn k (s / 2) (o / 2) := by omega
      have hne' : s / 2 ≠ o / 2 := fun e => hne (by omega)
      obtain ⟨g1, g2, g3⟩ := ih (s / 2) (o / 2) ho' hs' hne'
      refine ⟨by omega, hzs, fun K hK hlt => ?_⟩
      obtain ⟨hK1, hK2⟩ := zsub_half.mp hK
      have h1 : s / 2 < K / 2 := by omega
      have h2 := g3 (K / 2) hK1 h1
      omega
    · have hs2 : s % 2 = 0 := by omega
      have ho2 : o % 2 = 1 := by omega
      have hz2 : zn (k + 1) s o / 2 = s / 2 := by
        unfold zn
        rw [Nat.and_div_two]
        have : (2 ^ (k + 1) + s - o) / 2 = 2 ^ k + s / 2 - o / 2 - 1 := by omega
        rw [this]
        exact zcompl ho' hs'
      have hz0 : zn (k + 1) s o % 2 = 1 := by
        unfold zn
        rw [Nat.and_mod_two_eq_one]
        omega
      have hz : zn (k + 1) s o = s + 1 := by omega
      exact ⟨by omega, hzs, fun K hK hlt => by omega⟩
/-- how many numbers below x have a property -/
def zcnt (p : Nat → Bool) : Nat → Nat
  | 0 => 0
  | x + 1 => zcnt p x + (if p x then 1 else 0)
theorem zcnt_same {p q : Nat → Bool} {x : Nat} (h : ∀ k, k < x → p k = q k) : zcnt p x = zcnt q x := by
  induction x with
  | zero => rfl
  | succ x ih =>
    show zcnt p x + _ = zcnt q x + _
    rw [ih (fun k hk => h k (by omega)), h x (Nat.lt_succ_self x)]
theorem zcnt_add (p : Nat → Bool) (x m : Nat) : zcnt p (x + m) = zcnt p x + zcnt (fun j => p (x + j)) m := by
  induction m with
  | zero => rfl
  | succ m ih =>
    show zcnt p (x + m) + (if p (x + m) then 1 else 0) = zcnt p x + (zcnt (fun j => p (x + j)) m + (if p (x + m) then 1 else 0))
    rw [ih]; omega
theorem zcnt_gap {p : Nat → Bool} {x y : Nat} (hxy : x ≤ y) (h : ∀ k, x ≤ k → k < y → p k = false) : zcnt p y = zcnt p x := by
  induction y with
  | zero => rw [show x = 0 by omega]
  | succ y ih =>
    by_cases e : x = y + 1
    · rw [e]
    · show zcnt p y + _ = _
      rw [ih (by omega) (fun k h1 h2 => h k h1 (by omega)), h y (by omega) (Nat.lt_succ_self y)]
      rfl
theorem zcnt_none {p : Nat → Bool} {x : Nat} (h : ∀ k, k < x → p k = false) : zcnt p x = 0 := by
  have := zcnt_gap (p := p) (Nat.zero_le x) (fun k _ h2 => h k h2)
  rw [this]; rfl
theorem zcnt_le {p : Nat → Bool} (x : Nat) : zcnt p x ≤ x := by
  induction x with
  | zero => exact Nat.le_refl 0
  | succ x ih =>
    show zcnt p x + _ ≤ x + 1
    split <;> omega
theorem zcnt_mono {p : Nat → Bool} {x y : Nat} (h : x ≤ y) : zcnt p x ≤ zcnt p y := by
  obtain ⟨m, rfl⟩ : ∃ m, y = x + m := ⟨y - x, by omega⟩
  rw [zcnt_add]; omega
theorem zcnt_drop {p : Nat → Bool} {x y : Nat} (hy : y < x) (hp : p y = true) : zcnt (fun k => p k && !decide (k = y)) x + 1 = zcnt p x := by
  induction x with
  | zero => omega
  | succ x ih =>
    show zcnt (fun k => p k && !decide (k = y)) x + (if (p x && !decide (x = y)) = true then 1 else 0) + 1 = zcnt p x + (if p x = true then 1 else 0)
    by_cases e : y = x
    · subst e
      rw [zcnt_same (q := p) (fun k hk => by rw [decide_eq_false (by omega)]; simp), hp]
      simp
    · have := ih (by omega)
      rw [decide_eq_false (fun h : x = y => e h.symm)]
      simp only [Bool.not_false, Bool.and_true]
      omega
theorem zcnt_inj {p q : Nat → Bool} {f : Nat → Nat} : ∀ (x y : Nat) (q : Nat → Bool), (∀ k, k < x → p k = true → f k < y ∧ q (f k) = true) → (∀ j k, j < x → k < x → p j = true → p k = true → f j = f k → j = k) → zcnt p x ≤ zcnt q y := by
  intro x
  induction x with
  | zero => intro y q _ _; exact Nat.zero_le _
  | succ x ih =>
    intro y q h1 h2
    show zcnt p x + _ ≤ _
    cases hp : p x with
    | false =>
      rw [if_neg (by decide)]
      exact ih y q (fun k hk => h1 k (by omega)) (fun j k hj hk => h2 j k (by omega) (by omega))
    | true =>
      rw [if_pos rfl]
      obtain ⟨g1, g2⟩ := h1 x (Nat.lt_succ_self x) hp
      rw [← zcnt_drop g1 g2]
      refine Nat.succ_le_succ (ih y _ (fun k hk hpk => ?_) (fun j k hj hk => h2 j k (by omega) (by omega)))
      obtain ⟨g3, g4⟩ := h1 k (by omega) hpk
      refine ⟨g3, ?_⟩
      rw [g4, decide_eq_false]
      · rfl
      · intro e
        have := h2 k x (by omega) (Nat.lt_succ_self x) hpk hp e
        omega
def zin (o K : Nat) : Bool := decide (zdif K o = 0)
theorem zin_iff {o K : Nat} : zin o K = true ↔ zsub K o := ⟨fun h => zdif_zero.mp (of_decide_eq_true h), fun h => decide_eq_true (zdif_zero.mpr h)⟩
theorem zin_false {o K : Nat} (h : ¬ zsub K o) : zin o K = false := by
  cases e : zin o K with
  | false => rfl
  | true => exact absurd (zin_iff.mp e) h
theorem zcnt_subs (o : Nat) : ∀ k, zcnt (zin o) (2 ^ k) = 2 ^ zpc o k := by
  intro k
  induction k with
  | zero =>
    show 0 + (if zin o 0 then 1 else 0) = 1
    rw [zin_iff.mpr (fun i hi => by rw [Nat.zero_testBit] at hi; cases hi)]
    rfl
  | succ k ih =>
    have hp : 2 ^ (k + 1) = 2 ^ k + 2 ^ k := by rw [Nat.pow_succ]; omega
    rw [hp, zcnt_add, ih]
    show _ = 2 ^ (zpc o k + _)
    have hb : ∀ j, j < 2 ^ k → ∀ i, (2 ^ k + j).testBit i = (decide (k = i) || j.testBit i) := fun j hj i => by
      rw [← Nat.mul_one (2 ^ k), Nat.two_pow_add_eq_or_of_lt hj 1, Nat.mul_one, Nat.testBit_or, zone_bit]
    cases ho : o.testBit k with
    | false =>
      rw [zcnt_none (fun j hj => zin_false (fun h => by
        have := h k (by rw [hb j hj, decide_eq_true rfl]; rfl)
        rw [ho] at this; cases this))]
      simp
    | true =>
      rw [zcnt_same (q := zin o) (fun j hj => by
        have key : zsub (2 ^ k + j) o ↔ zsub j o := by
          constructor
          · intro h i hi
            exact h i (by rw [hb j hj, hi, Bool.or_true])
          · intro h i hi
            rw [hb j hj, Bool.or_eq_true] at hi
            rcases hi with hi | hi
            · rw [← of_decide_eq_true hi]; exact ho
            · exact h i hi
        cases e : zin o j with
        | true => exact zin_iff.mpr (key.mpr (zin_iff.mp e))
        | false => exact zin_false (fun h => by rw [zin_iff.mpr (key.mp h)] at e; cases e)), ih]
      simp [Nat.pow_succ]; omega
/-- costs -/
def zcost (c : Nat → Nat) (S : Nat) : Nat → Nat
  | 0 => 0
  | n + 1 => zcost c S n + (if S.testBit n then c n else 0)
theorem zpc_cost (S n : Nat) : zpc S n = zcost (fun _ => 1) S n := by
  induction n with
  | zero => rfl
  | succ n ih =>
    show zpc S n + _ = zcost _ S n + _
    rw [ih]
theorem zcost_or (c : Nat → Nat) {S T : Nat} (h : S &&& T = 0) (n : Nat) : zcost c (S ||| T) n = zcost c S n + zcost c T n := by
  induction n with
  | zero => rfl
  | succ n ih =>
    show zcost c (S ||| T) n + _ = (zcost c S n + _) + (zcost c T n + _)
    rw [ih, Nat.testBit_or]
    have hb : ¬ (S.testBit n = true ∧ T.testBit n = true) := fun ⟨h1, h2⟩ => by
      have : (S &&& T).testBit n = true := by rw [Nat.testBit_and, h1, h2]; rfl
      rw [h, Nat.zero_testBit] at this; cases this
    cases hS : S.testBit n with
    | false =>
      cases hT : T.testBit n with
      | false => simp
      | true => simp; omega
    | true =>
      cases hT : T.testBit n with
      | false => simp; omega
      | true => exact absurd ⟨hS, hT⟩ hb
theorem zcost_mono (c : Nat → Nat) {S T : Nat} (h : zsub S T) (n : Nat) : zcost c S n ≤ zcost c T n := by
  induction n with
  | zero => exact Nat.le_refl 0
  | succ n ih =>
    show zcost c S n + _ ≤ zcost c T n + _
    cases hs : S.testBit n with
    | true => rw [h n hs]; simp; exact ih
    | false => simp; exact Nat.le_trans ih (Nat.le_add_right _ _)
theorem zcost_strict {c : Nat → Nat} {S T : Nat} (h : zsub S T) {i : Nat} (hc : 1 ≤ c i) (hi : T.testBit i = true) (hs : S.testBit i = false) (n : Nat) (hn : i < n) : zcost c S n < zcost c T n := by
  induction n with
  | zero => omega
  | succ n ih =>
    show zcost c S n + _ < zcost c T n + _
    by_cases e : i = n
    · subst e
      rw [hs, hi]
      have := zcost_mono c h i
      simp; omega
    · have := ih (by omega)
      cases h2 : S.testBit n with
      | true => rw [h n h2]; simp; exact this
      | false => simp; exact Nat.lt_of_lt_of_le this (Nat.le_add_right _ _)
theorem zcost_lt {c : Nat → Nat} {S T n : Nat} (hc : ∀ w, w < n → 1 ≤ c w) (h : zsub S T) (hT : T < 2 ^ n) (hne : S ≠ T) : zcost c S n < zcost c T n := by
  have : ∃ i, T.testBit i = true ∧ S.testBit i = false := by
    apply Classical.byContradiction
    intro hc
    exact hne (zsub_anti h fun i hi => by
      cases hs : S.testBit i with
      | true => rfl
      | false => exact absurd ⟨i, hi, hs⟩ hc)
  obtain ⟨i, hi, hs⟩ := this
  exact zcost_strict h (hc i (zbit_lt hT hi)) hi hs n (zbit_lt hT hi)
theorem zcost_le {c : Nat → Nat} {m : Nat} (hc : ∀ w, c w ≤ m) (S n : Nat) : zcost c S n ≤ m * n := by
  induction n with
  | zero => exact Nat.le_refl 0
  | succ n ih =>
    show zcost c S n + _ ≤ m * (n + 1)
    rw [Nat.mul_succ]
    have := hc n
    split <;> omega
/-- better: less cost, or as much and fewer words; less: better, or as good and a lesser number -/
def zbet (c : Nat → Nat) (n S T : Nat) : Prop := zcost c S n < zcost c T n ∨ (zcost c S n = zcost c T n ∧ zpc S n < zpc T n)
def zles (c : Nat → Nat) (n S T : Nat) : Prop := zbet c n S T ∨ (zcost c S n = zcost c T n ∧ zpc S n = zpc T n ∧ S < T)
theorem zles_irr {c : Nat → Nat} {n S : Nat} : ¬ zles c n S S := by unfold zles zbet; omega
theorem zles_tr {c : Nat → Nat} {n S T U : Nat} (h : zles c n S T) (g : zles c n T U) : zles c n S U := by
  unfold zles zbet at *; omega
theorem zles_tri (c : Nat → Nat) (n S T : Nat) : zles c n S T ∨ S = T ∨ zles c n T S := by
  unfold zles zbet; omega
theorem zbet_les {c : Nat → Nat} {n S T : Nat} (h : zbet c n S T) : zles c n S T := Or.inl h
/-- the best of those that may be, in the order of their numbers -/
noncomputable def zmin (feas : Nat → Prop) (bet : Nat → Nat → Prop) (b : Nat) : Nat → Nat
  | 0 => b
  | i + 1 => @ite _ (feas i ∧ bet i (zmin feas bet b i)) (Classical.propDecidable _) i (zmin feas bet b i)
theorem zmin_yes {feas : Nat → Prop} {bet : Nat → Nat → Prop} {b i : Nat} (h : feas i ∧ bet i (zmin feas bet b i)) : zmin feas bet b (i + 1) = i := if_pos h
theorem zmin_no {feas : Nat → Prop} {bet : Nat → Nat → Prop} {b i : Nat} (h : ¬ (feas i ∧ bet i (zmin feas bet b i))) : zmin feas bet b (i + 1) = zmin feas bet b i := if_neg h
theorem zmin_gap {feas : Nat → Prop} {bet : Nat → Nat → Prop} {b x y : Nat} (hxy : x ≤ y) (h : ∀ k, x ≤ k → k < y → ¬ feas k) : zmin feas bet b y = zmin feas bet b x := by
  induction y with
  | zero => rw [show x = 0 by omega]
  | succ y ih =>
    by_cases e : x = y + 1
    · rw [e]
    · rw [zmin_no (fun g => h y (by omega) (Nat.lt_succ_self y) g.1)]
      exact ih (by omega) (fun k h1 h2 => h k h1 (by omega))
/-- the model's way: all in order, by 'less' -/
theorem zmin_les {feas : Nat → Prop} {c : Nat → Nat} {n b : Nat} (hb : feas b) : ∀ i, feas (zmin feas (zles c n) b i) ∧ ∀ K, K < i → feas K → ¬ zles c n K (zmin feas (zles c n) b i) := by
  intro i
  induction i with
  | zero => exact ⟨hb, fun K h => absurd h (Nat.not_lt_zero K)⟩
  | succ i ih =>
    by_cases h : feas i ∧ zles c n i (zmin feas (zles c n) b i)
    · rw [zmin_yes h]
      refine ⟨h.1, fun K hK hf hl => ?_⟩
      by_cases e : K = i
      · rw [e] at hl; exact zles_irr hl
      · exact ih.2 K (by omega) hf (zles_tr hl h.2)
    · rw [zmin_no h]
      refine ⟨ih.1, fun K hK hf => ?_⟩
      by_cases e : K = i
      · rw [e] at hf ⊢; exact fun hl => h ⟨hf, hl⟩
      · exact ih.2 K (by omega) hf
/-- the class's way: parts of one set in order, by 'better' -/
theorem zmin_bet {feas : Nat → Prop} {c : Nat → Nat} {n b : Nat} (hc : ∀ w, w < n → 1 ≤ c w) (hbn : b < 2 ^ n) (hb : feas b) (hs : ∀ K, feas K → zsub K b) : ∀ i, feas (zmin feas (zbet c n) b i) ∧ (zmin feas (zbet c n) b i < i ∨ zmin feas (zbet c n) b i = b) ∧ ∀ K, K < i → feas K → ¬ zles c n K (zmin feas (zbet c n) b i) := by
  intro i
  induction i with
  | zero => exact ⟨hb, Or.inr rfl, fun K h => absurd h (Nat.not_lt_zero K)⟩
  | succ i ih =>
    obtain ⟨i1, i2, i3⟩ := ih
    by_cases h : feas i ∧ zbet c n i (zmin feas (zbet c n) b i)
    · rw [zmin_yes h]
      refine ⟨h.1, Or.inl (Nat.lt_succ_self i), fun K hK hf hl => ?_⟩
      by_cases e : K = i
      · rw [e] at hl; exact zles_irr hl
      · exact i3 K (by omega) hf (zles_tr hl (zbet_les h.2))
    · rw [zmin_no h]
      refine ⟨i1, ?_, fun K hK hf hl => ?_⟩
      · rcases i2 with i2 | i2
        · exact Or.inl (by omega)
        · exact Or.inr i2
      · by_cases e : K = i
        · subst e
          rcases hl with hl | hl
          · exact h ⟨hf, hl⟩
          · rcases i2 with i2 | i2
            · omega
            · refine h ⟨hf, ?_⟩
              rw [i2] at hl ⊢
              exact Or.inl (zcost_lt hc (hs K hf) hbn (by omega))
        · exact i3 K (by omega) hf hl
