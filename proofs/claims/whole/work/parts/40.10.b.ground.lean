/-! learning, ways, rings and what grounds all, over numbers -/
def zu (d : Nat → Option Nat) (w : Nat) : Nat := (d w).getD 0
def zlearn (d : Nat → Option Nat) (S w : Nat) : Bool := match d w with
  | none => false
  | some s => decide (zdif s S = 0)
def zaft (d : Nat → Option Nat) (S : Nat) : Nat → Nat
  | 0 => S
  | i + 1 => zaft d S i ||| (if zlearn d S i then 2 ^ i else 0)
theorem zaft_bit (d : Nat → Option Nat) (S i w : Nat) : (zaft d S i).testBit w = (S.testBit w || (decide (w < i) && zlearn d S w)) := by
  induction i with
  | zero => simp [zaft]
  | succ i ih =>
    show (zaft d S i ||| _).testBit w = _
    rw [Nat.testBit_or, ih]
    by_cases e : w = i
    · subst e
      cases hl : zlearn d S w <;> cases hS : S.testBit w <;> simp [zone_bit]
    · have h1 : (if zlearn d S i then 2 ^ i else 0).testBit w = false := by
        split
        · rw [zone_bit]; exact decide_eq_false (fun h => e h.symm)
        · exact Nat.zero_testBit w
      rw [h1, Bool.or_false]
      have h2 : decide (w < i + 1) = decide (w < i) := by
        by_cases g : w < i
        · rw [decide_eq_true g, decide_eq_true (by omega)]
        · rw [decide_eq_false g, decide_eq_false (by omega)]
      rw [h2]
def zday (d : Nat → Option Nat) (n S : Nat) : Nat → Nat
  | 0 => S
  | k + 1 => zaft d (zday d n S k) n
theorem zaft_sub (d : Nat → Option Nat) (S n : Nat) : zsub S (zaft d S n) := fun i hi => by rw [zaft_bit, hi]; rfl
theorem zaft_lt {d : Nat → Option Nat} {S n : Nat} (h : S < 2 ^ n) : zaft d S n < 2 ^ n := zlt_of fun i hi => by
  rw [zaft_bit] at hi
  cases hS : S.testBit i with
  | true => exact zbit_lt h hS
  | false =>
    rw [hS, Bool.false_or, Bool.and_eq_true] at hi
    exact of_decide_eq_true hi.1
theorem zday_lt {d : Nat → Option Nat} {S n : Nat} (h : S < 2 ^ n) (k : Nat) : zday d n S k < 2 ^ n := by
  induction k with
  | zero => exact h
  | succ k ih => exact zaft_lt ih
theorem zday_step (d : Nat → Option Nat) (n S k : Nat) : zsub (zday d n S k) (zday d n S (k + 1)) := zaft_sub d _ n
theorem zday_le (d : Nat → Option Nat) (n S : Nat) {k m : Nat} (h : k ≤ m) : zsub (zday d n S k) (zday d n S m) := by
  induction m with
  | zero => rw [show k = 0 by omega]; exact zsub_refl _
  | succ m ih =>
    by_cases e : k = m + 1
    · rw [e]; exact zsub_refl _
    · exact zsub_trans (ih (by omega)) (zday_step d n S m)
theorem zday_rest {d : Nat → Option Nat} {S n : Nat} (h : S < 2 ^ n) : ∀ m, n ≤ m → zday d n S m = zday d n S n := zchain (fun x => zaft d x n) n (zday d n S) (fun _ => rfl) (zday_step d n S) (zday_lt h)
/-- a set without a core: each part of it that isn't empty has a word that uses none of the part -/
def zfree (d : Nat → Option Nat) (S : Nat) : Prop := ∀ C, zsub C S → C ≠ 0 → ∃ w, C.testBit w = true ∧ zu d w &&& C = 0
theorem zfree_sub {d : Nat → Option Nat} {S T : Nat} (h : zsub S T) (g : zfree d T) : zfree d S := fun C hC h0 => g C (zsub_trans hC h) h0
theorem zfree_zero (d : Nat → Option Nat) : zfree d 0 := fun C hC h0 => absurd (zsub_anti hC (fun i hi => by rw [Nat.zero_testBit] at hi; cases hi)) h0
theorem zand_zero {x y z : Nat} (h : x &&& y = 0) (hz : zsub z y) : x &&& z = 0 := zero_of_bits fun i => by
  rw [Nat.testBit_and]
  cases hx : x.testBit i with
  | false => rfl
  | true =>
    cases hq : z.testBit i with
    | false => rfl
    | true =>
      have h1 : (x &&& y).testBit i = true := by rw [Nat.testBit_and, hx, hz i hq]; rfl
      rw [h, Nat.zero_testBit] at h1
      cases h1
theorem zfree_rem {d : Nat → Option Nat} {S w : Nat} (hu : zu d w &&& S = 0) : zfree d S ↔ zfree d (zdif S (2 ^ w)) := by
  constructor
  · exact zfree_sub (zdif_sub S _)
  · intro h C hC h0
    cases hw : C.testBit w with
    | true => exact ⟨w, hw, zand_zero hu hC⟩
    | false =>
      refine h C (fun i hi => ?_) h0
      rw [zdif_bit, hC i hi, zone_bit]
      by_cases e : w = i
      · rw [e, hi] at hw; cases hw
      · rw [decide_eq_false e]; rfl
theorem zfree_none {d : Nat → Option Nat} {S : Nat} (h0 : S ≠ 0) (h : ∀ w, S.testBit w = true → ¬ zu d w &&& S = 0) : ¬ zfree d S := fun g => by
  obtain ⟨w, h1, h2⟩ := g S (zsub_refl S) h0
  exact h w h1 h2
/-- what the words are: definitions below n alone, of words below n -/
def zwf (d : Nat → Option Nat) (n : Nat) : Prop := ∀ w s, d w = some s → w < n ∧ s < 2 ^ n
theorem zu_lt {d : Nat → Option Nat} {n : Nat} (h : zwf d n) (w : Nat) : zu d w < 2 ^ n := by
  unfold zu
  cases hd : d w with
  | none => exact Nat.pow_pos (by decide)
  | some s => exact (h w s hd).2
theorem zlearn_iff {d : Nat → Option Nat} {S w : Nat} : zlearn d S w = true ↔ ∃ s, d w = some s ∧ zsub s S := by
  unfold zlearn
  cases hd : d w with
  | none => exact ⟨fun h => (by cases h), fun ⟨s, h, _⟩ => (by cases h)⟩
  | some s => exact ⟨fun h => ⟨s, rfl, zdif_zero.mp (of_decide_eq_true h)⟩, fun ⟨s', h, h2⟩ => by cases h; exact decide_eq_true (zdif_zero.mpr h2)⟩
theorem zgall_iff {d : Nat → Option Nat} {n K : Nat} (hd : zwf d n) (hK : K < 2 ^ n) : zday d n K n = 2 ^ n - 1 ↔ (∀ w, w < n → d w = none → K.testBit w = true) ∧ zfree d (zdif (2 ^ n - 1) K) := by
  constructor
  · intro h
    have hall : ∀ w, w < n → ∃ k, (zday d n K k).testBit w = true := fun w hw => ⟨n, by rw [h, zfull_bit]; exact decide_eq_true hw⟩
    refine ⟨fun w hw hb => ?_, fun C hC h0 => ?_⟩
    · have key : ∀ k, (zday d n K k).testBit w = true → K.testBit w = true := by
        intro k
        induction k with
        | zero => exact fun h => h
        | succ k ih =>
          intro h2
          have h3 : (zaft d (zday d n K k) n).testBit w = true := h2
          rw [zaft_bit] at h3
          have h4 : zlearn d (zday d n K k) w = false := by unfold zlearn; rw [hb]
          rw [h4, Bool.and_false, Bool.or_false] at h3
          exact ih h3
      obtain ⟨k, hk⟩ := hall w hw
      exact key k hk
    · -- the first day on which a word of C is known
      have hex : ∃ k, zday d n K k &&& C ≠ 0 := by
        obtain ⟨i, hi⟩ := bit_of_ne h0
        have h1 : i < n := by
          have := hC i hi
          rw [zdif_bit, zfull_bit, Bool.and_eq_true] at this
          exact of_decide_eq_true this.1
        exact ⟨n, ne_of_bit (i := i) (by rw [Nat.testBit_and, h, zfull_bit, hi, decide_eq_true h1]; rfl)⟩
      obtain ⟨k, hk, hmin⟩ := pk_least _ hex
      obtain ⟨w, hw⟩ := bit_of_ne hk
      rw [Nat.testBit_and, Bool.and_eq_true] at hw
      cases k with
      | zero =>
        have h1 := hC w hw.2
        rw [zdif_bit, Bool.and_eq_true] at h1
        have h2 : K.testBit w = true := hw.1
        rw [h2] at h1
        cases h1.2
      | succ k =>
        have h1 : ¬ zday d n K k &&& C ≠ 0 := hmin k (Nat.lt_succ_self k)
        have h2 : zday d n K k &&& C = 0 := Classical.not_not.mp h1
        have h3 : (zaft d (zday d n K k) n).testBit w = true := hw.1
        have h4 : (zday d n K k).testBit w = false := by
          cases hz : (zday d n K k).testBit w with
          | false => rfl
          | true =>
            have : (zday d n K k &&& C).testBit w = true := by rw [Nat.testBit_and, hz, hw.2]; rfl
            rw [h2, Nat.zero_testBit] at this
            cases this
        rw [zaft_bit, h4, Bool.false_or, Bool.and_eq_true] at h3
        obtain ⟨s, hs1, hs2⟩ := zlearn_iff.mp h3.2
        refine ⟨w, hw.2, ?_⟩
        have h5 : zu d w = s := by unfold zu; rw [hs1]; rfl
        rw [h5, Nat.and_comm]
        rw [Nat.and_comm] at h2
        exact zand_zero h2 hs2
  · intro ⟨hb, hf⟩
    have hlt := zday_lt (d := d) hK n
    refine zsub_anti (zsub_full.mpr hlt) ?_
    have hfix : zaft d (zday d n K n) n = zday d n K n := zday_rest hK (n + 1) (by omega)
    have hC0 : zdif (2 ^ n - 1) (zday d n K n) = 0 := by
      apply Classical.byContradiction
      intro h0
      have hCs : zsub (zdif (2 ^ n - 1) (zday d n K n)) (zdif (2 ^ n - 1) K) := fun i hi => by
        rw [zdif_bit, Bool.and_eq_true] at hi
        rw [zdif_bit, hi.1]
        cases hk : K.testBit i with
        | false => rfl
        | true =>
          have := zday_le d n K (Nat.zero_le n) i hk
          rw [this] at hi
          cases hi.2
      obtain ⟨w, h1, h2⟩ := hf _ hCs h0
      have hwn : w < n ∧ (zday d n K n).testBit w = false := by
        rw [zdif_bit, zfull_bit, Bool.and_eq_true] at h1
        exact ⟨of_decide_eq_true h1.1, by cases hz : (zday d n K n).testBit w with | false => rfl | true => rw [hz] at h1; cases h1.2⟩
      have hdw : ∃ s, d w = some s := by
        cases hd0 : d w with
        | some s => exact ⟨s, rfl⟩
        | none =>
          have := zday_le d n K (Nat.zero_le n) w (hb w hwn.1 hd0)
          rw [this] at hwn
          cases hwn.2
      obtain ⟨s, hs⟩ := hdw
      have h5 : zu d w = s := by unfold zu; rw [hs]; rfl
      have hsub : zsub s (zday d n K n) := fun i hi => by
        cases hz : (zday d n K n).testBit i with
        | true => rfl
        | false =>
          have hin : i < n := zbit_lt (hd w s hs).2 hi
          have : (zu d w &&& zdif (2 ^ n - 1) (zday d n K n)).testBit i = true := by
            rw [Nat.testBit_and, h5, hi, zdif_bit, zfull_bit, decide_eq_true hin, hz]; rfl
          rw [h2, Nat.zero_testBit] at this
          cases this
      have h6 : (zaft d (zday d n K n) n).testBit w = true := by
        rw [zaft_bit, zlearn_iff.mpr ⟨s, hs, hsub⟩, decide_eq_true hwn.1]
        simp
      rw [hfix, hwn.2] at h6
      cases h6
    exact zdif_zero.mp hC0
/-- Warshall's rule: from a to b with words below v between them -/
def zP (d : Nat → Option Nat) : Nat → Nat → Nat → Bool
  | 0, a, b => (zu d a).testBit b
  | v + 1, a, b => zP d v a b || (zP d v a v && zP d v v b)
theorem zP_up {d : Nat → Option Nat} {v a b : Nat} (h : zP d v a b = true) : zP d (v + 1) a b = true := by
  show (zP d v a b || _) = true
  rw [h]; rfl
theorem zP_le {d : Nat → Option Nat} {v m a b : Nat} (hm : v ≤ m) (h : zP d v a b = true) : zP d m a b = true := by
  induction m with
  | zero => rw [show v = 0 by omega] at h; exact h
  | succ m ih =>
    by_cases e : v = m + 1
    · rw [← e]; exact h
    · exact zP_up (ih (by omega))
theorem zP_iff {d : Nat → Option Nat} {v a b : Nat} : zP d (v + 1) a b = true ↔ zP d v a b = true ∨ (zP d v a v = true ∧ zP d v v b = true) := by
  show (zP d v a b || (zP d v a v && zP d v v b)) = true ↔ _
  rw [Bool.or_eq_true, Bool.and_eq_true]
theorem zP_tr {d : Nat → Option Nat} : ∀ (v a w b : Nat), w < v → zP d v a w = true → zP d v w b = true → zP d v a b = true := by
  intro v
  induction v with
  | zero => intro a w b h; exact absurd h (Nat.not_lt_zero w)
  | succ v ih =>
    intro a w b hw h1 h2
    by_cases e : w = v
    · subst e
      have g1 : zP d w a w = true := by rcases zP_iff.mp h1 with h | h; exact h; exact h.1
      have g2 : zP d w w b = true := by rcases zP_iff.mp h2 with h | h; exact h; exact h.2
      exact zP_iff.mpr (Or.inr ⟨g1, g2⟩)
    · have hv : w < v := by omega
      rcases zP_iff.mp h1 with h | h <;> rcases zP_iff.mp h2 with g | g
      · exact zP_up (ih a w b hv h g)
      · exact zP_iff.mpr (Or.inr ⟨ih a w v hv h g.1, g.2⟩)
      · exact zP_iff.mpr (Or.inr ⟨h.1, ih v w b hv h.2 g⟩)
      · exact zP_iff.mpr (Or.inr ⟨h.1, g.2⟩)
theorem zP_lt {d : Nat → Option Nat} {n : Nat} (hd : zwf d n) : ∀ (v a b : Nat), v ≤ n → zP d v a b = true → a < n ∧ b < n := by
  intro v
  induction v with
  | zero =>
    intro a b _ h
    have h1 : (zu d a).testBit b = true := h
    refine ⟨?_, zbit_lt (zu_lt hd a) h1⟩
    unfold zu at h1
    cases hda : d a with
    | none => rw [hda] at h1; rw [show (none : Option Nat).getD 0 = 0 from rfl, Nat.zero_testBit] at h1; cases h1
    | some s => exact (hd a s hda).1
  | succ v ih =>
    intro a b hv h
    rcases zP_iff.mp h with h | h
    · exact ih a b (by omega) h
    · exact ⟨(ih a v (by omega) h.1).1, (ih v b (by omega) h.2).2⟩
/-- words that are in rings -/
def zring (d : Nat → Option Nat) (n : Nat) : Nat → Nat
  | 0 => 0
  | i + 1 => zring d n i ||| (if zP d n i i then 2 ^ i else 0)
theorem zring_bit' (d : Nat → Option Nat) (n i w : Nat) : (zring d n i).testBit w = (decide (w < i) && zP d n w w) := by
  induction i with
  | zero => simp [zring]
  | succ i ih =>
    show (zring d n i ||| _).testBit w = _
    rw [Nat.testBit_or, ih]
    by_cases e : w = i
    · subst e
      cases hl : zP d n w w <;> simp [zone_bit]
    · have h1 : (if zP d n i i then 2 ^ i else 0).testBit w = false := by
        split
        · rw [zone_bit]; exact decide_eq_false (fun h => e h.symm)
        · exact Nat.zero_testBit w
      rw [h1, Bool.or_false]
      have h2 : decide (w < i + 1) = decide (w < i) := by
        by_cases g : w < i
        · rw [decide_eq_true g, decide_eq_true (by omega)]
        · rw [decide_eq_false g, decide_eq_false (by omega)]
      rw [h2]
theorem zring_bit {d : Nat → Option Nat} {n : Nat} (hd : zwf d n) (w : Nat) : (zring d n n).testBit w = zP d n w w := by
  rw [zring_bit']
  cases h : zP d n w w with
  | false => exact Bool.and_false _
  | true => rw [decide_eq_true (zP_lt hd n w w (Nat.le_refl n) h).1]; rfl
theorem zring_lt (d : Nat → Option Nat) (n : Nat) : zring d n n < 2 ^ n := zlt_of fun i hi => by
  rw [zring_bit', Bool.and_eq_true] at hi
  exact of_decide_eq_true hi.1
/-- the words that a word reaches -/
def zrow (d : Nat → Option Nat) (v a : Nat) : Nat → Nat
  | 0 => 0
  | i + 1 => zrow d v a i ||| (if zP d v a i then 2 ^ i else 0)
theorem zrow_bit' (d : Nat → Option Nat) (v a i w : Nat) : (zrow d v a i).testBit w = (decide (w < i) && zP d v a w) := by
  induction i with
  | zero => simp [zrow]
  | succ i ih =>
    show (zrow d v a i ||| _).testBit w = _
    rw [Nat.testBit_or, ih]
    by_cases e : w = i
    · subst e
      cases hl : zP d v a w <;> simp [zone_bit]
    · have h1 : (if zP d v a i then 2 ^ i else 0).testBit w = false := by
        split
        · rw [zone_bit]; exact decide_eq_false (fun h => e h.symm)
        · exact Nat.zero_testBit w
      rw [h1, Bool.or_false]
      have h2 : decide (w < i + 1) = decide (w < i) := by
        by_cases g : w < i
        · rw [decide_eq_true g, decide_eq_true (by omega)]
        · rw [decide_eq_false g, decide_eq_false (by omega)]
      rw [h2]
theorem zrow_bit {d : Nat → Option Nat} {n v : Nat} (hd : zwf d n) (hv : v ≤ n) (a w : Nat) : (zrow d v a n).testBit w = zP d v a w := by
  rw [zrow_bit']
  cases h : zP d v a w with
  | false => exact Bool.and_false _
  | true => rw [decide_eq_true (zP_lt hd v a w hv h).2]; rfl
theorem zrow_lt (d : Nat → Option Nat) (v a n : Nat) : zrow d v a n < 2 ^ n := zlt_of fun i hi => by
  rw [zrow_bit', Bool.and_eq_true] at hi
  exact of_decide_eq_true hi.1
/-- a core has a core of words in rings -/
theorem zcore_ring {d : Nat → Option Nat} {n : Nat} (hd : zwf d n) : ∀ (m C : Nat), C ≤ m → C ≠ 0 → (∀ w, C.testBit w = true → ¬ zu d w &&& C = 0) → ∃ C', C' ≠ 0 ∧ zsub C' C ∧ zsub C' (zring d n n) ∧ ∀ w, C'.testBit w = true → ¬ zu d w &&& C' = 0 := by
  intro m
  induction m with
  | zero => intro C h h0; exact absurd (Nat.le_zero.mp h) h0
  | succ m ih =>
    intro C hm h0 hc
    by_cases hall : ∀ w, C.testBit w = true → zP d n w w = true
    · exact ⟨C, h0, zsub_refl C, fun i hi => by rw [zring_bit hd]; exact hall i hi, hc⟩
    · obtain ⟨w, hw⟩ := Classical.not_forall.mp hall
      obtain ⟨hw1, hw2⟩ := Classical.not_imp.mp hw
      have hbit : ∀ i, (C &&& zrow d n w n).testBit i = (C.testBit i && zP d n w i) := fun i => by rw [Nat.testBit_and, zrow_bit hd (Nat.le_refl n)]
      have hs : zsub (C &&& zrow d n w n) C := fun i hi => by rw [hbit, Bool.and_eq_true] at hi; exact hi.1
      have hne : C &&& zrow d n w n ≠ C := fun e => by
        have := hbit w
        rw [e, hw1, Bool.true_and] at this
        exact hw2 this.symm
      have hlt := zsub_lt hs hne
      have step : ∀ x, zP d n w x = true ∨ x = w → C.testBit x = true → ∃ y, (zu d x).testBit y = true ∧ (C &&& zrow d n w n).testBit y = true := by
        intro x hx hxC
        obtain ⟨y, hy⟩ := bit_of_ne (hc x hxC)
        rw [Nat.testBit_and, Bool.and_eq_true] at hy
        refine ⟨y, hy.1, ?_⟩
        rw [hbit, hy.2, Bool.true_and]
        have h1 : zP d n x y = true := zP_le (Nat.zero_le n) (v := 0) hy.1
        rcases hx with hx | hx
        · exact zP_tr n w x y (zP_lt hd n w x (Nat.le_refl n) hx).2 hx h1
        · rw [← hx]; exact h1
      obtain ⟨y0, -, hy0⟩ := step w (Or.inr rfl) hw1
      obtain ⟨C', g1, g2, g3, g4⟩ := ih (C &&& zrow d n w n) (by omega) (ne_of_bit hy0) (fun x hx => by
        rw [hbit, Bool.and_eq_true] at hx
        obtain ⟨y, hy1, hy2⟩ := step x (Or.inl hx.2) hx.1
        exact ne_of_bit (i := y) (by rw [Nat.testBit_and, hy1, hy2]; rfl))
      exact ⟨C', g1, zsub_trans g2 hs, g3, g4⟩
theorem zfree_ring {d : Nat → Option Nat} {n S : Nat} (hd : zwf d n) : zfree d S ↔ zfree d (zring d n n &&& S) := by
  constructor
  · exact zfree_sub (fun i hi => by rw [Nat.testBit_and, Bool.and_eq_true] at hi; exact hi.2)
  · intro h C hC h0
    apply Classical.byContradiction
    intro hn
    have hc : ∀ w, C.testBit w = true → ¬ zu d w &&& C = 0 := fun w hw e => hn ⟨w, hw, e⟩
    obtain ⟨C', g1, g2, g3, g4⟩ := zcore_ring hd C C (Nat.le_refl C) h0 hc
    obtain ⟨w, h1, h2⟩ := h C' (fun i hi => by rw [Nat.testBit_and, g3 i hi, hC i (g2 i hi)]; rfl) g1
    exact g4 w h1 h2
/-- what grounds all: all bare words, and no circle among the ring words outside -/
theorem zgall_ring {d : Nat → Option Nat} {n K : Nat} (hd : zwf d n) (hK : K < 2 ^ n) : zday d n K n = 2 ^ n - 1 ↔ (∀ w, w < n → d w = none → K.testBit w = true) ∧ zfree d (zdif (zring d n n) K) := by
  rw [zgall_iff hd hK, zfree_ring (S := zdif (2 ^ n - 1) K) hd]
  have e : zring d n n &&& zdif (2 ^ n - 1) K = zdif (zring d n n) K := Nat.eq_of_testBit_eq fun i => by
    rw [Nat.testBit_and, zdif_bit, zdif_bit, zfull_bit]
    cases h : (zring d n n).testBit i with
    | false => rfl
    | true => rw [decide_eq_true (zbit_lt (zring_lt d n) h)]; rfl
  rw [e]
/-! ways: what is come to by just k steps, and by at most k -/
def zst (d : Nat → Option Nat) (S : Nat) : Nat → Nat
  | 0 => 0
  | i + 1 => zst d S i ||| (if S.testBit i then zu d i else 0)
theorem zst_bit (d : Nat → Option Nat) (S n b : Nat) : (zst d S n).testBit b = true ↔ ∃ w, w < n ∧ S.testBit w = true ∧ (zu d w).testBit b = true := by
  induction n with
  | zero => exact ⟨fun h => (by rw [show zst d S 0 = 0 from rfl, Nat.zero_testBit] at h; cases h), fun ⟨w, h, _⟩ => absurd h (Nat.not_lt_zero w)⟩
  | succ n ih =>
    show (zst d S n ||| _).testBit b = true ↔ _
    rw [Nat.testBit_or, Bool.or_eq_true, ih]
    constructor
    · rintro (⟨w, h1, h2⟩ | h)
      · exact ⟨w, by omega, h2⟩
      · cases hS : S.testBit n with
        | false => rw [hS] at h; rw [if_neg (by decide), Nat.zero_testBit] at h; cases h
        | true => rw [hS, if_pos rfl] at h; exact ⟨n, Nat.lt_succ_self n, hS, h⟩
    · rintro ⟨w, h1, h2, h3⟩
      by_cases e : w = n
      · subst e
        exact Or.inr (by rw [h2, if_pos rfl]; exact h3)
      · exact Or.inl ⟨w, by omega, h2, h3⟩
theorem zst_lt {d : Nat → Option Nat} {n : Nat} (hd : zwf d n) (S : Nat) : zst d S n < 2 ^ n := zlt_of fun i hi => by
  obtain ⟨w, -, -, h⟩ := (zst_bit d S n i).mp hi
  exact zbit_lt (zu_lt hd w) h
def zE (d : Nat → Option Nat) (n a : Nat) : Nat → Nat
  | 0 => 2 ^ a
  | k + 1 => zst d (zE d n a k) n
def zX (d : Nat → Option Nat) (n a : Nat) : Nat → Nat
  | 0 => 0
  | k + 1 => zu d a ||| zst d (zX d n a k) n
theorem zX_lt {d : Nat → Option Nat} {n : Nat} (hd : zwf d n) (a k : Nat) : zX d n a k < 2 ^ n := by
  cases k with
  | zero => exact Nat.pow_pos (by decide)
  | succ k => exact Nat.or_lt_two_pow (zu_lt hd a) (zst_lt hd _)
theorem zX_step (d : Nat → Option Nat) (n a k : Nat) : zsub (zX d n a k) (zX d n a (k + 1)) := by
  induction k with
  | zero => exact fun i hi => by rw [show zX d n a 0 = 0 from rfl, Nat.zero_testBit] at hi; cases hi
  | succ k ih =>
    intro i hi
    have h1 : (zu d a ||| zst d (zX d n a k) n).testBit i = true := hi
    show (zu d a ||| zst d (zX d n a (k + 1)) n).testBit i = true
    rw [Nat.testBit_or, Bool.or_eq_true] at h1 ⊢
    rcases h1 with h1 | h1
    · exact Or.inl h1
    · obtain ⟨w, g1, g2, g3⟩ := (zst_bit _ _ _ _).mp h1
      exact Or.inr ((zst_bit _ _ _ _).mpr ⟨w, g1, ih w g2, g3⟩)
theorem zX_le (d : Nat → Option Nat) (n a : Nat) {k m : Nat} (h : k ≤ m) : zsub (zX d n a k) (zX d n a m) := by
  induction m with
  | zero => rw [show k = 0 by omega]; exact zsub_refl _
  | succ m ih =>
    by_cases e : k = m + 1
    · rw [e]; exact zsub_refl _
    · exact zsub_trans (ih (by omega)) (zX_step d n a m)
theorem zX_rest {d : Nat → Option Nat} {n : Nat} (hd : zwf d n) (a : Nat) : ∀ m, n ≤ m → zX d n a m = zX d n a n := zchain (fun x => zu d a ||| zst d x n) n (zX d n a) (fun _ => rfl) (zX_step d n a) (zX_lt hd a)
theorem zE_one {d : Nat → Option Nat} {n a : Nat} (ha : a < n) : zE d n a 1 = zu d a := Nat.eq_of_testBit_eq fun b => by
  have h := zst_bit d (2 ^ a) n b
  show (zst d (2 ^ a) n).testBit b = _
  cases hu : (zu d a).testBit b with
  | true => exact h.mpr ⟨a, ha, by rw [zone_bit]; exact decide_eq_true rfl, hu⟩
  | false =>
    cases hz : (zst d (2 ^ a) n).testBit b with
    | false => rfl
    | true =>
      obtain ⟨w, -, h2, h3⟩ := h.mp hz
      rw [zone_bit] at h2
      rw [← of_decide_eq_true h2, hu] at h3
      cases h3
theorem zX_iff {d : Nat → Option Nat} {n a : Nat} (ha : a < n) (k b : Nat) : (zX d n a k).testBit b = true ↔ ∃ j, 1 ≤ j ∧ j ≤ k ∧ (zE d n a j).testBit b = true := by
  induction k generalizing b with
  | zero => exact ⟨fun h => (by rw [show zX d n a 0 = 0 from rfl, Nat.zero_testBit] at h; cases h), fun ⟨j, h1, h2, _⟩ => (by omega)⟩
  | succ k ih =>
    show (zu d a ||| zst d (zX d n a k) n).testBit b = true ↔ _
    rw [Nat.testBit_or, Bool.or_eq_true, zst_bit]
    constructor
    · rintro (h | ⟨w, h1, h2, h3⟩)
      · exact ⟨1, Nat.le_refl 1, by omega, by rw [zE_one ha]; exact h⟩
      · obtain ⟨j, g1, g2, g3⟩ := (ih w).mp h2
        exact ⟨j + 1, by omega, by omega, (zst_bit _ _ _ _).mpr ⟨w, h1, g3, h3⟩⟩
    · rintro ⟨j, h1, h2, h3⟩
      obtain ⟨i, rfl⟩ : ∃ i, j = i + 1 := ⟨j - 1, by omega⟩
      by_cases e : i = 0
      · subst e
        rw [zE_one ha] at h3
        exact Or.inl h3
      · obtain ⟨w, g1, g2, g3⟩ := (zst_bit _ _ _ _).mp h3
        exact Or.inr ⟨w, g1, (ih w).mpr ⟨i, by omega, by omega, g2⟩, g3⟩
theorem zE_add {d : Nat → Option Nat} {n : Nat} (a c b : Nat) {j : Nat} (h1 : (zE d n a j).testBit c = true) : ∀ k, (zE d n c k).testBit b = true → (zE d n a (j + k)).testBit b = true := by
  intro k
  induction k generalizing b with
  | zero =>
    intro h
    have h2 : (2 ^ c).testBit b = true := h
    rw [zone_bit] at h2
    rw [← of_decide_eq_true h2]
    exact h1
  | succ k ih =>
    intro h
    obtain ⟨w, g1, g2, g3⟩ := (zst_bit _ _ _ _).mp h
    exact (zst_bit _ _ _ _).mpr ⟨w, g1, ih w g2, g3⟩
theorem zP_way {d : Nat → Option Nat} {n : Nat} (hd : zwf d n) : ∀ (v a b : Nat), v ≤ n → zP d v a b = true → ∃ k, 1 ≤ k ∧ (zE d n a k).testBit b = true := by
  intro v
  induction v with
  | zero =>
    intro a b h0 h
    exact ⟨1, Nat.le_refl 1, by rw [zE_one (zP_lt hd 0 a b h0 h).1]; exact h⟩
  | succ v ih =>
    intro a b hv h
    rcases zP_iff.mp h with h | ⟨h, g⟩
    · exact ih a b (by omega) h
    · obtain ⟨j, j1, j2⟩ := ih a v (by omega) h
      obtain ⟨k, k1, k2⟩ := ih v b (by omega) g
      exact ⟨j + k, by omega, zE_add a v b j2 k k2⟩
theorem zE_P {d : Nat → Option Nat} {n : Nat} (hd : zwf d n) {a : Nat} (ha : a < n) : ∀ (k b : Nat), (zE d n a (k + 1)).testBit b = true → zP d n a b = true := by
  intro k
  induction k with
  | zero =>
    intro b h
    rw [zE_one ha] at h
    exact zP_le (Nat.zero_le n) (v := 0) h
  | succ k ih =>
    intro b h
    obtain ⟨w, g1, g2, g3⟩ := (zst_bit _ _ _ _).mp h
    exact zP_tr n a w b g1 (ih w g2) (zP_le (Nat.zero_le n) (v := 0) g3)
theorem zX_P {d : Nat → Option Nat} {n : Nat} (hd : zwf d n) {a : Nat} (ha : a < n) (b : Nat) : (zX d n a n).testBit b = zP d n a b := by
  cases h : zP d n a b with
  | true =>
    obtain ⟨k, k1, k2⟩ := zP_way hd n a b (Nat.le_refl n) h
    have h1 := (zX_iff ha k b).mpr ⟨k, k1, Nat.le_refl k, k2⟩
    rcases Nat.lt_or_ge k n with g | g
    · exact zX_le d n a (Nat.le_of_lt g) b h1
    · rw [← zX_rest hd a k g]; exact h1
  | false =>
    cases hx : (zX d n a n).testBit b with
    | false => rfl
    | true =>
      obtain ⟨j, j1, -, j3⟩ := (zX_iff ha n b).mp hx
      obtain ⟨i, rfl⟩ : ∃ i, j = i + 1 := ⟨j - 1, by omega⟩
      rw [zE_P hd ha i b j3] at h
      cases h
