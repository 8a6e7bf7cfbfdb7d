/-! sets by a property: lie, users, count -/
def zsel (p : Nat → Bool) : Nat → Nat
  | 0 => 0
  | i + 1 => zsel p i ||| (if p i then 2 ^ i else 0)
theorem zsel_bit (p : Nat → Bool) (i w : Nat) : (zsel p i).testBit w = (decide (w < i) && p w) := by
  induction i with
  | zero => simp [zsel]
  | succ i ih =>
    show (zsel p i ||| _).testBit w = _
    rw [Nat.testBit_or, ih]
    by_cases e : w = i
    · subst e
      cases hl : p w <;> simp [zone_bit]
    · have h1 : (if p i then 2 ^ i else 0).testBit w = false := by
        split
        · rw [zone_bit]; exact decide_eq_false (fun h => e h.symm)
        · exact Nat.zero_testBit w
      rw [h1, Bool.or_false]
      have h2 : decide (w < i + 1) = decide (w < i) := by
        by_cases g : w < i
        · rw [decide_eq_true g, decide_eq_true (by omega)]
        · rw [decide_eq_false g, decide_eq_false (by omega)]
      rw [h2]
theorem zusr_sel (d : Nat → Option Nat) (w i : Nat) : zusr d w i = zsel (fun u => (zu d u).testBit w) i := by
  induction i with
  | zero => rfl
  | succ i ih =>
    show zusr d w i ||| _ = zsel _ i ||| _
    rw [ih]
theorem zusr_lt (d : Nat → Option Nat) (w n : Nat) : zusr d w n < 2 ^ n := zlt_of fun i hi => by
  rw [zusr_sel, zsel_bit, Bool.and_eq_true] at hi
  exact of_decide_eq_true hi.1
theorem zused_bit (d : Nat → Option Nat) (n w : Nat) : (zused d n).testBit w = true ↔ ∃ u, u < n ∧ (zu d u).testBit w = true := by
  induction n with
  | zero => exact ⟨fun h => (by rw [show zused d 0 = 0 from rfl, Nat.zero_testBit] at h; cases h), fun ⟨r, h, _⟩ => absurd h (Nat.not_lt_zero r)⟩
  | succ n ih =>
    show (zused d n ||| zu d n).testBit w = true ↔ _
    rw [Nat.testBit_or, Bool.or_eq_true, ih]
    constructor
    · rintro (⟨u, h1, h2⟩ | h)
      · exact ⟨u, by omega, h2⟩
      · exact ⟨n, Nat.lt_succ_self n, h⟩
    · rintro ⟨u, h1, h2⟩
      by_cases e : u = n
      · subst e; exact Or.inr h2
      · exact Or.inl ⟨u, by omega, h2⟩
theorem m5_isUsed {n b w : Nat} {d : Nat → Option Nat} {md : Nat → Int32} (hn : n ≤ 14) (hd : zwf d n) (hmd : ∀ i, i < 14 → md i = zm d i) (hb : b < 14) (hw : w < 14) : M_X5_isUsed (nI b) (nI w) md = some (if (zu d b).testBit w then 1 else 0) := by
  unfold M_X5_isUsed
  rw [if_neg (i_in hb (by decide)), if_neg (i_in hb (by decide)), i_cl (by omega), hmd b hb]
  cases hdb : d b with
  | none => rw [zm_none hdb, if_pos neg6, zu_none hdb, Nat.zero_testBit, ite_ff]
  | some s =>
    have hs := (hd b s hdb).2
    rw [zm_some hdb, if_neg (nI_pos (lt31 hs hn)), m5_has (lt31 hs hn) (by omega), ob_sb, zu_some hdb]
    cases s.testBit w <;> rfl
theorem m5_usersOf {n w : Nat} {d : Nat → Option Nat} {md : Nat → Int32} (hn : n ≤ 14) (hd : zwf d n) (hmd : ∀ i, i < 14 → md i = zm d i) (hw : w < 14) : M_X5_usersOf (nI w) (nI n) md = some (nI (zusr d w n)) := by
  unfold M_X5_usersOf
  refine loop_seq (fun k (s : Int32 × Int32) => L_X5_usersOf_4 (nI w) (nI n) md _ k s.1 s.2) (fun i => (nI i, nI (zusr d w i))) n _ ?_ ?_ n 0 40 (by omega) (by omega)
  · intro k i hi
    show L_X5_usersOf_4 (nI w) (nI n) md _ (k + 1) (nI i) (nI (zusr d w i)) = L_X5_usersOf_4 (nI w) (nI n) md _ k (nI (i + 1)) (nI (zusr d w i ||| (if (zu d i).testBit w then 2 ^ i else 0)))
    rw [L_X5_usersOf_4, if_neg (nI_ge hi (by omega)), m5_isUsed hn hd hmd (by omega) hw, ob_sb, i_one (by omega), i_or, i_or0, nI_1]
    cases (zu d i).testBit w with
    | false => rw [ite_ff, if_pos rfl, ite_ff, Nat.or_zero]
    | true => rw [ite_tt, if_neg (by decide), ite_tt]
  · intro k
    show L_X5_usersOf_4 (nI w) (nI n) md _ (k + 1) (nI n) _ = _
    rw [L_X5_usersOf_4, if_pos (nI_le (Nat.le_refl n) (by omega))]
def zany (q : Nat → Bool) : Nat → Bool
  | 0 => false
  | i + 1 => zany q i || q i
theorem zany_iff (q : Nat → Bool) (i : Nat) : zany q i = true ↔ ∃ r, r < i ∧ q r = true := by
  induction i with
  | zero => exact ⟨fun h => (by cases h), fun ⟨r, h, _⟩ => absurd h (Nat.not_lt_zero r)⟩
  | succ i ih =>
    show (zany q i || q i) = true ↔ _
    rw [Bool.or_eq_true, ih]
    constructor
    · rintro (⟨u, h1, h2⟩ | h)
      · exact ⟨u, by omega, h2⟩
      · exact ⟨i, Nat.lt_succ_self i, h⟩
    · rintro ⟨u, h1, h2⟩
      by_cases e : u = i
      · subst e; exact Or.inr h2
      · exact Or.inl ⟨u, by omega, h2⟩
/-- whether a word lies before (what is 1) or behind -/
def zlq (d : Nat → Option Nat) (n w : Nat) (bef : Bool) (r : Nat) : Bool := zP d n r r && (if bef then zP d n r w else zP d n w r)
def zlies (d : Nat → Option Nat) (n w : Nat) (bef : Bool) : Bool := zany (zlq d n w bef) n && !zP d n w w
theorem m5_lies {n w : Nat} {d : Nat → Option Nat} {md : Nat → Int32} {p : Int32} (hn : n ≤ 14) (hd : zwf d n) (hmd : ∀ i, i < 14 → md i = zm d i) (hw : w < n) : M_X5_lies (nI w) p (nI n) md = some (if zlies d n w (decide (p = 1)) then 1 else 0) := by
  unfold M_X5_lies
  rw [m5_ringed hn hd hmd, ob_sb]
  have hR := lt31 (zring_lt d n) hn
  have h0 : ∀ K, L_X5_lies_11 (nI w) p (nI n) md (nI (zring d n n)) K 40 0 0 = K (nI n) (if zany (zlq d n w (decide (p = 1))) n then 1 else 0) := by
    intro K
    refine loop_seq (fun k (s : Int32 × Int32) => L_X5_lies_11 (nI w) p (nI n) md (nI (zring d n n)) K k s.1 s.2) (fun i => (nI i, if zany (zlq d n w (decide (p = 1))) i then 1 else 0)) n _ ?_ ?_ n 0 40 (by omega) (by omega)
    · intro k i hi
      show L_X5_lies_11 (nI w) p (nI n) md (nI (zring d n n)) K (k + 1) (nI i) (if zany (zlq d n w (decide (p = 1))) i then 1 else 0) = L_X5_lies_11 (nI w) p (nI n) md (nI (zring d n n)) K k (nI (i + 1)) (if (zany (zlq d n w (decide (p = 1))) i || zlq d n w (decide (p = 1)) i) then 1 else 0)
      rw [L_X5_lies_11, if_neg (nI_ge hi (by omega)), m5_has hR (by omega), ob_sb, zring_bit hd, nI_1]
      cases hz : zany (zlq d n w (decide (p = 1))) i with
      | true => rw [ite_tt, if_neg (by decide), Bool.true_or, ite_tt]
      | false =>
        rw [ite_ff, if_pos rfl, Bool.false_or]
        unfold zlq
        cases hq : zP d n i i with
        | false => rw [ite_ff, if_pos rfl, Bool.false_and, ite_ff]
        | true =>
          rw [ite_tt, if_neg (by decide), Bool.true_and]
          by_cases hp : p = 1
          · obtain ⟨r, q1, q2⟩ := m5_way hn hd hmd hi hw
            rw [if_pos hp, q1, ob_sb, decide_eq_true hp, ite_tt]
            rcases q2 with ⟨q2, q3⟩ | ⟨q2, q3⟩
            · rw [if_neg (pos_nle q3), q2, ite_tt]
            · rw [if_pos (by rw [q3]; decide), q2, ite_ff]
          · obtain ⟨r, q1, q2⟩ := m5_way hn hd hmd hw hi
            rw [if_neg hp, q1, ob_sb, decide_eq_false hp, ite_ff]
            rcases q2 with ⟨q2, q3⟩ | ⟨q2, q3⟩
            · rw [if_neg (pos_nle q3), q2, ite_tt]
            · rw [if_pos (by rw [q3]; decide), q2, ite_ff]
    · intro k
      show L_X5_lies_11 (nI w) p (nI n) md (nI (zring d n n)) K (k + 1) (nI n) _ = _
      rw [L_X5_lies_11, if_pos (nI_le (Nat.le_refl n) (by omega))]
  rw [h0]
  unfold zlies
  cases zany (zlq d n w (decide (p = 1))) n with
  | false => rw [Bool.false_and]; rfl
  | true =>
    rw [ite_tt, if_neg (by decide), m5_has hR (by omega), ob_sb, zring_bit hd, Bool.true_and]
    cases zP d n w w <;> rfl
/-- what each number of lie asks of a word -/
def zlp (d : Nat → Option Nat) (n : Nat) (p : Int32) (w : Nat) : Bool :=
  if p = 0 then zP d n w w else if p = 3 then decide (zusr d w n = 0) else if p = 4 then (d w).isNone else zlies d n w (decide (p = 1))
theorem m5_lie {n : Nat} {d : Nat → Option Nat} {md : Nat → Int32} {p : Int32} (hn : n ≤ 14) (hd : zwf d n) (hmd : ∀ i, i < 14 → md i = zm d i) (hp : p = 0 ∨ p = 1 ∨ p = 2 ∨ p = 3 ∨ p = 4) : M_X5_lie p (nI n) md = some (nI (zsel (zlp d n p) n)) := by
  unfold M_X5_lie
  have hin : M_X5_in p 0 4 = some 1 := by rcases hp with rfl | rfl | rfl | rfl | rfl <;> rfl
  rw [hin, ob_sb, if_neg (by decide)]
  refine loop_seq (fun k (s : Int32 × Int32) => L_X5_lie_16 p (nI n) md _ k s.1 s.2) (fun i => (nI i, nI (zsel (zlp d n p) i))) n _ ?_ ?_ n 0 40 (by omega) (by omega)
  · intro k i hi
    show L_X5_lie_16 p (nI n) md _ (k + 1) (nI i) (nI (zsel (zlp d n p) i)) = L_X5_lie_16 p (nI n) md _ k (nI (i + 1)) (nI (zsel (zlp d n p) i ||| (if zlp d n p i then 2 ^ i else 0)))
    rw [L_X5_lie_16, if_neg (nI_ge hi (by omega)), i_one (by omega), i_or, i_or0, nI_1]
    unfold zlp
    by_cases h0 : p = 0
    · rw [if_pos h0, if_pos h0, m5_ringOf hn hd hmd hi, ob_sb]
      cases hz : zP d n i i with
      | false =>
        have hq : zro d n i n = 0 := Classical.not_not.mp (fun q => by rw [(zro_ne hd i).mp q] at hz; cases hz)
        rw [if_pos ((i_zero (lt32 (zro_lt d n i) hn)).mpr hq), ite_ff, Nat.or_zero]
      | true => rw [if_neg (fun q => (zro_ne hd i).mpr hz ((i_zero (lt32 (zro_lt d n i) hn)).mp q)), ite_tt]
    · rw [if_neg h0, if_neg h0]
      by_cases h3 : p = 3
      · rw [if_pos h3, if_pos h3, m5_usersOf hn hd hmd (by omega), ob_sb]
        by_cases hz : zusr d i n = 0
        · rw [if_pos ((i_zero (lt32 (zusr_lt d i n) hn)).mpr hz), decide_eq_true hz, ite_tt]
        · rw [if_neg (fun q => hz ((i_zero (lt32 (zusr_lt d i n) hn)).mp q)), decide_eq_false hz, ite_ff, Nat.or_zero]
      · rw [if_neg h3, if_neg h3]
        by_cases h4 : p = 4
        · rw [if_pos h4, if_pos h4, if_neg (i_in (by omega) (by decide)), i_cl (by omega), hmd i (by omega)]
          cases hdi : d i with
          | none => rw [zm_none hdi, if_neg (by decide)]; rfl
          | some s =>
            rw [zm_some hdi, if_pos (nI_pos' (lt31 (hd i s hdi).2 hn))]
            show _ = L_X5_lie_16 p (nI n) md _ k (nI (i + 1)) (nI (_ ||| 0))
            rw [Nat.or_zero]
        · rw [if_neg h4, if_neg h4, m5_lies hn hd hmd hi, ob_sb]
          cases zlies d n i (decide (p = 1)) with
          | false => rw [ite_ff, if_pos rfl, ite_ff, Nat.or_zero]
          | true => rw [ite_tt, if_neg (by decide), ite_tt]
  · intro k
    show L_X5_lie_16 p (nI n) md _ (k + 1) (nI n) _ = _
    rw [L_X5_lie_16, if_pos (nI_le (Nat.le_refl n) (by omega))]
theorem and_ne {x y : Nat} : (¬ x &&& y = 0) ↔ ∃ i, x.testBit i = true ∧ y.testBit i = true := by
  constructor
  · intro h
    obtain ⟨i, hi⟩ := bit_of_ne h
    rw [Nat.testBit_and, Bool.and_eq_true] at hi
    exact ⟨i, hi⟩
  · rintro ⟨i, h1, h2⟩
    exact ne_of_bit (i := i) (by rw [Nat.testBit_and, h1, h2]; rfl)
theorem bool_eq {a b : Bool} (h : a = true ↔ b = true) : a = b := by
  cases a <;> cases b <;> simp_all
theorem zlie_0 {d : Nat → Option Nat} {n : Nat} (hd : zwf d n) : zsel (zlp d n 0) n = zring d n n := Nat.eq_of_testBit_eq fun w => by
  rw [zsel_bit, zring_bit hd]
  show (decide (w < n) && zP d n w w) = _
  cases h : zP d n w w with
  | false => rw [Bool.and_false]
  | true => rw [decide_eq_true (zP_lt hd n w w (Nat.le_refl n) h).1]; rfl
theorem zlie_1 {d : Nat → Option Nat} {n : Nat} (hd : zwf d n) : zsel (zlp d n 1) n = zdif (zbf d n n) (zring d n n) := Nat.eq_of_testBit_eq fun w => by
  rw [zsel_bit, zdif_bit, zring_bit hd]
  show (decide (w < n) && (zany (zlq d n w true) n && !zP d n w w)) = _
  refine bool_eq ?_
  rw [Bool.and_eq_true, Bool.and_eq_true, Bool.and_eq_true, zany_iff, zbf_bit hd]
  constructor
  · rintro ⟨h1, ⟨r, h2, h3⟩, h4⟩
    have h5 : (zP d n r r && zP d n r w) = true := h3
    rw [Bool.and_eq_true] at h5
    exact ⟨⟨r, h2, h5⟩, h4⟩
  · rintro ⟨⟨r, h1, h2, h3⟩, h4⟩
    exact ⟨decide_eq_true (zP_lt hd n r w (Nat.le_refl n) h3).2, ⟨r, h1, by show (zP d n r r && zP d n r w) = true; rw [h2, h3]; rfl⟩, h4⟩
theorem zlie_2 {d : Nat → Option Nat} {n : Nat} (hd : zwf d n) : zsel (zlp d n 2) n = zdif (zbh d n n) (zring d n n) := Nat.eq_of_testBit_eq fun w => by
  rw [zsel_bit, zdif_bit, zring_bit hd]
  show (decide (w < n) && (zany (zlq d n w false) n && !zP d n w w)) = _
  refine bool_eq ?_
  rw [Bool.and_eq_true, Bool.and_eq_true, Bool.and_eq_true, zany_iff, zbh_bit, and_ne]
  constructor
  · rintro ⟨h1, ⟨r, h2, h3⟩, h4⟩
    have h5 : (zP d n r r && zP d n w r) = true := h3
    rw [Bool.and_eq_true] at h5
    exact ⟨⟨of_decide_eq_true h1, r, by rw [zrow_bit hd (Nat.le_refl n)]; exact h5.2, by rw [zring_bit hd]; exact h5.1⟩, h4⟩
  · rintro ⟨⟨h1, r, h2, h3⟩, h4⟩
    rw [zrow_bit hd (Nat.le_refl n)] at h2
    rw [zring_bit hd] at h3
    exact ⟨decide_eq_true h1, ⟨r, (zP_lt hd n w r (Nat.le_refl n) h2).2, by show (zP d n r r && zP d n w r) = true; rw [h2, h3]; rfl⟩, h4⟩
theorem zlie_3 {d : Nat → Option Nat} {n : Nat} : zsel (zlp d n 3) n = zdif (2 ^ n - 1) (zused d n) := Nat.eq_of_testBit_eq fun w => by
  rw [zsel_bit, zdif_bit, zfull_bit]
  show (decide (w < n) && decide (zusr d w n = 0)) = _
  have e : decide (zusr d w n = 0) = !(zused d n).testBit w := by
    refine bool_eq ?_
    rw [decide_eq_true_iff]
    constructor
    · intro h
      cases hu : (zused d n).testBit w with
      | false => rfl
      | true =>
        obtain ⟨u, h1, h2⟩ := (zused_bit d n w).mp hu
        have : (zusr d w n).testBit u = true := by rw [zusr_sel, zsel_bit, decide_eq_true h1]; exact h2
        rw [h, Nat.zero_testBit] at this
        cases this
    · intro h
      refine zero_of_bits fun u => ?_
      rw [zusr_sel, zsel_bit]
      cases h2 : (zu d u).testBit w with
      | false => exact Bool.and_false _
      | true =>
        by_cases h3 : u < n
        · rw [(zused_bit d n w).mpr ⟨u, h3, h2⟩] at h; cases h
        · rw [decide_eq_false h3]; rfl
  rw [e]
theorem zlie_4 {d : Nat → Option Nat} {n F : Nat} (hF : ∀ i, F.testBit i = (d i).isSome) : zsel (zlp d n 4) n = zdif (2 ^ n - 1) F := Nat.eq_of_testBit_eq fun w => by
  rw [zsel_bit, zdif_bit, zfull_bit, hF]
  show (decide (w < n) && (d w).isNone) = _
  cases d w <;> rfl
/-- count's two sums -/
theorem m5_count {n F : Nat} {d : Nat → Option Nat} {md : Nat → Int32} (hn : n ≤ 14) (hd : zwf d n) (hmd : ∀ i, i < 14 → md i = zm d i) (hF : ∀ i, F.testBit i = (d i).isSome) (K : Int32 → Int32 → Int32 → Option Int32) : L_X5_count_33 (nI n) md K 40 0 0 0 = K (nI n) (nI (zoft d n)) (nI (zpc F n)) := by
  refine loop_seq (fun k (s : Int32 × Int32 × Int32) => L_X5_count_33 (nI n) md K k s.1 s.2.1 s.2.2) (fun i => (nI i, nI (zoft d i), nI (zpc F i))) n _ ?_ ?_ n 0 40 (by omega) (by omega)
  · intro k i hi
    show L_X5_count_33 (nI n) md K (k + 1) (nI i) (nI (zoft d i)) (nI (zpc F i)) = L_X5_count_33 (nI n) md K k (nI (i + 1)) (nI (zoft d i + zpc (zu d i) 14)) (nI (zpc F i + (if F.testBit i then 1 else 0)))
    rw [L_X5_count_33, if_neg (nI_ge hi (by omega)), if_neg (i_in (by omega) (by decide)), if_neg (i_in (by omega) (by decide)), if_neg (i_in (by omega) (by decide)), if_neg (i_in (by omega) (by decide)), if_neg (i_in (by omega) (by decide)), i_cl (by omega), hmd i (by omega), nI_1, hF i, i_add0, i_add0]
    cases hdi : d i with
    | none =>
      rw [zm_none hdi, if_pos neg6, if_pos neg6, zu_none hdi]
      rfl
    | some s =>
      have hs := lt31 (hd i s hdi).2 hn
      rw [zm_some hdi, if_neg (nI_pos hs), if_neg (nI_pos hs), m5_bits hs, ob_sb, zu_some hdi, nI_add, nI_1]
      rfl
  · intro k
    show L_X5_count_33 (nI n) md K (k + 1) (nI n) _ _ = _
    rw [L_X5_count_33, if_pos (nI_le (Nat.le_refl n) (by omega))]
