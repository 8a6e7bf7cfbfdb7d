/-! the text, its fault, what it tells -/
theorem ite_nt {α : Type} (a b : α) : (if (!true) = true then a else b) = b := rfl
def zisw (n t : Nat) : Bool := decide (97 ≤ t ∧ t - 97 < n)
theorem i_let {t : Nat} (h : 97 ≤ t) : nI t - 97 = nI (t - 97) := pk_sub (b := 97) h
theorem m_wordBit {n t : Nat} (hn : n ≤ 14) (ht : t < 128) : M_X2_wordBit (nI t) (nI n) = some (if zisw n t then nI (2 ^ (t - 97)) else 0) := by
  unfold M_X2_wordBit zisw
  by_cases h1 : 97 ≤ t
  · rw [i_let h1, if_neg (nI_pos (by omega))]
    by_cases h2 : t - 97 < n
    · rw [if_neg (nI_ge h2 (by omega)), decide_eq_true ⟨h1, h2⟩, ite_tt, i_one (by omega)]
    · rw [if_pos (nI_le (by omega) (by omega)), decide_eq_false (fun q => h2 q.2), ite_ff]
  · have : nI t - 97 < 0 := pk_sneg (b := 97) (by decide) (by omega)
    rw [if_pos this, decide_eq_false (fun q => h1 q.1), ite_ff]
theorem m5_isWordT {n t : Nat} (hn1 : 1 ≤ n) (hn : n ≤ 14) (ht : t < 128) : M_X5_isWord (nI t - 97) (nI n) = some (if zisw n t then 1 else 0) := by
  unfold zisw
  by_cases h1 : 97 ≤ t
  · rw [i_let h1]
    by_cases h2 : t - 97 < n
    · rw [m5_isWord_yes hn h2, decide_eq_true ⟨h1, h2⟩]; rfl
    · rw [m5_isWord_no hn1 hn (Or.inr (nI_le (by omega) (by omega))), decide_eq_false (fun q => h2 q.2)]; rfl
  · have hneg : nI t - 97 < 0 := pk_sneg (b := 97) (by decide) (by omega)
    rw [m5_isWord_no hn1 hn (Or.inl hneg), decide_eq_false (fun q => h1 q.1)]; rfl
/-- the words told at the places 2 .. i + 1 -/
def zseen (t : Nat → Nat) : Nat → Nat
  | 0 => 0
  | i + 1 => zseen t i ||| 2 ^ (t (i + 2) - 97)
theorem zseen_lt {t : Nat → Nat} {n : Nat} (i : Nat) (h : ∀ j, j < i → zisw n (t (j + 2)) = true) : zseen t i < 2 ^ n := by
  induction i with
  | zero => exact Nat.pow_pos (by decide)
  | succ i ih =>
    refine Nat.or_lt_two_pow (ih (fun j hj => h j (by omega))) (Nat.pow_lt_pow_right (by decide) ?_)
    have := h i (Nat.lt_succ_self i)
    unfold zisw at this
    exact (of_decide_eq_true this).2
theorem m5_toldUpTo {t : Nat → Nat} {tx : Nat → Int32} {n k : Nat} (hn : n ≤ 14) (hk : k + 2 ≤ 20) (htx : ∀ i, i < 20 → tx i = nI (t i)) (h : ∀ j, j < k → zisw n (t (j + 2)) = true) : M_X5_toldUpTo (nI (k + 2)) tx = some (nI (zseen t k)) := by
  unfold M_X5_toldUpTo
  refine loop_seq (fun f (s : Int32 × Int32) => L_X5_toldUpTo_4 (nI (k + 2)) tx _ f s.1 s.2) (fun i => (nI (i + 2), nI (zseen t i))) k _ ?_ ?_ k 0 40 (by omega) (by omega)
  · intro f i hi
    show L_X5_toldUpTo_4 (nI (k + 2)) tx _ (f + 1) (nI (i + 2)) (nI (zseen t i)) = L_X5_toldUpTo_4 (nI (k + 2)) tx _ f (nI (i + 2 + 1)) (nI (zseen t i ||| 2 ^ (t (i + 2) - 97)))
    have h1 := h i hi
    unfold zisw at h1
    have h2 := of_decide_eq_true h1
    rw [L_X5_toldUpTo_4, if_neg (nI_ge (by omega) (by omega)), if_neg (i_in (by omega) (by decide)), i_cl (by omega), htx _ (by omega), i_let h2.1, i_one (by omega), i_or, nI_1]
  · intro f
    show L_X5_toldUpTo_4 (nI (k + 2)) tx _ (f + 1) (nI (k + 2)) _ = _
    rw [L_X5_toldUpTo_4, if_pos (nI_le (Nat.le_refl _) (by omega))]
def zbad (n : Nat) (t : Nat → Nat) (i : Nat) : Bool :=
  if i = 0 then !zisw n (t 0) else if i = 1 then !(decide (t 1 = 58) || decide (t 1 = 46)) else !(decide (t 1 = 58) && (zisw n (t i) && !(zseen t (i - 2)).testBit (t i - 97)))
theorem zbad_2 {n : Nat} {t : Nat → Nat} (i : Nat) : zbad n t (i + 2) = !(decide (t 1 = 58) && (zisw n (t (i + 2)) && !(zseen t i).testBit (t (i + 2) - 97))) := by
  unfold zbad
  rw [if_neg (by omega), if_neg (by omega), show i + 2 - 2 = i by omega]
theorem zbad_isw {n : Nat} {t : Nat → Nat} {i : Nat} (h : zbad n t (i + 2) = false) : t 1 = 58 ∧ zisw n (t (i + 2)) = true ∧ (zseen t i).testBit (t (i + 2) - 97) = false := by
  rw [zbad_2, Bool.not_eq_false', Bool.and_eq_true, Bool.and_eq_true] at h
  exact ⟨of_decide_eq_true h.1, h.2.1, by cases q : (zseen t i).testBit (t (i + 2) - 97) with | false => rfl | true => rw [q] at h; cases h.2.2⟩
theorem i_58 {x : Nat} (hx : x < 128) : (nI x = 58) ↔ x = 58 := nI_eq (b := 58) (by omega) (by decide)
theorem i_46 {x : Nat} (hx : x < 128) : (nI x = 46) ↔ x = 46 := nI_eq (b := 46) (by omega) (by decide)
theorem m5_canStand {n i : Nat} {t : Nat → Nat} {tx : Nat → Int32} (hn1 : 1 ≤ n) (hn : n ≤ 14) (hi : i < 20) (htx : ∀ i, i < 20 → tx i = nI (t i)) (ht : ∀ i, i < 20 → t i < 128) (h : ∀ j, j < i → zbad n t j = false) : M_X5_canStand (nI i) (nI n) tx = some (if zbad n t i then 0 else 1) := by
  unfold M_X5_canStand
  rw [if_neg (i_in hi (by decide)), i_cl (by omega), htx i hi, show tx (1 : Int32).toNatClampNeg = nI (t 1) from htx 1 (by decide)]
  have ht1 := ht 1 (by decide)
  match i, hi, h with
  | 0, _, _ =>
    rw [if_pos (show nI 0 = 0 from rfl), m5_isWordT hn1 hn (ht 0 (by decide)), ob_sb]
    show _ = some (if (!zisw n (t 0)) = true then 0 else 1)
    cases zisw n (t 0) <;> rfl
  | 1, _, _ =>
    rw [if_neg (show ¬ nI 1 = 0 by decide), if_pos (show nI 1 = 1 from rfl)]
    show _ = some (if (!(decide (t 1 = 58) || decide (t 1 = 46))) = true then 0 else 1)
    by_cases h1 : t 1 = 58
    · rw [if_pos ((i_58 ht1).mpr h1), decide_eq_true h1]; rfl
    · rw [if_neg (fun q => h1 ((i_58 ht1).mp q)), decide_eq_false h1]
      by_cases h2 : t 1 = 46
      · rw [if_pos ((i_46 ht1).mpr h2), decide_eq_true h2]; rfl
      · rw [if_neg (fun q => h2 ((i_46 ht1).mp q)), decide_eq_false h2]; rfl
  | i + 2, hi, h =>
    have hw : ∀ j, j < i → zisw n (t (j + 2)) = true := fun j hj => (zbad_isw (h (j + 2) (by omega))).2.1
    rw [if_neg (show ¬ nI (i + 2) = 0 from fun q => by have := (nI_eq (b := 0) (by omega) (by decide)).mp q; omega), if_neg (show ¬ nI (i + 2) = 1 from fun q => by have := (nI_eq (b := 1) (by omega) (by decide)).mp q; omega), zbad_2, m5_isWordT hn1 hn (ht _ hi), ob_sb, m5_toldUpTo hn (by omega) htx hw, ob_sb]
    by_cases h1 : t 1 = 58
    · rw [if_pos ((i_58 ht1).mpr h1), decide_eq_true h1, Bool.true_and]
      cases hz : zisw n (t (i + 2)) with
      | false => rfl
      | true =>
        have hz' := hz
        unfold zisw at hz'
        have hz2 := of_decide_eq_true hz'
        rw [ite_tt, if_neg (by decide), i_let hz2.1, m5_has (lt31 (zseen_lt i hw) hn) (by omega), ob_sb, Bool.true_and]
        cases (zseen t i).testBit (t (i + 2) - 97) <;> rfl
    · rw [if_neg (fun q => h1 ((i_58 ht1).mp q)), decide_eq_false h1]; rfl
theorem m5_faultNow {n L : Nat} {t : Nat → Nat} {tx : Nat → Int32} (hn1 : 1 ≤ n) (hn : n ≤ 14) (hL : L ≤ 20) (htx : ∀ i, i < 20 → tx i = nI (t i)) (ht : ∀ i, i < 20 → t i < 128) :
    (∀ j, j < L → zbad n t j = true → (∀ i, i < j → zbad n t i = false) → M_X5_faultNow (nI n) tx (nI L) = some (nI j)) ∧ ((∀ i, i < L → zbad n t i = false) → M_X5_faultNow (nI n) tx (nI L) = if L < 2 then some (nI L) else some (-6)) := by
  have hs : ∀ K k i, i < L → (∀ j, j ≤ i → zbad n t j = false) → L_X5_faultNow_2 (nI n) tx (nI L) K (k + 1) (nI i) = L_X5_faultNow_2 (nI n) tx (nI L) K k (nI (i + 1)) := by
    intro K k i hi h
    rw [L_X5_faultNow_2, if_neg (nI_ge hi (by omega)), m5_canStand hn1 hn (by omega) htx ht (fun j hj => h j (by omega)), ob_sb, h i (Nat.le_refl i), ite_ff, if_neg (by decide), nI_1]
  constructor
  · intro j hj h1 h2
    unfold M_X5_faultNow
    refine loop_seq (fun k (s : Int32) => L_X5_faultNow_2 (nI n) tx (nI L) _ k s) (fun i => nI i) j _ (fun k i hi => hs _ k i (by omega) (fun i' hi' => h2 i' (by omega))) (fun k => ?_) j 0 40 (by omega) (by omega)
    show L_X5_faultNow_2 (nI n) tx (nI L) _ (k + 1) (nI j) = _
    rw [L_X5_faultNow_2, if_neg (nI_ge hj (by omega)), m5_canStand hn1 hn (by omega) htx ht h2, ob_sb, h1, ite_tt, if_pos rfl]
  · intro h
    unfold M_X5_faultNow
    refine loop_seq (fun k (s : Int32) => L_X5_faultNow_2 (nI n) tx (nI L) _ k s) (fun i => nI i) L _ (fun k i hi => hs _ k i hi (fun i' hi' => h i' (by omega))) (fun k => ?_) L 0 40 (by omega) (by omega)
    show L_X5_faultNow_2 (nI n) tx (nI L) _ (k + 1) (nI L) = _
    rw [L_X5_faultNow_2, if_pos (nI_le (Nat.le_refl L) (by omega))]
    by_cases h2 : L < 2
    · rw [if_pos h2, if_neg (show ¬ (2 : Int32) ≤ nI L from nI_ge (b := 2) h2 (by decide))]
    · rw [if_neg h2, if_pos (show (2 : Int32) ≤ nI L from nI_le (a := 2) (by omega) (by omega))]
theorem and_pow {x w : Nat} : (x &&& 2 ^ w = 0) ↔ x.testBit w = false := by
  constructor
  · intro h
    have h1 : (x &&& 2 ^ w).testBit w = false := by rw [h, Nat.zero_testBit]
    rw [Nat.testBit_and, zone_bit, decide_eq_true rfl, Bool.and_true] at h1
    exact h1
  · intro h
    refine zero_of_bits fun i => ?_
    rw [Nat.testBit_and, zone_bit]
    by_cases e : w = i
    · rw [← e, h]; rfl
    · rw [decide_eq_false e, Bool.and_false]
theorem m_faultL {n L : Nat} {t : Nat → Nat} {sg : Nat → Int32} (hn : n ≤ 14) (hL : L ≤ 20) (hsg : ∀ i, i < 20 → sg i = nI (t i)) (ht : ∀ i, i < 20 → t i < 128) (h58 : t 1 = 58) (h2L : 2 ≤ L) :
    (∀ j, j + 2 < L → zbad n t (j + 2) = true → (∀ i, i < j → zbad n t (i + 2) = false) → L_X2_faultPlace_80 (nI n) sg (nI L) (fun (v3_80 : Int32) (v2_80 : Int32) => some (-6)) 40 2 0 = some (nI (j + 2))) ∧ ((∀ i, i + 2 < L → zbad n t (i + 2) = false) → L_X2_faultPlace_80 (nI n) sg (nI L) (fun (v3_80 : Int32) (v2_80 : Int32) => some (-6)) 40 2 0 = some (-6)) := by
  have hone : ∀ K k i, i + 2 < L → (∀ j, j < i → zbad n t (j + 2) = false) → L_X2_faultPlace_80 (nI n) sg (nI L) K (k + 1) (nI (i + 2)) (nI (zseen t i)) = if zbad n t (i + 2) then some (nI (i + 2)) else L_X2_faultPlace_80 (nI n) sg (nI L) K k (nI (i + 2 + 1)) (nI (zseen t (i + 1))) := by
    intro K k i hi h
    have hw : ∀ j, j < i → zisw n (t (j + 2)) = true := fun j hj => (zbad_isw (h j hj)).2.1
    rw [L_X2_faultPlace_80, if_neg (nI_ge (by omega) (by omega)), if_neg (i_in (by omega) (by decide)), i_cl (by omega), hsg _ (by omega), m_wordBit hn (ht _ (by omega)), ob_sb, nI_1, zbad_2, decide_eq_true h58, Bool.true_and]
    cases hz : zisw n (t (i + 2)) with
    | false => rfl
    | true =>
      have hz' := hz
      unfold zisw at hz'
      have hz2 := of_decide_eq_true hz'
      have hp : 2 ^ (t (i + 2) - 97) < 2 ^ n := Nat.pow_lt_pow_right (by decide) hz2.2
      have hand : zseen t i &&& 2 ^ (t (i + 2) - 97) < 2 ^ 32 := lt32 (Nat.lt_of_le_of_lt Nat.and_le_right hp) hn
      rw [ite_tt, if_neg (fun q => by have := (i_zero (lt32 hp hn)).mp q; have := Nat.two_pow_pos (t (i + 2) - 97); omega), i_and, i_or, Bool.true_and]
      cases hb : (zseen t i).testBit (t (i + 2) - 97) with
      | false => rw [if_pos ((i_zero hand).mpr (and_pow.mpr hb))]; rfl
      | true => rw [if_neg (fun q => by rw [and_pow.mp ((i_zero hand).mp q)] at hb; cases hb)]; rfl
  constructor
  · intro j hj h1 h2
    refine loop_seq (fun k (s : Int32 × Int32) => L_X2_faultPlace_80 (nI n) sg (nI L) _ k s.1 s.2) (fun i => (nI (i + 2), nI (zseen t i))) j _ (fun k i hi => ?_) (fun k => ?_) j 0 40 (by omega) (by omega)
    · show L_X2_faultPlace_80 (nI n) sg (nI L) _ (k + 1) (nI (i + 2)) (nI (zseen t i)) = L_X2_faultPlace_80 (nI n) sg (nI L) _ k (nI (i + 2 + 1)) (nI (zseen t (i + 1)))
      rw [hone _ k i (by omega) (fun j' hj' => h2 j' (by omega)), h2 i hi, ite_ff]
    · show L_X2_faultPlace_80 (nI n) sg (nI L) _ (k + 1) (nI (j + 2)) (nI (zseen t j)) = _
      rw [hone _ k j hj h2, h1, ite_tt]
  · intro h
    refine loop_seq (fun k (s : Int32 × Int32) => L_X2_faultPlace_80 (nI n) sg (nI L) _ k s.1 s.2) (fun i => (nI (i + 2), nI (zseen t i))) (L - 2) _ (fun k i hi => ?_) (fun k => ?_) (L - 2) 0 40 (by omega) (by omega)
    · show L_X2_faultPlace_80 (nI n) sg (nI L) _ (k + 1) (nI (i + 2)) (nI (zseen t i)) = L_X2_faultPlace_80 (nI n) sg (nI L) _ k (nI (i + 2 + 1)) (nI (zseen t (i + 1)))
      rw [hone _ k i (by omega) (fun j' hj' => h j' (by omega)), h i (by omega), ite_ff]
    · show L_X2_faultPlace_80 (nI n) sg (nI L) _ (k + 1) (nI (L - 2 + 2)) _ = _
      rw [show L - 2 + 2 = L by omega, L_X2_faultPlace_80, if_pos (nI_le (Nat.le_refl L) (by omega))]
theorem m_tells {t : Nat → Nat} {sg : Nat → Int32} (hsg : ∀ i, i < 20 → sg i = nI (t i)) (ht : ∀ i, i < 20 → t i < 128) : M_X2_tellsBare sg = some (if t 1 = 46 then 1 else 0) := by
  unfold M_X2_tellsBare
  rw [show sg (1 : Int32).toNatClampNeg = nI (t 1) from hsg 1 (by decide)]
  by_cases h : t 1 = 46
  · rw [if_pos ((i_46 (ht 1 (by decide))).mpr h), if_pos h]
  · rw [if_neg (fun q => h ((i_46 (ht 1 (by decide))).mp q)), if_neg h]
theorem m_faultPlace {n L : Nat} {t : Nat → Nat} {sg : Nat → Int32} (hn : n ≤ 14) (hL : L ≤ 20) (hsg : ∀ i, i < 20 → sg i = nI (t i)) (ht : ∀ i, i < 20 → t i < 128) :
    (∀ j, j < L → zbad n t j = true → (∀ i, i < j → zbad n t i = false) → M_X2_faultPlace (nI n) sg (nI L) = some (nI j)) ∧ ((∀ i, i < L → zbad n t i = false) → M_X2_faultPlace (nI n) sg (nI L) = if L < 2 then some (nI L) else some (-6)) := by
  have ht1 := ht 1 (by decide)
  have hLe : ∀ x, x < 32 → ((nI L = nI x) ↔ L = x) := fun x hx => nI_eq (by omega) (by omega)
  have hw0 : M_X2_wordBit (sg (0 : Int32).toNatClampNeg) (nI n) = some (if zisw n (t 0) then nI (2 ^ (t 0 - 97)) else 0) := by
    rw [show sg (0 : Int32).toNatClampNeg = nI (t 0) from hsg 0 (by decide)]
    exact m_wordBit hn (ht 0 (by decide))
  have b0 : zbad n t 0 = !zisw n (t 0) := rfl
  have b1 : zbad n t 1 = !(decide (t 1 = 58) || decide (t 1 = 46)) := rfl
  have hne : zisw n (t 0) = true → ¬ nI (2 ^ (t 0 - 97)) = 0 := fun h q => by
    unfold zisw at h
    have h2 := of_decide_eq_true h
    have hp : 2 ^ (t 0 - 97) < 2 ^ n := Nat.pow_lt_pow_right (by decide) h2.2
    have := (i_zero (lt32 hp hn)).mp q
    have := Nat.two_pow_pos (t 0 - 97)
    omega
  have hS : M_X2_faultPlace (nI n) sg (nI L) = if L = 0 then some 0 else if zbad n t 0 then some 0 else if L = 1 then some 1 else if zbad n t 1 then some 1 else if t 1 = 46 then (if L = 2 then some (-6) else some 2) else L_X2_faultPlace_80 (nI n) sg (nI L) (fun (v3_80 : Int32) (v2_80 : Int32) => some (-6)) 40 2 0 := by
    unfold M_X2_faultPlace
    rw [hw0, ob_sb, m_tells hsg ht, ob_sb, show sg (1 : Int32).toNatClampNeg = nI (t 1) from hsg 1 (by decide), b0, b1]
    by_cases h0 : L = 0
    · rw [if_pos h0, if_pos (show nI L = 0 by rw [h0]; rfl)]
    · rw [if_neg h0, if_neg (show ¬ nI L = 0 from fun q => h0 ((hLe 0 (by decide)).mp q))]
      cases hz : zisw n (t 0) with
      | false => rfl
      | true =>
        rw [ite_tt, if_neg (hne hz), ite_nt]
        by_cases hL1 : L = 1
        · rw [if_pos hL1, if_pos (show nI L = 1 by rw [hL1]; rfl)]
        · rw [if_neg hL1, if_neg (show ¬ nI L = 1 from fun q => hL1 ((hLe 1 (by decide)).mp q))]
          by_cases h58 : t 1 = 58
          · rw [if_pos ((i_58 ht1).mpr h58), decide_eq_true h58, if_neg (by omega : ¬ t 1 = 46), if_pos rfl, if_neg (by omega : ¬ t 1 = 46)]
            rfl
          · rw [if_neg (fun q => h58 ((i_58 ht1).mp q)), decide_eq_false h58, Bool.false_or]
            by_cases h46 : t 1 = 46
            · rw [if_pos ((i_46 ht1).mpr h46), decide_eq_true h46, if_pos h46, if_neg (by decide), if_pos h46]
              show (if nI L = 2 then some (-6) else some 2) = (if L = 2 then some (-6) else some 2)
              by_cases h2 : L = 2
              · rw [if_pos h2, if_pos (show nI L = 2 by rw [h2]; rfl)]
              · rw [if_neg h2, if_neg (show ¬ nI L = 2 from fun q => h2 ((hLe 2 (by decide)).mp q))]
            · rw [if_neg (fun q => h46 ((i_46 ht1).mp q)), decide_eq_false h46]
              rfl
  have h158 : zbad n t 1 = false → ¬ t 1 = 46 → t 1 = 58 := fun h h2 => by
    rw [b1, decide_eq_false h2, Bool.or_false] at h
    by_cases q : t 1 = 58
    · exact q
    · rw [decide_eq_false q] at h; cases h
  constructor
  · intro j hj h1 h2
    rw [hS, if_neg (by omega : ¬ L = 0)]
    by_cases j0 : j = 0
    · rw [j0] at h1 ⊢
      rw [h1, ite_tt]; rfl
    · rw [h2 0 (by omega), ite_ff]
      rw [if_neg (by omega : ¬ L = 1)]
      by_cases j1 : j = 1
      · rw [j1] at h1 ⊢
        rw [h1, ite_tt]; rfl
      · rw [h2 1 (by omega), ite_ff]
        by_cases h46 : t 1 = 46
        · have j2 : j = 2 := by
            rcases Nat.lt_or_ge 2 j with q | q
            · have := (zbad_isw (h2 2 q)).1; omega
            · omega
          rw [if_pos h46, if_neg (by omega : ¬ L = 2), j2]; rfl
        · rw [if_neg h46]
          obtain ⟨i, rfl⟩ : ∃ i, j = i + 2 := ⟨j - 2, by omega⟩
          exact (m_faultL hn hL hsg ht (h158 (h2 1 (by omega)) h46) (by omega)).1 i hj h1 (fun i' hi' => h2 (i' + 2) (by omega))
  · intro h
    rw [hS]
    by_cases h0 : L = 0
    · rw [if_pos h0, h0]; rfl
    · rw [if_neg h0, h 0 (by omega), ite_ff]
      by_cases hL1 : L = 1
      · rw [if_pos hL1, hL1]; rfl
      · rw [if_neg hL1, h 1 (by omega), ite_ff, if_neg (by omega : ¬ L < 2)]
        by_cases h46 : t 1 = 46
        · have hL2 : L = 2 := by
            rcases Nat.lt_or_ge 2 L with q | q
            · have := (zbad_isw (h 2 q)).1; omega
            · omega
          rw [if_pos h46, if_pos hL2]
        · rw [if_neg h46]
          exact (m_faultL hn hL hsg ht (h158 (h 1 (by omega)) h46) (by omega)).2 (fun i hi => h (i + 2) hi)
theorem m_toldSet {n k : Nat} {t : Nat → Nat} {sg : Nat → Int32} (hn : n ≤ 14) (hk : k + 2 ≤ 20) (hsg : ∀ i, i < 20 → sg i = nI (t i)) (ht : ∀ i, i < 20 → t i < 128) (h : ∀ j, j < k → zisw n (t (j + 2)) = true) : M_X2_toldSet sg (nI (k + 2)) = some (nI (zseen t k)) := by
  unfold M_X2_toldSet
  refine loop_seq (fun f (s : Int32 × Int32) => L_X2_toldSet_4 sg (nI (k + 2)) _ f s.1 s.2) (fun i => (nI (i + 2), nI (zseen t i))) k _ ?_ ?_ k 0 40 (by omega) (by omega)
  · intro f i hi
    show L_X2_toldSet_4 sg (nI (k + 2)) _ (f + 1) (nI (i + 2)) (nI (zseen t i)) = L_X2_toldSet_4 sg (nI (k + 2)) _ f (nI (i + 2 + 1)) (nI (zseen t i ||| 2 ^ (t (i + 2) - 97)))
    have h1 := h i hi
    unfold zisw at h1
    have h2 := of_decide_eq_true h1
    have h3 : zisw 14 (t (i + 2)) = true := decide_eq_true ⟨h2.1, by omega⟩
    have h4 : M_X2_wordBit (nI (t (i + 2))) 14 = some (nI (2 ^ (t (i + 2) - 97))) := by
      have := m_wordBit (n := 14) (Nat.le_refl 14) (ht (i + 2) (by omega))
      rw [h3, ite_tt] at this
      exact this
    rw [L_X2_toldSet_4, if_neg (nI_ge (by omega) (by omega)), if_neg (i_in (by omega) (by decide)), i_cl (by omega), hsg _ (by omega), h4, ob_sb, i_or, nI_1]
  · intro f
    show L_X2_toldSet_4 sg (nI (k + 2)) _ (f + 1) (nI (k + 2)) _ = _
    rw [L_X2_toldSet_4, if_pos (nI_le (Nat.le_refl _) (by omega))]
