/-! the model's least sets, and its days of the plan -/
theorem nar0 : vp_nar .boolean 0 = 0 := by rfl
theorem nar1 : vp_nar .boolean 1 = 1 := by rfl
def zG (d : Nat → Option Nat) (n S : Nat) : Prop := zday d n S n = 2 ^ n - 1
theorem m5_isLeast {n K : Nat} {d : Nat → Option Nat} {ia : Nat → Int32} (hn : n ≤ 14) (hK : K < 2 ^ n) (hia : ∀ S, S < 2 ^ n → ia S = if zdec (zG d n S) then 1 else 0) : M_X5_isLeast (nI K) (nI n) ia = some (if zdec (zleM d n K) then 1 else 0) := by
  have hK14 : K < 16384 := lt14 hK hn
  obtain ⟨q, hq⟩ : ∃ q : Nat → Bool, q = fun w => K.testBit w && zdec (zG d n (zdif K (2 ^ w))) := ⟨_, rfl⟩
  have hb : ∀ x : Nat, x < 2 ^ n → ¬ (nI x < 0 ∨ 16384 ≤ (nI x).toNatClampNeg) := fun x hx => i_in (lt14 hx hn) (by decide)
  unfold M_X5_isLeast
  rw [if_neg (hb K hK), i_cl (by omega), hia K hK]
  have h0 : ∀ K', L_X5_isLeast_9 (nI K) (nI n) ia K' 40 0 (if zdec (zG d n K) then 1 else 0) = K' (nI n) (if (zdec (zG d n K) && !zany q n) then 1 else 0) := by
    intro K'
    have h1 : L_X5_isLeast_9 (nI K) (nI n) ia K' 40 (nI 0) (if (zdec (zG d n K) && !zany q 0) then 1 else 0) = K' (nI n) (if (zdec (zG d n K) && !zany q n) then 1 else 0) := by
      refine loop_seq (fun k (s : Int32 × Int32) => L_X5_isLeast_9 (nI K) (nI n) ia K' k s.1 s.2) (fun i => (nI i, if (zdec (zG d n K) && !zany q i) then 1 else 0)) n _ ?_ ?_ n 0 40 (by omega) (by omega)
      · intro k i hi
        show L_X5_isLeast_9 (nI K) (nI n) ia K' (k + 1) (nI i) (if (zdec (zG d n K) && !zany q i) then 1 else 0) = L_X5_isLeast_9 (nI K) (nI n) ia K' k (nI (i + 1)) (if (zdec (zG d n K) && !(zany q i || q i)) then 1 else 0)
        have hz : zdif K (2 ^ i) < 2 ^ n := zdif_lt hK
        rw [L_X5_isLeast_9, if_neg (nI_ge hi (by omega)), m5_has (lt31 hK hn) (by omega), ob_sb, i_one (by omega), i_dif, if_neg (hb _ hz), i_cl (lt31 hz hn), hia _ hz, nI_1]
        have hqi : q i = (K.testBit i && zdec (zG d n (zdif K (2 ^ i)))) := by rw [hq]
        rw [hqi]
        cases zdec (zG d n K) with
        | false => rw [Bool.false_and, ite_ff, if_pos rfl, Bool.false_and, ite_ff]
        | true =>
          cases zany q i with
          | true => rw [Bool.true_and, Bool.true_or]; rfl
          | false =>
            rw [Bool.true_and, Bool.true_and, Bool.false_or, show (if (!false) = true then (1 : Int32) else 0) = 1 from rfl, if_neg (by decide)]
            cases K.testBit i with
            | false => rfl
            | true =>
              rw [ite_tt, if_neg (by decide), Bool.true_and]
              cases zdec (zG d n (zdif K (2 ^ i))) <;> rfl
      · intro k
        show L_X5_isLeast_9 (nI K) (nI n) ia K' (k + 1) (nI n) _ = _
        rw [L_X5_isLeast_9, if_pos (nI_le (Nat.le_refl n) (by omega))]
    rw [show (zdec (zG d n K) && !zany q 0) = zdec (zG d n K) by show (_ && true) = _; exact Bool.and_true _] at h1
    exact h1
  rw [h0]
  have e : (zdec (zG d n K) && !zany q n) = zdec (zleM d n K) := by
    refine bool_eq ?_
    rw [Bool.and_eq_true, zdec_iff, zdec_iff]
    constructor
    · rintro ⟨h1, h2⟩
      refine ⟨h1, fun w hw hg => ?_⟩
      have : zany q n = true := (zany_iff q n).mpr ⟨w, zbit_lt hK hw, by rw [hq]; show (K.testBit w && zdec _) = true; rw [hw, zdec_iff.mpr (show zG d n (zdif K (2 ^ w)) from hg)]; rfl⟩
      rw [this] at h2
      cases h2
    · rintro ⟨h1, h2⟩
      refine ⟨h1, ?_⟩
      cases hz : zany q n with
      | false => rfl
      | true =>
        obtain ⟨w, w1, w2⟩ := (zany_iff q n).mp hz
        rw [hq] at w2
        have w3 : (K.testBit w && zdec (zG d n (zdif K (2 ^ w)))) = true := w2
        rw [Bool.and_eq_true, zdec_iff] at w3
        exact absurd w3.2 (h2 w w3.1)
  rw [e]
  cases zdec (zleM d n K) <;> rfl
/-- the table of what grounds all -/
theorem m5_leastA {n : Nat} {d : Nat → Option Nat} {md ia : Nat → Int32} (hn : n ≤ 14) (hd : zwf d n) (hmd : ∀ i, i < 14 → md i = zm d i) : ∃ ia', (∀ S, S < 2 ^ n → ia' S = if zdec (zG d n S) then 1 else 0) ∧ ∀ K, L_X5_least_30 (nI n) md K 20000 0 ia = K (nI (2 ^ n)) ia' := by
  have hp := p14 hn
  have hp1 := Nat.two_pow_pos n
  refine ⟨zfl 0 (2 ^ n) (fun S => if zdec (zG d n S) then 1 else 0) ia, fun S hS => zfl_in (Nat.zero_le S) hS _ _, fun K => ?_⟩
  have h0 : L_X5_least_30 (nI n) md K 20000 (nI 0) (zfl 0 0 (fun S => if zdec (zG d n S) then 1 else 0) ia) = K (nI (2 ^ n)) (zfl 0 (2 ^ n) (fun S => if zdec (zG d n S) then 1 else 0) ia) := by
    refine loop_seq (fun k (s : Int32 × (Nat → Int32)) => L_X5_least_30 (nI n) md K k s.1 s.2) (fun i => (nI i, zfl 0 i (fun S => if zdec (zG d n S) then 1 else 0) ia)) (2 ^ n) _ ?_ ?_ (2 ^ n) 0 20000 (by omega) (by omega)
    · intro k i hi
      show L_X5_least_30 (nI n) md K (k + 1) (nI i) (zfl 0 i (fun S => if zdec (zG d n S) then 1 else 0) ia) = L_X5_least_30 (nI n) md K k (nI (i + 1)) (zfl 0 (i + 1) (fun S => if zdec (zG d n S) then 1 else 0) ia)
      have hin : ¬ (nI i < 0 ∨ 16384 ≤ (nI i).toNatClampNeg) := i_in (by omega) (by decide)
      rw [L_X5_least_30, m5_all hn, ob_sb, if_neg (nI_nlt (by omega) (by omega)), m5_known14 hn hd hmd hi, ob_sb, ob_sb, if_neg hin, if_neg hin, i_cl (by omega), nar0, nar1, nI_1, ← zfl_s (Nat.zero_le i)]
      by_cases hg : zday d n i n = 2 ^ n - 1
      · rw [if_pos (by rw [hg]), zdec_iff.mpr (show zG d n i from hg), ite_tt]
      · rw [if_neg (fun q => hg ((nI_eq (lt31 (zday_lt hi n) hn) (by omega)).mp q)), zdec_no (show ¬ zG d n i from hg), ite_ff]
    · intro k
      show L_X5_least_30 (nI n) md K (k + 1) (nI (2 ^ n)) _ = _
      rw [L_X5_least_30, m5_all hn, ob_sb, if_pos (nI_lt (by omega) (by omega))]
  rw [zfl_0] at h0
  exact h0
theorem m5_leastB {n : Nat} {d : Nat → Option Nat} {ia : Nat → Int32} {p : Int32} (f : Nat → Bool) (hn : n ≤ 14) (hia : ∀ S, S < 2 ^ n → ia S = if zdec (zG d n S) then 1 else 0)
    (hf : (p ≤ 9 ∧ ∀ K, f K = false) ∨ (¬ p ≤ 9 ∧ ∃ w, w < 14 ∧ p - 10 = nI w ∧ ∀ K, f K = K.testBit w)) (K : Int32 → Int32 → Int32 → Int32 → Option (Int32 × (Nat → Int32))) :
    L_X5_least_79 p (nI n) ia K 20000 0 0 0 0 = K (nI (2 ^ n)) (nI (zcnt (fun S => zdec (zleM d n S) && f S) (2 ^ n))) (nI (zmax (fun S => zdec (zleM d n S)) (fun S => zpc S 14) (2 ^ n))) (nI (zcnt (fun S => zdec (zleM d n S)) (2 ^ n))) := by
  have hp := p14 hn
  have hp1 := Nat.two_pow_pos n
  have hml : ∀ x, zmax (fun S => zdec (zleM d n S)) (fun S => zpc S 14) x ≤ 14 := fun x => (zmax_le x).mpr (fun k _ _ => zpc_le _ 14)
  refine loop_seq (fun k (s : Int32 × Int32 × Int32 × Int32) => L_X5_least_79 p (nI n) ia K k s.1 s.2.1 s.2.2.1 s.2.2.2) (fun i => (nI i, nI (zcnt (fun S => zdec (zleM d n S) && f S) i), nI (zmax (fun S => zdec (zleM d n S)) (fun S => zpc S 14) i), nI (zcnt (fun S => zdec (zleM d n S)) i))) (2 ^ n) _ ?_ ?_ (2 ^ n) 0 20000 (by omega) (by omega)
  · intro k i hi
    show L_X5_least_79 p (nI n) ia K (k + 1) (nI i) (nI (zcnt (fun S => zdec (zleM d n S) && f S) i)) (nI (zmax (fun S => zdec (zleM d n S)) (fun S => zpc S 14) i)) (nI (zcnt (fun S => zdec (zleM d n S)) i)) = L_X5_least_79 p (nI n) ia K k (nI (i + 1)) (nI (zcnt (fun S => zdec (zleM d n S) && f S) i + (if (zdec (zleM d n i) && f i) then 1 else 0))) (nI (if zdec (zleM d n i) then (if zmax (fun S => zdec (zleM d n S)) (fun S => zpc S 14) i < zpc i 14 then zpc i 14 else zmax (fun S => zdec (zleM d n S)) (fun S => zpc S 14) i) else zmax (fun S => zdec (zleM d n S)) (fun S => zpc S 14) i)) (nI (zcnt (fun S => zdec (zleM d n S)) i + (if zdec (zleM d n i) then 1 else 0)))
    have m1 := hml i
    have m2 := zpc_le i 14
    obtain ⟨mx, hmx⟩ : ∃ x, x = zmax (fun S => zdec (zleM d n S)) (fun S => zpc S 14) i := ⟨_, rfl⟩
    rw [← hmx] at m1 ⊢
    rw [L_X5_least_79, m5_all hn, ob_sb, if_neg (nI_nlt (by omega) (by omega)), m5_isLeast hn hi hia, ob_sb, m5_bits (lt31 hi hn), ob_sb, ob_sb, nI_1, nI_1, nI_1, i_add0]
    cases hz : zdec (zleM d n i) with
    | false => rw [ite_ff, if_pos rfl, Bool.false_and, ite_ff, ite_ff]; rfl
    | true =>
      rw [ite_tt, if_neg (by decide), Bool.true_and, ite_tt, ite_tt]
      have hmaxv : ∀ X : Int32 → Option (Int32 × (Nat → Int32)), (if nI (zpc i 14) ≤ nI mx then X (nI mx) else X (nI (zpc i 14))) = X (nI (if mx < zpc i 14 then zpc i 14 else mx)) := fun X => by
        by_cases h : zpc i 14 ≤ mx
        · rw [if_pos (nI_le h (by omega)), if_neg (by omega)]
        · rw [if_neg (nI_ge (by omega) (by omega)), if_pos (by omega)]
      rcases hf with ⟨h1, h2⟩ | ⟨h1, w, h2, h3, h4⟩
      · rw [if_pos h1, if_pos h1, h2 i, ite_ff]
        exact hmaxv (fun v => L_X5_least_79 p (nI n) ia K k (nI (i + 1)) (nI (zcnt (fun S => zdec (zleM d n S) && f S) i)) v (nI (zcnt (fun S => zdec (zleM d n S)) i + 1)))
      · rw [if_neg h1, if_neg h1, h3, m5_has (lt31 hi hn) (by omega), ob_sb, ob_sb, h4 i]
        cases i.testBit w with
        | false =>
          rw [ite_ff, ite_ff, if_pos rfl, if_pos rfl]
          exact hmaxv (fun v => L_X5_least_79 p (nI n) ia K k (nI (i + 1)) (nI (zcnt (fun S => zdec (zleM d n S) && f S) i)) v (nI (zcnt (fun S => zdec (zleM d n S)) i + 1)))
        | true =>
          rw [ite_tt, ite_tt, if_neg (show ¬ (1 : Int32) = 0 by decide), if_neg (show ¬ (1 : Int32) = 0 by decide)]
          exact hmaxv (fun v => L_X5_least_79 p (nI n) ia K k (nI (i + 1)) (nI (zcnt (fun S => zdec (zleM d n S) && f S) i + 1)) v (nI (zcnt (fun S => zdec (zleM d n S)) i + 1)))
  · intro k
    show L_X5_least_79 p (nI n) ia K (k + 1) (nI (2 ^ n)) _ _ _ = _
    rw [L_X5_least_79, m5_all hn, ob_sb, if_pos (nI_lt (by omega) (by omega))]
/-- how many days the plan takes: both ways -/
theorem m5_planDays {n S T : Nat} {d : Nat → Option Nat} {md : Nat → Int32} (hn : n ≤ 14) (hd : zwf d n) (hmd : ∀ i, i < 14 → md i = zm d i) (hS : S < 2 ^ n) (hT : T < 2 ^ n) {k : Nat} (hk : k ≤ n) (h1 : zday d n (S ||| T) k = 2 ^ n - 1) (h2 : ∀ j, j < k → ¬ zday d n (S ||| T) j = 2 ^ n - 1) :
    L_X5_plan_54 (nI T) (nI n) md (nI S) (fun (v3_54 : Int32) => some v3_54) 40 0 = some (nI k) := by
  have hp := p14 hn
  have hp1 := Nat.two_pow_pos n
  have hor : S ||| T < 2 ^ n := Nat.or_lt_two_pow hS hT
  refine loop_seq (fun k (s : Int32) => L_X5_plan_54 (nI T) (nI n) md (nI S) _ k s) (fun i => nI i) k _ (fun f i hi => ?_) (fun f => ?_) k 0 40 (by omega) (by omega)
  · show L_X5_plan_54 (nI T) (nI n) md (nI S) _ (f + 1) (nI i) = L_X5_plan_54 (nI T) (nI n) md (nI S) _ f (nI (i + 1))
    rw [L_X5_plan_54, i_or, m5_knownOn hn hd hmd (by omega), ob_sb, m5_all hn, ob_sb, if_neg (fun q => h2 i hi ((nI_eq (lt31 (zday_lt hor i) hn) (by omega)).mp q)), nI_1]
  · show L_X5_plan_54 (nI T) (nI n) md (nI S) _ (f + 1) (nI k) = _
    rw [L_X5_plan_54, i_or, m5_knownOn hn hd hmd (by omega), ob_sb, m5_all hn, ob_sb, if_pos (by rw [h1])]
theorem zsub_fulleq {x n : Nat} (hx : x < 2 ^ n) : zsub (2 ^ n - 1) x ↔ x = 2 ^ n - 1 := ⟨fun h => zsub_anti (zsub_full.mpr hx) h, fun h => by rw [h]; exact zsub_refl _⟩
