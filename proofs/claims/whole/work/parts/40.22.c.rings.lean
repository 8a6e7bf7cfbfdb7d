/-! ways and rings: the class's and the model's -/
theorem zrow_zero {d : Nat → Option Nat} {n : Nat} (hd : zwf d n) (a : Nat) : zrow d 0 a n = zu d a := Nat.eq_of_testBit_eq fun i => by
  rw [zrow_bit hd (Nat.zero_le n)]; rfl
theorem zrow_same {d : Nat → Option Nat} {n v a : Nat} (hd : zwf d n) (hv : v < n) (h : zP d v a v = false) : zrow d (v + 1) a n = zrow d v a n := Nat.eq_of_testBit_eq fun i => by
  rw [zrow_bit hd (by omega), zrow_bit hd (by omega)]
  show (zP d v a i || (zP d v a v && zP d v v i)) = _
  rw [h]; simp
theorem zrow_self {d : Nat → Option Nat} {n v : Nat} (hd : zwf d n) (hv : v < n) : zrow d (v + 1) v n = zrow d v v n := Nat.eq_of_testBit_eq fun i => by
  rw [zrow_bit hd (by omega), zrow_bit hd (by omega)]
  show (zP d v v i || (zP d v v v && zP d v v i)) = _
  cases zP d v v i <;> simp
theorem zrow_or {d : Nat → Option Nat} {n v a : Nat} (hd : zwf d n) (hv : v < n) (h : zP d v a v = true) : zrow d v a n ||| zrow d v v n = zrow d (v + 1) a n := Nat.eq_of_testBit_eq fun i => by
  rw [Nat.testBit_or, zrow_bit hd (by omega), zrow_bit hd (by omega), zrow_bit hd (by omega)]
  show _ = (zP d v a i || (zP d v a v && zP d v v i))
  rw [h]; simp
theorem upd_id (g : Nat → Int32) (f : Nat) : upd g f (g f) = g := by
  funext j
  unfold upd
  by_cases e : j = f
  · rw [if_pos e, e]
  · rw [if_neg e]
theorem m_trace {n : Nat} {d : Nat → Option Nat} {ds rc : Nat → Int32} (hn : n ≤ 14) (hd : zwf d n) (hds : ∀ i, i < 14 → ds i = nI (zu d i)) : ∃ rc', M_X0_trace (nI n) ds rc = some (nI n, nI (zring d n n), rc') ∧ ∀ a, a < n → rc' a = nI (zrow d n a n) := by
  obtain ⟨Rv, hRv⟩ : ∃ f : Nat → Nat → Int32, f = fun v a => if a < n then nI (zrow d v a n) else rc a := ⟨_, rfl⟩
  have hR : ∀ v a, a < n → Rv v a = nI (zrow d v a n) := fun v a h => by rw [hRv]; exact if_pos h
  have hR0 : zfl 0 n ds rc = Rv 0 := by
    funext a
    rw [hRv]
    show zfl 0 n ds rc a = if a < n then nI (zrow d 0 a n) else rc a
    by_cases h : a < n
    · rw [zfl_in (Nat.zero_le a) h, if_pos h, hds a (by omega), zrow_zero hd]
    · rw [zfl_out (by omega), if_neg h]
  have hRn : ∀ v, zfl 0 n (Rv (v + 1)) (Rv v) = Rv (v + 1) := fun v => by
    funext a
    by_cases h : a < n
    · rw [zfl_in (Nat.zero_le a) h]
    · rw [zfl_out (by omega), hRv]
      show (if a < n then _ else rc a) = (if a < n then _ else rc a)
      rw [if_neg h, if_neg h]
  refine ⟨Rv n, ?_, fun a ha => hR n a ha⟩
  -- the inner loop
  have inner : ∀ v, v < n → ∀ K, L_X0_trace_48 (nI n) (nI v) K 40 0 (Rv v) = K (nI n) (Rv (v + 1)) := by
    intro v hv K
    have h0 : L_X0_trace_48 (nI n) (nI v) K 40 (nI 0) (zfl 0 0 (Rv (v + 1)) (Rv v)) = K (nI n) (zfl 0 n (Rv (v + 1)) (Rv v)) := by
      refine loop_seq (fun k (s : Int32 × (Nat → Int32)) => L_X0_trace_48 (nI n) (nI v) K k s.1 s.2) (fun i => (nI i, zfl 0 i (Rv (v + 1)) (Rv v))) n _ ?_ ?_ n 0 40 (by omega) (by omega)
      · intro k f hf
        show L_X0_trace_48 (nI n) (nI v) K (k + 1) (nI f) (zfl 0 f (Rv (v + 1)) (Rv v)) = L_X0_trace_48 (nI n) (nI v) K k (nI (f + 1)) (zfl 0 (f + 1) (Rv (v + 1)) (Rv v))
        have e1 : zfl 0 f (Rv (v + 1)) (Rv v) f = nI (zrow d v f n) := by rw [zfl_out (by omega), hR v f hf]
        have e2 : zfl 0 f (Rv (v + 1)) (Rv v) v = nI (zrow d v v n) := by
          by_cases q : v < f
          · rw [zfl_in (Nat.zero_le v) q, hR (v + 1) v hv, zrow_self hd hv]
          · rw [zfl_out (by omega), hR v v hv]
        have hb := lt31 (zrow_lt d v f n) hn
        rw [L_X0_trace_48, if_neg (nI_ge hf (by omega)), if_neg (i_in (by omega) (by decide)), if_neg (i_in (by omega) (by decide)), if_neg (i_in (by omega) (by decide)), if_neg (i_in (by omega) (by decide)), i_cl (by omega), i_cl (by omega), e1, e2, nI_1]
        cases hz : zP d v f v with
        | false =>
          rw [if_pos ((i_bit0 hb (by omega)).mpr (by rw [zrow_bit hd (by omega)]; exact hz)), ← zfl_s (Nat.zero_le f), hR (v + 1) f hf, zrow_same hd hv hz, ← e1, upd_id]
        | true =>
          rw [if_neg (fun e => by rw [i_bit0 hb (by omega), zrow_bit hd (by omega), hz] at e; cases e), i_or, zrow_or hd hv hz, ← zfl_s (Nat.zero_le f), hR (v + 1) f hf]
      · intro k
        show L_X0_trace_48 (nI n) (nI v) K (k + 1) (nI n) _ = _
        rw [L_X0_trace_48, if_pos (nI_le (Nat.le_refl n) (by omega))]
    rw [zfl_0, hRn] at h0
    exact h0
  -- the outer loop
  have outer : ∀ K, L_X0_trace_38 (nI n) K 40 0 (Rv 0) = K (nI n) (Rv n) := by
    intro K
    refine loop_seq (fun k (s : Int32 × (Nat → Int32)) => L_X0_trace_38 (nI n) K k s.1 s.2) (fun i => (nI i, Rv i)) n _ ?_ ?_ n 0 40 (by omega) (by omega)
    · intro k v hv
      show L_X0_trace_38 (nI n) K (k + 1) (nI v) (Rv v) = L_X0_trace_38 (nI n) K k (nI (v + 1)) (Rv (v + 1))
      rw [L_X0_trace_38, if_neg (nI_ge hv (by omega)), inner v hv, nI_1]
    · intro k
      show L_X0_trace_38 (nI n) K (k + 1) (nI n) _ = _
      rw [L_X0_trace_38, if_pos (nI_le (Nat.le_refl n) (by omega))]
  -- the words in rings
  have last : ∀ K, L_X0_trace_103 (nI n) (Rv n) K 40 0 0 = K (nI n) (nI (zring d n n)) := by
    intro K
    refine loop_seq (fun k (s : Int32 × Int32) => L_X0_trace_103 (nI n) (Rv n) K k s.1 s.2) (fun i => (nI i, nI (zring d n i))) n _ ?_ ?_ n 0 40 (by omega) (by omega)
    · intro k i hi
      show L_X0_trace_103 (nI n) (Rv n) K (k + 1) (nI i) (nI (zring d n i)) = L_X0_trace_103 (nI n) (Rv n) K k (nI (i + 1)) (nI (zring d n i ||| (if zP d n i i then 2 ^ i else 0)))
      have e : zrow d n i n &&& 2 ^ i = if zP d n i i then 2 ^ i else 0 := Nat.eq_of_testBit_eq fun j => by
        rw [Nat.testBit_and, zrow_bit hd (Nat.le_refl n), zone_bit]
        by_cases q : i = j
        · subst q
          rw [decide_eq_true rfl, Bool.and_true]
          cases zP d n i i <;> simp [zone_bit]
        · rw [decide_eq_false q, Bool.and_false]
          cases zP d n i i with
          | false => rw [ite_ff, Nat.zero_testBit]
          | true => rw [ite_tt, zone_bit, decide_eq_false q]
      rw [L_X0_trace_103, if_neg (nI_ge hi (by omega)), if_neg (i_in (by omega) (by decide)), i_cl (by omega), hR n i hi, i_one (by omega), i_and, e, i_or, nI_1]
    · intro k
      show L_X0_trace_103 (nI n) (Rv n) K (k + 1) (nI n) _ = _
      rw [L_X0_trace_103, if_pos (nI_le (Nat.le_refl n) (by omega))]
  have first : ∀ K, L_X0_trace_10 (nI n) ds K 40 0 rc = K (nI n) (Rv 0) := by
    intro K
    have h0 : L_X0_trace_10 (nI n) ds K 40 (nI 0) (zfl 0 0 ds rc) = K (nI n) (zfl 0 n ds rc) := by
      refine loop_seq (fun k (s : Int32 × (Nat → Int32)) => L_X0_trace_10 (nI n) ds K k s.1 s.2) (fun i => (nI i, zfl 0 i ds rc)) n _ ?_ ?_ n 0 40 (by omega) (by omega)
      · intro k i hi
        show L_X0_trace_10 (nI n) ds K (k + 1) (nI i) (zfl 0 i ds rc) = L_X0_trace_10 (nI n) ds K k (nI (i + 1)) (zfl 0 (i + 1) ds rc)
        rw [L_X0_trace_10, if_neg (nI_ge hi (by omega)), if_neg (i_in (by omega) (by decide)), if_neg (i_in (by omega) (by decide)), i_cl (by omega), nI_1, zfl_s (Nat.zero_le i)]
      · intro k
        show L_X0_trace_10 (nI n) ds K (k + 1) (nI n) _ = _
        rw [L_X0_trace_10, if_pos (nI_le (Nat.le_refl n) (by omega))]
    rw [zfl_0, hR0] at h0
    exact h0
  unfold M_X0_trace
  rw [first, outer, last]
/-- the ring of a word; empty, if it is in none -/
def zro (d : Nat → Option Nat) (n a : Nat) : Nat → Nat
  | 0 => 0
  | i + 1 => zro d n a i ||| (if zP d n a i && zP d n i a then 2 ^ i else 0)
theorem zro_bit' (d : Nat → Option Nat) (n a i w : Nat) : (zro d n a i).testBit w = (decide (w < i) && (zP d n a w && zP d n w a)) := by
  induction i with
  | zero => simp [zro]
  | succ i ih =>
    show (zro d n a i ||| _).testBit w = _
    rw [Nat.testBit_or, ih]
    by_cases e : w = i
    · subst e
      cases hl : (zP d n a w && zP d n w a) <;> simp [zone_bit]
    · have h1 : (if (zP d n a i && zP d n i a) then 2 ^ i else 0).testBit w = false := by
        split
        · rw [zone_bit]; exact decide_eq_false (fun h => e h.symm)
        · exact Nat.zero_testBit w
      rw [h1, Bool.or_false]
      have h2 : decide (w < i + 1) = decide (w < i) := by
        by_cases g : w < i
        · rw [decide_eq_true g, decide_eq_true (by omega)]
        · rw [decide_eq_false g, decide_eq_false (by omega)]
      rw [h2]
theorem zro_bit {d : Nat → Option Nat} {n : Nat} (hd : zwf d n) (a w : Nat) : (zro d n a n).testBit w = (zP d n a w && zP d n w a) := by
  rw [zro_bit']
  cases h : (zP d n a w && zP d n w a) with
  | false => exact Bool.and_false _
  | true =>
    rw [Bool.and_eq_true] at h
    rw [decide_eq_true (zP_lt hd n a w (Nat.le_refl n) h.1).2]; rfl
theorem zro_lt (d : Nat → Option Nat) (n a : Nat) : zro d n a n < 2 ^ n := zlt_of fun i hi => by
  rw [zro_bit', Bool.and_eq_true] at hi
  exact of_decide_eq_true hi.1
theorem zro_ne {d : Nat → Option Nat} {n : Nat} (hd : zwf d n) (a : Nat) : zro d n a n ≠ 0 ↔ zP d n a a = true := by
  constructor
  · intro h
    obtain ⟨b, hb⟩ := bit_of_ne h
    rw [zro_bit hd, Bool.and_eq_true] at hb
    exact zP_tr n a b a (zP_lt hd n a b (Nat.le_refl n) hb.1).2 hb.1 hb.2
  · intro h
    exact ne_of_bit (i := a) (by rw [zro_bit hd, h]; rfl)
theorem m_ringOf {n a : Nat} {d : Nat → Option Nat} {rc : Nat → Int32} (hn : n ≤ 14) (hd : zwf d n) (hrc : ∀ a, a < n → rc a = nI (zrow d n a n)) (ha : a < n) : M_X0_ringOf (nI a) (nI n) rc = some (nI (zro d n a n)) := by
  unfold M_X0_ringOf
  refine loop_seq (fun k (s : Int32 × Int32) => L_X0_ringOf_4 (nI a) (nI n) rc _ k s.1 s.2) (fun i => (nI i, nI (zro d n a i))) n _ ?_ ?_ n 0 40 (by omega) (by omega)
  · intro k i hi
    show L_X0_ringOf_4 (nI a) (nI n) rc _ (k + 1) (nI i) (nI (zro d n a i)) = L_X0_ringOf_4 (nI a) (nI n) rc _ k (nI (i + 1)) (nI (zro d n a i ||| (if zP d n a i && zP d n i a then 2 ^ i else 0)))
    have hb1 := lt31 (zrow_lt d n a n) hn
    have hb2 := lt31 (zrow_lt d n i n) hn
    rw [L_X0_ringOf_4, if_neg (nI_ge hi (by omega)), if_neg (i_in (by omega) (by decide)), if_neg (i_in (by omega) (by decide)), i_cl (by omega), i_cl (by omega), hrc a ha, hrc i hi, nI_1, i_bit hb1 (by omega), i_bit hb2 (by omega), zrow_bit hd (Nat.le_refl n), zrow_bit hd (Nat.le_refl n), i_one (by omega), i_or]
    cases zP d n a i with
    | false => rw [ite_ff, if_pos rfl, Bool.false_and, ite_ff, Nat.or_zero]
    | true =>
      cases zP d n i a with
      | false => rw [ite_tt, if_neg (by decide), ite_ff, if_pos rfl, Bool.true_and, ite_ff, Nat.or_zero]
      | true => rw [ite_tt, if_neg (by decide), if_neg (by decide), Bool.true_and, ite_tt]
  · intro k
    show L_X0_ringOf_4 (nI a) (nI n) rc _ (k + 1) (nI n) _ = _
    rw [L_X0_ringOf_4, if_pos (nI_le (Nat.le_refl n) (by omega))]
/-- rings met so far, and how many -/
def znew (d : Nat → Option Nat) (n met i : Nat) : Bool := zP d n i i && !met.testBit i
def zmet (d : Nat → Option Nat) (n : Nat) : Nat → Nat
  | 0 => 0
  | i + 1 => if znew d n (zmet d n i) i then zmet d n i ||| zro d n i n else zmet d n i
def zrc (d : Nat → Option Nat) (n : Nat) : Nat → Nat
  | 0 => 0
  | i + 1 => if znew d n (zmet d n i) i then zrc d n i + 1 else zrc d n i
theorem zmet_lt (d : Nat → Option Nat) (n i : Nat) : zmet d n i < 2 ^ n := by
  induction i with
  | zero => exact Nat.pow_pos (by decide)
  | succ i ih =>
    show (if _ then _ else _) < _
    split
    · exact Nat.or_lt_two_pow ih (zro_lt d n i)
    · exact ih
theorem zrc_le (d : Nat → Option Nat) (n i : Nat) : zrc d n i ≤ i := by
  induction i with
  | zero => exact Nat.le_refl 0
  | succ i ih =>
    show (if znew d n (zmet d n i) i then zrc d n i + 1 else zrc d n i) ≤ _
    split <;> omega
theorem zdif_or (x y z : Nat) : zdif (zdif x y) z = zdif x (y ||| z) := Nat.eq_of_testBit_eq fun i => by
  rw [zdif_bit, zdif_bit, zdif_bit, Nat.testBit_or]
  cases x.testBit i <;> cases y.testBit i <;> cases z.testBit i <;> rfl
theorem zleft_bit {d : Nat → Option Nat} {n : Nat} (hd : zwf d n) (i : Nat) : (zdif (zring d n n) (zmet d n i)).testBit i = znew d n (zmet d n i) i := by
  rw [zdif_bit, zring_bit hd]; rfl
theorem m_howMany {n : Nat} {d : Nat → Option Nat} {rc : Nat → Int32} (hn : n ≤ 14) (hd : zwf d n) (hrc : ∀ a, a < n → rc a = nI (zrow d n a n)) : M_X0_howMany (nI n) rc (nI (zring d n n)) = some (nI (zrc d n n)) := by
  unfold M_X0_howMany
  have h0 : L_X0_howMany_9 (nI n) rc (fun (v3_9 : Int32) (v2_9 : Int32) (v1_9 : Int32) => some v1_9) 40 (nI 0) (nI (zdif (zring d n n) (zmet d n 0))) (nI (zrc d n 0)) = some (nI (zrc d n n)) := by
    refine loop_seq (fun k (s : Int32 × Int32 × Int32) => L_X0_howMany_9 (nI n) rc _ k s.1 s.2.1 s.2.2) (fun i => (nI i, nI (zdif (zring d n n) (zmet d n i)), nI (zrc d n i))) n _ ?_ ?_ n 0 40 (by omega) (by omega)
    · intro k i hi
      show L_X0_howMany_9 (nI n) rc _ (k + 1) (nI i) (nI (zdif (zring d n n) (zmet d n i))) (nI (zrc d n i)) = L_X0_howMany_9 (nI n) rc _ k (nI (i + 1)) (nI (zdif (zring d n n) (if znew d n (zmet d n i) i then zmet d n i ||| zro d n i n else zmet d n i))) (nI (if znew d n (zmet d n i) i then zrc d n i + 1 else zrc d n i))
      rw [L_X0_howMany_9, if_neg (nI_ge hi (by omega)), i_bit (lt31 (zdif_lt (zring_lt d n)) hn) (by omega), zleft_bit hd, m_ringOf hn hd hrc hi, ob_sb, i_dif, zdif_or, nI_1, nI_1]
      cases znew d n (zmet d n i) i with
      | false => rw [ite_ff, if_pos rfl, ite_ff, ite_ff]
      | true => rw [ite_tt, if_neg (by decide), ite_tt, ite_tt]
    · intro k
      show L_X0_howMany_9 (nI n) rc _ (k + 1) (nI n) _ _ = _
      rw [L_X0_howMany_9, if_pos (nI_le (Nat.le_refl n) (by omega))]
  have e : zdif (zring d n n) (zmet d n 0) = zring d n n := Nat.eq_of_testBit_eq fun i => by
    rw [zdif_bit, show zmet d n 0 = 0 from rfl, Nat.zero_testBit]; simp
  rw [e] at h0
  exact h0
theorem m_numbered {n : Nat} {d : Nat → Option Nat} {rc : Nat → Int32} {p : Int32} (hn : n ≤ 14) (hd : zwf d n) (hrc : ∀ a, a < n → rc a = nI (zrow d n a n)) :
    (∀ j, j < n → znew d n (zmet d n j) j = true ∧ nI (zrc d n j) = p → (∀ i, i < j → ¬ (znew d n (zmet d n i) i = true ∧ nI (zrc d n i) = p)) → M_X0_numbered p (nI n) rc (nI (zring d n n)) = some (nI (zro d n j n))) ∧ ((∀ i, i < n → ¬ (znew d n (zmet d n i) i = true ∧ nI (zrc d n i) = p)) → M_X0_numbered p (nI n) rc (nI (zring d n n)) = some (-6)) := by
  have e : zdif (zring d n n) (zmet d n 0) = zring d n n := Nat.eq_of_testBit_eq fun i => by
    rw [zdif_bit, show zmet d n 0 = 0 from rfl, Nat.zero_testBit]; simp
  have hs : ∀ K k i, i < n → ¬ (znew d n (zmet d n i) i = true ∧ nI (zrc d n i) = p) → L_X0_numbered_10 p (nI n) rc K (k + 1) (nI i) (nI (zdif (zring d n n) (zmet d n i))) (nI (zrc d n i)) = L_X0_numbered_10 p (nI n) rc K k (nI (i + 1)) (nI (zdif (zring d n n) (zmet d n (i + 1)))) (nI (zrc d n (i + 1))) := by
    intro K k i hi hne
    show _ = L_X0_numbered_10 p (nI n) rc K k (nI (i + 1)) (nI (zdif (zring d n n) (if znew d n (zmet d n i) i then zmet d n i ||| zro d n i n else zmet d n i))) (nI (if znew d n (zmet d n i) i then zrc d n i + 1 else zrc d n i))
    rw [L_X0_numbered_10, if_neg (nI_ge hi (by omega)), i_bit (lt31 (zdif_lt (zring_lt d n)) hn) (by omega), zleft_bit hd, m_ringOf hn hd hrc hi, ob_sb, i_dif, zdif_or, nI_1, nI_1]
    cases hz : znew d n (zmet d n i) i with
    | false => rw [ite_ff, if_pos rfl, ite_ff, ite_ff]
    | true => rw [ite_tt, if_neg (by decide), if_neg (fun q => hne ⟨hz, q⟩), ite_tt, ite_tt]
  have h0 : ∀ m r, m ≤ n → (∀ i, i < m → ¬ (znew d n (zmet d n i) i = true ∧ nI (zrc d n i) = p)) → (∀ k, L_X0_numbered_10 p (nI n) rc (fun (v4_10 : Int32) (v3_10 : Int32) (v2_10 : Int32) => some (-6)) (k + 1) (nI m) (nI (zdif (zring d n n) (zmet d n m))) (nI (zrc d n m)) = r) → M_X0_numbered p (nI n) rc (nI (zring d n n)) = r := by
    intro m r hm hne he
    have h1 : L_X0_numbered_10 p (nI n) rc (fun (v4_10 : Int32) (v3_10 : Int32) (v2_10 : Int32) => some (-6)) 40 (nI 0) (nI (zdif (zring d n n) (zmet d n 0))) (nI (zrc d n 0)) = r :=
      loop_seq (fun k (s : Int32 × Int32 × Int32) => L_X0_numbered_10 p (nI n) rc _ k s.1 s.2.1 s.2.2) (fun i => (nI i, nI (zdif (zring d n n) (zmet d n i)), nI (zrc d n i))) m r (fun k i hi => hs _ k i (by omega) (hne i hi)) he m 0 40 (by omega) (by omega)
    rw [e] at h1
    exact h1
  constructor
  · intro j hj hp hm
    refine h0 j _ (by omega) hm (fun k => ?_)
    rw [L_X0_numbered_10, if_neg (nI_ge hj (by omega)), i_bit (lt31 (zdif_lt (zring_lt d n)) hn) (by omega), zleft_bit hd, hp.1, ite_tt, if_neg (by decide), m_ringOf hn hd hrc hj, ob_sb, if_pos hp.2]
  · intro hm
    refine h0 n _ (Nat.le_refl n) hm (fun k => ?_)
    rw [L_X0_numbered_10, if_pos (nI_le (Nat.le_refl n) (by omega))]
def zbf (d : Nat → Option Nat) (n : Nat) : Nat → Nat
  | 0 => 0
  | i + 1 => zbf d n i ||| (if zP d n i i then zrow d n i n else 0)
theorem zbf_bit {d : Nat → Option Nat} {n : Nat} (hd : zwf d n) (i w : Nat) : (zbf d n i).testBit w = true ↔ ∃ r, r < i ∧ zP d n r r = true ∧ zP d n r w = true := by
  induction i with
  | zero => exact ⟨fun h => (by rw [show zbf d n 0 = 0 from rfl, Nat.zero_testBit] at h; cases h), fun ⟨r, h, _⟩ => absurd h (Nat.not_lt_zero r)⟩
  | succ i ih =>
    show (zbf d n i ||| _).testBit w = true ↔ _
    rw [Nat.testBit_or, Bool.or_eq_true, ih]
    constructor
    · rintro (⟨r, h1, h2⟩ | h)
      · exact ⟨r, by omega, h2⟩
      · cases hz : zP d n i i with
        | false => rw [hz, ite_ff, Nat.zero_testBit] at h; cases h
        | true => rw [hz, ite_tt, zrow_bit hd (Nat.le_refl n)] at h; exact ⟨i, Nat.lt_succ_self i, hz, h⟩
    · rintro ⟨r, h1, h2, h3⟩
      by_cases e : r = i
      · subst e
        exact Or.inr (by rw [h2, ite_tt, zrow_bit hd (Nat.le_refl n)]; exact h3)
      · exact Or.inl ⟨r, by omega, h2, h3⟩
theorem m_before {n : Nat} {d : Nat → Option Nat} {rc : Nat → Int32} (hn : n ≤ 14) (hd : zwf d n) (hrc : ∀ a, a < n → rc a = nI (zrow d n a n)) : M_X0_before (nI n) rc (nI (zring d n n)) = some (nI (zdif (zbf d n n) (zring d n n))) := by
  unfold M_X0_before
  refine loop_seq (fun k (s : Int32 × Int32) => L_X0_before_4 (nI n) rc (nI (zring d n n)) _ k s.1 s.2) (fun i => (nI i, nI (zbf d n i))) n _ ?_ ?_ n 0 40 (by omega) (by omega)
  · intro k i hi
    show L_X0_before_4 (nI n) rc (nI (zring d n n)) _ (k + 1) (nI i) (nI (zbf d n i)) = L_X0_before_4 (nI n) rc (nI (zring d n n)) _ k (nI (i + 1)) (nI (zbf d n i ||| (if zP d n i i then zrow d n i n else 0)))
    rw [L_X0_before_4, if_neg (nI_ge hi (by omega)), i_bit (lt31 (zring_lt d n) hn) (by omega), zring_bit hd, if_neg (i_in (by omega) (by decide)), i_cl (by omega), hrc i hi, i_or, nI_1]
    cases zP d n i i with
    | false => rw [ite_ff, if_pos rfl, ite_ff, Nat.or_zero]
    | true => rw [ite_tt, if_neg (by decide), ite_tt]
  · intro k
    show L_X0_before_4 (nI n) rc (nI (zring d n n)) _ (k + 1) (nI n) (nI (zbf d n n)) = _
    rw [L_X0_before_4, if_pos (nI_le (Nat.le_refl n) (by omega)), i_dif]
def zbh (d : Nat → Option Nat) (n : Nat) : Nat → Nat
  | 0 => 0
  | i + 1 => zbh d n i ||| (if zrow d n i n &&& zring d n n = 0 then 0 else 2 ^ i)
theorem zbh_bit (d : Nat → Option Nat) (n i w : Nat) : (zbh d n i).testBit w = true ↔ w < i ∧ ¬ zrow d n w n &&& zring d n n = 0 := by
  induction i with
  | zero => exact ⟨fun h => (by rw [show zbh d n 0 = 0 from rfl, Nat.zero_testBit] at h; cases h), fun ⟨h, _⟩ => absurd h (Nat.not_lt_zero w)⟩
  | succ i ih =>
    show (zbh d n i ||| _).testBit w = true ↔ _
    rw [Nat.testBit_or, Bool.or_eq_true, ih]
    constructor
    · rintro (⟨h1, h2⟩ | h)
      · exact ⟨by omega, h2⟩
      · by_cases hz : zrow d n i n &&& zring d n n = 0
        · rw [if_pos hz, Nat.zero_testBit] at h; cases h
        · rw [if_neg hz, zone_bit] at h
          have := of_decide_eq_true h
          subst this
          exact ⟨Nat.lt_succ_self i, hz⟩
    · rintro ⟨h1, h2⟩
      by_cases e : w = i
      · subst e
        exact Or.inr (by rw [if_neg h2, zone_bit]; exact decide_eq_true rfl)
      · exact Or.inl ⟨by omega, h2⟩
theorem m_behind {n : Nat} {d : Nat → Option Nat} {rc : Nat → Int32} (hn : n ≤ 14) (hrc : ∀ a, a < n → rc a = nI (zrow d n a n)) : M_X0_behind (nI n) rc (nI (zring d n n)) = some (nI (zdif (zbh d n n) (zring d n n))) := by
  unfold M_X0_behind
  refine loop_seq (fun k (s : Int32 × Int32) => L_X0_behind_4 (nI n) rc (nI (zring d n n)) _ k s.1 s.2) (fun i => (nI i, nI (zbh d n i))) n _ ?_ ?_ n 0 40 (by omega) (by omega)
  · intro k i hi
    show L_X0_behind_4 (nI n) rc (nI (zring d n n)) _ (k + 1) (nI i) (nI (zbh d n i)) = L_X0_behind_4 (nI n) rc (nI (zring d n n)) _ k (nI (i + 1)) (nI (zbh d n i ||| (if zrow d n i n &&& zring d n n = 0 then 0 else 2 ^ i)))
    rw [L_X0_behind_4, if_neg (nI_ge hi (by omega)), if_neg (i_in (by omega) (by decide)), i_cl (by omega), hrc i hi, i_and, i_one (by omega), i_or, nI_1]
    have hlt : zrow d n i n &&& zring d n n < 2 ^ 32 := lt32 (Nat.lt_of_le_of_lt Nat.and_le_left (zrow_lt d n i n)) hn
    by_cases hz : zrow d n i n &&& zring d n n = 0
    · rw [if_pos ((i_zero hlt).mpr hz), if_pos hz, Nat.or_zero]
    · rw [if_neg (fun q => hz ((i_zero hlt).mp q)), if_neg hz]
  · intro k
    show L_X0_behind_4 (nI n) rc (nI (zring d n n)) _ (k + 1) (nI n) (nI (zbh d n n)) = _
    rw [L_X0_behind_4, if_pos (nI_le (Nat.le_refl n) (by omega)), i_dif]
/-! the model's ways -/
theorem m5_reached {n a k : Nat} {d : Nat → Option Nat} {md : Nat → Int32} (hn : n ≤ 14) (hd : zwf d n) (hmd : ∀ i, i < 14 → md i = zm d i) (ha : a < n) (hk : k ≤ 30) : M_X5_reached (nI a) (nI k) (nI n) md = some (nI (zE d n a k)) := by
  have hE : ∀ j, zE d n a j < 2 ^ n := fun j => by
    cases j with
    | zero => exact Nat.pow_lt_pow_right (by decide) ha
    | succ j => exact zst_lt hd _
  have inner : ∀ S, S < 2 ^ n → ∀ K, L_X5_reached_19 (nI n) md (nI S) K 40 0 0 = K (nI n) (nI (zst d S n)) := by
    intro S hS K
    refine loop_seq (fun k (s : Int32 × Int32) => L_X5_reached_19 (nI n) md (nI S) K k s.1 s.2) (fun i => (nI i, nI (zst d S i))) n _ ?_ ?_ n 0 40 (by omega) (by omega)
    · intro k i hi
      show L_X5_reached_19 (nI n) md (nI S) K (k + 1) (nI i) (nI (zst d S i)) = L_X5_reached_19 (nI n) md (nI S) K k (nI (i + 1)) (nI (zst d S i ||| (if S.testBit i then zu d i else 0)))
      rw [L_X5_reached_19, if_neg (nI_ge hi (by omega)), m5_has (lt31 hS hn) (by omega), ob_sb, if_neg (i_in (by omega) (by decide)), if_neg (i_in (by omega) (by decide)), i_cl (by omega), hmd i (by omega), nI_1, i_or0]
      cases S.testBit i with
      | false => rw [ite_ff, if_pos rfl, ite_ff, Nat.or_zero]
      | true =>
        rw [ite_tt, if_neg (by decide), ite_tt]
        cases hdi : d i with
        | none => rw [zm_none hdi, if_pos neg6, zu_none hdi, Nat.or_zero]
        | some s => rw [zm_some hdi, if_neg (nI_pos (lt31 (hd i s hdi).2 hn)), zu_some hdi, i_or]
    · intro k
      show L_X5_reached_19 (nI n) md (nI S) K (k + 1) (nI n) _ = _
      rw [L_X5_reached_19, if_pos (nI_le (Nat.le_refl n) (by omega))]
  unfold M_X5_reached
  rw [i_one (by omega)]
  refine loop_seq (fun f (s : Int32 × Int32) => L_X5_reached_7 (nI k) (nI n) md _ f s.1 s.2) (fun i => (nI i, nI (zE d n a i))) k _ ?_ ?_ k 0 40 (by omega) (by omega)
  · intro f i hi
    show L_X5_reached_7 (nI k) (nI n) md _ (f + 1) (nI i) (nI (zE d n a i)) = L_X5_reached_7 (nI k) (nI n) md _ f (nI (i + 1)) (nI (zst d (zE d n a i) n))
    rw [L_X5_reached_7, if_neg (nI_ge hi (by omega)), inner _ (hE i), nI_1]
  · intro f
    show L_X5_reached_7 (nI k) (nI n) md _ (f + 1) (nI k) _ = _
    rw [L_X5_reached_7, if_pos (nI_le (Nat.le_refl k) (by omega))]
theorem m5_wayOf {n a b : Nat} {d : Nat → Option Nat} {md : Nat → Int32} (hn : n ≤ 14) (hd : zwf d n) (hmd : ∀ i, i < 14 → md i = zm d i) (ha : a < n) (hb : b < n) :
    (∀ j, j < n → (zE d n a (j + 1)).testBit b = true → (∀ i, i < j → ¬ (zE d n a (i + 1)).testBit b = true) → M_X5_wayOf (nI a) (nI b) (nI n) md = some (nI (j + 1))) ∧ ((∀ i, i < n → ¬ (zE d n a (i + 1)).testBit b = true) → M_X5_wayOf (nI a) (nI b) (nI n) md = some (-6)) := by
  have hs : ∀ K k i, i < n → ¬ (zE d n a (i + 1)).testBit b = true → L_X5_wayOf_2 (nI a) (nI b) (nI n) md K (k + 1) (nI (i + 1)) = L_X5_wayOf_2 (nI a) (nI b) (nI n) md K k (nI (i + 1 + 1)) := by
    intro K k i hi h
    rw [L_X5_wayOf_2, if_neg (nI_nlt (by omega) (by omega)), m5_reached hn hd hmd ha (by omega), ob_sb, m5_has (lt31 (show zE d n a (_ + 1) < 2 ^ n from zst_lt hd _) hn) (by omega), ob_sb, nI_1]
    cases hz : (zE d n a (i + 1)).testBit b with
    | true => exact absurd hz h
    | false => rw [ite_ff, if_pos rfl]
  constructor
  · intro j hj h1 h2
    unfold M_X5_wayOf
    refine loop_seq (fun k (s : Int32) => L_X5_wayOf_2 (nI a) (nI b) (nI n) md _ k s) (fun i => nI (i + 1)) j _ (fun k i hi => hs _ k i (by omega) (h2 i hi)) (fun k => ?_) j 0 40 (by omega) (by omega)
    show L_X5_wayOf_2 (nI a) (nI b) (nI n) md _ (k + 1) (nI (j + 1)) = _
    rw [L_X5_wayOf_2, if_neg (nI_nlt (by omega) (by omega)), m5_reached hn hd hmd ha (by omega), ob_sb, m5_has (lt31 (show zE d n a (_ + 1) < 2 ^ n from zst_lt hd _) hn) (by omega), ob_sb, h1, ite_tt, if_neg (by decide)]
  · intro h
    unfold M_X5_wayOf
    refine loop_seq (fun k (s : Int32) => L_X5_wayOf_2 (nI a) (nI b) (nI n) md _ k s) (fun i => nI (i + 1)) n _ (fun k i hi => hs _ k i hi (h i hi)) (fun k => ?_) n 0 40 (by omega) (by omega)
    show L_X5_wayOf_2 (nI a) (nI b) (nI n) md _ (k + 1) (nI (n + 1)) = _
    rw [L_X5_wayOf_2, if_pos (nI_lt (by omega) (by omega))]
/-- the two ways agree -/
theorem m_way_eq {n a b : Nat} {d : Nat → Option Nat} {md ds : Nat → Int32} (hn : n ≤ 14) (hd : zwf d n) (hds : ∀ i, i < 14 → ds i = nI (zu d i)) (hmd : ∀ i, i < 14 → md i = zm d i) (ha : a < n) (hb : b < n) :
    ∃ r, M_X3_stepsBetween (nI n) ds (nI a) (nI b) = some r ∧ M_X5_wayOf (nI a) (nI b) (nI n) md = some r ∧ ((zP d n a b = true ∧ 0 < r) ∨ (zP d n a b = false ∧ r = -6)) := by
  obtain ⟨c1, c2⟩ := m_steps hn hd hds ha hb
  obtain ⟨m1, m2⟩ := m5_wayOf hn hd hmd ha hb
  rcases first_of (fun j => (zE d n a (j + 1)).testBit b = true) n with h | ⟨j, h1, h2, h3⟩
  · refine ⟨-6, c2 (fun j hj => ?_), m2 h, Or.inr ⟨?_, rfl⟩⟩
    · cases hx : (zX d n a (j + 1)).testBit b with
      | false => rfl
      | true =>
        obtain ⟨i, i1, i2, i3⟩ := (zX_iff ha _ b).mp hx
        obtain ⟨i', rfl⟩ : ∃ i', i = i' + 1 := ⟨i - 1, by omega⟩
        exact absurd i3 (h i' (by omega))
    · rw [← zX_P hd ha]
      cases hx : (zX d n a n).testBit b with
      | false => rfl
      | true =>
        obtain ⟨i, i1, i2, i3⟩ := (zX_iff ha _ b).mp hx
        obtain ⟨i', rfl⟩ : ∃ i', i = i' + 1 := ⟨i - 1, by omega⟩
        exact absurd i3 (h i' (by omega))
  · refine ⟨nI (j + 1), c1 j h1 ((zX_iff ha _ b).mpr ⟨j + 1, by omega, Nat.le_refl _, h2⟩) (fun i hi => ?_), m1 j h1 h2 h3, Or.inl ⟨zE_P hd ha j b h2, nI_lt (a := 0) (by omega) (by omega)⟩⟩
    cases hx : (zX d n a (i + 1)).testBit b with
    | false => rfl
    | true =>
      obtain ⟨i2, j1, j2, j3⟩ := (zX_iff ha _ b).mp hx
      obtain ⟨i', rfl⟩ : ∃ i', i2 = i' + 1 := ⟨i2 - 1, by omega⟩
      exact absurd j3 (h3 i' (by omega))
theorem m5_way {n a b : Nat} {d : Nat → Option Nat} {md : Nat → Int32} (hn : n ≤ 14) (hd : zwf d n) (hmd : ∀ i, i < 14 → md i = zm d i) (ha : a < n) (hb : b < n) :
    ∃ r, M_X5_wayOf (nI a) (nI b) (nI n) md = some r ∧ ((zP d n a b = true ∧ 0 < r) ∨ (zP d n a b = false ∧ r = -6)) := by
  obtain ⟨r, -, h2, h3⟩ := m_way_eq (ds := fun i => nI (zu d i)) hn hd (fun _ _ => rfl) hmd ha hb
  exact ⟨r, h2, h3⟩
theorem pos_nle {r : Int32} (h : 0 < r) : ¬ r ≤ 0 := fun g => by
  rw [Int32.lt_iff_toInt_lt] at h
  rw [Int32.le_iff_toInt_le] at g
  omega
theorem pos_ge {r : Int32} (h : 0 < r) : 0 ≤ r := by
  rw [Int32.lt_iff_toInt_lt] at h
  rw [Int32.le_iff_toInt_le]
  omega
theorem m5_ringOf {n a : Nat} {d : Nat → Option Nat} {md : Nat → Int32} (hn : n ≤ 14) (hd : zwf d n) (hmd : ∀ i, i < 14 → md i = zm d i) (ha : a < n) : M_X5_ringOf (nI a) (nI n) md = some (nI (zro d n a n)) := by
  unfold M_X5_ringOf
  obtain ⟨r, h1, h2⟩ := m5_way hn hd hmd ha ha
  rw [h1, ob_sb]
  rcases h2 with ⟨h2, h3⟩ | ⟨h2, h3⟩
  · rw [if_pos (pos_ge h3)]
    refine loop_seq (fun k (s : Int32 × Int32) => L_X5_ringOf_15 (nI a) (nI n) md _ k s.1 s.2) (fun i => (nI i, nI (zro d n a i))) n _ ?_ ?_ n 0 40 (by omega) (by omega)
    · intro k i hi
      show L_X5_ringOf_15 (nI a) (nI n) md _ (k + 1) (nI i) (nI (zro d n a i)) = L_X5_ringOf_15 (nI a) (nI n) md _ k (nI (i + 1)) (nI (zro d n a i ||| (if zP d n a i && zP d n i a then 2 ^ i else 0)))
      obtain ⟨r1, q1, q2⟩ := m5_way hn hd hmd ha hi
      obtain ⟨r2, q3, q4⟩ := m5_way hn hd hmd hi ha
      rw [L_X5_ringOf_15, if_neg (nI_ge hi (by omega)), q1, ob_sb, q3, ob_sb, nI_1, i_or0, i_one (by omega), i_or]
      rcases q2 with ⟨q2, q5⟩ | ⟨q2, q5⟩
      · rw [if_neg (pos_nle q5), q2, Bool.true_and]
        rcases q4 with ⟨q4, q6⟩ | ⟨q4, q6⟩
        · rw [if_neg (pos_nle q6), q4, ite_tt]
        · rw [if_pos (by rw [q6]; decide), q4, ite_ff, Nat.or_zero]
      · rw [if_pos (by rw [q5]; decide), q2, Bool.false_and, ite_ff, Nat.or_zero]
    · intro k
      show L_X5_ringOf_15 (nI a) (nI n) md _ (k + 1) (nI n) _ = _
      rw [L_X5_ringOf_15, if_pos (nI_le (Nat.le_refl n) (by omega))]
  · have hz : zro d n a n = 0 := Classical.not_not.mp (fun q => by rw [(zro_ne hd a).mp q] at h2; cases h2)
    rw [if_neg (by rw [h3]; decide), hz]
    rfl
def zrd (d : Nat → Option Nat) (n : Nat) : Nat → Nat
  | 0 => 0
  | i + 1 => zrd d n i ||| zro d n i n
theorem zrd_bit {d : Nat → Option Nat} {n : Nat} (hd : zwf d n) (i w : Nat) : (zrd d n i).testBit w = true ↔ ∃ r, r < i ∧ zP d n r w = true ∧ zP d n w r = true := by
  induction i with
  | zero => exact ⟨fun h => (by rw [show zrd d n 0 = 0 from rfl, Nat.zero_testBit] at h; cases h), fun ⟨r, h, _⟩ => absurd h (Nat.not_lt_zero r)⟩
  | succ i ih =>
    show (zrd d n i ||| _).testBit w = true ↔ _
    rw [Nat.testBit_or, Bool.or_eq_true, ih, zro_bit hd, Bool.and_eq_true]
    constructor
    · rintro (⟨r, h1, h2⟩ | h)
      · exact ⟨r, by omega, h2⟩
      · exact ⟨i, Nat.lt_succ_self i, h⟩
    · rintro ⟨r, h1, h2⟩
      by_cases e : r = i
      · subst e; exact Or.inr h2
      · exact Or.inl ⟨r, by omega, h2⟩
theorem zrd_eq {d : Nat → Option Nat} {n : Nat} (hd : zwf d n) : zrd d n n = zring d n n := Nat.eq_of_testBit_eq fun w => by
  rw [zring_bit hd]
  cases h : zP d n w w with
  | true => exact (zrd_bit hd n w).mpr ⟨w, (zP_lt hd n w w (Nat.le_refl n) h).1, h, h⟩
  | false =>
    cases hx : (zrd d n n).testBit w with
    | false => rfl
    | true =>
      obtain ⟨r, h1, h2, h3⟩ := (zrd_bit hd n w).mp hx
      rw [zP_tr n w r w h1 h3 h2] at h
      cases h
theorem m5_ringed {n : Nat} {d : Nat → Option Nat} {md : Nat → Int32} (hn : n ≤ 14) (hd : zwf d n) (hmd : ∀ i, i < 14 → md i = zm d i) : M_X5_ringed (nI n) md = some (nI (zring d n n)) := by
  unfold M_X5_ringed
  rw [← zrd_eq hd]
  refine loop_seq (fun k (s : Int32 × Int32) => L_X5_ringed_4 (nI n) md _ k s.1 s.2) (fun i => (nI i, nI (zrd d n i))) n _ ?_ ?_ n 0 40 (by omega) (by omega)
  · intro k i hi
    show L_X5_ringed_4 (nI n) md _ (k + 1) (nI i) (nI (zrd d n i)) = L_X5_ringed_4 (nI n) md _ k (nI (i + 1)) (nI (zrd d n i ||| zro d n i n))
    rw [L_X5_ringed_4, if_neg (nI_ge hi (by omega)), m5_ringOf hn hd hmd hi, ob_sb, i_or, nI_1]
  · intro k
    show L_X5_ringed_4 (nI n) md _ (k + 1) (nI n) _ = _
    rw [L_X5_ringed_4, if_pos (nI_le (Nat.le_refl n) (by omega))]
/-- the model's rings by number -/
theorem m5_ring {n : Nat} {d : Nat → Option Nat} {md : Nat → Int32} {p : Int32} (hn : n ≤ 14) (hd : zwf d n) (hmd : ∀ i, i < 14 → md i = zm d i) (hp : (-1) ≤ p) :
    (∀ j, j < n → znew d n (zmet d n j) j = true ∧ nI (zrc d n j) = p → (∀ i, i < j → ¬ (znew d n (zmet d n i) i = true ∧ nI (zrc d n i) = p)) → M_X5_ring p (nI n) md = some (nI (zro d n j n))) ∧ ((∀ i, i < n → ¬ (znew d n (zmet d n i) i = true ∧ nI (zrc d n i) = p)) → M_X5_ring p (nI n) md = if p = (-1) then some (nI (zrc d n n)) else some (-6)) := by
  have hnz : ∀ i, (nI (zro d n i n) = 0) ↔ zP d n i i = false := fun i => by
    rw [i_zero (lt32 (zro_lt d n i) hn)]
    have h := zro_ne hd i
    cases hz : zP d n i i with
    | false => exact ⟨fun _ => rfl, fun _ => Classical.not_not.mp (fun q => by rw [h.mp q] at hz; cases hz)⟩
    | true => exact ⟨fun q => absurd q (h.mpr hz), fun q => by cases q⟩
  have hs : ∀ K k i, i < n → ¬ (znew d n (zmet d n i) i = true ∧ nI (zrc d n i) = p) → L_X5_ring_15 p (nI n) md K (k + 1) (nI i) (nI (zrc d n i)) (nI (zmet d n i)) = L_X5_ring_15 p (nI n) md K k (nI (i + 1)) (nI (zrc d n (i + 1))) (nI (zmet d n (i + 1))) := by
    intro K k i hi hne
    have e1 : zmet d n (i + 1) = if znew d n (zmet d n i) i then zmet d n i ||| zro d n i n else zmet d n i := rfl
    have e2 : zrc d n (i + 1) = if znew d n (zmet d n i) i then zrc d n i + 1 else zrc d n i := rfl
    rw [L_X5_ring_15, if_neg (nI_ge hi (by omega)), m5_ringOf hn hd hmd hi, ob_sb, m5_has (lt31 (zmet_lt d n i) hn) (by omega), ob_sb, nI_1, nI_1, i_or, e1, e2]
    cases hz : zP d n i i with
    | false =>
      have hw : znew d n (zmet d n i) i = false := by unfold znew; rw [hz]; rfl
      rw [if_pos ((hnz i).mpr hz), hw, ite_ff, ite_ff]
    | true =>
      rw [if_neg (fun q => by rw [(hnz i).mp q] at hz; cases hz)]
      cases hm : (zmet d n i).testBit i with
      | true =>
        have hw : znew d n (zmet d n i) i = false := by unfold znew; rw [hm]; simp
        rw [ite_tt, if_neg (by decide), hw, ite_ff, ite_ff]
      | false =>
        have hw : znew d n (zmet d n i) i = true := by unfold znew; rw [hm, hz]; rfl
        rw [ite_ff, if_pos rfl, if_neg (fun q => hne ⟨hw, q⟩), hw, ite_tt, ite_tt]
  constructor
  · intro j hj h1 h2
    unfold M_X5_ring
    rw [if_pos hp]
    refine loop_seq (fun k (s : Int32 × Int32 × Int32) => L_X5_ring_15 p (nI n) md _ k s.1 s.2.1 s.2.2) (fun i => (nI i, nI (zrc d n i), nI (zmet d n i))) j _ (fun k i hi => hs _ k i (by omega) (h2 i hi)) (fun k => ?_) j 0 40 (by omega) (by omega)
    show L_X5_ring_15 p (nI n) md _ (k + 1) (nI j) (nI (zrc d n j)) (nI (zmet d n j)) = _
    have hz : zP d n j j = true ∧ (zmet d n j).testBit j = false := by
      have := h1.1
      unfold znew at this
      rw [Bool.and_eq_true] at this
      exact ⟨this.1, by cases q : (zmet d n j).testBit j with | false => rfl | true => rw [q] at this; cases this.2⟩
    rw [L_X5_ring_15, if_neg (nI_ge hj (by omega)), m5_ringOf hn hd hmd hj, ob_sb, if_neg (fun q => by rw [(hnz j).mp q] at hz; cases hz.1), m5_has (lt31 (zmet_lt d n j) hn) (by omega), ob_sb, hz.2, ite_ff, if_pos rfl, if_pos h1.2]
  · intro h
    unfold M_X5_ring
    rw [if_pos hp]
    refine loop_seq (fun k (s : Int32 × Int32 × Int32) => L_X5_ring_15 p (nI n) md _ k s.1 s.2.1 s.2.2) (fun i => (nI i, nI (zrc d n i), nI (zmet d n i))) n _ (fun k i hi => hs _ k i hi (h i hi)) (fun k => ?_) n 0 40 (by omega) (by omega)
    show L_X5_ring_15 p (nI n) md _ (k + 1) (nI n) (nI (zrc d n n)) (nI (zmet d n n)) = _
    rw [L_X5_ring_15, if_pos (nI_le (Nat.le_refl n) (by omega))]
