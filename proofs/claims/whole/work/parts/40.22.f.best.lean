/-! the best telling, and the least ones -/
theorem zfeC_sub {d : Nat → Option Nat} {ch T : Nat} (h : zfeC d ch T) : zsub T ch := h.1
theorem m_cheapest {n base B : Nat} {d : Nat → Option Nat} {cs : Nat → Int32} {c : Nat → Nat} {cf : Nat → Int64} (hn : n ≤ 14) (hd : zwf d n) (hB : zbar d n B) (hcs : ∀ i, i < 14 → cs i = nI (c i)) (hc : ∀ i, 1 ≤ c i ∧ c i ≤ 9) (hb : base < 2 ^ n) (ht : ztab d (zring d n n) cf) :
    M_X1_cheapest (nI n) cs (nI base) (nI B) (nI (zring d n n)) cf = some (nI (zmin (zfeM d n base) (zles c n) (zdif (2 ^ n - 1) base) (2 ^ n))) := by
  have hchn : zdif (zring d n n) base < 2 ^ n := zdif_lt (zring_lt d n)
  have hch14 := lt14 hchn hn
  rw [zplan (X := 2 ^ 14) hd hB hb (fun w _ => (hc w).1) hch14]
  unfold M_X1_cheapest
  rw [i_dif, i_dif]
  obtain ⟨ch, hche⟩ : ∃ x, x = zdif (zring d n n) base := ⟨_, rfl⟩
  rw [← hche] at hchn hch14 ⊢
  have hchR : zsub ch (zring d n n) := by rw [hche]; exact zdif_sub _ _
  rw [m_costOf hn hcs (lt31 hchn hn), ob_sb, bc_all hch14, ob_sb]
  obtain ⟨be, hbe⟩ : ∃ f : Nat → Nat, f = fun i => zmin (zfeC d ch) (zbet c n) ch (zt ch i) := ⟨_, rfl⟩
  have hbt : ∀ i, be i < 2 ^ n := fun i => by
    have h1 := (zmin_bet (feas := zfeC d ch) (c := c) (n := n) (b := ch) (fun w _ => (hc w).1) hchn ⟨zsub_refl ch, by rw [zdif_zero.mpr (zsub_refl ch)]; exact zfree_zero d⟩ (fun K hK => hK.1) (zt ch i)).1
    rw [hbe]
    exact zsub_lt2 h1.1 hchn
  have hb0 : be 0 = ch := by rw [hbe]; show zmin _ _ _ (zt ch 0) = ch; rw [zt_lo (Nat.two_pow_pos _)]; rfl
  have hbl : be (2 ^ zpc ch 14) = zmin (zfeC d ch) (zbet c n) ch (2 ^ 14) := by rw [hbe]; show zmin _ _ _ (zt ch _) = _; rw [zt_hi]
  have hbs : ∀ i, i < 2 ^ zpc ch 14 → be (i + 1) = zmin (zfeC d ch) (zbet c n) ch (zs ch i + 1) ∧ be i = zmin (zfeC d ch) (zbet c n) ch (zs ch i) := fun i hi => by
    obtain ⟨g1, g2⟩ := zt_gap hch14 hi
    rw [hbe]
    refine ⟨zmin_gap g1 (fun k k1 k2 q => g2 k k1 k2 q.1), ?_⟩
    show zmin _ _ _ (zt ch i) = _
    rw [zt_lo hi]
  have hsl := subs_lt ch
  have hc9 : ∀ i, c i ≤ 9 := fun i => (hc i).2
  have key : ∀ K, L_X1_cheapest_34 (nI n) cs (nI base) (nI (zring d n n)) cf (nI (zpc ch 14)) K 20000 0 0 (nI (zcost c ch n)) (nI ch) = K (nI (2 ^ zpc ch 14)) (nI (zs ch (2 ^ zpc ch 14))) (nI (zcost c (be (2 ^ zpc ch 14)) n)) (nI (be (2 ^ zpc ch 14))) := by
    intro K
    have h0 : L_X1_cheapest_34 (nI n) cs (nI base) (nI (zring d n n)) cf (nI (zpc ch 14)) K 20000 (nI 0) (nI (zs ch 0)) (nI (zcost c (be 0) n)) (nI (be 0)) = K (nI (2 ^ zpc ch 14)) (nI (zs ch (2 ^ zpc ch 14))) (nI (zcost c (be (2 ^ zpc ch 14)) n)) (nI (be (2 ^ zpc ch 14))) := by
      refine loop_seq (fun k (s : Int32 × Int32 × Int32 × Int32) => L_X1_cheapest_34 (nI n) cs (nI base) (nI (zring d n n)) cf (nI (zpc ch 14)) K k s.1 s.2.1 s.2.2.1 s.2.2.2) (fun i => (nI i, nI (zs ch i), nI (zcost c (be i) n), nI (be i))) (2 ^ zpc ch 14) _ ?_ ?_ (2 ^ zpc ch 14) 0 20000 (by omega) (by omega)
      · intro k i hi
        show L_X1_cheapest_34 (nI n) cs (nI base) (nI (zring d n n)) cf (nI (zpc ch 14)) K (k + 1) (nI i) (nI (zs ch i)) (nI (zcost c (be i) n)) (nI (be i)) = L_X1_cheapest_34 (nI n) cs (nI base) (nI (zring d n n)) cf (nI (zpc ch 14)) K k (nI (i + 1)) (nI (zs ch (i + 1))) (nI (zcost c (be (i + 1)) n)) (nI (be (i + 1)))
        obtain ⟨s1, s2⟩ := zs_inv hch14 i hi
        have hsn : zs ch i < 2 ^ n := zsub_lt2 s1 hchn
        have hnx : M_X1_nextSubset (nI (zs ch i)) (nI ch) = some (nI (zs ch (i + 1))) := i_next hch14 (zs_le hch14 hi)
        obtain ⟨e1, e2⟩ := hbs i hi
        have hyes : zfeC d ch (zs ch i) → zbet c n (zs ch i) (be i) → be (i + 1) = zs ch i := fun h1 h2 => by rw [e1]; exact zmin_yes ⟨h1, by rw [← e2]; exact h2⟩
        have hno : ¬ (zfeC d ch (zs ch i) ∧ zbet c n (zs ch i) (be i)) → be (i + 1) = be i := fun h => by rw [e1, zmin_no (by rw [← e2]; exact h), ← e2]
        have hcd : zdif (zring d n n) base = ch := hche.symm
        have hfr : zfr cf (zdif ch (zs ch i)) = true ↔ zfree d (zdif ch (zs ch i)) := ht _ (zsub_trans (zdif_sub _ _) hchR)
        have c1 := zcost_31 hc9 (zs ch i) n hn
        have c2 := zcost_31 hc9 (be i) n hn
        rw [L_X1_cheapest_34, i_subs hch14, if_neg (nI_ge hi (by omega)), i_dif, hcd, i_dif, m_isFree (lt14 (zdif_lt hchn) hn), ob_sb, hnx, ob_sb, m_costOf hn hcs (lt31 hsn hn), ob_sb, bc_all (lt14 hsn hn), ob_sb, bc_all (lt14 (hbt i) hn), ob_sb, nI_1, zpc_ext hsn 14 hn, zpc_ext (hbt i) 14 hn]
        cases hz : zfr cf (zdif ch (zs ch i)) with
        | false =>
          rw [ite_ff, if_pos rfl, hno (fun q => by rw [hfr.mpr q.1.2] at hz; cases hz)]
        | true =>
          have hfe : zfeC d ch (zs ch i) := ⟨s1, hfr.mp hz⟩
          rw [ite_tt, if_neg (by decide)]
          by_cases hlt : zcost c (zs ch i) n < zcost c (be i) n
          · rw [if_pos ((nI_ltI c1 c2).mpr hlt), if_pos ((nI_ltI c1 c2).mpr hlt), hyes hfe (Or.inl hlt)]
            split <;> rfl
          · rw [if_neg (fun q => hlt ((nI_ltI c1 c2).mp q)), if_neg (fun q => hlt ((nI_ltI c1 c2).mp q))]
            by_cases heq : zcost c (zs ch i) n = zcost c (be i) n
            · have hE : nI (zcost c (zs ch i) n) = nI (zcost c (be i) n) := by rw [heq]
              rw [if_pos hE, if_pos hE]
              by_cases hpl : zpc (be i) n ≤ zpc (zs ch i) n
              · rw [if_pos ((nI_leI (zpc_31 _ n hn) (zpc_31 _ n hn)).mpr hpl), hno (fun q => by have := q.2; unfold zbet at this; omega)]
              · rw [if_neg (fun q => hpl ((nI_leI (zpc_31 _ n hn) (zpc_31 _ n hn)).mp q)), hyes hfe (Or.inr ⟨heq, by omega⟩)]
                rfl
            · rw [if_neg (fun q => heq ((nI_eq c1 c2).mp q)), if_neg (fun q => heq ((nI_eq c1 c2).mp q)), hno (fun q => by have := q.2; unfold zbet at this; omega)]
              split <;> rfl
      · intro k
        show L_X1_cheapest_34 (nI n) cs (nI base) (nI (zring d n n)) cf (nI (zpc ch 14)) K (k + 1) (nI (2 ^ zpc ch 14)) _ _ _ = _
        rw [L_X1_cheapest_34, i_subs hch14, if_pos (nI_le (Nat.le_refl _) (by omega))]
    rw [hb0] at h0
    exact h0
  rw [key, hbl, i_or]
/-- least sets of ring words -/
theorem m_isLeast {n T : Nat} {d : Nat → Option Nat} {cf : Nat → Int64} (hn : n ≤ 14) (ht : ztab d (zring d n n) cf) (hT : zsub T (zring d n n)) :
    (zleC d (zring d n n) T → M_X1_isLeast (nI T) (nI (zring d n n)) cf = some 1) ∧ (¬ zleC d (zring d n n) T → M_X1_isLeast (nI T) (nI (zring d n n)) cf = some 0) := by
  have hRn := zring_lt d n
  have hTn : T < 2 ^ n := zsub_lt2 hT hRn
  have hT1 := lt31 hTn hn
  have hfr : zfr cf (zdif (zring d n n) T) = true ↔ zfree d (zdif (zring d n n) T) := ht _ (zdif_sub _ _)
  have hsub : ∀ w, T.testBit w = true → zsub (zdif (zring d n n) T ||| 2 ^ w) (zring d n n) := fun w hw i hi => by
    rw [Nat.testBit_or, Bool.or_eq_true] at hi
    rcases hi with hi | hi
    · exact zdif_sub _ _ i hi
    · rw [zone_bit] at hi
      rw [← of_decide_eq_true hi]
      exact hT w hw
  have hfw : ∀ w, T.testBit w = true → (zfr cf (zdif (zring d n n) T ||| 2 ^ w) = true ↔ zfree d (zdif (zring d n n) T ||| 2 ^ w)) := fun w hw => ht _ (hsub w hw)
  have hs : ∀ K k i, i < 14 → ¬ (T.testBit i = true ∧ zfree d (zdif (zring d n n) T ||| 2 ^ i)) → L_X1_isLeast_21 (nI T) (nI (zring d n n)) cf K (k + 1) (nI i) = L_X1_isLeast_21 (nI T) (nI (zring d n n)) cf K k (nI (i + 1)) := by
    intro K k i hi h
    rw [L_X1_isLeast_21, if_neg (n14 hi), nI_1]
    cases hb : T.testBit i with
    | false => rw [if_pos ((i_bit0 hT1 (by omega)).mpr hb)]
    | true =>
      rw [if_neg (fun q => by rw [i_bit0 hT1 (by omega), hb] at q; cases q), i_dif, i_one (by omega), i_or, m_isFree (lt14 (zsub_lt2 (hsub i hb) hRn) hn), ob_sb]
      cases hz : zfr cf (zdif (zring d n n) T ||| 2 ^ i) with
      | false => rw [ite_ff, if_pos rfl]
      | true => exact absurd ⟨hb, (hfw i hb).mp hz⟩ h
  have h0 : M_X1_isLeast (nI T) (nI (zring d n n)) cf = if zfr cf (zdif (zring d n n) T) then L_X1_isLeast_21 (nI T) (nI (zring d n n)) cf (fun (v3_21 : Int32) => some 1) 40 0 else some 0 := by
    unfold M_X1_isLeast
    rw [i_dif, m_isFree (lt14 (zdif_lt hRn) hn), ob_sb]
    cases zfr cf (zdif (zring d n n) T) <;> rfl
  rw [h0]
  constructor
  · intro ⟨h1, h2⟩
    rw [hfr.mpr h1, ite_tt]
    refine loop_seq (fun k (s : Int32) => L_X1_isLeast_21 (nI T) (nI (zring d n n)) cf _ k s) (fun i => nI i) 14 _ (fun k i hi => hs _ k i hi (fun q => h2 i q.1 q.2)) (fun k => ?_) 14 0 40 (by omega) (by omega)
    show L_X1_isLeast_21 (nI T) (nI (zring d n n)) cf _ (k + 1) (nI 14) = _
    rw [L_X1_isLeast_21, if_pos l14]
  · intro h
    cases hz : zfr cf (zdif (zring d n n) T) with
    | false => rfl
    | true =>
      rw [ite_tt]
      rcases first_of (fun w => T.testBit w = true ∧ zfree d (zdif (zring d n n) T ||| 2 ^ w)) 14 with q | ⟨w, q1, q2, q3⟩
      · exfalso
        refine h ⟨hfr.mp hz, fun w hw hf => q w ?_ ⟨hw, hf⟩⟩
        have := zbit_lt hTn hw
        omega
      · refine loop_seq (fun k (s : Int32) => L_X1_isLeast_21 (nI T) (nI (zring d n n)) cf _ k s) (fun i => nI i) w _ (fun k i hi => hs _ k i (by omega) (q3 i hi)) (fun k => ?_) w 0 40 (by omega) (by omega)
        show L_X1_isLeast_21 (nI T) (nI (zring d n n)) cf _ (k + 1) (nI w) = _
        rw [L_X1_isLeast_21, if_neg (n14 q1), if_neg (fun q => by rw [i_bit0 hT1 (by omega), q2.1] at q; cases q), i_dif, i_one (by omega), i_or, m_isFree (lt14 (zsub_lt2 (hsub w q2.1) hRn) hn), ob_sb, (hfw w q2.1).mpr q2.2, ite_tt, if_neg (by decide)]
noncomputable def zdec (p : Prop) : Bool := @decide p (Classical.propDecidable p)
theorem zdec_iff {p : Prop} : zdec p = true ↔ p := ⟨fun h => @of_decide_eq_true p (Classical.propDecidable p) h, fun h => @decide_eq_true p (Classical.propDecidable p) h⟩
theorem zdec_no {p : Prop} (h : ¬ p) : zdec p = false := by
  cases e : zdec p with
  | false => rfl
  | true => exact absurd (zdec_iff.mp e) h
theorem m_leastWith {n B W : Nat} {d : Nat → Option Nat} {cf : Nat → Int64} (hn : n ≤ 14) (ht : ztab d (zring d n n) cf) (hB : B < 2 ^ n) (hW : W < 2 ^ 31) :
    M_X1_leastWith (nI W) (nI B) (nI (zring d n n)) cf = some (nI (zcnt (fun T => zdec (zsub T (zring d n n) ∧ zleC d (zring d n n) T ∧ zsub W (T ||| B))) (2 ^ 14))) := by
  have hRn := zring_lt d n
  have hR14 := lt14 hRn hn
  obtain ⟨q, hq⟩ : ∃ q : Nat → Bool, q = fun T => zdec (zsub T (zring d n n) ∧ zleC d (zring d n n) T ∧ zsub W (T ||| B)) := ⟨_, rfl⟩
  rw [← hq]
  have hqs : ∀ k, ¬ zsub k (zring d n n) → q k = false := fun k h => by rw [hq]; exact zdec_no (fun g => h g.1)
  unfold M_X1_leastWith
  rw [bc_all hR14, ob_sb]
  have hsl := subs_lt (zring d n n)
  have h0 : L_X1_leastWith_18 (nI W) (nI B) (nI (zring d n n)) cf (nI (zpc (zring d n n) 14)) (fun (v5_18 : Int32) (v4_18 : Int32) (v2_18 : Int32) => some v2_18) 20000 (nI 0) (nI (zs (zring d n n) 0)) (nI (zcnt q (zt (zring d n n) 0))) = some (nI (zcnt q (2 ^ 14))) := by
    refine loop_seq (fun k (s : Int32 × Int32 × Int32) => L_X1_leastWith_18 (nI W) (nI B) (nI (zring d n n)) cf (nI (zpc (zring d n n) 14)) _ k s.1 s.2.1 s.2.2) (fun i => (nI i, nI (zs (zring d n n) i), nI (zcnt q (zt (zring d n n) i)))) (2 ^ zpc (zring d n n) 14) _ ?_ ?_ (2 ^ zpc (zring d n n) 14) 0 20000 (by omega) (by omega)
    · intro k i hi
      show L_X1_leastWith_18 (nI W) (nI B) (nI (zring d n n)) cf (nI (zpc (zring d n n) 14)) _ (k + 1) (nI i) (nI (zs (zring d n n) i)) (nI (zcnt q (zt (zring d n n) i))) = L_X1_leastWith_18 (nI W) (nI B) (nI (zring d n n)) cf (nI (zpc (zring d n n) 14)) _ k (nI (i + 1)) (nI (zs (zring d n n) (i + 1))) (nI (zcnt q (zt (zring d n n) (i + 1))))
      obtain ⟨s1, s2⟩ := zs_inv hR14 i hi
      obtain ⟨g1, g2⟩ := zt_gap hR14 hi
      have hnx : M_X1_nextSubset (nI (zs (zring d n n) i)) (nI (zring d n n)) = some (nI (zs (zring d n n) (i + 1))) := i_next hR14 (zs_le hR14 hi)
      have e1 : zcnt q (zt (zring d n n) (i + 1)) = zcnt q (zs (zring d n n) i) + (if q (zs (zring d n n) i) then 1 else 0) := by
        rw [zcnt_gap g1 (fun k k1 k2 => hqs k (g2 k k1 k2))]; rfl
      obtain ⟨l1, l2⟩ := m_isLeast hn ht s1
      rw [zt_lo hi, e1, L_X1_leastWith_18, i_subs hR14, if_neg (nI_ge hi (by omega)), i_or, i_dif, hnx, ob_sb, ob_sb, nI_1, nI_1]
      have hz : zdif W (zs (zring d n n) i ||| B) < 2 ^ 32 := Nat.lt_trans (zdif_lt hW) (by decide)
      by_cases hw : zsub W (zs (zring d n n) i ||| B)
      · rw [if_pos ((i_zero hz).mpr (zdif_zero.mpr hw))]
        by_cases hl : zleC d (zring d n n) (zs (zring d n n) i)
        · have : q (zs (zring d n n) i) = true := by rw [hq]; exact zdec_iff.mpr ⟨s1, hl, hw⟩
          rw [l1 hl, ob_sb, if_neg (by decide), this, ite_tt]
        · have : q (zs (zring d n n) i) = false := by rw [hq]; exact zdec_no (fun g => hl g.2.1)
          rw [l2 hl, ob_sb, if_pos rfl, this, ite_ff]; rfl
      · have : q (zs (zring d n n) i) = false := by rw [hq]; exact zdec_no (fun g => hw g.2.2)
        rw [if_neg (fun g => hw (zdif_zero.mp ((i_zero hz).mp g))), this, ite_ff]; rfl
    · intro k
      show L_X1_leastWith_18 (nI W) (nI B) (nI (zring d n n)) cf (nI (zpc (zring d n n) 14)) _ (k + 1) (nI (2 ^ zpc (zring d n n) 14)) _ (nI (zcnt q (zt (zring d n n) (2 ^ zpc (zring d n n) 14)))) = _
      rw [L_X1_leastWith_18, i_subs hR14, if_pos (nI_le (Nat.le_refl _) (by omega)), zt_hi]
  rw [zt_lo (Nat.two_pow_pos _)] at h0
  exact h0
theorem m_greatest {n B : Nat} {d : Nat → Option Nat} {cf : Nat → Int64} (hn : n ≤ 14) (ht : ztab d (zring d n n) cf) (hB : B < 2 ^ n) :
    M_X1_greatestLeast (nI B) (nI (zring d n n)) cf = some (nI (zmax (fun T => zdec (zsub T (zring d n n) ∧ zleC d (zring d n n) T)) (fun T => zpc (T ||| B) 14) (2 ^ 14))) := by
  have hRn := zring_lt d n
  have hR14 := lt14 hRn hn
  obtain ⟨q, hq⟩ : ∃ q : Nat → Bool, q = fun T => zdec (zsub T (zring d n n) ∧ zleC d (zring d n n) T) := ⟨_, rfl⟩
  rw [← hq]
  have hqs : ∀ k, ¬ zsub k (zring d n n) → q k = false := fun k h => by rw [hq]; exact zdec_no (fun g => h g.1)
  have hml : ∀ x, zmax q (fun T => zpc (T ||| B) 14) x ≤ 14 := fun x => (zmax_le x).mpr (fun k _ _ => zpc_le _ 14)
  unfold M_X1_greatestLeast
  rw [bc_all hR14, ob_sb]
  have hsl := subs_lt (zring d n n)
  have h0 : L_X1_greatestLeast_17 (nI B) (nI (zring d n n)) cf (nI (zpc (zring d n n) 14)) (fun (v4_17 : Int32) (v3_17 : Int32) (v1_17 : Int32) => some v1_17) 20000 (nI 0) (nI (zs (zring d n n) 0)) (nI (zmax q (fun T => zpc (T ||| B) 14) (zt (zring d n n) 0))) = some (nI (zmax q (fun T => zpc (T ||| B) 14) (2 ^ 14))) := by
    refine loop_seq (fun k (s : Int32 × Int32 × Int32) => L_X1_greatestLeast_17 (nI B) (nI (zring d n n)) cf (nI (zpc (zring d n n) 14)) _ k s.1 s.2.1 s.2.2) (fun i => (nI i, nI (zs (zring d n n) i), nI (zmax q (fun T => zpc (T ||| B) 14) (zt (zring d n n) i)))) (2 ^ zpc (zring d n n) 14) _ ?_ ?_ (2 ^ zpc (zring d n n) 14) 0 20000 (by omega) (by omega)
    · intro k i hi
      show L_X1_greatestLeast_17 (nI B) (nI (zring d n n)) cf (nI (zpc (zring d n n) 14)) _ (k + 1) (nI i) (nI (zs (zring d n n) i)) (nI (zmax q (fun T => zpc (T ||| B) 14) (zt (zring d n n) i))) = L_X1_greatestLeast_17 (nI B) (nI (zring d n n)) cf (nI (zpc (zring d n n) 14)) _ k (nI (i + 1)) (nI (zs (zring d n n) (i + 1))) (nI (zmax q (fun T => zpc (T ||| B) 14) (zt (zring d n n) (i + 1))))
      obtain ⟨s1, s2⟩ := zs_inv hR14 i hi
      obtain ⟨g1, g2⟩ := zt_gap hR14 hi
      have hsn : zs (zring d n n) i ||| B < 2 ^ 14 := lt14 (Nat.or_lt_two_pow (zsub_lt2 s1 hRn) hB) hn
      have hnx : M_X1_nextSubset (nI (zs (zring d n n) i)) (nI (zring d n n)) = some (nI (zs (zring d n n) (i + 1))) := i_next hR14 (zs_le hR14 hi)
      have e1 : zmax q (fun T => zpc (T ||| B) 14) (zt (zring d n n) (i + 1)) = if q (zs (zring d n n) i) then (if zmax q (fun T => zpc (T ||| B) 14) (zs (zring d n n) i) < zpc (zs (zring d n n) i ||| B) 14 then zpc (zs (zring d n n) i ||| B) 14 else zmax q (fun T => zpc (T ||| B) 14) (zs (zring d n n) i)) else zmax q (fun T => zpc (T ||| B) 14) (zs (zring d n n) i) := by
        rw [zmax_gap g1 (fun k k1 k2 => hqs k (g2 k k1 k2))]; rfl
      obtain ⟨l1, l2⟩ := m_isLeast hn ht s1
      have m1 := hml (zs (zring d n n) i)
      have m2 := zpc_le (zs (zring d n n) i ||| B) 14
      rw [zt_lo hi, e1, L_X1_greatestLeast_17, i_subs hR14, if_neg (nI_ge hi (by omega)), i_or, bc_all hsn, ob_sb, hnx, ob_sb, ob_sb, nI_1]
      by_cases hle : zpc (zs (zring d n n) i ||| B) 14 ≤ zmax q (fun T => zpc (T ||| B) 14) (zs (zring d n n) i)
      · rw [if_pos (nI_le hle (by omega)), if_neg (by omega : ¬ zmax q (fun T => zpc (T ||| B) 14) (zs (zring d n n) i) < zpc (zs (zring d n n) i ||| B) 14)]
        split <;> rfl
      · rw [if_neg (nI_ge (by omega) (by omega)), if_pos (by omega : zmax q (fun T => zpc (T ||| B) 14) (zs (zring d n n) i) < zpc (zs (zring d n n) i ||| B) 14)]
        by_cases hl : zleC d (zring d n n) (zs (zring d n n) i)
        · have : q (zs (zring d n n) i) = true := by rw [hq]; exact zdec_iff.mpr ⟨s1, hl⟩
          rw [l1 hl, ob_sb, if_neg (by decide), this, ite_tt]
        · have : q (zs (zring d n n) i) = false := by rw [hq]; exact zdec_no (fun g => hl g.2)
          rw [l2 hl, ob_sb, if_pos rfl, this, ite_ff]
    · intro k
      show L_X1_greatestLeast_17 (nI B) (nI (zring d n n)) cf (nI (zpc (zring d n n) 14)) _ (k + 1) (nI (2 ^ zpc (zring d n n) 14)) _ (nI (zmax q (fun T => zpc (T ||| B) 14) (zt (zring d n n) (2 ^ zpc (zring d n n) 14)))) = _
      rw [L_X1_greatestLeast_17, i_subs hR14, if_pos (nI_le (Nat.le_refl _) (by omega)), zt_hi]
  rw [zt_lo (Nat.two_pow_pos _)] at h0
  exact h0
