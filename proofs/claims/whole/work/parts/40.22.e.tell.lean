/-! the class's tellings: a bit a set; the sets of ring words in their order -/
def lb (x : Int64) (i : Nat) : Bool := x.toBitVec.getLsbD i
theorem l_s : ∀ r, r < 64 → (((nI r).toInt64 &&& 63).toBitVec.smod 64).toNat = r := by decide +kernel
theorem l_one : ∀ r, r < 64 → ∀ i, i < 64 → lb ((1 : Int64) <<< ((nI r).toInt64 &&& 63)) i = decide (r = i) := by decide +kernel
theorem l_m1 : ∀ i, i < 64 → lb (-1) i = true := by decide +kernel
theorem l_1 : ∀ i, i < 64 → lb 1 i = decide (0 = i) := by decide +kernel
theorem l_or (x y : Int64) (i : Nat) : lb (x ||| y) i = (lb x i || lb y i) := by unfold lb; rw [Int64.toBitVec_or, BitVec.getLsbD_or]
theorem l_and (x y : Int64) (i : Nat) : lb (x &&& y) i = (lb x i && lb y i) := by unfold lb; rw [Int64.toBitVec_and, BitVec.getLsbD_and]
theorem l_xor (x y : Int64) (i : Nat) : lb (x ^^^ y) i = (lb x i ^^ lb y i) := by unfold lb; rw [Int64.toBitVec_xor, BitVec.getLsbD_xor]
theorem l_shr (x : Int64) {r : Nat} (hr : r < 64) : lb (x >>> ((nI r).toInt64 &&& 63)) 0 = lb x r := by
  unfold lb
  rw [Int64.toBitVec_shiftRight]
  show (x.toBitVec.sshiftRight (((nI r).toInt64 &&& 63).toBitVec.smod 64).toNat).getLsbD 0 = _
  rw [l_s r hr, BitVec.getLsbD_sshiftRight]
  simp [hr]
theorem l_and1 (x : Int64) : (x &&& 1 = 0) ↔ lb x 0 = false := by
  have e0 : lb 0 0 = false := by decide
  have e1 : lb 1 0 = true := by decide
  constructor
  · intro h
    have h1 := l_and x 1 0
    rw [h, e0, e1, Bool.and_true] at h1
    exact h1.symm
  · intro h
    apply Int64.toBitVec_inj.mp
    refine BitVec.eq_of_getLsbD_eq (fun i hi => ?_)
    show lb (x &&& 1) i = lb 0 i
    rw [l_and, l_1 i hi, show lb 0 i = false from BitVec.getLsbD_zero]
    by_cases e : 0 = i
    · rw [← e, h]; rfl
    · rw [decide_eq_false e, Bool.and_false]
theorem lg_zero (x : Int64) : (lg_cmp x 0 = 0) ↔ x = 0 := by
  unfold lg_cmp
  by_cases h : x > 0
  · rw [if_pos h]
    refine ⟨fun q => absurd q (by decide), fun q => ?_⟩
    rw [q] at h
    exact absurd h (by decide)
  · rw [if_neg h]
    by_cases h2 : x = 0
    · rw [if_pos h2]; exact ⟨fun _ => h2, fun _ => rfl⟩
    · rw [if_neg h2]; exact ⟨fun q => absurd q (by decide), fun q => absurd q h2⟩
/-- whether a set is marked -/
def zfr (cf : Nat → Int64) (S : Nat) : Bool := lb (cf (S / 64)) (S % 64)
theorem i_div {S : Nat} (hS : S < 2 ^ 14) : nI S / 64 = nI (S / 64) := pk_div (d := 64) (Nat.lt_trans hS (by decide)) (by decide) (by decide)
theorem i_rem {S : Nat} (hS : S < 2 ^ 14) : nI S - nI S / 64 * 64 = nI (S % 64) := pk_rem (d := 64) (Nat.lt_trans hS (by decide)) (by decide) (by decide)
theorem m_isFree {S : Nat} {cf : Nat → Int64} (hS : S < 2 ^ 14) : M_X1_isFree (nI S) cf = some (if zfr cf S then 1 else 0) := by
  have hS2 : S < 16384 := hS
  have h256 : S / 64 < 256 := by omega
  unfold M_X1_isFree
  rw [i_rem hS, i_div hS, if_neg (nI_pos (by omega)), if_neg (show ¬ (256 : Int32) ≤ nI (S / 64) from nI_ge (b := 256) h256 (by decide)), if_neg (i_in h256 (by decide)), i_cl (by omega)]
  have h1 : (lg_cmp ((cf (S / 64) >>> ((nI (S % 64)).toInt64 &&& 63)) &&& 1) 0 = 0) ↔ zfr cf S = false := by
    rw [lg_zero, l_and1, l_shr _ (by omega)]
    rfl
  cases hz : zfr cf S with
  | false => rw [if_pos (h1.mpr hz)]; rfl
  | true => rw [if_neg (fun q => by rw [h1.mp q] at hz; cases hz)]; rfl
theorem m_mark {S : Nat} {cf : Nat → Int64} (b : Bool) (hS : S < 2 ^ 14) : ∃ cf', M_X1_mark (nI S) (if b then 1 else 0) cf = some cf' ∧ ∀ T, T < 2 ^ 14 → zfr cf' T = if T = S then b else zfr cf T := by
  have hS2 : S < 16384 := hS
  have h256 : S / 64 < 256 := by omega
  have hr : S % 64 < 64 := by omega
  cases b with
  | true =>
    refine ⟨vp_updL cf (S / 64) (cf (S / 64) ||| ((1 : Int64) <<< ((nI (S % 64)).toInt64 &&& 63))), ?_, fun T hT => ?_⟩
    · unfold M_X1_mark
      rw [i_rem hS, i_div hS, if_neg (nI_pos (by omega)), if_neg (show ¬ (256 : Int32) ≤ nI (S / 64) from nI_ge (b := 256) h256 (by decide)), ite_tt, if_neg (by decide), if_neg (i_in h256 (by decide)), if_neg (i_in h256 (by decide)), i_cl (by omega)]
    · unfold zfr vp_updL
      have hT2 : T < 16384 := hT
      by_cases e : T / 64 = S / 64
      · rw [if_pos e, l_or, l_one _ hr _ (by omega), e]
        by_cases q : T = S
        · rw [if_pos q, q, decide_eq_true rfl, Bool.or_true]
        · rw [if_neg q, decide_eq_false (by omega), Bool.or_false]
      · rw [if_neg e, if_neg (by omega)]
  | false =>
    refine ⟨vp_updL cf (S / 64) (cf (S / 64) &&& (((1 : Int64) <<< ((nI (S % 64)).toInt64 &&& 63)) ^^^ (-1))), ?_, fun T hT => ?_⟩
    · unfold M_X1_mark
      rw [i_rem hS, i_div hS, if_neg (nI_pos (by omega)), if_neg (show ¬ (256 : Int32) ≤ nI (S / 64) from nI_ge (b := 256) h256 (by decide)), ite_ff, if_pos rfl, if_neg (i_in h256 (by decide)), if_neg (i_in h256 (by decide)), i_cl (by omega)]
    · unfold zfr vp_updL
      have hT2 : T < 16384 := hT
      by_cases e : T / 64 = S / 64
      · rw [if_pos e, l_and, l_xor, l_one _ hr _ (by omega), l_m1 _ (by omega), e]
        by_cases q : T = S
        · rw [if_pos q, q, decide_eq_true rfl]; simp
        · rw [if_neg q, decide_eq_false (by omega)]; simp
      · rw [if_neg e, if_neg (by omega)]
/-- one word left out -/
theorem m_without {n S : Nat} {d : Nat → Option Nat} {ds : Nat → Int32} {cf : Nat → Int64} (hn : n ≤ 14) (hds : ∀ i, i < 14 → ds i = nI (zu d i)) (hS : S < 2 ^ n) :
    (∀ w, w < n → (S.testBit w = true ∧ zu d w &&& S = 0) → (∀ i, i < w → ¬ (S.testBit i = true ∧ zu d i &&& S = 0)) → M_X1_isFreeWithoutOne (nI n) ds (nI S) cf = some (if zfr cf (zdif S (2 ^ w)) then 1 else 0)) ∧ ((∀ i, i < n → ¬ (S.testBit i = true ∧ zu d i &&& S = 0)) → M_X1_isFreeWithoutOne (nI n) ds (nI S) cf = some 0) := by
  have hS1 := lt31 hS hn
  have hz : ∀ i, (nI (zu d i) &&& nI S = 0) ↔ zu d i &&& S = 0 := fun i => by
    rw [i_and]
    exact i_zero (lt32 (Nat.lt_of_le_of_lt Nat.and_le_right hS) hn)
  have hs : ∀ K k i, i < n → ¬ (S.testBit i = true ∧ zu d i &&& S = 0) → L_X1_isFreeWithoutOne_2 (nI n) ds (nI S) cf K (k + 1) (nI i) = L_X1_isFreeWithoutOne_2 (nI n) ds (nI S) cf K k (nI (i + 1)) := by
    intro K k i hi h
    rw [L_X1_isFreeWithoutOne_2, if_neg (nI_ge hi (by omega)), if_neg (i_in (by omega) (by decide)), i_cl (by omega), hds i (by omega), nI_1]
    cases hb : S.testBit i with
    | false => rw [if_pos ((i_bit0 hS1 (by omega)).mpr hb)]
    | true => rw [if_neg (fun q => by rw [(i_bit0 hS1 (by omega)).mp q] at hb; cases hb), if_neg (fun q => h ⟨hb, (hz i).mp q⟩)]
  constructor
  · intro w hw h1 h2
    unfold M_X1_isFreeWithoutOne
    refine loop_seq (fun k (s : Int32) => L_X1_isFreeWithoutOne_2 (nI n) ds (nI S) cf _ k s) (fun i => nI i) w _ (fun k i hi => hs _ k i (by omega) (h2 i hi)) (fun k => ?_) w 0 40 (by omega) (by omega)
    show L_X1_isFreeWithoutOne_2 (nI n) ds (nI S) cf _ (k + 1) (nI w) = _
    rw [L_X1_isFreeWithoutOne_2, if_neg (nI_ge hw (by omega)), if_neg (fun q => by rw [i_bit0 hS1 (by omega), h1.1] at q; cases q), if_neg (i_in (by omega) (by decide)), i_cl (by omega), hds w (by omega), if_pos ((hz w).mpr h1.2), i_one (by omega), i_dif, m_isFree (lt14 (zdif_lt hS) hn), ob_sb]
    cases zfr cf (zdif S (2 ^ w)) <;> rfl
  · intro h
    unfold M_X1_isFreeWithoutOne
    refine loop_seq (fun k (s : Int32) => L_X1_isFreeWithoutOne_2 (nI n) ds (nI S) cf _ k s) (fun i => nI i) n _ (fun k i hi => hs _ k i hi (h i hi)) (fun k => ?_) n 0 40 (by omega) (by omega)
    show L_X1_isFreeWithoutOne_2 (nI n) ds (nI S) cf _ (k + 1) (nI n) = _
    rw [L_X1_isFreeWithoutOne_2, if_pos (nI_le (Nat.le_refl n) (by omega))]
/-! the sets of some words, in their order -/
theorem i_next {s o : Nat} (ho : o < 2 ^ 14) (hs : s ≤ o) : M_X1_nextSubset (nI s) (nI o) = some (nI (zn 14 s o)) := by
  unfold M_X1_nextSubset zn
  have ho2 : o < 16384 := ho
  have e : nI s - nI o = nI (2 ^ 32 + s - o) := by
    have h1 : nI s = nI (2 ^ 32 + s) := by
      apply Int32.toBitVec_inj.mp
      show BitVec.ofNat 32 s = BitVec.ofNat 32 (2 ^ 32 + s)
      apply BitVec.eq_of_toNat_eq
      show s % 2 ^ 32 = (2 ^ 32 + s) % 2 ^ 32
      rw [Nat.add_mod_left]
    rw [h1]
    exact pk_sub (by omega)
  have e2 : (2 ^ 32 + s - o) &&& o = (2 ^ 14 + s - o) &&& o := by
    refine Nat.eq_of_testBit_eq fun i => ?_
    rw [Nat.testBit_and, Nat.testBit_and]
    by_cases hi : i < 14
    · have h1 : ∀ x, x.testBit i = (x % 2 ^ 14).testBit i := fun x => by rw [Nat.testBit_mod_two_pow, decide_eq_true hi, Bool.true_and]
      rw [h1 (2 ^ 32 + s - o), h1 (2 ^ 14 + s - o)]
      have h2 : (2 ^ 32 + s - o) % 2 ^ 14 = (2 ^ 14 + s - o) % 2 ^ 14 := by omega
      rw [h2]
    · rw [zlt_bit ho (by omega), Bool.and_false, Bool.and_false]
  rw [e, i_and, e2]
def zs (R : Nat) : Nat → Nat
  | 0 => 0
  | i + 1 => zn 14 (zs R i) R
theorem zcnt_R {R : Nat} (hR : R < 2 ^ 14) : zcnt (zin R) R + 1 = 2 ^ zpc R 14 := by
  rw [← zcnt_subs]
  have h1 : zcnt (zin R) (2 ^ 14) = zcnt (zin R) (R + 1) := zcnt_gap (by omega) (fun k h1 _ => zin_false (fun h => by have := zsub_le h; omega))
  rw [h1]
  show _ = zcnt (zin R) R + (if zin R R then 1 else 0)
  rw [zin_iff.mpr (zsub_refl R), ite_tt]
theorem zs_inv {R : Nat} (hR : R < 2 ^ 14) : ∀ i, i < 2 ^ zpc R 14 → zsub (zs R i) R ∧ zcnt (zin R) (zs R i) = i := by
  intro i
  induction i with
  | zero => exact fun _ => ⟨fun j hj => (by rw [show zs R 0 = 0 from rfl, Nat.zero_testBit] at hj; cases hj), rfl⟩
  | succ i ih =>
    intro h
    obtain ⟨h1, h2⟩ := ih (by omega)
    have hne : zs R i ≠ R := fun e => by
      rw [e] at h2
      have := zcnt_R hR
      omega
    obtain ⟨g1, g2, g3⟩ := zn_spec 14 (zs R i) R hR h1 hne
    refine ⟨g2, ?_⟩
    show zcnt (zin R) (zn 14 (zs R i) R) = i + 1
    rw [zcnt_gap (x := zs R i + 1) (by omega) (fun k k1 k2 => zin_false (fun q => by have := g3 k q (by omega); omega))]
    show zcnt (zin R) (zs R i) + (if zin R (zs R i) then 1 else 0) = i + 1
    rw [zin_iff.mpr h1, ite_tt, h2]
/-- how far the sets below are all looked at -/
def zt (R i : Nat) : Nat := if i < 2 ^ zpc R 14 then zs R i else 2 ^ 14
theorem zt_lo {R i : Nat} (h : i < 2 ^ zpc R 14) : zt R i = zs R i := if_pos h
theorem zt_hi (R : Nat) : zt R (2 ^ zpc R 14) = 2 ^ 14 := if_neg (Nat.lt_irrefl _)
theorem zt_gap {R i : Nat} (hR : R < 2 ^ 14) (h : i < 2 ^ zpc R 14) : zs R i + 1 ≤ zt R (i + 1) ∧ ∀ k, zs R i + 1 ≤ k → k < zt R (i + 1) → ¬ zsub k R := by
  obtain ⟨h1, h2⟩ := zs_inv hR i h
  have hle := zsub_le h1
  by_cases e : zs R i = R
  · have : ¬ i + 1 < 2 ^ zpc R 14 := by
      rw [e] at h2
      have := zcnt_R hR
      omega
    unfold zt
    rw [if_neg this]
    exact ⟨by omega, fun k k1 _ q => by have := zsub_le q; omega⟩
  · obtain ⟨g1, g2, g3⟩ := zn_spec 14 (zs R i) R hR h1 e
    have hlt : i + 1 < 2 ^ zpc R 14 := by
      rcases Nat.lt_or_ge (i + 1) (2 ^ zpc R 14) with q | q
      · exact q
      · have h3 := zcnt_R hR
        have h4 : zcnt (zin R) (zs R i + 1) ≤ zcnt (zin R) R := zcnt_mono (zsub_lt h1 e)
        have h5 : zcnt (zin R) (zs R i + 1) = zcnt (zin R) (zs R i) + (if zin R (zs R i) then 1 else 0) := rfl
        rw [zin_iff.mpr h1, ite_tt, h2] at h5
        omega
    rw [zt_lo hlt]
    exact ⟨by show zs R i + 1 ≤ zn 14 (zs R i) R; omega, fun k k1 k2 q => by have : zn 14 (zs R i) R ≤ k := g3 k q (by omega); have k3 : k < zn 14 (zs R i) R := k2; omega⟩
theorem zs_le {R i : Nat} (hR : R < 2 ^ 14) (h : i < 2 ^ zpc R 14) : zs R i ≤ R := zsub_le (zs_inv hR i h).1
theorem i_subs {R : Nat} (_hR : R < 2 ^ 14) : (1 : Int32) <<< (nI (zpc R 14) &&& 31) = nI (2 ^ zpc R 14) := i_one (by have := zpc_le R 14; omega)
theorem subs_lt (R : Nat) : 2 ^ zpc R 14 ≤ 16384 := by
  have : 2 ^ zpc R 14 ≤ 2 ^ 14 := Nat.pow_le_pow_right (by decide) (zpc_le R 14)
  exact this
/-- the table: each set of ring words is marked, if it is free -/
def ztab (d : Nat → Option Nat) (R : Nat) (cf : Nat → Int64) : Prop := ∀ T, zsub T R → (zfr cf T = true ↔ zfree d T)
theorem m_find {n F : Nat} {d : Nat → Option Nat} {ds : Nat → Int32} {cf : Nat → Int64} (hn : n ≤ 14) (hd : zwf d n) (hds : ∀ i, i < 14 → ds i = nI (zu d i)) :
    ∃ cf', M_X1_find (nI n) (nI F) ds (nI (zring d n n)) cf = some (nI (zdif (2 ^ n - 1) F), nI (zring d n n), cf') ∧ ztab d (zring d n n) cf' := by
  obtain ⟨R, hRe⟩ : ∃ x, x = zring d n n := ⟨_, rfl⟩
  have hRn : R < 2 ^ n := by rw [hRe]; exact zring_lt d n
  have hR : R < 2 ^ 14 := lt14 hRn hn
  rw [← hRe]
  have key : ∀ j i (cf : Nat → Int64) fuel, i + j = 2 ^ zpc R 14 → j < fuel → (∀ T, zsub T R → T < zt R i → (zfr cf T = true ↔ zfree d T)) → ∃ cf', (∀ T, zsub T R → (zfr cf' T = true ↔ zfree d T)) ∧ ∀ K, L_X1_find_39 (nI n) ds (nI R) (nI (zpc R 14)) K fuel (nI i) (nI (zs R i)) cf = K (nI (2 ^ zpc R 14)) (nI (zs R (2 ^ zpc R 14))) cf' := by
    intro j
    induction j with
    | zero =>
      intro i cf fuel h1 h2 hinv
      obtain ⟨k, rfl⟩ : ∃ k, fuel = k + 1 := ⟨fuel - 1, by omega⟩
      have hi : i = 2 ^ zpc R 14 := by omega
      subst hi
      refine ⟨cf, fun T hT => hinv T hT (by rw [zt_hi]; exact Nat.lt_of_le_of_lt (zsub_le hT) hR), fun K => ?_⟩
      rw [L_X1_find_39, i_subs hR, if_pos (nI_le (Nat.le_refl _) (by have := subs_lt R; omega))]
    | succ j ih =>
      intro i cf fuel h1 h2 hinv
      obtain ⟨k, rfl⟩ : ∃ k, fuel = k + 1 := ⟨fuel - 1, by omega⟩
      have hi : i < 2 ^ zpc R 14 := by omega
      have hsl := subs_lt R
      obtain ⟨s1, s2⟩ := zs_inv hR i hi
      have hsn : zs R i < 2 ^ n := zsub_lt2 s1 hRn
      have hs14 : zs R i < 2 ^ 14 := zsub_lt2 s1 hR
      rw [zt_lo hi] at hinv
      -- what is marked now
      have hb : ∃ b : Bool, (b = true ↔ zfree d (zs R i)) ∧ ∀ K cf'', M_X1_mark (nI (zs R i)) (if b then 1 else 0) cf = some cf'' → L_X1_find_39 (nI n) ds (nI R) (nI (zpc R 14)) K (k + 1) (nI i) (nI (zs R i)) cf = L_X1_find_39 (nI n) ds (nI R) (nI (zpc R 14)) K k (nI (i + 1)) (nI (zs R (i + 1))) cf'' := by
        have hnx : M_X1_nextSubset (nI (zs R i)) (nI R) = some (nI (zs R (i + 1))) := i_next hR (zs_le hR hi)
        by_cases h0 : zs R i = 0
        · refine ⟨true, ⟨fun _ => by rw [h0]; exact zfree_zero d, fun _ => rfl⟩, fun K cf'' hm => ?_⟩
          rw [ite_tt] at hm
          rw [L_X1_find_39, i_subs hR, if_neg (nI_ge hi (by omega)), if_pos (by rw [h0]; rfl), hm, ob_sb, hnx, ob_sb, nI_1]
        · have hne : ¬ nI (zs R i) = 0 := fun q => h0 ((i_zero (lt32 hsn hn)).mp q)
          obtain ⟨w1, w2⟩ := m_without (cf := cf) hn hds hsn
          rcases first_of (fun w => (zs R i).testBit w = true ∧ zu d w &&& zs R i = 0) n with hw | ⟨w, q1, q2, q3⟩
          · refine ⟨false, ⟨fun q => (by cases q), fun q => absurd q (zfree_none h0 (fun w hw1 hw2 => hw w (zbit_lt hsn hw1) ⟨hw1, hw2⟩))⟩, fun K cf'' hm => ?_⟩
            rw [ite_ff] at hm
            rw [L_X1_find_39, i_subs hR, if_neg (nI_ge hi (by omega)), if_neg hne, w2 hw, ob_sb, if_pos rfl, hm, ob_sb, hnx, ob_sb, nI_1]
          · have hsub : zsub (zdif (zs R i) (2 ^ w)) R := zsub_trans (zdif_sub _ _) s1
            have hlt : zdif (zs R i) (2 ^ w) < zs R i := zsub_lt (zdif_sub _ _) (fun e => by
              have := zdif_bit (zs R i) (2 ^ w) w
              rw [e, q2.1, zone_bit, decide_eq_true rfl] at this
              cases this)
            refine ⟨zfr cf (zdif (zs R i) (2 ^ w)), by rw [hinv _ hsub hlt, zfree_rem q2.2], fun K cf'' hm => ?_⟩
            rw [L_X1_find_39, i_subs hR, if_neg (nI_ge hi (by omega)), if_neg hne, w1 w q1 q2 q3, ob_sb]
            cases hz : zfr cf (zdif (zs R i) (2 ^ w)) with
            | false =>
              rw [hz, ite_ff] at hm
              rw [ite_ff, if_pos rfl, hm, ob_sb, hnx, ob_sb, nI_1]
            | true =>
              rw [hz, ite_tt] at hm
              rw [ite_tt, if_neg (by decide), hm, ob_sb, hnx, ob_sb, nI_1]
      obtain ⟨b, hb1, hb2⟩ := hb
      obtain ⟨cf1, hm1, hm2⟩ := m_mark (cf := cf) b hs14
      obtain ⟨g1, g2⟩ := zt_gap hR hi
      obtain ⟨cf', hc1, hc2⟩ := ih (i + 1) cf1 k (by omega) (by omega) (fun T hT hlt => by
        rw [hm2 T (zsub_lt2 hT hR)]
        by_cases e : T = zs R i
        · rw [if_pos e, e]; exact hb1
        · rw [if_neg e]
          rcases Nat.lt_or_ge T (zs R i) with q | q
          · exact hinv T hT q
          · exact absurd hT (g2 T (by omega) hlt))
      exact ⟨cf', hc1, fun K => by rw [hb2 K cf1 hm1]; exact hc2 K⟩
  obtain ⟨cf', h1, h2⟩ := key (2 ^ zpc R 14) 0 cf 20000 (by omega) (by have := subs_lt R; omega) (fun T _ hlt => by
    rw [zt_lo (Nat.two_pow_pos _)] at hlt
    exact absurd hlt (Nat.not_lt_zero T))
  refine ⟨cf', ?_, h1⟩
  unfold M_X1_find
  rw [m_all hn, ob_sb, bc_all hR, ob_sb, i_dif]
  exact h2 _
