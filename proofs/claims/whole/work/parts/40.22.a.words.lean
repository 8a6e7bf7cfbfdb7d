/-! the class's words: each mirror by its number -/
theorem m_all {n : Nat} (hn : n ≤ 14) : M_X3_all (nI n) = some (nI (2 ^ n - 1)) := by
  unfold M_X3_all
  rw [i_all (by omega)]
theorem m_has_no {n : Nat} {p : Int32} (h : p < 0 ∨ nI n ≤ p) : M_X3_has (nI n) p = some 0 := by
  unfold M_X3_has
  rcases h with h | h
  · rw [if_pos h]
  · by_cases g : p < 0
    · rw [if_pos g]
    · rw [if_neg g, if_pos h]
theorem m_has_yes {n j : Nat} (hn : n ≤ 14) (h : j < n) : M_X3_has (nI n) (nI j) = some 1 := by
  unfold M_X3_has
  rw [if_neg (nI_pos (by omega)), if_neg (nI_ge h (by omega))]
theorem m_hasAll {n x : Nat} (hn : n ≤ 14) (hx : x < 2 ^ 32) : M_X3_hasAll (nI n) (nI x) = some (if x < 2 ^ n then 1 else 0) := by
  unfold M_X3_hasAll
  rw [m_all hn]
  show (if nI x &&& (nI (2 ^ n - 1) ^^^ (-1)) = 0 then some 1 else some 0) = _
  rw [i_dif]
  have hz : zdif x (2 ^ n - 1) < 2 ^ 32 := zdif_lt hx
  by_cases h : x < 2 ^ n
  · rw [if_pos h, if_pos ((i_zero hz).mpr (zdif_zero.mpr (zsub_full.mpr h)))]
  · rw [if_neg h, if_neg (fun e => h (zsub_full.mp (zdif_zero.mp ((i_zero hz).mp e))))]
theorem m_isBare {F w : Nat} (hF : F < 2 ^ 14) (hw : w < 14) : M_X3_isBare (nI F) (nI w) = some (if F.testBit w then 0 else 1) := by
  unfold M_X3_isBare
  rw [i_bit (Nat.lt_trans hF (by decide)) (by omega)]
  cases F.testBit w <;> rfl
/-- an array filled from a on, up to i -/
def zfl (a i : Nat) (g f : Nat → Int32) : Nat → Int32 := fun j => if a ≤ j ∧ j < i then g j else f j
theorem zfl_0 (a : Nat) (g f : Nat → Int32) : zfl a a g f = f := by
  funext j
  unfold zfl
  rw [if_neg (by omega)]
theorem zfl_s {a i : Nat} (h : a ≤ i) (g f : Nat → Int32) : upd (zfl a i g f) i (g i) = zfl a (i + 1) g f := by
  funext j
  unfold upd zfl
  by_cases e : j = i
  · subst e
    rw [if_pos rfl, if_pos ⟨h, Nat.lt_succ_self j⟩]
  · rw [if_neg e]
    by_cases q : a ≤ j ∧ j < i
    · rw [if_pos q, if_pos ⟨q.1, by omega⟩]
    · rw [if_neg q, if_neg (by omega)]
theorem zfl_in {a i j : Nat} (h : a ≤ j) (h2 : j < i) (g f : Nat → Int32) : zfl a i g f j = g j := if_pos ⟨h, h2⟩
theorem zfl_out {a i j : Nat} (h : ¬ (a ≤ j ∧ j < i)) (g f : Nat → Int32) : zfl a i g f j = f j := if_neg h
theorem m_makeBare {F w : Nat} {ds : Nat → Int32} (hw : w < 14) : M_X3_makeBare (nI F) ds (nI w) = some (nI (zdif F (2 ^ w)), upd ds w 0) := by
  unfold M_X3_makeBare
  rw [if_neg (i_in hw (by decide)), i_cl (by omega), i_one (by omega), i_dif]
theorem m_setDefinition {F w : Nat} {ds : Nat → Int32} {p : Int32} (hw : w < 14) : M_X3_setDefinition (nI F) ds (nI w) p = some (nI (F ||| 2 ^ w), upd ds w p) := by
  unfold M_X3_setDefinition
  rw [if_neg (i_in hw (by decide)), i_cl (by omega), i_one (by omega), i_or]
/-- learning for a day -/
theorem m_nextDay {n F S : Nat} {d : Nat → Option Nat} {ds : Nat → Int32} (hn : n ≤ 14) (hd : zwf d n) (hds : ∀ i, i < 14 → ds i = nI (zu d i)) (hF : F < 2 ^ 14) (hFb : ∀ i, F.testBit i = (d i).isSome) :
    M_X3_nextDay (nI n) (nI F) ds (nI S) = some (nI (zaft d S n)) := by
  unfold M_X3_nextDay
  refine loop_seq (fun k (s : Int32 × Int32) => L_X3_nextDay_4 (nI n) (nI F) ds (nI S) _ k s.1 s.2) (fun i => (nI i, nI (zaft d S i))) n _ ?_ ?_ n 0 40 (by omega) (by omega)
  · intro k i hi
    show L_X3_nextDay_4 (nI n) (nI F) ds (nI S) _ (k + 1) (nI i) (nI (zaft d S i)) = L_X3_nextDay_4 (nI n) (nI F) ds (nI S) _ k (nI (i + 1)) (nI (zaft d S i ||| (if zlearn d S i then 2 ^ i else 0)))
    rw [L_X3_nextDay_4, if_neg (nI_ge hi (by omega)), m_isBare hF (by omega), hFb i, nI_1]
    cases hdi : d i with
    | none =>
      have hl : zlearn d S i = false := by unfold zlearn; rw [hdi]
      rw [hl, ite_ff, Nat.or_zero]
      rfl
    | some s =>
      have hz : zu d i = s := by unfold zu; rw [hdi]; rfl
      have hs : s < 2 ^ n := (hd i s hdi).2
      have hl : zlearn d S i = decide (zdif s S = 0) := by unfold zlearn; rw [hdi]
      rw [show (if (some s).isSome = true then (0 : Int32) else 1) = 0 from rfl, ob_sb, if_pos rfl, if_neg (i_in (by omega) (by decide)), i_cl (by omega), hds i (by omega), hz, i_dif, hl]
      by_cases h0 : zdif s S = 0
      · rw [if_pos ((i_zero (lt32 (zdif_lt hs) hn)).mpr h0), decide_eq_true h0, ite_tt, i_one (by omega), i_or]
      · rw [if_neg (fun e => h0 ((i_zero (lt32 (zdif_lt hs) hn)).mp e)), decide_eq_false h0, ite_ff, Nat.or_zero]
  · intro k
    show L_X3_nextDay_4 (nI n) (nI F) ds (nI S) _ (k + 1) (nI n) (nI (zaft d S n)) = _
    rw [L_X3_nextDay_4, if_pos (nI_le (Nat.le_refl n) (by omega))]
theorem m_groundedBy {n F S : Nat} {d : Nat → Option Nat} {ds : Nat → Int32} (hn : n ≤ 14) (hd : zwf d n) (hds : ∀ i, i < 14 → ds i = nI (zu d i)) (hF : F < 2 ^ 14) (hFb : ∀ i, F.testBit i = (d i).isSome) :
    M_X3_groundedBy (nI n) (nI F) ds (nI S) = some (nI (zday d n S n)) := by
  unfold M_X3_groundedBy
  refine loop_seq (fun k (s : Int32 × Int32) => L_X3_groundedBy_4 (nI n) (nI F) ds _ k s.1 s.2) (fun i => (nI i, nI (zday d n S i))) n _ ?_ ?_ n 0 40 (by omega) (by omega)
  · intro k i hi
    show L_X3_groundedBy_4 (nI n) (nI F) ds _ (k + 1) (nI i) (nI (zday d n S i)) = L_X3_groundedBy_4 (nI n) (nI F) ds _ k (nI (i + 1)) (nI (zaft d (zday d n S i) n))
    rw [L_X3_groundedBy_4, if_neg (nI_ge hi (by omega)), m_nextDay hn hd hds hF hFb, nI_1]
    rfl
  · intro k
    show L_X3_groundedBy_4 (nI n) (nI F) ds _ (k + 1) (nI n) (nI (zday d n S n)) = _
    rw [L_X3_groundedBy_4, if_pos (nI_le (Nat.le_refl n) (by omega))]
theorem m_daysTill {n F S W : Nat} {d : Nat → Option Nat} {ds : Nat → Int32} (hn : n ≤ 14) (hd : zwf d n) (hds : ∀ i, i < 14 → ds i = nI (zu d i)) (hF : F < 2 ^ 14) (hFb : ∀ i, F.testBit i = (d i).isSome) (hW : W < 2 ^ 14) :
    (∀ k, k ≤ n → zsub W (zday d n S k) → (∀ j, j < k → ¬ zsub W (zday d n S j)) → M_X3_daysTill (nI n) (nI F) ds (nI W) (nI S) = some (nI k)) ∧ ((∀ j, j ≤ n → ¬ zsub W (zday d n S j)) → M_X3_daysTill (nI n) (nI F) ds (nI W) (nI S) = some (-6)) := by
  have hstep : ∀ K k i, i ≤ n → ¬ zsub W (zday d n S i) → L_X3_daysTill_5 (nI n) (nI F) ds (nI W) K (k + 1) (nI i) (nI (zday d n S i)) = L_X3_daysTill_5 (nI n) (nI F) ds (nI W) K k (nI (i + 1)) (nI (zday d n S (i + 1))) := by
    intro K k i hi hn2
    rw [L_X3_daysTill_5, if_neg (nI_nlt hi (by omega)), i_dif, if_neg (fun e => hn2 (zdif_zero.mp ((i_zero (Nat.lt_trans (zdif_lt hW) (by decide))).mp e))), m_nextDay hn hd hds hF hFb, nI_1]
    rfl
  constructor
  · intro k hk hw hm
    unfold M_X3_daysTill
    refine loop_seq (fun k (s : Int32 × Int32) => L_X3_daysTill_5 (nI n) (nI F) ds (nI W) _ k s.1 s.2) (fun i => (nI i, nI (zday d n S i))) k _ (fun k' i hi => hstep _ k' i (by omega) (hm i hi)) (fun k' => ?_) k 0 40 (by omega) (by omega)
    show L_X3_daysTill_5 (nI n) (nI F) ds (nI W) _ (k' + 1) (nI k) (nI (zday d n S k)) = _
    rw [L_X3_daysTill_5, if_neg (nI_nlt hk (by omega)), i_dif, if_pos ((i_zero (Nat.lt_trans (zdif_lt hW) (by decide))).mpr (zdif_zero.mpr hw))]
  · intro hm
    unfold M_X3_daysTill
    refine loop_seq (fun k (s : Int32 × Int32) => L_X3_daysTill_5 (nI n) (nI F) ds (nI W) _ k s.1 s.2) (fun i => (nI i, nI (zday d n S i))) (n + 1) _ (fun k' i hi => hstep _ k' i (by omega) (hm i (by omega))) (fun k' => ?_) (n + 1) 0 40 (by omega) (by omega)
    show L_X3_daysTill_5 (nI n) (nI F) ds (nI W) _ (k' + 1) (nI (n + 1)) (nI (zday d n S (n + 1))) = _
    rw [L_X3_daysTill_5, if_pos (nI_lt (Nat.lt_succ_self n) (by omega))]
/-- who uses a word -/
def zusr (d : Nat → Option Nat) (w : Nat) : Nat → Nat
  | 0 => 0
  | i + 1 => zusr d w i ||| (if (zu d i).testBit w then 2 ^ i else 0)
theorem m_usersOf {n w : Nat} {d : Nat → Option Nat} {ds : Nat → Int32} (hn : n ≤ 14) (hd : zwf d n) (hds : ∀ i, i < 14 → ds i = nI (zu d i)) (hw : w < 14) : M_X3_usersOf (nI n) ds (nI w) = some (nI (zusr d w n)) := by
  unfold M_X3_usersOf
  refine loop_seq (fun k (s : Int32 × Int32) => L_X3_usersOf_4 (nI n) ds (nI w) _ k s.1 s.2) (fun i => (nI i, nI (zusr d w i))) n _ ?_ ?_ n 0 40 (by omega) (by omega)
  · intro k i hi
    show L_X3_usersOf_4 (nI n) ds (nI w) _ (k + 1) (nI i) (nI (zusr d w i)) = L_X3_usersOf_4 (nI n) ds (nI w) _ k (nI (i + 1)) (nI (zusr d w i ||| (if (zu d i).testBit w then 2 ^ i else 0)))
    rw [L_X3_usersOf_4, if_neg (nI_ge hi (by omega)), if_neg (i_in (by omega) (by decide)), i_cl (by omega), hds i (by omega), i_bit (lt31 (zu_lt hd i) hn) (by omega), nI_1]
    cases (zu d i).testBit w with
    | true => rw [ite_tt, ite_tt, i_one (by omega), i_or]
    | false =>
      rw [ite_ff, ite_ff, Nat.or_zero]
      have : (0 : Int32) <<< (nI i &&& 31) = 0 := (by decide +kernel : ∀ i, i < 14 → (0 : Int32) <<< (nI i &&& 31) = 0) i (by omega)
      rw [this, i_or0]
  · intro k
    show L_X3_usersOf_4 (nI n) ds (nI w) _ (k + 1) (nI n) (nI (zusr d w n)) = _
    rw [L_X3_usersOf_4, if_pos (nI_le (Nat.le_refl n) (by omega))]
def zused (d : Nat → Option Nat) : Nat → Nat
  | 0 => 0
  | i + 1 => zused d i ||| zu d i
theorem m_used {n : Nat} {d : Nat → Option Nat} {ds : Nat → Int32} (hn : n ≤ 14) (hds : ∀ i, i < 14 → ds i = nI (zu d i)) : M_X3_used (nI n) ds = some (nI (zused d n)) := by
  unfold M_X3_used
  refine loop_seq (fun k (s : Int32 × Int32) => L_X3_used_4 (nI n) ds _ k s.1 s.2) (fun i => (nI i, nI (zused d i))) n _ ?_ ?_ n 0 40 (by omega) (by omega)
  · intro k i hi
    show L_X3_used_4 (nI n) ds _ (k + 1) (nI i) (nI (zused d i)) = L_X3_used_4 (nI n) ds _ k (nI (i + 1)) (nI (zused d i ||| zu d i))
    rw [L_X3_used_4, if_neg (nI_ge hi (by omega)), if_neg (i_in (by omega) (by decide)), i_cl (by omega), hds i (by omega), i_or, nI_1]
  · intro k
    show L_X3_used_4 (nI n) ds _ (k + 1) (nI n) (nI (zused d n)) = _
    rw [L_X3_used_4, if_pos (nI_le (Nat.le_refl n) (by omega))]
def zoft (d : Nat → Option Nat) : Nat → Nat
  | 0 => 0
  | i + 1 => zoft d i + zpc (zu d i) 14
theorem m_howOften {n : Nat} {d : Nat → Option Nat} {ds : Nat → Int32} (hn : n ≤ 14) (hd : zwf d n) (hds : ∀ i, i < 14 → ds i = nI (zu d i)) : M_X3_howOftenUsed (nI n) ds = some (nI (zoft d n)) := by
  unfold M_X3_howOftenUsed
  refine loop_seq (fun k (s : Int32 × Int32) => L_X3_howOftenUsed_4 (nI n) ds _ k s.1 s.2) (fun i => (nI i, nI (zoft d i))) n _ ?_ ?_ n 0 40 (by omega) (by omega)
  · intro k i hi
    show L_X3_howOftenUsed_4 (nI n) ds _ (k + 1) (nI i) (nI (zoft d i)) = L_X3_howOftenUsed_4 (nI n) ds _ k (nI (i + 1)) (nI (zoft d i + zpc (zu d i) 14))
    rw [L_X3_howOftenUsed_4, if_neg (nI_ge hi (by omega)), if_neg (i_in (by omega) (by decide)), i_cl (by omega), hds i (by omega), bc_all (lt14 (zu_lt hd i) hn), nI_1]
    show L_X3_howOftenUsed_4 (nI n) ds _ k (nI (i + 1)) (nI (zoft d i) + nI (zpc (zu d i) 14)) = _
    rw [nI_add]
  · intro k
    show L_X3_howOftenUsed_4 (nI n) ds _ (k + 1) (nI n) (nI (zoft d n)) = _
    rw [L_X3_howOftenUsed_4, if_pos (nI_le (Nat.le_refl n) (by omega))]
theorem m_costOf {n S : Nat} {c : Nat → Nat} {cs : Nat → Int32} (hn : n ≤ 14) (hcs : ∀ i, i < 14 → cs i = nI (c i)) (hS : S < 2 ^ 31) : M_X3_costOf (nI n) cs (nI S) = some (nI (zcost c S n)) := by
  unfold M_X3_costOf
  refine loop_seq (fun k (s : Int32 × Int32) => L_X3_costOf_4 (nI n) cs (nI S) _ k s.1 s.2) (fun i => (nI i, nI (zcost c S i))) n _ ?_ ?_ n 0 40 (by omega) (by omega)
  · intro k i hi
    show L_X3_costOf_4 (nI n) cs (nI S) _ (k + 1) (nI i) (nI (zcost c S i)) = L_X3_costOf_4 (nI n) cs (nI S) _ k (nI (i + 1)) (nI (zcost c S i + (if S.testBit i then c i else 0)))
    rw [L_X3_costOf_4, if_neg (nI_ge hi (by omega)), nI_1]
    cases hb : S.testBit i with
    | false => rw [if_pos ((i_bit0 hS (by omega)).mpr hb)]; rfl
    | true => rw [if_neg (fun e => by rw [(i_bit0 hS (by omega)).mp e] at hb; cases hb), if_neg (i_in (by omega) (by decide)), i_cl (by omega), hcs i (by omega), nI_add]; rfl
  · intro k
    show L_X3_costOf_4 (nI n) cs (nI S) _ (k + 1) (nI n) (nI (zcost c S n)) = _
    rw [L_X3_costOf_4, if_pos (nI_le (Nat.le_refl n) (by omega))]
theorem m_usedByAny {n S : Nat} {d : Nat → Option Nat} {ds : Nat → Int32} (hn : n ≤ 14) (hds : ∀ i, i < 14 → ds i = nI (zu d i)) (hS : S < 2 ^ 31) : M_X3_usedByAny (nI n) ds (nI S) = some (nI (zst d S n)) := by
  unfold M_X3_usedByAny
  refine loop_seq (fun k (s : Int32 × Int32) => L_X3_usedByAny_4 (nI n) ds (nI S) _ k s.1 s.2) (fun i => (nI i, nI (zst d S i))) n _ ?_ ?_ n 0 40 (by omega) (by omega)
  · intro k i hi
    show L_X3_usedByAny_4 (nI n) ds (nI S) _ (k + 1) (nI i) (nI (zst d S i)) = L_X3_usedByAny_4 (nI n) ds (nI S) _ k (nI (i + 1)) (nI (zst d S i ||| (if S.testBit i then zu d i else 0)))
    rw [L_X3_usedByAny_4, if_neg (nI_ge hi (by omega)), nI_1]
    cases hb : S.testBit i with
    | false => rw [if_pos ((i_bit0 hS (by omega)).mpr hb), ite_ff, Nat.or_zero]
    | true => rw [if_neg (fun e => by rw [(i_bit0 hS (by omega)).mp e] at hb; cases hb), if_neg (i_in (by omega) (by decide)), i_cl (by omega), hds i (by omega), i_or, ite_tt]
  · intro k
    show L_X3_usedByAny_4 (nI n) ds (nI S) _ (k + 1) (nI n) (nI (zst d S n)) = _
    rw [L_X3_usedByAny_4, if_pos (nI_le (Nat.le_refl n) (by omega))]
theorem zX_or (d : Nat → Option Nat) (n a k : Nat) : zX d n a (k + 1) ||| zst d (zX d n a (k + 1)) n = zX d n a (k + 2) := by
  refine Nat.eq_of_testBit_eq fun i => ?_
  have h1 : zX d n a (k + 2) = zu d a ||| zst d (zX d n a (k + 1)) n := rfl
  have h2 := zX_step d n a (k + 1) i
  rw [Nat.testBit_or]
  cases hx : (zX d n a (k + 1)).testBit i with
  | true => rw [h2 hx]; rfl
  | false =>
    rw [h1, Nat.testBit_or]
    have h3 : (zu d a).testBit i = false := by
      have h4 : zX d n a (k + 1) = zu d a ||| zst d (zX d n a k) n := rfl
      rw [h4, Nat.testBit_or, Bool.or_eq_false_iff] at hx
      exact hx.1
    rw [h3]
/-- the shortest way -/
theorem m_steps {n a b : Nat} {d : Nat → Option Nat} {ds : Nat → Int32} (hn : n ≤ 14) (hd : zwf d n) (hds : ∀ i, i < 14 → ds i = nI (zu d i)) (ha : a < n) (hb : b < n) :
    (∀ k, k < n → (zX d n a (k + 1)).testBit b = true → (∀ j, j < k → (zX d n a (j + 1)).testBit b = false) → M_X3_stepsBetween (nI n) ds (nI a) (nI b) = some (nI (k + 1))) ∧ ((∀ j, j < n → (zX d n a (j + 1)).testBit b = false) → M_X3_stepsBetween (nI n) ds (nI a) (nI b) = some (-6)) := by
  have h1 : zX d n a 1 = zu d a := by
    show zu d a ||| zst d 0 n = zu d a
    have : zst d 0 n = 0 := zero_of_bits fun i => by
      cases h : (zst d 0 n).testBit i with
      | false => rfl
      | true => obtain ⟨w, -, g, -⟩ := (zst_bit d 0 n i).mp h; rw [Nat.zero_testBit] at g; cases g
    rw [this, Nat.or_zero]
  have hstep : ∀ K k i, i < n → (zX d n a (i + 1)).testBit b = false → L_X3_stepsBetween_10 (nI n) ds (nI b) K (k + 1) (nI (i + 1)) (nI (zX d n a (i + 1))) = L_X3_stepsBetween_10 (nI n) ds (nI b) K k (nI (i + 1 + 1)) (nI (zX d n a (i + 1 + 1))) := by
    intro K k i hi h0
    have hlt := lt31 (zX_lt hd a (i + 1)) hn
    rw [L_X3_stepsBetween_10, if_neg (nI_nlt (by omega) (by omega)), if_pos ((i_bit0 hlt (by omega)).mpr h0), m_usedByAny hn hds hlt, nI_1]
    show L_X3_stepsBetween_10 (nI n) ds (nI b) K k (nI (i + 1 + 1)) (nI (zX d n a (i + 1)) ||| nI (zst d (zX d n a (i + 1)) n)) = _
    rw [i_or, zX_or]
  have h0 : M_X3_stepsBetween (nI n) ds (nI a) (nI b) = L_X3_stepsBetween_10 (nI n) ds (nI b) (fun _ _ => some (-6)) 40 (nI (0 + 1)) (nI (zX d n a (0 + 1))) := by
    unfold M_X3_stepsBetween
    rw [if_neg (i_in (by omega) (by decide)), i_cl (by omega), hds a (by omega), h1]
    rfl
  constructor
  · intro k hk hw hm
    rw [h0]
    refine loop_seq (fun k (s : Int32 × Int32) => L_X3_stepsBetween_10 (nI n) ds (nI b) (fun _ _ => some (-6)) k s.1 s.2) (fun i => (nI (i + 1), nI (zX d n a (i + 1)))) k _ (fun k' i hi => hstep _ k' i (by omega) (hm i hi)) (fun k' => ?_) k 0 40 (by omega) (by omega)
    show L_X3_stepsBetween_10 (nI n) ds (nI b) _ (k' + 1) (nI (k + 1)) (nI (zX d n a (k + 1))) = _
    rw [L_X3_stepsBetween_10, if_neg (nI_nlt (by omega) (by omega)), if_neg (fun e => by rw [(i_bit0 (lt31 (zX_lt hd a (k + 1)) hn) (by omega)).mp e] at hw; cases hw)]
  · intro hm
    rw [h0]
    refine loop_seq (fun k (s : Int32 × Int32) => L_X3_stepsBetween_10 (nI n) ds (nI b) (fun _ _ => some (-6)) k s.1 s.2) (fun i => (nI (i + 1), nI (zX d n a (i + 1)))) n _ (fun k' i hi => hstep _ k' i hi (hm i hi)) (fun k' => ?_) n 0 40 (by omega) (by omega)
    show L_X3_stepsBetween_10 (nI n) ds (nI b) _ (k' + 1) (nI (n + 1)) (nI (zX d n a (n + 1))) = _
    rw [L_X3_stepsBetween_10, if_pos (nI_lt (by omega) (by omega))]
/-- resizing and copying -/
theorem m_resize {n K F : Nat} {cs ds : Nat → Int32} (hn : 1 ≤ n) (hn2 : n ≤ 14) : ∃ F' cs' ds', M_X3_resize (nI K) (nI F) cs ds (nI n) = some (nI n, nI (K &&& (2 ^ n - 1)), nI F', cs', ds') ∧ (∀ i, i < 14 → F'.testBit i = (decide (i < n) && F.testBit i)) ∧ (∀ i, 14 ≤ i → F'.testBit i = F.testBit i) ∧ (∀ i, i < 14 → cs' i = if i < n then cs i else 1) ∧ (∀ i, i < 14 → ds' i = if i < n then ds i &&& nI (2 ^ n - 1) else 0) := by
  obtain ⟨Fs, hFs⟩ : ∃ f : Nat → Nat, f = fun i => (List.range (i - n)).foldl (fun x j => zdif x (2 ^ (n + j))) F := ⟨_, rfl⟩
  have hF0 : Fs n = F := by rw [hFs]; simp
  have hFS : ∀ i, n ≤ i → Fs (i + 1) = zdif (Fs i) (2 ^ i) := fun i hi => by
    rw [hFs]
    show (List.range (i + 1 - n)).foldl _ F = _
    rw [show i + 1 - n = (i - n) + 1 by omega, List.range_succ, List.foldl_append]
    show zdif _ (2 ^ (n + (i - n))) = _
    rw [show n + (i - n) = i by omega]
  have hFb : ∀ m i, m ≤ 14 → n ≤ m → (Fs m).testBit i = (F.testBit i && !(decide (n ≤ i) && decide (i < m))) := by
    intro m
    induction m with
    | zero => intro i _ h; omega
    | succ m ih =>
      intro i h1 h2
      by_cases e : n = m + 1
      · rw [← e, hF0, show (decide (n ≤ i) && decide (i < n)) = false by
          by_cases q : n ≤ i
          · rw [decide_eq_false (by omega : ¬ i < n), Bool.and_false]
          · rw [decide_eq_false q]; rfl]
        simp
      · rw [hFS m (by omega), zdif_bit, ih i (by omega) (by omega), zone_bit]
        by_cases q : m = i
        · subst q
          rw [decide_eq_true rfl, decide_eq_true (by omega : n ≤ m), decide_eq_true (by omega : m < m + 1)]
          simp
        · rw [decide_eq_false q]
          have : decide (i < m + 1) = decide (i < m) := by
            by_cases g : i < m
            · rw [decide_eq_true g, decide_eq_true (by omega)]
            · rw [decide_eq_false g, decide_eq_false (by omega)]
          rw [this]; simp
  refine ⟨Fs 14, zfl n 14 (fun _ => 1) cs, zfl n 14 (fun _ => 0) (zfl 0 n (fun j => ds j &&& nI (2 ^ n - 1)) ds), ?_, fun i hi => ?_, fun i hi => ?_, fun i hi => ?_, fun i hi => ?_⟩
  · unfold M_X3_resize
    rw [m_all hn2]
    show L_X3_resize_20 (nI n) _ 40 0 ds = _
    refine loop_seq (fun k (s : Int32 × (Nat → Int32)) => L_X3_resize_20 (nI n) _ k s.1 s.2) (fun i => (nI i, zfl 0 i (fun j => ds j &&& nI (2 ^ n - 1)) ds)) n _ ?_ ?_ n 0 40 (by omega) (by omega)
    · intro k i hi
      show L_X3_resize_20 (nI n) _ (k + 1) (nI i) (zfl 0 i (fun j => ds j &&& nI (2 ^ n - 1)) ds) = L_X3_resize_20 (nI n) _ k (nI (i + 1)) (zfl 0 (i + 1) (fun j => ds j &&& nI (2 ^ n - 1)) ds)
      rw [L_X3_resize_20, if_neg (nI_ge hi (by omega)), if_neg (i_in (by omega) (by decide)), m_all hn2]
      show (if nI i < 0 ∨ 14 ≤ (nI i).toNatClampNeg then none else _) = _
      rw [if_neg (i_in (by omega) (by decide)), i_cl (by omega), nI_1, zfl_out (by omega : ¬ (0 ≤ i ∧ i < i)), ← zfl_s (Nat.zero_le i)]
    · intro k
      show L_X3_resize_20 (nI n) _ (k + 1) (nI n) _ = _
      rw [L_X3_resize_20, if_pos (nI_le (Nat.le_refl n) (by omega))]
      show L_X3_resize_46 _ 40 (nI n) (nI F) cs _ = _
      have hcs0 : cs = zfl n n (fun _ => 1) cs := (zfl_0 n _ cs).symm
      have h0 : L_X3_resize_46 (fun (v2_46 : Int32) (w_f_46 : Int32) (w_cs_46 : Nat → Int32) (w_ds_46 : Nat → Int32) => some (nI n, (nI K &&& nI (2 ^ n - 1)), w_f_46, w_cs_46, w_ds_46)) 40 (nI n) (nI (Fs n)) (zfl n n (fun _ => 1) cs) (zfl n n (fun _ => 0) (zfl 0 n (fun j => ds j &&& nI (2 ^ n - 1)) ds)) = some (nI n, nI (K &&& (2 ^ n - 1)), nI (Fs 14), zfl n 14 (fun _ => 1) cs, zfl n 14 (fun _ => 0) (zfl 0 n (fun j => ds j &&& nI (2 ^ n - 1)) ds)) := by
        refine loop_seq (fun k (s : Int32 × Int32 × (Nat → Int32) × (Nat → Int32)) => L_X3_resize_46 _ k s.1 s.2.1 s.2.2.1 s.2.2.2) (fun i => (nI (n + i), nI (Fs (n + i)), zfl n (n + i) (fun _ => 1) cs, zfl n (n + i) (fun _ => 0) (zfl 0 n (fun j => ds j &&& nI (2 ^ n - 1)) ds))) (14 - n) _ ?_ ?_ (14 - n) 0 40 (by omega) (by omega)
        · intro k i' hi'
          obtain ⟨i, hie⟩ : ∃ i, i = n + i' := ⟨_, rfl⟩
          have hi : i < 14 := by omega
          have hin : n ≤ i := by omega
          show L_X3_resize_46 _ (k + 1) (nI (n + i')) (nI (Fs (n + i'))) (zfl n (n + i') (fun _ => 1) cs) (zfl n (n + i') (fun _ => 0) (zfl 0 n (fun j => ds j &&& nI (2 ^ n - 1)) ds)) = L_X3_resize_46 _ k (nI (n + i' + 1)) (nI (Fs (n + i' + 1))) (zfl n (n + i' + 1) (fun _ => 1) cs) (zfl n (n + i' + 1) (fun _ => 0) (zfl 0 n (fun j => ds j &&& nI (2 ^ n - 1)) ds))
          rw [← hie]
          rw [L_X3_resize_46, if_neg (n14 hi), m_makeBare hi]
          show (if nI i < 0 ∨ 14 ≤ (nI i).toNatClampNeg then none else _) = _
          rw [if_neg (i_in hi (by decide)), i_cl (by omega), nI_1, hFS i hin, ← zfl_s hin (fun _ => 1) cs, ← zfl_s hin (fun _ => 0)]
        · intro k
          show L_X3_resize_46 _ (k + 1) (nI (n + (14 - n))) (nI (Fs (n + (14 - n)))) (zfl n (n + (14 - n)) (fun _ => 1) cs) (zfl n (n + (14 - n)) (fun _ => 0) _) = _
          rw [show n + (14 - n) = 14 by omega]
          rw [L_X3_resize_46, if_pos l14, i_and]
      rw [hF0, zfl_0, zfl_0] at h0
      exact h0
  · rw [hFb 14 i (Nat.le_refl 14) hn2]
    by_cases q : i < n
    · rw [decide_eq_true q, decide_eq_false (by omega : ¬ n ≤ i)]; simp
    · rw [decide_eq_false q, decide_eq_true (by omega : n ≤ i), decide_eq_true hi]; simp
  · rw [hFb 14 i (Nat.le_refl 14) hn2, decide_eq_false (by omega : ¬ i < 14)]; simp
  · by_cases q : i < n
    · rw [if_pos q, zfl_out (by omega)]
    · rw [if_neg q, zfl_in (by omega) hi]
  · by_cases q : i < n
    · rw [if_pos q, zfl_out (by omega), zfl_in (Nat.zero_le i) q]
    · rw [if_neg q, zfl_in (by omega) hi]
theorem m_copyFrom {wcs wds ocs ods : Nat → Int32} {t k f : Int32} : ∃ cs' ds', M_X3_copyFrom wcs wds t k f ocs ods = some (t, k, f, cs', ds') ∧ (∀ i, i < 14 → cs' i = ocs i) ∧ (∀ i, i < 14 → ds' i = ods i) := by
  refine ⟨zfl 0 14 ocs wcs, zfl 0 14 ods wds, ?_, fun i hi => zfl_in (Nat.zero_le i) hi _ _, fun i hi => zfl_in (Nat.zero_le i) hi _ _⟩
  unfold M_X3_copyFrom
  have h0 : L_X3_copyFrom_26 ocs ods (fun (v2_26 : Int32) (w_cs_26 : Nat → Int32) (w_ds_26 : Nat → Int32) => some (t, k, f, w_cs_26, w_ds_26)) 40 (nI 0) (zfl 0 0 ocs wcs) (zfl 0 0 ods wds) = some (t, k, f, zfl 0 14 ocs wcs, zfl 0 14 ods wds) := by
    refine loop_seq (fun k (s : Int32 × (Nat → Int32) × (Nat → Int32)) => L_X3_copyFrom_26 ocs ods _ k s.1 s.2.1 s.2.2) (fun i => (nI i, zfl 0 i ocs wcs, zfl 0 i ods wds)) 14 _ ?_ ?_ 14 0 40 (by omega) (by omega)
    · intro k i hi
      show L_X3_copyFrom_26 ocs ods _ (k + 1) (nI i) (zfl 0 i ocs wcs) (zfl 0 i ods wds) = L_X3_copyFrom_26 ocs ods _ k (nI (i + 1)) (zfl 0 (i + 1) ocs wcs) (zfl 0 (i + 1) ods wds)
      rw [L_X3_copyFrom_26, if_neg (n14 hi), if_neg (i_in hi (by decide)), if_neg (i_in hi (by decide)), if_neg (i_in hi (by decide)), if_neg (i_in hi (by decide)), i_cl (by omega), nI_1, zfl_s (Nat.zero_le i), zfl_s (Nat.zero_le i)]
    · intro k
      show L_X3_copyFrom_26 ocs ods _ (k + 1) (nI 14) _ _ = _
      rw [L_X3_copyFrom_26, if_pos l14]
  rw [zfl_0, zfl_0] at h0
  exact h0
