/-! the model: each mirror by its number -/
def zm (d : Nat → Option Nat) (i : Nat) : Int32 := match d i with
  | none => -6
  | some s => nI s
theorem zm_none {d : Nat → Option Nat} {i : Nat} (h : d i = none) : zm d i = -6 := by unfold zm; rw [h]
theorem zm_some {d : Nat → Option Nat} {i s : Nat} (h : d i = some s) : zm d i = nI s := by unfold zm; rw [h]
theorem zu_none {d : Nat → Option Nat} {i : Nat} (h : d i = none) : zu d i = 0 := by unfold zu; rw [h]; rfl
theorem zu_some {d : Nat → Option Nat} {i s : Nat} (h : d i = some s) : zu d i = s := by unfold zu; rw [h]; rfl
theorem neg6 : (-6 : Int32) < 0 := by decide
theorem m5_isWord_no {n : Nat} {p : Int32} (hn : 1 ≤ n) (hn2 : n ≤ 14) (h : p < 0 ∨ nI n ≤ p) : M_X5_isWord p (nI n) = some 0 := by
  unfold M_X5_isWord M_X5_in
  by_cases g : p < 0
  · rw [if_pos g]; rfl
  · have h2 : nI n ≤ p := by
      rcases h with h | h
      · exact absurd h g
      · exact h
    obtain ⟨j, hj, rfl⟩ := nI_of g
    have h3 : n ≤ j := (nI_leI (by omega) hj).mp h2
    have h4 : nI n - 1 < nI j := by
      rw [show nI n - 1 = nI (n - 1) from pk_sub (b := 1) hn]
      exact nI_lt (by omega) hj
    rw [if_neg g, if_pos h4]; rfl
theorem m5_isWord_yes {n j : Nat} (hn2 : n ≤ 14) (h : j < n) : M_X5_isWord (nI j) (nI n) = some 1 := by
  unfold M_X5_isWord M_X5_in
  have h4 : ¬ nI n - 1 < nI j := by
    rw [show nI n - 1 = nI (n - 1) from pk_sub (b := 1) (by omega)]
    exact nI_nlt (by omega) (by omega)
  rw [if_neg (nI_pos (by omega)), if_neg h4]; rfl
theorem m5_all {n : Nat} (hn : n ≤ 14) : M_X5_all (nI n) = some (nI (2 ^ n - 1)) := by
  unfold M_X5_all
  rw [i_all (by omega)]
theorem i_neg {x : Nat} (hx : x < 2 ^ 32) (h : 2 ^ 31 ≤ x) : nI x < 0 := by
  have h1 : ¬ ¬ nI x < 0 := fun g => by
    obtain ⟨j, hj, e⟩ := nI_of g
    have := (i_eq hx (by omega)).mp e
    omega
  exact Classical.not_not.mp h1
theorem m5_isSet {n x : Nat} (hn : n ≤ 14) (hx : x < 2 ^ 32) : M_X5_isSet (nI x) (nI n) = some (if x < 2 ^ n then 1 else 0) := by
  have hp := p14 hn
  have hp1 := Nat.two_pow_pos n
  unfold M_X5_isSet
  rw [m5_all hn, ob_sb]
  unfold M_X5_in
  by_cases g : 2 ^ 31 ≤ x
  · rw [if_pos (i_neg hx g), if_neg (by omega : ¬ x < 2 ^ n)]; rfl
  · rw [if_neg (nI_pos (by omega))]
    by_cases h : x < 2 ^ n
    · rw [if_neg (nI_nlt (by omega) (by omega)), if_pos h]; rfl
    · rw [if_pos (nI_lt (by omega) (by omega)), if_neg h]; rfl
theorem m5_has {S w : Nat} (hS : S < 2 ^ 31) (hw : w < 32) : M_X5_has (nI S) (nI w) = some (if S.testBit w then 1 else 0) := by
  unfold M_X5_has
  rw [i_bit hS hw]
  cases S.testBit w <;> rfl
theorem m5_bits {S : Nat} (hS : S < 2 ^ 31) : M_X5_bits (nI S) = some (nI (zpc S 14)) := by
  unfold M_X5_bits
  refine loop_seq (fun k (s : Int32 × Int32) => L_X5_bits_4 (nI S) _ k s.1 s.2) (fun i => (nI i, nI (zpc S i))) 14 _ ?_ ?_ 14 0 40 (by omega) (by omega)
  · intro k i hi
    show L_X5_bits_4 (nI S) _ (k + 1) (nI i) (nI (zpc S i)) = L_X5_bits_4 (nI S) _ k (nI (i + 1)) (nI (zpc S i + (if S.testBit i then 1 else 0)))
    rw [L_X5_bits_4, if_neg (n14 hi), i_bit hS (by omega), nI_1]
    cases S.testBit i with
    | false => rw [ite_ff, ite_ff, i_add0]; rfl
    | true => rw [ite_tt, ite_tt, nI_1]
  · intro k
    show L_X5_bits_4 (nI S) _ (k + 1) (nI 14) _ = _
    rw [L_X5_bits_4, if_pos l14]
theorem m5_after {n S : Nat} {d : Nat → Option Nat} {md : Nat → Int32} (hn : n ≤ 14) (hd : zwf d n) (hmd : ∀ i, i < 14 → md i = zm d i) : M_X5_after (nI S) (nI n) md = some (nI (zaft d S n)) := by
  unfold M_X5_after
  refine loop_seq (fun k (s : Int32 × Int32) => L_X5_after_4 (nI S) (nI n) md _ k s.1 s.2) (fun i => (nI i, nI (zaft d S i))) n _ ?_ ?_ n 0 40 (by omega) (by omega)
  · intro k i hi
    show L_X5_after_4 (nI S) (nI n) md _ (k + 1) (nI i) (nI (zaft d S i)) = L_X5_after_4 (nI S) (nI n) md _ k (nI (i + 1)) (nI (zaft d S i ||| (if zlearn d S i then 2 ^ i else 0)))
    rw [L_X5_after_4, if_neg (nI_ge hi (by omega)), if_neg (i_in (by omega) (by decide)), if_neg (i_in (by omega) (by decide)), i_cl (by omega), hmd i (by omega), nI_1, i_or0]
    cases hdi : d i with
    | none =>
      have hl : zlearn d S i = false := by unfold zlearn; rw [hdi]
      rw [hl, ite_ff, Nat.or_zero, zm_none hdi, if_pos neg6]
    | some s =>
      have hs : s < 2 ^ n := (hd i s hdi).2
      have hl : zlearn d S i = decide (zdif s S = 0) := by unfold zlearn; rw [hdi]
      rw [zm_some hdi, if_neg (nI_pos (lt31 hs hn)), i_dif, hl]
      by_cases h0 : zdif s S = 0
      · rw [if_pos ((i_zero (lt32 (zdif_lt hs) hn)).mpr h0), decide_eq_true h0, ite_tt, i_one (by omega), i_or]
      · rw [if_neg (fun e => h0 ((i_zero (lt32 (zdif_lt hs) hn)).mp e)), decide_eq_false h0, ite_ff, Nat.or_zero]
  · intro k
    show L_X5_after_4 (nI S) (nI n) md _ (k + 1) (nI n) _ = _
    rw [L_X5_after_4, if_pos (nI_le (Nat.le_refl n) (by omega))]
theorem m5_knownOn {n S k : Nat} {d : Nat → Option Nat} {md : Nat → Int32} (hn : n ≤ 14) (hd : zwf d n) (hmd : ∀ i, i < 14 → md i = zm d i) (hk : k ≤ 30) : M_X5_knownOn (nI S) (nI k) (nI n) md = some (nI (zday d n S k)) := by
  unfold M_X5_knownOn
  refine loop_seq (fun f (s : Int32 × Int32) => L_X5_knownOn_5 (nI k) (nI n) md _ f s.1 s.2) (fun i => (nI i, nI (zday d n S i))) k _ ?_ ?_ k 0 40 (by omega) (by omega)
  · intro f i hi
    show L_X5_knownOn_5 (nI k) (nI n) md _ (f + 1) (nI i) (nI (zday d n S i)) = L_X5_knownOn_5 (nI k) (nI n) md _ f (nI (i + 1)) (nI (zaft d (zday d n S i) n))
    rw [L_X5_knownOn_5, if_neg (nI_ge hi (by omega)), m5_after hn hd hmd, nI_1]
    rfl
  · intro f
    show L_X5_knownOn_5 (nI k) (nI n) md _ (f + 1) (nI k) _ = _
    rw [L_X5_knownOn_5, if_pos (nI_le (Nat.le_refl k) (by omega))]
theorem m5_known14 {n S : Nat} {d : Nat → Option Nat} {md : Nat → Int32} (hn : n ≤ 14) (hd : zwf d n) (hmd : ∀ i, i < 14 → md i = zm d i) (hS : S < 2 ^ n) : M_X5_knownOn (nI S) 14 (nI n) md = some (nI (zday d n S n)) := by
  have := m5_knownOn (S := S) (k := 14) hn hd hmd (by omega)
  rw [zday_rest hS 14 hn] at this
  exact this
/-- the day, from the last on back -/
def zfd (d : Nat → Option Nat) (n S w : Nat) : Nat → Int32
  | 0 => -6
  | i + 1 => if (zday d n S (14 - i)).testBit w then nI (14 - i) else zfd d n S w i
def zdn (i : Nat) : Int32 := if i ≤ 14 then nI (14 - i) else -1
theorem m5_dayL {n S w : Nat} {d : Nat → Option Nat} {md : Nat → Int32} (hn : n ≤ 14) (hd : zwf d n) (hmd : ∀ i, i < 14 → md i = zm d i) (hS : S < 2 ^ n) (hw : w < n) : L_X5_day_28 (nI w) (nI S) (nI n) md (fun (v4_28 : Int32) (v3_28 : Int32) => some v3_28) 40 14 (-6) = some (zfd d n S w 15) := by
  refine loop_seq (fun k (s : Int32 × Int32) => L_X5_day_28 (nI w) (nI S) (nI n) md _ k s.1 s.2) (fun i => (zdn i, zfd d n S w i)) 15 _ ?_ ?_ 15 0 40 (by omega) (by omega)
  · intro k i hi
    show L_X5_day_28 (nI w) (nI S) (nI n) md _ (k + 1) (zdn i) (zfd d n S w i) = L_X5_day_28 (nI w) (nI S) (nI n) md _ k (zdn (i + 1)) (zfd d n S w (i + 1))
    have e1 : zdn i = nI (14 - i) := if_pos (by omega)
    have e2 : nI (14 - i) + (-1) = zdn (i + 1) := by
      unfold zdn
      by_cases h : i + 1 ≤ 14
      · rw [if_pos h, show 14 - i = (14 - (i + 1)) + 1 by omega]; exact pk_m1 _
      · rw [if_neg h, show 14 - i = 0 by omega]; rfl
    have e3 : zfd d n S w (i + 1) = if (zday d n S (14 - i)).testBit w then nI (14 - i) else zfd d n S w i := rfl
    rw [e1, L_X5_day_28, if_neg (nI_pos (by omega)), m5_knownOn hn hd hmd (by omega), ob_sb, m5_has (lt31 (zday_lt hS _) hn) (by omega), ob_sb, e2, e3]
    cases (zday d n S (14 - i)).testBit w <;> rfl
  · intro k
    show L_X5_day_28 (nI w) (nI S) (nI n) md _ (k + 1) (-1) _ = _
    rw [L_X5_day_28, if_pos (by decide)]
theorem zfd_none {d : Nat → Option Nat} {n S w : Nat} (h : ∀ k, k ≤ 14 → (zday d n S k).testBit w = false) (i : Nat) (hi : i ≤ 15) : zfd d n S w i = -6 := by
  induction i with
  | zero => rfl
  | succ i ih =>
    show (if (zday d n S (14 - i)).testBit w then _ else _) = _
    rw [h (14 - i) (by omega), ite_ff]
    exact ih (by omega)
theorem zfd_some {d : Nat → Option Nat} {n S w k : Nat} (hk : k ≤ 14) (h : (zday d n S k).testBit w = true) (hm : ∀ j, j < k → (zday d n S j).testBit w = false) (i : Nat) (hi : i ≤ 15) (hki : 15 - k ≤ i) : zfd d n S w i = nI k := by
  induction i with
  | zero => omega
  | succ i ih =>
    show (if (zday d n S (14 - i)).testBit w then _ else _) = _
    by_cases e : 14 - i = k
    · rw [e, h, ite_tt]
    · rw [hm (14 - i) (by omega), ite_ff]
      exact ih (by omega) (by omega)
theorem m5_costOf {n S : Nat} {c : Nat → Nat} {cs : Nat → Int32} (hn : n ≤ 14) (hcs : ∀ i, i < 14 → cs i = nI (c i)) (hS : S < 2 ^ 31) : M_X5_costOf (nI S) (nI n) cs = some (nI (zcost c S n)) := by
  unfold M_X5_costOf
  refine loop_seq (fun k (s : Int32 × Int32) => L_X5_costOf_4 (nI S) (nI n) cs _ k s.1 s.2) (fun i => (nI i, nI (zcost c S i))) n _ ?_ ?_ n 0 40 (by omega) (by omega)
  · intro k i hi
    show L_X5_costOf_4 (nI S) (nI n) cs _ (k + 1) (nI i) (nI (zcost c S i)) = L_X5_costOf_4 (nI S) (nI n) cs _ k (nI (i + 1)) (nI (zcost c S i + (if S.testBit i then c i else 0)))
    rw [L_X5_costOf_4, if_neg (nI_ge hi (by omega)), m5_has hS (by omega), ob_sb, if_neg (i_in (by omega) (by decide)), i_cl (by omega), hcs i (by omega), nI_1, nI_add, i_add0]
    cases S.testBit i <;> rfl
  · intro k
    show L_X5_costOf_4 (nI S) (nI n) cs _ (k + 1) (nI n) _ = _
    rw [L_X5_costOf_4, if_pos (nI_le (Nat.le_refl n) (by omega))]
theorem zpc_ext {S n : Nat} (hS : S < 2 ^ n) : ∀ m, n ≤ m → zpc S m = zpc S n := by
  intro m
  induction m with
  | zero => intro h; rw [show n = 0 by omega]
  | succ m ih =>
    intro h
    by_cases e : n = m + 1
    · rw [e]
    · show zpc S m + (if S.testBit m then 1 else 0) = _
      rw [zlt_bit hS (by omega), ite_ff]
      exact ih (by omega)
theorem zpc_31 (S n : Nat) (hn : n ≤ 14) : zpc S n < 2 ^ 31 := Nat.lt_of_le_of_lt (zpc_le S n) (by omega)
theorem zcost_31 {c : Nat → Nat} (hc : ∀ i, c i ≤ 9) (S n : Nat) (hn : n ≤ 14) : zcost c S n < 2 ^ 31 := by
  have := zcost_le hc S n
  omega
theorem m5_isBetter {n S T : Nat} {c : Nat → Nat} {cs : Nat → Int32} (hn : n ≤ 14) (hcs : ∀ i, i < 14 → cs i = nI (c i)) (hc : ∀ i, c i ≤ 9) (hS : S < 2 ^ n) (hT : T < 2 ^ n) :
    (zbet c n S T → M_X5_isBetter (nI S) (nI T) (nI n) cs = some 1) ∧ (¬ zbet c n S T → M_X5_isBetter (nI S) (nI T) (nI n) cs = some 0) := by
  have hS1 := lt31 hS hn
  have hT1 := lt31 hT hn
  have b1 := zcost_31 hc S n hn
  have b2 := zcost_31 hc T n hn
  have e : M_X5_isBetter (nI S) (nI T) (nI n) cs = if zcost c S n = zcost c T n then (if zpc T n ≤ zpc S n then some 0 else some 1) else (if zcost c T n ≤ zcost c S n then some 0 else some 1) := by
    unfold M_X5_isBetter
    rw [m5_costOf hn hcs hS1, ob_sb, m5_costOf hn hcs hT1, ob_sb, m5_bits hS1, ob_sb, m5_bits hT1, ob_sb, ob_sb, ob_sb, zpc_ext hS 14 hn, zpc_ext hT 14 hn]
    by_cases h : zcost c S n = zcost c T n
    · rw [if_pos h, if_pos (by rw [h])]
      by_cases g : zpc T n ≤ zpc S n
      · rw [if_pos g, if_pos ((nI_leI (zpc_31 T n hn) (zpc_31 S n hn)).mpr g)]
      · rw [if_neg g, if_neg (fun q => g ((nI_leI (zpc_31 T n hn) (zpc_31 S n hn)).mp q))]
    · rw [if_neg h, if_neg (fun q => h ((nI_eq b1 b2).mp q))]
      by_cases g : zcost c T n ≤ zcost c S n
      · rw [if_pos g, if_pos ((nI_leI b2 b1).mpr g)]
      · rw [if_neg g, if_neg (fun q => g ((nI_leI b2 b1).mp q))]
  unfold zbet
  rw [e]
  constructor
  · intro h
    by_cases q : zcost c S n = zcost c T n
    · rw [if_pos q, if_neg (by omega)]
    · rw [if_neg q, if_neg (by omega)]
  · intro h
    by_cases q : zcost c S n = zcost c T n
    · rw [if_pos q, if_pos (by omega)]
    · rw [if_neg q, if_pos (by omega)]
/-- the plan, all sets tried -/
theorem m5_planFor {n base : Nat} {d : Nat → Option Nat} {md cs : Nat → Int32} {c : Nat → Nat} (hn : n ≤ 14) (hd : zwf d n) (hmd : ∀ i, i < 14 → md i = zm d i) (hcs : ∀ i, i < 14 → cs i = nI (c i)) (hc : ∀ i, c i ≤ 9) (hb : base < 2 ^ n) :
    M_X5_planFor (nI base) (nI n) md cs = some (nI (zmin (zfeM d n base) (zles c n) (zdif (2 ^ n - 1) base) (2 ^ n))) := by
  have hp := p14 hn
  have hp1 := Nat.two_pow_pos n
  have hfull : zdif (2 ^ n - 1) base < 2 ^ n := zdif_lt (by omega)
  unfold M_X5_planFor
  rw [m5_all hn, ob_sb, i_dif]
  refine loop_seq (fun k (s : Int32 × Int32) => L_X5_planFor_11 (nI base) (nI n) md cs _ k s.1 s.2) (fun i => (nI i, nI (zmin (zfeM d n base) (zles c n) (zdif (2 ^ n - 1) base) i))) (2 ^ n) _ ?_ ?_ (2 ^ n) 0 20000 (by omega) (by omega)
  · intro k i hi
    have hbl := zmin_lt (feas := zfeM d n base) (bet := zles c n) hfull i (Nat.le_of_lt hi)
    show L_X5_planFor_11 (nI base) (nI n) md cs _ (k + 1) (nI i) (nI (zmin (zfeM d n base) (zles c n) (zdif (2 ^ n - 1) base) i)) = L_X5_planFor_11 (nI base) (nI n) md cs _ k (nI (i + 1)) (nI (zmin (zfeM d n base) (zles c n) (zdif (2 ^ n - 1) base) (i + 1)))
    obtain ⟨be, hbe⟩ : ∃ x, x = zmin (zfeM d n base) (zles c n) (zdif (2 ^ n - 1) base) i := ⟨_, rfl⟩
    have hyes : zfeM d n base i → zles c n i be → zmin (zfeM d n base) (zles c n) (zdif (2 ^ n - 1) base) (i + 1) = i := fun h1 h2 => zmin_yes ⟨h1, by rw [← hbe]; exact h2⟩
    have hno : ¬ (zfeM d n base i ∧ zles c n i be) → zmin (zfeM d n base) (zles c n) (zdif (2 ^ n - 1) base) (i + 1) = be := fun h => by rw [hbe]; exact zmin_no (by rw [← hbe]; exact h)
    rw [← hbe] at hbl ⊢
    rw [L_X5_planFor_11, m5_all hn, ob_sb, if_neg (nI_nlt (by omega) (by omega)), i_and, nI_1]
    by_cases h0 : i &&& base = 0
    · rw [if_pos (by rw [h0]; rfl)]
      have hor : base ||| i < 2 ^ n := Nat.or_lt_two_pow hb hi
      have hG : M_X5_knownOn (nI base ||| nI i) 14 (nI n) md = some (nI (zday d n (base ||| i) n)) := by rw [i_or]; exact m5_known14 hn hd hmd hor
      have hGe : (nI (zday d n (base ||| i) n) = nI (2 ^ n - 1)) ↔ zday d n (base ||| i) n = 2 ^ n - 1 := nI_eq (lt31 (zday_lt hor n) hn) (by omega)
      have last : ∀ (hl : zles c n i be), (if nI (zday d n (base ||| i) n) = nI (2 ^ n - 1) then L_X5_planFor_11 (nI base) (nI n) md cs (fun (v3_11 : Int32) (v2_11 : Int32) => some v2_11) k (nI (i + 1)) (nI i) else L_X5_planFor_11 (nI base) (nI n) md cs (fun (v3_11 : Int32) (v2_11 : Int32) => some v2_11) k (nI (i + 1)) (nI be)) = L_X5_planFor_11 (nI base) (nI n) md cs (fun (v3_11 : Int32) (v2_11 : Int32) => some v2_11) k (nI (i + 1)) (nI (zmin (zfeM d n base) (zles c n) (zdif (2 ^ n - 1) base) (i + 1))) := by
        intro hl
        by_cases hg : zday d n (base ||| i) n = 2 ^ n - 1
        · rw [if_pos (hGe.mpr hg), hyes ⟨h0, hg⟩ hl]
        · rw [if_neg (fun q => hg (hGe.mp q)), hno (fun q => hg q.1.2)]
      by_cases hbet : zbet c n i be
      · rw [(m5_isBetter hn hcs hc hi hbl).1 hbet, ob_sb, if_neg (by decide), hG, ob_sb, ob_sb]
        exact last (Or.inl hbet)
      · rw [(m5_isBetter hn hcs hc hi hbl).2 hbet, ob_sb, if_pos rfl]
        by_cases hle : be ≤ i
        · rw [if_pos (nI_le hle (by omega)), hno (fun q => by rcases q.2 with q | q; exact hbet q; omega)]
        · rw [if_neg (nI_ge (by omega) (by omega))]
          by_cases hbet2 : zbet c n be i
          · rw [(m5_isBetter hn hcs hc hbl hi).1 hbet2, ob_sb, if_neg (by decide), hno (fun q => by rcases q.2 with q | q; exact hbet q; unfold zbet at hbet2; omega)]
          · rw [(m5_isBetter hn hcs hc hbl hi).2 hbet2, ob_sb, if_pos rfl, hG, ob_sb, ob_sb]
            exact last (by unfold zles; unfold zbet at *; omega)
    · rw [if_neg (fun q => h0 ((i_zero (lt32 (Nat.lt_of_le_of_lt Nat.and_le_left hi) hn)).mp q)), hno (fun q => h0 q.1.1)]
  · intro k
    show L_X5_planFor_11 (nI base) (nI n) md cs _ (k + 1) (nI (2 ^ n)) _ = _
    rw [L_X5_planFor_11, m5_all hn, ob_sb, if_pos (nI_lt (by omega) (by omega))]
