/-! the plan, and the least sets: all sets tried, and ring words alone -/
theorem zP_def {d : Nat → Option Nat} : ∀ (v a b : Nat), zP d v a b = true → ∃ s, d a = some s := by
  intro v
  induction v with
  | zero =>
    intro a b h
    have h1 : (zu d a).testBit b = true := h
    unfold zu at h1
    cases hda : d a with
    | none => rw [hda] at h1; rw [show (none : Option Nat).getD 0 = 0 from rfl, Nat.zero_testBit] at h1; cases h1
    | some s => exact ⟨s, rfl⟩
  | succ v ih =>
    intro a b h
    rcases zP_iff.mp h with h | h
    · exact ih a b h
    · exact ih a v h.1
/-- the bare words, as a set -/
def zbar (d : Nat → Option Nat) (n B : Nat) : Prop := ∀ w, B.testBit w = true ↔ (w < n ∧ d w = none)
theorem zbar_lt {d : Nat → Option Nat} {n B : Nat} (h : zbar d n B) : B < 2 ^ n := zlt_of fun i hi => ((h i).mp hi).1
theorem zbar_ring {d : Nat → Option Nat} {n B : Nat} (hd : zwf d n) (h : zbar d n B) {i : Nat} (hi : B.testBit i = true) : (zring d n n).testBit i = false := by
  cases hr : (zring d n n).testBit i with
  | false => rfl
  | true =>
    rw [zring_bit hd] at hr
    obtain ⟨s, hs⟩ := zP_def n i i hr
    rw [((h i).mp hi).2] at hs
    cases hs
theorem zgall_bar {d : Nat → Option Nat} {n B K : Nat} (hd : zwf d n) (hB : zbar d n B) (hK : K < 2 ^ n) : zday d n K n = 2 ^ n - 1 ↔ zsub B K ∧ zfree d (zdif (zring d n n) K) := by
  rw [zgall_ring hd hK]
  have e : (∀ w, w < n → d w = none → K.testBit w = true) ↔ zsub B K := ⟨fun h i hi => h i ((hB i).mp hi).1 ((hB i).mp hi).2, fun h w h1 h2 => h w ((hB w).mpr ⟨h1, h2⟩)⟩
  rw [e]
def zfeM (d : Nat → Option Nat) (n base S : Nat) : Prop := S &&& base = 0 ∧ zday d n (base ||| S) n = 2 ^ n - 1
def zfeC (d : Nat → Option Nat) (ch T : Nat) : Prop := zsub T ch ∧ zfree d (zdif ch T)
theorem zfeM_iff {d : Nat → Option Nat} {n B base S : Nat} (hd : zwf d n) (hB : zbar d n B) (hb : base < 2 ^ n) (hS : S < 2 ^ n) : zday d n (base ||| S) n = 2 ^ n - 1 ↔ zsub (zdif B base) S ∧ zfree d (zdif (zdif (zring d n n) base) S) := by
  rw [zgall_bar hd hB (Nat.or_lt_two_pow hb hS)]
  have e1 : zsub B (base ||| S) ↔ zsub (zdif B base) S := by
    constructor
    · intro h i hi
      rw [zdif_bit, Bool.and_eq_true] at hi
      have := h i hi.1
      rw [Nat.testBit_or, Bool.or_eq_true] at this
      rcases this with g | g
      · rw [g] at hi; cases hi.2
      · exact g
    · intro h i hi
      rw [Nat.testBit_or]
      cases hb : base.testBit i with
      | true => rfl
      | false => rw [h i (by rw [zdif_bit, hi, hb]; rfl)]; rfl
  have e2 : zdif (zring d n n) (base ||| S) = zdif (zdif (zring d n n) base) S := Nat.eq_of_testBit_eq fun i => by
    rw [zdif_bit, zdif_bit, zdif_bit, Nat.testBit_or]
    cases (zring d n n).testBit i <;> cases base.testBit i <;> cases S.testBit i <;> rfl
  rw [e1, e2]
theorem zmin_lt {feas : Nat → Prop} {bet : Nat → Nat → Prop} {b N : Nat} (hb : b < N) : ∀ i, i ≤ N → zmin feas bet b i < N := by
  intro i
  induction i with
  | zero => exact fun _ => hb
  | succ i ih =>
    intro h
    by_cases g : feas i ∧ bet i (zmin feas bet b i)
    · rw [zmin_yes g]; omega
    · rw [zmin_no g]; exact ih (by omega)
theorem zplan {d : Nat → Option Nat} {n B base X : Nat} {c : Nat → Nat} (hd : zwf d n) (hB : zbar d n B) (hb : base < 2 ^ n) (hc : ∀ w, w < n → 1 ≤ c w) (hX : zdif (zring d n n) base < X) :
    zmin (zfeM d n base) (zles c n) (zdif (2 ^ n - 1) base) (2 ^ n) = zmin (zfeC d (zdif (zring d n n) base)) (zbet c n) (zdif (zring d n n) base) X ||| zdif B base := by
  have hchn : zdif (zring d n n) base < 2 ^ n := zdif_lt (zring_lt d n)
  have hMn : zdif B base < 2 ^ n := zdif_lt (zbar_lt hB)
  have hfull : zdif (2 ^ n - 1) base < 2 ^ n := zdif_lt (by have := Nat.two_pow_pos n; omega)
  obtain ⟨ch, hch⟩ : ∃ x, x = zdif (zring d n n) base := ⟨_, rfl⟩
  obtain ⟨M', hM'⟩ : ∃ x, x = zdif B base := ⟨_, rfl⟩
  rw [← hch] at hchn hX ⊢
  rw [← hM'] at hMn ⊢
  have hchb : ∀ i, ch.testBit i = ((zring d n n).testBit i && !base.testBit i) := fun i => by rw [hch, zdif_bit]
  have hMb : ∀ i, M'.testBit i = (B.testBit i && !base.testBit i) := fun i => by rw [hM', zdif_bit]
  have hdisj : ∀ i, ch.testBit i = true → M'.testBit i = false := fun i hi => by
    rw [hchb, Bool.and_eq_true] at hi
    cases hm : M'.testBit i with
    | false => rfl
    | true =>
      rw [hMb, Bool.and_eq_true] at hm
      rw [zbar_ring hd hB hm.1] at hi
      cases hi.1
  have hMiff : ∀ S, S < 2 ^ n → (zday d n (base ||| S) n = 2 ^ n - 1 ↔ zsub M' S ∧ zfree d (zdif ch S)) := fun S hS => by rw [zfeM_iff hd hB hb hS, ← hch, ← hM']
  -- the class's best
  obtain ⟨T1, T2, T3⟩ := zmin_bet (feas := zfeC d ch) (c := c) (n := n) (b := ch) hc hchn ⟨zsub_refl ch, by rw [zdif_zero.mpr (zsub_refl ch)]; exact zfree_zero d⟩ (fun K hK => hK.1) X
  obtain ⟨T, hT⟩ : ∃ x, x = zmin (zfeC d ch) (zbet c n) ch X := ⟨_, rfl⟩
  rw [← hT] at T1 T2 T3 ⊢
  have hTn : T < 2 ^ n := zsub_lt2 T1.1 hchn
  have and0 : ∀ x y : Nat, (∀ i, x.testBit i = true → y.testBit i = false) → x &&& y = 0 := fun x y h => zero_of_bits fun i => by
    rw [Nat.testBit_and]
    cases hx : x.testBit i with
    | false => rfl
    | true => rw [h i hx]; rfl
  have hTM : T &&& M' = 0 := and0 _ _ fun i hi => hdisj i (T1.1 i hi)
  have hSc : T ||| M' < 2 ^ n := Nat.or_lt_two_pow hTn hMn
  have hScF : zfeM d n base (T ||| M') := by
    refine ⟨and0 _ _ fun i hi => ?_, (hMiff _ hSc).mpr ⟨fun i hi => by rw [Nat.testBit_or, hi, Bool.or_true], ?_⟩⟩
    · rw [Nat.testBit_or, Bool.or_eq_true] at hi
      rcases hi with hi | hi
      · have := T1.1 i hi
        rw [hchb, Bool.and_eq_true] at this
        cases hq : base.testBit i with
        | false => rfl
        | true => rw [hq] at this; cases this.2
      · rw [hMb, Bool.and_eq_true] at hi
        cases hq : base.testBit i with
        | false => rfl
        | true => rw [hq] at hi; cases hi.2
    · have e : zdif ch (T ||| M') = zdif ch T := Nat.eq_of_testBit_eq fun i => by
        rw [zdif_bit, zdif_bit, Nat.testBit_or]
        cases hq : ch.testBit i with
        | false => rfl
        | true => rw [hdisj i hq, Bool.or_false]
      rw [e]; exact T1.2
  -- the model's best
  have hb0 : zfeM d n base (zdif (2 ^ n - 1) base) := by
    refine ⟨and0 _ _ fun i hi => ?_, ?_⟩
    · rw [zdif_bit, Bool.and_eq_true] at hi
      cases hq : base.testBit i with
      | false => rfl
      | true => rw [hq] at hi; cases hi.2
    · have e : base ||| zdif (2 ^ n - 1) base = 2 ^ n - 1 := Nat.eq_of_testBit_eq fun i => by
        rw [Nat.testBit_or, zdif_bit, zfull_bit]
        cases hq : base.testBit i with
        | false => simp
        | true => rw [decide_eq_true (zbit_lt hb hq)]; rfl
      rw [e]
      exact zsub_anti (zsub_full.mpr (zday_lt (by have := Nat.two_pow_pos n; omega) n)) (zday_le d n _ (Nat.zero_le n))
  obtain ⟨S1, S2⟩ := zmin_les (feas := zfeM d n base) (c := c) (n := n) hb0 (2 ^ n)
  have hSn := zmin_lt (feas := zfeM d n base) (bet := zles c n) hfull (2 ^ n) (Nat.le_refl _)
  obtain ⟨S, hS⟩ : ∃ x, x = zmin (zfeM d n base) (zles c n) (zdif (2 ^ n - 1) base) (2 ^ n) := ⟨_, rfl⟩
  rw [← hS] at S1 S2 hSn ⊢
  rcases zles_tri c n S (T ||| M') with h | h | h
  · exfalso
    obtain ⟨g1, g2⟩ := (hMiff S hSn).mp S1.2
    have hU : zfeC d ch (ch &&& S) := by
      refine ⟨fun i hi => by rw [Nat.testBit_and, Bool.and_eq_true] at hi; exact hi.1, ?_⟩
      have e : zdif ch (ch &&& S) = zdif ch S := Nat.eq_of_testBit_eq fun i => by
        rw [zdif_bit, zdif_bit, Nat.testBit_and]
        cases ch.testBit i <;> simp
      rw [e]; exact g2
    have hUX : ch &&& S < X := Nat.lt_of_le_of_lt (zsub_le hU.1) hX
    refine T3 _ hUX hU ?_
    have hUM : (ch &&& S) &&& M' = 0 := and0 _ _ fun i hi => hdisj i (hU.1 i hi)
    have hsub : zsub ((ch &&& S) ||| M') S := fun i hi => by
      rw [Nat.testBit_or, Bool.or_eq_true] at hi
      rcases hi with hi | hi
      · rw [Nat.testBit_and, Bool.and_eq_true] at hi; exact hi.2
      · exact g1 i hi
    have q1 := zcost_mono c hsub n
    have q2 := zpc_mono hsub n
    have q3 := zsub_le hsub
    have r1 := zcost_or c hUM n
    have r2 := zcost_or c hTM n
    have r3 := zcost_or (fun _ => 1) hUM n
    have r4 := zcost_or (fun _ => 1) hTM n
    rw [← zpc_cost, ← zpc_cost, ← zpc_cost] at r3 r4
    have r5 := zadd_or _ _ hUM
    have r6 := zadd_or _ _ hTM
    unfold zles zbet at h ⊢
    omega
  · exact h
  · exact absurd h (S2 _ hSc hScF)
/-! least sets -/
def zleC (d : Nat → Option Nat) (R T : Nat) : Prop := zfree d (zdif R T) ∧ ∀ w, T.testBit w = true → ¬ zfree d (zdif R T ||| 2 ^ w)
def zleM (d : Nat → Option Nat) (n K : Nat) : Prop := zday d n K n = 2 ^ n - 1 ∧ ∀ w, K.testBit w = true → ¬ zday d n (zdif K (2 ^ w)) n = 2 ^ n - 1
theorem zleast_iff {d : Nat → Option Nat} {n B K : Nat} (hd : zwf d n) (hB : zbar d n B) (hK : K < 2 ^ n) : zleM d n K ↔ K = (zring d n n &&& K) ||| B ∧ zleC d (zring d n n) (zring d n n &&& K) := by
  obtain ⟨R, hR⟩ : ∃ x, x = zring d n n := ⟨_, rfl⟩
  have hRB : ∀ i, B.testBit i = true → R.testBit i = false := fun i hi => by rw [hR]; exact zbar_ring hd hB hi
  have hG : ∀ X, X < 2 ^ n → (zday d n X n = 2 ^ n - 1 ↔ zsub B X ∧ zfree d (zdif R X)) := fun X hX => by rw [hR]; exact zgall_bar hd hB hX
  have hrem : ∀ w, zdif K (2 ^ w) < 2 ^ n := fun w => zdif_lt hK
  have eR : zdif R (R &&& K) = zdif R K := Nat.eq_of_testBit_eq fun i => by
    rw [zdif_bit, zdif_bit, Nat.testBit_and]
    cases R.testBit i <;> simp
  have eW : ∀ w, R.testBit w = true → K.testBit w = true → zdif R (zdif K (2 ^ w)) = zdif R K ||| 2 ^ w := fun w h1 h2 => Nat.eq_of_testBit_eq fun i => by
    rw [zdif_bit, zdif_bit, Nat.testBit_or, zdif_bit, zone_bit]
    by_cases e : w = i
    · subst e; rw [h1, decide_eq_true rfl]; simp
    · rw [decide_eq_false e]; simp
  rw [← hR]
  unfold zleM zleC
  rw [eR]
  constructor
  · intro ⟨h1, h2⟩
    obtain ⟨g1, g2⟩ := (hG K hK).mp h1
    refine ⟨Nat.eq_of_testBit_eq fun i => ?_, g2, fun w hw hf => ?_⟩
    · rw [Nat.testBit_or, Nat.testBit_and]
      cases hk : K.testBit i with
      | false =>
        cases hb : B.testBit i with
        | false => simp
        | true => rw [g1 i hb] at hk; cases hk
      | true =>
        cases hr : R.testBit i with
        | true => rfl
        | false =>
          cases hb : B.testBit i with
          | true => rfl
          | false =>
            exfalso
            refine h2 i hk ((hG _ (hrem i)).mpr ⟨fun j hj => ?_, ?_⟩)
            · rw [zdif_bit, g1 j hj, zone_bit, decide_eq_false (fun e => by rw [e, hj] at hb; cases hb)]; rfl
            · have e : zdif R (zdif K (2 ^ i)) = zdif R K := Nat.eq_of_testBit_eq fun j => by
                rw [zdif_bit, zdif_bit, zdif_bit, zone_bit]
                by_cases e : i = j
                · subst e; rw [hr]; rfl
                · rw [decide_eq_false e]; simp
              rw [e]; exact g2
    · rw [Nat.testBit_and, Bool.and_eq_true] at hw
      refine h2 w hw.2 ((hG _ (hrem w)).mpr ⟨fun j hj => ?_, by rw [eW w hw.1 hw.2]; exact hf⟩)
      rw [zdif_bit, g1 j hj, zone_bit, decide_eq_false (fun e => by rw [← e] at hj; rw [hRB w hj] at hw; cases hw.1)]
      rfl
  · intro ⟨h1, h2, h3⟩
    have hBK : zsub B K := fun i hi => by rw [h1, Nat.testBit_or, hi, Bool.or_true]
    refine ⟨(hG K hK).mpr ⟨hBK, h2⟩, fun w hw hg => ?_⟩
    obtain ⟨g1, g2⟩ := (hG _ (hrem w)).mp hg
    cases hb : B.testBit w with
    | true =>
      have := g1 w hb
      rw [zdif_bit, zone_bit, decide_eq_true rfl] at this
      simp at this
    | false =>
      have hr : R.testBit w = true := by
        have := hw
        rw [h1, Nat.testBit_or, Nat.testBit_and, hb, Bool.or_false, Bool.and_eq_true] at this
        exact this.1
      rw [eW w hr hw] at g2
      exact h3 w (by rw [Nat.testBit_and, hr, hw]; rfl) g2
/-- as many least sets, each with what it has -/
theorem zleast_cnt {d : Nat → Option Nat} {n B : Nat} (hd : zwf d n) (hB : zbar d n B) {p q : Nat → Bool} {N : Nat} (hN : zring d n n < N) (f : Nat → Bool)
    (hp : ∀ K, K < 2 ^ n → (p K = true ↔ zleM d n K ∧ f K = true)) (hq : ∀ T, T < N → (q T = true ↔ zsub T (zring d n n) ∧ zleC d (zring d n n) T ∧ f (T ||| B) = true)) : zcnt p (2 ^ n) = zcnt q N := by
  have hRB : ∀ i, B.testBit i = true → (zring d n n).testBit i = false := fun i hi => zbar_ring hd hB hi
  have back : ∀ T, zsub T (zring d n n) → zring d n n &&& (T ||| B) = T := fun T hT => Nat.eq_of_testBit_eq fun i => by
    rw [Nat.testBit_and, Nat.testBit_or]
    cases ht : T.testBit i with
    | true => rw [hT i ht]; rfl
    | false =>
      cases hb : B.testBit i with
      | true => rw [hRB i hb]; rfl
      | false => simp
  refine Nat.le_antisymm ?_ ?_
  · refine zcnt_inj (p := p) (q := q) (f := fun K => zring d n n &&& K) (2 ^ n) N q (fun K hK h => ?_) (fun J K hJ hK h1 h2 e => ?_)
    · obtain ⟨h1, h2⟩ := (hp K hK).mp h
      obtain ⟨g1, g2⟩ := (zleast_iff hd hB hK).mp h1
      have hs : zsub (zring d n n &&& K) (zring d n n) := fun i hi => by rw [Nat.testBit_and, Bool.and_eq_true] at hi; exact hi.1
      have hl : zring d n n &&& K < N := Nat.lt_of_le_of_lt (zsub_le hs) hN
      exact ⟨hl, (hq _ hl).mpr ⟨hs, g2, by rw [← g1]; exact h2⟩⟩
    · have g1 := ((zleast_iff hd hB hJ).mp ((hp J hJ).mp h1).1).1
      have g2 := ((zleast_iff hd hB hK).mp ((hp K hK).mp h2).1).1
      rw [g1, g2, e]
  · refine zcnt_inj (p := q) (q := p) (f := fun T => T ||| B) N (2 ^ n) p (fun T hT h => ?_) (fun J K hJ hK h1 h2 e => ?_)
    · obtain ⟨h1, h2, h3⟩ := (hq T hT).mp h
      have hl : T ||| B < 2 ^ n := Nat.or_lt_two_pow (zsub_lt2 h1 (zring_lt d n)) (zbar_lt hB)
      refine ⟨hl, (hp _ hl).mpr ⟨(zleast_iff hd hB hl).mpr ?_, h3⟩⟩
      rw [back T h1]
      exact ⟨rfl, h2⟩
    · have g1 := back J ((hq J hJ).mp h1).1
      have g2 := back K ((hq K hK).mp h2).1
      rw [← g1, ← g2, e]
/-- the greatest value -/
def zmax (p : Nat → Bool) (v : Nat → Nat) : Nat → Nat
  | 0 => 0
  | x + 1 => if p x then (if zmax p v x < v x then v x else zmax p v x) else zmax p v x
theorem zmax_le {p : Nat → Bool} {v : Nat → Nat} {m : Nat} : ∀ x, zmax p v x ≤ m ↔ ∀ k, k < x → p k = true → v k ≤ m := by
  intro x
  induction x with
  | zero => exact ⟨fun _ k h => absurd h (Nat.not_lt_zero k), fun _ => Nat.zero_le m⟩
  | succ x ih =>
    have e : zmax p v (x + 1) = if p x then (if zmax p v x < v x then v x else zmax p v x) else zmax p v x := rfl
    constructor
    · intro h k hk hp
      by_cases ek : k = x
      · subst ek
        rw [e, hp, if_pos rfl] at h
        split at h <;> omega
      · refine ih.mp ?_ k (by omega) hp
        rw [e] at h
        split at h
        · split at h <;> omega
        · exact h
    · intro h
      have h1 := ih.mpr (fun k hk => h k (by omega))
      rw [e]
      cases hp : p x with
      | false => simp; exact h1
      | true =>
        have := h x (Nat.lt_succ_self x) hp
        rw [if_pos rfl]
        split <;> omega
theorem zmax_gap {p : Nat → Bool} {v : Nat → Nat} {x y : Nat} (hxy : x ≤ y) (h : ∀ k, x ≤ k → k < y → p k = false) : zmax p v y = zmax p v x := by
  induction y with
  | zero => rw [show x = 0 by omega]
  | succ y ih =>
    by_cases e : x = y + 1
    · rw [e]
    · show (if p y then _ else zmax p v y) = _
      rw [h y (by omega) (Nat.lt_succ_self y), if_neg (by decide)]
      exact ih (by omega) (fun k h1 h2 => h k h1 (by omega))
theorem zleast_max {d : Nat → Option Nat} {n B : Nat} (hd : zwf d n) (hB : zbar d n B) {p q : Nat → Bool} {v v' : Nat → Nat} {N : Nat} (hN : zring d n n < N)
    (hp : ∀ K, K < 2 ^ n → (p K = true ↔ zleM d n K)) (hq : ∀ T, T < N → (q T = true ↔ zsub T (zring d n n) ∧ zleC d (zring d n n) T)) (hv : ∀ T, v' T = v (T ||| B)) : zmax p v (2 ^ n) = zmax q v' N := by
  have hRB : ∀ i, B.testBit i = true → (zring d n n).testBit i = false := fun i hi => zbar_ring hd hB hi
  have back : ∀ T, zsub T (zring d n n) → zring d n n &&& (T ||| B) = T := fun T hT => Nat.eq_of_testBit_eq fun i => by
    rw [Nat.testBit_and, Nat.testBit_or]
    cases ht : T.testBit i with
    | true => rw [hT i ht]; rfl
    | false =>
      cases hb : B.testBit i with
      | true => rw [hRB i hb]; rfl
      | false => simp
  refine Nat.le_antisymm ((zmax_le _).mpr fun K hK h => ?_) ((zmax_le _).mpr fun T hT h => ?_)
  · obtain ⟨g1, g2⟩ := (zleast_iff hd hB hK).mp ((hp K hK).mp h)
    have hs : zsub (zring d n n &&& K) (zring d n n) := fun i hi => by rw [Nat.testBit_and, Bool.and_eq_true] at hi; exact hi.1
    have hl : zring d n n &&& K < N := Nat.lt_of_le_of_lt (zsub_le hs) hN
    have := (zmax_le (p := q) (v := v') N).mp (Nat.le_refl _) _ hl ((hq _ hl).mpr ⟨hs, g2⟩)
    rw [hv, ← g1] at this
    exact this
  · obtain ⟨h1, h2⟩ := (hq T hT).mp h
    have hl : T ||| B < 2 ^ n := Nat.or_lt_two_pow (zsub_lt2 h1 (zring_lt d n)) (zbar_lt hB)
    have := (zmax_le (p := p) (v := v) (2 ^ n)).mp (Nat.le_refl _) _ hl ((hp _ hl).mpr ((zleast_iff hd hB hl).mpr (by rw [back T h1]; exact ⟨rfl, h2⟩)))
    rw [hv]
    exact this
