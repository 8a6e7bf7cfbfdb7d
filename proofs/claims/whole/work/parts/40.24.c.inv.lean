theorem not_in {p a b : Int32} (h : p < a ∨ b < p) : M_X5_in p a b = some 0 := by
  unfold M_X5_in
  by_cases g : p < a
  · rw [if_pos g]
  · rw [if_neg g, if_pos (by rcases h with h | h; exact absurd h g; exact h)]
theorem yes_in {p a b : Int32} (h1 : ¬ p < a) (h2 : ¬ b < p) : M_X5_in p a b = some 1 := by
  unfold M_X5_in
  rw [if_neg h1, if_neg h2]
theorem nlt_of_le {a b : Int32} (h : a ≤ b) : ¬ b < a := fun g => by rw [Int32.lt_iff_toInt_lt] at g; rw [Int32.le_iff_toInt_le] at h; omega
theorem lt_of_nle {a b : Int32} (h : ¬ a ≤ b) : b < a := by rw [Int32.lt_iff_toInt_lt]; rw [Int32.le_iff_toInt_le] at h; omega
theorem between {p : Int32} {a b : Nat} (ha : a < 2 ^ 31) (hb : b < 2 ^ 31) (h1 : ¬ p < nI a) (h2 : p ≤ nI b) : ∃ v, a ≤ v ∧ v ≤ b ∧ p = nI v := by
  have hneg : ¬ p < 0 := fun q => h1 (by
    rw [Int32.lt_iff_toInt_lt] at *
    have e1 : (0 : Int32).toInt = 0 := rfl
    have e2 := nI_toInt ha
    omega)
  obtain ⟨v, hv, rfl⟩ := nI_of hneg
  refine ⟨v, ?_, (nI_leI hv hb).mp h2, rfl⟩
  rcases Nat.lt_or_ge v a with q | q
  · exact absurd (nI_lt q ha) h1
  · exact q
theorem ok_size {g_kp : Int32} {g_tf : Int32} {g_ts : Int32} {w_t : Int32} {w_k : Int32} {w_f : Int32} {w_cs : Nat → Int32} {w_ds : Nat → Int32} {i_t : Int32} {i_k : Int32} {i_f : Int32} {i_cs : Nat → Int32} {i_ds : Nat → Int32} {j_t : Int32} {j_k : Int32} {j_f : Int32} {j_cs : Nat → Int32} {j_ds : Nat → Int32} {t_ln : Int32} {t_sg : Nat → Int32} {r_t : Int32} {r_ir : Int32} {r_rc : Nat → Int32} {e_mu : Int32} {e_ma : Int32} {e_cf : Nat → Int64} {m_sz : Int32} {m_kn : Int32} {m_sg : Int32} {m_fa : Int32} {m_ds : Nat → Int32} {m_cs : Nat → Int32} {m_tx : Nat → Int32} {m_ia : Nat → Int32} {m_im : Nat → Int32} {m_ik : Nat → Int32} (h : INV g_kp g_tf g_ts w_t w_k w_f w_cs w_ds i_t i_k i_f i_cs i_ds j_t j_k j_f j_cs j_ds t_ln t_sg r_t r_ir r_rc e_mu e_ma e_cf m_sz m_kn m_sg m_fa m_ds m_cs m_tx m_ia m_im m_ik) (p1 : Int32) : ∃ (R : Int32 × Int32 × Int32 × Int32 × Int32 × (Nat → Int32) × (Nat → Int32)) (R' : Int32 × Int32 × Int32 × (Nat → Int32) × (Nat → Int32)), M_X4_size w_t w_k w_f w_cs w_ds p1 g_ts = some R ∧ M_X5_size p1 m_sz m_ds m_cs m_kn = some R' ∧ R.1 = R'.1 ∧ INV g_kp g_tf R.2.1 R.2.2.1 R.2.2.2.1 R.2.2.2.2.1 R.2.2.2.2.2.1 R.2.2.2.2.2.2 i_t i_k i_f i_cs i_ds j_t j_k j_f j_cs j_ds t_ln t_sg r_t r_ir r_rc e_mu e_ma e_cf R'.2.1 R'.2.2.1 m_sg m_fa R'.2.2.2.1 R'.2.2.2.2 m_tx m_ia m_im m_ik := by
  have hI := h
  obtain ⟨n, K, F, L, c, d, t, b0, b1, ⟨v1, v2, v3, v4, v5⟩, ⟨rfl, rfl, rfl, w4, w5, w6, w7⟩, ⟨rfl, rfl, m3, m4⟩, hT, hX, hk, h0, h1, hf⟩ := h
  by_cases hlo : p1 < 1
  · refine ⟨(-2, g_ts, nI n, nI K, nI F, w_cs, w_ds), (-2, nI n, nI K, m_ds, m_cs), ?_, ?_, rfl, hI⟩
    · unfold M_X4_size; rw [if_pos hlo]
    · unfold M_X5_size; rw [not_in (Or.inl hlo), ob_sb, if_pos rfl]
  · by_cases hhi : p1 ≤ 14
    · obtain ⟨n', hn1, hn2, rfl⟩ := between (a := 1) (b := 14) (by decide) (by decide) hlo hhi
      obtain ⟨F', cs', ds', r1, r2, r3, r4, r5⟩ := m_resize (K := K) (F := F) (cs := w_cs) (ds := w_ds) hn1 hn2
      obtain ⟨ds'', cs'', s1, s2, s3⟩ := m5_size (K := K) (sz := nI n) (md := m_ds) (mcs := m_cs) hn1 hn2
      have hpow := Nat.two_pow_pos n'
      refine ⟨(nI n, 0, nI n', nI (K &&& (2 ^ n' - 1)), nI F', cs', ds'), (nI n, nI n', nI (K &&& (2 ^ n' - 1)), ds'', cs''), ?_, s1, rfl, n', K &&& (2 ^ n' - 1), F', L, fun i => if i < n' then c i else 1, fun i => if i < n' then (d i).map (fun s => s &&& (2 ^ n' - 1)) else none, t, b0, b1, ⟨hn1, hn2, Nat.and_lt_two_pow _ (by omega), fun i => ?_, fun w s hw => ?_⟩, ⟨rfl, rfl, rfl, zlt_of (fun i hi => ?_), fun i => ?_, fun i hi => ?_, fun i hi => ?_⟩, ⟨rfl, rfl, fun i hi => ?_, fun i hi => ?_⟩, Or.inl rfl, hX, hk, h0, h1, hf⟩
      · unfold M_X4_size; rw [if_neg hlo, if_pos hhi, r1]; rfl
      · dsimp only
        split
        · exact v4 i
        · exact ⟨Nat.le_refl 1, by omega⟩
      · dsimp only at hw
        by_cases q : w < n'
        · rw [if_pos q] at hw
          cases hd : d w with
          | none => rw [hd] at hw; cases hw
          | some s' =>
            rw [hd] at hw
            cases hw
            exact ⟨q, Nat.and_lt_two_pow _ (by omega)⟩
        · rw [if_neg q] at hw; cases hw
      · rcases Nat.lt_or_ge i 14 with q | q
        · exact q
        · rw [r3 i q, zlt_bit w4 q] at hi; cases hi
      · dsimp only
        rcases Nat.lt_or_ge i 14 with q | q
        · rw [r2 i q, w5 i]
          by_cases g : i < n'
          · rw [decide_eq_true g, if_pos g]; cases d i <;> rfl
          · rw [decide_eq_false g, if_neg g]; rfl
        · rw [r3 i q, zlt_bit w4 q, if_neg (by omega)]; rfl
      · show cs' i = _
        rw [r4 i hi]
        dsimp only
        by_cases g : i < n'
        · rw [if_pos g, if_pos g]; exact w6 i hi
        · rw [if_neg g, if_neg g]; rfl
      · show ds' i = _
        rw [r5 i hi]
        unfold zu
        by_cases g : i < n'
        · rw [if_pos g, w7 i hi, i_and]
          dsimp only
          rw [if_pos g]
          unfold zu
          cases d i with
          | none => show nI (0 &&& _) = nI 0; rw [Nat.zero_and]
          | some s => rfl
        · rw [if_neg g]
          dsimp only
          rw [if_neg g]; rfl
      · show cs'' i = _
        rw [s3 i hi]
        dsimp only
        by_cases g : i < n'
        · rw [if_pos g, if_pos g]; exact m3 i hi
        · rw [if_neg g, if_neg g]; rfl
      · show ds'' i = _
        rw [s2 i hi, m4 i hi]
        by_cases g : i < n'
        · rw [if_pos g]
          cases hd : d i with
          | none =>
            have hz : (fun i => if i < n' then (d i).map (fun s => s &&& (2 ^ n' - 1)) else none) i = none := by dsimp only; rw [if_pos g, hd]; rfl
            rw [zm_none hd, if_pos neg6]
            exact (zm_none hz).symm
          | some s =>
            rw [zm_some hd, if_neg (nI_pos (lt31 (v5 i s hd).2 v2)), i_and]
            have hz : (fun i => if i < n' then (d i).map (fun s => s &&& (2 ^ n' - 1)) else none) i = some (s &&& (2 ^ n' - 1)) := by dsimp only; rw [if_pos g, hd]; rfl
            exact (zm_some hz).symm
        · rw [if_neg g]
          have hz : (fun i => if i < n' then (d i).map (fun s => s &&& (2 ^ n' - 1)) else none) i = none := by dsimp only; rw [if_neg g]
          exact (zm_none hz).symm
    · refine ⟨(-2, g_ts, nI n, nI K, nI F, w_cs, w_ds), (-2, nI n, nI K, m_ds, m_cs), ?_, ?_, rfl, hI⟩
      · unfold M_X4_size; rw [if_neg hlo, if_neg hhi]
      · unfold M_X5_size; rw [not_in (Or.inr (lt_of_nle hhi)), ob_sb, if_pos rfl]
theorem upd_at (f : Nat → Int32) (k : Nat) (x : Int32) : upd f k x k = x := if_pos rfl
theorem upd_no {f : Nat → Int32} {k i : Nat} {x : Int32} (h : i ≠ k) : upd f k x i = f i := if_neg h
/-- a definition set: class and model -/
theorem def_new {n K F w : Nat} {o : Option Nat} {c : Nat → Nat} {d : Nat → Option Nat} {cs ds mcs mds : Nat → Int32} {F' : Nat} (hV : VW n K c d) (hC : CW n K F c d (nI n) (nI K) (nI F) cs ds) (hM : MW n K c d (nI n) (nI K) mcs mds) (hw : w < n) (ho : ∀ s, o = some s → s < 2 ^ n) (hF' : ∀ i, F'.testBit i = if i = w then o.isSome else F.testBit i) :
    VW n K c (fun i => if i = w then o else d i) ∧ CW n K F' c (fun i => if i = w then o else d i) (nI n) (nI K) (nI F') cs (upd ds w (nI (o.getD 0))) ∧ MW n K c (fun i => if i = w then o else d i) (nI n) (nI K) mcs (upd mds w (match o with | none => -6 | some s => nI s)) := by
  obtain ⟨v1, v2, v3, v4, v5⟩ := hV
  obtain ⟨-, -, -, w4, w5, w6, w7⟩ := hC
  obtain ⟨-, -, m3, m4⟩ := hM
  refine ⟨⟨v1, v2, v3, v4, fun i s h => ?_⟩, ⟨rfl, rfl, rfl, zlt_of (fun i hi => ?_), fun i => ?_, w6, fun i hi => ?_⟩, ⟨rfl, rfl, m3, fun i hi => ?_⟩⟩
  · dsimp only at h
    by_cases e : i = w
    · rw [if_pos e] at h; rw [e]; exact ⟨hw, ho s h⟩
    · rw [if_neg e] at h; exact v5 i s h
  · rw [hF'] at hi
    by_cases e : i = w
    · omega
    · rw [if_neg e] at hi; exact zbit_lt w4 hi
  · rw [hF']
    dsimp only
    by_cases e : i = w
    · rw [if_pos e, if_pos e]
    · rw [if_neg e, if_neg e]; exact w5 i
  · by_cases e : i = w
    · rw [e, upd_at]
      unfold zu
      dsimp only
      rw [if_pos rfl]
    · rw [upd_no e, w7 i hi]
      unfold zu
      dsimp only
      rw [if_neg e]
  · by_cases e : i = w
    · rw [e, upd_at]
      unfold zm
      dsimp only
      rw [if_pos rfl]
      cases o <;> rfl
    · rw [upd_no e, m4 i hi]
      unfold zm
      dsimp only
      rw [if_neg e]
theorem ok_define {g_kp : Int32} {g_tf : Int32} {g_ts : Int32} {w_t : Int32} {w_k : Int32} {w_f : Int32} {w_cs : Nat → Int32} {w_ds : Nat → Int32} {i_t : Int32} {i_k : Int32} {i_f : Int32} {i_cs : Nat → Int32} {i_ds : Nat → Int32} {j_t : Int32} {j_k : Int32} {j_f : Int32} {j_cs : Nat → Int32} {j_ds : Nat → Int32} {t_ln : Int32} {t_sg : Nat → Int32} {r_t : Int32} {r_ir : Int32} {r_rc : Nat → Int32} {e_mu : Int32} {e_ma : Int32} {e_cf : Nat → Int64} {m_sz : Int32} {m_kn : Int32} {m_sg : Int32} {m_fa : Int32} {m_ds : Nat → Int32} {m_cs : Nat → Int32} {m_tx : Nat → Int32} {m_ia : Nat → Int32} {m_im : Nat → Int32} {m_ik : Nat → Int32} (h : INV g_kp g_tf g_ts w_t w_k w_f w_cs w_ds i_t i_k i_f i_cs i_ds j_t j_k j_f j_cs j_ds t_ln t_sg r_t r_ir r_rc e_mu e_ma e_cf m_sz m_kn m_sg m_fa m_ds m_cs m_tx m_ia m_im m_ik) : ∃ (R : Int32 × Int32 × Int32 × Int32 × (Nat → Int32) × Int32) (R' : Int32 × Int32 × Int32 × (Nat → Int32)), M_X4_define w_t w_f w_ds t_sg t_ln g_tf g_ts = some R ∧ M_X5_define m_sz m_ds m_tx m_sg m_fa = some R' ∧ R.1 = R'.1 ∧ INV g_kp R.2.1 R.2.2.1 w_t w_k R.2.2.2.1 w_cs R.2.2.2.2.1 i_t i_k i_f i_cs i_ds j_t j_k j_f j_cs j_ds R.2.2.2.2.2 t_sg r_t r_ir r_rc e_mu e_ma e_cf m_sz m_kn R'.2.1 R'.2.2.1 R'.2.2.2 m_cs m_tx m_ia m_im m_ik := by
  have hI := h
  obtain ⟨n, K, F, L, c, d, t, b0, b1, hV, hC, hM, hT, ⟨x1, rfl, rfl, x4, x5, x6⟩, hk, h0, h1, hf⟩ := h
  obtain ⟨rfl, rfl, rfl, -⟩ := id hC
  obtain ⟨rfl, rfl, -⟩ := id hM
  obtain ⟨v1, v2, v3, v4, v5⟩ := id hV
  obtain ⟨-, -, -, w4, w5, w6, w7⟩ := id hC
  obtain ⟨c1, c2⟩ := m_faultPlace v2 x1 x4 x6
  obtain ⟨e1, e2⟩ := m5_faultNow v1 v2 x1 x5 x6
  have hbadcase : ∀ j, j ≤ 20 → M_X2_faultPlace (nI n) t_sg (nI L) = some (nI j) → M_X5_faultNow (nI n) m_tx (nI L) = some (nI j) → ∃ (R : Int32 × Int32 × Int32 × Int32 × (Nat → Int32) × Int32) (R' : Int32 × Int32 × Int32 × (Nat → Int32)), M_X4_define (nI n) (nI F) w_ds t_sg (nI L) g_tf g_ts = some R ∧ M_X5_define (nI n) m_ds m_tx (nI L) m_fa = some R' ∧ R = (-7, nI j, g_ts, nI F, w_ds, nI L) ∧ R' = (-7, nI L, nI j, m_ds) := by
    intro j hj a1 a2
    refine ⟨_, _, ?_, ?_, rfl, rfl⟩
    · unfold M_X4_define
      rw [a1, ob_sb, if_neg (fun q => nI_pos (n := j) (by omega) (by rw [q]; decide))]
    · unfold M_X5_define
      rw [a2, ob_sb, if_neg (nI_pos (by omega))]
  rcases first_of (fun i => zbad n t i = true) L with q | ⟨j, q1, q2, q3⟩
  · have q' : ∀ i, i < L → zbad n t i = false := fun i hi => ts_nt (q i hi)
    have a1 := c2 q'
    have a2 := e2 q'
    by_cases hL2 : L < 2
    · rw [if_pos hL2] at a1 a2
      obtain ⟨R, R', g1, g2, rfl, rfl⟩ := hbadcase L x1 a1 a2
      exact ⟨_, _, g1, g2, rfl, n, K, F, L, c, d, t, b0, b1, hV, hC, hM, hT, ⟨x1, rfl, rfl, x4, x5, x6⟩, hk, h0, h1, rfl⟩
    · rw [if_neg hL2] at a1 a2
      obtain ⟨k, rfl⟩ : ∃ k, L = k + 2 := ⟨L - 2, by omega⟩
      have z0 : zisw n (t 0) = true := by
        have := q' 0 (by omega)
        rw [show zbad n t 0 = !zisw n (t 0) from rfl] at this
        cases hz : zisw n (t 0) with
        | true => rfl
        | false => rw [hz] at this; cases this
      have z0' := z0
      unfold zisw at z0'
      have hw := of_decide_eq_true z0'
      have hwn : t 0 - 97 < n := hw.2
      have hsub0 : t_sg (0 : Int32).toNatClampNeg - 97 = nI (t 0 - 97) := by
        rw [show t_sg (0 : Int32).toNatClampNeg = nI (t 0) from x4 0 (by decide)]; exact i_let hw.1
      have hsub1 : m_tx (0 : Int32).toNatClampNeg - 97 = nI (t 0 - 97) := by
        rw [show m_tx (0 : Int32).toNatClampNeg = nI (t 0) from x5 0 (by decide)]; exact i_let hw.1
      have htw : M_X2_toldWord t_sg = some (nI (t 0 - 97)) := by unfold M_X2_toldWord; rw [hsub0]
      have h46e : (m_tx (1 : Int32).toNatClampNeg = 46) ↔ t 1 = 46 := by
        rw [show m_tx (1 : Int32).toNatClampNeg = nI (t 1) from x5 1 (by decide)]
        exact i_46 (x6 1 (by decide))
      obtain ⟨w, hwe⟩ : ∃ w, w = t 0 - 97 := ⟨_, rfl⟩
      rw [← hwe] at hwn hsub0 hsub1 htw
      have hib : ¬ (nI w < 0 ∨ 14 ≤ (nI w).toNatClampNeg) := i_in (by omega) (by decide)
      by_cases h46 : t 1 = 46
      · have hF' : ∀ i, (zdif F (2 ^ w)).testBit i = if i = w then (none : Option Nat).isSome else F.testBit i := fun i => by
          rw [zdif_bit, zone_bit]
          by_cases e : i = w
          · rw [if_pos e, e, decide_eq_true rfl]; simp
          · rw [if_neg e, decide_eq_false (fun g => e g.symm)]; simp
        obtain ⟨gV, gC, gM⟩ := def_new (o := none) hV hC hM hwn (fun s hs => by cases hs) hF'
        refine ⟨(-6, g_tf, 0, nI (zdif F (2 ^ w)), upd w_ds w 0, 0), (-6, 0, m_fa, upd m_ds w (-6)), ?_, ?_, rfl, n, K, zdif F (2 ^ w), 0, c, fun i => if i = w then none else d i, t, b0, b1, gV, gC, gM, Or.inl rfl, ⟨Nat.zero_le _, rfl, rfl, x4, x5, x6⟩, hk, h0, h1, hf⟩
        · unfold M_X4_define
          rw [a1, ob_sb, if_pos rfl, htw, ob_sb, m_tells x4 x6, ob_sb, if_pos h46, if_neg (by decide), m_makeBare (by omega), ob_sb, m_isBare (zdif_lt w4) (by omega), ob_sb, hF' w, if_pos rfl]
          rfl
        · unfold M_X5_define
          rw [a2, ob_sb, if_pos (by decide), if_pos (h46e.mpr h46), hsub1, if_neg hib, if_neg hib, i_cl (by omega), upd_at, if_neg (by decide)]
      · have hz1 : t 1 = 58 := by
          have hb1 := q' 1 (by omega)
          rw [show zbad n t 1 = !(decide (t 1 = 58) || decide (t 1 = 46)) from rfl, decide_eq_false h46, Bool.or_false] at hb1
          by_cases g : t 1 = 58
          · exact g
          · rw [decide_eq_false g] at hb1; cases hb1
        have hisw : ∀ j, j < k → zisw n (t (j + 2)) = true := fun j hj => (zbad_isw (q' (j + 2) (by omega))).2.1
        have hSn := zseen_lt k hisw
        have hF' : ∀ i, (F ||| 2 ^ w).testBit i = if i = w then (some (zseen t k)).isSome else F.testBit i := fun i => by
          rw [Nat.testBit_or, zone_bit]
          by_cases e : i = w
          · rw [if_pos e, e, decide_eq_true rfl]; simp
          · rw [if_neg e, decide_eq_false (fun g => e g.symm)]; simp
        have hFl : F ||| 2 ^ w < 2 ^ 14 := Nat.or_lt_two_pow w4 (Nat.pow_lt_pow_right (by decide) (by omega))
        obtain ⟨gV, gC, gM⟩ := def_new (o := some (zseen t k)) hV hC hM hwn (fun s hs => by cases hs; exact hSn) hF'
        refine ⟨(nI (zpc (zseen t k) 14), g_tf, 0, nI (F ||| 2 ^ w), upd w_ds w (nI (zseen t k)), 0), (nI (zpc (zseen t k) 14), 0, m_fa, upd m_ds w (nI (zseen t k))), ?_, ?_, rfl, n, K, F ||| 2 ^ w, 0, c, fun i => if i = w then some (zseen t k) else d i, t, b0, b1, gV, gC, gM, Or.inl rfl, ⟨Nat.zero_le _, rfl, rfl, x4, x5, x6⟩, hk, h0, h1, hf⟩
        · unfold M_X4_define
          rw [a1, ob_sb, if_pos rfl, htw, ob_sb, m_tells x4 x6, ob_sb, if_neg h46, if_pos rfl, m_toldSet v2 x1 x4 x6 hisw, ob_sb, m_setDefinition (by omega), ob_sb, m_isBare hFl (by omega), ob_sb, hF' w, if_pos rfl]
          show (if (0 : Int32) = 0 then (if nI w < 0 ∨ 14 ≤ (nI w).toNatClampNeg then none else ((M_J6_bitCount_0f7a4 (upd w_ds w (nI (zseen t k)) (nI w).toNatClampNeg)).bind (fun q111 => some (q111, g_tf, 0, nI (F ||| 2 ^ w), upd w_ds w (nI (zseen t k)), 0)))) else _) = _
          rw [if_pos rfl, if_neg hib, i_cl (by omega), upd_at, bc_all (lt14 hSn v2), ob_sb]
        · unfold M_X5_define
          rw [a2, ob_sb, if_pos (by decide), if_neg (fun g => h46 (h46e.mp g)), m5_toldUpTo v2 x1 x5 hisw, ob_sb, hsub1, if_neg hib, if_neg hib, if_neg hib, i_cl (by omega), upd_at, if_pos (nI_pos' (lt31 hSn v2)), m5_bits (lt31 hSn v2), ob_sb]
  · have q' : ∀ i, i < j → zbad n t i = false := fun i hi => ts_nt (q3 i hi)
    obtain ⟨R, R', g1, g2, rfl, rfl⟩ := hbadcase j (by omega) (c1 j q1 q2 q') (e1 j q1 q2 q')
    exact ⟨_, _, g1, g2, rfl, n, K, F, L, c, d, t, b0, b1, hV, hC, hM, hT, ⟨x1, rfl, rfl, x4, x5, x6⟩, hk, h0, h1, rfl⟩
theorem ok_count {g_kp : Int32} {g_tf : Int32} {g_ts : Int32} {w_t : Int32} {w_k : Int32} {w_f : Int32} {w_cs : Nat → Int32} {w_ds : Nat → Int32} {i_t : Int32} {i_k : Int32} {i_f : Int32} {i_cs : Nat → Int32} {i_ds : Nat → Int32} {j_t : Int32} {j_k : Int32} {j_f : Int32} {j_cs : Nat → Int32} {j_ds : Nat → Int32} {t_ln : Int32} {t_sg : Nat → Int32} {r_t : Int32} {r_ir : Int32} {r_rc : Nat → Int32} {e_mu : Int32} {e_ma : Int32} {e_cf : Nat → Int64} {m_sz : Int32} {m_kn : Int32} {m_sg : Int32} {m_fa : Int32} {m_ds : Nat → Int32} {m_cs : Nat → Int32} {m_tx : Nat → Int32} {m_ia : Nat → Int32} {m_im : Nat → Int32} {m_ik : Nat → Int32} (h : INV g_kp g_tf g_ts w_t w_k w_f w_cs w_ds i_t i_k i_f i_cs i_ds j_t j_k j_f j_cs j_ds t_ln t_sg r_t r_ir r_rc e_mu e_ma e_cf m_sz m_kn m_sg m_fa m_ds m_cs m_tx m_ia m_im m_ik) (p1 : Int32) : ∃ (R : Int32) (R' : Int32), M_X4_count w_t w_k w_f w_cs w_ds p1 t_ln g_kp g_tf = some R ∧ M_X5_count p1 m_sz m_ds m_cs m_kn m_sg m_fa m_ik = some R' ∧ R = R' ∧ INV g_kp g_tf g_ts w_t w_k w_f w_cs w_ds i_t i_k i_f i_cs i_ds j_t j_k j_f j_cs j_ds t_ln t_sg r_t r_ir r_rc e_mu e_ma e_cf m_sz m_kn m_sg m_fa m_ds m_cs m_tx m_ia m_im m_ik := by
  have hI := h
  obtain ⟨n, K, F, L, c, d, t, b0, b1, ⟨v1, v2, v3, v4, v5⟩, ⟨rfl, rfl, rfl, w4, w5, w6, w7⟩, ⟨rfl, rfl, m3, m4⟩, hT, ⟨x1, rfl, rfl, x4, x5, x6⟩, rfl, h0, h1, rfl⟩ := h
  have hFn : F < 2 ^ n := zlt_of fun i hi => by
    rw [w5 i] at hi
    cases hd : d i with
    | none => rw [hd] at hi; cases hi
    | some s => exact (v5 i s hd).1
  have e9 : 9 + nI n = nI (9 + n) := nI_add 9 n
  have small : ∀ v, v < 10 → M_X5_in (nI v) 10 (9 + nI n) = some 0 := fun v hv => not_in (Or.inl (nI_lt (b := 10) hv (by decide)))
  have hcnt : ∀ p, M_X5_in p 10 (9 + nI n) = some 0 → M_X5_count p (nI n) m_ds m_cs (nI K) (nI L) g_tf m_ik = if p = 0 then (some (nI n)) else (if p = 1 then (some (nI K)) else (if p = 2 then (some (nI (zpc F n))) else (if p = 3 then (some (nI (zoft d n))) else (if p = 4 then (some (nI L)) else (if p = 5 then (some g_tf) else (if p = 6 then (if (m_ik 0) = 0 then (if (m_ik 1) = 0 then (some ((0 : Int32) + 0)) else (some ((0 : Int32) + 2))) else (if (m_ik 1) = 0 then (some ((1 : Int32) + 0)) else (some ((1 : Int32) + 2)))) else (some (-2)))))))) := by
    intro p hp
    unfold M_X5_count
    rw [hp, ob_sb, if_pos rfl, m5_count v2 v5 m4 w5]
    rfl
  by_cases q0 : p1 = 0
  · refine ⟨nI n, nI n, ?_, ?_, rfl, hI⟩
    · unfold M_X4_count; rw [if_pos q0]
    · rw [hcnt p1 (by rw [q0]; exact small 0 (by decide)), if_pos q0]
  · by_cases q1 : p1 = 1
    · refine ⟨nI K, nI K, ?_, ?_, rfl, hI⟩
      · unfold M_X4_count; rw [if_neg q0, if_pos q1]
      · rw [hcnt p1 (by rw [q1]; exact small 1 (by decide)), if_neg q0, if_pos q1]
    · by_cases q2 : p1 = 2
      · refine ⟨nI (zpc F n), nI (zpc F n), ?_, ?_, rfl, hI⟩
        · unfold M_X4_count; rw [if_neg q0, if_neg q1, if_pos q2, bc_all w4, ob_sb, zpc_ext hFn 14 v2]
        · rw [hcnt p1 (by rw [q2]; exact small 2 (by decide)), if_neg q0, if_neg q1, if_pos q2]
      · by_cases q3 : p1 = 3
        · refine ⟨nI (zoft d n), nI (zoft d n), ?_, ?_, rfl, hI⟩
          · unfold M_X4_count; rw [if_neg q0, if_neg q1, if_neg q2, if_pos q3, m_howOften v2 v5 w7, ob_sb]
          · rw [hcnt p1 (by rw [q3]; exact small 3 (by decide)), if_neg q0, if_neg q1, if_neg q2, if_pos q3]
        · by_cases q4 : p1 = 4
          · refine ⟨nI L, nI L, ?_, ?_, rfl, hI⟩
            · unfold M_X4_count; rw [if_neg q0, if_neg q1, if_neg q2, if_neg q3, if_pos q4]
            · rw [hcnt p1 (by rw [q4]; exact small 4 (by decide)), if_neg q0, if_neg q1, if_neg q2, if_neg q3, if_pos q4]
          · by_cases q5 : p1 = 5
            · refine ⟨g_tf, g_tf, ?_, ?_, rfl, hI⟩
              · unfold M_X4_count; rw [if_neg q0, if_neg q1, if_neg q2, if_neg q3, if_neg q4, if_pos q5]
              · rw [hcnt p1 (by rw [q5]; exact small 5 (by decide)), if_neg q0, if_neg q1, if_neg q2, if_neg q3, if_neg q4, if_pos q5]
            · by_cases q6 : p1 = 6
              · refine ⟨nI (zb b0 + 2 * zb b1), nI (zb b0 + 2 * zb b1), ?_, ?_, rfl, hI⟩
                · unfold M_X4_count; rw [if_neg q0, if_neg q1, if_neg q2, if_neg q3, if_neg q4, if_neg q5, if_pos q6]
                · rw [hcnt p1 (by rw [q6]; exact small 6 (by decide)), if_neg q0, if_neg q1, if_neg q2, if_neg q3, if_neg q4, if_neg q5, if_pos q6, h0.1, h1.1]
                  cases b0 <;> cases b1 <;> rfl
              · by_cases hw : (p1 - 10) < 0 ∨ nI n ≤ (p1 - 10)
                · have hno : M_X5_in p1 10 (9 + nI n) = some 0 := by
                    by_cases g1 : p1 < 10
                    · exact not_in (Or.inl g1)
                    · by_cases g2 : p1 ≤ nI (9 + n)
                      · obtain ⟨v, hv1, hv2, rfl⟩ := between (a := 10) (b := 9 + n) (by decide) (by omega) g1 g2
                        exfalso
                        rw [show nI v - 10 = nI (v - 10) from pk_sub (b := 10) hv1] at hw
                        rcases hw with hw | hw
                        · exact nI_pos (n := v - 10) (by omega) hw
                        · exact nI_ge (a := v - 10) (b := n) (by omega) (by omega) hw
                      · exact not_in (Or.inr (by rw [e9]; exact lt_of_nle g2))
                  refine ⟨-2, -2, ?_, ?_, rfl, hI⟩
                  · unfold M_X4_count; rw [if_neg q0, if_neg q1, if_neg q2, if_neg q3, if_neg q4, if_neg q5, if_neg q6, m_has_no hw, ob_sb, if_pos rfl]
                  · rw [hcnt p1 hno, if_neg q0, if_neg q1, if_neg q2, if_neg q3, if_neg q4, if_neg q5, if_neg q6]
                · obtain ⟨j, hj, hje⟩ : ∃ j, j < n ∧ p1 - 10 = nI j := by
                    rcases pk_ix (p1 - 10) (n := n) (by omega) with q | q | q
                    · exact absurd (Or.inl q) hw
                    · exact absurd (Or.inr q) hw
                    · exact q
                  have hpe : p1 = nI (j + 10) := by
                    have h1 : p1 - 10 + 10 = nI j + 10 := by rw [hje]
                    rw [Int32.sub_add_cancel] at h1
                    rw [h1]; exact nI_add j 10
                  have hyes : M_X5_in p1 10 (9 + nI n) = some 1 := by
                    rw [hpe, e9]
                    exact yes_in (nI_nlt (b := 10) (by omega) (by omega)) (nI_nlt (by omega) (by omega))
                  refine ⟨nI (c j), nI (c j), ?_, ?_, rfl, hI⟩
                  · unfold M_X4_count; rw [if_neg q0, if_neg q1, if_neg q2, if_neg q3, if_neg q4, if_neg q5, if_neg q6, hje, m_has_yes v2 hj, ob_sb, if_neg (by decide), if_neg (i_in (by omega) (by decide)), i_cl (by omega), w6 j (by omega)]
                  · unfold M_X5_count; rw [hyes, ob_sb, if_neg (by decide), hje, if_neg (i_in (by omega) (by decide)), i_cl (by omega), m3 j (by omega)]
