/-! plans, least sets, images, the start -/
theorem m_tell {n F : Nat} {d : Nat → Option Nat} {ds rc : Nat → Int32} {mu ma ts rt ri : Int32} {cf : Nat → Int64} (hn : n ≤ 14) (hd : zwf d n) (hds : ∀ i, i < 14 → ds i = nI (zu d i)) (hT : TE n F d ts mu ma cf) :
    ∃ rt' ri' rc' cf', M_X4_currentTellings (nI n) (nI F) ds rt rc ri mu ma cf ts = some (1, rt', ri', rc', nI (zdif (2 ^ n - 1) F), nI (zring d n n), cf') ∧ ztab d (zring d n n) cf' := by
  by_cases h : ts = 0
  · obtain ⟨rc', t1, t2⟩ := m_trace (rc := rc) hn hd hds
    obtain ⟨cf', f1, f2⟩ := m_find (F := F) (cf := cf) hn hd hds
    refine ⟨nI n, nI (zring d n n), rc', cf', ?_, f2⟩
    unfold M_X4_currentTellings M_X4_currentRings
    rw [if_pos h, t1]
    show (M_X1_find (nI n) (nI F) ds (nI (zring d n n)) cf).bind _ = _
    rw [f1]
    rfl
  · rcases hT with q | ⟨rfl, rfl, rfl, q⟩
    · exact absurd q h
    · refine ⟨rt, ri, rc, cf, ?_, q⟩
      unfold M_X4_currentTellings
      rw [if_neg h]
theorem zplan_ok {d : Nat → Option Nat} {n base : Nat} {c : Nat → Nat} (hb : base < 2 ^ n) : zday d n (base ||| zmin (zfeM d n base) (zles c n) (zdif (2 ^ n - 1) base) (2 ^ n)) n = 2 ^ n - 1 := by
  have hb0 : zfeM d n base (zdif (2 ^ n - 1) base) := by
    refine ⟨zero_of_bits fun i => ?_, ?_⟩
    · rw [Nat.testBit_and, zdif_bit]
      cases base.testBit i <;> simp
    · have e : base ||| zdif (2 ^ n - 1) base = 2 ^ n - 1 := Nat.eq_of_testBit_eq fun i => by
        rw [Nat.testBit_or, zdif_bit, zfull_bit]
        cases hq : base.testBit i with
        | false => simp
        | true => rw [decide_eq_true (zbit_lt hb hq)]; rfl
      rw [e]
      exact zsub_anti (zsub_full.mpr (zday_lt (by have := Nat.two_pow_pos n; omega) n)) (zday_le d n _ (Nat.zero_le n))
  exact (zmin_les (feas := zfeM d n base) (c := c) (n := n) hb0 (2 ^ n)).1.2
theorem zplan_lt {d : Nat → Option Nat} {n base : Nat} {c : Nat → Nat} : zmin (zfeM d n base) (zles c n) (zdif (2 ^ n - 1) base) (2 ^ n) < 2 ^ n :=
  zmin_lt (zdif_lt (by have := Nat.two_pow_pos n; omega)) (2 ^ n) (Nat.le_refl _)
theorem ok_plan {g_kp : Int32} {g_tf : Int32} {g_ts : Int32} {w_t : Int32} {w_k : Int32} {w_f : Int32} {w_cs : Nat → Int32} {w_ds : Nat → Int32} {i_t : Int32} {i_k : Int32} {i_f : Int32} {i_cs : Nat → Int32} {i_ds : Nat → Int32} {j_t : Int32} {j_k : Int32} {j_f : Int32} {j_cs : Nat → Int32} {j_ds : Nat → Int32} {t_ln : Int32} {t_sg : Nat → Int32} {r_t : Int32} {r_ir : Int32} {r_rc : Nat → Int32} {e_mu : Int32} {e_ma : Int32} {e_cf : Nat → Int64} {m_sz : Int32} {m_kn : Int32} {m_sg : Int32} {m_fa : Int32} {m_ds : Nat → Int32} {m_cs : Nat → Int32} {m_tx : Nat → Int32} {m_ia : Nat → Int32} {m_im : Nat → Int32} {m_ik : Nat → Int32} (h : INV g_kp g_tf g_ts w_t w_k w_f w_cs w_ds i_t i_k i_f i_cs i_ds j_t j_k j_f j_cs j_ds t_ln t_sg r_t r_ir r_rc e_mu e_ma e_cf m_sz m_kn m_sg m_fa m_ds m_cs m_tx m_ia m_im m_ik) (p1 : Int32) : ∃ (R : Int32 × Int32 × Int32 × Int32 × (Nat → Int32) × Int32 × Int32 × (Nat → Int64)) (R' : Int32), M_X4_plan w_t w_k w_f w_cs w_ds p1 r_t r_rc r_ir e_mu e_ma e_cf g_ts = some R ∧ M_X5_plan p1 m_sz m_ds m_cs m_kn = some R' ∧ R.1 = R' ∧ INV g_kp g_tf R.2.1 w_t w_k w_f w_cs w_ds i_t i_k i_f i_cs i_ds j_t j_k j_f j_cs j_ds t_ln t_sg R.2.2.1 R.2.2.2.1 R.2.2.2.2.1 R.2.2.2.2.2.1 R.2.2.2.2.2.2.1 R.2.2.2.2.2.2.2 m_sz m_kn m_sg m_fa m_ds m_cs m_tx m_ia m_im m_ik := by
  have hI := h
  obtain ⟨n, K, F, L, c, d, t, b0, b1, ⟨v1, v2, v3, v4, v5⟩, ⟨rfl, rfl, rfl, w4, w5, w6, w7⟩, ⟨rfl, rfl, m3, m4⟩, hT, hX, hk, h0, h1, hf⟩ := h
  by_cases hlo : p1 < 0
  · refine ⟨(-2, g_ts, r_t, r_ir, r_rc, e_mu, e_ma, e_cf), -2, ?_, ?_, rfl, hI⟩
    · unfold M_X4_plan; rw [if_pos hlo]
    · unfold M_X5_plan; rw [not_in (Or.inl hlo), ob_sb, if_pos rfl]
  · by_cases hhi : p1 ≤ 3
    · obtain ⟨rt', ri', rc', cf', ht, htab⟩ := m_tell (rc := r_rc) (rt := r_t) (ri := r_ir) v2 v5 w7 hT
      have hc := m_cheapest v2 v5 (zbar_of w5) w6 v4 v3 htab
      have hm := m5_planFor v2 v5 m4 m3 (fun i => (v4 i).2) v3
      have hPok := zplan_ok (d := d) (c := c) v3
      have hPn := zplan_lt (d := d) (n := n) (base := K) (c := c)
      obtain ⟨P, hP⟩ : ∃ x, x = zmin (zfeM d n K) (zles c n) (zdif (2 ^ n - 1) K) (2 ^ n) := ⟨_, rfl⟩
      rw [← hP] at hc hm hPok hPn
      obtain ⟨v, -, hv, rfl⟩ := between (a := 0) (b := 3) (by decide) (by decide) hlo hhi
      have hin : M_X5_in (nI v) 0 3 = some 1 := yes_in hlo (nlt_of_le hhi)
      have key : ∃ r, M_X4_plan (nI n) (nI K) (nI F) w_cs w_ds (nI v) r_t r_rc r_ir e_mu e_ma e_cf g_ts = some (r, 1, rt', ri', rc', nI (zdif (2 ^ n - 1) F), nI (zring d n n), cf') ∧ M_X5_plan (nI v) (nI n) m_ds m_cs (nI K) = some r := by
        unfold M_X4_plan M_X5_plan
        rw [if_neg hlo, if_pos hhi, ht, hin]
        simp only [ob_sb]
        rw [hc, hm, if_neg (show ¬ (1 : Int32) = 0 by decide)]
        simp only [ob_sb]
        rcases (by omega : v = 0 ∨ v = 1 ∨ v = 2 ∨ v = 3) with rfl | rfl | rfl | rfl
        · rw [if_pos (show nI 0 = 0 from rfl), if_neg (show ¬ 3 ≤ nI 0 by decide), if_pos (show nI 0 = 0 from rfl)]
          exact ⟨_, rfl, rfl⟩
        · rw [if_neg (show ¬ nI 1 = 0 by decide), if_pos (show nI 1 = 1 from rfl), if_neg (show ¬ 3 ≤ nI 1 by decide), if_neg (show ¬ nI 1 = 0 by decide), if_pos (show nI 1 = 1 from rfl), m_costOf v2 w6 (lt31 hPn v2), m5_costOf v2 m3 (lt31 hPn v2)]
          exact ⟨_, rfl, rfl⟩
        · rw [if_neg (show ¬ nI 2 = 0 by decide), if_neg (show ¬ nI 2 = 1 by decide), if_pos (show nI 2 = 2 from rfl), if_neg (show ¬ 3 ≤ nI 2 by decide), if_neg (show ¬ nI 2 = 0 by decide), if_neg (show ¬ nI 2 = 1 by decide), bc_all (lt14 hPn v2), m5_bits (lt31 hPn v2)]
          exact ⟨_, rfl, rfl⟩
        · rw [if_neg (show ¬ nI 3 = 0 by decide), if_neg (show ¬ nI 3 = 1 by decide), if_neg (show ¬ nI 3 = 2 by decide), if_pos (show 3 ≤ nI 3 by decide), m_all v2]
          simp only [ob_sb]
          have hKP : K ||| P < 2 ^ n := Nat.or_lt_two_pow v3 hPn
          have hfl : 2 ^ n - 1 < 2 ^ 14 := by have := p14 v2; have := Nat.two_pow_pos n; omega
          rcases first_of (fun i => zday d n (K ||| P) i = 2 ^ n - 1) (n + 1) with q | ⟨k, q1, q2, q3⟩
          · exact absurd hPok (q n (by omega))
          · have hd1 := (m_daysTill (S := K ||| P) v2 v5 w7 w4 w5 hfl).1 k (by omega) ((zsub_fulleq (zday_lt hKP k)).mpr q2) (fun j hj g => q3 j hj ((zsub_fulleq (zday_lt hKP j)).mp g))
            rw [i_or, hd1, m5_planDays v2 v5 m4 v3 hPn (by omega) q2 q3]
            exact ⟨_, rfl, rfl⟩
      obtain ⟨r, r1, r2⟩ := key
      exact ⟨_, _, r1, r2, rfl, n, K, F, L, c, d, t, b0, b1, ⟨v1, v2, v3, v4, v5⟩, ⟨rfl, rfl, rfl, w4, w5, w6, w7⟩, ⟨rfl, rfl, m3, m4⟩, Or.inr ⟨rfl, rfl, rfl, htab⟩, hX, hk, h0, h1, hf⟩
    · refine ⟨(-2, g_ts, r_t, r_ir, r_rc, e_mu, e_ma, e_cf), -2, ?_, ?_, rfl, hI⟩
      · unfold M_X4_plan; rw [if_neg hlo, if_neg hhi]
      · unfold M_X5_plan; rw [not_in (Or.inr (lt_of_nle hhi)), ob_sb, if_pos rfl]
theorem ok_saves {g_kp : Int32} {g_tf : Int32} {g_ts : Int32} {w_t : Int32} {w_k : Int32} {w_f : Int32} {w_cs : Nat → Int32} {w_ds : Nat → Int32} {i_t : Int32} {i_k : Int32} {i_f : Int32} {i_cs : Nat → Int32} {i_ds : Nat → Int32} {j_t : Int32} {j_k : Int32} {j_f : Int32} {j_cs : Nat → Int32} {j_ds : Nat → Int32} {t_ln : Int32} {t_sg : Nat → Int32} {r_t : Int32} {r_ir : Int32} {r_rc : Nat → Int32} {e_mu : Int32} {e_ma : Int32} {e_cf : Nat → Int64} {m_sz : Int32} {m_kn : Int32} {m_sg : Int32} {m_fa : Int32} {m_ds : Nat → Int32} {m_cs : Nat → Int32} {m_tx : Nat → Int32} {m_ia : Nat → Int32} {m_im : Nat → Int32} {m_ik : Nat → Int32} (h : INV g_kp g_tf g_ts w_t w_k w_f w_cs w_ds i_t i_k i_f i_cs i_ds j_t j_k j_f j_cs j_ds t_ln t_sg r_t r_ir r_rc e_mu e_ma e_cf m_sz m_kn m_sg m_fa m_ds m_cs m_tx m_ia m_im m_ik) (p1 : Int32) : ∃ (R : Int32 × Int32 × Int32 × Int32 × (Nat → Int32) × Int32 × Int32 × (Nat → Int64)) (R' : Int32), M_X4_saves w_t w_k w_f w_cs w_ds p1 r_t r_rc r_ir e_mu e_ma e_cf g_ts = some R ∧ M_X5_saves p1 m_sz m_ds m_cs m_kn = some R' ∧ R.1 = R' ∧ INV g_kp g_tf R.2.1 w_t w_k w_f w_cs w_ds i_t i_k i_f i_cs i_ds j_t j_k j_f j_cs j_ds t_ln t_sg R.2.2.1 R.2.2.2.1 R.2.2.2.2.1 R.2.2.2.2.2.1 R.2.2.2.2.2.2.1 R.2.2.2.2.2.2.2 m_sz m_kn m_sg m_fa m_ds m_cs m_tx m_ia m_im m_ik := by
  have hI := h
  obtain ⟨n, K, F, L, c, d, t, b0, b1, ⟨v1, v2, v3, v4, v5⟩, ⟨rfl, rfl, rfl, w4, w5, w6, w7⟩, ⟨rfl, rfl, m3, m4⟩, hT, hX, hk, h0, h1, hf⟩ := h
  by_cases hw : p1 < 0 ∨ nI n ≤ p1
  · refine ⟨(-1, g_ts, r_t, r_ir, r_rc, e_mu, e_ma, e_cf), -1, ?_, ?_, rfl, hI⟩
    · unfold M_X4_saves; rw [m_has_no hw, ob_sb, if_pos rfl]
    · unfold M_X5_saves; rw [m5_isWord_no v1 v2 hw, ob_sb, if_pos rfl]
  · obtain ⟨j, hj, rfl⟩ : ∃ j, j < n ∧ p1 = nI j := by
      rcases pk_ix p1 (n := n) (by omega) with q | q | q
      · exact absurd (Or.inl q) hw
      · exact absurd (Or.inr q) hw
      · exact q
    obtain ⟨rt', ri', rc', cf', ht, htab⟩ := m_tell (rc := r_rc) (rt := r_t) (ri := r_ir) v2 v5 w7 hT
    have hK2 : K ||| 2 ^ j < 2 ^ n := Nat.or_lt_two_pow v3 (Nat.pow_lt_pow_right (by decide) hj)
    have hc := m_cheapest v2 v5 (zbar_of w5) w6 v4 v3 htab
    have hm := m5_planFor v2 v5 m4 m3 (fun i => (v4 i).2) v3
    have hPn := zplan_lt (d := d) (n := n) (base := K) (c := c)
    have hc2 := m_cheapest v2 v5 (zbar_of w5) w6 v4 hK2 htab
    have hm2 := m5_planFor v2 v5 m4 m3 (fun i => (v4 i).2) hK2
    have hPn2 := zplan_lt (d := d) (n := n) (base := K ||| 2 ^ j) (c := c)
    obtain ⟨P, hP⟩ : ∃ x, x = zmin (zfeM d n K) (zles c n) (zdif (2 ^ n - 1) K) (2 ^ n) := ⟨_, rfl⟩
    rw [← hP] at hc hm hPn
    obtain ⟨Q, hQ⟩ : ∃ x, x = zmin (zfeM d n (K ||| 2 ^ j)) (zles c n) (zdif (2 ^ n - 1) (K ||| 2 ^ j)) (2 ^ n) := ⟨_, rfl⟩
    rw [← hQ] at hc2 hm2 hPn2
    refine ⟨(nI (zcost c P n) - nI (zcost c Q n), 1, rt', ri', rc', nI (zdif (2 ^ n - 1) F), nI (zring d n n), cf'), nI (zcost c P n) - nI (zcost c Q n), ?_, ?_, rfl, n, K, F, L, c, d, t, b0, b1, ⟨v1, v2, v3, v4, v5⟩, ⟨rfl, rfl, rfl, w4, w5, w6, w7⟩, ⟨rfl, rfl, m3, m4⟩, Or.inr ⟨rfl, rfl, rfl, htab⟩, hX, hk, h0, h1, hf⟩
    · unfold M_X4_saves
      rw [m_has_yes v2 hj, ob_sb, if_neg (show ¬ (1 : Int32) = 0 by decide), ht, i_one (by omega), i_or]
      simp only [ob_sb]
      rw [hc]
      simp only [ob_sb]
      rw [hc2]
      simp only [ob_sb]
      rw [m_costOf v2 w6 (lt31 hPn v2)]
      simp only [ob_sb]
      rw [m_costOf v2 w6 (lt31 hPn2 v2)]
      simp only [ob_sb]
    · unfold M_X5_saves
      rw [m5_isWord_yes v2 hj, ob_sb, if_neg (show ¬ (1 : Int32) = 0 by decide), i_one (by omega), i_or, hm, ob_sb, m5_costOf v2 m3 (lt31 hPn v2), ob_sb, hm2, ob_sb, m5_costOf v2 m3 (lt31 hPn2 v2), ob_sb]
