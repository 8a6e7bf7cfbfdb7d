theorem ok_uses {g_kp : Int32} {g_tf : Int32} {g_ts : Int32} {w_t : Int32} {w_k : Int32} {w_f : Int32} {w_cs : Nat → Int32} {w_ds : Nat → Int32} {i_t : Int32} {i_k : Int32} {i_f : Int32} {i_cs : Nat → Int32} {i_ds : Nat → Int32} {j_t : Int32} {j_k : Int32} {j_f : Int32} {j_cs : Nat → Int32} {j_ds : Nat → Int32} {t_ln : Int32} {t_sg : Nat → Int32} {r_t : Int32} {r_ir : Int32} {r_rc : Nat → Int32} {e_mu : Int32} {e_ma : Int32} {e_cf : Nat → Int64} {m_sz : Int32} {m_kn : Int32} {m_sg : Int32} {m_fa : Int32} {m_ds : Nat → Int32} {m_cs : Nat → Int32} {m_tx : Nat → Int32} {m_ia : Nat → Int32} {m_im : Nat → Int32} {m_ik : Nat → Int32} (h : INV g_kp g_tf g_ts w_t w_k w_f w_cs w_ds i_t i_k i_f i_cs i_ds j_t j_k j_f j_cs j_ds t_ln t_sg r_t r_ir r_rc e_mu e_ma e_cf m_sz m_kn m_sg m_fa m_ds m_cs m_tx m_ia m_im m_ik) (p1 : Int32) : ∃ (R : Int32) (R' : Int32), M_X4_uses w_t w_f w_ds p1 = some R ∧ M_X5_uses p1 m_sz m_ds = some R' ∧ R = R' ∧ INV g_kp g_tf g_ts w_t w_k w_f w_cs w_ds i_t i_k i_f i_cs i_ds j_t j_k j_f j_cs j_ds t_ln t_sg r_t r_ir r_rc e_mu e_ma e_cf m_sz m_kn m_sg m_fa m_ds m_cs m_tx m_ia m_im m_ik := by
  have hI := h
  obtain ⟨n, K, F, L, c, d, t, b0, b1, ⟨v1, v2, v3, v4, v5⟩, ⟨rfl, rfl, rfl, w4, w5, w6, w7⟩, ⟨rfl, rfl, m3, m4⟩, hT, hX, hk, h0, h1, hf⟩ := h
  rcases pk_ix p1 (n := n) (by omega) with q | q | ⟨j, hj, rfl⟩
  · refine ⟨-1, -1, ?_, ?_, rfl, hI⟩
    · unfold M_X4_uses; rw [m_has_no (Or.inl q), ob_sb, if_pos rfl]
    · unfold M_X5_uses; rw [m5_isWord_no v1 v2 (Or.inl q), ob_sb, if_pos rfl]
  · refine ⟨-1, -1, ?_, ?_, rfl, hI⟩
    · unfold M_X4_uses; rw [m_has_no (Or.inr q), ob_sb, if_pos rfl]
    · unfold M_X5_uses; rw [m5_isWord_no v1 v2 (Or.inr q), ob_sb, if_pos rfl]
  · refine ⟨zm d j, zm d j, ?_, ?_, rfl, hI⟩
    · unfold M_X4_uses
      rw [m_has_yes v2 hj, ob_sb, if_neg (by decide), m_isBare w4 (by omega), ob_sb, if_neg (i_in (by omega) (by decide)), i_cl (by omega), w7 j (by omega), w5 j]
      cases hd : d j with
      | none => rw [zm_none hd]; rfl
      | some s => rw [zm_some hd, zu_some hd]; rfl
    · unfold M_X5_uses
      rw [m5_isWord_yes v2 hj, ob_sb, if_neg (by decide), if_neg (i_in (by omega) (by decide)), i_cl (by omega), m4 j (by omega)]
theorem ok_users {g_kp : Int32} {g_tf : Int32} {g_ts : Int32} {w_t : Int32} {w_k : Int32} {w_f : Int32} {w_cs : Nat → Int32} {w_ds : Nat → Int32} {i_t : Int32} {i_k : Int32} {i_f : Int32} {i_cs : Nat → Int32} {i_ds : Nat → Int32} {j_t : Int32} {j_k : Int32} {j_f : Int32} {j_cs : Nat → Int32} {j_ds : Nat → Int32} {t_ln : Int32} {t_sg : Nat → Int32} {r_t : Int32} {r_ir : Int32} {r_rc : Nat → Int32} {e_mu : Int32} {e_ma : Int32} {e_cf : Nat → Int64} {m_sz : Int32} {m_kn : Int32} {m_sg : Int32} {m_fa : Int32} {m_ds : Nat → Int32} {m_cs : Nat → Int32} {m_tx : Nat → Int32} {m_ia : Nat → Int32} {m_im : Nat → Int32} {m_ik : Nat → Int32} (h : INV g_kp g_tf g_ts w_t w_k w_f w_cs w_ds i_t i_k i_f i_cs i_ds j_t j_k j_f j_cs j_ds t_ln t_sg r_t r_ir r_rc e_mu e_ma e_cf m_sz m_kn m_sg m_fa m_ds m_cs m_tx m_ia m_im m_ik) (p1 : Int32) : ∃ (R : Int32) (R' : Int32), M_X4_users w_t w_ds p1 = some R ∧ M_X5_users p1 m_sz m_ds = some R' ∧ R = R' ∧ INV g_kp g_tf g_ts w_t w_k w_f w_cs w_ds i_t i_k i_f i_cs i_ds j_t j_k j_f j_cs j_ds t_ln t_sg r_t r_ir r_rc e_mu e_ma e_cf m_sz m_kn m_sg m_fa m_ds m_cs m_tx m_ia m_im m_ik := by
  have hI := h
  obtain ⟨n, K, F, L, c, d, t, b0, b1, ⟨v1, v2, v3, v4, v5⟩, ⟨rfl, rfl, rfl, w4, w5, w6, w7⟩, ⟨rfl, rfl, m3, m4⟩, hT, hX, hk, h0, h1, hf⟩ := h
  rcases pk_ix p1 (n := n) (by omega) with q | q | ⟨j, hj, rfl⟩
  · refine ⟨-1, -1, ?_, ?_, rfl, hI⟩
    · unfold M_X4_users; rw [m_has_no (Or.inl q), ob_sb, if_pos rfl]
    · unfold M_X5_users; rw [m5_isWord_no v1 v2 (Or.inl q), ob_sb, if_pos rfl]
  · refine ⟨-1, -1, ?_, ?_, rfl, hI⟩
    · unfold M_X4_users; rw [m_has_no (Or.inr q), ob_sb, if_pos rfl]
    · unfold M_X5_users; rw [m5_isWord_no v1 v2 (Or.inr q), ob_sb, if_pos rfl]
  · refine ⟨nI (zusr d j n), nI (zusr d j n), ?_, ?_, rfl, hI⟩
    · unfold M_X4_users
      rw [m_has_yes v2 hj, ob_sb, if_neg (by decide), m_usersOf v2 v5 w7 (by omega), ob_sb]
    · unfold M_X5_users
      rw [m5_isWord_yes v2 hj, ob_sb, if_neg (by decide), m5_usersOf v2 v5 m4 (by omega), ob_sb]
theorem ok_cost {g_kp : Int32} {g_tf : Int32} {g_ts : Int32} {w_t : Int32} {w_k : Int32} {w_f : Int32} {w_cs : Nat → Int32} {w_ds : Nat → Int32} {i_t : Int32} {i_k : Int32} {i_f : Int32} {i_cs : Nat → Int32} {i_ds : Nat → Int32} {j_t : Int32} {j_k : Int32} {j_f : Int32} {j_cs : Nat → Int32} {j_ds : Nat → Int32} {t_ln : Int32} {t_sg : Nat → Int32} {r_t : Int32} {r_ir : Int32} {r_rc : Nat → Int32} {e_mu : Int32} {e_ma : Int32} {e_cf : Nat → Int64} {m_sz : Int32} {m_kn : Int32} {m_sg : Int32} {m_fa : Int32} {m_ds : Nat → Int32} {m_cs : Nat → Int32} {m_tx : Nat → Int32} {m_ia : Nat → Int32} {m_im : Nat → Int32} {m_ik : Nat → Int32} (h : INV g_kp g_tf g_ts w_t w_k w_f w_cs w_ds i_t i_k i_f i_cs i_ds j_t j_k j_f j_cs j_ds t_ln t_sg r_t r_ir r_rc e_mu e_ma e_cf m_sz m_kn m_sg m_fa m_ds m_cs m_tx m_ia m_im m_ik) (p1 : Int32) (p2 : Int32) : ∃ (R : Int32 × (Nat → Int32)) (R' : Int32 × (Nat → Int32)), M_X4_cost w_t w_cs p1 p2 = some R ∧ M_X5_cost p1 p2 m_sz m_cs = some R' ∧ R.1 = R'.1 ∧ INV g_kp g_tf g_ts w_t w_k w_f R.2 w_ds i_t i_k i_f i_cs i_ds j_t j_k j_f j_cs j_ds t_ln t_sg r_t r_ir r_rc e_mu e_ma e_cf m_sz m_kn m_sg m_fa m_ds R'.2 m_tx m_ia m_im m_ik := by
  have hI := h
  obtain ⟨n, K, F, L, c, d, t, b0, b1, ⟨v1, v2, v3, v4, v5⟩, ⟨rfl, rfl, rfl, w4, w5, w6, w7⟩, ⟨rfl, rfl, m3, m4⟩, hT, hX, hk, h0, h1, hf⟩ := h
  rcases pk_ix p1 (n := n) (by omega) with q | q | ⟨j, hj, rfl⟩
  · refine ⟨(-1, w_cs), (-1, m_cs), ?_, ?_, rfl, hI⟩
    · unfold M_X4_cost; rw [m_has_no (Or.inl q), ob_sb, if_pos rfl]
    · unfold M_X5_cost; rw [m5_isWord_no v1 v2 (Or.inl q), ob_sb, if_pos rfl]
  · refine ⟨(-1, w_cs), (-1, m_cs), ?_, ?_, rfl, hI⟩
    · unfold M_X4_cost; rw [m_has_no (Or.inr q), ob_sb, if_pos rfl]
    · unfold M_X5_cost; rw [m5_isWord_no v1 v2 (Or.inr q), ob_sb, if_pos rfl]
  · by_cases hlo : p2 < 1
    · refine ⟨(-2, w_cs), (-2, m_cs), ?_, ?_, rfl, hI⟩
      · unfold M_X4_cost; rw [m_has_yes v2 hj, ob_sb, if_neg (by decide), if_pos hlo]
      · unfold M_X5_cost M_X5_in; rw [m5_isWord_yes v2 hj, ob_sb, if_neg (by decide), if_pos hlo]; rfl
    · by_cases hhi : p2 ≤ 9
      · have hneg : ¬ p2 < 0 := fun q => hlo (by rw [Int32.lt_iff_toInt_lt] at *; have e1 : (0 : Int32).toInt = 0 := rfl; have e2 : (1 : Int32).toInt = 1 := rfl; omega)
        obtain ⟨v, hv, rfl⟩ := nI_of hneg
        have hv1 : 1 ≤ v := by
          rcases Nat.lt_or_ge v 1 with q | q
          · exact absurd (nI_lt (b := 1) q (by decide)) hlo
          · exact q
        have hv2 : v ≤ 9 := (nI_leI (b := 9) hv (by decide)).mp hhi
        refine ⟨(nI (c j), upd w_cs j (nI v)), (nI (c j), upd m_cs j (nI v)), ?_, ?_, rfl, n, K, F, L, fun i => if i = j then v else c i, d, t, b0, b1, ⟨v1, v2, v3, fun i => ?_, v5⟩, ⟨rfl, rfl, rfl, w4, w5, fun i hi => ?_, w7⟩, ⟨rfl, rfl, fun i hi => ?_, m4⟩, hT, hX, hk, h0, h1, hf⟩
        · unfold M_X4_cost
          rw [m_has_yes v2 hj, ob_sb, if_neg (by decide), if_neg hlo, if_pos hhi, if_neg (i_in (by omega) (by decide)), if_neg (i_in (by omega) (by decide)), i_cl (by omega), w6 j (by omega)]
        · unfold M_X5_cost M_X5_in
          rw [m5_isWord_yes v2 hj, ob_sb, if_neg (by decide), if_neg hlo, if_neg (show ¬ 9 < nI v from nI_nlt (a := 9) hv2 (by decide)), ob_sb, if_neg (by decide), if_neg (i_in (by omega) (by decide)), if_neg (i_in (by omega) (by decide)), i_cl (by omega), m3 j (by omega)]
        · dsimp only
          split
          · exact ⟨hv1, hv2⟩
          · exact v4 i
        · show upd w_cs j (nI v) i = nI (if i = j then v else c i)
          unfold upd
          by_cases e : i = j
          · rw [if_pos e, if_pos e]
          · rw [if_neg e, if_neg e]; exact w6 i hi
        · show upd m_cs j (nI v) i = nI (if i = j then v else c i)
          unfold upd
          by_cases e : i = j
          · rw [if_pos e, if_pos e]
          · rw [if_neg e, if_neg e]; exact m3 i hi
      · refine ⟨(-2, w_cs), (-2, m_cs), ?_, ?_, rfl, hI⟩
        · unfold M_X4_cost; rw [m_has_yes v2 hj, ob_sb, if_neg (by decide), if_neg hlo, if_neg hhi]
        · have : (9 : Int32) < p2 := by rw [Int32.lt_iff_toInt_lt]; rw [Int32.le_iff_toInt_le] at hhi; omega
          unfold M_X5_cost M_X5_in; rw [m5_isWord_yes v2 hj, ob_sb, if_neg (by decide), if_neg hlo, if_pos this]; rfl
theorem ok_grounds {g_kp : Int32} {g_tf : Int32} {g_ts : Int32} {w_t : Int32} {w_k : Int32} {w_f : Int32} {w_cs : Nat → Int32} {w_ds : Nat → Int32} {i_t : Int32} {i_k : Int32} {i_f : Int32} {i_cs : Nat → Int32} {i_ds : Nat → Int32} {j_t : Int32} {j_k : Int32} {j_f : Int32} {j_cs : Nat → Int32} {j_ds : Nat → Int32} {t_ln : Int32} {t_sg : Nat → Int32} {r_t : Int32} {r_ir : Int32} {r_rc : Nat → Int32} {e_mu : Int32} {e_ma : Int32} {e_cf : Nat → Int64} {m_sz : Int32} {m_kn : Int32} {m_sg : Int32} {m_fa : Int32} {m_ds : Nat → Int32} {m_cs : Nat → Int32} {m_tx : Nat → Int32} {m_ia : Nat → Int32} {m_im : Nat → Int32} {m_ik : Nat → Int32} (h : INV g_kp g_tf g_ts w_t w_k w_f w_cs w_ds i_t i_k i_f i_cs i_ds j_t j_k j_f j_cs j_ds t_ln t_sg r_t r_ir r_rc e_mu e_ma e_cf m_sz m_kn m_sg m_fa m_ds m_cs m_tx m_ia m_im m_ik) (p1 : Int32) : ∃ (R : Int32) (R' : Int32), M_X4_grounds w_t w_f w_ds p1 = some R ∧ M_X5_grounds p1 m_sz m_ds = some R' ∧ R = R' ∧ INV g_kp g_tf g_ts w_t w_k w_f w_cs w_ds i_t i_k i_f i_cs i_ds j_t j_k j_f j_cs j_ds t_ln t_sg r_t r_ir r_rc e_mu e_ma e_cf m_sz m_kn m_sg m_fa m_ds m_cs m_tx m_ia m_im m_ik := by
  have hI := h
  obtain ⟨n, K, F, L, c, d, t, b0, b1, ⟨v1, v2, v3, v4, v5⟩, ⟨rfl, rfl, rfl, w4, w5, w6, w7⟩, ⟨rfl, rfl, m3, m4⟩, hT, hX, hk, h0, h1, hf⟩ := h
  obtain ⟨x, hx, rfl⟩ := i_of p1
  by_cases hS : x < 2 ^ n
  · refine ⟨nI (zday d n x n), nI (zday d n x n), ?_, ?_, rfl, hI⟩
    · unfold M_X4_grounds; rw [m_hasAll v2 hx, if_pos hS, ob_sb, if_neg (by decide), m_groundedBy v2 v5 w7 w4 w5, ob_sb]
    · unfold M_X5_grounds; rw [m5_isSet v2 hx, if_pos hS, ob_sb, if_neg (by decide), m5_known14 v2 v5 m4 hS, ob_sb]
  · refine ⟨-2, -2, ?_, ?_, rfl, hI⟩
    · unfold M_X4_grounds; rw [m_hasAll v2 hx, if_neg hS, ob_sb, if_pos rfl]
    · unfold M_X5_grounds; rw [m5_isSet v2 hx, if_neg hS, ob_sb, if_pos rfl]
theorem zsub_one {w x : Nat} : zsub (2 ^ w) x ↔ x.testBit w = true := by
  constructor
  · intro h; exact h w (by rw [zone_bit]; exact decide_eq_true rfl)
  · intro h i hi
    rw [zone_bit] at hi
    rw [← of_decide_eq_true hi]; exact h
theorem ok_day {g_kp : Int32} {g_tf : Int32} {g_ts : Int32} {w_t : Int32} {w_k : Int32} {w_f : Int32} {w_cs : Nat → Int32} {w_ds : Nat → Int32} {i_t : Int32} {i_k : Int32} {i_f : Int32} {i_cs : Nat → Int32} {i_ds : Nat → Int32} {j_t : Int32} {j_k : Int32} {j_f : Int32} {j_cs : Nat → Int32} {j_ds : Nat → Int32} {t_ln : Int32} {t_sg : Nat → Int32} {r_t : Int32} {r_ir : Int32} {r_rc : Nat → Int32} {e_mu : Int32} {e_ma : Int32} {e_cf : Nat → Int64} {m_sz : Int32} {m_kn : Int32} {m_sg : Int32} {m_fa : Int32} {m_ds : Nat → Int32} {m_cs : Nat → Int32} {m_tx : Nat → Int32} {m_ia : Nat → Int32} {m_im : Nat → Int32} {m_ik : Nat → Int32} (h : INV g_kp g_tf g_ts w_t w_k w_f w_cs w_ds i_t i_k i_f i_cs i_ds j_t j_k j_f j_cs j_ds t_ln t_sg r_t r_ir r_rc e_mu e_ma e_cf m_sz m_kn m_sg m_fa m_ds m_cs m_tx m_ia m_im m_ik) (p1 : Int32) (p2 : Int32) : ∃ (R : Int32) (R' : Int32), M_X4_day w_t w_f w_ds p1 p2 = some R ∧ M_X5_day p1 p2 m_sz m_ds = some R' ∧ R = R' ∧ INV g_kp g_tf g_ts w_t w_k w_f w_cs w_ds i_t i_k i_f i_cs i_ds j_t j_k j_f j_cs j_ds t_ln t_sg r_t r_ir r_rc e_mu e_ma e_cf m_sz m_kn m_sg m_fa m_ds m_cs m_tx m_ia m_im m_ik := by
  have hI := h
  obtain ⟨n, K, F, L, c, d, t, b0, b1, ⟨v1, v2, v3, v4, v5⟩, ⟨rfl, rfl, rfl, w4, w5, w6, w7⟩, ⟨rfl, rfl, m3, m4⟩, hT, hX, hk, h0, h1, hf⟩ := h
  rcases pk_ix p1 (n := n) (by omega) with q | q | ⟨w, hw, rfl⟩
  · refine ⟨-1, -1, ?_, ?_, rfl, hI⟩
    · unfold M_X4_day; rw [m_has_no (Or.inl q), ob_sb, if_pos rfl]
    · unfold M_X5_day; rw [m5_isWord_no v1 v2 (Or.inl q), ob_sb, if_pos rfl]
  · refine ⟨-1, -1, ?_, ?_, rfl, hI⟩
    · unfold M_X4_day; rw [m_has_no (Or.inr q), ob_sb, if_pos rfl]
    · unfold M_X5_day; rw [m5_isWord_no v1 v2 (Or.inr q), ob_sb, if_pos rfl]
  · obtain ⟨x, hx, rfl⟩ := i_of p2
    by_cases hS : x < 2 ^ n
    · have hW : 2 ^ w < 2 ^ 14 := Nat.pow_lt_pow_right (by decide) (by omega)
      obtain ⟨c1, c2⟩ := m_daysTill (S := x) (W := 2 ^ w) v2 v5 w7 w4 w5 hW
      have key : ∃ r, M_X3_daysTill (nI n) (nI F) w_ds (nI (2 ^ w)) (nI x) = some r ∧ zfd d n x w 15 = r := by
        rcases first_of (fun k => (zday d n x k).testBit w = true) (n + 1) with q | ⟨k, q1, q2, q3⟩
        · refine ⟨-6, c2 (fun j hj hz => q j (by omega) (zsub_one.mp hz)), zfd_none (fun k hk => ?_) 15 (Nat.le_refl 15)⟩
          rcases Nat.lt_or_ge k (n + 1) with g | g
          · exact ts_nt (q k g)
          · rw [zday_rest hS k (by omega)]; exact ts_nt (q n (by omega))
        · exact ⟨nI k, c1 k (by omega) (zsub_one.mpr q2) (fun j hj hz => q3 j hj (zsub_one.mp hz)), zfd_some (by omega) q2 (fun j hj => ts_nt (q3 j hj)) 15 (Nat.le_refl 15) (by omega)⟩
      obtain ⟨r, r1, r2⟩ := key
      refine ⟨r, r, ?_, ?_, rfl, hI⟩
      · unfold M_X4_day; rw [m_has_yes v2 hw, ob_sb, if_neg (by decide), m_hasAll v2 hx, if_pos hS, ob_sb, if_neg (by decide), i_one (by omega), r1, ob_sb]
      · unfold M_X5_day; rw [m5_isWord_yes v2 hw, ob_sb, if_neg (by decide), m5_isSet v2 hx, if_pos hS, ob_sb, if_neg (by decide), m5_dayL v2 v5 m4 hS hw, r2]
    · refine ⟨-2, -2, ?_, ?_, rfl, hI⟩
      · unfold M_X4_day; rw [m_has_yes v2 hw, ob_sb, if_neg (by decide), m_hasAll v2 hx, if_neg hS, ob_sb, if_pos rfl]
      · unfold M_X5_day; rw [m5_isWord_yes v2 hw, ob_sb, if_neg (by decide), m5_isSet v2 hx, if_neg hS, ob_sb, if_pos rfl]
theorem ok_learned {g_kp : Int32} {g_tf : Int32} {g_ts : Int32} {w_t : Int32} {w_k : Int32} {w_f : Int32} {w_cs : Nat → Int32} {w_ds : Nat → Int32} {i_t : Int32} {i_k : Int32} {i_f : Int32} {i_cs : Nat → Int32} {i_ds : Nat → Int32} {j_t : Int32} {j_k : Int32} {j_f : Int32} {j_cs : Nat → Int32} {j_ds : Nat → Int32} {t_ln : Int32} {t_sg : Nat → Int32} {r_t : Int32} {r_ir : Int32} {r_rc : Nat → Int32} {e_mu : Int32} {e_ma : Int32} {e_cf : Nat → Int64} {m_sz : Int32} {m_kn : Int32} {m_sg : Int32} {m_fa : Int32} {m_ds : Nat → Int32} {m_cs : Nat → Int32} {m_tx : Nat → Int32} {m_ia : Nat → Int32} {m_im : Nat → Int32} {m_ik : Nat → Int32} (h : INV g_kp g_tf g_ts w_t w_k w_f w_cs w_ds i_t i_k i_f i_cs i_ds j_t j_k j_f j_cs j_ds t_ln t_sg r_t r_ir r_rc e_mu e_ma e_cf m_sz m_kn m_sg m_fa m_ds m_cs m_tx m_ia m_im m_ik) (p1 : Int32) (p2 : Int32) : ∃ (R : Int32) (R' : Int32), M_X4_learned w_t w_f w_ds p1 p2 = some R ∧ M_X5_learned p1 p2 m_sz m_ds = some R' ∧ R = R' ∧ INV g_kp g_tf g_ts w_t w_k w_f w_cs w_ds i_t i_k i_f i_cs i_ds j_t j_k j_f j_cs j_ds t_ln t_sg r_t r_ir r_rc e_mu e_ma e_cf m_sz m_kn m_sg m_fa m_ds m_cs m_tx m_ia m_im m_ik := by
  have hI := h
  obtain ⟨n, K, F, L, c, d, t, b0, b1, ⟨v1, v2, v3, v4, v5⟩, ⟨rfl, rfl, rfl, w4, w5, w6, w7⟩, ⟨rfl, rfl, m3, m4⟩, hT, hX, hk, h0, h1, hf⟩ := h
  obtain ⟨x, hx, rfl⟩ := i_of p1
  by_cases hS : x < 2 ^ n
  · by_cases hlo : p2 < 1
    · refine ⟨-2, -2, ?_, ?_, rfl, hI⟩
      · unfold M_X4_learned; rw [m_hasAll v2 hx, if_pos hS, ob_sb, if_neg (by decide), if_pos hlo]
      · unfold M_X5_learned M_X5_in; rw [m5_isSet v2 hx, if_pos hS, ob_sb, if_neg (by decide), if_pos hlo]; rfl
    · by_cases hhi : p2 ≤ 14
      · have hneg : ¬ p2 < 0 := fun q => hlo (by rw [Int32.lt_iff_toInt_lt] at *; have e1 : (0 : Int32).toInt = 0 := rfl; have e2 : (1 : Int32).toInt = 1 := rfl; omega)
        obtain ⟨v, hv, rfl⟩ := nI_of hneg
        have hv1 : 1 ≤ v := by
          rcases Nat.lt_or_ge v 1 with q | q
          · exact absurd (nI_lt (b := 1) q (by decide)) hlo
          · exact q
        have hv2 : v ≤ 14 := (nI_leI (b := 14) hv (by decide)).mp hhi
        obtain ⟨k, rfl⟩ : ∃ k, v = k + 1 := ⟨v - 1, by omega⟩
        refine ⟨nI (zdif (zday d n x (k + 1)) (zday d n x k)), nI (zdif (zday d n x (k + 1)) (zday d n x k)), ?_, ?_, rfl, hI⟩
        · unfold M_X4_learned
          rw [m_hasAll v2 hx, if_pos hS, ob_sb, if_neg (by decide), if_neg hlo, if_pos hhi]
          refine loop_seq (fun f (s : Int32 × Int32) => L_X4_learned_30 (nI n) (nI F) w_ds (nI (k + 1)) _ f s.1 s.2) (fun i => (nI (i + 1), nI (zday d n x i))) k _ (fun f i hi => ?_) (fun f => ?_) k 0 40 (by omega) (by omega)
          · show L_X4_learned_30 (nI n) (nI F) w_ds (nI (k + 1)) _ (f + 1) (nI (i + 1)) (nI (zday d n x i)) = L_X4_learned_30 (nI n) (nI F) w_ds (nI (k + 1)) _ f (nI (i + 1 + 1)) (nI (zaft d (zday d n x i) n))
            rw [L_X4_learned_30, if_neg (nI_ge (by omega) (by omega)), m_nextDay v2 v5 w7 w4 w5, ob_sb, nI_1]
          · show L_X4_learned_30 (nI n) (nI F) w_ds (nI (k + 1)) _ (f + 1) (nI (k + 1)) (nI (zday d n x k)) = _
            rw [L_X4_learned_30, if_pos (nI_le (Nat.le_refl _) (by omega)), m_nextDay v2 v5 w7 w4 w5, ob_sb, i_dif]
            rfl
        · unfold M_X5_learned M_X5_in
          rw [m5_isSet v2 hx, if_pos hS, ob_sb, if_neg (by decide), if_neg hlo, if_neg (show ¬ 14 < nI (k + 1) from nI_nlt (a := 14) hv2 (by decide)), ob_sb, if_neg (by decide), m5_knownOn v2 v5 m4 (by omega), ob_sb, nI_pred, m5_knownOn v2 v5 m4 (by omega), ob_sb, i_dif]
      · refine ⟨-2, -2, ?_, ?_, rfl, hI⟩
        · unfold M_X4_learned; rw [m_hasAll v2 hx, if_pos hS, ob_sb, if_neg (by decide), if_neg hlo, if_neg hhi]
        · have : (14 : Int32) < p2 := by rw [Int32.lt_iff_toInt_lt]; rw [Int32.le_iff_toInt_le] at hhi; omega
          unfold M_X5_learned M_X5_in; rw [m5_isSet v2 hx, if_pos hS, ob_sb, if_neg (by decide), if_neg hlo, if_pos this]; rfl
  · refine ⟨-2, -2, ?_, ?_, rfl, hI⟩
    · unfold M_X4_learned; rw [m_hasAll v2 hx, if_neg hS, ob_sb, if_pos rfl]
    · unfold M_X5_learned; rw [m5_isSet v2 hx, if_neg hS, ob_sb, if_pos rfl]
theorem ok_know {g_kp : Int32} {g_tf : Int32} {g_ts : Int32} {w_t : Int32} {w_k : Int32} {w_f : Int32} {w_cs : Nat → Int32} {w_ds : Nat → Int32} {i_t : Int32} {i_k : Int32} {i_f : Int32} {i_cs : Nat → Int32} {i_ds : Nat → Int32} {j_t : Int32} {j_k : Int32} {j_f : Int32} {j_cs : Nat → Int32} {j_ds : Nat → Int32} {t_ln : Int32} {t_sg : Nat → Int32} {r_t : Int32} {r_ir : Int32} {r_rc : Nat → Int32} {e_mu : Int32} {e_ma : Int32} {e_cf : Nat → Int64} {m_sz : Int32} {m_kn : Int32} {m_sg : Int32} {m_fa : Int32} {m_ds : Nat → Int32} {m_cs : Nat → Int32} {m_tx : Nat → Int32} {m_ia : Nat → Int32} {m_im : Nat → Int32} {m_ik : Nat → Int32} (h : INV g_kp g_tf g_ts w_t w_k w_f w_cs w_ds i_t i_k i_f i_cs i_ds j_t j_k j_f j_cs j_ds t_ln t_sg r_t r_ir r_rc e_mu e_ma e_cf m_sz m_kn m_sg m_fa m_ds m_cs m_tx m_ia m_im m_ik) (p1 : Int32) : ∃ (R : Int32 × Int32) (R' : Int32 × Int32), M_X4_know w_t w_k p1 = some R ∧ M_X5_know p1 m_sz m_kn = some R' ∧ R.1 = R'.1 ∧ INV g_kp g_tf g_ts w_t R.2 w_f w_cs w_ds i_t i_k i_f i_cs i_ds j_t j_k j_f j_cs j_ds t_ln t_sg r_t r_ir r_rc e_mu e_ma e_cf m_sz R'.2 m_sg m_fa m_ds m_cs m_tx m_ia m_im m_ik := by
  have hI := h
  obtain ⟨n, K, F, L, c, d, t, b0, b1, ⟨v1, v2, v3, v4, v5⟩, ⟨rfl, rfl, rfl, w4, w5, w6, w7⟩, ⟨rfl, rfl, m3, m4⟩, hT, hX, hk, h0, h1, hf⟩ := h
  obtain ⟨x, hx, rfl⟩ := i_of p1
  by_cases hS : x < 2 ^ n
  · refine ⟨(nI K, nI x), (nI K, nI x), ?_, ?_, rfl, n, x, F, L, c, d, t, b0, b1, ⟨v1, v2, hS, v4, v5⟩, ⟨rfl, rfl, rfl, w4, w5, w6, w7⟩, ⟨rfl, rfl, m3, m4⟩, hT, hX, hk, h0, h1, hf⟩
    · unfold M_X4_know; rw [m_hasAll v2 hx, if_pos hS, ob_sb, if_neg (by decide)]
    · unfold M_X5_know; rw [m5_isSet v2 hx, if_pos hS, ob_sb, if_neg (by decide)]
  · refine ⟨(-2, nI K), (-2, nI K), ?_, ?_, rfl, hI⟩
    · unfold M_X4_know; rw [m_hasAll v2 hx, if_neg hS, ob_sb, if_pos rfl]
    · unfold M_X5_know; rw [m5_isSet v2 hx, if_neg hS, ob_sb, if_pos rfl]
theorem ok_way {g_kp : Int32} {g_tf : Int32} {g_ts : Int32} {w_t : Int32} {w_k : Int32} {w_f : Int32} {w_cs : Nat → Int32} {w_ds : Nat → Int32} {i_t : Int32} {i_k : Int32} {i_f : Int32} {i_cs : Nat → Int32} {i_ds : Nat → Int32} {j_t : Int32} {j_k : Int32} {j_f : Int32} {j_cs : Nat → Int32} {j_ds : Nat → Int32} {t_ln : Int32} {t_sg : Nat → Int32} {r_t : Int32} {r_ir : Int32} {r_rc : Nat → Int32} {e_mu : Int32} {e_ma : Int32} {e_cf : Nat → Int64} {m_sz : Int32} {m_kn : Int32} {m_sg : Int32} {m_fa : Int32} {m_ds : Nat → Int32} {m_cs : Nat → Int32} {m_tx : Nat → Int32} {m_ia : Nat → Int32} {m_im : Nat → Int32} {m_ik : Nat → Int32} (h : INV g_kp g_tf g_ts w_t w_k w_f w_cs w_ds i_t i_k i_f i_cs i_ds j_t j_k j_f j_cs j_ds t_ln t_sg r_t r_ir r_rc e_mu e_ma e_cf m_sz m_kn m_sg m_fa m_ds m_cs m_tx m_ia m_im m_ik) (p1 : Int32) (p2 : Int32) : ∃ (R : Int32) (R' : Int32), M_X4_way w_t w_ds p1 p2 = some R ∧ M_X5_way p1 p2 m_sz m_ds = some R' ∧ R = R' ∧ INV g_kp g_tf g_ts w_t w_k w_f w_cs w_ds i_t i_k i_f i_cs i_ds j_t j_k j_f j_cs j_ds t_ln t_sg r_t r_ir r_rc e_mu e_ma e_cf m_sz m_kn m_sg m_fa m_ds m_cs m_tx m_ia m_im m_ik := by
  have hI := h
  obtain ⟨n, K, F, L, c, d, t, b0, b1, ⟨v1, v2, v3, v4, v5⟩, ⟨rfl, rfl, rfl, w4, w5, w6, w7⟩, ⟨rfl, rfl, m3, m4⟩, hT, hX, hk, h0, h1, hf⟩ := h
  by_cases h1w : p1 < 0 ∨ nI n ≤ p1
  · refine ⟨-1, -1, ?_, ?_, rfl, hI⟩
    · unfold M_X4_way; rw [m_has_no h1w, ob_sb, if_pos rfl]
    · unfold M_X5_way; rw [m5_isWord_no v1 v2 h1w, ob_sb, if_pos rfl]
  · obtain ⟨a, ha, rfl⟩ : ∃ j, j < n ∧ p1 = nI j := by
      rcases pk_ix p1 (n := n) (by omega) with q | q | q
      · exact absurd (Or.inl q) h1w
      · exact absurd (Or.inr q) h1w
      · exact q
    by_cases h2w : p2 < 0 ∨ nI n ≤ p2
    · refine ⟨-1, -1, ?_, ?_, rfl, hI⟩
      · unfold M_X4_way; rw [m_has_yes v2 ha, ob_sb, if_neg (by decide), m_has_no h2w, ob_sb, if_pos rfl]
      · unfold M_X5_way; rw [m5_isWord_yes v2 ha, ob_sb, if_neg (by decide), m5_isWord_no v1 v2 h2w, ob_sb, if_pos rfl]
    · obtain ⟨b, hb, rfl⟩ : ∃ j, j < n ∧ p2 = nI j := by
        rcases pk_ix p2 (n := n) (by omega) with q | q | q
        · exact absurd (Or.inl q) h2w
        · exact absurd (Or.inr q) h2w
        · exact q
      obtain ⟨r, r1, r2, -⟩ := m_way_eq v2 v5 w7 m4 ha hb
      refine ⟨r, r, ?_, ?_, rfl, hI⟩
      · unfold M_X4_way; rw [m_has_yes v2 ha, ob_sb, if_neg (by decide), m_has_yes v2 hb, ob_sb, if_neg (by decide), r1, ob_sb]
      · unfold M_X5_way; rw [m5_isWord_yes v2 ha, ob_sb, if_neg (by decide), m5_isWord_yes v2 hb, ob_sb, if_neg (by decide), r2, ob_sb]
theorem ok_ring {g_kp : Int32} {g_tf : Int32} {g_ts : Int32} {w_t : Int32} {w_k : Int32} {w_f : Int32} {w_cs : Nat → Int32} {w_ds : Nat → Int32} {i_t : Int32} {i_k : Int32} {i_f : Int32} {i_cs : Nat → Int32} {i_ds : Nat → Int32} {j_t : Int32} {j_k : Int32} {j_f : Int32} {j_cs : Nat → Int32} {j_ds : Nat → Int32} {t_ln : Int32} {t_sg : Nat → Int32} {r_t : Int32} {r_ir : Int32} {r_rc : Nat → Int32} {e_mu : Int32} {e_ma : Int32} {e_cf : Nat → Int64} {m_sz : Int32} {m_kn : Int32} {m_sg : Int32} {m_fa : Int32} {m_ds : Nat → Int32} {m_cs : Nat → Int32} {m_tx : Nat → Int32} {m_ia : Nat → Int32} {m_im : Nat → Int32} {m_ik : Nat → Int32} (h : INV g_kp g_tf g_ts w_t w_k w_f w_cs w_ds i_t i_k i_f i_cs i_ds j_t j_k j_f j_cs j_ds t_ln t_sg r_t r_ir r_rc e_mu e_ma e_cf m_sz m_kn m_sg m_fa m_ds m_cs m_tx m_ia m_im m_ik) (p1 : Int32) : ∃ (R : Int32 × Int32 × Int32 × (Nat → Int32)) (R' : Int32), M_X4_ring w_t w_ds p1 r_t r_rc r_ir = some R ∧ M_X5_ring p1 m_sz m_ds = some R' ∧ R.1 = R' ∧ INV g_kp g_tf g_ts w_t w_k w_f w_cs w_ds i_t i_k i_f i_cs i_ds j_t j_k j_f j_cs j_ds t_ln t_sg R.2.1 R.2.2.1 R.2.2.2 e_mu e_ma e_cf m_sz m_kn m_sg m_fa m_ds m_cs m_tx m_ia m_im m_ik := by
  have hI := h
  obtain ⟨n, K, F, L, c, d, t, b0, b1, ⟨v1, v2, v3, v4, v5⟩, ⟨rfl, rfl, rfl, w4, w5, w6, w7⟩, ⟨rfl, rfl, m3, m4⟩, hT, hX, hk, h0, h1, hf⟩ := h
  by_cases hp : (-1) ≤ p1
  · obtain ⟨rc', t1, t2⟩ := m_trace (rc := r_rc) v2 v5 w7
    have hcur : M_X4_currentRings (nI n) w_ds r_rc = some (nI n, nI (zring d n n), rc') := by unfold M_X4_currentRings; rw [t1]; rfl
    obtain ⟨c1, c2⟩ := m_numbered (p := p1) v2 v5 t2
    obtain ⟨e1, e2⟩ := m5_ring (p := p1) v2 v5 m4 hp
    have key : ∃ r, M_X4_ring (nI n) w_ds p1 r_t r_rc r_ir = some (r, nI n, nI (zring d n n), rc') ∧ M_X5_ring p1 (nI n) m_ds = some r := by
      rcases first_of (fun i => znew d n (zmet d n i) i = true ∧ nI (zrc d n i) = p1) n with q | ⟨j, q1, q2, q3⟩
      · rw [e2 q]
        unfold M_X4_ring
        rw [if_pos hp, hcur, ob_sb]
        by_cases hm : p1 = -1
        · rw [if_pos hm, if_pos hm, m_howMany v2 v5 t2]
          exact ⟨_, rfl, rfl⟩
        · rw [if_neg hm, if_neg hm, c2 q]
          exact ⟨_, rfl, rfl⟩
      · have hm : ¬ p1 = -1 := fun e => by
          have e3 := q2.2
          rw [e] at e3
          have h3 := nI_pos (n := zrc d n j) (by have := zrc_le d n j; omega)
          rw [e3] at h3
          exact h3 (by decide)
        refine ⟨nI (zro d n j n), ?_, e1 j q1 q2 q3⟩
        unfold M_X4_ring
        rw [if_pos hp, hcur, ob_sb, if_neg hm, c1 j q1 q2 q3]
        rfl
    obtain ⟨r, r1, r2⟩ := key
    exact ⟨_, _, r1, r2, rfl, hI⟩
  · refine ⟨(-2, r_t, r_ir, r_rc), -2, ?_, ?_, rfl, hI⟩
    · unfold M_X4_ring; rw [if_neg hp]
    · unfold M_X5_ring; rw [if_neg hp]
theorem ok_lie {g_kp : Int32} {g_tf : Int32} {g_ts : Int32} {w_t : Int32} {w_k : Int32} {w_f : Int32} {w_cs : Nat → Int32} {w_ds : Nat → Int32} {i_t : Int32} {i_k : Int32} {i_f : Int32} {i_cs : Nat → Int32} {i_ds : Nat → Int32} {j_t : Int32} {j_k : Int32} {j_f : Int32} {j_cs : Nat → Int32} {j_ds : Nat → Int32} {t_ln : Int32} {t_sg : Nat → Int32} {r_t : Int32} {r_ir : Int32} {r_rc : Nat → Int32} {e_mu : Int32} {e_ma : Int32} {e_cf : Nat → Int64} {m_sz : Int32} {m_kn : Int32} {m_sg : Int32} {m_fa : Int32} {m_ds : Nat → Int32} {m_cs : Nat → Int32} {m_tx : Nat → Int32} {m_ia : Nat → Int32} {m_im : Nat → Int32} {m_ik : Nat → Int32} (h : INV g_kp g_tf g_ts w_t w_k w_f w_cs w_ds i_t i_k i_f i_cs i_ds j_t j_k j_f j_cs j_ds t_ln t_sg r_t r_ir r_rc e_mu e_ma e_cf m_sz m_kn m_sg m_fa m_ds m_cs m_tx m_ia m_im m_ik) (p1 : Int32) : ∃ (R : Int32 × Int32 × Int32 × (Nat → Int32)) (R' : Int32), M_X4_lie w_t w_f w_ds p1 r_t r_rc r_ir = some R ∧ M_X5_lie p1 m_sz m_ds = some R' ∧ R.1 = R' ∧ INV g_kp g_tf g_ts w_t w_k w_f w_cs w_ds i_t i_k i_f i_cs i_ds j_t j_k j_f j_cs j_ds t_ln t_sg R.2.1 R.2.2.1 R.2.2.2 e_mu e_ma e_cf m_sz m_kn m_sg m_fa m_ds m_cs m_tx m_ia m_im m_ik := by
  have hI := h
  obtain ⟨n, K, F, L, c, d, t, b0, b1, ⟨v1, v2, v3, v4, v5⟩, ⟨rfl, rfl, rfl, w4, w5, w6, w7⟩, ⟨rfl, rfl, m3, m4⟩, hT, hX, hk, h0, h1, hf⟩ := h
  obtain ⟨rc', t1, t2⟩ := m_trace (rc := r_rc) v2 v5 w7
  have hcur : M_X4_currentRings (nI n) w_ds r_rc = some (nI n, nI (zring d n n), rc') := by unfold M_X4_currentRings; rw [t1]; rfl
  by_cases q0 : p1 = 0
  · subst q0
    refine ⟨(nI (zsel (zlp d n 0) n), nI n, nI (zring d n n), rc'), _, ?_, m5_lie v2 v5 m4 (Or.inl rfl), rfl, hI⟩
    unfold M_X4_lie
    rw [if_pos rfl, hcur, ob_sb, zlie_0 v5]
  · by_cases q1 : p1 = 1
    · subst q1
      refine ⟨(nI (zsel (zlp d n 1) n), nI n, nI (zring d n n), rc'), _, ?_, m5_lie v2 v5 m4 (Or.inr (Or.inl rfl)), rfl, hI⟩
      unfold M_X4_lie
      rw [if_neg q0, if_pos rfl, hcur, ob_sb, m_before v2 v5 t2, ob_sb, zlie_1 v5]
    · by_cases q2 : p1 = 2
      · subst q2
        refine ⟨(nI (zsel (zlp d n 2) n), nI n, nI (zring d n n), rc'), _, ?_, m5_lie v2 v5 m4 (Or.inr (Or.inr (Or.inl rfl))), rfl, hI⟩
        unfold M_X4_lie
        rw [if_neg q0, if_neg q1, if_pos rfl, hcur, ob_sb, m_behind v2 t2, ob_sb, zlie_2 v5]
      · by_cases q3 : p1 = 3
        · subst q3
          refine ⟨(nI (zsel (zlp d n 3) n), r_t, r_ir, r_rc), _, ?_, m5_lie v2 v5 m4 (Or.inr (Or.inr (Or.inr (Or.inl rfl)))), rfl, hI⟩
          unfold M_X4_lie
          rw [if_neg q0, if_neg q1, if_neg q2, if_pos rfl, m_all v2, ob_sb, m_used v2 w7, ob_sb, i_dif, zlie_3]
        · by_cases q4 : p1 = 4
          · subst q4
            refine ⟨(nI (zsel (zlp d n 4) n), r_t, r_ir, r_rc), _, ?_, m5_lie v2 v5 m4 (Or.inr (Or.inr (Or.inr (Or.inr rfl)))), rfl, hI⟩
            unfold M_X4_lie
            rw [if_neg q0, if_neg q1, if_neg q2, if_neg q3, if_pos rfl, m_all v2, ob_sb, i_dif, zlie_4 w5]
          · refine ⟨(-2, r_t, r_ir, r_rc), -2, ?_, ?_, rfl, hI⟩
            · unfold M_X4_lie; rw [if_neg q0, if_neg q1, if_neg q2, if_neg q3, if_neg q4]
            · have hin : M_X5_in p1 0 4 = some 0 := by
                unfold M_X5_in
                by_cases g : p1 < 0
                · rw [if_pos g]
                · obtain ⟨v, hv, rfl⟩ := nI_of g
                  have hv4 : 4 < v := by
                    rcases Nat.lt_or_ge 4 v with q | q
                    · exact q
                    · exfalso
                      rcases (by omega : v = 0 ∨ v = 1 ∨ v = 2 ∨ v = 3 ∨ v = 4) with rfl | rfl | rfl | rfl | rfl
                      · exact q0 rfl
                      · exact q1 rfl
                      · exact q2 rfl
                      · exact q3 rfl
                      · exact q4 rfl
                  rw [if_neg g, if_pos (show (4 : Int32) < nI v from nI_lt (a := 4) hv4 hv)]
              unfold M_X5_lie; rw [hin, ob_sb, if_pos rfl]
