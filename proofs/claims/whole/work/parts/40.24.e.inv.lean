theorem in10_no {n : Nat} {p : Int32} (v2 : n ≤ 14) (hw : (p - 10) < 0 ∨ nI n ≤ (p - 10)) : M_X5_in p 10 (9 + nI n) = some 0 := by
  have e9 : 9 + nI n = nI (9 + n) := nI_add 9 n
  by_cases g1 : p < 10
  · exact not_in (Or.inl g1)
  · by_cases g2 : p ≤ nI (9 + n)
    · obtain ⟨v, hv1, hv2, rfl⟩ := between (a := 10) (b := 9 + n) (by decide) (by omega) g1 g2
      exfalso
      rw [show nI v - 10 = nI (v - 10) from pk_sub (b := 10) hv1] at hw
      rcases hw with hw | hw
      · exact nI_pos (n := v - 10) (by omega) hw
      · exact nI_ge (a := v - 10) (b := n) (by omega) (by omega) hw
    · exact not_in (Or.inr (by rw [e9]; exact lt_of_nle g2))
theorem in10_yes {n j : Nat} {p : Int32} (v2 : n ≤ 14) (hj : j < n) (hje : p - 10 = nI j) : p = nI (j + 10) ∧ M_X5_in p 10 (9 + nI n) = some 1 := by
  have e9 : 9 + nI n = nI (9 + n) := nI_add 9 n
  have hpe : p = nI (j + 10) := by
    have h1 : p - 10 + 10 = nI j + 10 := by rw [hje]
    rw [Int32.sub_add_cancel] at h1
    rw [h1]; exact nI_add j 10
  refine ⟨hpe, ?_⟩
  rw [hpe, e9]
  exact yes_in (nI_nlt (b := 10) (by omega) (by omega)) (nI_nlt (by omega) (by omega))
theorem in01_no {p : Int32} (q0 : ¬ p = 0) (q1 : ¬ p = 1) : M_X5_in p 0 1 = some 0 := by
  by_cases g1 : p < 0
  · exact not_in (Or.inl g1)
  · by_cases g2 : p ≤ 1
    · obtain ⟨v, hv1, hv2, rfl⟩ := between (a := 0) (b := 1) (by decide) (by decide) g1 g2
      exfalso
      rcases (by omega : v = 0 ∨ v = 1) with rfl | rfl
      · exact q0 rfl
      · exact q1 rfl
    · exact not_in (Or.inr (lt_of_nle g2))
theorem ok_least {g_kp : Int32} {g_tf : Int32} {g_ts : Int32} {w_t : Int32} {w_k : Int32} {w_f : Int32} {w_cs : Nat → Int32} {w_ds : Nat → Int32} {i_t : Int32} {i_k : Int32} {i_f : Int32} {i_cs : Nat → Int32} {i_ds : Nat → Int32} {j_t : Int32} {j_k : Int32} {j_f : Int32} {j_cs : Nat → Int32} {j_ds : Nat → Int32} {t_ln : Int32} {t_sg : Nat → Int32} {r_t : Int32} {r_ir : Int32} {r_rc : Nat → Int32} {e_mu : Int32} {e_ma : Int32} {e_cf : Nat → Int64} {m_sz : Int32} {m_kn : Int32} {m_sg : Int32} {m_fa : Int32} {m_ds : Nat → Int32} {m_cs : Nat → Int32} {m_tx : Nat → Int32} {m_ia : Nat → Int32} {m_im : Nat → Int32} {m_ik : Nat → Int32} (h : INV g_kp g_tf g_ts w_t w_k w_f w_cs w_ds i_t i_k i_f i_cs i_ds j_t j_k j_f j_cs j_ds t_ln t_sg r_t r_ir r_rc e_mu e_ma e_cf m_sz m_kn m_sg m_fa m_ds m_cs m_tx m_ia m_im m_ik) (p1 : Int32) : ∃ (R : Int32 × Int32 × Int32 × Int32 × (Nat → Int32) × Int32 × Int32 × (Nat → Int64)) (R' : Int32 × (Nat → Int32)), M_X4_least w_t w_f w_ds p1 r_t r_rc r_ir e_mu e_ma e_cf g_ts = some R ∧ M_X5_least p1 m_sz m_ds m_ia = some R' ∧ R.1 = R'.1 ∧ INV g_kp g_tf R.2.1 w_t w_k w_f w_cs w_ds i_t i_k i_f i_cs i_ds j_t j_k j_f j_cs j_ds t_ln t_sg R.2.2.1 R.2.2.2.1 R.2.2.2.2.1 R.2.2.2.2.2.1 R.2.2.2.2.2.2.1 R.2.2.2.2.2.2.2 m_sz m_kn m_sg m_fa m_ds m_cs m_tx R'.2 m_im m_ik := by
  have hI := h
  obtain ⟨n, K, F, L, c, d, t, b0, b1, ⟨v1, v2, v3, v4, v5⟩, ⟨rfl, rfl, rfl, w4, w5, w6, w7⟩, ⟨rfl, rfl, m3, m4⟩, hT, hX, hk, h0, h1, hf⟩ := h
  obtain ⟨rt', ri', rc', cf', ht, htab⟩ := m_tell (rc := r_rc) (rt := r_t) (ri := r_ir) v2 v5 w7 hT
  obtain ⟨ia', ia1, ia2⟩ := m5_leastA (ia := m_ia) v2 v5 m4
  have hB := zbar_of (n := n) w5
  have hBn := zbar_lt hB
  have hN : zring d n n < 2 ^ 14 := lt14 (zring_lt d n) v2
  have s0 : ∀ x, zsub 0 x := fun x i hi => by rw [Nat.zero_testBit] at hi; cases hi
  have hnew : ∀ r : Int32, INV g_kp g_tf 1 (nI n) (nI K) (nI F) w_cs w_ds i_t i_k i_f i_cs i_ds j_t j_k j_f j_cs j_ds t_ln t_sg rt' ri' rc' (nI (zdif (2 ^ n - 1) F)) (nI (zring d n n)) cf' (nI n) (nI K) m_sg m_fa m_ds m_cs m_tx ia' m_im m_ik := fun _ => ⟨n, K, F, L, c, d, t, b0, b1, ⟨v1, v2, v3, v4, v5⟩, ⟨rfl, rfl, rfl, w4, w5, w6, w7⟩, ⟨rfl, rfl, m3, m4⟩, Or.inr ⟨rfl, rfl, rfl, htab⟩, hX, hk, h0, h1, hf⟩
  by_cases q0 : p1 = 0
  · have q1 : ¬ p1 = 1 := by rw [q0]; decide
    have hlw : M_X1_leastWith 0 (nI (zdif (2 ^ n - 1) F)) (nI (zring d n n)) cf' = _ := m_leastWith (W := 0) v2 htab hBn (by decide)
    have hcnt : zcnt (fun S => zdec (zleM d n S)) (2 ^ n) = zcnt (fun T => zdec (zsub T (zring d n n) ∧ zleC d (zring d n n) T ∧ zsub 0 (T ||| zdif (2 ^ n - 1) F))) (2 ^ 14) := zleast_cnt v5 hB hN (fun _ => true) (fun K _ => ⟨fun h => ⟨zdec_iff.mp h, rfl⟩, fun h => zdec_iff.mpr h.1⟩) (fun T _ => ⟨fun h => ⟨(zdec_iff.mp h).1, (zdec_iff.mp h).2.1, rfl⟩, fun h => zdec_iff.mpr ⟨h.1, h.2.1, s0 _⟩⟩)
    rw [← hcnt] at hlw
    have hle : p1 ≤ 9 := by rw [q0]; decide
    have hin : M_X5_in p1 0 1 = some 1 := by rw [q0]; exact yes_in (by decide) (by decide)
    refine ⟨(nI (zcnt (fun S => zdec (zleM d n S)) (2 ^ n)), 1, rt', ri', rc', nI (zdif (2 ^ n - 1) F), nI (zring d n n), cf'), (nI (zcnt (fun S => zdec (zleM d n S)) (2 ^ n)), ia'), ?_, ?_, rfl, hnew 0⟩
    · unfold M_X4_least
      rw [if_pos q0, ht]
      simp only [ob_sb]
      rw [if_neg q1, if_pos q0, hlw]
      rfl
    · unfold M_X5_least
      rw [hin, ob_sb, if_neg (show ¬ (1 : Int32) = 0 by decide), ia2, m5_leastB (fun _ => false) v2 ia1 (Or.inl ⟨hle, fun _ => rfl⟩) _, if_pos q0]
  · by_cases q1 : p1 = 1
    · have hg := m_greatest v2 htab hBn
      have hmax : zmax (fun S => zdec (zleM d n S)) (fun S => zpc S 14) (2 ^ n) = zmax (fun T => zdec (zsub T (zring d n n) ∧ zleC d (zring d n n) T)) (fun T => zpc (T ||| zdif (2 ^ n - 1) F) 14) (2 ^ 14) := zleast_max v5 hB hN (fun K _ => zdec_iff) (fun T _ => zdec_iff) (fun T => rfl)
      rw [← hmax] at hg
      have hle : p1 ≤ 9 := by rw [q1]; decide
      have hin : M_X5_in p1 0 1 = some 1 := by rw [q1]; exact yes_in (by decide) (by decide)
      refine ⟨(nI (zmax (fun S => zdec (zleM d n S)) (fun S => zpc S 14) (2 ^ n)), 1, rt', ri', rc', nI (zdif (2 ^ n - 1) F), nI (zring d n n), cf'), (nI (zmax (fun S => zdec (zleM d n S)) (fun S => zpc S 14) (2 ^ n)), ia'), ?_, ?_, rfl, hnew 0⟩
      · unfold M_X4_least
        rw [if_neg q0, if_pos q1, ht]
        simp only [ob_sb]
        rw [if_pos q1, hg]
        rfl
      · unfold M_X5_least
        rw [hin, ob_sb, if_neg (show ¬ (1 : Int32) = 0 by decide), ia2, m5_leastB (fun _ => false) v2 ia1 (Or.inl ⟨hle, fun _ => rfl⟩) _, if_neg q0, if_pos q1]
    · have hin := in01_no q0 q1
      by_cases hw : (p1 - 10) < 0 ∨ nI n ≤ (p1 - 10)
      · refine ⟨(-2, g_ts, r_t, r_ir, r_rc, e_mu, e_ma, e_cf), (-2, m_ia), ?_, ?_, rfl, hI⟩
        · unfold M_X4_least; rw [if_neg q0, if_neg q1, m_has_no hw, ob_sb, if_pos rfl]
        · unfold M_X5_least; rw [hin, ob_sb, if_pos rfl, in10_no v2 hw, ob_sb, if_pos rfl]
      · obtain ⟨j, hj, hje⟩ : ∃ j, j < n ∧ p1 - 10 = nI j := by
          rcases pk_ix (p1 - 10) (n := n) (by omega) with q | q | q
          · exact absurd (Or.inl q) hw
          · exact absurd (Or.inr q) hw
          · exact q
        obtain ⟨hpe, hyes⟩ := in10_yes v2 hj hje
        have hnle : ¬ p1 ≤ 9 := by
          rw [hpe]
          exact fun g => absurd ((nI_leI (a := j + 10) (b := 9) (by omega) (by decide)).mp g) (by omega)
        have hW : 2 ^ j < 2 ^ 31 := Nat.pow_lt_pow_right (by decide) (by omega)
        have hlw := m_leastWith (W := 2 ^ j) v2 htab hBn hW
        have hcnt : zcnt (fun S => zdec (zleM d n S) && S.testBit j) (2 ^ n) = zcnt (fun T => zdec (zsub T (zring d n n) ∧ zleC d (zring d n n) T ∧ zsub (2 ^ j) (T ||| zdif (2 ^ n - 1) F))) (2 ^ 14) := by
          refine zleast_cnt v5 hB hN (fun S => S.testBit j) (fun K _ => ⟨fun h => ?_, fun h => ?_⟩) (fun T _ => ⟨fun h => ⟨(zdec_iff.mp h).1, (zdec_iff.mp h).2.1, zsub_one.mp (zdec_iff.mp h).2.2⟩, fun h => zdec_iff.mpr ⟨h.1, h.2.1, zsub_one.mpr h.2.2⟩⟩)
          · have h' : (zdec (zleM d n K) && K.testBit j) = true := h
            rw [Bool.and_eq_true] at h'
            exact ⟨zdec_iff.mp h'.1, h'.2⟩
          · show (zdec (zleM d n K) && K.testBit j) = true
            rw [Bool.and_eq_true]
            exact ⟨zdec_iff.mpr h.1, h.2⟩
        rw [← hcnt] at hlw
        refine ⟨(nI (zcnt (fun S => zdec (zleM d n S) && S.testBit j) (2 ^ n)), 1, rt', ri', rc', nI (zdif (2 ^ n - 1) F), nI (zring d n n), cf'), (nI (zcnt (fun S => zdec (zleM d n S) && S.testBit j) (2 ^ n)), ia'), ?_, ?_, rfl, hnew 0⟩
        · unfold M_X4_least
          rw [if_neg q0, if_neg q1, hje, m_has_yes v2 hj, ob_sb, if_neg (show ¬ (1 : Int32) = 0 by decide), ht]
          simp only [ob_sb]
          rw [if_neg q1, if_neg q0, i_one (by omega), hlw]
          rfl
        · unfold M_X5_least
          rw [hin, ob_sb, if_pos rfl, hyes, ob_sb, if_neg (show ¬ (1 : Int32) = 0 by decide), ia2, m5_leastB (fun S => S.testBit j) v2 ia1 (Or.inr ⟨hnle, j, by omega, hje, fun _ => rfl⟩) _, if_neg q0, if_neg q1]
theorem IK_keep {b : Bool} {k : Nat} {t kn f : Int32} {cs ds im ik im' ik' : Nat → Int32} (h : IK b k t kn f cs ds im ik) (e : ik' k = ik k) (hm : ∀ j, j < 30 → im' (30 * k + j) = im (30 * k + j)) : IK b k t kn f cs ds im' ik' := by
  refine ⟨e.trans h.1, fun hb => ?_⟩
  obtain ⟨n, K, F, c, d, hV, hC, m1, m2, m3, m4⟩ := h.2 hb
  refine ⟨n, K, F, c, d, hV, hC, (hm 0 (by decide)).trans m1, (hm 1 (by decide)).trans m2, fun i hi => ?_, fun i hi => ?_⟩
  · have := hm (16 + i) (by omega)
    rw [← Nat.add_assoc] at this
    exact this.trans (m3 i hi)
  · have := hm (2 + i) (by omega)
    rw [← Nat.add_assoc] at this
    exact this.trans (m4 i hi)
theorem kp_or0 (b0 b1 : Bool) : nI (zb b0 + 2 * zb b1) ||| ((1 : Int32) <<< (nI 0 &&& 31)) = nI (zb true + 2 * zb b1) := by cases b0 <;> cases b1 <;> decide
theorem kp_or1 (b0 b1 : Bool) : nI (zb b0 + 2 * zb b1) ||| ((1 : Int32) <<< (nI 1 &&& 31)) = nI (zb b0 + 2 * zb true) := by cases b0 <;> cases b1 <;> decide
theorem kp_at0 (b0 b1 : Bool) : (nI (zb b0 + 2 * zb b1) >>> (nI 0 &&& 31)) &&& 1 = if b0 then 1 else 0 := by cases b0 <;> cases b1 <;> decide
theorem kp_at1 (b0 b1 : Bool) : (nI (zb b0 + 2 * zb b1) >>> (nI 1 &&& 31)) &&& 1 = if b1 then 1 else 0 := by cases b0 <;> cases b1 <;> decide
theorem lt2_le1 {p : Int32} : p < 2 ↔ p ≤ 1 := by
  rw [Int32.lt_iff_toInt_lt, Int32.le_iff_toInt_le]
  have e1 : (1 : Int32).toInt = 1 := rfl
  have e2 : (2 : Int32).toInt = 2 := rfl
  omega
theorem ok_image {g_kp : Int32} {g_tf : Int32} {g_ts : Int32} {w_t : Int32} {w_k : Int32} {w_f : Int32} {w_cs : Nat → Int32} {w_ds : Nat → Int32} {i_t : Int32} {i_k : Int32} {i_f : Int32} {i_cs : Nat → Int32} {i_ds : Nat → Int32} {j_t : Int32} {j_k : Int32} {j_f : Int32} {j_cs : Nat → Int32} {j_ds : Nat → Int32} {t_ln : Int32} {t_sg : Nat → Int32} {r_t : Int32} {r_ir : Int32} {r_rc : Nat → Int32} {e_mu : Int32} {e_ma : Int32} {e_cf : Nat → Int64} {m_sz : Int32} {m_kn : Int32} {m_sg : Int32} {m_fa : Int32} {m_ds : Nat → Int32} {m_cs : Nat → Int32} {m_tx : Nat → Int32} {m_ia : Nat → Int32} {m_im : Nat → Int32} {m_ik : Nat → Int32} (h : INV g_kp g_tf g_ts w_t w_k w_f w_cs w_ds i_t i_k i_f i_cs i_ds j_t j_k j_f j_cs j_ds t_ln t_sg r_t r_ir r_rc e_mu e_ma e_cf m_sz m_kn m_sg m_fa m_ds m_cs m_tx m_ia m_im m_ik) (p1 : Int32) : ∃ (R : Int32 × Int32 × Int32 × Int32 × Int32 × (Nat → Int32) × (Nat → Int32) × Int32 × Int32 × Int32 × (Nat → Int32) × (Nat → Int32)) (R' : Int32 × (Nat → Int32) × (Nat → Int32)), M_X4_image w_t w_k w_f w_cs w_ds p1 i_t i_k i_f i_cs i_ds j_t j_k j_f j_cs j_ds g_kp = some R ∧ M_X5_image p1 m_sz m_ds m_cs m_kn m_im m_ik = some R' ∧ R.1 = R'.1 ∧ INV R.2.1 g_tf g_ts w_t w_k w_f w_cs w_ds R.2.2.1 R.2.2.2.1 R.2.2.2.2.1 R.2.2.2.2.2.1 R.2.2.2.2.2.2.1 R.2.2.2.2.2.2.2.1 R.2.2.2.2.2.2.2.2.1 R.2.2.2.2.2.2.2.2.2.1 R.2.2.2.2.2.2.2.2.2.2.1 R.2.2.2.2.2.2.2.2.2.2.2 t_ln t_sg r_t r_ir r_rc e_mu e_ma e_cf m_sz m_kn m_sg m_fa m_ds m_cs m_tx m_ia R'.2.1 R'.2.2 := by
  have hI := h
  obtain ⟨n, K, F, L, c, d, t, b0, b1, ⟨v1, v2, v3, v4, v5⟩, ⟨rfl, rfl, rfl, w4, w5, w6, w7⟩, ⟨rfl, rfl, m3, m4⟩, hT, hX, rfl, h0, h1, hf⟩ := h
  by_cases hlo : p1 < 0
  · refine ⟨(-2, nI (zb b0 + 2 * zb b1), i_t, i_k, i_f, i_cs, i_ds, j_t, j_k, j_f, j_cs, j_ds), (-2, m_im, m_ik), ?_, ?_, rfl, hI⟩
    · unfold M_X4_image; rw [if_pos hlo]
    · unfold M_X5_image; rw [not_in (Or.inl hlo), ob_sb, if_pos rfl]
  · by_cases hhi : p1 < 2
    · obtain ⟨v, -, hv, rfl⟩ := between (a := 0) (b := 1) (by decide) (by decide) hlo (lt2_le1.mp hhi)
      rcases (by omega : v = 0 ∨ v = 1) with rfl | rfl
      · obtain ⟨cs', ds', c1, c2, c3⟩ := m_copyFrom (wcs := i_cs) (wds := i_ds) (ocs := w_cs) (ods := w_ds) (t := nI n) (k := nI K) (f := nI F)
        obtain ⟨im', ik', a1, a2, a3, a4, a5, a6, a7, a8⟩ := m5_image (k := 0) (sz := nI n) (kn := nI K) (md := m_ds) (mcs := m_cs) (im := m_im) (ik := m_ik) (by decide)
        refine ⟨(1, nI (zb true + 2 * zb b1), nI n, nI K, nI F, cs', ds', j_t, j_k, j_f, j_cs, j_ds), (1, im', ik'), ?_, a1, rfl, n, K, F, L, c, d, t, true, b1, ⟨v1, v2, v3, v4, v5⟩, ⟨rfl, rfl, rfl, w4, w5, w6, w7⟩, ⟨rfl, rfl, m3, m4⟩, hT, hX, rfl, ⟨a7, fun _ => ⟨n, K, F, c, d, ⟨v1, v2, v3, v4, v5⟩, ⟨rfl, rfl, rfl, w4, w5, fun i hi => (c2 i hi).trans (w6 i hi), fun i hi => (c3 i hi).trans (w7 i hi)⟩, ⟨a2, a3, fun i hi => (a5 i hi).trans (m3 i hi), fun i hi => (a4 i hi).trans (m4 i hi)⟩⟩⟩, IK_keep h1 (a8 1 (by decide)) (fun j hj => a6 _ (by omega)), hf⟩
        unfold M_X4_image
        rw [if_neg hlo, if_pos hhi, if_pos (show nI 0 = 0 from rfl), kp_or0, c1]
        rfl
      · obtain ⟨cs', ds', c1, c2, c3⟩ := m_copyFrom (wcs := j_cs) (wds := j_ds) (ocs := w_cs) (ods := w_ds) (t := nI n) (k := nI K) (f := nI F)
        obtain ⟨im', ik', a1, a2, a3, a4, a5, a6, a7, a8⟩ := m5_image (k := 1) (sz := nI n) (kn := nI K) (md := m_ds) (mcs := m_cs) (im := m_im) (ik := m_ik) (by decide)
        refine ⟨(1, nI (zb b0 + 2 * zb true), i_t, i_k, i_f, i_cs, i_ds, nI n, nI K, nI F, cs', ds'), (1, im', ik'), ?_, a1, rfl, n, K, F, L, c, d, t, b0, true, ⟨v1, v2, v3, v4, v5⟩, ⟨rfl, rfl, rfl, w4, w5, w6, w7⟩, ⟨rfl, rfl, m3, m4⟩, hT, hX, rfl, IK_keep h0 (a8 0 (by decide)) (fun j hj => a6 _ (by omega)), ⟨a7, fun _ => ⟨n, K, F, c, d, ⟨v1, v2, v3, v4, v5⟩, ⟨rfl, rfl, rfl, w4, w5, fun i hi => (c2 i hi).trans (w6 i hi), fun i hi => (c3 i hi).trans (w7 i hi)⟩, ⟨a2, a3, fun i hi => (a5 i hi).trans (m3 i hi), fun i hi => (a4 i hi).trans (m4 i hi)⟩⟩⟩, hf⟩
        unfold M_X4_image
        rw [if_neg hlo, if_pos hhi, if_neg (show ¬ nI 1 = 0 by decide), if_pos (show nI 1 = 1 from rfl), kp_or1, c1]
        rfl
    · refine ⟨(-2, nI (zb b0 + 2 * zb b1), i_t, i_k, i_f, i_cs, i_ds, j_t, j_k, j_f, j_cs, j_ds), (-2, m_im, m_ik), ?_, ?_, rfl, hI⟩
      · unfold M_X4_image; rw [if_neg hlo, if_neg hhi]
      · unfold M_X5_image; rw [not_in (Or.inr (lt_of_nle (fun g => hhi (lt2_le1.mpr g)))), ob_sb, if_pos rfl]
theorem ok_restore {g_kp : Int32} {g_tf : Int32} {g_ts : Int32} {w_t : Int32} {w_k : Int32} {w_f : Int32} {w_cs : Nat → Int32} {w_ds : Nat → Int32} {i_t : Int32} {i_k : Int32} {i_f : Int32} {i_cs : Nat → Int32} {i_ds : Nat → Int32} {j_t : Int32} {j_k : Int32} {j_f : Int32} {j_cs : Nat → Int32} {j_ds : Nat → Int32} {t_ln : Int32} {t_sg : Nat → Int32} {r_t : Int32} {r_ir : Int32} {r_rc : Nat → Int32} {e_mu : Int32} {e_ma : Int32} {e_cf : Nat → Int64} {m_sz : Int32} {m_kn : Int32} {m_sg : Int32} {m_fa : Int32} {m_ds : Nat → Int32} {m_cs : Nat → Int32} {m_tx : Nat → Int32} {m_ia : Nat → Int32} {m_im : Nat → Int32} {m_ik : Nat → Int32} (h : INV g_kp g_tf g_ts w_t w_k w_f w_cs w_ds i_t i_k i_f i_cs i_ds j_t j_k j_f j_cs j_ds t_ln t_sg r_t r_ir r_rc e_mu e_ma e_cf m_sz m_kn m_sg m_fa m_ds m_cs m_tx m_ia m_im m_ik) (p1 : Int32) : ∃ (R : Int32 × Int32 × Int32 × Int32 × Int32 × (Nat → Int32) × (Nat → Int32)) (R' : Int32 × Int32 × Int32 × (Nat → Int32) × (Nat → Int32)), M_X4_restore w_t w_k w_f w_cs w_ds p1 i_t i_k i_f i_cs i_ds j_t j_k j_f j_cs j_ds g_kp g_ts = some R ∧ M_X5_restore p1 m_sz m_ds m_cs m_kn m_im m_ik = some R' ∧ R.1 = R'.1 ∧ INV g_kp g_tf R.2.1 R.2.2.1 R.2.2.2.1 R.2.2.2.2.1 R.2.2.2.2.2.1 R.2.2.2.2.2.2 i_t i_k i_f i_cs i_ds j_t j_k j_f j_cs j_ds t_ln t_sg r_t r_ir r_rc e_mu e_ma e_cf R'.2.1 R'.2.2.1 m_sg m_fa R'.2.2.2.1 R'.2.2.2.2 m_tx m_ia m_im m_ik := by
  have hI := h
  obtain ⟨n, K, F, L, c, d, t, b0, b1, ⟨v1, v2, v3, v4, v5⟩, ⟨rfl, rfl, rfl, w4, w5, w6, w7⟩, ⟨rfl, rfl, m3, m4⟩, hT, hX, rfl, h0, h1, hf⟩ := h
  by_cases hlo : p1 < 0
  · refine ⟨(-2, g_ts, nI n, nI K, nI F, w_cs, w_ds), (-2, nI n, nI K, m_ds, m_cs), ?_, ?_, rfl, hI⟩
    · unfold M_X4_restore; rw [if_pos hlo]
    · unfold M_X5_restore; rw [not_in (Or.inl hlo), ob_sb, if_pos rfl]
  · by_cases hhi : p1 < 2
    · obtain ⟨v, -, hv, rfl⟩ := between (a := 0) (b := 1) (by decide) (by decide) hlo (lt2_le1.mp hhi)
      have hin : M_X5_in (nI v) 0 1 = some 1 := yes_in hlo (nlt_of_le (lt2_le1.mp hhi))
      have hmno : m_ik v = 0 → M_X5_restore (nI v) (nI n) m_ds m_cs (nI K) m_im m_ik = some (-3, nI n, nI K, m_ds, m_cs) := fun hz => by
        unfold M_X5_restore
        rw [hin, ob_sb, if_neg (show ¬ (1 : Int32) = 0 by decide), if_neg (i_in (i := v) (N := 2) (by omega) (by decide)), i_cl (by omega), if_pos hz]
      rcases (by omega : v = 0 ∨ v = 1) with rfl | rfl
      · cases b0 with
        | false =>
          refine ⟨(-3, g_ts, nI n, nI K, nI F, w_cs, w_ds), (-3, nI n, nI K, m_ds, m_cs), ?_, hmno h0.1, rfl, hI⟩
          unfold M_X4_restore
          rw [if_neg hlo, if_pos hhi, kp_at0, if_pos (show (if false = true then (1 : Int32) else 0) = 0 from rfl)]
        | true =>
          obtain ⟨n', K', F', c', d', hV', ⟨e1, e2, e3, w4', w5', w6', w7'⟩, ⟨m1', m2', m3', m4'⟩⟩ := h0.2 rfl
          obtain ⟨cs', ds', c1, c2, c3⟩ := m_copyFrom (wcs := w_cs) (wds := w_ds) (ocs := i_cs) (ods := i_ds) (t := i_t) (k := i_k) (f := i_f)
          obtain ⟨mds', mcs', r1, r2, r3⟩ := m5_restore (k := 0) (sz := nI n) (kn := nI K) (md := m_ds) (mcs := m_cs) (im := m_im) (ik := m_ik) (by decide) (by rw [h0.1]; decide)
          refine ⟨(1, 0, i_t, i_k, i_f, cs', ds'), (1, m_im (30 * 0), m_im (30 * 0 + 1), mds', mcs'), ?_, r1, rfl, n', K', F', L, c', d', t, true, b1, hV', ⟨e1, e2, e3, w4', w5', fun i hi => (c2 i hi).trans (w6' i hi), fun i hi => (c3 i hi).trans (w7' i hi)⟩, ⟨m1', m2', fun i hi => (r3 i hi).trans (m3' i hi), fun i hi => (r2 i hi).trans (m4' i hi)⟩, Or.inl rfl, hX, rfl, h0, h1, hf⟩
          unfold M_X4_restore
          rw [if_neg hlo, if_pos hhi, kp_at0, if_neg (show ¬ (if true = true then (1 : Int32) else 0) = 0 by decide), if_pos (show nI 0 = 0 from rfl), c1]
          rfl
      · cases b1 with
        | false =>
          refine ⟨(-3, g_ts, nI n, nI K, nI F, w_cs, w_ds), (-3, nI n, nI K, m_ds, m_cs), ?_, hmno h1.1, rfl, hI⟩
          unfold M_X4_restore
          rw [if_neg hlo, if_pos hhi, kp_at1, if_pos (show (if false = true then (1 : Int32) else 0) = 0 from rfl)]
        | true =>
          obtain ⟨n', K', F', c', d', hV', ⟨e1, e2, e3, w4', w5', w6', w7'⟩, ⟨m1', m2', m3', m4'⟩⟩ := h1.2 rfl
          obtain ⟨cs', ds', c1, c2, c3⟩ := m_copyFrom (wcs := w_cs) (wds := w_ds) (ocs := j_cs) (ods := j_ds) (t := j_t) (k := j_k) (f := j_f)
          obtain ⟨mds', mcs', r1, r2, r3⟩ := m5_restore (k := 1) (sz := nI n) (kn := nI K) (md := m_ds) (mcs := m_cs) (im := m_im) (ik := m_ik) (by decide) (by rw [h1.1]; decide)
          refine ⟨(1, 0, j_t, j_k, j_f, cs', ds'), (1, m_im (30 * 1), m_im (30 * 1 + 1), mds', mcs'), ?_, r1, rfl, n', K', F', L, c', d', t, b0, true, hV', ⟨e1, e2, e3, w4', w5', fun i hi => (c2 i hi).trans (w6' i hi), fun i hi => (c3 i hi).trans (w7' i hi)⟩, ⟨m1', m2', fun i hi => (r3 i hi).trans (m3' i hi), fun i hi => (r2 i hi).trans (m4' i hi)⟩, Or.inl rfl, hX, rfl, h0, h1, hf⟩
          unfold M_X4_restore
          rw [if_neg hlo, if_pos hhi, kp_at1, if_neg (show ¬ (if true = true then (1 : Int32) else 0) = 0 by decide), if_neg (show ¬ nI 1 = 0 by decide), if_pos (show nI 1 = 1 from rfl), c1]
          rfl
    · refine ⟨(-2, g_ts, nI n, nI K, nI F, w_cs, w_ds), (-2, nI n, nI K, m_ds, m_cs), ?_, ?_, rfl, hI⟩
      · unfold M_X4_restore; rw [if_neg hlo, if_neg hhi]
      · unfold M_X5_restore; rw [not_in (Or.inr (lt_of_nle (fun g => hhi (lt2_le1.mpr g)))), ob_sb, if_pos rfl]
theorem m3_init : M_X3_init = some (zfl 0 14 (fun _ => 1) (fun _ => 0)) := by
  unfold M_X3_init
  have h0 : L_X3_init_38 (fun (v1_38 : Int32) (n_n23_f_38 : Nat → Int32) => some n_n23_f_38) 40 (nI 0) (zfl 0 0 (fun _ => 1) (fun _ => 0)) = some (zfl 0 14 (fun _ => 1) (fun _ => 0)) := by
    refine loop_seq (fun k (s : Int32 × (Nat → Int32)) => L_X3_init_38 _ k s.1 s.2) (fun i => (nI i, zfl 0 i (fun _ => 1) (fun _ => 0))) 14 _ ?_ ?_ 14 0 40 (by omega) (by omega)
    · intro k i hi
      show L_X3_init_38 _ (k + 1) (nI i) (zfl 0 i (fun _ => 1) (fun _ => 0)) = L_X3_init_38 _ k (nI (i + 1)) (zfl 0 (i + 1) (fun _ => 1) (fun _ => 0))
      rw [L_X3_init_38, if_neg (n14 hi), if_neg (i_in hi (by decide)), i_cl (by omega), nI_1, ← zfl_s (Nat.zero_le i)]
    · intro k
      show L_X3_init_38 _ (k + 1) (nI 14) _ = _
      rw [L_X3_init_38, if_pos l14]
  rw [zfl_0] at h0
  exact h0
theorem m5_init : M_X5_init = some (zfl 0 14 (fun _ => -6) (fun _ => 0), zfl 0 14 (fun _ => 1) (fun _ => 0)) := by
  unfold M_X5_init
  have h0 : L_X5_init_66 (fun (v1_66 : Int32) (n_n13_f_66 : Nat → Int32) (n_n21_f_66 : Nat → Int32) => some (n_n13_f_66, n_n21_f_66)) 40 (nI 0) (zfl 0 0 (fun _ => -6) (fun _ => 0)) (zfl 0 0 (fun _ => 1) (fun _ => 0)) = some (zfl 0 14 (fun _ => -6) (fun _ => 0), zfl 0 14 (fun _ => 1) (fun _ => 0)) := by
    refine loop_seq (fun k (s : Int32 × (Nat → Int32) × (Nat → Int32)) => L_X5_init_66 _ k s.1 s.2.1 s.2.2) (fun i => (nI i, zfl 0 i (fun _ => -6) (fun _ => 0), zfl 0 i (fun _ => 1) (fun _ => 0))) 14 _ ?_ ?_ 14 0 40 (by omega) (by omega)
    · intro k i hi
      show L_X5_init_66 _ (k + 1) (nI i) (zfl 0 i (fun _ => -6) (fun _ => 0)) (zfl 0 i (fun _ => 1) (fun _ => 0)) = L_X5_init_66 _ k (nI (i + 1)) (zfl 0 (i + 1) (fun _ => -6) (fun _ => 0)) (zfl 0 (i + 1) (fun _ => 1) (fun _ => 0))
      rw [L_X5_init_66, if_neg (n14 hi), if_neg (i_in hi (by decide)), if_neg (i_in hi (by decide)), i_cl (by omega), nI_1, ← zfl_s (Nat.zero_le i), ← zfl_s (Nat.zero_le i)]
    · intro k
      show L_X5_init_66 _ (k + 1) (nI 14) _ _ = _
      rw [L_X5_init_66, if_pos l14]
  rw [zfl_0, zfl_0] at h0
  exact h0
theorem ok_init : ∃ (R : (Nat → Int32) × (Nat → Int32) × (Nat → Int32)) (R' : (Nat → Int32) × (Nat → Int32)), M_X4_init = some R ∧ M_X5_init = some R' ∧ INV 0 (-6) 0 8 0 0 R.1 (fun _ => 0) 8 0 0 R.2.1 (fun _ => 0) 8 0 0 R.2.2 (fun _ => 0) 0 (fun _ => 0) 0 0 (fun _ => 0) 0 0 (fun _ => 0) 8 0 0 (-6) R'.1 R'.2 (fun _ => 0) (fun _ => 0) (fun _ => 0) (fun _ => 0) := by
  refine ⟨(zfl 0 14 (fun _ => 1) (fun _ => 0), zfl 0 14 (fun _ => 1) (fun _ => 0), zfl 0 14 (fun _ => 1) (fun _ => 0)), (zfl 0 14 (fun _ => -6) (fun _ => 0), zfl 0 14 (fun _ => 1) (fun _ => 0)), ?_, m5_init, 8, 0, 0, 0, fun _ => 1, fun _ => none, fun _ => 0, false, false, ⟨by decide, by decide, by decide, fun _ => ⟨Nat.le_refl 1, (show 1 ≤ 9 by decide)⟩, fun w s h => (by cases h)⟩, ⟨rfl, rfl, rfl, by decide, fun i => Nat.zero_testBit i, fun i hi => ?_, fun i hi => rfl⟩, ⟨rfl, rfl, fun i hi => ?_, fun i hi => ?_⟩, Or.inl rfl, ⟨Nat.zero_le _, rfl, rfl, fun i hi => rfl, fun i hi => rfl, fun i hi => (show 0 < 128 by decide)⟩, rfl, ⟨rfl, fun h => (by cases h)⟩, ⟨rfl, fun h => (by cases h)⟩, rfl⟩
  · unfold M_X4_init
    rw [m3_init]
    rfl
  · exact zfl_in (Nat.zero_le i) hi (fun _ => 1) (fun _ => 0)
  · exact zfl_in (Nat.zero_le i) hi (fun _ => 1) (fun _ => 0)
  · exact zfl_in (Nat.zero_le i) hi (fun _ => -6) (fun _ => 0)
