/-! class and model side by side: what holds between them at each call's start, and holds again at its end -/
def VW (n K : Nat) (c : Nat → Nat) (d : Nat → Option Nat) : Prop := 1 ≤ n ∧ n ≤ 14 ∧ K < 2 ^ n ∧ (∀ i, 1 ≤ c i ∧ c i ≤ 9) ∧ zwf d n
def CW (n K F : Nat) (c : Nat → Nat) (d : Nat → Option Nat) (t k f : Int32) (cs ds : Nat → Int32) : Prop := t = nI n ∧ k = nI K ∧ f = nI F ∧ F < 2 ^ 14 ∧ (∀ i, F.testBit i = (d i).isSome) ∧ (∀ i, i < 14 → cs i = nI (c i)) ∧ (∀ i, i < 14 → ds i = nI (zu d i))
def MW (n K : Nat) (c : Nat → Nat) (d : Nat → Option Nat) (sz kn : Int32) (cs ds : Nat → Int32) : Prop := sz = nI n ∧ kn = nI K ∧ (∀ i, i < 14 → cs i = nI (c i)) ∧ (∀ i, i < 14 → ds i = zm d i)
def TE (n F : Nat) (d : Nat → Option Nat) (ts mu ma : Int32) (cf : Nat → Int64) : Prop := ts = 0 ∨ (ts = 1 ∧ mu = nI (zdif (2 ^ n - 1) F) ∧ ma = nI (zring d n n) ∧ ztab d (zring d n n) cf)
def TX (L : Nat) (t : Nat → Nat) (ln : Int32) (sg : Nat → Int32) (msg : Int32) (tx : Nat → Int32) : Prop := L ≤ 20 ∧ ln = nI L ∧ msg = nI L ∧ (∀ i, i < 20 → sg i = nI (t i)) ∧ (∀ i, i < 20 → tx i = nI (t i)) ∧ ∀ i, i < 20 → t i < 128
/-- one image, kept or not -/
def IK (b : Bool) (k : Nat) (t kn f : Int32) (cs ds : Nat → Int32) (im ik : Nat → Int32) : Prop := ik k = (if b then 1 else 0) ∧ (b = true → ∃ n K F c d, VW n K c d ∧ CW n K F c d t kn f cs ds ∧ MW n K c d (im (30 * k)) (im (30 * k + 1)) (fun w => im (30 * k + 16 + w)) (fun w => im (30 * k + 2 + w)))
def zb (b : Bool) : Nat := if b then 1 else 0
def INV (g_kp : Int32) (g_tf : Int32) (g_ts : Int32) (w_t : Int32) (w_k : Int32) (w_f : Int32) (w_cs : Nat → Int32) (w_ds : Nat → Int32) (i_t : Int32) (i_k : Int32) (i_f : Int32) (i_cs : Nat → Int32) (i_ds : Nat → Int32) (j_t : Int32) (j_k : Int32) (j_f : Int32) (j_cs : Nat → Int32) (j_ds : Nat → Int32) (t_ln : Int32) (t_sg : Nat → Int32) (r_t : Int32) (r_ir : Int32) (r_rc : Nat → Int32) (e_mu : Int32) (e_ma : Int32) (e_cf : Nat → Int64) (m_sz : Int32) (m_kn : Int32) (m_sg : Int32) (m_fa : Int32) (m_ds : Nat → Int32) (m_cs : Nat → Int32) (m_tx : Nat → Int32) (m_ia : Nat → Int32) (m_im : Nat → Int32) (m_ik : Nat → Int32) : Prop :=
  ∃ (n K F L : Nat) (c : Nat → Nat) (d : Nat → Option Nat) (t : Nat → Nat) (b0 b1 : Bool), VW n K c d ∧ CW n K F c d w_t w_k w_f w_cs w_ds ∧ MW n K c d m_sz m_kn m_cs m_ds ∧ TE n F d g_ts e_mu e_ma e_cf ∧ TX L t t_ln t_sg m_sg m_tx ∧ g_kp = nI (zb b0 + 2 * zb b1) ∧ IK b0 0 i_t i_k i_f i_cs i_ds m_im m_ik ∧ IK b1 1 j_t j_k j_f j_cs j_ds m_im m_ik ∧ g_tf = m_fa
theorem ts_nt {x : Bool} (h : ¬ x = true) : x = false := by cases x <;> first | rfl | exact absurd rfl h
theorem zbar_of {d : Nat → Option Nat} {n F : Nat} (hF : ∀ i, F.testBit i = (d i).isSome) : zbar d n (zdif (2 ^ n - 1) F) := fun w => by
  rw [zdif_bit, zfull_bit, Bool.and_eq_true, hF]
  cases hd : d w with
  | none => exact ⟨fun h => ⟨of_decide_eq_true h.1, rfl⟩, fun h => ⟨decide_eq_true h.1, rfl⟩⟩
  | some s => exact ⟨fun h => (by cases h.2), fun h => (by cases h.2)⟩
theorem ok_wipe {g_kp : Int32} {g_tf : Int32} {g_ts : Int32} {w_t : Int32} {w_k : Int32} {w_f : Int32} {w_cs : Nat → Int32} {w_ds : Nat → Int32} {i_t : Int32} {i_k : Int32} {i_f : Int32} {i_cs : Nat → Int32} {i_ds : Nat → Int32} {j_t : Int32} {j_k : Int32} {j_f : Int32} {j_cs : Nat → Int32} {j_ds : Nat → Int32} {t_ln : Int32} {t_sg : Nat → Int32} {r_t : Int32} {r_ir : Int32} {r_rc : Nat → Int32} {e_mu : Int32} {e_ma : Int32} {e_cf : Nat → Int64} {m_sz : Int32} {m_kn : Int32} {m_sg : Int32} {m_fa : Int32} {m_ds : Nat → Int32} {m_cs : Nat → Int32} {m_tx : Nat → Int32} {m_ia : Nat → Int32} {m_im : Nat → Int32} {m_ik : Nat → Int32} (h : INV g_kp g_tf g_ts w_t w_k w_f w_cs w_ds i_t i_k i_f i_cs i_ds j_t j_k j_f j_cs j_ds t_ln t_sg r_t r_ir r_rc e_mu e_ma e_cf m_sz m_kn m_sg m_fa m_ds m_cs m_tx m_ia m_im m_ik) : ∃ (R : Int32 × Int32) (R' : Int32 × Int32), M_X4_wipe t_ln = some R ∧ M_X5_wipe m_sg = some R' ∧ R.1 = R'.1 ∧ INV g_kp g_tf g_ts w_t w_k w_f w_cs w_ds i_t i_k i_f i_cs i_ds j_t j_k j_f j_cs j_ds R.2 t_sg r_t r_ir r_rc e_mu e_ma e_cf m_sz m_kn R'.2 m_fa m_ds m_cs m_tx m_ia m_im m_ik := by
  obtain ⟨n, K, F, L, c, d, t, b0, b1, hV, hC, hM, hT, hX, hk, h0, h1, hf⟩ := h
  obtain ⟨x1, x2, x3, x4, x5, x6⟩ := hX
  exact ⟨_, _, rfl, rfl, x2.trans x3.symm, n, K, F, 0, c, d, t, b0, b1, hV, hC, hM, hT, ⟨Nat.zero_le _, rfl, rfl, x4, x5, x6⟩, hk, h0, h1, hf⟩
theorem ok_fault {g_kp : Int32} {g_tf : Int32} {g_ts : Int32} {w_t : Int32} {w_k : Int32} {w_f : Int32} {w_cs : Nat → Int32} {w_ds : Nat → Int32} {i_t : Int32} {i_k : Int32} {i_f : Int32} {i_cs : Nat → Int32} {i_ds : Nat → Int32} {j_t : Int32} {j_k : Int32} {j_f : Int32} {j_cs : Nat → Int32} {j_ds : Nat → Int32} {t_ln : Int32} {t_sg : Nat → Int32} {r_t : Int32} {r_ir : Int32} {r_rc : Nat → Int32} {e_mu : Int32} {e_ma : Int32} {e_cf : Nat → Int64} {m_sz : Int32} {m_kn : Int32} {m_sg : Int32} {m_fa : Int32} {m_ds : Nat → Int32} {m_cs : Nat → Int32} {m_tx : Nat → Int32} {m_ia : Nat → Int32} {m_im : Nat → Int32} {m_ik : Nat → Int32} (h : INV g_kp g_tf g_ts w_t w_k w_f w_cs w_ds i_t i_k i_f i_cs i_ds j_t j_k j_f j_cs j_ds t_ln t_sg r_t r_ir r_rc e_mu e_ma e_cf m_sz m_kn m_sg m_fa m_ds m_cs m_tx m_ia m_im m_ik) : ∃ (R : Int32) (R' : Int32), M_X4_fault w_t t_sg t_ln = some R ∧ M_X5_fault m_sz m_tx m_sg = some R' ∧ R = R' ∧ INV g_kp g_tf g_ts w_t w_k w_f w_cs w_ds i_t i_k i_f i_cs i_ds j_t j_k j_f j_cs j_ds t_ln t_sg r_t r_ir r_rc e_mu e_ma e_cf m_sz m_kn m_sg m_fa m_ds m_cs m_tx m_ia m_im m_ik := by
  have hI := h
  obtain ⟨n, K, F, L, c, d, t, b0, b1, ⟨v1, v2, v3, v4, v5⟩, ⟨rfl, rfl, rfl, w4, w5, w6, w7⟩, ⟨rfl, rfl, m3, m4⟩, hT, ⟨x1, rfl, rfl, x4, x5, x6⟩, hk, h0, h1, hf⟩ := h
  obtain ⟨c1, c2⟩ := m_faultPlace v2 x1 x4 x6
  obtain ⟨e1, e2⟩ := m5_faultNow v1 v2 x1 x5 x6
  have key : ∃ r, M_X2_faultPlace (nI n) t_sg (nI L) = some r ∧ M_X5_faultNow (nI n) m_tx (nI L) = some r := by
    rcases first_of (fun i => zbad n t i = true) L with q | ⟨j, q1, q2, q3⟩
    · have q' : ∀ i, i < L → zbad n t i = false := fun i hi => ts_nt (q i hi)
      rw [c2 q', e2 q']
      by_cases hl : L < 2
      · rw [if_pos hl]; exact ⟨_, rfl, rfl⟩
      · rw [if_neg hl]; exact ⟨_, rfl, rfl⟩
    · have q' : ∀ i, i < j → zbad n t i = false := fun i hi => ts_nt (q3 i hi)
      exact ⟨_, c1 j q1 q2 q', e1 j q1 q2 q'⟩
  obtain ⟨r, r1, r2⟩ := key
  refine ⟨r, r, ?_, ?_, rfl, hI⟩
  · unfold M_X4_fault; rw [r1]; rfl
  · unfold M_X5_fault; rw [r2]; rfl
theorem ok_say {g_kp : Int32} {g_tf : Int32} {g_ts : Int32} {w_t : Int32} {w_k : Int32} {w_f : Int32} {w_cs : Nat → Int32} {w_ds : Nat → Int32} {i_t : Int32} {i_k : Int32} {i_f : Int32} {i_cs : Nat → Int32} {i_ds : Nat → Int32} {j_t : Int32} {j_k : Int32} {j_f : Int32} {j_cs : Nat → Int32} {j_ds : Nat → Int32} {t_ln : Int32} {t_sg : Nat → Int32} {r_t : Int32} {r_ir : Int32} {r_rc : Nat → Int32} {e_mu : Int32} {e_ma : Int32} {e_cf : Nat → Int64} {m_sz : Int32} {m_kn : Int32} {m_sg : Int32} {m_fa : Int32} {m_ds : Nat → Int32} {m_cs : Nat → Int32} {m_tx : Nat → Int32} {m_ia : Nat → Int32} {m_im : Nat → Int32} {m_ik : Nat → Int32} (h : INV g_kp g_tf g_ts w_t w_k w_f w_cs w_ds i_t i_k i_f i_cs i_ds j_t j_k j_f j_cs j_ds t_ln t_sg r_t r_ir r_rc e_mu e_ma e_cf m_sz m_kn m_sg m_fa m_ds m_cs m_tx m_ia m_im m_ik) (p1 : Int32) : ∃ (R : Int32 × Int32 × (Nat → Int32)) (R' : Int32 × Int32 × (Nat → Int32)), M_X4_say p1 t_sg t_ln = some R ∧ M_X5_say p1 m_tx m_sg = some R' ∧ R.1 = R'.1 ∧ INV g_kp g_tf g_ts w_t w_k w_f w_cs w_ds i_t i_k i_f i_cs i_ds j_t j_k j_f j_cs j_ds R.2.1 R.2.2 r_t r_ir r_rc e_mu e_ma e_cf m_sz m_kn R'.2.1 m_fa m_ds m_cs R'.2.2 m_ia m_im m_ik := by
  have hI := h
  obtain ⟨n, K, F, L, c, d, t, b0, b1, hV, hC, hM, hT, ⟨x1, rfl, rfl, x4, x5, x6⟩, hk, h0, h1, hf⟩ := h
  by_cases hlo : p1 < 33
  · refine ⟨(-2, nI L, t_sg), (-2, nI L, m_tx), ?_, ?_, rfl, hI⟩
    · unfold M_X4_say; rw [if_pos hlo]
    · unfold M_X5_say M_X5_in; rw [if_pos hlo]; rfl
  · by_cases hhi : p1 ≤ 126
    · have hneg : ¬ p1 < 0 := fun q => hlo (by rw [Int32.lt_iff_toInt_lt] at *; have e1 : (0 : Int32).toInt = 0 := rfl; have e2 : (33 : Int32).toInt = 33 := rfl; omega)
      obtain ⟨v, hv, rfl⟩ := nI_of hneg
      have hv1 : 33 ≤ v := by
        rcases Nat.lt_or_ge v 33 with q | q
        · exact absurd (nI_lt (b := 33) q (by decide)) hlo
        · exact q
      have hv2 : v ≤ 126 := (nI_leI (b := 126) hv (by decide)).mp hhi
      have hin : M_X5_in (nI v) 33 126 = some 1 := by
        unfold M_X5_in
        rw [if_neg hlo, if_neg (show ¬ 126 < nI v from nI_nlt (a := 126) hv2 (by decide))]
      by_cases hL : L = 20
      · refine ⟨(-3, nI L, t_sg), (-3, nI L, m_tx), ?_, ?_, rfl, hI⟩
        · unfold M_X4_say; rw [if_neg hlo, if_pos hhi, if_neg (show ¬ nI L < 20 from nI_nlt (b := 20) (by omega) (by omega))]
        · unfold M_X5_say; rw [hin, ob_sb, if_neg (by decide), if_pos (show nI L = 20 by rw [hL]; rfl)]
      · have hL2 : L < 20 := by omega
        refine ⟨(nI (L + 1), nI (L + 1), upd t_sg L (nI v)), (nI (L + 1), nI (L + 1), upd m_tx L (nI v)), ?_, ?_, rfl, n, K, F, L + 1, c, d, fun i => if i = L then v else t i, b0, b1, hV, hC, hM, hT, ⟨by omega, rfl, rfl, fun i hi => ?_, fun i hi => ?_, fun i hi => ?_⟩, hk, h0, h1, hf⟩
        · unfold M_X4_say M_X2_append
          rw [if_neg hlo, if_pos hhi, if_pos (show nI L < 20 from nI_lt (b := 20) hL2 (by decide)), if_neg (show ¬ 20 ≤ nI L from nI_ge (b := 20) hL2 (by decide)), if_neg (i_in hL2 (by decide)), i_cl (by omega), nI_1]
          rfl
        · unfold M_X5_say
          rw [hin, ob_sb, if_neg (by decide), if_neg (show ¬ nI L = 20 from fun q => hL ((nI_eq (b := 20) (by omega) (by decide)).mp q)), if_neg (i_in hL2 (by decide)), i_cl (by omega), nI_1]
        · show upd t_sg L (nI v) i = nI (if i = L then v else t i)
          unfold upd
          by_cases e : i = L
          · rw [if_pos e, if_pos e]
          · rw [if_neg e, if_neg e]; exact x4 i hi
        · show upd m_tx L (nI v) i = nI (if i = L then v else t i)
          unfold upd
          by_cases e : i = L
          · rw [if_pos e, if_pos e]
          · rw [if_neg e, if_neg e]; exact x5 i hi
        · show (if i = L then v else t i) < 128
          split
          · omega
          · exact x6 i hi
    · refine ⟨(-2, nI L, t_sg), (-2, nI L, m_tx), ?_, ?_, rfl, hI⟩
      · unfold M_X4_say; rw [if_neg hlo, if_neg hhi]
      · unfold M_X5_say M_X5_in
        have : (126 : Int32) < p1 := by rw [Int32.lt_iff_toInt_lt]; rw [Int32.le_iff_toInt_le] at hhi; omega
        rw [if_neg hlo, if_pos this]; rfl
