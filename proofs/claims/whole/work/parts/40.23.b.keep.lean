/-! the model's size, image, restore -/
theorem m5_size {n K : Nat} {sz : Int32} {md mcs : Nat → Int32} (hn1 : 1 ≤ n) (hn : n ≤ 14) : ∃ ds' cs', M_X5_size (nI n) sz md mcs (nI K) = some (sz, nI n, nI (K &&& (2 ^ n - 1)), ds', cs') ∧ (∀ i, i < 14 → ds' i = if i < n then (if md i < 0 then md i else md i &&& nI (2 ^ n - 1)) else -6) ∧ (∀ i, i < 14 → cs' i = if i < n then mcs i else 1) := by
  obtain ⟨gd, hgd⟩ : ∃ g : Nat → Int32, g = fun i => if i < n then (if md i < 0 then md i else md i &&& nI (2 ^ n - 1)) else -6 := ⟨_, rfl⟩
  obtain ⟨gc, hgc⟩ : ∃ g : Nat → Int32, g = fun i => if i < n then mcs i else 1 := ⟨_, rfl⟩
  refine ⟨zfl 0 14 gd md, zfl 0 14 gc mcs, ?_, fun i hi => by rw [zfl_in (Nat.zero_le i) hi, hgd], fun i hi => by rw [zfl_in (Nat.zero_le i) hi, hgc]⟩
  have hin : M_X5_in (nI n) 1 14 = some 1 := by
    unfold M_X5_in
    rw [if_neg (show ¬ nI n < 1 from nI_nlt (b := 1) hn1 (by omega)), if_neg (show ¬ 14 < nI n from nI_nlt (a := 14) hn (by decide))]
  unfold M_X5_size
  rw [hin, ob_sb, if_neg (by decide), m5_all hn]
  have h0 : L_X5_size_25 (nI n) (fun (v3_25 : Int32) (m_ds_25 : Nat → Int32) (m_cs_25 : Nat → Int32) => (some (nI (2 ^ n - 1))).bind (fun q88 => some (sz, nI n, (nI K &&& q88), m_ds_25, m_cs_25))) 40 (nI 0) (zfl 0 0 gd md) (zfl 0 0 gc mcs) = some (sz, nI n, nI (K &&& (2 ^ n - 1)), zfl 0 14 gd md, zfl 0 14 gc mcs) := by
    refine loop_seq (fun k (s : Int32 × (Nat → Int32) × (Nat → Int32)) => L_X5_size_25 (nI n) _ k s.1 s.2.1 s.2.2) (fun i => (nI i, zfl 0 i gd md, zfl 0 i gc mcs)) 14 _ ?_ ?_ 14 0 40 (by omega) (by omega)
    · intro k i hi
      show L_X5_size_25 (nI n) _ (k + 1) (nI i) (zfl 0 i gd md) (zfl 0 i gc mcs) = L_X5_size_25 (nI n) _ k (nI (i + 1)) (zfl 0 (i + 1) gd md) (zfl 0 (i + 1) gc mcs)
      have hib := i_in hi (by decide : 14 < 2 ^ 31)
      have e1 : zfl 0 i gd md i = md i := zfl_out (by omega) _ _
      have e2 : zfl 0 i gc mcs i = mcs i := zfl_out (by omega) _ _
      rw [L_X5_size_25, if_neg (n14 hi), if_neg hib, if_neg hib, if_neg hib, if_neg hib, m5_all hn, ob_sb, if_neg hib, i_cl (by omega), e1, nI_1, ← zfl_s (Nat.zero_le i) gd md, ← zfl_s (Nat.zero_le i) gc mcs]
      by_cases hlt : i < n
      · have g2 : gc i = mcs i := by rw [hgc]; exact if_pos hlt
        rw [if_pos (nI_lt hlt (by omega)), g2, ← e2, upd_id]
        by_cases hneg : md i < 0
        · have g1 : gd i = md i := by rw [hgd]; show (if i < n then (if md i < 0 then _ else _) else _) = _; rw [if_pos hlt, if_pos hneg]
          rw [if_pos hneg, g1, ← e1, upd_id]
        · have g1 : gd i = md i &&& nI (2 ^ n - 1) := by rw [hgd]; show (if i < n then (if md i < 0 then _ else _) else _) = _; rw [if_pos hlt, if_neg hneg]
          rw [if_neg hneg, g1]
      · have g2 : gc i = 1 := by rw [hgc]; exact if_neg hlt
        have g1 : gd i = -6 := by rw [hgd]; exact if_neg hlt
        rw [if_neg (nI_nlt (by omega) (by omega)), g1, g2]
    · intro k
      show L_X5_size_25 (nI n) _ (k + 1) (nI 14) _ _ = _
      rw [L_X5_size_25, if_pos l14, ob_sb, i_and]
  rw [zfl_0, zfl_0] at h0
  exact h0
/-- what an image's row holds -/
def zim (k : Nat) (ds cs base : Nat → Int32) (i : Nat) : Nat → Int32 := fun j => if 30 * k + 2 ≤ j ∧ j < 30 * k + 2 + i then ds (j - (30 * k + 2)) else if 30 * k + 16 ≤ j ∧ j < 30 * k + 16 + i then cs (j - (30 * k + 16)) else base j
theorem zim_s {k i : Nat} (hi : i < 14) (ds cs base : Nat → Int32) : upd (upd (zim k ds cs base i) (30 * k + 2 + i) (ds i)) (30 * k + 16 + i) (cs i) = zim k ds cs base (i + 1) := by
  funext j
  unfold upd zim
  by_cases e1 : j = 30 * k + 16 + i
  · rw [if_pos e1, if_neg (by omega), if_pos (by omega), show j - (30 * k + 16) = i by omega]
  · rw [if_neg e1]
    by_cases e2 : j = 30 * k + 2 + i
    · rw [if_pos e2, if_pos (by omega), show j - (30 * k + 2) = i by omega]
    · rw [if_neg e2]
      by_cases h1 : 30 * k + 2 ≤ j ∧ j < 30 * k + 2 + i
      · rw [if_pos h1, if_pos (show 30 * k + 2 ≤ j ∧ j < 30 * k + 2 + (i + 1) by omega)]
      · rw [if_neg h1, if_neg (show ¬ (30 * k + 2 ≤ j ∧ j < 30 * k + 2 + (i + 1)) by omega)]
        by_cases h2 : 30 * k + 16 ≤ j ∧ j < 30 * k + 16 + i
        · rw [if_pos h2, if_pos (show 30 * k + 16 ≤ j ∧ j < 30 * k + 16 + (i + 1) by omega)]
        · rw [if_neg h2, if_neg (show ¬ (30 * k + 16 ≤ j ∧ j < 30 * k + 16 + (i + 1)) by omega)]
theorem i_30 (k : Nat) : 30 * nI k = nI (30 * k) := pk_mul 30 k
theorem i_30a (k a : Nat) : nI (30 * k) + nI a = nI (30 * k + a) := nI_add _ _
theorem m5_image {k : Nat} {sz kn : Int32} {md mcs im ik : Nat → Int32} (hk : k < 2) : ∃ im' ik', M_X5_image (nI k) sz md mcs kn im ik = some (1, im', ik') ∧ im' (30 * k) = sz ∧ im' (30 * k + 1) = kn ∧ (∀ i, i < 14 → im' (30 * k + 2 + i) = md i) ∧ (∀ i, i < 14 → im' (30 * k + 16 + i) = mcs i) ∧ (∀ j, (j < 30 * k ∨ 30 * k + 30 ≤ j) → im' j = im j) ∧ ik' k = 1 ∧ ∀ j, j ≠ k → ik' j = ik j := by
  obtain ⟨b0, hb0⟩ : ∃ b : Nat → Int32, b = upd (upd im (30 * k) sz) (30 * k + 1) kn := ⟨_, rfl⟩
  refine ⟨zim k md mcs b0 14, upd ik k 1, ?_, ?_, ?_, fun i hi => ?_, fun i hi => ?_, fun j hj => ?_, if_pos rfl, fun j hj => if_neg hj⟩
  · have hin : M_X5_in (nI k) 0 1 = some 1 := by
      unfold M_X5_in
      rw [if_neg (nI_pos (by omega)), if_neg (show ¬ 1 < nI k from nI_nlt (a := 1) (by omega) (by decide))]
    have h60 : ∀ x : Nat, x < 60 → ¬ (nI x < 0 ∨ 60 ≤ (nI x).toNatClampNeg) := fun x hx => i_in hx (by decide)
    have a1 : nI (30 * k) + 1 = nI (30 * k + 1) := nI_add _ 1
    have a2 : nI (30 * k) + 2 = nI (30 * k + 2) := nI_add _ 2
    have a16 : nI (30 * k) + 16 = nI (30 * k + 16) := nI_add _ 16
    unfold M_X5_image
    rw [hin, ob_sb, if_neg (by decide), i_30, a1, if_neg (h60 _ (by omega)), if_neg (h60 _ (by omega)), i_cl (i := 30 * k) (by omega), i_cl (i := 30 * k + 1) (by omega), ← hb0]
    have h0 : L_X5_image_42 (nI k) md mcs (fun (v2_42 : Int32) (m_im_42 : Nat → Int32) => if (nI k) < 0 ∨ 2 ≤ (nI k).toNatClampNeg then none else (some (1, m_im_42, (upd ik (nI k).toNatClampNeg (vp_nar .boolean 1))))) 40 (nI 0) (zim k md mcs b0 0) = some (1, zim k md mcs b0 14, upd ik k 1) := by
      refine loop_seq (fun f (s : Int32 × (Nat → Int32)) => L_X5_image_42 (nI k) md mcs _ f s.1 s.2) (fun i => (nI i, zim k md mcs b0 i)) 14 _ ?_ ?_ 14 0 40 (by omega) (by omega)
      · intro f i hi
        show L_X5_image_42 (nI k) md mcs _ (f + 1) (nI i) (zim k md mcs b0 i) = L_X5_image_42 (nI k) md mcs _ f (nI (i + 1)) (zim k md mcs b0 (i + 1))
        have hib := i_in hi (by decide : 14 < 2 ^ 31)
        rw [L_X5_image_42, if_neg (n14 hi), if_neg hib, if_neg hib, i_30, a2, a16, nI_add, nI_add, if_neg (h60 _ (by omega)), if_neg (h60 _ (by omega)), i_cl (i := i) (by omega), i_cl (i := 30 * k + 2 + i) (by omega), i_cl (i := 30 * k + 16 + i) (by omega), zim_s hi, nI_1]
      · intro f
        show L_X5_image_42 (nI k) md mcs _ (f + 1) (nI 14) _ = _
        rw [L_X5_image_42, if_pos l14, if_neg (i_in hk (by decide)), i_cl (by omega), nar1]
    have e : zim k md mcs b0 0 = b0 := by
      funext j
      unfold zim
      rw [if_neg (by omega), if_neg (by omega)]
    rw [e] at h0
    exact h0
  · show zim k md mcs b0 14 (30 * k) = sz
    unfold zim
    rw [if_neg (by omega), if_neg (by omega), hb0]
    unfold upd
    rw [if_neg (by omega), if_pos rfl]
  · show zim k md mcs b0 14 (30 * k + 1) = kn
    unfold zim
    rw [if_neg (by omega), if_neg (by omega), hb0]
    unfold upd
    rw [if_pos rfl]
  · show zim k md mcs b0 14 (30 * k + 2 + i) = md i
    unfold zim
    rw [if_pos (by omega), show 30 * k + 2 + i - (30 * k + 2) = i by omega]
  · show zim k md mcs b0 14 (30 * k + 16 + i) = mcs i
    unfold zim
    rw [if_neg (by omega), if_pos (by omega), show 30 * k + 16 + i - (30 * k + 16) = i by omega]
  · show zim k md mcs b0 14 j = im j
    unfold zim
    rw [if_neg (by omega), if_neg (by omega), hb0]
    unfold upd
    rw [if_neg (by omega), if_neg (by omega)]
theorem m5_restore {k : Nat} {sz kn : Int32} {md mcs im ik : Nat → Int32} (hk : k < 2) (h1 : ¬ ik k = 0) : ∃ ds' cs', M_X5_restore (nI k) sz md mcs kn im ik = some (1, im (30 * k), im (30 * k + 1), ds', cs') ∧ (∀ i, i < 14 → ds' i = im (30 * k + 2 + i)) ∧ (∀ i, i < 14 → cs' i = im (30 * k + 16 + i)) := by
  refine ⟨zfl 0 14 (fun i => im (30 * k + 2 + i)) md, zfl 0 14 (fun i => im (30 * k + 16 + i)) mcs, ?_, fun i hi => zfl_in (Nat.zero_le i) hi _ _, fun i hi => zfl_in (Nat.zero_le i) hi _ _⟩
  have hin : M_X5_in (nI k) 0 1 = some 1 := by
    unfold M_X5_in
    rw [if_neg (nI_pos (by omega)), if_neg (show ¬ 1 < nI k from nI_nlt (a := 1) (by omega) (by decide))]
  have h60 : ∀ x : Nat, x < 60 → ¬ (nI x < 0 ∨ 60 ≤ (nI x).toNatClampNeg) := fun x hx => i_in hx (by decide)
  have a1 : nI (30 * k) + 1 = nI (30 * k + 1) := nI_add _ 1
  have a2 : nI (30 * k) + 2 = nI (30 * k + 2) := nI_add _ 2
  have a16 : nI (30 * k) + 16 = nI (30 * k + 16) := nI_add _ 16
  unfold M_X5_restore
  rw [hin, ob_sb, if_neg (by decide), if_neg (i_in hk (by decide)), i_cl (by omega), if_neg h1, i_30, a1, if_neg (h60 _ (by omega)), if_neg (h60 _ (by omega)), i_cl (by omega), i_cl (by omega)]
  have h0 : L_X5_restore_54 (nI k) im (fun (v2_54 : Int32) (m_ds_54 : Nat → Int32) (m_cs_54 : Nat → Int32) => some (1, (im (30 * k)), (im (30 * k + 1)), m_ds_54, m_cs_54)) 40 (nI 0) (zfl 0 0 (fun i => im (30 * k + 2 + i)) md) (zfl 0 0 (fun i => im (30 * k + 16 + i)) mcs) = some (1, im (30 * k), im (30 * k + 1), zfl 0 14 (fun i => im (30 * k + 2 + i)) md, zfl 0 14 (fun i => im (30 * k + 16 + i)) mcs) := by
    refine loop_seq (fun f (s : Int32 × (Nat → Int32) × (Nat → Int32)) => L_X5_restore_54 (nI k) im _ f s.1 s.2.1 s.2.2) (fun i => (nI i, zfl 0 i (fun i => im (30 * k + 2 + i)) md, zfl 0 i (fun i => im (30 * k + 16 + i)) mcs)) 14 _ ?_ ?_ 14 0 40 (by omega) (by omega)
    · intro f i hi
      show L_X5_restore_54 (nI k) im _ (f + 1) (nI i) (zfl 0 i (fun i => im (30 * k + 2 + i)) md) (zfl 0 i (fun i => im (30 * k + 16 + i)) mcs) = L_X5_restore_54 (nI k) im _ f (nI (i + 1)) (zfl 0 (i + 1) (fun i => im (30 * k + 2 + i)) md) (zfl 0 (i + 1) (fun i => im (30 * k + 16 + i)) mcs)
      have hib := i_in hi (by decide : 14 < 2 ^ 31)
      rw [L_X5_restore_54, if_neg (n14 hi), if_neg hib, if_neg hib, i_30, a2, a16, nI_add, nI_add, if_neg (h60 _ (by omega)), if_neg (h60 _ (by omega)), i_cl (by omega), i_cl (by omega), i_cl (by omega), nI_1, ← zfl_s (Nat.zero_le i) (fun i => im (30 * k + 2 + i)) md, ← zfl_s (Nat.zero_le i) (fun i => im (30 * k + 16 + i)) mcs]
    · intro f
      show L_X5_restore_54 (nI k) im _ (f + 1) (nI 14) _ _ = _
      rw [L_X5_restore_54, if_pos l14]
  rw [zfl_0, zfl_0] at h0
  exact h0
