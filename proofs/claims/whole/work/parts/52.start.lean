/-! the law: its start, its claim -/
set_option maxRecDepth 100000 in
theorem nw_eq : nw_l = [75, 80, 81, 82, 84, 86, 87, 89, 91, 92, 93, 109, 115, 123, 130, 131, 141, 185, 201, 213, 224, 228, 229, 230, 234, 238, 256, 264, 276, 280, 293, 301, 318, 322, 326, 344, 348, 352, 353, 362, 370, 378, 390, 398, 406, 410, 414, 422, 434].filterMap (fun i => lw_tbl[i]?) := by decide +kernel
theorem nw_in : ∀ w ∈ nw_l, w ∈ lw_tbl := fun w h => by
  rw [nw_eq] at h
  obtain ⟨i, -, hi⟩ := List.mem_filterMap.mp h
  exact List.mem_of_getElem? hi
theorem nw_on : ∀ w ∈ nw_l, w.onTables = true := by decide +kernel
set_option maxHeartbeats 4000000 in
set_option maxRecDepth 100000 in
theorem whole_start {p : Program} {e : Env} {s : State} {m : MethodId} {below : List Frame} {meth : Method} {c : Code} (l : Launch) (hflags : l.flags = flags0) {b L : Nat} {xs : Nat → Int32} (hL : L ≤ 1536) (C0 : lw_At p s m meth c b L xs) : W p l e room_1 s m #[Value.ref b] below meth c s.heap [] 0 0 (lw_Z below #[Value.ref b] s) (entryFrame m ([Value.ref b] : List Value).toArray 4) := by
  have C1 := C0
  obtain ⟨hx, hb, hr, hml, hown, hts0, hX, hbl, hlocks, hgv⟩ := C0
  have hts : ∀ w ∈ wsL_law, w.before #[Value.ref b] s = true := fun w h => hts0 w (wsL_law_in w h)
  have hown : s.vm.findClass RL = some m.cls := hown
  have hb : c.code = cL_law := hb
  have hA : ∀ q : Nat, s.heap.size ≤ q → (fun q : Nat => s.heap.size ≤ q) q := fun _ h => h
  have hbA : ¬ (fun q : Nat => s.heap.size ≤ q) b := Nat.not_le.mpr hbl
  obtain ⟨c0, iS0, hKn0⟩ := u_known (C := RX0) (T := TX0) (N := 3) (n := 3) hts0 wsX00_in (hts0 (.instantiable RX0 3) (List.mem_of_getElem? (i := 122) (by decide +kernel)))
  obtain ⟨c1, iS1, hKn1⟩ := u_known (C := RX1) (T := TX1) (N := 3) (n := 3) hts0 wsX10_in (hts0 (.instantiable RX1 3) (List.mem_of_getElem? (i := 140) (by decide +kernel)))
  obtain ⟨c2, iS2, hKn2⟩ := u_known (C := RX2) (T := TX2) (N := 2) (n := 2) hts0 wsX20_in (hts0 (.instantiable RX2 2) (List.mem_of_getElem? (i := 108) (by decide +kernel)))
  obtain ⟨c3, iS3, hKn3⟩ := u_known (C := RX3) (T := TX3) (N := 5) (n := 5) hts0 wsX30_in (hts0 (.instantiable RX3 5) (List.mem_of_getElem? (i := 74) (by decide +kernel)))
  obtain ⟨c4, iS4, hKn4⟩ := u_known (C := RX4) (T := TX4) (N := 8) (n := 8) hts0 wsX40_in (hts0 (.instantiable RX4 8) (List.mem_of_getElem? (i := 66) (by decide +kernel)))
  obtain ⟨c5, iS5, hKn5⟩ := u_known (C := RX5) (T := TX5) (N := 10) (n := 10) hts0 wsX50_in (hts0 (.instantiable RX5 10) (List.mem_of_getElem? (i := 440) (by decide +kernel)))
  obtain ⟨dC, dI, hKc⟩ : ∃ (dC : Nat → ClassId) (dI : Nat → Nat → Nat), ∀ (k : Nat) (q : vw_C), vwCl[k]? = some q → u_Kn s q.1 q.2.1 q.2.2 (dC k) (dI k) := by
    refine ⟨fun k => if k = 0 then c0 else if k = 1 then c1 else if k = 2 then c2 else if k = 3 then c3 else if k = 4 then c4 else c5, fun k => if k = 0 then iS0 else if k = 1 then iS1 else if k = 2 then iS2 else if k = 3 then iS3 else if k = 4 then iS4 else iS5, ?_⟩
    intro k q hq
    match k, hq with
    | 0, hq => cases hq; exact hKn0
    | 1, hq => cases hq; exact hKn1
    | 2, hq => cases hq; exact hKn2
    | 3, hq => cases hq; exact hKn3
    | 4, hq => cases hq; exact hKn4
    | 5, hq => cases hq; exact hKn5
    | k + 6, hq => simp [vwCl] at hq
  obtain ⟨cI, kI, qI, aI, bI, eI⟩ := Cond.arrayClass_spec (type := .int) (hts0 (.arrayClass .int) (List.mem_of_getElem? (i := 105) (by decide +kernel)))
  obtain ⟨cZ, kZ, qZ, aZ, bZ, eZ⟩ := Cond.arrayClass_spec (type := .boolean) (hts0 (.arrayClass .boolean) (List.mem_of_getElem? (i := 476) (by decide +kernel)))
  obtain ⟨cJ, kJ, qJ, aJ, bJ, eJ⟩ := Cond.arrayClass_spec (type := .long) (hts0 (.arrayClass .long) (List.mem_of_getElem? (i := 155) (by decide +kernel)))
  have hAO : va_AO RX3 s := va_AO.of (hts0 (.arrayOver (.object RX3)) (List.mem_of_getElem? (i := 106) (by decide +kernel)))
  obtain ⟨qW, cW, kW, f4, -, f2, f3, f1⟩ := Cond.arrayOver_spec hAO
  have hN : NW s := ⟨fun w hw => va_Nw.of (nw_on w hw) (hts0 w (nw_in w hw)), hAO⟩
  have hK : va_K (dC, dI) vwCl (K4t cI cZ cJ cW) s := by
    refine ⟨hKc, fun k q h => ?_⟩
    match k, h with
    | 0, h => cases h; exact ⟨fun n z => ⟨fun k h => (by cases h), kI, bI, qI, eI⟩, aI⟩
    | 1, h => cases h; exact ⟨fun n z => ⟨fun k h => (by cases h), kZ, bZ, qZ, eZ⟩, aZ⟩
    | 2, h => cases h; exact ⟨fun n z => ⟨fun k h => (by cases h), kJ, bJ, qJ, eJ⟩, aJ⟩
    | 3, h => cases h; exact ⟨fun n z => ⟨fun k h => (by cases h), kW, f2, qW, f3⟩, kW, qW, f2, f3, f4, f1⟩
    | k + 4, h => simp [K4t] at h
  have hS : va_S (fun q : Nat => s.heap.size ≤ q) s.heap s.heap [] := va_S.rf
  have hP : va_P (dC, dI) vwCl [] s.heap := fun k q h => by simp at h
  have hD : va_D (fun q : Nat => s.heap.size ≤ q) [] := ⟨fun i j p q h => by simp at h, fun k q h => by simp at h⟩
  have hl := lv_entry ([.ref b]) (n := 4) (Nat.le_of_ble_eq_true rfl)
  rw [lg_entry_eq]
  generalize (lg_sl ([.ref b]) ++ List.replicate (4 - (lg_sl ([.ref b])).length) Slot.unset).toArray = ls at hl ⊢
  have hl : lv_has ls 4 [(0, .ref b)] := hl
  obtain ⟨R, R', g4, g5, hI⟩ := ok_init
  refine va_new (ci := 4) (fs := [.null, .null, .null, .null, .null, .int 0, .int 0, .int 0]) (C := RX4) (T := TX4) (N := 8) hx hb hts0 wsX40_in tyX4 tyX4_ok hown (hts0 (.classLink RL 7 RX4) (List.mem_of_getElem? (i := 65) (by decide +kernel))) (hts0 (.instantiable RX4 8) (List.mem_of_getElem? (i := 66) (by decide +kernel))) (hts0 (.initialized RX4) (List.mem_of_getElem? (i := 58) (by decide +kernel))) hK hP hD hS hA rfl (fun j hj => by rcases (show j = 0 ∨ j = 1 ∨ j = 2 ∨ j = 3 ∨ j = 4 ∨ j = 5 ∨ j = 6 ∨ j = 7 by omega) with rfl | rfl | rfl | rfl | rfl | rfl | rfl | rfl <;> rfl) (Nat.le_of_ble_eq_true rfl) (Nat.le_of_ble_eq_true rfl) dL_law_0 (fun g_a H hP hD hS => ?_)
  have hP : va_P (dC, dI) vwCl [(g_a, .inr (4, [.null, .null, .null, .null, .null, .int 0, .int 0, .int 0]))] H := hP
  have hD : va_D (fun q : Nat => s.heap.size ≤ q) [(g_a, .inr (4, [.null, .null, .null, .null, .null, .int 0, .int 0, .int 0]))] := hD
  refine W.widen (k := 1) (n := 8) (Nat.le_of_ble_eq_true rfl) (Nat.le_of_ble_eq_true rfl) ?_
  refine lv_dup hx hb dL_law_3 rfl ?_
  have hPc := hP.sub (ws' := [(g_a, .inr (4, [.null, .null, .null, .null, .null, .int 0, .int 0, .int 0]))]) [0] rfl
  have hDc := hD.sub (ws' := [(g_a, .inr (4, [.null, .null, .null, .null, .null, .int 0, .int 0, .int 0]))]) [0] (by decide) rfl
  have hFc := va_free (wc := [(g_a, .inr (4, [.null, .null, .null, .null, .null, .int 0, .int 0, .int 0]))]) hD hS hA [0] rfl
  refine va_callv (va_runI (As := []) (rest := [.ref g_a]) ⟨hx, hb, hml, hown, hts⟩ (c_X4_init l dC dI cI cZ cJ cW H.size g_a R g4) (cwI 0 hts gL_law_X4_init rfl rfl rfl (hts0 (.initialized RX4) (List.mem_of_getElem? (i := 58) (by decide +kernel))) (hts0 (.methodLink RL 9 yX4_init) (List.mem_of_getElem? (i := 67) (by decide +kernel))) (hts0 (.instanceMethod yX4_init) (List.mem_of_getElem? (i := 68) (by decide +kernel))) rfl (by decide +kernel) ⟨Nat.le_of_ble_eq_true rfl, Nat.le_of_ble_eq_true rfl⟩) ⟨MP.blind, fun U hU hW => ⟨rfl, by rw [hU], by rw [hU]; exact hPc, va_K.moved hW.alike hK, hN.warm hW, hDc.weaken (fun _ _ _ _ => trivial)⟩⟩ rfl rfl hl.1 rfl (lv_room (Nat.le_of_ble_eq_true rfl)) dL_law_4 ⟨Nat.le_of_ble_eq_true rfl, Nat.le_of_ble_eq_true rfl⟩) hS (fun q _ h => hFc q h) hFc (fun u t H1 locs ht hvm hw hB hz1 hk1 hS => ?_)
  obtain ⟨w_a, w_cs_a, w_ds_a, g_im_a, i_a, i_cs_a, i_ds_a, j_a, j_cs_a, j_ds_a, t_a, t_sg_a, r_a, r_rc_a, e_a, e_cf_a⟩ := u
  obtain ⟨hP1, hD1⟩ := hB
  rw [ht] at hP1
  obtain ⟨hP, hD⟩ := va_join (wr := []) (w1 := [(g_a, .inr (4, [.ref w_a, .ref g_im_a, .ref t_a, .ref r_a, .ref e_a, .int 0, .int (-6), .int 0])), (w_a, .inr (3, [.int 8, .int 0, .int 0, .ref w_cs_a, .ref w_ds_a])), (w_cs_a, .inl (cI, 14, .inl R.1)), (w_ds_a, .inl (cI, 14, .inl (fun _ => 0))), (g_im_a, .inl (cW, 2, .inr (.inr (.inr (.inr (im2 i_a j_a)))))), (i_a, .inr (3, [.int 8, .int 0, .int 0, .ref i_cs_a, .ref i_ds_a])), (i_cs_a, .inl (cI, 14, .inl R.2.1)), (i_ds_a, .inl (cI, 14, .inl (fun _ => 0))), (j_a, .inr (3, [.int 8, .int 0, .int 0, .ref j_cs_a, .ref j_ds_a])), (j_cs_a, .inl (cI, 14, .inl R.2.2)), (j_ds_a, .inl (cI, 14, .inl (fun _ => 0))), (t_a, .inr (2, [.ref t_sg_a, .int 0])), (t_sg_a, .inl (cI, 20, .inl (fun _ => 0))), (r_a, .inr (0, [.int 0, .ref r_rc_a, .int 0])), (r_rc_a, .inl (cI, 14, .inl (fun _ => 0))), (e_a, .inr (1, [.int 0, .int 0, .ref e_cf_a])), (e_cf_a, .inl (cJ, 256, .inr (.inl (fun _ => 0))))]) hP hD [0] [] rfl rfl (by decide) (by decide) hk1 hFc hP1 hD1
  generalize H1 = H at hP hS ⊢
  have hP : va_P (dC, dI) vwCl [(g_a, .inr (4, [.ref w_a, .ref g_im_a, .ref t_a, .ref r_a, .ref e_a, .int 0, .int (-6), .int 0])), (w_a, .inr (3, [.int 8, .int 0, .int 0, .ref w_cs_a, .ref w_ds_a])), (w_cs_a, .inl (cI, 14, .inl R.1)), (w_ds_a, .inl (cI, 14, .inl (fun _ => 0))), (g_im_a, .inl (cW, 2, .inr (.inr (.inr (.inr (im2 i_a j_a)))))), (i_a, .inr (3, [.int 8, .int 0, .int 0, .ref i_cs_a, .ref i_ds_a])), (i_cs_a, .inl (cI, 14, .inl R.2.1)), (i_ds_a, .inl (cI, 14, .inl (fun _ => 0))), (j_a, .inr (3, [.int 8, .int 0, .int 0, .ref j_cs_a, .ref j_ds_a])), (j_cs_a, .inl (cI, 14, .inl R.2.2)), (j_ds_a, .inl (cI, 14, .inl (fun _ => 0))), (t_a, .inr (2, [.ref t_sg_a, .int 0])), (t_sg_a, .inl (cI, 20, .inl (fun _ => 0))), (r_a, .inr (0, [.int 0, .ref r_rc_a, .int 0])), (r_rc_a, .inl (cI, 14, .inl (fun _ => 0))), (e_a, .inr (1, [.int 0, .int 0, .ref e_cf_a])), (e_cf_a, .inl (cJ, 256, .inr (.inl (fun _ => 0))))] H := hP
  have hD : va_D (fun q : Nat => s.heap.size ≤ q) [(g_a, .inr (4, [.ref w_a, .ref g_im_a, .ref t_a, .ref r_a, .ref e_a, .int 0, .int (-6), .int 0])), (w_a, .inr (3, [.int 8, .int 0, .int 0, .ref w_cs_a, .ref w_ds_a])), (w_cs_a, .inl (cI, 14, .inl R.1)), (w_ds_a, .inl (cI, 14, .inl (fun _ => 0))), (g_im_a, .inl (cW, 2, .inr (.inr (.inr (.inr (im2 i_a j_a)))))), (i_a, .inr (3, [.int 8, .int 0, .int 0, .ref i_cs_a, .ref i_ds_a])), (i_cs_a, .inl (cI, 14, .inl R.2.1)), (i_ds_a, .inl (cI, 14, .inl (fun _ => 0))), (j_a, .inr (3, [.int 8, .int 0, .int 0, .ref j_cs_a, .ref j_ds_a])), (j_cs_a, .inl (cI, 14, .inl R.2.2)), (j_ds_a, .inl (cI, 14, .inl (fun _ => 0))), (t_a, .inr (2, [.ref t_sg_a, .int 0])), (t_sg_a, .inl (cI, 20, .inl (fun _ => 0))), (r_a, .inr (0, [.int 0, .ref r_rc_a, .int 0])), (r_rc_a, .inl (cI, 14, .inl (fun _ => 0))), (e_a, .inr (1, [.int 0, .int 0, .ref e_cf_a])), (e_cf_a, .inl (cJ, 256, .inr (.inl (fun _ => 0))))] := hD
  refine W.widen (k := 17) (n := 407) (Nat.le_of_ble_eq_true rfl) (Nat.le_of_ble_eq_true rfl) ?_
  refine lv_astore_n (lv' := [(1, .ref g_a), (0, .ref b)]) hx hb dL_law_7 rfl hl (by decide) rfl (fun ls hl => ?_)
  refine va_new (ci := 5) (fs := [.int 0, .null, .null, .int 0, .null, .int 0, .int 0, .null, .null, .null]) (C := RX5) (T := TX5) (N := 10) hx hb hts0 wsX50_in tyX5 tyX5_ok hown (hts0 (.classLink RL 10 RX5) (List.mem_of_getElem? (i := 439) (by decide +kernel))) (hts0 (.instantiable RX5 10) (List.mem_of_getElem? (i := 440) (by decide +kernel))) (hts0 (.initialized RX5) (List.mem_of_getElem? (i := 63) (by decide +kernel))) hK hP hD hS hA rfl (fun j hj => by rcases (show j = 0 ∨ j = 1 ∨ j = 2 ∨ j = 3 ∨ j = 4 ∨ j = 5 ∨ j = 6 ∨ j = 7 ∨ j = 8 ∨ j = 9 by omega) with rfl | rfl | rfl | rfl | rfl | rfl | rfl | rfl | rfl | rfl <;> rfl) (Nat.le_of_ble_eq_true rfl) (Nat.le_of_ble_eq_true rfl) dL_law_8 (fun m_a H hP hD hS => ?_)
  have hP : va_P (dC, dI) vwCl [(g_a, .inr (4, [.ref w_a, .ref g_im_a, .ref t_a, .ref r_a, .ref e_a, .int 0, .int (-6), .int 0])), (w_a, .inr (3, [.int 8, .int 0, .int 0, .ref w_cs_a, .ref w_ds_a])), (w_cs_a, .inl (cI, 14, .inl R.1)), (w_ds_a, .inl (cI, 14, .inl (fun _ => 0))), (g_im_a, .inl (cW, 2, .inr (.inr (.inr (.inr (im2 i_a j_a)))))), (i_a, .inr (3, [.int 8, .int 0, .int 0, .ref i_cs_a, .ref i_ds_a])), (i_cs_a, .inl (cI, 14, .inl R.2.1)), (i_ds_a, .inl (cI, 14, .inl (fun _ => 0))), (j_a, .inr (3, [.int 8, .int 0, .int 0, .ref j_cs_a, .ref j_ds_a])), (j_cs_a, .inl (cI, 14, .inl R.2.2)), (j_ds_a, .inl (cI, 14, .inl (fun _ => 0))), (t_a, .inr (2, [.ref t_sg_a, .int 0])), (t_sg_a, .inl (cI, 20, .inl (fun _ => 0))), (r_a, .inr (0, [.int 0, .ref r_rc_a, .int 0])), (r_rc_a, .inl (cI, 14, .inl (fun _ => 0))), (e_a, .inr (1, [.int 0, .int 0, .ref e_cf_a])), (e_cf_a, .inl (cJ, 256, .inr (.inl (fun _ => 0)))), (m_a, .inr (5, [.int 0, .null, .null, .int 0, .null, .int 0, .int 0, .null, .null, .null]))] H := hP
  have hD : va_D (fun q : Nat => s.heap.size ≤ q) [(g_a, .inr (4, [.ref w_a, .ref g_im_a, .ref t_a, .ref r_a, .ref e_a, .int 0, .int (-6), .int 0])), (w_a, .inr (3, [.int 8, .int 0, .int 0, .ref w_cs_a, .ref w_ds_a])), (w_cs_a, .inl (cI, 14, .inl R.1)), (w_ds_a, .inl (cI, 14, .inl (fun _ => 0))), (g_im_a, .inl (cW, 2, .inr (.inr (.inr (.inr (im2 i_a j_a)))))), (i_a, .inr (3, [.int 8, .int 0, .int 0, .ref i_cs_a, .ref i_ds_a])), (i_cs_a, .inl (cI, 14, .inl R.2.1)), (i_ds_a, .inl (cI, 14, .inl (fun _ => 0))), (j_a, .inr (3, [.int 8, .int 0, .int 0, .ref j_cs_a, .ref j_ds_a])), (j_cs_a, .inl (cI, 14, .inl R.2.2)), (j_ds_a, .inl (cI, 14, .inl (fun _ => 0))), (t_a, .inr (2, [.ref t_sg_a, .int 0])), (t_sg_a, .inl (cI, 20, .inl (fun _ => 0))), (r_a, .inr (0, [.int 0, .ref r_rc_a, .int 0])), (r_rc_a, .inl (cI, 14, .inl (fun _ => 0))), (e_a, .inr (1, [.int 0, .int 0, .ref e_cf_a])), (e_cf_a, .inl (cJ, 256, .inr (.inl (fun _ => 0)))), (m_a, .inr (5, [.int 0, .null, .null, .int 0, .null, .int 0, .int 0, .null, .null, .null]))] := hD
  refine W.widen (k := 18) (n := 417) (Nat.le_of_ble_eq_true rfl) (Nat.le_of_ble_eq_true rfl) ?_
  refine lv_dup hx hb dL_law_11 rfl ?_
  have hPc := hP.sub (ws' := [(m_a, .inr (5, [.int 0, .null, .null, .int 0, .null, .int 0, .int 0, .null, .null, .null]))]) [17] rfl
  have hDc := hD.sub (ws' := [(m_a, .inr (5, [.int 0, .null, .null, .int 0, .null, .int 0, .int 0, .null, .null, .null]))]) [17] (by decide) rfl
  have hFc := va_free (wc := [(m_a, .inr (5, [.int 0, .null, .null, .int 0, .null, .int 0, .int 0, .null, .null, .null]))]) hD hS hA [17] rfl
  refine va_callv (va_runI (As := []) (rest := [.ref m_a]) ⟨hx, hb, hml, hown, hts⟩ (c_X5_init l dC dI cI cZ cJ cW H.size m_a R' g5) (cwI 0 hts gL_law_X5_init rfl rfl rfl (hts0 (.initialized RX5) (List.mem_of_getElem? (i := 63) (by decide +kernel))) (hts0 (.methodLink RL 12 yX5_init) (List.mem_of_getElem? (i := 441) (by decide +kernel))) (hts0 (.instanceMethod yX5_init) (List.mem_of_getElem? (i := 442) (by decide +kernel))) rfl (by decide +kernel) ⟨Nat.le_of_ble_eq_true rfl, Nat.le_of_ble_eq_true rfl⟩) ⟨MP.blind, fun U hU hW => ⟨rfl, by rw [hU], by rw [hU]; exact hPc, va_K.moved hW.alike hK, hN.warm hW, hDc.weaken (fun _ _ _ _ => trivial)⟩⟩ rfl rfl hl.1 rfl (lv_room (Nat.le_of_ble_eq_true rfl)) dL_law_12 ⟨Nat.le_of_ble_eq_true rfl, Nat.le_of_ble_eq_true rfl⟩) hS (fun q _ h => hFc q h) hFc (fun u t H1 locs ht hvm hw hB hz1 hk1 hS => ?_)
  obtain ⟨m_ds_a, m_cs_a, m_tx_a, m_ia_a, m_im_a, m_ik_a⟩ := u
  obtain ⟨hP1, hD1⟩ := hB
  rw [ht] at hP1
  obtain ⟨hP, hD⟩ := va_join (wr := [(g_a, .inr (4, [.ref w_a, .ref g_im_a, .ref t_a, .ref r_a, .ref e_a, .int 0, .int (-6), .int 0])), (w_a, .inr (3, [.int 8, .int 0, .int 0, .ref w_cs_a, .ref w_ds_a])), (w_cs_a, .inl (cI, 14, .inl R.1)), (w_ds_a, .inl (cI, 14, .inl (fun _ => 0))), (g_im_a, .inl (cW, 2, .inr (.inr (.inr (.inr (im2 i_a j_a)))))), (i_a, .inr (3, [.int 8, .int 0, .int 0, .ref i_cs_a, .ref i_ds_a])), (i_cs_a, .inl (cI, 14, .inl R.2.1)), (i_ds_a, .inl (cI, 14, .inl (fun _ => 0))), (j_a, .inr (3, [.int 8, .int 0, .int 0, .ref j_cs_a, .ref j_ds_a])), (j_cs_a, .inl (cI, 14, .inl R.2.2)), (j_ds_a, .inl (cI, 14, .inl (fun _ => 0))), (t_a, .inr (2, [.ref t_sg_a, .int 0])), (t_sg_a, .inl (cI, 20, .inl (fun _ => 0))), (r_a, .inr (0, [.int 0, .ref r_rc_a, .int 0])), (r_rc_a, .inl (cI, 14, .inl (fun _ => 0))), (e_a, .inr (1, [.int 0, .int 0, .ref e_cf_a])), (e_cf_a, .inl (cJ, 256, .inr (.inl (fun _ => 0))))]) (w1 := [(m_a, .inr (5, [.int 8, .ref m_ds_a, .ref m_cs_a, .int 0, .ref m_tx_a, .int 0, .int (-6), .ref m_ia_a, .ref m_im_a, .ref m_ik_a])), (m_ds_a, .inl (cI, 14, .inl R'.1)), (m_cs_a, .inl (cI, 14, .inl R'.2)), (m_tx_a, .inl (cI, 20, .inl (fun _ => 0))), (m_ia_a, .inl (cZ, 16384, .inl (fun _ => 0))), (m_im_a, .inl (cI, 60, .inl (fun _ => 0))), (m_ik_a, .inl (cZ, 2, .inl (fun _ => 0)))]) hP hD [17] [0, 1, 2, 3, 4, 5, 6, 7, 8, 9, 10, 11, 12, 13, 14, 15, 16] rfl rfl (by decide) (by decide) hk1 hFc hP1 hD1
  generalize H1 = H at hP hS ⊢
  have hP : va_P (dC, dI) vwCl [(g_a, .inr (4, [.ref w_a, .ref g_im_a, .ref t_a, .ref r_a, .ref e_a, .int 0, .int (-6), .int 0])), (w_a, .inr (3, [.int 8, .int 0, .int 0, .ref w_cs_a, .ref w_ds_a])), (w_cs_a, .inl (cI, 14, .inl R.1)), (w_ds_a, .inl (cI, 14, .inl (fun _ => 0))), (g_im_a, .inl (cW, 2, .inr (.inr (.inr (.inr (im2 i_a j_a)))))), (i_a, .inr (3, [.int 8, .int 0, .int 0, .ref i_cs_a, .ref i_ds_a])), (i_cs_a, .inl (cI, 14, .inl R.2.1)), (i_ds_a, .inl (cI, 14, .inl (fun _ => 0))), (j_a, .inr (3, [.int 8, .int 0, .int 0, .ref j_cs_a, .ref j_ds_a])), (j_cs_a, .inl (cI, 14, .inl R.2.2)), (j_ds_a, .inl (cI, 14, .inl (fun _ => 0))), (t_a, .inr (2, [.ref t_sg_a, .int 0])), (t_sg_a, .inl (cI, 20, .inl (fun _ => 0))), (r_a, .inr (0, [.int 0, .ref r_rc_a, .int 0])), (r_rc_a, .inl (cI, 14, .inl (fun _ => 0))), (e_a, .inr (1, [.int 0, .int 0, .ref e_cf_a])), (e_cf_a, .inl (cJ, 256, .inr (.inl (fun _ => 0)))), (m_a, .inr (5, [.int 8, .ref m_ds_a, .ref m_cs_a, .int 0, .ref m_tx_a, .int 0, .int (-6), .ref m_ia_a, .ref m_im_a, .ref m_ik_a])), (m_ds_a, .inl (cI, 14, .inl R'.1)), (m_cs_a, .inl (cI, 14, .inl R'.2)), (m_tx_a, .inl (cI, 20, .inl (fun _ => 0))), (m_ia_a, .inl (cZ, 16384, .inl (fun _ => 0))), (m_im_a, .inl (cI, 60, .inl (fun _ => 0))), (m_ik_a, .inl (cZ, 2, .inl (fun _ => 0)))] H := hP
  have hD : va_D (fun q : Nat => s.heap.size ≤ q) [(g_a, .inr (4, [.ref w_a, .ref g_im_a, .ref t_a, .ref r_a, .ref e_a, .int 0, .int (-6), .int 0])), (w_a, .inr (3, [.int 8, .int 0, .int 0, .ref w_cs_a, .ref w_ds_a])), (w_cs_a, .inl (cI, 14, .inl R.1)), (w_ds_a, .inl (cI, 14, .inl (fun _ => 0))), (g_im_a, .inl (cW, 2, .inr (.inr (.inr (.inr (im2 i_a j_a)))))), (i_a, .inr (3, [.int 8, .int 0, .int 0, .ref i_cs_a, .ref i_ds_a])), (i_cs_a, .inl (cI, 14, .inl R.2.1)), (i_ds_a, .inl (cI, 14, .inl (fun _ => 0))), (j_a, .inr (3, [.int 8, .int 0, .int 0, .ref j_cs_a, .ref j_ds_a])), (j_cs_a, .inl (cI, 14, .inl R.2.2)), (j_ds_a, .inl (cI, 14, .inl (fun _ => 0))), (t_a, .inr (2, [.ref t_sg_a, .int 0])), (t_sg_a, .inl (cI, 20, .inl (fun _ => 0))), (r_a, .inr (0, [.int 0, .ref r_rc_a, .int 0])), (r_rc_a, .inl (cI, 14, .inl (fun _ => 0))), (e_a, .inr (1, [.int 0, .int 0, .ref e_cf_a])), (e_cf_a, .inl (cJ, 256, .inr (.inl (fun _ => 0)))), (m_a, .inr (5, [.int 8, .ref m_ds_a, .ref m_cs_a, .int 0, .ref m_tx_a, .int 0, .int (-6), .ref m_ia_a, .ref m_im_a, .ref m_ik_a])), (m_ds_a, .inl (cI, 14, .inl R'.1)), (m_cs_a, .inl (cI, 14, .inl R'.2)), (m_tx_a, .inl (cI, 20, .inl (fun _ => 0))), (m_ia_a, .inl (cZ, 16384, .inl (fun _ => 0))), (m_im_a, .inl (cI, 60, .inl (fun _ => 0))), (m_ik_a, .inl (cZ, 2, .inl (fun _ => 0)))] := hD
  refine W.widen (k := 24) (n := 16911) (Nat.le_of_ble_eq_true rfl) (Nat.le_of_ble_eq_true rfl) ?_
  refine lv_astore_n (lv' := [(2, .ref m_a), (1, .ref g_a), (0, .ref b)]) hx hb dL_law_15 rfl hl (by decide) rfl (fun ls hl => ?_)
  refine lv_iconst (v := 0) hx hb dL_law_16 (by decide) ?_
  refine lv_istore_n (lv' := [(3, .int 0), (2, .ref m_a), (1, .ref g_a), (0, .ref b)]) hx hb dL_law_17 rfl hl (by decide) rfl (fun ls hl => ?_)
  exact law_loop hL C1 hK hN (L + 1) 0 (Nat.zero_le L) (by omega) _ _ _ _ _ _ _ _ _ _ _ _ _ _ _ _ _ _ _ _ _ _ _ _ _ _ _ _ _ _ _ _ _ _ _ _ hI H _ ls hP hD hS (lv_sub hl [3, 2, 1, 0] rfl)
set_option maxHeartbeats 4000000 in
theorem lw_walk (l : Launch) (hflags : l.flags = flags0) (b : Addr) (xs : List Int32) : MetFree l x (headSpec (Jvm.Cond.code x code maxLocals ret :: tables_1) room_1) (lw_P b xs) (fun _ _ _ _ _ => True) lw_Q := by
  refine MetFree.of_bodyS (code := code) (maxLocals := maxLocals) (ret := ret) (by decide) ?_ ?_
  · intro args s m h hn
    obtain ⟨meth, c, h1, h2, h3, h4, h5, h6, -, -⟩ := Cond.code_spec hn (atoms_spec (ws := Jvm.Cond.code x code maxLocals ret :: tables_1) h _ List.mem_cons_self)
    exact ⟨meth, c, h1, h2, h3, h4, h5, h6⟩
  · intro p e s m args below meth c s₁ B hml0 hP _
    obtain ⟨rfl, hx, hbd, hgv⟩ := hP
    obtain ⟨scr, harrAt, hlist, hof, hsmall⟩ := hx
    obtain ⟨hcb, hkn, -, -⟩ := State.arrayAt?_spec harrAt
    have hown : s.vm.findClass R_law = some m.cls := findClass_of_methodNamed B.named
    have hts0 : ∀ c ∈ (Jvm.Cond.code x code maxLocals ret :: tables_1), c.before #[Value.ref b] s = true := atoms_spec (ws := Jvm.Cond.code x code maxLocals ret :: tables_1) B.pre
    have hts : ∀ w ∈ lw_tbl, w.before #[Value.ref b] s = true := k2_hts_sels lw_privs (fun w hw => hts0 w (List.mem_cons_of_mem _ hw)) lw_privs_ok
    have hml : c.maxLocals = 4 := B.maxLocals_eq (hts0 _ List.mem_cons_self)
    have X₀ : Stand p l e room_1 s m #[Value.ref b] below meth c s₁ [] 0 0 := Stand.of_body B
    have hh0 : s₁.heap = s.heap := by rw [B.state]; rfl
    have hsz : scr.slots.size = xs.length := by rw [← Array.length_toList, hlist, List.length_map]
    have hval : ∀ j : Nat, j < xs.length → scr.slots[j]? = some (.int (xs.getD j 0)) := fun j hj => by
      rw [← Array.getElem?_toList, hlist]
      simp [hj]
    have hbl : b < s.heap.size := (Array.getElem?_eq_some_iff.mp hcb).1
    have hX : va_X b xs.length (fun j => xs.getD j 0) s s.heap := ⟨scr, hcb, hof, hkn, hsz, hval⟩
    have K : W p l e room_1 s m #[Value.ref b] below meth c s₁.heap [] 0 0 (lw_Z below #[Value.ref b] s) (entryFrame m ([Value.ref b] : List Value).toArray 4) := by
      rw [hh0]
      exact whole_start l hflags hbd ⟨B.exec, B.bytes, B.returns, hml, hown, hts, hX, hbl, B.notSynchronized, hgv⟩
    obtain ⟨t, a1, o, b1, b2, b3⟩ := K s₁ rfl X₀
    exact ⟨t, o, a1, b1, b2, b3⟩
theorem lw_pre_spec {args : Array Value} {s : State} (h : (Jvm.Cond.and given_1 narrow_1).before args s = true) (hr : rest_1_c.before args s = true) : ∃ (b : Addr) (xs : List Int32), lw_P b xs args s := by
  have hs := flat_of_before _ h
  have hq := flat_of_before _ hr
  have hc : (Cond.count 1).before args s = true := hs _ (by decide +kernel)
  have harr : (Cond.arrayOf (.arg 0) .int).before args s = true := hs _ (by decide +kernel)
  have hle : (Cond.le (.length (.arg 0)) (.int 1536)).before args s = true := hs _ (by decide +kernel)
  have hlen : (Cond.isInt (.length (.arg 0))).before args s = true := hq _ (by decide +kernel)
  have hall : (Cond.all (.arg 0) (.isInt (.elem (.arg 0) (.index 0)))).before args s = true := hq _ (by decide +kernel)
  obtain ⟨b, xs, hb, hx⟩ := State.ints_of_pre rfl harr hlen hall
  have hsm : xs.length < 2 ^ 31 := hx.choose_spec.2.2.2
  have hev : (Term.length (.arg 0)).eval args s none [] s = some (.int xs.length.toInt32) := hx.length_eval hb
  have hv := Cond.le_ints hev (show (Term.int 1536).eval args s none [] s = some (.int 1536) from rfl)
  have hd : xs.length.toInt32 ≤ 1536 := by
    simpa [Cond.before, Cond.holds, hv] using hle
  have hN : xs.length ≤ 1536 := (Int32.ofNat_le_ofNat hsm (by decide)).mp (show Int32.ofNat xs.length ≤ Int32.ofNat 1536 from hd)
  exact ⟨b, xs, Cond.one_arg hc (show args[0]? = some (.ref b) from hb), hx, hN, h⟩
theorem lw_comes (l : Launch) (hflags : l.flags = flags0) : Comes l x (Jvm.Cond.code x code maxLocals ret :: tables_1) room_1 (fun tb e args s => Calls_1 tb e args s ∧ rest_1 tb e args s ∧ Pre_1 tb e args s)
    (fun _ _ args s o t => lw_Q args s o t) := by
  intro p e ha hc hk s m args below hf hfit hheap happ hpre
  obtain ⟨b, xs, hP⟩ := lw_pre_spec hpre.2.2 hpre.2.1
  obtain ⟨k, o, h1, h2, h3, hQ⟩ := lw_walk l hflags b xs p e ha hc hk s m args below hf ((Spec.applies_iff_loose hf).mp happ).1 hP trivial
  exact ⟨k, o, h1, h2, h3, hQ⟩
theorem lw_frame {s t : State} {o : Outcome} {args : Array Value} (h : Framed s o t [] 24 16911) :
    Framed s o t (fieldLocs frame_1_writes args s ++ arrayLocs frame_1_arrays args s ++ staticLocs frame_1_statics s) 24 16911 := h
theorem lw_limb (L : Cond) (hL : ∀ (args : Array Value) (s t : State), L.after args s (.returned (some (.int 1))) t = true) :
    ArmFor flags0 classFile x code maxLocals ret World_1 tables_1 room_1 Calls_1 rest_1 Pre_1
      (fun tb e a s o t => postC L tb e a s o t ∧ Framed s o t (fieldLocs frame_1_writes a s ++ arrayLocs frame_1_arrays a s ++ staticLocs frame_1_statics s) 24 16911) := by
  intro l hflags _ _ p e ha hc hk s m args below hf hfit hheap happ hpre
  obtain ⟨k, o, h1, h2, h3, rfl, hF⟩ := lw_comes l hflags p e ha hc hk s m args below hf hfit hheap happ hpre
  exact ⟨k, _, h1, h2, h3, hL args s _, lw_frame hF⟩
theorem i_vc : Claimed_1_1 ∧ Claimed_1_2 := ⟨lw_limb limb_1_1 (fun args s t => by simp [limb_1_1, Cond.after, Cond.holds, Cond.value]), lw_limb limb_1_2 (fun args s t => Cond.after_iff.mpr (by
  first | (rw [show limb_1_2 = Cond.eq .result (.int 1) from rfl, Cond.eq_ints (x := 1) (y := 1) rfl rfl]; simp; done) | (simp [limb_1_2, Cond.value, Term.eval]; done)))⟩
