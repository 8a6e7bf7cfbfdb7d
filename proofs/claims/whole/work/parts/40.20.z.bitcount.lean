/-! how many bits: each number below 16384 looked at -/
set_option maxRecDepth 100000 in
theorem bc_0 : ∀ x, x < 512 → M_J6_bitCount_0f7a4 (nI (0 + x)) = some (nI (zpc (0 + x) 14)) := by decide +kernel
set_option maxRecDepth 100000 in
theorem bc_1 : ∀ x, x < 512 → M_J6_bitCount_0f7a4 (nI (512 + x)) = some (nI (zpc (512 + x) 14)) := by decide +kernel
set_option maxRecDepth 100000 in
theorem bc_2 : ∀ x, x < 512 → M_J6_bitCount_0f7a4 (nI (1024 + x)) = some (nI (zpc (1024 + x) 14)) := by decide +kernel
set_option maxRecDepth 100000 in
theorem bc_3 : ∀ x, x < 512 → M_J6_bitCount_0f7a4 (nI (1536 + x)) = some (nI (zpc (1536 + x) 14)) := by decide +kernel
set_option maxRecDepth 100000 in
theorem bc_4 : ∀ x, x < 512 → M_J6_bitCount_0f7a4 (nI (2048 + x)) = some (nI (zpc (2048 + x) 14)) := by decide +kernel
set_option maxRecDepth 100000 in
theorem bc_5 : ∀ x, x < 512 → M_J6_bitCount_0f7a4 (nI (2560 + x)) = some (nI (zpc (2560 + x) 14)) := by decide +kernel
set_option maxRecDepth 100000 in
theorem bc_6 : ∀ x, x < 512 → M_J6_bitCount_0f7a4 (nI (3072 + x)) = some (nI (zpc (3072 + x) 14)) := by decide +kernel
set_option maxRecDepth 100000 in
theorem bc_7 : ∀ x, x < 512 → M_J6_bitCount_0f7a4 (nI (3584 + x)) = some (nI (zpc (3584 + x) 14)) := by decide +kernel
set_option maxRecDepth 100000 in
theorem bc_8 : ∀ x, x < 512 → M_J6_bitCount_0f7a4 (nI (4096 + x)) = some (nI (zpc (4096 + x) 14)) := by decide +kernel
set_option maxRecDepth 100000 in
theorem bc_9 : ∀ x, x < 512 → M_J6_bitCount_0f7a4 (nI (4608 + x)) = some (nI (zpc (4608 + x) 14)) := by decide +kernel
set_option maxRecDepth 100000 in
theorem bc_10 : ∀ x, x < 512 → M_J6_bitCount_0f7a4 (nI (5120 + x)) = some (nI (zpc (5120 + x) 14)) := by decide +kernel
set_option maxRecDepth 100000 in
theorem bc_11 : ∀ x, x < 512 → M_J6_bitCount_0f7a4 (nI (5632 + x)) = some (nI (zpc (5632 + x) 14)) := by decide +kernel
set_option maxRecDepth 100000 in
theorem bc_12 : ∀ x, x < 512 → M_J6_bitCount_0f7a4 (nI (6144 + x)) = some (nI (zpc (6144 + x) 14)) := by decide +kernel
set_option maxRecDepth 100000 in
theorem bc_13 : ∀ x, x < 512 → M_J6_bitCount_0f7a4 (nI (6656 + x)) = some (nI (zpc (6656 + x) 14)) := by decide +kernel
set_option maxRecDepth 100000 in
theorem bc_14 : ∀ x, x < 512 → M_J6_bitCount_0f7a4 (nI (7168 + x)) = some (nI (zpc (7168 + x) 14)) := by decide +kernel
set_option maxRecDepth 100000 in
theorem bc_15 : ∀ x, x < 512 → M_J6_bitCount_0f7a4 (nI (7680 + x)) = some (nI (zpc (7680 + x) 14)) := by decide +kernel
set_option maxRecDepth 100000 in
theorem bc_16 : ∀ x, x < 512 → M_J6_bitCount_0f7a4 (nI (8192 + x)) = some (nI (zpc (8192 + x) 14)) := by decide +kernel
set_option maxRecDepth 100000 in
theorem bc_17 : ∀ x, x < 512 → M_J6_bitCount_0f7a4 (nI (8704 + x)) = some (nI (zpc (8704 + x) 14)) := by decide +kernel
set_option maxRecDepth 100000 in
theorem bc_18 : ∀ x, x < 512 → M_J6_bitCount_0f7a4 (nI (9216 + x)) = some (nI (zpc (9216 + x) 14)) := by decide +kernel
set_option maxRecDepth 100000 in
theorem bc_19 : ∀ x, x < 512 → M_J6_bitCount_0f7a4 (nI (9728 + x)) = some (nI (zpc (9728 + x) 14)) := by decide +kernel
set_option maxRecDepth 100000 in
theorem bc_20 : ∀ x, x < 512 → M_J6_bitCount_0f7a4 (nI (10240 + x)) = some (nI (zpc (10240 + x) 14)) := by decide +kernel
set_option maxRecDepth 100000 in
theorem bc_21 : ∀ x, x < 512 → M_J6_bitCount_0f7a4 (nI (10752 + x)) = some (nI (zpc (10752 + x) 14)) := by decide +kernel
set_option maxRecDepth 100000 in
theorem bc_22 : ∀ x, x < 512 → M_J6_bitCount_0f7a4 (nI (11264 + x)) = some (nI (zpc (11264 + x) 14)) := by decide +kernel
set_option maxRecDepth 100000 in
theorem bc_23 : ∀ x, x < 512 → M_J6_bitCount_0f7a4 (nI (11776 + x)) = some (nI (zpc (11776 + x) 14)) := by decide +kernel
set_option maxRecDepth 100000 in
theorem bc_24 : ∀ x, x < 512 → M_J6_bitCount_0f7a4 (nI (12288 + x)) = some (nI (zpc (12288 + x) 14)) := by decide +kernel
set_option maxRecDepth 100000 in
theorem bc_25 : ∀ x, x < 512 → M_J6_bitCount_0f7a4 (nI (12800 + x)) = some (nI (zpc (12800 + x) 14)) := by decide +kernel
set_option maxRecDepth 100000 in
theorem bc_26 : ∀ x, x < 512 → M_J6_bitCount_0f7a4 (nI (13312 + x)) = some (nI (zpc (13312 + x) 14)) := by decide +kernel
set_option maxRecDepth 100000 in
theorem bc_27 : ∀ x, x < 512 → M_J6_bitCount_0f7a4 (nI (13824 + x)) = some (nI (zpc (13824 + x) 14)) := by decide +kernel
set_option maxRecDepth 100000 in
theorem bc_28 : ∀ x, x < 512 → M_J6_bitCount_0f7a4 (nI (14336 + x)) = some (nI (zpc (14336 + x) 14)) := by decide +kernel
set_option maxRecDepth 100000 in
theorem bc_29 : ∀ x, x < 512 → M_J6_bitCount_0f7a4 (nI (14848 + x)) = some (nI (zpc (14848 + x) 14)) := by decide +kernel
set_option maxRecDepth 100000 in
theorem bc_30 : ∀ x, x < 512 → M_J6_bitCount_0f7a4 (nI (15360 + x)) = some (nI (zpc (15360 + x) 14)) := by decide +kernel
set_option maxRecDepth 100000 in
theorem bc_31 : ∀ x, x < 512 → M_J6_bitCount_0f7a4 (nI (15872 + x)) = some (nI (zpc (15872 + x) 14)) := by decide +kernel
theorem bc_all {x : Nat} (h : x < 2 ^ 14) : M_J6_bitCount_0f7a4 (nI x) = some (nI (zpc x 14)) := by
  have h : x < 16384 := h
  have key : ∀ k, k < 32 → ∀ y, y < 512 → M_J6_bitCount_0f7a4 (nI (512 * k + y)) = some (nI (zpc (512 * k + y) 14)) := by
    intro k hk
    match k, hk with
    | 0, _ => exact bc_0
    | 1, _ => exact bc_1
    | 2, _ => exact bc_2
    | 3, _ => exact bc_3
    | 4, _ => exact bc_4
    | 5, _ => exact bc_5
    | 6, _ => exact bc_6
    | 7, _ => exact bc_7
    | 8, _ => exact bc_8
    | 9, _ => exact bc_9
    | 10, _ => exact bc_10
    | 11, _ => exact bc_11
    | 12, _ => exact bc_12
    | 13, _ => exact bc_13
    | 14, _ => exact bc_14
    | 15, _ => exact bc_15
    | 16, _ => exact bc_16
    | 17, _ => exact bc_17
    | 18, _ => exact bc_18
    | 19, _ => exact bc_19
    | 20, _ => exact bc_20
    | 21, _ => exact bc_21
    | 22, _ => exact bc_22
    | 23, _ => exact bc_23
    | 24, _ => exact bc_24
    | 25, _ => exact bc_25
    | 26, _ => exact bc_26
    | 27, _ => exact bc_27
    | 28, _ => exact bc_28
    | 29, _ => exact bc_29
    | 30, _ => exact bc_30
    | 31, _ => exact bc_31
    | k + 32, hk => omega
  have h1 := key (x / 512) (by omega) (x % 512) (by omega)
  rw [Nat.div_add_mod] at h1
  exact h1
