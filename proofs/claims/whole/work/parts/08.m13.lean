def fX6_way (a0 : Nat) (a1 : Int32) (a2 : Int32) (a3 : Int32) (μ : zMem) : Option (Int32 × zMem) :=
  zbd (fX6_areWay a1 a2 a3 μ) fun r1 m2 =>
  if r1 = 0 then
    zbd (fX6_finds a0 (0 : Int32) m2) fun r11 m12 =>
    some (r11, m12)
  else
    zbd (fX6_walk a0 a1 a3 m2) fun _ m4 =>
    zgd (zib a2 25) (
    if 0 ≤ (m4 (a0 + 5) (a2).toNatClampNeg) then
      zgd (zib a2 25) (
      some ((m4 (a0 + 5) (a2).toNatClampNeg), m4))
    else
      zbd (fX6_finds a0 (3 : Int32) m4) fun r9 m10 =>
      some (r9, m10))
set_option maxRecDepth 100000 in
set_option maxHeartbeats 4000000 in
theorem tX6_way (g : zG) {a0 : Nat} {a1 : Int32} {a2 : Int32} {a3 : Int32} {μ : zMem} {Q : Int32 → zMem → Prop} (ha0 : zkd a0 = 6) (h : zok (fX6_way a0 a1 a2 a3 μ) Q) : zTi g yX6_way cX6_way 4 .int 4 [.ref (zad g a0), .int a1, .int a2, .int a3] μ Q := by
  refine zTi_of (P := fun r => True) zpi RX6 (by decide) rfl (Nat.le_of_ble_eq_true rfl) ?_
  intro κ X hret
  unfold fX6_way at h
  refine zi_iload_n (pc' := 1) X dX6_way_0 rfl rfl 1 rfl ?_
  refine zi_iload_n (pc' := 2) X dX6_way_1 rfl rfl 2 rfl ?_
  refine zi_iload_n (pc' := 3) X dX6_way_2 rfl rfl 3 rfl ?_
  refine zi_callSi (pc' := 6) X zl_X6_183 [.int a1, .int a2, .int a3] rfl rfl (by decide) (Nat.le_of_ble_eq_true rfl) dX6_way_3 rfl (tX6_areWay _ (zok_bd h (fun r1 m2 h => ?_)))
  refine zi_if_ne (pc' := 9) (tgt := 15) X dX6_way_6 rfl rfl (fun c => ?_) (fun c => ?_)
  · replace h := zok_f h c
    refine zi_aload_n (pc' := 16) X dX6_way_15 rfl rfl 0 rfl ?_
    refine zi_iload_n (pc' := 17) X dX6_way_16 rfl rfl 1 rfl ?_
    refine zi_iload_n (pc' := 18) X dX6_way_17 rfl rfl 3 rfl ?_
    refine zi_callVv (pc' := 21) X zl_X6_186 ha0 (by decide) [.int a1, .int a3] rfl rfl (by decide) (Nat.le_of_ble_eq_true rfl) dX6_way_18 rfl (tX6_walk _ ha0 (zok_bd h (fun _ m4 h => ?_)))
    refine zi_aload_n (pc' := 22) X dX6_way_21 rfl rfl 0 rfl ?_
    refine zi_getr (pc' := 25) X zf_X6_22 rfl (by decide) ha0 dX6_way_22 rfl ?_
    have f5 := zr_6_5 ha0
    refine zi_iload_n (pc' := 26) X dX6_way_25 rfl rfl 2 rfl ?_
    obtain ⟨g6, h⟩ := zok_g h
    refine zi_iald (pc' := 27) X f5.1 (by rw [f5.2]; exact g6) dX6_way_26 rfl ?_
    refine zi_if_ge (pc' := 30) (tgt := 38) X dX6_way_27 rfl rfl (fun c => ?_) (fun c => ?_)
    · replace h := zok_t h c
      refine zi_aload_n (pc' := 39) X dX6_way_38 rfl rfl 0 rfl ?_
      refine zi_getr (pc' := 42) X zf_X6_22 rfl (by decide) ha0 dX6_way_39 rfl ?_
      have f7 := zr_6_5 ha0
      refine zi_iload_n (pc' := 43) X dX6_way_42 rfl rfl 2 rfl ?_
      obtain ⟨g8, h⟩ := zok_g h
      refine zi_iald (pc' := 44) X f7.1 (by rw [f7.2]; exact g8) dX6_way_43 rfl ?_
      exact hret _ _ _ _ dX6_way_44 trivial h
    · replace h := zok_f h c
      refine zi_aload_n (pc' := 31) X dX6_way_30 rfl rfl 0 rfl ?_
      refine zi_iconst (pc' := 32) (v := (3 : Int32)) X dX6_way_31 rfl rfl ?_
      refine zi_callVi (pc' := 35) X zl_X6_93 ha0 (by decide) [.int (3 : Int32)] rfl rfl (by decide) (Nat.le_of_ble_eq_true rfl) dX6_way_32 rfl (tX6_finds _ ha0 (zok_bd h (fun r9 m10 h => ?_)))
      refine zi_goto (pc' := 44) X dX6_way_35 rfl ?_
      exact hret _ _ _ _ dX6_way_44 trivial h
  · replace h := zok_t h c
    refine zi_aload_n (pc' := 10) X dX6_way_9 rfl rfl 0 rfl ?_
    refine zi_iconst (pc' := 11) (v := (0 : Int32)) X dX6_way_10 rfl rfl ?_
    refine zi_callVi (pc' := 14) X zl_X6_93 ha0 (by decide) [.int (0 : Int32)] rfl rfl (by decide) (Nat.le_of_ble_eq_true rfl) dX6_way_11 rfl (tX6_finds _ ha0 (zok_bd h (fun r11 m12 h => ?_)))
    exact hret _ _ _ _ dX6_way_14 trivial h
def fX6_ahead (a0 : Nat) (a1 : Int32) (a2 : Int32) (μ : zMem) : Option (Int32 × zMem) :=
  zbd (fX6_isCell a1 μ) fun r1 m2 =>
  if r1 = 0 then
    zbd (fX6_finds a0 (0 : Int32) m2) fun r3 m4 =>
    some (r3, m4)
  else
    zbd (fX6_in ((a2).toInt64) (0 : Int64) (100 : Int64) m2) fun r5 m6 =>
    if r5 = 0 then
      zbd (fX6_finds a0 (0 : Int32) m6) fun r15 m16 =>
      some (r15, m16)
    else
      zbd (fX6_lends a0 m6) fun _ m8 =>
      zbd (fX6_days a0 a2 m8) fun _ m10 =>
      zgd (zib ((4 : Int32) + a1) 87) (
      zbd (fX6_laysBack a0 m10) fun _ m14 =>
      some ((m10 (a0 + 1) (((4 : Int32) + a1)).toNatClampNeg), m14))
set_option maxRecDepth 100000 in
set_option maxHeartbeats 4000000 in
theorem tX6_ahead (g : zG) {a0 : Nat} {a1 : Int32} {a2 : Int32} {μ : zMem} {Q : Int32 → zMem → Prop} (ha0 : zkd a0 = 6) (h : zok (fX6_ahead a0 a1 a2 μ) Q) : zTi g yX6_ahead cX6_ahead 4 .int 5 [.ref (zad g a0), .int a1, .int a2] μ Q := by
  refine zTi_of (P := fun r => True) zpi RX6 (by decide) rfl (Nat.le_of_ble_eq_true rfl) ?_
  intro κ X hret
  unfold fX6_ahead at h
  refine zi_iload_n (pc' := 1) X dX6_ahead_0 rfl rfl 1 rfl ?_
  refine zi_callSi (pc' := 4) X zl_X6_83 [.int a1] rfl rfl (by decide) (Nat.le_of_ble_eq_true rfl) dX6_ahead_1 rfl (tX6_isCell _ (zok_bd h (fun r1 m2 h => ?_)))
  refine zi_if_eq (pc' := 7) (tgt := 19) X dX6_ahead_4 rfl rfl (fun c => ?_) (fun c => ?_)
  · replace h := zok_t h c
    refine zi_aload_n (pc' := 20) X dX6_ahead_19 rfl rfl 0 rfl ?_
    refine zi_iconst (pc' := 21) (v := (0 : Int32)) X dX6_ahead_20 rfl rfl ?_
    refine zi_callVi (pc' := 24) X zl_X6_93 ha0 (by decide) [.int (0 : Int32)] rfl rfl (by decide) (Nat.le_of_ble_eq_true rfl) dX6_ahead_21 rfl (tX6_finds _ ha0 (zok_bd h (fun r3 m4 h => ?_)))
    exact hret _ _ _ _ dX6_ahead_24 trivial h
  · replace h := zok_f h c
    refine zi_iload_n (pc' := 8) X dX6_ahead_7 rfl rfl 2 rfl ?_
    refine zi_i2l (pc' := 9) X dX6_ahead_8 rfl ?_
    refine zi_lconst (pc' := 10) (v := (0 : Int64)) X dX6_ahead_9 rfl rfl ?_
    refine zi_ldc2 (pc' := 13) X dX6_ahead_10 rfl zk_X6_189 ?_
    refine zi_callSi (pc' := 16) X zl_X6_48 [.long ((a2).toInt64), .long (0 : Int64), .long (100 : Int64)] rfl rfl (by decide) (Nat.le_of_ble_eq_true rfl) dX6_ahead_13 rfl (tX6_in _ (zok_bd h (fun r5 m6 h => ?_)))
    refine zi_if_ne (pc' := 19) (tgt := 25) X dX6_ahead_16 rfl rfl (fun c => ?_) (fun c => ?_)
    · replace h := zok_f h c
      refine zi_aload_n (pc' := 26) X dX6_ahead_25 rfl rfl 0 rfl ?_
      refine zi_callVv (pc' := 29) X zl_X6_191 ha0 (by decide) [] rfl rfl (by decide) (Nat.le_of_ble_eq_true rfl) dX6_ahead_26 rfl (tX6_lends _ ha0 (zok_bd h (fun _ m8 h => ?_)))
      refine zi_aload_n (pc' := 30) X dX6_ahead_29 rfl rfl 0 rfl ?_
      refine zi_iload_n (pc' := 31) X dX6_ahead_30 rfl rfl 2 rfl ?_
      refine zi_callVv (pc' := 34) X zl_X6_162 ha0 (by decide) [.int a2] rfl rfl (by decide) (Nat.le_of_ble_eq_true rfl) dX6_ahead_31 rfl (tX6_days _ ha0 (zok_bd h (fun _ m10 h => ?_)))
      refine zi_aload_n (pc' := 35) X dX6_ahead_34 rfl rfl 0 rfl ?_
      refine zi_getr (pc' := 38) X zf_X6_9 rfl (by decide) ha0 dX6_ahead_35 rfl ?_
      have f11 := zr_6_0 ha0
      refine zi_iconst (pc' := 39) (v := (4 : Int32)) X dX6_ahead_38 rfl rfl ?_
      refine zi_iload_n (pc' := 40) X dX6_ahead_39 rfl rfl 1 rfl ?_
      refine zi_iadd (pc' := 41) X dX6_ahead_40 rfl ?_
      obtain ⟨g12, h⟩ := zok_g h
      refine zi_iald (pc' := 42) X f11.1 (by rw [f11.2]; exact g12) dX6_ahead_41 rfl ?_
      refine zi_istore_n (pc' := 43) X dX6_ahead_42 rfl rfl (by decide) [(3, .int (m10 (a0 + 1) (((4 : Int32) + a1)).toNatClampNeg)), (0, .ref (zad g a0)), (1, .int a1), (2, .int a2)] rfl ?_
      refine zi_aload_n (pc' := 44) X dX6_ahead_43 rfl rfl 1 rfl ?_
      refine zi_callVv (pc' := 47) X zl_X6_194 ha0 (by decide) [] rfl rfl (by decide) (Nat.le_of_ble_eq_true rfl) dX6_ahead_44 rfl (tX6_laysBack _ ha0 (zok_bd h (fun _ m14 h => ?_)))
      refine zi_iload_n (pc' := 48) X dX6_ahead_47 rfl rfl 0 rfl ?_
      exact hret _ _ _ _ dX6_ahead_48 trivial h
    · replace h := zok_t h c
      refine zi_aload_n (pc' := 20) X dX6_ahead_19 rfl rfl 0 rfl ?_
      refine zi_iconst (pc' := 21) (v := (0 : Int32)) X dX6_ahead_20 rfl rfl ?_
      refine zi_callVi (pc' := 24) X zl_X6_93 ha0 (by decide) [.int (0 : Int32)] rfl rfl (by decide) (Nat.le_of_ble_eq_true rfl) dX6_ahead_21 rfl (tX6_finds _ ha0 (zok_bd h (fun r15 m16 h => ?_)))
      exact hret _ _ _ _ dX6_ahead_24 trivial h
def fX6_felt (a0 : Nat) (a1 : Int32) (a2 : Int32) (a3 : Int32) (μ : zMem) : Option (Int32 × zMem) :=
  zbd (fX6_isTent a0 a1 μ) fun r1 m2 =>
  if r1 = 0 then
    zbd (fX6_finds a0 (0 : Int32) m2) fun r3 m4 =>
    some (r3, m4)
  else
    zbd (fX6_in ((a2).toInt64) (0 : Int64) (3 : Int64) m2) fun r5 m6 =>
    if r5 = 0 then
      zbd (fX6_finds a0 (0 : Int32) m6) fun r7 m8 =>
      some (r7, m8)
    else
      zbd (fX6_in ((a3).toInt64) (0 : Int64) (100 : Int64) m6) fun r9 m10 =>
      if r9 = 0 then
        zbd (fX6_finds a0 (0 : Int32) m10) fun r19 m20 =>
        some (r19, m20)
      else
        zbd (fX6_lends a0 m10) fun _ m12 =>
        zbd (fX6_days a0 a3 m12) fun _ m14 =>
        zbd (fX6_its a0 a1 ((4 : Int32) + a2) m14) fun r15 m16 =>
        zbd (fX6_laysBack a0 m16) fun _ m18 =>
        some (r15, m18)
set_option maxRecDepth 100000 in
set_option maxHeartbeats 4000000 in
theorem tX6_felt (g : zG) {a0 : Nat} {a1 : Int32} {a2 : Int32} {a3 : Int32} {μ : zMem} {Q : Int32 → zMem → Prop} (ha0 : zkd a0 = 6) (h : zok (fX6_felt a0 a1 a2 a3 μ) Q) : zTi g yX6_felt cX6_felt 5 .int 5 [.ref (zad g a0), .int a1, .int a2, .int a3] μ Q := by
  refine zTi_of (P := fun r => True) zpi RX6 (by decide) rfl (Nat.le_of_ble_eq_true rfl) ?_
  intro κ X hret
  unfold fX6_felt at h
  refine zi_aload_n (pc' := 1) X dX6_felt_0 rfl rfl 0 rfl ?_
  refine zi_iload_n (pc' := 2) X dX6_felt_1 rfl rfl 1 rfl ?_
  refine zi_callVi (pc' := 5) X zl_X6_127 ha0 (by decide) [.int a1] rfl rfl (by decide) (Nat.le_of_ble_eq_true rfl) dX6_felt_2 rfl (tX6_isTent _ ha0 (zok_bd h (fun r1 m2 h => ?_)))
  refine zi_if_eq (pc' := 8) (tgt := 32) X dX6_felt_5 rfl rfl (fun c => ?_) (fun c => ?_)
  · replace h := zok_t h c
    refine zi_aload_n (pc' := 33) X dX6_felt_32 rfl rfl 0 rfl ?_
    refine zi_iconst (pc' := 34) (v := (0 : Int32)) X dX6_felt_33 rfl rfl ?_
    refine zi_callVi (pc' := 37) X zl_X6_93 ha0 (by decide) [.int (0 : Int32)] rfl rfl (by decide) (Nat.le_of_ble_eq_true rfl) dX6_felt_34 rfl (tX6_finds _ ha0 (zok_bd h (fun r3 m4 h => ?_)))
    exact hret _ _ _ _ dX6_felt_37 trivial h
  · replace h := zok_f h c
    refine zi_iload_n (pc' := 9) X dX6_felt_8 rfl rfl 2 rfl ?_
    refine zi_i2l (pc' := 10) X dX6_felt_9 rfl ?_
    refine zi_lconst (pc' := 11) (v := (0 : Int64)) X dX6_felt_10 rfl rfl ?_
    refine zi_ldc2 (pc' := 14) X dX6_felt_11 rfl zk_X6_113 ?_
    refine zi_callSi (pc' := 17) X zl_X6_48 [.long ((a2).toInt64), .long (0 : Int64), .long (3 : Int64)] rfl rfl (by decide) (Nat.le_of_ble_eq_true rfl) dX6_felt_14 rfl (tX6_in _ (zok_bd h (fun r5 m6 h => ?_)))
    refine zi_if_eq (pc' := 20) (tgt := 32) X dX6_felt_17 rfl rfl (fun c => ?_) (fun c => ?_)
    · replace h := zok_t h c
      refine zi_aload_n (pc' := 33) X dX6_felt_32 rfl rfl 0 rfl ?_
      refine zi_iconst (pc' := 34) (v := (0 : Int32)) X dX6_felt_33 rfl rfl ?_
      refine zi_callVi (pc' := 37) X zl_X6_93 ha0 (by decide) [.int (0 : Int32)] rfl rfl (by decide) (Nat.le_of_ble_eq_true rfl) dX6_felt_34 rfl (tX6_finds _ ha0 (zok_bd h (fun r7 m8 h => ?_)))
      exact hret _ _ _ _ dX6_felt_37 trivial h
    · replace h := zok_f h c
      refine zi_iload_n (pc' := 21) X dX6_felt_20 rfl rfl 3 rfl ?_
      refine zi_i2l (pc' := 22) X dX6_felt_21 rfl ?_
      refine zi_lconst (pc' := 23) (v := (0 : Int64)) X dX6_felt_22 rfl rfl ?_
      refine zi_ldc2 (pc' := 26) X dX6_felt_23 rfl zk_X6_189 ?_
      refine zi_callSi (pc' := 29) X zl_X6_48 [.long ((a3).toInt64), .long (0 : Int64), .long (100 : Int64)] rfl rfl (by decide) (Nat.le_of_ble_eq_true rfl) dX6_felt_26 rfl (tX6_in _ (zok_bd h (fun r9 m10 h => ?_)))
      refine zi_if_ne (pc' := 32) (tgt := 38) X dX6_felt_29 rfl rfl (fun c => ?_) (fun c => ?_)
      · replace h := zok_f h c
        refine zi_aload_n (pc' := 39) X dX6_felt_38 rfl rfl 0 rfl ?_
        refine zi_callVv (pc' := 42) X zl_X6_191 ha0 (by decide) [] rfl rfl (by decide) (Nat.le_of_ble_eq_true rfl) dX6_felt_39 rfl (tX6_lends _ ha0 (zok_bd h (fun _ m12 h => ?_)))
        refine zi_aload_n (pc' := 43) X dX6_felt_42 rfl rfl 0 rfl ?_
        refine zi_iload_n (pc' := 44) X dX6_felt_43 rfl rfl 3 rfl ?_
        refine zi_callVv (pc' := 47) X zl_X6_162 ha0 (by decide) [.int a3] rfl rfl (by decide) (Nat.le_of_ble_eq_true rfl) dX6_felt_44 rfl (tX6_days _ ha0 (zok_bd h (fun _ m14 h => ?_)))
        refine zi_aload_n (pc' := 48) X dX6_felt_47 rfl rfl 0 rfl ?_
        refine zi_iload_n (pc' := 49) X dX6_felt_48 rfl rfl 1 rfl ?_
        refine zi_iconst (pc' := 50) (v := (4 : Int32)) X dX6_felt_49 rfl rfl ?_
        refine zi_iload_n (pc' := 51) X dX6_felt_50 rfl rfl 2 rfl ?_
        refine zi_iadd (pc' := 52) X dX6_felt_51 rfl ?_
        refine zi_callVi (pc' := 55) X zl_X6_76 ha0 (by decide) [.int a1, .int ((4 : Int32) + a2)] rfl rfl (by decide) (Nat.le_of_ble_eq_true rfl) dX6_felt_52 rfl (tX6_its _ ha0 (zok_bd h (fun r15 m16 h => ?_)))
        refine zi_istore (pc' := 57) X dX6_felt_55 rfl (by decide) [(4, .int r15), (0, .ref (zad g a0)), (1, .int a1), (2, .int a2), (3, .int a3)] rfl ?_
        refine zi_aload_n (pc' := 58) X dX6_felt_57 rfl rfl 1 rfl ?_
        refine zi_callVv (pc' := 61) X zl_X6_194 ha0 (by decide) [] rfl rfl (by decide) (Nat.le_of_ble_eq_true rfl) dX6_felt_58 rfl (tX6_laysBack _ ha0 (zok_bd h (fun _ m18 h => ?_)))
        refine zi_iload (pc' := 63) X dX6_felt_61 rfl 0 rfl ?_
        exact hret _ _ _ _ dX6_felt_63 trivial h
      · replace h := zok_t h c
        refine zi_aload_n (pc' := 33) X dX6_felt_32 rfl rfl 0 rfl ?_
        refine zi_iconst (pc' := 34) (v := (0 : Int32)) X dX6_felt_33 rfl rfl ?_
        refine zi_callVi (pc' := 37) X zl_X6_93 ha0 (by decide) [.int (0 : Int32)] rfl rfl (by decide) (Nat.le_of_ble_eq_true rfl) dX6_felt_34 rfl (tX6_finds _ ha0 (zok_bd h (fun r19 m20 h => ?_)))
        exact hret _ _ _ _ dX6_felt_37 trivial h
def fX6_fits_60 (k23 : Nat → Int32 → Int32 → Int32 → Int32 → zMem → Option (Int32 × zMem)) (a0 : Nat) (a1 : Int32) (a2 : Int32) (a5 : Int32) (s0 : Int32) (s1 : Int32) (μ : zMem) : Option (Int32 × zMem) :=
  zbd (fX6_laysBack a0 μ) fun _ m10 =>
  k23 a0 a1 a2 (s1 ||| s0) (a5 + (1 : Int32)) m10
set_option maxRecDepth 100000 in
theorem lX6_fits_60 {g : zG} {κ : zK} (X : zC g κ RX6 cX6_fits 6 5) {Q : Int32 → zMem → Prop} (hret : ∀ pc lv r μ', decode cX6_fits pc = .ok (.ireturn, 1) → True → Q r μ' → zV g κ pc lv [.int r] μ') {k23 : Nat → Int32 → Int32 → Int32 → Int32 → zMem → Option (Int32 × zMem)} (hk23 : ∀ (a0 : Nat) (a1 : Int32) (a2 : Int32) (a4 : Int32) (a5 : Int32) (μ : zMem) (_ : zkd a0 = 6), zok (k23 a0 a1 a2 a4 a5 μ) Q → zV g κ 23 [(0, .ref (zad g a0)), (1, .int a1), (2, .int a2), (4, .int a4), (5, .int a5)] [] μ) : ∀ (a0 : Nat) (a1 : Int32) (a2 : Int32) (a5 : Int32) (s0 : Int32) (s1 : Int32) (μ : zMem) (ha0 : zkd a0 = 6), zok (fX6_fits_60 k23 a0 a1 a2 a5 s0 s1 μ) Q → zV g κ 60 [(0, .ref (zad g a0)), (1, .int a1), (2, .int a2), (5, .int a5)] [.int s0, .int s1] μ := by
  intro a0 a1 a2 a5 s0 s1 μ ha0 h
  unfold fX6_fits_60 at h
  refine zi_ior (pc' := 61) X dX6_fits_60 rfl ?_
  refine zi_istore (pc' := 63) X dX6_fits_61 rfl (by decide) [(4, .int (s1 ||| s0)), (0, .ref (zad g a0)), (1, .int a1), (2, .int a2), (5, .int a5)] rfl ?_
  refine zi_aload_n (pc' := 64) X dX6_fits_63 rfl rfl 1 rfl ?_
  refine zi_callVv (pc' := 67) X zl_X6_194 ha0 (by decide) [] rfl rfl (by decide) (Nat.le_of_ble_eq_true rfl) dX6_fits_64 rfl (tX6_laysBack _ ha0 (zok_bd h (fun _ m10 h => ?_)))
  refine zi_iinc (pc' := 70) (v := (a5 + (1 : Int32))) X dX6_fits_67 rfl 4 rfl rfl (by decide) [(5, .int (a5 + (1 : Int32))), (4, .int (s1 ||| s0)), (0, .ref (zad g a0)), (1, .int a1), (2, .int a2)] rfl ?_
  refine zi_goto (pc' := 23) X dX6_fits_70 rfl ?_
  exact zi_sub X [2, 3, 4, 1, 0] _ rfl (hk23 a0 a1 a2 (s1 ||| s0) (a5 + (1 : Int32)) (m10) ha0 h)
def fX6_fits_23 : Nat → Nat → Int32 → Int32 → Int32 → Int32 → zMem → Option (Int32 × zMem)
  | 0, _, _, _, _, _, _ => none
  | n + 1, a0, a1, a2, a4, a5, μ =>
    if (16 : Int32) ≤ a5 then
      some (a4, μ)
    else
      zbd (fX6_lends a0 μ) fun _ m4 =>
      zbd (fX6_alone a0 a2 a5 m4) fun _ m6 =>
      zbd (fX6_isSo a0 a1 a2 m6) fun r7 m8 =>
      if r7 = 0 then
        fX6_fits_60 (fX6_fits_23 n) a0 a1 a2 a5 (0 : Int32) a4 m8
      else
        fX6_fits_60 (fX6_fits_23 n) a0 a1 a2 a5 ((1 : Int32) <<< (a5 &&& 31)) a4 m8
set_option maxRecDepth 100000 in
theorem lX6_fits_23 {g : zG} {κ : zK} (X : zC g κ RX6 cX6_fits 6 5) {Q : Int32 → zMem → Prop} (hret : ∀ pc lv r μ', decode cX6_fits pc = .ok (.ireturn, 1) → True → Q r μ' → zV g κ pc lv [.int r] μ') : ∀ (n : Nat) (a0 : Nat) (a1 : Int32) (a2 : Int32) (a4 : Int32) (a5 : Int32) (μ : zMem) (ha0 : zkd a0 = 6), zok (fX6_fits_23 n a0 a1 a2 a4 a5 μ) Q → zV g κ 23 [(0, .ref (zad g a0)), (1, .int a1), (2, .int a2), (4, .int a4), (5, .int a5)] [] μ := by
  intro n
  induction n with
  | zero =>
    intro a0 a1 a2 a4 a5 μ ha0 h
    exact h.elim
  | succ n ih =>
    intro a0 a1 a2 a4 a5 μ ha0 h
    rw [fX6_fits_23] at h
    refine zi_iload (pc' := 25) X dX6_fits_23 rfl 4 rfl ?_
    refine zi_bipush (pc' := 27) (v := (16 : Int32)) X dX6_fits_25 rfl rfl ?_
    refine zi_icmp_ge (pc' := 30) (tgt := 73) X dX6_fits_27 rfl rfl (fun c => ?_) (fun c => ?_)
    · replace h := zok_t h c
      refine zi_iload (pc' := 75) X dX6_fits_73 rfl 3 rfl ?_
      exact hret _ _ _ _ dX6_fits_75 trivial h
    · replace h := zok_f h c
      refine zi_aload_n (pc' := 31) X dX6_fits_30 rfl rfl 0 rfl ?_
      refine zi_callVv (pc' := 34) X zl_X6_191 ha0 (by decide) [] rfl rfl (by decide) (Nat.le_of_ble_eq_true rfl) dX6_fits_31 rfl (tX6_lends _ ha0 (zok_bd h (fun _ m4 h => ?_)))
      refine zi_aload_n (pc' := 35) X dX6_fits_34 rfl rfl 0 rfl ?_
      refine zi_iload_n (pc' := 36) X dX6_fits_35 rfl rfl 2 rfl ?_
      refine zi_iload (pc' := 38) X dX6_fits_36 rfl 4 rfl ?_
      refine zi_callVv (pc' := 41) X zl_X6_216 ha0 (by decide) [.int a2, .int a5] rfl rfl (by decide) (Nat.le_of_ble_eq_true rfl) dX6_fits_38 rfl (tX6_alone _ ha0 (zok_bd h (fun _ m6 h => ?_)))
      refine zi_iload (pc' := 43) X dX6_fits_41 rfl 3 rfl ?_
      refine zi_aload_n (pc' := 44) X dX6_fits_43 rfl rfl 0 rfl ?_
      refine zi_iload_n (pc' := 45) X dX6_fits_44 rfl rfl 1 rfl ?_
      refine zi_iload_n (pc' := 46) X dX6_fits_45 rfl rfl 2 rfl ?_
      refine zi_callVi (pc' := 49) X zl_X6_231 ha0 (by decide) [.int a1, .int a2] rfl rfl (by decide) (Nat.le_of_ble_eq_true rfl) dX6_fits_46 rfl (tX6_isSo _ ha0 (zok_bd h (fun r7 m8 h => ?_)))
      refine zi_if_eq (pc' := 52) (tgt := 59) X dX6_fits_49 rfl rfl (fun c => ?_) (fun c => ?_)
      · replace h := zok_t h c
        refine zi_iconst (pc' := 60) (v := (0 : Int32)) X dX6_fits_59 rfl rfl ?_
        exact zi_sub X [0, 1, 2, 4] _ rfl (lX6_fits_60 X hret ih a0 a1 a2 a5 (0 : Int32) a4 (m8) ha0 h)
      · replace h := zok_f h c
        refine zi_iconst (pc' := 53) (v := (1 : Int32)) X dX6_fits_52 rfl rfl ?_
        refine zi_iload (pc' := 55) X dX6_fits_53 rfl 4 rfl ?_
        refine zi_ishl (pc' := 56) X dX6_fits_55 rfl ?_
        refine zi_goto (pc' := 60) X dX6_fits_56 rfl ?_
        exact zi_sub X [0, 1, 2, 4] _ rfl (lX6_fits_60 X hret ih a0 a1 a2 a5 ((1 : Int32) <<< (a5 &&& 31)) a4 (m8) ha0 h)
def fX6_fits (a0 : Nat) (a1 : Int32) (a2 : Int32) (μ : zMem) : Option (Int32 × zMem) :=
  zbd (fX6_lacksTent a0 a1 a2 μ) fun r1 m2 =>
  if r1 < 0 then
    fX6_fits_23 200 a0 a1 a2 (0 : Int32) (0 : Int32) m2
  else
    zbd (fX6_finds a0 r1 m2) fun r11 m12 =>
    some (r11, m12)
set_option maxRecDepth 100000 in
set_option maxHeartbeats 4000000 in
theorem tX6_fits (g : zG) {a0 : Nat} {a1 : Int32} {a2 : Int32} {μ : zMem} {Q : Int32 → zMem → Prop} (ha0 : zkd a0 = 6) (h : zok (fX6_fits a0 a1 a2 μ) Q) : zTi g yX6_fits cX6_fits 6 .int 5 [.ref (zad g a0), .int a1, .int a2] μ Q := by
  refine zTi_of (P := fun r => True) zpi RX6 (by decide) rfl (Nat.le_of_ble_eq_true rfl) ?_
  intro κ X hret
  unfold fX6_fits at h
  refine zi_aload_n (pc' := 1) X dX6_fits_0 rfl rfl 0 rfl ?_
  refine zi_iload_n (pc' := 2) X dX6_fits_1 rfl rfl 1 rfl ?_
  refine zi_iload_n (pc' := 3) X dX6_fits_2 rfl rfl 2 rfl ?_
  refine zi_callVi (pc' := 6) X zl_X6_228 ha0 (by decide) [.int a1, .int a2] rfl rfl (by decide) (Nat.le_of_ble_eq_true rfl) dX6_fits_3 rfl (tX6_lacksTent _ ha0 (zok_bd h (fun r1 m2 h => ?_)))
  refine zi_istore_n (pc' := 7) X dX6_fits_6 rfl rfl (by decide) [(3, .int r1), (0, .ref (zad g a0)), (1, .int a1), (2, .int a2)] rfl ?_
  refine zi_iload_n (pc' := 8) X dX6_fits_7 rfl rfl 0 rfl ?_
  refine zi_if_lt (pc' := 11) (tgt := 17) X dX6_fits_8 rfl rfl (fun c => ?_) (fun c => ?_)
  · replace h := zok_t h c
    refine zi_iconst (pc' := 18) (v := (0 : Int32)) X dX6_fits_17 rfl rfl ?_
    refine zi_istore (pc' := 20) X dX6_fits_18 rfl (by decide) [(4, .int (0 : Int32)), (3, .int r1), (0, .ref (zad g a0)), (1, .int a1), (2, .int a2)] rfl ?_
    refine zi_iconst (pc' := 21) (v := (0 : Int32)) X dX6_fits_20 rfl rfl ?_
    refine zi_istore (pc' := 23) X dX6_fits_21 rfl (by decide) [(5, .int (0 : Int32)), (4, .int (0 : Int32)), (3, .int r1), (0, .ref (zad g a0)), (1, .int a1), (2, .int a2)] rfl ?_
    exact zi_sub X [3, 4, 5, 1, 0] _ rfl (lX6_fits_23 X hret 200 a0 a1 a2 (0 : Int32) (0 : Int32) (m2) ha0 h)
  · replace h := zok_f h c
    refine zi_aload_n (pc' := 12) X dX6_fits_11 rfl rfl 1 rfl ?_
    refine zi_iload_n (pc' := 13) X dX6_fits_12 rfl rfl 0 rfl ?_
    refine zi_callVi (pc' := 16) X zl_X6_93 ha0 (by decide) [.int r1] rfl rfl (by decide) (Nat.le_of_ble_eq_true rfl) dX6_fits_13 rfl (tX6_finds _ ha0 (zok_bd h (fun r11 m12 h => ?_)))
    exact hret _ _ _ _ dX6_fits_16 trivial h
def fX6_go (a0 : Nat) (a1 : Int32) (μ : zMem) : Option (Int32 × zMem) :=
  zbd (fX6_in ((a1).toInt64) (1 : Int64) (60 : Int64) μ) fun r1 m2 =>
  if r1 = 0 then
    zbd (fX6_finds a0 (0 : Int32) m2) fun r11 m12 =>
    some (r11, m12)
  else
    zgd (zib (0 : Int32) 87) (
    if ((m2 (a0 + 1) ((0 : Int32)).toNatClampNeg) + a1) ≤ (99999 : Int32) then
      zbd (fX6_days a0 a1 m2) fun _ m6 =>
      zbd (fX6_heights a0 m6) fun r7 m8 =>
      some (r7, m8)
    else
      zbd (fX6_finds a0 (4 : Int32) m2) fun r9 m10 =>
      some (r9, m10))
set_option maxRecDepth 100000 in
set_option maxHeartbeats 4000000 in
theorem tX6_go (g : zG) {a0 : Nat} {a1 : Int32} {μ : zMem} {Q : Int32 → zMem → Prop} (ha0 : zkd a0 = 6) (h : zok (fX6_go a0 a1 μ) Q) : zTi g yX6_go cX6_go 2 .int 5 [.ref (zad g a0), .int a1] μ Q := by
  refine zTi_of (P := fun r => True) zpi RX6 (by decide) rfl (Nat.le_of_ble_eq_true rfl) ?_
  intro κ X hret
  unfold fX6_go at h
  refine zi_iload_n (pc' := 1) X dX6_go_0 rfl rfl 1 rfl ?_
  refine zi_i2l (pc' := 2) X dX6_go_1 rfl ?_
  refine zi_lconst (pc' := 3) (v := (1 : Int64)) X dX6_go_2 rfl rfl ?_
  refine zi_ldc2 (pc' := 6) X dX6_go_3 rfl zk_X6_159 ?_
  refine zi_callSi (pc' := 9) X zl_X6_48 [.long ((a1).toInt64), .long (1 : Int64), .long (60 : Int64)] rfl rfl (by decide) (Nat.le_of_ble_eq_true rfl) dX6_go_6 rfl (tX6_in _ (zok_bd h (fun r1 m2 h => ?_)))
  refine zi_if_ne (pc' := 12) (tgt := 18) X dX6_go_9 rfl rfl (fun c => ?_) (fun c => ?_)
  · replace h := zok_f h c
    refine zi_aload_n (pc' := 19) X dX6_go_18 rfl rfl 0 rfl ?_
    refine zi_getr (pc' := 22) X zf_X6_9 rfl (by decide) ha0 dX6_go_19 rfl ?_
    have f3 := zr_6_0 ha0
    refine zi_iconst (pc' := 23) (v := (0 : Int32)) X dX6_go_22 rfl rfl ?_
    obtain ⟨g4, h⟩ := zok_g h
    refine zi_iald (pc' := 24) X f3.1 (by rw [f3.2]; exact g4) dX6_go_23 rfl ?_
    refine zi_iload_n (pc' := 25) X dX6_go_24 rfl rfl 1 rfl ?_
    refine zi_iadd (pc' := 26) X dX6_go_25 rfl ?_
    refine zi_ldc (pc' := 28) X dX6_go_26 rfl zk_X6_161 ?_
    refine zi_icmp_le (pc' := 31) (tgt := 37) X dX6_go_28 rfl rfl (fun c => ?_) (fun c => ?_)
    · replace h := zok_t h c
      refine zi_aload_n (pc' := 38) X dX6_go_37 rfl rfl 0 rfl ?_
      refine zi_iload_n (pc' := 39) X dX6_go_38 rfl rfl 1 rfl ?_
      refine zi_callVv (pc' := 42) X zl_X6_162 ha0 (by decide) [.int a1] rfl rfl (by decide) (Nat.le_of_ble_eq_true rfl) dX6_go_39 rfl (tX6_days _ ha0 (zok_bd h (fun _ m6 h => ?_)))
      refine zi_aload_n (pc' := 43) X dX6_go_42 rfl rfl 0 rfl ?_
      refine zi_callVi (pc' := 46) X zl_X6_166 ha0 (by decide) [] rfl rfl (by decide) (Nat.le_of_ble_eq_true rfl) dX6_go_43 rfl (tX6_heights _ ha0 (zok_bd h (fun r7 m8 h => ?_)))
      exact hret _ _ _ _ dX6_go_46 trivial h
    · replace h := zok_f h c
      refine zi_aload_n (pc' := 32) X dX6_go_31 rfl rfl 0 rfl ?_
      refine zi_iconst (pc' := 33) (v := (4 : Int32)) X dX6_go_32 rfl rfl ?_
      refine zi_callVi (pc' := 36) X zl_X6_93 ha0 (by decide) [.int (4 : Int32)] rfl rfl (by decide) (Nat.le_of_ble_eq_true rfl) dX6_go_33 rfl (tX6_finds _ ha0 (zok_bd h (fun r9 m10 h => ?_)))
      exact hret _ _ _ _ dX6_go_36 trivial h
  · replace h := zok_t h c
    refine zi_aload_n (pc' := 13) X dX6_go_12 rfl rfl 0 rfl ?_
    refine zi_iconst (pc' := 14) (v := (0 : Int32)) X dX6_go_13 rfl rfl ?_
    refine zi_callVi (pc' := 17) X zl_X6_93 ha0 (by decide) [.int (0 : Int32)] rfl rfl (by decide) (Nat.le_of_ble_eq_true rfl) dX6_go_14 rfl (tX6_finds _ ha0 (zok_bd h (fun r11 m12 h => ?_)))
    exact hret _ _ _ _ dX6_go_17 trivial h
def fX6_heightsBy (a0 : Nat) (a1 : Int32) (a2 : Int32) (a3 : Int32) (μ : zMem) : Option (Int32 × zMem) :=
  zbd (fX6_lends a0 μ) fun _ m2 =>
  zbd (fX6_alone a0 a1 a3 m2) fun _ m4 =>
  zbd (fX6_alone a0 a2 a3 m4) fun _ m6 =>
  zbd (fX6_heights a0 m6) fun r7 m8 =>
  zbd (fX6_laysBack a0 m8) fun _ m10 =>
  some (r7, m10)
set_option maxRecDepth 100000 in
set_option maxHeartbeats 4000000 in
theorem tX6_heightsBy (g : zG) {a0 : Nat} {a1 : Int32} {a2 : Int32} {a3 : Int32} {μ : zMem} {Q : Int32 → zMem → Prop} (ha0 : zkd a0 = 6) (h : zok (fX6_heightsBy a0 a1 a2 a3 μ) Q) : zTi g yX6_heightsBy cX6_heightsBy 5 .int 5 [.ref (zad g a0), .int a1, .int a2, .int a3] μ Q := by
  refine zTi_of (P := fun r => True) zpi RX6 (by decide) rfl (Nat.le_of_ble_eq_true rfl) ?_
  intro κ X hret
  unfold fX6_heightsBy at h
  refine zi_aload_n (pc' := 1) X dX6_heightsBy_0 rfl rfl 0 rfl ?_
  refine zi_callVv (pc' := 4) X zl_X6_191 ha0 (by decide) [] rfl rfl (by decide) (Nat.le_of_ble_eq_true rfl) dX6_heightsBy_1 rfl (tX6_lends _ ha0 (zok_bd h (fun _ m2 h => ?_)))
  refine zi_aload_n (pc' := 5) X dX6_heightsBy_4 rfl rfl 0 rfl ?_
  refine zi_iload_n (pc' := 6) X dX6_heightsBy_5 rfl rfl 1 rfl ?_
  refine zi_iload_n (pc' := 7) X dX6_heightsBy_6 rfl rfl 3 rfl ?_
  refine zi_callVv (pc' := 10) X zl_X6_216 ha0 (by decide) [.int a1, .int a3] rfl rfl (by decide) (Nat.le_of_ble_eq_true rfl) dX6_heightsBy_7 rfl (tX6_alone _ ha0 (zok_bd h (fun _ m4 h => ?_)))
  refine zi_aload_n (pc' := 11) X dX6_heightsBy_10 rfl rfl 0 rfl ?_
  refine zi_iload_n (pc' := 12) X dX6_heightsBy_11 rfl rfl 2 rfl ?_
  refine zi_iload_n (pc' := 13) X dX6_heightsBy_12 rfl rfl 3 rfl ?_
  refine zi_callVv (pc' := 16) X zl_X6_216 ha0 (by decide) [.int a2, .int a3] rfl rfl (by decide) (Nat.le_of_ble_eq_true rfl) dX6_heightsBy_13 rfl (tX6_alone _ ha0 (zok_bd h (fun _ m6 h => ?_)))
  refine zi_aload_n (pc' := 17) X dX6_heightsBy_16 rfl rfl 0 rfl ?_
  refine zi_callVi (pc' := 20) X zl_X6_166 ha0 (by decide) [] rfl rfl (by decide) (Nat.le_of_ble_eq_true rfl) dX6_heightsBy_17 rfl (tX6_heights _ ha0 (zok_bd h (fun r7 m8 h => ?_)))
  refine zi_istore (pc' := 22) X dX6_heightsBy_20 rfl (by decide) [(4, .int r7), (0, .ref (zad g a0)), (1, .int a1), (2, .int a2), (3, .int a3)] rfl ?_
  refine zi_aload_n (pc' := 23) X dX6_heightsBy_22 rfl rfl 1 rfl ?_
  refine zi_callVv (pc' := 26) X zl_X6_194 ha0 (by decide) [] rfl rfl (by decide) (Nat.le_of_ble_eq_true rfl) dX6_heightsBy_23 rfl (tX6_laysBack _ ha0 (zok_bd h (fun _ m10 h => ?_)))
  refine zi_iload (pc' := 28) X dX6_heightsBy_26 rfl 0 rfl ?_
  exact hret _ _ _ _ dX6_heightsBy_28 trivial h
def fX6_kindFor_82 (k35 : Nat → Int32 → Int32 → Int32 → Int32 → Int32 → zMem → Option (Int32 × zMem)) (a0 : Nat) (a1 : Int32) (a2 : Int32) (a4 : Int32) (a5 : Int32) (a6 : Int32) (s0 : Int32) (μ : zMem) : Option (Int32 × zMem) :=
  k35 a0 a1 a2 s0 (if a6 < a4 then a6 else a4) (a5 + (1 : Int32)) μ
set_option maxRecDepth 100000 in
theorem lX6_kindFor_82 {g : zG} {κ : zK} (X : zC g κ RX6 cX6_kindFor 7 5) {Q : Int32 → zMem → Prop} (hret : ∀ pc lv r μ', decode cX6_kindFor pc = .ok (.ireturn, 1) → True → Q r μ' → zV g κ pc lv [.int r] μ') {k35 : Nat → Int32 → Int32 → Int32 → Int32 → Int32 → zMem → Option (Int32 × zMem)} (hk35 : ∀ (a0 : Nat) (a1 : Int32) (a2 : Int32) (a3 : Int32) (a4 : Int32) (a5 : Int32) (μ : zMem) (_ : zkd a0 = 6), zok (k35 a0 a1 a2 a3 a4 a5 μ) Q → zV g κ 35 [(0, .ref (zad g a0)), (1, .int a1), (2, .int a2), (3, .int a3), (4, .int a4), (5, .int a5)] [] μ) : ∀ (a0 : Nat) (a1 : Int32) (a2 : Int32) (a4 : Int32) (a5 : Int32) (a6 : Int32) (s0 : Int32) (μ : zMem) (ha0 : zkd a0 = 6), zok (fX6_kindFor_82 k35 a0 a1 a2 a4 a5 a6 s0 μ) Q → zV g κ 82 [(0, .ref (zad g a0)), (1, .int a1), (2, .int a2), (4, .int a4), (5, .int a5), (6, .int a6)] [.int s0] μ := by
  intro a0 a1 a2 a4 a5 a6 s0 μ ha0 h
  unfold fX6_kindFor_82 at h
  refine zi_istore_n (pc' := 83) X dX6_kindFor_82 rfl rfl (by decide) [(3, .int s0), (0, .ref (zad g a0)), (1, .int a1), (2, .int a2), (4, .int a4), (5, .int a5), (6, .int a6)] rfl ?_
  refine zi_iload (pc' := 85) X dX6_kindFor_83 rfl 4 rfl ?_
  refine zi_iload (pc' := 87) X dX6_kindFor_85 rfl 6 rfl ?_
  refine zi_mmin (pc' := 90) X zl_X6_58 (Nat.le_of_ble_eq_true rfl) (by decide) dX6_kindFor_87 rfl ?_
  refine zi_istore (pc' := 92) X dX6_kindFor_90 rfl (by decide) [(4, .int (if a6 < a4 then a6 else a4)), (3, .int s0), (0, .ref (zad g a0)), (1, .int a1), (2, .int a2), (5, .int a5), (6, .int a6)] rfl ?_
  refine zi_iinc (pc' := 95) (v := (a5 + (1 : Int32))) X dX6_kindFor_92 rfl 5 rfl rfl (by decide) [(5, .int (a5 + (1 : Int32))), (4, .int (if a6 < a4 then a6 else a4)), (3, .int s0), (0, .ref (zad g a0)), (1, .int a1), (2, .int a2), (6, .int a6)] rfl ?_
  refine zi_goto (pc' := 35) X dX6_kindFor_95 rfl ?_
  exact zi_sub X [3, 4, 5, 2, 1, 0] _ rfl (hk35 a0 a1 a2 s0 (if a6 < a4 then a6 else a4) (a5 + (1 : Int32)) (μ) ha0 h)
def fX6_kindFor_35 : Nat → Nat → Int32 → Int32 → Int32 → Int32 → Int32 → zMem → Option (Int32 × zMem)
  | 0, _, _, _, _, _, _, _ => none
  | n + 1, a0, a1, a2, a3, a4, a5, μ =>
    if (6 : Int32) < a5 then
      some (a3, μ)
    else
      zbd (fX6_lends a0 μ) fun _ m8 =>
      zbd (fX6_sets a0 a1 (0 : Int32) a5 m8) fun _ m10 =>
      zbd (fX6_days a0 a2 m10) fun _ m12 =>
      zbd (fX6_span a0 m12) fun r13 m14 =>
      zbd (fX6_laysBack a0 m14) fun _ m16 =>
      if a4 ≤ r13 then
        fX6_kindFor_82 (fX6_kindFor_35 n) a0 a1 a2 a4 a5 r13 a3 m16
      else
        fX6_kindFor_82 (fX6_kindFor_35 n) a0 a1 a2 a4 a5 r13 a5 m16
set_option maxRecDepth 100000 in
theorem lX6_kindFor_35 {g : zG} {κ : zK} (X : zC g κ RX6 cX6_kindFor 7 5) {Q : Int32 → zMem → Prop} (hret : ∀ pc lv r μ', decode cX6_kindFor pc = .ok (.ireturn, 1) → True → Q r μ' → zV g κ pc lv [.int r] μ') : ∀ (n : Nat) (a0 : Nat) (a1 : Int32) (a2 : Int32) (a3 : Int32) (a4 : Int32) (a5 : Int32) (μ : zMem) (ha0 : zkd a0 = 6), zok (fX6_kindFor_35 n a0 a1 a2 a3 a4 a5 μ) Q → zV g κ 35 [(0, .ref (zad g a0)), (1, .int a1), (2, .int a2), (3, .int a3), (4, .int a4), (5, .int a5)] [] μ := by
  intro n
  induction n with
  | zero =>
    intro a0 a1 a2 a3 a4 a5 μ ha0 h
    exact h.elim
  | succ n ih =>
    intro a0 a1 a2 a3 a4 a5 μ ha0 h
    rw [fX6_kindFor_35] at h
    refine zi_iload (pc' := 37) X dX6_kindFor_35 rfl 5 rfl ?_
    refine zi_bipush (pc' := 39) (v := (6 : Int32)) X dX6_kindFor_37 rfl rfl ?_
    refine zi_icmp_gt (pc' := 42) (tgt := 98) X dX6_kindFor_39 rfl rfl (fun c => ?_) (fun c => ?_)
    · replace h := zok_t h c
      refine zi_iload_n (pc' := 99) X dX6_kindFor_98 rfl rfl 3 rfl ?_
      exact hret _ _ _ _ dX6_kindFor_99 trivial h
    · replace h := zok_f h c
      refine zi_aload_n (pc' := 43) X dX6_kindFor_42 rfl rfl 0 rfl ?_
      refine zi_callVv (pc' := 46) X zl_X6_191 ha0 (by decide) [] rfl rfl (by decide) (Nat.le_of_ble_eq_true rfl) dX6_kindFor_43 rfl (tX6_lends _ ha0 (zok_bd h (fun _ m8 h => ?_)))
      refine zi_aload_n (pc' := 47) X dX6_kindFor_46 rfl rfl 0 rfl ?_
      refine zi_iload_n (pc' := 48) X dX6_kindFor_47 rfl rfl 1 rfl ?_
      refine zi_iconst (pc' := 49) (v := (0 : Int32)) X dX6_kindFor_48 rfl rfl ?_
      refine zi_iload (pc' := 51) X dX6_kindFor_49 rfl 5 rfl ?_
      refine zi_callVv (pc' := 54) X zl_X6_79 ha0 (by decide) [.int a1, .int (0 : Int32), .int a5] rfl rfl (by decide) (Nat.le_of_ble_eq_true rfl) dX6_kindFor_51 rfl (tX6_sets _ ha0 (zok_bd h (fun _ m10 h => ?_)))
      refine zi_aload_n (pc' := 55) X dX6_kindFor_54 rfl rfl 0 rfl ?_
      refine zi_iload_n (pc' := 56) X dX6_kindFor_55 rfl rfl 2 rfl ?_
      refine zi_callVv (pc' := 59) X zl_X6_162 ha0 (by decide) [.int a2] rfl rfl (by decide) (Nat.le_of_ble_eq_true rfl) dX6_kindFor_56 rfl (tX6_days _ ha0 (zok_bd h (fun _ m12 h => ?_)))
      refine zi_aload_n (pc' := 60) X dX6_kindFor_59 rfl rfl 0 rfl ?_
      refine zi_callVi (pc' := 63) X zl_X6_176 ha0 (by decide) [] rfl rfl (by decide) (Nat.le_of_ble_eq_true rfl) dX6_kindFor_60 rfl (tX6_span _ ha0 (zok_bd h (fun r13 m14 h => ?_)))
      refine zi_istore (pc' := 65) X dX6_kindFor_63 rfl (by decide) [(6, .int r13), (0, .ref (zad g a0)), (1, .int a1), (2, .int a2), (3, .int a3), (4, .int a4), (5, .int a5)] rfl ?_
      refine zi_aload_n (pc' := 66) X dX6_kindFor_65 rfl rfl 1 rfl ?_
      refine zi_callVv (pc' := 69) X zl_X6_194 ha0 (by decide) [] rfl rfl (by decide) (Nat.le_of_ble_eq_true rfl) dX6_kindFor_66 rfl (tX6_laysBack _ ha0 (zok_bd h (fun _ m16 h => ?_)))
      refine zi_iload (pc' := 71) X dX6_kindFor_69 rfl 0 rfl ?_
      refine zi_iload (pc' := 73) X dX6_kindFor_71 rfl 5 rfl ?_
      refine zi_icmp_ge (pc' := 76) (tgt := 81) X dX6_kindFor_73 rfl rfl (fun c => ?_) (fun c => ?_)
      · replace h := zok_t h c
        refine zi_iload_n (pc' := 82) X dX6_kindFor_81 rfl rfl 4 rfl ?_
        exact zi_sub X [1, 2, 3, 5, 6, 0] _ rfl (lX6_kindFor_82 X hret ih a0 a1 a2 a4 a5 r13 a3 (m16) ha0 h)
      · replace h := zok_f h c
        refine zi_iload (pc' := 78) X dX6_kindFor_76 rfl 6 rfl ?_
        refine zi_goto (pc' := 82) X dX6_kindFor_78 rfl ?_
        exact zi_sub X [1, 2, 3, 5, 6, 0] _ rfl (lX6_kindFor_82 X hret ih a0 a1 a2 a4 a5 r13 a5 (m16) ha0 h)
def fX6_kindFor (a0 : Nat) (a1 : Int32) (a2 : Int32) (μ : zMem) : Option (Int32 × zMem) :=
  zbd (fX6_isTent a0 a1 μ) fun r1 m2 =>
  if r1 = 0 then
    zbd (fX6_finds a0 (0 : Int32) m2) fun r3 m4 =>
    some (r3, m4)
  else
    zbd (fX6_in ((a2).toInt64) (0 : Int64) (60 : Int64) m2) fun r5 m6 =>
    if r5 = 0 then
      zbd (fX6_finds a0 (0 : Int32) m6) fun r17 m18 =>
      some (r17, m18)
    else
      fX6_kindFor_35 200 a0 a1 a2 (-1 : Int32) (100 : Int32) (0 : Int32) m6
set_option maxRecDepth 100000 in
set_option maxHeartbeats 4000000 in
theorem tX6_kindFor (g : zG) {a0 : Nat} {a1 : Int32} {a2 : Int32} {μ : zMem} {Q : Int32 → zMem → Prop} (ha0 : zkd a0 = 6) (h : zok (fX6_kindFor a0 a1 a2 μ) Q) : zTi g yX6_kindFor cX6_kindFor 7 .int 5 [.ref (zad g a0), .int a1, .int a2] μ Q := by
  refine zTi_of (P := fun r => True) zpi RX6 (by decide) rfl (Nat.le_of_ble_eq_true rfl) ?_
  intro κ X hret
  unfold fX6_kindFor at h
  refine zi_aload_n (pc' := 1) X dX6_kindFor_0 rfl rfl 0 rfl ?_
  refine zi_iload_n (pc' := 2) X dX6_kindFor_1 rfl rfl 1 rfl ?_
  refine zi_callVi (pc' := 5) X zl_X6_127 ha0 (by decide) [.int a1] rfl rfl (by decide) (Nat.le_of_ble_eq_true rfl) dX6_kindFor_2 rfl (tX6_isTent _ ha0 (zok_bd h (fun r1 m2 h => ?_)))
  refine zi_if_eq (pc' := 8) (tgt := 20) X dX6_kindFor_5 rfl rfl (fun c => ?_) (fun c => ?_)
  · replace h := zok_t h c
    refine zi_aload_n (pc' := 21) X dX6_kindFor_20 rfl rfl 0 rfl ?_
    refine zi_iconst (pc' := 22) (v := (0 : Int32)) X dX6_kindFor_21 rfl rfl ?_
    refine zi_callVi (pc' := 25) X zl_X6_93 ha0 (by decide) [.int (0 : Int32)] rfl rfl (by decide) (Nat.le_of_ble_eq_true rfl) dX6_kindFor_22 rfl (tX6_finds _ ha0 (zok_bd h (fun r3 m4 h => ?_)))
    exact hret _ _ _ _ dX6_kindFor_25 trivial h
  · replace h := zok_f h c
    refine zi_iload_n (pc' := 9) X dX6_kindFor_8 rfl rfl 2 rfl ?_
    refine zi_i2l (pc' := 10) X dX6_kindFor_9 rfl ?_
    refine zi_lconst (pc' := 11) (v := (0 : Int64)) X dX6_kindFor_10 rfl rfl ?_
    refine zi_ldc2 (pc' := 14) X dX6_kindFor_11 rfl zk_X6_159 ?_
    refine zi_callSi (pc' := 17) X zl_X6_48 [.long ((a2).toInt64), .long (0 : Int64), .long (60 : Int64)] rfl rfl (by decide) (Nat.le_of_ble_eq_true rfl) dX6_kindFor_14 rfl (tX6_in _ (zok_bd h (fun r5 m6 h => ?_)))
    refine zi_if_ne (pc' := 20) (tgt := 26) X dX6_kindFor_17 rfl rfl (fun c => ?_) (fun c => ?_)
    · replace h := zok_f h c
      refine zi_iconst (pc' := 27) (v := (-1 : Int32)) X dX6_kindFor_26 rfl rfl ?_
      refine zi_istore_n (pc' := 28) X dX6_kindFor_27 rfl rfl (by decide) [(3, .int (-1 : Int32)), (0, .ref (zad g a0)), (1, .int a1), (2, .int a2)] rfl ?_
      refine zi_bipush (pc' := 30) (v := (100 : Int32)) X dX6_kindFor_28 rfl rfl ?_
      refine zi_istore (pc' := 32) X dX6_kindFor_30 rfl (by decide) [(4, .int (100 : Int32)), (3, .int (-1 : Int32)), (0, .ref (zad g a0)), (1, .int a1), (2, .int a2)] rfl ?_
      refine zi_iconst (pc' := 33) (v := (0 : Int32)) X dX6_kindFor_32 rfl rfl ?_
      refine zi_istore (pc' := 35) X dX6_kindFor_33 rfl (by decide) [(5, .int (0 : Int32)), (4, .int (100 : Int32)), (3, .int (-1 : Int32)), (0, .ref (zad g a0)), (1, .int a1), (2, .int a2)] rfl ?_
      exact zi_sub X [3, 4, 5, 2, 1, 0] _ rfl (lX6_kindFor_35 X hret 200 a0 a1 a2 (-1 : Int32) (100 : Int32) (0 : Int32) (m6) ha0 h)
    · replace h := zok_t h c
      refine zi_aload_n (pc' := 21) X dX6_kindFor_20 rfl rfl 0 rfl ?_
      refine zi_iconst (pc' := 22) (v := (0 : Int32)) X dX6_kindFor_21 rfl rfl ?_
      refine zi_callVi (pc' := 25) X zl_X6_93 ha0 (by decide) [.int (0 : Int32)] rfl rfl (by decide) (Nat.le_of_ble_eq_true rfl) dX6_kindFor_22 rfl (tX6_finds _ ha0 (zok_bd h (fun r17 m18 h => ?_)))
      exact hret _ _ _ _ dX6_kindFor_25 trivial h
def fX6_kindHere_87 (a0 : Nat) (a1 : Int32) (s0 : Int32) (μ : zMem) : Option (Int32 × zMem) :=
  if a1 < 0 then
    if s0 < 0 then
      zbd (fX6_isWord a0 19 μ) fun r13 m14 =>
      if r13 = 0 then
        some ((-1 : Int32), m14)
      else
        some ((6 : Int32), m14)
    else
      some (s0, μ)
  else
    some (a1, μ)
set_option maxRecDepth 100000 in
theorem lX6_kindHere_87 {g : zG} {κ : zK} (X : zC g κ RX6 cX6_kindHere 3 5) {Q : Int32 → zMem → Prop} (hret : ∀ pc lv r μ', decode cX6_kindHere pc = .ok (.ireturn, 1) → True → Q r μ' → zV g κ pc lv [.int r] μ') : ∀ (a0 : Nat) (a1 : Int32) (s0 : Int32) (μ : zMem) (ha0 : zkd a0 = 6), zok (fX6_kindHere_87 a0 a1 s0 μ) Q → zV g κ 87 [(0, .ref (zad g a0)), (1, .int a1)] [.int s0] μ := by
  intro a0 a1 s0 μ ha0 h
  unfold fX6_kindHere_87 at h
  refine zi_istore_n (pc' := 88) X dX6_kindHere_87 rfl rfl (by decide) [(2, .int s0), (0, .ref (zad g a0)), (1, .int a1)] rfl ?_
  refine zi_iload_n (pc' := 89) X dX6_kindHere_88 rfl rfl 2 rfl ?_
  refine zi_if_lt (pc' := 92) (tgt := 96) X dX6_kindHere_89 rfl rfl (fun c => ?_) (fun c => ?_)
  · replace h := zok_t h c
    refine zi_iload_n (pc' := 97) X dX6_kindHere_96 rfl rfl 0 rfl ?_
    refine zi_if_lt (pc' := 100) (tgt := 104) X dX6_kindHere_97 rfl rfl (fun c => ?_) (fun c => ?_)
    · replace h := zok_t h c
      refine zi_aload_n (pc' := 105) X dX6_kindHere_104 rfl rfl 1 rfl ?_
      refine zi_ldcSw (pc' := 108) X 19 (by decide) rfl rfl dX6_kindHere_105 rfl ?_
      refine zi_callVi (pc' := 111) X zl_X6_274 ha0 (by decide) [.ref (zak g 19)] rfl rfl (by decide) (Nat.le_of_ble_eq_true rfl) dX6_kindHere_108 rfl (tX6_isWord _ ha0 (zok_bd h (fun r13 m14 h => ?_)))
      refine zi_if_eq (pc' := 114) (tgt := 119) X dX6_kindHere_111 rfl rfl (fun c => ?_) (fun c => ?_)
      · replace h := zok_t h c
        refine zi_iconst (pc' := 120) (v := (-1 : Int32)) X dX6_kindHere_119 rfl rfl ?_
        exact hret _ _ _ _ dX6_kindHere_120 trivial h
      · replace h := zok_f h c
        refine zi_bipush (pc' := 116) (v := (6 : Int32)) X dX6_kindHere_114 rfl rfl ?_
        refine zi_goto (pc' := 120) X dX6_kindHere_116 rfl ?_
        exact hret _ _ _ _ dX6_kindHere_120 trivial h
    · replace h := zok_f h c
      refine zi_iload_n (pc' := 101) X dX6_kindHere_100 rfl rfl 0 rfl ?_
      refine zi_goto (pc' := 120) X dX6_kindHere_101 rfl ?_
      exact hret _ _ _ _ dX6_kindHere_120 trivial h
  · replace h := zok_f h c
    refine zi_iload_n (pc' := 93) X dX6_kindHere_92 rfl rfl 2 rfl ?_
    refine zi_goto (pc' := 120) X dX6_kindHere_93 rfl ?_
    exact hret _ _ _ _ dX6_kindHere_120 trivial h
def fX6_kindHere_43 (a0 : Nat) (s0 : Int32) (μ : zMem) : Option (Int32 × zMem) :=
  zbd (fX6_isWord a0 16 μ) fun r7 m8 =>
  if r7 = 0 then
    zbd (fX6_isWord a0 17 m8) fun r9 m10 =>
    if r9 = 0 then
      zbd (fX6_isWord a0 18 m10) fun r11 m12 =>
      if r11 = 0 then
        fX6_kindHere_87 a0 s0 (-1 : Int32) m12
      else
        fX6_kindHere_87 a0 s0 (5 : Int32) m12
    else
      fX6_kindHere_87 a0 s0 (4 : Int32) m10
  else
    fX6_kindHere_87 a0 s0 (3 : Int32) m8
set_option maxRecDepth 100000 in
theorem lX6_kindHere_43 {g : zG} {κ : zK} (X : zC g κ RX6 cX6_kindHere 3 5) {Q : Int32 → zMem → Prop} (hret : ∀ pc lv r μ', decode cX6_kindHere pc = .ok (.ireturn, 1) → True → Q r μ' → zV g κ pc lv [.int r] μ') : ∀ (a0 : Nat) (s0 : Int32) (μ : zMem) (ha0 : zkd a0 = 6), zok (fX6_kindHere_43 a0 s0 μ) Q → zV g κ 43 [(0, .ref (zad g a0))] [.int s0] μ := by
  intro a0 s0 μ ha0 h
  unfold fX6_kindHere_43 at h
  refine zi_istore_n (pc' := 44) X dX6_kindHere_43 rfl rfl (by decide) [(1, .int s0), (0, .ref (zad g a0))] rfl ?_
  refine zi_aload_n (pc' := 45) X dX6_kindHere_44 rfl rfl 1 rfl ?_
  refine zi_ldcSw (pc' := 48) X 16 (by decide) rfl rfl dX6_kindHere_45 rfl ?_
  refine zi_callVi (pc' := 51) X zl_X6_274 ha0 (by decide) [.ref (zak g 16)] rfl rfl (by decide) (Nat.le_of_ble_eq_true rfl) dX6_kindHere_48 rfl (tX6_isWord _ ha0 (zok_bd h (fun r7 m8 h => ?_)))
  refine zi_if_eq (pc' := 54) (tgt := 58) X dX6_kindHere_51 rfl rfl (fun c => ?_) (fun c => ?_)
  · replace h := zok_t h c
    refine zi_aload_n (pc' := 59) X dX6_kindHere_58 rfl rfl 1 rfl ?_
    refine zi_ldcSw (pc' := 62) X 17 (by decide) rfl rfl dX6_kindHere_59 rfl ?_
    refine zi_callVi (pc' := 65) X zl_X6_274 ha0 (by decide) [.ref (zak g 17)] rfl rfl (by decide) (Nat.le_of_ble_eq_true rfl) dX6_kindHere_62 rfl (tX6_isWord _ ha0 (zok_bd h (fun r9 m10 h => ?_)))
    refine zi_if_eq (pc' := 68) (tgt := 72) X dX6_kindHere_65 rfl rfl (fun c => ?_) (fun c => ?_)
    · replace h := zok_t h c
      refine zi_aload_n (pc' := 73) X dX6_kindHere_72 rfl rfl 1 rfl ?_
      refine zi_ldcSw (pc' := 76) X 18 (by decide) rfl rfl dX6_kindHere_73 rfl ?_
      refine zi_callVi (pc' := 79) X zl_X6_274 ha0 (by decide) [.ref (zak g 18)] rfl rfl (by decide) (Nat.le_of_ble_eq_true rfl) dX6_kindHere_76 rfl (tX6_isWord _ ha0 (zok_bd h (fun r11 m12 h => ?_)))
      refine zi_if_eq (pc' := 82) (tgt := 86) X dX6_kindHere_79 rfl rfl (fun c => ?_) (fun c => ?_)
      · replace h := zok_t h c
        refine zi_iconst (pc' := 87) (v := (-1 : Int32)) X dX6_kindHere_86 rfl rfl ?_
        exact zi_sub X [1, 0] _ rfl (lX6_kindHere_87 X hret a0 s0 (-1 : Int32) (m12) ha0 h)
      · replace h := zok_f h c
        refine zi_iconst (pc' := 83) (v := (5 : Int32)) X dX6_kindHere_82 rfl rfl ?_
        refine zi_goto (pc' := 87) X dX6_kindHere_83 rfl ?_
        exact zi_sub X [1, 0] _ rfl (lX6_kindHere_87 X hret a0 s0 (5 : Int32) (m12) ha0 h)
    · replace h := zok_f h c
      refine zi_iconst (pc' := 69) (v := (4 : Int32)) X dX6_kindHere_68 rfl rfl ?_
      refine zi_goto (pc' := 87) X dX6_kindHere_69 rfl ?_
      exact zi_sub X [1, 0] _ rfl (lX6_kindHere_87 X hret a0 s0 (4 : Int32) (m10) ha0 h)
  · replace h := zok_f h c
    refine zi_iconst (pc' := 55) (v := (3 : Int32)) X dX6_kindHere_54 rfl rfl ?_
    refine zi_goto (pc' := 87) X dX6_kindHere_55 rfl ?_
    exact zi_sub X [1, 0] _ rfl (lX6_kindHere_87 X hret a0 s0 (3 : Int32) (m8) ha0 h)
def fX6_kindHere (a0 : Nat) (μ : zMem) : Option (Int32 × zMem) :=
  zbd (fX6_isWord a0 13 μ) fun r1 m2 =>
  if r1 = 0 then
    zbd (fX6_isWord a0 14 m2) fun r3 m4 =>
    if r3 = 0 then
      zbd (fX6_isWord a0 15 m4) fun r5 m6 =>
      if r5 = 0 then
        fX6_kindHere_43 a0 (-1 : Int32) m6
      else
        fX6_kindHere_43 a0 (2 : Int32) m6
    else
      fX6_kindHere_43 a0 (1 : Int32) m4
  else
    fX6_kindHere_43 a0 (0 : Int32) m2
set_option maxRecDepth 100000 in
set_option maxHeartbeats 4000000 in
theorem tX6_kindHere (g : zG) {a0 : Nat} {μ : zMem} {Q : Int32 → zMem → Prop} (ha0 : zkd a0 = 6) (h : zok (fX6_kindHere a0 μ) Q) : zTi g yX6_kindHere cX6_kindHere 3 .int 5 [.ref (zad g a0)] μ Q := by
  refine zTi_of (P := fun r => True) zpi RX6 (by decide) rfl (Nat.le_of_ble_eq_true rfl) ?_
  intro κ X hret
  unfold fX6_kindHere at h
  refine zi_aload_n (pc' := 1) X dX6_kindHere_0 rfl rfl 0 rfl ?_
  refine zi_ldcSw (pc' := 4) X 13 (by decide) rfl rfl dX6_kindHere_1 rfl ?_
  refine zi_callVi (pc' := 7) X zl_X6_274 ha0 (by decide) [.ref (zak g 13)] rfl rfl (by decide) (Nat.le_of_ble_eq_true rfl) dX6_kindHere_4 rfl (tX6_isWord _ ha0 (zok_bd h (fun r1 m2 h => ?_)))
  refine zi_if_eq (pc' := 10) (tgt := 14) X dX6_kindHere_7 rfl rfl (fun c => ?_) (fun c => ?_)
  · replace h := zok_t h c
    refine zi_aload_n (pc' := 15) X dX6_kindHere_14 rfl rfl 0 rfl ?_
    refine zi_ldcSw (pc' := 18) X 14 (by decide) rfl rfl dX6_kindHere_15 rfl ?_
    refine zi_callVi (pc' := 21) X zl_X6_274 ha0 (by decide) [.ref (zak g 14)] rfl rfl (by decide) (Nat.le_of_ble_eq_true rfl) dX6_kindHere_18 rfl (tX6_isWord _ ha0 (zok_bd h (fun r3 m4 h => ?_)))
    refine zi_if_eq (pc' := 24) (tgt := 28) X dX6_kindHere_21 rfl rfl (fun c => ?_) (fun c => ?_)
    · replace h := zok_t h c
      refine zi_aload_n (pc' := 29) X dX6_kindHere_28 rfl rfl 0 rfl ?_
      refine zi_ldcSw (pc' := 32) X 15 (by decide) rfl rfl dX6_kindHere_29 rfl ?_
      refine zi_callVi (pc' := 35) X zl_X6_274 ha0 (by decide) [.ref (zak g 15)] rfl rfl (by decide) (Nat.le_of_ble_eq_true rfl) dX6_kindHere_32 rfl (tX6_isWord _ ha0 (zok_bd h (fun r5 m6 h => ?_)))
      refine zi_if_eq (pc' := 38) (tgt := 42) X dX6_kindHere_35 rfl rfl (fun c => ?_) (fun c => ?_)
      · replace h := zok_t h c
        refine zi_iconst (pc' := 43) (v := (-1 : Int32)) X dX6_kindHere_42 rfl rfl ?_
        exact zi_sub X [0] _ rfl (lX6_kindHere_43 X hret a0 (-1 : Int32) (m6) ha0 h)
      · replace h := zok_f h c
        refine zi_iconst (pc' := 39) (v := (2 : Int32)) X dX6_kindHere_38 rfl rfl ?_
        refine zi_goto (pc' := 43) X dX6_kindHere_39 rfl ?_
        exact zi_sub X [0] _ rfl (lX6_kindHere_43 X hret a0 (2 : Int32) (m6) ha0 h)
    · replace h := zok_f h c
      refine zi_iconst (pc' := 25) (v := (1 : Int32)) X dX6_kindHere_24 rfl rfl ?_
      refine zi_goto (pc' := 43) X dX6_kindHere_25 rfl ?_
      exact zi_sub X [0] _ rfl (lX6_kindHere_43 X hret a0 (1 : Int32) (m4) ha0 h)
  · replace h := zok_f h c
    refine zi_iconst (pc' := 11) (v := (0 : Int32)) X dX6_kindHere_10 rfl rfl ?_
    refine zi_goto (pc' := 43) X dX6_kindHere_11 rfl ?_
    exact zi_sub X [0] _ rfl (lX6_kindHere_43 X hret a0 (0 : Int32) (m2) ha0 h)
def fX6_out_73 (a0 : Nat) (a5 : Int32) (μ : zMem) : Option (Int32 × zMem) :=
  zbd (fX6_laysBack a0 μ) fun _ m18 =>
  zbd (fX6_orNone a0 a5 (60 : Int32) m18) fun r19 m20 =>
  some (r19, m20)
set_option maxRecDepth 100000 in
theorem lX6_out_73 {g : zG} {κ : zK} (X : zC g κ RX6 cX6_out 6 5) {Q : Int32 → zMem → Prop} (hret : ∀ pc lv r μ', decode cX6_out pc = .ok (.ireturn, 1) → True → Q r μ' → zV g κ pc lv [.int r] μ') : ∀ (a0 : Nat) (a5 : Int32) (μ : zMem) (ha0 : zkd a0 = 6), zok (fX6_out_73 a0 a5 μ) Q → zV g κ 73 [(0, .ref (zad g a0)), (5, .int a5)] [] μ := by
  intro a0 a5 μ ha0 h
  unfold fX6_out_73 at h
  refine zi_aload_n (pc' := 74) X dX6_out_73 rfl rfl 0 rfl ?_
  refine zi_callVv (pc' := 77) X zl_X6_194 ha0 (by decide) [] rfl rfl (by decide) (Nat.le_of_ble_eq_true rfl) dX6_out_74 rfl (tX6_laysBack _ ha0 (zok_bd h (fun _ m18 h => ?_)))
  refine zi_aload_n (pc' := 78) X dX6_out_77 rfl rfl 0 rfl ?_
  refine zi_iload (pc' := 80) X dX6_out_78 rfl 1 rfl ?_
  refine zi_bipush (pc' := 82) (v := (60 : Int32)) X dX6_out_80 rfl rfl ?_
  refine zi_callVi (pc' := 85) X zl_X6_200 ha0 (by decide) [.int a5, .int (60 : Int32)] rfl rfl (by decide) (Nat.le_of_ble_eq_true rfl) dX6_out_82 rfl (tX6_orNone _ ha0 (zok_bd h (fun r19 m20 h => ?_)))
  exact hret _ _ _ _ dX6_out_85 trivial h
def fX6_out_43 : Nat → Nat → Int32 → Int32 → Int32 → Int32 → Int32 → zMem → Option (Int32 × zMem)
  | 0, _, _, _, _, _, _, _ => none
  | n + 1, a0, a1, a2, a3, a4, a5, μ =>
    if (60 : Int32) < a5 then
      fX6_out_73 a0 a5 μ
    else
      zbd (fX6_isOut a0 a1 a3 a4 μ) fun r21 m22 =>
      if r21 = 0 then
        zbd (fX6_alone a0 a1 a2 m22) fun _ m24 =>
        fX6_out_43 n a0 a1 a2 a3 a4 (a5 + (1 : Int32)) m24
      else
        fX6_out_73 a0 a5 m22
set_option maxRecDepth 100000 in
theorem lX6_out_43 {g : zG} {κ : zK} (X : zC g κ RX6 cX6_out 6 5) {Q : Int32 → zMem → Prop} (hret : ∀ pc lv r μ', decode cX6_out pc = .ok (.ireturn, 1) → True → Q r μ' → zV g κ pc lv [.int r] μ') : ∀ (n : Nat) (a0 : Nat) (a1 : Int32) (a2 : Int32) (a3 : Int32) (a4 : Int32) (a5 : Int32) (μ : zMem) (ha0 : zkd a0 = 6), zok (fX6_out_43 n a0 a1 a2 a3 a4 a5 μ) Q → zV g κ 43 [(0, .ref (zad g a0)), (1, .int a1), (2, .int a2), (3, .int a3), (4, .int a4), (5, .int a5)] [] μ := by
  intro n
  induction n with
  | zero =>
    intro a0 a1 a2 a3 a4 a5 μ ha0 h
    exact h.elim
  | succ n ih =>
    intro a0 a1 a2 a3 a4 a5 μ ha0 h
    rw [fX6_out_43] at h
    refine zi_iload (pc' := 45) X dX6_out_43 rfl 5 rfl ?_
    refine zi_bipush (pc' := 47) (v := (60 : Int32)) X dX6_out_45 rfl rfl ?_
    refine zi_icmp_gt (pc' := 50) (tgt := 73) X dX6_out_47 rfl rfl (fun c => ?_) (fun c => ?_)
    · replace h := zok_t h c
      exact zi_sub X [0, 5] _ rfl (lX6_out_73 X hret a0 a5 (μ) ha0 h)
    · replace h := zok_f h c
      refine zi_aload_n (pc' := 51) X dX6_out_50 rfl rfl 0 rfl ?_
      refine zi_iload_n (pc' := 52) X dX6_out_51 rfl rfl 1 rfl ?_
      refine zi_iload_n (pc' := 53) X dX6_out_52 rfl rfl 3 rfl ?_
      refine zi_iload (pc' := 55) X dX6_out_53 rfl 4 rfl ?_
      refine zi_callVi (pc' := 58) X zl_X6_222 ha0 (by decide) [.int a1, .int a3, .int a4] rfl rfl (by decide) (Nat.le_of_ble_eq_true rfl) dX6_out_55 rfl (tX6_isOut _ ha0 (zok_bd h (fun r21 m22 h => ?_)))
      refine zi_if_ne (pc' := 61) (tgt := 73) X dX6_out_58 rfl rfl (fun c => ?_) (fun c => ?_)
      · replace h := zok_f h c
        exact zi_sub X [0, 5] _ rfl (lX6_out_73 X hret a0 a5 (m22) ha0 h)
      · replace h := zok_t h c
        refine zi_aload_n (pc' := 62) X dX6_out_61 rfl rfl 0 rfl ?_
        refine zi_iload_n (pc' := 63) X dX6_out_62 rfl rfl 1 rfl ?_
        refine zi_iload_n (pc' := 64) X dX6_out_63 rfl rfl 2 rfl ?_
        refine zi_callVv (pc' := 67) X zl_X6_216 ha0 (by decide) [.int a1, .int a2] rfl rfl (by decide) (Nat.le_of_ble_eq_true rfl) dX6_out_64 rfl (tX6_alone _ ha0 (zok_bd h (fun _ m24 h => ?_)))
        refine zi_iinc (pc' := 70) (v := (a5 + (1 : Int32))) X dX6_out_67 rfl 5 rfl rfl (by decide) [(5, .int (a5 + (1 : Int32))), (0, .ref (zad g a0)), (1, .int a1), (2, .int a2), (3, .int a3), (4, .int a4)] rfl ?_
        refine zi_goto (pc' := 43) X dX6_out_70 rfl ?_
        exact zi_sub X [1, 2, 3, 4, 5, 0] _ rfl (ih a0 a1 a2 a3 a4 (a5 + (1 : Int32)) (m24) ha0 h)
def fX6_out (a0 : Nat) (a1 : Int32) (a2 : Int32) (a3 : Int32) (a4 : Int32) (μ : zMem) : Option (Int32 × zMem) :=
  zbd (fX6_isTent a0 a1 μ) fun r1 m2 =>
  if r1 = 0 then
    zbd (fX6_finds a0 (0 : Int32) m2) fun r3 m4 =>
    some (r3, m4)
  else
    zbd (fX6_isPitch a2 m2) fun r5 m6 =>
    if r5 = 0 then
      zbd (fX6_finds a0 (0 : Int32) m6) fun r7 m8 =>
      some (r7, m8)
    else
      zbd (fX6_isHigh a3 m6) fun r9 m10 =>
      if r9 = 0 then
        zbd (fX6_finds a0 (0 : Int32) m10) fun r11 m12 =>
        some (r11, m12)
      else
        zbd (fX6_isHigh a4 m10) fun r13 m14 =>
        if r13 = 0 then
          zbd (fX6_finds a0 (0 : Int32) m14) fun r25 m26 =>
          some (r25, m26)
        else
          zbd (fX6_lends a0 m14) fun _ m16 =>
          fX6_out_43 200 a0 a1 a2 a3 a4 (0 : Int32) m16
set_option maxRecDepth 100000 in
set_option maxHeartbeats 4000000 in
theorem tX6_out (g : zG) {a0 : Nat} {a1 : Int32} {a2 : Int32} {a3 : Int32} {a4 : Int32} {μ : zMem} {Q : Int32 → zMem → Prop} (ha0 : zkd a0 = 6) (h : zok (fX6_out a0 a1 a2 a3 a4 μ) Q) : zTi g yX6_out cX6_out 6 .int 5 [.ref (zad g a0), .int a1, .int a2, .int a3, .int a4] μ Q := by
  refine zTi_of (P := fun r => True) zpi RX6 (by decide) rfl (Nat.le_of_ble_eq_true rfl) ?_
  intro κ X hret
  unfold fX6_out at h
  refine zi_aload_n (pc' := 1) X dX6_out_0 rfl rfl 0 rfl ?_
  refine zi_iload_n (pc' := 2) X dX6_out_1 rfl rfl 1 rfl ?_
  refine zi_callVi (pc' := 5) X zl_X6_127 ha0 (by decide) [.int a1] rfl rfl (by decide) (Nat.le_of_ble_eq_true rfl) dX6_out_2 rfl (tX6_isTent _ ha0 (zok_bd h (fun r1 m2 h => ?_)))
  refine zi_if_eq (pc' := 8) (tgt := 30) X dX6_out_5 rfl rfl (fun c => ?_) (fun c => ?_)
  · replace h := zok_t h c
    refine zi_aload_n (pc' := 31) X dX6_out_30 rfl rfl 0 rfl ?_
    refine zi_iconst (pc' := 32) (v := (0 : Int32)) X dX6_out_31 rfl rfl ?_
    refine zi_callVi (pc' := 35) X zl_X6_93 ha0 (by decide) [.int (0 : Int32)] rfl rfl (by decide) (Nat.le_of_ble_eq_true rfl) dX6_out_32 rfl (tX6_finds _ ha0 (zok_bd h (fun r3 m4 h => ?_)))
    exact hret _ _ _ _ dX6_out_35 trivial h
  · replace h := zok_f h c
    refine zi_iload_n (pc' := 9) X dX6_out_8 rfl rfl 2 rfl ?_
    refine zi_callSi (pc' := 12) X zl_X6_210 [.int a2] rfl rfl (by decide) (Nat.le_of_ble_eq_true rfl) dX6_out_9 rfl (tX6_isPitch _ (zok_bd h (fun r5 m6 h => ?_)))
    refine zi_if_eq (pc' := 15) (tgt := 30) X dX6_out_12 rfl rfl (fun c => ?_) (fun c => ?_)
    · replace h := zok_t h c
      refine zi_aload_n (pc' := 31) X dX6_out_30 rfl rfl 0 rfl ?_
      refine zi_iconst (pc' := 32) (v := (0 : Int32)) X dX6_out_31 rfl rfl ?_
      refine zi_callVi (pc' := 35) X zl_X6_93 ha0 (by decide) [.int (0 : Int32)] rfl rfl (by decide) (Nat.le_of_ble_eq_true rfl) dX6_out_32 rfl (tX6_finds _ ha0 (zok_bd h (fun r7 m8 h => ?_)))
      exact hret _ _ _ _ dX6_out_35 trivial h
    · replace h := zok_f h c
      refine zi_iload_n (pc' := 16) X dX6_out_15 rfl rfl 3 rfl ?_
      refine zi_callSi (pc' := 19) X zl_X6_87 [.int a3] rfl rfl (by decide) (Nat.le_of_ble_eq_true rfl) dX6_out_16 rfl (tX6_isHigh _ (zok_bd h (fun r9 m10 h => ?_)))
      refine zi_if_eq (pc' := 22) (tgt := 30) X dX6_out_19 rfl rfl (fun c => ?_) (fun c => ?_)
      · replace h := zok_t h c
        refine zi_aload_n (pc' := 31) X dX6_out_30 rfl rfl 0 rfl ?_
        refine zi_iconst (pc' := 32) (v := (0 : Int32)) X dX6_out_31 rfl rfl ?_
        refine zi_callVi (pc' := 35) X zl_X6_93 ha0 (by decide) [.int (0 : Int32)] rfl rfl (by decide) (Nat.le_of_ble_eq_true rfl) dX6_out_32 rfl (tX6_finds _ ha0 (zok_bd h (fun r11 m12 h => ?_)))
        exact hret _ _ _ _ dX6_out_35 trivial h
      · replace h := zok_f h c
        refine zi_iload (pc' := 24) X dX6_out_22 rfl 4 rfl ?_
        refine zi_callSi (pc' := 27) X zl_X6_87 [.int a4] rfl rfl (by decide) (Nat.le_of_ble_eq_true rfl) dX6_out_24 rfl (tX6_isHigh _ (zok_bd h (fun r13 m14 h => ?_)))
        refine zi_if_ne (pc' := 30) (tgt := 36) X dX6_out_27 rfl rfl (fun c => ?_) (fun c => ?_)
        · replace h := zok_f h c
          refine zi_aload_n (pc' := 37) X dX6_out_36 rfl rfl 0 rfl ?_
          refine zi_callVv (pc' := 40) X zl_X6_191 ha0 (by decide) [] rfl rfl (by decide) (Nat.le_of_ble_eq_true rfl) dX6_out_37 rfl (tX6_lends _ ha0 (zok_bd h (fun _ m16 h => ?_)))
          refine zi_iconst (pc' := 41) (v := (0 : Int32)) X dX6_out_40 rfl rfl ?_
          refine zi_istore (pc' := 43) X dX6_out_41 rfl (by decide) [(5, .int (0 : Int32)), (0, .ref (zad g a0)), (1, .int a1), (2, .int a2), (3, .int a3), (4, .int a4)] rfl ?_
          exact zi_sub X [1, 2, 3, 4, 5, 0] _ rfl (lX6_out_43 X hret 200 a0 a1 a2 a3 a4 (0 : Int32) (m16) ha0 h)
        · replace h := zok_t h c
          refine zi_aload_n (pc' := 31) X dX6_out_30 rfl rfl 0 rfl ?_
          refine zi_iconst (pc' := 32) (v := (0 : Int32)) X dX6_out_31 rfl rfl ?_
          refine zi_callVi (pc' := 35) X zl_X6_93 ha0 (by decide) [.int (0 : Int32)] rfl rfl (by decide) (Nat.le_of_ble_eq_true rfl) dX6_out_32 rfl (tX6_finds _ ha0 (zok_bd h (fun r25 m26 h => ?_)))
          exact hret _ _ _ _ dX6_out_35 trivial h
def fX6_pitchFor_31 : Nat → Nat → Int32 → Int32 → Int32 → Int32 → Int32 → Int32 → zMem → Option (Int32 × zMem)
  | 0, _, _, _, _, _, _, _, _ => none
  | n + 1, a0, a1, a2, a3, a4, a5, a6, μ =>
    if a6 < 0 then
      if 0 ≤ a5 then
        some (a5, μ)
      else
        zbd (fX6_finds a0 (3 : Int32) μ) fun r7 m8 =>
        some (r7, m8)
    else
      zbd (fX6_lends a0 μ) fun _ m10 =>
      zbd (fX6_sets a0 a1 (1 : Int32) a6 m10) fun _ m12 =>
      zbd (fX6_aDay a0 m12) fun _ m14 =>
      zbd (fX6_isThrough a0 a2 a3 a4 m14) fun r15 m16 =>
      if r15 = 0 then
        zbd (fX6_laysBack a0 m16) fun _ m18 =>
        fX6_pitchFor_31 n a0 a1 a2 a3 a4 a5 (a6 + (-1 : Int32)) m18
      else
        zbd (fX6_laysBack a0 m16) fun _ m20 =>
        fX6_pitchFor_31 n a0 a1 a2 a3 a4 a6 (a6 + (-1 : Int32)) m20
set_option maxRecDepth 100000 in
theorem lX6_pitchFor_31 {g : zG} {κ : zK} (X : zC g κ RX6 cX6_pitchFor 7 5) {Q : Int32 → zMem → Prop} (hret : ∀ pc lv r μ', decode cX6_pitchFor pc = .ok (.ireturn, 1) → True → Q r μ' → zV g κ pc lv [.int r] μ') : ∀ (n : Nat) (a0 : Nat) (a1 : Int32) (a2 : Int32) (a3 : Int32) (a4 : Int32) (a5 : Int32) (a6 : Int32) (μ : zMem) (ha0 : zkd a0 = 6), zok (fX6_pitchFor_31 n a0 a1 a2 a3 a4 a5 a6 μ) Q → zV g κ 31 [(0, .ref (zad g a0)), (1, .int a1), (2, .int a2), (3, .int a3), (4, .int a4), (5, .int a5), (6, .int a6)] [] μ := by
  intro n
  induction n with
  | zero =>
    intro a0 a1 a2 a3 a4 a5 a6 μ ha0 h
    exact h.elim
  | succ n ih =>
    intro a0 a1 a2 a3 a4 a5 a6 μ ha0 h
    rw [fX6_pitchFor_31] at h
    refine zi_iload (pc' := 33) X dX6_pitchFor_31 rfl 6 rfl ?_
    refine zi_if_lt (pc' := 36) (tgt := 82) X dX6_pitchFor_33 rfl rfl (fun c => ?_) (fun c => ?_)
    · replace h := zok_t h c
      refine zi_iload (pc' := 84) X dX6_pitchFor_82 rfl 5 rfl ?_
      refine zi_if_ge (pc' := 87) (tgt := 95) X dX6_pitchFor_84 rfl rfl (fun c => ?_) (fun c => ?_)
      · replace h := zok_t h c
        refine zi_iload (pc' := 97) X dX6_pitchFor_95 rfl 5 rfl ?_
        exact hret _ _ _ _ dX6_pitchFor_97 trivial h
      · replace h := zok_f h c
        refine zi_aload_n (pc' := 88) X dX6_pitchFor_87 rfl rfl 0 rfl ?_
        refine zi_iconst (pc' := 89) (v := (3 : Int32)) X dX6_pitchFor_88 rfl rfl ?_
        refine zi_callVi (pc' := 92) X zl_X6_93 ha0 (by decide) [.int (3 : Int32)] rfl rfl (by decide) (Nat.le_of_ble_eq_true rfl) dX6_pitchFor_89 rfl (tX6_finds _ ha0 (zok_bd h (fun r7 m8 h => ?_)))
        refine zi_goto (pc' := 97) X dX6_pitchFor_92 rfl ?_
        exact hret _ _ _ _ dX6_pitchFor_97 trivial h
    · replace h := zok_f h c
      refine zi_aload_n (pc' := 37) X dX6_pitchFor_36 rfl rfl 0 rfl ?_
      refine zi_callVv (pc' := 40) X zl_X6_191 ha0 (by decide) [] rfl rfl (by decide) (Nat.le_of_ble_eq_true rfl) dX6_pitchFor_37 rfl (tX6_lends _ ha0 (zok_bd h (fun _ m10 h => ?_)))
      refine zi_aload_n (pc' := 41) X dX6_pitchFor_40 rfl rfl 0 rfl ?_
      refine zi_iload_n (pc' := 42) X dX6_pitchFor_41 rfl rfl 1 rfl ?_
      refine zi_iconst (pc' := 43) (v := (1 : Int32)) X dX6_pitchFor_42 rfl rfl ?_
      refine zi_iload (pc' := 45) X dX6_pitchFor_43 rfl 6 rfl ?_
      refine zi_callVv (pc' := 48) X zl_X6_79 ha0 (by decide) [.int a1, .int (1 : Int32), .int a6] rfl rfl (by decide) (Nat.le_of_ble_eq_true rfl) dX6_pitchFor_45 rfl (tX6_sets _ ha0 (zok_bd h (fun _ m12 h => ?_)))
      refine zi_aload_n (pc' := 49) X dX6_pitchFor_48 rfl rfl 0 rfl ?_
      refine zi_callVv (pc' := 52) X zl_X6_156 ha0 (by decide) [] rfl rfl (by decide) (Nat.le_of_ble_eq_true rfl) dX6_pitchFor_49 rfl (tX6_aDay _ ha0 (zok_bd h (fun _ m14 h => ?_)))
      refine zi_aload_n (pc' := 53) X dX6_pitchFor_52 rfl rfl 0 rfl ?_
      refine zi_iload_n (pc' := 54) X dX6_pitchFor_53 rfl rfl 2 rfl ?_
      refine zi_iload_n (pc' := 55) X dX6_pitchFor_54 rfl rfl 3 rfl ?_
      refine zi_iload (pc' := 57) X dX6_pitchFor_55 rfl 4 rfl ?_
      refine zi_callVi (pc' := 60) X zl_X6_197 ha0 (by decide) [.int a2, .int a3, .int a4] rfl rfl (by decide) (Nat.le_of_ble_eq_true rfl) dX6_pitchFor_57 rfl (tX6_isThrough _ ha0 (zok_bd h (fun r15 m16 h => ?_)))
      refine zi_if_eq (pc' := 63) (tgt := 68) X dX6_pitchFor_60 rfl rfl (fun c => ?_) (fun c => ?_)
      · replace h := zok_t h c
        refine zi_iload (pc' := 70) X dX6_pitchFor_68 rfl 5 rfl ?_
        refine zi_istore (pc' := 72) X dX6_pitchFor_70 rfl (by decide) [(5, .int a5), (0, .ref (zad g a0)), (1, .int a1), (2, .int a2), (3, .int a3), (4, .int a4), (6, .int a6)] rfl ?_
        refine zi_aload_n (pc' := 73) X dX6_pitchFor_72 rfl rfl 1 rfl ?_
        refine zi_callVv (pc' := 76) X zl_X6_194 ha0 (by decide) [] rfl rfl (by decide) (Nat.le_of_ble_eq_true rfl) dX6_pitchFor_73 rfl (tX6_laysBack _ ha0 (zok_bd h (fun _ m18 h => ?_)))
        refine zi_iinc (pc' := 79) (v := (a6 + (-1 : Int32))) X dX6_pitchFor_76 rfl 6 rfl rfl (by decide) [(6, .int (a6 + (-1 : Int32))), (5, .int a5), (0, .ref (zad g a0)), (1, .int a1), (2, .int a2), (3, .int a3), (4, .int a4)] rfl ?_
        refine zi_goto (pc' := 31) X dX6_pitchFor_79 rfl ?_
        exact zi_sub X [2, 3, 4, 5, 6, 1, 0] _ rfl (ih a0 a1 a2 a3 a4 a5 (a6 + (-1 : Int32)) (m18) ha0 h)
      · replace h := zok_f h c
        refine zi_iload (pc' := 65) X dX6_pitchFor_63 rfl 6 rfl ?_
        refine zi_goto (pc' := 70) X dX6_pitchFor_65 rfl ?_
        refine zi_istore (pc' := 72) X dX6_pitchFor_70 rfl (by decide) [(5, .int a6), (0, .ref (zad g a0)), (1, .int a1), (2, .int a2), (3, .int a3), (4, .int a4), (6, .int a6)] rfl ?_
        refine zi_aload_n (pc' := 73) X dX6_pitchFor_72 rfl rfl 1 rfl ?_
        refine zi_callVv (pc' := 76) X zl_X6_194 ha0 (by decide) [] rfl rfl (by decide) (Nat.le_of_ble_eq_true rfl) dX6_pitchFor_73 rfl (tX6_laysBack _ ha0 (zok_bd h (fun _ m20 h => ?_)))
        refine zi_iinc (pc' := 79) (v := (a6 + (-1 : Int32))) X dX6_pitchFor_76 rfl 6 rfl rfl (by decide) [(6, .int (a6 + (-1 : Int32))), (5, .int a6), (0, .ref (zad g a0)), (1, .int a1), (2, .int a2), (3, .int a3), (4, .int a4)] rfl ?_
        refine zi_goto (pc' := 31) X dX6_pitchFor_79 rfl ?_
        exact zi_sub X [2, 3, 4, 5, 6, 1, 0] _ rfl (ih a0 a1 a2 a3 a4 a6 (a6 + (-1 : Int32)) (m20) ha0 h)
def fX6_pitchFor (a0 : Nat) (a1 : Int32) (a2 : Int32) (a3 : Int32) (a4 : Int32) (μ : zMem) : Option (Int32 × zMem) :=
  zbd (fX6_isTent a0 a1 μ) fun r1 m2 =>
  if r1 = 0 then
    zbd (fX6_finds a0 (0 : Int32) m2) fun r3 m4 =>
    some (r3, m4)
  else
    zbd (fX6_areWay a2 a3 a4 m2) fun r5 m6 =>
    if r5 = 0 then
      zbd (fX6_finds a0 (0 : Int32) m6) fun r21 m22 =>
      some (r21, m22)
    else
      fX6_pitchFor_31 200 a0 a1 a2 a3 a4 (-1 : Int32) (15 : Int32) m6
set_option maxRecDepth 100000 in
set_option maxHeartbeats 4000000 in
theorem tX6_pitchFor (g : zG) {a0 : Nat} {a1 : Int32} {a2 : Int32} {a3 : Int32} {a4 : Int32} {μ : zMem} {Q : Int32 → zMem → Prop} (ha0 : zkd a0 = 6) (h : zok (fX6_pitchFor a0 a1 a2 a3 a4 μ) Q) : zTi g yX6_pitchFor cX6_pitchFor 7 .int 5 [.ref (zad g a0), .int a1, .int a2, .int a3, .int a4] μ Q := by
  refine zTi_of (P := fun r => True) zpi RX6 (by decide) rfl (Nat.le_of_ble_eq_true rfl) ?_
  intro κ X hret
  unfold fX6_pitchFor at h
  refine zi_aload_n (pc' := 1) X dX6_pitchFor_0 rfl rfl 0 rfl ?_
  refine zi_iload_n (pc' := 2) X dX6_pitchFor_1 rfl rfl 1 rfl ?_
  refine zi_callVi (pc' := 5) X zl_X6_127 ha0 (by decide) [.int a1] rfl rfl (by decide) (Nat.le_of_ble_eq_true rfl) dX6_pitchFor_2 rfl (tX6_isTent _ ha0 (zok_bd h (fun r1 m2 h => ?_)))
  refine zi_if_eq (pc' := 8) (tgt := 18) X dX6_pitchFor_5 rfl rfl (fun c => ?_) (fun c => ?_)
  · replace h := zok_t h c
    refine zi_aload_n (pc' := 19) X dX6_pitchFor_18 rfl rfl 0 rfl ?_
    refine zi_iconst (pc' := 20) (v := (0 : Int32)) X dX6_pitchFor_19 rfl rfl ?_
    refine zi_callVi (pc' := 23) X zl_X6_93 ha0 (by decide) [.int (0 : Int32)] rfl rfl (by decide) (Nat.le_of_ble_eq_true rfl) dX6_pitchFor_20 rfl (tX6_finds _ ha0 (zok_bd h (fun r3 m4 h => ?_)))
    exact hret _ _ _ _ dX6_pitchFor_23 trivial h
  · replace h := zok_f h c
    refine zi_iload_n (pc' := 9) X dX6_pitchFor_8 rfl rfl 2 rfl ?_
    refine zi_iload_n (pc' := 10) X dX6_pitchFor_9 rfl rfl 3 rfl ?_
    refine zi_iload (pc' := 12) X dX6_pitchFor_10 rfl 4 rfl ?_
    refine zi_callSi (pc' := 15) X zl_X6_183 [.int a2, .int a3, .int a4] rfl rfl (by decide) (Nat.le_of_ble_eq_true rfl) dX6_pitchFor_12 rfl (tX6_areWay _ (zok_bd h (fun r5 m6 h => ?_)))
    refine zi_if_ne (pc' := 18) (tgt := 24) X dX6_pitchFor_15 rfl rfl (fun c => ?_) (fun c => ?_)
    · replace h := zok_f h c
      refine zi_iconst (pc' := 25) (v := (-1 : Int32)) X dX6_pitchFor_24 rfl rfl ?_
      refine zi_istore (pc' := 27) X dX6_pitchFor_25 rfl (by decide) [(5, .int (-1 : Int32)), (0, .ref (zad g a0)), (1, .int a1), (2, .int a2), (3, .int a3), (4, .int a4)] rfl ?_
      refine zi_bipush (pc' := 29) (v := (15 : Int32)) X dX6_pitchFor_27 rfl rfl ?_
      refine zi_istore (pc' := 31) X dX6_pitchFor_29 rfl (by decide) [(6, .int (15 : Int32)), (5, .int (-1 : Int32)), (0, .ref (zad g a0)), (1, .int a1), (2, .int a2), (3, .int a3), (4, .int a4)] rfl ?_
      exact zi_sub X [2, 3, 4, 5, 6, 1, 0] _ rfl (lX6_pitchFor_31 X hret 200 a0 a1 a2 a3 a4 (-1 : Int32) (15 : Int32) (m6) ha0 h)
    · replace h := zok_t h c
      refine zi_aload_n (pc' := 19) X dX6_pitchFor_18 rfl rfl 0 rfl ?_
      refine zi_iconst (pc' := 20) (v := (0 : Int32)) X dX6_pitchFor_19 rfl rfl ?_
      refine zi_callVi (pc' := 23) X zl_X6_93 ha0 (by decide) [.int (0 : Int32)] rfl rfl (by decide) (Nat.le_of_ble_eq_true rfl) dX6_pitchFor_20 rfl (tX6_finds _ ha0 (zok_bd h (fun r21 m22 h => ?_)))
      exact hret _ _ _ _ dX6_pitchFor_23 trivial h
def fX6_settles_25 (a0 : Nat) (a1 : Int32) (μ : zMem) : Option (Int32 × zMem) :=
  zbd (fX6_laysBack a0 μ) fun _ m4 =>
  zbd (fX6_orNone a0 a1 (100 : Int32) m4) fun r5 m6 =>
  some (r5, m6)
set_option maxRecDepth 100000 in
theorem lX6_settles_25 {g : zG} {κ : zK} (X : zC g κ RX6 cX6_settles 2 5) {Q : Int32 → zMem → Prop} (hret : ∀ pc lv r μ', decode cX6_settles pc = .ok (.ireturn, 1) → True → Q r μ' → zV g κ pc lv [.int r] μ') : ∀ (a0 : Nat) (a1 : Int32) (μ : zMem) (ha0 : zkd a0 = 6), zok (fX6_settles_25 a0 a1 μ) Q → zV g κ 25 [(0, .ref (zad g a0)), (1, .int a1)] [] μ := by
  intro a0 a1 μ ha0 h
  unfold fX6_settles_25 at h
  refine zi_aload_n (pc' := 26) X dX6_settles_25 rfl rfl 0 rfl ?_
  refine zi_callVv (pc' := 29) X zl_X6_194 ha0 (by decide) [] rfl rfl (by decide) (Nat.le_of_ble_eq_true rfl) dX6_settles_26 rfl (tX6_laysBack _ ha0 (zok_bd h (fun _ m4 h => ?_)))
  refine zi_aload_n (pc' := 30) X dX6_settles_29 rfl rfl 0 rfl ?_
  refine zi_iload_n (pc' := 31) X dX6_settles_30 rfl rfl 1 rfl ?_
  refine zi_bipush (pc' := 33) (v := (100 : Int32)) X dX6_settles_31 rfl rfl ?_
  refine zi_callVi (pc' := 36) X zl_X6_200 ha0 (by decide) [.int a1, .int (100 : Int32)] rfl rfl (by decide) (Nat.le_of_ble_eq_true rfl) dX6_settles_33 rfl (tX6_orNone _ ha0 (zok_bd h (fun r5 m6 h => ?_)))
  exact hret _ _ _ _ dX6_settles_36 trivial h
def fX6_settles_6 : Nat → Nat → Int32 → zMem → Option (Int32 × zMem)
  | 0, _, _, _ => none
  | n + 1, a0, a1, μ =>
    if (100 : Int32) < a1 then
      fX6_settles_25 a0 a1 μ
    else
      zbd (fX6_leavesAll a0 μ) fun r7 m8 =>
      if r7 = 0 then
        fX6_settles_6 n a0 (a1 + (1 : Int32)) m8
      else
        fX6_settles_25 a0 a1 m8
set_option maxRecDepth 100000 in
theorem lX6_settles_6 {g : zG} {κ : zK} (X : zC g κ RX6 cX6_settles 2 5) {Q : Int32 → zMem → Prop} (hret : ∀ pc lv r μ', decode cX6_settles pc = .ok (.ireturn, 1) → True → Q r μ' → zV g κ pc lv [.int r] μ') : ∀ (n : Nat) (a0 : Nat) (a1 : Int32) (μ : zMem) (ha0 : zkd a0 = 6), zok (fX6_settles_6 n a0 a1 μ) Q → zV g κ 6 [(0, .ref (zad g a0)), (1, .int a1)] [] μ := by
  intro n
  induction n with
  | zero =>
    intro a0 a1 μ ha0 h
    exact h.elim
  | succ n ih =>
    intro a0 a1 μ ha0 h
    rw [fX6_settles_6] at h
    refine zi_iload_n (pc' := 7) X dX6_settles_6 rfl rfl 1 rfl ?_
    refine zi_bipush (pc' := 9) (v := (100 : Int32)) X dX6_settles_7 rfl rfl ?_
    refine zi_icmp_gt (pc' := 12) (tgt := 25) X dX6_settles_9 rfl rfl (fun c => ?_) (fun c => ?_)
    · replace h := zok_t h c
      exact zi_sub X [0, 1] _ rfl (lX6_settles_25 X hret a0 a1 (μ) ha0 h)
    · replace h := zok_f h c
      refine zi_aload_n (pc' := 13) X dX6_settles_12 rfl rfl 0 rfl ?_
      refine zi_callVi (pc' := 16) X zl_X6_203 ha0 (by decide) [] rfl rfl (by decide) (Nat.le_of_ble_eq_true rfl) dX6_settles_13 rfl (tX6_leavesAll _ ha0 (zok_bd h (fun r7 m8 h => ?_)))
      refine zi_if_ne (pc' := 19) (tgt := 25) X dX6_settles_16 rfl rfl (fun c => ?_) (fun c => ?_)
      · replace h := zok_f h c
        exact zi_sub X [0, 1] _ rfl (lX6_settles_25 X hret a0 a1 (m8) ha0 h)
      · replace h := zok_t h c
        refine zi_iinc (pc' := 22) (v := (a1 + (1 : Int32))) X dX6_settles_19 rfl 1 rfl rfl (by decide) [(1, .int (a1 + (1 : Int32))), (0, .ref (zad g a0))] rfl ?_
        refine zi_goto (pc' := 6) X dX6_settles_22 rfl ?_
        exact zi_sub X [1, 0] _ rfl (ih a0 (a1 + (1 : Int32)) (m8) ha0 h)
def fX6_settles (a0 : Nat) (μ : zMem) : Option (Int32 × zMem) :=
  zbd (fX6_lends a0 μ) fun _ m2 =>
  fX6_settles_6 200 a0 (0 : Int32) m2
set_option maxRecDepth 100000 in
set_option maxHeartbeats 4000000 in
theorem tX6_settles (g : zG) {a0 : Nat} {μ : zMem} {Q : Int32 → zMem → Prop} (ha0 : zkd a0 = 6) (h : zok (fX6_settles a0 μ) Q) : zTi g yX6_settles cX6_settles 2 .int 5 [.ref (zad g a0)] μ Q := by
  refine zTi_of (P := fun r => True) zpi RX6 (by decide) rfl (Nat.le_of_ble_eq_true rfl) ?_
  intro κ X hret
  unfold fX6_settles at h
  refine zi_aload_n (pc' := 1) X dX6_settles_0 rfl rfl 0 rfl ?_
  refine zi_callVv (pc' := 4) X zl_X6_191 ha0 (by decide) [] rfl rfl (by decide) (Nat.le_of_ble_eq_true rfl) dX6_settles_1 rfl (tX6_lends _ ha0 (zok_bd h (fun _ m2 h => ?_)))
  refine zi_iconst (pc' := 5) (v := (0 : Int32)) X dX6_settles_4 rfl rfl ?_
  refine zi_istore_n (pc' := 6) X dX6_settles_5 rfl rfl (by decide) [(1, .int (0 : Int32)), (0, .ref (zad g a0))] rfl ?_
  exact zi_sub X [1, 0] _ rfl (lX6_settles_6 X hret 200 a0 (0 : Int32) (m2) ha0 h)
def fX6_springTold (a0 : Nat) (a1 : Int32) (μ : zMem) : Option (Unit × zMem) :=
  zbd (fX6_numberRead a0 (0 : Int32) (24 : Int32) μ) fun r1 m2 =>
  if (m2 a0 11) = 0 then
    zbd (fX6_springs a0 r1 a1 m2) fun _ m4 =>
    some ((), m4)
  else
    some ((), m2)
set_option maxRecDepth 100000 in
set_option maxHeartbeats 4000000 in
theorem tX6_springTold (g : zG) {a0 : Nat} {a1 : Int32} {μ : zMem} {Q : Unit → zMem → Prop} (ha0 : zkd a0 = 6) (h : zok (fX6_springTold a0 a1 μ) Q) : zTv g yX6_springTold cX6_springTold 3 5 [.ref (zad g a0), .int a1] μ Q := by
  refine zTv_of RX6 (by decide) rfl (Nat.le_of_ble_eq_true rfl) ?_
  intro κ X hret
  unfold fX6_springTold at h
  refine zi_aload_n (pc' := 1) X dX6_springTold_0 rfl rfl 0 rfl ?_
  refine zi_iconst (pc' := 2) (v := (0 : Int32)) X dX6_springTold_1 rfl rfl ?_
  refine zi_bipush (pc' := 4) (v := (24 : Int32)) X dX6_springTold_2 rfl rfl ?_
  refine zi_callVi (pc' := 7) X zl_X6_300 ha0 (by decide) [.int (0 : Int32), .int (24 : Int32)] rfl rfl (by decide) (Nat.le_of_ble_eq_true rfl) dX6_springTold_4 rfl (tX6_numberRead _ ha0 (zok_bd h (fun r1 m2 h => ?_)))
  refine zi_istore_n (pc' := 8) X dX6_springTold_7 rfl rfl (by decide) [(2, .int r1), (0, .ref (zad g a0)), (1, .int a1)] rfl ?_
  refine zi_aload_n (pc' := 9) X dX6_springTold_8 rfl rfl 1 rfl ?_
  refine zi_geti (pc' := 12) X zf_X6_258 rfl (by decide) ha0 dX6_springTold_9 rfl ?_
  refine zi_if_ne (pc' := 15) (tgt := 21) X dX6_springTold_12 rfl rfl (fun c => ?_) (fun c => ?_)
  · replace h := zok_f h c
    exact hret _ _ _ dX6_springTold_21 h
  · replace h := zok_t h c
    refine zi_aload_n (pc' := 16) X dX6_springTold_15 rfl rfl 1 rfl ?_
    refine zi_iload_n (pc' := 17) X dX6_springTold_16 rfl rfl 0 rfl ?_
    refine zi_iload_n (pc' := 18) X dX6_springTold_17 rfl rfl 2 rfl ?_
    refine zi_callVv (pc' := 21) X zl_X6_99 ha0 (by decide) [.int r1, .int a1] rfl rfl (by decide) (Nat.le_of_ble_eq_true rfl) dX6_springTold_18 rfl (tX6_springs _ ha0 (zok_bd h (fun _ m4 h => ?_)))
    exact hret _ _ _ dX6_springTold_21 h
def fX6_takes_ (a0 : Nat) (a1 : Nat) (μ : zMem) : Option (Int32 × zMem) :=
  zbd (fX6_isWord a0 a1 μ) fun r1 m2 =>
  if r1 = 0 then
    zgd (r1 = 0 ∨ r1 = 1) (
    some (r1, m2))
  else
    zbd (fX6_next a0 m2) fun _ m5 =>
    zgd (r1 = 0 ∨ r1 = 1) (
    some (r1, m5))
set_option maxRecDepth 100000 in
set_option maxHeartbeats 4000000 in
theorem tX6_takes_ (g : zG) {a0 : Nat} {a1 : Nat} {μ : zMem} {Q : Int32 → zMem → Prop} (ha0 : zkd a0 = 6) (h : zok (fX6_takes_ a0 a1 μ) Q) : zTi g yX6_takes_ cX6_takes_ 3 .boolean 5 [.ref (zad g a0), .ref (zak g a1)] μ Q := by
  refine zTi_of (P := fun r => r = 0 ∨ r = 1) zpb RX6 (by decide) rfl (Nat.le_of_ble_eq_true rfl) ?_
  intro κ X hret
  unfold fX6_takes_ at h
  refine zi_aload_n (pc' := 1) X dX6_takes__0 rfl rfl 0 rfl ?_
  refine zi_aload_n (pc' := 2) X dX6_takes__1 rfl rfl 1 rfl ?_
  refine zi_callVi (pc' := 5) X zl_X6_274 ha0 (by decide) [.ref (zak g a1)] rfl rfl (by decide) (Nat.le_of_ble_eq_true rfl) dX6_takes__2 rfl (tX6_isWord _ ha0 (zok_bd h (fun r1 m2 h => ?_)))
  refine zi_istore_n (pc' := 6) X dX6_takes__5 rfl rfl (by decide) [(2, .int r1), (0, .ref (zad g a0)), (1, .ref (zak g a1))] rfl ?_
  refine zi_iload_n (pc' := 7) X dX6_takes__6 rfl rfl 0 rfl ?_
  refine zi_if_eq (pc' := 10) (tgt := 14) X dX6_takes__7 rfl rfl (fun c => ?_) (fun c => ?_)
  · replace h := zok_t h c
    refine zi_iload_n (pc' := 15) X dX6_takes__14 rfl rfl 0 rfl ?_
    obtain ⟨g3, h⟩ := zok_g h
    exact hret _ _ _ _ dX6_takes__15 g3 h
  · replace h := zok_f h c
    refine zi_aload_n (pc' := 11) X dX6_takes__10 rfl rfl 1 rfl ?_
    refine zi_callVv (pc' := 14) X zl_X6_271 ha0 (by decide) [] rfl rfl (by decide) (Nat.le_of_ble_eq_true rfl) dX6_takes__11 rfl (tX6_next _ ha0 (zok_bd h (fun _ m5 h => ?_)))
    refine zi_iload_n (pc' := 15) X dX6_takes__14 rfl rfl 0 rfl ?_
    obtain ⟨g6, h⟩ := zok_g h
    exact hret _ _ _ _ dX6_takes__15 g6 h
def fX6_when_49 (a0 : Nat) (a4 : Int32) (μ : zMem) : Option (Int32 × zMem) :=
  zbd (fX6_laysBack a0 μ) fun _ m6 =>
  zbd (fX6_orNone a0 a4 (100 : Int32) m6) fun r7 m8 =>
  some (r7, m8)
set_option maxRecDepth 100000 in
theorem lX6_when_49 {g : zG} {κ : zK} (X : zC g κ RX6 cX6_when 5 5) {Q : Int32 → zMem → Prop} (hret : ∀ pc lv r μ', decode cX6_when pc = .ok (.ireturn, 1) → True → Q r μ' → zV g κ pc lv [.int r] μ') : ∀ (a0 : Nat) (a4 : Int32) (μ : zMem) (ha0 : zkd a0 = 6), zok (fX6_when_49 a0 a4 μ) Q → zV g κ 49 [(0, .ref (zad g a0)), (4, .int a4)] [] μ := by
  intro a0 a4 μ ha0 h
  unfold fX6_when_49 at h
  refine zi_aload_n (pc' := 50) X dX6_when_49 rfl rfl 0 rfl ?_
  refine zi_callVv (pc' := 53) X zl_X6_194 ha0 (by decide) [] rfl rfl (by decide) (Nat.le_of_ble_eq_true rfl) dX6_when_50 rfl (tX6_laysBack _ ha0 (zok_bd h (fun _ m6 h => ?_)))
  refine zi_aload_n (pc' := 54) X dX6_when_53 rfl rfl 0 rfl ?_
  refine zi_iload (pc' := 56) X dX6_when_54 rfl 1 rfl ?_
  refine zi_bipush (pc' := 58) (v := (100 : Int32)) X dX6_when_56 rfl rfl ?_
  refine zi_callVi (pc' := 61) X zl_X6_200 ha0 (by decide) [.int a4, .int (100 : Int32)] rfl rfl (by decide) (Nat.le_of_ble_eq_true rfl) dX6_when_58 rfl (tX6_orNone _ ha0 (zok_bd h (fun r7 m8 h => ?_)))
  exact hret _ _ _ _ dX6_when_61 trivial h
def fX6_when_22 : Nat → Nat → Int32 → Int32 → Int32 → Int32 → zMem → Option (Int32 × zMem)
  | 0, _, _, _, _, _, _ => none
  | n + 1, a0, a1, a2, a3, a4, μ =>
    if (100 : Int32) < a4 then
      fX6_when_49 a0 a4 μ
    else
      zbd (fX6_isThrough a0 a1 a2 a3 μ) fun r9 m10 =>
      if r9 = 0 then
        zbd (fX6_aDay a0 m10) fun _ m12 =>
        fX6_when_22 n a0 a1 a2 a3 (a4 + (1 : Int32)) m12
      else
        fX6_when_49 a0 a4 m10
set_option maxRecDepth 100000 in
theorem lX6_when_22 {g : zG} {κ : zK} (X : zC g κ RX6 cX6_when 5 5) {Q : Int32 → zMem → Prop} (hret : ∀ pc lv r μ', decode cX6_when pc = .ok (.ireturn, 1) → True → Q r μ' → zV g κ pc lv [.int r] μ') : ∀ (n : Nat) (a0 : Nat) (a1 : Int32) (a2 : Int32) (a3 : Int32) (a4 : Int32) (μ : zMem) (ha0 : zkd a0 = 6), zok (fX6_when_22 n a0 a1 a2 a3 a4 μ) Q → zV g κ 22 [(0, .ref (zad g a0)), (1, .int a1), (2, .int a2), (3, .int a3), (4, .int a4)] [] μ := by
  intro n
  induction n with
  | zero =>
    intro a0 a1 a2 a3 a4 μ ha0 h
    exact h.elim
  | succ n ih =>
    intro a0 a1 a2 a3 a4 μ ha0 h
    rw [fX6_when_22] at h
    refine zi_iload (pc' := 24) X dX6_when_22 rfl 4 rfl ?_
    refine zi_bipush (pc' := 26) (v := (100 : Int32)) X dX6_when_24 rfl rfl ?_
    refine zi_icmp_gt (pc' := 29) (tgt := 49) X dX6_when_26 rfl rfl (fun c => ?_) (fun c => ?_)
    · replace h := zok_t h c
      exact zi_sub X [0, 4] _ rfl (lX6_when_49 X hret a0 a4 (μ) ha0 h)
    · replace h := zok_f h c
      refine zi_aload_n (pc' := 30) X dX6_when_29 rfl rfl 0 rfl ?_
      refine zi_iload_n (pc' := 31) X dX6_when_30 rfl rfl 1 rfl ?_
      refine zi_iload_n (pc' := 32) X dX6_when_31 rfl rfl 2 rfl ?_
      refine zi_iload_n (pc' := 33) X dX6_when_32 rfl rfl 3 rfl ?_
      refine zi_callVi (pc' := 36) X zl_X6_197 ha0 (by decide) [.int a1, .int a2, .int a3] rfl rfl (by decide) (Nat.le_of_ble_eq_true rfl) dX6_when_33 rfl (tX6_isThrough _ ha0 (zok_bd h (fun r9 m10 h => ?_)))
      refine zi_if_ne (pc' := 39) (tgt := 49) X dX6_when_36 rfl rfl (fun c => ?_) (fun c => ?_)
      · replace h := zok_f h c
        exact zi_sub X [0, 4] _ rfl (lX6_when_49 X hret a0 a4 (m10) ha0 h)
      · replace h := zok_t h c
        refine zi_aload_n (pc' := 40) X dX6_when_39 rfl rfl 0 rfl ?_
        refine zi_callVv (pc' := 43) X zl_X6_156 ha0 (by decide) [] rfl rfl (by decide) (Nat.le_of_ble_eq_true rfl) dX6_when_40 rfl (tX6_aDay _ ha0 (zok_bd h (fun _ m12 h => ?_)))
        refine zi_iinc (pc' := 46) (v := (a4 + (1 : Int32))) X dX6_when_43 rfl 4 rfl rfl (by decide) [(4, .int (a4 + (1 : Int32))), (0, .ref (zad g a0)), (1, .int a1), (2, .int a2), (3, .int a3)] rfl ?_
        refine zi_goto (pc' := 22) X dX6_when_46 rfl ?_
        exact zi_sub X [1, 2, 3, 4, 0] _ rfl (ih a0 a1 a2 a3 (a4 + (1 : Int32)) (m12) ha0 h)
def fX6_when (a0 : Nat) (a1 : Int32) (a2 : Int32) (a3 : Int32) (μ : zMem) : Option (Int32 × zMem) :=
  zbd (fX6_areWay a1 a2 a3 μ) fun r1 m2 =>
  if r1 = 0 then
    zbd (fX6_finds a0 (0 : Int32) m2) fun r13 m14 =>
    some (r13, m14)
  else
    zbd (fX6_lends a0 m2) fun _ m4 =>
    fX6_when_22 200 a0 a1 a2 a3 (0 : Int32) m4
set_option maxRecDepth 100000 in
set_option maxHeartbeats 4000000 in
theorem tX6_when (g : zG) {a0 : Nat} {a1 : Int32} {a2 : Int32} {a3 : Int32} {μ : zMem} {Q : Int32 → zMem → Prop} (ha0 : zkd a0 = 6) (h : zok (fX6_when a0 a1 a2 a3 μ) Q) : zTi g yX6_when cX6_when 5 .int 5 [.ref (zad g a0), .int a1, .int a2, .int a3] μ Q := by
  refine zTi_of (P := fun r => True) zpi RX6 (by decide) rfl (Nat.le_of_ble_eq_true rfl) ?_
  intro κ X hret
  unfold fX6_when at h
  refine zi_iload_n (pc' := 1) X dX6_when_0 rfl rfl 1 rfl ?_
  refine zi_iload_n (pc' := 2) X dX6_when_1 rfl rfl 2 rfl ?_
  refine zi_iload_n (pc' := 3) X dX6_when_2 rfl rfl 3 rfl ?_
  refine zi_callSi (pc' := 6) X zl_X6_183 [.int a1, .int a2, .int a3] rfl rfl (by decide) (Nat.le_of_ble_eq_true rfl) dX6_when_3 rfl (tX6_areWay _ (zok_bd h (fun r1 m2 h => ?_)))
  refine zi_if_ne (pc' := 9) (tgt := 15) X dX6_when_6 rfl rfl (fun c => ?_) (fun c => ?_)
  · replace h := zok_f h c
    refine zi_aload_n (pc' := 16) X dX6_when_15 rfl rfl 0 rfl ?_
    refine zi_callVv (pc' := 19) X zl_X6_191 ha0 (by decide) [] rfl rfl (by decide) (Nat.le_of_ble_eq_true rfl) dX6_when_16 rfl (tX6_lends _ ha0 (zok_bd h (fun _ m4 h => ?_)))
    refine zi_iconst (pc' := 20) (v := (0 : Int32)) X dX6_when_19 rfl rfl ?_
    refine zi_istore (pc' := 22) X dX6_when_20 rfl (by decide) [(4, .int (0 : Int32)), (0, .ref (zad g a0)), (1, .int a1), (2, .int a2), (3, .int a3)] rfl ?_
    exact zi_sub X [1, 2, 3, 4, 0] _ rfl (lX6_when_22 X hret 200 a0 a1 a2 a3 (0 : Int32) (m4) ha0 h)
  · replace h := zok_t h c
    refine zi_aload_n (pc' := 10) X dX6_when_9 rfl rfl 0 rfl ?_
    refine zi_iconst (pc' := 11) (v := (0 : Int32)) X dX6_when_10 rfl rfl ?_
    refine zi_callVi (pc' := 14) X zl_X6_93 ha0 (by decide) [.int (0 : Int32)] rfl rfl (by decide) (Nat.le_of_ble_eq_true rfl) dX6_when_11 rfl (tX6_finds _ ha0 (zok_bd h (fun r13 m14 h => ?_)))
    exact hret _ _ _ _ dX6_when_14 trivial h
