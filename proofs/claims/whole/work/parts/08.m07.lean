def fX5_ahead (a0 : Nat) (a1 : Int32) (a2 : Int32) (μ : zMem) : Option (Int32 × zMem) :=
  zbd (fX5_isCell a1 μ) fun r1 m2 =>
  if r1 = 0 then
    zbd (fX5_finding a0 (0 : Int32) m2) fun r3 m4 =>
    some (r3, m4)
  else
    zbd (fX5_within a2 (0 : Int32) (100 : Int32) m2) fun r5 m6 =>
    if r5 = 0 then
      zbd (fX5_finding a0 (0 : Int32) m6) fun r17 m18 =>
      some (r17, m18)
    else
      zbd (fX0_becomeLike (a0 + 33) (a0 + 1) m6) fun _ m10 =>
      zbd (fX0_passDays (a0 + 33) a2 m10) fun _ m13 =>
      zgd (zib a1 25) (
      some ((m13 ((a0 + 33) + 1) (a1).toNatClampNeg), m13))
set_option maxRecDepth 100000 in
set_option maxHeartbeats 4000000 in
theorem tX5_ahead (g : zG) {a0 : Nat} {a1 : Int32} {a2 : Int32} {μ : zMem} {Q : Int32 → zMem → Prop} (ha0 : zkd a0 = 5) (h : zok (fX5_ahead a0 a1 a2 μ) Q) : zTi g yX5_ahead cX5_ahead 3 .int 5 [.ref (zad g a0), .int a1, .int a2] μ Q := by
  refine zTi_of (P := fun r => True) zpi RX5 (by decide) rfl (Nat.le_of_ble_eq_true rfl) ?_
  intro κ X hret
  unfold fX5_ahead at h
  refine zi_iload_n (pc' := 1) X dX5_ahead_0 rfl rfl 1 rfl ?_
  refine zi_callSi (pc' := 4) X zl_X5_54 [.int a1] rfl rfl (by decide) (Nat.le_of_ble_eq_true rfl) dX5_ahead_1 rfl (tX5_isCell _ (zok_bd h (fun r1 m2 h => ?_)))
  refine zi_if_eq (pc' := 7) (tgt := 17) X dX5_ahead_4 rfl rfl (fun c => ?_) (fun c => ?_)
  · replace h := zok_t h c
    refine zi_aload_n (pc' := 18) X dX5_ahead_17 rfl rfl 0 rfl ?_
    refine zi_iconst (pc' := 19) (v := (0 : Int32)) X dX5_ahead_18 rfl rfl ?_
    refine zi_callVi (pc' := 22) X zl_X5_61 ha0 (by decide) [.int (0 : Int32)] rfl rfl (by decide) (Nat.le_of_ble_eq_true rfl) dX5_ahead_19 rfl (tX5_finding _ ha0 (zok_bd h (fun r3 m4 h => ?_)))
    exact hret _ _ _ _ dX5_ahead_22 trivial h
  · replace h := zok_f h c
    refine zi_iload_n (pc' := 8) X dX5_ahead_7 rfl rfl 2 rfl ?_
    refine zi_iconst (pc' := 9) (v := (0 : Int32)) X dX5_ahead_8 rfl rfl ?_
    refine zi_bipush (pc' := 11) (v := (100 : Int32)) X dX5_ahead_9 rfl rfl ?_
    refine zi_callSi (pc' := 14) X zl_X5_68 [.int a2, .int (0 : Int32), .int (100 : Int32)] rfl rfl (by decide) (Nat.le_of_ble_eq_true rfl) dX5_ahead_11 rfl (tX5_within _ (zok_bd h (fun r5 m6 h => ?_)))
    refine zi_if_ne (pc' := 17) (tgt := 23) X dX5_ahead_14 rfl rfl (fun c => ?_) (fun c => ?_)
    · replace h := zok_f h c
      refine zi_aload_n (pc' := 24) X dX5_ahead_23 rfl rfl 0 rfl ?_
      refine zi_getr (pc' := 27) X zf_X5_19 rfl (by decide) ha0 dX5_ahead_24 rfl ?_
      have f7 := zr_5_2 ha0
      refine zi_aload_n (pc' := 28) X dX5_ahead_27 rfl rfl 0 rfl ?_
      refine zi_getr (pc' := 31) X zf_X5_10 rfl (by decide) ha0 dX5_ahead_28 rfl ?_
      have f8 := zr_5_0 ha0
      refine zi_callVv (pc' := 34) X zl_X5_159 f7 (by decide) [.ref (zad g (a0 + 1))] rfl rfl (by decide) (Nat.le_of_ble_eq_true rfl) dX5_ahead_31 rfl (tX0_becomeLike _ f7 f8 (zok_bd h (fun _ m10 h => ?_)))
      refine zi_aload_n (pc' := 35) X dX5_ahead_34 rfl rfl 0 rfl ?_
      refine zi_getr (pc' := 38) X zf_X5_19 rfl (by decide) ha0 dX5_ahead_35 rfl ?_
      have f11 := zr_5_2 ha0
      refine zi_iload_n (pc' := 39) X dX5_ahead_38 rfl rfl 2 rfl ?_
      refine zi_callVv (pc' := 42) X zl_X5_123 f11 (by decide) [.int a2] rfl rfl (by decide) (Nat.le_of_ble_eq_true rfl) dX5_ahead_39 rfl (tX0_passDays _ f11 (zok_bd h (fun _ m13 h => ?_)))
      refine zi_aload_n (pc' := 43) X dX5_ahead_42 rfl rfl 0 rfl ?_
      refine zi_getr (pc' := 46) X zf_X5_19 rfl (by decide) ha0 dX5_ahead_43 rfl ?_
      have f14 := zr_5_2 ha0
      refine zi_getr (pc' := 49) X zf_X5_65 rfl (by decide) f14 dX5_ahead_46 rfl ?_
      have f15 := zr_0_0 f14
      refine zi_iload_n (pc' := 50) X dX5_ahead_49 rfl rfl 1 rfl ?_
      obtain ⟨g16, h⟩ := zok_g h
      refine zi_iald (pc' := 51) X f15.1 (by rw [f15.2]; exact g16) dX5_ahead_50 rfl ?_
      exact hret _ _ _ _ dX5_ahead_51 trivial h
    · replace h := zok_t h c
      refine zi_aload_n (pc' := 18) X dX5_ahead_17 rfl rfl 0 rfl ?_
      refine zi_iconst (pc' := 19) (v := (0 : Int32)) X dX5_ahead_18 rfl rfl ?_
      refine zi_callVi (pc' := 22) X zl_X5_61 ha0 (by decide) [.int (0 : Int32)] rfl rfl (by decide) (Nat.le_of_ble_eq_true rfl) dX5_ahead_19 rfl (tX5_finding _ ha0 (zok_bd h (fun r17 m18 h => ?_)))
      exact hret _ _ _ _ dX5_ahead_22 trivial h
def fX5_felt (a0 : Nat) (a1 : Int32) (a2 : Int32) (a3 : Int32) (μ : zMem) : Option (Int32 × zMem) :=
  zbd (fX5_isTent a0 a1 μ) fun r1 m2 =>
  if r1 = 0 then
    zbd (fX5_finding a0 (0 : Int32) m2) fun r3 m4 =>
    some (r3, m4)
  else
    zbd (fX5_within a2 (0 : Int32) (3 : Int32) m2) fun r5 m6 =>
    if r5 = 0 then
      zbd (fX5_finding a0 (0 : Int32) m6) fun r7 m8 =>
      some (r7, m8)
    else
      zbd (fX5_within a3 (0 : Int32) (100 : Int32) m6) fun r9 m10 =>
      if r9 = 0 then
        zbd (fX5_finding a0 (0 : Int32) m10) fun r24 m25 =>
        some (r24, m25)
      else
        zbd (fX0_becomeLike (a0 + 33) (a0 + 1) m10) fun _ m14 =>
        zbd (fX0_passDays (a0 + 33) a3 m14) fun _ m17 =>
        zgd (zib a1 6) (
        zgd (zib a2 4) (
        some ((m17 ((((a0 + 33) + 3) + 1 + 2 * (a1).toNatClampNeg) + 1) (a2).toNatClampNeg), m17)))
set_option maxRecDepth 100000 in
set_option maxHeartbeats 4000000 in
theorem tX5_felt (g : zG) {a0 : Nat} {a1 : Int32} {a2 : Int32} {a3 : Int32} {μ : zMem} {Q : Int32 → zMem → Prop} (ha0 : zkd a0 = 5) (h : zok (fX5_felt a0 a1 a2 a3 μ) Q) : zTi g yX5_felt cX5_felt 4 .int 5 [.ref (zad g a0), .int a1, .int a2, .int a3] μ Q := by
  refine zTi_of (P := fun r => True) zpi RX5 (by decide) rfl (Nat.le_of_ble_eq_true rfl) ?_
  intro κ X hret
  unfold fX5_felt at h
  refine zi_aload_n (pc' := 1) X dX5_felt_0 rfl rfl 0 rfl ?_
  refine zi_iload_n (pc' := 2) X dX5_felt_1 rfl rfl 1 rfl ?_
  refine zi_callVi (pc' := 5) X zl_X5_96 ha0 (by decide) [.int a1] rfl rfl (by decide) (Nat.le_of_ble_eq_true rfl) dX5_felt_2 rfl (tX5_isTent _ ha0 (zok_bd h (fun r1 m2 h => ?_)))
  refine zi_if_eq (pc' := 8) (tgt := 27) X dX5_felt_5 rfl rfl (fun c => ?_) (fun c => ?_)
  · replace h := zok_t h c
    refine zi_aload_n (pc' := 28) X dX5_felt_27 rfl rfl 0 rfl ?_
    refine zi_iconst (pc' := 29) (v := (0 : Int32)) X dX5_felt_28 rfl rfl ?_
    refine zi_callVi (pc' := 32) X zl_X5_61 ha0 (by decide) [.int (0 : Int32)] rfl rfl (by decide) (Nat.le_of_ble_eq_true rfl) dX5_felt_29 rfl (tX5_finding _ ha0 (zok_bd h (fun r3 m4 h => ?_)))
    exact hret _ _ _ _ dX5_felt_32 trivial h
  · replace h := zok_f h c
    refine zi_iload_n (pc' := 9) X dX5_felt_8 rfl rfl 2 rfl ?_
    refine zi_iconst (pc' := 10) (v := (0 : Int32)) X dX5_felt_9 rfl rfl ?_
    refine zi_iconst (pc' := 11) (v := (3 : Int32)) X dX5_felt_10 rfl rfl ?_
    refine zi_callSi (pc' := 14) X zl_X5_68 [.int a2, .int (0 : Int32), .int (3 : Int32)] rfl rfl (by decide) (Nat.le_of_ble_eq_true rfl) dX5_felt_11 rfl (tX5_within _ (zok_bd h (fun r5 m6 h => ?_)))
    refine zi_if_eq (pc' := 17) (tgt := 27) X dX5_felt_14 rfl rfl (fun c => ?_) (fun c => ?_)
    · replace h := zok_t h c
      refine zi_aload_n (pc' := 28) X dX5_felt_27 rfl rfl 0 rfl ?_
      refine zi_iconst (pc' := 29) (v := (0 : Int32)) X dX5_felt_28 rfl rfl ?_
      refine zi_callVi (pc' := 32) X zl_X5_61 ha0 (by decide) [.int (0 : Int32)] rfl rfl (by decide) (Nat.le_of_ble_eq_true rfl) dX5_felt_29 rfl (tX5_finding _ ha0 (zok_bd h (fun r7 m8 h => ?_)))
      exact hret _ _ _ _ dX5_felt_32 trivial h
    · replace h := zok_f h c
      refine zi_iload_n (pc' := 18) X dX5_felt_17 rfl rfl 3 rfl ?_
      refine zi_iconst (pc' := 19) (v := (0 : Int32)) X dX5_felt_18 rfl rfl ?_
      refine zi_bipush (pc' := 21) (v := (100 : Int32)) X dX5_felt_19 rfl rfl ?_
      refine zi_callSi (pc' := 24) X zl_X5_68 [.int a3, .int (0 : Int32), .int (100 : Int32)] rfl rfl (by decide) (Nat.le_of_ble_eq_true rfl) dX5_felt_21 rfl (tX5_within _ (zok_bd h (fun r9 m10 h => ?_)))
      refine zi_if_ne (pc' := 27) (tgt := 33) X dX5_felt_24 rfl rfl (fun c => ?_) (fun c => ?_)
      · replace h := zok_f h c
        refine zi_aload_n (pc' := 34) X dX5_felt_33 rfl rfl 0 rfl ?_
        refine zi_getr (pc' := 37) X zf_X5_19 rfl (by decide) ha0 dX5_felt_34 rfl ?_
        have f11 := zr_5_2 ha0
        refine zi_aload_n (pc' := 38) X dX5_felt_37 rfl rfl 0 rfl ?_
        refine zi_getr (pc' := 41) X zf_X5_10 rfl (by decide) ha0 dX5_felt_38 rfl ?_
        have f12 := zr_5_0 ha0
        refine zi_callVv (pc' := 44) X zl_X5_159 f11 (by decide) [.ref (zad g (a0 + 1))] rfl rfl (by decide) (Nat.le_of_ble_eq_true rfl) dX5_felt_41 rfl (tX0_becomeLike _ f11 f12 (zok_bd h (fun _ m14 h => ?_)))
        refine zi_aload_n (pc' := 45) X dX5_felt_44 rfl rfl 0 rfl ?_
        refine zi_getr (pc' := 48) X zf_X5_19 rfl (by decide) ha0 dX5_felt_45 rfl ?_
        have f15 := zr_5_2 ha0
        refine zi_iload_n (pc' := 49) X dX5_felt_48 rfl rfl 3 rfl ?_
        refine zi_callVv (pc' := 52) X zl_X5_123 f15 (by decide) [.int a3] rfl rfl (by decide) (Nat.le_of_ble_eq_true rfl) dX5_felt_49 rfl (tX0_passDays _ f15 (zok_bd h (fun _ m17 h => ?_)))
        refine zi_aload_n (pc' := 53) X dX5_felt_52 rfl rfl 0 rfl ?_
        refine zi_getr (pc' := 56) X zf_X5_19 rfl (by decide) ha0 dX5_felt_53 rfl ?_
        have f18 := zr_5_2 ha0
        refine zi_getr (pc' := 59) X zf_X5_99 rfl (by decide) f18 dX5_felt_56 rfl ?_
        have f19 := zr_0_2 f18
        refine zi_iload_n (pc' := 60) X dX5_felt_59 rfl rfl 1 rfl ?_
        obtain ⟨g20, h⟩ := zok_g h
        refine zi_aaldT (pc' := 61) X f19.1 (by rw [f19.2]; exact g20) dX5_felt_60 rfl ?_
        have f21 := zr_tent f19 g20
        refine zi_getr (pc' := 64) X zf_X5_163 rfl (by decide) f21 dX5_felt_61 rfl ?_
        have f22 := zr_4_3 f21
        refine zi_iload_n (pc' := 65) X dX5_felt_64 rfl rfl 2 rfl ?_
        obtain ⟨g23, h⟩ := zok_g h
        refine zi_iald (pc' := 66) X f22.1 (by rw [f22.2]; exact g23) dX5_felt_65 rfl ?_
        exact hret _ _ _ _ dX5_felt_66 trivial h
      · replace h := zok_t h c
        refine zi_aload_n (pc' := 28) X dX5_felt_27 rfl rfl 0 rfl ?_
        refine zi_iconst (pc' := 29) (v := (0 : Int32)) X dX5_felt_28 rfl rfl ?_
        refine zi_callVi (pc' := 32) X zl_X5_61 ha0 (by decide) [.int (0 : Int32)] rfl rfl (by decide) (Nat.le_of_ble_eq_true rfl) dX5_felt_29 rfl (tX5_finding _ ha0 (zok_bd h (fun r24 m25 h => ?_)))
        exact hret _ _ _ _ dX5_felt_32 trivial h
def fX5_first (a0 : Nat) (a1 : Int32) (a2 : Int32) (a3 : Int32) (μ : zMem) : Option (Int32 × zMem) :=
  zbd (fX5_isTent a0 a1 μ) fun r1 m2 =>
  if r1 = 0 then
    zbd (fX5_finding a0 (0 : Int32) m2) fun r3 m4 =>
    some (r3, m4)
  else
    zbd (fX5_isTent a0 a2 m2) fun r5 m6 =>
    if r5 = 0 then
      zbd (fX5_finding a0 (0 : Int32) m6) fun r7 m8 =>
      some (r7, m8)
    else
      if a1 = a2 then
        zbd (fX5_finding a0 (0 : Int32) m6) fun r9 m10 =>
        some (r9, m10)
      else
        zbd (fX5_isPitch a3 m6) fun r11 m12 =>
        if r11 = 0 then
          zbd (fX5_finding a0 (0 : Int32) m12) fun r17 m18 =>
          some (r17, m18)
        else
          zbd (fX5_sumAfterBoth a0 a1 a2 a3 m12) fun r13 m14 =>
          zbd (fX5_sumAfterBoth a0 a2 a1 a3 m14) fun r15 m16 =>
          some ((r13 - r15), m16)
set_option maxRecDepth 100000 in
set_option maxHeartbeats 4000000 in
theorem tX5_first (g : zG) {a0 : Nat} {a1 : Int32} {a2 : Int32} {a3 : Int32} {μ : zMem} {Q : Int32 → zMem → Prop} (ha0 : zkd a0 = 5) (h : zok (fX5_first a0 a1 a2 a3 μ) Q) : zTi g yX5_first cX5_first 4 .int 5 [.ref (zad g a0), .int a1, .int a2, .int a3] μ Q := by
  refine zTi_of (P := fun r => True) zpi RX5 (by decide) rfl (Nat.le_of_ble_eq_true rfl) ?_
  intro κ X hret
  unfold fX5_first at h
  refine zi_aload_n (pc' := 1) X dX5_first_0 rfl rfl 0 rfl ?_
  refine zi_iload_n (pc' := 2) X dX5_first_1 rfl rfl 1 rfl ?_
  refine zi_callVi (pc' := 5) X zl_X5_96 ha0 (by decide) [.int a1] rfl rfl (by decide) (Nat.le_of_ble_eq_true rfl) dX5_first_2 rfl (tX5_isTent _ ha0 (zok_bd h (fun r1 m2 h => ?_)))
  refine zi_if_eq (pc' := 8) (tgt := 28) X dX5_first_5 rfl rfl (fun c => ?_) (fun c => ?_)
  · replace h := zok_t h c
    refine zi_aload_n (pc' := 29) X dX5_first_28 rfl rfl 0 rfl ?_
    refine zi_iconst (pc' := 30) (v := (0 : Int32)) X dX5_first_29 rfl rfl ?_
    refine zi_callVi (pc' := 33) X zl_X5_61 ha0 (by decide) [.int (0 : Int32)] rfl rfl (by decide) (Nat.le_of_ble_eq_true rfl) dX5_first_30 rfl (tX5_finding _ ha0 (zok_bd h (fun r3 m4 h => ?_)))
    exact hret _ _ _ _ dX5_first_33 trivial h
  · replace h := zok_f h c
    refine zi_aload_n (pc' := 9) X dX5_first_8 rfl rfl 0 rfl ?_
    refine zi_iload_n (pc' := 10) X dX5_first_9 rfl rfl 2 rfl ?_
    refine zi_callVi (pc' := 13) X zl_X5_96 ha0 (by decide) [.int a2] rfl rfl (by decide) (Nat.le_of_ble_eq_true rfl) dX5_first_10 rfl (tX5_isTent _ ha0 (zok_bd h (fun r5 m6 h => ?_)))
    refine zi_if_eq (pc' := 16) (tgt := 28) X dX5_first_13 rfl rfl (fun c => ?_) (fun c => ?_)
    · replace h := zok_t h c
      refine zi_aload_n (pc' := 29) X dX5_first_28 rfl rfl 0 rfl ?_
      refine zi_iconst (pc' := 30) (v := (0 : Int32)) X dX5_first_29 rfl rfl ?_
      refine zi_callVi (pc' := 33) X zl_X5_61 ha0 (by decide) [.int (0 : Int32)] rfl rfl (by decide) (Nat.le_of_ble_eq_true rfl) dX5_first_30 rfl (tX5_finding _ ha0 (zok_bd h (fun r7 m8 h => ?_)))
      exact hret _ _ _ _ dX5_first_33 trivial h
    · replace h := zok_f h c
      refine zi_iload_n (pc' := 17) X dX5_first_16 rfl rfl 1 rfl ?_
      refine zi_iload_n (pc' := 18) X dX5_first_17 rfl rfl 2 rfl ?_
      refine zi_icmp_eq (pc' := 21) (tgt := 28) X dX5_first_18 rfl rfl (fun c => ?_) (fun c => ?_)
      · replace h := zok_t h c
        refine zi_aload_n (pc' := 29) X dX5_first_28 rfl rfl 0 rfl ?_
        refine zi_iconst (pc' := 30) (v := (0 : Int32)) X dX5_first_29 rfl rfl ?_
        refine zi_callVi (pc' := 33) X zl_X5_61 ha0 (by decide) [.int (0 : Int32)] rfl rfl (by decide) (Nat.le_of_ble_eq_true rfl) dX5_first_30 rfl (tX5_finding _ ha0 (zok_bd h (fun r9 m10 h => ?_)))
        exact hret _ _ _ _ dX5_first_33 trivial h
      · replace h := zok_f h c
        refine zi_iload_n (pc' := 22) X dX5_first_21 rfl rfl 3 rfl ?_
        refine zi_callSi (pc' := 25) X zl_X5_187 [.int a3] rfl rfl (by decide) (Nat.le_of_ble_eq_true rfl) dX5_first_22 rfl (tX5_isPitch _ (zok_bd h (fun r11 m12 h => ?_)))
        refine zi_if_ne (pc' := 28) (tgt := 34) X dX5_first_25 rfl rfl (fun c => ?_) (fun c => ?_)
        · replace h := zok_f h c
          refine zi_aload_n (pc' := 35) X dX5_first_34 rfl rfl 0 rfl ?_
          refine zi_iload_n (pc' := 36) X dX5_first_35 rfl rfl 1 rfl ?_
          refine zi_iload_n (pc' := 37) X dX5_first_36 rfl rfl 2 rfl ?_
          refine zi_iload_n (pc' := 38) X dX5_first_37 rfl rfl 3 rfl ?_
          refine zi_callVi (pc' := 41) X zl_X5_200 ha0 (by decide) [.int a1, .int a2, .int a3] rfl rfl (by decide) (Nat.le_of_ble_eq_true rfl) dX5_first_38 rfl (tX5_sumAfterBoth _ ha0 (zok_bd h (fun r13 m14 h => ?_)))
          refine zi_aload_n (pc' := 42) X dX5_first_41 rfl rfl 0 rfl ?_
          refine zi_iload_n (pc' := 43) X dX5_first_42 rfl rfl 2 rfl ?_
          refine zi_iload_n (pc' := 44) X dX5_first_43 rfl rfl 1 rfl ?_
          refine zi_iload_n (pc' := 45) X dX5_first_44 rfl rfl 3 rfl ?_
          refine zi_callVi (pc' := 48) X zl_X5_200 ha0 (by decide) [.int a2, .int a1, .int a3] rfl rfl (by decide) (Nat.le_of_ble_eq_true rfl) dX5_first_45 rfl (tX5_sumAfterBoth _ ha0 (zok_bd h (fun r15 m16 h => ?_)))
          refine zi_isub (pc' := 49) X dX5_first_48 rfl ?_
          exact hret _ _ _ _ dX5_first_49 trivial h
        · replace h := zok_t h c
          refine zi_aload_n (pc' := 29) X dX5_first_28 rfl rfl 0 rfl ?_
          refine zi_iconst (pc' := 30) (v := (0 : Int32)) X dX5_first_29 rfl rfl ?_
          refine zi_callVi (pc' := 33) X zl_X5_61 ha0 (by decide) [.int (0 : Int32)] rfl rfl (by decide) (Nat.le_of_ble_eq_true rfl) dX5_first_30 rfl (tX5_finding _ ha0 (zok_bd h (fun r17 m18 h => ?_)))
          exact hret _ _ _ _ dX5_first_33 trivial h
def fX5_go (a0 : Nat) (a1 : Int32) (μ : zMem) : Option (Int32 × zMem) :=
  zbd (fX5_within a1 (1 : Int32) (60 : Int32) μ) fun r1 m2 =>
  if r1 = 0 then
    zbd (fX5_finding a0 (0 : Int32) m2) fun r12 m13 =>
    some (r12, m13)
  else
    if ((m2 (a0 + 1) 5) + a1) ≤ (99999 : Int32) then
      zbd (fX0_passDays (a0 + 1) a1 m2) fun _ m6 =>
      zbd (fX0_heightSum (a0 + 1) m6) fun r8 m9 =>
      some (r8, m9)
    else
      zbd (fX5_finding a0 (4 : Int32) m2) fun r10 m11 =>
      some (r10, m11)
set_option maxRecDepth 100000 in
set_option maxHeartbeats 4000000 in
theorem tX5_go (g : zG) {a0 : Nat} {a1 : Int32} {μ : zMem} {Q : Int32 → zMem → Prop} (ha0 : zkd a0 = 5) (h : zok (fX5_go a0 a1 μ) Q) : zTi g yX5_go cX5_go 2 .int 5 [.ref (zad g a0), .int a1] μ Q := by
  refine zTi_of (P := fun r => True) zpi RX5 (by decide) rfl (Nat.le_of_ble_eq_true rfl) ?_
  intro κ X hret
  unfold fX5_go at h
  refine zi_iload_n (pc' := 1) X dX5_go_0 rfl rfl 1 rfl ?_
  refine zi_iconst (pc' := 2) (v := (1 : Int32)) X dX5_go_1 rfl rfl ?_
  refine zi_bipush (pc' := 4) (v := (60 : Int32)) X dX5_go_2 rfl rfl ?_
  refine zi_callSi (pc' := 7) X zl_X5_68 [.int a1, .int (1 : Int32), .int (60 : Int32)] rfl rfl (by decide) (Nat.le_of_ble_eq_true rfl) dX5_go_4 rfl (tX5_within _ (zok_bd h (fun r1 m2 h => ?_)))
  refine zi_if_ne (pc' := 10) (tgt := 16) X dX5_go_7 rfl rfl (fun c => ?_) (fun c => ?_)
  · replace h := zok_f h c
    refine zi_aload_n (pc' := 17) X dX5_go_16 rfl rfl 0 rfl ?_
    refine zi_getr (pc' := 20) X zf_X5_10 rfl (by decide) ha0 dX5_go_17 rfl ?_
    have f3 := zr_5_0 ha0
    refine zi_geti (pc' := 23) X zf_X5_119 rfl (by decide) f3 dX5_go_20 rfl ?_
    refine zi_iload_n (pc' := 24) X dX5_go_23 rfl rfl 1 rfl ?_
    refine zi_iadd (pc' := 25) X dX5_go_24 rfl ?_
    refine zi_ldc (pc' := 27) X dX5_go_25 rfl zk_X5_122 ?_
    refine zi_icmp_le (pc' := 30) (tgt := 36) X dX5_go_27 rfl rfl (fun c => ?_) (fun c => ?_)
    · replace h := zok_t h c
      refine zi_aload_n (pc' := 37) X dX5_go_36 rfl rfl 0 rfl ?_
      refine zi_getr (pc' := 40) X zf_X5_10 rfl (by decide) ha0 dX5_go_37 rfl ?_
      have f4 := zr_5_0 ha0
      refine zi_iload_n (pc' := 41) X dX5_go_40 rfl rfl 1 rfl ?_
      refine zi_callVv (pc' := 44) X zl_X5_123 f4 (by decide) [.int a1] rfl rfl (by decide) (Nat.le_of_ble_eq_true rfl) dX5_go_41 rfl (tX0_passDays _ f4 (zok_bd h (fun _ m6 h => ?_)))
      refine zi_aload_n (pc' := 45) X dX5_go_44 rfl rfl 0 rfl ?_
      refine zi_getr (pc' := 48) X zf_X5_10 rfl (by decide) ha0 dX5_go_45 rfl ?_
      have f7 := zr_5_0 ha0
      refine zi_callVi (pc' := 51) X zl_X5_126 f7 (by decide) [] rfl rfl (by decide) (Nat.le_of_ble_eq_true rfl) dX5_go_48 rfl (tX0_heightSum _ f7 (zok_bd h (fun r8 m9 h => ?_)))
      exact hret _ _ _ _ dX5_go_51 trivial h
    · replace h := zok_f h c
      refine zi_aload_n (pc' := 31) X dX5_go_30 rfl rfl 0 rfl ?_
      refine zi_iconst (pc' := 32) (v := (4 : Int32)) X dX5_go_31 rfl rfl ?_
      refine zi_callVi (pc' := 35) X zl_X5_61 ha0 (by decide) [.int (4 : Int32)] rfl rfl (by decide) (Nat.le_of_ble_eq_true rfl) dX5_go_32 rfl (tX5_finding _ ha0 (zok_bd h (fun r10 m11 h => ?_)))
      exact hret _ _ _ _ dX5_go_35 trivial h
  · replace h := zok_t h c
    refine zi_aload_n (pc' := 11) X dX5_go_10 rfl rfl 0 rfl ?_
    refine zi_iconst (pc' := 12) (v := (0 : Int32)) X dX5_go_11 rfl rfl ?_
    refine zi_callVi (pc' := 15) X zl_X5_61 ha0 (by decide) [.int (0 : Int32)] rfl rfl (by decide) (Nat.le_of_ble_eq_true rfl) dX5_go_12 rfl (tX5_finding _ ha0 (zok_bd h (fun r12 m13 h => ?_)))
    exact hret _ _ _ _ dX5_go_15 trivial h
def fX5_kindFor_33 : Nat → Nat → Int32 → Int32 → Int32 → Int32 → Int32 → zMem → Option (Int32 × zMem)
  | 0, _, _, _, _, _, _, _ => none
  | n + 1, a0, a1, a2, a3, a4, a5, μ =>
    if (7 : Int32) ≤ a5 then
      some (a3, μ)
    else
      zbd (fX0_becomeLike (a0 + 33) (a0 + 1) μ) fun _ m10 =>
      zgd (zib a1 6) (
      zbd (fX0_passDays (a0 + 33) a2 (zst m10 (((a0 + 33) + 3) + 1 + 2 * (a1).toNatClampNeg) 0 a5)) fun _ m17 =>
      zbd (fX0_relief (a0 + 33) m17) fun r19 m20 =>
      if a4 ≤ r19 then
        fX5_kindFor_33 n a0 a1 a2 a3 a4 (a5 + (1 : Int32)) m20
      else
        fX5_kindFor_33 n a0 a1 a2 a5 r19 (a5 + (1 : Int32)) m20)
set_option maxRecDepth 100000 in
theorem lX5_kindFor_33 {g : zG} {κ : zK} (X : zC g κ RX5 cX5_kindFor 7 5) {Q : Int32 → zMem → Prop} (hret : ∀ pc lv r μ', decode cX5_kindFor pc = .ok (.ireturn, 1) → True → Q r μ' → zV g κ pc lv [.int r] μ') : ∀ (n : Nat) (a0 : Nat) (a1 : Int32) (a2 : Int32) (a3 : Int32) (a4 : Int32) (a5 : Int32) (μ : zMem) (ha0 : zkd a0 = 5), zok (fX5_kindFor_33 n a0 a1 a2 a3 a4 a5 μ) Q → zV g κ 33 [(0, .ref (zad g a0)), (1, .int a1), (2, .int a2), (3, .int a3), (4, .int a4), (5, .int a5)] [] μ := by
  intro n
  induction n with
  | zero =>
    intro a0 a1 a2 a3 a4 a5 μ ha0 h
    exact h.elim
  | succ n ih =>
    intro a0 a1 a2 a3 a4 a5 μ ha0 h
    rw [fX5_kindFor_33] at h
    refine zi_iload (pc' := 35) X dX5_kindFor_33 rfl 5 rfl ?_
    refine zi_bipush (pc' := 37) (v := (7 : Int32)) X dX5_kindFor_35 rfl rfl ?_
    refine zi_icmp_ge (pc' := 40) (tgt := 102) X dX5_kindFor_37 rfl rfl (fun c => ?_) (fun c => ?_)
    · replace h := zok_t h c
      refine zi_iload_n (pc' := 103) X dX5_kindFor_102 rfl rfl 3 rfl ?_
      exact hret _ _ _ _ dX5_kindFor_103 trivial h
    · replace h := zok_f h c
      refine zi_aload_n (pc' := 41) X dX5_kindFor_40 rfl rfl 0 rfl ?_
      refine zi_getr (pc' := 44) X zf_X5_19 rfl (by decide) ha0 dX5_kindFor_41 rfl ?_
      have f7 := zr_5_2 ha0
      refine zi_aload_n (pc' := 45) X dX5_kindFor_44 rfl rfl 0 rfl ?_
      refine zi_getr (pc' := 48) X zf_X5_10 rfl (by decide) ha0 dX5_kindFor_45 rfl ?_
      have f8 := zr_5_0 ha0
      refine zi_callVv (pc' := 51) X zl_X5_159 f7 (by decide) [.ref (zad g (a0 + 1))] rfl rfl (by decide) (Nat.le_of_ble_eq_true rfl) dX5_kindFor_48 rfl (tX0_becomeLike _ f7 f8 (zok_bd h (fun _ m10 h => ?_)))
      refine zi_aload_n (pc' := 52) X dX5_kindFor_51 rfl rfl 0 rfl ?_
      refine zi_getr (pc' := 55) X zf_X5_19 rfl (by decide) ha0 dX5_kindFor_52 rfl ?_
      have f11 := zr_5_2 ha0
      refine zi_getr (pc' := 58) X zf_X5_99 rfl (by decide) f11 dX5_kindFor_55 rfl ?_
      have f12 := zr_0_2 f11
      refine zi_iload_n (pc' := 59) X dX5_kindFor_58 rfl rfl 1 rfl ?_
      obtain ⟨g13, h⟩ := zok_g h
      refine zi_aaldT (pc' := 60) X f12.1 (by rw [f12.2]; exact g13) dX5_kindFor_59 rfl ?_
      have f14 := zr_tent f12 g13
      refine zi_iload (pc' := 62) X dX5_kindFor_60 rfl 5 rfl ?_
      refine zi_put (pc' := 65) X zf_X5_197 zw_4_0 rfl (by decide) f14 rfl rfl dX5_kindFor_62 rfl ?_
      refine zi_aload_n (pc' := 66) X dX5_kindFor_65 rfl rfl 0 rfl ?_
      refine zi_getr (pc' := 69) X zf_X5_19 rfl (by decide) ha0 dX5_kindFor_66 rfl ?_
      have f15 := zr_5_2 ha0
      refine zi_iload_n (pc' := 70) X dX5_kindFor_69 rfl rfl 2 rfl ?_
      refine zi_callVv (pc' := 73) X zl_X5_123 f15 (by decide) [.int a2] rfl rfl (by decide) (Nat.le_of_ble_eq_true rfl) dX5_kindFor_70 rfl (tX0_passDays _ f15 (zok_bd h (fun _ m17 h => ?_)))
      refine zi_aload_n (pc' := 74) X dX5_kindFor_73 rfl rfl 0 rfl ?_
      refine zi_getr (pc' := 77) X zf_X5_19 rfl (by decide) ha0 dX5_kindFor_74 rfl ?_
      have f18 := zr_5_2 ha0
      refine zi_callVi (pc' := 80) X zl_X5_138 f18 (by decide) [] rfl rfl (by decide) (Nat.le_of_ble_eq_true rfl) dX5_kindFor_77 rfl (tX0_relief _ f18 (zok_bd h (fun r19 m20 h => ?_)))
      refine zi_istore (pc' := 82) X dX5_kindFor_80 rfl (by decide) [(6, .int r19), (0, .ref (zad g a0)), (1, .int a1), (2, .int a2), (3, .int a3), (4, .int a4), (5, .int a5)] rfl ?_
      refine zi_iload (pc' := 84) X dX5_kindFor_82 rfl 0 rfl ?_
      refine zi_iload (pc' := 86) X dX5_kindFor_84 rfl 5 rfl ?_
      refine zi_icmp_ge (pc' := 89) (tgt := 96) X dX5_kindFor_86 rfl rfl (fun c => ?_) (fun c => ?_)
      · replace h := zok_t h c
        refine zi_iinc (pc' := 99) (v := (a5 + (1 : Int32))) X dX5_kindFor_96 rfl 6 rfl rfl (by decide) [(5, .int (a5 + (1 : Int32))), (6, .int r19), (0, .ref (zad g a0)), (1, .int a1), (2, .int a2), (3, .int a3), (4, .int a4)] rfl ?_
        refine zi_goto (pc' := 33) X dX5_kindFor_99 rfl ?_
        exact zi_sub X [2, 3, 4, 5, 6, 0] _ rfl (ih a0 a1 a2 a3 a4 (a5 + (1 : Int32)) (m20) ha0 h)
      · replace h := zok_f h c
        refine zi_iload (pc' := 91) X dX5_kindFor_89 rfl 0 rfl ?_
        refine zi_istore (pc' := 93) X dX5_kindFor_91 rfl (by decide) [(4, .int r19), (6, .int r19), (0, .ref (zad g a0)), (1, .int a1), (2, .int a2), (3, .int a3), (5, .int a5)] rfl ?_
        refine zi_iload (pc' := 95) X dX5_kindFor_93 rfl 6 rfl ?_
        refine zi_istore_n (pc' := 96) X dX5_kindFor_95 rfl rfl (by decide) [(3, .int a5), (4, .int r19), (6, .int r19), (0, .ref (zad g a0)), (1, .int a1), (2, .int a2), (5, .int a5)] rfl ?_
        refine zi_iinc (pc' := 99) (v := (a5 + (1 : Int32))) X dX5_kindFor_96 rfl 6 rfl rfl (by decide) [(5, .int (a5 + (1 : Int32))), (3, .int a5), (4, .int r19), (6, .int r19), (0, .ref (zad g a0)), (1, .int a1), (2, .int a2)] rfl ?_
        refine zi_goto (pc' := 33) X dX5_kindFor_99 rfl ?_
        exact zi_sub X [4, 5, 6, 1, 2, 0] _ rfl (ih a0 a1 a2 a5 r19 (a5 + (1 : Int32)) (m20) ha0 h)
def fX5_kindFor (a0 : Nat) (a1 : Int32) (a2 : Int32) (μ : zMem) : Option (Int32 × zMem) :=
  zbd (fX5_isTent a0 a1 μ) fun r1 m2 =>
  if r1 = 0 then
    zbd (fX5_finding a0 (0 : Int32) m2) fun r3 m4 =>
    some (r3, m4)
  else
    zbd (fX5_within a2 (0 : Int32) (60 : Int32) m2) fun r5 m6 =>
    if r5 = 0 then
      zbd (fX5_finding a0 (0 : Int32) m6) fun r21 m22 =>
      some (r21, m22)
    else
      fX5_kindFor_33 200 a0 a1 a2 (0 : Int32) (100 : Int32) (0 : Int32) m6
set_option maxRecDepth 100000 in
set_option maxHeartbeats 4000000 in
theorem tX5_kindFor (g : zG) {a0 : Nat} {a1 : Int32} {a2 : Int32} {μ : zMem} {Q : Int32 → zMem → Prop} (ha0 : zkd a0 = 5) (h : zok (fX5_kindFor a0 a1 a2 μ) Q) : zTi g yX5_kindFor cX5_kindFor 7 .int 5 [.ref (zad g a0), .int a1, .int a2] μ Q := by
  refine zTi_of (P := fun r => True) zpi RX5 (by decide) rfl (Nat.le_of_ble_eq_true rfl) ?_
  intro κ X hret
  unfold fX5_kindFor at h
  refine zi_aload_n (pc' := 1) X dX5_kindFor_0 rfl rfl 0 rfl ?_
  refine zi_iload_n (pc' := 2) X dX5_kindFor_1 rfl rfl 1 rfl ?_
  refine zi_callVi (pc' := 5) X zl_X5_96 ha0 (by decide) [.int a1] rfl rfl (by decide) (Nat.le_of_ble_eq_true rfl) dX5_kindFor_2 rfl (tX5_isTent _ ha0 (zok_bd h (fun r1 m2 h => ?_)))
  refine zi_if_eq (pc' := 8) (tgt := 18) X dX5_kindFor_5 rfl rfl (fun c => ?_) (fun c => ?_)
  · replace h := zok_t h c
    refine zi_aload_n (pc' := 19) X dX5_kindFor_18 rfl rfl 0 rfl ?_
    refine zi_iconst (pc' := 20) (v := (0 : Int32)) X dX5_kindFor_19 rfl rfl ?_
    refine zi_callVi (pc' := 23) X zl_X5_61 ha0 (by decide) [.int (0 : Int32)] rfl rfl (by decide) (Nat.le_of_ble_eq_true rfl) dX5_kindFor_20 rfl (tX5_finding _ ha0 (zok_bd h (fun r3 m4 h => ?_)))
    exact hret _ _ _ _ dX5_kindFor_23 trivial h
  · replace h := zok_f h c
    refine zi_iload_n (pc' := 9) X dX5_kindFor_8 rfl rfl 2 rfl ?_
    refine zi_iconst (pc' := 10) (v := (0 : Int32)) X dX5_kindFor_9 rfl rfl ?_
    refine zi_bipush (pc' := 12) (v := (60 : Int32)) X dX5_kindFor_10 rfl rfl ?_
    refine zi_callSi (pc' := 15) X zl_X5_68 [.int a2, .int (0 : Int32), .int (60 : Int32)] rfl rfl (by decide) (Nat.le_of_ble_eq_true rfl) dX5_kindFor_12 rfl (tX5_within _ (zok_bd h (fun r5 m6 h => ?_)))
    refine zi_if_ne (pc' := 18) (tgt := 24) X dX5_kindFor_15 rfl rfl (fun c => ?_) (fun c => ?_)
    · replace h := zok_f h c
      refine zi_iconst (pc' := 25) (v := (0 : Int32)) X dX5_kindFor_24 rfl rfl ?_
      refine zi_istore_n (pc' := 26) X dX5_kindFor_25 rfl rfl (by decide) [(3, .int (0 : Int32)), (0, .ref (zad g a0)), (1, .int a1), (2, .int a2)] rfl ?_
      refine zi_bipush (pc' := 28) (v := (100 : Int32)) X dX5_kindFor_26 rfl rfl ?_
      refine zi_istore (pc' := 30) X dX5_kindFor_28 rfl (by decide) [(4, .int (100 : Int32)), (3, .int (0 : Int32)), (0, .ref (zad g a0)), (1, .int a1), (2, .int a2)] rfl ?_
      refine zi_iconst (pc' := 31) (v := (0 : Int32)) X dX5_kindFor_30 rfl rfl ?_
      refine zi_istore (pc' := 33) X dX5_kindFor_31 rfl (by decide) [(5, .int (0 : Int32)), (4, .int (100 : Int32)), (3, .int (0 : Int32)), (0, .ref (zad g a0)), (1, .int a1), (2, .int a2)] rfl ?_
      exact zi_sub X [3, 4, 5, 2, 1, 0] _ rfl (lX5_kindFor_33 X hret 200 a0 a1 a2 (0 : Int32) (100 : Int32) (0 : Int32) (m6) ha0 h)
    · replace h := zok_t h c
      refine zi_aload_n (pc' := 19) X dX5_kindFor_18 rfl rfl 0 rfl ?_
      refine zi_iconst (pc' := 20) (v := (0 : Int32)) X dX5_kindFor_19 rfl rfl ?_
      refine zi_callVi (pc' := 23) X zl_X5_61 ha0 (by decide) [.int (0 : Int32)] rfl rfl (by decide) (Nat.le_of_ble_eq_true rfl) dX5_kindFor_20 rfl (tX5_finding _ ha0 (zok_bd h (fun r21 m22 h => ?_)))
      exact hret _ _ _ _ dX5_kindFor_23 trivial h
def fX5_text (a0 : Nat) (μ : zMem) : Option (Int32 × zMem) :=
  zbd (fX0_becomeLike (a0 + 33) (a0 + 1) μ) fun _ m4 =>
  zbd (fX3_readText (a0 + 53) (a0 + 33) m4) fun r7 m8 =>
  if r7 < 0 then
    some (r7, (zst m8 (a0 + 53) 1 (0 : Int32)))
  else
    zbd (fX0_becomeLike (a0 + 1) (a0 + 33) (zst m8 (a0 + 53) 1 (0 : Int32))) fun _ m13 =>
    some (r7, m13)
set_option maxRecDepth 100000 in
set_option maxHeartbeats 4000000 in
theorem tX5_text (g : zG) {a0 : Nat} {μ : zMem} {Q : Int32 → zMem → Prop} (ha0 : zkd a0 = 5) (h : zok (fX5_text a0 μ) Q) : zTi g yX5_text cX5_text 2 .int 9 [.ref (zad g a0)] μ Q := by
  refine zTi_of (P := fun r => True) zpi RX5 (by decide) rfl (Nat.le_of_ble_eq_true rfl) ?_
  intro κ X hret
  unfold fX5_text at h
  refine zi_aload_n (pc' := 1) X dX5_text_0 rfl rfl 0 rfl ?_
  refine zi_getr (pc' := 4) X zf_X5_19 rfl (by decide) ha0 dX5_text_1 rfl ?_
  have f1 := zr_5_2 ha0
  refine zi_aload_n (pc' := 5) X dX5_text_4 rfl rfl 0 rfl ?_
  refine zi_getr (pc' := 8) X zf_X5_10 rfl (by decide) ha0 dX5_text_5 rfl ?_
  have f2 := zr_5_0 ha0
  refine zi_callVv (pc' := 11) X zl_X5_159 f1 (by decide) [.ref (zad g (a0 + 1))] rfl rfl (by decide) (Nat.le_of_ble_eq_true rfl) dX5_text_8 rfl (tX0_becomeLike _ f1 f2 (zok_bd h (fun _ m4 h => ?_)))
  refine zi_aload_n (pc' := 12) X dX5_text_11 rfl rfl 0 rfl ?_
  refine zi_getr (pc' := 15) X zf_X5_32 rfl (by decide) ha0 dX5_text_12 rfl ?_
  have f5 := zr_5_4 ha0
  refine zi_aload_n (pc' := 16) X dX5_text_15 rfl rfl 0 rfl ?_
  refine zi_getr (pc' := 19) X zf_X5_19 rfl (by decide) ha0 dX5_text_16 rfl ?_
  have f6 := zr_5_2 ha0
  refine zi_callVi (pc' := 22) X zl_X5_239 f5 (by decide) [.ref (zad g (a0 + 33))] rfl rfl (by decide) (Nat.le_of_ble_eq_true rfl) dX5_text_19 rfl (tX3_readText _ f5 f6 (zok_bd h (fun r7 m8 h => ?_)))
  refine zi_istore_n (pc' := 23) X dX5_text_22 rfl rfl (by decide) [(1, .int r7), (0, .ref (zad g a0))] rfl ?_
  refine zi_aload_n (pc' := 24) X dX5_text_23 rfl rfl 1 rfl ?_
  refine zi_getr (pc' := 27) X zf_X5_32 rfl (by decide) ha0 dX5_text_24 rfl ?_
  have f9 := zr_5_4 ha0
  refine zi_iconst (pc' := 28) (v := (0 : Int32)) X dX5_text_27 rfl rfl ?_
  refine zi_put (pc' := 31) X zf_X5_233 zw_3_1 rfl (by decide) f9 rfl rfl dX5_text_28 rfl ?_
  refine zi_iload_n (pc' := 32) X dX5_text_31 rfl rfl 0 rfl ?_
  refine zi_if_lt (pc' := 35) (tgt := 46) X dX5_text_32 rfl rfl (fun c => ?_) (fun c => ?_)
  · replace h := zok_t h c
    refine zi_iload_n (pc' := 47) X dX5_text_46 rfl rfl 0 rfl ?_
    exact hret _ _ _ _ dX5_text_47 trivial h
  · replace h := zok_f h c
    refine zi_aload_n (pc' := 36) X dX5_text_35 rfl rfl 1 rfl ?_
    refine zi_getr (pc' := 39) X zf_X5_10 rfl (by decide) ha0 dX5_text_36 rfl ?_
    have f10 := zr_5_0 ha0
    refine zi_aload_n (pc' := 40) X dX5_text_39 rfl rfl 1 rfl ?_
    refine zi_getr (pc' := 43) X zf_X5_19 rfl (by decide) ha0 dX5_text_40 rfl ?_
    have f11 := zr_5_2 ha0
    refine zi_callVv (pc' := 46) X zl_X5_159 f10 (by decide) [.ref (zad g (a0 + 33))] rfl rfl (by decide) (Nat.le_of_ble_eq_true rfl) dX5_text_43 rfl (tX0_becomeLike _ f10 f11 (zok_bd h (fun _ m13 h => ?_)))
    refine zi_iload_n (pc' := 47) X dX5_text_46 rfl rfl 0 rfl ?_
    exact hret _ _ _ _ dX5_text_47 trivial h
def fX6_aboveOf (a0 : Int32) (μ : zMem) : Option (Int32 × zMem) :=
  if a0 = (3 : Int32) then
    some ((2 : Int32), μ)
  else
    if a0 = (4 : Int32) then
      some ((3 : Int32), μ)
    else
      if a0 = (6 : Int32) then
        some ((1 : Int32), μ)
      else
        some ((0 : Int32), μ)
set_option maxRecDepth 100000 in
set_option maxHeartbeats 4000000 in
theorem tX6_aboveOf (g : zG) {a0 : Int32} {μ : zMem} {Q : Int32 → zMem → Prop} (h : zok (fX6_aboveOf a0 μ) Q) : zTi g yX6_aboveOf cX6_aboveOf 1 .int 0 [.int a0] μ Q := by
  refine zTi_of (P := fun r => True) zpi RX6 (by decide) rfl (Nat.le_of_ble_eq_true rfl) ?_
  intro κ X hret
  unfold fX6_aboveOf at h
  refine zi_iload_n (pc' := 1) X dX6_aboveOf_0 rfl rfl 0 rfl ?_
  refine zi_iconst (pc' := 2) (v := (3 : Int32)) X dX6_aboveOf_1 rfl rfl ?_
  refine zi_icmp_ne (pc' := 5) (tgt := 9) X dX6_aboveOf_2 rfl rfl (fun c => ?_) (fun c => ?_)
  · replace h := zok_f h c
    refine zi_iload_n (pc' := 10) X dX6_aboveOf_9 rfl rfl 0 rfl ?_
    refine zi_iconst (pc' := 11) (v := (4 : Int32)) X dX6_aboveOf_10 rfl rfl ?_
    refine zi_icmp_ne (pc' := 14) (tgt := 18) X dX6_aboveOf_11 rfl rfl (fun c => ?_) (fun c => ?_)
    · replace h := zok_f h c
      refine zi_iload_n (pc' := 19) X dX6_aboveOf_18 rfl rfl 0 rfl ?_
      refine zi_bipush (pc' := 21) (v := (6 : Int32)) X dX6_aboveOf_19 rfl rfl ?_
      refine zi_icmp_ne (pc' := 24) (tgt := 28) X dX6_aboveOf_21 rfl rfl (fun c => ?_) (fun c => ?_)
      · replace h := zok_f h c
        refine zi_iconst (pc' := 29) (v := (0 : Int32)) X dX6_aboveOf_28 rfl rfl ?_
        exact hret _ _ _ _ dX6_aboveOf_29 trivial h
      · replace h := zok_t h c
        refine zi_iconst (pc' := 25) (v := (1 : Int32)) X dX6_aboveOf_24 rfl rfl ?_
        refine zi_goto (pc' := 29) X dX6_aboveOf_25 rfl ?_
        exact hret _ _ _ _ dX6_aboveOf_29 trivial h
    · replace h := zok_t h c
      refine zi_iconst (pc' := 15) (v := (3 : Int32)) X dX6_aboveOf_14 rfl rfl ?_
      refine zi_goto (pc' := 29) X dX6_aboveOf_15 rfl ?_
      exact hret _ _ _ _ dX6_aboveOf_29 trivial h
  · replace h := zok_t h c
    refine zi_iconst (pc' := 6) (v := (2 : Int32)) X dX6_aboveOf_5 rfl rfl ?_
    refine zi_goto (pc' := 29) X dX6_aboveOf_6 rfl ?_
    exact hret _ _ _ _ dX6_aboveOf_29 trivial h
def fX6_become_2 : Nat → Nat → Nat → Int32 → zMem → Option (Unit × zMem)
  | 0, _, _, _, _ => none
  | n + 1, a0, a1, a2, μ =>
    if (87 : Int32) ≤ a2 then
      some ((), μ)
    else
      zgd (zib a2 (zln a0)) (
      zgd (zib a2 (zln a1)) (
      fX6_become_2 n a0 a1 (a2 + (1 : Int32)) (zst μ a1 (a2).toNatClampNeg (μ a0 (a2).toNatClampNeg))))
set_option maxRecDepth 100000 in
theorem lX6_become_2 {g : zG} {κ : zK} (X : zC g κ RX6 cX6_become 3 0) {Q : Unit → zMem → Prop} (hret : ∀ pc lv μ', decode cX6_become pc = .ok (.return_, 1) → Q () μ' → zV g κ pc lv [] μ') : ∀ (n : Nat) (a0 : Nat) (a1 : Nat) (a2 : Int32) (μ : zMem) (ha0 : zR a0 7 (zln a0)) (ha1 : zR a1 7 (zln a1)), zok (fX6_become_2 n a0 a1 a2 μ) Q → zV g κ 2 [(0, .ref (zad g a0)), (1, .ref (zad g a1)), (2, .int a2)] [] μ := by
  intro n
  induction n with
  | zero =>
    intro a0 a1 a2 μ ha0 ha1 h
    exact h.elim
  | succ n ih =>
    intro a0 a1 a2 μ ha0 ha1 h
    rw [fX6_become_2] at h
    refine zi_iload_n (pc' := 3) X dX6_become_2 rfl rfl 2 rfl ?_
    refine zi_bipush (pc' := 5) (v := (87 : Int32)) X dX6_become_3 rfl rfl ?_
    refine zi_icmp_ge (pc' := 8) (tgt := 20) X dX6_become_5 rfl rfl (fun c => ?_) (fun c => ?_)
    · replace h := zok_t h c
      exact hret _ _ _ dX6_become_20 h
    · replace h := zok_f h c
      refine zi_aload_n (pc' := 9) X dX6_become_8 rfl rfl 1 rfl ?_
      refine zi_iload_n (pc' := 10) X dX6_become_9 rfl rfl 2 rfl ?_
      refine zi_aload_n (pc' := 11) X dX6_become_10 rfl rfl 0 rfl ?_
      refine zi_iload_n (pc' := 12) X dX6_become_11 rfl rfl 2 rfl ?_
      obtain ⟨g1, h⟩ := zok_g h
      refine zi_iald (pc' := 13) X ha0.1 (by rw [ha0.2]; exact g1) dX6_become_12 rfl ?_
      obtain ⟨g2, h⟩ := zok_g h
      refine zi_iast (pc' := 14) X ha1.1 (by rw [ha1.2]; exact g2) dX6_become_13 rfl ?_
      refine zi_iinc (pc' := 17) (v := (a2 + (1 : Int32))) X dX6_become_14 rfl 2 rfl rfl (by decide) [(2, .int (a2 + (1 : Int32))), (0, .ref (zad g a0)), (1, .ref (zad g a1))] rfl ?_
      refine zi_goto (pc' := 2) X dX6_become_17 rfl ?_
      exact zi_sub X [1, 2, 0] _ rfl (ih a0 a1 (a2 + (1 : Int32)) ((zst μ a1 (a2).toNatClampNeg (μ a0 (a2).toNatClampNeg))) ha0 ha1 h)
def fX6_become (a0 : Nat) (a1 : Nat) (μ : zMem) : Option (Unit × zMem) :=
  fX6_become_2 200 a0 a1 (0 : Int32) μ
set_option maxRecDepth 100000 in
set_option maxHeartbeats 4000000 in
theorem tX6_become (g : zG) {a0 : Nat} {a1 : Nat} {μ : zMem} {Q : Unit → zMem → Prop} (ha0 : zkd a0 = 7) (ha1 : zkd a1 = 7) (h : zok (fX6_become a0 a1 μ) Q) : zTv g yX6_become cX6_become 3 0 [.ref (zad g a0), .ref (zad g a1)] μ Q := by
  refine zTv_of RX6 (by decide) rfl (Nat.le_of_ble_eq_true rfl) ?_
  intro κ X hret
  unfold fX6_become at h
  have ha0 : zR a0 7 (zln a0) := ⟨ha0, rfl⟩
  have ha1 : zR a1 7 (zln a1) := ⟨ha1, rfl⟩
  refine zi_iconst (pc' := 1) (v := (0 : Int32)) X dX6_become_0 rfl rfl ?_
  refine zi_istore_n (pc' := 2) X dX6_become_1 rfl rfl (by decide) [(2, .int (0 : Int32)), (0, .ref (zad g a0)), (1, .ref (zad g a1))] rfl ?_
  exact zi_sub X [1, 2, 0] _ rfl (lX6_become_2 X hret 200 a0 a1 (0 : Int32) (μ) ha0 ha1 h)
def fX6_becomes (a0 : Nat) (a1 : Int32) (a2 : Int32) (μ : zMem) : Option (Int32 × zMem) :=
  zgd (zib a1 87) (
  zgd (zib a1 87) (
  some ((μ (a0 + 1) (a1).toNatClampNeg), (zst μ (a0 + 1) (a1).toNatClampNeg a2))))
set_option maxRecDepth 100000 in
set_option maxHeartbeats 4000000 in
theorem tX6_becomes (g : zG) {a0 : Nat} {a1 : Int32} {a2 : Int32} {μ : zMem} {Q : Int32 → zMem → Prop} (ha0 : zkd a0 = 6) (h : zok (fX6_becomes a0 a1 a2 μ) Q) : zTi g yX6_becomes cX6_becomes 4 .int 0 [.ref (zad g a0), .int a1, .int a2] μ Q := by
  refine zTi_of (P := fun r => True) zpi RX6 (by decide) rfl (Nat.le_of_ble_eq_true rfl) ?_
  intro κ X hret
  unfold fX6_becomes at h
  refine zi_aload_n (pc' := 1) X dX6_becomes_0 rfl rfl 0 rfl ?_
  refine zi_getr (pc' := 4) X zf_X6_9 rfl (by decide) ha0 dX6_becomes_1 rfl ?_
  have f1 := zr_6_0 ha0
  refine zi_iload_n (pc' := 5) X dX6_becomes_4 rfl rfl 1 rfl ?_
  obtain ⟨g2, h⟩ := zok_g h
  refine zi_iald (pc' := 6) X f1.1 (by rw [f1.2]; exact g2) dX6_becomes_5 rfl ?_
  refine zi_istore_n (pc' := 7) X dX6_becomes_6 rfl rfl (by decide) [(3, .int (μ (a0 + 1) (a1).toNatClampNeg)), (0, .ref (zad g a0)), (1, .int a1), (2, .int a2)] rfl ?_
  refine zi_aload_n (pc' := 8) X dX6_becomes_7 rfl rfl 1 rfl ?_
  refine zi_getr (pc' := 11) X zf_X6_9 rfl (by decide) ha0 dX6_becomes_8 rfl ?_
  have f3 := zr_6_0 ha0
  refine zi_iload_n (pc' := 12) X dX6_becomes_11 rfl rfl 2 rfl ?_
  refine zi_iload_n (pc' := 13) X dX6_becomes_12 rfl rfl 3 rfl ?_
  obtain ⟨g4, h⟩ := zok_g h
  refine zi_iast (pc' := 14) X f3.1 (by rw [f3.2]; exact g4) dX6_becomes_13 rfl ?_
  refine zi_iload_n (pc' := 15) X dX6_becomes_14 rfl rfl 0 rfl ?_
  exact hret _ _ _ _ dX6_becomes_15 trivial h
def fX6_cellOf (a0 : Int32) (a1 : Int32) (μ : zMem) : Option (Int32 × zMem) :=
  some (((((5 : Int32) * ((a0 / (4 : Int32)) + (a1 / (2 : Int32)))) + (a0 - a0 / (4 : Int32) * (4 : Int32))) + (a1 - a1 / (2 : Int32) * (2 : Int32))), μ)
set_option maxRecDepth 100000 in
set_option maxHeartbeats 4000000 in
theorem tX6_cellOf (g : zG) {a0 : Int32} {a1 : Int32} {μ : zMem} {Q : Int32 → zMem → Prop} (h : zok (fX6_cellOf a0 a1 μ) Q) : zTi g yX6_cellOf cX6_cellOf 2 .int 0 [.int a0, .int a1] μ Q := by
  refine zTi_of (P := fun r => True) zpi RX6 (by decide) rfl (Nat.le_of_ble_eq_true rfl) ?_
  intro κ X hret
  unfold fX6_cellOf at h
  refine zi_iconst (pc' := 1) (v := (5 : Int32)) X dX6_cellOf_0 rfl rfl ?_
  refine zi_iload_n (pc' := 2) X dX6_cellOf_1 rfl rfl 0 rfl ?_
  refine zi_iconst (pc' := 3) (v := (4 : Int32)) X dX6_cellOf_2 rfl rfl ?_
  refine zi_idiv (pc' := 4) X dX6_cellOf_3 rfl (by decide) ?_
  refine zi_iload_n (pc' := 5) X dX6_cellOf_4 rfl rfl 1 rfl ?_
  refine zi_iconst (pc' := 6) (v := (2 : Int32)) X dX6_cellOf_5 rfl rfl ?_
  refine zi_idiv (pc' := 7) X dX6_cellOf_6 rfl (by decide) ?_
  refine zi_iadd (pc' := 8) X dX6_cellOf_7 rfl ?_
  refine zi_imul (pc' := 9) X dX6_cellOf_8 rfl ?_
  refine zi_iload_n (pc' := 10) X dX6_cellOf_9 rfl rfl 0 rfl ?_
  refine zi_iconst (pc' := 11) (v := (4 : Int32)) X dX6_cellOf_10 rfl rfl ?_
  refine zi_irem (pc' := 12) X dX6_cellOf_11 rfl (by decide) ?_
  refine zi_iadd (pc' := 13) X dX6_cellOf_12 rfl ?_
  refine zi_iload_n (pc' := 14) X dX6_cellOf_13 rfl rfl 1 rfl ?_
  refine zi_iconst (pc' := 15) (v := (2 : Int32)) X dX6_cellOf_14 rfl rfl ?_
  refine zi_irem (pc' := 16) X dX6_cellOf_15 rfl (by decide) ?_
  refine zi_iadd (pc' := 17) X dX6_cellOf_16 rfl ?_
  exact hret _ _ _ _ dX6_cellOf_17 trivial h
def fX6_draw (a0 : Nat) (μ : zMem) : Option (Int32 × zMem) :=
  zgd (zib (1 : Int32) 87) (
  zgd (zib (1 : Int32) 87) (
  zgd (zib (1 : Int32) 87) (
  some ((((((zst μ (a0 + 1) ((1 : Int32)).toNatClampNeg (((μ (a0 + 1) ((1 : Int32)).toNatClampNeg) * (1103515245 : Int32)) + (12345 : Int32))) (a0 + 1) ((1 : Int32)).toNatClampNeg)).toUInt32 >>> (((8 : Int32)).toUInt32 &&& Int32.toUInt32 31)).toInt32), (zst μ (a0 + 1) ((1 : Int32)).toNatClampNeg (((μ (a0 + 1) ((1 : Int32)).toNatClampNeg) * (1103515245 : Int32)) + (12345 : Int32)))))))
set_option maxRecDepth 100000 in
set_option maxHeartbeats 4000000 in
theorem tX6_draw (g : zG) {a0 : Nat} {μ : zMem} {Q : Int32 → zMem → Prop} (ha0 : zkd a0 = 6) (h : zok (fX6_draw a0 μ) Q) : zTi g yX6_draw cX6_draw 1 .int 0 [.ref (zad g a0)] μ Q := by
  refine zTi_of (P := fun r => True) zpi RX6 (by decide) rfl (Nat.le_of_ble_eq_true rfl) ?_
  intro κ X hret
  unfold fX6_draw at h
  refine zi_aload_n (pc' := 1) X dX6_draw_0 rfl rfl 0 rfl ?_
  refine zi_getr (pc' := 4) X zf_X6_9 rfl (by decide) ha0 dX6_draw_1 rfl ?_
  have f1 := zr_6_0 ha0
  refine zi_iconst (pc' := 5) (v := (1 : Int32)) X dX6_draw_4 rfl rfl ?_
  refine zi_aload_n (pc' := 6) X dX6_draw_5 rfl rfl 0 rfl ?_
  refine zi_getr (pc' := 9) X zf_X6_9 rfl (by decide) ha0 dX6_draw_6 rfl ?_
  have f2 := zr_6_0 ha0
  refine zi_iconst (pc' := 10) (v := (1 : Int32)) X dX6_draw_9 rfl rfl ?_
  obtain ⟨g3, h⟩ := zok_g h
  refine zi_iald (pc' := 11) X f2.1 (by rw [f2.2]; exact g3) dX6_draw_10 rfl ?_
  refine zi_ldc (pc' := 13) X dX6_draw_11 rfl zk_X6_234 ?_
  refine zi_imul (pc' := 14) X dX6_draw_13 rfl ?_
  refine zi_sipush (pc' := 17) (v := (12345 : Int32)) X dX6_draw_14 rfl rfl ?_
  refine zi_iadd (pc' := 18) X dX6_draw_17 rfl ?_
  obtain ⟨g4, h⟩ := zok_g h
  refine zi_iast (pc' := 19) X f1.1 (by rw [f1.2]; exact g4) dX6_draw_18 rfl ?_
  refine zi_aload_n (pc' := 20) X dX6_draw_19 rfl rfl 0 rfl ?_
  refine zi_getr (pc' := 23) X zf_X6_9 rfl (by decide) ha0 dX6_draw_20 rfl ?_
  have f5 := zr_6_0 ha0
  refine zi_iconst (pc' := 24) (v := (1 : Int32)) X dX6_draw_23 rfl rfl ?_
  obtain ⟨g6, h⟩ := zok_g h
  refine zi_iald (pc' := 25) X f5.1 (by rw [f5.2]; exact g6) dX6_draw_24 rfl ?_
  refine zi_bipush (pc' := 27) (v := (8 : Int32)) X dX6_draw_25 rfl rfl ?_
  refine zi_iushr (pc' := 28) X dX6_draw_27 rfl ?_
  exact hret _ _ _ _ dX6_draw_28 trivial h
def fX6_finds (a0 : Nat) (a1 : Int32) (μ : zMem) : Option (Int32 × zMem) :=
  zgd (zib a1 7) (
  zgd (zib a1 7) (
  some (((-1000001 : Int32) - a1), (zst μ (a0 + 4) (a1).toNatClampNeg ((μ (a0 + 4) (a1).toNatClampNeg) + (1 : Int32))))))
set_option maxRecDepth 100000 in
set_option maxHeartbeats 4000000 in
theorem tX6_finds (g : zG) {a0 : Nat} {a1 : Int32} {μ : zMem} {Q : Int32 → zMem → Prop} (ha0 : zkd a0 = 6) (h : zok (fX6_finds a0 a1 μ) Q) : zTi g yX6_finds cX6_finds 2 .int 0 [.ref (zad g a0), .int a1] μ Q := by
  refine zTi_of (P := fun r => True) zpi RX6 (by decide) rfl (Nat.le_of_ble_eq_true rfl) ?_
  intro κ X hret
  unfold fX6_finds at h
  refine zi_aload_n (pc' := 1) X dX6_finds_0 rfl rfl 0 rfl ?_
  refine zi_getr (pc' := 4) X zf_X6_19 rfl (by decide) ha0 dX6_finds_1 rfl ?_
  have f1 := zr_6_4 ha0
  refine zi_iload_n (pc' := 5) X dX6_finds_4 rfl rfl 1 rfl ?_
  refine zi_dup2 (pc' := 6) X dX6_finds_5 rfl rfl rfl ?_
  obtain ⟨g2, h⟩ := zok_g h
  refine zi_iald (pc' := 7) X f1.1 (by rw [f1.2]; exact g2) dX6_finds_6 rfl ?_
  refine zi_iconst (pc' := 8) (v := (1 : Int32)) X dX6_finds_7 rfl rfl ?_
  refine zi_iadd (pc' := 9) X dX6_finds_8 rfl ?_
  obtain ⟨g3, h⟩ := zok_g h
  refine zi_iast (pc' := 10) X f1.1 (by rw [f1.2]; exact g3) dX6_finds_9 rfl ?_
  refine zi_ldc (pc' := 12) X dX6_finds_10 rfl zk_X6_43 ?_
  refine zi_iload_n (pc' := 13) X dX6_finds_12 rfl rfl 1 rfl ?_
  refine zi_isub (pc' := 14) X dX6_finds_13 rfl ?_
  exact hret _ _ _ _ dX6_finds_14 trivial h
def fX6_hasSpring (a0 : Nat) (a1 : Int32) (μ : zMem) : Option (Int32 × zMem) :=
  zgd (zib (3 : Int32) 87) (
  if (((μ (a0 + 1) ((3 : Int32)).toNatClampNeg) >>> (a1 &&& 31)) &&& (1 : Int32)) = (1 : Int32) then
    some ((1 : Int32), μ)
  else
    some ((0 : Int32), μ))
set_option maxRecDepth 100000 in
set_option maxHeartbeats 4000000 in
theorem tX6_hasSpring (g : zG) {a0 : Nat} {a1 : Int32} {μ : zMem} {Q : Int32 → zMem → Prop} (ha0 : zkd a0 = 6) (h : zok (fX6_hasSpring a0 a1 μ) Q) : zTi g yX6_hasSpring cX6_hasSpring 2 .boolean 0 [.ref (zad g a0), .int a1] μ Q := by
  refine zTi_of (P := fun r => r = 0 ∨ r = 1) zpb RX6 (by decide) rfl (Nat.le_of_ble_eq_true rfl) ?_
  intro κ X hret
  unfold fX6_hasSpring at h
  refine zi_aload_n (pc' := 1) X dX6_hasSpring_0 rfl rfl 0 rfl ?_
  refine zi_getr (pc' := 4) X zf_X6_9 rfl (by decide) ha0 dX6_hasSpring_1 rfl ?_
  have f1 := zr_6_0 ha0
  refine zi_iconst (pc' := 5) (v := (3 : Int32)) X dX6_hasSpring_4 rfl rfl ?_
  obtain ⟨g2, h⟩ := zok_g h
  refine zi_iald (pc' := 6) X f1.1 (by rw [f1.2]; exact g2) dX6_hasSpring_5 rfl ?_
  refine zi_iload_n (pc' := 7) X dX6_hasSpring_6 rfl rfl 1 rfl ?_
  refine zi_ishr (pc' := 8) X dX6_hasSpring_7 rfl ?_
  refine zi_iconst (pc' := 9) (v := (1 : Int32)) X dX6_hasSpring_8 rfl rfl ?_
  refine zi_iand (pc' := 10) X dX6_hasSpring_9 rfl ?_
  refine zi_iconst (pc' := 11) (v := (1 : Int32)) X dX6_hasSpring_10 rfl rfl ?_
  refine zi_icmp_ne (pc' := 14) (tgt := 18) X dX6_hasSpring_11 rfl rfl (fun c => ?_) (fun c => ?_)
  · replace h := zok_f h c
    refine zi_iconst (pc' := 19) (v := (0 : Int32)) X dX6_hasSpring_18 rfl rfl ?_
    exact hret _ _ _ _ dX6_hasSpring_19 (by decide) h
  · replace h := zok_t h c
    refine zi_iconst (pc' := 15) (v := (1 : Int32)) X dX6_hasSpring_14 rfl rfl ?_
    refine zi_goto (pc' := 19) X dX6_hasSpring_15 rfl ?_
    exact hret _ _ _ _ dX6_hasSpring_19 (by decide) h
def fX6_heights_4 : Nat → Nat → Int32 → Int32 → zMem → Option (Int32 × zMem)
  | 0, _, _, _, _ => none
  | n + 1, a0, a1, a2, μ =>
    if (25 : Int32) ≤ a2 then
      some (a1, μ)
    else
      zgd (zib ((4 : Int32) + a2) 87) (
      fX6_heights_4 n a0 (a1 + (μ (a0 + 1) (((4 : Int32) + a2)).toNatClampNeg)) (a2 + (1 : Int32)) μ)
set_option maxRecDepth 100000 in
theorem lX6_heights_4 {g : zG} {κ : zK} (X : zC g κ RX6 cX6_heights 3 0) {Q : Int32 → zMem → Prop} (hret : ∀ pc lv r μ', decode cX6_heights pc = .ok (.ireturn, 1) → True → Q r μ' → zV g κ pc lv [.int r] μ') : ∀ (n : Nat) (a0 : Nat) (a1 : Int32) (a2 : Int32) (μ : zMem) (ha0 : zkd a0 = 6), zok (fX6_heights_4 n a0 a1 a2 μ) Q → zV g κ 4 [(0, .ref (zad g a0)), (1, .int a1), (2, .int a2)] [] μ := by
  intro n
  induction n with
  | zero =>
    intro a0 a1 a2 μ ha0 h
    exact h.elim
  | succ n ih =>
    intro a0 a1 a2 μ ha0 h
    rw [fX6_heights_4] at h
    refine zi_iload_n (pc' := 5) X dX6_heights_4 rfl rfl 2 rfl ?_
    refine zi_bipush (pc' := 7) (v := (25 : Int32)) X dX6_heights_5 rfl rfl ?_
    refine zi_icmp_ge (pc' := 10) (tgt := 27) X dX6_heights_7 rfl rfl (fun c => ?_) (fun c => ?_)
    · replace h := zok_t h c
      refine zi_iload_n (pc' := 28) X dX6_heights_27 rfl rfl 1 rfl ?_
      exact hret _ _ _ _ dX6_heights_28 trivial h
    · replace h := zok_f h c
      refine zi_iload_n (pc' := 11) X dX6_heights_10 rfl rfl 1 rfl ?_
      refine zi_aload_n (pc' := 12) X dX6_heights_11 rfl rfl 0 rfl ?_
      refine zi_getr (pc' := 15) X zf_X6_9 rfl (by decide) ha0 dX6_heights_12 rfl ?_
      have f1 := zr_6_0 ha0
      refine zi_iconst (pc' := 16) (v := (4 : Int32)) X dX6_heights_15 rfl rfl ?_
      refine zi_iload_n (pc' := 17) X dX6_heights_16 rfl rfl 2 rfl ?_
      refine zi_iadd (pc' := 18) X dX6_heights_17 rfl ?_
      obtain ⟨g2, h⟩ := zok_g h
      refine zi_iald (pc' := 19) X f1.1 (by rw [f1.2]; exact g2) dX6_heights_18 rfl ?_
      refine zi_iadd (pc' := 20) X dX6_heights_19 rfl ?_
      refine zi_istore_n (pc' := 21) X dX6_heights_20 rfl rfl (by decide) [(1, .int (a1 + (μ (a0 + 1) (((4 : Int32) + a2)).toNatClampNeg))), (0, .ref (zad g a0)), (2, .int a2)] rfl ?_
      refine zi_iinc (pc' := 24) (v := (a2 + (1 : Int32))) X dX6_heights_21 rfl 2 rfl rfl (by decide) [(2, .int (a2 + (1 : Int32))), (1, .int (a1 + (μ (a0 + 1) (((4 : Int32) + a2)).toNatClampNeg))), (0, .ref (zad g a0))] rfl ?_
      refine zi_goto (pc' := 4) X dX6_heights_24 rfl ?_
      exact zi_sub X [2, 1, 0] _ rfl (ih a0 (a1 + (μ (a0 + 1) (((4 : Int32) + a2)).toNatClampNeg)) (a2 + (1 : Int32)) (μ) ha0 h)
def fX6_heights (a0 : Nat) (μ : zMem) : Option (Int32 × zMem) :=
  fX6_heights_4 200 a0 (0 : Int32) (0 : Int32) μ
set_option maxRecDepth 100000 in
set_option maxHeartbeats 4000000 in
theorem tX6_heights (g : zG) {a0 : Nat} {μ : zMem} {Q : Int32 → zMem → Prop} (ha0 : zkd a0 = 6) (h : zok (fX6_heights a0 μ) Q) : zTi g yX6_heights cX6_heights 3 .int 0 [.ref (zad g a0)] μ Q := by
  refine zTi_of (P := fun r => True) zpi RX6 (by decide) rfl (Nat.le_of_ble_eq_true rfl) ?_
  intro κ X hret
  unfold fX6_heights at h
  refine zi_iconst (pc' := 1) (v := (0 : Int32)) X dX6_heights_0 rfl rfl ?_
  refine zi_istore_n (pc' := 2) X dX6_heights_1 rfl rfl (by decide) [(1, .int (0 : Int32)), (0, .ref (zad g a0))] rfl ?_
  refine zi_iconst (pc' := 3) (v := (0 : Int32)) X dX6_heights_2 rfl rfl ?_
  refine zi_istore_n (pc' := 4) X dX6_heights_3 rfl rfl (by decide) [(2, .int (0 : Int32)), (1, .int (0 : Int32)), (0, .ref (zad g a0))] rfl ?_
  exact zi_sub X [2, 1, 0] _ rfl (lX6_heights_4 X hret 200 a0 (0 : Int32) (0 : Int32) (μ) ha0 h)
def fX6_held__4 : Nat → Nat → Int32 → Int32 → zMem → Option (Int32 × zMem)
  | 0, _, _, _, _ => none
  | n + 1, a0, a1, a2, μ =>
    if (10 : Int32) ≤ a2 then
      some (a1, μ)
    else
      zgd (zib ((77 : Int32) + a2) 87) (
      if 0 ≤ (μ (a0 + 1) (((77 : Int32) + a2)).toNatClampNeg) then
        fX6_held__4 n a0 (a1 + (1 : Int32)) (a2 + (1 : Int32)) μ
      else
        fX6_held__4 n a0 (a1 + (0 : Int32)) (a2 + (1 : Int32)) μ)
set_option maxRecDepth 100000 in
theorem lX6_held__4 {g : zG} {κ : zK} (X : zC g κ RX6 cX6_held_ 3 0) {Q : Int32 → zMem → Prop} (hret : ∀ pc lv r μ', decode cX6_held_ pc = .ok (.ireturn, 1) → True → Q r μ' → zV g κ pc lv [.int r] μ') : ∀ (n : Nat) (a0 : Nat) (a1 : Int32) (a2 : Int32) (μ : zMem) (ha0 : zkd a0 = 6), zok (fX6_held__4 n a0 a1 a2 μ) Q → zV g κ 4 [(0, .ref (zad g a0)), (1, .int a1), (2, .int a2)] [] μ := by
  intro n
  induction n with
  | zero =>
    intro a0 a1 a2 μ ha0 h
    exact h.elim
  | succ n ih =>
    intro a0 a1 a2 μ ha0 h
    rw [fX6_held__4] at h
    refine zi_iload_n (pc' := 5) X dX6_held__4 rfl rfl 2 rfl ?_
    refine zi_bipush (pc' := 7) (v := (10 : Int32)) X dX6_held__5 rfl rfl ?_
    refine zi_icmp_ge (pc' := 10) (tgt := 36) X dX6_held__7 rfl rfl (fun c => ?_) (fun c => ?_)
    · replace h := zok_t h c
      refine zi_iload_n (pc' := 37) X dX6_held__36 rfl rfl 1 rfl ?_
      exact hret _ _ _ _ dX6_held__37 trivial h
    · replace h := zok_f h c
      refine zi_iload_n (pc' := 11) X dX6_held__10 rfl rfl 1 rfl ?_
      refine zi_aload_n (pc' := 12) X dX6_held__11 rfl rfl 0 rfl ?_
      refine zi_getr (pc' := 15) X zf_X6_9 rfl (by decide) ha0 dX6_held__12 rfl ?_
      have f1 := zr_6_0 ha0
      refine zi_bipush (pc' := 17) (v := (77 : Int32)) X dX6_held__15 rfl rfl ?_
      refine zi_iload_n (pc' := 18) X dX6_held__17 rfl rfl 2 rfl ?_
      refine zi_iadd (pc' := 19) X dX6_held__18 rfl ?_
      obtain ⟨g2, h⟩ := zok_g h
      refine zi_iald (pc' := 20) X f1.1 (by rw [f1.2]; exact g2) dX6_held__19 rfl ?_
      refine zi_if_ge (pc' := 23) (tgt := 27) X dX6_held__20 rfl rfl (fun c => ?_) (fun c => ?_)
      · replace h := zok_t h c
        refine zi_iconst (pc' := 28) (v := (1 : Int32)) X dX6_held__27 rfl rfl ?_
        refine zi_iadd (pc' := 29) X dX6_held__28 rfl ?_
        refine zi_istore_n (pc' := 30) X dX6_held__29 rfl rfl (by decide) [(1, .int (a1 + (1 : Int32))), (0, .ref (zad g a0)), (2, .int a2)] rfl ?_
        refine zi_iinc (pc' := 33) (v := (a2 + (1 : Int32))) X dX6_held__30 rfl 2 rfl rfl (by decide) [(2, .int (a2 + (1 : Int32))), (1, .int (a1 + (1 : Int32))), (0, .ref (zad g a0))] rfl ?_
        refine zi_goto (pc' := 4) X dX6_held__33 rfl ?_
        exact zi_sub X [2, 1, 0] _ rfl (ih a0 (a1 + (1 : Int32)) (a2 + (1 : Int32)) (μ) ha0 h)
      · replace h := zok_f h c
        refine zi_iconst (pc' := 24) (v := (0 : Int32)) X dX6_held__23 rfl rfl ?_
        refine zi_goto (pc' := 28) X dX6_held__24 rfl ?_
        refine zi_iadd (pc' := 29) X dX6_held__28 rfl ?_
        refine zi_istore_n (pc' := 30) X dX6_held__29 rfl rfl (by decide) [(1, .int (a1 + (0 : Int32))), (0, .ref (zad g a0)), (2, .int a2)] rfl ?_
        refine zi_iinc (pc' := 33) (v := (a2 + (1 : Int32))) X dX6_held__30 rfl 2 rfl rfl (by decide) [(2, .int (a2 + (1 : Int32))), (1, .int (a1 + (0 : Int32))), (0, .ref (zad g a0))] rfl ?_
        refine zi_goto (pc' := 4) X dX6_held__33 rfl ?_
        exact zi_sub X [2, 1, 0] _ rfl (ih a0 (a1 + (0 : Int32)) (a2 + (1 : Int32)) (μ) ha0 h)
def fX6_held_ (a0 : Nat) (μ : zMem) : Option (Int32 × zMem) :=
  fX6_held__4 200 a0 (0 : Int32) (0 : Int32) μ
set_option maxRecDepth 100000 in
set_option maxHeartbeats 4000000 in
theorem tX6_held_ (g : zG) {a0 : Nat} {μ : zMem} {Q : Int32 → zMem → Prop} (ha0 : zkd a0 = 6) (h : zok (fX6_held_ a0 μ) Q) : zTi g yX6_held_ cX6_held_ 3 .int 0 [.ref (zad g a0)] μ Q := by
  refine zTi_of (P := fun r => True) zpi RX6 (by decide) rfl (Nat.le_of_ble_eq_true rfl) ?_
  intro κ X hret
  unfold fX6_held_ at h
  refine zi_iconst (pc' := 1) (v := (0 : Int32)) X dX6_held__0 rfl rfl ?_
  refine zi_istore_n (pc' := 2) X dX6_held__1 rfl rfl (by decide) [(1, .int (0 : Int32)), (0, .ref (zad g a0))] rfl ?_
  refine zi_iconst (pc' := 3) (v := (0 : Int32)) X dX6_held__2 rfl rfl ?_
  refine zi_istore_n (pc' := 4) X dX6_held__3 rfl rfl (by decide) [(2, .int (0 : Int32)), (1, .int (0 : Int32)), (0, .ref (zad g a0))] rfl ?_
  exact zi_sub X [2, 1, 0] _ rfl (lX6_held__4 X hret 200 a0 (0 : Int32) (0 : Int32) (μ) ha0 h)
def fX6_in (a0 : Int64) (a2 : Int64) (a4 : Int64) (μ : zMem) : Option (Int32 × zMem) :=
  if (lg_cmp a0 a2) < 0 then
    some ((0 : Int32), μ)
  else
    if 0 < (lg_cmp a0 a4) then
      some ((0 : Int32), μ)
    else
      some ((1 : Int32), μ)
set_option maxRecDepth 100000 in
set_option maxHeartbeats 4000000 in
theorem tX6_in (g : zG) {a0 : Int64} {a2 : Int64} {a4 : Int64} {μ : zMem} {Q : Int32 → zMem → Prop} (h : zok (fX6_in a0 a2 a4 μ) Q) : zTi g yX6_in cX6_in 6 .boolean 0 [.long a0, .long a2, .long a4] μ Q := by
  refine zTi_of (P := fun r => r = 0 ∨ r = 1) zpb RX6 (by decide) rfl (Nat.le_of_ble_eq_true rfl) ?_
  intro κ X hret
  unfold fX6_in at h
  refine zi_lload_n (pc' := 1) X dX6_in_0 rfl rfl 0 rfl ?_
  refine zi_lload_n (pc' := 2) X dX6_in_1 rfl rfl 1 rfl ?_
  refine zi_lcmp (pc' := 3) X dX6_in_2 rfl ?_
  refine zi_if_lt (pc' := 6) (tgt := 17) X dX6_in_3 rfl rfl (fun c => ?_) (fun c => ?_)
  · replace h := zok_t h c
    refine zi_iconst (pc' := 18) (v := (0 : Int32)) X dX6_in_17 rfl rfl ?_
    exact hret _ _ _ _ dX6_in_18 (by decide) h
  · replace h := zok_f h c
    refine zi_lload_n (pc' := 7) X dX6_in_6 rfl rfl 0 rfl ?_
    refine zi_lload (pc' := 9) X dX6_in_7 rfl 2 rfl ?_
    refine zi_lcmp (pc' := 10) X dX6_in_9 rfl ?_
    refine zi_if_gt (pc' := 13) (tgt := 17) X dX6_in_10 rfl rfl (fun c => ?_) (fun c => ?_)
    · replace h := zok_t h c
      refine zi_iconst (pc' := 18) (v := (0 : Int32)) X dX6_in_17 rfl rfl ?_
      exact hret _ _ _ _ dX6_in_18 (by decide) h
    · replace h := zok_f h c
      refine zi_iconst (pc' := 14) (v := (1 : Int32)) X dX6_in_13 rfl rfl ?_
      refine zi_goto (pc' := 18) X dX6_in_14 rfl ?_
      exact hret _ _ _ _ dX6_in_18 (by decide) h
def fX6_its (a0 : Nat) (a1 : Int32) (a2 : Int32) (μ : zMem) : Option (Int32 × zMem) :=
  zgd (zib (((29 : Int32) + ((8 : Int32) * a1)) + a2) 87) (
  some ((μ (a0 + 1) ((((29 : Int32) + ((8 : Int32) * a1)) + a2)).toNatClampNeg), μ))
set_option maxRecDepth 100000 in
set_option maxHeartbeats 4000000 in
theorem tX6_its (g : zG) {a0 : Nat} {a1 : Int32} {a2 : Int32} {μ : zMem} {Q : Int32 → zMem → Prop} (ha0 : zkd a0 = 6) (h : zok (fX6_its a0 a1 a2 μ) Q) : zTi g yX6_its cX6_its 3 .int 0 [.ref (zad g a0), .int a1, .int a2] μ Q := by
  refine zTi_of (P := fun r => True) zpi RX6 (by decide) rfl (Nat.le_of_ble_eq_true rfl) ?_
  intro κ X hret
  unfold fX6_its at h
  refine zi_aload_n (pc' := 1) X dX6_its_0 rfl rfl 0 rfl ?_
  refine zi_getr (pc' := 4) X zf_X6_9 rfl (by decide) ha0 dX6_its_1 rfl ?_
  have f1 := zr_6_0 ha0
  refine zi_bipush (pc' := 6) (v := (29 : Int32)) X dX6_its_4 rfl rfl ?_
  refine zi_bipush (pc' := 8) (v := (8 : Int32)) X dX6_its_6 rfl rfl ?_
  refine zi_iload_n (pc' := 9) X dX6_its_8 rfl rfl 1 rfl ?_
  refine zi_imul (pc' := 10) X dX6_its_9 rfl ?_
  refine zi_iadd (pc' := 11) X dX6_its_10 rfl ?_
  refine zi_iload_n (pc' := 12) X dX6_its_11 rfl rfl 2 rfl ?_
  refine zi_iadd (pc' := 13) X dX6_its_12 rfl ?_
  obtain ⟨g2, h⟩ := zok_g h
  refine zi_iald (pc' := 14) X f1.1 (by rw [f1.2]; exact g2) dX6_its_13 rfl ?_
  exact hret _ _ _ _ dX6_its_14 trivial h
def fX6_ones_4 : Nat → Int32 → Int32 → Int32 → zMem → Option (Int32 × zMem)
  | 0, _, _, _, _ => none
  | n + 1, a0, a1, a2, μ =>
    if (6 : Int32) ≤ a2 then
      some (a1, μ)
    else
      fX6_ones_4 n a0 (a1 + ((a0 >>> (a2 &&& 31)) &&& (1 : Int32))) (a2 + (1 : Int32)) μ
set_option maxRecDepth 100000 in
theorem lX6_ones_4 {g : zG} {κ : zK} (X : zC g κ RX6 cX6_ones 3 0) {Q : Int32 → zMem → Prop} (hret : ∀ pc lv r μ', decode cX6_ones pc = .ok (.ireturn, 1) → True → Q r μ' → zV g κ pc lv [.int r] μ') : ∀ (n : Nat) (a0 : Int32) (a1 : Int32) (a2 : Int32) (μ : zMem), zok (fX6_ones_4 n a0 a1 a2 μ) Q → zV g κ 4 [(0, .int a0), (1, .int a1), (2, .int a2)] [] μ := by
  intro n
  induction n with
  | zero =>
    intro a0 a1 a2 μ h
    exact h.elim
  | succ n ih =>
    intro a0 a1 a2 μ h
    rw [fX6_ones_4] at h
    refine zi_iload_n (pc' := 5) X dX6_ones_4 rfl rfl 2 rfl ?_
    refine zi_bipush (pc' := 7) (v := (6 : Int32)) X dX6_ones_5 rfl rfl ?_
    refine zi_icmp_ge (pc' := 10) (tgt := 24) X dX6_ones_7 rfl rfl (fun c => ?_) (fun c => ?_)
    · replace h := zok_t h c
      refine zi_iload_n (pc' := 25) X dX6_ones_24 rfl rfl 1 rfl ?_
      exact hret _ _ _ _ dX6_ones_25 trivial h
    · replace h := zok_f h c
      refine zi_iload_n (pc' := 11) X dX6_ones_10 rfl rfl 1 rfl ?_
      refine zi_iload_n (pc' := 12) X dX6_ones_11 rfl rfl 0 rfl ?_
      refine zi_iload_n (pc' := 13) X dX6_ones_12 rfl rfl 2 rfl ?_
      refine zi_ishr (pc' := 14) X dX6_ones_13 rfl ?_
      refine zi_iconst (pc' := 15) (v := (1 : Int32)) X dX6_ones_14 rfl rfl ?_
      refine zi_iand (pc' := 16) X dX6_ones_15 rfl ?_
      refine zi_iadd (pc' := 17) X dX6_ones_16 rfl ?_
      refine zi_istore_n (pc' := 18) X dX6_ones_17 rfl rfl (by decide) [(1, .int (a1 + ((a0 >>> (a2 &&& 31)) &&& (1 : Int32)))), (0, .int a0), (2, .int a2)] rfl ?_
      refine zi_iinc (pc' := 21) (v := (a2 + (1 : Int32))) X dX6_ones_18 rfl 2 rfl rfl (by decide) [(2, .int (a2 + (1 : Int32))), (1, .int (a1 + ((a0 >>> (a2 &&& 31)) &&& (1 : Int32)))), (0, .int a0)] rfl ?_
      refine zi_goto (pc' := 4) X dX6_ones_21 rfl ?_
      exact zi_sub X [2, 1, 0] _ rfl (ih a0 (a1 + ((a0 >>> (a2 &&& 31)) &&& (1 : Int32))) (a2 + (1 : Int32)) (μ) h)
def fX6_ones (a0 : Int32) (μ : zMem) : Option (Int32 × zMem) :=
  fX6_ones_4 200 a0 (0 : Int32) (0 : Int32) μ
set_option maxRecDepth 100000 in
set_option maxHeartbeats 4000000 in
theorem tX6_ones (g : zG) {a0 : Int32} {μ : zMem} {Q : Int32 → zMem → Prop} (h : zok (fX6_ones a0 μ) Q) : zTi g yX6_ones cX6_ones 3 .int 0 [.int a0] μ Q := by
  refine zTi_of (P := fun r => True) zpi RX6 (by decide) rfl (Nat.le_of_ble_eq_true rfl) ?_
  intro κ X hret
  unfold fX6_ones at h
  refine zi_iconst (pc' := 1) (v := (0 : Int32)) X dX6_ones_0 rfl rfl ?_
  refine zi_istore_n (pc' := 2) X dX6_ones_1 rfl rfl (by decide) [(1, .int (0 : Int32)), (0, .int a0)] rfl ?_
  refine zi_iconst (pc' := 3) (v := (0 : Int32)) X dX6_ones_2 rfl rfl ?_
  refine zi_istore_n (pc' := 4) X dX6_ones_3 rfl rfl (by decide) [(2, .int (0 : Int32)), (1, .int (0 : Int32)), (0, .int a0)] rfl ?_
  exact zi_sub X [2, 1, 0] _ rfl (lX6_ones_4 X hret 200 a0 (0 : Int32) (0 : Int32) (μ) h)
def fX6_presses_11 (a0 : Int32) (a1 : Int32) (a2 : Int32) (s0 : Int32) (s1 : Int32) (μ : zMem) : Option (Int32 × zMem) :=
  if a0 = (1 : Int32) then
    some (a1, μ)
  else
    if a0 = (2 : Int32) then
      some (a2, μ)
    else
      if a0 = (3 : Int32) then
        some ((s1 + s0), μ)
      else
        if a0 = (4 : Int32) then
          some (((s1 + s0) + (3 : Int32)), μ)
        else
          if a0 = (5 : Int32) then
            some (((a1 + ((3 : Int32) * a2)) / (4 : Int32)), μ)
          else
            if a0 = (6 : Int32) then
              some ((a1 + (1 : Int32)), μ)
            else
              some (((a1 + a2) / (2 : Int32)), μ)
set_option maxRecDepth 100000 in
theorem lX6_presses_11 {g : zG} {κ : zK} (X : zC g κ RX6 cX6_presses 4 0) {Q : Int32 → zMem → Prop} (hret : ∀ pc lv r μ', decode cX6_presses pc = .ok (.ireturn, 1) → True → Q r μ' → zV g κ pc lv [.int r] μ') : ∀ (a0 : Int32) (a1 : Int32) (a2 : Int32) (s0 : Int32) (s1 : Int32) (μ : zMem), zok (fX6_presses_11 a0 a1 a2 s0 s1 μ) Q → zV g κ 11 [(0, .int a0), (1, .int a1), (2, .int a2)] [.int s0, .int s1] μ := by
  intro a0 a1 a2 s0 s1 μ h
  unfold fX6_presses_11 at h
  refine zi_iadd (pc' := 12) X dX6_presses_11 rfl ?_
  refine zi_istore_n (pc' := 13) X dX6_presses_12 rfl rfl (by decide) [(3, .int (s1 + s0)), (0, .int a0), (1, .int a1), (2, .int a2)] rfl ?_
  refine zi_iload_n (pc' := 14) X dX6_presses_13 rfl rfl 1 rfl ?_
  by_cases c1 : a0 = (1 : Int32)
  · replace h := zok_t h c1
    refine zi_tabIn (pc' := 52) X c1 dX6_presses_14 ⟨by decide, rfl, rfl⟩ ?_
    refine zi_iload_n (pc' := 53) X dX6_presses_52 rfl rfl 2 rfl ?_
    exact hret _ _ _ _ dX6_presses_53 trivial h
  · replace h := zok_f h c1
    by_cases c2 : a0 = (2 : Int32)
    · replace h := zok_t h c2
      refine zi_tabIn (pc' := 58) X c2 dX6_presses_14 ⟨by decide, rfl, rfl⟩ ?_
      refine zi_iload_n (pc' := 59) X dX6_presses_58 rfl rfl 3 rfl ?_
      exact hret _ _ _ _ dX6_presses_59 trivial h
    · replace h := zok_f h c2
      by_cases c3 : a0 = (3 : Int32)
      · replace h := zok_t h c3
        refine zi_tabIn (pc' := 60) X c3 dX6_presses_14 ⟨by decide, rfl, rfl⟩ ?_
        refine zi_iload_n (pc' := 61) X dX6_presses_60 rfl rfl 0 rfl ?_
        exact hret _ _ _ _ dX6_presses_61 trivial h
      · replace h := zok_f h c3
        by_cases c4 : a0 = (4 : Int32)
        · replace h := zok_t h c4
          refine zi_tabIn (pc' := 62) X c4 dX6_presses_14 ⟨by decide, rfl, rfl⟩ ?_
          refine zi_iload_n (pc' := 63) X dX6_presses_62 rfl rfl 0 rfl ?_
          refine zi_iconst (pc' := 64) (v := (3 : Int32)) X dX6_presses_63 rfl rfl ?_
          refine zi_iadd (pc' := 65) X dX6_presses_64 rfl ?_
          exact hret _ _ _ _ dX6_presses_65 trivial h
        · replace h := zok_f h c4
          by_cases c5 : a0 = (5 : Int32)
          · replace h := zok_t h c5
            refine zi_tabIn (pc' := 66) X c5 dX6_presses_14 ⟨by decide, rfl, rfl⟩ ?_
            refine zi_iload_n (pc' := 67) X dX6_presses_66 rfl rfl 2 rfl ?_
            refine zi_iconst (pc' := 68) (v := (3 : Int32)) X dX6_presses_67 rfl rfl ?_
            refine zi_iload_n (pc' := 69) X dX6_presses_68 rfl rfl 3 rfl ?_
            refine zi_imul (pc' := 70) X dX6_presses_69 rfl ?_
            refine zi_iadd (pc' := 71) X dX6_presses_70 rfl ?_
            refine zi_iconst (pc' := 72) (v := (4 : Int32)) X dX6_presses_71 rfl rfl ?_
            refine zi_idiv (pc' := 73) X dX6_presses_72 rfl (by decide) ?_
            exact hret _ _ _ _ dX6_presses_73 trivial h
          · replace h := zok_f h c5
            by_cases c6 : a0 = (6 : Int32)
            · replace h := zok_t h c6
              refine zi_tabIn (pc' := 54) X c6 dX6_presses_14 ⟨by decide, rfl, rfl⟩ ?_
              refine zi_iload_n (pc' := 55) X dX6_presses_54 rfl rfl 2 rfl ?_
              refine zi_iconst (pc' := 56) (v := (1 : Int32)) X dX6_presses_55 rfl rfl ?_
              refine zi_iadd (pc' := 57) X dX6_presses_56 rfl ?_
              exact hret _ _ _ _ dX6_presses_57 trivial h
            · replace h := zok_f h c6
              have e0 := zne (1) rfl c1
              have e1 := zne (2) rfl c2
              have e2 := zne (3) rfl c3
              have e3 := zne (4) rfl c4
              have e4 := zne (5) rfl c5
              have e5 := zne (6) rfl c6
              refine zi_tabOut (pc' := 74) X (by omega) dX6_presses_14 rfl ?_
              refine zi_iload_n (pc' := 75) X dX6_presses_74 rfl rfl 2 rfl ?_
              refine zi_iload_n (pc' := 76) X dX6_presses_75 rfl rfl 3 rfl ?_
              refine zi_iadd (pc' := 77) X dX6_presses_76 rfl ?_
              refine zi_iconst (pc' := 78) (v := (2 : Int32)) X dX6_presses_77 rfl rfl ?_
              refine zi_idiv (pc' := 79) X dX6_presses_78 rfl (by decide) ?_
              exact hret _ _ _ _ dX6_presses_79 trivial h
def fX6_presses (a0 : Int32) (a1 : Int32) (a2 : Int32) (μ : zMem) : Option (Int32 × zMem) :=
  if a1 ≤ a2 then
    fX6_presses_11 a0 a1 a2 (0 : Int32) a2 μ
  else
    fX6_presses_11 a0 a1 a2 (1 : Int32) a2 μ
set_option maxRecDepth 100000 in
set_option maxHeartbeats 4000000 in
theorem tX6_presses (g : zG) {a0 : Int32} {a1 : Int32} {a2 : Int32} {μ : zMem} {Q : Int32 → zMem → Prop} (h : zok (fX6_presses a0 a1 a2 μ) Q) : zTi g yX6_presses cX6_presses 4 .int 0 [.int a0, .int a1, .int a2] μ Q := by
  refine zTi_of (P := fun r => True) zpi RX6 (by decide) rfl (Nat.le_of_ble_eq_true rfl) ?_
  intro κ X hret
  unfold fX6_presses at h
  refine zi_iload_n (pc' := 1) X dX6_presses_0 rfl rfl 2 rfl ?_
  refine zi_iload_n (pc' := 2) X dX6_presses_1 rfl rfl 1 rfl ?_
  refine zi_iload_n (pc' := 3) X dX6_presses_2 rfl rfl 2 rfl ?_
  refine zi_icmp_le (pc' := 6) (tgt := 10) X dX6_presses_3 rfl rfl (fun c => ?_) (fun c => ?_)
  · replace h := zok_t h c
    refine zi_iconst (pc' := 11) (v := (0 : Int32)) X dX6_presses_10 rfl rfl ?_
    exact zi_sub X [0, 1, 2] _ rfl (lX6_presses_11 X hret a0 a1 a2 (0 : Int32) a2 (μ) h)
  · replace h := zok_f h c
    refine zi_iconst (pc' := 7) (v := (1 : Int32)) X dX6_presses_6 rfl rfl ?_
    refine zi_goto (pc' := 11) X dX6_presses_7 rfl ?_
    exact zi_sub X [0, 1, 2] _ rfl (lX6_presses_11 X hret a0 a1 a2 (1 : Int32) a2 (μ) h)
def fX6_sets (a0 : Nat) (a1 : Int32) (a2 : Int32) (a3 : Int32) (μ : zMem) : Option (Unit × zMem) :=
  zgd (zib (((29 : Int32) + ((8 : Int32) * a1)) + a2) 87) (
  some ((), (zst μ (a0 + 1) ((((29 : Int32) + ((8 : Int32) * a1)) + a2)).toNatClampNeg a3)))
set_option maxRecDepth 100000 in
set_option maxHeartbeats 4000000 in
theorem tX6_sets (g : zG) {a0 : Nat} {a1 : Int32} {a2 : Int32} {a3 : Int32} {μ : zMem} {Q : Unit → zMem → Prop} (ha0 : zkd a0 = 6) (h : zok (fX6_sets a0 a1 a2 a3 μ) Q) : zTv g yX6_sets cX6_sets 4 0 [.ref (zad g a0), .int a1, .int a2, .int a3] μ Q := by
  refine zTv_of RX6 (by decide) rfl (Nat.le_of_ble_eq_true rfl) ?_
  intro κ X hret
  unfold fX6_sets at h
  refine zi_aload_n (pc' := 1) X dX6_sets_0 rfl rfl 0 rfl ?_
  refine zi_getr (pc' := 4) X zf_X6_9 rfl (by decide) ha0 dX6_sets_1 rfl ?_
  have f1 := zr_6_0 ha0
  refine zi_bipush (pc' := 6) (v := (29 : Int32)) X dX6_sets_4 rfl rfl ?_
  refine zi_bipush (pc' := 8) (v := (8 : Int32)) X dX6_sets_6 rfl rfl ?_
  refine zi_iload_n (pc' := 9) X dX6_sets_8 rfl rfl 1 rfl ?_
  refine zi_imul (pc' := 10) X dX6_sets_9 rfl ?_
  refine zi_iadd (pc' := 11) X dX6_sets_10 rfl ?_
  refine zi_iload_n (pc' := 12) X dX6_sets_11 rfl rfl 2 rfl ?_
  refine zi_iadd (pc' := 13) X dX6_sets_12 rfl ?_
  refine zi_iload_n (pc' := 14) X dX6_sets_13 rfl rfl 3 rfl ?_
  obtain ⟨g2, h⟩ := zok_g h
  refine zi_iast (pc' := 15) X f1.1 (by rw [f1.2]; exact g2) dX6_sets_14 rfl ?_
  exact hret _ _ _ dX6_sets_15 h
def fX6_springs (a0 : Nat) (a1 : Int32) (a2 : Int32) (μ : zMem) : Option (Unit × zMem) :=
  zgd (zib (3 : Int32) 87) (
  zgd (zib (3 : Int32) 87) (
  some ((), (zst μ (a0 + 1) ((3 : Int32)).toNatClampNeg (((μ (a0 + 1) ((3 : Int32)).toNatClampNeg) &&& (((1 : Int32) <<< (a1 &&& 31)) ^^^ (-1 : Int32))) ||| (a2 <<< (a1 &&& 31)))))))
set_option maxRecDepth 100000 in
set_option maxHeartbeats 4000000 in
theorem tX6_springs (g : zG) {a0 : Nat} {a1 : Int32} {a2 : Int32} {μ : zMem} {Q : Unit → zMem → Prop} (ha0 : zkd a0 = 6) (h : zok (fX6_springs a0 a1 a2 μ) Q) : zTv g yX6_springs cX6_springs 3 0 [.ref (zad g a0), .int a1, .int a2] μ Q := by
  refine zTv_of RX6 (by decide) rfl (Nat.le_of_ble_eq_true rfl) ?_
  intro κ X hret
  unfold fX6_springs at h
  refine zi_aload_n (pc' := 1) X dX6_springs_0 rfl rfl 0 rfl ?_
  refine zi_getr (pc' := 4) X zf_X6_9 rfl (by decide) ha0 dX6_springs_1 rfl ?_
  have f1 := zr_6_0 ha0
  refine zi_iconst (pc' := 5) (v := (3 : Int32)) X dX6_springs_4 rfl rfl ?_
  refine zi_aload_n (pc' := 6) X dX6_springs_5 rfl rfl 0 rfl ?_
  refine zi_getr (pc' := 9) X zf_X6_9 rfl (by decide) ha0 dX6_springs_6 rfl ?_
  have f2 := zr_6_0 ha0
  refine zi_iconst (pc' := 10) (v := (3 : Int32)) X dX6_springs_9 rfl rfl ?_
  obtain ⟨g3, h⟩ := zok_g h
  refine zi_iald (pc' := 11) X f2.1 (by rw [f2.2]; exact g3) dX6_springs_10 rfl ?_
  refine zi_iconst (pc' := 12) (v := (1 : Int32)) X dX6_springs_11 rfl rfl ?_
  refine zi_iload_n (pc' := 13) X dX6_springs_12 rfl rfl 1 rfl ?_
  refine zi_ishl (pc' := 14) X dX6_springs_13 rfl ?_
  refine zi_iconst (pc' := 15) (v := (-1 : Int32)) X dX6_springs_14 rfl rfl ?_
  refine zi_ixor (pc' := 16) X dX6_springs_15 rfl ?_
  refine zi_iand (pc' := 17) X dX6_springs_16 rfl ?_
  refine zi_iload_n (pc' := 18) X dX6_springs_17 rfl rfl 2 rfl ?_
  refine zi_iload_n (pc' := 19) X dX6_springs_18 rfl rfl 1 rfl ?_
  refine zi_ishl (pc' := 20) X dX6_springs_19 rfl ?_
  refine zi_ior (pc' := 21) X dX6_springs_20 rfl ?_
  obtain ⟨g4, h⟩ := zok_g h
  refine zi_iast (pc' := 22) X f1.1 (by rw [f1.2]; exact g4) dX6_springs_21 rfl ?_
  exact hret _ _ _ dX6_springs_22 h
