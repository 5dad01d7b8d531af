def fX5_climb (a0 : Nat) (a1 : Int32) (a2 : Int32) (μ : zMem) : Option (Int32 × zMem) :=
  zbd (fX5_isCell a1 μ) fun r1 m2 =>
  if r1 = 0 then
    zbd (fX5_finding a0 (0 : Int32) m2) fun r3 m4 =>
    some (r3, m4)
  else
    zbd (fX5_isCell a2 m2) fun r5 m6 =>
    if r5 = 0 then
      zbd (fX5_finding a0 (0 : Int32) m6) fun r11 m12 =>
      some (r11, m12)
    else
      zbd (fX1_leastClimb (a0 + 49) (a0 + 1) a1 a2 m6) fun r9 m10 =>
      some (r9, m10)
set_option maxRecDepth 100000 in
set_option maxHeartbeats 4000000 in
theorem tX5_climb (g : zG) {a0 : Nat} {a1 : Int32} {a2 : Int32} {μ : zMem} {Q : Int32 → zMem → Prop} (ha0 : zkd a0 = 5) (h : zok (fX5_climb a0 a1 a2 μ) Q) : zTi g yX5_climb cX5_climb 3 .int 3 [.ref (zad g a0), .int a1, .int a2] μ Q := by
  refine zTi_of (P := fun r => True) zpi RX5 (by decide) rfl (Nat.le_of_ble_eq_true rfl) ?_
  intro κ X hret
  unfold fX5_climb at h
  refine zi_iload_n (pc' := 1) X dX5_climb_0 rfl rfl 1 rfl ?_
  refine zi_callSi (pc' := 4) X zl_X5_54 [.int a1] rfl rfl (by decide) (Nat.le_of_ble_eq_true rfl) dX5_climb_1 rfl (tX5_isCell _ (zok_bd h (fun r1 m2 h => ?_)))
  refine zi_if_eq (pc' := 7) (tgt := 14) X dX5_climb_4 rfl rfl (fun c => ?_) (fun c => ?_)
  · replace h := zok_t h c
    refine zi_aload_n (pc' := 15) X dX5_climb_14 rfl rfl 0 rfl ?_
    refine zi_iconst (pc' := 16) (v := (0 : Int32)) X dX5_climb_15 rfl rfl ?_
    refine zi_callVi (pc' := 19) X zl_X5_61 ha0 (by decide) [.int (0 : Int32)] rfl rfl (by decide) (Nat.le_of_ble_eq_true rfl) dX5_climb_16 rfl (tX5_finding _ ha0 (zok_bd h (fun r3 m4 h => ?_)))
    exact hret _ _ _ _ dX5_climb_19 trivial h
  · replace h := zok_f h c
    refine zi_iload_n (pc' := 8) X dX5_climb_7 rfl rfl 2 rfl ?_
    refine zi_callSi (pc' := 11) X zl_X5_54 [.int a2] rfl rfl (by decide) (Nat.le_of_ble_eq_true rfl) dX5_climb_8 rfl (tX5_isCell _ (zok_bd h (fun r5 m6 h => ?_)))
    refine zi_if_ne (pc' := 14) (tgt := 20) X dX5_climb_11 rfl rfl (fun c => ?_) (fun c => ?_)
    · replace h := zok_f h c
      refine zi_aload_n (pc' := 21) X dX5_climb_20 rfl rfl 0 rfl ?_
      refine zi_getr (pc' := 24) X zf_X5_25 rfl (by decide) ha0 dX5_climb_21 rfl ?_
      have f7 := zr_5_3 ha0
      refine zi_aload_n (pc' := 25) X dX5_climb_24 rfl rfl 0 rfl ?_
      refine zi_getr (pc' := 28) X zf_X5_10 rfl (by decide) ha0 dX5_climb_25 rfl ?_
      have f8 := zr_5_0 ha0
      refine zi_iload_n (pc' := 29) X dX5_climb_28 rfl rfl 1 rfl ?_
      refine zi_iload_n (pc' := 30) X dX5_climb_29 rfl rfl 2 rfl ?_
      refine zi_callVi (pc' := 33) X zl_X5_145 f7 (by decide) [.ref (zad g (a0 + 1)), .int a1, .int a2] rfl rfl (by decide) (Nat.le_of_ble_eq_true rfl) dX5_climb_30 rfl (tX1_leastClimb _ f7 f8 (zok_bd h (fun r9 m10 h => ?_)))
      exact hret _ _ _ _ dX5_climb_33 trivial h
    · replace h := zok_t h c
      refine zi_aload_n (pc' := 15) X dX5_climb_14 rfl rfl 0 rfl ?_
      refine zi_iconst (pc' := 16) (v := (0 : Int32)) X dX5_climb_15 rfl rfl ?_
      refine zi_callVi (pc' := 19) X zl_X5_61 ha0 (by decide) [.int (0 : Int32)] rfl rfl (by decide) (Nat.le_of_ble_eq_true rfl) dX5_climb_16 rfl (tX5_finding _ ha0 (zok_bd h (fun r11 m12 h => ?_)))
      exact hret _ _ _ _ dX5_climb_19 trivial h
def fX5_drink (a0 : Nat) (a1 : Int32) (a2 : Int32) (μ : zMem) : Option (Int32 × zMem) :=
  zbd (fX5_isCell a1 μ) fun r1 m2 =>
  if r1 = 0 then
    zbd (fX5_finding a0 (0 : Int32) m2) fun r3 m4 =>
    some (r3, m4)
  else
    zbd (fX5_isMeasure a2 m2) fun r5 m6 =>
    if r5 = 0 then
      zbd (fX5_finding a0 (0 : Int32) m6) fun r17 m18 =>
      some (r17, m18)
    else
      zbd (fX1_roam (a0 + 49) (a0 + 1) a1 a2 m6) fun _ m10 =>
      zbd (fX1_nearestOf (a0 + 49) (m10 (a0 + 1) 4) m10) fun r13 m14 =>
      if r13 = (-1 : Int32) then
        zbd (fX5_finding a0 (3 : Int32) m14) fun r15 m16 =>
        some (r15, m16)
      else
        some (r13, m14)
set_option maxRecDepth 100000 in
set_option maxHeartbeats 4000000 in
theorem tX5_drink (g : zG) {a0 : Nat} {a1 : Int32} {a2 : Int32} {μ : zMem} {Q : Int32 → zMem → Prop} (ha0 : zkd a0 = 5) (h : zok (fX5_drink a0 a1 a2 μ) Q) : zTi g yX5_drink cX5_drink 4 .int 3 [.ref (zad g a0), .int a1, .int a2] μ Q := by
  refine zTi_of (P := fun r => True) zpi RX5 (by decide) rfl (Nat.le_of_ble_eq_true rfl) ?_
  intro κ X hret
  unfold fX5_drink at h
  refine zi_iload_n (pc' := 1) X dX5_drink_0 rfl rfl 1 rfl ?_
  refine zi_callSi (pc' := 4) X zl_X5_54 [.int a1] rfl rfl (by decide) (Nat.le_of_ble_eq_true rfl) dX5_drink_1 rfl (tX5_isCell _ (zok_bd h (fun r1 m2 h => ?_)))
  refine zi_if_eq (pc' := 7) (tgt := 14) X dX5_drink_4 rfl rfl (fun c => ?_) (fun c => ?_)
  · replace h := zok_t h c
    refine zi_aload_n (pc' := 15) X dX5_drink_14 rfl rfl 0 rfl ?_
    refine zi_iconst (pc' := 16) (v := (0 : Int32)) X dX5_drink_15 rfl rfl ?_
    refine zi_callVi (pc' := 19) X zl_X5_61 ha0 (by decide) [.int (0 : Int32)] rfl rfl (by decide) (Nat.le_of_ble_eq_true rfl) dX5_drink_16 rfl (tX5_finding _ ha0 (zok_bd h (fun r3 m4 h => ?_)))
    exact hret _ _ _ _ dX5_drink_19 trivial h
  · replace h := zok_f h c
    refine zi_iload_n (pc' := 8) X dX5_drink_7 rfl rfl 2 rfl ?_
    refine zi_callSi (pc' := 11) X zl_X5_58 [.int a2] rfl rfl (by decide) (Nat.le_of_ble_eq_true rfl) dX5_drink_8 rfl (tX5_isMeasure _ (zok_bd h (fun r5 m6 h => ?_)))
    refine zi_if_ne (pc' := 14) (tgt := 20) X dX5_drink_11 rfl rfl (fun c => ?_) (fun c => ?_)
    · replace h := zok_f h c
      refine zi_aload_n (pc' := 21) X dX5_drink_20 rfl rfl 0 rfl ?_
      refine zi_getr (pc' := 24) X zf_X5_25 rfl (by decide) ha0 dX5_drink_21 rfl ?_
      have f7 := zr_5_3 ha0
      refine zi_aload_n (pc' := 25) X dX5_drink_24 rfl rfl 0 rfl ?_
      refine zi_getr (pc' := 28) X zf_X5_10 rfl (by decide) ha0 dX5_drink_25 rfl ?_
      have f8 := zr_5_0 ha0
      refine zi_iload_n (pc' := 29) X dX5_drink_28 rfl rfl 1 rfl ?_
      refine zi_iload_n (pc' := 30) X dX5_drink_29 rfl rfl 2 rfl ?_
      refine zi_callVv (pc' := 33) X zl_X5_149 f7 (by decide) [.ref (zad g (a0 + 1)), .int a1, .int a2] rfl rfl (by decide) (Nat.le_of_ble_eq_true rfl) dX5_drink_30 rfl (tX1_roam _ f7 f8 (zok_bd h (fun _ m10 h => ?_)))
      refine zi_aload_n (pc' := 34) X dX5_drink_33 rfl rfl 0 rfl ?_
      refine zi_getr (pc' := 37) X zf_X5_25 rfl (by decide) ha0 dX5_drink_34 rfl ?_
      have f11 := zr_5_3 ha0
      refine zi_aload_n (pc' := 38) X dX5_drink_37 rfl rfl 0 rfl ?_
      refine zi_getr (pc' := 41) X zf_X5_10 rfl (by decide) ha0 dX5_drink_38 rfl ?_
      have f12 := zr_5_0 ha0
      refine zi_geti (pc' := 44) X zf_X5_129 rfl (by decide) f12 dX5_drink_41 rfl ?_
      refine zi_callVi (pc' := 47) X zl_X5_156 f11 (by decide) [.int (m10 (a0 + 1) 4)] rfl rfl (by decide) (Nat.le_of_ble_eq_true rfl) dX5_drink_44 rfl (tX1_nearestOf _ f11 (zok_bd h (fun r13 m14 h => ?_)))
      refine zi_istore_n (pc' := 48) X dX5_drink_47 rfl rfl (by decide) [(3, .int r13), (0, .ref (zad g a0)), (1, .int a1), (2, .int a2)] rfl ?_
      refine zi_iload_n (pc' := 49) X dX5_drink_48 rfl rfl 0 rfl ?_
      refine zi_iconst (pc' := 50) (v := (-1 : Int32)) X dX5_drink_49 rfl rfl ?_
      refine zi_icmp_ne (pc' := 53) (tgt := 61) X dX5_drink_50 rfl rfl (fun c => ?_) (fun c => ?_)
      · replace h := zok_f h c
        refine zi_iload_n (pc' := 62) X dX5_drink_61 rfl rfl 0 rfl ?_
        exact hret _ _ _ _ dX5_drink_62 trivial h
      · replace h := zok_t h c
        refine zi_aload_n (pc' := 54) X dX5_drink_53 rfl rfl 1 rfl ?_
        refine zi_iconst (pc' := 55) (v := (3 : Int32)) X dX5_drink_54 rfl rfl ?_
        refine zi_callVi (pc' := 58) X zl_X5_61 ha0 (by decide) [.int (3 : Int32)] rfl rfl (by decide) (Nat.le_of_ble_eq_true rfl) dX5_drink_55 rfl (tX5_finding _ ha0 (zok_bd h (fun r15 m16 h => ?_)))
        refine zi_goto (pc' := 62) X dX5_drink_58 rfl ?_
        exact hret _ _ _ _ dX5_drink_62 trivial h
    · replace h := zok_t h c
      refine zi_aload_n (pc' := 15) X dX5_drink_14 rfl rfl 0 rfl ?_
      refine zi_iconst (pc' := 16) (v := (0 : Int32)) X dX5_drink_15 rfl rfl ?_
      refine zi_callVi (pc' := 19) X zl_X5_61 ha0 (by decide) [.int (0 : Int32)] rfl rfl (by decide) (Nat.le_of_ble_eq_true rfl) dX5_drink_16 rfl (tX5_finding _ ha0 (zok_bd h (fun r17 m18 h => ?_)))
      exact hret _ _ _ _ dX5_drink_19 trivial h
def fX5_home_18 : Nat → Nat → Int32 → Int32 → Int32 → zMem → Option (Int32 × zMem)
  | 0, _, _, _, _, _ => none
  | n + 1, a0, a1, a2, a3, μ =>
    if (16 : Int32) ≤ a3 then
      some (a2, μ)
    else
      zgd (zib a1 6) (
      zbd (fX0_unlikeness (a0 + 1) (((a0 + 1) + 3) + 1 + 2 * (a1).toNatClampNeg) a3 μ) fun r8 m9 =>
      zgd (zib a1 6) (
      zbd (fX0_unlikeness (a0 + 1) (((a0 + 1) + 3) + 1 + 2 * (a1).toNatClampNeg) a2 m9) fun r15 m16 =>
      if r15 ≤ r8 then
        fX5_home_18 n a0 a1 a2 (a3 + (1 : Int32)) m16
      else
        fX5_home_18 n a0 a1 a3 (a3 + (1 : Int32)) m16))
set_option maxRecDepth 100000 in
theorem lX5_home_18 {g : zG} {κ : zK} (X : zC g κ RX5 cX5_home 4 3) {Q : Int32 → zMem → Prop} (hret : ∀ pc lv r μ', decode cX5_home pc = .ok (.ireturn, 1) → True → Q r μ' → zV g κ pc lv [.int r] μ') : ∀ (n : Nat) (a0 : Nat) (a1 : Int32) (a2 : Int32) (a3 : Int32) (μ : zMem) (ha0 : zkd a0 = 5), zok (fX5_home_18 n a0 a1 a2 a3 μ) Q → zV g κ 18 [(0, .ref (zad g a0)), (1, .int a1), (2, .int a2), (3, .int a3)] [] μ := by
  intro n
  induction n with
  | zero =>
    intro a0 a1 a2 a3 μ ha0 h
    exact h.elim
  | succ n ih =>
    intro a0 a1 a2 a3 μ ha0 h
    rw [fX5_home_18] at h
    refine zi_iload_n (pc' := 19) X dX5_home_18 rfl rfl 3 rfl ?_
    refine zi_bipush (pc' := 21) (v := (16 : Int32)) X dX5_home_19 rfl rfl ?_
    refine zi_icmp_ge (pc' := 24) (tgt := 69) X dX5_home_21 rfl rfl (fun c => ?_) (fun c => ?_)
    · replace h := zok_t h c
      refine zi_iload_n (pc' := 70) X dX5_home_69 rfl rfl 2 rfl ?_
      exact hret _ _ _ _ dX5_home_70 trivial h
    · replace h := zok_f h c
      refine zi_aload_n (pc' := 25) X dX5_home_24 rfl rfl 0 rfl ?_
      refine zi_getr (pc' := 28) X zf_X5_10 rfl (by decide) ha0 dX5_home_25 rfl ?_
      have f3 := zr_5_0 ha0
      refine zi_aload_n (pc' := 29) X dX5_home_28 rfl rfl 0 rfl ?_
      refine zi_getr (pc' := 32) X zf_X5_10 rfl (by decide) ha0 dX5_home_29 rfl ?_
      have f4 := zr_5_0 ha0
      refine zi_getr (pc' := 35) X zf_X5_99 rfl (by decide) f4 dX5_home_32 rfl ?_
      have f5 := zr_0_2 f4
      refine zi_iload_n (pc' := 36) X dX5_home_35 rfl rfl 1 rfl ?_
      obtain ⟨g6, h⟩ := zok_g h
      refine zi_aaldT (pc' := 37) X f5.1 (by rw [f5.2]; exact g6) dX5_home_36 rfl ?_
      have f7 := zr_tent f5 g6
      refine zi_iload_n (pc' := 38) X dX5_home_37 rfl rfl 3 rfl ?_
      refine zi_callVi (pc' := 41) X zl_X5_190 f3 (by decide) [.ref (zad g (((a0 + 1) + 3) + 1 + 2 * (a1).toNatClampNeg)), .int a3] rfl rfl (by decide) (Nat.le_of_ble_eq_true rfl) dX5_home_38 rfl (tX0_unlikeness _ f3 f7 (zok_bd h (fun r8 m9 h => ?_)))
      refine zi_aload_n (pc' := 42) X dX5_home_41 rfl rfl 0 rfl ?_
      refine zi_getr (pc' := 45) X zf_X5_10 rfl (by decide) ha0 dX5_home_42 rfl ?_
      have f10 := zr_5_0 ha0
      refine zi_aload_n (pc' := 46) X dX5_home_45 rfl rfl 0 rfl ?_
      refine zi_getr (pc' := 49) X zf_X5_10 rfl (by decide) ha0 dX5_home_46 rfl ?_
      have f11 := zr_5_0 ha0
      refine zi_getr (pc' := 52) X zf_X5_99 rfl (by decide) f11 dX5_home_49 rfl ?_
      have f12 := zr_0_2 f11
      refine zi_iload_n (pc' := 53) X dX5_home_52 rfl rfl 1 rfl ?_
      obtain ⟨g13, h⟩ := zok_g h
      refine zi_aaldT (pc' := 54) X f12.1 (by rw [f12.2]; exact g13) dX5_home_53 rfl ?_
      have f14 := zr_tent f12 g13
      refine zi_iload_n (pc' := 55) X dX5_home_54 rfl rfl 2 rfl ?_
      refine zi_callVi (pc' := 58) X zl_X5_190 f10 (by decide) [.ref (zad g (((a0 + 1) + 3) + 1 + 2 * (a1).toNatClampNeg)), .int a2] rfl rfl (by decide) (Nat.le_of_ble_eq_true rfl) dX5_home_55 rfl (tX0_unlikeness _ f10 f14 (zok_bd h (fun r15 m16 h => ?_)))
      refine zi_icmp_ge (pc' := 61) (tgt := 63) X dX5_home_58 rfl rfl (fun c => ?_) (fun c => ?_)
      · replace h := zok_t h c
        refine zi_iinc (pc' := 66) (v := (a3 + (1 : Int32))) X dX5_home_63 rfl 3 rfl rfl (by decide) [(3, .int (a3 + (1 : Int32))), (0, .ref (zad g a0)), (1, .int a1), (2, .int a2)] rfl ?_
        refine zi_goto (pc' := 18) X dX5_home_66 rfl ?_
        exact zi_sub X [1, 2, 3, 0] _ rfl (ih a0 a1 a2 (a3 + (1 : Int32)) (m16) ha0 h)
      · replace h := zok_f h c
        refine zi_iload_n (pc' := 62) X dX5_home_61 rfl rfl 3 rfl ?_
        refine zi_istore_n (pc' := 63) X dX5_home_62 rfl rfl (by decide) [(2, .int a3), (0, .ref (zad g a0)), (1, .int a1), (3, .int a3)] rfl ?_
        refine zi_iinc (pc' := 66) (v := (a3 + (1 : Int32))) X dX5_home_63 rfl 3 rfl rfl (by decide) [(3, .int (a3 + (1 : Int32))), (2, .int a3), (0, .ref (zad g a0)), (1, .int a1)] rfl ?_
        refine zi_goto (pc' := 18) X dX5_home_66 rfl ?_
        exact zi_sub X [2, 3, 1, 0] _ rfl (ih a0 a1 a3 (a3 + (1 : Int32)) (m16) ha0 h)
def fX5_home (a0 : Nat) (a1 : Int32) (μ : zMem) : Option (Int32 × zMem) :=
  zbd (fX5_isTent a0 a1 μ) fun r1 m2 =>
  if r1 = 0 then
    zbd (fX5_finding a0 (0 : Int32) m2) fun r17 m18 =>
    some (r17, m18)
  else
    fX5_home_18 200 a0 a1 (0 : Int32) (1 : Int32) m2
set_option maxRecDepth 100000 in
set_option maxHeartbeats 4000000 in
theorem tX5_home (g : zG) {a0 : Nat} {a1 : Int32} {μ : zMem} {Q : Int32 → zMem → Prop} (ha0 : zkd a0 = 5) (h : zok (fX5_home a0 a1 μ) Q) : zTi g yX5_home cX5_home 4 .int 3 [.ref (zad g a0), .int a1] μ Q := by
  refine zTi_of (P := fun r => True) zpi RX5 (by decide) rfl (Nat.le_of_ble_eq_true rfl) ?_
  intro κ X hret
  unfold fX5_home at h
  refine zi_aload_n (pc' := 1) X dX5_home_0 rfl rfl 0 rfl ?_
  refine zi_iload_n (pc' := 2) X dX5_home_1 rfl rfl 1 rfl ?_
  refine zi_callVi (pc' := 5) X zl_X5_96 ha0 (by decide) [.int a1] rfl rfl (by decide) (Nat.le_of_ble_eq_true rfl) dX5_home_2 rfl (tX5_isTent _ ha0 (zok_bd h (fun r1 m2 h => ?_)))
  refine zi_if_ne (pc' := 8) (tgt := 14) X dX5_home_5 rfl rfl (fun c => ?_) (fun c => ?_)
  · replace h := zok_f h c
    refine zi_iconst (pc' := 15) (v := (0 : Int32)) X dX5_home_14 rfl rfl ?_
    refine zi_istore_n (pc' := 16) X dX5_home_15 rfl rfl (by decide) [(2, .int (0 : Int32)), (0, .ref (zad g a0)), (1, .int a1)] rfl ?_
    refine zi_iconst (pc' := 17) (v := (1 : Int32)) X dX5_home_16 rfl rfl ?_
    refine zi_istore_n (pc' := 18) X dX5_home_17 rfl rfl (by decide) [(3, .int (1 : Int32)), (2, .int (0 : Int32)), (0, .ref (zad g a0)), (1, .int a1)] rfl ?_
    exact zi_sub X [2, 3, 1, 0] _ rfl (lX5_home_18 X hret 200 a0 a1 (0 : Int32) (1 : Int32) (m2) ha0 h)
  · replace h := zok_t h c
    refine zi_aload_n (pc' := 9) X dX5_home_8 rfl rfl 0 rfl ?_
    refine zi_iconst (pc' := 10) (v := (0 : Int32)) X dX5_home_9 rfl rfl ?_
    refine zi_callVi (pc' := 13) X zl_X5_61 ha0 (by decide) [.int (0 : Int32)] rfl rfl (by decide) (Nat.le_of_ble_eq_true rfl) dX5_home_10 rfl (tX5_finding _ ha0 (zok_bd h (fun r17 m18 h => ?_)))
    exact hret _ _ _ _ dX5_home_13 trivial h
def fX5_image (a0 : Nat) (μ : zMem) : Option (Int32 × zMem) :=
  zbd (fX0_becomeLike (a0 + 17) (a0 + 1) μ) fun _ m4 =>
  some ((1 : Int32), (zst m4 a0 8 (1 : Int32)))
set_option maxRecDepth 100000 in
set_option maxHeartbeats 4000000 in
theorem tX5_image (g : zG) {a0 : Nat} {μ : zMem} {Q : Int32 → zMem → Prop} (ha0 : zkd a0 = 5) (h : zok (fX5_image a0 μ) Q) : zTi g yX5_image cX5_image 1 .int 3 [.ref (zad g a0)] μ Q := by
  refine zTi_of (P := fun r => True) zpi RX5 (by decide) rfl (Nat.le_of_ble_eq_true rfl) ?_
  intro κ X hret
  unfold fX5_image at h
  refine zi_aload_n (pc' := 1) X dX5_image_0 rfl rfl 0 rfl ?_
  refine zi_getr (pc' := 4) X zf_X5_16 rfl (by decide) ha0 dX5_image_1 rfl ?_
  have f1 := zr_5_1 ha0
  refine zi_aload_n (pc' := 5) X dX5_image_4 rfl rfl 0 rfl ?_
  refine zi_getr (pc' := 8) X zf_X5_10 rfl (by decide) ha0 dX5_image_5 rfl ?_
  have f2 := zr_5_0 ha0
  refine zi_callVv (pc' := 11) X zl_X5_159 f1 (by decide) [.ref (zad g (a0 + 1))] rfl rfl (by decide) (Nat.le_of_ble_eq_true rfl) dX5_image_8 rfl (tX0_becomeLike _ f1 f2 (zok_bd h (fun _ m4 h => ?_)))
  refine zi_aload_n (pc' := 12) X dX5_image_11 rfl rfl 0 rfl ?_
  refine zi_iconst (pc' := 13) (v := (1 : Int32)) X dX5_image_12 rfl rfl ?_
  refine zi_put (pc' := 16) X zf_X5_49 zw_5_8 rfl (by decide) ha0 (zpb _ (by decide)) (zpf (by decide)) dX5_image_13 rfl ?_
  refine zi_iconst (pc' := 17) (v := (1 : Int32)) X dX5_image_16 rfl rfl ?_
  exact hret _ _ _ _ dX5_image_17 trivial h
def fX5_judge_44 : Nat → Nat → Int32 → Int32 → Nat → Int32 → zMem → Option (Int32 × zMem)
  | 0, _, _, _, _, _, _ => none
  | n + 1, a0, a1, a2, a4, a5, μ =>
    zgd (zib a1 4) (
    if (μ ((a0 + 55) + 3 + 2 * (a1).toNatClampNeg) 1) ≤ a5 then
      some ((0 : Int32), μ)
    else
      zgd (zib a5 40) (
      zbd (fX5_isCell (μ a4 (a5).toNatClampNeg) μ) fun r13 m14 =>
      if r13 = 0 then
        some (((1 : Int32) + a5), m14)
      else
        if a5 ≤ 0 then
          fX5_judge_44 n a0 a1 a2 a4 (a5 + (1 : Int32)) m14
        else
          zgd (zib (a5 - (1 : Int32)) 40) (
          zgd (zib a5 40) (
          zbd (fX0_isStep (a0 + 1) (m14 a4 ((a5 - (1 : Int32))).toNatClampNeg) (m14 a4 (a5).toNatClampNeg) a2 m14) fun r18 m19 =>
          if r18 = 0 then
            some (((1 : Int32) + a5), m19)
          else
            fX5_judge_44 n a0 a1 a2 a4 (a5 + (1 : Int32)) m19))))
set_option maxRecDepth 100000 in
theorem lX5_judge_44 {g : zG} {κ : zK} (X : zC g κ RX5 cX5_judge 6 3) {Q : Int32 → zMem → Prop} (hret : ∀ pc lv r μ', decode cX5_judge pc = .ok (.ireturn, 1) → True → Q r μ' → zV g κ pc lv [.int r] μ') : ∀ (n : Nat) (a0 : Nat) (a1 : Int32) (a2 : Int32) (a4 : Nat) (a5 : Int32) (μ : zMem) (ha0 : zkd a0 = 5) (ha4 : zR a4 7 40), zok (fX5_judge_44 n a0 a1 a2 a4 a5 μ) Q → zV g κ 44 [(0, .ref (zad g a0)), (1, .int a1), (2, .int a2), (4, .ref (zad g a4)), (5, .int a5)] [] μ := by
  intro n
  induction n with
  | zero =>
    intro a0 a1 a2 a4 a5 μ ha0 ha4 h
    exact h.elim
  | succ n ih =>
    intro a0 a1 a2 a4 a5 μ ha0 ha4 h
    rw [fX5_judge_44] at h
    refine zi_iload (pc' := 46) X dX5_judge_44 rfl 4 rfl ?_
    refine zi_aload_n (pc' := 47) X dX5_judge_46 rfl rfl 0 rfl ?_
    refine zi_getr (pc' := 50) X zf_X5_38 rfl (by decide) ha0 dX5_judge_47 rfl ?_
    have f9 := zr_5_5 ha0
    refine zi_iload_n (pc' := 51) X dX5_judge_50 rfl rfl 1 rfl ?_
    obtain ⟨g10, h⟩ := zok_g h
    refine zi_aaldS (pc' := 52) X f9.1 (by rw [f9.2]; exact g10) dX5_judge_51 rfl ?_
    have f11 := zr_sheet f9 g10
    refine zi_geti (pc' := 55) X zf_X5_255 rfl (by decide) f11 dX5_judge_52 rfl ?_
    refine zi_icmp_ge (pc' := 58) (tgt := 108) X dX5_judge_55 rfl rfl (fun c => ?_) (fun c => ?_)
    · replace h := zok_t h c
      refine zi_iconst (pc' := 109) (v := (0 : Int32)) X dX5_judge_108 rfl rfl ?_
      exact hret _ _ _ _ dX5_judge_109 trivial h
    · replace h := zok_f h c
      refine zi_aload (pc' := 60) X dX5_judge_58 rfl 3 rfl ?_
      refine zi_iload (pc' := 62) X dX5_judge_60 rfl 4 rfl ?_
      obtain ⟨g12, h⟩ := zok_g h
      refine zi_iald (pc' := 63) X ha4.1 (by rw [ha4.2]; exact g12) dX5_judge_62 rfl ?_
      refine zi_callSi (pc' := 66) X zl_X5_54 [.int (μ a4 (a5).toNatClampNeg)] rfl rfl (by decide) (Nat.le_of_ble_eq_true rfl) dX5_judge_63 rfl (tX5_isCell _ (zok_bd h (fun r13 m14 h => ?_)))
      refine zi_if_eq (pc' := 69) (tgt := 97) X dX5_judge_66 rfl rfl (fun c => ?_) (fun c => ?_)
      · replace h := zok_t h c
        refine zi_iconst (pc' := 98) (v := (1 : Int32)) X dX5_judge_97 rfl rfl ?_
        refine zi_iload (pc' := 100) X dX5_judge_98 rfl 4 rfl ?_
        refine zi_iadd (pc' := 101) X dX5_judge_100 rfl ?_
        exact hret _ _ _ _ dX5_judge_101 trivial h
      · replace h := zok_f h c
        refine zi_iload (pc' := 71) X dX5_judge_69 rfl 4 rfl ?_
        refine zi_if_le (pc' := 74) (tgt := 102) X dX5_judge_71 rfl rfl (fun c => ?_) (fun c => ?_)
        · replace h := zok_t h c
          refine zi_iinc (pc' := 105) (v := (a5 + (1 : Int32))) X dX5_judge_102 rfl 4 rfl rfl (by decide) [(5, .int (a5 + (1 : Int32))), (0, .ref (zad g a0)), (1, .int a1), (2, .int a2), (4, .ref (zad g a4))] rfl ?_
          refine zi_goto (pc' := 44) X dX5_judge_105 rfl ?_
          exact zi_sub X [1, 2, 3, 4, 0] _ rfl (ih a0 a1 a2 a4 (a5 + (1 : Int32)) (m14) ha0 ha4 h)
        · replace h := zok_f h c
          refine zi_aload_n (pc' := 75) X dX5_judge_74 rfl rfl 0 rfl ?_
          refine zi_getr (pc' := 78) X zf_X5_10 rfl (by decide) ha0 dX5_judge_75 rfl ?_
          have f15 := zr_5_0 ha0
          refine zi_aload (pc' := 80) X dX5_judge_78 rfl 3 rfl ?_
          refine zi_iload (pc' := 82) X dX5_judge_80 rfl 4 rfl ?_
          refine zi_iconst (pc' := 83) (v := (1 : Int32)) X dX5_judge_82 rfl rfl ?_
          refine zi_isub (pc' := 84) X dX5_judge_83 rfl ?_
          obtain ⟨g16, h⟩ := zok_g h
          refine zi_iald (pc' := 85) X ha4.1 (by rw [ha4.2]; exact g16) dX5_judge_84 rfl ?_
          refine zi_aload (pc' := 87) X dX5_judge_85 rfl 3 rfl ?_
          refine zi_iload (pc' := 89) X dX5_judge_87 rfl 4 rfl ?_
          obtain ⟨g17, h⟩ := zok_g h
          refine zi_iald (pc' := 90) X ha4.1 (by rw [ha4.2]; exact g17) dX5_judge_89 rfl ?_
          refine zi_iload_n (pc' := 91) X dX5_judge_90 rfl rfl 2 rfl ?_
          refine zi_callVi (pc' := 94) X zl_X5_277 f15 (by decide) [.int (m14 a4 ((a5 - (1 : Int32))).toNatClampNeg), .int (m14 a4 (a5).toNatClampNeg), .int a2] rfl rfl (by decide) (Nat.le_of_ble_eq_true rfl) dX5_judge_91 rfl (tX0_isStep _ f15 (zok_bd h (fun r18 m19 h => ?_)))
          refine zi_if_ne (pc' := 97) (tgt := 102) X dX5_judge_94 rfl rfl (fun c => ?_) (fun c => ?_)
          · replace h := zok_f h c
            refine zi_iinc (pc' := 105) (v := (a5 + (1 : Int32))) X dX5_judge_102 rfl 4 rfl rfl (by decide) [(5, .int (a5 + (1 : Int32))), (0, .ref (zad g a0)), (1, .int a1), (2, .int a2), (4, .ref (zad g a4))] rfl ?_
            refine zi_goto (pc' := 44) X dX5_judge_105 rfl ?_
            exact zi_sub X [1, 2, 3, 4, 0] _ rfl (ih a0 a1 a2 a4 (a5 + (1 : Int32)) (m19) ha0 ha4 h)
          · replace h := zok_t h c
            refine zi_iconst (pc' := 98) (v := (1 : Int32)) X dX5_judge_97 rfl rfl ?_
            refine zi_iload (pc' := 100) X dX5_judge_98 rfl 4 rfl ?_
            refine zi_iadd (pc' := 101) X dX5_judge_100 rfl ?_
            exact hret _ _ _ _ dX5_judge_101 trivial h
def fX5_judge (a0 : Nat) (a1 : Int32) (a2 : Int32) (μ : zMem) : Option (Int32 × zMem) :=
  zbd (fX5_lackOf a0 a1 μ) fun r1 m2 =>
  if r1 = (-1 : Int32) then
    zbd (fX5_isMeasure a2 m2) fun r3 m4 =>
    if r3 = 0 then
      zbd (fX5_finding a0 (0 : Int32) m4) fun r20 m21 =>
      some (r20, m21)
    else
      zgd (zib a1 4) (
      fX5_judge_44 200 a0 a1 a2 (((a0 + 55) + 3 + 2 * (a1).toNatClampNeg) + 1) (0 : Int32) m4)
  else
    zbd (fX5_finding a0 r1 m2) fun r22 m23 =>
    some (r22, m23)
set_option maxRecDepth 100000 in
set_option maxHeartbeats 4000000 in
theorem tX5_judge (g : zG) {a0 : Nat} {a1 : Int32} {a2 : Int32} {μ : zMem} {Q : Int32 → zMem → Prop} (ha0 : zkd a0 = 5) (h : zok (fX5_judge a0 a1 a2 μ) Q) : zTi g yX5_judge cX5_judge 6 .int 3 [.ref (zad g a0), .int a1, .int a2] μ Q := by
  refine zTi_of (P := fun r => True) zpi RX5 (by decide) rfl (Nat.le_of_ble_eq_true rfl) ?_
  intro κ X hret
  unfold fX5_judge at h
  refine zi_aload_n (pc' := 1) X dX5_judge_0 rfl rfl 0 rfl ?_
  refine zi_iload_n (pc' := 2) X dX5_judge_1 rfl rfl 1 rfl ?_
  refine zi_callVi (pc' := 5) X zl_X5_210 ha0 (by decide) [.int a1] rfl rfl (by decide) (Nat.le_of_ble_eq_true rfl) dX5_judge_2 rfl (tX5_lackOf _ ha0 (zok_bd h (fun r1 m2 h => ?_)))
  refine zi_istore_n (pc' := 6) X dX5_judge_5 rfl rfl (by decide) [(3, .int r1), (0, .ref (zad g a0)), (1, .int a1), (2, .int a2)] rfl ?_
  refine zi_iload_n (pc' := 7) X dX5_judge_6 rfl rfl 0 rfl ?_
  refine zi_iconst (pc' := 8) (v := (-1 : Int32)) X dX5_judge_7 rfl rfl ?_
  refine zi_icmp_eq (pc' := 11) (tgt := 17) X dX5_judge_8 rfl rfl (fun c => ?_) (fun c => ?_)
  · replace h := zok_t h c
    refine zi_iload_n (pc' := 18) X dX5_judge_17 rfl rfl 3 rfl ?_
    refine zi_callSi (pc' := 21) X zl_X5_58 [.int a2] rfl rfl (by decide) (Nat.le_of_ble_eq_true rfl) dX5_judge_18 rfl (tX5_isMeasure _ (zok_bd h (fun r3 m4 h => ?_)))
    refine zi_if_ne (pc' := 24) (tgt := 30) X dX5_judge_21 rfl rfl (fun c => ?_) (fun c => ?_)
    · replace h := zok_f h c
      refine zi_aload_n (pc' := 31) X dX5_judge_30 rfl rfl 1 rfl ?_
      refine zi_getr (pc' := 34) X zf_X5_38 rfl (by decide) ha0 dX5_judge_31 rfl ?_
      have f5 := zr_5_5 ha0
      refine zi_iload_n (pc' := 35) X dX5_judge_34 rfl rfl 2 rfl ?_
      obtain ⟨g6, h⟩ := zok_g h
      refine zi_aaldS (pc' := 36) X f5.1 (by rw [f5.2]; exact g6) dX5_judge_35 rfl ?_
      have f7 := zr_sheet f5 g6
      refine zi_getr (pc' := 39) X zf_X5_268 rfl (by decide) f7 dX5_judge_36 rfl ?_
      have f8 := zr_2_2 f7
      refine zi_astore (pc' := 41) X dX5_judge_39 rfl (by decide) [(4, .ref (zad g (((a0 + 55) + 3 + 2 * (a1).toNatClampNeg) + 1))), (3, .int r1), (0, .ref (zad g a0)), (1, .int a1), (2, .int a2)] rfl ?_
      refine zi_iconst (pc' := 42) (v := (0 : Int32)) X dX5_judge_41 rfl rfl ?_
      refine zi_istore (pc' := 44) X dX5_judge_42 rfl (by decide) [(5, .int (0 : Int32)), (4, .ref (zad g (((a0 + 55) + 3 + 2 * (a1).toNatClampNeg) + 1))), (3, .int r1), (0, .ref (zad g a0)), (1, .int a1), (2, .int a2)] rfl ?_
      exact zi_sub X [3, 4, 5, 1, 0] _ rfl (lX5_judge_44 X hret 200 a0 a1 a2 (((a0 + 55) + 3 + 2 * (a1).toNatClampNeg) + 1) (0 : Int32) (m4) ha0 f8 h)
    · replace h := zok_t h c
      refine zi_aload_n (pc' := 25) X dX5_judge_24 rfl rfl 1 rfl ?_
      refine zi_iconst (pc' := 26) (v := (0 : Int32)) X dX5_judge_25 rfl rfl ?_
      refine zi_callVi (pc' := 29) X zl_X5_61 ha0 (by decide) [.int (0 : Int32)] rfl rfl (by decide) (Nat.le_of_ble_eq_true rfl) dX5_judge_26 rfl (tX5_finding _ ha0 (zok_bd h (fun r20 m21 h => ?_)))
      exact hret _ _ _ _ dX5_judge_29 trivial h
  · replace h := zok_f h c
    refine zi_aload_n (pc' := 12) X dX5_judge_11 rfl rfl 1 rfl ?_
    refine zi_iload_n (pc' := 13) X dX5_judge_12 rfl rfl 0 rfl ?_
    refine zi_callVi (pc' := 16) X zl_X5_61 ha0 (by decide) [.int r1] rfl rfl (by decide) (Nat.le_of_ble_eq_true rfl) dX5_judge_13 rfl (tX5_finding _ ha0 (zok_bd h (fun r22 m23 h => ?_)))
    exact hret _ _ _ _ dX5_judge_16 trivial h
def fX5_load_35 : Nat → Nat → Int32 → Int32 → Int32 → zMem → Option (Int32 × zMem)
  | 0, _, _, _, _, _ => none
  | n + 1, a0, a1, a3, a4, μ =>
    if a3 ≤ a4 then
      some (a3, μ)
    else
      zgd (zib a1 4) (
      zgd (zib a4 40) (
      zbd (fX5_isMeasure (μ (((a0 + 55) + 3 + 2 * (a1).toNatClampNeg) + 1) (a4).toNatClampNeg) μ) fun r11 m12 =>
      if r11 = 0 then
        some (a4, m12)
      else
        zgd (zib a1 4) (
        zgd (zib a4 40) (
        zgd (zib a4 25) (
        fX5_load_35 n a0 a1 a3 (a4 + (1 : Int32)) (zst m12 ((a0 + 1) + 1) (a4).toNatClampNeg (m12 (((a0 + 55) + 3 + 2 * (a1).toNatClampNeg) + 1) (a4).toNatClampNeg)))))))
set_option maxRecDepth 100000 in
theorem lX5_load_35 {g : zG} {κ : zK} (X : zC g κ RX5 cX5_load 5 3) {Q : Int32 → zMem → Prop} (hret : ∀ pc lv r μ', decode cX5_load pc = .ok (.ireturn, 1) → True → Q r μ' → zV g κ pc lv [.int r] μ') : ∀ (n : Nat) (a0 : Nat) (a1 : Int32) (a3 : Int32) (a4 : Int32) (μ : zMem) (ha0 : zkd a0 = 5), zok (fX5_load_35 n a0 a1 a3 a4 μ) Q → zV g κ 35 [(0, .ref (zad g a0)), (1, .int a1), (3, .int a3), (4, .int a4)] [] μ := by
  intro n
  induction n with
  | zero =>
    intro a0 a1 a3 a4 μ ha0 h
    exact h.elim
  | succ n ih =>
    intro a0 a1 a3 a4 μ ha0 h
    rw [fX5_load_35] at h
    refine zi_iload (pc' := 37) X dX5_load_35 rfl 3 rfl ?_
    refine zi_iload_n (pc' := 38) X dX5_load_37 rfl rfl 2 rfl ?_
    refine zi_icmp_ge (pc' := 41) (tgt := 90) X dX5_load_38 rfl rfl (fun c => ?_) (fun c => ?_)
    · replace h := zok_t h c
      refine zi_iload_n (pc' := 91) X dX5_load_90 rfl rfl 2 rfl ?_
      exact hret _ _ _ _ dX5_load_91 trivial h
    · replace h := zok_f h c
      refine zi_aload_n (pc' := 42) X dX5_load_41 rfl rfl 0 rfl ?_
      refine zi_getr (pc' := 45) X zf_X5_38 rfl (by decide) ha0 dX5_load_42 rfl ?_
      have f6 := zr_5_5 ha0
      refine zi_iload_n (pc' := 46) X dX5_load_45 rfl rfl 1 rfl ?_
      obtain ⟨g7, h⟩ := zok_g h
      refine zi_aaldS (pc' := 47) X f6.1 (by rw [f6.2]; exact g7) dX5_load_46 rfl ?_
      have f8 := zr_sheet f6 g7
      refine zi_getr (pc' := 50) X zf_X5_268 rfl (by decide) f8 dX5_load_47 rfl ?_
      have f9 := zr_2_2 f8
      refine zi_iload (pc' := 52) X dX5_load_50 rfl 3 rfl ?_
      obtain ⟨g10, h⟩ := zok_g h
      refine zi_iald (pc' := 53) X f9.1 (by rw [f9.2]; exact g10) dX5_load_52 rfl ?_
      refine zi_callSi (pc' := 56) X zl_X5_58 [.int (μ (((a0 + 55) + 3 + 2 * (a1).toNatClampNeg) + 1) (a4).toNatClampNeg)] rfl rfl (by decide) (Nat.le_of_ble_eq_true rfl) dX5_load_53 rfl (tX5_isMeasure _ (zok_bd h (fun r11 m12 h => ?_)))
      refine zi_if_ne (pc' := 59) (tgt := 62) X dX5_load_56 rfl rfl (fun c => ?_) (fun c => ?_)
      · replace h := zok_f h c
        refine zi_aload_n (pc' := 63) X dX5_load_62 rfl rfl 0 rfl ?_
        refine zi_getr (pc' := 66) X zf_X5_10 rfl (by decide) ha0 dX5_load_63 rfl ?_
        have f13 := zr_5_0 ha0
        refine zi_getr (pc' := 69) X zf_X5_65 rfl (by decide) f13 dX5_load_66 rfl ?_
        have f14 := zr_0_0 f13
        refine zi_iload (pc' := 71) X dX5_load_69 rfl 3 rfl ?_
        refine zi_aload_n (pc' := 72) X dX5_load_71 rfl rfl 0 rfl ?_
        refine zi_getr (pc' := 75) X zf_X5_38 rfl (by decide) ha0 dX5_load_72 rfl ?_
        have f15 := zr_5_5 ha0
        refine zi_iload_n (pc' := 76) X dX5_load_75 rfl rfl 1 rfl ?_
        obtain ⟨g16, h⟩ := zok_g h
        refine zi_aaldS (pc' := 77) X f15.1 (by rw [f15.2]; exact g16) dX5_load_76 rfl ?_
        have f17 := zr_sheet f15 g16
        refine zi_getr (pc' := 80) X zf_X5_268 rfl (by decide) f17 dX5_load_77 rfl ?_
        have f18 := zr_2_2 f17
        refine zi_iload (pc' := 82) X dX5_load_80 rfl 3 rfl ?_
        obtain ⟨g19, h⟩ := zok_g h
        refine zi_iald (pc' := 83) X f18.1 (by rw [f18.2]; exact g19) dX5_load_82 rfl ?_
        obtain ⟨g20, h⟩ := zok_g h
        refine zi_iast (pc' := 84) X f14.1 (by rw [f14.2]; exact g20) dX5_load_83 rfl ?_
        refine zi_iinc (pc' := 87) (v := (a4 + (1 : Int32))) X dX5_load_84 rfl 3 rfl rfl (by decide) [(4, .int (a4 + (1 : Int32))), (0, .ref (zad g a0)), (1, .int a1), (3, .int a3)] rfl ?_
        refine zi_goto (pc' := 35) X dX5_load_87 rfl ?_
        exact zi_sub X [1, 2, 3, 0] _ rfl (ih a0 a1 a3 (a4 + (1 : Int32)) ((zst m12 ((a0 + 1) + 1) (a4).toNatClampNeg (m12 (((a0 + 55) + 3 + 2 * (a1).toNatClampNeg) + 1) (a4).toNatClampNeg))) ha0 h)
      · replace h := zok_t h c
        refine zi_iload (pc' := 61) X dX5_load_59 rfl 3 rfl ?_
        exact hret _ _ _ _ dX5_load_61 trivial h
def fX5_load (a0 : Nat) (a1 : Int32) (μ : zMem) : Option (Int32 × zMem) :=
  zbd (fX5_lackOf a0 a1 μ) fun r1 m2 =>
  if r1 = (-1 : Int32) then
    zgd (zib a1 4) (
    fX5_load_35 200 a0 a1 (if (25 : Int32) < (m2 ((a0 + 55) + 3 + 2 * (a1).toNatClampNeg) 1) then (25 : Int32) else (m2 ((a0 + 55) + 3 + 2 * (a1).toNatClampNeg) 1)) (0 : Int32) m2)
  else
    zbd (fX5_finding a0 r1 m2) fun r21 m22 =>
    some (r21, m22)
set_option maxRecDepth 100000 in
set_option maxHeartbeats 4000000 in
theorem tX5_load (g : zG) {a0 : Nat} {a1 : Int32} {μ : zMem} {Q : Int32 → zMem → Prop} (ha0 : zkd a0 = 5) (h : zok (fX5_load a0 a1 μ) Q) : zTi g yX5_load cX5_load 5 .int 3 [.ref (zad g a0), .int a1] μ Q := by
  refine zTi_of (P := fun r => True) zpi RX5 (by decide) rfl (Nat.le_of_ble_eq_true rfl) ?_
  intro κ X hret
  unfold fX5_load at h
  refine zi_aload_n (pc' := 1) X dX5_load_0 rfl rfl 0 rfl ?_
  refine zi_iload_n (pc' := 2) X dX5_load_1 rfl rfl 1 rfl ?_
  refine zi_callVi (pc' := 5) X zl_X5_210 ha0 (by decide) [.int a1] rfl rfl (by decide) (Nat.le_of_ble_eq_true rfl) dX5_load_2 rfl (tX5_lackOf _ ha0 (zok_bd h (fun r1 m2 h => ?_)))
  refine zi_istore_n (pc' := 6) X dX5_load_5 rfl rfl (by decide) [(2, .int r1), (0, .ref (zad g a0)), (1, .int a1)] rfl ?_
  refine zi_iload_n (pc' := 7) X dX5_load_6 rfl rfl 0 rfl ?_
  refine zi_iconst (pc' := 8) (v := (-1 : Int32)) X dX5_load_7 rfl rfl ?_
  refine zi_icmp_eq (pc' := 11) (tgt := 17) X dX5_load_8 rfl rfl (fun c => ?_) (fun c => ?_)
  · replace h := zok_t h c
    refine zi_aload_n (pc' := 18) X dX5_load_17 rfl rfl 1 rfl ?_
    refine zi_getr (pc' := 21) X zf_X5_38 rfl (by decide) ha0 dX5_load_18 rfl ?_
    have f3 := zr_5_5 ha0
    refine zi_iload_n (pc' := 22) X dX5_load_21 rfl rfl 2 rfl ?_
    obtain ⟨g4, h⟩ := zok_g h
    refine zi_aaldS (pc' := 23) X f3.1 (by rw [f3.2]; exact g4) dX5_load_22 rfl ?_
    have f5 := zr_sheet f3 g4
    refine zi_geti (pc' := 26) X zf_X5_255 rfl (by decide) f5 dX5_load_23 rfl ?_
    refine zi_bipush (pc' := 28) (v := (25 : Int32)) X dX5_load_26 rfl rfl ?_
    refine zi_mmin (pc' := 31) X zl_X5_271 (Nat.le_of_ble_eq_true rfl) (by decide) dX5_load_28 rfl ?_
    refine zi_istore_n (pc' := 32) X dX5_load_31 rfl rfl (by decide) [(3, .int (if (25 : Int32) < (m2 ((a0 + 55) + 3 + 2 * (a1).toNatClampNeg) 1) then (25 : Int32) else (m2 ((a0 + 55) + 3 + 2 * (a1).toNatClampNeg) 1))), (2, .int r1), (0, .ref (zad g a0)), (1, .int a1)] rfl ?_
    refine zi_iconst (pc' := 33) (v := (0 : Int32)) X dX5_load_32 rfl rfl ?_
    refine zi_istore (pc' := 35) X dX5_load_33 rfl (by decide) [(4, .int (0 : Int32)), (3, .int (if (25 : Int32) < (m2 ((a0 + 55) + 3 + 2 * (a1).toNatClampNeg) 1) then (25 : Int32) else (m2 ((a0 + 55) + 3 + 2 * (a1).toNatClampNeg) 1))), (2, .int r1), (0, .ref (zad g a0)), (1, .int a1)] rfl ?_
    exact zi_sub X [3, 4, 1, 0] _ rfl (lX5_load_35 X hret 200 a0 a1 (if (25 : Int32) < (m2 ((a0 + 55) + 3 + 2 * (a1).toNatClampNeg) 1) then (25 : Int32) else (m2 ((a0 + 55) + 3 + 2 * (a1).toNatClampNeg) 1)) (0 : Int32) (m2) ha0 h)
  · replace h := zok_f h c
    refine zi_aload_n (pc' := 12) X dX5_load_11 rfl rfl 1 rfl ?_
    refine zi_iload_n (pc' := 13) X dX5_load_12 rfl rfl 0 rfl ?_
    refine zi_callVi (pc' := 16) X zl_X5_61 ha0 (by decide) [.int r1] rfl rfl (by decide) (Nat.le_of_ble_eq_true rfl) dX5_load_13 rfl (tX5_finding _ ha0 (zok_bd h (fun r21 m22 h => ?_)))
    exact hret _ _ _ _ dX5_load_16 trivial h
def fX5_odds_79 (a1 : Int32) (a2 : Int32) (a3 : Int64) (a5 : Int64) (μ : zMem) : Option (Int64 × zMem) :=
  if a2 = 0 then
    zbd (fX5_power a3 a1 μ) fun r12 m13 =>
    some (r12, m13)
  else
    zbd (fX5_power a5 a1 μ) fun r10 m11 =>
    some (r10, m11)
set_option maxRecDepth 100000 in
theorem lX5_odds_79 {g : zG} {κ : zK} (X : zC g κ RX5 cX5_odds 8 3) {Q : Int64 → zMem → Prop} (hret : ∀ pc lv r μ', decode cX5_odds pc = .ok (.lreturn, 1) → Q r μ' → zV g κ pc lv [.long r] μ') : ∀ (a1 : Int32) (a2 : Int32) (a3 : Int64) (a5 : Int64) (μ : zMem), zok (fX5_odds_79 a1 a2 a3 a5 μ) Q → zV g κ 79 [(1, .int a1), (2, .int a2), (3, .long a3), (5, .long a5)] [] μ := by
  intro a1 a2 a3 a5 μ h
  unfold fX5_odds_79 at h
  refine zi_iload_n (pc' := 80) X dX5_odds_79 rfl rfl 1 rfl ?_
  refine zi_if_ne (pc' := 83) (tgt := 87) X dX5_odds_80 rfl rfl (fun c => ?_) (fun c => ?_)
  · replace h := zok_f h c
    refine zi_lload (pc' := 89) X dX5_odds_87 rfl 3 rfl ?_
    refine zi_iload_n (pc' := 90) X dX5_odds_89 rfl rfl 0 rfl ?_
    refine zi_callSl (pc' := 93) X zl_X5_226 [.long a5, .int a1] rfl rfl (by decide) (Nat.le_of_ble_eq_true rfl) dX5_odds_90 rfl (tX5_power _ (zok_bd h (fun r10 m11 h => ?_)))
    exact hret _ _ _ _ dX5_odds_93 h
  · replace h := zok_t h c
    refine zi_lload_n (pc' := 84) X dX5_odds_83 rfl rfl 2 rfl ?_
    refine zi_goto (pc' := 89) X dX5_odds_84 rfl ?_
    refine zi_iload_n (pc' := 90) X dX5_odds_89 rfl rfl 0 rfl ?_
    refine zi_callSl (pc' := 93) X zl_X5_226 [.long a3, .int a1] rfl rfl (by decide) (Nat.le_of_ble_eq_true rfl) dX5_odds_90 rfl (tX5_power _ (zok_bd h (fun r12 m13 h => ?_)))
    exact hret _ _ _ _ dX5_odds_93 h
def fX5_odds_43 : Nat → Int32 → Int32 → Int64 → Int64 → Int32 → zMem → Option (Int64 × zMem)
  | 0, _, _, _, _, _, _ => none
  | n + 1, a1, a2, a3, a5, a7, μ =>
    if (4 : Int32) ≤ a7 then
      fX5_odds_79 a1 a2 a3 a5 μ
    else
      if (lg_cmp (a3 - a3 / (2 : Int64) * (2 : Int64)) (0 : Int64)) = 0 then
        fX5_odds_43 n a1 a2 (a3 / (2 : Int64)) (a5 / (2 : Int64)) (a7 + (1 : Int32)) μ
      else
        fX5_odds_79 a1 a2 a3 a5 μ
set_option maxRecDepth 100000 in
theorem lX5_odds_43 {g : zG} {κ : zK} (X : zC g κ RX5 cX5_odds 8 3) {Q : Int64 → zMem → Prop} (hret : ∀ pc lv r μ', decode cX5_odds pc = .ok (.lreturn, 1) → Q r μ' → zV g κ pc lv [.long r] μ') : ∀ (n : Nat) (a1 : Int32) (a2 : Int32) (a3 : Int64) (a5 : Int64) (a7 : Int32) (μ : zMem), zok (fX5_odds_43 n a1 a2 a3 a5 a7 μ) Q → zV g κ 43 [(1, .int a1), (2, .int a2), (3, .long a3), (5, .long a5), (7, .int a7)] [] μ := by
  intro n
  induction n with
  | zero =>
    intro a1 a2 a3 a5 a7 μ h
    exact h.elim
  | succ n ih =>
    intro a1 a2 a3 a5 a7 μ h
    rw [fX5_odds_43] at h
    refine zi_iload (pc' := 45) X dX5_odds_43 rfl 4 rfl ?_
    refine zi_iconst (pc' := 46) (v := (4 : Int32)) X dX5_odds_45 rfl rfl ?_
    refine zi_icmp_ge (pc' := 49) (tgt := 79) X dX5_odds_46 rfl rfl (fun c => ?_) (fun c => ?_)
    · replace h := zok_t h c
      exact zi_sub X [0, 1, 2, 3] _ rfl (lX5_odds_79 X hret a1 a2 a3 a5 (μ) h)
    · replace h := zok_f h c
      refine zi_lload_n (pc' := 50) X dX5_odds_49 rfl rfl 2 rfl ?_
      refine zi_ldc2 (pc' := 53) X dX5_odds_50 rfl zk_X5_224 ?_
      refine zi_lrem (pc' := 54) X dX5_odds_53 rfl (by decide) ?_
      refine zi_lconst (pc' := 55) (v := (0 : Int64)) X dX5_odds_54 rfl rfl ?_
      refine zi_lcmp (pc' := 56) X dX5_odds_55 rfl ?_
      refine zi_if_ne (pc' := 59) (tgt := 79) X dX5_odds_56 rfl rfl (fun c => ?_) (fun c => ?_)
      · replace h := zok_f h c
        exact zi_sub X [0, 1, 2, 3] _ rfl (lX5_odds_79 X hret a1 a2 a3 a5 (μ) h)
      · replace h := zok_t h c
        refine zi_lload_n (pc' := 60) X dX5_odds_59 rfl rfl 2 rfl ?_
        refine zi_ldc2 (pc' := 63) X dX5_odds_60 rfl zk_X5_224 ?_
        refine zi_ldiv (pc' := 64) X dX5_odds_63 rfl (by decide) ?_
        refine zi_lstore_n (pc' := 65) X dX5_odds_64 rfl rfl (by decide) [(3, .long (a3 / (2 : Int64))), (1, .int a1), (2, .int a2), (5, .long a5), (7, .int a7)] rfl ?_
        refine zi_lload (pc' := 67) X dX5_odds_65 rfl 3 rfl ?_
        refine zi_ldc2 (pc' := 70) X dX5_odds_67 rfl zk_X5_224 ?_
        refine zi_ldiv (pc' := 71) X dX5_odds_70 rfl (by decide) ?_
        refine zi_lstore (pc' := 73) X dX5_odds_71 rfl (by decide) [(5, .long (a5 / (2 : Int64))), (3, .long (a3 / (2 : Int64))), (1, .int a1), (2, .int a2), (7, .int a7)] rfl ?_
        refine zi_iinc (pc' := 76) (v := (a7 + (1 : Int32))) X dX5_odds_73 rfl 4 rfl rfl (by decide) [(7, .int (a7 + (1 : Int32))), (5, .long (a5 / (2 : Int64))), (3, .long (a3 / (2 : Int64))), (1, .int a1), (2, .int a2)] rfl ?_
        refine zi_goto (pc' := 43) X dX5_odds_76 rfl ?_
        exact zi_sub X [3, 4, 2, 1, 0] _ rfl (ih a1 a2 (a3 / (2 : Int64)) (a5 / (2 : Int64)) (a7 + (1 : Int32)) (μ) h)
def fX5_odds (a0 : Nat) (a1 : Int32) (a2 : Int32) (μ : zMem) : Option (Int64 × zMem) :=
  zbd (fX5_within a1 (0 : Int32) (15 : Int32) μ) fun r1 m2 =>
  if r1 = 0 then
    zbd (fX5_finding a0 (0 : Int32) m2) fun r3 m4 =>
    some (((r3).toInt64), m4)
  else
    zbd (fX5_within a2 (0 : Int32) (1 : Int32) m2) fun r5 m6 =>
    if r5 = 0 then
      zbd (fX5_finding a0 (0 : Int32) m6) fun r14 m15 =>
      some (((r14).toInt64), m15)
    else
      zbd (fX0_dryPitches (a0 + 1) m6) fun r8 m9 =>
      fX5_odds_43 200 a1 a2 ((r8).toInt64) (16 : Int64) (0 : Int32) m9
set_option maxRecDepth 100000 in
set_option maxHeartbeats 4000000 in
theorem tX5_odds (g : zG) {a0 : Nat} {a1 : Int32} {a2 : Int32} {μ : zMem} {Q : Int64 → zMem → Prop} (ha0 : zkd a0 = 5) (h : zok (fX5_odds a0 a1 a2 μ) Q) : zTl g yX5_odds cX5_odds 8 3 [.ref (zad g a0), .int a1, .int a2] μ Q := by
  refine zTl_of RX5 (by decide) rfl (Nat.le_of_ble_eq_true rfl) ?_
  intro κ X hret
  unfold fX5_odds at h
  refine zi_iload_n (pc' := 1) X dX5_odds_0 rfl rfl 1 rfl ?_
  refine zi_iconst (pc' := 2) (v := (0 : Int32)) X dX5_odds_1 rfl rfl ?_
  refine zi_bipush (pc' := 4) (v := (15 : Int32)) X dX5_odds_2 rfl rfl ?_
  refine zi_callSi (pc' := 7) X zl_X5_68 [.int a1, .int (0 : Int32), .int (15 : Int32)] rfl rfl (by decide) (Nat.le_of_ble_eq_true rfl) dX5_odds_4 rfl (tX5_within _ (zok_bd h (fun r1 m2 h => ?_)))
  refine zi_if_eq (pc' := 10) (tgt := 19) X dX5_odds_7 rfl rfl (fun c => ?_) (fun c => ?_)
  · replace h := zok_t h c
    refine zi_aload_n (pc' := 20) X dX5_odds_19 rfl rfl 0 rfl ?_
    refine zi_iconst (pc' := 21) (v := (0 : Int32)) X dX5_odds_20 rfl rfl ?_
    refine zi_callVi (pc' := 24) X zl_X5_61 ha0 (by decide) [.int (0 : Int32)] rfl rfl (by decide) (Nat.le_of_ble_eq_true rfl) dX5_odds_21 rfl (tX5_finding _ ha0 (zok_bd h (fun r3 m4 h => ?_)))
    refine zi_i2l (pc' := 25) X dX5_odds_24 rfl ?_
    exact hret _ _ _ _ dX5_odds_25 h
  · replace h := zok_f h c
    refine zi_iload_n (pc' := 11) X dX5_odds_10 rfl rfl 2 rfl ?_
    refine zi_iconst (pc' := 12) (v := (0 : Int32)) X dX5_odds_11 rfl rfl ?_
    refine zi_iconst (pc' := 13) (v := (1 : Int32)) X dX5_odds_12 rfl rfl ?_
    refine zi_callSi (pc' := 16) X zl_X5_68 [.int a2, .int (0 : Int32), .int (1 : Int32)] rfl rfl (by decide) (Nat.le_of_ble_eq_true rfl) dX5_odds_13 rfl (tX5_within _ (zok_bd h (fun r5 m6 h => ?_)))
    refine zi_if_ne (pc' := 19) (tgt := 26) X dX5_odds_16 rfl rfl (fun c => ?_) (fun c => ?_)
    · replace h := zok_f h c
      refine zi_aload_n (pc' := 27) X dX5_odds_26 rfl rfl 0 rfl ?_
      refine zi_getr (pc' := 30) X zf_X5_10 rfl (by decide) ha0 dX5_odds_27 rfl ?_
      have f7 := zr_5_0 ha0
      refine zi_callVi (pc' := 33) X zl_X5_219 f7 (by decide) [] rfl rfl (by decide) (Nat.le_of_ble_eq_true rfl) dX5_odds_30 rfl (tX0_dryPitches _ f7 (zok_bd h (fun r8 m9 h => ?_)))
      refine zi_i2l (pc' := 34) X dX5_odds_33 rfl ?_
      refine zi_lstore_n (pc' := 35) X dX5_odds_34 rfl rfl (by decide) [(3, .long ((r8).toInt64)), (0, .ref (zad g a0)), (1, .int a1), (2, .int a2)] rfl ?_
      refine zi_ldc2 (pc' := 38) X dX5_odds_35 rfl zk_X5_222 ?_
      refine zi_lstore (pc' := 40) X dX5_odds_38 rfl (by decide) [(5, .long (16 : Int64)), (3, .long ((r8).toInt64)), (0, .ref (zad g a0)), (1, .int a1), (2, .int a2)] rfl ?_
      refine zi_iconst (pc' := 41) (v := (0 : Int32)) X dX5_odds_40 rfl rfl ?_
      refine zi_istore (pc' := 43) X dX5_odds_41 rfl (by decide) [(7, .int (0 : Int32)), (5, .long (16 : Int64)), (3, .long ((r8).toInt64)), (0, .ref (zad g a0)), (1, .int a1), (2, .int a2)] rfl ?_
      exact zi_sub X [4, 5, 2, 1, 0] _ rfl (lX5_odds_43 X hret 200 a1 a2 ((r8).toInt64) (16 : Int64) (0 : Int32) (m9) h)
    · replace h := zok_t h c
      refine zi_aload_n (pc' := 20) X dX5_odds_19 rfl rfl 0 rfl ?_
      refine zi_iconst (pc' := 21) (v := (0 : Int32)) X dX5_odds_20 rfl rfl ?_
      refine zi_callVi (pc' := 24) X zl_X5_61 ha0 (by decide) [.int (0 : Int32)] rfl rfl (by decide) (Nat.le_of_ble_eq_true rfl) dX5_odds_21 rfl (tX5_finding _ ha0 (zok_bd h (fun r14 m15 h => ?_)))
      refine zi_i2l (pc' := 25) X dX5_odds_24 rfl ?_
      exact hret _ _ _ _ dX5_odds_25 h
def fX5_reach (a0 : Nat) (a1 : Int32) (a2 : Int32) (μ : zMem) : Option (Int32 × zMem) :=
  zbd (fX5_isCell a1 μ) fun r1 m2 =>
  if r1 = 0 then
    zbd (fX5_finding a0 (0 : Int32) m2) fun r3 m4 =>
    some (r3, m4)
  else
    zbd (fX5_isMeasure a2 m2) fun r5 m6 =>
    if r5 = 0 then
      zbd (fX5_finding a0 (0 : Int32) m6) fun r14 m15 =>
      some (r14, m15)
    else
      zbd (fX1_roam (a0 + 49) (a0 + 1) a1 a2 m6) fun _ m10 =>
      zbd (fX1_reachedSet (a0 + 49) m10) fun r12 m13 =>
      some (r12, m13)
set_option maxRecDepth 100000 in
set_option maxHeartbeats 4000000 in
theorem tX5_reach (g : zG) {a0 : Nat} {a1 : Int32} {a2 : Int32} {μ : zMem} {Q : Int32 → zMem → Prop} (ha0 : zkd a0 = 5) (h : zok (fX5_reach a0 a1 a2 μ) Q) : zTi g yX5_reach cX5_reach 3 .int 3 [.ref (zad g a0), .int a1, .int a2] μ Q := by
  refine zTi_of (P := fun r => True) zpi RX5 (by decide) rfl (Nat.le_of_ble_eq_true rfl) ?_
  intro κ X hret
  unfold fX5_reach at h
  refine zi_iload_n (pc' := 1) X dX5_reach_0 rfl rfl 1 rfl ?_
  refine zi_callSi (pc' := 4) X zl_X5_54 [.int a1] rfl rfl (by decide) (Nat.le_of_ble_eq_true rfl) dX5_reach_1 rfl (tX5_isCell _ (zok_bd h (fun r1 m2 h => ?_)))
  refine zi_if_eq (pc' := 7) (tgt := 14) X dX5_reach_4 rfl rfl (fun c => ?_) (fun c => ?_)
  · replace h := zok_t h c
    refine zi_aload_n (pc' := 15) X dX5_reach_14 rfl rfl 0 rfl ?_
    refine zi_iconst (pc' := 16) (v := (0 : Int32)) X dX5_reach_15 rfl rfl ?_
    refine zi_callVi (pc' := 19) X zl_X5_61 ha0 (by decide) [.int (0 : Int32)] rfl rfl (by decide) (Nat.le_of_ble_eq_true rfl) dX5_reach_16 rfl (tX5_finding _ ha0 (zok_bd h (fun r3 m4 h => ?_)))
    exact hret _ _ _ _ dX5_reach_19 trivial h
  · replace h := zok_f h c
    refine zi_iload_n (pc' := 8) X dX5_reach_7 rfl rfl 2 rfl ?_
    refine zi_callSi (pc' := 11) X zl_X5_58 [.int a2] rfl rfl (by decide) (Nat.le_of_ble_eq_true rfl) dX5_reach_8 rfl (tX5_isMeasure _ (zok_bd h (fun r5 m6 h => ?_)))
    refine zi_if_ne (pc' := 14) (tgt := 20) X dX5_reach_11 rfl rfl (fun c => ?_) (fun c => ?_)
    · replace h := zok_f h c
      refine zi_aload_n (pc' := 21) X dX5_reach_20 rfl rfl 0 rfl ?_
      refine zi_getr (pc' := 24) X zf_X5_25 rfl (by decide) ha0 dX5_reach_21 rfl ?_
      have f7 := zr_5_3 ha0
      refine zi_aload_n (pc' := 25) X dX5_reach_24 rfl rfl 0 rfl ?_
      refine zi_getr (pc' := 28) X zf_X5_10 rfl (by decide) ha0 dX5_reach_25 rfl ?_
      have f8 := zr_5_0 ha0
      refine zi_iload_n (pc' := 29) X dX5_reach_28 rfl rfl 1 rfl ?_
      refine zi_iload_n (pc' := 30) X dX5_reach_29 rfl rfl 2 rfl ?_
      refine zi_callVv (pc' := 33) X zl_X5_149 f7 (by decide) [.ref (zad g (a0 + 1)), .int a1, .int a2] rfl rfl (by decide) (Nat.le_of_ble_eq_true rfl) dX5_reach_30 rfl (tX1_roam _ f7 f8 (zok_bd h (fun _ m10 h => ?_)))
      refine zi_aload_n (pc' := 34) X dX5_reach_33 rfl rfl 0 rfl ?_
      refine zi_getr (pc' := 37) X zf_X5_25 rfl (by decide) ha0 dX5_reach_34 rfl ?_
      have f11 := zr_5_3 ha0
      refine zi_callVi (pc' := 40) X zl_X5_153 f11 (by decide) [] rfl rfl (by decide) (Nat.le_of_ble_eq_true rfl) dX5_reach_37 rfl (tX1_reachedSet _ f11 (zok_bd h (fun r12 m13 h => ?_)))
      exact hret _ _ _ _ dX5_reach_40 trivial h
    · replace h := zok_t h c
      refine zi_aload_n (pc' := 15) X dX5_reach_14 rfl rfl 0 rfl ?_
      refine zi_iconst (pc' := 16) (v := (0 : Int32)) X dX5_reach_15 rfl rfl ?_
      refine zi_callVi (pc' := 19) X zl_X5_61 ha0 (by decide) [.int (0 : Int32)] rfl rfl (by decide) (Nat.le_of_ble_eq_true rfl) dX5_reach_16 rfl (tX5_finding _ ha0 (zok_bd h (fun r14 m15 h => ?_)))
      exact hret _ _ _ _ dX5_reach_19 trivial h
def fX5_supposeAlone (a0 : Nat) (a1 : Int32) (a2 : Int32) (μ : zMem) : Option (Unit × zMem) :=
  zbd (fX0_becomeLike (a0 + 33) (a0 + 1) μ) fun _ m4 =>
  zbd (fX0_pitchAlone (a0 + 33) a1 a2 m4) fun _ m7 =>
  some ((), m7)
set_option maxRecDepth 100000 in
set_option maxHeartbeats 4000000 in
theorem tX5_supposeAlone (g : zG) {a0 : Nat} {a1 : Int32} {a2 : Int32} {μ : zMem} {Q : Unit → zMem → Prop} (ha0 : zkd a0 = 5) (h : zok (fX5_supposeAlone a0 a1 a2 μ) Q) : zTv g yX5_supposeAlone cX5_supposeAlone 3 3 [.ref (zad g a0), .int a1, .int a2] μ Q := by
  refine zTv_of RX5 (by decide) rfl (Nat.le_of_ble_eq_true rfl) ?_
  intro κ X hret
  unfold fX5_supposeAlone at h
  refine zi_aload_n (pc' := 1) X dX5_supposeAlone_0 rfl rfl 0 rfl ?_
  refine zi_getr (pc' := 4) X zf_X5_19 rfl (by decide) ha0 dX5_supposeAlone_1 rfl ?_
  have f1 := zr_5_2 ha0
  refine zi_aload_n (pc' := 5) X dX5_supposeAlone_4 rfl rfl 0 rfl ?_
  refine zi_getr (pc' := 8) X zf_X5_10 rfl (by decide) ha0 dX5_supposeAlone_5 rfl ?_
  have f2 := zr_5_0 ha0
  refine zi_callVv (pc' := 11) X zl_X5_159 f1 (by decide) [.ref (zad g (a0 + 1))] rfl rfl (by decide) (Nat.le_of_ble_eq_true rfl) dX5_supposeAlone_8 rfl (tX0_becomeLike _ f1 f2 (zok_bd h (fun _ m4 h => ?_)))
  refine zi_aload_n (pc' := 12) X dX5_supposeAlone_11 rfl rfl 0 rfl ?_
  refine zi_getr (pc' := 15) X zf_X5_19 rfl (by decide) ha0 dX5_supposeAlone_12 rfl ?_
  have f5 := zr_5_2 ha0
  refine zi_iload_n (pc' := 16) X dX5_supposeAlone_15 rfl rfl 1 rfl ?_
  refine zi_iload_n (pc' := 17) X dX5_supposeAlone_16 rfl rfl 2 rfl ?_
  refine zi_callVv (pc' := 20) X zl_X5_289 f5 (by decide) [.int a1, .int a2] rfl rfl (by decide) (Nat.le_of_ble_eq_true rfl) dX5_supposeAlone_17 rfl (tX0_pitchAlone _ f5 (zok_bd h (fun _ m7 h => ?_)))
  exact hret _ _ _ dX5_supposeAlone_20 h
def fX5_tent (a0 : Nat) (a1 : Int32) (μ : zMem) : Option (Int32 × zMem) :=
  zbd (fX5_isKind a1 μ) fun r1 m2 =>
  if r1 = 0 then
    zbd (fX5_finding a0 (0 : Int32) m2) fun r10 m11 =>
    some (r10, m11)
  else
    if (m2 (a0 + 1) 3) < (6 : Int32) then
      zbd (fX0_addTent (a0 + 1) a1 m2) fun _ m6 =>
      some (((m6 (a0 + 1) 3) - (1 : Int32)), m6)
    else
      zbd (fX5_finding a0 (1 : Int32) m2) fun r8 m9 =>
      some (r8, m9)
set_option maxRecDepth 100000 in
set_option maxHeartbeats 4000000 in
theorem tX5_tent (g : zG) {a0 : Nat} {a1 : Int32} {μ : zMem} {Q : Int32 → zMem → Prop} (ha0 : zkd a0 = 5) (h : zok (fX5_tent a0 a1 μ) Q) : zTi g yX5_tent cX5_tent 2 .int 3 [.ref (zad g a0), .int a1] μ Q := by
  refine zTi_of (P := fun r => True) zpi RX5 (by decide) rfl (Nat.le_of_ble_eq_true rfl) ?_
  intro κ X hret
  unfold fX5_tent at h
  refine zi_iload_n (pc' := 1) X dX5_tent_0 rfl rfl 1 rfl ?_
  refine zi_callSi (pc' := 4) X zl_X5_85 [.int a1] rfl rfl (by decide) (Nat.le_of_ble_eq_true rfl) dX5_tent_1 rfl (tX5_isKind _ (zok_bd h (fun r1 m2 h => ?_)))
  refine zi_if_ne (pc' := 7) (tgt := 13) X dX5_tent_4 rfl rfl (fun c => ?_) (fun c => ?_)
  · replace h := zok_f h c
    refine zi_aload_n (pc' := 14) X dX5_tent_13 rfl rfl 0 rfl ?_
    refine zi_getr (pc' := 17) X zf_X5_10 rfl (by decide) ha0 dX5_tent_14 rfl ?_
    have f3 := zr_5_0 ha0
    refine zi_geti (pc' := 20) X zf_X5_88 rfl (by decide) f3 dX5_tent_17 rfl ?_
    refine zi_bipush (pc' := 22) (v := (6 : Int32)) X dX5_tent_20 rfl rfl ?_
    refine zi_icmp_lt (pc' := 25) (tgt := 31) X dX5_tent_22 rfl rfl (fun c => ?_) (fun c => ?_)
    · replace h := zok_t h c
      refine zi_aload_n (pc' := 32) X dX5_tent_31 rfl rfl 0 rfl ?_
      refine zi_getr (pc' := 35) X zf_X5_10 rfl (by decide) ha0 dX5_tent_32 rfl ?_
      have f4 := zr_5_0 ha0
      refine zi_iload_n (pc' := 36) X dX5_tent_35 rfl rfl 1 rfl ?_
      refine zi_callVv (pc' := 39) X zl_X5_92 f4 (by decide) [.int a1] rfl rfl (by decide) (Nat.le_of_ble_eq_true rfl) dX5_tent_36 rfl (tX0_addTent _ f4 (zok_bd h (fun _ m6 h => ?_)))
      refine zi_aload_n (pc' := 40) X dX5_tent_39 rfl rfl 0 rfl ?_
      refine zi_getr (pc' := 43) X zf_X5_10 rfl (by decide) ha0 dX5_tent_40 rfl ?_
      have f7 := zr_5_0 ha0
      refine zi_geti (pc' := 46) X zf_X5_88 rfl (by decide) f7 dX5_tent_43 rfl ?_
      refine zi_iconst (pc' := 47) (v := (1 : Int32)) X dX5_tent_46 rfl rfl ?_
      refine zi_isub (pc' := 48) X dX5_tent_47 rfl ?_
      exact hret _ _ _ _ dX5_tent_48 trivial h
    · replace h := zok_f h c
      refine zi_aload_n (pc' := 26) X dX5_tent_25 rfl rfl 0 rfl ?_
      refine zi_iconst (pc' := 27) (v := (1 : Int32)) X dX5_tent_26 rfl rfl ?_
      refine zi_callVi (pc' := 30) X zl_X5_61 ha0 (by decide) [.int (1 : Int32)] rfl rfl (by decide) (Nat.le_of_ble_eq_true rfl) dX5_tent_27 rfl (tX5_finding _ ha0 (zok_bd h (fun r8 m9 h => ?_)))
      exact hret _ _ _ _ dX5_tent_30 trivial h
  · replace h := zok_t h c
    refine zi_aload_n (pc' := 8) X dX5_tent_7 rfl rfl 0 rfl ?_
    refine zi_iconst (pc' := 9) (v := (0 : Int32)) X dX5_tent_8 rfl rfl ?_
    refine zi_callVi (pc' := 12) X zl_X5_61 ha0 (by decide) [.int (0 : Int32)] rfl rfl (by decide) (Nat.le_of_ble_eq_true rfl) dX5_tent_9 rfl (tX5_finding _ ha0 (zok_bd h (fun r10 m11 h => ?_)))
    exact hret _ _ _ _ dX5_tent_12 trivial h
def fX5_undo (a0 : Nat) (μ : zMem) : Option (Int32 × zMem) :=
  if (μ a0 8) = 0 then
    zbd (fX5_finding a0 (3 : Int32) μ) fun r6 m7 =>
    some (r6, m7)
  else
    zbd (fX0_becomeLike (a0 + 1) (a0 + 17) μ) fun _ m4 =>
    some ((m4 (a0 + 1) 5), m4)
set_option maxRecDepth 100000 in
set_option maxHeartbeats 4000000 in
theorem tX5_undo (g : zG) {a0 : Nat} {μ : zMem} {Q : Int32 → zMem → Prop} (ha0 : zkd a0 = 5) (h : zok (fX5_undo a0 μ) Q) : zTi g yX5_undo cX5_undo 1 .int 3 [.ref (zad g a0)] μ Q := by
  refine zTi_of (P := fun r => True) zpi RX5 (by decide) rfl (Nat.le_of_ble_eq_true rfl) ?_
  intro κ X hret
  unfold fX5_undo at h
  refine zi_aload_n (pc' := 1) X dX5_undo_0 rfl rfl 0 rfl ?_
  refine zi_geti (pc' := 4) X zf_X5_49 rfl (by decide) ha0 dX5_undo_1 rfl ?_
  refine zi_if_ne (pc' := 7) (tgt := 13) X dX5_undo_4 rfl rfl (fun c => ?_) (fun c => ?_)
  · replace h := zok_f h c
    refine zi_aload_n (pc' := 14) X dX5_undo_13 rfl rfl 0 rfl ?_
    refine zi_getr (pc' := 17) X zf_X5_10 rfl (by decide) ha0 dX5_undo_14 rfl ?_
    have f1 := zr_5_0 ha0
    refine zi_aload_n (pc' := 18) X dX5_undo_17 rfl rfl 0 rfl ?_
    refine zi_getr (pc' := 21) X zf_X5_16 rfl (by decide) ha0 dX5_undo_18 rfl ?_
    have f2 := zr_5_1 ha0
    refine zi_callVv (pc' := 24) X zl_X5_159 f1 (by decide) [.ref (zad g (a0 + 17))] rfl rfl (by decide) (Nat.le_of_ble_eq_true rfl) dX5_undo_21 rfl (tX0_becomeLike _ f1 f2 (zok_bd h (fun _ m4 h => ?_)))
    refine zi_aload_n (pc' := 25) X dX5_undo_24 rfl rfl 0 rfl ?_
    refine zi_getr (pc' := 28) X zf_X5_10 rfl (by decide) ha0 dX5_undo_25 rfl ?_
    have f5 := zr_5_0 ha0
    refine zi_geti (pc' := 31) X zf_X5_119 rfl (by decide) f5 dX5_undo_28 rfl ?_
    exact hret _ _ _ _ dX5_undo_31 trivial h
  · replace h := zok_t h c
    refine zi_aload_n (pc' := 8) X dX5_undo_7 rfl rfl 0 rfl ?_
    refine zi_iconst (pc' := 9) (v := (3 : Int32)) X dX5_undo_8 rfl rfl ?_
    refine zi_callVi (pc' := 12) X zl_X5_61 ha0 (by decide) [.int (3 : Int32)] rfl rfl (by decide) (Nat.le_of_ble_eq_true rfl) dX5_undo_9 rfl (tX5_finding _ ha0 (zok_bd h (fun r6 m7 h => ?_)))
    exact hret _ _ _ _ dX5_undo_12 trivial h
def fX5_unlike (a0 : Nat) (a1 : Int32) (a2 : Int32) (μ : zMem) : Option (Int32 × zMem) :=
  zbd (fX5_isTent a0 a1 μ) fun r1 m2 =>
  if r1 = 0 then
    zbd (fX5_finding a0 (0 : Int32) m2) fun r3 m4 =>
    some (r3, m4)
  else
    zbd (fX5_isPitch a2 m2) fun r5 m6 =>
    if r5 = 0 then
      zbd (fX5_finding a0 (0 : Int32) m6) fun r14 m15 =>
      some (r14, m15)
    else
      zgd (zib a1 6) (
      zbd (fX0_unlikeness (a0 + 1) (((a0 + 1) + 3) + 1 + 2 * (a1).toNatClampNeg) a2 m6) fun r12 m13 =>
      some (r12, m13))
set_option maxRecDepth 100000 in
set_option maxHeartbeats 4000000 in
theorem tX5_unlike (g : zG) {a0 : Nat} {a1 : Int32} {a2 : Int32} {μ : zMem} {Q : Int32 → zMem → Prop} (ha0 : zkd a0 = 5) (h : zok (fX5_unlike a0 a1 a2 μ) Q) : zTi g yX5_unlike cX5_unlike 3 .int 3 [.ref (zad g a0), .int a1, .int a2] μ Q := by
  refine zTi_of (P := fun r => True) zpi RX5 (by decide) rfl (Nat.le_of_ble_eq_true rfl) ?_
  intro κ X hret
  unfold fX5_unlike at h
  refine zi_aload_n (pc' := 1) X dX5_unlike_0 rfl rfl 0 rfl ?_
  refine zi_iload_n (pc' := 2) X dX5_unlike_1 rfl rfl 1 rfl ?_
  refine zi_callVi (pc' := 5) X zl_X5_96 ha0 (by decide) [.int a1] rfl rfl (by decide) (Nat.le_of_ble_eq_true rfl) dX5_unlike_2 rfl (tX5_isTent _ ha0 (zok_bd h (fun r1 m2 h => ?_)))
  refine zi_if_eq (pc' := 8) (tgt := 15) X dX5_unlike_5 rfl rfl (fun c => ?_) (fun c => ?_)
  · replace h := zok_t h c
    refine zi_aload_n (pc' := 16) X dX5_unlike_15 rfl rfl 0 rfl ?_
    refine zi_iconst (pc' := 17) (v := (0 : Int32)) X dX5_unlike_16 rfl rfl ?_
    refine zi_callVi (pc' := 20) X zl_X5_61 ha0 (by decide) [.int (0 : Int32)] rfl rfl (by decide) (Nat.le_of_ble_eq_true rfl) dX5_unlike_17 rfl (tX5_finding _ ha0 (zok_bd h (fun r3 m4 h => ?_)))
    exact hret _ _ _ _ dX5_unlike_20 trivial h
  · replace h := zok_f h c
    refine zi_iload_n (pc' := 9) X dX5_unlike_8 rfl rfl 2 rfl ?_
    refine zi_callSi (pc' := 12) X zl_X5_187 [.int a2] rfl rfl (by decide) (Nat.le_of_ble_eq_true rfl) dX5_unlike_9 rfl (tX5_isPitch _ (zok_bd h (fun r5 m6 h => ?_)))
    refine zi_if_ne (pc' := 15) (tgt := 21) X dX5_unlike_12 rfl rfl (fun c => ?_) (fun c => ?_)
    · replace h := zok_f h c
      refine zi_aload_n (pc' := 22) X dX5_unlike_21 rfl rfl 0 rfl ?_
      refine zi_getr (pc' := 25) X zf_X5_10 rfl (by decide) ha0 dX5_unlike_22 rfl ?_
      have f7 := zr_5_0 ha0
      refine zi_aload_n (pc' := 26) X dX5_unlike_25 rfl rfl 0 rfl ?_
      refine zi_getr (pc' := 29) X zf_X5_10 rfl (by decide) ha0 dX5_unlike_26 rfl ?_
      have f8 := zr_5_0 ha0
      refine zi_getr (pc' := 32) X zf_X5_99 rfl (by decide) f8 dX5_unlike_29 rfl ?_
      have f9 := zr_0_2 f8
      refine zi_iload_n (pc' := 33) X dX5_unlike_32 rfl rfl 1 rfl ?_
      obtain ⟨g10, h⟩ := zok_g h
      refine zi_aaldT (pc' := 34) X f9.1 (by rw [f9.2]; exact g10) dX5_unlike_33 rfl ?_
      have f11 := zr_tent f9 g10
      refine zi_iload_n (pc' := 35) X dX5_unlike_34 rfl rfl 2 rfl ?_
      refine zi_callVi (pc' := 38) X zl_X5_190 f7 (by decide) [.ref (zad g (((a0 + 1) + 3) + 1 + 2 * (a1).toNatClampNeg)), .int a2] rfl rfl (by decide) (Nat.le_of_ble_eq_true rfl) dX5_unlike_35 rfl (tX0_unlikeness _ f7 f11 (zok_bd h (fun r12 m13 h => ?_)))
      exact hret _ _ _ _ dX5_unlike_38 trivial h
    · replace h := zok_t h c
      refine zi_aload_n (pc' := 16) X dX5_unlike_15 rfl rfl 0 rfl ?_
      refine zi_iconst (pc' := 17) (v := (0 : Int32)) X dX5_unlike_16 rfl rfl ?_
      refine zi_callVi (pc' := 20) X zl_X5_61 ha0 (by decide) [.int (0 : Int32)] rfl rfl (by decide) (Nat.le_of_ble_eq_true rfl) dX5_unlike_17 rfl (tX5_finding _ ha0 (zok_bd h (fun r14 m15 h => ?_)))
      exact hret _ _ _ _ dX5_unlike_20 trivial h
def fX5_write (a0 : Nat) (a1 : Int32) (a2 : Int32) (a3 : Int32) (μ : zMem) : Option (Int32 × zMem) :=
  zbd (fX5_lackOf a0 a1 μ) fun r1 m2 =>
  if r1 = (-1 : Int32) then
    zgd (zib a1 4) (
    zbd (fX5_within a2 (0 : Int32) ((m2 ((a0 + 55) + 3 + 2 * (a1).toNatClampNeg) 1) - (1 : Int32)) m2) fun r6 m7 =>
    if r6 = 0 then
      zbd (fX5_finding a0 (0 : Int32) m7) fun r13 m14 =>
      some (r13, m14)
    else
      zgd (zib a1 4) (
      zbd (fX2_put ((a0 + 55) + 3 + 2 * (a1).toNatClampNeg) a2 a3 m7) fun _ m12 =>
      some ((1 : Int32), m12)))
  else
    zbd (fX5_finding a0 r1 m2) fun r15 m16 =>
    some (r15, m16)
set_option maxRecDepth 100000 in
set_option maxHeartbeats 4000000 in
theorem tX5_write (g : zG) {a0 : Nat} {a1 : Int32} {a2 : Int32} {a3 : Int32} {μ : zMem} {Q : Int32 → zMem → Prop} (ha0 : zkd a0 = 5) (h : zok (fX5_write a0 a1 a2 a3 μ) Q) : zTi g yX5_write cX5_write 5 .int 3 [.ref (zad g a0), .int a1, .int a2, .int a3] μ Q := by
  refine zTi_of (P := fun r => True) zpi RX5 (by decide) rfl (Nat.le_of_ble_eq_true rfl) ?_
  intro κ X hret
  unfold fX5_write at h
  refine zi_aload_n (pc' := 1) X dX5_write_0 rfl rfl 0 rfl ?_
  refine zi_iload_n (pc' := 2) X dX5_write_1 rfl rfl 1 rfl ?_
  refine zi_callVi (pc' := 5) X zl_X5_210 ha0 (by decide) [.int a1] rfl rfl (by decide) (Nat.le_of_ble_eq_true rfl) dX5_write_2 rfl (tX5_lackOf _ ha0 (zok_bd h (fun r1 m2 h => ?_)))
  refine zi_istore (pc' := 7) X dX5_write_5 rfl (by decide) [(4, .int r1), (0, .ref (zad g a0)), (1, .int a1), (2, .int a2), (3, .int a3)] rfl ?_
  refine zi_iload (pc' := 9) X dX5_write_7 rfl 0 rfl ?_
  refine zi_iconst (pc' := 10) (v := (-1 : Int32)) X dX5_write_9 rfl rfl ?_
  refine zi_icmp_eq (pc' := 13) (tgt := 20) X dX5_write_10 rfl rfl (fun c => ?_) (fun c => ?_)
  · replace h := zok_t h c
    refine zi_iload_n (pc' := 21) X dX5_write_20 rfl rfl 3 rfl ?_
    refine zi_iconst (pc' := 22) (v := (0 : Int32)) X dX5_write_21 rfl rfl ?_
    refine zi_aload_n (pc' := 23) X dX5_write_22 rfl rfl 1 rfl ?_
    refine zi_getr (pc' := 26) X zf_X5_38 rfl (by decide) ha0 dX5_write_23 rfl ?_
    have f3 := zr_5_5 ha0
    refine zi_iload_n (pc' := 27) X dX5_write_26 rfl rfl 2 rfl ?_
    obtain ⟨g4, h⟩ := zok_g h
    refine zi_aaldS (pc' := 28) X f3.1 (by rw [f3.2]; exact g4) dX5_write_27 rfl ?_
    have f5 := zr_sheet f3 g4
    refine zi_geti (pc' := 31) X zf_X5_255 rfl (by decide) f5 dX5_write_28 rfl ?_
    refine zi_iconst (pc' := 32) (v := (1 : Int32)) X dX5_write_31 rfl rfl ?_
    refine zi_isub (pc' := 33) X dX5_write_32 rfl ?_
    refine zi_callSi (pc' := 36) X zl_X5_68 [.int a2, .int (0 : Int32), .int ((m2 ((a0 + 55) + 3 + 2 * (a1).toNatClampNeg) 1) - (1 : Int32))] rfl rfl (by decide) (Nat.le_of_ble_eq_true rfl) dX5_write_33 rfl (tX5_within _ (zok_bd h (fun r6 m7 h => ?_)))
    refine zi_if_ne (pc' := 39) (tgt := 45) X dX5_write_36 rfl rfl (fun c => ?_) (fun c => ?_)
    · replace h := zok_f h c
      refine zi_aload_n (pc' := 46) X dX5_write_45 rfl rfl 1 rfl ?_
      refine zi_getr (pc' := 49) X zf_X5_38 rfl (by decide) ha0 dX5_write_46 rfl ?_
      have f8 := zr_5_5 ha0
      refine zi_iload_n (pc' := 50) X dX5_write_49 rfl rfl 2 rfl ?_
      obtain ⟨g9, h⟩ := zok_g h
      refine zi_aaldS (pc' := 51) X f8.1 (by rw [f8.2]; exact g9) dX5_write_50 rfl ?_
      have f10 := zr_sheet f8 g9
      refine zi_iload_n (pc' := 52) X dX5_write_51 rfl rfl 3 rfl ?_
      refine zi_iload_n (pc' := 53) X dX5_write_52 rfl rfl 4 rfl ?_
      refine zi_callVv (pc' := 56) X zl_X5_256 f10 (by decide) [.int a2, .int a3] rfl rfl (by decide) (Nat.le_of_ble_eq_true rfl) dX5_write_53 rfl (tX2_put _ f10 (zok_bd h (fun _ m12 h => ?_)))
      refine zi_iconst (pc' := 57) (v := (1 : Int32)) X dX5_write_56 rfl rfl ?_
      exact hret _ _ _ _ dX5_write_57 trivial h
    · replace h := zok_t h c
      refine zi_aload_n (pc' := 40) X dX5_write_39 rfl rfl 1 rfl ?_
      refine zi_iconst (pc' := 41) (v := (0 : Int32)) X dX5_write_40 rfl rfl ?_
      refine zi_callVi (pc' := 44) X zl_X5_61 ha0 (by decide) [.int (0 : Int32)] rfl rfl (by decide) (Nat.le_of_ble_eq_true rfl) dX5_write_41 rfl (tX5_finding _ ha0 (zok_bd h (fun r13 m14 h => ?_)))
      exact hret _ _ _ _ dX5_write_44 trivial h
  · replace h := zok_f h c
    refine zi_aload_n (pc' := 14) X dX5_write_13 rfl rfl 1 rfl ?_
    refine zi_iload (pc' := 16) X dX5_write_14 rfl 0 rfl ?_
    refine zi_callVi (pc' := 19) X zl_X5_61 ha0 (by decide) [.int r1] rfl rfl (by decide) (Nat.le_of_ble_eq_true rfl) dX5_write_16 rfl (tX5_finding _ ha0 (zok_bd h (fun r15 m16 h => ?_)))
    exact hret _ _ _ _ dX5_write_19 trivial h
def fX5_cell (a0 : Nat) (a1 : Int32) (a2 : Int32) (μ : zMem) : Option (Int32 × zMem) :=
  zbd (fX5_isCell a1 μ) fun r1 m2 =>
  if r1 = 0 then
    zbd (fX5_finding a0 (0 : Int32) m2) fun r17 m18 =>
    some (r17, m18)
  else
    if a2 = (0 : Int32) then
      zgd (zib a1 25) (
      some ((m2 ((a0 + 1) + 1) (a1).toNatClampNeg), m2))
    else
      if a2 = (1 : Int32) then
        zbd (fX0_springAt (a0 + 1) a1 m2) fun r7 m8 =>
        some (r7, m8)
      else
        if a2 = (2 : Int32) then
          zbd (fX0_tentsOver (a0 + 1) a1 m2) fun r10 m11 =>
          some (r10, m11)
        else
          if a2 = (3 : Int32) then
            zbd (fX0_steepnessAt (a0 + 1) a1 m2) fun r13 m14 =>
            some (r13, m14)
          else
            zbd (fX5_finding a0 (0 : Int32) m2) fun r15 m16 =>
            some (r15, m16)
set_option maxRecDepth 100000 in
set_option maxHeartbeats 4000000 in
theorem tX5_cell (g : zG) {a0 : Nat} {a1 : Int32} {a2 : Int32} {μ : zMem} {Q : Int32 → zMem → Prop} (ha0 : zkd a0 = 5) (h : zok (fX5_cell a0 a1 a2 μ) Q) : zTi g yX5_cell cX5_cell 3 .int 4 [.ref (zad g a0), .int a1, .int a2] μ Q := by
  refine zTi_of (P := fun r => True) zpi RX5 (by decide) rfl (Nat.le_of_ble_eq_true rfl) ?_
  intro κ X hret
  unfold fX5_cell at h
  refine zi_iload_n (pc' := 1) X dX5_cell_0 rfl rfl 1 rfl ?_
  refine zi_callSi (pc' := 4) X zl_X5_54 [.int a1] rfl rfl (by decide) (Nat.le_of_ble_eq_true rfl) dX5_cell_1 rfl (tX5_isCell _ (zok_bd h (fun r1 m2 h => ?_)))
  refine zi_if_ne (pc' := 7) (tgt := 13) X dX5_cell_4 rfl rfl (fun c => ?_) (fun c => ?_)
  · replace h := zok_f h c
    refine zi_iload_n (pc' := 14) X dX5_cell_13 rfl rfl 2 rfl ?_
    by_cases c0 : a2 = (0 : Int32)
    · replace h := zok_t h c0
      refine zi_tabIn (pc' := 44) X c0 dX5_cell_14 ⟨by decide, rfl, rfl⟩ ?_
      refine zi_aload_n (pc' := 45) X dX5_cell_44 rfl rfl 0 rfl ?_
      refine zi_getr (pc' := 48) X zf_X5_10 rfl (by decide) ha0 dX5_cell_45 rfl ?_
      have f3 := zr_5_0 ha0
      refine zi_getr (pc' := 51) X zf_X5_65 rfl (by decide) f3 dX5_cell_48 rfl ?_
      have f4 := zr_0_0 f3
      refine zi_iload_n (pc' := 52) X dX5_cell_51 rfl rfl 1 rfl ?_
      obtain ⟨g5, h⟩ := zok_g h
      refine zi_iald (pc' := 53) X f4.1 (by rw [f4.2]; exact g5) dX5_cell_52 rfl ?_
      exact hret _ _ _ _ dX5_cell_53 trivial h
    · replace h := zok_f h c0
      by_cases c1 : a2 = (1 : Int32)
      · replace h := zok_t h c1
        refine zi_tabIn (pc' := 54) X c1 dX5_cell_14 ⟨by decide, rfl, rfl⟩ ?_
        refine zi_aload_n (pc' := 55) X dX5_cell_54 rfl rfl 0 rfl ?_
        refine zi_getr (pc' := 58) X zf_X5_10 rfl (by decide) ha0 dX5_cell_55 rfl ?_
        have f6 := zr_5_0 ha0
        refine zi_iload_n (pc' := 59) X dX5_cell_58 rfl rfl 1 rfl ?_
        refine zi_callVi (pc' := 62) X zl_X5_72 f6 (by decide) [.int a1] rfl rfl (by decide) (Nat.le_of_ble_eq_true rfl) dX5_cell_59 rfl (tX0_springAt _ f6 (zok_bd h (fun r7 m8 h => ?_)))
        exact hret _ _ _ _ dX5_cell_62 trivial h
      · replace h := zok_f h c1
        by_cases c2 : a2 = (2 : Int32)
        · replace h := zok_t h c2
          refine zi_tabIn (pc' := 63) X c2 dX5_cell_14 ⟨by decide, rfl, rfl⟩ ?_
          refine zi_aload_n (pc' := 64) X dX5_cell_63 rfl rfl 0 rfl ?_
          refine zi_getr (pc' := 67) X zf_X5_10 rfl (by decide) ha0 dX5_cell_64 rfl ?_
          have f9 := zr_5_0 ha0
          refine zi_iload_n (pc' := 68) X dX5_cell_67 rfl rfl 1 rfl ?_
          refine zi_callVi (pc' := 71) X zl_X5_79 f9 (by decide) [.int a1] rfl rfl (by decide) (Nat.le_of_ble_eq_true rfl) dX5_cell_68 rfl (tX0_tentsOver _ f9 (zok_bd h (fun r10 m11 h => ?_)))
          exact hret _ _ _ _ dX5_cell_71 trivial h
        · replace h := zok_f h c2
          by_cases c3 : a2 = (3 : Int32)
          · replace h := zok_t h c3
            refine zi_tabIn (pc' := 72) X c3 dX5_cell_14 ⟨by decide, rfl, rfl⟩ ?_
            refine zi_aload_n (pc' := 73) X dX5_cell_72 rfl rfl 0 rfl ?_
            refine zi_getr (pc' := 76) X zf_X5_10 rfl (by decide) ha0 dX5_cell_73 rfl ?_
            have f12 := zr_5_0 ha0
            refine zi_iload_n (pc' := 77) X dX5_cell_76 rfl rfl 1 rfl ?_
            refine zi_callVi (pc' := 80) X zl_X5_82 f12 (by decide) [.int a1] rfl rfl (by decide) (Nat.le_of_ble_eq_true rfl) dX5_cell_77 rfl (tX0_steepnessAt _ f12 (zok_bd h (fun r13 m14 h => ?_)))
            exact hret _ _ _ _ dX5_cell_80 trivial h
          · replace h := zok_f h c3
            have e0 := zne (0) rfl c0
            have e1 := zne (1) rfl c1
            have e2 := zne (2) rfl c2
            have e3 := zne (3) rfl c3
            refine zi_tabOut (pc' := 81) X (by omega) dX5_cell_14 rfl ?_
            refine zi_aload_n (pc' := 82) X dX5_cell_81 rfl rfl 0 rfl ?_
            refine zi_iconst (pc' := 83) (v := (0 : Int32)) X dX5_cell_82 rfl rfl ?_
            refine zi_callVi (pc' := 86) X zl_X5_61 ha0 (by decide) [.int (0 : Int32)] rfl rfl (by decide) (Nat.le_of_ble_eq_true rfl) dX5_cell_83 rfl (tX5_finding _ ha0 (zok_bd h (fun r15 m16 h => ?_)))
            exact hret _ _ _ _ dX5_cell_86 trivial h
  · replace h := zok_t h c
    refine zi_aload_n (pc' := 8) X dX5_cell_7 rfl rfl 0 rfl ?_
    refine zi_iconst (pc' := 9) (v := (0 : Int32)) X dX5_cell_8 rfl rfl ?_
    refine zi_callVi (pc' := 12) X zl_X5_61 ha0 (by decide) [.int (0 : Int32)] rfl rfl (by decide) (Nat.le_of_ble_eq_true rfl) dX5_cell_9 rfl (tX5_finding _ ha0 (zok_bd h (fun r17 m18 h => ?_)))
    exact hret _ _ _ _ dX5_cell_12 trivial h
def fX5_count (a0 : Nat) (a1 : Int32) (μ : zMem) : Option (Int32 × zMem) :=
  if a1 = (0 : Int32) then
    some ((μ (a0 + 1) 5), μ)
  else
    if a1 = (1 : Int32) then
      some ((μ (a0 + 1) 3), μ)
    else
      if a1 = (2 : Int32) then
        zbd (fX0_pitchedSet (a0 + 1) μ) fun r4 m5 =>
        zbd (fJ6_bitCount_0f7a4 r4 m5) fun r6 m7 =>
        some (r6, m7)
      else
        if a1 = (3 : Int32) then
          zbd (fX0_wornSum (a0 + 1) μ) fun r9 m10 =>
          some (r9, m10)
        else
          if a1 = (4 : Int32) then
            zbd (fX0_heightSum (a0 + 1) μ) fun r12 m13 =>
            some (r12, m13)
          else
            if a1 = (5 : Int32) then
              some ((μ (a0 + 53) 1), μ)
            else
              if a1 = (6 : Int32) then
                some ((μ (a0 + 1) 6), μ)
              else
                if a1 = (7 : Int32) then
                  zbd (fX0_spotsHeld (a0 + 1) μ) fun r17 m18 =>
                  some (r17, m18)
                else
                  zbd (fX5_finding a0 (0 : Int32) μ) fun r19 m20 =>
                  some (r19, m20)
set_option maxRecDepth 100000 in
set_option maxHeartbeats 4000000 in
theorem tX5_count (g : zG) {a0 : Nat} {a1 : Int32} {μ : zMem} {Q : Int32 → zMem → Prop} (ha0 : zkd a0 = 5) (h : zok (fX5_count a0 a1 μ) Q) : zTi g yX5_count cX5_count 2 .int 4 [.ref (zad g a0), .int a1] μ Q := by
  refine zTi_of (P := fun r => True) zpi RX5 (by decide) rfl (Nat.le_of_ble_eq_true rfl) ?_
  intro κ X hret
  unfold fX5_count at h
  refine zi_iload_n (pc' := 1) X dX5_count_0 rfl rfl 1 rfl ?_
  by_cases c0 : a1 = (0 : Int32)
  · replace h := zok_t h c0
    refine zi_tabIn (pc' := 48) X c0 dX5_count_1 ⟨by decide, rfl, rfl⟩ ?_
    refine zi_aload_n (pc' := 49) X dX5_count_48 rfl rfl 0 rfl ?_
    refine zi_getr (pc' := 52) X zf_X5_10 rfl (by decide) ha0 dX5_count_49 rfl ?_
    have f1 := zr_5_0 ha0
    refine zi_geti (pc' := 55) X zf_X5_119 rfl (by decide) f1 dX5_count_52 rfl ?_
    exact hret _ _ _ _ dX5_count_55 trivial h
  · replace h := zok_f h c0
    by_cases c1 : a1 = (1 : Int32)
    · replace h := zok_t h c1
      refine zi_tabIn (pc' := 56) X c1 dX5_count_1 ⟨by decide, rfl, rfl⟩ ?_
      refine zi_aload_n (pc' := 57) X dX5_count_56 rfl rfl 0 rfl ?_
      refine zi_getr (pc' := 60) X zf_X5_10 rfl (by decide) ha0 dX5_count_57 rfl ?_
      have f2 := zr_5_0 ha0
      refine zi_geti (pc' := 63) X zf_X5_88 rfl (by decide) f2 dX5_count_60 rfl ?_
      exact hret _ _ _ _ dX5_count_63 trivial h
    · replace h := zok_f h c1
      by_cases c2 : a1 = (2 : Int32)
      · replace h := zok_t h c2
        refine zi_tabIn (pc' := 64) X c2 dX5_count_1 ⟨by decide, rfl, rfl⟩ ?_
        refine zi_aload_n (pc' := 65) X dX5_count_64 rfl rfl 0 rfl ?_
        refine zi_getr (pc' := 68) X zf_X5_10 rfl (by decide) ha0 dX5_count_65 rfl ?_
        have f3 := zr_5_0 ha0
        refine zi_callVi (pc' := 71) X zl_X5_132 f3 (by decide) [] rfl rfl (by decide) (Nat.le_of_ble_eq_true rfl) dX5_count_68 rfl (tX0_pitchedSet _ f3 (zok_bd h (fun r4 m5 h => ?_)))
        refine zi_callSi (pc' := 74) X zl_X5_280 [.int r4] rfl rfl (by decide) (Nat.le_of_ble_eq_true rfl) dX5_count_71 rfl (tJ6_bitCount_0f7a4 _ (zok_bd h (fun r6 m7 h => ?_)))
        exact hret _ _ _ _ dX5_count_74 trivial h
      · replace h := zok_f h c2
        by_cases c3 : a1 = (3 : Int32)
        · replace h := zok_t h c3
          refine zi_tabIn (pc' := 75) X c3 dX5_count_1 ⟨by decide, rfl, rfl⟩ ?_
          refine zi_aload_n (pc' := 76) X dX5_count_75 rfl rfl 0 rfl ?_
          refine zi_getr (pc' := 79) X zf_X5_10 rfl (by decide) ha0 dX5_count_76 rfl ?_
          have f8 := zr_5_0 ha0
          refine zi_callVi (pc' := 82) X zl_X5_135 f8 (by decide) [] rfl rfl (by decide) (Nat.le_of_ble_eq_true rfl) dX5_count_79 rfl (tX0_wornSum _ f8 (zok_bd h (fun r9 m10 h => ?_)))
          exact hret _ _ _ _ dX5_count_82 trivial h
        · replace h := zok_f h c3
          by_cases c4 : a1 = (4 : Int32)
          · replace h := zok_t h c4
            refine zi_tabIn (pc' := 83) X c4 dX5_count_1 ⟨by decide, rfl, rfl⟩ ?_
            refine zi_aload_n (pc' := 84) X dX5_count_83 rfl rfl 0 rfl ?_
            refine zi_getr (pc' := 87) X zf_X5_10 rfl (by decide) ha0 dX5_count_84 rfl ?_
            have f11 := zr_5_0 ha0
            refine zi_callVi (pc' := 90) X zl_X5_126 f11 (by decide) [] rfl rfl (by decide) (Nat.le_of_ble_eq_true rfl) dX5_count_87 rfl (tX0_heightSum _ f11 (zok_bd h (fun r12 m13 h => ?_)))
            exact hret _ _ _ _ dX5_count_90 trivial h
          · replace h := zok_f h c4
            by_cases c5 : a1 = (5 : Int32)
            · replace h := zok_t h c5
              refine zi_tabIn (pc' := 91) X c5 dX5_count_1 ⟨by decide, rfl, rfl⟩ ?_
              refine zi_aload_n (pc' := 92) X dX5_count_91 rfl rfl 0 rfl ?_
              refine zi_getr (pc' := 95) X zf_X5_32 rfl (by decide) ha0 dX5_count_92 rfl ?_
              have f14 := zr_5_4 ha0
              refine zi_geti (pc' := 98) X zf_X5_233 rfl (by decide) f14 dX5_count_95 rfl ?_
              exact hret _ _ _ _ dX5_count_98 trivial h
            · replace h := zok_f h c5
              by_cases c6 : a1 = (6 : Int32)
              · replace h := zok_t h c6
                refine zi_tabIn (pc' := 99) X c6 dX5_count_1 ⟨by decide, rfl, rfl⟩ ?_
                refine zi_aload_n (pc' := 100) X dX5_count_99 rfl rfl 0 rfl ?_
                refine zi_getr (pc' := 103) X zf_X5_10 rfl (by decide) ha0 dX5_count_100 rfl ?_
                have f15 := zr_5_0 ha0
                refine zi_geti (pc' := 106) X zf_X5_230 rfl (by decide) f15 dX5_count_103 rfl ?_
                exact hret _ _ _ _ dX5_count_106 trivial h
              · replace h := zok_f h c6
                by_cases c7 : a1 = (7 : Int32)
                · replace h := zok_t h c7
                  refine zi_tabIn (pc' := 107) X c7 dX5_count_1 ⟨by decide, rfl, rfl⟩ ?_
                  refine zi_aload_n (pc' := 108) X dX5_count_107 rfl rfl 0 rfl ?_
                  refine zi_getr (pc' := 111) X zf_X5_10 rfl (by decide) ha0 dX5_count_108 rfl ?_
                  have f16 := zr_5_0 ha0
                  refine zi_callVi (pc' := 114) X zl_X5_285 f16 (by decide) [] rfl rfl (by decide) (Nat.le_of_ble_eq_true rfl) dX5_count_111 rfl (tX0_spotsHeld _ f16 (zok_bd h (fun r17 m18 h => ?_)))
                  exact hret _ _ _ _ dX5_count_114 trivial h
                · replace h := zok_f h c7
                  have e0 := zne (0) rfl c0
                  have e1 := zne (1) rfl c1
                  have e2 := zne (2) rfl c2
                  have e3 := zne (3) rfl c3
                  have e4 := zne (4) rfl c4
                  have e5 := zne (5) rfl c5
                  have e6 := zne (6) rfl c6
                  have e7 := zne (7) rfl c7
                  refine zi_tabOut (pc' := 115) X (by omega) dX5_count_1 rfl ?_
                  refine zi_aload_n (pc' := 116) X dX5_count_115 rfl rfl 0 rfl ?_
                  refine zi_iconst (pc' := 117) (v := (0 : Int32)) X dX5_count_116 rfl rfl ?_
                  refine zi_callVi (pc' := 120) X zl_X5_61 ha0 (by decide) [.int (0 : Int32)] rfl rfl (by decide) (Nat.le_of_ble_eq_true rfl) dX5_count_117 rfl (tX5_finding _ ha0 (zok_bd h (fun r19 m20 h => ?_)))
                  exact hret _ _ _ _ dX5_count_120 trivial h
