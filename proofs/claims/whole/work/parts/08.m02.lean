def fX0_steepnessAt_4 : Nat → Nat → Int32 → Int32 → Int32 → zMem → Option (Int32 × zMem)
  | 0, _, _, _, _, _ => none
  | n + 1, a0, a1, a2, a3, μ =>
    if (4 : Int32) ≤ a3 then
      some (a2, μ)
    else
      zbd (fX5_neighbour a1 a3 μ) fun r1 m2 =>
      if r1 = (-1 : Int32) then
        fX0_steepnessAt_4 n a0 a1 a2 (a3 + (1 : Int32)) m2
      else
        zbd (fX0_climbBetween a0 a1 r1 m2) fun r3 m4 =>
        fX0_steepnessAt_4 n a0 a1 (if a2 < r3 then r3 else a2) (a3 + (1 : Int32)) m4
set_option maxRecDepth 100000 in
theorem lX0_steepnessAt_4 {g : zG} {κ : zK} (X : zC g κ RX0 cX0_steepnessAt 5 2) {Q : Int32 → zMem → Prop} (hret : ∀ pc lv r μ', decode cX0_steepnessAt pc = .ok (.ireturn, 1) → True → Q r μ' → zV g κ pc lv [.int r] μ') : ∀ (n : Nat) (a0 : Nat) (a1 : Int32) (a2 : Int32) (a3 : Int32) (μ : zMem) (ha0 : zkd a0 = 0), zok (fX0_steepnessAt_4 n a0 a1 a2 a3 μ) Q → zV g κ 4 [(0, .ref (zad g a0)), (1, .int a1), (2, .int a2), (3, .int a3)] [] μ := by
  intro n
  induction n with
  | zero =>
    intro a0 a1 a2 a3 μ ha0 h
    exact h.elim
  | succ n ih =>
    intro a0 a1 a2 a3 μ ha0 h
    rw [fX0_steepnessAt_4] at h
    refine zi_iload_n (pc' := 5) X dX0_steepnessAt_4 rfl rfl 3 rfl ?_
    refine zi_iconst (pc' := 6) (v := (4 : Int32)) X dX0_steepnessAt_5 rfl rfl ?_
    refine zi_icmp_ge (pc' := 9) (tgt := 40) X dX0_steepnessAt_6 rfl rfl (fun c => ?_) (fun c => ?_)
    · replace h := zok_t h c
      refine zi_iload_n (pc' := 41) X dX0_steepnessAt_40 rfl rfl 2 rfl ?_
      exact hret _ _ _ _ dX0_steepnessAt_41 trivial h
    · replace h := zok_f h c
      refine zi_iload_n (pc' := 10) X dX0_steepnessAt_9 rfl rfl 1 rfl ?_
      refine zi_iload_n (pc' := 11) X dX0_steepnessAt_10 rfl rfl 3 rfl ?_
      refine zi_callSi (pc' := 14) X zl_X0_93 [.int a1, .int a3] rfl rfl (by decide) (Nat.le_of_ble_eq_true rfl) dX0_steepnessAt_11 rfl (tX5_neighbour _ (zok_bd h (fun r1 m2 h => ?_)))
      refine zi_istore (pc' := 16) X dX0_steepnessAt_14 rfl (by decide) [(4, .int r1), (0, .ref (zad g a0)), (1, .int a1), (2, .int a2), (3, .int a3)] rfl ?_
      refine zi_iload (pc' := 18) X dX0_steepnessAt_16 rfl 0 rfl ?_
      refine zi_iconst (pc' := 19) (v := (-1 : Int32)) X dX0_steepnessAt_18 rfl rfl ?_
      refine zi_icmp_eq (pc' := 22) (tgt := 34) X dX0_steepnessAt_19 rfl rfl (fun c => ?_) (fun c => ?_)
      · replace h := zok_t h c
        refine zi_iinc (pc' := 37) (v := (a3 + (1 : Int32))) X dX0_steepnessAt_34 rfl 4 rfl rfl (by decide) [(3, .int (a3 + (1 : Int32))), (4, .int r1), (0, .ref (zad g a0)), (1, .int a1), (2, .int a2)] rfl ?_
        refine zi_goto (pc' := 4) X dX0_steepnessAt_37 rfl ?_
        exact zi_sub X [2, 3, 4, 0] _ rfl (ih a0 a1 a2 (a3 + (1 : Int32)) (m2) ha0 h)
      · replace h := zok_f h c
        refine zi_iload_n (pc' := 23) X dX0_steepnessAt_22 rfl rfl 3 rfl ?_
        refine zi_aload_n (pc' := 24) X dX0_steepnessAt_23 rfl rfl 1 rfl ?_
        refine zi_iload_n (pc' := 25) X dX0_steepnessAt_24 rfl rfl 2 rfl ?_
        refine zi_iload (pc' := 27) X dX0_steepnessAt_25 rfl 0 rfl ?_
        refine zi_callVi (pc' := 30) X zl_X0_96 ha0 (by decide) [.int a1, .int r1] rfl rfl (by decide) (Nat.le_of_ble_eq_true rfl) dX0_steepnessAt_27 rfl (tX0_climbBetween _ ha0 (zok_bd h (fun r3 m4 h => ?_)))
        refine zi_mmax (pc' := 33) X zl_X0_99 (Nat.le_of_ble_eq_true rfl) (by decide) dX0_steepnessAt_30 rfl ?_
        refine zi_istore_n (pc' := 34) X dX0_steepnessAt_33 rfl rfl (by decide) [(2, .int (if a2 < r3 then r3 else a2)), (4, .int r1), (0, .ref (zad g a0)), (1, .int a1), (3, .int a3)] rfl ?_
        refine zi_iinc (pc' := 37) (v := (a3 + (1 : Int32))) X dX0_steepnessAt_34 rfl 4 rfl rfl (by decide) [(3, .int (a3 + (1 : Int32))), (2, .int (if a2 < r3 then r3 else a2)), (4, .int r1), (0, .ref (zad g a0)), (1, .int a1)] rfl ?_
        refine zi_goto (pc' := 4) X dX0_steepnessAt_37 rfl ?_
        exact zi_sub X [3, 4, 1, 0] _ rfl (ih a0 a1 (if a2 < r3 then r3 else a2) (a3 + (1 : Int32)) (m4) ha0 h)
def fX0_steepnessAt (a0 : Nat) (a1 : Int32) (μ : zMem) : Option (Int32 × zMem) :=
  fX0_steepnessAt_4 200 a0 a1 (0 : Int32) (0 : Int32) μ
set_option maxRecDepth 100000 in
set_option maxHeartbeats 4000000 in
theorem tX0_steepnessAt (g : zG) {a0 : Nat} {a1 : Int32} {μ : zMem} {Q : Int32 → zMem → Prop} (ha0 : zkd a0 = 0) (h : zok (fX0_steepnessAt a0 a1 μ) Q) : zTi g yX0_steepnessAt cX0_steepnessAt 5 .int 2 [.ref (zad g a0), .int a1] μ Q := by
  refine zTi_of (P := fun r => True) zpi RX0 (by decide) rfl (Nat.le_of_ble_eq_true rfl) ?_
  intro κ X hret
  unfold fX0_steepnessAt at h
  refine zi_iconst (pc' := 1) (v := (0 : Int32)) X dX0_steepnessAt_0 rfl rfl ?_
  refine zi_istore_n (pc' := 2) X dX0_steepnessAt_1 rfl rfl (by decide) [(2, .int (0 : Int32)), (0, .ref (zad g a0)), (1, .int a1)] rfl ?_
  refine zi_iconst (pc' := 3) (v := (0 : Int32)) X dX0_steepnessAt_2 rfl rfl ?_
  refine zi_istore_n (pc' := 4) X dX0_steepnessAt_3 rfl rfl (by decide) [(3, .int (0 : Int32)), (2, .int (0 : Int32)), (0, .ref (zad g a0)), (1, .int a1)] rfl ?_
  exact zi_sub X [2, 3, 1, 0] _ rfl (lX0_steepnessAt_4 X hret 200 a0 a1 (0 : Int32) (0 : Int32) (μ) ha0 h)
def fX0_unlikeness_5 : Nat → Nat → Nat → Int32 → Int32 → Int32 → zMem → Option (Int32 × zMem)
  | 0, _, _, _, _, _, _ => none
  | n + 1, a0, a1, a2, a3, a4, μ =>
    if (4 : Int32) ≤ a4 then
      some (a3, μ)
    else
      zbd (fX0_gap a0 a1 a4 a2 μ) fun r1 m2 =>
      fX0_unlikeness_5 n a0 a1 a2 (a3 + r1) (a4 + (1 : Int32)) m2
set_option maxRecDepth 100000 in
theorem lX0_unlikeness_5 {g : zG} {κ : zK} (X : zC g κ RX0 cX0_unlikeness 5 2) {Q : Int32 → zMem → Prop} (hret : ∀ pc lv r μ', decode cX0_unlikeness pc = .ok (.ireturn, 1) → True → Q r μ' → zV g κ pc lv [.int r] μ') : ∀ (n : Nat) (a0 : Nat) (a1 : Nat) (a2 : Int32) (a3 : Int32) (a4 : Int32) (μ : zMem) (ha0 : zkd a0 = 0) (ha1 : zkd a1 = 4), zok (fX0_unlikeness_5 n a0 a1 a2 a3 a4 μ) Q → zV g κ 5 [(0, .ref (zad g a0)), (1, .ref (zad g a1)), (2, .int a2), (3, .int a3), (4, .int a4)] [] μ := by
  intro n
  induction n with
  | zero =>
    intro a0 a1 a2 a3 a4 μ ha0 ha1 h
    exact h.elim
  | succ n ih =>
    intro a0 a1 a2 a3 a4 μ ha0 ha1 h
    rw [fX0_unlikeness_5] at h
    refine zi_iload (pc' := 7) X dX0_unlikeness_5 rfl 4 rfl ?_
    refine zi_iconst (pc' := 8) (v := (4 : Int32)) X dX0_unlikeness_7 rfl rfl ?_
    refine zi_icmp_ge (pc' := 11) (tgt := 28) X dX0_unlikeness_8 rfl rfl (fun c => ?_) (fun c => ?_)
    · replace h := zok_t h c
      refine zi_iload_n (pc' := 29) X dX0_unlikeness_28 rfl rfl 3 rfl ?_
      exact hret _ _ _ _ dX0_unlikeness_29 trivial h
    · replace h := zok_f h c
      refine zi_iload_n (pc' := 12) X dX0_unlikeness_11 rfl rfl 3 rfl ?_
      refine zi_aload_n (pc' := 13) X dX0_unlikeness_12 rfl rfl 0 rfl ?_
      refine zi_aload_n (pc' := 14) X dX0_unlikeness_13 rfl rfl 1 rfl ?_
      refine zi_iload (pc' := 16) X dX0_unlikeness_14 rfl 4 rfl ?_
      refine zi_iload_n (pc' := 17) X dX0_unlikeness_16 rfl rfl 2 rfl ?_
      refine zi_callVi (pc' := 20) X zl_X0_113 ha0 (by decide) [.ref (zad g a1), .int a4, .int a2] rfl rfl (by decide) (Nat.le_of_ble_eq_true rfl) dX0_unlikeness_17 rfl (tX0_gap _ ha0 ha1 (zok_bd h (fun r1 m2 h => ?_)))
      refine zi_iadd (pc' := 21) X dX0_unlikeness_20 rfl ?_
      refine zi_istore_n (pc' := 22) X dX0_unlikeness_21 rfl rfl (by decide) [(3, .int (a3 + r1)), (0, .ref (zad g a0)), (1, .ref (zad g a1)), (2, .int a2), (4, .int a4)] rfl ?_
      refine zi_iinc (pc' := 25) (v := (a4 + (1 : Int32))) X dX0_unlikeness_22 rfl 4 rfl rfl (by decide) [(4, .int (a4 + (1 : Int32))), (3, .int (a3 + r1)), (0, .ref (zad g a0)), (1, .ref (zad g a1)), (2, .int a2)] rfl ?_
      refine zi_goto (pc' := 5) X dX0_unlikeness_25 rfl ?_
      exact zi_sub X [2, 3, 4, 1, 0] _ rfl (ih a0 a1 a2 (a3 + r1) (a4 + (1 : Int32)) (m2) ha0 ha1 h)
def fX0_unlikeness (a0 : Nat) (a1 : Nat) (a2 : Int32) (μ : zMem) : Option (Int32 × zMem) :=
  fX0_unlikeness_5 200 a0 a1 a2 (0 : Int32) (0 : Int32) μ
set_option maxRecDepth 100000 in
set_option maxHeartbeats 4000000 in
theorem tX0_unlikeness (g : zG) {a0 : Nat} {a1 : Nat} {a2 : Int32} {μ : zMem} {Q : Int32 → zMem → Prop} (ha0 : zkd a0 = 0) (ha1 : zkd a1 = 4) (h : zok (fX0_unlikeness a0 a1 a2 μ) Q) : zTi g yX0_unlikeness cX0_unlikeness 5 .int 2 [.ref (zad g a0), .ref (zad g a1), .int a2] μ Q := by
  refine zTi_of (P := fun r => True) zpi RX0 (by decide) rfl (Nat.le_of_ble_eq_true rfl) ?_
  intro κ X hret
  unfold fX0_unlikeness at h
  refine zi_iconst (pc' := 1) (v := (0 : Int32)) X dX0_unlikeness_0 rfl rfl ?_
  refine zi_istore_n (pc' := 2) X dX0_unlikeness_1 rfl rfl (by decide) [(3, .int (0 : Int32)), (0, .ref (zad g a0)), (1, .ref (zad g a1)), (2, .int a2)] rfl ?_
  refine zi_iconst (pc' := 3) (v := (0 : Int32)) X dX0_unlikeness_2 rfl rfl ?_
  refine zi_istore (pc' := 5) X dX0_unlikeness_3 rfl (by decide) [(4, .int (0 : Int32)), (3, .int (0 : Int32)), (0, .ref (zad g a0)), (1, .ref (zad g a1)), (2, .int a2)] rfl ?_
  exact zi_sub X [2, 3, 4, 1, 0] _ rfl (lX0_unlikeness_5 X hret 200 a0 a1 a2 (0 : Int32) (0 : Int32) (μ) ha0 ha1 h)
def fX0_passDay_2 : Nat → Nat → Int32 → zMem → Option (Unit × zMem)
  | 0, _, _, _ => none
  | n + 1, a0, a1, μ =>
    if (μ a0 3) ≤ a1 then
      if (99999 : Int32) ≤ (μ a0 5) then
        some ((), μ)
      else
        some ((), (zst μ a0 5 ((μ a0 5) + (1 : Int32))))
    else
      zgd (zib a1 6) (
      zbd (fX4_isPitched ((a0 + 3) + 1 + 2 * (a1).toNatClampNeg) μ) fun r4 m5 =>
      if r4 = 0 then
        fX0_passDay_2 n a0 (a1 + (1 : Int32)) m5
      else
        zgd (zib a1 6) (
        zbd (fX0_pressAndTake a0 ((a0 + 3) + 1 + 2 * (a1).toNatClampNeg) m5) fun _ m10 =>
        zgd (zib a1 6) (
        zbd (fX4_wearOut ((a0 + 3) + 1 + 2 * (a1).toNatClampNeg) m10) fun _ m15 =>
        fX0_passDay_2 n a0 (a1 + (1 : Int32)) m15)))
set_option maxRecDepth 100000 in
theorem lX0_passDay_2 {g : zG} {κ : zK} (X : zC g κ RX0 cX0_passDay 2 3) {Q : Unit → zMem → Prop} (hret : ∀ pc lv μ', decode cX0_passDay pc = .ok (.return_, 1) → Q () μ' → zV g κ pc lv [] μ') : ∀ (n : Nat) (a0 : Nat) (a1 : Int32) (μ : zMem) (ha0 : zkd a0 = 0), zok (fX0_passDay_2 n a0 a1 μ) Q → zV g κ 2 [(0, .ref (zad g a0)), (1, .int a1)] [] μ := by
  intro n
  induction n with
  | zero =>
    intro a0 a1 μ ha0 h
    exact h.elim
  | succ n ih =>
    intro a0 a1 μ ha0 h
    rw [fX0_passDay_2] at h
    refine zi_iload_n (pc' := 3) X dX0_passDay_2 rfl rfl 1 rfl ?_
    refine zi_aload_n (pc' := 4) X dX0_passDay_3 rfl rfl 0 rfl ?_
    refine zi_geti (pc' := 7) X zf_X0_24 rfl (by decide) ha0 dX0_passDay_4 rfl ?_
    refine zi_icmp_ge (pc' := 10) (tgt := 47) X dX0_passDay_7 rfl rfl (fun c => ?_) (fun c => ?_)
    · replace h := zok_t h c
      refine zi_aload_n (pc' := 48) X dX0_passDay_47 rfl rfl 0 rfl ?_
      refine zi_geti (pc' := 51) X zf_X0_31 rfl (by decide) ha0 dX0_passDay_48 rfl ?_
      refine zi_ldc (pc' := 53) X dX0_passDay_51 rfl zk_X0_75 ?_
      refine zi_icmp_ge (pc' := 56) (tgt := 66) X dX0_passDay_53 rfl rfl (fun c => ?_) (fun c => ?_)
      · replace h := zok_t h c
        exact hret _ _ _ dX0_passDay_66 h
      · replace h := zok_f h c
        refine zi_aload_n (pc' := 57) X dX0_passDay_56 rfl rfl 0 rfl ?_
        refine zi_dup (pc' := 58) X dX0_passDay_57 rfl rfl ?_
        refine zi_geti (pc' := 61) X zf_X0_31 rfl (by decide) ha0 dX0_passDay_58 rfl ?_
        refine zi_iconst (pc' := 62) (v := (1 : Int32)) X dX0_passDay_61 rfl rfl ?_
        refine zi_iadd (pc' := 63) X dX0_passDay_62 rfl ?_
        refine zi_put (pc' := 66) X zf_X0_31 zw_0_5 rfl (by decide) ha0 rfl rfl dX0_passDay_63 rfl ?_
        exact hret _ _ _ dX0_passDay_66 h
    · replace h := zok_f h c
      refine zi_aload_n (pc' := 11) X dX0_passDay_10 rfl rfl 0 rfl ?_
      refine zi_getr (pc' := 14) X zf_X0_20 rfl (by decide) ha0 dX0_passDay_11 rfl ?_
      have f1 := zr_0_2 ha0
      refine zi_iload_n (pc' := 15) X dX0_passDay_14 rfl rfl 1 rfl ?_
      obtain ⟨g2, h⟩ := zok_g h
      refine zi_aaldT (pc' := 16) X f1.1 (by rw [f1.2]; exact g2) dX0_passDay_15 rfl ?_
      have f3 := zr_tent f1 g2
      refine zi_callVi (pc' := 19) X zl_X0_65 f3 (by decide) [] rfl rfl (by decide) (Nat.le_of_ble_eq_true rfl) dX0_passDay_16 rfl (tX4_isPitched _ f3 (zok_bd h (fun r4 m5 h => ?_)))
      refine zi_if_eq (pc' := 22) (tgt := 41) X dX0_passDay_19 rfl rfl (fun c => ?_) (fun c => ?_)
      · replace h := zok_t h c
        refine zi_iinc (pc' := 44) (v := (a1 + (1 : Int32))) X dX0_passDay_41 rfl 1 rfl rfl (by decide) [(1, .int (a1 + (1 : Int32))), (0, .ref (zad g a0))] rfl ?_
        refine zi_goto (pc' := 2) X dX0_passDay_44 rfl ?_
        exact zi_sub X [1, 0] _ rfl (ih a0 (a1 + (1 : Int32)) (m5) ha0 h)
      · replace h := zok_f h c
        refine zi_aload_n (pc' := 23) X dX0_passDay_22 rfl rfl 0 rfl ?_
        refine zi_aload_n (pc' := 24) X dX0_passDay_23 rfl rfl 0 rfl ?_
        refine zi_getr (pc' := 27) X zf_X0_20 rfl (by decide) ha0 dX0_passDay_24 rfl ?_
        have f6 := zr_0_2 ha0
        refine zi_iload_n (pc' := 28) X dX0_passDay_27 rfl rfl 1 rfl ?_
        obtain ⟨g7, h⟩ := zok_g h
        refine zi_aaldT (pc' := 29) X f6.1 (by rw [f6.2]; exact g7) dX0_passDay_28 rfl ?_
        have f8 := zr_tent f6 g7
        refine zi_callVv (pc' := 32) X zl_X0_69 ha0 (by decide) [.ref (zad g ((a0 + 3) + 1 + 2 * (a1).toNatClampNeg))] rfl rfl (by decide) (Nat.le_of_ble_eq_true rfl) dX0_passDay_29 rfl (tX0_pressAndTake _ ha0 f8 (zok_bd h (fun _ m10 h => ?_)))
        refine zi_aload_n (pc' := 33) X dX0_passDay_32 rfl rfl 0 rfl ?_
        refine zi_getr (pc' := 36) X zf_X0_20 rfl (by decide) ha0 dX0_passDay_33 rfl ?_
        have f11 := zr_0_2 ha0
        refine zi_iload_n (pc' := 37) X dX0_passDay_36 rfl rfl 1 rfl ?_
        obtain ⟨g12, h⟩ := zok_g h
        refine zi_aaldT (pc' := 38) X f11.1 (by rw [f11.2]; exact g12) dX0_passDay_37 rfl ?_
        have f13 := zr_tent f11 g12
        refine zi_callVv (pc' := 41) X zl_X0_72 f13 (by decide) [] rfl rfl (by decide) (Nat.le_of_ble_eq_true rfl) dX0_passDay_38 rfl (tX4_wearOut _ f13 (zok_bd h (fun _ m15 h => ?_)))
        refine zi_iinc (pc' := 44) (v := (a1 + (1 : Int32))) X dX0_passDay_41 rfl 1 rfl rfl (by decide) [(1, .int (a1 + (1 : Int32))), (0, .ref (zad g a0))] rfl ?_
        refine zi_goto (pc' := 2) X dX0_passDay_44 rfl ?_
        exact zi_sub X [1, 0] _ rfl (ih a0 (a1 + (1 : Int32)) (m15) ha0 h)
def fX0_passDay (a0 : Nat) (μ : zMem) : Option (Unit × zMem) :=
  fX0_passDay_2 200 a0 (0 : Int32) μ
set_option maxRecDepth 100000 in
set_option maxHeartbeats 4000000 in
theorem tX0_passDay (g : zG) {a0 : Nat} {μ : zMem} {Q : Unit → zMem → Prop} (ha0 : zkd a0 = 0) (h : zok (fX0_passDay a0 μ) Q) : zTv g yX0_passDay cX0_passDay 2 3 [.ref (zad g a0)] μ Q := by
  refine zTv_of RX0 (by decide) rfl (Nat.le_of_ble_eq_true rfl) ?_
  intro κ X hret
  unfold fX0_passDay at h
  refine zi_iconst (pc' := 1) (v := (0 : Int32)) X dX0_passDay_0 rfl rfl ?_
  refine zi_istore_n (pc' := 2) X dX0_passDay_1 rfl rfl (by decide) [(1, .int (0 : Int32)), (0, .ref (zad g a0))] rfl ?_
  exact zi_sub X [1, 0] _ rfl (lX0_passDay_2 X hret 200 a0 (0 : Int32) (μ) ha0 h)
def fX0_pitchedSet_4 : Nat → Nat → Int32 → Int32 → zMem → Option (Int32 × zMem)
  | 0, _, _, _, _ => none
  | n + 1, a0, a1, a2, μ =>
    if (μ a0 3) ≤ a2 then
      some (a1, μ)
    else
      zgd (zib a2 6) (
      zbd (fX4_isPitched ((a0 + 3) + 1 + 2 * (a2).toNatClampNeg) μ) fun r4 m5 =>
      if r4 = 0 then
        fX0_pitchedSet_4 n a0 a1 (a2 + (1 : Int32)) m5
      else
        fX0_pitchedSet_4 n a0 (a1 ||| ((1 : Int32) <<< (a2 &&& 31))) (a2 + (1 : Int32)) m5)
set_option maxRecDepth 100000 in
theorem lX0_pitchedSet_4 {g : zG} {κ : zK} (X : zC g κ RX0 cX0_pitchedSet 3 3) {Q : Int32 → zMem → Prop} (hret : ∀ pc lv r μ', decode cX0_pitchedSet pc = .ok (.ireturn, 1) → True → Q r μ' → zV g κ pc lv [.int r] μ') : ∀ (n : Nat) (a0 : Nat) (a1 : Int32) (a2 : Int32) (μ : zMem) (ha0 : zkd a0 = 0), zok (fX0_pitchedSet_4 n a0 a1 a2 μ) Q → zV g κ 4 [(0, .ref (zad g a0)), (1, .int a1), (2, .int a2)] [] μ := by
  intro n
  induction n with
  | zero =>
    intro a0 a1 a2 μ ha0 h
    exact h.elim
  | succ n ih =>
    intro a0 a1 a2 μ ha0 h
    rw [fX0_pitchedSet_4] at h
    refine zi_iload_n (pc' := 5) X dX0_pitchedSet_4 rfl rfl 2 rfl ?_
    refine zi_aload_n (pc' := 6) X dX0_pitchedSet_5 rfl rfl 0 rfl ?_
    refine zi_geti (pc' := 9) X zf_X0_24 rfl (by decide) ha0 dX0_pitchedSet_6 rfl ?_
    refine zi_icmp_ge (pc' := 12) (tgt := 36) X dX0_pitchedSet_9 rfl rfl (fun c => ?_) (fun c => ?_)
    · replace h := zok_t h c
      refine zi_iload_n (pc' := 37) X dX0_pitchedSet_36 rfl rfl 1 rfl ?_
      exact hret _ _ _ _ dX0_pitchedSet_37 trivial h
    · replace h := zok_f h c
      refine zi_aload_n (pc' := 13) X dX0_pitchedSet_12 rfl rfl 0 rfl ?_
      refine zi_getr (pc' := 16) X zf_X0_20 rfl (by decide) ha0 dX0_pitchedSet_13 rfl ?_
      have f1 := zr_0_2 ha0
      refine zi_iload_n (pc' := 17) X dX0_pitchedSet_16 rfl rfl 2 rfl ?_
      obtain ⟨g2, h⟩ := zok_g h
      refine zi_aaldT (pc' := 18) X f1.1 (by rw [f1.2]; exact g2) dX0_pitchedSet_17 rfl ?_
      have f3 := zr_tent f1 g2
      refine zi_callVi (pc' := 21) X zl_X0_65 f3 (by decide) [] rfl rfl (by decide) (Nat.le_of_ble_eq_true rfl) dX0_pitchedSet_18 rfl (tX4_isPitched _ f3 (zok_bd h (fun r4 m5 h => ?_)))
      refine zi_if_eq (pc' := 24) (tgt := 30) X dX0_pitchedSet_21 rfl rfl (fun c => ?_) (fun c => ?_)
      · replace h := zok_t h c
        refine zi_iinc (pc' := 33) (v := (a2 + (1 : Int32))) X dX0_pitchedSet_30 rfl 2 rfl rfl (by decide) [(2, .int (a2 + (1 : Int32))), (0, .ref (zad g a0)), (1, .int a1)] rfl ?_
        refine zi_goto (pc' := 4) X dX0_pitchedSet_33 rfl ?_
        exact zi_sub X [1, 2, 0] _ rfl (ih a0 a1 (a2 + (1 : Int32)) (m5) ha0 h)
      · replace h := zok_f h c
        refine zi_iload_n (pc' := 25) X dX0_pitchedSet_24 rfl rfl 1 rfl ?_
        refine zi_iconst (pc' := 26) (v := (1 : Int32)) X dX0_pitchedSet_25 rfl rfl ?_
        refine zi_iload_n (pc' := 27) X dX0_pitchedSet_26 rfl rfl 2 rfl ?_
        refine zi_ishl (pc' := 28) X dX0_pitchedSet_27 rfl ?_
        refine zi_ior (pc' := 29) X dX0_pitchedSet_28 rfl ?_
        refine zi_istore_n (pc' := 30) X dX0_pitchedSet_29 rfl rfl (by decide) [(1, .int (a1 ||| ((1 : Int32) <<< (a2 &&& 31)))), (0, .ref (zad g a0)), (2, .int a2)] rfl ?_
        refine zi_iinc (pc' := 33) (v := (a2 + (1 : Int32))) X dX0_pitchedSet_30 rfl 2 rfl rfl (by decide) [(2, .int (a2 + (1 : Int32))), (1, .int (a1 ||| ((1 : Int32) <<< (a2 &&& 31)))), (0, .ref (zad g a0))] rfl ?_
        refine zi_goto (pc' := 4) X dX0_pitchedSet_33 rfl ?_
        exact zi_sub X [2, 1, 0] _ rfl (ih a0 (a1 ||| ((1 : Int32) <<< (a2 &&& 31))) (a2 + (1 : Int32)) (m5) ha0 h)
def fX0_pitchedSet (a0 : Nat) (μ : zMem) : Option (Int32 × zMem) :=
  fX0_pitchedSet_4 200 a0 (0 : Int32) (0 : Int32) μ
set_option maxRecDepth 100000 in
set_option maxHeartbeats 4000000 in
theorem tX0_pitchedSet (g : zG) {a0 : Nat} {μ : zMem} {Q : Int32 → zMem → Prop} (ha0 : zkd a0 = 0) (h : zok (fX0_pitchedSet a0 μ) Q) : zTi g yX0_pitchedSet cX0_pitchedSet 3 .int 3 [.ref (zad g a0)] μ Q := by
  refine zTi_of (P := fun r => True) zpi RX0 (by decide) rfl (Nat.le_of_ble_eq_true rfl) ?_
  intro κ X hret
  unfold fX0_pitchedSet at h
  refine zi_iconst (pc' := 1) (v := (0 : Int32)) X dX0_pitchedSet_0 rfl rfl ?_
  refine zi_istore_n (pc' := 2) X dX0_pitchedSet_1 rfl rfl (by decide) [(1, .int (0 : Int32)), (0, .ref (zad g a0))] rfl ?_
  refine zi_iconst (pc' := 3) (v := (0 : Int32)) X dX0_pitchedSet_2 rfl rfl ?_
  refine zi_istore_n (pc' := 4) X dX0_pitchedSet_3 rfl rfl (by decide) [(2, .int (0 : Int32)), (1, .int (0 : Int32)), (0, .ref (zad g a0))] rfl ?_
  exact zi_sub X [2, 1, 0] _ rfl (lX0_pitchedSet_4 X hret 200 a0 (0 : Int32) (0 : Int32) (μ) ha0 h)
def fX0_tentsOver_4 : Nat → Nat → Int32 → Int32 → Int32 → zMem → Option (Int32 × zMem)
  | 0, _, _, _, _, _ => none
  | n + 1, a0, a1, a2, a3, μ =>
    if (μ a0 3) ≤ a3 then
      some (a2, μ)
    else
      zgd (zib a3 6) (
      zbd (fX4_isPitched ((a0 + 3) + 1 + 2 * (a3).toNatClampNeg) μ) fun r4 m5 =>
      if r4 = 0 then
        fX0_tentsOver_4 n a0 a1 a2 (a3 + (1 : Int32)) m5
      else
        zgd (zib a3 6) (
        zbd (fX0_cellsUnder (m5 ((a0 + 3) + 1 + 2 * (a3).toNatClampNeg) 1) m5) fun r9 m10 =>
        if ((((r9).toUInt32 >>> ((a1).toUInt32 &&& Int32.toUInt32 31)).toInt32) &&& (1 : Int32)) = (1 : Int32) then
          fX0_tentsOver_4 n a0 a1 (a2 ||| ((1 : Int32) <<< (a3 &&& 31))) (a3 + (1 : Int32)) m10
        else
          fX0_tentsOver_4 n a0 a1 a2 (a3 + (1 : Int32)) m10))
set_option maxRecDepth 100000 in
theorem lX0_tentsOver_4 {g : zG} {κ : zK} (X : zC g κ RX0 cX0_tentsOver 4 3) {Q : Int32 → zMem → Prop} (hret : ∀ pc lv r μ', decode cX0_tentsOver pc = .ok (.ireturn, 1) → True → Q r μ' → zV g κ pc lv [.int r] μ') : ∀ (n : Nat) (a0 : Nat) (a1 : Int32) (a2 : Int32) (a3 : Int32) (μ : zMem) (ha0 : zkd a0 = 0), zok (fX0_tentsOver_4 n a0 a1 a2 a3 μ) Q → zV g κ 4 [(0, .ref (zad g a0)), (1, .int a1), (2, .int a2), (3, .int a3)] [] μ := by
  intro n
  induction n with
  | zero =>
    intro a0 a1 a2 a3 μ ha0 h
    exact h.elim
  | succ n ih =>
    intro a0 a1 a2 a3 μ ha0 h
    rw [fX0_tentsOver_4] at h
    refine zi_iload_n (pc' := 5) X dX0_tentsOver_4 rfl rfl 3 rfl ?_
    refine zi_aload_n (pc' := 6) X dX0_tentsOver_5 rfl rfl 0 rfl ?_
    refine zi_geti (pc' := 9) X zf_X0_24 rfl (by decide) ha0 dX0_tentsOver_6 rfl ?_
    refine zi_icmp_ge (pc' := 12) (tgt := 56) X dX0_tentsOver_9 rfl rfl (fun c => ?_) (fun c => ?_)
    · replace h := zok_t h c
      refine zi_iload_n (pc' := 57) X dX0_tentsOver_56 rfl rfl 2 rfl ?_
      exact hret _ _ _ _ dX0_tentsOver_57 trivial h
    · replace h := zok_f h c
      refine zi_aload_n (pc' := 13) X dX0_tentsOver_12 rfl rfl 0 rfl ?_
      refine zi_getr (pc' := 16) X zf_X0_20 rfl (by decide) ha0 dX0_tentsOver_13 rfl ?_
      have f1 := zr_0_2 ha0
      refine zi_iload_n (pc' := 17) X dX0_tentsOver_16 rfl rfl 3 rfl ?_
      obtain ⟨g2, h⟩ := zok_g h
      refine zi_aaldT (pc' := 18) X f1.1 (by rw [f1.2]; exact g2) dX0_tentsOver_17 rfl ?_
      have f3 := zr_tent f1 g2
      refine zi_callVi (pc' := 21) X zl_X0_65 f3 (by decide) [] rfl rfl (by decide) (Nat.le_of_ble_eq_true rfl) dX0_tentsOver_18 rfl (tX4_isPitched _ f3 (zok_bd h (fun r4 m5 h => ?_)))
      refine zi_if_eq (pc' := 24) (tgt := 50) X dX0_tentsOver_21 rfl rfl (fun c => ?_) (fun c => ?_)
      · replace h := zok_t h c
        refine zi_iinc (pc' := 53) (v := (a3 + (1 : Int32))) X dX0_tentsOver_50 rfl 3 rfl rfl (by decide) [(3, .int (a3 + (1 : Int32))), (0, .ref (zad g a0)), (1, .int a1), (2, .int a2)] rfl ?_
        refine zi_goto (pc' := 4) X dX0_tentsOver_53 rfl ?_
        exact zi_sub X [1, 2, 3, 0] _ rfl (ih a0 a1 a2 (a3 + (1 : Int32)) (m5) ha0 h)
      · replace h := zok_f h c
        refine zi_aload_n (pc' := 25) X dX0_tentsOver_24 rfl rfl 0 rfl ?_
        refine zi_getr (pc' := 28) X zf_X0_20 rfl (by decide) ha0 dX0_tentsOver_25 rfl ?_
        have f6 := zr_0_2 ha0
        refine zi_iload_n (pc' := 29) X dX0_tentsOver_28 rfl rfl 3 rfl ?_
        obtain ⟨g7, h⟩ := zok_g h
        refine zi_aaldT (pc' := 30) X f6.1 (by rw [f6.2]; exact g7) dX0_tentsOver_29 rfl ?_
        have f8 := zr_tent f6 g7
        refine zi_geti (pc' := 33) X zf_X0_58 rfl (by decide) f8 dX0_tentsOver_30 rfl ?_
        refine zi_callSi (pc' := 36) X zl_X0_89 [.int (m5 ((a0 + 3) + 1 + 2 * (a3).toNatClampNeg) 1)] rfl rfl (by decide) (Nat.le_of_ble_eq_true rfl) dX0_tentsOver_33 rfl (tX0_cellsUnder _ (zok_bd h (fun r9 m10 h => ?_)))
        refine zi_iload_n (pc' := 37) X dX0_tentsOver_36 rfl rfl 1 rfl ?_
        refine zi_iushr (pc' := 38) X dX0_tentsOver_37 rfl ?_
        refine zi_iconst (pc' := 39) (v := (1 : Int32)) X dX0_tentsOver_38 rfl rfl ?_
        refine zi_iand (pc' := 40) X dX0_tentsOver_39 rfl ?_
        refine zi_iconst (pc' := 41) (v := (1 : Int32)) X dX0_tentsOver_40 rfl rfl ?_
        refine zi_icmp_ne (pc' := 44) (tgt := 50) X dX0_tentsOver_41 rfl rfl (fun c => ?_) (fun c => ?_)
        · replace h := zok_f h c
          refine zi_iinc (pc' := 53) (v := (a3 + (1 : Int32))) X dX0_tentsOver_50 rfl 3 rfl rfl (by decide) [(3, .int (a3 + (1 : Int32))), (0, .ref (zad g a0)), (1, .int a1), (2, .int a2)] rfl ?_
          refine zi_goto (pc' := 4) X dX0_tentsOver_53 rfl ?_
          exact zi_sub X [1, 2, 3, 0] _ rfl (ih a0 a1 a2 (a3 + (1 : Int32)) (m10) ha0 h)
        · replace h := zok_t h c
          refine zi_iload_n (pc' := 45) X dX0_tentsOver_44 rfl rfl 2 rfl ?_
          refine zi_iconst (pc' := 46) (v := (1 : Int32)) X dX0_tentsOver_45 rfl rfl ?_
          refine zi_iload_n (pc' := 47) X dX0_tentsOver_46 rfl rfl 3 rfl ?_
          refine zi_ishl (pc' := 48) X dX0_tentsOver_47 rfl ?_
          refine zi_ior (pc' := 49) X dX0_tentsOver_48 rfl ?_
          refine zi_istore_n (pc' := 50) X dX0_tentsOver_49 rfl rfl (by decide) [(2, .int (a2 ||| ((1 : Int32) <<< (a3 &&& 31)))), (0, .ref (zad g a0)), (1, .int a1), (3, .int a3)] rfl ?_
          refine zi_iinc (pc' := 53) (v := (a3 + (1 : Int32))) X dX0_tentsOver_50 rfl 3 rfl rfl (by decide) [(3, .int (a3 + (1 : Int32))), (2, .int (a2 ||| ((1 : Int32) <<< (a3 &&& 31)))), (0, .ref (zad g a0)), (1, .int a1)] rfl ?_
          refine zi_goto (pc' := 4) X dX0_tentsOver_53 rfl ?_
          exact zi_sub X [2, 3, 1, 0] _ rfl (ih a0 a1 (a2 ||| ((1 : Int32) <<< (a3 &&& 31))) (a3 + (1 : Int32)) (m10) ha0 h)
def fX0_tentsOver (a0 : Nat) (a1 : Int32) (μ : zMem) : Option (Int32 × zMem) :=
  fX0_tentsOver_4 200 a0 a1 (0 : Int32) (0 : Int32) μ
set_option maxRecDepth 100000 in
set_option maxHeartbeats 4000000 in
theorem tX0_tentsOver (g : zG) {a0 : Nat} {a1 : Int32} {μ : zMem} {Q : Int32 → zMem → Prop} (ha0 : zkd a0 = 0) (h : zok (fX0_tentsOver a0 a1 μ) Q) : zTi g yX0_tentsOver cX0_tentsOver 4 .int 3 [.ref (zad g a0), .int a1] μ Q := by
  refine zTi_of (P := fun r => True) zpi RX0 (by decide) rfl (Nat.le_of_ble_eq_true rfl) ?_
  intro κ X hret
  unfold fX0_tentsOver at h
  refine zi_iconst (pc' := 1) (v := (0 : Int32)) X dX0_tentsOver_0 rfl rfl ?_
  refine zi_istore_n (pc' := 2) X dX0_tentsOver_1 rfl rfl (by decide) [(2, .int (0 : Int32)), (0, .ref (zad g a0)), (1, .int a1)] rfl ?_
  refine zi_iconst (pc' := 3) (v := (0 : Int32)) X dX0_tentsOver_2 rfl rfl ?_
  refine zi_istore_n (pc' := 4) X dX0_tentsOver_3 rfl rfl (by decide) [(3, .int (0 : Int32)), (2, .int (0 : Int32)), (0, .ref (zad g a0)), (1, .int a1)] rfl ?_
  exact zi_sub X [2, 3, 1, 0] _ rfl (lX0_tentsOver_4 X hret 200 a0 a1 (0 : Int32) (0 : Int32) (μ) ha0 h)
def fX0_passDays_2 : Nat → Nat → Int32 → Int32 → zMem → Option (Unit × zMem)
  | 0, _, _, _, _ => none
  | n + 1, a0, a1, a2, μ =>
    if a1 ≤ a2 then
      some ((), μ)
    else
      zbd (fX0_passDay a0 μ) fun _ m2 =>
      fX0_passDays_2 n a0 a1 (a2 + (1 : Int32)) m2
set_option maxRecDepth 100000 in
theorem lX0_passDays_2 {g : zG} {κ : zK} (X : zC g κ RX0 cX0_passDays 3 4) {Q : Unit → zMem → Prop} (hret : ∀ pc lv μ', decode cX0_passDays pc = .ok (.return_, 1) → Q () μ' → zV g κ pc lv [] μ') : ∀ (n : Nat) (a0 : Nat) (a1 : Int32) (a2 : Int32) (μ : zMem) (ha0 : zkd a0 = 0), zok (fX0_passDays_2 n a0 a1 a2 μ) Q → zV g κ 2 [(0, .ref (zad g a0)), (1, .int a1), (2, .int a2)] [] μ := by
  intro n
  induction n with
  | zero =>
    intro a0 a1 a2 μ ha0 h
    exact h.elim
  | succ n ih =>
    intro a0 a1 a2 μ ha0 h
    rw [fX0_passDays_2] at h
    refine zi_iload_n (pc' := 3) X dX0_passDays_2 rfl rfl 2 rfl ?_
    refine zi_iload_n (pc' := 4) X dX0_passDays_3 rfl rfl 1 rfl ?_
    refine zi_icmp_ge (pc' := 7) (tgt := 17) X dX0_passDays_4 rfl rfl (fun c => ?_) (fun c => ?_)
    · replace h := zok_t h c
      exact hret _ _ _ dX0_passDays_17 h
    · replace h := zok_f h c
      refine zi_aload_n (pc' := 8) X dX0_passDays_7 rfl rfl 0 rfl ?_
      refine zi_callVv (pc' := 11) X zl_X0_62 ha0 (by decide) [] rfl rfl (by decide) (Nat.le_of_ble_eq_true rfl) dX0_passDays_8 rfl (tX0_passDay _ ha0 (zok_bd h (fun _ m2 h => ?_)))
      refine zi_iinc (pc' := 14) (v := (a2 + (1 : Int32))) X dX0_passDays_11 rfl 2 rfl rfl (by decide) [(2, .int (a2 + (1 : Int32))), (0, .ref (zad g a0)), (1, .int a1)] rfl ?_
      refine zi_goto (pc' := 2) X dX0_passDays_14 rfl ?_
      exact zi_sub X [1, 2, 0] _ rfl (ih a0 a1 (a2 + (1 : Int32)) (m2) ha0 h)
def fX0_passDays (a0 : Nat) (a1 : Int32) (μ : zMem) : Option (Unit × zMem) :=
  fX0_passDays_2 200 a0 a1 (0 : Int32) μ
set_option maxRecDepth 100000 in
set_option maxHeartbeats 4000000 in
theorem tX0_passDays (g : zG) {a0 : Nat} {a1 : Int32} {μ : zMem} {Q : Unit → zMem → Prop} (ha0 : zkd a0 = 0) (h : zok (fX0_passDays a0 a1 μ) Q) : zTv g yX0_passDays cX0_passDays 3 4 [.ref (zad g a0), .int a1] μ Q := by
  refine zTv_of RX0 (by decide) rfl (Nat.le_of_ble_eq_true rfl) ?_
  intro κ X hret
  unfold fX0_passDays at h
  refine zi_iconst (pc' := 1) (v := (0 : Int32)) X dX0_passDays_0 rfl rfl ?_
  refine zi_istore_n (pc' := 2) X dX0_passDays_1 rfl rfl (by decide) [(2, .int (0 : Int32)), (0, .ref (zad g a0)), (1, .int a1)] rfl ?_
  exact zi_sub X [1, 2, 0] _ rfl (lX0_passDays_2 X hret 200 a0 a1 (0 : Int32) (μ) ha0 h)
def fX1_isSettled (a0 : Nat) (a1 : Int32) (μ : zMem) : Option (Int32 × zMem) :=
  if (((((μ a0 3)).toUInt32 >>> ((a1).toUInt32 &&& Int32.toUInt32 31)).toInt32) &&& (1 : Int32)) = (1 : Int32) then
    some ((1 : Int32), μ)
  else
    some ((0 : Int32), μ)
set_option maxRecDepth 100000 in
set_option maxHeartbeats 4000000 in
theorem tX1_isSettled (g : zG) {a0 : Nat} {a1 : Int32} {μ : zMem} {Q : Int32 → zMem → Prop} (ha0 : zkd a0 = 1) (h : zok (fX1_isSettled a0 a1 μ) Q) : zTi g yX1_isSettled cX1_isSettled 2 .boolean 0 [.ref (zad g a0), .int a1] μ Q := by
  refine zTi_of (P := fun r => r = 0 ∨ r = 1) zpb RX1 (by decide) rfl (Nat.le_of_ble_eq_true rfl) ?_
  intro κ X hret
  unfold fX1_isSettled at h
  refine zi_aload_n (pc' := 1) X dX1_isSettled_0 rfl rfl 0 rfl ?_
  refine zi_geti (pc' := 4) X zf_X1_21 rfl (by decide) ha0 dX1_isSettled_1 rfl ?_
  refine zi_iload_n (pc' := 5) X dX1_isSettled_4 rfl rfl 1 rfl ?_
  refine zi_iushr (pc' := 6) X dX1_isSettled_5 rfl ?_
  refine zi_iconst (pc' := 7) (v := (1 : Int32)) X dX1_isSettled_6 rfl rfl ?_
  refine zi_iand (pc' := 8) X dX1_isSettled_7 rfl ?_
  refine zi_iconst (pc' := 9) (v := (1 : Int32)) X dX1_isSettled_8 rfl rfl ?_
  refine zi_icmp_ne (pc' := 12) (tgt := 16) X dX1_isSettled_9 rfl rfl (fun c => ?_) (fun c => ?_)
  · replace h := zok_f h c
    refine zi_iconst (pc' := 17) (v := (0 : Int32)) X dX1_isSettled_16 rfl rfl ?_
    exact hret _ _ _ _ dX1_isSettled_17 (by decide) h
  · replace h := zok_t h c
    refine zi_iconst (pc' := 13) (v := (1 : Int32)) X dX1_isSettled_12 rfl rfl ?_
    refine zi_goto (pc' := 17) X dX1_isSettled_13 rfl ?_
    exact hret _ _ _ _ dX1_isSettled_17 (by decide) h
def fX1_nearestOf_34 (k4 : Nat → Int32 → Int32 → Int32 → zMem → Option (Int32 × zMem)) (a0 : Nat) (a1 : Int32) (a2 : Int32) (a3 : Int32) (s0 : Int32) (μ : zMem) : Option (Int32 × zMem) :=
  if s0 = 0 then
    k4 a0 a1 a2 (a3 + (1 : Int32)) μ
  else
    if a2 = (-1 : Int32) then
      k4 a0 a1 a3 (a3 + (1 : Int32)) μ
    else
      zgd (zib a3 25) (
      zgd (zib a2 25) (
      if (μ (a0 + 1) (a2).toNatClampNeg) ≤ (μ (a0 + 1) (a3).toNatClampNeg) then
        k4 a0 a1 a2 (a3 + (1 : Int32)) μ
      else
        k4 a0 a1 a3 (a3 + (1 : Int32)) μ))
set_option maxRecDepth 100000 in
theorem lX1_nearestOf_34 {g : zG} {κ : zK} (X : zC g κ RX1 cX1_nearestOf 5 0) {Q : Int32 → zMem → Prop} (hret : ∀ pc lv r μ', decode cX1_nearestOf pc = .ok (.ireturn, 1) → True → Q r μ' → zV g κ pc lv [.int r] μ') {k4 : Nat → Int32 → Int32 → Int32 → zMem → Option (Int32 × zMem)} (hk4 : ∀ (a0 : Nat) (a1 : Int32) (a2 : Int32) (a3 : Int32) (μ : zMem) (_ : zkd a0 = 1), zok (k4 a0 a1 a2 a3 μ) Q → zV g κ 4 [(0, .ref (zad g a0)), (1, .int a1), (2, .int a2), (3, .int a3)] [] μ) : ∀ (a0 : Nat) (a1 : Int32) (a2 : Int32) (a3 : Int32) (s0 : Int32) (μ : zMem) (ha0 : zkd a0 = 1), zok (fX1_nearestOf_34 k4 a0 a1 a2 a3 s0 μ) Q → zV g κ 34 [(0, .ref (zad g a0)), (1, .int a1), (2, .int a2), (3, .int a3)] [.int s0] μ := by
  intro a0 a1 a2 a3 s0 μ ha0 h
  unfold fX1_nearestOf_34 at h
  refine zi_istore (pc' := 36) X dX1_nearestOf_34 rfl (by decide) [(4, .int s0), (0, .ref (zad g a0)), (1, .int a1), (2, .int a2), (3, .int a3)] rfl ?_
  refine zi_iload (pc' := 38) X dX1_nearestOf_36 rfl 0 rfl ?_
  refine zi_if_eq (pc' := 41) (tgt := 63) X dX1_nearestOf_38 rfl rfl (fun c => ?_) (fun c => ?_)
  · replace h := zok_t h c
    refine zi_iinc (pc' := 66) (v := (a3 + (1 : Int32))) X dX1_nearestOf_63 rfl 4 rfl rfl (by decide) [(3, .int (a3 + (1 : Int32))), (4, .int s0), (0, .ref (zad g a0)), (1, .int a1), (2, .int a2)] rfl ?_
    refine zi_goto (pc' := 4) X dX1_nearestOf_66 rfl ?_
    exact zi_sub X [2, 3, 4, 0] _ rfl (hk4 a0 a1 a2 (a3 + (1 : Int32)) (μ) ha0 h)
  · replace h := zok_f h c
    refine zi_iload_n (pc' := 42) X dX1_nearestOf_41 rfl rfl 3 rfl ?_
    refine zi_iconst (pc' := 43) (v := (-1 : Int32)) X dX1_nearestOf_42 rfl rfl ?_
    refine zi_icmp_eq (pc' := 46) (tgt := 61) X dX1_nearestOf_43 rfl rfl (fun c => ?_) (fun c => ?_)
    · replace h := zok_t h c
      refine zi_iload_n (pc' := 62) X dX1_nearestOf_61 rfl rfl 4 rfl ?_
      refine zi_istore_n (pc' := 63) X dX1_nearestOf_62 rfl rfl (by decide) [(2, .int a3), (4, .int s0), (0, .ref (zad g a0)), (1, .int a1), (3, .int a3)] rfl ?_
      refine zi_iinc (pc' := 66) (v := (a3 + (1 : Int32))) X dX1_nearestOf_63 rfl 4 rfl rfl (by decide) [(3, .int (a3 + (1 : Int32))), (2, .int a3), (4, .int s0), (0, .ref (zad g a0)), (1, .int a1)] rfl ?_
      refine zi_goto (pc' := 4) X dX1_nearestOf_66 rfl ?_
      exact zi_sub X [3, 4, 1, 0] _ rfl (hk4 a0 a1 a3 (a3 + (1 : Int32)) (μ) ha0 h)
    · replace h := zok_f h c
      refine zi_aload_n (pc' := 47) X dX1_nearestOf_46 rfl rfl 1 rfl ?_
      refine zi_getr (pc' := 50) X zf_X1_9 rfl (by decide) ha0 dX1_nearestOf_47 rfl ?_
      have f1 := zr_1_0 ha0
      refine zi_iload_n (pc' := 51) X dX1_nearestOf_50 rfl rfl 4 rfl ?_
      obtain ⟨g2, h⟩ := zok_g h
      refine zi_iald (pc' := 52) X f1.1 (by rw [f1.2]; exact g2) dX1_nearestOf_51 rfl ?_
      refine zi_aload_n (pc' := 53) X dX1_nearestOf_52 rfl rfl 1 rfl ?_
      refine zi_getr (pc' := 56) X zf_X1_9 rfl (by decide) ha0 dX1_nearestOf_53 rfl ?_
      have f3 := zr_1_0 ha0
      refine zi_iload_n (pc' := 57) X dX1_nearestOf_56 rfl rfl 3 rfl ?_
      obtain ⟨g4, h⟩ := zok_g h
      refine zi_iald (pc' := 58) X f3.1 (by rw [f3.2]; exact g4) dX1_nearestOf_57 rfl ?_
      refine zi_icmp_ge (pc' := 61) (tgt := 63) X dX1_nearestOf_58 rfl rfl (fun c => ?_) (fun c => ?_)
      · replace h := zok_t h c
        refine zi_iinc (pc' := 66) (v := (a3 + (1 : Int32))) X dX1_nearestOf_63 rfl 4 rfl rfl (by decide) [(3, .int (a3 + (1 : Int32))), (4, .int s0), (0, .ref (zad g a0)), (1, .int a1), (2, .int a2)] rfl ?_
        refine zi_goto (pc' := 4) X dX1_nearestOf_66 rfl ?_
        exact zi_sub X [2, 3, 4, 0] _ rfl (hk4 a0 a1 a2 (a3 + (1 : Int32)) (μ) ha0 h)
      · replace h := zok_f h c
        refine zi_iload_n (pc' := 62) X dX1_nearestOf_61 rfl rfl 4 rfl ?_
        refine zi_istore_n (pc' := 63) X dX1_nearestOf_62 rfl rfl (by decide) [(2, .int a3), (4, .int s0), (0, .ref (zad g a0)), (1, .int a1), (3, .int a3)] rfl ?_
        refine zi_iinc (pc' := 66) (v := (a3 + (1 : Int32))) X dX1_nearestOf_63 rfl 4 rfl rfl (by decide) [(3, .int (a3 + (1 : Int32))), (2, .int a3), (4, .int s0), (0, .ref (zad g a0)), (1, .int a1)] rfl ?_
        refine zi_goto (pc' := 4) X dX1_nearestOf_66 rfl ?_
        exact zi_sub X [3, 4, 1, 0] _ rfl (hk4 a0 a1 a3 (a3 + (1 : Int32)) (μ) ha0 h)
def fX1_nearestOf_4 : Nat → Nat → Int32 → Int32 → Int32 → zMem → Option (Int32 × zMem)
  | 0, _, _, _, _, _ => none
  | n + 1, a0, a1, a2, a3, μ =>
    if (25 : Int32) ≤ a3 then
      some (a2, μ)
    else
      if ((((a1).toUInt32 >>> ((a3).toUInt32 &&& Int32.toUInt32 31)).toInt32) &&& (1 : Int32)) = (1 : Int32) then
        zgd (zib a3 25) (
        if (μ (a0 + 1) (a3).toNatClampNeg) = (-1 : Int32) then
          fX1_nearestOf_34 (fX1_nearestOf_4 n) a0 a1 a2 a3 (0 : Int32) μ
        else
          fX1_nearestOf_34 (fX1_nearestOf_4 n) a0 a1 a2 a3 (1 : Int32) μ)
      else
        fX1_nearestOf_34 (fX1_nearestOf_4 n) a0 a1 a2 a3 (0 : Int32) μ
set_option maxRecDepth 100000 in
theorem lX1_nearestOf_4 {g : zG} {κ : zK} (X : zC g κ RX1 cX1_nearestOf 5 0) {Q : Int32 → zMem → Prop} (hret : ∀ pc lv r μ', decode cX1_nearestOf pc = .ok (.ireturn, 1) → True → Q r μ' → zV g κ pc lv [.int r] μ') : ∀ (n : Nat) (a0 : Nat) (a1 : Int32) (a2 : Int32) (a3 : Int32) (μ : zMem) (ha0 : zkd a0 = 1), zok (fX1_nearestOf_4 n a0 a1 a2 a3 μ) Q → zV g κ 4 [(0, .ref (zad g a0)), (1, .int a1), (2, .int a2), (3, .int a3)] [] μ := by
  intro n
  induction n with
  | zero =>
    intro a0 a1 a2 a3 μ ha0 h
    exact h.elim
  | succ n ih =>
    intro a0 a1 a2 a3 μ ha0 h
    rw [fX1_nearestOf_4] at h
    refine zi_iload_n (pc' := 5) X dX1_nearestOf_4 rfl rfl 3 rfl ?_
    refine zi_bipush (pc' := 7) (v := (25 : Int32)) X dX1_nearestOf_5 rfl rfl ?_
    refine zi_icmp_ge (pc' := 10) (tgt := 69) X dX1_nearestOf_7 rfl rfl (fun c => ?_) (fun c => ?_)
    · replace h := zok_t h c
      refine zi_iload_n (pc' := 70) X dX1_nearestOf_69 rfl rfl 2 rfl ?_
      exact hret _ _ _ _ dX1_nearestOf_70 trivial h
    · replace h := zok_f h c
      refine zi_iload_n (pc' := 11) X dX1_nearestOf_10 rfl rfl 1 rfl ?_
      refine zi_iload_n (pc' := 12) X dX1_nearestOf_11 rfl rfl 3 rfl ?_
      refine zi_iushr (pc' := 13) X dX1_nearestOf_12 rfl ?_
      refine zi_iconst (pc' := 14) (v := (1 : Int32)) X dX1_nearestOf_13 rfl rfl ?_
      refine zi_iand (pc' := 15) X dX1_nearestOf_14 rfl ?_
      refine zi_iconst (pc' := 16) (v := (1 : Int32)) X dX1_nearestOf_15 rfl rfl ?_
      refine zi_icmp_ne (pc' := 19) (tgt := 33) X dX1_nearestOf_16 rfl rfl (fun c => ?_) (fun c => ?_)
      · replace h := zok_f h c
        refine zi_iconst (pc' := 34) (v := (0 : Int32)) X dX1_nearestOf_33 rfl rfl ?_
        exact zi_sub X [0, 1, 2, 3] _ rfl (lX1_nearestOf_34 X hret ih a0 a1 a2 a3 (0 : Int32) (μ) ha0 h)
      · replace h := zok_t h c
        refine zi_aload_n (pc' := 20) X dX1_nearestOf_19 rfl rfl 0 rfl ?_
        refine zi_getr (pc' := 23) X zf_X1_9 rfl (by decide) ha0 dX1_nearestOf_20 rfl ?_
        have f5 := zr_1_0 ha0
        refine zi_iload_n (pc' := 24) X dX1_nearestOf_23 rfl rfl 3 rfl ?_
        obtain ⟨g6, h⟩ := zok_g h
        refine zi_iald (pc' := 25) X f5.1 (by rw [f5.2]; exact g6) dX1_nearestOf_24 rfl ?_
        refine zi_iconst (pc' := 26) (v := (-1 : Int32)) X dX1_nearestOf_25 rfl rfl ?_
        refine zi_icmp_eq (pc' := 29) (tgt := 33) X dX1_nearestOf_26 rfl rfl (fun c => ?_) (fun c => ?_)
        · replace h := zok_t h c
          refine zi_iconst (pc' := 34) (v := (0 : Int32)) X dX1_nearestOf_33 rfl rfl ?_
          exact zi_sub X [0, 1, 2, 3] _ rfl (lX1_nearestOf_34 X hret ih a0 a1 a2 a3 (0 : Int32) (μ) ha0 h)
        · replace h := zok_f h c
          refine zi_iconst (pc' := 30) (v := (1 : Int32)) X dX1_nearestOf_29 rfl rfl ?_
          refine zi_goto (pc' := 34) X dX1_nearestOf_30 rfl ?_
          exact zi_sub X [0, 1, 2, 3] _ rfl (lX1_nearestOf_34 X hret ih a0 a1 a2 a3 (1 : Int32) (μ) ha0 h)
def fX1_nearestOf (a0 : Nat) (a1 : Int32) (μ : zMem) : Option (Int32 × zMem) :=
  fX1_nearestOf_4 200 a0 a1 (-1 : Int32) (0 : Int32) μ
set_option maxRecDepth 100000 in
set_option maxHeartbeats 4000000 in
theorem tX1_nearestOf (g : zG) {a0 : Nat} {a1 : Int32} {μ : zMem} {Q : Int32 → zMem → Prop} (ha0 : zkd a0 = 1) (h : zok (fX1_nearestOf a0 a1 μ) Q) : zTi g yX1_nearestOf cX1_nearestOf 5 .int 0 [.ref (zad g a0), .int a1] μ Q := by
  refine zTi_of (P := fun r => True) zpi RX1 (by decide) rfl (Nat.le_of_ble_eq_true rfl) ?_
  intro κ X hret
  unfold fX1_nearestOf at h
  refine zi_iconst (pc' := 1) (v := (-1 : Int32)) X dX1_nearestOf_0 rfl rfl ?_
  refine zi_istore_n (pc' := 2) X dX1_nearestOf_1 rfl rfl (by decide) [(2, .int (-1 : Int32)), (0, .ref (zad g a0)), (1, .int a1)] rfl ?_
  refine zi_iconst (pc' := 3) (v := (0 : Int32)) X dX1_nearestOf_2 rfl rfl ?_
  refine zi_istore_n (pc' := 4) X dX1_nearestOf_3 rfl rfl (by decide) [(3, .int (0 : Int32)), (2, .int (-1 : Int32)), (0, .ref (zad g a0)), (1, .int a1)] rfl ?_
  exact zi_sub X [2, 3, 1, 0] _ rfl (lX1_nearestOf_4 X hret 200 a0 a1 (-1 : Int32) (0 : Int32) (μ) ha0 h)
def fX1_reachedSet_4 : Nat → Nat → Int32 → Int32 → zMem → Option (Int32 × zMem)
  | 0, _, _, _, _ => none
  | n + 1, a0, a1, a2, μ =>
    if (25 : Int32) ≤ a2 then
      some (a1, μ)
    else
      zgd (zib a2 25) (
      if (μ (a0 + 1) (a2).toNatClampNeg) = (-1 : Int32) then
        fX1_reachedSet_4 n a0 a1 (a2 + (1 : Int32)) μ
      else
        fX1_reachedSet_4 n a0 (a1 ||| ((1 : Int32) <<< (a2 &&& 31))) (a2 + (1 : Int32)) μ)
set_option maxRecDepth 100000 in
theorem lX1_reachedSet_4 {g : zG} {κ : zK} (X : zC g κ RX1 cX1_reachedSet 3 0) {Q : Int32 → zMem → Prop} (hret : ∀ pc lv r μ', decode cX1_reachedSet pc = .ok (.ireturn, 1) → True → Q r μ' → zV g κ pc lv [.int r] μ') : ∀ (n : Nat) (a0 : Nat) (a1 : Int32) (a2 : Int32) (μ : zMem) (ha0 : zkd a0 = 1), zok (fX1_reachedSet_4 n a0 a1 a2 μ) Q → zV g κ 4 [(0, .ref (zad g a0)), (1, .int a1), (2, .int a2)] [] μ := by
  intro n
  induction n with
  | zero =>
    intro a0 a1 a2 μ ha0 h
    exact h.elim
  | succ n ih =>
    intro a0 a1 a2 μ ha0 h
    rw [fX1_reachedSet_4] at h
    refine zi_iload_n (pc' := 5) X dX1_reachedSet_4 rfl rfl 2 rfl ?_
    refine zi_bipush (pc' := 7) (v := (25 : Int32)) X dX1_reachedSet_5 rfl rfl ?_
    refine zi_icmp_ge (pc' := 10) (tgt := 32) X dX1_reachedSet_7 rfl rfl (fun c => ?_) (fun c => ?_)
    · replace h := zok_t h c
      refine zi_iload_n (pc' := 33) X dX1_reachedSet_32 rfl rfl 1 rfl ?_
      exact hret _ _ _ _ dX1_reachedSet_33 trivial h
    · replace h := zok_f h c
      refine zi_aload_n (pc' := 11) X dX1_reachedSet_10 rfl rfl 0 rfl ?_
      refine zi_getr (pc' := 14) X zf_X1_9 rfl (by decide) ha0 dX1_reachedSet_11 rfl ?_
      have f1 := zr_1_0 ha0
      refine zi_iload_n (pc' := 15) X dX1_reachedSet_14 rfl rfl 2 rfl ?_
      obtain ⟨g2, h⟩ := zok_g h
      refine zi_iald (pc' := 16) X f1.1 (by rw [f1.2]; exact g2) dX1_reachedSet_15 rfl ?_
      refine zi_iconst (pc' := 17) (v := (-1 : Int32)) X dX1_reachedSet_16 rfl rfl ?_
      refine zi_icmp_eq (pc' := 20) (tgt := 26) X dX1_reachedSet_17 rfl rfl (fun c => ?_) (fun c => ?_)
      · replace h := zok_t h c
        refine zi_iinc (pc' := 29) (v := (a2 + (1 : Int32))) X dX1_reachedSet_26 rfl 2 rfl rfl (by decide) [(2, .int (a2 + (1 : Int32))), (0, .ref (zad g a0)), (1, .int a1)] rfl ?_
        refine zi_goto (pc' := 4) X dX1_reachedSet_29 rfl ?_
        exact zi_sub X [1, 2, 0] _ rfl (ih a0 a1 (a2 + (1 : Int32)) (μ) ha0 h)
      · replace h := zok_f h c
        refine zi_iload_n (pc' := 21) X dX1_reachedSet_20 rfl rfl 1 rfl ?_
        refine zi_iconst (pc' := 22) (v := (1 : Int32)) X dX1_reachedSet_21 rfl rfl ?_
        refine zi_iload_n (pc' := 23) X dX1_reachedSet_22 rfl rfl 2 rfl ?_
        refine zi_ishl (pc' := 24) X dX1_reachedSet_23 rfl ?_
        refine zi_ior (pc' := 25) X dX1_reachedSet_24 rfl ?_
        refine zi_istore_n (pc' := 26) X dX1_reachedSet_25 rfl rfl (by decide) [(1, .int (a1 ||| ((1 : Int32) <<< (a2 &&& 31)))), (0, .ref (zad g a0)), (2, .int a2)] rfl ?_
        refine zi_iinc (pc' := 29) (v := (a2 + (1 : Int32))) X dX1_reachedSet_26 rfl 2 rfl rfl (by decide) [(2, .int (a2 + (1 : Int32))), (1, .int (a1 ||| ((1 : Int32) <<< (a2 &&& 31)))), (0, .ref (zad g a0))] rfl ?_
        refine zi_goto (pc' := 4) X dX1_reachedSet_29 rfl ?_
        exact zi_sub X [2, 1, 0] _ rfl (ih a0 (a1 ||| ((1 : Int32) <<< (a2 &&& 31))) (a2 + (1 : Int32)) (μ) ha0 h)
def fX1_reachedSet (a0 : Nat) (μ : zMem) : Option (Int32 × zMem) :=
  fX1_reachedSet_4 200 a0 (0 : Int32) (0 : Int32) μ
set_option maxRecDepth 100000 in
set_option maxHeartbeats 4000000 in
theorem tX1_reachedSet (g : zG) {a0 : Nat} {μ : zMem} {Q : Int32 → zMem → Prop} (ha0 : zkd a0 = 1) (h : zok (fX1_reachedSet a0 μ) Q) : zTi g yX1_reachedSet cX1_reachedSet 3 .int 0 [.ref (zad g a0)] μ Q := by
  refine zTi_of (P := fun r => True) zpi RX1 (by decide) rfl (Nat.le_of_ble_eq_true rfl) ?_
  intro κ X hret
  unfold fX1_reachedSet at h
  refine zi_iconst (pc' := 1) (v := (0 : Int32)) X dX1_reachedSet_0 rfl rfl ?_
  refine zi_istore_n (pc' := 2) X dX1_reachedSet_1 rfl rfl (by decide) [(1, .int (0 : Int32)), (0, .ref (zad g a0))] rfl ?_
  refine zi_iconst (pc' := 3) (v := (0 : Int32)) X dX1_reachedSet_2 rfl rfl ?_
  refine zi_istore_n (pc' := 4) X dX1_reachedSet_3 rfl rfl (by decide) [(2, .int (0 : Int32)), (1, .int (0 : Int32)), (0, .ref (zad g a0))] rfl ?_
  exact zi_sub X [2, 1, 0] _ rfl (lX1_reachedSet_4 X hret 200 a0 (0 : Int32) (0 : Int32) (μ) ha0 h)
def fX1_easiest_4 : Nat → Nat → Int32 → Int32 → zMem → Option (Int32 × zMem)
  | 0, _, _, _, _ => none
  | n + 1, a0, a1, a2, μ =>
    if (25 : Int32) ≤ a2 then
      some (a1, μ)
    else
      zbd (fX1_isSettled a0 a2 μ) fun r1 m2 =>
      if r1 = 0 then
        zbd (fX1_isSettled a0 a1 m2) fun r3 m4 =>
        if r3 = 0 then
          zgd (zib a2 25) (
          zgd (zib a1 25) (
          if (m4 (a0 + 3) (a1).toNatClampNeg) ≤ (m4 (a0 + 3) (a2).toNatClampNeg) then
            fX1_easiest_4 n a0 a1 (a2 + (1 : Int32)) m4
          else
            fX1_easiest_4 n a0 a2 (a2 + (1 : Int32)) m4))
        else
          fX1_easiest_4 n a0 a2 (a2 + (1 : Int32)) m4
      else
        fX1_easiest_4 n a0 a1 (a2 + (1 : Int32)) m2
set_option maxRecDepth 100000 in
theorem lX1_easiest_4 {g : zG} {κ : zK} (X : zC g κ RX1 cX1_easiest 3 1) {Q : Int32 → zMem → Prop} (hret : ∀ pc lv r μ', decode cX1_easiest pc = .ok (.ireturn, 1) → True → Q r μ' → zV g κ pc lv [.int r] μ') : ∀ (n : Nat) (a0 : Nat) (a1 : Int32) (a2 : Int32) (μ : zMem) (ha0 : zkd a0 = 1), zok (fX1_easiest_4 n a0 a1 a2 μ) Q → zV g κ 4 [(0, .ref (zad g a0)), (1, .int a1), (2, .int a2)] [] μ := by
  intro n
  induction n with
  | zero =>
    intro a0 a1 a2 μ ha0 h
    exact h.elim
  | succ n ih =>
    intro a0 a1 a2 μ ha0 h
    rw [fX1_easiest_4] at h
    refine zi_iload_n (pc' := 5) X dX1_easiest_4 rfl rfl 2 rfl ?_
    refine zi_bipush (pc' := 7) (v := (25 : Int32)) X dX1_easiest_5 rfl rfl ?_
    refine zi_icmp_ge (pc' := 10) (tgt := 49) X dX1_easiest_7 rfl rfl (fun c => ?_) (fun c => ?_)
    · replace h := zok_t h c
      refine zi_iload_n (pc' := 50) X dX1_easiest_49 rfl rfl 1 rfl ?_
      exact hret _ _ _ _ dX1_easiest_50 trivial h
    · replace h := zok_f h c
      refine zi_aload_n (pc' := 11) X dX1_easiest_10 rfl rfl 0 rfl ?_
      refine zi_iload_n (pc' := 12) X dX1_easiest_11 rfl rfl 2 rfl ?_
      refine zi_callVi (pc' := 15) X zl_X1_44 ha0 (by decide) [.int a2] rfl rfl (by decide) (Nat.le_of_ble_eq_true rfl) dX1_easiest_12 rfl (tX1_isSettled _ ha0 (zok_bd h (fun r1 m2 h => ?_)))
      refine zi_if_ne (pc' := 18) (tgt := 43) X dX1_easiest_15 rfl rfl (fun c => ?_) (fun c => ?_)
      · replace h := zok_f h c
        refine zi_iinc (pc' := 46) (v := (a2 + (1 : Int32))) X dX1_easiest_43 rfl 2 rfl rfl (by decide) [(2, .int (a2 + (1 : Int32))), (0, .ref (zad g a0)), (1, .int a1)] rfl ?_
        refine zi_goto (pc' := 4) X dX1_easiest_46 rfl ?_
        exact zi_sub X [1, 2, 0] _ rfl (ih a0 a1 (a2 + (1 : Int32)) (m2) ha0 h)
      · replace h := zok_t h c
        refine zi_aload_n (pc' := 19) X dX1_easiest_18 rfl rfl 0 rfl ?_
        refine zi_iload_n (pc' := 20) X dX1_easiest_19 rfl rfl 1 rfl ?_
        refine zi_callVi (pc' := 23) X zl_X1_44 ha0 (by decide) [.int a1] rfl rfl (by decide) (Nat.le_of_ble_eq_true rfl) dX1_easiest_20 rfl (tX1_isSettled _ ha0 (zok_bd h (fun r3 m4 h => ?_)))
        refine zi_if_ne (pc' := 26) (tgt := 41) X dX1_easiest_23 rfl rfl (fun c => ?_) (fun c => ?_)
        · replace h := zok_f h c
          refine zi_iload_n (pc' := 42) X dX1_easiest_41 rfl rfl 2 rfl ?_
          refine zi_istore_n (pc' := 43) X dX1_easiest_42 rfl rfl (by decide) [(1, .int a2), (0, .ref (zad g a0)), (2, .int a2)] rfl ?_
          refine zi_iinc (pc' := 46) (v := (a2 + (1 : Int32))) X dX1_easiest_43 rfl 2 rfl rfl (by decide) [(2, .int (a2 + (1 : Int32))), (1, .int a2), (0, .ref (zad g a0))] rfl ?_
          refine zi_goto (pc' := 4) X dX1_easiest_46 rfl ?_
          exact zi_sub X [2, 1, 0] _ rfl (ih a0 a2 (a2 + (1 : Int32)) (m4) ha0 h)
        · replace h := zok_t h c
          refine zi_aload_n (pc' := 27) X dX1_easiest_26 rfl rfl 0 rfl ?_
          refine zi_getr (pc' := 30) X zf_X1_18 rfl (by decide) ha0 dX1_easiest_27 rfl ?_
          have f5 := zr_1_2 ha0
          refine zi_iload_n (pc' := 31) X dX1_easiest_30 rfl rfl 2 rfl ?_
          obtain ⟨g6, h⟩ := zok_g h
          refine zi_iald (pc' := 32) X f5.1 (by rw [f5.2]; exact g6) dX1_easiest_31 rfl ?_
          refine zi_aload_n (pc' := 33) X dX1_easiest_32 rfl rfl 0 rfl ?_
          refine zi_getr (pc' := 36) X zf_X1_18 rfl (by decide) ha0 dX1_easiest_33 rfl ?_
          have f7 := zr_1_2 ha0
          refine zi_iload_n (pc' := 37) X dX1_easiest_36 rfl rfl 1 rfl ?_
          obtain ⟨g8, h⟩ := zok_g h
          refine zi_iald (pc' := 38) X f7.1 (by rw [f7.2]; exact g8) dX1_easiest_37 rfl ?_
          refine zi_icmp_ge (pc' := 41) (tgt := 43) X dX1_easiest_38 rfl rfl (fun c => ?_) (fun c => ?_)
          · replace h := zok_t h c
            refine zi_iinc (pc' := 46) (v := (a2 + (1 : Int32))) X dX1_easiest_43 rfl 2 rfl rfl (by decide) [(2, .int (a2 + (1 : Int32))), (0, .ref (zad g a0)), (1, .int a1)] rfl ?_
            refine zi_goto (pc' := 4) X dX1_easiest_46 rfl ?_
            exact zi_sub X [1, 2, 0] _ rfl (ih a0 a1 (a2 + (1 : Int32)) (m4) ha0 h)
          · replace h := zok_f h c
            refine zi_iload_n (pc' := 42) X dX1_easiest_41 rfl rfl 2 rfl ?_
            refine zi_istore_n (pc' := 43) X dX1_easiest_42 rfl rfl (by decide) [(1, .int a2), (0, .ref (zad g a0)), (2, .int a2)] rfl ?_
            refine zi_iinc (pc' := 46) (v := (a2 + (1 : Int32))) X dX1_easiest_43 rfl 2 rfl rfl (by decide) [(2, .int (a2 + (1 : Int32))), (1, .int a2), (0, .ref (zad g a0))] rfl ?_
            refine zi_goto (pc' := 4) X dX1_easiest_46 rfl ?_
            exact zi_sub X [2, 1, 0] _ rfl (ih a0 a2 (a2 + (1 : Int32)) (m4) ha0 h)
def fX1_easiest (a0 : Nat) (μ : zMem) : Option (Int32 × zMem) :=
  fX1_easiest_4 200 a0 (0 : Int32) (1 : Int32) μ
set_option maxRecDepth 100000 in
set_option maxHeartbeats 4000000 in
theorem tX1_easiest (g : zG) {a0 : Nat} {μ : zMem} {Q : Int32 → zMem → Prop} (ha0 : zkd a0 = 1) (h : zok (fX1_easiest a0 μ) Q) : zTi g yX1_easiest cX1_easiest 3 .int 1 [.ref (zad g a0)] μ Q := by
  refine zTi_of (P := fun r => True) zpi RX1 (by decide) rfl (Nat.le_of_ble_eq_true rfl) ?_
  intro κ X hret
  unfold fX1_easiest at h
  refine zi_iconst (pc' := 1) (v := (0 : Int32)) X dX1_easiest_0 rfl rfl ?_
  refine zi_istore_n (pc' := 2) X dX1_easiest_1 rfl rfl (by decide) [(1, .int (0 : Int32)), (0, .ref (zad g a0))] rfl ?_
  refine zi_iconst (pc' := 3) (v := (1 : Int32)) X dX1_easiest_2 rfl rfl ?_
  refine zi_istore_n (pc' := 4) X dX1_easiest_3 rfl rfl (by decide) [(2, .int (1 : Int32)), (1, .int (0 : Int32)), (0, .ref (zad g a0))] rfl ?_
  exact zi_sub X [2, 1, 0] _ rfl (lX1_easiest_4 X hret 200 a0 (0 : Int32) (1 : Int32) (μ) ha0 h)
def fX1_leastClimb_61 (k24 : Nat → Nat → Int32 → Int32 → zMem → Option (Int32 × zMem)) : Nat → Nat → Nat → Int32 → Int32 → Int32 → Int32 → zMem → Option (Int32 × zMem)
  | 0, _, _, _, _, _, _, _ => none
  | n + 1, a0, a1, a3, a4, a5, a6, μ =>
    if (4 : Int32) ≤ a6 then
      k24 a0 a1 a3 (a4 + (1 : Int32)) μ
    else
      zbd (fX5_neighbour a5 a6 μ) fun r14 m15 =>
      if r14 = (-1 : Int32) then
        fX1_leastClimb_61 k24 n a0 a1 a3 a4 a5 (a6 + (1 : Int32)) m15
      else
        zbd (fX1_isSettled a0 r14 m15) fun r16 m17 =>
        if r16 = 0 then
          zgd (zib a5 25) (
          zbd (fX0_climbBetween a1 a5 r14 m17) fun r20 m21 =>
          zgd (zib r14 25) (
          zgd (zib r14 25) (
          fX1_leastClimb_61 k24 n a0 a1 a3 a4 a5 (a6 + (1 : Int32)) (zst m21 (a0 + 3) (r14).toNatClampNeg (if (if (m17 (a0 + 3) (a5).toNatClampNeg) < r20 then r20 else (m17 (a0 + 3) (a5).toNatClampNeg)) < (m21 (a0 + 3) (r14).toNatClampNeg) then (if (m17 (a0 + 3) (a5).toNatClampNeg) < r20 then r20 else (m17 (a0 + 3) (a5).toNatClampNeg)) else (m21 (a0 + 3) (r14).toNatClampNeg))))))
        else
          fX1_leastClimb_61 k24 n a0 a1 a3 a4 a5 (a6 + (1 : Int32)) m17
set_option maxRecDepth 100000 in
theorem lX1_leastClimb_61 {g : zG} {κ : zK} (X : zC g κ RX1 cX1_leastClimb 9 2) {Q : Int32 → zMem → Prop} (hret : ∀ pc lv r μ', decode cX1_leastClimb pc = .ok (.ireturn, 1) → True → Q r μ' → zV g κ pc lv [.int r] μ') {k24 : Nat → Nat → Int32 → Int32 → zMem → Option (Int32 × zMem)} (hk24 : ∀ (a0 : Nat) (a1 : Nat) (a3 : Int32) (a4 : Int32) (μ : zMem) (_ : zkd a0 = 1) (_ : zkd a1 = 0), zok (k24 a0 a1 a3 a4 μ) Q → zV g κ 24 [(0, .ref (zad g a0)), (1, .ref (zad g a1)), (3, .int a3), (4, .int a4)] [] μ) : ∀ (n : Nat) (a0 : Nat) (a1 : Nat) (a3 : Int32) (a4 : Int32) (a5 : Int32) (a6 : Int32) (μ : zMem) (ha0 : zkd a0 = 1) (ha1 : zkd a1 = 0), zok (fX1_leastClimb_61 k24 n a0 a1 a3 a4 a5 a6 μ) Q → zV g κ 61 [(0, .ref (zad g a0)), (1, .ref (zad g a1)), (3, .int a3), (4, .int a4), (5, .int a5), (6, .int a6)] [] μ := by
  intro n
  induction n with
  | zero =>
    intro a0 a1 a3 a4 a5 a6 μ ha0 ha1 h
    exact h.elim
  | succ n ih =>
    intro a0 a1 a3 a4 a5 a6 μ ha0 ha1 h
    rw [fX1_leastClimb_61] at h
    refine zi_iload (pc' := 63) X dX1_leastClimb_61 rfl 5 rfl ?_
    refine zi_iconst (pc' := 64) (v := (4 : Int32)) X dX1_leastClimb_63 rfl rfl ?_
    refine zi_icmp_ge (pc' := 67) (tgt := 136) X dX1_leastClimb_64 rfl rfl (fun c => ?_) (fun c => ?_)
    · replace h := zok_t h c
      refine zi_iinc (pc' := 139) (v := (a4 + (1 : Int32))) X dX1_leastClimb_136 rfl 3 rfl rfl (by decide) [(4, .int (a4 + (1 : Int32))), (0, .ref (zad g a0)), (1, .ref (zad g a1)), (3, .int a3), (5, .int a5), (6, .int a6)] rfl ?_
      refine zi_goto (pc' := 24) X dX1_leastClimb_139 rfl ?_
      exact zi_sub X [1, 2, 3, 0] _ rfl (hk24 a0 a1 a3 (a4 + (1 : Int32)) (μ) ha0 ha1 h)
    · replace h := zok_f h c
      refine zi_iload (pc' := 69) X dX1_leastClimb_67 rfl 4 rfl ?_
      refine zi_iload (pc' := 71) X dX1_leastClimb_69 rfl 5 rfl ?_
      refine zi_callSi (pc' := 74) X zl_X1_35 [.int a5, .int a6] rfl rfl (by decide) (Nat.le_of_ble_eq_true rfl) dX1_leastClimb_71 rfl (tX5_neighbour _ (zok_bd h (fun r14 m15 h => ?_)))
      refine zi_istore (pc' := 76) X dX1_leastClimb_74 rfl (by decide) [(7, .int r14), (0, .ref (zad g a0)), (1, .ref (zad g a1)), (3, .int a3), (4, .int a4), (5, .int a5), (6, .int a6)] rfl ?_
      refine zi_iload (pc' := 78) X dX1_leastClimb_76 rfl 0 rfl ?_
      refine zi_iconst (pc' := 79) (v := (-1 : Int32)) X dX1_leastClimb_78 rfl rfl ?_
      refine zi_icmp_eq (pc' := 82) (tgt := 130) X dX1_leastClimb_79 rfl rfl (fun c => ?_) (fun c => ?_)
      · replace h := zok_t h c
        refine zi_iinc (pc' := 133) (v := (a6 + (1 : Int32))) X dX1_leastClimb_130 rfl 6 rfl rfl (by decide) [(6, .int (a6 + (1 : Int32))), (7, .int r14), (0, .ref (zad g a0)), (1, .ref (zad g a1)), (3, .int a3), (4, .int a4), (5, .int a5)] rfl ?_
        refine zi_goto (pc' := 61) X dX1_leastClimb_133 rfl ?_
        exact zi_sub X [2, 3, 4, 5, 6, 0] _ rfl (ih a0 a1 a3 a4 a5 (a6 + (1 : Int32)) (m15) ha0 ha1 h)
      · replace h := zok_f h c
        refine zi_aload_n (pc' := 83) X dX1_leastClimb_82 rfl rfl 1 rfl ?_
        refine zi_iload (pc' := 85) X dX1_leastClimb_83 rfl 0 rfl ?_
        refine zi_callVi (pc' := 88) X zl_X1_44 ha0 (by decide) [.int r14] rfl rfl (by decide) (Nat.le_of_ble_eq_true rfl) dX1_leastClimb_85 rfl (tX1_isSettled _ ha0 (zok_bd h (fun r16 m17 h => ?_)))
        refine zi_if_ne (pc' := 91) (tgt := 130) X dX1_leastClimb_88 rfl rfl (fun c => ?_) (fun c => ?_)
        · replace h := zok_f h c
          refine zi_iinc (pc' := 133) (v := (a6 + (1 : Int32))) X dX1_leastClimb_130 rfl 6 rfl rfl (by decide) [(6, .int (a6 + (1 : Int32))), (7, .int r14), (0, .ref (zad g a0)), (1, .ref (zad g a1)), (3, .int a3), (4, .int a4), (5, .int a5)] rfl ?_
          refine zi_goto (pc' := 61) X dX1_leastClimb_133 rfl ?_
          exact zi_sub X [2, 3, 4, 5, 6, 0] _ rfl (ih a0 a1 a3 a4 a5 (a6 + (1 : Int32)) (m17) ha0 ha1 h)
        · replace h := zok_t h c
          refine zi_aload_n (pc' := 92) X dX1_leastClimb_91 rfl rfl 1 rfl ?_
          refine zi_getr (pc' := 95) X zf_X1_18 rfl (by decide) ha0 dX1_leastClimb_92 rfl ?_
          have f18 := zr_1_2 ha0
          refine zi_iload (pc' := 97) X dX1_leastClimb_95 rfl 5 rfl ?_
          obtain ⟨g19, h⟩ := zok_g h
          refine zi_iald (pc' := 98) X f18.1 (by rw [f18.2]; exact g19) dX1_leastClimb_97 rfl ?_
          refine zi_aload_n (pc' := 99) X dX1_leastClimb_98 rfl rfl 2 rfl ?_
          refine zi_iload (pc' := 101) X dX1_leastClimb_99 rfl 5 rfl ?_
          refine zi_iload (pc' := 103) X dX1_leastClimb_101 rfl 0 rfl ?_
          refine zi_callVi (pc' := 106) X zl_X1_39 ha1 (by decide) [.int a5, .int r14] rfl rfl (by decide) (Nat.le_of_ble_eq_true rfl) dX1_leastClimb_103 rfl (tX0_climbBetween _ ha1 (zok_bd h (fun r20 m21 h => ?_)))
          refine zi_mmax (pc' := 109) X zl_X1_52 (Nat.le_of_ble_eq_true rfl) (by decide) dX1_leastClimb_106 rfl ?_
          refine zi_istore (pc' := 111) X dX1_leastClimb_109 rfl (by decide) [(8, .int (if (m17 (a0 + 3) (a5).toNatClampNeg) < r20 then r20 else (m17 (a0 + 3) (a5).toNatClampNeg))), (7, .int r14), (0, .ref (zad g a0)), (1, .ref (zad g a1)), (3, .int a3), (4, .int a4), (5, .int a5), (6, .int a6)] rfl ?_
          refine zi_aload_n (pc' := 112) X dX1_leastClimb_111 rfl rfl 2 rfl ?_
          refine zi_getr (pc' := 115) X zf_X1_18 rfl (by decide) ha0 dX1_leastClimb_112 rfl ?_
          have f22 := zr_1_2 ha0
          refine zi_iload (pc' := 117) X dX1_leastClimb_115 rfl 1 rfl ?_
          refine zi_aload_n (pc' := 118) X dX1_leastClimb_117 rfl rfl 2 rfl ?_
          refine zi_getr (pc' := 121) X zf_X1_18 rfl (by decide) ha0 dX1_leastClimb_118 rfl ?_
          have f23 := zr_1_2 ha0
          refine zi_iload (pc' := 123) X dX1_leastClimb_121 rfl 1 rfl ?_
          obtain ⟨g24, h⟩ := zok_g h
          refine zi_iald (pc' := 124) X f23.1 (by rw [f23.2]; exact g24) dX1_leastClimb_123 rfl ?_
          refine zi_iload (pc' := 126) X dX1_leastClimb_124 rfl 0 rfl ?_
          refine zi_mmin (pc' := 129) X zl_X1_57 (Nat.le_of_ble_eq_true rfl) (by decide) dX1_leastClimb_126 rfl ?_
          obtain ⟨g25, h⟩ := zok_g h
          refine zi_iast (pc' := 130) X f22.1 (by rw [f22.2]; exact g25) dX1_leastClimb_129 rfl ?_
          refine zi_iinc (pc' := 133) (v := (a6 + (1 : Int32))) X dX1_leastClimb_130 rfl 7 rfl rfl (by decide) [(6, .int (a6 + (1 : Int32))), (8, .int (if (m17 (a0 + 3) (a5).toNatClampNeg) < r20 then r20 else (m17 (a0 + 3) (a5).toNatClampNeg))), (7, .int r14), (0, .ref (zad g a0)), (1, .ref (zad g a1)), (3, .int a3), (4, .int a4), (5, .int a5)] rfl ?_
          refine zi_goto (pc' := 61) X dX1_leastClimb_133 rfl ?_
          exact zi_sub X [3, 4, 5, 6, 7, 0] _ rfl (ih a0 a1 a3 a4 a5 (a6 + (1 : Int32)) ((zst m21 (a0 + 3) (r14).toNatClampNeg (if (if (m17 (a0 + 3) (a5).toNatClampNeg) < r20 then r20 else (m17 (a0 + 3) (a5).toNatClampNeg)) < (m21 (a0 + 3) (r14).toNatClampNeg) then (if (m17 (a0 + 3) (a5).toNatClampNeg) < r20 then r20 else (m17 (a0 + 3) (a5).toNatClampNeg)) else (m21 (a0 + 3) (r14).toNatClampNeg)))) ha0 ha1 h)
def fX1_leastClimb_24 : Nat → Nat → Nat → Int32 → Int32 → zMem → Option (Int32 × zMem)
  | 0, _, _, _, _, _ => none
  | n + 1, a0, a1, a3, a4, μ =>
    if (25 : Int32) ≤ a4 then
      zgd (zib a3 25) (
      some ((μ (a0 + 3) (a3).toNatClampNeg), μ))
    else
      zbd (fX1_isSettled a0 a3 μ) fun r8 m9 =>
      if r8 = 0 then
        zbd (fX1_easiest a0 m9) fun r12 m13 =>
        fX1_leastClimb_61 (fX1_leastClimb_24 n) 200 a0 a1 a3 a4 r12 (0 : Int32) (zst m13 a0 3 ((m13 a0 3) ||| ((1 : Int32) <<< (r12 &&& 31))))
      else
        zgd (zib a3 25) (
        some ((m9 (a0 + 3) (a3).toNatClampNeg), m9))
set_option maxRecDepth 100000 in
theorem lX1_leastClimb_24 {g : zG} {κ : zK} (X : zC g κ RX1 cX1_leastClimb 9 2) {Q : Int32 → zMem → Prop} (hret : ∀ pc lv r μ', decode cX1_leastClimb pc = .ok (.ireturn, 1) → True → Q r μ' → zV g κ pc lv [.int r] μ') : ∀ (n : Nat) (a0 : Nat) (a1 : Nat) (a3 : Int32) (a4 : Int32) (μ : zMem) (ha0 : zkd a0 = 1) (ha1 : zkd a1 = 0), zok (fX1_leastClimb_24 n a0 a1 a3 a4 μ) Q → zV g κ 24 [(0, .ref (zad g a0)), (1, .ref (zad g a1)), (3, .int a3), (4, .int a4)] [] μ := by
  intro n
  induction n with
  | zero =>
    intro a0 a1 a3 a4 μ ha0 ha1 h
    exact h.elim
  | succ n ih =>
    intro a0 a1 a3 a4 μ ha0 ha1 h
    rw [fX1_leastClimb_24] at h
    refine zi_iload (pc' := 26) X dX1_leastClimb_24 rfl 3 rfl ?_
    refine zi_bipush (pc' := 28) (v := (25 : Int32)) X dX1_leastClimb_26 rfl rfl ?_
    refine zi_icmp_ge (pc' := 31) (tgt := 142) X dX1_leastClimb_28 rfl rfl (fun c => ?_) (fun c => ?_)
    · replace h := zok_t h c
      refine zi_aload_n (pc' := 143) X dX1_leastClimb_142 rfl rfl 0 rfl ?_
      refine zi_getr (pc' := 146) X zf_X1_18 rfl (by decide) ha0 dX1_leastClimb_143 rfl ?_
      have f6 := zr_1_2 ha0
      refine zi_iload_n (pc' := 147) X dX1_leastClimb_146 rfl rfl 2 rfl ?_
      obtain ⟨g7, h⟩ := zok_g h
      refine zi_iald (pc' := 148) X f6.1 (by rw [f6.2]; exact g7) dX1_leastClimb_147 rfl ?_
      exact hret _ _ _ _ dX1_leastClimb_148 trivial h
    · replace h := zok_f h c
      refine zi_aload_n (pc' := 32) X dX1_leastClimb_31 rfl rfl 0 rfl ?_
      refine zi_iload_n (pc' := 33) X dX1_leastClimb_32 rfl rfl 2 rfl ?_
      refine zi_callVi (pc' := 36) X zl_X1_44 ha0 (by decide) [.int a3] rfl rfl (by decide) (Nat.le_of_ble_eq_true rfl) dX1_leastClimb_33 rfl (tX1_isSettled _ ha0 (zok_bd h (fun r8 m9 h => ?_)))
      refine zi_if_ne (pc' := 39) (tgt := 142) X dX1_leastClimb_36 rfl rfl (fun c => ?_) (fun c => ?_)
      · replace h := zok_f h c
        refine zi_aload_n (pc' := 143) X dX1_leastClimb_142 rfl rfl 0 rfl ?_
        refine zi_getr (pc' := 146) X zf_X1_18 rfl (by decide) ha0 dX1_leastClimb_143 rfl ?_
        have f10 := zr_1_2 ha0
        refine zi_iload_n (pc' := 147) X dX1_leastClimb_146 rfl rfl 2 rfl ?_
        obtain ⟨g11, h⟩ := zok_g h
        refine zi_iald (pc' := 148) X f10.1 (by rw [f10.2]; exact g11) dX1_leastClimb_147 rfl ?_
        exact hret _ _ _ _ dX1_leastClimb_148 trivial h
      · replace h := zok_t h c
        refine zi_aload_n (pc' := 40) X dX1_leastClimb_39 rfl rfl 0 rfl ?_
        refine zi_callVi (pc' := 43) X zl_X1_48 ha0 (by decide) [] rfl rfl (by decide) (Nat.le_of_ble_eq_true rfl) dX1_leastClimb_40 rfl (tX1_easiest _ ha0 (zok_bd h (fun r12 m13 h => ?_)))
        refine zi_istore (pc' := 45) X dX1_leastClimb_43 rfl (by decide) [(5, .int r12), (0, .ref (zad g a0)), (1, .ref (zad g a1)), (3, .int a3), (4, .int a4)] rfl ?_
        refine zi_aload_n (pc' := 46) X dX1_leastClimb_45 rfl rfl 1 rfl ?_
        refine zi_dup (pc' := 47) X dX1_leastClimb_46 rfl rfl ?_
        refine zi_geti (pc' := 50) X zf_X1_21 rfl (by decide) ha0 dX1_leastClimb_47 rfl ?_
        refine zi_iconst (pc' := 51) (v := (1 : Int32)) X dX1_leastClimb_50 rfl rfl ?_
        refine zi_iload (pc' := 53) X dX1_leastClimb_51 rfl 0 rfl ?_
        refine zi_ishl (pc' := 54) X dX1_leastClimb_53 rfl ?_
        refine zi_ior (pc' := 55) X dX1_leastClimb_54 rfl ?_
        refine zi_put (pc' := 58) X zf_X1_21 zw_1_3 rfl (by decide) ha0 rfl rfl dX1_leastClimb_55 rfl ?_
        refine zi_iconst (pc' := 59) (v := (0 : Int32)) X dX1_leastClimb_58 rfl rfl ?_
        refine zi_istore (pc' := 61) X dX1_leastClimb_59 rfl (by decide) [(6, .int (0 : Int32)), (5, .int r12), (0, .ref (zad g a0)), (1, .ref (zad g a1)), (3, .int a3), (4, .int a4)] rfl ?_
        exact zi_sub X [2, 3, 4, 5, 1, 0] _ rfl (lX1_leastClimb_61 X hret ih 200 a0 a1 a3 a4 r12 (0 : Int32) ((zst m13 a0 3 ((m13 a0 3) ||| ((1 : Int32) <<< (r12 &&& 31))))) ha0 ha1 h)
def fX1_leastClimb (a0 : Nat) (a1 : Nat) (a2 : Int32) (a3 : Int32) (μ : zMem) : Option (Int32 × zMem) :=
  zbd (fJ7_fill_53178 (a0 + 3) (99 : Int32) μ) fun _ m3 =>
  zgd (zib a2 25) (
  fX1_leastClimb_24 200 a0 a1 a3 (0 : Int32) (zst (zst m3 (a0 + 3) (a2).toNatClampNeg (0 : Int32)) a0 3 (0 : Int32)))
set_option maxRecDepth 100000 in
set_option maxHeartbeats 4000000 in
theorem tX1_leastClimb (g : zG) {a0 : Nat} {a1 : Nat} {a2 : Int32} {a3 : Int32} {μ : zMem} {Q : Int32 → zMem → Prop} (ha0 : zkd a0 = 1) (ha1 : zkd a1 = 0) (h : zok (fX1_leastClimb a0 a1 a2 a3 μ) Q) : zTi g yX1_leastClimb cX1_leastClimb 9 .int 2 [.ref (zad g a0), .ref (zad g a1), .int a2, .int a3] μ Q := by
  refine zTi_of (P := fun r => True) zpi RX1 (by decide) rfl (Nat.le_of_ble_eq_true rfl) ?_
  intro κ X hret
  unfold fX1_leastClimb at h
  refine zi_aload_n (pc' := 1) X dX1_leastClimb_0 rfl rfl 0 rfl ?_
  refine zi_getr (pc' := 4) X zf_X1_18 rfl (by decide) ha0 dX1_leastClimb_1 rfl ?_
  have f1 := zr_1_2 ha0
  refine zi_bipush (pc' := 6) (v := (99 : Int32)) X dX1_leastClimb_4 rfl rfl ?_
  refine zi_callSv (pc' := 9) X zl_X1_29 [.ref (zad g (a0 + 3)), .int (99 : Int32)] rfl rfl (by decide) (Nat.le_of_ble_eq_true rfl) dX1_leastClimb_6 rfl (tJ7_fill_53178 _ f1.1 (zok_bd h (fun _ m3 h => ?_)))
  refine zi_aload_n (pc' := 10) X dX1_leastClimb_9 rfl rfl 0 rfl ?_
  refine zi_getr (pc' := 13) X zf_X1_18 rfl (by decide) ha0 dX1_leastClimb_10 rfl ?_
  have f4 := zr_1_2 ha0
  refine zi_iload_n (pc' := 14) X dX1_leastClimb_13 rfl rfl 2 rfl ?_
  refine zi_iconst (pc' := 15) (v := (0 : Int32)) X dX1_leastClimb_14 rfl rfl ?_
  obtain ⟨g5, h⟩ := zok_g h
  refine zi_iast (pc' := 16) X f4.1 (by rw [f4.2]; exact g5) dX1_leastClimb_15 rfl ?_
  refine zi_aload_n (pc' := 17) X dX1_leastClimb_16 rfl rfl 0 rfl ?_
  refine zi_iconst (pc' := 18) (v := (0 : Int32)) X dX1_leastClimb_17 rfl rfl ?_
  refine zi_put (pc' := 21) X zf_X1_21 zw_1_3 rfl (by decide) ha0 rfl rfl dX1_leastClimb_18 rfl ?_
  refine zi_iconst (pc' := 22) (v := (0 : Int32)) X dX1_leastClimb_21 rfl rfl ?_
  refine zi_istore (pc' := 24) X dX1_leastClimb_22 rfl (by decide) [(4, .int (0 : Int32)), (0, .ref (zad g a0)), (1, .ref (zad g a1)), (2, .int a2), (3, .int a3)] rfl ?_
  exact zi_sub X [1, 2, 4, 0] _ rfl (lX1_leastClimb_24 X hret 200 a0 a1 a3 (0 : Int32) ((zst (zst m3 (a0 + 3) (a2).toNatClampNeg (0 : Int32)) a0 3 (0 : Int32))) ha0 ha1 h)
def fX1_roam_54 (k28 : Nat → Nat → Int32 → Int32 → Int32 → zMem → Option (Unit × zMem)) : Nat → Nat → Nat → Int32 → Int32 → Int32 → Int32 → Int32 → zMem → Option (Unit × zMem)
  | 0, _, _, _, _, _, _, _, _ => none
  | n + 1, a0, a1, a3, a4, a5, a6, a7, μ =>
    if (4 : Int32) ≤ a7 then
      k28 a0 a1 a3 a4 (a5 + (1 : Int32)) μ
    else
      zbd (fX5_neighbour a6 a7 μ) fun r10 m11 =>
      if r10 = (-1 : Int32) then
        fX1_roam_54 k28 n a0 a1 a3 a4 a5 a6 (a7 + (1 : Int32)) m11
      else
        zgd (zib r10 25) (
        if (m11 (a0 + 1) (r10).toNatClampNeg) = (-1 : Int32) then
          if (25 : Int32) ≤ a4 then
            fX1_roam_54 k28 n a0 a1 a3 a4 a5 a6 (a7 + (1 : Int32)) m11
          else
            zbd (fX0_climbBetween a1 a6 r10 m11) fun r14 m15 =>
            if a3 < r14 then
              fX1_roam_54 k28 n a0 a1 a3 a4 a5 a6 (a7 + (1 : Int32)) m15
            else
              zgd (zib a6 25) (
              zgd (zib r10 25) (
              zgd (zib a4 25) (
              fX1_roam_54 k28 n a0 a1 a3 (a4 + (1 : Int32)) a5 a6 (a7 + (1 : Int32)) (zst (zst m15 (a0 + 1) (r10).toNatClampNeg ((m15 (a0 + 1) (a6).toNatClampNeg) + (1 : Int32))) (a0 + 2) (a4).toNatClampNeg r10))))
        else
          fX1_roam_54 k28 n a0 a1 a3 a4 a5 a6 (a7 + (1 : Int32)) m11)
set_option maxRecDepth 100000 in
theorem lX1_roam_54 {g : zG} {κ : zK} (X : zC g κ RX1 cX1_roam 9 2) {Q : Unit → zMem → Prop} (hret : ∀ pc lv μ', decode cX1_roam pc = .ok (.return_, 1) → Q () μ' → zV g κ pc lv [] μ') {k28 : Nat → Nat → Int32 → Int32 → Int32 → zMem → Option (Unit × zMem)} (hk28 : ∀ (a0 : Nat) (a1 : Nat) (a3 : Int32) (a4 : Int32) (a5 : Int32) (μ : zMem) (_ : zkd a0 = 1) (_ : zkd a1 = 0), zok (k28 a0 a1 a3 a4 a5 μ) Q → zV g κ 28 [(0, .ref (zad g a0)), (1, .ref (zad g a1)), (3, .int a3), (4, .int a4), (5, .int a5)] [] μ) : ∀ (n : Nat) (a0 : Nat) (a1 : Nat) (a3 : Int32) (a4 : Int32) (a5 : Int32) (a6 : Int32) (a7 : Int32) (μ : zMem) (ha0 : zkd a0 = 1) (ha1 : zkd a1 = 0), zok (fX1_roam_54 k28 n a0 a1 a3 a4 a5 a6 a7 μ) Q → zV g κ 54 [(0, .ref (zad g a0)), (1, .ref (zad g a1)), (3, .int a3), (4, .int a4), (5, .int a5), (6, .int a6), (7, .int a7)] [] μ := by
  intro n
  induction n with
  | zero =>
    intro a0 a1 a3 a4 a5 a6 a7 μ ha0 ha1 h
    exact h.elim
  | succ n ih =>
    intro a0 a1 a3 a4 a5 a6 a7 μ ha0 ha1 h
    rw [fX1_roam_54] at h
    refine zi_iload (pc' := 56) X dX1_roam_54 rfl 6 rfl ?_
    refine zi_iconst (pc' := 57) (v := (4 : Int32)) X dX1_roam_56 rfl rfl ?_
    refine zi_icmp_ge (pc' := 60) (tgt := 139) X dX1_roam_57 rfl rfl (fun c => ?_) (fun c => ?_)
    · replace h := zok_t h c
      refine zi_iinc (pc' := 142) (v := (a5 + (1 : Int32))) X dX1_roam_139 rfl 4 rfl rfl (by decide) [(5, .int (a5 + (1 : Int32))), (0, .ref (zad g a0)), (1, .ref (zad g a1)), (3, .int a3), (4, .int a4), (6, .int a6), (7, .int a7)] rfl ?_
      refine zi_goto (pc' := 28) X dX1_roam_142 rfl ?_
      exact zi_sub X [1, 2, 3, 4, 0] _ rfl (hk28 a0 a1 a3 a4 (a5 + (1 : Int32)) (μ) ha0 ha1 h)
    · replace h := zok_f h c
      refine zi_iload (pc' := 62) X dX1_roam_60 rfl 5 rfl ?_
      refine zi_iload (pc' := 64) X dX1_roam_62 rfl 6 rfl ?_
      refine zi_callSi (pc' := 67) X zl_X1_35 [.int a6, .int a7] rfl rfl (by decide) (Nat.le_of_ble_eq_true rfl) dX1_roam_64 rfl (tX5_neighbour _ (zok_bd h (fun r10 m11 h => ?_)))
      refine zi_istore (pc' := 69) X dX1_roam_67 rfl (by decide) [(8, .int r10), (0, .ref (zad g a0)), (1, .ref (zad g a1)), (3, .int a3), (4, .int a4), (5, .int a5), (6, .int a6), (7, .int a7)] rfl ?_
      refine zi_iload (pc' := 71) X dX1_roam_69 rfl 0 rfl ?_
      refine zi_iconst (pc' := 72) (v := (-1 : Int32)) X dX1_roam_71 rfl rfl ?_
      refine zi_icmp_eq (pc' := 75) (tgt := 133) X dX1_roam_72 rfl rfl (fun c => ?_) (fun c => ?_)
      · replace h := zok_t h c
        refine zi_iinc (pc' := 136) (v := (a7 + (1 : Int32))) X dX1_roam_133 rfl 7 rfl rfl (by decide) [(7, .int (a7 + (1 : Int32))), (8, .int r10), (0, .ref (zad g a0)), (1, .ref (zad g a1)), (3, .int a3), (4, .int a4), (5, .int a5), (6, .int a6)] rfl ?_
        refine zi_goto (pc' := 54) X dX1_roam_136 rfl ?_
        exact zi_sub X [2, 3, 4, 5, 6, 7, 0] _ rfl (ih a0 a1 a3 a4 a5 a6 (a7 + (1 : Int32)) (m11) ha0 ha1 h)
      · replace h := zok_f h c
        refine zi_aload_n (pc' := 76) X dX1_roam_75 rfl rfl 1 rfl ?_
        refine zi_getr (pc' := 79) X zf_X1_9 rfl (by decide) ha0 dX1_roam_76 rfl ?_
        have f12 := zr_1_0 ha0
        refine zi_iload (pc' := 81) X dX1_roam_79 rfl 0 rfl ?_
        obtain ⟨g13, h⟩ := zok_g h
        refine zi_iald (pc' := 82) X f12.1 (by rw [f12.2]; exact g13) dX1_roam_81 rfl ?_
        refine zi_iconst (pc' := 83) (v := (-1 : Int32)) X dX1_roam_82 rfl rfl ?_
        refine zi_icmp_ne (pc' := 86) (tgt := 133) X dX1_roam_83 rfl rfl (fun c => ?_) (fun c => ?_)
        · replace h := zok_f h c
          refine zi_iinc (pc' := 136) (v := (a7 + (1 : Int32))) X dX1_roam_133 rfl 7 rfl rfl (by decide) [(7, .int (a7 + (1 : Int32))), (8, .int r10), (0, .ref (zad g a0)), (1, .ref (zad g a1)), (3, .int a3), (4, .int a4), (5, .int a5), (6, .int a6)] rfl ?_
          refine zi_goto (pc' := 54) X dX1_roam_136 rfl ?_
          exact zi_sub X [2, 3, 4, 5, 6, 7, 0] _ rfl (ih a0 a1 a3 a4 a5 a6 (a7 + (1 : Int32)) (m11) ha0 ha1 h)
        · replace h := zok_t h c
          refine zi_iload (pc' := 88) X dX1_roam_86 rfl 4 rfl ?_
          refine zi_bipush (pc' := 90) (v := (25 : Int32)) X dX1_roam_88 rfl rfl ?_
          refine zi_icmp_ge (pc' := 93) (tgt := 133) X dX1_roam_90 rfl rfl (fun c => ?_) (fun c => ?_)
          · replace h := zok_t h c
            refine zi_iinc (pc' := 136) (v := (a7 + (1 : Int32))) X dX1_roam_133 rfl 7 rfl rfl (by decide) [(7, .int (a7 + (1 : Int32))), (8, .int r10), (0, .ref (zad g a0)), (1, .ref (zad g a1)), (3, .int a3), (4, .int a4), (5, .int a5), (6, .int a6)] rfl ?_
            refine zi_goto (pc' := 54) X dX1_roam_136 rfl ?_
            exact zi_sub X [2, 3, 4, 5, 6, 7, 0] _ rfl (ih a0 a1 a3 a4 a5 a6 (a7 + (1 : Int32)) (m11) ha0 ha1 h)
          · replace h := zok_f h c
            refine zi_aload_n (pc' := 94) X dX1_roam_93 rfl rfl 2 rfl ?_
            refine zi_iload (pc' := 96) X dX1_roam_94 rfl 6 rfl ?_
            refine zi_iload (pc' := 98) X dX1_roam_96 rfl 0 rfl ?_
            refine zi_callVi (pc' := 101) X zl_X1_39 ha1 (by decide) [.int a6, .int r10] rfl rfl (by decide) (Nat.le_of_ble_eq_true rfl) dX1_roam_98 rfl (tX0_climbBetween _ ha1 (zok_bd h (fun r14 m15 h => ?_)))
            refine zi_iload_n (pc' := 102) X dX1_roam_101 rfl rfl 3 rfl ?_
            refine zi_icmp_gt (pc' := 105) (tgt := 133) X dX1_roam_102 rfl rfl (fun c => ?_) (fun c => ?_)
            · replace h := zok_t h c
              refine zi_iinc (pc' := 136) (v := (a7 + (1 : Int32))) X dX1_roam_133 rfl 7 rfl rfl (by decide) [(7, .int (a7 + (1 : Int32))), (8, .int r10), (0, .ref (zad g a0)), (1, .ref (zad g a1)), (3, .int a3), (4, .int a4), (5, .int a5), (6, .int a6)] rfl ?_
              refine zi_goto (pc' := 54) X dX1_roam_136 rfl ?_
              exact zi_sub X [2, 3, 4, 5, 6, 7, 0] _ rfl (ih a0 a1 a3 a4 a5 a6 (a7 + (1 : Int32)) (m15) ha0 ha1 h)
            · replace h := zok_f h c
              refine zi_aload_n (pc' := 106) X dX1_roam_105 rfl rfl 1 rfl ?_
              refine zi_getr (pc' := 109) X zf_X1_9 rfl (by decide) ha0 dX1_roam_106 rfl ?_
              have f16 := zr_1_0 ha0
              refine zi_iload (pc' := 111) X dX1_roam_109 rfl 0 rfl ?_
              refine zi_aload_n (pc' := 112) X dX1_roam_111 rfl rfl 1 rfl ?_
              refine zi_getr (pc' := 115) X zf_X1_9 rfl (by decide) ha0 dX1_roam_112 rfl ?_
              have f17 := zr_1_0 ha0
              refine zi_iload (pc' := 117) X dX1_roam_115 rfl 6 rfl ?_
              obtain ⟨g18, h⟩ := zok_g h
              refine zi_iald (pc' := 118) X f17.1 (by rw [f17.2]; exact g18) dX1_roam_117 rfl ?_
              refine zi_iconst (pc' := 119) (v := (1 : Int32)) X dX1_roam_118 rfl rfl ?_
              refine zi_iadd (pc' := 120) X dX1_roam_119 rfl ?_
              obtain ⟨g19, h⟩ := zok_g h
              refine zi_iast (pc' := 121) X f16.1 (by rw [f16.2]; exact g19) dX1_roam_120 rfl ?_
              refine zi_aload_n (pc' := 122) X dX1_roam_121 rfl rfl 1 rfl ?_
              refine zi_getr (pc' := 125) X zf_X1_15 rfl (by decide) ha0 dX1_roam_122 rfl ?_
              have f20 := zr_1_1 ha0
              refine zi_iload (pc' := 127) X dX1_roam_125 rfl 4 rfl ?_
              refine zi_iload (pc' := 129) X dX1_roam_127 rfl 0 rfl ?_
              obtain ⟨g21, h⟩ := zok_g h
              refine zi_iast (pc' := 130) X f20.1 (by rw [f20.2]; exact g21) dX1_roam_129 rfl ?_
              refine zi_iinc (pc' := 133) (v := (a4 + (1 : Int32))) X dX1_roam_130 rfl 4 rfl rfl (by decide) [(4, .int (a4 + (1 : Int32))), (8, .int r10), (0, .ref (zad g a0)), (1, .ref (zad g a1)), (3, .int a3), (5, .int a5), (6, .int a6), (7, .int a7)] rfl ?_
              refine zi_iinc (pc' := 136) (v := (a7 + (1 : Int32))) X dX1_roam_133 rfl 7 rfl rfl (by decide) [(7, .int (a7 + (1 : Int32))), (4, .int (a4 + (1 : Int32))), (8, .int r10), (0, .ref (zad g a0)), (1, .ref (zad g a1)), (3, .int a3), (5, .int a5), (6, .int a6)] rfl ?_
              refine zi_goto (pc' := 54) X dX1_roam_136 rfl ?_
              exact zi_sub X [3, 4, 5, 1, 6, 7, 0] _ rfl (ih a0 a1 a3 (a4 + (1 : Int32)) a5 a6 (a7 + (1 : Int32)) ((zst (zst m15 (a0 + 1) (r10).toNatClampNeg ((m15 (a0 + 1) (a6).toNatClampNeg) + (1 : Int32))) (a0 + 2) (a4).toNatClampNeg r10)) ha0 ha1 h)
def fX1_roam_28 : Nat → Nat → Nat → Int32 → Int32 → Int32 → zMem → Option (Unit × zMem)
  | 0, _, _, _, _, _, _ => none
  | n + 1, a0, a1, a3, a4, a5, μ =>
    if a4 ≤ a5 then
      some ((), μ)
    else
      if (25 : Int32) ≤ a5 then
        some ((), μ)
      else
        zgd (zib a5 25) (
        fX1_roam_54 (fX1_roam_28 n) 200 a0 a1 a3 a4 a5 (μ (a0 + 2) (a5).toNatClampNeg) (0 : Int32) μ)
set_option maxRecDepth 100000 in
theorem lX1_roam_28 {g : zG} {κ : zK} (X : zC g κ RX1 cX1_roam 9 2) {Q : Unit → zMem → Prop} (hret : ∀ pc lv μ', decode cX1_roam pc = .ok (.return_, 1) → Q () μ' → zV g κ pc lv [] μ') : ∀ (n : Nat) (a0 : Nat) (a1 : Nat) (a3 : Int32) (a4 : Int32) (a5 : Int32) (μ : zMem) (ha0 : zkd a0 = 1) (ha1 : zkd a1 = 0), zok (fX1_roam_28 n a0 a1 a3 a4 a5 μ) Q → zV g κ 28 [(0, .ref (zad g a0)), (1, .ref (zad g a1)), (3, .int a3), (4, .int a4), (5, .int a5)] [] μ := by
  intro n
  induction n with
  | zero =>
    intro a0 a1 a3 a4 a5 μ ha0 ha1 h
    exact h.elim
  | succ n ih =>
    intro a0 a1 a3 a4 a5 μ ha0 ha1 h
    rw [fX1_roam_28] at h
    refine zi_iload (pc' := 30) X dX1_roam_28 rfl 4 rfl ?_
    refine zi_iload (pc' := 32) X dX1_roam_30 rfl 3 rfl ?_
    refine zi_icmp_ge (pc' := 35) (tgt := 145) X dX1_roam_32 rfl rfl (fun c => ?_) (fun c => ?_)
    · replace h := zok_t h c
      exact hret _ _ _ dX1_roam_145 h
    · replace h := zok_f h c
      refine zi_iload (pc' := 37) X dX1_roam_35 rfl 4 rfl ?_
      refine zi_bipush (pc' := 39) (v := (25 : Int32)) X dX1_roam_37 rfl rfl ?_
      refine zi_icmp_ge (pc' := 42) (tgt := 145) X dX1_roam_39 rfl rfl (fun c => ?_) (fun c => ?_)
      · replace h := zok_t h c
        exact hret _ _ _ dX1_roam_145 h
      · replace h := zok_f h c
        refine zi_aload_n (pc' := 43) X dX1_roam_42 rfl rfl 0 rfl ?_
        refine zi_getr (pc' := 46) X zf_X1_15 rfl (by decide) ha0 dX1_roam_43 rfl ?_
        have f8 := zr_1_1 ha0
        refine zi_iload (pc' := 48) X dX1_roam_46 rfl 4 rfl ?_
        obtain ⟨g9, h⟩ := zok_g h
        refine zi_iald (pc' := 49) X f8.1 (by rw [f8.2]; exact g9) dX1_roam_48 rfl ?_
        refine zi_istore (pc' := 51) X dX1_roam_49 rfl (by decide) [(6, .int (μ (a0 + 2) (a5).toNatClampNeg)), (0, .ref (zad g a0)), (1, .ref (zad g a1)), (3, .int a3), (4, .int a4), (5, .int a5)] rfl ?_
        refine zi_iconst (pc' := 52) (v := (0 : Int32)) X dX1_roam_51 rfl rfl ?_
        refine zi_istore (pc' := 54) X dX1_roam_52 rfl (by decide) [(7, .int (0 : Int32)), (6, .int (μ (a0 + 2) (a5).toNatClampNeg)), (0, .ref (zad g a0)), (1, .ref (zad g a1)), (3, .int a3), (4, .int a4), (5, .int a5)] rfl ?_
        exact zi_sub X [2, 3, 4, 5, 6, 1, 0] _ rfl (lX1_roam_54 X hret ih 200 a0 a1 a3 a4 a5 (μ (a0 + 2) (a5).toNatClampNeg) (0 : Int32) (μ) ha0 ha1 h)
def fX1_roam (a0 : Nat) (a1 : Nat) (a2 : Int32) (a3 : Int32) (μ : zMem) : Option (Unit × zMem) :=
  zbd (fJ7_fill_53178 (a0 + 1) (-1 : Int32) μ) fun _ m3 =>
  zgd (zib a2 25) (
  zgd (zib (0 : Int32) 25) (
  fX1_roam_28 200 a0 a1 a3 (1 : Int32) (0 : Int32) (zst (zst m3 (a0 + 1) (a2).toNatClampNeg (0 : Int32)) (a0 + 2) ((0 : Int32)).toNatClampNeg a2)))
set_option maxRecDepth 100000 in
set_option maxHeartbeats 4000000 in
theorem tX1_roam (g : zG) {a0 : Nat} {a1 : Nat} {a2 : Int32} {a3 : Int32} {μ : zMem} {Q : Unit → zMem → Prop} (ha0 : zkd a0 = 1) (ha1 : zkd a1 = 0) (h : zok (fX1_roam a0 a1 a2 a3 μ) Q) : zTv g yX1_roam cX1_roam 9 2 [.ref (zad g a0), .ref (zad g a1), .int a2, .int a3] μ Q := by
  refine zTv_of RX1 (by decide) rfl (Nat.le_of_ble_eq_true rfl) ?_
  intro κ X hret
  unfold fX1_roam at h
  refine zi_aload_n (pc' := 1) X dX1_roam_0 rfl rfl 0 rfl ?_
  refine zi_getr (pc' := 4) X zf_X1_9 rfl (by decide) ha0 dX1_roam_1 rfl ?_
  have f1 := zr_1_0 ha0
  refine zi_iconst (pc' := 5) (v := (-1 : Int32)) X dX1_roam_4 rfl rfl ?_
  refine zi_callSv (pc' := 8) X zl_X1_29 [.ref (zad g (a0 + 1)), .int (-1 : Int32)] rfl rfl (by decide) (Nat.le_of_ble_eq_true rfl) dX1_roam_5 rfl (tJ7_fill_53178 _ f1.1 (zok_bd h (fun _ m3 h => ?_)))
  refine zi_aload_n (pc' := 9) X dX1_roam_8 rfl rfl 0 rfl ?_
  refine zi_getr (pc' := 12) X zf_X1_9 rfl (by decide) ha0 dX1_roam_9 rfl ?_
  have f4 := zr_1_0 ha0
  refine zi_iload_n (pc' := 13) X dX1_roam_12 rfl rfl 2 rfl ?_
  refine zi_iconst (pc' := 14) (v := (0 : Int32)) X dX1_roam_13 rfl rfl ?_
  obtain ⟨g5, h⟩ := zok_g h
  refine zi_iast (pc' := 15) X f4.1 (by rw [f4.2]; exact g5) dX1_roam_14 rfl ?_
  refine zi_aload_n (pc' := 16) X dX1_roam_15 rfl rfl 0 rfl ?_
  refine zi_getr (pc' := 19) X zf_X1_15 rfl (by decide) ha0 dX1_roam_16 rfl ?_
  have f6 := zr_1_1 ha0
  refine zi_iconst (pc' := 20) (v := (0 : Int32)) X dX1_roam_19 rfl rfl ?_
  refine zi_iload_n (pc' := 21) X dX1_roam_20 rfl rfl 2 rfl ?_
  obtain ⟨g7, h⟩ := zok_g h
  refine zi_iast (pc' := 22) X f6.1 (by rw [f6.2]; exact g7) dX1_roam_21 rfl ?_
  refine zi_iconst (pc' := 23) (v := (1 : Int32)) X dX1_roam_22 rfl rfl ?_
  refine zi_istore (pc' := 25) X dX1_roam_23 rfl (by decide) [(4, .int (1 : Int32)), (0, .ref (zad g a0)), (1, .ref (zad g a1)), (2, .int a2), (3, .int a3)] rfl ?_
  refine zi_iconst (pc' := 26) (v := (0 : Int32)) X dX1_roam_25 rfl rfl ?_
  refine zi_istore (pc' := 28) X dX1_roam_26 rfl (by decide) [(5, .int (0 : Int32)), (4, .int (1 : Int32)), (0, .ref (zad g a0)), (1, .ref (zad g a1)), (2, .int a2), (3, .int a3)] rfl ?_
  exact zi_sub X [2, 3, 5, 1, 0] _ rfl (lX1_roam_28 X hret 200 a0 a1 a3 (1 : Int32) (0 : Int32) ((zst (zst m3 (a0 + 1) (a2).toNatClampNeg (0 : Int32)) (a0 + 2) ((0 : Int32)).toNatClampNeg a2)) ha0 ha1 h)
def fX1_stepsBetween (a0 : Nat) (a1 : Nat) (a2 : Int32) (a3 : Int32) (a4 : Int32) (μ : zMem) : Option (Int32 × zMem) :=
  zbd (fX1_roam a0 a1 a2 a4 μ) fun _ m2 =>
  zgd (zib a3 25) (
  some ((m2 (a0 + 1) (a3).toNatClampNeg), m2))
set_option maxRecDepth 100000 in
set_option maxHeartbeats 4000000 in
theorem tX1_stepsBetween (g : zG) {a0 : Nat} {a1 : Nat} {a2 : Int32} {a3 : Int32} {a4 : Int32} {μ : zMem} {Q : Int32 → zMem → Prop} (ha0 : zkd a0 = 1) (ha1 : zkd a1 = 0) (h : zok (fX1_stepsBetween a0 a1 a2 a3 a4 μ) Q) : zTi g yX1_stepsBetween cX1_stepsBetween 5 .int 3 [.ref (zad g a0), .ref (zad g a1), .int a2, .int a3, .int a4] μ Q := by
  refine zTi_of (P := fun r => True) zpi RX1 (by decide) rfl (Nat.le_of_ble_eq_true rfl) ?_
  intro κ X hret
  unfold fX1_stepsBetween at h
  refine zi_aload_n (pc' := 1) X dX1_stepsBetween_0 rfl rfl 0 rfl ?_
  refine zi_aload_n (pc' := 2) X dX1_stepsBetween_1 rfl rfl 1 rfl ?_
  refine zi_iload_n (pc' := 3) X dX1_stepsBetween_2 rfl rfl 2 rfl ?_
  refine zi_iload (pc' := 5) X dX1_stepsBetween_3 rfl 4 rfl ?_
  refine zi_callVv (pc' := 8) X zl_X1_25 ha0 (by decide) [.ref (zad g a1), .int a2, .int a4] rfl rfl (by decide) (Nat.le_of_ble_eq_true rfl) dX1_stepsBetween_5 rfl (tX1_roam _ ha0 ha1 (zok_bd h (fun _ m2 h => ?_)))
  refine zi_aload_n (pc' := 9) X dX1_stepsBetween_8 rfl rfl 0 rfl ?_
  refine zi_getr (pc' := 12) X zf_X1_9 rfl (by decide) ha0 dX1_stepsBetween_9 rfl ?_
  have f3 := zr_1_0 ha0
  refine zi_iload_n (pc' := 13) X dX1_stepsBetween_12 rfl rfl 3 rfl ?_
  obtain ⟨g4, h⟩ := zok_g h
  refine zi_iald (pc' := 14) X f3.1 (by rw [f3.2]; exact g4) dX1_stepsBetween_13 rfl ?_
  exact hret _ _ _ _ dX1_stepsBetween_14 trivial h
def fX3_append (a0 : Nat) (a1 : Int32) (μ : zMem) : Option (Unit × zMem) :=
  if (120 : Int32) ≤ (μ a0 1) then
    some ((), μ)
  else
    zgd (zib (μ a0 1) 120) (
    some ((), (zst (zst μ (a0 + 1) ((μ a0 1)).toNatClampNeg a1) a0 1 (((zst μ (a0 + 1) ((μ a0 1)).toNatClampNeg a1) a0 1) + (1 : Int32)))))
set_option maxRecDepth 100000 in
set_option maxHeartbeats 4000000 in
theorem tX3_append (g : zG) {a0 : Nat} {a1 : Int32} {μ : zMem} {Q : Unit → zMem → Prop} (ha0 : zkd a0 = 3) (h : zok (fX3_append a0 a1 μ) Q) : zTv g yX3_append cX3_append 2 0 [.ref (zad g a0), .int a1] μ Q := by
  refine zTv_of RX3 (by decide) rfl (Nat.le_of_ble_eq_true rfl) ?_
  intro κ X hret
  unfold fX3_append at h
  refine zi_aload_n (pc' := 1) X dX3_append_0 rfl rfl 0 rfl ?_
  refine zi_geti (pc' := 4) X zf_X3_15 rfl (by decide) ha0 dX3_append_1 rfl ?_
  refine zi_bipush (pc' := 6) (v := (120 : Int32)) X dX3_append_4 rfl rfl ?_
  refine zi_icmp_ge (pc' := 9) (tgt := 29) X dX3_append_6 rfl rfl (fun c => ?_) (fun c => ?_)
  · replace h := zok_t h c
    exact hret _ _ _ dX3_append_29 h
  · replace h := zok_f h c
    refine zi_aload_n (pc' := 10) X dX3_append_9 rfl rfl 0 rfl ?_
    refine zi_getr (pc' := 13) X zf_X3_9 rfl (by decide) ha0 dX3_append_10 rfl ?_
    have f1 := zr_3_0 ha0
    refine zi_aload_n (pc' := 14) X dX3_append_13 rfl rfl 0 rfl ?_
    refine zi_geti (pc' := 17) X zf_X3_15 rfl (by decide) ha0 dX3_append_14 rfl ?_
    refine zi_iload_n (pc' := 18) X dX3_append_17 rfl rfl 1 rfl ?_
    obtain ⟨g2, h⟩ := zok_g h
    refine zi_iast (pc' := 19) X f1.1 (by rw [f1.2]; exact g2) dX3_append_18 rfl ?_
    refine zi_aload_n (pc' := 20) X dX3_append_19 rfl rfl 0 rfl ?_
    refine zi_dup (pc' := 21) X dX3_append_20 rfl rfl ?_
    refine zi_geti (pc' := 24) X zf_X3_15 rfl (by decide) ha0 dX3_append_21 rfl ?_
    refine zi_iconst (pc' := 25) (v := (1 : Int32)) X dX3_append_24 rfl rfl ?_
    refine zi_iadd (pc' := 26) X dX3_append_25 rfl ?_
    refine zi_put (pc' := 29) X zf_X3_15 zw_3_1 rfl (by decide) ha0 rfl rfl dX3_append_26 rfl ?_
    exact hret _ _ _ dX3_append_29 h
def fX3_nameOf (a0 : Int32) (μ : zMem) : Option (Nat × zMem) :=
  if a0 = (1 : Int32) then
    some (0, μ)
  else
    if a0 = (2 : Int32) then
      some (1, μ)
    else
      if a0 = (3 : Int32) then
        some (2, μ)
      else
        if a0 = (4 : Int32) then
          some (3, μ)
        else
          if a0 = (5 : Int32) then
            some (4, μ)
          else
            if a0 = (6 : Int32) then
              some (5, μ)
            else
              some (6, μ)
set_option maxRecDepth 100000 in
set_option maxHeartbeats 4000000 in
theorem tX3_nameOf (g : zG) {a0 : Int32} {μ : zMem} {Q : Nat → zMem → Prop} (h : zok (fX3_nameOf a0 μ) Q) : zTs g yX3_nameOf cX3_nameOf 1 (.object "java/lang/String") 0 [.int a0] μ Q := by
  refine zTs_of ⟨_, rfl⟩ RX3 (by decide) rfl (Nat.le_of_ble_eq_true rfl) ?_
  intro κ X hret
  unfold fX3_nameOf at h
  refine zi_iload_n (pc' := 1) X dX3_nameOf_0 rfl rfl 0 rfl ?_
  by_cases c1 : a0 = (1 : Int32)
  · replace h := zok_t h c1
    refine zi_tabIn (pc' := 40) X c1 dX3_nameOf_1 ⟨by decide, rfl, rfl⟩ ?_
    refine zi_ldcS (pc' := 42) X 0 (by decide) rfl rfl dX3_nameOf_40 rfl ?_
    exact hret _ _ _ _ dX3_nameOf_42 h
  · replace h := zok_f h c1
    by_cases c2 : a0 = (2 : Int32)
    · replace h := zok_t h c2
      refine zi_tabIn (pc' := 43) X c2 dX3_nameOf_1 ⟨by decide, rfl, rfl⟩ ?_
      refine zi_ldcS (pc' := 45) X 1 (by decide) rfl rfl dX3_nameOf_43 rfl ?_
      exact hret _ _ _ _ dX3_nameOf_45 h
    · replace h := zok_f h c2
      by_cases c3 : a0 = (3 : Int32)
      · replace h := zok_t h c3
        refine zi_tabIn (pc' := 46) X c3 dX3_nameOf_1 ⟨by decide, rfl, rfl⟩ ?_
        refine zi_ldcS (pc' := 48) X 2 (by decide) rfl rfl dX3_nameOf_46 rfl ?_
        exact hret _ _ _ _ dX3_nameOf_48 h
      · replace h := zok_f h c3
        by_cases c4 : a0 = (4 : Int32)
        · replace h := zok_t h c4
          refine zi_tabIn (pc' := 49) X c4 dX3_nameOf_1 ⟨by decide, rfl, rfl⟩ ?_
          refine zi_ldcS (pc' := 51) X 3 (by decide) rfl rfl dX3_nameOf_49 rfl ?_
          exact hret _ _ _ _ dX3_nameOf_51 h
        · replace h := zok_f h c4
          by_cases c5 : a0 = (5 : Int32)
          · replace h := zok_t h c5
            refine zi_tabIn (pc' := 52) X c5 dX3_nameOf_1 ⟨by decide, rfl, rfl⟩ ?_
            refine zi_ldcS (pc' := 54) X 4 (by decide) rfl rfl dX3_nameOf_52 rfl ?_
            exact hret _ _ _ _ dX3_nameOf_54 h
          · replace h := zok_f h c5
            by_cases c6 : a0 = (6 : Int32)
            · replace h := zok_t h c6
              refine zi_tabIn (pc' := 55) X c6 dX3_nameOf_1 ⟨by decide, rfl, rfl⟩ ?_
              refine zi_ldcS (pc' := 57) X 5 (by decide) rfl rfl dX3_nameOf_55 rfl ?_
              exact hret _ _ _ _ dX3_nameOf_57 h
            · replace h := zok_f h c6
              have e0 := zne (1) rfl c1
              have e1 := zne (2) rfl c2
              have e2 := zne (3) rfl c3
              have e3 := zne (4) rfl c4
              have e4 := zne (5) rfl c5
              have e5 := zne (6) rfl c6
              refine zi_tabOut (pc' := 58) X (by omega) dX3_nameOf_1 rfl ?_
              refine zi_ldcS (pc' := 60) X 6 (by decide) rfl rfl dX3_nameOf_58 rfl ?_
              exact hret _ _ _ _ dX3_nameOf_60 h
