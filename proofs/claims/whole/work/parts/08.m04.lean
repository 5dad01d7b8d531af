def fX5_seed (a0 : Nat) (a1 : Int32) (μ : zMem) : Option (Int32 × zMem) :=
  some ((μ (a0 + 1) 6), (zst μ (a0 + 1) 6 a1))
set_option maxRecDepth 100000 in
set_option maxHeartbeats 4000000 in
theorem tX5_seed (g : zG) {a0 : Nat} {a1 : Int32} {μ : zMem} {Q : Int32 → zMem → Prop} (ha0 : zkd a0 = 5) (h : zok (fX5_seed a0 a1 μ) Q) : zTi g yX5_seed cX5_seed 3 .int 0 [.ref (zad g a0), .int a1] μ Q := by
  refine zTi_of (P := fun r => True) zpi RX5 (by decide) rfl (Nat.le_of_ble_eq_true rfl) ?_
  intro κ X hret
  unfold fX5_seed at h
  refine zi_aload_n (pc' := 1) X dX5_seed_0 rfl rfl 0 rfl ?_
  refine zi_getr (pc' := 4) X zf_X5_10 rfl (by decide) ha0 dX5_seed_1 rfl ?_
  have f1 := zr_5_0 ha0
  refine zi_geti (pc' := 7) X zf_X5_230 rfl (by decide) f1 dX5_seed_4 rfl ?_
  refine zi_istore_n (pc' := 8) X dX5_seed_7 rfl rfl (by decide) [(2, .int (μ (a0 + 1) 6)), (0, .ref (zad g a0)), (1, .int a1)] rfl ?_
  refine zi_aload_n (pc' := 9) X dX5_seed_8 rfl rfl 1 rfl ?_
  refine zi_getr (pc' := 12) X zf_X5_10 rfl (by decide) ha0 dX5_seed_9 rfl ?_
  have f2 := zr_5_0 ha0
  refine zi_iload_n (pc' := 13) X dX5_seed_12 rfl rfl 2 rfl ?_
  refine zi_put (pc' := 16) X zf_X5_230 zw_0_6 rfl (by decide) f2 rfl rfl dX5_seed_13 rfl ?_
  refine zi_iload_n (pc' := 17) X dX5_seed_16 rfl rfl 0 rfl ?_
  exact hret _ _ _ _ dX5_seed_17 trivial h
def fX5_tear (a0 : Nat) (μ : zMem) : Option (Int32 × zMem) :=
  if (μ a0 8) = 0 then
    some ((0 : Int32), (zst μ a0 8 (0 : Int32)))
  else
    some ((1 : Int32), (zst μ a0 8 (0 : Int32)))
set_option maxRecDepth 100000 in
set_option maxHeartbeats 4000000 in
theorem tX5_tear (g : zG) {a0 : Nat} {μ : zMem} {Q : Int32 → zMem → Prop} (ha0 : zkd a0 = 5) (h : zok (fX5_tear a0 μ) Q) : zTi g yX5_tear cX5_tear 2 .int 0 [.ref (zad g a0)] μ Q := by
  refine zTi_of (P := fun r => True) zpi RX5 (by decide) rfl (Nat.le_of_ble_eq_true rfl) ?_
  intro κ X hret
  unfold fX5_tear at h
  refine zi_aload_n (pc' := 1) X dX5_tear_0 rfl rfl 0 rfl ?_
  refine zi_geti (pc' := 4) X zf_X5_49 rfl (by decide) ha0 dX5_tear_1 rfl ?_
  refine zi_if_eq (pc' := 7) (tgt := 11) X dX5_tear_4 rfl rfl (fun c => ?_) (fun c => ?_)
  · replace h := zok_t h c
    refine zi_iconst (pc' := 12) (v := (0 : Int32)) X dX5_tear_11 rfl rfl ?_
    refine zi_istore_n (pc' := 13) X dX5_tear_12 rfl rfl (by decide) [(1, .int (0 : Int32)), (0, .ref (zad g a0))] rfl ?_
    refine zi_aload_n (pc' := 14) X dX5_tear_13 rfl rfl 1 rfl ?_
    refine zi_iconst (pc' := 15) (v := (0 : Int32)) X dX5_tear_14 rfl rfl ?_
    refine zi_put (pc' := 18) X zf_X5_49 zw_5_8 rfl (by decide) ha0 (zpb _ (by decide)) (zpf (by decide)) dX5_tear_15 rfl ?_
    refine zi_iload_n (pc' := 19) X dX5_tear_18 rfl rfl 0 rfl ?_
    exact hret _ _ _ _ dX5_tear_19 trivial h
  · replace h := zok_f h c
    refine zi_iconst (pc' := 8) (v := (1 : Int32)) X dX5_tear_7 rfl rfl ?_
    refine zi_goto (pc' := 12) X dX5_tear_8 rfl ?_
    refine zi_istore_n (pc' := 13) X dX5_tear_12 rfl rfl (by decide) [(1, .int (1 : Int32)), (0, .ref (zad g a0))] rfl ?_
    refine zi_aload_n (pc' := 14) X dX5_tear_13 rfl rfl 1 rfl ?_
    refine zi_iconst (pc' := 15) (v := (0 : Int32)) X dX5_tear_14 rfl rfl ?_
    refine zi_put (pc' := 18) X zf_X5_49 zw_5_8 rfl (by decide) ha0 (zpb _ (by decide)) (zpf (by decide)) dX5_tear_15 rfl ?_
    refine zi_iload_n (pc' := 19) X dX5_tear_18 rfl rfl 0 rfl ?_
    exact hret _ _ _ _ dX5_tear_19 trivial h
def fX5_wipe (a0 : Nat) (μ : zMem) : Option (Int32 × zMem) :=
  some ((μ (a0 + 53) 1), (zst μ (a0 + 53) 1 (0 : Int32)))
set_option maxRecDepth 100000 in
set_option maxHeartbeats 4000000 in
theorem tX5_wipe (g : zG) {a0 : Nat} {μ : zMem} {Q : Int32 → zMem → Prop} (ha0 : zkd a0 = 5) (h : zok (fX5_wipe a0 μ) Q) : zTi g yX5_wipe cX5_wipe 2 .int 0 [.ref (zad g a0)] μ Q := by
  refine zTi_of (P := fun r => True) zpi RX5 (by decide) rfl (Nat.le_of_ble_eq_true rfl) ?_
  intro κ X hret
  unfold fX5_wipe at h
  refine zi_aload_n (pc' := 1) X dX5_wipe_0 rfl rfl 0 rfl ?_
  refine zi_getr (pc' := 4) X zf_X5_32 rfl (by decide) ha0 dX5_wipe_1 rfl ?_
  have f1 := zr_5_4 ha0
  refine zi_geti (pc' := 7) X zf_X5_233 rfl (by decide) f1 dX5_wipe_4 rfl ?_
  refine zi_istore_n (pc' := 8) X dX5_wipe_7 rfl rfl (by decide) [(1, .int (μ (a0 + 53) 1)), (0, .ref (zad g a0))] rfl ?_
  refine zi_aload_n (pc' := 9) X dX5_wipe_8 rfl rfl 1 rfl ?_
  refine zi_getr (pc' := 12) X zf_X5_32 rfl (by decide) ha0 dX5_wipe_9 rfl ?_
  have f2 := zr_5_4 ha0
  refine zi_iconst (pc' := 13) (v := (0 : Int32)) X dX5_wipe_12 rfl rfl ?_
  refine zi_put (pc' := 16) X zf_X5_233 zw_3_1 rfl (by decide) f2 rfl rfl dX5_wipe_13 rfl ?_
  refine zi_iload_n (pc' := 17) X dX5_wipe_16 rfl rfl 0 rfl ?_
  exact hret _ _ _ _ dX5_wipe_17 trivial h
def fX5_finding (a0 : Nat) (a1 : Int32) (μ : zMem) : Option (Int32 × zMem) :=
  zbd (fX5_within a1 (0 : Int32) (6 : Int32) μ) fun r1 m2 =>
  if r1 = 0 then
    some (((-1000001 : Int32) - a1), m2)
  else
    zgd (zib a1 7) (
    zgd (zib a1 7) (
    some (((-1000001 : Int32) - a1), (zst m2 (a0 + 56) (a1).toNatClampNeg ((m2 (a0 + 56) (a1).toNatClampNeg) + (1 : Int32))))))
set_option maxRecDepth 100000 in
set_option maxHeartbeats 4000000 in
theorem tX5_finding (g : zG) {a0 : Nat} {a1 : Int32} {μ : zMem} {Q : Int32 → zMem → Prop} (ha0 : zkd a0 = 5) (h : zok (fX5_finding a0 a1 μ) Q) : zTi g yX5_finding cX5_finding 2 .int 1 [.ref (zad g a0), .int a1] μ Q := by
  refine zTi_of (P := fun r => True) zpi RX5 (by decide) rfl (Nat.le_of_ble_eq_true rfl) ?_
  intro κ X hret
  unfold fX5_finding at h
  refine zi_iload_n (pc' := 1) X dX5_finding_0 rfl rfl 1 rfl ?_
  refine zi_iconst (pc' := 2) (v := (0 : Int32)) X dX5_finding_1 rfl rfl ?_
  refine zi_bipush (pc' := 4) (v := (6 : Int32)) X dX5_finding_2 rfl rfl ?_
  refine zi_callSi (pc' := 7) X zl_X5_68 [.int a1, .int (0 : Int32), .int (6 : Int32)] rfl rfl (by decide) (Nat.le_of_ble_eq_true rfl) dX5_finding_4 rfl (tX5_within _ (zok_bd h (fun r1 m2 h => ?_)))
  refine zi_if_eq (pc' := 10) (tgt := 20) X dX5_finding_7 rfl rfl (fun c => ?_) (fun c => ?_)
  · replace h := zok_t h c
    refine zi_ldcw (pc' := 23) X dX5_finding_20 rfl zk_X5_288 ?_
    refine zi_iload_n (pc' := 24) X dX5_finding_23 rfl rfl 1 rfl ?_
    refine zi_isub (pc' := 25) X dX5_finding_24 rfl ?_
    exact hret _ _ _ _ dX5_finding_25 trivial h
  · replace h := zok_f h c
    refine zi_aload_n (pc' := 11) X dX5_finding_10 rfl rfl 0 rfl ?_
    refine zi_getr (pc' := 14) X zf_X5_42 rfl (by decide) ha0 dX5_finding_11 rfl ?_
    have f3 := zr_5_6 ha0
    refine zi_iload_n (pc' := 15) X dX5_finding_14 rfl rfl 1 rfl ?_
    refine zi_dup2 (pc' := 16) X dX5_finding_15 rfl rfl rfl ?_
    obtain ⟨g4, h⟩ := zok_g h
    refine zi_iald (pc' := 17) X f3.1 (by rw [f3.2]; exact g4) dX5_finding_16 rfl ?_
    refine zi_iconst (pc' := 18) (v := (1 : Int32)) X dX5_finding_17 rfl rfl ?_
    refine zi_iadd (pc' := 19) X dX5_finding_18 rfl ?_
    obtain ⟨g5, h⟩ := zok_g h
    refine zi_iast (pc' := 20) X f3.1 (by rw [f3.2]; exact g5) dX5_finding_19 rfl ?_
    refine zi_ldcw (pc' := 23) X dX5_finding_20 rfl zk_X5_288 ?_
    refine zi_iload_n (pc' := 24) X dX5_finding_23 rfl rfl 1 rfl ?_
    refine zi_isub (pc' := 25) X dX5_finding_24 rfl ?_
    exact hret _ _ _ _ dX5_finding_25 trivial h
def fX5_isCell (a0 : Int32) (μ : zMem) : Option (Int32 × zMem) :=
  zbd (fX5_within a0 (0 : Int32) (24 : Int32) μ) fun r1 m2 =>
  zgd (r1 = 0 ∨ r1 = 1) (
  some (r1, m2))
set_option maxRecDepth 100000 in
set_option maxHeartbeats 4000000 in
theorem tX5_isCell (g : zG) {a0 : Int32} {μ : zMem} {Q : Int32 → zMem → Prop} (h : zok (fX5_isCell a0 μ) Q) : zTi g yX5_isCell cX5_isCell 1 .boolean 1 [.int a0] μ Q := by
  refine zTi_of (P := fun r => r = 0 ∨ r = 1) zpb RX5 (by decide) rfl (Nat.le_of_ble_eq_true rfl) ?_
  intro κ X hret
  unfold fX5_isCell at h
  refine zi_iload_n (pc' := 1) X dX5_isCell_0 rfl rfl 0 rfl ?_
  refine zi_iconst (pc' := 2) (v := (0 : Int32)) X dX5_isCell_1 rfl rfl ?_
  refine zi_bipush (pc' := 4) (v := (24 : Int32)) X dX5_isCell_2 rfl rfl ?_
  refine zi_callSi (pc' := 7) X zl_X5_68 [.int a0, .int (0 : Int32), .int (24 : Int32)] rfl rfl (by decide) (Nat.le_of_ble_eq_true rfl) dX5_isCell_4 rfl (tX5_within _ (zok_bd h (fun r1 m2 h => ?_)))
  obtain ⟨g3, h⟩ := zok_g h
  exact hret _ _ _ _ dX5_isCell_7 g3 h
def fX5_isSheet (a0 : Int32) (μ : zMem) : Option (Int32 × zMem) :=
  zbd (fX5_within a0 (0 : Int32) (3 : Int32) μ) fun r1 m2 =>
  zgd (r1 = 0 ∨ r1 = 1) (
  some (r1, m2))
set_option maxRecDepth 100000 in
set_option maxHeartbeats 4000000 in
theorem tX5_isSheet (g : zG) {a0 : Int32} {μ : zMem} {Q : Int32 → zMem → Prop} (h : zok (fX5_isSheet a0 μ) Q) : zTi g yX5_isSheet cX5_isSheet 1 .boolean 1 [.int a0] μ Q := by
  refine zTi_of (P := fun r => r = 0 ∨ r = 1) zpb RX5 (by decide) rfl (Nat.le_of_ble_eq_true rfl) ?_
  intro κ X hret
  unfold fX5_isSheet at h
  refine zi_iload_n (pc' := 1) X dX5_isSheet_0 rfl rfl 0 rfl ?_
  refine zi_iconst (pc' := 2) (v := (0 : Int32)) X dX5_isSheet_1 rfl rfl ?_
  refine zi_iconst (pc' := 3) (v := (3 : Int32)) X dX5_isSheet_2 rfl rfl ?_
  refine zi_callSi (pc' := 6) X zl_X5_68 [.int a0, .int (0 : Int32), .int (3 : Int32)] rfl rfl (by decide) (Nat.le_of_ble_eq_true rfl) dX5_isSheet_3 rfl (tX5_within _ (zok_bd h (fun r1 m2 h => ?_)))
  obtain ⟨g3, h⟩ := zok_g h
  exact hret _ _ _ _ dX5_isSheet_6 g3 h
def fX5_isTent (a0 : Nat) (a1 : Int32) (μ : zMem) : Option (Int32 × zMem) :=
  zbd (fX5_within a1 (0 : Int32) ((μ (a0 + 1) 3) - (1 : Int32)) μ) fun r2 m3 =>
  zgd (r2 = 0 ∨ r2 = 1) (
  some (r2, m3))
set_option maxRecDepth 100000 in
set_option maxHeartbeats 4000000 in
theorem tX5_isTent (g : zG) {a0 : Nat} {a1 : Int32} {μ : zMem} {Q : Int32 → zMem → Prop} (ha0 : zkd a0 = 5) (h : zok (fX5_isTent a0 a1 μ) Q) : zTi g yX5_isTent cX5_isTent 2 .boolean 1 [.ref (zad g a0), .int a1] μ Q := by
  refine zTi_of (P := fun r => r = 0 ∨ r = 1) zpb RX5 (by decide) rfl (Nat.le_of_ble_eq_true rfl) ?_
  intro κ X hret
  unfold fX5_isTent at h
  refine zi_iload_n (pc' := 1) X dX5_isTent_0 rfl rfl 1 rfl ?_
  refine zi_iconst (pc' := 2) (v := (0 : Int32)) X dX5_isTent_1 rfl rfl ?_
  refine zi_aload_n (pc' := 3) X dX5_isTent_2 rfl rfl 0 rfl ?_
  refine zi_getr (pc' := 6) X zf_X5_10 rfl (by decide) ha0 dX5_isTent_3 rfl ?_
  have f1 := zr_5_0 ha0
  refine zi_geti (pc' := 9) X zf_X5_88 rfl (by decide) f1 dX5_isTent_6 rfl ?_
  refine zi_iconst (pc' := 10) (v := (1 : Int32)) X dX5_isTent_9 rfl rfl ?_
  refine zi_isub (pc' := 11) X dX5_isTent_10 rfl ?_
  refine zi_callSi (pc' := 14) X zl_X5_68 [.int a1, .int (0 : Int32), .int ((μ (a0 + 1) 3) - (1 : Int32))] rfl rfl (by decide) (Nat.le_of_ble_eq_true rfl) dX5_isTent_11 rfl (tX5_within _ (zok_bd h (fun r2 m3 h => ?_)))
  obtain ⟨g4, h⟩ := zok_g h
  exact hret _ _ _ _ dX5_isTent_14 g4 h
def fX5_as (a0 : Nat) (a1 : Int32) (a2 : Int32) (μ : zMem) : Option (Int32 × zMem) :=
  zbd (fX5_within a1 (0 : Int32) (9 : Int32) μ) fun r1 m2 =>
  if r1 = 0 then
    zbd (fX5_finding a0 (0 : Int32) m2) fun r3 m4 =>
    some (r3, m4)
  else
    zbd (fX5_isKind a2 m2) fun r5 m6 =>
    if r5 = 0 then
      zbd (fX5_finding a0 (0 : Int32) m6) fun r22 m23 =>
      some (r22, m23)
    else
      zgd (zib a1 10) (
      zbd (fX5_isTent a0 (m6 ((a0 + 1) + 2) (a1).toNatClampNeg) m6) fun r10 m11 =>
      if r10 = 0 then
        zbd (fX5_finding a0 (5 : Int32) m11) fun r20 m21 =>
        some (r20, m21)
      else
        zgd (zib (m6 ((a0 + 1) + 2) (a1).toNatClampNeg) 6) (
        zbd (fX4_isUnder (m11 (((a0 + 1) + 3) + 1 + 2 * ((m6 ((a0 + 1) + 2) (a1).toNatClampNeg)).toNatClampNeg) 0) a2 m11) fun r16 m17 =>
        if r16 = 0 then
          zbd (fX5_finding a0 (2 : Int32) m17) fun r18 m19 =>
          some (r18, m19)
        else
          some ((m6 ((a0 + 1) + 2) (a1).toNatClampNeg), m17)))
set_option maxRecDepth 100000 in
set_option maxHeartbeats 4000000 in
theorem tX5_as (g : zG) {a0 : Nat} {a1 : Int32} {a2 : Int32} {μ : zMem} {Q : Int32 → zMem → Prop} (ha0 : zkd a0 = 5) (h : zok (fX5_as a0 a1 a2 μ) Q) : zTi g yX5_as cX5_as 4 .int 2 [.ref (zad g a0), .int a1, .int a2] μ Q := by
  refine zTi_of (P := fun r => True) zpi RX5 (by decide) rfl (Nat.le_of_ble_eq_true rfl) ?_
  intro κ X hret
  unfold fX5_as at h
  refine zi_iload_n (pc' := 1) X dX5_as_0 rfl rfl 1 rfl ?_
  refine zi_iconst (pc' := 2) (v := (0 : Int32)) X dX5_as_1 rfl rfl ?_
  refine zi_bipush (pc' := 4) (v := (9 : Int32)) X dX5_as_2 rfl rfl ?_
  refine zi_callSi (pc' := 7) X zl_X5_68 [.int a1, .int (0 : Int32), .int (9 : Int32)] rfl rfl (by decide) (Nat.le_of_ble_eq_true rfl) dX5_as_4 rfl (tX5_within _ (zok_bd h (fun r1 m2 h => ?_)))
  refine zi_if_eq (pc' := 10) (tgt := 17) X dX5_as_7 rfl rfl (fun c => ?_) (fun c => ?_)
  · replace h := zok_t h c
    refine zi_aload_n (pc' := 18) X dX5_as_17 rfl rfl 0 rfl ?_
    refine zi_iconst (pc' := 19) (v := (0 : Int32)) X dX5_as_18 rfl rfl ?_
    refine zi_callVi (pc' := 22) X zl_X5_61 ha0 (by decide) [.int (0 : Int32)] rfl rfl (by decide) (Nat.le_of_ble_eq_true rfl) dX5_as_19 rfl (tX5_finding _ ha0 (zok_bd h (fun r3 m4 h => ?_)))
    exact hret _ _ _ _ dX5_as_22 trivial h
  · replace h := zok_f h c
    refine zi_iload_n (pc' := 11) X dX5_as_10 rfl rfl 2 rfl ?_
    refine zi_callSi (pc' := 14) X zl_X5_85 [.int a2] rfl rfl (by decide) (Nat.le_of_ble_eq_true rfl) dX5_as_11 rfl (tX5_isKind _ (zok_bd h (fun r5 m6 h => ?_)))
    refine zi_if_ne (pc' := 17) (tgt := 23) X dX5_as_14 rfl rfl (fun c => ?_) (fun c => ?_)
    · replace h := zok_f h c
      refine zi_aload_n (pc' := 24) X dX5_as_23 rfl rfl 0 rfl ?_
      refine zi_getr (pc' := 27) X zf_X5_10 rfl (by decide) ha0 dX5_as_24 rfl ?_
      have f7 := zr_5_0 ha0
      refine zi_getr (pc' := 30) X zf_X5_243 rfl (by decide) f7 dX5_as_27 rfl ?_
      have f8 := zr_0_1 f7
      refine zi_iload_n (pc' := 31) X dX5_as_30 rfl rfl 1 rfl ?_
      obtain ⟨g9, h⟩ := zok_g h
      refine zi_iald (pc' := 32) X f8.1 (by rw [f8.2]; exact g9) dX5_as_31 rfl ?_
      refine zi_istore_n (pc' := 33) X dX5_as_32 rfl rfl (by decide) [(3, .int (m6 ((a0 + 1) + 2) (a1).toNatClampNeg)), (0, .ref (zad g a0)), (1, .int a1), (2, .int a2)] rfl ?_
      refine zi_aload_n (pc' := 34) X dX5_as_33 rfl rfl 1 rfl ?_
      refine zi_iload_n (pc' := 35) X dX5_as_34 rfl rfl 0 rfl ?_
      refine zi_callVi (pc' := 38) X zl_X5_96 ha0 (by decide) [.int (m6 ((a0 + 1) + 2) (a1).toNatClampNeg)] rfl rfl (by decide) (Nat.le_of_ble_eq_true rfl) dX5_as_35 rfl (tX5_isTent _ ha0 (zok_bd h (fun r10 m11 h => ?_)))
      refine zi_if_ne (pc' := 41) (tgt := 47) X dX5_as_38 rfl rfl (fun c => ?_) (fun c => ?_)
      · replace h := zok_f h c
        refine zi_aload_n (pc' := 48) X dX5_as_47 rfl rfl 1 rfl ?_
        refine zi_getr (pc' := 51) X zf_X5_10 rfl (by decide) ha0 dX5_as_48 rfl ?_
        have f12 := zr_5_0 ha0
        refine zi_getr (pc' := 54) X zf_X5_99 rfl (by decide) f12 dX5_as_51 rfl ?_
        have f13 := zr_0_2 f12
        refine zi_iload_n (pc' := 55) X dX5_as_54 rfl rfl 0 rfl ?_
        obtain ⟨g14, h⟩ := zok_g h
        refine zi_aaldT (pc' := 56) X f13.1 (by rw [f13.2]; exact g14) dX5_as_55 rfl ?_
        have f15 := zr_tent f13 g14
        refine zi_geti (pc' := 59) X zf_X5_197 rfl (by decide) f15 dX5_as_56 rfl ?_
        refine zi_iload_n (pc' := 60) X dX5_as_59 rfl rfl 3 rfl ?_
        refine zi_callSi (pc' := 63) X zl_X5_246 [.int (m11 (((a0 + 1) + 3) + 1 + 2 * ((m6 ((a0 + 1) + 2) (a1).toNatClampNeg)).toNatClampNeg) 0), .int a2] rfl rfl (by decide) (Nat.le_of_ble_eq_true rfl) dX5_as_60 rfl (tX4_isUnder _ (zok_bd h (fun r16 m17 h => ?_)))
        refine zi_if_ne (pc' := 66) (tgt := 72) X dX5_as_63 rfl rfl (fun c => ?_) (fun c => ?_)
        · replace h := zok_f h c
          refine zi_iload_n (pc' := 73) X dX5_as_72 rfl rfl 0 rfl ?_
          exact hret _ _ _ _ dX5_as_73 trivial h
        · replace h := zok_t h c
          refine zi_aload_n (pc' := 67) X dX5_as_66 rfl rfl 1 rfl ?_
          refine zi_iconst (pc' := 68) (v := (2 : Int32)) X dX5_as_67 rfl rfl ?_
          refine zi_callVi (pc' := 71) X zl_X5_61 ha0 (by decide) [.int (2 : Int32)] rfl rfl (by decide) (Nat.le_of_ble_eq_true rfl) dX5_as_68 rfl (tX5_finding _ ha0 (zok_bd h (fun r18 m19 h => ?_)))
          exact hret _ _ _ _ dX5_as_71 trivial h
      · replace h := zok_t h c
        refine zi_aload_n (pc' := 42) X dX5_as_41 rfl rfl 1 rfl ?_
        refine zi_iconst (pc' := 43) (v := (5 : Int32)) X dX5_as_42 rfl rfl ?_
        refine zi_callVi (pc' := 46) X zl_X5_61 ha0 (by decide) [.int (5 : Int32)] rfl rfl (by decide) (Nat.le_of_ble_eq_true rfl) dX5_as_43 rfl (tX5_finding _ ha0 (zok_bd h (fun r20 m21 h => ?_)))
        exact hret _ _ _ _ dX5_as_46 trivial h
    · replace h := zok_t h c
      refine zi_aload_n (pc' := 18) X dX5_as_17 rfl rfl 0 rfl ?_
      refine zi_iconst (pc' := 19) (v := (0 : Int32)) X dX5_as_18 rfl rfl ?_
      refine zi_callVi (pc' := 22) X zl_X5_61 ha0 (by decide) [.int (0 : Int32)] rfl rfl (by decide) (Nat.le_of_ble_eq_true rfl) dX5_as_19 rfl (tX5_finding _ ha0 (zok_bd h (fun r22 m23 h => ?_)))
      exact hret _ _ _ _ dX5_as_22 trivial h
def fX5_beat (a0 : Nat) (a1 : Int32) (μ : zMem) : Option (Int32 × zMem) :=
  zbd (fX5_isTent a0 a1 μ) fun r1 m2 =>
  if r1 = 0 then
    zbd (fX5_finding a0 (0 : Int32) m2) fun r9 m10 =>
    some (r9, m10)
  else
    zgd (zib a1 6) (
    zbd (fX4_forget (((a0 + 1) + 3) + 1 + 2 * (a1).toNatClampNeg) m2) fun r7 m8 =>
    some (r7, m8))
set_option maxRecDepth 100000 in
set_option maxHeartbeats 4000000 in
theorem tX5_beat (g : zG) {a0 : Nat} {a1 : Int32} {μ : zMem} {Q : Int32 → zMem → Prop} (ha0 : zkd a0 = 5) (h : zok (fX5_beat a0 a1 μ) Q) : zTi g yX5_beat cX5_beat 2 .int 2 [.ref (zad g a0), .int a1] μ Q := by
  refine zTi_of (P := fun r => True) zpi RX5 (by decide) rfl (Nat.le_of_ble_eq_true rfl) ?_
  intro κ X hret
  unfold fX5_beat at h
  refine zi_aload_n (pc' := 1) X dX5_beat_0 rfl rfl 0 rfl ?_
  refine zi_iload_n (pc' := 2) X dX5_beat_1 rfl rfl 1 rfl ?_
  refine zi_callVi (pc' := 5) X zl_X5_96 ha0 (by decide) [.int a1] rfl rfl (by decide) (Nat.le_of_ble_eq_true rfl) dX5_beat_2 rfl (tX5_isTent _ ha0 (zok_bd h (fun r1 m2 h => ?_)))
  refine zi_if_ne (pc' := 8) (tgt := 14) X dX5_beat_5 rfl rfl (fun c => ?_) (fun c => ?_)
  · replace h := zok_f h c
    refine zi_aload_n (pc' := 15) X dX5_beat_14 rfl rfl 0 rfl ?_
    refine zi_getr (pc' := 18) X zf_X5_10 rfl (by decide) ha0 dX5_beat_15 rfl ?_
    have f3 := zr_5_0 ha0
    refine zi_getr (pc' := 21) X zf_X5_99 rfl (by decide) f3 dX5_beat_18 rfl ?_
    have f4 := zr_0_2 f3
    refine zi_iload_n (pc' := 22) X dX5_beat_21 rfl rfl 1 rfl ?_
    obtain ⟨g5, h⟩ := zok_g h
    refine zi_aaldT (pc' := 23) X f4.1 (by rw [f4.2]; exact g5) dX5_beat_22 rfl ?_
    have f6 := zr_tent f4 g5
    refine zi_callVi (pc' := 26) X zl_X5_115 f6 (by decide) [] rfl rfl (by decide) (Nat.le_of_ble_eq_true rfl) dX5_beat_23 rfl (tX4_forget _ f6 (zok_bd h (fun r7 m8 h => ?_)))
    exact hret _ _ _ _ dX5_beat_26 trivial h
  · replace h := zok_t h c
    refine zi_aload_n (pc' := 9) X dX5_beat_8 rfl rfl 0 rfl ?_
    refine zi_iconst (pc' := 10) (v := (0 : Int32)) X dX5_beat_9 rfl rfl ?_
    refine zi_callVi (pc' := 13) X zl_X5_61 ha0 (by decide) [.int (0 : Int32)] rfl rfl (by decide) (Nat.le_of_ble_eq_true rfl) dX5_beat_10 rfl (tX5_finding _ ha0 (zok_bd h (fun r9 m10 h => ?_)))
    exact hret _ _ _ _ dX5_beat_13 trivial h
def fX5_copy (a0 : Nat) (a1 : Int32) (a2 : Int32) (a3 : Int32) (a4 : Int32) (a5 : Int32) (μ : zMem) : Option (Int32 × zMem) :=
  zbd (fX5_isSheet a1 μ) fun r1 m2 =>
  if r1 = 0 then
    zbd (fX5_finding a0 (0 : Int32) m2) fun r3 m4 =>
    some (r3, m4)
  else
    zbd (fX5_isSheet a3 m2) fun r5 m6 =>
    if r5 = 0 then
      zbd (fX5_finding a0 (0 : Int32) m6) fun r52 m53 =>
      some (r52, m53)
    else
      zgd (zib a1 4) (
      zbd (fX2_isMissing ((a0 + 55) + 3 + 2 * (a1).toNatClampNeg) m6) fun r10 m11 =>
      if r10 = 0 then
        zgd (zib a3 4) (
        zbd (fX2_isMissing ((a0 + 55) + 3 + 2 * (a3).toNatClampNeg) m11) fun r17 m18 =>
        if r17 = 0 then
          zgd (zib a1 4) (
          zgd (zib a3 4) (
          if (m18 ((a0 + 55) + 3 + 2 * (a1).toNatClampNeg) 0) = (m18 ((a0 + 55) + 3 + 2 * (a3).toNatClampNeg) 0) then
            zgd (zib a1 4) (
            zbd (fX2_hasRun ((a0 + 55) + 3 + 2 * (a1).toNatClampNeg) a2 a5 m18) fun r28 m29 =>
            if r28 = 0 then
              zbd (fX5_finding a0 (0 : Int32) m29) fun r30 m31 =>
              some (r30, m31)
            else
              zgd (zib a3 4) (
              zbd (fX2_hasRun ((a0 + 55) + 3 + 2 * (a3).toNatClampNeg) a4 a5 m29) fun r35 m36 =>
              if r35 = 0 then
                zbd (fX5_finding a0 (0 : Int32) m36) fun r46 m47 =>
                some (r46, m47)
              else
                zgd (zib a1 4) (
                zgd (zib a3 4) (
                zgd ((¬ a2 < 0 ∧ ¬ a4 < 0 ∧ ¬ a5 < 0) ∧ (a2).toNatClampNeg + (a5).toNatClampNeg ≤ 40 ∧ (a4).toNatClampNeg + (a5).toNatClampNeg ≤ 40) (
                some (a5, (zrow m36 (((a0 + 55) + 3 + 2 * (a3).toNatClampNeg) + 1) (va_cpy (m36 (((a0 + 55) + 3 + 2 * (a1).toNatClampNeg) + 1)) (m36 (((a0 + 55) + 3 + 2 * (a3).toNatClampNeg) + 1)) (a2).toNatClampNeg (a4).toNatClampNeg (a5).toNatClampNeg))))))))
          else
            zbd (fX5_finding a0 (2 : Int32) m18) fun r48 m49 =>
            some (r48, m49)))
        else
          zbd (fX5_finding a0 (5 : Int32) m18) fun r50 m51 =>
          some (r50, m51))
      else
        zbd (fX5_finding a0 (5 : Int32) m11) fun r12 m13 =>
        some (r12, m13))
set_option maxRecDepth 100000 in
set_option maxHeartbeats 4000000 in
theorem tX5_copy (g : zG) {a0 : Nat} {a1 : Int32} {a2 : Int32} {a3 : Int32} {a4 : Int32} {a5 : Int32} {μ : zMem} {Q : Int32 → zMem → Prop} (ha0 : zkd a0 = 5) (h : zok (fX5_copy a0 a1 a2 a3 a4 a5 μ) Q) : zTi g yX5_copy cX5_copy 6 .int 2 [.ref (zad g a0), .int a1, .int a2, .int a3, .int a4, .int a5] μ Q := by
  refine zTi_of (P := fun r => True) zpi RX5 (by decide) rfl (Nat.le_of_ble_eq_true rfl) ?_
  intro κ X hret
  unfold fX5_copy at h
  refine zi_iload_n (pc' := 1) X dX5_copy_0 rfl rfl 1 rfl ?_
  refine zi_callSi (pc' := 4) X zl_X5_249 [.int a1] rfl rfl (by decide) (Nat.le_of_ble_eq_true rfl) dX5_copy_1 rfl (tX5_isSheet _ (zok_bd h (fun r1 m2 h => ?_)))
  refine zi_if_eq (pc' := 7) (tgt := 14) X dX5_copy_4 rfl rfl (fun c => ?_) (fun c => ?_)
  · replace h := zok_t h c
    refine zi_aload_n (pc' := 15) X dX5_copy_14 rfl rfl 0 rfl ?_
    refine zi_iconst (pc' := 16) (v := (0 : Int32)) X dX5_copy_15 rfl rfl ?_
    refine zi_callVi (pc' := 19) X zl_X5_61 ha0 (by decide) [.int (0 : Int32)] rfl rfl (by decide) (Nat.le_of_ble_eq_true rfl) dX5_copy_16 rfl (tX5_finding _ ha0 (zok_bd h (fun r3 m4 h => ?_)))
    exact hret _ _ _ _ dX5_copy_19 trivial h
  · replace h := zok_f h c
    refine zi_iload_n (pc' := 8) X dX5_copy_7 rfl rfl 3 rfl ?_
    refine zi_callSi (pc' := 11) X zl_X5_249 [.int a3] rfl rfl (by decide) (Nat.le_of_ble_eq_true rfl) dX5_copy_8 rfl (tX5_isSheet _ (zok_bd h (fun r5 m6 h => ?_)))
    refine zi_if_ne (pc' := 14) (tgt := 20) X dX5_copy_11 rfl rfl (fun c => ?_) (fun c => ?_)
    · replace h := zok_f h c
      refine zi_aload_n (pc' := 21) X dX5_copy_20 rfl rfl 0 rfl ?_
      refine zi_getr (pc' := 24) X zf_X5_38 rfl (by decide) ha0 dX5_copy_21 rfl ?_
      have f7 := zr_5_5 ha0
      refine zi_iload_n (pc' := 25) X dX5_copy_24 rfl rfl 1 rfl ?_
      obtain ⟨g8, h⟩ := zok_g h
      refine zi_aaldS (pc' := 26) X f7.1 (by rw [f7.2]; exact g8) dX5_copy_25 rfl ?_
      have f9 := zr_sheet f7 g8
      refine zi_callVi (pc' := 29) X zl_X5_259 f9 (by decide) [] rfl rfl (by decide) (Nat.le_of_ble_eq_true rfl) dX5_copy_26 rfl (tX2_isMissing _ f9 (zok_bd h (fun r10 m11 h => ?_)))
      refine zi_if_ne (pc' := 32) (tgt := 44) X dX5_copy_29 rfl rfl (fun c => ?_) (fun c => ?_)
      · replace h := zok_f h c
        refine zi_aload_n (pc' := 45) X dX5_copy_44 rfl rfl 0 rfl ?_
        refine zi_iconst (pc' := 46) (v := (5 : Int32)) X dX5_copy_45 rfl rfl ?_
        refine zi_callVi (pc' := 49) X zl_X5_61 ha0 (by decide) [.int (5 : Int32)] rfl rfl (by decide) (Nat.le_of_ble_eq_true rfl) dX5_copy_46 rfl (tX5_finding _ ha0 (zok_bd h (fun r12 m13 h => ?_)))
        exact hret _ _ _ _ dX5_copy_49 trivial h
      · replace h := zok_t h c
        refine zi_aload_n (pc' := 33) X dX5_copy_32 rfl rfl 0 rfl ?_
        refine zi_getr (pc' := 36) X zf_X5_38 rfl (by decide) ha0 dX5_copy_33 rfl ?_
        have f14 := zr_5_5 ha0
        refine zi_iload_n (pc' := 37) X dX5_copy_36 rfl rfl 3 rfl ?_
        obtain ⟨g15, h⟩ := zok_g h
        refine zi_aaldS (pc' := 38) X f14.1 (by rw [f14.2]; exact g15) dX5_copy_37 rfl ?_
        have f16 := zr_sheet f14 g15
        refine zi_callVi (pc' := 41) X zl_X5_259 f16 (by decide) [] rfl rfl (by decide) (Nat.le_of_ble_eq_true rfl) dX5_copy_38 rfl (tX2_isMissing _ f16 (zok_bd h (fun r17 m18 h => ?_)))
        refine zi_if_eq (pc' := 44) (tgt := 50) X dX5_copy_41 rfl rfl (fun c => ?_) (fun c => ?_)
        · replace h := zok_t h c
          refine zi_aload_n (pc' := 51) X dX5_copy_50 rfl rfl 0 rfl ?_
          refine zi_getr (pc' := 54) X zf_X5_38 rfl (by decide) ha0 dX5_copy_51 rfl ?_
          have f19 := zr_5_5 ha0
          refine zi_iload_n (pc' := 55) X dX5_copy_54 rfl rfl 1 rfl ?_
          obtain ⟨g20, h⟩ := zok_g h
          refine zi_aaldS (pc' := 56) X f19.1 (by rw [f19.2]; exact g20) dX5_copy_55 rfl ?_
          have f21 := zr_sheet f19 g20
          refine zi_geti (pc' := 59) X zf_X5_262 rfl (by decide) f21 dX5_copy_56 rfl ?_
          refine zi_aload_n (pc' := 60) X dX5_copy_59 rfl rfl 0 rfl ?_
          refine zi_getr (pc' := 63) X zf_X5_38 rfl (by decide) ha0 dX5_copy_60 rfl ?_
          have f22 := zr_5_5 ha0
          refine zi_iload_n (pc' := 64) X dX5_copy_63 rfl rfl 3 rfl ?_
          obtain ⟨g23, h⟩ := zok_g h
          refine zi_aaldS (pc' := 65) X f22.1 (by rw [f22.2]; exact g23) dX5_copy_64 rfl ?_
          have f24 := zr_sheet f22 g23
          refine zi_geti (pc' := 68) X zf_X5_262 rfl (by decide) f24 dX5_copy_65 rfl ?_
          refine zi_icmp_eq (pc' := 71) (tgt := 77) X dX5_copy_68 rfl rfl (fun c => ?_) (fun c => ?_)
          · replace h := zok_t h c
            refine zi_aload_n (pc' := 78) X dX5_copy_77 rfl rfl 0 rfl ?_
            refine zi_getr (pc' := 81) X zf_X5_38 rfl (by decide) ha0 dX5_copy_78 rfl ?_
            have f25 := zr_5_5 ha0
            refine zi_iload_n (pc' := 82) X dX5_copy_81 rfl rfl 1 rfl ?_
            obtain ⟨g26, h⟩ := zok_g h
            refine zi_aaldS (pc' := 83) X f25.1 (by rw [f25.2]; exact g26) dX5_copy_82 rfl ?_
            have f27 := zr_sheet f25 g26
            refine zi_iload_n (pc' := 84) X dX5_copy_83 rfl rfl 2 rfl ?_
            refine zi_iload (pc' := 86) X dX5_copy_84 rfl 5 rfl ?_
            refine zi_callVi (pc' := 89) X zl_X5_265 f27 (by decide) [.int a2, .int a5] rfl rfl (by decide) (Nat.le_of_ble_eq_true rfl) dX5_copy_86 rfl (tX2_hasRun _ f27 (zok_bd h (fun r28 m29 h => ?_)))
            refine zi_if_eq (pc' := 92) (tgt := 108) X dX5_copy_89 rfl rfl (fun c => ?_) (fun c => ?_)
            · replace h := zok_t h c
              refine zi_aload_n (pc' := 109) X dX5_copy_108 rfl rfl 0 rfl ?_
              refine zi_iconst (pc' := 110) (v := (0 : Int32)) X dX5_copy_109 rfl rfl ?_
              refine zi_callVi (pc' := 113) X zl_X5_61 ha0 (by decide) [.int (0 : Int32)] rfl rfl (by decide) (Nat.le_of_ble_eq_true rfl) dX5_copy_110 rfl (tX5_finding _ ha0 (zok_bd h (fun r30 m31 h => ?_)))
              exact hret _ _ _ _ dX5_copy_113 trivial h
            · replace h := zok_f h c
              refine zi_aload_n (pc' := 93) X dX5_copy_92 rfl rfl 0 rfl ?_
              refine zi_getr (pc' := 96) X zf_X5_38 rfl (by decide) ha0 dX5_copy_93 rfl ?_
              have f32 := zr_5_5 ha0
              refine zi_iload_n (pc' := 97) X dX5_copy_96 rfl rfl 3 rfl ?_
              obtain ⟨g33, h⟩ := zok_g h
              refine zi_aaldS (pc' := 98) X f32.1 (by rw [f32.2]; exact g33) dX5_copy_97 rfl ?_
              have f34 := zr_sheet f32 g33
              refine zi_iload (pc' := 100) X dX5_copy_98 rfl 4 rfl ?_
              refine zi_iload (pc' := 102) X dX5_copy_100 rfl 5 rfl ?_
              refine zi_callVi (pc' := 105) X zl_X5_265 f34 (by decide) [.int a4, .int a5] rfl rfl (by decide) (Nat.le_of_ble_eq_true rfl) dX5_copy_102 rfl (tX2_hasRun _ f34 (zok_bd h (fun r35 m36 h => ?_)))
              refine zi_if_ne (pc' := 108) (tgt := 114) X dX5_copy_105 rfl rfl (fun c => ?_) (fun c => ?_)
              · replace h := zok_f h c
                refine zi_aload_n (pc' := 115) X dX5_copy_114 rfl rfl 0 rfl ?_
                refine zi_getr (pc' := 118) X zf_X5_38 rfl (by decide) ha0 dX5_copy_115 rfl ?_
                have f37 := zr_5_5 ha0
                refine zi_iload_n (pc' := 119) X dX5_copy_118 rfl rfl 1 rfl ?_
                obtain ⟨g38, h⟩ := zok_g h
                refine zi_aaldS (pc' := 120) X f37.1 (by rw [f37.2]; exact g38) dX5_copy_119 rfl ?_
                have f39 := zr_sheet f37 g38
                refine zi_getr (pc' := 123) X zf_X5_268 rfl (by decide) f39 dX5_copy_120 rfl ?_
                have f40 := zr_2_2 f39
                refine zi_iload_n (pc' := 124) X dX5_copy_123 rfl rfl 2 rfl ?_
                refine zi_aload_n (pc' := 125) X dX5_copy_124 rfl rfl 0 rfl ?_
                refine zi_getr (pc' := 128) X zf_X5_38 rfl (by decide) ha0 dX5_copy_125 rfl ?_
                have f41 := zr_5_5 ha0
                refine zi_iload_n (pc' := 129) X dX5_copy_128 rfl rfl 3 rfl ?_
                obtain ⟨g42, h⟩ := zok_g h
                refine zi_aaldS (pc' := 130) X f41.1 (by rw [f41.2]; exact g42) dX5_copy_129 rfl ?_
                have f43 := zr_sheet f41 g42
                refine zi_getr (pc' := 133) X zf_X5_268 rfl (by decide) f43 dX5_copy_130 rfl ?_
                have f44 := zr_2_2 f43
                refine zi_iload (pc' := 135) X dX5_copy_133 rfl 4 rfl ?_
                refine zi_iload (pc' := 137) X dX5_copy_135 rfl 5 rfl ?_
                obtain ⟨g45, h⟩ := zok_g h
                refine zi_acopy (pc' := 140) X zl_X5_169 f40.1 f44.1 (by rw [f40.2, f44.2]; exact g45) (Nat.le_of_ble_eq_true rfl) (by decide) dX5_copy_137 rfl ?_
                refine zi_iload (pc' := 142) X dX5_copy_140 rfl 5 rfl ?_
                exact hret _ _ _ _ dX5_copy_142 trivial h
              · replace h := zok_t h c
                refine zi_aload_n (pc' := 109) X dX5_copy_108 rfl rfl 0 rfl ?_
                refine zi_iconst (pc' := 110) (v := (0 : Int32)) X dX5_copy_109 rfl rfl ?_
                refine zi_callVi (pc' := 113) X zl_X5_61 ha0 (by decide) [.int (0 : Int32)] rfl rfl (by decide) (Nat.le_of_ble_eq_true rfl) dX5_copy_110 rfl (tX5_finding _ ha0 (zok_bd h (fun r46 m47 h => ?_)))
                exact hret _ _ _ _ dX5_copy_113 trivial h
          · replace h := zok_f h c
            refine zi_aload_n (pc' := 72) X dX5_copy_71 rfl rfl 0 rfl ?_
            refine zi_iconst (pc' := 73) (v := (2 : Int32)) X dX5_copy_72 rfl rfl ?_
            refine zi_callVi (pc' := 76) X zl_X5_61 ha0 (by decide) [.int (2 : Int32)] rfl rfl (by decide) (Nat.le_of_ble_eq_true rfl) dX5_copy_73 rfl (tX5_finding _ ha0 (zok_bd h (fun r48 m49 h => ?_)))
            exact hret _ _ _ _ dX5_copy_76 trivial h
        · replace h := zok_f h c
          refine zi_aload_n (pc' := 45) X dX5_copy_44 rfl rfl 0 rfl ?_
          refine zi_iconst (pc' := 46) (v := (5 : Int32)) X dX5_copy_45 rfl rfl ?_
          refine zi_callVi (pc' := 49) X zl_X5_61 ha0 (by decide) [.int (5 : Int32)] rfl rfl (by decide) (Nat.le_of_ble_eq_true rfl) dX5_copy_46 rfl (tX5_finding _ ha0 (zok_bd h (fun r50 m51 h => ?_)))
          exact hret _ _ _ _ dX5_copy_49 trivial h
    · replace h := zok_t h c
      refine zi_aload_n (pc' := 15) X dX5_copy_14 rfl rfl 0 rfl ?_
      refine zi_iconst (pc' := 16) (v := (0 : Int32)) X dX5_copy_15 rfl rfl ?_
      refine zi_callVi (pc' := 19) X zl_X5_61 ha0 (by decide) [.int (0 : Int32)] rfl rfl (by decide) (Nat.le_of_ble_eq_true rfl) dX5_copy_16 rfl (tX5_finding _ ha0 (zok_bd h (fun r52 m53 h => ?_)))
      exact hret _ _ _ _ dX5_copy_19 trivial h
def fX5_feed_39 : Nat → Nat → Int32 → Int32 → zMem → Option (Int32 × zMem)
  | 0, _, _, _, _ => none
  | n + 1, a0, a1, a3, μ =>
    if a3 < 0 then
      some ((μ (a0 + 53) 1), μ)
    else
      zbd (fX3_append (a0 + 53) ((((a1).toUInt32 >>> ((((8 : Int32) * a3)).toUInt32 &&& Int32.toUInt32 31)).toInt32) &&& (255 : Int32)) μ) fun _ m7 =>
      fX5_feed_39 n a0 a1 (a3 + (-1 : Int32)) m7
set_option maxRecDepth 100000 in
theorem lX5_feed_39 {g : zG} {κ : zK} (X : zC g κ RX5 cX5_feed 4 2) {Q : Int32 → zMem → Prop} (hret : ∀ pc lv r μ', decode cX5_feed pc = .ok (.ireturn, 1) → True → Q r μ' → zV g κ pc lv [.int r] μ') : ∀ (n : Nat) (a0 : Nat) (a1 : Int32) (a3 : Int32) (μ : zMem) (ha0 : zkd a0 = 5), zok (fX5_feed_39 n a0 a1 a3 μ) Q → zV g κ 39 [(0, .ref (zad g a0)), (1, .int a1), (3, .int a3)] [] μ := by
  intro n
  induction n with
  | zero =>
    intro a0 a1 a3 μ ha0 h
    exact h.elim
  | succ n ih =>
    intro a0 a1 a3 μ ha0 h
    rw [fX5_feed_39] at h
    refine zi_iload_n (pc' := 40) X dX5_feed_39 rfl rfl 2 rfl ?_
    refine zi_if_lt (pc' := 43) (tgt := 66) X dX5_feed_40 rfl rfl (fun c => ?_) (fun c => ?_)
    · replace h := zok_t h c
      refine zi_aload_n (pc' := 67) X dX5_feed_66 rfl rfl 0 rfl ?_
      refine zi_getr (pc' := 70) X zf_X5_32 rfl (by decide) ha0 dX5_feed_67 rfl ?_
      have f4 := zr_5_4 ha0
      refine zi_geti (pc' := 73) X zf_X5_233 rfl (by decide) f4 dX5_feed_70 rfl ?_
      exact hret _ _ _ _ dX5_feed_73 trivial h
    · replace h := zok_f h c
      refine zi_aload_n (pc' := 44) X dX5_feed_43 rfl rfl 0 rfl ?_
      refine zi_getr (pc' := 47) X zf_X5_32 rfl (by decide) ha0 dX5_feed_44 rfl ?_
      have f5 := zr_5_4 ha0
      refine zi_iload_n (pc' := 48) X dX5_feed_47 rfl rfl 1 rfl ?_
      refine zi_bipush (pc' := 50) (v := (8 : Int32)) X dX5_feed_48 rfl rfl ?_
      refine zi_iload_n (pc' := 51) X dX5_feed_50 rfl rfl 2 rfl ?_
      refine zi_imul (pc' := 52) X dX5_feed_51 rfl ?_
      refine zi_iushr (pc' := 53) X dX5_feed_52 rfl ?_
      refine zi_sipush (pc' := 56) (v := (255 : Int32)) X dX5_feed_53 rfl rfl ?_
      refine zi_iand (pc' := 57) X dX5_feed_56 rfl ?_
      refine zi_callVv (pc' := 60) X zl_X5_236 f5 (by decide) [.int ((((a1).toUInt32 >>> ((((8 : Int32) * a3)).toUInt32 &&& Int32.toUInt32 31)).toInt32) &&& (255 : Int32))] rfl rfl (by decide) (Nat.le_of_ble_eq_true rfl) dX5_feed_57 rfl (tX3_append _ f5 (zok_bd h (fun _ m7 h => ?_)))
      refine zi_iinc (pc' := 63) (v := (a3 + (-1 : Int32))) X dX5_feed_60 rfl 2 rfl rfl (by decide) [(3, .int (a3 + (-1 : Int32))), (0, .ref (zad g a0)), (1, .int a1)] rfl ?_
      refine zi_goto (pc' := 39) X dX5_feed_63 rfl ?_
      exact zi_sub X [1, 2, 0] _ rfl (ih a0 a1 (a3 + (-1 : Int32)) (m7) ha0 h)
def fX5_feed (a0 : Nat) (a1 : Int32) (a2 : Int32) (μ : zMem) : Option (Int32 × zMem) :=
  zbd (fX5_within a2 (1 : Int32) (4 : Int32) μ) fun r1 m2 =>
  if r1 = 0 then
    zbd (fX5_finding a0 (0 : Int32) m2) fun r10 m11 =>
    some (r10, m11)
  else
    if ((m2 (a0 + 53) 1) + a2) ≤ (120 : Int32) then
      fX5_feed_39 200 a0 a1 (a2 - (1 : Int32)) m2
    else
      zbd (fX5_finding a0 (1 : Int32) m2) fun r8 m9 =>
      some (r8, m9)
set_option maxRecDepth 100000 in
set_option maxHeartbeats 4000000 in
theorem tX5_feed (g : zG) {a0 : Nat} {a1 : Int32} {a2 : Int32} {μ : zMem} {Q : Int32 → zMem → Prop} (ha0 : zkd a0 = 5) (h : zok (fX5_feed a0 a1 a2 μ) Q) : zTi g yX5_feed cX5_feed 4 .int 2 [.ref (zad g a0), .int a1, .int a2] μ Q := by
  refine zTi_of (P := fun r => True) zpi RX5 (by decide) rfl (Nat.le_of_ble_eq_true rfl) ?_
  intro κ X hret
  unfold fX5_feed at h
  refine zi_iload_n (pc' := 1) X dX5_feed_0 rfl rfl 2 rfl ?_
  refine zi_iconst (pc' := 2) (v := (1 : Int32)) X dX5_feed_1 rfl rfl ?_
  refine zi_iconst (pc' := 3) (v := (4 : Int32)) X dX5_feed_2 rfl rfl ?_
  refine zi_callSi (pc' := 6) X zl_X5_68 [.int a2, .int (1 : Int32), .int (4 : Int32)] rfl rfl (by decide) (Nat.le_of_ble_eq_true rfl) dX5_feed_3 rfl (tX5_within _ (zok_bd h (fun r1 m2 h => ?_)))
  refine zi_if_ne (pc' := 9) (tgt := 15) X dX5_feed_6 rfl rfl (fun c => ?_) (fun c => ?_)
  · replace h := zok_f h c
    refine zi_aload_n (pc' := 16) X dX5_feed_15 rfl rfl 0 rfl ?_
    refine zi_getr (pc' := 19) X zf_X5_32 rfl (by decide) ha0 dX5_feed_16 rfl ?_
    have f3 := zr_5_4 ha0
    refine zi_geti (pc' := 22) X zf_X5_233 rfl (by decide) f3 dX5_feed_19 rfl ?_
    refine zi_iload_n (pc' := 23) X dX5_feed_22 rfl rfl 2 rfl ?_
    refine zi_iadd (pc' := 24) X dX5_feed_23 rfl ?_
    refine zi_bipush (pc' := 26) (v := (120 : Int32)) X dX5_feed_24 rfl rfl ?_
    refine zi_icmp_le (pc' := 29) (tgt := 35) X dX5_feed_26 rfl rfl (fun c => ?_) (fun c => ?_)
    · replace h := zok_t h c
      refine zi_iload_n (pc' := 36) X dX5_feed_35 rfl rfl 2 rfl ?_
      refine zi_iconst (pc' := 37) (v := (1 : Int32)) X dX5_feed_36 rfl rfl ?_
      refine zi_isub (pc' := 38) X dX5_feed_37 rfl ?_
      refine zi_istore_n (pc' := 39) X dX5_feed_38 rfl rfl (by decide) [(3, .int (a2 - (1 : Int32))), (0, .ref (zad g a0)), (1, .int a1), (2, .int a2)] rfl ?_
      exact zi_sub X [1, 2, 0] _ rfl (lX5_feed_39 X hret 200 a0 a1 (a2 - (1 : Int32)) (m2) ha0 h)
    · replace h := zok_f h c
      refine zi_aload_n (pc' := 30) X dX5_feed_29 rfl rfl 0 rfl ?_
      refine zi_iconst (pc' := 31) (v := (1 : Int32)) X dX5_feed_30 rfl rfl ?_
      refine zi_callVi (pc' := 34) X zl_X5_61 ha0 (by decide) [.int (1 : Int32)] rfl rfl (by decide) (Nat.le_of_ble_eq_true rfl) dX5_feed_31 rfl (tX5_finding _ ha0 (zok_bd h (fun r8 m9 h => ?_)))
      exact hret _ _ _ _ dX5_feed_34 trivial h
  · replace h := zok_t h c
    refine zi_aload_n (pc' := 10) X dX5_feed_9 rfl rfl 0 rfl ?_
    refine zi_iconst (pc' := 11) (v := (0 : Int32)) X dX5_feed_10 rfl rfl ?_
    refine zi_callVi (pc' := 14) X zl_X5_61 ha0 (by decide) [.int (0 : Int32)] rfl rfl (by decide) (Nat.le_of_ble_eq_true rfl) dX5_feed_11 rfl (tX5_finding _ ha0 (zok_bd h (fun r10 m11 h => ?_)))
    exact hret _ _ _ _ dX5_feed_14 trivial h
def fX5_height (a0 : Nat) (a1 : Int32) (a2 : Int32) (μ : zMem) : Option (Int32 × zMem) :=
  zbd (fX5_isCell a1 μ) fun r1 m2 =>
  if r1 = 0 then
    zbd (fX5_finding a0 (0 : Int32) m2) fun r3 m4 =>
    some (r3, m4)
  else
    zbd (fX5_isMeasure a2 m2) fun r5 m6 =>
    if r5 = 0 then
      zbd (fX5_finding a0 (0 : Int32) m6) fun r13 m14 =>
      some (r13, m14)
    else
      zgd (zib a1 25) (
      zgd (zib a1 25) (
      some ((m6 ((a0 + 1) + 1) (a1).toNatClampNeg), (zst m6 ((a0 + 1) + 1) (a1).toNatClampNeg a2))))
set_option maxRecDepth 100000 in
set_option maxHeartbeats 4000000 in
theorem tX5_height (g : zG) {a0 : Nat} {a1 : Int32} {a2 : Int32} {μ : zMem} {Q : Int32 → zMem → Prop} (ha0 : zkd a0 = 5) (h : zok (fX5_height a0 a1 a2 μ) Q) : zTi g yX5_height cX5_height 4 .int 2 [.ref (zad g a0), .int a1, .int a2] μ Q := by
  refine zTi_of (P := fun r => True) zpi RX5 (by decide) rfl (Nat.le_of_ble_eq_true rfl) ?_
  intro κ X hret
  unfold fX5_height at h
  refine zi_iload_n (pc' := 1) X dX5_height_0 rfl rfl 1 rfl ?_
  refine zi_callSi (pc' := 4) X zl_X5_54 [.int a1] rfl rfl (by decide) (Nat.le_of_ble_eq_true rfl) dX5_height_1 rfl (tX5_isCell _ (zok_bd h (fun r1 m2 h => ?_)))
  refine zi_if_eq (pc' := 7) (tgt := 14) X dX5_height_4 rfl rfl (fun c => ?_) (fun c => ?_)
  · replace h := zok_t h c
    refine zi_aload_n (pc' := 15) X dX5_height_14 rfl rfl 0 rfl ?_
    refine zi_iconst (pc' := 16) (v := (0 : Int32)) X dX5_height_15 rfl rfl ?_
    refine zi_callVi (pc' := 19) X zl_X5_61 ha0 (by decide) [.int (0 : Int32)] rfl rfl (by decide) (Nat.le_of_ble_eq_true rfl) dX5_height_16 rfl (tX5_finding _ ha0 (zok_bd h (fun r3 m4 h => ?_)))
    exact hret _ _ _ _ dX5_height_19 trivial h
  · replace h := zok_f h c
    refine zi_iload_n (pc' := 8) X dX5_height_7 rfl rfl 2 rfl ?_
    refine zi_callSi (pc' := 11) X zl_X5_58 [.int a2] rfl rfl (by decide) (Nat.le_of_ble_eq_true rfl) dX5_height_8 rfl (tX5_isMeasure _ (zok_bd h (fun r5 m6 h => ?_)))
    refine zi_if_ne (pc' := 14) (tgt := 20) X dX5_height_11 rfl rfl (fun c => ?_) (fun c => ?_)
    · replace h := zok_f h c
      refine zi_aload_n (pc' := 21) X dX5_height_20 rfl rfl 0 rfl ?_
      refine zi_getr (pc' := 24) X zf_X5_10 rfl (by decide) ha0 dX5_height_21 rfl ?_
      have f7 := zr_5_0 ha0
      refine zi_getr (pc' := 27) X zf_X5_65 rfl (by decide) f7 dX5_height_24 rfl ?_
      have f8 := zr_0_0 f7
      refine zi_iload_n (pc' := 28) X dX5_height_27 rfl rfl 1 rfl ?_
      obtain ⟨g9, h⟩ := zok_g h
      refine zi_iald (pc' := 29) X f8.1 (by rw [f8.2]; exact g9) dX5_height_28 rfl ?_
      refine zi_istore_n (pc' := 30) X dX5_height_29 rfl rfl (by decide) [(3, .int (m6 ((a0 + 1) + 1) (a1).toNatClampNeg)), (0, .ref (zad g a0)), (1, .int a1), (2, .int a2)] rfl ?_
      refine zi_aload_n (pc' := 31) X dX5_height_30 rfl rfl 1 rfl ?_
      refine zi_getr (pc' := 34) X zf_X5_10 rfl (by decide) ha0 dX5_height_31 rfl ?_
      have f10 := zr_5_0 ha0
      refine zi_getr (pc' := 37) X zf_X5_65 rfl (by decide) f10 dX5_height_34 rfl ?_
      have f11 := zr_0_0 f10
      refine zi_iload_n (pc' := 38) X dX5_height_37 rfl rfl 2 rfl ?_
      refine zi_iload_n (pc' := 39) X dX5_height_38 rfl rfl 3 rfl ?_
      obtain ⟨g12, h⟩ := zok_g h
      refine zi_iast (pc' := 40) X f11.1 (by rw [f11.2]; exact g12) dX5_height_39 rfl ?_
      refine zi_iload_n (pc' := 41) X dX5_height_40 rfl rfl 0 rfl ?_
      exact hret _ _ _ _ dX5_height_41 trivial h
    · replace h := zok_t h c
      refine zi_aload_n (pc' := 15) X dX5_height_14 rfl rfl 0 rfl ?_
      refine zi_iconst (pc' := 16) (v := (0 : Int32)) X dX5_height_15 rfl rfl ?_
      refine zi_callVi (pc' := 19) X zl_X5_61 ha0 (by decide) [.int (0 : Int32)] rfl rfl (by decide) (Nat.le_of_ble_eq_true rfl) dX5_height_16 rfl (tX5_finding _ ha0 (zok_bd h (fun r13 m14 h => ?_)))
      exact hret _ _ _ _ dX5_height_19 trivial h
def fX5_hold_29 (a0 : Nat) (a1 : Int32) (a2 : Int32) (μ : zMem) : Option (Int32 × zMem) :=
  zgd (zib a1 10) (
  some ((1 : Int32), (zst μ ((a0 + 1) + 2) (a1).toNatClampNeg a2)))
set_option maxRecDepth 100000 in
theorem lX5_hold_29 {g : zG} {κ : zK} (X : zC g κ RX5 cX5_hold 3 2) {Q : Int32 → zMem → Prop} (hret : ∀ pc lv r μ', decode cX5_hold pc = .ok (.ireturn, 1) → True → Q r μ' → zV g κ pc lv [.int r] μ') : ∀ (a0 : Nat) (a1 : Int32) (a2 : Int32) (μ : zMem) (ha0 : zkd a0 = 5), zok (fX5_hold_29 a0 a1 a2 μ) Q → zV g κ 29 [(0, .ref (zad g a0)), (1, .int a1), (2, .int a2)] [] μ := by
  intro a0 a1 a2 μ ha0 h
  unfold fX5_hold_29 at h
  refine zi_aload_n (pc' := 30) X dX5_hold_29 rfl rfl 0 rfl ?_
  refine zi_getr (pc' := 33) X zf_X5_10 rfl (by decide) ha0 dX5_hold_30 rfl ?_
  have f5 := zr_5_0 ha0
  refine zi_getr (pc' := 36) X zf_X5_243 rfl (by decide) f5 dX5_hold_33 rfl ?_
  have f6 := zr_0_1 f5
  refine zi_iload_n (pc' := 37) X dX5_hold_36 rfl rfl 1 rfl ?_
  refine zi_iload_n (pc' := 38) X dX5_hold_37 rfl rfl 2 rfl ?_
  obtain ⟨g7, h⟩ := zok_g h
  refine zi_iast (pc' := 39) X f6.1 (by rw [f6.2]; exact g7) dX5_hold_38 rfl ?_
  refine zi_iconst (pc' := 40) (v := (1 : Int32)) X dX5_hold_39 rfl rfl ?_
  exact hret _ _ _ _ dX5_hold_40 trivial h
def fX5_hold (a0 : Nat) (a1 : Int32) (a2 : Int32) (μ : zMem) : Option (Int32 × zMem) :=
  zbd (fX5_within a1 (0 : Int32) (9 : Int32) μ) fun r1 m2 =>
  if r1 = 0 then
    zbd (fX5_finding a0 (0 : Int32) m2) fun r3 m4 =>
    some (r3, m4)
  else
    if a2 = (-1 : Int32) then
      fX5_hold_29 a0 a1 a2 m2
    else
      zbd (fX5_isTent a0 a2 m2) fun r8 m9 =>
      if r8 = 0 then
        zbd (fX5_finding a0 (0 : Int32) m9) fun r10 m11 =>
        some (r10, m11)
      else
        fX5_hold_29 a0 a1 a2 m9
set_option maxRecDepth 100000 in
set_option maxHeartbeats 4000000 in
theorem tX5_hold (g : zG) {a0 : Nat} {a1 : Int32} {a2 : Int32} {μ : zMem} {Q : Int32 → zMem → Prop} (ha0 : zkd a0 = 5) (h : zok (fX5_hold a0 a1 a2 μ) Q) : zTi g yX5_hold cX5_hold 3 .int 2 [.ref (zad g a0), .int a1, .int a2] μ Q := by
  refine zTi_of (P := fun r => True) zpi RX5 (by decide) rfl (Nat.le_of_ble_eq_true rfl) ?_
  intro κ X hret
  unfold fX5_hold at h
  refine zi_iload_n (pc' := 1) X dX5_hold_0 rfl rfl 1 rfl ?_
  refine zi_iconst (pc' := 2) (v := (0 : Int32)) X dX5_hold_1 rfl rfl ?_
  refine zi_bipush (pc' := 4) (v := (9 : Int32)) X dX5_hold_2 rfl rfl ?_
  refine zi_callSi (pc' := 7) X zl_X5_68 [.int a1, .int (0 : Int32), .int (9 : Int32)] rfl rfl (by decide) (Nat.le_of_ble_eq_true rfl) dX5_hold_4 rfl (tX5_within _ (zok_bd h (fun r1 m2 h => ?_)))
  refine zi_if_eq (pc' := 10) (tgt := 23) X dX5_hold_7 rfl rfl (fun c => ?_) (fun c => ?_)
  · replace h := zok_t h c
    refine zi_aload_n (pc' := 24) X dX5_hold_23 rfl rfl 0 rfl ?_
    refine zi_iconst (pc' := 25) (v := (0 : Int32)) X dX5_hold_24 rfl rfl ?_
    refine zi_callVi (pc' := 28) X zl_X5_61 ha0 (by decide) [.int (0 : Int32)] rfl rfl (by decide) (Nat.le_of_ble_eq_true rfl) dX5_hold_25 rfl (tX5_finding _ ha0 (zok_bd h (fun r3 m4 h => ?_)))
    exact hret _ _ _ _ dX5_hold_28 trivial h
  · replace h := zok_f h c
    refine zi_iload_n (pc' := 11) X dX5_hold_10 rfl rfl 2 rfl ?_
    refine zi_iconst (pc' := 12) (v := (-1 : Int32)) X dX5_hold_11 rfl rfl ?_
    refine zi_icmp_eq (pc' := 15) (tgt := 29) X dX5_hold_12 rfl rfl (fun c => ?_) (fun c => ?_)
    · replace h := zok_t h c
      exact zi_sub X [0, 1, 2] _ rfl (lX5_hold_29 X hret a0 a1 a2 (m2) ha0 h)
    · replace h := zok_f h c
      refine zi_aload_n (pc' := 16) X dX5_hold_15 rfl rfl 0 rfl ?_
      refine zi_iload_n (pc' := 17) X dX5_hold_16 rfl rfl 2 rfl ?_
      refine zi_callVi (pc' := 20) X zl_X5_96 ha0 (by decide) [.int a2] rfl rfl (by decide) (Nat.le_of_ble_eq_true rfl) dX5_hold_17 rfl (tX5_isTent _ ha0 (zok_bd h (fun r8 m9 h => ?_)))
      refine zi_if_ne (pc' := 23) (tgt := 29) X dX5_hold_20 rfl rfl (fun c => ?_) (fun c => ?_)
      · replace h := zok_f h c
        exact zi_sub X [0, 1, 2] _ rfl (lX5_hold_29 X hret a0 a1 a2 (m9) ha0 h)
      · replace h := zok_t h c
        refine zi_aload_n (pc' := 24) X dX5_hold_23 rfl rfl 0 rfl ?_
        refine zi_iconst (pc' := 25) (v := (0 : Int32)) X dX5_hold_24 rfl rfl ?_
        refine zi_callVi (pc' := 28) X zl_X5_61 ha0 (by decide) [.int (0 : Int32)] rfl rfl (by decide) (Nat.le_of_ble_eq_true rfl) dX5_hold_25 rfl (tX5_finding _ ha0 (zok_bd h (fun r10 m11 h => ?_)))
        exact hret _ _ _ _ dX5_hold_28 trivial h
def fX5_lackOf (a0 : Nat) (a1 : Int32) (μ : zMem) : Option (Int32 × zMem) :=
  zbd (fX5_isSheet a1 μ) fun r1 m2 =>
  if r1 = 0 then
    some ((0 : Int32), m2)
  else
    zgd (zib a1 4) (
    zbd (fX2_isMissing ((a0 + 55) + 3 + 2 * (a1).toNatClampNeg) m2) fun r6 m7 =>
    if r6 = 0 then
      some ((-1 : Int32), m7)
    else
      some ((5 : Int32), m7))
set_option maxRecDepth 100000 in
set_option maxHeartbeats 4000000 in
theorem tX5_lackOf (g : zG) {a0 : Nat} {a1 : Int32} {μ : zMem} {Q : Int32 → zMem → Prop} (ha0 : zkd a0 = 5) (h : zok (fX5_lackOf a0 a1 μ) Q) : zTi g yX5_lackOf cX5_lackOf 2 .int 2 [.ref (zad g a0), .int a1] μ Q := by
  refine zTi_of (P := fun r => True) zpi RX5 (by decide) rfl (Nat.le_of_ble_eq_true rfl) ?_
  intro κ X hret
  unfold fX5_lackOf at h
  refine zi_iload_n (pc' := 1) X dX5_lackOf_0 rfl rfl 1 rfl ?_
  refine zi_callSi (pc' := 4) X zl_X5_249 [.int a1] rfl rfl (by decide) (Nat.le_of_ble_eq_true rfl) dX5_lackOf_1 rfl (tX5_isSheet _ (zok_bd h (fun r1 m2 h => ?_)))
  refine zi_if_ne (pc' := 7) (tgt := 9) X dX5_lackOf_4 rfl rfl (fun c => ?_) (fun c => ?_)
  · replace h := zok_f h c
    refine zi_aload_n (pc' := 10) X dX5_lackOf_9 rfl rfl 0 rfl ?_
    refine zi_getr (pc' := 13) X zf_X5_38 rfl (by decide) ha0 dX5_lackOf_10 rfl ?_
    have f3 := zr_5_5 ha0
    refine zi_iload_n (pc' := 14) X dX5_lackOf_13 rfl rfl 1 rfl ?_
    obtain ⟨g4, h⟩ := zok_g h
    refine zi_aaldS (pc' := 15) X f3.1 (by rw [f3.2]; exact g4) dX5_lackOf_14 rfl ?_
    have f5 := zr_sheet f3 g4
    refine zi_callVi (pc' := 18) X zl_X5_259 f5 (by decide) [] rfl rfl (by decide) (Nat.le_of_ble_eq_true rfl) dX5_lackOf_15 rfl (tX2_isMissing _ f5 (zok_bd h (fun r6 m7 h => ?_)))
    refine zi_if_eq (pc' := 21) (tgt := 25) X dX5_lackOf_18 rfl rfl (fun c => ?_) (fun c => ?_)
    · replace h := zok_t h c
      refine zi_iconst (pc' := 26) (v := (-1 : Int32)) X dX5_lackOf_25 rfl rfl ?_
      exact hret _ _ _ _ dX5_lackOf_26 trivial h
    · replace h := zok_f h c
      refine zi_iconst (pc' := 22) (v := (5 : Int32)) X dX5_lackOf_21 rfl rfl ?_
      refine zi_goto (pc' := 26) X dX5_lackOf_22 rfl ?_
      exact hret _ _ _ _ dX5_lackOf_26 trivial h
  · replace h := zok_t h c
    refine zi_iconst (pc' := 8) (v := (0 : Int32)) X dX5_lackOf_7 rfl rfl ?_
    exact hret _ _ _ _ dX5_lackOf_8 trivial h
def fX5_of (a0 : Nat) (a1 : Int32) (a2 : Int32) (μ : zMem) : Option (Int32 × zMem) :=
  zbd (fX5_isTent a0 a1 μ) fun r1 m2 =>
  if r1 = 0 then
    zbd (fX5_finding a0 (0 : Int32) m2) fun r3 m4 =>
    some (r3, m4)
  else
    zbd (fX5_within a2 (0 : Int32) (7 : Int32) m2) fun r5 m6 =>
    if r5 = 0 then
      zbd (fX5_finding a0 (0 : Int32) m6) fun r13 m14 =>
      some (r13, m14)
    else
      zgd (zib a1 6) (
      zbd (fX4_trait (((a0 + 1) + 3) + 1 + 2 * (a1).toNatClampNeg) a2 m6) fun r11 m12 =>
      some (r11, m12))
set_option maxRecDepth 100000 in
set_option maxHeartbeats 4000000 in
theorem tX5_of (g : zG) {a0 : Nat} {a1 : Int32} {a2 : Int32} {μ : zMem} {Q : Int32 → zMem → Prop} (ha0 : zkd a0 = 5) (h : zok (fX5_of a0 a1 a2 μ) Q) : zTi g yX5_of cX5_of 3 .int 2 [.ref (zad g a0), .int a1, .int a2] μ Q := by
  refine zTi_of (P := fun r => True) zpi RX5 (by decide) rfl (Nat.le_of_ble_eq_true rfl) ?_
  intro κ X hret
  unfold fX5_of at h
  refine zi_aload_n (pc' := 1) X dX5_of_0 rfl rfl 0 rfl ?_
  refine zi_iload_n (pc' := 2) X dX5_of_1 rfl rfl 1 rfl ?_
  refine zi_callVi (pc' := 5) X zl_X5_96 ha0 (by decide) [.int a1] rfl rfl (by decide) (Nat.le_of_ble_eq_true rfl) dX5_of_2 rfl (tX5_isTent _ ha0 (zok_bd h (fun r1 m2 h => ?_)))
  refine zi_if_eq (pc' := 8) (tgt := 18) X dX5_of_5 rfl rfl (fun c => ?_) (fun c => ?_)
  · replace h := zok_t h c
    refine zi_aload_n (pc' := 19) X dX5_of_18 rfl rfl 0 rfl ?_
    refine zi_iconst (pc' := 20) (v := (0 : Int32)) X dX5_of_19 rfl rfl ?_
    refine zi_callVi (pc' := 23) X zl_X5_61 ha0 (by decide) [.int (0 : Int32)] rfl rfl (by decide) (Nat.le_of_ble_eq_true rfl) dX5_of_20 rfl (tX5_finding _ ha0 (zok_bd h (fun r3 m4 h => ?_)))
    exact hret _ _ _ _ dX5_of_23 trivial h
  · replace h := zok_f h c
    refine zi_iload_n (pc' := 9) X dX5_of_8 rfl rfl 2 rfl ?_
    refine zi_iconst (pc' := 10) (v := (0 : Int32)) X dX5_of_9 rfl rfl ?_
    refine zi_bipush (pc' := 12) (v := (7 : Int32)) X dX5_of_10 rfl rfl ?_
    refine zi_callSi (pc' := 15) X zl_X5_68 [.int a2, .int (0 : Int32), .int (7 : Int32)] rfl rfl (by decide) (Nat.le_of_ble_eq_true rfl) dX5_of_12 rfl (tX5_within _ (zok_bd h (fun r5 m6 h => ?_)))
    refine zi_if_ne (pc' := 18) (tgt := 24) X dX5_of_15 rfl rfl (fun c => ?_) (fun c => ?_)
    · replace h := zok_f h c
      refine zi_aload_n (pc' := 25) X dX5_of_24 rfl rfl 0 rfl ?_
      refine zi_getr (pc' := 28) X zf_X5_10 rfl (by decide) ha0 dX5_of_25 rfl ?_
      have f7 := zr_5_0 ha0
      refine zi_getr (pc' := 31) X zf_X5_99 rfl (by decide) f7 dX5_of_28 rfl ?_
      have f8 := zr_0_2 f7
      refine zi_iload_n (pc' := 32) X dX5_of_31 rfl rfl 1 rfl ?_
      obtain ⟨g9, h⟩ := zok_g h
      refine zi_aaldT (pc' := 33) X f8.1 (by rw [f8.2]; exact g9) dX5_of_32 rfl ?_
      have f10 := zr_tent f8 g9
      refine zi_iload_n (pc' := 34) X dX5_of_33 rfl rfl 2 rfl ?_
      refine zi_callVi (pc' := 37) X zl_X5_103 f10 (by decide) [.int a2] rfl rfl (by decide) (Nat.le_of_ble_eq_true rfl) dX5_of_34 rfl (tX4_trait _ f10 (zok_bd h (fun r11 m12 h => ?_)))
      exact hret _ _ _ _ dX5_of_37 trivial h
    · replace h := zok_t h c
      refine zi_aload_n (pc' := 19) X dX5_of_18 rfl rfl 0 rfl ?_
      refine zi_iconst (pc' := 20) (v := (0 : Int32)) X dX5_of_19 rfl rfl ?_
      refine zi_callVi (pc' := 23) X zl_X5_61 ha0 (by decide) [.int (0 : Int32)] rfl rfl (by decide) (Nat.le_of_ble_eq_true rfl) dX5_of_20 rfl (tX5_finding _ ha0 (zok_bd h (fun r13 m14 h => ?_)))
      exact hret _ _ _ _ dX5_of_23 trivial h
def fX5_sheet_74 (a0 : Nat) (a1 : Int32) (s0 : Int32) (s1 : Int32) (s2 : Nat) (μ : zMem) : Option (Int32 × zMem) :=
  zbd (fX2_renew s2 s1 s0 μ) fun _ m9 =>
  zgd (zib a1 4) (
  some ((m9 ((a0 + 55) + 3 + 2 * (a1).toNatClampNeg) 1), m9))
set_option maxRecDepth 100000 in
theorem lX5_sheet_74 {g : zG} {κ : zK} (X : zC g κ RX5 cX5_sheet 4 2) {Q : Int32 → zMem → Prop} (hret : ∀ pc lv r μ', decode cX5_sheet pc = .ok (.ireturn, 1) → True → Q r μ' → zV g κ pc lv [.int r] μ') : ∀ (a0 : Nat) (a1 : Int32) (s0 : Int32) (s1 : Int32) (s2 : Nat) (μ : zMem) (ha0 : zkd a0 = 5) (hs2 : zkd s2 = 2), zok (fX5_sheet_74 a0 a1 s0 s1 s2 μ) Q → zV g κ 74 [(0, .ref (zad g a0)), (1, .int a1)] [.int s0, .int s1, .ref (zad g s2)] μ := by
  intro a0 a1 s0 s1 s2 μ ha0 hs2 h
  unfold fX5_sheet_74 at h
  refine zi_callVv (pc' := 77) X zl_X5_252 hs2 (by decide) [.int s1, .int s0] rfl rfl (by decide) (Nat.le_of_ble_eq_true rfl) dX5_sheet_74 rfl (tX2_renew _ hs2 (zok_bd h (fun _ m9 h => ?_)))
  refine zi_aload_n (pc' := 78) X dX5_sheet_77 rfl rfl 0 rfl ?_
  refine zi_getr (pc' := 81) X zf_X5_38 rfl (by decide) ha0 dX5_sheet_78 rfl ?_
  have f10 := zr_5_5 ha0
  refine zi_iload_n (pc' := 82) X dX5_sheet_81 rfl rfl 1 rfl ?_
  obtain ⟨g11, h⟩ := zok_g h
  refine zi_aaldS (pc' := 83) X f10.1 (by rw [f10.2]; exact g11) dX5_sheet_82 rfl ?_
  have f12 := zr_sheet f10 g11
  refine zi_geti (pc' := 86) X zf_X5_255 rfl (by decide) f12 dX5_sheet_83 rfl ?_
  exact hret _ _ _ _ dX5_sheet_86 trivial h
def fX5_sheet_35 (a0 : Nat) (a1 : Int32) (a2 : Int32) (a3 : Int32) (μ : zMem) : Option (Int32 × zMem) :=
  if 0 ≤ a3 then
    if a3 ≤ (40 : Int32) then
      zgd (zib a1 4) (
      if a2 = 0 then
        fX5_sheet_74 a0 a1 (0 : Int32) a2 ((a0 + 55) + 3 + 2 * (a1).toNatClampNeg) μ
      else
        fX5_sheet_74 a0 a1 a3 a2 ((a0 + 55) + 3 + 2 * (a1).toNatClampNeg) μ)
    else
      zbd (fX5_finding a0 (0 : Int32) μ) fun r13 m14 =>
      some (r13, m14)
  else
    zbd (fX5_finding a0 (6 : Int32) μ) fun r15 m16 =>
    some (r15, m16)
set_option maxRecDepth 100000 in
theorem lX5_sheet_35 {g : zG} {κ : zK} (X : zC g κ RX5 cX5_sheet 4 2) {Q : Int32 → zMem → Prop} (hret : ∀ pc lv r μ', decode cX5_sheet pc = .ok (.ireturn, 1) → True → Q r μ' → zV g κ pc lv [.int r] μ') : ∀ (a0 : Nat) (a1 : Int32) (a2 : Int32) (a3 : Int32) (μ : zMem) (ha0 : zkd a0 = 5), zok (fX5_sheet_35 a0 a1 a2 a3 μ) Q → zV g κ 35 [(0, .ref (zad g a0)), (1, .int a1), (2, .int a2), (3, .int a3)] [] μ := by
  intro a0 a1 a2 a3 μ ha0 h
  unfold fX5_sheet_35 at h
  refine zi_iload_n (pc' := 36) X dX5_sheet_35 rfl rfl 3 rfl ?_
  refine zi_if_ge (pc' := 39) (tgt := 46) X dX5_sheet_36 rfl rfl (fun c => ?_) (fun c => ?_)
  · replace h := zok_t h c
    refine zi_iload_n (pc' := 47) X dX5_sheet_46 rfl rfl 3 rfl ?_
    refine zi_bipush (pc' := 49) (v := (40 : Int32)) X dX5_sheet_47 rfl rfl ?_
    refine zi_icmp_le (pc' := 52) (tgt := 58) X dX5_sheet_49 rfl rfl (fun c => ?_) (fun c => ?_)
    · replace h := zok_t h c
      refine zi_aload_n (pc' := 59) X dX5_sheet_58 rfl rfl 0 rfl ?_
      refine zi_getr (pc' := 62) X zf_X5_38 rfl (by decide) ha0 dX5_sheet_59 rfl ?_
      have f5 := zr_5_5 ha0
      refine zi_iload_n (pc' := 63) X dX5_sheet_62 rfl rfl 1 rfl ?_
      obtain ⟨g6, h⟩ := zok_g h
      refine zi_aaldS (pc' := 64) X f5.1 (by rw [f5.2]; exact g6) dX5_sheet_63 rfl ?_
      have f7 := zr_sheet f5 g6
      refine zi_iload_n (pc' := 65) X dX5_sheet_64 rfl rfl 2 rfl ?_
      refine zi_iload_n (pc' := 66) X dX5_sheet_65 rfl rfl 2 rfl ?_
      refine zi_if_ne (pc' := 69) (tgt := 73) X dX5_sheet_66 rfl rfl (fun c => ?_) (fun c => ?_)
      · replace h := zok_f h c
        refine zi_iload_n (pc' := 74) X dX5_sheet_73 rfl rfl 3 rfl ?_
        exact zi_sub X [0, 1] _ rfl (lX5_sheet_74 X hret a0 a1 a3 a2 ((a0 + 55) + 3 + 2 * (a1).toNatClampNeg) (μ) ha0 f7 h)
      · replace h := zok_t h c
        refine zi_iconst (pc' := 70) (v := (0 : Int32)) X dX5_sheet_69 rfl rfl ?_
        refine zi_goto (pc' := 74) X dX5_sheet_70 rfl ?_
        exact zi_sub X [0, 1] _ rfl (lX5_sheet_74 X hret a0 a1 (0 : Int32) a2 ((a0 + 55) + 3 + 2 * (a1).toNatClampNeg) (μ) ha0 f7 h)
    · replace h := zok_f h c
      refine zi_aload_n (pc' := 53) X dX5_sheet_52 rfl rfl 0 rfl ?_
      refine zi_iconst (pc' := 54) (v := (0 : Int32)) X dX5_sheet_53 rfl rfl ?_
      refine zi_callVi (pc' := 57) X zl_X5_61 ha0 (by decide) [.int (0 : Int32)] rfl rfl (by decide) (Nat.le_of_ble_eq_true rfl) dX5_sheet_54 rfl (tX5_finding _ ha0 (zok_bd h (fun r13 m14 h => ?_)))
      exact hret _ _ _ _ dX5_sheet_57 trivial h
  · replace h := zok_f h c
    refine zi_aload_n (pc' := 40) X dX5_sheet_39 rfl rfl 0 rfl ?_
    refine zi_bipush (pc' := 42) (v := (6 : Int32)) X dX5_sheet_40 rfl rfl ?_
    refine zi_callVi (pc' := 45) X zl_X5_61 ha0 (by decide) [.int (6 : Int32)] rfl rfl (by decide) (Nat.le_of_ble_eq_true rfl) dX5_sheet_42 rfl (tX5_finding _ ha0 (zok_bd h (fun r15 m16 h => ?_)))
    exact hret _ _ _ _ dX5_sheet_45 trivial h
def fX5_sheet (a0 : Nat) (a1 : Int32) (a2 : Int32) (a3 : Int32) (μ : zMem) : Option (Int32 × zMem) :=
  zbd (fX5_isSheet a1 μ) fun r1 m2 =>
  if r1 = 0 then
    zbd (fX5_finding a0 (0 : Int32) m2) fun r3 m4 =>
    some (r3, m4)
  else
    if a2 = 0 then
      fX5_sheet_35 a0 a1 a2 a3 m2
    else
      if a2 = (8 : Int32) then
        fX5_sheet_35 a0 a1 a2 a3 m2
      else
        if a2 = (16 : Int32) then
          fX5_sheet_35 a0 a1 a2 a3 m2
        else
          if a2 = (32 : Int32) then
            fX5_sheet_35 a0 a1 a2 a3 m2
          else
            zbd (fX5_finding a0 (0 : Int32) m2) fun r17 m18 =>
            some (r17, m18)
set_option maxRecDepth 100000 in
set_option maxHeartbeats 4000000 in
theorem tX5_sheet (g : zG) {a0 : Nat} {a1 : Int32} {a2 : Int32} {a3 : Int32} {μ : zMem} {Q : Int32 → zMem → Prop} (ha0 : zkd a0 = 5) (h : zok (fX5_sheet a0 a1 a2 a3 μ) Q) : zTi g yX5_sheet cX5_sheet 4 .int 2 [.ref (zad g a0), .int a1, .int a2, .int a3] μ Q := by
  refine zTi_of (P := fun r => True) zpi RX5 (by decide) rfl (Nat.le_of_ble_eq_true rfl) ?_
  intro κ X hret
  unfold fX5_sheet at h
  refine zi_iload_n (pc' := 1) X dX5_sheet_0 rfl rfl 1 rfl ?_
  refine zi_callSi (pc' := 4) X zl_X5_249 [.int a1] rfl rfl (by decide) (Nat.le_of_ble_eq_true rfl) dX5_sheet_1 rfl (tX5_isSheet _ (zok_bd h (fun r1 m2 h => ?_)))
  refine zi_if_eq (pc' := 7) (tgt := 29) X dX5_sheet_4 rfl rfl (fun c => ?_) (fun c => ?_)
  · replace h := zok_t h c
    refine zi_aload_n (pc' := 30) X dX5_sheet_29 rfl rfl 0 rfl ?_
    refine zi_iconst (pc' := 31) (v := (0 : Int32)) X dX5_sheet_30 rfl rfl ?_
    refine zi_callVi (pc' := 34) X zl_X5_61 ha0 (by decide) [.int (0 : Int32)] rfl rfl (by decide) (Nat.le_of_ble_eq_true rfl) dX5_sheet_31 rfl (tX5_finding _ ha0 (zok_bd h (fun r3 m4 h => ?_)))
    exact hret _ _ _ _ dX5_sheet_34 trivial h
  · replace h := zok_f h c
    refine zi_iload_n (pc' := 8) X dX5_sheet_7 rfl rfl 2 rfl ?_
    refine zi_if_eq (pc' := 11) (tgt := 35) X dX5_sheet_8 rfl rfl (fun c => ?_) (fun c => ?_)
    · replace h := zok_t h c
      exact zi_sub X [0, 1, 2, 3] _ rfl (lX5_sheet_35 X hret a0 a1 a2 a3 (m2) ha0 h)
    · replace h := zok_f h c
      refine zi_iload_n (pc' := 12) X dX5_sheet_11 rfl rfl 2 rfl ?_
      refine zi_bipush (pc' := 14) (v := (8 : Int32)) X dX5_sheet_12 rfl rfl ?_
      refine zi_icmp_eq (pc' := 17) (tgt := 35) X dX5_sheet_14 rfl rfl (fun c => ?_) (fun c => ?_)
      · replace h := zok_t h c
        exact zi_sub X [0, 1, 2, 3] _ rfl (lX5_sheet_35 X hret a0 a1 a2 a3 (m2) ha0 h)
      · replace h := zok_f h c
        refine zi_iload_n (pc' := 18) X dX5_sheet_17 rfl rfl 2 rfl ?_
        refine zi_bipush (pc' := 20) (v := (16 : Int32)) X dX5_sheet_18 rfl rfl ?_
        refine zi_icmp_eq (pc' := 23) (tgt := 35) X dX5_sheet_20 rfl rfl (fun c => ?_) (fun c => ?_)
        · replace h := zok_t h c
          exact zi_sub X [0, 1, 2, 3] _ rfl (lX5_sheet_35 X hret a0 a1 a2 a3 (m2) ha0 h)
        · replace h := zok_f h c
          refine zi_iload_n (pc' := 24) X dX5_sheet_23 rfl rfl 2 rfl ?_
          refine zi_bipush (pc' := 26) (v := (32 : Int32)) X dX5_sheet_24 rfl rfl ?_
          refine zi_icmp_eq (pc' := 29) (tgt := 35) X dX5_sheet_26 rfl rfl (fun c => ?_) (fun c => ?_)
          · replace h := zok_t h c
            exact zi_sub X [0, 1, 2, 3] _ rfl (lX5_sheet_35 X hret a0 a1 a2 a3 (m2) ha0 h)
          · replace h := zok_f h c
            refine zi_aload_n (pc' := 30) X dX5_sheet_29 rfl rfl 0 rfl ?_
            refine zi_iconst (pc' := 31) (v := (0 : Int32)) X dX5_sheet_30 rfl rfl ?_
            refine zi_callVi (pc' := 34) X zl_X5_61 ha0 (by decide) [.int (0 : Int32)] rfl rfl (by decide) (Nat.le_of_ble_eq_true rfl) dX5_sheet_31 rfl (tX5_finding _ ha0 (zok_bd h (fun r17 m18 h => ?_)))
            exact hret _ _ _ _ dX5_sheet_34 trivial h
def fX5_spring (a0 : Nat) (a1 : Int32) (a2 : Int32) (μ : zMem) : Option (Int32 × zMem) :=
  zbd (fX5_isCell a1 μ) fun r1 m2 =>
  if r1 = 0 then
    zbd (fX5_finding a0 (0 : Int32) m2) fun r3 m4 =>
    some (r3, m4)
  else
    zbd (fX5_within a2 (0 : Int32) (1 : Int32) m2) fun r5 m6 =>
    if r5 = 0 then
      zbd (fX5_finding a0 (0 : Int32) m6) fun r13 m14 =>
      some (r13, m14)
    else
      zbd (fX0_springAt (a0 + 1) a1 m6) fun r8 m9 =>
      zbd (fX0_setSpring (a0 + 1) a1 a2 m9) fun _ m12 =>
      some (r8, m12)
set_option maxRecDepth 100000 in
set_option maxHeartbeats 4000000 in
theorem tX5_spring (g : zG) {a0 : Nat} {a1 : Int32} {a2 : Int32} {μ : zMem} {Q : Int32 → zMem → Prop} (ha0 : zkd a0 = 5) (h : zok (fX5_spring a0 a1 a2 μ) Q) : zTi g yX5_spring cX5_spring 4 .int 2 [.ref (zad g a0), .int a1, .int a2] μ Q := by
  refine zTi_of (P := fun r => True) zpi RX5 (by decide) rfl (Nat.le_of_ble_eq_true rfl) ?_
  intro κ X hret
  unfold fX5_spring at h
  refine zi_iload_n (pc' := 1) X dX5_spring_0 rfl rfl 1 rfl ?_
  refine zi_callSi (pc' := 4) X zl_X5_54 [.int a1] rfl rfl (by decide) (Nat.le_of_ble_eq_true rfl) dX5_spring_1 rfl (tX5_isCell _ (zok_bd h (fun r1 m2 h => ?_)))
  refine zi_if_eq (pc' := 7) (tgt := 16) X dX5_spring_4 rfl rfl (fun c => ?_) (fun c => ?_)
  · replace h := zok_t h c
    refine zi_aload_n (pc' := 17) X dX5_spring_16 rfl rfl 0 rfl ?_
    refine zi_iconst (pc' := 18) (v := (0 : Int32)) X dX5_spring_17 rfl rfl ?_
    refine zi_callVi (pc' := 21) X zl_X5_61 ha0 (by decide) [.int (0 : Int32)] rfl rfl (by decide) (Nat.le_of_ble_eq_true rfl) dX5_spring_18 rfl (tX5_finding _ ha0 (zok_bd h (fun r3 m4 h => ?_)))
    exact hret _ _ _ _ dX5_spring_21 trivial h
  · replace h := zok_f h c
    refine zi_iload_n (pc' := 8) X dX5_spring_7 rfl rfl 2 rfl ?_
    refine zi_iconst (pc' := 9) (v := (0 : Int32)) X dX5_spring_8 rfl rfl ?_
    refine zi_iconst (pc' := 10) (v := (1 : Int32)) X dX5_spring_9 rfl rfl ?_
    refine zi_callSi (pc' := 13) X zl_X5_68 [.int a2, .int (0 : Int32), .int (1 : Int32)] rfl rfl (by decide) (Nat.le_of_ble_eq_true rfl) dX5_spring_10 rfl (tX5_within _ (zok_bd h (fun r5 m6 h => ?_)))
    refine zi_if_ne (pc' := 16) (tgt := 22) X dX5_spring_13 rfl rfl (fun c => ?_) (fun c => ?_)
    · replace h := zok_f h c
      refine zi_aload_n (pc' := 23) X dX5_spring_22 rfl rfl 0 rfl ?_
      refine zi_getr (pc' := 26) X zf_X5_10 rfl (by decide) ha0 dX5_spring_23 rfl ?_
      have f7 := zr_5_0 ha0
      refine zi_iload_n (pc' := 27) X dX5_spring_26 rfl rfl 1 rfl ?_
      refine zi_callVi (pc' := 30) X zl_X5_72 f7 (by decide) [.int a1] rfl rfl (by decide) (Nat.le_of_ble_eq_true rfl) dX5_spring_27 rfl (tX0_springAt _ f7 (zok_bd h (fun r8 m9 h => ?_)))
      refine zi_istore_n (pc' := 31) X dX5_spring_30 rfl rfl (by decide) [(3, .int r8), (0, .ref (zad g a0)), (1, .int a1), (2, .int a2)] rfl ?_
      refine zi_aload_n (pc' := 32) X dX5_spring_31 rfl rfl 1 rfl ?_
      refine zi_getr (pc' := 35) X zf_X5_10 rfl (by decide) ha0 dX5_spring_32 rfl ?_
      have f10 := zr_5_0 ha0
      refine zi_iload_n (pc' := 36) X dX5_spring_35 rfl rfl 2 rfl ?_
      refine zi_iload_n (pc' := 37) X dX5_spring_36 rfl rfl 3 rfl ?_
      refine zi_callVv (pc' := 40) X zl_X5_75 f10 (by decide) [.int a1, .int a2] rfl rfl (by decide) (Nat.le_of_ble_eq_true rfl) dX5_spring_37 rfl (tX0_setSpring _ f10 (zok_bd h (fun _ m12 h => ?_)))
      refine zi_iload_n (pc' := 41) X dX5_spring_40 rfl rfl 0 rfl ?_
      exact hret _ _ _ _ dX5_spring_41 trivial h
    · replace h := zok_t h c
      refine zi_aload_n (pc' := 17) X dX5_spring_16 rfl rfl 0 rfl ?_
      refine zi_iconst (pc' := 18) (v := (0 : Int32)) X dX5_spring_17 rfl rfl ?_
      refine zi_callVi (pc' := 21) X zl_X5_61 ha0 (by decide) [.int (0 : Int32)] rfl rfl (by decide) (Nat.le_of_ble_eq_true rfl) dX5_spring_18 rfl (tX5_finding _ ha0 (zok_bd h (fun r13 m14 h => ?_)))
      exact hret _ _ _ _ dX5_spring_21 trivial h
def fX5_status_31 : Nat → Nat → Int32 → Int32 → zMem → Option (Int32 × zMem)
  | 0, _, _, _, _ => none
  | n + 1, a0, a2, a3, μ =>
    if (7 : Int32) ≤ a3 then
      some (a2, μ)
    else
      zgd (zib a3 7) (
      fX5_status_31 n a0 (a2 + (μ (a0 + 56) (a3).toNatClampNeg)) (a3 + (1 : Int32)) μ)
set_option maxRecDepth 100000 in
theorem lX5_status_31 {g : zG} {κ : zK} (X : zC g κ RX5 cX5_status 4 2) {Q : Int32 → zMem → Prop} (hret : ∀ pc lv r μ', decode cX5_status pc = .ok (.ireturn, 1) → True → Q r μ' → zV g κ pc lv [.int r] μ') : ∀ (n : Nat) (a0 : Nat) (a2 : Int32) (a3 : Int32) (μ : zMem) (ha0 : zkd a0 = 5), zok (fX5_status_31 n a0 a2 a3 μ) Q → zV g κ 31 [(0, .ref (zad g a0)), (2, .int a2), (3, .int a3)] [] μ := by
  intro n
  induction n with
  | zero =>
    intro a0 a2 a3 μ ha0 h
    exact h.elim
  | succ n ih =>
    intro a0 a2 a3 μ ha0 h
    rw [fX5_status_31] at h
    refine zi_iload_n (pc' := 32) X dX5_status_31 rfl rfl 2 rfl ?_
    refine zi_bipush (pc' := 34) (v := (7 : Int32)) X dX5_status_32 rfl rfl ?_
    refine zi_icmp_ge (pc' := 37) (tgt := 52) X dX5_status_34 rfl rfl (fun c => ?_) (fun c => ?_)
    · replace h := zok_t h c
      refine zi_iload_n (pc' := 53) X dX5_status_52 rfl rfl 1 rfl ?_
      exact hret _ _ _ _ dX5_status_53 trivial h
    · replace h := zok_f h c
      refine zi_iload_n (pc' := 38) X dX5_status_37 rfl rfl 1 rfl ?_
      refine zi_aload_n (pc' := 39) X dX5_status_38 rfl rfl 0 rfl ?_
      refine zi_getr (pc' := 42) X zf_X5_42 rfl (by decide) ha0 dX5_status_39 rfl ?_
      have f3 := zr_5_6 ha0
      refine zi_iload_n (pc' := 43) X dX5_status_42 rfl rfl 2 rfl ?_
      obtain ⟨g4, h⟩ := zok_g h
      refine zi_iald (pc' := 44) X f3.1 (by rw [f3.2]; exact g4) dX5_status_43 rfl ?_
      refine zi_iadd (pc' := 45) X dX5_status_44 rfl ?_
      refine zi_istore_n (pc' := 46) X dX5_status_45 rfl rfl (by decide) [(2, .int (a2 + (μ (a0 + 56) (a3).toNatClampNeg))), (0, .ref (zad g a0)), (3, .int a3)] rfl ?_
      refine zi_iinc (pc' := 49) (v := (a3 + (1 : Int32))) X dX5_status_46 rfl 2 rfl rfl (by decide) [(3, .int (a3 + (1 : Int32))), (2, .int (a2 + (μ (a0 + 56) (a3).toNatClampNeg))), (0, .ref (zad g a0))] rfl ?_
      refine zi_goto (pc' := 31) X dX5_status_49 rfl ?_
      exact zi_sub X [2, 1, 0] _ rfl (ih a0 (a2 + (μ (a0 + 56) (a3).toNatClampNeg)) (a3 + (1 : Int32)) (μ) ha0 h)
def fX5_status (a0 : Nat) (a1 : Int32) (μ : zMem) : Option (Int32 × zMem) :=
  zbd (fX5_within a1 (-1 : Int32) (6 : Int32) μ) fun r1 m2 =>
  if r1 = 0 then
    zbd (fX5_finding a0 (0 : Int32) m2) fun r7 m8 =>
    some (r7, m8)
  else
    if a1 < 0 then
      fX5_status_31 200 a0 (0 : Int32) (0 : Int32) m2
    else
      zgd (zib a1 7) (
      some ((m2 (a0 + 56) (a1).toNatClampNeg), m2))
set_option maxRecDepth 100000 in
set_option maxHeartbeats 4000000 in
theorem tX5_status (g : zG) {a0 : Nat} {a1 : Int32} {μ : zMem} {Q : Int32 → zMem → Prop} (ha0 : zkd a0 = 5) (h : zok (fX5_status a0 a1 μ) Q) : zTi g yX5_status cX5_status 4 .int 2 [.ref (zad g a0), .int a1] μ Q := by
  refine zTi_of (P := fun r => True) zpi RX5 (by decide) rfl (Nat.le_of_ble_eq_true rfl) ?_
  intro κ X hret
  unfold fX5_status at h
  refine zi_iload_n (pc' := 1) X dX5_status_0 rfl rfl 1 rfl ?_
  refine zi_iconst (pc' := 2) (v := (-1 : Int32)) X dX5_status_1 rfl rfl ?_
  refine zi_bipush (pc' := 4) (v := (6 : Int32)) X dX5_status_2 rfl rfl ?_
  refine zi_callSi (pc' := 7) X zl_X5_68 [.int a1, .int (-1 : Int32), .int (6 : Int32)] rfl rfl (by decide) (Nat.le_of_ble_eq_true rfl) dX5_status_4 rfl (tX5_within _ (zok_bd h (fun r1 m2 h => ?_)))
  refine zi_if_ne (pc' := 10) (tgt := 16) X dX5_status_7 rfl rfl (fun c => ?_) (fun c => ?_)
  · replace h := zok_f h c
    refine zi_iload_n (pc' := 17) X dX5_status_16 rfl rfl 1 rfl ?_
    refine zi_if_lt (pc' := 20) (tgt := 27) X dX5_status_17 rfl rfl (fun c => ?_) (fun c => ?_)
    · replace h := zok_t h c
      refine zi_iconst (pc' := 28) (v := (0 : Int32)) X dX5_status_27 rfl rfl ?_
      refine zi_istore_n (pc' := 29) X dX5_status_28 rfl rfl (by decide) [(2, .int (0 : Int32)), (0, .ref (zad g a0)), (1, .int a1)] rfl ?_
      refine zi_iconst (pc' := 30) (v := (0 : Int32)) X dX5_status_29 rfl rfl ?_
      refine zi_istore_n (pc' := 31) X dX5_status_30 rfl rfl (by decide) [(3, .int (0 : Int32)), (2, .int (0 : Int32)), (0, .ref (zad g a0)), (1, .int a1)] rfl ?_
      exact zi_sub X [2, 1, 0] _ rfl (lX5_status_31 X hret 200 a0 (0 : Int32) (0 : Int32) (m2) ha0 h)
    · replace h := zok_f h c
      refine zi_aload_n (pc' := 21) X dX5_status_20 rfl rfl 0 rfl ?_
      refine zi_getr (pc' := 24) X zf_X5_42 rfl (by decide) ha0 dX5_status_21 rfl ?_
      have f5 := zr_5_6 ha0
      refine zi_iload_n (pc' := 25) X dX5_status_24 rfl rfl 1 rfl ?_
      obtain ⟨g6, h⟩ := zok_g h
      refine zi_iald (pc' := 26) X f5.1 (by rw [f5.2]; exact g6) dX5_status_25 rfl ?_
      exact hret _ _ _ _ dX5_status_26 trivial h
  · replace h := zok_t h c
    refine zi_aload_n (pc' := 11) X dX5_status_10 rfl rfl 0 rfl ?_
    refine zi_iconst (pc' := 12) (v := (0 : Int32)) X dX5_status_11 rfl rfl ?_
    refine zi_callVi (pc' := 15) X zl_X5_61 ha0 (by decide) [.int (0 : Int32)] rfl rfl (by decide) (Nat.le_of_ble_eq_true rfl) dX5_status_12 rfl (tX5_finding _ ha0 (zok_bd h (fun r7 m8 h => ?_)))
    exact hret _ _ _ _ dX5_status_15 trivial h
def fX5_change (a0 : Nat) (a1 : Int32) (a2 : Int32) (a3 : Int32) (μ : zMem) : Option (Int32 × zMem) :=
  zbd (fX5_isTent a0 a1 μ) fun r1 m2 =>
  if r1 = 0 then
    zbd (fX5_finding a0 (0 : Int32) m2) fun r3 m4 =>
    some (r3, m4)
  else
    zbd (fX4_mayBecome a2 a3 m2) fun r5 m6 =>
    if r5 = 0 then
      zbd (fX5_finding a0 (0 : Int32) m6) fun r19 m20 =>
      some (r19, m20)
    else
      zgd (zib a1 6) (
      zbd (fX4_trait (((a0 + 1) + 3) + 1 + 2 * (a1).toNatClampNeg) a2 m6) fun r11 m12 =>
      zgd (zib a1 6) (
      zbd (fX4_setTrait (((a0 + 1) + 3) + 1 + 2 * (a1).toNatClampNeg) a2 a3 m12) fun _ m18 =>
      some (r11, m18)))
set_option maxRecDepth 100000 in
set_option maxHeartbeats 4000000 in
theorem tX5_change (g : zG) {a0 : Nat} {a1 : Int32} {a2 : Int32} {a3 : Int32} {μ : zMem} {Q : Int32 → zMem → Prop} (ha0 : zkd a0 = 5) (h : zok (fX5_change a0 a1 a2 a3 μ) Q) : zTi g yX5_change cX5_change 5 .int 3 [.ref (zad g a0), .int a1, .int a2, .int a3] μ Q := by
  refine zTi_of (P := fun r => True) zpi RX5 (by decide) rfl (Nat.le_of_ble_eq_true rfl) ?_
  intro κ X hret
  unfold fX5_change at h
  refine zi_aload_n (pc' := 1) X dX5_change_0 rfl rfl 0 rfl ?_
  refine zi_iload_n (pc' := 2) X dX5_change_1 rfl rfl 1 rfl ?_
  refine zi_callVi (pc' := 5) X zl_X5_96 ha0 (by decide) [.int a1] rfl rfl (by decide) (Nat.le_of_ble_eq_true rfl) dX5_change_2 rfl (tX5_isTent _ ha0 (zok_bd h (fun r1 m2 h => ?_)))
  refine zi_if_eq (pc' := 8) (tgt := 16) X dX5_change_5 rfl rfl (fun c => ?_) (fun c => ?_)
  · replace h := zok_t h c
    refine zi_aload_n (pc' := 17) X dX5_change_16 rfl rfl 0 rfl ?_
    refine zi_iconst (pc' := 18) (v := (0 : Int32)) X dX5_change_17 rfl rfl ?_
    refine zi_callVi (pc' := 21) X zl_X5_61 ha0 (by decide) [.int (0 : Int32)] rfl rfl (by decide) (Nat.le_of_ble_eq_true rfl) dX5_change_18 rfl (tX5_finding _ ha0 (zok_bd h (fun r3 m4 h => ?_)))
    exact hret _ _ _ _ dX5_change_21 trivial h
  · replace h := zok_f h c
    refine zi_iload_n (pc' := 9) X dX5_change_8 rfl rfl 2 rfl ?_
    refine zi_iload_n (pc' := 10) X dX5_change_9 rfl rfl 3 rfl ?_
    refine zi_callSi (pc' := 13) X zl_X5_108 [.int a2, .int a3] rfl rfl (by decide) (Nat.le_of_ble_eq_true rfl) dX5_change_10 rfl (tX4_mayBecome _ (zok_bd h (fun r5 m6 h => ?_)))
    refine zi_if_ne (pc' := 16) (tgt := 22) X dX5_change_13 rfl rfl (fun c => ?_) (fun c => ?_)
    · replace h := zok_f h c
      refine zi_aload_n (pc' := 23) X dX5_change_22 rfl rfl 0 rfl ?_
      refine zi_getr (pc' := 26) X zf_X5_10 rfl (by decide) ha0 dX5_change_23 rfl ?_
      have f7 := zr_5_0 ha0
      refine zi_getr (pc' := 29) X zf_X5_99 rfl (by decide) f7 dX5_change_26 rfl ?_
      have f8 := zr_0_2 f7
      refine zi_iload_n (pc' := 30) X dX5_change_29 rfl rfl 1 rfl ?_
      obtain ⟨g9, h⟩ := zok_g h
      refine zi_aaldT (pc' := 31) X f8.1 (by rw [f8.2]; exact g9) dX5_change_30 rfl ?_
      have f10 := zr_tent f8 g9
      refine zi_iload_n (pc' := 32) X dX5_change_31 rfl rfl 2 rfl ?_
      refine zi_callVi (pc' := 35) X zl_X5_103 f10 (by decide) [.int a2] rfl rfl (by decide) (Nat.le_of_ble_eq_true rfl) dX5_change_32 rfl (tX4_trait _ f10 (zok_bd h (fun r11 m12 h => ?_)))
      refine zi_istore (pc' := 37) X dX5_change_35 rfl (by decide) [(4, .int r11), (0, .ref (zad g a0)), (1, .int a1), (2, .int a2), (3, .int a3)] rfl ?_
      refine zi_aload_n (pc' := 38) X dX5_change_37 rfl rfl 1 rfl ?_
      refine zi_getr (pc' := 41) X zf_X5_10 rfl (by decide) ha0 dX5_change_38 rfl ?_
      have f13 := zr_5_0 ha0
      refine zi_getr (pc' := 44) X zf_X5_99 rfl (by decide) f13 dX5_change_41 rfl ?_
      have f14 := zr_0_2 f13
      refine zi_iload_n (pc' := 45) X dX5_change_44 rfl rfl 2 rfl ?_
      obtain ⟨g15, h⟩ := zok_g h
      refine zi_aaldT (pc' := 46) X f14.1 (by rw [f14.2]; exact g15) dX5_change_45 rfl ?_
      have f16 := zr_tent f14 g15
      refine zi_iload_n (pc' := 47) X dX5_change_46 rfl rfl 3 rfl ?_
      refine zi_iload_n (pc' := 48) X dX5_change_47 rfl rfl 4 rfl ?_
      refine zi_callVv (pc' := 51) X zl_X5_112 f16 (by decide) [.int a2, .int a3] rfl rfl (by decide) (Nat.le_of_ble_eq_true rfl) dX5_change_48 rfl (tX4_setTrait _ f16 (zok_bd h (fun _ m18 h => ?_)))
      refine zi_iload (pc' := 53) X dX5_change_51 rfl 0 rfl ?_
      exact hret _ _ _ _ dX5_change_53 trivial h
    · replace h := zok_t h c
      refine zi_aload_n (pc' := 17) X dX5_change_16 rfl rfl 0 rfl ?_
      refine zi_iconst (pc' := 18) (v := (0 : Int32)) X dX5_change_17 rfl rfl ?_
      refine zi_callVi (pc' := 21) X zl_X5_61 ha0 (by decide) [.int (0 : Int32)] rfl rfl (by decide) (Nat.le_of_ble_eq_true rfl) dX5_change_18 rfl (tX5_finding _ ha0 (zok_bd h (fun r19 m20 h => ?_)))
      exact hret _ _ _ _ dX5_change_21 trivial h
