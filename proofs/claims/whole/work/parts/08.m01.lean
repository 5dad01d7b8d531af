def fX2_renew (a0 : Nat) (a1 : Int32) (a2 : Int32) (μ : zMem) : Option (Unit × zMem) :=
  zbd (fJ7_fill_53178 (a0 + 1) (0 : Int32) (zst (zst μ a0 0 a1) a0 1 a2)) fun _ m3 =>
  some ((), m3)
set_option maxRecDepth 100000 in
set_option maxHeartbeats 4000000 in
theorem tX2_renew (g : zG) {a0 : Nat} {a1 : Int32} {a2 : Int32} {μ : zMem} {Q : Unit → zMem → Prop} (ha0 : zkd a0 = 2) (h : zok (fX2_renew a0 a1 a2 μ) Q) : zTv g yX2_renew cX2_renew 3 1 [.ref (zad g a0), .int a1, .int a2] μ Q := by
  refine zTv_of RX2 (by decide) rfl (Nat.le_of_ble_eq_true rfl) ?_
  intro κ X hret
  unfold fX2_renew at h
  refine zi_aload_n (pc' := 1) X dX2_renew_0 rfl rfl 0 rfl ?_
  refine zi_iload_n (pc' := 2) X dX2_renew_1 rfl rfl 1 rfl ?_
  refine zi_put (pc' := 5) X zf_X2_9 zw_2_0 rfl (by decide) ha0 rfl rfl dX2_renew_2 rfl ?_
  refine zi_aload_n (pc' := 6) X dX2_renew_5 rfl rfl 0 rfl ?_
  refine zi_iload_n (pc' := 7) X dX2_renew_6 rfl rfl 2 rfl ?_
  refine zi_put (pc' := 10) X zf_X2_15 zw_2_1 rfl (by decide) ha0 rfl rfl dX2_renew_7 rfl ?_
  refine zi_aload_n (pc' := 11) X dX2_renew_10 rfl rfl 0 rfl ?_
  refine zi_getr (pc' := 14) X zf_X2_18 rfl (by decide) ha0 dX2_renew_11 rfl ?_
  have f1 := zr_2_2 ha0
  refine zi_iconst (pc' := 15) (v := (0 : Int32)) X dX2_renew_14 rfl rfl ?_
  refine zi_callSv (pc' := 18) X zl_X2_22 [.ref (zad g (a0 + 1)), .int (0 : Int32)] rfl rfl (by decide) (Nat.le_of_ble_eq_true rfl) dX2_renew_15 rfl (tJ7_fill_53178 _ f1.1 (zok_bd h (fun _ m3 h => ?_)))
  exact hret _ _ _ dX2_renew_18 h
def fX0_draw (a0 : Nat) (μ : zMem) : Option (Int32 × zMem) :=
  some ((((((zst μ a0 6 (((μ a0 6) * (1103515245 : Int32)) + (12345 : Int32))) a0 6)).toUInt32 >>> (((8 : Int32)).toUInt32 &&& Int32.toUInt32 31)).toInt32), (zst μ a0 6 (((μ a0 6) * (1103515245 : Int32)) + (12345 : Int32))))
set_option maxRecDepth 100000 in
set_option maxHeartbeats 4000000 in
theorem tX0_draw (g : zG) {a0 : Nat} {μ : zMem} {Q : Int32 → zMem → Prop} (ha0 : zkd a0 = 0) (h : zok (fX0_draw a0 μ) Q) : zTi g yX0_draw cX0_draw 1 .int 0 [.ref (zad g a0)] μ Q := by
  refine zTi_of (P := fun r => True) zpi RX0 (by decide) rfl (Nat.le_of_ble_eq_true rfl) ?_
  intro κ X hret
  unfold fX0_draw at h
  refine zi_aload_n (pc' := 1) X dX0_draw_0 rfl rfl 0 rfl ?_
  refine zi_aload_n (pc' := 2) X dX0_draw_1 rfl rfl 0 rfl ?_
  refine zi_geti (pc' := 5) X zf_X0_34 rfl (by decide) ha0 dX0_draw_2 rfl ?_
  refine zi_ldc (pc' := 7) X dX0_draw_5 rfl zk_X0_61 ?_
  refine zi_imul (pc' := 8) X dX0_draw_7 rfl ?_
  refine zi_sipush (pc' := 11) (v := (12345 : Int32)) X dX0_draw_8 rfl rfl ?_
  refine zi_iadd (pc' := 12) X dX0_draw_11 rfl ?_
  refine zi_put (pc' := 15) X zf_X0_34 zw_0_6 rfl (by decide) ha0 rfl rfl dX0_draw_12 rfl ?_
  refine zi_aload_n (pc' := 16) X dX0_draw_15 rfl rfl 0 rfl ?_
  refine zi_geti (pc' := 19) X zf_X0_34 rfl (by decide) ha0 dX0_draw_16 rfl ?_
  refine zi_bipush (pc' := 21) (v := (8 : Int32)) X dX0_draw_19 rfl rfl ?_
  refine zi_iushr (pc' := 22) X dX0_draw_21 rfl ?_
  exact hret _ _ _ _ dX0_draw_22 trivial h
def fX0_heightSum_4 : Nat → Nat → Int32 → Int32 → zMem → Option (Int32 × zMem)
  | 0, _, _, _, _ => none
  | n + 1, a0, a1, a2, μ =>
    if (25 : Int32) ≤ a2 then
      some (a1, μ)
    else
      zgd (zib a2 25) (
      fX0_heightSum_4 n a0 (a1 + (μ (a0 + 1) (a2).toNatClampNeg)) (a2 + (1 : Int32)) μ)
set_option maxRecDepth 100000 in
theorem lX0_heightSum_4 {g : zG} {κ : zK} (X : zC g κ RX0 cX0_heightSum 3 0) {Q : Int32 → zMem → Prop} (hret : ∀ pc lv r μ', decode cX0_heightSum pc = .ok (.ireturn, 1) → True → Q r μ' → zV g κ pc lv [.int r] μ') : ∀ (n : Nat) (a0 : Nat) (a1 : Int32) (a2 : Int32) (μ : zMem) (ha0 : zkd a0 = 0), zok (fX0_heightSum_4 n a0 a1 a2 μ) Q → zV g κ 4 [(0, .ref (zad g a0)), (1, .int a1), (2, .int a2)] [] μ := by
  intro n
  induction n with
  | zero =>
    intro a0 a1 a2 μ ha0 h
    exact h.elim
  | succ n ih =>
    intro a0 a1 a2 μ ha0 h
    rw [fX0_heightSum_4] at h
    refine zi_iload_n (pc' := 5) X dX0_heightSum_4 rfl rfl 2 rfl ?_
    refine zi_bipush (pc' := 7) (v := (25 : Int32)) X dX0_heightSum_5 rfl rfl ?_
    refine zi_icmp_ge (pc' := 10) (tgt := 25) X dX0_heightSum_7 rfl rfl (fun c => ?_) (fun c => ?_)
    · replace h := zok_t h c
      refine zi_iload_n (pc' := 26) X dX0_heightSum_25 rfl rfl 1 rfl ?_
      exact hret _ _ _ _ dX0_heightSum_26 trivial h
    · replace h := zok_f h c
      refine zi_iload_n (pc' := 11) X dX0_heightSum_10 rfl rfl 1 rfl ?_
      refine zi_aload_n (pc' := 12) X dX0_heightSum_11 rfl rfl 0 rfl ?_
      refine zi_getr (pc' := 15) X zf_X0_9 rfl (by decide) ha0 dX0_heightSum_12 rfl ?_
      have f1 := zr_0_0 ha0
      refine zi_iload_n (pc' := 16) X dX0_heightSum_15 rfl rfl 2 rfl ?_
      obtain ⟨g2, h⟩ := zok_g h
      refine zi_iald (pc' := 17) X f1.1 (by rw [f1.2]; exact g2) dX0_heightSum_16 rfl ?_
      refine zi_iadd (pc' := 18) X dX0_heightSum_17 rfl ?_
      refine zi_istore_n (pc' := 19) X dX0_heightSum_18 rfl rfl (by decide) [(1, .int (a1 + (μ (a0 + 1) (a2).toNatClampNeg))), (0, .ref (zad g a0)), (2, .int a2)] rfl ?_
      refine zi_iinc (pc' := 22) (v := (a2 + (1 : Int32))) X dX0_heightSum_19 rfl 2 rfl rfl (by decide) [(2, .int (a2 + (1 : Int32))), (1, .int (a1 + (μ (a0 + 1) (a2).toNatClampNeg))), (0, .ref (zad g a0))] rfl ?_
      refine zi_goto (pc' := 4) X dX0_heightSum_22 rfl ?_
      exact zi_sub X [2, 1, 0] _ rfl (ih a0 (a1 + (μ (a0 + 1) (a2).toNatClampNeg)) (a2 + (1 : Int32)) (μ) ha0 h)
def fX0_heightSum (a0 : Nat) (μ : zMem) : Option (Int32 × zMem) :=
  fX0_heightSum_4 200 a0 (0 : Int32) (0 : Int32) μ
set_option maxRecDepth 100000 in
set_option maxHeartbeats 4000000 in
theorem tX0_heightSum (g : zG) {a0 : Nat} {μ : zMem} {Q : Int32 → zMem → Prop} (ha0 : zkd a0 = 0) (h : zok (fX0_heightSum a0 μ) Q) : zTi g yX0_heightSum cX0_heightSum 3 .int 0 [.ref (zad g a0)] μ Q := by
  refine zTi_of (P := fun r => True) zpi RX0 (by decide) rfl (Nat.le_of_ble_eq_true rfl) ?_
  intro κ X hret
  unfold fX0_heightSum at h
  refine zi_iconst (pc' := 1) (v := (0 : Int32)) X dX0_heightSum_0 rfl rfl ?_
  refine zi_istore_n (pc' := 2) X dX0_heightSum_1 rfl rfl (by decide) [(1, .int (0 : Int32)), (0, .ref (zad g a0))] rfl ?_
  refine zi_iconst (pc' := 3) (v := (0 : Int32)) X dX0_heightSum_2 rfl rfl ?_
  refine zi_istore_n (pc' := 4) X dX0_heightSum_3 rfl rfl (by decide) [(2, .int (0 : Int32)), (1, .int (0 : Int32)), (0, .ref (zad g a0))] rfl ?_
  exact zi_sub X [2, 1, 0] _ rfl (lX0_heightSum_4 X hret 200 a0 (0 : Int32) (0 : Int32) (μ) ha0 h)
def fX0_liesAs_2 : Nat → Nat → Nat → Int32 → zMem → Option (Int32 × zMem)
  | 0, _, _, _, _ => none
  | n + 1, a0, a1, a2, μ =>
    if (25 : Int32) ≤ a2 then
      some ((1 : Int32), μ)
    else
      zgd (zib a2 25) (
      zgd (zib a2 (zln a1)) (
      if (μ (a0 + 1) (a2).toNatClampNeg) = (μ a1 (a2).toNatClampNeg) then
        fX0_liesAs_2 n a0 a1 (a2 + (1 : Int32)) μ
      else
        some ((0 : Int32), μ)))
set_option maxRecDepth 100000 in
theorem lX0_liesAs_2 {g : zG} {κ : zK} (X : zC g κ RX0 cX0_liesAs 3 0) {Q : Int32 → zMem → Prop} (hret : ∀ pc lv r μ', decode cX0_liesAs pc = .ok (.ireturn, 1) → (r = 0 ∨ r = 1) → Q r μ' → zV g κ pc lv [.int r] μ') : ∀ (n : Nat) (a0 : Nat) (a1 : Nat) (a2 : Int32) (μ : zMem) (ha0 : zkd a0 = 0) (ha1 : zR a1 7 (zln a1)), zok (fX0_liesAs_2 n a0 a1 a2 μ) Q → zV g κ 2 [(0, .ref (zad g a0)), (1, .ref (zad g a1)), (2, .int a2)] [] μ := by
  intro n
  induction n with
  | zero =>
    intro a0 a1 a2 μ ha0 ha1 h
    exact h.elim
  | succ n ih =>
    intro a0 a1 a2 μ ha0 ha1 h
    rw [fX0_liesAs_2] at h
    refine zi_iload_n (pc' := 3) X dX0_liesAs_2 rfl rfl 2 rfl ?_
    refine zi_bipush (pc' := 5) (v := (25 : Int32)) X dX0_liesAs_3 rfl rfl ?_
    refine zi_icmp_ge (pc' := 8) (tgt := 28) X dX0_liesAs_5 rfl rfl (fun c => ?_) (fun c => ?_)
    · replace h := zok_t h c
      refine zi_iconst (pc' := 29) (v := (1 : Int32)) X dX0_liesAs_28 rfl rfl ?_
      exact hret _ _ _ _ dX0_liesAs_29 (by decide) h
    · replace h := zok_f h c
      refine zi_aload_n (pc' := 9) X dX0_liesAs_8 rfl rfl 0 rfl ?_
      refine zi_getr (pc' := 12) X zf_X0_9 rfl (by decide) ha0 dX0_liesAs_9 rfl ?_
      have f1 := zr_0_0 ha0
      refine zi_iload_n (pc' := 13) X dX0_liesAs_12 rfl rfl 2 rfl ?_
      obtain ⟨g2, h⟩ := zok_g h
      refine zi_iald (pc' := 14) X f1.1 (by rw [f1.2]; exact g2) dX0_liesAs_13 rfl ?_
      refine zi_aload_n (pc' := 15) X dX0_liesAs_14 rfl rfl 1 rfl ?_
      refine zi_iload_n (pc' := 16) X dX0_liesAs_15 rfl rfl 2 rfl ?_
      obtain ⟨g3, h⟩ := zok_g h
      refine zi_iald (pc' := 17) X ha1.1 (by rw [ha1.2]; exact g3) dX0_liesAs_16 rfl ?_
      refine zi_icmp_eq (pc' := 20) (tgt := 22) X dX0_liesAs_17 rfl rfl (fun c => ?_) (fun c => ?_)
      · replace h := zok_t h c
        refine zi_iinc (pc' := 25) (v := (a2 + (1 : Int32))) X dX0_liesAs_22 rfl 2 rfl rfl (by decide) [(2, .int (a2 + (1 : Int32))), (0, .ref (zad g a0)), (1, .ref (zad g a1))] rfl ?_
        refine zi_goto (pc' := 2) X dX0_liesAs_25 rfl ?_
        exact zi_sub X [1, 2, 0] _ rfl (ih a0 a1 (a2 + (1 : Int32)) (μ) ha0 ha1 h)
      · replace h := zok_f h c
        refine zi_iconst (pc' := 21) (v := (0 : Int32)) X dX0_liesAs_20 rfl rfl ?_
        exact hret _ _ _ _ dX0_liesAs_21 (by decide) h
def fX0_liesAs (a0 : Nat) (a1 : Nat) (μ : zMem) : Option (Int32 × zMem) :=
  fX0_liesAs_2 200 a0 a1 (0 : Int32) μ
set_option maxRecDepth 100000 in
set_option maxHeartbeats 4000000 in
theorem tX0_liesAs (g : zG) {a0 : Nat} {a1 : Nat} {μ : zMem} {Q : Int32 → zMem → Prop} (ha0 : zkd a0 = 0) (ha1 : zkd a1 = 7) (h : zok (fX0_liesAs a0 a1 μ) Q) : zTi g yX0_liesAs cX0_liesAs 3 .boolean 0 [.ref (zad g a0), .ref (zad g a1)] μ Q := by
  refine zTi_of (P := fun r => r = 0 ∨ r = 1) zpb RX0 (by decide) rfl (Nat.le_of_ble_eq_true rfl) ?_
  intro κ X hret
  unfold fX0_liesAs at h
  have ha1 : zR a1 7 (zln a1) := ⟨ha1, rfl⟩
  refine zi_iconst (pc' := 1) (v := (0 : Int32)) X dX0_liesAs_0 rfl rfl ?_
  refine zi_istore_n (pc' := 2) X dX0_liesAs_1 rfl rfl (by decide) [(2, .int (0 : Int32)), (0, .ref (zad g a0)), (1, .ref (zad g a1))] rfl ?_
  exact zi_sub X [1, 2, 0] _ rfl (lX0_liesAs_2 X hret 200 a0 a1 (0 : Int32) (μ) ha0 ha1 h)
def fX0_pitchAlone_2 : Nat → Nat → Int32 → Int32 → Int32 → zMem → Option (Unit × zMem)
  | 0, _, _, _, _, _ => none
  | n + 1, a0, a1, a2, a3, μ =>
    if (μ a0 3) ≤ a3 then
      some ((), μ)
    else
      zgd (zib a3 6) (
      if a3 = a1 then
        fX0_pitchAlone_2 n a0 a1 a2 (a3 + (1 : Int32)) (zst μ ((a0 + 3) + 1 + 2 * (a3).toNatClampNeg) 1 a2)
      else
        fX0_pitchAlone_2 n a0 a1 a2 (a3 + (1 : Int32)) (zst μ ((a0 + 3) + 1 + 2 * (a3).toNatClampNeg) 1 (-1 : Int32)))
set_option maxRecDepth 100000 in
theorem lX0_pitchAlone_2 {g : zG} {κ : zK} (X : zC g κ RX0 cX0_pitchAlone 4 0) {Q : Unit → zMem → Prop} (hret : ∀ pc lv μ', decode cX0_pitchAlone pc = .ok (.return_, 1) → Q () μ' → zV g κ pc lv [] μ') : ∀ (n : Nat) (a0 : Nat) (a1 : Int32) (a2 : Int32) (a3 : Int32) (μ : zMem) (ha0 : zkd a0 = 0), zok (fX0_pitchAlone_2 n a0 a1 a2 a3 μ) Q → zV g κ 2 [(0, .ref (zad g a0)), (1, .int a1), (2, .int a2), (3, .int a3)] [] μ := by
  intro n
  induction n with
  | zero =>
    intro a0 a1 a2 a3 μ ha0 h
    exact h.elim
  | succ n ih =>
    intro a0 a1 a2 a3 μ ha0 h
    rw [fX0_pitchAlone_2] at h
    refine zi_iload_n (pc' := 3) X dX0_pitchAlone_2 rfl rfl 3 rfl ?_
    refine zi_aload_n (pc' := 4) X dX0_pitchAlone_3 rfl rfl 0 rfl ?_
    refine zi_geti (pc' := 7) X zf_X0_24 rfl (by decide) ha0 dX0_pitchAlone_4 rfl ?_
    refine zi_icmp_ge (pc' := 10) (tgt := 35) X dX0_pitchAlone_7 rfl rfl (fun c => ?_) (fun c => ?_)
    · replace h := zok_t h c
      exact hret _ _ _ dX0_pitchAlone_35 h
    · replace h := zok_f h c
      refine zi_aload_n (pc' := 11) X dX0_pitchAlone_10 rfl rfl 0 rfl ?_
      refine zi_getr (pc' := 14) X zf_X0_20 rfl (by decide) ha0 dX0_pitchAlone_11 rfl ?_
      have f1 := zr_0_2 ha0
      refine zi_iload_n (pc' := 15) X dX0_pitchAlone_14 rfl rfl 3 rfl ?_
      obtain ⟨g2, h⟩ := zok_g h
      refine zi_aaldT (pc' := 16) X f1.1 (by rw [f1.2]; exact g2) dX0_pitchAlone_15 rfl ?_
      have f3 := zr_tent f1 g2
      refine zi_iload_n (pc' := 17) X dX0_pitchAlone_16 rfl rfl 3 rfl ?_
      refine zi_iload_n (pc' := 18) X dX0_pitchAlone_17 rfl rfl 1 rfl ?_
      refine zi_icmp_ne (pc' := 21) (tgt := 25) X dX0_pitchAlone_18 rfl rfl (fun c => ?_) (fun c => ?_)
      · replace h := zok_f h c
        refine zi_iconst (pc' := 26) (v := (-1 : Int32)) X dX0_pitchAlone_25 rfl rfl ?_
        refine zi_put (pc' := 29) X zf_X0_58 zw_4_1 rfl (by decide) f3 rfl rfl dX0_pitchAlone_26 rfl ?_
        refine zi_iinc (pc' := 32) (v := (a3 + (1 : Int32))) X dX0_pitchAlone_29 rfl 3 rfl rfl (by decide) [(3, .int (a3 + (1 : Int32))), (0, .ref (zad g a0)), (1, .int a1), (2, .int a2)] rfl ?_
        refine zi_goto (pc' := 2) X dX0_pitchAlone_32 rfl ?_
        exact zi_sub X [1, 2, 3, 0] _ rfl (ih a0 a1 a2 (a3 + (1 : Int32)) ((zst μ ((a0 + 3) + 1 + 2 * (a3).toNatClampNeg) 1 (-1 : Int32))) ha0 h)
      · replace h := zok_t h c
        refine zi_iload_n (pc' := 22) X dX0_pitchAlone_21 rfl rfl 2 rfl ?_
        refine zi_goto (pc' := 26) X dX0_pitchAlone_22 rfl ?_
        refine zi_put (pc' := 29) X zf_X0_58 zw_4_1 rfl (by decide) f3 rfl rfl dX0_pitchAlone_26 rfl ?_
        refine zi_iinc (pc' := 32) (v := (a3 + (1 : Int32))) X dX0_pitchAlone_29 rfl 3 rfl rfl (by decide) [(3, .int (a3 + (1 : Int32))), (0, .ref (zad g a0)), (1, .int a1), (2, .int a2)] rfl ?_
        refine zi_goto (pc' := 2) X dX0_pitchAlone_32 rfl ?_
        exact zi_sub X [1, 2, 3, 0] _ rfl (ih a0 a1 a2 (a3 + (1 : Int32)) ((zst μ ((a0 + 3) + 1 + 2 * (a3).toNatClampNeg) 1 a2)) ha0 h)
def fX0_pitchAlone (a0 : Nat) (a1 : Int32) (a2 : Int32) (μ : zMem) : Option (Unit × zMem) :=
  fX0_pitchAlone_2 200 a0 a1 a2 (0 : Int32) μ
set_option maxRecDepth 100000 in
set_option maxHeartbeats 4000000 in
theorem tX0_pitchAlone (g : zG) {a0 : Nat} {a1 : Int32} {a2 : Int32} {μ : zMem} {Q : Unit → zMem → Prop} (ha0 : zkd a0 = 0) (h : zok (fX0_pitchAlone a0 a1 a2 μ) Q) : zTv g yX0_pitchAlone cX0_pitchAlone 4 0 [.ref (zad g a0), .int a1, .int a2] μ Q := by
  refine zTv_of RX0 (by decide) rfl (Nat.le_of_ble_eq_true rfl) ?_
  intro κ X hret
  unfold fX0_pitchAlone at h
  refine zi_iconst (pc' := 1) (v := (0 : Int32)) X dX0_pitchAlone_0 rfl rfl ?_
  refine zi_istore_n (pc' := 2) X dX0_pitchAlone_1 rfl rfl (by decide) [(3, .int (0 : Int32)), (0, .ref (zad g a0)), (1, .int a1), (2, .int a2)] rfl ?_
  exact zi_sub X [1, 2, 3, 0] _ rfl (lX0_pitchAlone_2 X hret 200 a0 a1 a2 (0 : Int32) (μ) ha0 h)
def fX0_setSpring (a0 : Nat) (a1 : Int32) (a2 : Int32) (μ : zMem) : Option (Unit × zMem) :=
  if a2 = (1 : Int32) then
    some ((), (zst μ a0 4 ((μ a0 4) ||| ((1 : Int32) <<< (a1 &&& 31)))))
  else
    some ((), (zst μ a0 4 ((μ a0 4) &&& (((1 : Int32) <<< (a1 &&& 31)) ^^^ (-1 : Int32)))))
set_option maxRecDepth 100000 in
set_option maxHeartbeats 4000000 in
theorem tX0_setSpring (g : zG) {a0 : Nat} {a1 : Int32} {a2 : Int32} {μ : zMem} {Q : Unit → zMem → Prop} (ha0 : zkd a0 = 0) (h : zok (fX0_setSpring a0 a1 a2 μ) Q) : zTv g yX0_setSpring cX0_setSpring 3 0 [.ref (zad g a0), .int a1, .int a2] μ Q := by
  refine zTv_of RX0 (by decide) rfl (Nat.le_of_ble_eq_true rfl) ?_
  intro κ X hret
  unfold fX0_setSpring at h
  refine zi_iload_n (pc' := 1) X dX0_setSpring_0 rfl rfl 2 rfl ?_
  refine zi_iconst (pc' := 2) (v := (1 : Int32)) X dX0_setSpring_1 rfl rfl ?_
  refine zi_icmp_ne (pc' := 5) (tgt := 20) X dX0_setSpring_2 rfl rfl (fun c => ?_) (fun c => ?_)
  · replace h := zok_f h c
    refine zi_aload_n (pc' := 21) X dX0_setSpring_20 rfl rfl 0 rfl ?_
    refine zi_dup (pc' := 22) X dX0_setSpring_21 rfl rfl ?_
    refine zi_geti (pc' := 25) X zf_X0_28 rfl (by decide) ha0 dX0_setSpring_22 rfl ?_
    refine zi_iconst (pc' := 26) (v := (1 : Int32)) X dX0_setSpring_25 rfl rfl ?_
    refine zi_iload_n (pc' := 27) X dX0_setSpring_26 rfl rfl 1 rfl ?_
    refine zi_ishl (pc' := 28) X dX0_setSpring_27 rfl ?_
    refine zi_iconst (pc' := 29) (v := (-1 : Int32)) X dX0_setSpring_28 rfl rfl ?_
    refine zi_ixor (pc' := 30) X dX0_setSpring_29 rfl ?_
    refine zi_iand (pc' := 31) X dX0_setSpring_30 rfl ?_
    refine zi_put (pc' := 34) X zf_X0_28 zw_0_4 rfl (by decide) ha0 rfl rfl dX0_setSpring_31 rfl ?_
    exact hret _ _ _ dX0_setSpring_34 h
  · replace h := zok_t h c
    refine zi_aload_n (pc' := 6) X dX0_setSpring_5 rfl rfl 0 rfl ?_
    refine zi_dup (pc' := 7) X dX0_setSpring_6 rfl rfl ?_
    refine zi_geti (pc' := 10) X zf_X0_28 rfl (by decide) ha0 dX0_setSpring_7 rfl ?_
    refine zi_iconst (pc' := 11) (v := (1 : Int32)) X dX0_setSpring_10 rfl rfl ?_
    refine zi_iload_n (pc' := 12) X dX0_setSpring_11 rfl rfl 1 rfl ?_
    refine zi_ishl (pc' := 13) X dX0_setSpring_12 rfl ?_
    refine zi_ior (pc' := 14) X dX0_setSpring_13 rfl ?_
    refine zi_put (pc' := 17) X zf_X0_28 zw_0_4 rfl (by decide) ha0 rfl rfl dX0_setSpring_14 rfl ?_
    refine zi_goto (pc' := 34) X dX0_setSpring_17 rfl ?_
    exact hret _ _ _ dX0_setSpring_34 h
def fX0_spotsHeld_4 : Nat → Nat → Int32 → Int32 → zMem → Option (Int32 × zMem)
  | 0, _, _, _, _ => none
  | n + 1, a0, a1, a2, μ =>
    if (10 : Int32) ≤ a2 then
      some (a1, μ)
    else
      zgd (zib a2 10) (
      if (μ (a0 + 2) (a2).toNatClampNeg) = (-1 : Int32) then
        fX0_spotsHeld_4 n a0 a1 (a2 + (1 : Int32)) μ
      else
        fX0_spotsHeld_4 n a0 (a1 + (1 : Int32)) (a2 + (1 : Int32)) μ)
set_option maxRecDepth 100000 in
theorem lX0_spotsHeld_4 {g : zG} {κ : zK} (X : zC g κ RX0 cX0_spotsHeld 3 0) {Q : Int32 → zMem → Prop} (hret : ∀ pc lv r μ', decode cX0_spotsHeld pc = .ok (.ireturn, 1) → True → Q r μ' → zV g κ pc lv [.int r] μ') : ∀ (n : Nat) (a0 : Nat) (a1 : Int32) (a2 : Int32) (μ : zMem) (ha0 : zkd a0 = 0), zok (fX0_spotsHeld_4 n a0 a1 a2 μ) Q → zV g κ 4 [(0, .ref (zad g a0)), (1, .int a1), (2, .int a2)] [] μ := by
  intro n
  induction n with
  | zero =>
    intro a0 a1 a2 μ ha0 h
    exact h.elim
  | succ n ih =>
    intro a0 a1 a2 μ ha0 h
    rw [fX0_spotsHeld_4] at h
    refine zi_iload_n (pc' := 5) X dX0_spotsHeld_4 rfl rfl 2 rfl ?_
    refine zi_bipush (pc' := 7) (v := (10 : Int32)) X dX0_spotsHeld_5 rfl rfl ?_
    refine zi_icmp_ge (pc' := 10) (tgt := 29) X dX0_spotsHeld_7 rfl rfl (fun c => ?_) (fun c => ?_)
    · replace h := zok_t h c
      refine zi_iload_n (pc' := 30) X dX0_spotsHeld_29 rfl rfl 1 rfl ?_
      exact hret _ _ _ _ dX0_spotsHeld_30 trivial h
    · replace h := zok_f h c
      refine zi_aload_n (pc' := 11) X dX0_spotsHeld_10 rfl rfl 0 rfl ?_
      refine zi_getr (pc' := 14) X zf_X0_15 rfl (by decide) ha0 dX0_spotsHeld_11 rfl ?_
      have f1 := zr_0_1 ha0
      refine zi_iload_n (pc' := 15) X dX0_spotsHeld_14 rfl rfl 2 rfl ?_
      obtain ⟨g2, h⟩ := zok_g h
      refine zi_iald (pc' := 16) X f1.1 (by rw [f1.2]; exact g2) dX0_spotsHeld_15 rfl ?_
      refine zi_iconst (pc' := 17) (v := (-1 : Int32)) X dX0_spotsHeld_16 rfl rfl ?_
      refine zi_icmp_eq (pc' := 20) (tgt := 23) X dX0_spotsHeld_17 rfl rfl (fun c => ?_) (fun c => ?_)
      · replace h := zok_t h c
        refine zi_iinc (pc' := 26) (v := (a2 + (1 : Int32))) X dX0_spotsHeld_23 rfl 2 rfl rfl (by decide) [(2, .int (a2 + (1 : Int32))), (0, .ref (zad g a0)), (1, .int a1)] rfl ?_
        refine zi_goto (pc' := 4) X dX0_spotsHeld_26 rfl ?_
        exact zi_sub X [1, 2, 0] _ rfl (ih a0 a1 (a2 + (1 : Int32)) (μ) ha0 h)
      · replace h := zok_f h c
        refine zi_iinc (pc' := 23) (v := (a1 + (1 : Int32))) X dX0_spotsHeld_20 rfl 1 rfl rfl (by decide) [(1, .int (a1 + (1 : Int32))), (0, .ref (zad g a0)), (2, .int a2)] rfl ?_
        refine zi_iinc (pc' := 26) (v := (a2 + (1 : Int32))) X dX0_spotsHeld_23 rfl 2 rfl rfl (by decide) [(2, .int (a2 + (1 : Int32))), (1, .int (a1 + (1 : Int32))), (0, .ref (zad g a0))] rfl ?_
        refine zi_goto (pc' := 4) X dX0_spotsHeld_26 rfl ?_
        exact zi_sub X [2, 1, 0] _ rfl (ih a0 (a1 + (1 : Int32)) (a2 + (1 : Int32)) (μ) ha0 h)
def fX0_spotsHeld (a0 : Nat) (μ : zMem) : Option (Int32 × zMem) :=
  fX0_spotsHeld_4 200 a0 (0 : Int32) (0 : Int32) μ
set_option maxRecDepth 100000 in
set_option maxHeartbeats 4000000 in
theorem tX0_spotsHeld (g : zG) {a0 : Nat} {μ : zMem} {Q : Int32 → zMem → Prop} (ha0 : zkd a0 = 0) (h : zok (fX0_spotsHeld a0 μ) Q) : zTi g yX0_spotsHeld cX0_spotsHeld 3 .int 0 [.ref (zad g a0)] μ Q := by
  refine zTi_of (P := fun r => True) zpi RX0 (by decide) rfl (Nat.le_of_ble_eq_true rfl) ?_
  intro κ X hret
  unfold fX0_spotsHeld at h
  refine zi_iconst (pc' := 1) (v := (0 : Int32)) X dX0_spotsHeld_0 rfl rfl ?_
  refine zi_istore_n (pc' := 2) X dX0_spotsHeld_1 rfl rfl (by decide) [(1, .int (0 : Int32)), (0, .ref (zad g a0))] rfl ?_
  refine zi_iconst (pc' := 3) (v := (0 : Int32)) X dX0_spotsHeld_2 rfl rfl ?_
  refine zi_istore_n (pc' := 4) X dX0_spotsHeld_3 rfl rfl (by decide) [(2, .int (0 : Int32)), (1, .int (0 : Int32)), (0, .ref (zad g a0))] rfl ?_
  exact zi_sub X [2, 1, 0] _ rfl (lX0_spotsHeld_4 X hret 200 a0 (0 : Int32) (0 : Int32) (μ) ha0 h)
def fX0_springAt (a0 : Nat) (a1 : Int32) (μ : zMem) : Option (Int32 × zMem) :=
  some ((((((μ a0 4)).toUInt32 >>> ((a1).toUInt32 &&& Int32.toUInt32 31)).toInt32) &&& (1 : Int32)), μ)
set_option maxRecDepth 100000 in
set_option maxHeartbeats 4000000 in
theorem tX0_springAt (g : zG) {a0 : Nat} {a1 : Int32} {μ : zMem} {Q : Int32 → zMem → Prop} (ha0 : zkd a0 = 0) (h : zok (fX0_springAt a0 a1 μ) Q) : zTi g yX0_springAt cX0_springAt 2 .int 0 [.ref (zad g a0), .int a1] μ Q := by
  refine zTi_of (P := fun r => True) zpi RX0 (by decide) rfl (Nat.le_of_ble_eq_true rfl) ?_
  intro κ X hret
  unfold fX0_springAt at h
  refine zi_aload_n (pc' := 1) X dX0_springAt_0 rfl rfl 0 rfl ?_
  refine zi_geti (pc' := 4) X zf_X0_28 rfl (by decide) ha0 dX0_springAt_1 rfl ?_
  refine zi_iload_n (pc' := 5) X dX0_springAt_4 rfl rfl 1 rfl ?_
  refine zi_iushr (pc' := 6) X dX0_springAt_5 rfl ?_
  refine zi_iconst (pc' := 7) (v := (1 : Int32)) X dX0_springAt_6 rfl rfl ?_
  refine zi_iand (pc' := 8) X dX0_springAt_7 rfl ?_
  exact hret _ _ _ _ dX0_springAt_8 trivial h
def fX0_wornSum_4 : Nat → Nat → Int32 → Int32 → zMem → Option (Int32 × zMem)
  | 0, _, _, _, _ => none
  | n + 1, a0, a1, a2, μ =>
    if (μ a0 3) ≤ a2 then
      some (a1, μ)
    else
      zgd (zib a2 6) (
      fX0_wornSum_4 n a0 (a1 + (μ ((a0 + 3) + 1 + 2 * (a2).toNatClampNeg) 2)) (a2 + (1 : Int32)) μ)
set_option maxRecDepth 100000 in
theorem lX0_wornSum_4 {g : zG} {κ : zK} (X : zC g κ RX0 cX0_wornSum 3 0) {Q : Int32 → zMem → Prop} (hret : ∀ pc lv r μ', decode cX0_wornSum pc = .ok (.ireturn, 1) → True → Q r μ' → zV g κ pc lv [.int r] μ') : ∀ (n : Nat) (a0 : Nat) (a1 : Int32) (a2 : Int32) (μ : zMem) (ha0 : zkd a0 = 0), zok (fX0_wornSum_4 n a0 a1 a2 μ) Q → zV g κ 4 [(0, .ref (zad g a0)), (1, .int a1), (2, .int a2)] [] μ := by
  intro n
  induction n with
  | zero =>
    intro a0 a1 a2 μ ha0 h
    exact h.elim
  | succ n ih =>
    intro a0 a1 a2 μ ha0 h
    rw [fX0_wornSum_4] at h
    refine zi_iload_n (pc' := 5) X dX0_wornSum_4 rfl rfl 2 rfl ?_
    refine zi_aload_n (pc' := 6) X dX0_wornSum_5 rfl rfl 0 rfl ?_
    refine zi_geti (pc' := 9) X zf_X0_24 rfl (by decide) ha0 dX0_wornSum_6 rfl ?_
    refine zi_icmp_ge (pc' := 12) (tgt := 30) X dX0_wornSum_9 rfl rfl (fun c => ?_) (fun c => ?_)
    · replace h := zok_t h c
      refine zi_iload_n (pc' := 31) X dX0_wornSum_30 rfl rfl 1 rfl ?_
      exact hret _ _ _ _ dX0_wornSum_31 trivial h
    · replace h := zok_f h c
      refine zi_iload_n (pc' := 13) X dX0_wornSum_12 rfl rfl 1 rfl ?_
      refine zi_aload_n (pc' := 14) X dX0_wornSum_13 rfl rfl 0 rfl ?_
      refine zi_getr (pc' := 17) X zf_X0_20 rfl (by decide) ha0 dX0_wornSum_14 rfl ?_
      have f1 := zr_0_2 ha0
      refine zi_iload_n (pc' := 18) X dX0_wornSum_17 rfl rfl 2 rfl ?_
      obtain ⟨g2, h⟩ := zok_g h
      refine zi_aaldT (pc' := 19) X f1.1 (by rw [f1.2]; exact g2) dX0_wornSum_18 rfl ?_
      have f3 := zr_tent f1 g2
      refine zi_geti (pc' := 22) X zf_X0_110 rfl (by decide) f3 dX0_wornSum_19 rfl ?_
      refine zi_iadd (pc' := 23) X dX0_wornSum_22 rfl ?_
      refine zi_istore_n (pc' := 24) X dX0_wornSum_23 rfl rfl (by decide) [(1, .int (a1 + (μ ((a0 + 3) + 1 + 2 * (a2).toNatClampNeg) 2))), (0, .ref (zad g a0)), (2, .int a2)] rfl ?_
      refine zi_iinc (pc' := 27) (v := (a2 + (1 : Int32))) X dX0_wornSum_24 rfl 2 rfl rfl (by decide) [(2, .int (a2 + (1 : Int32))), (1, .int (a1 + (μ ((a0 + 3) + 1 + 2 * (a2).toNatClampNeg) 2))), (0, .ref (zad g a0))] rfl ?_
      refine zi_goto (pc' := 4) X dX0_wornSum_27 rfl ?_
      exact zi_sub X [2, 1, 0] _ rfl (ih a0 (a1 + (μ ((a0 + 3) + 1 + 2 * (a2).toNatClampNeg) 2)) (a2 + (1 : Int32)) (μ) ha0 h)
def fX0_wornSum (a0 : Nat) (μ : zMem) : Option (Int32 × zMem) :=
  fX0_wornSum_4 200 a0 (0 : Int32) (0 : Int32) μ
set_option maxRecDepth 100000 in
set_option maxHeartbeats 4000000 in
theorem tX0_wornSum (g : zG) {a0 : Nat} {μ : zMem} {Q : Int32 → zMem → Prop} (ha0 : zkd a0 = 0) (h : zok (fX0_wornSum a0 μ) Q) : zTi g yX0_wornSum cX0_wornSum 3 .int 0 [.ref (zad g a0)] μ Q := by
  refine zTi_of (P := fun r => True) zpi RX0 (by decide) rfl (Nat.le_of_ble_eq_true rfl) ?_
  intro κ X hret
  unfold fX0_wornSum at h
  refine zi_iconst (pc' := 1) (v := (0 : Int32)) X dX0_wornSum_0 rfl rfl ?_
  refine zi_istore_n (pc' := 2) X dX0_wornSum_1 rfl rfl (by decide) [(1, .int (0 : Int32)), (0, .ref (zad g a0))] rfl ?_
  refine zi_iconst (pc' := 3) (v := (0 : Int32)) X dX0_wornSum_2 rfl rfl ?_
  refine zi_istore_n (pc' := 4) X dX0_wornSum_3 rfl rfl (by decide) [(2, .int (0 : Int32)), (1, .int (0 : Int32)), (0, .ref (zad g a0))] rfl ?_
  exact zi_sub X [2, 1, 0] _ rfl (lX0_wornSum_4 X hret 200 a0 (0 : Int32) (0 : Int32) (μ) ha0 h)
def fX5_cellUnder (a0 : Int32) (a1 : Int32) (μ : zMem) : Option (Int32 × zMem) :=
  some (((((5 : Int32) * ((a0 / (4 : Int32)) + (a1 / (2 : Int32)))) + (a0 - a0 / (4 : Int32) * (4 : Int32))) + (a1 - a1 / (2 : Int32) * (2 : Int32))), μ)
set_option maxRecDepth 100000 in
set_option maxHeartbeats 4000000 in
theorem tX5_cellUnder (g : zG) {a0 : Int32} {a1 : Int32} {μ : zMem} {Q : Int32 → zMem → Prop} (h : zok (fX5_cellUnder a0 a1 μ) Q) : zTi g yX5_cellUnder cX5_cellUnder 2 .int 0 [.int a0, .int a1] μ Q := by
  refine zTi_of (P := fun r => True) zpi RX5 (by decide) rfl (Nat.le_of_ble_eq_true rfl) ?_
  intro κ X hret
  unfold fX5_cellUnder at h
  refine zi_iconst (pc' := 1) (v := (5 : Int32)) X dX5_cellUnder_0 rfl rfl ?_
  refine zi_iload_n (pc' := 2) X dX5_cellUnder_1 rfl rfl 0 rfl ?_
  refine zi_iconst (pc' := 3) (v := (4 : Int32)) X dX5_cellUnder_2 rfl rfl ?_
  refine zi_idiv (pc' := 4) X dX5_cellUnder_3 rfl (by decide) ?_
  refine zi_iload_n (pc' := 5) X dX5_cellUnder_4 rfl rfl 1 rfl ?_
  refine zi_iconst (pc' := 6) (v := (2 : Int32)) X dX5_cellUnder_5 rfl rfl ?_
  refine zi_idiv (pc' := 7) X dX5_cellUnder_6 rfl (by decide) ?_
  refine zi_iadd (pc' := 8) X dX5_cellUnder_7 rfl ?_
  refine zi_imul (pc' := 9) X dX5_cellUnder_8 rfl ?_
  refine zi_iload_n (pc' := 10) X dX5_cellUnder_9 rfl rfl 0 rfl ?_
  refine zi_iconst (pc' := 11) (v := (4 : Int32)) X dX5_cellUnder_10 rfl rfl ?_
  refine zi_irem (pc' := 12) X dX5_cellUnder_11 rfl (by decide) ?_
  refine zi_iadd (pc' := 13) X dX5_cellUnder_12 rfl ?_
  refine zi_iload_n (pc' := 14) X dX5_cellUnder_13 rfl rfl 1 rfl ?_
  refine zi_iconst (pc' := 15) (v := (2 : Int32)) X dX5_cellUnder_14 rfl rfl ?_
  refine zi_irem (pc' := 16) X dX5_cellUnder_15 rfl (by decide) ?_
  refine zi_iadd (pc' := 17) X dX5_cellUnder_16 rfl ?_
  exact hret _ _ _ _ dX5_cellUnder_17 trivial h
def fX0_cellsUnder_4 : Nat → Int32 → Int32 → Int32 → zMem → Option (Int32 × zMem)
  | 0, _, _, _, _ => none
  | n + 1, a0, a1, a2, μ =>
    if (4 : Int32) ≤ a2 then
      some (a1, μ)
    else
      zbd (fX5_cellUnder a0 a2 μ) fun r1 m2 =>
      fX0_cellsUnder_4 n a0 (a1 ||| ((1 : Int32) <<< (r1 &&& 31))) (a2 + (1 : Int32)) m2
set_option maxRecDepth 100000 in
theorem lX0_cellsUnder_4 {g : zG} {κ : zK} (X : zC g κ RX0 cX0_cellsUnder 3 1) {Q : Int32 → zMem → Prop} (hret : ∀ pc lv r μ', decode cX0_cellsUnder pc = .ok (.ireturn, 1) → True → Q r μ' → zV g κ pc lv [.int r] μ') : ∀ (n : Nat) (a0 : Int32) (a1 : Int32) (a2 : Int32) (μ : zMem), zok (fX0_cellsUnder_4 n a0 a1 a2 μ) Q → zV g κ 4 [(0, .int a0), (1, .int a1), (2, .int a2)] [] μ := by
  intro n
  induction n with
  | zero =>
    intro a0 a1 a2 μ h
    exact h.elim
  | succ n ih =>
    intro a0 a1 a2 μ h
    rw [fX0_cellsUnder_4] at h
    refine zi_iload_n (pc' := 5) X dX0_cellsUnder_4 rfl rfl 2 rfl ?_
    refine zi_iconst (pc' := 6) (v := (4 : Int32)) X dX0_cellsUnder_5 rfl rfl ?_
    refine zi_icmp_ge (pc' := 9) (tgt := 25) X dX0_cellsUnder_6 rfl rfl (fun c => ?_) (fun c => ?_)
    · replace h := zok_t h c
      refine zi_iload_n (pc' := 26) X dX0_cellsUnder_25 rfl rfl 1 rfl ?_
      exact hret _ _ _ _ dX0_cellsUnder_26 trivial h
    · replace h := zok_f h c
      refine zi_iload_n (pc' := 10) X dX0_cellsUnder_9 rfl rfl 1 rfl ?_
      refine zi_iconst (pc' := 11) (v := (1 : Int32)) X dX0_cellsUnder_10 rfl rfl ?_
      refine zi_iload_n (pc' := 12) X dX0_cellsUnder_11 rfl rfl 0 rfl ?_
      refine zi_iload_n (pc' := 13) X dX0_cellsUnder_12 rfl rfl 2 rfl ?_
      refine zi_callSi (pc' := 16) X zl_X0_76 [.int a0, .int a2] rfl rfl (by decide) (Nat.le_of_ble_eq_true rfl) dX0_cellsUnder_13 rfl (tX5_cellUnder _ (zok_bd h (fun r1 m2 h => ?_)))
      refine zi_ishl (pc' := 17) X dX0_cellsUnder_16 rfl ?_
      refine zi_ior (pc' := 18) X dX0_cellsUnder_17 rfl ?_
      refine zi_istore_n (pc' := 19) X dX0_cellsUnder_18 rfl rfl (by decide) [(1, .int (a1 ||| ((1 : Int32) <<< (r1 &&& 31)))), (0, .int a0), (2, .int a2)] rfl ?_
      refine zi_iinc (pc' := 22) (v := (a2 + (1 : Int32))) X dX0_cellsUnder_19 rfl 2 rfl rfl (by decide) [(2, .int (a2 + (1 : Int32))), (1, .int (a1 ||| ((1 : Int32) <<< (r1 &&& 31)))), (0, .int a0)] rfl ?_
      refine zi_goto (pc' := 4) X dX0_cellsUnder_22 rfl ?_
      exact zi_sub X [2, 1, 0] _ rfl (ih a0 (a1 ||| ((1 : Int32) <<< (r1 &&& 31))) (a2 + (1 : Int32)) (m2) h)
def fX0_cellsUnder (a0 : Int32) (μ : zMem) : Option (Int32 × zMem) :=
  fX0_cellsUnder_4 200 a0 (0 : Int32) (0 : Int32) μ
set_option maxRecDepth 100000 in
set_option maxHeartbeats 4000000 in
theorem tX0_cellsUnder (g : zG) {a0 : Int32} {μ : zMem} {Q : Int32 → zMem → Prop} (h : zok (fX0_cellsUnder a0 μ) Q) : zTi g yX0_cellsUnder cX0_cellsUnder 3 .int 1 [.int a0] μ Q := by
  refine zTi_of (P := fun r => True) zpi RX0 (by decide) rfl (Nat.le_of_ble_eq_true rfl) ?_
  intro κ X hret
  unfold fX0_cellsUnder at h
  refine zi_iconst (pc' := 1) (v := (0 : Int32)) X dX0_cellsUnder_0 rfl rfl ?_
  refine zi_istore_n (pc' := 2) X dX0_cellsUnder_1 rfl rfl (by decide) [(1, .int (0 : Int32)), (0, .int a0)] rfl ?_
  refine zi_iconst (pc' := 3) (v := (0 : Int32)) X dX0_cellsUnder_2 rfl rfl ?_
  refine zi_istore_n (pc' := 4) X dX0_cellsUnder_3 rfl rfl (by decide) [(2, .int (0 : Int32)), (1, .int (0 : Int32)), (0, .int a0)] rfl ?_
  exact zi_sub X [2, 1, 0] _ rfl (lX0_cellsUnder_4 X hret 200 a0 (0 : Int32) (0 : Int32) (μ) h)
def fX0_climbBetween (a0 : Nat) (a1 : Int32) (a2 : Int32) (μ : zMem) : Option (Int32 × zMem) :=
  zgd (zib a1 25) (
  zgd (zib a2 25) (
  some ((if 0 ≤ ((μ (a0 + 1) (a1).toNatClampNeg) - (μ (a0 + 1) (a2).toNatClampNeg)) then ((μ (a0 + 1) (a1).toNatClampNeg) - (μ (a0 + 1) (a2).toNatClampNeg)) else 0 - ((μ (a0 + 1) (a1).toNatClampNeg) - (μ (a0 + 1) (a2).toNatClampNeg))), μ)))
set_option maxRecDepth 100000 in
set_option maxHeartbeats 4000000 in
theorem tX0_climbBetween (g : zG) {a0 : Nat} {a1 : Int32} {a2 : Int32} {μ : zMem} {Q : Int32 → zMem → Prop} (ha0 : zkd a0 = 0) (h : zok (fX0_climbBetween a0 a1 a2 μ) Q) : zTi g yX0_climbBetween cX0_climbBetween 3 .int 1 [.ref (zad g a0), .int a1, .int a2] μ Q := by
  refine zTi_of (P := fun r => True) zpi RX0 (by decide) rfl (Nat.le_of_ble_eq_true rfl) ?_
  intro κ X hret
  unfold fX0_climbBetween at h
  refine zi_aload_n (pc' := 1) X dX0_climbBetween_0 rfl rfl 0 rfl ?_
  refine zi_getr (pc' := 4) X zf_X0_9 rfl (by decide) ha0 dX0_climbBetween_1 rfl ?_
  have f1 := zr_0_0 ha0
  refine zi_iload_n (pc' := 5) X dX0_climbBetween_4 rfl rfl 1 rfl ?_
  obtain ⟨g2, h⟩ := zok_g h
  refine zi_iald (pc' := 6) X f1.1 (by rw [f1.2]; exact g2) dX0_climbBetween_5 rfl ?_
  refine zi_aload_n (pc' := 7) X dX0_climbBetween_6 rfl rfl 0 rfl ?_
  refine zi_getr (pc' := 10) X zf_X0_9 rfl (by decide) ha0 dX0_climbBetween_7 rfl ?_
  have f3 := zr_0_0 ha0
  refine zi_iload_n (pc' := 11) X dX0_climbBetween_10 rfl rfl 2 rfl ?_
  obtain ⟨g4, h⟩ := zok_g h
  refine zi_iald (pc' := 12) X f3.1 (by rw [f3.2]; exact g4) dX0_climbBetween_11 rfl ?_
  refine zi_isub (pc' := 13) X dX0_climbBetween_12 rfl ?_
  refine zi_mabs (pc' := 16) X zl_X0_104 (Nat.le_of_ble_eq_true rfl) (by decide) dX0_climbBetween_13 rfl ?_
  exact hret _ _ _ _ dX0_climbBetween_16 trivial h
def fX0_gap (a0 : Nat) (a1 : Nat) (a2 : Int32) (a3 : Int32) (μ : zMem) : Option (Int32 × zMem) :=
  zgd (zib a2 4) (
  if (μ (a1 + 1) (a2).toNatClampNeg) = (-1 : Int32) then
    some ((0 : Int32), μ)
  else
    zgd (zib a2 4) (
    zbd (fX5_cellUnder a3 a2 μ) fun r6 m7 =>
    zgd (zib r6 25) (
    some ((if 0 ≤ ((μ (a1 + 1) (a2).toNatClampNeg) - (m7 (a0 + 1) (r6).toNatClampNeg)) then ((μ (a1 + 1) (a2).toNatClampNeg) - (m7 (a0 + 1) (r6).toNatClampNeg)) else 0 - ((μ (a1 + 1) (a2).toNatClampNeg) - (m7 (a0 + 1) (r6).toNatClampNeg))), m7))))
set_option maxRecDepth 100000 in
set_option maxHeartbeats 4000000 in
theorem tX0_gap (g : zG) {a0 : Nat} {a1 : Nat} {a2 : Int32} {a3 : Int32} {μ : zMem} {Q : Int32 → zMem → Prop} (ha0 : zkd a0 = 0) (ha1 : zkd a1 = 4) (h : zok (fX0_gap a0 a1 a2 a3 μ) Q) : zTi g yX0_gap cX0_gap 4 .int 1 [.ref (zad g a0), .ref (zad g a1), .int a2, .int a3] μ Q := by
  refine zTi_of (P := fun r => True) zpi RX0 (by decide) rfl (Nat.le_of_ble_eq_true rfl) ?_
  intro κ X hret
  unfold fX0_gap at h
  refine zi_aload_n (pc' := 1) X dX0_gap_0 rfl rfl 1 rfl ?_
  refine zi_getr (pc' := 4) X zf_X0_80 rfl (by decide) ha1 dX0_gap_1 rfl ?_
  have f1 := zr_4_3 ha1
  refine zi_iload_n (pc' := 5) X dX0_gap_4 rfl rfl 2 rfl ?_
  obtain ⟨g2, h⟩ := zok_g h
  refine zi_iald (pc' := 6) X f1.1 (by rw [f1.2]; exact g2) dX0_gap_5 rfl ?_
  refine zi_iconst (pc' := 7) (v := (-1 : Int32)) X dX0_gap_6 rfl rfl ?_
  refine zi_icmp_ne (pc' := 10) (tgt := 12) X dX0_gap_7 rfl rfl (fun c => ?_) (fun c => ?_)
  · replace h := zok_f h c
    refine zi_aload_n (pc' := 13) X dX0_gap_12 rfl rfl 1 rfl ?_
    refine zi_getr (pc' := 16) X zf_X0_80 rfl (by decide) ha1 dX0_gap_13 rfl ?_
    have f3 := zr_4_3 ha1
    refine zi_iload_n (pc' := 17) X dX0_gap_16 rfl rfl 2 rfl ?_
    obtain ⟨g4, h⟩ := zok_g h
    refine zi_iald (pc' := 18) X f3.1 (by rw [f3.2]; exact g4) dX0_gap_17 rfl ?_
    refine zi_aload_n (pc' := 19) X dX0_gap_18 rfl rfl 0 rfl ?_
    refine zi_getr (pc' := 22) X zf_X0_9 rfl (by decide) ha0 dX0_gap_19 rfl ?_
    have f5 := zr_0_0 ha0
    refine zi_iload_n (pc' := 23) X dX0_gap_22 rfl rfl 3 rfl ?_
    refine zi_iload_n (pc' := 24) X dX0_gap_23 rfl rfl 2 rfl ?_
    refine zi_callSi (pc' := 27) X zl_X0_76 [.int a3, .int a2] rfl rfl (by decide) (Nat.le_of_ble_eq_true rfl) dX0_gap_24 rfl (tX5_cellUnder _ (zok_bd h (fun r6 m7 h => ?_)))
    obtain ⟨g8, h⟩ := zok_g h
    refine zi_iald (pc' := 28) X f5.1 (by rw [f5.2]; exact g8) dX0_gap_27 rfl ?_
    refine zi_isub (pc' := 29) X dX0_gap_28 rfl ?_
    refine zi_mabs (pc' := 32) X zl_X0_104 (Nat.le_of_ble_eq_true rfl) (by decide) dX0_gap_29 rfl ?_
    exact hret _ _ _ _ dX0_gap_32 trivial h
  · replace h := zok_t h c
    refine zi_iconst (pc' := 11) (v := (0 : Int32)) X dX0_gap_10 rfl rfl ?_
    exact hret _ _ _ _ dX0_gap_11 trivial h
def fX0_relief_16 : Nat → Nat → Int32 → Int32 → Int32 → zMem → Option (Int32 × zMem)
  | 0, _, _, _, _, _ => none
  | n + 1, a0, a1, a2, a3, μ =>
    if (25 : Int32) ≤ a3 then
      some ((a1 - a2), μ)
    else
      zgd (zib a3 25) (
      zgd (zib a3 25) (
      fX0_relief_16 n a0 (if a1 < (μ (a0 + 1) (a3).toNatClampNeg) then (μ (a0 + 1) (a3).toNatClampNeg) else a1) (if (μ (a0 + 1) (a3).toNatClampNeg) < a2 then (μ (a0 + 1) (a3).toNatClampNeg) else a2) (a3 + (1 : Int32)) μ))
set_option maxRecDepth 100000 in
theorem lX0_relief_16 {g : zG} {κ : zK} (X : zC g κ RX0 cX0_relief 4 1) {Q : Int32 → zMem → Prop} (hret : ∀ pc lv r μ', decode cX0_relief pc = .ok (.ireturn, 1) → True → Q r μ' → zV g κ pc lv [.int r] μ') : ∀ (n : Nat) (a0 : Nat) (a1 : Int32) (a2 : Int32) (a3 : Int32) (μ : zMem) (ha0 : zkd a0 = 0), zok (fX0_relief_16 n a0 a1 a2 a3 μ) Q → zV g κ 16 [(0, .ref (zad g a0)), (1, .int a1), (2, .int a2), (3, .int a3)] [] μ := by
  intro n
  induction n with
  | zero =>
    intro a0 a1 a2 a3 μ ha0 h
    exact h.elim
  | succ n ih =>
    intro a0 a1 a2 a3 μ ha0 h
    rw [fX0_relief_16] at h
    refine zi_iload_n (pc' := 17) X dX0_relief_16 rfl rfl 3 rfl ?_
    refine zi_bipush (pc' := 19) (v := (25 : Int32)) X dX0_relief_17 rfl rfl ?_
    refine zi_icmp_ge (pc' := 22) (tgt := 50) X dX0_relief_19 rfl rfl (fun c => ?_) (fun c => ?_)
    · replace h := zok_t h c
      refine zi_iload_n (pc' := 51) X dX0_relief_50 rfl rfl 1 rfl ?_
      refine zi_iload_n (pc' := 52) X dX0_relief_51 rfl rfl 2 rfl ?_
      refine zi_isub (pc' := 53) X dX0_relief_52 rfl ?_
      exact hret _ _ _ _ dX0_relief_53 trivial h
    · replace h := zok_f h c
      refine zi_iload_n (pc' := 23) X dX0_relief_22 rfl rfl 1 rfl ?_
      refine zi_aload_n (pc' := 24) X dX0_relief_23 rfl rfl 0 rfl ?_
      refine zi_getr (pc' := 27) X zf_X0_9 rfl (by decide) ha0 dX0_relief_24 rfl ?_
      have f5 := zr_0_0 ha0
      refine zi_iload_n (pc' := 28) X dX0_relief_27 rfl rfl 3 rfl ?_
      obtain ⟨g6, h⟩ := zok_g h
      refine zi_iald (pc' := 29) X f5.1 (by rw [f5.2]; exact g6) dX0_relief_28 rfl ?_
      refine zi_mmax (pc' := 32) X zl_X0_99 (Nat.le_of_ble_eq_true rfl) (by decide) dX0_relief_29 rfl ?_
      refine zi_istore_n (pc' := 33) X dX0_relief_32 rfl rfl (by decide) [(1, .int (if a1 < (μ (a0 + 1) (a3).toNatClampNeg) then (μ (a0 + 1) (a3).toNatClampNeg) else a1)), (0, .ref (zad g a0)), (2, .int a2), (3, .int a3)] rfl ?_
      refine zi_iload_n (pc' := 34) X dX0_relief_33 rfl rfl 2 rfl ?_
      refine zi_aload_n (pc' := 35) X dX0_relief_34 rfl rfl 1 rfl ?_
      refine zi_getr (pc' := 38) X zf_X0_9 rfl (by decide) ha0 dX0_relief_35 rfl ?_
      have f7 := zr_0_0 ha0
      refine zi_iload_n (pc' := 39) X dX0_relief_38 rfl rfl 3 rfl ?_
      obtain ⟨g8, h⟩ := zok_g h
      refine zi_iald (pc' := 40) X f7.1 (by rw [f7.2]; exact g8) dX0_relief_39 rfl ?_
      refine zi_mmin (pc' := 43) X zl_X0_107 (Nat.le_of_ble_eq_true rfl) (by decide) dX0_relief_40 rfl ?_
      refine zi_istore_n (pc' := 44) X dX0_relief_43 rfl rfl (by decide) [(2, .int (if (μ (a0 + 1) (a3).toNatClampNeg) < a2 then (μ (a0 + 1) (a3).toNatClampNeg) else a2)), (1, .int (if a1 < (μ (a0 + 1) (a3).toNatClampNeg) then (μ (a0 + 1) (a3).toNatClampNeg) else a1)), (0, .ref (zad g a0)), (3, .int a3)] rfl ?_
      refine zi_iinc (pc' := 47) (v := (a3 + (1 : Int32))) X dX0_relief_44 rfl 3 rfl rfl (by decide) [(3, .int (a3 + (1 : Int32))), (2, .int (if (μ (a0 + 1) (a3).toNatClampNeg) < a2 then (μ (a0 + 1) (a3).toNatClampNeg) else a2)), (1, .int (if a1 < (μ (a0 + 1) (a3).toNatClampNeg) then (μ (a0 + 1) (a3).toNatClampNeg) else a1)), (0, .ref (zad g a0))] rfl ?_
      refine zi_goto (pc' := 16) X dX0_relief_47 rfl ?_
      exact zi_sub X [3, 2, 1, 0] _ rfl (ih a0 (if a1 < (μ (a0 + 1) (a3).toNatClampNeg) then (μ (a0 + 1) (a3).toNatClampNeg) else a1) (if (μ (a0 + 1) (a3).toNatClampNeg) < a2 then (μ (a0 + 1) (a3).toNatClampNeg) else a2) (a3 + (1 : Int32)) (μ) ha0 h)
def fX0_relief (a0 : Nat) (μ : zMem) : Option (Int32 × zMem) :=
  zgd (zib (0 : Int32) 25) (
  zgd (zib (0 : Int32) 25) (
  fX0_relief_16 200 a0 (μ (a0 + 1) ((0 : Int32)).toNatClampNeg) (μ (a0 + 1) ((0 : Int32)).toNatClampNeg) (1 : Int32) μ))
set_option maxRecDepth 100000 in
set_option maxHeartbeats 4000000 in
theorem tX0_relief (g : zG) {a0 : Nat} {μ : zMem} {Q : Int32 → zMem → Prop} (ha0 : zkd a0 = 0) (h : zok (fX0_relief a0 μ) Q) : zTi g yX0_relief cX0_relief 4 .int 1 [.ref (zad g a0)] μ Q := by
  refine zTi_of (P := fun r => True) zpi RX0 (by decide) rfl (Nat.le_of_ble_eq_true rfl) ?_
  intro κ X hret
  unfold fX0_relief at h
  refine zi_aload_n (pc' := 1) X dX0_relief_0 rfl rfl 0 rfl ?_
  refine zi_getr (pc' := 4) X zf_X0_9 rfl (by decide) ha0 dX0_relief_1 rfl ?_
  have f1 := zr_0_0 ha0
  refine zi_iconst (pc' := 5) (v := (0 : Int32)) X dX0_relief_4 rfl rfl ?_
  obtain ⟨g2, h⟩ := zok_g h
  refine zi_iald (pc' := 6) X f1.1 (by rw [f1.2]; exact g2) dX0_relief_5 rfl ?_
  refine zi_istore_n (pc' := 7) X dX0_relief_6 rfl rfl (by decide) [(1, .int (μ (a0 + 1) ((0 : Int32)).toNatClampNeg)), (0, .ref (zad g a0))] rfl ?_
  refine zi_aload_n (pc' := 8) X dX0_relief_7 rfl rfl 1 rfl ?_
  refine zi_getr (pc' := 11) X zf_X0_9 rfl (by decide) ha0 dX0_relief_8 rfl ?_
  have f3 := zr_0_0 ha0
  refine zi_iconst (pc' := 12) (v := (0 : Int32)) X dX0_relief_11 rfl rfl ?_
  obtain ⟨g4, h⟩ := zok_g h
  refine zi_iald (pc' := 13) X f3.1 (by rw [f3.2]; exact g4) dX0_relief_12 rfl ?_
  refine zi_istore_n (pc' := 14) X dX0_relief_13 rfl rfl (by decide) [(2, .int (μ (a0 + 1) ((0 : Int32)).toNatClampNeg)), (1, .int (μ (a0 + 1) ((0 : Int32)).toNatClampNeg)), (0, .ref (zad g a0))] rfl ?_
  refine zi_iconst (pc' := 15) (v := (1 : Int32)) X dX0_relief_14 rfl rfl ?_
  refine zi_istore_n (pc' := 16) X dX0_relief_15 rfl rfl (by decide) [(3, .int (1 : Int32)), (2, .int (μ (a0 + 1) ((0 : Int32)).toNatClampNeg)), (1, .int (μ (a0 + 1) ((0 : Int32)).toNatClampNeg)), (0, .ref (zad g a0))] rfl ?_
  exact zi_sub X [3, 2, 1, 0] _ rfl (lX0_relief_16 X hret 200 a0 (μ (a0 + 1) ((0 : Int32)).toNatClampNeg) (μ (a0 + 1) ((0 : Int32)).toNatClampNeg) (1 : Int32) (μ) ha0 h)
def fX0_addTent (a0 : Nat) (a1 : Int32) (μ : zMem) : Option (Unit × zMem) :=
  if (6 : Int32) ≤ (μ a0 3) then
    some ((), μ)
  else
    zgd (zib (μ a0 3) 6) (
    zbd (fX4_renew ((a0 + 3) + 1 + 2 * ((μ a0 3)).toNatClampNeg) a1 μ) fun _ m5 =>
    some ((), (zst m5 a0 3 ((m5 a0 3) + (1 : Int32)))))
set_option maxRecDepth 100000 in
set_option maxHeartbeats 4000000 in
theorem tX0_addTent (g : zG) {a0 : Nat} {a1 : Int32} {μ : zMem} {Q : Unit → zMem → Prop} (ha0 : zkd a0 = 0) (h : zok (fX0_addTent a0 a1 μ) Q) : zTv g yX0_addTent cX0_addTent 2 2 [.ref (zad g a0), .int a1] μ Q := by
  refine zTv_of RX0 (by decide) rfl (Nat.le_of_ble_eq_true rfl) ?_
  intro κ X hret
  unfold fX0_addTent at h
  refine zi_aload_n (pc' := 1) X dX0_addTent_0 rfl rfl 0 rfl ?_
  refine zi_geti (pc' := 4) X zf_X0_24 rfl (by decide) ha0 dX0_addTent_1 rfl ?_
  refine zi_bipush (pc' := 6) (v := (6 : Int32)) X dX0_addTent_4 rfl rfl ?_
  refine zi_icmp_ge (pc' := 9) (tgt := 32) X dX0_addTent_6 rfl rfl (fun c => ?_) (fun c => ?_)
  · replace h := zok_t h c
    exact hret _ _ _ dX0_addTent_32 h
  · replace h := zok_f h c
    refine zi_aload_n (pc' := 10) X dX0_addTent_9 rfl rfl 0 rfl ?_
    refine zi_getr (pc' := 13) X zf_X0_20 rfl (by decide) ha0 dX0_addTent_10 rfl ?_
    have f1 := zr_0_2 ha0
    refine zi_aload_n (pc' := 14) X dX0_addTent_13 rfl rfl 0 rfl ?_
    refine zi_geti (pc' := 17) X zf_X0_24 rfl (by decide) ha0 dX0_addTent_14 rfl ?_
    obtain ⟨g2, h⟩ := zok_g h
    refine zi_aaldT (pc' := 18) X f1.1 (by rw [f1.2]; exact g2) dX0_addTent_17 rfl ?_
    have f3 := zr_tent f1 g2
    refine zi_iload_n (pc' := 19) X dX0_addTent_18 rfl rfl 1 rfl ?_
    refine zi_callVv (pc' := 22) X zl_X0_54 f3 (by decide) [.int a1] rfl rfl (by decide) (Nat.le_of_ble_eq_true rfl) dX0_addTent_19 rfl (tX4_renew _ f3 (zok_bd h (fun _ m5 h => ?_)))
    refine zi_aload_n (pc' := 23) X dX0_addTent_22 rfl rfl 0 rfl ?_
    refine zi_dup (pc' := 24) X dX0_addTent_23 rfl rfl ?_
    refine zi_geti (pc' := 27) X zf_X0_24 rfl (by decide) ha0 dX0_addTent_24 rfl ?_
    refine zi_iconst (pc' := 28) (v := (1 : Int32)) X dX0_addTent_27 rfl rfl ?_
    refine zi_iadd (pc' := 29) X dX0_addTent_28 rfl ?_
    refine zi_put (pc' := 32) X zf_X0_24 zw_0_3 rfl (by decide) ha0 rfl rfl dX0_addTent_29 rfl ?_
    exact hret _ _ _ dX0_addTent_32 h
def fX0_becomeLike_40 : Nat → Nat → Nat → Int32 → zMem → Option (Unit × zMem)
  | 0, _, _, _, _ => none
  | n + 1, a0, a1, a2, μ =>
    if (μ a0 3) ≤ a2 then
      some ((), (zst (zst (zst μ a0 4 (μ a1 4)) a0 5 ((zst μ a0 4 (μ a1 4)) a1 5)) a0 6 ((zst (zst μ a0 4 (μ a1 4)) a0 5 ((zst μ a0 4 (μ a1 4)) a1 5)) a1 6)))
    else
      zgd (zib a2 6) (
      zgd (zib a2 6) (
      zbd (fX4_becomeLike ((a0 + 3) + 1 + 2 * (a2).toNatClampNeg) ((a1 + 3) + 1 + 2 * (a2).toNatClampNeg) μ) fun _ m14 =>
      fX0_becomeLike_40 n a0 a1 (a2 + (1 : Int32)) m14))
set_option maxRecDepth 100000 in
theorem lX0_becomeLike_40 {g : zG} {κ : zK} (X : zC g κ RX0 cX0_becomeLike 3 2) {Q : Unit → zMem → Prop} (hret : ∀ pc lv μ', decode cX0_becomeLike pc = .ok (.return_, 1) → Q () μ' → zV g κ pc lv [] μ') : ∀ (n : Nat) (a0 : Nat) (a1 : Nat) (a2 : Int32) (μ : zMem) (ha0 : zkd a0 = 0) (ha1 : zkd a1 = 0), zok (fX0_becomeLike_40 n a0 a1 a2 μ) Q → zV g κ 40 [(0, .ref (zad g a0)), (1, .ref (zad g a1)), (2, .int a2)] [] μ := by
  intro n
  induction n with
  | zero =>
    intro a0 a1 a2 μ ha0 ha1 h
    exact h.elim
  | succ n ih =>
    intro a0 a1 a2 μ ha0 ha1 h
    rw [fX0_becomeLike_40] at h
    refine zi_iload_n (pc' := 41) X dX0_becomeLike_40 rfl rfl 2 rfl ?_
    refine zi_aload_n (pc' := 42) X dX0_becomeLike_41 rfl rfl 0 rfl ?_
    refine zi_geti (pc' := 45) X zf_X0_24 rfl (by decide) ha0 dX0_becomeLike_42 rfl ?_
    refine zi_icmp_ge (pc' := 48) (tgt := 69) X dX0_becomeLike_45 rfl rfl (fun c => ?_) (fun c => ?_)
    · replace h := zok_t h c
      refine zi_aload_n (pc' := 70) X dX0_becomeLike_69 rfl rfl 0 rfl ?_
      refine zi_aload_n (pc' := 71) X dX0_becomeLike_70 rfl rfl 1 rfl ?_
      refine zi_geti (pc' := 74) X zf_X0_28 rfl (by decide) ha1 dX0_becomeLike_71 rfl ?_
      refine zi_put (pc' := 77) X zf_X0_28 zw_0_4 rfl (by decide) ha0 rfl rfl dX0_becomeLike_74 rfl ?_
      refine zi_aload_n (pc' := 78) X dX0_becomeLike_77 rfl rfl 0 rfl ?_
      refine zi_aload_n (pc' := 79) X dX0_becomeLike_78 rfl rfl 1 rfl ?_
      refine zi_geti (pc' := 82) X zf_X0_31 rfl (by decide) ha1 dX0_becomeLike_79 rfl ?_
      refine zi_put (pc' := 85) X zf_X0_31 zw_0_5 rfl (by decide) ha0 rfl rfl dX0_becomeLike_82 rfl ?_
      refine zi_aload_n (pc' := 86) X dX0_becomeLike_85 rfl rfl 0 rfl ?_
      refine zi_aload_n (pc' := 87) X dX0_becomeLike_86 rfl rfl 1 rfl ?_
      refine zi_geti (pc' := 90) X zf_X0_34 rfl (by decide) ha1 dX0_becomeLike_87 rfl ?_
      refine zi_put (pc' := 93) X zf_X0_34 zw_0_6 rfl (by decide) ha0 rfl rfl dX0_becomeLike_90 rfl ?_
      exact hret _ _ _ dX0_becomeLike_93 h
    · replace h := zok_f h c
      refine zi_aload_n (pc' := 49) X dX0_becomeLike_48 rfl rfl 0 rfl ?_
      refine zi_getr (pc' := 52) X zf_X0_20 rfl (by decide) ha0 dX0_becomeLike_49 rfl ?_
      have f7 := zr_0_2 ha0
      refine zi_iload_n (pc' := 53) X dX0_becomeLike_52 rfl rfl 2 rfl ?_
      obtain ⟨g8, h⟩ := zok_g h
      refine zi_aaldT (pc' := 54) X f7.1 (by rw [f7.2]; exact g8) dX0_becomeLike_53 rfl ?_
      have f9 := zr_tent f7 g8
      refine zi_aload_n (pc' := 55) X dX0_becomeLike_54 rfl rfl 1 rfl ?_
      refine zi_getr (pc' := 58) X zf_X0_20 rfl (by decide) ha1 dX0_becomeLike_55 rfl ?_
      have f10 := zr_0_2 ha1
      refine zi_iload_n (pc' := 59) X dX0_becomeLike_58 rfl rfl 2 rfl ?_
      obtain ⟨g11, h⟩ := zok_g h
      refine zi_aaldT (pc' := 60) X f10.1 (by rw [f10.2]; exact g11) dX0_becomeLike_59 rfl ?_
      have f12 := zr_tent f10 g11
      refine zi_callVv (pc' := 63) X zl_X0_50 f9 (by decide) [.ref (zad g ((a1 + 3) + 1 + 2 * (a2).toNatClampNeg))] rfl rfl (by decide) (Nat.le_of_ble_eq_true rfl) dX0_becomeLike_60 rfl (tX4_becomeLike _ f9 f12 (zok_bd h (fun _ m14 h => ?_)))
      refine zi_iinc (pc' := 66) (v := (a2 + (1 : Int32))) X dX0_becomeLike_63 rfl 2 rfl rfl (by decide) [(2, .int (a2 + (1 : Int32))), (0, .ref (zad g a0)), (1, .ref (zad g a1))] rfl ?_
      refine zi_goto (pc' := 40) X dX0_becomeLike_66 rfl ?_
      exact zi_sub X [1, 2, 0] _ rfl (ih a0 a1 (a2 + (1 : Int32)) (m14) ha0 ha1 h)
def fX0_becomeLike (a0 : Nat) (a1 : Nat) (μ : zMem) : Option (Unit × zMem) :=
  zgd ((¬ (0 : Int32) < 0 ∧ ¬ (0 : Int32) < 0 ∧ ¬ (25 : Int32) < 0) ∧ ((0 : Int32)).toNatClampNeg + ((25 : Int32)).toNatClampNeg ≤ 25 ∧ ((0 : Int32)).toNatClampNeg + ((25 : Int32)).toNatClampNeg ≤ 25) (
  zgd ((¬ (0 : Int32) < 0 ∧ ¬ (0 : Int32) < 0 ∧ ¬ (10 : Int32) < 0) ∧ ((0 : Int32)).toNatClampNeg + ((10 : Int32)).toNatClampNeg ≤ 10 ∧ ((0 : Int32)).toNatClampNeg + ((10 : Int32)).toNatClampNeg ≤ 10) (
  fX0_becomeLike_40 200 a0 a1 (0 : Int32) (zst (zrow (zrow μ (a0 + 1) (va_cpy (μ (a1 + 1)) (μ (a0 + 1)) ((0 : Int32)).toNatClampNeg ((0 : Int32)).toNatClampNeg ((25 : Int32)).toNatClampNeg)) (a0 + 2) (va_cpy ((zrow μ (a0 + 1) (va_cpy (μ (a1 + 1)) (μ (a0 + 1)) ((0 : Int32)).toNatClampNeg ((0 : Int32)).toNatClampNeg ((25 : Int32)).toNatClampNeg)) (a1 + 2)) ((zrow μ (a0 + 1) (va_cpy (μ (a1 + 1)) (μ (a0 + 1)) ((0 : Int32)).toNatClampNeg ((0 : Int32)).toNatClampNeg ((25 : Int32)).toNatClampNeg)) (a0 + 2)) ((0 : Int32)).toNatClampNeg ((0 : Int32)).toNatClampNeg ((10 : Int32)).toNatClampNeg)) a0 3 ((zrow (zrow μ (a0 + 1) (va_cpy (μ (a1 + 1)) (μ (a0 + 1)) ((0 : Int32)).toNatClampNeg ((0 : Int32)).toNatClampNeg ((25 : Int32)).toNatClampNeg)) (a0 + 2) (va_cpy ((zrow μ (a0 + 1) (va_cpy (μ (a1 + 1)) (μ (a0 + 1)) ((0 : Int32)).toNatClampNeg ((0 : Int32)).toNatClampNeg ((25 : Int32)).toNatClampNeg)) (a1 + 2)) ((zrow μ (a0 + 1) (va_cpy (μ (a1 + 1)) (μ (a0 + 1)) ((0 : Int32)).toNatClampNeg ((0 : Int32)).toNatClampNeg ((25 : Int32)).toNatClampNeg)) (a0 + 2)) ((0 : Int32)).toNatClampNeg ((0 : Int32)).toNatClampNeg ((10 : Int32)).toNatClampNeg)) a1 3))))
set_option maxRecDepth 100000 in
set_option maxHeartbeats 4000000 in
theorem tX0_becomeLike (g : zG) {a0 : Nat} {a1 : Nat} {μ : zMem} {Q : Unit → zMem → Prop} (ha0 : zkd a0 = 0) (ha1 : zkd a1 = 0) (h : zok (fX0_becomeLike a0 a1 μ) Q) : zTv g yX0_becomeLike cX0_becomeLike 3 2 [.ref (zad g a0), .ref (zad g a1)] μ Q := by
  refine zTv_of RX0 (by decide) rfl (Nat.le_of_ble_eq_true rfl) ?_
  intro κ X hret
  unfold fX0_becomeLike at h
  refine zi_aload_n (pc' := 1) X dX0_becomeLike_0 rfl rfl 1 rfl ?_
  refine zi_getr (pc' := 4) X zf_X0_9 rfl (by decide) ha1 dX0_becomeLike_1 rfl ?_
  have f1 := zr_0_0 ha1
  refine zi_iconst (pc' := 5) (v := (0 : Int32)) X dX0_becomeLike_4 rfl rfl ?_
  refine zi_aload_n (pc' := 6) X dX0_becomeLike_5 rfl rfl 0 rfl ?_
  refine zi_getr (pc' := 9) X zf_X0_9 rfl (by decide) ha0 dX0_becomeLike_6 rfl ?_
  have f2 := zr_0_0 ha0
  refine zi_iconst (pc' := 10) (v := (0 : Int32)) X dX0_becomeLike_9 rfl rfl ?_
  refine zi_bipush (pc' := 12) (v := (25 : Int32)) X dX0_becomeLike_10 rfl rfl ?_
  obtain ⟨g3, h⟩ := zok_g h
  refine zi_acopy (pc' := 15) X zl_X0_44 f1.1 f2.1 (by rw [f1.2, f2.2]; exact g3) (Nat.le_of_ble_eq_true rfl) (by decide) dX0_becomeLike_12 rfl ?_
  refine zi_aload_n (pc' := 16) X dX0_becomeLike_15 rfl rfl 1 rfl ?_
  refine zi_getr (pc' := 19) X zf_X0_15 rfl (by decide) ha1 dX0_becomeLike_16 rfl ?_
  have f4 := zr_0_1 ha1
  refine zi_iconst (pc' := 20) (v := (0 : Int32)) X dX0_becomeLike_19 rfl rfl ?_
  refine zi_aload_n (pc' := 21) X dX0_becomeLike_20 rfl rfl 0 rfl ?_
  refine zi_getr (pc' := 24) X zf_X0_15 rfl (by decide) ha0 dX0_becomeLike_21 rfl ?_
  have f5 := zr_0_1 ha0
  refine zi_iconst (pc' := 25) (v := (0 : Int32)) X dX0_becomeLike_24 rfl rfl ?_
  refine zi_bipush (pc' := 27) (v := (10 : Int32)) X dX0_becomeLike_25 rfl rfl ?_
  obtain ⟨g6, h⟩ := zok_g h
  refine zi_acopy (pc' := 30) X zl_X0_44 f4.1 f5.1 (by rw [f4.2, f5.2]; exact g6) (Nat.le_of_ble_eq_true rfl) (by decide) dX0_becomeLike_27 rfl ?_
  refine zi_aload_n (pc' := 31) X dX0_becomeLike_30 rfl rfl 0 rfl ?_
  refine zi_aload_n (pc' := 32) X dX0_becomeLike_31 rfl rfl 1 rfl ?_
  refine zi_geti (pc' := 35) X zf_X0_24 rfl (by decide) ha1 dX0_becomeLike_32 rfl ?_
  refine zi_put (pc' := 38) X zf_X0_24 zw_0_3 rfl (by decide) ha0 rfl rfl dX0_becomeLike_35 rfl ?_
  refine zi_iconst (pc' := 39) (v := (0 : Int32)) X dX0_becomeLike_38 rfl rfl ?_
  refine zi_istore_n (pc' := 40) X dX0_becomeLike_39 rfl rfl (by decide) [(2, .int (0 : Int32)), (0, .ref (zad g a0)), (1, .ref (zad g a1))] rfl ?_
  exact zi_sub X [1, 2, 0] _ rfl (lX0_becomeLike_40 X hret 200 a0 a1 (0 : Int32) ((zst (zrow (zrow μ (a0 + 1) (va_cpy (μ (a1 + 1)) (μ (a0 + 1)) ((0 : Int32)).toNatClampNeg ((0 : Int32)).toNatClampNeg ((25 : Int32)).toNatClampNeg)) (a0 + 2) (va_cpy ((zrow μ (a0 + 1) (va_cpy (μ (a1 + 1)) (μ (a0 + 1)) ((0 : Int32)).toNatClampNeg ((0 : Int32)).toNatClampNeg ((25 : Int32)).toNatClampNeg)) (a1 + 2)) ((zrow μ (a0 + 1) (va_cpy (μ (a1 + 1)) (μ (a0 + 1)) ((0 : Int32)).toNatClampNeg ((0 : Int32)).toNatClampNeg ((25 : Int32)).toNatClampNeg)) (a0 + 2)) ((0 : Int32)).toNatClampNeg ((0 : Int32)).toNatClampNeg ((10 : Int32)).toNatClampNeg)) a0 3 ((zrow (zrow μ (a0 + 1) (va_cpy (μ (a1 + 1)) (μ (a0 + 1)) ((0 : Int32)).toNatClampNeg ((0 : Int32)).toNatClampNeg ((25 : Int32)).toNatClampNeg)) (a0 + 2) (va_cpy ((zrow μ (a0 + 1) (va_cpy (μ (a1 + 1)) (μ (a0 + 1)) ((0 : Int32)).toNatClampNeg ((0 : Int32)).toNatClampNeg ((25 : Int32)).toNatClampNeg)) (a1 + 2)) ((zrow μ (a0 + 1) (va_cpy (μ (a1 + 1)) (μ (a0 + 1)) ((0 : Int32)).toNatClampNeg ((0 : Int32)).toNatClampNeg ((25 : Int32)).toNatClampNeg)) (a0 + 2)) ((0 : Int32)).toNatClampNeg ((0 : Int32)).toNatClampNeg ((10 : Int32)).toNatClampNeg)) a1 3))) ha0 ha1 h)
def fX0_dryPitches_4 : Nat → Nat → Int32 → Int32 → zMem → Option (Int32 × zMem)
  | 0, _, _, _, _ => none
  | n + 1, a0, a1, a2, μ =>
    if (16 : Int32) ≤ a2 then
      some (a1, μ)
    else
      zbd (fX0_cellsUnder a2 μ) fun r1 m2 =>
      if (r1 &&& (m2 a0 4)) = 0 then
        fX0_dryPitches_4 n a0 (a1 + (1 : Int32)) (a2 + (1 : Int32)) m2
      else
        fX0_dryPitches_4 n a0 a1 (a2 + (1 : Int32)) m2
set_option maxRecDepth 100000 in
theorem lX0_dryPitches_4 {g : zG} {κ : zK} (X : zC g κ RX0 cX0_dryPitches 3 2) {Q : Int32 → zMem → Prop} (hret : ∀ pc lv r μ', decode cX0_dryPitches pc = .ok (.ireturn, 1) → True → Q r μ' → zV g κ pc lv [.int r] μ') : ∀ (n : Nat) (a0 : Nat) (a1 : Int32) (a2 : Int32) (μ : zMem) (ha0 : zkd a0 = 0), zok (fX0_dryPitches_4 n a0 a1 a2 μ) Q → zV g κ 4 [(0, .ref (zad g a0)), (1, .int a1), (2, .int a2)] [] μ := by
  intro n
  induction n with
  | zero =>
    intro a0 a1 a2 μ ha0 h
    exact h.elim
  | succ n ih =>
    intro a0 a1 a2 μ ha0 h
    rw [fX0_dryPitches_4] at h
    refine zi_iload_n (pc' := 5) X dX0_dryPitches_4 rfl rfl 2 rfl ?_
    refine zi_bipush (pc' := 7) (v := (16 : Int32)) X dX0_dryPitches_5 rfl rfl ?_
    refine zi_icmp_ge (pc' := 10) (tgt := 31) X dX0_dryPitches_7 rfl rfl (fun c => ?_) (fun c => ?_)
    · replace h := zok_t h c
      refine zi_iload_n (pc' := 32) X dX0_dryPitches_31 rfl rfl 1 rfl ?_
      exact hret _ _ _ _ dX0_dryPitches_32 trivial h
    · replace h := zok_f h c
      refine zi_iload_n (pc' := 11) X dX0_dryPitches_10 rfl rfl 2 rfl ?_
      refine zi_callSi (pc' := 14) X zl_X0_89 [.int a2] rfl rfl (by decide) (Nat.le_of_ble_eq_true rfl) dX0_dryPitches_11 rfl (tX0_cellsUnder _ (zok_bd h (fun r1 m2 h => ?_)))
      refine zi_aload_n (pc' := 15) X dX0_dryPitches_14 rfl rfl 0 rfl ?_
      refine zi_geti (pc' := 18) X zf_X0_28 rfl (by decide) ha0 dX0_dryPitches_15 rfl ?_
      refine zi_iand (pc' := 19) X dX0_dryPitches_18 rfl ?_
      refine zi_if_ne (pc' := 22) (tgt := 25) X dX0_dryPitches_19 rfl rfl (fun c => ?_) (fun c => ?_)
      · replace h := zok_f h c
        refine zi_iinc (pc' := 28) (v := (a2 + (1 : Int32))) X dX0_dryPitches_25 rfl 2 rfl rfl (by decide) [(2, .int (a2 + (1 : Int32))), (0, .ref (zad g a0)), (1, .int a1)] rfl ?_
        refine zi_goto (pc' := 4) X dX0_dryPitches_28 rfl ?_
        exact zi_sub X [1, 2, 0] _ rfl (ih a0 a1 (a2 + (1 : Int32)) (m2) ha0 h)
      · replace h := zok_t h c
        refine zi_iinc (pc' := 25) (v := (a1 + (1 : Int32))) X dX0_dryPitches_22 rfl 1 rfl rfl (by decide) [(1, .int (a1 + (1 : Int32))), (0, .ref (zad g a0)), (2, .int a2)] rfl ?_
        refine zi_iinc (pc' := 28) (v := (a2 + (1 : Int32))) X dX0_dryPitches_25 rfl 2 rfl rfl (by decide) [(2, .int (a2 + (1 : Int32))), (1, .int (a1 + (1 : Int32))), (0, .ref (zad g a0))] rfl ?_
        refine zi_goto (pc' := 4) X dX0_dryPitches_28 rfl ?_
        exact zi_sub X [2, 1, 0] _ rfl (ih a0 (a1 + (1 : Int32)) (a2 + (1 : Int32)) (m2) ha0 h)
def fX0_dryPitches (a0 : Nat) (μ : zMem) : Option (Int32 × zMem) :=
  fX0_dryPitches_4 200 a0 (0 : Int32) (0 : Int32) μ
set_option maxRecDepth 100000 in
set_option maxHeartbeats 4000000 in
theorem tX0_dryPitches (g : zG) {a0 : Nat} {μ : zMem} {Q : Int32 → zMem → Prop} (ha0 : zkd a0 = 0) (h : zok (fX0_dryPitches a0 μ) Q) : zTi g yX0_dryPitches cX0_dryPitches 3 .int 2 [.ref (zad g a0)] μ Q := by
  refine zTi_of (P := fun r => True) zpi RX0 (by decide) rfl (Nat.le_of_ble_eq_true rfl) ?_
  intro κ X hret
  unfold fX0_dryPitches at h
  refine zi_iconst (pc' := 1) (v := (0 : Int32)) X dX0_dryPitches_0 rfl rfl ?_
  refine zi_istore_n (pc' := 2) X dX0_dryPitches_1 rfl rfl (by decide) [(1, .int (0 : Int32)), (0, .ref (zad g a0))] rfl ?_
  refine zi_iconst (pc' := 3) (v := (0 : Int32)) X dX0_dryPitches_2 rfl rfl ?_
  refine zi_istore_n (pc' := 4) X dX0_dryPitches_3 rfl rfl (by decide) [(2, .int (0 : Int32)), (1, .int (0 : Int32)), (0, .ref (zad g a0))] rfl ?_
  exact zi_sub X [2, 1, 0] _ rfl (lX0_dryPitches_4 X hret 200 a0 (0 : Int32) (0 : Int32) (μ) ha0 h)
def fX0_greatestGap_4 : Nat → Nat → Nat → Int32 → Int32 → zMem → Option (Int32 × zMem)
  | 0, _, _, _, _, _ => none
  | n + 1, a0, a1, a2, a3, μ =>
    if (4 : Int32) ≤ a3 then
      some (a2, μ)
    else
      zbd (fX0_gap a0 a1 a3 (μ a1 1) μ) fun r1 m2 =>
      fX0_greatestGap_4 n a0 a1 (if a2 < r1 then r1 else a2) (a3 + (1 : Int32)) m2
set_option maxRecDepth 100000 in
theorem lX0_greatestGap_4 {g : zG} {κ : zK} (X : zC g κ RX0 cX0_greatestGap 4 2) {Q : Int32 → zMem → Prop} (hret : ∀ pc lv r μ', decode cX0_greatestGap pc = .ok (.ireturn, 1) → True → Q r μ' → zV g κ pc lv [.int r] μ') : ∀ (n : Nat) (a0 : Nat) (a1 : Nat) (a2 : Int32) (a3 : Int32) (μ : zMem) (ha0 : zkd a0 = 0) (ha1 : zkd a1 = 4), zok (fX0_greatestGap_4 n a0 a1 a2 a3 μ) Q → zV g κ 4 [(0, .ref (zad g a0)), (1, .ref (zad g a1)), (2, .int a2), (3, .int a3)] [] μ := by
  intro n
  induction n with
  | zero =>
    intro a0 a1 a2 a3 μ ha0 ha1 h
    exact h.elim
  | succ n ih =>
    intro a0 a1 a2 a3 μ ha0 ha1 h
    rw [fX0_greatestGap_4] at h
    refine zi_iload_n (pc' := 5) X dX0_greatestGap_4 rfl rfl 3 rfl ?_
    refine zi_iconst (pc' := 6) (v := (4 : Int32)) X dX0_greatestGap_5 rfl rfl ?_
    refine zi_icmp_ge (pc' := 9) (tgt := 30) X dX0_greatestGap_6 rfl rfl (fun c => ?_) (fun c => ?_)
    · replace h := zok_t h c
      refine zi_iload_n (pc' := 31) X dX0_greatestGap_30 rfl rfl 2 rfl ?_
      exact hret _ _ _ _ dX0_greatestGap_31 trivial h
    · replace h := zok_f h c
      refine zi_iload_n (pc' := 10) X dX0_greatestGap_9 rfl rfl 2 rfl ?_
      refine zi_aload_n (pc' := 11) X dX0_greatestGap_10 rfl rfl 0 rfl ?_
      refine zi_aload_n (pc' := 12) X dX0_greatestGap_11 rfl rfl 1 rfl ?_
      refine zi_iload_n (pc' := 13) X dX0_greatestGap_12 rfl rfl 3 rfl ?_
      refine zi_aload_n (pc' := 14) X dX0_greatestGap_13 rfl rfl 1 rfl ?_
      refine zi_geti (pc' := 17) X zf_X0_58 rfl (by decide) ha1 dX0_greatestGap_14 rfl ?_
      refine zi_callVi (pc' := 20) X zl_X0_113 ha0 (by decide) [.ref (zad g a1), .int a3, .int (μ a1 1)] rfl rfl (by decide) (Nat.le_of_ble_eq_true rfl) dX0_greatestGap_17 rfl (tX0_gap _ ha0 ha1 (zok_bd h (fun r1 m2 h => ?_)))
      refine zi_mmax (pc' := 23) X zl_X0_99 (Nat.le_of_ble_eq_true rfl) (by decide) dX0_greatestGap_20 rfl ?_
      refine zi_istore_n (pc' := 24) X dX0_greatestGap_23 rfl rfl (by decide) [(2, .int (if a2 < r1 then r1 else a2)), (0, .ref (zad g a0)), (1, .ref (zad g a1)), (3, .int a3)] rfl ?_
      refine zi_iinc (pc' := 27) (v := (a3 + (1 : Int32))) X dX0_greatestGap_24 rfl 3 rfl rfl (by decide) [(3, .int (a3 + (1 : Int32))), (2, .int (if a2 < r1 then r1 else a2)), (0, .ref (zad g a0)), (1, .ref (zad g a1))] rfl ?_
      refine zi_goto (pc' := 4) X dX0_greatestGap_27 rfl ?_
      exact zi_sub X [2, 3, 1, 0] _ rfl (ih a0 a1 (if a2 < r1 then r1 else a2) (a3 + (1 : Int32)) (m2) ha0 ha1 h)
def fX0_greatestGap (a0 : Nat) (a1 : Nat) (μ : zMem) : Option (Int32 × zMem) :=
  fX0_greatestGap_4 200 a0 a1 (0 : Int32) (0 : Int32) μ
set_option maxRecDepth 100000 in
set_option maxHeartbeats 4000000 in
theorem tX0_greatestGap (g : zG) {a0 : Nat} {a1 : Nat} {μ : zMem} {Q : Int32 → zMem → Prop} (ha0 : zkd a0 = 0) (ha1 : zkd a1 = 4) (h : zok (fX0_greatestGap a0 a1 μ) Q) : zTi g yX0_greatestGap cX0_greatestGap 4 .int 2 [.ref (zad g a0), .ref (zad g a1)] μ Q := by
  refine zTi_of (P := fun r => True) zpi RX0 (by decide) rfl (Nat.le_of_ble_eq_true rfl) ?_
  intro κ X hret
  unfold fX0_greatestGap at h
  refine zi_iconst (pc' := 1) (v := (0 : Int32)) X dX0_greatestGap_0 rfl rfl ?_
  refine zi_istore_n (pc' := 2) X dX0_greatestGap_1 rfl rfl (by decide) [(2, .int (0 : Int32)), (0, .ref (zad g a0)), (1, .ref (zad g a1))] rfl ?_
  refine zi_iconst (pc' := 3) (v := (0 : Int32)) X dX0_greatestGap_2 rfl rfl ?_
  refine zi_istore_n (pc' := 4) X dX0_greatestGap_3 rfl rfl (by decide) [(3, .int (0 : Int32)), (2, .int (0 : Int32)), (0, .ref (zad g a0)), (1, .ref (zad g a1))] rfl ?_
  exact zi_sub X [2, 3, 1, 0] _ rfl (lX0_greatestGap_4 X hret 200 a0 a1 (0 : Int32) (0 : Int32) (μ) ha0 ha1 h)
def fX5_neighbour (a0 : Int32) (a1 : Int32) (μ : zMem) : Option (Int32 × zMem) :=
  if a1 = (0 : Int32) then
    if (a0 / (5 : Int32)) ≤ 0 then
      some ((-1 : Int32), μ)
    else
      some ((a0 - (5 : Int32)), μ)
  else
    if a1 = (1 : Int32) then
      if (a0 - a0 / (5 : Int32) * (5 : Int32)) ≤ 0 then
        some ((-1 : Int32), μ)
      else
        some ((a0 - (1 : Int32)), μ)
    else
      if a1 = (2 : Int32) then
        if (4 : Int32) ≤ (a0 - a0 / (5 : Int32) * (5 : Int32)) then
          some ((-1 : Int32), μ)
        else
          some ((a0 + (1 : Int32)), μ)
      else
        if a1 = (3 : Int32) then
          if (4 : Int32) ≤ (a0 / (5 : Int32)) then
            some ((-1 : Int32), μ)
          else
            some ((a0 + (5 : Int32)), μ)
        else
          some ((-1 : Int32), μ)
set_option maxRecDepth 100000 in
set_option maxHeartbeats 4000000 in
theorem tX5_neighbour (g : zG) {a0 : Int32} {a1 : Int32} {μ : zMem} {Q : Int32 → zMem → Prop} (h : zok (fX5_neighbour a0 a1 μ) Q) : zTi g yX5_neighbour cX5_neighbour 4 .int 0 [.int a0, .int a1] μ Q := by
  refine zTi_of (P := fun r => True) zpi RX5 (by decide) rfl (Nat.le_of_ble_eq_true rfl) ?_
  intro κ X hret
  unfold fX5_neighbour at h
  refine zi_iload_n (pc' := 1) X dX5_neighbour_0 rfl rfl 0 rfl ?_
  refine zi_iconst (pc' := 2) (v := (5 : Int32)) X dX5_neighbour_1 rfl rfl ?_
  refine zi_idiv (pc' := 3) X dX5_neighbour_2 rfl (by decide) ?_
  refine zi_istore_n (pc' := 4) X dX5_neighbour_3 rfl rfl (by decide) [(2, .int (a0 / (5 : Int32))), (0, .int a0), (1, .int a1)] rfl ?_
  refine zi_iload_n (pc' := 5) X dX5_neighbour_4 rfl rfl 1 rfl ?_
  refine zi_iconst (pc' := 6) (v := (5 : Int32)) X dX5_neighbour_5 rfl rfl ?_
  refine zi_irem (pc' := 7) X dX5_neighbour_6 rfl (by decide) ?_
  refine zi_istore_n (pc' := 8) X dX5_neighbour_7 rfl rfl (by decide) [(3, .int (a0 - a0 / (5 : Int32) * (5 : Int32))), (2, .int (a0 / (5 : Int32))), (0, .int a0), (1, .int a1)] rfl ?_
  refine zi_iload_n (pc' := 9) X dX5_neighbour_8 rfl rfl 3 rfl ?_
  by_cases c0 : a1 = (0 : Int32)
  · replace h := zok_t h c0
    refine zi_tabIn (pc' := 40) X c0 dX5_neighbour_9 ⟨by decide, rfl, rfl⟩ ?_
    refine zi_iload_n (pc' := 41) X dX5_neighbour_40 rfl rfl 1 rfl ?_
    refine zi_if_le (pc' := 44) (tgt := 50) X dX5_neighbour_41 rfl rfl (fun c => ?_) (fun c => ?_)
    · replace h := zok_t h c
      refine zi_iconst (pc' := 51) (v := (-1 : Int32)) X dX5_neighbour_50 rfl rfl ?_
      exact hret _ _ _ _ dX5_neighbour_51 trivial h
    · replace h := zok_f h c
      refine zi_iload_n (pc' := 45) X dX5_neighbour_44 rfl rfl 2 rfl ?_
      refine zi_iconst (pc' := 46) (v := (5 : Int32)) X dX5_neighbour_45 rfl rfl ?_
      refine zi_isub (pc' := 47) X dX5_neighbour_46 rfl ?_
      refine zi_goto (pc' := 51) X dX5_neighbour_47 rfl ?_
      exact hret _ _ _ _ dX5_neighbour_51 trivial h
  · replace h := zok_f h c0
    by_cases c1 : a1 = (1 : Int32)
    · replace h := zok_t h c1
      refine zi_tabIn (pc' := 52) X c1 dX5_neighbour_9 ⟨by decide, rfl, rfl⟩ ?_
      refine zi_iload_n (pc' := 53) X dX5_neighbour_52 rfl rfl 0 rfl ?_
      refine zi_if_le (pc' := 56) (tgt := 62) X dX5_neighbour_53 rfl rfl (fun c => ?_) (fun c => ?_)
      · replace h := zok_t h c
        refine zi_iconst (pc' := 63) (v := (-1 : Int32)) X dX5_neighbour_62 rfl rfl ?_
        exact hret _ _ _ _ dX5_neighbour_63 trivial h
      · replace h := zok_f h c
        refine zi_iload_n (pc' := 57) X dX5_neighbour_56 rfl rfl 2 rfl ?_
        refine zi_iconst (pc' := 58) (v := (1 : Int32)) X dX5_neighbour_57 rfl rfl ?_
        refine zi_isub (pc' := 59) X dX5_neighbour_58 rfl ?_
        refine zi_goto (pc' := 63) X dX5_neighbour_59 rfl ?_
        exact hret _ _ _ _ dX5_neighbour_63 trivial h
    · replace h := zok_f h c1
      by_cases c2 : a1 = (2 : Int32)
      · replace h := zok_t h c2
        refine zi_tabIn (pc' := 64) X c2 dX5_neighbour_9 ⟨by decide, rfl, rfl⟩ ?_
        refine zi_iload_n (pc' := 65) X dX5_neighbour_64 rfl rfl 0 rfl ?_
        refine zi_iconst (pc' := 66) (v := (4 : Int32)) X dX5_neighbour_65 rfl rfl ?_
        refine zi_icmp_ge (pc' := 69) (tgt := 75) X dX5_neighbour_66 rfl rfl (fun c => ?_) (fun c => ?_)
        · replace h := zok_t h c
          refine zi_iconst (pc' := 76) (v := (-1 : Int32)) X dX5_neighbour_75 rfl rfl ?_
          exact hret _ _ _ _ dX5_neighbour_76 trivial h
        · replace h := zok_f h c
          refine zi_iload_n (pc' := 70) X dX5_neighbour_69 rfl rfl 2 rfl ?_
          refine zi_iconst (pc' := 71) (v := (1 : Int32)) X dX5_neighbour_70 rfl rfl ?_
          refine zi_iadd (pc' := 72) X dX5_neighbour_71 rfl ?_
          refine zi_goto (pc' := 76) X dX5_neighbour_72 rfl ?_
          exact hret _ _ _ _ dX5_neighbour_76 trivial h
      · replace h := zok_f h c2
        by_cases c3 : a1 = (3 : Int32)
        · replace h := zok_t h c3
          refine zi_tabIn (pc' := 77) X c3 dX5_neighbour_9 ⟨by decide, rfl, rfl⟩ ?_
          refine zi_iload_n (pc' := 78) X dX5_neighbour_77 rfl rfl 1 rfl ?_
          refine zi_iconst (pc' := 79) (v := (4 : Int32)) X dX5_neighbour_78 rfl rfl ?_
          refine zi_icmp_ge (pc' := 82) (tgt := 88) X dX5_neighbour_79 rfl rfl (fun c => ?_) (fun c => ?_)
          · replace h := zok_t h c
            refine zi_iconst (pc' := 89) (v := (-1 : Int32)) X dX5_neighbour_88 rfl rfl ?_
            exact hret _ _ _ _ dX5_neighbour_89 trivial h
          · replace h := zok_f h c
            refine zi_iload_n (pc' := 83) X dX5_neighbour_82 rfl rfl 2 rfl ?_
            refine zi_iconst (pc' := 84) (v := (5 : Int32)) X dX5_neighbour_83 rfl rfl ?_
            refine zi_iadd (pc' := 85) X dX5_neighbour_84 rfl ?_
            refine zi_goto (pc' := 89) X dX5_neighbour_85 rfl ?_
            exact hret _ _ _ _ dX5_neighbour_89 trivial h
        · replace h := zok_f h c3
          have e0 := zne (0) rfl c0
          have e1 := zne (1) rfl c1
          have e2 := zne (2) rfl c2
          have e3 := zne (3) rfl c3
          refine zi_tabOut (pc' := 90) X (by omega) dX5_neighbour_9 rfl ?_
          refine zi_iconst (pc' := 91) (v := (-1 : Int32)) X dX5_neighbour_90 rfl rfl ?_
          exact hret _ _ _ _ dX5_neighbour_91 trivial h
def fX0_isStep_3 : Nat → Nat → Int32 → Int32 → Int32 → Int32 → zMem → Option (Int32 × zMem)
  | 0, _, _, _, _, _, _ => none
  | n + 1, a0, a1, a2, a3, a4, μ =>
    if (4 : Int32) ≤ a4 then
      some ((0 : Int32), μ)
    else
      zbd (fX5_neighbour a1 a4 μ) fun r1 m2 =>
      if r1 = a2 then
        zbd (fX0_climbBetween a0 a1 a2 m2) fun r3 m4 =>
        if a3 < r3 then
          some ((0 : Int32), m4)
        else
          some ((1 : Int32), m4)
      else
        fX0_isStep_3 n a0 a1 a2 a3 (a4 + (1 : Int32)) m2
set_option maxRecDepth 100000 in
theorem lX0_isStep_3 {g : zG} {κ : zK} (X : zC g κ RX0 cX0_isStep 5 2) {Q : Int32 → zMem → Prop} (hret : ∀ pc lv r μ', decode cX0_isStep pc = .ok (.ireturn, 1) → (r = 0 ∨ r = 1) → Q r μ' → zV g κ pc lv [.int r] μ') : ∀ (n : Nat) (a0 : Nat) (a1 : Int32) (a2 : Int32) (a3 : Int32) (a4 : Int32) (μ : zMem) (ha0 : zkd a0 = 0), zok (fX0_isStep_3 n a0 a1 a2 a3 a4 μ) Q → zV g κ 3 [(0, .ref (zad g a0)), (1, .int a1), (2, .int a2), (3, .int a3), (4, .int a4)] [] μ := by
  intro n
  induction n with
  | zero =>
    intro a0 a1 a2 a3 a4 μ ha0 h
    exact h.elim
  | succ n ih =>
    intro a0 a1 a2 a3 a4 μ ha0 h
    rw [fX0_isStep_3] at h
    refine zi_iload (pc' := 5) X dX0_isStep_3 rfl 4 rfl ?_
    refine zi_iconst (pc' := 6) (v := (4 : Int32)) X dX0_isStep_5 rfl rfl ?_
    refine zi_icmp_ge (pc' := 9) (tgt := 41) X dX0_isStep_6 rfl rfl (fun c => ?_) (fun c => ?_)
    · replace h := zok_t h c
      refine zi_iconst (pc' := 42) (v := (0 : Int32)) X dX0_isStep_41 rfl rfl ?_
      exact hret _ _ _ _ dX0_isStep_42 (by decide) h
    · replace h := zok_f h c
      refine zi_iload_n (pc' := 10) X dX0_isStep_9 rfl rfl 1 rfl ?_
      refine zi_iload (pc' := 12) X dX0_isStep_10 rfl 4 rfl ?_
      refine zi_callSi (pc' := 15) X zl_X0_93 [.int a1, .int a4] rfl rfl (by decide) (Nat.le_of_ble_eq_true rfl) dX0_isStep_12 rfl (tX5_neighbour _ (zok_bd h (fun r1 m2 h => ?_)))
      refine zi_iload_n (pc' := 16) X dX0_isStep_15 rfl rfl 2 rfl ?_
      refine zi_icmp_ne (pc' := 19) (tgt := 35) X dX0_isStep_16 rfl rfl (fun c => ?_) (fun c => ?_)
      · replace h := zok_f h c
        refine zi_iinc (pc' := 38) (v := (a4 + (1 : Int32))) X dX0_isStep_35 rfl 4 rfl rfl (by decide) [(4, .int (a4 + (1 : Int32))), (0, .ref (zad g a0)), (1, .int a1), (2, .int a2), (3, .int a3)] rfl ?_
        refine zi_goto (pc' := 3) X dX0_isStep_38 rfl ?_
        exact zi_sub X [1, 2, 3, 4, 0] _ rfl (ih a0 a1 a2 a3 (a4 + (1 : Int32)) (m2) ha0 h)
      · replace h := zok_t h c
        refine zi_aload_n (pc' := 20) X dX0_isStep_19 rfl rfl 0 rfl ?_
        refine zi_iload_n (pc' := 21) X dX0_isStep_20 rfl rfl 1 rfl ?_
        refine zi_iload_n (pc' := 22) X dX0_isStep_21 rfl rfl 2 rfl ?_
        refine zi_callVi (pc' := 25) X zl_X0_96 ha0 (by decide) [.int a1, .int a2] rfl rfl (by decide) (Nat.le_of_ble_eq_true rfl) dX0_isStep_22 rfl (tX0_climbBetween _ ha0 (zok_bd h (fun r3 m4 h => ?_)))
        refine zi_iload_n (pc' := 26) X dX0_isStep_25 rfl rfl 3 rfl ?_
        refine zi_icmp_gt (pc' := 29) (tgt := 33) X dX0_isStep_26 rfl rfl (fun c => ?_) (fun c => ?_)
        · replace h := zok_t h c
          refine zi_iconst (pc' := 34) (v := (0 : Int32)) X dX0_isStep_33 rfl rfl ?_
          exact hret _ _ _ _ dX0_isStep_34 (by decide) h
        · replace h := zok_f h c
          refine zi_iconst (pc' := 30) (v := (1 : Int32)) X dX0_isStep_29 rfl rfl ?_
          refine zi_goto (pc' := 34) X dX0_isStep_30 rfl ?_
          exact hret _ _ _ _ dX0_isStep_34 (by decide) h
def fX0_isStep (a0 : Nat) (a1 : Int32) (a2 : Int32) (a3 : Int32) (μ : zMem) : Option (Int32 × zMem) :=
  fX0_isStep_3 200 a0 a1 a2 a3 (0 : Int32) μ
set_option maxRecDepth 100000 in
set_option maxHeartbeats 4000000 in
theorem tX0_isStep (g : zG) {a0 : Nat} {a1 : Int32} {a2 : Int32} {a3 : Int32} {μ : zMem} {Q : Int32 → zMem → Prop} (ha0 : zkd a0 = 0) (h : zok (fX0_isStep a0 a1 a2 a3 μ) Q) : zTi g yX0_isStep cX0_isStep 5 .boolean 2 [.ref (zad g a0), .int a1, .int a2, .int a3] μ Q := by
  refine zTi_of (P := fun r => r = 0 ∨ r = 1) zpb RX0 (by decide) rfl (Nat.le_of_ble_eq_true rfl) ?_
  intro κ X hret
  unfold fX0_isStep at h
  refine zi_iconst (pc' := 1) (v := (0 : Int32)) X dX0_isStep_0 rfl rfl ?_
  refine zi_istore (pc' := 3) X dX0_isStep_1 rfl (by decide) [(4, .int (0 : Int32)), (0, .ref (zad g a0)), (1, .int a1), (2, .int a2), (3, .int a3)] rfl ?_
  exact zi_sub X [1, 2, 3, 4, 0] _ rfl (lX0_isStep_3 X hret 200 a0 a1 a2 a3 (0 : Int32) (μ) ha0 h)
def fX0_pressAndTake_2 : Nat → Nat → Nat → Int32 → zMem → Option (Unit × zMem)
  | 0, _, _, _, _ => none
  | n + 1, a0, a1, a2, μ =>
    if (4 : Int32) ≤ a2 then
      some ((), μ)
    else
      zbd (fX5_cellUnder (μ a1 1) a2 μ) fun r1 m2 =>
      zgd (zib a2 4) (
      zgd (zib r1 25) (
      if (m2 (a1 + 1) (a2).toNatClampNeg) = (-1 : Int32) then
        zgd (zib a2 4) (
        fX0_pressAndTake_2 n a0 a1 (a2 + (1 : Int32)) (zst m2 (a1 + 1) (a2).toNatClampNeg (m2 (a0 + 1) (r1).toNatClampNeg)))
      else
        zbd (fX4_pressed a1 (m2 (a1 + 1) (a2).toNatClampNeg) (m2 (a0 + 1) (r1).toNatClampNeg) m2) fun r8 m9 =>
        zgd (zib r1 25) (
        zbd (fX4_taken a1 (m2 (a1 + 1) (a2).toNatClampNeg) (m2 (a0 + 1) (r1).toNatClampNeg) (zst m9 (a0 + 1) (r1).toNatClampNeg r8)) fun r12 m13 =>
        zgd (zib a2 4) (
        fX0_pressAndTake_2 n a0 a1 (a2 + (1 : Int32)) (zst m13 (a1 + 1) (a2).toNatClampNeg r12)))))
set_option maxRecDepth 100000 in
theorem lX0_pressAndTake_2 {g : zG} {κ : zK} (X : zC g κ RX0 cX0_pressAndTake 6 2) {Q : Unit → zMem → Prop} (hret : ∀ pc lv μ', decode cX0_pressAndTake pc = .ok (.return_, 1) → Q () μ' → zV g κ pc lv [] μ') : ∀ (n : Nat) (a0 : Nat) (a1 : Nat) (a2 : Int32) (μ : zMem) (ha0 : zkd a0 = 0) (ha1 : zkd a1 = 4), zok (fX0_pressAndTake_2 n a0 a1 a2 μ) Q → zV g κ 2 [(0, .ref (zad g a0)), (1, .ref (zad g a1)), (2, .int a2)] [] μ := by
  intro n
  induction n with
  | zero =>
    intro a0 a1 a2 μ ha0 ha1 h
    exact h.elim
  | succ n ih =>
    intro a0 a1 a2 μ ha0 ha1 h
    rw [fX0_pressAndTake_2] at h
    refine zi_iload_n (pc' := 3) X dX0_pressAndTake_2 rfl rfl 2 rfl ?_
    refine zi_iconst (pc' := 4) (v := (4 : Int32)) X dX0_pressAndTake_3 rfl rfl ?_
    refine zi_icmp_ge (pc' := 7) (tgt := 83) X dX0_pressAndTake_4 rfl rfl (fun c => ?_) (fun c => ?_)
    · replace h := zok_t h c
      exact hret _ _ _ dX0_pressAndTake_83 h
    · replace h := zok_f h c
      refine zi_aload_n (pc' := 8) X dX0_pressAndTake_7 rfl rfl 1 rfl ?_
      refine zi_geti (pc' := 11) X zf_X0_58 rfl (by decide) ha1 dX0_pressAndTake_8 rfl ?_
      refine zi_iload_n (pc' := 12) X dX0_pressAndTake_11 rfl rfl 2 rfl ?_
      refine zi_callSi (pc' := 15) X zl_X0_76 [.int (μ a1 1), .int a2] rfl rfl (by decide) (Nat.le_of_ble_eq_true rfl) dX0_pressAndTake_12 rfl (tX5_cellUnder _ (zok_bd h (fun r1 m2 h => ?_)))
      refine zi_istore_n (pc' := 16) X dX0_pressAndTake_15 rfl rfl (by decide) [(3, .int r1), (0, .ref (zad g a0)), (1, .ref (zad g a1)), (2, .int a2)] rfl ?_
      refine zi_aload_n (pc' := 17) X dX0_pressAndTake_16 rfl rfl 2 rfl ?_
      refine zi_getr (pc' := 20) X zf_X0_80 rfl (by decide) ha1 dX0_pressAndTake_17 rfl ?_
      have f3 := zr_4_3 ha1
      refine zi_iload_n (pc' := 21) X dX0_pressAndTake_20 rfl rfl 3 rfl ?_
      obtain ⟨g4, h⟩ := zok_g h
      refine zi_iald (pc' := 22) X f3.1 (by rw [f3.2]; exact g4) dX0_pressAndTake_21 rfl ?_
      refine zi_istore (pc' := 24) X dX0_pressAndTake_22 rfl (by decide) [(4, .int (m2 (a1 + 1) (a2).toNatClampNeg)), (3, .int r1), (0, .ref (zad g a0)), (1, .ref (zad g a1)), (2, .int a2)] rfl ?_
      refine zi_aload_n (pc' := 25) X dX0_pressAndTake_24 rfl rfl 2 rfl ?_
      refine zi_getr (pc' := 28) X zf_X0_9 rfl (by decide) ha0 dX0_pressAndTake_25 rfl ?_
      have f5 := zr_0_0 ha0
      refine zi_iload_n (pc' := 29) X dX0_pressAndTake_28 rfl rfl 1 rfl ?_
      obtain ⟨g6, h⟩ := zok_g h
      refine zi_iald (pc' := 30) X f5.1 (by rw [f5.2]; exact g6) dX0_pressAndTake_29 rfl ?_
      refine zi_istore (pc' := 32) X dX0_pressAndTake_30 rfl (by decide) [(5, .int (m2 (a0 + 1) (r1).toNatClampNeg)), (4, .int (m2 (a1 + 1) (a2).toNatClampNeg)), (3, .int r1), (0, .ref (zad g a0)), (1, .ref (zad g a1)), (2, .int a2)] rfl ?_
      refine zi_iload (pc' := 34) X dX0_pressAndTake_32 rfl 1 rfl ?_
      refine zi_iconst (pc' := 35) (v := (-1 : Int32)) X dX0_pressAndTake_34 rfl rfl ?_
      refine zi_icmp_ne (pc' := 38) (tgt := 49) X dX0_pressAndTake_35 rfl rfl (fun c => ?_) (fun c => ?_)
      · replace h := zok_f h c
        refine zi_aload_n (pc' := 50) X dX0_pressAndTake_49 rfl rfl 3 rfl ?_
        refine zi_getr (pc' := 53) X zf_X0_9 rfl (by decide) ha0 dX0_pressAndTake_50 rfl ?_
        have f7 := zr_0_0 ha0
        refine zi_iload_n (pc' := 54) X dX0_pressAndTake_53 rfl rfl 2 rfl ?_
        refine zi_aload_n (pc' := 55) X dX0_pressAndTake_54 rfl rfl 4 rfl ?_
        refine zi_iload (pc' := 57) X dX0_pressAndTake_55 rfl 1 rfl ?_
        refine zi_iload (pc' := 59) X dX0_pressAndTake_57 rfl 0 rfl ?_
        refine zi_callVi (pc' := 62) X zl_X0_83 ha1 (by decide) [.int (m2 (a1 + 1) (a2).toNatClampNeg), .int (m2 (a0 + 1) (r1).toNatClampNeg)] rfl rfl (by decide) (Nat.le_of_ble_eq_true rfl) dX0_pressAndTake_59 rfl (tX4_pressed _ ha1 (zok_bd h (fun r8 m9 h => ?_)))
        obtain ⟨g10, h⟩ := zok_g h
        refine zi_iast (pc' := 63) X f7.1 (by rw [f7.2]; exact g10) dX0_pressAndTake_62 rfl ?_
        refine zi_aload_n (pc' := 64) X dX0_pressAndTake_63 rfl rfl 4 rfl ?_
        refine zi_getr (pc' := 67) X zf_X0_80 rfl (by decide) ha1 dX0_pressAndTake_64 rfl ?_
        have f11 := zr_4_3 ha1
        refine zi_iload_n (pc' := 68) X dX0_pressAndTake_67 rfl rfl 5 rfl ?_
        refine zi_aload_n (pc' := 69) X dX0_pressAndTake_68 rfl rfl 4 rfl ?_
        refine zi_iload (pc' := 71) X dX0_pressAndTake_69 rfl 1 rfl ?_
        refine zi_iload (pc' := 73) X dX0_pressAndTake_71 rfl 0 rfl ?_
        refine zi_callVi (pc' := 76) X zl_X0_86 ha1 (by decide) [.int (m2 (a1 + 1) (a2).toNatClampNeg), .int (m2 (a0 + 1) (r1).toNatClampNeg)] rfl rfl (by decide) (Nat.le_of_ble_eq_true rfl) dX0_pressAndTake_73 rfl (tX4_taken _ ha1 (zok_bd h (fun r12 m13 h => ?_)))
        obtain ⟨g14, h⟩ := zok_g h
        refine zi_iast (pc' := 77) X f11.1 (by rw [f11.2]; exact g14) dX0_pressAndTake_76 rfl ?_
        refine zi_iinc (pc' := 80) (v := (a2 + (1 : Int32))) X dX0_pressAndTake_77 rfl 5 rfl rfl (by decide) [(2, .int (a2 + (1 : Int32))), (5, .int (m2 (a0 + 1) (r1).toNatClampNeg)), (4, .int (m2 (a1 + 1) (a2).toNatClampNeg)), (3, .int r1), (0, .ref (zad g a0)), (1, .ref (zad g a1))] rfl ?_
        refine zi_goto (pc' := 2) X dX0_pressAndTake_80 rfl ?_
        exact zi_sub X [4, 5, 0] _ rfl (ih a0 a1 (a2 + (1 : Int32)) ((zst m13 (a1 + 1) (a2).toNatClampNeg r12)) ha0 ha1 h)
      · replace h := zok_t h c
        refine zi_aload_n (pc' := 39) X dX0_pressAndTake_38 rfl rfl 4 rfl ?_
        refine zi_getr (pc' := 42) X zf_X0_80 rfl (by decide) ha1 dX0_pressAndTake_39 rfl ?_
        have f15 := zr_4_3 ha1
        refine zi_iload_n (pc' := 43) X dX0_pressAndTake_42 rfl rfl 5 rfl ?_
        refine zi_iload (pc' := 45) X dX0_pressAndTake_43 rfl 0 rfl ?_
        obtain ⟨g16, h⟩ := zok_g h
        refine zi_iast (pc' := 46) X f15.1 (by rw [f15.2]; exact g16) dX0_pressAndTake_45 rfl ?_
        refine zi_goto (pc' := 77) X dX0_pressAndTake_46 rfl ?_
        refine zi_iinc (pc' := 80) (v := (a2 + (1 : Int32))) X dX0_pressAndTake_77 rfl 5 rfl rfl (by decide) [(2, .int (a2 + (1 : Int32))), (5, .int (m2 (a0 + 1) (r1).toNatClampNeg)), (4, .int (m2 (a1 + 1) (a2).toNatClampNeg)), (3, .int r1), (0, .ref (zad g a0)), (1, .ref (zad g a1))] rfl ?_
        refine zi_goto (pc' := 2) X dX0_pressAndTake_80 rfl ?_
        exact zi_sub X [4, 5, 0] _ rfl (ih a0 a1 (a2 + (1 : Int32)) ((zst m2 (a1 + 1) (a2).toNatClampNeg (m2 (a0 + 1) (r1).toNatClampNeg))) ha0 ha1 h)
def fX0_pressAndTake (a0 : Nat) (a1 : Nat) (μ : zMem) : Option (Unit × zMem) :=
  fX0_pressAndTake_2 200 a0 a1 (0 : Int32) μ
set_option maxRecDepth 100000 in
set_option maxHeartbeats 4000000 in
theorem tX0_pressAndTake (g : zG) {a0 : Nat} {a1 : Nat} {μ : zMem} {Q : Unit → zMem → Prop} (ha0 : zkd a0 = 0) (ha1 : zkd a1 = 4) (h : zok (fX0_pressAndTake a0 a1 μ) Q) : zTv g yX0_pressAndTake cX0_pressAndTake 6 2 [.ref (zad g a0), .ref (zad g a1)] μ Q := by
  refine zTv_of RX0 (by decide) rfl (Nat.le_of_ble_eq_true rfl) ?_
  intro κ X hret
  unfold fX0_pressAndTake at h
  refine zi_iconst (pc' := 1) (v := (0 : Int32)) X dX0_pressAndTake_0 rfl rfl ?_
  refine zi_istore_n (pc' := 2) X dX0_pressAndTake_1 rfl rfl (by decide) [(2, .int (0 : Int32)), (0, .ref (zad g a0)), (1, .ref (zad g a1))] rfl ?_
  exact zi_sub X [1, 2, 0] _ rfl (lX0_pressAndTake_2 X hret 200 a0 a1 (0 : Int32) (μ) ha0 ha1 h)
