def fX6_laysBack (a0 : Nat) (μ : zMem) : Option (Unit × zMem) :=
  zbd (fX6_become (a0 + 3) (a0 + 1) μ) fun _ m4 =>
  some ((), m4)
set_option maxRecDepth 100000 in
set_option maxHeartbeats 4000000 in
theorem tX6_laysBack (g : zG) {a0 : Nat} {μ : zMem} {Q : Unit → zMem → Prop} (ha0 : zkd a0 = 6) (h : zok (fX6_laysBack a0 μ) Q) : zTv g yX6_laysBack cX6_laysBack 1 1 [.ref (zad g a0)] μ Q := by
  refine zTv_of RX6 (by decide) rfl (Nat.le_of_ble_eq_true rfl) ?_
  intro κ X hret
  unfold fX6_laysBack at h
  refine zi_aload_n (pc' := 1) X dX6_laysBack_0 rfl rfl 0 rfl ?_
  refine zi_getr (pc' := 4) X zf_X6_16 rfl (by decide) ha0 dX6_laysBack_1 rfl ?_
  have f1 := zr_6_2 ha0
  refine zi_aload_n (pc' := 5) X dX6_laysBack_4 rfl rfl 0 rfl ?_
  refine zi_getr (pc' := 8) X zf_X6_9 rfl (by decide) ha0 dX6_laysBack_5 rfl ?_
  have f2 := zr_6_0 ha0
  refine zi_callSv (pc' := 11) X zl_X6_44 [.ref (zad g (a0 + 3)), .ref (zad g (a0 + 1))] rfl rfl (by decide) (Nat.le_of_ble_eq_true rfl) dX6_laysBack_8 rfl (tX6_become _ f1.1 f2.1 (zok_bd h (fun _ m4 h => ?_)))
  exact hret _ _ _ dX6_laysBack_11 h
def fX6_lends (a0 : Nat) (μ : zMem) : Option (Unit × zMem) :=
  zbd (fX6_become (a0 + 1) (a0 + 3) μ) fun _ m4 =>
  some ((), m4)
set_option maxRecDepth 100000 in
set_option maxHeartbeats 4000000 in
theorem tX6_lends (g : zG) {a0 : Nat} {μ : zMem} {Q : Unit → zMem → Prop} (ha0 : zkd a0 = 6) (h : zok (fX6_lends a0 μ) Q) : zTv g yX6_lends cX6_lends 1 1 [.ref (zad g a0)] μ Q := by
  refine zTv_of RX6 (by decide) rfl (Nat.le_of_ble_eq_true rfl) ?_
  intro κ X hret
  unfold fX6_lends at h
  refine zi_aload_n (pc' := 1) X dX6_lends_0 rfl rfl 0 rfl ?_
  refine zi_getr (pc' := 4) X zf_X6_9 rfl (by decide) ha0 dX6_lends_1 rfl ?_
  have f1 := zr_6_0 ha0
  refine zi_aload_n (pc' := 5) X dX6_lends_4 rfl rfl 0 rfl ?_
  refine zi_getr (pc' := 8) X zf_X6_16 rfl (by decide) ha0 dX6_lends_5 rfl ?_
  have f2 := zr_6_2 ha0
  refine zi_callSv (pc' := 11) X zl_X6_44 [.ref (zad g (a0 + 1)), .ref (zad g (a0 + 3))] rfl rfl (by decide) (Nat.le_of_ble_eq_true rfl) dX6_lends_8 rfl (tX6_become _ f1.1 f2.1 (zok_bd h (fun _ m4 h => ?_)))
  exact hret _ _ _ dX6_lends_11 h
def fX6_orNone (a0 : Nat) (a1 : Int32) (a2 : Int32) (μ : zMem) : Option (Int32 × zMem) :=
  if a2 < a1 then
    zbd (fX6_finds a0 (3 : Int32) μ) fun r1 m2 =>
    some (r1, m2)
  else
    some (a1, μ)
set_option maxRecDepth 100000 in
set_option maxHeartbeats 4000000 in
theorem tX6_orNone (g : zG) {a0 : Nat} {a1 : Int32} {a2 : Int32} {μ : zMem} {Q : Int32 → zMem → Prop} (ha0 : zkd a0 = 6) (h : zok (fX6_orNone a0 a1 a2 μ) Q) : zTi g yX6_orNone cX6_orNone 3 .int 1 [.ref (zad g a0), .int a1, .int a2] μ Q := by
  refine zTi_of (P := fun r => True) zpi RX6 (by decide) rfl (Nat.le_of_ble_eq_true rfl) ?_
  intro κ X hret
  unfold fX6_orNone at h
  refine zi_iload_n (pc' := 1) X dX6_orNone_0 rfl rfl 1 rfl ?_
  refine zi_iload_n (pc' := 2) X dX6_orNone_1 rfl rfl 2 rfl ?_
  refine zi_icmp_gt (pc' := 5) (tgt := 9) X dX6_orNone_2 rfl rfl (fun c => ?_) (fun c => ?_)
  · replace h := zok_t h c
    refine zi_aload_n (pc' := 10) X dX6_orNone_9 rfl rfl 0 rfl ?_
    refine zi_iconst (pc' := 11) (v := (3 : Int32)) X dX6_orNone_10 rfl rfl ?_
    refine zi_callVi (pc' := 14) X zl_X6_93 ha0 (by decide) [.int (3 : Int32)] rfl rfl (by decide) (Nat.le_of_ble_eq_true rfl) dX6_orNone_11 rfl (tX6_finds _ ha0 (zok_bd h (fun r1 m2 h => ?_)))
    exact hret _ _ _ _ dX6_orNone_14 trivial h
  · replace h := zok_f h c
    refine zi_iload_n (pc' := 6) X dX6_orNone_5 rfl rfl 1 rfl ?_
    refine zi_goto (pc' := 14) X dX6_orNone_6 rfl ?_
    exact hret _ _ _ _ dX6_orNone_14 trivial h
def fX6_pitched_4 : Nat → Nat → Int32 → Int32 → zMem → Option (Int32 × zMem)
  | 0, _, _, _, _ => none
  | n + 1, a0, a1, a2, μ =>
    zgd (zib (2 : Int32) 87) (
    if (μ (a0 + 1) ((2 : Int32)).toNatClampNeg) ≤ a2 then
      some (a1, μ)
    else
      zbd (fX6_its a0 a2 (1 : Int32) μ) fun r3 m4 =>
      if r3 < 0 then
        fX6_pitched_4 n a0 (a1 ||| (0 : Int32)) (a2 + (1 : Int32)) m4
      else
        fX6_pitched_4 n a0 (a1 ||| ((1 : Int32) <<< (a2 &&& 31))) (a2 + (1 : Int32)) m4)
set_option maxRecDepth 100000 in
theorem lX6_pitched_4 {g : zG} {κ : zK} (X : zC g κ RX6 cX6_pitched 3 1) {Q : Int32 → zMem → Prop} (hret : ∀ pc lv r μ', decode cX6_pitched pc = .ok (.ireturn, 1) → True → Q r μ' → zV g κ pc lv [.int r] μ') : ∀ (n : Nat) (a0 : Nat) (a1 : Int32) (a2 : Int32) (μ : zMem) (ha0 : zkd a0 = 6), zok (fX6_pitched_4 n a0 a1 a2 μ) Q → zV g κ 4 [(0, .ref (zad g a0)), (1, .int a1), (2, .int a2)] [] μ := by
  intro n
  induction n with
  | zero =>
    intro a0 a1 a2 μ ha0 h
    exact h.elim
  | succ n ih =>
    intro a0 a1 a2 μ ha0 h
    rw [fX6_pitched_4] at h
    refine zi_iload_n (pc' := 5) X dX6_pitched_4 rfl rfl 2 rfl ?_
    refine zi_aload_n (pc' := 6) X dX6_pitched_5 rfl rfl 0 rfl ?_
    refine zi_getr (pc' := 9) X zf_X6_9 rfl (by decide) ha0 dX6_pitched_6 rfl ?_
    have f1 := zr_6_0 ha0
    refine zi_iconst (pc' := 10) (v := (2 : Int32)) X dX6_pitched_9 rfl rfl ?_
    obtain ⟨g2, h⟩ := zok_g h
    refine zi_iald (pc' := 11) X f1.1 (by rw [f1.2]; exact g2) dX6_pitched_10 rfl ?_
    refine zi_icmp_ge (pc' := 14) (tgt := 39) X dX6_pitched_11 rfl rfl (fun c => ?_) (fun c => ?_)
    · replace h := zok_t h c
      refine zi_iload_n (pc' := 40) X dX6_pitched_39 rfl rfl 1 rfl ?_
      exact hret _ _ _ _ dX6_pitched_40 trivial h
    · replace h := zok_f h c
      refine zi_iload_n (pc' := 15) X dX6_pitched_14 rfl rfl 1 rfl ?_
      refine zi_aload_n (pc' := 16) X dX6_pitched_15 rfl rfl 0 rfl ?_
      refine zi_iload_n (pc' := 17) X dX6_pitched_16 rfl rfl 2 rfl ?_
      refine zi_iconst (pc' := 18) (v := (1 : Int32)) X dX6_pitched_17 rfl rfl ?_
      refine zi_callVi (pc' := 21) X zl_X6_76 ha0 (by decide) [.int a2, .int (1 : Int32)] rfl rfl (by decide) (Nat.le_of_ble_eq_true rfl) dX6_pitched_18 rfl (tX6_its _ ha0 (zok_bd h (fun r3 m4 h => ?_)))
      refine zi_if_lt (pc' := 24) (tgt := 30) X dX6_pitched_21 rfl rfl (fun c => ?_) (fun c => ?_)
      · replace h := zok_t h c
        refine zi_iconst (pc' := 31) (v := (0 : Int32)) X dX6_pitched_30 rfl rfl ?_
        refine zi_ior (pc' := 32) X dX6_pitched_31 rfl ?_
        refine zi_istore_n (pc' := 33) X dX6_pitched_32 rfl rfl (by decide) [(1, .int (a1 ||| (0 : Int32))), (0, .ref (zad g a0)), (2, .int a2)] rfl ?_
        refine zi_iinc (pc' := 36) (v := (a2 + (1 : Int32))) X dX6_pitched_33 rfl 2 rfl rfl (by decide) [(2, .int (a2 + (1 : Int32))), (1, .int (a1 ||| (0 : Int32))), (0, .ref (zad g a0))] rfl ?_
        refine zi_goto (pc' := 4) X dX6_pitched_36 rfl ?_
        exact zi_sub X [2, 1, 0] _ rfl (ih a0 (a1 ||| (0 : Int32)) (a2 + (1 : Int32)) (m4) ha0 h)
      · replace h := zok_f h c
        refine zi_iconst (pc' := 25) (v := (1 : Int32)) X dX6_pitched_24 rfl rfl ?_
        refine zi_iload_n (pc' := 26) X dX6_pitched_25 rfl rfl 2 rfl ?_
        refine zi_ishl (pc' := 27) X dX6_pitched_26 rfl ?_
        refine zi_goto (pc' := 31) X dX6_pitched_27 rfl ?_
        refine zi_ior (pc' := 32) X dX6_pitched_31 rfl ?_
        refine zi_istore_n (pc' := 33) X dX6_pitched_32 rfl rfl (by decide) [(1, .int (a1 ||| ((1 : Int32) <<< (a2 &&& 31)))), (0, .ref (zad g a0)), (2, .int a2)] rfl ?_
        refine zi_iinc (pc' := 36) (v := (a2 + (1 : Int32))) X dX6_pitched_33 rfl 2 rfl rfl (by decide) [(2, .int (a2 + (1 : Int32))), (1, .int (a1 ||| ((1 : Int32) <<< (a2 &&& 31)))), (0, .ref (zad g a0))] rfl ?_
        refine zi_goto (pc' := 4) X dX6_pitched_36 rfl ?_
        exact zi_sub X [2, 1, 0] _ rfl (ih a0 (a1 ||| ((1 : Int32) <<< (a2 &&& 31))) (a2 + (1 : Int32)) (m4) ha0 h)
def fX6_pitched (a0 : Nat) (μ : zMem) : Option (Int32 × zMem) :=
  fX6_pitched_4 200 a0 (0 : Int32) (0 : Int32) μ
set_option maxRecDepth 100000 in
set_option maxHeartbeats 4000000 in
theorem tX6_pitched (g : zG) {a0 : Nat} {μ : zMem} {Q : Int32 → zMem → Prop} (ha0 : zkd a0 = 6) (h : zok (fX6_pitched a0 μ) Q) : zTi g yX6_pitched cX6_pitched 3 .int 1 [.ref (zad g a0)] μ Q := by
  refine zTi_of (P := fun r => True) zpi RX6 (by decide) rfl (Nat.le_of_ble_eq_true rfl) ?_
  intro κ X hret
  unfold fX6_pitched at h
  refine zi_iconst (pc' := 1) (v := (0 : Int32)) X dX6_pitched_0 rfl rfl ?_
  refine zi_istore_n (pc' := 2) X dX6_pitched_1 rfl rfl (by decide) [(1, .int (0 : Int32)), (0, .ref (zad g a0))] rfl ?_
  refine zi_iconst (pc' := 3) (v := (0 : Int32)) X dX6_pitched_2 rfl rfl ?_
  refine zi_istore_n (pc' := 4) X dX6_pitched_3 rfl rfl (by decide) [(2, .int (0 : Int32)), (1, .int (0 : Int32)), (0, .ref (zad g a0))] rfl ?_
  exact zi_sub X [2, 1, 0] _ rfl (lX6_pitched_4 X hret 200 a0 (0 : Int32) (0 : Int32) (μ) ha0 h)
def fX6_seed (a0 : Nat) (a1 : Int32) (μ : zMem) : Option (Int32 × zMem) :=
  zbd (fX6_becomes a0 (1 : Int32) a1 μ) fun r1 m2 =>
  some (r1, m2)
set_option maxRecDepth 100000 in
set_option maxHeartbeats 4000000 in
theorem tX6_seed (g : zG) {a0 : Nat} {a1 : Int32} {μ : zMem} {Q : Int32 → zMem → Prop} (ha0 : zkd a0 = 6) (h : zok (fX6_seed a0 a1 μ) Q) : zTi g yX6_seed cX6_seed 2 .int 1 [.ref (zad g a0), .int a1] μ Q := by
  refine zTi_of (P := fun r => True) zpi RX6 (by decide) rfl (Nat.le_of_ble_eq_true rfl) ?_
  intro κ X hret
  unfold fX6_seed at h
  refine zi_aload_n (pc' := 1) X dX6_seed_0 rfl rfl 0 rfl ?_
  refine zi_iconst (pc' := 2) (v := (1 : Int32)) X dX6_seed_1 rfl rfl ?_
  refine zi_iload_n (pc' := 3) X dX6_seed_2 rfl rfl 1 rfl ?_
  refine zi_callVi (pc' := 6) X zl_X6_90 ha0 (by decide) [.int (1 : Int32), .int a1] rfl rfl (by decide) (Nat.le_of_ble_eq_true rfl) dX6_seed_3 rfl (tX6_becomes _ ha0 (zok_bd h (fun r1 m2 h => ?_)))
  exact hret _ _ _ _ dX6_seed_6 trivial h
def fX6_span_7 : Nat → Nat → Int32 → Int32 → Int32 → zMem → Option (Int32 × zMem)
  | 0, _, _, _, _, _ => none
  | n + 1, a0, a1, a2, a3, μ =>
    if (25 : Int32) ≤ a3 then
      some ((a1 - a2), μ)
    else
      zgd (zib ((4 : Int32) + a3) 87) (
      zgd (zib ((4 : Int32) + a3) 87) (
      fX6_span_7 n a0 (if a1 < (μ (a0 + 1) (((4 : Int32) + a3)).toNatClampNeg) then (μ (a0 + 1) (((4 : Int32) + a3)).toNatClampNeg) else a1) (if (μ (a0 + 1) (((4 : Int32) + a3)).toNatClampNeg) < a2 then (μ (a0 + 1) (((4 : Int32) + a3)).toNatClampNeg) else a2) (a3 + (1 : Int32)) μ))
set_option maxRecDepth 100000 in
theorem lX6_span_7 {g : zG} {κ : zK} (X : zC g κ RX6 cX6_span 4 1) {Q : Int32 → zMem → Prop} (hret : ∀ pc lv r μ', decode cX6_span pc = .ok (.ireturn, 1) → True → Q r μ' → zV g κ pc lv [.int r] μ') : ∀ (n : Nat) (a0 : Nat) (a1 : Int32) (a2 : Int32) (a3 : Int32) (μ : zMem) (ha0 : zkd a0 = 6), zok (fX6_span_7 n a0 a1 a2 a3 μ) Q → zV g κ 7 [(0, .ref (zad g a0)), (1, .int a1), (2, .int a2), (3, .int a3)] [] μ := by
  intro n
  induction n with
  | zero =>
    intro a0 a1 a2 a3 μ ha0 h
    exact h.elim
  | succ n ih =>
    intro a0 a1 a2 a3 μ ha0 h
    rw [fX6_span_7] at h
    refine zi_iload_n (pc' := 8) X dX6_span_7 rfl rfl 3 rfl ?_
    refine zi_bipush (pc' := 10) (v := (25 : Int32)) X dX6_span_8 rfl rfl ?_
    refine zi_icmp_ge (pc' := 13) (tgt := 45) X dX6_span_10 rfl rfl (fun c => ?_) (fun c => ?_)
    · replace h := zok_t h c
      refine zi_iload_n (pc' := 46) X dX6_span_45 rfl rfl 1 rfl ?_
      refine zi_iload_n (pc' := 47) X dX6_span_46 rfl rfl 2 rfl ?_
      refine zi_isub (pc' := 48) X dX6_span_47 rfl ?_
      exact hret _ _ _ _ dX6_span_48 trivial h
    · replace h := zok_f h c
      refine zi_iload_n (pc' := 14) X dX6_span_13 rfl rfl 1 rfl ?_
      refine zi_aload_n (pc' := 15) X dX6_span_14 rfl rfl 0 rfl ?_
      refine zi_getr (pc' := 18) X zf_X6_9 rfl (by decide) ha0 dX6_span_15 rfl ?_
      have f1 := zr_6_0 ha0
      refine zi_iconst (pc' := 19) (v := (4 : Int32)) X dX6_span_18 rfl rfl ?_
      refine zi_iload_n (pc' := 20) X dX6_span_19 rfl rfl 3 rfl ?_
      refine zi_iadd (pc' := 21) X dX6_span_20 rfl ?_
      obtain ⟨g2, h⟩ := zok_g h
      refine zi_iald (pc' := 22) X f1.1 (by rw [f1.2]; exact g2) dX6_span_21 rfl ?_
      refine zi_mmax (pc' := 25) X zl_X6_64 (Nat.le_of_ble_eq_true rfl) (by decide) dX6_span_22 rfl ?_
      refine zi_istore_n (pc' := 26) X dX6_span_25 rfl rfl (by decide) [(1, .int (if a1 < (μ (a0 + 1) (((4 : Int32) + a3)).toNatClampNeg) then (μ (a0 + 1) (((4 : Int32) + a3)).toNatClampNeg) else a1)), (0, .ref (zad g a0)), (2, .int a2), (3, .int a3)] rfl ?_
      refine zi_iload_n (pc' := 27) X dX6_span_26 rfl rfl 2 rfl ?_
      refine zi_aload_n (pc' := 28) X dX6_span_27 rfl rfl 1 rfl ?_
      refine zi_getr (pc' := 31) X zf_X6_9 rfl (by decide) ha0 dX6_span_28 rfl ?_
      have f3 := zr_6_0 ha0
      refine zi_iconst (pc' := 32) (v := (4 : Int32)) X dX6_span_31 rfl rfl ?_
      refine zi_iload_n (pc' := 33) X dX6_span_32 rfl rfl 3 rfl ?_
      refine zi_iadd (pc' := 34) X dX6_span_33 rfl ?_
      obtain ⟨g4, h⟩ := zok_g h
      refine zi_iald (pc' := 35) X f3.1 (by rw [f3.2]; exact g4) dX6_span_34 rfl ?_
      refine zi_mmin (pc' := 38) X zl_X6_58 (Nat.le_of_ble_eq_true rfl) (by decide) dX6_span_35 rfl ?_
      refine zi_istore_n (pc' := 39) X dX6_span_38 rfl rfl (by decide) [(2, .int (if (μ (a0 + 1) (((4 : Int32) + a3)).toNatClampNeg) < a2 then (μ (a0 + 1) (((4 : Int32) + a3)).toNatClampNeg) else a2)), (1, .int (if a1 < (μ (a0 + 1) (((4 : Int32) + a3)).toNatClampNeg) then (μ (a0 + 1) (((4 : Int32) + a3)).toNatClampNeg) else a1)), (0, .ref (zad g a0)), (3, .int a3)] rfl ?_
      refine zi_iinc (pc' := 42) (v := (a3 + (1 : Int32))) X dX6_span_39 rfl 3 rfl rfl (by decide) [(3, .int (a3 + (1 : Int32))), (2, .int (if (μ (a0 + 1) (((4 : Int32) + a3)).toNatClampNeg) < a2 then (μ (a0 + 1) (((4 : Int32) + a3)).toNatClampNeg) else a2)), (1, .int (if a1 < (μ (a0 + 1) (((4 : Int32) + a3)).toNatClampNeg) then (μ (a0 + 1) (((4 : Int32) + a3)).toNatClampNeg) else a1)), (0, .ref (zad g a0))] rfl ?_
      refine zi_goto (pc' := 7) X dX6_span_42 rfl ?_
      exact zi_sub X [3, 2, 1, 0] _ rfl (ih a0 (if a1 < (μ (a0 + 1) (((4 : Int32) + a3)).toNatClampNeg) then (μ (a0 + 1) (((4 : Int32) + a3)).toNatClampNeg) else a1) (if (μ (a0 + 1) (((4 : Int32) + a3)).toNatClampNeg) < a2 then (μ (a0 + 1) (((4 : Int32) + a3)).toNatClampNeg) else a2) (a3 + (1 : Int32)) (μ) ha0 h)
def fX6_span (a0 : Nat) (μ : zMem) : Option (Int32 × zMem) :=
  fX6_span_7 200 a0 (0 : Int32) (99 : Int32) (0 : Int32) μ
set_option maxRecDepth 100000 in
set_option maxHeartbeats 4000000 in
theorem tX6_span (g : zG) {a0 : Nat} {μ : zMem} {Q : Int32 → zMem → Prop} (ha0 : zkd a0 = 6) (h : zok (fX6_span a0 μ) Q) : zTi g yX6_span cX6_span 4 .int 1 [.ref (zad g a0)] μ Q := by
  refine zTi_of (P := fun r => True) zpi RX6 (by decide) rfl (Nat.le_of_ble_eq_true rfl) ?_
  intro κ X hret
  unfold fX6_span at h
  refine zi_iconst (pc' := 1) (v := (0 : Int32)) X dX6_span_0 rfl rfl ?_
  refine zi_istore_n (pc' := 2) X dX6_span_1 rfl rfl (by decide) [(1, .int (0 : Int32)), (0, .ref (zad g a0))] rfl ?_
  refine zi_bipush (pc' := 4) (v := (99 : Int32)) X dX6_span_2 rfl rfl ?_
  refine zi_istore_n (pc' := 5) X dX6_span_4 rfl rfl (by decide) [(2, .int (99 : Int32)), (1, .int (0 : Int32)), (0, .ref (zad g a0))] rfl ?_
  refine zi_iconst (pc' := 6) (v := (0 : Int32)) X dX6_span_5 rfl rfl ?_
  refine zi_istore_n (pc' := 7) X dX6_span_6 rfl rfl (by decide) [(3, .int (0 : Int32)), (2, .int (99 : Int32)), (1, .int (0 : Int32)), (0, .ref (zad g a0))] rfl ?_
  exact zi_sub X [3, 2, 1, 0] _ rfl (lX6_span_7 X hret 200 a0 (0 : Int32) (99 : Int32) (0 : Int32) (μ) ha0 h)
def fX6_status_40 (k24 : Nat → Int32 → Int32 → Int32 → zMem → Option (Int32 × zMem)) (a0 : Nat) (a1 : Int32) (a3 : Int32) (s0 : Int32) (μ : zMem) : Option (Int32 × zMem) :=
  zgd (zib a3 7) (
  k24 a0 a1 (s0 + (μ (a0 + 4) (a3).toNatClampNeg)) (a3 + (1 : Int32)) μ)
set_option maxRecDepth 100000 in
theorem lX6_status_40 {g : zG} {κ : zK} (X : zC g κ RX6 cX6_status 4 1) {Q : Int32 → zMem → Prop} (hret : ∀ pc lv r μ', decode cX6_status pc = .ok (.ireturn, 1) → True → Q r μ' → zV g κ pc lv [.int r] μ') {k24 : Nat → Int32 → Int32 → Int32 → zMem → Option (Int32 × zMem)} (hk24 : ∀ (a0 : Nat) (a1 : Int32) (a2 : Int32) (a3 : Int32) (μ : zMem) (_ : zkd a0 = 6), zok (k24 a0 a1 a2 a3 μ) Q → zV g κ 24 [(0, .ref (zad g a0)), (1, .int a1), (2, .int a2), (3, .int a3)] [] μ) : ∀ (a0 : Nat) (a1 : Int32) (a3 : Int32) (s0 : Int32) (μ : zMem) (ha0 : zkd a0 = 6), zok (fX6_status_40 k24 a0 a1 a3 s0 μ) Q → zV g κ 40 [(0, .ref (zad g a0)), (1, .int a1), (3, .int a3)] [.int s0] μ := by
  intro a0 a1 a3 s0 μ ha0 h
  unfold fX6_status_40 at h
  refine zi_aload_n (pc' := 41) X dX6_status_40 rfl rfl 0 rfl ?_
  refine zi_getr (pc' := 44) X zf_X6_19 rfl (by decide) ha0 dX6_status_41 rfl ?_
  have f3 := zr_6_4 ha0
  refine zi_iload_n (pc' := 45) X dX6_status_44 rfl rfl 2 rfl ?_
  obtain ⟨g4, h⟩ := zok_g h
  refine zi_iald (pc' := 46) X f3.1 (by rw [f3.2]; exact g4) dX6_status_45 rfl ?_
  refine zi_goto (pc' := 50) X dX6_status_46 rfl ?_
  refine zi_iadd (pc' := 51) X dX6_status_50 rfl ?_
  refine zi_istore_n (pc' := 52) X dX6_status_51 rfl rfl (by decide) [(2, .int (s0 + (μ (a0 + 4) (a3).toNatClampNeg))), (0, .ref (zad g a0)), (1, .int a1), (3, .int a3)] rfl ?_
  refine zi_iinc (pc' := 55) (v := (a3 + (1 : Int32))) X dX6_status_52 rfl 3 rfl rfl (by decide) [(3, .int (a3 + (1 : Int32))), (2, .int (s0 + (μ (a0 + 4) (a3).toNatClampNeg))), (0, .ref (zad g a0)), (1, .int a1)] rfl ?_
  refine zi_goto (pc' := 24) X dX6_status_55 rfl ?_
  exact zi_sub X [2, 3, 1, 0] _ rfl (hk24 a0 a1 (s0 + (μ (a0 + 4) (a3).toNatClampNeg)) (a3 + (1 : Int32)) (μ) ha0 h)
def fX6_status_24 : Nat → Nat → Int32 → Int32 → Int32 → zMem → Option (Int32 × zMem)
  | 0, _, _, _, _, _ => none
  | n + 1, a0, a1, a2, a3, μ =>
    if (7 : Int32) ≤ a3 then
      some (a2, μ)
    else
      if a1 < 0 then
        fX6_status_40 (fX6_status_24 n) a0 a1 a3 a2 μ
      else
        if a1 = a3 then
          fX6_status_40 (fX6_status_24 n) a0 a1 a3 a2 μ
        else
          fX6_status_24 n a0 a1 (a2 + (0 : Int32)) (a3 + (1 : Int32)) μ
set_option maxRecDepth 100000 in
theorem lX6_status_24 {g : zG} {κ : zK} (X : zC g κ RX6 cX6_status 4 1) {Q : Int32 → zMem → Prop} (hret : ∀ pc lv r μ', decode cX6_status pc = .ok (.ireturn, 1) → True → Q r μ' → zV g κ pc lv [.int r] μ') : ∀ (n : Nat) (a0 : Nat) (a1 : Int32) (a2 : Int32) (a3 : Int32) (μ : zMem) (ha0 : zkd a0 = 6), zok (fX6_status_24 n a0 a1 a2 a3 μ) Q → zV g κ 24 [(0, .ref (zad g a0)), (1, .int a1), (2, .int a2), (3, .int a3)] [] μ := by
  intro n
  induction n with
  | zero =>
    intro a0 a1 a2 a3 μ ha0 h
    exact h.elim
  | succ n ih =>
    intro a0 a1 a2 a3 μ ha0 h
    rw [fX6_status_24] at h
    refine zi_iload_n (pc' := 25) X dX6_status_24 rfl rfl 3 rfl ?_
    refine zi_bipush (pc' := 27) (v := (7 : Int32)) X dX6_status_25 rfl rfl ?_
    refine zi_icmp_ge (pc' := 30) (tgt := 58) X dX6_status_27 rfl rfl (fun c => ?_) (fun c => ?_)
    · replace h := zok_t h c
      refine zi_iload_n (pc' := 59) X dX6_status_58 rfl rfl 2 rfl ?_
      exact hret _ _ _ _ dX6_status_59 trivial h
    · replace h := zok_f h c
      refine zi_iload_n (pc' := 31) X dX6_status_30 rfl rfl 2 rfl ?_
      refine zi_iload_n (pc' := 32) X dX6_status_31 rfl rfl 1 rfl ?_
      refine zi_if_lt (pc' := 35) (tgt := 40) X dX6_status_32 rfl rfl (fun c => ?_) (fun c => ?_)
      · replace h := zok_t h c
        exact zi_sub X [0, 1, 3] _ rfl (lX6_status_40 X hret ih a0 a1 a3 a2 (μ) ha0 h)
      · replace h := zok_f h c
        refine zi_iload_n (pc' := 36) X dX6_status_35 rfl rfl 1 rfl ?_
        refine zi_iload_n (pc' := 37) X dX6_status_36 rfl rfl 3 rfl ?_
        refine zi_icmp_ne (pc' := 40) (tgt := 49) X dX6_status_37 rfl rfl (fun c => ?_) (fun c => ?_)
        · replace h := zok_f h c
          refine zi_iconst (pc' := 50) (v := (0 : Int32)) X dX6_status_49 rfl rfl ?_
          refine zi_iadd (pc' := 51) X dX6_status_50 rfl ?_
          refine zi_istore_n (pc' := 52) X dX6_status_51 rfl rfl (by decide) [(2, .int (a2 + (0 : Int32))), (0, .ref (zad g a0)), (1, .int a1), (3, .int a3)] rfl ?_
          refine zi_iinc (pc' := 55) (v := (a3 + (1 : Int32))) X dX6_status_52 rfl 3 rfl rfl (by decide) [(3, .int (a3 + (1 : Int32))), (2, .int (a2 + (0 : Int32))), (0, .ref (zad g a0)), (1, .int a1)] rfl ?_
          refine zi_goto (pc' := 24) X dX6_status_55 rfl ?_
          exact zi_sub X [2, 3, 1, 0] _ rfl (ih a0 a1 (a2 + (0 : Int32)) (a3 + (1 : Int32)) (μ) ha0 h)
        · replace h := zok_t h c
          exact zi_sub X [0, 1, 3] _ rfl (lX6_status_40 X hret ih a0 a1 a3 a2 (μ) ha0 h)
def fX6_status (a0 : Nat) (a1 : Int32) (μ : zMem) : Option (Int32 × zMem) :=
  zbd (fX6_in ((a1).toInt64) (-1 : Int64) (6 : Int64) μ) fun r1 m2 =>
  if r1 = 0 then
    zbd (fX6_finds a0 (0 : Int32) m2) fun r5 m6 =>
    some (r5, m6)
  else
    fX6_status_24 200 a0 a1 (0 : Int32) (0 : Int32) m2
set_option maxRecDepth 100000 in
set_option maxHeartbeats 4000000 in
theorem tX6_status (g : zG) {a0 : Nat} {a1 : Int32} {μ : zMem} {Q : Int32 → zMem → Prop} (ha0 : zkd a0 = 6) (h : zok (fX6_status a0 a1 μ) Q) : zTi g yX6_status cX6_status 4 .int 1 [.ref (zad g a0), .int a1] μ Q := by
  refine zTi_of (P := fun r => True) zpi RX6 (by decide) rfl (Nat.le_of_ble_eq_true rfl) ?_
  intro κ X hret
  unfold fX6_status at h
  refine zi_iload_n (pc' := 1) X dX6_status_0 rfl rfl 1 rfl ?_
  refine zi_i2l (pc' := 2) X dX6_status_1 rfl ?_
  refine zi_ldc2 (pc' := 5) X dX6_status_2 rfl zk_X6_135 ?_
  refine zi_ldc2 (pc' := 8) X dX6_status_5 rfl zk_X6_74 ?_
  refine zi_callSi (pc' := 11) X zl_X6_48 [.long ((a1).toInt64), .long (-1 : Int64), .long (6 : Int64)] rfl rfl (by decide) (Nat.le_of_ble_eq_true rfl) dX6_status_8 rfl (tX6_in _ (zok_bd h (fun r1 m2 h => ?_)))
  refine zi_if_ne (pc' := 14) (tgt := 20) X dX6_status_11 rfl rfl (fun c => ?_) (fun c => ?_)
  · replace h := zok_f h c
    refine zi_iconst (pc' := 21) (v := (0 : Int32)) X dX6_status_20 rfl rfl ?_
    refine zi_istore_n (pc' := 22) X dX6_status_21 rfl rfl (by decide) [(2, .int (0 : Int32)), (0, .ref (zad g a0)), (1, .int a1)] rfl ?_
    refine zi_iconst (pc' := 23) (v := (0 : Int32)) X dX6_status_22 rfl rfl ?_
    refine zi_istore_n (pc' := 24) X dX6_status_23 rfl rfl (by decide) [(3, .int (0 : Int32)), (2, .int (0 : Int32)), (0, .ref (zad g a0)), (1, .int a1)] rfl ?_
    exact zi_sub X [2, 3, 1, 0] _ rfl (lX6_status_24 X hret 200 a0 a1 (0 : Int32) (0 : Int32) (m2) ha0 h)
  · replace h := zok_t h c
    refine zi_aload_n (pc' := 15) X dX6_status_14 rfl rfl 0 rfl ?_
    refine zi_iconst (pc' := 16) (v := (0 : Int32)) X dX6_status_15 rfl rfl ?_
    refine zi_callVi (pc' := 19) X zl_X6_93 ha0 (by decide) [.int (0 : Int32)] rfl rfl (by decide) (Nat.le_of_ble_eq_true rfl) dX6_status_16 rfl (tX6_finds _ ha0 (zok_bd h (fun r5 m6 h => ?_)))
    exact hret _ _ _ _ dX6_status_19 trivial h
def fX6_undo (a0 : Nat) (μ : zMem) : Option (Int32 × zMem) :=
  if (μ a0 3) = 0 then
    zbd (fX6_finds a0 (3 : Int32) μ) fun r7 m8 =>
    some (r7, m8)
  else
    zbd (fX6_become (a0 + 2) (a0 + 1) μ) fun _ m4 =>
    zgd (zib (0 : Int32) 87) (
    some ((m4 (a0 + 1) ((0 : Int32)).toNatClampNeg), m4))
set_option maxRecDepth 100000 in
set_option maxHeartbeats 4000000 in
theorem tX6_undo (g : zG) {a0 : Nat} {μ : zMem} {Q : Int32 → zMem → Prop} (ha0 : zkd a0 = 6) (h : zok (fX6_undo a0 μ) Q) : zTi g yX6_undo cX6_undo 1 .int 1 [.ref (zad g a0)] μ Q := by
  refine zTi_of (P := fun r => True) zpi RX6 (by decide) rfl (Nat.le_of_ble_eq_true rfl) ?_
  intro κ X hret
  unfold fX6_undo at h
  refine zi_aload_n (pc' := 1) X dX6_undo_0 rfl rfl 0 rfl ?_
  refine zi_geti (pc' := 4) X zf_X6_341 rfl (by decide) ha0 dX6_undo_1 rfl ?_
  refine zi_if_ne (pc' := 7) (tgt := 13) X dX6_undo_4 rfl rfl (fun c => ?_) (fun c => ?_)
  · replace h := zok_f h c
    refine zi_aload_n (pc' := 14) X dX6_undo_13 rfl rfl 0 rfl ?_
    refine zi_getr (pc' := 17) X zf_X6_13 rfl (by decide) ha0 dX6_undo_14 rfl ?_
    have f1 := zr_6_1 ha0
    refine zi_aload_n (pc' := 18) X dX6_undo_17 rfl rfl 0 rfl ?_
    refine zi_getr (pc' := 21) X zf_X6_9 rfl (by decide) ha0 dX6_undo_18 rfl ?_
    have f2 := zr_6_0 ha0
    refine zi_callSv (pc' := 24) X zl_X6_44 [.ref (zad g (a0 + 2)), .ref (zad g (a0 + 1))] rfl rfl (by decide) (Nat.le_of_ble_eq_true rfl) dX6_undo_21 rfl (tX6_become _ f1.1 f2.1 (zok_bd h (fun _ m4 h => ?_)))
    refine zi_aload_n (pc' := 25) X dX6_undo_24 rfl rfl 0 rfl ?_
    refine zi_getr (pc' := 28) X zf_X6_9 rfl (by decide) ha0 dX6_undo_25 rfl ?_
    have f5 := zr_6_0 ha0
    refine zi_iconst (pc' := 29) (v := (0 : Int32)) X dX6_undo_28 rfl rfl ?_
    obtain ⟨g6, h⟩ := zok_g h
    refine zi_iald (pc' := 30) X f5.1 (by rw [f5.2]; exact g6) dX6_undo_29 rfl ?_
    exact hret _ _ _ _ dX6_undo_30 trivial h
  · replace h := zok_t h c
    refine zi_aload_n (pc' := 8) X dX6_undo_7 rfl rfl 0 rfl ?_
    refine zi_iconst (pc' := 9) (v := (3 : Int32)) X dX6_undo_8 rfl rfl ?_
    refine zi_callVi (pc' := 12) X zl_X6_93 ha0 (by decide) [.int (3 : Int32)] rfl rfl (by decide) (Nat.le_of_ble_eq_true rfl) dX6_undo_9 rfl (tX6_finds _ ha0 (zok_bd h (fun r7 m8 h => ?_)))
    exact hret _ _ _ _ dX6_undo_12 trivial h
def fX6_unlikeBy_5 : Nat → Nat → Int32 → Int32 → Int32 → Int32 → zMem → Option (Int32 × zMem)
  | 0, _, _, _, _, _, _ => none
  | n + 1, a0, a1, a2, a3, a4, μ =>
    if (4 : Int32) ≤ a4 then
      some (a3, μ)
    else
      zbd (fX6_its a0 a1 ((4 : Int32) + a4) μ) fun r1 m2 =>
      if 0 ≤ r1 then
        zbd (fX6_cellOf a2 a4 m2) fun r4 m5 =>
        zgd (zib ((4 : Int32) + r4) 87) (
        fX6_unlikeBy_5 n a0 a1 a2 (a3 + (if 0 ≤ (r1 - (m5 (a0 + 1) (((4 : Int32) + r4)).toNatClampNeg)) then (r1 - (m5 (a0 + 1) (((4 : Int32) + r4)).toNatClampNeg)) else 0 - (r1 - (m5 (a0 + 1) (((4 : Int32) + r4)).toNatClampNeg)))) (a4 + (1 : Int32)) m5)
      else
        fX6_unlikeBy_5 n a0 a1 a2 (a3 + (0 : Int32)) (a4 + (1 : Int32)) m2
set_option maxRecDepth 100000 in
theorem lX6_unlikeBy_5 {g : zG} {κ : zK} (X : zC g κ RX6 cX6_unlikeBy 6 1) {Q : Int32 → zMem → Prop} (hret : ∀ pc lv r μ', decode cX6_unlikeBy pc = .ok (.ireturn, 1) → True → Q r μ' → zV g κ pc lv [.int r] μ') : ∀ (n : Nat) (a0 : Nat) (a1 : Int32) (a2 : Int32) (a3 : Int32) (a4 : Int32) (μ : zMem) (ha0 : zkd a0 = 6), zok (fX6_unlikeBy_5 n a0 a1 a2 a3 a4 μ) Q → zV g κ 5 [(0, .ref (zad g a0)), (1, .int a1), (2, .int a2), (3, .int a3), (4, .int a4)] [] μ := by
  intro n
  induction n with
  | zero =>
    intro a0 a1 a2 a3 a4 μ ha0 h
    exact h.elim
  | succ n ih =>
    intro a0 a1 a2 a3 a4 μ ha0 h
    rw [fX6_unlikeBy_5] at h
    refine zi_iload (pc' := 7) X dX6_unlikeBy_5 rfl 4 rfl ?_
    refine zi_iconst (pc' := 8) (v := (4 : Int32)) X dX6_unlikeBy_7 rfl rfl ?_
    refine zi_icmp_ge (pc' := 11) (tgt := 59) X dX6_unlikeBy_8 rfl rfl (fun c => ?_) (fun c => ?_)
    · replace h := zok_t h c
      refine zi_iload_n (pc' := 60) X dX6_unlikeBy_59 rfl rfl 3 rfl ?_
      exact hret _ _ _ _ dX6_unlikeBy_60 trivial h
    · replace h := zok_f h c
      refine zi_aload_n (pc' := 12) X dX6_unlikeBy_11 rfl rfl 0 rfl ?_
      refine zi_iload_n (pc' := 13) X dX6_unlikeBy_12 rfl rfl 1 rfl ?_
      refine zi_iconst (pc' := 14) (v := (4 : Int32)) X dX6_unlikeBy_13 rfl rfl ?_
      refine zi_iload (pc' := 16) X dX6_unlikeBy_14 rfl 4 rfl ?_
      refine zi_iadd (pc' := 17) X dX6_unlikeBy_16 rfl ?_
      refine zi_callVi (pc' := 20) X zl_X6_76 ha0 (by decide) [.int a1, .int ((4 : Int32) + a4)] rfl rfl (by decide) (Nat.le_of_ble_eq_true rfl) dX6_unlikeBy_17 rfl (tX6_its _ ha0 (zok_bd h (fun r1 m2 h => ?_)))
      refine zi_istore (pc' := 22) X dX6_unlikeBy_20 rfl (by decide) [(5, .int r1), (0, .ref (zad g a0)), (1, .int a1), (2, .int a2), (3, .int a3), (4, .int a4)] rfl ?_
      refine zi_iload_n (pc' := 23) X dX6_unlikeBy_22 rfl rfl 4 rfl ?_
      refine zi_iload (pc' := 25) X dX6_unlikeBy_23 rfl 0 rfl ?_
      refine zi_if_ge (pc' := 28) (tgt := 32) X dX6_unlikeBy_25 rfl rfl (fun c => ?_) (fun c => ?_)
      · replace h := zok_t h c
        refine zi_iload (pc' := 34) X dX6_unlikeBy_32 rfl 0 rfl ?_
        refine zi_aload_n (pc' := 35) X dX6_unlikeBy_34 rfl rfl 1 rfl ?_
        refine zi_getr (pc' := 38) X zf_X6_9 rfl (by decide) ha0 dX6_unlikeBy_35 rfl ?_
        have f3 := zr_6_0 ha0
        refine zi_iconst (pc' := 39) (v := (4 : Int32)) X dX6_unlikeBy_38 rfl rfl ?_
        refine zi_iload_n (pc' := 40) X dX6_unlikeBy_39 rfl rfl 3 rfl ?_
        refine zi_iload (pc' := 42) X dX6_unlikeBy_40 rfl 5 rfl ?_
        refine zi_callSi (pc' := 45) X zl_X6_103 [.int a2, .int a4] rfl rfl (by decide) (Nat.le_of_ble_eq_true rfl) dX6_unlikeBy_42 rfl (tX6_cellOf _ (zok_bd h (fun r4 m5 h => ?_)))
        refine zi_iadd (pc' := 46) X dX6_unlikeBy_45 rfl ?_
        obtain ⟨g6, h⟩ := zok_g h
        refine zi_iald (pc' := 47) X f3.1 (by rw [f3.2]; exact g6) dX6_unlikeBy_46 rfl ?_
        refine zi_isub (pc' := 48) X dX6_unlikeBy_47 rfl ?_
        refine zi_mabs (pc' := 51) X zl_X6_67 (Nat.le_of_ble_eq_true rfl) (by decide) dX6_unlikeBy_48 rfl ?_
        refine zi_iadd (pc' := 52) X dX6_unlikeBy_51 rfl ?_
        refine zi_istore_n (pc' := 53) X dX6_unlikeBy_52 rfl rfl (by decide) [(3, .int (a3 + (if 0 ≤ (r1 - (m5 (a0 + 1) (((4 : Int32) + r4)).toNatClampNeg)) then (r1 - (m5 (a0 + 1) (((4 : Int32) + r4)).toNatClampNeg)) else 0 - (r1 - (m5 (a0 + 1) (((4 : Int32) + r4)).toNatClampNeg))))), (5, .int r1), (0, .ref (zad g a0)), (1, .int a1), (2, .int a2), (4, .int a4)] rfl ?_
        refine zi_iinc (pc' := 56) (v := (a4 + (1 : Int32))) X dX6_unlikeBy_53 rfl 5 rfl rfl (by decide) [(4, .int (a4 + (1 : Int32))), (3, .int (a3 + (if 0 ≤ (r1 - (m5 (a0 + 1) (((4 : Int32) + r4)).toNatClampNeg)) then (r1 - (m5 (a0 + 1) (((4 : Int32) + r4)).toNatClampNeg)) else 0 - (r1 - (m5 (a0 + 1) (((4 : Int32) + r4)).toNatClampNeg))))), (5, .int r1), (0, .ref (zad g a0)), (1, .int a1), (2, .int a2)] rfl ?_
        refine zi_goto (pc' := 5) X dX6_unlikeBy_56 rfl ?_
        exact zi_sub X [3, 4, 5, 1, 0] _ rfl (ih a0 a1 a2 (a3 + (if 0 ≤ (r1 - (m5 (a0 + 1) (((4 : Int32) + r4)).toNatClampNeg)) then (r1 - (m5 (a0 + 1) (((4 : Int32) + r4)).toNatClampNeg)) else 0 - (r1 - (m5 (a0 + 1) (((4 : Int32) + r4)).toNatClampNeg)))) (a4 + (1 : Int32)) (m5) ha0 h)
      · replace h := zok_f h c
        refine zi_iconst (pc' := 29) (v := (0 : Int32)) X dX6_unlikeBy_28 rfl rfl ?_
        refine zi_goto (pc' := 51) X dX6_unlikeBy_29 rfl ?_
        refine zi_iadd (pc' := 52) X dX6_unlikeBy_51 rfl ?_
        refine zi_istore_n (pc' := 53) X dX6_unlikeBy_52 rfl rfl (by decide) [(3, .int (a3 + (0 : Int32))), (5, .int r1), (0, .ref (zad g a0)), (1, .int a1), (2, .int a2), (4, .int a4)] rfl ?_
        refine zi_iinc (pc' := 56) (v := (a4 + (1 : Int32))) X dX6_unlikeBy_53 rfl 5 rfl rfl (by decide) [(4, .int (a4 + (1 : Int32))), (3, .int (a3 + (0 : Int32))), (5, .int r1), (0, .ref (zad g a0)), (1, .int a1), (2, .int a2)] rfl ?_
        refine zi_goto (pc' := 5) X dX6_unlikeBy_56 rfl ?_
        exact zi_sub X [3, 4, 5, 1, 0] _ rfl (ih a0 a1 a2 (a3 + (0 : Int32)) (a4 + (1 : Int32)) (m2) ha0 h)
def fX6_unlikeBy (a0 : Nat) (a1 : Int32) (a2 : Int32) (μ : zMem) : Option (Int32 × zMem) :=
  fX6_unlikeBy_5 200 a0 a1 a2 (0 : Int32) (0 : Int32) μ
set_option maxRecDepth 100000 in
set_option maxHeartbeats 4000000 in
theorem tX6_unlikeBy (g : zG) {a0 : Nat} {a1 : Int32} {a2 : Int32} {μ : zMem} {Q : Int32 → zMem → Prop} (ha0 : zkd a0 = 6) (h : zok (fX6_unlikeBy a0 a1 a2 μ) Q) : zTi g yX6_unlikeBy cX6_unlikeBy 6 .int 1 [.ref (zad g a0), .int a1, .int a2] μ Q := by
  refine zTi_of (P := fun r => True) zpi RX6 (by decide) rfl (Nat.le_of_ble_eq_true rfl) ?_
  intro κ X hret
  unfold fX6_unlikeBy at h
  refine zi_iconst (pc' := 1) (v := (0 : Int32)) X dX6_unlikeBy_0 rfl rfl ?_
  refine zi_istore_n (pc' := 2) X dX6_unlikeBy_1 rfl rfl (by decide) [(3, .int (0 : Int32)), (0, .ref (zad g a0)), (1, .int a1), (2, .int a2)] rfl ?_
  refine zi_iconst (pc' := 3) (v := (0 : Int32)) X dX6_unlikeBy_2 rfl rfl ?_
  refine zi_istore (pc' := 5) X dX6_unlikeBy_3 rfl (by decide) [(4, .int (0 : Int32)), (3, .int (0 : Int32)), (0, .ref (zad g a0)), (1, .int a1), (2, .int a2)] rfl ?_
  exact zi_sub X [2, 3, 4, 1, 0] _ rfl (lX6_unlikeBy_5 X hret 200 a0 a1 a2 (0 : Int32) (0 : Int32) (μ) ha0 h)
def fX6_wears (a0 : Nat) (a1 : Int32) (μ : zMem) : Option (Int32 × zMem) :=
  zbd (fX6_its a0 a1 (0 : Int32) μ) fun r1 m2 =>
  if r1 = (1 : Int32) then
    some ((2 : Int32), m2)
  else
    if r1 = (2 : Int32) then
      some ((1 : Int32), m2)
    else
      if r1 = (3 : Int32) then
        some ((1 : Int32), m2)
      else
        if r1 = (4 : Int32) then
          some ((0 : Int32), m2)
        else
          if r1 = (5 : Int32) then
            some ((5 : Int32), m2)
          else
            if r1 = (6 : Int32) then
              some ((4 : Int32), m2)
            else
              some ((1 : Int32), m2)
set_option maxRecDepth 100000 in
set_option maxHeartbeats 4000000 in
theorem tX6_wears (g : zG) {a0 : Nat} {a1 : Int32} {μ : zMem} {Q : Int32 → zMem → Prop} (ha0 : zkd a0 = 6) (h : zok (fX6_wears a0 a1 μ) Q) : zTi g yX6_wears cX6_wears 2 .int 1 [.ref (zad g a0), .int a1] μ Q := by
  refine zTi_of (P := fun r => True) zpi RX6 (by decide) rfl (Nat.le_of_ble_eq_true rfl) ?_
  intro κ X hret
  unfold fX6_wears at h
  refine zi_aload_n (pc' := 1) X dX6_wears_0 rfl rfl 0 rfl ?_
  refine zi_iload_n (pc' := 2) X dX6_wears_1 rfl rfl 1 rfl ?_
  refine zi_iconst (pc' := 3) (v := (0 : Int32)) X dX6_wears_2 rfl rfl ?_
  refine zi_callVi (pc' := 6) X zl_X6_76 ha0 (by decide) [.int a1, .int (0 : Int32)] rfl rfl (by decide) (Nat.le_of_ble_eq_true rfl) dX6_wears_3 rfl (tX6_its _ ha0 (zok_bd h (fun r1 m2 h => ?_)))
  by_cases c1 : r1 = (1 : Int32)
  · replace h := zok_t h c1
    refine zi_tabIn (pc' := 44) X c1 dX6_wears_6 ⟨by decide, rfl, rfl⟩ ?_
    refine zi_iconst (pc' := 45) (v := (2 : Int32)) X dX6_wears_44 rfl rfl ?_
    exact hret _ _ _ _ dX6_wears_45 trivial h
  · replace h := zok_f h c1
    by_cases c2 : r1 = (2 : Int32)
    · replace h := zok_t h c2
      refine zi_tabIn (pc' := 52) X c2 dX6_wears_6 ⟨by decide, rfl, rfl⟩ ?_
      refine zi_iconst (pc' := 53) (v := (1 : Int32)) X dX6_wears_52 rfl rfl ?_
      exact hret _ _ _ _ dX6_wears_53 trivial h
    · replace h := zok_f h c2
      by_cases c3 : r1 = (3 : Int32)
      · replace h := zok_t h c3
        refine zi_tabIn (pc' := 52) X c3 dX6_wears_6 ⟨by decide, rfl, rfl⟩ ?_
        refine zi_iconst (pc' := 53) (v := (1 : Int32)) X dX6_wears_52 rfl rfl ?_
        exact hret _ _ _ _ dX6_wears_53 trivial h
      · replace h := zok_f h c3
        by_cases c4 : r1 = (4 : Int32)
        · replace h := zok_t h c4
          refine zi_tabIn (pc' := 48) X c4 dX6_wears_6 ⟨by decide, rfl, rfl⟩ ?_
          refine zi_iconst (pc' := 49) (v := (0 : Int32)) X dX6_wears_48 rfl rfl ?_
          exact hret _ _ _ _ dX6_wears_49 trivial h
        · replace h := zok_f h c4
          by_cases c5 : r1 = (5 : Int32)
          · replace h := zok_t h c5
            refine zi_tabIn (pc' := 50) X c5 dX6_wears_6 ⟨by decide, rfl, rfl⟩ ?_
            refine zi_iconst (pc' := 51) (v := (5 : Int32)) X dX6_wears_50 rfl rfl ?_
            exact hret _ _ _ _ dX6_wears_51 trivial h
          · replace h := zok_f h c5
            by_cases c6 : r1 = (6 : Int32)
            · replace h := zok_t h c6
              refine zi_tabIn (pc' := 46) X c6 dX6_wears_6 ⟨by decide, rfl, rfl⟩ ?_
              refine zi_iconst (pc' := 47) (v := (4 : Int32)) X dX6_wears_46 rfl rfl ?_
              exact hret _ _ _ _ dX6_wears_47 trivial h
            · replace h := zok_f h c6
              have e0 := zne (1) rfl c1
              have e1 := zne (2) rfl c2
              have e2 := zne (3) rfl c3
              have e3 := zne (4) rfl c4
              have e4 := zne (5) rfl c5
              have e5 := zne (6) rfl c6
              refine zi_tabOut (pc' := 52) X (by omega) dX6_wears_6 rfl ?_
              refine zi_iconst (pc' := 53) (v := (1 : Int32)) X dX6_wears_52 rfl rfl ?_
              exact hret _ _ _ _ dX6_wears_53 trivial h
def fX6_areWay (a0 : Int32) (a1 : Int32) (a2 : Int32) (μ : zMem) : Option (Int32 × zMem) :=
  zbd (fX6_isCell a0 μ) fun r1 m2 =>
  if r1 = 0 then
    some ((0 : Int32), m2)
  else
    zbd (fX6_isCell a1 m2) fun r3 m4 =>
    if r3 = 0 then
      some ((0 : Int32), m4)
    else
      zbd (fX6_isHigh a2 m4) fun r5 m6 =>
      if r5 = 0 then
        some ((0 : Int32), m6)
      else
        some ((1 : Int32), m6)
set_option maxRecDepth 100000 in
set_option maxHeartbeats 4000000 in
theorem tX6_areWay (g : zG) {a0 : Int32} {a1 : Int32} {a2 : Int32} {μ : zMem} {Q : Int32 → zMem → Prop} (h : zok (fX6_areWay a0 a1 a2 μ) Q) : zTi g yX6_areWay cX6_areWay 3 .boolean 2 [.int a0, .int a1, .int a2] μ Q := by
  refine zTi_of (P := fun r => r = 0 ∨ r = 1) zpb RX6 (by decide) rfl (Nat.le_of_ble_eq_true rfl) ?_
  intro κ X hret
  unfold fX6_areWay at h
  refine zi_iload_n (pc' := 1) X dX6_areWay_0 rfl rfl 0 rfl ?_
  refine zi_callSi (pc' := 4) X zl_X6_83 [.int a0] rfl rfl (by decide) (Nat.le_of_ble_eq_true rfl) dX6_areWay_1 rfl (tX6_isCell _ (zok_bd h (fun r1 m2 h => ?_)))
  refine zi_if_eq (pc' := 7) (tgt := 25) X dX6_areWay_4 rfl rfl (fun c => ?_) (fun c => ?_)
  · replace h := zok_t h c
    refine zi_iconst (pc' := 26) (v := (0 : Int32)) X dX6_areWay_25 rfl rfl ?_
    exact hret _ _ _ _ dX6_areWay_26 (by decide) h
  · replace h := zok_f h c
    refine zi_iload_n (pc' := 8) X dX6_areWay_7 rfl rfl 1 rfl ?_
    refine zi_callSi (pc' := 11) X zl_X6_83 [.int a1] rfl rfl (by decide) (Nat.le_of_ble_eq_true rfl) dX6_areWay_8 rfl (tX6_isCell _ (zok_bd h (fun r3 m4 h => ?_)))
    refine zi_if_eq (pc' := 14) (tgt := 25) X dX6_areWay_11 rfl rfl (fun c => ?_) (fun c => ?_)
    · replace h := zok_t h c
      refine zi_iconst (pc' := 26) (v := (0 : Int32)) X dX6_areWay_25 rfl rfl ?_
      exact hret _ _ _ _ dX6_areWay_26 (by decide) h
    · replace h := zok_f h c
      refine zi_iload_n (pc' := 15) X dX6_areWay_14 rfl rfl 2 rfl ?_
      refine zi_callSi (pc' := 18) X zl_X6_87 [.int a2] rfl rfl (by decide) (Nat.le_of_ble_eq_true rfl) dX6_areWay_15 rfl (tX6_isHigh _ (zok_bd h (fun r5 m6 h => ?_)))
      refine zi_if_eq (pc' := 21) (tgt := 25) X dX6_areWay_18 rfl rfl (fun c => ?_) (fun c => ?_)
      · replace h := zok_t h c
        refine zi_iconst (pc' := 26) (v := (0 : Int32)) X dX6_areWay_25 rfl rfl ?_
        exact hret _ _ _ _ dX6_areWay_26 (by decide) h
      · replace h := zok_f h c
        refine zi_iconst (pc' := 22) (v := (1 : Int32)) X dX6_areWay_21 rfl rfl ?_
        refine zi_goto (pc' := 26) X dX6_areWay_22 rfl ?_
        exact hret _ _ _ _ dX6_areWay_26 (by decide) h
def fX6_as (a0 : Nat) (a1 : Int32) (a2 : Int32) (μ : zMem) : Option (Int32 × zMem) :=
  zbd (fX6_isSpot a1 μ) fun r1 m2 =>
  if r1 = 0 then
    zbd (fX6_finds a0 (0 : Int32) m2) fun r3 m4 =>
    some (r3, m4)
  else
    zbd (fX6_isKind a2 m2) fun r5 m6 =>
    if r5 = 0 then
      zbd (fX6_finds a0 (0 : Int32) m6) fun r17 m18 =>
      some (r17, m18)
    else
      zgd (zib ((77 : Int32) + a1) 87) (
      if 0 ≤ (m6 (a0 + 1) (((77 : Int32) + a1)).toNatClampNeg) then
        zbd (fX6_its a0 (m6 (a0 + 1) (((77 : Int32) + a1)).toNatClampNeg) (0 : Int32) m6) fun r9 m10 =>
        zbd (fX6_isUnder r9 a2 m10) fun r11 m12 =>
        if r11 = 0 then
          zbd (fX6_finds a0 (2 : Int32) m12) fun r13 m14 =>
          some (r13, m14)
        else
          some ((m6 (a0 + 1) (((77 : Int32) + a1)).toNatClampNeg), m12)
      else
        zbd (fX6_finds a0 (5 : Int32) m6) fun r15 m16 =>
        some (r15, m16))
set_option maxRecDepth 100000 in
set_option maxHeartbeats 4000000 in
theorem tX6_as (g : zG) {a0 : Nat} {a1 : Int32} {a2 : Int32} {μ : zMem} {Q : Int32 → zMem → Prop} (ha0 : zkd a0 = 6) (h : zok (fX6_as a0 a1 a2 μ) Q) : zTi g yX6_as cX6_as 4 .int 2 [.ref (zad g a0), .int a1, .int a2] μ Q := by
  refine zTi_of (P := fun r => True) zpi RX6 (by decide) rfl (Nat.le_of_ble_eq_true rfl) ?_
  intro κ X hret
  unfold fX6_as at h
  refine zi_iload_n (pc' := 1) X dX6_as_0 rfl rfl 1 rfl ?_
  refine zi_callSi (pc' := 4) X zl_X6_329 [.int a1] rfl rfl (by decide) (Nat.le_of_ble_eq_true rfl) dX6_as_1 rfl (tX6_isSpot _ (zok_bd h (fun r1 m2 h => ?_)))
  refine zi_if_eq (pc' := 7) (tgt := 14) X dX6_as_4 rfl rfl (fun c => ?_) (fun c => ?_)
  · replace h := zok_t h c
    refine zi_aload_n (pc' := 15) X dX6_as_14 rfl rfl 0 rfl ?_
    refine zi_iconst (pc' := 16) (v := (0 : Int32)) X dX6_as_15 rfl rfl ?_
    refine zi_callVi (pc' := 19) X zl_X6_93 ha0 (by decide) [.int (0 : Int32)] rfl rfl (by decide) (Nat.le_of_ble_eq_true rfl) dX6_as_16 rfl (tX6_finds _ ha0 (zok_bd h (fun r3 m4 h => ?_)))
    exact hret _ _ _ _ dX6_as_19 trivial h
  · replace h := zok_f h c
    refine zi_iload_n (pc' := 8) X dX6_as_7 rfl rfl 2 rfl ?_
    refine zi_callSi (pc' := 11) X zl_X6_121 [.int a2] rfl rfl (by decide) (Nat.le_of_ble_eq_true rfl) dX6_as_8 rfl (tX6_isKind _ (zok_bd h (fun r5 m6 h => ?_)))
    refine zi_if_ne (pc' := 14) (tgt := 20) X dX6_as_11 rfl rfl (fun c => ?_) (fun c => ?_)
    · replace h := zok_f h c
      refine zi_aload_n (pc' := 21) X dX6_as_20 rfl rfl 0 rfl ?_
      refine zi_getr (pc' := 24) X zf_X6_9 rfl (by decide) ha0 dX6_as_21 rfl ?_
      have f7 := zr_6_0 ha0
      refine zi_bipush (pc' := 26) (v := (77 : Int32)) X dX6_as_24 rfl rfl ?_
      refine zi_iload_n (pc' := 27) X dX6_as_26 rfl rfl 1 rfl ?_
      refine zi_iadd (pc' := 28) X dX6_as_27 rfl ?_
      obtain ⟨g8, h⟩ := zok_g h
      refine zi_iald (pc' := 29) X f7.1 (by rw [f7.2]; exact g8) dX6_as_28 rfl ?_
      refine zi_istore_n (pc' := 30) X dX6_as_29 rfl rfl (by decide) [(3, .int (m6 (a0 + 1) (((77 : Int32) + a1)).toNatClampNeg)), (0, .ref (zad g a0)), (1, .int a1), (2, .int a2)] rfl ?_
      refine zi_iload_n (pc' := 31) X dX6_as_30 rfl rfl 0 rfl ?_
      refine zi_if_ge (pc' := 34) (tgt := 40) X dX6_as_31 rfl rfl (fun c => ?_) (fun c => ?_)
      · replace h := zok_t h c
        refine zi_aload_n (pc' := 41) X dX6_as_40 rfl rfl 1 rfl ?_
        refine zi_iload_n (pc' := 42) X dX6_as_41 rfl rfl 0 rfl ?_
        refine zi_iconst (pc' := 43) (v := (0 : Int32)) X dX6_as_42 rfl rfl ?_
        refine zi_callVi (pc' := 46) X zl_X6_76 ha0 (by decide) [.int (m6 (a0 + 1) (((77 : Int32) + a1)).toNatClampNeg), .int (0 : Int32)] rfl rfl (by decide) (Nat.le_of_ble_eq_true rfl) dX6_as_43 rfl (tX6_its _ ha0 (zok_bd h (fun r9 m10 h => ?_)))
        refine zi_iload_n (pc' := 47) X dX6_as_46 rfl rfl 3 rfl ?_
        refine zi_callSi (pc' := 50) X zl_X6_332 [.int r9, .int a2] rfl rfl (by decide) (Nat.le_of_ble_eq_true rfl) dX6_as_47 rfl (tX6_isUnder _ (zok_bd h (fun r11 m12 h => ?_)))
        refine zi_if_eq (pc' := 53) (tgt := 57) X dX6_as_50 rfl rfl (fun c => ?_) (fun c => ?_)
        · replace h := zok_t h c
          refine zi_aload_n (pc' := 58) X dX6_as_57 rfl rfl 1 rfl ?_
          refine zi_iconst (pc' := 59) (v := (2 : Int32)) X dX6_as_58 rfl rfl ?_
          refine zi_callVi (pc' := 62) X zl_X6_93 ha0 (by decide) [.int (2 : Int32)] rfl rfl (by decide) (Nat.le_of_ble_eq_true rfl) dX6_as_59 rfl (tX6_finds _ ha0 (zok_bd h (fun r13 m14 h => ?_)))
          exact hret _ _ _ _ dX6_as_62 trivial h
        · replace h := zok_f h c
          refine zi_iload_n (pc' := 54) X dX6_as_53 rfl rfl 0 rfl ?_
          refine zi_goto (pc' := 62) X dX6_as_54 rfl ?_
          exact hret _ _ _ _ dX6_as_62 trivial h
      · replace h := zok_f h c
        refine zi_aload_n (pc' := 35) X dX6_as_34 rfl rfl 1 rfl ?_
        refine zi_iconst (pc' := 36) (v := (5 : Int32)) X dX6_as_35 rfl rfl ?_
        refine zi_callVi (pc' := 39) X zl_X6_93 ha0 (by decide) [.int (5 : Int32)] rfl rfl (by decide) (Nat.le_of_ble_eq_true rfl) dX6_as_36 rfl (tX6_finds _ ha0 (zok_bd h (fun r15 m16 h => ?_)))
        exact hret _ _ _ _ dX6_as_39 trivial h
    · replace h := zok_t h c
      refine zi_aload_n (pc' := 15) X dX6_as_14 rfl rfl 0 rfl ?_
      refine zi_iconst (pc' := 16) (v := (0 : Int32)) X dX6_as_15 rfl rfl ?_
      refine zi_callVi (pc' := 19) X zl_X6_93 ha0 (by decide) [.int (0 : Int32)] rfl rfl (by decide) (Nat.le_of_ble_eq_true rfl) dX6_as_16 rfl (tX6_finds _ ha0 (zok_bd h (fun r17 m18 h => ?_)))
      exact hret _ _ _ _ dX6_as_19 trivial h
def fX6_beat_40 (k18 : Nat → Int32 → Int32 → Int32 → zMem → Option (Int32 × zMem)) (a0 : Nat) (a1 : Int32) (a3 : Int32) (s0 : Int32) (s1 : Int32) (μ : zMem) : Option (Int32 × zMem) :=
  zbd (fX6_sets a0 a1 ((4 : Int32) + a3) (-1 : Int32) μ) fun _ m6 =>
  k18 a0 a1 (s1 + s0) (a3 + (1 : Int32)) m6
set_option maxRecDepth 100000 in
theorem lX6_beat_40 {g : zG} {κ : zK} (X : zC g κ RX6 cX6_beat 4 2) {Q : Int32 → zMem → Prop} (hret : ∀ pc lv r μ', decode cX6_beat pc = .ok (.ireturn, 1) → True → Q r μ' → zV g κ pc lv [.int r] μ') {k18 : Nat → Int32 → Int32 → Int32 → zMem → Option (Int32 × zMem)} (hk18 : ∀ (a0 : Nat) (a1 : Int32) (a2 : Int32) (a3 : Int32) (μ : zMem) (_ : zkd a0 = 6), zok (k18 a0 a1 a2 a3 μ) Q → zV g κ 18 [(0, .ref (zad g a0)), (1, .int a1), (2, .int a2), (3, .int a3)] [] μ) : ∀ (a0 : Nat) (a1 : Int32) (a3 : Int32) (s0 : Int32) (s1 : Int32) (μ : zMem) (ha0 : zkd a0 = 6), zok (fX6_beat_40 k18 a0 a1 a3 s0 s1 μ) Q → zV g κ 40 [(0, .ref (zad g a0)), (1, .int a1), (3, .int a3)] [.int s0, .int s1] μ := by
  intro a0 a1 a3 s0 s1 μ ha0 h
  unfold fX6_beat_40 at h
  refine zi_iadd (pc' := 41) X dX6_beat_40 rfl ?_
  refine zi_istore_n (pc' := 42) X dX6_beat_41 rfl rfl (by decide) [(2, .int (s1 + s0)), (0, .ref (zad g a0)), (1, .int a1), (3, .int a3)] rfl ?_
  refine zi_aload_n (pc' := 43) X dX6_beat_42 rfl rfl 1 rfl ?_
  refine zi_iload_n (pc' := 44) X dX6_beat_43 rfl rfl 2 rfl ?_
  refine zi_iconst (pc' := 45) (v := (4 : Int32)) X dX6_beat_44 rfl rfl ?_
  refine zi_iload_n (pc' := 46) X dX6_beat_45 rfl rfl 3 rfl ?_
  refine zi_iadd (pc' := 47) X dX6_beat_46 rfl ?_
  refine zi_iconst (pc' := 48) (v := (-1 : Int32)) X dX6_beat_47 rfl rfl ?_
  refine zi_callVv (pc' := 51) X zl_X6_79 ha0 (by decide) [.int a1, .int ((4 : Int32) + a3), .int (-1 : Int32)] rfl rfl (by decide) (Nat.le_of_ble_eq_true rfl) dX6_beat_48 rfl (tX6_sets _ ha0 (zok_bd h (fun _ m6 h => ?_)))
  refine zi_iinc (pc' := 54) (v := (a3 + (1 : Int32))) X dX6_beat_51 rfl 3 rfl rfl (by decide) [(3, .int (a3 + (1 : Int32))), (2, .int (s1 + s0)), (0, .ref (zad g a0)), (1, .int a1)] rfl ?_
  refine zi_goto (pc' := 18) X dX6_beat_54 rfl ?_
  exact zi_sub X [2, 3, 1, 0] _ rfl (hk18 a0 a1 (s1 + s0) (a3 + (1 : Int32)) (m6) ha0 h)
def fX6_beat_18 : Nat → Nat → Int32 → Int32 → Int32 → zMem → Option (Int32 × zMem)
  | 0, _, _, _, _, _ => none
  | n + 1, a0, a1, a2, a3, μ =>
    if (4 : Int32) ≤ a3 then
      some (a2, μ)
    else
      zbd (fX6_its a0 a1 ((4 : Int32) + a3) μ) fun r3 m4 =>
      if r3 < 0 then
        fX6_beat_40 (fX6_beat_18 n) a0 a1 a3 (0 : Int32) a2 m4
      else
        fX6_beat_40 (fX6_beat_18 n) a0 a1 a3 (1 : Int32) a2 m4
set_option maxRecDepth 100000 in
theorem lX6_beat_18 {g : zG} {κ : zK} (X : zC g κ RX6 cX6_beat 4 2) {Q : Int32 → zMem → Prop} (hret : ∀ pc lv r μ', decode cX6_beat pc = .ok (.ireturn, 1) → True → Q r μ' → zV g κ pc lv [.int r] μ') : ∀ (n : Nat) (a0 : Nat) (a1 : Int32) (a2 : Int32) (a3 : Int32) (μ : zMem) (ha0 : zkd a0 = 6), zok (fX6_beat_18 n a0 a1 a2 a3 μ) Q → zV g κ 18 [(0, .ref (zad g a0)), (1, .int a1), (2, .int a2), (3, .int a3)] [] μ := by
  intro n
  induction n with
  | zero =>
    intro a0 a1 a2 a3 μ ha0 h
    exact h.elim
  | succ n ih =>
    intro a0 a1 a2 a3 μ ha0 h
    rw [fX6_beat_18] at h
    refine zi_iload_n (pc' := 19) X dX6_beat_18 rfl rfl 3 rfl ?_
    refine zi_iconst (pc' := 20) (v := (4 : Int32)) X dX6_beat_19 rfl rfl ?_
    refine zi_icmp_ge (pc' := 23) (tgt := 57) X dX6_beat_20 rfl rfl (fun c => ?_) (fun c => ?_)
    · replace h := zok_t h c
      refine zi_iload_n (pc' := 58) X dX6_beat_57 rfl rfl 2 rfl ?_
      exact hret _ _ _ _ dX6_beat_58 trivial h
    · replace h := zok_f h c
      refine zi_iload_n (pc' := 24) X dX6_beat_23 rfl rfl 2 rfl ?_
      refine zi_aload_n (pc' := 25) X dX6_beat_24 rfl rfl 0 rfl ?_
      refine zi_iload_n (pc' := 26) X dX6_beat_25 rfl rfl 1 rfl ?_
      refine zi_iconst (pc' := 27) (v := (4 : Int32)) X dX6_beat_26 rfl rfl ?_
      refine zi_iload_n (pc' := 28) X dX6_beat_27 rfl rfl 3 rfl ?_
      refine zi_iadd (pc' := 29) X dX6_beat_28 rfl ?_
      refine zi_callVi (pc' := 32) X zl_X6_76 ha0 (by decide) [.int a1, .int ((4 : Int32) + a3)] rfl rfl (by decide) (Nat.le_of_ble_eq_true rfl) dX6_beat_29 rfl (tX6_its _ ha0 (zok_bd h (fun r3 m4 h => ?_)))
      refine zi_if_lt (pc' := 35) (tgt := 39) X dX6_beat_32 rfl rfl (fun c => ?_) (fun c => ?_)
      · replace h := zok_t h c
        refine zi_iconst (pc' := 40) (v := (0 : Int32)) X dX6_beat_39 rfl rfl ?_
        exact zi_sub X [0, 1, 3] _ rfl (lX6_beat_40 X hret ih a0 a1 a3 (0 : Int32) a2 (m4) ha0 h)
      · replace h := zok_f h c
        refine zi_iconst (pc' := 36) (v := (1 : Int32)) X dX6_beat_35 rfl rfl ?_
        refine zi_goto (pc' := 40) X dX6_beat_36 rfl ?_
        exact zi_sub X [0, 1, 3] _ rfl (lX6_beat_40 X hret ih a0 a1 a3 (1 : Int32) a2 (m4) ha0 h)
def fX6_beat (a0 : Nat) (a1 : Int32) (μ : zMem) : Option (Int32 × zMem) :=
  zbd (fX6_isTent a0 a1 μ) fun r1 m2 =>
  if r1 = 0 then
    zbd (fX6_finds a0 (0 : Int32) m2) fun r7 m8 =>
    some (r7, m8)
  else
    fX6_beat_18 200 a0 a1 (0 : Int32) (0 : Int32) m2
set_option maxRecDepth 100000 in
set_option maxHeartbeats 4000000 in
theorem tX6_beat (g : zG) {a0 : Nat} {a1 : Int32} {μ : zMem} {Q : Int32 → zMem → Prop} (ha0 : zkd a0 = 6) (h : zok (fX6_beat a0 a1 μ) Q) : zTi g yX6_beat cX6_beat 4 .int 2 [.ref (zad g a0), .int a1] μ Q := by
  refine zTi_of (P := fun r => True) zpi RX6 (by decide) rfl (Nat.le_of_ble_eq_true rfl) ?_
  intro κ X hret
  unfold fX6_beat at h
  refine zi_aload_n (pc' := 1) X dX6_beat_0 rfl rfl 0 rfl ?_
  refine zi_iload_n (pc' := 2) X dX6_beat_1 rfl rfl 1 rfl ?_
  refine zi_callVi (pc' := 5) X zl_X6_127 ha0 (by decide) [.int a1] rfl rfl (by decide) (Nat.le_of_ble_eq_true rfl) dX6_beat_2 rfl (tX6_isTent _ ha0 (zok_bd h (fun r1 m2 h => ?_)))
  refine zi_if_ne (pc' := 8) (tgt := 14) X dX6_beat_5 rfl rfl (fun c => ?_) (fun c => ?_)
  · replace h := zok_f h c
    refine zi_iconst (pc' := 15) (v := (0 : Int32)) X dX6_beat_14 rfl rfl ?_
    refine zi_istore_n (pc' := 16) X dX6_beat_15 rfl rfl (by decide) [(2, .int (0 : Int32)), (0, .ref (zad g a0)), (1, .int a1)] rfl ?_
    refine zi_iconst (pc' := 17) (v := (0 : Int32)) X dX6_beat_16 rfl rfl ?_
    refine zi_istore_n (pc' := 18) X dX6_beat_17 rfl rfl (by decide) [(3, .int (0 : Int32)), (2, .int (0 : Int32)), (0, .ref (zad g a0)), (1, .int a1)] rfl ?_
    exact zi_sub X [2, 3, 1, 0] _ rfl (lX6_beat_18 X hret 200 a0 a1 (0 : Int32) (0 : Int32) (m2) ha0 h)
  · replace h := zok_t h c
    refine zi_aload_n (pc' := 9) X dX6_beat_8 rfl rfl 0 rfl ?_
    refine zi_iconst (pc' := 10) (v := (0 : Int32)) X dX6_beat_9 rfl rfl ?_
    refine zi_callVi (pc' := 13) X zl_X6_93 ha0 (by decide) [.int (0 : Int32)] rfl rfl (by decide) (Nat.le_of_ble_eq_true rfl) dX6_beat_10 rfl (tX6_finds _ ha0 (zok_bd h (fun r7 m8 h => ?_)))
    exact hret _ _ _ _ dX6_beat_13 trivial h
def fX6_canStep (a0 : Nat) (a1 : Int32) (a2 : Int32) (a3 : Int32) (μ : zMem) : Option (Int32 × zMem) :=
  zbd (fX6_areBeside a1 a2 μ) fun r1 m2 =>
  if r1 = 0 then
    some ((0 : Int32), m2)
  else
    zgd (zib ((4 : Int32) + a1) 87) (
    zgd (zib ((4 : Int32) + a2) 87) (
    if a3 < (if 0 ≤ ((m2 (a0 + 1) (((4 : Int32) + a1)).toNatClampNeg) - (m2 (a0 + 1) (((4 : Int32) + a2)).toNatClampNeg)) then ((m2 (a0 + 1) (((4 : Int32) + a1)).toNatClampNeg) - (m2 (a0 + 1) (((4 : Int32) + a2)).toNatClampNeg)) else 0 - ((m2 (a0 + 1) (((4 : Int32) + a1)).toNatClampNeg) - (m2 (a0 + 1) (((4 : Int32) + a2)).toNatClampNeg))) then
      some ((0 : Int32), m2)
    else
      some ((1 : Int32), m2)))
set_option maxRecDepth 100000 in
set_option maxHeartbeats 4000000 in
theorem tX6_canStep (g : zG) {a0 : Nat} {a1 : Int32} {a2 : Int32} {a3 : Int32} {μ : zMem} {Q : Int32 → zMem → Prop} (ha0 : zkd a0 = 6) (h : zok (fX6_canStep a0 a1 a2 a3 μ) Q) : zTi g yX6_canStep cX6_canStep 4 .boolean 2 [.ref (zad g a0), .int a1, .int a2, .int a3] μ Q := by
  refine zTi_of (P := fun r => r = 0 ∨ r = 1) zpb RX6 (by decide) rfl (Nat.le_of_ble_eq_true rfl) ?_
  intro κ X hret
  unfold fX6_canStep at h
  refine zi_iload_n (pc' := 1) X dX6_canStep_0 rfl rfl 1 rfl ?_
  refine zi_iload_n (pc' := 2) X dX6_canStep_1 rfl rfl 2 rfl ?_
  refine zi_callSi (pc' := 5) X zl_X6_110 [.int a1, .int a2] rfl rfl (by decide) (Nat.le_of_ble_eq_true rfl) dX6_canStep_2 rfl (tX6_areBeside _ (zok_bd h (fun r1 m2 h => ?_)))
  refine zi_if_eq (pc' := 8) (tgt := 36) X dX6_canStep_5 rfl rfl (fun c => ?_) (fun c => ?_)
  · replace h := zok_t h c
    refine zi_iconst (pc' := 37) (v := (0 : Int32)) X dX6_canStep_36 rfl rfl ?_
    exact hret _ _ _ _ dX6_canStep_37 (by decide) h
  · replace h := zok_f h c
    refine zi_aload_n (pc' := 9) X dX6_canStep_8 rfl rfl 0 rfl ?_
    refine zi_getr (pc' := 12) X zf_X6_9 rfl (by decide) ha0 dX6_canStep_9 rfl ?_
    have f3 := zr_6_0 ha0
    refine zi_iconst (pc' := 13) (v := (4 : Int32)) X dX6_canStep_12 rfl rfl ?_
    refine zi_iload_n (pc' := 14) X dX6_canStep_13 rfl rfl 1 rfl ?_
    refine zi_iadd (pc' := 15) X dX6_canStep_14 rfl ?_
    obtain ⟨g4, h⟩ := zok_g h
    refine zi_iald (pc' := 16) X f3.1 (by rw [f3.2]; exact g4) dX6_canStep_15 rfl ?_
    refine zi_aload_n (pc' := 17) X dX6_canStep_16 rfl rfl 0 rfl ?_
    refine zi_getr (pc' := 20) X zf_X6_9 rfl (by decide) ha0 dX6_canStep_17 rfl ?_
    have f5 := zr_6_0 ha0
    refine zi_iconst (pc' := 21) (v := (4 : Int32)) X dX6_canStep_20 rfl rfl ?_
    refine zi_iload_n (pc' := 22) X dX6_canStep_21 rfl rfl 2 rfl ?_
    refine zi_iadd (pc' := 23) X dX6_canStep_22 rfl ?_
    obtain ⟨g6, h⟩ := zok_g h
    refine zi_iald (pc' := 24) X f5.1 (by rw [f5.2]; exact g6) dX6_canStep_23 rfl ?_
    refine zi_isub (pc' := 25) X dX6_canStep_24 rfl ?_
    refine zi_mabs (pc' := 28) X zl_X6_67 (Nat.le_of_ble_eq_true rfl) (by decide) dX6_canStep_25 rfl ?_
    refine zi_iload_n (pc' := 29) X dX6_canStep_28 rfl rfl 3 rfl ?_
    refine zi_icmp_gt (pc' := 32) (tgt := 36) X dX6_canStep_29 rfl rfl (fun c => ?_) (fun c => ?_)
    · replace h := zok_t h c
      refine zi_iconst (pc' := 37) (v := (0 : Int32)) X dX6_canStep_36 rfl rfl ?_
      exact hret _ _ _ _ dX6_canStep_37 (by decide) h
    · replace h := zok_f h c
      refine zi_iconst (pc' := 33) (v := (1 : Int32)) X dX6_canStep_32 rfl rfl ?_
      refine zi_goto (pc' := 37) X dX6_canStep_33 rfl ?_
      exact hret _ _ _ _ dX6_canStep_37 (by decide) h
def fX6_copy_172 : Nat → Nat → Int32 → Int32 → Int32 → Int32 → zMem → Option (Int32 × zMem)
  | 0, _, _, _, _, _, _ => none
  | n + 1, a0, a3, a4, a5, a7, μ =>
    if a5 ≤ a7 then
      some (a5, μ)
    else
      zgd (zib a7 40) (
      zgd (zib ((((40 : Int32) * a3) + a4) + a7) 160) (
      fX6_copy_172 n a0 a3 a4 a5 (a7 + (1 : Int32)) (zst μ (a0 + 10) (((((40 : Int32) * a3) + a4) + a7)).toNatClampNeg (μ (a0 + 11) (a7).toNatClampNeg))))
set_option maxRecDepth 100000 in
theorem lX6_copy_172 {g : zG} {κ : zK} (X : zC g κ RX6 cX6_copy 8 2) {Q : Int32 → zMem → Prop} (hret : ∀ pc lv r μ', decode cX6_copy pc = .ok (.ireturn, 1) → True → Q r μ' → zV g κ pc lv [.int r] μ') : ∀ (n : Nat) (a0 : Nat) (a3 : Int32) (a4 : Int32) (a5 : Int32) (a7 : Int32) (μ : zMem) (ha0 : zkd a0 = 6), zok (fX6_copy_172 n a0 a3 a4 a5 a7 μ) Q → zV g κ 172 [(0, .ref (zad g a0)), (3, .int a3), (4, .int a4), (5, .int a5), (7, .int a7)] [] μ := by
  intro n
  induction n with
  | zero =>
    intro a0 a3 a4 a5 a7 μ ha0 h
    exact h.elim
  | succ n ih =>
    intro a0 a3 a4 a5 a7 μ ha0 h
    rw [fX6_copy_172] at h
    refine zi_iload (pc' := 174) X dX6_copy_172 rfl 4 rfl ?_
    refine zi_iload (pc' := 176) X dX6_copy_174 rfl 3 rfl ?_
    refine zi_icmp_ge (pc' := 179) (tgt := 207) X dX6_copy_176 rfl rfl (fun c => ?_) (fun c => ?_)
    · replace h := zok_t h c
      refine zi_iload (pc' := 209) X dX6_copy_207 rfl 3 rfl ?_
      exact hret _ _ _ _ dX6_copy_209 trivial h
    · replace h := zok_f h c
      refine zi_aload_n (pc' := 180) X dX6_copy_179 rfl rfl 0 rfl ?_
      refine zi_getr (pc' := 183) X zf_X6_37 rfl (by decide) ha0 dX6_copy_180 rfl ?_
      have f17 := zr_6_14 ha0
      refine zi_bipush (pc' := 185) (v := (40 : Int32)) X dX6_copy_183 rfl rfl ?_
      refine zi_iload_n (pc' := 186) X dX6_copy_185 rfl rfl 1 rfl ?_
      refine zi_imul (pc' := 187) X dX6_copy_186 rfl ?_
      refine zi_iload (pc' := 189) X dX6_copy_187 rfl 2 rfl ?_
      refine zi_iadd (pc' := 190) X dX6_copy_189 rfl ?_
      refine zi_iload (pc' := 192) X dX6_copy_190 rfl 4 rfl ?_
      refine zi_iadd (pc' := 193) X dX6_copy_192 rfl ?_
      refine zi_aload_n (pc' := 194) X dX6_copy_193 rfl rfl 0 rfl ?_
      refine zi_getr (pc' := 197) X zf_X6_40 rfl (by decide) ha0 dX6_copy_194 rfl ?_
      have f18 := zr_6_15 ha0
      refine zi_iload (pc' := 199) X dX6_copy_197 rfl 4 rfl ?_
      obtain ⟨g19, h⟩ := zok_g h
      refine zi_iald (pc' := 200) X f18.1 (by rw [f18.2]; exact g19) dX6_copy_199 rfl ?_
      obtain ⟨g20, h⟩ := zok_g h
      refine zi_iast (pc' := 201) X f17.1 (by rw [f17.2]; exact g20) dX6_copy_200 rfl ?_
      refine zi_iinc (pc' := 204) (v := (a7 + (1 : Int32))) X dX6_copy_201 rfl 4 rfl rfl (by decide) [(7, .int (a7 + (1 : Int32))), (0, .ref (zad g a0)), (3, .int a3), (4, .int a4), (5, .int a5)] rfl ?_
      refine zi_goto (pc' := 172) X dX6_copy_204 rfl ?_
      exact zi_sub X [1, 2, 3, 4, 0] _ rfl (ih a0 a3 a4 a5 (a7 + (1 : Int32)) ((zst μ (a0 + 10) (((((40 : Int32) * a3) + a4) + a7)).toNatClampNeg (μ (a0 + 11) (a7).toNatClampNeg))) ha0 h)
def fX6_copy_135 : Nat → Nat → Int32 → Int32 → Int32 → Int32 → Int32 → Int32 → zMem → Option (Int32 × zMem)
  | 0, _, _, _, _, _, _, _, _ => none
  | n + 1, a0, a1, a2, a3, a4, a5, a7, μ =>
    if a5 ≤ a7 then
      fX6_copy_172 200 a0 a3 a4 a5 (0 : Int32) μ
    else
      zgd (zib ((((40 : Int32) * a1) + a2) + a7) 160) (
      zgd (zib a7 40) (
      fX6_copy_135 n a0 a1 a2 a3 a4 a5 (a7 + (1 : Int32)) (zst μ (a0 + 11) (a7).toNatClampNeg (μ (a0 + 10) (((((40 : Int32) * a1) + a2) + a7)).toNatClampNeg))))
set_option maxRecDepth 100000 in
theorem lX6_copy_135 {g : zG} {κ : zK} (X : zC g κ RX6 cX6_copy 8 2) {Q : Int32 → zMem → Prop} (hret : ∀ pc lv r μ', decode cX6_copy pc = .ok (.ireturn, 1) → True → Q r μ' → zV g κ pc lv [.int r] μ') : ∀ (n : Nat) (a0 : Nat) (a1 : Int32) (a2 : Int32) (a3 : Int32) (a4 : Int32) (a5 : Int32) (a7 : Int32) (μ : zMem) (ha0 : zkd a0 = 6), zok (fX6_copy_135 n a0 a1 a2 a3 a4 a5 a7 μ) Q → zV g κ 135 [(0, .ref (zad g a0)), (1, .int a1), (2, .int a2), (3, .int a3), (4, .int a4), (5, .int a5), (7, .int a7)] [] μ := by
  intro n
  induction n with
  | zero =>
    intro a0 a1 a2 a3 a4 a5 a7 μ ha0 h
    exact h.elim
  | succ n ih =>
    intro a0 a1 a2 a3 a4 a5 a7 μ ha0 h
    rw [fX6_copy_135] at h
    refine zi_iload (pc' := 137) X dX6_copy_135 rfl 6 rfl ?_
    refine zi_iload (pc' := 139) X dX6_copy_137 rfl 5 rfl ?_
    refine zi_icmp_ge (pc' := 142) (tgt := 169) X dX6_copy_139 rfl rfl (fun c => ?_) (fun c => ?_)
    · replace h := zok_t h c
      refine zi_iconst (pc' := 170) (v := (0 : Int32)) X dX6_copy_169 rfl rfl ?_
      refine zi_istore (pc' := 172) X dX6_copy_170 rfl (by decide) [(7, .int (0 : Int32)), (0, .ref (zad g a0)), (1, .int a1), (2, .int a2), (3, .int a3), (4, .int a4), (5, .int a5)] rfl ?_
      exact zi_sub X [1, 4, 5, 6, 0] _ rfl (lX6_copy_172 X hret 200 a0 a3 a4 a5 (0 : Int32) (μ) ha0 h)
    · replace h := zok_f h c
      refine zi_aload_n (pc' := 143) X dX6_copy_142 rfl rfl 0 rfl ?_
      refine zi_getr (pc' := 146) X zf_X6_40 rfl (by decide) ha0 dX6_copy_143 rfl ?_
      have f21 := zr_6_15 ha0
      refine zi_iload (pc' := 148) X dX6_copy_146 rfl 6 rfl ?_
      refine zi_aload_n (pc' := 149) X dX6_copy_148 rfl rfl 0 rfl ?_
      refine zi_getr (pc' := 152) X zf_X6_37 rfl (by decide) ha0 dX6_copy_149 rfl ?_
      have f22 := zr_6_14 ha0
      refine zi_bipush (pc' := 154) (v := (40 : Int32)) X dX6_copy_152 rfl rfl ?_
      refine zi_iload_n (pc' := 155) X dX6_copy_154 rfl rfl 1 rfl ?_
      refine zi_imul (pc' := 156) X dX6_copy_155 rfl ?_
      refine zi_iload_n (pc' := 157) X dX6_copy_156 rfl rfl 2 rfl ?_
      refine zi_iadd (pc' := 158) X dX6_copy_157 rfl ?_
      refine zi_iload (pc' := 160) X dX6_copy_158 rfl 6 rfl ?_
      refine zi_iadd (pc' := 161) X dX6_copy_160 rfl ?_
      obtain ⟨g23, h⟩ := zok_g h
      refine zi_iald (pc' := 162) X f22.1 (by rw [f22.2]; exact g23) dX6_copy_161 rfl ?_
      obtain ⟨g24, h⟩ := zok_g h
      refine zi_iast (pc' := 163) X f21.1 (by rw [f21.2]; exact g24) dX6_copy_162 rfl ?_
      refine zi_iinc (pc' := 166) (v := (a7 + (1 : Int32))) X dX6_copy_163 rfl 6 rfl rfl (by decide) [(7, .int (a7 + (1 : Int32))), (0, .ref (zad g a0)), (1, .int a1), (2, .int a2), (3, .int a3), (4, .int a4), (5, .int a5)] rfl ?_
      refine zi_goto (pc' := 135) X dX6_copy_166 rfl ?_
      exact zi_sub X [1, 2, 3, 4, 5, 6, 0] _ rfl (ih a0 a1 a2 a3 a4 a5 (a7 + (1 : Int32)) ((zst μ (a0 + 11) (a7).toNatClampNeg (μ (a0 + 10) (((((40 : Int32) * a1) + a2) + a7)).toNatClampNeg))) ha0 h)
def fX6_copy_119 (a0 : Nat) (a1 : Int32) (a2 : Int32) (a3 : Int32) (a4 : Int32) (a5 : Int32) (s0 : Int32) (μ : zMem) : Option (Int32 × zMem) :=
  if s0 = 0 then
    zbd (fX6_finds a0 (0 : Int32) μ) fun r25 m26 =>
    some (r25, m26)
  else
    fX6_copy_135 200 a0 a1 a2 a3 a4 a5 (0 : Int32) μ
set_option maxRecDepth 100000 in
theorem lX6_copy_119 {g : zG} {κ : zK} (X : zC g κ RX6 cX6_copy 8 2) {Q : Int32 → zMem → Prop} (hret : ∀ pc lv r μ', decode cX6_copy pc = .ok (.ireturn, 1) → True → Q r μ' → zV g κ pc lv [.int r] μ') : ∀ (a0 : Nat) (a1 : Int32) (a2 : Int32) (a3 : Int32) (a4 : Int32) (a5 : Int32) (s0 : Int32) (μ : zMem) (ha0 : zkd a0 = 6), zok (fX6_copy_119 a0 a1 a2 a3 a4 a5 s0 μ) Q → zV g κ 119 [(0, .ref (zad g a0)), (1, .int a1), (2, .int a2), (3, .int a3), (4, .int a4), (5, .int a5)] [.int s0] μ := by
  intro a0 a1 a2 a3 a4 a5 s0 μ ha0 h
  unfold fX6_copy_119 at h
  refine zi_istore (pc' := 121) X dX6_copy_119 rfl (by decide) [(6, .int s0), (0, .ref (zad g a0)), (1, .int a1), (2, .int a2), (3, .int a3), (4, .int a4), (5, .int a5)] rfl ?_
  refine zi_iload (pc' := 123) X dX6_copy_121 rfl 0 rfl ?_
  refine zi_if_ne (pc' := 126) (tgt := 132) X dX6_copy_123 rfl rfl (fun c => ?_) (fun c => ?_)
  · replace h := zok_f h c
    refine zi_iconst (pc' := 133) (v := (0 : Int32)) X dX6_copy_132 rfl rfl ?_
    refine zi_istore (pc' := 135) X dX6_copy_133 rfl (by decide) [(7, .int (0 : Int32)), (6, .int s0), (0, .ref (zad g a0)), (1, .int a1), (2, .int a2), (3, .int a3), (4, .int a4), (5, .int a5)] rfl ?_
    exact zi_sub X [2, 3, 4, 5, 6, 7, 0] _ rfl (lX6_copy_135 X hret 200 a0 a1 a2 a3 a4 a5 (0 : Int32) (μ) ha0 h)
  · replace h := zok_t h c
    refine zi_aload_n (pc' := 127) X dX6_copy_126 rfl rfl 1 rfl ?_
    refine zi_iconst (pc' := 128) (v := (0 : Int32)) X dX6_copy_127 rfl rfl ?_
    refine zi_callVi (pc' := 131) X zl_X6_93 ha0 (by decide) [.int (0 : Int32)] rfl rfl (by decide) (Nat.le_of_ble_eq_true rfl) dX6_copy_128 rfl (tX6_finds _ ha0 (zok_bd h (fun r25 m26 h => ?_)))
    exact hret _ _ _ _ dX6_copy_131 trivial h
def fX6_copy (a0 : Nat) (a1 : Int32) (a2 : Int32) (a3 : Int32) (a4 : Int32) (a5 : Int32) (μ : zMem) : Option (Int32 × zMem) :=
  zbd (fX6_isSheet a1 μ) fun r1 m2 =>
  if r1 = 0 then
    zbd (fX6_finds a0 (0 : Int32) m2) fun r3 m4 =>
    some (r3, m4)
  else
    zbd (fX6_isSheet a3 m2) fun r5 m6 =>
    if r5 = 0 then
      zbd (fX6_finds a0 (0 : Int32) m6) fun r35 m36 =>
      some (r35, m36)
    else
      zgd (zib a1 4) (
      if (m6 (a0 + 8) (a1).toNatClampNeg) = 0 then
        zbd (fX6_finds a0 (5 : Int32) m6) fun r9 m10 =>
        some (r9, m10)
      else
        zgd (zib a3 4) (
        if (m6 (a0 + 8) (a3).toNatClampNeg) = 0 then
          zbd (fX6_finds a0 (5 : Int32) m6) fun r33 m34 =>
          some (r33, m34)
        else
          zgd (zib a1 4) (
          zgd (zib a3 4) (
          if (m6 (a0 + 8) (a1).toNatClampNeg) = (m6 (a0 + 8) (a3).toNatClampNeg) then
            if a5 < 0 then
              fX6_copy_119 a0 a1 a2 a3 a4 a5 (0 : Int32) m6
            else
              if a2 < 0 then
                fX6_copy_119 a0 a1 a2 a3 a4 a5 (0 : Int32) m6
              else
                if a4 < 0 then
                  fX6_copy_119 a0 a1 a2 a3 a4 a5 (0 : Int32) m6
                else
                  zgd (zib a1 4) (
                  if 0 < (lg_cmp (((a2).toInt64) + ((a5).toInt64)) (((m6 (a0 + 9) (a1).toNatClampNeg)).toInt64)) then
                    fX6_copy_119 a0 a1 a2 a3 a4 a5 (0 : Int32) m6
                  else
                    zgd (zib a3 4) (
                    if 0 < (lg_cmp (((a4).toInt64) + ((a5).toInt64)) (((m6 (a0 + 9) (a3).toNatClampNeg)).toInt64)) then
                      fX6_copy_119 a0 a1 a2 a3 a4 a5 (0 : Int32) m6
                    else
                      fX6_copy_119 a0 a1 a2 a3 a4 a5 (1 : Int32) m6))
          else
            zbd (fX6_finds a0 (2 : Int32) m6) fun r31 m32 =>
            some (r31, m32)))))
set_option maxRecDepth 100000 in
set_option maxHeartbeats 4000000 in
theorem tX6_copy (g : zG) {a0 : Nat} {a1 : Int32} {a2 : Int32} {a3 : Int32} {a4 : Int32} {a5 : Int32} {μ : zMem} {Q : Int32 → zMem → Prop} (ha0 : zkd a0 = 6) (h : zok (fX6_copy a0 a1 a2 a3 a4 a5 μ) Q) : zTi g yX6_copy cX6_copy 8 .int 2 [.ref (zad g a0), .int a1, .int a2, .int a3, .int a4, .int a5] μ Q := by
  refine zTi_of (P := fun r => True) zpi RX6 (by decide) rfl (Nat.le_of_ble_eq_true rfl) ?_
  intro κ X hret
  unfold fX6_copy at h
  refine zi_iload_n (pc' := 1) X dX6_copy_0 rfl rfl 1 rfl ?_
  refine zi_callSi (pc' := 4) X zl_X6_335 [.int a1] rfl rfl (by decide) (Nat.le_of_ble_eq_true rfl) dX6_copy_1 rfl (tX6_isSheet _ (zok_bd h (fun r1 m2 h => ?_)))
  refine zi_if_eq (pc' := 7) (tgt := 14) X dX6_copy_4 rfl rfl (fun c => ?_) (fun c => ?_)
  · replace h := zok_t h c
    refine zi_aload_n (pc' := 15) X dX6_copy_14 rfl rfl 0 rfl ?_
    refine zi_iconst (pc' := 16) (v := (0 : Int32)) X dX6_copy_15 rfl rfl ?_
    refine zi_callVi (pc' := 19) X zl_X6_93 ha0 (by decide) [.int (0 : Int32)] rfl rfl (by decide) (Nat.le_of_ble_eq_true rfl) dX6_copy_16 rfl (tX6_finds _ ha0 (zok_bd h (fun r3 m4 h => ?_)))
    exact hret _ _ _ _ dX6_copy_19 trivial h
  · replace h := zok_f h c
    refine zi_iload_n (pc' := 8) X dX6_copy_7 rfl rfl 3 rfl ?_
    refine zi_callSi (pc' := 11) X zl_X6_335 [.int a3] rfl rfl (by decide) (Nat.le_of_ble_eq_true rfl) dX6_copy_8 rfl (tX6_isSheet _ (zok_bd h (fun r5 m6 h => ?_)))
    refine zi_if_ne (pc' := 14) (tgt := 20) X dX6_copy_11 rfl rfl (fun c => ?_) (fun c => ?_)
    · replace h := zok_f h c
      refine zi_aload_n (pc' := 21) X dX6_copy_20 rfl rfl 0 rfl ?_
      refine zi_getr (pc' := 24) X zf_X6_31 rfl (by decide) ha0 dX6_copy_21 rfl ?_
      have f7 := zr_6_12 ha0
      refine zi_iload_n (pc' := 25) X dX6_copy_24 rfl rfl 1 rfl ?_
      obtain ⟨g8, h⟩ := zok_g h
      refine zi_iald (pc' := 26) X f7.1 (by rw [f7.2]; exact g8) dX6_copy_25 rfl ?_
      refine zi_if_eq (pc' := 29) (tgt := 38) X dX6_copy_26 rfl rfl (fun c => ?_) (fun c => ?_)
      · replace h := zok_t h c
        refine zi_aload_n (pc' := 39) X dX6_copy_38 rfl rfl 0 rfl ?_
        refine zi_iconst (pc' := 40) (v := (5 : Int32)) X dX6_copy_39 rfl rfl ?_
        refine zi_callVi (pc' := 43) X zl_X6_93 ha0 (by decide) [.int (5 : Int32)] rfl rfl (by decide) (Nat.le_of_ble_eq_true rfl) dX6_copy_40 rfl (tX6_finds _ ha0 (zok_bd h (fun r9 m10 h => ?_)))
        exact hret _ _ _ _ dX6_copy_43 trivial h
      · replace h := zok_f h c
        refine zi_aload_n (pc' := 30) X dX6_copy_29 rfl rfl 0 rfl ?_
        refine zi_getr (pc' := 33) X zf_X6_31 rfl (by decide) ha0 dX6_copy_30 rfl ?_
        have f11 := zr_6_12 ha0
        refine zi_iload_n (pc' := 34) X dX6_copy_33 rfl rfl 3 rfl ?_
        obtain ⟨g12, h⟩ := zok_g h
        refine zi_iald (pc' := 35) X f11.1 (by rw [f11.2]; exact g12) dX6_copy_34 rfl ?_
        refine zi_if_ne (pc' := 38) (tgt := 44) X dX6_copy_35 rfl rfl (fun c => ?_) (fun c => ?_)
        · replace h := zok_f h c
          refine zi_aload_n (pc' := 45) X dX6_copy_44 rfl rfl 0 rfl ?_
          refine zi_getr (pc' := 48) X zf_X6_31 rfl (by decide) ha0 dX6_copy_45 rfl ?_
          have f13 := zr_6_12 ha0
          refine zi_iload_n (pc' := 49) X dX6_copy_48 rfl rfl 1 rfl ?_
          obtain ⟨g14, h⟩ := zok_g h
          refine zi_iald (pc' := 50) X f13.1 (by rw [f13.2]; exact g14) dX6_copy_49 rfl ?_
          refine zi_aload_n (pc' := 51) X dX6_copy_50 rfl rfl 0 rfl ?_
          refine zi_getr (pc' := 54) X zf_X6_31 rfl (by decide) ha0 dX6_copy_51 rfl ?_
          have f15 := zr_6_12 ha0
          refine zi_iload_n (pc' := 55) X dX6_copy_54 rfl rfl 3 rfl ?_
          obtain ⟨g16, h⟩ := zok_g h
          refine zi_iald (pc' := 56) X f15.1 (by rw [f15.2]; exact g16) dX6_copy_55 rfl ?_
          refine zi_icmp_eq (pc' := 59) (tgt := 65) X dX6_copy_56 rfl rfl (fun c => ?_) (fun c => ?_)
          · replace h := zok_t h c
            refine zi_iload (pc' := 67) X dX6_copy_65 rfl 5 rfl ?_
            refine zi_if_lt (pc' := 70) (tgt := 118) X dX6_copy_67 rfl rfl (fun c => ?_) (fun c => ?_)
            · replace h := zok_t h c
              refine zi_iconst (pc' := 119) (v := (0 : Int32)) X dX6_copy_118 rfl rfl ?_
              exact zi_sub X [0, 1, 2, 3, 4, 5] _ rfl (lX6_copy_119 X hret a0 a1 a2 a3 a4 a5 (0 : Int32) (m6) ha0 h)
            · replace h := zok_f h c
              refine zi_iload_n (pc' := 71) X dX6_copy_70 rfl rfl 2 rfl ?_
              refine zi_if_lt (pc' := 74) (tgt := 118) X dX6_copy_71 rfl rfl (fun c => ?_) (fun c => ?_)
              · replace h := zok_t h c
                refine zi_iconst (pc' := 119) (v := (0 : Int32)) X dX6_copy_118 rfl rfl ?_
                exact zi_sub X [0, 1, 2, 3, 4, 5] _ rfl (lX6_copy_119 X hret a0 a1 a2 a3 a4 a5 (0 : Int32) (m6) ha0 h)
              · replace h := zok_f h c
                refine zi_iload (pc' := 76) X dX6_copy_74 rfl 4 rfl ?_
                refine zi_if_lt (pc' := 79) (tgt := 118) X dX6_copy_76 rfl rfl (fun c => ?_) (fun c => ?_)
                · replace h := zok_t h c
                  refine zi_iconst (pc' := 119) (v := (0 : Int32)) X dX6_copy_118 rfl rfl ?_
                  exact zi_sub X [0, 1, 2, 3, 4, 5] _ rfl (lX6_copy_119 X hret a0 a1 a2 a3 a4 a5 (0 : Int32) (m6) ha0 h)
                · replace h := zok_f h c
                  refine zi_iload_n (pc' := 80) X dX6_copy_79 rfl rfl 2 rfl ?_
                  refine zi_i2l (pc' := 81) X dX6_copy_80 rfl ?_
                  refine zi_iload (pc' := 83) X dX6_copy_81 rfl 5 rfl ?_
                  refine zi_i2l (pc' := 84) X dX6_copy_83 rfl ?_
                  refine zi_ladd (pc' := 85) X dX6_copy_84 rfl ?_
                  refine zi_aload_n (pc' := 86) X dX6_copy_85 rfl rfl 0 rfl ?_
                  refine zi_getr (pc' := 89) X zf_X6_34 rfl (by decide) ha0 dX6_copy_86 rfl ?_
                  have f27 := zr_6_13 ha0
                  refine zi_iload_n (pc' := 90) X dX6_copy_89 rfl rfl 1 rfl ?_
                  obtain ⟨g28, h⟩ := zok_g h
                  refine zi_iald (pc' := 91) X f27.1 (by rw [f27.2]; exact g28) dX6_copy_90 rfl ?_
                  refine zi_i2l (pc' := 92) X dX6_copy_91 rfl ?_
                  refine zi_lcmp (pc' := 93) X dX6_copy_92 rfl ?_
                  refine zi_if_gt (pc' := 96) (tgt := 118) X dX6_copy_93 rfl rfl (fun c => ?_) (fun c => ?_)
                  · replace h := zok_t h c
                    refine zi_iconst (pc' := 119) (v := (0 : Int32)) X dX6_copy_118 rfl rfl ?_
                    exact zi_sub X [0, 1, 2, 3, 4, 5] _ rfl (lX6_copy_119 X hret a0 a1 a2 a3 a4 a5 (0 : Int32) (m6) ha0 h)
                  · replace h := zok_f h c
                    refine zi_iload (pc' := 98) X dX6_copy_96 rfl 4 rfl ?_
                    refine zi_i2l (pc' := 99) X dX6_copy_98 rfl ?_
                    refine zi_iload (pc' := 101) X dX6_copy_99 rfl 5 rfl ?_
                    refine zi_i2l (pc' := 102) X dX6_copy_101 rfl ?_
                    refine zi_ladd (pc' := 103) X dX6_copy_102 rfl ?_
                    refine zi_aload_n (pc' := 104) X dX6_copy_103 rfl rfl 0 rfl ?_
                    refine zi_getr (pc' := 107) X zf_X6_34 rfl (by decide) ha0 dX6_copy_104 rfl ?_
                    have f29 := zr_6_13 ha0
                    refine zi_iload_n (pc' := 108) X dX6_copy_107 rfl rfl 3 rfl ?_
                    obtain ⟨g30, h⟩ := zok_g h
                    refine zi_iald (pc' := 109) X f29.1 (by rw [f29.2]; exact g30) dX6_copy_108 rfl ?_
                    refine zi_i2l (pc' := 110) X dX6_copy_109 rfl ?_
                    refine zi_lcmp (pc' := 111) X dX6_copy_110 rfl ?_
                    refine zi_if_gt (pc' := 114) (tgt := 118) X dX6_copy_111 rfl rfl (fun c => ?_) (fun c => ?_)
                    · replace h := zok_t h c
                      refine zi_iconst (pc' := 119) (v := (0 : Int32)) X dX6_copy_118 rfl rfl ?_
                      exact zi_sub X [0, 1, 2, 3, 4, 5] _ rfl (lX6_copy_119 X hret a0 a1 a2 a3 a4 a5 (0 : Int32) (m6) ha0 h)
                    · replace h := zok_f h c
                      refine zi_iconst (pc' := 115) (v := (1 : Int32)) X dX6_copy_114 rfl rfl ?_
                      refine zi_goto (pc' := 119) X dX6_copy_115 rfl ?_
                      exact zi_sub X [0, 1, 2, 3, 4, 5] _ rfl (lX6_copy_119 X hret a0 a1 a2 a3 a4 a5 (1 : Int32) (m6) ha0 h)
          · replace h := zok_f h c
            refine zi_aload_n (pc' := 60) X dX6_copy_59 rfl rfl 0 rfl ?_
            refine zi_iconst (pc' := 61) (v := (2 : Int32)) X dX6_copy_60 rfl rfl ?_
            refine zi_callVi (pc' := 64) X zl_X6_93 ha0 (by decide) [.int (2 : Int32)] rfl rfl (by decide) (Nat.le_of_ble_eq_true rfl) dX6_copy_61 rfl (tX6_finds _ ha0 (zok_bd h (fun r31 m32 h => ?_)))
            exact hret _ _ _ _ dX6_copy_64 trivial h
        · replace h := zok_t h c
          refine zi_aload_n (pc' := 39) X dX6_copy_38 rfl rfl 0 rfl ?_
          refine zi_iconst (pc' := 40) (v := (5 : Int32)) X dX6_copy_39 rfl rfl ?_
          refine zi_callVi (pc' := 43) X zl_X6_93 ha0 (by decide) [.int (5 : Int32)] rfl rfl (by decide) (Nat.le_of_ble_eq_true rfl) dX6_copy_40 rfl (tX6_finds _ ha0 (zok_bd h (fun r33 m34 h => ?_)))
          exact hret _ _ _ _ dX6_copy_43 trivial h
    · replace h := zok_t h c
      refine zi_aload_n (pc' := 15) X dX6_copy_14 rfl rfl 0 rfl ?_
      refine zi_iconst (pc' := 16) (v := (0 : Int32)) X dX6_copy_15 rfl rfl ?_
      refine zi_callVi (pc' := 19) X zl_X6_93 ha0 (by decide) [.int (0 : Int32)] rfl rfl (by decide) (Nat.le_of_ble_eq_true rfl) dX6_copy_16 rfl (tX6_finds _ ha0 (zok_bd h (fun r35 m36 h => ?_)))
      exact hret _ _ _ _ dX6_copy_19 trivial h
def fX6_count (a0 : Nat) (a1 : Int32) (μ : zMem) : Option (Int32 × zMem) :=
  if a1 = (0 : Int32) then
    zgd (zib (0 : Int32) 87) (
    some ((μ (a0 + 1) ((0 : Int32)).toNatClampNeg), μ))
  else
    if a1 = (1 : Int32) then
      zgd (zib (2 : Int32) 87) (
      some ((μ (a0 + 1) ((2 : Int32)).toNatClampNeg), μ))
    else
      if a1 = (2 : Int32) then
        zbd (fX6_pitched a0 μ) fun r5 m6 =>
        zbd (fX6_ones r5 m6) fun r7 m8 =>
        some (r7, m8)
      else
        if a1 = (3 : Int32) then
          zbd (fX6_allWorn a0 μ) fun r9 m10 =>
          some (r9, m10)
        else
          if a1 = (4 : Int32) then
            zbd (fX6_heights a0 μ) fun r11 m12 =>
            some (r11, m12)
          else
            if a1 = (5 : Int32) then
              some ((μ a0 8), μ)
            else
              if a1 = (6 : Int32) then
                zgd (zib (1 : Int32) 87) (
                some ((μ (a0 + 1) ((1 : Int32)).toNatClampNeg), μ))
              else
                if a1 = (7 : Int32) then
                  zbd (fX6_held_ a0 μ) fun r15 m16 =>
                  some (r15, m16)
                else
                  zbd (fX6_finds a0 (0 : Int32) μ) fun r17 m18 =>
                  some (r17, m18)
set_option maxRecDepth 100000 in
set_option maxHeartbeats 4000000 in
theorem tX6_count (g : zG) {a0 : Nat} {a1 : Int32} {μ : zMem} {Q : Int32 → zMem → Prop} (ha0 : zkd a0 = 6) (h : zok (fX6_count a0 a1 μ) Q) : zTi g yX6_count cX6_count 2 .int 2 [.ref (zad g a0), .int a1] μ Q := by
  refine zTi_of (P := fun r => True) zpi RX6 (by decide) rfl (Nat.le_of_ble_eq_true rfl) ?_
  intro κ X hret
  unfold fX6_count at h
  refine zi_iload_n (pc' := 1) X dX6_count_0 rfl rfl 1 rfl ?_
  by_cases c0 : a1 = (0 : Int32)
  · replace h := zok_t h c0
    refine zi_tabIn (pc' := 48) X c0 dX6_count_1 ⟨by decide, rfl, rfl⟩ ?_
    refine zi_aload_n (pc' := 49) X dX6_count_48 rfl rfl 0 rfl ?_
    refine zi_getr (pc' := 52) X zf_X6_9 rfl (by decide) ha0 dX6_count_49 rfl ?_
    have f1 := zr_6_0 ha0
    refine zi_iconst (pc' := 53) (v := (0 : Int32)) X dX6_count_52 rfl rfl ?_
    obtain ⟨g2, h⟩ := zok_g h
    refine zi_iald (pc' := 54) X f1.1 (by rw [f1.2]; exact g2) dX6_count_53 rfl ?_
    exact hret _ _ _ _ dX6_count_54 trivial h
  · replace h := zok_f h c0
    by_cases c1 : a1 = (1 : Int32)
    · replace h := zok_t h c1
      refine zi_tabIn (pc' := 55) X c1 dX6_count_1 ⟨by decide, rfl, rfl⟩ ?_
      refine zi_aload_n (pc' := 56) X dX6_count_55 rfl rfl 0 rfl ?_
      refine zi_getr (pc' := 59) X zf_X6_9 rfl (by decide) ha0 dX6_count_56 rfl ?_
      have f3 := zr_6_0 ha0
      refine zi_iconst (pc' := 60) (v := (2 : Int32)) X dX6_count_59 rfl rfl ?_
      obtain ⟨g4, h⟩ := zok_g h
      refine zi_iald (pc' := 61) X f3.1 (by rw [f3.2]; exact g4) dX6_count_60 rfl ?_
      exact hret _ _ _ _ dX6_count_61 trivial h
    · replace h := zok_f h c1
      by_cases c2 : a1 = (2 : Int32)
      · replace h := zok_t h c2
        refine zi_tabIn (pc' := 62) X c2 dX6_count_1 ⟨by decide, rfl, rfl⟩ ?_
        refine zi_aload_n (pc' := 63) X dX6_count_62 rfl rfl 0 rfl ?_
        refine zi_callVi (pc' := 66) X zl_X6_170 ha0 (by decide) [] rfl rfl (by decide) (Nat.le_of_ble_eq_true rfl) dX6_count_63 rfl (tX6_pitched _ ha0 (zok_bd h (fun r5 m6 h => ?_)))
        refine zi_callSi (pc' := 69) X zl_X6_344 [.int r5] rfl rfl (by decide) (Nat.le_of_ble_eq_true rfl) dX6_count_66 rfl (tX6_ones _ (zok_bd h (fun r7 m8 h => ?_)))
        exact hret _ _ _ _ dX6_count_69 trivial h
      · replace h := zok_f h c2
        by_cases c3 : a1 = (3 : Int32)
        · replace h := zok_t h c3
          refine zi_tabIn (pc' := 70) X c3 dX6_count_1 ⟨by decide, rfl, rfl⟩ ?_
          refine zi_aload_n (pc' := 71) X dX6_count_70 rfl rfl 0 rfl ?_
          refine zi_callVi (pc' := 74) X zl_X6_173 ha0 (by decide) [] rfl rfl (by decide) (Nat.le_of_ble_eq_true rfl) dX6_count_71 rfl (tX6_allWorn _ ha0 (zok_bd h (fun r9 m10 h => ?_)))
          exact hret _ _ _ _ dX6_count_74 trivial h
        · replace h := zok_f h c3
          by_cases c4 : a1 = (4 : Int32)
          · replace h := zok_t h c4
            refine zi_tabIn (pc' := 75) X c4 dX6_count_1 ⟨by decide, rfl, rfl⟩ ?_
            refine zi_aload_n (pc' := 76) X dX6_count_75 rfl rfl 0 rfl ?_
            refine zi_callVi (pc' := 79) X zl_X6_166 ha0 (by decide) [] rfl rfl (by decide) (Nat.le_of_ble_eq_true rfl) dX6_count_76 rfl (tX6_heights _ ha0 (zok_bd h (fun r11 m12 h => ?_)))
            exact hret _ _ _ _ dX6_count_79 trivial h
          · replace h := zok_f h c4
            by_cases c5 : a1 = (5 : Int32)
            · replace h := zok_t h c5
              refine zi_tabIn (pc' := 80) X c5 dX6_count_1 ⟨by decide, rfl, rfl⟩ ?_
              refine zi_aload_n (pc' := 81) X dX6_count_80 rfl rfl 0 rfl ?_
              refine zi_geti (pc' := 84) X zf_X6_245 rfl (by decide) ha0 dX6_count_81 rfl ?_
              exact hret _ _ _ _ dX6_count_84 trivial h
            · replace h := zok_f h c5
              by_cases c6 : a1 = (6 : Int32)
              · replace h := zok_t h c6
                refine zi_tabIn (pc' := 85) X c6 dX6_count_1 ⟨by decide, rfl, rfl⟩ ?_
                refine zi_aload_n (pc' := 86) X dX6_count_85 rfl rfl 0 rfl ?_
                refine zi_getr (pc' := 89) X zf_X6_9 rfl (by decide) ha0 dX6_count_86 rfl ?_
                have f13 := zr_6_0 ha0
                refine zi_iconst (pc' := 90) (v := (1 : Int32)) X dX6_count_89 rfl rfl ?_
                obtain ⟨g14, h⟩ := zok_g h
                refine zi_iald (pc' := 91) X f13.1 (by rw [f13.2]; exact g14) dX6_count_90 rfl ?_
                exact hret _ _ _ _ dX6_count_91 trivial h
              · replace h := zok_f h c6
                by_cases c7 : a1 = (7 : Int32)
                · replace h := zok_t h c7
                  refine zi_tabIn (pc' := 92) X c7 dX6_count_1 ⟨by decide, rfl, rfl⟩ ?_
                  refine zi_aload_n (pc' := 93) X dX6_count_92 rfl rfl 0 rfl ?_
                  refine zi_callVi (pc' := 96) X zl_X6_347 ha0 (by decide) [] rfl rfl (by decide) (Nat.le_of_ble_eq_true rfl) dX6_count_93 rfl (tX6_held_ _ ha0 (zok_bd h (fun r15 m16 h => ?_)))
                  exact hret _ _ _ _ dX6_count_96 trivial h
                · replace h := zok_f h c7
                  have e0 := zne (0) rfl c0
                  have e1 := zne (1) rfl c1
                  have e2 := zne (2) rfl c2
                  have e3 := zne (3) rfl c3
                  have e4 := zne (4) rfl c4
                  have e5 := zne (5) rfl c5
                  have e6 := zne (6) rfl c6
                  have e7 := zne (7) rfl c7
                  refine zi_tabOut (pc' := 97) X (by omega) dX6_count_1 rfl ?_
                  refine zi_aload_n (pc' := 98) X dX6_count_97 rfl rfl 0 rfl ?_
                  refine zi_iconst (pc' := 99) (v := (0 : Int32)) X dX6_count_98 rfl rfl ?_
                  refine zi_callVi (pc' := 102) X zl_X6_93 ha0 (by decide) [.int (0 : Int32)] rfl rfl (by decide) (Nat.le_of_ble_eq_true rfl) dX6_count_99 rfl (tX6_finds _ ha0 (zok_bd h (fun r17 m18 h => ?_)))
                  exact hret _ _ _ _ dX6_count_102 trivial h
