def fX6_climb_17 : Nat → Nat → Int32 → Int32 → Int32 → zMem → Option (Int32 × zMem)
  | 0, _, _, _, _, _ => none
  | n + 1, a0, a1, a2, a3, μ =>
    zbd (fX6_walk a0 a1 (a3 + (1 : Int32)) μ) fun _ m4 =>
    zgd (zib a2 25) (
    if (m4 (a0 + 5) (a2).toNatClampNeg) < 0 then
      fX6_climb_17 n a0 a1 a2 (a3 + (1 : Int32)) m4
    else
      some ((a3 + (1 : Int32)), m4))
set_option maxRecDepth 100000 in
theorem lX6_climb_17 {g : zG} {κ : zK} (X : zC g κ RX6 cX6_climb 4 4) {Q : Int32 → zMem → Prop} (hret : ∀ pc lv r μ', decode cX6_climb pc = .ok (.ireturn, 1) → True → Q r μ' → zV g κ pc lv [.int r] μ') : ∀ (n : Nat) (a0 : Nat) (a1 : Int32) (a2 : Int32) (a3 : Int32) (μ : zMem) (ha0 : zkd a0 = 6), zok (fX6_climb_17 n a0 a1 a2 a3 μ) Q → zV g κ 17 [(0, .ref (zad g a0)), (1, .int a1), (2, .int a2), (3, .int a3)] [] μ := by
  intro n
  induction n with
  | zero =>
    intro a0 a1 a2 a3 μ ha0 h
    exact h.elim
  | succ n ih =>
    intro a0 a1 a2 a3 μ ha0 h
    rw [fX6_climb_17] at h
    refine zi_iinc (pc' := 20) (v := (a3 + (1 : Int32))) X dX6_climb_17 rfl 3 rfl rfl (by decide) [(3, .int (a3 + (1 : Int32))), (0, .ref (zad g a0)), (1, .int a1), (2, .int a2)] rfl ?_
    refine zi_aload_n (pc' := 21) X dX6_climb_20 rfl rfl 1 rfl ?_
    refine zi_iload_n (pc' := 22) X dX6_climb_21 rfl rfl 2 rfl ?_
    refine zi_iload_n (pc' := 23) X dX6_climb_22 rfl rfl 0 rfl ?_
    refine zi_callVv (pc' := 26) X zl_X6_186 ha0 (by decide) [.int a1, .int (a3 + (1 : Int32))] rfl rfl (by decide) (Nat.le_of_ble_eq_true rfl) dX6_climb_23 rfl (tX6_walk _ ha0 (zok_bd h (fun _ m4 h => ?_)))
    refine zi_aload_n (pc' := 27) X dX6_climb_26 rfl rfl 1 rfl ?_
    refine zi_getr (pc' := 30) X zf_X6_22 rfl (by decide) ha0 dX6_climb_27 rfl ?_
    have f5 := zr_6_5 ha0
    refine zi_iload_n (pc' := 31) X dX6_climb_30 rfl rfl 3 rfl ?_
    obtain ⟨g6, h⟩ := zok_g h
    refine zi_iald (pc' := 32) X f5.1 (by rw [f5.2]; exact g6) dX6_climb_31 rfl ?_
    refine zi_if_lt (pc' := 35) (tgt := 17) X dX6_climb_32 rfl rfl (fun c => ?_) (fun c => ?_)
    · replace h := zok_t h c
      exact zi_sub X [1, 2, 3, 0] _ rfl (ih a0 a1 a2 (a3 + (1 : Int32)) (m4) ha0 h)
    · replace h := zok_f h c
      refine zi_iload_n (pc' := 36) X dX6_climb_35 rfl rfl 0 rfl ?_
      exact hret _ _ _ _ dX6_climb_36 trivial h
def fX6_climb (a0 : Nat) (a1 : Int32) (a2 : Int32) (μ : zMem) : Option (Int32 × zMem) :=
  zbd (fX6_areWay a1 a2 (0 : Int32) μ) fun r1 m2 =>
  if r1 = 0 then
    zbd (fX6_finds a0 (0 : Int32) m2) fun r7 m8 =>
    some (r7, m8)
  else
    fX6_climb_17 200 a0 a1 a2 (-1 : Int32) m2
set_option maxRecDepth 100000 in
set_option maxHeartbeats 4000000 in
theorem tX6_climb (g : zG) {a0 : Nat} {a1 : Int32} {a2 : Int32} {μ : zMem} {Q : Int32 → zMem → Prop} (ha0 : zkd a0 = 6) (h : zok (fX6_climb a0 a1 a2 μ) Q) : zTi g yX6_climb cX6_climb 4 .int 4 [.ref (zad g a0), .int a1, .int a2] μ Q := by
  refine zTi_of (P := fun r => True) zpi RX6 (by decide) rfl (Nat.le_of_ble_eq_true rfl) ?_
  intro κ X hret
  unfold fX6_climb at h
  refine zi_iload_n (pc' := 1) X dX6_climb_0 rfl rfl 1 rfl ?_
  refine zi_iload_n (pc' := 2) X dX6_climb_1 rfl rfl 2 rfl ?_
  refine zi_iconst (pc' := 3) (v := (0 : Int32)) X dX6_climb_2 rfl rfl ?_
  refine zi_callSi (pc' := 6) X zl_X6_183 [.int a1, .int a2, .int (0 : Int32)] rfl rfl (by decide) (Nat.le_of_ble_eq_true rfl) dX6_climb_3 rfl (tX6_areWay _ (zok_bd h (fun r1 m2 h => ?_)))
  refine zi_if_ne (pc' := 9) (tgt := 15) X dX6_climb_6 rfl rfl (fun c => ?_) (fun c => ?_)
  · replace h := zok_f h c
    refine zi_iconst (pc' := 16) (v := (-1 : Int32)) X dX6_climb_15 rfl rfl ?_
    refine zi_istore_n (pc' := 17) X dX6_climb_16 rfl rfl (by decide) [(3, .int (-1 : Int32)), (0, .ref (zad g a0)), (1, .int a1), (2, .int a2)] rfl ?_
    exact zi_sub X [1, 2, 3, 0] _ rfl (lX6_climb_17 X hret 200 a0 a1 a2 (-1 : Int32) (m2) ha0 h)
  · replace h := zok_t h c
    refine zi_aload_n (pc' := 10) X dX6_climb_9 rfl rfl 0 rfl ?_
    refine zi_iconst (pc' := 11) (v := (0 : Int32)) X dX6_climb_10 rfl rfl ?_
    refine zi_callVi (pc' := 14) X zl_X6_93 ha0 (by decide) [.int (0 : Int32)] rfl rfl (by decide) (Nat.le_of_ble_eq_true rfl) dX6_climb_11 rfl (tX6_finds _ ha0 (zok_bd h (fun r7 m8 h => ?_)))
    exact hret _ _ _ _ dX6_climb_14 trivial h
def fX6_days_2 : Nat → Nat → Int32 → Int32 → zMem → Option (Unit × zMem)
  | 0, _, _, _, _ => none
  | n + 1, a0, a1, a2, μ =>
    if a1 ≤ a2 then
      some ((), μ)
    else
      zbd (fX6_aDay a0 μ) fun _ m2 =>
      fX6_days_2 n a0 a1 (a2 + (1 : Int32)) m2
set_option maxRecDepth 100000 in
theorem lX6_days_2 {g : zG} {κ : zK} (X : zC g κ RX6 cX6_days 3 4) {Q : Unit → zMem → Prop} (hret : ∀ pc lv μ', decode cX6_days pc = .ok (.return_, 1) → Q () μ' → zV g κ pc lv [] μ') : ∀ (n : Nat) (a0 : Nat) (a1 : Int32) (a2 : Int32) (μ : zMem) (ha0 : zkd a0 = 6), zok (fX6_days_2 n a0 a1 a2 μ) Q → zV g κ 2 [(0, .ref (zad g a0)), (1, .int a1), (2, .int a2)] [] μ := by
  intro n
  induction n with
  | zero =>
    intro a0 a1 a2 μ ha0 h
    exact h.elim
  | succ n ih =>
    intro a0 a1 a2 μ ha0 h
    rw [fX6_days_2] at h
    refine zi_iload_n (pc' := 3) X dX6_days_2 rfl rfl 2 rfl ?_
    refine zi_iload_n (pc' := 4) X dX6_days_3 rfl rfl 1 rfl ?_
    refine zi_icmp_ge (pc' := 7) (tgt := 17) X dX6_days_4 rfl rfl (fun c => ?_) (fun c => ?_)
    · replace h := zok_t h c
      exact hret _ _ _ dX6_days_17 h
    · replace h := zok_f h c
      refine zi_aload_n (pc' := 8) X dX6_days_7 rfl rfl 0 rfl ?_
      refine zi_callVv (pc' := 11) X zl_X6_156 ha0 (by decide) [] rfl rfl (by decide) (Nat.le_of_ble_eq_true rfl) dX6_days_8 rfl (tX6_aDay _ ha0 (zok_bd h (fun _ m2 h => ?_)))
      refine zi_iinc (pc' := 14) (v := (a2 + (1 : Int32))) X dX6_days_11 rfl 2 rfl rfl (by decide) [(2, .int (a2 + (1 : Int32))), (0, .ref (zad g a0)), (1, .int a1)] rfl ?_
      refine zi_goto (pc' := 2) X dX6_days_14 rfl ?_
      exact zi_sub X [1, 2, 0] _ rfl (ih a0 a1 (a2 + (1 : Int32)) (m2) ha0 h)
def fX6_days (a0 : Nat) (a1 : Int32) (μ : zMem) : Option (Unit × zMem) :=
  fX6_days_2 200 a0 a1 (0 : Int32) μ
set_option maxRecDepth 100000 in
set_option maxHeartbeats 4000000 in
theorem tX6_days (g : zG) {a0 : Nat} {a1 : Int32} {μ : zMem} {Q : Unit → zMem → Prop} (ha0 : zkd a0 = 6) (h : zok (fX6_days a0 a1 μ) Q) : zTv g yX6_days cX6_days 3 4 [.ref (zad g a0), .int a1] μ Q := by
  refine zTv_of RX6 (by decide) rfl (Nat.le_of_ble_eq_true rfl) ?_
  intro κ X hret
  unfold fX6_days at h
  refine zi_iconst (pc' := 1) (v := (0 : Int32)) X dX6_days_0 rfl rfl ?_
  refine zi_istore_n (pc' := 2) X dX6_days_1 rfl rfl (by decide) [(2, .int (0 : Int32)), (0, .ref (zad g a0)), (1, .int a1)] rfl ?_
  exact zi_sub X [1, 2, 0] _ rfl (lX6_days_2 X hret 200 a0 a1 (0 : Int32) (μ) ha0 h)
def fX6_drink_57 (k26 : Nat → Int32 → Int32 → zMem → Option (Int32 × zMem)) (a0 : Nat) (a3 : Int32) (a4 : Int32) (s0 : Int32) (μ : zMem) : Option (Int32 × zMem) :=
  if s0 = 0 then
    k26 a0 a3 (a4 + (1 : Int32)) μ
  else
    if a3 < 0 then
      k26 a0 a4 (a4 + (1 : Int32)) μ
    else
      zgd (zib a4 25) (
      zgd (zib a3 25) (
      if (μ (a0 + 5) (a3).toNatClampNeg) ≤ (μ (a0 + 5) (a4).toNatClampNeg) then
        k26 a0 a3 (a4 + (1 : Int32)) μ
      else
        k26 a0 a4 (a4 + (1 : Int32)) μ))
set_option maxRecDepth 100000 in
theorem lX6_drink_57 {g : zG} {κ : zK} (X : zC g κ RX6 cX6_drink 6 4) {Q : Int32 → zMem → Prop} (hret : ∀ pc lv r μ', decode cX6_drink pc = .ok (.ireturn, 1) → True → Q r μ' → zV g κ pc lv [.int r] μ') {k26 : Nat → Int32 → Int32 → zMem → Option (Int32 × zMem)} (hk26 : ∀ (a0 : Nat) (a3 : Int32) (a4 : Int32) (μ : zMem) (_ : zkd a0 = 6), zok (k26 a0 a3 a4 μ) Q → zV g κ 26 [(0, .ref (zad g a0)), (3, .int a3), (4, .int a4)] [] μ) : ∀ (a0 : Nat) (a3 : Int32) (a4 : Int32) (s0 : Int32) (μ : zMem) (ha0 : zkd a0 = 6), zok (fX6_drink_57 k26 a0 a3 a4 s0 μ) Q → zV g κ 57 [(0, .ref (zad g a0)), (3, .int a3), (4, .int a4)] [.int s0] μ := by
  intro a0 a3 a4 s0 μ ha0 h
  unfold fX6_drink_57 at h
  refine zi_istore (pc' := 59) X dX6_drink_57 rfl (by decide) [(5, .int s0), (0, .ref (zad g a0)), (3, .int a3), (4, .int a4)] rfl ?_
  refine zi_iload (pc' := 61) X dX6_drink_59 rfl 0 rfl ?_
  refine zi_if_eq (pc' := 64) (tgt := 89) X dX6_drink_61 rfl rfl (fun c => ?_) (fun c => ?_)
  · replace h := zok_t h c
    refine zi_iload_n (pc' := 90) X dX6_drink_89 rfl rfl 2 rfl ?_
    refine zi_istore_n (pc' := 91) X dX6_drink_90 rfl rfl (by decide) [(3, .int a3), (5, .int s0), (0, .ref (zad g a0)), (4, .int a4)] rfl ?_
    refine zi_iinc (pc' := 94) (v := (a4 + (1 : Int32))) X dX6_drink_91 rfl 3 rfl rfl (by decide) [(4, .int (a4 + (1 : Int32))), (3, .int a3), (5, .int s0), (0, .ref (zad g a0))] rfl ?_
    refine zi_goto (pc' := 26) X dX6_drink_94 rfl ?_
    exact zi_sub X [3, 1, 0] _ rfl (hk26 a0 a3 (a4 + (1 : Int32)) (μ) ha0 h)
  · replace h := zok_f h c
    refine zi_iload_n (pc' := 65) X dX6_drink_64 rfl rfl 2 rfl ?_
    refine zi_if_lt (pc' := 68) (tgt := 84) X dX6_drink_65 rfl rfl (fun c => ?_) (fun c => ?_)
    · replace h := zok_t h c
      refine zi_iload (pc' := 86) X dX6_drink_84 rfl 3 rfl ?_
      refine zi_goto (pc' := 90) X dX6_drink_86 rfl ?_
      refine zi_istore_n (pc' := 91) X dX6_drink_90 rfl rfl (by decide) [(3, .int a4), (5, .int s0), (0, .ref (zad g a0)), (4, .int a4)] rfl ?_
      refine zi_iinc (pc' := 94) (v := (a4 + (1 : Int32))) X dX6_drink_91 rfl 3 rfl rfl (by decide) [(4, .int (a4 + (1 : Int32))), (3, .int a4), (5, .int s0), (0, .ref (zad g a0))] rfl ?_
      refine zi_goto (pc' := 26) X dX6_drink_94 rfl ?_
      exact zi_sub X [3, 1, 0] _ rfl (hk26 a0 a4 (a4 + (1 : Int32)) (μ) ha0 h)
    · replace h := zok_f h c
      refine zi_aload_n (pc' := 69) X dX6_drink_68 rfl rfl 1 rfl ?_
      refine zi_getr (pc' := 72) X zf_X6_22 rfl (by decide) ha0 dX6_drink_69 rfl ?_
      have f9 := zr_6_5 ha0
      refine zi_iload (pc' := 74) X dX6_drink_72 rfl 3 rfl ?_
      obtain ⟨g10, h⟩ := zok_g h
      refine zi_iald (pc' := 75) X f9.1 (by rw [f9.2]; exact g10) dX6_drink_74 rfl ?_
      refine zi_aload_n (pc' := 76) X dX6_drink_75 rfl rfl 1 rfl ?_
      refine zi_getr (pc' := 79) X zf_X6_22 rfl (by decide) ha0 dX6_drink_76 rfl ?_
      have f11 := zr_6_5 ha0
      refine zi_iload_n (pc' := 80) X dX6_drink_79 rfl rfl 2 rfl ?_
      obtain ⟨g12, h⟩ := zok_g h
      refine zi_iald (pc' := 81) X f11.1 (by rw [f11.2]; exact g12) dX6_drink_80 rfl ?_
      refine zi_icmp_ge (pc' := 84) (tgt := 89) X dX6_drink_81 rfl rfl (fun c => ?_) (fun c => ?_)
      · replace h := zok_t h c
        refine zi_iload_n (pc' := 90) X dX6_drink_89 rfl rfl 2 rfl ?_
        refine zi_istore_n (pc' := 91) X dX6_drink_90 rfl rfl (by decide) [(3, .int a3), (5, .int s0), (0, .ref (zad g a0)), (4, .int a4)] rfl ?_
        refine zi_iinc (pc' := 94) (v := (a4 + (1 : Int32))) X dX6_drink_91 rfl 3 rfl rfl (by decide) [(4, .int (a4 + (1 : Int32))), (3, .int a3), (5, .int s0), (0, .ref (zad g a0))] rfl ?_
        refine zi_goto (pc' := 26) X dX6_drink_94 rfl ?_
        exact zi_sub X [3, 1, 0] _ rfl (hk26 a0 a3 (a4 + (1 : Int32)) (μ) ha0 h)
      · replace h := zok_f h c
        refine zi_iload (pc' := 86) X dX6_drink_84 rfl 3 rfl ?_
        refine zi_goto (pc' := 90) X dX6_drink_86 rfl ?_
        refine zi_istore_n (pc' := 91) X dX6_drink_90 rfl rfl (by decide) [(3, .int a4), (5, .int s0), (0, .ref (zad g a0)), (4, .int a4)] rfl ?_
        refine zi_iinc (pc' := 94) (v := (a4 + (1 : Int32))) X dX6_drink_91 rfl 3 rfl rfl (by decide) [(4, .int (a4 + (1 : Int32))), (3, .int a4), (5, .int s0), (0, .ref (zad g a0))] rfl ?_
        refine zi_goto (pc' := 26) X dX6_drink_94 rfl ?_
        exact zi_sub X [3, 1, 0] _ rfl (hk26 a0 a4 (a4 + (1 : Int32)) (μ) ha0 h)
def fX6_drink_26 : Nat → Nat → Int32 → Int32 → zMem → Option (Int32 × zMem)
  | 0, _, _, _, _ => none
  | n + 1, a0, a3, a4, μ =>
    if (25 : Int32) ≤ a4 then
      if 0 ≤ a3 then
        some (a3, μ)
      else
        zbd (fX6_finds a0 (3 : Int32) μ) fun r5 m6 =>
        some (r5, m6)
    else
      zbd (fX6_hasSpring a0 a4 μ) fun r7 m8 =>
      if r7 = 0 then
        fX6_drink_57 (fX6_drink_26 n) a0 a3 a4 (0 : Int32) m8
      else
        zgd (zib a4 25) (
        if (m8 (a0 + 5) (a4).toNatClampNeg) < 0 then
          fX6_drink_57 (fX6_drink_26 n) a0 a3 a4 (0 : Int32) m8
        else
          fX6_drink_57 (fX6_drink_26 n) a0 a3 a4 (1 : Int32) m8)
set_option maxRecDepth 100000 in
theorem lX6_drink_26 {g : zG} {κ : zK} (X : zC g κ RX6 cX6_drink 6 4) {Q : Int32 → zMem → Prop} (hret : ∀ pc lv r μ', decode cX6_drink pc = .ok (.ireturn, 1) → True → Q r μ' → zV g κ pc lv [.int r] μ') : ∀ (n : Nat) (a0 : Nat) (a3 : Int32) (a4 : Int32) (μ : zMem) (ha0 : zkd a0 = 6), zok (fX6_drink_26 n a0 a3 a4 μ) Q → zV g κ 26 [(0, .ref (zad g a0)), (3, .int a3), (4, .int a4)] [] μ := by
  intro n
  induction n with
  | zero =>
    intro a0 a3 a4 μ ha0 h
    exact h.elim
  | succ n ih =>
    intro a0 a3 a4 μ ha0 h
    rw [fX6_drink_26] at h
    refine zi_iload (pc' := 28) X dX6_drink_26 rfl 2 rfl ?_
    refine zi_bipush (pc' := 30) (v := (25 : Int32)) X dX6_drink_28 rfl rfl ?_
    refine zi_icmp_ge (pc' := 33) (tgt := 97) X dX6_drink_30 rfl rfl (fun c => ?_) (fun c => ?_)
    · replace h := zok_t h c
      refine zi_iload_n (pc' := 98) X dX6_drink_97 rfl rfl 1 rfl ?_
      refine zi_if_ge (pc' := 101) (tgt := 109) X dX6_drink_98 rfl rfl (fun c => ?_) (fun c => ?_)
      · replace h := zok_t h c
        refine zi_iload_n (pc' := 110) X dX6_drink_109 rfl rfl 1 rfl ?_
        exact hret _ _ _ _ dX6_drink_110 trivial h
      · replace h := zok_f h c
        refine zi_aload_n (pc' := 102) X dX6_drink_101 rfl rfl 0 rfl ?_
        refine zi_iconst (pc' := 103) (v := (3 : Int32)) X dX6_drink_102 rfl rfl ?_
        refine zi_callVi (pc' := 106) X zl_X6_93 ha0 (by decide) [.int (3 : Int32)] rfl rfl (by decide) (Nat.le_of_ble_eq_true rfl) dX6_drink_103 rfl (tX6_finds _ ha0 (zok_bd h (fun r5 m6 h => ?_)))
        refine zi_goto (pc' := 110) X dX6_drink_106 rfl ?_
        exact hret _ _ _ _ dX6_drink_110 trivial h
    · replace h := zok_f h c
      refine zi_aload_n (pc' := 34) X dX6_drink_33 rfl rfl 0 rfl ?_
      refine zi_iload (pc' := 36) X dX6_drink_34 rfl 2 rfl ?_
      refine zi_callVi (pc' := 39) X zl_X6_96 ha0 (by decide) [.int a4] rfl rfl (by decide) (Nat.le_of_ble_eq_true rfl) dX6_drink_36 rfl (tX6_hasSpring _ ha0 (zok_bd h (fun r7 m8 h => ?_)))
      refine zi_if_eq (pc' := 42) (tgt := 56) X dX6_drink_39 rfl rfl (fun c => ?_) (fun c => ?_)
      · replace h := zok_t h c
        refine zi_iconst (pc' := 57) (v := (0 : Int32)) X dX6_drink_56 rfl rfl ?_
        exact zi_sub X [0, 1, 2] _ rfl (lX6_drink_57 X hret ih a0 a3 a4 (0 : Int32) (m8) ha0 h)
      · replace h := zok_f h c
        refine zi_aload_n (pc' := 43) X dX6_drink_42 rfl rfl 0 rfl ?_
        refine zi_getr (pc' := 46) X zf_X6_22 rfl (by decide) ha0 dX6_drink_43 rfl ?_
        have f13 := zr_6_5 ha0
        refine zi_iload (pc' := 48) X dX6_drink_46 rfl 2 rfl ?_
        obtain ⟨g14, h⟩ := zok_g h
        refine zi_iald (pc' := 49) X f13.1 (by rw [f13.2]; exact g14) dX6_drink_48 rfl ?_
        refine zi_if_lt (pc' := 52) (tgt := 56) X dX6_drink_49 rfl rfl (fun c => ?_) (fun c => ?_)
        · replace h := zok_t h c
          refine zi_iconst (pc' := 57) (v := (0 : Int32)) X dX6_drink_56 rfl rfl ?_
          exact zi_sub X [0, 1, 2] _ rfl (lX6_drink_57 X hret ih a0 a3 a4 (0 : Int32) (m8) ha0 h)
        · replace h := zok_f h c
          refine zi_iconst (pc' := 53) (v := (1 : Int32)) X dX6_drink_52 rfl rfl ?_
          refine zi_goto (pc' := 57) X dX6_drink_53 rfl ?_
          exact zi_sub X [0, 1, 2] _ rfl (lX6_drink_57 X hret ih a0 a3 a4 (1 : Int32) (m8) ha0 h)
def fX6_drink (a0 : Nat) (a1 : Int32) (a2 : Int32) (μ : zMem) : Option (Int32 × zMem) :=
  zbd (fX6_areWay a1 a1 a2 μ) fun r1 m2 =>
  if r1 = 0 then
    zbd (fX6_finds a0 (0 : Int32) m2) fun r15 m16 =>
    some (r15, m16)
  else
    zbd (fX6_walk a0 a1 a2 m2) fun _ m4 =>
    fX6_drink_26 200 a0 (-1 : Int32) (0 : Int32) m4
set_option maxRecDepth 100000 in
set_option maxHeartbeats 4000000 in
theorem tX6_drink (g : zG) {a0 : Nat} {a1 : Int32} {a2 : Int32} {μ : zMem} {Q : Int32 → zMem → Prop} (ha0 : zkd a0 = 6) (h : zok (fX6_drink a0 a1 a2 μ) Q) : zTi g yX6_drink cX6_drink 6 .int 4 [.ref (zad g a0), .int a1, .int a2] μ Q := by
  refine zTi_of (P := fun r => True) zpi RX6 (by decide) rfl (Nat.le_of_ble_eq_true rfl) ?_
  intro κ X hret
  unfold fX6_drink at h
  refine zi_iload_n (pc' := 1) X dX6_drink_0 rfl rfl 1 rfl ?_
  refine zi_iload_n (pc' := 2) X dX6_drink_1 rfl rfl 1 rfl ?_
  refine zi_iload_n (pc' := 3) X dX6_drink_2 rfl rfl 2 rfl ?_
  refine zi_callSi (pc' := 6) X zl_X6_183 [.int a1, .int a1, .int a2] rfl rfl (by decide) (Nat.le_of_ble_eq_true rfl) dX6_drink_3 rfl (tX6_areWay _ (zok_bd h (fun r1 m2 h => ?_)))
  refine zi_if_ne (pc' := 9) (tgt := 15) X dX6_drink_6 rfl rfl (fun c => ?_) (fun c => ?_)
  · replace h := zok_f h c
    refine zi_aload_n (pc' := 16) X dX6_drink_15 rfl rfl 0 rfl ?_
    refine zi_iload_n (pc' := 17) X dX6_drink_16 rfl rfl 1 rfl ?_
    refine zi_iload_n (pc' := 18) X dX6_drink_17 rfl rfl 2 rfl ?_
    refine zi_callVv (pc' := 21) X zl_X6_186 ha0 (by decide) [.int a1, .int a2] rfl rfl (by decide) (Nat.le_of_ble_eq_true rfl) dX6_drink_18 rfl (tX6_walk _ ha0 (zok_bd h (fun _ m4 h => ?_)))
    refine zi_iconst (pc' := 22) (v := (-1 : Int32)) X dX6_drink_21 rfl rfl ?_
    refine zi_istore_n (pc' := 23) X dX6_drink_22 rfl rfl (by decide) [(3, .int (-1 : Int32)), (0, .ref (zad g a0)), (1, .int a1), (2, .int a2)] rfl ?_
    refine zi_iconst (pc' := 24) (v := (0 : Int32)) X dX6_drink_23 rfl rfl ?_
    refine zi_istore (pc' := 26) X dX6_drink_24 rfl (by decide) [(4, .int (0 : Int32)), (3, .int (-1 : Int32)), (0, .ref (zad g a0)), (1, .int a1), (2, .int a2)] rfl ?_
    exact zi_sub X [2, 1, 0] _ rfl (lX6_drink_26 X hret 200 a0 (-1 : Int32) (0 : Int32) (m4) ha0 h)
  · replace h := zok_t h c
    refine zi_aload_n (pc' := 10) X dX6_drink_9 rfl rfl 0 rfl ?_
    refine zi_iconst (pc' := 11) (v := (0 : Int32)) X dX6_drink_10 rfl rfl ?_
    refine zi_callVi (pc' := 14) X zl_X6_93 ha0 (by decide) [.int (0 : Int32)] rfl rfl (by decide) (Nat.le_of_ble_eq_true rfl) dX6_drink_11 rfl (tX6_finds _ ha0 (zok_bd h (fun r15 m16 h => ?_)))
    exact hret _ _ _ _ dX6_drink_14 trivial h
def fX6_isThrough (a0 : Nat) (a1 : Int32) (a2 : Int32) (a3 : Int32) (μ : zMem) : Option (Int32 × zMem) :=
  zbd (fX6_walk a0 a1 a3 μ) fun _ m2 =>
  zgd (zib a2 25) (
  if (m2 (a0 + 5) (a2).toNatClampNeg) < 0 then
    some ((0 : Int32), m2)
  else
    some ((1 : Int32), m2))
set_option maxRecDepth 100000 in
set_option maxHeartbeats 4000000 in
theorem tX6_isThrough (g : zG) {a0 : Nat} {a1 : Int32} {a2 : Int32} {a3 : Int32} {μ : zMem} {Q : Int32 → zMem → Prop} (ha0 : zkd a0 = 6) (h : zok (fX6_isThrough a0 a1 a2 a3 μ) Q) : zTi g yX6_isThrough cX6_isThrough 4 .boolean 4 [.ref (zad g a0), .int a1, .int a2, .int a3] μ Q := by
  refine zTi_of (P := fun r => r = 0 ∨ r = 1) zpb RX6 (by decide) rfl (Nat.le_of_ble_eq_true rfl) ?_
  intro κ X hret
  unfold fX6_isThrough at h
  refine zi_aload_n (pc' := 1) X dX6_isThrough_0 rfl rfl 0 rfl ?_
  refine zi_iload_n (pc' := 2) X dX6_isThrough_1 rfl rfl 1 rfl ?_
  refine zi_iload_n (pc' := 3) X dX6_isThrough_2 rfl rfl 3 rfl ?_
  refine zi_callVv (pc' := 6) X zl_X6_186 ha0 (by decide) [.int a1, .int a3] rfl rfl (by decide) (Nat.le_of_ble_eq_true rfl) dX6_isThrough_3 rfl (tX6_walk _ ha0 (zok_bd h (fun _ m2 h => ?_)))
  refine zi_aload_n (pc' := 7) X dX6_isThrough_6 rfl rfl 0 rfl ?_
  refine zi_getr (pc' := 10) X zf_X6_22 rfl (by decide) ha0 dX6_isThrough_7 rfl ?_
  have f3 := zr_6_5 ha0
  refine zi_iload_n (pc' := 11) X dX6_isThrough_10 rfl rfl 2 rfl ?_
  obtain ⟨g4, h⟩ := zok_g h
  refine zi_iald (pc' := 12) X f3.1 (by rw [f3.2]; exact g4) dX6_isThrough_11 rfl ?_
  refine zi_if_lt (pc' := 15) (tgt := 19) X dX6_isThrough_12 rfl rfl (fun c => ?_) (fun c => ?_)
  · replace h := zok_t h c
    refine zi_iconst (pc' := 20) (v := (0 : Int32)) X dX6_isThrough_19 rfl rfl ?_
    exact hret _ _ _ _ dX6_isThrough_20 (by decide) h
  · replace h := zok_f h c
    refine zi_iconst (pc' := 16) (v := (1 : Int32)) X dX6_isThrough_15 rfl rfl ?_
    refine zi_goto (pc' := 20) X dX6_isThrough_16 rfl ?_
    exact hret _ _ _ _ dX6_isThrough_20 (by decide) h
def fX6_isWord_31 : Nat → Nat → Nat → Int32 → Int32 → zMem → Option (Int32 × zMem)
  | 0, _, _, _, _, _ => none
  | n + 1, a0, a1, a2, a3, μ =>
    if a2 = 0 then
      zgd (a2 = 0 ∨ a2 = 1) (
      some (a2, μ))
    else
      zgd (a1 < 27) (
      if (zsn a1) ≤ a3 then
        zgd (a2 = 0 ∨ a2 = 1) (
        some (a2, μ))
      else
        zgd (zib ((μ a0 9) + a3) 120) (
        zgd (a1 < 27 ∧ zib a3 (zsb a1).length) (
        if (μ (a0 + 7) (((μ a0 9) + a3)).toNatClampNeg) = (zsc a1 a3) then
          fX6_isWord_31 n a0 a1 (1 : Int32) (a3 + (1 : Int32)) μ
        else
          fX6_isWord_31 n a0 a1 (0 : Int32) (a3 + (1 : Int32)) μ)))
set_option maxRecDepth 100000 in
theorem lX6_isWord_31 {g : zG} {κ : zK} (X : zC g κ RX6 cX6_isWord 4 4) {Q : Int32 → zMem → Prop} (hret : ∀ pc lv r μ', decode cX6_isWord pc = .ok (.ireturn, 1) → (r = 0 ∨ r = 1) → Q r μ' → zV g κ pc lv [.int r] μ') : ∀ (n : Nat) (a0 : Nat) (a1 : Nat) (a2 : Int32) (a3 : Int32) (μ : zMem) (ha0 : zkd a0 = 6), zok (fX6_isWord_31 n a0 a1 a2 a3 μ) Q → zV g κ 31 [(0, .ref (zad g a0)), (1, .ref (zak g a1)), (2, .int a2), (3, .int a3)] [] μ := by
  intro n
  induction n with
  | zero =>
    intro a0 a1 a2 a3 μ ha0 h
    exact h.elim
  | succ n ih =>
    intro a0 a1 a2 a3 μ ha0 h
    rw [fX6_isWord_31] at h
    refine zi_iload_n (pc' := 32) X dX6_isWord_31 rfl rfl 2 rfl ?_
    refine zi_if_eq (pc' := 35) (tgt := 74) X dX6_isWord_32 rfl rfl (fun c => ?_) (fun c => ?_)
    · replace h := zok_t h c
      refine zi_iload_n (pc' := 75) X dX6_isWord_74 rfl rfl 2 rfl ?_
      obtain ⟨g1, h⟩ := zok_g h
      exact hret _ _ _ _ dX6_isWord_75 g1 h
    · replace h := zok_f h c
      refine zi_iload_n (pc' := 36) X dX6_isWord_35 rfl rfl 3 rfl ?_
      refine zi_aload_n (pc' := 37) X dX6_isWord_36 rfl rfl 1 rfl ?_
      obtain ⟨g2, h⟩ := zok_g h
      refine zi_slen (pc' := 40) X zl_X6_262 g2 (Nat.le_of_ble_eq_true rfl) (by decide) dX6_isWord_37 rfl ?_
      refine zi_icmp_ge (pc' := 43) (tgt := 74) X dX6_isWord_40 rfl rfl (fun c => ?_) (fun c => ?_)
      · replace h := zok_t h c
        refine zi_iload_n (pc' := 75) X dX6_isWord_74 rfl rfl 2 rfl ?_
        obtain ⟨g3, h⟩ := zok_g h
        exact hret _ _ _ _ dX6_isWord_75 g3 h
      · replace h := zok_f h c
        refine zi_aload_n (pc' := 44) X dX6_isWord_43 rfl rfl 0 rfl ?_
        refine zi_getr (pc' := 47) X zf_X6_28 rfl (by decide) ha0 dX6_isWord_44 rfl ?_
        have f4 := zr_6_7 ha0
        refine zi_aload_n (pc' := 48) X dX6_isWord_47 rfl rfl 0 rfl ?_
        refine zi_geti (pc' := 51) X zf_X6_252 rfl (by decide) ha0 dX6_isWord_48 rfl ?_
        refine zi_iload_n (pc' := 52) X dX6_isWord_51 rfl rfl 3 rfl ?_
        refine zi_iadd (pc' := 53) X dX6_isWord_52 rfl ?_
        obtain ⟨g5, h⟩ := zok_g h
        refine zi_iald (pc' := 54) X f4.1 (by rw [f4.2]; exact g5) dX6_isWord_53 rfl ?_
        refine zi_aload_n (pc' := 55) X dX6_isWord_54 rfl rfl 1 rfl ?_
        refine zi_iload_n (pc' := 56) X dX6_isWord_55 rfl rfl 3 rfl ?_
        obtain ⟨g6, h⟩ := zok_g h
        refine zi_scharAt (pc' := 59) X zl_X6_267 g6.1 g6.2 (Nat.le_of_ble_eq_true rfl) (by decide) dX6_isWord_56 rfl ?_
        refine zi_icmp_ne (pc' := 62) (tgt := 66) X dX6_isWord_59 rfl rfl (fun c => ?_) (fun c => ?_)
        · replace h := zok_f h c
          refine zi_iconst (pc' := 67) (v := (0 : Int32)) X dX6_isWord_66 rfl rfl ?_
          refine zi_istore_n (pc' := 68) X dX6_isWord_67 rfl rfl (by decide) [(2, .int (0 : Int32)), (0, .ref (zad g a0)), (1, .ref (zak g a1)), (3, .int a3)] rfl ?_
          refine zi_iinc (pc' := 71) (v := (a3 + (1 : Int32))) X dX6_isWord_68 rfl 3 rfl rfl (by decide) [(3, .int (a3 + (1 : Int32))), (2, .int (0 : Int32)), (0, .ref (zad g a0)), (1, .ref (zak g a1))] rfl ?_
          refine zi_goto (pc' := 31) X dX6_isWord_71 rfl ?_
          exact zi_sub X [2, 3, 1, 0] _ rfl (ih a0 a1 (0 : Int32) (a3 + (1 : Int32)) (μ) ha0 h)
        · replace h := zok_t h c
          refine zi_iconst (pc' := 63) (v := (1 : Int32)) X dX6_isWord_62 rfl rfl ?_
          refine zi_goto (pc' := 67) X dX6_isWord_63 rfl ?_
          refine zi_istore_n (pc' := 68) X dX6_isWord_67 rfl rfl (by decide) [(2, .int (1 : Int32)), (0, .ref (zad g a0)), (1, .ref (zak g a1)), (3, .int a3)] rfl ?_
          refine zi_iinc (pc' := 71) (v := (a3 + (1 : Int32))) X dX6_isWord_68 rfl 3 rfl rfl (by decide) [(3, .int (a3 + (1 : Int32))), (2, .int (1 : Int32)), (0, .ref (zad g a0)), (1, .ref (zak g a1))] rfl ?_
          refine zi_goto (pc' := 31) X dX6_isWord_71 rfl ?_
          exact zi_sub X [2, 3, 1, 0] _ rfl (ih a0 a1 (1 : Int32) (a3 + (1 : Int32)) (μ) ha0 h)
def fX6_isWord (a0 : Nat) (a1 : Nat) (μ : zMem) : Option (Int32 × zMem) :=
  if (μ a0 11) = 0 then
    zgd (a1 < 27) (
    if ((μ a0 10) - (μ a0 9)) = (zsn a1) then
      fX6_isWord_31 200 a0 a1 (1 : Int32) (0 : Int32) μ
    else
      fX6_isWord_31 200 a0 a1 (0 : Int32) (0 : Int32) μ)
  else
    fX6_isWord_31 200 a0 a1 (0 : Int32) (0 : Int32) μ
set_option maxRecDepth 100000 in
set_option maxHeartbeats 4000000 in
theorem tX6_isWord (g : zG) {a0 : Nat} {a1 : Nat} {μ : zMem} {Q : Int32 → zMem → Prop} (ha0 : zkd a0 = 6) (h : zok (fX6_isWord a0 a1 μ) Q) : zTi g yX6_isWord cX6_isWord 4 .boolean 4 [.ref (zad g a0), .ref (zak g a1)] μ Q := by
  refine zTi_of (P := fun r => r = 0 ∨ r = 1) zpb RX6 (by decide) rfl (Nat.le_of_ble_eq_true rfl) ?_
  intro κ X hret
  unfold fX6_isWord at h
  refine zi_aload_n (pc' := 1) X dX6_isWord_0 rfl rfl 0 rfl ?_
  refine zi_geti (pc' := 4) X zf_X6_258 rfl (by decide) ha0 dX6_isWord_1 rfl ?_
  refine zi_if_ne (pc' := 7) (tgt := 27) X dX6_isWord_4 rfl rfl (fun c => ?_) (fun c => ?_)
  · replace h := zok_f h c
    refine zi_iconst (pc' := 28) (v := (0 : Int32)) X dX6_isWord_27 rfl rfl ?_
    refine zi_istore_n (pc' := 29) X dX6_isWord_28 rfl rfl (by decide) [(2, .int (0 : Int32)), (0, .ref (zad g a0)), (1, .ref (zak g a1))] rfl ?_
    refine zi_iconst (pc' := 30) (v := (0 : Int32)) X dX6_isWord_29 rfl rfl ?_
    refine zi_istore_n (pc' := 31) X dX6_isWord_30 rfl rfl (by decide) [(3, .int (0 : Int32)), (2, .int (0 : Int32)), (0, .ref (zad g a0)), (1, .ref (zak g a1))] rfl ?_
    exact zi_sub X [2, 3, 1, 0] _ rfl (lX6_isWord_31 X hret 200 a0 a1 (0 : Int32) (0 : Int32) (μ) ha0 h)
  · replace h := zok_t h c
    refine zi_aload_n (pc' := 8) X dX6_isWord_7 rfl rfl 0 rfl ?_
    refine zi_geti (pc' := 11) X zf_X6_249 rfl (by decide) ha0 dX6_isWord_8 rfl ?_
    refine zi_aload_n (pc' := 12) X dX6_isWord_11 rfl rfl 0 rfl ?_
    refine zi_geti (pc' := 15) X zf_X6_252 rfl (by decide) ha0 dX6_isWord_12 rfl ?_
    refine zi_isub (pc' := 16) X dX6_isWord_15 rfl ?_
    refine zi_aload_n (pc' := 17) X dX6_isWord_16 rfl rfl 1 rfl ?_
    obtain ⟨g7, h⟩ := zok_g h
    refine zi_slen (pc' := 20) X zl_X6_262 g7 (Nat.le_of_ble_eq_true rfl) (by decide) dX6_isWord_17 rfl ?_
    refine zi_icmp_ne (pc' := 23) (tgt := 27) X dX6_isWord_20 rfl rfl (fun c => ?_) (fun c => ?_)
    · replace h := zok_f h c
      refine zi_iconst (pc' := 28) (v := (0 : Int32)) X dX6_isWord_27 rfl rfl ?_
      refine zi_istore_n (pc' := 29) X dX6_isWord_28 rfl rfl (by decide) [(2, .int (0 : Int32)), (0, .ref (zad g a0)), (1, .ref (zak g a1))] rfl ?_
      refine zi_iconst (pc' := 30) (v := (0 : Int32)) X dX6_isWord_29 rfl rfl ?_
      refine zi_istore_n (pc' := 31) X dX6_isWord_30 rfl rfl (by decide) [(3, .int (0 : Int32)), (2, .int (0 : Int32)), (0, .ref (zad g a0)), (1, .ref (zak g a1))] rfl ?_
      exact zi_sub X [2, 3, 1, 0] _ rfl (lX6_isWord_31 X hret 200 a0 a1 (0 : Int32) (0 : Int32) (μ) ha0 h)
    · replace h := zok_t h c
      refine zi_iconst (pc' := 24) (v := (1 : Int32)) X dX6_isWord_23 rfl rfl ?_
      refine zi_goto (pc' := 28) X dX6_isWord_24 rfl ?_
      refine zi_istore_n (pc' := 29) X dX6_isWord_28 rfl rfl (by decide) [(2, .int (1 : Int32)), (0, .ref (zad g a0)), (1, .ref (zak g a1))] rfl ?_
      refine zi_iconst (pc' := 30) (v := (0 : Int32)) X dX6_isWord_29 rfl rfl ?_
      refine zi_istore_n (pc' := 31) X dX6_isWord_30 rfl rfl (by decide) [(3, .int (0 : Int32)), (2, .int (1 : Int32)), (0, .ref (zad g a0)), (1, .ref (zak g a1))] rfl ?_
      exact zi_sub X [2, 3, 1, 0] _ rfl (lX6_isWord_31 X hret 200 a0 a1 (1 : Int32) (0 : Int32) (μ) ha0 h)
def fX6_judge_60 (a0 : Nat) (a1 : Int32) (a4 : Int32) (μ : zMem) : Option (Int32 × zMem) :=
  zgd (zib a1 4) (
  if a4 = (μ (a0 + 9) (a1).toNatClampNeg) then
    some ((0 : Int32), μ)
  else
    some ((a4 + (1 : Int32)), μ))
set_option maxRecDepth 100000 in
theorem lX6_judge_60 {g : zG} {κ : zK} (X : zC g κ RX6 cX6_judge 5 4) {Q : Int32 → zMem → Prop} (hret : ∀ pc lv r μ', decode cX6_judge pc = .ok (.ireturn, 1) → True → Q r μ' → zV g κ pc lv [.int r] μ') : ∀ (a0 : Nat) (a1 : Int32) (a4 : Int32) (μ : zMem) (ha0 : zkd a0 = 6), zok (fX6_judge_60 a0 a1 a4 μ) Q → zV g κ 60 [(0, .ref (zad g a0)), (1, .int a1), (4, .int a4)] [] μ := by
  intro a0 a1 a4 μ ha0 h
  unfold fX6_judge_60 at h
  refine zi_iload (pc' := 62) X dX6_judge_60 rfl 2 rfl ?_
  refine zi_aload_n (pc' := 63) X dX6_judge_62 rfl rfl 0 rfl ?_
  refine zi_getr (pc' := 66) X zf_X6_34 rfl (by decide) ha0 dX6_judge_63 rfl ?_
  have f7 := zr_6_13 ha0
  refine zi_iload_n (pc' := 67) X dX6_judge_66 rfl rfl 1 rfl ?_
  obtain ⟨g8, h⟩ := zok_g h
  refine zi_iald (pc' := 68) X f7.1 (by rw [f7.2]; exact g8) dX6_judge_67 rfl ?_
  refine zi_icmp_ne (pc' := 71) (tgt := 75) X dX6_judge_68 rfl rfl (fun c => ?_) (fun c => ?_)
  · replace h := zok_f h c
    refine zi_iload (pc' := 77) X dX6_judge_75 rfl 2 rfl ?_
    refine zi_iconst (pc' := 78) (v := (1 : Int32)) X dX6_judge_77 rfl rfl ?_
    refine zi_iadd (pc' := 79) X dX6_judge_78 rfl ?_
    exact hret _ _ _ _ dX6_judge_79 trivial h
  · replace h := zok_t h c
    refine zi_iconst (pc' := 72) (v := (0 : Int32)) X dX6_judge_71 rfl rfl ?_
    refine zi_goto (pc' := 79) X dX6_judge_72 rfl ?_
    exact hret _ _ _ _ dX6_judge_79 trivial h
def fX6_judge_32 : Nat → Nat → Int32 → Int32 → Int32 → zMem → Option (Int32 × zMem)
  | 0, _, _, _, _, _ => none
  | n + 1, a0, a1, a2, a4, μ =>
    zgd (zib a1 4) (
    if (μ (a0 + 9) (a1).toNatClampNeg) ≤ a4 then
      fX6_judge_60 a0 a1 a4 μ
    else
      zbd (fX6_goesOn a0 a1 a4 a2 μ) fun r9 m10 =>
      if r9 = 0 then
        fX6_judge_60 a0 a1 a4 m10
      else
        fX6_judge_32 n a0 a1 a2 (a4 + (1 : Int32)) m10)
set_option maxRecDepth 100000 in
theorem lX6_judge_32 {g : zG} {κ : zK} (X : zC g κ RX6 cX6_judge 5 4) {Q : Int32 → zMem → Prop} (hret : ∀ pc lv r μ', decode cX6_judge pc = .ok (.ireturn, 1) → True → Q r μ' → zV g κ pc lv [.int r] μ') : ∀ (n : Nat) (a0 : Nat) (a1 : Int32) (a2 : Int32) (a4 : Int32) (μ : zMem) (ha0 : zkd a0 = 6), zok (fX6_judge_32 n a0 a1 a2 a4 μ) Q → zV g κ 32 [(0, .ref (zad g a0)), (1, .int a1), (2, .int a2), (4, .int a4)] [] μ := by
  intro n
  induction n with
  | zero =>
    intro a0 a1 a2 a4 μ ha0 h
    exact h.elim
  | succ n ih =>
    intro a0 a1 a2 a4 μ ha0 h
    rw [fX6_judge_32] at h
    refine zi_iload (pc' := 34) X dX6_judge_32 rfl 3 rfl ?_
    refine zi_aload_n (pc' := 35) X dX6_judge_34 rfl rfl 0 rfl ?_
    refine zi_getr (pc' := 38) X zf_X6_34 rfl (by decide) ha0 dX6_judge_35 rfl ?_
    have f5 := zr_6_13 ha0
    refine zi_iload_n (pc' := 39) X dX6_judge_38 rfl rfl 1 rfl ?_
    obtain ⟨g6, h⟩ := zok_g h
    refine zi_iald (pc' := 40) X f5.1 (by rw [f5.2]; exact g6) dX6_judge_39 rfl ?_
    refine zi_icmp_ge (pc' := 43) (tgt := 60) X dX6_judge_40 rfl rfl (fun c => ?_) (fun c => ?_)
    · replace h := zok_t h c
      exact zi_sub X [0, 1, 3] _ rfl (lX6_judge_60 X hret a0 a1 a4 (μ) ha0 h)
    · replace h := zok_f h c
      refine zi_aload_n (pc' := 44) X dX6_judge_43 rfl rfl 0 rfl ?_
      refine zi_iload_n (pc' := 45) X dX6_judge_44 rfl rfl 1 rfl ?_
      refine zi_iload (pc' := 47) X dX6_judge_45 rfl 3 rfl ?_
      refine zi_iload_n (pc' := 48) X dX6_judge_47 rfl rfl 2 rfl ?_
      refine zi_callVi (pc' := 51) X zl_X6_338 ha0 (by decide) [.int a1, .int a4, .int a2] rfl rfl (by decide) (Nat.le_of_ble_eq_true rfl) dX6_judge_48 rfl (tX6_goesOn _ ha0 (zok_bd h (fun r9 m10 h => ?_)))
      refine zi_if_eq (pc' := 54) (tgt := 60) X dX6_judge_51 rfl rfl (fun c => ?_) (fun c => ?_)
      · replace h := zok_t h c
        exact zi_sub X [0, 1, 3] _ rfl (lX6_judge_60 X hret a0 a1 a4 (m10) ha0 h)
      · replace h := zok_f h c
        refine zi_iinc (pc' := 57) (v := (a4 + (1 : Int32))) X dX6_judge_54 rfl 3 rfl rfl (by decide) [(4, .int (a4 + (1 : Int32))), (0, .ref (zad g a0)), (1, .int a1), (2, .int a2)] rfl ?_
        refine zi_goto (pc' := 32) X dX6_judge_57 rfl ?_
        exact zi_sub X [1, 2, 3, 0] _ rfl (ih a0 a1 a2 (a4 + (1 : Int32)) (m10) ha0 h)
def fX6_judge (a0 : Nat) (a1 : Int32) (a2 : Int32) (μ : zMem) : Option (Int32 × zMem) :=
  zbd (fX6_lacks a0 a1 μ) fun r1 m2 =>
  if r1 < 0 then
    zbd (fX6_isHigh a2 m2) fun r3 m4 =>
    if r3 = 0 then
      zbd (fX6_finds a0 (0 : Int32) m4) fun r11 m12 =>
      some (r11, m12)
    else
      fX6_judge_32 200 a0 a1 a2 (0 : Int32) m4
  else
    zbd (fX6_finds a0 r1 m2) fun r13 m14 =>
    some (r13, m14)
set_option maxRecDepth 100000 in
set_option maxHeartbeats 4000000 in
theorem tX6_judge (g : zG) {a0 : Nat} {a1 : Int32} {a2 : Int32} {μ : zMem} {Q : Int32 → zMem → Prop} (ha0 : zkd a0 = 6) (h : zok (fX6_judge a0 a1 a2 μ) Q) : zTi g yX6_judge cX6_judge 5 .int 4 [.ref (zad g a0), .int a1, .int a2] μ Q := by
  refine zTi_of (P := fun r => True) zpi RX6 (by decide) rfl (Nat.le_of_ble_eq_true rfl) ?_
  intro κ X hret
  unfold fX6_judge at h
  refine zi_aload_n (pc' := 1) X dX6_judge_0 rfl rfl 0 rfl ?_
  refine zi_iload_n (pc' := 2) X dX6_judge_1 rfl rfl 1 rfl ?_
  refine zi_callVi (pc' := 5) X zl_X6_225 ha0 (by decide) [.int a1] rfl rfl (by decide) (Nat.le_of_ble_eq_true rfl) dX6_judge_2 rfl (tX6_lacks _ ha0 (zok_bd h (fun r1 m2 h => ?_)))
  refine zi_istore_n (pc' := 6) X dX6_judge_5 rfl rfl (by decide) [(3, .int r1), (0, .ref (zad g a0)), (1, .int a1), (2, .int a2)] rfl ?_
  refine zi_iload_n (pc' := 7) X dX6_judge_6 rfl rfl 0 rfl ?_
  refine zi_if_lt (pc' := 10) (tgt := 16) X dX6_judge_7 rfl rfl (fun c => ?_) (fun c => ?_)
  · replace h := zok_t h c
    refine zi_iload_n (pc' := 17) X dX6_judge_16 rfl rfl 3 rfl ?_
    refine zi_callSi (pc' := 20) X zl_X6_87 [.int a2] rfl rfl (by decide) (Nat.le_of_ble_eq_true rfl) dX6_judge_17 rfl (tX6_isHigh _ (zok_bd h (fun r3 m4 h => ?_)))
    refine zi_if_ne (pc' := 23) (tgt := 29) X dX6_judge_20 rfl rfl (fun c => ?_) (fun c => ?_)
    · replace h := zok_f h c
      refine zi_iconst (pc' := 30) (v := (0 : Int32)) X dX6_judge_29 rfl rfl ?_
      refine zi_istore (pc' := 32) X dX6_judge_30 rfl (by decide) [(4, .int (0 : Int32)), (3, .int r1), (0, .ref (zad g a0)), (1, .int a1), (2, .int a2)] rfl ?_
      exact zi_sub X [2, 3, 4, 0] _ rfl (lX6_judge_32 X hret 200 a0 a1 a2 (0 : Int32) (m4) ha0 h)
    · replace h := zok_t h c
      refine zi_aload_n (pc' := 24) X dX6_judge_23 rfl rfl 1 rfl ?_
      refine zi_iconst (pc' := 25) (v := (0 : Int32)) X dX6_judge_24 rfl rfl ?_
      refine zi_callVi (pc' := 28) X zl_X6_93 ha0 (by decide) [.int (0 : Int32)] rfl rfl (by decide) (Nat.le_of_ble_eq_true rfl) dX6_judge_25 rfl (tX6_finds _ ha0 (zok_bd h (fun r11 m12 h => ?_)))
      exact hret _ _ _ _ dX6_judge_28 trivial h
  · replace h := zok_f h c
    refine zi_aload_n (pc' := 11) X dX6_judge_10 rfl rfl 1 rfl ?_
    refine zi_iload_n (pc' := 12) X dX6_judge_11 rfl rfl 0 rfl ?_
    refine zi_callVi (pc' := 15) X zl_X6_93 ha0 (by decide) [.int r1] rfl rfl (by decide) (Nat.le_of_ble_eq_true rfl) dX6_judge_12 rfl (tX6_finds _ ha0 (zok_bd h (fun r13 m14 h => ?_)))
    exact hret _ _ _ _ dX6_judge_15 trivial h
def fX6_kinds_65 (k23 : Nat → Int32 → Int32 → Int32 → Int32 → zMem → Option (Int32 × zMem)) (a0 : Nat) (a1 : Int32) (a2 : Int32) (a5 : Int32) (s0 : Int32) (s1 : Int32) (μ : zMem) : Option (Int32 × zMem) :=
  zbd (fX6_laysBack a0 μ) fun _ m12 =>
  k23 a0 a1 a2 (s1 ||| s0) (a5 + (1 : Int32)) m12
set_option maxRecDepth 100000 in
theorem lX6_kinds_65 {g : zG} {κ : zK} (X : zC g κ RX6 cX6_kinds 6 4) {Q : Int32 → zMem → Prop} (hret : ∀ pc lv r μ', decode cX6_kinds pc = .ok (.ireturn, 1) → True → Q r μ' → zV g κ pc lv [.int r] μ') {k23 : Nat → Int32 → Int32 → Int32 → Int32 → zMem → Option (Int32 × zMem)} (hk23 : ∀ (a0 : Nat) (a1 : Int32) (a2 : Int32) (a4 : Int32) (a5 : Int32) (μ : zMem) (_ : zkd a0 = 6), zok (k23 a0 a1 a2 a4 a5 μ) Q → zV g κ 23 [(0, .ref (zad g a0)), (1, .int a1), (2, .int a2), (4, .int a4), (5, .int a5)] [] μ) : ∀ (a0 : Nat) (a1 : Int32) (a2 : Int32) (a5 : Int32) (s0 : Int32) (s1 : Int32) (μ : zMem) (ha0 : zkd a0 = 6), zok (fX6_kinds_65 k23 a0 a1 a2 a5 s0 s1 μ) Q → zV g κ 65 [(0, .ref (zad g a0)), (1, .int a1), (2, .int a2), (5, .int a5)] [.int s0, .int s1] μ := by
  intro a0 a1 a2 a5 s0 s1 μ ha0 h
  unfold fX6_kinds_65 at h
  refine zi_ior (pc' := 66) X dX6_kinds_65 rfl ?_
  refine zi_istore (pc' := 68) X dX6_kinds_66 rfl (by decide) [(4, .int (s1 ||| s0)), (0, .ref (zad g a0)), (1, .int a1), (2, .int a2), (5, .int a5)] rfl ?_
  refine zi_aload_n (pc' := 69) X dX6_kinds_68 rfl rfl 1 rfl ?_
  refine zi_callVv (pc' := 72) X zl_X6_194 ha0 (by decide) [] rfl rfl (by decide) (Nat.le_of_ble_eq_true rfl) dX6_kinds_69 rfl (tX6_laysBack _ ha0 (zok_bd h (fun _ m12 h => ?_)))
  refine zi_iinc (pc' := 75) (v := (a5 + (1 : Int32))) X dX6_kinds_72 rfl 4 rfl rfl (by decide) [(5, .int (a5 + (1 : Int32))), (4, .int (s1 ||| s0)), (0, .ref (zad g a0)), (1, .int a1), (2, .int a2)] rfl ?_
  refine zi_goto (pc' := 23) X dX6_kinds_75 rfl ?_
  exact zi_sub X [2, 3, 4, 1, 0] _ rfl (hk23 a0 a1 a2 (s1 ||| s0) (a5 + (1 : Int32)) (m12) ha0 h)
def fX6_kinds_23 : Nat → Nat → Int32 → Int32 → Int32 → Int32 → zMem → Option (Int32 × zMem)
  | 0, _, _, _, _, _, _ => none
  | n + 1, a0, a1, a2, a4, a5, μ =>
    if (6 : Int32) < a5 then
      some (a4, μ)
    else
      zbd (fX6_lends a0 μ) fun _ m4 =>
      zbd (fX6_sets a0 a2 (0 : Int32) a5 m4) fun _ m6 =>
      zbd (fX6_aDay a0 m6) fun _ m8 =>
      zbd (fX6_isSo a0 a1 a2 m8) fun r9 m10 =>
      if r9 = 0 then
        fX6_kinds_65 (fX6_kinds_23 n) a0 a1 a2 a5 (0 : Int32) a4 m10
      else
        fX6_kinds_65 (fX6_kinds_23 n) a0 a1 a2 a5 ((1 : Int32) <<< (a5 &&& 31)) a4 m10
set_option maxRecDepth 100000 in
theorem lX6_kinds_23 {g : zG} {κ : zK} (X : zC g κ RX6 cX6_kinds 6 4) {Q : Int32 → zMem → Prop} (hret : ∀ pc lv r μ', decode cX6_kinds pc = .ok (.ireturn, 1) → True → Q r μ' → zV g κ pc lv [.int r] μ') : ∀ (n : Nat) (a0 : Nat) (a1 : Int32) (a2 : Int32) (a4 : Int32) (a5 : Int32) (μ : zMem) (ha0 : zkd a0 = 6), zok (fX6_kinds_23 n a0 a1 a2 a4 a5 μ) Q → zV g κ 23 [(0, .ref (zad g a0)), (1, .int a1), (2, .int a2), (4, .int a4), (5, .int a5)] [] μ := by
  intro n
  induction n with
  | zero =>
    intro a0 a1 a2 a4 a5 μ ha0 h
    exact h.elim
  | succ n ih =>
    intro a0 a1 a2 a4 a5 μ ha0 h
    rw [fX6_kinds_23] at h
    refine zi_iload (pc' := 25) X dX6_kinds_23 rfl 4 rfl ?_
    refine zi_bipush (pc' := 27) (v := (6 : Int32)) X dX6_kinds_25 rfl rfl ?_
    refine zi_icmp_gt (pc' := 30) (tgt := 78) X dX6_kinds_27 rfl rfl (fun c => ?_) (fun c => ?_)
    · replace h := zok_t h c
      refine zi_iload (pc' := 80) X dX6_kinds_78 rfl 3 rfl ?_
      exact hret _ _ _ _ dX6_kinds_80 trivial h
    · replace h := zok_f h c
      refine zi_aload_n (pc' := 31) X dX6_kinds_30 rfl rfl 0 rfl ?_
      refine zi_callVv (pc' := 34) X zl_X6_191 ha0 (by decide) [] rfl rfl (by decide) (Nat.le_of_ble_eq_true rfl) dX6_kinds_31 rfl (tX6_lends _ ha0 (zok_bd h (fun _ m4 h => ?_)))
      refine zi_aload_n (pc' := 35) X dX6_kinds_34 rfl rfl 0 rfl ?_
      refine zi_iload_n (pc' := 36) X dX6_kinds_35 rfl rfl 2 rfl ?_
      refine zi_iconst (pc' := 37) (v := (0 : Int32)) X dX6_kinds_36 rfl rfl ?_
      refine zi_iload (pc' := 39) X dX6_kinds_37 rfl 4 rfl ?_
      refine zi_callVv (pc' := 42) X zl_X6_79 ha0 (by decide) [.int a2, .int (0 : Int32), .int a5] rfl rfl (by decide) (Nat.le_of_ble_eq_true rfl) dX6_kinds_39 rfl (tX6_sets _ ha0 (zok_bd h (fun _ m6 h => ?_)))
      refine zi_aload_n (pc' := 43) X dX6_kinds_42 rfl rfl 0 rfl ?_
      refine zi_callVv (pc' := 46) X zl_X6_156 ha0 (by decide) [] rfl rfl (by decide) (Nat.le_of_ble_eq_true rfl) dX6_kinds_43 rfl (tX6_aDay _ ha0 (zok_bd h (fun _ m8 h => ?_)))
      refine zi_iload (pc' := 48) X dX6_kinds_46 rfl 3 rfl ?_
      refine zi_aload_n (pc' := 49) X dX6_kinds_48 rfl rfl 0 rfl ?_
      refine zi_iload_n (pc' := 50) X dX6_kinds_49 rfl rfl 1 rfl ?_
      refine zi_iload_n (pc' := 51) X dX6_kinds_50 rfl rfl 2 rfl ?_
      refine zi_callVi (pc' := 54) X zl_X6_231 ha0 (by decide) [.int a1, .int a2] rfl rfl (by decide) (Nat.le_of_ble_eq_true rfl) dX6_kinds_51 rfl (tX6_isSo _ ha0 (zok_bd h (fun r9 m10 h => ?_)))
      refine zi_if_eq (pc' := 57) (tgt := 64) X dX6_kinds_54 rfl rfl (fun c => ?_) (fun c => ?_)
      · replace h := zok_t h c
        refine zi_iconst (pc' := 65) (v := (0 : Int32)) X dX6_kinds_64 rfl rfl ?_
        exact zi_sub X [0, 1, 2, 4] _ rfl (lX6_kinds_65 X hret ih a0 a1 a2 a5 (0 : Int32) a4 (m10) ha0 h)
      · replace h := zok_f h c
        refine zi_iconst (pc' := 58) (v := (1 : Int32)) X dX6_kinds_57 rfl rfl ?_
        refine zi_iload (pc' := 60) X dX6_kinds_58 rfl 4 rfl ?_
        refine zi_ishl (pc' := 61) X dX6_kinds_60 rfl ?_
        refine zi_goto (pc' := 65) X dX6_kinds_61 rfl ?_
        exact zi_sub X [0, 1, 2, 4] _ rfl (lX6_kinds_65 X hret ih a0 a1 a2 a5 ((1 : Int32) <<< (a5 &&& 31)) a4 (m10) ha0 h)
def fX6_kinds (a0 : Nat) (a1 : Int32) (a2 : Int32) (μ : zMem) : Option (Int32 × zMem) :=
  zbd (fX6_lacksTent a0 a1 a2 μ) fun r1 m2 =>
  if r1 < 0 then
    fX6_kinds_23 200 a0 a1 a2 (0 : Int32) (0 : Int32) m2
  else
    zbd (fX6_finds a0 r1 m2) fun r13 m14 =>
    some (r13, m14)
set_option maxRecDepth 100000 in
set_option maxHeartbeats 4000000 in
theorem tX6_kinds (g : zG) {a0 : Nat} {a1 : Int32} {a2 : Int32} {μ : zMem} {Q : Int32 → zMem → Prop} (ha0 : zkd a0 = 6) (h : zok (fX6_kinds a0 a1 a2 μ) Q) : zTi g yX6_kinds cX6_kinds 6 .int 4 [.ref (zad g a0), .int a1, .int a2] μ Q := by
  refine zTi_of (P := fun r => True) zpi RX6 (by decide) rfl (Nat.le_of_ble_eq_true rfl) ?_
  intro κ X hret
  unfold fX6_kinds at h
  refine zi_aload_n (pc' := 1) X dX6_kinds_0 rfl rfl 0 rfl ?_
  refine zi_iload_n (pc' := 2) X dX6_kinds_1 rfl rfl 1 rfl ?_
  refine zi_iload_n (pc' := 3) X dX6_kinds_2 rfl rfl 2 rfl ?_
  refine zi_callVi (pc' := 6) X zl_X6_228 ha0 (by decide) [.int a1, .int a2] rfl rfl (by decide) (Nat.le_of_ble_eq_true rfl) dX6_kinds_3 rfl (tX6_lacksTent _ ha0 (zok_bd h (fun r1 m2 h => ?_)))
  refine zi_istore_n (pc' := 7) X dX6_kinds_6 rfl rfl (by decide) [(3, .int r1), (0, .ref (zad g a0)), (1, .int a1), (2, .int a2)] rfl ?_
  refine zi_iload_n (pc' := 8) X dX6_kinds_7 rfl rfl 0 rfl ?_
  refine zi_if_lt (pc' := 11) (tgt := 17) X dX6_kinds_8 rfl rfl (fun c => ?_) (fun c => ?_)
  · replace h := zok_t h c
    refine zi_iconst (pc' := 18) (v := (0 : Int32)) X dX6_kinds_17 rfl rfl ?_
    refine zi_istore (pc' := 20) X dX6_kinds_18 rfl (by decide) [(4, .int (0 : Int32)), (3, .int r1), (0, .ref (zad g a0)), (1, .int a1), (2, .int a2)] rfl ?_
    refine zi_iconst (pc' := 21) (v := (0 : Int32)) X dX6_kinds_20 rfl rfl ?_
    refine zi_istore (pc' := 23) X dX6_kinds_21 rfl (by decide) [(5, .int (0 : Int32)), (4, .int (0 : Int32)), (3, .int r1), (0, .ref (zad g a0)), (1, .int a1), (2, .int a2)] rfl ?_
    exact zi_sub X [3, 4, 5, 1, 0] _ rfl (lX6_kinds_23 X hret 200 a0 a1 a2 (0 : Int32) (0 : Int32) (m2) ha0 h)
  · replace h := zok_f h c
    refine zi_aload_n (pc' := 12) X dX6_kinds_11 rfl rfl 1 rfl ?_
    refine zi_iload_n (pc' := 13) X dX6_kinds_12 rfl rfl 0 rfl ?_
    refine zi_callVi (pc' := 16) X zl_X6_93 ha0 (by decide) [.int r1] rfl rfl (by decide) (Nat.le_of_ble_eq_true rfl) dX6_kinds_13 rfl (tX6_finds _ ha0 (zok_bd h (fun r13 m14 h => ?_)))
    exact hret _ _ _ _ dX6_kinds_16 trivial h
def fX6_leavesAll_36 : Nat → Nat → Int32 → Int32 → zMem → Option (Int32 × zMem)
  | 0, _, _, _, _ => none
  | n + 1, a0, a1, a2, μ =>
    if (25 : Int32) ≤ a2 then
      zgd (a1 = 0 ∨ a1 = 1) (
      some (a1, μ))
    else
      if a1 = 0 then
        fX6_leavesAll_36 n a0 (0 : Int32) (a2 + (1 : Int32)) μ
      else
        zgd (zib a2 25) (
        zgd (zib ((4 : Int32) + a2) 87) (
        if (μ (a0 + 6) (a2).toNatClampNeg) = (μ (a0 + 1) (((4 : Int32) + a2)).toNatClampNeg) then
          fX6_leavesAll_36 n a0 (1 : Int32) (a2 + (1 : Int32)) μ
        else
          fX6_leavesAll_36 n a0 (0 : Int32) (a2 + (1 : Int32)) μ))
set_option maxRecDepth 100000 in
theorem lX6_leavesAll_36 {g : zG} {κ : zK} (X : zC g κ RX6 cX6_leavesAll 3 4) {Q : Int32 → zMem → Prop} (hret : ∀ pc lv r μ', decode cX6_leavesAll pc = .ok (.ireturn, 1) → (r = 0 ∨ r = 1) → Q r μ' → zV g κ pc lv [.int r] μ') : ∀ (n : Nat) (a0 : Nat) (a1 : Int32) (a2 : Int32) (μ : zMem) (ha0 : zkd a0 = 6), zok (fX6_leavesAll_36 n a0 a1 a2 μ) Q → zV g κ 36 [(0, .ref (zad g a0)), (1, .int a1), (2, .int a2)] [] μ := by
  intro n
  induction n with
  | zero =>
    intro a0 a1 a2 μ ha0 h
    exact h.elim
  | succ n ih =>
    intro a0 a1 a2 μ ha0 h
    rw [fX6_leavesAll_36] at h
    refine zi_iload_n (pc' := 37) X dX6_leavesAll_36 rfl rfl 2 rfl ?_
    refine zi_bipush (pc' := 39) (v := (25 : Int32)) X dX6_leavesAll_37 rfl rfl ?_
    refine zi_icmp_ge (pc' := 42) (tgt := 75) X dX6_leavesAll_39 rfl rfl (fun c => ?_) (fun c => ?_)
    · replace h := zok_t h c
      refine zi_iload_n (pc' := 76) X dX6_leavesAll_75 rfl rfl 1 rfl ?_
      obtain ⟨g3, h⟩ := zok_g h
      exact hret _ _ _ _ dX6_leavesAll_76 g3 h
    · replace h := zok_f h c
      refine zi_iload_n (pc' := 43) X dX6_leavesAll_42 rfl rfl 1 rfl ?_
      refine zi_if_eq (pc' := 46) (tgt := 67) X dX6_leavesAll_43 rfl rfl (fun c => ?_) (fun c => ?_)
      · replace h := zok_t h c
        refine zi_iconst (pc' := 68) (v := (0 : Int32)) X dX6_leavesAll_67 rfl rfl ?_
        refine zi_istore_n (pc' := 69) X dX6_leavesAll_68 rfl rfl (by decide) [(1, .int (0 : Int32)), (0, .ref (zad g a0)), (2, .int a2)] rfl ?_
        refine zi_iinc (pc' := 72) (v := (a2 + (1 : Int32))) X dX6_leavesAll_69 rfl 2 rfl rfl (by decide) [(2, .int (a2 + (1 : Int32))), (1, .int (0 : Int32)), (0, .ref (zad g a0))] rfl ?_
        refine zi_goto (pc' := 36) X dX6_leavesAll_72 rfl ?_
        exact zi_sub X [2, 1, 0] _ rfl (ih a0 (0 : Int32) (a2 + (1 : Int32)) (μ) ha0 h)
      · replace h := zok_f h c
        refine zi_aload_n (pc' := 47) X dX6_leavesAll_46 rfl rfl 0 rfl ?_
        refine zi_getr (pc' := 50) X zf_X6_25 rfl (by decide) ha0 dX6_leavesAll_47 rfl ?_
        have f4 := zr_6_6 ha0
        refine zi_iload_n (pc' := 51) X dX6_leavesAll_50 rfl rfl 2 rfl ?_
        obtain ⟨g5, h⟩ := zok_g h
        refine zi_iald (pc' := 52) X f4.1 (by rw [f4.2]; exact g5) dX6_leavesAll_51 rfl ?_
        refine zi_aload_n (pc' := 53) X dX6_leavesAll_52 rfl rfl 0 rfl ?_
        refine zi_getr (pc' := 56) X zf_X6_9 rfl (by decide) ha0 dX6_leavesAll_53 rfl ?_
        have f6 := zr_6_0 ha0
        refine zi_iconst (pc' := 57) (v := (4 : Int32)) X dX6_leavesAll_56 rfl rfl ?_
        refine zi_iload_n (pc' := 58) X dX6_leavesAll_57 rfl rfl 2 rfl ?_
        refine zi_iadd (pc' := 59) X dX6_leavesAll_58 rfl ?_
        obtain ⟨g7, h⟩ := zok_g h
        refine zi_iald (pc' := 60) X f6.1 (by rw [f6.2]; exact g7) dX6_leavesAll_59 rfl ?_
        refine zi_icmp_ne (pc' := 63) (tgt := 67) X dX6_leavesAll_60 rfl rfl (fun c => ?_) (fun c => ?_)
        · replace h := zok_f h c
          refine zi_iconst (pc' := 68) (v := (0 : Int32)) X dX6_leavesAll_67 rfl rfl ?_
          refine zi_istore_n (pc' := 69) X dX6_leavesAll_68 rfl rfl (by decide) [(1, .int (0 : Int32)), (0, .ref (zad g a0)), (2, .int a2)] rfl ?_
          refine zi_iinc (pc' := 72) (v := (a2 + (1 : Int32))) X dX6_leavesAll_69 rfl 2 rfl rfl (by decide) [(2, .int (a2 + (1 : Int32))), (1, .int (0 : Int32)), (0, .ref (zad g a0))] rfl ?_
          refine zi_goto (pc' := 36) X dX6_leavesAll_72 rfl ?_
          exact zi_sub X [2, 1, 0] _ rfl (ih a0 (0 : Int32) (a2 + (1 : Int32)) (μ) ha0 h)
        · replace h := zok_t h c
          refine zi_iconst (pc' := 64) (v := (1 : Int32)) X dX6_leavesAll_63 rfl rfl ?_
          refine zi_goto (pc' := 68) X dX6_leavesAll_64 rfl ?_
          refine zi_istore_n (pc' := 69) X dX6_leavesAll_68 rfl rfl (by decide) [(1, .int (1 : Int32)), (0, .ref (zad g a0)), (2, .int a2)] rfl ?_
          refine zi_iinc (pc' := 72) (v := (a2 + (1 : Int32))) X dX6_leavesAll_69 rfl 2 rfl rfl (by decide) [(2, .int (a2 + (1 : Int32))), (1, .int (1 : Int32)), (0, .ref (zad g a0))] rfl ?_
          refine zi_goto (pc' := 36) X dX6_leavesAll_72 rfl ?_
          exact zi_sub X [2, 1, 0] _ rfl (ih a0 (1 : Int32) (a2 + (1 : Int32)) (μ) ha0 h)
def fX6_leavesAll_2 : Nat → Nat → Int32 → zMem → Option (Int32 × zMem)
  | 0, _, _, _ => none
  | n + 1, a0, a1, μ =>
    if (25 : Int32) ≤ a1 then
      zbd (fX6_aDay a0 μ) fun _ m2 =>
      fX6_leavesAll_36 200 a0 (1 : Int32) (0 : Int32) m2
    else
      zgd (zib ((4 : Int32) + a1) 87) (
      zgd (zib a1 25) (
      fX6_leavesAll_2 n a0 (a1 + (1 : Int32)) (zst μ (a0 + 6) (a1).toNatClampNeg (μ (a0 + 1) (((4 : Int32) + a1)).toNatClampNeg))))
set_option maxRecDepth 100000 in
theorem lX6_leavesAll_2 {g : zG} {κ : zK} (X : zC g κ RX6 cX6_leavesAll 3 4) {Q : Int32 → zMem → Prop} (hret : ∀ pc lv r μ', decode cX6_leavesAll pc = .ok (.ireturn, 1) → (r = 0 ∨ r = 1) → Q r μ' → zV g κ pc lv [.int r] μ') : ∀ (n : Nat) (a0 : Nat) (a1 : Int32) (μ : zMem) (ha0 : zkd a0 = 6), zok (fX6_leavesAll_2 n a0 a1 μ) Q → zV g κ 2 [(0, .ref (zad g a0)), (1, .int a1)] [] μ := by
  intro n
  induction n with
  | zero =>
    intro a0 a1 μ ha0 h
    exact h.elim
  | succ n ih =>
    intro a0 a1 μ ha0 h
    rw [fX6_leavesAll_2] at h
    refine zi_iload_n (pc' := 3) X dX6_leavesAll_2 rfl rfl 1 rfl ?_
    refine zi_bipush (pc' := 5) (v := (25 : Int32)) X dX6_leavesAll_3 rfl rfl ?_
    refine zi_icmp_ge (pc' := 8) (tgt := 28) X dX6_leavesAll_5 rfl rfl (fun c => ?_) (fun c => ?_)
    · replace h := zok_t h c
      refine zi_aload_n (pc' := 29) X dX6_leavesAll_28 rfl rfl 0 rfl ?_
      refine zi_callVv (pc' := 32) X zl_X6_156 ha0 (by decide) [] rfl rfl (by decide) (Nat.le_of_ble_eq_true rfl) dX6_leavesAll_29 rfl (tX6_aDay _ ha0 (zok_bd h (fun _ m2 h => ?_)))
      refine zi_iconst (pc' := 33) (v := (1 : Int32)) X dX6_leavesAll_32 rfl rfl ?_
      refine zi_istore_n (pc' := 34) X dX6_leavesAll_33 rfl rfl (by decide) [(1, .int (1 : Int32)), (0, .ref (zad g a0))] rfl ?_
      refine zi_iconst (pc' := 35) (v := (0 : Int32)) X dX6_leavesAll_34 rfl rfl ?_
      refine zi_istore_n (pc' := 36) X dX6_leavesAll_35 rfl rfl (by decide) [(2, .int (0 : Int32)), (1, .int (1 : Int32)), (0, .ref (zad g a0))] rfl ?_
      exact zi_sub X [2, 1, 0] _ rfl (lX6_leavesAll_36 X hret 200 a0 (1 : Int32) (0 : Int32) (m2) ha0 h)
    · replace h := zok_f h c
      refine zi_aload_n (pc' := 9) X dX6_leavesAll_8 rfl rfl 0 rfl ?_
      refine zi_getr (pc' := 12) X zf_X6_25 rfl (by decide) ha0 dX6_leavesAll_9 rfl ?_
      have f8 := zr_6_6 ha0
      refine zi_iload_n (pc' := 13) X dX6_leavesAll_12 rfl rfl 1 rfl ?_
      refine zi_aload_n (pc' := 14) X dX6_leavesAll_13 rfl rfl 0 rfl ?_
      refine zi_getr (pc' := 17) X zf_X6_9 rfl (by decide) ha0 dX6_leavesAll_14 rfl ?_
      have f9 := zr_6_0 ha0
      refine zi_iconst (pc' := 18) (v := (4 : Int32)) X dX6_leavesAll_17 rfl rfl ?_
      refine zi_iload_n (pc' := 19) X dX6_leavesAll_18 rfl rfl 1 rfl ?_
      refine zi_iadd (pc' := 20) X dX6_leavesAll_19 rfl ?_
      obtain ⟨g10, h⟩ := zok_g h
      refine zi_iald (pc' := 21) X f9.1 (by rw [f9.2]; exact g10) dX6_leavesAll_20 rfl ?_
      obtain ⟨g11, h⟩ := zok_g h
      refine zi_iast (pc' := 22) X f8.1 (by rw [f8.2]; exact g11) dX6_leavesAll_21 rfl ?_
      refine zi_iinc (pc' := 25) (v := (a1 + (1 : Int32))) X dX6_leavesAll_22 rfl 1 rfl rfl (by decide) [(1, .int (a1 + (1 : Int32))), (0, .ref (zad g a0))] rfl ?_
      refine zi_goto (pc' := 2) X dX6_leavesAll_25 rfl ?_
      exact zi_sub X [1, 0] _ rfl (ih a0 (a1 + (1 : Int32)) ((zst μ (a0 + 6) (a1).toNatClampNeg (μ (a0 + 1) (((4 : Int32) + a1)).toNatClampNeg))) ha0 h)
def fX6_leavesAll (a0 : Nat) (μ : zMem) : Option (Int32 × zMem) :=
  fX6_leavesAll_2 200 a0 (0 : Int32) μ
set_option maxRecDepth 100000 in
set_option maxHeartbeats 4000000 in
theorem tX6_leavesAll (g : zG) {a0 : Nat} {μ : zMem} {Q : Int32 → zMem → Prop} (ha0 : zkd a0 = 6) (h : zok (fX6_leavesAll a0 μ) Q) : zTi g yX6_leavesAll cX6_leavesAll 3 .boolean 4 [.ref (zad g a0)] μ Q := by
  refine zTi_of (P := fun r => r = 0 ∨ r = 1) zpb RX6 (by decide) rfl (Nat.le_of_ble_eq_true rfl) ?_
  intro κ X hret
  unfold fX6_leavesAll at h
  refine zi_iconst (pc' := 1) (v := (0 : Int32)) X dX6_leavesAll_0 rfl rfl ?_
  refine zi_istore_n (pc' := 2) X dX6_leavesAll_1 rfl rfl (by decide) [(1, .int (0 : Int32)), (0, .ref (zad g a0))] rfl ?_
  exact zi_sub X [1, 0] _ rfl (lX6_leavesAll_2 X hret 200 a0 (0 : Int32) (μ) ha0 h)
def fX6_lies_67 (a0 : Nat) (a3 : Int32) (μ : zMem) : Option (Int32 × zMem) :=
  zbd (fX6_laysBack a0 μ) fun _ m12 =>
  zbd (fX6_orNone a0 a3 (100 : Int32) m12) fun r13 m14 =>
  some (r13, m14)
set_option maxRecDepth 100000 in
theorem lX6_lies_67 {g : zG} {κ : zK} (X : zC g κ RX6 cX6_lies 4 4) {Q : Int32 → zMem → Prop} (hret : ∀ pc lv r μ', decode cX6_lies pc = .ok (.ireturn, 1) → True → Q r μ' → zV g κ pc lv [.int r] μ') : ∀ (a0 : Nat) (a3 : Int32) (μ : zMem) (ha0 : zkd a0 = 6), zok (fX6_lies_67 a0 a3 μ) Q → zV g κ 67 [(0, .ref (zad g a0)), (3, .int a3)] [] μ := by
  intro a0 a3 μ ha0 h
  unfold fX6_lies_67 at h
  refine zi_aload_n (pc' := 68) X dX6_lies_67 rfl rfl 0 rfl ?_
  refine zi_callVv (pc' := 71) X zl_X6_194 ha0 (by decide) [] rfl rfl (by decide) (Nat.le_of_ble_eq_true rfl) dX6_lies_68 rfl (tX6_laysBack _ ha0 (zok_bd h (fun _ m12 h => ?_)))
  refine zi_aload_n (pc' := 72) X dX6_lies_71 rfl rfl 0 rfl ?_
  refine zi_iload_n (pc' := 73) X dX6_lies_72 rfl rfl 1 rfl ?_
  refine zi_bipush (pc' := 75) (v := (100 : Int32)) X dX6_lies_73 rfl rfl ?_
  refine zi_callVi (pc' := 78) X zl_X6_200 ha0 (by decide) [.int a3, .int (100 : Int32)] rfl rfl (by decide) (Nat.le_of_ble_eq_true rfl) dX6_lies_75 rfl (tX6_orNone _ ha0 (zok_bd h (fun r13 m14 h => ?_)))
  exact hret _ _ _ _ dX6_lies_78 trivial h
def fX6_lies_42 : Nat → Nat → Int32 → Int32 → Int32 → zMem → Option (Int32 × zMem)
  | 0, _, _, _, _, _ => none
  | n + 1, a0, a1, a2, a3, μ =>
    if (100 : Int32) < a3 then
      fX6_lies_67 a0 a3 μ
    else
      zbd (fX6_isLying a0 a1 a2 μ) fun r15 m16 =>
      if r15 = 0 then
        zbd (fX6_aDay a0 m16) fun _ m18 =>
        fX6_lies_42 n a0 a1 a2 (a3 + (1 : Int32)) m18
      else
        fX6_lies_67 a0 a3 m16
set_option maxRecDepth 100000 in
theorem lX6_lies_42 {g : zG} {κ : zK} (X : zC g κ RX6 cX6_lies 4 4) {Q : Int32 → zMem → Prop} (hret : ∀ pc lv r μ', decode cX6_lies pc = .ok (.ireturn, 1) → True → Q r μ' → zV g κ pc lv [.int r] μ') : ∀ (n : Nat) (a0 : Nat) (a1 : Int32) (a2 : Int32) (a3 : Int32) (μ : zMem) (ha0 : zkd a0 = 6), zok (fX6_lies_42 n a0 a1 a2 a3 μ) Q → zV g κ 42 [(0, .ref (zad g a0)), (1, .int a1), (2, .int a2), (3, .int a3)] [] μ := by
  intro n
  induction n with
  | zero =>
    intro a0 a1 a2 a3 μ ha0 h
    exact h.elim
  | succ n ih =>
    intro a0 a1 a2 a3 μ ha0 h
    rw [fX6_lies_42] at h
    refine zi_iload_n (pc' := 43) X dX6_lies_42 rfl rfl 3 rfl ?_
    refine zi_bipush (pc' := 45) (v := (100 : Int32)) X dX6_lies_43 rfl rfl ?_
    refine zi_icmp_gt (pc' := 48) (tgt := 67) X dX6_lies_45 rfl rfl (fun c => ?_) (fun c => ?_)
    · replace h := zok_t h c
      exact zi_sub X [0, 3] _ rfl (lX6_lies_67 X hret a0 a3 (μ) ha0 h)
    · replace h := zok_f h c
      refine zi_aload_n (pc' := 49) X dX6_lies_48 rfl rfl 0 rfl ?_
      refine zi_iload_n (pc' := 50) X dX6_lies_49 rfl rfl 1 rfl ?_
      refine zi_iload_n (pc' := 51) X dX6_lies_50 rfl rfl 2 rfl ?_
      refine zi_callVi (pc' := 54) X zl_X6_207 ha0 (by decide) [.int a1, .int a2] rfl rfl (by decide) (Nat.le_of_ble_eq_true rfl) dX6_lies_51 rfl (tX6_isLying _ ha0 (zok_bd h (fun r15 m16 h => ?_)))
      refine zi_if_ne (pc' := 57) (tgt := 67) X dX6_lies_54 rfl rfl (fun c => ?_) (fun c => ?_)
      · replace h := zok_f h c
        exact zi_sub X [0, 3] _ rfl (lX6_lies_67 X hret a0 a3 (m16) ha0 h)
      · replace h := zok_t h c
        refine zi_aload_n (pc' := 58) X dX6_lies_57 rfl rfl 0 rfl ?_
        refine zi_callVv (pc' := 61) X zl_X6_156 ha0 (by decide) [] rfl rfl (by decide) (Nat.le_of_ble_eq_true rfl) dX6_lies_58 rfl (tX6_aDay _ ha0 (zok_bd h (fun _ m18 h => ?_)))
        refine zi_iinc (pc' := 64) (v := (a3 + (1 : Int32))) X dX6_lies_61 rfl 3 rfl rfl (by decide) [(3, .int (a3 + (1 : Int32))), (0, .ref (zad g a0)), (1, .int a1), (2, .int a2)] rfl ?_
        refine zi_goto (pc' := 42) X dX6_lies_64 rfl ?_
        exact zi_sub X [1, 2, 3, 0] _ rfl (ih a0 a1 a2 (a3 + (1 : Int32)) (m18) ha0 h)
def fX6_lies (a0 : Nat) (a1 : Int32) (a2 : Int32) (μ : zMem) : Option (Int32 × zMem) :=
  zbd (fX6_isTent a0 a1 μ) fun r1 m2 =>
  if r1 = 0 then
    zbd (fX6_finds a0 (0 : Int32) m2) fun r3 m4 =>
    some (r3, m4)
  else
    zbd (fX6_isHigh a2 m2) fun r5 m6 =>
    if r5 = 0 then
      zbd (fX6_finds a0 (0 : Int32) m6) fun r21 m22 =>
      some (r21, m22)
    else
      zbd (fX6_its a0 a1 (1 : Int32) m6) fun r7 m8 =>
      if 0 ≤ r7 then
        zbd (fX6_lends a0 m8) fun _ m10 =>
        fX6_lies_42 200 a0 a1 a2 (0 : Int32) m10
      else
        zbd (fX6_finds a0 (4 : Int32) m8) fun r19 m20 =>
        some (r19, m20)
set_option maxRecDepth 100000 in
set_option maxHeartbeats 4000000 in
theorem tX6_lies (g : zG) {a0 : Nat} {a1 : Int32} {a2 : Int32} {μ : zMem} {Q : Int32 → zMem → Prop} (ha0 : zkd a0 = 6) (h : zok (fX6_lies a0 a1 a2 μ) Q) : zTi g yX6_lies cX6_lies 4 .int 4 [.ref (zad g a0), .int a1, .int a2] μ Q := by
  refine zTi_of (P := fun r => True) zpi RX6 (by decide) rfl (Nat.le_of_ble_eq_true rfl) ?_
  intro κ X hret
  unfold fX6_lies at h
  refine zi_aload_n (pc' := 1) X dX6_lies_0 rfl rfl 0 rfl ?_
  refine zi_iload_n (pc' := 2) X dX6_lies_1 rfl rfl 1 rfl ?_
  refine zi_callVi (pc' := 5) X zl_X6_127 ha0 (by decide) [.int a1] rfl rfl (by decide) (Nat.le_of_ble_eq_true rfl) dX6_lies_2 rfl (tX6_isTent _ ha0 (zok_bd h (fun r1 m2 h => ?_)))
  refine zi_if_eq (pc' := 8) (tgt := 15) X dX6_lies_5 rfl rfl (fun c => ?_) (fun c => ?_)
  · replace h := zok_t h c
    refine zi_aload_n (pc' := 16) X dX6_lies_15 rfl rfl 0 rfl ?_
    refine zi_iconst (pc' := 17) (v := (0 : Int32)) X dX6_lies_16 rfl rfl ?_
    refine zi_callVi (pc' := 20) X zl_X6_93 ha0 (by decide) [.int (0 : Int32)] rfl rfl (by decide) (Nat.le_of_ble_eq_true rfl) dX6_lies_17 rfl (tX6_finds _ ha0 (zok_bd h (fun r3 m4 h => ?_)))
    exact hret _ _ _ _ dX6_lies_20 trivial h
  · replace h := zok_f h c
    refine zi_iload_n (pc' := 9) X dX6_lies_8 rfl rfl 2 rfl ?_
    refine zi_callSi (pc' := 12) X zl_X6_87 [.int a2] rfl rfl (by decide) (Nat.le_of_ble_eq_true rfl) dX6_lies_9 rfl (tX6_isHigh _ (zok_bd h (fun r5 m6 h => ?_)))
    refine zi_if_ne (pc' := 15) (tgt := 21) X dX6_lies_12 rfl rfl (fun c => ?_) (fun c => ?_)
    · replace h := zok_f h c
      refine zi_aload_n (pc' := 22) X dX6_lies_21 rfl rfl 0 rfl ?_
      refine zi_iload_n (pc' := 23) X dX6_lies_22 rfl rfl 1 rfl ?_
      refine zi_iconst (pc' := 24) (v := (1 : Int32)) X dX6_lies_23 rfl rfl ?_
      refine zi_callVi (pc' := 27) X zl_X6_76 ha0 (by decide) [.int a1, .int (1 : Int32)] rfl rfl (by decide) (Nat.le_of_ble_eq_true rfl) dX6_lies_24 rfl (tX6_its _ ha0 (zok_bd h (fun r7 m8 h => ?_)))
      refine zi_if_ge (pc' := 30) (tgt := 36) X dX6_lies_27 rfl rfl (fun c => ?_) (fun c => ?_)
      · replace h := zok_t h c
        refine zi_aload_n (pc' := 37) X dX6_lies_36 rfl rfl 0 rfl ?_
        refine zi_callVv (pc' := 40) X zl_X6_191 ha0 (by decide) [] rfl rfl (by decide) (Nat.le_of_ble_eq_true rfl) dX6_lies_37 rfl (tX6_lends _ ha0 (zok_bd h (fun _ m10 h => ?_)))
        refine zi_iconst (pc' := 41) (v := (0 : Int32)) X dX6_lies_40 rfl rfl ?_
        refine zi_istore_n (pc' := 42) X dX6_lies_41 rfl rfl (by decide) [(3, .int (0 : Int32)), (0, .ref (zad g a0)), (1, .int a1), (2, .int a2)] rfl ?_
        exact zi_sub X [1, 2, 3, 0] _ rfl (lX6_lies_42 X hret 200 a0 a1 a2 (0 : Int32) (m10) ha0 h)
      · replace h := zok_f h c
        refine zi_aload_n (pc' := 31) X dX6_lies_30 rfl rfl 0 rfl ?_
        refine zi_iconst (pc' := 32) (v := (4 : Int32)) X dX6_lies_31 rfl rfl ?_
        refine zi_callVi (pc' := 35) X zl_X6_93 ha0 (by decide) [.int (4 : Int32)] rfl rfl (by decide) (Nat.le_of_ble_eq_true rfl) dX6_lies_32 rfl (tX6_finds _ ha0 (zok_bd h (fun r19 m20 h => ?_)))
        exact hret _ _ _ _ dX6_lies_35 trivial h
    · replace h := zok_t h c
      refine zi_aload_n (pc' := 16) X dX6_lies_15 rfl rfl 0 rfl ?_
      refine zi_iconst (pc' := 17) (v := (0 : Int32)) X dX6_lies_16 rfl rfl ?_
      refine zi_callVi (pc' := 20) X zl_X6_93 ha0 (by decide) [.int (0 : Int32)] rfl rfl (by decide) (Nat.le_of_ble_eq_true rfl) dX6_lies_17 rfl (tX6_finds _ ha0 (zok_bd h (fun r21 m22 h => ?_)))
      exact hret _ _ _ _ dX6_lies_20 trivial h
def fX6_nomads_39 : Nat → Nat → Int32 → Int32 → zMem → Option (Int32 × zMem)
  | 0, _, _, _, _ => none
  | n + 1, a0, a1, a2, μ =>
    if a1 ≤ a2 then
      zbd (fX6_heights a0 μ) fun r5 m6 =>
      some (r5, m6)
    else
      zbd (fX6_draw a0 μ) fun r7 m8 =>
      zbd (fX6_draw a0 m8) fun r9 m10 =>
      zbd (fX6_isTent a0 (r7 - r7 / (8 : Int32) * (8 : Int32)) m10) fun r11 m12 =>
      if r11 = 0 then
        zbd (fX6_aDay a0 m12) fun _ m14 =>
        fX6_nomads_39 n a0 a1 (a2 + (1 : Int32)) m14
      else
        zbd (fX6_sets a0 (r7 - r7 / (8 : Int32) * (8 : Int32)) (1 : Int32) (r9 - r9 / (16 : Int32) * (16 : Int32)) m12) fun _ m16 =>
        zbd (fX6_aDay a0 m16) fun _ m18 =>
        fX6_nomads_39 n a0 a1 (a2 + (1 : Int32)) m18
set_option maxRecDepth 100000 in
theorem lX6_nomads_39 {g : zG} {κ : zK} (X : zC g κ RX6 cX6_nomads 5 4) {Q : Int32 → zMem → Prop} (hret : ∀ pc lv r μ', decode cX6_nomads pc = .ok (.ireturn, 1) → True → Q r μ' → zV g κ pc lv [.int r] μ') : ∀ (n : Nat) (a0 : Nat) (a1 : Int32) (a2 : Int32) (μ : zMem) (ha0 : zkd a0 = 6), zok (fX6_nomads_39 n a0 a1 a2 μ) Q → zV g κ 39 [(0, .ref (zad g a0)), (1, .int a1), (2, .int a2)] [] μ := by
  intro n
  induction n with
  | zero =>
    intro a0 a1 a2 μ ha0 h
    exact h.elim
  | succ n ih =>
    intro a0 a1 a2 μ ha0 h
    rw [fX6_nomads_39] at h
    refine zi_iload_n (pc' := 40) X dX6_nomads_39 rfl rfl 2 rfl ?_
    refine zi_iload_n (pc' := 41) X dX6_nomads_40 rfl rfl 1 rfl ?_
    refine zi_icmp_ge (pc' := 44) (tgt := 87) X dX6_nomads_41 rfl rfl (fun c => ?_) (fun c => ?_)
    · replace h := zok_t h c
      refine zi_aload_n (pc' := 88) X dX6_nomads_87 rfl rfl 0 rfl ?_
      refine zi_callVi (pc' := 91) X zl_X6_166 ha0 (by decide) [] rfl rfl (by decide) (Nat.le_of_ble_eq_true rfl) dX6_nomads_88 rfl (tX6_heights _ ha0 (zok_bd h (fun r5 m6 h => ?_)))
      exact hret _ _ _ _ dX6_nomads_91 trivial h
    · replace h := zok_f h c
      refine zi_aload_n (pc' := 45) X dX6_nomads_44 rfl rfl 0 rfl ?_
      refine zi_callVi (pc' := 48) X zl_X6_237 ha0 (by decide) [] rfl rfl (by decide) (Nat.le_of_ble_eq_true rfl) dX6_nomads_45 rfl (tX6_draw _ ha0 (zok_bd h (fun r7 m8 h => ?_)))
      refine zi_bipush (pc' := 50) (v := (8 : Int32)) X dX6_nomads_48 rfl rfl ?_
      refine zi_irem (pc' := 51) X dX6_nomads_50 rfl (by decide) ?_
      refine zi_istore_n (pc' := 52) X dX6_nomads_51 rfl rfl (by decide) [(3, .int (r7 - r7 / (8 : Int32) * (8 : Int32))), (0, .ref (zad g a0)), (1, .int a1), (2, .int a2)] rfl ?_
      refine zi_aload_n (pc' := 53) X dX6_nomads_52 rfl rfl 1 rfl ?_
      refine zi_callVi (pc' := 56) X zl_X6_237 ha0 (by decide) [] rfl rfl (by decide) (Nat.le_of_ble_eq_true rfl) dX6_nomads_53 rfl (tX6_draw _ ha0 (zok_bd h (fun r9 m10 h => ?_)))
      refine zi_bipush (pc' := 58) (v := (16 : Int32)) X dX6_nomads_56 rfl rfl ?_
      refine zi_irem (pc' := 59) X dX6_nomads_58 rfl (by decide) ?_
      refine zi_istore (pc' := 61) X dX6_nomads_59 rfl (by decide) [(4, .int (r9 - r9 / (16 : Int32) * (16 : Int32))), (3, .int (r7 - r7 / (8 : Int32) * (8 : Int32))), (0, .ref (zad g a0)), (1, .int a1), (2, .int a2)] rfl ?_
      refine zi_aload_n (pc' := 62) X dX6_nomads_61 rfl rfl 2 rfl ?_
      refine zi_iload_n (pc' := 63) X dX6_nomads_62 rfl rfl 1 rfl ?_
      refine zi_callVi (pc' := 66) X zl_X6_127 ha0 (by decide) [.int (r7 - r7 / (8 : Int32) * (8 : Int32))] rfl rfl (by decide) (Nat.le_of_ble_eq_true rfl) dX6_nomads_63 rfl (tX6_isTent _ ha0 (zok_bd h (fun r11 m12 h => ?_)))
      refine zi_if_eq (pc' := 69) (tgt := 77) X dX6_nomads_66 rfl rfl (fun c => ?_) (fun c => ?_)
      · replace h := zok_t h c
        refine zi_aload_n (pc' := 78) X dX6_nomads_77 rfl rfl 2 rfl ?_
        refine zi_callVv (pc' := 81) X zl_X6_156 ha0 (by decide) [] rfl rfl (by decide) (Nat.le_of_ble_eq_true rfl) dX6_nomads_78 rfl (tX6_aDay _ ha0 (zok_bd h (fun _ m14 h => ?_)))
        refine zi_iinc (pc' := 84) (v := (a2 + (1 : Int32))) X dX6_nomads_81 rfl 4 rfl rfl (by decide) [(2, .int (a2 + (1 : Int32))), (4, .int (r9 - r9 / (16 : Int32) * (16 : Int32))), (3, .int (r7 - r7 / (8 : Int32) * (8 : Int32))), (0, .ref (zad g a0)), (1, .int a1)] rfl ?_
        refine zi_goto (pc' := 39) X dX6_nomads_84 rfl ?_
        exact zi_sub X [3, 4, 0] _ rfl (ih a0 a1 (a2 + (1 : Int32)) (m14) ha0 h)
      · replace h := zok_f h c
        refine zi_aload_n (pc' := 70) X dX6_nomads_69 rfl rfl 2 rfl ?_
        refine zi_iload_n (pc' := 71) X dX6_nomads_70 rfl rfl 1 rfl ?_
        refine zi_iconst (pc' := 72) (v := (1 : Int32)) X dX6_nomads_71 rfl rfl ?_
        refine zi_iload (pc' := 74) X dX6_nomads_72 rfl 0 rfl ?_
        refine zi_callVv (pc' := 77) X zl_X6_79 ha0 (by decide) [.int (r7 - r7 / (8 : Int32) * (8 : Int32)), .int (1 : Int32), .int (r9 - r9 / (16 : Int32) * (16 : Int32))] rfl rfl (by decide) (Nat.le_of_ble_eq_true rfl) dX6_nomads_74 rfl (tX6_sets _ ha0 (zok_bd h (fun _ m16 h => ?_)))
        refine zi_aload_n (pc' := 78) X dX6_nomads_77 rfl rfl 2 rfl ?_
        refine zi_callVv (pc' := 81) X zl_X6_156 ha0 (by decide) [] rfl rfl (by decide) (Nat.le_of_ble_eq_true rfl) dX6_nomads_78 rfl (tX6_aDay _ ha0 (zok_bd h (fun _ m18 h => ?_)))
        refine zi_iinc (pc' := 84) (v := (a2 + (1 : Int32))) X dX6_nomads_81 rfl 4 rfl rfl (by decide) [(2, .int (a2 + (1 : Int32))), (4, .int (r9 - r9 / (16 : Int32) * (16 : Int32))), (3, .int (r7 - r7 / (8 : Int32) * (8 : Int32))), (0, .ref (zad g a0)), (1, .int a1)] rfl ?_
        refine zi_goto (pc' := 39) X dX6_nomads_84 rfl ?_
        exact zi_sub X [3, 4, 0] _ rfl (ih a0 a1 (a2 + (1 : Int32)) (m18) ha0 h)
def fX6_nomads (a0 : Nat) (a1 : Int32) (μ : zMem) : Option (Int32 × zMem) :=
  zbd (fX6_in ((a1).toInt64) (1 : Int64) (20 : Int64) μ) fun r1 m2 =>
  if r1 = 0 then
    zbd (fX6_finds a0 (0 : Int32) m2) fun r21 m22 =>
    some (r21, m22)
  else
    zgd (zib (0 : Int32) 87) (
    if ((m2 (a0 + 1) ((0 : Int32)).toNatClampNeg) + a1) ≤ (99999 : Int32) then
      fX6_nomads_39 200 a0 a1 (0 : Int32) m2
    else
      zbd (fX6_finds a0 (4 : Int32) m2) fun r19 m20 =>
      some (r19, m20))
set_option maxRecDepth 100000 in
set_option maxHeartbeats 4000000 in
theorem tX6_nomads (g : zG) {a0 : Nat} {a1 : Int32} {μ : zMem} {Q : Int32 → zMem → Prop} (ha0 : zkd a0 = 6) (h : zok (fX6_nomads a0 a1 μ) Q) : zTi g yX6_nomads cX6_nomads 5 .int 4 [.ref (zad g a0), .int a1] μ Q := by
  refine zTi_of (P := fun r => True) zpi RX6 (by decide) rfl (Nat.le_of_ble_eq_true rfl) ?_
  intro κ X hret
  unfold fX6_nomads at h
  refine zi_iload_n (pc' := 1) X dX6_nomads_0 rfl rfl 1 rfl ?_
  refine zi_i2l (pc' := 2) X dX6_nomads_1 rfl ?_
  refine zi_lconst (pc' := 3) (v := (1 : Int64)) X dX6_nomads_2 rfl rfl ?_
  refine zi_ldc2 (pc' := 6) X dX6_nomads_3 rfl zk_X6_235 ?_
  refine zi_callSi (pc' := 9) X zl_X6_48 [.long ((a1).toInt64), .long (1 : Int64), .long (20 : Int64)] rfl rfl (by decide) (Nat.le_of_ble_eq_true rfl) dX6_nomads_6 rfl (tX6_in _ (zok_bd h (fun r1 m2 h => ?_)))
  refine zi_if_ne (pc' := 12) (tgt := 18) X dX6_nomads_9 rfl rfl (fun c => ?_) (fun c => ?_)
  · replace h := zok_f h c
    refine zi_aload_n (pc' := 19) X dX6_nomads_18 rfl rfl 0 rfl ?_
    refine zi_getr (pc' := 22) X zf_X6_9 rfl (by decide) ha0 dX6_nomads_19 rfl ?_
    have f3 := zr_6_0 ha0
    refine zi_iconst (pc' := 23) (v := (0 : Int32)) X dX6_nomads_22 rfl rfl ?_
    obtain ⟨g4, h⟩ := zok_g h
    refine zi_iald (pc' := 24) X f3.1 (by rw [f3.2]; exact g4) dX6_nomads_23 rfl ?_
    refine zi_iload_n (pc' := 25) X dX6_nomads_24 rfl rfl 1 rfl ?_
    refine zi_iadd (pc' := 26) X dX6_nomads_25 rfl ?_
    refine zi_ldc (pc' := 28) X dX6_nomads_26 rfl zk_X6_161 ?_
    refine zi_icmp_le (pc' := 31) (tgt := 37) X dX6_nomads_28 rfl rfl (fun c => ?_) (fun c => ?_)
    · replace h := zok_t h c
      refine zi_iconst (pc' := 38) (v := (0 : Int32)) X dX6_nomads_37 rfl rfl ?_
      refine zi_istore_n (pc' := 39) X dX6_nomads_38 rfl rfl (by decide) [(2, .int (0 : Int32)), (0, .ref (zad g a0)), (1, .int a1)] rfl ?_
      exact zi_sub X [1, 2, 0] _ rfl (lX6_nomads_39 X hret 200 a0 a1 (0 : Int32) (m2) ha0 h)
    · replace h := zok_f h c
      refine zi_aload_n (pc' := 32) X dX6_nomads_31 rfl rfl 0 rfl ?_
      refine zi_iconst (pc' := 33) (v := (4 : Int32)) X dX6_nomads_32 rfl rfl ?_
      refine zi_callVi (pc' := 36) X zl_X6_93 ha0 (by decide) [.int (4 : Int32)] rfl rfl (by decide) (Nat.le_of_ble_eq_true rfl) dX6_nomads_33 rfl (tX6_finds _ ha0 (zok_bd h (fun r19 m20 h => ?_)))
      exact hret _ _ _ _ dX6_nomads_36 trivial h
  · replace h := zok_t h c
    refine zi_aload_n (pc' := 13) X dX6_nomads_12 rfl rfl 0 rfl ?_
    refine zi_iconst (pc' := 14) (v := (0 : Int32)) X dX6_nomads_13 rfl rfl ?_
    refine zi_callVi (pc' := 17) X zl_X6_93 ha0 (by decide) [.int (0 : Int32)] rfl rfl (by decide) (Nat.le_of_ble_eq_true rfl) dX6_nomads_14 rfl (tX6_finds _ ha0 (zok_bd h (fun r21 m22 h => ?_)))
    exact hret _ _ _ _ dX6_nomads_17 trivial h
def fX6_numberRead_73 (a0 : Nat) (a1 : Int32) (a2 : Int32) (a3 : Int32) (μ : zMem) : Option (Int32 × zMem) :=
  zbd (fX6_in ((a3).toInt64) ((a1).toInt64) ((a2).toInt64) μ) fun r3 m4 =>
  zbd (fX6_must a0 r3 m4) fun _ m6 =>
  some (a3, m6)
set_option maxRecDepth 100000 in
theorem lX6_numberRead_73 {g : zG} {κ : zK} (X : zC g κ RX6 cX6_numberRead 5 4) {Q : Int32 → zMem → Prop} (hret : ∀ pc lv r μ', decode cX6_numberRead pc = .ok (.ireturn, 1) → True → Q r μ' → zV g κ pc lv [.int r] μ') : ∀ (a0 : Nat) (a1 : Int32) (a2 : Int32) (a3 : Int32) (μ : zMem) (ha0 : zkd a0 = 6), zok (fX6_numberRead_73 a0 a1 a2 a3 μ) Q → zV g κ 73 [(0, .ref (zad g a0)), (1, .int a1), (2, .int a2), (3, .int a3)] [] μ := by
  intro a0 a1 a2 a3 μ ha0 h
  unfold fX6_numberRead_73 at h
  refine zi_aload_n (pc' := 74) X dX6_numberRead_73 rfl rfl 0 rfl ?_
  refine zi_iload_n (pc' := 75) X dX6_numberRead_74 rfl rfl 3 rfl ?_
  refine zi_i2l (pc' := 76) X dX6_numberRead_75 rfl ?_
  refine zi_iload_n (pc' := 77) X dX6_numberRead_76 rfl rfl 1 rfl ?_
  refine zi_i2l (pc' := 78) X dX6_numberRead_77 rfl ?_
  refine zi_iload_n (pc' := 79) X dX6_numberRead_78 rfl rfl 2 rfl ?_
  refine zi_i2l (pc' := 80) X dX6_numberRead_79 rfl ?_
  refine zi_callSi (pc' := 83) X zl_X6_48 [.long ((a3).toInt64), .long ((a1).toInt64), .long ((a2).toInt64)] rfl rfl (by decide) (Nat.le_of_ble_eq_true rfl) dX6_numberRead_80 rfl (tX6_in _ (zok_bd h (fun r3 m4 h => ?_)))
  refine zi_callVv (pc' := 86) X zl_X6_278 ha0 (by decide) [.int r3] rfl rfl (by decide) (Nat.le_of_ble_eq_true rfl) dX6_numberRead_83 rfl (tX6_must _ ha0 (zok_bd h (fun _ m6 h => ?_)))
  refine zi_iload_n (pc' := 87) X dX6_numberRead_86 rfl rfl 3 rfl ?_
  exact hret _ _ _ _ dX6_numberRead_87 trivial h
def fX6_numberRead_27 : Nat → Nat → Int32 → Int32 → Int32 → Int32 → zMem → Option (Int32 × zMem)
  | 0, _, _, _, _, _, _ => none
  | n + 1, a0, a1, a2, a3, a4, μ =>
    if (μ a0 10) ≤ a4 then
      fX6_numberRead_73 a0 a1 a2 a3 μ
    else
      if a3 < 0 then
        fX6_numberRead_73 a0 a1 a2 a3 μ
      else
        if a3 ≤ (999 : Int32) then
          zgd (zib a4 120) (
          fX6_numberRead_27 n a0 a1 a2 ((((10 : Int32) * a3) + (μ (a0 + 7) (a4).toNatClampNeg)) - (48 : Int32)) (a4 + (1 : Int32)) μ)
        else
          fX6_numberRead_27 n a0 a1 a2 a3 (a4 + (1 : Int32)) μ
set_option maxRecDepth 100000 in
theorem lX6_numberRead_27 {g : zG} {κ : zK} (X : zC g κ RX6 cX6_numberRead 5 4) {Q : Int32 → zMem → Prop} (hret : ∀ pc lv r μ', decode cX6_numberRead pc = .ok (.ireturn, 1) → True → Q r μ' → zV g κ pc lv [.int r] μ') : ∀ (n : Nat) (a0 : Nat) (a1 : Int32) (a2 : Int32) (a3 : Int32) (a4 : Int32) (μ : zMem) (ha0 : zkd a0 = 6), zok (fX6_numberRead_27 n a0 a1 a2 a3 a4 μ) Q → zV g κ 27 [(0, .ref (zad g a0)), (1, .int a1), (2, .int a2), (3, .int a3), (4, .int a4)] [] μ := by
  intro n
  induction n with
  | zero =>
    intro a0 a1 a2 a3 a4 μ ha0 h
    exact h.elim
  | succ n ih =>
    intro a0 a1 a2 a3 a4 μ ha0 h
    rw [fX6_numberRead_27] at h
    refine zi_iload (pc' := 29) X dX6_numberRead_27 rfl 4 rfl ?_
    refine zi_aload_n (pc' := 30) X dX6_numberRead_29 rfl rfl 0 rfl ?_
    refine zi_geti (pc' := 33) X zf_X6_249 rfl (by decide) ha0 dX6_numberRead_30 rfl ?_
    refine zi_icmp_ge (pc' := 36) (tgt := 73) X dX6_numberRead_33 rfl rfl (fun c => ?_) (fun c => ?_)
    · replace h := zok_t h c
      exact zi_sub X [0, 1, 2, 3] _ rfl (lX6_numberRead_73 X hret a0 a1 a2 a3 (μ) ha0 h)
    · replace h := zok_f h c
      refine zi_iload_n (pc' := 37) X dX6_numberRead_36 rfl rfl 3 rfl ?_
      refine zi_if_lt (pc' := 40) (tgt := 73) X dX6_numberRead_37 rfl rfl (fun c => ?_) (fun c => ?_)
      · replace h := zok_t h c
        exact zi_sub X [0, 1, 2, 3] _ rfl (lX6_numberRead_73 X hret a0 a1 a2 a3 (μ) ha0 h)
      · replace h := zok_f h c
        refine zi_iload_n (pc' := 41) X dX6_numberRead_40 rfl rfl 3 rfl ?_
        refine zi_sipush (pc' := 44) (v := (999 : Int32)) X dX6_numberRead_41 rfl rfl ?_
        refine zi_icmp_le (pc' := 47) (tgt := 51) X dX6_numberRead_44 rfl rfl (fun c => ?_) (fun c => ?_)
        · replace h := zok_t h c
          refine zi_bipush (pc' := 53) (v := (10 : Int32)) X dX6_numberRead_51 rfl rfl ?_
          refine zi_iload_n (pc' := 54) X dX6_numberRead_53 rfl rfl 3 rfl ?_
          refine zi_imul (pc' := 55) X dX6_numberRead_54 rfl ?_
          refine zi_aload_n (pc' := 56) X dX6_numberRead_55 rfl rfl 0 rfl ?_
          refine zi_getr (pc' := 59) X zf_X6_28 rfl (by decide) ha0 dX6_numberRead_56 rfl ?_
          have f7 := zr_6_7 ha0
          refine zi_iload (pc' := 61) X dX6_numberRead_59 rfl 4 rfl ?_
          obtain ⟨g8, h⟩ := zok_g h
          refine zi_iald (pc' := 62) X f7.1 (by rw [f7.2]; exact g8) dX6_numberRead_61 rfl ?_
          refine zi_iadd (pc' := 63) X dX6_numberRead_62 rfl ?_
          refine zi_bipush (pc' := 65) (v := (48 : Int32)) X dX6_numberRead_63 rfl rfl ?_
          refine zi_isub (pc' := 66) X dX6_numberRead_65 rfl ?_
          refine zi_istore_n (pc' := 67) X dX6_numberRead_66 rfl rfl (by decide) [(3, .int ((((10 : Int32) * a3) + (μ (a0 + 7) (a4).toNatClampNeg)) - (48 : Int32))), (0, .ref (zad g a0)), (1, .int a1), (2, .int a2), (4, .int a4)] rfl ?_
          refine zi_iinc (pc' := 70) (v := (a4 + (1 : Int32))) X dX6_numberRead_67 rfl 4 rfl rfl (by decide) [(4, .int (a4 + (1 : Int32))), (3, .int ((((10 : Int32) * a3) + (μ (a0 + 7) (a4).toNatClampNeg)) - (48 : Int32))), (0, .ref (zad g a0)), (1, .int a1), (2, .int a2)] rfl ?_
          refine zi_goto (pc' := 27) X dX6_numberRead_70 rfl ?_
          exact zi_sub X [2, 3, 4, 1, 0] _ rfl (ih a0 a1 a2 ((((10 : Int32) * a3) + (μ (a0 + 7) (a4).toNatClampNeg)) - (48 : Int32)) (a4 + (1 : Int32)) (μ) ha0 h)
        · replace h := zok_f h c
          refine zi_iload_n (pc' := 48) X dX6_numberRead_47 rfl rfl 3 rfl ?_
          refine zi_goto (pc' := 66) X dX6_numberRead_48 rfl ?_
          refine zi_istore_n (pc' := 67) X dX6_numberRead_66 rfl rfl (by decide) [(3, .int a3), (0, .ref (zad g a0)), (1, .int a1), (2, .int a2), (4, .int a4)] rfl ?_
          refine zi_iinc (pc' := 70) (v := (a4 + (1 : Int32))) X dX6_numberRead_67 rfl 4 rfl rfl (by decide) [(4, .int (a4 + (1 : Int32))), (3, .int a3), (0, .ref (zad g a0)), (1, .int a1), (2, .int a2)] rfl ?_
          refine zi_goto (pc' := 27) X dX6_numberRead_70 rfl ?_
          exact zi_sub X [2, 3, 4, 1, 0] _ rfl (ih a0 a1 a2 a3 (a4 + (1 : Int32)) (μ) ha0 h)
def fX6_numberRead (a0 : Nat) (a1 : Int32) (a2 : Int32) (μ : zMem) : Option (Int32 × zMem) :=
  zbd (fX6_isByte a0 (μ a0 9) (48 : Int32) (57 : Int32) μ) fun r1 m2 =>
  if r1 = 0 then
    fX6_numberRead_27 200 a0 a1 a2 (-1 : Int32) (m2 a0 9) m2
  else
    fX6_numberRead_27 200 a0 a1 a2 (0 : Int32) (m2 a0 9) m2
set_option maxRecDepth 100000 in
set_option maxHeartbeats 4000000 in
theorem tX6_numberRead (g : zG) {a0 : Nat} {a1 : Int32} {a2 : Int32} {μ : zMem} {Q : Int32 → zMem → Prop} (ha0 : zkd a0 = 6) (h : zok (fX6_numberRead a0 a1 a2 μ) Q) : zTi g yX6_numberRead cX6_numberRead 5 .int 4 [.ref (zad g a0), .int a1, .int a2] μ Q := by
  refine zTi_of (P := fun r => True) zpi RX6 (by decide) rfl (Nat.le_of_ble_eq_true rfl) ?_
  intro κ X hret
  unfold fX6_numberRead at h
  refine zi_aload_n (pc' := 1) X dX6_numberRead_0 rfl rfl 0 rfl ?_
  refine zi_aload_n (pc' := 2) X dX6_numberRead_1 rfl rfl 0 rfl ?_
  refine zi_geti (pc' := 5) X zf_X6_252 rfl (by decide) ha0 dX6_numberRead_2 rfl ?_
  refine zi_bipush (pc' := 7) (v := (48 : Int32)) X dX6_numberRead_5 rfl rfl ?_
  refine zi_bipush (pc' := 9) (v := (57 : Int32)) X dX6_numberRead_7 rfl rfl ?_
  refine zi_callVi (pc' := 12) X zl_X6_255 ha0 (by decide) [.int (μ a0 9), .int (48 : Int32), .int (57 : Int32)] rfl rfl (by decide) (Nat.le_of_ble_eq_true rfl) dX6_numberRead_9 rfl (tX6_isByte _ ha0 (zok_bd h (fun r1 m2 h => ?_)))
  refine zi_if_eq (pc' := 15) (tgt := 19) X dX6_numberRead_12 rfl rfl (fun c => ?_) (fun c => ?_)
  · replace h := zok_t h c
    refine zi_iconst (pc' := 20) (v := (-1 : Int32)) X dX6_numberRead_19 rfl rfl ?_
    refine zi_istore_n (pc' := 21) X dX6_numberRead_20 rfl rfl (by decide) [(3, .int (-1 : Int32)), (0, .ref (zad g a0)), (1, .int a1), (2, .int a2)] rfl ?_
    refine zi_aload_n (pc' := 22) X dX6_numberRead_21 rfl rfl 1 rfl ?_
    refine zi_geti (pc' := 25) X zf_X6_252 rfl (by decide) ha0 dX6_numberRead_22 rfl ?_
    refine zi_istore (pc' := 27) X dX6_numberRead_25 rfl (by decide) [(4, .int (m2 a0 9)), (3, .int (-1 : Int32)), (0, .ref (zad g a0)), (1, .int a1), (2, .int a2)] rfl ?_
    exact zi_sub X [2, 3, 4, 1, 0] _ rfl (lX6_numberRead_27 X hret 200 a0 a1 a2 (-1 : Int32) (m2 a0 9) (m2) ha0 h)
  · replace h := zok_f h c
    refine zi_iconst (pc' := 16) (v := (0 : Int32)) X dX6_numberRead_15 rfl rfl ?_
    refine zi_goto (pc' := 20) X dX6_numberRead_16 rfl ?_
    refine zi_istore_n (pc' := 21) X dX6_numberRead_20 rfl rfl (by decide) [(3, .int (0 : Int32)), (0, .ref (zad g a0)), (1, .int a1), (2, .int a2)] rfl ?_
    refine zi_aload_n (pc' := 22) X dX6_numberRead_21 rfl rfl 1 rfl ?_
    refine zi_geti (pc' := 25) X zf_X6_252 rfl (by decide) ha0 dX6_numberRead_22 rfl ?_
    refine zi_istore (pc' := 27) X dX6_numberRead_25 rfl (by decide) [(4, .int (m2 a0 9)), (3, .int (0 : Int32)), (0, .ref (zad g a0)), (1, .int a1), (2, .int a2)] rfl ?_
    exact zi_sub X [2, 3, 4, 1, 0] _ rfl (lX6_numberRead_27 X hret 200 a0 a1 a2 (0 : Int32) (m2 a0 9) (m2) ha0 h)
def fX6_reach_26 : Nat → Nat → Int32 → Int32 → zMem → Option (Int32 × zMem)
  | 0, _, _, _, _ => none
  | n + 1, a0, a3, a4, μ =>
    if (25 : Int32) ≤ a4 then
      some (a3, μ)
    else
      zgd (zib a4 25) (
      if (μ (a0 + 5) (a4).toNatClampNeg) < 0 then
        fX6_reach_26 n a0 (a3 ||| (0 : Int32)) (a4 + (1 : Int32)) μ
      else
        fX6_reach_26 n a0 (a3 ||| ((1 : Int32) <<< (a4 &&& 31))) (a4 + (1 : Int32)) μ)
set_option maxRecDepth 100000 in
theorem lX6_reach_26 {g : zG} {κ : zK} (X : zC g κ RX6 cX6_reach 5 4) {Q : Int32 → zMem → Prop} (hret : ∀ pc lv r μ', decode cX6_reach pc = .ok (.ireturn, 1) → True → Q r μ' → zV g κ pc lv [.int r] μ') : ∀ (n : Nat) (a0 : Nat) (a3 : Int32) (a4 : Int32) (μ : zMem) (ha0 : zkd a0 = 6), zok (fX6_reach_26 n a0 a3 a4 μ) Q → zV g κ 26 [(0, .ref (zad g a0)), (3, .int a3), (4, .int a4)] [] μ := by
  intro n
  induction n with
  | zero =>
    intro a0 a3 a4 μ ha0 h
    exact h.elim
  | succ n ih =>
    intro a0 a3 a4 μ ha0 h
    rw [fX6_reach_26] at h
    refine zi_iload (pc' := 28) X dX6_reach_26 rfl 2 rfl ?_
    refine zi_bipush (pc' := 30) (v := (25 : Int32)) X dX6_reach_28 rfl rfl ?_
    refine zi_icmp_ge (pc' := 33) (tgt := 60) X dX6_reach_30 rfl rfl (fun c => ?_) (fun c => ?_)
    · replace h := zok_t h c
      refine zi_iload_n (pc' := 61) X dX6_reach_60 rfl rfl 1 rfl ?_
      exact hret _ _ _ _ dX6_reach_61 trivial h
    · replace h := zok_f h c
      refine zi_iload_n (pc' := 34) X dX6_reach_33 rfl rfl 1 rfl ?_
      refine zi_aload_n (pc' := 35) X dX6_reach_34 rfl rfl 0 rfl ?_
      refine zi_getr (pc' := 38) X zf_X6_22 rfl (by decide) ha0 dX6_reach_35 rfl ?_
      have f5 := zr_6_5 ha0
      refine zi_iload (pc' := 40) X dX6_reach_38 rfl 2 rfl ?_
      obtain ⟨g6, h⟩ := zok_g h
      refine zi_iald (pc' := 41) X f5.1 (by rw [f5.2]; exact g6) dX6_reach_40 rfl ?_
      refine zi_if_lt (pc' := 44) (tgt := 51) X dX6_reach_41 rfl rfl (fun c => ?_) (fun c => ?_)
      · replace h := zok_t h c
        refine zi_iconst (pc' := 52) (v := (0 : Int32)) X dX6_reach_51 rfl rfl ?_
        refine zi_ior (pc' := 53) X dX6_reach_52 rfl ?_
        refine zi_istore_n (pc' := 54) X dX6_reach_53 rfl rfl (by decide) [(3, .int (a3 ||| (0 : Int32))), (0, .ref (zad g a0)), (4, .int a4)] rfl ?_
        refine zi_iinc (pc' := 57) (v := (a4 + (1 : Int32))) X dX6_reach_54 rfl 2 rfl rfl (by decide) [(4, .int (a4 + (1 : Int32))), (3, .int (a3 ||| (0 : Int32))), (0, .ref (zad g a0))] rfl ?_
        refine zi_goto (pc' := 26) X dX6_reach_57 rfl ?_
        exact zi_sub X [2, 1, 0] _ rfl (ih a0 (a3 ||| (0 : Int32)) (a4 + (1 : Int32)) (μ) ha0 h)
      · replace h := zok_f h c
        refine zi_iconst (pc' := 45) (v := (1 : Int32)) X dX6_reach_44 rfl rfl ?_
        refine zi_iload (pc' := 47) X dX6_reach_45 rfl 2 rfl ?_
        refine zi_ishl (pc' := 48) X dX6_reach_47 rfl ?_
        refine zi_goto (pc' := 52) X dX6_reach_48 rfl ?_
        refine zi_ior (pc' := 53) X dX6_reach_52 rfl ?_
        refine zi_istore_n (pc' := 54) X dX6_reach_53 rfl rfl (by decide) [(3, .int (a3 ||| ((1 : Int32) <<< (a4 &&& 31)))), (0, .ref (zad g a0)), (4, .int a4)] rfl ?_
        refine zi_iinc (pc' := 57) (v := (a4 + (1 : Int32))) X dX6_reach_54 rfl 2 rfl rfl (by decide) [(4, .int (a4 + (1 : Int32))), (3, .int (a3 ||| ((1 : Int32) <<< (a4 &&& 31)))), (0, .ref (zad g a0))] rfl ?_
        refine zi_goto (pc' := 26) X dX6_reach_57 rfl ?_
        exact zi_sub X [2, 1, 0] _ rfl (ih a0 (a3 ||| ((1 : Int32) <<< (a4 &&& 31))) (a4 + (1 : Int32)) (μ) ha0 h)
def fX6_reach (a0 : Nat) (a1 : Int32) (a2 : Int32) (μ : zMem) : Option (Int32 × zMem) :=
  zbd (fX6_areWay a1 a1 a2 μ) fun r1 m2 =>
  if r1 = 0 then
    zbd (fX6_finds a0 (0 : Int32) m2) fun r7 m8 =>
    some (r7, m8)
  else
    zbd (fX6_walk a0 a1 a2 m2) fun _ m4 =>
    fX6_reach_26 200 a0 (0 : Int32) (0 : Int32) m4
set_option maxRecDepth 100000 in
set_option maxHeartbeats 4000000 in
theorem tX6_reach (g : zG) {a0 : Nat} {a1 : Int32} {a2 : Int32} {μ : zMem} {Q : Int32 → zMem → Prop} (ha0 : zkd a0 = 6) (h : zok (fX6_reach a0 a1 a2 μ) Q) : zTi g yX6_reach cX6_reach 5 .int 4 [.ref (zad g a0), .int a1, .int a2] μ Q := by
  refine zTi_of (P := fun r => True) zpi RX6 (by decide) rfl (Nat.le_of_ble_eq_true rfl) ?_
  intro κ X hret
  unfold fX6_reach at h
  refine zi_iload_n (pc' := 1) X dX6_reach_0 rfl rfl 1 rfl ?_
  refine zi_iload_n (pc' := 2) X dX6_reach_1 rfl rfl 1 rfl ?_
  refine zi_iload_n (pc' := 3) X dX6_reach_2 rfl rfl 2 rfl ?_
  refine zi_callSi (pc' := 6) X zl_X6_183 [.int a1, .int a1, .int a2] rfl rfl (by decide) (Nat.le_of_ble_eq_true rfl) dX6_reach_3 rfl (tX6_areWay _ (zok_bd h (fun r1 m2 h => ?_)))
  refine zi_if_ne (pc' := 9) (tgt := 15) X dX6_reach_6 rfl rfl (fun c => ?_) (fun c => ?_)
  · replace h := zok_f h c
    refine zi_aload_n (pc' := 16) X dX6_reach_15 rfl rfl 0 rfl ?_
    refine zi_iload_n (pc' := 17) X dX6_reach_16 rfl rfl 1 rfl ?_
    refine zi_iload_n (pc' := 18) X dX6_reach_17 rfl rfl 2 rfl ?_
    refine zi_callVv (pc' := 21) X zl_X6_186 ha0 (by decide) [.int a1, .int a2] rfl rfl (by decide) (Nat.le_of_ble_eq_true rfl) dX6_reach_18 rfl (tX6_walk _ ha0 (zok_bd h (fun _ m4 h => ?_)))
    refine zi_iconst (pc' := 22) (v := (0 : Int32)) X dX6_reach_21 rfl rfl ?_
    refine zi_istore_n (pc' := 23) X dX6_reach_22 rfl rfl (by decide) [(3, .int (0 : Int32)), (0, .ref (zad g a0)), (1, .int a1), (2, .int a2)] rfl ?_
    refine zi_iconst (pc' := 24) (v := (0 : Int32)) X dX6_reach_23 rfl rfl ?_
    refine zi_istore (pc' := 26) X dX6_reach_24 rfl (by decide) [(4, .int (0 : Int32)), (3, .int (0 : Int32)), (0, .ref (zad g a0)), (1, .int a1), (2, .int a2)] rfl ?_
    exact zi_sub X [2, 1, 0] _ rfl (lX6_reach_26 X hret 200 a0 (0 : Int32) (0 : Int32) (m4) ha0 h)
  · replace h := zok_t h c
    refine zi_aload_n (pc' := 10) X dX6_reach_9 rfl rfl 0 rfl ?_
    refine zi_iconst (pc' := 11) (v := (0 : Int32)) X dX6_reach_10 rfl rfl ?_
    refine zi_callVi (pc' := 14) X zl_X6_93 ha0 (by decide) [.int (0 : Int32)] rfl rfl (by decide) (Nat.le_of_ble_eq_true rfl) dX6_reach_11 rfl (tX6_finds _ ha0 (zok_bd h (fun r7 m8 h => ?_)))
    exact hret _ _ _ _ dX6_reach_14 trivial h
