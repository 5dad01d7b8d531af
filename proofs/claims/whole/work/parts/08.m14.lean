def fX6_first (a0 : Nat) (a1 : Int32) (a2 : Int32) (a3 : Int32) (μ : zMem) : Option (Int32 × zMem) :=
  zbd (fX6_isTent a0 a1 μ) fun r1 m2 =>
  if r1 = 0 then
    zbd (fX6_finds a0 (0 : Int32) m2) fun r3 m4 =>
    some (r3, m4)
  else
    zbd (fX6_isTent a0 a2 m2) fun r5 m6 =>
    if r5 = 0 then
      zbd (fX6_finds a0 (0 : Int32) m6) fun r7 m8 =>
      some (r7, m8)
    else
      zbd (fX6_isPitch a3 m6) fun r9 m10 =>
      if r9 = 0 then
        zbd (fX6_finds a0 (0 : Int32) m10) fun r11 m12 =>
        some (r11, m12)
      else
        if a1 = a2 then
          zbd (fX6_finds a0 (0 : Int32) m10) fun r17 m18 =>
          some (r17, m18)
        else
          zbd (fX6_heightsBy a0 a1 a2 a3 m10) fun r13 m14 =>
          zbd (fX6_heightsBy a0 a2 a1 a3 m14) fun r15 m16 =>
          some ((r13 - r15), m16)
set_option maxRecDepth 100000 in
set_option maxHeartbeats 4000000 in
theorem tX6_first (g : zG) {a0 : Nat} {a1 : Int32} {a2 : Int32} {a3 : Int32} {μ : zMem} {Q : Int32 → zMem → Prop} (ha0 : zkd a0 = 6) (h : zok (fX6_first a0 a1 a2 a3 μ) Q) : zTi g yX6_first cX6_first 4 .int 6 [.ref (zad g a0), .int a1, .int a2, .int a3] μ Q := by
  refine zTi_of (P := fun r => True) zpi RX6 (by decide) rfl (Nat.le_of_ble_eq_true rfl) ?_
  intro κ X hret
  unfold fX6_first at h
  refine zi_aload_n (pc' := 1) X dX6_first_0 rfl rfl 0 rfl ?_
  refine zi_iload_n (pc' := 2) X dX6_first_1 rfl rfl 1 rfl ?_
  refine zi_callVi (pc' := 5) X zl_X6_127 ha0 (by decide) [.int a1] rfl rfl (by decide) (Nat.le_of_ble_eq_true rfl) dX6_first_2 rfl (tX6_isTent _ ha0 (zok_bd h (fun r1 m2 h => ?_)))
  refine zi_if_eq (pc' := 8) (tgt := 28) X dX6_first_5 rfl rfl (fun c => ?_) (fun c => ?_)
  · replace h := zok_t h c
    refine zi_aload_n (pc' := 29) X dX6_first_28 rfl rfl 0 rfl ?_
    refine zi_iconst (pc' := 30) (v := (0 : Int32)) X dX6_first_29 rfl rfl ?_
    refine zi_callVi (pc' := 33) X zl_X6_93 ha0 (by decide) [.int (0 : Int32)] rfl rfl (by decide) (Nat.le_of_ble_eq_true rfl) dX6_first_30 rfl (tX6_finds _ ha0 (zok_bd h (fun r3 m4 h => ?_)))
    exact hret _ _ _ _ dX6_first_33 trivial h
  · replace h := zok_f h c
    refine zi_aload_n (pc' := 9) X dX6_first_8 rfl rfl 0 rfl ?_
    refine zi_iload_n (pc' := 10) X dX6_first_9 rfl rfl 2 rfl ?_
    refine zi_callVi (pc' := 13) X zl_X6_127 ha0 (by decide) [.int a2] rfl rfl (by decide) (Nat.le_of_ble_eq_true rfl) dX6_first_10 rfl (tX6_isTent _ ha0 (zok_bd h (fun r5 m6 h => ?_)))
    refine zi_if_eq (pc' := 16) (tgt := 28) X dX6_first_13 rfl rfl (fun c => ?_) (fun c => ?_)
    · replace h := zok_t h c
      refine zi_aload_n (pc' := 29) X dX6_first_28 rfl rfl 0 rfl ?_
      refine zi_iconst (pc' := 30) (v := (0 : Int32)) X dX6_first_29 rfl rfl ?_
      refine zi_callVi (pc' := 33) X zl_X6_93 ha0 (by decide) [.int (0 : Int32)] rfl rfl (by decide) (Nat.le_of_ble_eq_true rfl) dX6_first_30 rfl (tX6_finds _ ha0 (zok_bd h (fun r7 m8 h => ?_)))
      exact hret _ _ _ _ dX6_first_33 trivial h
    · replace h := zok_f h c
      refine zi_iload_n (pc' := 17) X dX6_first_16 rfl rfl 3 rfl ?_
      refine zi_callSi (pc' := 20) X zl_X6_210 [.int a3] rfl rfl (by decide) (Nat.le_of_ble_eq_true rfl) dX6_first_17 rfl (tX6_isPitch _ (zok_bd h (fun r9 m10 h => ?_)))
      refine zi_if_eq (pc' := 23) (tgt := 28) X dX6_first_20 rfl rfl (fun c => ?_) (fun c => ?_)
      · replace h := zok_t h c
        refine zi_aload_n (pc' := 29) X dX6_first_28 rfl rfl 0 rfl ?_
        refine zi_iconst (pc' := 30) (v := (0 : Int32)) X dX6_first_29 rfl rfl ?_
        refine zi_callVi (pc' := 33) X zl_X6_93 ha0 (by decide) [.int (0 : Int32)] rfl rfl (by decide) (Nat.le_of_ble_eq_true rfl) dX6_first_30 rfl (tX6_finds _ ha0 (zok_bd h (fun r11 m12 h => ?_)))
        exact hret _ _ _ _ dX6_first_33 trivial h
      · replace h := zok_f h c
        refine zi_iload_n (pc' := 24) X dX6_first_23 rfl rfl 1 rfl ?_
        refine zi_iload_n (pc' := 25) X dX6_first_24 rfl rfl 2 rfl ?_
        refine zi_icmp_ne (pc' := 28) (tgt := 34) X dX6_first_25 rfl rfl (fun c => ?_) (fun c => ?_)
        · replace h := zok_f h c
          refine zi_aload_n (pc' := 35) X dX6_first_34 rfl rfl 0 rfl ?_
          refine zi_iload_n (pc' := 36) X dX6_first_35 rfl rfl 1 rfl ?_
          refine zi_iload_n (pc' := 37) X dX6_first_36 rfl rfl 2 rfl ?_
          refine zi_iload_n (pc' := 38) X dX6_first_37 rfl rfl 3 rfl ?_
          refine zi_callVi (pc' := 41) X zl_X6_219 ha0 (by decide) [.int a1, .int a2, .int a3] rfl rfl (by decide) (Nat.le_of_ble_eq_true rfl) dX6_first_38 rfl (tX6_heightsBy _ ha0 (zok_bd h (fun r13 m14 h => ?_)))
          refine zi_aload_n (pc' := 42) X dX6_first_41 rfl rfl 0 rfl ?_
          refine zi_iload_n (pc' := 43) X dX6_first_42 rfl rfl 2 rfl ?_
          refine zi_iload_n (pc' := 44) X dX6_first_43 rfl rfl 1 rfl ?_
          refine zi_iload_n (pc' := 45) X dX6_first_44 rfl rfl 3 rfl ?_
          refine zi_callVi (pc' := 48) X zl_X6_219 ha0 (by decide) [.int a2, .int a1, .int a3] rfl rfl (by decide) (Nat.le_of_ble_eq_true rfl) dX6_first_45 rfl (tX6_heightsBy _ ha0 (zok_bd h (fun r15 m16 h => ?_)))
          refine zi_isub (pc' := 49) X dX6_first_48 rfl ?_
          exact hret _ _ _ _ dX6_first_49 trivial h
        · replace h := zok_t h c
          refine zi_aload_n (pc' := 29) X dX6_first_28 rfl rfl 0 rfl ?_
          refine zi_iconst (pc' := 30) (v := (0 : Int32)) X dX6_first_29 rfl rfl ?_
          refine zi_callVi (pc' := 33) X zl_X6_93 ha0 (by decide) [.int (0 : Int32)] rfl rfl (by decide) (Nat.le_of_ble_eq_true rfl) dX6_first_30 rfl (tX6_finds _ ha0 (zok_bd h (fun r17 m18 h => ?_)))
          exact hret _ _ _ _ dX6_first_33 trivial h
def fX6_tentTold_92 : Nat → Nat → Int32 → Int32 → zMem → Option (Unit × zMem)
  | 0, _, _, _, _ => none
  | n + 1, a0, a2, a3, μ =>
    if (4 : Int32) ≤ a3 then
      some ((), μ)
    else
      zbd (fX6_numberRead a0 (0 : Int32) (99 : Int32) μ) fun r13 m14 =>
      zbd (fX6_sets a0 a2 ((4 : Int32) + a3) r13 m14) fun _ m16 =>
      fX6_tentTold_92 n a0 a2 (a3 + (1 : Int32)) m16
set_option maxRecDepth 100000 in
theorem lX6_tentTold_92 {g : zG} {κ : zK} (X : zC g κ RX6 cX6_tentTold 4 6) {Q : Unit → zMem → Prop} (hret : ∀ pc lv μ', decode cX6_tentTold pc = .ok (.return_, 1) → Q () μ' → zV g κ pc lv [] μ') : ∀ (n : Nat) (a0 : Nat) (a2 : Int32) (a3 : Int32) (μ : zMem) (ha0 : zkd a0 = 6), zok (fX6_tentTold_92 n a0 a2 a3 μ) Q → zV g κ 92 [(0, .ref (zad g a0)), (2, .int a2), (3, .int a3)] [] μ := by
  intro n
  induction n with
  | zero =>
    intro a0 a2 a3 μ ha0 h
    exact h.elim
  | succ n ih =>
    intro a0 a2 a3 μ ha0 h
    rw [fX6_tentTold_92] at h
    refine zi_iload_n (pc' := 93) X dX6_tentTold_92 rfl rfl 2 rfl ?_
    refine zi_iconst (pc' := 94) (v := (4 : Int32)) X dX6_tentTold_93 rfl rfl ?_
    refine zi_icmp_ge (pc' := 97) (tgt := 118) X dX6_tentTold_94 rfl rfl (fun c => ?_) (fun c => ?_)
    · replace h := zok_t h c
      exact hret _ _ _ dX6_tentTold_118 h
    · replace h := zok_f h c
      refine zi_aload_n (pc' := 98) X dX6_tentTold_97 rfl rfl 0 rfl ?_
      refine zi_iload_n (pc' := 99) X dX6_tentTold_98 rfl rfl 1 rfl ?_
      refine zi_iconst (pc' := 100) (v := (4 : Int32)) X dX6_tentTold_99 rfl rfl ?_
      refine zi_iload_n (pc' := 101) X dX6_tentTold_100 rfl rfl 2 rfl ?_
      refine zi_iadd (pc' := 102) X dX6_tentTold_101 rfl ?_
      refine zi_aload_n (pc' := 103) X dX6_tentTold_102 rfl rfl 0 rfl ?_
      refine zi_iconst (pc' := 104) (v := (0 : Int32)) X dX6_tentTold_103 rfl rfl ?_
      refine zi_bipush (pc' := 106) (v := (99 : Int32)) X dX6_tentTold_104 rfl rfl ?_
      refine zi_callVi (pc' := 109) X zl_X6_300 ha0 (by decide) [.int (0 : Int32), .int (99 : Int32)] rfl rfl (by decide) (Nat.le_of_ble_eq_true rfl) dX6_tentTold_106 rfl (tX6_numberRead _ ha0 (zok_bd h (fun r13 m14 h => ?_)))
      refine zi_callVv (pc' := 112) X zl_X6_79 ha0 (by decide) [.int a2, .int ((4 : Int32) + a3), .int r13] rfl rfl (by decide) (Nat.le_of_ble_eq_true rfl) dX6_tentTold_109 rfl (tX6_sets _ ha0 (zok_bd h (fun _ m16 h => ?_)))
      refine zi_iinc (pc' := 115) (v := (a3 + (1 : Int32))) X dX6_tentTold_112 rfl 2 rfl rfl (by decide) [(3, .int (a3 + (1 : Int32))), (0, .ref (zad g a0)), (2, .int a2)] rfl ?_
      refine zi_goto (pc' := 92) X dX6_tentTold_115 rfl ?_
      exact zi_sub X [1, 2, 0] _ rfl (ih a0 a2 (a3 + (1 : Int32)) (m16) ha0 h)
def fX6_tentTold_80 (a0 : Nat) (a2 : Int32) (μ : zMem) : Option (Unit × zMem) :=
  zbd (fX6_takes_ a0 22 μ) fun r11 m12 =>
  if r11 = 0 then
    some ((), m12)
  else
    fX6_tentTold_92 200 a0 a2 (0 : Int32) m12
set_option maxRecDepth 100000 in
theorem lX6_tentTold_80 {g : zG} {κ : zK} (X : zC g κ RX6 cX6_tentTold 4 6) {Q : Unit → zMem → Prop} (hret : ∀ pc lv μ', decode cX6_tentTold pc = .ok (.return_, 1) → Q () μ' → zV g κ pc lv [] μ') : ∀ (a0 : Nat) (a2 : Int32) (μ : zMem) (ha0 : zkd a0 = 6), zok (fX6_tentTold_80 a0 a2 μ) Q → zV g κ 80 [(0, .ref (zad g a0)), (2, .int a2)] [] μ := by
  intro a0 a2 μ ha0 h
  unfold fX6_tentTold_80 at h
  refine zi_aload_n (pc' := 81) X dX6_tentTold_80 rfl rfl 0 rfl ?_
  refine zi_ldcSw (pc' := 84) X 22 (by decide) rfl rfl dX6_tentTold_81 rfl ?_
  refine zi_callVi (pc' := 87) X zl_X6_298 ha0 (by decide) [.ref (zak g 22)] rfl rfl (by decide) (Nat.le_of_ble_eq_true rfl) dX6_tentTold_84 rfl (tX6_takes_ _ ha0 (zok_bd h (fun r11 m12 h => ?_)))
  refine zi_if_eq (pc' := 90) (tgt := 118) X dX6_tentTold_87 rfl rfl (fun c => ?_) (fun c => ?_)
  · replace h := zok_t h c
    exact hret _ _ _ dX6_tentTold_118 h
  · replace h := zok_f h c
    refine zi_iconst (pc' := 91) (v := (0 : Int32)) X dX6_tentTold_90 rfl rfl ?_
    refine zi_istore_n (pc' := 92) X dX6_tentTold_91 rfl rfl (by decide) [(3, .int (0 : Int32)), (0, .ref (zad g a0)), (2, .int a2)] rfl ?_
    exact zi_sub X [1, 2, 0] _ rfl (lX6_tentTold_92 X hret 200 a0 a2 (0 : Int32) (m12) ha0 h)
def fX6_tentTold_57 (a0 : Nat) (a2 : Int32) (μ : zMem) : Option (Unit × zMem) :=
  zbd (fX6_takes_ a0 21 μ) fun r9 m10 =>
  if r9 = 0 then
    fX6_tentTold_80 a0 a2 m10
  else
    zbd (fX6_numberRead a0 (0 : Int32) (99 : Int32) m10) fun r17 m18 =>
    zbd (fX6_sets a0 a2 (2 : Int32) r17 m18) fun _ m20 =>
    fX6_tentTold_80 a0 a2 m20
set_option maxRecDepth 100000 in
theorem lX6_tentTold_57 {g : zG} {κ : zK} (X : zC g κ RX6 cX6_tentTold 4 6) {Q : Unit → zMem → Prop} (hret : ∀ pc lv μ', decode cX6_tentTold pc = .ok (.return_, 1) → Q () μ' → zV g κ pc lv [] μ') : ∀ (a0 : Nat) (a2 : Int32) (μ : zMem) (ha0 : zkd a0 = 6), zok (fX6_tentTold_57 a0 a2 μ) Q → zV g κ 57 [(0, .ref (zad g a0)), (2, .int a2)] [] μ := by
  intro a0 a2 μ ha0 h
  unfold fX6_tentTold_57 at h
  refine zi_aload_n (pc' := 58) X dX6_tentTold_57 rfl rfl 0 rfl ?_
  refine zi_ldcSw (pc' := 61) X 21 (by decide) rfl rfl dX6_tentTold_58 rfl ?_
  refine zi_callVi (pc' := 64) X zl_X6_298 ha0 (by decide) [.ref (zak g 21)] rfl rfl (by decide) (Nat.le_of_ble_eq_true rfl) dX6_tentTold_61 rfl (tX6_takes_ _ ha0 (zok_bd h (fun r9 m10 h => ?_)))
  refine zi_if_eq (pc' := 67) (tgt := 80) X dX6_tentTold_64 rfl rfl (fun c => ?_) (fun c => ?_)
  · replace h := zok_t h c
    exact zi_sub X [0, 1] _ rfl (lX6_tentTold_80 X hret a0 a2 (m10) ha0 h)
  · replace h := zok_f h c
    refine zi_aload_n (pc' := 68) X dX6_tentTold_67 rfl rfl 0 rfl ?_
    refine zi_iload_n (pc' := 69) X dX6_tentTold_68 rfl rfl 1 rfl ?_
    refine zi_iconst (pc' := 70) (v := (2 : Int32)) X dX6_tentTold_69 rfl rfl ?_
    refine zi_aload_n (pc' := 71) X dX6_tentTold_70 rfl rfl 0 rfl ?_
    refine zi_iconst (pc' := 72) (v := (0 : Int32)) X dX6_tentTold_71 rfl rfl ?_
    refine zi_bipush (pc' := 74) (v := (99 : Int32)) X dX6_tentTold_72 rfl rfl ?_
    refine zi_callVi (pc' := 77) X zl_X6_300 ha0 (by decide) [.int (0 : Int32), .int (99 : Int32)] rfl rfl (by decide) (Nat.le_of_ble_eq_true rfl) dX6_tentTold_74 rfl (tX6_numberRead _ ha0 (zok_bd h (fun r17 m18 h => ?_)))
    refine zi_callVv (pc' := 80) X zl_X6_79 ha0 (by decide) [.int a2, .int (2 : Int32), .int r17] rfl rfl (by decide) (Nat.le_of_ble_eq_true rfl) dX6_tentTold_77 rfl (tX6_sets _ ha0 (zok_bd h (fun _ m20 h => ?_)))
    exact zi_sub X [0, 1] _ rfl (lX6_tentTold_80 X hret a0 a2 (m20) ha0 h)
def fX6_tentTold_17 (a0 : Nat) (a1 : Int32) (s0 : Int32) (s1 : Nat) (μ : zMem) : Option (Unit × zMem) :=
  zbd (fX6_must s1 s0 μ) fun _ m4 =>
  if (m4 a0 11) = 0 then
    zbd (fX6_adds a0 a1 m4) fun r5 m6 =>
    zbd (fX6_takes_ a0 20 m6) fun r7 m8 =>
    if r7 = 0 then
      fX6_tentTold_57 a0 r5 m8
    else
      zbd (fX6_numberRead a0 (0 : Int32) (15 : Int32) m8) fun r21 m22 =>
      zbd (fX6_sets a0 r5 (1 : Int32) r21 m22) fun _ m24 =>
      fX6_tentTold_57 a0 r5 m24
  else
    some ((), m4)
set_option maxRecDepth 100000 in
theorem lX6_tentTold_17 {g : zG} {κ : zK} (X : zC g κ RX6 cX6_tentTold 4 6) {Q : Unit → zMem → Prop} (hret : ∀ pc lv μ', decode cX6_tentTold pc = .ok (.return_, 1) → Q () μ' → zV g κ pc lv [] μ') : ∀ (a0 : Nat) (a1 : Int32) (s0 : Int32) (s1 : Nat) (μ : zMem) (ha0 : zkd a0 = 6) (hs1 : zkd s1 = 6), zok (fX6_tentTold_17 a0 a1 s0 s1 μ) Q → zV g κ 17 [(0, .ref (zad g a0)), (1, .int a1)] [.int s0, .ref (zad g s1)] μ := by
  intro a0 a1 s0 s1 μ ha0 hs1 h
  unfold fX6_tentTold_17 at h
  refine zi_callVv (pc' := 20) X zl_X6_278 hs1 (by decide) [.int s0] rfl rfl (by decide) (Nat.le_of_ble_eq_true rfl) dX6_tentTold_17 rfl (tX6_must _ hs1 (zok_bd h (fun _ m4 h => ?_)))
  refine zi_aload_n (pc' := 21) X dX6_tentTold_20 rfl rfl 0 rfl ?_
  refine zi_geti (pc' := 24) X zf_X6_258 rfl (by decide) ha0 dX6_tentTold_21 rfl ?_
  refine zi_if_eq (pc' := 27) (tgt := 28) X dX6_tentTold_24 rfl rfl (fun c => ?_) (fun c => ?_)
  · replace h := zok_t h c
    refine zi_aload_n (pc' := 29) X dX6_tentTold_28 rfl rfl 0 rfl ?_
    refine zi_iload_n (pc' := 30) X dX6_tentTold_29 rfl rfl 1 rfl ?_
    refine zi_callVi (pc' := 33) X zl_X6_124 ha0 (by decide) [.int a1] rfl rfl (by decide) (Nat.le_of_ble_eq_true rfl) dX6_tentTold_30 rfl (tX6_adds _ ha0 (zok_bd h (fun r5 m6 h => ?_)))
    refine zi_istore_n (pc' := 34) X dX6_tentTold_33 rfl rfl (by decide) [(2, .int r5), (0, .ref (zad g a0)), (1, .int a1)] rfl ?_
    refine zi_aload_n (pc' := 35) X dX6_tentTold_34 rfl rfl 1 rfl ?_
    refine zi_ldcSw (pc' := 38) X 20 (by decide) rfl rfl dX6_tentTold_35 rfl ?_
    refine zi_callVi (pc' := 41) X zl_X6_298 ha0 (by decide) [.ref (zak g 20)] rfl rfl (by decide) (Nat.le_of_ble_eq_true rfl) dX6_tentTold_38 rfl (tX6_takes_ _ ha0 (zok_bd h (fun r7 m8 h => ?_)))
    refine zi_if_eq (pc' := 44) (tgt := 57) X dX6_tentTold_41 rfl rfl (fun c => ?_) (fun c => ?_)
    · replace h := zok_t h c
      exact zi_sub X [1, 0] _ rfl (lX6_tentTold_57 X hret a0 r5 (m8) ha0 h)
    · replace h := zok_f h c
      refine zi_aload_n (pc' := 45) X dX6_tentTold_44 rfl rfl 1 rfl ?_
      refine zi_iload_n (pc' := 46) X dX6_tentTold_45 rfl rfl 0 rfl ?_
      refine zi_iconst (pc' := 47) (v := (1 : Int32)) X dX6_tentTold_46 rfl rfl ?_
      refine zi_aload_n (pc' := 48) X dX6_tentTold_47 rfl rfl 1 rfl ?_
      refine zi_iconst (pc' := 49) (v := (0 : Int32)) X dX6_tentTold_48 rfl rfl ?_
      refine zi_bipush (pc' := 51) (v := (15 : Int32)) X dX6_tentTold_49 rfl rfl ?_
      refine zi_callVi (pc' := 54) X zl_X6_300 ha0 (by decide) [.int (0 : Int32), .int (15 : Int32)] rfl rfl (by decide) (Nat.le_of_ble_eq_true rfl) dX6_tentTold_51 rfl (tX6_numberRead _ ha0 (zok_bd h (fun r21 m22 h => ?_)))
      refine zi_callVv (pc' := 57) X zl_X6_79 ha0 (by decide) [.int r5, .int (1 : Int32), .int r21] rfl rfl (by decide) (Nat.le_of_ble_eq_true rfl) dX6_tentTold_54 rfl (tX6_sets _ ha0 (zok_bd h (fun _ m24 h => ?_)))
      exact zi_sub X [1, 0] _ rfl (lX6_tentTold_57 X hret a0 r5 (m24) ha0 h)
  · replace h := zok_f h c
    exact hret _ _ _ dX6_tentTold_27 h
def fX6_tentTold (a0 : Nat) (a1 : Int32) (μ : zMem) : Option (Unit × zMem) :=
  zgd (zib (2 : Int32) 87) (
  if (6 : Int32) ≤ (μ (a0 + 1) ((2 : Int32)).toNatClampNeg) then
    fX6_tentTold_17 a0 a1 (0 : Int32) a0 μ
  else
    fX6_tentTold_17 a0 a1 (1 : Int32) a0 μ)
set_option maxRecDepth 100000 in
set_option maxHeartbeats 4000000 in
theorem tX6_tentTold (g : zG) {a0 : Nat} {a1 : Int32} {μ : zMem} {Q : Unit → zMem → Prop} (ha0 : zkd a0 = 6) (h : zok (fX6_tentTold a0 a1 μ) Q) : zTv g yX6_tentTold cX6_tentTold 4 6 [.ref (zad g a0), .int a1] μ Q := by
  refine zTv_of RX6 (by decide) rfl (Nat.le_of_ble_eq_true rfl) ?_
  intro κ X hret
  unfold fX6_tentTold at h
  refine zi_aload_n (pc' := 1) X dX6_tentTold_0 rfl rfl 0 rfl ?_
  refine zi_aload_n (pc' := 2) X dX6_tentTold_1 rfl rfl 0 rfl ?_
  refine zi_getr (pc' := 5) X zf_X6_9 rfl (by decide) ha0 dX6_tentTold_2 rfl ?_
  have f1 := zr_6_0 ha0
  refine zi_iconst (pc' := 6) (v := (2 : Int32)) X dX6_tentTold_5 rfl rfl ?_
  obtain ⟨g2, h⟩ := zok_g h
  refine zi_iald (pc' := 7) X f1.1 (by rw [f1.2]; exact g2) dX6_tentTold_6 rfl ?_
  refine zi_bipush (pc' := 9) (v := (6 : Int32)) X dX6_tentTold_7 rfl rfl ?_
  refine zi_icmp_ge (pc' := 12) (tgt := 16) X dX6_tentTold_9 rfl rfl (fun c => ?_) (fun c => ?_)
  · replace h := zok_t h c
    refine zi_iconst (pc' := 17) (v := (0 : Int32)) X dX6_tentTold_16 rfl rfl ?_
    exact zi_sub X [0, 1] _ rfl (lX6_tentTold_17 X hret a0 a1 (0 : Int32) a0 (μ) ha0 ha0 h)
  · replace h := zok_f h c
    refine zi_iconst (pc' := 13) (v := (1 : Int32)) X dX6_tentTold_12 rfl rfl ?_
    refine zi_goto (pc' := 17) X dX6_tentTold_13 rfl ?_
    exact zi_sub X [0, 1] _ rfl (lX6_tentTold_17 X hret a0 a1 (1 : Int32) a0 (μ) ha0 ha0 h)
def fX6_item (a0 : Nat) (μ : zMem) : Option (Unit × zMem) :=
  zbd (fX6_kindHere a0 μ) fun r1 m2 =>
  if r1 < 0 then
    zbd (fX6_takes_ a0 23 m2) fun r3 m4 =>
    if r3 = 0 then
      zbd (fX6_takes_ a0 24 m4) fun r5 m6 =>
      if r5 = 0 then
        zbd (fX6_isWord a0 25 m6) fun r7 m8 =>
        zbd (fX6_must a0 r7 m8) fun _ m10 =>
        zbd (fX6_springTold a0 (0 : Int32) m10) fun _ m12 =>
        some ((), m12)
      else
        zbd (fX6_springTold a0 (1 : Int32) m6) fun _ m14 =>
        some ((), m14)
    else
      zbd (fX6_numberRead a0 (0 : Int32) (24 : Int32) m4) fun r15 m16 =>
      zbd (fX6_numberRead a0 (0 : Int32) (99 : Int32) m16) fun r17 m18 =>
      if (m18 a0 11) = 0 then
        zgd (zib ((4 : Int32) + r15) 87) (
        some ((), (zst m18 (a0 + 1) (((4 : Int32) + r15)).toNatClampNeg r17)))
      else
        some ((), m18)
  else
    zbd (fX6_tentTold a0 r1 m2) fun _ m22 =>
    some ((), m22)
set_option maxRecDepth 100000 in
set_option maxHeartbeats 4000000 in
theorem tX6_item (g : zG) {a0 : Nat} {μ : zMem} {Q : Unit → zMem → Prop} (ha0 : zkd a0 = 6) (h : zok (fX6_item a0 μ) Q) : zTv g yX6_item cX6_item 4 7 [.ref (zad g a0)] μ Q := by
  refine zTv_of RX6 (by decide) rfl (Nat.le_of_ble_eq_true rfl) ?_
  intro κ X hret
  unfold fX6_item at h
  refine zi_aload_n (pc' := 1) X dX6_item_0 rfl rfl 0 rfl ?_
  refine zi_callVi (pc' := 4) X zl_X6_307 ha0 (by decide) [] rfl rfl (by decide) (Nat.le_of_ble_eq_true rfl) dX6_item_1 rfl (tX6_kindHere _ ha0 (zok_bd h (fun r1 m2 h => ?_)))
  refine zi_istore_n (pc' := 5) X dX6_item_4 rfl rfl (by decide) [(1, .int r1), (0, .ref (zad g a0))] rfl ?_
  refine zi_iload_n (pc' := 6) X dX6_item_5 rfl rfl 0 rfl ?_
  refine zi_if_lt (pc' := 9) (tgt := 17) X dX6_item_6 rfl rfl (fun c => ?_) (fun c => ?_)
  · replace h := zok_t h c
    refine zi_aload_n (pc' := 18) X dX6_item_17 rfl rfl 1 rfl ?_
    refine zi_ldcSw (pc' := 21) X 23 (by decide) rfl rfl dX6_item_18 rfl ?_
    refine zi_callVi (pc' := 24) X zl_X6_298 ha0 (by decide) [.ref (zak g 23)] rfl rfl (by decide) (Nat.le_of_ble_eq_true rfl) dX6_item_21 rfl (tX6_takes_ _ ha0 (zok_bd h (fun r3 m4 h => ?_)))
    refine zi_if_eq (pc' := 27) (tgt := 62) X dX6_item_24 rfl rfl (fun c => ?_) (fun c => ?_)
    · replace h := zok_t h c
      refine zi_aload_n (pc' := 63) X dX6_item_62 rfl rfl 1 rfl ?_
      refine zi_ldcSw (pc' := 66) X 24 (by decide) rfl rfl dX6_item_63 rfl ?_
      refine zi_callVi (pc' := 69) X zl_X6_298 ha0 (by decide) [.ref (zak g 24)] rfl rfl (by decide) (Nat.le_of_ble_eq_true rfl) dX6_item_66 rfl (tX6_takes_ _ ha0 (zok_bd h (fun r5 m6 h => ?_)))
      refine zi_if_eq (pc' := 72) (tgt := 80) X dX6_item_69 rfl rfl (fun c => ?_) (fun c => ?_)
      · replace h := zok_t h c
        refine zi_aload_n (pc' := 81) X dX6_item_80 rfl rfl 1 rfl ?_
        refine zi_aload_n (pc' := 82) X dX6_item_81 rfl rfl 1 rfl ?_
        refine zi_ldcSw (pc' := 85) X 25 (by decide) rfl rfl dX6_item_82 rfl ?_
        refine zi_callVi (pc' := 88) X zl_X6_274 ha0 (by decide) [.ref (zak g 25)] rfl rfl (by decide) (Nat.le_of_ble_eq_true rfl) dX6_item_85 rfl (tX6_isWord _ ha0 (zok_bd h (fun r7 m8 h => ?_)))
        refine zi_callVv (pc' := 91) X zl_X6_278 ha0 (by decide) [.int r7] rfl rfl (by decide) (Nat.le_of_ble_eq_true rfl) dX6_item_88 rfl (tX6_must _ ha0 (zok_bd h (fun _ m10 h => ?_)))
        refine zi_aload_n (pc' := 92) X dX6_item_91 rfl rfl 1 rfl ?_
        refine zi_iconst (pc' := 93) (v := (0 : Int32)) X dX6_item_92 rfl rfl ?_
        refine zi_callVv (pc' := 96) X zl_X6_317 ha0 (by decide) [.int (0 : Int32)] rfl rfl (by decide) (Nat.le_of_ble_eq_true rfl) dX6_item_93 rfl (tX6_springTold _ ha0 (zok_bd h (fun _ m12 h => ?_)))
        exact hret _ _ _ dX6_item_96 h
      · replace h := zok_f h c
        refine zi_aload_n (pc' := 73) X dX6_item_72 rfl rfl 1 rfl ?_
        refine zi_iconst (pc' := 74) (v := (1 : Int32)) X dX6_item_73 rfl rfl ?_
        refine zi_callVv (pc' := 77) X zl_X6_317 ha0 (by decide) [.int (1 : Int32)] rfl rfl (by decide) (Nat.le_of_ble_eq_true rfl) dX6_item_74 rfl (tX6_springTold _ ha0 (zok_bd h (fun _ m14 h => ?_)))
        refine zi_goto (pc' := 96) X dX6_item_77 rfl ?_
        exact hret _ _ _ dX6_item_96 h
    · replace h := zok_f h c
      refine zi_aload_n (pc' := 28) X dX6_item_27 rfl rfl 1 rfl ?_
      refine zi_iconst (pc' := 29) (v := (0 : Int32)) X dX6_item_28 rfl rfl ?_
      refine zi_bipush (pc' := 31) (v := (24 : Int32)) X dX6_item_29 rfl rfl ?_
      refine zi_callVi (pc' := 34) X zl_X6_300 ha0 (by decide) [.int (0 : Int32), .int (24 : Int32)] rfl rfl (by decide) (Nat.le_of_ble_eq_true rfl) dX6_item_31 rfl (tX6_numberRead _ ha0 (zok_bd h (fun r15 m16 h => ?_)))
      refine zi_istore_n (pc' := 35) X dX6_item_34 rfl rfl (by decide) [(2, .int r15), (1, .int r1), (0, .ref (zad g a0))] rfl ?_
      refine zi_aload_n (pc' := 36) X dX6_item_35 rfl rfl 2 rfl ?_
      refine zi_iconst (pc' := 37) (v := (0 : Int32)) X dX6_item_36 rfl rfl ?_
      refine zi_bipush (pc' := 39) (v := (99 : Int32)) X dX6_item_37 rfl rfl ?_
      refine zi_callVi (pc' := 42) X zl_X6_300 ha0 (by decide) [.int (0 : Int32), .int (99 : Int32)] rfl rfl (by decide) (Nat.le_of_ble_eq_true rfl) dX6_item_39 rfl (tX6_numberRead _ ha0 (zok_bd h (fun r17 m18 h => ?_)))
      refine zi_istore_n (pc' := 43) X dX6_item_42 rfl rfl (by decide) [(3, .int r17), (2, .int r15), (1, .int r1), (0, .ref (zad g a0))] rfl ?_
      refine zi_aload_n (pc' := 44) X dX6_item_43 rfl rfl 3 rfl ?_
      refine zi_geti (pc' := 47) X zf_X6_258 rfl (by decide) ha0 dX6_item_44 rfl ?_
      refine zi_if_ne (pc' := 50) (tgt := 59) X dX6_item_47 rfl rfl (fun c => ?_) (fun c => ?_)
      · replace h := zok_f h c
        refine zi_goto (pc' := 96) X dX6_item_59 rfl ?_
        exact hret _ _ _ dX6_item_96 h
      · replace h := zok_t h c
        refine zi_aload_n (pc' := 51) X dX6_item_50 rfl rfl 3 rfl ?_
        refine zi_getr (pc' := 54) X zf_X6_9 rfl (by decide) ha0 dX6_item_51 rfl ?_
        have f19 := zr_6_0 ha0
        refine zi_iconst (pc' := 55) (v := (4 : Int32)) X dX6_item_54 rfl rfl ?_
        refine zi_iload_n (pc' := 56) X dX6_item_55 rfl rfl 1 rfl ?_
        refine zi_iadd (pc' := 57) X dX6_item_56 rfl ?_
        refine zi_iload_n (pc' := 58) X dX6_item_57 rfl rfl 0 rfl ?_
        obtain ⟨g20, h⟩ := zok_g h
        refine zi_iast (pc' := 59) X f19.1 (by rw [f19.2]; exact g20) dX6_item_58 rfl ?_
        refine zi_goto (pc' := 96) X dX6_item_59 rfl ?_
        exact hret _ _ _ dX6_item_96 h
  · replace h := zok_f h c
    refine zi_aload_n (pc' := 10) X dX6_item_9 rfl rfl 1 rfl ?_
    refine zi_iload_n (pc' := 11) X dX6_item_10 rfl rfl 0 rfl ?_
    refine zi_callVv (pc' := 14) X zl_X6_310 ha0 (by decide) [.int r1] rfl rfl (by decide) (Nat.le_of_ble_eq_true rfl) dX6_item_11 rfl (tX6_tentTold _ ha0 (zok_bd h (fun _ m22 h => ?_)))
    refine zi_goto (pc' := 96) X dX6_item_14 rfl ?_
    exact hret _ _ _ dX6_item_96 h
def fX6_text_63 (a0 : Nat) (a1 : Int32) (μ : zMem) : Option (Int32 × zMem) :=
  if ((zst μ a0 8 (0 : Int32)) a0 11) = 0 then
    some (a1, (zst μ a0 8 (0 : Int32)))
  else
    zbd (fX6_laysBack a0 (zst μ a0 8 (0 : Int32))) fun _ m8 =>
    some (((-1 : Int32) - (m8 a0 9)), m8)
set_option maxRecDepth 100000 in
theorem lX6_text_63 {g : zG} {κ : zK} (X : zC g κ RX6 cX6_text 2 8) {Q : Int32 → zMem → Prop} (hret : ∀ pc lv r μ', decode cX6_text pc = .ok (.ireturn, 1) → True → Q r μ' → zV g κ pc lv [.int r] μ') : ∀ (a0 : Nat) (a1 : Int32) (μ : zMem) (ha0 : zkd a0 = 6), zok (fX6_text_63 a0 a1 μ) Q → zV g κ 63 [(0, .ref (zad g a0)), (1, .int a1)] [] μ := by
  intro a0 a1 μ ha0 h
  unfold fX6_text_63 at h
  refine zi_aload_n (pc' := 64) X dX6_text_63 rfl rfl 0 rfl ?_
  refine zi_iconst (pc' := 65) (v := (0 : Int32)) X dX6_text_64 rfl rfl ?_
  refine zi_put (pc' := 68) X zf_X6_245 zw_6_8 rfl (by decide) ha0 rfl rfl dX6_text_65 rfl ?_
  refine zi_aload_n (pc' := 69) X dX6_text_68 rfl rfl 0 rfl ?_
  refine zi_geti (pc' := 72) X zf_X6_258 rfl (by decide) ha0 dX6_text_69 rfl ?_
  refine zi_if_eq (pc' := 75) (tgt := 86) X dX6_text_72 rfl rfl (fun c => ?_) (fun c => ?_)
  · replace h := zok_t h c
    refine zi_iload_n (pc' := 87) X dX6_text_86 rfl rfl 1 rfl ?_
    exact hret _ _ _ _ dX6_text_87 trivial h
  · replace h := zok_f h c
    refine zi_aload_n (pc' := 76) X dX6_text_75 rfl rfl 0 rfl ?_
    refine zi_callVv (pc' := 79) X zl_X6_194 ha0 (by decide) [] rfl rfl (by decide) (Nat.le_of_ble_eq_true rfl) dX6_text_76 rfl (tX6_laysBack _ ha0 (zok_bd h (fun _ m8 h => ?_)))
    refine zi_iconst (pc' := 80) (v := (-1 : Int32)) X dX6_text_79 rfl rfl ?_
    refine zi_aload_n (pc' := 81) X dX6_text_80 rfl rfl 0 rfl ?_
    refine zi_geti (pc' := 84) X zf_X6_252 rfl (by decide) ha0 dX6_text_81 rfl ?_
    refine zi_isub (pc' := 85) X dX6_text_84 rfl ?_
    exact hret _ _ _ _ dX6_text_85 trivial h
def fX6_text_24 : Nat → Nat → Int32 → zMem → Option (Int32 × zMem)
  | 0, _, _, _ => none
  | n + 1, a0, a1, μ =>
    if (μ a0 11) = 0 then
      if (μ a0 8) ≤ (μ a0 9) then
        fX6_text_63 a0 a1 μ
      else
        zbd (fX6_isWord a0 26 μ) fun r9 m10 =>
        zbd (fX6_must a0 r9 m10) fun _ m12 =>
        zbd (fX6_item a0 m12) fun _ m14 =>
        fX6_text_24 n a0 (a1 + (1 : Int32)) m14
    else
      fX6_text_63 a0 a1 μ
set_option maxRecDepth 100000 in
theorem lX6_text_24 {g : zG} {κ : zK} (X : zC g κ RX6 cX6_text 2 8) {Q : Int32 → zMem → Prop} (hret : ∀ pc lv r μ', decode cX6_text pc = .ok (.ireturn, 1) → True → Q r μ' → zV g κ pc lv [.int r] μ') : ∀ (n : Nat) (a0 : Nat) (a1 : Int32) (μ : zMem) (ha0 : zkd a0 = 6), zok (fX6_text_24 n a0 a1 μ) Q → zV g κ 24 [(0, .ref (zad g a0)), (1, .int a1)] [] μ := by
  intro n
  induction n with
  | zero =>
    intro a0 a1 μ ha0 h
    exact h.elim
  | succ n ih =>
    intro a0 a1 μ ha0 h
    rw [fX6_text_24] at h
    refine zi_aload_n (pc' := 25) X dX6_text_24 rfl rfl 0 rfl ?_
    refine zi_geti (pc' := 28) X zf_X6_258 rfl (by decide) ha0 dX6_text_25 rfl ?_
    refine zi_if_ne (pc' := 31) (tgt := 63) X dX6_text_28 rfl rfl (fun c => ?_) (fun c => ?_)
    · replace h := zok_f h c
      exact zi_sub X [0, 1] _ rfl (lX6_text_63 X hret a0 a1 (μ) ha0 h)
    · replace h := zok_t h c
      refine zi_aload_n (pc' := 32) X dX6_text_31 rfl rfl 0 rfl ?_
      refine zi_geti (pc' := 35) X zf_X6_252 rfl (by decide) ha0 dX6_text_32 rfl ?_
      refine zi_aload_n (pc' := 36) X dX6_text_35 rfl rfl 0 rfl ?_
      refine zi_geti (pc' := 39) X zf_X6_245 rfl (by decide) ha0 dX6_text_36 rfl ?_
      refine zi_icmp_ge (pc' := 42) (tgt := 63) X dX6_text_39 rfl rfl (fun c => ?_) (fun c => ?_)
      · replace h := zok_t h c
        exact zi_sub X [0, 1] _ rfl (lX6_text_63 X hret a0 a1 (μ) ha0 h)
      · replace h := zok_f h c
        refine zi_aload_n (pc' := 43) X dX6_text_42 rfl rfl 0 rfl ?_
        refine zi_aload_n (pc' := 44) X dX6_text_43 rfl rfl 0 rfl ?_
        refine zi_ldcSw (pc' := 47) X 26 (by decide) rfl rfl dX6_text_44 rfl ?_
        refine zi_callVi (pc' := 50) X zl_X6_274 ha0 (by decide) [.ref (zak g 26)] rfl rfl (by decide) (Nat.le_of_ble_eq_true rfl) dX6_text_47 rfl (tX6_isWord _ ha0 (zok_bd h (fun r9 m10 h => ?_)))
        refine zi_callVv (pc' := 53) X zl_X6_278 ha0 (by decide) [.int r9] rfl rfl (by decide) (Nat.le_of_ble_eq_true rfl) dX6_text_50 rfl (tX6_must _ ha0 (zok_bd h (fun _ m12 h => ?_)))
        refine zi_aload_n (pc' := 54) X dX6_text_53 rfl rfl 0 rfl ?_
        refine zi_callVv (pc' := 57) X zl_X6_322 ha0 (by decide) [] rfl rfl (by decide) (Nat.le_of_ble_eq_true rfl) dX6_text_54 rfl (tX6_item _ ha0 (zok_bd h (fun _ m14 h => ?_)))
        refine zi_iinc (pc' := 60) (v := (a1 + (1 : Int32))) X dX6_text_57 rfl 1 rfl rfl (by decide) [(1, .int (a1 + (1 : Int32))), (0, .ref (zad g a0))] rfl ?_
        refine zi_goto (pc' := 24) X dX6_text_60 rfl ?_
        exact zi_sub X [1, 0] _ rfl (ih a0 (a1 + (1 : Int32)) (m14) ha0 h)
def fX6_text (a0 : Nat) (μ : zMem) : Option (Int32 × zMem) :=
  zbd (fX6_lends a0 μ) fun _ m2 =>
  zbd (fX6_next a0 (zst (zst m2 a0 11 (0 : Int32)) a0 10 (0 : Int32))) fun _ m4 =>
  zbd (fX6_item a0 m4) fun _ m6 =>
  fX6_text_24 200 a0 (1 : Int32) m6
set_option maxRecDepth 100000 in
set_option maxHeartbeats 4000000 in
theorem tX6_text (g : zG) {a0 : Nat} {μ : zMem} {Q : Int32 → zMem → Prop} (ha0 : zkd a0 = 6) (h : zok (fX6_text a0 μ) Q) : zTi g yX6_text cX6_text 2 .int 8 [.ref (zad g a0)] μ Q := by
  refine zTi_of (P := fun r => True) zpi RX6 (by decide) rfl (Nat.le_of_ble_eq_true rfl) ?_
  intro κ X hret
  unfold fX6_text at h
  refine zi_aload_n (pc' := 1) X dX6_text_0 rfl rfl 0 rfl ?_
  refine zi_callVv (pc' := 4) X zl_X6_191 ha0 (by decide) [] rfl rfl (by decide) (Nat.le_of_ble_eq_true rfl) dX6_text_1 rfl (tX6_lends _ ha0 (zok_bd h (fun _ m2 h => ?_)))
  refine zi_aload_n (pc' := 5) X dX6_text_4 rfl rfl 0 rfl ?_
  refine zi_iconst (pc' := 6) (v := (0 : Int32)) X dX6_text_5 rfl rfl ?_
  refine zi_put (pc' := 9) X zf_X6_258 zw_6_11 rfl (by decide) ha0 (zpb _ (by decide)) (zpf (by decide)) dX6_text_6 rfl ?_
  refine zi_aload_n (pc' := 10) X dX6_text_9 rfl rfl 0 rfl ?_
  refine zi_iconst (pc' := 11) (v := (0 : Int32)) X dX6_text_10 rfl rfl ?_
  refine zi_put (pc' := 14) X zf_X6_249 zw_6_10 rfl (by decide) ha0 rfl rfl dX6_text_11 rfl ?_
  refine zi_aload_n (pc' := 15) X dX6_text_14 rfl rfl 0 rfl ?_
  refine zi_callVv (pc' := 18) X zl_X6_271 ha0 (by decide) [] rfl rfl (by decide) (Nat.le_of_ble_eq_true rfl) dX6_text_15 rfl (tX6_next _ ha0 (zok_bd h (fun _ m4 h => ?_)))
  refine zi_aload_n (pc' := 19) X dX6_text_18 rfl rfl 0 rfl ?_
  refine zi_callVv (pc' := 22) X zl_X6_322 ha0 (by decide) [] rfl rfl (by decide) (Nat.le_of_ble_eq_true rfl) dX6_text_19 rfl (tX6_item _ ha0 (zok_bd h (fun _ m6 h => ?_)))
  refine zi_iconst (pc' := 23) (v := (1 : Int32)) X dX6_text_22 rfl rfl ?_
  refine zi_istore_n (pc' := 24) X dX6_text_23 rfl rfl (by decide) [(1, .int (1 : Int32)), (0, .ref (zad g a0))] rfl ?_
  exact zi_sub X [1, 0] _ rfl (lX6_text_24 X hret 200 a0 (1 : Int32) (m6) ha0 h)
