def fX6_height (a0 : Nat) (a1 : Int32) (a2 : Int32) (μ : zMem) : Option (Int32 × zMem) :=
  zbd (fX6_isCell a1 μ) fun r1 m2 =>
  if r1 = 0 then
    zbd (fX6_finds a0 (0 : Int32) m2) fun r3 m4 =>
    some (r3, m4)
  else
    zbd (fX6_isHigh a2 m2) fun r5 m6 =>
    if r5 = 0 then
      zbd (fX6_finds a0 (0 : Int32) m6) fun r7 m8 =>
      some (r7, m8)
    else
      zbd (fX6_becomes a0 ((4 : Int32) + a1) a2 m6) fun r9 m10 =>
      some (r9, m10)
set_option maxRecDepth 100000 in
set_option maxHeartbeats 4000000 in
theorem tX6_height (g : zG) {a0 : Nat} {a1 : Int32} {a2 : Int32} {μ : zMem} {Q : Int32 → zMem → Prop} (ha0 : zkd a0 = 6) (h : zok (fX6_height a0 a1 a2 μ) Q) : zTi g yX6_height cX6_height 3 .int 2 [.ref (zad g a0), .int a1, .int a2] μ Q := by
  refine zTi_of (P := fun r => True) zpi RX6 (by decide) rfl (Nat.le_of_ble_eq_true rfl) ?_
  intro κ X hret
  unfold fX6_height at h
  refine zi_iload_n (pc' := 1) X dX6_height_0 rfl rfl 1 rfl ?_
  refine zi_callSi (pc' := 4) X zl_X6_83 [.int a1] rfl rfl (by decide) (Nat.le_of_ble_eq_true rfl) dX6_height_1 rfl (tX6_isCell _ (zok_bd h (fun r1 m2 h => ?_)))
  refine zi_if_eq (pc' := 7) (tgt := 25) X dX6_height_4 rfl rfl (fun c => ?_) (fun c => ?_)
  · replace h := zok_t h c
    refine zi_aload_n (pc' := 26) X dX6_height_25 rfl rfl 0 rfl ?_
    refine zi_iconst (pc' := 27) (v := (0 : Int32)) X dX6_height_26 rfl rfl ?_
    refine zi_callVi (pc' := 30) X zl_X6_93 ha0 (by decide) [.int (0 : Int32)] rfl rfl (by decide) (Nat.le_of_ble_eq_true rfl) dX6_height_27 rfl (tX6_finds _ ha0 (zok_bd h (fun r3 m4 h => ?_)))
    exact hret _ _ _ _ dX6_height_30 trivial h
  · replace h := zok_f h c
    refine zi_iload_n (pc' := 8) X dX6_height_7 rfl rfl 2 rfl ?_
    refine zi_callSi (pc' := 11) X zl_X6_87 [.int a2] rfl rfl (by decide) (Nat.le_of_ble_eq_true rfl) dX6_height_8 rfl (tX6_isHigh _ (zok_bd h (fun r5 m6 h => ?_)))
    refine zi_if_eq (pc' := 14) (tgt := 25) X dX6_height_11 rfl rfl (fun c => ?_) (fun c => ?_)
    · replace h := zok_t h c
      refine zi_aload_n (pc' := 26) X dX6_height_25 rfl rfl 0 rfl ?_
      refine zi_iconst (pc' := 27) (v := (0 : Int32)) X dX6_height_26 rfl rfl ?_
      refine zi_callVi (pc' := 30) X zl_X6_93 ha0 (by decide) [.int (0 : Int32)] rfl rfl (by decide) (Nat.le_of_ble_eq_true rfl) dX6_height_27 rfl (tX6_finds _ ha0 (zok_bd h (fun r7 m8 h => ?_)))
      exact hret _ _ _ _ dX6_height_30 trivial h
    · replace h := zok_f h c
      refine zi_aload_n (pc' := 15) X dX6_height_14 rfl rfl 0 rfl ?_
      refine zi_iconst (pc' := 16) (v := (4 : Int32)) X dX6_height_15 rfl rfl ?_
      refine zi_iload_n (pc' := 17) X dX6_height_16 rfl rfl 1 rfl ?_
      refine zi_iadd (pc' := 18) X dX6_height_17 rfl ?_
      refine zi_iload_n (pc' := 19) X dX6_height_18 rfl rfl 2 rfl ?_
      refine zi_callVi (pc' := 22) X zl_X6_90 ha0 (by decide) [.int ((4 : Int32) + a1), .int a2] rfl rfl (by decide) (Nat.le_of_ble_eq_true rfl) dX6_height_19 rfl (tX6_becomes _ ha0 (zok_bd h (fun r9 m10 h => ?_)))
      refine zi_goto (pc' := 30) X dX6_height_22 rfl ?_
      exact hret _ _ _ _ dX6_height_30 trivial h
def fX6_hold_26 (a0 : Nat) (a1 : Int32) (a2 : Int32) (μ : zMem) : Option (Int32 × zMem) :=
  zgd (zib ((77 : Int32) + a1) 87) (
  some ((1 : Int32), (zst μ (a0 + 1) (((77 : Int32) + a1)).toNatClampNeg a2)))
set_option maxRecDepth 100000 in
theorem lX6_hold_26 {g : zG} {κ : zK} (X : zC g κ RX6 cX6_hold 3 2) {Q : Int32 → zMem → Prop} (hret : ∀ pc lv r μ', decode cX6_hold pc = .ok (.ireturn, 1) → True → Q r μ' → zV g κ pc lv [.int r] μ') : ∀ (a0 : Nat) (a1 : Int32) (a2 : Int32) (μ : zMem) (ha0 : zkd a0 = 6), zok (fX6_hold_26 a0 a1 a2 μ) Q → zV g κ 26 [(0, .ref (zad g a0)), (1, .int a1), (2, .int a2)] [] μ := by
  intro a0 a1 a2 μ ha0 h
  unfold fX6_hold_26 at h
  refine zi_aload_n (pc' := 27) X dX6_hold_26 rfl rfl 0 rfl ?_
  refine zi_getr (pc' := 30) X zf_X6_9 rfl (by decide) ha0 dX6_hold_27 rfl ?_
  have f5 := zr_6_0 ha0
  refine zi_bipush (pc' := 32) (v := (77 : Int32)) X dX6_hold_30 rfl rfl ?_
  refine zi_iload_n (pc' := 33) X dX6_hold_32 rfl rfl 1 rfl ?_
  refine zi_iadd (pc' := 34) X dX6_hold_33 rfl ?_
  refine zi_iload_n (pc' := 35) X dX6_hold_34 rfl rfl 2 rfl ?_
  obtain ⟨g6, h⟩ := zok_g h
  refine zi_iast (pc' := 36) X f5.1 (by rw [f5.2]; exact g6) dX6_hold_35 rfl ?_
  refine zi_iconst (pc' := 37) (v := (1 : Int32)) X dX6_hold_36 rfl rfl ?_
  exact hret _ _ _ _ dX6_hold_37 trivial h
def fX6_hold (a0 : Nat) (a1 : Int32) (a2 : Int32) (μ : zMem) : Option (Int32 × zMem) :=
  zbd (fX6_isSpot a1 μ) fun r1 m2 =>
  if r1 = 0 then
    zbd (fX6_finds a0 (0 : Int32) m2) fun r3 m4 =>
    some (r3, m4)
  else
    if a2 = (-1 : Int32) then
      fX6_hold_26 a0 a1 a2 m2
    else
      zbd (fX6_isTent a0 a2 m2) fun r7 m8 =>
      if r7 = 0 then
        zbd (fX6_finds a0 (0 : Int32) m8) fun r9 m10 =>
        some (r9, m10)
      else
        fX6_hold_26 a0 a1 a2 m8
set_option maxRecDepth 100000 in
set_option maxHeartbeats 4000000 in
theorem tX6_hold (g : zG) {a0 : Nat} {a1 : Int32} {a2 : Int32} {μ : zMem} {Q : Int32 → zMem → Prop} (ha0 : zkd a0 = 6) (h : zok (fX6_hold a0 a1 a2 μ) Q) : zTi g yX6_hold cX6_hold 3 .int 2 [.ref (zad g a0), .int a1, .int a2] μ Q := by
  refine zTi_of (P := fun r => True) zpi RX6 (by decide) rfl (Nat.le_of_ble_eq_true rfl) ?_
  intro κ X hret
  unfold fX6_hold at h
  refine zi_iload_n (pc' := 1) X dX6_hold_0 rfl rfl 1 rfl ?_
  refine zi_callSi (pc' := 4) X zl_X6_329 [.int a1] rfl rfl (by decide) (Nat.le_of_ble_eq_true rfl) dX6_hold_1 rfl (tX6_isSpot _ (zok_bd h (fun r1 m2 h => ?_)))
  refine zi_if_eq (pc' := 7) (tgt := 20) X dX6_hold_4 rfl rfl (fun c => ?_) (fun c => ?_)
  · replace h := zok_t h c
    refine zi_aload_n (pc' := 21) X dX6_hold_20 rfl rfl 0 rfl ?_
    refine zi_iconst (pc' := 22) (v := (0 : Int32)) X dX6_hold_21 rfl rfl ?_
    refine zi_callVi (pc' := 25) X zl_X6_93 ha0 (by decide) [.int (0 : Int32)] rfl rfl (by decide) (Nat.le_of_ble_eq_true rfl) dX6_hold_22 rfl (tX6_finds _ ha0 (zok_bd h (fun r3 m4 h => ?_)))
    exact hret _ _ _ _ dX6_hold_25 trivial h
  · replace h := zok_f h c
    refine zi_iload_n (pc' := 8) X dX6_hold_7 rfl rfl 2 rfl ?_
    refine zi_iconst (pc' := 9) (v := (-1 : Int32)) X dX6_hold_8 rfl rfl ?_
    refine zi_icmp_eq (pc' := 12) (tgt := 26) X dX6_hold_9 rfl rfl (fun c => ?_) (fun c => ?_)
    · replace h := zok_t h c
      exact zi_sub X [0, 1, 2] _ rfl (lX6_hold_26 X hret a0 a1 a2 (m2) ha0 h)
    · replace h := zok_f h c
      refine zi_aload_n (pc' := 13) X dX6_hold_12 rfl rfl 0 rfl ?_
      refine zi_iload_n (pc' := 14) X dX6_hold_13 rfl rfl 2 rfl ?_
      refine zi_callVi (pc' := 17) X zl_X6_127 ha0 (by decide) [.int a2] rfl rfl (by decide) (Nat.le_of_ble_eq_true rfl) dX6_hold_14 rfl (tX6_isTent _ ha0 (zok_bd h (fun r7 m8 h => ?_)))
      refine zi_if_ne (pc' := 20) (tgt := 26) X dX6_hold_17 rfl rfl (fun c => ?_) (fun c => ?_)
      · replace h := zok_f h c
        exact zi_sub X [0, 1, 2] _ rfl (lX6_hold_26 X hret a0 a1 a2 (m8) ha0 h)
      · replace h := zok_t h c
        refine zi_aload_n (pc' := 21) X dX6_hold_20 rfl rfl 0 rfl ?_
        refine zi_iconst (pc' := 22) (v := (0 : Int32)) X dX6_hold_21 rfl rfl ?_
        refine zi_callVi (pc' := 25) X zl_X6_93 ha0 (by decide) [.int (0 : Int32)] rfl rfl (by decide) (Nat.le_of_ble_eq_true rfl) dX6_hold_22 rfl (tX6_finds _ ha0 (zok_bd h (fun r9 m10 h => ?_)))
        exact hret _ _ _ _ dX6_hold_25 trivial h
def fX6_home_18 : Nat → Nat → Int32 → Int32 → Int32 → zMem → Option (Int32 × zMem)
  | 0, _, _, _, _, _ => none
  | n + 1, a0, a1, a2, a3, μ =>
    if (16 : Int32) ≤ a3 then
      some (a2, μ)
    else
      zbd (fX6_unlikeBy a0 a1 a3 μ) fun r3 m4 =>
      zbd (fX6_unlikeBy a0 a1 a2 m4) fun r5 m6 =>
      if r5 ≤ r3 then
        fX6_home_18 n a0 a1 a2 (a3 + (1 : Int32)) m6
      else
        fX6_home_18 n a0 a1 a3 (a3 + (1 : Int32)) m6
set_option maxRecDepth 100000 in
theorem lX6_home_18 {g : zG} {κ : zK} (X : zC g κ RX6 cX6_home 4 2) {Q : Int32 → zMem → Prop} (hret : ∀ pc lv r μ', decode cX6_home pc = .ok (.ireturn, 1) → True → Q r μ' → zV g κ pc lv [.int r] μ') : ∀ (n : Nat) (a0 : Nat) (a1 : Int32) (a2 : Int32) (a3 : Int32) (μ : zMem) (ha0 : zkd a0 = 6), zok (fX6_home_18 n a0 a1 a2 a3 μ) Q → zV g κ 18 [(0, .ref (zad g a0)), (1, .int a1), (2, .int a2), (3, .int a3)] [] μ := by
  intro n
  induction n with
  | zero =>
    intro a0 a1 a2 a3 μ ha0 h
    exact h.elim
  | succ n ih =>
    intro a0 a1 a2 a3 μ ha0 h
    rw [fX6_home_18] at h
    refine zi_iload_n (pc' := 19) X dX6_home_18 rfl rfl 3 rfl ?_
    refine zi_bipush (pc' := 21) (v := (16 : Int32)) X dX6_home_19 rfl rfl ?_
    refine zi_icmp_ge (pc' := 24) (tgt := 51) X dX6_home_21 rfl rfl (fun c => ?_) (fun c => ?_)
    · replace h := zok_t h c
      refine zi_iload_n (pc' := 52) X dX6_home_51 rfl rfl 2 rfl ?_
      exact hret _ _ _ _ dX6_home_52 trivial h
    · replace h := zok_f h c
      refine zi_aload_n (pc' := 25) X dX6_home_24 rfl rfl 0 rfl ?_
      refine zi_iload_n (pc' := 26) X dX6_home_25 rfl rfl 1 rfl ?_
      refine zi_iload_n (pc' := 27) X dX6_home_26 rfl rfl 3 rfl ?_
      refine zi_callVi (pc' := 30) X zl_X6_213 ha0 (by decide) [.int a1, .int a3] rfl rfl (by decide) (Nat.le_of_ble_eq_true rfl) dX6_home_27 rfl (tX6_unlikeBy _ ha0 (zok_bd h (fun r3 m4 h => ?_)))
      refine zi_aload_n (pc' := 31) X dX6_home_30 rfl rfl 0 rfl ?_
      refine zi_iload_n (pc' := 32) X dX6_home_31 rfl rfl 1 rfl ?_
      refine zi_iload_n (pc' := 33) X dX6_home_32 rfl rfl 2 rfl ?_
      refine zi_callVi (pc' := 36) X zl_X6_213 ha0 (by decide) [.int a1, .int a2] rfl rfl (by decide) (Nat.le_of_ble_eq_true rfl) dX6_home_33 rfl (tX6_unlikeBy _ ha0 (zok_bd h (fun r5 m6 h => ?_)))
      refine zi_icmp_ge (pc' := 39) (tgt := 43) X dX6_home_36 rfl rfl (fun c => ?_) (fun c => ?_)
      · replace h := zok_t h c
        refine zi_iload_n (pc' := 44) X dX6_home_43 rfl rfl 2 rfl ?_
        refine zi_istore_n (pc' := 45) X dX6_home_44 rfl rfl (by decide) [(2, .int a2), (0, .ref (zad g a0)), (1, .int a1), (3, .int a3)] rfl ?_
        refine zi_iinc (pc' := 48) (v := (a3 + (1 : Int32))) X dX6_home_45 rfl 3 rfl rfl (by decide) [(3, .int (a3 + (1 : Int32))), (2, .int a2), (0, .ref (zad g a0)), (1, .int a1)] rfl ?_
        refine zi_goto (pc' := 18) X dX6_home_48 rfl ?_
        exact zi_sub X [2, 3, 1, 0] _ rfl (ih a0 a1 a2 (a3 + (1 : Int32)) (m6) ha0 h)
      · replace h := zok_f h c
        refine zi_iload_n (pc' := 40) X dX6_home_39 rfl rfl 3 rfl ?_
        refine zi_goto (pc' := 44) X dX6_home_40 rfl ?_
        refine zi_istore_n (pc' := 45) X dX6_home_44 rfl rfl (by decide) [(2, .int a3), (0, .ref (zad g a0)), (1, .int a1), (3, .int a3)] rfl ?_
        refine zi_iinc (pc' := 48) (v := (a3 + (1 : Int32))) X dX6_home_45 rfl 3 rfl rfl (by decide) [(3, .int (a3 + (1 : Int32))), (2, .int a3), (0, .ref (zad g a0)), (1, .int a1)] rfl ?_
        refine zi_goto (pc' := 18) X dX6_home_48 rfl ?_
        exact zi_sub X [2, 3, 1, 0] _ rfl (ih a0 a1 a3 (a3 + (1 : Int32)) (m6) ha0 h)
def fX6_home (a0 : Nat) (a1 : Int32) (μ : zMem) : Option (Int32 × zMem) :=
  zbd (fX6_isTent a0 a1 μ) fun r1 m2 =>
  if r1 = 0 then
    zbd (fX6_finds a0 (0 : Int32) m2) fun r7 m8 =>
    some (r7, m8)
  else
    fX6_home_18 200 a0 a1 (0 : Int32) (1 : Int32) m2
set_option maxRecDepth 100000 in
set_option maxHeartbeats 4000000 in
theorem tX6_home (g : zG) {a0 : Nat} {a1 : Int32} {μ : zMem} {Q : Int32 → zMem → Prop} (ha0 : zkd a0 = 6) (h : zok (fX6_home a0 a1 μ) Q) : zTi g yX6_home cX6_home 4 .int 2 [.ref (zad g a0), .int a1] μ Q := by
  refine zTi_of (P := fun r => True) zpi RX6 (by decide) rfl (Nat.le_of_ble_eq_true rfl) ?_
  intro κ X hret
  unfold fX6_home at h
  refine zi_aload_n (pc' := 1) X dX6_home_0 rfl rfl 0 rfl ?_
  refine zi_iload_n (pc' := 2) X dX6_home_1 rfl rfl 1 rfl ?_
  refine zi_callVi (pc' := 5) X zl_X6_127 ha0 (by decide) [.int a1] rfl rfl (by decide) (Nat.le_of_ble_eq_true rfl) dX6_home_2 rfl (tX6_isTent _ ha0 (zok_bd h (fun r1 m2 h => ?_)))
  refine zi_if_ne (pc' := 8) (tgt := 14) X dX6_home_5 rfl rfl (fun c => ?_) (fun c => ?_)
  · replace h := zok_f h c
    refine zi_iconst (pc' := 15) (v := (0 : Int32)) X dX6_home_14 rfl rfl ?_
    refine zi_istore_n (pc' := 16) X dX6_home_15 rfl rfl (by decide) [(2, .int (0 : Int32)), (0, .ref (zad g a0)), (1, .int a1)] rfl ?_
    refine zi_iconst (pc' := 17) (v := (1 : Int32)) X dX6_home_16 rfl rfl ?_
    refine zi_istore_n (pc' := 18) X dX6_home_17 rfl rfl (by decide) [(3, .int (1 : Int32)), (2, .int (0 : Int32)), (0, .ref (zad g a0)), (1, .int a1)] rfl ?_
    exact zi_sub X [2, 3, 1, 0] _ rfl (lX6_home_18 X hret 200 a0 a1 (0 : Int32) (1 : Int32) (m2) ha0 h)
  · replace h := zok_t h c
    refine zi_aload_n (pc' := 9) X dX6_home_8 rfl rfl 0 rfl ?_
    refine zi_iconst (pc' := 10) (v := (0 : Int32)) X dX6_home_9 rfl rfl ?_
    refine zi_callVi (pc' := 13) X zl_X6_93 ha0 (by decide) [.int (0 : Int32)] rfl rfl (by decide) (Nat.le_of_ble_eq_true rfl) dX6_home_10 rfl (tX6_finds _ ha0 (zok_bd h (fun r7 m8 h => ?_)))
    exact hret _ _ _ _ dX6_home_13 trivial h
def fX6_lacks (a0 : Nat) (a1 : Int32) (μ : zMem) : Option (Int32 × zMem) :=
  zbd (fX6_isSheet a1 μ) fun r1 m2 =>
  if r1 = 0 then
    some ((0 : Int32), m2)
  else
    zgd (zib a1 4) (
    if (m2 (a0 + 8) (a1).toNatClampNeg) = 0 then
      some ((5 : Int32), m2)
    else
      some ((-1 : Int32), m2))
set_option maxRecDepth 100000 in
set_option maxHeartbeats 4000000 in
theorem tX6_lacks (g : zG) {a0 : Nat} {a1 : Int32} {μ : zMem} {Q : Int32 → zMem → Prop} (ha0 : zkd a0 = 6) (h : zok (fX6_lacks a0 a1 μ) Q) : zTi g yX6_lacks cX6_lacks 2 .int 2 [.ref (zad g a0), .int a1] μ Q := by
  refine zTi_of (P := fun r => True) zpi RX6 (by decide) rfl (Nat.le_of_ble_eq_true rfl) ?_
  intro κ X hret
  unfold fX6_lacks at h
  refine zi_iload_n (pc' := 1) X dX6_lacks_0 rfl rfl 1 rfl ?_
  refine zi_callSi (pc' := 4) X zl_X6_335 [.int a1] rfl rfl (by decide) (Nat.le_of_ble_eq_true rfl) dX6_lacks_1 rfl (tX6_isSheet _ (zok_bd h (fun r1 m2 h => ?_)))
  refine zi_if_ne (pc' := 7) (tgt := 11) X dX6_lacks_4 rfl rfl (fun c => ?_) (fun c => ?_)
  · replace h := zok_f h c
    refine zi_aload_n (pc' := 12) X dX6_lacks_11 rfl rfl 0 rfl ?_
    refine zi_getr (pc' := 15) X zf_X6_31 rfl (by decide) ha0 dX6_lacks_12 rfl ?_
    have f3 := zr_6_12 ha0
    refine zi_iload_n (pc' := 16) X dX6_lacks_15 rfl rfl 1 rfl ?_
    obtain ⟨g4, h⟩ := zok_g h
    refine zi_iald (pc' := 17) X f3.1 (by rw [f3.2]; exact g4) dX6_lacks_16 rfl ?_
    refine zi_if_ne (pc' := 20) (tgt := 24) X dX6_lacks_17 rfl rfl (fun c => ?_) (fun c => ?_)
    · replace h := zok_f h c
      refine zi_iconst (pc' := 25) (v := (-1 : Int32)) X dX6_lacks_24 rfl rfl ?_
      exact hret _ _ _ _ dX6_lacks_25 trivial h
    · replace h := zok_t h c
      refine zi_iconst (pc' := 21) (v := (5 : Int32)) X dX6_lacks_20 rfl rfl ?_
      refine zi_goto (pc' := 25) X dX6_lacks_21 rfl ?_
      exact hret _ _ _ _ dX6_lacks_25 trivial h
  · replace h := zok_t h c
    refine zi_iconst (pc' := 8) (v := (0 : Int32)) X dX6_lacks_7 rfl rfl ?_
    refine zi_goto (pc' := 25) X dX6_lacks_8 rfl ?_
    exact hret _ _ _ _ dX6_lacks_25 trivial h
def fX6_mayBe (a0 : Int32) (a1 : Int32) (μ : zMem) : Option (Int32 × zMem) :=
  if a0 = (0 : Int32) then
    zbd (fX6_isKind a1 μ) fun r1 m2 =>
    zgd (r1 = 0 ∨ r1 = 1) (
    some (r1, m2))
  else
    if a0 = (1 : Int32) then
      zbd (fX6_in ((a1).toInt64) (-1 : Int64) (15 : Int64) μ) fun r4 m5 =>
      zgd (r4 = 0 ∨ r4 = 1) (
      some (r4, m5))
    else
      if a0 = (2 : Int32) then
        zbd (fX6_isHigh a1 μ) fun r7 m8 =>
        zgd (r7 = 0 ∨ r7 = 1) (
        some (r7, m8))
      else
        zbd (fX6_in ((a0).toInt64) (4 : Int64) (7 : Int64) μ) fun r10 m11 =>
        if r10 = 0 then
          some ((0 : Int32), m11)
        else
          zbd (fX6_in ((a1).toInt64) (-1 : Int64) (99 : Int64) m11) fun r12 m13 =>
          if r12 = 0 then
            some ((0 : Int32), m13)
          else
            some ((1 : Int32), m13)
set_option maxRecDepth 100000 in
set_option maxHeartbeats 4000000 in
theorem tX6_mayBe (g : zG) {a0 : Int32} {a1 : Int32} {μ : zMem} {Q : Int32 → zMem → Prop} (h : zok (fX6_mayBe a0 a1 μ) Q) : zTi g yX6_mayBe cX6_mayBe 2 .boolean 2 [.int a0, .int a1] μ Q := by
  refine zTi_of (P := fun r => r = 0 ∨ r = 1) zpb RX6 (by decide) rfl (Nat.le_of_ble_eq_true rfl) ?_
  intro κ X hret
  unfold fX6_mayBe at h
  refine zi_iload_n (pc' := 1) X dX6_mayBe_0 rfl rfl 0 rfl ?_
  by_cases c0 : a0 = (0 : Int32)
  · replace h := zok_t h c0
    refine zi_tabIn (pc' := 28) X c0 dX6_mayBe_1 ⟨by decide, rfl, rfl⟩ ?_
    refine zi_iload_n (pc' := 29) X dX6_mayBe_28 rfl rfl 1 rfl ?_
    refine zi_callSi (pc' := 32) X zl_X6_121 [.int a1] rfl rfl (by decide) (Nat.le_of_ble_eq_true rfl) dX6_mayBe_29 rfl (tX6_isKind _ (zok_bd h (fun r1 m2 h => ?_)))
    obtain ⟨g3, h⟩ := zok_g h
    exact hret _ _ _ _ dX6_mayBe_32 g3 h
  · replace h := zok_f h c0
    by_cases c1 : a0 = (1 : Int32)
    · replace h := zok_t h c1
      refine zi_tabIn (pc' := 33) X c1 dX6_mayBe_1 ⟨by decide, rfl, rfl⟩ ?_
      refine zi_iload_n (pc' := 34) X dX6_mayBe_33 rfl rfl 1 rfl ?_
      refine zi_i2l (pc' := 35) X dX6_mayBe_34 rfl ?_
      refine zi_ldc2 (pc' := 38) X dX6_mayBe_35 rfl zk_X6_135 ?_
      refine zi_ldc2 (pc' := 41) X dX6_mayBe_38 rfl zk_X6_54 ?_
      refine zi_callSi (pc' := 44) X zl_X6_48 [.long ((a1).toInt64), .long (-1 : Int64), .long (15 : Int64)] rfl rfl (by decide) (Nat.le_of_ble_eq_true rfl) dX6_mayBe_41 rfl (tX6_in _ (zok_bd h (fun r4 m5 h => ?_)))
      obtain ⟨g6, h⟩ := zok_g h
      exact hret _ _ _ _ dX6_mayBe_44 g6 h
    · replace h := zok_f h c1
      by_cases c2 : a0 = (2 : Int32)
      · replace h := zok_t h c2
        refine zi_tabIn (pc' := 45) X c2 dX6_mayBe_1 ⟨by decide, rfl, rfl⟩ ?_
        refine zi_iload_n (pc' := 46) X dX6_mayBe_45 rfl rfl 1 rfl ?_
        refine zi_callSi (pc' := 49) X zl_X6_87 [.int a1] rfl rfl (by decide) (Nat.le_of_ble_eq_true rfl) dX6_mayBe_46 rfl (tX6_isHigh _ (zok_bd h (fun r7 m8 h => ?_)))
        obtain ⟨g9, h⟩ := zok_g h
        exact hret _ _ _ _ dX6_mayBe_49 g9 h
      · replace h := zok_f h c2
        have e0 := zne (0) rfl c0
        have e1 := zne (1) rfl c1
        have e2 := zne (2) rfl c2
        refine zi_tabOut (pc' := 50) X (by omega) dX6_mayBe_1 rfl ?_
        refine zi_iload_n (pc' := 51) X dX6_mayBe_50 rfl rfl 0 rfl ?_
        refine zi_i2l (pc' := 52) X dX6_mayBe_51 rfl ?_
        refine zi_ldc2 (pc' := 55) X dX6_mayBe_52 rfl zk_X6_137 ?_
        refine zi_ldc2 (pc' := 58) X dX6_mayBe_55 rfl zk_X6_130 ?_
        refine zi_callSi (pc' := 61) X zl_X6_48 [.long ((a0).toInt64), .long (4 : Int64), .long (7 : Int64)] rfl rfl (by decide) (Nat.le_of_ble_eq_true rfl) dX6_mayBe_58 rfl (tX6_in _ (zok_bd h (fun r10 m11 h => ?_)))
        refine zi_if_eq (pc' := 64) (tgt := 82) X dX6_mayBe_61 rfl rfl (fun c => ?_) (fun c => ?_)
        · replace h := zok_t h c
          refine zi_iconst (pc' := 83) (v := (0 : Int32)) X dX6_mayBe_82 rfl rfl ?_
          exact hret _ _ _ _ dX6_mayBe_83 (by decide) h
        · replace h := zok_f h c
          refine zi_iload_n (pc' := 65) X dX6_mayBe_64 rfl rfl 1 rfl ?_
          refine zi_i2l (pc' := 66) X dX6_mayBe_65 rfl ?_
          refine zi_ldc2 (pc' := 69) X dX6_mayBe_66 rfl zk_X6_135 ?_
          refine zi_ldc2 (pc' := 72) X dX6_mayBe_69 rfl zk_X6_56 ?_
          refine zi_callSi (pc' := 75) X zl_X6_48 [.long ((a1).toInt64), .long (-1 : Int64), .long (99 : Int64)] rfl rfl (by decide) (Nat.le_of_ble_eq_true rfl) dX6_mayBe_72 rfl (tX6_in _ (zok_bd h (fun r12 m13 h => ?_)))
          refine zi_if_eq (pc' := 78) (tgt := 82) X dX6_mayBe_75 rfl rfl (fun c => ?_) (fun c => ?_)
          · replace h := zok_t h c
            refine zi_iconst (pc' := 83) (v := (0 : Int32)) X dX6_mayBe_82 rfl rfl ?_
            exact hret _ _ _ _ dX6_mayBe_83 (by decide) h
          · replace h := zok_f h c
            refine zi_iconst (pc' := 79) (v := (1 : Int32)) X dX6_mayBe_78 rfl rfl ?_
            refine zi_goto (pc' := 83) X dX6_mayBe_79 rfl ?_
            exact hret _ _ _ _ dX6_mayBe_83 (by decide) h
def fX6_next_121 (a0 : Nat) (a1 : Int32) (a2 : Int32) (μ : zMem) : Option (Unit × zMem) :=
  if a1 = 0 then
    if a2 = 0 then
      if (μ a0 8) ≤ (μ a0 9) then
        some ((), (zst μ a0 10 ((μ a0 10) + (0 : Int32))))
      else
        some ((), (zst μ a0 10 ((μ a0 10) + (1 : Int32))))
    else
      some ((), (zst μ a0 10 ((μ a0 10) + (0 : Int32))))
  else
    some ((), (zst μ a0 10 ((μ a0 10) + (0 : Int32))))
set_option maxRecDepth 100000 in
theorem lX6_next_121 {g : zG} {κ : zK} (X : zC g κ RX6 cX6_next 3 2) {Q : Unit → zMem → Prop} (hret : ∀ pc lv μ', decode cX6_next pc = .ok (.return_, 1) → Q () μ' → zV g κ pc lv [] μ') : ∀ (a0 : Nat) (a1 : Int32) (a2 : Int32) (μ : zMem) (ha0 : zkd a0 = 6), zok (fX6_next_121 a0 a1 a2 μ) Q → zV g κ 121 [(0, .ref (zad g a0)), (1, .int a1), (2, .int a2)] [] μ := by
  intro a0 a1 a2 μ ha0 h
  unfold fX6_next_121 at h
  refine zi_aload_n (pc' := 122) X dX6_next_121 rfl rfl 0 rfl ?_
  refine zi_dup (pc' := 123) X dX6_next_122 rfl rfl ?_
  refine zi_geti (pc' := 126) X zf_X6_249 rfl (by decide) ha0 dX6_next_123 rfl ?_
  refine zi_iload_n (pc' := 127) X dX6_next_126 rfl rfl 1 rfl ?_
  refine zi_if_ne (pc' := 130) (tgt := 149) X dX6_next_127 rfl rfl (fun c => ?_) (fun c => ?_)
  · replace h := zok_f h c
    refine zi_iconst (pc' := 150) (v := (0 : Int32)) X dX6_next_149 rfl rfl ?_
    refine zi_iadd (pc' := 151) X dX6_next_150 rfl ?_
    refine zi_put (pc' := 154) X zf_X6_249 zw_6_10 rfl (by decide) ha0 rfl rfl dX6_next_151 rfl ?_
    exact hret _ _ _ dX6_next_154 h
  · replace h := zok_t h c
    refine zi_iload_n (pc' := 131) X dX6_next_130 rfl rfl 2 rfl ?_
    refine zi_if_ne (pc' := 134) (tgt := 149) X dX6_next_131 rfl rfl (fun c => ?_) (fun c => ?_)
    · replace h := zok_f h c
      refine zi_iconst (pc' := 150) (v := (0 : Int32)) X dX6_next_149 rfl rfl ?_
      refine zi_iadd (pc' := 151) X dX6_next_150 rfl ?_
      refine zi_put (pc' := 154) X zf_X6_249 zw_6_10 rfl (by decide) ha0 rfl rfl dX6_next_151 rfl ?_
      exact hret _ _ _ dX6_next_154 h
    · replace h := zok_t h c
      refine zi_aload_n (pc' := 135) X dX6_next_134 rfl rfl 0 rfl ?_
      refine zi_geti (pc' := 138) X zf_X6_252 rfl (by decide) ha0 dX6_next_135 rfl ?_
      refine zi_aload_n (pc' := 139) X dX6_next_138 rfl rfl 0 rfl ?_
      refine zi_geti (pc' := 142) X zf_X6_245 rfl (by decide) ha0 dX6_next_139 rfl ?_
      refine zi_icmp_ge (pc' := 145) (tgt := 149) X dX6_next_142 rfl rfl (fun c => ?_) (fun c => ?_)
      · replace h := zok_t h c
        refine zi_iconst (pc' := 150) (v := (0 : Int32)) X dX6_next_149 rfl rfl ?_
        refine zi_iadd (pc' := 151) X dX6_next_150 rfl ?_
        refine zi_put (pc' := 154) X zf_X6_249 zw_6_10 rfl (by decide) ha0 rfl rfl dX6_next_151 rfl ?_
        exact hret _ _ _ dX6_next_154 h
      · replace h := zok_f h c
        refine zi_iconst (pc' := 146) (v := (1 : Int32)) X dX6_next_145 rfl rfl ?_
        refine zi_goto (pc' := 150) X dX6_next_146 rfl ?_
        refine zi_iadd (pc' := 151) X dX6_next_150 rfl ?_
        refine zi_put (pc' := 154) X zf_X6_249 zw_6_10 rfl (by decide) ha0 rfl rfl dX6_next_151 rfl ?_
        exact hret _ _ _ dX6_next_154 h
def fX6_next_108 (k70 : Nat → Int32 → Int32 → zMem → Option (Unit × zMem)) (a0 : Nat) (a1 : Int32) (a2 : Int32) (μ : zMem) : Option (Unit × zMem) :=
  k70 a0 a1 a2 (zst μ a0 10 ((μ a0 10) + (1 : Int32)))
set_option maxRecDepth 100000 in
theorem lX6_next_108 {g : zG} {κ : zK} (X : zC g κ RX6 cX6_next 3 2) {Q : Unit → zMem → Prop} (hret : ∀ pc lv μ', decode cX6_next pc = .ok (.return_, 1) → Q () μ' → zV g κ pc lv [] μ') {k70 : Nat → Int32 → Int32 → zMem → Option (Unit × zMem)} (hk70 : ∀ (a0 : Nat) (a1 : Int32) (a2 : Int32) (μ : zMem) (_ : zkd a0 = 6), zok (k70 a0 a1 a2 μ) Q → zV g κ 70 [(0, .ref (zad g a0)), (1, .int a1), (2, .int a2)] [] μ) : ∀ (a0 : Nat) (a1 : Int32) (a2 : Int32) (μ : zMem) (ha0 : zkd a0 = 6), zok (fX6_next_108 k70 a0 a1 a2 μ) Q → zV g κ 108 [(0, .ref (zad g a0)), (1, .int a1), (2, .int a2)] [] μ := by
  intro a0 a1 a2 μ ha0 h
  unfold fX6_next_108 at h
  refine zi_aload_n (pc' := 109) X dX6_next_108 rfl rfl 0 rfl ?_
  refine zi_dup (pc' := 110) X dX6_next_109 rfl rfl ?_
  refine zi_geti (pc' := 113) X zf_X6_249 rfl (by decide) ha0 dX6_next_110 rfl ?_
  refine zi_iconst (pc' := 114) (v := (1 : Int32)) X dX6_next_113 rfl rfl ?_
  refine zi_iadd (pc' := 115) X dX6_next_114 rfl ?_
  refine zi_put (pc' := 118) X zf_X6_249 zw_6_10 rfl (by decide) ha0 rfl rfl dX6_next_115 rfl ?_
  refine zi_goto (pc' := 70) X dX6_next_118 rfl ?_
  exact zi_sub X [0, 1, 2] _ rfl (hk70 a0 a1 a2 ((zst μ a0 10 ((μ a0 10) + (1 : Int32)))) ha0 h)
def fX6_next_89 (k70 : Nat → Int32 → Int32 → zMem → Option (Unit × zMem)) (a0 : Nat) (a1 : Int32) (a2 : Int32) (μ : zMem) : Option (Unit × zMem) :=
  if a2 = 0 then
    fX6_next_121 a0 a1 a2 μ
  else
    zbd (fX6_isByte a0 (μ a0 10) (48 : Int32) (57 : Int32) μ) fun r7 m8 =>
    if r7 = 0 then
      fX6_next_121 a0 a1 a2 m8
    else
      fX6_next_108 k70 a0 a1 a2 m8
set_option maxRecDepth 100000 in
theorem lX6_next_89 {g : zG} {κ : zK} (X : zC g κ RX6 cX6_next 3 2) {Q : Unit → zMem → Prop} (hret : ∀ pc lv μ', decode cX6_next pc = .ok (.return_, 1) → Q () μ' → zV g κ pc lv [] μ') {k70 : Nat → Int32 → Int32 → zMem → Option (Unit × zMem)} (hk70 : ∀ (a0 : Nat) (a1 : Int32) (a2 : Int32) (μ : zMem) (_ : zkd a0 = 6), zok (k70 a0 a1 a2 μ) Q → zV g κ 70 [(0, .ref (zad g a0)), (1, .int a1), (2, .int a2)] [] μ) : ∀ (a0 : Nat) (a1 : Int32) (a2 : Int32) (μ : zMem) (ha0 : zkd a0 = 6), zok (fX6_next_89 k70 a0 a1 a2 μ) Q → zV g κ 89 [(0, .ref (zad g a0)), (1, .int a1), (2, .int a2)] [] μ := by
  intro a0 a1 a2 μ ha0 h
  unfold fX6_next_89 at h
  refine zi_iload_n (pc' := 90) X dX6_next_89 rfl rfl 2 rfl ?_
  refine zi_if_eq (pc' := 93) (tgt := 121) X dX6_next_90 rfl rfl (fun c => ?_) (fun c => ?_)
  · replace h := zok_t h c
    exact zi_sub X [0, 1, 2] _ rfl (lX6_next_121 X hret a0 a1 a2 (μ) ha0 h)
  · replace h := zok_f h c
    refine zi_aload_n (pc' := 94) X dX6_next_93 rfl rfl 0 rfl ?_
    refine zi_aload_n (pc' := 95) X dX6_next_94 rfl rfl 0 rfl ?_
    refine zi_geti (pc' := 98) X zf_X6_249 rfl (by decide) ha0 dX6_next_95 rfl ?_
    refine zi_bipush (pc' := 100) (v := (48 : Int32)) X dX6_next_98 rfl rfl ?_
    refine zi_bipush (pc' := 102) (v := (57 : Int32)) X dX6_next_100 rfl rfl ?_
    refine zi_callVi (pc' := 105) X zl_X6_255 ha0 (by decide) [.int (μ a0 10), .int (48 : Int32), .int (57 : Int32)] rfl rfl (by decide) (Nat.le_of_ble_eq_true rfl) dX6_next_102 rfl (tX6_isByte _ ha0 (zok_bd h (fun r7 m8 h => ?_)))
    refine zi_if_eq (pc' := 108) (tgt := 121) X dX6_next_105 rfl rfl (fun c => ?_) (fun c => ?_)
    · replace h := zok_t h c
      exact zi_sub X [0, 1, 2] _ rfl (lX6_next_121 X hret a0 a1 a2 (m8) ha0 h)
    · replace h := zok_f h c
      exact zi_sub X [0, 1, 2] _ rfl (lX6_next_108 X hret hk70 a0 a1 a2 (m8) ha0 h)
def fX6_next_70 : Nat → Nat → Int32 → Int32 → zMem → Option (Unit × zMem)
  | 0, _, _, _, _ => none
  | n + 1, a0, a1, a2, μ =>
    if a1 = 0 then
      fX6_next_89 (fX6_next_70 n) a0 a1 a2 μ
    else
      zbd (fX6_isByte a0 (μ a0 10) (97 : Int32) (122 : Int32) μ) fun r9 m10 =>
      if r9 = 0 then
        fX6_next_89 (fX6_next_70 n) a0 a1 a2 m10
      else
        fX6_next_108 (fX6_next_70 n) a0 a1 a2 m10
set_option maxRecDepth 100000 in
theorem lX6_next_70 {g : zG} {κ : zK} (X : zC g κ RX6 cX6_next 3 2) {Q : Unit → zMem → Prop} (hret : ∀ pc lv μ', decode cX6_next pc = .ok (.return_, 1) → Q () μ' → zV g κ pc lv [] μ') : ∀ (n : Nat) (a0 : Nat) (a1 : Int32) (a2 : Int32) (μ : zMem) (ha0 : zkd a0 = 6), zok (fX6_next_70 n a0 a1 a2 μ) Q → zV g κ 70 [(0, .ref (zad g a0)), (1, .int a1), (2, .int a2)] [] μ := by
  intro n
  induction n with
  | zero =>
    intro a0 a1 a2 μ ha0 h
    exact h.elim
  | succ n ih =>
    intro a0 a1 a2 μ ha0 h
    rw [fX6_next_70] at h
    refine zi_iload_n (pc' := 71) X dX6_next_70 rfl rfl 1 rfl ?_
    refine zi_if_eq (pc' := 74) (tgt := 89) X dX6_next_71 rfl rfl (fun c => ?_) (fun c => ?_)
    · replace h := zok_t h c
      exact zi_sub X [0, 1, 2] _ rfl (lX6_next_89 X hret ih a0 a1 a2 (μ) ha0 h)
    · replace h := zok_f h c
      refine zi_aload_n (pc' := 75) X dX6_next_74 rfl rfl 0 rfl ?_
      refine zi_aload_n (pc' := 76) X dX6_next_75 rfl rfl 0 rfl ?_
      refine zi_geti (pc' := 79) X zf_X6_249 rfl (by decide) ha0 dX6_next_76 rfl ?_
      refine zi_bipush (pc' := 81) (v := (97 : Int32)) X dX6_next_79 rfl rfl ?_
      refine zi_bipush (pc' := 83) (v := (122 : Int32)) X dX6_next_81 rfl rfl ?_
      refine zi_callVi (pc' := 86) X zl_X6_255 ha0 (by decide) [.int (μ a0 10), .int (97 : Int32), .int (122 : Int32)] rfl rfl (by decide) (Nat.le_of_ble_eq_true rfl) dX6_next_83 rfl (tX6_isByte _ ha0 (zok_bd h (fun r9 m10 h => ?_)))
      refine zi_if_ne (pc' := 89) (tgt := 108) X dX6_next_86 rfl rfl (fun c => ?_) (fun c => ?_)
      · replace h := zok_f h c
        exact zi_sub X [0, 1, 2] _ rfl (lX6_next_108 X hret ih a0 a1 a2 (m10) ha0 h)
      · replace h := zok_t h c
        exact zi_sub X [0, 1, 2] _ rfl (lX6_next_89 X hret ih a0 a1 a2 (m10) ha0 h)
def fX6_next_8 : Nat → Nat → zMem → Option (Unit × zMem)
  | 0, _, _ => none
  | n + 1, a0, μ =>
    zbd (fX6_isByte a0 (μ a0 9) (32 : Int32) (32 : Int32) μ) fun r1 m2 =>
    if r1 = 0 then
      zbd (fX6_isByte a0 ((zst m2 a0 10 (m2 a0 9)) a0 9) (97 : Int32) (122 : Int32) (zst m2 a0 10 (m2 a0 9))) fun r3 m4 =>
      zbd (fX6_isByte a0 (m4 a0 9) (48 : Int32) (57 : Int32) m4) fun r5 m6 =>
      fX6_next_70 200 a0 r3 r5 m6
    else
      fX6_next_8 n a0 (zst m2 a0 9 ((m2 a0 9) + (1 : Int32)))
set_option maxRecDepth 100000 in
theorem lX6_next_8 {g : zG} {κ : zK} (X : zC g κ RX6 cX6_next 3 2) {Q : Unit → zMem → Prop} (hret : ∀ pc lv μ', decode cX6_next pc = .ok (.return_, 1) → Q () μ' → zV g κ pc lv [] μ') : ∀ (n : Nat) (a0 : Nat) (μ : zMem) (ha0 : zkd a0 = 6), zok (fX6_next_8 n a0 μ) Q → zV g κ 8 [(0, .ref (zad g a0))] [] μ := by
  intro n
  induction n with
  | zero =>
    intro a0 μ ha0 h
    exact h.elim
  | succ n ih =>
    intro a0 μ ha0 h
    rw [fX6_next_8] at h
    refine zi_aload_n (pc' := 9) X dX6_next_8 rfl rfl 0 rfl ?_
    refine zi_aload_n (pc' := 10) X dX6_next_9 rfl rfl 0 rfl ?_
    refine zi_geti (pc' := 13) X zf_X6_252 rfl (by decide) ha0 dX6_next_10 rfl ?_
    refine zi_bipush (pc' := 15) (v := (32 : Int32)) X dX6_next_13 rfl rfl ?_
    refine zi_bipush (pc' := 17) (v := (32 : Int32)) X dX6_next_15 rfl rfl ?_
    refine zi_callVi (pc' := 20) X zl_X6_255 ha0 (by decide) [.int (μ a0 9), .int (32 : Int32), .int (32 : Int32)] rfl rfl (by decide) (Nat.le_of_ble_eq_true rfl) dX6_next_17 rfl (tX6_isByte _ ha0 (zok_bd h (fun r1 m2 h => ?_)))
    refine zi_if_eq (pc' := 23) (tgt := 36) X dX6_next_20 rfl rfl (fun c => ?_) (fun c => ?_)
    · replace h := zok_t h c
      refine zi_aload_n (pc' := 37) X dX6_next_36 rfl rfl 0 rfl ?_
      refine zi_aload_n (pc' := 38) X dX6_next_37 rfl rfl 0 rfl ?_
      refine zi_geti (pc' := 41) X zf_X6_252 rfl (by decide) ha0 dX6_next_38 rfl ?_
      refine zi_put (pc' := 44) X zf_X6_249 zw_6_10 rfl (by decide) ha0 rfl rfl dX6_next_41 rfl ?_
      refine zi_aload_n (pc' := 45) X dX6_next_44 rfl rfl 0 rfl ?_
      refine zi_aload_n (pc' := 46) X dX6_next_45 rfl rfl 0 rfl ?_
      refine zi_geti (pc' := 49) X zf_X6_252 rfl (by decide) ha0 dX6_next_46 rfl ?_
      refine zi_bipush (pc' := 51) (v := (97 : Int32)) X dX6_next_49 rfl rfl ?_
      refine zi_bipush (pc' := 53) (v := (122 : Int32)) X dX6_next_51 rfl rfl ?_
      refine zi_callVi (pc' := 56) X zl_X6_255 ha0 (by decide) [.int ((zst m2 a0 10 (m2 a0 9)) a0 9), .int (97 : Int32), .int (122 : Int32)] rfl rfl (by decide) (Nat.le_of_ble_eq_true rfl) dX6_next_53 rfl (tX6_isByte _ ha0 (zok_bd h (fun r3 m4 h => ?_)))
      refine zi_istore_n (pc' := 57) X dX6_next_56 rfl rfl (by decide) [(1, .int r3), (0, .ref (zad g a0))] rfl ?_
      refine zi_aload_n (pc' := 58) X dX6_next_57 rfl rfl 1 rfl ?_
      refine zi_aload_n (pc' := 59) X dX6_next_58 rfl rfl 1 rfl ?_
      refine zi_geti (pc' := 62) X zf_X6_252 rfl (by decide) ha0 dX6_next_59 rfl ?_
      refine zi_bipush (pc' := 64) (v := (48 : Int32)) X dX6_next_62 rfl rfl ?_
      refine zi_bipush (pc' := 66) (v := (57 : Int32)) X dX6_next_64 rfl rfl ?_
      refine zi_callVi (pc' := 69) X zl_X6_255 ha0 (by decide) [.int (m4 a0 9), .int (48 : Int32), .int (57 : Int32)] rfl rfl (by decide) (Nat.le_of_ble_eq_true rfl) dX6_next_66 rfl (tX6_isByte _ ha0 (zok_bd h (fun r5 m6 h => ?_)))
      refine zi_istore_n (pc' := 70) X dX6_next_69 rfl rfl (by decide) [(2, .int r5), (1, .int r3), (0, .ref (zad g a0))] rfl ?_
      exact zi_sub X [2, 1, 0] _ rfl (lX6_next_70 X hret 200 a0 r3 r5 (m6) ha0 h)
    · replace h := zok_f h c
      refine zi_aload_n (pc' := 24) X dX6_next_23 rfl rfl 0 rfl ?_
      refine zi_dup (pc' := 25) X dX6_next_24 rfl rfl ?_
      refine zi_geti (pc' := 28) X zf_X6_252 rfl (by decide) ha0 dX6_next_25 rfl ?_
      refine zi_iconst (pc' := 29) (v := (1 : Int32)) X dX6_next_28 rfl rfl ?_
      refine zi_iadd (pc' := 30) X dX6_next_29 rfl ?_
      refine zi_put (pc' := 33) X zf_X6_252 zw_6_9 rfl (by decide) ha0 rfl rfl dX6_next_30 rfl ?_
      refine zi_goto (pc' := 8) X dX6_next_33 rfl ?_
      exact zi_sub X [0] _ rfl (ih a0 ((zst m2 a0 9 ((m2 a0 9) + (1 : Int32)))) ha0 h)
def fX6_next (a0 : Nat) (μ : zMem) : Option (Unit × zMem) :=
  fX6_next_8 200 a0 (zst μ a0 9 (μ a0 10))
set_option maxRecDepth 100000 in
set_option maxHeartbeats 4000000 in
theorem tX6_next (g : zG) {a0 : Nat} {μ : zMem} {Q : Unit → zMem → Prop} (ha0 : zkd a0 = 6) (h : zok (fX6_next a0 μ) Q) : zTv g yX6_next cX6_next 3 2 [.ref (zad g a0)] μ Q := by
  refine zTv_of RX6 (by decide) rfl (Nat.le_of_ble_eq_true rfl) ?_
  intro κ X hret
  unfold fX6_next at h
  refine zi_aload_n (pc' := 1) X dX6_next_0 rfl rfl 0 rfl ?_
  refine zi_aload_n (pc' := 2) X dX6_next_1 rfl rfl 0 rfl ?_
  refine zi_geti (pc' := 5) X zf_X6_249 rfl (by decide) ha0 dX6_next_2 rfl ?_
  refine zi_put (pc' := 8) X zf_X6_252 zw_6_9 rfl (by decide) ha0 rfl rfl dX6_next_5 rfl ?_
  exact zi_sub X [0] _ rfl (lX6_next_8 X hret 200 a0 ((zst μ a0 9 (μ a0 10))) ha0 h)
def fX6_now (a0 : Nat) (a1 : Int32) (μ : zMem) : Option (Int32 × zMem) :=
  if a1 = (0 : Int32) then
    zgd (zib (0 : Int32) 87) (
    some ((μ (a0 + 1) ((0 : Int32)).toNatClampNeg), μ))
  else
    if a1 = (1 : Int32) then
      zbd (fX6_heights a0 μ) fun r3 m4 =>
      some (r3, m4)
    else
      if a1 = (2 : Int32) then
        zgd (zib (3 : Int32) 87) (
        some ((μ (a0 + 1) ((3 : Int32)).toNatClampNeg), μ))
      else
        if a1 = (3 : Int32) then
          zbd (fX6_pitched a0 μ) fun r7 m8 =>
          some (r7, m8)
        else
          if a1 = (4 : Int32) then
            zbd (fX6_allWorn a0 μ) fun r9 m10 =>
            some (r9, m10)
          else
            if a1 = (5 : Int32) then
              zbd (fX6_span a0 μ) fun r11 m12 =>
              some (r11, m12)
            else
              zbd (fX6_finds a0 (0 : Int32) μ) fun r13 m14 =>
              some (r13, m14)
set_option maxRecDepth 100000 in
set_option maxHeartbeats 4000000 in
theorem tX6_now (g : zG) {a0 : Nat} {a1 : Int32} {μ : zMem} {Q : Int32 → zMem → Prop} (ha0 : zkd a0 = 6) (h : zok (fX6_now a0 a1 μ) Q) : zTi g yX6_now cX6_now 2 .int 2 [.ref (zad g a0), .int a1] μ Q := by
  refine zTi_of (P := fun r => True) zpi RX6 (by decide) rfl (Nat.le_of_ble_eq_true rfl) ?_
  intro κ X hret
  unfold fX6_now at h
  refine zi_iload_n (pc' := 1) X dX6_now_0 rfl rfl 1 rfl ?_
  by_cases c0 : a1 = (0 : Int32)
  · replace h := zok_t h c0
    refine zi_tabIn (pc' := 40) X c0 dX6_now_1 ⟨by decide, rfl, rfl⟩ ?_
    refine zi_aload_n (pc' := 41) X dX6_now_40 rfl rfl 0 rfl ?_
    refine zi_getr (pc' := 44) X zf_X6_9 rfl (by decide) ha0 dX6_now_41 rfl ?_
    have f1 := zr_6_0 ha0
    refine zi_iconst (pc' := 45) (v := (0 : Int32)) X dX6_now_44 rfl rfl ?_
    obtain ⟨g2, h⟩ := zok_g h
    refine zi_iald (pc' := 46) X f1.1 (by rw [f1.2]; exact g2) dX6_now_45 rfl ?_
    exact hret _ _ _ _ dX6_now_46 trivial h
  · replace h := zok_f h c0
    by_cases c1 : a1 = (1 : Int32)
    · replace h := zok_t h c1
      refine zi_tabIn (pc' := 47) X c1 dX6_now_1 ⟨by decide, rfl, rfl⟩ ?_
      refine zi_aload_n (pc' := 48) X dX6_now_47 rfl rfl 0 rfl ?_
      refine zi_callVi (pc' := 51) X zl_X6_166 ha0 (by decide) [] rfl rfl (by decide) (Nat.le_of_ble_eq_true rfl) dX6_now_48 rfl (tX6_heights _ ha0 (zok_bd h (fun r3 m4 h => ?_)))
      exact hret _ _ _ _ dX6_now_51 trivial h
    · replace h := zok_f h c1
      by_cases c2 : a1 = (2 : Int32)
      · replace h := zok_t h c2
        refine zi_tabIn (pc' := 52) X c2 dX6_now_1 ⟨by decide, rfl, rfl⟩ ?_
        refine zi_aload_n (pc' := 53) X dX6_now_52 rfl rfl 0 rfl ?_
        refine zi_getr (pc' := 56) X zf_X6_9 rfl (by decide) ha0 dX6_now_53 rfl ?_
        have f5 := zr_6_0 ha0
        refine zi_iconst (pc' := 57) (v := (3 : Int32)) X dX6_now_56 rfl rfl ?_
        obtain ⟨g6, h⟩ := zok_g h
        refine zi_iald (pc' := 58) X f5.1 (by rw [f5.2]; exact g6) dX6_now_57 rfl ?_
        exact hret _ _ _ _ dX6_now_58 trivial h
      · replace h := zok_f h c2
        by_cases c3 : a1 = (3 : Int32)
        · replace h := zok_t h c3
          refine zi_tabIn (pc' := 59) X c3 dX6_now_1 ⟨by decide, rfl, rfl⟩ ?_
          refine zi_aload_n (pc' := 60) X dX6_now_59 rfl rfl 0 rfl ?_
          refine zi_callVi (pc' := 63) X zl_X6_170 ha0 (by decide) [] rfl rfl (by decide) (Nat.le_of_ble_eq_true rfl) dX6_now_60 rfl (tX6_pitched _ ha0 (zok_bd h (fun r7 m8 h => ?_)))
          exact hret _ _ _ _ dX6_now_63 trivial h
        · replace h := zok_f h c3
          by_cases c4 : a1 = (4 : Int32)
          · replace h := zok_t h c4
            refine zi_tabIn (pc' := 64) X c4 dX6_now_1 ⟨by decide, rfl, rfl⟩ ?_
            refine zi_aload_n (pc' := 65) X dX6_now_64 rfl rfl 0 rfl ?_
            refine zi_callVi (pc' := 68) X zl_X6_173 ha0 (by decide) [] rfl rfl (by decide) (Nat.le_of_ble_eq_true rfl) dX6_now_65 rfl (tX6_allWorn _ ha0 (zok_bd h (fun r9 m10 h => ?_)))
            exact hret _ _ _ _ dX6_now_68 trivial h
          · replace h := zok_f h c4
            by_cases c5 : a1 = (5 : Int32)
            · replace h := zok_t h c5
              refine zi_tabIn (pc' := 69) X c5 dX6_now_1 ⟨by decide, rfl, rfl⟩ ?_
              refine zi_aload_n (pc' := 70) X dX6_now_69 rfl rfl 0 rfl ?_
              refine zi_callVi (pc' := 73) X zl_X6_176 ha0 (by decide) [] rfl rfl (by decide) (Nat.le_of_ble_eq_true rfl) dX6_now_70 rfl (tX6_span _ ha0 (zok_bd h (fun r11 m12 h => ?_)))
              exact hret _ _ _ _ dX6_now_73 trivial h
            · replace h := zok_f h c5
              have e0 := zne (0) rfl c0
              have e1 := zne (1) rfl c1
              have e2 := zne (2) rfl c2
              have e3 := zne (3) rfl c3
              have e4 := zne (4) rfl c4
              have e5 := zne (5) rfl c5
              refine zi_tabOut (pc' := 74) X (by omega) dX6_now_1 rfl ?_
              refine zi_aload_n (pc' := 75) X dX6_now_74 rfl rfl 0 rfl ?_
              refine zi_iconst (pc' := 76) (v := (0 : Int32)) X dX6_now_75 rfl rfl ?_
              refine zi_callVi (pc' := 79) X zl_X6_93 ha0 (by decide) [.int (0 : Int32)] rfl rfl (by decide) (Nat.le_of_ble_eq_true rfl) dX6_now_76 rfl (tX6_finds _ ha0 (zok_bd h (fun r13 m14 h => ?_)))
              exact hret _ _ _ _ dX6_now_79 trivial h
def fX6_odds_72 : Nat → Int32 → Int64 → Int64 → Int64 → Int64 → zMem → Option (Int64 × zMem)
  | 0, _, _, _, _, _, _ => none
  | n + 1, a2, a3, a5, a7, a9, μ =>
    if (lg_cmp a9 (0 : Int64)) = 0 then
      if a2 = 0 then
        zgd (¬ a7 = 0) (
        some ((a3 / a7), μ))
      else
        zgd (¬ a7 = 0) (
        some ((a5 / a7), μ))
    else
      zgd (¬ a9 = 0) (
      fX6_odds_72 n a2 a3 a5 a9 (a7 - a7 / a9 * a9) μ)
set_option maxRecDepth 100000 in
theorem lX6_odds_72 {g : zG} {κ : zK} (X : zC g κ RX6 cX6_odds 13 2) {Q : Int64 → zMem → Prop} (hret : ∀ pc lv r μ', decode cX6_odds pc = .ok (.lreturn, 1) → Q r μ' → zV g κ pc lv [.long r] μ') : ∀ (n : Nat) (a2 : Int32) (a3 : Int64) (a5 : Int64) (a7 : Int64) (a9 : Int64) (μ : zMem), zok (fX6_odds_72 n a2 a3 a5 a7 a9 μ) Q → zV g κ 72 [(2, .int a2), (3, .long a3), (5, .long a5), (7, .long a7), (9, .long a9)] [] μ := by
  intro n
  induction n with
  | zero =>
    intro a2 a3 a5 a7 a9 μ h
    exact h.elim
  | succ n ih =>
    intro a2 a3 a5 a7 a9 μ h
    rw [fX6_odds_72] at h
    refine zi_lload (pc' := 74) X dX6_odds_72 rfl 4 rfl ?_
    refine zi_lconst (pc' := 75) (v := (0 : Int64)) X dX6_odds_74 rfl rfl ?_
    refine zi_lcmp (pc' := 76) X dX6_odds_75 rfl ?_
    refine zi_if_eq (pc' := 79) (tgt := 97) X dX6_odds_76 rfl rfl (fun c => ?_) (fun c => ?_)
    · replace h := zok_t h c
      refine zi_iload_n (pc' := 98) X dX6_odds_97 rfl rfl 0 rfl ?_
      refine zi_if_ne (pc' := 101) (tgt := 105) X dX6_odds_98 rfl rfl (fun c => ?_) (fun c => ?_)
      · replace h := zok_f h c
        refine zi_lload (pc' := 107) X dX6_odds_105 rfl 2 rfl ?_
        refine zi_lload (pc' := 109) X dX6_odds_107 rfl 3 rfl ?_
        obtain ⟨g7, h⟩ := zok_g h
        refine zi_ldiv (pc' := 110) X dX6_odds_109 rfl g7 ?_
        exact hret _ _ _ _ dX6_odds_110 h
      · replace h := zok_t h c
        refine zi_lload_n (pc' := 102) X dX6_odds_101 rfl rfl 1 rfl ?_
        refine zi_goto (pc' := 107) X dX6_odds_102 rfl ?_
        refine zi_lload (pc' := 109) X dX6_odds_107 rfl 3 rfl ?_
        obtain ⟨g8, h⟩ := zok_g h
        refine zi_ldiv (pc' := 110) X dX6_odds_109 rfl g8 ?_
        exact hret _ _ _ _ dX6_odds_110 h
    · replace h := zok_f h c
      refine zi_lload (pc' := 81) X dX6_odds_79 rfl 3 rfl ?_
      refine zi_lload (pc' := 83) X dX6_odds_81 rfl 4 rfl ?_
      obtain ⟨g9, h⟩ := zok_g h
      refine zi_lrem (pc' := 84) X dX6_odds_83 rfl g9 ?_
      refine zi_lstore (pc' := 86) X dX6_odds_84 rfl (by decide) [(11, .long (a7 - a7 / a9 * a9)), (2, .int a2), (3, .long a3), (5, .long a5), (7, .long a7), (9, .long a9)] rfl ?_
      refine zi_lload (pc' := 88) X dX6_odds_86 rfl 5 rfl ?_
      refine zi_lstore (pc' := 90) X dX6_odds_88 rfl (by decide) [(7, .long a9), (11, .long (a7 - a7 / a9 * a9)), (2, .int a2), (3, .long a3), (5, .long a5), (9, .long a9)] rfl ?_
      refine zi_lload (pc' := 92) X dX6_odds_90 rfl 1 rfl ?_
      refine zi_lstore (pc' := 94) X dX6_odds_92 rfl (by decide) [(9, .long (a7 - a7 / a9 * a9)), (7, .long a9), (11, .long (a7 - a7 / a9 * a9)), (2, .int a2), (3, .long a3), (5, .long a5)] rfl ?_
      refine zi_goto (pc' := 72) X dX6_odds_94 rfl ?_
      exact zi_sub X [3, 4, 5, 1, 0] _ rfl (ih a2 a3 a5 a9 (a7 - a7 / a9 * a9) (μ) h)
def fX6_odds_37 : Nat → Nat → Int32 → Int32 → Int64 → Int64 → Int32 → zMem → Option (Int64 × zMem)
  | 0, _, _, _, _, _, _, _ => none
  | n + 1, a0, a1, a2, a3, a5, a7, μ =>
    if a1 ≤ a7 then
      fX6_odds_72 200 a2 a3 a5 a3 a5 μ
    else
      zbd (fX6_dryPitches a0 μ) fun r10 m11 =>
      fX6_odds_37 n a0 a1 a2 (a3 * ((r10).toInt64)) (a5 * (16 : Int64)) (a7 + (1 : Int32)) m11
set_option maxRecDepth 100000 in
theorem lX6_odds_37 {g : zG} {κ : zK} (X : zC g κ RX6 cX6_odds 13 2) {Q : Int64 → zMem → Prop} (hret : ∀ pc lv r μ', decode cX6_odds pc = .ok (.lreturn, 1) → Q r μ' → zV g κ pc lv [.long r] μ') : ∀ (n : Nat) (a0 : Nat) (a1 : Int32) (a2 : Int32) (a3 : Int64) (a5 : Int64) (a7 : Int32) (μ : zMem) (ha0 : zkd a0 = 6), zok (fX6_odds_37 n a0 a1 a2 a3 a5 a7 μ) Q → zV g κ 37 [(0, .ref (zad g a0)), (1, .int a1), (2, .int a2), (3, .long a3), (5, .long a5), (7, .int a7)] [] μ := by
  intro n
  induction n with
  | zero =>
    intro a0 a1 a2 a3 a5 a7 μ ha0 h
    exact h.elim
  | succ n ih =>
    intro a0 a1 a2 a3 a5 a7 μ ha0 h
    rw [fX6_odds_37] at h
    refine zi_iload (pc' := 39) X dX6_odds_37 rfl 5 rfl ?_
    refine zi_iload_n (pc' := 40) X dX6_odds_39 rfl rfl 1 rfl ?_
    refine zi_icmp_ge (pc' := 43) (tgt := 65) X dX6_odds_40 rfl rfl (fun c => ?_) (fun c => ?_)
    · replace h := zok_t h c
      refine zi_lload_n (pc' := 66) X dX6_odds_65 rfl rfl 3 rfl ?_
      refine zi_lstore (pc' := 68) X dX6_odds_66 rfl (by decide) [(7, .long a3), (0, .ref (zad g a0)), (1, .int a1), (2, .int a2), (3, .long a3), (5, .long a5)] rfl ?_
      refine zi_lload (pc' := 70) X dX6_odds_68 rfl 5 rfl ?_
      refine zi_lstore (pc' := 72) X dX6_odds_70 rfl (by decide) [(9, .long a5), (7, .long a3), (0, .ref (zad g a0)), (1, .int a1), (2, .int a2), (3, .long a3), (5, .long a5)] rfl ?_
      exact zi_sub X [4, 5, 6, 1, 0] _ rfl (lX6_odds_72 X hret 200 a2 a3 a5 a3 a5 (μ) h)
    · replace h := zok_f h c
      refine zi_lload_n (pc' := 44) X dX6_odds_43 rfl rfl 3 rfl ?_
      refine zi_aload_n (pc' := 45) X dX6_odds_44 rfl rfl 0 rfl ?_
      refine zi_callVi (pc' := 48) X zl_X6_240 ha0 (by decide) [] rfl rfl (by decide) (Nat.le_of_ble_eq_true rfl) dX6_odds_45 rfl (tX6_dryPitches _ ha0 (zok_bd h (fun r10 m11 h => ?_)))
      refine zi_i2l (pc' := 49) X dX6_odds_48 rfl ?_
      refine zi_lmul (pc' := 50) X dX6_odds_49 rfl ?_
      refine zi_lstore_n (pc' := 51) X dX6_odds_50 rfl rfl (by decide) [(3, .long (a3 * ((r10).toInt64))), (0, .ref (zad g a0)), (1, .int a1), (2, .int a2), (5, .long a5), (7, .int a7)] rfl ?_
      refine zi_lload (pc' := 53) X dX6_odds_51 rfl 4 rfl ?_
      refine zi_ldc2 (pc' := 56) X dX6_odds_53 rfl zk_X6_243 ?_
      refine zi_lmul (pc' := 57) X dX6_odds_56 rfl ?_
      refine zi_lstore (pc' := 59) X dX6_odds_57 rfl (by decide) [(5, .long (a5 * (16 : Int64))), (3, .long (a3 * ((r10).toInt64))), (0, .ref (zad g a0)), (1, .int a1), (2, .int a2), (7, .int a7)] rfl ?_
      refine zi_iinc (pc' := 62) (v := (a7 + (1 : Int32))) X dX6_odds_59 rfl 5 rfl rfl (by decide) [(7, .int (a7 + (1 : Int32))), (5, .long (a5 * (16 : Int64))), (3, .long (a3 * ((r10).toInt64))), (0, .ref (zad g a0)), (1, .int a1), (2, .int a2)] rfl ?_
      refine zi_goto (pc' := 37) X dX6_odds_62 rfl ?_
      exact zi_sub X [3, 4, 5, 2, 1, 0] _ rfl (ih a0 a1 a2 (a3 * ((r10).toInt64)) (a5 * (16 : Int64)) (a7 + (1 : Int32)) (m11) ha0 h)
def fX6_odds (a0 : Nat) (a1 : Int32) (a2 : Int32) (μ : zMem) : Option (Int64 × zMem) :=
  zbd (fX6_in ((a1).toInt64) (0 : Int64) (15 : Int64) μ) fun r1 m2 =>
  if r1 = 0 then
    zbd (fX6_finds a0 (0 : Int32) m2) fun r3 m4 =>
    some (((r3).toInt64), m4)
  else
    zbd (fX6_in ((a2).toInt64) (0 : Int64) (1 : Int64) m2) fun r5 m6 =>
    if r5 = 0 then
      zbd (fX6_finds a0 (0 : Int32) m6) fun r12 m13 =>
      some (((r12).toInt64), m13)
    else
      fX6_odds_37 200 a0 a1 a2 (1 : Int64) (1 : Int64) (0 : Int32) m6
set_option maxRecDepth 100000 in
set_option maxHeartbeats 4000000 in
theorem tX6_odds (g : zG) {a0 : Nat} {a1 : Int32} {a2 : Int32} {μ : zMem} {Q : Int64 → zMem → Prop} (ha0 : zkd a0 = 6) (h : zok (fX6_odds a0 a1 a2 μ) Q) : zTl g yX6_odds cX6_odds 13 2 [.ref (zad g a0), .int a1, .int a2] μ Q := by
  refine zTl_of RX6 (by decide) rfl (Nat.le_of_ble_eq_true rfl) ?_
  intro κ X hret
  unfold fX6_odds at h
  refine zi_iload_n (pc' := 1) X dX6_odds_0 rfl rfl 1 rfl ?_
  refine zi_i2l (pc' := 2) X dX6_odds_1 rfl ?_
  refine zi_lconst (pc' := 3) (v := (0 : Int64)) X dX6_odds_2 rfl rfl ?_
  refine zi_ldc2 (pc' := 6) X dX6_odds_3 rfl zk_X6_54 ?_
  refine zi_callSi (pc' := 9) X zl_X6_48 [.long ((a1).toInt64), .long (0 : Int64), .long (15 : Int64)] rfl rfl (by decide) (Nat.le_of_ble_eq_true rfl) dX6_odds_6 rfl (tX6_in _ (zok_bd h (fun r1 m2 h => ?_)))
  refine zi_if_eq (pc' := 12) (tgt := 22) X dX6_odds_9 rfl rfl (fun c => ?_) (fun c => ?_)
  · replace h := zok_t h c
    refine zi_aload_n (pc' := 23) X dX6_odds_22 rfl rfl 0 rfl ?_
    refine zi_iconst (pc' := 24) (v := (0 : Int32)) X dX6_odds_23 rfl rfl ?_
    refine zi_callVi (pc' := 27) X zl_X6_93 ha0 (by decide) [.int (0 : Int32)] rfl rfl (by decide) (Nat.le_of_ble_eq_true rfl) dX6_odds_24 rfl (tX6_finds _ ha0 (zok_bd h (fun r3 m4 h => ?_)))
    refine zi_i2l (pc' := 28) X dX6_odds_27 rfl ?_
    exact hret _ _ _ _ dX6_odds_28 h
  · replace h := zok_f h c
    refine zi_iload_n (pc' := 13) X dX6_odds_12 rfl rfl 2 rfl ?_
    refine zi_i2l (pc' := 14) X dX6_odds_13 rfl ?_
    refine zi_lconst (pc' := 15) (v := (0 : Int64)) X dX6_odds_14 rfl rfl ?_
    refine zi_lconst (pc' := 16) (v := (1 : Int64)) X dX6_odds_15 rfl rfl ?_
    refine zi_callSi (pc' := 19) X zl_X6_48 [.long ((a2).toInt64), .long (0 : Int64), .long (1 : Int64)] rfl rfl (by decide) (Nat.le_of_ble_eq_true rfl) dX6_odds_16 rfl (tX6_in _ (zok_bd h (fun r5 m6 h => ?_)))
    refine zi_if_ne (pc' := 22) (tgt := 29) X dX6_odds_19 rfl rfl (fun c => ?_) (fun c => ?_)
    · replace h := zok_f h c
      refine zi_lconst (pc' := 30) (v := (1 : Int64)) X dX6_odds_29 rfl rfl ?_
      refine zi_lstore_n (pc' := 31) X dX6_odds_30 rfl rfl (by decide) [(3, .long (1 : Int64)), (0, .ref (zad g a0)), (1, .int a1), (2, .int a2)] rfl ?_
      refine zi_lconst (pc' := 32) (v := (1 : Int64)) X dX6_odds_31 rfl rfl ?_
      refine zi_lstore (pc' := 34) X dX6_odds_32 rfl (by decide) [(5, .long (1 : Int64)), (3, .long (1 : Int64)), (0, .ref (zad g a0)), (1, .int a1), (2, .int a2)] rfl ?_
      refine zi_iconst (pc' := 35) (v := (0 : Int32)) X dX6_odds_34 rfl rfl ?_
      refine zi_istore (pc' := 37) X dX6_odds_35 rfl (by decide) [(7, .int (0 : Int32)), (5, .long (1 : Int64)), (3, .long (1 : Int64)), (0, .ref (zad g a0)), (1, .int a1), (2, .int a2)] rfl ?_
      exact zi_sub X [3, 4, 5, 2, 1, 0] _ rfl (lX6_odds_37 X hret 200 a0 a1 a2 (1 : Int64) (1 : Int64) (0 : Int32) (m6) ha0 h)
    · replace h := zok_t h c
      refine zi_aload_n (pc' := 23) X dX6_odds_22 rfl rfl 0 rfl ?_
      refine zi_iconst (pc' := 24) (v := (0 : Int32)) X dX6_odds_23 rfl rfl ?_
      refine zi_callVi (pc' := 27) X zl_X6_93 ha0 (by decide) [.int (0 : Int32)] rfl rfl (by decide) (Nat.le_of_ble_eq_true rfl) dX6_odds_24 rfl (tX6_finds _ ha0 (zok_bd h (fun r12 m13 h => ?_)))
      refine zi_i2l (pc' := 28) X dX6_odds_27 rfl ?_
      exact hret _ _ _ _ dX6_odds_28 h
def fX6_of (a0 : Nat) (a1 : Int32) (a2 : Int32) (μ : zMem) : Option (Int32 × zMem) :=
  zbd (fX6_isTent a0 a1 μ) fun r1 m2 =>
  if r1 = 0 then
    zbd (fX6_finds a0 (0 : Int32) m2) fun r3 m4 =>
    some (r3, m4)
  else
    zbd (fX6_in ((a2).toInt64) (0 : Int64) (7 : Int64) m2) fun r5 m6 =>
    if r5 = 0 then
      zbd (fX6_finds a0 (0 : Int32) m6) fun r11 m12 =>
      some (r11, m12)
    else
      if a2 = (3 : Int32) then
        zbd (fX6_wears a0 a1 m6) fun r9 m10 =>
        some (r9, m10)
      else
        zbd (fX6_its a0 a1 a2 m6) fun r7 m8 =>
        some (r7, m8)
set_option maxRecDepth 100000 in
set_option maxHeartbeats 4000000 in
theorem tX6_of (g : zG) {a0 : Nat} {a1 : Int32} {a2 : Int32} {μ : zMem} {Q : Int32 → zMem → Prop} (ha0 : zkd a0 = 6) (h : zok (fX6_of a0 a1 a2 μ) Q) : zTi g yX6_of cX6_of 3 .int 2 [.ref (zad g a0), .int a1, .int a2] μ Q := by
  refine zTi_of (P := fun r => True) zpi RX6 (by decide) rfl (Nat.le_of_ble_eq_true rfl) ?_
  intro κ X hret
  unfold fX6_of at h
  refine zi_aload_n (pc' := 1) X dX6_of_0 rfl rfl 0 rfl ?_
  refine zi_iload_n (pc' := 2) X dX6_of_1 rfl rfl 1 rfl ?_
  refine zi_callVi (pc' := 5) X zl_X6_127 ha0 (by decide) [.int a1] rfl rfl (by decide) (Nat.le_of_ble_eq_true rfl) dX6_of_2 rfl (tX6_isTent _ ha0 (zok_bd h (fun r1 m2 h => ?_)))
  refine zi_if_eq (pc' := 8) (tgt := 20) X dX6_of_5 rfl rfl (fun c => ?_) (fun c => ?_)
  · replace h := zok_t h c
    refine zi_aload_n (pc' := 21) X dX6_of_20 rfl rfl 0 rfl ?_
    refine zi_iconst (pc' := 22) (v := (0 : Int32)) X dX6_of_21 rfl rfl ?_
    refine zi_callVi (pc' := 25) X zl_X6_93 ha0 (by decide) [.int (0 : Int32)] rfl rfl (by decide) (Nat.le_of_ble_eq_true rfl) dX6_of_22 rfl (tX6_finds _ ha0 (zok_bd h (fun r3 m4 h => ?_)))
    exact hret _ _ _ _ dX6_of_25 trivial h
  · replace h := zok_f h c
    refine zi_iload_n (pc' := 9) X dX6_of_8 rfl rfl 2 rfl ?_
    refine zi_i2l (pc' := 10) X dX6_of_9 rfl ?_
    refine zi_lconst (pc' := 11) (v := (0 : Int64)) X dX6_of_10 rfl rfl ?_
    refine zi_ldc2 (pc' := 14) X dX6_of_11 rfl zk_X6_130 ?_
    refine zi_callSi (pc' := 17) X zl_X6_48 [.long ((a2).toInt64), .long (0 : Int64), .long (7 : Int64)] rfl rfl (by decide) (Nat.le_of_ble_eq_true rfl) dX6_of_14 rfl (tX6_in _ (zok_bd h (fun r5 m6 h => ?_)))
    refine zi_if_ne (pc' := 20) (tgt := 26) X dX6_of_17 rfl rfl (fun c => ?_) (fun c => ?_)
    · replace h := zok_f h c
      refine zi_iload_n (pc' := 27) X dX6_of_26 rfl rfl 2 rfl ?_
      refine zi_iconst (pc' := 28) (v := (3 : Int32)) X dX6_of_27 rfl rfl ?_
      refine zi_icmp_ne (pc' := 31) (tgt := 39) X dX6_of_28 rfl rfl (fun c => ?_) (fun c => ?_)
      · replace h := zok_f h c
        refine zi_aload_n (pc' := 40) X dX6_of_39 rfl rfl 0 rfl ?_
        refine zi_iload_n (pc' := 41) X dX6_of_40 rfl rfl 1 rfl ?_
        refine zi_iload_n (pc' := 42) X dX6_of_41 rfl rfl 2 rfl ?_
        refine zi_callVi (pc' := 45) X zl_X6_76 ha0 (by decide) [.int a1, .int a2] rfl rfl (by decide) (Nat.le_of_ble_eq_true rfl) dX6_of_42 rfl (tX6_its _ ha0 (zok_bd h (fun r7 m8 h => ?_)))
        exact hret _ _ _ _ dX6_of_45 trivial h
      · replace h := zok_t h c
        refine zi_aload_n (pc' := 32) X dX6_of_31 rfl rfl 0 rfl ?_
        refine zi_iload_n (pc' := 33) X dX6_of_32 rfl rfl 1 rfl ?_
        refine zi_callVi (pc' := 36) X zl_X6_132 ha0 (by decide) [.int a1] rfl rfl (by decide) (Nat.le_of_ble_eq_true rfl) dX6_of_33 rfl (tX6_wears _ ha0 (zok_bd h (fun r9 m10 h => ?_)))
        refine zi_goto (pc' := 45) X dX6_of_36 rfl ?_
        exact hret _ _ _ _ dX6_of_45 trivial h
    · replace h := zok_t h c
      refine zi_aload_n (pc' := 21) X dX6_of_20 rfl rfl 0 rfl ?_
      refine zi_iconst (pc' := 22) (v := (0 : Int32)) X dX6_of_21 rfl rfl ?_
      refine zi_callVi (pc' := 25) X zl_X6_93 ha0 (by decide) [.int (0 : Int32)] rfl rfl (by decide) (Nat.le_of_ble_eq_true rfl) dX6_of_22 rfl (tX6_finds _ ha0 (zok_bd h (fun r11 m12 h => ?_)))
      exact hret _ _ _ _ dX6_of_25 trivial h
def fX6_pressesOn_58 (a0 : Nat) (a1 : Int32) (a2 : Int32) (a4 : Int32) (a5 : Int32) (μ : zMem) : Option (Unit × zMem) :=
  if 0 ≤ a4 then
    zbd (fX6_its a0 a1 (0 : Int32) μ) fun r9 m10 =>
    zbd (fX6_its a0 a1 (2 : Int32) m10) fun r11 m12 =>
    zbd (fX6_takes r9 r11 a4 a5 m12) fun r13 m14 =>
    zbd (fX6_held r13 m14) fun r15 m16 =>
    zbd (fX6_sets a0 a1 ((4 : Int32) + a2) r15 m16) fun _ m18 =>
    some ((), m18)
  else
    zbd (fX6_sets a0 a1 ((4 : Int32) + a2) a5 μ) fun _ m20 =>
    some ((), m20)
set_option maxRecDepth 100000 in
theorem lX6_pressesOn_58 {g : zG} {κ : zK} (X : zC g κ RX6 cX6_pressesOn 6 2) {Q : Unit → zMem → Prop} (hret : ∀ pc lv μ', decode cX6_pressesOn pc = .ok (.return_, 1) → Q () μ' → zV g κ pc lv [] μ') : ∀ (a0 : Nat) (a1 : Int32) (a2 : Int32) (a4 : Int32) (a5 : Int32) (μ : zMem) (ha0 : zkd a0 = 6), zok (fX6_pressesOn_58 a0 a1 a2 a4 a5 μ) Q → zV g κ 58 [(0, .ref (zad g a0)), (1, .int a1), (2, .int a2), (4, .int a4), (5, .int a5)] [] μ := by
  intro a0 a1 a2 a4 a5 μ ha0 h
  unfold fX6_pressesOn_58 at h
  refine zi_aload_n (pc' := 59) X dX6_pressesOn_58 rfl rfl 0 rfl ?_
  refine zi_iload_n (pc' := 60) X dX6_pressesOn_59 rfl rfl 1 rfl ?_
  refine zi_iconst (pc' := 61) (v := (4 : Int32)) X dX6_pressesOn_60 rfl rfl ?_
  refine zi_iload_n (pc' := 62) X dX6_pressesOn_61 rfl rfl 2 rfl ?_
  refine zi_iadd (pc' := 63) X dX6_pressesOn_62 rfl ?_
  refine zi_iload (pc' := 65) X dX6_pressesOn_63 rfl 3 rfl ?_
  refine zi_if_ge (pc' := 68) (tgt := 73) X dX6_pressesOn_65 rfl rfl (fun c => ?_) (fun c => ?_)
  · replace h := zok_t h c
    refine zi_aload_n (pc' := 74) X dX6_pressesOn_73 rfl rfl 0 rfl ?_
    refine zi_iload_n (pc' := 75) X dX6_pressesOn_74 rfl rfl 1 rfl ?_
    refine zi_iconst (pc' := 76) (v := (0 : Int32)) X dX6_pressesOn_75 rfl rfl ?_
    refine zi_callVi (pc' := 79) X zl_X6_76 ha0 (by decide) [.int a1, .int (0 : Int32)] rfl rfl (by decide) (Nat.le_of_ble_eq_true rfl) dX6_pressesOn_76 rfl (tX6_its _ ha0 (zok_bd h (fun r9 m10 h => ?_)))
    refine zi_aload_n (pc' := 80) X dX6_pressesOn_79 rfl rfl 0 rfl ?_
    refine zi_iload_n (pc' := 81) X dX6_pressesOn_80 rfl rfl 1 rfl ?_
    refine zi_iconst (pc' := 82) (v := (2 : Int32)) X dX6_pressesOn_81 rfl rfl ?_
    refine zi_callVi (pc' := 85) X zl_X6_76 ha0 (by decide) [.int a1, .int (2 : Int32)] rfl rfl (by decide) (Nat.le_of_ble_eq_true rfl) dX6_pressesOn_82 rfl (tX6_its _ ha0 (zok_bd h (fun r11 m12 h => ?_)))
    refine zi_iload (pc' := 87) X dX6_pressesOn_85 rfl 3 rfl ?_
    refine zi_iload (pc' := 89) X dX6_pressesOn_87 rfl 4 rfl ?_
    refine zi_callSi (pc' := 92) X zl_X6_149 [.int r9, .int r11, .int a4, .int a5] rfl rfl (by decide) (Nat.le_of_ble_eq_true rfl) dX6_pressesOn_89 rfl (tX6_takes _ (zok_bd h (fun r13 m14 h => ?_)))
    refine zi_callSi (pc' := 95) X zl_X6_146 [.int r13] rfl rfl (by decide) (Nat.le_of_ble_eq_true rfl) dX6_pressesOn_92 rfl (tX6_held _ (zok_bd h (fun r15 m16 h => ?_)))
    refine zi_callVv (pc' := 98) X zl_X6_79 ha0 (by decide) [.int a1, .int ((4 : Int32) + a2), .int r15] rfl rfl (by decide) (Nat.le_of_ble_eq_true rfl) dX6_pressesOn_95 rfl (tX6_sets _ ha0 (zok_bd h (fun _ m18 h => ?_)))
    exact hret _ _ _ dX6_pressesOn_98 h
  · replace h := zok_f h c
    refine zi_iload (pc' := 70) X dX6_pressesOn_68 rfl 4 rfl ?_
    refine zi_goto (pc' := 95) X dX6_pressesOn_70 rfl ?_
    refine zi_callVv (pc' := 98) X zl_X6_79 ha0 (by decide) [.int a1, .int ((4 : Int32) + a2), .int a5] rfl rfl (by decide) (Nat.le_of_ble_eq_true rfl) dX6_pressesOn_95 rfl (tX6_sets _ ha0 (zok_bd h (fun _ m20 h => ?_)))
    exact hret _ _ _ dX6_pressesOn_98 h
def fX6_pressesOn (a0 : Nat) (a1 : Int32) (a2 : Int32) (μ : zMem) : Option (Unit × zMem) :=
  zbd (fX6_its a0 a1 (1 : Int32) μ) fun r1 m2 =>
  zbd (fX6_cellOf r1 a2 m2) fun r3 m4 =>
  zbd (fX6_its a0 a1 ((4 : Int32) + a2) m4) fun r5 m6 =>
  zgd (zib ((4 : Int32) + r3) 87) (
  if r5 < 0 then
    fX6_pressesOn_58 a0 a1 a2 r5 (m6 (a0 + 1) (((4 : Int32) + r3)).toNatClampNeg) m6
  else
    zbd (fX6_its a0 a1 (0 : Int32) m6) fun r22 m23 =>
    zbd (fX6_presses r22 r5 (m6 (a0 + 1) (((4 : Int32) + r3)).toNatClampNeg) m23) fun r24 m25 =>
    zbd (fX6_held r24 m25) fun r26 m27 =>
    zgd (zib ((4 : Int32) + r3) 87) (
    fX6_pressesOn_58 a0 a1 a2 r5 (m6 (a0 + 1) (((4 : Int32) + r3)).toNatClampNeg) (zst m27 (a0 + 1) (((4 : Int32) + r3)).toNatClampNeg r26)))
set_option maxRecDepth 100000 in
set_option maxHeartbeats 4000000 in
theorem tX6_pressesOn (g : zG) {a0 : Nat} {a1 : Int32} {a2 : Int32} {μ : zMem} {Q : Unit → zMem → Prop} (ha0 : zkd a0 = 6) (h : zok (fX6_pressesOn a0 a1 a2 μ) Q) : zTv g yX6_pressesOn cX6_pressesOn 6 2 [.ref (zad g a0), .int a1, .int a2] μ Q := by
  refine zTv_of RX6 (by decide) rfl (Nat.le_of_ble_eq_true rfl) ?_
  intro κ X hret
  unfold fX6_pressesOn at h
  refine zi_iconst (pc' := 1) (v := (4 : Int32)) X dX6_pressesOn_0 rfl rfl ?_
  refine zi_aload_n (pc' := 2) X dX6_pressesOn_1 rfl rfl 0 rfl ?_
  refine zi_iload_n (pc' := 3) X dX6_pressesOn_2 rfl rfl 1 rfl ?_
  refine zi_iconst (pc' := 4) (v := (1 : Int32)) X dX6_pressesOn_3 rfl rfl ?_
  refine zi_callVi (pc' := 7) X zl_X6_76 ha0 (by decide) [.int a1, .int (1 : Int32)] rfl rfl (by decide) (Nat.le_of_ble_eq_true rfl) dX6_pressesOn_4 rfl (tX6_its _ ha0 (zok_bd h (fun r1 m2 h => ?_)))
  refine zi_iload_n (pc' := 8) X dX6_pressesOn_7 rfl rfl 2 rfl ?_
  refine zi_callSi (pc' := 11) X zl_X6_103 [.int r1, .int a2] rfl rfl (by decide) (Nat.le_of_ble_eq_true rfl) dX6_pressesOn_8 rfl (tX6_cellOf _ (zok_bd h (fun r3 m4 h => ?_)))
  refine zi_iadd (pc' := 12) X dX6_pressesOn_11 rfl ?_
  refine zi_istore_n (pc' := 13) X dX6_pressesOn_12 rfl rfl (by decide) [(3, .int ((4 : Int32) + r3)), (0, .ref (zad g a0)), (1, .int a1), (2, .int a2)] rfl ?_
  refine zi_aload_n (pc' := 14) X dX6_pressesOn_13 rfl rfl 1 rfl ?_
  refine zi_iload_n (pc' := 15) X dX6_pressesOn_14 rfl rfl 2 rfl ?_
  refine zi_iconst (pc' := 16) (v := (4 : Int32)) X dX6_pressesOn_15 rfl rfl ?_
  refine zi_iload_n (pc' := 17) X dX6_pressesOn_16 rfl rfl 3 rfl ?_
  refine zi_iadd (pc' := 18) X dX6_pressesOn_17 rfl ?_
  refine zi_callVi (pc' := 21) X zl_X6_76 ha0 (by decide) [.int a1, .int ((4 : Int32) + a2)] rfl rfl (by decide) (Nat.le_of_ble_eq_true rfl) dX6_pressesOn_18 rfl (tX6_its _ ha0 (zok_bd h (fun r5 m6 h => ?_)))
  refine zi_istore (pc' := 23) X dX6_pressesOn_21 rfl (by decide) [(4, .int r5), (3, .int ((4 : Int32) + r3)), (0, .ref (zad g a0)), (1, .int a1), (2, .int a2)] rfl ?_
  refine zi_aload_n (pc' := 24) X dX6_pressesOn_23 rfl rfl 2 rfl ?_
  refine zi_getr (pc' := 27) X zf_X6_9 rfl (by decide) ha0 dX6_pressesOn_24 rfl ?_
  have f7 := zr_6_0 ha0
  refine zi_iload_n (pc' := 28) X dX6_pressesOn_27 rfl rfl 1 rfl ?_
  obtain ⟨g8, h⟩ := zok_g h
  refine zi_iald (pc' := 29) X f7.1 (by rw [f7.2]; exact g8) dX6_pressesOn_28 rfl ?_
  refine zi_istore (pc' := 31) X dX6_pressesOn_29 rfl (by decide) [(5, .int (m6 (a0 + 1) (((4 : Int32) + r3)).toNatClampNeg)), (4, .int r5), (3, .int ((4 : Int32) + r3)), (0, .ref (zad g a0)), (1, .int a1), (2, .int a2)] rfl ?_
  refine zi_iload (pc' := 33) X dX6_pressesOn_31 rfl 1 rfl ?_
  refine zi_if_lt (pc' := 36) (tgt := 58) X dX6_pressesOn_33 rfl rfl (fun c => ?_) (fun c => ?_)
  · replace h := zok_t h c
    exact zi_sub X [3, 4, 5, 1, 0] _ rfl (lX6_pressesOn_58 X hret a0 a1 a2 r5 (m6 (a0 + 1) (((4 : Int32) + r3)).toNatClampNeg) (m6) ha0 h)
  · replace h := zok_f h c
    refine zi_aload_n (pc' := 37) X dX6_pressesOn_36 rfl rfl 3 rfl ?_
    refine zi_getr (pc' := 40) X zf_X6_9 rfl (by decide) ha0 dX6_pressesOn_37 rfl ?_
    have f21 := zr_6_0 ha0
    refine zi_iload_n (pc' := 41) X dX6_pressesOn_40 rfl rfl 2 rfl ?_
    refine zi_aload_n (pc' := 42) X dX6_pressesOn_41 rfl rfl 3 rfl ?_
    refine zi_iload_n (pc' := 43) X dX6_pressesOn_42 rfl rfl 4 rfl ?_
    refine zi_iconst (pc' := 44) (v := (0 : Int32)) X dX6_pressesOn_43 rfl rfl ?_
    refine zi_callVi (pc' := 47) X zl_X6_76 ha0 (by decide) [.int a1, .int (0 : Int32)] rfl rfl (by decide) (Nat.le_of_ble_eq_true rfl) dX6_pressesOn_44 rfl (tX6_its _ ha0 (zok_bd h (fun r22 m23 h => ?_)))
    refine zi_iload (pc' := 49) X dX6_pressesOn_47 rfl 1 rfl ?_
    refine zi_iload (pc' := 51) X dX6_pressesOn_49 rfl 0 rfl ?_
    refine zi_callSi (pc' := 54) X zl_X6_142 [.int r22, .int r5, .int (m6 (a0 + 1) (((4 : Int32) + r3)).toNatClampNeg)] rfl rfl (by decide) (Nat.le_of_ble_eq_true rfl) dX6_pressesOn_51 rfl (tX6_presses _ (zok_bd h (fun r24 m25 h => ?_)))
    refine zi_callSi (pc' := 57) X zl_X6_146 [.int r24] rfl rfl (by decide) (Nat.le_of_ble_eq_true rfl) dX6_pressesOn_54 rfl (tX6_held _ (zok_bd h (fun r26 m27 h => ?_)))
    obtain ⟨g28, h⟩ := zok_g h
    refine zi_iast (pc' := 58) X f21.1 (by rw [f21.2]; exact g28) dX6_pressesOn_57 rfl ?_
    exact zi_sub X [3, 4, 5, 1, 0] _ rfl (lX6_pressesOn_58 X hret a0 a1 a2 r5 (m6 (a0 + 1) (((4 : Int32) + r3)).toNatClampNeg) ((zst m27 (a0 + 1) (((4 : Int32) + r3)).toNatClampNeg r26)) ha0 h)
def fX6_sheet_95 : Nat → Nat → Int32 → Int32 → zMem → Option (Int32 × zMem)
  | 0, _, _, _, _ => none
  | n + 1, a0, a1, a5, μ =>
    if (40 : Int32) ≤ a5 then
      zgd (zib a1 4) (
      some ((μ (a0 + 9) (a1).toNatClampNeg), μ))
    else
      zgd (zib (((40 : Int32) * a1) + a5) 160) (
      fX6_sheet_95 n a0 a1 (a5 + (1 : Int32)) (zst μ (a0 + 10) ((((40 : Int32) * a1) + a5)).toNatClampNeg (0 : Int32)))
set_option maxRecDepth 100000 in
theorem lX6_sheet_95 {g : zG} {κ : zK} (X : zC g κ RX6 cX6_sheet 6 2) {Q : Int32 → zMem → Prop} (hret : ∀ pc lv r μ', decode cX6_sheet pc = .ok (.ireturn, 1) → True → Q r μ' → zV g κ pc lv [.int r] μ') : ∀ (n : Nat) (a0 : Nat) (a1 : Int32) (a5 : Int32) (μ : zMem) (ha0 : zkd a0 = 6), zok (fX6_sheet_95 n a0 a1 a5 μ) Q → zV g κ 95 [(0, .ref (zad g a0)), (1, .int a1), (5, .int a5)] [] μ := by
  intro n
  induction n with
  | zero =>
    intro a0 a1 a5 μ ha0 h
    exact h.elim
  | succ n ih =>
    intro a0 a1 a5 μ ha0 h
    rw [fX6_sheet_95] at h
    refine zi_iload (pc' := 97) X dX6_sheet_95 rfl 2 rfl ?_
    refine zi_bipush (pc' := 99) (v := (40 : Int32)) X dX6_sheet_97 rfl rfl ?_
    refine zi_icmp_ge (pc' := 102) (tgt := 121) X dX6_sheet_99 rfl rfl (fun c => ?_) (fun c => ?_)
    · replace h := zok_t h c
      refine zi_aload_n (pc' := 122) X dX6_sheet_121 rfl rfl 0 rfl ?_
      refine zi_getr (pc' := 125) X zf_X6_34 rfl (by decide) ha0 dX6_sheet_122 rfl ?_
      have f9 := zr_6_13 ha0
      refine zi_iload_n (pc' := 126) X dX6_sheet_125 rfl rfl 1 rfl ?_
      obtain ⟨g10, h⟩ := zok_g h
      refine zi_iald (pc' := 127) X f9.1 (by rw [f9.2]; exact g10) dX6_sheet_126 rfl ?_
      exact hret _ _ _ _ dX6_sheet_127 trivial h
    · replace h := zok_f h c
      refine zi_aload_n (pc' := 103) X dX6_sheet_102 rfl rfl 0 rfl ?_
      refine zi_getr (pc' := 106) X zf_X6_37 rfl (by decide) ha0 dX6_sheet_103 rfl ?_
      have f11 := zr_6_14 ha0
      refine zi_bipush (pc' := 108) (v := (40 : Int32)) X dX6_sheet_106 rfl rfl ?_
      refine zi_iload_n (pc' := 109) X dX6_sheet_108 rfl rfl 1 rfl ?_
      refine zi_imul (pc' := 110) X dX6_sheet_109 rfl ?_
      refine zi_iload (pc' := 112) X dX6_sheet_110 rfl 2 rfl ?_
      refine zi_iadd (pc' := 113) X dX6_sheet_112 rfl ?_
      refine zi_iconst (pc' := 114) (v := (0 : Int32)) X dX6_sheet_113 rfl rfl ?_
      obtain ⟨g12, h⟩ := zok_g h
      refine zi_iast (pc' := 115) X f11.1 (by rw [f11.2]; exact g12) dX6_sheet_114 rfl ?_
      refine zi_iinc (pc' := 118) (v := (a5 + (1 : Int32))) X dX6_sheet_115 rfl 2 rfl rfl (by decide) [(5, .int (a5 + (1 : Int32))), (0, .ref (zad g a0)), (1, .int a1)] rfl ?_
      refine zi_goto (pc' := 95) X dX6_sheet_118 rfl ?_
      exact zi_sub X [1, 2, 0] _ rfl (ih a0 a1 (a5 + (1 : Int32)) ((zst μ (a0 + 10) ((((40 : Int32) * a1) + a5)).toNatClampNeg (0 : Int32))) ha0 h)
def fX6_sheet_27 (a0 : Nat) (a1 : Int32) (a2 : Int32) (a3 : Int32) (s0 : Int32) (μ : zMem) : Option (Int32 × zMem) :=
  zbd (fX6_isSheet a1 μ) fun r1 m2 =>
  if r1 = 0 then
    zbd (fX6_finds a0 (0 : Int32) m2) fun r3 m4 =>
    some (r3, m4)
  else
    if s0 = 0 then
      zbd (fX6_finds a0 (0 : Int32) m2) fun r18 m19 =>
      some (r18, m19)
    else
      if 0 ≤ a3 then
        if a3 ≤ (40 : Int32) then
          zgd (zib a1 4) (
          if a2 = 0 then
            zgd (zib a1 4) (
            fX6_sheet_95 200 a0 a1 (0 : Int32) (zst (zst m2 (a0 + 8) (a1).toNatClampNeg a2) (a0 + 9) (a1).toNatClampNeg (0 : Int32)))
          else
            zgd (zib a1 4) (
            fX6_sheet_95 200 a0 a1 (0 : Int32) (zst (zst m2 (a0 + 8) (a1).toNatClampNeg a2) (a0 + 9) (a1).toNatClampNeg a3)))
        else
          zbd (fX6_finds a0 (0 : Int32) m2) fun r14 m15 =>
          some (r14, m15)
      else
        zbd (fX6_finds a0 (6 : Int32) m2) fun r16 m17 =>
        some (r16, m17)
set_option maxRecDepth 100000 in
theorem lX6_sheet_27 {g : zG} {κ : zK} (X : zC g κ RX6 cX6_sheet 6 2) {Q : Int32 → zMem → Prop} (hret : ∀ pc lv r μ', decode cX6_sheet pc = .ok (.ireturn, 1) → True → Q r μ' → zV g κ pc lv [.int r] μ') : ∀ (a0 : Nat) (a1 : Int32) (a2 : Int32) (a3 : Int32) (s0 : Int32) (μ : zMem) (ha0 : zkd a0 = 6), zok (fX6_sheet_27 a0 a1 a2 a3 s0 μ) Q → zV g κ 27 [(0, .ref (zad g a0)), (1, .int a1), (2, .int a2), (3, .int a3)] [.int s0] μ := by
  intro a0 a1 a2 a3 s0 μ ha0 h
  unfold fX6_sheet_27 at h
  refine zi_istore (pc' := 29) X dX6_sheet_27 rfl (by decide) [(4, .int s0), (0, .ref (zad g a0)), (1, .int a1), (2, .int a2), (3, .int a3)] rfl ?_
  refine zi_iload_n (pc' := 30) X dX6_sheet_29 rfl rfl 2 rfl ?_
  refine zi_callSi (pc' := 33) X zl_X6_335 [.int a1] rfl rfl (by decide) (Nat.le_of_ble_eq_true rfl) dX6_sheet_30 rfl (tX6_isSheet _ (zok_bd h (fun r1 m2 h => ?_)))
  refine zi_if_eq (pc' := 36) (tgt := 41) X dX6_sheet_33 rfl rfl (fun c => ?_) (fun c => ?_)
  · replace h := zok_t h c
    refine zi_aload_n (pc' := 42) X dX6_sheet_41 rfl rfl 1 rfl ?_
    refine zi_iconst (pc' := 43) (v := (0 : Int32)) X dX6_sheet_42 rfl rfl ?_
    refine zi_callVi (pc' := 46) X zl_X6_93 ha0 (by decide) [.int (0 : Int32)] rfl rfl (by decide) (Nat.le_of_ble_eq_true rfl) dX6_sheet_43 rfl (tX6_finds _ ha0 (zok_bd h (fun r3 m4 h => ?_)))
    exact hret _ _ _ _ dX6_sheet_46 trivial h
  · replace h := zok_f h c
    refine zi_iload (pc' := 38) X dX6_sheet_36 rfl 0 rfl ?_
    refine zi_if_ne (pc' := 41) (tgt := 47) X dX6_sheet_38 rfl rfl (fun c => ?_) (fun c => ?_)
    · replace h := zok_f h c
      refine zi_iload_n (pc' := 48) X dX6_sheet_47 rfl rfl 4 rfl ?_
      refine zi_if_ge (pc' := 51) (tgt := 58) X dX6_sheet_48 rfl rfl (fun c => ?_) (fun c => ?_)
      · replace h := zok_t h c
        refine zi_iload_n (pc' := 59) X dX6_sheet_58 rfl rfl 4 rfl ?_
        refine zi_bipush (pc' := 61) (v := (40 : Int32)) X dX6_sheet_59 rfl rfl ?_
        refine zi_icmp_le (pc' := 64) (tgt := 70) X dX6_sheet_61 rfl rfl (fun c => ?_) (fun c => ?_)
        · replace h := zok_t h c
          refine zi_aload_n (pc' := 71) X dX6_sheet_70 rfl rfl 1 rfl ?_
          refine zi_getr (pc' := 74) X zf_X6_31 rfl (by decide) ha0 dX6_sheet_71 rfl ?_
          have f5 := zr_6_12 ha0
          refine zi_iload_n (pc' := 75) X dX6_sheet_74 rfl rfl 2 rfl ?_
          refine zi_iload_n (pc' := 76) X dX6_sheet_75 rfl rfl 3 rfl ?_
          obtain ⟨g6, h⟩ := zok_g h
          refine zi_iast (pc' := 77) X f5.1 (by rw [f5.2]; exact g6) dX6_sheet_76 rfl ?_
          refine zi_aload_n (pc' := 78) X dX6_sheet_77 rfl rfl 1 rfl ?_
          refine zi_getr (pc' := 81) X zf_X6_34 rfl (by decide) ha0 dX6_sheet_78 rfl ?_
          have f7 := zr_6_13 ha0
          refine zi_iload_n (pc' := 82) X dX6_sheet_81 rfl rfl 2 rfl ?_
          refine zi_iload_n (pc' := 83) X dX6_sheet_82 rfl rfl 3 rfl ?_
          refine zi_if_ne (pc' := 86) (tgt := 90) X dX6_sheet_83 rfl rfl (fun c => ?_) (fun c => ?_)
          · replace h := zok_f h c
            refine zi_iload_n (pc' := 91) X dX6_sheet_90 rfl rfl 4 rfl ?_
            obtain ⟨g8, h⟩ := zok_g h
            refine zi_iast (pc' := 92) X f7.1 (by rw [f7.2]; exact g8) dX6_sheet_91 rfl ?_
            refine zi_iconst (pc' := 93) (v := (0 : Int32)) X dX6_sheet_92 rfl rfl ?_
            refine zi_istore (pc' := 95) X dX6_sheet_93 rfl (by decide) [(5, .int (0 : Int32)), (4, .int s0), (0, .ref (zad g a0)), (1, .int a1), (2, .int a2), (3, .int a3)] rfl ?_
            exact zi_sub X [2, 3, 0] _ rfl (lX6_sheet_95 X hret 200 a0 a1 (0 : Int32) ((zst (zst m2 (a0 + 8) (a1).toNatClampNeg a2) (a0 + 9) (a1).toNatClampNeg a3)) ha0 h)
          · replace h := zok_t h c
            refine zi_iconst (pc' := 87) (v := (0 : Int32)) X dX6_sheet_86 rfl rfl ?_
            refine zi_goto (pc' := 91) X dX6_sheet_87 rfl ?_
            obtain ⟨g13, h⟩ := zok_g h
            refine zi_iast (pc' := 92) X f7.1 (by rw [f7.2]; exact g13) dX6_sheet_91 rfl ?_
            refine zi_iconst (pc' := 93) (v := (0 : Int32)) X dX6_sheet_92 rfl rfl ?_
            refine zi_istore (pc' := 95) X dX6_sheet_93 rfl (by decide) [(5, .int (0 : Int32)), (4, .int s0), (0, .ref (zad g a0)), (1, .int a1), (2, .int a2), (3, .int a3)] rfl ?_
            exact zi_sub X [2, 3, 0] _ rfl (lX6_sheet_95 X hret 200 a0 a1 (0 : Int32) ((zst (zst m2 (a0 + 8) (a1).toNatClampNeg a2) (a0 + 9) (a1).toNatClampNeg (0 : Int32))) ha0 h)
        · replace h := zok_f h c
          refine zi_aload_n (pc' := 65) X dX6_sheet_64 rfl rfl 1 rfl ?_
          refine zi_iconst (pc' := 66) (v := (0 : Int32)) X dX6_sheet_65 rfl rfl ?_
          refine zi_callVi (pc' := 69) X zl_X6_93 ha0 (by decide) [.int (0 : Int32)] rfl rfl (by decide) (Nat.le_of_ble_eq_true rfl) dX6_sheet_66 rfl (tX6_finds _ ha0 (zok_bd h (fun r14 m15 h => ?_)))
          exact hret _ _ _ _ dX6_sheet_69 trivial h
      · replace h := zok_f h c
        refine zi_aload_n (pc' := 52) X dX6_sheet_51 rfl rfl 1 rfl ?_
        refine zi_bipush (pc' := 54) (v := (6 : Int32)) X dX6_sheet_52 rfl rfl ?_
        refine zi_callVi (pc' := 57) X zl_X6_93 ha0 (by decide) [.int (6 : Int32)] rfl rfl (by decide) (Nat.le_of_ble_eq_true rfl) dX6_sheet_54 rfl (tX6_finds _ ha0 (zok_bd h (fun r16 m17 h => ?_)))
        exact hret _ _ _ _ dX6_sheet_57 trivial h
    · replace h := zok_t h c
      refine zi_aload_n (pc' := 42) X dX6_sheet_41 rfl rfl 1 rfl ?_
      refine zi_iconst (pc' := 43) (v := (0 : Int32)) X dX6_sheet_42 rfl rfl ?_
      refine zi_callVi (pc' := 46) X zl_X6_93 ha0 (by decide) [.int (0 : Int32)] rfl rfl (by decide) (Nat.le_of_ble_eq_true rfl) dX6_sheet_43 rfl (tX6_finds _ ha0 (zok_bd h (fun r18 m19 h => ?_)))
      exact hret _ _ _ _ dX6_sheet_46 trivial h
def fX6_sheet (a0 : Nat) (a1 : Int32) (a2 : Int32) (a3 : Int32) (μ : zMem) : Option (Int32 × zMem) :=
  if a2 = 0 then
    fX6_sheet_27 a0 a1 a2 a3 (1 : Int32) μ
  else
    if a2 = (8 : Int32) then
      fX6_sheet_27 a0 a1 a2 a3 (1 : Int32) μ
    else
      if a2 = (16 : Int32) then
        fX6_sheet_27 a0 a1 a2 a3 (1 : Int32) μ
      else
        if a2 = (32 : Int32) then
          fX6_sheet_27 a0 a1 a2 a3 (1 : Int32) μ
        else
          fX6_sheet_27 a0 a1 a2 a3 (0 : Int32) μ
set_option maxRecDepth 100000 in
set_option maxHeartbeats 4000000 in
theorem tX6_sheet (g : zG) {a0 : Nat} {a1 : Int32} {a2 : Int32} {a3 : Int32} {μ : zMem} {Q : Int32 → zMem → Prop} (ha0 : zkd a0 = 6) (h : zok (fX6_sheet a0 a1 a2 a3 μ) Q) : zTi g yX6_sheet cX6_sheet 6 .int 2 [.ref (zad g a0), .int a1, .int a2, .int a3] μ Q := by
  refine zTi_of (P := fun r => True) zpi RX6 (by decide) rfl (Nat.le_of_ble_eq_true rfl) ?_
  intro κ X hret
  unfold fX6_sheet at h
  refine zi_iload_n (pc' := 1) X dX6_sheet_0 rfl rfl 2 rfl ?_
  refine zi_if_eq (pc' := 4) (tgt := 22) X dX6_sheet_1 rfl rfl (fun c => ?_) (fun c => ?_)
  · replace h := zok_t h c
    refine zi_iconst (pc' := 23) (v := (1 : Int32)) X dX6_sheet_22 rfl rfl ?_
    refine zi_goto (pc' := 27) X dX6_sheet_23 rfl ?_
    exact zi_sub X [0, 1, 2, 3] _ rfl (lX6_sheet_27 X hret a0 a1 a2 a3 (1 : Int32) (μ) ha0 h)
  · replace h := zok_f h c
    refine zi_iload_n (pc' := 5) X dX6_sheet_4 rfl rfl 2 rfl ?_
    refine zi_bipush (pc' := 7) (v := (8 : Int32)) X dX6_sheet_5 rfl rfl ?_
    refine zi_icmp_eq (pc' := 10) (tgt := 22) X dX6_sheet_7 rfl rfl (fun c => ?_) (fun c => ?_)
    · replace h := zok_t h c
      refine zi_iconst (pc' := 23) (v := (1 : Int32)) X dX6_sheet_22 rfl rfl ?_
      refine zi_goto (pc' := 27) X dX6_sheet_23 rfl ?_
      exact zi_sub X [0, 1, 2, 3] _ rfl (lX6_sheet_27 X hret a0 a1 a2 a3 (1 : Int32) (μ) ha0 h)
    · replace h := zok_f h c
      refine zi_iload_n (pc' := 11) X dX6_sheet_10 rfl rfl 2 rfl ?_
      refine zi_bipush (pc' := 13) (v := (16 : Int32)) X dX6_sheet_11 rfl rfl ?_
      refine zi_icmp_eq (pc' := 16) (tgt := 22) X dX6_sheet_13 rfl rfl (fun c => ?_) (fun c => ?_)
      · replace h := zok_t h c
        refine zi_iconst (pc' := 23) (v := (1 : Int32)) X dX6_sheet_22 rfl rfl ?_
        refine zi_goto (pc' := 27) X dX6_sheet_23 rfl ?_
        exact zi_sub X [0, 1, 2, 3] _ rfl (lX6_sheet_27 X hret a0 a1 a2 a3 (1 : Int32) (μ) ha0 h)
      · replace h := zok_f h c
        refine zi_iload_n (pc' := 17) X dX6_sheet_16 rfl rfl 2 rfl ?_
        refine zi_bipush (pc' := 19) (v := (32 : Int32)) X dX6_sheet_17 rfl rfl ?_
        refine zi_icmp_ne (pc' := 22) (tgt := 26) X dX6_sheet_19 rfl rfl (fun c => ?_) (fun c => ?_)
        · replace h := zok_f h c
          refine zi_iconst (pc' := 27) (v := (0 : Int32)) X dX6_sheet_26 rfl rfl ?_
          exact zi_sub X [0, 1, 2, 3] _ rfl (lX6_sheet_27 X hret a0 a1 a2 a3 (0 : Int32) (μ) ha0 h)
        · replace h := zok_t h c
          refine zi_iconst (pc' := 23) (v := (1 : Int32)) X dX6_sheet_22 rfl rfl ?_
          refine zi_goto (pc' := 27) X dX6_sheet_23 rfl ?_
          exact zi_sub X [0, 1, 2, 3] _ rfl (lX6_sheet_27 X hret a0 a1 a2 a3 (1 : Int32) (μ) ha0 h)
def fX6_spring_36 (a0 : Nat) (a1 : Int32) (a2 : Int32) (s0 : Int32) (μ : zMem) : Option (Int32 × zMem) :=
  zbd (fX6_springs a0 a1 a2 μ) fun _ m10 =>
  some (s0, m10)
set_option maxRecDepth 100000 in
theorem lX6_spring_36 {g : zG} {κ : zK} (X : zC g κ RX6 cX6_spring 4 2) {Q : Int32 → zMem → Prop} (hret : ∀ pc lv r μ', decode cX6_spring pc = .ok (.ireturn, 1) → True → Q r μ' → zV g κ pc lv [.int r] μ') : ∀ (a0 : Nat) (a1 : Int32) (a2 : Int32) (s0 : Int32) (μ : zMem) (ha0 : zkd a0 = 6), zok (fX6_spring_36 a0 a1 a2 s0 μ) Q → zV g κ 36 [(0, .ref (zad g a0)), (1, .int a1), (2, .int a2)] [.int s0] μ := by
  intro a0 a1 a2 s0 μ ha0 h
  unfold fX6_spring_36 at h
  refine zi_istore_n (pc' := 37) X dX6_spring_36 rfl rfl (by decide) [(3, .int s0), (0, .ref (zad g a0)), (1, .int a1), (2, .int a2)] rfl ?_
  refine zi_aload_n (pc' := 38) X dX6_spring_37 rfl rfl 1 rfl ?_
  refine zi_iload_n (pc' := 39) X dX6_spring_38 rfl rfl 2 rfl ?_
  refine zi_iload_n (pc' := 40) X dX6_spring_39 rfl rfl 3 rfl ?_
  refine zi_callVv (pc' := 43) X zl_X6_99 ha0 (by decide) [.int a1, .int a2] rfl rfl (by decide) (Nat.le_of_ble_eq_true rfl) dX6_spring_40 rfl (tX6_springs _ ha0 (zok_bd h (fun _ m10 h => ?_)))
  refine zi_iload_n (pc' := 44) X dX6_spring_43 rfl rfl 0 rfl ?_
  exact hret _ _ _ _ dX6_spring_44 trivial h
def fX6_spring (a0 : Nat) (a1 : Int32) (a2 : Int32) (μ : zMem) : Option (Int32 × zMem) :=
  zbd (fX6_isCell a1 μ) fun r1 m2 =>
  if r1 = 0 then
    zbd (fX6_finds a0 (0 : Int32) m2) fun r3 m4 =>
    some (r3, m4)
  else
    zbd (fX6_in ((a2).toInt64) (0 : Int64) (1 : Int64) m2) fun r5 m6 =>
    if r5 = 0 then
      zbd (fX6_finds a0 (0 : Int32) m6) fun r11 m12 =>
      some (r11, m12)
    else
      zbd (fX6_hasSpring a0 a1 m6) fun r7 m8 =>
      if r7 = 0 then
        fX6_spring_36 a0 a1 a2 (0 : Int32) m8
      else
        fX6_spring_36 a0 a1 a2 (1 : Int32) m8
set_option maxRecDepth 100000 in
set_option maxHeartbeats 4000000 in
theorem tX6_spring (g : zG) {a0 : Nat} {a1 : Int32} {a2 : Int32} {μ : zMem} {Q : Int32 → zMem → Prop} (ha0 : zkd a0 = 6) (h : zok (fX6_spring a0 a1 a2 μ) Q) : zTi g yX6_spring cX6_spring 4 .int 2 [.ref (zad g a0), .int a1, .int a2] μ Q := by
  refine zTi_of (P := fun r => True) zpi RX6 (by decide) rfl (Nat.le_of_ble_eq_true rfl) ?_
  intro κ X hret
  unfold fX6_spring at h
  refine zi_iload_n (pc' := 1) X dX6_spring_0 rfl rfl 1 rfl ?_
  refine zi_callSi (pc' := 4) X zl_X6_83 [.int a1] rfl rfl (by decide) (Nat.le_of_ble_eq_true rfl) dX6_spring_1 rfl (tX6_isCell _ (zok_bd h (fun r1 m2 h => ?_)))
  refine zi_if_eq (pc' := 7) (tgt := 17) X dX6_spring_4 rfl rfl (fun c => ?_) (fun c => ?_)
  · replace h := zok_t h c
    refine zi_aload_n (pc' := 18) X dX6_spring_17 rfl rfl 0 rfl ?_
    refine zi_iconst (pc' := 19) (v := (0 : Int32)) X dX6_spring_18 rfl rfl ?_
    refine zi_callVi (pc' := 22) X zl_X6_93 ha0 (by decide) [.int (0 : Int32)] rfl rfl (by decide) (Nat.le_of_ble_eq_true rfl) dX6_spring_19 rfl (tX6_finds _ ha0 (zok_bd h (fun r3 m4 h => ?_)))
    exact hret _ _ _ _ dX6_spring_22 trivial h
  · replace h := zok_f h c
    refine zi_iload_n (pc' := 8) X dX6_spring_7 rfl rfl 2 rfl ?_
    refine zi_i2l (pc' := 9) X dX6_spring_8 rfl ?_
    refine zi_lconst (pc' := 10) (v := (0 : Int64)) X dX6_spring_9 rfl rfl ?_
    refine zi_lconst (pc' := 11) (v := (1 : Int64)) X dX6_spring_10 rfl rfl ?_
    refine zi_callSi (pc' := 14) X zl_X6_48 [.long ((a2).toInt64), .long (0 : Int64), .long (1 : Int64)] rfl rfl (by decide) (Nat.le_of_ble_eq_true rfl) dX6_spring_11 rfl (tX6_in _ (zok_bd h (fun r5 m6 h => ?_)))
    refine zi_if_ne (pc' := 17) (tgt := 23) X dX6_spring_14 rfl rfl (fun c => ?_) (fun c => ?_)
    · replace h := zok_f h c
      refine zi_aload_n (pc' := 24) X dX6_spring_23 rfl rfl 0 rfl ?_
      refine zi_iload_n (pc' := 25) X dX6_spring_24 rfl rfl 1 rfl ?_
      refine zi_callVi (pc' := 28) X zl_X6_96 ha0 (by decide) [.int a1] rfl rfl (by decide) (Nat.le_of_ble_eq_true rfl) dX6_spring_25 rfl (tX6_hasSpring _ ha0 (zok_bd h (fun r7 m8 h => ?_)))
      refine zi_if_eq (pc' := 31) (tgt := 35) X dX6_spring_28 rfl rfl (fun c => ?_) (fun c => ?_)
      · replace h := zok_t h c
        refine zi_iconst (pc' := 36) (v := (0 : Int32)) X dX6_spring_35 rfl rfl ?_
        exact zi_sub X [0, 1, 2] _ rfl (lX6_spring_36 X hret a0 a1 a2 (0 : Int32) (m8) ha0 h)
      · replace h := zok_f h c
        refine zi_iconst (pc' := 32) (v := (1 : Int32)) X dX6_spring_31 rfl rfl ?_
        refine zi_goto (pc' := 36) X dX6_spring_32 rfl ?_
        exact zi_sub X [0, 1, 2] _ rfl (lX6_spring_36 X hret a0 a1 a2 (1 : Int32) (m8) ha0 h)
    · replace h := zok_t h c
      refine zi_aload_n (pc' := 18) X dX6_spring_17 rfl rfl 0 rfl ?_
      refine zi_iconst (pc' := 19) (v := (0 : Int32)) X dX6_spring_18 rfl rfl ?_
      refine zi_callVi (pc' := 22) X zl_X6_93 ha0 (by decide) [.int (0 : Int32)] rfl rfl (by decide) (Nat.le_of_ble_eq_true rfl) dX6_spring_19 rfl (tX6_finds _ ha0 (zok_bd h (fun r11 m12 h => ?_)))
      exact hret _ _ _ _ dX6_spring_22 trivial h
