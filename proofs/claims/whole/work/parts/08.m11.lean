def fX6_steepest_4 : Nat → Nat → Int32 → Int32 → Int32 → zMem → Option (Int32 × zMem)
  | 0, _, _, _, _, _ => none
  | n + 1, a0, a1, a2, a3, μ =>
    if (25 : Int32) ≤ a3 then
      some (a2, μ)
    else
      zbd (fX6_areBeside a3 a1 μ) fun r1 m2 =>
      if r1 = 0 then
        fX6_steepest_4 n a0 a1 a2 (a3 + (1 : Int32)) m2
      else
        zgd (zib ((4 : Int32) + a3) 87) (
        zgd (zib ((4 : Int32) + a1) 87) (
        fX6_steepest_4 n a0 a1 (if a2 < (if 0 ≤ ((m2 (a0 + 1) (((4 : Int32) + a3)).toNatClampNeg) - (m2 (a0 + 1) (((4 : Int32) + a1)).toNatClampNeg)) then ((m2 (a0 + 1) (((4 : Int32) + a3)).toNatClampNeg) - (m2 (a0 + 1) (((4 : Int32) + a1)).toNatClampNeg)) else 0 - ((m2 (a0 + 1) (((4 : Int32) + a3)).toNatClampNeg) - (m2 (a0 + 1) (((4 : Int32) + a1)).toNatClampNeg))) then (if 0 ≤ ((m2 (a0 + 1) (((4 : Int32) + a3)).toNatClampNeg) - (m2 (a0 + 1) (((4 : Int32) + a1)).toNatClampNeg)) then ((m2 (a0 + 1) (((4 : Int32) + a3)).toNatClampNeg) - (m2 (a0 + 1) (((4 : Int32) + a1)).toNatClampNeg)) else 0 - ((m2 (a0 + 1) (((4 : Int32) + a3)).toNatClampNeg) - (m2 (a0 + 1) (((4 : Int32) + a1)).toNatClampNeg))) else a2) (a3 + (1 : Int32)) m2))
set_option maxRecDepth 100000 in
theorem lX6_steepest_4 {g : zG} {κ : zK} (X : zC g κ RX6 cX6_steepest 4 2) {Q : Int32 → zMem → Prop} (hret : ∀ pc lv r μ', decode cX6_steepest pc = .ok (.ireturn, 1) → True → Q r μ' → zV g κ pc lv [.int r] μ') : ∀ (n : Nat) (a0 : Nat) (a1 : Int32) (a2 : Int32) (a3 : Int32) (μ : zMem) (ha0 : zkd a0 = 6), zok (fX6_steepest_4 n a0 a1 a2 a3 μ) Q → zV g κ 4 [(0, .ref (zad g a0)), (1, .int a1), (2, .int a2), (3, .int a3)] [] μ := by
  intro n
  induction n with
  | zero =>
    intro a0 a1 a2 a3 μ ha0 h
    exact h.elim
  | succ n ih =>
    intro a0 a1 a2 a3 μ ha0 h
    rw [fX6_steepest_4] at h
    refine zi_iload_n (pc' := 5) X dX6_steepest_4 rfl rfl 3 rfl ?_
    refine zi_bipush (pc' := 7) (v := (25 : Int32)) X dX6_steepest_5 rfl rfl ?_
    refine zi_icmp_ge (pc' := 10) (tgt := 53) X dX6_steepest_7 rfl rfl (fun c => ?_) (fun c => ?_)
    · replace h := zok_t h c
      refine zi_iload_n (pc' := 54) X dX6_steepest_53 rfl rfl 2 rfl ?_
      exact hret _ _ _ _ dX6_steepest_54 trivial h
    · replace h := zok_f h c
      refine zi_iload_n (pc' := 11) X dX6_steepest_10 rfl rfl 3 rfl ?_
      refine zi_iload_n (pc' := 12) X dX6_steepest_11 rfl rfl 1 rfl ?_
      refine zi_callSi (pc' := 15) X zl_X6_110 [.int a3, .int a1] rfl rfl (by decide) (Nat.le_of_ble_eq_true rfl) dX6_steepest_12 rfl (tX6_areBeside _ (zok_bd h (fun r1 m2 h => ?_)))
      refine zi_if_eq (pc' := 18) (tgt := 45) X dX6_steepest_15 rfl rfl (fun c => ?_) (fun c => ?_)
      · replace h := zok_t h c
        refine zi_iload_n (pc' := 46) X dX6_steepest_45 rfl rfl 2 rfl ?_
        refine zi_istore_n (pc' := 47) X dX6_steepest_46 rfl rfl (by decide) [(2, .int a2), (0, .ref (zad g a0)), (1, .int a1), (3, .int a3)] rfl ?_
        refine zi_iinc (pc' := 50) (v := (a3 + (1 : Int32))) X dX6_steepest_47 rfl 3 rfl rfl (by decide) [(3, .int (a3 + (1 : Int32))), (2, .int a2), (0, .ref (zad g a0)), (1, .int a1)] rfl ?_
        refine zi_goto (pc' := 4) X dX6_steepest_50 rfl ?_
        exact zi_sub X [2, 3, 1, 0] _ rfl (ih a0 a1 a2 (a3 + (1 : Int32)) (m2) ha0 h)
      · replace h := zok_f h c
        refine zi_iload_n (pc' := 19) X dX6_steepest_18 rfl rfl 2 rfl ?_
        refine zi_aload_n (pc' := 20) X dX6_steepest_19 rfl rfl 0 rfl ?_
        refine zi_getr (pc' := 23) X zf_X6_9 rfl (by decide) ha0 dX6_steepest_20 rfl ?_
        have f3 := zr_6_0 ha0
        refine zi_iconst (pc' := 24) (v := (4 : Int32)) X dX6_steepest_23 rfl rfl ?_
        refine zi_iload_n (pc' := 25) X dX6_steepest_24 rfl rfl 3 rfl ?_
        refine zi_iadd (pc' := 26) X dX6_steepest_25 rfl ?_
        obtain ⟨g4, h⟩ := zok_g h
        refine zi_iald (pc' := 27) X f3.1 (by rw [f3.2]; exact g4) dX6_steepest_26 rfl ?_
        refine zi_aload_n (pc' := 28) X dX6_steepest_27 rfl rfl 0 rfl ?_
        refine zi_getr (pc' := 31) X zf_X6_9 rfl (by decide) ha0 dX6_steepest_28 rfl ?_
        have f5 := zr_6_0 ha0
        refine zi_iconst (pc' := 32) (v := (4 : Int32)) X dX6_steepest_31 rfl rfl ?_
        refine zi_iload_n (pc' := 33) X dX6_steepest_32 rfl rfl 1 rfl ?_
        refine zi_iadd (pc' := 34) X dX6_steepest_33 rfl ?_
        obtain ⟨g6, h⟩ := zok_g h
        refine zi_iald (pc' := 35) X f5.1 (by rw [f5.2]; exact g6) dX6_steepest_34 rfl ?_
        refine zi_isub (pc' := 36) X dX6_steepest_35 rfl ?_
        refine zi_mabs (pc' := 39) X zl_X6_67 (Nat.le_of_ble_eq_true rfl) (by decide) dX6_steepest_36 rfl ?_
        refine zi_mmax (pc' := 42) X zl_X6_64 (Nat.le_of_ble_eq_true rfl) (by decide) dX6_steepest_39 rfl ?_
        refine zi_goto (pc' := 46) X dX6_steepest_42 rfl ?_
        refine zi_istore_n (pc' := 47) X dX6_steepest_46 rfl rfl (by decide) [(2, .int (if a2 < (if 0 ≤ ((m2 (a0 + 1) (((4 : Int32) + a3)).toNatClampNeg) - (m2 (a0 + 1) (((4 : Int32) + a1)).toNatClampNeg)) then ((m2 (a0 + 1) (((4 : Int32) + a3)).toNatClampNeg) - (m2 (a0 + 1) (((4 : Int32) + a1)).toNatClampNeg)) else 0 - ((m2 (a0 + 1) (((4 : Int32) + a3)).toNatClampNeg) - (m2 (a0 + 1) (((4 : Int32) + a1)).toNatClampNeg))) then (if 0 ≤ ((m2 (a0 + 1) (((4 : Int32) + a3)).toNatClampNeg) - (m2 (a0 + 1) (((4 : Int32) + a1)).toNatClampNeg)) then ((m2 (a0 + 1) (((4 : Int32) + a3)).toNatClampNeg) - (m2 (a0 + 1) (((4 : Int32) + a1)).toNatClampNeg)) else 0 - ((m2 (a0 + 1) (((4 : Int32) + a3)).toNatClampNeg) - (m2 (a0 + 1) (((4 : Int32) + a1)).toNatClampNeg))) else a2)), (0, .ref (zad g a0)), (1, .int a1), (3, .int a3)] rfl ?_
        refine zi_iinc (pc' := 50) (v := (a3 + (1 : Int32))) X dX6_steepest_47 rfl 3 rfl rfl (by decide) [(3, .int (a3 + (1 : Int32))), (2, .int (if a2 < (if 0 ≤ ((m2 (a0 + 1) (((4 : Int32) + a3)).toNatClampNeg) - (m2 (a0 + 1) (((4 : Int32) + a1)).toNatClampNeg)) then ((m2 (a0 + 1) (((4 : Int32) + a3)).toNatClampNeg) - (m2 (a0 + 1) (((4 : Int32) + a1)).toNatClampNeg)) else 0 - ((m2 (a0 + 1) (((4 : Int32) + a3)).toNatClampNeg) - (m2 (a0 + 1) (((4 : Int32) + a1)).toNatClampNeg))) then (if 0 ≤ ((m2 (a0 + 1) (((4 : Int32) + a3)).toNatClampNeg) - (m2 (a0 + 1) (((4 : Int32) + a1)).toNatClampNeg)) then ((m2 (a0 + 1) (((4 : Int32) + a3)).toNatClampNeg) - (m2 (a0 + 1) (((4 : Int32) + a1)).toNatClampNeg)) else 0 - ((m2 (a0 + 1) (((4 : Int32) + a3)).toNatClampNeg) - (m2 (a0 + 1) (((4 : Int32) + a1)).toNatClampNeg))) else a2)), (0, .ref (zad g a0)), (1, .int a1)] rfl ?_
        refine zi_goto (pc' := 4) X dX6_steepest_50 rfl ?_
        exact zi_sub X [2, 3, 1, 0] _ rfl (ih a0 a1 (if a2 < (if 0 ≤ ((m2 (a0 + 1) (((4 : Int32) + a3)).toNatClampNeg) - (m2 (a0 + 1) (((4 : Int32) + a1)).toNatClampNeg)) then ((m2 (a0 + 1) (((4 : Int32) + a3)).toNatClampNeg) - (m2 (a0 + 1) (((4 : Int32) + a1)).toNatClampNeg)) else 0 - ((m2 (a0 + 1) (((4 : Int32) + a3)).toNatClampNeg) - (m2 (a0 + 1) (((4 : Int32) + a1)).toNatClampNeg))) then (if 0 ≤ ((m2 (a0 + 1) (((4 : Int32) + a3)).toNatClampNeg) - (m2 (a0 + 1) (((4 : Int32) + a1)).toNatClampNeg)) then ((m2 (a0 + 1) (((4 : Int32) + a3)).toNatClampNeg) - (m2 (a0 + 1) (((4 : Int32) + a1)).toNatClampNeg)) else 0 - ((m2 (a0 + 1) (((4 : Int32) + a3)).toNatClampNeg) - (m2 (a0 + 1) (((4 : Int32) + a1)).toNatClampNeg))) else a2) (a3 + (1 : Int32)) (m2) ha0 h)
def fX6_steepest (a0 : Nat) (a1 : Int32) (μ : zMem) : Option (Int32 × zMem) :=
  fX6_steepest_4 200 a0 a1 (0 : Int32) (0 : Int32) μ
set_option maxRecDepth 100000 in
set_option maxHeartbeats 4000000 in
theorem tX6_steepest (g : zG) {a0 : Nat} {a1 : Int32} {μ : zMem} {Q : Int32 → zMem → Prop} (ha0 : zkd a0 = 6) (h : zok (fX6_steepest a0 a1 μ) Q) : zTi g yX6_steepest cX6_steepest 4 .int 2 [.ref (zad g a0), .int a1] μ Q := by
  refine zTi_of (P := fun r => True) zpi RX6 (by decide) rfl (Nat.le_of_ble_eq_true rfl) ?_
  intro κ X hret
  unfold fX6_steepest at h
  refine zi_iconst (pc' := 1) (v := (0 : Int32)) X dX6_steepest_0 rfl rfl ?_
  refine zi_istore_n (pc' := 2) X dX6_steepest_1 rfl rfl (by decide) [(2, .int (0 : Int32)), (0, .ref (zad g a0)), (1, .int a1)] rfl ?_
  refine zi_iconst (pc' := 3) (v := (0 : Int32)) X dX6_steepest_2 rfl rfl ?_
  refine zi_istore_n (pc' := 4) X dX6_steepest_3 rfl rfl (by decide) [(3, .int (0 : Int32)), (2, .int (0 : Int32)), (0, .ref (zad g a0)), (1, .int a1)] rfl ?_
  exact zi_sub X [2, 3, 1, 0] _ rfl (lX6_steepest_4 X hret 200 a0 a1 (0 : Int32) (0 : Int32) (μ) ha0 h)
def fX6_tent (a0 : Nat) (a1 : Int32) (μ : zMem) : Option (Int32 × zMem) :=
  zbd (fX6_isKind a1 μ) fun r1 m2 =>
  if r1 = 0 then
    zbd (fX6_finds a0 (0 : Int32) m2) fun r9 m10 =>
    some (r9, m10)
  else
    zgd (zib (2 : Int32) 87) (
    if (m2 (a0 + 1) ((2 : Int32)).toNatClampNeg) = (6 : Int32) then
      zbd (fX6_finds a0 (1 : Int32) m2) fun r7 m8 =>
      some (r7, m8)
    else
      zbd (fX6_adds a0 a1 m2) fun r5 m6 =>
      some (r5, m6))
set_option maxRecDepth 100000 in
set_option maxHeartbeats 4000000 in
theorem tX6_tent (g : zG) {a0 : Nat} {a1 : Int32} {μ : zMem} {Q : Int32 → zMem → Prop} (ha0 : zkd a0 = 6) (h : zok (fX6_tent a0 a1 μ) Q) : zTi g yX6_tent cX6_tent 2 .int 2 [.ref (zad g a0), .int a1] μ Q := by
  refine zTi_of (P := fun r => True) zpi RX6 (by decide) rfl (Nat.le_of_ble_eq_true rfl) ?_
  intro κ X hret
  unfold fX6_tent at h
  refine zi_iload_n (pc' := 1) X dX6_tent_0 rfl rfl 1 rfl ?_
  refine zi_callSi (pc' := 4) X zl_X6_121 [.int a1] rfl rfl (by decide) (Nat.le_of_ble_eq_true rfl) dX6_tent_1 rfl (tX6_isKind _ (zok_bd h (fun r1 m2 h => ?_)))
  refine zi_if_ne (pc' := 7) (tgt := 13) X dX6_tent_4 rfl rfl (fun c => ?_) (fun c => ?_)
  · replace h := zok_f h c
    refine zi_aload_n (pc' := 14) X dX6_tent_13 rfl rfl 0 rfl ?_
    refine zi_getr (pc' := 17) X zf_X6_9 rfl (by decide) ha0 dX6_tent_14 rfl ?_
    have f3 := zr_6_0 ha0
    refine zi_iconst (pc' := 18) (v := (2 : Int32)) X dX6_tent_17 rfl rfl ?_
    obtain ⟨g4, h⟩ := zok_g h
    refine zi_iald (pc' := 19) X f3.1 (by rw [f3.2]; exact g4) dX6_tent_18 rfl ?_
    refine zi_bipush (pc' := 21) (v := (6 : Int32)) X dX6_tent_19 rfl rfl ?_
    refine zi_icmp_ne (pc' := 24) (tgt := 32) X dX6_tent_21 rfl rfl (fun c => ?_) (fun c => ?_)
    · replace h := zok_f h c
      refine zi_aload_n (pc' := 33) X dX6_tent_32 rfl rfl 0 rfl ?_
      refine zi_iload_n (pc' := 34) X dX6_tent_33 rfl rfl 1 rfl ?_
      refine zi_callVi (pc' := 37) X zl_X6_124 ha0 (by decide) [.int a1] rfl rfl (by decide) (Nat.le_of_ble_eq_true rfl) dX6_tent_34 rfl (tX6_adds _ ha0 (zok_bd h (fun r5 m6 h => ?_)))
      exact hret _ _ _ _ dX6_tent_37 trivial h
    · replace h := zok_t h c
      refine zi_aload_n (pc' := 25) X dX6_tent_24 rfl rfl 0 rfl ?_
      refine zi_iconst (pc' := 26) (v := (1 : Int32)) X dX6_tent_25 rfl rfl ?_
      refine zi_callVi (pc' := 29) X zl_X6_93 ha0 (by decide) [.int (1 : Int32)] rfl rfl (by decide) (Nat.le_of_ble_eq_true rfl) dX6_tent_26 rfl (tX6_finds _ ha0 (zok_bd h (fun r7 m8 h => ?_)))
      refine zi_goto (pc' := 37) X dX6_tent_29 rfl ?_
      exact hret _ _ _ _ dX6_tent_37 trivial h
  · replace h := zok_t h c
    refine zi_aload_n (pc' := 8) X dX6_tent_7 rfl rfl 0 rfl ?_
    refine zi_iconst (pc' := 9) (v := (0 : Int32)) X dX6_tent_8 rfl rfl ?_
    refine zi_callVi (pc' := 12) X zl_X6_93 ha0 (by decide) [.int (0 : Int32)] rfl rfl (by decide) (Nat.le_of_ble_eq_true rfl) dX6_tent_9 rfl (tX6_finds _ ha0 (zok_bd h (fun r9 m10 h => ?_)))
    exact hret _ _ _ _ dX6_tent_12 trivial h
def fX6_tentsOn_4 : Nat → Nat → Int32 → Int32 → Int32 → zMem → Option (Int32 × zMem)
  | 0, _, _, _, _, _ => none
  | n + 1, a0, a1, a2, a3, μ =>
    zgd (zib (2 : Int32) 87) (
    if (μ (a0 + 1) ((2 : Int32)).toNatClampNeg) ≤ a3 then
      some (a2, μ)
    else
      zbd (fX6_its a0 a3 (1 : Int32) μ) fun r3 m4 =>
      zbd (fX6_covers a0 r3 a1 m4) fun r5 m6 =>
      if r5 = 0 then
        fX6_tentsOn_4 n a0 a1 (a2 ||| (0 : Int32)) (a3 + (1 : Int32)) m6
      else
        fX6_tentsOn_4 n a0 a1 (a2 ||| ((1 : Int32) <<< (a3 &&& 31))) (a3 + (1 : Int32)) m6)
set_option maxRecDepth 100000 in
theorem lX6_tentsOn_4 {g : zG} {κ : zK} (X : zC g κ RX6 cX6_tentsOn 4 2) {Q : Int32 → zMem → Prop} (hret : ∀ pc lv r μ', decode cX6_tentsOn pc = .ok (.ireturn, 1) → True → Q r μ' → zV g κ pc lv [.int r] μ') : ∀ (n : Nat) (a0 : Nat) (a1 : Int32) (a2 : Int32) (a3 : Int32) (μ : zMem) (ha0 : zkd a0 = 6), zok (fX6_tentsOn_4 n a0 a1 a2 a3 μ) Q → zV g κ 4 [(0, .ref (zad g a0)), (1, .int a1), (2, .int a2), (3, .int a3)] [] μ := by
  intro n
  induction n with
  | zero =>
    intro a0 a1 a2 a3 μ ha0 h
    exact h.elim
  | succ n ih =>
    intro a0 a1 a2 a3 μ ha0 h
    rw [fX6_tentsOn_4] at h
    refine zi_iload_n (pc' := 5) X dX6_tentsOn_4 rfl rfl 3 rfl ?_
    refine zi_aload_n (pc' := 6) X dX6_tentsOn_5 rfl rfl 0 rfl ?_
    refine zi_getr (pc' := 9) X zf_X6_9 rfl (by decide) ha0 dX6_tentsOn_6 rfl ?_
    have f1 := zr_6_0 ha0
    refine zi_iconst (pc' := 10) (v := (2 : Int32)) X dX6_tentsOn_9 rfl rfl ?_
    obtain ⟨g2, h⟩ := zok_g h
    refine zi_iald (pc' := 11) X f1.1 (by rw [f1.2]; exact g2) dX6_tentsOn_10 rfl ?_
    refine zi_icmp_ge (pc' := 14) (tgt := 44) X dX6_tentsOn_11 rfl rfl (fun c => ?_) (fun c => ?_)
    · replace h := zok_t h c
      refine zi_iload_n (pc' := 45) X dX6_tentsOn_44 rfl rfl 2 rfl ?_
      exact hret _ _ _ _ dX6_tentsOn_45 trivial h
    · replace h := zok_f h c
      refine zi_iload_n (pc' := 15) X dX6_tentsOn_14 rfl rfl 2 rfl ?_
      refine zi_aload_n (pc' := 16) X dX6_tentsOn_15 rfl rfl 0 rfl ?_
      refine zi_aload_n (pc' := 17) X dX6_tentsOn_16 rfl rfl 0 rfl ?_
      refine zi_iload_n (pc' := 18) X dX6_tentsOn_17 rfl rfl 3 rfl ?_
      refine zi_iconst (pc' := 19) (v := (1 : Int32)) X dX6_tentsOn_18 rfl rfl ?_
      refine zi_callVi (pc' := 22) X zl_X6_76 ha0 (by decide) [.int a3, .int (1 : Int32)] rfl rfl (by decide) (Nat.le_of_ble_eq_true rfl) dX6_tentsOn_19 rfl (tX6_its _ ha0 (zok_bd h (fun r3 m4 h => ?_)))
      refine zi_iload_n (pc' := 23) X dX6_tentsOn_22 rfl rfl 1 rfl ?_
      refine zi_callVi (pc' := 26) X zl_X6_106 ha0 (by decide) [.int r3, .int a1] rfl rfl (by decide) (Nat.le_of_ble_eq_true rfl) dX6_tentsOn_23 rfl (tX6_covers _ ha0 (zok_bd h (fun r5 m6 h => ?_)))
      refine zi_if_eq (pc' := 29) (tgt := 35) X dX6_tentsOn_26 rfl rfl (fun c => ?_) (fun c => ?_)
      · replace h := zok_t h c
        refine zi_iconst (pc' := 36) (v := (0 : Int32)) X dX6_tentsOn_35 rfl rfl ?_
        refine zi_ior (pc' := 37) X dX6_tentsOn_36 rfl ?_
        refine zi_istore_n (pc' := 38) X dX6_tentsOn_37 rfl rfl (by decide) [(2, .int (a2 ||| (0 : Int32))), (0, .ref (zad g a0)), (1, .int a1), (3, .int a3)] rfl ?_
        refine zi_iinc (pc' := 41) (v := (a3 + (1 : Int32))) X dX6_tentsOn_38 rfl 3 rfl rfl (by decide) [(3, .int (a3 + (1 : Int32))), (2, .int (a2 ||| (0 : Int32))), (0, .ref (zad g a0)), (1, .int a1)] rfl ?_
        refine zi_goto (pc' := 4) X dX6_tentsOn_41 rfl ?_
        exact zi_sub X [2, 3, 1, 0] _ rfl (ih a0 a1 (a2 ||| (0 : Int32)) (a3 + (1 : Int32)) (m6) ha0 h)
      · replace h := zok_f h c
        refine zi_iconst (pc' := 30) (v := (1 : Int32)) X dX6_tentsOn_29 rfl rfl ?_
        refine zi_iload_n (pc' := 31) X dX6_tentsOn_30 rfl rfl 3 rfl ?_
        refine zi_ishl (pc' := 32) X dX6_tentsOn_31 rfl ?_
        refine zi_goto (pc' := 36) X dX6_tentsOn_32 rfl ?_
        refine zi_ior (pc' := 37) X dX6_tentsOn_36 rfl ?_
        refine zi_istore_n (pc' := 38) X dX6_tentsOn_37 rfl rfl (by decide) [(2, .int (a2 ||| ((1 : Int32) <<< (a3 &&& 31)))), (0, .ref (zad g a0)), (1, .int a1), (3, .int a3)] rfl ?_
        refine zi_iinc (pc' := 41) (v := (a3 + (1 : Int32))) X dX6_tentsOn_38 rfl 3 rfl rfl (by decide) [(3, .int (a3 + (1 : Int32))), (2, .int (a2 ||| ((1 : Int32) <<< (a3 &&& 31)))), (0, .ref (zad g a0)), (1, .int a1)] rfl ?_
        refine zi_goto (pc' := 4) X dX6_tentsOn_41 rfl ?_
        exact zi_sub X [2, 3, 1, 0] _ rfl (ih a0 a1 (a2 ||| ((1 : Int32) <<< (a3 &&& 31))) (a3 + (1 : Int32)) (m6) ha0 h)
def fX6_tentsOn (a0 : Nat) (a1 : Int32) (μ : zMem) : Option (Int32 × zMem) :=
  fX6_tentsOn_4 200 a0 a1 (0 : Int32) (0 : Int32) μ
set_option maxRecDepth 100000 in
set_option maxHeartbeats 4000000 in
theorem tX6_tentsOn (g : zG) {a0 : Nat} {a1 : Int32} {μ : zMem} {Q : Int32 → zMem → Prop} (ha0 : zkd a0 = 6) (h : zok (fX6_tentsOn a0 a1 μ) Q) : zTi g yX6_tentsOn cX6_tentsOn 4 .int 2 [.ref (zad g a0), .int a1] μ Q := by
  refine zTi_of (P := fun r => True) zpi RX6 (by decide) rfl (Nat.le_of_ble_eq_true rfl) ?_
  intro κ X hret
  unfold fX6_tentsOn at h
  refine zi_iconst (pc' := 1) (v := (0 : Int32)) X dX6_tentsOn_0 rfl rfl ?_
  refine zi_istore_n (pc' := 2) X dX6_tentsOn_1 rfl rfl (by decide) [(2, .int (0 : Int32)), (0, .ref (zad g a0)), (1, .int a1)] rfl ?_
  refine zi_iconst (pc' := 3) (v := (0 : Int32)) X dX6_tentsOn_2 rfl rfl ?_
  refine zi_istore_n (pc' := 4) X dX6_tentsOn_3 rfl rfl (by decide) [(3, .int (0 : Int32)), (2, .int (0 : Int32)), (0, .ref (zad g a0)), (1, .int a1)] rfl ?_
  exact zi_sub X [2, 3, 1, 0] _ rfl (lX6_tentsOn_4 X hret 200 a0 a1 (0 : Int32) (0 : Int32) (μ) ha0 h)
def fX6_unlike (a0 : Nat) (a1 : Int32) (a2 : Int32) (μ : zMem) : Option (Int32 × zMem) :=
  zbd (fX6_isTent a0 a1 μ) fun r1 m2 =>
  if r1 = 0 then
    zbd (fX6_finds a0 (0 : Int32) m2) fun r3 m4 =>
    some (r3, m4)
  else
    zbd (fX6_isPitch a2 m2) fun r5 m6 =>
    if r5 = 0 then
      zbd (fX6_finds a0 (0 : Int32) m6) fun r7 m8 =>
      some (r7, m8)
    else
      zbd (fX6_unlikeBy a0 a1 a2 m6) fun r9 m10 =>
      some (r9, m10)
set_option maxRecDepth 100000 in
set_option maxHeartbeats 4000000 in
theorem tX6_unlike (g : zG) {a0 : Nat} {a1 : Int32} {a2 : Int32} {μ : zMem} {Q : Int32 → zMem → Prop} (ha0 : zkd a0 = 6) (h : zok (fX6_unlike a0 a1 a2 μ) Q) : zTi g yX6_unlike cX6_unlike 3 .int 2 [.ref (zad g a0), .int a1, .int a2] μ Q := by
  refine zTi_of (P := fun r => True) zpi RX6 (by decide) rfl (Nat.le_of_ble_eq_true rfl) ?_
  intro κ X hret
  unfold fX6_unlike at h
  refine zi_aload_n (pc' := 1) X dX6_unlike_0 rfl rfl 0 rfl ?_
  refine zi_iload_n (pc' := 2) X dX6_unlike_1 rfl rfl 1 rfl ?_
  refine zi_callVi (pc' := 5) X zl_X6_127 ha0 (by decide) [.int a1] rfl rfl (by decide) (Nat.le_of_ble_eq_true rfl) dX6_unlike_2 rfl (tX6_isTent _ ha0 (zok_bd h (fun r1 m2 h => ?_)))
  refine zi_if_eq (pc' := 8) (tgt := 24) X dX6_unlike_5 rfl rfl (fun c => ?_) (fun c => ?_)
  · replace h := zok_t h c
    refine zi_aload_n (pc' := 25) X dX6_unlike_24 rfl rfl 0 rfl ?_
    refine zi_iconst (pc' := 26) (v := (0 : Int32)) X dX6_unlike_25 rfl rfl ?_
    refine zi_callVi (pc' := 29) X zl_X6_93 ha0 (by decide) [.int (0 : Int32)] rfl rfl (by decide) (Nat.le_of_ble_eq_true rfl) dX6_unlike_26 rfl (tX6_finds _ ha0 (zok_bd h (fun r3 m4 h => ?_)))
    exact hret _ _ _ _ dX6_unlike_29 trivial h
  · replace h := zok_f h c
    refine zi_iload_n (pc' := 9) X dX6_unlike_8 rfl rfl 2 rfl ?_
    refine zi_callSi (pc' := 12) X zl_X6_210 [.int a2] rfl rfl (by decide) (Nat.le_of_ble_eq_true rfl) dX6_unlike_9 rfl (tX6_isPitch _ (zok_bd h (fun r5 m6 h => ?_)))
    refine zi_if_eq (pc' := 15) (tgt := 24) X dX6_unlike_12 rfl rfl (fun c => ?_) (fun c => ?_)
    · replace h := zok_t h c
      refine zi_aload_n (pc' := 25) X dX6_unlike_24 rfl rfl 0 rfl ?_
      refine zi_iconst (pc' := 26) (v := (0 : Int32)) X dX6_unlike_25 rfl rfl ?_
      refine zi_callVi (pc' := 29) X zl_X6_93 ha0 (by decide) [.int (0 : Int32)] rfl rfl (by decide) (Nat.le_of_ble_eq_true rfl) dX6_unlike_26 rfl (tX6_finds _ ha0 (zok_bd h (fun r7 m8 h => ?_)))
      exact hret _ _ _ _ dX6_unlike_29 trivial h
    · replace h := zok_f h c
      refine zi_aload_n (pc' := 16) X dX6_unlike_15 rfl rfl 0 rfl ?_
      refine zi_iload_n (pc' := 17) X dX6_unlike_16 rfl rfl 1 rfl ?_
      refine zi_iload_n (pc' := 18) X dX6_unlike_17 rfl rfl 2 rfl ?_
      refine zi_callVi (pc' := 21) X zl_X6_213 ha0 (by decide) [.int a1, .int a2] rfl rfl (by decide) (Nat.le_of_ble_eq_true rfl) dX6_unlike_18 rfl (tX6_unlikeBy _ ha0 (zok_bd h (fun r9 m10 h => ?_)))
      refine zi_goto (pc' := 29) X dX6_unlike_21 rfl ?_
      exact hret _ _ _ _ dX6_unlike_29 trivial h
def fX6_aDay_23 (k2 : Nat → Int32 → zMem → Option (Unit × zMem)) : Nat → Nat → Int32 → Int32 → zMem → Option (Unit × zMem)
  | 0, _, _, _, _ => none
  | n + 1, a0, a1, a2, μ =>
    if (4 : Int32) ≤ a2 then
      zbd (fX6_its a0 a1 (2 : Int32) μ) fun r8 m9 =>
      zbd (fX6_wears a0 a1 m9) fun r10 m11 =>
      zbd (fX6_sets a0 a1 (2 : Int32) (if (r8 + r10) < (99 : Int32) then (r8 + r10) else (99 : Int32)) m11) fun _ m13 =>
      k2 a0 (a1 + (1 : Int32)) m13
    else
      zbd (fX6_pressesOn a0 a1 a2 μ) fun _ m15 =>
      fX6_aDay_23 k2 n a0 a1 (a2 + (1 : Int32)) m15
set_option maxRecDepth 100000 in
theorem lX6_aDay_23 {g : zG} {κ : zK} (X : zC g κ RX6 cX6_aDay 3 3) {Q : Unit → zMem → Prop} (hret : ∀ pc lv μ', decode cX6_aDay pc = .ok (.return_, 1) → Q () μ' → zV g κ pc lv [] μ') {k2 : Nat → Int32 → zMem → Option (Unit × zMem)} (hk2 : ∀ (a0 : Nat) (a1 : Int32) (μ : zMem) (_ : zkd a0 = 6), zok (k2 a0 a1 μ) Q → zV g κ 2 [(0, .ref (zad g a0)), (1, .int a1)] [] μ) : ∀ (n : Nat) (a0 : Nat) (a1 : Int32) (a2 : Int32) (μ : zMem) (ha0 : zkd a0 = 6), zok (fX6_aDay_23 k2 n a0 a1 a2 μ) Q → zV g κ 23 [(0, .ref (zad g a0)), (1, .int a1), (2, .int a2)] [] μ := by
  intro n
  induction n with
  | zero =>
    intro a0 a1 a2 μ ha0 h
    exact h.elim
  | succ n ih =>
    intro a0 a1 a2 μ ha0 h
    rw [fX6_aDay_23] at h
    refine zi_iload_n (pc' := 24) X dX6_aDay_23 rfl rfl 2 rfl ?_
    refine zi_iconst (pc' := 25) (v := (4 : Int32)) X dX6_aDay_24 rfl rfl ?_
    refine zi_icmp_ge (pc' := 28) (tgt := 40) X dX6_aDay_25 rfl rfl (fun c => ?_) (fun c => ?_)
    · replace h := zok_t h c
      refine zi_aload_n (pc' := 41) X dX6_aDay_40 rfl rfl 0 rfl ?_
      refine zi_iload_n (pc' := 42) X dX6_aDay_41 rfl rfl 1 rfl ?_
      refine zi_iconst (pc' := 43) (v := (2 : Int32)) X dX6_aDay_42 rfl rfl ?_
      refine zi_bipush (pc' := 45) (v := (99 : Int32)) X dX6_aDay_43 rfl rfl ?_
      refine zi_aload_n (pc' := 46) X dX6_aDay_45 rfl rfl 0 rfl ?_
      refine zi_iload_n (pc' := 47) X dX6_aDay_46 rfl rfl 1 rfl ?_
      refine zi_iconst (pc' := 48) (v := (2 : Int32)) X dX6_aDay_47 rfl rfl ?_
      refine zi_callVi (pc' := 51) X zl_X6_76 ha0 (by decide) [.int a1, .int (2 : Int32)] rfl rfl (by decide) (Nat.le_of_ble_eq_true rfl) dX6_aDay_48 rfl (tX6_its _ ha0 (zok_bd h (fun r8 m9 h => ?_)))
      refine zi_aload_n (pc' := 52) X dX6_aDay_51 rfl rfl 0 rfl ?_
      refine zi_iload_n (pc' := 53) X dX6_aDay_52 rfl rfl 1 rfl ?_
      refine zi_callVi (pc' := 56) X zl_X6_132 ha0 (by decide) [.int a1] rfl rfl (by decide) (Nat.le_of_ble_eq_true rfl) dX6_aDay_53 rfl (tX6_wears _ ha0 (zok_bd h (fun r10 m11 h => ?_)))
      refine zi_iadd (pc' := 57) X dX6_aDay_56 rfl ?_
      refine zi_mmin (pc' := 60) X zl_X6_58 (Nat.le_of_ble_eq_true rfl) (by decide) dX6_aDay_57 rfl ?_
      refine zi_callVv (pc' := 63) X zl_X6_79 ha0 (by decide) [.int a1, .int (2 : Int32), .int (if (r8 + r10) < (99 : Int32) then (r8 + r10) else (99 : Int32))] rfl rfl (by decide) (Nat.le_of_ble_eq_true rfl) dX6_aDay_60 rfl (tX6_sets _ ha0 (zok_bd h (fun _ m13 h => ?_)))
      refine zi_iinc (pc' := 66) (v := (a1 + (1 : Int32))) X dX6_aDay_63 rfl 1 rfl rfl (by decide) [(1, .int (a1 + (1 : Int32))), (0, .ref (zad g a0)), (2, .int a2)] rfl ?_
      refine zi_goto (pc' := 2) X dX6_aDay_66 rfl ?_
      exact zi_sub X [1, 0] _ rfl (hk2 a0 (a1 + (1 : Int32)) (m13) ha0 h)
    · replace h := zok_f h c
      refine zi_aload_n (pc' := 29) X dX6_aDay_28 rfl rfl 0 rfl ?_
      refine zi_iload_n (pc' := 30) X dX6_aDay_29 rfl rfl 1 rfl ?_
      refine zi_iload_n (pc' := 31) X dX6_aDay_30 rfl rfl 2 rfl ?_
      refine zi_callVv (pc' := 34) X zl_X6_153 ha0 (by decide) [.int a1, .int a2] rfl rfl (by decide) (Nat.le_of_ble_eq_true rfl) dX6_aDay_31 rfl (tX6_pressesOn _ ha0 (zok_bd h (fun _ m15 h => ?_)))
      refine zi_iinc (pc' := 37) (v := (a2 + (1 : Int32))) X dX6_aDay_34 rfl 2 rfl rfl (by decide) [(2, .int (a2 + (1 : Int32))), (0, .ref (zad g a0)), (1, .int a1)] rfl ?_
      refine zi_goto (pc' := 23) X dX6_aDay_37 rfl ?_
      exact zi_sub X [1, 2, 0] _ rfl (ih a0 a1 (a2 + (1 : Int32)) (m15) ha0 h)
def fX6_aDay_2 : Nat → Nat → Int32 → zMem → Option (Unit × zMem)
  | 0, _, _, _ => none
  | n + 1, a0, a1, μ =>
    zgd (zib (2 : Int32) 87) (
    if (μ (a0 + 1) ((2 : Int32)).toNatClampNeg) ≤ a1 then
      zgd (zib (0 : Int32) 87) (
      zgd (zib (0 : Int32) 87) (
      some ((), (zst μ (a0 + 1) ((0 : Int32)).toNatClampNeg ((μ (a0 + 1) ((0 : Int32)).toNatClampNeg) + (1 : Int32))))))
    else
      zbd (fX6_its a0 a1 (1 : Int32) μ) fun r6 m7 =>
      if r6 < 0 then
        fX6_aDay_2 n a0 (a1 + (1 : Int32)) m7
      else
        fX6_aDay_23 (fX6_aDay_2 n) 200 a0 a1 (0 : Int32) m7)
set_option maxRecDepth 100000 in
theorem lX6_aDay_2 {g : zG} {κ : zK} (X : zC g κ RX6 cX6_aDay 3 3) {Q : Unit → zMem → Prop} (hret : ∀ pc lv μ', decode cX6_aDay pc = .ok (.return_, 1) → Q () μ' → zV g κ pc lv [] μ') : ∀ (n : Nat) (a0 : Nat) (a1 : Int32) (μ : zMem) (ha0 : zkd a0 = 6), zok (fX6_aDay_2 n a0 a1 μ) Q → zV g κ 2 [(0, .ref (zad g a0)), (1, .int a1)] [] μ := by
  intro n
  induction n with
  | zero =>
    intro a0 a1 μ ha0 h
    exact h.elim
  | succ n ih =>
    intro a0 a1 μ ha0 h
    rw [fX6_aDay_2] at h
    refine zi_iload_n (pc' := 3) X dX6_aDay_2 rfl rfl 1 rfl ?_
    refine zi_aload_n (pc' := 4) X dX6_aDay_3 rfl rfl 0 rfl ?_
    refine zi_getr (pc' := 7) X zf_X6_9 rfl (by decide) ha0 dX6_aDay_4 rfl ?_
    have f1 := zr_6_0 ha0
    refine zi_iconst (pc' := 8) (v := (2 : Int32)) X dX6_aDay_7 rfl rfl ?_
    obtain ⟨g2, h⟩ := zok_g h
    refine zi_iald (pc' := 9) X f1.1 (by rw [f1.2]; exact g2) dX6_aDay_8 rfl ?_
    refine zi_icmp_ge (pc' := 12) (tgt := 69) X dX6_aDay_9 rfl rfl (fun c => ?_) (fun c => ?_)
    · replace h := zok_t h c
      refine zi_aload_n (pc' := 70) X dX6_aDay_69 rfl rfl 0 rfl ?_
      refine zi_getr (pc' := 73) X zf_X6_9 rfl (by decide) ha0 dX6_aDay_70 rfl ?_
      have f3 := zr_6_0 ha0
      refine zi_iconst (pc' := 74) (v := (0 : Int32)) X dX6_aDay_73 rfl rfl ?_
      refine zi_dup2 (pc' := 75) X dX6_aDay_74 rfl rfl rfl ?_
      obtain ⟨g4, h⟩ := zok_g h
      refine zi_iald (pc' := 76) X f3.1 (by rw [f3.2]; exact g4) dX6_aDay_75 rfl ?_
      refine zi_iconst (pc' := 77) (v := (1 : Int32)) X dX6_aDay_76 rfl rfl ?_
      refine zi_iadd (pc' := 78) X dX6_aDay_77 rfl ?_
      obtain ⟨g5, h⟩ := zok_g h
      refine zi_iast (pc' := 79) X f3.1 (by rw [f3.2]; exact g5) dX6_aDay_78 rfl ?_
      exact hret _ _ _ dX6_aDay_79 h
    · replace h := zok_f h c
      refine zi_aload_n (pc' := 13) X dX6_aDay_12 rfl rfl 0 rfl ?_
      refine zi_iload_n (pc' := 14) X dX6_aDay_13 rfl rfl 1 rfl ?_
      refine zi_iconst (pc' := 15) (v := (1 : Int32)) X dX6_aDay_14 rfl rfl ?_
      refine zi_callVi (pc' := 18) X zl_X6_76 ha0 (by decide) [.int a1, .int (1 : Int32)] rfl rfl (by decide) (Nat.le_of_ble_eq_true rfl) dX6_aDay_15 rfl (tX6_its _ ha0 (zok_bd h (fun r6 m7 h => ?_)))
      refine zi_if_lt (pc' := 21) (tgt := 63) X dX6_aDay_18 rfl rfl (fun c => ?_) (fun c => ?_)
      · replace h := zok_t h c
        refine zi_iinc (pc' := 66) (v := (a1 + (1 : Int32))) X dX6_aDay_63 rfl 1 rfl rfl (by decide) [(1, .int (a1 + (1 : Int32))), (0, .ref (zad g a0))] rfl ?_
        refine zi_goto (pc' := 2) X dX6_aDay_66 rfl ?_
        exact zi_sub X [1, 0] _ rfl (ih a0 (a1 + (1 : Int32)) (m7) ha0 h)
      · replace h := zok_f h c
        refine zi_iconst (pc' := 22) (v := (0 : Int32)) X dX6_aDay_21 rfl rfl ?_
        refine zi_istore_n (pc' := 23) X dX6_aDay_22 rfl rfl (by decide) [(2, .int (0 : Int32)), (0, .ref (zad g a0)), (1, .int a1)] rfl ?_
        exact zi_sub X [1, 2, 0] _ rfl (lX6_aDay_23 X hret ih 200 a0 a1 (0 : Int32) (m7) ha0 h)
def fX6_aDay (a0 : Nat) (μ : zMem) : Option (Unit × zMem) :=
  fX6_aDay_2 200 a0 (0 : Int32) μ
set_option maxRecDepth 100000 in
set_option maxHeartbeats 4000000 in
theorem tX6_aDay (g : zG) {a0 : Nat} {μ : zMem} {Q : Unit → zMem → Prop} (ha0 : zkd a0 = 6) (h : zok (fX6_aDay a0 μ) Q) : zTv g yX6_aDay cX6_aDay 3 3 [.ref (zad g a0)] μ Q := by
  refine zTv_of RX6 (by decide) rfl (Nat.le_of_ble_eq_true rfl) ?_
  intro κ X hret
  unfold fX6_aDay at h
  refine zi_iconst (pc' := 1) (v := (0 : Int32)) X dX6_aDay_0 rfl rfl ?_
  refine zi_istore_n (pc' := 2) X dX6_aDay_1 rfl rfl (by decide) [(1, .int (0 : Int32)), (0, .ref (zad g a0))] rfl ?_
  exact zi_sub X [1, 0] _ rfl (lX6_aDay_2 X hret 200 a0 (0 : Int32) (μ) ha0 h)
def fX6_cell (a0 : Nat) (a1 : Int32) (a2 : Int32) (μ : zMem) : Option (Int32 × zMem) :=
  zbd (fX6_isCell a1 μ) fun r1 m2 =>
  if r1 = 0 then
    zbd (fX6_finds a0 (0 : Int32) m2) fun r3 m4 =>
    some (r3, m4)
  else
    zbd (fX6_in ((a2).toInt64) (0 : Int64) (3 : Int64) m2) fun r5 m6 =>
    if r5 = 0 then
      zbd (fX6_finds a0 (0 : Int32) m6) fun r15 m16 =>
      some (r15, m16)
    else
      if a2 = (0 : Int32) then
        zgd (zib ((4 : Int32) + a1) 87) (
        some ((m6 (a0 + 1) (((4 : Int32) + a1)).toNatClampNeg), m6))
      else
        if a2 = (1 : Int32) then
          zbd (fX6_hasSpring a0 a1 m6) fun r9 m10 =>
          if r9 = 0 then
            some ((0 : Int32), m10)
          else
            some ((1 : Int32), m10)
        else
          if a2 = (2 : Int32) then
            zbd (fX6_tentsOn a0 a1 m6) fun r11 m12 =>
            some (r11, m12)
          else
            zbd (fX6_steepest a0 a1 m6) fun r13 m14 =>
            some (r13, m14)
set_option maxRecDepth 100000 in
set_option maxHeartbeats 4000000 in
theorem tX6_cell (g : zG) {a0 : Nat} {a1 : Int32} {a2 : Int32} {μ : zMem} {Q : Int32 → zMem → Prop} (ha0 : zkd a0 = 6) (h : zok (fX6_cell a0 a1 a2 μ) Q) : zTi g yX6_cell cX6_cell 3 .int 3 [.ref (zad g a0), .int a1, .int a2] μ Q := by
  refine zTi_of (P := fun r => True) zpi RX6 (by decide) rfl (Nat.le_of_ble_eq_true rfl) ?_
  intro κ X hret
  unfold fX6_cell at h
  refine zi_iload_n (pc' := 1) X dX6_cell_0 rfl rfl 1 rfl ?_
  refine zi_callSi (pc' := 4) X zl_X6_83 [.int a1] rfl rfl (by decide) (Nat.le_of_ble_eq_true rfl) dX6_cell_1 rfl (tX6_isCell _ (zok_bd h (fun r1 m2 h => ?_)))
  refine zi_if_eq (pc' := 7) (tgt := 19) X dX6_cell_4 rfl rfl (fun c => ?_) (fun c => ?_)
  · replace h := zok_t h c
    refine zi_aload_n (pc' := 20) X dX6_cell_19 rfl rfl 0 rfl ?_
    refine zi_iconst (pc' := 21) (v := (0 : Int32)) X dX6_cell_20 rfl rfl ?_
    refine zi_callVi (pc' := 24) X zl_X6_93 ha0 (by decide) [.int (0 : Int32)] rfl rfl (by decide) (Nat.le_of_ble_eq_true rfl) dX6_cell_21 rfl (tX6_finds _ ha0 (zok_bd h (fun r3 m4 h => ?_)))
    exact hret _ _ _ _ dX6_cell_24 trivial h
  · replace h := zok_f h c
    refine zi_iload_n (pc' := 8) X dX6_cell_7 rfl rfl 2 rfl ?_
    refine zi_i2l (pc' := 9) X dX6_cell_8 rfl ?_
    refine zi_lconst (pc' := 10) (v := (0 : Int64)) X dX6_cell_9 rfl rfl ?_
    refine zi_ldc2 (pc' := 13) X dX6_cell_10 rfl zk_X6_113 ?_
    refine zi_callSi (pc' := 16) X zl_X6_48 [.long ((a2).toInt64), .long (0 : Int64), .long (3 : Int64)] rfl rfl (by decide) (Nat.le_of_ble_eq_true rfl) dX6_cell_13 rfl (tX6_in _ (zok_bd h (fun r5 m6 h => ?_)))
    refine zi_if_ne (pc' := 19) (tgt := 25) X dX6_cell_16 rfl rfl (fun c => ?_) (fun c => ?_)
    · replace h := zok_f h c
      refine zi_iload_n (pc' := 26) X dX6_cell_25 rfl rfl 2 rfl ?_
      by_cases c0 : a2 = (0 : Int32)
      · replace h := zok_t h c0
        refine zi_tabIn (pc' := 52) X c0 dX6_cell_26 ⟨by decide, rfl, rfl⟩ ?_
        refine zi_aload_n (pc' := 53) X dX6_cell_52 rfl rfl 0 rfl ?_
        refine zi_getr (pc' := 56) X zf_X6_9 rfl (by decide) ha0 dX6_cell_53 rfl ?_
        have f7 := zr_6_0 ha0
        refine zi_iconst (pc' := 57) (v := (4 : Int32)) X dX6_cell_56 rfl rfl ?_
        refine zi_iload_n (pc' := 58) X dX6_cell_57 rfl rfl 1 rfl ?_
        refine zi_iadd (pc' := 59) X dX6_cell_58 rfl ?_
        obtain ⟨g8, h⟩ := zok_g h
        refine zi_iald (pc' := 60) X f7.1 (by rw [f7.2]; exact g8) dX6_cell_59 rfl ?_
        exact hret _ _ _ _ dX6_cell_60 trivial h
      · replace h := zok_f h c0
        by_cases c1 : a2 = (1 : Int32)
        · replace h := zok_t h c1
          refine zi_tabIn (pc' := 61) X c1 dX6_cell_26 ⟨by decide, rfl, rfl⟩ ?_
          refine zi_aload_n (pc' := 62) X dX6_cell_61 rfl rfl 0 rfl ?_
          refine zi_iload_n (pc' := 63) X dX6_cell_62 rfl rfl 1 rfl ?_
          refine zi_callVi (pc' := 66) X zl_X6_96 ha0 (by decide) [.int a1] rfl rfl (by decide) (Nat.le_of_ble_eq_true rfl) dX6_cell_63 rfl (tX6_hasSpring _ ha0 (zok_bd h (fun r9 m10 h => ?_)))
          refine zi_if_eq (pc' := 69) (tgt := 73) X dX6_cell_66 rfl rfl (fun c => ?_) (fun c => ?_)
          · replace h := zok_t h c
            refine zi_iconst (pc' := 74) (v := (0 : Int32)) X dX6_cell_73 rfl rfl ?_
            exact hret _ _ _ _ dX6_cell_74 trivial h
          · replace h := zok_f h c
            refine zi_iconst (pc' := 70) (v := (1 : Int32)) X dX6_cell_69 rfl rfl ?_
            refine zi_goto (pc' := 74) X dX6_cell_70 rfl ?_
            exact hret _ _ _ _ dX6_cell_74 trivial h
        · replace h := zok_f h c1
          by_cases c2 : a2 = (2 : Int32)
          · replace h := zok_t h c2
            refine zi_tabIn (pc' := 75) X c2 dX6_cell_26 ⟨by decide, rfl, rfl⟩ ?_
            refine zi_aload_n (pc' := 76) X dX6_cell_75 rfl rfl 0 rfl ?_
            refine zi_iload_n (pc' := 77) X dX6_cell_76 rfl rfl 1 rfl ?_
            refine zi_callVi (pc' := 80) X zl_X6_115 ha0 (by decide) [.int a1] rfl rfl (by decide) (Nat.le_of_ble_eq_true rfl) dX6_cell_77 rfl (tX6_tentsOn _ ha0 (zok_bd h (fun r11 m12 h => ?_)))
            exact hret _ _ _ _ dX6_cell_80 trivial h
          · replace h := zok_f h c2
            have e0 := zne (0) rfl c0
            have e1 := zne (1) rfl c1
            have e2 := zne (2) rfl c2
            refine zi_tabOut (pc' := 81) X (by omega) dX6_cell_26 rfl ?_
            refine zi_aload_n (pc' := 82) X dX6_cell_81 rfl rfl 0 rfl ?_
            refine zi_iload_n (pc' := 83) X dX6_cell_82 rfl rfl 1 rfl ?_
            refine zi_callVi (pc' := 86) X zl_X6_118 ha0 (by decide) [.int a1] rfl rfl (by decide) (Nat.le_of_ble_eq_true rfl) dX6_cell_83 rfl (tX6_steepest _ ha0 (zok_bd h (fun r13 m14 h => ?_)))
            exact hret _ _ _ _ dX6_cell_86 trivial h
    · replace h := zok_t h c
      refine zi_aload_n (pc' := 20) X dX6_cell_19 rfl rfl 0 rfl ?_
      refine zi_iconst (pc' := 21) (v := (0 : Int32)) X dX6_cell_20 rfl rfl ?_
      refine zi_callVi (pc' := 24) X zl_X6_93 ha0 (by decide) [.int (0 : Int32)] rfl rfl (by decide) (Nat.le_of_ble_eq_true rfl) dX6_cell_21 rfl (tX6_finds _ ha0 (zok_bd h (fun r15 m16 h => ?_)))
      exact hret _ _ _ _ dX6_cell_24 trivial h
def fX6_change (a0 : Nat) (a1 : Int32) (a2 : Int32) (a3 : Int32) (μ : zMem) : Option (Int32 × zMem) :=
  zbd (fX6_isTent a0 a1 μ) fun r1 m2 =>
  if r1 = 0 then
    zbd (fX6_finds a0 (0 : Int32) m2) fun r3 m4 =>
    some (r3, m4)
  else
    zbd (fX6_mayBe a2 a3 m2) fun r5 m6 =>
    if r5 = 0 then
      zbd (fX6_finds a0 (0 : Int32) m6) fun r7 m8 =>
      some (r7, m8)
    else
      zbd (fX6_becomes a0 (((29 : Int32) + ((8 : Int32) * a1)) + a2) a3 m6) fun r9 m10 =>
      some (r9, m10)
set_option maxRecDepth 100000 in
set_option maxHeartbeats 4000000 in
theorem tX6_change (g : zG) {a0 : Nat} {a1 : Int32} {a2 : Int32} {a3 : Int32} {μ : zMem} {Q : Int32 → zMem → Prop} (ha0 : zkd a0 = 6) (h : zok (fX6_change a0 a1 a2 a3 μ) Q) : zTi g yX6_change cX6_change 4 .int 3 [.ref (zad g a0), .int a1, .int a2, .int a3] μ Q := by
  refine zTi_of (P := fun r => True) zpi RX6 (by decide) rfl (Nat.le_of_ble_eq_true rfl) ?_
  intro κ X hret
  unfold fX6_change at h
  refine zi_aload_n (pc' := 1) X dX6_change_0 rfl rfl 0 rfl ?_
  refine zi_iload_n (pc' := 2) X dX6_change_1 rfl rfl 1 rfl ?_
  refine zi_callVi (pc' := 5) X zl_X6_127 ha0 (by decide) [.int a1] rfl rfl (by decide) (Nat.le_of_ble_eq_true rfl) dX6_change_2 rfl (tX6_isTent _ ha0 (zok_bd h (fun r1 m2 h => ?_)))
  refine zi_if_eq (pc' := 8) (tgt := 33) X dX6_change_5 rfl rfl (fun c => ?_) (fun c => ?_)
  · replace h := zok_t h c
    refine zi_aload_n (pc' := 34) X dX6_change_33 rfl rfl 0 rfl ?_
    refine zi_iconst (pc' := 35) (v := (0 : Int32)) X dX6_change_34 rfl rfl ?_
    refine zi_callVi (pc' := 38) X zl_X6_93 ha0 (by decide) [.int (0 : Int32)] rfl rfl (by decide) (Nat.le_of_ble_eq_true rfl) dX6_change_35 rfl (tX6_finds _ ha0 (zok_bd h (fun r3 m4 h => ?_)))
    exact hret _ _ _ _ dX6_change_38 trivial h
  · replace h := zok_f h c
    refine zi_iload_n (pc' := 9) X dX6_change_8 rfl rfl 2 rfl ?_
    refine zi_iload_n (pc' := 10) X dX6_change_9 rfl rfl 3 rfl ?_
    refine zi_callSi (pc' := 13) X zl_X6_139 [.int a2, .int a3] rfl rfl (by decide) (Nat.le_of_ble_eq_true rfl) dX6_change_10 rfl (tX6_mayBe _ (zok_bd h (fun r5 m6 h => ?_)))
    refine zi_if_eq (pc' := 16) (tgt := 33) X dX6_change_13 rfl rfl (fun c => ?_) (fun c => ?_)
    · replace h := zok_t h c
      refine zi_aload_n (pc' := 34) X dX6_change_33 rfl rfl 0 rfl ?_
      refine zi_iconst (pc' := 35) (v := (0 : Int32)) X dX6_change_34 rfl rfl ?_
      refine zi_callVi (pc' := 38) X zl_X6_93 ha0 (by decide) [.int (0 : Int32)] rfl rfl (by decide) (Nat.le_of_ble_eq_true rfl) dX6_change_35 rfl (tX6_finds _ ha0 (zok_bd h (fun r7 m8 h => ?_)))
      exact hret _ _ _ _ dX6_change_38 trivial h
    · replace h := zok_f h c
      refine zi_aload_n (pc' := 17) X dX6_change_16 rfl rfl 0 rfl ?_
      refine zi_bipush (pc' := 19) (v := (29 : Int32)) X dX6_change_17 rfl rfl ?_
      refine zi_bipush (pc' := 21) (v := (8 : Int32)) X dX6_change_19 rfl rfl ?_
      refine zi_iload_n (pc' := 22) X dX6_change_21 rfl rfl 1 rfl ?_
      refine zi_imul (pc' := 23) X dX6_change_22 rfl ?_
      refine zi_iadd (pc' := 24) X dX6_change_23 rfl ?_
      refine zi_iload_n (pc' := 25) X dX6_change_24 rfl rfl 2 rfl ?_
      refine zi_iadd (pc' := 26) X dX6_change_25 rfl ?_
      refine zi_iload_n (pc' := 27) X dX6_change_26 rfl rfl 3 rfl ?_
      refine zi_callVi (pc' := 30) X zl_X6_90 ha0 (by decide) [.int (((29 : Int32) + ((8 : Int32) * a1)) + a2), .int a3] rfl rfl (by decide) (Nat.le_of_ble_eq_true rfl) dX6_change_27 rfl (tX6_becomes _ ha0 (zok_bd h (fun r9 m10 h => ?_)))
      refine zi_goto (pc' := 38) X dX6_change_30 rfl ?_
      exact hret _ _ _ _ dX6_change_38 trivial h
def fX6_goesOn (a0 : Nat) (a1 : Int32) (a2 : Int32) (a3 : Int32) (μ : zMem) : Option (Int32 × zMem) :=
  zgd (zib (((40 : Int32) * a1) + a2) 160) (
  zbd (fX6_isCell (μ (a0 + 10) ((((40 : Int32) * a1) + a2)).toNatClampNeg) μ) fun r3 m4 =>
  if r3 = 0 then
    some ((0 : Int32), m4)
  else
    if a2 = 0 then
      some ((1 : Int32), m4)
    else
      zgd (zib ((((40 : Int32) * a1) + a2) - (1 : Int32)) 160) (
      zbd (fX6_canStep a0 (m4 (a0 + 10) (((((40 : Int32) * a1) + a2) - (1 : Int32))).toNatClampNeg) (μ (a0 + 10) ((((40 : Int32) * a1) + a2)).toNatClampNeg) a3 m4) fun r7 m8 =>
      if r7 = 0 then
        some ((0 : Int32), m8)
      else
        some ((1 : Int32), m8)))
set_option maxRecDepth 100000 in
set_option maxHeartbeats 4000000 in
theorem tX6_goesOn (g : zG) {a0 : Nat} {a1 : Int32} {a2 : Int32} {a3 : Int32} {μ : zMem} {Q : Int32 → zMem → Prop} (ha0 : zkd a0 = 6) (h : zok (fX6_goesOn a0 a1 a2 a3 μ) Q) : zTi g yX6_goesOn cX6_goesOn 5 .boolean 3 [.ref (zad g a0), .int a1, .int a2, .int a3] μ Q := by
  refine zTi_of (P := fun r => r = 0 ∨ r = 1) zpb RX6 (by decide) rfl (Nat.le_of_ble_eq_true rfl) ?_
  intro κ X hret
  unfold fX6_goesOn at h
  refine zi_aload_n (pc' := 1) X dX6_goesOn_0 rfl rfl 0 rfl ?_
  refine zi_getr (pc' := 4) X zf_X6_37 rfl (by decide) ha0 dX6_goesOn_1 rfl ?_
  have f1 := zr_6_14 ha0
  refine zi_bipush (pc' := 6) (v := (40 : Int32)) X dX6_goesOn_4 rfl rfl ?_
  refine zi_iload_n (pc' := 7) X dX6_goesOn_6 rfl rfl 1 rfl ?_
  refine zi_imul (pc' := 8) X dX6_goesOn_7 rfl ?_
  refine zi_iload_n (pc' := 9) X dX6_goesOn_8 rfl rfl 2 rfl ?_
  refine zi_iadd (pc' := 10) X dX6_goesOn_9 rfl ?_
  obtain ⟨g2, h⟩ := zok_g h
  refine zi_iald (pc' := 11) X f1.1 (by rw [f1.2]; exact g2) dX6_goesOn_10 rfl ?_
  refine zi_istore (pc' := 13) X dX6_goesOn_11 rfl (by decide) [(4, .int (μ (a0 + 10) ((((40 : Int32) * a1) + a2)).toNatClampNeg)), (0, .ref (zad g a0)), (1, .int a1), (2, .int a2), (3, .int a3)] rfl ?_
  refine zi_iload (pc' := 15) X dX6_goesOn_13 rfl 0 rfl ?_
  refine zi_callSi (pc' := 18) X zl_X6_83 [.int (μ (a0 + 10) ((((40 : Int32) * a1) + a2)).toNatClampNeg)] rfl rfl (by decide) (Nat.le_of_ble_eq_true rfl) dX6_goesOn_15 rfl (tX6_isCell _ (zok_bd h (fun r3 m4 h => ?_)))
  refine zi_if_eq (pc' := 21) (tgt := 52) X dX6_goesOn_18 rfl rfl (fun c => ?_) (fun c => ?_)
  · replace h := zok_t h c
    refine zi_iconst (pc' := 53) (v := (0 : Int32)) X dX6_goesOn_52 rfl rfl ?_
    exact hret _ _ _ _ dX6_goesOn_53 (by decide) h
  · replace h := zok_f h c
    refine zi_iload_n (pc' := 22) X dX6_goesOn_21 rfl rfl 3 rfl ?_
    refine zi_if_eq (pc' := 25) (tgt := 48) X dX6_goesOn_22 rfl rfl (fun c => ?_) (fun c => ?_)
    · replace h := zok_t h c
      refine zi_iconst (pc' := 49) (v := (1 : Int32)) X dX6_goesOn_48 rfl rfl ?_
      refine zi_goto (pc' := 53) X dX6_goesOn_49 rfl ?_
      exact hret _ _ _ _ dX6_goesOn_53 (by decide) h
    · replace h := zok_f h c
      refine zi_aload_n (pc' := 26) X dX6_goesOn_25 rfl rfl 1 rfl ?_
      refine zi_aload_n (pc' := 27) X dX6_goesOn_26 rfl rfl 1 rfl ?_
      refine zi_getr (pc' := 30) X zf_X6_37 rfl (by decide) ha0 dX6_goesOn_27 rfl ?_
      have f5 := zr_6_14 ha0
      refine zi_bipush (pc' := 32) (v := (40 : Int32)) X dX6_goesOn_30 rfl rfl ?_
      refine zi_iload_n (pc' := 33) X dX6_goesOn_32 rfl rfl 2 rfl ?_
      refine zi_imul (pc' := 34) X dX6_goesOn_33 rfl ?_
      refine zi_iload_n (pc' := 35) X dX6_goesOn_34 rfl rfl 3 rfl ?_
      refine zi_iadd (pc' := 36) X dX6_goesOn_35 rfl ?_
      refine zi_iconst (pc' := 37) (v := (1 : Int32)) X dX6_goesOn_36 rfl rfl ?_
      refine zi_isub (pc' := 38) X dX6_goesOn_37 rfl ?_
      obtain ⟨g6, h⟩ := zok_g h
      refine zi_iald (pc' := 39) X f5.1 (by rw [f5.2]; exact g6) dX6_goesOn_38 rfl ?_
      refine zi_iload (pc' := 41) X dX6_goesOn_39 rfl 0 rfl ?_
      refine zi_iload_n (pc' := 42) X dX6_goesOn_41 rfl rfl 4 rfl ?_
      refine zi_callVi (pc' := 45) X zl_X6_179 ha0 (by decide) [.int (m4 (a0 + 10) (((((40 : Int32) * a1) + a2) - (1 : Int32))).toNatClampNeg), .int (μ (a0 + 10) ((((40 : Int32) * a1) + a2)).toNatClampNeg), .int a3] rfl rfl (by decide) (Nat.le_of_ble_eq_true rfl) dX6_goesOn_42 rfl (tX6_canStep _ ha0 (zok_bd h (fun r7 m8 h => ?_)))
      refine zi_if_eq (pc' := 48) (tgt := 52) X dX6_goesOn_45 rfl rfl (fun c => ?_) (fun c => ?_)
      · replace h := zok_t h c
        refine zi_iconst (pc' := 53) (v := (0 : Int32)) X dX6_goesOn_52 rfl rfl ?_
        exact hret _ _ _ _ dX6_goesOn_53 (by decide) h
      · replace h := zok_f h c
        refine zi_iconst (pc' := 49) (v := (1 : Int32)) X dX6_goesOn_48 rfl rfl ?_
        refine zi_goto (pc' := 53) X dX6_goesOn_49 rfl ?_
        exact hret _ _ _ _ dX6_goesOn_53 (by decide) h
def fX6_lacksTent (a0 : Nat) (a1 : Int32) (a2 : Int32) (μ : zMem) : Option (Int32 × zMem) :=
  zbd (fX6_lacks a0 a1 μ) fun r1 m2 =>
  if r1 < 0 then
    zbd (fX6_isTent a0 a2 m2) fun r3 m4 =>
    if r3 = 0 then
      some ((0 : Int32), m4)
    else
      some ((-1 : Int32), m4)
  else
    some (r1, m2)
set_option maxRecDepth 100000 in
set_option maxHeartbeats 4000000 in
theorem tX6_lacksTent (g : zG) {a0 : Nat} {a1 : Int32} {a2 : Int32} {μ : zMem} {Q : Int32 → zMem → Prop} (ha0 : zkd a0 = 6) (h : zok (fX6_lacksTent a0 a1 a2 μ) Q) : zTi g yX6_lacksTent cX6_lacksTent 4 .int 3 [.ref (zad g a0), .int a1, .int a2] μ Q := by
  refine zTi_of (P := fun r => True) zpi RX6 (by decide) rfl (Nat.le_of_ble_eq_true rfl) ?_
  intro κ X hret
  unfold fX6_lacksTent at h
  refine zi_aload_n (pc' := 1) X dX6_lacksTent_0 rfl rfl 0 rfl ?_
  refine zi_iload_n (pc' := 2) X dX6_lacksTent_1 rfl rfl 1 rfl ?_
  refine zi_callVi (pc' := 5) X zl_X6_225 ha0 (by decide) [.int a1] rfl rfl (by decide) (Nat.le_of_ble_eq_true rfl) dX6_lacksTent_2 rfl (tX6_lacks _ ha0 (zok_bd h (fun r1 m2 h => ?_)))
  refine zi_istore_n (pc' := 6) X dX6_lacksTent_5 rfl rfl (by decide) [(3, .int r1), (0, .ref (zad g a0)), (1, .int a1), (2, .int a2)] rfl ?_
  refine zi_iload_n (pc' := 7) X dX6_lacksTent_6 rfl rfl 0 rfl ?_
  refine zi_if_lt (pc' := 10) (tgt := 12) X dX6_lacksTent_7 rfl rfl (fun c => ?_) (fun c => ?_)
  · replace h := zok_t h c
    refine zi_aload_n (pc' := 13) X dX6_lacksTent_12 rfl rfl 1 rfl ?_
    refine zi_iload_n (pc' := 14) X dX6_lacksTent_13 rfl rfl 3 rfl ?_
    refine zi_callVi (pc' := 17) X zl_X6_127 ha0 (by decide) [.int a2] rfl rfl (by decide) (Nat.le_of_ble_eq_true rfl) dX6_lacksTent_14 rfl (tX6_isTent _ ha0 (zok_bd h (fun r3 m4 h => ?_)))
    refine zi_if_eq (pc' := 20) (tgt := 24) X dX6_lacksTent_17 rfl rfl (fun c => ?_) (fun c => ?_)
    · replace h := zok_t h c
      refine zi_iconst (pc' := 25) (v := (0 : Int32)) X dX6_lacksTent_24 rfl rfl ?_
      exact hret _ _ _ _ dX6_lacksTent_25 trivial h
    · replace h := zok_f h c
      refine zi_iconst (pc' := 21) (v := (-1 : Int32)) X dX6_lacksTent_20 rfl rfl ?_
      refine zi_goto (pc' := 25) X dX6_lacksTent_21 rfl ?_
      exact hret _ _ _ _ dX6_lacksTent_25 trivial h
  · replace h := zok_f h c
    refine zi_iload_n (pc' := 11) X dX6_lacksTent_10 rfl rfl 0 rfl ?_
    exact hret _ _ _ _ dX6_lacksTent_11 trivial h
def fX6_load_18 : Nat → Nat → Int32 → Int32 → zMem → Option (Int32 × zMem)
  | 0, _, _, _, _ => none
  | n + 1, a0, a1, a3, μ =>
    zgd (zib a1 4) (
    if (μ (a0 + 9) (a1).toNatClampNeg) ≤ a3 then
      some (a3, μ)
    else
      if (25 : Int32) ≤ a3 then
        some (a3, μ)
      else
        zgd (zib (((40 : Int32) * a1) + a3) 160) (
        zbd (fX6_isHigh (μ (a0 + 10) ((((40 : Int32) * a1) + a3)).toNatClampNeg) μ) fun r7 m8 =>
        if r7 = 0 then
          some (a3, m8)
        else
          zgd (zib (((40 : Int32) * a1) + a3) 160) (
          zgd (zib ((4 : Int32) + a3) 87) (
          fX6_load_18 n a0 a1 (a3 + (1 : Int32)) (zst m8 (a0 + 1) (((4 : Int32) + a3)).toNatClampNeg (m8 (a0 + 10) ((((40 : Int32) * a1) + a3)).toNatClampNeg))))))
set_option maxRecDepth 100000 in
theorem lX6_load_18 {g : zG} {κ : zK} (X : zC g κ RX6 cX6_load 4 3) {Q : Int32 → zMem → Prop} (hret : ∀ pc lv r μ', decode cX6_load pc = .ok (.ireturn, 1) → True → Q r μ' → zV g κ pc lv [.int r] μ') : ∀ (n : Nat) (a0 : Nat) (a1 : Int32) (a3 : Int32) (μ : zMem) (ha0 : zkd a0 = 6), zok (fX6_load_18 n a0 a1 a3 μ) Q → zV g κ 18 [(0, .ref (zad g a0)), (1, .int a1), (3, .int a3)] [] μ := by
  intro n
  induction n with
  | zero =>
    intro a0 a1 a3 μ ha0 h
    exact h.elim
  | succ n ih =>
    intro a0 a1 a3 μ ha0 h
    rw [fX6_load_18] at h
    refine zi_iload_n (pc' := 19) X dX6_load_18 rfl rfl 2 rfl ?_
    refine zi_aload_n (pc' := 20) X dX6_load_19 rfl rfl 0 rfl ?_
    refine zi_getr (pc' := 23) X zf_X6_34 rfl (by decide) ha0 dX6_load_20 rfl ?_
    have f3 := zr_6_13 ha0
    refine zi_iload_n (pc' := 24) X dX6_load_23 rfl rfl 1 rfl ?_
    obtain ⟨g4, h⟩ := zok_g h
    refine zi_iald (pc' := 25) X f3.1 (by rw [f3.2]; exact g4) dX6_load_24 rfl ?_
    refine zi_icmp_ge (pc' := 28) (tgt := 76) X dX6_load_25 rfl rfl (fun c => ?_) (fun c => ?_)
    · replace h := zok_t h c
      refine zi_iload_n (pc' := 77) X dX6_load_76 rfl rfl 2 rfl ?_
      exact hret _ _ _ _ dX6_load_77 trivial h
    · replace h := zok_f h c
      refine zi_iload_n (pc' := 29) X dX6_load_28 rfl rfl 2 rfl ?_
      refine zi_bipush (pc' := 31) (v := (25 : Int32)) X dX6_load_29 rfl rfl ?_
      refine zi_icmp_ge (pc' := 34) (tgt := 76) X dX6_load_31 rfl rfl (fun c => ?_) (fun c => ?_)
      · replace h := zok_t h c
        refine zi_iload_n (pc' := 77) X dX6_load_76 rfl rfl 2 rfl ?_
        exact hret _ _ _ _ dX6_load_77 trivial h
      · replace h := zok_f h c
        refine zi_aload_n (pc' := 35) X dX6_load_34 rfl rfl 0 rfl ?_
        refine zi_getr (pc' := 38) X zf_X6_37 rfl (by decide) ha0 dX6_load_35 rfl ?_
        have f5 := zr_6_14 ha0
        refine zi_bipush (pc' := 40) (v := (40 : Int32)) X dX6_load_38 rfl rfl ?_
        refine zi_iload_n (pc' := 41) X dX6_load_40 rfl rfl 1 rfl ?_
        refine zi_imul (pc' := 42) X dX6_load_41 rfl ?_
        refine zi_iload_n (pc' := 43) X dX6_load_42 rfl rfl 2 rfl ?_
        refine zi_iadd (pc' := 44) X dX6_load_43 rfl ?_
        obtain ⟨g6, h⟩ := zok_g h
        refine zi_iald (pc' := 45) X f5.1 (by rw [f5.2]; exact g6) dX6_load_44 rfl ?_
        refine zi_callSi (pc' := 48) X zl_X6_87 [.int (μ (a0 + 10) ((((40 : Int32) * a1) + a3)).toNatClampNeg)] rfl rfl (by decide) (Nat.le_of_ble_eq_true rfl) dX6_load_45 rfl (tX6_isHigh _ (zok_bd h (fun r7 m8 h => ?_)))
        refine zi_if_eq (pc' := 51) (tgt := 76) X dX6_load_48 rfl rfl (fun c => ?_) (fun c => ?_)
        · replace h := zok_t h c
          refine zi_iload_n (pc' := 77) X dX6_load_76 rfl rfl 2 rfl ?_
          exact hret _ _ _ _ dX6_load_77 trivial h
        · replace h := zok_f h c
          refine zi_aload_n (pc' := 52) X dX6_load_51 rfl rfl 0 rfl ?_
          refine zi_getr (pc' := 55) X zf_X6_9 rfl (by decide) ha0 dX6_load_52 rfl ?_
          have f9 := zr_6_0 ha0
          refine zi_iconst (pc' := 56) (v := (4 : Int32)) X dX6_load_55 rfl rfl ?_
          refine zi_iload_n (pc' := 57) X dX6_load_56 rfl rfl 2 rfl ?_
          refine zi_iadd (pc' := 58) X dX6_load_57 rfl ?_
          refine zi_aload_n (pc' := 59) X dX6_load_58 rfl rfl 0 rfl ?_
          refine zi_getr (pc' := 62) X zf_X6_37 rfl (by decide) ha0 dX6_load_59 rfl ?_
          have f10 := zr_6_14 ha0
          refine zi_bipush (pc' := 64) (v := (40 : Int32)) X dX6_load_62 rfl rfl ?_
          refine zi_iload_n (pc' := 65) X dX6_load_64 rfl rfl 1 rfl ?_
          refine zi_imul (pc' := 66) X dX6_load_65 rfl ?_
          refine zi_iload_n (pc' := 67) X dX6_load_66 rfl rfl 2 rfl ?_
          refine zi_iadd (pc' := 68) X dX6_load_67 rfl ?_
          obtain ⟨g11, h⟩ := zok_g h
          refine zi_iald (pc' := 69) X f10.1 (by rw [f10.2]; exact g11) dX6_load_68 rfl ?_
          obtain ⟨g12, h⟩ := zok_g h
          refine zi_iast (pc' := 70) X f9.1 (by rw [f9.2]; exact g12) dX6_load_69 rfl ?_
          refine zi_iinc (pc' := 73) (v := (a3 + (1 : Int32))) X dX6_load_70 rfl 2 rfl rfl (by decide) [(3, .int (a3 + (1 : Int32))), (0, .ref (zad g a0)), (1, .int a1)] rfl ?_
          refine zi_goto (pc' := 18) X dX6_load_73 rfl ?_
          exact zi_sub X [1, 2, 0] _ rfl (ih a0 a1 (a3 + (1 : Int32)) ((zst m8 (a0 + 1) (((4 : Int32) + a3)).toNatClampNeg (m8 (a0 + 10) ((((40 : Int32) * a1) + a3)).toNatClampNeg))) ha0 h)
def fX6_load (a0 : Nat) (a1 : Int32) (μ : zMem) : Option (Int32 × zMem) :=
  zbd (fX6_lacks a0 a1 μ) fun r1 m2 =>
  if r1 < 0 then
    fX6_load_18 200 a0 a1 (0 : Int32) m2
  else
    zbd (fX6_finds a0 r1 m2) fun r13 m14 =>
    some (r13, m14)
set_option maxRecDepth 100000 in
set_option maxHeartbeats 4000000 in
theorem tX6_load (g : zG) {a0 : Nat} {a1 : Int32} {μ : zMem} {Q : Int32 → zMem → Prop} (ha0 : zkd a0 = 6) (h : zok (fX6_load a0 a1 μ) Q) : zTi g yX6_load cX6_load 4 .int 3 [.ref (zad g a0), .int a1] μ Q := by
  refine zTi_of (P := fun r => True) zpi RX6 (by decide) rfl (Nat.le_of_ble_eq_true rfl) ?_
  intro κ X hret
  unfold fX6_load at h
  refine zi_aload_n (pc' := 1) X dX6_load_0 rfl rfl 0 rfl ?_
  refine zi_iload_n (pc' := 2) X dX6_load_1 rfl rfl 1 rfl ?_
  refine zi_callVi (pc' := 5) X zl_X6_225 ha0 (by decide) [.int a1] rfl rfl (by decide) (Nat.le_of_ble_eq_true rfl) dX6_load_2 rfl (tX6_lacks _ ha0 (zok_bd h (fun r1 m2 h => ?_)))
  refine zi_istore_n (pc' := 6) X dX6_load_5 rfl rfl (by decide) [(2, .int r1), (0, .ref (zad g a0)), (1, .int a1)] rfl ?_
  refine zi_iload_n (pc' := 7) X dX6_load_6 rfl rfl 0 rfl ?_
  refine zi_if_lt (pc' := 10) (tgt := 16) X dX6_load_7 rfl rfl (fun c => ?_) (fun c => ?_)
  · replace h := zok_t h c
    refine zi_iconst (pc' := 17) (v := (0 : Int32)) X dX6_load_16 rfl rfl ?_
    refine zi_istore_n (pc' := 18) X dX6_load_17 rfl rfl (by decide) [(3, .int (0 : Int32)), (2, .int r1), (0, .ref (zad g a0)), (1, .int a1)] rfl ?_
    exact zi_sub X [2, 3, 0] _ rfl (lX6_load_18 X hret 200 a0 a1 (0 : Int32) (m2) ha0 h)
  · replace h := zok_f h c
    refine zi_aload_n (pc' := 11) X dX6_load_10 rfl rfl 1 rfl ?_
    refine zi_iload_n (pc' := 12) X dX6_load_11 rfl rfl 0 rfl ?_
    refine zi_callVi (pc' := 15) X zl_X6_93 ha0 (by decide) [.int r1] rfl rfl (by decide) (Nat.le_of_ble_eq_true rfl) dX6_load_12 rfl (tX6_finds _ ha0 (zok_bd h (fun r13 m14 h => ?_)))
    exact hret _ _ _ _ dX6_load_15 trivial h
def fX6_must_17 (a0 : Nat) (s0 : Int32) (s1 : Nat) (μ : zMem) : Option (Unit × zMem) :=
  zgd (s0 = 0 ∨ s0 = 1) (
  if ((zst μ s1 11 s0) a0 11) = 0 then
    zbd (fX6_next a0 (zst μ s1 11 s0)) fun _ m3 =>
    some ((), m3)
  else
    some ((), (zst μ s1 11 s0)))
set_option maxRecDepth 100000 in
theorem lX6_must_17 {g : zG} {κ : zK} (X : zC g κ RX6 cX6_must 2 3) {Q : Unit → zMem → Prop} (hret : ∀ pc lv μ', decode cX6_must pc = .ok (.return_, 1) → Q () μ' → zV g κ pc lv [] μ') : ∀ (a0 : Nat) (s0 : Int32) (s1 : Nat) (μ : zMem) (ha0 : zkd a0 = 6) (hs1 : zkd s1 = 6), zok (fX6_must_17 a0 s0 s1 μ) Q → zV g κ 17 [(0, .ref (zad g a0))] [.int s0, .ref (zad g s1)] μ := by
  intro a0 s0 s1 μ ha0 hs1 h
  unfold fX6_must_17 at h
  obtain ⟨g1, h⟩ := zok_g h
  refine zi_put (pc' := 20) X zf_X6_258 zw_6_11 rfl (by decide) hs1 (zpb _ g1) (zpf g1) dX6_must_17 rfl ?_
  refine zi_aload_n (pc' := 21) X dX6_must_20 rfl rfl 0 rfl ?_
  refine zi_geti (pc' := 24) X zf_X6_258 rfl (by decide) ha0 dX6_must_21 rfl ?_
  refine zi_if_ne (pc' := 27) (tgt := 31) X dX6_must_24 rfl rfl (fun c => ?_) (fun c => ?_)
  · replace h := zok_f h c
    exact hret _ _ _ dX6_must_31 h
  · replace h := zok_t h c
    refine zi_aload_n (pc' := 28) X dX6_must_27 rfl rfl 0 rfl ?_
    refine zi_callVv (pc' := 31) X zl_X6_271 ha0 (by decide) [] rfl rfl (by decide) (Nat.le_of_ble_eq_true rfl) dX6_must_28 rfl (tX6_next _ ha0 (zok_bd h (fun _ m3 h => ?_)))
    exact hret _ _ _ dX6_must_31 h
def fX6_must (a0 : Nat) (a1 : Int32) (μ : zMem) : Option (Unit × zMem) :=
  if (μ a0 11) = 0 then
    if a1 = 0 then
      fX6_must_17 a0 (1 : Int32) a0 μ
    else
      fX6_must_17 a0 (0 : Int32) a0 μ
  else
    fX6_must_17 a0 (1 : Int32) a0 μ
set_option maxRecDepth 100000 in
set_option maxHeartbeats 4000000 in
theorem tX6_must (g : zG) {a0 : Nat} {a1 : Int32} {μ : zMem} {Q : Unit → zMem → Prop} (ha0 : zkd a0 = 6) (h : zok (fX6_must a0 a1 μ) Q) : zTv g yX6_must cX6_must 2 3 [.ref (zad g a0), .int a1] μ Q := by
  refine zTv_of RX6 (by decide) rfl (Nat.le_of_ble_eq_true rfl) ?_
  intro κ X hret
  unfold fX6_must at h
  refine zi_aload_n (pc' := 1) X dX6_must_0 rfl rfl 0 rfl ?_
  refine zi_aload_n (pc' := 2) X dX6_must_1 rfl rfl 0 rfl ?_
  refine zi_geti (pc' := 5) X zf_X6_258 rfl (by decide) ha0 dX6_must_2 rfl ?_
  refine zi_if_ne (pc' := 8) (tgt := 12) X dX6_must_5 rfl rfl (fun c => ?_) (fun c => ?_)
  · replace h := zok_f h c
    refine zi_iconst (pc' := 13) (v := (1 : Int32)) X dX6_must_12 rfl rfl ?_
    refine zi_goto (pc' := 17) X dX6_must_13 rfl ?_
    exact zi_sub X [0] _ rfl (lX6_must_17 X hret a0 (1 : Int32) a0 (μ) ha0 ha0 h)
  · replace h := zok_t h c
    refine zi_iload_n (pc' := 9) X dX6_must_8 rfl rfl 1 rfl ?_
    refine zi_if_ne (pc' := 12) (tgt := 16) X dX6_must_9 rfl rfl (fun c => ?_) (fun c => ?_)
    · replace h := zok_f h c
      refine zi_iconst (pc' := 17) (v := (0 : Int32)) X dX6_must_16 rfl rfl ?_
      exact zi_sub X [0] _ rfl (lX6_must_17 X hret a0 (0 : Int32) a0 (μ) ha0 ha0 h)
    · replace h := zok_t h c
      refine zi_iconst (pc' := 13) (v := (1 : Int32)) X dX6_must_12 rfl rfl ?_
      refine zi_goto (pc' := 17) X dX6_must_13 rfl ?_
      exact zi_sub X [0] _ rfl (lX6_must_17 X hret a0 (1 : Int32) a0 (μ) ha0 ha0 h)
def fX6_walk_103 (k32 : Nat → Int32 → Int32 → zMem → Option (Unit × zMem)) (k41 : Nat → Int32 → Int32 → Int32 → zMem → Option (Unit × zMem)) (k51 : Nat → Int32 → Int32 → Int32 → Int32 → zMem → Option (Unit × zMem)) (a0 : Nat) (a2 : Int32) (a3 : Int32) (a4 : Int32) (a5 : Int32) (s0 : Int32) (s1 : Nat) (μ : zMem) : Option (Unit × zMem) :=
  zgd (zib a5 25) (
  zgd (zib s0 25) (
  k51 a0 a2 a3 a4 (a5 + (1 : Int32)) (zst μ s1 (s0).toNatClampNeg (μ (a0 + 5) (a5).toNatClampNeg))))
set_option maxRecDepth 100000 in
theorem lX6_walk_103 {g : zG} {κ : zK} (X : zC g κ RX6 cX6_walk 6 3) {Q : Unit → zMem → Prop} (hret : ∀ pc lv μ', decode cX6_walk pc = .ok (.return_, 1) → Q () μ' → zV g κ pc lv [] μ') {k32 : Nat → Int32 → Int32 → zMem → Option (Unit × zMem)} (hk32 : ∀ (a0 : Nat) (a2 : Int32) (a3 : Int32) (μ : zMem) (_ : zkd a0 = 6), zok (k32 a0 a2 a3 μ) Q → zV g κ 32 [(0, .ref (zad g a0)), (2, .int a2), (3, .int a3)] [] μ) {k41 : Nat → Int32 → Int32 → Int32 → zMem → Option (Unit × zMem)} (hk41 : ∀ (a0 : Nat) (a2 : Int32) (a3 : Int32) (a4 : Int32) (μ : zMem) (_ : zkd a0 = 6), zok (k41 a0 a2 a3 a4 μ) Q → zV g κ 41 [(0, .ref (zad g a0)), (2, .int a2), (3, .int a3), (4, .int a4)] [] μ) {k51 : Nat → Int32 → Int32 → Int32 → Int32 → zMem → Option (Unit × zMem)} (hk51 : ∀ (a0 : Nat) (a2 : Int32) (a3 : Int32) (a4 : Int32) (a5 : Int32) (μ : zMem) (_ : zkd a0 = 6), zok (k51 a0 a2 a3 a4 a5 μ) Q → zV g κ 51 [(0, .ref (zad g a0)), (2, .int a2), (3, .int a3), (4, .int a4), (5, .int a5)] [] μ) : ∀ (a0 : Nat) (a2 : Int32) (a3 : Int32) (a4 : Int32) (a5 : Int32) (s0 : Int32) (s1 : Nat) (μ : zMem) (ha0 : zkd a0 = 6) (hs1 : zR s1 7 25), zok (fX6_walk_103 k32 k41 k51 a0 a2 a3 a4 a5 s0 s1 μ) Q → zV g κ 103 [(0, .ref (zad g a0)), (2, .int a2), (3, .int a3), (4, .int a4), (5, .int a5)] [.int s0, .ref (zad g s1)] μ := by
  intro a0 a2 a3 a4 a5 s0 s1 μ ha0 hs1 h
  unfold fX6_walk_103 at h
  refine zi_aload_n (pc' := 104) X dX6_walk_103 rfl rfl 0 rfl ?_
  refine zi_getr (pc' := 107) X zf_X6_22 rfl (by decide) ha0 dX6_walk_104 rfl ?_
  have f6 := zr_6_5 ha0
  refine zi_iload (pc' := 109) X dX6_walk_107 rfl 4 rfl ?_
  obtain ⟨g7, h⟩ := zok_g h
  refine zi_iald (pc' := 110) X f6.1 (by rw [f6.2]; exact g7) dX6_walk_109 rfl ?_
  obtain ⟨g8, h⟩ := zok_g h
  refine zi_iast (pc' := 111) X hs1.1 (by rw [hs1.2]; exact g8) dX6_walk_110 rfl ?_
  refine zi_iinc (pc' := 114) (v := (a5 + (1 : Int32))) X dX6_walk_111 rfl 4 rfl rfl (by decide) [(5, .int (a5 + (1 : Int32))), (0, .ref (zad g a0)), (2, .int a2), (3, .int a3), (4, .int a4)] rfl ?_
  refine zi_goto (pc' := 51) X dX6_walk_114 rfl ?_
  exact zi_sub X [1, 2, 3, 4, 0] _ rfl (hk51 a0 a2 a3 a4 (a5 + (1 : Int32)) ((zst μ s1 (s0).toNatClampNeg (μ (a0 + 5) (a5).toNatClampNeg))) ha0 h)
def fX6_walk_51 (k32 : Nat → Int32 → Int32 → zMem → Option (Unit × zMem)) (k41 : Nat → Int32 → Int32 → Int32 → zMem → Option (Unit × zMem)) : Nat → Nat → Int32 → Int32 → Int32 → Int32 → zMem → Option (Unit × zMem)
  | 0, _, _, _, _, _, _ => none
  | n + 1, a0, a2, a3, a4, a5, μ =>
    if (25 : Int32) ≤ a5 then
      k41 a0 a2 a3 (a4 + (1 : Int32)) μ
    else
      zgd (zib a4 25) (
      if (μ (a0 + 5) (a4).toNatClampNeg) = a3 then
        zgd (zib a5 25) (
        if 0 ≤ (μ (a0 + 5) (a5).toNatClampNeg) then
          fX6_walk_103 k32 k41 (fX6_walk_51 k32 k41 n) a0 a2 a3 a4 a5 a5 (a0 + 5) μ
        else
          zbd (fX6_canStep a0 a4 a5 a2 μ) fun r9 m10 =>
          if r9 = 0 then
            fX6_walk_103 k32 k41 (fX6_walk_51 k32 k41 n) a0 a2 a3 a4 a5 a5 (a0 + 5) m10
          else
            zgd (zib a5 25) (
            fX6_walk_51 k32 k41 n a0 a2 a3 a4 (a5 + (1 : Int32)) (zst m10 (a0 + 5) (a5).toNatClampNeg (a3 + (1 : Int32)))))
      else
        k41 a0 a2 a3 (a4 + (1 : Int32)) μ)
set_option maxRecDepth 100000 in
theorem lX6_walk_51 {g : zG} {κ : zK} (X : zC g κ RX6 cX6_walk 6 3) {Q : Unit → zMem → Prop} (hret : ∀ pc lv μ', decode cX6_walk pc = .ok (.return_, 1) → Q () μ' → zV g κ pc lv [] μ') {k32 : Nat → Int32 → Int32 → zMem → Option (Unit × zMem)} (hk32 : ∀ (a0 : Nat) (a2 : Int32) (a3 : Int32) (μ : zMem) (_ : zkd a0 = 6), zok (k32 a0 a2 a3 μ) Q → zV g κ 32 [(0, .ref (zad g a0)), (2, .int a2), (3, .int a3)] [] μ) {k41 : Nat → Int32 → Int32 → Int32 → zMem → Option (Unit × zMem)} (hk41 : ∀ (a0 : Nat) (a2 : Int32) (a3 : Int32) (a4 : Int32) (μ : zMem) (_ : zkd a0 = 6), zok (k41 a0 a2 a3 a4 μ) Q → zV g κ 41 [(0, .ref (zad g a0)), (2, .int a2), (3, .int a3), (4, .int a4)] [] μ) : ∀ (n : Nat) (a0 : Nat) (a2 : Int32) (a3 : Int32) (a4 : Int32) (a5 : Int32) (μ : zMem) (ha0 : zkd a0 = 6), zok (fX6_walk_51 k32 k41 n a0 a2 a3 a4 a5 μ) Q → zV g κ 51 [(0, .ref (zad g a0)), (2, .int a2), (3, .int a3), (4, .int a4), (5, .int a5)] [] μ := by
  intro n
  induction n with
  | zero =>
    intro a0 a2 a3 a4 a5 μ ha0 h
    exact h.elim
  | succ n ih =>
    intro a0 a2 a3 a4 a5 μ ha0 h
    rw [fX6_walk_51] at h
    refine zi_iload (pc' := 53) X dX6_walk_51 rfl 4 rfl ?_
    refine zi_bipush (pc' := 55) (v := (25 : Int32)) X dX6_walk_53 rfl rfl ?_
    refine zi_icmp_ge (pc' := 58) (tgt := 117) X dX6_walk_55 rfl rfl (fun c => ?_) (fun c => ?_)
    · replace h := zok_t h c
      refine zi_iinc (pc' := 120) (v := (a4 + (1 : Int32))) X dX6_walk_117 rfl 3 rfl rfl (by decide) [(4, .int (a4 + (1 : Int32))), (0, .ref (zad g a0)), (2, .int a2), (3, .int a3), (5, .int a5)] rfl ?_
      refine zi_goto (pc' := 41) X dX6_walk_120 rfl ?_
      exact zi_sub X [1, 2, 3, 0] _ rfl (hk41 a0 a2 a3 (a4 + (1 : Int32)) (μ) ha0 h)
    · replace h := zok_f h c
      refine zi_aload_n (pc' := 59) X dX6_walk_58 rfl rfl 0 rfl ?_
      refine zi_getr (pc' := 62) X zf_X6_22 rfl (by decide) ha0 dX6_walk_59 rfl ?_
      have f1 := zr_6_5 ha0
      refine zi_iload (pc' := 64) X dX6_walk_62 rfl 3 rfl ?_
      obtain ⟨g2, h⟩ := zok_g h
      refine zi_iald (pc' := 65) X f1.1 (by rw [f1.2]; exact g2) dX6_walk_64 rfl ?_
      refine zi_iload_n (pc' := 66) X dX6_walk_65 rfl rfl 2 rfl ?_
      refine zi_icmp_ne (pc' := 69) (tgt := 117) X dX6_walk_66 rfl rfl (fun c => ?_) (fun c => ?_)
      · replace h := zok_f h c
        refine zi_iinc (pc' := 120) (v := (a4 + (1 : Int32))) X dX6_walk_117 rfl 3 rfl rfl (by decide) [(4, .int (a4 + (1 : Int32))), (0, .ref (zad g a0)), (2, .int a2), (3, .int a3), (5, .int a5)] rfl ?_
        refine zi_goto (pc' := 41) X dX6_walk_120 rfl ?_
        exact zi_sub X [1, 2, 3, 0] _ rfl (hk41 a0 a2 a3 (a4 + (1 : Int32)) (μ) ha0 h)
      · replace h := zok_t h c
        refine zi_aload_n (pc' := 70) X dX6_walk_69 rfl rfl 0 rfl ?_
        refine zi_getr (pc' := 73) X zf_X6_22 rfl (by decide) ha0 dX6_walk_70 rfl ?_
        have f3 := zr_6_5 ha0
        refine zi_iload (pc' := 75) X dX6_walk_73 rfl 4 rfl ?_
        refine zi_aload_n (pc' := 76) X dX6_walk_75 rfl rfl 0 rfl ?_
        refine zi_getr (pc' := 79) X zf_X6_22 rfl (by decide) ha0 dX6_walk_76 rfl ?_
        have f4 := zr_6_5 ha0
        refine zi_iload (pc' := 81) X dX6_walk_79 rfl 4 rfl ?_
        obtain ⟨g5, h⟩ := zok_g h
        refine zi_iald (pc' := 82) X f4.1 (by rw [f4.2]; exact g5) dX6_walk_81 rfl ?_
        refine zi_if_ge (pc' := 85) (tgt := 103) X dX6_walk_82 rfl rfl (fun c => ?_) (fun c => ?_)
        · replace h := zok_t h c
          exact zi_sub X [0, 1, 2, 3, 4] _ rfl (lX6_walk_103 X hret hk32 hk41 ih a0 a2 a3 a4 a5 a5 (a0 + 5) (μ) ha0 f3 h)
        · replace h := zok_f h c
          refine zi_aload_n (pc' := 86) X dX6_walk_85 rfl rfl 0 rfl ?_
          refine zi_iload (pc' := 88) X dX6_walk_86 rfl 3 rfl ?_
          refine zi_iload (pc' := 90) X dX6_walk_88 rfl 4 rfl ?_
          refine zi_iload_n (pc' := 91) X dX6_walk_90 rfl rfl 1 rfl ?_
          refine zi_callVi (pc' := 94) X zl_X6_179 ha0 (by decide) [.int a4, .int a5, .int a2] rfl rfl (by decide) (Nat.le_of_ble_eq_true rfl) dX6_walk_91 rfl (tX6_canStep _ ha0 (zok_bd h (fun r9 m10 h => ?_)))
          refine zi_if_eq (pc' := 97) (tgt := 103) X dX6_walk_94 rfl rfl (fun c => ?_) (fun c => ?_)
          · replace h := zok_t h c
            exact zi_sub X [0, 1, 2, 3, 4] _ rfl (lX6_walk_103 X hret hk32 hk41 ih a0 a2 a3 a4 a5 a5 (a0 + 5) (m10) ha0 f3 h)
          · replace h := zok_f h c
            refine zi_iload_n (pc' := 98) X dX6_walk_97 rfl rfl 2 rfl ?_
            refine zi_iconst (pc' := 99) (v := (1 : Int32)) X dX6_walk_98 rfl rfl ?_
            refine zi_iadd (pc' := 100) X dX6_walk_99 rfl ?_
            refine zi_goto (pc' := 110) X dX6_walk_100 rfl ?_
            obtain ⟨g11, h⟩ := zok_g h
            refine zi_iast (pc' := 111) X f3.1 (by rw [f3.2]; exact g11) dX6_walk_110 rfl ?_
            refine zi_iinc (pc' := 114) (v := (a5 + (1 : Int32))) X dX6_walk_111 rfl 4 rfl rfl (by decide) [(5, .int (a5 + (1 : Int32))), (0, .ref (zad g a0)), (2, .int a2), (3, .int a3), (4, .int a4)] rfl ?_
            refine zi_goto (pc' := 51) X dX6_walk_114 rfl ?_
            exact zi_sub X [1, 2, 3, 4, 0] _ rfl (ih a0 a2 a3 a4 (a5 + (1 : Int32)) ((zst m10 (a0 + 5) (a5).toNatClampNeg (a3 + (1 : Int32)))) ha0 h)
def fX6_walk_41 (k32 : Nat → Int32 → Int32 → zMem → Option (Unit × zMem)) : Nat → Nat → Int32 → Int32 → Int32 → zMem → Option (Unit × zMem)
  | 0, _, _, _, _, _ => none
  | n + 1, a0, a2, a3, a4, μ =>
    if (25 : Int32) ≤ a4 then
      k32 a0 a2 (a3 + (1 : Int32)) μ
    else
      fX6_walk_51 k32 (fX6_walk_41 k32 n) 200 a0 a2 a3 a4 (0 : Int32) μ
set_option maxRecDepth 100000 in
theorem lX6_walk_41 {g : zG} {κ : zK} (X : zC g κ RX6 cX6_walk 6 3) {Q : Unit → zMem → Prop} (hret : ∀ pc lv μ', decode cX6_walk pc = .ok (.return_, 1) → Q () μ' → zV g κ pc lv [] μ') {k32 : Nat → Int32 → Int32 → zMem → Option (Unit × zMem)} (hk32 : ∀ (a0 : Nat) (a2 : Int32) (a3 : Int32) (μ : zMem) (_ : zkd a0 = 6), zok (k32 a0 a2 a3 μ) Q → zV g κ 32 [(0, .ref (zad g a0)), (2, .int a2), (3, .int a3)] [] μ) : ∀ (n : Nat) (a0 : Nat) (a2 : Int32) (a3 : Int32) (a4 : Int32) (μ : zMem) (ha0 : zkd a0 = 6), zok (fX6_walk_41 k32 n a0 a2 a3 a4 μ) Q → zV g κ 41 [(0, .ref (zad g a0)), (2, .int a2), (3, .int a3), (4, .int a4)] [] μ := by
  intro n
  induction n with
  | zero =>
    intro a0 a2 a3 a4 μ ha0 h
    exact h.elim
  | succ n ih =>
    intro a0 a2 a3 a4 μ ha0 h
    rw [fX6_walk_41] at h
    refine zi_iload (pc' := 43) X dX6_walk_41 rfl 3 rfl ?_
    refine zi_bipush (pc' := 45) (v := (25 : Int32)) X dX6_walk_43 rfl rfl ?_
    refine zi_icmp_ge (pc' := 48) (tgt := 123) X dX6_walk_45 rfl rfl (fun c => ?_) (fun c => ?_)
    · replace h := zok_t h c
      refine zi_iinc (pc' := 126) (v := (a3 + (1 : Int32))) X dX6_walk_123 rfl 2 rfl rfl (by decide) [(3, .int (a3 + (1 : Int32))), (0, .ref (zad g a0)), (2, .int a2), (4, .int a4)] rfl ?_
      refine zi_goto (pc' := 32) X dX6_walk_126 rfl ?_
      exact zi_sub X [1, 2, 0] _ rfl (hk32 a0 a2 (a3 + (1 : Int32)) (μ) ha0 h)
    · replace h := zok_f h c
      refine zi_iconst (pc' := 49) (v := (0 : Int32)) X dX6_walk_48 rfl rfl ?_
      refine zi_istore (pc' := 51) X dX6_walk_49 rfl (by decide) [(5, .int (0 : Int32)), (0, .ref (zad g a0)), (2, .int a2), (3, .int a3), (4, .int a4)] rfl ?_
      exact zi_sub X [1, 2, 3, 4, 0] _ rfl (lX6_walk_51 X hret hk32 ih 200 a0 a2 a3 a4 (0 : Int32) (μ) ha0 h)
def fX6_walk_32 : Nat → Nat → Int32 → Int32 → zMem → Option (Unit × zMem)
  | 0, _, _, _, _ => none
  | n + 1, a0, a2, a3, μ =>
    if (25 : Int32) ≤ a3 then
      some ((), μ)
    else
      fX6_walk_41 (fX6_walk_32 n) 200 a0 a2 a3 (0 : Int32) μ
set_option maxRecDepth 100000 in
theorem lX6_walk_32 {g : zG} {κ : zK} (X : zC g κ RX6 cX6_walk 6 3) {Q : Unit → zMem → Prop} (hret : ∀ pc lv μ', decode cX6_walk pc = .ok (.return_, 1) → Q () μ' → zV g κ pc lv [] μ') : ∀ (n : Nat) (a0 : Nat) (a2 : Int32) (a3 : Int32) (μ : zMem) (ha0 : zkd a0 = 6), zok (fX6_walk_32 n a0 a2 a3 μ) Q → zV g κ 32 [(0, .ref (zad g a0)), (2, .int a2), (3, .int a3)] [] μ := by
  intro n
  induction n with
  | zero =>
    intro a0 a2 a3 μ ha0 h
    exact h.elim
  | succ n ih =>
    intro a0 a2 a3 μ ha0 h
    rw [fX6_walk_32] at h
    refine zi_iload_n (pc' := 33) X dX6_walk_32 rfl rfl 2 rfl ?_
    refine zi_bipush (pc' := 35) (v := (25 : Int32)) X dX6_walk_33 rfl rfl ?_
    refine zi_icmp_ge (pc' := 38) (tgt := 129) X dX6_walk_35 rfl rfl (fun c => ?_) (fun c => ?_)
    · replace h := zok_t h c
      exact hret _ _ _ dX6_walk_129 h
    · replace h := zok_f h c
      refine zi_iconst (pc' := 39) (v := (0 : Int32)) X dX6_walk_38 rfl rfl ?_
      refine zi_istore (pc' := 41) X dX6_walk_39 rfl (by decide) [(4, .int (0 : Int32)), (0, .ref (zad g a0)), (2, .int a2), (3, .int a3)] rfl ?_
      exact zi_sub X [1, 2, 3, 0] _ rfl (lX6_walk_41 X hret ih 200 a0 a2 a3 (0 : Int32) (μ) ha0 h)
def fX6_walk_2 : Nat → Nat → Int32 → Int32 → Int32 → zMem → Option (Unit × zMem)
  | 0, _, _, _, _, _ => none
  | n + 1, a0, a1, a2, a3, μ =>
    if (25 : Int32) ≤ a3 then
      fX6_walk_32 200 a0 a2 (0 : Int32) μ
    else
      if a3 = a1 then
        zgd (zib a3 25) (
        fX6_walk_2 n a0 a1 a2 (a3 + (1 : Int32)) (zst μ (a0 + 5) (a3).toNatClampNeg (0 : Int32)))
      else
        zgd (zib a3 25) (
        fX6_walk_2 n a0 a1 a2 (a3 + (1 : Int32)) (zst μ (a0 + 5) (a3).toNatClampNeg (-1 : Int32)))
set_option maxRecDepth 100000 in
theorem lX6_walk_2 {g : zG} {κ : zK} (X : zC g κ RX6 cX6_walk 6 3) {Q : Unit → zMem → Prop} (hret : ∀ pc lv μ', decode cX6_walk pc = .ok (.return_, 1) → Q () μ' → zV g κ pc lv [] μ') : ∀ (n : Nat) (a0 : Nat) (a1 : Int32) (a2 : Int32) (a3 : Int32) (μ : zMem) (ha0 : zkd a0 = 6), zok (fX6_walk_2 n a0 a1 a2 a3 μ) Q → zV g κ 2 [(0, .ref (zad g a0)), (1, .int a1), (2, .int a2), (3, .int a3)] [] μ := by
  intro n
  induction n with
  | zero =>
    intro a0 a1 a2 a3 μ ha0 h
    exact h.elim
  | succ n ih =>
    intro a0 a1 a2 a3 μ ha0 h
    rw [fX6_walk_2] at h
    refine zi_iload_n (pc' := 3) X dX6_walk_2 rfl rfl 3 rfl ?_
    refine zi_bipush (pc' := 5) (v := (25 : Int32)) X dX6_walk_3 rfl rfl ?_
    refine zi_icmp_ge (pc' := 8) (tgt := 30) X dX6_walk_5 rfl rfl (fun c => ?_) (fun c => ?_)
    · replace h := zok_t h c
      refine zi_iconst (pc' := 31) (v := (0 : Int32)) X dX6_walk_30 rfl rfl ?_
      refine zi_istore_n (pc' := 32) X dX6_walk_31 rfl rfl (by decide) [(3, .int (0 : Int32)), (0, .ref (zad g a0)), (1, .int a1), (2, .int a2)] rfl ?_
      exact zi_sub X [1, 3, 0] _ rfl (lX6_walk_32 X hret 200 a0 a2 (0 : Int32) (μ) ha0 h)
    · replace h := zok_f h c
      refine zi_aload_n (pc' := 9) X dX6_walk_8 rfl rfl 0 rfl ?_
      refine zi_getr (pc' := 12) X zf_X6_22 rfl (by decide) ha0 dX6_walk_9 rfl ?_
      have f12 := zr_6_5 ha0
      refine zi_iload_n (pc' := 13) X dX6_walk_12 rfl rfl 3 rfl ?_
      refine zi_iload_n (pc' := 14) X dX6_walk_13 rfl rfl 3 rfl ?_
      refine zi_iload_n (pc' := 15) X dX6_walk_14 rfl rfl 1 rfl ?_
      refine zi_icmp_ne (pc' := 18) (tgt := 22) X dX6_walk_15 rfl rfl (fun c => ?_) (fun c => ?_)
      · replace h := zok_f h c
        refine zi_iconst (pc' := 23) (v := (-1 : Int32)) X dX6_walk_22 rfl rfl ?_
        obtain ⟨g13, h⟩ := zok_g h
        refine zi_iast (pc' := 24) X f12.1 (by rw [f12.2]; exact g13) dX6_walk_23 rfl ?_
        refine zi_iinc (pc' := 27) (v := (a3 + (1 : Int32))) X dX6_walk_24 rfl 3 rfl rfl (by decide) [(3, .int (a3 + (1 : Int32))), (0, .ref (zad g a0)), (1, .int a1), (2, .int a2)] rfl ?_
        refine zi_goto (pc' := 2) X dX6_walk_27 rfl ?_
        exact zi_sub X [1, 2, 3, 0] _ rfl (ih a0 a1 a2 (a3 + (1 : Int32)) ((zst μ (a0 + 5) (a3).toNatClampNeg (-1 : Int32))) ha0 h)
      · replace h := zok_t h c
        refine zi_iconst (pc' := 19) (v := (0 : Int32)) X dX6_walk_18 rfl rfl ?_
        refine zi_goto (pc' := 23) X dX6_walk_19 rfl ?_
        obtain ⟨g14, h⟩ := zok_g h
        refine zi_iast (pc' := 24) X f12.1 (by rw [f12.2]; exact g14) dX6_walk_23 rfl ?_
        refine zi_iinc (pc' := 27) (v := (a3 + (1 : Int32))) X dX6_walk_24 rfl 3 rfl rfl (by decide) [(3, .int (a3 + (1 : Int32))), (0, .ref (zad g a0)), (1, .int a1), (2, .int a2)] rfl ?_
        refine zi_goto (pc' := 2) X dX6_walk_27 rfl ?_
        exact zi_sub X [1, 2, 3, 0] _ rfl (ih a0 a1 a2 (a3 + (1 : Int32)) ((zst μ (a0 + 5) (a3).toNatClampNeg (0 : Int32))) ha0 h)
def fX6_walk (a0 : Nat) (a1 : Int32) (a2 : Int32) (μ : zMem) : Option (Unit × zMem) :=
  fX6_walk_2 200 a0 a1 a2 (0 : Int32) μ
set_option maxRecDepth 100000 in
set_option maxHeartbeats 4000000 in
theorem tX6_walk (g : zG) {a0 : Nat} {a1 : Int32} {a2 : Int32} {μ : zMem} {Q : Unit → zMem → Prop} (ha0 : zkd a0 = 6) (h : zok (fX6_walk a0 a1 a2 μ) Q) : zTv g yX6_walk cX6_walk 6 3 [.ref (zad g a0), .int a1, .int a2] μ Q := by
  refine zTv_of RX6 (by decide) rfl (Nat.le_of_ble_eq_true rfl) ?_
  intro κ X hret
  unfold fX6_walk at h
  refine zi_iconst (pc' := 1) (v := (0 : Int32)) X dX6_walk_0 rfl rfl ?_
  refine zi_istore_n (pc' := 2) X dX6_walk_1 rfl rfl (by decide) [(3, .int (0 : Int32)), (0, .ref (zad g a0)), (1, .int a1), (2, .int a2)] rfl ?_
  exact zi_sub X [1, 2, 3, 0] _ rfl (lX6_walk_2 X hret 200 a0 a1 a2 (0 : Int32) (μ) ha0 h)
def fX6_write (a0 : Nat) (a1 : Int32) (a2 : Int32) (a3 : Int32) (μ : zMem) : Option (Int32 × zMem) :=
  zbd (fX6_lacks a0 a1 μ) fun r1 m2 =>
  if r1 < 0 then
    zgd (zib a1 4) (
    zbd (fX6_in ((a2).toInt64) (0 : Int64) ((((m2 (a0 + 9) (a1).toNatClampNeg) - (1 : Int32))).toInt64) m2) fun r5 m6 =>
    if r5 = 0 then
      zbd (fX6_finds a0 (0 : Int32) m6) fun r15 m16 =>
      some (r15, m16)
    else
      zgd (zib a1 4) (
      if (m6 (a0 + 8) (a1).toNatClampNeg) = (8 : Int32) then
        zgd (zib (((40 : Int32) * a1) + a2) 160) (
        some ((1 : Int32), (zst m6 (a0 + 10) ((((40 : Int32) * a1) + a2)).toNatClampNeg ((a3).toInt8.toInt32))))
      else
        zgd (zib a1 4) (
        if (m6 (a0 + 8) (a1).toNatClampNeg) = (16 : Int32) then
          zgd (zib (((40 : Int32) * a1) + a2) 160) (
          some ((1 : Int32), (zst m6 (a0 + 10) ((((40 : Int32) * a1) + a2)).toNatClampNeg ((a3).toInt16.toInt32))))
        else
          zgd (zib (((40 : Int32) * a1) + a2) 160) (
          some ((1 : Int32), (zst m6 (a0 + 10) ((((40 : Int32) * a1) + a2)).toNatClampNeg a3))))))
  else
    zbd (fX6_finds a0 r1 m2) fun r17 m18 =>
    some (r17, m18)
set_option maxRecDepth 100000 in
set_option maxHeartbeats 4000000 in
theorem tX6_write (g : zG) {a0 : Nat} {a1 : Int32} {a2 : Int32} {a3 : Int32} {μ : zMem} {Q : Int32 → zMem → Prop} (ha0 : zkd a0 = 6) (h : zok (fX6_write a0 a1 a2 a3 μ) Q) : zTi g yX6_write cX6_write 5 .int 3 [.ref (zad g a0), .int a1, .int a2, .int a3] μ Q := by
  refine zTi_of (P := fun r => True) zpi RX6 (by decide) rfl (Nat.le_of_ble_eq_true rfl) ?_
  intro κ X hret
  unfold fX6_write at h
  refine zi_aload_n (pc' := 1) X dX6_write_0 rfl rfl 0 rfl ?_
  refine zi_iload_n (pc' := 2) X dX6_write_1 rfl rfl 1 rfl ?_
  refine zi_callVi (pc' := 5) X zl_X6_225 ha0 (by decide) [.int a1] rfl rfl (by decide) (Nat.le_of_ble_eq_true rfl) dX6_write_2 rfl (tX6_lacks _ ha0 (zok_bd h (fun r1 m2 h => ?_)))
  refine zi_istore (pc' := 7) X dX6_write_5 rfl (by decide) [(4, .int r1), (0, .ref (zad g a0)), (1, .int a1), (2, .int a2), (3, .int a3)] rfl ?_
  refine zi_iload (pc' := 9) X dX6_write_7 rfl 0 rfl ?_
  refine zi_if_lt (pc' := 12) (tgt := 19) X dX6_write_9 rfl rfl (fun c => ?_) (fun c => ?_)
  · replace h := zok_t h c
    refine zi_iload_n (pc' := 20) X dX6_write_19 rfl rfl 3 rfl ?_
    refine zi_i2l (pc' := 21) X dX6_write_20 rfl ?_
    refine zi_lconst (pc' := 22) (v := (0 : Int64)) X dX6_write_21 rfl rfl ?_
    refine zi_aload_n (pc' := 23) X dX6_write_22 rfl rfl 1 rfl ?_
    refine zi_getr (pc' := 26) X zf_X6_34 rfl (by decide) ha0 dX6_write_23 rfl ?_
    have f3 := zr_6_13 ha0
    refine zi_iload_n (pc' := 27) X dX6_write_26 rfl rfl 2 rfl ?_
    obtain ⟨g4, h⟩ := zok_g h
    refine zi_iald (pc' := 28) X f3.1 (by rw [f3.2]; exact g4) dX6_write_27 rfl ?_
    refine zi_iconst (pc' := 29) (v := (1 : Int32)) X dX6_write_28 rfl rfl ?_
    refine zi_isub (pc' := 30) X dX6_write_29 rfl ?_
    refine zi_i2l (pc' := 31) X dX6_write_30 rfl ?_
    refine zi_callSi (pc' := 34) X zl_X6_48 [.long ((a2).toInt64), .long (0 : Int64), .long ((((m2 (a0 + 9) (a1).toNatClampNeg) - (1 : Int32))).toInt64)] rfl rfl (by decide) (Nat.le_of_ble_eq_true rfl) dX6_write_31 rfl (tX6_in _ (zok_bd h (fun r5 m6 h => ?_)))
    refine zi_if_ne (pc' := 37) (tgt := 43) X dX6_write_34 rfl rfl (fun c => ?_) (fun c => ?_)
    · replace h := zok_f h c
      refine zi_aload_n (pc' := 44) X dX6_write_43 rfl rfl 1 rfl ?_
      refine zi_getr (pc' := 47) X zf_X6_37 rfl (by decide) ha0 dX6_write_44 rfl ?_
      have f7 := zr_6_14 ha0
      refine zi_bipush (pc' := 49) (v := (40 : Int32)) X dX6_write_47 rfl rfl ?_
      refine zi_iload_n (pc' := 50) X dX6_write_49 rfl rfl 2 rfl ?_
      refine zi_imul (pc' := 51) X dX6_write_50 rfl ?_
      refine zi_iload_n (pc' := 52) X dX6_write_51 rfl rfl 3 rfl ?_
      refine zi_iadd (pc' := 53) X dX6_write_52 rfl ?_
      refine zi_aload_n (pc' := 54) X dX6_write_53 rfl rfl 1 rfl ?_
      refine zi_getr (pc' := 57) X zf_X6_31 rfl (by decide) ha0 dX6_write_54 rfl ?_
      have f8 := zr_6_12 ha0
      refine zi_iload_n (pc' := 58) X dX6_write_57 rfl rfl 2 rfl ?_
      obtain ⟨g9, h⟩ := zok_g h
      refine zi_iald (pc' := 59) X f8.1 (by rw [f8.2]; exact g9) dX6_write_58 rfl ?_
      refine zi_bipush (pc' := 61) (v := (8 : Int32)) X dX6_write_59 rfl rfl ?_
      refine zi_icmp_ne (pc' := 64) (tgt := 69) X dX6_write_61 rfl rfl (fun c => ?_) (fun c => ?_)
      · replace h := zok_f h c
        refine zi_aload_n (pc' := 70) X dX6_write_69 rfl rfl 1 rfl ?_
        refine zi_getr (pc' := 73) X zf_X6_31 rfl (by decide) ha0 dX6_write_70 rfl ?_
        have f10 := zr_6_12 ha0
        refine zi_iload_n (pc' := 74) X dX6_write_73 rfl rfl 2 rfl ?_
        obtain ⟨g11, h⟩ := zok_g h
        refine zi_iald (pc' := 75) X f10.1 (by rw [f10.2]; exact g11) dX6_write_74 rfl ?_
        refine zi_bipush (pc' := 77) (v := (16 : Int32)) X dX6_write_75 rfl rfl ?_
        refine zi_icmp_ne (pc' := 80) (tgt := 85) X dX6_write_77 rfl rfl (fun c => ?_) (fun c => ?_)
        · replace h := zok_f h c
          refine zi_iload_n (pc' := 86) X dX6_write_85 rfl rfl 4 rfl ?_
          obtain ⟨g12, h⟩ := zok_g h
          refine zi_iast (pc' := 87) X f7.1 (by rw [f7.2]; exact g12) dX6_write_86 rfl ?_
          refine zi_iconst (pc' := 88) (v := (1 : Int32)) X dX6_write_87 rfl rfl ?_
          exact hret _ _ _ _ dX6_write_88 trivial h
        · replace h := zok_t h c
          refine zi_iload_n (pc' := 81) X dX6_write_80 rfl rfl 4 rfl ?_
          refine zi_i2s (pc' := 82) X dX6_write_81 rfl ?_
          refine zi_goto (pc' := 86) X dX6_write_82 rfl ?_
          obtain ⟨g13, h⟩ := zok_g h
          refine zi_iast (pc' := 87) X f7.1 (by rw [f7.2]; exact g13) dX6_write_86 rfl ?_
          refine zi_iconst (pc' := 88) (v := (1 : Int32)) X dX6_write_87 rfl rfl ?_
          exact hret _ _ _ _ dX6_write_88 trivial h
      · replace h := zok_t h c
        refine zi_iload_n (pc' := 65) X dX6_write_64 rfl rfl 4 rfl ?_
        refine zi_i2b (pc' := 66) X dX6_write_65 rfl ?_
        refine zi_goto (pc' := 86) X dX6_write_66 rfl ?_
        obtain ⟨g14, h⟩ := zok_g h
        refine zi_iast (pc' := 87) X f7.1 (by rw [f7.2]; exact g14) dX6_write_86 rfl ?_
        refine zi_iconst (pc' := 88) (v := (1 : Int32)) X dX6_write_87 rfl rfl ?_
        exact hret _ _ _ _ dX6_write_88 trivial h
    · replace h := zok_t h c
      refine zi_aload_n (pc' := 38) X dX6_write_37 rfl rfl 1 rfl ?_
      refine zi_iconst (pc' := 39) (v := (0 : Int32)) X dX6_write_38 rfl rfl ?_
      refine zi_callVi (pc' := 42) X zl_X6_93 ha0 (by decide) [.int (0 : Int32)] rfl rfl (by decide) (Nat.le_of_ble_eq_true rfl) dX6_write_39 rfl (tX6_finds _ ha0 (zok_bd h (fun r15 m16 h => ?_)))
      exact hret _ _ _ _ dX6_write_42 trivial h
  · replace h := zok_f h c
    refine zi_aload_n (pc' := 13) X dX6_write_12 rfl rfl 1 rfl ?_
    refine zi_iload (pc' := 15) X dX6_write_13 rfl 0 rfl ?_
    refine zi_callVi (pc' := 18) X zl_X6_93 ha0 (by decide) [.int r1] rfl rfl (by decide) (Nat.le_of_ble_eq_true rfl) dX6_write_15 rfl (tX6_finds _ ha0 (zok_bd h (fun r17 m18 h => ?_)))
    exact hret _ _ _ _ dX6_write_18 trivial h
def fX6_alone_2 : Nat → Nat → Int32 → Int32 → Int32 → zMem → Option (Unit × zMem)
  | 0, _, _, _, _, _ => none
  | n + 1, a0, a1, a2, a3, μ =>
    zgd (zib (2 : Int32) 87) (
    if (μ (a0 + 1) ((2 : Int32)).toNatClampNeg) ≤ a3 then
      zbd (fX6_aDay a0 μ) fun _ m4 =>
      some ((), m4)
    else
      if a3 = a1 then
        zbd (fX6_sets a0 a3 (1 : Int32) a2 μ) fun _ m8 =>
        fX6_alone_2 n a0 a1 a2 (a3 + (1 : Int32)) m8
      else
        zbd (fX6_sets a0 a3 (1 : Int32) (-1 : Int32) μ) fun _ m6 =>
        fX6_alone_2 n a0 a1 a2 (a3 + (1 : Int32)) m6)
set_option maxRecDepth 100000 in
theorem lX6_alone_2 {g : zG} {κ : zK} (X : zC g κ RX6 cX6_alone 4 4) {Q : Unit → zMem → Prop} (hret : ∀ pc lv μ', decode cX6_alone pc = .ok (.return_, 1) → Q () μ' → zV g κ pc lv [] μ') : ∀ (n : Nat) (a0 : Nat) (a1 : Int32) (a2 : Int32) (a3 : Int32) (μ : zMem) (ha0 : zkd a0 = 6), zok (fX6_alone_2 n a0 a1 a2 a3 μ) Q → zV g κ 2 [(0, .ref (zad g a0)), (1, .int a1), (2, .int a2), (3, .int a3)] [] μ := by
  intro n
  induction n with
  | zero =>
    intro a0 a1 a2 a3 μ ha0 h
    exact h.elim
  | succ n ih =>
    intro a0 a1 a2 a3 μ ha0 h
    rw [fX6_alone_2] at h
    refine zi_iload_n (pc' := 3) X dX6_alone_2 rfl rfl 3 rfl ?_
    refine zi_aload_n (pc' := 4) X dX6_alone_3 rfl rfl 0 rfl ?_
    refine zi_getr (pc' := 7) X zf_X6_9 rfl (by decide) ha0 dX6_alone_4 rfl ?_
    have f1 := zr_6_0 ha0
    refine zi_iconst (pc' := 8) (v := (2 : Int32)) X dX6_alone_7 rfl rfl ?_
    obtain ⟨g2, h⟩ := zok_g h
    refine zi_iald (pc' := 9) X f1.1 (by rw [f1.2]; exact g2) dX6_alone_8 rfl ?_
    refine zi_icmp_ge (pc' := 12) (tgt := 34) X dX6_alone_9 rfl rfl (fun c => ?_) (fun c => ?_)
    · replace h := zok_t h c
      refine zi_aload_n (pc' := 35) X dX6_alone_34 rfl rfl 0 rfl ?_
      refine zi_callVv (pc' := 38) X zl_X6_156 ha0 (by decide) [] rfl rfl (by decide) (Nat.le_of_ble_eq_true rfl) dX6_alone_35 rfl (tX6_aDay _ ha0 (zok_bd h (fun _ m4 h => ?_)))
      exact hret _ _ _ dX6_alone_38 h
    · replace h := zok_f h c
      refine zi_aload_n (pc' := 13) X dX6_alone_12 rfl rfl 0 rfl ?_
      refine zi_iload_n (pc' := 14) X dX6_alone_13 rfl rfl 3 rfl ?_
      refine zi_iconst (pc' := 15) (v := (1 : Int32)) X dX6_alone_14 rfl rfl ?_
      refine zi_iload_n (pc' := 16) X dX6_alone_15 rfl rfl 3 rfl ?_
      refine zi_iload_n (pc' := 17) X dX6_alone_16 rfl rfl 1 rfl ?_
      refine zi_icmp_ne (pc' := 20) (tgt := 24) X dX6_alone_17 rfl rfl (fun c => ?_) (fun c => ?_)
      · replace h := zok_f h c
        refine zi_iconst (pc' := 25) (v := (-1 : Int32)) X dX6_alone_24 rfl rfl ?_
        refine zi_callVv (pc' := 28) X zl_X6_79 ha0 (by decide) [.int a3, .int (1 : Int32), .int (-1 : Int32)] rfl rfl (by decide) (Nat.le_of_ble_eq_true rfl) dX6_alone_25 rfl (tX6_sets _ ha0 (zok_bd h (fun _ m6 h => ?_)))
        refine zi_iinc (pc' := 31) (v := (a3 + (1 : Int32))) X dX6_alone_28 rfl 3 rfl rfl (by decide) [(3, .int (a3 + (1 : Int32))), (0, .ref (zad g a0)), (1, .int a1), (2, .int a2)] rfl ?_
        refine zi_goto (pc' := 2) X dX6_alone_31 rfl ?_
        exact zi_sub X [1, 2, 3, 0] _ rfl (ih a0 a1 a2 (a3 + (1 : Int32)) (m6) ha0 h)
      · replace h := zok_t h c
        refine zi_iload_n (pc' := 21) X dX6_alone_20 rfl rfl 2 rfl ?_
        refine zi_goto (pc' := 25) X dX6_alone_21 rfl ?_
        refine zi_callVv (pc' := 28) X zl_X6_79 ha0 (by decide) [.int a3, .int (1 : Int32), .int a2] rfl rfl (by decide) (Nat.le_of_ble_eq_true rfl) dX6_alone_25 rfl (tX6_sets _ ha0 (zok_bd h (fun _ m8 h => ?_)))
        refine zi_iinc (pc' := 31) (v := (a3 + (1 : Int32))) X dX6_alone_28 rfl 3 rfl rfl (by decide) [(3, .int (a3 + (1 : Int32))), (0, .ref (zad g a0)), (1, .int a1), (2, .int a2)] rfl ?_
        refine zi_goto (pc' := 2) X dX6_alone_31 rfl ?_
        exact zi_sub X [1, 2, 3, 0] _ rfl (ih a0 a1 a2 (a3 + (1 : Int32)) (m8) ha0 h)
def fX6_alone (a0 : Nat) (a1 : Int32) (a2 : Int32) (μ : zMem) : Option (Unit × zMem) :=
  fX6_alone_2 200 a0 a1 a2 (0 : Int32) μ
set_option maxRecDepth 100000 in
set_option maxHeartbeats 4000000 in
theorem tX6_alone (g : zG) {a0 : Nat} {a1 : Int32} {a2 : Int32} {μ : zMem} {Q : Unit → zMem → Prop} (ha0 : zkd a0 = 6) (h : zok (fX6_alone a0 a1 a2 μ) Q) : zTv g yX6_alone cX6_alone 4 4 [.ref (zad g a0), .int a1, .int a2] μ Q := by
  refine zTv_of RX6 (by decide) rfl (Nat.le_of_ble_eq_true rfl) ?_
  intro κ X hret
  unfold fX6_alone at h
  refine zi_iconst (pc' := 1) (v := (0 : Int32)) X dX6_alone_0 rfl rfl ?_
  refine zi_istore_n (pc' := 2) X dX6_alone_1 rfl rfl (by decide) [(3, .int (0 : Int32)), (0, .ref (zad g a0)), (1, .int a1), (2, .int a2)] rfl ?_
  exact zi_sub X [1, 2, 3, 0] _ rfl (lX6_alone_2 X hret 200 a0 a1 a2 (0 : Int32) (μ) ha0 h)
