def fX6_takes (a0 : Int32) (a1 : Int32) (a2 : Int32) (a3 : Int32) (μ : zMem) : Option (Int32 × zMem) :=
  if a0 = (1 : Int32) then
    some (a2, μ)
  else
    if a0 = (2 : Int32) then
      some (a3, μ)
    else
      if a0 = (3 : Int32) then
        some (((a2 + a3) / (2 : Int32)), μ)
      else
        if a0 = (4 : Int32) then
          some ((((a2 + a3) / (2 : Int32)) + (1 : Int32)), μ)
        else
          if a0 = (5 : Int32) then
            if (50 : Int32) ≤ a1 then
              some (a3, μ)
            else
              some (a2, μ)
          else
            if a0 = (6 : Int32) then
              some (a2, μ)
            else
              some (((a2 + a3) / (2 : Int32)), μ)
set_option maxRecDepth 100000 in
set_option maxHeartbeats 4000000 in
theorem tX6_takes (g : zG) {a0 : Int32} {a1 : Int32} {a2 : Int32} {a3 : Int32} {μ : zMem} {Q : Int32 → zMem → Prop} (h : zok (fX6_takes a0 a1 a2 a3 μ) Q) : zTi g yX6_takes cX6_takes 4 .int 0 [.int a0, .int a1, .int a2, .int a3] μ Q := by
  refine zTi_of (P := fun r => True) zpi RX6 (by decide) rfl (Nat.le_of_ble_eq_true rfl) ?_
  intro κ X hret
  unfold fX6_takes at h
  refine zi_iload_n (pc' := 1) X dX6_takes_0 rfl rfl 0 rfl ?_
  by_cases c1 : a0 = (1 : Int32)
  · replace h := zok_t h c1
    refine zi_tabIn (pc' := 40) X c1 dX6_takes_1 ⟨by decide, rfl, rfl⟩ ?_
    refine zi_iload_n (pc' := 41) X dX6_takes_40 rfl rfl 2 rfl ?_
    exact hret _ _ _ _ dX6_takes_41 trivial h
  · replace h := zok_f h c1
    by_cases c2 : a0 = (2 : Int32)
    · replace h := zok_t h c2
      refine zi_tabIn (pc' := 42) X c2 dX6_takes_1 ⟨by decide, rfl, rfl⟩ ?_
      refine zi_iload_n (pc' := 43) X dX6_takes_42 rfl rfl 3 rfl ?_
      exact hret _ _ _ _ dX6_takes_43 trivial h
    · replace h := zok_f h c2
      by_cases c3 : a0 = (3 : Int32)
      · replace h := zok_t h c3
        refine zi_tabIn (pc' := 64) X c3 dX6_takes_1 ⟨by decide, rfl, rfl⟩ ?_
        refine zi_iload_n (pc' := 65) X dX6_takes_64 rfl rfl 2 rfl ?_
        refine zi_iload_n (pc' := 66) X dX6_takes_65 rfl rfl 3 rfl ?_
        refine zi_iadd (pc' := 67) X dX6_takes_66 rfl ?_
        refine zi_iconst (pc' := 68) (v := (2 : Int32)) X dX6_takes_67 rfl rfl ?_
        refine zi_idiv (pc' := 69) X dX6_takes_68 rfl (by decide) ?_
        exact hret _ _ _ _ dX6_takes_69 trivial h
      · replace h := zok_f h c3
        by_cases c4 : a0 = (4 : Int32)
        · replace h := zok_t h c4
          refine zi_tabIn (pc' := 44) X c4 dX6_takes_1 ⟨by decide, rfl, rfl⟩ ?_
          refine zi_iload_n (pc' := 45) X dX6_takes_44 rfl rfl 2 rfl ?_
          refine zi_iload_n (pc' := 46) X dX6_takes_45 rfl rfl 3 rfl ?_
          refine zi_iadd (pc' := 47) X dX6_takes_46 rfl ?_
          refine zi_iconst (pc' := 48) (v := (2 : Int32)) X dX6_takes_47 rfl rfl ?_
          refine zi_idiv (pc' := 49) X dX6_takes_48 rfl (by decide) ?_
          refine zi_iconst (pc' := 50) (v := (1 : Int32)) X dX6_takes_49 rfl rfl ?_
          refine zi_iadd (pc' := 51) X dX6_takes_50 rfl ?_
          exact hret _ _ _ _ dX6_takes_51 trivial h
        · replace h := zok_f h c4
          by_cases c5 : a0 = (5 : Int32)
          · replace h := zok_t h c5
            refine zi_tabIn (pc' := 52) X c5 dX6_takes_1 ⟨by decide, rfl, rfl⟩ ?_
            refine zi_iload_n (pc' := 53) X dX6_takes_52 rfl rfl 1 rfl ?_
            refine zi_bipush (pc' := 55) (v := (50 : Int32)) X dX6_takes_53 rfl rfl ?_
            refine zi_icmp_ge (pc' := 58) (tgt := 62) X dX6_takes_55 rfl rfl (fun c => ?_) (fun c => ?_)
            · replace h := zok_t h c
              refine zi_iload_n (pc' := 63) X dX6_takes_62 rfl rfl 3 rfl ?_
              exact hret _ _ _ _ dX6_takes_63 trivial h
            · replace h := zok_f h c
              refine zi_iload_n (pc' := 59) X dX6_takes_58 rfl rfl 2 rfl ?_
              refine zi_goto (pc' := 63) X dX6_takes_59 rfl ?_
              exact hret _ _ _ _ dX6_takes_63 trivial h
          · replace h := zok_f h c5
            by_cases c6 : a0 = (6 : Int32)
            · replace h := zok_t h c6
              refine zi_tabIn (pc' := 40) X c6 dX6_takes_1 ⟨by decide, rfl, rfl⟩ ?_
              refine zi_iload_n (pc' := 41) X dX6_takes_40 rfl rfl 2 rfl ?_
              exact hret _ _ _ _ dX6_takes_41 trivial h
            · replace h := zok_f h c6
              have e0 := zne (1) rfl c1
              have e1 := zne (2) rfl c2
              have e2 := zne (3) rfl c3
              have e3 := zne (4) rfl c4
              have e4 := zne (5) rfl c5
              have e5 := zne (6) rfl c6
              refine zi_tabOut (pc' := 64) X (by omega) dX6_takes_1 rfl ?_
              refine zi_iload_n (pc' := 65) X dX6_takes_64 rfl rfl 2 rfl ?_
              refine zi_iload_n (pc' := 66) X dX6_takes_65 rfl rfl 3 rfl ?_
              refine zi_iadd (pc' := 67) X dX6_takes_66 rfl ?_
              refine zi_iconst (pc' := 68) (v := (2 : Int32)) X dX6_takes_67 rfl rfl ?_
              refine zi_idiv (pc' := 69) X dX6_takes_68 rfl (by decide) ?_
              exact hret _ _ _ _ dX6_takes_69 trivial h
def fX6_tear (a0 : Nat) (μ : zMem) : Option (Int32 × zMem) :=
  if (μ a0 3) = 0 then
    some ((0 : Int32), (zst μ a0 3 (0 : Int32)))
  else
    some ((1 : Int32), (zst μ a0 3 (0 : Int32)))
set_option maxRecDepth 100000 in
set_option maxHeartbeats 4000000 in
theorem tX6_tear (g : zG) {a0 : Nat} {μ : zMem} {Q : Int32 → zMem → Prop} (ha0 : zkd a0 = 6) (h : zok (fX6_tear a0 μ) Q) : zTi g yX6_tear cX6_tear 2 .int 0 [.ref (zad g a0)] μ Q := by
  refine zTi_of (P := fun r => True) zpi RX6 (by decide) rfl (Nat.le_of_ble_eq_true rfl) ?_
  intro κ X hret
  unfold fX6_tear at h
  refine zi_aload_n (pc' := 1) X dX6_tear_0 rfl rfl 0 rfl ?_
  refine zi_geti (pc' := 4) X zf_X6_341 rfl (by decide) ha0 dX6_tear_1 rfl ?_
  refine zi_if_eq (pc' := 7) (tgt := 11) X dX6_tear_4 rfl rfl (fun c => ?_) (fun c => ?_)
  · replace h := zok_t h c
    refine zi_iconst (pc' := 12) (v := (0 : Int32)) X dX6_tear_11 rfl rfl ?_
    refine zi_istore_n (pc' := 13) X dX6_tear_12 rfl rfl (by decide) [(1, .int (0 : Int32)), (0, .ref (zad g a0))] rfl ?_
    refine zi_aload_n (pc' := 14) X dX6_tear_13 rfl rfl 1 rfl ?_
    refine zi_iconst (pc' := 15) (v := (0 : Int32)) X dX6_tear_14 rfl rfl ?_
    refine zi_put (pc' := 18) X zf_X6_341 zw_6_3 rfl (by decide) ha0 (zpb _ (by decide)) (zpf (by decide)) dX6_tear_15 rfl ?_
    refine zi_iload_n (pc' := 19) X dX6_tear_18 rfl rfl 0 rfl ?_
    exact hret _ _ _ _ dX6_tear_19 trivial h
  · replace h := zok_f h c
    refine zi_iconst (pc' := 8) (v := (1 : Int32)) X dX6_tear_7 rfl rfl ?_
    refine zi_goto (pc' := 12) X dX6_tear_8 rfl ?_
    refine zi_istore_n (pc' := 13) X dX6_tear_12 rfl rfl (by decide) [(1, .int (1 : Int32)), (0, .ref (zad g a0))] rfl ?_
    refine zi_aload_n (pc' := 14) X dX6_tear_13 rfl rfl 1 rfl ?_
    refine zi_iconst (pc' := 15) (v := (0 : Int32)) X dX6_tear_14 rfl rfl ?_
    refine zi_put (pc' := 18) X zf_X6_341 zw_6_3 rfl (by decide) ha0 (zpb _ (by decide)) (zpf (by decide)) dX6_tear_15 rfl ?_
    refine zi_iload_n (pc' := 19) X dX6_tear_18 rfl rfl 0 rfl ?_
    exact hret _ _ _ _ dX6_tear_19 trivial h
def fX6_wipe (a0 : Nat) (μ : zMem) : Option (Int32 × zMem) :=
  some ((μ a0 8), (zst μ a0 8 (0 : Int32)))
set_option maxRecDepth 100000 in
set_option maxHeartbeats 4000000 in
theorem tX6_wipe (g : zG) {a0 : Nat} {μ : zMem} {Q : Int32 → zMem → Prop} (ha0 : zkd a0 = 6) (h : zok (fX6_wipe a0 μ) Q) : zTi g yX6_wipe cX6_wipe 2 .int 0 [.ref (zad g a0)] μ Q := by
  refine zTi_of (P := fun r => True) zpi RX6 (by decide) rfl (Nat.le_of_ble_eq_true rfl) ?_
  intro κ X hret
  unfold fX6_wipe at h
  refine zi_aload_n (pc' := 1) X dX6_wipe_0 rfl rfl 0 rfl ?_
  refine zi_geti (pc' := 4) X zf_X6_245 rfl (by decide) ha0 dX6_wipe_1 rfl ?_
  refine zi_istore_n (pc' := 5) X dX6_wipe_4 rfl rfl (by decide) [(1, .int (μ a0 8)), (0, .ref (zad g a0))] rfl ?_
  refine zi_aload_n (pc' := 6) X dX6_wipe_5 rfl rfl 1 rfl ?_
  refine zi_iconst (pc' := 7) (v := (0 : Int32)) X dX6_wipe_6 rfl rfl ?_
  refine zi_put (pc' := 10) X zf_X6_245 zw_6_8 rfl (by decide) ha0 rfl rfl dX6_wipe_7 rfl ?_
  refine zi_iload_n (pc' := 11) X dX6_wipe_10 rfl rfl 0 rfl ?_
  exact hret _ _ _ _ dX6_wipe_11 trivial h
def fX6_adds_40 : Nat → Nat → Int32 → Int32 → zMem → Option (Int32 × zMem)
  | 0, _, _, _, _ => none
  | n + 1, a0, a2, a3, μ =>
    if (4 : Int32) ≤ a3 then
      some (a2, μ)
    else
      zbd (fX6_sets a0 a2 ((4 : Int32) + a3) (-1 : Int32) μ) fun _ m13 =>
      fX6_adds_40 n a0 a2 (a3 + (1 : Int32)) m13
set_option maxRecDepth 100000 in
theorem lX6_adds_40 {g : zG} {κ : zK} (X : zC g κ RX6 cX6_adds 4 1) {Q : Int32 → zMem → Prop} (hret : ∀ pc lv r μ', decode cX6_adds pc = .ok (.ireturn, 1) → True → Q r μ' → zV g κ pc lv [.int r] μ') : ∀ (n : Nat) (a0 : Nat) (a2 : Int32) (a3 : Int32) (μ : zMem) (ha0 : zkd a0 = 6), zok (fX6_adds_40 n a0 a2 a3 μ) Q → zV g κ 40 [(0, .ref (zad g a0)), (2, .int a2), (3, .int a3)] [] μ := by
  intro n
  induction n with
  | zero =>
    intro a0 a2 a3 μ ha0 h
    exact h.elim
  | succ n ih =>
    intro a0 a2 a3 μ ha0 h
    rw [fX6_adds_40] at h
    refine zi_iload_n (pc' := 41) X dX6_adds_40 rfl rfl 2 rfl ?_
    refine zi_iconst (pc' := 42) (v := (4 : Int32)) X dX6_adds_41 rfl rfl ?_
    refine zi_icmp_ge (pc' := 45) (tgt := 60) X dX6_adds_42 rfl rfl (fun c => ?_) (fun c => ?_)
    · replace h := zok_t h c
      refine zi_iload_n (pc' := 61) X dX6_adds_60 rfl rfl 1 rfl ?_
      exact hret _ _ _ _ dX6_adds_61 trivial h
    · replace h := zok_f h c
      refine zi_aload_n (pc' := 46) X dX6_adds_45 rfl rfl 0 rfl ?_
      refine zi_iload_n (pc' := 47) X dX6_adds_46 rfl rfl 1 rfl ?_
      refine zi_iconst (pc' := 48) (v := (4 : Int32)) X dX6_adds_47 rfl rfl ?_
      refine zi_iload_n (pc' := 49) X dX6_adds_48 rfl rfl 2 rfl ?_
      refine zi_iadd (pc' := 50) X dX6_adds_49 rfl ?_
      refine zi_iconst (pc' := 51) (v := (-1 : Int32)) X dX6_adds_50 rfl rfl ?_
      refine zi_callVv (pc' := 54) X zl_X6_79 ha0 (by decide) [.int a2, .int ((4 : Int32) + a3), .int (-1 : Int32)] rfl rfl (by decide) (Nat.le_of_ble_eq_true rfl) dX6_adds_51 rfl (tX6_sets _ ha0 (zok_bd h (fun _ m13 h => ?_)))
      refine zi_iinc (pc' := 57) (v := (a3 + (1 : Int32))) X dX6_adds_54 rfl 2 rfl rfl (by decide) [(3, .int (a3 + (1 : Int32))), (0, .ref (zad g a0)), (2, .int a2)] rfl ?_
      refine zi_goto (pc' := 40) X dX6_adds_57 rfl ?_
      exact zi_sub X [1, 2, 0] _ rfl (ih a0 a2 (a3 + (1 : Int32)) (m13) ha0 h)
def fX6_adds (a0 : Nat) (a1 : Int32) (μ : zMem) : Option (Int32 × zMem) :=
  zgd (zib (2 : Int32) 87) (
  zgd (zib (2 : Int32) 87) (
  zgd (zib (2 : Int32) 87) (
  zbd (fX6_sets a0 (μ (a0 + 1) ((2 : Int32)).toNatClampNeg) (0 : Int32) a1 (zst μ (a0 + 1) ((2 : Int32)).toNatClampNeg ((μ (a0 + 1) ((2 : Int32)).toNatClampNeg) + (1 : Int32)))) fun _ m7 =>
  zbd (fX6_sets a0 (μ (a0 + 1) ((2 : Int32)).toNatClampNeg) (1 : Int32) (-1 : Int32) m7) fun _ m9 =>
  zbd (fX6_sets a0 (μ (a0 + 1) ((2 : Int32)).toNatClampNeg) (2 : Int32) (0 : Int32) m9) fun _ m11 =>
  fX6_adds_40 200 a0 (μ (a0 + 1) ((2 : Int32)).toNatClampNeg) (0 : Int32) m11)))
set_option maxRecDepth 100000 in
set_option maxHeartbeats 4000000 in
theorem tX6_adds (g : zG) {a0 : Nat} {a1 : Int32} {μ : zMem} {Q : Int32 → zMem → Prop} (ha0 : zkd a0 = 6) (h : zok (fX6_adds a0 a1 μ) Q) : zTi g yX6_adds cX6_adds 4 .int 1 [.ref (zad g a0), .int a1] μ Q := by
  refine zTi_of (P := fun r => True) zpi RX6 (by decide) rfl (Nat.le_of_ble_eq_true rfl) ?_
  intro κ X hret
  unfold fX6_adds at h
  refine zi_aload_n (pc' := 1) X dX6_adds_0 rfl rfl 0 rfl ?_
  refine zi_getr (pc' := 4) X zf_X6_9 rfl (by decide) ha0 dX6_adds_1 rfl ?_
  have f1 := zr_6_0 ha0
  refine zi_iconst (pc' := 5) (v := (2 : Int32)) X dX6_adds_4 rfl rfl ?_
  obtain ⟨g2, h⟩ := zok_g h
  refine zi_iald (pc' := 6) X f1.1 (by rw [f1.2]; exact g2) dX6_adds_5 rfl ?_
  refine zi_istore_n (pc' := 7) X dX6_adds_6 rfl rfl (by decide) [(2, .int (μ (a0 + 1) ((2 : Int32)).toNatClampNeg)), (0, .ref (zad g a0)), (1, .int a1)] rfl ?_
  refine zi_aload_n (pc' := 8) X dX6_adds_7 rfl rfl 1 rfl ?_
  refine zi_getr (pc' := 11) X zf_X6_9 rfl (by decide) ha0 dX6_adds_8 rfl ?_
  have f3 := zr_6_0 ha0
  refine zi_iconst (pc' := 12) (v := (2 : Int32)) X dX6_adds_11 rfl rfl ?_
  refine zi_dup2 (pc' := 13) X dX6_adds_12 rfl rfl rfl ?_
  obtain ⟨g4, h⟩ := zok_g h
  refine zi_iald (pc' := 14) X f3.1 (by rw [f3.2]; exact g4) dX6_adds_13 rfl ?_
  refine zi_iconst (pc' := 15) (v := (1 : Int32)) X dX6_adds_14 rfl rfl ?_
  refine zi_iadd (pc' := 16) X dX6_adds_15 rfl ?_
  obtain ⟨g5, h⟩ := zok_g h
  refine zi_iast (pc' := 17) X f3.1 (by rw [f3.2]; exact g5) dX6_adds_16 rfl ?_
  refine zi_aload_n (pc' := 18) X dX6_adds_17 rfl rfl 1 rfl ?_
  refine zi_iload_n (pc' := 19) X dX6_adds_18 rfl rfl 0 rfl ?_
  refine zi_iconst (pc' := 20) (v := (0 : Int32)) X dX6_adds_19 rfl rfl ?_
  refine zi_iload_n (pc' := 21) X dX6_adds_20 rfl rfl 2 rfl ?_
  refine zi_callVv (pc' := 24) X zl_X6_79 ha0 (by decide) [.int (μ (a0 + 1) ((2 : Int32)).toNatClampNeg), .int (0 : Int32), .int a1] rfl rfl (by decide) (Nat.le_of_ble_eq_true rfl) dX6_adds_21 rfl (tX6_sets _ ha0 (zok_bd h (fun _ m7 h => ?_)))
  refine zi_aload_n (pc' := 25) X dX6_adds_24 rfl rfl 1 rfl ?_
  refine zi_iload_n (pc' := 26) X dX6_adds_25 rfl rfl 0 rfl ?_
  refine zi_iconst (pc' := 27) (v := (1 : Int32)) X dX6_adds_26 rfl rfl ?_
  refine zi_iconst (pc' := 28) (v := (-1 : Int32)) X dX6_adds_27 rfl rfl ?_
  refine zi_callVv (pc' := 31) X zl_X6_79 ha0 (by decide) [.int (μ (a0 + 1) ((2 : Int32)).toNatClampNeg), .int (1 : Int32), .int (-1 : Int32)] rfl rfl (by decide) (Nat.le_of_ble_eq_true rfl) dX6_adds_28 rfl (tX6_sets _ ha0 (zok_bd h (fun _ m9 h => ?_)))
  refine zi_aload_n (pc' := 32) X dX6_adds_31 rfl rfl 1 rfl ?_
  refine zi_iload_n (pc' := 33) X dX6_adds_32 rfl rfl 0 rfl ?_
  refine zi_iconst (pc' := 34) (v := (2 : Int32)) X dX6_adds_33 rfl rfl ?_
  refine zi_iconst (pc' := 35) (v := (0 : Int32)) X dX6_adds_34 rfl rfl ?_
  refine zi_callVv (pc' := 38) X zl_X6_79 ha0 (by decide) [.int (μ (a0 + 1) ((2 : Int32)).toNatClampNeg), .int (2 : Int32), .int (0 : Int32)] rfl rfl (by decide) (Nat.le_of_ble_eq_true rfl) dX6_adds_35 rfl (tX6_sets _ ha0 (zok_bd h (fun _ m11 h => ?_)))
  refine zi_iconst (pc' := 39) (v := (0 : Int32)) X dX6_adds_38 rfl rfl ?_
  refine zi_istore_n (pc' := 40) X dX6_adds_39 rfl rfl (by decide) [(3, .int (0 : Int32)), (2, .int (μ (a0 + 1) ((2 : Int32)).toNatClampNeg)), (0, .ref (zad g a0)), (1, .int a1)] rfl ?_
  exact zi_sub X [2, 1, 0] _ rfl (lX6_adds_40 X hret 200 a0 (μ (a0 + 1) ((2 : Int32)).toNatClampNeg) (0 : Int32) (m11) ha0 h)
def fX6_allWorn_4 : Nat → Nat → Int32 → Int32 → zMem → Option (Int32 × zMem)
  | 0, _, _, _, _ => none
  | n + 1, a0, a1, a2, μ =>
    zgd (zib (2 : Int32) 87) (
    if (μ (a0 + 1) ((2 : Int32)).toNatClampNeg) ≤ a2 then
      some (a1, μ)
    else
      zbd (fX6_its a0 a2 (2 : Int32) μ) fun r3 m4 =>
      fX6_allWorn_4 n a0 (a1 + r3) (a2 + (1 : Int32)) m4)
set_option maxRecDepth 100000 in
theorem lX6_allWorn_4 {g : zG} {κ : zK} (X : zC g κ RX6 cX6_allWorn 3 1) {Q : Int32 → zMem → Prop} (hret : ∀ pc lv r μ', decode cX6_allWorn pc = .ok (.ireturn, 1) → True → Q r μ' → zV g κ pc lv [.int r] μ') : ∀ (n : Nat) (a0 : Nat) (a1 : Int32) (a2 : Int32) (μ : zMem) (ha0 : zkd a0 = 6), zok (fX6_allWorn_4 n a0 a1 a2 μ) Q → zV g κ 4 [(0, .ref (zad g a0)), (1, .int a1), (2, .int a2)] [] μ := by
  intro n
  induction n with
  | zero =>
    intro a0 a1 a2 μ ha0 h
    exact h.elim
  | succ n ih =>
    intro a0 a1 a2 μ ha0 h
    rw [fX6_allWorn_4] at h
    refine zi_iload_n (pc' := 5) X dX6_allWorn_4 rfl rfl 2 rfl ?_
    refine zi_aload_n (pc' := 6) X dX6_allWorn_5 rfl rfl 0 rfl ?_
    refine zi_getr (pc' := 9) X zf_X6_9 rfl (by decide) ha0 dX6_allWorn_6 rfl ?_
    have f1 := zr_6_0 ha0
    refine zi_iconst (pc' := 10) (v := (2 : Int32)) X dX6_allWorn_9 rfl rfl ?_
    obtain ⟨g2, h⟩ := zok_g h
    refine zi_iald (pc' := 11) X f1.1 (by rw [f1.2]; exact g2) dX6_allWorn_10 rfl ?_
    refine zi_icmp_ge (pc' := 14) (tgt := 29) X dX6_allWorn_11 rfl rfl (fun c => ?_) (fun c => ?_)
    · replace h := zok_t h c
      refine zi_iload_n (pc' := 30) X dX6_allWorn_29 rfl rfl 1 rfl ?_
      exact hret _ _ _ _ dX6_allWorn_30 trivial h
    · replace h := zok_f h c
      refine zi_iload_n (pc' := 15) X dX6_allWorn_14 rfl rfl 1 rfl ?_
      refine zi_aload_n (pc' := 16) X dX6_allWorn_15 rfl rfl 0 rfl ?_
      refine zi_iload_n (pc' := 17) X dX6_allWorn_16 rfl rfl 2 rfl ?_
      refine zi_iconst (pc' := 18) (v := (2 : Int32)) X dX6_allWorn_17 rfl rfl ?_
      refine zi_callVi (pc' := 21) X zl_X6_76 ha0 (by decide) [.int a2, .int (2 : Int32)] rfl rfl (by decide) (Nat.le_of_ble_eq_true rfl) dX6_allWorn_18 rfl (tX6_its _ ha0 (zok_bd h (fun r3 m4 h => ?_)))
      refine zi_iadd (pc' := 22) X dX6_allWorn_21 rfl ?_
      refine zi_istore_n (pc' := 23) X dX6_allWorn_22 rfl rfl (by decide) [(1, .int (a1 + r3)), (0, .ref (zad g a0)), (2, .int a2)] rfl ?_
      refine zi_iinc (pc' := 26) (v := (a2 + (1 : Int32))) X dX6_allWorn_23 rfl 2 rfl rfl (by decide) [(2, .int (a2 + (1 : Int32))), (1, .int (a1 + r3)), (0, .ref (zad g a0))] rfl ?_
      refine zi_goto (pc' := 4) X dX6_allWorn_26 rfl ?_
      exact zi_sub X [2, 1, 0] _ rfl (ih a0 (a1 + r3) (a2 + (1 : Int32)) (m4) ha0 h)
def fX6_allWorn (a0 : Nat) (μ : zMem) : Option (Int32 × zMem) :=
  fX6_allWorn_4 200 a0 (0 : Int32) (0 : Int32) μ
set_option maxRecDepth 100000 in
set_option maxHeartbeats 4000000 in
theorem tX6_allWorn (g : zG) {a0 : Nat} {μ : zMem} {Q : Int32 → zMem → Prop} (ha0 : zkd a0 = 6) (h : zok (fX6_allWorn a0 μ) Q) : zTi g yX6_allWorn cX6_allWorn 3 .int 1 [.ref (zad g a0)] μ Q := by
  refine zTi_of (P := fun r => True) zpi RX6 (by decide) rfl (Nat.le_of_ble_eq_true rfl) ?_
  intro κ X hret
  unfold fX6_allWorn at h
  refine zi_iconst (pc' := 1) (v := (0 : Int32)) X dX6_allWorn_0 rfl rfl ?_
  refine zi_istore_n (pc' := 2) X dX6_allWorn_1 rfl rfl (by decide) [(1, .int (0 : Int32)), (0, .ref (zad g a0))] rfl ?_
  refine zi_iconst (pc' := 3) (v := (0 : Int32)) X dX6_allWorn_2 rfl rfl ?_
  refine zi_istore_n (pc' := 4) X dX6_allWorn_3 rfl rfl (by decide) [(2, .int (0 : Int32)), (1, .int (0 : Int32)), (0, .ref (zad g a0))] rfl ?_
  exact zi_sub X [2, 1, 0] _ rfl (lX6_allWorn_4 X hret 200 a0 (0 : Int32) (0 : Int32) (μ) ha0 h)
def fX6_areBeside (a0 : Int32) (a1 : Int32) (μ : zMem) : Option (Int32 × zMem) :=
  if ((if 0 ≤ ((a0 / (5 : Int32)) - (a1 / (5 : Int32))) then ((a0 / (5 : Int32)) - (a1 / (5 : Int32))) else 0 - ((a0 / (5 : Int32)) - (a1 / (5 : Int32)))) + (if 0 ≤ ((a0 - a0 / (5 : Int32) * (5 : Int32)) - (a1 - a1 / (5 : Int32) * (5 : Int32))) then ((a0 - a0 / (5 : Int32) * (5 : Int32)) - (a1 - a1 / (5 : Int32) * (5 : Int32))) else 0 - ((a0 - a0 / (5 : Int32) * (5 : Int32)) - (a1 - a1 / (5 : Int32) * (5 : Int32))))) = (1 : Int32) then
    some ((1 : Int32), μ)
  else
    some ((0 : Int32), μ)
set_option maxRecDepth 100000 in
set_option maxHeartbeats 4000000 in
theorem tX6_areBeside (g : zG) {a0 : Int32} {a1 : Int32} {μ : zMem} {Q : Int32 → zMem → Prop} (h : zok (fX6_areBeside a0 a1 μ) Q) : zTi g yX6_areBeside cX6_areBeside 2 .boolean 1 [.int a0, .int a1] μ Q := by
  refine zTi_of (P := fun r => r = 0 ∨ r = 1) zpb RX6 (by decide) rfl (Nat.le_of_ble_eq_true rfl) ?_
  intro κ X hret
  unfold fX6_areBeside at h
  refine zi_iload_n (pc' := 1) X dX6_areBeside_0 rfl rfl 0 rfl ?_
  refine zi_iconst (pc' := 2) (v := (5 : Int32)) X dX6_areBeside_1 rfl rfl ?_
  refine zi_idiv (pc' := 3) X dX6_areBeside_2 rfl (by decide) ?_
  refine zi_iload_n (pc' := 4) X dX6_areBeside_3 rfl rfl 1 rfl ?_
  refine zi_iconst (pc' := 5) (v := (5 : Int32)) X dX6_areBeside_4 rfl rfl ?_
  refine zi_idiv (pc' := 6) X dX6_areBeside_5 rfl (by decide) ?_
  refine zi_isub (pc' := 7) X dX6_areBeside_6 rfl ?_
  refine zi_mabs (pc' := 10) X zl_X6_67 (Nat.le_of_ble_eq_true rfl) (by decide) dX6_areBeside_7 rfl ?_
  refine zi_iload_n (pc' := 11) X dX6_areBeside_10 rfl rfl 0 rfl ?_
  refine zi_iconst (pc' := 12) (v := (5 : Int32)) X dX6_areBeside_11 rfl rfl ?_
  refine zi_irem (pc' := 13) X dX6_areBeside_12 rfl (by decide) ?_
  refine zi_iload_n (pc' := 14) X dX6_areBeside_13 rfl rfl 1 rfl ?_
  refine zi_iconst (pc' := 15) (v := (5 : Int32)) X dX6_areBeside_14 rfl rfl ?_
  refine zi_irem (pc' := 16) X dX6_areBeside_15 rfl (by decide) ?_
  refine zi_isub (pc' := 17) X dX6_areBeside_16 rfl ?_
  refine zi_mabs (pc' := 20) X zl_X6_67 (Nat.le_of_ble_eq_true rfl) (by decide) dX6_areBeside_17 rfl ?_
  refine zi_iadd (pc' := 21) X dX6_areBeside_20 rfl ?_
  refine zi_iconst (pc' := 22) (v := (1 : Int32)) X dX6_areBeside_21 rfl rfl ?_
  refine zi_icmp_ne (pc' := 25) (tgt := 29) X dX6_areBeside_22 rfl rfl (fun c => ?_) (fun c => ?_)
  · replace h := zok_f h c
    refine zi_iconst (pc' := 30) (v := (0 : Int32)) X dX6_areBeside_29 rfl rfl ?_
    exact hret _ _ _ _ dX6_areBeside_30 (by decide) h
  · replace h := zok_t h c
    refine zi_iconst (pc' := 26) (v := (1 : Int32)) X dX6_areBeside_25 rfl rfl ?_
    refine zi_goto (pc' := 30) X dX6_areBeside_26 rfl ?_
    exact hret _ _ _ _ dX6_areBeside_30 (by decide) h
def fX6_covers_5 : Nat → Int32 → Int32 → Int32 → Int32 → zMem → Option (Int32 × zMem)
  | 0, _, _, _, _, _ => none
  | n + 1, a1, a2, a3, a4, μ =>
    if (4 : Int32) ≤ a4 then
      zgd (a3 = 0 ∨ a3 = 1) (
      some (a3, μ))
    else
      if a1 < 0 then
        zgd (a3 = 0 ∨ a3 = 1) (
        some (a3, μ))
      else
        if a3 = 0 then
          zbd (fX6_cellOf a1 a4 μ) fun r3 m4 =>
          if r3 = a2 then
            fX6_covers_5 n a1 a2 (1 : Int32) (a4 + (1 : Int32)) m4
          else
            fX6_covers_5 n a1 a2 (0 : Int32) (a4 + (1 : Int32)) m4
        else
          fX6_covers_5 n a1 a2 (1 : Int32) (a4 + (1 : Int32)) μ
set_option maxRecDepth 100000 in
theorem lX6_covers_5 {g : zG} {κ : zK} (X : zC g κ RX6 cX6_covers 5 1) {Q : Int32 → zMem → Prop} (hret : ∀ pc lv r μ', decode cX6_covers pc = .ok (.ireturn, 1) → (r = 0 ∨ r = 1) → Q r μ' → zV g κ pc lv [.int r] μ') : ∀ (n : Nat) (a1 : Int32) (a2 : Int32) (a3 : Int32) (a4 : Int32) (μ : zMem), zok (fX6_covers_5 n a1 a2 a3 a4 μ) Q → zV g κ 5 [(1, .int a1), (2, .int a2), (3, .int a3), (4, .int a4)] [] μ := by
  intro n
  induction n with
  | zero =>
    intro a1 a2 a3 a4 μ h
    exact h.elim
  | succ n ih =>
    intro a1 a2 a3 a4 μ h
    rw [fX6_covers_5] at h
    refine zi_iload (pc' := 7) X dX6_covers_5 rfl 3 rfl ?_
    refine zi_iconst (pc' := 8) (v := (4 : Int32)) X dX6_covers_7 rfl rfl ?_
    refine zi_icmp_ge (pc' := 11) (tgt := 41) X dX6_covers_8 rfl rfl (fun c => ?_) (fun c => ?_)
    · replace h := zok_t h c
      refine zi_iload_n (pc' := 42) X dX6_covers_41 rfl rfl 2 rfl ?_
      obtain ⟨g1, h⟩ := zok_g h
      exact hret _ _ _ _ dX6_covers_42 g1 h
    · replace h := zok_f h c
      refine zi_iload_n (pc' := 12) X dX6_covers_11 rfl rfl 0 rfl ?_
      refine zi_if_lt (pc' := 15) (tgt := 41) X dX6_covers_12 rfl rfl (fun c => ?_) (fun c => ?_)
      · replace h := zok_t h c
        refine zi_iload_n (pc' := 42) X dX6_covers_41 rfl rfl 2 rfl ?_
        obtain ⟨g2, h⟩ := zok_g h
        exact hret _ _ _ _ dX6_covers_42 g2 h
      · replace h := zok_f h c
        refine zi_iload_n (pc' := 16) X dX6_covers_15 rfl rfl 2 rfl ?_
        refine zi_if_ne (pc' := 19) (tgt := 29) X dX6_covers_16 rfl rfl (fun c => ?_) (fun c => ?_)
        · replace h := zok_f h c
          refine zi_iconst (pc' := 30) (v := (1 : Int32)) X dX6_covers_29 rfl rfl ?_
          refine zi_goto (pc' := 34) X dX6_covers_30 rfl ?_
          refine zi_istore_n (pc' := 35) X dX6_covers_34 rfl rfl (by decide) [(3, .int (1 : Int32)), (1, .int a1), (2, .int a2), (4, .int a4)] rfl ?_
          refine zi_iinc (pc' := 38) (v := (a4 + (1 : Int32))) X dX6_covers_35 rfl 3 rfl rfl (by decide) [(4, .int (a4 + (1 : Int32))), (3, .int (1 : Int32)), (1, .int a1), (2, .int a2)] rfl ?_
          refine zi_goto (pc' := 5) X dX6_covers_38 rfl ?_
          exact zi_sub X [2, 3, 1, 0] _ rfl (ih a1 a2 (1 : Int32) (a4 + (1 : Int32)) (μ) h)
        · replace h := zok_t h c
          refine zi_iload_n (pc' := 20) X dX6_covers_19 rfl rfl 0 rfl ?_
          refine zi_iload (pc' := 22) X dX6_covers_20 rfl 3 rfl ?_
          refine zi_callSi (pc' := 25) X zl_X6_103 [.int a1, .int a4] rfl rfl (by decide) (Nat.le_of_ble_eq_true rfl) dX6_covers_22 rfl (tX6_cellOf _ (zok_bd h (fun r3 m4 h => ?_)))
          refine zi_iload_n (pc' := 26) X dX6_covers_25 rfl rfl 1 rfl ?_
          refine zi_icmp_ne (pc' := 29) (tgt := 33) X dX6_covers_26 rfl rfl (fun c => ?_) (fun c => ?_)
          · replace h := zok_f h c
            refine zi_iconst (pc' := 34) (v := (0 : Int32)) X dX6_covers_33 rfl rfl ?_
            refine zi_istore_n (pc' := 35) X dX6_covers_34 rfl rfl (by decide) [(3, .int (0 : Int32)), (1, .int a1), (2, .int a2), (4, .int a4)] rfl ?_
            refine zi_iinc (pc' := 38) (v := (a4 + (1 : Int32))) X dX6_covers_35 rfl 3 rfl rfl (by decide) [(4, .int (a4 + (1 : Int32))), (3, .int (0 : Int32)), (1, .int a1), (2, .int a2)] rfl ?_
            refine zi_goto (pc' := 5) X dX6_covers_38 rfl ?_
            exact zi_sub X [2, 3, 1, 0] _ rfl (ih a1 a2 (0 : Int32) (a4 + (1 : Int32)) (m4) h)
          · replace h := zok_t h c
            refine zi_iconst (pc' := 30) (v := (1 : Int32)) X dX6_covers_29 rfl rfl ?_
            refine zi_goto (pc' := 34) X dX6_covers_30 rfl ?_
            refine zi_istore_n (pc' := 35) X dX6_covers_34 rfl rfl (by decide) [(3, .int (1 : Int32)), (1, .int a1), (2, .int a2), (4, .int a4)] rfl ?_
            refine zi_iinc (pc' := 38) (v := (a4 + (1 : Int32))) X dX6_covers_35 rfl 3 rfl rfl (by decide) [(4, .int (a4 + (1 : Int32))), (3, .int (1 : Int32)), (1, .int a1), (2, .int a2)] rfl ?_
            refine zi_goto (pc' := 5) X dX6_covers_38 rfl ?_
            exact zi_sub X [2, 3, 1, 0] _ rfl (ih a1 a2 (1 : Int32) (a4 + (1 : Int32)) (m4) h)
def fX6_covers (a0 : Nat) (a1 : Int32) (a2 : Int32) (μ : zMem) : Option (Int32 × zMem) :=
  fX6_covers_5 200 a1 a2 (0 : Int32) (0 : Int32) μ
set_option maxRecDepth 100000 in
set_option maxHeartbeats 4000000 in
theorem tX6_covers (g : zG) {a0 : Nat} {a1 : Int32} {a2 : Int32} {μ : zMem} {Q : Int32 → zMem → Prop} (ha0 : zkd a0 = 6) (h : zok (fX6_covers a0 a1 a2 μ) Q) : zTi g yX6_covers cX6_covers 5 .boolean 1 [.ref (zad g a0), .int a1, .int a2] μ Q := by
  refine zTi_of (P := fun r => r = 0 ∨ r = 1) zpb RX6 (by decide) rfl (Nat.le_of_ble_eq_true rfl) ?_
  intro κ X hret
  unfold fX6_covers at h
  refine zi_iconst (pc' := 1) (v := (0 : Int32)) X dX6_covers_0 rfl rfl ?_
  refine zi_istore_n (pc' := 2) X dX6_covers_1 rfl rfl (by decide) [(3, .int (0 : Int32)), (0, .ref (zad g a0)), (1, .int a1), (2, .int a2)] rfl ?_
  refine zi_iconst (pc' := 3) (v := (0 : Int32)) X dX6_covers_2 rfl rfl ?_
  refine zi_istore (pc' := 5) X dX6_covers_3 rfl (by decide) [(4, .int (0 : Int32)), (3, .int (0 : Int32)), (0, .ref (zad g a0)), (1, .int a1), (2, .int a2)] rfl ?_
  exact zi_sub X [3, 4, 1, 0] _ rfl (lX6_covers_5 X hret 200 a1 a2 (0 : Int32) (0 : Int32) (μ) h)
def fX6_dryPitches_15 (k4 : Nat → Int32 → Int32 → zMem → Option (Int32 × zMem)) : Nat → Nat → Int32 → Int32 → Int32 → Int32 → zMem → Option (Int32 × zMem)
  | 0, _, _, _, _, _, _ => none
  | n + 1, a0, a1, a2, a3, a4, μ =>
    if (4 : Int32) ≤ a4 then
      if a3 = 0 then
        k4 a0 (a1 + (0 : Int32)) (a2 + (1 : Int32)) μ
      else
        k4 a0 (a1 + (1 : Int32)) (a2 + (1 : Int32)) μ
    else
      if a3 = 0 then
        fX6_dryPitches_15 k4 n a0 a1 a2 (0 : Int32) (a4 + (1 : Int32)) μ
      else
        zbd (fX6_cellOf a2 a4 μ) fun r1 m2 =>
        zbd (fX6_hasSpring a0 r1 m2) fun r3 m4 =>
        if r3 = 0 then
          fX6_dryPitches_15 k4 n a0 a1 a2 (1 : Int32) (a4 + (1 : Int32)) m4
        else
          fX6_dryPitches_15 k4 n a0 a1 a2 (0 : Int32) (a4 + (1 : Int32)) m4
set_option maxRecDepth 100000 in
theorem lX6_dryPitches_15 {g : zG} {κ : zK} (X : zC g κ RX6 cX6_dryPitches 5 1) {Q : Int32 → zMem → Prop} (hret : ∀ pc lv r μ', decode cX6_dryPitches pc = .ok (.ireturn, 1) → True → Q r μ' → zV g κ pc lv [.int r] μ') {k4 : Nat → Int32 → Int32 → zMem → Option (Int32 × zMem)} (hk4 : ∀ (a0 : Nat) (a1 : Int32) (a2 : Int32) (μ : zMem) (_ : zkd a0 = 6), zok (k4 a0 a1 a2 μ) Q → zV g κ 4 [(0, .ref (zad g a0)), (1, .int a1), (2, .int a2)] [] μ) : ∀ (n : Nat) (a0 : Nat) (a1 : Int32) (a2 : Int32) (a3 : Int32) (a4 : Int32) (μ : zMem) (ha0 : zkd a0 = 6), zok (fX6_dryPitches_15 k4 n a0 a1 a2 a3 a4 μ) Q → zV g κ 15 [(0, .ref (zad g a0)), (1, .int a1), (2, .int a2), (3, .int a3), (4, .int a4)] [] μ := by
  intro n
  induction n with
  | zero =>
    intro a0 a1 a2 a3 a4 μ ha0 h
    exact h.elim
  | succ n ih =>
    intro a0 a1 a2 a3 a4 μ ha0 h
    rw [fX6_dryPitches_15] at h
    refine zi_iload (pc' := 17) X dX6_dryPitches_15 rfl 4 rfl ?_
    refine zi_iconst (pc' := 18) (v := (4 : Int32)) X dX6_dryPitches_17 rfl rfl ?_
    refine zi_icmp_ge (pc' := 21) (tgt := 50) X dX6_dryPitches_18 rfl rfl (fun c => ?_) (fun c => ?_)
    · replace h := zok_t h c
      refine zi_iload_n (pc' := 51) X dX6_dryPitches_50 rfl rfl 1 rfl ?_
      refine zi_iload_n (pc' := 52) X dX6_dryPitches_51 rfl rfl 3 rfl ?_
      refine zi_if_eq (pc' := 55) (tgt := 59) X dX6_dryPitches_52 rfl rfl (fun c => ?_) (fun c => ?_)
      · replace h := zok_t h c
        refine zi_iconst (pc' := 60) (v := (0 : Int32)) X dX6_dryPitches_59 rfl rfl ?_
        refine zi_iadd (pc' := 61) X dX6_dryPitches_60 rfl ?_
        refine zi_istore_n (pc' := 62) X dX6_dryPitches_61 rfl rfl (by decide) [(1, .int (a1 + (0 : Int32))), (0, .ref (zad g a0)), (2, .int a2), (3, .int a3), (4, .int a4)] rfl ?_
        refine zi_iinc (pc' := 65) (v := (a2 + (1 : Int32))) X dX6_dryPitches_62 rfl 2 rfl rfl (by decide) [(2, .int (a2 + (1 : Int32))), (1, .int (a1 + (0 : Int32))), (0, .ref (zad g a0)), (3, .int a3), (4, .int a4)] rfl ?_
        refine zi_goto (pc' := 4) X dX6_dryPitches_65 rfl ?_
        exact zi_sub X [2, 1, 0] _ rfl (hk4 a0 (a1 + (0 : Int32)) (a2 + (1 : Int32)) (μ) ha0 h)
      · replace h := zok_f h c
        refine zi_iconst (pc' := 56) (v := (1 : Int32)) X dX6_dryPitches_55 rfl rfl ?_
        refine zi_goto (pc' := 60) X dX6_dryPitches_56 rfl ?_
        refine zi_iadd (pc' := 61) X dX6_dryPitches_60 rfl ?_
        refine zi_istore_n (pc' := 62) X dX6_dryPitches_61 rfl rfl (by decide) [(1, .int (a1 + (1 : Int32))), (0, .ref (zad g a0)), (2, .int a2), (3, .int a3), (4, .int a4)] rfl ?_
        refine zi_iinc (pc' := 65) (v := (a2 + (1 : Int32))) X dX6_dryPitches_62 rfl 2 rfl rfl (by decide) [(2, .int (a2 + (1 : Int32))), (1, .int (a1 + (1 : Int32))), (0, .ref (zad g a0)), (3, .int a3), (4, .int a4)] rfl ?_
        refine zi_goto (pc' := 4) X dX6_dryPitches_65 rfl ?_
        exact zi_sub X [2, 1, 0] _ rfl (hk4 a0 (a1 + (1 : Int32)) (a2 + (1 : Int32)) (μ) ha0 h)
    · replace h := zok_f h c
      refine zi_iload_n (pc' := 22) X dX6_dryPitches_21 rfl rfl 3 rfl ?_
      refine zi_if_eq (pc' := 25) (tgt := 42) X dX6_dryPitches_22 rfl rfl (fun c => ?_) (fun c => ?_)
      · replace h := zok_t h c
        refine zi_iconst (pc' := 43) (v := (0 : Int32)) X dX6_dryPitches_42 rfl rfl ?_
        refine zi_istore_n (pc' := 44) X dX6_dryPitches_43 rfl rfl (by decide) [(3, .int (0 : Int32)), (0, .ref (zad g a0)), (1, .int a1), (2, .int a2), (4, .int a4)] rfl ?_
        refine zi_iinc (pc' := 47) (v := (a4 + (1 : Int32))) X dX6_dryPitches_44 rfl 4 rfl rfl (by decide) [(4, .int (a4 + (1 : Int32))), (3, .int (0 : Int32)), (0, .ref (zad g a0)), (1, .int a1), (2, .int a2)] rfl ?_
        refine zi_goto (pc' := 15) X dX6_dryPitches_47 rfl ?_
        exact zi_sub X [2, 3, 4, 1, 0] _ rfl (ih a0 a1 a2 (0 : Int32) (a4 + (1 : Int32)) (μ) ha0 h)
      · replace h := zok_f h c
        refine zi_aload_n (pc' := 26) X dX6_dryPitches_25 rfl rfl 0 rfl ?_
        refine zi_iload_n (pc' := 27) X dX6_dryPitches_26 rfl rfl 2 rfl ?_
        refine zi_iload (pc' := 29) X dX6_dryPitches_27 rfl 4 rfl ?_
        refine zi_callSi (pc' := 32) X zl_X6_103 [.int a2, .int a4] rfl rfl (by decide) (Nat.le_of_ble_eq_true rfl) dX6_dryPitches_29 rfl (tX6_cellOf _ (zok_bd h (fun r1 m2 h => ?_)))
        refine zi_callVi (pc' := 35) X zl_X6_96 ha0 (by decide) [.int r1] rfl rfl (by decide) (Nat.le_of_ble_eq_true rfl) dX6_dryPitches_32 rfl (tX6_hasSpring _ ha0 (zok_bd h (fun r3 m4 h => ?_)))
        refine zi_if_ne (pc' := 38) (tgt := 42) X dX6_dryPitches_35 rfl rfl (fun c => ?_) (fun c => ?_)
        · replace h := zok_f h c
          refine zi_iconst (pc' := 43) (v := (0 : Int32)) X dX6_dryPitches_42 rfl rfl ?_
          refine zi_istore_n (pc' := 44) X dX6_dryPitches_43 rfl rfl (by decide) [(3, .int (0 : Int32)), (0, .ref (zad g a0)), (1, .int a1), (2, .int a2), (4, .int a4)] rfl ?_
          refine zi_iinc (pc' := 47) (v := (a4 + (1 : Int32))) X dX6_dryPitches_44 rfl 4 rfl rfl (by decide) [(4, .int (a4 + (1 : Int32))), (3, .int (0 : Int32)), (0, .ref (zad g a0)), (1, .int a1), (2, .int a2)] rfl ?_
          refine zi_goto (pc' := 15) X dX6_dryPitches_47 rfl ?_
          exact zi_sub X [2, 3, 4, 1, 0] _ rfl (ih a0 a1 a2 (0 : Int32) (a4 + (1 : Int32)) (m4) ha0 h)
        · replace h := zok_t h c
          refine zi_iconst (pc' := 39) (v := (1 : Int32)) X dX6_dryPitches_38 rfl rfl ?_
          refine zi_goto (pc' := 43) X dX6_dryPitches_39 rfl ?_
          refine zi_istore_n (pc' := 44) X dX6_dryPitches_43 rfl rfl (by decide) [(3, .int (1 : Int32)), (0, .ref (zad g a0)), (1, .int a1), (2, .int a2), (4, .int a4)] rfl ?_
          refine zi_iinc (pc' := 47) (v := (a4 + (1 : Int32))) X dX6_dryPitches_44 rfl 4 rfl rfl (by decide) [(4, .int (a4 + (1 : Int32))), (3, .int (1 : Int32)), (0, .ref (zad g a0)), (1, .int a1), (2, .int a2)] rfl ?_
          refine zi_goto (pc' := 15) X dX6_dryPitches_47 rfl ?_
          exact zi_sub X [2, 3, 4, 1, 0] _ rfl (ih a0 a1 a2 (1 : Int32) (a4 + (1 : Int32)) (m4) ha0 h)
def fX6_dryPitches_4 : Nat → Nat → Int32 → Int32 → zMem → Option (Int32 × zMem)
  | 0, _, _, _, _ => none
  | n + 1, a0, a1, a2, μ =>
    if (16 : Int32) ≤ a2 then
      some (a1, μ)
    else
      fX6_dryPitches_15 (fX6_dryPitches_4 n) 200 a0 a1 a2 (1 : Int32) (0 : Int32) μ
set_option maxRecDepth 100000 in
theorem lX6_dryPitches_4 {g : zG} {κ : zK} (X : zC g κ RX6 cX6_dryPitches 5 1) {Q : Int32 → zMem → Prop} (hret : ∀ pc lv r μ', decode cX6_dryPitches pc = .ok (.ireturn, 1) → True → Q r μ' → zV g κ pc lv [.int r] μ') : ∀ (n : Nat) (a0 : Nat) (a1 : Int32) (a2 : Int32) (μ : zMem) (ha0 : zkd a0 = 6), zok (fX6_dryPitches_4 n a0 a1 a2 μ) Q → zV g κ 4 [(0, .ref (zad g a0)), (1, .int a1), (2, .int a2)] [] μ := by
  intro n
  induction n with
  | zero =>
    intro a0 a1 a2 μ ha0 h
    exact h.elim
  | succ n ih =>
    intro a0 a1 a2 μ ha0 h
    rw [fX6_dryPitches_4] at h
    refine zi_iload_n (pc' := 5) X dX6_dryPitches_4 rfl rfl 2 rfl ?_
    refine zi_bipush (pc' := 7) (v := (16 : Int32)) X dX6_dryPitches_5 rfl rfl ?_
    refine zi_icmp_ge (pc' := 10) (tgt := 68) X dX6_dryPitches_7 rfl rfl (fun c => ?_) (fun c => ?_)
    · replace h := zok_t h c
      refine zi_iload_n (pc' := 69) X dX6_dryPitches_68 rfl rfl 1 rfl ?_
      exact hret _ _ _ _ dX6_dryPitches_69 trivial h
    · replace h := zok_f h c
      refine zi_iconst (pc' := 11) (v := (1 : Int32)) X dX6_dryPitches_10 rfl rfl ?_
      refine zi_istore_n (pc' := 12) X dX6_dryPitches_11 rfl rfl (by decide) [(3, .int (1 : Int32)), (0, .ref (zad g a0)), (1, .int a1), (2, .int a2)] rfl ?_
      refine zi_iconst (pc' := 13) (v := (0 : Int32)) X dX6_dryPitches_12 rfl rfl ?_
      refine zi_istore (pc' := 15) X dX6_dryPitches_13 rfl (by decide) [(4, .int (0 : Int32)), (3, .int (1 : Int32)), (0, .ref (zad g a0)), (1, .int a1), (2, .int a2)] rfl ?_
      exact zi_sub X [2, 3, 4, 1, 0] _ rfl (lX6_dryPitches_15 X hret ih 200 a0 a1 a2 (1 : Int32) (0 : Int32) (μ) ha0 h)
def fX6_dryPitches (a0 : Nat) (μ : zMem) : Option (Int32 × zMem) :=
  fX6_dryPitches_4 200 a0 (0 : Int32) (0 : Int32) μ
set_option maxRecDepth 100000 in
set_option maxHeartbeats 4000000 in
theorem tX6_dryPitches (g : zG) {a0 : Nat} {μ : zMem} {Q : Int32 → zMem → Prop} (ha0 : zkd a0 = 6) (h : zok (fX6_dryPitches a0 μ) Q) : zTi g yX6_dryPitches cX6_dryPitches 5 .int 1 [.ref (zad g a0)] μ Q := by
  refine zTi_of (P := fun r => True) zpi RX6 (by decide) rfl (Nat.le_of_ble_eq_true rfl) ?_
  intro κ X hret
  unfold fX6_dryPitches at h
  refine zi_iconst (pc' := 1) (v := (0 : Int32)) X dX6_dryPitches_0 rfl rfl ?_
  refine zi_istore_n (pc' := 2) X dX6_dryPitches_1 rfl rfl (by decide) [(1, .int (0 : Int32)), (0, .ref (zad g a0))] rfl ?_
  refine zi_iconst (pc' := 3) (v := (0 : Int32)) X dX6_dryPitches_2 rfl rfl ?_
  refine zi_istore_n (pc' := 4) X dX6_dryPitches_3 rfl rfl (by decide) [(2, .int (0 : Int32)), (1, .int (0 : Int32)), (0, .ref (zad g a0))] rfl ?_
  exact zi_sub X [2, 1, 0] _ rfl (lX6_dryPitches_4 X hret 200 a0 (0 : Int32) (0 : Int32) (μ) ha0 h)
def fX6_feed_39 : Nat → Nat → Int32 → Int32 → zMem → Option (Int32 × zMem)
  | 0, _, _, _, _ => none
  | n + 1, a0, a1, a3, μ =>
    if a3 < 0 then
      some ((μ a0 8), μ)
    else
      zgd (zib (μ a0 8) 120) (
      fX6_feed_39 n a0 a1 (a3 + (-1 : Int32)) (zst (zst μ (a0 + 7) ((μ a0 8)).toNatClampNeg ((a1 >>> (((8 : Int32) * a3) &&& 31)) &&& (255 : Int32))) a0 8 (((zst μ (a0 + 7) ((μ a0 8)).toNatClampNeg ((a1 >>> (((8 : Int32) * a3) &&& 31)) &&& (255 : Int32))) a0 8) + (1 : Int32))))
set_option maxRecDepth 100000 in
theorem lX6_feed_39 {g : zG} {κ : zK} (X : zC g κ RX6 cX6_feed 4 1) {Q : Int32 → zMem → Prop} (hret : ∀ pc lv r μ', decode cX6_feed pc = .ok (.ireturn, 1) → True → Q r μ' → zV g κ pc lv [.int r] μ') : ∀ (n : Nat) (a0 : Nat) (a1 : Int32) (a3 : Int32) (μ : zMem) (ha0 : zkd a0 = 6), zok (fX6_feed_39 n a0 a1 a3 μ) Q → zV g κ 39 [(0, .ref (zad g a0)), (1, .int a1), (3, .int a3)] [] μ := by
  intro n
  induction n with
  | zero =>
    intro a0 a1 a3 μ ha0 h
    exact h.elim
  | succ n ih =>
    intro a0 a1 a3 μ ha0 h
    rw [fX6_feed_39] at h
    refine zi_iload_n (pc' := 40) X dX6_feed_39 rfl rfl 2 rfl ?_
    refine zi_if_lt (pc' := 43) (tgt := 78) X dX6_feed_40 rfl rfl (fun c => ?_) (fun c => ?_)
    · replace h := zok_t h c
      refine zi_aload_n (pc' := 79) X dX6_feed_78 rfl rfl 0 rfl ?_
      refine zi_geti (pc' := 82) X zf_X6_245 rfl (by decide) ha0 dX6_feed_79 rfl ?_
      exact hret _ _ _ _ dX6_feed_82 trivial h
    · replace h := zok_f h c
      refine zi_aload_n (pc' := 44) X dX6_feed_43 rfl rfl 0 rfl ?_
      refine zi_getr (pc' := 47) X zf_X6_28 rfl (by decide) ha0 dX6_feed_44 rfl ?_
      have f3 := zr_6_7 ha0
      refine zi_aload_n (pc' := 48) X dX6_feed_47 rfl rfl 0 rfl ?_
      refine zi_geti (pc' := 51) X zf_X6_245 rfl (by decide) ha0 dX6_feed_48 rfl ?_
      refine zi_iload_n (pc' := 52) X dX6_feed_51 rfl rfl 1 rfl ?_
      refine zi_bipush (pc' := 54) (v := (8 : Int32)) X dX6_feed_52 rfl rfl ?_
      refine zi_iload_n (pc' := 55) X dX6_feed_54 rfl rfl 2 rfl ?_
      refine zi_imul (pc' := 56) X dX6_feed_55 rfl ?_
      refine zi_ishr (pc' := 57) X dX6_feed_56 rfl ?_
      refine zi_sipush (pc' := 60) (v := (255 : Int32)) X dX6_feed_57 rfl rfl ?_
      refine zi_iand (pc' := 61) X dX6_feed_60 rfl ?_
      obtain ⟨g4, h⟩ := zok_g h
      refine zi_iast (pc' := 62) X f3.1 (by rw [f3.2]; exact g4) dX6_feed_61 rfl ?_
      refine zi_aload_n (pc' := 63) X dX6_feed_62 rfl rfl 0 rfl ?_
      refine zi_dup (pc' := 64) X dX6_feed_63 rfl rfl ?_
      refine zi_geti (pc' := 67) X zf_X6_245 rfl (by decide) ha0 dX6_feed_64 rfl ?_
      refine zi_iconst (pc' := 68) (v := (1 : Int32)) X dX6_feed_67 rfl rfl ?_
      refine zi_iadd (pc' := 69) X dX6_feed_68 rfl ?_
      refine zi_put (pc' := 72) X zf_X6_245 zw_6_8 rfl (by decide) ha0 rfl rfl dX6_feed_69 rfl ?_
      refine zi_iinc (pc' := 75) (v := (a3 + (-1 : Int32))) X dX6_feed_72 rfl 2 rfl rfl (by decide) [(3, .int (a3 + (-1 : Int32))), (0, .ref (zad g a0)), (1, .int a1)] rfl ?_
      refine zi_goto (pc' := 39) X dX6_feed_75 rfl ?_
      exact zi_sub X [1, 2, 0] _ rfl (ih a0 a1 (a3 + (-1 : Int32)) ((zst (zst μ (a0 + 7) ((μ a0 8)).toNatClampNeg ((a1 >>> (((8 : Int32) * a3) &&& 31)) &&& (255 : Int32))) a0 8 (((zst μ (a0 + 7) ((μ a0 8)).toNatClampNeg ((a1 >>> (((8 : Int32) * a3) &&& 31)) &&& (255 : Int32))) a0 8) + (1 : Int32)))) ha0 h)
def fX6_feed (a0 : Nat) (a1 : Int32) (a2 : Int32) (μ : zMem) : Option (Int32 × zMem) :=
  zbd (fX6_in ((a2).toInt64) (1 : Int64) (4 : Int64) μ) fun r1 m2 =>
  if r1 = 0 then
    zbd (fX6_finds a0 (0 : Int32) m2) fun r7 m8 =>
    some (r7, m8)
  else
    if ((m2 a0 8) + a2) ≤ (120 : Int32) then
      fX6_feed_39 200 a0 a1 (a2 - (1 : Int32)) m2
    else
      zbd (fX6_finds a0 (1 : Int32) m2) fun r5 m6 =>
      some (r5, m6)
set_option maxRecDepth 100000 in
set_option maxHeartbeats 4000000 in
theorem tX6_feed (g : zG) {a0 : Nat} {a1 : Int32} {a2 : Int32} {μ : zMem} {Q : Int32 → zMem → Prop} (ha0 : zkd a0 = 6) (h : zok (fX6_feed a0 a1 a2 μ) Q) : zTi g yX6_feed cX6_feed 4 .int 1 [.ref (zad g a0), .int a1, .int a2] μ Q := by
  refine zTi_of (P := fun r => True) zpi RX6 (by decide) rfl (Nat.le_of_ble_eq_true rfl) ?_
  intro κ X hret
  unfold fX6_feed at h
  refine zi_iload_n (pc' := 1) X dX6_feed_0 rfl rfl 2 rfl ?_
  refine zi_i2l (pc' := 2) X dX6_feed_1 rfl ?_
  refine zi_lconst (pc' := 3) (v := (1 : Int64)) X dX6_feed_2 rfl rfl ?_
  refine zi_ldc2 (pc' := 6) X dX6_feed_3 rfl zk_X6_137 ?_
  refine zi_callSi (pc' := 9) X zl_X6_48 [.long ((a2).toInt64), .long (1 : Int64), .long (4 : Int64)] rfl rfl (by decide) (Nat.le_of_ble_eq_true rfl) dX6_feed_6 rfl (tX6_in _ (zok_bd h (fun r1 m2 h => ?_)))
  refine zi_if_ne (pc' := 12) (tgt := 18) X dX6_feed_9 rfl rfl (fun c => ?_) (fun c => ?_)
  · replace h := zok_f h c
    refine zi_aload_n (pc' := 19) X dX6_feed_18 rfl rfl 0 rfl ?_
    refine zi_geti (pc' := 22) X zf_X6_245 rfl (by decide) ha0 dX6_feed_19 rfl ?_
    refine zi_iload_n (pc' := 23) X dX6_feed_22 rfl rfl 2 rfl ?_
    refine zi_iadd (pc' := 24) X dX6_feed_23 rfl ?_
    refine zi_bipush (pc' := 26) (v := (120 : Int32)) X dX6_feed_24 rfl rfl ?_
    refine zi_icmp_le (pc' := 29) (tgt := 35) X dX6_feed_26 rfl rfl (fun c => ?_) (fun c => ?_)
    · replace h := zok_t h c
      refine zi_iload_n (pc' := 36) X dX6_feed_35 rfl rfl 2 rfl ?_
      refine zi_iconst (pc' := 37) (v := (1 : Int32)) X dX6_feed_36 rfl rfl ?_
      refine zi_isub (pc' := 38) X dX6_feed_37 rfl ?_
      refine zi_istore_n (pc' := 39) X dX6_feed_38 rfl rfl (by decide) [(3, .int (a2 - (1 : Int32))), (0, .ref (zad g a0)), (1, .int a1), (2, .int a2)] rfl ?_
      exact zi_sub X [1, 2, 0] _ rfl (lX6_feed_39 X hret 200 a0 a1 (a2 - (1 : Int32)) (m2) ha0 h)
    · replace h := zok_f h c
      refine zi_aload_n (pc' := 30) X dX6_feed_29 rfl rfl 0 rfl ?_
      refine zi_iconst (pc' := 31) (v := (1 : Int32)) X dX6_feed_30 rfl rfl ?_
      refine zi_callVi (pc' := 34) X zl_X6_93 ha0 (by decide) [.int (1 : Int32)] rfl rfl (by decide) (Nat.le_of_ble_eq_true rfl) dX6_feed_31 rfl (tX6_finds _ ha0 (zok_bd h (fun r5 m6 h => ?_)))
      exact hret _ _ _ _ dX6_feed_34 trivial h
  · replace h := zok_t h c
    refine zi_aload_n (pc' := 13) X dX6_feed_12 rfl rfl 0 rfl ?_
    refine zi_iconst (pc' := 14) (v := (0 : Int32)) X dX6_feed_13 rfl rfl ?_
    refine zi_callVi (pc' := 17) X zl_X6_93 ha0 (by decide) [.int (0 : Int32)] rfl rfl (by decide) (Nat.le_of_ble_eq_true rfl) dX6_feed_14 rfl (tX6_finds _ ha0 (zok_bd h (fun r7 m8 h => ?_)))
    exact hret _ _ _ _ dX6_feed_17 trivial h
def fX6_held (a0 : Int32) (μ : zMem) : Option (Int32 × zMem) :=
  some ((if (0 : Int32) < (if a0 < (99 : Int32) then a0 else (99 : Int32)) then (if a0 < (99 : Int32) then a0 else (99 : Int32)) else (0 : Int32)), μ)
set_option maxRecDepth 100000 in
set_option maxHeartbeats 4000000 in
theorem tX6_held (g : zG) {a0 : Int32} {μ : zMem} {Q : Int32 → zMem → Prop} (h : zok (fX6_held a0 μ) Q) : zTi g yX6_held cX6_held 1 .int 1 [.int a0] μ Q := by
  refine zTi_of (P := fun r => True) zpi RX6 (by decide) rfl (Nat.le_of_ble_eq_true rfl) ?_
  intro κ X hret
  unfold fX6_held at h
  refine zi_iconst (pc' := 1) (v := (0 : Int32)) X dX6_held_0 rfl rfl ?_
  refine zi_bipush (pc' := 3) (v := (99 : Int32)) X dX6_held_1 rfl rfl ?_
  refine zi_iload_n (pc' := 4) X dX6_held_3 rfl rfl 0 rfl ?_
  refine zi_mmin (pc' := 7) X zl_X6_58 (Nat.le_of_ble_eq_true rfl) (by decide) dX6_held_4 rfl ?_
  refine zi_mmax (pc' := 10) X zl_X6_64 (Nat.le_of_ble_eq_true rfl) (by decide) dX6_held_7 rfl ?_
  exact hret _ _ _ _ dX6_held_10 trivial h
def fX6_image (a0 : Nat) (μ : zMem) : Option (Int32 × zMem) :=
  zbd (fX6_become (a0 + 1) (a0 + 2) μ) fun _ m4 =>
  some ((1 : Int32), (zst m4 a0 3 (1 : Int32)))
set_option maxRecDepth 100000 in
set_option maxHeartbeats 4000000 in
theorem tX6_image (g : zG) {a0 : Nat} {μ : zMem} {Q : Int32 → zMem → Prop} (ha0 : zkd a0 = 6) (h : zok (fX6_image a0 μ) Q) : zTi g yX6_image cX6_image 1 .int 1 [.ref (zad g a0)] μ Q := by
  refine zTi_of (P := fun r => True) zpi RX6 (by decide) rfl (Nat.le_of_ble_eq_true rfl) ?_
  intro κ X hret
  unfold fX6_image at h
  refine zi_aload_n (pc' := 1) X dX6_image_0 rfl rfl 0 rfl ?_
  refine zi_getr (pc' := 4) X zf_X6_9 rfl (by decide) ha0 dX6_image_1 rfl ?_
  have f1 := zr_6_0 ha0
  refine zi_aload_n (pc' := 5) X dX6_image_4 rfl rfl 0 rfl ?_
  refine zi_getr (pc' := 8) X zf_X6_13 rfl (by decide) ha0 dX6_image_5 rfl ?_
  have f2 := zr_6_1 ha0
  refine zi_callSv (pc' := 11) X zl_X6_44 [.ref (zad g (a0 + 1)), .ref (zad g (a0 + 2))] rfl rfl (by decide) (Nat.le_of_ble_eq_true rfl) dX6_image_8 rfl (tX6_become _ f1.1 f2.1 (zok_bd h (fun _ m4 h => ?_)))
  refine zi_aload_n (pc' := 12) X dX6_image_11 rfl rfl 0 rfl ?_
  refine zi_iconst (pc' := 13) (v := (1 : Int32)) X dX6_image_12 rfl rfl ?_
  refine zi_put (pc' := 16) X zf_X6_341 zw_6_3 rfl (by decide) ha0 (zpb _ (by decide)) (zpf (by decide)) dX6_image_13 rfl ?_
  refine zi_iconst (pc' := 17) (v := (1 : Int32)) X dX6_image_16 rfl rfl ?_
  exact hret _ _ _ _ dX6_image_17 trivial h
def fX6_isByte (a0 : Nat) (a1 : Int32) (a2 : Int32) (a3 : Int32) (μ : zMem) : Option (Int32 × zMem) :=
  if (μ a0 8) ≤ a1 then
    some ((0 : Int32), μ)
  else
    zgd (zib a1 120) (
    zbd (fX6_in (((μ (a0 + 7) (a1).toNatClampNeg)).toInt64) ((a2).toInt64) ((a3).toInt64) μ) fun r3 m4 =>
    if r3 = 0 then
      some ((0 : Int32), m4)
    else
      some ((1 : Int32), m4))
set_option maxRecDepth 100000 in
set_option maxHeartbeats 4000000 in
theorem tX6_isByte (g : zG) {a0 : Nat} {a1 : Int32} {a2 : Int32} {a3 : Int32} {μ : zMem} {Q : Int32 → zMem → Prop} (ha0 : zkd a0 = 6) (h : zok (fX6_isByte a0 a1 a2 a3 μ) Q) : zTi g yX6_isByte cX6_isByte 4 .boolean 1 [.ref (zad g a0), .int a1, .int a2, .int a3] μ Q := by
  refine zTi_of (P := fun r => r = 0 ∨ r = 1) zpb RX6 (by decide) rfl (Nat.le_of_ble_eq_true rfl) ?_
  intro κ X hret
  unfold fX6_isByte at h
  refine zi_iload_n (pc' := 1) X dX6_isByte_0 rfl rfl 1 rfl ?_
  refine zi_aload_n (pc' := 2) X dX6_isByte_1 rfl rfl 0 rfl ?_
  refine zi_geti (pc' := 5) X zf_X6_245 rfl (by decide) ha0 dX6_isByte_2 rfl ?_
  refine zi_icmp_ge (pc' := 8) (tgt := 29) X dX6_isByte_5 rfl rfl (fun c => ?_) (fun c => ?_)
  · replace h := zok_t h c
    refine zi_iconst (pc' := 30) (v := (0 : Int32)) X dX6_isByte_29 rfl rfl ?_
    exact hret _ _ _ _ dX6_isByte_30 (by decide) h
  · replace h := zok_f h c
    refine zi_aload_n (pc' := 9) X dX6_isByte_8 rfl rfl 0 rfl ?_
    refine zi_getr (pc' := 12) X zf_X6_28 rfl (by decide) ha0 dX6_isByte_9 rfl ?_
    have f1 := zr_6_7 ha0
    refine zi_iload_n (pc' := 13) X dX6_isByte_12 rfl rfl 1 rfl ?_
    obtain ⟨g2, h⟩ := zok_g h
    refine zi_iald (pc' := 14) X f1.1 (by rw [f1.2]; exact g2) dX6_isByte_13 rfl ?_
    refine zi_i2l (pc' := 15) X dX6_isByte_14 rfl ?_
    refine zi_iload_n (pc' := 16) X dX6_isByte_15 rfl rfl 2 rfl ?_
    refine zi_i2l (pc' := 17) X dX6_isByte_16 rfl ?_
    refine zi_iload_n (pc' := 18) X dX6_isByte_17 rfl rfl 3 rfl ?_
    refine zi_i2l (pc' := 19) X dX6_isByte_18 rfl ?_
    refine zi_callSi (pc' := 22) X zl_X6_48 [.long (((μ (a0 + 7) (a1).toNatClampNeg)).toInt64), .long ((a2).toInt64), .long ((a3).toInt64)] rfl rfl (by decide) (Nat.le_of_ble_eq_true rfl) dX6_isByte_19 rfl (tX6_in _ (zok_bd h (fun r3 m4 h => ?_)))
    refine zi_if_eq (pc' := 25) (tgt := 29) X dX6_isByte_22 rfl rfl (fun c => ?_) (fun c => ?_)
    · replace h := zok_t h c
      refine zi_iconst (pc' := 30) (v := (0 : Int32)) X dX6_isByte_29 rfl rfl ?_
      exact hret _ _ _ _ dX6_isByte_30 (by decide) h
    · replace h := zok_f h c
      refine zi_iconst (pc' := 26) (v := (1 : Int32)) X dX6_isByte_25 rfl rfl ?_
      refine zi_goto (pc' := 30) X dX6_isByte_26 rfl ?_
      exact hret _ _ _ _ dX6_isByte_30 (by decide) h
def fX6_isCell (a0 : Int32) (μ : zMem) : Option (Int32 × zMem) :=
  zbd (fX6_in ((a0).toInt64) (0 : Int64) (24 : Int64) μ) fun r1 m2 =>
  zgd (r1 = 0 ∨ r1 = 1) (
  some (r1, m2))
set_option maxRecDepth 100000 in
set_option maxHeartbeats 4000000 in
theorem tX6_isCell (g : zG) {a0 : Int32} {μ : zMem} {Q : Int32 → zMem → Prop} (h : zok (fX6_isCell a0 μ) Q) : zTi g yX6_isCell cX6_isCell 1 .boolean 1 [.int a0] μ Q := by
  refine zTi_of (P := fun r => r = 0 ∨ r = 1) zpb RX6 (by decide) rfl (Nat.le_of_ble_eq_true rfl) ?_
  intro κ X hret
  unfold fX6_isCell at h
  refine zi_iload_n (pc' := 1) X dX6_isCell_0 rfl rfl 0 rfl ?_
  refine zi_i2l (pc' := 2) X dX6_isCell_1 rfl ?_
  refine zi_lconst (pc' := 3) (v := (0 : Int64)) X dX6_isCell_2 rfl rfl ?_
  refine zi_ldc2 (pc' := 6) X dX6_isCell_3 rfl zk_X6_52 ?_
  refine zi_callSi (pc' := 9) X zl_X6_48 [.long ((a0).toInt64), .long (0 : Int64), .long (24 : Int64)] rfl rfl (by decide) (Nat.le_of_ble_eq_true rfl) dX6_isCell_6 rfl (tX6_in _ (zok_bd h (fun r1 m2 h => ?_)))
  obtain ⟨g3, h⟩ := zok_g h
  exact hret _ _ _ _ dX6_isCell_9 g3 h
def fX6_isHigh (a0 : Int32) (μ : zMem) : Option (Int32 × zMem) :=
  zbd (fX6_in ((a0).toInt64) (0 : Int64) (99 : Int64) μ) fun r1 m2 =>
  zgd (r1 = 0 ∨ r1 = 1) (
  some (r1, m2))
set_option maxRecDepth 100000 in
set_option maxHeartbeats 4000000 in
theorem tX6_isHigh (g : zG) {a0 : Int32} {μ : zMem} {Q : Int32 → zMem → Prop} (h : zok (fX6_isHigh a0 μ) Q) : zTi g yX6_isHigh cX6_isHigh 1 .boolean 1 [.int a0] μ Q := by
  refine zTi_of (P := fun r => r = 0 ∨ r = 1) zpb RX6 (by decide) rfl (Nat.le_of_ble_eq_true rfl) ?_
  intro κ X hret
  unfold fX6_isHigh at h
  refine zi_iload_n (pc' := 1) X dX6_isHigh_0 rfl rfl 0 rfl ?_
  refine zi_i2l (pc' := 2) X dX6_isHigh_1 rfl ?_
  refine zi_lconst (pc' := 3) (v := (0 : Int64)) X dX6_isHigh_2 rfl rfl ?_
  refine zi_ldc2 (pc' := 6) X dX6_isHigh_3 rfl zk_X6_56 ?_
  refine zi_callSi (pc' := 9) X zl_X6_48 [.long ((a0).toInt64), .long (0 : Int64), .long (99 : Int64)] rfl rfl (by decide) (Nat.le_of_ble_eq_true rfl) dX6_isHigh_6 rfl (tX6_in _ (zok_bd h (fun r1 m2 h => ?_)))
  obtain ⟨g3, h⟩ := zok_g h
  exact hret _ _ _ _ dX6_isHigh_9 g3 h
def fX6_isKind (a0 : Int32) (μ : zMem) : Option (Int32 × zMem) :=
  zbd (fX6_in ((a0).toInt64) (0 : Int64) (6 : Int64) μ) fun r1 m2 =>
  zgd (r1 = 0 ∨ r1 = 1) (
  some (r1, m2))
set_option maxRecDepth 100000 in
set_option maxHeartbeats 4000000 in
theorem tX6_isKind (g : zG) {a0 : Int32} {μ : zMem} {Q : Int32 → zMem → Prop} (h : zok (fX6_isKind a0 μ) Q) : zTi g yX6_isKind cX6_isKind 1 .boolean 1 [.int a0] μ Q := by
  refine zTi_of (P := fun r => r = 0 ∨ r = 1) zpb RX6 (by decide) rfl (Nat.le_of_ble_eq_true rfl) ?_
  intro κ X hret
  unfold fX6_isKind at h
  refine zi_iload_n (pc' := 1) X dX6_isKind_0 rfl rfl 0 rfl ?_
  refine zi_i2l (pc' := 2) X dX6_isKind_1 rfl ?_
  refine zi_lconst (pc' := 3) (v := (0 : Int64)) X dX6_isKind_2 rfl rfl ?_
  refine zi_ldc2 (pc' := 6) X dX6_isKind_3 rfl zk_X6_74 ?_
  refine zi_callSi (pc' := 9) X zl_X6_48 [.long ((a0).toInt64), .long (0 : Int64), .long (6 : Int64)] rfl rfl (by decide) (Nat.le_of_ble_eq_true rfl) dX6_isKind_6 rfl (tX6_in _ (zok_bd h (fun r1 m2 h => ?_)))
  obtain ⟨g3, h⟩ := zok_g h
  exact hret _ _ _ _ dX6_isKind_9 g3 h
def fX6_isLying_5 : Nat → Nat → Int32 → Int32 → Int32 → Int32 → zMem → Option (Int32 × zMem)
  | 0, _, _, _, _, _, _ => none
  | n + 1, a0, a1, a2, a3, a4, μ =>
    if (4 : Int32) ≤ a4 then
      zgd (a3 = 0 ∨ a3 = 1) (
      some (a3, μ))
    else
      zbd (fX6_its a0 a1 ((4 : Int32) + a4) μ) fun r2 m3 =>
      if a3 = 0 then
        fX6_isLying_5 n a0 a1 a2 (0 : Int32) (a4 + (1 : Int32)) m3
      else
        if r2 < 0 then
          fX6_isLying_5 n a0 a1 a2 (1 : Int32) (a4 + (1 : Int32)) m3
        else
          zbd (fX6_its a0 a1 (1 : Int32) m3) fun r5 m6 =>
          zbd (fX6_cellOf r5 a4 m6) fun r7 m8 =>
          zgd (zib ((4 : Int32) + r7) 87) (
          if a2 < (if 0 ≤ (r2 - (m8 (a0 + 1) (((4 : Int32) + r7)).toNatClampNeg)) then (r2 - (m8 (a0 + 1) (((4 : Int32) + r7)).toNatClampNeg)) else 0 - (r2 - (m8 (a0 + 1) (((4 : Int32) + r7)).toNatClampNeg))) then
            fX6_isLying_5 n a0 a1 a2 (0 : Int32) (a4 + (1 : Int32)) m8
          else
            fX6_isLying_5 n a0 a1 a2 (1 : Int32) (a4 + (1 : Int32)) m8)
set_option maxRecDepth 100000 in
theorem lX6_isLying_5 {g : zG} {κ : zK} (X : zC g κ RX6 cX6_isLying 6 1) {Q : Int32 → zMem → Prop} (hret : ∀ pc lv r μ', decode cX6_isLying pc = .ok (.ireturn, 1) → (r = 0 ∨ r = 1) → Q r μ' → zV g κ pc lv [.int r] μ') : ∀ (n : Nat) (a0 : Nat) (a1 : Int32) (a2 : Int32) (a3 : Int32) (a4 : Int32) (μ : zMem) (ha0 : zkd a0 = 6), zok (fX6_isLying_5 n a0 a1 a2 a3 a4 μ) Q → zV g κ 5 [(0, .ref (zad g a0)), (1, .int a1), (2, .int a2), (3, .int a3), (4, .int a4)] [] μ := by
  intro n
  induction n with
  | zero =>
    intro a0 a1 a2 a3 a4 μ ha0 h
    exact h.elim
  | succ n ih =>
    intro a0 a1 a2 a3 a4 μ ha0 h
    rw [fX6_isLying_5] at h
    refine zi_iload (pc' := 7) X dX6_isLying_5 rfl 4 rfl ?_
    refine zi_iconst (pc' := 8) (v := (4 : Int32)) X dX6_isLying_7 rfl rfl ?_
    refine zi_icmp_ge (pc' := 11) (tgt := 71) X dX6_isLying_8 rfl rfl (fun c => ?_) (fun c => ?_)
    · replace h := zok_t h c
      refine zi_iload_n (pc' := 72) X dX6_isLying_71 rfl rfl 3 rfl ?_
      obtain ⟨g1, h⟩ := zok_g h
      exact hret _ _ _ _ dX6_isLying_72 g1 h
    · replace h := zok_f h c
      refine zi_aload_n (pc' := 12) X dX6_isLying_11 rfl rfl 0 rfl ?_
      refine zi_iload_n (pc' := 13) X dX6_isLying_12 rfl rfl 1 rfl ?_
      refine zi_iconst (pc' := 14) (v := (4 : Int32)) X dX6_isLying_13 rfl rfl ?_
      refine zi_iload (pc' := 16) X dX6_isLying_14 rfl 4 rfl ?_
      refine zi_iadd (pc' := 17) X dX6_isLying_16 rfl ?_
      refine zi_callVi (pc' := 20) X zl_X6_76 ha0 (by decide) [.int a1, .int ((4 : Int32) + a4)] rfl rfl (by decide) (Nat.le_of_ble_eq_true rfl) dX6_isLying_17 rfl (tX6_its _ ha0 (zok_bd h (fun r2 m3 h => ?_)))
      refine zi_istore (pc' := 22) X dX6_isLying_20 rfl (by decide) [(5, .int r2), (0, .ref (zad g a0)), (1, .int a1), (2, .int a2), (3, .int a3), (4, .int a4)] rfl ?_
      refine zi_iload_n (pc' := 23) X dX6_isLying_22 rfl rfl 4 rfl ?_
      refine zi_if_eq (pc' := 26) (tgt := 63) X dX6_isLying_23 rfl rfl (fun c => ?_) (fun c => ?_)
      · replace h := zok_t h c
        refine zi_iconst (pc' := 64) (v := (0 : Int32)) X dX6_isLying_63 rfl rfl ?_
        refine zi_istore_n (pc' := 65) X dX6_isLying_64 rfl rfl (by decide) [(3, .int (0 : Int32)), (5, .int r2), (0, .ref (zad g a0)), (1, .int a1), (2, .int a2), (4, .int a4)] rfl ?_
        refine zi_iinc (pc' := 68) (v := (a4 + (1 : Int32))) X dX6_isLying_65 rfl 5 rfl rfl (by decide) [(4, .int (a4 + (1 : Int32))), (3, .int (0 : Int32)), (5, .int r2), (0, .ref (zad g a0)), (1, .int a1), (2, .int a2)] rfl ?_
        refine zi_goto (pc' := 5) X dX6_isLying_68 rfl ?_
        exact zi_sub X [3, 4, 5, 1, 0] _ rfl (ih a0 a1 a2 (0 : Int32) (a4 + (1 : Int32)) (m3) ha0 h)
      · replace h := zok_f h c
        refine zi_iload (pc' := 28) X dX6_isLying_26 rfl 0 rfl ?_
        refine zi_if_lt (pc' := 31) (tgt := 59) X dX6_isLying_28 rfl rfl (fun c => ?_) (fun c => ?_)
        · replace h := zok_t h c
          refine zi_iconst (pc' := 60) (v := (1 : Int32)) X dX6_isLying_59 rfl rfl ?_
          refine zi_goto (pc' := 64) X dX6_isLying_60 rfl ?_
          refine zi_istore_n (pc' := 65) X dX6_isLying_64 rfl rfl (by decide) [(3, .int (1 : Int32)), (5, .int r2), (0, .ref (zad g a0)), (1, .int a1), (2, .int a2), (4, .int a4)] rfl ?_
          refine zi_iinc (pc' := 68) (v := (a4 + (1 : Int32))) X dX6_isLying_65 rfl 5 rfl rfl (by decide) [(4, .int (a4 + (1 : Int32))), (3, .int (1 : Int32)), (5, .int r2), (0, .ref (zad g a0)), (1, .int a1), (2, .int a2)] rfl ?_
          refine zi_goto (pc' := 5) X dX6_isLying_68 rfl ?_
          exact zi_sub X [3, 4, 5, 1, 0] _ rfl (ih a0 a1 a2 (1 : Int32) (a4 + (1 : Int32)) (m3) ha0 h)
        · replace h := zok_f h c
          refine zi_iload (pc' := 33) X dX6_isLying_31 rfl 0 rfl ?_
          refine zi_aload_n (pc' := 34) X dX6_isLying_33 rfl rfl 1 rfl ?_
          refine zi_getr (pc' := 37) X zf_X6_9 rfl (by decide) ha0 dX6_isLying_34 rfl ?_
          have f4 := zr_6_0 ha0
          refine zi_iconst (pc' := 38) (v := (4 : Int32)) X dX6_isLying_37 rfl rfl ?_
          refine zi_aload_n (pc' := 39) X dX6_isLying_38 rfl rfl 1 rfl ?_
          refine zi_iload_n (pc' := 40) X dX6_isLying_39 rfl rfl 2 rfl ?_
          refine zi_iconst (pc' := 41) (v := (1 : Int32)) X dX6_isLying_40 rfl rfl ?_
          refine zi_callVi (pc' := 44) X zl_X6_76 ha0 (by decide) [.int a1, .int (1 : Int32)] rfl rfl (by decide) (Nat.le_of_ble_eq_true rfl) dX6_isLying_41 rfl (tX6_its _ ha0 (zok_bd h (fun r5 m6 h => ?_)))
          refine zi_iload (pc' := 46) X dX6_isLying_44 rfl 5 rfl ?_
          refine zi_callSi (pc' := 49) X zl_X6_103 [.int r5, .int a4] rfl rfl (by decide) (Nat.le_of_ble_eq_true rfl) dX6_isLying_46 rfl (tX6_cellOf _ (zok_bd h (fun r7 m8 h => ?_)))
          refine zi_iadd (pc' := 50) X dX6_isLying_49 rfl ?_
          obtain ⟨g9, h⟩ := zok_g h
          refine zi_iald (pc' := 51) X f4.1 (by rw [f4.2]; exact g9) dX6_isLying_50 rfl ?_
          refine zi_isub (pc' := 52) X dX6_isLying_51 rfl ?_
          refine zi_mabs (pc' := 55) X zl_X6_67 (Nat.le_of_ble_eq_true rfl) (by decide) dX6_isLying_52 rfl ?_
          refine zi_iload_n (pc' := 56) X dX6_isLying_55 rfl rfl 3 rfl ?_
          refine zi_icmp_gt (pc' := 59) (tgt := 63) X dX6_isLying_56 rfl rfl (fun c => ?_) (fun c => ?_)
          · replace h := zok_t h c
            refine zi_iconst (pc' := 64) (v := (0 : Int32)) X dX6_isLying_63 rfl rfl ?_
            refine zi_istore_n (pc' := 65) X dX6_isLying_64 rfl rfl (by decide) [(3, .int (0 : Int32)), (5, .int r2), (0, .ref (zad g a0)), (1, .int a1), (2, .int a2), (4, .int a4)] rfl ?_
            refine zi_iinc (pc' := 68) (v := (a4 + (1 : Int32))) X dX6_isLying_65 rfl 5 rfl rfl (by decide) [(4, .int (a4 + (1 : Int32))), (3, .int (0 : Int32)), (5, .int r2), (0, .ref (zad g a0)), (1, .int a1), (2, .int a2)] rfl ?_
            refine zi_goto (pc' := 5) X dX6_isLying_68 rfl ?_
            exact zi_sub X [3, 4, 5, 1, 0] _ rfl (ih a0 a1 a2 (0 : Int32) (a4 + (1 : Int32)) (m8) ha0 h)
          · replace h := zok_f h c
            refine zi_iconst (pc' := 60) (v := (1 : Int32)) X dX6_isLying_59 rfl rfl ?_
            refine zi_goto (pc' := 64) X dX6_isLying_60 rfl ?_
            refine zi_istore_n (pc' := 65) X dX6_isLying_64 rfl rfl (by decide) [(3, .int (1 : Int32)), (5, .int r2), (0, .ref (zad g a0)), (1, .int a1), (2, .int a2), (4, .int a4)] rfl ?_
            refine zi_iinc (pc' := 68) (v := (a4 + (1 : Int32))) X dX6_isLying_65 rfl 5 rfl rfl (by decide) [(4, .int (a4 + (1 : Int32))), (3, .int (1 : Int32)), (5, .int r2), (0, .ref (zad g a0)), (1, .int a1), (2, .int a2)] rfl ?_
            refine zi_goto (pc' := 5) X dX6_isLying_68 rfl ?_
            exact zi_sub X [3, 4, 5, 1, 0] _ rfl (ih a0 a1 a2 (1 : Int32) (a4 + (1 : Int32)) (m8) ha0 h)
def fX6_isLying (a0 : Nat) (a1 : Int32) (a2 : Int32) (μ : zMem) : Option (Int32 × zMem) :=
  fX6_isLying_5 200 a0 a1 a2 (1 : Int32) (0 : Int32) μ
set_option maxRecDepth 100000 in
set_option maxHeartbeats 4000000 in
theorem tX6_isLying (g : zG) {a0 : Nat} {a1 : Int32} {a2 : Int32} {μ : zMem} {Q : Int32 → zMem → Prop} (ha0 : zkd a0 = 6) (h : zok (fX6_isLying a0 a1 a2 μ) Q) : zTi g yX6_isLying cX6_isLying 6 .boolean 1 [.ref (zad g a0), .int a1, .int a2] μ Q := by
  refine zTi_of (P := fun r => r = 0 ∨ r = 1) zpb RX6 (by decide) rfl (Nat.le_of_ble_eq_true rfl) ?_
  intro κ X hret
  unfold fX6_isLying at h
  refine zi_iconst (pc' := 1) (v := (1 : Int32)) X dX6_isLying_0 rfl rfl ?_
  refine zi_istore_n (pc' := 2) X dX6_isLying_1 rfl rfl (by decide) [(3, .int (1 : Int32)), (0, .ref (zad g a0)), (1, .int a1), (2, .int a2)] rfl ?_
  refine zi_iconst (pc' := 3) (v := (0 : Int32)) X dX6_isLying_2 rfl rfl ?_
  refine zi_istore (pc' := 5) X dX6_isLying_3 rfl (by decide) [(4, .int (0 : Int32)), (3, .int (1 : Int32)), (0, .ref (zad g a0)), (1, .int a1), (2, .int a2)] rfl ?_
  exact zi_sub X [2, 3, 4, 1, 0] _ rfl (lX6_isLying_5 X hret 200 a0 a1 a2 (1 : Int32) (0 : Int32) (μ) ha0 h)
def fX6_isOut_6 : Nat → Nat → Int32 → Int32 → Int32 → Int32 → Int32 → zMem → Option (Int32 × zMem)
  | 0, _, _, _, _, _, _, _ => none
  | n + 1, a0, a1, a2, a3, a4, a5, μ =>
    if (4 : Int32) ≤ a5 then
      zgd (a4 = 0 ∨ a4 = 1) (
      some (a4, μ))
    else
      zbd (fX6_its a0 a1 ((4 : Int32) + a5) μ) fun r2 m3 =>
      if a4 = 0 then
        fX6_isOut_6 n a0 a1 a2 a3 (0 : Int32) (a5 + (1 : Int32)) m3
      else
        if r2 < 0 then
          fX6_isOut_6 n a0 a1 a2 a3 (0 : Int32) (a5 + (1 : Int32)) m3
        else
          if a3 < (if 0 ≤ (r2 - a2) then (r2 - a2) else 0 - (r2 - a2)) then
            fX6_isOut_6 n a0 a1 a2 a3 (0 : Int32) (a5 + (1 : Int32)) m3
          else
            fX6_isOut_6 n a0 a1 a2 a3 (1 : Int32) (a5 + (1 : Int32)) m3
set_option maxRecDepth 100000 in
theorem lX6_isOut_6 {g : zG} {κ : zK} (X : zC g κ RX6 cX6_isOut 7 1) {Q : Int32 → zMem → Prop} (hret : ∀ pc lv r μ', decode cX6_isOut pc = .ok (.ireturn, 1) → (r = 0 ∨ r = 1) → Q r μ' → zV g κ pc lv [.int r] μ') : ∀ (n : Nat) (a0 : Nat) (a1 : Int32) (a2 : Int32) (a3 : Int32) (a4 : Int32) (a5 : Int32) (μ : zMem) (ha0 : zkd a0 = 6), zok (fX6_isOut_6 n a0 a1 a2 a3 a4 a5 μ) Q → zV g κ 6 [(0, .ref (zad g a0)), (1, .int a1), (2, .int a2), (3, .int a3), (4, .int a4), (5, .int a5)] [] μ := by
  intro n
  induction n with
  | zero =>
    intro a0 a1 a2 a3 a4 a5 μ ha0 h
    exact h.elim
  | succ n ih =>
    intro a0 a1 a2 a3 a4 a5 μ ha0 h
    rw [fX6_isOut_6] at h
    refine zi_iload (pc' := 8) X dX6_isOut_6 rfl 5 rfl ?_
    refine zi_iconst (pc' := 9) (v := (4 : Int32)) X dX6_isOut_8 rfl rfl ?_
    refine zi_icmp_ge (pc' := 12) (tgt := 57) X dX6_isOut_9 rfl rfl (fun c => ?_) (fun c => ?_)
    · replace h := zok_t h c
      refine zi_iload (pc' := 59) X dX6_isOut_57 rfl 4 rfl ?_
      obtain ⟨g1, h⟩ := zok_g h
      exact hret _ _ _ _ dX6_isOut_59 g1 h
    · replace h := zok_f h c
      refine zi_aload_n (pc' := 13) X dX6_isOut_12 rfl rfl 0 rfl ?_
      refine zi_iload_n (pc' := 14) X dX6_isOut_13 rfl rfl 1 rfl ?_
      refine zi_iconst (pc' := 15) (v := (4 : Int32)) X dX6_isOut_14 rfl rfl ?_
      refine zi_iload (pc' := 17) X dX6_isOut_15 rfl 5 rfl ?_
      refine zi_iadd (pc' := 18) X dX6_isOut_17 rfl ?_
      refine zi_callVi (pc' := 21) X zl_X6_76 ha0 (by decide) [.int a1, .int ((4 : Int32) + a5)] rfl rfl (by decide) (Nat.le_of_ble_eq_true rfl) dX6_isOut_18 rfl (tX6_its _ ha0 (zok_bd h (fun r2 m3 h => ?_)))
      refine zi_istore (pc' := 23) X dX6_isOut_21 rfl (by decide) [(6, .int r2), (0, .ref (zad g a0)), (1, .int a1), (2, .int a2), (3, .int a3), (4, .int a4), (5, .int a5)] rfl ?_
      refine zi_iload (pc' := 25) X dX6_isOut_23 rfl 5 rfl ?_
      refine zi_if_eq (pc' := 28) (tgt := 48) X dX6_isOut_25 rfl rfl (fun c => ?_) (fun c => ?_)
      · replace h := zok_t h c
        refine zi_iconst (pc' := 49) (v := (0 : Int32)) X dX6_isOut_48 rfl rfl ?_
        refine zi_istore (pc' := 51) X dX6_isOut_49 rfl (by decide) [(4, .int (0 : Int32)), (6, .int r2), (0, .ref (zad g a0)), (1, .int a1), (2, .int a2), (3, .int a3), (5, .int a5)] rfl ?_
        refine zi_iinc (pc' := 54) (v := (a5 + (1 : Int32))) X dX6_isOut_51 rfl 6 rfl rfl (by decide) [(5, .int (a5 + (1 : Int32))), (4, .int (0 : Int32)), (6, .int r2), (0, .ref (zad g a0)), (1, .int a1), (2, .int a2), (3, .int a3)] rfl ?_
        refine zi_goto (pc' := 6) X dX6_isOut_54 rfl ?_
        exact zi_sub X [3, 4, 5, 6, 1, 0] _ rfl (ih a0 a1 a2 a3 (0 : Int32) (a5 + (1 : Int32)) (m3) ha0 h)
      · replace h := zok_f h c
        refine zi_iload (pc' := 30) X dX6_isOut_28 rfl 0 rfl ?_
        refine zi_if_lt (pc' := 33) (tgt := 48) X dX6_isOut_30 rfl rfl (fun c => ?_) (fun c => ?_)
        · replace h := zok_t h c
          refine zi_iconst (pc' := 49) (v := (0 : Int32)) X dX6_isOut_48 rfl rfl ?_
          refine zi_istore (pc' := 51) X dX6_isOut_49 rfl (by decide) [(4, .int (0 : Int32)), (6, .int r2), (0, .ref (zad g a0)), (1, .int a1), (2, .int a2), (3, .int a3), (5, .int a5)] rfl ?_
          refine zi_iinc (pc' := 54) (v := (a5 + (1 : Int32))) X dX6_isOut_51 rfl 6 rfl rfl (by decide) [(5, .int (a5 + (1 : Int32))), (4, .int (0 : Int32)), (6, .int r2), (0, .ref (zad g a0)), (1, .int a1), (2, .int a2), (3, .int a3)] rfl ?_
          refine zi_goto (pc' := 6) X dX6_isOut_54 rfl ?_
          exact zi_sub X [3, 4, 5, 6, 1, 0] _ rfl (ih a0 a1 a2 a3 (0 : Int32) (a5 + (1 : Int32)) (m3) ha0 h)
        · replace h := zok_f h c
          refine zi_iload (pc' := 35) X dX6_isOut_33 rfl 0 rfl ?_
          refine zi_iload_n (pc' := 36) X dX6_isOut_35 rfl rfl 3 rfl ?_
          refine zi_isub (pc' := 37) X dX6_isOut_36 rfl ?_
          refine zi_mabs (pc' := 40) X zl_X6_67 (Nat.le_of_ble_eq_true rfl) (by decide) dX6_isOut_37 rfl ?_
          refine zi_iload_n (pc' := 41) X dX6_isOut_40 rfl rfl 4 rfl ?_
          refine zi_icmp_gt (pc' := 44) (tgt := 48) X dX6_isOut_41 rfl rfl (fun c => ?_) (fun c => ?_)
          · replace h := zok_t h c
            refine zi_iconst (pc' := 49) (v := (0 : Int32)) X dX6_isOut_48 rfl rfl ?_
            refine zi_istore (pc' := 51) X dX6_isOut_49 rfl (by decide) [(4, .int (0 : Int32)), (6, .int r2), (0, .ref (zad g a0)), (1, .int a1), (2, .int a2), (3, .int a3), (5, .int a5)] rfl ?_
            refine zi_iinc (pc' := 54) (v := (a5 + (1 : Int32))) X dX6_isOut_51 rfl 6 rfl rfl (by decide) [(5, .int (a5 + (1 : Int32))), (4, .int (0 : Int32)), (6, .int r2), (0, .ref (zad g a0)), (1, .int a1), (2, .int a2), (3, .int a3)] rfl ?_
            refine zi_goto (pc' := 6) X dX6_isOut_54 rfl ?_
            exact zi_sub X [3, 4, 5, 6, 1, 0] _ rfl (ih a0 a1 a2 a3 (0 : Int32) (a5 + (1 : Int32)) (m3) ha0 h)
          · replace h := zok_f h c
            refine zi_iconst (pc' := 45) (v := (1 : Int32)) X dX6_isOut_44 rfl rfl ?_
            refine zi_goto (pc' := 49) X dX6_isOut_45 rfl ?_
            refine zi_istore (pc' := 51) X dX6_isOut_49 rfl (by decide) [(4, .int (1 : Int32)), (6, .int r2), (0, .ref (zad g a0)), (1, .int a1), (2, .int a2), (3, .int a3), (5, .int a5)] rfl ?_
            refine zi_iinc (pc' := 54) (v := (a5 + (1 : Int32))) X dX6_isOut_51 rfl 6 rfl rfl (by decide) [(5, .int (a5 + (1 : Int32))), (4, .int (1 : Int32)), (6, .int r2), (0, .ref (zad g a0)), (1, .int a1), (2, .int a2), (3, .int a3)] rfl ?_
            refine zi_goto (pc' := 6) X dX6_isOut_54 rfl ?_
            exact zi_sub X [3, 4, 5, 6, 1, 0] _ rfl (ih a0 a1 a2 a3 (1 : Int32) (a5 + (1 : Int32)) (m3) ha0 h)
def fX6_isOut (a0 : Nat) (a1 : Int32) (a2 : Int32) (a3 : Int32) (μ : zMem) : Option (Int32 × zMem) :=
  fX6_isOut_6 200 a0 a1 a2 a3 (1 : Int32) (0 : Int32) μ
set_option maxRecDepth 100000 in
set_option maxHeartbeats 4000000 in
theorem tX6_isOut (g : zG) {a0 : Nat} {a1 : Int32} {a2 : Int32} {a3 : Int32} {μ : zMem} {Q : Int32 → zMem → Prop} (ha0 : zkd a0 = 6) (h : zok (fX6_isOut a0 a1 a2 a3 μ) Q) : zTi g yX6_isOut cX6_isOut 7 .boolean 1 [.ref (zad g a0), .int a1, .int a2, .int a3] μ Q := by
  refine zTi_of (P := fun r => r = 0 ∨ r = 1) zpb RX6 (by decide) rfl (Nat.le_of_ble_eq_true rfl) ?_
  intro κ X hret
  unfold fX6_isOut at h
  refine zi_iconst (pc' := 1) (v := (1 : Int32)) X dX6_isOut_0 rfl rfl ?_
  refine zi_istore (pc' := 3) X dX6_isOut_1 rfl (by decide) [(4, .int (1 : Int32)), (0, .ref (zad g a0)), (1, .int a1), (2, .int a2), (3, .int a3)] rfl ?_
  refine zi_iconst (pc' := 4) (v := (0 : Int32)) X dX6_isOut_3 rfl rfl ?_
  refine zi_istore (pc' := 6) X dX6_isOut_4 rfl (by decide) [(5, .int (0 : Int32)), (4, .int (1 : Int32)), (0, .ref (zad g a0)), (1, .int a1), (2, .int a2), (3, .int a3)] rfl ?_
  exact zi_sub X [2, 3, 4, 5, 1, 0] _ rfl (lX6_isOut_6 X hret 200 a0 a1 a2 a3 (1 : Int32) (0 : Int32) (μ) ha0 h)
def fX6_isPitch (a0 : Int32) (μ : zMem) : Option (Int32 × zMem) :=
  zbd (fX6_in ((a0).toInt64) (0 : Int64) (15 : Int64) μ) fun r1 m2 =>
  zgd (r1 = 0 ∨ r1 = 1) (
  some (r1, m2))
set_option maxRecDepth 100000 in
set_option maxHeartbeats 4000000 in
theorem tX6_isPitch (g : zG) {a0 : Int32} {μ : zMem} {Q : Int32 → zMem → Prop} (h : zok (fX6_isPitch a0 μ) Q) : zTi g yX6_isPitch cX6_isPitch 1 .boolean 1 [.int a0] μ Q := by
  refine zTi_of (P := fun r => r = 0 ∨ r = 1) zpb RX6 (by decide) rfl (Nat.le_of_ble_eq_true rfl) ?_
  intro κ X hret
  unfold fX6_isPitch at h
  refine zi_iload_n (pc' := 1) X dX6_isPitch_0 rfl rfl 0 rfl ?_
  refine zi_i2l (pc' := 2) X dX6_isPitch_1 rfl ?_
  refine zi_lconst (pc' := 3) (v := (0 : Int64)) X dX6_isPitch_2 rfl rfl ?_
  refine zi_ldc2 (pc' := 6) X dX6_isPitch_3 rfl zk_X6_54 ?_
  refine zi_callSi (pc' := 9) X zl_X6_48 [.long ((a0).toInt64), .long (0 : Int64), .long (15 : Int64)] rfl rfl (by decide) (Nat.le_of_ble_eq_true rfl) dX6_isPitch_6 rfl (tX6_in _ (zok_bd h (fun r1 m2 h => ?_)))
  obtain ⟨g3, h⟩ := zok_g h
  exact hret _ _ _ _ dX6_isPitch_9 g3 h
def fX6_isSheet (a0 : Int32) (μ : zMem) : Option (Int32 × zMem) :=
  zbd (fX6_in ((a0).toInt64) (0 : Int64) (3 : Int64) μ) fun r1 m2 =>
  zgd (r1 = 0 ∨ r1 = 1) (
  some (r1, m2))
set_option maxRecDepth 100000 in
set_option maxHeartbeats 4000000 in
theorem tX6_isSheet (g : zG) {a0 : Int32} {μ : zMem} {Q : Int32 → zMem → Prop} (h : zok (fX6_isSheet a0 μ) Q) : zTi g yX6_isSheet cX6_isSheet 1 .boolean 1 [.int a0] μ Q := by
  refine zTi_of (P := fun r => r = 0 ∨ r = 1) zpb RX6 (by decide) rfl (Nat.le_of_ble_eq_true rfl) ?_
  intro κ X hret
  unfold fX6_isSheet at h
  refine zi_iload_n (pc' := 1) X dX6_isSheet_0 rfl rfl 0 rfl ?_
  refine zi_i2l (pc' := 2) X dX6_isSheet_1 rfl ?_
  refine zi_lconst (pc' := 3) (v := (0 : Int64)) X dX6_isSheet_2 rfl rfl ?_
  refine zi_ldc2 (pc' := 6) X dX6_isSheet_3 rfl zk_X6_113 ?_
  refine zi_callSi (pc' := 9) X zl_X6_48 [.long ((a0).toInt64), .long (0 : Int64), .long (3 : Int64)] rfl rfl (by decide) (Nat.le_of_ble_eq_true rfl) dX6_isSheet_6 rfl (tX6_in _ (zok_bd h (fun r1 m2 h => ?_)))
  obtain ⟨g3, h⟩ := zok_g h
  exact hret _ _ _ _ dX6_isSheet_9 g3 h
def fX6_isSo_5 : Nat → Nat → Int32 → Int32 → Int32 → Int32 → zMem → Option (Int32 × zMem)
  | 0, _, _, _, _, _, _ => none
  | n + 1, a0, a1, a2, a3, a4, μ =>
    if (4 : Int32) ≤ a4 then
      zgd (a3 = 0 ∨ a3 = 1) (
      some (a3, μ))
    else
      zgd (zib a1 4) (
      if (μ (a0 + 9) (a1).toNatClampNeg) ≤ a4 then
        zgd (a3 = 0 ∨ a3 = 1) (
        some (a3, μ))
      else
        zgd (zib (((40 : Int32) * a1) + a4) 160) (
        if a3 = 0 then
          fX6_isSo_5 n a0 a1 a2 (0 : Int32) (a4 + (1 : Int32)) μ
        else
          if (μ (a0 + 10) ((((40 : Int32) * a1) + a4)).toNatClampNeg) = (-1 : Int32) then
            fX6_isSo_5 n a0 a1 a2 (1 : Int32) (a4 + (1 : Int32)) μ
          else
            zbd (fX6_its a0 a2 ((4 : Int32) + a4) μ) fun r7 m8 =>
            if (μ (a0 + 10) ((((40 : Int32) * a1) + a4)).toNatClampNeg) = r7 then
              fX6_isSo_5 n a0 a1 a2 (1 : Int32) (a4 + (1 : Int32)) m8
            else
              fX6_isSo_5 n a0 a1 a2 (0 : Int32) (a4 + (1 : Int32)) m8))
set_option maxRecDepth 100000 in
theorem lX6_isSo_5 {g : zG} {κ : zK} (X : zC g κ RX6 cX6_isSo 6 1) {Q : Int32 → zMem → Prop} (hret : ∀ pc lv r μ', decode cX6_isSo pc = .ok (.ireturn, 1) → (r = 0 ∨ r = 1) → Q r μ' → zV g κ pc lv [.int r] μ') : ∀ (n : Nat) (a0 : Nat) (a1 : Int32) (a2 : Int32) (a3 : Int32) (a4 : Int32) (μ : zMem) (ha0 : zkd a0 = 6), zok (fX6_isSo_5 n a0 a1 a2 a3 a4 μ) Q → zV g κ 5 [(0, .ref (zad g a0)), (1, .int a1), (2, .int a2), (3, .int a3), (4, .int a4)] [] μ := by
  intro n
  induction n with
  | zero =>
    intro a0 a1 a2 a3 a4 μ ha0 h
    exact h.elim
  | succ n ih =>
    intro a0 a1 a2 a3 a4 μ ha0 h
    rw [fX6_isSo_5] at h
    refine zi_iload (pc' := 7) X dX6_isSo_5 rfl 4 rfl ?_
    refine zi_iconst (pc' := 8) (v := (4 : Int32)) X dX6_isSo_7 rfl rfl ?_
    refine zi_icmp_ge (pc' := 11) (tgt := 72) X dX6_isSo_8 rfl rfl (fun c => ?_) (fun c => ?_)
    · replace h := zok_t h c
      refine zi_iload_n (pc' := 73) X dX6_isSo_72 rfl rfl 3 rfl ?_
      obtain ⟨g1, h⟩ := zok_g h
      exact hret _ _ _ _ dX6_isSo_73 g1 h
    · replace h := zok_f h c
      refine zi_iload (pc' := 13) X dX6_isSo_11 rfl 4 rfl ?_
      refine zi_aload_n (pc' := 14) X dX6_isSo_13 rfl rfl 0 rfl ?_
      refine zi_getr (pc' := 17) X zf_X6_34 rfl (by decide) ha0 dX6_isSo_14 rfl ?_
      have f2 := zr_6_13 ha0
      refine zi_iload_n (pc' := 18) X dX6_isSo_17 rfl rfl 1 rfl ?_
      obtain ⟨g3, h⟩ := zok_g h
      refine zi_iald (pc' := 19) X f2.1 (by rw [f2.2]; exact g3) dX6_isSo_18 rfl ?_
      refine zi_icmp_ge (pc' := 22) (tgt := 72) X dX6_isSo_19 rfl rfl (fun c => ?_) (fun c => ?_)
      · replace h := zok_t h c
        refine zi_iload_n (pc' := 73) X dX6_isSo_72 rfl rfl 3 rfl ?_
        obtain ⟨g4, h⟩ := zok_g h
        exact hret _ _ _ _ dX6_isSo_73 g4 h
      · replace h := zok_f h c
        refine zi_aload_n (pc' := 23) X dX6_isSo_22 rfl rfl 0 rfl ?_
        refine zi_getr (pc' := 26) X zf_X6_37 rfl (by decide) ha0 dX6_isSo_23 rfl ?_
        have f5 := zr_6_14 ha0
        refine zi_bipush (pc' := 28) (v := (40 : Int32)) X dX6_isSo_26 rfl rfl ?_
        refine zi_iload_n (pc' := 29) X dX6_isSo_28 rfl rfl 1 rfl ?_
        refine zi_imul (pc' := 30) X dX6_isSo_29 rfl ?_
        refine zi_iload (pc' := 32) X dX6_isSo_30 rfl 4 rfl ?_
        refine zi_iadd (pc' := 33) X dX6_isSo_32 rfl ?_
        obtain ⟨g6, h⟩ := zok_g h
        refine zi_iald (pc' := 34) X f5.1 (by rw [f5.2]; exact g6) dX6_isSo_33 rfl ?_
        refine zi_istore (pc' := 36) X dX6_isSo_34 rfl (by decide) [(5, .int (μ (a0 + 10) ((((40 : Int32) * a1) + a4)).toNatClampNeg)), (0, .ref (zad g a0)), (1, .int a1), (2, .int a2), (3, .int a3), (4, .int a4)] rfl ?_
        refine zi_iload_n (pc' := 37) X dX6_isSo_36 rfl rfl 4 rfl ?_
        refine zi_if_eq (pc' := 40) (tgt := 64) X dX6_isSo_37 rfl rfl (fun c => ?_) (fun c => ?_)
        · replace h := zok_t h c
          refine zi_iconst (pc' := 65) (v := (0 : Int32)) X dX6_isSo_64 rfl rfl ?_
          refine zi_istore_n (pc' := 66) X dX6_isSo_65 rfl rfl (by decide) [(3, .int (0 : Int32)), (5, .int (μ (a0 + 10) ((((40 : Int32) * a1) + a4)).toNatClampNeg)), (0, .ref (zad g a0)), (1, .int a1), (2, .int a2), (4, .int a4)] rfl ?_
          refine zi_iinc (pc' := 69) (v := (a4 + (1 : Int32))) X dX6_isSo_66 rfl 5 rfl rfl (by decide) [(4, .int (a4 + (1 : Int32))), (3, .int (0 : Int32)), (5, .int (μ (a0 + 10) ((((40 : Int32) * a1) + a4)).toNatClampNeg)), (0, .ref (zad g a0)), (1, .int a1), (2, .int a2)] rfl ?_
          refine zi_goto (pc' := 5) X dX6_isSo_69 rfl ?_
          exact zi_sub X [3, 4, 5, 1, 0] _ rfl (ih a0 a1 a2 (0 : Int32) (a4 + (1 : Int32)) (μ) ha0 h)
        · replace h := zok_f h c
          refine zi_iload (pc' := 42) X dX6_isSo_40 rfl 0 rfl ?_
          refine zi_iconst (pc' := 43) (v := (-1 : Int32)) X dX6_isSo_42 rfl rfl ?_
          refine zi_icmp_eq (pc' := 46) (tgt := 60) X dX6_isSo_43 rfl rfl (fun c => ?_) (fun c => ?_)
          · replace h := zok_t h c
            refine zi_iconst (pc' := 61) (v := (1 : Int32)) X dX6_isSo_60 rfl rfl ?_
            refine zi_goto (pc' := 65) X dX6_isSo_61 rfl ?_
            refine zi_istore_n (pc' := 66) X dX6_isSo_65 rfl rfl (by decide) [(3, .int (1 : Int32)), (5, .int (μ (a0 + 10) ((((40 : Int32) * a1) + a4)).toNatClampNeg)), (0, .ref (zad g a0)), (1, .int a1), (2, .int a2), (4, .int a4)] rfl ?_
            refine zi_iinc (pc' := 69) (v := (a4 + (1 : Int32))) X dX6_isSo_66 rfl 5 rfl rfl (by decide) [(4, .int (a4 + (1 : Int32))), (3, .int (1 : Int32)), (5, .int (μ (a0 + 10) ((((40 : Int32) * a1) + a4)).toNatClampNeg)), (0, .ref (zad g a0)), (1, .int a1), (2, .int a2)] rfl ?_
            refine zi_goto (pc' := 5) X dX6_isSo_69 rfl ?_
            exact zi_sub X [3, 4, 5, 1, 0] _ rfl (ih a0 a1 a2 (1 : Int32) (a4 + (1 : Int32)) (μ) ha0 h)
          · replace h := zok_f h c
            refine zi_iload (pc' := 48) X dX6_isSo_46 rfl 0 rfl ?_
            refine zi_aload_n (pc' := 49) X dX6_isSo_48 rfl rfl 1 rfl ?_
            refine zi_iload_n (pc' := 50) X dX6_isSo_49 rfl rfl 3 rfl ?_
            refine zi_iconst (pc' := 51) (v := (4 : Int32)) X dX6_isSo_50 rfl rfl ?_
            refine zi_iload (pc' := 53) X dX6_isSo_51 rfl 5 rfl ?_
            refine zi_iadd (pc' := 54) X dX6_isSo_53 rfl ?_
            refine zi_callVi (pc' := 57) X zl_X6_76 ha0 (by decide) [.int a2, .int ((4 : Int32) + a4)] rfl rfl (by decide) (Nat.le_of_ble_eq_true rfl) dX6_isSo_54 rfl (tX6_its _ ha0 (zok_bd h (fun r7 m8 h => ?_)))
            refine zi_icmp_ne (pc' := 60) (tgt := 64) X dX6_isSo_57 rfl rfl (fun c => ?_) (fun c => ?_)
            · replace h := zok_f h c
              refine zi_iconst (pc' := 65) (v := (0 : Int32)) X dX6_isSo_64 rfl rfl ?_
              refine zi_istore_n (pc' := 66) X dX6_isSo_65 rfl rfl (by decide) [(3, .int (0 : Int32)), (5, .int (μ (a0 + 10) ((((40 : Int32) * a1) + a4)).toNatClampNeg)), (0, .ref (zad g a0)), (1, .int a1), (2, .int a2), (4, .int a4)] rfl ?_
              refine zi_iinc (pc' := 69) (v := (a4 + (1 : Int32))) X dX6_isSo_66 rfl 5 rfl rfl (by decide) [(4, .int (a4 + (1 : Int32))), (3, .int (0 : Int32)), (5, .int (μ (a0 + 10) ((((40 : Int32) * a1) + a4)).toNatClampNeg)), (0, .ref (zad g a0)), (1, .int a1), (2, .int a2)] rfl ?_
              refine zi_goto (pc' := 5) X dX6_isSo_69 rfl ?_
              exact zi_sub X [3, 4, 5, 1, 0] _ rfl (ih a0 a1 a2 (0 : Int32) (a4 + (1 : Int32)) (m8) ha0 h)
            · replace h := zok_t h c
              refine zi_iconst (pc' := 61) (v := (1 : Int32)) X dX6_isSo_60 rfl rfl ?_
              refine zi_goto (pc' := 65) X dX6_isSo_61 rfl ?_
              refine zi_istore_n (pc' := 66) X dX6_isSo_65 rfl rfl (by decide) [(3, .int (1 : Int32)), (5, .int (μ (a0 + 10) ((((40 : Int32) * a1) + a4)).toNatClampNeg)), (0, .ref (zad g a0)), (1, .int a1), (2, .int a2), (4, .int a4)] rfl ?_
              refine zi_iinc (pc' := 69) (v := (a4 + (1 : Int32))) X dX6_isSo_66 rfl 5 rfl rfl (by decide) [(4, .int (a4 + (1 : Int32))), (3, .int (1 : Int32)), (5, .int (μ (a0 + 10) ((((40 : Int32) * a1) + a4)).toNatClampNeg)), (0, .ref (zad g a0)), (1, .int a1), (2, .int a2)] rfl ?_
              refine zi_goto (pc' := 5) X dX6_isSo_69 rfl ?_
              exact zi_sub X [3, 4, 5, 1, 0] _ rfl (ih a0 a1 a2 (1 : Int32) (a4 + (1 : Int32)) (m8) ha0 h)
def fX6_isSo (a0 : Nat) (a1 : Int32) (a2 : Int32) (μ : zMem) : Option (Int32 × zMem) :=
  fX6_isSo_5 200 a0 a1 a2 (1 : Int32) (0 : Int32) μ
set_option maxRecDepth 100000 in
set_option maxHeartbeats 4000000 in
theorem tX6_isSo (g : zG) {a0 : Nat} {a1 : Int32} {a2 : Int32} {μ : zMem} {Q : Int32 → zMem → Prop} (ha0 : zkd a0 = 6) (h : zok (fX6_isSo a0 a1 a2 μ) Q) : zTi g yX6_isSo cX6_isSo 6 .boolean 1 [.ref (zad g a0), .int a1, .int a2] μ Q := by
  refine zTi_of (P := fun r => r = 0 ∨ r = 1) zpb RX6 (by decide) rfl (Nat.le_of_ble_eq_true rfl) ?_
  intro κ X hret
  unfold fX6_isSo at h
  refine zi_iconst (pc' := 1) (v := (1 : Int32)) X dX6_isSo_0 rfl rfl ?_
  refine zi_istore_n (pc' := 2) X dX6_isSo_1 rfl rfl (by decide) [(3, .int (1 : Int32)), (0, .ref (zad g a0)), (1, .int a1), (2, .int a2)] rfl ?_
  refine zi_iconst (pc' := 3) (v := (0 : Int32)) X dX6_isSo_2 rfl rfl ?_
  refine zi_istore (pc' := 5) X dX6_isSo_3 rfl (by decide) [(4, .int (0 : Int32)), (3, .int (1 : Int32)), (0, .ref (zad g a0)), (1, .int a1), (2, .int a2)] rfl ?_
  exact zi_sub X [2, 3, 4, 1, 0] _ rfl (lX6_isSo_5 X hret 200 a0 a1 a2 (1 : Int32) (0 : Int32) (μ) ha0 h)
def fX6_isSpot (a0 : Int32) (μ : zMem) : Option (Int32 × zMem) :=
  zbd (fX6_in ((a0).toInt64) (0 : Int64) (9 : Int64) μ) fun r1 m2 =>
  zgd (r1 = 0 ∨ r1 = 1) (
  some (r1, m2))
set_option maxRecDepth 100000 in
set_option maxHeartbeats 4000000 in
theorem tX6_isSpot (g : zG) {a0 : Int32} {μ : zMem} {Q : Int32 → zMem → Prop} (h : zok (fX6_isSpot a0 μ) Q) : zTi g yX6_isSpot cX6_isSpot 1 .boolean 1 [.int a0] μ Q := by
  refine zTi_of (P := fun r => r = 0 ∨ r = 1) zpb RX6 (by decide) rfl (Nat.le_of_ble_eq_true rfl) ?_
  intro κ X hret
  unfold fX6_isSpot at h
  refine zi_iload_n (pc' := 1) X dX6_isSpot_0 rfl rfl 0 rfl ?_
  refine zi_i2l (pc' := 2) X dX6_isSpot_1 rfl ?_
  refine zi_lconst (pc' := 3) (v := (0 : Int64)) X dX6_isSpot_2 rfl rfl ?_
  refine zi_ldc2 (pc' := 6) X dX6_isSpot_3 rfl zk_X6_327 ?_
  refine zi_callSi (pc' := 9) X zl_X6_48 [.long ((a0).toInt64), .long (0 : Int64), .long (9 : Int64)] rfl rfl (by decide) (Nat.le_of_ble_eq_true rfl) dX6_isSpot_6 rfl (tX6_in _ (zok_bd h (fun r1 m2 h => ?_)))
  obtain ⟨g3, h⟩ := zok_g h
  exact hret _ _ _ _ dX6_isSpot_9 g3 h
def fX6_isTent (a0 : Nat) (a1 : Int32) (μ : zMem) : Option (Int32 × zMem) :=
  zgd (zib (2 : Int32) 87) (
  zbd (fX6_in ((a1).toInt64) (0 : Int64) ((((μ (a0 + 1) ((2 : Int32)).toNatClampNeg) - (1 : Int32))).toInt64) μ) fun r3 m4 =>
  zgd (r3 = 0 ∨ r3 = 1) (
  some (r3, m4)))
set_option maxRecDepth 100000 in
set_option maxHeartbeats 4000000 in
theorem tX6_isTent (g : zG) {a0 : Nat} {a1 : Int32} {μ : zMem} {Q : Int32 → zMem → Prop} (ha0 : zkd a0 = 6) (h : zok (fX6_isTent a0 a1 μ) Q) : zTi g yX6_isTent cX6_isTent 2 .boolean 1 [.ref (zad g a0), .int a1] μ Q := by
  refine zTi_of (P := fun r => r = 0 ∨ r = 1) zpb RX6 (by decide) rfl (Nat.le_of_ble_eq_true rfl) ?_
  intro κ X hret
  unfold fX6_isTent at h
  refine zi_iload_n (pc' := 1) X dX6_isTent_0 rfl rfl 1 rfl ?_
  refine zi_i2l (pc' := 2) X dX6_isTent_1 rfl ?_
  refine zi_lconst (pc' := 3) (v := (0 : Int64)) X dX6_isTent_2 rfl rfl ?_
  refine zi_aload_n (pc' := 4) X dX6_isTent_3 rfl rfl 0 rfl ?_
  refine zi_getr (pc' := 7) X zf_X6_9 rfl (by decide) ha0 dX6_isTent_4 rfl ?_
  have f1 := zr_6_0 ha0
  refine zi_iconst (pc' := 8) (v := (2 : Int32)) X dX6_isTent_7 rfl rfl ?_
  obtain ⟨g2, h⟩ := zok_g h
  refine zi_iald (pc' := 9) X f1.1 (by rw [f1.2]; exact g2) dX6_isTent_8 rfl ?_
  refine zi_iconst (pc' := 10) (v := (1 : Int32)) X dX6_isTent_9 rfl rfl ?_
  refine zi_isub (pc' := 11) X dX6_isTent_10 rfl ?_
  refine zi_i2l (pc' := 12) X dX6_isTent_11 rfl ?_
  refine zi_callSi (pc' := 15) X zl_X6_48 [.long ((a1).toInt64), .long (0 : Int64), .long ((((μ (a0 + 1) ((2 : Int32)).toNatClampNeg) - (1 : Int32))).toInt64)] rfl rfl (by decide) (Nat.le_of_ble_eq_true rfl) dX6_isTent_12 rfl (tX6_in _ (zok_bd h (fun r3 m4 h => ?_)))
  obtain ⟨g5, h⟩ := zok_g h
  exact hret _ _ _ _ dX6_isTent_15 g5 h
def fX6_isUnder_19 (a1 : Int32) (a2 : Int32) (μ : zMem) : Option (Int32 × zMem) :=
  if a2 = a1 then
    some ((1 : Int32), μ)
  else
    some ((0 : Int32), μ)
set_option maxRecDepth 100000 in
theorem lX6_isUnder_19 {g : zG} {κ : zK} (X : zC g κ RX6 cX6_isUnder 3 1) {Q : Int32 → zMem → Prop} (hret : ∀ pc lv r μ', decode cX6_isUnder pc = .ok (.ireturn, 1) → (r = 0 ∨ r = 1) → Q r μ' → zV g κ pc lv [.int r] μ') : ∀ (a1 : Int32) (a2 : Int32) (μ : zMem), zok (fX6_isUnder_19 a1 a2 μ) Q → zV g κ 19 [(1, .int a1), (2, .int a2)] [] μ := by
  intro a1 a2 μ h
  unfold fX6_isUnder_19 at h
  refine zi_iload_n (pc' := 20) X dX6_isUnder_19 rfl rfl 1 rfl ?_
  refine zi_iload_n (pc' := 21) X dX6_isUnder_20 rfl rfl 0 rfl ?_
  refine zi_icmp_ne (pc' := 24) (tgt := 28) X dX6_isUnder_21 rfl rfl (fun c => ?_) (fun c => ?_)
  · replace h := zok_f h c
    refine zi_iconst (pc' := 29) (v := (0 : Int32)) X dX6_isUnder_28 rfl rfl ?_
    exact hret _ _ _ _ dX6_isUnder_29 (by decide) h
  · replace h := zok_t h c
    refine zi_iconst (pc' := 25) (v := (1 : Int32)) X dX6_isUnder_24 rfl rfl ?_
    refine zi_goto (pc' := 29) X dX6_isUnder_25 rfl ?_
    exact hret _ _ _ _ dX6_isUnder_29 (by decide) h
def fX6_isUnder_2 : Nat → Int32 → Int32 → zMem → Option (Int32 × zMem)
  | 0, _, _, _ => none
  | n + 1, a1, a2, μ =>
    if a2 = 0 then
      fX6_isUnder_19 a1 a2 μ
    else
      if a2 = a1 then
        fX6_isUnder_19 a1 a2 μ
      else
        zbd (fX6_aboveOf a2 μ) fun r1 m2 =>
        fX6_isUnder_2 n a1 r1 m2
set_option maxRecDepth 100000 in
theorem lX6_isUnder_2 {g : zG} {κ : zK} (X : zC g κ RX6 cX6_isUnder 3 1) {Q : Int32 → zMem → Prop} (hret : ∀ pc lv r μ', decode cX6_isUnder pc = .ok (.ireturn, 1) → (r = 0 ∨ r = 1) → Q r μ' → zV g κ pc lv [.int r] μ') : ∀ (n : Nat) (a1 : Int32) (a2 : Int32) (μ : zMem), zok (fX6_isUnder_2 n a1 a2 μ) Q → zV g κ 2 [(1, .int a1), (2, .int a2)] [] μ := by
  intro n
  induction n with
  | zero =>
    intro a1 a2 μ h
    exact h.elim
  | succ n ih =>
    intro a1 a2 μ h
    rw [fX6_isUnder_2] at h
    refine zi_iload_n (pc' := 3) X dX6_isUnder_2 rfl rfl 1 rfl ?_
    refine zi_if_eq (pc' := 6) (tgt := 19) X dX6_isUnder_3 rfl rfl (fun c => ?_) (fun c => ?_)
    · replace h := zok_t h c
      exact zi_sub X [0, 1] _ rfl (lX6_isUnder_19 X hret a1 a2 (μ) h)
    · replace h := zok_f h c
      refine zi_iload_n (pc' := 7) X dX6_isUnder_6 rfl rfl 1 rfl ?_
      refine zi_iload_n (pc' := 8) X dX6_isUnder_7 rfl rfl 0 rfl ?_
      refine zi_icmp_eq (pc' := 11) (tgt := 19) X dX6_isUnder_8 rfl rfl (fun c => ?_) (fun c => ?_)
      · replace h := zok_t h c
        exact zi_sub X [0, 1] _ rfl (lX6_isUnder_19 X hret a1 a2 (μ) h)
      · replace h := zok_f h c
        refine zi_iload_n (pc' := 12) X dX6_isUnder_11 rfl rfl 1 rfl ?_
        refine zi_callSi (pc' := 15) X zl_X6_71 [.int a2] rfl rfl (by decide) (Nat.le_of_ble_eq_true rfl) dX6_isUnder_12 rfl (tX6_aboveOf _ (zok_bd h (fun r1 m2 h => ?_)))
        refine zi_istore_n (pc' := 16) X dX6_isUnder_15 rfl rfl (by decide) [(2, .int r1), (1, .int a1)] rfl ?_
        refine zi_goto (pc' := 2) X dX6_isUnder_16 rfl ?_
        exact zi_sub X [1, 0] _ rfl (ih a1 r1 (m2) h)
def fX6_isUnder (a0 : Int32) (a1 : Int32) (μ : zMem) : Option (Int32 × zMem) :=
  fX6_isUnder_2 200 a1 a0 μ
set_option maxRecDepth 100000 in
set_option maxHeartbeats 4000000 in
theorem tX6_isUnder (g : zG) {a0 : Int32} {a1 : Int32} {μ : zMem} {Q : Int32 → zMem → Prop} (h : zok (fX6_isUnder a0 a1 μ) Q) : zTi g yX6_isUnder cX6_isUnder 3 .boolean 1 [.int a0, .int a1] μ Q := by
  refine zTi_of (P := fun r => r = 0 ∨ r = 1) zpb RX6 (by decide) rfl (Nat.le_of_ble_eq_true rfl) ?_
  intro κ X hret
  unfold fX6_isUnder at h
  refine zi_iload_n (pc' := 1) X dX6_isUnder_0 rfl rfl 0 rfl ?_
  refine zi_istore_n (pc' := 2) X dX6_isUnder_1 rfl rfl (by decide) [(2, .int a0), (0, .int a0), (1, .int a1)] rfl ?_
  exact zi_sub X [2, 0] _ rfl (lX6_isUnder_2 X hret 200 a1 a0 (μ) h)
