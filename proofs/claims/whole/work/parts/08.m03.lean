def fX3_numberAtHand_7 : Nat → Nat → Int32 → Int32 → zMem → Option (Int32 × zMem)
  | 0, _, _, _, _ => none
  | n + 1, a0, a1, a2, μ =>
    if (μ a0 4) ≤ a2 then
      some (a1, μ)
    else
      if (999 : Int32) < a1 then
        fX3_numberAtHand_7 n a0 a1 (a2 + (1 : Int32)) μ
      else
        zgd (zib a2 120) (
        fX3_numberAtHand_7 n a0 (((a1 * (10 : Int32)) + (μ (a0 + 1) (a2).toNatClampNeg)) - (48 : Int32)) (a2 + (1 : Int32)) μ)
set_option maxRecDepth 100000 in
theorem lX3_numberAtHand_7 {g : zG} {κ : zK} (X : zC g κ RX3 cX3_numberAtHand 3 0) {Q : Int32 → zMem → Prop} (hret : ∀ pc lv r μ', decode cX3_numberAtHand pc = .ok (.ireturn, 1) → True → Q r μ' → zV g κ pc lv [.int r] μ') : ∀ (n : Nat) (a0 : Nat) (a1 : Int32) (a2 : Int32) (μ : zMem) (ha0 : zkd a0 = 3), zok (fX3_numberAtHand_7 n a0 a1 a2 μ) Q → zV g κ 7 [(0, .ref (zad g a0)), (1, .int a1), (2, .int a2)] [] μ := by
  intro n
  induction n with
  | zero =>
    intro a0 a1 a2 μ ha0 h
    exact h.elim
  | succ n ih =>
    intro a0 a1 a2 μ ha0 h
    rw [fX3_numberAtHand_7] at h
    refine zi_iload_n (pc' := 8) X dX3_numberAtHand_7 rfl rfl 2 rfl ?_
    refine zi_aload_n (pc' := 9) X dX3_numberAtHand_8 rfl rfl 0 rfl ?_
    refine zi_geti (pc' := 12) X zf_X3_25 rfl (by decide) ha0 dX3_numberAtHand_9 rfl ?_
    refine zi_icmp_ge (pc' := 15) (tgt := 43) X dX3_numberAtHand_12 rfl rfl (fun c => ?_) (fun c => ?_)
    · replace h := zok_t h c
      refine zi_iload_n (pc' := 44) X dX3_numberAtHand_43 rfl rfl 1 rfl ?_
      exact hret _ _ _ _ dX3_numberAtHand_44 trivial h
    · replace h := zok_f h c
      refine zi_iload_n (pc' := 16) X dX3_numberAtHand_15 rfl rfl 1 rfl ?_
      refine zi_sipush (pc' := 19) (v := (999 : Int32)) X dX3_numberAtHand_16 rfl rfl ?_
      refine zi_icmp_gt (pc' := 22) (tgt := 37) X dX3_numberAtHand_19 rfl rfl (fun c => ?_) (fun c => ?_)
      · replace h := zok_t h c
        refine zi_iinc (pc' := 40) (v := (a2 + (1 : Int32))) X dX3_numberAtHand_37 rfl 2 rfl rfl (by decide) [(2, .int (a2 + (1 : Int32))), (0, .ref (zad g a0)), (1, .int a1)] rfl ?_
        refine zi_goto (pc' := 7) X dX3_numberAtHand_40 rfl ?_
        exact zi_sub X [1, 2, 0] _ rfl (ih a0 a1 (a2 + (1 : Int32)) (μ) ha0 h)
      · replace h := zok_f h c
        refine zi_iload_n (pc' := 23) X dX3_numberAtHand_22 rfl rfl 1 rfl ?_
        refine zi_bipush (pc' := 25) (v := (10 : Int32)) X dX3_numberAtHand_23 rfl rfl ?_
        refine zi_imul (pc' := 26) X dX3_numberAtHand_25 rfl ?_
        refine zi_aload_n (pc' := 27) X dX3_numberAtHand_26 rfl rfl 0 rfl ?_
        refine zi_getr (pc' := 30) X zf_X3_9 rfl (by decide) ha0 dX3_numberAtHand_27 rfl ?_
        have f1 := zr_3_0 ha0
        refine zi_iload_n (pc' := 31) X dX3_numberAtHand_30 rfl rfl 2 rfl ?_
        obtain ⟨g2, h⟩ := zok_g h
        refine zi_iald (pc' := 32) X f1.1 (by rw [f1.2]; exact g2) dX3_numberAtHand_31 rfl ?_
        refine zi_iadd (pc' := 33) X dX3_numberAtHand_32 rfl ?_
        refine zi_bipush (pc' := 35) (v := (48 : Int32)) X dX3_numberAtHand_33 rfl rfl ?_
        refine zi_isub (pc' := 36) X dX3_numberAtHand_35 rfl ?_
        refine zi_istore_n (pc' := 37) X dX3_numberAtHand_36 rfl rfl (by decide) [(1, .int (((a1 * (10 : Int32)) + (μ (a0 + 1) (a2).toNatClampNeg)) - (48 : Int32))), (0, .ref (zad g a0)), (2, .int a2)] rfl ?_
        refine zi_iinc (pc' := 40) (v := (a2 + (1 : Int32))) X dX3_numberAtHand_37 rfl 2 rfl rfl (by decide) [(2, .int (a2 + (1 : Int32))), (1, .int (((a1 * (10 : Int32)) + (μ (a0 + 1) (a2).toNatClampNeg)) - (48 : Int32))), (0, .ref (zad g a0))] rfl ?_
        refine zi_goto (pc' := 7) X dX3_numberAtHand_40 rfl ?_
        exact zi_sub X [2, 1, 0] _ rfl (ih a0 (((a1 * (10 : Int32)) + (μ (a0 + 1) (a2).toNatClampNeg)) - (48 : Int32)) (a2 + (1 : Int32)) (μ) ha0 h)
def fX3_numberAtHand (a0 : Nat) (μ : zMem) : Option (Int32 × zMem) :=
  fX3_numberAtHand_7 200 a0 (0 : Int32) (μ a0 3) μ
set_option maxRecDepth 100000 in
set_option maxHeartbeats 4000000 in
theorem tX3_numberAtHand (g : zG) {a0 : Nat} {μ : zMem} {Q : Int32 → zMem → Prop} (ha0 : zkd a0 = 3) (h : zok (fX3_numberAtHand a0 μ) Q) : zTi g yX3_numberAtHand cX3_numberAtHand 3 .int 0 [.ref (zad g a0)] μ Q := by
  refine zTi_of (P := fun r => True) zpi RX3 (by decide) rfl (Nat.le_of_ble_eq_true rfl) ?_
  intro κ X hret
  unfold fX3_numberAtHand at h
  refine zi_iconst (pc' := 1) (v := (0 : Int32)) X dX3_numberAtHand_0 rfl rfl ?_
  refine zi_istore_n (pc' := 2) X dX3_numberAtHand_1 rfl rfl (by decide) [(1, .int (0 : Int32)), (0, .ref (zad g a0))] rfl ?_
  refine zi_aload_n (pc' := 3) X dX3_numberAtHand_2 rfl rfl 1 rfl ?_
  refine zi_geti (pc' := 6) X zf_X3_22 rfl (by decide) ha0 dX3_numberAtHand_3 rfl ?_
  refine zi_istore_n (pc' := 7) X dX3_numberAtHand_6 rfl rfl (by decide) [(2, .int (μ a0 3)), (1, .int (0 : Int32)), (0, .ref (zad g a0))] rfl ?_
  exact zi_sub X [2, 1, 0] _ rfl (lX3_numberAtHand_7 X hret 200 a0 (0 : Int32) (μ a0 3) (μ) ha0 h)
def fX3_sortAt_45 (a2 : Int32) (μ : zMem) : Option (Int32 × zMem) :=
  if a2 = (59 : Int32) then
    some ((3 : Int32), μ)
  else
    some ((4 : Int32), μ)
set_option maxRecDepth 100000 in
theorem lX3_sortAt_45 {g : zG} {κ : zK} (X : zC g κ RX3 cX3_sortAt 3 0) {Q : Int32 → zMem → Prop} (hret : ∀ pc lv r μ', decode cX3_sortAt pc = .ok (.ireturn, 1) → True → Q r μ' → zV g κ pc lv [.int r] μ') : ∀ (a2 : Int32) (μ : zMem), zok (fX3_sortAt_45 a2 μ) Q → zV g κ 45 [(2, .int a2)] [] μ := by
  intro a2 μ h
  unfold fX3_sortAt_45 at h
  refine zi_iload_n (pc' := 46) X dX3_sortAt_45 rfl rfl 0 rfl ?_
  refine zi_bipush (pc' := 48) (v := (59 : Int32)) X dX3_sortAt_46 rfl rfl ?_
  refine zi_icmp_ne (pc' := 51) (tgt := 55) X dX3_sortAt_48 rfl rfl (fun c => ?_) (fun c => ?_)
  · replace h := zok_f h c
    refine zi_iconst (pc' := 56) (v := (4 : Int32)) X dX3_sortAt_55 rfl rfl ?_
    exact hret _ _ _ _ dX3_sortAt_56 trivial h
  · replace h := zok_t h c
    refine zi_iconst (pc' := 52) (v := (3 : Int32)) X dX3_sortAt_51 rfl rfl ?_
    refine zi_goto (pc' := 56) X dX3_sortAt_52 rfl ?_
    exact hret _ _ _ _ dX3_sortAt_56 trivial h
def fX3_sortAt_31 (a2 : Int32) (μ : zMem) : Option (Int32 × zMem) :=
  if a2 < (48 : Int32) then
    fX3_sortAt_45 a2 μ
  else
    if (57 : Int32) < a2 then
      fX3_sortAt_45 a2 μ
    else
      some ((2 : Int32), μ)
set_option maxRecDepth 100000 in
theorem lX3_sortAt_31 {g : zG} {κ : zK} (X : zC g κ RX3 cX3_sortAt 3 0) {Q : Int32 → zMem → Prop} (hret : ∀ pc lv r μ', decode cX3_sortAt pc = .ok (.ireturn, 1) → True → Q r μ' → zV g κ pc lv [.int r] μ') : ∀ (a2 : Int32) (μ : zMem), zok (fX3_sortAt_31 a2 μ) Q → zV g κ 31 [(2, .int a2)] [] μ := by
  intro a2 μ h
  unfold fX3_sortAt_31 at h
  refine zi_iload_n (pc' := 32) X dX3_sortAt_31 rfl rfl 0 rfl ?_
  refine zi_bipush (pc' := 34) (v := (48 : Int32)) X dX3_sortAt_32 rfl rfl ?_
  refine zi_icmp_lt (pc' := 37) (tgt := 45) X dX3_sortAt_34 rfl rfl (fun c => ?_) (fun c => ?_)
  · replace h := zok_t h c
    exact zi_sub X [0] _ rfl (lX3_sortAt_45 X hret a2 (μ) h)
  · replace h := zok_f h c
    refine zi_iload_n (pc' := 38) X dX3_sortAt_37 rfl rfl 0 rfl ?_
    refine zi_bipush (pc' := 40) (v := (57 : Int32)) X dX3_sortAt_38 rfl rfl ?_
    refine zi_icmp_gt (pc' := 43) (tgt := 45) X dX3_sortAt_40 rfl rfl (fun c => ?_) (fun c => ?_)
    · replace h := zok_t h c
      exact zi_sub X [0] _ rfl (lX3_sortAt_45 X hret a2 (μ) h)
    · replace h := zok_f h c
      refine zi_iconst (pc' := 44) (v := (2 : Int32)) X dX3_sortAt_43 rfl rfl ?_
      exact hret _ _ _ _ dX3_sortAt_44 trivial h
def fX3_sortAt (a0 : Nat) (a1 : Int32) (μ : zMem) : Option (Int32 × zMem) :=
  if a1 < (μ a0 1) then
    zgd (zib a1 120) (
    if (μ (a0 + 1) (a1).toNatClampNeg) < (97 : Int32) then
      fX3_sortAt_31 (μ (a0 + 1) (a1).toNatClampNeg) μ
    else
      if (122 : Int32) < (μ (a0 + 1) (a1).toNatClampNeg) then
        fX3_sortAt_31 (μ (a0 + 1) (a1).toNatClampNeg) μ
      else
        some ((1 : Int32), μ))
  else
    some ((0 : Int32), μ)
set_option maxRecDepth 100000 in
set_option maxHeartbeats 4000000 in
theorem tX3_sortAt (g : zG) {a0 : Nat} {a1 : Int32} {μ : zMem} {Q : Int32 → zMem → Prop} (ha0 : zkd a0 = 3) (h : zok (fX3_sortAt a0 a1 μ) Q) : zTi g yX3_sortAt cX3_sortAt 3 .int 0 [.ref (zad g a0), .int a1] μ Q := by
  refine zTi_of (P := fun r => True) zpi RX3 (by decide) rfl (Nat.le_of_ble_eq_true rfl) ?_
  intro κ X hret
  unfold fX3_sortAt at h
  refine zi_iload_n (pc' := 1) X dX3_sortAt_0 rfl rfl 1 rfl ?_
  refine zi_aload_n (pc' := 2) X dX3_sortAt_1 rfl rfl 0 rfl ?_
  refine zi_geti (pc' := 5) X zf_X3_15 rfl (by decide) ha0 dX3_sortAt_2 rfl ?_
  refine zi_icmp_lt (pc' := 8) (tgt := 10) X dX3_sortAt_5 rfl rfl (fun c => ?_) (fun c => ?_)
  · replace h := zok_t h c
    refine zi_aload_n (pc' := 11) X dX3_sortAt_10 rfl rfl 0 rfl ?_
    refine zi_getr (pc' := 14) X zf_X3_9 rfl (by decide) ha0 dX3_sortAt_11 rfl ?_
    have f1 := zr_3_0 ha0
    refine zi_iload_n (pc' := 15) X dX3_sortAt_14 rfl rfl 1 rfl ?_
    obtain ⟨g2, h⟩ := zok_g h
    refine zi_iald (pc' := 16) X f1.1 (by rw [f1.2]; exact g2) dX3_sortAt_15 rfl ?_
    refine zi_istore_n (pc' := 17) X dX3_sortAt_16 rfl rfl (by decide) [(2, .int (μ (a0 + 1) (a1).toNatClampNeg)), (0, .ref (zad g a0)), (1, .int a1)] rfl ?_
    refine zi_iload_n (pc' := 18) X dX3_sortAt_17 rfl rfl 0 rfl ?_
    refine zi_bipush (pc' := 20) (v := (97 : Int32)) X dX3_sortAt_18 rfl rfl ?_
    refine zi_icmp_lt (pc' := 23) (tgt := 31) X dX3_sortAt_20 rfl rfl (fun c => ?_) (fun c => ?_)
    · replace h := zok_t h c
      exact zi_sub X [0] _ rfl (lX3_sortAt_31 X hret (μ (a0 + 1) (a1).toNatClampNeg) (μ) h)
    · replace h := zok_f h c
      refine zi_iload_n (pc' := 24) X dX3_sortAt_23 rfl rfl 0 rfl ?_
      refine zi_bipush (pc' := 26) (v := (122 : Int32)) X dX3_sortAt_24 rfl rfl ?_
      refine zi_icmp_gt (pc' := 29) (tgt := 31) X dX3_sortAt_26 rfl rfl (fun c => ?_) (fun c => ?_)
      · replace h := zok_t h c
        exact zi_sub X [0] _ rfl (lX3_sortAt_31 X hret (μ (a0 + 1) (a1).toNatClampNeg) (μ) h)
      · replace h := zok_f h c
        refine zi_iconst (pc' := 30) (v := (1 : Int32)) X dX3_sortAt_29 rfl rfl ?_
        exact hret _ _ _ _ dX3_sortAt_30 trivial h
  · replace h := zok_f h c
    refine zi_iconst (pc' := 9) (v := (0 : Int32)) X dX3_sortAt_8 rfl rfl ?_
    exact hret _ _ _ _ dX3_sortAt_9 trivial h
def fX3_isNumberTo (a0 : Nat) (a1 : Int32) (μ : zMem) : Option (Int32 × zMem) :=
  if (μ a0 2) = (2 : Int32) then
    zbd (fX5_within (μ a0 5) (0 : Int32) a1 μ) fun r1 m2 =>
    if r1 = 0 then
      some ((0 : Int32), m2)
    else
      some ((1 : Int32), m2)
  else
    some ((0 : Int32), μ)
set_option maxRecDepth 100000 in
set_option maxHeartbeats 4000000 in
theorem tX3_isNumberTo (g : zG) {a0 : Nat} {a1 : Int32} {μ : zMem} {Q : Int32 → zMem → Prop} (ha0 : zkd a0 = 3) (h : zok (fX3_isNumberTo a0 a1 μ) Q) : zTi g yX3_isNumberTo cX3_isNumberTo 2 .boolean 1 [.ref (zad g a0), .int a1] μ Q := by
  refine zTi_of (P := fun r => r = 0 ∨ r = 1) zpb RX3 (by decide) rfl (Nat.le_of_ble_eq_true rfl) ?_
  intro κ X hret
  unfold fX3_isNumberTo at h
  refine zi_aload_n (pc' := 1) X dX3_isNumberTo_0 rfl rfl 0 rfl ?_
  refine zi_geti (pc' := 4) X zf_X3_19 rfl (by decide) ha0 dX3_isNumberTo_1 rfl ?_
  refine zi_iconst (pc' := 5) (v := (2 : Int32)) X dX3_isNumberTo_4 rfl rfl ?_
  refine zi_icmp_ne (pc' := 8) (tgt := 24) X dX3_isNumberTo_5 rfl rfl (fun c => ?_) (fun c => ?_)
  · replace h := zok_f h c
    refine zi_iconst (pc' := 25) (v := (0 : Int32)) X dX3_isNumberTo_24 rfl rfl ?_
    exact hret _ _ _ _ dX3_isNumberTo_25 (by decide) h
  · replace h := zok_t h c
    refine zi_aload_n (pc' := 9) X dX3_isNumberTo_8 rfl rfl 0 rfl ?_
    refine zi_geti (pc' := 12) X zf_X3_28 rfl (by decide) ha0 dX3_isNumberTo_9 rfl ?_
    refine zi_iconst (pc' := 13) (v := (0 : Int32)) X dX3_isNumberTo_12 rfl rfl ?_
    refine zi_iload_n (pc' := 14) X dX3_isNumberTo_13 rfl rfl 1 rfl ?_
    refine zi_callSi (pc' := 17) X zl_X3_125 [.int (μ a0 5), .int (0 : Int32), .int a1] rfl rfl (by decide) (Nat.le_of_ble_eq_true rfl) dX3_isNumberTo_14 rfl (tX5_within _ (zok_bd h (fun r1 m2 h => ?_)))
    refine zi_if_eq (pc' := 20) (tgt := 24) X dX3_isNumberTo_17 rfl rfl (fun c => ?_) (fun c => ?_)
    · replace h := zok_t h c
      refine zi_iconst (pc' := 25) (v := (0 : Int32)) X dX3_isNumberTo_24 rfl rfl ?_
      exact hret _ _ _ _ dX3_isNumberTo_25 (by decide) h
    · replace h := zok_f h c
      refine zi_iconst (pc' := 21) (v := (1 : Int32)) X dX3_isNumberTo_20 rfl rfl ?_
      refine zi_goto (pc' := 25) X dX3_isNumberTo_21 rfl ?_
      exact hret _ _ _ _ dX3_isNumberTo_25 (by decide) h
def fX3_nextToken_139 (a0 : Nat) (μ : zMem) : Option (Unit × zMem) :=
  if (μ a0 2) = (2 : Int32) then
    zbd (fX3_numberAtHand a0 μ) fun r3 m4 =>
    some ((), (zst m4 a0 5 r3))
  else
    some ((), (zst μ a0 5 (0 : Int32)))
set_option maxRecDepth 100000 in
theorem lX3_nextToken_139 {g : zG} {κ : zK} (X : zC g κ RX3 cX3_nextToken 1 1) {Q : Unit → zMem → Prop} (hret : ∀ pc lv μ', decode cX3_nextToken pc = .ok (.return_, 1) → Q () μ' → zV g κ pc lv [] μ') : ∀ (a0 : Nat) (μ : zMem) (ha0 : zkd a0 = 3), zok (fX3_nextToken_139 a0 μ) Q → zV g κ 139 [(0, .ref (zad g a0))] [] μ := by
  intro a0 μ ha0 h
  unfold fX3_nextToken_139 at h
  refine zi_aload_n (pc' := 140) X dX3_nextToken_139 rfl rfl 0 rfl ?_
  refine zi_aload_n (pc' := 141) X dX3_nextToken_140 rfl rfl 0 rfl ?_
  refine zi_geti (pc' := 144) X zf_X3_19 rfl (by decide) ha0 dX3_nextToken_141 rfl ?_
  refine zi_iconst (pc' := 145) (v := (2 : Int32)) X dX3_nextToken_144 rfl rfl ?_
  refine zi_icmp_ne (pc' := 148) (tgt := 155) X dX3_nextToken_145 rfl rfl (fun c => ?_) (fun c => ?_)
  · replace h := zok_f h c
    refine zi_iconst (pc' := 156) (v := (0 : Int32)) X dX3_nextToken_155 rfl rfl ?_
    refine zi_put (pc' := 159) X zf_X3_28 zw_3_5 rfl (by decide) ha0 rfl rfl dX3_nextToken_156 rfl ?_
    exact hret _ _ _ dX3_nextToken_159 h
  · replace h := zok_t h c
    refine zi_aload_n (pc' := 149) X dX3_nextToken_148 rfl rfl 0 rfl ?_
    refine zi_callVi (pc' := 152) X zl_X3_142 ha0 (by decide) [] rfl rfl (by decide) (Nat.le_of_ble_eq_true rfl) dX3_nextToken_149 rfl (tX3_numberAtHand _ ha0 (zok_bd h (fun r3 m4 h => ?_)))
    refine zi_goto (pc' := 156) X dX3_nextToken_152 rfl ?_
    refine zi_put (pc' := 159) X zf_X3_28 zw_3_5 rfl (by decide) ha0 rfl rfl dX3_nextToken_156 rfl ?_
    exact hret _ _ _ dX3_nextToken_159 h
def fX3_nextToken_100 (k84 : Nat → zMem → Option (Unit × zMem)) (a0 : Nat) (μ : zMem) : Option (Unit × zMem) :=
  if (μ a0 1) ≤ (μ a0 4) then
    fX3_nextToken_139 a0 μ
  else
    zbd (fX3_sortAt a0 (μ a0 4) μ) fun r5 m6 =>
    if r5 = (m6 a0 2) then
      k84 a0 (zst m6 a0 4 ((m6 a0 4) + (1 : Int32)))
    else
      fX3_nextToken_139 a0 m6
set_option maxRecDepth 100000 in
theorem lX3_nextToken_100 {g : zG} {κ : zK} (X : zC g κ RX3 cX3_nextToken 1 1) {Q : Unit → zMem → Prop} (hret : ∀ pc lv μ', decode cX3_nextToken pc = .ok (.return_, 1) → Q () μ' → zV g κ pc lv [] μ') {k84 : Nat → zMem → Option (Unit × zMem)} (hk84 : ∀ (a0 : Nat) (μ : zMem) (_ : zkd a0 = 3), zok (k84 a0 μ) Q → zV g κ 84 [(0, .ref (zad g a0))] [] μ) : ∀ (a0 : Nat) (μ : zMem) (ha0 : zkd a0 = 3), zok (fX3_nextToken_100 k84 a0 μ) Q → zV g κ 100 [(0, .ref (zad g a0))] [] μ := by
  intro a0 μ ha0 h
  unfold fX3_nextToken_100 at h
  refine zi_aload_n (pc' := 101) X dX3_nextToken_100 rfl rfl 0 rfl ?_
  refine zi_geti (pc' := 104) X zf_X3_25 rfl (by decide) ha0 dX3_nextToken_101 rfl ?_
  refine zi_aload_n (pc' := 105) X dX3_nextToken_104 rfl rfl 0 rfl ?_
  refine zi_geti (pc' := 108) X zf_X3_15 rfl (by decide) ha0 dX3_nextToken_105 rfl ?_
  refine zi_icmp_ge (pc' := 111) (tgt := 139) X dX3_nextToken_108 rfl rfl (fun c => ?_) (fun c => ?_)
  · replace h := zok_t h c
    exact zi_sub X [0] _ rfl (lX3_nextToken_139 X hret a0 (μ) ha0 h)
  · replace h := zok_f h c
    refine zi_aload_n (pc' := 112) X dX3_nextToken_111 rfl rfl 0 rfl ?_
    refine zi_aload_n (pc' := 113) X dX3_nextToken_112 rfl rfl 0 rfl ?_
    refine zi_geti (pc' := 116) X zf_X3_25 rfl (by decide) ha0 dX3_nextToken_113 rfl ?_
    refine zi_callVi (pc' := 119) X zl_X3_138 ha0 (by decide) [.int (μ a0 4)] rfl rfl (by decide) (Nat.le_of_ble_eq_true rfl) dX3_nextToken_116 rfl (tX3_sortAt _ ha0 (zok_bd h (fun r5 m6 h => ?_)))
    refine zi_aload_n (pc' := 120) X dX3_nextToken_119 rfl rfl 0 rfl ?_
    refine zi_geti (pc' := 123) X zf_X3_19 rfl (by decide) ha0 dX3_nextToken_120 rfl ?_
    refine zi_icmp_ne (pc' := 126) (tgt := 139) X dX3_nextToken_123 rfl rfl (fun c => ?_) (fun c => ?_)
    · replace h := zok_f h c
      exact zi_sub X [0] _ rfl (lX3_nextToken_139 X hret a0 (m6) ha0 h)
    · replace h := zok_t h c
      refine zi_aload_n (pc' := 127) X dX3_nextToken_126 rfl rfl 0 rfl ?_
      refine zi_dup (pc' := 128) X dX3_nextToken_127 rfl rfl ?_
      refine zi_geti (pc' := 131) X zf_X3_25 rfl (by decide) ha0 dX3_nextToken_128 rfl ?_
      refine zi_iconst (pc' := 132) (v := (1 : Int32)) X dX3_nextToken_131 rfl rfl ?_
      refine zi_iadd (pc' := 133) X dX3_nextToken_132 rfl ?_
      refine zi_put (pc' := 136) X zf_X3_25 zw_3_4 rfl (by decide) ha0 rfl rfl dX3_nextToken_133 rfl ?_
      refine zi_goto (pc' := 84) X dX3_nextToken_136 rfl ?_
      exact zi_sub X [0] _ rfl (hk84 a0 ((zst m6 a0 4 ((m6 a0 4) + (1 : Int32)))) ha0 h)
def fX3_nextToken_84 : Nat → Nat → zMem → Option (Unit × zMem)
  | 0, _, _ => none
  | n + 1, a0, μ =>
    if (μ a0 2) = (1 : Int32) then
      fX3_nextToken_100 (fX3_nextToken_84 n) a0 μ
    else
      if (μ a0 2) = (2 : Int32) then
        fX3_nextToken_100 (fX3_nextToken_84 n) a0 μ
      else
        fX3_nextToken_139 a0 μ
set_option maxRecDepth 100000 in
theorem lX3_nextToken_84 {g : zG} {κ : zK} (X : zC g κ RX3 cX3_nextToken 1 1) {Q : Unit → zMem → Prop} (hret : ∀ pc lv μ', decode cX3_nextToken pc = .ok (.return_, 1) → Q () μ' → zV g κ pc lv [] μ') : ∀ (n : Nat) (a0 : Nat) (μ : zMem) (ha0 : zkd a0 = 3), zok (fX3_nextToken_84 n a0 μ) Q → zV g κ 84 [(0, .ref (zad g a0))] [] μ := by
  intro n
  induction n with
  | zero =>
    intro a0 μ ha0 h
    exact h.elim
  | succ n ih =>
    intro a0 μ ha0 h
    rw [fX3_nextToken_84] at h
    refine zi_aload_n (pc' := 85) X dX3_nextToken_84 rfl rfl 0 rfl ?_
    refine zi_geti (pc' := 88) X zf_X3_19 rfl (by decide) ha0 dX3_nextToken_85 rfl ?_
    refine zi_iconst (pc' := 89) (v := (1 : Int32)) X dX3_nextToken_88 rfl rfl ?_
    refine zi_icmp_eq (pc' := 92) (tgt := 100) X dX3_nextToken_89 rfl rfl (fun c => ?_) (fun c => ?_)
    · replace h := zok_t h c
      exact zi_sub X [0] _ rfl (lX3_nextToken_100 X hret ih a0 (μ) ha0 h)
    · replace h := zok_f h c
      refine zi_aload_n (pc' := 93) X dX3_nextToken_92 rfl rfl 0 rfl ?_
      refine zi_geti (pc' := 96) X zf_X3_19 rfl (by decide) ha0 dX3_nextToken_93 rfl ?_
      refine zi_iconst (pc' := 97) (v := (2 : Int32)) X dX3_nextToken_96 rfl rfl ?_
      refine zi_icmp_ne (pc' := 100) (tgt := 139) X dX3_nextToken_97 rfl rfl (fun c => ?_) (fun c => ?_)
      · replace h := zok_f h c
        exact zi_sub X [0] _ rfl (lX3_nextToken_139 X hret a0 (μ) ha0 h)
      · replace h := zok_t h c
        exact zi_sub X [0] _ rfl (lX3_nextToken_100 X hret ih a0 (μ) ha0 h)
def fX3_nextToken_46 (a0 : Nat) (μ : zMem) : Option (Unit × zMem) :=
  zbd (fX3_sortAt a0 ((zst μ a0 4 (μ a0 3)) a0 3) (zst μ a0 4 (μ a0 3))) fun r1 m2 =>
  if ((zst m2 a0 2 r1) a0 2) = 0 then
    some ((), (zst m2 a0 2 r1))
  else
    fX3_nextToken_84 200 a0 (zst (zst m2 a0 2 r1) a0 4 (((zst m2 a0 2 r1) a0 4) + (1 : Int32)))
set_option maxRecDepth 100000 in
theorem lX3_nextToken_46 {g : zG} {κ : zK} (X : zC g κ RX3 cX3_nextToken 1 1) {Q : Unit → zMem → Prop} (hret : ∀ pc lv μ', decode cX3_nextToken pc = .ok (.return_, 1) → Q () μ' → zV g κ pc lv [] μ') : ∀ (a0 : Nat) (μ : zMem) (ha0 : zkd a0 = 3), zok (fX3_nextToken_46 a0 μ) Q → zV g κ 46 [(0, .ref (zad g a0))] [] μ := by
  intro a0 μ ha0 h
  unfold fX3_nextToken_46 at h
  refine zi_aload_n (pc' := 47) X dX3_nextToken_46 rfl rfl 0 rfl ?_
  refine zi_aload_n (pc' := 48) X dX3_nextToken_47 rfl rfl 0 rfl ?_
  refine zi_geti (pc' := 51) X zf_X3_22 rfl (by decide) ha0 dX3_nextToken_48 rfl ?_
  refine zi_put (pc' := 54) X zf_X3_25 zw_3_4 rfl (by decide) ha0 rfl rfl dX3_nextToken_51 rfl ?_
  refine zi_aload_n (pc' := 55) X dX3_nextToken_54 rfl rfl 0 rfl ?_
  refine zi_aload_n (pc' := 56) X dX3_nextToken_55 rfl rfl 0 rfl ?_
  refine zi_aload_n (pc' := 57) X dX3_nextToken_56 rfl rfl 0 rfl ?_
  refine zi_geti (pc' := 60) X zf_X3_22 rfl (by decide) ha0 dX3_nextToken_57 rfl ?_
  refine zi_callVi (pc' := 63) X zl_X3_138 ha0 (by decide) [.int ((zst μ a0 4 (μ a0 3)) a0 3)] rfl rfl (by decide) (Nat.le_of_ble_eq_true rfl) dX3_nextToken_60 rfl (tX3_sortAt _ ha0 (zok_bd h (fun r1 m2 h => ?_)))
  refine zi_put (pc' := 66) X zf_X3_19 zw_3_2 rfl (by decide) ha0 rfl rfl dX3_nextToken_63 rfl ?_
  refine zi_aload_n (pc' := 67) X dX3_nextToken_66 rfl rfl 0 rfl ?_
  refine zi_geti (pc' := 70) X zf_X3_19 rfl (by decide) ha0 dX3_nextToken_67 rfl ?_
  refine zi_if_ne (pc' := 73) (tgt := 74) X dX3_nextToken_70 rfl rfl (fun c => ?_) (fun c => ?_)
  · replace h := zok_f h c
    refine zi_aload_n (pc' := 75) X dX3_nextToken_74 rfl rfl 0 rfl ?_
    refine zi_dup (pc' := 76) X dX3_nextToken_75 rfl rfl ?_
    refine zi_geti (pc' := 79) X zf_X3_25 rfl (by decide) ha0 dX3_nextToken_76 rfl ?_
    refine zi_iconst (pc' := 80) (v := (1 : Int32)) X dX3_nextToken_79 rfl rfl ?_
    refine zi_iadd (pc' := 81) X dX3_nextToken_80 rfl ?_
    refine zi_put (pc' := 84) X zf_X3_25 zw_3_4 rfl (by decide) ha0 rfl rfl dX3_nextToken_81 rfl ?_
    exact zi_sub X [0] _ rfl (lX3_nextToken_84 X hret 200 a0 ((zst (zst m2 a0 2 r1) a0 4 (((zst m2 a0 2 r1) a0 4) + (1 : Int32)))) ha0 h)
  · replace h := zok_t h c
    exact hret _ _ _ dX3_nextToken_73 h
def fX3_nextToken_8 : Nat → Nat → zMem → Option (Unit × zMem)
  | 0, _, _ => none
  | n + 1, a0, μ =>
    if (μ a0 1) ≤ (μ a0 3) then
      fX3_nextToken_46 a0 μ
    else
      zgd (zib (μ a0 3) 120) (
      if (μ (a0 + 1) ((μ a0 3)).toNatClampNeg) = (32 : Int32) then
        fX3_nextToken_8 n a0 (zst μ a0 3 ((μ a0 3) + (1 : Int32)))
      else
        fX3_nextToken_46 a0 μ)
set_option maxRecDepth 100000 in
theorem lX3_nextToken_8 {g : zG} {κ : zK} (X : zC g κ RX3 cX3_nextToken 1 1) {Q : Unit → zMem → Prop} (hret : ∀ pc lv μ', decode cX3_nextToken pc = .ok (.return_, 1) → Q () μ' → zV g κ pc lv [] μ') : ∀ (n : Nat) (a0 : Nat) (μ : zMem) (ha0 : zkd a0 = 3), zok (fX3_nextToken_8 n a0 μ) Q → zV g κ 8 [(0, .ref (zad g a0))] [] μ := by
  intro n
  induction n with
  | zero =>
    intro a0 μ ha0 h
    exact h.elim
  | succ n ih =>
    intro a0 μ ha0 h
    rw [fX3_nextToken_8] at h
    refine zi_aload_n (pc' := 9) X dX3_nextToken_8 rfl rfl 0 rfl ?_
    refine zi_geti (pc' := 12) X zf_X3_22 rfl (by decide) ha0 dX3_nextToken_9 rfl ?_
    refine zi_aload_n (pc' := 13) X dX3_nextToken_12 rfl rfl 0 rfl ?_
    refine zi_geti (pc' := 16) X zf_X3_15 rfl (by decide) ha0 dX3_nextToken_13 rfl ?_
    refine zi_icmp_ge (pc' := 19) (tgt := 46) X dX3_nextToken_16 rfl rfl (fun c => ?_) (fun c => ?_)
    · replace h := zok_t h c
      exact zi_sub X [0] _ rfl (lX3_nextToken_46 X hret a0 (μ) ha0 h)
    · replace h := zok_f h c
      refine zi_aload_n (pc' := 20) X dX3_nextToken_19 rfl rfl 0 rfl ?_
      refine zi_getr (pc' := 23) X zf_X3_9 rfl (by decide) ha0 dX3_nextToken_20 rfl ?_
      have f7 := zr_3_0 ha0
      refine zi_aload_n (pc' := 24) X dX3_nextToken_23 rfl rfl 0 rfl ?_
      refine zi_geti (pc' := 27) X zf_X3_22 rfl (by decide) ha0 dX3_nextToken_24 rfl ?_
      obtain ⟨g8, h⟩ := zok_g h
      refine zi_iald (pc' := 28) X f7.1 (by rw [f7.2]; exact g8) dX3_nextToken_27 rfl ?_
      refine zi_bipush (pc' := 30) (v := (32 : Int32)) X dX3_nextToken_28 rfl rfl ?_
      refine zi_icmp_ne (pc' := 33) (tgt := 46) X dX3_nextToken_30 rfl rfl (fun c => ?_) (fun c => ?_)
      · replace h := zok_f h c
        exact zi_sub X [0] _ rfl (lX3_nextToken_46 X hret a0 (μ) ha0 h)
      · replace h := zok_t h c
        refine zi_aload_n (pc' := 34) X dX3_nextToken_33 rfl rfl 0 rfl ?_
        refine zi_dup (pc' := 35) X dX3_nextToken_34 rfl rfl ?_
        refine zi_geti (pc' := 38) X zf_X3_22 rfl (by decide) ha0 dX3_nextToken_35 rfl ?_
        refine zi_iconst (pc' := 39) (v := (1 : Int32)) X dX3_nextToken_38 rfl rfl ?_
        refine zi_iadd (pc' := 40) X dX3_nextToken_39 rfl ?_
        refine zi_put (pc' := 43) X zf_X3_22 zw_3_3 rfl (by decide) ha0 rfl rfl dX3_nextToken_40 rfl ?_
        refine zi_goto (pc' := 8) X dX3_nextToken_43 rfl ?_
        exact zi_sub X [0] _ rfl (ih a0 ((zst μ a0 3 ((μ a0 3) + (1 : Int32)))) ha0 h)
def fX3_nextToken (a0 : Nat) (μ : zMem) : Option (Unit × zMem) :=
  fX3_nextToken_8 200 a0 (zst μ a0 3 (μ a0 4))
set_option maxRecDepth 100000 in
set_option maxHeartbeats 4000000 in
theorem tX3_nextToken (g : zG) {a0 : Nat} {μ : zMem} {Q : Unit → zMem → Prop} (ha0 : zkd a0 = 3) (h : zok (fX3_nextToken a0 μ) Q) : zTv g yX3_nextToken cX3_nextToken 1 1 [.ref (zad g a0)] μ Q := by
  refine zTv_of RX3 (by decide) rfl (Nat.le_of_ble_eq_true rfl) ?_
  intro κ X hret
  unfold fX3_nextToken at h
  refine zi_aload_n (pc' := 1) X dX3_nextToken_0 rfl rfl 0 rfl ?_
  refine zi_aload_n (pc' := 2) X dX3_nextToken_1 rfl rfl 0 rfl ?_
  refine zi_geti (pc' := 5) X zf_X3_25 rfl (by decide) ha0 dX3_nextToken_2 rfl ?_
  refine zi_put (pc' := 8) X zf_X3_22 zw_3_3 rfl (by decide) ha0 rfl rfl dX3_nextToken_5 rfl ?_
  exact zi_sub X [0] _ rfl (lX3_nextToken_8 X hret 200 a0 ((zst μ a0 3 (μ a0 4))) ha0 h)
def fX3_readHeight (a0 : Nat) (a1 : Nat) (μ : zMem) : Option (Int32 × zMem) :=
  zbd (fX3_nextToken a0 μ) fun _ m2 =>
  zbd (fX3_isNumberTo a0 (24 : Int32) m2) fun r3 m4 =>
  if r3 = 0 then
    some ((0 : Int32), m4)
  else
    zbd (fX3_nextToken a0 m4) fun _ m6 =>
    zbd (fX3_isNumberTo a0 (99 : Int32) m6) fun r7 m8 =>
    if r7 = 0 then
      some ((0 : Int32), m8)
    else
      zgd (zib (m4 a0 5) 25) (
      zbd (fX3_nextToken a0 (zst m8 (a1 + 1) ((m4 a0 5)).toNatClampNeg (m8 a0 5))) fun _ m12 =>
      some ((1 : Int32), m12))
set_option maxRecDepth 100000 in
set_option maxHeartbeats 4000000 in
theorem tX3_readHeight (g : zG) {a0 : Nat} {a1 : Nat} {μ : zMem} {Q : Int32 → zMem → Prop} (ha0 : zkd a0 = 3) (ha1 : zkd a1 = 0) (h : zok (fX3_readHeight a0 a1 μ) Q) : zTi g yX3_readHeight cX3_readHeight 3 .boolean 2 [.ref (zad g a0), .ref (zad g a1)] μ Q := by
  refine zTi_of (P := fun r => r = 0 ∨ r = 1) zpb RX3 (by decide) rfl (Nat.le_of_ble_eq_true rfl) ?_
  intro κ X hret
  unfold fX3_readHeight at h
  refine zi_aload_n (pc' := 1) X dX3_readHeight_0 rfl rfl 0 rfl ?_
  refine zi_callVv (pc' := 4) X zl_X3_31 ha0 (by decide) [] rfl rfl (by decide) (Nat.le_of_ble_eq_true rfl) dX3_readHeight_1 rfl (tX3_nextToken _ ha0 (zok_bd h (fun _ m2 h => ?_)))
  refine zi_aload_n (pc' := 5) X dX3_readHeight_4 rfl rfl 0 rfl ?_
  refine zi_bipush (pc' := 7) (v := (24 : Int32)) X dX3_readHeight_5 rfl rfl ?_
  refine zi_callVi (pc' := 10) X zl_X3_101 ha0 (by decide) [.int (24 : Int32)] rfl rfl (by decide) (Nat.le_of_ble_eq_true rfl) dX3_readHeight_7 rfl (tX3_isNumberTo _ ha0 (zok_bd h (fun r3 m4 h => ?_)))
  refine zi_if_ne (pc' := 13) (tgt := 15) X dX3_readHeight_10 rfl rfl (fun c => ?_) (fun c => ?_)
  · replace h := zok_f h c
    refine zi_aload_n (pc' := 16) X dX3_readHeight_15 rfl rfl 0 rfl ?_
    refine zi_geti (pc' := 19) X zf_X3_28 rfl (by decide) ha0 dX3_readHeight_16 rfl ?_
    refine zi_istore_n (pc' := 20) X dX3_readHeight_19 rfl rfl (by decide) [(2, .int (m4 a0 5)), (0, .ref (zad g a0)), (1, .ref (zad g a1))] rfl ?_
    refine zi_aload_n (pc' := 21) X dX3_readHeight_20 rfl rfl 1 rfl ?_
    refine zi_callVv (pc' := 24) X zl_X3_31 ha0 (by decide) [] rfl rfl (by decide) (Nat.le_of_ble_eq_true rfl) dX3_readHeight_21 rfl (tX3_nextToken _ ha0 (zok_bd h (fun _ m6 h => ?_)))
    refine zi_aload_n (pc' := 25) X dX3_readHeight_24 rfl rfl 1 rfl ?_
    refine zi_bipush (pc' := 27) (v := (99 : Int32)) X dX3_readHeight_25 rfl rfl ?_
    refine zi_callVi (pc' := 30) X zl_X3_101 ha0 (by decide) [.int (99 : Int32)] rfl rfl (by decide) (Nat.le_of_ble_eq_true rfl) dX3_readHeight_27 rfl (tX3_isNumberTo _ ha0 (zok_bd h (fun r7 m8 h => ?_)))
    refine zi_if_ne (pc' := 33) (tgt := 35) X dX3_readHeight_30 rfl rfl (fun c => ?_) (fun c => ?_)
    · replace h := zok_f h c
      refine zi_aload_n (pc' := 36) X dX3_readHeight_35 rfl rfl 2 rfl ?_
      refine zi_getr (pc' := 39) X zf_X3_118 rfl (by decide) ha1 dX3_readHeight_36 rfl ?_
      have f9 := zr_0_0 ha1
      refine zi_iload_n (pc' := 40) X dX3_readHeight_39 rfl rfl 0 rfl ?_
      refine zi_aload_n (pc' := 41) X dX3_readHeight_40 rfl rfl 1 rfl ?_
      refine zi_geti (pc' := 44) X zf_X3_28 rfl (by decide) ha0 dX3_readHeight_41 rfl ?_
      obtain ⟨g10, h⟩ := zok_g h
      refine zi_iast (pc' := 45) X f9.1 (by rw [f9.2]; exact g10) dX3_readHeight_44 rfl ?_
      refine zi_aload_n (pc' := 46) X dX3_readHeight_45 rfl rfl 1 rfl ?_
      refine zi_callVv (pc' := 49) X zl_X3_31 ha0 (by decide) [] rfl rfl (by decide) (Nat.le_of_ble_eq_true rfl) dX3_readHeight_46 rfl (tX3_nextToken _ ha0 (zok_bd h (fun _ m12 h => ?_)))
      refine zi_iconst (pc' := 50) (v := (1 : Int32)) X dX3_readHeight_49 rfl rfl ?_
      exact hret _ _ _ _ dX3_readHeight_50 (by decide) h
    · replace h := zok_t h c
      refine zi_iconst (pc' := 34) (v := (0 : Int32)) X dX3_readHeight_33 rfl rfl ?_
      exact hret _ _ _ _ dX3_readHeight_34 (by decide) h
  · replace h := zok_t h c
    refine zi_iconst (pc' := 14) (v := (0 : Int32)) X dX3_readHeight_13 rfl rfl ?_
    exact hret _ _ _ _ dX3_readHeight_14 (by decide) h
def fX3_readSpring (a0 : Nat) (a1 : Nat) (a2 : Int32) (μ : zMem) : Option (Int32 × zMem) :=
  zbd (fX3_nextToken a0 μ) fun _ m2 =>
  zbd (fX3_isNumberTo a0 (24 : Int32) m2) fun r3 m4 =>
  if r3 = 0 then
    some ((0 : Int32), m4)
  else
    zbd (fX0_setSpring a1 (m4 a0 5) a2 m4) fun _ m6 =>
    zbd (fX3_nextToken a0 m6) fun _ m8 =>
    some ((1 : Int32), m8)
set_option maxRecDepth 100000 in
set_option maxHeartbeats 4000000 in
theorem tX3_readSpring (g : zG) {a0 : Nat} {a1 : Nat} {a2 : Int32} {μ : zMem} {Q : Int32 → zMem → Prop} (ha0 : zkd a0 = 3) (ha1 : zkd a1 = 0) (h : zok (fX3_readSpring a0 a1 a2 μ) Q) : zTi g yX3_readSpring cX3_readSpring 3 .boolean 2 [.ref (zad g a0), .ref (zad g a1), .int a2] μ Q := by
  refine zTi_of (P := fun r => r = 0 ∨ r = 1) zpb RX3 (by decide) rfl (Nat.le_of_ble_eq_true rfl) ?_
  intro κ X hret
  unfold fX3_readSpring at h
  refine zi_aload_n (pc' := 1) X dX3_readSpring_0 rfl rfl 0 rfl ?_
  refine zi_callVv (pc' := 4) X zl_X3_31 ha0 (by decide) [] rfl rfl (by decide) (Nat.le_of_ble_eq_true rfl) dX3_readSpring_1 rfl (tX3_nextToken _ ha0 (zok_bd h (fun _ m2 h => ?_)))
  refine zi_aload_n (pc' := 5) X dX3_readSpring_4 rfl rfl 0 rfl ?_
  refine zi_bipush (pc' := 7) (v := (24 : Int32)) X dX3_readSpring_5 rfl rfl ?_
  refine zi_callVi (pc' := 10) X zl_X3_101 ha0 (by decide) [.int (24 : Int32)] rfl rfl (by decide) (Nat.le_of_ble_eq_true rfl) dX3_readSpring_7 rfl (tX3_isNumberTo _ ha0 (zok_bd h (fun r3 m4 h => ?_)))
  refine zi_if_ne (pc' := 13) (tgt := 15) X dX3_readSpring_10 rfl rfl (fun c => ?_) (fun c => ?_)
  · replace h := zok_f h c
    refine zi_aload_n (pc' := 16) X dX3_readSpring_15 rfl rfl 1 rfl ?_
    refine zi_aload_n (pc' := 17) X dX3_readSpring_16 rfl rfl 0 rfl ?_
    refine zi_geti (pc' := 20) X zf_X3_28 rfl (by decide) ha0 dX3_readSpring_17 rfl ?_
    refine zi_iload_n (pc' := 21) X dX3_readSpring_20 rfl rfl 2 rfl ?_
    refine zi_callVv (pc' := 24) X zl_X3_121 ha1 (by decide) [.int (m4 a0 5), .int a2] rfl rfl (by decide) (Nat.le_of_ble_eq_true rfl) dX3_readSpring_21 rfl (tX0_setSpring _ ha1 (zok_bd h (fun _ m6 h => ?_)))
    refine zi_aload_n (pc' := 25) X dX3_readSpring_24 rfl rfl 0 rfl ?_
    refine zi_callVv (pc' := 28) X zl_X3_31 ha0 (by decide) [] rfl rfl (by decide) (Nat.le_of_ble_eq_true rfl) dX3_readSpring_25 rfl (tX3_nextToken _ ha0 (zok_bd h (fun _ m8 h => ?_)))
    refine zi_iconst (pc' := 29) (v := (1 : Int32)) X dX3_readSpring_28 rfl rfl ?_
    exact hret _ _ _ _ dX3_readSpring_29 (by decide) h
  · replace h := zok_t h c
    refine zi_iconst (pc' := 14) (v := (0 : Int32)) X dX3_readSpring_13 rfl rfl ?_
    exact hret _ _ _ _ dX3_readSpring_14 (by decide) h
def fX3_isWord_28 : Nat → Nat → Nat → Int32 → zMem → Option (Int32 × zMem)
  | 0, _, _, _, _ => none
  | n + 1, a0, a1, a2, μ =>
    zgd (a1 < 27) (
    if (zsn a1) ≤ a2 then
      some ((1 : Int32), μ)
    else
      zgd (zib ((μ a0 3) + a2) 120) (
      zgd (a1 < 27 ∧ zib a2 (zsb a1).length) (
      if (μ (a0 + 1) (((μ a0 3) + a2)).toNatClampNeg) = (zsc a1 a2) then
        fX3_isWord_28 n a0 a1 (a2 + (1 : Int32)) μ
      else
        some ((0 : Int32), μ))))
set_option maxRecDepth 100000 in
theorem lX3_isWord_28 {g : zG} {κ : zK} (X : zC g κ RX3 cX3_isWord 3 4) {Q : Int32 → zMem → Prop} (hret : ∀ pc lv r μ', decode cX3_isWord pc = .ok (.ireturn, 1) → (r = 0 ∨ r = 1) → Q r μ' → zV g κ pc lv [.int r] μ') : ∀ (n : Nat) (a0 : Nat) (a1 : Nat) (a2 : Int32) (μ : zMem) (ha0 : zkd a0 = 3), zok (fX3_isWord_28 n a0 a1 a2 μ) Q → zV g κ 28 [(0, .ref (zad g a0)), (1, .ref (zak g a1)), (2, .int a2)] [] μ := by
  intro n
  induction n with
  | zero =>
    intro a0 a1 a2 μ ha0 h
    exact h.elim
  | succ n ih =>
    intro a0 a1 a2 μ ha0 h
    rw [fX3_isWord_28] at h
    refine zi_iload_n (pc' := 29) X dX3_isWord_28 rfl rfl 2 rfl ?_
    refine zi_aload_n (pc' := 30) X dX3_isWord_29 rfl rfl 1 rfl ?_
    obtain ⟨g2, h⟩ := zok_g h
    refine zi_slen (pc' := 33) X zl_X3_129 g2 (Nat.le_of_ble_eq_true rfl) (by decide) dX3_isWord_30 rfl ?_
    refine zi_icmp_ge (pc' := 36) (tgt := 63) X dX3_isWord_33 rfl rfl (fun c => ?_) (fun c => ?_)
    · replace h := zok_t h c
      refine zi_iconst (pc' := 64) (v := (1 : Int32)) X dX3_isWord_63 rfl rfl ?_
      exact hret _ _ _ _ dX3_isWord_64 (by decide) h
    · replace h := zok_f h c
      refine zi_aload_n (pc' := 37) X dX3_isWord_36 rfl rfl 0 rfl ?_
      refine zi_getr (pc' := 40) X zf_X3_9 rfl (by decide) ha0 dX3_isWord_37 rfl ?_
      have f3 := zr_3_0 ha0
      refine zi_aload_n (pc' := 41) X dX3_isWord_40 rfl rfl 0 rfl ?_
      refine zi_geti (pc' := 44) X zf_X3_22 rfl (by decide) ha0 dX3_isWord_41 rfl ?_
      refine zi_iload_n (pc' := 45) X dX3_isWord_44 rfl rfl 2 rfl ?_
      refine zi_iadd (pc' := 46) X dX3_isWord_45 rfl ?_
      obtain ⟨g4, h⟩ := zok_g h
      refine zi_iald (pc' := 47) X f3.1 (by rw [f3.2]; exact g4) dX3_isWord_46 rfl ?_
      refine zi_aload_n (pc' := 48) X dX3_isWord_47 rfl rfl 1 rfl ?_
      refine zi_iload_n (pc' := 49) X dX3_isWord_48 rfl rfl 2 rfl ?_
      obtain ⟨g5, h⟩ := zok_g h
      refine zi_scharAt (pc' := 52) X zl_X3_134 g5.1 g5.2 (Nat.le_of_ble_eq_true rfl) (by decide) dX3_isWord_49 rfl ?_
      refine zi_icmp_eq (pc' := 55) (tgt := 57) X dX3_isWord_52 rfl rfl (fun c => ?_) (fun c => ?_)
      · replace h := zok_t h c
        refine zi_iinc (pc' := 60) (v := (a2 + (1 : Int32))) X dX3_isWord_57 rfl 2 rfl rfl (by decide) [(2, .int (a2 + (1 : Int32))), (0, .ref (zad g a0)), (1, .ref (zak g a1))] rfl ?_
        refine zi_goto (pc' := 28) X dX3_isWord_60 rfl ?_
        exact zi_sub X [1, 2, 0] _ rfl (ih a0 a1 (a2 + (1 : Int32)) (μ) ha0 h)
      · replace h := zok_f h c
        refine zi_iconst (pc' := 56) (v := (0 : Int32)) X dX3_isWord_55 rfl rfl ?_
        exact hret _ _ _ _ dX3_isWord_56 (by decide) h
def fX3_isWord (a0 : Nat) (a1 : Nat) (μ : zMem) : Option (Int32 × zMem) :=
  if (μ a0 2) = (1 : Int32) then
    zgd (a1 < 27) (
    if ((μ a0 4) - (μ a0 3)) = (zsn a1) then
      fX3_isWord_28 200 a0 a1 (0 : Int32) μ
    else
      some ((0 : Int32), μ))
  else
    some ((0 : Int32), μ)
set_option maxRecDepth 100000 in
set_option maxHeartbeats 4000000 in
theorem tX3_isWord (g : zG) {a0 : Nat} {a1 : Nat} {μ : zMem} {Q : Int32 → zMem → Prop} (ha0 : zkd a0 = 3) (h : zok (fX3_isWord a0 a1 μ) Q) : zTi g yX3_isWord cX3_isWord 3 .boolean 4 [.ref (zad g a0), .ref (zak g a1)] μ Q := by
  refine zTi_of (P := fun r => r = 0 ∨ r = 1) zpb RX3 (by decide) rfl (Nat.le_of_ble_eq_true rfl) ?_
  intro κ X hret
  unfold fX3_isWord at h
  refine zi_aload_n (pc' := 1) X dX3_isWord_0 rfl rfl 0 rfl ?_
  refine zi_geti (pc' := 4) X zf_X3_19 rfl (by decide) ha0 dX3_isWord_1 rfl ?_
  refine zi_iconst (pc' := 5) (v := (1 : Int32)) X dX3_isWord_4 rfl rfl ?_
  refine zi_icmp_ne (pc' := 8) (tgt := 24) X dX3_isWord_5 rfl rfl (fun c => ?_) (fun c => ?_)
  · replace h := zok_f h c
    refine zi_iconst (pc' := 25) (v := (0 : Int32)) X dX3_isWord_24 rfl rfl ?_
    exact hret _ _ _ _ dX3_isWord_25 (by decide) h
  · replace h := zok_t h c
    refine zi_aload_n (pc' := 9) X dX3_isWord_8 rfl rfl 0 rfl ?_
    refine zi_geti (pc' := 12) X zf_X3_25 rfl (by decide) ha0 dX3_isWord_9 rfl ?_
    refine zi_aload_n (pc' := 13) X dX3_isWord_12 rfl rfl 0 rfl ?_
    refine zi_geti (pc' := 16) X zf_X3_22 rfl (by decide) ha0 dX3_isWord_13 rfl ?_
    refine zi_isub (pc' := 17) X dX3_isWord_16 rfl ?_
    refine zi_aload_n (pc' := 18) X dX3_isWord_17 rfl rfl 1 rfl ?_
    obtain ⟨g1, h⟩ := zok_g h
    refine zi_slen (pc' := 21) X zl_X3_129 g1 (Nat.le_of_ble_eq_true rfl) (by decide) dX3_isWord_18 rfl ?_
    refine zi_icmp_eq (pc' := 24) (tgt := 26) X dX3_isWord_21 rfl rfl (fun c => ?_) (fun c => ?_)
    · replace h := zok_t h c
      refine zi_iconst (pc' := 27) (v := (0 : Int32)) X dX3_isWord_26 rfl rfl ?_
      refine zi_istore_n (pc' := 28) X dX3_isWord_27 rfl rfl (by decide) [(2, .int (0 : Int32)), (0, .ref (zad g a0)), (1, .ref (zak g a1))] rfl ?_
      exact zi_sub X [1, 2, 0] _ rfl (lX3_isWord_28 X hret 200 a0 a1 (0 : Int32) (μ) ha0 h)
    · replace h := zok_f h c
      refine zi_iconst (pc' := 25) (v := (0 : Int32)) X dX3_isWord_24 rfl rfl ?_
      exact hret _ _ _ _ dX3_isWord_25 (by decide) h
def fX3_readFelt_17 : Nat → Nat → Nat → Int32 → zMem → Option (Int32 × zMem)
  | 0, _, _, _, _ => none
  | n + 1, a0, a1, a2, μ =>
    if (4 : Int32) ≤ a2 then
      some ((1 : Int32), μ)
    else
      zbd (fX3_isNumberTo a0 (99 : Int32) μ) fun r5 m6 =>
      if r5 = 0 then
        some ((0 : Int32), m6)
      else
        zgd (zib a2 4) (
        zbd (fX3_nextToken a0 (zst m6 (a1 + 1) (a2).toNatClampNeg (m6 a0 5))) fun _ m10 =>
        fX3_readFelt_17 n a0 a1 (a2 + (1 : Int32)) m10)
set_option maxRecDepth 100000 in
theorem lX3_readFelt_17 {g : zG} {κ : zK} (X : zC g κ RX3 cX3_readFelt 3 5) {Q : Int32 → zMem → Prop} (hret : ∀ pc lv r μ', decode cX3_readFelt pc = .ok (.ireturn, 1) → (r = 0 ∨ r = 1) → Q r μ' → zV g κ pc lv [.int r] μ') : ∀ (n : Nat) (a0 : Nat) (a1 : Nat) (a2 : Int32) (μ : zMem) (ha0 : zkd a0 = 3) (ha1 : zkd a1 = 4), zok (fX3_readFelt_17 n a0 a1 a2 μ) Q → zV g κ 17 [(0, .ref (zad g a0)), (1, .ref (zad g a1)), (2, .int a2)] [] μ := by
  intro n
  induction n with
  | zero =>
    intro a0 a1 a2 μ ha0 ha1 h
    exact h.elim
  | succ n ih =>
    intro a0 a1 a2 μ ha0 ha1 h
    rw [fX3_readFelt_17] at h
    refine zi_iload_n (pc' := 18) X dX3_readFelt_17 rfl rfl 2 rfl ?_
    refine zi_iconst (pc' := 19) (v := (4 : Int32)) X dX3_readFelt_18 rfl rfl ?_
    refine zi_icmp_ge (pc' := 22) (tgt := 53) X dX3_readFelt_19 rfl rfl (fun c => ?_) (fun c => ?_)
    · replace h := zok_t h c
      refine zi_iconst (pc' := 54) (v := (1 : Int32)) X dX3_readFelt_53 rfl rfl ?_
      exact hret _ _ _ _ dX3_readFelt_54 (by decide) h
    · replace h := zok_f h c
      refine zi_aload_n (pc' := 23) X dX3_readFelt_22 rfl rfl 0 rfl ?_
      refine zi_bipush (pc' := 25) (v := (99 : Int32)) X dX3_readFelt_23 rfl rfl ?_
      refine zi_callVi (pc' := 28) X zl_X3_101 ha0 (by decide) [.int (99 : Int32)] rfl rfl (by decide) (Nat.le_of_ble_eq_true rfl) dX3_readFelt_25 rfl (tX3_isNumberTo _ ha0 (zok_bd h (fun r5 m6 h => ?_)))
      refine zi_if_ne (pc' := 31) (tgt := 33) X dX3_readFelt_28 rfl rfl (fun c => ?_) (fun c => ?_)
      · replace h := zok_f h c
        refine zi_aload_n (pc' := 34) X dX3_readFelt_33 rfl rfl 1 rfl ?_
        refine zi_getr (pc' := 37) X zf_X3_116 rfl (by decide) ha1 dX3_readFelt_34 rfl ?_
        have f7 := zr_4_3 ha1
        refine zi_iload_n (pc' := 38) X dX3_readFelt_37 rfl rfl 2 rfl ?_
        refine zi_aload_n (pc' := 39) X dX3_readFelt_38 rfl rfl 0 rfl ?_
        refine zi_geti (pc' := 42) X zf_X3_28 rfl (by decide) ha0 dX3_readFelt_39 rfl ?_
        obtain ⟨g8, h⟩ := zok_g h
        refine zi_iast (pc' := 43) X f7.1 (by rw [f7.2]; exact g8) dX3_readFelt_42 rfl ?_
        refine zi_aload_n (pc' := 44) X dX3_readFelt_43 rfl rfl 0 rfl ?_
        refine zi_callVv (pc' := 47) X zl_X3_31 ha0 (by decide) [] rfl rfl (by decide) (Nat.le_of_ble_eq_true rfl) dX3_readFelt_44 rfl (tX3_nextToken _ ha0 (zok_bd h (fun _ m10 h => ?_)))
        refine zi_iinc (pc' := 50) (v := (a2 + (1 : Int32))) X dX3_readFelt_47 rfl 2 rfl rfl (by decide) [(2, .int (a2 + (1 : Int32))), (0, .ref (zad g a0)), (1, .ref (zad g a1))] rfl ?_
        refine zi_goto (pc' := 17) X dX3_readFelt_50 rfl ?_
        exact zi_sub X [1, 2, 0] _ rfl (ih a0 a1 (a2 + (1 : Int32)) (m10) ha0 ha1 h)
      · replace h := zok_t h c
        refine zi_iconst (pc' := 32) (v := (0 : Int32)) X dX3_readFelt_31 rfl rfl ?_
        exact hret _ _ _ _ dX3_readFelt_32 (by decide) h
def fX3_readFelt (a0 : Nat) (a1 : Nat) (μ : zMem) : Option (Int32 × zMem) :=
  zbd (fX3_isWord a0 9 μ) fun r1 m2 =>
  if r1 = 0 then
    some ((1 : Int32), m2)
  else
    zbd (fX3_nextToken a0 m2) fun _ m4 =>
    fX3_readFelt_17 200 a0 a1 (0 : Int32) m4
set_option maxRecDepth 100000 in
set_option maxHeartbeats 4000000 in
theorem tX3_readFelt (g : zG) {a0 : Nat} {a1 : Nat} {μ : zMem} {Q : Int32 → zMem → Prop} (ha0 : zkd a0 = 3) (ha1 : zkd a1 = 4) (h : zok (fX3_readFelt a0 a1 μ) Q) : zTi g yX3_readFelt cX3_readFelt 3 .boolean 5 [.ref (zad g a0), .ref (zad g a1)] μ Q := by
  refine zTi_of (P := fun r => r = 0 ∨ r = 1) zpb RX3 (by decide) rfl (Nat.le_of_ble_eq_true rfl) ?_
  intro κ X hret
  unfold fX3_readFelt at h
  refine zi_aload_n (pc' := 1) X dX3_readFelt_0 rfl rfl 0 rfl ?_
  refine zi_ldcS (pc' := 3) X 9 (by decide) rfl rfl dX3_readFelt_1 rfl ?_
  refine zi_callVi (pc' := 6) X zl_X3_42 ha0 (by decide) [.ref (zak g 9)] rfl rfl (by decide) (Nat.le_of_ble_eq_true rfl) dX3_readFelt_3 rfl (tX3_isWord _ ha0 (zok_bd h (fun r1 m2 h => ?_)))
  refine zi_if_ne (pc' := 9) (tgt := 11) X dX3_readFelt_6 rfl rfl (fun c => ?_) (fun c => ?_)
  · replace h := zok_f h c
    refine zi_aload_n (pc' := 12) X dX3_readFelt_11 rfl rfl 0 rfl ?_
    refine zi_callVv (pc' := 15) X zl_X3_31 ha0 (by decide) [] rfl rfl (by decide) (Nat.le_of_ble_eq_true rfl) dX3_readFelt_12 rfl (tX3_nextToken _ ha0 (zok_bd h (fun _ m4 h => ?_)))
    refine zi_iconst (pc' := 16) (v := (0 : Int32)) X dX3_readFelt_15 rfl rfl ?_
    refine zi_istore_n (pc' := 17) X dX3_readFelt_16 rfl rfl (by decide) [(2, .int (0 : Int32)), (0, .ref (zad g a0)), (1, .ref (zad g a1))] rfl ?_
    exact zi_sub X [1, 2, 0] _ rfl (lX3_readFelt_17 X hret 200 a0 a1 (0 : Int32) (m4) ha0 ha1 h)
  · replace h := zok_t h c
    refine zi_iconst (pc' := 10) (v := (1 : Int32)) X dX3_readFelt_9 rfl rfl ?_
    exact hret _ _ _ _ dX3_readFelt_10 (by decide) h
def fX3_readPitch (a0 : Nat) (a1 : Nat) (μ : zMem) : Option (Int32 × zMem) :=
  zbd (fX3_isWord a0 7 μ) fun r1 m2 =>
  if r1 = 0 then
    some ((1 : Int32), m2)
  else
    zbd (fX3_nextToken a0 m2) fun _ m4 =>
    zbd (fX3_isNumberTo a0 (15 : Int32) m4) fun r5 m6 =>
    if r5 = 0 then
      some ((0 : Int32), m6)
    else
      zbd (fX3_nextToken a0 (zst m6 a1 1 (m6 a0 5))) fun _ m8 =>
      some ((1 : Int32), m8)
set_option maxRecDepth 100000 in
set_option maxHeartbeats 4000000 in
theorem tX3_readPitch (g : zG) {a0 : Nat} {a1 : Nat} {μ : zMem} {Q : Int32 → zMem → Prop} (ha0 : zkd a0 = 3) (ha1 : zkd a1 = 4) (h : zok (fX3_readPitch a0 a1 μ) Q) : zTi g yX3_readPitch cX3_readPitch 2 .boolean 5 [.ref (zad g a0), .ref (zad g a1)] μ Q := by
  refine zTi_of (P := fun r => r = 0 ∨ r = 1) zpb RX3 (by decide) rfl (Nat.le_of_ble_eq_true rfl) ?_
  intro κ X hret
  unfold fX3_readPitch at h
  refine zi_aload_n (pc' := 1) X dX3_readPitch_0 rfl rfl 0 rfl ?_
  refine zi_ldcS (pc' := 3) X 7 (by decide) rfl rfl dX3_readPitch_1 rfl ?_
  refine zi_callVi (pc' := 6) X zl_X3_42 ha0 (by decide) [.ref (zak g 7)] rfl rfl (by decide) (Nat.le_of_ble_eq_true rfl) dX3_readPitch_3 rfl (tX3_isWord _ ha0 (zok_bd h (fun r1 m2 h => ?_)))
  refine zi_if_ne (pc' := 9) (tgt := 11) X dX3_readPitch_6 rfl rfl (fun c => ?_) (fun c => ?_)
  · replace h := zok_f h c
    refine zi_aload_n (pc' := 12) X dX3_readPitch_11 rfl rfl 0 rfl ?_
    refine zi_callVv (pc' := 15) X zl_X3_31 ha0 (by decide) [] rfl rfl (by decide) (Nat.le_of_ble_eq_true rfl) dX3_readPitch_12 rfl (tX3_nextToken _ ha0 (zok_bd h (fun _ m4 h => ?_)))
    refine zi_aload_n (pc' := 16) X dX3_readPitch_15 rfl rfl 0 rfl ?_
    refine zi_bipush (pc' := 18) (v := (15 : Int32)) X dX3_readPitch_16 rfl rfl ?_
    refine zi_callVi (pc' := 21) X zl_X3_101 ha0 (by decide) [.int (15 : Int32)] rfl rfl (by decide) (Nat.le_of_ble_eq_true rfl) dX3_readPitch_18 rfl (tX3_isNumberTo _ ha0 (zok_bd h (fun r5 m6 h => ?_)))
    refine zi_if_ne (pc' := 24) (tgt := 26) X dX3_readPitch_21 rfl rfl (fun c => ?_) (fun c => ?_)
    · replace h := zok_f h c
      refine zi_aload_n (pc' := 27) X dX3_readPitch_26 rfl rfl 1 rfl ?_
      refine zi_aload_n (pc' := 28) X dX3_readPitch_27 rfl rfl 0 rfl ?_
      refine zi_geti (pc' := 31) X zf_X3_28 rfl (by decide) ha0 dX3_readPitch_28 rfl ?_
      refine zi_put (pc' := 34) X zf_X3_105 zw_4_1 rfl (by decide) ha1 rfl rfl dX3_readPitch_31 rfl ?_
      refine zi_aload_n (pc' := 35) X dX3_readPitch_34 rfl rfl 0 rfl ?_
      refine zi_callVv (pc' := 38) X zl_X3_31 ha0 (by decide) [] rfl rfl (by decide) (Nat.le_of_ble_eq_true rfl) dX3_readPitch_35 rfl (tX3_nextToken _ ha0 (zok_bd h (fun _ m8 h => ?_)))
      refine zi_iconst (pc' := 39) (v := (1 : Int32)) X dX3_readPitch_38 rfl rfl ?_
      exact hret _ _ _ _ dX3_readPitch_39 (by decide) h
    · replace h := zok_t h c
      refine zi_iconst (pc' := 25) (v := (0 : Int32)) X dX3_readPitch_24 rfl rfl ?_
      exact hret _ _ _ _ dX3_readPitch_25 (by decide) h
  · replace h := zok_t h c
    refine zi_iconst (pc' := 10) (v := (1 : Int32)) X dX3_readPitch_9 rfl rfl ?_
    exact hret _ _ _ _ dX3_readPitch_10 (by decide) h
def fX3_readWorn (a0 : Nat) (a1 : Nat) (μ : zMem) : Option (Int32 × zMem) :=
  zbd (fX3_isWord a0 8 μ) fun r1 m2 =>
  if r1 = 0 then
    some ((1 : Int32), m2)
  else
    zbd (fX3_nextToken a0 m2) fun _ m4 =>
    zbd (fX3_isNumberTo a0 (99 : Int32) m4) fun r5 m6 =>
    if r5 = 0 then
      some ((0 : Int32), m6)
    else
      zbd (fX3_nextToken a0 (zst m6 a1 2 (m6 a0 5))) fun _ m8 =>
      some ((1 : Int32), m8)
set_option maxRecDepth 100000 in
set_option maxHeartbeats 4000000 in
theorem tX3_readWorn (g : zG) {a0 : Nat} {a1 : Nat} {μ : zMem} {Q : Int32 → zMem → Prop} (ha0 : zkd a0 = 3) (ha1 : zkd a1 = 4) (h : zok (fX3_readWorn a0 a1 μ) Q) : zTi g yX3_readWorn cX3_readWorn 2 .boolean 5 [.ref (zad g a0), .ref (zad g a1)] μ Q := by
  refine zTi_of (P := fun r => r = 0 ∨ r = 1) zpb RX3 (by decide) rfl (Nat.le_of_ble_eq_true rfl) ?_
  intro κ X hret
  unfold fX3_readWorn at h
  refine zi_aload_n (pc' := 1) X dX3_readWorn_0 rfl rfl 0 rfl ?_
  refine zi_ldcS (pc' := 3) X 8 (by decide) rfl rfl dX3_readWorn_1 rfl ?_
  refine zi_callVi (pc' := 6) X zl_X3_42 ha0 (by decide) [.ref (zak g 8)] rfl rfl (by decide) (Nat.le_of_ble_eq_true rfl) dX3_readWorn_3 rfl (tX3_isWord _ ha0 (zok_bd h (fun r1 m2 h => ?_)))
  refine zi_if_ne (pc' := 9) (tgt := 11) X dX3_readWorn_6 rfl rfl (fun c => ?_) (fun c => ?_)
  · replace h := zok_f h c
    refine zi_aload_n (pc' := 12) X dX3_readWorn_11 rfl rfl 0 rfl ?_
    refine zi_callVv (pc' := 15) X zl_X3_31 ha0 (by decide) [] rfl rfl (by decide) (Nat.le_of_ble_eq_true rfl) dX3_readWorn_12 rfl (tX3_nextToken _ ha0 (zok_bd h (fun _ m4 h => ?_)))
    refine zi_aload_n (pc' := 16) X dX3_readWorn_15 rfl rfl 0 rfl ?_
    refine zi_bipush (pc' := 18) (v := (99 : Int32)) X dX3_readWorn_16 rfl rfl ?_
    refine zi_callVi (pc' := 21) X zl_X3_101 ha0 (by decide) [.int (99 : Int32)] rfl rfl (by decide) (Nat.le_of_ble_eq_true rfl) dX3_readWorn_18 rfl (tX3_isNumberTo _ ha0 (zok_bd h (fun r5 m6 h => ?_)))
    refine zi_if_ne (pc' := 24) (tgt := 26) X dX3_readWorn_21 rfl rfl (fun c => ?_) (fun c => ?_)
    · replace h := zok_f h c
      refine zi_aload_n (pc' := 27) X dX3_readWorn_26 rfl rfl 1 rfl ?_
      refine zi_aload_n (pc' := 28) X dX3_readWorn_27 rfl rfl 0 rfl ?_
      refine zi_geti (pc' := 31) X zf_X3_28 rfl (by decide) ha0 dX3_readWorn_28 rfl ?_
      refine zi_put (pc' := 34) X zf_X3_112 zw_4_2 rfl (by decide) ha1 rfl rfl dX3_readWorn_31 rfl ?_
      refine zi_aload_n (pc' := 35) X dX3_readWorn_34 rfl rfl 0 rfl ?_
      refine zi_callVv (pc' := 38) X zl_X3_31 ha0 (by decide) [] rfl rfl (by decide) (Nat.le_of_ble_eq_true rfl) dX3_readWorn_35 rfl (tX3_nextToken _ ha0 (zok_bd h (fun _ m8 h => ?_)))
      refine zi_iconst (pc' := 39) (v := (1 : Int32)) X dX3_readWorn_38 rfl rfl ?_
      exact hret _ _ _ _ dX3_readWorn_39 (by decide) h
    · replace h := zok_t h c
      refine zi_iconst (pc' := 25) (v := (0 : Int32)) X dX3_readWorn_24 rfl rfl ?_
      exact hret _ _ _ _ dX3_readWorn_25 (by decide) h
  · replace h := zok_t h c
    refine zi_iconst (pc' := 10) (v := (1 : Int32)) X dX3_readWorn_9 rfl rfl ?_
    exact hret _ _ _ _ dX3_readWorn_10 (by decide) h
def fX3_readTent (a0 : Nat) (a1 : Nat) (a2 : Int32) (μ : zMem) : Option (Int32 × zMem) :=
  if (μ a1 3) < (6 : Int32) then
    zgd (zib (μ a1 3) 6) (
    zbd (fX0_addTent a1 a2 μ) fun _ m5 =>
    zbd (fX3_nextToken a0 m5) fun _ m7 =>
    zbd (fX3_readPitch a0 ((a1 + 3) + 1 + 2 * ((μ a1 3)).toNatClampNeg) m7) fun r8 m9 =>
    if r8 = 0 then
      some ((0 : Int32), m9)
    else
      zbd (fX3_readWorn a0 ((a1 + 3) + 1 + 2 * ((μ a1 3)).toNatClampNeg) m9) fun r10 m11 =>
      if r10 = 0 then
        some ((0 : Int32), m11)
      else
        zbd (fX3_readFelt a0 ((a1 + 3) + 1 + 2 * ((μ a1 3)).toNatClampNeg) m11) fun r12 m13 =>
        if r12 = 0 then
          some ((0 : Int32), m13)
        else
          some ((1 : Int32), m13))
  else
    some ((0 : Int32), μ)
set_option maxRecDepth 100000 in
set_option maxHeartbeats 4000000 in
theorem tX3_readTent (g : zG) {a0 : Nat} {a1 : Nat} {a2 : Int32} {μ : zMem} {Q : Int32 → zMem → Prop} (ha0 : zkd a0 = 3) (ha1 : zkd a1 = 0) (h : zok (fX3_readTent a0 a1 a2 μ) Q) : zTi g yX3_readTent cX3_readTent 4 .boolean 6 [.ref (zad g a0), .ref (zad g a1), .int a2] μ Q := by
  refine zTi_of (P := fun r => r = 0 ∨ r = 1) zpb RX3 (by decide) rfl (Nat.le_of_ble_eq_true rfl) ?_
  intro κ X hret
  unfold fX3_readTent at h
  refine zi_aload_n (pc' := 1) X dX3_readTent_0 rfl rfl 1 rfl ?_
  refine zi_geti (pc' := 4) X zf_X3_76 rfl (by decide) ha1 dX3_readTent_1 rfl ?_
  refine zi_bipush (pc' := 6) (v := (6 : Int32)) X dX3_readTent_4 rfl rfl ?_
  refine zi_icmp_lt (pc' := 9) (tgt := 11) X dX3_readTent_6 rfl rfl (fun c => ?_) (fun c => ?_)
  · replace h := zok_t h c
    refine zi_aload_n (pc' := 12) X dX3_readTent_11 rfl rfl 1 rfl ?_
    refine zi_getr (pc' := 15) X zf_X3_81 rfl (by decide) ha1 dX3_readTent_12 rfl ?_
    have f1 := zr_0_2 ha1
    refine zi_aload_n (pc' := 16) X dX3_readTent_15 rfl rfl 1 rfl ?_
    refine zi_geti (pc' := 19) X zf_X3_76 rfl (by decide) ha1 dX3_readTent_16 rfl ?_
    obtain ⟨g2, h⟩ := zok_g h
    refine zi_aaldT (pc' := 20) X f1.1 (by rw [f1.2]; exact g2) dX3_readTent_19 rfl ?_
    have f3 := zr_tent f1 g2
    refine zi_astore_n (pc' := 21) X dX3_readTent_20 rfl rfl (by decide) [(3, .ref (zad g ((a1 + 3) + 1 + 2 * ((μ a1 3)).toNatClampNeg))), (0, .ref (zad g a0)), (1, .ref (zad g a1)), (2, .int a2)] rfl ?_
    refine zi_aload_n (pc' := 22) X dX3_readTent_21 rfl rfl 2 rfl ?_
    refine zi_iload_n (pc' := 23) X dX3_readTent_22 rfl rfl 3 rfl ?_
    refine zi_callVv (pc' := 26) X zl_X3_85 ha1 (by decide) [.int a2] rfl rfl (by decide) (Nat.le_of_ble_eq_true rfl) dX3_readTent_23 rfl (tX0_addTent _ ha1 (zok_bd h (fun _ m5 h => ?_)))
    refine zi_aload_n (pc' := 27) X dX3_readTent_26 rfl rfl 1 rfl ?_
    refine zi_callVv (pc' := 30) X zl_X3_31 ha0 (by decide) [] rfl rfl (by decide) (Nat.le_of_ble_eq_true rfl) dX3_readTent_27 rfl (tX3_nextToken _ ha0 (zok_bd h (fun _ m7 h => ?_)))
    refine zi_aload_n (pc' := 31) X dX3_readTent_30 rfl rfl 1 rfl ?_
    refine zi_aload_n (pc' := 32) X dX3_readTent_31 rfl rfl 0 rfl ?_
    refine zi_callVi (pc' := 35) X zl_X3_89 ha0 (by decide) [.ref (zad g ((a1 + 3) + 1 + 2 * ((μ a1 3)).toNatClampNeg))] rfl rfl (by decide) (Nat.le_of_ble_eq_true rfl) dX3_readTent_32 rfl (tX3_readPitch _ ha0 f3 (zok_bd h (fun r8 m9 h => ?_)))
    refine zi_if_eq (pc' := 38) (tgt := 58) X dX3_readTent_35 rfl rfl (fun c => ?_) (fun c => ?_)
    · replace h := zok_t h c
      refine zi_iconst (pc' := 59) (v := (0 : Int32)) X dX3_readTent_58 rfl rfl ?_
      exact hret _ _ _ _ dX3_readTent_59 (by decide) h
    · replace h := zok_f h c
      refine zi_aload_n (pc' := 39) X dX3_readTent_38 rfl rfl 1 rfl ?_
      refine zi_aload_n (pc' := 40) X dX3_readTent_39 rfl rfl 0 rfl ?_
      refine zi_callVi (pc' := 43) X zl_X3_93 ha0 (by decide) [.ref (zad g ((a1 + 3) + 1 + 2 * ((μ a1 3)).toNatClampNeg))] rfl rfl (by decide) (Nat.le_of_ble_eq_true rfl) dX3_readTent_40 rfl (tX3_readWorn _ ha0 f3 (zok_bd h (fun r10 m11 h => ?_)))
      refine zi_if_eq (pc' := 46) (tgt := 58) X dX3_readTent_43 rfl rfl (fun c => ?_) (fun c => ?_)
      · replace h := zok_t h c
        refine zi_iconst (pc' := 59) (v := (0 : Int32)) X dX3_readTent_58 rfl rfl ?_
        exact hret _ _ _ _ dX3_readTent_59 (by decide) h
      · replace h := zok_f h c
        refine zi_aload_n (pc' := 47) X dX3_readTent_46 rfl rfl 1 rfl ?_
        refine zi_aload_n (pc' := 48) X dX3_readTent_47 rfl rfl 0 rfl ?_
        refine zi_callVi (pc' := 51) X zl_X3_96 ha0 (by decide) [.ref (zad g ((a1 + 3) + 1 + 2 * ((μ a1 3)).toNatClampNeg))] rfl rfl (by decide) (Nat.le_of_ble_eq_true rfl) dX3_readTent_48 rfl (tX3_readFelt _ ha0 f3 (zok_bd h (fun r12 m13 h => ?_)))
        refine zi_if_eq (pc' := 54) (tgt := 58) X dX3_readTent_51 rfl rfl (fun c => ?_) (fun c => ?_)
        · replace h := zok_t h c
          refine zi_iconst (pc' := 59) (v := (0 : Int32)) X dX3_readTent_58 rfl rfl ?_
          exact hret _ _ _ _ dX3_readTent_59 (by decide) h
        · replace h := zok_f h c
          refine zi_iconst (pc' := 55) (v := (1 : Int32)) X dX3_readTent_54 rfl rfl ?_
          refine zi_goto (pc' := 59) X dX3_readTent_55 rfl ?_
          exact hret _ _ _ _ dX3_readTent_59 (by decide) h
  · replace h := zok_f h c
    refine zi_iconst (pc' := 10) (v := (0 : Int32)) X dX3_readTent_9 rfl rfl ?_
    exact hret _ _ _ _ dX3_readTent_10 (by decide) h
def fX3_readItem_2 : Nat → Nat → Nat → Int32 → zMem → Option (Int32 × zMem)
  | 0, _, _, _, _ => none
  | n + 1, a0, a1, a2, μ =>
    if (7 : Int32) ≤ a2 then
      zbd (fX3_isWord a0 10 μ) fun r1 m2 =>
      if r1 = 0 then
        zbd (fX3_isWord a0 11 m2) fun r3 m4 =>
        if r3 = 0 then
          zbd (fX3_isWord a0 12 m4) fun r5 m6 =>
          if r5 = 0 then
            some ((0 : Int32), m6)
          else
            zbd (fX3_readSpring a0 a1 (0 : Int32) m6) fun r7 m8 =>
            if r7 = 0 then
              some ((0 : Int32), m8)
            else
              some ((1 : Int32), m8)
        else
          zbd (fX3_readSpring a0 a1 (1 : Int32) m4) fun r9 m10 =>
          zgd (r9 = 0 ∨ r9 = 1) (
          some (r9, m10))
      else
        zbd (fX3_readHeight a0 a1 m2) fun r12 m13 =>
        zgd (r12 = 0 ∨ r12 = 1) (
        some (r12, m13))
    else
      zbd (fX3_nameOf a2 μ) fun r15 m16 =>
      zbd (fX3_isWord a0 r15 m16) fun r17 m18 =>
      if r17 = 0 then
        fX3_readItem_2 n a0 a1 (a2 + (1 : Int32)) m18
      else
        zbd (fX3_readTent a0 a1 a2 m18) fun r19 m20 =>
        zgd (r19 = 0 ∨ r19 = 1) (
        some (r19, m20))
set_option maxRecDepth 100000 in
theorem lX3_readItem_2 {g : zG} {κ : zK} (X : zC g κ RX3 cX3_readItem 3 7) {Q : Int32 → zMem → Prop} (hret : ∀ pc lv r μ', decode cX3_readItem pc = .ok (.ireturn, 1) → (r = 0 ∨ r = 1) → Q r μ' → zV g κ pc lv [.int r] μ') : ∀ (n : Nat) (a0 : Nat) (a1 : Nat) (a2 : Int32) (μ : zMem) (ha0 : zkd a0 = 3) (ha1 : zkd a1 = 0), zok (fX3_readItem_2 n a0 a1 a2 μ) Q → zV g κ 2 [(0, .ref (zad g a0)), (1, .ref (zad g a1)), (2, .int a2)] [] μ := by
  intro n
  induction n with
  | zero =>
    intro a0 a1 a2 μ ha0 ha1 h
    exact h.elim
  | succ n ih =>
    intro a0 a1 a2 μ ha0 ha1 h
    rw [fX3_readItem_2] at h
    refine zi_iload_n (pc' := 3) X dX3_readItem_2 rfl rfl 2 rfl ?_
    refine zi_bipush (pc' := 5) (v := (7 : Int32)) X dX3_readItem_3 rfl rfl ?_
    refine zi_icmp_ge (pc' := 8) (tgt := 32) X dX3_readItem_5 rfl rfl (fun c => ?_) (fun c => ?_)
    · replace h := zok_t h c
      refine zi_aload_n (pc' := 33) X dX3_readItem_32 rfl rfl 0 rfl ?_
      refine zi_ldcS (pc' := 35) X 10 (by decide) rfl rfl dX3_readItem_33 rfl ?_
      refine zi_callVi (pc' := 38) X zl_X3_42 ha0 (by decide) [.ref (zak g 10)] rfl rfl (by decide) (Nat.le_of_ble_eq_true rfl) dX3_readItem_35 rfl (tX3_isWord _ ha0 (zok_bd h (fun r1 m2 h => ?_)))
      refine zi_if_eq (pc' := 41) (tgt := 47) X dX3_readItem_38 rfl rfl (fun c => ?_) (fun c => ?_)
      · replace h := zok_t h c
        refine zi_aload_n (pc' := 48) X dX3_readItem_47 rfl rfl 0 rfl ?_
        refine zi_ldcS (pc' := 50) X 11 (by decide) rfl rfl dX3_readItem_48 rfl ?_
        refine zi_callVi (pc' := 53) X zl_X3_42 ha0 (by decide) [.ref (zak g 11)] rfl rfl (by decide) (Nat.le_of_ble_eq_true rfl) dX3_readItem_50 rfl (tX3_isWord _ ha0 (zok_bd h (fun r3 m4 h => ?_)))
        refine zi_if_eq (pc' := 56) (tgt := 63) X dX3_readItem_53 rfl rfl (fun c => ?_) (fun c => ?_)
        · replace h := zok_t h c
          refine zi_aload_n (pc' := 64) X dX3_readItem_63 rfl rfl 0 rfl ?_
          refine zi_ldcS (pc' := 66) X 12 (by decide) rfl rfl dX3_readItem_64 rfl ?_
          refine zi_callVi (pc' := 69) X zl_X3_42 ha0 (by decide) [.ref (zak g 12)] rfl rfl (by decide) (Nat.le_of_ble_eq_true rfl) dX3_readItem_66 rfl (tX3_isWord _ ha0 (zok_bd h (fun r5 m6 h => ?_)))
          refine zi_if_eq (pc' := 72) (tgt := 85) X dX3_readItem_69 rfl rfl (fun c => ?_) (fun c => ?_)
          · replace h := zok_t h c
            refine zi_iconst (pc' := 86) (v := (0 : Int32)) X dX3_readItem_85 rfl rfl ?_
            exact hret _ _ _ _ dX3_readItem_86 (by decide) h
          · replace h := zok_f h c
            refine zi_aload_n (pc' := 73) X dX3_readItem_72 rfl rfl 0 rfl ?_
            refine zi_aload_n (pc' := 74) X dX3_readItem_73 rfl rfl 1 rfl ?_
            refine zi_iconst (pc' := 75) (v := (0 : Int32)) X dX3_readItem_74 rfl rfl ?_
            refine zi_callVi (pc' := 78) X zl_X3_57 ha0 (by decide) [.ref (zad g a1), .int (0 : Int32)] rfl rfl (by decide) (Nat.le_of_ble_eq_true rfl) dX3_readItem_75 rfl (tX3_readSpring _ ha0 ha1 (zok_bd h (fun r7 m8 h => ?_)))
            refine zi_if_eq (pc' := 81) (tgt := 85) X dX3_readItem_78 rfl rfl (fun c => ?_) (fun c => ?_)
            · replace h := zok_t h c
              refine zi_iconst (pc' := 86) (v := (0 : Int32)) X dX3_readItem_85 rfl rfl ?_
              exact hret _ _ _ _ dX3_readItem_86 (by decide) h
            · replace h := zok_f h c
              refine zi_iconst (pc' := 82) (v := (1 : Int32)) X dX3_readItem_81 rfl rfl ?_
              refine zi_goto (pc' := 86) X dX3_readItem_82 rfl ?_
              exact hret _ _ _ _ dX3_readItem_86 (by decide) h
        · replace h := zok_f h c
          refine zi_aload_n (pc' := 57) X dX3_readItem_56 rfl rfl 0 rfl ?_
          refine zi_aload_n (pc' := 58) X dX3_readItem_57 rfl rfl 1 rfl ?_
          refine zi_iconst (pc' := 59) (v := (1 : Int32)) X dX3_readItem_58 rfl rfl ?_
          refine zi_callVi (pc' := 62) X zl_X3_57 ha0 (by decide) [.ref (zad g a1), .int (1 : Int32)] rfl rfl (by decide) (Nat.le_of_ble_eq_true rfl) dX3_readItem_59 rfl (tX3_readSpring _ ha0 ha1 (zok_bd h (fun r9 m10 h => ?_)))
          obtain ⟨g11, h⟩ := zok_g h
          exact hret _ _ _ _ dX3_readItem_62 g11 h
      · replace h := zok_f h c
        refine zi_aload_n (pc' := 42) X dX3_readItem_41 rfl rfl 0 rfl ?_
        refine zi_aload_n (pc' := 43) X dX3_readItem_42 rfl rfl 1 rfl ?_
        refine zi_callVi (pc' := 46) X zl_X3_52 ha0 (by decide) [.ref (zad g a1)] rfl rfl (by decide) (Nat.le_of_ble_eq_true rfl) dX3_readItem_43 rfl (tX3_readHeight _ ha0 ha1 (zok_bd h (fun r12 m13 h => ?_)))
        obtain ⟨g14, h⟩ := zok_g h
        exact hret _ _ _ _ dX3_readItem_46 g14 h
    · replace h := zok_f h c
      refine zi_aload_n (pc' := 9) X dX3_readItem_8 rfl rfl 0 rfl ?_
      refine zi_iload_n (pc' := 10) X dX3_readItem_9 rfl rfl 2 rfl ?_
      refine zi_callSs (pc' := 13) X zl_X3_38 [.int a2] rfl rfl (by decide) (Nat.le_of_ble_eq_true rfl) dX3_readItem_10 rfl (tX3_nameOf _ (zok_bd h (fun r15 m16 h => ?_)))
      refine zi_callVi (pc' := 16) X zl_X3_42 ha0 (by decide) [.ref (zak g r15)] rfl rfl (by decide) (Nat.le_of_ble_eq_true rfl) dX3_readItem_13 rfl (tX3_isWord _ ha0 (zok_bd h (fun r17 m18 h => ?_)))
      refine zi_if_eq (pc' := 19) (tgt := 26) X dX3_readItem_16 rfl rfl (fun c => ?_) (fun c => ?_)
      · replace h := zok_t h c
        refine zi_iinc (pc' := 29) (v := (a2 + (1 : Int32))) X dX3_readItem_26 rfl 2 rfl rfl (by decide) [(2, .int (a2 + (1 : Int32))), (0, .ref (zad g a0)), (1, .ref (zad g a1))] rfl ?_
        refine zi_goto (pc' := 2) X dX3_readItem_29 rfl ?_
        exact zi_sub X [1, 2, 0] _ rfl (ih a0 a1 (a2 + (1 : Int32)) (m18) ha0 ha1 h)
      · replace h := zok_f h c
        refine zi_aload_n (pc' := 20) X dX3_readItem_19 rfl rfl 0 rfl ?_
        refine zi_aload_n (pc' := 21) X dX3_readItem_20 rfl rfl 1 rfl ?_
        refine zi_iload_n (pc' := 22) X dX3_readItem_21 rfl rfl 2 rfl ?_
        refine zi_callVi (pc' := 25) X zl_X3_46 ha0 (by decide) [.ref (zad g a1), .int a2] rfl rfl (by decide) (Nat.le_of_ble_eq_true rfl) dX3_readItem_22 rfl (tX3_readTent _ ha0 ha1 (zok_bd h (fun r19 m20 h => ?_)))
        obtain ⟨g21, h⟩ := zok_g h
        exact hret _ _ _ _ dX3_readItem_25 g21 h
def fX3_readItem (a0 : Nat) (a1 : Nat) (μ : zMem) : Option (Int32 × zMem) :=
  fX3_readItem_2 200 a0 a1 (0 : Int32) μ
set_option maxRecDepth 100000 in
set_option maxHeartbeats 4000000 in
theorem tX3_readItem (g : zG) {a0 : Nat} {a1 : Nat} {μ : zMem} {Q : Int32 → zMem → Prop} (ha0 : zkd a0 = 3) (ha1 : zkd a1 = 0) (h : zok (fX3_readItem a0 a1 μ) Q) : zTi g yX3_readItem cX3_readItem 3 .boolean 7 [.ref (zad g a0), .ref (zad g a1)] μ Q := by
  refine zTi_of (P := fun r => r = 0 ∨ r = 1) zpb RX3 (by decide) rfl (Nat.le_of_ble_eq_true rfl) ?_
  intro κ X hret
  unfold fX3_readItem at h
  refine zi_iconst (pc' := 1) (v := (0 : Int32)) X dX3_readItem_0 rfl rfl ?_
  refine zi_istore_n (pc' := 2) X dX3_readItem_1 rfl rfl (by decide) [(2, .int (0 : Int32)), (0, .ref (zad g a0)), (1, .ref (zad g a1))] rfl ?_
  exact zi_sub X [1, 2, 0] _ rfl (lX3_readItem_2 X hret 200 a0 a1 (0 : Int32) (μ) ha0 ha1 h)
def fX3_readText_11 : Nat → Nat → Nat → Int32 → zMem → Option (Int32 × zMem)
  | 0, _, _, _, _ => none
  | n + 1, a0, a1, a2, μ =>
    if (120 : Int32) < a2 then
      some (((-1 : Int32) - (μ a0 3)), μ)
    else
      zbd (fX3_readItem a0 a1 μ) fun r3 m4 =>
      if r3 = 0 then
        some (((-1 : Int32) - (m4 a0 3)), m4)
      else
        if (m4 a0 2) = 0 then
          some (a2, m4)
        else
          if (m4 a0 2) = (3 : Int32) then
            zbd (fX3_nextToken a0 m4) fun _ m6 =>
            fX3_readText_11 n a0 a1 (a2 + (1 : Int32)) m6
          else
            some (((-1 : Int32) - (m4 a0 3)), m4)
set_option maxRecDepth 100000 in
theorem lX3_readText_11 {g : zG} {κ : zK} (X : zC g κ RX3 cX3_readText 3 8) {Q : Int32 → zMem → Prop} (hret : ∀ pc lv r μ', decode cX3_readText pc = .ok (.ireturn, 1) → True → Q r μ' → zV g κ pc lv [.int r] μ') : ∀ (n : Nat) (a0 : Nat) (a1 : Nat) (a2 : Int32) (μ : zMem) (ha0 : zkd a0 = 3) (ha1 : zkd a1 = 0), zok (fX3_readText_11 n a0 a1 a2 μ) Q → zV g κ 11 [(0, .ref (zad g a0)), (1, .ref (zad g a1)), (2, .int a2)] [] μ := by
  intro n
  induction n with
  | zero =>
    intro a0 a1 a2 μ ha0 ha1 h
    exact h.elim
  | succ n ih =>
    intro a0 a1 a2 μ ha0 ha1 h
    rw [fX3_readText_11] at h
    refine zi_iload_n (pc' := 12) X dX3_readText_11 rfl rfl 2 rfl ?_
    refine zi_bipush (pc' := 14) (v := (120 : Int32)) X dX3_readText_12 rfl rfl ?_
    refine zi_icmp_gt (pc' := 17) (tgt := 66) X dX3_readText_14 rfl rfl (fun c => ?_) (fun c => ?_)
    · replace h := zok_t h c
      refine zi_iconst (pc' := 67) (v := (-1 : Int32)) X dX3_readText_66 rfl rfl ?_
      refine zi_aload_n (pc' := 68) X dX3_readText_67 rfl rfl 0 rfl ?_
      refine zi_geti (pc' := 71) X zf_X3_22 rfl (by decide) ha0 dX3_readText_68 rfl ?_
      refine zi_isub (pc' := 72) X dX3_readText_71 rfl ?_
      exact hret _ _ _ _ dX3_readText_72 trivial h
    · replace h := zok_f h c
      refine zi_aload_n (pc' := 18) X dX3_readText_17 rfl rfl 0 rfl ?_
      refine zi_aload_n (pc' := 19) X dX3_readText_18 rfl rfl 1 rfl ?_
      refine zi_callVi (pc' := 22) X zl_X3_34 ha0 (by decide) [.ref (zad g a1)] rfl rfl (by decide) (Nat.le_of_ble_eq_true rfl) dX3_readText_19 rfl (tX3_readItem _ ha0 ha1 (zok_bd h (fun r3 m4 h => ?_)))
      refine zi_if_ne (pc' := 25) (tgt := 32) X dX3_readText_22 rfl rfl (fun c => ?_) (fun c => ?_)
      · replace h := zok_f h c
        refine zi_aload_n (pc' := 33) X dX3_readText_32 rfl rfl 0 rfl ?_
        refine zi_geti (pc' := 36) X zf_X3_19 rfl (by decide) ha0 dX3_readText_33 rfl ?_
        refine zi_if_ne (pc' := 39) (tgt := 41) X dX3_readText_36 rfl rfl (fun c => ?_) (fun c => ?_)
        · replace h := zok_f h c
          refine zi_aload_n (pc' := 42) X dX3_readText_41 rfl rfl 0 rfl ?_
          refine zi_geti (pc' := 45) X zf_X3_19 rfl (by decide) ha0 dX3_readText_42 rfl ?_
          refine zi_iconst (pc' := 46) (v := (3 : Int32)) X dX3_readText_45 rfl rfl ?_
          refine zi_icmp_eq (pc' := 49) (tgt := 56) X dX3_readText_46 rfl rfl (fun c => ?_) (fun c => ?_)
          · replace h := zok_t h c
            refine zi_aload_n (pc' := 57) X dX3_readText_56 rfl rfl 0 rfl ?_
            refine zi_callVv (pc' := 60) X zl_X3_31 ha0 (by decide) [] rfl rfl (by decide) (Nat.le_of_ble_eq_true rfl) dX3_readText_57 rfl (tX3_nextToken _ ha0 (zok_bd h (fun _ m6 h => ?_)))
            refine zi_iinc (pc' := 63) (v := (a2 + (1 : Int32))) X dX3_readText_60 rfl 2 rfl rfl (by decide) [(2, .int (a2 + (1 : Int32))), (0, .ref (zad g a0)), (1, .ref (zad g a1))] rfl ?_
            refine zi_goto (pc' := 11) X dX3_readText_63 rfl ?_
            exact zi_sub X [1, 2, 0] _ rfl (ih a0 a1 (a2 + (1 : Int32)) (m6) ha0 ha1 h)
          · replace h := zok_f h c
            refine zi_iconst (pc' := 50) (v := (-1 : Int32)) X dX3_readText_49 rfl rfl ?_
            refine zi_aload_n (pc' := 51) X dX3_readText_50 rfl rfl 0 rfl ?_
            refine zi_geti (pc' := 54) X zf_X3_22 rfl (by decide) ha0 dX3_readText_51 rfl ?_
            refine zi_isub (pc' := 55) X dX3_readText_54 rfl ?_
            exact hret _ _ _ _ dX3_readText_55 trivial h
        · replace h := zok_t h c
          refine zi_iload_n (pc' := 40) X dX3_readText_39 rfl rfl 2 rfl ?_
          exact hret _ _ _ _ dX3_readText_40 trivial h
      · replace h := zok_t h c
        refine zi_iconst (pc' := 26) (v := (-1 : Int32)) X dX3_readText_25 rfl rfl ?_
        refine zi_aload_n (pc' := 27) X dX3_readText_26 rfl rfl 0 rfl ?_
        refine zi_geti (pc' := 30) X zf_X3_22 rfl (by decide) ha0 dX3_readText_27 rfl ?_
        refine zi_isub (pc' := 31) X dX3_readText_30 rfl ?_
        exact hret _ _ _ _ dX3_readText_31 trivial h
def fX3_readText (a0 : Nat) (a1 : Nat) (μ : zMem) : Option (Int32 × zMem) :=
  zbd (fX3_nextToken a0 (zst μ a0 4 (0 : Int32))) fun _ m2 =>
  fX3_readText_11 200 a0 a1 (1 : Int32) m2
set_option maxRecDepth 100000 in
set_option maxHeartbeats 4000000 in
theorem tX3_readText (g : zG) {a0 : Nat} {a1 : Nat} {μ : zMem} {Q : Int32 → zMem → Prop} (ha0 : zkd a0 = 3) (ha1 : zkd a1 = 0) (h : zok (fX3_readText a0 a1 μ) Q) : zTi g yX3_readText cX3_readText 3 .int 8 [.ref (zad g a0), .ref (zad g a1)] μ Q := by
  refine zTi_of (P := fun r => True) zpi RX3 (by decide) rfl (Nat.le_of_ble_eq_true rfl) ?_
  intro κ X hret
  unfold fX3_readText at h
  refine zi_aload_n (pc' := 1) X dX3_readText_0 rfl rfl 0 rfl ?_
  refine zi_iconst (pc' := 2) (v := (0 : Int32)) X dX3_readText_1 rfl rfl ?_
  refine zi_put (pc' := 5) X zf_X3_25 zw_3_4 rfl (by decide) ha0 rfl rfl dX3_readText_2 rfl ?_
  refine zi_aload_n (pc' := 6) X dX3_readText_5 rfl rfl 0 rfl ?_
  refine zi_callVv (pc' := 9) X zl_X3_31 ha0 (by decide) [] rfl rfl (by decide) (Nat.le_of_ble_eq_true rfl) dX3_readText_6 rfl (tX3_nextToken _ ha0 (zok_bd h (fun _ m2 h => ?_)))
  refine zi_iconst (pc' := 10) (v := (1 : Int32)) X dX3_readText_9 rfl rfl ?_
  refine zi_istore_n (pc' := 11) X dX3_readText_10 rfl rfl (by decide) [(2, .int (1 : Int32)), (0, .ref (zad g a0)), (1, .ref (zad g a1))] rfl ?_
  exact zi_sub X [1, 2, 0] _ rfl (lX3_readText_11 X hret 200 a0 a1 (1 : Int32) (m2) ha0 ha1 h)
def fX5_power_5 : Nat → Int64 → Int32 → Int64 → Int32 → zMem → Option (Int64 × zMem)
  | 0, _, _, _, _, _ => none
  | n + 1, a0, a2, a3, a5, μ =>
    if a2 ≤ a5 then
      some (a3, μ)
    else
      fX5_power_5 n a0 a2 (a3 * a0) (a5 + (1 : Int32)) μ
set_option maxRecDepth 100000 in
theorem lX5_power_5 {g : zG} {κ : zK} (X : zC g κ RX5 cX5_power 6 0) {Q : Int64 → zMem → Prop} (hret : ∀ pc lv r μ', decode cX5_power pc = .ok (.lreturn, 1) → Q r μ' → zV g κ pc lv [.long r] μ') : ∀ (n : Nat) (a0 : Int64) (a2 : Int32) (a3 : Int64) (a5 : Int32) (μ : zMem), zok (fX5_power_5 n a0 a2 a3 a5 μ) Q → zV g κ 5 [(0, .long a0), (2, .int a2), (3, .long a3), (5, .int a5)] [] μ := by
  intro n
  induction n with
  | zero =>
    intro a0 a2 a3 a5 μ h
    exact h.elim
  | succ n ih =>
    intro a0 a2 a3 a5 μ h
    rw [fX5_power_5] at h
    refine zi_iload (pc' := 7) X dX5_power_5 rfl 3 rfl ?_
    refine zi_iload_n (pc' := 8) X dX5_power_7 rfl rfl 1 rfl ?_
    refine zi_icmp_ge (pc' := 11) (tgt := 21) X dX5_power_8 rfl rfl (fun c => ?_) (fun c => ?_)
    · replace h := zok_t h c
      refine zi_lload_n (pc' := 22) X dX5_power_21 rfl rfl 2 rfl ?_
      exact hret _ _ _ _ dX5_power_22 h
    · replace h := zok_f h c
      refine zi_lload_n (pc' := 12) X dX5_power_11 rfl rfl 2 rfl ?_
      refine zi_lload_n (pc' := 13) X dX5_power_12 rfl rfl 0 rfl ?_
      refine zi_lmul (pc' := 14) X dX5_power_13 rfl ?_
      refine zi_lstore_n (pc' := 15) X dX5_power_14 rfl rfl (by decide) [(3, .long (a3 * a0)), (0, .long a0), (2, .int a2), (5, .int a5)] rfl ?_
      refine zi_iinc (pc' := 18) (v := (a5 + (1 : Int32))) X dX5_power_15 rfl 3 rfl rfl (by decide) [(5, .int (a5 + (1 : Int32))), (3, .long (a3 * a0)), (0, .long a0), (2, .int a2)] rfl ?_
      refine zi_goto (pc' := 5) X dX5_power_18 rfl ?_
      exact zi_sub X [2, 3, 1, 0] _ rfl (ih a0 a2 (a3 * a0) (a5 + (1 : Int32)) (μ) h)
def fX5_power (a0 : Int64) (a2 : Int32) (μ : zMem) : Option (Int64 × zMem) :=
  fX5_power_5 200 a0 a2 (1 : Int64) (0 : Int32) μ
set_option maxRecDepth 100000 in
set_option maxHeartbeats 4000000 in
theorem tX5_power (g : zG) {a0 : Int64} {a2 : Int32} {μ : zMem} {Q : Int64 → zMem → Prop} (h : zok (fX5_power a0 a2 μ) Q) : zTl g yX5_power cX5_power 6 0 [.long a0, .int a2] μ Q := by
  refine zTl_of RX5 (by decide) rfl (Nat.le_of_ble_eq_true rfl) ?_
  intro κ X hret
  unfold fX5_power at h
  refine zi_lconst (pc' := 1) (v := (1 : Int64)) X dX5_power_0 rfl rfl ?_
  refine zi_lstore_n (pc' := 2) X dX5_power_1 rfl rfl (by decide) [(3, .long (1 : Int64)), (0, .long a0), (2, .int a2)] rfl ?_
  refine zi_iconst (pc' := 3) (v := (0 : Int32)) X dX5_power_2 rfl rfl ?_
  refine zi_istore (pc' := 5) X dX5_power_3 rfl (by decide) [(5, .int (0 : Int32)), (3, .long (1 : Int64)), (0, .long a0), (2, .int a2)] rfl ?_
  exact zi_sub X [2, 3, 1, 0] _ rfl (lX5_power_5 X hret 200 a0 a2 (1 : Int64) (0 : Int32) (μ) h)
