def fX5_fits_37 : Nat → Nat → Int32 → Int32 → Int32 → Int32 → zMem → Option (Int32 × zMem)
  | 0, _, _, _, _, _, _ => none
  | n + 1, a0, a1, a2, a4, a5, μ =>
    if (16 : Int32) ≤ a5 then
      some (a4, μ)
    else
      zbd (fX5_supposeAlone a0 a2 a5 μ) fun _ m6 =>
      zbd (fX0_passDay (a0 + 33) m6) fun _ m9 =>
      zgd (zib a1 4) (
      zgd (zib a2 6) (
      zbd (fX2_tells ((a0 + 55) + 3 + 2 * (a1).toNatClampNeg) ((((a0 + 33) + 3) + 1 + 2 * (a2).toNatClampNeg) + 1) m9) fun r18 m19 =>
      if r18 = 0 then
        fX5_fits_37 n a0 a1 a2 a4 (a5 + (1 : Int32)) m19
      else
        fX5_fits_37 n a0 a1 a2 (a4 ||| ((1 : Int32) <<< (a5 &&& 31))) (a5 + (1 : Int32)) m19))
set_option maxRecDepth 100000 in
theorem lX5_fits_37 {g : zG} {κ : zK} (X : zC g κ RX5 cX5_fits 6 4) {Q : Int32 → zMem → Prop} (hret : ∀ pc lv r μ', decode cX5_fits pc = .ok (.ireturn, 1) → True → Q r μ' → zV g κ pc lv [.int r] μ') : ∀ (n : Nat) (a0 : Nat) (a1 : Int32) (a2 : Int32) (a4 : Int32) (a5 : Int32) (μ : zMem) (ha0 : zkd a0 = 5), zok (fX5_fits_37 n a0 a1 a2 a4 a5 μ) Q → zV g κ 37 [(0, .ref (zad g a0)), (1, .int a1), (2, .int a2), (4, .int a4), (5, .int a5)] [] μ := by
  intro n
  induction n with
  | zero =>
    intro a0 a1 a2 a4 a5 μ ha0 h
    exact h.elim
  | succ n ih =>
    intro a0 a1 a2 a4 a5 μ ha0 h
    rw [fX5_fits_37] at h
    refine zi_iload (pc' := 39) X dX5_fits_37 rfl 4 rfl ?_
    refine zi_bipush (pc' := 41) (v := (16 : Int32)) X dX5_fits_39 rfl rfl ?_
    refine zi_icmp_ge (pc' := 44) (tgt := 97) X dX5_fits_41 rfl rfl (fun c => ?_) (fun c => ?_)
    · replace h := zok_t h c
      refine zi_iload (pc' := 99) X dX5_fits_97 rfl 3 rfl ?_
      exact hret _ _ _ _ dX5_fits_99 trivial h
    · replace h := zok_f h c
      refine zi_aload_n (pc' := 45) X dX5_fits_44 rfl rfl 0 rfl ?_
      refine zi_iload_n (pc' := 46) X dX5_fits_45 rfl rfl 2 rfl ?_
      refine zi_iload (pc' := 48) X dX5_fits_46 rfl 4 rfl ?_
      refine zi_callVv (pc' := 51) X zl_X5_204 ha0 (by decide) [.int a2, .int a5] rfl rfl (by decide) (Nat.le_of_ble_eq_true rfl) dX5_fits_48 rfl (tX5_supposeAlone _ ha0 (zok_bd h (fun _ m6 h => ?_)))
      refine zi_aload_n (pc' := 52) X dX5_fits_51 rfl rfl 0 rfl ?_
      refine zi_getr (pc' := 55) X zf_X5_19 rfl (by decide) ha0 dX5_fits_52 rfl ?_
      have f7 := zr_5_2 ha0
      refine zi_callVv (pc' := 58) X zl_X5_166 f7 (by decide) [] rfl rfl (by decide) (Nat.le_of_ble_eq_true rfl) dX5_fits_55 rfl (tX0_passDay _ f7 (zok_bd h (fun _ m9 h => ?_)))
      refine zi_aload_n (pc' := 59) X dX5_fits_58 rfl rfl 0 rfl ?_
      refine zi_getr (pc' := 62) X zf_X5_38 rfl (by decide) ha0 dX5_fits_59 rfl ?_
      have f10 := zr_5_5 ha0
      refine zi_iload_n (pc' := 63) X dX5_fits_62 rfl rfl 1 rfl ?_
      obtain ⟨g11, h⟩ := zok_g h
      refine zi_aaldS (pc' := 64) X f10.1 (by rw [f10.2]; exact g11) dX5_fits_63 rfl ?_
      have f12 := zr_sheet f10 g11
      refine zi_aload_n (pc' := 65) X dX5_fits_64 rfl rfl 0 rfl ?_
      refine zi_getr (pc' := 68) X zf_X5_19 rfl (by decide) ha0 dX5_fits_65 rfl ?_
      have f13 := zr_5_2 ha0
      refine zi_getr (pc' := 71) X zf_X5_99 rfl (by decide) f13 dX5_fits_68 rfl ?_
      have f14 := zr_0_2 f13
      refine zi_iload_n (pc' := 72) X dX5_fits_71 rfl rfl 2 rfl ?_
      obtain ⟨g15, h⟩ := zok_g h
      refine zi_aaldT (pc' := 73) X f14.1 (by rw [f14.2]; exact g15) dX5_fits_72 rfl ?_
      have f16 := zr_tent f14 g15
      refine zi_getr (pc' := 76) X zf_X5_163 rfl (by decide) f16 dX5_fits_73 rfl ?_
      have f17 := zr_4_3 f16
      refine zi_callVi (pc' := 79) X zl_X5_213 f12 (by decide) [.ref (zad g ((((a0 + 33) + 3) + 1 + 2 * (a2).toNatClampNeg) + 1))] rfl rfl (by decide) (Nat.le_of_ble_eq_true rfl) dX5_fits_76 rfl (tX2_tells _ f12 f17.1 (zok_bd h (fun r18 m19 h => ?_)))
      refine zi_if_eq (pc' := 82) (tgt := 91) X dX5_fits_79 rfl rfl (fun c => ?_) (fun c => ?_)
      · replace h := zok_t h c
        refine zi_iinc (pc' := 94) (v := (a5 + (1 : Int32))) X dX5_fits_91 rfl 4 rfl rfl (by decide) [(5, .int (a5 + (1 : Int32))), (0, .ref (zad g a0)), (1, .int a1), (2, .int a2), (4, .int a4)] rfl ?_
        refine zi_goto (pc' := 37) X dX5_fits_94 rfl ?_
        exact zi_sub X [1, 2, 3, 4, 0] _ rfl (ih a0 a1 a2 a4 (a5 + (1 : Int32)) (m19) ha0 h)
      · replace h := zok_f h c
        refine zi_iload (pc' := 84) X dX5_fits_82 rfl 3 rfl ?_
        refine zi_iconst (pc' := 85) (v := (1 : Int32)) X dX5_fits_84 rfl rfl ?_
        refine zi_iload (pc' := 87) X dX5_fits_85 rfl 4 rfl ?_
        refine zi_ishl (pc' := 88) X dX5_fits_87 rfl ?_
        refine zi_ior (pc' := 89) X dX5_fits_88 rfl ?_
        refine zi_istore (pc' := 91) X dX5_fits_89 rfl (by decide) [(4, .int (a4 ||| ((1 : Int32) <<< (a5 &&& 31)))), (0, .ref (zad g a0)), (1, .int a1), (2, .int a2), (5, .int a5)] rfl ?_
        refine zi_iinc (pc' := 94) (v := (a5 + (1 : Int32))) X dX5_fits_91 rfl 4 rfl rfl (by decide) [(5, .int (a5 + (1 : Int32))), (4, .int (a4 ||| ((1 : Int32) <<< (a5 &&& 31)))), (0, .ref (zad g a0)), (1, .int a1), (2, .int a2)] rfl ?_
        refine zi_goto (pc' := 37) X dX5_fits_94 rfl ?_
        exact zi_sub X [2, 3, 4, 1, 0] _ rfl (ih a0 a1 a2 (a4 ||| ((1 : Int32) <<< (a5 &&& 31))) (a5 + (1 : Int32)) (m19) ha0 h)
def fX5_fits (a0 : Nat) (a1 : Int32) (a2 : Int32) (μ : zMem) : Option (Int32 × zMem) :=
  zbd (fX5_lackOf a0 a1 μ) fun r1 m2 =>
  if r1 = (-1 : Int32) then
    zbd (fX5_isTent a0 a2 m2) fun r3 m4 =>
    if r3 = 0 then
      zbd (fX5_finding a0 (0 : Int32) m4) fun r20 m21 =>
      some (r20, m21)
    else
      fX5_fits_37 200 a0 a1 a2 (0 : Int32) (0 : Int32) m4
  else
    zbd (fX5_finding a0 r1 m2) fun r22 m23 =>
    some (r22, m23)
set_option maxRecDepth 100000 in
set_option maxHeartbeats 4000000 in
theorem tX5_fits (g : zG) {a0 : Nat} {a1 : Int32} {a2 : Int32} {μ : zMem} {Q : Int32 → zMem → Prop} (ha0 : zkd a0 = 5) (h : zok (fX5_fits a0 a1 a2 μ) Q) : zTi g yX5_fits cX5_fits 6 .int 4 [.ref (zad g a0), .int a1, .int a2] μ Q := by
  refine zTi_of (P := fun r => True) zpi RX5 (by decide) rfl (Nat.le_of_ble_eq_true rfl) ?_
  intro κ X hret
  unfold fX5_fits at h
  refine zi_aload_n (pc' := 1) X dX5_fits_0 rfl rfl 0 rfl ?_
  refine zi_iload_n (pc' := 2) X dX5_fits_1 rfl rfl 1 rfl ?_
  refine zi_callVi (pc' := 5) X zl_X5_210 ha0 (by decide) [.int a1] rfl rfl (by decide) (Nat.le_of_ble_eq_true rfl) dX5_fits_2 rfl (tX5_lackOf _ ha0 (zok_bd h (fun r1 m2 h => ?_)))
  refine zi_istore_n (pc' := 6) X dX5_fits_5 rfl rfl (by decide) [(3, .int r1), (0, .ref (zad g a0)), (1, .int a1), (2, .int a2)] rfl ?_
  refine zi_iload_n (pc' := 7) X dX5_fits_6 rfl rfl 0 rfl ?_
  refine zi_iconst (pc' := 8) (v := (-1 : Int32)) X dX5_fits_7 rfl rfl ?_
  refine zi_icmp_eq (pc' := 11) (tgt := 17) X dX5_fits_8 rfl rfl (fun c => ?_) (fun c => ?_)
  · replace h := zok_t h c
    refine zi_aload_n (pc' := 18) X dX5_fits_17 rfl rfl 1 rfl ?_
    refine zi_iload_n (pc' := 19) X dX5_fits_18 rfl rfl 3 rfl ?_
    refine zi_callVi (pc' := 22) X zl_X5_96 ha0 (by decide) [.int a2] rfl rfl (by decide) (Nat.le_of_ble_eq_true rfl) dX5_fits_19 rfl (tX5_isTent _ ha0 (zok_bd h (fun r3 m4 h => ?_)))
    refine zi_if_ne (pc' := 25) (tgt := 31) X dX5_fits_22 rfl rfl (fun c => ?_) (fun c => ?_)
    · replace h := zok_f h c
      refine zi_iconst (pc' := 32) (v := (0 : Int32)) X dX5_fits_31 rfl rfl ?_
      refine zi_istore (pc' := 34) X dX5_fits_32 rfl (by decide) [(4, .int (0 : Int32)), (3, .int r1), (0, .ref (zad g a0)), (1, .int a1), (2, .int a2)] rfl ?_
      refine zi_iconst (pc' := 35) (v := (0 : Int32)) X dX5_fits_34 rfl rfl ?_
      refine zi_istore (pc' := 37) X dX5_fits_35 rfl (by decide) [(5, .int (0 : Int32)), (4, .int (0 : Int32)), (3, .int r1), (0, .ref (zad g a0)), (1, .int a1), (2, .int a2)] rfl ?_
      exact zi_sub X [3, 4, 5, 1, 0] _ rfl (lX5_fits_37 X hret 200 a0 a1 a2 (0 : Int32) (0 : Int32) (m4) ha0 h)
    · replace h := zok_t h c
      refine zi_aload_n (pc' := 26) X dX5_fits_25 rfl rfl 1 rfl ?_
      refine zi_iconst (pc' := 27) (v := (0 : Int32)) X dX5_fits_26 rfl rfl ?_
      refine zi_callVi (pc' := 30) X zl_X5_61 ha0 (by decide) [.int (0 : Int32)] rfl rfl (by decide) (Nat.le_of_ble_eq_true rfl) dX5_fits_27 rfl (tX5_finding _ ha0 (zok_bd h (fun r20 m21 h => ?_)))
      exact hret _ _ _ _ dX5_fits_30 trivial h
  · replace h := zok_f h c
    refine zi_aload_n (pc' := 12) X dX5_fits_11 rfl rfl 1 rfl ?_
    refine zi_iload_n (pc' := 13) X dX5_fits_12 rfl rfl 0 rfl ?_
    refine zi_callVi (pc' := 16) X zl_X5_61 ha0 (by decide) [.int r1] rfl rfl (by decide) (Nat.le_of_ble_eq_true rfl) dX5_fits_13 rfl (tX5_finding _ ha0 (zok_bd h (fun r22 m23 h => ?_)))
    exact hret _ _ _ _ dX5_fits_16 trivial h
def fX5_kinds_37 : Nat → Nat → Int32 → Int32 → Int32 → Int32 → zMem → Option (Int32 × zMem)
  | 0, _, _, _, _, _, _ => none
  | n + 1, a0, a1, a2, a4, a5, μ =>
    if (7 : Int32) ≤ a5 then
      some (a4, μ)
    else
      zbd (fX0_becomeLike (a0 + 33) (a0 + 1) μ) fun _ m8 =>
      zgd (zib a2 6) (
      zbd (fX0_passDay (a0 + 33) (zst m8 (((a0 + 33) + 3) + 1 + 2 * (a2).toNatClampNeg) 0 a5)) fun _ m15 =>
      zgd (zib a1 4) (
      zgd (zib a2 6) (
      zbd (fX2_tells ((a0 + 55) + 3 + 2 * (a1).toNatClampNeg) ((((a0 + 33) + 3) + 1 + 2 * (a2).toNatClampNeg) + 1) m15) fun r24 m25 =>
      if r24 = 0 then
        fX5_kinds_37 n a0 a1 a2 a4 (a5 + (1 : Int32)) m25
      else
        fX5_kinds_37 n a0 a1 a2 (a4 ||| ((1 : Int32) <<< (a5 &&& 31))) (a5 + (1 : Int32)) m25)))
set_option maxRecDepth 100000 in
theorem lX5_kinds_37 {g : zG} {κ : zK} (X : zC g κ RX5 cX5_kinds 6 4) {Q : Int32 → zMem → Prop} (hret : ∀ pc lv r μ', decode cX5_kinds pc = .ok (.ireturn, 1) → True → Q r μ' → zV g κ pc lv [.int r] μ') : ∀ (n : Nat) (a0 : Nat) (a1 : Int32) (a2 : Int32) (a4 : Int32) (a5 : Int32) (μ : zMem) (ha0 : zkd a0 = 5), zok (fX5_kinds_37 n a0 a1 a2 a4 a5 μ) Q → zV g κ 37 [(0, .ref (zad g a0)), (1, .int a1), (2, .int a2), (4, .int a4), (5, .int a5)] [] μ := by
  intro n
  induction n with
  | zero =>
    intro a0 a1 a2 a4 a5 μ ha0 h
    exact h.elim
  | succ n ih =>
    intro a0 a1 a2 a4 a5 μ ha0 h
    rw [fX5_kinds_37] at h
    refine zi_iload (pc' := 39) X dX5_kinds_37 rfl 4 rfl ?_
    refine zi_bipush (pc' := 41) (v := (7 : Int32)) X dX5_kinds_39 rfl rfl ?_
    refine zi_icmp_ge (pc' := 44) (tgt := 115) X dX5_kinds_41 rfl rfl (fun c => ?_) (fun c => ?_)
    · replace h := zok_t h c
      refine zi_iload (pc' := 117) X dX5_kinds_115 rfl 3 rfl ?_
      exact hret _ _ _ _ dX5_kinds_117 trivial h
    · replace h := zok_f h c
      refine zi_aload_n (pc' := 45) X dX5_kinds_44 rfl rfl 0 rfl ?_
      refine zi_getr (pc' := 48) X zf_X5_19 rfl (by decide) ha0 dX5_kinds_45 rfl ?_
      have f5 := zr_5_2 ha0
      refine zi_aload_n (pc' := 49) X dX5_kinds_48 rfl rfl 0 rfl ?_
      refine zi_getr (pc' := 52) X zf_X5_10 rfl (by decide) ha0 dX5_kinds_49 rfl ?_
      have f6 := zr_5_0 ha0
      refine zi_callVv (pc' := 55) X zl_X5_159 f5 (by decide) [.ref (zad g (a0 + 1))] rfl rfl (by decide) (Nat.le_of_ble_eq_true rfl) dX5_kinds_52 rfl (tX0_becomeLike _ f5 f6 (zok_bd h (fun _ m8 h => ?_)))
      refine zi_aload_n (pc' := 56) X dX5_kinds_55 rfl rfl 0 rfl ?_
      refine zi_getr (pc' := 59) X zf_X5_19 rfl (by decide) ha0 dX5_kinds_56 rfl ?_
      have f9 := zr_5_2 ha0
      refine zi_getr (pc' := 62) X zf_X5_99 rfl (by decide) f9 dX5_kinds_59 rfl ?_
      have f10 := zr_0_2 f9
      refine zi_iload_n (pc' := 63) X dX5_kinds_62 rfl rfl 2 rfl ?_
      obtain ⟨g11, h⟩ := zok_g h
      refine zi_aaldT (pc' := 64) X f10.1 (by rw [f10.2]; exact g11) dX5_kinds_63 rfl ?_
      have f12 := zr_tent f10 g11
      refine zi_iload (pc' := 66) X dX5_kinds_64 rfl 4 rfl ?_
      refine zi_put (pc' := 69) X zf_X5_197 zw_4_0 rfl (by decide) f12 rfl rfl dX5_kinds_66 rfl ?_
      refine zi_aload_n (pc' := 70) X dX5_kinds_69 rfl rfl 0 rfl ?_
      refine zi_getr (pc' := 73) X zf_X5_19 rfl (by decide) ha0 dX5_kinds_70 rfl ?_
      have f13 := zr_5_2 ha0
      refine zi_callVv (pc' := 76) X zl_X5_166 f13 (by decide) [] rfl rfl (by decide) (Nat.le_of_ble_eq_true rfl) dX5_kinds_73 rfl (tX0_passDay _ f13 (zok_bd h (fun _ m15 h => ?_)))
      refine zi_aload_n (pc' := 77) X dX5_kinds_76 rfl rfl 0 rfl ?_
      refine zi_getr (pc' := 80) X zf_X5_38 rfl (by decide) ha0 dX5_kinds_77 rfl ?_
      have f16 := zr_5_5 ha0
      refine zi_iload_n (pc' := 81) X dX5_kinds_80 rfl rfl 1 rfl ?_
      obtain ⟨g17, h⟩ := zok_g h
      refine zi_aaldS (pc' := 82) X f16.1 (by rw [f16.2]; exact g17) dX5_kinds_81 rfl ?_
      have f18 := zr_sheet f16 g17
      refine zi_aload_n (pc' := 83) X dX5_kinds_82 rfl rfl 0 rfl ?_
      refine zi_getr (pc' := 86) X zf_X5_19 rfl (by decide) ha0 dX5_kinds_83 rfl ?_
      have f19 := zr_5_2 ha0
      refine zi_getr (pc' := 89) X zf_X5_99 rfl (by decide) f19 dX5_kinds_86 rfl ?_
      have f20 := zr_0_2 f19
      refine zi_iload_n (pc' := 90) X dX5_kinds_89 rfl rfl 2 rfl ?_
      obtain ⟨g21, h⟩ := zok_g h
      refine zi_aaldT (pc' := 91) X f20.1 (by rw [f20.2]; exact g21) dX5_kinds_90 rfl ?_
      have f22 := zr_tent f20 g21
      refine zi_getr (pc' := 94) X zf_X5_163 rfl (by decide) f22 dX5_kinds_91 rfl ?_
      have f23 := zr_4_3 f22
      refine zi_callVi (pc' := 97) X zl_X5_213 f18 (by decide) [.ref (zad g ((((a0 + 33) + 3) + 1 + 2 * (a2).toNatClampNeg) + 1))] rfl rfl (by decide) (Nat.le_of_ble_eq_true rfl) dX5_kinds_94 rfl (tX2_tells _ f18 f23.1 (zok_bd h (fun r24 m25 h => ?_)))
      refine zi_if_eq (pc' := 100) (tgt := 109) X dX5_kinds_97 rfl rfl (fun c => ?_) (fun c => ?_)
      · replace h := zok_t h c
        refine zi_iinc (pc' := 112) (v := (a5 + (1 : Int32))) X dX5_kinds_109 rfl 4 rfl rfl (by decide) [(5, .int (a5 + (1 : Int32))), (0, .ref (zad g a0)), (1, .int a1), (2, .int a2), (4, .int a4)] rfl ?_
        refine zi_goto (pc' := 37) X dX5_kinds_112 rfl ?_
        exact zi_sub X [1, 2, 3, 4, 0] _ rfl (ih a0 a1 a2 a4 (a5 + (1 : Int32)) (m25) ha0 h)
      · replace h := zok_f h c
        refine zi_iload (pc' := 102) X dX5_kinds_100 rfl 3 rfl ?_
        refine zi_iconst (pc' := 103) (v := (1 : Int32)) X dX5_kinds_102 rfl rfl ?_
        refine zi_iload (pc' := 105) X dX5_kinds_103 rfl 4 rfl ?_
        refine zi_ishl (pc' := 106) X dX5_kinds_105 rfl ?_
        refine zi_ior (pc' := 107) X dX5_kinds_106 rfl ?_
        refine zi_istore (pc' := 109) X dX5_kinds_107 rfl (by decide) [(4, .int (a4 ||| ((1 : Int32) <<< (a5 &&& 31)))), (0, .ref (zad g a0)), (1, .int a1), (2, .int a2), (5, .int a5)] rfl ?_
        refine zi_iinc (pc' := 112) (v := (a5 + (1 : Int32))) X dX5_kinds_109 rfl 4 rfl rfl (by decide) [(5, .int (a5 + (1 : Int32))), (4, .int (a4 ||| ((1 : Int32) <<< (a5 &&& 31)))), (0, .ref (zad g a0)), (1, .int a1), (2, .int a2)] rfl ?_
        refine zi_goto (pc' := 37) X dX5_kinds_112 rfl ?_
        exact zi_sub X [2, 3, 4, 1, 0] _ rfl (ih a0 a1 a2 (a4 ||| ((1 : Int32) <<< (a5 &&& 31))) (a5 + (1 : Int32)) (m25) ha0 h)
def fX5_kinds (a0 : Nat) (a1 : Int32) (a2 : Int32) (μ : zMem) : Option (Int32 × zMem) :=
  zbd (fX5_lackOf a0 a1 μ) fun r1 m2 =>
  if r1 = (-1 : Int32) then
    zbd (fX5_isTent a0 a2 m2) fun r3 m4 =>
    if r3 = 0 then
      zbd (fX5_finding a0 (0 : Int32) m4) fun r26 m27 =>
      some (r26, m27)
    else
      fX5_kinds_37 200 a0 a1 a2 (0 : Int32) (0 : Int32) m4
  else
    zbd (fX5_finding a0 r1 m2) fun r28 m29 =>
    some (r28, m29)
set_option maxRecDepth 100000 in
set_option maxHeartbeats 4000000 in
theorem tX5_kinds (g : zG) {a0 : Nat} {a1 : Int32} {a2 : Int32} {μ : zMem} {Q : Int32 → zMem → Prop} (ha0 : zkd a0 = 5) (h : zok (fX5_kinds a0 a1 a2 μ) Q) : zTi g yX5_kinds cX5_kinds 6 .int 4 [.ref (zad g a0), .int a1, .int a2] μ Q := by
  refine zTi_of (P := fun r => True) zpi RX5 (by decide) rfl (Nat.le_of_ble_eq_true rfl) ?_
  intro κ X hret
  unfold fX5_kinds at h
  refine zi_aload_n (pc' := 1) X dX5_kinds_0 rfl rfl 0 rfl ?_
  refine zi_iload_n (pc' := 2) X dX5_kinds_1 rfl rfl 1 rfl ?_
  refine zi_callVi (pc' := 5) X zl_X5_210 ha0 (by decide) [.int a1] rfl rfl (by decide) (Nat.le_of_ble_eq_true rfl) dX5_kinds_2 rfl (tX5_lackOf _ ha0 (zok_bd h (fun r1 m2 h => ?_)))
  refine zi_istore_n (pc' := 6) X dX5_kinds_5 rfl rfl (by decide) [(3, .int r1), (0, .ref (zad g a0)), (1, .int a1), (2, .int a2)] rfl ?_
  refine zi_iload_n (pc' := 7) X dX5_kinds_6 rfl rfl 0 rfl ?_
  refine zi_iconst (pc' := 8) (v := (-1 : Int32)) X dX5_kinds_7 rfl rfl ?_
  refine zi_icmp_eq (pc' := 11) (tgt := 17) X dX5_kinds_8 rfl rfl (fun c => ?_) (fun c => ?_)
  · replace h := zok_t h c
    refine zi_aload_n (pc' := 18) X dX5_kinds_17 rfl rfl 1 rfl ?_
    refine zi_iload_n (pc' := 19) X dX5_kinds_18 rfl rfl 3 rfl ?_
    refine zi_callVi (pc' := 22) X zl_X5_96 ha0 (by decide) [.int a2] rfl rfl (by decide) (Nat.le_of_ble_eq_true rfl) dX5_kinds_19 rfl (tX5_isTent _ ha0 (zok_bd h (fun r3 m4 h => ?_)))
    refine zi_if_ne (pc' := 25) (tgt := 31) X dX5_kinds_22 rfl rfl (fun c => ?_) (fun c => ?_)
    · replace h := zok_f h c
      refine zi_iconst (pc' := 32) (v := (0 : Int32)) X dX5_kinds_31 rfl rfl ?_
      refine zi_istore (pc' := 34) X dX5_kinds_32 rfl (by decide) [(4, .int (0 : Int32)), (3, .int r1), (0, .ref (zad g a0)), (1, .int a1), (2, .int a2)] rfl ?_
      refine zi_iconst (pc' := 35) (v := (0 : Int32)) X dX5_kinds_34 rfl rfl ?_
      refine zi_istore (pc' := 37) X dX5_kinds_35 rfl (by decide) [(5, .int (0 : Int32)), (4, .int (0 : Int32)), (3, .int r1), (0, .ref (zad g a0)), (1, .int a1), (2, .int a2)] rfl ?_
      exact zi_sub X [3, 4, 5, 1, 0] _ rfl (lX5_kinds_37 X hret 200 a0 a1 a2 (0 : Int32) (0 : Int32) (m4) ha0 h)
    · replace h := zok_t h c
      refine zi_aload_n (pc' := 26) X dX5_kinds_25 rfl rfl 1 rfl ?_
      refine zi_iconst (pc' := 27) (v := (0 : Int32)) X dX5_kinds_26 rfl rfl ?_
      refine zi_callVi (pc' := 30) X zl_X5_61 ha0 (by decide) [.int (0 : Int32)] rfl rfl (by decide) (Nat.le_of_ble_eq_true rfl) dX5_kinds_27 rfl (tX5_finding _ ha0 (zok_bd h (fun r26 m27 h => ?_)))
      exact hret _ _ _ _ dX5_kinds_30 trivial h
  · replace h := zok_f h c
    refine zi_aload_n (pc' := 12) X dX5_kinds_11 rfl rfl 1 rfl ?_
    refine zi_iload_n (pc' := 13) X dX5_kinds_12 rfl rfl 0 rfl ?_
    refine zi_callVi (pc' := 16) X zl_X5_61 ha0 (by decide) [.int r1] rfl rfl (by decide) (Nat.le_of_ble_eq_true rfl) dX5_kinds_13 rfl (tX5_finding _ ha0 (zok_bd h (fun r28 m29 h => ?_)))
    exact hret _ _ _ _ dX5_kinds_16 trivial h
def fX5_lies_55 : Nat → Nat → Int32 → Int32 → Int32 → zMem → Option (Int32 × zMem)
  | 0, _, _, _, _, _ => none
  | n + 1, a0, a1, a2, a3, μ =>
    if (100 : Int32) < a3 then
      zbd (fX5_finding a0 (3 : Int32) μ) fun r17 m18 =>
      some (r17, m18)
    else
      zgd (zib a1 6) (
      zbd (fX0_greatestGap (a0 + 33) (((a0 + 33) + 3) + 1 + 2 * (a1).toNatClampNeg) μ) fun r24 m25 =>
      if a2 < r24 then
        zbd (fX0_passDay (a0 + 33) m25) fun _ m28 =>
        fX5_lies_55 n a0 a1 a2 (a3 + (1 : Int32)) m28
      else
        some (a3, m25))
set_option maxRecDepth 100000 in
theorem lX5_lies_55 {g : zG} {κ : zK} (X : zC g κ RX5 cX5_lies 4 4) {Q : Int32 → zMem → Prop} (hret : ∀ pc lv r μ', decode cX5_lies pc = .ok (.ireturn, 1) → True → Q r μ' → zV g κ pc lv [.int r] μ') : ∀ (n : Nat) (a0 : Nat) (a1 : Int32) (a2 : Int32) (a3 : Int32) (μ : zMem) (ha0 : zkd a0 = 5), zok (fX5_lies_55 n a0 a1 a2 a3 μ) Q → zV g κ 55 [(0, .ref (zad g a0)), (1, .int a1), (2, .int a2), (3, .int a3)] [] μ := by
  intro n
  induction n with
  | zero =>
    intro a0 a1 a2 a3 μ ha0 h
    exact h.elim
  | succ n ih =>
    intro a0 a1 a2 a3 μ ha0 h
    rw [fX5_lies_55] at h
    refine zi_iload_n (pc' := 56) X dX5_lies_55 rfl rfl 3 rfl ?_
    refine zi_bipush (pc' := 58) (v := (100 : Int32)) X dX5_lies_56 rfl rfl ?_
    refine zi_icmp_gt (pc' := 61) (tgt := 96) X dX5_lies_58 rfl rfl (fun c => ?_) (fun c => ?_)
    · replace h := zok_t h c
      refine zi_aload_n (pc' := 97) X dX5_lies_96 rfl rfl 0 rfl ?_
      refine zi_iconst (pc' := 98) (v := (3 : Int32)) X dX5_lies_97 rfl rfl ?_
      refine zi_callVi (pc' := 101) X zl_X5_61 ha0 (by decide) [.int (3 : Int32)] rfl rfl (by decide) (Nat.le_of_ble_eq_true rfl) dX5_lies_98 rfl (tX5_finding _ ha0 (zok_bd h (fun r17 m18 h => ?_)))
      exact hret _ _ _ _ dX5_lies_101 trivial h
    · replace h := zok_f h c
      refine zi_aload_n (pc' := 62) X dX5_lies_61 rfl rfl 0 rfl ?_
      refine zi_getr (pc' := 65) X zf_X5_19 rfl (by decide) ha0 dX5_lies_62 rfl ?_
      have f19 := zr_5_2 ha0
      refine zi_aload_n (pc' := 66) X dX5_lies_65 rfl rfl 0 rfl ?_
      refine zi_getr (pc' := 69) X zf_X5_19 rfl (by decide) ha0 dX5_lies_66 rfl ?_
      have f20 := zr_5_2 ha0
      refine zi_getr (pc' := 72) X zf_X5_99 rfl (by decide) f20 dX5_lies_69 rfl ?_
      have f21 := zr_0_2 f20
      refine zi_iload_n (pc' := 73) X dX5_lies_72 rfl rfl 1 rfl ?_
      obtain ⟨g22, h⟩ := zok_g h
      refine zi_aaldT (pc' := 74) X f21.1 (by rw [f21.2]; exact g22) dX5_lies_73 rfl ?_
      have f23 := zr_tent f21 g22
      refine zi_callVi (pc' := 77) X zl_X5_183 f19 (by decide) [.ref (zad g (((a0 + 33) + 3) + 1 + 2 * (a1).toNatClampNeg))] rfl rfl (by decide) (Nat.le_of_ble_eq_true rfl) dX5_lies_74 rfl (tX0_greatestGap _ f19 f23 (zok_bd h (fun r24 m25 h => ?_)))
      refine zi_iload_n (pc' := 78) X dX5_lies_77 rfl rfl 2 rfl ?_
      refine zi_icmp_gt (pc' := 81) (tgt := 83) X dX5_lies_78 rfl rfl (fun c => ?_) (fun c => ?_)
      · replace h := zok_t h c
        refine zi_aload_n (pc' := 84) X dX5_lies_83 rfl rfl 0 rfl ?_
        refine zi_getr (pc' := 87) X zf_X5_19 rfl (by decide) ha0 dX5_lies_84 rfl ?_
        have f26 := zr_5_2 ha0
        refine zi_callVv (pc' := 90) X zl_X5_166 f26 (by decide) [] rfl rfl (by decide) (Nat.le_of_ble_eq_true rfl) dX5_lies_87 rfl (tX0_passDay _ f26 (zok_bd h (fun _ m28 h => ?_)))
        refine zi_iinc (pc' := 93) (v := (a3 + (1 : Int32))) X dX5_lies_90 rfl 3 rfl rfl (by decide) [(3, .int (a3 + (1 : Int32))), (0, .ref (zad g a0)), (1, .int a1), (2, .int a2)] rfl ?_
        refine zi_goto (pc' := 55) X dX5_lies_93 rfl ?_
        exact zi_sub X [1, 2, 3, 0] _ rfl (ih a0 a1 a2 (a3 + (1 : Int32)) (m28) ha0 h)
      · replace h := zok_f h c
        refine zi_iload_n (pc' := 82) X dX5_lies_81 rfl rfl 3 rfl ?_
        exact hret _ _ _ _ dX5_lies_82 trivial h
def fX5_lies (a0 : Nat) (a1 : Int32) (a2 : Int32) (μ : zMem) : Option (Int32 × zMem) :=
  zbd (fX5_isTent a0 a1 μ) fun r1 m2 =>
  if r1 = 0 then
    zbd (fX5_finding a0 (0 : Int32) m2) fun r3 m4 =>
    some (r3, m4)
  else
    zbd (fX5_isMeasure a2 m2) fun r5 m6 =>
    if r5 = 0 then
      zbd (fX5_finding a0 (0 : Int32) m6) fun r31 m32 =>
      some (r31, m32)
    else
      zgd (zib a1 6) (
      zbd (fX4_isPitched (((a0 + 1) + 3) + 1 + 2 * (a1).toNatClampNeg) m6) fun r11 m12 =>
      if r11 = 0 then
        zbd (fX5_finding a0 (4 : Int32) m12) fun r29 m30 =>
        some (r29, m30)
      else
        zbd (fX0_becomeLike (a0 + 33) (a0 + 1) m12) fun _ m16 =>
        fX5_lies_55 200 a0 a1 a2 (0 : Int32) m16)
set_option maxRecDepth 100000 in
set_option maxHeartbeats 4000000 in
theorem tX5_lies (g : zG) {a0 : Nat} {a1 : Int32} {a2 : Int32} {μ : zMem} {Q : Int32 → zMem → Prop} (ha0 : zkd a0 = 5) (h : zok (fX5_lies a0 a1 a2 μ) Q) : zTi g yX5_lies cX5_lies 4 .int 4 [.ref (zad g a0), .int a1, .int a2] μ Q := by
  refine zTi_of (P := fun r => True) zpi RX5 (by decide) rfl (Nat.le_of_ble_eq_true rfl) ?_
  intro κ X hret
  unfold fX5_lies at h
  refine zi_aload_n (pc' := 1) X dX5_lies_0 rfl rfl 0 rfl ?_
  refine zi_iload_n (pc' := 2) X dX5_lies_1 rfl rfl 1 rfl ?_
  refine zi_callVi (pc' := 5) X zl_X5_96 ha0 (by decide) [.int a1] rfl rfl (by decide) (Nat.le_of_ble_eq_true rfl) dX5_lies_2 rfl (tX5_isTent _ ha0 (zok_bd h (fun r1 m2 h => ?_)))
  refine zi_if_eq (pc' := 8) (tgt := 15) X dX5_lies_5 rfl rfl (fun c => ?_) (fun c => ?_)
  · replace h := zok_t h c
    refine zi_aload_n (pc' := 16) X dX5_lies_15 rfl rfl 0 rfl ?_
    refine zi_iconst (pc' := 17) (v := (0 : Int32)) X dX5_lies_16 rfl rfl ?_
    refine zi_callVi (pc' := 20) X zl_X5_61 ha0 (by decide) [.int (0 : Int32)] rfl rfl (by decide) (Nat.le_of_ble_eq_true rfl) dX5_lies_17 rfl (tX5_finding _ ha0 (zok_bd h (fun r3 m4 h => ?_)))
    exact hret _ _ _ _ dX5_lies_20 trivial h
  · replace h := zok_f h c
    refine zi_iload_n (pc' := 9) X dX5_lies_8 rfl rfl 2 rfl ?_
    refine zi_callSi (pc' := 12) X zl_X5_58 [.int a2] rfl rfl (by decide) (Nat.le_of_ble_eq_true rfl) dX5_lies_9 rfl (tX5_isMeasure _ (zok_bd h (fun r5 m6 h => ?_)))
    refine zi_if_ne (pc' := 15) (tgt := 21) X dX5_lies_12 rfl rfl (fun c => ?_) (fun c => ?_)
    · replace h := zok_f h c
      refine zi_aload_n (pc' := 22) X dX5_lies_21 rfl rfl 0 rfl ?_
      refine zi_getr (pc' := 25) X zf_X5_10 rfl (by decide) ha0 dX5_lies_22 rfl ?_
      have f7 := zr_5_0 ha0
      refine zi_getr (pc' := 28) X zf_X5_99 rfl (by decide) f7 dX5_lies_25 rfl ?_
      have f8 := zr_0_2 f7
      refine zi_iload_n (pc' := 29) X dX5_lies_28 rfl rfl 1 rfl ?_
      obtain ⟨g9, h⟩ := zok_g h
      refine zi_aaldT (pc' := 30) X f8.1 (by rw [f8.2]; exact g9) dX5_lies_29 rfl ?_
      have f10 := zr_tent f8 g9
      refine zi_callVi (pc' := 33) X zl_X5_179 f10 (by decide) [] rfl rfl (by decide) (Nat.le_of_ble_eq_true rfl) dX5_lies_30 rfl (tX4_isPitched _ f10 (zok_bd h (fun r11 m12 h => ?_)))
      refine zi_if_ne (pc' := 36) (tgt := 42) X dX5_lies_33 rfl rfl (fun c => ?_) (fun c => ?_)
      · replace h := zok_f h c
        refine zi_aload_n (pc' := 43) X dX5_lies_42 rfl rfl 0 rfl ?_
        refine zi_getr (pc' := 46) X zf_X5_19 rfl (by decide) ha0 dX5_lies_43 rfl ?_
        have f13 := zr_5_2 ha0
        refine zi_aload_n (pc' := 47) X dX5_lies_46 rfl rfl 0 rfl ?_
        refine zi_getr (pc' := 50) X zf_X5_10 rfl (by decide) ha0 dX5_lies_47 rfl ?_
        have f14 := zr_5_0 ha0
        refine zi_callVv (pc' := 53) X zl_X5_159 f13 (by decide) [.ref (zad g (a0 + 1))] rfl rfl (by decide) (Nat.le_of_ble_eq_true rfl) dX5_lies_50 rfl (tX0_becomeLike _ f13 f14 (zok_bd h (fun _ m16 h => ?_)))
        refine zi_iconst (pc' := 54) (v := (0 : Int32)) X dX5_lies_53 rfl rfl ?_
        refine zi_istore_n (pc' := 55) X dX5_lies_54 rfl rfl (by decide) [(3, .int (0 : Int32)), (0, .ref (zad g a0)), (1, .int a1), (2, .int a2)] rfl ?_
        exact zi_sub X [1, 2, 3, 0] _ rfl (lX5_lies_55 X hret 200 a0 a1 a2 (0 : Int32) (m16) ha0 h)
      · replace h := zok_t h c
        refine zi_aload_n (pc' := 37) X dX5_lies_36 rfl rfl 0 rfl ?_
        refine zi_iconst (pc' := 38) (v := (4 : Int32)) X dX5_lies_37 rfl rfl ?_
        refine zi_callVi (pc' := 41) X zl_X5_61 ha0 (by decide) [.int (4 : Int32)] rfl rfl (by decide) (Nat.le_of_ble_eq_true rfl) dX5_lies_38 rfl (tX5_finding _ ha0 (zok_bd h (fun r29 m30 h => ?_)))
        exact hret _ _ _ _ dX5_lies_41 trivial h
    · replace h := zok_t h c
      refine zi_aload_n (pc' := 16) X dX5_lies_15 rfl rfl 0 rfl ?_
      refine zi_iconst (pc' := 17) (v := (0 : Int32)) X dX5_lies_16 rfl rfl ?_
      refine zi_callVi (pc' := 20) X zl_X5_61 ha0 (by decide) [.int (0 : Int32)] rfl rfl (by decide) (Nat.le_of_ble_eq_true rfl) dX5_lies_17 rfl (tX5_finding _ ha0 (zok_bd h (fun r31 m32 h => ?_)))
      exact hret _ _ _ _ dX5_lies_20 trivial h
def fX5_nomads_38 : Nat → Nat → Int32 → Int32 → zMem → Option (Int32 × zMem)
  | 0, _, _, _, _ => none
  | n + 1, a0, a1, a2, μ =>
    if a1 ≤ a2 then
      zbd (fX0_heightSum (a0 + 1) μ) fun r5 m6 =>
      some (r5, m6)
    else
      zbd (fX0_draw (a0 + 1) μ) fun r8 m9 =>
      zbd (fX0_draw (a0 + 1) m9) fun r11 m12 =>
      zbd (fX5_isTent a0 (r8 - r8 / (8 : Int32) * (8 : Int32)) m12) fun r13 m14 =>
      if r13 = 0 then
        zbd (fX0_passDay (a0 + 1) m14) fun _ m17 =>
        fX5_nomads_38 n a0 a1 (a2 + (1 : Int32)) m17
      else
        zgd (zib (r8 - r8 / (8 : Int32) * (8 : Int32)) 6) (
        zbd (fX0_passDay (a0 + 1) (zst m14 (((a0 + 1) + 3) + 1 + 2 * ((r8 - r8 / (8 : Int32) * (8 : Int32))).toNatClampNeg) 1 (r11 - r11 / (16 : Int32) * (16 : Int32)))) fun _ m24 =>
        fX5_nomads_38 n a0 a1 (a2 + (1 : Int32)) m24)
set_option maxRecDepth 100000 in
theorem lX5_nomads_38 {g : zG} {κ : zK} (X : zC g κ RX5 cX5_nomads 5 4) {Q : Int32 → zMem → Prop} (hret : ∀ pc lv r μ', decode cX5_nomads pc = .ok (.ireturn, 1) → True → Q r μ' → zV g κ pc lv [.int r] μ') : ∀ (n : Nat) (a0 : Nat) (a1 : Int32) (a2 : Int32) (μ : zMem) (ha0 : zkd a0 = 5), zok (fX5_nomads_38 n a0 a1 a2 μ) Q → zV g κ 38 [(0, .ref (zad g a0)), (1, .int a1), (2, .int a2)] [] μ := by
  intro n
  induction n with
  | zero =>
    intro a0 a1 a2 μ ha0 h
    exact h.elim
  | succ n ih =>
    intro a0 a1 a2 μ ha0 h
    rw [fX5_nomads_38] at h
    refine zi_iload_n (pc' := 39) X dX5_nomads_38 rfl rfl 2 rfl ?_
    refine zi_iload_n (pc' := 40) X dX5_nomads_39 rfl rfl 1 rfl ?_
    refine zi_icmp_ge (pc' := 43) (tgt := 101) X dX5_nomads_40 rfl rfl (fun c => ?_) (fun c => ?_)
    · replace h := zok_t h c
      refine zi_aload_n (pc' := 102) X dX5_nomads_101 rfl rfl 0 rfl ?_
      refine zi_getr (pc' := 105) X zf_X5_10 rfl (by decide) ha0 dX5_nomads_102 rfl ?_
      have f4 := zr_5_0 ha0
      refine zi_callVi (pc' := 108) X zl_X5_126 f4 (by decide) [] rfl rfl (by decide) (Nat.le_of_ble_eq_true rfl) dX5_nomads_105 rfl (tX0_heightSum _ f4 (zok_bd h (fun r5 m6 h => ?_)))
      exact hret _ _ _ _ dX5_nomads_108 trivial h
    · replace h := zok_f h c
      refine zi_aload_n (pc' := 44) X dX5_nomads_43 rfl rfl 0 rfl ?_
      refine zi_getr (pc' := 47) X zf_X5_10 rfl (by decide) ha0 dX5_nomads_44 rfl ?_
      have f7 := zr_5_0 ha0
      refine zi_callVi (pc' := 50) X zl_X5_216 f7 (by decide) [] rfl rfl (by decide) (Nat.le_of_ble_eq_true rfl) dX5_nomads_47 rfl (tX0_draw _ f7 (zok_bd h (fun r8 m9 h => ?_)))
      refine zi_bipush (pc' := 52) (v := (8 : Int32)) X dX5_nomads_50 rfl rfl ?_
      refine zi_irem (pc' := 53) X dX5_nomads_52 rfl (by decide) ?_
      refine zi_istore_n (pc' := 54) X dX5_nomads_53 rfl rfl (by decide) [(3, .int (r8 - r8 / (8 : Int32) * (8 : Int32))), (0, .ref (zad g a0)), (1, .int a1), (2, .int a2)] rfl ?_
      refine zi_aload_n (pc' := 55) X dX5_nomads_54 rfl rfl 1 rfl ?_
      refine zi_getr (pc' := 58) X zf_X5_10 rfl (by decide) ha0 dX5_nomads_55 rfl ?_
      have f10 := zr_5_0 ha0
      refine zi_callVi (pc' := 61) X zl_X5_216 f10 (by decide) [] rfl rfl (by decide) (Nat.le_of_ble_eq_true rfl) dX5_nomads_58 rfl (tX0_draw _ f10 (zok_bd h (fun r11 m12 h => ?_)))
      refine zi_bipush (pc' := 63) (v := (16 : Int32)) X dX5_nomads_61 rfl rfl ?_
      refine zi_irem (pc' := 64) X dX5_nomads_63 rfl (by decide) ?_
      refine zi_istore (pc' := 66) X dX5_nomads_64 rfl (by decide) [(4, .int (r11 - r11 / (16 : Int32) * (16 : Int32))), (3, .int (r8 - r8 / (8 : Int32) * (8 : Int32))), (0, .ref (zad g a0)), (1, .int a1), (2, .int a2)] rfl ?_
      refine zi_aload_n (pc' := 67) X dX5_nomads_66 rfl rfl 2 rfl ?_
      refine zi_iload_n (pc' := 68) X dX5_nomads_67 rfl rfl 1 rfl ?_
      refine zi_callVi (pc' := 71) X zl_X5_96 ha0 (by decide) [.int (r8 - r8 / (8 : Int32) * (8 : Int32))] rfl rfl (by decide) (Nat.le_of_ble_eq_true rfl) dX5_nomads_68 rfl (tX5_isTent _ ha0 (zok_bd h (fun r13 m14 h => ?_)))
      refine zi_if_eq (pc' := 74) (tgt := 88) X dX5_nomads_71 rfl rfl (fun c => ?_) (fun c => ?_)
      · replace h := zok_t h c
        refine zi_aload_n (pc' := 89) X dX5_nomads_88 rfl rfl 2 rfl ?_
        refine zi_getr (pc' := 92) X zf_X5_10 rfl (by decide) ha0 dX5_nomads_89 rfl ?_
        have f15 := zr_5_0 ha0
        refine zi_callVv (pc' := 95) X zl_X5_166 f15 (by decide) [] rfl rfl (by decide) (Nat.le_of_ble_eq_true rfl) dX5_nomads_92 rfl (tX0_passDay _ f15 (zok_bd h (fun _ m17 h => ?_)))
        refine zi_iinc (pc' := 98) (v := (a2 + (1 : Int32))) X dX5_nomads_95 rfl 4 rfl rfl (by decide) [(2, .int (a2 + (1 : Int32))), (4, .int (r11 - r11 / (16 : Int32) * (16 : Int32))), (3, .int (r8 - r8 / (8 : Int32) * (8 : Int32))), (0, .ref (zad g a0)), (1, .int a1)] rfl ?_
        refine zi_goto (pc' := 38) X dX5_nomads_98 rfl ?_
        exact zi_sub X [3, 4, 0] _ rfl (ih a0 a1 (a2 + (1 : Int32)) (m17) ha0 h)
      · replace h := zok_f h c
        refine zi_aload_n (pc' := 75) X dX5_nomads_74 rfl rfl 2 rfl ?_
        refine zi_getr (pc' := 78) X zf_X5_10 rfl (by decide) ha0 dX5_nomads_75 rfl ?_
        have f18 := zr_5_0 ha0
        refine zi_getr (pc' := 81) X zf_X5_99 rfl (by decide) f18 dX5_nomads_78 rfl ?_
        have f19 := zr_0_2 f18
        refine zi_iload_n (pc' := 82) X dX5_nomads_81 rfl rfl 1 rfl ?_
        obtain ⟨g20, h⟩ := zok_g h
        refine zi_aaldT (pc' := 83) X f19.1 (by rw [f19.2]; exact g20) dX5_nomads_82 rfl ?_
        have f21 := zr_tent f19 g20
        refine zi_iload (pc' := 85) X dX5_nomads_83 rfl 0 rfl ?_
        refine zi_put (pc' := 88) X zf_X5_194 zw_4_1 rfl (by decide) f21 rfl rfl dX5_nomads_85 rfl ?_
        refine zi_aload_n (pc' := 89) X dX5_nomads_88 rfl rfl 2 rfl ?_
        refine zi_getr (pc' := 92) X zf_X5_10 rfl (by decide) ha0 dX5_nomads_89 rfl ?_
        have f22 := zr_5_0 ha0
        refine zi_callVv (pc' := 95) X zl_X5_166 f22 (by decide) [] rfl rfl (by decide) (Nat.le_of_ble_eq_true rfl) dX5_nomads_92 rfl (tX0_passDay _ f22 (zok_bd h (fun _ m24 h => ?_)))
        refine zi_iinc (pc' := 98) (v := (a2 + (1 : Int32))) X dX5_nomads_95 rfl 4 rfl rfl (by decide) [(2, .int (a2 + (1 : Int32))), (4, .int (r11 - r11 / (16 : Int32) * (16 : Int32))), (3, .int (r8 - r8 / (8 : Int32) * (8 : Int32))), (0, .ref (zad g a0)), (1, .int a1)] rfl ?_
        refine zi_goto (pc' := 38) X dX5_nomads_98 rfl ?_
        exact zi_sub X [3, 4, 0] _ rfl (ih a0 a1 (a2 + (1 : Int32)) (m24) ha0 h)
def fX5_nomads (a0 : Nat) (a1 : Int32) (μ : zMem) : Option (Int32 × zMem) :=
  zbd (fX5_within a1 (1 : Int32) (20 : Int32) μ) fun r1 m2 =>
  if r1 = 0 then
    zbd (fX5_finding a0 (0 : Int32) m2) fun r27 m28 =>
    some (r27, m28)
  else
    if ((m2 (a0 + 1) 5) + a1) ≤ (99999 : Int32) then
      fX5_nomads_38 200 a0 a1 (0 : Int32) m2
    else
      zbd (fX5_finding a0 (4 : Int32) m2) fun r25 m26 =>
      some (r25, m26)
set_option maxRecDepth 100000 in
set_option maxHeartbeats 4000000 in
theorem tX5_nomads (g : zG) {a0 : Nat} {a1 : Int32} {μ : zMem} {Q : Int32 → zMem → Prop} (ha0 : zkd a0 = 5) (h : zok (fX5_nomads a0 a1 μ) Q) : zTi g yX5_nomads cX5_nomads 5 .int 4 [.ref (zad g a0), .int a1] μ Q := by
  refine zTi_of (P := fun r => True) zpi RX5 (by decide) rfl (Nat.le_of_ble_eq_true rfl) ?_
  intro κ X hret
  unfold fX5_nomads at h
  refine zi_iload_n (pc' := 1) X dX5_nomads_0 rfl rfl 1 rfl ?_
  refine zi_iconst (pc' := 2) (v := (1 : Int32)) X dX5_nomads_1 rfl rfl ?_
  refine zi_bipush (pc' := 4) (v := (20 : Int32)) X dX5_nomads_2 rfl rfl ?_
  refine zi_callSi (pc' := 7) X zl_X5_68 [.int a1, .int (1 : Int32), .int (20 : Int32)] rfl rfl (by decide) (Nat.le_of_ble_eq_true rfl) dX5_nomads_4 rfl (tX5_within _ (zok_bd h (fun r1 m2 h => ?_)))
  refine zi_if_ne (pc' := 10) (tgt := 16) X dX5_nomads_7 rfl rfl (fun c => ?_) (fun c => ?_)
  · replace h := zok_f h c
    refine zi_aload_n (pc' := 17) X dX5_nomads_16 rfl rfl 0 rfl ?_
    refine zi_getr (pc' := 20) X zf_X5_10 rfl (by decide) ha0 dX5_nomads_17 rfl ?_
    have f3 := zr_5_0 ha0
    refine zi_geti (pc' := 23) X zf_X5_119 rfl (by decide) f3 dX5_nomads_20 rfl ?_
    refine zi_iload_n (pc' := 24) X dX5_nomads_23 rfl rfl 1 rfl ?_
    refine zi_iadd (pc' := 25) X dX5_nomads_24 rfl ?_
    refine zi_ldc (pc' := 27) X dX5_nomads_25 rfl zk_X5_122 ?_
    refine zi_icmp_le (pc' := 30) (tgt := 36) X dX5_nomads_27 rfl rfl (fun c => ?_) (fun c => ?_)
    · replace h := zok_t h c
      refine zi_iconst (pc' := 37) (v := (0 : Int32)) X dX5_nomads_36 rfl rfl ?_
      refine zi_istore_n (pc' := 38) X dX5_nomads_37 rfl rfl (by decide) [(2, .int (0 : Int32)), (0, .ref (zad g a0)), (1, .int a1)] rfl ?_
      exact zi_sub X [1, 2, 0] _ rfl (lX5_nomads_38 X hret 200 a0 a1 (0 : Int32) (m2) ha0 h)
    · replace h := zok_f h c
      refine zi_aload_n (pc' := 31) X dX5_nomads_30 rfl rfl 0 rfl ?_
      refine zi_iconst (pc' := 32) (v := (4 : Int32)) X dX5_nomads_31 rfl rfl ?_
      refine zi_callVi (pc' := 35) X zl_X5_61 ha0 (by decide) [.int (4 : Int32)] rfl rfl (by decide) (Nat.le_of_ble_eq_true rfl) dX5_nomads_32 rfl (tX5_finding _ ha0 (zok_bd h (fun r25 m26 h => ?_)))
      exact hret _ _ _ _ dX5_nomads_35 trivial h
  · replace h := zok_t h c
    refine zi_aload_n (pc' := 11) X dX5_nomads_10 rfl rfl 0 rfl ?_
    refine zi_iconst (pc' := 12) (v := (0 : Int32)) X dX5_nomads_11 rfl rfl ?_
    refine zi_callVi (pc' := 15) X zl_X5_61 ha0 (by decide) [.int (0 : Int32)] rfl rfl (by decide) (Nat.le_of_ble_eq_true rfl) dX5_nomads_12 rfl (tX5_finding _ ha0 (zok_bd h (fun r27 m28 h => ?_)))
    exact hret _ _ _ _ dX5_nomads_15 trivial h
def fX5_now (a0 : Nat) (a1 : Int32) (μ : zMem) : Option (Int32 × zMem) :=
  if a1 = (0 : Int32) then
    some ((μ (a0 + 1) 5), μ)
  else
    if a1 = (1 : Int32) then
      zbd (fX0_heightSum (a0 + 1) μ) fun r3 m4 =>
      some (r3, m4)
    else
      if a1 = (2 : Int32) then
        some ((μ (a0 + 1) 4), μ)
      else
        if a1 = (3 : Int32) then
          zbd (fX0_pitchedSet (a0 + 1) μ) fun r7 m8 =>
          some (r7, m8)
        else
          if a1 = (4 : Int32) then
            zbd (fX0_wornSum (a0 + 1) μ) fun r10 m11 =>
            some (r10, m11)
          else
            if a1 = (5 : Int32) then
              zbd (fX0_relief (a0 + 1) μ) fun r13 m14 =>
              some (r13, m14)
            else
              zbd (fX5_finding a0 (0 : Int32) μ) fun r15 m16 =>
              some (r15, m16)
set_option maxRecDepth 100000 in
set_option maxHeartbeats 4000000 in
theorem tX5_now (g : zG) {a0 : Nat} {a1 : Int32} {μ : zMem} {Q : Int32 → zMem → Prop} (ha0 : zkd a0 = 5) (h : zok (fX5_now a0 a1 μ) Q) : zTi g yX5_now cX5_now 2 .int 4 [.ref (zad g a0), .int a1] μ Q := by
  refine zTi_of (P := fun r => True) zpi RX5 (by decide) rfl (Nat.le_of_ble_eq_true rfl) ?_
  intro κ X hret
  unfold fX5_now at h
  refine zi_iload_n (pc' := 1) X dX5_now_0 rfl rfl 1 rfl ?_
  by_cases c0 : a1 = (0 : Int32)
  · replace h := zok_t h c0
    refine zi_tabIn (pc' := 40) X c0 dX5_now_1 ⟨by decide, rfl, rfl⟩ ?_
    refine zi_aload_n (pc' := 41) X dX5_now_40 rfl rfl 0 rfl ?_
    refine zi_getr (pc' := 44) X zf_X5_10 rfl (by decide) ha0 dX5_now_41 rfl ?_
    have f1 := zr_5_0 ha0
    refine zi_geti (pc' := 47) X zf_X5_119 rfl (by decide) f1 dX5_now_44 rfl ?_
    exact hret _ _ _ _ dX5_now_47 trivial h
  · replace h := zok_f h c0
    by_cases c1 : a1 = (1 : Int32)
    · replace h := zok_t h c1
      refine zi_tabIn (pc' := 48) X c1 dX5_now_1 ⟨by decide, rfl, rfl⟩ ?_
      refine zi_aload_n (pc' := 49) X dX5_now_48 rfl rfl 0 rfl ?_
      refine zi_getr (pc' := 52) X zf_X5_10 rfl (by decide) ha0 dX5_now_49 rfl ?_
      have f2 := zr_5_0 ha0
      refine zi_callVi (pc' := 55) X zl_X5_126 f2 (by decide) [] rfl rfl (by decide) (Nat.le_of_ble_eq_true rfl) dX5_now_52 rfl (tX0_heightSum _ f2 (zok_bd h (fun r3 m4 h => ?_)))
      exact hret _ _ _ _ dX5_now_55 trivial h
    · replace h := zok_f h c1
      by_cases c2 : a1 = (2 : Int32)
      · replace h := zok_t h c2
        refine zi_tabIn (pc' := 56) X c2 dX5_now_1 ⟨by decide, rfl, rfl⟩ ?_
        refine zi_aload_n (pc' := 57) X dX5_now_56 rfl rfl 0 rfl ?_
        refine zi_getr (pc' := 60) X zf_X5_10 rfl (by decide) ha0 dX5_now_57 rfl ?_
        have f5 := zr_5_0 ha0
        refine zi_geti (pc' := 63) X zf_X5_129 rfl (by decide) f5 dX5_now_60 rfl ?_
        exact hret _ _ _ _ dX5_now_63 trivial h
      · replace h := zok_f h c2
        by_cases c3 : a1 = (3 : Int32)
        · replace h := zok_t h c3
          refine zi_tabIn (pc' := 64) X c3 dX5_now_1 ⟨by decide, rfl, rfl⟩ ?_
          refine zi_aload_n (pc' := 65) X dX5_now_64 rfl rfl 0 rfl ?_
          refine zi_getr (pc' := 68) X zf_X5_10 rfl (by decide) ha0 dX5_now_65 rfl ?_
          have f6 := zr_5_0 ha0
          refine zi_callVi (pc' := 71) X zl_X5_132 f6 (by decide) [] rfl rfl (by decide) (Nat.le_of_ble_eq_true rfl) dX5_now_68 rfl (tX0_pitchedSet _ f6 (zok_bd h (fun r7 m8 h => ?_)))
          exact hret _ _ _ _ dX5_now_71 trivial h
        · replace h := zok_f h c3
          by_cases c4 : a1 = (4 : Int32)
          · replace h := zok_t h c4
            refine zi_tabIn (pc' := 72) X c4 dX5_now_1 ⟨by decide, rfl, rfl⟩ ?_
            refine zi_aload_n (pc' := 73) X dX5_now_72 rfl rfl 0 rfl ?_
            refine zi_getr (pc' := 76) X zf_X5_10 rfl (by decide) ha0 dX5_now_73 rfl ?_
            have f9 := zr_5_0 ha0
            refine zi_callVi (pc' := 79) X zl_X5_135 f9 (by decide) [] rfl rfl (by decide) (Nat.le_of_ble_eq_true rfl) dX5_now_76 rfl (tX0_wornSum _ f9 (zok_bd h (fun r10 m11 h => ?_)))
            exact hret _ _ _ _ dX5_now_79 trivial h
          · replace h := zok_f h c4
            by_cases c5 : a1 = (5 : Int32)
            · replace h := zok_t h c5
              refine zi_tabIn (pc' := 80) X c5 dX5_now_1 ⟨by decide, rfl, rfl⟩ ?_
              refine zi_aload_n (pc' := 81) X dX5_now_80 rfl rfl 0 rfl ?_
              refine zi_getr (pc' := 84) X zf_X5_10 rfl (by decide) ha0 dX5_now_81 rfl ?_
              have f12 := zr_5_0 ha0
              refine zi_callVi (pc' := 87) X zl_X5_138 f12 (by decide) [] rfl rfl (by decide) (Nat.le_of_ble_eq_true rfl) dX5_now_84 rfl (tX0_relief _ f12 (zok_bd h (fun r13 m14 h => ?_)))
              exact hret _ _ _ _ dX5_now_87 trivial h
            · replace h := zok_f h c5
              have e0 := zne (0) rfl c0
              have e1 := zne (1) rfl c1
              have e2 := zne (2) rfl c2
              have e3 := zne (3) rfl c3
              have e4 := zne (4) rfl c4
              have e5 := zne (5) rfl c5
              refine zi_tabOut (pc' := 88) X (by omega) dX5_now_1 rfl ?_
              refine zi_aload_n (pc' := 89) X dX5_now_88 rfl rfl 0 rfl ?_
              refine zi_iconst (pc' := 90) (v := (0 : Int32)) X dX5_now_89 rfl rfl ?_
              refine zi_callVi (pc' := 93) X zl_X5_61 ha0 (by decide) [.int (0 : Int32)] rfl rfl (by decide) (Nat.le_of_ble_eq_true rfl) dX5_now_90 rfl (tX5_finding _ ha0 (zok_bd h (fun r15 m16 h => ?_)))
              exact hret _ _ _ _ dX5_now_93 trivial h
def fX5_out_45 : Nat → Nat → Int32 → Int32 → Int32 → Int32 → zMem → Option (Int32 × zMem)
  | 0, _, _, _, _, _, _ => none
  | n + 1, a0, a1, a3, a4, a5, μ =>
    if (60 : Int32) < a5 then
      zbd (fX5_finding a0 (3 : Int32) μ) fun r17 m18 =>
      some (r17, m18)
    else
      zgd (zib a1 6) (
      zbd (fX4_keepsNear (((a0 + 33) + 3) + 1 + 2 * (a1).toNatClampNeg) a3 a4 μ) fun r23 m24 =>
      if r23 = 0 then
        zbd (fX0_passDay (a0 + 33) m24) fun _ m27 =>
        fX5_out_45 n a0 a1 a3 a4 (a5 + (1 : Int32)) m27
      else
        some (a5, m24))
set_option maxRecDepth 100000 in
theorem lX5_out_45 {g : zG} {κ : zK} (X : zC g κ RX5 cX5_out 6 4) {Q : Int32 → zMem → Prop} (hret : ∀ pc lv r μ', decode cX5_out pc = .ok (.ireturn, 1) → True → Q r μ' → zV g κ pc lv [.int r] μ') : ∀ (n : Nat) (a0 : Nat) (a1 : Int32) (a3 : Int32) (a4 : Int32) (a5 : Int32) (μ : zMem) (ha0 : zkd a0 = 5), zok (fX5_out_45 n a0 a1 a3 a4 a5 μ) Q → zV g κ 45 [(0, .ref (zad g a0)), (1, .int a1), (3, .int a3), (4, .int a4), (5, .int a5)] [] μ := by
  intro n
  induction n with
  | zero =>
    intro a0 a1 a3 a4 a5 μ ha0 h
    exact h.elim
  | succ n ih =>
    intro a0 a1 a3 a4 a5 μ ha0 h
    rw [fX5_out_45] at h
    refine zi_iload (pc' := 47) X dX5_out_45 rfl 4 rfl ?_
    refine zi_bipush (pc' := 49) (v := (60 : Int32)) X dX5_out_47 rfl rfl ?_
    refine zi_icmp_gt (pc' := 52) (tgt := 86) X dX5_out_49 rfl rfl (fun c => ?_) (fun c => ?_)
    · replace h := zok_t h c
      refine zi_aload_n (pc' := 87) X dX5_out_86 rfl rfl 0 rfl ?_
      refine zi_iconst (pc' := 88) (v := (3 : Int32)) X dX5_out_87 rfl rfl ?_
      refine zi_callVi (pc' := 91) X zl_X5_61 ha0 (by decide) [.int (3 : Int32)] rfl rfl (by decide) (Nat.le_of_ble_eq_true rfl) dX5_out_88 rfl (tX5_finding _ ha0 (zok_bd h (fun r17 m18 h => ?_)))
      exact hret _ _ _ _ dX5_out_91 trivial h
    · replace h := zok_f h c
      refine zi_aload_n (pc' := 53) X dX5_out_52 rfl rfl 0 rfl ?_
      refine zi_getr (pc' := 56) X zf_X5_19 rfl (by decide) ha0 dX5_out_53 rfl ?_
      have f19 := zr_5_2 ha0
      refine zi_getr (pc' := 59) X zf_X5_99 rfl (by decide) f19 dX5_out_56 rfl ?_
      have f20 := zr_0_2 f19
      refine zi_iload_n (pc' := 60) X dX5_out_59 rfl rfl 1 rfl ?_
      obtain ⟨g21, h⟩ := zok_g h
      refine zi_aaldT (pc' := 61) X f20.1 (by rw [f20.2]; exact g21) dX5_out_60 rfl ?_
      have f22 := zr_tent f20 g21
      refine zi_iload_n (pc' := 62) X dX5_out_61 rfl rfl 2 rfl ?_
      refine zi_iload (pc' := 64) X dX5_out_62 rfl 3 rfl ?_
      refine zi_callVi (pc' := 67) X zl_X5_207 f22 (by decide) [.int a3, .int a4] rfl rfl (by decide) (Nat.le_of_ble_eq_true rfl) dX5_out_64 rfl (tX4_keepsNear _ f22 (zok_bd h (fun r23 m24 h => ?_)))
      refine zi_if_eq (pc' := 70) (tgt := 73) X dX5_out_67 rfl rfl (fun c => ?_) (fun c => ?_)
      · replace h := zok_t h c
        refine zi_aload_n (pc' := 74) X dX5_out_73 rfl rfl 0 rfl ?_
        refine zi_getr (pc' := 77) X zf_X5_19 rfl (by decide) ha0 dX5_out_74 rfl ?_
        have f25 := zr_5_2 ha0
        refine zi_callVv (pc' := 80) X zl_X5_166 f25 (by decide) [] rfl rfl (by decide) (Nat.le_of_ble_eq_true rfl) dX5_out_77 rfl (tX0_passDay _ f25 (zok_bd h (fun _ m27 h => ?_)))
        refine zi_iinc (pc' := 83) (v := (a5 + (1 : Int32))) X dX5_out_80 rfl 4 rfl rfl (by decide) [(5, .int (a5 + (1 : Int32))), (0, .ref (zad g a0)), (1, .int a1), (3, .int a3), (4, .int a4)] rfl ?_
        refine zi_goto (pc' := 45) X dX5_out_83 rfl ?_
        exact zi_sub X [1, 2, 3, 4, 0] _ rfl (ih a0 a1 a3 a4 (a5 + (1 : Int32)) (m27) ha0 h)
      · replace h := zok_f h c
        refine zi_iload (pc' := 72) X dX5_out_70 rfl 4 rfl ?_
        exact hret _ _ _ _ dX5_out_72 trivial h
def fX5_out (a0 : Nat) (a1 : Int32) (a2 : Int32) (a3 : Int32) (a4 : Int32) (μ : zMem) : Option (Int32 × zMem) :=
  zbd (fX5_isTent a0 a1 μ) fun r1 m2 =>
  if r1 = 0 then
    zbd (fX5_finding a0 (0 : Int32) m2) fun r3 m4 =>
    some (r3, m4)
  else
    zbd (fX5_isPitch a2 m2) fun r5 m6 =>
    if r5 = 0 then
      zbd (fX5_finding a0 (0 : Int32) m6) fun r7 m8 =>
      some (r7, m8)
    else
      zbd (fX5_isMeasure a3 m6) fun r9 m10 =>
      if r9 = 0 then
        zbd (fX5_finding a0 (0 : Int32) m10) fun r11 m12 =>
        some (r11, m12)
      else
        zbd (fX5_isMeasure a4 m10) fun r13 m14 =>
        if r13 = 0 then
          zbd (fX5_finding a0 (0 : Int32) m14) fun r28 m29 =>
          some (r28, m29)
        else
          zbd (fX5_supposeAlone a0 a1 a2 m14) fun _ m16 =>
          fX5_out_45 200 a0 a1 a3 a4 (0 : Int32) m16
set_option maxRecDepth 100000 in
set_option maxHeartbeats 4000000 in
theorem tX5_out (g : zG) {a0 : Nat} {a1 : Int32} {a2 : Int32} {a3 : Int32} {a4 : Int32} {μ : zMem} {Q : Int32 → zMem → Prop} (ha0 : zkd a0 = 5) (h : zok (fX5_out a0 a1 a2 a3 a4 μ) Q) : zTi g yX5_out cX5_out 6 .int 4 [.ref (zad g a0), .int a1, .int a2, .int a3, .int a4] μ Q := by
  refine zTi_of (P := fun r => True) zpi RX5 (by decide) rfl (Nat.le_of_ble_eq_true rfl) ?_
  intro κ X hret
  unfold fX5_out at h
  refine zi_aload_n (pc' := 1) X dX5_out_0 rfl rfl 0 rfl ?_
  refine zi_iload_n (pc' := 2) X dX5_out_1 rfl rfl 1 rfl ?_
  refine zi_callVi (pc' := 5) X zl_X5_96 ha0 (by decide) [.int a1] rfl rfl (by decide) (Nat.le_of_ble_eq_true rfl) dX5_out_2 rfl (tX5_isTent _ ha0 (zok_bd h (fun r1 m2 h => ?_)))
  refine zi_if_eq (pc' := 8) (tgt := 30) X dX5_out_5 rfl rfl (fun c => ?_) (fun c => ?_)
  · replace h := zok_t h c
    refine zi_aload_n (pc' := 31) X dX5_out_30 rfl rfl 0 rfl ?_
    refine zi_iconst (pc' := 32) (v := (0 : Int32)) X dX5_out_31 rfl rfl ?_
    refine zi_callVi (pc' := 35) X zl_X5_61 ha0 (by decide) [.int (0 : Int32)] rfl rfl (by decide) (Nat.le_of_ble_eq_true rfl) dX5_out_32 rfl (tX5_finding _ ha0 (zok_bd h (fun r3 m4 h => ?_)))
    exact hret _ _ _ _ dX5_out_35 trivial h
  · replace h := zok_f h c
    refine zi_iload_n (pc' := 9) X dX5_out_8 rfl rfl 2 rfl ?_
    refine zi_callSi (pc' := 12) X zl_X5_187 [.int a2] rfl rfl (by decide) (Nat.le_of_ble_eq_true rfl) dX5_out_9 rfl (tX5_isPitch _ (zok_bd h (fun r5 m6 h => ?_)))
    refine zi_if_eq (pc' := 15) (tgt := 30) X dX5_out_12 rfl rfl (fun c => ?_) (fun c => ?_)
    · replace h := zok_t h c
      refine zi_aload_n (pc' := 31) X dX5_out_30 rfl rfl 0 rfl ?_
      refine zi_iconst (pc' := 32) (v := (0 : Int32)) X dX5_out_31 rfl rfl ?_
      refine zi_callVi (pc' := 35) X zl_X5_61 ha0 (by decide) [.int (0 : Int32)] rfl rfl (by decide) (Nat.le_of_ble_eq_true rfl) dX5_out_32 rfl (tX5_finding _ ha0 (zok_bd h (fun r7 m8 h => ?_)))
      exact hret _ _ _ _ dX5_out_35 trivial h
    · replace h := zok_f h c
      refine zi_iload_n (pc' := 16) X dX5_out_15 rfl rfl 3 rfl ?_
      refine zi_callSi (pc' := 19) X zl_X5_58 [.int a3] rfl rfl (by decide) (Nat.le_of_ble_eq_true rfl) dX5_out_16 rfl (tX5_isMeasure _ (zok_bd h (fun r9 m10 h => ?_)))
      refine zi_if_eq (pc' := 22) (tgt := 30) X dX5_out_19 rfl rfl (fun c => ?_) (fun c => ?_)
      · replace h := zok_t h c
        refine zi_aload_n (pc' := 31) X dX5_out_30 rfl rfl 0 rfl ?_
        refine zi_iconst (pc' := 32) (v := (0 : Int32)) X dX5_out_31 rfl rfl ?_
        refine zi_callVi (pc' := 35) X zl_X5_61 ha0 (by decide) [.int (0 : Int32)] rfl rfl (by decide) (Nat.le_of_ble_eq_true rfl) dX5_out_32 rfl (tX5_finding _ ha0 (zok_bd h (fun r11 m12 h => ?_)))
        exact hret _ _ _ _ dX5_out_35 trivial h
      · replace h := zok_f h c
        refine zi_iload (pc' := 24) X dX5_out_22 rfl 4 rfl ?_
        refine zi_callSi (pc' := 27) X zl_X5_58 [.int a4] rfl rfl (by decide) (Nat.le_of_ble_eq_true rfl) dX5_out_24 rfl (tX5_isMeasure _ (zok_bd h (fun r13 m14 h => ?_)))
        refine zi_if_ne (pc' := 30) (tgt := 36) X dX5_out_27 rfl rfl (fun c => ?_) (fun c => ?_)
        · replace h := zok_f h c
          refine zi_aload_n (pc' := 37) X dX5_out_36 rfl rfl 0 rfl ?_
          refine zi_iload_n (pc' := 38) X dX5_out_37 rfl rfl 1 rfl ?_
          refine zi_iload_n (pc' := 39) X dX5_out_38 rfl rfl 2 rfl ?_
          refine zi_callVv (pc' := 42) X zl_X5_204 ha0 (by decide) [.int a1, .int a2] rfl rfl (by decide) (Nat.le_of_ble_eq_true rfl) dX5_out_39 rfl (tX5_supposeAlone _ ha0 (zok_bd h (fun _ m16 h => ?_)))
          refine zi_iconst (pc' := 43) (v := (0 : Int32)) X dX5_out_42 rfl rfl ?_
          refine zi_istore (pc' := 45) X dX5_out_43 rfl (by decide) [(5, .int (0 : Int32)), (0, .ref (zad g a0)), (1, .int a1), (2, .int a2), (3, .int a3), (4, .int a4)] rfl ?_
          exact zi_sub X [1, 2, 4, 5, 0] _ rfl (lX5_out_45 X hret 200 a0 a1 a3 a4 (0 : Int32) (m16) ha0 h)
        · replace h := zok_t h c
          refine zi_aload_n (pc' := 31) X dX5_out_30 rfl rfl 0 rfl ?_
          refine zi_iconst (pc' := 32) (v := (0 : Int32)) X dX5_out_31 rfl rfl ?_
          refine zi_callVi (pc' := 35) X zl_X5_61 ha0 (by decide) [.int (0 : Int32)] rfl rfl (by decide) (Nat.le_of_ble_eq_true rfl) dX5_out_32 rfl (tX5_finding _ ha0 (zok_bd h (fun r28 m29 h => ?_)))
          exact hret _ _ _ _ dX5_out_35 trivial h
def fX5_pitchFor_39 : Nat → Nat → Int32 → Int32 → Int32 → Int32 → Int32 → zMem → Option (Int32 × zMem)
  | 0, _, _, _, _, _, _, _ => none
  | n + 1, a0, a1, a2, a3, a4, a5, μ =>
    if (16 : Int32) ≤ a5 then
      zbd (fX5_finding a0 (3 : Int32) μ) fun r15 m16 =>
      some (r15, m16)
    else
      zbd (fX0_becomeLike (a0 + 33) (a0 + 1) μ) fun _ m20 =>
      zgd (zib a1 6) (
      zbd (fX0_passDay (a0 + 33) (zst m20 (((a0 + 33) + 3) + 1 + 2 * (a1).toNatClampNeg) 1 a5)) fun _ m27 =>
      zbd (fX1_stepsBetween (a0 + 49) (a0 + 33) a2 a3 a4 m27) fun r30 m31 =>
      if r30 = (-1 : Int32) then
        fX5_pitchFor_39 n a0 a1 a2 a3 a4 (a5 + (1 : Int32)) m31
      else
        some (a5, m31))
set_option maxRecDepth 100000 in
theorem lX5_pitchFor_39 {g : zG} {κ : zK} (X : zC g κ RX5 cX5_pitchFor 6 4) {Q : Int32 → zMem → Prop} (hret : ∀ pc lv r μ', decode cX5_pitchFor pc = .ok (.ireturn, 1) → True → Q r μ' → zV g κ pc lv [.int r] μ') : ∀ (n : Nat) (a0 : Nat) (a1 : Int32) (a2 : Int32) (a3 : Int32) (a4 : Int32) (a5 : Int32) (μ : zMem) (ha0 : zkd a0 = 5), zok (fX5_pitchFor_39 n a0 a1 a2 a3 a4 a5 μ) Q → zV g κ 39 [(0, .ref (zad g a0)), (1, .int a1), (2, .int a2), (3, .int a3), (4, .int a4), (5, .int a5)] [] μ := by
  intro n
  induction n with
  | zero =>
    intro a0 a1 a2 a3 a4 a5 μ ha0 h
    exact h.elim
  | succ n ih =>
    intro a0 a1 a2 a3 a4 a5 μ ha0 h
    rw [fX5_pitchFor_39] at h
    refine zi_iload (pc' := 41) X dX5_pitchFor_39 rfl 5 rfl ?_
    refine zi_bipush (pc' := 43) (v := (16 : Int32)) X dX5_pitchFor_41 rfl rfl ?_
    refine zi_icmp_ge (pc' := 46) (tgt := 106) X dX5_pitchFor_43 rfl rfl (fun c => ?_) (fun c => ?_)
    · replace h := zok_t h c
      refine zi_aload_n (pc' := 107) X dX5_pitchFor_106 rfl rfl 0 rfl ?_
      refine zi_iconst (pc' := 108) (v := (3 : Int32)) X dX5_pitchFor_107 rfl rfl ?_
      refine zi_callVi (pc' := 111) X zl_X5_61 ha0 (by decide) [.int (3 : Int32)] rfl rfl (by decide) (Nat.le_of_ble_eq_true rfl) dX5_pitchFor_108 rfl (tX5_finding _ ha0 (zok_bd h (fun r15 m16 h => ?_)))
      exact hret _ _ _ _ dX5_pitchFor_111 trivial h
    · replace h := zok_f h c
      refine zi_aload_n (pc' := 47) X dX5_pitchFor_46 rfl rfl 0 rfl ?_
      refine zi_getr (pc' := 50) X zf_X5_19 rfl (by decide) ha0 dX5_pitchFor_47 rfl ?_
      have f17 := zr_5_2 ha0
      refine zi_aload_n (pc' := 51) X dX5_pitchFor_50 rfl rfl 0 rfl ?_
      refine zi_getr (pc' := 54) X zf_X5_10 rfl (by decide) ha0 dX5_pitchFor_51 rfl ?_
      have f18 := zr_5_0 ha0
      refine zi_callVv (pc' := 57) X zl_X5_159 f17 (by decide) [.ref (zad g (a0 + 1))] rfl rfl (by decide) (Nat.le_of_ble_eq_true rfl) dX5_pitchFor_54 rfl (tX0_becomeLike _ f17 f18 (zok_bd h (fun _ m20 h => ?_)))
      refine zi_aload_n (pc' := 58) X dX5_pitchFor_57 rfl rfl 0 rfl ?_
      refine zi_getr (pc' := 61) X zf_X5_19 rfl (by decide) ha0 dX5_pitchFor_58 rfl ?_
      have f21 := zr_5_2 ha0
      refine zi_getr (pc' := 64) X zf_X5_99 rfl (by decide) f21 dX5_pitchFor_61 rfl ?_
      have f22 := zr_0_2 f21
      refine zi_iload_n (pc' := 65) X dX5_pitchFor_64 rfl rfl 1 rfl ?_
      obtain ⟨g23, h⟩ := zok_g h
      refine zi_aaldT (pc' := 66) X f22.1 (by rw [f22.2]; exact g23) dX5_pitchFor_65 rfl ?_
      have f24 := zr_tent f22 g23
      refine zi_iload (pc' := 68) X dX5_pitchFor_66 rfl 5 rfl ?_
      refine zi_put (pc' := 71) X zf_X5_194 zw_4_1 rfl (by decide) f24 rfl rfl dX5_pitchFor_68 rfl ?_
      refine zi_aload_n (pc' := 72) X dX5_pitchFor_71 rfl rfl 0 rfl ?_
      refine zi_getr (pc' := 75) X zf_X5_19 rfl (by decide) ha0 dX5_pitchFor_72 rfl ?_
      have f25 := zr_5_2 ha0
      refine zi_callVv (pc' := 78) X zl_X5_166 f25 (by decide) [] rfl rfl (by decide) (Nat.le_of_ble_eq_true rfl) dX5_pitchFor_75 rfl (tX0_passDay _ f25 (zok_bd h (fun _ m27 h => ?_)))
      refine zi_aload_n (pc' := 79) X dX5_pitchFor_78 rfl rfl 0 rfl ?_
      refine zi_getr (pc' := 82) X zf_X5_25 rfl (by decide) ha0 dX5_pitchFor_79 rfl ?_
      have f28 := zr_5_3 ha0
      refine zi_aload_n (pc' := 83) X dX5_pitchFor_82 rfl rfl 0 rfl ?_
      refine zi_getr (pc' := 86) X zf_X5_19 rfl (by decide) ha0 dX5_pitchFor_83 rfl ?_
      have f29 := zr_5_2 ha0
      refine zi_iload_n (pc' := 87) X dX5_pitchFor_86 rfl rfl 2 rfl ?_
      refine zi_iload_n (pc' := 88) X dX5_pitchFor_87 rfl rfl 3 rfl ?_
      refine zi_iload (pc' := 90) X dX5_pitchFor_88 rfl 4 rfl ?_
      refine zi_callVi (pc' := 93) X zl_X5_141 f28 (by decide) [.ref (zad g (a0 + 33)), .int a2, .int a3, .int a4] rfl rfl (by decide) (Nat.le_of_ble_eq_true rfl) dX5_pitchFor_90 rfl (tX1_stepsBetween _ f28 f29 (zok_bd h (fun r30 m31 h => ?_)))
      refine zi_iconst (pc' := 94) (v := (-1 : Int32)) X dX5_pitchFor_93 rfl rfl ?_
      refine zi_icmp_eq (pc' := 97) (tgt := 100) X dX5_pitchFor_94 rfl rfl (fun c => ?_) (fun c => ?_)
      · replace h := zok_t h c
        refine zi_iinc (pc' := 103) (v := (a5 + (1 : Int32))) X dX5_pitchFor_100 rfl 5 rfl rfl (by decide) [(5, .int (a5 + (1 : Int32))), (0, .ref (zad g a0)), (1, .int a1), (2, .int a2), (3, .int a3), (4, .int a4)] rfl ?_
        refine zi_goto (pc' := 39) X dX5_pitchFor_103 rfl ?_
        exact zi_sub X [1, 2, 3, 4, 5, 0] _ rfl (ih a0 a1 a2 a3 a4 (a5 + (1 : Int32)) (m31) ha0 h)
      · replace h := zok_f h c
        refine zi_iload (pc' := 99) X dX5_pitchFor_97 rfl 5 rfl ?_
        exact hret _ _ _ _ dX5_pitchFor_99 trivial h
def fX5_pitchFor (a0 : Nat) (a1 : Int32) (a2 : Int32) (a3 : Int32) (a4 : Int32) (μ : zMem) : Option (Int32 × zMem) :=
  zbd (fX5_isTent a0 a1 μ) fun r1 m2 =>
  if r1 = 0 then
    zbd (fX5_finding a0 (0 : Int32) m2) fun r3 m4 =>
    some (r3, m4)
  else
    zbd (fX5_isCell a2 m2) fun r5 m6 =>
    if r5 = 0 then
      zbd (fX5_finding a0 (0 : Int32) m6) fun r7 m8 =>
      some (r7, m8)
    else
      zbd (fX5_isCell a3 m6) fun r9 m10 =>
      if r9 = 0 then
        zbd (fX5_finding a0 (0 : Int32) m10) fun r11 m12 =>
        some (r11, m12)
      else
        zbd (fX5_isMeasure a4 m10) fun r13 m14 =>
        if r13 = 0 then
          zbd (fX5_finding a0 (0 : Int32) m14) fun r32 m33 =>
          some (r32, m33)
        else
          fX5_pitchFor_39 200 a0 a1 a2 a3 a4 (0 : Int32) m14
set_option maxRecDepth 100000 in
set_option maxHeartbeats 4000000 in
theorem tX5_pitchFor (g : zG) {a0 : Nat} {a1 : Int32} {a2 : Int32} {a3 : Int32} {a4 : Int32} {μ : zMem} {Q : Int32 → zMem → Prop} (ha0 : zkd a0 = 5) (h : zok (fX5_pitchFor a0 a1 a2 a3 a4 μ) Q) : zTi g yX5_pitchFor cX5_pitchFor 6 .int 4 [.ref (zad g a0), .int a1, .int a2, .int a3, .int a4] μ Q := by
  refine zTi_of (P := fun r => True) zpi RX5 (by decide) rfl (Nat.le_of_ble_eq_true rfl) ?_
  intro κ X hret
  unfold fX5_pitchFor at h
  refine zi_aload_n (pc' := 1) X dX5_pitchFor_0 rfl rfl 0 rfl ?_
  refine zi_iload_n (pc' := 2) X dX5_pitchFor_1 rfl rfl 1 rfl ?_
  refine zi_callVi (pc' := 5) X zl_X5_96 ha0 (by decide) [.int a1] rfl rfl (by decide) (Nat.le_of_ble_eq_true rfl) dX5_pitchFor_2 rfl (tX5_isTent _ ha0 (zok_bd h (fun r1 m2 h => ?_)))
  refine zi_if_eq (pc' := 8) (tgt := 30) X dX5_pitchFor_5 rfl rfl (fun c => ?_) (fun c => ?_)
  · replace h := zok_t h c
    refine zi_aload_n (pc' := 31) X dX5_pitchFor_30 rfl rfl 0 rfl ?_
    refine zi_iconst (pc' := 32) (v := (0 : Int32)) X dX5_pitchFor_31 rfl rfl ?_
    refine zi_callVi (pc' := 35) X zl_X5_61 ha0 (by decide) [.int (0 : Int32)] rfl rfl (by decide) (Nat.le_of_ble_eq_true rfl) dX5_pitchFor_32 rfl (tX5_finding _ ha0 (zok_bd h (fun r3 m4 h => ?_)))
    exact hret _ _ _ _ dX5_pitchFor_35 trivial h
  · replace h := zok_f h c
    refine zi_iload_n (pc' := 9) X dX5_pitchFor_8 rfl rfl 2 rfl ?_
    refine zi_callSi (pc' := 12) X zl_X5_54 [.int a2] rfl rfl (by decide) (Nat.le_of_ble_eq_true rfl) dX5_pitchFor_9 rfl (tX5_isCell _ (zok_bd h (fun r5 m6 h => ?_)))
    refine zi_if_eq (pc' := 15) (tgt := 30) X dX5_pitchFor_12 rfl rfl (fun c => ?_) (fun c => ?_)
    · replace h := zok_t h c
      refine zi_aload_n (pc' := 31) X dX5_pitchFor_30 rfl rfl 0 rfl ?_
      refine zi_iconst (pc' := 32) (v := (0 : Int32)) X dX5_pitchFor_31 rfl rfl ?_
      refine zi_callVi (pc' := 35) X zl_X5_61 ha0 (by decide) [.int (0 : Int32)] rfl rfl (by decide) (Nat.le_of_ble_eq_true rfl) dX5_pitchFor_32 rfl (tX5_finding _ ha0 (zok_bd h (fun r7 m8 h => ?_)))
      exact hret _ _ _ _ dX5_pitchFor_35 trivial h
    · replace h := zok_f h c
      refine zi_iload_n (pc' := 16) X dX5_pitchFor_15 rfl rfl 3 rfl ?_
      refine zi_callSi (pc' := 19) X zl_X5_54 [.int a3] rfl rfl (by decide) (Nat.le_of_ble_eq_true rfl) dX5_pitchFor_16 rfl (tX5_isCell _ (zok_bd h (fun r9 m10 h => ?_)))
      refine zi_if_eq (pc' := 22) (tgt := 30) X dX5_pitchFor_19 rfl rfl (fun c => ?_) (fun c => ?_)
      · replace h := zok_t h c
        refine zi_aload_n (pc' := 31) X dX5_pitchFor_30 rfl rfl 0 rfl ?_
        refine zi_iconst (pc' := 32) (v := (0 : Int32)) X dX5_pitchFor_31 rfl rfl ?_
        refine zi_callVi (pc' := 35) X zl_X5_61 ha0 (by decide) [.int (0 : Int32)] rfl rfl (by decide) (Nat.le_of_ble_eq_true rfl) dX5_pitchFor_32 rfl (tX5_finding _ ha0 (zok_bd h (fun r11 m12 h => ?_)))
        exact hret _ _ _ _ dX5_pitchFor_35 trivial h
      · replace h := zok_f h c
        refine zi_iload (pc' := 24) X dX5_pitchFor_22 rfl 4 rfl ?_
        refine zi_callSi (pc' := 27) X zl_X5_58 [.int a4] rfl rfl (by decide) (Nat.le_of_ble_eq_true rfl) dX5_pitchFor_24 rfl (tX5_isMeasure _ (zok_bd h (fun r13 m14 h => ?_)))
        refine zi_if_ne (pc' := 30) (tgt := 36) X dX5_pitchFor_27 rfl rfl (fun c => ?_) (fun c => ?_)
        · replace h := zok_f h c
          refine zi_iconst (pc' := 37) (v := (0 : Int32)) X dX5_pitchFor_36 rfl rfl ?_
          refine zi_istore (pc' := 39) X dX5_pitchFor_37 rfl (by decide) [(5, .int (0 : Int32)), (0, .ref (zad g a0)), (1, .int a1), (2, .int a2), (3, .int a3), (4, .int a4)] rfl ?_
          exact zi_sub X [1, 2, 3, 4, 5, 0] _ rfl (lX5_pitchFor_39 X hret 200 a0 a1 a2 a3 a4 (0 : Int32) (m14) ha0 h)
        · replace h := zok_t h c
          refine zi_aload_n (pc' := 31) X dX5_pitchFor_30 rfl rfl 0 rfl ?_
          refine zi_iconst (pc' := 32) (v := (0 : Int32)) X dX5_pitchFor_31 rfl rfl ?_
          refine zi_callVi (pc' := 35) X zl_X5_61 ha0 (by decide) [.int (0 : Int32)] rfl rfl (by decide) (Nat.le_of_ble_eq_true rfl) dX5_pitchFor_32 rfl (tX5_finding _ ha0 (zok_bd h (fun r32 m33 h => ?_)))
          exact hret _ _ _ _ dX5_pitchFor_35 trivial h
def fX5_settles_13 : Nat → Nat → Int32 → zMem → Option (Int32 × zMem)
  | 0, _, _, _ => none
  | n + 1, a0, a1, μ =>
    if (100 : Int32) < a1 then
      zbd (fX5_finding a0 (3 : Int32) μ) fun r5 m6 =>
      some (r5, m6)
    else
      zgd ((¬ (0 : Int32) < 0 ∧ ¬ (0 : Int32) < 0 ∧ ¬ (25 : Int32) < 0) ∧ ((0 : Int32)).toNatClampNeg + ((25 : Int32)).toNatClampNeg ≤ 25 ∧ ((0 : Int32)).toNatClampNeg + ((25 : Int32)).toNatClampNeg ≤ 25) (
      zbd (fX0_passDay (a0 + 33) (zrow μ (a0 + 57) (va_cpy (μ ((a0 + 33) + 1)) (μ (a0 + 57)) ((0 : Int32)).toNatClampNeg ((0 : Int32)).toNatClampNeg ((25 : Int32)).toNatClampNeg))) fun _ m13 =>
      zbd (fX0_liesAs (a0 + 33) (a0 + 57) m13) fun r16 m17 =>
      if r16 = 0 then
        fX5_settles_13 n a0 (a1 + (1 : Int32)) m17
      else
        some (a1, m17))
set_option maxRecDepth 100000 in
theorem lX5_settles_13 {g : zG} {κ : zK} (X : zC g κ RX5 cX5_settles 2 4) {Q : Int32 → zMem → Prop} (hret : ∀ pc lv r μ', decode cX5_settles pc = .ok (.ireturn, 1) → True → Q r μ' → zV g κ pc lv [.int r] μ') : ∀ (n : Nat) (a0 : Nat) (a1 : Int32) (μ : zMem) (ha0 : zkd a0 = 5), zok (fX5_settles_13 n a0 a1 μ) Q → zV g κ 13 [(0, .ref (zad g a0)), (1, .int a1)] [] μ := by
  intro n
  induction n with
  | zero =>
    intro a0 a1 μ ha0 h
    exact h.elim
  | succ n ih =>
    intro a0 a1 μ ha0 h
    rw [fX5_settles_13] at h
    refine zi_iload_n (pc' := 14) X dX5_settles_13 rfl rfl 1 rfl ?_
    refine zi_bipush (pc' := 16) (v := (100 : Int32)) X dX5_settles_14 rfl rfl ?_
    refine zi_icmp_gt (pc' := 19) (tgt := 66) X dX5_settles_16 rfl rfl (fun c => ?_) (fun c => ?_)
    · replace h := zok_t h c
      refine zi_aload_n (pc' := 67) X dX5_settles_66 rfl rfl 0 rfl ?_
      refine zi_iconst (pc' := 68) (v := (3 : Int32)) X dX5_settles_67 rfl rfl ?_
      refine zi_callVi (pc' := 71) X zl_X5_61 ha0 (by decide) [.int (3 : Int32)] rfl rfl (by decide) (Nat.le_of_ble_eq_true rfl) dX5_settles_68 rfl (tX5_finding _ ha0 (zok_bd h (fun r5 m6 h => ?_)))
      exact hret _ _ _ _ dX5_settles_71 trivial h
    · replace h := zok_f h c
      refine zi_aload_n (pc' := 20) X dX5_settles_19 rfl rfl 0 rfl ?_
      refine zi_getr (pc' := 23) X zf_X5_19 rfl (by decide) ha0 dX5_settles_20 rfl ?_
      have f7 := zr_5_2 ha0
      refine zi_getr (pc' := 26) X zf_X5_65 rfl (by decide) f7 dX5_settles_23 rfl ?_
      have f8 := zr_0_0 f7
      refine zi_iconst (pc' := 27) (v := (0 : Int32)) X dX5_settles_26 rfl rfl ?_
      refine zi_aload_n (pc' := 28) X dX5_settles_27 rfl rfl 0 rfl ?_
      refine zi_getr (pc' := 31) X zf_X5_46 rfl (by decide) ha0 dX5_settles_28 rfl ?_
      have f9 := zr_5_7 ha0
      refine zi_iconst (pc' := 32) (v := (0 : Int32)) X dX5_settles_31 rfl rfl ?_
      refine zi_bipush (pc' := 34) (v := (25 : Int32)) X dX5_settles_32 rfl rfl ?_
      obtain ⟨g10, h⟩ := zok_g h
      refine zi_acopy (pc' := 37) X zl_X5_169 f8.1 f9.1 (by rw [f8.2, f9.2]; exact g10) (Nat.le_of_ble_eq_true rfl) (by decide) dX5_settles_34 rfl ?_
      refine zi_aload_n (pc' := 38) X dX5_settles_37 rfl rfl 0 rfl ?_
      refine zi_getr (pc' := 41) X zf_X5_19 rfl (by decide) ha0 dX5_settles_38 rfl ?_
      have f11 := zr_5_2 ha0
      refine zi_callVv (pc' := 44) X zl_X5_166 f11 (by decide) [] rfl rfl (by decide) (Nat.le_of_ble_eq_true rfl) dX5_settles_41 rfl (tX0_passDay _ f11 (zok_bd h (fun _ m13 h => ?_)))
      refine zi_aload_n (pc' := 45) X dX5_settles_44 rfl rfl 0 rfl ?_
      refine zi_getr (pc' := 48) X zf_X5_19 rfl (by decide) ha0 dX5_settles_45 rfl ?_
      have f14 := zr_5_2 ha0
      refine zi_aload_n (pc' := 49) X dX5_settles_48 rfl rfl 0 rfl ?_
      refine zi_getr (pc' := 52) X zf_X5_46 rfl (by decide) ha0 dX5_settles_49 rfl ?_
      have f15 := zr_5_7 ha0
      refine zi_callVi (pc' := 55) X zl_X5_175 f14 (by decide) [.ref (zad g (a0 + 57))] rfl rfl (by decide) (Nat.le_of_ble_eq_true rfl) dX5_settles_52 rfl (tX0_liesAs _ f14 f15.1 (zok_bd h (fun r16 m17 h => ?_)))
      refine zi_if_eq (pc' := 58) (tgt := 60) X dX5_settles_55 rfl rfl (fun c => ?_) (fun c => ?_)
      · replace h := zok_t h c
        refine zi_iinc (pc' := 63) (v := (a1 + (1 : Int32))) X dX5_settles_60 rfl 1 rfl rfl (by decide) [(1, .int (a1 + (1 : Int32))), (0, .ref (zad g a0))] rfl ?_
        refine zi_goto (pc' := 13) X dX5_settles_63 rfl ?_
        exact zi_sub X [1, 0] _ rfl (ih a0 (a1 + (1 : Int32)) (m17) ha0 h)
      · replace h := zok_f h c
        refine zi_iload_n (pc' := 59) X dX5_settles_58 rfl rfl 1 rfl ?_
        exact hret _ _ _ _ dX5_settles_59 trivial h
def fX5_settles (a0 : Nat) (μ : zMem) : Option (Int32 × zMem) :=
  zbd (fX0_becomeLike (a0 + 33) (a0 + 1) μ) fun _ m4 =>
  fX5_settles_13 200 a0 (0 : Int32) m4
set_option maxRecDepth 100000 in
set_option maxHeartbeats 4000000 in
theorem tX5_settles (g : zG) {a0 : Nat} {μ : zMem} {Q : Int32 → zMem → Prop} (ha0 : zkd a0 = 5) (h : zok (fX5_settles a0 μ) Q) : zTi g yX5_settles cX5_settles 2 .int 4 [.ref (zad g a0)] μ Q := by
  refine zTi_of (P := fun r => True) zpi RX5 (by decide) rfl (Nat.le_of_ble_eq_true rfl) ?_
  intro κ X hret
  unfold fX5_settles at h
  refine zi_aload_n (pc' := 1) X dX5_settles_0 rfl rfl 0 rfl ?_
  refine zi_getr (pc' := 4) X zf_X5_19 rfl (by decide) ha0 dX5_settles_1 rfl ?_
  have f1 := zr_5_2 ha0
  refine zi_aload_n (pc' := 5) X dX5_settles_4 rfl rfl 0 rfl ?_
  refine zi_getr (pc' := 8) X zf_X5_10 rfl (by decide) ha0 dX5_settles_5 rfl ?_
  have f2 := zr_5_0 ha0
  refine zi_callVv (pc' := 11) X zl_X5_159 f1 (by decide) [.ref (zad g (a0 + 1))] rfl rfl (by decide) (Nat.le_of_ble_eq_true rfl) dX5_settles_8 rfl (tX0_becomeLike _ f1 f2 (zok_bd h (fun _ m4 h => ?_)))
  refine zi_iconst (pc' := 12) (v := (0 : Int32)) X dX5_settles_11 rfl rfl ?_
  refine zi_istore_n (pc' := 13) X dX5_settles_12 rfl rfl (by decide) [(1, .int (0 : Int32)), (0, .ref (zad g a0))] rfl ?_
  exact zi_sub X [1, 0] _ rfl (lX5_settles_13 X hret 200 a0 (0 : Int32) (m4) ha0 h)
def fX5_sumAfterBoth (a0 : Nat) (a1 : Int32) (a2 : Int32) (a3 : Int32) (μ : zMem) : Option (Int32 × zMem) :=
  zbd (fX5_supposeAlone a0 a1 a3 μ) fun _ m2 =>
  zbd (fX0_passDay (a0 + 33) m2) fun _ m5 =>
  zbd (fX0_pitchAlone (a0 + 33) a2 a3 m5) fun _ m8 =>
  zbd (fX0_passDay (a0 + 33) m8) fun _ m11 =>
  zbd (fX0_heightSum (a0 + 33) m11) fun r13 m14 =>
  some (r13, m14)
set_option maxRecDepth 100000 in
set_option maxHeartbeats 4000000 in
theorem tX5_sumAfterBoth (g : zG) {a0 : Nat} {a1 : Int32} {a2 : Int32} {a3 : Int32} {μ : zMem} {Q : Int32 → zMem → Prop} (ha0 : zkd a0 = 5) (h : zok (fX5_sumAfterBoth a0 a1 a2 a3 μ) Q) : zTi g yX5_sumAfterBoth cX5_sumAfterBoth 4 .int 4 [.ref (zad g a0), .int a1, .int a2, .int a3] μ Q := by
  refine zTi_of (P := fun r => True) zpi RX5 (by decide) rfl (Nat.le_of_ble_eq_true rfl) ?_
  intro κ X hret
  unfold fX5_sumAfterBoth at h
  refine zi_aload_n (pc' := 1) X dX5_sumAfterBoth_0 rfl rfl 0 rfl ?_
  refine zi_iload_n (pc' := 2) X dX5_sumAfterBoth_1 rfl rfl 1 rfl ?_
  refine zi_iload_n (pc' := 3) X dX5_sumAfterBoth_2 rfl rfl 3 rfl ?_
  refine zi_callVv (pc' := 6) X zl_X5_204 ha0 (by decide) [.int a1, .int a3] rfl rfl (by decide) (Nat.le_of_ble_eq_true rfl) dX5_sumAfterBoth_3 rfl (tX5_supposeAlone _ ha0 (zok_bd h (fun _ m2 h => ?_)))
  refine zi_aload_n (pc' := 7) X dX5_sumAfterBoth_6 rfl rfl 0 rfl ?_
  refine zi_getr (pc' := 10) X zf_X5_19 rfl (by decide) ha0 dX5_sumAfterBoth_7 rfl ?_
  have f3 := zr_5_2 ha0
  refine zi_callVv (pc' := 13) X zl_X5_166 f3 (by decide) [] rfl rfl (by decide) (Nat.le_of_ble_eq_true rfl) dX5_sumAfterBoth_10 rfl (tX0_passDay _ f3 (zok_bd h (fun _ m5 h => ?_)))
  refine zi_aload_n (pc' := 14) X dX5_sumAfterBoth_13 rfl rfl 0 rfl ?_
  refine zi_getr (pc' := 17) X zf_X5_19 rfl (by decide) ha0 dX5_sumAfterBoth_14 rfl ?_
  have f6 := zr_5_2 ha0
  refine zi_iload_n (pc' := 18) X dX5_sumAfterBoth_17 rfl rfl 2 rfl ?_
  refine zi_iload_n (pc' := 19) X dX5_sumAfterBoth_18 rfl rfl 3 rfl ?_
  refine zi_callVv (pc' := 22) X zl_X5_289 f6 (by decide) [.int a2, .int a3] rfl rfl (by decide) (Nat.le_of_ble_eq_true rfl) dX5_sumAfterBoth_19 rfl (tX0_pitchAlone _ f6 (zok_bd h (fun _ m8 h => ?_)))
  refine zi_aload_n (pc' := 23) X dX5_sumAfterBoth_22 rfl rfl 0 rfl ?_
  refine zi_getr (pc' := 26) X zf_X5_19 rfl (by decide) ha0 dX5_sumAfterBoth_23 rfl ?_
  have f9 := zr_5_2 ha0
  refine zi_callVv (pc' := 29) X zl_X5_166 f9 (by decide) [] rfl rfl (by decide) (Nat.le_of_ble_eq_true rfl) dX5_sumAfterBoth_26 rfl (tX0_passDay _ f9 (zok_bd h (fun _ m11 h => ?_)))
  refine zi_aload_n (pc' := 30) X dX5_sumAfterBoth_29 rfl rfl 0 rfl ?_
  refine zi_getr (pc' := 33) X zf_X5_19 rfl (by decide) ha0 dX5_sumAfterBoth_30 rfl ?_
  have f12 := zr_5_2 ha0
  refine zi_callVi (pc' := 36) X zl_X5_126 f12 (by decide) [] rfl rfl (by decide) (Nat.le_of_ble_eq_true rfl) dX5_sumAfterBoth_33 rfl (tX0_heightSum _ f12 (zok_bd h (fun r13 m14 h => ?_)))
  exact hret _ _ _ _ dX5_sumAfterBoth_36 trivial h
def fX5_way (a0 : Nat) (a1 : Int32) (a2 : Int32) (a3 : Int32) (μ : zMem) : Option (Int32 × zMem) :=
  zbd (fX5_isCell a1 μ) fun r1 m2 =>
  if r1 = 0 then
    zbd (fX5_finding a0 (0 : Int32) m2) fun r3 m4 =>
    some (r3, m4)
  else
    zbd (fX5_isCell a2 m2) fun r5 m6 =>
    if r5 = 0 then
      zbd (fX5_finding a0 (0 : Int32) m6) fun r7 m8 =>
      some (r7, m8)
    else
      zbd (fX5_isMeasure a3 m6) fun r9 m10 =>
      if r9 = 0 then
        zbd (fX5_finding a0 (0 : Int32) m10) fun r17 m18 =>
        some (r17, m18)
      else
        zbd (fX1_stepsBetween (a0 + 49) (a0 + 1) a1 a2 a3 m10) fun r13 m14 =>
        if r13 = (-1 : Int32) then
          zbd (fX5_finding a0 (3 : Int32) m14) fun r15 m16 =>
          some (r15, m16)
        else
          some (r13, m14)
set_option maxRecDepth 100000 in
set_option maxHeartbeats 4000000 in
theorem tX5_way (g : zG) {a0 : Nat} {a1 : Int32} {a2 : Int32} {a3 : Int32} {μ : zMem} {Q : Int32 → zMem → Prop} (ha0 : zkd a0 = 5) (h : zok (fX5_way a0 a1 a2 a3 μ) Q) : zTi g yX5_way cX5_way 5 .int 4 [.ref (zad g a0), .int a1, .int a2, .int a3] μ Q := by
  refine zTi_of (P := fun r => True) zpi RX5 (by decide) rfl (Nat.le_of_ble_eq_true rfl) ?_
  intro κ X hret
  unfold fX5_way at h
  refine zi_iload_n (pc' := 1) X dX5_way_0 rfl rfl 1 rfl ?_
  refine zi_callSi (pc' := 4) X zl_X5_54 [.int a1] rfl rfl (by decide) (Nat.le_of_ble_eq_true rfl) dX5_way_1 rfl (tX5_isCell _ (zok_bd h (fun r1 m2 h => ?_)))
  refine zi_if_eq (pc' := 7) (tgt := 21) X dX5_way_4 rfl rfl (fun c => ?_) (fun c => ?_)
  · replace h := zok_t h c
    refine zi_aload_n (pc' := 22) X dX5_way_21 rfl rfl 0 rfl ?_
    refine zi_iconst (pc' := 23) (v := (0 : Int32)) X dX5_way_22 rfl rfl ?_
    refine zi_callVi (pc' := 26) X zl_X5_61 ha0 (by decide) [.int (0 : Int32)] rfl rfl (by decide) (Nat.le_of_ble_eq_true rfl) dX5_way_23 rfl (tX5_finding _ ha0 (zok_bd h (fun r3 m4 h => ?_)))
    exact hret _ _ _ _ dX5_way_26 trivial h
  · replace h := zok_f h c
    refine zi_iload_n (pc' := 8) X dX5_way_7 rfl rfl 2 rfl ?_
    refine zi_callSi (pc' := 11) X zl_X5_54 [.int a2] rfl rfl (by decide) (Nat.le_of_ble_eq_true rfl) dX5_way_8 rfl (tX5_isCell _ (zok_bd h (fun r5 m6 h => ?_)))
    refine zi_if_eq (pc' := 14) (tgt := 21) X dX5_way_11 rfl rfl (fun c => ?_) (fun c => ?_)
    · replace h := zok_t h c
      refine zi_aload_n (pc' := 22) X dX5_way_21 rfl rfl 0 rfl ?_
      refine zi_iconst (pc' := 23) (v := (0 : Int32)) X dX5_way_22 rfl rfl ?_
      refine zi_callVi (pc' := 26) X zl_X5_61 ha0 (by decide) [.int (0 : Int32)] rfl rfl (by decide) (Nat.le_of_ble_eq_true rfl) dX5_way_23 rfl (tX5_finding _ ha0 (zok_bd h (fun r7 m8 h => ?_)))
      exact hret _ _ _ _ dX5_way_26 trivial h
    · replace h := zok_f h c
      refine zi_iload_n (pc' := 15) X dX5_way_14 rfl rfl 3 rfl ?_
      refine zi_callSi (pc' := 18) X zl_X5_58 [.int a3] rfl rfl (by decide) (Nat.le_of_ble_eq_true rfl) dX5_way_15 rfl (tX5_isMeasure _ (zok_bd h (fun r9 m10 h => ?_)))
      refine zi_if_ne (pc' := 21) (tgt := 27) X dX5_way_18 rfl rfl (fun c => ?_) (fun c => ?_)
      · replace h := zok_f h c
        refine zi_aload_n (pc' := 28) X dX5_way_27 rfl rfl 0 rfl ?_
        refine zi_getr (pc' := 31) X zf_X5_25 rfl (by decide) ha0 dX5_way_28 rfl ?_
        have f11 := zr_5_3 ha0
        refine zi_aload_n (pc' := 32) X dX5_way_31 rfl rfl 0 rfl ?_
        refine zi_getr (pc' := 35) X zf_X5_10 rfl (by decide) ha0 dX5_way_32 rfl ?_
        have f12 := zr_5_0 ha0
        refine zi_iload_n (pc' := 36) X dX5_way_35 rfl rfl 1 rfl ?_
        refine zi_iload_n (pc' := 37) X dX5_way_36 rfl rfl 2 rfl ?_
        refine zi_iload_n (pc' := 38) X dX5_way_37 rfl rfl 3 rfl ?_
        refine zi_callVi (pc' := 41) X zl_X5_141 f11 (by decide) [.ref (zad g (a0 + 1)), .int a1, .int a2, .int a3] rfl rfl (by decide) (Nat.le_of_ble_eq_true rfl) dX5_way_38 rfl (tX1_stepsBetween _ f11 f12 (zok_bd h (fun r13 m14 h => ?_)))
        refine zi_istore (pc' := 43) X dX5_way_41 rfl (by decide) [(4, .int r13), (0, .ref (zad g a0)), (1, .int a1), (2, .int a2), (3, .int a3)] rfl ?_
        refine zi_iload (pc' := 45) X dX5_way_43 rfl 0 rfl ?_
        refine zi_iconst (pc' := 46) (v := (-1 : Int32)) X dX5_way_45 rfl rfl ?_
        refine zi_icmp_ne (pc' := 49) (tgt := 57) X dX5_way_46 rfl rfl (fun c => ?_) (fun c => ?_)
        · replace h := zok_f h c
          refine zi_iload (pc' := 59) X dX5_way_57 rfl 0 rfl ?_
          exact hret _ _ _ _ dX5_way_59 trivial h
        · replace h := zok_t h c
          refine zi_aload_n (pc' := 50) X dX5_way_49 rfl rfl 1 rfl ?_
          refine zi_iconst (pc' := 51) (v := (3 : Int32)) X dX5_way_50 rfl rfl ?_
          refine zi_callVi (pc' := 54) X zl_X5_61 ha0 (by decide) [.int (3 : Int32)] rfl rfl (by decide) (Nat.le_of_ble_eq_true rfl) dX5_way_51 rfl (tX5_finding _ ha0 (zok_bd h (fun r15 m16 h => ?_)))
          refine zi_goto (pc' := 59) X dX5_way_54 rfl ?_
          exact hret _ _ _ _ dX5_way_59 trivial h
      · replace h := zok_t h c
        refine zi_aload_n (pc' := 22) X dX5_way_21 rfl rfl 0 rfl ?_
        refine zi_iconst (pc' := 23) (v := (0 : Int32)) X dX5_way_22 rfl rfl ?_
        refine zi_callVi (pc' := 26) X zl_X5_61 ha0 (by decide) [.int (0 : Int32)] rfl rfl (by decide) (Nat.le_of_ble_eq_true rfl) dX5_way_23 rfl (tX5_finding _ ha0 (zok_bd h (fun r17 m18 h => ?_)))
        exact hret _ _ _ _ dX5_way_26 trivial h
def fX5_when_41 : Nat → Nat → Int32 → Int32 → Int32 → Int32 → zMem → Option (Int32 × zMem)
  | 0, _, _, _, _, _, _ => none
  | n + 1, a0, a1, a2, a3, a4, μ =>
    if (100 : Int32) < a4 then
      zbd (fX5_finding a0 (3 : Int32) μ) fun r15 m16 =>
      some (r15, m16)
    else
      zbd (fX1_stepsBetween (a0 + 49) (a0 + 33) a1 a2 a3 μ) fun r19 m20 =>
      if r19 = (-1 : Int32) then
        zbd (fX0_passDay (a0 + 33) m20) fun _ m23 =>
        fX5_when_41 n a0 a1 a2 a3 (a4 + (1 : Int32)) m23
      else
        some (a4, m20)
set_option maxRecDepth 100000 in
theorem lX5_when_41 {g : zG} {κ : zK} (X : zC g κ RX5 cX5_when 5 4) {Q : Int32 → zMem → Prop} (hret : ∀ pc lv r μ', decode cX5_when pc = .ok (.ireturn, 1) → True → Q r μ' → zV g κ pc lv [.int r] μ') : ∀ (n : Nat) (a0 : Nat) (a1 : Int32) (a2 : Int32) (a3 : Int32) (a4 : Int32) (μ : zMem) (ha0 : zkd a0 = 5), zok (fX5_when_41 n a0 a1 a2 a3 a4 μ) Q → zV g κ 41 [(0, .ref (zad g a0)), (1, .int a1), (2, .int a2), (3, .int a3), (4, .int a4)] [] μ := by
  intro n
  induction n with
  | zero =>
    intro a0 a1 a2 a3 a4 μ ha0 h
    exact h.elim
  | succ n ih =>
    intro a0 a1 a2 a3 a4 μ ha0 h
    rw [fX5_when_41] at h
    refine zi_iload (pc' := 43) X dX5_when_41 rfl 4 rfl ?_
    refine zi_bipush (pc' := 45) (v := (100 : Int32)) X dX5_when_43 rfl rfl ?_
    refine zi_icmp_gt (pc' := 48) (tgt := 82) X dX5_when_45 rfl rfl (fun c => ?_) (fun c => ?_)
    · replace h := zok_t h c
      refine zi_aload_n (pc' := 83) X dX5_when_82 rfl rfl 0 rfl ?_
      refine zi_iconst (pc' := 84) (v := (3 : Int32)) X dX5_when_83 rfl rfl ?_
      refine zi_callVi (pc' := 87) X zl_X5_61 ha0 (by decide) [.int (3 : Int32)] rfl rfl (by decide) (Nat.le_of_ble_eq_true rfl) dX5_when_84 rfl (tX5_finding _ ha0 (zok_bd h (fun r15 m16 h => ?_)))
      exact hret _ _ _ _ dX5_when_87 trivial h
    · replace h := zok_f h c
      refine zi_aload_n (pc' := 49) X dX5_when_48 rfl rfl 0 rfl ?_
      refine zi_getr (pc' := 52) X zf_X5_25 rfl (by decide) ha0 dX5_when_49 rfl ?_
      have f17 := zr_5_3 ha0
      refine zi_aload_n (pc' := 53) X dX5_when_52 rfl rfl 0 rfl ?_
      refine zi_getr (pc' := 56) X zf_X5_19 rfl (by decide) ha0 dX5_when_53 rfl ?_
      have f18 := zr_5_2 ha0
      refine zi_iload_n (pc' := 57) X dX5_when_56 rfl rfl 1 rfl ?_
      refine zi_iload_n (pc' := 58) X dX5_when_57 rfl rfl 2 rfl ?_
      refine zi_iload_n (pc' := 59) X dX5_when_58 rfl rfl 3 rfl ?_
      refine zi_callVi (pc' := 62) X zl_X5_141 f17 (by decide) [.ref (zad g (a0 + 33)), .int a1, .int a2, .int a3] rfl rfl (by decide) (Nat.le_of_ble_eq_true rfl) dX5_when_59 rfl (tX1_stepsBetween _ f17 f18 (zok_bd h (fun r19 m20 h => ?_)))
      refine zi_iconst (pc' := 63) (v := (-1 : Int32)) X dX5_when_62 rfl rfl ?_
      refine zi_icmp_eq (pc' := 66) (tgt := 69) X dX5_when_63 rfl rfl (fun c => ?_) (fun c => ?_)
      · replace h := zok_t h c
        refine zi_aload_n (pc' := 70) X dX5_when_69 rfl rfl 0 rfl ?_
        refine zi_getr (pc' := 73) X zf_X5_19 rfl (by decide) ha0 dX5_when_70 rfl ?_
        have f21 := zr_5_2 ha0
        refine zi_callVv (pc' := 76) X zl_X5_166 f21 (by decide) [] rfl rfl (by decide) (Nat.le_of_ble_eq_true rfl) dX5_when_73 rfl (tX0_passDay _ f21 (zok_bd h (fun _ m23 h => ?_)))
        refine zi_iinc (pc' := 79) (v := (a4 + (1 : Int32))) X dX5_when_76 rfl 4 rfl rfl (by decide) [(4, .int (a4 + (1 : Int32))), (0, .ref (zad g a0)), (1, .int a1), (2, .int a2), (3, .int a3)] rfl ?_
        refine zi_goto (pc' := 41) X dX5_when_79 rfl ?_
        exact zi_sub X [1, 2, 3, 4, 0] _ rfl (ih a0 a1 a2 a3 (a4 + (1 : Int32)) (m23) ha0 h)
      · replace h := zok_f h c
        refine zi_iload (pc' := 68) X dX5_when_66 rfl 4 rfl ?_
        exact hret _ _ _ _ dX5_when_68 trivial h
def fX5_when (a0 : Nat) (a1 : Int32) (a2 : Int32) (a3 : Int32) (μ : zMem) : Option (Int32 × zMem) :=
  zbd (fX5_isCell a1 μ) fun r1 m2 =>
  if r1 = 0 then
    zbd (fX5_finding a0 (0 : Int32) m2) fun r3 m4 =>
    some (r3, m4)
  else
    zbd (fX5_isCell a2 m2) fun r5 m6 =>
    if r5 = 0 then
      zbd (fX5_finding a0 (0 : Int32) m6) fun r7 m8 =>
      some (r7, m8)
    else
      zbd (fX5_isMeasure a3 m6) fun r9 m10 =>
      if r9 = 0 then
        zbd (fX5_finding a0 (0 : Int32) m10) fun r24 m25 =>
        some (r24, m25)
      else
        zbd (fX0_becomeLike (a0 + 33) (a0 + 1) m10) fun _ m14 =>
        fX5_when_41 200 a0 a1 a2 a3 (0 : Int32) m14
set_option maxRecDepth 100000 in
set_option maxHeartbeats 4000000 in
theorem tX5_when (g : zG) {a0 : Nat} {a1 : Int32} {a2 : Int32} {a3 : Int32} {μ : zMem} {Q : Int32 → zMem → Prop} (ha0 : zkd a0 = 5) (h : zok (fX5_when a0 a1 a2 a3 μ) Q) : zTi g yX5_when cX5_when 5 .int 4 [.ref (zad g a0), .int a1, .int a2, .int a3] μ Q := by
  refine zTi_of (P := fun r => True) zpi RX5 (by decide) rfl (Nat.le_of_ble_eq_true rfl) ?_
  intro κ X hret
  unfold fX5_when at h
  refine zi_iload_n (pc' := 1) X dX5_when_0 rfl rfl 1 rfl ?_
  refine zi_callSi (pc' := 4) X zl_X5_54 [.int a1] rfl rfl (by decide) (Nat.le_of_ble_eq_true rfl) dX5_when_1 rfl (tX5_isCell _ (zok_bd h (fun r1 m2 h => ?_)))
  refine zi_if_eq (pc' := 7) (tgt := 21) X dX5_when_4 rfl rfl (fun c => ?_) (fun c => ?_)
  · replace h := zok_t h c
    refine zi_aload_n (pc' := 22) X dX5_when_21 rfl rfl 0 rfl ?_
    refine zi_iconst (pc' := 23) (v := (0 : Int32)) X dX5_when_22 rfl rfl ?_
    refine zi_callVi (pc' := 26) X zl_X5_61 ha0 (by decide) [.int (0 : Int32)] rfl rfl (by decide) (Nat.le_of_ble_eq_true rfl) dX5_when_23 rfl (tX5_finding _ ha0 (zok_bd h (fun r3 m4 h => ?_)))
    exact hret _ _ _ _ dX5_when_26 trivial h
  · replace h := zok_f h c
    refine zi_iload_n (pc' := 8) X dX5_when_7 rfl rfl 2 rfl ?_
    refine zi_callSi (pc' := 11) X zl_X5_54 [.int a2] rfl rfl (by decide) (Nat.le_of_ble_eq_true rfl) dX5_when_8 rfl (tX5_isCell _ (zok_bd h (fun r5 m6 h => ?_)))
    refine zi_if_eq (pc' := 14) (tgt := 21) X dX5_when_11 rfl rfl (fun c => ?_) (fun c => ?_)
    · replace h := zok_t h c
      refine zi_aload_n (pc' := 22) X dX5_when_21 rfl rfl 0 rfl ?_
      refine zi_iconst (pc' := 23) (v := (0 : Int32)) X dX5_when_22 rfl rfl ?_
      refine zi_callVi (pc' := 26) X zl_X5_61 ha0 (by decide) [.int (0 : Int32)] rfl rfl (by decide) (Nat.le_of_ble_eq_true rfl) dX5_when_23 rfl (tX5_finding _ ha0 (zok_bd h (fun r7 m8 h => ?_)))
      exact hret _ _ _ _ dX5_when_26 trivial h
    · replace h := zok_f h c
      refine zi_iload_n (pc' := 15) X dX5_when_14 rfl rfl 3 rfl ?_
      refine zi_callSi (pc' := 18) X zl_X5_58 [.int a3] rfl rfl (by decide) (Nat.le_of_ble_eq_true rfl) dX5_when_15 rfl (tX5_isMeasure _ (zok_bd h (fun r9 m10 h => ?_)))
      refine zi_if_ne (pc' := 21) (tgt := 27) X dX5_when_18 rfl rfl (fun c => ?_) (fun c => ?_)
      · replace h := zok_f h c
        refine zi_aload_n (pc' := 28) X dX5_when_27 rfl rfl 0 rfl ?_
        refine zi_getr (pc' := 31) X zf_X5_19 rfl (by decide) ha0 dX5_when_28 rfl ?_
        have f11 := zr_5_2 ha0
        refine zi_aload_n (pc' := 32) X dX5_when_31 rfl rfl 0 rfl ?_
        refine zi_getr (pc' := 35) X zf_X5_10 rfl (by decide) ha0 dX5_when_32 rfl ?_
        have f12 := zr_5_0 ha0
        refine zi_callVv (pc' := 38) X zl_X5_159 f11 (by decide) [.ref (zad g (a0 + 1))] rfl rfl (by decide) (Nat.le_of_ble_eq_true rfl) dX5_when_35 rfl (tX0_becomeLike _ f11 f12 (zok_bd h (fun _ m14 h => ?_)))
        refine zi_iconst (pc' := 39) (v := (0 : Int32)) X dX5_when_38 rfl rfl ?_
        refine zi_istore (pc' := 41) X dX5_when_39 rfl (by decide) [(4, .int (0 : Int32)), (0, .ref (zad g a0)), (1, .int a1), (2, .int a2), (3, .int a3)] rfl ?_
        exact zi_sub X [1, 2, 3, 4, 0] _ rfl (lX5_when_41 X hret 200 a0 a1 a2 a3 (0 : Int32) (m14) ha0 h)
      · replace h := zok_t h c
        refine zi_aload_n (pc' := 22) X dX5_when_21 rfl rfl 0 rfl ?_
        refine zi_iconst (pc' := 23) (v := (0 : Int32)) X dX5_when_22 rfl rfl ?_
        refine zi_callVi (pc' := 26) X zl_X5_61 ha0 (by decide) [.int (0 : Int32)] rfl rfl (by decide) (Nat.le_of_ble_eq_true rfl) dX5_when_23 rfl (tX5_finding _ ha0 (zok_bd h (fun r24 m25 h => ?_)))
        exact hret _ _ _ _ dX5_when_26 trivial h
