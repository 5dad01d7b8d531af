def fJ6_bitCount_0f7a4 (a0 : Int32) (μ : zMem) : Option (Int32 × zMem) :=
  some (((((((((a0 - ((((a0).toUInt32 >>> (((1 : Int32)).toUInt32 &&& Int32.toUInt32 31)).toInt32) &&& (1431655765 : Int32))) &&& (858993459 : Int32)) + (((((a0 - ((((a0).toUInt32 >>> (((1 : Int32)).toUInt32 &&& Int32.toUInt32 31)).toInt32) &&& (1431655765 : Int32)))).toUInt32 >>> (((2 : Int32)).toUInt32 &&& Int32.toUInt32 31)).toInt32) &&& (858993459 : Int32))) + ((((((a0 - ((((a0).toUInt32 >>> (((1 : Int32)).toUInt32 &&& Int32.toUInt32 31)).toInt32) &&& (1431655765 : Int32))) &&& (858993459 : Int32)) + (((((a0 - ((((a0).toUInt32 >>> (((1 : Int32)).toUInt32 &&& Int32.toUInt32 31)).toInt32) &&& (1431655765 : Int32)))).toUInt32 >>> (((2 : Int32)).toUInt32 &&& Int32.toUInt32 31)).toInt32) &&& (858993459 : Int32)))).toUInt32 >>> (((4 : Int32)).toUInt32 &&& Int32.toUInt32 31)).toInt32)) &&& (252645135 : Int32)) + ((((((((a0 - ((((a0).toUInt32 >>> (((1 : Int32)).toUInt32 &&& Int32.toUInt32 31)).toInt32) &&& (1431655765 : Int32))) &&& (858993459 : Int32)) + (((((a0 - ((((a0).toUInt32 >>> (((1 : Int32)).toUInt32 &&& Int32.toUInt32 31)).toInt32) &&& (1431655765 : Int32)))).toUInt32 >>> (((2 : Int32)).toUInt32 &&& Int32.toUInt32 31)).toInt32) &&& (858993459 : Int32))) + ((((((a0 - ((((a0).toUInt32 >>> (((1 : Int32)).toUInt32 &&& Int32.toUInt32 31)).toInt32) &&& (1431655765 : Int32))) &&& (858993459 : Int32)) + (((((a0 - ((((a0).toUInt32 >>> (((1 : Int32)).toUInt32 &&& Int32.toUInt32 31)).toInt32) &&& (1431655765 : Int32)))).toUInt32 >>> (((2 : Int32)).toUInt32 &&& Int32.toUInt32 31)).toInt32) &&& (858993459 : Int32)))).toUInt32 >>> (((4 : Int32)).toUInt32 &&& Int32.toUInt32 31)).toInt32)) &&& (252645135 : Int32))).toUInt32 >>> (((8 : Int32)).toUInt32 &&& Int32.toUInt32 31)).toInt32)) + (((((((((a0 - ((((a0).toUInt32 >>> (((1 : Int32)).toUInt32 &&& Int32.toUInt32 31)).toInt32) &&& (1431655765 : Int32))) &&& (858993459 : Int32)) + (((((a0 - ((((a0).toUInt32 >>> (((1 : Int32)).toUInt32 &&& Int32.toUInt32 31)).toInt32) &&& (1431655765 : Int32)))).toUInt32 >>> (((2 : Int32)).toUInt32 &&& Int32.toUInt32 31)).toInt32) &&& (858993459 : Int32))) + ((((((a0 - ((((a0).toUInt32 >>> (((1 : Int32)).toUInt32 &&& Int32.toUInt32 31)).toInt32) &&& (1431655765 : Int32))) &&& (858993459 : Int32)) + (((((a0 - ((((a0).toUInt32 >>> (((1 : Int32)).toUInt32 &&& Int32.toUInt32 31)).toInt32) &&& (1431655765 : Int32)))).toUInt32 >>> (((2 : Int32)).toUInt32 &&& Int32.toUInt32 31)).toInt32) &&& (858993459 : Int32)))).toUInt32 >>> (((4 : Int32)).toUInt32 &&& Int32.toUInt32 31)).toInt32)) &&& (252645135 : Int32)) + ((((((((a0 - ((((a0).toUInt32 >>> (((1 : Int32)).toUInt32 &&& Int32.toUInt32 31)).toInt32) &&& (1431655765 : Int32))) &&& (858993459 : Int32)) + (((((a0 - ((((a0).toUInt32 >>> (((1 : Int32)).toUInt32 &&& Int32.toUInt32 31)).toInt32) &&& (1431655765 : Int32)))).toUInt32 >>> (((2 : Int32)).toUInt32 &&& Int32.toUInt32 31)).toInt32) &&& (858993459 : Int32))) + ((((((a0 - ((((a0).toUInt32 >>> (((1 : Int32)).toUInt32 &&& Int32.toUInt32 31)).toInt32) &&& (1431655765 : Int32))) &&& (858993459 : Int32)) + (((((a0 - ((((a0).toUInt32 >>> (((1 : Int32)).toUInt32 &&& Int32.toUInt32 31)).toInt32) &&& (1431655765 : Int32)))).toUInt32 >>> (((2 : Int32)).toUInt32 &&& Int32.toUInt32 31)).toInt32) &&& (858993459 : Int32)))).toUInt32 >>> (((4 : Int32)).toUInt32 &&& Int32.toUInt32 31)).toInt32)) &&& (252645135 : Int32))).toUInt32 >>> (((8 : Int32)).toUInt32 &&& Int32.toUInt32 31)).toInt32))).toUInt32 >>> (((16 : Int32)).toUInt32 &&& Int32.toUInt32 31)).toInt32)) &&& (63 : Int32)), μ)
set_option maxRecDepth 100000 in
set_option maxHeartbeats 4000000 in
theorem tJ6_bitCount_0f7a4 (g : zG) {a0 : Int32} {μ : zMem} {Q : Int32 → zMem → Prop} (h : zok (fJ6_bitCount_0f7a4 a0 μ) Q) : zTi g yJ6_bitCount_0f7a4 cJ6_bitCount_0f7a4 1 .int 0 [.int a0] μ Q := by
  refine zTi_of (P := fun r => True) zpi RJ6 (by decide) rfl (Nat.le_of_ble_eq_true rfl) ?_
  intro κ X hret
  unfold fJ6_bitCount_0f7a4 at h
  refine zi_iload_n (pc' := 1) X dJ6_bitCount_0f7a4_0 rfl rfl 0 rfl ?_
  refine zi_iload_n (pc' := 2) X dJ6_bitCount_0f7a4_1 rfl rfl 0 rfl ?_
  refine zi_iconst (pc' := 3) (v := (1 : Int32)) X dJ6_bitCount_0f7a4_2 rfl rfl ?_
  refine zi_iushr (pc' := 4) X dJ6_bitCount_0f7a4_3 rfl ?_
  refine zi_ldcw (pc' := 7) X dJ6_bitCount_0f7a4_4 rfl zk_J6_265 ?_
  refine zi_iand (pc' := 8) X dJ6_bitCount_0f7a4_7 rfl ?_
  refine zi_isub (pc' := 9) X dJ6_bitCount_0f7a4_8 rfl ?_
  refine zi_istore_n (pc' := 10) X dJ6_bitCount_0f7a4_9 rfl rfl (by decide) [(0, .int (a0 - ((((a0).toUInt32 >>> (((1 : Int32)).toUInt32 &&& Int32.toUInt32 31)).toInt32) &&& (1431655765 : Int32))))] rfl ?_
  refine zi_iload_n (pc' := 11) X dJ6_bitCount_0f7a4_10 rfl rfl 0 rfl ?_
  refine zi_ldcw (pc' := 14) X dJ6_bitCount_0f7a4_11 rfl zk_J6_266 ?_
  refine zi_iand (pc' := 15) X dJ6_bitCount_0f7a4_14 rfl ?_
  refine zi_iload_n (pc' := 16) X dJ6_bitCount_0f7a4_15 rfl rfl 0 rfl ?_
  refine zi_iconst (pc' := 17) (v := (2 : Int32)) X dJ6_bitCount_0f7a4_16 rfl rfl ?_
  refine zi_iushr (pc' := 18) X dJ6_bitCount_0f7a4_17 rfl ?_
  refine zi_ldcw (pc' := 21) X dJ6_bitCount_0f7a4_18 rfl zk_J6_266 ?_
  refine zi_iand (pc' := 22) X dJ6_bitCount_0f7a4_21 rfl ?_
  refine zi_iadd (pc' := 23) X dJ6_bitCount_0f7a4_22 rfl ?_
  refine zi_istore_n (pc' := 24) X dJ6_bitCount_0f7a4_23 rfl rfl (by decide) [(0, .int (((a0 - ((((a0).toUInt32 >>> (((1 : Int32)).toUInt32 &&& Int32.toUInt32 31)).toInt32) &&& (1431655765 : Int32))) &&& (858993459 : Int32)) + (((((a0 - ((((a0).toUInt32 >>> (((1 : Int32)).toUInt32 &&& Int32.toUInt32 31)).toInt32) &&& (1431655765 : Int32)))).toUInt32 >>> (((2 : Int32)).toUInt32 &&& Int32.toUInt32 31)).toInt32) &&& (858993459 : Int32))))] rfl ?_
  refine zi_iload_n (pc' := 25) X dJ6_bitCount_0f7a4_24 rfl rfl 0 rfl ?_
  refine zi_iload_n (pc' := 26) X dJ6_bitCount_0f7a4_25 rfl rfl 0 rfl ?_
  refine zi_iconst (pc' := 27) (v := (4 : Int32)) X dJ6_bitCount_0f7a4_26 rfl rfl ?_
  refine zi_iushr (pc' := 28) X dJ6_bitCount_0f7a4_27 rfl ?_
  refine zi_iadd (pc' := 29) X dJ6_bitCount_0f7a4_28 rfl ?_
  refine zi_ldcw (pc' := 32) X dJ6_bitCount_0f7a4_29 rfl zk_J6_267 ?_
  refine zi_iand (pc' := 33) X dJ6_bitCount_0f7a4_32 rfl ?_
  refine zi_istore_n (pc' := 34) X dJ6_bitCount_0f7a4_33 rfl rfl (by decide) [(0, .int (((((a0 - ((((a0).toUInt32 >>> (((1 : Int32)).toUInt32 &&& Int32.toUInt32 31)).toInt32) &&& (1431655765 : Int32))) &&& (858993459 : Int32)) + (((((a0 - ((((a0).toUInt32 >>> (((1 : Int32)).toUInt32 &&& Int32.toUInt32 31)).toInt32) &&& (1431655765 : Int32)))).toUInt32 >>> (((2 : Int32)).toUInt32 &&& Int32.toUInt32 31)).toInt32) &&& (858993459 : Int32))) + ((((((a0 - ((((a0).toUInt32 >>> (((1 : Int32)).toUInt32 &&& Int32.toUInt32 31)).toInt32) &&& (1431655765 : Int32))) &&& (858993459 : Int32)) + (((((a0 - ((((a0).toUInt32 >>> (((1 : Int32)).toUInt32 &&& Int32.toUInt32 31)).toInt32) &&& (1431655765 : Int32)))).toUInt32 >>> (((2 : Int32)).toUInt32 &&& Int32.toUInt32 31)).toInt32) &&& (858993459 : Int32)))).toUInt32 >>> (((4 : Int32)).toUInt32 &&& Int32.toUInt32 31)).toInt32)) &&& (252645135 : Int32)))] rfl ?_
  refine zi_iload_n (pc' := 35) X dJ6_bitCount_0f7a4_34 rfl rfl 0 rfl ?_
  refine zi_iload_n (pc' := 36) X dJ6_bitCount_0f7a4_35 rfl rfl 0 rfl ?_
  refine zi_bipush (pc' := 38) (v := (8 : Int32)) X dJ6_bitCount_0f7a4_36 rfl rfl ?_
  refine zi_iushr (pc' := 39) X dJ6_bitCount_0f7a4_38 rfl ?_
  refine zi_iadd (pc' := 40) X dJ6_bitCount_0f7a4_39 rfl ?_
  refine zi_istore_n (pc' := 41) X dJ6_bitCount_0f7a4_40 rfl rfl (by decide) [(0, .int ((((((a0 - ((((a0).toUInt32 >>> (((1 : Int32)).toUInt32 &&& Int32.toUInt32 31)).toInt32) &&& (1431655765 : Int32))) &&& (858993459 : Int32)) + (((((a0 - ((((a0).toUInt32 >>> (((1 : Int32)).toUInt32 &&& Int32.toUInt32 31)).toInt32) &&& (1431655765 : Int32)))).toUInt32 >>> (((2 : Int32)).toUInt32 &&& Int32.toUInt32 31)).toInt32) &&& (858993459 : Int32))) + ((((((a0 - ((((a0).toUInt32 >>> (((1 : Int32)).toUInt32 &&& Int32.toUInt32 31)).toInt32) &&& (1431655765 : Int32))) &&& (858993459 : Int32)) + (((((a0 - ((((a0).toUInt32 >>> (((1 : Int32)).toUInt32 &&& Int32.toUInt32 31)).toInt32) &&& (1431655765 : Int32)))).toUInt32 >>> (((2 : Int32)).toUInt32 &&& Int32.toUInt32 31)).toInt32) &&& (858993459 : Int32)))).toUInt32 >>> (((4 : Int32)).toUInt32 &&& Int32.toUInt32 31)).toInt32)) &&& (252645135 : Int32)) + ((((((((a0 - ((((a0).toUInt32 >>> (((1 : Int32)).toUInt32 &&& Int32.toUInt32 31)).toInt32) &&& (1431655765 : Int32))) &&& (858993459 : Int32)) + (((((a0 - ((((a0).toUInt32 >>> (((1 : Int32)).toUInt32 &&& Int32.toUInt32 31)).toInt32) &&& (1431655765 : Int32)))).toUInt32 >>> (((2 : Int32)).toUInt32 &&& Int32.toUInt32 31)).toInt32) &&& (858993459 : Int32))) + ((((((a0 - ((((a0).toUInt32 >>> (((1 : Int32)).toUInt32 &&& Int32.toUInt32 31)).toInt32) &&& (1431655765 : Int32))) &&& (858993459 : Int32)) + (((((a0 - ((((a0).toUInt32 >>> (((1 : Int32)).toUInt32 &&& Int32.toUInt32 31)).toInt32) &&& (1431655765 : Int32)))).toUInt32 >>> (((2 : Int32)).toUInt32 &&& Int32.toUInt32 31)).toInt32) &&& (858993459 : Int32)))).toUInt32 >>> (((4 : Int32)).toUInt32 &&& Int32.toUInt32 31)).toInt32)) &&& (252645135 : Int32))).toUInt32 >>> (((8 : Int32)).toUInt32 &&& Int32.toUInt32 31)).toInt32)))] rfl ?_
  refine zi_iload_n (pc' := 42) X dJ6_bitCount_0f7a4_41 rfl rfl 0 rfl ?_
  refine zi_iload_n (pc' := 43) X dJ6_bitCount_0f7a4_42 rfl rfl 0 rfl ?_
  refine zi_bipush (pc' := 45) (v := (16 : Int32)) X dJ6_bitCount_0f7a4_43 rfl rfl ?_
  refine zi_iushr (pc' := 46) X dJ6_bitCount_0f7a4_45 rfl ?_
  refine zi_iadd (pc' := 47) X dJ6_bitCount_0f7a4_46 rfl ?_
  refine zi_istore_n (pc' := 48) X dJ6_bitCount_0f7a4_47 rfl rfl (by decide) [(0, .int (((((((a0 - ((((a0).toUInt32 >>> (((1 : Int32)).toUInt32 &&& Int32.toUInt32 31)).toInt32) &&& (1431655765 : Int32))) &&& (858993459 : Int32)) + (((((a0 - ((((a0).toUInt32 >>> (((1 : Int32)).toUInt32 &&& Int32.toUInt32 31)).toInt32) &&& (1431655765 : Int32)))).toUInt32 >>> (((2 : Int32)).toUInt32 &&& Int32.toUInt32 31)).toInt32) &&& (858993459 : Int32))) + ((((((a0 - ((((a0).toUInt32 >>> (((1 : Int32)).toUInt32 &&& Int32.toUInt32 31)).toInt32) &&& (1431655765 : Int32))) &&& (858993459 : Int32)) + (((((a0 - ((((a0).toUInt32 >>> (((1 : Int32)).toUInt32 &&& Int32.toUInt32 31)).toInt32) &&& (1431655765 : Int32)))).toUInt32 >>> (((2 : Int32)).toUInt32 &&& Int32.toUInt32 31)).toInt32) &&& (858993459 : Int32)))).toUInt32 >>> (((4 : Int32)).toUInt32 &&& Int32.toUInt32 31)).toInt32)) &&& (252645135 : Int32)) + ((((((((a0 - ((((a0).toUInt32 >>> (((1 : Int32)).toUInt32 &&& Int32.toUInt32 31)).toInt32) &&& (1431655765 : Int32))) &&& (858993459 : Int32)) + (((((a0 - ((((a0).toUInt32 >>> (((1 : Int32)).toUInt32 &&& Int32.toUInt32 31)).toInt32) &&& (1431655765 : Int32)))).toUInt32 >>> (((2 : Int32)).toUInt32 &&& Int32.toUInt32 31)).toInt32) &&& (858993459 : Int32))) + ((((((a0 - ((((a0).toUInt32 >>> (((1 : Int32)).toUInt32 &&& Int32.toUInt32 31)).toInt32) &&& (1431655765 : Int32))) &&& (858993459 : Int32)) + (((((a0 - ((((a0).toUInt32 >>> (((1 : Int32)).toUInt32 &&& Int32.toUInt32 31)).toInt32) &&& (1431655765 : Int32)))).toUInt32 >>> (((2 : Int32)).toUInt32 &&& Int32.toUInt32 31)).toInt32) &&& (858993459 : Int32)))).toUInt32 >>> (((4 : Int32)).toUInt32 &&& Int32.toUInt32 31)).toInt32)) &&& (252645135 : Int32))).toUInt32 >>> (((8 : Int32)).toUInt32 &&& Int32.toUInt32 31)).toInt32)) + (((((((((a0 - ((((a0).toUInt32 >>> (((1 : Int32)).toUInt32 &&& Int32.toUInt32 31)).toInt32) &&& (1431655765 : Int32))) &&& (858993459 : Int32)) + (((((a0 - ((((a0).toUInt32 >>> (((1 : Int32)).toUInt32 &&& Int32.toUInt32 31)).toInt32) &&& (1431655765 : Int32)))).toUInt32 >>> (((2 : Int32)).toUInt32 &&& Int32.toUInt32 31)).toInt32) &&& (858993459 : Int32))) + ((((((a0 - ((((a0).toUInt32 >>> (((1 : Int32)).toUInt32 &&& Int32.toUInt32 31)).toInt32) &&& (1431655765 : Int32))) &&& (858993459 : Int32)) + (((((a0 - ((((a0).toUInt32 >>> (((1 : Int32)).toUInt32 &&& Int32.toUInt32 31)).toInt32) &&& (1431655765 : Int32)))).toUInt32 >>> (((2 : Int32)).toUInt32 &&& Int32.toUInt32 31)).toInt32) &&& (858993459 : Int32)))).toUInt32 >>> (((4 : Int32)).toUInt32 &&& Int32.toUInt32 31)).toInt32)) &&& (252645135 : Int32)) + ((((((((a0 - ((((a0).toUInt32 >>> (((1 : Int32)).toUInt32 &&& Int32.toUInt32 31)).toInt32) &&& (1431655765 : Int32))) &&& (858993459 : Int32)) + (((((a0 - ((((a0).toUInt32 >>> (((1 : Int32)).toUInt32 &&& Int32.toUInt32 31)).toInt32) &&& (1431655765 : Int32)))).toUInt32 >>> (((2 : Int32)).toUInt32 &&& Int32.toUInt32 31)).toInt32) &&& (858993459 : Int32))) + ((((((a0 - ((((a0).toUInt32 >>> (((1 : Int32)).toUInt32 &&& Int32.toUInt32 31)).toInt32) &&& (1431655765 : Int32))) &&& (858993459 : Int32)) + (((((a0 - ((((a0).toUInt32 >>> (((1 : Int32)).toUInt32 &&& Int32.toUInt32 31)).toInt32) &&& (1431655765 : Int32)))).toUInt32 >>> (((2 : Int32)).toUInt32 &&& Int32.toUInt32 31)).toInt32) &&& (858993459 : Int32)))).toUInt32 >>> (((4 : Int32)).toUInt32 &&& Int32.toUInt32 31)).toInt32)) &&& (252645135 : Int32))).toUInt32 >>> (((8 : Int32)).toUInt32 &&& Int32.toUInt32 31)).toInt32))).toUInt32 >>> (((16 : Int32)).toUInt32 &&& Int32.toUInt32 31)).toInt32)))] rfl ?_
  refine zi_iload_n (pc' := 49) X dJ6_bitCount_0f7a4_48 rfl rfl 0 rfl ?_
  refine zi_bipush (pc' := 51) (v := (63 : Int32)) X dJ6_bitCount_0f7a4_49 rfl rfl ?_
  refine zi_iand (pc' := 52) X dJ6_bitCount_0f7a4_51 rfl ?_
  exact hret _ _ _ _ dJ6_bitCount_0f7a4_52 trivial h
def fJ7_fill_53178_5 : Nat → Nat → Int32 → Int32 → Int32 → zMem → Option (Unit × zMem)
  | 0, _, _, _, _, _ => none
  | n + 1, a0, a1, a2, a3, μ =>
    if a3 ≤ a2 then
      some ((), μ)
    else
      zgd (zib a2 (zln a0)) (
      fJ7_fill_53178_5 n a0 a1 (a2 + (1 : Int32)) a3 (zst μ a0 (a2).toNatClampNeg a1))
set_option maxRecDepth 100000 in
theorem lJ7_fill_53178_5 {g : zG} {κ : zK} (X : zC g κ RJ7 cJ7_fill_53178 4 0) {Q : Unit → zMem → Prop} (hret : ∀ pc lv μ', decode cJ7_fill_53178 pc = .ok (.return_, 1) → Q () μ' → zV g κ pc lv [] μ') : ∀ (n : Nat) (a0 : Nat) (a1 : Int32) (a2 : Int32) (a3 : Int32) (μ : zMem) (ha0 : zR a0 7 (zln a0)), zok (fJ7_fill_53178_5 n a0 a1 a2 a3 μ) Q → zV g κ 5 [(0, .ref (zad g a0)), (1, .int a1), (2, .int a2), (3, .int a3)] [] μ := by
  intro n
  induction n with
  | zero =>
    intro a0 a1 a2 a3 μ ha0 h
    exact h.elim
  | succ n ih =>
    intro a0 a1 a2 a3 μ ha0 h
    rw [fJ7_fill_53178_5] at h
    refine zi_iload_n (pc' := 6) X dJ7_fill_53178_5 rfl rfl 2 rfl ?_
    refine zi_iload_n (pc' := 7) X dJ7_fill_53178_6 rfl rfl 3 rfl ?_
    refine zi_icmp_ge (pc' := 10) (tgt := 20) X dJ7_fill_53178_7 rfl rfl (fun c => ?_) (fun c => ?_)
    · replace h := zok_t h c
      exact hret _ _ _ dJ7_fill_53178_20 h
    · replace h := zok_f h c
      refine zi_aload_n (pc' := 11) X dJ7_fill_53178_10 rfl rfl 0 rfl ?_
      refine zi_iload_n (pc' := 12) X dJ7_fill_53178_11 rfl rfl 2 rfl ?_
      refine zi_iload_n (pc' := 13) X dJ7_fill_53178_12 rfl rfl 1 rfl ?_
      obtain ⟨g1, h⟩ := zok_g h
      refine zi_iast (pc' := 14) X ha0.1 (by rw [ha0.2]; exact g1) dJ7_fill_53178_13 rfl ?_
      refine zi_iinc (pc' := 17) (v := (a2 + (1 : Int32))) X dJ7_fill_53178_14 rfl 2 rfl rfl (by decide) [(2, .int (a2 + (1 : Int32))), (0, .ref (zad g a0)), (1, .int a1), (3, .int a3)] rfl ?_
      refine zi_goto (pc' := 5) X dJ7_fill_53178_17 rfl ?_
      exact zi_sub X [1, 2, 0, 3] _ rfl (ih a0 a1 (a2 + (1 : Int32)) a3 ((zst μ a0 (a2).toNatClampNeg a1)) ha0 h)
def fJ7_fill_53178 (a0 : Nat) (a1 : Int32) (μ : zMem) : Option (Unit × zMem) :=
  fJ7_fill_53178_5 200 a0 a1 (0 : Int32) (Int32.ofNat (zln a0)) μ
set_option maxRecDepth 100000 in
set_option maxHeartbeats 4000000 in
theorem tJ7_fill_53178 (g : zG) {a0 : Nat} {a1 : Int32} {μ : zMem} {Q : Unit → zMem → Prop} (ha0 : zkd a0 = 7) (h : zok (fJ7_fill_53178 a0 a1 μ) Q) : zTv g yJ7_fill_53178 cJ7_fill_53178 4 0 [.ref (zad g a0), .int a1] μ Q := by
  refine zTv_of RJ7 (by decide) rfl (Nat.le_of_ble_eq_true rfl) ?_
  intro κ X hret
  unfold fJ7_fill_53178 at h
  have ha0 : zR a0 7 (zln a0) := ⟨ha0, rfl⟩
  refine zi_iconst (pc' := 1) (v := (0 : Int32)) X dJ7_fill_53178_0 rfl rfl ?_
  refine zi_istore_n (pc' := 2) X dJ7_fill_53178_1 rfl rfl (by decide) [(2, .int (0 : Int32)), (0, .ref (zad g a0)), (1, .int a1)] rfl ?_
  refine zi_aload_n (pc' := 3) X dJ7_fill_53178_2 rfl rfl 1 rfl ?_
  refine zi_alen (pc' := 4) X ha0.1 dJ7_fill_53178_3 rfl ?_
  refine zi_istore_n (pc' := 5) X dJ7_fill_53178_4 rfl rfl (by decide) [(3, .int (Int32.ofNat (zln a0))), (2, .int (0 : Int32)), (0, .ref (zad g a0)), (1, .int a1)] rfl ?_
  exact zi_sub X [2, 3, 1, 0] _ rfl (lJ7_fill_53178_5 X hret 200 a0 a1 (0 : Int32) (Int32.ofNat (zln a0)) (μ) ha0 h)
def fX5_within (a0 : Int32) (a1 : Int32) (a2 : Int32) (μ : zMem) : Option (Int32 × zMem) :=
  if a0 < a1 then
    some ((0 : Int32), μ)
  else
    if a2 < a0 then
      some ((0 : Int32), μ)
    else
      some ((1 : Int32), μ)
set_option maxRecDepth 100000 in
set_option maxHeartbeats 4000000 in
theorem tX5_within (g : zG) {a0 : Int32} {a1 : Int32} {a2 : Int32} {μ : zMem} {Q : Int32 → zMem → Prop} (h : zok (fX5_within a0 a1 a2 μ) Q) : zTi g yX5_within cX5_within 3 .boolean 0 [.int a0, .int a1, .int a2] μ Q := by
  refine zTi_of (P := fun r => r = 0 ∨ r = 1) zpb RX5 (by decide) rfl (Nat.le_of_ble_eq_true rfl) ?_
  intro κ X hret
  unfold fX5_within at h
  refine zi_iload_n (pc' := 1) X dX5_within_0 rfl rfl 0 rfl ?_
  refine zi_iload_n (pc' := 2) X dX5_within_1 rfl rfl 1 rfl ?_
  refine zi_icmp_lt (pc' := 5) (tgt := 14) X dX5_within_2 rfl rfl (fun c => ?_) (fun c => ?_)
  · replace h := zok_t h c
    refine zi_iconst (pc' := 15) (v := (0 : Int32)) X dX5_within_14 rfl rfl ?_
    exact hret _ _ _ _ dX5_within_15 (by decide) h
  · replace h := zok_f h c
    refine zi_iload_n (pc' := 6) X dX5_within_5 rfl rfl 0 rfl ?_
    refine zi_iload_n (pc' := 7) X dX5_within_6 rfl rfl 2 rfl ?_
    refine zi_icmp_gt (pc' := 10) (tgt := 14) X dX5_within_7 rfl rfl (fun c => ?_) (fun c => ?_)
    · replace h := zok_t h c
      refine zi_iconst (pc' := 15) (v := (0 : Int32)) X dX5_within_14 rfl rfl ?_
      exact hret _ _ _ _ dX5_within_15 (by decide) h
    · replace h := zok_f h c
      refine zi_iconst (pc' := 11) (v := (1 : Int32)) X dX5_within_10 rfl rfl ?_
      refine zi_goto (pc' := 15) X dX5_within_11 rfl ?_
      exact hret _ _ _ _ dX5_within_15 (by decide) h
def fX4_forget_4 : Nat → Nat → Int32 → Int32 → zMem → Option (Int32 × zMem)
  | 0, _, _, _, _ => none
  | n + 1, a0, a1, a2, μ =>
    if (4 : Int32) ≤ a2 then
      some (a1, μ)
    else
      zgd (zib a2 4) (
      if (μ (a0 + 1) (a2).toNatClampNeg) = (-1 : Int32) then
        fX4_forget_4 n a0 a1 (a2 + (1 : Int32)) μ
      else
        zgd (zib a2 4) (
        fX4_forget_4 n a0 (a1 + (1 : Int32)) (a2 + (1 : Int32)) (zst μ (a0 + 1) (a2).toNatClampNeg (-1 : Int32))))
set_option maxRecDepth 100000 in
theorem lX4_forget_4 {g : zG} {κ : zK} (X : zC g κ RX4 cX4_forget 3 0) {Q : Int32 → zMem → Prop} (hret : ∀ pc lv r μ', decode cX4_forget pc = .ok (.ireturn, 1) → True → Q r μ' → zV g κ pc lv [.int r] μ') : ∀ (n : Nat) (a0 : Nat) (a1 : Int32) (a2 : Int32) (μ : zMem) (ha0 : zkd a0 = 4), zok (fX4_forget_4 n a0 a1 a2 μ) Q → zV g κ 4 [(0, .ref (zad g a0)), (1, .int a1), (2, .int a2)] [] μ := by
  intro n
  induction n with
  | zero =>
    intro a0 a1 a2 μ ha0 h
    exact h.elim
  | succ n ih =>
    intro a0 a1 a2 μ ha0 h
    rw [fX4_forget_4] at h
    refine zi_iload_n (pc' := 5) X dX4_forget_4 rfl rfl 2 rfl ?_
    refine zi_iconst (pc' := 6) (v := (4 : Int32)) X dX4_forget_5 rfl rfl ?_
    refine zi_icmp_ge (pc' := 9) (tgt := 35) X dX4_forget_6 rfl rfl (fun c => ?_) (fun c => ?_)
    · replace h := zok_t h c
      refine zi_iload_n (pc' := 36) X dX4_forget_35 rfl rfl 1 rfl ?_
      exact hret _ _ _ _ dX4_forget_36 trivial h
    · replace h := zok_f h c
      refine zi_aload_n (pc' := 10) X dX4_forget_9 rfl rfl 0 rfl ?_
      refine zi_getr (pc' := 13) X zf_X4_21 rfl (by decide) ha0 dX4_forget_10 rfl ?_
      have f1 := zr_4_3 ha0
      refine zi_iload_n (pc' := 14) X dX4_forget_13 rfl rfl 2 rfl ?_
      obtain ⟨g2, h⟩ := zok_g h
      refine zi_iald (pc' := 15) X f1.1 (by rw [f1.2]; exact g2) dX4_forget_14 rfl ?_
      refine zi_iconst (pc' := 16) (v := (-1 : Int32)) X dX4_forget_15 rfl rfl ?_
      refine zi_icmp_eq (pc' := 19) (tgt := 29) X dX4_forget_16 rfl rfl (fun c => ?_) (fun c => ?_)
      · replace h := zok_t h c
        refine zi_iinc (pc' := 32) (v := (a2 + (1 : Int32))) X dX4_forget_29 rfl 2 rfl rfl (by decide) [(2, .int (a2 + (1 : Int32))), (0, .ref (zad g a0)), (1, .int a1)] rfl ?_
        refine zi_goto (pc' := 4) X dX4_forget_32 rfl ?_
        exact zi_sub X [1, 2, 0] _ rfl (ih a0 a1 (a2 + (1 : Int32)) (μ) ha0 h)
      · replace h := zok_f h c
        refine zi_iinc (pc' := 22) (v := (a1 + (1 : Int32))) X dX4_forget_19 rfl 1 rfl rfl (by decide) [(1, .int (a1 + (1 : Int32))), (0, .ref (zad g a0)), (2, .int a2)] rfl ?_
        refine zi_aload_n (pc' := 23) X dX4_forget_22 rfl rfl 1 rfl ?_
        refine zi_getr (pc' := 26) X zf_X4_21 rfl (by decide) ha0 dX4_forget_23 rfl ?_
        have f3 := zr_4_3 ha0
        refine zi_iload_n (pc' := 27) X dX4_forget_26 rfl rfl 2 rfl ?_
        refine zi_iconst (pc' := 28) (v := (-1 : Int32)) X dX4_forget_27 rfl rfl ?_
        obtain ⟨g4, h⟩ := zok_g h
        refine zi_iast (pc' := 29) X f3.1 (by rw [f3.2]; exact g4) dX4_forget_28 rfl ?_
        refine zi_iinc (pc' := 32) (v := (a2 + (1 : Int32))) X dX4_forget_29 rfl 2 rfl rfl (by decide) [(2, .int (a2 + (1 : Int32))), (1, .int (a1 + (1 : Int32))), (0, .ref (zad g a0))] rfl ?_
        refine zi_goto (pc' := 4) X dX4_forget_32 rfl ?_
        exact zi_sub X [2, 1, 0] _ rfl (ih a0 (a1 + (1 : Int32)) (a2 + (1 : Int32)) ((zst μ (a0 + 1) (a2).toNatClampNeg (-1 : Int32))) ha0 h)
def fX4_forget (a0 : Nat) (μ : zMem) : Option (Int32 × zMem) :=
  fX4_forget_4 200 a0 (0 : Int32) (0 : Int32) μ
set_option maxRecDepth 100000 in
set_option maxHeartbeats 4000000 in
theorem tX4_forget (g : zG) {a0 : Nat} {μ : zMem} {Q : Int32 → zMem → Prop} (ha0 : zkd a0 = 4) (h : zok (fX4_forget a0 μ) Q) : zTi g yX4_forget cX4_forget 3 .int 0 [.ref (zad g a0)] μ Q := by
  refine zTi_of (P := fun r => True) zpi RX4 (by decide) rfl (Nat.le_of_ble_eq_true rfl) ?_
  intro κ X hret
  unfold fX4_forget at h
  refine zi_iconst (pc' := 1) (v := (0 : Int32)) X dX4_forget_0 rfl rfl ?_
  refine zi_istore_n (pc' := 2) X dX4_forget_1 rfl rfl (by decide) [(1, .int (0 : Int32)), (0, .ref (zad g a0))] rfl ?_
  refine zi_iconst (pc' := 3) (v := (0 : Int32)) X dX4_forget_2 rfl rfl ?_
  refine zi_istore_n (pc' := 4) X dX4_forget_3 rfl rfl (by decide) [(2, .int (0 : Int32)), (1, .int (0 : Int32)), (0, .ref (zad g a0))] rfl ?_
  exact zi_sub X [2, 1, 0] _ rfl (lX4_forget_4 X hret 200 a0 (0 : Int32) (0 : Int32) (μ) ha0 h)
def fX4_kindAbove (a0 : Int32) (μ : zMem) : Option (Int32 × zMem) :=
  if a0 = (1 : Int32) then
    some ((0 : Int32), μ)
  else
    if a0 = (2 : Int32) then
      some ((0 : Int32), μ)
    else
      if a0 = (3 : Int32) then
        some ((2 : Int32), μ)
      else
        if a0 = (4 : Int32) then
          some ((3 : Int32), μ)
        else
          if a0 = (5 : Int32) then
            some ((0 : Int32), μ)
          else
            if a0 = (6 : Int32) then
              some ((1 : Int32), μ)
            else
              some ((-1 : Int32), μ)
set_option maxRecDepth 100000 in
set_option maxHeartbeats 4000000 in
theorem tX4_kindAbove (g : zG) {a0 : Int32} {μ : zMem} {Q : Int32 → zMem → Prop} (h : zok (fX4_kindAbove a0 μ) Q) : zTi g yX4_kindAbove cX4_kindAbove 1 .int 0 [.int a0] μ Q := by
  refine zTi_of (P := fun r => True) zpi RX4 (by decide) rfl (Nat.le_of_ble_eq_true rfl) ?_
  intro κ X hret
  unfold fX4_kindAbove at h
  refine zi_iload_n (pc' := 1) X dX4_kindAbove_0 rfl rfl 0 rfl ?_
  by_cases c1 : a0 = (1 : Int32)
  · replace h := zok_t h c1
    refine zi_tabIn (pc' := 40) X c1 dX4_kindAbove_1 ⟨by decide, rfl, rfl⟩ ?_
    refine zi_iconst (pc' := 41) (v := (0 : Int32)) X dX4_kindAbove_40 rfl rfl ?_
    exact hret _ _ _ _ dX4_kindAbove_41 trivial h
  · replace h := zok_f h c1
    by_cases c2 : a0 = (2 : Int32)
    · replace h := zok_t h c2
      refine zi_tabIn (pc' := 42) X c2 dX4_kindAbove_1 ⟨by decide, rfl, rfl⟩ ?_
      refine zi_iconst (pc' := 43) (v := (0 : Int32)) X dX4_kindAbove_42 rfl rfl ?_
      exact hret _ _ _ _ dX4_kindAbove_43 trivial h
    · replace h := zok_f h c2
      by_cases c3 : a0 = (3 : Int32)
      · replace h := zok_t h c3
        refine zi_tabIn (pc' := 46) X c3 dX4_kindAbove_1 ⟨by decide, rfl, rfl⟩ ?_
        refine zi_iconst (pc' := 47) (v := (2 : Int32)) X dX4_kindAbove_46 rfl rfl ?_
        exact hret _ _ _ _ dX4_kindAbove_47 trivial h
      · replace h := zok_f h c3
        by_cases c4 : a0 = (4 : Int32)
        · replace h := zok_t h c4
          refine zi_tabIn (pc' := 48) X c4 dX4_kindAbove_1 ⟨by decide, rfl, rfl⟩ ?_
          refine zi_iconst (pc' := 49) (v := (3 : Int32)) X dX4_kindAbove_48 rfl rfl ?_
          exact hret _ _ _ _ dX4_kindAbove_49 trivial h
        · replace h := zok_f h c4
          by_cases c5 : a0 = (5 : Int32)
          · replace h := zok_t h c5
            refine zi_tabIn (pc' := 44) X c5 dX4_kindAbove_1 ⟨by decide, rfl, rfl⟩ ?_
            refine zi_iconst (pc' := 45) (v := (0 : Int32)) X dX4_kindAbove_44 rfl rfl ?_
            exact hret _ _ _ _ dX4_kindAbove_45 trivial h
          · replace h := zok_f h c5
            by_cases c6 : a0 = (6 : Int32)
            · replace h := zok_t h c6
              refine zi_tabIn (pc' := 50) X c6 dX4_kindAbove_1 ⟨by decide, rfl, rfl⟩ ?_
              refine zi_iconst (pc' := 51) (v := (1 : Int32)) X dX4_kindAbove_50 rfl rfl ?_
              exact hret _ _ _ _ dX4_kindAbove_51 trivial h
            · replace h := zok_f h c6
              have e0 := zne (1) rfl c1
              have e1 := zne (2) rfl c2
              have e2 := zne (3) rfl c3
              have e3 := zne (4) rfl c4
              have e4 := zne (5) rfl c5
              have e5 := zne (6) rfl c6
              refine zi_tabOut (pc' := 52) X (by omega) dX4_kindAbove_1 rfl ?_
              refine zi_iconst (pc' := 53) (v := (-1 : Int32)) X dX4_kindAbove_52 rfl rfl ?_
              exact hret _ _ _ _ dX4_kindAbove_53 trivial h
def fX4_patchedPress (a0 : Int32) (a1 : Int32) (μ : zMem) : Option (Int32 × zMem) :=
  if a0 ≤ a1 then
    some (a1, μ)
  else
    some ((a1 + (1 : Int32)), μ)
set_option maxRecDepth 100000 in
set_option maxHeartbeats 4000000 in
theorem tX4_patchedPress (g : zG) {a0 : Int32} {a1 : Int32} {μ : zMem} {Q : Int32 → zMem → Prop} (h : zok (fX4_patchedPress a0 a1 μ) Q) : zTi g yX4_patchedPress cX4_patchedPress 2 .int 0 [.int a0, .int a1] μ Q := by
  refine zTi_of (P := fun r => True) zpi RX4 (by decide) rfl (Nat.le_of_ble_eq_true rfl) ?_
  intro κ X hret
  unfold fX4_patchedPress at h
  refine zi_iload_n (pc' := 1) X dX4_patchedPress_0 rfl rfl 0 rfl ?_
  refine zi_iload_n (pc' := 2) X dX4_patchedPress_1 rfl rfl 1 rfl ?_
  refine zi_icmp_le (pc' := 5) (tgt := 11) X dX4_patchedPress_2 rfl rfl (fun c => ?_) (fun c => ?_)
  · replace h := zok_t h c
    refine zi_iload_n (pc' := 12) X dX4_patchedPress_11 rfl rfl 1 rfl ?_
    exact hret _ _ _ _ dX4_patchedPress_12 trivial h
  · replace h := zok_f h c
    refine zi_iload_n (pc' := 6) X dX4_patchedPress_5 rfl rfl 1 rfl ?_
    refine zi_iconst (pc' := 7) (v := (1 : Int32)) X dX4_patchedPress_6 rfl rfl ?_
    refine zi_iadd (pc' := 8) X dX4_patchedPress_7 rfl ?_
    refine zi_goto (pc' := 12) X dX4_patchedPress_8 rfl ?_
    exact hret _ _ _ _ dX4_patchedPress_12 trivial h
def fX4_wear (a0 : Nat) (μ : zMem) : Option (Int32 × zMem) :=
  if (μ a0 0) = (1 : Int32) then
    some ((2 : Int32), μ)
  else
    if (μ a0 0) = (2 : Int32) then
      some ((1 : Int32), μ)
    else
      if (μ a0 0) = (3 : Int32) then
        some ((1 : Int32), μ)
      else
        if (μ a0 0) = (4 : Int32) then
          some ((0 : Int32), μ)
        else
          if (μ a0 0) = (5 : Int32) then
            some ((5 : Int32), μ)
          else
            if (μ a0 0) = (6 : Int32) then
              some ((4 : Int32), μ)
            else
              some ((1 : Int32), μ)
set_option maxRecDepth 100000 in
set_option maxHeartbeats 4000000 in
theorem tX4_wear (g : zG) {a0 : Nat} {μ : zMem} {Q : Int32 → zMem → Prop} (ha0 : zkd a0 = 4) (h : zok (fX4_wear a0 μ) Q) : zTi g yX4_wear cX4_wear 1 .int 0 [.ref (zad g a0)] μ Q := by
  refine zTi_of (P := fun r => True) zpi RX4 (by decide) rfl (Nat.le_of_ble_eq_true rfl) ?_
  intro κ X hret
  unfold fX4_wear at h
  refine zi_aload_n (pc' := 1) X dX4_wear_0 rfl rfl 0 rfl ?_
  refine zi_geti (pc' := 4) X zf_X4_9 rfl (by decide) ha0 dX4_wear_1 rfl ?_
  by_cases c1 : (μ a0 0) = (1 : Int32)
  · replace h := zok_t h c1
    refine zi_tabIn (pc' := 44) X c1 dX4_wear_4 ⟨by decide, rfl, rfl⟩ ?_
    refine zi_iconst (pc' := 45) (v := (2 : Int32)) X dX4_wear_44 rfl rfl ?_
    exact hret _ _ _ _ dX4_wear_45 trivial h
  · replace h := zok_f h c1
    by_cases c2 : (μ a0 0) = (2 : Int32)
    · replace h := zok_t h c2
      refine zi_tabIn (pc' := 52) X c2 dX4_wear_4 ⟨by decide, rfl, rfl⟩ ?_
      refine zi_iconst (pc' := 53) (v := (1 : Int32)) X dX4_wear_52 rfl rfl ?_
      exact hret _ _ _ _ dX4_wear_53 trivial h
    · replace h := zok_f h c2
      by_cases c3 : (μ a0 0) = (3 : Int32)
      · replace h := zok_t h c3
        refine zi_tabIn (pc' := 52) X c3 dX4_wear_4 ⟨by decide, rfl, rfl⟩ ?_
        refine zi_iconst (pc' := 53) (v := (1 : Int32)) X dX4_wear_52 rfl rfl ?_
        exact hret _ _ _ _ dX4_wear_53 trivial h
      · replace h := zok_f h c3
        by_cases c4 : (μ a0 0) = (4 : Int32)
        · replace h := zok_t h c4
          refine zi_tabIn (pc' := 48) X c4 dX4_wear_4 ⟨by decide, rfl, rfl⟩ ?_
          refine zi_iconst (pc' := 49) (v := (0 : Int32)) X dX4_wear_48 rfl rfl ?_
          exact hret _ _ _ _ dX4_wear_49 trivial h
        · replace h := zok_f h c4
          by_cases c5 : (μ a0 0) = (5 : Int32)
          · replace h := zok_t h c5
            refine zi_tabIn (pc' := 50) X c5 dX4_wear_4 ⟨by decide, rfl, rfl⟩ ?_
            refine zi_iconst (pc' := 51) (v := (5 : Int32)) X dX4_wear_50 rfl rfl ?_
            exact hret _ _ _ _ dX4_wear_51 trivial h
          · replace h := zok_f h c5
            by_cases c6 : (μ a0 0) = (6 : Int32)
            · replace h := zok_t h c6
              refine zi_tabIn (pc' := 46) X c6 dX4_wear_4 ⟨by decide, rfl, rfl⟩ ?_
              refine zi_iconst (pc' := 47) (v := (4 : Int32)) X dX4_wear_46 rfl rfl ?_
              exact hret _ _ _ _ dX4_wear_47 trivial h
            · replace h := zok_f h c6
              have e0 := zne (1) rfl c1
              have e1 := zne (2) rfl c2
              have e2 := zne (3) rfl c3
              have e3 := zne (4) rfl c4
              have e4 := zne (5) rfl c5
              have e5 := zne (6) rfl c6
              refine zi_tabOut (pc' := 52) X (by omega) dX4_wear_4 rfl ?_
              refine zi_iconst (pc' := 53) (v := (1 : Int32)) X dX4_wear_52 rfl rfl ?_
              exact hret _ _ _ _ dX4_wear_53 trivial h
def fX4_becomeLike (a0 : Nat) (a1 : Nat) (μ : zMem) : Option (Unit × zMem) :=
  zgd ((¬ (0 : Int32) < 0 ∧ ¬ (0 : Int32) < 0 ∧ ¬ (4 : Int32) < 0) ∧ ((0 : Int32)).toNatClampNeg + ((4 : Int32)).toNatClampNeg ≤ 4 ∧ ((0 : Int32)).toNatClampNeg + ((4 : Int32)).toNatClampNeg ≤ 4) (
  some ((), (zrow (zst (zst (zst μ a0 0 (μ a1 0)) a0 1 ((zst μ a0 0 (μ a1 0)) a1 1)) a0 2 ((zst (zst μ a0 0 (μ a1 0)) a0 1 ((zst μ a0 0 (μ a1 0)) a1 1)) a1 2)) (a0 + 1) (va_cpy ((zst (zst (zst μ a0 0 (μ a1 0)) a0 1 ((zst μ a0 0 (μ a1 0)) a1 1)) a0 2 ((zst (zst μ a0 0 (μ a1 0)) a0 1 ((zst μ a0 0 (μ a1 0)) a1 1)) a1 2)) (a1 + 1)) ((zst (zst (zst μ a0 0 (μ a1 0)) a0 1 ((zst μ a0 0 (μ a1 0)) a1 1)) a0 2 ((zst (zst μ a0 0 (μ a1 0)) a0 1 ((zst μ a0 0 (μ a1 0)) a1 1)) a1 2)) (a0 + 1)) ((0 : Int32)).toNatClampNeg ((0 : Int32)).toNatClampNeg ((4 : Int32)).toNatClampNeg))))
set_option maxRecDepth 100000 in
set_option maxHeartbeats 4000000 in
theorem tX4_becomeLike (g : zG) {a0 : Nat} {a1 : Nat} {μ : zMem} {Q : Unit → zMem → Prop} (ha0 : zkd a0 = 4) (ha1 : zkd a1 = 4) (h : zok (fX4_becomeLike a0 a1 μ) Q) : zTv g yX4_becomeLike cX4_becomeLike 2 1 [.ref (zad g a0), .ref (zad g a1)] μ Q := by
  refine zTv_of RX4 (by decide) rfl (Nat.le_of_ble_eq_true rfl) ?_
  intro κ X hret
  unfold fX4_becomeLike at h
  refine zi_aload_n (pc' := 1) X dX4_becomeLike_0 rfl rfl 0 rfl ?_
  refine zi_aload_n (pc' := 2) X dX4_becomeLike_1 rfl rfl 1 rfl ?_
  refine zi_geti (pc' := 5) X zf_X4_9 rfl (by decide) ha1 dX4_becomeLike_2 rfl ?_
  refine zi_put (pc' := 8) X zf_X4_9 zw_4_0 rfl (by decide) ha0 rfl rfl dX4_becomeLike_5 rfl ?_
  refine zi_aload_n (pc' := 9) X dX4_becomeLike_8 rfl rfl 0 rfl ?_
  refine zi_aload_n (pc' := 10) X dX4_becomeLike_9 rfl rfl 1 rfl ?_
  refine zi_geti (pc' := 13) X zf_X4_15 rfl (by decide) ha1 dX4_becomeLike_10 rfl ?_
  refine zi_put (pc' := 16) X zf_X4_15 zw_4_1 rfl (by decide) ha0 rfl rfl dX4_becomeLike_13 rfl ?_
  refine zi_aload_n (pc' := 17) X dX4_becomeLike_16 rfl rfl 0 rfl ?_
  refine zi_aload_n (pc' := 18) X dX4_becomeLike_17 rfl rfl 1 rfl ?_
  refine zi_geti (pc' := 21) X zf_X4_18 rfl (by decide) ha1 dX4_becomeLike_18 rfl ?_
  refine zi_put (pc' := 24) X zf_X4_18 zw_4_2 rfl (by decide) ha0 rfl rfl dX4_becomeLike_21 rfl ?_
  refine zi_aload_n (pc' := 25) X dX4_becomeLike_24 rfl rfl 1 rfl ?_
  refine zi_getr (pc' := 28) X zf_X4_21 rfl (by decide) ha1 dX4_becomeLike_25 rfl ?_
  have f1 := zr_4_3 ha1
  refine zi_iconst (pc' := 29) (v := (0 : Int32)) X dX4_becomeLike_28 rfl rfl ?_
  refine zi_aload_n (pc' := 30) X dX4_becomeLike_29 rfl rfl 0 rfl ?_
  refine zi_getr (pc' := 33) X zf_X4_21 rfl (by decide) ha0 dX4_becomeLike_30 rfl ?_
  have f2 := zr_4_3 ha0
  refine zi_iconst (pc' := 34) (v := (0 : Int32)) X dX4_becomeLike_33 rfl rfl ?_
  refine zi_iconst (pc' := 35) (v := (4 : Int32)) X dX4_becomeLike_34 rfl rfl ?_
  obtain ⟨g3, h⟩ := zok_g h
  refine zi_acopy (pc' := 38) X zl_X4_31 f1.1 f2.1 (by rw [f1.2, f2.2]; exact g3) (Nat.le_of_ble_eq_true rfl) (by decide) dX4_becomeLike_35 rfl ?_
  exact hret _ _ _ dX4_becomeLike_38 h
def fX4_isUnder_4 : Nat → Int32 → Int32 → Int32 → zMem → Option (Int32 × zMem)
  | 0, _, _, _, _ => none
  | n + 1, a1, a2, a3, μ =>
    if (7 : Int32) ≤ a3 then
      some ((0 : Int32), μ)
    else
      if a2 = (-1 : Int32) then
        some ((0 : Int32), μ)
      else
        if a2 = a1 then
          some ((1 : Int32), μ)
        else
          zbd (fX4_kindAbove a2 μ) fun r1 m2 =>
          fX4_isUnder_4 n a1 r1 (a3 + (1 : Int32)) m2
set_option maxRecDepth 100000 in
theorem lX4_isUnder_4 {g : zG} {κ : zK} (X : zC g κ RX4 cX4_isUnder 4 1) {Q : Int32 → zMem → Prop} (hret : ∀ pc lv r μ', decode cX4_isUnder pc = .ok (.ireturn, 1) → (r = 0 ∨ r = 1) → Q r μ' → zV g κ pc lv [.int r] μ') : ∀ (n : Nat) (a1 : Int32) (a2 : Int32) (a3 : Int32) (μ : zMem), zok (fX4_isUnder_4 n a1 a2 a3 μ) Q → zV g κ 4 [(1, .int a1), (2, .int a2), (3, .int a3)] [] μ := by
  intro n
  induction n with
  | zero =>
    intro a1 a2 a3 μ h
    exact h.elim
  | succ n ih =>
    intro a1 a2 a3 μ h
    rw [fX4_isUnder_4] at h
    refine zi_iload_n (pc' := 5) X dX4_isUnder_4 rfl rfl 2 rfl ?_
    refine zi_bipush (pc' := 7) (v := (7 : Int32)) X dX4_isUnder_5 rfl rfl ?_
    refine zi_icmp_ge (pc' := 10) (tgt := 33) X dX4_isUnder_7 rfl rfl (fun c => ?_) (fun c => ?_)
    · replace h := zok_t h c
      refine zi_iconst (pc' := 34) (v := (0 : Int32)) X dX4_isUnder_33 rfl rfl ?_
      exact hret _ _ _ _ dX4_isUnder_34 (by decide) h
    · replace h := zok_f h c
      refine zi_iload_n (pc' := 11) X dX4_isUnder_10 rfl rfl 1 rfl ?_
      refine zi_iconst (pc' := 12) (v := (-1 : Int32)) X dX4_isUnder_11 rfl rfl ?_
      refine zi_icmp_eq (pc' := 15) (tgt := 33) X dX4_isUnder_12 rfl rfl (fun c => ?_) (fun c => ?_)
      · replace h := zok_t h c
        refine zi_iconst (pc' := 34) (v := (0 : Int32)) X dX4_isUnder_33 rfl rfl ?_
        exact hret _ _ _ _ dX4_isUnder_34 (by decide) h
      · replace h := zok_f h c
        refine zi_iload_n (pc' := 16) X dX4_isUnder_15 rfl rfl 1 rfl ?_
        refine zi_iload_n (pc' := 17) X dX4_isUnder_16 rfl rfl 0 rfl ?_
        refine zi_icmp_ne (pc' := 20) (tgt := 22) X dX4_isUnder_17 rfl rfl (fun c => ?_) (fun c => ?_)
        · replace h := zok_f h c
          refine zi_iload_n (pc' := 23) X dX4_isUnder_22 rfl rfl 1 rfl ?_
          refine zi_callSi (pc' := 26) X zl_X4_68 [.int a2] rfl rfl (by decide) (Nat.le_of_ble_eq_true rfl) dX4_isUnder_23 rfl (tX4_kindAbove _ (zok_bd h (fun r1 m2 h => ?_)))
          refine zi_istore_n (pc' := 27) X dX4_isUnder_26 rfl rfl (by decide) [(2, .int r1), (1, .int a1), (3, .int a3)] rfl ?_
          refine zi_iinc (pc' := 30) (v := (a3 + (1 : Int32))) X dX4_isUnder_27 rfl 2 rfl rfl (by decide) [(3, .int (a3 + (1 : Int32))), (2, .int r1), (1, .int a1)] rfl ?_
          refine zi_goto (pc' := 4) X dX4_isUnder_30 rfl ?_
          exact zi_sub X [2, 1, 0] _ rfl (ih a1 r1 (a3 + (1 : Int32)) (m2) h)
        · replace h := zok_t h c
          refine zi_iconst (pc' := 21) (v := (1 : Int32)) X dX4_isUnder_20 rfl rfl ?_
          exact hret _ _ _ _ dX4_isUnder_21 (by decide) h
def fX4_isUnder (a0 : Int32) (a1 : Int32) (μ : zMem) : Option (Int32 × zMem) :=
  fX4_isUnder_4 200 a1 a0 (0 : Int32) μ
set_option maxRecDepth 100000 in
set_option maxHeartbeats 4000000 in
theorem tX4_isUnder (g : zG) {a0 : Int32} {a1 : Int32} {μ : zMem} {Q : Int32 → zMem → Prop} (h : zok (fX4_isUnder a0 a1 μ) Q) : zTi g yX4_isUnder cX4_isUnder 4 .boolean 1 [.int a0, .int a1] μ Q := by
  refine zTi_of (P := fun r => r = 0 ∨ r = 1) zpb RX4 (by decide) rfl (Nat.le_of_ble_eq_true rfl) ?_
  intro κ X hret
  unfold fX4_isUnder at h
  refine zi_iload_n (pc' := 1) X dX4_isUnder_0 rfl rfl 0 rfl ?_
  refine zi_istore_n (pc' := 2) X dX4_isUnder_1 rfl rfl (by decide) [(2, .int a0), (0, .int a0), (1, .int a1)] rfl ?_
  refine zi_iconst (pc' := 3) (v := (0 : Int32)) X dX4_isUnder_2 rfl rfl ?_
  refine zi_istore_n (pc' := 4) X dX4_isUnder_3 rfl rfl (by decide) [(3, .int (0 : Int32)), (2, .int a0), (0, .int a0), (1, .int a1)] rfl ?_
  exact zi_sub X [3, 1, 0] _ rfl (lX4_isUnder_4 X hret 200 a1 a0 (0 : Int32) (μ) h)
def fX4_keepsNear_2 : Nat → Nat → Int32 → Int32 → Int32 → zMem → Option (Int32 × zMem)
  | 0, _, _, _, _, _ => none
  | n + 1, a0, a1, a2, a3, μ =>
    if (4 : Int32) ≤ a3 then
      some ((1 : Int32), μ)
    else
      zgd (zib a3 4) (
      if (μ (a0 + 1) (a3).toNatClampNeg) = (-1 : Int32) then
        some ((0 : Int32), μ)
      else
        zgd (zib a3 4) (
        if (if 0 ≤ ((μ (a0 + 1) (a3).toNatClampNeg) - a1) then ((μ (a0 + 1) (a3).toNatClampNeg) - a1) else 0 - ((μ (a0 + 1) (a3).toNatClampNeg) - a1)) ≤ a2 then
          fX4_keepsNear_2 n a0 a1 a2 (a3 + (1 : Int32)) μ
        else
          some ((0 : Int32), μ)))
set_option maxRecDepth 100000 in
theorem lX4_keepsNear_2 {g : zG} {κ : zK} (X : zC g κ RX4 cX4_keepsNear 4 1) {Q : Int32 → zMem → Prop} (hret : ∀ pc lv r μ', decode cX4_keepsNear pc = .ok (.ireturn, 1) → (r = 0 ∨ r = 1) → Q r μ' → zV g κ pc lv [.int r] μ') : ∀ (n : Nat) (a0 : Nat) (a1 : Int32) (a2 : Int32) (a3 : Int32) (μ : zMem) (ha0 : zkd a0 = 4), zok (fX4_keepsNear_2 n a0 a1 a2 a3 μ) Q → zV g κ 2 [(0, .ref (zad g a0)), (1, .int a1), (2, .int a2), (3, .int a3)] [] μ := by
  intro n
  induction n with
  | zero =>
    intro a0 a1 a2 a3 μ ha0 h
    exact h.elim
  | succ n ih =>
    intro a0 a1 a2 a3 μ ha0 h
    rw [fX4_keepsNear_2] at h
    refine zi_iload_n (pc' := 3) X dX4_keepsNear_2 rfl rfl 3 rfl ?_
    refine zi_iconst (pc' := 4) (v := (4 : Int32)) X dX4_keepsNear_3 rfl rfl ?_
    refine zi_icmp_ge (pc' := 7) (tgt := 40) X dX4_keepsNear_4 rfl rfl (fun c => ?_) (fun c => ?_)
    · replace h := zok_t h c
      refine zi_iconst (pc' := 41) (v := (1 : Int32)) X dX4_keepsNear_40 rfl rfl ?_
      exact hret _ _ _ _ dX4_keepsNear_41 (by decide) h
    · replace h := zok_f h c
      refine zi_aload_n (pc' := 8) X dX4_keepsNear_7 rfl rfl 0 rfl ?_
      refine zi_getr (pc' := 11) X zf_X4_21 rfl (by decide) ha0 dX4_keepsNear_8 rfl ?_
      have f1 := zr_4_3 ha0
      refine zi_iload_n (pc' := 12) X dX4_keepsNear_11 rfl rfl 3 rfl ?_
      obtain ⟨g2, h⟩ := zok_g h
      refine zi_iald (pc' := 13) X f1.1 (by rw [f1.2]; exact g2) dX4_keepsNear_12 rfl ?_
      refine zi_iconst (pc' := 14) (v := (-1 : Int32)) X dX4_keepsNear_13 rfl rfl ?_
      refine zi_icmp_eq (pc' := 17) (tgt := 32) X dX4_keepsNear_14 rfl rfl (fun c => ?_) (fun c => ?_)
      · replace h := zok_t h c
        refine zi_iconst (pc' := 33) (v := (0 : Int32)) X dX4_keepsNear_32 rfl rfl ?_
        exact hret _ _ _ _ dX4_keepsNear_33 (by decide) h
      · replace h := zok_f h c
        refine zi_aload_n (pc' := 18) X dX4_keepsNear_17 rfl rfl 0 rfl ?_
        refine zi_getr (pc' := 21) X zf_X4_21 rfl (by decide) ha0 dX4_keepsNear_18 rfl ?_
        have f3 := zr_4_3 ha0
        refine zi_iload_n (pc' := 22) X dX4_keepsNear_21 rfl rfl 3 rfl ?_
        obtain ⟨g4, h⟩ := zok_g h
        refine zi_iald (pc' := 23) X f3.1 (by rw [f3.2]; exact g4) dX4_keepsNear_22 rfl ?_
        refine zi_iload_n (pc' := 24) X dX4_keepsNear_23 rfl rfl 1 rfl ?_
        refine zi_isub (pc' := 25) X dX4_keepsNear_24 rfl ?_
        refine zi_mabs (pc' := 28) X zl_X4_55 (Nat.le_of_ble_eq_true rfl) (by decide) dX4_keepsNear_25 rfl ?_
        refine zi_iload_n (pc' := 29) X dX4_keepsNear_28 rfl rfl 2 rfl ?_
        refine zi_icmp_le (pc' := 32) (tgt := 34) X dX4_keepsNear_29 rfl rfl (fun c => ?_) (fun c => ?_)
        · replace h := zok_t h c
          refine zi_iinc (pc' := 37) (v := (a3 + (1 : Int32))) X dX4_keepsNear_34 rfl 3 rfl rfl (by decide) [(3, .int (a3 + (1 : Int32))), (0, .ref (zad g a0)), (1, .int a1), (2, .int a2)] rfl ?_
          refine zi_goto (pc' := 2) X dX4_keepsNear_37 rfl ?_
          exact zi_sub X [1, 2, 3, 0] _ rfl (ih a0 a1 a2 (a3 + (1 : Int32)) (μ) ha0 h)
        · replace h := zok_f h c
          refine zi_iconst (pc' := 33) (v := (0 : Int32)) X dX4_keepsNear_32 rfl rfl ?_
          exact hret _ _ _ _ dX4_keepsNear_33 (by decide) h
def fX4_keepsNear (a0 : Nat) (a1 : Int32) (a2 : Int32) (μ : zMem) : Option (Int32 × zMem) :=
  fX4_keepsNear_2 200 a0 a1 a2 (0 : Int32) μ
set_option maxRecDepth 100000 in
set_option maxHeartbeats 4000000 in
theorem tX4_keepsNear (g : zG) {a0 : Nat} {a1 : Int32} {a2 : Int32} {μ : zMem} {Q : Int32 → zMem → Prop} (ha0 : zkd a0 = 4) (h : zok (fX4_keepsNear a0 a1 a2 μ) Q) : zTi g yX4_keepsNear cX4_keepsNear 4 .boolean 1 [.ref (zad g a0), .int a1, .int a2] μ Q := by
  refine zTi_of (P := fun r => r = 0 ∨ r = 1) zpb RX4 (by decide) rfl (Nat.le_of_ble_eq_true rfl) ?_
  intro κ X hret
  unfold fX4_keepsNear at h
  refine zi_iconst (pc' := 1) (v := (0 : Int32)) X dX4_keepsNear_0 rfl rfl ?_
  refine zi_istore_n (pc' := 2) X dX4_keepsNear_1 rfl rfl (by decide) [(3, .int (0 : Int32)), (0, .ref (zad g a0)), (1, .int a1), (2, .int a2)] rfl ?_
  exact zi_sub X [1, 2, 3, 0] _ rfl (lX4_keepsNear_2 X hret 200 a0 a1 a2 (0 : Int32) (μ) ha0 h)
def fX4_pressed (a0 : Nat) (a1 : Int32) (a2 : Int32) (μ : zMem) : Option (Int32 × zMem) :=
  if (μ a0 0) = (1 : Int32) then
    some (a1, μ)
  else
    if (μ a0 0) = (2 : Int32) then
      some (a2, μ)
    else
      if (μ a0 0) = (3 : Int32) then
        zbd (fX4_patchedPress a1 a2 μ) fun r1 m2 =>
        some (r1, m2)
      else
        if (μ a0 0) = (4 : Int32) then
          zbd (fX4_patchedPress a1 a2 μ) fun r3 m4 =>
          some ((if (r3 + (3 : Int32)) < (99 : Int32) then (r3 + (3 : Int32)) else (99 : Int32)), m4)
        else
          if (μ a0 0) = (5 : Int32) then
            some (((a1 + ((3 : Int32) * a2)) / (4 : Int32)), μ)
          else
            if (μ a0 0) = (6 : Int32) then
              some ((if (a1 + (1 : Int32)) < (99 : Int32) then (a1 + (1 : Int32)) else (99 : Int32)), μ)
            else
              some (((a1 + a2) / (2 : Int32)), μ)
set_option maxRecDepth 100000 in
set_option maxHeartbeats 4000000 in
theorem tX4_pressed (g : zG) {a0 : Nat} {a1 : Int32} {a2 : Int32} {μ : zMem} {Q : Int32 → zMem → Prop} (ha0 : zkd a0 = 4) (h : zok (fX4_pressed a0 a1 a2 μ) Q) : zTi g yX4_pressed cX4_pressed 3 .int 1 [.ref (zad g a0), .int a1, .int a2] μ Q := by
  refine zTi_of (P := fun r => True) zpi RX4 (by decide) rfl (Nat.le_of_ble_eq_true rfl) ?_
  intro κ X hret
  unfold fX4_pressed at h
  refine zi_aload_n (pc' := 1) X dX4_pressed_0 rfl rfl 0 rfl ?_
  refine zi_geti (pc' := 4) X zf_X4_9 rfl (by decide) ha0 dX4_pressed_1 rfl ?_
  by_cases c1 : (μ a0 0) = (1 : Int32)
  · replace h := zok_t h c1
    refine zi_tabIn (pc' := 44) X c1 dX4_pressed_4 ⟨by decide, rfl, rfl⟩ ?_
    refine zi_iload_n (pc' := 45) X dX4_pressed_44 rfl rfl 1 rfl ?_
    exact hret _ _ _ _ dX4_pressed_45 trivial h
  · replace h := zok_f h c1
    by_cases c2 : (μ a0 0) = (2 : Int32)
    · replace h := zok_t h c2
      refine zi_tabIn (pc' := 55) X c2 dX4_pressed_4 ⟨by decide, rfl, rfl⟩ ?_
      refine zi_iload_n (pc' := 56) X dX4_pressed_55 rfl rfl 2 rfl ?_
      exact hret _ _ _ _ dX4_pressed_56 trivial h
    · replace h := zok_f h c2
      by_cases c3 : (μ a0 0) = (3 : Int32)
      · replace h := zok_t h c3
        refine zi_tabIn (pc' := 57) X c3 dX4_pressed_4 ⟨by decide, rfl, rfl⟩ ?_
        refine zi_iload_n (pc' := 58) X dX4_pressed_57 rfl rfl 1 rfl ?_
        refine zi_iload_n (pc' := 59) X dX4_pressed_58 rfl rfl 2 rfl ?_
        refine zi_callSi (pc' := 62) X zl_X4_65 [.int a1, .int a2] rfl rfl (by decide) (Nat.le_of_ble_eq_true rfl) dX4_pressed_59 rfl (tX4_patchedPress _ (zok_bd h (fun r1 m2 h => ?_)))
        exact hret _ _ _ _ dX4_pressed_62 trivial h
      · replace h := zok_f h c3
        by_cases c4 : (μ a0 0) = (4 : Int32)
        · replace h := zok_t h c4
          refine zi_tabIn (pc' := 63) X c4 dX4_pressed_4 ⟨by decide, rfl, rfl⟩ ?_
          refine zi_bipush (pc' := 65) (v := (99 : Int32)) X dX4_pressed_63 rfl rfl ?_
          refine zi_iload_n (pc' := 66) X dX4_pressed_65 rfl rfl 1 rfl ?_
          refine zi_iload_n (pc' := 67) X dX4_pressed_66 rfl rfl 2 rfl ?_
          refine zi_callSi (pc' := 70) X zl_X4_65 [.int a1, .int a2] rfl rfl (by decide) (Nat.le_of_ble_eq_true rfl) dX4_pressed_67 rfl (tX4_patchedPress _ (zok_bd h (fun r3 m4 h => ?_)))
          refine zi_iconst (pc' := 71) (v := (3 : Int32)) X dX4_pressed_70 rfl rfl ?_
          refine zi_iadd (pc' := 72) X dX4_pressed_71 rfl ?_
          refine zi_mmin (pc' := 75) X zl_X4_61 (Nat.le_of_ble_eq_true rfl) (by decide) dX4_pressed_72 rfl ?_
          exact hret _ _ _ _ dX4_pressed_75 trivial h
        · replace h := zok_f h c4
          by_cases c5 : (μ a0 0) = (5 : Int32)
          · replace h := zok_t h c5
            refine zi_tabIn (pc' := 76) X c5 dX4_pressed_4 ⟨by decide, rfl, rfl⟩ ?_
            refine zi_iload_n (pc' := 77) X dX4_pressed_76 rfl rfl 1 rfl ?_
            refine zi_iconst (pc' := 78) (v := (3 : Int32)) X dX4_pressed_77 rfl rfl ?_
            refine zi_iload_n (pc' := 79) X dX4_pressed_78 rfl rfl 2 rfl ?_
            refine zi_imul (pc' := 80) X dX4_pressed_79 rfl ?_
            refine zi_iadd (pc' := 81) X dX4_pressed_80 rfl ?_
            refine zi_iconst (pc' := 82) (v := (4 : Int32)) X dX4_pressed_81 rfl rfl ?_
            refine zi_idiv (pc' := 83) X dX4_pressed_82 rfl (by decide) ?_
            exact hret _ _ _ _ dX4_pressed_83 trivial h
          · replace h := zok_f h c5
            by_cases c6 : (μ a0 0) = (6 : Int32)
            · replace h := zok_t h c6
              refine zi_tabIn (pc' := 46) X c6 dX4_pressed_4 ⟨by decide, rfl, rfl⟩ ?_
              refine zi_bipush (pc' := 48) (v := (99 : Int32)) X dX4_pressed_46 rfl rfl ?_
              refine zi_iload_n (pc' := 49) X dX4_pressed_48 rfl rfl 1 rfl ?_
              refine zi_iconst (pc' := 50) (v := (1 : Int32)) X dX4_pressed_49 rfl rfl ?_
              refine zi_iadd (pc' := 51) X dX4_pressed_50 rfl ?_
              refine zi_mmin (pc' := 54) X zl_X4_61 (Nat.le_of_ble_eq_true rfl) (by decide) dX4_pressed_51 rfl ?_
              exact hret _ _ _ _ dX4_pressed_54 trivial h
            · replace h := zok_f h c6
              have e0 := zne (1) rfl c1
              have e1 := zne (2) rfl c2
              have e2 := zne (3) rfl c3
              have e3 := zne (4) rfl c4
              have e4 := zne (5) rfl c5
              have e5 := zne (6) rfl c6
              refine zi_tabOut (pc' := 84) X (by omega) dX4_pressed_4 rfl ?_
              refine zi_iload_n (pc' := 85) X dX4_pressed_84 rfl rfl 1 rfl ?_
              refine zi_iload_n (pc' := 86) X dX4_pressed_85 rfl rfl 2 rfl ?_
              refine zi_iadd (pc' := 87) X dX4_pressed_86 rfl ?_
              refine zi_iconst (pc' := 88) (v := (2 : Int32)) X dX4_pressed_87 rfl rfl ?_
              refine zi_idiv (pc' := 89) X dX4_pressed_88 rfl (by decide) ?_
              exact hret _ _ _ _ dX4_pressed_89 trivial h
def fX4_renew (a0 : Nat) (a1 : Int32) (μ : zMem) : Option (Unit × zMem) :=
  zbd (fJ7_fill_53178 (a0 + 1) (-1 : Int32) (zst (zst (zst μ a0 0 a1) a0 1 (-1 : Int32)) a0 2 (0 : Int32))) fun _ m3 =>
  some ((), m3)
set_option maxRecDepth 100000 in
set_option maxHeartbeats 4000000 in
theorem tX4_renew (g : zG) {a0 : Nat} {a1 : Int32} {μ : zMem} {Q : Unit → zMem → Prop} (ha0 : zkd a0 = 4) (h : zok (fX4_renew a0 a1 μ) Q) : zTv g yX4_renew cX4_renew 2 1 [.ref (zad g a0), .int a1] μ Q := by
  refine zTv_of RX4 (by decide) rfl (Nat.le_of_ble_eq_true rfl) ?_
  intro κ X hret
  unfold fX4_renew at h
  refine zi_aload_n (pc' := 1) X dX4_renew_0 rfl rfl 0 rfl ?_
  refine zi_iload_n (pc' := 2) X dX4_renew_1 rfl rfl 1 rfl ?_
  refine zi_put (pc' := 5) X zf_X4_9 zw_4_0 rfl (by decide) ha0 rfl rfl dX4_renew_2 rfl ?_
  refine zi_aload_n (pc' := 6) X dX4_renew_5 rfl rfl 0 rfl ?_
  refine zi_iconst (pc' := 7) (v := (-1 : Int32)) X dX4_renew_6 rfl rfl ?_
  refine zi_put (pc' := 10) X zf_X4_15 zw_4_1 rfl (by decide) ha0 rfl rfl dX4_renew_7 rfl ?_
  refine zi_aload_n (pc' := 11) X dX4_renew_10 rfl rfl 0 rfl ?_
  refine zi_iconst (pc' := 12) (v := (0 : Int32)) X dX4_renew_11 rfl rfl ?_
  refine zi_put (pc' := 15) X zf_X4_18 zw_4_2 rfl (by decide) ha0 rfl rfl dX4_renew_12 rfl ?_
  refine zi_aload_n (pc' := 16) X dX4_renew_15 rfl rfl 0 rfl ?_
  refine zi_getr (pc' := 19) X zf_X4_21 rfl (by decide) ha0 dX4_renew_16 rfl ?_
  have f1 := zr_4_3 ha0
  refine zi_iconst (pc' := 20) (v := (-1 : Int32)) X dX4_renew_19 rfl rfl ?_
  refine zi_callSv (pc' := 23) X zl_X4_25 [.ref (zad g (a0 + 1)), .int (-1 : Int32)] rfl rfl (by decide) (Nat.le_of_ble_eq_true rfl) dX4_renew_20 rfl (tJ7_fill_53178 _ f1.1 (zok_bd h (fun _ m3 h => ?_)))
  exact hret _ _ _ dX4_renew_23 h
def fX4_setTrait (a0 : Nat) (a1 : Int32) (a2 : Int32) (μ : zMem) : Option (Unit × zMem) :=
  if a1 = (0 : Int32) then
    some ((), (zst μ a0 0 a2))
  else
    if a1 = (1 : Int32) then
      some ((), (zst μ a0 1 a2))
    else
      if a1 = (2 : Int32) then
        some ((), (zst μ a0 2 a2))
      else
        zbd (fX5_within a1 (4 : Int32) (7 : Int32) μ) fun r1 m2 =>
        if r1 = 0 then
          some ((), m2)
        else
          zgd (zib (a1 - (4 : Int32)) 4) (
          some ((), (zst m2 (a0 + 1) ((a1 - (4 : Int32))).toNatClampNeg a2)))
set_option maxRecDepth 100000 in
set_option maxHeartbeats 4000000 in
theorem tX4_setTrait (g : zG) {a0 : Nat} {a1 : Int32} {a2 : Int32} {μ : zMem} {Q : Unit → zMem → Prop} (ha0 : zkd a0 = 4) (h : zok (fX4_setTrait a0 a1 a2 μ) Q) : zTv g yX4_setTrait cX4_setTrait 3 1 [.ref (zad g a0), .int a1, .int a2] μ Q := by
  refine zTv_of RX4 (by decide) rfl (Nat.le_of_ble_eq_true rfl) ?_
  intro κ X hret
  unfold fX4_setTrait at h
  refine zi_iload_n (pc' := 1) X dX4_setTrait_0 rfl rfl 1 rfl ?_
  by_cases c0 : a1 = (0 : Int32)
  · replace h := zok_t h c0
    refine zi_tabIn (pc' := 28) X c0 dX4_setTrait_1 ⟨by decide, rfl, rfl⟩ ?_
    refine zi_aload_n (pc' := 29) X dX4_setTrait_28 rfl rfl 0 rfl ?_
    refine zi_iload_n (pc' := 30) X dX4_setTrait_29 rfl rfl 2 rfl ?_
    refine zi_put (pc' := 33) X zf_X4_9 zw_4_0 rfl (by decide) ha0 rfl rfl dX4_setTrait_30 rfl ?_
    refine zi_goto (pc' := 71) X dX4_setTrait_33 rfl ?_
    exact hret _ _ _ dX4_setTrait_71 h
  · replace h := zok_f h c0
    by_cases c1 : a1 = (1 : Int32)
    · replace h := zok_t h c1
      refine zi_tabIn (pc' := 36) X c1 dX4_setTrait_1 ⟨by decide, rfl, rfl⟩ ?_
      refine zi_aload_n (pc' := 37) X dX4_setTrait_36 rfl rfl 0 rfl ?_
      refine zi_iload_n (pc' := 38) X dX4_setTrait_37 rfl rfl 2 rfl ?_
      refine zi_put (pc' := 41) X zf_X4_15 zw_4_1 rfl (by decide) ha0 rfl rfl dX4_setTrait_38 rfl ?_
      refine zi_goto (pc' := 71) X dX4_setTrait_41 rfl ?_
      exact hret _ _ _ dX4_setTrait_71 h
    · replace h := zok_f h c1
      by_cases c2 : a1 = (2 : Int32)
      · replace h := zok_t h c2
        refine zi_tabIn (pc' := 44) X c2 dX4_setTrait_1 ⟨by decide, rfl, rfl⟩ ?_
        refine zi_aload_n (pc' := 45) X dX4_setTrait_44 rfl rfl 0 rfl ?_
        refine zi_iload_n (pc' := 46) X dX4_setTrait_45 rfl rfl 2 rfl ?_
        refine zi_put (pc' := 49) X zf_X4_18 zw_4_2 rfl (by decide) ha0 rfl rfl dX4_setTrait_46 rfl ?_
        refine zi_goto (pc' := 71) X dX4_setTrait_49 rfl ?_
        exact hret _ _ _ dX4_setTrait_71 h
      · replace h := zok_f h c2
        have e0 := zne (0) rfl c0
        have e1 := zne (1) rfl c1
        have e2 := zne (2) rfl c2
        refine zi_tabOut (pc' := 52) X (by omega) dX4_setTrait_1 rfl ?_
        refine zi_iload_n (pc' := 53) X dX4_setTrait_52 rfl rfl 1 rfl ?_
        refine zi_iconst (pc' := 54) (v := (4 : Int32)) X dX4_setTrait_53 rfl rfl ?_
        refine zi_bipush (pc' := 56) (v := (7 : Int32)) X dX4_setTrait_54 rfl rfl ?_
        refine zi_callSi (pc' := 59) X zl_X4_45 [.int a1, .int (4 : Int32), .int (7 : Int32)] rfl rfl (by decide) (Nat.le_of_ble_eq_true rfl) dX4_setTrait_56 rfl (tX5_within _ (zok_bd h (fun r1 m2 h => ?_)))
        refine zi_if_eq (pc' := 62) (tgt := 71) X dX4_setTrait_59 rfl rfl (fun c => ?_) (fun c => ?_)
        · replace h := zok_t h c
          exact hret _ _ _ dX4_setTrait_71 h
        · replace h := zok_f h c
          refine zi_aload_n (pc' := 63) X dX4_setTrait_62 rfl rfl 0 rfl ?_
          refine zi_getr (pc' := 66) X zf_X4_21 rfl (by decide) ha0 dX4_setTrait_63 rfl ?_
          have f3 := zr_4_3 ha0
          refine zi_iload_n (pc' := 67) X dX4_setTrait_66 rfl rfl 1 rfl ?_
          refine zi_iconst (pc' := 68) (v := (4 : Int32)) X dX4_setTrait_67 rfl rfl ?_
          refine zi_isub (pc' := 69) X dX4_setTrait_68 rfl ?_
          refine zi_iload_n (pc' := 70) X dX4_setTrait_69 rfl rfl 2 rfl ?_
          obtain ⟨g4, h⟩ := zok_g h
          refine zi_iast (pc' := 71) X f3.1 (by rw [f3.2]; exact g4) dX4_setTrait_70 rfl ?_
          exact hret _ _ _ dX4_setTrait_71 h
def fX4_taken (a0 : Nat) (a1 : Int32) (a2 : Int32) (μ : zMem) : Option (Int32 × zMem) :=
  if (μ a0 0) = (1 : Int32) then
    some (a1, μ)
  else
    if (μ a0 0) = (2 : Int32) then
      some (a2, μ)
    else
      if (μ a0 0) = (3 : Int32) then
        some (((a1 + a2) / (2 : Int32)), μ)
      else
        if (μ a0 0) = (4 : Int32) then
          some ((if (((a2 + a1) / (2 : Int32)) + (1 : Int32)) < (99 : Int32) then (((a2 + a1) / (2 : Int32)) + (1 : Int32)) else (99 : Int32)), μ)
        else
          if (μ a0 0) = (5 : Int32) then
            if (50 : Int32) ≤ (μ a0 2) then
              some (a2, μ)
            else
              some (a1, μ)
          else
            if (μ a0 0) = (6 : Int32) then
              some (a1, μ)
            else
              some (((a1 + a2) / (2 : Int32)), μ)
set_option maxRecDepth 100000 in
set_option maxHeartbeats 4000000 in
theorem tX4_taken (g : zG) {a0 : Nat} {a1 : Int32} {a2 : Int32} {μ : zMem} {Q : Int32 → zMem → Prop} (ha0 : zkd a0 = 4) (h : zok (fX4_taken a0 a1 a2 μ) Q) : zTi g yX4_taken cX4_taken 3 .int 1 [.ref (zad g a0), .int a1, .int a2] μ Q := by
  refine zTi_of (P := fun r => True) zpi RX4 (by decide) rfl (Nat.le_of_ble_eq_true rfl) ?_
  intro κ X hret
  unfold fX4_taken at h
  refine zi_aload_n (pc' := 1) X dX4_taken_0 rfl rfl 0 rfl ?_
  refine zi_geti (pc' := 4) X zf_X4_9 rfl (by decide) ha0 dX4_taken_1 rfl ?_
  by_cases c1 : (μ a0 0) = (1 : Int32)
  · replace h := zok_t h c1
    refine zi_tabIn (pc' := 44) X c1 dX4_taken_4 ⟨by decide, rfl, rfl⟩ ?_
    refine zi_iload_n (pc' := 45) X dX4_taken_44 rfl rfl 1 rfl ?_
    exact hret _ _ _ _ dX4_taken_45 trivial h
  · replace h := zok_f h c1
    by_cases c2 : (μ a0 0) = (2 : Int32)
    · replace h := zok_t h c2
      refine zi_tabIn (pc' := 48) X c2 dX4_taken_4 ⟨by decide, rfl, rfl⟩ ?_
      refine zi_iload_n (pc' := 49) X dX4_taken_48 rfl rfl 2 rfl ?_
      exact hret _ _ _ _ dX4_taken_49 trivial h
    · replace h := zok_f h c2
      by_cases c3 : (μ a0 0) = (3 : Int32)
      · replace h := zok_t h c3
        refine zi_tabIn (pc' := 78) X c3 dX4_taken_4 ⟨by decide, rfl, rfl⟩ ?_
        refine zi_iload_n (pc' := 79) X dX4_taken_78 rfl rfl 1 rfl ?_
        refine zi_iload_n (pc' := 80) X dX4_taken_79 rfl rfl 2 rfl ?_
        refine zi_iadd (pc' := 81) X dX4_taken_80 rfl ?_
        refine zi_iconst (pc' := 82) (v := (2 : Int32)) X dX4_taken_81 rfl rfl ?_
        refine zi_idiv (pc' := 83) X dX4_taken_82 rfl (by decide) ?_
        exact hret _ _ _ _ dX4_taken_83 trivial h
      · replace h := zok_f h c3
        by_cases c4 : (μ a0 0) = (4 : Int32)
        · replace h := zok_t h c4
          refine zi_tabIn (pc' := 50) X c4 dX4_taken_4 ⟨by decide, rfl, rfl⟩ ?_
          refine zi_bipush (pc' := 52) (v := (99 : Int32)) X dX4_taken_50 rfl rfl ?_
          refine zi_iload_n (pc' := 53) X dX4_taken_52 rfl rfl 2 rfl ?_
          refine zi_iload_n (pc' := 54) X dX4_taken_53 rfl rfl 1 rfl ?_
          refine zi_iadd (pc' := 55) X dX4_taken_54 rfl ?_
          refine zi_iconst (pc' := 56) (v := (2 : Int32)) X dX4_taken_55 rfl rfl ?_
          refine zi_idiv (pc' := 57) X dX4_taken_56 rfl (by decide) ?_
          refine zi_iconst (pc' := 58) (v := (1 : Int32)) X dX4_taken_57 rfl rfl ?_
          refine zi_iadd (pc' := 59) X dX4_taken_58 rfl ?_
          refine zi_mmin (pc' := 62) X zl_X4_61 (Nat.le_of_ble_eq_true rfl) (by decide) dX4_taken_59 rfl ?_
          exact hret _ _ _ _ dX4_taken_62 trivial h
        · replace h := zok_f h c4
          by_cases c5 : (μ a0 0) = (5 : Int32)
          · replace h := zok_t h c5
            refine zi_tabIn (pc' := 63) X c5 dX4_taken_4 ⟨by decide, rfl, rfl⟩ ?_
            refine zi_aload_n (pc' := 64) X dX4_taken_63 rfl rfl 0 rfl ?_
            refine zi_geti (pc' := 67) X zf_X4_18 rfl (by decide) ha0 dX4_taken_64 rfl ?_
            refine zi_bipush (pc' := 69) (v := (50 : Int32)) X dX4_taken_67 rfl rfl ?_
            refine zi_icmp_ge (pc' := 72) (tgt := 76) X dX4_taken_69 rfl rfl (fun c => ?_) (fun c => ?_)
            · replace h := zok_t h c
              refine zi_iload_n (pc' := 77) X dX4_taken_76 rfl rfl 2 rfl ?_
              exact hret _ _ _ _ dX4_taken_77 trivial h
            · replace h := zok_f h c
              refine zi_iload_n (pc' := 73) X dX4_taken_72 rfl rfl 1 rfl ?_
              refine zi_goto (pc' := 77) X dX4_taken_73 rfl ?_
              exact hret _ _ _ _ dX4_taken_77 trivial h
          · replace h := zok_f h c5
            by_cases c6 : (μ a0 0) = (6 : Int32)
            · replace h := zok_t h c6
              refine zi_tabIn (pc' := 46) X c6 dX4_taken_4 ⟨by decide, rfl, rfl⟩ ?_
              refine zi_iload_n (pc' := 47) X dX4_taken_46 rfl rfl 1 rfl ?_
              exact hret _ _ _ _ dX4_taken_47 trivial h
            · replace h := zok_f h c6
              have e0 := zne (1) rfl c1
              have e1 := zne (2) rfl c2
              have e2 := zne (3) rfl c3
              have e3 := zne (4) rfl c4
              have e4 := zne (5) rfl c5
              have e5 := zne (6) rfl c6
              refine zi_tabOut (pc' := 78) X (by omega) dX4_taken_4 rfl ?_
              refine zi_iload_n (pc' := 79) X dX4_taken_78 rfl rfl 1 rfl ?_
              refine zi_iload_n (pc' := 80) X dX4_taken_79 rfl rfl 2 rfl ?_
              refine zi_iadd (pc' := 81) X dX4_taken_80 rfl ?_
              refine zi_iconst (pc' := 82) (v := (2 : Int32)) X dX4_taken_81 rfl rfl ?_
              refine zi_idiv (pc' := 83) X dX4_taken_82 rfl (by decide) ?_
              exact hret _ _ _ _ dX4_taken_83 trivial h
def fX4_trait (a0 : Nat) (a1 : Int32) (μ : zMem) : Option (Int32 × zMem) :=
  if a1 = (0 : Int32) then
    some ((μ a0 0), μ)
  else
    if a1 = (1 : Int32) then
      some ((μ a0 1), μ)
    else
      if a1 = (2 : Int32) then
        some ((μ a0 2), μ)
      else
        if a1 = (3 : Int32) then
          zbd (fX4_wear a0 μ) fun r1 m2 =>
          some (r1, m2)
        else
          zbd (fX5_within a1 (4 : Int32) (7 : Int32) μ) fun r3 m4 =>
          if r3 = 0 then
            some ((-1 : Int32), m4)
          else
            zgd (zib (a1 - (4 : Int32)) 4) (
            some ((m4 (a0 + 1) ((a1 - (4 : Int32))).toNatClampNeg), m4))
set_option maxRecDepth 100000 in
set_option maxHeartbeats 4000000 in
theorem tX4_trait (g : zG) {a0 : Nat} {a1 : Int32} {μ : zMem} {Q : Int32 → zMem → Prop} (ha0 : zkd a0 = 4) (h : zok (fX4_trait a0 a1 μ) Q) : zTi g yX4_trait cX4_trait 2 .int 1 [.ref (zad g a0), .int a1] μ Q := by
  refine zTi_of (P := fun r => True) zpi RX4 (by decide) rfl (Nat.le_of_ble_eq_true rfl) ?_
  intro κ X hret
  unfold fX4_trait at h
  refine zi_iload_n (pc' := 1) X dX4_trait_0 rfl rfl 1 rfl ?_
  by_cases c0 : a1 = (0 : Int32)
  · replace h := zok_t h c0
    refine zi_tabIn (pc' := 32) X c0 dX4_trait_1 ⟨by decide, rfl, rfl⟩ ?_
    refine zi_aload_n (pc' := 33) X dX4_trait_32 rfl rfl 0 rfl ?_
    refine zi_geti (pc' := 36) X zf_X4_9 rfl (by decide) ha0 dX4_trait_33 rfl ?_
    exact hret _ _ _ _ dX4_trait_36 trivial h
  · replace h := zok_f h c0
    by_cases c1 : a1 = (1 : Int32)
    · replace h := zok_t h c1
      refine zi_tabIn (pc' := 37) X c1 dX4_trait_1 ⟨by decide, rfl, rfl⟩ ?_
      refine zi_aload_n (pc' := 38) X dX4_trait_37 rfl rfl 0 rfl ?_
      refine zi_geti (pc' := 41) X zf_X4_15 rfl (by decide) ha0 dX4_trait_38 rfl ?_
      exact hret _ _ _ _ dX4_trait_41 trivial h
    · replace h := zok_f h c1
      by_cases c2 : a1 = (2 : Int32)
      · replace h := zok_t h c2
        refine zi_tabIn (pc' := 42) X c2 dX4_trait_1 ⟨by decide, rfl, rfl⟩ ?_
        refine zi_aload_n (pc' := 43) X dX4_trait_42 rfl rfl 0 rfl ?_
        refine zi_geti (pc' := 46) X zf_X4_18 rfl (by decide) ha0 dX4_trait_43 rfl ?_
        exact hret _ _ _ _ dX4_trait_46 trivial h
      · replace h := zok_f h c2
        by_cases c3 : a1 = (3 : Int32)
        · replace h := zok_t h c3
          refine zi_tabIn (pc' := 47) X c3 dX4_trait_1 ⟨by decide, rfl, rfl⟩ ?_
          refine zi_aload_n (pc' := 48) X dX4_trait_47 rfl rfl 0 rfl ?_
          refine zi_callVi (pc' := 51) X zl_X4_41 ha0 (by decide) [] rfl rfl (by decide) (Nat.le_of_ble_eq_true rfl) dX4_trait_48 rfl (tX4_wear _ ha0 (zok_bd h (fun r1 m2 h => ?_)))
          exact hret _ _ _ _ dX4_trait_51 trivial h
        · replace h := zok_f h c3
          have e0 := zne (0) rfl c0
          have e1 := zne (1) rfl c1
          have e2 := zne (2) rfl c2
          have e3 := zne (3) rfl c3
          refine zi_tabOut (pc' := 52) X (by omega) dX4_trait_1 rfl ?_
          refine zi_iload_n (pc' := 53) X dX4_trait_52 rfl rfl 1 rfl ?_
          refine zi_iconst (pc' := 54) (v := (4 : Int32)) X dX4_trait_53 rfl rfl ?_
          refine zi_bipush (pc' := 56) (v := (7 : Int32)) X dX4_trait_54 rfl rfl ?_
          refine zi_callSi (pc' := 59) X zl_X4_45 [.int a1, .int (4 : Int32), .int (7 : Int32)] rfl rfl (by decide) (Nat.le_of_ble_eq_true rfl) dX4_trait_56 rfl (tX5_within _ (zok_bd h (fun r3 m4 h => ?_)))
          refine zi_if_eq (pc' := 62) (tgt := 73) X dX4_trait_59 rfl rfl (fun c => ?_) (fun c => ?_)
          · replace h := zok_t h c
            refine zi_iconst (pc' := 74) (v := (-1 : Int32)) X dX4_trait_73 rfl rfl ?_
            exact hret _ _ _ _ dX4_trait_74 trivial h
          · replace h := zok_f h c
            refine zi_aload_n (pc' := 63) X dX4_trait_62 rfl rfl 0 rfl ?_
            refine zi_getr (pc' := 66) X zf_X4_21 rfl (by decide) ha0 dX4_trait_63 rfl ?_
            have f5 := zr_4_3 ha0
            refine zi_iload_n (pc' := 67) X dX4_trait_66 rfl rfl 1 rfl ?_
            refine zi_iconst (pc' := 68) (v := (4 : Int32)) X dX4_trait_67 rfl rfl ?_
            refine zi_isub (pc' := 69) X dX4_trait_68 rfl ?_
            obtain ⟨g6, h⟩ := zok_g h
            refine zi_iald (pc' := 70) X f5.1 (by rw [f5.2]; exact g6) dX4_trait_69 rfl ?_
            refine zi_goto (pc' := 74) X dX4_trait_70 rfl ?_
            exact hret _ _ _ _ dX4_trait_74 trivial h
def fX4_wearOut (a0 : Nat) (μ : zMem) : Option (Unit × zMem) :=
  zbd (fX4_wear a0 μ) fun r1 m2 =>
  some ((), (zst m2 a0 2 (if ((μ a0 2) + r1) < (99 : Int32) then ((μ a0 2) + r1) else (99 : Int32))))
set_option maxRecDepth 100000 in
set_option maxHeartbeats 4000000 in
theorem tX4_wearOut (g : zG) {a0 : Nat} {μ : zMem} {Q : Unit → zMem → Prop} (ha0 : zkd a0 = 4) (h : zok (fX4_wearOut a0 μ) Q) : zTv g yX4_wearOut cX4_wearOut 1 1 [.ref (zad g a0)] μ Q := by
  refine zTv_of RX4 (by decide) rfl (Nat.le_of_ble_eq_true rfl) ?_
  intro κ X hret
  unfold fX4_wearOut at h
  refine zi_aload_n (pc' := 1) X dX4_wearOut_0 rfl rfl 0 rfl ?_
  refine zi_bipush (pc' := 3) (v := (99 : Int32)) X dX4_wearOut_1 rfl rfl ?_
  refine zi_aload_n (pc' := 4) X dX4_wearOut_3 rfl rfl 0 rfl ?_
  refine zi_geti (pc' := 7) X zf_X4_18 rfl (by decide) ha0 dX4_wearOut_4 rfl ?_
  refine zi_aload_n (pc' := 8) X dX4_wearOut_7 rfl rfl 0 rfl ?_
  refine zi_callVi (pc' := 11) X zl_X4_41 ha0 (by decide) [] rfl rfl (by decide) (Nat.le_of_ble_eq_true rfl) dX4_wearOut_8 rfl (tX4_wear _ ha0 (zok_bd h (fun r1 m2 h => ?_)))
  refine zi_iadd (pc' := 12) X dX4_wearOut_11 rfl ?_
  refine zi_mmin (pc' := 15) X zl_X4_61 (Nat.le_of_ble_eq_true rfl) (by decide) dX4_wearOut_12 rfl ?_
  refine zi_put (pc' := 18) X zf_X4_18 zw_4_2 rfl (by decide) ha0 rfl rfl dX4_wearOut_15 rfl ?_
  exact hret _ _ _ dX4_wearOut_18 h
def fX5_isPitch (a0 : Int32) (μ : zMem) : Option (Int32 × zMem) :=
  zbd (fX5_within a0 (0 : Int32) (15 : Int32) μ) fun r1 m2 =>
  zgd (r1 = 0 ∨ r1 = 1) (
  some (r1, m2))
set_option maxRecDepth 100000 in
set_option maxHeartbeats 4000000 in
theorem tX5_isPitch (g : zG) {a0 : Int32} {μ : zMem} {Q : Int32 → zMem → Prop} (h : zok (fX5_isPitch a0 μ) Q) : zTi g yX5_isPitch cX5_isPitch 1 .boolean 1 [.int a0] μ Q := by
  refine zTi_of (P := fun r => r = 0 ∨ r = 1) zpb RX5 (by decide) rfl (Nat.le_of_ble_eq_true rfl) ?_
  intro κ X hret
  unfold fX5_isPitch at h
  refine zi_iload_n (pc' := 1) X dX5_isPitch_0 rfl rfl 0 rfl ?_
  refine zi_iconst (pc' := 2) (v := (0 : Int32)) X dX5_isPitch_1 rfl rfl ?_
  refine zi_bipush (pc' := 4) (v := (15 : Int32)) X dX5_isPitch_2 rfl rfl ?_
  refine zi_callSi (pc' := 7) X zl_X5_68 [.int a0, .int (0 : Int32), .int (15 : Int32)] rfl rfl (by decide) (Nat.le_of_ble_eq_true rfl) dX5_isPitch_4 rfl (tX5_within _ (zok_bd h (fun r1 m2 h => ?_)))
  obtain ⟨g3, h⟩ := zok_g h
  exact hret _ _ _ _ dX5_isPitch_7 g3 h
def fX4_isPitched (a0 : Nat) (μ : zMem) : Option (Int32 × zMem) :=
  zbd (fX5_isPitch (μ a0 1) μ) fun r1 m2 =>
  zgd (r1 = 0 ∨ r1 = 1) (
  some (r1, m2))
set_option maxRecDepth 100000 in
set_option maxHeartbeats 4000000 in
theorem tX4_isPitched (g : zG) {a0 : Nat} {μ : zMem} {Q : Int32 → zMem → Prop} (ha0 : zkd a0 = 4) (h : zok (fX4_isPitched a0 μ) Q) : zTi g yX4_isPitched cX4_isPitched 1 .boolean 2 [.ref (zad g a0)] μ Q := by
  refine zTi_of (P := fun r => r = 0 ∨ r = 1) zpb RX4 (by decide) rfl (Nat.le_of_ble_eq_true rfl) ?_
  intro κ X hret
  unfold fX4_isPitched at h
  refine zi_aload_n (pc' := 1) X dX4_isPitched_0 rfl rfl 0 rfl ?_
  refine zi_geti (pc' := 4) X zf_X4_15 rfl (by decide) ha0 dX4_isPitched_1 rfl ?_
  refine zi_callSi (pc' := 7) X zl_X4_37 [.int (μ a0 1)] rfl rfl (by decide) (Nat.le_of_ble_eq_true rfl) dX4_isPitched_4 rfl (tX5_isPitch _ (zok_bd h (fun r1 m2 h => ?_)))
  obtain ⟨g3, h⟩ := zok_g h
  exact hret _ _ _ _ dX4_isPitched_7 g3 h
def fX5_isKind (a0 : Int32) (μ : zMem) : Option (Int32 × zMem) :=
  zbd (fX5_within a0 (0 : Int32) (6 : Int32) μ) fun r1 m2 =>
  zgd (r1 = 0 ∨ r1 = 1) (
  some (r1, m2))
set_option maxRecDepth 100000 in
set_option maxHeartbeats 4000000 in
theorem tX5_isKind (g : zG) {a0 : Int32} {μ : zMem} {Q : Int32 → zMem → Prop} (h : zok (fX5_isKind a0 μ) Q) : zTi g yX5_isKind cX5_isKind 1 .boolean 1 [.int a0] μ Q := by
  refine zTi_of (P := fun r => r = 0 ∨ r = 1) zpb RX5 (by decide) rfl (Nat.le_of_ble_eq_true rfl) ?_
  intro κ X hret
  unfold fX5_isKind at h
  refine zi_iload_n (pc' := 1) X dX5_isKind_0 rfl rfl 0 rfl ?_
  refine zi_iconst (pc' := 2) (v := (0 : Int32)) X dX5_isKind_1 rfl rfl ?_
  refine zi_bipush (pc' := 4) (v := (6 : Int32)) X dX5_isKind_2 rfl rfl ?_
  refine zi_callSi (pc' := 7) X zl_X5_68 [.int a0, .int (0 : Int32), .int (6 : Int32)] rfl rfl (by decide) (Nat.le_of_ble_eq_true rfl) dX5_isKind_4 rfl (tX5_within _ (zok_bd h (fun r1 m2 h => ?_)))
  obtain ⟨g3, h⟩ := zok_g h
  exact hret _ _ _ _ dX5_isKind_7 g3 h
def fX5_isMeasure (a0 : Int32) (μ : zMem) : Option (Int32 × zMem) :=
  zbd (fX5_within a0 (0 : Int32) (99 : Int32) μ) fun r1 m2 =>
  zgd (r1 = 0 ∨ r1 = 1) (
  some (r1, m2))
set_option maxRecDepth 100000 in
set_option maxHeartbeats 4000000 in
theorem tX5_isMeasure (g : zG) {a0 : Int32} {μ : zMem} {Q : Int32 → zMem → Prop} (h : zok (fX5_isMeasure a0 μ) Q) : zTi g yX5_isMeasure cX5_isMeasure 1 .boolean 1 [.int a0] μ Q := by
  refine zTi_of (P := fun r => r = 0 ∨ r = 1) zpb RX5 (by decide) rfl (Nat.le_of_ble_eq_true rfl) ?_
  intro κ X hret
  unfold fX5_isMeasure at h
  refine zi_iload_n (pc' := 1) X dX5_isMeasure_0 rfl rfl 0 rfl ?_
  refine zi_iconst (pc' := 2) (v := (0 : Int32)) X dX5_isMeasure_1 rfl rfl ?_
  refine zi_bipush (pc' := 4) (v := (99 : Int32)) X dX5_isMeasure_2 rfl rfl ?_
  refine zi_callSi (pc' := 7) X zl_X5_68 [.int a0, .int (0 : Int32), .int (99 : Int32)] rfl rfl (by decide) (Nat.le_of_ble_eq_true rfl) dX5_isMeasure_4 rfl (tX5_within _ (zok_bd h (fun r1 m2 h => ?_)))
  obtain ⟨g3, h⟩ := zok_g h
  exact hret _ _ _ _ dX5_isMeasure_7 g3 h
def fX4_mayBecome (a0 : Int32) (a1 : Int32) (μ : zMem) : Option (Int32 × zMem) :=
  if a0 = (0 : Int32) then
    zbd (fX5_isKind a1 μ) fun r1 m2 =>
    zgd (r1 = 0 ∨ r1 = 1) (
    some (r1, m2))
  else
    if a0 = (1 : Int32) then
      if a1 = (-1 : Int32) then
        some ((1 : Int32), μ)
      else
        zbd (fX5_isPitch a1 μ) fun r4 m5 =>
        if r4 = 0 then
          some ((0 : Int32), m5)
        else
          some ((1 : Int32), m5)
    else
      if a0 = (2 : Int32) then
        zbd (fX5_isMeasure a1 μ) fun r6 m7 =>
        zgd (r6 = 0 ∨ r6 = 1) (
        some (r6, m7))
      else
        zbd (fX5_within a0 (4 : Int32) (7 : Int32) μ) fun r9 m10 =>
        if r9 = 0 then
          some ((0 : Int32), m10)
        else
          if a1 = (-1 : Int32) then
            some ((1 : Int32), m10)
          else
            zbd (fX5_isMeasure a1 m10) fun r11 m12 =>
            if r11 = 0 then
              some ((0 : Int32), m12)
            else
              some ((1 : Int32), m12)
set_option maxRecDepth 100000 in
set_option maxHeartbeats 4000000 in
theorem tX4_mayBecome (g : zG) {a0 : Int32} {a1 : Int32} {μ : zMem} {Q : Int32 → zMem → Prop} (h : zok (fX4_mayBecome a0 a1 μ) Q) : zTi g yX4_mayBecome cX4_mayBecome 2 .boolean 2 [.int a0, .int a1] μ Q := by
  refine zTi_of (P := fun r => r = 0 ∨ r = 1) zpb RX4 (by decide) rfl (Nat.le_of_ble_eq_true rfl) ?_
  intro κ X hret
  unfold fX4_mayBecome at h
  refine zi_iload_n (pc' := 1) X dX4_mayBecome_0 rfl rfl 0 rfl ?_
  by_cases c0 : a0 = (0 : Int32)
  · replace h := zok_t h c0
    refine zi_tabIn (pc' := 28) X c0 dX4_mayBecome_1 ⟨by decide, rfl, rfl⟩ ?_
    refine zi_iload_n (pc' := 29) X dX4_mayBecome_28 rfl rfl 1 rfl ?_
    refine zi_callSi (pc' := 32) X zl_X4_49 [.int a1] rfl rfl (by decide) (Nat.le_of_ble_eq_true rfl) dX4_mayBecome_29 rfl (tX5_isKind _ (zok_bd h (fun r1 m2 h => ?_)))
    obtain ⟨g3, h⟩ := zok_g h
    exact hret _ _ _ _ dX4_mayBecome_32 g3 h
  · replace h := zok_f h c0
    by_cases c1 : a0 = (1 : Int32)
    · replace h := zok_t h c1
      refine zi_tabIn (pc' := 33) X c1 dX4_mayBecome_1 ⟨by decide, rfl, rfl⟩ ?_
      refine zi_iload_n (pc' := 34) X dX4_mayBecome_33 rfl rfl 1 rfl ?_
      refine zi_iconst (pc' := 35) (v := (-1 : Int32)) X dX4_mayBecome_34 rfl rfl ?_
      refine zi_icmp_eq (pc' := 38) (tgt := 45) X dX4_mayBecome_35 rfl rfl (fun c => ?_) (fun c => ?_)
      · replace h := zok_t h c
        refine zi_iconst (pc' := 46) (v := (1 : Int32)) X dX4_mayBecome_45 rfl rfl ?_
        refine zi_goto (pc' := 50) X dX4_mayBecome_46 rfl ?_
        exact hret _ _ _ _ dX4_mayBecome_50 (by decide) h
      · replace h := zok_f h c
        refine zi_iload_n (pc' := 39) X dX4_mayBecome_38 rfl rfl 1 rfl ?_
        refine zi_callSi (pc' := 42) X zl_X4_37 [.int a1] rfl rfl (by decide) (Nat.le_of_ble_eq_true rfl) dX4_mayBecome_39 rfl (tX5_isPitch _ (zok_bd h (fun r4 m5 h => ?_)))
        refine zi_if_eq (pc' := 45) (tgt := 49) X dX4_mayBecome_42 rfl rfl (fun c => ?_) (fun c => ?_)
        · replace h := zok_t h c
          refine zi_iconst (pc' := 50) (v := (0 : Int32)) X dX4_mayBecome_49 rfl rfl ?_
          exact hret _ _ _ _ dX4_mayBecome_50 (by decide) h
        · replace h := zok_f h c
          refine zi_iconst (pc' := 46) (v := (1 : Int32)) X dX4_mayBecome_45 rfl rfl ?_
          refine zi_goto (pc' := 50) X dX4_mayBecome_46 rfl ?_
          exact hret _ _ _ _ dX4_mayBecome_50 (by decide) h
    · replace h := zok_f h c1
      by_cases c2 : a0 = (2 : Int32)
      · replace h := zok_t h c2
        refine zi_tabIn (pc' := 51) X c2 dX4_mayBecome_1 ⟨by decide, rfl, rfl⟩ ?_
        refine zi_iload_n (pc' := 52) X dX4_mayBecome_51 rfl rfl 1 rfl ?_
        refine zi_callSi (pc' := 55) X zl_X4_52 [.int a1] rfl rfl (by decide) (Nat.le_of_ble_eq_true rfl) dX4_mayBecome_52 rfl (tX5_isMeasure _ (zok_bd h (fun r6 m7 h => ?_)))
        obtain ⟨g8, h⟩ := zok_g h
        exact hret _ _ _ _ dX4_mayBecome_55 g8 h
      · replace h := zok_f h c2
        have e0 := zne (0) rfl c0
        have e1 := zne (1) rfl c1
        have e2 := zne (2) rfl c2
        refine zi_tabOut (pc' := 56) X (by omega) dX4_mayBecome_1 rfl ?_
        refine zi_iload_n (pc' := 57) X dX4_mayBecome_56 rfl rfl 0 rfl ?_
        refine zi_iconst (pc' := 58) (v := (4 : Int32)) X dX4_mayBecome_57 rfl rfl ?_
        refine zi_bipush (pc' := 60) (v := (7 : Int32)) X dX4_mayBecome_58 rfl rfl ?_
        refine zi_callSi (pc' := 63) X zl_X4_45 [.int a0, .int (4 : Int32), .int (7 : Int32)] rfl rfl (by decide) (Nat.le_of_ble_eq_true rfl) dX4_mayBecome_60 rfl (tX5_within _ (zok_bd h (fun r9 m10 h => ?_)))
        refine zi_if_eq (pc' := 66) (tgt := 82) X dX4_mayBecome_63 rfl rfl (fun c => ?_) (fun c => ?_)
        · replace h := zok_t h c
          refine zi_iconst (pc' := 83) (v := (0 : Int32)) X dX4_mayBecome_82 rfl rfl ?_
          exact hret _ _ _ _ dX4_mayBecome_83 (by decide) h
        · replace h := zok_f h c
          refine zi_iload_n (pc' := 67) X dX4_mayBecome_66 rfl rfl 1 rfl ?_
          refine zi_iconst (pc' := 68) (v := (-1 : Int32)) X dX4_mayBecome_67 rfl rfl ?_
          refine zi_icmp_eq (pc' := 71) (tgt := 78) X dX4_mayBecome_68 rfl rfl (fun c => ?_) (fun c => ?_)
          · replace h := zok_t h c
            refine zi_iconst (pc' := 79) (v := (1 : Int32)) X dX4_mayBecome_78 rfl rfl ?_
            refine zi_goto (pc' := 83) X dX4_mayBecome_79 rfl ?_
            exact hret _ _ _ _ dX4_mayBecome_83 (by decide) h
          · replace h := zok_f h c
            refine zi_iload_n (pc' := 72) X dX4_mayBecome_71 rfl rfl 1 rfl ?_
            refine zi_callSi (pc' := 75) X zl_X4_52 [.int a1] rfl rfl (by decide) (Nat.le_of_ble_eq_true rfl) dX4_mayBecome_72 rfl (tX5_isMeasure _ (zok_bd h (fun r11 m12 h => ?_)))
            refine zi_if_eq (pc' := 78) (tgt := 82) X dX4_mayBecome_75 rfl rfl (fun c => ?_) (fun c => ?_)
            · replace h := zok_t h c
              refine zi_iconst (pc' := 83) (v := (0 : Int32)) X dX4_mayBecome_82 rfl rfl ?_
              exact hret _ _ _ _ dX4_mayBecome_83 (by decide) h
            · replace h := zok_f h c
              refine zi_iconst (pc' := 79) (v := (1 : Int32)) X dX4_mayBecome_78 rfl rfl ?_
              refine zi_goto (pc' := 83) X dX4_mayBecome_79 rfl ?_
              exact hret _ _ _ _ dX4_mayBecome_83 (by decide) h
def fX2_hasRun (a0 : Nat) (a1 : Int32) (a2 : Int32) (μ : zMem) : Option (Int32 × zMem) :=
  if a1 < 0 then
    some ((0 : Int32), μ)
  else
    if a2 < 0 then
      some ((0 : Int32), μ)
    else
      if (μ a0 1) < a2 then
        some ((0 : Int32), μ)
      else
        if ((μ a0 1) - a2) < a1 then
          some ((0 : Int32), μ)
        else
          some ((1 : Int32), μ)
set_option maxRecDepth 100000 in
set_option maxHeartbeats 4000000 in
theorem tX2_hasRun (g : zG) {a0 : Nat} {a1 : Int32} {a2 : Int32} {μ : zMem} {Q : Int32 → zMem → Prop} (ha0 : zkd a0 = 2) (h : zok (fX2_hasRun a0 a1 a2 μ) Q) : zTi g yX2_hasRun cX2_hasRun 3 .boolean 0 [.ref (zad g a0), .int a1, .int a2] μ Q := by
  refine zTi_of (P := fun r => r = 0 ∨ r = 1) zpb RX2 (by decide) rfl (Nat.le_of_ble_eq_true rfl) ?_
  intro κ X hret
  unfold fX2_hasRun at h
  refine zi_iload_n (pc' := 1) X dX2_hasRun_0 rfl rfl 1 rfl ?_
  refine zi_if_lt (pc' := 4) (tgt := 30) X dX2_hasRun_1 rfl rfl (fun c => ?_) (fun c => ?_)
  · replace h := zok_t h c
    refine zi_iconst (pc' := 31) (v := (0 : Int32)) X dX2_hasRun_30 rfl rfl ?_
    exact hret _ _ _ _ dX2_hasRun_31 (by decide) h
  · replace h := zok_f h c
    refine zi_iload_n (pc' := 5) X dX2_hasRun_4 rfl rfl 2 rfl ?_
    refine zi_if_lt (pc' := 8) (tgt := 30) X dX2_hasRun_5 rfl rfl (fun c => ?_) (fun c => ?_)
    · replace h := zok_t h c
      refine zi_iconst (pc' := 31) (v := (0 : Int32)) X dX2_hasRun_30 rfl rfl ?_
      exact hret _ _ _ _ dX2_hasRun_31 (by decide) h
    · replace h := zok_f h c
      refine zi_iload_n (pc' := 9) X dX2_hasRun_8 rfl rfl 2 rfl ?_
      refine zi_aload_n (pc' := 10) X dX2_hasRun_9 rfl rfl 0 rfl ?_
      refine zi_geti (pc' := 13) X zf_X2_15 rfl (by decide) ha0 dX2_hasRun_10 rfl ?_
      refine zi_icmp_gt (pc' := 16) (tgt := 30) X dX2_hasRun_13 rfl rfl (fun c => ?_) (fun c => ?_)
      · replace h := zok_t h c
        refine zi_iconst (pc' := 31) (v := (0 : Int32)) X dX2_hasRun_30 rfl rfl ?_
        exact hret _ _ _ _ dX2_hasRun_31 (by decide) h
      · replace h := zok_f h c
        refine zi_iload_n (pc' := 17) X dX2_hasRun_16 rfl rfl 1 rfl ?_
        refine zi_aload_n (pc' := 18) X dX2_hasRun_17 rfl rfl 0 rfl ?_
        refine zi_geti (pc' := 21) X zf_X2_15 rfl (by decide) ha0 dX2_hasRun_18 rfl ?_
        refine zi_iload_n (pc' := 22) X dX2_hasRun_21 rfl rfl 2 rfl ?_
        refine zi_isub (pc' := 23) X dX2_hasRun_22 rfl ?_
        refine zi_icmp_gt (pc' := 26) (tgt := 30) X dX2_hasRun_23 rfl rfl (fun c => ?_) (fun c => ?_)
        · replace h := zok_t h c
          refine zi_iconst (pc' := 31) (v := (0 : Int32)) X dX2_hasRun_30 rfl rfl ?_
          exact hret _ _ _ _ dX2_hasRun_31 (by decide) h
        · replace h := zok_f h c
          refine zi_iconst (pc' := 27) (v := (1 : Int32)) X dX2_hasRun_26 rfl rfl ?_
          refine zi_goto (pc' := 31) X dX2_hasRun_27 rfl ?_
          exact hret _ _ _ _ dX2_hasRun_31 (by decide) h
def fX2_isMissing (a0 : Nat) (μ : zMem) : Option (Int32 × zMem) :=
  if (μ a0 0) = 0 then
    some ((1 : Int32), μ)
  else
    some ((0 : Int32), μ)
set_option maxRecDepth 100000 in
set_option maxHeartbeats 4000000 in
theorem tX2_isMissing (g : zG) {a0 : Nat} {μ : zMem} {Q : Int32 → zMem → Prop} (ha0 : zkd a0 = 2) (h : zok (fX2_isMissing a0 μ) Q) : zTi g yX2_isMissing cX2_isMissing 1 .boolean 0 [.ref (zad g a0)] μ Q := by
  refine zTi_of (P := fun r => r = 0 ∨ r = 1) zpb RX2 (by decide) rfl (Nat.le_of_ble_eq_true rfl) ?_
  intro κ X hret
  unfold fX2_isMissing at h
  refine zi_aload_n (pc' := 1) X dX2_isMissing_0 rfl rfl 0 rfl ?_
  refine zi_geti (pc' := 4) X zf_X2_9 rfl (by decide) ha0 dX2_isMissing_1 rfl ?_
  refine zi_if_ne (pc' := 7) (tgt := 11) X dX2_isMissing_4 rfl rfl (fun c => ?_) (fun c => ?_)
  · replace h := zok_f h c
    refine zi_iconst (pc' := 12) (v := (0 : Int32)) X dX2_isMissing_11 rfl rfl ?_
    exact hret _ _ _ _ dX2_isMissing_12 (by decide) h
  · replace h := zok_t h c
    refine zi_iconst (pc' := 8) (v := (1 : Int32)) X dX2_isMissing_7 rfl rfl ?_
    refine zi_goto (pc' := 12) X dX2_isMissing_8 rfl ?_
    exact hret _ _ _ _ dX2_isMissing_12 (by decide) h
def fX2_put (a0 : Nat) (a1 : Int32) (a2 : Int32) (μ : zMem) : Option (Unit × zMem) :=
  if (μ a0 0) = (8 : Int32) then
    zgd (zib a1 40) (
    some ((), (zst μ (a0 + 1) (a1).toNatClampNeg ((a2).toInt8.toInt32))))
  else
    if (μ a0 0) = (16 : Int32) then
      zgd (zib a1 40) (
      some ((), (zst μ (a0 + 1) (a1).toNatClampNeg ((a2).toInt16.toInt32))))
    else
      zgd (zib a1 40) (
      some ((), (zst μ (a0 + 1) (a1).toNatClampNeg a2)))
set_option maxRecDepth 100000 in
set_option maxHeartbeats 4000000 in
theorem tX2_put (g : zG) {a0 : Nat} {a1 : Int32} {a2 : Int32} {μ : zMem} {Q : Unit → zMem → Prop} (ha0 : zkd a0 = 2) (h : zok (fX2_put a0 a1 a2 μ) Q) : zTv g yX2_put cX2_put 3 0 [.ref (zad g a0), .int a1, .int a2] μ Q := by
  refine zTv_of RX2 (by decide) rfl (Nat.le_of_ble_eq_true rfl) ?_
  intro κ X hret
  unfold fX2_put at h
  refine zi_aload_n (pc' := 1) X dX2_put_0 rfl rfl 0 rfl ?_
  refine zi_geti (pc' := 4) X zf_X2_9 rfl (by decide) ha0 dX2_put_1 rfl ?_
  by_cases c8 : (μ a0 0) = (8 : Int32)
  · replace h := zok_t h c8
    refine zi_look (pc' := 32) X dX2_put_4 (by decide) (by rw [c8]) rfl ?_
    refine zi_aload_n (pc' := 33) X dX2_put_32 rfl rfl 0 rfl ?_
    refine zi_getr (pc' := 36) X zf_X2_18 rfl (by decide) ha0 dX2_put_33 rfl ?_
    have f1 := zr_2_2 ha0
    refine zi_iload_n (pc' := 37) X dX2_put_36 rfl rfl 1 rfl ?_
    refine zi_iload_n (pc' := 38) X dX2_put_37 rfl rfl 2 rfl ?_
    refine zi_i2b (pc' := 39) X dX2_put_38 rfl ?_
    obtain ⟨g2, h⟩ := zok_g h
    refine zi_iast (pc' := 40) X f1.1 (by rw [f1.2]; exact g2) dX2_put_39 rfl ?_
    refine zi_goto (pc' := 61) X dX2_put_40 rfl ?_
    exact hret _ _ _ dX2_put_61 h
  · replace h := zok_f h c8
    by_cases c16 : (μ a0 0) = (16 : Int32)
    · replace h := zok_t h c16
      refine zi_look (pc' := 43) X dX2_put_4 (by decide) (by rw [c16]) rfl ?_
      refine zi_aload_n (pc' := 44) X dX2_put_43 rfl rfl 0 rfl ?_
      refine zi_getr (pc' := 47) X zf_X2_18 rfl (by decide) ha0 dX2_put_44 rfl ?_
      have f3 := zr_2_2 ha0
      refine zi_iload_n (pc' := 48) X dX2_put_47 rfl rfl 1 rfl ?_
      refine zi_iload_n (pc' := 49) X dX2_put_48 rfl rfl 2 rfl ?_
      refine zi_i2s (pc' := 50) X dX2_put_49 rfl ?_
      obtain ⟨g4, h⟩ := zok_g h
      refine zi_iast (pc' := 51) X f3.1 (by rw [f3.2]; exact g4) dX2_put_50 rfl ?_
      refine zi_goto (pc' := 61) X dX2_put_51 rfl ?_
      exact hret _ _ _ dX2_put_61 h
    · replace h := zok_f h c16
      have e8 := zne (8) rfl c8
      have e16 := zne (16) rfl c16
      refine zi_look (pc' := 54) X dX2_put_4 (by decide) (by simp [Op.lookupswitch.offset, Ne.symm e8, e8, Ne.symm e16, e16]; rfl) rfl ?_
      refine zi_aload_n (pc' := 55) X dX2_put_54 rfl rfl 0 rfl ?_
      refine zi_getr (pc' := 58) X zf_X2_18 rfl (by decide) ha0 dX2_put_55 rfl ?_
      have f5 := zr_2_2 ha0
      refine zi_iload_n (pc' := 59) X dX2_put_58 rfl rfl 1 rfl ?_
      refine zi_iload_n (pc' := 60) X dX2_put_59 rfl rfl 2 rfl ?_
      obtain ⟨g6, h⟩ := zok_g h
      refine zi_iast (pc' := 61) X f5.1 (by rw [f5.2]; exact g6) dX2_put_60 rfl ?_
      exact hret _ _ _ dX2_put_61 h
def fX2_tells_2 : Nat → Nat → Nat → Int32 → zMem → Option (Int32 × zMem)
  | 0, _, _, _, _ => none
  | n + 1, a0, a1, a2, μ =>
    if (4 : Int32) ≤ a2 then
      some ((1 : Int32), μ)
    else
      if (μ a0 1) ≤ a2 then
        some ((1 : Int32), μ)
      else
        zgd (zib a2 40) (
        if (μ (a0 + 1) (a2).toNatClampNeg) = (-1 : Int32) then
          fX2_tells_2 n a0 a1 (a2 + (1 : Int32)) μ
        else
          zgd (zib a2 40) (
          zgd (zib a2 (zln a1)) (
          if (μ (a0 + 1) (a2).toNatClampNeg) = (μ a1 (a2).toNatClampNeg) then
            fX2_tells_2 n a0 a1 (a2 + (1 : Int32)) μ
          else
            some ((0 : Int32), μ))))
set_option maxRecDepth 100000 in
theorem lX2_tells_2 {g : zG} {κ : zK} (X : zC g κ RX2 cX2_tells 3 0) {Q : Int32 → zMem → Prop} (hret : ∀ pc lv r μ', decode cX2_tells pc = .ok (.ireturn, 1) → (r = 0 ∨ r = 1) → Q r μ' → zV g κ pc lv [.int r] μ') : ∀ (n : Nat) (a0 : Nat) (a1 : Nat) (a2 : Int32) (μ : zMem) (ha0 : zkd a0 = 2) (ha1 : zR a1 7 (zln a1)), zok (fX2_tells_2 n a0 a1 a2 μ) Q → zV g κ 2 [(0, .ref (zad g a0)), (1, .ref (zad g a1)), (2, .int a2)] [] μ := by
  intro n
  induction n with
  | zero =>
    intro a0 a1 a2 μ ha0 ha1 h
    exact h.elim
  | succ n ih =>
    intro a0 a1 a2 μ ha0 ha1 h
    rw [fX2_tells_2] at h
    refine zi_iload_n (pc' := 3) X dX2_tells_2 rfl rfl 2 rfl ?_
    refine zi_iconst (pc' := 4) (v := (4 : Int32)) X dX2_tells_3 rfl rfl ?_
    refine zi_icmp_ge (pc' := 7) (tgt := 45) X dX2_tells_4 rfl rfl (fun c => ?_) (fun c => ?_)
    · replace h := zok_t h c
      refine zi_iconst (pc' := 46) (v := (1 : Int32)) X dX2_tells_45 rfl rfl ?_
      exact hret _ _ _ _ dX2_tells_46 (by decide) h
    · replace h := zok_f h c
      refine zi_iload_n (pc' := 8) X dX2_tells_7 rfl rfl 2 rfl ?_
      refine zi_aload_n (pc' := 9) X dX2_tells_8 rfl rfl 0 rfl ?_
      refine zi_geti (pc' := 12) X zf_X2_15 rfl (by decide) ha0 dX2_tells_9 rfl ?_
      refine zi_icmp_ge (pc' := 15) (tgt := 45) X dX2_tells_12 rfl rfl (fun c => ?_) (fun c => ?_)
      · replace h := zok_t h c
        refine zi_iconst (pc' := 46) (v := (1 : Int32)) X dX2_tells_45 rfl rfl ?_
        exact hret _ _ _ _ dX2_tells_46 (by decide) h
      · replace h := zok_f h c
        refine zi_aload_n (pc' := 16) X dX2_tells_15 rfl rfl 0 rfl ?_
        refine zi_getr (pc' := 19) X zf_X2_18 rfl (by decide) ha0 dX2_tells_16 rfl ?_
        have f1 := zr_2_2 ha0
        refine zi_iload_n (pc' := 20) X dX2_tells_19 rfl rfl 2 rfl ?_
        obtain ⟨g2, h⟩ := zok_g h
        refine zi_iald (pc' := 21) X f1.1 (by rw [f1.2]; exact g2) dX2_tells_20 rfl ?_
        refine zi_iconst (pc' := 22) (v := (-1 : Int32)) X dX2_tells_21 rfl rfl ?_
        refine zi_icmp_eq (pc' := 25) (tgt := 39) X dX2_tells_22 rfl rfl (fun c => ?_) (fun c => ?_)
        · replace h := zok_t h c
          refine zi_iinc (pc' := 42) (v := (a2 + (1 : Int32))) X dX2_tells_39 rfl 2 rfl rfl (by decide) [(2, .int (a2 + (1 : Int32))), (0, .ref (zad g a0)), (1, .ref (zad g a1))] rfl ?_
          refine zi_goto (pc' := 2) X dX2_tells_42 rfl ?_
          exact zi_sub X [1, 2, 0] _ rfl (ih a0 a1 (a2 + (1 : Int32)) (μ) ha0 ha1 h)
        · replace h := zok_f h c
          refine zi_aload_n (pc' := 26) X dX2_tells_25 rfl rfl 0 rfl ?_
          refine zi_getr (pc' := 29) X zf_X2_18 rfl (by decide) ha0 dX2_tells_26 rfl ?_
          have f3 := zr_2_2 ha0
          refine zi_iload_n (pc' := 30) X dX2_tells_29 rfl rfl 2 rfl ?_
          obtain ⟨g4, h⟩ := zok_g h
          refine zi_iald (pc' := 31) X f3.1 (by rw [f3.2]; exact g4) dX2_tells_30 rfl ?_
          refine zi_aload_n (pc' := 32) X dX2_tells_31 rfl rfl 1 rfl ?_
          refine zi_iload_n (pc' := 33) X dX2_tells_32 rfl rfl 2 rfl ?_
          obtain ⟨g5, h⟩ := zok_g h
          refine zi_iald (pc' := 34) X ha1.1 (by rw [ha1.2]; exact g5) dX2_tells_33 rfl ?_
          refine zi_icmp_eq (pc' := 37) (tgt := 39) X dX2_tells_34 rfl rfl (fun c => ?_) (fun c => ?_)
          · replace h := zok_t h c
            refine zi_iinc (pc' := 42) (v := (a2 + (1 : Int32))) X dX2_tells_39 rfl 2 rfl rfl (by decide) [(2, .int (a2 + (1 : Int32))), (0, .ref (zad g a0)), (1, .ref (zad g a1))] rfl ?_
            refine zi_goto (pc' := 2) X dX2_tells_42 rfl ?_
            exact zi_sub X [1, 2, 0] _ rfl (ih a0 a1 (a2 + (1 : Int32)) (μ) ha0 ha1 h)
          · replace h := zok_f h c
            refine zi_iconst (pc' := 38) (v := (0 : Int32)) X dX2_tells_37 rfl rfl ?_
            exact hret _ _ _ _ dX2_tells_38 (by decide) h
def fX2_tells (a0 : Nat) (a1 : Nat) (μ : zMem) : Option (Int32 × zMem) :=
  fX2_tells_2 200 a0 a1 (0 : Int32) μ
set_option maxRecDepth 100000 in
set_option maxHeartbeats 4000000 in
theorem tX2_tells (g : zG) {a0 : Nat} {a1 : Nat} {μ : zMem} {Q : Int32 → zMem → Prop} (ha0 : zkd a0 = 2) (ha1 : zkd a1 = 7) (h : zok (fX2_tells a0 a1 μ) Q) : zTi g yX2_tells cX2_tells 3 .boolean 0 [.ref (zad g a0), .ref (zad g a1)] μ Q := by
  refine zTi_of (P := fun r => r = 0 ∨ r = 1) zpb RX2 (by decide) rfl (Nat.le_of_ble_eq_true rfl) ?_
  intro κ X hret
  unfold fX2_tells at h
  have ha1 : zR a1 7 (zln a1) := ⟨ha1, rfl⟩
  refine zi_iconst (pc' := 1) (v := (0 : Int32)) X dX2_tells_0 rfl rfl ?_
  refine zi_istore_n (pc' := 2) X dX2_tells_1 rfl rfl (by decide) [(2, .int (0 : Int32)), (0, .ref (zad g a0)), (1, .ref (zad g a1))] rfl ?_
  exact zi_sub X [1, 2, 0] _ rfl (lX2_tells_2 X hret 200 a0 a1 (0 : Int32) (μ) ha0 ha1 h)
