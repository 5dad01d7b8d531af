/-! String constants: what the JDK's own methods answer -/
def zsn (i : Nat) : Int32 := Int32.ofNat (zsb i).length
def zsc (i : Nat) (k : Int32) : Int32 := ((((zsb i).getD k.toNatClampNeg 0) &&& 255).toUInt32 % 65536).toInt32
theorem zi_ldcS {g : zG} {κ : zK} {own : String} {cc : ByteArray} {nL d : Nat} (X : zC g κ own cc nL d) {pc pc' : Nat} {lv : List (Nat × Value)} {st : List Value} {μ : zMem} {idx : Nat} (i : Nat) (hi : i < 27) (ho : zso i = own) (hx0 : zsx i = idx) (hd : decode cc pc = .ok (.ldc idx, 2)) (hp : pc + 2 = pc') (k : zV g κ pc' lv (.ref (zak g i) :: st) μ) : zV g κ pc lv st μ := by
  obtain ⟨⟨p, l, e, R, s, m⟩, ⟨args, below, meth, cx⟩, ⟨cells, slots, Q⟩, A⟩ := κ
  obtain ⟨hx, hb, hml, hown, hts, hKw, hSt, hA, hR, hC⟩ := X
  subst hp; subst ho; subst hx0
  intro H locs ls hP hS hl
  exact va_ldcS hx hb hown (hSt.2 i hi).1 hd (k H locs ls hP hS hl)
theorem zi_ldcSw {g : zG} {κ : zK} {own : String} {cc : ByteArray} {nL d : Nat} (X : zC g κ own cc nL d) {pc pc' : Nat} {lv : List (Nat × Value)} {st : List Value} {μ : zMem} {idx : Nat} (i : Nat) (hi : i < 27) (ho : zso i = own) (hx0 : zsx i = idx) (hd : decode cc pc = .ok (.ldc_w idx, 3)) (hp : pc + 3 = pc') (k : zV g κ pc' lv (.ref (zak g i) :: st) μ) : zV g κ pc lv st μ := by
  obtain ⟨⟨p, l, e, R, s, m⟩, ⟨args, below, meth, cx⟩, ⟨cells, slots, Q⟩, A⟩ := κ
  obtain ⟨hx, hb, hml, hown, hts, hKw, hSt, hA, hR, hC⟩ := X
  subst hp; subst ho; subst hx0
  intro H locs ls hP hS hl T hT Y
  obtain ⟨t, a1, b1⟩ := k H locs ls hP hS hl T hT Y
  exact ⟨t, Y.ldcStringW hx hown (hSt.2 i hi).1.1 (hSt.2 i hi).1.2 (g := F0 m pc ls st) rfl (by rw [hb]; exact hd) t a1, b1⟩
theorem zi_sgv {g : zG} {κ : zK} {cc : ByteArray} {nL d : Nat} (X : zC g κ RJ0 cc nL d) {pc pc' : Nat} {lv : List (Nat × Value)} {st : List Value} {μ : zMem} {i : Nat} (hi : i < 27) (hd : decode cc pc = .ok (.getfield 9, 3)) (hp : pc + 3 = pc') (k : zV g κ pc' lv (.ref (zav g i) :: st) μ) : zV g κ pc lv (.ref (zak g i) :: st) μ := by
  obtain ⟨⟨p, l, e, R, s, m⟩, ⟨args, below, meth, cx⟩, ⟨cells, slots, Q⟩, A⟩ := κ
  obtain ⟨hx, hb, hml, hown, hts, hKw, hSt, hA, hR, hC⟩ := X
  subst hp
  intro H locs ls hP hS hl
  exact vk_getf hx hb (hSt.2 i hi).2.2.2.1 hS hown (hts _ zj_J0_9) (fun _ h9 => h9) hd (k H locs ls hP hS hl)
theorem zi_sgc {g : zG} {κ : zK} {cc : ByteArray} {nL d : Nat} (X : zC g κ RJ0 cc nL d) {pc pc' : Nat} {lv : List (Nat × Value)} {st : List Value} {μ : zMem} {i : Nat} (hi : i < 27) (hd : decode cc pc = .ok (.getfield 15, 3)) (hp : pc + 3 = pc') (k : zV g κ pc' lv (.int 0 :: st) μ) : zV g κ pc lv (.ref (zak g i) :: st) μ := by
  obtain ⟨⟨p, l, e, R, s, m⟩, ⟨args, below, meth, cx⟩, ⟨cells, slots, Q⟩, A⟩ := κ
  obtain ⟨hx, hb, hml, hown, hts, hKw, hSt, hA, hR, hC⟩ := X
  subst hp
  intro H locs ls hP hS hl
  exact vk_getf hx hb (hSt.2 i hi).2.2.1 hS hown (hts _ zj_J0_15) (fun _ h9 => h9) hd (k H locs ls hP hS hl)
theorem zi_sgs {g : zG} {κ : zK} {cc : ByteArray} {nL d : Nat} (X : zC g κ RJ0 cc nL d) {pc pc' : Nat} {lv : List (Nat × Value)} {st : List Value} {μ : zMem} (hd : decode cc pc = .ok (.getstatic 38, 3)) (hp : pc + 3 = pc') (k : zV g κ pc' lv (.int 1 :: st) μ) : zV g κ pc lv st μ := by
  obtain ⟨⟨p, l, e, R, s, m⟩, ⟨args, below, meth, cx⟩, ⟨cells, slots, Q⟩, A⟩ := κ
  obtain ⟨hx, hb, hml, hown, hts, hKw, hSt, hA, hR, hC⟩ := X
  subst hp
  intro H locs ls hP hS hl
  exact va_gets hx hb hSt.1.1 hS hown (hts _ zj_J0_38) (fun _ h9 => h9) hd (k H locs ls hP hS hl)
theorem zi_sgq {g : zG} {κ : zK} {cc : ByteArray} {nL d : Nat} (X : zC g κ RJ0 cc nL d) {pc pc' : Nat} {lv : List (Nat × Value)} {st : List Value} {μ : zMem} (hd : decode cc pc = .ok (.getstatic 1053, 3)) (hp : pc + 3 = pc') (k : ∀ v : Value, (v = .null ∨ ∃ t, v = .ref t) → zV g κ pc' lv (v :: st) μ) : zV g κ pc lv st μ := by
  obtain ⟨⟨p, l, e, R, s, m⟩, ⟨args, below, meth, cx⟩, ⟨cells, slots, Q⟩, A⟩ := κ
  obtain ⟨hx, hb, hml, hown, hts, hKw, hSt, hA, hR, hC⟩ := X
  subst hp
  intro H locs ls hP hS hl
  rcases hSt.1.2 with h | ⟨t, h⟩
  · exact va_gets hx hb h hS hown (hts _ zj_J0_1053) (fun _ h9 => h9) hd (k _ (Or.inl rfl) H locs ls hP hS hl)
  · exact va_gets hx hb h hS hown (hts _ zj_J0_1053) (fun _ h9 => h9) hd (k _ (Or.inr ⟨t, rfl⟩) H locs ls hP hS hl)
theorem zi_stl {g : zG} {κ : zK} {own : String} {cc : ByteArray} {nL d : Nat} (X : zC g κ own cc nL d) {pc pc' : Nat} {lv : List (Nat × Value)} {st : List Value} {μ : zMem} {i : Nat} (hi : i < 27) (hd : decode cc pc = .ok (.arraylength, 1)) (hp : pc + 1 = pc') (k : zV g κ pc' lv (.int (zsn i) :: st) μ) : zV g κ pc lv (.ref (zav g i) :: st) μ := by
  obtain ⟨⟨p, l, e, R, s, m⟩, ⟨args, below, meth, cx⟩, ⟨cells, slots, Q⟩, A⟩ := κ
  obtain ⟨hx, hb, hml, hown, hts, hKw, hSt, hA, hR, hC⟩ := X
  subst hp
  intro H locs ls hP hS hl
  exact va_tlen hx hb (hSt.2 i hi).2.2.2.2 hS rfl hd (k H locs ls hP hS hl)
theorem zi_stb {g : zG} {κ : zK} {own : String} {cc : ByteArray} {nL d : Nat} (X : zC g κ own cc nL d) {pc pc' : Nat} {lv : List (Nat × Value)} {st : List Value} {μ : zMem} {i : Nat} {j : Int32} (hi : i < 27) (hj : zib j (zsb i).length) (hd : decode cc pc = .ok (.baload, 1)) (hp : pc + 1 = pc') (k : zV g κ pc' lv (.int ((zsb i).getD j.toNatClampNeg 0) :: st) μ) : zV g κ pc lv (.int j :: .ref (zav g i) :: st) μ := by
  obtain ⟨⟨p, l, e, R, s, m⟩, ⟨args, below, meth, cx⟩, ⟨cells, slots, Q⟩, A⟩ := κ
  obtain ⟨hx, hb, hml, hown, hts, hKw, hSt, hA, hR, hC⟩ := X
  subst hp
  intro H locs ls hP hS hl
  exact va_tb hx hb (hSt.2 i hi).2.2.2.2 hS hj rfl hd (k H locs ls hP hS hl)
theorem zi_callJ {g : zG} {κ : zK} {own : String} {cc : ByteArray} {nL d : Nat} (X : zC g κ own cc nL d) {pc pc' : Nat} {lv : List (Nat × Value)} {st : List Value} {μ : zMem} {st0 : List Value} {idx n maxL d' : Nat} {y : MethodName} {bytes : ByteArray} {ty : FieldType} {i : Nat} (hlk : zLk own idx y bytes maxL (some ty) n ∧ Cond.instanceMethod y ∈ zgw ∧ Cond.selects RJ0 y y ∈ zgw) (hi : i < 27) (As : List Value) (hs : st0 = As.reverse ++ .ref (zak g i) :: st) (hn : As.length = n) (hdp : d' + 1 ≤ d) (hst : (st.map fun v => v.category).sum ≤ 8) (hd : decode cc pc = .ok (.invokevirtual idx, 3)) (hp : pc + 3 = pc') (k : zTi g y bytes maxL ty d' (.ref (zak g i) :: As) μ (fun r μ' => zV g κ pc' lv (.int r :: st) μ')) : zV g κ pc lv st0 μ := by
  obtain ⟨⟨p, l, e, R, s, m⟩, ⟨args, below, meth, cx⟩, ⟨cells, slots, Q⟩, A⟩ := κ
  obtain ⟨hx, hb, hml, hown, hts, hKw, hSt, hA, hR, hC⟩ := X
  subst hp
  subst hs
  intro H locs ls hP hS hl
  have hAA : ∀ q, zA g q → A q := fun q ⟨k9, h9, e9⟩ => by rw [e9]; exact hA k9 h9
  have hrm : (zrm d').frames + 1 ≤ R.frames ∧ 8 + (maxL + 11) + (zrm d').locals ≤ R.locals := by
    have := hlk.1.2.2.2.2
    exact ⟨by show d' + 1 ≤ R.frames; omega, by show 8 + (maxL + 11) + 40 * d' ≤ R.locals; omega⟩
  have hrv : ∃ cell : Cell, H[zak g i]? = some cell ∧ cell.vm.isStatics = false ∧ s.vm.findClass RJ0 = some cell.cls := by
    obtain ⟨cell, h1, h2, h3, -⟩ := (hSt.2 i hi).2.1.kept hS.2.1
    exact ⟨cell, h1, h2, h3⟩
  rcases hlk.1.1 with h4 | ⟨host, h4⟩
  · have hcb := callB_of (ws' := zgw) (mc := 0) (ms := 0) (rm := zrm d') n hts (zgw_in hlk.1.2.2.1) rfl rfl rfl (hts _ hlk.1.2.1) (hts _ h4) hlk.1.2.2.2.1 hrm
    exact va_calli (va_runV (C := RJ0) (bytes := bytes) (maxL := maxL) (ret := (some ty)) (As := As) (rest := st) ⟨hx, hb, hml, hown, hts⟩ (k l) ⟨hcb, hts _ hlk.2.1, hts _ hlk.2.2⟩ ⟨zWd_blind g μ _, hrv, fun U hU hW => ⟨rfl, by rw [hU]; exact hP, hKw.warm hW, by rw [hU]; exact ((hSt.warm hW).kept hS.2.1).narrow hAA⟩⟩ rfl hn (hl.1.trans hml) rfl (lv_room hst) hd hC) hS (fun q _ h => hAA q h) hAA (fun r μ' t H1 locs1 ht _ hq hB _ _ hS1 => hq H1 locs1 ls (by rw [← ht]; exact hB.1) hS1 hl)
  · have hcb := va_cnB (ws' := zgw) (mc := 0) (ms := 0) (rm := zrm d') n hts (zgw_in hlk.1.2.2.1) rfl rfl rfl (hKw.2.2 _ h4 rfl) (hts _ hlk.1.2.1) hlk.1.2.2.2.1 hrm
    exact va_calli (va_runVN (C := RJ0) (bytes := bytes) (maxL := maxL) (ret := (some ty)) (As := As) (rest := st) ⟨hx, hb, hml, hown, hts⟩ (k l) ⟨hcb, hts _ hlk.2.1, hts _ hlk.2.2⟩ ⟨zWd_blind g μ _, hrv, fun U hU hW => ⟨rfl, by rw [hU]; exact hP, hKw.warm hW, by rw [hU]; exact ((hSt.warm hW).kept hS.2.1).narrow hAA⟩⟩ rfl hn (hl.1.trans hml) rfl (lv_room hst) hd hC) hS (fun q _ h => hAA q h) hAA (fun r μ' t H1 locs1 ht _ hq hB _ _ hS1 => hq H1 locs1 ls (by rw [← ht]; exact hB.1) hS1 hl)
set_option maxRecDepth 100000 in
theorem tJ0_coder (g : zG) {i : Nat} (hi : i < 27) {μ : zMem} {Q : Int32 → zMem → Prop} (h : Q 0 μ) : zTi g yJ0_coder_7d493 cJ0_coder_7d493 1 .byte 0 [.ref (zak g i)] μ Q := by
  refine zTi_of (P := fun r => r = 0) (fun v hv => by rw [hv]; decide) RJ0 (by decide) rfl (Nat.le_of_ble_eq_true rfl) ?_
  intro κ X hret
  refine zi_sgs (pc' := 3) X dJ0_coder_7d493_0 rfl ?_
  refine zi_if_eq (pc' := 6) (tgt := 13) X dJ0_coder_7d493_3 rfl rfl (fun c => absurd c (by decide)) (fun c => ?_)
  refine zi_aload_n (pc' := 7) X dJ0_coder_7d493_6 rfl rfl 0 rfl ?_
  refine zi_sgc (pc' := 10) X hi dJ0_coder_7d493_7 rfl ?_
  refine zi_goto (pc' := 14) X dJ0_coder_7d493_10 rfl ?_
  exact hret _ _ _ _ dJ0_coder_7d493_14 rfl h
set_option maxRecDepth 100000 in
theorem tJ0_isLatin1 (g : zG) {i : Nat} (hi : i < 27) {μ : zMem} {Q : Int32 → zMem → Prop} (h : Q 1 μ) : zTi g yJ0_isLatin1_aae02 cJ0_isLatin1_aae02 1 .boolean 0 [.ref (zak g i)] μ Q := by
  refine zTi_of (P := fun r => r = 0 ∨ r = 1) zpb RJ0 (by decide) rfl (Nat.le_of_ble_eq_true rfl) ?_
  intro κ X hret
  refine zi_sgs (pc' := 3) X dJ0_isLatin1_aae02_0 rfl ?_
  refine zi_if_eq (pc' := 6) (tgt := 17) X dJ0_isLatin1_aae02_3 rfl rfl (fun c => absurd c (by decide)) (fun c => ?_)
  refine zi_aload_n (pc' := 7) X dJ0_isLatin1_aae02_6 rfl rfl 0 rfl ?_
  refine zi_sgc (pc' := 10) X hi dJ0_isLatin1_aae02_7 rfl ?_
  refine zi_if_ne (pc' := 13) (tgt := 17) X dJ0_isLatin1_aae02_10 rfl rfl (fun c => absurd rfl c) (fun c => ?_)
  refine zi_iconst (v := (1 : Int32)) (pc' := 14) X dJ0_isLatin1_aae02_13 rfl rfl ?_
  refine zi_goto (pc' := 18) X dJ0_isLatin1_aae02_14 rfl ?_
  exact hret _ _ _ _ dJ0_isLatin1_aae02_18 (by decide) h
set_option maxRecDepth 100000 in
theorem tJ0_length (g : zG) {i : Nat} (hi : i < 27) {μ : zMem} {Q : Int32 → zMem → Prop} (h : Q (zsn i) μ) : zTi g yJ0_length_8abf5 cJ0_length_8abf5 1 .int 1 [.ref (zak g i)] μ Q := by
  refine zTi_of (P := fun _ => True) zpi RJ0 (by decide) rfl (Nat.le_of_ble_eq_true rfl) ?_
  intro κ X hret
  refine zi_aload_n (pc' := 1) X dJ0_length_8abf5_0 rfl rfl 0 rfl ?_
  refine zi_sgv (pc' := 4) X hi dJ0_length_8abf5_1 rfl ?_
  refine zi_stl (pc' := 5) X hi dJ0_length_8abf5_4 rfl ?_
  refine zi_aload_n (pc' := 6) X dJ0_length_8abf5_5 rfl rfl 0 rfl ?_
  refine zi_callJ (pc' := 9) X zl_J0_335 hi [] rfl rfl (by decide) (Nat.le_of_ble_eq_true rfl) dJ0_length_8abf5_6 rfl (tJ0_coder g hi ?_)
  refine zi_ishr (pc' := 10) X dJ0_length_8abf5_9 rfl ?_
  rw [sb_shr0]
  exact hret _ _ _ _ dJ0_length_8abf5_10 trivial h
set_option maxRecDepth 100000 in
theorem tJ3_check (g : zG) {i n : Int32} {v : Value} (hv : v = .null ∨ ∃ t, v = .ref t) (h0 : ¬ i < 0) (h1 : i < n) {μ : zMem} {Q : Int32 → zMem → Prop} (h : Q i μ) : zTi g yJ3_checkIndex_8e157 cJ3_checkIndex_8e157 3 .int 0 [.int i, .int n, v] μ Q := by
  refine zTi_of (P := fun _ => True) zpi RJ3 (by decide) rfl (by rcases hv with rfl | ⟨t, rfl⟩ <;> exact Nat.le_of_ble_eq_true rfl) ?_
  intro κ X hret
  refine zi_iload_n (pc' := 1) X dJ3_checkIndex_8e157_0 rfl rfl 0 rfl ?_
  refine zi_if_lt (pc' := 4) (tgt := 9) X dJ3_checkIndex_8e157_1 rfl rfl (fun c => absurd c h0) (fun c => ?_)
  refine zi_iload_n (pc' := 5) X dJ3_checkIndex_8e157_4 rfl rfl 0 rfl ?_
  refine zi_iload_n (pc' := 6) X dJ3_checkIndex_8e157_5 rfl rfl 1 rfl ?_
  refine zi_icmp_lt (pc' := 9) (tgt := 16) X dJ3_checkIndex_8e157_6 rfl rfl (fun c => ?_) (fun c => absurd h1 c)
  refine zi_iload_n (pc' := 17) X dJ3_checkIndex_8e157_16 rfl rfl 0 rfl ?_
  exact hret _ _ _ _ dJ3_checkIndex_8e157_17 trivial h
set_option maxRecDepth 100000 in
theorem tJ0_check (g : zG) {i n : Int32} (h0 : ¬ i < 0) (h1 : i < n) {μ : zMem} {Q : Unit → zMem → Prop} (h : Q () μ) : zTv g yJ0_checkIndex_df160 cJ0_checkIndex_df160 2 1 [.int i, .int n] μ Q := by
  refine zTv_of RJ0 (by decide) rfl (Nat.le_of_ble_eq_true rfl) ?_
  intro κ X hret
  refine zi_iload_n (pc' := 1) X dJ0_checkIndex_df160_0 rfl rfl 0 rfl ?_
  refine zi_iload_n (pc' := 2) X dJ0_checkIndex_df160_1 rfl rfl 1 rfl ?_
  refine zi_sgq (pc' := 5) X dJ0_checkIndex_df160_2 rfl (fun v hv => ?_)
  refine zi_callSi (pc' := 8) X zl_J0_1059 [.int i, .int n, v] rfl rfl (by decide) (Nat.le_of_ble_eq_true rfl) dJ0_checkIndex_df160_5 rfl (tJ3_check g hv h0 h1 ?_)
  refine zi_pop (pc' := 9) X dJ0_checkIndex_df160_8 rfl rfl ?_
  exact hret _ _ _ dJ0_checkIndex_df160_9 h
set_option maxRecDepth 100000 in
theorem tJ1_charAt (g : zG) {i : Nat} {k : Int32} (hi : i < 27) (hk : zib k (zsb i).length) {μ : zMem} {Q : Int32 → zMem → Prop} (h : Q (zsc i k) μ) : zTi g yJ1_charAt_3b067 cJ1_charAt_3b067 2 .char 2 [.ref (zav g i), .int k] μ Q := by
  refine zTi_of (P := fun r => narrow .char (.int r) = .int r) (fun v hv => hv) RJ1 (by decide) rfl (Nat.le_of_ble_eq_true rfl) ?_
  intro κ X hret
  have hlen : (zsb i).length < 2 ^ 31 := by
    have : ∀ i, i < 27 → (zsb i).length < 2 ^ 31 := by decide +kernel
    exact this i hi
  refine zi_iload_n (pc' := 1) X dJ1_charAt_3b067_0 rfl rfl 1 rfl ?_
  refine zi_aload_n (pc' := 2) X dJ1_charAt_3b067_1 rfl rfl 0 rfl ?_
  refine zi_stl (pc' := 3) X hi dJ1_charAt_3b067_2 rfl ?_
  have h0 : ¬ k < 0 := fun q => hk (Or.inl q)
  have h1 : k < zsn i := by
    obtain ⟨j, hj, rfl⟩ := vp_in_of (n := (zsb i).length) hk hlen
    exact nI_lt hj hlen
  refine zi_callSv (pc' := 6) X zl_J1_9 [.int k, .int (zsn i)] rfl rfl (by decide) (Nat.le_of_ble_eq_true rfl) dJ1_charAt_3b067_3 rfl (tJ0_check g h0 h1 ?_)
  refine zi_aload_n (pc' := 7) X dJ1_charAt_3b067_6 rfl rfl 0 rfl ?_
  refine zi_iload_n (pc' := 8) X dJ1_charAt_3b067_7 rfl rfl 1 rfl ?_
  refine zi_stb (pc' := 9) X hi hk dJ1_charAt_3b067_8 rfl ?_
  refine zi_sipush (v := (255 : Int32)) (pc' := 12) X dJ1_charAt_3b067_9 rfl rfl ?_
  refine zi_iand (pc' := 13) X dJ1_charAt_3b067_12 rfl ?_
  refine zi_i2c (pc' := 14) X dJ1_charAt_3b067_13 rfl ?_
  exact hret _ _ _ _ dJ1_charAt_3b067_14 (pk_nc _) h
set_option maxRecDepth 100000 in
theorem tJ0_charAt (g : zG) {i : Nat} {k : Int32} (hi : i < 27) (hk : zib k (zsb i).length) {μ : zMem} {Q : Int32 → zMem → Prop} (h : Q (zsc i k) μ) : zTi g yJ0_charAt_5068e cJ0_charAt_5068e 2 .char 3 [.ref (zak g i), .int k] μ Q := by
  refine zTi_of (P := fun r => narrow .char (.int r) = .int r) (fun v hv => hv) RJ0 (by decide) rfl (Nat.le_of_ble_eq_true rfl) ?_
  intro κ X hret
  refine zi_aload_n (pc' := 1) X dJ0_charAt_5068e_0 rfl rfl 0 rfl ?_
  refine zi_callJ (pc' := 4) X zl_J0_492 hi [] rfl rfl (by decide) (Nat.le_of_ble_eq_true rfl) dJ0_charAt_5068e_1 rfl (tJ0_isLatin1 g hi ?_)
  refine zi_if_eq (pc' := 7) (tgt := 16) X dJ0_charAt_5068e_4 rfl rfl (fun c => absurd c (by decide)) (fun c => ?_)
  refine zi_aload_n (pc' := 8) X dJ0_charAt_5068e_7 rfl rfl 0 rfl ?_
  refine zi_sgv (pc' := 11) X hi dJ0_charAt_5068e_8 rfl ?_
  refine zi_iload_n (pc' := 12) X dJ0_charAt_5068e_11 rfl rfl 1 rfl ?_
  refine zi_callSi (pc' := 15) X zl_J0_495 [.ref (zav g i), .int k] rfl rfl (by decide) (Nat.le_of_ble_eq_true rfl) dJ0_charAt_5068e_12 rfl (tJ1_charAt g hi hk ?_)
  exact hret _ _ _ _ dJ0_charAt_5068e_15 (pk_nc _) h
theorem zi_slen {g : zG} {κ : zK} {own : String} {cc : ByteArray} {nL d : Nat} (X : zC g κ own cc nL d) {pc pc' : Nat} {lv : List (Nat × Value)} {st : List Value} {μ : zMem} {idx i : Nat} (hlk : zLk own idx yJ0_length_8abf5 cJ0_length_8abf5 1 (some .int) 0 ∧ Cond.instanceMethod yJ0_length_8abf5 ∈ zgw ∧ Cond.selects RJ0 yJ0_length_8abf5 yJ0_length_8abf5 ∈ zgw) (hi : i < 27) (hst : (st.map fun v => v.category).sum ≤ 8) (hdp : 2 ≤ d) (hd : decode cc pc = .ok (.invokevirtual idx, 3)) (hp : pc + 3 = pc') (k : zV g κ pc' lv (.int (zsn i) :: st) μ) : zV g κ pc lv (.ref (zak g i) :: st) μ :=
  zi_callJ X hlk hi [] rfl rfl hdp hst hd hp (tJ0_length g hi k)
theorem zi_scharAt {g : zG} {κ : zK} {own : String} {cc : ByteArray} {nL d : Nat} (X : zC g κ own cc nL d) {pc pc' : Nat} {lv : List (Nat × Value)} {st : List Value} {μ : zMem} {idx i : Nat} {j : Int32} (hlk : zLk own idx yJ0_charAt_5068e cJ0_charAt_5068e 2 (some .char) 1 ∧ Cond.instanceMethod yJ0_charAt_5068e ∈ zgw ∧ Cond.selects RJ0 yJ0_charAt_5068e yJ0_charAt_5068e ∈ zgw) (hi : i < 27) (hj : zib j (zsb i).length) (hst : (st.map fun v => v.category).sum ≤ 8) (hdp : 4 ≤ d) (hd : decode cc pc = .ok (.invokevirtual idx, 3)) (hp : pc + 3 = pc') (k : zV g κ pc' lv (.int (zsc i j) :: st) μ) : zV g κ pc lv (.int j :: .ref (zak g i) :: st) μ :=
  zi_callJ X hlk hi [.int j] rfl rfl hdp hst hd hp (tJ0_charAt g hi hj k)
