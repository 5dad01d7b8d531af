theorem y2z {g : zG} {μ : zMem} {H : Heap} (h78 : yn μ = 78) (hf : yfull μ = true) (hP : va_P (zD g) vwCl (ywd g μ) H) : va_P (zD g) vwCl (zwd g μ) H := by
  intro k q hk
  obtain ⟨h1, rfl⟩ := zwd_get hk
  have h2 := hP k _ (ywd_at (g := g) (μ := μ) (by omega))
  have hf1 := List.all_eq_true.mp hf k (List.mem_range.mpr h1)
  have hkd : zkd k < 10 := by
    have : ∀ k, k < 78 → zkd k < 10 := by decide +kernel
    exact this k h1
  by_cases c7 : zkd k < 7
  · rw [if_pos c7] at hf1
    have e : yfs g (zkd k) k (μ k) = zfs g (zkd k) k (μ k) := by
      apply List.ext_getElem?
      intro j
      simp only [yfs, zfs, List.getElem?_mapIdx]
      cases ho : (zoff.getD (zkd k) [])[j]? with
      | none => rfl
      | some o =>
        cases o with
        | none => rfl
        | some d =>
          have hj : j < 16 := by
            have q : ∀ c, c < 7 → (zoff.getD c []).length ≤ 16 := by decide +kernel
            have := (List.getElem?_eq_some_iff.mp ho).1
            have := q _ c7
            omega
          have hj2 := of_decide_eq_true (List.all_eq_true.mp hf1 j (List.mem_range.mpr hj))
          rw [ho] at hj2
          have hj3 : ¬ μ k j = 0 := by
            rcases hj2 with q | q | q
            · cases q
            · cases q
            · exact q
          simp [yval, zval, hj3]
    rw [ycell_o _ rfl c7, e] at h2
    rw [zcell_o _ rfl c7]
    exact h2
  · rw [if_neg c7] at hf1
    rcases (show zkd k = 7 ∨ zkd k = 8 ∨ zkd k = 9 by omega) with c | c | c
    · rw [ycell_i _ c] at h2
      rw [zcell_i _ c]
      exact h2
    · rw [ycell_s _ c] at h2
      rw [zcell_s _ c]
      have hf2 : ∀ j, j < zln k → ¬ μ k j = 0 := by
        intro j hj
        rw [c] at hf1
        have hf3 := List.all_eq_true.mp (by simpa using hf1) j (List.mem_range.mpr hj)
        exact of_decide_eq_true hf3
      have h3 : H[zad g k]? = some (vp_cell _ _) := h2
      show H[zad g k]? = some (vp_cell _ _)
      rw [h3, vp_cell_q, vp_cell_q]
      exact congrArg some (arrV_ext (fun j hj => by rw [if_neg (hf2 j hj)]))
    · rw [ycell_t _ c] at h2
      rw [zcell_t _ c]
      have hf2 : ∀ j, j < zln k → ¬ μ k j = 0 := by
        intro j hj
        rw [c] at hf1
        have hf3 := List.all_eq_true.mp (by simpa using hf1) j (List.mem_range.mpr hj)
        exact of_decide_eq_true hf3
      have h3 : H[zad g k]? = some (vp_cell _ _) := h2
      show H[zad g k]? = some (vp_cell _ _)
      rw [h3, vp_cell_q, vp_cell_q]
      exact congrArg some (arrV_ext (fun j hj => by rw [if_neg (hf2 j hj)]))
theorem y2zV {g : zG} {p : Program} {l : Launch} {e : Env} {R : Room} {s : State} {m : MethodId} {args : Array Value} {below : List Frame} {meth : Method} {c : Code} {Q : State → Prop} {A : Nat → Prop} {pc : Nat} {lv : List (Nat × Value)} {st : List Value} {μ : zMem} (h78 : yn μ = 78) (hf : yfull μ = true) (k : zV g ((p, l, e, R, s, m), (args, below, meth, c), (78, 12480, Q), A) pc lv st μ) : yV g ((p, l, e, R, s, m), (args, below, meth, c), (78, 12480, Q), A) 0 pc lv st μ := by
  intro H locs ls hz hP hS hl
  have := k H locs ls (y2z h78 hf hP) hS hl
  rw [h78]
  exact this
theorem yi_astore_n {g : zG} {κ : zK} {own : String} {cc : ByteArray} {nL d mc n0 : Nat} (X : yC g κ own cc nL d mc n0) {pc pc' : Nat} {lv : List (Nat × Value)} {st : List Value} {μ : zMem} {n : Fin 4} {i : Nat} {x : Nat} (hd : decode cc pc = .ok (.astore_n n, 1)) (hp : pc + 1 = pc') (hi : (n : Nat) = i) (hn : i < nL) (lv' : List (Nat × Value)) (hl' : (i, Value.ref x) :: lv.filter (fun q => !(q.1 == i) && !(q.1 + 1 == i && q.2.category == 2)) = lv') (k : yV g κ n0 pc' lv' st μ) : yV g κ n0 pc lv (.ref x :: st) μ := by
  obtain ⟨⟨p, l, e, R, s, m⟩, ⟨args, below, meth, cx⟩, ⟨cells, slots, Q⟩, A⟩ := κ
  obtain ⟨hx, hb, hml, hown, hts, hKw, hAd, hA, hR, hC, hin, hs0⟩ := X
  subst hp
  intro H locs ls hz hP hS hl
  exact lv_astore_n hx hb hd hi hl (by rw [hml]; exact hn) hl' (fun ls hl => k H locs ls hz hP hS hl)
/-! the literals at the start -/
abbrev zflat : List Cond := flatC (Jvm.Cond.and given_1 narrow_1)
abbrev ztm (i : Nat) : Term := .string (zso i) (zsx i)
theorem zst_1 : ∀ i, i < 27 → Cond.exactly (ztm i) "java/lang/String" ∈ zflat := by decide +kernel
theorem zst_2 : ∀ i, i < 27 → Cond.eq (.field (ztm i) "java/lang/String" "coder" "B") (.int 0) ∈ zflat := by decide +kernel
theorem zst_3 : ∀ i, i < 27 → Cond.arrayOf (.field (ztm i) "java/lang/String" "value" "[B") .byte ∈ zflat := by decide +kernel
theorem zst_4 : ∀ i, i < 27 → Cond.eq (.length (.field (ztm i) "java/lang/String" "value" "[B")) (.int (Int32.ofNat (zsb i).length)) ∈ zflat := by decide +kernel
theorem zst_5 : ∀ i, i < 27 → ∀ j, j < (zsb i).length → Cond.eq (.elem (.field (ztm i) "java/lang/String" "value" "[B") (.int (Int32.ofNat j))) (.int ((zsb i).getD j 0)) ∈ zflat := by decide +kernel
theorem zst_6 : ∀ i, i < 27 → Cond.stringRef (zso i) (zsx i) (zst_t i) ∈ lw_tbl := by decide +kernel
theorem zst_7 : ∀ i, i < 27 → (zsb i).length < 2 ^ 31 := by decide +kernel
theorem zst_8 : Cond.eq (.static "java/lang/String" "COMPACT_STRINGS" "Z") (.int 1) ∈ zflat := by decide +kernel
theorem zst_9 : Cond.isRef (.static "jdk/internal/util/Preconditions" "SIOOBE_FORMATTER" "Ljava/util/function/BiFunction;") ∈ zflat := by decide +kernel
theorem zst_a : Cond.laysStatic "java/lang/String" "COMPACT_STRINGS" "Z" ∈ lw_tbl := by decide +kernel
theorem zst_b : Cond.laysStatic "jdk/internal/util/Preconditions" "SIOOBE_FORMATTER" "Ljava/util/function/BiFunction;" ∈ lw_tbl := by decide +kernel
theorem zst_c : Cond.initialized "java/lang/String" ∈ lw_tbl := by decide +kernel
theorem zst_d : Cond.initialized "jdk/internal/util/Preconditions" ∈ lw_tbl := by decide +kernel
theorem zst_of {args : Array Value} {s : State} {A : Nat → Prop} (hA : ∀ a : Nat, a < s.heap.size → ¬ A a) (hts : ∀ w ∈ lw_tbl, w.before args s = true) (hs : ∀ w ∈ zflat, w.before args s = true) :
    ∃ ak av : Nat → Nat, ∀ g : zG, (∀ k, zak g k = ak k) → (∀ k, zav g k = av k) → zSt g A s s.heap := by
  have h1 : ∀ i : Nat, ∃ q : Nat × Nat, i < 27 → vk_R (zso i) (zsx i) (zst_t i) q.1 s ∧ va_O "java/lang/String" q.1 A s s.heap ∧ va_OF "java/lang/String" "coder" "B" (.int 0) q.1 A s s.heap ∧ va_OF "java/lang/String" "value" "[B" (.ref q.2) q.1 A s s.heap ∧ va_T .byte q.2 (zsb i).length (fun j => .int ((zsb i).getD j 0)) A s s.heap := by
    intro i
    by_cases hi : i < 27
    · obtain ⟨adK, adV, hv, he⟩ := vk_Sof (args := args) (s := s) (N := 1) (tm := fun _ => ztm i) (len := [(zsb i).length]) (byt := [zsb i]) (A := A) (fun k hk => by rw [show k = 0 by omega]; exact zst_7 i hi) (fun _ _ => hs _ (zst_1 i hi)) (fun _ _ => hs _ (zst_2 i hi)) (fun _ _ => hs _ (zst_3 i hi)) (fun k hk => by rw [show k = 0 by omega]; exact hs _ (zst_4 i hi)) (fun k hk j hj => by rw [show k = 0 by omega] at hj ⊢; exact hs _ (zst_5 i hi j hj)) (fun a b ha hb hab => absurd (show a = b by omega) hab) hA
      have h0 := hv.1 0 (by decide)
      exact ⟨(adK 0, adV 0), fun _ => ⟨vk_R.of (hts _ (zst_6 i hi)) (he 0 (by decide)), h0⟩⟩
    · exact ⟨(0, 0), fun h => absurd h hi⟩
  obtain ⟨ad, had⟩ := Classical.axiomOfChoice h1
  refine ⟨fun k => (ad k).1, fun k => (ad k).2, fun g hk hv => ⟨⟨va_Zof (hts _ zst_a) (hts _ zst_c) (va_eqt (hs _ zst_8)) hA, va_Zqof (hts _ zst_b) (hts _ zst_d) (hs _ zst_9) hA⟩, fun i hi => ?_⟩⟩
  rw [hk, hv]
  exact had i hi
theorem zin {w : Cond} (h : w ∈ zgw) : w ∈ lw_tbl := (List.mem_filter.mp h).1
theorem zaoT : Cond.arrayOver (.object RX4) ∈ lw_tbl := by decide +kernel
theorem zaoS : Cond.arrayOver (.object RX2) ∈ lw_tbl := by decide +kernel
theorem zgl : "GroundTentsLaw" = RL := rfl
theorem zinst_0 : Cond.instantiable RX0 7 ∈ lw_tbl := List.mem_append_right _ (List.mem_of_getElem? (i := 25) (by decide +kernel))
theorem zinst_1 : Cond.instantiable RX1 4 ∈ lw_tbl := List.mem_append_right _ (List.mem_of_getElem? (i := 96) (by decide +kernel))
theorem zinst_2 : Cond.instantiable RX2 3 ∈ lw_tbl := List.mem_append_right _ (List.mem_of_getElem? (i := 142) (by decide +kernel))
theorem zinst_3 : Cond.instantiable RX3 6 ∈ lw_tbl := List.mem_append_right _ (List.mem_of_getElem? (i := 115) (by decide +kernel))
theorem zinst_4 : Cond.instantiable RX4 4 ∈ lw_tbl := List.mem_append_right _ (List.mem_of_getElem? (i := 35) (by decide +kernel))
theorem zinst_5 : Cond.instantiable RX5 9 ∈ lw_tbl := List.mem_append_right _ (List.mem_of_getElem? (i := 17) (by decide +kernel))
theorem zinst_6 : Cond.instantiable RX6 16 ∈ lw_tbl := List.mem_append_right _ (List.mem_of_getElem? (i := 778) (by decide +kernel))
set_option maxRecDepth 1000000 in
set_option maxHeartbeats 4000000 in
theorem zstart {Inv : zMem → Prop} (hI : Inv zm4) (h0 : zE0 Inv) (h1 : zE1 Inv) (h2 : zE2 Inv) (h3 : zE3 Inv) (h4 : zE4 Inv) (h5 : zE5 Inv) (h6 : zE6 Inv) (h7 : zE7 Inv) (h8 : zE8 Inv) (h9 : zE9 Inv) (h10 : zE10 Inv) (h11 : zE11 Inv) (h12 : zE12 Inv) (h13 : zE13 Inv) (h14 : zE14 Inv) (h15 : zE15 Inv) (h16 : zE16 Inv) (h17 : zE17 Inv) (h18 : zE18 Inv) (h19 : zE19 Inv) (h20 : zE20 Inv) (h21 : zE21 Inv) (h22 : zE22 Inv) (h23 : zE23 Inv) (h24 : zE24 Inv) (h25 : zE25 Inv) (h26 : zE26 Inv) (h27 : zE27 Inv) (h28 : zE28 Inv) (h29 : zE29 Inv) (h30 : zE30 Inv) (h31 : zE31 Inv) (h32 : zE32 Inv) (h33 : zE33 Inv) (h34 : zE34 Inv) (h35 : zE35 Inv) (h36 : zE36 Inv) (h37 : zE37 Inv) (h38 : zE38 Inv) (h39 : zE39 Inv) (h40 : zE40 Inv) (h41 : zE41 Inv) (h42 : zE42 Inv) (h43 : zE43 Inv) {p : Program} {e : Env} {s : State} {m : MethodId} {below : List Frame} {meth : Method} {c : Code} (l : Launch) {b L : Nat} {xs : Nat → Int32} (hL : L ≤ 3072) (C0 : lw_At p s m meth c b L xs) : W p l e room_1 s m #[Value.ref b] below meth c s.heap [] 0 0 (lw_Z below #[Value.ref b] s) (entryFrame m ([Value.ref b] : List Value).toArray 4) := by
  obtain ⟨hx, hb, hr, hml, hown, hts, hX, hbl, hlocks, hgv⟩ := id C0
  have hs := flat_of_before _ hgv
  have hA0 : ∀ a : Nat, a < s.heap.size → ¬ (fun q : Nat => s.heap.size ≤ q) a := fun a h => Nat.not_le.mpr h
  obtain ⟨ak, av, hstr⟩ := zst_of hA0 hts hs
  obtain ⟨c0, iS0, hKn0⟩ := u_known (C := RX0) (T := TX0) (N := 7) (n := 7) hts (fun w h => zin (zu_0 w h)) (hts _ zinst_0)
  obtain ⟨c1, iS1, hKn1⟩ := u_known (C := RX1) (T := TX1) (N := 4) (n := 4) hts (fun w h => zin (zu_1 w h)) (hts _ zinst_1)
  obtain ⟨c2, iS2, hKn2⟩ := u_known (C := RX2) (T := TX2) (N := 3) (n := 3) hts (fun w h => zin (zu_2 w h)) (hts _ zinst_2)
  obtain ⟨c3, iS3, hKn3⟩ := u_known (C := RX3) (T := TX3) (N := 6) (n := 6) hts (fun w h => zin (zu_3 w h)) (hts _ zinst_3)
  obtain ⟨c4, iS4, hKn4⟩ := u_known (C := RX4) (T := TX4) (N := 4) (n := 4) hts (fun w h => zin (zu_4 w h)) (hts _ zinst_4)
  obtain ⟨c5, iS5, hKn5⟩ := u_known (C := RX5) (T := TX5) (N := 9) (n := 9) hts (fun w h => zin (zu_5 w h)) (hts _ zinst_5)
  obtain ⟨c6, iS6, hKn6⟩ := u_known (C := RX6) (T := TX6) (N := 16) (n := 16) hts (fun w h => zin (zu_6 w h)) (hts _ zinst_6)
  obtain ⟨dC, dI, hKc⟩ : ∃ (dC : Nat → ClassId) (dI : Nat → Nat → Nat), ∀ (k : Nat) (q : vw_C), vwCl[k]? = some q → u_Kn s q.1 q.2.1 q.2.2 (dC k) (dI k) := by
    refine ⟨fun k => if k = 0 then c0 else if k = 1 then c1 else if k = 2 then c2 else if k = 3 then c3 else if k = 4 then c4 else if k = 5 then c5 else c6, fun k => if k = 0 then iS0 else if k = 1 then iS1 else if k = 2 then iS2 else if k = 3 then iS3 else if k = 4 then iS4 else if k = 5 then iS5 else iS6, ?_⟩
    intro k q hq
    match k, hq with
    | 0, hq => cases hq; exact hKn0
    | 1, hq => cases hq; exact hKn1
    | 2, hq => cases hq; exact hKn2
    | 3, hq => cases hq; exact hKn3
    | 4, hq => cases hq; exact hKn4
    | 5, hq => cases hq; exact hKn5
    | 6, hq => cases hq; exact hKn6
    | k + 7, hq => simp [vwCl] at hq
  obtain ⟨cI, kI, compI, i1, i2, i3⟩ := Cond.arrayClass_spec (hts _ (zin zarr_int))
  obtain ⟨compT, cT, kT, t1, -, t3, t4, t5⟩ := Cond.arrayOver_spec (hts _ zaoT)
  obtain ⟨compS, cS, kS, s1, -, s3, s4, s5⟩ := Cond.arrayOver_spec (hts _ zaoS)
  obtain ⟨g, hg⟩ : ∃ g : zG, g = ((dC, dI), (cI, cT, cS), (fun k => s.heap.size + k), ak, av) := ⟨_, rfl⟩
  have hSt : zSt g (fun q : Nat => s.heap.size ≤ q) s s.heap := hstr g (fun k => by rw [hg]; rfl) (fun k => by rw [hg]; rfl)
  have had : ∀ k, zad g k = s.heap.size + k := fun k => by rw [hg]; rfl
  have hK : va_K (zD g) vwCl (ztys g) s := by
    rw [hg]
    refine ⟨hKc, fun k q hq => ?_⟩
    match k, hq with
    | 0, hq => cases hq; exact ⟨fun n z => ⟨fun k h => (by cases h), kI, i2, compI, i3⟩, i1⟩
    | 1, hq => cases hq; exact ⟨fun n z => ⟨fun k h => (by cases h), kT, t3, compT, t4⟩, kT, compT, t3, t4, t1, t5⟩
    | 2, hq => cases hq; exact ⟨fun n z => ⟨fun k h => (by cases h), kS, s3, compS, s4⟩, kS, compS, s3, s4, s1, s5⟩
    | k + 3, hq => simp [ztys] at hq
  have hKw : zKw g s := ⟨hK, fun i j _ _ h => by rw [had, had] at h; omega, fun w hw hn => by
    have h1 := hts w hw
    cases w <;> first | exact absurd hn Bool.false_ne_true | exact va_Nw.of rfl h1⟩
  have hAO : yAO s := ⟨hts _ zaoT, hts _ zaoS⟩
  have hAd : yAd g := fun k => by rw [had, had]; omega
  have hgw : ∀ w ∈ zgw, w.before #[Value.ref b] s = true := fun w h => hts w (zin h)
  have X1 : yC g ((p, l, e, room_1, s, m), (#[Value.ref b], below, meth, c), (78, 12480, lw_Z below #[Value.ref b] s), (fun q : Nat => s.heap.size ≤ q)) RL code 4 11 78 0 := ⟨hx, hb, hml, hown, hgw, hKw, hAd, fun q => by rw [had]; exact Iff.rfl, ⟨by decide, by decide⟩, ⟨by decide, by decide⟩, hAO, by rw [had]⟩
  have X2 : zC g ((p, l, e, room_1, s, m), (#[Value.ref b], below, meth, c), (78, 12480, lw_Z below #[Value.ref b] s), (fun q : Nat => s.heap.size ≤ q)) RL code 4 11 := ⟨hx, hb, hml, hown, hgw, hKw, hSt, fun k _ => by rw [had]; exact Nat.le_add_right _ _, ⟨by decide, by decide⟩, ⟨by decide, by decide⟩⟩
  have Y2 : zLw ((p, l, e, room_1, s, m), (#[Value.ref b], below, meth, c), (78, 12480, lw_Z below #[Value.ref b] s), (fun q : Nat => s.heap.size ≤ q)) b L xs := ⟨hX, hbl, Nat.not_le.mpr hbl⟩
  have hret : ∀ lv μ, decode code 1604 = .ok (.ireturn, 1) → zV g ((p, l, e, room_1, s, m), (#[Value.ref b], below, meth, c), (78, 12480, lw_Z below #[Value.ref b] s), (fun q : Nat => s.heap.size ≤ q)) 1604 lv [.int 1] μ := by
    intro lv μ hd H locs ls hP hS hl
    refine va_forget (fun q hq => hS.2.2 q hq) ?_
    refine W.widen (k := 600000) (n := 7302250) (by decide) (by decide) ?_
    exact lw_ret hx hb hr hlocks hd
  have key4 : zV g ((p, l, e, room_1, s, m), (#[Value.ref b], below, meth, c), (78, 12480, lw_Z below #[Value.ref b] s), (fun q : Nat => s.heap.size ≤ q)) 16 [(2, .ref (zad g 66)), (1, .ref (zad g 0)), (0, .ref b)] [] zm4 := by
    refine zi_iconst (v := nI 0) (pc' := 17) X2 dL_law_16 rfl rfl ?_
    refine zi_istore_n (pc' := 18) X2 dL_law_17 rfl rfl (by decide) [(3, .int (nI 0)), (2, .ref (zad g 66)), (1, .ref (zad g 0)), (0, .ref b)] rfl ?_
    exact zi_sub X2 [3, 2, 1, 0] _ rfl (zloop X2 Y2 hL hret h0 h1 h2 h3 h4 h5 h6 h7 h8 h9 h10 h11 h12 h13 h14 h15 h16 h17 h18 h19 h20 h21 h22 h23 h24 h25 h26 h27 h28 h29 h30 h31 h32 h33 h34 h35 h36 h37 h38 h39 h40 h41 h42 h43 (L + 7) 0 (by omega) (by omega) zm4 hI)
  have e1 : yn zm0 = 0 := by decide
  have e2 := zm1_ok.2
  have e3 := zm2_yn
  have e4 := zm3_ok.2
  have key : yV g ((p, l, e, room_1, s, m), (#[Value.ref b], below, meth, c), (78, 12480, lw_Z below #[Value.ref b] s), (fun q : Nat => s.heap.size ≤ q)) 0 0 [(0, .ref b)] [] zm0 := by
    refine yi_new (pc' := 3) X1 zn_L_7 (by decide) (ygO_ok zm1_ok.1) dL_law_0 rfl ?_
    rw [e1]
    refine yi_dup (pc' := 4) X1 dL_law_3 rfl rfl ?_
    have z2 : zok (bX5_init (yn zm1) 0 zm1) (fun _ μ' => μ' = zm2) := by rw [zsome zm2_ok]; exact rfl
    refine yi_callI (pc' := 7) X1 zl_L_9 [] rfl rfl (by decide) (Nat.le_of_ble_eq_true rfl) (by rw [show yn (yk zm0) = 1 from e2]; decide) dL_law_4 rfl ⟨uX5_init g rfl (zok_imp z2 (fun _ μ' h => ?_)), trivial⟩
    subst h
    refine ⟨by rw [e3, show yn (yk zm0) = 1 from e2], ?_⟩
    refine yi_astore_n (pc' := 8) X1 dL_law_7 rfl rfl (by decide) [(1, .ref (zad g 0)), (0, .ref b)] rfl ?_
    refine yi_new (pc' := 11) X1 zn_L_10 (by decide) (ygO_ok zm3_ok.1) dL_law_8 rfl ?_
    rw [e3]
    refine yi_dup (pc' := 12) X1 dL_law_11 rfl rfl ?_
    have z4 : zok (bX6_init (yn zm3) 66 zm3) (fun _ μ' => μ' = zm4) := by rw [zsome zm4_ok]; exact rfl
    refine yi_callI (pc' := 15) X1 zl_L_12 [] rfl rfl (by decide) (Nat.le_of_ble_eq_true rfl) (by rw [show yn (yk zm2) = 67 from e4]; decide) dL_law_12 rfl ⟨uX6_init g rfl (zok_imp z4 (fun _ μ' h => ?_)), trivial⟩
    subst h
    refine ⟨by rw [zm4_yn, show yn (yk zm2) = 67 from e4], ?_⟩
    refine yi_astore_n (pc' := 16) X1 dL_law_15 rfl rfl (by decide) [(2, .ref (zad g 66)), (1, .ref (zad g 0)), (0, .ref b)] rfl ?_
    exact y2zV zm4_yn zm4_full key4
  have hl := lv_entry ([.ref b]) (n := 4) (Nat.le_of_ble_eq_true rfl)
  rw [lg_entry_eq]
  generalize (lg_sl ([.ref b]) ++ List.replicate (4 - (lg_sl ([.ref b])).length) Slot.unset).toArray = ls at hl ⊢
  have := key s.heap [] ls (Nat.zero_le _) (by
    have : ywd g zm0 = [] := by unfold ywd; rw [e1]; rfl
    rw [this]; exact fun k q h => by simp at h) va_S.rf (by rw [hml]; exact hl)
  rw [e1] at this
  exact this
