set_option maxRecDepth 1000000 in
set_option maxHeartbeats 4000000 in
theorem zstartA {Inv : zMem → Prop} {q0 q2 q4 : zMem} (e1 : yn q0 = 0) (o1 : ygO q0 0 78 5 = true) (e2 : yn (yk q0) = 1) (z2 : zok (bX5_init (yn (yk q0)) 0 (yk q0)) (fun _ μ' => μ' = q2)) (e3 : yn q2 = 66) (o3 : ygO q2 0 78 6 = true) (e4 : yn (yk q2) = 67) (z4 : zok (bX6_init (yn (yk q2)) 66 (yk q2)) (fun _ μ' => μ' = q4)) (e5 : yn q4 = 78) (hful : yfull q4 = true) (hI : Inv q4) (h0 : zE0 Inv) (h1 : zE1 Inv) (h2 : zE2 Inv) (h3 : zE3 Inv) (h4 : zE4 Inv) (h5 : zE5 Inv) (h6 : zE6 Inv) (h7 : zE7 Inv) (h8 : zE8 Inv) (h9 : zE9 Inv) (h10 : zE10 Inv) (h11 : zE11 Inv) (h12 : zE12 Inv) (h13 : zE13 Inv) (h14 : zE14 Inv) (h15 : zE15 Inv) (h16 : zE16 Inv) (h17 : zE17 Inv) (h18 : zE18 Inv) (h19 : zE19 Inv) (h20 : zE20 Inv) (h21 : zE21 Inv) (h22 : zE22 Inv) (h23 : zE23 Inv) (h24 : zE24 Inv) (h25 : zE25 Inv) (h26 : zE26 Inv) (h27 : zE27 Inv) (h28 : zE28 Inv) (h29 : zE29 Inv) (h30 : zE30 Inv) (h31 : zE31 Inv) (h32 : zE32 Inv) (h33 : zE33 Inv) (h34 : zE34 Inv) (h35 : zE35 Inv) (h36 : zE36 Inv) (h37 : zE37 Inv) (h38 : zE38 Inv) (h39 : zE39 Inv) (h40 : zE40 Inv) (h41 : zE41 Inv) (h42 : zE42 Inv) (h43 : zE43 Inv) {p : Program} {e : Env} {s : State} {m : MethodId} {below : List Frame} {meth : Method} {c : Code} (l : Launch) {b L : Nat} {xs : Nat → Int32} (hL : L ≤ 3072) (C0 : lw_At p s m meth c b L xs) : W p l e room_1 s m #[Value.ref b] below meth c s.heap [] 0 0 (lw_Z below #[Value.ref b] s) (entryFrame m ([Value.ref b] : List Value).toArray 4) := by
  obtain ⟨hx, hb, hr, hml, hown, hts, hX, hbl, hlocks, hgv⟩ := id C0
  have hs := flat_of_before _ hgv
  have hA0 : ∀ a : Nat, a < s.heap.size → ¬ (fun q : Nat => s.heap.size ≤ q) a := fun a h => Nat.not_le.mpr h
  obtain ⟨ak, av, hstr⟩ := zst_of hA0 hts hs
  obtain ⟨c0, iS0, hKn0⟩ := u_known (C := RX0) (T := TX0) (N := 7) (n := 7) hts (fun w h => zin (zu_0 w h)) (hts _ zinst_0)
  obtain ⟨c1, iS1, hKn1⟩ := u_known (C := RX1) (T := TX1) (N := 4) (n := 4) hts (fun w h => zin (zu_1 w h)) (hts _ zinst_1)
  obtain ⟨c2, iS2, hKn2⟩ := u_known (C := RX2) (T := TX2) (N := 3) (n := 3) hts (fun w h => zin (zu_2 w h)) (hts _ zinst_2)
  obtain ⟨c3, iS3, hKn3⟩ := u_known (C := RX3) (T := TX3) (N := 6) (n := 6) hts (fun w h => zin (zu_3 w h)) (hts _ zinst_3)
  obtain ⟨c4, iS4, hKn4⟩ := u_known (C := RX4) (T := TX4) (N := 4) (n := 4) hts (fun w h => zin (zu_4 w h)) (hts _ zinst_4)
  obtain ⟨c5, iS5, hKn5⟩ := u_known (C := RX5) (T := TX5) (N := 9) (n := 9) hts (fun w h => zin (zu_5 w h)) (hts _ zinst_5)
  obtain ⟨c6, iS6, hKn6⟩ := u_known (C := RX6) (T := TX6) (N := 16) (n := 16) hts (fun w h => zin (zu_6 w h)) (hts _ zinst_6)
  obtain ⟨dC, dI, hKc⟩ : ∃ (dC : Nat → ClassId) (dI : Nat → Nat → Nat), ∀ (k : Nat) (q : vw_C), vwCl[k]? = some q → u_Kn s q.1 q.2.1 q.2.2 (dC k) (dI k) := by
    refine ⟨fun k => if k = 0 then c0 else if k = 1 then c1 else if k = 2 then c2 else if k = 3 then c3 else if k = 4 then c4 else if k = 5 then c5 else c6, fun k => if k = 0 then iS0 else if k = 1 then iS1 else if k = 2 then iS2 else if k = 3 then iS3 else if k = 4 then iS4 else if k = 5 then iS5 else iS6, ?_⟩
    intro k q hq
    match k, hq with
    | 0, hq => cases hq; exact hKn0
    | 1, hq => cases hq; exact hKn1
    | 2, hq => cases hq; exact hKn2
    | 3, hq => cases hq; exact hKn3
    | 4, hq => cases hq; exact hKn4
    | 5, hq => cases hq; exact hKn5
    | 6, hq => cases hq; exact hKn6
    | k + 7, hq => simp [vwCl] at hq
  obtain ⟨cI, kI, compI, i1, i2, i3⟩ := Cond.arrayClass_spec (hts _ (zin zarr_int))
  obtain ⟨compT, cT, kT, t1, -, t3, t4, t5⟩ := Cond.arrayOver_spec (hts _ zaoT)
  obtain ⟨compS, cS, kS, s1, -, s3, s4, s5⟩ := Cond.arrayOver_spec (hts _ zaoS)
  obtain ⟨g, hg⟩ : ∃ g : zG, g = ((dC, dI), (cI, cT, cS), (fun k => s.heap.size + k), ak, av) := ⟨_, rfl⟩
  have hSt : zSt g (fun q : Nat => s.heap.size ≤ q) s s.heap := hstr g (fun k => by rw [hg]; rfl) (fun k => by rw [hg]; rfl)
  have had : ∀ k, zad g k = s.heap.size + k := fun k => by rw [hg]; rfl
  have hK : va_K (zD g) vwCl (ztys g) s := by
    rw [hg]
    refine ⟨hKc, fun k q hq => ?_⟩
    match k, hq with
    | 0, hq => cases hq; exact ⟨fun n z => ⟨fun k h => (by cases h), kI, i2, compI, i3⟩, i1⟩
    | 1, hq => cases hq; exact ⟨fun n z => ⟨fun k h => (by cases h), kT, t3, compT, t4⟩, kT, compT, t3, t4, t1, t5⟩
    | 2, hq => cases hq; exact ⟨fun n z => ⟨fun k h => (by cases h), kS, s3, compS, s4⟩, kS, compS, s3, s4, s1, s5⟩
    | k + 3, hq => simp [ztys] at hq
  have hKw : zKw g s := ⟨hK, fun i j _ _ h => by rw [had, had] at h; omega, fun w hw hn => by
    have h1 := hts w hw
    cases w <;> first | exact absurd hn Bool.false_ne_true | exact va_Nw.of rfl h1⟩
  have hAO : yAO s := ⟨hts _ zaoT, hts _ zaoS⟩
  have hAd : yAd g := fun k => by rw [had, had]; omega
  have hgw : ∀ w ∈ zgw, w.before #[Value.ref b] s = true := fun w h => hts w (zin h)
  have X1 : yC g ((p, l, e, room_1, s, m), (#[Value.ref b], below, meth, c), (78, 12480, lw_Z below #[Value.ref b] s), (fun q : Nat => s.heap.size ≤ q)) RL code 4 11 78 0 := ⟨hx, hb, hml, hown, hgw, hKw, hAd, fun q => by rw [had]; exact Iff.rfl, ⟨by decide, by decide⟩, ⟨by decide, by decide⟩, hAO, by rw [had]; omega⟩
  have X2 : zC g ((p, l, e, room_1, s, m), (#[Value.ref b], below, meth, c), (78, 12480, lw_Z below #[Value.ref b] s), (fun q : Nat => s.heap.size ≤ q)) RL code 4 11 := ⟨hx, hb, hml, hown, hgw, hKw, hSt, fun k _ => by rw [had]; exact Nat.le_add_right _ _, ⟨by decide, by decide⟩, ⟨by decide, by decide⟩⟩
  have Y2 : zLw ((p, l, e, room_1, s, m), (#[Value.ref b], below, meth, c), (78, 12480, lw_Z below #[Value.ref b] s), (fun q : Nat => s.heap.size ≤ q)) b L xs := ⟨hX, hbl, Nat.not_le.mpr hbl⟩
  have hret : ∀ lv μ, decode code 1604 = .ok (.ireturn, 1) → zV g ((p, l, e, room_1, s, m), (#[Value.ref b], below, meth, c), (78, 12480, lw_Z below #[Value.ref b] s), (fun q : Nat => s.heap.size ≤ q)) 1604 lv [.int 1] μ := by
    intro lv μ hd H locs ls hP hS hl
    refine va_forget (fun q hq => hS.2.2 q hq) ?_
    refine W.widen (k := 600000) (n := 7302250) (by decide) (by decide) ?_
    exact lw_ret hx hb hr hlocks hd
  have key4 : zV g ((p, l, e, room_1, s, m), (#[Value.ref b], below, meth, c), (78, 12480, lw_Z below #[Value.ref b] s), (fun q : Nat => s.heap.size ≤ q)) 16 [(2, .ref (zad g 66)), (1, .ref (zad g 0)), (0, .ref b)] [] q4 := by
    refine zi_iconst (v := nI 0) (pc' := 17) X2 dL_law_16 rfl rfl ?_
    refine zi_istore_n (pc' := 18) X2 dL_law_17 rfl rfl (by decide) [(3, .int (nI 0)), (2, .ref (zad g 66)), (1, .ref (zad g 0)), (0, .ref b)] rfl ?_
    exact zi_sub X2 [3, 2, 1, 0] _ rfl (zloop X2 Y2 hL hret h0 h1 h2 h3 h4 h5 h6 h7 h8 h9 h10 h11 h12 h13 h14 h15 h16 h17 h18 h19 h20 h21 h22 h23 h24 h25 h26 h27 h28 h29 h30 h31 h32 h33 h34 h35 h36 h37 h38 h39 h40 h41 h42 h43 (L + 7) 0 (by omega) (by omega) q4 hI)
  have key : yV g ((p, l, e, room_1, s, m), (#[Value.ref b], below, meth, c), (78, 12480, lw_Z below #[Value.ref b] s), (fun q : Nat => s.heap.size ≤ q)) 0 0 [(0, .ref b)] [] q0 := by
    refine yi_new (pc' := 3) X1 zn_L_7 (by decide) (ygO_ok o1) dL_law_0 rfl ?_
    rw [e1]
    refine yi_dup (pc' := 4) X1 dL_law_3 rfl rfl ?_
    refine yi_callI (pc' := 7) X1 zl_L_9 [] rfl rfl (by decide) (Nat.le_of_ble_eq_true rfl) (by rw [e2]; decide) dL_law_4 rfl ⟨uX5_init g rfl (zok_imp z2 (fun _ μ' h => ?_)), trivial⟩
    subst h
    refine ⟨by rw [e3, e2], ?_⟩
    refine yi_astore_n (pc' := 8) X1 dL_law_7 rfl rfl (by decide) [(1, .ref (zad g 0)), (0, .ref b)] rfl ?_
    refine yi_new (pc' := 11) X1 zn_L_10 (by decide) (ygO_ok o3) dL_law_8 rfl ?_
    rw [e3]
    refine yi_dup (pc' := 12) X1 dL_law_11 rfl rfl ?_
    refine yi_callI (pc' := 15) X1 zl_L_12 [] rfl rfl (by decide) (Nat.le_of_ble_eq_true rfl) (by rw [e4]; decide) dL_law_12 rfl ⟨uX6_init g rfl (zok_imp z4 (fun _ μ' h => ?_)), trivial⟩
    subst h
    refine ⟨by rw [e5, e4], ?_⟩
    refine yi_astore_n (pc' := 16) X1 dL_law_15 rfl rfl (by decide) [(2, .ref (zad g 66)), (1, .ref (zad g 0)), (0, .ref b)] rfl ?_
    exact y2zV e5 hful key4
  have hl := lv_entry ([.ref b]) (n := 4) (Nat.le_of_ble_eq_true rfl)
  rw [lg_entry_eq]
  generalize (lg_sl ([.ref b]) ++ List.replicate (4 - (lg_sl ([.ref b])).length) Slot.unset).toArray = ls at hl ⊢
  have := key s.heap [] ls (Nat.zero_le _) (by
    have : ywd g q0 = [] := by unfold ywd; rw [e1]; rfl
    rw [this]; exact fun k q h => by simp at h) va_S.rf (by rw [hml]; exact hl)
  rw [e1] at this
  exact this
theorem zok_some {α : Type} {r : α} {μ : zMem} {Q : α → zMem → Prop} (h : Q r μ) : zok (some (r, μ)) Q := h
theorem zy2 : zget (bX5_init (yn zm1) 0 zm1) = zm2 := by unfold zm2; exact Eq.refl _
theorem zy4 : zget (bX6_init (yn zm3) 66 zm3) = zm4 := by unfold zm4; exact Eq.refl _
theorem zf1 : zm1 = yk zm0 := by unfold zm1; exact Eq.refl _
theorem zf3 : zm3 = yk zm2 := by unfold zm3; exact Eq.refl _
theorem zz2 : zok (bX5_init (yn (yk zm0)) 0 (yk zm0)) (fun _ μ' => μ' = zm2) := by
  rw [← zf1, zsome zm2_ok, zy2]
  exact zok_some (Eq.refl zm2)
theorem zz4 : zok (bX6_init (yn (yk zm2)) 66 (yk zm2)) (fun _ μ' => μ' = zm4) := by
  rw [← zf3, zsome zm4_ok, zy4]
  exact zok_some (Eq.refl zm4)
theorem zz1 : yn (yk zm0) = 1 := by rw [← zf1]; exact zm1_ok.2
theorem zz3 : yn (yk zm2) = 67 := by rw [← zf3]; exact zm3_ok.2
theorem zz0 : yn zm0 = 0 := by decide
set_option maxRecDepth 100000 in
theorem zstart {Inv : zMem → Prop} (hI : Inv zm4) (h0 : zE0 Inv) (h1 : zE1 Inv) (h2 : zE2 Inv) (h3 : zE3 Inv) (h4 : zE4 Inv) (h5 : zE5 Inv) (h6 : zE6 Inv) (h7 : zE7 Inv) (h8 : zE8 Inv) (h9 : zE9 Inv) (h10 : zE10 Inv) (h11 : zE11 Inv) (h12 : zE12 Inv) (h13 : zE13 Inv) (h14 : zE14 Inv) (h15 : zE15 Inv) (h16 : zE16 Inv) (h17 : zE17 Inv) (h18 : zE18 Inv) (h19 : zE19 Inv) (h20 : zE20 Inv) (h21 : zE21 Inv) (h22 : zE22 Inv) (h23 : zE23 Inv) (h24 : zE24 Inv) (h25 : zE25 Inv) (h26 : zE26 Inv) (h27 : zE27 Inv) (h28 : zE28 Inv) (h29 : zE29 Inv) (h30 : zE30 Inv) (h31 : zE31 Inv) (h32 : zE32 Inv) (h33 : zE33 Inv) (h34 : zE34 Inv) (h35 : zE35 Inv) (h36 : zE36 Inv) (h37 : zE37 Inv) (h38 : zE38 Inv) (h39 : zE39 Inv) (h40 : zE40 Inv) (h41 : zE41 Inv) (h42 : zE42 Inv) (h43 : zE43 Inv) {p : Program} {e : Env} {s : State} {m : MethodId} {below : List Frame} {meth : Method} {c : Code} (l : Launch) {b L : Nat} {xs : Nat → Int32} (hL : L ≤ 3072) (C0 : lw_At p s m meth c b L xs) : W p l e room_1 s m #[Value.ref b] below meth c s.heap [] 0 0 (lw_Z below #[Value.ref b] s) (entryFrame m ([Value.ref b] : List Value).toArray 4) :=
  zstartA (q0 := zm0) (q2 := zm2) (q4 := zm4) zz0 zm1_ok.1 zz1 zz2 zm2_yn zm3_ok.1 zz3 zz4 zm4_yn zm4_full hI h0 h1 h2 h3 h4 h5 h6 h7 h8 h9 h10 h11 h12 h13 h14 h15 h16 h17 h18 h19 h20 h21 h22 h23 h24 h25 h26 h27 h28 h29 h30 h31 h32 h33 h34 h35 h36 h37 h38 h39 h40 h41 h42 h43 l hL C0
