theorem y2z {g : zG} {μ : zMem} {H : Heap} (h78 : yn μ = 78) (hf : yfull μ = true) (hP : va_P (zD g) vwCl (ywd g μ) H) : va_P (zD g) vwCl (zwd g μ) H := by
  intro k q hk
  obtain ⟨h1, rfl⟩ := zwd_get hk
  have h2 := hP k _ (ywd_at (g := g) (μ := μ) (by omega))
  have hf1 := List.all_eq_true.mp hf k (List.mem_range.mpr h1)
  have hkd : zkd k < 10 := by
    have : ∀ k, k < 78 → zkd k < 10 := by decide +kernel
    exact this k h1
  by_cases c7 : zkd k < 7
  · rw [if_pos c7] at hf1
    have e : yfs g (zkd k) k (μ k) = zfs g (zkd k) k (μ k) := by
      apply List.ext_getElem?
      intro j
      simp only [yfs, zfs, List.getElem?_mapIdx]
      cases ho : (zoff.getD (zkd k) [])[j]? with
      | none => rfl
      | some o =>
        cases o with
        | none => rfl
        | some d =>
          have hj : j < 16 := by
            have q : ∀ c, c < 7 → (zoff.getD c []).length ≤ 16 := by decide +kernel
            have := (List.getElem?_eq_some_iff.mp ho).1
            have := q _ c7
            omega
          have hj2 := of_decide_eq_true (List.all_eq_true.mp hf1 j (List.mem_range.mpr hj))
          rw [ho] at hj2
          have hj3 : ¬ μ k j = 0 := by
            rcases hj2 with q | q | q
            · cases q
            · cases q
            · exact q
          simp [yval, zval, hj3]
    rw [ycell_o _ rfl c7, e] at h2
    rw [zcell_o _ rfl c7]
    exact h2
  · rw [if_neg c7] at hf1
    rcases (show zkd k = 7 ∨ zkd k = 8 ∨ zkd k = 9 by omega) with c | c | c
    · rw [ycell_i _ c] at h2
      rw [zcell_i _ c]
      exact h2
    · rw [ycell_s _ c] at h2
      rw [zcell_s _ c]
      have hf2 : ∀ j, j < zln k → ¬ μ k j = 0 := by
        intro j hj
        rw [c] at hf1
        have hf3 : ∀ x, x < zln k → ¬ μ k x = 0 := by simpa using hf1
        exact hf3 j hj
      have h3 : H[zad g k]? = some (vp_cell _ _) := h2
      show H[zad g k]? = some (vp_cell _ _)
      rw [h3, vp_cell_q, vp_cell_q]
      exact congrArg some (arrV_ext (fun j hj => by rw [if_neg (hf2 j hj)]))
    · rw [ycell_t _ c] at h2
      rw [zcell_t _ c]
      have hf2 : ∀ j, j < zln k → ¬ μ k j = 0 := by
        intro j hj
        rw [c] at hf1
        have hf3 : ∀ x, x < zln k → ¬ μ k x = 0 := by simpa using hf1
        exact hf3 j hj
      have h3 : H[zad g k]? = some (vp_cell _ _) := h2
      show H[zad g k]? = some (vp_cell _ _)
      rw [h3, vp_cell_q, vp_cell_q]
      exact congrArg some (arrV_ext (fun j hj => by rw [if_neg (hf2 j hj)]))
theorem y2zV {g : zG} {p : Program} {l : Launch} {e : Env} {R : Room} {s : State} {m : MethodId} {args : Array Value} {below : List Frame} {meth : Method} {c : Code} {Q : State → Prop} {A : Nat → Prop} {pc : Nat} {lv : List (Nat × Value)} {st : List Value} {μ : zMem} (h78 : yn μ = 78) (hf : yfull μ = true) (k : zV g ((p, l, e, R, s, m), (args, below, meth, c), (78, 12480, Q), A) pc lv st μ) : yV g ((p, l, e, R, s, m), (args, below, meth, c), (78, 12480, Q), A) 0 pc lv st μ := by
  intro H locs ls hz hP hS hl
  have := k H locs ls (y2z h78 hf hP) hS hl
  rw [h78]
  exact this
theorem yi_astore_n {g : zG} {κ : zK} {own : String} {cc : ByteArray} {nL d mc n0 : Nat} (X : yC g κ own cc nL d mc n0) {pc pc' : Nat} {lv : List (Nat × Value)} {st : List Value} {μ : zMem} {n : Fin 4} {i : Nat} {x : Nat} (hd : decode cc pc = .ok (.astore_n n, 1)) (hp : pc + 1 = pc') (hi : (n : Nat) = i) (hn : i < nL) (lv' : List (Nat × Value)) (hl' : (i, Value.ref x) :: lv.filter (fun q => !(q.1 == i) && !(q.1 + 1 == i && q.2.category == 2)) = lv') (k : yV g κ n0 pc' lv' st μ) : yV g κ n0 pc lv (.ref x :: st) μ := by
  obtain ⟨⟨p, l, e, R, s, m⟩, ⟨args, below, meth, cx⟩, ⟨cells, slots, Q⟩, A⟩ := κ
  obtain ⟨hx, hb, hml, hown, hts, hKw, hAd, hA, hR, hC, hin, hs0⟩ := X
  subst hp
  intro H locs ls hz hP hS hl
  exact lv_astore_n hx hb hd hi hl (by rw [hml]; exact hn) hl' (fun ls hl => k H locs ls hz hP hS hl)
/-! the literals at the start -/
abbrev zflat : List Cond := flatC (Jvm.Cond.and given_1 narrow_1)
abbrev ztm (i : Nat) : Term := .string (zso i) (zsx i)
theorem zst_1 : ∀ i, i < 27 → Cond.exactly (ztm i) "java/lang/String" ∈ zflat := by decide +kernel
theorem zst_2 : ∀ i, i < 27 → Cond.eq (.field (ztm i) "java/lang/String" "coder" "B") (.int 0) ∈ zflat := by decide +kernel
theorem zst_3 : ∀ i, i < 27 → Cond.arrayOf (.field (ztm i) "java/lang/String" "value" "[B") .byte ∈ zflat := by decide +kernel
theorem zst_4 : ∀ i, i < 27 → Cond.eq (.length (.field (ztm i) "java/lang/String" "value" "[B")) (.int (Int32.ofNat (zsb i).length)) ∈ zflat := by decide +kernel
theorem zst_5 : ∀ i, i < 27 → ∀ j, j < (zsb i).length → Cond.eq (.elem (.field (ztm i) "java/lang/String" "value" "[B") (.int (Int32.ofNat j))) (.int ((zsb i).getD j 0)) ∈ zflat := by decide +kernel
theorem zst_6 : ∀ i, i < 27 → Cond.stringRef (zso i) (zsx i) (zst_t i) ∈ lw_tbl := by decide +kernel
theorem zst_7 : ∀ i, i < 27 → (zsb i).length < 2 ^ 31 := by decide +kernel
theorem zst_8 : Cond.eq (.static "java/lang/String" "COMPACT_STRINGS" "Z") (.int 1) ∈ zflat := by decide +kernel
theorem zst_9 : Cond.isRef (.static "jdk/internal/util/Preconditions" "SIOOBE_FORMATTER" "Ljava/util/function/BiFunction;") ∈ zflat := by decide +kernel
theorem zst_a : Cond.laysStatic "java/lang/String" "COMPACT_STRINGS" "Z" ∈ lw_tbl := by decide +kernel
theorem zst_b : Cond.laysStatic "jdk/internal/util/Preconditions" "SIOOBE_FORMATTER" "Ljava/util/function/BiFunction;" ∈ lw_tbl := by decide +kernel
theorem zst_c : Cond.initialized "java/lang/String" ∈ lw_tbl := by decide +kernel
theorem zst_d : Cond.initialized "jdk/internal/util/Preconditions" ∈ lw_tbl := by decide +kernel
theorem zst_of {args : Array Value} {s : State} {A : Nat → Prop} (hA : ∀ a : Nat, a < s.heap.size → ¬ A a) (hts : ∀ w ∈ lw_tbl, w.before args s = true) (hs : ∀ w ∈ zflat, w.before args s = true) :
    ∃ ak av : Nat → Nat, ∀ g : zG, (∀ k, zak g k = ak k) → (∀ k, zav g k = av k) → zSt g A s s.heap := by
  have h1 : ∀ i : Nat, ∃ q : Nat × Nat, i < 27 → vk_R (zso i) (zsx i) (zst_t i) q.1 s ∧ va_O "java/lang/String" q.1 A s s.heap ∧ va_OF "java/lang/String" "coder" "B" (.int 0) q.1 A s s.heap ∧ va_OF "java/lang/String" "value" "[B" (.ref q.2) q.1 A s s.heap ∧ va_T .byte q.2 (zsb i).length (fun j => .int ((zsb i).getD j 0)) A s s.heap := by
    intro i
    by_cases hi : i < 27
    · obtain ⟨adK, adV, hv, he⟩ := vk_Sof (args := args) (s := s) (N := 1) (tm := fun _ => ztm i) (len := [(zsb i).length]) (byt := [zsb i]) (A := A) (fun k hk => by rw [show k = 0 by omega]; exact zst_7 i hi) (fun _ _ => hs _ (zst_1 i hi)) (fun _ _ => hs _ (zst_2 i hi)) (fun _ _ => hs _ (zst_3 i hi)) (fun k hk => by rw [show k = 0 by omega]; exact hs _ (zst_4 i hi)) (fun k hk j hj => by rw [show k = 0 by omega] at hj ⊢; exact hs _ (zst_5 i hi j hj)) (fun a b ha hb hab => absurd (show a = b by omega) hab) hA
      have h0 := hv.1 0 (by decide)
      exact ⟨(adK 0, adV 0), fun _ => ⟨vk_R.of (hts _ (zst_6 i hi)) (he 0 (by decide)), h0⟩⟩
    · exact ⟨(0, 0), fun h => absurd h hi⟩
  obtain ⟨ad, had⟩ := Classical.axiomOfChoice h1
  refine ⟨fun k => (ad k).1, fun k => (ad k).2, fun g hk hv => ⟨⟨va_Zof (hts _ zst_a) (hts _ zst_c) (va_eqt (hs _ zst_8)) hA, va_Zqof (hts _ zst_b) (hts _ zst_d) (hs _ zst_9) hA⟩, fun i hi => ?_⟩⟩
  rw [hk, hv]
  exact had i hi
theorem zin {w : Cond} (h : w ∈ zgw) : w ∈ lw_tbl := (List.mem_filter.mp h).1
theorem zaoT : Cond.arrayOver (.object RX4) ∈ lw_tbl := by decide +kernel
theorem zaoS : Cond.arrayOver (.object RX2) ∈ lw_tbl := by decide +kernel
theorem zgl : "GroundTentsLaw" = RL := rfl
theorem zinst_0 : Cond.instantiable RX0 7 ∈ lw_tbl := List.mem_append_right _ (List.mem_of_getElem? (i := 25) (by decide +kernel))
theorem zinst_1 : Cond.instantiable RX1 4 ∈ lw_tbl := List.mem_append_right _ (List.mem_of_getElem? (i := 96) (by decide +kernel))
theorem zinst_2 : Cond.instantiable RX2 3 ∈ lw_tbl := List.mem_append_right _ (List.mem_of_getElem? (i := 142) (by decide +kernel))
theorem zinst_3 : Cond.instantiable RX3 6 ∈ lw_tbl := List.mem_append_right _ (List.mem_of_getElem? (i := 115) (by decide +kernel))
theorem zinst_4 : Cond.instantiable RX4 4 ∈ lw_tbl := List.mem_append_right _ (List.mem_of_getElem? (i := 35) (by decide +kernel))
theorem zinst_5 : Cond.instantiable RX5 9 ∈ lw_tbl := List.mem_append_right _ (List.mem_of_getElem? (i := 17) (by decide +kernel))
theorem zinst_6 : Cond.instantiable RX6 16 ∈ lw_tbl := List.mem_append_right _ (List.mem_of_getElem? (i := 778) (by decide +kernel))
