/-! way, reach, drink -/
theorem zrt.congr {E E' : Nat → Nat → Bool} {s : Nat} {d : Nat → Int32} (h : zrt E s d) (he : ∀ a b, a < 25 → b < 25 → E a b = E' a b) : zrt E' s d := by
  obtain ⟨h1, h2, h3, h4, h5⟩ := h
  refine ⟨h1, h2, h3, fun v k hv hk e => ?_, fun u v k hu hv hk e ee => h5 u v k hu hv hk e (by rw [he u v hu hv]; exact ee)⟩
  obtain ⟨u, hu, e1, e2⟩ := h4 v k hv hk e
  exact ⟨u, hu, e1, by rw [← he u v hu hv]; exact e2⟩
/-- both flocks walk from s -/
theorem zflock {n c s : Nat} (hc : c + 1 ≠ 50) (hc' : c + 1 ≠ 51) (hs : s < 25) (l : Int32) {μ1 μ2 : zMem} (h : zSim n c μ1 (μ2 67)) : ∃ ν1 ν2, fX1_roam 49 c (nI s) l μ1 = some ((), ν1) ∧ fX6_walk 66 (nI s) l μ2 = some ((), ν2) ∧ (∀ j, j ≠ 50 → j ≠ 51 → ν1 j = μ1 j) ∧ (∀ j, j ≠ 71 → ν2 j = μ2 j) ∧ zrt (zed (fun i => μ2 67 (4 + i)) l) s (ν2 71) ∧ ∀ v, v < 25 → ν1 50 v = ν2 71 v ∧ (ν2 71 v = -1 ∨ ∃ k, k ≤ 25 ∧ ν2 71 v = nI k) := by
  obtain ⟨ν1, a1, a2, a3⟩ := c1_roam hc hc' hs l μ1
  obtain ⟨ν2, b1, b2, b3⟩ := c6_walk hs l μ2
  have a4 : zrt (zed (fun i => μ2 67 (4 + i)) l) s (ν1 50) := a3.congr (fun a b ha hb => by
    unfold zed; rw [zcb_sim h ha hb])
  exact ⟨ν1, ν2, a1, b1, a2, b2, b3, fun v hv => ⟨zrt_uniq a4 b3 v hv, b3.1 v hv⟩⟩
theorem c6_areWay (a b c : Int32) (μ : zMem) : fX6_areWay a b c μ = some (zb ((0 ≤ a ∧ a ≤ 24) ∧ (0 ≤ b ∧ b ≤ 24) ∧ 0 ≤ c ∧ c ≤ 99), μ) := by
  unfold fX6_areWay
  rw [c6_isCell, zbd_s]
  by_cases h1 : 0 ≤ a ∧ a ≤ 24
  · rw [zif_t h1, c6_isCell, zbd_s]
    by_cases h2 : 0 ≤ b ∧ b ≤ 24
    · rw [zif_t h2, c6_isHigh, zbd_s]
      by_cases h3 : 0 ≤ c ∧ c ≤ 99
      · rw [zif_t h3, zb_t (c := (0 ≤ a ∧ a ≤ 24) ∧ (0 ≤ b ∧ b ≤ 24) ∧ 0 ≤ c ∧ c ≤ 99) ⟨h1, h2, h3⟩]
      · rw [zif_f h3, zb_f (c := (0 ≤ a ∧ a ≤ 24) ∧ (0 ≤ b ∧ b ≤ 24) ∧ 0 ≤ c ∧ c ≤ 99) (fun z => h3 z.2.2)]
    · rw [zif_f h2, zb_f (c := (0 ≤ a ∧ a ≤ 24) ∧ (0 ≤ b ∧ b ≤ 24) ∧ 0 ≤ c ∧ c ≤ 99) (fun z => h2 z.2.1)]
  · rw [zif_f h1, zb_f (c := (0 ≤ a ∧ a ≤ 24) ∧ (0 ≤ b ∧ b ≤ 24) ∧ 0 ≤ c ∧ c ≤ 99) (fun z => h1 z.1)]
theorem zfr1 {ν1 μ1 : zMem} (h : ∀ j, j ≠ 50 → j ≠ 51 → ν1 j = μ1 j) : ∀ j, ¬ zscr j → j < 78 → ν1 j = μ1 j := fun j q _ => by
  unfold zscr at q; exact h j (by omega) (by omega)
theorem zfr2 {ν1 μ1 : zMem} (h : ∀ j, j ≠ 71 → ν1 j = μ1 j) : ∀ j, ¬ zscr j → j < 78 → ν1 j = μ1 j := fun j q _ => by
  unfold zscr at q; exact h j (by omega)
theorem zz67 {μ μ2 : zMem} (h : ∀ j, ¬ zscr j → j < 78 → j ≠ 56 → μ2 j = μ j) : μ2 67 = μ 67 := h 67 (by unfold zscr; omega) (by omega) (by omega)
theorem e9 : zE9 zInv := by
  intro a1 a2 a3 μ hI
  obtain ⟨⟨n, hc⟩, -⟩ := id hI
  by_cases h1 : 0 ≤ a1 ∧ a1 ≤ 24
  · by_cases h2 : 0 ≤ a2 ∧ a2 ≤ 24
    · by_cases h3 : 0 ≤ a3 ∧ a3 ≤ 99
      · obtain ⟨s, hs, rfl⟩ := zrng (n := 24) rfl h1
        obtain ⟨v, hv, rfl⟩ := zrng (n := 24) rfl h2
        refine ztry hI (fun μ2 h => ?_)
        obtain ⟨ν1, ν2, f1, f2, f3, f4, -, f5⟩ := zflock (n := n) (c := 1) (s := s) (by omega) (by omega) (by omega) a3 (μ1 := μ) (μ2 := μ2) (by rw [zz67 h]; exact hc.2.1)
        obtain ⟨g1, g2⟩ := f5 v (by omega)
        refine ⟨ν1, ν2, zfr1 f3, zfr2 f4, ?_⟩
        have k5 : fX5_way 0 (nI s) (nI v) a3 μ = if ν1 50 v = (-1 : Int32) then fX5_finding 0 3 ν1 else some (ν1 50 v, ν1) := by
          unfold fX5_way fX1_stepsBetween
          rw [c5_isCell, zbd_s, zif_t h1, c5_isCell, zbd_s, zif_t h2, c5_isMeasure, zbd_s, zif_t h3, show 0 + 49 = 49 from rfl, show 0 + 1 = 1 from rfl, f1, zbd_s, zgd_ib (by omega) (by decide), zbd_s, zcl (by omega), zbd_eta]
        have k6 : fX6_way 66 (nI s) (nI v) a3 μ2 = if 0 ≤ ν2 71 v then some (ν2 71 v, ν2) else fX6_finds 66 3 ν2 := by
          unfold fX6_way
          rw [c6_areWay, zbd_s, zif_t ⟨h1, h2, h3⟩, f2, zbd_s, zbd_eta]
          simp only [zcl (show v < 2 ^ 31 by omega), zgd_ib (show v < 25 by omega) (show 25 < 2 ^ 31 by decide)]
        rw [k5, k6, g1]
        rcases g2 with q | ⟨k, hk, q⟩
        · exact Or.inr ⟨3, by decide, by rw [q, if_pos rfl]; rfl, by rw [q, if_neg (by decide)]; rfl⟩
        · exact Or.inl ⟨nI k, by rw [q, zneg1, zeq1_f (by omega)], by rw [q, if_pos (nI_pos' (by omega))]⟩
      · refine zfind hI 0 (by decide) ?_ (fun μ' h => ?_)
        · unfold fX5_way; rw [c5_isCell, zbd_s, zif_t h1, c5_isCell, zbd_s, zif_t h2, c5_isMeasure, zbd_s, zif_f h3, zbd_eta]; rfl
        · unfold fX6_way; rw [c6_areWay, zbd_s, zif_f (fun z => h3 z.2.2), zbd_eta]; rfl
    · refine zfind hI 0 (by decide) ?_ (fun μ' h => ?_)
      · unfold fX5_way; rw [c5_isCell, zbd_s, zif_t h1, c5_isCell, zbd_s, zif_f h2, zbd_eta]; rfl
      · unfold fX6_way; rw [c6_areWay, zbd_s, zif_f (fun z => h2 z.2.1), zbd_eta]; rfl
  · refine zfind hI 0 (by decide) ?_ (fun μ' h => ?_)
    · unfold fX5_way; rw [c5_isCell, zbd_s, zif_f h1, zbd_eta]; rfl
    · unfold fX6_way; rw [c6_areWay, zbd_s, zif_f (fun z => h1 z.1), zbd_eta]; rfl
theorem e11 : zE11 zInv := by
  intro a1 a3 μ hI
  obtain ⟨⟨n, hc⟩, -⟩ := id hI
  by_cases h1 : 0 ≤ a1 ∧ a1 ≤ 24
  · by_cases h3 : 0 ≤ a3 ∧ a3 ≤ 99
    · obtain ⟨s, hs, rfl⟩ := zrng (n := 24) rfl h1
      refine ztry hI (fun μ2 h => ?_)
      obtain ⟨ν1, ν2, f1, f2, f3, f4, -, f5⟩ := zflock (n := n) (c := 1) (s := s) (by omega) (by omega) (by omega) a3 (μ1 := μ) (μ2 := μ2) (by rw [zz67 h]; exact hc.2.1)
      refine ⟨ν1, ν2, zfr1 f3, zfr2 f4, Or.inl ?_⟩
      have key : ∀ m i q, i + m = 25 → m < q → ∀ a : Int32, ∃ r, fX1_reachedSet_4 q 49 a (nI i) ν1 = some (r, ν1) ∧ fX6_reach_26 q 66 a (nI i) ν2 = some (r, ν2) := by
        intro m
        induction m with
        | zero =>
          intro i q hi hq a
          obtain ⟨q, rfl⟩ : ∃ z, q = z + 1 := ⟨q - 1, by omega⟩
          exact ⟨a, by rw [fX1_reachedSet_4, show (25 : Int32) = nI 25 from rfl, zle_t (by omega) (by omega)], by rw [fX6_reach_26, show (25 : Int32) = nI 25 from rfl, zle_t (by omega) (by omega)]⟩
        | succ m ih =>
          intro i q hi hq a
          obtain ⟨q, rfl⟩ : ∃ z, q = z + 1 := ⟨q - 1, by omega⟩
          obtain ⟨g1, g2⟩ := f5 i (by omega)
          rw [fX1_reachedSet_4, fX6_reach_26, show (25 : Int32) = nI 25 from rfl, zle_f (by omega) (by omega), zle_f (by omega) (by omega), zgd_ib (by omega) (by decide), zgd_ib (by omega) (by decide), zcl (by omega), show ν1 (49 + 1) i = ν2 71 i from g1, show ν2 (66 + 5) i = ν2 71 i from rfl, n1, Int32.or_zero]
          rcases g2 with w | ⟨k, hk, w⟩
          · rw [w, if_pos rfl, if_pos (by decide)]
            exact ih (i + 1) q (by omega) (by omega) a
          · rw [w, zneg1, zeq1_f (by omega), if_neg (Int32.not_lt.mpr (nI_pos' (by omega)))]
            exact ih (i + 1) q (by omega) (by omega) _
      obtain ⟨r, r1, r2⟩ := key 25 0 200 (by omega) (by omega) 0
      refine ⟨r, ?_, ?_⟩
      · unfold fX5_reach fX1_reachedSet
        rw [c5_isCell, zbd_s, zif_t h1, c5_isMeasure, zbd_s, zif_t h3, show 0 + 49 = 49 from rfl, show 0 + 1 = 1 from rfl, f1, zbd_s, zbd_eta]
        exact r1
      · unfold fX6_reach
        rw [c6_areWay, zbd_s, zif_t ⟨h1, h1, h3⟩, f2, zbd_s]
        exact r2
    · refine zfind hI 0 (by decide) ?_ (fun μ' h => ?_)
      · unfold fX5_reach; rw [c5_isCell, zbd_s, zif_t h1, c5_isMeasure, zbd_s, zif_f h3, zbd_eta]; rfl
      · unfold fX6_reach; rw [c6_areWay, zbd_s, zif_f (fun z => h3 z.2.2), zbd_eta]; rfl
  · refine zfind hI 0 (by decide) ?_ (fun μ' h => ?_)
    · unfold fX5_reach; rw [c5_isCell, zbd_s, zif_f h1, zbd_eta]; rfl
    · unfold fX6_reach; rw [c6_areWay, zbd_s, zif_f (fun z => h1 z.1), zbd_eta]; rfl
theorem e12 : zE12 zInv := by
  intro a1 a3 μ hI
  obtain ⟨⟨n, hc⟩, -⟩ := id hI
  by_cases h1 : 0 ≤ a1 ∧ a1 ≤ 24
  · by_cases h3 : 0 ≤ a3 ∧ a3 ≤ 99
    · obtain ⟨s, hs, rfl⟩ := zrng (n := 24) rfl h1
      refine ztry hI (fun μ2 h => ?_)
      obtain ⟨ν1, ν2, f1, f2, f3, f4, -, f5⟩ := zflock (n := n) (c := 1) (s := s) (by omega) (by omega) (by omega) a3 (μ1 := μ) (μ2 := μ2) (by rw [zz67 h]; exact hc.2.1)
      refine ⟨ν1, ν2, zfr1 f3, zfr2 f4, ?_⟩
      have eS : ν1 1 4 = ν2 67 3 := by rw [f3 1 (by omega) (by omega), f4 67 (by omega), zz67 h]; exact hc.2.1.1.2.1
      have key : ∀ m i q, i + m = 25 → m < q → ∀ a : Int32, (a = -1 ∨ ∃ b, b < 25 ∧ a = nI b) → ∃ r, (r = -1 ∨ ∃ b, b < 25 ∧ r = nI b) ∧ fX1_nearestOf_4 q 49 (ν2 67 3) a (nI i) ν1 = some (r, ν1) ∧ fX6_drink_26 q 66 a (nI i) ν2 = if 0 ≤ r then some (r, ν2) else fX6_finds 66 3 ν2 := by
        intro m
        induction m with
        | zero =>
          intro i q hi hq a ha
          obtain ⟨q, rfl⟩ : ∃ z, q = z + 1 := ⟨q - 1, by omega⟩
          exact ⟨a, ha, by rw [fX1_nearestOf_4, show (25 : Int32) = nI 25 from rfl, zle_t (by omega) (by omega)], by rw [fX6_drink_26, show (25 : Int32) = nI 25 from rfl, zle_t (by omega) (by omega), zbd_eta]⟩
        | succ m ih =>
          intro i q hi hq a ha
          obtain ⟨q, rfl⟩ : ∃ z, q = z + 1 := ⟨q - 1, by omega⟩
          obtain ⟨g1, g2⟩ := f5 i (by omega)
          have ih' := ih (i + 1) q (by omega) (by omega)
          have skip : ∃ r, (r = -1 ∨ ∃ b, b < 25 ∧ r = nI b) ∧ fX1_nearestOf_34 (fX1_nearestOf_4 q) 49 (ν2 67 3) a (nI i) 0 ν1 = some (r, ν1) ∧ fX6_drink_57 (fX6_drink_26 q) 66 a (nI i) 0 ν2 = if 0 ≤ r then some (r, ν2) else fX6_finds 66 3 ν2 := by
            unfold fX1_nearestOf_34 fX6_drink_57
            rw [if_pos rfl, if_pos rfl, n1]
            exact ih' a ha
          rw [fX1_nearestOf_4, fX6_drink_26, show (25 : Int32) = nI 25 from rfl, zle_f (by omega) (by omega), zle_f (by omega) (by omega), zspr _ i (by omega), c6_hasSpring i (by omega), zbd_s]
          rcases zbit01 (ν2 67 3 >>> (nI i &&& 31)) with b | b
          · rw [b, if_neg (by decide), if_pos rfl]
            exact skip
          · rw [b, if_pos rfl, if_neg (show ¬ (1 : Int32) = 0 by decide), zgd_ib (by omega) (by decide), zgd_ib (by omega) (by decide), zcl (by omega), show ν1 (49 + 1) i = ν2 71 i from g1, show ν2 (66 + 5) i = ν2 71 i from rfl]
            rcases g2 with w | ⟨k, hk, w⟩
            · rw [w, if_pos rfl, if_pos (by decide)]
              exact skip
            · rw [w, if_neg (show ¬ nI k = (-1 : Int32) from zne1 (by omega)), if_neg (show ¬ nI k < 0 from Int32.not_lt.mpr (nI_pos' (by omega)))]
              unfold fX1_nearestOf_34 fX6_drink_57
              rw [if_neg (show ¬ (1 : Int32) = 0 by decide), if_neg (show ¬ (1 : Int32) = 0 by decide), n1]
              rcases ha with ha | ⟨z, hz, ha⟩
              · rw [ha, if_pos (show (-1 : Int32) = -1 from rfl), if_pos (show (-1 : Int32) < 0 by decide)]
                exact ih' (nI i) (Or.inr ⟨i, by omega, rfl⟩)
              · rw [ha, if_neg (show ¬ nI z = (-1 : Int32) from zne1 (by omega)), if_neg (show ¬ nI z < 0 from Int32.not_lt.mpr (nI_pos' (by omega)))]
                simp only [zgd_ib (show i < 25 by omega) (show 25 < 2 ^ 31 by decide), zgd_ib hz (show 25 < 2 ^ 31 by decide), zcl (show i < 2 ^ 31 by omega), zcl (show z < 2 ^ 31 by omega)]
                rw [show ν1 (49 + 1) i = ν2 71 i from g1, show ν1 (49 + 1) z = ν2 71 z from (f5 z hz).1, show ν2 (66 + 5) i = ν2 71 i from rfl, show ν2 (66 + 5) z = ν2 71 z from rfl]
                by_cases le : ν2 71 z ≤ ν2 71 i
                · rw [if_pos le, if_pos le]
                  exact ih' (nI z) (Or.inr ⟨z, hz, rfl⟩)
                · rw [if_neg le, if_neg le]
                  exact ih' (nI i) (Or.inr ⟨i, by omega, rfl⟩)
      obtain ⟨r, hr, r1, r2⟩ := key 25 0 200 (by omega) (by omega) (-1) (Or.inl rfl)
      have k5 : fX5_drink 0 (nI s) a3 μ = if r = (-1 : Int32) then fX5_finding 0 3 ν1 else some (r, ν1) := by
        unfold fX5_drink fX1_nearestOf
        rw [c5_isCell, zbd_s, zif_t h1, c5_isMeasure, zbd_s, zif_t h3, show 0 + 49 = 49 from rfl, show 0 + 1 = 1 from rfl, f1, zbd_s, eS, show (0 : Int32) = nI 0 from rfl, r1, zbd_s, zbd_eta]
      have k6 : fX6_drink 66 (nI s) a3 μ2 = if 0 ≤ r then some (r, ν2) else fX6_finds 66 3 ν2 := by
        unfold fX6_drink
        rw [c6_areWay, zbd_s, zif_t ⟨h1, h1, h3⟩, f2, zbd_s]
        exact r2
      rw [k5, k6]
      rcases hr with q | ⟨k, hk, q⟩
      · exact Or.inr ⟨3, by decide, by rw [q, if_pos rfl]; rfl, by rw [q, if_neg (by decide)]; rfl⟩
      · exact Or.inl ⟨nI k, by rw [q, zneg1, zeq1_f (by omega)], by rw [q, if_pos (nI_pos' (by omega))]⟩
    · refine zfind hI 0 (by decide) ?_ (fun μ' h => ?_)
      · unfold fX5_drink; rw [c5_isCell, zbd_s, zif_t h1, c5_isMeasure, zbd_s, zif_f h3, zbd_eta]; rfl
      · unfold fX6_drink; rw [c6_areWay, zbd_s, zif_f (fun z => h3 z.2.2), zbd_eta]; rfl
  · refine zfind hI 0 (by decide) ?_ (fun μ' h => ?_)
    · unfold fX5_drink; rw [c5_isCell, zbd_s, zif_f h1, zbd_eta]; rfl
    · unfold fX6_drink; rw [c6_areWay, zbd_s, zif_f (fun z => h1 z.1), zbd_eta]; rfl
