/-! sheets -/
theorem zInv.she {μ μ' : zMem} (h : zInv μ) (hr : ∀ k, ¬ zscr k → k < 78 → ¬ (58 ≤ k ∧ k ≤ 65) → k ≠ 74 → k ≠ 75 → k ≠ 76 → μ' k = μ k) (hs : zShe μ') : zInv μ' := by
  obtain ⟨⟨n, hc⟩, hi, hf, ht, -⟩ := h
  have q : ∀ k, k < 33 → μ' k = μ k := fun k hk => hr k (by unfold zscr; omega) (by omega) (by omega) (by omega) (by omega) (by omega)
  have e53 := hr 53 (by unfold zscr; omega) (by omega) (by omega) (by omega) (by omega) (by omega)
  have e54 := hr 54 (by unfold zscr; omega) (by omega) (by omega) (by omega) (by omega) (by omega)
  have e56 := hr 56 (by unfold zscr; omega) (by omega) (by omega) (by omega) (by omega) (by omega)
  have e66 := hr 66 (by unfold zscr; omega) (by omega) (by omega) (by omega) (by omega) (by omega)
  have e67 := hr 67 (by unfold zscr; omega) (by omega) (by omega) (by omega) (by omega) (by omega)
  have e68 := hr 68 (by unfold zscr; omega) (by omega) (by omega) (by omega) (by omega) (by omega)
  have e70 := hr 70 (by unfold zscr; omega) (by omega) (by omega) (by omega) (by omega) (by omega)
  have e73 := hr 73 (by unfold zscr; omega) (by omega) (by omega) (by omega) (by omega) (by omega)
  exact ⟨⟨n, hc.congr (fun k _ _ => q k (by omega)) e67⟩, hi.congr (by rw [q 0 (by omega)]) (by rw [e66]) (fun k _ _ => q k (by omega)) e68, hf.congr e56 e70, ht.congr (by rw [e53]) (by rw [e66]) e54 e73, hs⟩
theorem zadr {s : Nat} : 0 + 55 + 3 + 2 * s = 58 + 2 * s := by omega
/-- why a sheet can't be had -/
theorem c5_lack {s : Nat} (hs : s < 4) {μ : zMem} : fX5_lackOf 0 (nI s) μ = some (if μ (58 + 2 * s) 0 = 0 then 5 else -1, μ) := by
  unfold fX5_lackOf
  rw [c5_isSheet, zbd_s, zif_t (show (0 : Int32) ≤ nI s ∧ nI s ≤ 3 from zrng' (n := 3) (by decide) (by omega)), zgd_ib hs (by decide), zcl (by omega), zadr]
  unfold fX2_isMissing
  by_cases h : μ (58 + 2 * s) 0 = 0
  · rw [if_pos h, if_pos h, zbd_s, if_neg (by decide)]
  · rw [if_neg h, if_neg h, zbd_s, if_pos rfl]
theorem c6_lack {s : Nat} (hs : s < 4) {μ : zMem} : fX6_lacks 66 (nI s) μ = some (if μ 74 s = 0 then 5 else -1, μ) := by
  unfold fX6_lacks
  rw [c6_isSheet, zbd_s, zif_t (show (0 : Int32) ≤ nI s ∧ nI s ≤ 3 from zrng' (n := 3) (by decide) (by omega)), zgd_ib hs (by decide), zcl (by omega)]
  show (if μ 74 s = 0 then _ else _) = _
  by_cases h : μ 74 s = 0
  · rw [if_pos h, if_pos h]
  · rw [if_neg h, if_neg h]
theorem c5_lackB {a : Int32} (h : ¬ (0 ≤ a ∧ a ≤ 3)) (μ : zMem) : fX5_lackOf 0 a μ = some (0, μ) := by
  unfold fX5_lackOf; rw [c5_isSheet, zbd_s, zif_f h]
theorem c6_lackB {a : Int32} (h : ¬ (0 ≤ a ∧ a ≤ 3)) (μ : zMem) : fX6_lacks 66 a μ = some (0, μ) := by
  unfold fX6_lacks; rw [c6_isSheet, zbd_s, zif_f h]
theorem e34 : zE34 zInv := by
  intro a1 a2 a3 μ hI
  by_cases h1 : 0 ≤ a1 ∧ a1 ≤ 3
  · by_cases h2 : a2 = 0 ∨ a2 = 8 ∨ a2 = 16 ∨ a2 = 32
    · have r5 : fX5_sheet 0 a1 a2 a3 μ = fX5_sheet_35 0 a1 a2 a3 μ := by
        unfold fX5_sheet
        rw [c5_isSheet, zbd_s, zif_t h1]
        rcases h2 with rfl | rfl | rfl | rfl <;> rfl
      have r6 : ∀ μ, fX6_sheet 66 a1 a2 a3 μ = fX6_sheet_27 66 a1 a2 a3 1 μ := by
        intro μ
        unfold fX6_sheet
        rcases h2 with rfl | rfl | rfl | rfl <;> rfl
      by_cases h3 : 0 ≤ a3
      · by_cases h4 : a3 ≤ 40
        · obtain ⟨s, hs, rfl⟩ := zrng (n := 3) rfl h1
          obtain ⟨m, hm, rfl⟩ := zrng (n := 40) rfl ⟨h3, h4⟩
          obtain ⟨v, hv, hve⟩ : ∃ v, v ≤ 40 ∧ (if a2 = 0 then (0 : Int32) else nI m) = nI v := by
            by_cases q : a2 = 0
            · exact ⟨0, by omega, if_pos q⟩
            · exact ⟨m, hm, if_neg q⟩
          have hln : zln (58 + 2 * s + 1) = 40 := by
            have q : ∀ s, s < 4 → zln (58 + 2 * s + 1) = 40 := by decide +kernel
            exact q s (by omega)
          obtain ⟨μ1, f1, f2, f3⟩ := c_fill (k := 58 + 2 * s + 1) (len := 40) 0 hln (by decide) (zst (zst μ (58 + 2 * s) 0 a2) (58 + 2 * s) 1 (nI v))
          have p5 : fX5_sheet_35 0 (nI s) a2 (nI m) μ = some (nI v, μ1) := by
            unfold fX5_sheet_35
            rw [if_pos h3, if_pos h4, zgd_ib (by omega) (by decide), zcl (by omega), zadr]
            have key : fX5_sheet_74 0 (nI s) (nI v) a2 (58 + 2 * s) μ = some (nI v, μ1) := by
              unfold fX5_sheet_74 fX2_renew
              rw [f1, zbd_s, zbd_s, zgd_ib (by omega) (by decide), zcl (by omega), zadr, f2 _ (by omega), zst_eq]
            by_cases q : a2 = 0
            · rw [if_pos q] at hve ⊢; rw [hve]; exact key
            · rw [if_neg q] at hve ⊢; rw [hve]; exact key
          have k6 : ∀ mm i q, i + mm = 40 → mm < q → ∀ μ : zMem, ∃ μ', fX6_sheet_95 q 66 (nI s) (nI i) μ = some (μ 75 s, μ') ∧ (∀ a, a ≠ 76 → μ' a = μ a) ∧ ∀ j, μ' 76 j = if 40 * s + i ≤ j ∧ j < 40 * s + 40 then 0 else μ 76 j := by
            intro mm
            induction mm with
            | zero =>
              intro i q hi hq μ
              obtain ⟨q, rfl⟩ : ∃ z, q = z + 1 := ⟨q - 1, by omega⟩
              refine ⟨μ, ?_, fun _ _ => rfl, fun j => by rw [if_neg (by omega)]⟩
              rw [fX6_sheet_95, show (40 : Int32) = nI 40 from rfl, zle_t (by omega) (by omega), zgd_ib (by omega) (by decide), zcl (by omega)]
            | succ mm ih =>
              intro i q hi hq μ
              obtain ⟨q, rfl⟩ : ∃ z, q = z + 1 := ⟨q - 1, by omega⟩
              obtain ⟨μ', g1, g2, g3⟩ := ih (i + 1) q (by omega) (by omega) (zst μ 76 (40 * s + i) 0)
              refine ⟨μ', ?_, fun a ha => by rw [g2 a ha, zst_row_ne ha], fun j => ?_⟩
              · rw [fX6_sheet_95, show (40 : Int32) = nI 40 from rfl, zle_f (by omega) (by omega), pk_mul, nI_add, zgd_ib (by omega) (by decide), zcl (by omega), n1]
                rw [zst_row_ne (by decide)] at g1
                exact g1
              · rw [g3, zst_at]
                repeat' split
                all_goals first | rfl | (exfalso; omega)
          obtain ⟨μ2, g1, g2, g3⟩ := k6 40 0 200 (by omega) (by omega) (zst (zst μ1 74 s a2) 75 s (nI v))
          have p6 : fX6_sheet_27 66 (nI s) a2 (nI m) 1 μ1 = some (nI v, μ2) := by
            unfold fX6_sheet_27
            rw [c6_isSheet, zbd_s, zif_t h1, if_neg (by decide), if_pos h3, if_pos h4]
            simp only [zgd_ib (show s < 4 by omega) (show 4 < 2 ^ 31 by decide), zcl (show s < 2 ^ 31 by omega)]
            rw [zst_eq] at g1
            by_cases q : a2 = 0
            · rw [if_pos q] at hve ⊢
              have hv0 : v = 0 := (nI_eq (by omega) (by omega)).1 hve.symm
              subst hv0
              exact g1
            · rw [if_neg q] at hve ⊢; rw [hve]; exact g1
          refine zE_of (r := nI v) (μ1 := μ1) (μ2 := μ2) (r5.trans p5) ((r6 μ1).trans p6) (hI.she ?_ ?_)
          · intro k _ _ z1 z2 z3 z4
            rw [g2 k z4, zst_row_ne z3, zst_row_ne z2, f2 k (by omega), zst_row_ne (by omega), zst_row_ne (by omega)]
          · obtain ⟨-, -, -, -, hsh⟩ := hI
            intro u hu
            have e1 : ∀ k, k ≠ 58 + 2 * s → k ≠ 58 + 2 * s + 1 → k < 74 → μ2 k = μ k := fun k z1 z2 z3 => by
              rw [g2 k (by omega), zst_row_ne (by omega), zst_row_ne (by omega), f2 k z2, zst_row_ne z1, zst_row_ne z1]
            have e74 : ∀ j, μ2 74 j = if j = s then a2 else μ 74 j := fun j => by
              rw [g2 74 (by omega), zst_row_ne (by decide), zst_at, f2 74 (by omega), zst_row_ne (by omega), zst_row_ne (by omega)]; simp
            have e75 : ∀ j, μ2 75 j = if j = s then nI v else μ 75 j := fun j => by
              rw [g2 75 (by omega), zst_at, zst_row_ne (by decide), f2 75 (by omega), zst_row_ne (by omega), zst_row_ne (by omega)]; simp
            have e76 : ∀ j, μ2 76 j = if 40 * s + 0 ≤ j ∧ j < 40 * s + 40 then 0 else μ 76 j := fun j => by
              rw [g3, zst_row_ne (by decide), zst_row_ne (by decide), f2 76 (by omega), zst_row_ne (by omega), zst_row_ne (by omega)]
            by_cases e : u = s
            · subst e
              have eT : μ2 (58 + 2 * u) = zst (zst μ (58 + 2 * u) 0 a2) (58 + 2 * u) 1 (nI v) (58 + 2 * u) := by
                rw [g2 _ (by omega), zst_row_ne (by omega), zst_row_ne (by omega), f2 _ (by omega)]
              refine ⟨⟨?_, ?_⟩, ⟨v, hv, ?_, ?_⟩, ?_⟩
              · rw [eT, e74, if_pos rfl, zst_ne (by decide), zst_eq]
              · rw [e74, if_pos rfl]; exact h2
              · rw [eT, zst_eq]
              · rw [e75, if_pos rfl]
              · intro i hi
                rw [e76, if_pos (by omega), g2 _ (by omega), zst_row_ne (by omega), zst_row_ne (by omega), show 59 + 2 * u = 58 + 2 * u + 1 by omega, f3, if_pos hi]
            · obtain ⟨⟨y1, y2⟩, ⟨y3, y4, y5, y6⟩, y7⟩ := hsh u hu
              rw [e1 (58 + 2 * u) (by omega) (by omega) (by omega), e1 (59 + 2 * u) (by omega) (by omega) (by omega), e74, e75, if_neg e, if_neg e]
              refine ⟨⟨y1, y2⟩, ⟨y3, y4, y5, y6⟩, fun i hi => ?_⟩
              rw [e76, if_neg (by omega)]
              exact y7 i hi
        · refine zfind hI 0 (by decide) ?_ (fun μ' _ => ?_)
          · rw [r5]; unfold fX5_sheet_35; rw [if_pos h3, if_neg h4, zbd_eta]; rfl
          · rw [r6]; unfold fX6_sheet_27; rw [c6_isSheet, zbd_s, zif_t h1, if_neg (by decide), if_pos h3, if_neg h4, zbd_eta]; rfl
      · refine zfind hI 6 (by decide) ?_ (fun μ' _ => ?_)
        · rw [r5]; unfold fX5_sheet_35; rw [if_neg h3, zbd_eta]; rfl
        · rw [r6]; unfold fX6_sheet_27; rw [c6_isSheet, zbd_s, zif_t h1, if_neg (by decide), if_neg h3, zbd_eta]; rfl
    · have q0 : ¬ a2 = 0 := fun q => h2 (Or.inl q)
      have q1 : ¬ a2 = 8 := fun q => h2 (Or.inr (Or.inl q))
      have q2 : ¬ a2 = 16 := fun q => h2 (Or.inr (Or.inr (Or.inl q)))
      have q3 : ¬ a2 = 32 := fun q => h2 (Or.inr (Or.inr (Or.inr q)))
      refine zfind hI 0 (by decide) ?_ (fun μ' _ => ?_)
      · unfold fX5_sheet; rw [c5_isSheet, zbd_s, zif_t h1, if_neg q0, if_neg q1, if_neg q2, if_neg q3, zbd_eta]; rfl
      · unfold fX6_sheet; rw [if_neg q0, if_neg q1, if_neg q2, if_neg q3]; unfold fX6_sheet_27; rw [c6_isSheet, zbd_s, zif_t h1, if_pos rfl, zbd_eta]; rfl
  · refine zfind hI 0 (by decide) ?_ (fun μ' _ => ?_)
    · unfold fX5_sheet; rw [c5_isSheet, zbd_s, zif_f h1, zbd_eta]; rfl
    · have key : ∀ s0 : Int32, fX6_sheet_27 66 a1 a2 a3 s0 μ' = fX6_finds 66 (nI 0) μ' := by
        intro s0
        unfold fX6_sheet_27; rw [c6_isSheet, zbd_s, zif_f h1, zbd_eta]; rfl
      unfold fX6_sheet
      simp only [key]
      repeat' split
      all_goals rfl
