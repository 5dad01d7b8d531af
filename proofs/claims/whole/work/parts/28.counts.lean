theorem e8 : zE8 zInv := by
  intro a1 μ hI
  obtain ⟨⟨n, hv, hs, hd⟩, -⟩ := id hI
  by_cases h0 : a1 = 0
  · refine zE_of (r := μ 67 0) (μ1 := μ) (μ2 := μ) ?_ ?_ hI
    · unfold fX5_now; rw [if_pos h0]; show some (μ 1 5, μ) = _; rw [hd]
    · unfold fX6_now; rw [if_pos h0, zgd_t (by decide)]; rfl
  by_cases h1 : a1 = 1
  · refine zE_of (r := zhs (μ 67)) (μ1 := μ) (μ2 := μ) ?_ ?_ hI
    · unfold fX5_now; rw [if_neg h0, if_pos h1, c0_heightSum hs, zbd_s]
    · unfold fX6_now; rw [if_neg h0, if_pos h1, c6_heights, zbd_s]
  by_cases h2 : a1 = 2
  · refine zE_of (r := μ 67 3) (μ1 := μ) (μ2 := μ) ?_ ?_ hI
    · unfold fX5_now; rw [if_neg h0, if_neg h1, if_pos h2]; show some (μ 1 4, μ) = _; rw [hs.1.2.1]
    · unfold fX6_now; rw [if_neg h0, if_neg h1, if_pos h2, zgd_t (by decide)]; rfl
  by_cases h3 : a1 = 3
  · refine zE_of (r := zps n (μ 67)) (μ1 := μ) (μ2 := μ) ?_ ?_ hI
    · unfold fX5_now; rw [if_neg h0, if_neg h1, if_neg h2, if_pos h3, c0_pitchedSet hv hs, zbd_s]
    · unfold fX6_now; rw [if_neg h0, if_neg h1, if_neg h2, if_pos h3, c6_pitched hv, zbd_s]
  by_cases h4 : a1 = 4
  · refine zE_of (r := zws n (μ 67)) (μ1 := μ) (μ2 := μ) ?_ ?_ hI
    · unfold fX5_now; rw [if_neg h0, if_neg h1, if_neg h2, if_neg h3, if_pos h4, c0_wornSum hv.1 hs hv.2.1, zbd_s]
    · unfold fX6_now; rw [if_neg h0, if_neg h1, if_neg h2, if_neg h3, if_pos h4, c6_allWorn hv.1 hv.2.1, zbd_s]
  by_cases h5 : a1 = 5
  · refine zE_of (r := zrl (μ 67)) (μ1 := μ) (μ2 := μ) ?_ ?_ hI
    · unfold fX5_now; rw [if_neg h0, if_neg h1, if_neg h2, if_neg h3, if_neg h4, if_pos h5, c0_relief hs, zbd_s]
    · unfold fX6_now; rw [if_neg h0, if_neg h1, if_neg h2, if_neg h3, if_neg h4, if_pos h5, c6_span hv, zbd_s]
  refine zfind hI 0 (by decide) ?_ (fun μ' _ => ?_)
  · unfold fX5_now; rw [if_neg h0, if_neg h1, if_neg h2, if_neg h3, if_neg h4, if_neg h5, zbd_eta]; rfl
  · unfold fX6_now; rw [if_neg h0, if_neg h1, if_neg h2, if_neg h3, if_neg h4, if_neg h5, zbd_eta]; rfl
theorem e42 : zE42 zInv := by
  intro a1 μ hI
  obtain ⟨⟨n, hv, hs, hd⟩, -, -, ⟨L, hL, t1, t2, -⟩, -⟩ := id hI
  by_cases h0 : a1 = 0
  · refine zE_of (r := μ 67 0) (μ1 := μ) (μ2 := μ) ?_ ?_ hI
    · unfold fX5_count; rw [if_pos h0]; show some (μ 1 5, μ) = _; rw [hd]
    · unfold fX6_count; rw [if_pos h0, zgd_t (by decide)]; rfl
  by_cases h1 : a1 = 1
  · refine zE_of (r := μ 67 2) (μ1 := μ) (μ2 := μ) ?_ ?_ hI
    · unfold fX5_count; rw [if_neg h0, if_pos h1]; show some (μ 1 3, μ) = _; rw [hs.1.1]
    · unfold fX6_count; rw [if_neg h0, if_pos h1, zgd_t (by decide)]; rfl
  by_cases h2 : a1 = 2
  · obtain ⟨s, hs6, es⟩ := zps_lt (n := n) (x := μ 67) hv.1
    refine zE_of (r := zones (nI s)) (μ1 := μ) (μ2 := μ) ?_ ?_ hI
    · unfold fX5_count; rw [if_neg h0, if_neg h1, if_pos h2, c0_pitchedSet hv hs, zbd_s, cJ_bitCount, zbd_s, es, zbc_eq s hs6]
    · unfold fX6_count; rw [if_neg h0, if_neg h1, if_pos h2, c6_pitched hv, zbd_s, c6_ones, zbd_s, es]
  by_cases h3 : a1 = 3
  · refine zE_of (r := zws n (μ 67)) (μ1 := μ) (μ2 := μ) ?_ ?_ hI
    · unfold fX5_count; rw [if_neg h0, if_neg h1, if_neg h2, if_pos h3, c0_wornSum hv.1 hs hv.2.1, zbd_s]
    · unfold fX6_count; rw [if_neg h0, if_neg h1, if_neg h2, if_pos h3, c6_allWorn hv.1 hv.2.1, zbd_s]
  by_cases h4 : a1 = 4
  · refine zE_of (r := zhs (μ 67)) (μ1 := μ) (μ2 := μ) ?_ ?_ hI
    · unfold fX5_count; rw [if_neg h0, if_neg h1, if_neg h2, if_neg h3, if_pos h4, c0_heightSum hs, zbd_s]
    · unfold fX6_count; rw [if_neg h0, if_neg h1, if_neg h2, if_neg h3, if_pos h4, c6_heights, zbd_s]
  by_cases h5 : a1 = 5
  · refine zE_of (r := nI L) (μ1 := μ) (μ2 := μ) ?_ ?_ hI
    · unfold fX5_count; rw [if_neg h0, if_neg h1, if_neg h2, if_neg h3, if_neg h4, if_pos h5]; show some (μ 53 1, μ) = _; rw [t1]
    · unfold fX6_count; rw [if_neg h0, if_neg h1, if_neg h2, if_neg h3, if_neg h4, if_pos h5, t2]
  by_cases h6 : a1 = 6
  · refine zE_of (r := μ 67 1) (μ1 := μ) (μ2 := μ) ?_ ?_ hI
    · unfold fX5_count; rw [if_neg h0, if_neg h1, if_neg h2, if_neg h3, if_neg h4, if_neg h5, if_pos h6]; show some (μ 1 6, μ) = _; rw [hs.1.2.2]
    · unfold fX6_count; rw [if_neg h0, if_neg h1, if_neg h2, if_neg h3, if_neg h4, if_neg h5, if_pos h6, zgd_t (by decide)]; rfl
  by_cases h7 : a1 = 7
  · refine zE_of (r := zsp (μ 67)) (μ1 := μ) (μ2 := μ) ?_ ?_ hI
    · unfold fX5_count; rw [if_neg h0, if_neg h1, if_neg h2, if_neg h3, if_neg h4, if_neg h5, if_neg h6, if_pos h7, c0_spotsHeld hs, zbd_s]
    · unfold fX6_count; rw [if_neg h0, if_neg h1, if_neg h2, if_neg h3, if_neg h4, if_neg h5, if_neg h6, if_pos h7, c6_heldS hv, zbd_s]
  refine zfind hI 0 (by decide) ?_ (fun μ' _ => ?_)
  · unfold fX5_count; rw [if_neg h0, if_neg h1, if_neg h2, if_neg h3, if_neg h4, if_neg h5, if_neg h6, if_neg h7, zbd_eta]; rfl
  · unfold fX6_count; rw [if_neg h0, if_neg h1, if_neg h2, if_neg h3, if_neg h4, if_neg h5, if_neg h6, if_neg h7, zbd_eta]; rfl
theorem e43 : zE43 zInv := by
  intro a1 μ hI
  obtain ⟨-, -, hf, -, -⟩ := id hI
  by_cases h1 : -1 ≤ a1 ∧ a1 ≤ 6
  · rcases (zge1 (by decide)).mp h1 with rfl | h2
    · have k5 : ∀ m i q acc, i + m = 7 → m < q → fX5_status_31 q 0 acc (nI i) μ = some (zfold (fun i a => a + μ 56 i) m i acc, μ) := by
        intro m
        induction m with
        | zero =>
          intro i q acc hi hq
          obtain ⟨q, rfl⟩ : ∃ z, q = z + 1 := ⟨q - 1, by omega⟩
          rw [fX5_status_31, show (7 : Int32) = nI 7 from rfl, zle_t (by omega) (by omega)]; rfl
        | succ m ih =>
          intro i q acc hi hq
          obtain ⟨q, rfl⟩ : ∃ z, q = z + 1 := ⟨q - 1, by omega⟩
          rw [fX5_status_31, show (7 : Int32) = nI 7 from rfl, zle_f (by omega) (by omega), zgd_ib (by omega) (by decide), zcl (by omega), n1]
          exact ih (i + 1) q _ (by omega) (by omega)
      have k6 : ∀ m i q acc, i + m = 7 → m < q → fX6_status_24 q 66 (-1) acc (nI i) μ = some (zfold (fun i a => a + μ 70 i) m i acc, μ) := by
        intro m
        induction m with
        | zero =>
          intro i q acc hi hq
          obtain ⟨q, rfl⟩ : ∃ z, q = z + 1 := ⟨q - 1, by omega⟩
          rw [fX6_status_24, show (7 : Int32) = nI 7 from rfl, zle_t (by omega) (by omega)]; rfl
        | succ m ih =>
          intro i q acc hi hq
          obtain ⟨q, rfl⟩ : ∃ z, q = z + 1 := ⟨q - 1, by omega⟩
          rw [fX6_status_24, show (7 : Int32) = nI 7 from rfl, zle_f (by omega) (by omega), if_pos (by decide)]
          unfold fX6_status_40
          rw [zgd_ib (by omega) (by decide), zcl (by omega), n1]
          exact ih (i + 1) q _ (by omega) (by omega)
      refine zE_of (r := zfold (fun i a => a + μ 56 i) 7 0 0) (μ1 := μ) (μ2 := μ) ?_ ?_ hI
      · unfold fX5_status
        rw [w5, zbd_s, zif_t h1, if_pos (by decide)]
        exact k5 7 0 200 0 (by omega) (by omega)
      · unfold fX6_status
        rw [show (-1 : Int64) = (-1 : Int32).toInt64 from rfl, show (6 : Int64) = (6 : Int32).toInt64 from rfl, w6, zbd_s, zif_t h1, zfold_congr (g := fun i a => a + μ 70 i) 7 0 0 (fun j _ hj a => by rw [hf j (by omega)])]
        exact k6 7 0 200 0 (by omega) (by omega)
    · obtain ⟨k, hk, rfl⟩ := zrng (n := 6) rfl h2
      have k6 : ∀ m i q acc, i + m = 7 → m < q → fX6_status_24 q 66 (nI k) acc (nI i) μ = some (if i ≤ k then acc + μ 70 k else acc, μ) := by
        intro m
        induction m with
        | zero =>
          intro i q acc hi hq
          obtain ⟨q, rfl⟩ : ∃ z, q = z + 1 := ⟨q - 1, by omega⟩
          rw [fX6_status_24, show (7 : Int32) = nI 7 from rfl, zle_t (by omega) (by omega), if_neg (by omega)]
        | succ m ih =>
          intro i q acc hi hq
          obtain ⟨q, rfl⟩ : ∃ z, q = z + 1 := ⟨q - 1, by omega⟩
          rw [fX6_status_24, show (7 : Int32) = nI 7 from rfl, zle_f (by omega) (by omega), if_neg (nI_pos (by omega))]
          by_cases e : k = i
          · subst e
            unfold fX6_status_40
            rw [if_pos rfl, zgd_ib (by omega) (by decide), zcl (by omega), n1, if_pos (by omega)]
            refine (ih (k + 1) q _ (by omega) (by omega)).trans ?_
            rw [if_neg (by omega)]
          · rw [zeq_f e (by omega) (by omega), n1, Int32.add_zero, ih (i + 1) q _ (by omega) (by omega)]
            by_cases e2 : i ≤ k
            · rw [if_pos e2, if_pos (by omega)]
            · rw [if_neg e2, if_neg (by omega)]
      refine zE_of (r := μ 56 k) (μ1 := μ) (μ2 := μ) ?_ ?_ hI
      · unfold fX5_status
        rw [w5, zbd_s, zif_t h1, if_neg (nI_pos (by omega)), zgd_ib (by omega) (by decide), zcl (by omega)]
      · unfold fX6_status
        rw [show (-1 : Int64) = (-1 : Int32).toInt64 from rfl, show (6 : Int64) = (6 : Int32).toInt64 from rfl, w6, zbd_s, zif_t h1, hf k (by omega)]
        refine (k6 7 0 200 0 (by omega) (by omega)).trans ?_
        rw [if_pos (by omega), Int32.zero_add]
  · refine zfind hI 0 (by decide) ?_ (fun μ' _ => ?_)
    · unfold fX5_status
      rw [w5, zbd_s, zif_f h1, zbd_eta]; rfl
    · unfold fX6_status
      rw [show (-1 : Int64) = (-1 : Int32).toInt64 from rfl, show (6 : Int64) = (6 : Int32).toInt64 from rfl, w6, zbd_s, zif_f h1, zbd_eta]; rfl
