/-! odds -/
theorem zfind64 {μ : zMem} {o1 : Option (Int64 × zMem)} {f6 : zMem → Option (Int64 × zMem)} (h : zInv μ) (k : Nat) (hk : k < 7) (h1 : o1 = zbd (fX5_finding 0 (nI k) μ) fun r m => some (r.toInt64, m)) (h2 : ∀ μ' : zMem, (∀ j, j < 78 → j ≠ 56 → μ' j = μ j) → f6 μ' = zbd (fX6_finds 66 (nI k) μ') fun r m => some (r.toInt64, m)) : zok o1 (fun r μ1 => zok (f6 μ1) (fun r' μ2 => r = r' ∧ zInv μ2)) := by
  have g1 : o1 = some (((-1000001 : Int32) - nI k).toInt64, zst μ 56 k (μ 56 k + 1)) := by rw [h1, c5_find k hk, zbd_s]
  have g2 := h2 (zst μ 56 k (μ 56 k + 1)) (fun j _ q => zst_row_ne q)
  rw [c6_find k hk, zbd_s] at g2
  refine zE_of g1 g2 (h.find k hk ?_ ?_ ?_)
  · intro j _ _ q3 q4
    rw [zst_row_ne q4, zst_row_ne q3]
  · intro j
    rw [zst_row_ne (by decide), zst_at]
    by_cases hj : j = k
    · rw [if_pos ⟨rfl, hj⟩, if_pos hj]
    · rw [if_neg (fun q => hj q.2), if_neg hj]
  · intro j
    rw [zst_at, zst_row_ne (by decide)]
    by_cases hj : j = k
    · rw [if_pos ⟨rfl, hj⟩, if_pos hj]
    · rw [if_neg (fun q => hj q.2), if_neg hj]
theorem zreT_of {o : Option (Int64 × zMem)} {r : Int64} (μ : zMem) (h : o.map Prod.fst = some r) : zreT μ o = some (r, μ) := by
  cases o with
  | none => cases h
  | some x =>
    have : x.1 = r := by simpa using h
    show some (x.1, μ) = _
    rw [this]
theorem e27 : zE27 zInv := by
  intro a1 a2 μ hI
  obtain ⟨⟨n, hc⟩, -⟩ := id hI
  have i6 : ∀ μ' : zMem, fX6_in a1.toInt64 0 15 μ' = some (zb (0 ≤ a1 ∧ a1 ≤ 15), μ') := fun μ' => by
    rw [show (0 : Int64) = (0 : Int32).toInt64 from rfl, show (15 : Int64) = (15 : Int32).toInt64 from rfl, w6]
  have j6 : ∀ μ' : zMem, fX6_in a2.toInt64 0 1 μ' = some (zb (0 ≤ a2 ∧ a2 ≤ 1), μ') := fun μ' => by
    rw [show (0 : Int64) = (0 : Int32).toInt64 from rfl, show (1 : Int64) = (1 : Int32).toInt64 from rfl, w6]
  by_cases h1 : 0 ≤ a1 ∧ a1 ≤ 15
  · by_cases h2 : 0 ≤ a2 ∧ a2 ≤ 1
    · obtain ⟨e, he, rfl⟩ := zrng (n := 15) rfl h1
      obtain ⟨b, hb, rfl⟩ := zrng (n := 1) rfl h2
      obtain ⟨v, hv, hve⟩ := zdp_nat (μ 67 3)
      obtain ⟨q1, q2⟩ := zo_eq v hv e he b hb
      obtain ⟨r, hr⟩ := Option.isSome_iff_exists.mp q2
      refine zE_of (r := r) (μ1 := μ) (μ2 := μ) ?_ ?_ hI
      · unfold fX5_odds
        rw [w5, zbd_s, zif_t h1, w5, zbd_s, zif_t h2, show 0 + 1 = 1 from rfl, c0_dry, zbd_s, hc.2.1.1.2.1, hve, zp_43 _ _ _ _ _ _ μ (fun _ _ => 0)]
        exact zreT_of μ hr
      · unfold fX6_odds
        rw [i6, zbd_s, zif_t h1, j6, zbd_s, zif_t h2]
        refine (c6_37 he hve (nI b) e 0 200 1 1 (by omega) (by omega)).trans ?_
        rw [zp_72 _ _ _ _ _ _ μ (fun _ _ => 0)]
        exact zreT_of μ (q1.symm.trans hr)
    · refine zfind64 hI 0 (by decide) ?_ (fun μ' _ => ?_)
      · unfold fX5_odds; rw [w5, zbd_s, zif_t h1, w5, zbd_s, zif_f h2]; rfl
      · unfold fX6_odds; rw [i6, zbd_s, zif_t h1, j6, zbd_s, zif_f h2]; rfl
  · refine zfind64 hI 0 (by decide) ?_ (fun μ' _ => ?_)
    · unfold fX5_odds; rw [w5, zbd_s, zif_f h1]; rfl
    · unfold fX6_odds; rw [i6, zbd_s, zif_f h1]; rfl
