/-! a tent's day, the camp's day -/
theorem zcorners {n c t p : Nat} (ht : t < n) (hp : p < 16) : ∀ m j q, j + m = 4 → m < q → ∀ μ1 μ2 : zMem, zVl n (μ2 67) → zSim n c μ1 (μ2 67) → μ2 67 (29 + 8 * t + 1) = nI p → ∃ μ1' μ2', fX0_pressAndTake_2 q c (c + 4 + 2 * t) (nI j) μ1 = some ((), μ1') ∧ (∀ K q', m < q' → ∃ r, fX6_aDay_23 K q' 66 (nI t) (nI j) μ2 = fX6_aDay_23 K (r + 1) 66 (nI t) (nI 4) μ2') ∧ zmv n c μ1 μ2 μ1' μ2' ∧ μ2' 67 0 = μ2 67 0 ∧ μ1' c 5 = μ1 c 5 := by
  intro m
  induction m with
  | zero =>
    intro j q hj hq μ1 μ2 hv hs hpe
    obtain ⟨q, rfl⟩ : ∃ z, q = z + 1 := ⟨q - 1, by omega⟩
    refine ⟨μ1, μ2, ?_, fun K q' hq' => ⟨q' - 1, by rw [show j = 4 by omega, show q' - 1 + 1 = q' by omega]⟩, ⟨fun _ _ => rfl, fun _ _ => rfl, hv, hs, zkeep.rfl⟩, rfl, rfl⟩
    rw [fX0_pressAndTake_2, show (4 : Int32) = nI 4 from rfl, zle_t (by omega) (by omega)]
  | succ m ih =>
    intro j q hj hq μ1 μ2 hv hs hpe
    obtain ⟨q, rfl⟩ : ∃ z, q = z + 1 := ⟨q - 1, by omega⟩
    obtain ⟨ν1, ν2, c1, c2, c3, c4, c5⟩ := zcorner hv hs ht (show j < 4 by omega) hp hpe
    have hn := hv.out.1
    obtain ⟨μ1', μ2', d1, d2, d3, d4, d5⟩ := ih (j + 1) q (by omega) (by omega) ν1 ν2 c3.2.2.1 c3.2.2.2.1 ((c3.2.2.2.2 _ (by omega)).trans hpe)
    refine ⟨μ1', μ2', (c1 q).trans d1, fun K q' hq' => ?_, c3.trans d3, d4.trans c4, d5.trans c5⟩
    obtain ⟨q', rfl⟩ : ∃ z, q' = z + 1 := ⟨q' - 1, by omega⟩
    obtain ⟨r, hr⟩ := d2 K q' (by omega)
    refine ⟨r, ?_⟩
    rw [fX6_aDay_23, show (4 : Int32) = nI 4 from rfl, zle_f (by omega) (by omega), c2, zbd_s, n1]
    exact hr
theorem zwr : ∀ k, k < 7 → ∃ v, v ≤ 5 ∧ zwear (nI k) = nI v := by decide +kernel
theorem ztday {n c t p : Nat} {μ1 μ2 : zMem} (hv : zVl n (μ2 67)) (hs : zSim n c μ1 (μ2 67)) (ht : t < n) (hp : p < 16) (hpe : μ2 67 (29 + 8 * t + 1) = nI p) : ∃ μ1' μ2', (∀ q, fX0_passDay_2 (q + 1) c (nI t) μ1 = fX0_passDay_2 q c (nI (t + 1)) μ1') ∧ (∀ q, fX6_aDay_2 (q + 1) 66 (nI t) μ2 = fX6_aDay_2 q 66 (nI (t + 1)) μ2') ∧ zmv n c μ1 μ2 μ1' μ2' ∧ μ2' 67 0 = μ2 67 0 ∧ μ1' c 5 = μ1 c 5 := by
  obtain ⟨hn, v2, -, v4, -, v6⟩ := hv.out
  have h3 : μ1 c 3 = nI n := hs.1.1.trans v2
  obtain ⟨ν1, ν2, c1, c2, c3, c4, c5⟩ := zcorners ht hp 4 0 200 (by omega) (by omega) μ1 μ2 hv hs hpe
  obtain ⟨-, -, -, -, -, u6⟩ := c3.2.2.1.out
  obtain ⟨⟨k, hk, hke⟩, -, ⟨w, hw, hwe⟩, -⟩ := u6 t ht
  obtain ⟨⟨t0, t1, t2⟩, -⟩ := c3.2.2.2.1.2.2.2 t ht
  obtain ⟨z, hz, hze⟩ := zwr k hk
  have hl : zloc c (29 + 8 * t + 2) = (c + 4 + 2 * t, 2) := zloc_t (by omega) (by omega)
  refine ⟨zst ν1 (c + 4 + 2 * t) 2 (nI (min (w + z) 99)), zst ν2 67 (29 + 8 * t + 2) (nI (min (w + z) 99)), fun q => ?_, fun q => ?_, c3.trans ⟨fun k hk => zst_row_ne (by omega), fun k hk => zst_row_ne hk, ?_, ?_, ?_⟩, (zst_ne (by omega)).trans c4, ?_⟩
  · rw [fX0_passDay_2, h3, zle_f (by omega) (by omega)]
    simp only [zgd_ib (show t < 6 by omega) (show 6 < 2 ^ 31 by decide), zcl (show t < 2 ^ 31 by omega), n1]
    rw [show c + 3 + 1 + 2 * t = c + 4 + 2 * t by omega, c4_isPitched, zbd_s, (hs.2.2.2 t ht).1.2.1, hpe, zif_t (show (0 : Int32) ≤ nI p ∧ nI p ≤ 15 from zrng' (n := 15) (by decide) (by omega))]
    have e : fX0_pressAndTake c (c + 4 + 2 * t) μ1 = some ((), ν1) := c1
    rw [e, zbd_s]
    unfold fX4_wearOut
    rw [c4_wear, zbd_s, zbd_s, t0, hke, hze, t2, hwe, nI_add, show (99 : Int32) = nI 99 from rfl, zmin (by omega) (by omega)]
  · have i1 : fX6_its 66 (nI t) (1 : Int32) μ2 = some (nI p, μ2) := (c6_its (w := 1) (by omega) μ2).trans (by rw [hpe])
    have i2 : fX6_its 66 (nI t) (2 : Int32) ν2 = some (nI w, ν2) := (c6_its (w := 2) (by omega) ν2).trans (by rw [hwe])
    have i3 : ∀ v, fX6_sets 66 (nI t) (2 : Int32) v ν2 = some ((), zst ν2 67 (29 + 8 * t + 2) v) := fun v => c6_sets (w := 2) (by omega) v ν2
    obtain ⟨r, hr⟩ := c2 (fX6_aDay_2 q) 200 (by omega)
    rw [fX6_aDay_2, zgd_t zi2, show μ2 (66 + 1) (2 : Int32).toNatClampNeg = nI n from v2, zle_f (by omega) (by omega), i1, zbd_s, if_neg (nI_pos (by omega))]
    refine hr.trans ?_
    rw [fX6_aDay_23, show (4 : Int32) = nI 4 from rfl, zle_t (by omega) (by omega), i2, zbd_s, c6_wears (by omega), zbd_s, hke, hze, nI_add, show (99 : Int32) = nI 99 from rfl, zmin (by omega) (by omega), i3, zbd_s, n1]
  · rw [zst_r]; exact zVl_put c3.2.2.1 (Or.inr (Or.inr (Or.inr ⟨t, ht, Or.inr (Or.inr (Or.inl ⟨rfl, _, by omega, rfl⟩))⟩)))
  · rw [zst_r]; exact zSim_put hn c3.2.2.2.1 (by omega) (by omega) _ _ hl
  · rw [zst_r]; exact zkeep_put (by omega)
  · rw [zst_row_ne (by omega)]; exact c5
theorem zday {n c : Nat} {μ1 μ2 : zMem} (hv : zVl n (μ2 67)) (hs : zSim n c μ1 (μ2 67)) : ∃ μ1' μ2', fX0_passDay c μ1 = some ((), μ1') ∧ fX6_aDay 66 μ2 = some ((), μ2') ∧ zmv n c μ1 μ2 μ1' μ2' ∧ μ2' 67 0 = μ2 67 0 + 1 ∧ μ1' c 5 = if 99999 ≤ μ1 c 5 then μ1 c 5 else μ1 c 5 + 1 := by
  have key : ∀ m t q, t + m = n → m < q → ∀ μ1 μ2 : zMem, zVl n (μ2 67) → zSim n c μ1 (μ2 67) → ∃ μ1' μ2', fX0_passDay_2 q c (nI t) μ1 = some ((), μ1') ∧ fX6_aDay_2 q 66 (nI t) μ2 = some ((), μ2') ∧ zmv n c μ1 μ2 μ1' μ2' ∧ μ2' 67 0 = μ2 67 0 + 1 ∧ μ1' c 5 = if 99999 ≤ μ1 c 5 then μ1 c 5 else μ1 c 5 + 1 := by
    intro m
    induction m with
    | zero =>
      intro t q ht hq μ1 μ2 hv hs
      obtain ⟨q, rfl⟩ : ∃ z, q = z + 1 := ⟨q - 1, by omega⟩
      obtain ⟨hn, v2, -⟩ := hv.out
      have h3 : μ1 c 3 = nI n := hs.1.1.trans v2
      have e6 : fX6_aDay_2 (q + 1) 66 (nI t) μ2 = some ((), zst μ2 67 0 (μ2 67 0 + 1)) := by
        rw [fX6_aDay_2, zgd_t zi2, show μ2 (66 + 1) (2 : Int32).toNatClampNeg = nI n from v2, zle_t (by omega) (by omega), zgd_t (by decide), zgd_t (by decide)]
        rfl
      have hs2 : ∀ v : Int32, zSim n c (zst μ1 c 5 v) (upd (μ2 67) 0 (μ2 67 0 + 1)) := by
        intro v
        obtain ⟨⟨a1, a2, a3⟩, b, d, e⟩ := hs
        refine ⟨⟨?_, ?_, ?_⟩, fun i hi => ?_, fun i hi => ?_, fun t ht => ⟨⟨?_, ?_, ?_⟩, fun j hj => ?_⟩⟩
        · rw [zst_ne (by omega), pk_un (by omega)]; exact a1
        · rw [zst_ne (by omega), pk_un (by omega)]; exact a2
        · rw [zst_ne (by omega), pk_un (by omega)]; exact a3
        · rw [zst_row_ne (by omega), pk_un (by omega)]; exact b i hi
        · rw [zst_row_ne (by omega), pk_un (by omega)]; exact d i hi
        · rw [zst_row_ne (by omega), pk_un (by omega)]; exact (e t ht).1.1
        · rw [zst_row_ne (by omega), pk_un (by omega)]; exact (e t ht).1.2.1
        · rw [zst_row_ne (by omega), pk_un (by omega)]; exact (e t ht).1.2.2
        · rw [zst_row_ne (by omega), pk_un (by omega)]; exact (e t ht).2 j hj
      have e1 : zst μ1 c 5 (μ1 c 5) = μ1 := funext fun a => funext fun b => by
        rw [zst_at]; split
        · rename_i q; rw [q.1, q.2]
        · rfl
      by_cases w : (99999 : Int32) ≤ μ1 c 5
      · refine ⟨μ1, _, ?_, e6, ⟨fun _ _ => rfl, fun k hk => zst_row_ne hk, ?_, ?_, ?_⟩, zst_eq _ _ _ _, (if_pos w).symm⟩
        · rw [fX0_passDay_2, h3, zle_t (by omega) (by omega), if_pos w]
        · rw [zst_r]; exact zVl_put hv (Or.inl rfl)
        · rw [zst_r, ← e1]
          rw [e1]
          have := hs2 (μ1 c 5)
          rw [e1] at this
          exact this
        · rw [zst_r]; exact zkeep_put (Or.inl rfl)
      · refine ⟨zst μ1 c 5 (μ1 c 5 + 1), _, ?_, e6, ⟨fun k hk => zst_row_ne (by omega), fun k hk => zst_row_ne hk, ?_, ?_, ?_⟩, zst_eq _ _ _ _, ?_⟩
        · rw [fX0_passDay_2, h3, zle_t (by omega) (by omega), if_neg w]
        · rw [zst_r]; exact zVl_put hv (Or.inl rfl)
        · rw [zst_r]; exact hs2 _
        · rw [zst_r]; exact zkeep_put (Or.inl rfl)
        · rw [zst_eq, if_neg w]
    | succ m ih =>
      intro t q ht hq μ1 μ2 hv hs
      obtain ⟨q, rfl⟩ : ∃ z, q = z + 1 := ⟨q - 1, by omega⟩
      obtain ⟨hn, v2, -, -, -, v6⟩ := hv.out
      have h3 : μ1 c 3 = nI n := hs.1.1.trans v2
      rcases (v6 t (by omega)).2.1 with hp | ⟨p, hp, hpe⟩
      · obtain ⟨μ1', μ2', d1, d2, d3, d4, d5⟩ := ih (t + 1) q (by omega) (by omega) μ1 μ2 hv hs
        have i1 : fX6_its 66 (nI t) (1 : Int32) μ2 = some (-1, μ2) := (c6_its (w := 1) (by omega) μ2).trans (by rw [hp])
        refine ⟨μ1', μ2', ?_, ?_, d3, d4, d5⟩
        · rw [fX0_passDay_2, h3, zle_f (by omega) (by omega)]
          simp only [zgd_ib (show t < 6 by omega) (show 6 < 2 ^ 31 by decide), zcl (show t < 2 ^ 31 by omega), n1]
          rw [show c + 3 + 1 + 2 * t = c + 4 + 2 * t by omega, c4_isPitched, zbd_s, (hs.2.2.2 t (by omega)).1.2.1, hp, zif_f (by decide)]
          exact d1
        · rw [fX6_aDay_2, zgd_t zi2, show μ2 (66 + 1) (2 : Int32).toNatClampNeg = nI n from v2, zle_f (by omega) (by omega), i1, zbd_s, if_pos (by decide), n1]
          exact d2
      · obtain ⟨ν1, ν2, c1, c2, c3, c4, c5⟩ := ztday hv hs (show t < n by omega) hp hpe
        obtain ⟨μ1', μ2', d1, d2, d3, d4, d5⟩ := ih (t + 1) q (by omega) (by omega) ν1 ν2 c3.2.2.1 c3.2.2.2.1
        exact ⟨μ1', μ2', (c1 q).trans d1, (c2 q).trans d2, c3.trans d3, by rw [d4, c4], by rw [d5, c5]⟩
  have hn := hv.out.1
  exact key n 0 200 (by omega) (by omega) μ1 μ2 hv hs
