/-! days on end; go, ahead, felt -/
theorem zdays {n c D : Nat} (hD : D ≤ 100) {μ1 μ2 : zMem} (hv : zVl n (μ2 67)) (hs : zSim n c μ1 (μ2 67)) : ∃ μ1' μ2', fX0_passDays c (nI D) μ1 = some ((), μ1') ∧ fX6_days 66 (nI D) μ2 = some ((), μ2') ∧ zmv n c μ1 μ2 μ1' μ2' ∧ μ2' 67 0 = μ2 67 0 + nI D ∧ ∀ d, μ1 c 5 = nI d → d + D ≤ 99999 → μ1' c 5 = nI (d + D) := by
  have key : ∀ m j q, j + m = D → m < q → ∀ μ1 μ2 : zMem, zVl n (μ2 67) → zSim n c μ1 (μ2 67) → ∃ μ1' μ2', fX0_passDays_2 q c (nI D) (nI j) μ1 = some ((), μ1') ∧ fX6_days_2 q 66 (nI D) (nI j) μ2 = some ((), μ2') ∧ zmv n c μ1 μ2 μ1' μ2' ∧ μ2' 67 0 = μ2 67 0 + nI m ∧ ∀ d, μ1 c 5 = nI d → d + m ≤ 99999 → μ1' c 5 = nI (d + m) := by
    intro m
    induction m with
    | zero =>
      intro j q hj hq μ1 μ2 hv hs
      obtain ⟨q, rfl⟩ : ∃ z, q = z + 1 := ⟨q - 1, by omega⟩
      refine ⟨μ1, μ2, ?_, ?_, ⟨fun _ _ => rfl, fun _ _ => rfl, hv, hs, zkeep.rfl⟩, ?_, fun d hd _ => hd⟩
      · rw [fX0_passDays_2, zle_t (by omega) (by omega)]
      · rw [fX6_days_2, zle_t (by omega) (by omega)]
      · rw [show nI 0 = (0 : Int32) from rfl, Int32.add_zero]
    | succ m ih =>
      intro j q hj hq μ1 μ2 hv hs
      obtain ⟨q, rfl⟩ : ∃ z, q = z + 1 := ⟨q - 1, by omega⟩
      obtain ⟨ν1, ν2, c1, c2, c3, c4, c5⟩ := zday hv hs
      obtain ⟨μ1', μ2', d1, d2, d3, d4, d5⟩ := ih (j + 1) q (by omega) (by omega) ν1 ν2 c3.2.2.1 c3.2.2.2.1
      refine ⟨μ1', μ2', ?_, ?_, c3.trans d3, ?_, fun d hd hb => ?_⟩
      · rw [fX0_passDays_2, zle_f (by omega) (by omega), c1, zbd_s, n1]; exact d1
      · rw [fX6_days_2, zle_f (by omega) (by omega), c2, zbd_s, n1]; exact d2
      · rw [d4, c4, Int32.add_assoc, show (1 : Int32) = nI 1 from rfl, nI_add, Nat.add_comm 1 m]
      · rw [hd, show (99999 : Int32) = nI 99999 from rfl, zle_f (by omega) (by omega), n1] at c5
        rw [d5 (d + 1) c5 (by omega), show d + 1 + m = d + (m + 1) by omega]
  exact key D 0 200 (by omega) (by omega) μ1 μ2 hv hs
/-- both sides move the camp -/
theorem zgo {α : Type} {o1 : Option (α × zMem)} {f6 : zMem → Option (α × zMem)} {μ : zMem} (hI : zInv μ) (h : ∀ μ2 : zMem, (∀ k, ¬ (1 ≤ k ∧ k ≤ 16) → ¬ zscr k → k < 78 → μ2 k = μ k) → ∃ n r μ1' μ2', o1 = some (r, μ1') ∧ f6 μ2 = some (r, μ2') ∧ (∀ k, ¬ (1 ≤ k ∧ k ≤ 16) → ¬ zscr k → k < 78 → μ1' k = μ k) ∧ (∀ k, k ≠ 67 → ¬ zscr k → k < 78 → μ2' k = μ2 k) ∧ zVal n (μ2' 67) ∧ zSim n 1 μ1' (μ2' 67) ∧ μ1' 1 5 = μ2' 67 0) : zok o1 (fun r μ1 => zok (f6 μ1) (fun r' μ2 => r = r' ∧ zInv μ2)) := by
  obtain ⟨-, r, μ1, -, a1, -, a3, -, -, -, -⟩ := h μ (fun _ _ _ _ => rfl)
  obtain ⟨n, r', μ1', μ2, b1, b2, b3, b4, b5, b6, b7⟩ := h μ1 a3
  obtain ⟨rfl, rfl⟩ : r' = r ∧ μ1' = μ1 := by
    have := b1.symm.trans a1
    simp only [Option.some.injEq, Prod.mk.injEq] at this
    exact this
  refine zE_of a1 b2 (hI.camp (fun k q1 q2 q3 q4 => (b4 k q4 q1 q2).trans (b3 k q3 q1 q2)) ⟨n, b5, b6.congr b5.1 (fun k q1 q2 => b4 k (by omega) (by unfold zscr; omega) (by omega)), ?_⟩)
  rw [b4 1 (by omega) (by unfold zscr; omega) (by omega)]; exact b7
/-- both sides try something out, and put things back -/
theorem ztrial {α : Type} {o1 : Option (α × zMem)} {f6 : zMem → Option (α × zMem)} {μ : zMem} (hI : zInv μ) (h : ∀ μ2 : zMem, (∀ k, ¬ zscr k → k < 78 → μ2 k = μ k) → ∃ r μ1' μ2', o1 = some (r, μ1') ∧ f6 μ2 = some (r, μ2') ∧ (∀ k, ¬ zscr k → k < 78 → μ1' k = μ k) ∧ (∀ k, ¬ zscr k → k < 78 → μ2' k = μ2 k)) : zok o1 (fun r μ1 => zok (f6 μ1) (fun r' μ2 => r = r' ∧ zInv μ2)) := by
  obtain ⟨r, μ1, -, a1, -, a3, -⟩ := h μ (fun _ _ _ => rfl)
  obtain ⟨r', μ1', μ2, b1, b2, b3, b4⟩ := h μ1 a3
  obtain ⟨rfl, rfl⟩ : r' = r ∧ μ1' = μ1 := by
    have := b1.symm.trans a1
    simp only [Option.some.injEq, Prod.mk.injEq] at this
    exact this
  exact zE_of a1 b2 (hI.scr (fun k q1 q2 => (b4 k q1 q2).trans (b3 k q1 q2)))
theorem c6_becomeF {a b : Nat} (ha : zln a = 87) (hb : zln b = 87) (hab : a ≠ b) (μ : zMem) : ∃ μ', fX6_become a b μ = some ((), μ') ∧ (∀ j, j ≠ b → μ' j = μ j) ∧ ∀ j, μ' b j = if j < 87 then μ a j else μ b j := by
  have key : ∀ m i q, i + m = 87 → m < q → ∀ μ : zMem, ∃ μ', fX6_become_2 q a b (nI i) μ = some ((), μ') ∧ (∀ j, j ≠ b → μ' j = μ j) ∧ ∀ j, μ' b j = if i ≤ j ∧ j < 87 then μ a j else μ b j := by
    intro m
    induction m with
    | zero =>
      intro i q hi hq μ
      obtain ⟨q, rfl⟩ : ∃ z, q = z + 1 := ⟨q - 1, by omega⟩
      refine ⟨μ, ?_, fun _ _ => rfl, fun j => by rw [if_neg (by omega)]⟩
      rw [fX6_become_2, show (87 : Int32) = nI 87 from rfl, zle_t (by omega) (by omega)]
    | succ m ih =>
      intro i q hi hq μ
      obtain ⟨q, rfl⟩ : ∃ z, q = z + 1 := ⟨q - 1, by omega⟩
      obtain ⟨μ', h1, h2, h3⟩ := ih (i + 1) q (by omega) (by omega) (zst μ b i (μ a i))
      refine ⟨μ', ?_, fun j hj => by rw [h2 j hj, zst_row_ne hj], fun j => ?_⟩
      · rw [fX6_become_2, show (87 : Int32) = nI 87 from rfl, zle_f (by omega) (by omega), ha, hb]
        simp only [zgd_ib (show i < 87 by omega) (show 87 < 2 ^ 31 by decide), zcl (show i < 2 ^ 31 by omega), n1]
        exact h1
      · rw [h3 j, zst_row_ne hab, zst_at]
        by_cases e : j = i
        · subst e
          rw [if_neg (by omega), if_pos ⟨rfl, rfl⟩, if_pos (by omega)]
        · rw [if_neg (show ¬ (b = b ∧ j = i) from fun z => e z.2)]
          by_cases e2 : i ≤ j ∧ j < 87
          · rw [if_pos (by omega), if_pos e2]
          · rw [if_neg (by omega), if_neg e2]
  obtain ⟨μ', h1, h2, h3⟩ := key 87 0 200 (by omega) (by omega) μ
  refine ⟨μ', h1, h2, fun j => ?_⟩
  rw [h3 j]
  by_cases w : j < 87
  · rw [if_pos ⟨by omega, w⟩, if_pos w]
  · rw [if_neg (fun q => w q.2), if_neg w]
theorem zlend {n : Nat} {μ1 μ2 : zMem} (hv : zVal n (μ2 67)) (hs : zSim n 1 μ1 (μ2 67)) : ∃ μ1' μ2', fX0_becomeLike 33 1 μ1 = some ((), μ1') ∧ fX6_lends 66 μ2 = some ((), μ2') ∧ (∀ k, ¬ (33 ≤ k ∧ k ≤ 48) → μ1' k = μ1 k) ∧ (∀ k, k ≠ 69 → μ2' k = μ2 k) ∧ zVl n (μ2' 67) ∧ zSim n 33 μ1' (μ2' 67) ∧
    ∀ μ3 : zMem, (∀ k, k ≠ 67 → μ3 k = μ2' k) → (∀ j, 87 ≤ j → μ3 67 j = μ2' 67 j) → ∃ μ4, fX6_laysBack 66 μ3 = some ((), μ4) ∧ ∀ k, k ≠ 69 → μ4 k = μ2 k := by
  obtain ⟨μ1', f1, f2, f3, -⟩ := c0_become (c := 33) (d := 1) hv.1 (by omega) hs hv.2.1
  obtain ⟨μ2', g1, g2, g3⟩ := c6_becomeF (a := 67) (b := 69) rfl rfl (by decide) μ2
  have e67 : μ2' 67 = μ2 67 := g2 67 (by decide)
  refine ⟨μ1', μ2', f1, ?_, f2, g2, by rw [e67]; exact hv.vl, by rw [e67]; exact f3, fun μ3 h3 hk => ?_⟩
  · unfold fX6_lends; rw [g1, zbd_s]
  · obtain ⟨μ4, k1, k2, k3⟩ := c6_becomeF (a := 69) (b := 67) rfl rfl (by decide) μ3
    refine ⟨μ4, by unfold fX6_laysBack; rw [k1, zbd_s], fun k hk69 => ?_⟩
    by_cases e : k = 67
    · subst e
      funext j
      rw [k3]
      by_cases w : j < 87
      · rw [if_pos w, h3 69 (by decide), g3, if_pos w]
      · rw [if_neg w, hk j (by omega), e67]
    · rw [k2 k e, h3 k e, g2 k hk69]
theorem e7 : zE7 zInv := by
  intro a1 μ hI
  obtain ⟨⟨n, hc⟩, -⟩ := id hI
  have i6 : ∀ μ' : zMem, fX6_in a1.toInt64 1 60 μ' = some (zb (1 ≤ a1 ∧ a1 ≤ 60), μ') := fun μ' => by
    rw [show (1 : Int64) = (1 : Int32).toInt64 from rfl, show (60 : Int64) = (60 : Int32).toInt64 from rfl, w6]
  obtain ⟨d, hd, hde⟩ := hc.1.2.2.1
  have h5 : μ 1 5 = nI d := hc.2.2.trans hde
  by_cases w : 1 ≤ a1 ∧ a1 ≤ 60
  · obtain ⟨D, hD, rfl⟩ := zrng (n := 60) rfl ⟨Int32.le_trans (by decide) w.1, w.2⟩
    by_cases w2 : d + D ≤ 99999
    · refine zgo hI (fun μ2 h2 => ?_)
      have e67 : μ2 67 = μ 67 := h2 67 (by omega) (by unfold zscr; omega) (by omega)
      obtain ⟨μ1', μ2', c1, c2, c3, c4, c5⟩ := zdays (n := n) (c := 1) (D := D) (μ1 := μ) (μ2 := μ2) (by omega) (by rw [e67]; exact hc.1.vl) (by rw [e67]; exact hc.2.1)
      have hvn : zVal n (μ2' 67) := by
        have q := zVal_put (k := 0) (v := nI (d + D)) c3.2.2.1 (Or.inr (Or.inl ⟨rfl, d + D, w2, rfl⟩))
        refine zVal_ext q (fun j _ => ?_)
        by_cases z : j = 0
        · subst z; rw [pk_us, c4, e67, hde, nI_add]
        · rw [pk_un z, pk_un z]
      refine ⟨n, zhs (μ2' 67), μ1', μ2', ?_, ?_, fun k q1 _ _ => c3.1 k (by omega), fun k q1 _ _ => c3.2.1 k q1, hvn, c3.2.2.2.1, ?_⟩
      · unfold fX5_go
        rw [w5, zbd_s, zif_t w, h5, nI_add, show (99999 : Int32) = nI 99999 from rfl, zle_t w2 (by omega)]
        show zbd (fX0_passDays 1 (nI D) μ) _ = _
        rw [c1, zbd_s]
        show zbd (fX0_heightSum 1 μ1') _ = _
        rw [c0_heightSum c3.2.2.2.1, zbd_s]
      · unfold fX6_go
        rw [i6, zbd_s, zif_t w, zgd_t (by decide), show μ2 (66 + 1) (0 : Int32).toNatClampNeg = nI d by rw [show 66 + 1 = 67 from rfl, e67]; exact hde, nI_add, show (99999 : Int32) = nI 99999 from rfl, zle_t w2 (by omega), c2, zbd_s, c6_heights, zbd_s]
      · rw [c5 d h5 w2, c4, e67, hde, nI_add]
    · refine zfind hI 4 (by decide) ?_ (fun μ' h => ?_)
      · unfold fX5_go
        rw [w5, zbd_s, zif_t w, h5, nI_add, show (99999 : Int32) = nI 99999 from rfl, zle_f (by omega) (by omega), zbd_eta]; rfl
      · unfold fX6_go
        rw [i6, zbd_s, zif_t w, zgd_t (by decide), show μ' (66 + 1) (0 : Int32).toNatClampNeg = nI d by rw [show 66 + 1 = 67 from rfl, h 67 (by omega) (by omega)]; exact hde, nI_add, show (99999 : Int32) = nI 99999 from rfl, zle_f (by omega) (by omega), zbd_eta]; rfl
  · refine zfind hI 0 (by decide) ?_ (fun μ' _ => ?_)
    · unfold fX5_go; rw [w5, zbd_s, zif_f w, zbd_eta]; rfl
    · unfold fX6_go; rw [i6, zbd_s, zif_f w, zbd_eta]; rfl
theorem zscr_or {k : Nat} (h : ¬ zscr k) : ¬ (33 ≤ k ∧ k ≤ 48) ∧ k ≠ 69 := by unfold zscr at h; omega
/-- some days ahead, and back -/
theorem zahead {n D : Nat} (hD : D ≤ 100) {μ1 μ2 : zMem} (hv : zVal n (μ2 67)) (hs : zSim n 1 μ1 (μ2 67)) : ∃ α1 β1 α2 β2 γ, fX0_becomeLike 33 1 μ1 = some ((), α1) ∧ fX0_passDays 33 (nI D) α1 = some ((), β1) ∧ fX6_lends 66 μ2 = some ((), α2) ∧ fX6_days 66 (nI D) α2 = some ((), β2) ∧ fX6_laysBack 66 β2 = some ((), γ) ∧ zVl n (β2 67) ∧ zSim n 33 β1 (β2 67) ∧ (∀ k, ¬ zscr k → k < 78 → β1 k = μ1 k) ∧ (∀ k, ¬ zscr k → k < 78 → γ k = μ2 k) ∧ zkeep (μ2 67) (β2 67) := by
  obtain ⟨α1, α2, a1, a2, a3, a4, a5, a6, a7⟩ := zlend hv hs
  obtain ⟨β1, β2, b1, b2, b3, -, -⟩ := zdays (c := 33) hD a5 a6
  obtain ⟨γ, g1, g2⟩ := a7 β2 b3.2.1 (fun j hj => b3.2.2.2.2 j (by omega))
  refine ⟨α1, β1, α2, β2, γ, a1, b1, a2, b2, g1, b3.2.2.1, b3.2.2.2.1, fun k q1 q2 => ?_, fun k q1 q2 => g2 k (zscr_or q1).2, ?_⟩
  · have := (zscr_or q1).1
    rw [b3.1 k (by omega), a3 k this]
  · have := b3.2.2.2.2
    rw [a4 67 (by decide)] at this
    exact this
theorem e13 : zE13 zInv := by
  intro a1 a2 μ hI
  obtain ⟨⟨n, hc⟩, -⟩ := id hI
  have i6 : ∀ μ' : zMem, fX6_in a2.toInt64 0 100 μ' = some (zb (0 ≤ a2 ∧ a2 ≤ 100), μ') := fun μ' => by
    rw [show (0 : Int64) = (0 : Int32).toInt64 from rfl, show (100 : Int64) = (100 : Int32).toInt64 from rfl, w6]
  by_cases h1 : 0 ≤ a1 ∧ a1 ≤ 24
  · by_cases h2 : 0 ≤ a2 ∧ a2 ≤ 100
    · obtain ⟨i, hi, rfl⟩ := zrng (n := 24) rfl h1
      obtain ⟨D, hD, rfl⟩ := zrng (n := 100) rfl h2
      refine ztrial hI (fun μ2 h3 => ?_)
      have e67 : μ2 67 = μ 67 := h3 67 (by unfold zscr; omega) (by omega)
      obtain ⟨α1, β1, α2, β2, γ, b1, b2, b3, b4, b5, b6, b7, b8, b9, -⟩ := zahead hD (μ1 := μ) (μ2 := μ2) (by rw [e67]; exact hc.1) (by rw [e67]; exact hc.2.1)
      refine ⟨β2 67 (4 + i), β1, γ, ?_, ?_, b8, b9⟩
      · unfold fX5_ahead
        rw [c5_isCell, zbd_s, zif_t h1, w5, zbd_s, zif_t h2]
        show zbd (fX0_becomeLike 33 1 μ) _ = _
        rw [b1, zbd_s]
        show zbd (fX0_passDays 33 (nI D) α1) _ = _
        rw [b2, zbd_s, zgd_ib (by omega) (by decide), zcl (by omega), ← b7.2.1 i (by omega)]
      · unfold fX6_ahead
        rw [c6_isCell, zbd_s, zif_t h1, i6, zbd_s, zif_t h2, b3, zbd_s, b4, zbd_s, show (4 : Int32) = nI 4 from rfl, nI_add, zgd_ib (by omega) (by decide), zcl (by omega), b5, zbd_s]
    · refine zfind hI 0 (by decide) ?_ (fun μ' _ => ?_)
      · unfold fX5_ahead; rw [c5_isCell, zbd_s, zif_t h1, w5, zbd_s, zif_f h2, zbd_eta]; rfl
      · unfold fX6_ahead; rw [c6_isCell, zbd_s, zif_t h1, i6, zbd_s, zif_f h2, zbd_eta]; rfl
  · refine zfind hI 0 (by decide) ?_ (fun μ' _ => ?_)
    · unfold fX5_ahead; rw [c5_isCell, zbd_s, zif_f h1, zbd_eta]; rfl
    · unfold fX6_ahead; rw [c6_isCell, zbd_s, zif_f h1, zbd_eta]; rfl
