/-! lies -/
theorem zmaxlt (l a b : Int32) : (l < if a < b then b else a) ↔ (l < a ∨ l < b) := by
  by_cases w : a < b
  · rw [if_pos w]
    exact ⟨Or.inr, fun q => q.elim (fun q => Int32.lt_trans q w) id⟩
  · rw [if_neg w]
    exact ⟨Or.inl, fun q => q.elim id (fun q => Int32.lt_of_lt_of_le q (Int32.not_lt.mp w))⟩
def zgg (x : Nat → Int32) (t p : Nat) : Int32 := zfold (fun j a => if a < zgap x t p j then zgap x t p j else a) 4 0 0
theorem c0_gg {n c t p : Nat} {μ : zMem} {x : Nat → Int32} (hs : zSim n c μ x) (ht : t < n) (hp : p < 16) (hpe : x (29 + 8 * t + 1) = nI p) : fX0_greatestGap c (c + 4 + 2 * t) μ = some (zgg x t p, μ) := by
  have key : ∀ m j q acc, j + m = 4 → m < q → fX0_greatestGap_4 q c (c + 4 + 2 * t) acc (nI j) μ = some (zfold (fun j a => if a < zgap x t p j then zgap x t p j else a) m j acc, μ) := by
    intro m
    induction m with
    | zero =>
      intro i q acc hi hq
      obtain ⟨q, rfl⟩ : ∃ z, q = z + 1 := ⟨q - 1, by omega⟩
      rw [fX0_greatestGap_4, show (4 : Int32) = nI 4 from rfl, zle_t (by omega) (by omega)]; rfl
    | succ m ih =>
      intro i q acc hi hq
      obtain ⟨q, rfl⟩ : ∃ z, q = z + 1 := ⟨q - 1, by omega⟩
      rw [fX0_greatestGap_4, show (4 : Int32) = nI 4 from rfl, zle_f (by omega) (by omega), (hs.2.2.2 t ht).1.2.1, hpe, c0_gap hs ht hp (by omega), zbd_s, n1, zfold]
      exact ih (i + 1) q _ (by omega) (by omega)
  exact key 4 0 200 0 (by omega) (by omega)
theorem c6_isLying {n t p : Nat} {l : Int32} {μ : zMem} (hl : 0 ≤ l) (hv : zVl n (μ 67)) (ht : t < n) (hp : p < 16) (hpe : μ 67 (29 + 8 * t + 1) = nI p) : fX6_isLying 66 (nI t) l μ = some (zb (¬ l < zgg (μ 67) t p), μ) := by
  obtain ⟨hn, -, -, -, -, v6⟩ := hv.out
  have key : ∀ m j q acc, j + m = 4 → m < q → fX6_isLying_5 q 66 (nI t) l (zb (¬ l < acc)) (nI j) μ = some (zb (¬ l < zfold (fun j a => if a < zgap (μ 67) t p j then zgap (μ 67) t p j else a) m j acc), μ) := by
    intro m
    induction m with
    | zero =>
      intro i q acc hi hq
      obtain ⟨q, rfl⟩ : ∃ z, q = z + 1 := ⟨q - 1, by omega⟩
      rw [fX6_isLying_5, show (4 : Int32) = nI 4 from rfl, zle_t (by omega) (by omega), zgb]; rfl
    | succ m ih =>
      intro i q acc hi hq
      obtain ⟨q, rfl⟩ : ∃ z, q = z + 1 := ⟨q - 1, by omega⟩
      have hcl := zce_lt p hp i (by omega)
      have e1 : fX6_its 66 (nI t) (1 : Int32) μ = some (nI p, μ) := (c6_its (w := 1) (by omega) μ).trans (by rw [hpe])
      rw [fX6_isLying_5, show (4 : Int32) = nI 4 from rfl, zle_f (by omega) (by omega), nI_add, c6_its (by omega), zbd_s, e1, zbd_s, c6_cellOf hp (by omega), zbd_s, nI_add, n1, zfold, show 29 + 8 * t + (4 + i) = 29 + 8 * t + 4 + i by omega]
      simp only [zgd_ib (show 4 + zce p i < 87 by omega) (show 87 < 2 ^ 31 by decide), zcl (show 4 + zce p i < 2 ^ 31 by omega)]
      have nxt := ih (i + 1) q (if acc < zgap (μ 67) t p i then zgap (μ 67) t p i else acc) (by omega) (by omega)
      by_cases w : l < acc
      · rw [zb_f (fun k => k w), if_pos rfl]
        rw [zb_f (fun k => k ((zmaxlt l acc _).2 (Or.inl w)))] at nxt
        exact nxt
      · rw [zb_t w, if_neg (by decide)]
        rcases (v6 t ht).2.2.2 i (by omega) with k | ⟨f, hf, k⟩
        · have g0 : zgap (μ 67) t p i = 0 := if_pos k
          rw [if_pos (by rw [k]; decide)]
          rw [zb_t (show ¬ l < (if acc < zgap (μ 67) t p i then zgap (μ 67) t p i else acc) from fun z => ((zmaxlt l acc _).1 z).elim w (fun z => by rw [g0] at z; exact absurd z (Int32.not_lt.mpr hl)))] at nxt
          exact nxt
        · rw [if_neg (by rw [k]; exact nI_pos (by omega))]
          have e : zgap (μ 67) t p i = if 0 ≤ μ 67 (29 + 8 * t + 4 + i) - μ 67 (4 + zce p i) then μ 67 (29 + 8 * t + 4 + i) - μ 67 (4 + zce p i) else 0 - (μ 67 (29 + 8 * t + 4 + i) - μ 67 (4 + zce p i)) := if_neg (by rw [k]; exact zne1 (by omega))
          by_cases w2 : l < zgap (μ 67) t p i
          · rw [zb_f (fun k => k ((zmaxlt l acc _).2 (Or.inr w2)))] at nxt
            rw [e] at w2
            exact (if_pos w2).trans nxt
          · rw [zb_t (show ¬ l < (if acc < zgap (μ 67) t p i then zgap (μ 67) t p i else acc) from fun z => ((zmaxlt l acc _).1 z).elim w w2)] at nxt
            rw [e] at w2
            exact (if_neg w2).trans nxt
  have := key 4 0 200 0 (by omega) (by omega)
  rw [zb_t (Int32.not_lt.mpr hl)] at this
  exact this
theorem e17 : zE17 zInv := by
  intro a1 l μ hI
  obtain ⟨⟨n, hc⟩, -⟩ := id hI
  have hn := hc.1.1
  have s1 : μ 1 3 = nI n := hc.size.2.2
  refine ztry hI (fun μ2 h2 => ?_)
  have e67 : μ2 67 = μ 67 := h2 67 (by unfold zscr; omega) (by omega) (by omega)
  have s6 : μ2 67 2 = nI n := by rw [e67]; exact hc.1.2.1
  by_cases h1 : 0 ≤ a1 ∧ a1 ≤ nI n - 1
  · by_cases h3 : 0 ≤ l ∧ l ≤ 99
    · obtain ⟨t, ht, rfl⟩ := (ztent hn).1 h1
      have i1 : fX6_its 66 (nI t) (1 : Int32) μ2 = some (μ 67 (29 + 8 * t + 1), μ2) := (c6_its (w := 1) (by omega) μ2).trans (by rw [e67])
      have p1 : fX4_isPitched (0 + 1 + 3 + 1 + 2 * t) μ = some (zb (0 ≤ μ 67 (29 + 8 * t + 1) ∧ μ 67 (29 + 8 * t + 1) ≤ 15), μ) := by
        rw [show 0 + 1 + 3 + 1 + 2 * t = 1 + 4 + 2 * t by omega, c4_isPitched, (hc.2.1.2.2.2 t ht).1.2.1]
      rcases (hc.1.2.2.2.2.2.2 t ht).2.1 with hp | ⟨p, hp, hpe⟩
      · refine ⟨μ, μ2, fun _ _ _ => rfl, fun _ _ _ => rfl, Or.inr ⟨4, by omega, ?_, ?_⟩⟩
        · unfold fX5_lies
          rw [c5_isT s1, zbd_s, zif_t h1, c5_isMeasure, zbd_s, zif_t h3, zgd_ib (by omega) (by decide), zcl (by omega), p1, zbd_s, hp, zif_f (by decide), zbd_eta]; rfl
        · unfold fX6_lies
          rw [c6_isT s6, zbd_s, zif_t h1, c6_isHigh, zbd_s, zif_t h3, i1, zbd_s, hp, if_neg (by decide), zbd_eta]; rfl
      · obtain ⟨α1, α2, b1, b2, b3, b4, b5, b6, b7⟩ := zlend (μ1 := μ) (μ2 := μ2) (by rw [e67]; exact hc.1) (by rw [e67]; exact hc.2.1)
        have key : ∀ m i q, i + m = 101 → m < q → ∀ ν1 ν2 : zMem, zVl n (ν2 67) → zSim n 33 ν1 (ν2 67) → ν2 67 (29 + 8 * t + 1) = nI p → ∃ i' ν1' ν2', zmv n 33 ν1 ν2 ν1' ν2' ∧ fX6_lies_42 q 66 (nI t) l (nI i) ν2 = fX6_lies_67 66 (nI i') ν2' ∧ ((i' ≤ 100 ∧ fX5_lies_55 q 0 (nI t) l (nI i) ν1 = some (nI i', ν1')) ∨ (i' = 101 ∧ fX5_lies_55 q 0 (nI t) l (nI i) ν1 = fX5_finding 0 (nI 3) ν1')) := by
          intro m
          induction m with
          | zero =>
            intro i q hi hq ν1 ν2 hv hs hpe
            obtain ⟨q, rfl⟩ : ∃ z, q = z + 1 := ⟨q - 1, by omega⟩
            refine ⟨i, ν1, ν2, ⟨fun _ _ => rfl, fun _ _ => rfl, hv, hs, zkeep.rfl⟩, ?_, Or.inr ⟨by omega, ?_⟩⟩
            · rw [fX6_lies_42, show (100 : Int32) = nI 100 from rfl, zlt_t (by omega) (by omega)]
            · rw [fX5_lies_55, show (100 : Int32) = nI 100 from rfl, zlt_t (by omega) (by omega), zbd_eta]; rfl
          | succ m ih =>
            intro i q hi hq ν1 ν2 hv hs hpe
            obtain ⟨q, rfl⟩ : ∃ z, q = z + 1 := ⟨q - 1, by omega⟩
            have g5 : fX5_lies_55 (q + 1) 0 (nI t) l (nI i) ν1 = if l < zgg (ν2 67) t p then (zbd (fX0_passDay 33 ν1) fun _ m28 => fX5_lies_55 q 0 (nI t) l (nI (i + 1)) m28) else some (nI i, ν1) := by
              rw [fX5_lies_55, show (100 : Int32) = nI 100 from rfl, zlt_f (by omega) (by omega), zgd_ib (by omega) (by decide), zcl (by omega), show 0 + 33 + 3 + 1 + 2 * t = 33 + 4 + 2 * t by omega, show 0 + 33 = 33 from rfl, c0_gg hs ht hp hpe, zbd_s, n1]
            have g6 : fX6_lies_42 (q + 1) 66 (nI t) l (nI i) ν2 = if zb (¬ l < zgg (ν2 67) t p) = 0 then (zbd (fX6_aDay 66 ν2) fun _ m18 => fX6_lies_42 q 66 (nI t) l (nI (i + 1)) m18) else fX6_lies_67 66 (nI i) ν2 := by
              rw [fX6_lies_42, show (100 : Int32) = nI 100 from rfl, zlt_f (by omega) (by omega), c6_isLying h3.1 hv ht hp hpe, zbd_s, n1]
            by_cases w : l < zgg (ν2 67) t p
            · obtain ⟨x1, x2, c1, c2, c3, -, -⟩ := zday hv hs
              obtain ⟨i', y1, y2, d1, d2, d3⟩ := ih (i + 1) q (by omega) (by omega) x1 x2 c3.2.2.1 c3.2.2.2.1 ((c3.2.2.2.2 _ (by omega)).trans hpe)
              refine ⟨i', y1, y2, c3.trans d1, ?_, ?_⟩
              · rw [g6, zif_f (fun k => k w), c2, zbd_s]; exact d2
              · rw [g5, if_pos w, c1, zbd_s]; exact d3
            · refine ⟨i, ν1, ν2, ⟨fun _ _ => rfl, fun _ _ => rfl, hv, hs, zkeep.rfl⟩, ?_, Or.inl ⟨by omega, ?_⟩⟩
              · rw [g6, zif_t w]
              · rw [g5, if_neg w]
        obtain ⟨i', y1, y2, d1, d2, d3⟩ := key 101 0 200 (by omega) (by omega) α1 α2 b5 b6 (by rw [b4 67 (by decide), e67]; exact hpe)
        obtain ⟨γ, g1, g2⟩ := b7 y2 d1.2.1 (fun j hj => d1.2.2.2.2 j (by omega))
        have r5 : fX5_lies 0 (nI t) l μ = fX5_lies_55 200 0 (nI t) l (nI 0) α1 := by
          unfold fX5_lies
          rw [c5_isT s1, zbd_s, zif_t h1, c5_isMeasure, zbd_s, zif_t h3, zgd_ib (by omega) (by decide), zcl (by omega), p1, zbd_s, hpe, zif_t (show (0 : Int32) ≤ nI p ∧ nI p ≤ 15 from zrng' (n := 15) (by decide) (by omega))]
          show zbd (fX0_becomeLike 33 1 μ) _ = _
          rw [b1, zbd_s]; rfl
        have r6 : fX6_lies 66 (nI t) l μ2 = fX6_orNone 66 (nI i') (nI 100) γ := by
          unfold fX6_lies
          rw [c6_isT s6, zbd_s, zif_t h1, c6_isHigh, zbd_s, zif_t h3, i1, zbd_s, hpe, if_pos (nI_pos' (by omega)), b2, zbd_s]
          refine d2.trans ?_
          unfold fX6_lies_67
          rw [g1, zbd_s, zbd_eta]; rfl
        refine ⟨y1, γ, fun k q1 q2 => ?_, fun k q1 q2 => g2 k (zscr_or q1).2, ?_⟩
        · have := (zscr_or q1).1
          rw [d1.1 k (by omega), b3 k this]
        · rcases d3 with ⟨w, d3⟩ | ⟨w, d3⟩
          · refine Or.inl ⟨nI i', r5.trans d3, r6.trans ?_⟩
            unfold fX6_orNone
            rw [zlt_f (by omega) (by omega)]
          · refine Or.inr ⟨3, by omega, r5.trans d3, r6.trans ?_⟩
            unfold fX6_orNone
            rw [zlt_t (by omega) (by omega), zbd_eta]; rfl
    · refine ⟨μ, μ2, fun _ _ _ => rfl, fun _ _ _ => rfl, Or.inr ⟨0, by omega, ?_, ?_⟩⟩
      · unfold fX5_lies; rw [c5_isT s1, zbd_s, zif_t h1, c5_isMeasure, zbd_s, zif_f h3, zbd_eta]; rfl
      · unfold fX6_lies; rw [c6_isT s6, zbd_s, zif_t h1, c6_isHigh, zbd_s, zif_f h3, zbd_eta]; rfl
  · refine ⟨μ, μ2, fun _ _ _ => rfl, fun _ _ _ => rfl, Or.inr ⟨0, by omega, ?_, ?_⟩⟩
    · unfold fX5_lies; rw [c5_isT s1, zbd_s, zif_f h1, zbd_eta]; rfl
    · unfold fX6_lies; rw [c6_isT s6, zbd_s, zif_f h1, zbd_eta]; rfl
