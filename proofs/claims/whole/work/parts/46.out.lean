/-! out -/
def zou (F : Nat → Int32) (a w : Int32) : Nat → Nat → Bool
  | 0, _ => true
  | m + 1, j => !decide (F j = -1) && (!decide (w < (if 0 ≤ F j - a then F j - a else 0 - (F j - a))) && zou F a w m (j + 1))
theorem zou_congr {F F' : Nat → Int32} {a w : Int32} : ∀ m j, (∀ i, j ≤ i → i < j + m → F i = F' i) → zou F a w m j = zou F' a w m j := by
  intro m
  induction m with
  | zero => intro j _; rfl
  | succ m ih =>
    intro j h
    rw [zou, zou, h j (by omega) (by omega), ih (j + 1) (fun i q1 q2 => h i (by omega) (by omega))]
theorem c4_near (T : Nat) (a w : Int32) (μ : zMem) : fX4_keepsNear T a w μ = some (zb (zou (μ (T + 1)) a w 4 0 = true), μ) := by
  have key : ∀ m j q, j + m = 4 → m < q → fX4_keepsNear_2 q T a w (nI j) μ = some (zb (zou (μ (T + 1)) a w m j = true), μ) := by
    intro m
    induction m with
    | zero =>
      intro j q hj hq
      obtain ⟨q, rfl⟩ : ∃ z, q = z + 1 := ⟨q - 1, by omega⟩
      rw [fX4_keepsNear_2, show (4 : Int32) = nI 4 from rfl, zle_t (by omega) (by omega)]; rfl
    | succ m ih =>
      intro j q hj hq
      obtain ⟨q, rfl⟩ : ∃ z, q = z + 1 := ⟨q - 1, by omega⟩
      rw [fX4_keepsNear_2, show (4 : Int32) = nI 4 from rfl, zle_f (by omega) (by omega)]
      simp only [zgd_ib (show j < 4 by omega) (show 4 < 2 ^ 31 by decide), zcl (show j < 2 ^ 31 by omega), n1]
      rw [zou]
      by_cases w1 : μ (T + 1) j = -1
      · rw [if_pos w1, decide_eq_true w1]; rfl
      · rw [if_neg w1, decide_eq_false w1]
        by_cases w2 : w < (if 0 ≤ μ (T + 1) j - a then μ (T + 1) j - a else 0 - (μ (T + 1) j - a))
        · rw [if_neg (Int32.not_le.mpr w2), decide_eq_true w2]; rfl
        · rw [if_pos (Int32.not_lt.mp w2), decide_eq_false w2, ih (j + 1) q (by omega) (by omega)]
          simp only [Bool.not_false, Bool.true_and]
  exact key 4 0 200 (by omega) (by omega)
theorem c6_isOut {n t : Nat} {μ : zMem} (hv : zVl n (μ 67)) (ht : t < n) (a w : Int32) : fX6_isOut 66 (nI t) a w μ = some (zb (zou (fun j => μ 67 (29 + 8 * t + 4 + j)) a w 4 0 = true), μ) := by
  obtain ⟨hn, -, -, -, -, v6⟩ := hv.out
  have k0 : ∀ m j q, j + m = 4 → m < q → fX6_isOut_6 q 66 (nI t) a w 0 (nI j) μ = some (0, μ) := by
    intro m
    induction m with
    | zero =>
      intro j q hj hq
      obtain ⟨q, rfl⟩ : ∃ z, q = z + 1 := ⟨q - 1, by omega⟩
      rw [fX6_isOut_6, show (4 : Int32) = nI 4 from rfl, zle_t (by omega) (by omega), zgd_t (Or.inl rfl)]
    | succ m ih =>
      intro j q hj hq
      obtain ⟨q, rfl⟩ : ∃ z, q = z + 1 := ⟨q - 1, by omega⟩
      rw [fX6_isOut_6, show (4 : Int32) = nI 4 from rfl, zle_f (by omega) (by omega), nI_add, c6_its (by omega), zbd_s, if_pos rfl, n1]
      exact ih (j + 1) q (by omega) (by omega)
  have key : ∀ m j q, j + m = 4 → m < q → fX6_isOut_6 q 66 (nI t) a w 1 (nI j) μ = some (zb (zou (fun j => μ 67 (29 + 8 * t + 4 + j)) a w m j = true), μ) := by
    intro m
    induction m with
    | zero =>
      intro j q hj hq
      obtain ⟨q, rfl⟩ : ∃ z, q = z + 1 := ⟨q - 1, by omega⟩
      rw [fX6_isOut_6, show (4 : Int32) = nI 4 from rfl, zle_t (by omega) (by omega), zgd_t (Or.inr rfl)]; rfl
    | succ m ih =>
      intro j q hj hq
      obtain ⟨q, rfl⟩ : ∃ z, q = z + 1 := ⟨q - 1, by omega⟩
      rw [fX6_isOut_6, show (4 : Int32) = nI 4 from rfl, zle_f (by omega) (by omega), nI_add, c6_its (by omega), zbd_s, if_neg (by decide), n1, zou, show 29 + 8 * t + (4 + j) = 29 + 8 * t + 4 + j by omega]
      rcases (v6 t ht).2.2.2 j (by omega) with k | ⟨f, hf, k⟩
      · rw [if_pos (by rw [k]; decide), k0 m (j + 1) q (by omega) (by omega), decide_eq_true k]; rfl
      · have w1 : ¬ μ 67 (29 + 8 * t + 4 + j) = -1 := by rw [k]; exact zne1 (by omega)
        rw [if_neg (by rw [k]; exact nI_pos (by omega)), decide_eq_false w1]
        by_cases w2 : w < (if 0 ≤ μ 67 (29 + 8 * t + 4 + j) - a then μ 67 (29 + 8 * t + 4 + j) - a else 0 - (μ 67 (29 + 8 * t + 4 + j) - a))
        · rw [if_pos w2, k0 m (j + 1) q (by omega) (by omega), decide_eq_true w2]; rfl
        · rw [if_neg w2, decide_eq_false w2, ih (j + 1) q (by omega) (by omega)]
          simp only [Bool.not_false, Bool.true_and]
  exact key 4 0 200 (by omega) (by omega)
theorem e23 : zE23 zInv := by
  intro a1 a2 a3 a4 μ hI
  obtain ⟨⟨n, hc⟩, -⟩ := id hI
  have hn := hc.1.1
  have s1 : μ 1 3 = nI n := hc.size.2.2
  refine ztry hI (fun μ2 h2 => ?_)
  have e67 : μ2 67 = μ 67 := h2 67 (by unfold zscr; omega) (by omega) (by omega)
  have s6 : μ2 67 2 = nI n := by rw [e67]; exact hc.1.2.1
  have bad : fX5_out 0 a1 a2 a3 a4 μ = fX5_finding 0 (nI 0) μ → fX6_out 66 a1 a2 a3 a4 μ2 = fX6_finds 66 (nI 0) μ2 → ∃ μ1' μ2', (∀ j, ¬ zscr j → j < 78 → μ1' j = μ j) ∧ (∀ j, ¬ zscr j → j < 78 → μ2' j = μ2 j) ∧ ((∃ r, fX5_out 0 a1 a2 a3 a4 μ = some (r, μ1') ∧ fX6_out 66 a1 a2 a3 a4 μ2 = some (r, μ2')) ∨ ∃ k, k < 7 ∧ fX5_out 0 a1 a2 a3 a4 μ = fX5_finding 0 (nI k) μ1' ∧ fX6_out 66 a1 a2 a3 a4 μ2 = fX6_finds 66 (nI k) μ2') :=
    fun q1 q2 => ⟨μ, μ2, fun _ _ _ => rfl, fun _ _ _ => rfl, Or.inr ⟨0, by omega, q1, q2⟩⟩
  by_cases h1 : 0 ≤ a1 ∧ a1 ≤ nI n - 1
  · by_cases h3 : 0 ≤ a2 ∧ a2 ≤ 15
    · by_cases h4 : 0 ≤ a3 ∧ a3 ≤ 99
      · by_cases h5 : 0 ≤ a4 ∧ a4 ≤ 99
        · obtain ⟨t, ht, rfl⟩ := (ztent hn).1 h1
          obtain ⟨p, hp, rfl⟩ := zrng (n := 15) rfl h3
          obtain ⟨α1, α2, b1, b2, b3, b4, b5, b6, b7, b8⟩ := zlend3 (μ1 := μ) (μ2 := μ2) (by rw [e67]; exact hc.1) (by rw [e67]; exact hc.2.1)
          obtain ⟨β1, c1, c2, c3⟩ := c0_alone (p := p) hn ht b4 b3.out.2.1
          have key : ∀ m i q, i + m = 61 → m < q → ∀ ν1 ν2 : zMem, zVl n (ν2 67) → zSim n 33 ν1 (zpa t p n 0 (ν2 67)) → (∃ w1, ztu n α1 α2 w1 ν2) → (∀ k, ¬ (33 ≤ k ∧ k ≤ 48) → k ≠ 57 → ν1 k = α1 k) → ∃ i' ν1' ν2', (∃ w1, ztu n α1 α2 w1 ν2') ∧ (∀ k, ¬ (33 ≤ k ∧ k ≤ 48) → k ≠ 57 → ν1' k = α1 k) ∧ fX6_out_43 q 66 (nI t) (nI p) a3 a4 (nI i) ν2 = fX6_out_73 66 (nI i') ν2' ∧ ((i' ≤ 60 ∧ fX5_out_45 q 0 (nI t) a3 a4 (nI i) ν1 = some (nI i', ν1')) ∨ (i' = 61 ∧ fX5_out_45 q 0 (nI t) a3 a4 (nI i) ν1 = fX5_finding 0 (nI 3) ν1')) := by
            intro m
            induction m with
            | zero =>
              intro i q hi hq ν1 ν2 hv hs hw hf
              obtain ⟨q, rfl⟩ : ∃ z, q = z + 1 := ⟨q - 1, by omega⟩
              refine ⟨i, ν1, ν2, hw, hf, ?_, Or.inr ⟨by omega, ?_⟩⟩
              · rw [fX6_out_43, show (60 : Int32) = nI 60 from rfl, zlt_t (by omega) (by omega)]
              · rw [fX5_out_45, show (60 : Int32) = nI 60 from rfl, zlt_t (by omega) (by omega), zbd_eta]; rfl
            | succ m ih =>
              intro i q hi hq ν1 ν2 hv hs hw hf
              obtain ⟨q, rfl⟩ : ∃ z, q = z + 1 := ⟨q - 1, by omega⟩
              have eqv : zou (ν1 (38 + 2 * t)) a3 a4 4 0 = zou (fun j => ν2 67 (29 + 8 * t + 4 + j)) a3 a4 4 0 := by
                refine zou_congr 4 0 (fun j _ hj => ?_)
                rw [show 38 + 2 * t = 33 + 5 + 2 * t by omega, (hs.2.2.2 t ht).2 j (by omega), zpa_at, if_neg (by omega)]
              have g5 : fX5_out_45 (q + 1) 0 (nI t) a3 a4 (nI i) ν1 = if zb (zou (ν1 (38 + 2 * t)) a3 a4 4 0 = true) = 0 then (zbd (fX0_passDay 33 ν1) fun _ m27 => fX5_out_45 q 0 (nI t) a3 a4 (nI (i + 1)) m27) else some (nI i, ν1) := by
                rw [fX5_out_45, show (60 : Int32) = nI 60 from rfl, zlt_f (by omega) (by omega), zgd_ib (by omega) (by decide), zcl (by omega), show 0 + 33 + 3 + 1 + 2 * t = 37 + 2 * t by omega, c4_near, zbd_s, show 37 + 2 * t + 1 = 38 + 2 * t by omega, n1]
              have g6 : fX6_out_43 (q + 1) 66 (nI t) (nI p) a3 a4 (nI i) ν2 = if zb (zou (ν1 (38 + 2 * t)) a3 a4 4 0 = true) = 0 then (zbd (fX6_alone 66 (nI t) (nI p) ν2) fun _ m24 => fX6_out_43 q 66 (nI t) (nI p) a3 a4 (nI (i + 1)) m24) else fX6_out_73 66 (nI i) ν2 := by
                rw [fX6_out_43, show (60 : Int32) = nI 60 from rfl, zlt_f (by omega) (by omega), c6_isOut hv ht, zbd_s, n1, eqv]
              by_cases w : zou (ν1 (38 + 2 * t)) a3 a4 4 0 = true
              · exact ⟨i, ν1, ν2, hw, hf, g6.trans (zif_t w), Or.inl ⟨by omega, g5.trans (zif_t w)⟩⟩
              · obtain ⟨x1, x2, d1, d2, d3, d4⟩ := zalday ht (show p < 16 by omega) hv hs
                have hw2 : ∃ w1, ztu n α1 α2 w1 x2 := by
                  obtain ⟨w1, hw⟩ := hw
                  exact ⟨x1, fun k q1 q2 => by rw [d3.1 k q1 q2, hf k q1 q2], fun k q1 q2 => by rw [d3.2.1 k q1 q2, hw.2.1 k q1 q2], d3.2.2.1, d3.2.2.2.1, fun j hj => by rw [d3.2.2.2.2 j hj, hw.2.2.2.2 j hj]⟩
                obtain ⟨i', y1, y2, f1, f2, f3, f4⟩ := ih (i + 1) q (by omega) (by omega) x1 x2 d3.2.2.1 (by rw [d4]; exact d3.2.2.2.1) hw2 (fun k q1 q2 => by rw [d3.1 k q1 q2, hf k q1 q2])
                refine ⟨i', y1, y2, f1, f2, ?_, ?_⟩
                · rw [g6, zif_f w, d2, zbd_s]; exact f3
                · rw [g5, zif_f w, d1, zbd_s]; exact f4
          obtain ⟨i', y1, y2, ⟨w1, f1⟩, f2, f3, f4⟩ := key 61 0 200 (by omega) (by omega) β1 α2 b3 c3 ⟨α1, ztu.rfl b3 b4⟩ (fun k q1 _ => c2 k (by omega))
          obtain ⟨γ, g1, -, g3⟩ := b8 w1 y2 f1
          have r5 : fX5_out 0 (nI t) (nI p) a3 a4 μ = fX5_out_45 200 0 (nI t) a3 a4 (nI 0) β1 := by
            unfold fX5_out fX5_supposeAlone
            rw [c5_isT s1, zbd_s, zif_t h1, c5_isPitch, zbd_s, zif_t h3, c5_isMeasure, zbd_s, zif_t h4, c5_isMeasure, zbd_s, zif_t h5]
            show zbd (zbd (fX0_becomeLike 33 1 μ) _) _ = _
            rw [b1, zbd_s]
            show zbd (zbd (fX0_pitchAlone 33 (nI t) (nI p) α1) _) _ = _
            rw [c1, zbd_s, zbd_s]; rfl
          have r6 : fX6_out 66 (nI t) (nI p) a3 a4 μ2 = fX6_orNone 66 (nI i') (nI 60) γ := by
            unfold fX6_out
            rw [c6_isT s6, zbd_s, zif_t h1, c6_isPitch, zbd_s, zif_t h3, c6_isHigh, zbd_s, zif_t h4, c6_isHigh, zbd_s, zif_t h5, b2, zbd_s]
            refine f3.trans ?_
            unfold fX6_out_73
            rw [g1, zbd_s, zbd_eta]; rfl
          refine ⟨y1, γ, fun k q1 q2 => ?_, g3, ?_⟩
          · have := (zscr_or q1).1
            rw [f2 k this (by unfold zscr at q1; omega), b6 k this]
          · rcases f4 with ⟨w, d3⟩ | ⟨w, d3⟩
            · refine Or.inl ⟨nI i', r5.trans d3, r6.trans ?_⟩
              unfold fX6_orNone
              rw [zlt_f (by omega) (by omega)]
            · refine Or.inr ⟨3, by omega, r5.trans d3, r6.trans ?_⟩
              unfold fX6_orNone
              rw [zlt_t (by omega) (by omega), zbd_eta]; rfl
        · refine bad ?_ ?_
          · unfold fX5_out; rw [c5_isT s1, zbd_s, zif_t h1, c5_isPitch, zbd_s, zif_t h3, c5_isMeasure, zbd_s, zif_t h4, c5_isMeasure, zbd_s, zif_f h5, zbd_eta]; rfl
          · unfold fX6_out; rw [c6_isT s6, zbd_s, zif_t h1, c6_isPitch, zbd_s, zif_t h3, c6_isHigh, zbd_s, zif_t h4, c6_isHigh, zbd_s, zif_f h5, zbd_eta]; rfl
      · refine bad ?_ ?_
        · unfold fX5_out; rw [c5_isT s1, zbd_s, zif_t h1, c5_isPitch, zbd_s, zif_t h3, c5_isMeasure, zbd_s, zif_f h4, zbd_eta]; rfl
        · unfold fX6_out; rw [c6_isT s6, zbd_s, zif_t h1, c6_isPitch, zbd_s, zif_t h3, c6_isHigh, zbd_s, zif_f h4, zbd_eta]; rfl
    · refine bad ?_ ?_
      · unfold fX5_out; rw [c5_isT s1, zbd_s, zif_t h1, c5_isPitch, zbd_s, zif_f h3, zbd_eta]; rfl
      · unfold fX6_out; rw [c6_isT s6, zbd_s, zif_t h1, c6_isPitch, zbd_s, zif_f h3, zbd_eta]; rfl
  · refine bad ?_ ?_
    · unfold fX5_out; rw [c5_isT s1, zbd_s, zif_f h1, zbd_eta]; rfl
    · unfold fX6_out; rw [c6_isT s6, zbd_s, zif_f h1, zbd_eta]; rfl
