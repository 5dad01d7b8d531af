/-! kindFor -/
theorem c6_spanL {μ : zMem} (hh : ∀ i, i < 25 → ∃ h, h ≤ 99 ∧ μ 67 (4 + i) = nI h) : fX6_span 66 μ = some (zrl (μ 67), μ) := by
  have key : ∀ m i q a b, i + m = 25 → m < q → fX6_span_7 q 66 a b (nI i) μ = some (zmm (μ 67) m i a b, μ) := by
    intro m
    induction m with
    | zero =>
      intro i q a b hi hq
      obtain ⟨q, rfl⟩ : ∃ z, q = z + 1 := ⟨q - 1, by omega⟩
      rw [fX6_span_7, show (25 : Int32) = nI 25 from rfl, zle_t (by omega) (by omega)]; rfl
    | succ m ih =>
      intro i q a b hi hq
      obtain ⟨q, rfl⟩ : ∃ z, q = z + 1 := ⟨q - 1, by omega⟩
      rw [fX6_span_7, show (25 : Int32) = nI 25 from rfl, zle_f (by omega) (by omega), n4, zgd_ib (by omega) (by decide), zgd_ib (by omega) (by decide), zcl (by omega), n1]
      exact ih (i + 1) q _ _ (by omega) (by omega)
  have h0 : fX6_span 66 μ = some (zmm (μ 67) 25 0 0 99, μ) := key 25 0 200 _ _ (by omega) (by omega)
  rw [h0, zmm]
  obtain ⟨v, hv1, hv2⟩ := hh 0 (by omega)
  have e4 : μ 67 (4 + 0) = μ 67 4 := rfl
  rw [hv2]
  have a1 : (if (0 : Int32) < nI v then nI v else 0) = nI v := by
    rcases Nat.eq_zero_or_pos v with q | q
    · subst q; rfl
    · exact if_pos (nI_lt (a := 0) q (by omega))
  have a2 : (if nI v < (99 : Int32) then nI v else 99) = nI v := by
    rcases Nat.lt_or_ge v 99 with q | q
    · exact if_pos (nI_lt (b := 99) q (by omega))
    · have : v = 99 := by omega
      subst this; rfl
  rw [a1, a2]
  unfold zrl
  rw [← e4, hv2]
theorem zmm_nat {x : Nat → Int32} (hh : ∀ i, i < 25 → ∃ h, h ≤ 99 ∧ x (4 + i) = nI h) : ∀ m i A B, i + m = 25 → B ≤ A → A ≤ 99 → ∃ v, v ≤ 99 ∧ zmm x m i (nI A) (nI B) = nI v := by
  intro m
  induction m with
  | zero => intro i A B _ h1 h2; exact ⟨A - B, by omega, pk_sub h1⟩
  | succ m ih =>
    intro i A B hi h1 h2
    obtain ⟨h, hh1, hh2⟩ := hh i (by omega)
    rw [zmm, hh2, zmx (by omega) (by omega)]
    have e : (if nI h < nI B then nI h else nI B) = nI (if h < B then h else B) := by
      by_cases w : h < B
      · rw [zlt_t w (by omega), if_pos w]
      · rw [zlt_f (by omega) (by omega), if_neg w]
    rw [e]
    refine ih (i + 1) _ _ (by omega) ?_ ?_
    · split <;> split <;> omega
    · split <;> omega
theorem zrl_nat {x : Nat → Int32} (hh : ∀ i, i < 25 → ∃ h, h ≤ 99 ∧ x (4 + i) = nI h) : ∃ v, v ≤ 99 ∧ zrl x = nI v := by
  obtain ⟨h, h1, h2⟩ := hh 0 (by omega)
  unfold zrl
  rw [show x 4 = nI h from h2]
  exact zmm_nat hh 24 1 h h (by omega) (by omega) h1
theorem zrel1 {n t p D : Nat} (hD : D ≤ 100) (ht : t < n) (hp : p < 7) {μ1 μ2 : zMem} (hv : zVal n (μ2 67)) (hs : zSim n 1 μ1 (μ2 67)) : ∃ v α1 x1 α2 x2 γ, v ≤ 99 ∧ fX0_becomeLike 33 1 μ1 = some ((), α1) ∧ fX0_passDays 33 (nI D) (zst α1 (37 + 2 * t) 0 (nI p)) = some ((), x1) ∧ fX0_relief 33 x1 = some (nI v, x1) ∧ fX6_lends 66 μ2 = some ((), α2) ∧ fX6_days 66 (nI D) (zst α2 67 (29 + 8 * t) (nI p)) = some ((), x2) ∧ fX6_span 66 x2 = some (nI v, x2) ∧ fX6_laysBack 66 x2 = some ((), γ) ∧ (∀ k, ¬ zscr k → k < 78 → x1 k = μ1 k) ∧ (∀ k, ¬ zscr k → k < 78 → γ k = μ2 k) := by
  have hn := hv.1
  obtain ⟨α1, α2, b1, b2, b3, b4, b5, b6, b7, b8⟩ := zlend3 hv hs
  have v1 : zVl n (zst α2 67 (29 + 8 * t) (nI p) 67) := by
    rw [zst_r]; exact zVl_put b3 (Or.inr (Or.inr (Or.inr ⟨t, ht, Or.inl ⟨rfl, p, hp, rfl⟩⟩)))
  have s1 : zSim n 33 (zst α1 (37 + 2 * t) 0 (nI p)) (zst α2 67 (29 + 8 * t) (nI p) 67) := by
    rw [zst_r]
    have e : zloc 33 (29 + 8 * t) = (37 + 2 * t, 0) := by
      have := zloc_t (c := 33) (t := t) (w := 0) (by omega) (by omega)
      exact this
    exact zSim_put hn b4 (by omega) (by omega) _ _ e
  obtain ⟨x1, x2, d1, d2, d3, -, -⟩ := zdays hD v1 s1
  have m1 : ztu n α1 α2 x1 x2 := ⟨fun k q1 q2 => by rw [d3.1 k (by omega), zst_row_ne (by omega)], fun k q1 q2 => by rw [d3.2.1 k q1, zst_row_ne q1], d3.2.2.1, d3.2.2.2.1, fun j hj => by rw [d3.2.2.2.2 j (by omega), zst_ne (by omega)]⟩
  obtain ⟨γ, g1, g2, g3⟩ := b8 x1 x2 m1
  obtain ⟨v, hv1, hv2⟩ := zrl_nat d3.2.2.1.out.2.2.2.1
  refine ⟨v, α1, x1, α2, x2, γ, hv1, b1, d1, ?_, b2, d2, ?_, g1, g2, g3⟩
  · rw [c0_relief d3.2.2.2.1, hv2]
  · rw [c6_spanL d3.2.2.1.out.2.2.2.1, hv2]
theorem e21 : zE21 zInv := by
  intro a1 a2 μ hI
  obtain ⟨⟨n, hc⟩, -⟩ := id hI
  have hn := hc.1.1
  have s1 : μ 1 3 = nI n := hc.size.2.2
  have i6 : ∀ μ' : zMem, fX6_in a2.toInt64 0 60 μ' = some (zb (0 ≤ a2 ∧ a2 ≤ 60), μ') := fun μ' => by
    rw [show (0 : Int64) = (0 : Int32).toInt64 from rfl, show (60 : Int64) = (60 : Int32).toInt64 from rfl, w6]
  refine ztry hI (fun μ2 h2 => ?_)
  have e67 : μ2 67 = μ 67 := h2 67 (by unfold zscr; omega) (by omega) (by omega)
  have s6 : μ2 67 2 = nI n := by rw [e67]; exact hc.1.2.1
  by_cases h1 : 0 ≤ a1 ∧ a1 ≤ nI n - 1
  · by_cases h3 : 0 ≤ a2 ∧ a2 ≤ 60
    · obtain ⟨t, ht, rfl⟩ := (ztent hn).1 h1
      obtain ⟨D, hD, rfl⟩ := zrng (n := 60) rfl h3
      have key : ∀ m i q b5 b6 a, i + m = 7 → m < q → a ≤ 100 → (b5 = b6 ∨ (i = 0 ∧ a = 100)) → ∀ ν1 ν2 : zMem, (∀ k, ¬ zscr k → k < 78 → ν1 k = μ k) → (∀ k, ¬ zscr k → k < 78 → ν2 k = μ2 k) → ∃ r ν1' ν2', fX5_kindFor_33 q 0 (nI t) (nI D) b5 (nI a) (nI i) ν1 = some (r, ν1') ∧ fX6_kindFor_35 q 66 (nI t) (nI D) b6 (nI a) (nI i) ν2 = some (r, ν2') ∧ (∀ k, ¬ zscr k → k < 78 → ν1' k = μ k) ∧ (∀ k, ¬ zscr k → k < 78 → ν2' k = μ2 k) := by
        intro m
        induction m with
        | zero =>
          intro i q b5 b6 a hi hq ha hb ν1 ν2 f1 f2
          obtain ⟨q, rfl⟩ : ∃ z, q = z + 1 := ⟨q - 1, by omega⟩
          obtain rfl : b5 = b6 := hb.resolve_right (by omega)
          refine ⟨b5, ν1, ν2, ?_, ?_, f1, f2⟩
          · rw [fX5_kindFor_33, show (7 : Int32) = nI 7 from rfl, zle_t (by omega) (by omega)]
          · rw [fX6_kindFor_35, show (6 : Int32) = nI 6 from rfl, zlt_t (by omega) (by omega)]
        | succ m ih =>
          intro i q b5 b6 a hi hq ha hb ν1 ν2 f1 f2
          obtain ⟨q, rfl⟩ : ∃ z, q = z + 1 := ⟨q - 1, by omega⟩
          have g67 : ν2 67 = μ 67 := by rw [f2 67 (by unfold zscr; omega) (by omega), e67]
          obtain ⟨v, α1, x1, α2, x2, γ, b0, b1, b2, b3, b4, b5', b6', b7, b8, b9⟩ := zrel1 (p := i) (D := D) (μ1 := ν1) (μ2 := ν2) (by omega) ht (by omega) (by rw [g67]; exact hc.1) (by rw [g67]; exact hc.2.1.congr hn (fun k q1 q2 => f1 k (by unfold zscr; omega) (by omega)))
          have st : fX6_sets 66 (nI t) (0 : Int32) (nI i) α2 = some ((), zst α2 67 (29 + 8 * t) (nI i)) := c6_sets (w := 0) (by omega) (nI i) α2
          have nf1 : ∀ k, ¬ zscr k → k < 78 → x1 k = μ k := fun k q1 q2 => by rw [b8 k q1 q2, f1 k q1 q2]
          have nf2 : ∀ k, ¬ zscr k → k < 78 → γ k = μ2 k := fun k q1 q2 => by rw [b9 k q1 q2, f2 k q1 q2]
          have g5 : fX5_kindFor_33 (q + 1) 0 (nI t) (nI D) b5 (nI a) (nI i) ν1 = if nI a ≤ nI v then fX5_kindFor_33 q 0 (nI t) (nI D) b5 (nI a) (nI (i + 1)) x1 else fX5_kindFor_33 q 0 (nI t) (nI D) (nI i) (nI v) (nI (i + 1)) x1 := by
            rw [fX5_kindFor_33, show (7 : Int32) = nI 7 from rfl, zle_f (by omega) (by omega)]
            simp only [zgd_ib (show t < 6 by omega) (show 6 < 2 ^ 31 by decide), zcl (show t < 2 ^ 31 by omega), n1]
            show zbd (fX0_becomeLike 33 1 ν1) _ = _
            rw [b1, zbd_s, show 0 + 33 + 3 + 1 + 2 * t = 37 + 2 * t by omega]
            show zbd (fX0_passDays 33 (nI D) (zst α1 (37 + 2 * t) 0 (nI i))) _ = _
            rw [b2, zbd_s]
            show zbd (fX0_relief 33 x1) _ = _
            rw [b3, zbd_s]
          have g6 : fX6_kindFor_35 (q + 1) 66 (nI t) (nI D) b6 (nI a) (nI i) ν2 = if nI a ≤ nI v then fX6_kindFor_35 q 66 (nI t) (nI D) b6 (if nI v < nI a then nI v else nI a) (nI (i + 1)) γ else fX6_kindFor_35 q 66 (nI t) (nI D) (nI i) (if nI v < nI a then nI v else nI a) (nI (i + 1)) γ := by
            rw [fX6_kindFor_35, show (6 : Int32) = nI 6 from rfl, zlt_f (by omega) (by omega), b4, zbd_s, st, zbd_s, b5', zbd_s, b6', zbd_s, b7, zbd_s]
            unfold fX6_kindFor_82
            rw [n1]
          by_cases w : a ≤ v
          · rw [g5, g6, zle_t w (by omega), zle_t w (by omega), zlt_f (by omega) (by omega)]
            exact ih (i + 1) q b5 b6 a (by omega) (by omega) ha (Or.inl (hb.resolve_right (by omega))) x1 γ nf1 nf2
          · rw [g5, g6, zle_f (by omega) (by omega), zle_f (by omega) (by omega), zlt_t (by omega) (by omega)]
            exact ih (i + 1) q (nI i) (nI i) v (by omega) (by omega) (by omega) (Or.inl rfl) x1 γ nf1 nf2
      obtain ⟨r, ν1', ν2', d1, d2, d3, d4⟩ := key 7 0 200 0 (-1) 100 (by omega) (by omega) (by omega) (Or.inr ⟨rfl, rfl⟩) μ μ2 (fun _ _ _ => rfl) (fun _ _ _ => rfl)
      refine ⟨ν1', ν2', d3, d4, Or.inl ⟨r, ?_, ?_⟩⟩
      · unfold fX5_kindFor; rw [c5_isT s1, zbd_s, zif_t h1, w5, zbd_s, zif_t h3]; exact d1
      · unfold fX6_kindFor; rw [c6_isT s6, zbd_s, zif_t h1, i6, zbd_s, zif_t h3]; exact d2
    · refine ⟨μ, μ2, fun _ _ _ => rfl, fun _ _ _ => rfl, Or.inr ⟨0, by omega, ?_, ?_⟩⟩
      · unfold fX5_kindFor; rw [c5_isT s1, zbd_s, zif_t h1, w5, zbd_s, zif_f h3, zbd_eta]; rfl
      · unfold fX6_kindFor; rw [c6_isT s6, zbd_s, zif_t h1, i6, zbd_s, zif_f h3, zbd_eta]; rfl
  · refine ⟨μ, μ2, fun _ _ _ => rfl, fun _ _ _ => rfl, Or.inr ⟨0, by omega, ?_, ?_⟩⟩
    · unfold fX5_kindFor; rw [c5_isT s1, zbd_s, zif_f h1, zbd_eta]; rfl
    · unfold fX6_kindFor; rw [c6_isT s6, zbd_s, zif_f h1, zbd_eta]; rfl
