/-! one tent pitched alone; first -/
def zpa (t p : Nat) : Nat → Nat → (Nat → Int32) → (Nat → Int32)
  | 0, _, x => x
  | m + 1, i, x => zpa t p m (i + 1) (upd x (29 + 8 * i + 1) (if i = t then nI p else -1))
theorem zpa_at {t p : Nat} : ∀ m i x k, zpa t p m i x k = if 29 + 8 * i + 1 ≤ k ∧ k < 29 + 8 * (i + m) ∧ (k - 29) % 8 = 1 then (if (k - 29) / 8 = t then nI p else -1) else x k := by
  intro m
  induction m with
  | zero => intro i x k; rw [zpa, if_neg (by omega)]
  | succ m ih =>
    intro i x k
    rw [zpa, ih]
    by_cases e : k = 29 + 8 * i + 1
    · subst e
      rw [if_neg (by omega), pk_us, if_pos (show 29 + 8 * i + 1 ≤ 29 + 8 * i + 1 ∧ 29 + 8 * i + 1 < 29 + 8 * (i + (m + 1)) ∧ (29 + 8 * i + 1 - 29) % 8 = 1 by omega), show (29 + 8 * i + 1 - 29) / 8 = i by omega]
    · rw [pk_un e]
      by_cases w : 29 + 8 * (i + 1) + 1 ≤ k ∧ k < 29 + 8 * (i + 1 + m) ∧ (k - 29) % 8 = 1
      · rw [if_pos w, if_pos (show 29 + 8 * i + 1 ≤ k ∧ k < 29 + 8 * (i + (m + 1)) ∧ (k - 29) % 8 = 1 by omega)]
      · rw [if_neg w, if_neg (by omega)]
theorem zpa_vl {n t p : Nat} (hp : p < 16) : ∀ m i x, i + m = n → zVl n x → zVl n (zpa t p m i x) := by
  intro m
  induction m with
  | zero => intro i x _ h; exact h
  | succ m ih =>
    intro i x hi h
    rw [zpa]
    refine ih (i + 1) _ (by omega) (zVl_put h (Or.inr (Or.inr (Or.inr ⟨i, by omega, Or.inr (Or.inl ⟨rfl, ?_⟩)⟩))))
    by_cases w : i = t
    · rw [if_pos w]; exact Or.inr ⟨p, hp, rfl⟩
    · rw [if_neg w]; exact Or.inl rfl
theorem zpa_id {n t p : Nat} (hn : n ≤ 6) {x y : Nat → Int32} (h : zkeep (zpa t p n 0 x) y) : zpa t p n 0 y = y := funext fun k => by
  rw [zpa_at]
  by_cases w : 29 + 8 * 0 + 1 ≤ k ∧ k < 29 + 8 * (0 + n) ∧ (k - 29) % 8 = 1
  · rw [if_pos w, h k (by omega), zpa_at, if_pos w]
  · rw [if_neg w]
theorem c0_alone {n c t p : Nat} (hn : n ≤ 6) (ht : t < n) {μ : zMem} {x : Nat → Int32} (hs : zSim n c μ x) (h2 : x 2 = nI n) : ∃ μ', fX0_pitchAlone c (nI t) (nI p) μ = some ((), μ') ∧ (∀ k, ¬ (c ≤ k ∧ k ≤ c + 15) → μ' k = μ k) ∧ zSim n c μ' (zpa t p n 0 x) := by
  have key : ∀ m i q, i + m = n → m < q → ∀ (μ : zMem) (x : Nat → Int32), zSim n c μ x → x 2 = nI n → ∃ μ', fX0_pitchAlone_2 q c (nI t) (nI p) (nI i) μ = some ((), μ') ∧ (∀ k, ¬ (c ≤ k ∧ k ≤ c + 15) → μ' k = μ k) ∧ zSim n c μ' (zpa t p m i x) := by
    intro m
    induction m with
    | zero =>
      intro i q hi hq μ x hs h2
      obtain ⟨q, rfl⟩ : ∃ z, q = z + 1 := ⟨q - 1, by omega⟩
      refine ⟨μ, ?_, fun _ _ => rfl, hs⟩
      rw [fX0_pitchAlone_2, hs.1.1, h2, zle_t (by omega) (by omega)]
    | succ m ih =>
      intro i q hi hq μ x hs h2
      obtain ⟨q, rfl⟩ : ∃ z, q = z + 1 := ⟨q - 1, by omega⟩
      obtain ⟨μ', g1, g2, g3⟩ := ih (i + 1) q (by omega) (by omega) (zst μ (c + 4 + 2 * i) 1 (if i = t then nI p else -1)) (upd x (29 + 8 * i + 1) (if i = t then nI p else -1)) (zSim_put hn hs (by omega) (by omega) _ _ (zloc_t (by omega) (by omega))) (by rw [pk_un (by omega)]; exact h2)
      refine ⟨μ', ?_, fun k hk => by rw [g2 k hk, zst_row_ne (by omega)], by rw [zpa]; exact g3⟩
      rw [fX0_pitchAlone_2, hs.1.1, h2, zle_f (by omega) (by omega), zgd_ib (by omega) (by decide), zcl (by omega), show c + 3 + 1 + 2 * i = c + 4 + 2 * i by omega, n1]
      by_cases w : i = t
      · rw [if_pos w] at g1; rw [zeq_t w]; exact g1
      · rw [if_neg w] at g1; rw [zeq_f w (by omega) (by omega)]; exact g1
  exact key n 0 200 (by omega) (by omega) μ x hs h2
theorem c6_alone {n t p : Nat} (hn : n ≤ 6) (ht : t < n) {μ : zMem} (h2 : μ 67 2 = nI n) : ∃ μ', fX6_alone 66 (nI t) (nI p) μ = (zbd (fX6_aDay 66 μ') fun _ m4 => some ((), m4)) ∧ (∀ k, k ≠ 67 → μ' k = μ k) ∧ μ' 67 = zpa t p n 0 (μ 67) := by
  have key : ∀ m i q, i + m = n → m < q → ∀ μ : zMem, μ 67 2 = nI n → ∃ μ', fX6_alone_2 q 66 (nI t) (nI p) (nI i) μ = (zbd (fX6_aDay 66 μ') fun _ m4 => some ((), m4)) ∧ (∀ k, k ≠ 67 → μ' k = μ k) ∧ μ' 67 = zpa t p m i (μ 67) := by
    intro m
    induction m with
    | zero =>
      intro i q hi hq μ h2
      obtain ⟨q, rfl⟩ : ∃ z, q = z + 1 := ⟨q - 1, by omega⟩
      refine ⟨μ, ?_, fun _ _ => rfl, rfl⟩
      rw [fX6_alone_2, zgd_t zi2, show μ (66 + 1) (2 : Int32).toNatClampNeg = nI n from h2, zle_t (by omega) (by omega)]
    | succ m ih =>
      intro i q hi hq μ h2
      obtain ⟨q, rfl⟩ : ∃ z, q = z + 1 := ⟨q - 1, by omega⟩
      obtain ⟨μ', g1, g2, g3⟩ := ih (i + 1) q (by omega) (by omega) (zst μ 67 (29 + 8 * i + 1) (if i = t then nI p else -1)) (by rw [zst_ne (by omega)]; exact h2)
      have st : ∀ v, fX6_sets 66 (nI i) (1 : Int32) v μ = some ((), zst μ 67 (29 + 8 * i + 1) v) := fun v => c6_sets (w := 1) (by omega) v μ
      refine ⟨μ', ?_, fun k hk => by rw [g2 k hk, zst_row_ne hk], by rw [g3, zst_r, zpa]⟩
      rw [fX6_alone_2, zgd_t zi2, show μ (66 + 1) (2 : Int32).toNatClampNeg = nI n from h2, zle_f (by omega) (by omega), st, zbd_s, st, zbd_s, n1]
      by_cases w : i = t
      · rw [if_pos w] at g1; rw [zeq_t w]; exact g1
      · rw [if_neg w] at g1; rw [zeq_f w (by omega) (by omega)]; exact g1
  exact key n 0 200 (by omega) (by omega) μ h2
/-- a day of one tent alone -/
theorem zalday {n t p : Nat} (ht : t < n) (hp : p < 16) {ν1 ν2 : zMem} (hv : zVl n (ν2 67)) (hs : zSim n 33 ν1 (zpa t p n 0 (ν2 67))) : ∃ x1 x2, fX0_passDay 33 ν1 = some ((), x1) ∧ fX6_alone 66 (nI t) (nI p) ν2 = some ((), x2) ∧ ztu n ν1 ν2 x1 x2 ∧ zpa t p n 0 (x2 67) = x2 67 := by
  obtain ⟨hn, v2, -⟩ := hv.out
  obtain ⟨κ, a1, a2, a3⟩ := c6_alone (p := p) hn ht v2
  obtain ⟨x1, x2, c1, c2, c3, -, -⟩ := zday (c := 33) (μ1 := ν1) (μ2 := κ) (by rw [a3]; exact zpa_vl hp n 0 _ (by omega) hv) (by rw [a3]; exact hs)
  refine ⟨x1, x2, c1, by rw [a1, c2, zbd_s], ⟨fun k q1 _ => c3.1 k (by omega), fun k q1 _ => by rw [c3.2.1 k q1, a2 k q1], c3.2.2.1, c3.2.2.2.1, fun j hj => ?_⟩, ?_⟩
  · rw [c3.2.2.2.2 j (by omega), a3, zpa_at, if_neg (by omega)]
  · have := c3.2.2.2.2
    rw [a3] at this
    exact zpa_id hn this
theorem zsum {n t1 t2 p : Nat} (h1 : t1 < n) (h2 : t2 < n) (hp : p < 16) {μ1 μ2 : zMem} (hv : zVal n (μ2 67)) (hs : zSim n 1 μ1 (μ2 67)) : ∃ r β1 γ, fX5_sumAfterBoth 0 (nI t1) (nI t2) (nI p) μ1 = some (r, β1) ∧ fX6_heightsBy 66 (nI t1) (nI t2) (nI p) μ2 = some (r, γ) ∧ (∀ k, ¬ zscr k → k < 78 → β1 k = μ1 k) ∧ (∀ k, ¬ zscr k → k < 78 → γ k = μ2 k) := by
  have hn := hv.1
  obtain ⟨α1, α2, b1, b2, b3, b4, b5, b6, b7, b8⟩ := zlend3 hv hs
  obtain ⟨β1, c1, c2, c3⟩ := c0_alone (p := p) hn h1 b4 b3.out.2.1
  obtain ⟨x1, x2, d1, d2, d3, -⟩ := zalday h1 hp b3 c3
  obtain ⟨y1, e1, e2, e3⟩ := c0_alone (p := p) hn h2 d3.2.2.2.1 d3.2.2.1.out.2.1
  obtain ⟨z1, z2, f1, f2, f3, -⟩ := zalday h2 hp d3.2.2.1 e3
  obtain ⟨γ, g1, g2, g3⟩ := b8 z1 z2 ⟨fun k q1 q2 => by rw [f3.1 k q1 q2, e2 k (by omega), d3.1 k q1 q2, c2 k (by omega)], fun k q1 q2 => by rw [f3.2.1 k q1 q2, d3.2.1 k q1 q2], f3.2.2.1, f3.2.2.2.1, fun j hj => by rw [f3.2.2.2.2 j hj, d3.2.2.2.2 j hj]⟩
  refine ⟨zhs (z2 67), z1, γ, ?_, ?_, g2, g3⟩
  · unfold fX5_sumAfterBoth fX5_supposeAlone
    show zbd (zbd (fX0_becomeLike 33 1 μ1) _) _ = _
    rw [b1, zbd_s]
    show zbd (zbd (fX0_pitchAlone 33 (nI t1) (nI p) α1) _) _ = _
    rw [c1, zbd_s, zbd_s]
    show zbd (fX0_passDay 33 β1) _ = _
    rw [d1, zbd_s]
    show zbd (fX0_pitchAlone 33 (nI t2) (nI p) x1) _ = _
    rw [e1, zbd_s]
    show zbd (fX0_passDay 33 y1) _ = _
    rw [f1, zbd_s]
    show zbd (fX0_heightSum 33 z1) _ = _
    rw [c0_heightSum f3.2.2.2.1, zbd_s]
  · unfold fX6_heightsBy
    rw [b2, zbd_s, d2, zbd_s, f2, zbd_s, c6_heights, zbd_s, g1, zbd_s]
theorem e22 : zE22 zInv := by
  intro a1 a2 a3 μ hI
  obtain ⟨⟨n, hc⟩, -⟩ := id hI
  have hn := hc.1.1
  have s1 : μ 1 3 = nI n := hc.size.2.2
  refine ztry hI (fun μ2 h2 => ?_)
  have e67 : μ2 67 = μ 67 := h2 67 (by unfold zscr; omega) (by omega) (by omega)
  have s6 : μ2 67 2 = nI n := by rw [e67]; exact hc.1.2.1
  have bad : fX5_first 0 a1 a2 a3 μ = fX5_finding 0 (nI 0) μ → fX6_first 66 a1 a2 a3 μ2 = fX6_finds 66 (nI 0) μ2 → ∃ μ1' μ2', (∀ j, ¬ zscr j → j < 78 → μ1' j = μ j) ∧ (∀ j, ¬ zscr j → j < 78 → μ2' j = μ2 j) ∧ ((∃ r, fX5_first 0 a1 a2 a3 μ = some (r, μ1') ∧ fX6_first 66 a1 a2 a3 μ2 = some (r, μ2')) ∨ ∃ k, k < 7 ∧ fX5_first 0 a1 a2 a3 μ = fX5_finding 0 (nI k) μ1' ∧ fX6_first 66 a1 a2 a3 μ2 = fX6_finds 66 (nI k) μ2') :=
    fun q1 q2 => ⟨μ, μ2, fun _ _ _ => rfl, fun _ _ _ => rfl, Or.inr ⟨0, by omega, q1, q2⟩⟩
  by_cases h1 : 0 ≤ a1 ∧ a1 ≤ nI n - 1
  · by_cases h3 : 0 ≤ a2 ∧ a2 ≤ nI n - 1
    · by_cases h4 : 0 ≤ a3 ∧ a3 ≤ 15
      · by_cases h5 : a1 = a2
        · refine bad ?_ ?_
          · unfold fX5_first; rw [c5_isT s1, zbd_s, zif_t h1, c5_isT s1, zbd_s, zif_t h3, if_pos h5, zbd_eta]; rfl
          · unfold fX6_first; rw [c6_isT s6, zbd_s, zif_t h1, c6_isT s6, zbd_s, zif_t h3, c6_isPitch, zbd_s, zif_t h4, if_pos h5, zbd_eta]; rfl
        · obtain ⟨t1, ht1, rfl⟩ := (ztent hn).1 h1
          obtain ⟨t2, ht2, rfl⟩ := (ztent hn).1 h3
          obtain ⟨p, hp, rfl⟩ := zrng (n := 15) rfl h4
          obtain ⟨r, β1, γ, b1, b2, b3, b4⟩ := zsum ht1 ht2 (show p < 16 by omega) (μ1 := μ) (μ2 := μ2) (by rw [e67]; exact hc.1) (by rw [e67]; exact hc.2.1)
          have g67 : γ 67 = μ 67 := by rw [b4 67 (by unfold zscr; omega) (by omega), e67]
          obtain ⟨r', β1', γ', d1, d2, d3, d4⟩ := zsum ht2 ht1 (show p < 16 by omega) (μ1 := β1) (μ2 := γ) (by rw [g67]; exact hc.1) (by rw [g67]; exact hc.2.1.congr hn (fun k q1 q2 => b3 k (by unfold zscr; omega) (by omega)))
          refine ⟨β1', γ', fun k q1 q2 => by rw [d3 k q1 q2, b3 k q1 q2], fun k q1 q2 => by rw [d4 k q1 q2, b4 k q1 q2], Or.inl ⟨r - r', ?_, ?_⟩⟩
          · unfold fX5_first; rw [c5_isT s1, zbd_s, zif_t h1, c5_isT s1, zbd_s, zif_t h3, if_neg h5, c5_isPitch, zbd_s, zif_t h4, b1, zbd_s, d1, zbd_s]
          · unfold fX6_first; rw [c6_isT s6, zbd_s, zif_t h1, c6_isT s6, zbd_s, zif_t h3, c6_isPitch, zbd_s, zif_t h4, if_neg h5, b2, zbd_s, d2, zbd_s]
      · refine bad ?_ ?_
        · unfold fX5_first; rw [c5_isT s1, zbd_s, zif_t h1, c5_isT s1, zbd_s, zif_t h3]
          by_cases h5 : a1 = a2
          · rw [if_pos h5, zbd_eta]; rfl
          · rw [if_neg h5, c5_isPitch, zbd_s, zif_f h4, zbd_eta]; rfl
        · unfold fX6_first; rw [c6_isT s6, zbd_s, zif_t h1, c6_isT s6, zbd_s, zif_t h3, c6_isPitch, zbd_s, zif_f h4, zbd_eta]; rfl
    · refine bad ?_ ?_
      · unfold fX5_first; rw [c5_isT s1, zbd_s, zif_t h1, c5_isT s1, zbd_s, zif_f h3, zbd_eta]; rfl
      · unfold fX6_first; rw [c6_isT s6, zbd_s, zif_t h1, c6_isT s6, zbd_s, zif_f h3, zbd_eta]; rfl
  · refine bad ?_ ?_
    · unfold fX5_first; rw [c5_isT s1, zbd_s, zif_f h1, zbd_eta]; rfl
    · unfold fX6_first; rw [c6_isT s6, zbd_s, zif_f h1, zbd_eta]; rfl
