/-! a camp becomes like another -/
theorem zcpy0 {f g : Nat → Int32} {n j : Nat} (h : j < n) : va_cpy f g 0 0 n j = f j := by
  rw [pk_cpy_in (Nat.zero_le _) (by omega)]; congr 1; omega
theorem c4_become {a b : Nat} (h1 : a ≠ b) (h2 : a ≠ b + 1) (h3 : a + 1 ≠ b) (μ : zMem) : ∃ μ', fX4_becomeLike a b μ = some ((), μ') ∧ (∀ j, j ≠ a → j ≠ a + 1 → μ' j = μ j) ∧ (μ' a 0 = μ b 0 ∧ μ' a 1 = μ b 1 ∧ μ' a 2 = μ b 2) ∧ ∀ j, j < 4 → μ' (a + 1) j = μ (b + 1) j := by
  refine ⟨_, by unfold fX4_becomeLike; rw [zgd_t (by decide)], ?_, ⟨?_, ?_, ?_⟩, ?_⟩
  · intro j q1 q2
    rw [zrow_ne q2, zst_row_ne q1, zst_row_ne q1, zst_row_ne q1]
  · rw [zrow_ne (by omega), zst_ne (by decide), zst_ne (by decide), zst_eq]
  · rw [zrow_ne (by omega), zst_ne (by decide), zst_eq, zst_row_ne (Ne.symm h1)]
  · rw [zrow_ne (by omega), zst_eq, zst_row_ne (Ne.symm h1), zst_row_ne (Ne.symm h1)]
  · intro j hj
    rw [zrow_at, if_pos rfl]
    refine (zcpy0 (n := 4) hj).trans ?_
    rw [zst_row_ne (Ne.symm h2), zst_row_ne (Ne.symm h2), zst_row_ne (Ne.symm h2)]
theorem c0_become {c d n : Nat} {μ : zMem} {x : Nat → Int32} (hn : n ≤ 6) (hcd : c + 16 ≤ d ∨ d + 16 ≤ c) (hs : zSim n d μ x) (h2 : x 2 = nI n) : ∃ μ', fX0_becomeLike c d μ = some ((), μ') ∧ (∀ j, ¬ (c ≤ j ∧ j ≤ c + 15) → μ' j = μ j) ∧ zSim n c μ' x ∧ μ' c 5 = μ d 5 := by
  have key : ∀ m i q, i + m = n → m < q → ∀ μ0 : zMem, μ0 c 3 = nI n → zSim n d μ0 x → ((∀ j, j < 25 → μ0 (c + 1) j = x (4 + j)) ∧ (∀ j, j < 10 → μ0 (c + 2) j = x (77 + j)) ∧ ∀ t, t < i → (μ0 (c + 4 + 2 * t) 0 = x (29 + 8 * t) ∧ μ0 (c + 4 + 2 * t) 1 = x (29 + 8 * t + 1) ∧ μ0 (c + 4 + 2 * t) 2 = x (29 + 8 * t + 2)) ∧ ∀ j, j < 4 → μ0 (c + 5 + 2 * t) j = x (29 + 8 * t + 4 + j)) →
      ∃ μ', fX0_becomeLike_40 q c d (nI i) μ0 = some ((), μ') ∧ (∀ j, ¬ (c ≤ j ∧ j ≤ c + 15) → μ' j = μ0 j) ∧ zSim n c μ' x ∧ μ' c 5 = μ0 d 5 := by
    intro m
    induction m with
    | zero =>
      intro i q hi hq μ0 m3 hs0 hsi
      obtain ⟨q, rfl⟩ : ∃ z, q = z + 1 := ⟨q - 1, by omega⟩
      refine ⟨_, by rw [fX0_becomeLike_40, m3, zle_t (by omega) (by omega)], ?_, ⟨⟨?_, ?_, ?_⟩, ?_, ?_, ?_⟩, ?_⟩
      · intro j hj
        rw [zst_row_ne (by omega), zst_row_ne (by omega), zst_row_ne (by omega)]
      · rw [zst_ne (by decide), zst_ne (by decide), zst_ne (by decide), m3, h2]
      · rw [zst_ne (by decide), zst_ne (by decide), zst_eq]; exact hs0.1.2.1
      · rw [zst_eq, zst_row_ne (by omega), zst_row_ne (by omega)]; exact hs0.1.2.2
      · intro j hj
        rw [zst_row_ne (by omega), zst_row_ne (by omega), zst_row_ne (by omega)]; exact hsi.1 j hj
      · intro j hj
        rw [zst_row_ne (by omega), zst_row_ne (by omega), zst_row_ne (by omega)]; exact hsi.2.1 j hj
      · intro t ht
        rw [zst_row_ne (by omega), zst_row_ne (by omega), zst_row_ne (by omega), zst_row_ne (by omega), zst_row_ne (by omega), zst_row_ne (by omega)]
        exact hsi.2.2 t (by omega)
      · rw [zst_ne (by decide), zst_eq, zst_row_ne (by omega)]
    | succ m ih =>
      intro i q hi hq μ0 m3 hs0 hsi
      obtain ⟨q, rfl⟩ : ∃ z, q = z + 1 := ⟨q - 1, by omega⟩
      obtain ⟨μ1, f1, f2, f3, f4⟩ := c4_become (a := c + 4 + 2 * i) (b := d + 4 + 2 * i) (by omega) (by omega) (by omega) μ0
      have hh : (∀ j, j < 25 → μ1 (c + 1) j = x (4 + j)) ∧ (∀ j, j < 10 → μ1 (c + 2) j = x (77 + j)) ∧ ∀ t, t < i + 1 → (μ1 (c + 4 + 2 * t) 0 = x (29 + 8 * t) ∧ μ1 (c + 4 + 2 * t) 1 = x (29 + 8 * t + 1) ∧ μ1 (c + 4 + 2 * t) 2 = x (29 + 8 * t + 2)) ∧ ∀ j, j < 4 → μ1 (c + 5 + 2 * t) j = x (29 + 8 * t + 4 + j) := by
        refine ⟨?_, ?_, ?_⟩
        · intro j hj
          rw [f2 _ (by omega) (by omega)]; exact hsi.1 j hj
        · intro j hj
          rw [f2 _ (by omega) (by omega)]; exact hsi.2.1 j hj
        · intro t ht
          by_cases e : t = i
          · subst e
            obtain ⟨r1, r2⟩ := hs0.2.2.2 t (by omega)
            refine ⟨by rw [f3.1, f3.2.1, f3.2.2]; exact r1, fun j hj => ?_⟩
            rw [show c + 5 + 2 * t = c + 4 + 2 * t + 1 by omega, f4 j hj, show d + 4 + 2 * t + 1 = d + 5 + 2 * t by omega]
            exact r2 j hj
          · rw [f2 (c + 4 + 2 * t) (by omega) (by omega), f2 (c + 5 + 2 * t) (by omega) (by omega)]
            exact hsi.2.2 t (by omega)
      obtain ⟨μ', g1, g2, g3, g4⟩ := ih (i + 1) q (by omega) (by omega) μ1 (by rw [f2 c (by omega) (by omega)]; exact m3) (hs0.congr hn (fun j q1 q2 => f2 j (by omega) (by omega))) hh
      refine ⟨μ', ?_, fun j hj => by rw [g2 j hj, f2 j (by omega) (by omega)], g3, by rw [g4, f2 d (by omega) (by omega)]⟩
      rw [fX0_becomeLike_40, m3, zle_f (by omega) (by omega)]
      simp only [zgd_ib (show i < 6 by omega) (show 6 < 2 ^ 31 by decide), zcl (show i < 2 ^ 31 by omega), n1]
      rw [show c + 3 + 1 + 2 * i = c + 4 + 2 * i by omega, show d + 3 + 1 + 2 * i = d + 4 + 2 * i by omega, f1, zbd_s]
      exact g1
  obtain ⟨μ0, hμ0⟩ : ∃ μ0 : zMem, μ0 = (zst (zrow (zrow μ (c + 1) (va_cpy (μ (d + 1)) (μ (c + 1)) 0 0 25)) (c + 2) (va_cpy ((zrow μ (c + 1) (va_cpy (μ (d + 1)) (μ (c + 1)) 0 0 25)) (d + 2)) ((zrow μ (c + 1) (va_cpy (μ (d + 1)) (μ (c + 1)) 0 0 25)) (c + 2)) 0 0 10)) c 3 ((zrow (zrow μ (c + 1) (va_cpy (μ (d + 1)) (μ (c + 1)) 0 0 25)) (c + 2) (va_cpy ((zrow μ (c + 1) (va_cpy (μ (d + 1)) (μ (c + 1)) 0 0 25)) (d + 2)) ((zrow μ (c + 1) (va_cpy (μ (d + 1)) (μ (c + 1)) 0 0 25)) (c + 2)) 0 0 10)) d 3)) := ⟨_, rfl⟩
  have ho : ∀ j, j ≠ c → j ≠ c + 1 → j ≠ c + 2 → μ0 j = μ j := by
    intro j q1 q2 q3
    rw [hμ0, zst_row_ne q1, zrow_ne q3, zrow_ne q2]
  have hc3 : μ0 c 3 = nI n := by
    rw [hμ0, zst_eq, zrow_ne (by omega), zrow_ne (by omega), hs.1.1, h2]
  have k1 : ∀ j, j < 25 → μ0 (c + 1) j = x (4 + j) := by
    intro j hj
    rw [hμ0, zst_row_ne (by omega), zrow_ne (by omega), zrow_at, if_pos rfl, zcpy0 hj]
    exact hs.2.1 j hj
  have k2 : ∀ j, j < 10 → μ0 (c + 2) j = x (77 + j) := by
    intro j hj
    rw [hμ0, zst_row_ne (by omega), zrow_at, if_pos rfl, zcpy0 hj, zrow_ne (by omega)]
    exact hs.2.2.1 j hj
  obtain ⟨μ', g1, g2, g3, g4⟩ := key n 0 200 (by omega) (by omega) μ0 hc3 (hs.congr hn (fun j q1 q2 => ho j (by omega) (by omega) (by omega))) ⟨k1, k2, fun t ht => absurd ht (by omega)⟩
  refine ⟨μ', ?_, fun j hj => by rw [g2 j hj, ho j (by omega) (by omega) (by omega)], g3, by rw [g4, ho d (by omega) (by omega) (by omega)]⟩
  unfold fX0_becomeLike
  rw [zgd_t (by decide), zgd_t (by decide)]
  rw [hμ0] at g1
  exact g1
theorem c6_become {a b : Nat} (ha : zln a = 87) (hb : zln b = 87) (hab : a ≠ b) (μ : zMem) : ∃ μ', fX6_become a b μ = some ((), μ') ∧ (∀ j, j ≠ b → μ' j = μ j) ∧ ∀ j, j < 87 → μ' b j = μ a j := by
  have key : ∀ m i q, i + m = 87 → m < q → ∀ μ : zMem, ∃ μ', fX6_become_2 q a b (nI i) μ = some ((), μ') ∧ (∀ j, j ≠ b → μ' j = μ j) ∧ ∀ j, j < 87 → μ' b j = if i ≤ j then μ a j else μ b j := by
    intro m
    induction m with
    | zero =>
      intro i q hi hq μ
      obtain ⟨q, rfl⟩ : ∃ z, q = z + 1 := ⟨q - 1, by omega⟩
      refine ⟨μ, ?_, fun _ _ => rfl, fun j hj => by rw [if_neg (by omega)]⟩
      rw [fX6_become_2, show (87 : Int32) = nI 87 from rfl, zle_t (by omega) (by omega)]
    | succ m ih =>
      intro i q hi hq μ
      obtain ⟨q, rfl⟩ : ∃ z, q = z + 1 := ⟨q - 1, by omega⟩
      obtain ⟨μ', h1, h2, h3⟩ := ih (i + 1) q (by omega) (by omega) (zst μ b i (μ a i))
      refine ⟨μ', ?_, fun j hj => by rw [h2 j hj, zst_row_ne hj], fun j hj => ?_⟩
      · rw [fX6_become_2, show (87 : Int32) = nI 87 from rfl, zle_f (by omega) (by omega), ha, hb]
        simp only [zgd_ib (show i < 87 by omega) (show 87 < 2 ^ 31 by decide), zcl (show i < 2 ^ 31 by omega), n1]
        exact h1
      · rw [h3 j hj, zst_row_ne hab, zst_at]
        by_cases e : j = i
        · subst e
          rw [if_neg (by omega), if_pos ⟨rfl, rfl⟩, if_pos (by omega)]
        · rw [if_neg (show ¬ (b = b ∧ j = i) from fun z => e z.2)]
          by_cases e2 : i ≤ j
          · rw [if_pos (by omega), if_pos e2]
          · rw [if_neg (by omega), if_neg e2]
  obtain ⟨μ', h1, h2, h3⟩ := key 87 0 200 (by omega) (by omega) μ
  exact ⟨μ', h1, h2, fun j hj => by rw [h3 j hj, if_pos (by omega)]⟩
theorem zVal_ext {n : Nat} {x y : Nat → Int32} (h : zVal n x) (e : ∀ j, j < 87 → y j = x j) : zVal n y := by
  obtain ⟨h1, h2, h3, h4, h5, h6, h7⟩ := h
  refine ⟨h1, by rw [e 2 (by omega)]; exact h2, by rw [e 0 (by omega)]; exact h3, by rw [e 3 (by omega)]; exact h4, fun i hi => by rw [e _ (by omega)]; exact h5 i hi, fun i hi => by rw [e _ (by omega)]; exact h6 i hi, fun t ht => ?_⟩
  rw [e (29 + 8 * t) (by omega), e (29 + 8 * t + 1) (by omega), e (29 + 8 * t + 2) (by omega)]
  exact ⟨(h7 t ht).1, (h7 t ht).2.1, (h7 t ht).2.2.1, fun j hj => by rw [e _ (by omega)]; exact (h7 t ht).2.2.2 j hj⟩
theorem zSim_ext {n c : Nat} {μ : zMem} {x y : Nat → Int32} (hn : n ≤ 6) (h : zSim n c μ x) (e : ∀ j, j < 87 → y j = x j) : zSim n c μ y := by
  obtain ⟨h1, h2, h3, h4⟩ := h
  refine ⟨by rw [e 2 (by omega), e 3 (by omega), e 1 (by omega)]; exact h1, fun i hi => by rw [e _ (by omega)]; exact h2 i hi, fun i hi => by rw [e _ (by omega)]; exact h3 i hi, fun t ht => ?_⟩
  rw [e (29 + 8 * t) (by omega), e (29 + 8 * t + 1) (by omega), e (29 + 8 * t + 2) (by omega)]
  exact ⟨(h4 t ht).1, fun j hj => by rw [e _ (by omega)]; exact (h4 t ht).2 j hj⟩
theorem e39 : zE39 zInv := by
  intro μ hI
  obtain ⟨⟨n, hc⟩, hi, hf, ht, hs⟩ := hI
  obtain ⟨μ1, f1, f2, f3, f4⟩ := c0_become (c := 17) (d := 1) hc.1.1 (by omega) hc.2.1 hc.1.2.1
  obtain ⟨μ2, g1, g2, g3⟩ := c6_become (a := 67) (b := 68) rfl rfl (by decide) (zst μ1 0 8 1)
  refine zE_of (r := 1) (μ1 := zst μ1 0 8 1) (μ2 := zst μ2 66 3 1) ?_ ?_ ?_
  · unfold fX5_image
    rw [f1, zbd_s]
  · unfold fX6_image
    rw [g1, zbd_s]
  · have q : ∀ j, j ≠ 0 → j ≠ 66 → j ≠ 68 → ¬ (17 ≤ j ∧ j ≤ 32) → zst μ2 66 3 1 j = μ j := fun j z1 z2 z3 z4 => by rw [zst_row_ne z2, g2 j z3, zst_row_ne z1, f2 j (by omega)]
    have e67 : zst μ1 0 8 1 67 = μ 67 := by rw [zst_row_ne (by decide), f2 67 (by omega)]
    have e68 : ∀ j, j < 87 → zst μ2 66 3 1 68 j = μ 67 j := fun j hj => by rw [zst_row_ne (by decide), g3 j hj, e67]
    refine ⟨⟨n, hc.congr (fun k _ _ => q k (by omega) (by omega) (by omega) (by omega)) (q 67 (by omega) (by omega) (by omega) (by omega))⟩, ⟨?_, Or.inr ⟨zst_eq _ _ _ _, n, zVal_ext hc.1 e68, zSim_ext hc.1.1 (f3.congr hc.1.1 ?_) e68, ?_⟩⟩, hf.congr (q 56 (by omega) (by omega) (by omega) (by omega)) (q 70 (by omega) (by omega) (by omega) (by omega)), ht.congr (by rw [q 53 (by omega) (by omega) (by omega) (by omega)]) (by rw [zst_ne (by decide), g2 66 (by omega), zst_row_ne (by decide), f2 66 (by omega)]) (q 54 (by omega) (by omega) (by omega) (by omega)) (q 73 (by omega) (by omega) (by omega) (by omega)), hs.congr (fun k _ _ => q k (by omega) (by omega) (by omega) (by omega)) (q 74 (by omega) (by omega) (by omega) (by omega)) (q 75 (by omega) (by omega) (by omega) (by omega)) (q 76 (by omega) (by omega) (by omega) (by omega))⟩
    · rw [zst_row_ne (by decide), g2 0 (by omega), zst_eq, zst_eq]
    · intro k z1 z2
      rw [zst_row_ne (by omega), g2 k (by omega), zst_row_ne (by omega)]
    · rw [e68 0 (by omega), zst_row_ne (by decide), g2 17 (by omega), zst_row_ne (by decide), f4, hc.2.2]
theorem e40 : zE40 zInv := by
  intro μ hI
  obtain ⟨⟨n, hc⟩, hi, hf, ht, hs⟩ := id hI
  rcases hi.2 with h0 | ⟨h1, n2, v2, s2, d2⟩
  · refine zfind hI 3 (by decide) ?_ (fun μ' hm => ?_)
    · unfold fX5_undo
      rw [hi.1, if_pos h0, zbd_eta]; rfl
    · unfold fX6_undo
      rw [hm 66 (by omega) (by omega), if_pos h0, zbd_eta]; rfl
  · obtain ⟨μ1, f1, f2, f3, f4⟩ := c0_become (c := 1) (d := 17) v2.1 (by omega) s2 v2.2.1
    obtain ⟨μ2, g1, g2, g3⟩ := c6_become (a := 68) (b := 67) rfl rfl (by decide) μ1
    have e68 : μ1 68 = μ 68 := f2 68 (by omega)
    have e67 : ∀ j, j < 87 → μ2 67 j = μ 68 j := fun j hj => by rw [g3 j hj, e68]
    refine zE_of (r := μ 68 0) (μ1 := μ1) (μ2 := μ2) ?_ ?_ (hI.camp (fun j _ _ z1 z2 => by rw [g2 j z2, f2 j (by omega)]) ⟨n2, zVal_ext v2 e67, zSim_ext v2.1 (f3.congr v2.1 (fun k _ _ => g2 k (by omega))) e67, ?_⟩)
    · unfold fX5_undo
      rw [hi.1, h1, if_neg (by decide), f1, zbd_s]
      show some (μ1 1 5, μ1) = _
      rw [f4, d2]
    · unfold fX6_undo
      rw [f2 66 (by omega), h1, if_neg (by decide), g1, zbd_s, zgd_t (by decide)]
      show some (μ2 67 0, μ2) = _
      rw [e67 0 (by omega)]
    · rw [e67 0 (by omega), g2 1 (by omega), f4, d2]
