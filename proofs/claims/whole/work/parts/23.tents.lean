/-! tents: hold, as, tent, of, change, beat -/
theorem c6_its {t w : Nat} (h : 29 + 8 * t + w < 87) (μ : zMem) : fX6_its 66 (nI t) (nI w) μ = some (μ 67 (29 + 8 * t + w), μ) := by
  unfold fX6_its
  have e : (29 : Int32) + (8 : Int32) * nI t + nI w = nI (29 + 8 * t + w) := by
    rw [show (29 : Int32) = nI 29 from rfl, show (8 : Int32) = nI 8 from rfl, pk_mul, nI_add, nI_add]
  rw [e, zgd_ib h (by decide), zcl (by omega)]
theorem c6_sets {t w : Nat} (h : 29 + 8 * t + w < 87) (v : Int32) (μ : zMem) : fX6_sets 66 (nI t) (nI w) v μ = some ((), zst μ 67 (29 + 8 * t + w) v) := by
  unfold fX6_sets
  have e : (29 : Int32) + (8 : Int32) * nI t + nI w = nI (29 + 8 * t + w) := by
    rw [show (29 : Int32) = nI 29 from rfl, show (8 : Int32) = nI 8 from rfl, pk_mul, nI_add, nI_add]
  rw [e, zgd_ib h (by decide), zcl (by omega)]
theorem n4 (j : Nat) : (4 : Int32) + nI j = nI (4 + j) := nI_add 4 j
theorem n1 (j : Nat) : nI j + (1 : Int32) = nI (j + 1) := nI_add j 1
theorem c_fill {k len : Nat} (v : Int32) (hl : zln k = len) (h : len < 200) (μ : zMem) : ∃ μ', fJ7_fill_53178 k v μ = some ((), μ') ∧ (∀ a, a ≠ k → μ' a = μ a) ∧ ∀ j, μ' k j = if j < len then v else μ k j := by
  have key : ∀ m i n, i + m = len → m < n → ∀ μ : zMem, ∃ μ', fJ7_fill_53178_5 n k v (nI i) (nI len) μ = some ((), μ') ∧ (∀ a, a ≠ k → μ' a = μ a) ∧ ∀ j, μ' k j = if i ≤ j ∧ j < len then v else μ k j := by
    intro m
    induction m with
    | zero =>
      intro i n hi hn μ
      obtain ⟨n, rfl⟩ : ∃ q, n = q + 1 := ⟨n - 1, by omega⟩
      refine ⟨μ, ?_, fun _ _ => rfl, fun j => by rw [if_neg (by omega)]⟩
      rw [fJ7_fill_53178_5, zle_t (by omega) (by omega)]
    | succ m ih =>
      intro i n hi hn μ
      obtain ⟨n, rfl⟩ : ∃ q, n = q + 1 := ⟨n - 1, by omega⟩
      obtain ⟨μ', h1, h2, h3⟩ := ih (i + 1) n (by omega) (by omega) (zst μ k i v)
      refine ⟨μ', ?_, fun a ha => by rw [h2 a ha, zst_row_ne ha], fun j => ?_⟩
      · rw [fJ7_fill_53178_5, zle_f (by omega) (by omega), hl, zgd_ib (by omega) (by omega), zcl (by omega), n1]
        exact h1
      · rw [h3, zst_at]
        repeat' split
        all_goals first | rfl | (exfalso; omega)
  obtain ⟨μ', h1, h2, h3⟩ := key len 0 200 (by omega) h μ
  refine ⟨μ', ?_, h2, fun j => by rw [h3]; simp⟩
  unfold fJ7_fill_53178
  rw [hl]
  exact h1
theorem zln_f {c t : Nat} (hc : c = 1 ∨ c = 17 ∨ c = 33) (ht : t < 6) : zln (c + 5 + 2 * t) = 4 := by
  have q : ∀ c ∈ [1, 17, 33], ∀ t, t < 6 → zln (c + 5 + 2 * t) = 4 := by decide +kernel
  exact q c (by rcases hc with rfl | rfl | rfl <;> simp) t ht
theorem c0_addTent {c n : Nat} (hc : c = 1 ∨ c = 17 ∨ c = 33) (hn : n < 6) (v : Int32) {μ : zMem} (hs : μ c 3 = nI n) : ∃ μ1, fX0_addTent c v μ = some ((), μ1) ∧ (∀ j, j ≠ c → j ≠ c + 4 + 2 * n → j ≠ c + 5 + 2 * n → μ1 j = μ j) ∧ μ1 c 3 = nI (n + 1) ∧ (∀ j, j ≠ 3 → μ1 c j = μ c j) ∧ (μ1 (c + 4 + 2 * n) 0 = v ∧ μ1 (c + 4 + 2 * n) 1 = -1 ∧ μ1 (c + 4 + 2 * n) 2 = 0) ∧ ∀ j, j < 4 → μ1 (c + 5 + 2 * n) j = -1 := by
  obtain ⟨μ', h1, h2, h3⟩ := c_fill (k := c + 5 + 2 * n) (len := 4) (-1) (zln_f hc hn) (by decide) (zst (zst (zst μ (c + 4 + 2 * n) 0 v) (c + 4 + 2 * n) 1 (-1)) (c + 4 + 2 * n) 2 0)
  have ec : μ' c = μ c := by rw [h2 c (by omega), zst_row_ne (by omega), zst_row_ne (by omega), zst_row_ne (by omega)]
  refine ⟨zst μ' c 3 (nI (n + 1)), ?_, ?_, zst_eq _ _ _ _, ?_, ?_, ?_⟩
  · unfold fX0_addTent
    rw [hs, show (6 : Int32) = nI 6 from rfl, zle_f (by omega) (by omega), zgd_ib (by omega) (by decide), zcl (by omega)]
    have e : c + 3 + 1 + 2 * n = c + 4 + 2 * n := by omega
    rw [e]
    unfold fX4_renew
    rw [show c + 4 + 2 * n + 1 = c + 5 + 2 * n by omega, h1, zbd_s, zbd_s, ec, hs, n1]
  · intro j q1 q2 q3
    rw [zst_row_ne q1, h2 j q3, zst_row_ne q2, zst_row_ne q2, zst_row_ne q2]
  · intro j hj
    rw [zst_ne hj, ec]
  · rw [zst_row_ne (by omega), h2 _ (by omega)]
    refine ⟨?_, ?_, zst_eq _ _ _ _⟩
    · rw [zst_ne (by decide), zst_ne (by decide), zst_eq]
    · rw [zst_ne (by decide), zst_eq]
  · intro j hj
    rw [zst_row_ne (by omega), h3, if_pos hj]
theorem c6_adds {n : Nat} (hn : n < 6) (v : Int32) {μ : zMem} (hs : μ 67 2 = nI n) : ∃ μ2, fX6_adds 66 v μ = some (nI n, μ2) ∧ (∀ j, j ≠ 67 → μ2 j = μ j) ∧ μ2 67 2 = nI (n + 1) ∧ (μ2 67 (29 + 8 * n) = v ∧ μ2 67 (29 + 8 * n + 1) = -1 ∧ μ2 67 (29 + 8 * n + 2) = 0) ∧ (∀ j, j < 4 → μ2 67 (29 + 8 * n + 4 + j) = -1) ∧ ∀ j, j ≠ 2 → ¬ (29 + 8 * n ≤ j ∧ j < 37 + 8 * n) → μ2 67 j = μ 67 j := by
  have key : ∀ m i q, i + m = 4 → m < q → ∀ μ : zMem, ∃ μ', fX6_adds_40 q 66 (nI n) (nI i) μ = some (nI n, μ') ∧ (∀ a, a ≠ 67 → μ' a = μ a) ∧ ∀ j, μ' 67 j = if 29 + 8 * n + 4 + i ≤ j ∧ j < 29 + 8 * n + 8 then -1 else μ 67 j := by
    intro m
    induction m with
    | zero =>
      intro i q hi hq μ
      obtain ⟨q, rfl⟩ : ∃ z, q = z + 1 := ⟨q - 1, by omega⟩
      refine ⟨μ, ?_, fun _ _ => rfl, fun j => by rw [if_neg (by omega)]⟩
      rw [fX6_adds_40, show (4 : Int32) = nI 4 from rfl, zle_t (by omega) (by omega)]
    | succ m ih =>
      intro i q hi hq μ
      obtain ⟨q, rfl⟩ : ∃ z, q = z + 1 := ⟨q - 1, by omega⟩
      obtain ⟨μ', h1, h2, h3⟩ := ih (i + 1) q (by omega) (by omega) (zst μ 67 (29 + 8 * n + (4 + i)) (-1))
      refine ⟨μ', ?_, fun a ha => by rw [h2 a ha, zst_row_ne ha], fun j => ?_⟩
      · rw [fX6_adds_40, show (4 : Int32) = nI 4 from rfl, zle_f (by omega) (by omega), nI_add, c6_sets (by omega), zbd_s, n1]
        exact h1
      · rw [h3, zst_at]
        repeat' split
        all_goals first | rfl | (exfalso; omega)
  obtain ⟨μ', h1, h2, h3⟩ := key 4 0 200 (by omega) (by omega) (zst (zst (zst (zst μ 67 2 (nI (n + 1))) 67 (29 + 8 * n + 0) v) 67 (29 + 8 * n + 1) (-1)) 67 (29 + 8 * n + 2) 0)
  refine ⟨μ', ?_, ?_, ?_, ⟨?_, ?_, ?_⟩, ?_, ?_⟩
  · unfold fX6_adds
    rw [zgd_t zi2, zgd_t zi2, zgd_t zi2, show (2 : Int32).toNatClampNeg = 2 from rfl, show (66 + 1) = 67 from rfl, hs, n1, show (0 : Int32) = nI 0 from rfl, c6_sets (by omega), zbd_s, show (1 : Int32) = nI 1 from rfl, c6_sets (by omega), zbd_s, show (2 : Int32) = nI 2 from rfl, c6_sets (by omega), zbd_s]
    exact h1
  · intro j hj
    rw [h2 j hj, zst_row_ne hj, zst_row_ne hj, zst_row_ne hj, zst_row_ne hj]
  · rw [h3, if_neg (by omega), zst_ne (by omega), zst_ne (by omega), zst_ne (by omega), zst_eq]
  · rw [h3, if_neg (by omega), zst_ne (by omega), zst_ne (by omega)]
    exact zst_eq _ _ _ _
  · rw [h3, if_neg (by omega), zst_ne (by omega), zst_eq]
  · rw [h3, if_neg (by omega), zst_eq]
  · intro j hj
    rw [h3, if_pos (by omega)]
  · intro j hj hj2
    rw [h3, if_neg (by omega), zst_ne (by omega), zst_ne (by omega), zst_ne (by omega), zst_ne hj]
/-- a new tent on both sides -/
theorem zVal_add {n : Nat} {x y : Nat → Int32} {k : Nat} (hn : n < 6) (hk : k < 7) (h : zVal n x) (y2 : y 2 = nI (n + 1)) (ya : y (29 + 8 * n) = nI k ∧ y (29 + 8 * n + 1) = -1 ∧ y (29 + 8 * n + 2) = 0) (yf : ∀ j, j < 4 → y (29 + 8 * n + 4 + j) = -1) (yo : ∀ j, j ≠ 2 → ¬ (29 + 8 * n ≤ j ∧ j < 37 + 8 * n) → y j = x j) : zVal (n + 1) y := by
  obtain ⟨h1, h2, h3, h4, h5, h6, h7⟩ := h
  refine ⟨by omega, y2, ?_, ?_, ?_, ?_, ?_⟩
  · rw [yo 0 (by omega) (by omega)]; exact h3
  · rw [yo 3 (by omega) (by omega)]; exact h4
  · intro i hi; rw [yo _ (by omega) (by omega)]; exact h5 i hi
  · intro i hi
    rw [yo _ (by omega) (by omega)]
    rcases h6 i hi with q | ⟨t, ht, q⟩
    · exact Or.inl q
    · exact Or.inr ⟨t, by omega, q⟩
  · intro t ht
    by_cases e : t = n
    · subst e
      refine ⟨⟨k, hk, ya.1⟩, Or.inl ya.2.1, ⟨0, by omega, ya.2.2⟩, fun j hj => Or.inl (yf j hj)⟩
    · obtain ⟨g1, g2, g3, g4⟩ := h7 t (by omega)
      rw [yo (29 + 8 * t) (by omega) (by omega), yo (29 + 8 * t + 1) (by omega) (by omega), yo (29 + 8 * t + 2) (by omega) (by omega)]
      refine ⟨g1, g2, g3, fun j hj => ?_⟩
      rw [yo _ (by omega) (by omega)]
      exact g4 j hj
theorem zSim_add {n c : Nat} {μ μ1 : zMem} {x y : Nat → Int32} {v : Int32} (h : zSim n c μ x) (y2 : y 2 = nI (n + 1)) (ya : y (29 + 8 * n) = v ∧ y (29 + 8 * n + 1) = -1 ∧ y (29 + 8 * n + 2) = 0) (yf : ∀ j, j < 4 → y (29 + 8 * n + 4 + j) = -1) (yo : ∀ j, j ≠ 2 → ¬ (29 + 8 * n ≤ j ∧ j < 37 + 8 * n) → y j = x j) (hn : n < 6)
    (m1 : ∀ j, j ≤ c + 15 → j ≠ c → j ≠ c + 4 + 2 * n → j ≠ c + 5 + 2 * n → μ1 j = μ j) (m2 : μ1 c 3 = nI (n + 1)) (m3 : ∀ j, j ≠ 3 → μ1 c j = μ c j) (m4 : μ1 (c + 4 + 2 * n) 0 = v ∧ μ1 (c + 4 + 2 * n) 1 = -1 ∧ μ1 (c + 4 + 2 * n) 2 = 0) (m5 : ∀ j, j < 4 → μ1 (c + 5 + 2 * n) j = -1) : zSim (n + 1) c μ1 y := by
  obtain ⟨⟨h1, h2, h3⟩, h4, h5, h6⟩ := h
  refine ⟨⟨by rw [m2, y2], by rw [m3 4 (by omega), yo 3 (by omega) (by omega)]; exact h2, by rw [m3 6 (by omega), yo 1 (by omega) (by omega)]; exact h3⟩, ?_, ?_, ?_⟩
  · intro i hi
    rw [m1 (c + 1) (by omega) (by omega) (by omega) (by omega), yo _ (by omega) (by omega)]; exact h4 i hi
  · intro i hi
    rw [m1 (c + 2) (by omega) (by omega) (by omega) (by omega), yo _ (by omega) (by omega)]; exact h5 i hi
  · intro t ht
    by_cases e : t = n
    · subst e
      exact ⟨⟨by rw [m4.1, ya.1], by rw [m4.2.1, ya.2.1], by rw [m4.2.2, ya.2.2]⟩, fun j hj => by rw [m5 j hj, yf j hj]⟩
    · rw [m1 (c + 4 + 2 * t) (by omega) (by omega) (by omega) (by omega), m1 (c + 5 + 2 * t) (by omega) (by omega) (by omega) (by omega), yo (29 + 8 * t) (by omega) (by omega), yo (29 + 8 * t + 1) (by omega) (by omega), yo (29 + 8 * t + 2) (by omega) (by omega)]
      refine ⟨(h6 t (by omega)).1, fun j hj => ?_⟩
      rw [yo _ (by omega) (by omega)]
      exact (h6 t (by omega)).2 j hj
theorem e3 : zE3 zInv := by
  intro a1 μ hI
  obtain ⟨⟨n, hc⟩, -⟩ := id hI
  obtain ⟨hn6, s67, s1⟩ := hc.size
  by_cases h1 : 0 ≤ a1 ∧ a1 ≤ 6
  · by_cases h2 : n < 6
    · obtain ⟨k, hk, rfl⟩ := zrng (n := 6) rfl h1
      obtain ⟨μ1, f1, m1, m2, m3, m4, m5⟩ := c0_addTent (Or.inl rfl) h2 (nI k) s1
      have e67 : μ1 67 = μ 67 := m1 67 (by omega) (by omega) (by omega)
      obtain ⟨μ2, f2, q1, q2, q3, q4, q5⟩ := c6_adds h2 (nI k) (μ := μ1) (by rw [e67]; exact s67)
      refine zE_of (r := nI n) (μ1 := μ1) (μ2 := μ2) ?_ ?_ (hI.camp (fun j _ _ z1 z2 => ?_) ⟨n + 1, ?_, ?_, ?_⟩)
      · unfold fX5_tent
        rw [c5_isKind, zbd_s, zif_t h1, show μ (0 + 1) 3 = nI n from s1, show (6 : Int32) = nI 6 from rfl, zlt_t h2 (by decide), f1, zbd_s, show μ1 (0 + 1) 3 = nI (n + 1) from m2, show (1 : Int32) = nI 1 from rfl, zsub1 (by omega)]
        rfl
      · unfold fX6_tent
        rw [c6_isKind, zbd_s, zif_t h1, zgd_t zi2, show μ1 (66 + 1) (2 : Int32).toNatClampNeg = nI n from (by rw [show μ1 (66 + 1) = μ1 67 from rfl, e67]; exact s67), show (6 : Int32) = nI 6 from rfl, zeq_f (by omega) (by omega) (by omega), f2, zbd_s]
      · rw [q1 j z2, m1 j (by omega) (by omega) (by omega)]
      · exact zVal_add h2 (by omega) hc.1 q2 q3 q4 (fun j z1 z2 => by rw [q5 j z1 z2, e67])
      · refine zSim_add (v := nI k) hc.2.1 q2 q3 q4 (fun j z1 z2 => by rw [q5 j z1 z2, e67]) h2 ?_ ?_ ?_ ?_ ?_
        · intro j z0 z1 z2 z3
          rw [q1 j (by omega), m1 j z1 z2 z3]
        · rw [q1 1 (by omega)]; exact m2
        · intro j hj; rw [q1 1 (by omega)]; exact m3 j hj
        · rw [q1 _ (by omega)]; exact m4
        · intro j hj; rw [q1 _ (by omega)]; exact m5 j hj
      · rw [q1 1 (by omega), m3 5 (by omega), q5 0 (by omega) (by omega), e67]; exact hc.2.2
    · have hn : n = 6 := by omega
      refine zfind hI 1 (by decide) ?_ (fun μ' hm => ?_)
      · unfold fX5_tent
        rw [c5_isKind, zbd_s, zif_t h1, show μ (0 + 1) 3 = nI n from s1, show (6 : Int32) = nI 6 from rfl, zlt_f (by omega) (by omega), zbd_eta]; rfl
      · unfold fX6_tent
        rw [c6_isKind, zbd_s, zif_t h1, zgd_t zi2, show μ' (66 + 1) (2 : Int32).toNatClampNeg = nI n from (by rw [show μ' (66 + 1) = μ' 67 from rfl, hm 67 (by omega) (by omega)]; exact s67), show (6 : Int32) = nI 6 from rfl, zeq_t hn, zbd_eta]; rfl
  · refine zfind hI 0 (by decide) ?_ (fun μ' _ => ?_)
    · unfold fX5_tent
      rw [c5_isKind, zbd_s, zif_f h1, zbd_eta]; rfl
    · unfold fX6_tent
      rw [c6_isKind, zbd_s, zif_f h1, zbd_eta]; rfl
