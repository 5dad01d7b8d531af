theorem zneg_of {v : Int32} (h : v = -1 ∨ ∃ f, f ≤ 99 ∧ v = nI f) : (v < 0 ↔ v = -1) := by
  rcases h with rfl | ⟨f, hf, rfl⟩
  · exact ⟨fun _ => rfl, fun _ => by decide⟩
  · exact ⟨fun q => absurd q (nI_pos (by omega)), fun q => absurd q (zne1 (by omega))⟩
theorem zbeat {t T : Nat} (ht : t < 6) (hT : T + 1 ≠ 67) : ∀ m i n1 n2, i + m = 4 → m < n1 → m < n2 → ∀ (cnt : Int32) (μ1 μ2 : zMem), (∀ j, j < 4 → μ1 (T + 1) j = μ2 67 (29 + 8 * t + 4 + j)) → (∀ j, j < 4 → (μ1 (T + 1) j = -1 ∨ ∃ f, f ≤ 99 ∧ μ1 (T + 1) j = nI f)) →
    ∃ r μ1' μ2', fX4_forget_4 n1 T cnt (nI i) μ1 = some (r, μ1') ∧ fX6_beat_18 n2 66 (nI t) cnt (nI i) μ2 = some (r, μ2') ∧ (∀ a, a ≠ T + 1 → μ1' a = μ1 a) ∧ (∀ j, j < 4 → μ1' (T + 1) j = if i ≤ j then -1 else μ1 (T + 1) j) ∧ (∀ a, a ≠ 67 → μ2' a = μ2 a) ∧ ∀ j, μ2' 67 j = if 29 + 8 * t + 4 + i ≤ j ∧ j < 29 + 8 * t + 8 then -1 else μ2 67 j := by
  intro m
  induction m with
  | zero =>
    intro i q1 q2 hi h1 h2 cnt μ1 μ2 he hv
    obtain ⟨q1, rfl⟩ : ∃ z, q1 = z + 1 := ⟨q1 - 1, by omega⟩
    obtain ⟨q2, rfl⟩ : ∃ z, q2 = z + 1 := ⟨q2 - 1, by omega⟩
    refine ⟨cnt, μ1, μ2, ?_, ?_, fun _ _ => rfl, fun j hj => by rw [if_neg (by omega)], fun _ _ => rfl, fun j => by rw [if_neg (by omega)]⟩
    · rw [fX4_forget_4, show (4 : Int32) = nI 4 from rfl, zle_t (by omega) (by omega)]
    · rw [fX6_beat_18, show (4 : Int32) = nI 4 from rfl, zle_t (by omega) (by omega)]
  | succ m ih =>
    intro i q1 q2 hi h1 h2 cnt μ1 μ2 he hv
    obtain ⟨q1, rfl⟩ : ∃ z, q1 = z + 1 := ⟨q1 - 1, by omega⟩
    obtain ⟨q2, rfl⟩ : ∃ z, q2 = z + 1 := ⟨q2 - 1, by omega⟩
    have hvi := hv i (by omega)
    have hei := he i (by omega)
    have s4 : (4 : Int32) = nI 4 := rfl
    have step2 : ∀ (s0 : Int32), fX6_beat_40 (fX6_beat_18 q2) 66 (nI t) (nI i) s0 cnt μ2 = fX6_beat_18 q2 66 (nI t) (cnt + s0) (nI (i + 1)) (zst μ2 67 (29 + 8 * t + 4 + i) (-1)) := by
      intro s0
      unfold fX6_beat_40
      rw [n4, c6_sets (by omega), zbd_s, n1, show 29 + 8 * t + (4 + i) = 29 + 8 * t + 4 + i by omega]
    by_cases q : μ1 (T + 1) i = -1
    · obtain ⟨r, μ1', μ2', p1, p2, p3, p4, p5, p6⟩ := ih (i + 1) q1 q2 (by omega) (by omega) (by omega) cnt μ1 (zst μ2 67 (29 + 8 * t + 4 + i) (-1)) (by
        intro j hj
        rw [zst_at]
        by_cases z : j = i
        · subst z; rw [if_pos ⟨rfl, rfl⟩, q]
        · rw [if_neg (by omega)]; exact he j hj) hv
      refine ⟨r, μ1', μ2', ?_, ?_, p3, ?_, fun a ha => by rw [p5 a ha, zst_row_ne ha], ?_⟩
      · rw [fX4_forget_4, s4, zle_f (by omega) (by omega)]
        simp only [zgd_ib (show i < 4 by omega) (show 4 < 2 ^ 31 by decide), zcl (show i < 2 ^ 31 by omega), n1]
        rw [if_pos q]
        exact p1
      · rw [fX6_beat_18, s4, zle_f (by omega) (by omega), nI_add, c6_its (by omega), zbd_s, if_pos (by rw [show 29 + 8 * t + (4 + i) = 29 + 8 * t + 4 + i by omega, ← hei]; exact (zneg_of hvi).mpr q), step2, Int32.add_zero]
        exact p2
      · intro j hj
        rw [p4 j hj]
        by_cases z : j = i
        · subst z; rw [if_neg (by omega), if_pos (by omega), q]
        · by_cases z2 : i + 1 ≤ j
          · rw [if_pos z2, if_pos (by omega)]
          · rw [if_neg z2, if_neg (by omega)]
      · intro j
        rw [p6, zst_at]
        repeat' split
        all_goals first | rfl | (exfalso; omega)
    · obtain ⟨r, μ1', μ2', p1, p2, p3, p4, p5, p6⟩ := ih (i + 1) q1 q2 (by omega) (by omega) (by omega) (cnt + 1) (zst μ1 (T + 1) i (-1)) (zst μ2 67 (29 + 8 * t + 4 + i) (-1)) (by
        intro j hj
        rw [zst_at, zst_at]
        by_cases z : j = i
        · subst z; rw [if_pos ⟨rfl, rfl⟩, if_pos ⟨rfl, rfl⟩]
        · rw [if_neg (by omega), if_neg (by omega)]; exact he j hj) (by
        intro j hj
        rw [zst_at]
        by_cases z : j = i
        · rw [if_pos ⟨rfl, z⟩]; exact Or.inl rfl
        · rw [if_neg (by omega)]; exact hv j hj)
      refine ⟨r, μ1', μ2', ?_, ?_, fun a ha => by rw [p3 a ha, zst_row_ne ha], ?_, fun a ha => by rw [p5 a ha, zst_row_ne ha], ?_⟩
      · rw [fX4_forget_4, s4, zle_f (by omega) (by omega)]
        simp only [zgd_ib (show i < 4 by omega) (show 4 < 2 ^ 31 by decide), zcl (show i < 2 ^ 31 by omega), n1]
        rw [if_neg q]
        exact p1
      · rw [fX6_beat_18, s4, zle_f (by omega) (by omega), nI_add, c6_its (by omega), zbd_s, if_neg (by rw [show 29 + 8 * t + (4 + i) = 29 + 8 * t + 4 + i by omega, ← hei]; exact fun z => q ((zneg_of hvi).mp z)), step2]
        exact p2
      · intro j hj
        rw [p4 j hj, zst_at]
        repeat' split
        all_goals first | rfl | (exfalso; omega)
      · intro j
        rw [p6, zst_at]
        repeat' split
        all_goals first | rfl | (exfalso; omega)
theorem e6 : zE6 zInv := by
  intro a1 μ hI
  obtain ⟨⟨n, hc⟩, -⟩ := id hI
  obtain ⟨hn6, s67, s1⟩ := hc.size
  by_cases h1 : 0 ≤ a1 ∧ a1 ≤ nI n - 1
  · obtain ⟨t, ht, rfl⟩ := (ztent hn6).mp h1
    have gf := (hc.2.1.2.2.2 t ht).2
    have gv := (hc.1.2.2.2.2.2.2 t ht).2.2.2
    obtain ⟨r, μ1, -, p1, -, p3, p4, -, -⟩ := zbeat (t := t) (T := 5 + 2 * t) (by omega) (by omega) 4 0 200 200 (by omega) (by omega) (by omega) 0 μ μ (fun j hj => by rw [← gf j hj]; congr 1; omega) (fun j hj => by rw [show 5 + 2 * t + 1 = 1 + 5 + 2 * t by omega, gf j hj]; exact gv j hj)
    obtain ⟨r', μ1', μ2, p1', p2, -, -, p5, p6⟩ := zbeat (t := t) (T := 5 + 2 * t) (by omega) (by omega) 4 0 200 200 (by omega) (by omega) (by omega) 0 μ μ1 (fun j hj => by rw [p3 67 (by omega), ← gf j hj]; congr 1; omega) (fun j hj => by rw [show 5 + 2 * t + 1 = 1 + 5 + 2 * t by omega, gf j hj]; exact gv j hj)
    have er : r' = r := by
      have := p1'.symm.trans p1
      exact (Prod.mk.inj (Option.some.inj this)).1
    subst er
    have hm67 : μ1 67 = μ 67 := p3 67 (by omega)
    refine zE_of (r := r') (μ1 := μ1) (μ2 := μ2) ?_ ?_ (hI.camp (fun j _ _ z1 z2 => by rw [p5 j z2, p3 j (by omega)]) ⟨n, ?_, ?_, ?_⟩)
    · unfold fX5_beat
      rw [c5_isT s1, zbd_s, zif_t h1, zgd_ib (by omega) (by decide), zcl (by omega), show 0 + 1 + 3 + 1 + 2 * t = 5 + 2 * t by omega]
      unfold fX4_forget
      rw [show (0 : Int32) = nI 0 from rfl] at p1 ⊢
      rw [p1, zbd_s]
    · unfold fX6_beat
      rw [c6_isT (n := n) (by rw [hm67]; exact s67), zbd_s, zif_t h1]
      exact p2
    · obtain ⟨v1, v2, v3, v4, v5, v6, v7⟩ := hc.1
      have ne : ∀ j, ¬ (29 + 8 * t + 4 ≤ j ∧ j < 29 + 8 * t + 8) → μ2 67 j = μ 67 j := fun j hj => by rw [p6, if_neg (by omega), hm67]
      refine ⟨v1, by rw [ne 2 (by omega)]; exact v2, by rw [ne 0 (by omega)]; exact v3, by rw [ne 3 (by omega)]; exact v4, fun i hi => by rw [ne _ (by omega)]; exact v5 i hi, fun i hi => by rw [ne _ (by omega)]; exact v6 i hi, fun u hu => ?_⟩
      rw [ne (29 + 8 * u) (by omega), ne (29 + 8 * u + 1) (by omega), ne (29 + 8 * u + 2) (by omega)]
      refine ⟨(v7 u hu).1, (v7 u hu).2.1, (v7 u hu).2.2.1, fun j hj => ?_⟩
      rw [p6, hm67]
      by_cases q : u = t
      · rw [if_pos (by omega)]; exact Or.inl rfl
      · rw [if_neg (by omega)]; exact (v7 u hu).2.2.2 j hj
    · obtain ⟨⟨v1, v2, v3⟩, v4, v5, v6⟩ := hc.2.1
      have ne : ∀ j, ¬ (29 + 8 * t + 4 ≤ j ∧ j < 29 + 8 * t + 8) → μ2 67 j = μ 67 j := fun j hj => by rw [p6, if_neg (by omega), hm67]
      have nr : ∀ a, a ≠ 67 → a ≠ 5 + 2 * t + 1 → μ2 a = μ a := fun a z1 z2 => by rw [p5 a z1, p3 a z2]
      refine ⟨by rw [nr 1 (by omega) (by omega), ne 2 (by omega), ne 3 (by omega), ne 1 (by omega)]; exact ⟨v1, v2, v3⟩, fun i hi => by rw [nr _ (by omega) (by omega), ne _ (by omega)]; exact v4 i hi, fun i hi => by rw [nr _ (by omega) (by omega), ne _ (by omega)]; exact v5 i hi, fun u hu => ?_⟩
      rw [ne (29 + 8 * u) (by omega), ne (29 + 8 * u + 1) (by omega), ne (29 + 8 * u + 2) (by omega), nr (1 + 4 + 2 * u) (by omega) (by omega)]
      refine ⟨(v6 u hu).1, fun j hj => ?_⟩
      by_cases q : u = t
      · subst q
        rw [p5 _ (by omega), show 1 + 5 + 2 * u = 5 + 2 * u + 1 by omega, p4 j hj, if_pos (by omega), p6, if_pos (by omega)]
      · rw [nr _ (by omega) (by omega), ne _ (by omega)]; exact (v6 u hu).2 j hj
    · rw [p5 1 (by omega), p3 1 (by omega), p6, if_neg (by omega), hm67]; exact hc.2.2
  · refine zfind hI 0 (by decide) ?_ (fun μ' hm => ?_)
    · unfold fX5_beat
      rw [c5_isT s1, zbd_s, zif_f h1, zbd_eta]; rfl
    · unfold fX6_beat
      rw [c6_isT (n := n) (by rw [hm 67 (by omega) (by omega)]; exact s67), zbd_s, zif_f h1, zbd_eta]; rfl
