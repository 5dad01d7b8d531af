/-! write, copy, load -/
theorem zinr {n : Nat} (hn : n < 2 ^ 31) {x : Int32} : (0 ≤ x ∧ x ≤ nI n - 1) ↔ ∃ t, t < n ∧ x = nI t := by
  constructor
  · rintro ⟨q1, q2⟩
    rcases Nat.eq_zero_or_pos n with q | q
    · subst q
      exact absurd (Int32.le_trans q1 q2) (by decide)
    · rw [show nI n - 1 = nI (n - 1) from zsub1 q] at q2
      obtain ⟨t, ht, e⟩ := zrng (M := nI (n - 1)) (n := n - 1) (nI_toInt (by omega)) ⟨q1, q2⟩
      exact ⟨t, by omega, e⟩
  · rintro ⟨t, ht, rfl⟩
    rw [show nI n - 1 = nI (n - 1) from zsub1 (by omega)]
    exact zrng' (by omega) (by omega)
theorem zlack {μ : zMem} (hI : zInv μ) (a : Int32) : (∃ k, k < 7 ∧ fX5_lackOf 0 a μ = some (nI k, μ) ∧ ∀ μ' : zMem, μ' 74 = μ 74 → fX6_lacks 66 a μ' = some (nI k, μ')) ∨ ∃ s, s < 4 ∧ a = nI s ∧ fX5_lackOf 0 a μ = some (-1, μ) ∧ ∀ μ' : zMem, μ' 74 = μ 74 → fX6_lacks 66 a μ' = some (-1, μ') := by
  by_cases h1 : 0 ≤ a ∧ a ≤ 3
  · obtain ⟨s, hs, rfl⟩ := zrng (n := 3) rfl h1
    obtain ⟨-, -, -, -, hsh⟩ := hI
    obtain ⟨⟨y1, y2⟩, -⟩ := hsh s (by omega)
    by_cases h : μ 74 s = 0
    · refine Or.inl ⟨5, by omega, ?_, fun μ' q => ?_⟩
      · rw [c5_lack (by omega), if_pos (y1.trans h)]; rfl
      · rw [c6_lack (by omega), q, if_pos h]; rfl
    · refine Or.inr ⟨s, by omega, rfl, ?_, fun μ' q => ?_⟩
      · rw [c5_lack (by omega), if_neg (fun q => h (y1.symm.trans q))]
      · rw [c6_lack (by omega), q, if_neg h]
  · exact Or.inl ⟨0, by omega, c5_lackB h1 _, fun μ' _ => c6_lackB h1 _⟩
theorem zk1 {k : Nat} (h : k < 7) : ¬ nI k = (-1 : Int32) := zne1 (by omega)
theorem zk2 {k : Nat} (h : k < 7) : ¬ nI k < (0 : Int32) := nI_pos (by omega)
theorem e35 : zE35 zInv := by
  intro a1 a2 a3 μ hI
  rcases zlack hI a1 with ⟨k, hk, l5, l6⟩ | ⟨s, hs, rfl, l5, l6⟩
  · refine zfind hI k hk ?_ (fun μ' h => ?_)
    · unfold fX5_write; rw [l5, zbd_s, if_neg (zk1 hk), zbd_eta]
    · unfold fX6_write; rw [l6 μ' (h 74 (by omega) (by omega)), zbd_s, if_neg (zk2 hk), zbd_eta]
  · obtain ⟨-, -, -, -, hsh⟩ := id hI
    obtain ⟨⟨y1, y2⟩, ⟨m, hm, y3, y4⟩, y5⟩ := hsh s hs
    by_cases h2 : 0 ≤ a2 ∧ a2 ≤ nI m - 1
    · obtain ⟨i, hi, rfl⟩ := (zinr (by omega)).1 h2
      have key : ∀ v : Int32, zInv (zst (zst μ (58 + 2 * s + 1) i v) 76 (40 * s + i) v) := by
        intro v
        refine hI.she ?_ ?_
        · intro k _ _ z1 z2 z3 z4
          rw [zst_row_ne z4, zst_row_ne (by omega)]
        · intro u hu
          obtain ⟨⟨x1, x2⟩, ⟨x3, x4, x5, x6⟩, x7⟩ := hsh u hu
          rw [zst_row_ne (by omega), zst_row_ne (a := 58 + 2 * u) (by omega), zst_row_ne (by omega), zst_row_ne (a := 74) (by omega), zst_row_ne (by omega), zst_row_ne (a := 75) (by omega)]
          refine ⟨⟨x1, x2⟩, ⟨x3, x4, x5, x6⟩, fun j hj => ?_⟩
          have := x7 j hj
          rw [zst_row_ne (by omega), zst_at, zst_at, zst_row_ne (a := 76) (by omega)]
          repeat' split
          all_goals first | rfl | exact this | (exfalso; omega)
      have p5 : ∀ v, fX2_put (58 + 2 * s) (nI i) a3 μ = some ((), zst μ (58 + 2 * s + 1) i v) → fX5_write 0 (nI s) (nI i) a3 μ = some (1, zst μ (58 + 2 * s + 1) i v) := by
        intro v hv
        unfold fX5_write
        rw [l5, zbd_s, if_pos rfl]
        simp only [zgd_ib hs (show 4 < 2 ^ 31 by decide), zcl (show s < 2 ^ 31 by omega)]
        rw [zadr, y3, w5, zbd_s, zif_t h2, hv, zbd_s]
      have p6 : ∀ μ' : zMem, μ' 74 = μ 74 → μ' 75 = μ 75 → fX6_write 66 (nI s) (nI i) a3 μ' = (if μ 74 s = 8 then some (1, zst μ' 76 (40 * s + i) a3.toInt8.toInt32) else if μ 74 s = 16 then some (1, zst μ' 76 (40 * s + i) a3.toInt16.toInt32) else some (1, zst μ' 76 (40 * s + i) a3)) := by
        intro μ' q1 q2
        unfold fX6_write
        rw [l6 μ' q1, zbd_s, if_pos (by decide)]
        simp only [zgd_ib hs (show 4 < 2 ^ 31 by decide), zcl (show s < 2 ^ 31 by omega)]
        rw [show μ' (66 + 9) s = nI m by rw [show 66 + 9 = 75 from rfl, q2, y4], show (0 : Int64) = (0 : Int32).toInt64 from rfl, w6, zbd_s, zif_t h2]
        rw [show (66 + 8) = 74 from rfl, q1, show (40 : Int32) = nI 40 from rfl, pk_mul, nI_add]
        simp only [zgd_ib (show 40 * s + i < 160 by omega) (show 160 < 2 ^ 31 by decide), zcl (show 40 * s + i < 2 ^ 31 by omega)]
      have q74 : ∀ v, zst μ (58 + 2 * s + 1) i v 74 = μ 74 := fun v => zst_row_ne (by omega)
      have q75 : ∀ v, zst μ (58 + 2 * s + 1) i v 75 = μ 75 := fun v => zst_row_ne (by omega)
      by_cases h8 : μ 74 s = 8
      · refine zE_of (p5 a3.toInt8.toInt32 ?_) (f6 := fX6_write 66 (nI s) (nI i) a3) ((p6 _ (q74 _) (q75 _)).trans (if_pos h8)) (key _)
        unfold fX2_put
        rw [if_pos (y1.trans h8), zgd_ib (by omega) (by decide), zcl (by omega)]
      · by_cases h16 : μ 74 s = 16
        · refine zE_of (p5 a3.toInt16.toInt32 ?_) (f6 := fX6_write 66 (nI s) (nI i) a3) ((p6 _ (q74 _) (q75 _)).trans ((if_neg h8).trans (if_pos h16))) (key _)
          unfold fX2_put
          rw [if_neg (fun q => h8 (y1.symm.trans q)), if_pos (y1.trans h16), zgd_ib (by omega) (by decide), zcl (by omega)]
        · refine zE_of (p5 a3 ?_) (f6 := fX6_write 66 (nI s) (nI i) a3) ((p6 _ (q74 _) (q75 _)).trans ((if_neg h8).trans (if_neg h16))) (key _)
          unfold fX2_put
          rw [if_neg (fun q => h8 (y1.symm.trans q)), if_neg (fun q => h16 (y1.symm.trans q)), zgd_ib (by omega) (by decide), zcl (by omega)]
    · refine zfind hI 0 (by decide) ?_ (fun μ' h => ?_)
      · unfold fX5_write; rw [l5, zbd_s, if_pos rfl]; simp only [zgd_ib hs (show 4 < 2 ^ 31 by decide), zcl (show s < 2 ^ 31 by omega)]; rw [zadr, y3, w5, zbd_s, zif_f h2, zbd_eta]; rfl
      · unfold fX6_write; rw [l6 μ' (h 74 (by omega) (by omega)), zbd_s, if_pos (by decide)]; simp only [zgd_ib hs (show 4 < 2 ^ 31 by decide), zcl (show s < 2 ^ 31 by omega)]; rw [show μ' (66 + 9) s = nI m by rw [show 66 + 9 = 75 from rfl, h 75 (by omega) (by omega), y4], show (0 : Int64) = (0 : Int32).toInt64 from rfl, w6, zbd_s, zif_f h2, zbd_eta]; rfl
/-- heights of one stretch put anew -/
theorem zVal_hs {n : Nat} {x y : Nat → Int32} (h : zVal n x) (h1 : ∀ b, b < 87 → ¬ (4 ≤ b ∧ b < 29) → y b = x b) (h2 : ∀ i, i < 25 → y (4 + i) = x (4 + i) ∨ ∃ v, v ≤ 99 ∧ y (4 + i) = nI v) : zVal n y := by
  obtain ⟨a1, a2, a3, a4, a5, a6, a7⟩ := h
  refine ⟨a1, by rw [h1 2 (by omega) (by omega)]; exact a2, by rw [h1 0 (by omega) (by omega)]; exact a3, by rw [h1 3 (by omega) (by omega)]; exact a4, fun i hi => ?_, fun i hi => ?_, fun t ht => ?_⟩
  · rcases h2 i hi with q | q
    · rw [q]; exact a5 i hi
    · exact q
  · rw [h1 _ (by omega) (by omega)]; exact a6 i hi
  · obtain ⟨b1, b2, b3, b4⟩ := a7 t ht
    rw [h1 _ (by omega) (by omega), h1 (29 + 8 * t + 1) (by omega) (by omega), h1 (29 + 8 * t + 2) (by omega) (by omega)]
    refine ⟨b1, b2, b3, fun j hj => ?_⟩
    rw [h1 _ (by omega) (by omega)]; exact b4 j hj
/-- loading: both copy the same heights -/
theorem e37 : zE37 zInv := by
  intro a1 μ hI
  rcases zlack hI a1 with ⟨k, hk, l5, l6⟩ | ⟨s, hs, rfl, l5, l6⟩
  · refine zfind hI k hk ?_ (fun μ' h => ?_)
    · unfold fX5_load; rw [l5, zbd_s, if_neg (zk1 hk), zbd_eta]
    · unfold fX6_load; rw [l6 μ' (h 74 (by omega) (by omega)), zbd_s, if_neg (zk2 hk), zbd_eta]
  · obtain ⟨⟨n, hc⟩, -, -, -, hsh⟩ := id hI
    obtain ⟨⟨y1, y2⟩, ⟨m, hm, y3, y4⟩, y5⟩ := hsh s hs
    obtain ⟨M, hM, hMm, hMe⟩ : ∃ M, M ≤ 25 ∧ (M = m ∨ M = 25 ∧ 25 ≤ m) ∧ (if (25 : Int32) < nI m then (25 : Int32) else nI m) = nI M := by
      by_cases q : 25 < m
      · exact ⟨25, by omega, Or.inr ⟨rfl, by omega⟩, (zlt_t (a := 25) q (by omega)).trans rfl⟩
      · exact ⟨m, by omega, Or.inl rfl, zlt_f (a := 25) (by omega) (by omega)⟩
    have key : ∀ mm i q, i + mm = M → mm < q → ∀ μ1 μ2 : zMem, (∀ b, μ1 (59 + 2 * s) b = μ (59 + 2 * s) b) → (∀ b, μ2 76 b = μ 76 b) → μ2 75 = μ 75 →
        ∃ r μ1' μ2', r ≤ M ∧ i ≤ r ∧ fX5_load_35 q 0 (nI s) (nI M) (nI i) μ1 = some (nI r, μ1') ∧ fX6_load_18 q 66 (nI s) (nI i) μ2 = some (nI r, μ2') ∧ (∀ a b, μ1' a b = if a = 2 ∧ i ≤ b ∧ b < r then μ 76 (40 * s + b) else μ1 a b) ∧ (∀ a b, μ2' a b = if a = 67 ∧ 4 + i ≤ b ∧ b < 4 + r then μ 76 (40 * s + (b - 4)) else μ2 a b) ∧ (∀ b, i ≤ b → b < r → ∃ v, v ≤ 99 ∧ μ 76 (40 * s + b) = nI v) := by
      intro mm
      induction mm with
      | zero =>
        intro i q hi hq μ1 μ2 k1 k2 k3
        obtain ⟨q, rfl⟩ : ∃ z, q = z + 1 := ⟨q - 1, by omega⟩
        refine ⟨i, μ1, μ2, by omega, by omega, ?_, ?_, fun a b => by rw [if_neg (by omega)], fun a b => by rw [if_neg (by omega)], fun b _ _ => by omega⟩
        · rw [fX5_load_35, zle_t (by omega) (by omega), show M = i by omega]
        · rw [fX6_load_18, zgd_ib hs (by decide), zcl (by omega), show μ2 (66 + 9) s = nI m by rw [show 66 + 9 = 75 from rfl, k3, y4]]
          by_cases w : m ≤ i
          · rw [zle_t w (by omega)]
          · rw [zle_f (by omega) (by omega), show (25 : Int32) = nI 25 from rfl, zle_t (by omega) (by omega)]
      | succ mm ih =>
        intro i q hi hq μ1 μ2 k1 k2 k3
        obtain ⟨q, rfl⟩ : ∃ z, q = z + 1 := ⟨q - 1, by omega⟩
        have g5 : fX5_load_35 (q + 1) 0 (nI s) (nI M) (nI i) μ1 = if zb (0 ≤ μ 76 (40 * s + i) ∧ μ 76 (40 * s + i) ≤ 99) = 0 then some (nI i, μ1) else fX5_load_35 q 0 (nI s) (nI M) (nI (i + 1)) (zst μ1 2 i (μ 76 (40 * s + i))) := by
          rw [fX5_load_35, zle_f (by omega) (by omega)]
          simp only [zgd_ib hs (show 4 < 2 ^ 31 by decide), zcl (show s < 2 ^ 31 by omega), zgd_ib (show i < 40 by omega) (show 40 < 2 ^ 31 by decide), zgd_ib (show i < 25 by omega) (show 25 < 2 ^ 31 by decide), zcl (show i < 2 ^ 31 by omega), n1]
          rw [show 0 + 55 + 3 + 2 * s + 1 = 59 + 2 * s by omega, c5_isMeasure, zbd_s, k1, y5 i (by omega)]
        have g6 : fX6_load_18 (q + 1) 66 (nI s) (nI i) μ2 = if zb (0 ≤ μ 76 (40 * s + i) ∧ μ 76 (40 * s + i) ≤ 99) = 0 then some (nI i, μ2) else fX6_load_18 q 66 (nI s) (nI (i + 1)) (zst μ2 67 (4 + i) (μ 76 (40 * s + i))) := by
          rw [fX6_load_18, zgd_ib hs (by decide), zcl (by omega), show μ2 (66 + 9) s = nI m by rw [show 66 + 9 = 75 from rfl, k3, y4], zle_f (by omega) (by omega), show (25 : Int32) = nI 25 from rfl, zle_f (by omega) (by omega), show (40 : Int32) = nI 40 from rfl, pk_mul, nI_add, show (4 : Int32) = nI 4 from rfl, nI_add]
          simp only [zgd_ib (show 40 * s + i < 160 by omega) (show 160 < 2 ^ 31 by decide), zcl (show 40 * s + i < 2 ^ 31 by omega), zgd_ib (show 4 + i < 87 by omega) (show 87 < 2 ^ 31 by decide), zcl (show 4 + i < 2 ^ 31 by omega), n1]
          rw [c6_isHigh, zbd_s, show 66 + 10 = 76 from rfl, k2]
        by_cases w : 0 ≤ μ 76 (40 * s + i) ∧ μ 76 (40 * s + i) ≤ 99
        · obtain ⟨v, hv, hve⟩ := zrng (n := 99) rfl w
          obtain ⟨r, μ1', μ2', z1, z2, z3, z4, z5, z6, z7⟩ := ih (i + 1) q (by omega) (by omega) (zst μ1 2 i (μ 76 (40 * s + i))) (zst μ2 67 (4 + i) (μ 76 (40 * s + i))) (fun b => by rw [zst_row_ne (by omega)]; exact k1 b) (fun b => by rw [zst_row_ne (by omega)]; exact k2 b) (by rw [zst_row_ne (by omega)]; exact k3)
          refine ⟨r, μ1', μ2', z1, by omega, (g5.trans (zif_t w)).trans z3, (g6.trans (zif_t w)).trans z4, fun a b => ?_, fun a b => ?_, fun b b1 b2 => ?_⟩
          · rw [z5, zst_at]
            by_cases w1 : a = 2 ∧ b = i
            · obtain ⟨rfl, rfl⟩ := w1
              rw [if_neg (by omega), if_pos ⟨rfl, rfl⟩, if_pos (by omega)]
            · rw [if_neg w1]
              repeat' split
              all_goals first | rfl | (exfalso; omega)
          · rw [z6, zst_at]
            by_cases w1 : a = 67 ∧ b = 4 + i
            · obtain ⟨rfl, rfl⟩ := w1
              rw [if_neg (by omega), if_pos ⟨rfl, rfl⟩, if_pos (by omega), show 4 + i - 4 = i by omega]
            · rw [if_neg w1]
              repeat' split
              all_goals first | rfl | (exfalso; omega)
          · by_cases w2 : b = i
            · subst w2; exact ⟨v, hv, hve⟩
            · exact z7 b (by omega) b2
        · exact ⟨i, μ1, μ2, by omega, by omega, g5.trans (zif_f w), g6.trans (zif_f w), fun a b => by rw [if_neg (by omega)], fun a b => by rw [if_neg (by omega)], fun b _ _ => by omega⟩
    obtain ⟨r, μ1, -, hr, -, z3, -, z5, -, z7⟩ := key M 0 200 (by omega) (by omega) μ μ (fun _ => rfl) (fun _ => rfl) rfl
    have o1 : ∀ a, a ≠ 2 → μ1 a = μ a := fun a ha => funext fun b => by rw [z5, if_neg (by omega)]
    obtain ⟨r', μ1', μ2, hr', -, u3, u4, u5, u6, u7⟩ := key M 0 200 (by omega) (by omega) μ μ1 (fun _ => rfl) (fun b => by rw [o1 76 (by omega)]) (o1 75 (by omega))
    obtain ⟨rfl, rfl⟩ : r' = r ∧ μ1' = μ1 := by
      have := u3.symm.trans z3
      simp only [Option.some.injEq, Prod.mk.injEq] at this
      exact ⟨(nI_eq (by omega) (by omega)).1 this.1, this.2⟩
    have o2 : ∀ a, a ≠ 67 → μ2 a = μ1' a := fun a ha => funext fun b => by rw [u6, if_neg (by omega)]
    refine zE_of (r := nI r') (μ1 := μ1') (μ2 := μ2) ?_ ?_ (hI.camp ?_ ⟨n, ?_, ⟨⟨?_, ?_, ?_⟩, ?_, ?_, ?_⟩, ?_⟩)
    · unfold fX5_load
      rw [l5, zbd_s, if_pos rfl, zgd_ib hs (by decide), zcl (by omega), zadr, y3, hMe]
      exact z3
    · unfold fX6_load
      rw [l6 μ1' (o1 74 (by omega)), zbd_s, if_pos (by decide)]
      exact u4
    · intro k _ _ w1 w2
      rw [o2 k w2, o1 k (by omega)]
    · refine zVal_hs hc.1 (fun b _ w => ?_) (fun i hi => ?_)
      · rw [u6, if_neg (by omega), o1 67 (by omega)]
      · by_cases w : i < r'
        · obtain ⟨v, hv, hve⟩ := z7 i (by omega) w
          exact Or.inr ⟨v, hv, by rw [u6, if_pos (by omega), show 4 + i - 4 = i by omega]; exact hve⟩
        · exact Or.inl (by rw [u6, if_neg (by omega), o1 67 (by omega)])
    · rw [o2 1 (by omega), o1 1 (by omega), u6, if_neg (by omega), o1 67 (by omega)]; exact hc.2.1.1.1
    · rw [o2 1 (by omega), o1 1 (by omega), u6, if_neg (by omega), o1 67 (by omega)]; exact hc.2.1.1.2.1
    · rw [o2 1 (by omega), o1 1 (by omega), u6, if_neg (by omega), o1 67 (by omega)]; exact hc.2.1.1.2.2
    · intro i hi
      rw [o2 _ (by omega), u6, z5, o1 67 (by omega)]
      by_cases w : i < r'
      · rw [if_pos (by omega), if_pos (by omega), show 4 + i - 4 = i by omega]
      · rw [if_neg (by omega), if_neg (by omega)]; exact hc.2.1.2.1 i hi
    · intro i hi
      rw [o2 _ (by omega), o1 _ (by omega), u6, if_neg (by omega), o1 67 (by omega)]
      exact hc.2.1.2.2.1 i hi
    · intro t ht
      have := hc.2.1.2.2.2 t ht
      have hn := hc.1.1
      rw [o2 _ (by omega), o1 _ (by omega), o2 (1 + 5 + 2 * t) (by omega), o1 (1 + 5 + 2 * t) (by omega), u6, if_neg (by omega), u6, if_neg (by omega), u6, if_neg (by omega), o1 67 (by omega)]
      refine ⟨this.1, fun j hj => ?_⟩
      rw [u6, if_neg (by omega), o1 67 (by omega)]
      exact this.2 j hj
    · rw [o2 1 (by omega), o1 1 (by omega), u6, if_neg (by omega), o1 67 (by omega)]; exact hc.2.2
