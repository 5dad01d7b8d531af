/-! fits, kinds -/
def ztell (N F : Nat → Int32) (M : Nat) : Nat → Nat → Bool
  | 0, _ => true
  | m + 1, i => if M ≤ i then true else (decide (N i = -1) || decide (N i = F i)) && ztell N F M m (i + 1)
theorem ztell_congr {N F N' F' : Nat → Int32} {M : Nat} : ∀ m j, (∀ i, j ≤ i → i < j + m → N i = N' i ∧ F i = F' i) → ztell N F M m j = ztell N' F' M m j := by
  intro m
  induction m with
  | zero => intro j _; rfl
  | succ m ih =>
    intro j h
    rw [ztell, ztell, (h j (by omega) (by omega)).1, (h j (by omega) (by omega)).2, ih (j + 1) (fun i q1 q2 => h i (by omega) (by omega))]
theorem c2_tells {s t M : Nat} (ht : t < 6) (hM : M ≤ 40) {μ : zMem} (h : μ (58 + 2 * s) 1 = nI M) : fX2_tells (58 + 2 * s) (38 + 2 * t) μ = some (zb (ztell (μ (59 + 2 * s)) (μ (38 + 2 * t)) M 4 0 = true), μ) := by
  have hz : zln (38 + 2 * t) = 4 := (by decide +kernel : ∀ t, t < 6 → zln (38 + 2 * t) = 4) t ht
  have key : ∀ m j q, j + m = 4 → m < q → fX2_tells_2 q (58 + 2 * s) (38 + 2 * t) (nI j) μ = some (zb (ztell (μ (59 + 2 * s)) (μ (38 + 2 * t)) M m j = true), μ) := by
    intro m
    induction m with
    | zero =>
      intro j q hj hq
      obtain ⟨q, rfl⟩ : ∃ z, q = z + 1 := ⟨q - 1, by omega⟩
      rw [fX2_tells_2, show (4 : Int32) = nI 4 from rfl, zle_t (by omega) (by omega)]; rfl
    | succ m ih =>
      intro j q hj hq
      obtain ⟨q, rfl⟩ : ∃ z, q = z + 1 := ⟨q - 1, by omega⟩
      rw [fX2_tells_2, show (4 : Int32) = nI 4 from rfl, zle_f (by omega) (by omega), h, hz, ztell]
      by_cases w : M ≤ j
      · rw [zle_t w (by omega), if_pos w]; rfl
      · rw [zle_f (by omega) (by omega), if_neg w]
        simp only [zgd_ib (show j < 40 by omega) (show 40 < 2 ^ 31 by decide), zgd_ib (show j < 4 by omega) (show 4 < 2 ^ 31 by decide), zcl (show j < 2 ^ 31 by omega), n1]
        rw [show 58 + 2 * s + 1 = 59 + 2 * s by omega]
        by_cases w1 : μ (59 + 2 * s) j = -1
        · rw [if_pos w1, decide_eq_true w1, Bool.true_or, Bool.true_and]; exact ih (j + 1) q (by omega) (by omega)
        · rw [if_neg w1, decide_eq_false w1, Bool.false_or]
          by_cases w2 : μ (59 + 2 * s) j = μ (38 + 2 * t) j
          · rw [if_pos w2, decide_eq_true w2, Bool.true_and]; exact ih (j + 1) q (by omega) (by omega)
          · rw [if_neg w2, decide_eq_false w2, Bool.false_and]; rfl
  exact key 4 0 200 (by omega) (by omega)
theorem c6_isSo {s t M : Nat} (hs : s < 4) (ht : t < 6) (hM : M ≤ 40) {μ : zMem} (h : μ 75 s = nI M) : fX6_isSo 66 (nI s) (nI t) μ = some (zb (ztell (fun i => μ 76 (40 * s + i)) (fun i => μ 67 (29 + 8 * t + 4 + i)) M 4 0 = true), μ) := by
  have k0 : ∀ m j q, j + m = 4 → m < q → fX6_isSo_5 q 66 (nI s) (nI t) 0 (nI j) μ = some (0, μ) := by
    intro m
    induction m with
    | zero =>
      intro j q hj hq
      obtain ⟨q, rfl⟩ : ∃ z, q = z + 1 := ⟨q - 1, by omega⟩
      rw [fX6_isSo_5, show (4 : Int32) = nI 4 from rfl, zle_t (by omega) (by omega), zgd_t (Or.inl rfl)]
    | succ m ih =>
      intro j q hj hq
      obtain ⟨q, rfl⟩ : ∃ z, q = z + 1 := ⟨q - 1, by omega⟩
      rw [fX6_isSo_5, show (4 : Int32) = nI 4 from rfl, zle_f (by omega) (by omega), zgd_ib hs (by decide), zcl (by omega), show 66 + 9 = 75 from rfl, h]
      by_cases w : M ≤ j
      · rw [zle_t w (by omega), zgd_t (Or.inl rfl)]
      · rw [zle_f (by omega) (by omega), show (40 : Int32) = nI 40 from rfl, pk_mul, nI_add, zgd_ib (by omega) (by decide), if_pos rfl, n1]
        exact ih (j + 1) q (by omega) (by omega)
  have key : ∀ m j q, j + m = 4 → m < q → fX6_isSo_5 q 66 (nI s) (nI t) 1 (nI j) μ = some (zb (ztell (fun i => μ 76 (40 * s + i)) (fun i => μ 67 (29 + 8 * t + 4 + i)) M m j = true), μ) := by
    intro m
    induction m with
    | zero =>
      intro j q hj hq
      obtain ⟨q, rfl⟩ : ∃ z, q = z + 1 := ⟨q - 1, by omega⟩
      rw [fX6_isSo_5, show (4 : Int32) = nI 4 from rfl, zle_t (by omega) (by omega), zgd_t (Or.inr rfl)]; rfl
    | succ m ih =>
      intro j q hj hq
      obtain ⟨q, rfl⟩ : ∃ z, q = z + 1 := ⟨q - 1, by omega⟩
      rw [fX6_isSo_5, show (4 : Int32) = nI 4 from rfl, zle_f (by omega) (by omega), zgd_ib hs (by decide), zcl (by omega), show 66 + 9 = 75 from rfl, h, ztell]
      by_cases w : M ≤ j
      · rw [zle_t w (by omega), zgd_t (Or.inr rfl), if_pos w]; rfl
      · rw [zle_f (by omega) (by omega), if_neg w, show (40 : Int32) = nI 40 from rfl, pk_mul, nI_add, zgd_ib (by omega) (by decide), if_neg (by decide), zcl (by omega), show 66 + 10 = 76 from rfl, n1, nI_add, c6_its (by omega), zbd_s, show 29 + 8 * t + (4 + j) = 29 + 8 * t + 4 + j by omega]
        by_cases w1 : μ 76 (40 * s + j) = -1
        · rw [if_pos w1, decide_eq_true w1, Bool.true_or, Bool.true_and]; exact ih (j + 1) q (by omega) (by omega)
        · rw [if_neg w1, decide_eq_false w1, Bool.false_or]
          by_cases w2 : μ 76 (40 * s + j) = μ 67 (29 + 8 * t + 4 + j)
          · rw [if_pos w2, decide_eq_true w2, Bool.true_and]; exact ih (j + 1) q (by omega) (by omega)
          · rw [if_neg w2, decide_eq_false w2, Bool.false_and]; exact (k0 m (j + 1) q (by omega) (by omega))
  exact key 4 0 200 (by omega) (by omega)
/-- one pitch tried -/
theorem zfit1 {n s t p M : Nat} (hs4 : s < 4) (ht : t < n) (hp : p < 16) (hM : M ≤ 40) {μ1 μ2 : zMem} (hv : zVal n (μ2 67)) (hs : zSim n 1 μ1 (μ2 67)) (h1 : μ1 (58 + 2 * s) 1 = nI M) (h2 : μ2 75 s = nI M) (h3 : ∀ i, i < 40 → μ1 (59 + 2 * s) i = μ2 76 (40 * s + i)) : ∃ b β1 x1 α2 x2 γ, fX5_supposeAlone 0 (nI t) (nI p) μ1 = some ((), β1) ∧ fX0_passDay 33 β1 = some ((), x1) ∧ fX2_tells (58 + 2 * s) (38 + 2 * t) x1 = some (zb (b = true), x1) ∧ fX6_lends 66 μ2 = some ((), α2) ∧ fX6_alone 66 (nI t) (nI p) α2 = some ((), x2) ∧ fX6_isSo 66 (nI s) (nI t) x2 = some (zb (b = true), x2) ∧ fX6_laysBack 66 x2 = some ((), γ) ∧ (∀ k, ¬ zscr k → k < 78 → x1 k = μ1 k) ∧ (∀ k, ¬ zscr k → k < 78 → γ k = μ2 k) := by
  have hn := hv.1
  obtain ⟨α1, α2, b1, b2, b3, b4, b5, b6, b7, b8⟩ := zlend3 hv hs
  obtain ⟨β1, c1, c2, c3⟩ := c0_alone (p := p) hn ht b4 b3.out.2.1
  obtain ⟨x1, x2, d1, d2, d3, -⟩ := zalday ht hp b3 c3
  have m1 : ztu n α1 α2 x1 x2 := ⟨fun k q1 q2 => by rw [d3.1 k q1 q2, c2 k (by omega)], d3.2.1, d3.2.2.1, d3.2.2.2.1, d3.2.2.2.2⟩
  obtain ⟨γ, g1, g2, g3⟩ := b8 x1 x2 m1
  have a1 : ∀ k, ¬ (33 ≤ k ∧ k ≤ 48) → k ≠ 57 → x1 k = μ1 k := fun k q1 q2 => by rw [m1.1 k q1 q2, b6 k q1]
  have a2 : ∀ k, k ≠ 67 → k ≠ 72 → k ≠ 69 → x2 k = μ2 k := fun k q1 q2 q3 => by rw [m1.2.1 k q1 q2, b7 k q3]
  refine ⟨ztell (x1 (59 + 2 * s)) (x1 (38 + 2 * t)) M 4 0, β1, x1, α2, x2, γ, ?_, d1, ?_, b2, d2, ?_, g1, g2, g3⟩
  · unfold fX5_supposeAlone
    show zbd (fX0_becomeLike 33 1 μ1) _ = _
    rw [b1, zbd_s]
    show zbd (fX0_pitchAlone 33 (nI t) (nI p) α1) _ = _
    rw [c1, zbd_s]
  · exact c2_tells (by omega) hM (by rw [a1 _ (by omega) (by omega)]; exact h1)
  · have e : ztell (x1 (59 + 2 * s)) (x1 (38 + 2 * t)) M 4 0 = ztell (fun i => x2 76 (40 * s + i)) (fun i => x2 67 (29 + 8 * t + 4 + i)) M 4 0 := by
      refine ztell_congr 4 0 (fun i _ hi => ⟨?_, ?_⟩)
      · rw [a1 _ (by omega) (by omega), a2 76 (by omega) (by omega) (by omega), h3 i (by omega)]
      · rw [show 38 + 2 * t = 33 + 5 + 2 * t by omega, (m1.2.2.2.1.2.2.2 t ht).2 i (by omega)]
    rw [e]
    exact c6_isSo hs4 (by omega) hM (by rw [a2 75 (by omega) (by omega) (by omega)]; exact h2)
/-- one kind tried -/
theorem zkind1 {n s t p M : Nat} (hs4 : s < 4) (ht : t < n) (hp : p < 7) (hM : M ≤ 40) {μ1 μ2 : zMem} (hv : zVal n (μ2 67)) (hs : zSim n 1 μ1 (μ2 67)) (h1 : μ1 (58 + 2 * s) 1 = nI M) (h2 : μ2 75 s = nI M) (h3 : ∀ i, i < 40 → μ1 (59 + 2 * s) i = μ2 76 (40 * s + i)) : ∃ b α1 x1 α2 x2 γ, fX0_becomeLike 33 1 μ1 = some ((), α1) ∧ fX0_passDay 33 (zst α1 (37 + 2 * t) 0 (nI p)) = some ((), x1) ∧ fX2_tells (58 + 2 * s) (38 + 2 * t) x1 = some (zb (b = true), x1) ∧ fX6_lends 66 μ2 = some ((), α2) ∧ fX6_aDay 66 (zst α2 67 (29 + 8 * t) (nI p)) = some ((), x2) ∧ fX6_isSo 66 (nI s) (nI t) x2 = some (zb (b = true), x2) ∧ fX6_laysBack 66 x2 = some ((), γ) ∧ (∀ k, ¬ zscr k → k < 78 → x1 k = μ1 k) ∧ (∀ k, ¬ zscr k → k < 78 → γ k = μ2 k) := by
  have hn := hv.1
  obtain ⟨α1, α2, b1, b2, b3, b4, b5, b6, b7, b8⟩ := zlend3 hv hs
  have v1 : zVl n (zst α2 67 (29 + 8 * t) (nI p) 67) := by
    rw [zst_r]; exact zVl_put b3 (Or.inr (Or.inr (Or.inr ⟨t, ht, Or.inl ⟨rfl, p, hp, rfl⟩⟩)))
  have s1 : zSim n 33 (zst α1 (37 + 2 * t) 0 (nI p)) (zst α2 67 (29 + 8 * t) (nI p) 67) := by
    rw [zst_r]
    have e : zloc 33 (29 + 8 * t) = (37 + 2 * t, 0) := by
      have := zloc_t (c := 33) (t := t) (w := 0) (by omega) (by omega)
      exact this
    exact zSim_put hn b4 (by omega) (by omega) _ _ e
  obtain ⟨x1, x2, d1, d2, d3, -, -⟩ := zday v1 s1
  have m1 : ztu n α1 α2 x1 x2 := ⟨fun k q1 q2 => by rw [d3.1 k (by omega), zst_row_ne (by omega)], fun k q1 q2 => by rw [d3.2.1 k q1, zst_row_ne q1], d3.2.2.1, d3.2.2.2.1, fun j hj => by rw [d3.2.2.2.2 j (by omega), zst_ne (by omega)]⟩
  obtain ⟨γ, g1, g2, g3⟩ := b8 x1 x2 m1
  have a1 : ∀ k, ¬ (33 ≤ k ∧ k ≤ 48) → k ≠ 57 → x1 k = μ1 k := fun k q1 q2 => by rw [m1.1 k q1 q2, b6 k q1]
  have a2 : ∀ k, k ≠ 67 → k ≠ 72 → k ≠ 69 → x2 k = μ2 k := fun k q1 q2 q3 => by rw [m1.2.1 k q1 q2, b7 k q3]
  refine ⟨ztell (x1 (59 + 2 * s)) (x1 (38 + 2 * t)) M 4 0, α1, x1, α2, x2, γ, b1, d1, ?_, b2, d2, ?_, g1, g2, g3⟩
  · exact c2_tells (by omega) hM (by rw [a1 _ (by omega) (by omega)]; exact h1)
  · have e : ztell (x1 (59 + 2 * s)) (x1 (38 + 2 * t)) M 4 0 = ztell (fun i => x2 76 (40 * s + i)) (fun i => x2 67 (29 + 8 * t + 4 + i)) M 4 0 := by
      refine ztell_congr 4 0 (fun i _ hi => ⟨?_, ?_⟩)
      · rw [a1 _ (by omega) (by omega), a2 76 (by omega) (by omega) (by omega), h3 i (by omega)]
      · rw [show 38 + 2 * t = 33 + 5 + 2 * t by omega, (m1.2.2.2.1.2.2.2 t ht).2 i (by omega)]
    rw [e]
    exact c6_isSo hs4 (by omega) hM (by rw [a2 75 (by omega) (by omega) (by omega)]; exact h2)
theorem e24 : zE24 zInv := by
  intro a1 a2 μ hI
  obtain ⟨⟨n, hc⟩, -, -, -, hsh⟩ := id hI
  have hn := hc.1.1
  have s1 : μ 1 3 = nI n := hc.size.2.2
  refine ztry hI (fun μ2 h2 => ?_)
  have e67 : μ2 67 = μ 67 := h2 67 (by unfold zscr; omega) (by omega) (by omega)
  have e74 : μ2 74 = μ 74 := h2 74 (by unfold zscr; omega) (by omega) (by omega)
  have e75 : μ2 75 = μ 75 := h2 75 (by unfold zscr; omega) (by omega) (by omega)
  have e76 : μ2 76 = μ 76 := h2 76 (by unfold zscr; omega) (by omega) (by omega)
  have s6 : μ2 67 2 = nI n := by rw [e67]; exact hc.1.2.1
  rcases zlack hI a1 with ⟨k, hk, l5, l6⟩ | ⟨s, hs, rfl, l5, l6⟩
  · refine ⟨μ, μ2, fun _ _ _ => rfl, fun _ _ _ => rfl, Or.inr ⟨k, hk, ?_, ?_⟩⟩
    · unfold fX5_fits; rw [l5, zbd_s, if_neg (zk1 hk), zbd_eta]
    · unfold fX6_fits fX6_lacksTent; rw [l6 μ2 e74, zbd_s, if_neg (zk2 hk), zbd_s, if_neg (zk2 hk), zbd_eta]
  · by_cases h1 : 0 ≤ a2 ∧ a2 ≤ nI n - 1
    · obtain ⟨t, ht, rfl⟩ := (ztent hn).1 h1
      obtain ⟨-, ⟨M, hM, y3, y4⟩, y5⟩ := hsh s hs
      have key : ∀ m i q acc, i + m = 16 → m < q → ∀ ν1 ν2 : zMem, (∀ k, ¬ zscr k → k < 78 → ν1 k = μ k) → (∀ k, ¬ zscr k → k < 78 → ν2 k = μ2 k) → ∃ r ν1' ν2', fX5_fits_37 q 0 (nI s) (nI t) acc (nI i) ν1 = some (r, ν1') ∧ fX6_fits_23 q 66 (nI s) (nI t) acc (nI i) ν2 = some (r, ν2') ∧ (∀ k, ¬ zscr k → k < 78 → ν1' k = μ k) ∧ (∀ k, ¬ zscr k → k < 78 → ν2' k = μ2 k) := by
        intro m
        induction m with
        | zero =>
          intro i q acc hi hq ν1 ν2 f1 f2
          obtain ⟨q, rfl⟩ : ∃ z, q = z + 1 := ⟨q - 1, by omega⟩
          refine ⟨acc, ν1, ν2, ?_, ?_, f1, f2⟩
          · rw [fX5_fits_37, show (16 : Int32) = nI 16 from rfl, zle_t (by omega) (by omega)]
          · rw [fX6_fits_23, show (16 : Int32) = nI 16 from rfl, zle_t (by omega) (by omega)]
        | succ m ih =>
          intro i q acc hi hq ν1 ν2 f1 f2
          obtain ⟨q, rfl⟩ : ∃ z, q = z + 1 := ⟨q - 1, by omega⟩
          have g67 : ν2 67 = μ 67 := by rw [f2 67 (by unfold zscr; omega) (by omega), e67]
          obtain ⟨b, β1, x1, α2, x2, γ, b1, b2, b3, b4, b5, b6, b7, b8, b9⟩ := zfit1 (p := i) (M := M) (μ1 := ν1) (μ2 := ν2) hs ht (by omega) hM (by rw [g67]; exact hc.1) (by rw [g67]; exact hc.2.1.congr hn (fun k q1 q2 => f1 k (by unfold zscr; omega) (by omega))) (by rw [f1 _ (by unfold zscr; omega) (by omega)]; exact y3) (by rw [f2 75 (by unfold zscr; omega) (by omega), e75]; exact y4) (fun j hj => by rw [f1 _ (by unfold zscr; omega) (by omega), f2 76 (by unfold zscr; omega) (by omega), e76]; exact y5 j hj)
          have nxt := fun acc => ih (i + 1) q acc (by omega) (by omega) x1 γ (fun k q1 q2 => by rw [b8 k q1 q2, f1 k q1 q2]) (fun k q1 q2 => by rw [b9 k q1 q2, f2 k q1 q2])
          have g5 : fX5_fits_37 (q + 1) 0 (nI s) (nI t) acc (nI i) ν1 = if zb (b = true) = 0 then fX5_fits_37 q 0 (nI s) (nI t) acc (nI (i + 1)) x1 else fX5_fits_37 q 0 (nI s) (nI t) (acc ||| ((1 : Int32) <<< (nI i &&& 31))) (nI (i + 1)) x1 := by
            rw [fX5_fits_37, show (16 : Int32) = nI 16 from rfl, zle_f (by omega) (by omega), b1, zbd_s]
            show zbd (fX0_passDay 33 β1) _ = _
            rw [b2, zbd_s, zgd_ib hs (by decide), zgd_ib (by omega) (by decide), zcl (by omega), zcl (by omega), zadr, show 0 + 33 + 3 + 1 + 2 * t + 1 = 38 + 2 * t by omega, b3, zbd_s, n1]
          have g6 : fX6_fits_23 (q + 1) 66 (nI s) (nI t) acc (nI i) ν2 = if zb (b = true) = 0 then fX6_fits_23 q 66 (nI s) (nI t) acc (nI (i + 1)) γ else fX6_fits_23 q 66 (nI s) (nI t) (acc ||| ((1 : Int32) <<< (nI i &&& 31))) (nI (i + 1)) γ := by
            rw [fX6_fits_23, show (16 : Int32) = nI 16 from rfl, zle_f (by omega) (by omega), b4, zbd_s, b5, zbd_s, b6, zbd_s]
            unfold fX6_fits_60
            rw [b7, zbd_s, zbd_s, n1, Int32.or_zero]
          by_cases w : b = true
          · rw [g5, g6, zif_t w, zif_t w]; exact nxt _
          · rw [g5, g6, zif_f w, zif_f w]; exact nxt _
      obtain ⟨r, ν1', ν2', d1, d2, d3, d4⟩ := key 16 0 200 0 (by omega) (by omega) μ μ2 (fun _ _ _ => rfl) (fun _ _ _ => rfl)
      refine ⟨ν1', ν2', d3, d4, Or.inl ⟨r, ?_, ?_⟩⟩
      · unfold fX5_fits; rw [l5, zbd_s, if_pos rfl, c5_isT s1, zbd_s, zif_t h1]; exact d1
      · unfold fX6_fits fX6_lacksTent; rw [l6 μ2 e74, zbd_s, if_pos (by decide), c6_isT s6, zbd_s, zif_t h1, zbd_s, if_pos (by decide)]; exact d2
    · refine ⟨μ, μ2, fun _ _ _ => rfl, fun _ _ _ => rfl, Or.inr ⟨0, by omega, ?_, ?_⟩⟩
      · unfold fX5_fits; rw [l5, zbd_s, if_pos rfl, c5_isT s1, zbd_s, zif_f h1, zbd_eta]; rfl
      · unfold fX6_fits fX6_lacksTent; rw [l6 μ2 e74, zbd_s, if_pos (by decide), c6_isT s6, zbd_s, zif_f h1, zbd_s, if_neg (by decide), zbd_eta]; rfl
theorem e25 : zE25 zInv := by
  intro a1 a2 μ hI
  obtain ⟨⟨n, hc⟩, -, -, -, hsh⟩ := id hI
  have hn := hc.1.1
  have s1 : μ 1 3 = nI n := hc.size.2.2
  refine ztry hI (fun μ2 h2 => ?_)
  have e67 : μ2 67 = μ 67 := h2 67 (by unfold zscr; omega) (by omega) (by omega)
  have e74 : μ2 74 = μ 74 := h2 74 (by unfold zscr; omega) (by omega) (by omega)
  have e75 : μ2 75 = μ 75 := h2 75 (by unfold zscr; omega) (by omega) (by omega)
  have e76 : μ2 76 = μ 76 := h2 76 (by unfold zscr; omega) (by omega) (by omega)
  have s6 : μ2 67 2 = nI n := by rw [e67]; exact hc.1.2.1
  rcases zlack hI a1 with ⟨k, hk, l5, l6⟩ | ⟨s, hs, rfl, l5, l6⟩
  · refine ⟨μ, μ2, fun _ _ _ => rfl, fun _ _ _ => rfl, Or.inr ⟨k, hk, ?_, ?_⟩⟩
    · unfold fX5_kinds; rw [l5, zbd_s, if_neg (zk1 hk), zbd_eta]
    · unfold fX6_kinds fX6_lacksTent; rw [l6 μ2 e74, zbd_s, if_neg (zk2 hk), zbd_s, if_neg (zk2 hk), zbd_eta]
  · by_cases h1 : 0 ≤ a2 ∧ a2 ≤ nI n - 1
    · obtain ⟨t, ht, rfl⟩ := (ztent hn).1 h1
      obtain ⟨-, ⟨M, hM, y3, y4⟩, y5⟩ := hsh s hs
      have key : ∀ m i q acc, i + m = 7 → m < q → ∀ ν1 ν2 : zMem, (∀ k, ¬ zscr k → k < 78 → ν1 k = μ k) → (∀ k, ¬ zscr k → k < 78 → ν2 k = μ2 k) → ∃ r ν1' ν2', fX5_kinds_37 q 0 (nI s) (nI t) acc (nI i) ν1 = some (r, ν1') ∧ fX6_kinds_23 q 66 (nI s) (nI t) acc (nI i) ν2 = some (r, ν2') ∧ (∀ k, ¬ zscr k → k < 78 → ν1' k = μ k) ∧ (∀ k, ¬ zscr k → k < 78 → ν2' k = μ2 k) := by
        intro m
        induction m with
        | zero =>
          intro i q acc hi hq ν1 ν2 f1 f2
          obtain ⟨q, rfl⟩ : ∃ z, q = z + 1 := ⟨q - 1, by omega⟩
          refine ⟨acc, ν1, ν2, ?_, ?_, f1, f2⟩
          · rw [fX5_kinds_37, show (7 : Int32) = nI 7 from rfl, zle_t (by omega) (by omega)]
          · rw [fX6_kinds_23, show (6 : Int32) = nI 6 from rfl, zlt_t (by omega) (by omega)]
        | succ m ih =>
          intro i q acc hi hq ν1 ν2 f1 f2
          obtain ⟨q, rfl⟩ : ∃ z, q = z + 1 := ⟨q - 1, by omega⟩
          have g67 : ν2 67 = μ 67 := by rw [f2 67 (by unfold zscr; omega) (by omega), e67]
          obtain ⟨b, β1, x1, α2, x2, γ, b1, b2, b3, b4, b5, b6, b7, b8, b9⟩ := zkind1 (p := i) (M := M) (μ1 := ν1) (μ2 := ν2) hs ht (by omega) hM (by rw [g67]; exact hc.1) (by rw [g67]; exact hc.2.1.congr hn (fun k q1 q2 => f1 k (by unfold zscr; omega) (by omega))) (by rw [f1 _ (by unfold zscr; omega) (by omega)]; exact y3) (by rw [f2 75 (by unfold zscr; omega) (by omega), e75]; exact y4) (fun j hj => by rw [f1 _ (by unfold zscr; omega) (by omega), f2 76 (by unfold zscr; omega) (by omega), e76]; exact y5 j hj)
          have nxt := fun acc => ih (i + 1) q acc (by omega) (by omega) x1 γ (fun k q1 q2 => by rw [b8 k q1 q2, f1 k q1 q2]) (fun k q1 q2 => by rw [b9 k q1 q2, f2 k q1 q2])
          have g5 : fX5_kinds_37 (q + 1) 0 (nI s) (nI t) acc (nI i) ν1 = if zb (b = true) = 0 then fX5_kinds_37 q 0 (nI s) (nI t) acc (nI (i + 1)) x1 else fX5_kinds_37 q 0 (nI s) (nI t) (acc ||| ((1 : Int32) <<< (nI i &&& 31))) (nI (i + 1)) x1 := by
            rw [fX5_kinds_37, show (7 : Int32) = nI 7 from rfl, zle_f (by omega) (by omega)]
            simp only [zgd_ib hs (show 4 < 2 ^ 31 by decide), zgd_ib (show t < 6 by omega) (show 6 < 2 ^ 31 by decide), zcl (show t < 2 ^ 31 by omega), zcl (show s < 2 ^ 31 by omega), n1]
            show zbd (fX0_becomeLike 33 1 ν1) _ = _
            rw [b1, zbd_s, show 0 + 33 + 3 + 1 + 2 * t + 1 = 38 + 2 * t by omega, show 0 + 33 + 3 + 1 + 2 * t = 37 + 2 * t by omega]
            show zbd (fX0_passDay 33 (zst β1 (37 + 2 * t) 0 (nI i))) _ = _
            rw [b2, zbd_s, zadr, b3, zbd_s]
          have g6 : fX6_kinds_23 (q + 1) 66 (nI s) (nI t) acc (nI i) ν2 = if zb (b = true) = 0 then fX6_kinds_23 q 66 (nI s) (nI t) acc (nI (i + 1)) γ else fX6_kinds_23 q 66 (nI s) (nI t) (acc ||| ((1 : Int32) <<< (nI i &&& 31))) (nI (i + 1)) γ := by
            have st : fX6_sets 66 (nI t) (0 : Int32) (nI i) α2 = some ((), zst α2 67 (29 + 8 * t) (nI i)) := c6_sets (w := 0) (by omega) (nI i) α2
            rw [fX6_kinds_23, show (6 : Int32) = nI 6 from rfl, zlt_f (by omega) (by omega), b4, zbd_s, st, zbd_s, b5, zbd_s, b6, zbd_s]
            unfold fX6_kinds_65
            rw [b7, zbd_s, zbd_s, n1, Int32.or_zero]
          by_cases w : b = true
          · rw [g5, g6, zif_t w, zif_t w]; exact nxt _
          · rw [g5, g6, zif_f w, zif_f w]; exact nxt _
      obtain ⟨r, ν1', ν2', d1, d2, d3, d4⟩ := key 7 0 200 0 (by omega) (by omega) μ μ2 (fun _ _ _ => rfl) (fun _ _ _ => rfl)
      refine ⟨ν1', ν2', d3, d4, Or.inl ⟨r, ?_, ?_⟩⟩
      · unfold fX5_kinds; rw [l5, zbd_s, if_pos rfl, c5_isT s1, zbd_s, zif_t h1]; exact d1
      · unfold fX6_kinds fX6_lacksTent; rw [l6 μ2 e74, zbd_s, if_pos (by decide), c6_isT s6, zbd_s, zif_t h1, zbd_s, if_pos (by decide)]; exact d2
    · refine ⟨μ, μ2, fun _ _ _ => rfl, fun _ _ _ => rfl, Or.inr ⟨0, by omega, ?_, ?_⟩⟩
      · unfold fX5_kinds; rw [l5, zbd_s, if_pos rfl, c5_isT s1, zbd_s, zif_f h1, zbd_eta]; rfl
      · unfold fX6_kinds fX6_lacksTent; rw [l6 μ2 e74, zbd_s, if_pos (by decide), c6_isT s6, zbd_s, zif_f h1, zbd_s, if_neg (by decide), zbd_eta]; rfl
