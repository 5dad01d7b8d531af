/-! felt, unlike, home -/
/-- both try something out: both answer, or both find the same -/
theorem ztry {o1 : Option (Int32 × zMem)} {f6 : zMem → Option (Int32 × zMem)} {μ : zMem} (hI : zInv μ) (h : ∀ μ2 : zMem, (∀ j, ¬ zscr j → j < 78 → j ≠ 56 → μ2 j = μ j) → ∃ μ1' μ2', (∀ j, ¬ zscr j → j < 78 → μ1' j = μ j) ∧ (∀ j, ¬ zscr j → j < 78 → μ2' j = μ2 j) ∧ ((∃ r, o1 = some (r, μ1') ∧ f6 μ2 = some (r, μ2')) ∨ ∃ k, k < 7 ∧ o1 = fX5_finding 0 (nI k) μ1' ∧ f6 μ2 = fX6_finds 66 (nI k) μ2')) : zok o1 (fun r μ1 => zok (f6 μ1) (fun r' μ2 => r = r' ∧ zInv μ2)) := by
  have n56 : ¬ zscr 56 := by unfold zscr; omega
  have bad : ∀ (r : Int32) (ν1 ν2 : zMem) (k : Nat), k < 7 → (∀ j, ¬ zscr j → j < 78 → ν1 j = μ j) → (∀ j, ¬ zscr j → j < 78 → ν2 j = μ j) → o1 = some (r, ν1) → o1 = fX5_finding 0 (nI k) ν2 → False := by
    intro r ν1 ν2 k hk f1 f2 q1 q2
    rw [c5_find k hk ν2] at q2
    have := q1.symm.trans q2
    simp only [Option.some.injEq, Prod.mk.injEq] at this
    have e : ν1 56 k = μ 56 k + 1 := by rw [this.2, zst_eq, f2 56 n56 (by omega)]
    rw [f1 56 n56 (by omega)] at e
    have e2 : (μ 56 k).toBitVec = (μ 56 k).toBitVec + 1#32 := congrArg Int32.toBitVec e
    have e3 : (μ 56 k).toBitVec - (μ 56 k).toBitVec = 1#32 := by
      conv => lhs; lhs; rw [e2]
      rw [BitVec.add_comm, BitVec.add_sub_cancel]
    rw [BitVec.sub_self] at e3
    exact absurd e3 (by decide)
  obtain ⟨μ1, μ20, a1, _, a3⟩ := h μ (fun _ _ _ _ => rfl)
  rcases a3 with ⟨r, b1, -⟩ | ⟨k, hk, b1, -⟩
  · obtain ⟨μ1', μ2', c1, c2, c3⟩ := h μ1 (fun j q1 q2 _ => a1 j q1 q2)
    rcases c3 with ⟨r', d1, d2⟩ | ⟨k, hk, d1, -⟩
    · obtain ⟨rfl, rfl⟩ : r' = r ∧ μ1' = μ1 := by
        have := d1.symm.trans b1
        simp only [Option.some.injEq, Prod.mk.injEq] at this
        exact this
      exact zE_of b1 d2 (hI.scr (fun k q1 q2 => (c2 k q1 q2).trans (c1 k q1 q2)))
    · exact (bad r μ1 μ1' k hk a1 c1 b1 d1).elim
  · refine zfind2 hI k hk a1 b1 (fun μ' hμ' => ?_)
    obtain ⟨μ1', μ2', c1, c2, c3⟩ := h μ' hμ'
    rcases c3 with ⟨r', d1, -⟩ | ⟨k', hk', d1, d2⟩
    · exact (bad r' μ1' μ1 k hk c1 a1 d1 b1).elim
    · have e : k' = k := by
        have := d1.symm.trans b1
        rw [c5_find k hk, c5_find k' hk'] at this
        simp only [Option.some.injEq, Prod.mk.injEq] at this
        have q := this.1
        have inj : ∀ a, a < 7 → ∀ b, b < 7 → (-1000001 : Int32) - nI a = (-1000001 : Int32) - nI b → a = b := by decide +kernel
        exact inj k' hk' k hk q
      subst e
      exact ⟨μ2', c2, d2⟩
theorem e14 : zE14 zInv := by
  intro a1 a2 a3 μ hI
  obtain ⟨⟨n, hc⟩, -⟩ := id hI
  have hn := hc.1.1
  have s1 : μ 1 3 = nI n := hc.size.2.2
  have i6 : ∀ μ' : zMem, fX6_in a2.toInt64 0 3 μ' = some (zb (0 ≤ a2 ∧ a2 ≤ 3), μ') := fun μ' => by
    rw [show (0 : Int64) = (0 : Int32).toInt64 from rfl, show (3 : Int64) = (3 : Int32).toInt64 from rfl, w6]
  have j6 : ∀ μ' : zMem, fX6_in a3.toInt64 0 100 μ' = some (zb (0 ≤ a3 ∧ a3 ≤ 100), μ') := fun μ' => by
    rw [show (0 : Int64) = (0 : Int32).toInt64 from rfl, show (100 : Int64) = (100 : Int32).toInt64 from rfl, w6]
  refine ztry hI (fun μ2 h2 => ?_)
  have e67 : μ2 67 = μ 67 := h2 67 (by unfold zscr; omega) (by omega) (by omega)
  have s6 : μ2 67 2 = nI n := by rw [e67]; exact hc.1.2.1
  by_cases h1 : 0 ≤ a1 ∧ a1 ≤ nI n - 1
  · by_cases h3 : 0 ≤ a2 ∧ a2 ≤ 3
    · by_cases h4 : 0 ≤ a3 ∧ a3 ≤ 100
      · obtain ⟨t, ht, rfl⟩ := (ztent hn).1 h1
        obtain ⟨j, hj, rfl⟩ := zrng (n := 3) rfl h3
        obtain ⟨D, hD, rfl⟩ := zrng (n := 100) rfl h4
        obtain ⟨α1, β1, α2, β2, γ, b1, b2, b3, b4, b5, b6, b7, b8, b9, -⟩ := zahead hD (μ1 := μ) (μ2 := μ2) (by rw [e67]; exact hc.1) (by rw [e67]; exact hc.2.1)
        refine ⟨β1, γ, b8, b9, Or.inl ⟨β2 67 (29 + 8 * t + 4 + j), ?_, ?_⟩⟩
        · unfold fX5_felt
          rw [c5_isT s1, zbd_s, zif_t h1, w5, zbd_s, zif_t h3, w5, zbd_s, zif_t h4]
          show zbd (fX0_becomeLike 33 1 μ) _ = _
          rw [b1, zbd_s]
          show zbd (fX0_passDays 33 (nI D) α1) _ = _
          rw [b2, zbd_s, zgd_ib (by omega) (by decide), zgd_ib (by omega) (by decide), zcl (by omega), zcl (by omega), show 0 + 33 + 3 + 1 + 2 * t + 1 = 33 + 5 + 2 * t by omega, (b7.2.2.2 t ht).2 j (by omega)]
        · unfold fX6_felt
          rw [c6_isT s6, zbd_s, zif_t h1, i6, zbd_s, zif_t h3, j6, zbd_s, zif_t h4, b3, zbd_s, b4, zbd_s, show (4 : Int32) = nI 4 from rfl, nI_add, c6_its (by omega), zbd_s, b5, zbd_s, show 29 + 8 * t + (4 + j) = 29 + 8 * t + 4 + j by omega]
      · refine ⟨μ, μ2, fun _ _ _ => rfl, fun _ _ _ => rfl, Or.inr ⟨0, by omega, ?_, ?_⟩⟩
        · unfold fX5_felt; rw [c5_isT s1, zbd_s, zif_t h1, w5, zbd_s, zif_t h3, w5, zbd_s, zif_f h4, zbd_eta]; rfl
        · unfold fX6_felt; rw [c6_isT s6, zbd_s, zif_t h1, i6, zbd_s, zif_t h3, j6, zbd_s, zif_f h4, zbd_eta]; rfl
    · refine ⟨μ, μ2, fun _ _ _ => rfl, fun _ _ _ => rfl, Or.inr ⟨0, by omega, ?_, ?_⟩⟩
      · unfold fX5_felt; rw [c5_isT s1, zbd_s, zif_t h1, w5, zbd_s, zif_f h3, zbd_eta]; rfl
      · unfold fX6_felt; rw [c6_isT s6, zbd_s, zif_t h1, i6, zbd_s, zif_f h3, zbd_eta]; rfl
  · refine ⟨μ, μ2, fun _ _ _ => rfl, fun _ _ _ => rfl, Or.inr ⟨0, by omega, ?_, ?_⟩⟩
    · unfold fX5_felt; rw [c5_isT s1, zbd_s, zif_f h1, zbd_eta]; rfl
    · unfold fX6_felt; rw [c6_isT s6, zbd_s, zif_f h1, zbd_eta]; rfl
/-! the gap between what a tent felt and what lies there -/
def zgap (x : Nat → Int32) (t p j : Nat) : Int32 := if x (29 + 8 * t + 4 + j) = -1 then 0 else if 0 ≤ x (29 + 8 * t + 4 + j) - x (4 + zce p j) then x (29 + 8 * t + 4 + j) - x (4 + zce p j) else 0 - (x (29 + 8 * t + 4 + j) - x (4 + zce p j))
theorem c0_gap {n c t p j : Nat} {μ : zMem} {x : Nat → Int32} (hs : zSim n c μ x) (ht : t < n) (hp : p < 16) (hj : j < 4) : fX0_gap c (c + 4 + 2 * t) (nI j) (nI p) μ = some (zgap x t p j, μ) := by
  unfold fX0_gap zgap
  have hcl := zce_lt p hp j hj
  simp only [zgd_ib hj (show 4 < 2 ^ 31 by decide), zcl (show j < 2 ^ 31 by omega)]
  rw [c5_cellUnder hp hj, zbd_s, zgd_ib hcl (by decide), zcl (by omega), show c + 4 + 2 * t + 1 = c + 5 + 2 * t by omega, (hs.2.2.2 t ht).2 j hj, hs.2.1 _ hcl]
  by_cases w : x (29 + 8 * t + 4 + j) = -1
  · rw [if_pos w, if_pos w]
  · rw [if_neg w, if_neg w]
def zunl (x : Nat → Int32) (t p : Nat) : Int32 := zfold (fun j a => a + zgap x t p j) 4 0 0
theorem c0_unl {n c t p : Nat} {μ : zMem} {x : Nat → Int32} (hs : zSim n c μ x) (ht : t < n) (hp : p < 16) : fX0_unlikeness c (c + 4 + 2 * t) (nI p) μ = some (zunl x t p, μ) := by
  have key : ∀ m j q acc, j + m = 4 → m < q → fX0_unlikeness_5 q c (c + 4 + 2 * t) (nI p) acc (nI j) μ = some (zfold (fun j a => a + zgap x t p j) m j acc, μ) := by
    intro m
    induction m with
    | zero =>
      intro i q acc hi hq
      obtain ⟨q, rfl⟩ : ∃ z, q = z + 1 := ⟨q - 1, by omega⟩
      rw [fX0_unlikeness_5, show (4 : Int32) = nI 4 from rfl, zle_t (by omega) (by omega)]; rfl
    | succ m ih =>
      intro i q acc hi hq
      obtain ⟨q, rfl⟩ : ∃ z, q = z + 1 := ⟨q - 1, by omega⟩
      rw [fX0_unlikeness_5, show (4 : Int32) = nI 4 from rfl, zle_f (by omega) (by omega), c0_gap hs ht hp (by omega), zbd_s, n1, zfold]
      exact ih (i + 1) q _ (by omega) (by omega)
  exact key 4 0 200 0 (by omega) (by omega)
theorem c6_unl {n t p : Nat} {μ : zMem} (hv : zVl n (μ 67)) (ht : t < n) (hp : p < 16) : fX6_unlikeBy 66 (nI t) (nI p) μ = some (zunl (μ 67) t p, μ) := by
  obtain ⟨hn, -, -, -, -, v6⟩ := hv.out
  have key : ∀ m j q acc, j + m = 4 → m < q → fX6_unlikeBy_5 q 66 (nI t) (nI p) acc (nI j) μ = some (zfold (fun j a => a + zgap (μ 67) t p j) m j acc, μ) := by
    intro m
    induction m with
    | zero =>
      intro i q acc hi hq
      obtain ⟨q, rfl⟩ : ∃ z, q = z + 1 := ⟨q - 1, by omega⟩
      rw [fX6_unlikeBy_5, show (4 : Int32) = nI 4 from rfl, zle_t (by omega) (by omega)]; rfl
    | succ m ih =>
      intro i q acc hi hq
      obtain ⟨q, rfl⟩ : ∃ z, q = z + 1 := ⟨q - 1, by omega⟩
      have hcl := zce_lt p hp i (by omega)
      rw [fX6_unlikeBy_5, show (4 : Int32) = nI 4 from rfl, zle_f (by omega) (by omega), nI_add, c6_its (by omega), zbd_s, c6_cellOf hp (by omega), zbd_s, nI_add, n1, zfold, show 29 + 8 * t + (4 + i) = 29 + 8 * t + 4 + i by omega]
      simp only [zgd_ib (show 4 + zce p i < 87 by omega) (show 87 < 2 ^ 31 by decide), zcl (show 4 + zce p i < 2 ^ 31 by omega)]
      rcases (v6 t ht).2.2.2 i (by omega) with w | ⟨f, hf, w⟩
      · rw [if_neg (by rw [w]; decide), show zgap (μ 67) t p i = 0 from if_pos w]
        exact ih (i + 1) q _ (by omega) (by omega)
      · rw [if_pos (by rw [w]; exact nI_pos' (by omega))]
        have e : zgap (μ 67) t p i = if 0 ≤ μ 67 (29 + 8 * t + 4 + i) - μ 67 (4 + zce p i) then μ 67 (29 + 8 * t + 4 + i) - μ 67 (4 + zce p i) else 0 - (μ 67 (29 + 8 * t + 4 + i) - μ 67 (4 + zce p i)) := if_neg (by rw [w]; exact zne1 (by omega))
        rw [e]
        exact ih (i + 1) q _ (by omega) (by omega)
  exact key 4 0 200 0 (by omega) (by omega)
theorem e18 : zE18 zInv := by
  intro a1 a2 μ hI
  obtain ⟨⟨n, hc⟩, -⟩ := id hI
  have hn := hc.1.1
  have s1 : μ 1 3 = nI n := hc.size.2.2
  by_cases h1 : 0 ≤ a1 ∧ a1 ≤ nI n - 1
  · by_cases h2 : 0 ≤ a2 ∧ a2 ≤ 15
    · obtain ⟨t, ht, rfl⟩ := (ztent hn).1 h1
      obtain ⟨p, hp, rfl⟩ := zrng (n := 15) rfl h2
      refine zE_of (r := zunl (μ 67) t p) (μ1 := μ) (μ2 := μ) ?_ ?_ hI
      · unfold fX5_unlike
        rw [c5_isT s1, zbd_s, zif_t h1, c5_isPitch, zbd_s, zif_t h2, zgd_ib (by omega) (by decide), zcl (by omega), show 0 + 1 + 3 + 1 + 2 * t = 1 + 4 + 2 * t by omega, show 0 + 1 = 1 from rfl, c0_unl hc.2.1 ht (by omega), zbd_s]
      · unfold fX6_unlike
        rw [c6_isT hc.1.2.1, zbd_s, zif_t h1, c6_isPitch, zbd_s, zif_t h2, c6_unl hc.1.vl ht (by omega), zbd_s]
    · refine zfind hI 0 (by decide) ?_ (fun μ' h => ?_)
      · unfold fX5_unlike; rw [c5_isT s1, zbd_s, zif_t h1, c5_isPitch, zbd_s, zif_f h2, zbd_eta]; rfl
      · unfold fX6_unlike; rw [c6_isT (by rw [h 67 (by omega) (by omega)]; exact hc.1.2.1), zbd_s, zif_t h1, c6_isPitch, zbd_s, zif_f h2, zbd_eta]; rfl
  · refine zfind hI 0 (by decide) ?_ (fun μ' h => ?_)
    · unfold fX5_unlike; rw [c5_isT s1, zbd_s, zif_f h1, zbd_eta]; rfl
    · unfold fX6_unlike; rw [c6_isT (by rw [h 67 (by omega) (by omega)]; exact hc.1.2.1), zbd_s, zif_f h1, zbd_eta]; rfl
theorem e19 : zE19 zInv := by
  intro a1 μ hI
  obtain ⟨⟨n, hc⟩, -⟩ := id hI
  have hn := hc.1.1
  have s1 : μ 1 3 = nI n := hc.size.2.2
  by_cases h1 : 0 ≤ a1 ∧ a1 ≤ nI n - 1
  · obtain ⟨t, ht, rfl⟩ := (ztent hn).1 h1
    have key : ∀ m i q b, i + m = 16 → m < q → b < 16 → ∃ r, fX5_home_18 q 0 (nI t) (nI b) (nI i) μ = some (r, μ) ∧ fX6_home_18 q 66 (nI t) (nI b) (nI i) μ = some (r, μ) := by
      intro m
      induction m with
      | zero =>
        intro i q b hi hq hb
        obtain ⟨q, rfl⟩ : ∃ z, q = z + 1 := ⟨q - 1, by omega⟩
        refine ⟨nI b, ?_, ?_⟩
        · rw [fX5_home_18, show (16 : Int32) = nI 16 from rfl, zle_t (by omega) (by omega)]
        · rw [fX6_home_18, show (16 : Int32) = nI 16 from rfl, zle_t (by omega) (by omega)]
      | succ m ih =>
        intro i q b hi hq hb
        obtain ⟨q, rfl⟩ : ∃ z, q = z + 1 := ⟨q - 1, by omega⟩
        have g5 : fX5_home_18 (q + 1) 0 (nI t) (nI b) (nI i) μ = if zunl (μ 67) t b ≤ zunl (μ 67) t i then fX5_home_18 q 0 (nI t) (nI b) (nI (i + 1)) μ else fX5_home_18 q 0 (nI t) (nI i) (nI (i + 1)) μ := by
          rw [fX5_home_18, show (16 : Int32) = nI 16 from rfl, zle_f (by omega) (by omega)]
          simp only [zgd_ib (show t < 6 by omega) (show 6 < 2 ^ 31 by decide), zcl (show t < 2 ^ 31 by omega), n1]
          rw [show 0 + 1 + 3 + 1 + 2 * t = 1 + 4 + 2 * t by omega, show 0 + 1 = 1 from rfl, c0_unl hc.2.1 ht (by omega), zbd_s, c0_unl hc.2.1 ht hb, zbd_s]
        have g6 : fX6_home_18 (q + 1) 66 (nI t) (nI b) (nI i) μ = if zunl (μ 67) t b ≤ zunl (μ 67) t i then fX6_home_18 q 66 (nI t) (nI b) (nI (i + 1)) μ else fX6_home_18 q 66 (nI t) (nI i) (nI (i + 1)) μ := by
          rw [fX6_home_18, show (16 : Int32) = nI 16 from rfl, zle_f (by omega) (by omega), c6_unl hc.1.vl ht (by omega), zbd_s, c6_unl hc.1.vl ht hb, zbd_s, n1]
        by_cases w : zunl (μ 67) t b ≤ zunl (μ 67) t i
        · rw [g5, g6, if_pos w, if_pos w]; exact ih (i + 1) q b (by omega) (by omega) hb
        · rw [g5, g6, if_neg w, if_neg w]; exact ih (i + 1) q i (by omega) (by omega) (by omega)
    obtain ⟨r, k1, k2⟩ := key 15 1 200 0 (by omega) (by omega) (by omega)
    refine zE_of (r := r) (μ1 := μ) (μ2 := μ) ?_ ?_ hI
    · unfold fX5_home; rw [c5_isT s1, zbd_s, zif_t h1]; exact k1
    · unfold fX6_home; rw [c6_isT hc.1.2.1, zbd_s, zif_t h1]; exact k2
  · refine zfind hI 0 (by decide) ?_ (fun μ' h => ?_)
    · unfold fX5_home; rw [c5_isT s1, zbd_s, zif_f h1, zbd_eta]; rfl
    · unfold fX6_home; rw [c6_isT (by rw [h 67 (by omega) (by omega)]; exact hc.1.2.1), zbd_s, zif_f h1, zbd_eta]; rfl
