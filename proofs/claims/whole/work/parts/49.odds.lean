/-! odds -/
def zdp (S : Int32) : Int32 := zfold (fun p a => if zdry S p 4 0 = true then a + 1 else a) 16 0 0
theorem c0_dry (c : Nat) (μ : zMem) : fX0_dryPitches c μ = some (zdp (μ c 4), μ) := by
  have key : ∀ m p q acc, p + m = 16 → m < q → fX0_dryPitches_4 q c acc (nI p) μ = some (zfold (fun p a => if zdry (μ c 4) p 4 0 = true then a + 1 else a) m p acc, μ) := by
    intro m
    induction m with
    | zero =>
      intro i q acc hi hq
      obtain ⟨q, rfl⟩ : ∃ z, q = z + 1 := ⟨q - 1, by omega⟩
      rw [fX0_dryPitches_4, show (16 : Int32) = nI 16 from rfl, zle_t (by omega) (by omega)]; rfl
    | succ m ih =>
      intro i q acc hi hq
      obtain ⟨q, rfl⟩ : ∃ z, q = z + 1 := ⟨q - 1, by omega⟩
      rw [fX0_dryPitches_4, show (16 : Int32) = nI 16 from rfl, zle_f (by omega) (by omega), c0_cellsUnder (by omega), zbd_s, n1, zfold]
      by_cases w : zdry (μ c 4) i 4 0 = true
      · rw [if_pos ((zdry_eq _ (by omega)).2 w), if_pos w]; exact ih (i + 1) q _ (by omega) (by omega)
      · rw [if_neg (fun k => w ((zdry_eq _ (by omega)).1 k)), if_neg w]; exact ih (i + 1) q _ (by omega) (by omega)
  exact key 16 0 200 0 (by omega) (by omega)
theorem c6_dry (μ : zMem) : fX6_dryPitches 66 μ = some (zdp (μ 67 3), μ) := by
  have i0 : ∀ (K : Nat → Int32 → Int32 → zMem → Option (Int32 × zMem)) (p : Nat) (acc : Int32) m d q, d + m = 4 → m < q → fX6_dryPitches_15 K q 66 acc (nI p) 0 (nI d) μ = K 66 acc (nI (p + 1)) μ := by
    intro K p acc m
    induction m with
    | zero =>
      intro d q hd hq
      obtain ⟨q, rfl⟩ : ∃ z, q = z + 1 := ⟨q - 1, by omega⟩
      rw [fX6_dryPitches_15, show (4 : Int32) = nI 4 from rfl, zle_t (by omega) (by omega), if_pos rfl, Int32.add_zero, n1]
    | succ m ih =>
      intro d q hd hq
      obtain ⟨q, rfl⟩ : ∃ z, q = z + 1 := ⟨q - 1, by omega⟩
      rw [fX6_dryPitches_15, show (4 : Int32) = nI 4 from rfl, zle_f (by omega) (by omega), if_pos rfl, n1]
      exact ih (d + 1) q (by omega) (by omega)
  have i1 : ∀ (K : Nat → Int32 → Int32 → zMem → Option (Int32 × zMem)) (p : Nat) (acc : Int32), p < 16 → ∀ m d q, d + m = 4 → m < q → fX6_dryPitches_15 K q 66 acc (nI p) 1 (nI d) μ = K 66 (if zdry (μ 67 3) p m d = true then acc + 1 else acc) (nI (p + 1)) μ := by
    intro K p acc hp m
    induction m with
    | zero =>
      intro d q hd hq
      obtain ⟨q, rfl⟩ : ∃ z, q = z + 1 := ⟨q - 1, by omega⟩
      rw [fX6_dryPitches_15, show (4 : Int32) = nI 4 from rfl, zle_t (by omega) (by omega), if_neg (by decide), n1, zdry, if_pos rfl]
    | succ m ih =>
      intro d q hd hq
      obtain ⟨q, rfl⟩ : ∃ z, q = z + 1 := ⟨q - 1, by omega⟩
      have hcl := zce_lt p hp d (by omega)
      rw [fX6_dryPitches_15, show (4 : Int32) = nI 4 from rfl, zle_f (by omega) (by omega), if_neg (by decide), c6_cellOf hp (by omega), zbd_s, c6_hasSpring _ hcl, zbd_s, n1, zdry]
      have hb := zbs hcl (μ 67 3)
      cases w : (μ 67 3).toBitVec.getLsbD (zce p d)
      · rw [if_pos (hb.2 w), ih (d + 1) q (by omega) (by omega)]; rfl
      · rw [if_neg (fun k => by rw [hb.1 k] at w; exact absurd w (by decide)), i0 K p acc m (d + 1) q (by omega) (by omega)]; rfl
  have key : ∀ m p q acc, p + m = 16 → m < q → fX6_dryPitches_4 q 66 acc (nI p) μ = some (zfold (fun p a => if zdry (μ 67 3) p 4 0 = true then a + 1 else a) m p acc, μ) := by
    intro m
    induction m with
    | zero =>
      intro i q acc hi hq
      obtain ⟨q, rfl⟩ : ∃ z, q = z + 1 := ⟨q - 1, by omega⟩
      rw [fX6_dryPitches_4, show (16 : Int32) = nI 16 from rfl, zle_t (by omega) (by omega)]; rfl
    | succ m ih =>
      intro i q acc hi hq
      obtain ⟨q, rfl⟩ : ∃ z, q = z + 1 := ⟨q - 1, by omega⟩
      rw [fX6_dryPitches_4, show (16 : Int32) = nI 16 from rfl, zle_f (by omega) (by omega), zfold]
      refine (i1 (fX6_dryPitches_4 q) i acc (by omega) 4 0 200 (by omega) (by omega)).trans ?_
      exact ih (i + 1) q _ (by omega) (by omega)
  exact key 16 0 200 0 (by omega) (by omega)
theorem zdp_nat (S : Int32) : ∃ v, v ≤ 16 ∧ zdp S = nI v := by
  have key : ∀ m p a, ∃ v, v ≤ a + m ∧ zfold (fun p a => if zdry S p 4 0 = true then a + 1 else a) m p (nI a) = nI v := by
    intro m
    induction m with
    | zero => intro p a; exact ⟨a, by omega, rfl⟩
    | succ m ih =>
      intro p a
      rw [zfold]
      by_cases w : zdry S p 4 0 = true
      · rw [if_pos w, n1]
        obtain ⟨v, h1, h2⟩ := ih (p + 1) (a + 1)
        exact ⟨v, by omega, h2⟩
      · rw [if_neg w]
        obtain ⟨v, h1, h2⟩ := ih (p + 1) a
        exact ⟨v, by omega, h2⟩
  obtain ⟨v, h1, h2⟩ := key 16 0 0
  exact ⟨v, by omega, h2⟩
