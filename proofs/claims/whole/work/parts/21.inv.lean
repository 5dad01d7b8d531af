/-! what the class and the reference have in common -/
/-- a row as the reference holds it: n tents, all in their bounds -/
def zVal (n : Nat) (x : Nat → Int32) : Prop :=
  n ≤ 6 ∧ x 2 = nI n ∧ (∃ d, d ≤ 99999 ∧ x 0 = nI d) ∧ (∃ s, s < 2 ^ 25 ∧ x 3 = nI s) ∧
  (∀ i, i < 25 → ∃ h, h ≤ 99 ∧ x (4 + i) = nI h) ∧
  (∀ i, i < 10 → x (77 + i) = -1 ∨ ∃ t, t < n ∧ x (77 + i) = nI t) ∧
  ∀ t, t < n → (∃ k, k < 7 ∧ x (29 + 8 * t) = nI k) ∧ (x (29 + 8 * t + 1) = -1 ∨ ∃ p, p < 16 ∧ x (29 + 8 * t + 1) = nI p) ∧ (∃ w, w ≤ 99 ∧ x (29 + 8 * t + 2) = nI w) ∧
    ∀ j, j < 4 → x (29 + 8 * t + 4 + j) = -1 ∨ ∃ f, f ≤ 99 ∧ x (29 + 8 * t + 4 + j) = nI f
/-- a camp at c holds what a row says (the day apart) -/
def zSim (n c : Nat) (μ : zMem) (x : Nat → Int32) : Prop :=
  (μ c 3 = x 2 ∧ μ c 4 = x 3 ∧ μ c 6 = x 1) ∧ (∀ i, i < 25 → μ (c + 1) i = x (4 + i)) ∧ (∀ i, i < 10 → μ (c + 2) i = x (77 + i)) ∧
  ∀ t, t < n → (μ (c + 4 + 2 * t) 0 = x (29 + 8 * t) ∧ μ (c + 4 + 2 * t) 1 = x (29 + 8 * t + 1) ∧ μ (c + 4 + 2 * t) 2 = x (29 + 8 * t + 2)) ∧ ∀ j, j < 4 → μ (c + 5 + 2 * t) j = x (29 + 8 * t + 4 + j)
def zCamp (n : Nat) (μ : zMem) : Prop := zVal n (μ 67) ∧ zSim n 1 μ (μ 67) ∧ μ 1 5 = μ 67 0
def zImg (μ : zMem) : Prop := μ 0 8 = μ 66 3 ∧ (μ 66 3 = 0 ∨ μ 66 3 = 1 ∧ ∃ n, zVal n (μ 68) ∧ zSim n 17 μ (μ 68) ∧ μ 17 5 = μ 68 0)
def zFnd (μ : zMem) : Prop := ∀ k, k < 7 → μ 56 k = μ 70 k
def zTap (μ : zMem) : Prop := ∃ L, L ≤ 120 ∧ μ 53 1 = nI L ∧ μ 66 8 = nI L ∧ ∀ i, i < L → ∃ b, b < 256 ∧ μ 54 i = nI b ∧ μ 73 i = nI b
def zShe (μ : zMem) : Prop := ∀ s, s < 4 → (μ (58 + 2 * s) 0 = μ 74 s ∧ (μ 74 s = 0 ∨ μ 74 s = 8 ∨ μ 74 s = 16 ∨ μ 74 s = 32)) ∧ (∃ m, m ≤ 40 ∧ μ (58 + 2 * s) 1 = nI m ∧ μ 75 s = nI m) ∧ ∀ i, i < 40 → μ (59 + 2 * s) i = μ 76 (40 * s + i)
def zInv (μ : zMem) : Prop := (∃ n, zCamp n μ) ∧ zImg μ ∧ zFnd μ ∧ zTap μ ∧ zShe μ
theorem zSim.congr {n c : Nat} {μ μ' : zMem} {x : Nat → Int32} (hn : n ≤ 6) (h : zSim n c μ x) (hr : ∀ k, c ≤ k → k ≤ c + 15 → μ' k = μ k) : zSim n c μ' x := by
  obtain ⟨h1, h2, h3, h4⟩ := h
  refine ⟨?_, ?_, ?_, ?_⟩
  · rw [hr c (by omega) (by omega)]; exact h1
  · rw [hr (c + 1) (by omega) (by omega)]; exact h2
  · rw [hr (c + 2) (by omega) (by omega)]; exact h3
  · intro t ht
    rw [hr (c + 4 + 2 * t) (by omega) (by omega), hr (c + 5 + 2 * t) (by omega) (by omega)]
    exact h4 t ht
theorem zCamp.congr {n : Nat} {μ μ' : zMem} (h : zCamp n μ) (hr : ∀ k, 1 ≤ k → k ≤ 16 → μ' k = μ k) (h67 : μ' 67 = μ 67) : zCamp n μ' := by
  obtain ⟨h1, h2, h3⟩ := h
  unfold zCamp
  rw [h67, hr 1 (by omega) (by omega)]
  exact ⟨h1, h2.congr h1.1 (fun k a b => hr k a (by omega)), h3⟩
theorem zImg.congr {μ μ' : zMem} (h : zImg μ) (h0 : μ' 0 8 = μ 0 8) (h66 : μ' 66 3 = μ 66 3) (hr : ∀ k, 17 ≤ k → k ≤ 32 → μ' k = μ k) (h68 : μ' 68 = μ 68) : zImg μ' := by
  obtain ⟨h1, h2⟩ := h
  unfold zImg
  rw [h0, h66, h68, hr 17 (by omega) (by omega)]
  refine ⟨h1, ?_⟩
  rcases h2 with h2 | ⟨h2, n, h3, h4, h5⟩
  · exact Or.inl h2
  · exact Or.inr ⟨h2, n, h3, h4.congr h3.1 (fun k a b => hr k a (by omega)), h5⟩
theorem zFnd.congr {μ μ' : zMem} (h : zFnd μ) (h1 : μ' 56 = μ 56) (h2 : μ' 70 = μ 70) : zFnd μ' := by
  unfold zFnd; rw [h1, h2]; exact h
theorem zTap.congr {μ μ' : zMem} (h : zTap μ) (h1 : μ' 53 1 = μ 53 1) (h2 : μ' 66 8 = μ 66 8) (h3 : μ' 54 = μ 54) (h4 : μ' 73 = μ 73) : zTap μ' := by
  unfold zTap; rw [h1, h2, h3, h4]; exact h
theorem zShe.congr {μ μ' : zMem} (h : zShe μ) (hr : ∀ k, 58 ≤ k → k ≤ 65 → μ' k = μ k) (h1 : μ' 74 = μ 74) (h2 : μ' 75 = μ 75) (h3 : μ' 76 = μ 76) : zShe μ' := by
  intro s hs
  rw [hr (58 + 2 * s) (by omega) (by omega), hr (59 + 2 * s) (by omega) (by omega), h1, h2, h3]
  exact h s hs
/-- the rows that no promise speaks of -/
def zscr (k : Nat) : Prop := (33 ≤ k ∧ k ≤ 52) ∨ k = 57 ∨ k = 69 ∨ k = 71 ∨ k = 72 ∨ k = 77
theorem zInv.scr {μ μ' : zMem} (h : zInv μ) (hr : ∀ k, ¬ zscr k → k < 78 → μ' k = μ k) : zInv μ' := by
  obtain ⟨⟨n, hc⟩, hi, hf, ht, hs⟩ := h
  have q : ∀ k, k < 33 → μ' k = μ k := fun k hk => hr k (by unfold zscr; omega) (by omega)
  have e53 := hr 53 (by unfold zscr; omega) (by omega)
  have e54 := hr 54 (by unfold zscr; omega) (by omega)
  have e56 := hr 56 (by unfold zscr; omega) (by omega)
  have e66 := hr 66 (by unfold zscr; omega) (by omega)
  have e67 := hr 67 (by unfold zscr; omega) (by omega)
  have e68 := hr 68 (by unfold zscr; omega) (by omega)
  have e70 := hr 70 (by unfold zscr; omega) (by omega)
  have e73 := hr 73 (by unfold zscr; omega) (by omega)
  have e74 := hr 74 (by unfold zscr; omega) (by omega)
  have e75 := hr 75 (by unfold zscr; omega) (by omega)
  have e76 := hr 76 (by unfold zscr; omega) (by omega)
  refine ⟨⟨n, hc.congr (fun k _ _ => q k (by omega)) e67⟩, hi.congr ?_ ?_ (fun k _ _ => q k (by omega)) e68, hf.congr e56 e70, ht.congr ?_ ?_ e54 e73, hs.congr (fun k _ _ => hr k (by unfold zscr; omega) (by omega)) e74 e75 e76⟩
  · rw [q 0 (by omega)]
  · rw [e66]
  · rw [e53]
  · rw [e66]
/-- only the camp and the reference's row have changed (and what no promise speaks of) -/
theorem zInv.camp {μ μ' : zMem} (h : zInv μ) (hr : ∀ k, ¬ zscr k → k < 78 → ¬ (1 ≤ k ∧ k ≤ 16) → k ≠ 67 → μ' k = μ k) (hc : ∃ n, zCamp n μ') : zInv μ' := by
  obtain ⟨-, hi, hf, ht, hs⟩ := h
  have e0 := hr 0 (by unfold zscr; omega) (by omega) (by omega) (by omega)
  have e53 := hr 53 (by unfold zscr; omega) (by omega) (by omega) (by omega)
  have e54 := hr 54 (by unfold zscr; omega) (by omega) (by omega) (by omega)
  have e56 := hr 56 (by unfold zscr; omega) (by omega) (by omega) (by omega)
  have e66 := hr 66 (by unfold zscr; omega) (by omega) (by omega) (by omega)
  have e68 := hr 68 (by unfold zscr; omega) (by omega) (by omega) (by omega)
  have e70 := hr 70 (by unfold zscr; omega) (by omega) (by omega) (by omega)
  have e73 := hr 73 (by unfold zscr; omega) (by omega) (by omega) (by omega)
  have e74 := hr 74 (by unfold zscr; omega) (by omega) (by omega) (by omega)
  have e75 := hr 75 (by unfold zscr; omega) (by omega) (by omega) (by omega)
  have e76 := hr 76 (by unfold zscr; omega) (by omega) (by omega) (by omega)
  refine ⟨hc, hi.congr ?_ ?_ (fun k _ _ => hr k (by unfold zscr; omega) (by omega) (by omega) (by omega)) e68, hf.congr e56 e70, ht.congr ?_ ?_ e54 e73, hs.congr (fun k _ _ => hr k (by unfold zscr; omega) (by omega) (by omega) (by omega)) e74 e75 e76⟩
  · rw [e0]
  · rw [e66]
  · rw [e53]
  · rw [e66]
/-- the same finding on both sides -/
theorem zInv.find {μ μ' : zMem} (h : zInv μ) (k : Nat) (hk : k < 7) (hr : ∀ j, ¬ zscr j → j < 78 → j ≠ 56 → j ≠ 70 → μ' j = μ j) (h1 : ∀ j, μ' 56 j = if j = k then μ 56 k + 1 else μ 56 j) (h2 : ∀ j, μ' 70 j = if j = k then μ 70 k + 1 else μ 70 j) : zInv μ' := by
  obtain ⟨⟨n, hc⟩, hi, hf, ht, hs⟩ := h
  have q : ∀ k, k < 33 → μ' k = μ k := fun k hk => hr k (by unfold zscr; omega) (by omega) (by omega) (by omega)
  have e53 := hr 53 (by unfold zscr; omega) (by omega) (by omega) (by omega)
  have e54 := hr 54 (by unfold zscr; omega) (by omega) (by omega) (by omega)
  have e66 := hr 66 (by unfold zscr; omega) (by omega) (by omega) (by omega)
  have e67 := hr 67 (by unfold zscr; omega) (by omega) (by omega) (by omega)
  have e68 := hr 68 (by unfold zscr; omega) (by omega) (by omega) (by omega)
  have e73 := hr 73 (by unfold zscr; omega) (by omega) (by omega) (by omega)
  have e74 := hr 74 (by unfold zscr; omega) (by omega) (by omega) (by omega)
  have e75 := hr 75 (by unfold zscr; omega) (by omega) (by omega) (by omega)
  have e76 := hr 76 (by unfold zscr; omega) (by omega) (by omega) (by omega)
  refine ⟨⟨n, hc.congr (fun k _ _ => q k (by omega)) e67⟩, hi.congr ?_ ?_ (fun k _ _ => q k (by omega)) e68, ?_, ht.congr ?_ ?_ e54 e73, hs.congr (fun k _ _ => hr k (by unfold zscr; omega) (by omega) (by omega) (by omega)) e74 e75 e76⟩
  · rw [q 0 (by omega)]
  · rw [e66]
  · intro j hj
    rw [h1, h2, hf k hk, hf j hj]
  · rw [e53]
  · rw [e66]
theorem zE_of {α : Type} {o1 : Option (α × zMem)} {f6 : zMem → Option (α × zMem)} {Inv : zMem → Prop} {r : α} {μ1 μ2 : zMem} (h1 : o1 = some (r, μ1)) (h2 : f6 μ1 = some (r, μ2)) (hI : Inv μ2) : zok o1 (fun r μ1 => zok (f6 μ1) (fun r' μ2 => r = r' ∧ Inv μ2)) := by
  rw [h1]
  have h3 : zok (f6 μ1) (fun r' μ2 => r = r' ∧ Inv μ2) := by rw [h2]; exact ⟨rfl, hI⟩
  exact h3
/-- both answer the same finding, each behind scratch of its own -/
theorem zfind2 {μ μ1 : zMem} {o1 : Option (Int32 × zMem)} {f6 : zMem → Option (Int32 × zMem)} (h : zInv μ) (k : Nat) (hk : k < 7) (hr : ∀ j, ¬ zscr j → j < 78 → μ1 j = μ j) (h1 : o1 = fX5_finding 0 (nI k) μ1) (h2 : ∀ μ' : zMem, (∀ j, ¬ zscr j → j < 78 → j ≠ 56 → μ' j = μ j) → ∃ μ2, (∀ j, ¬ zscr j → j < 78 → μ2 j = μ' j) ∧ f6 μ' = fX6_finds 66 (nI k) μ2) : zok o1 (fun r μ1 => zok (f6 μ1) (fun r' μ2 => r = r' ∧ zInv μ2)) := by
  have ha : ∀ j, ¬ zscr j → j < 78 → j ≠ 56 → zst μ1 56 k (μ1 56 k + 1) j = μ j := fun j q1 q2 q3 => by rw [zst_row_ne q3]; exact hr j q1 q2
  obtain ⟨μ2, hb, h3⟩ := h2 _ ha
  have n56 : ¬ zscr 56 := by unfold zscr; omega
  have n70 : ¬ zscr 70 := by unfold zscr; omega
  have e56 : μ1 56 = μ 56 := hr 56 n56 (by omega)
  have e70 : μ2 70 = μ 70 := by rw [hb 70 n70 (by omega), ha 70 n70 (by omega) (by omega)]
  refine zE_of (h1.trans (c5_find k hk μ1)) (h3.trans (c6_find k hk μ2)) (h.find k hk ?_ ?_ ?_)
  · intro j q1 q2 q3 q4
    rw [zst_row_ne q4, hb j q1 q2, ha j q1 q2 q3]
  · intro j
    rw [zst_row_ne (by decide), hb 56 n56 (by omega), zst_at, e56]
    by_cases hj : j = k
    · rw [if_pos ⟨rfl, hj⟩, if_pos hj]
    · rw [if_neg (fun q => hj q.2), if_neg hj]
  · intro j
    rw [zst_at, e70]
    by_cases hj : j = k
    · rw [if_pos ⟨rfl, hj⟩, if_pos hj]
    · rw [if_neg (fun q => hj q.2), if_neg hj]
/-- the same, with nothing else touched -/
theorem zfind {μ : zMem} {o1 : Option (Int32 × zMem)} {f6 : zMem → Option (Int32 × zMem)} (h : zInv μ) (k : Nat) (hk : k < 7) (h1 : o1 = fX5_finding 0 (nI k) μ) (h2 : ∀ μ' : zMem, (∀ j, j < 78 → j ≠ 56 → μ' j = μ j) → f6 μ' = fX6_finds 66 (nI k) μ') : zok o1 (fun r μ1 => zok (f6 μ1) (fun r' μ2 => r = r' ∧ zInv μ2)) := by
  refine zE_of (h1.trans (c5_find k hk μ)) ((h2 _ (fun j _ q => zst_row_ne q)).trans (c6_find k hk _)) (h.find k hk ?_ ?_ ?_)
  · intro j _ _ q3 q4
    rw [zst_row_ne q4, zst_row_ne q3]
  · intro j
    rw [zst_row_ne (by decide), zst_at]
    by_cases hj : j = k
    · rw [if_pos ⟨rfl, hj⟩, if_pos hj]
    · rw [if_neg (fun q => hj q.2), if_neg hj]
  · intro j
    rw [zst_at, zst_row_ne (by decide)]
    by_cases hj : j = k
    · rw [if_pos ⟨rfl, hj⟩, if_pos hj]
    · rw [if_neg (fun q => hj q.2), if_neg hj]
