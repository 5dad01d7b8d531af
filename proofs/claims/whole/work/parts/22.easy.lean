/-! the plain promises -/
/-- what the start of a promise gives: n, and the rows -/
theorem zCamp.size {n : Nat} {μ : zMem} (h : zCamp n μ) : n ≤ 6 ∧ μ 67 2 = nI n ∧ μ 1 3 = nI n := ⟨h.1.1, h.1.2.1, by rw [h.2.1.1.1]; exact h.1.2.1⟩
/-- one number of a row, and the same place of the camp -/
theorem zVal_put {n : Nat} {x : Nat → Int32} {k : Nat} {v : Int32} (h : zVal n x) (hv : k = 1 ∨ (k = 0 ∧ ∃ d, d ≤ 99999 ∧ v = nI d) ∨ (k = 3 ∧ ∃ s, s < 2 ^ 25 ∧ v = nI s) ∨ (∃ i, i < 25 ∧ k = 4 + i ∧ ∃ m, m ≤ 99 ∧ v = nI m) ∨ (∃ i, i < 10 ∧ k = 77 + i ∧ (v = -1 ∨ ∃ t, t < n ∧ v = nI t)) ∨ (∃ t, t < n ∧ ((k = 29 + 8 * t ∧ ∃ m, m < 7 ∧ v = nI m) ∨ (k = 29 + 8 * t + 1 ∧ (v = -1 ∨ ∃ m, m < 16 ∧ v = nI m)) ∨ (k = 29 + 8 * t + 2 ∧ ∃ m, m ≤ 99 ∧ v = nI m) ∨ ∃ j, j < 4 ∧ k = 29 + 8 * t + 4 + j ∧ (v = -1 ∨ ∃ m, m ≤ 99 ∧ v = nI m)))) : zVal n (upd x k v) := by
  obtain ⟨h1, h2, h3, h4, h5, h6, h7⟩ := h
  have ne : ∀ a, a ≠ k → upd x k v a = x a := fun a ha => pk_un ha
  have eq : upd x k v k = v := pk_us
  have k2 : k ≠ 2 := by
    rcases hv with q | ⟨q, -⟩ | ⟨q, -⟩ | ⟨i, _, q, -⟩ | ⟨i, _, q, -⟩ | ⟨t, _, ⟨q, -⟩ | ⟨q, -⟩ | ⟨q, -⟩ | ⟨j, _, q, -⟩⟩ <;> omega
  refine ⟨h1, by rw [ne 2 (Ne.symm k2)]; exact h2, ?_, ?_, ?_, ?_, ?_⟩
  · by_cases e : 0 = k
    · subst e; rw [eq]
      rcases hv with q | ⟨q, r⟩ | ⟨q, -⟩ | ⟨i, _, q, -⟩ | ⟨i, _, q, -⟩ | ⟨t, _, ⟨q, -⟩ | ⟨q, -⟩ | ⟨q, -⟩ | ⟨j, _, q, -⟩⟩ <;> first | exact r | (exfalso; omega)
    · rw [ne 0 e]; exact h3
  · by_cases e : 3 = k
    · subst e; rw [eq]
      rcases hv with q | ⟨q, -⟩ | ⟨q, r⟩ | ⟨i, _, q, -⟩ | ⟨i, _, q, -⟩ | ⟨t, _, ⟨q, -⟩ | ⟨q, -⟩ | ⟨q, -⟩ | ⟨j, _, q, -⟩⟩ <;> first | exact r | (exfalso; omega)
    · rw [ne 3 e]; exact h4
  · intro i hi
    by_cases e : 4 + i = k
    · rw [e, eq]
      rcases hv with q | ⟨q, -⟩ | ⟨q, -⟩ | ⟨i', _, q, r⟩ | ⟨i', _, q, -⟩ | ⟨t, _, ⟨q, -⟩ | ⟨q, -⟩ | ⟨q, -⟩ | ⟨j, _, q, -⟩⟩ <;> first | exact r | (exfalso; omega)
    · rw [ne _ e]; exact h5 i hi
  · intro i hi
    by_cases e : 77 + i = k
    · rw [e, eq]
      rcases hv with q | ⟨q, -⟩ | ⟨q, -⟩ | ⟨i', _, q, -⟩ | ⟨i', _, q, r⟩ | ⟨t, _, ⟨q, -⟩ | ⟨q, -⟩ | ⟨q, -⟩ | ⟨j, _, q, -⟩⟩ <;> first | exact r | (exfalso; omega)
    · rw [ne _ e]; exact h6 i hi
  · intro t ht
    obtain ⟨g1, g2, g3, g4⟩ := h7 t ht
    refine ⟨?_, ?_, ?_, ?_⟩
    · by_cases e : 29 + 8 * t = k
      · rw [e, eq]
        rcases hv with q | ⟨q, -⟩ | ⟨q, -⟩ | ⟨i', _, q, -⟩ | ⟨i', _, q, -⟩ | ⟨t', _, ⟨q, r⟩ | ⟨q, -⟩ | ⟨q, -⟩ | ⟨j, _, q, -⟩⟩ <;> first | exact r | (exfalso; omega)
      · rw [ne _ e]; exact g1
    · by_cases e : 29 + 8 * t + 1 = k
      · rw [e, eq]
        rcases hv with q | ⟨q, -⟩ | ⟨q, -⟩ | ⟨i', _, q, -⟩ | ⟨i', _, q, -⟩ | ⟨t', _, ⟨q, -⟩ | ⟨q, r⟩ | ⟨q, -⟩ | ⟨j, _, q, -⟩⟩ <;> first | exact r | (exfalso; omega)
      · rw [ne _ e]; exact g2
    · by_cases e : 29 + 8 * t + 2 = k
      · rw [e, eq]
        rcases hv with q | ⟨q, -⟩ | ⟨q, -⟩ | ⟨i', _, q, -⟩ | ⟨i', _, q, -⟩ | ⟨t', _, ⟨q, -⟩ | ⟨q, -⟩ | ⟨q, r⟩ | ⟨j, _, q, -⟩⟩ <;> first | exact r | (exfalso; omega)
      · rw [ne _ e]; exact g3
    · intro j hj
      by_cases e : 29 + 8 * t + 4 + j = k
      · rw [e, eq]
        rcases hv with q | ⟨q, -⟩ | ⟨q, -⟩ | ⟨i', _, q, -⟩ | ⟨i', _, q, -⟩ | ⟨t', _, ⟨q, -⟩ | ⟨q, -⟩ | ⟨q, -⟩ | ⟨j', _, q, r⟩⟩ <;> first | exact r | (exfalso; omega)
      · rw [ne _ e]; exact g4 j hj
/-- the camp's place of a row's place -/
def zloc (c k : Nat) : Nat × Nat :=
  if k = 0 then (c, 5) else if k = 1 then (c, 6) else if k = 2 then (c, 3) else if k = 3 then (c, 4) else if k < 29 then (c + 1, k - 4)
  else if k < 77 then (if (k - 29) % 8 < 4 then (c + 4 + 2 * ((k - 29) / 8), (k - 29) % 8) else (c + 5 + 2 * ((k - 29) / 8), (k - 29) % 8 - 4)) else (c + 2, k - 77)
theorem zSim_put {n c : Nat} {μ : zMem} {x : Nat → Int32} {k : Nat} {v : Int32} (hn : n ≤ 6) (h : zSim n c μ x) (hk : k < 87) (hk2 : k ≠ 2) (a b : Nat) (hab : zloc c k = (a, b)) : zSim n c (zst μ a b v) (upd x k v) := by
  obtain ⟨⟨h1, h2, h3⟩, h4, h5, h6⟩ := h
  have key : ∀ (a' b' k' : Nat), k' < 87 → zloc c k' = (a', b') → μ a' b' = x k' → (k' = k → True) → ((a' = a ∧ b' = b) ↔ k' = k) → zst μ a b v a' b' = upd x k v k' := by
    intro a' b' k' _ _ e _ hiff
    rw [zst_at]
    by_cases q : k' = k
    · rw [if_pos (hiff.mpr q), q]; exact pk_us.symm
    · rw [if_neg (fun z => q (hiff.mp z)), e]; exact (pk_un q).symm
  have inj : ∀ (a' b' k' : Nat), k' < 87 → (k' - 29) % 8 ≠ 3 ∨ k' < 29 ∨ 77 ≤ k' → zloc c k' = (a', b') → ((a' = a ∧ b' = b) ↔ k' = k) := by
    intro a' b' k' hk' hx' e
    constructor
    · rintro ⟨rfl, rfl⟩
      unfold zloc at e hab
      repeat' split at e
      all_goals (repeat' split at hab)
      all_goals (simp only [Prod.mk.injEq] at e hab; omega)
    · rintro rfl
      rw [e] at hab
      exact ⟨(Prod.mk.inj hab).1, (Prod.mk.inj hab).2⟩
  have all : ∀ (a' b' k' : Nat), k' < 87 → (k' - 29) % 8 ≠ 3 ∨ k' < 29 ∨ 77 ≤ k' → zloc c k' = (a', b') → μ a' b' = x k' → zst μ a b v a' b' = upd x k v k' := fun a' b' k' q1 q2 q3 q4 => key a' b' k' q1 q3 q4 (fun _ => trivial) (inj a' b' k' q1 q2 q3)
  refine ⟨⟨all c 3 2 (by omega) (by omega) rfl h1, all c 4 3 (by omega) (by omega) rfl h2, all c 6 1 (by omega) (by omega) rfl h3⟩, fun i hi => all _ _ _ (by omega) (by omega) ?_ (h4 i hi), fun i hi => all _ _ _ (by omega) (by omega) ?_ (h5 i hi), fun t ht => ⟨⟨all _ _ _ (by omega) (by omega) ?_ (h6 t ht).1.1, all _ _ _ (by omega) (by omega) ?_ (h6 t ht).1.2.1, all _ _ _ (by omega) (by omega) ?_ (h6 t ht).1.2.2⟩, fun j hj => all _ _ _ (by omega) (by omega) ?_ ((h6 t ht).2 j hj)⟩⟩
  · unfold zloc
    rw [if_neg (by omega), if_neg (by omega), if_neg (by omega), if_neg (by omega), if_pos (by omega)]
    simp
  · unfold zloc
    rw [if_neg (by omega), if_neg (by omega), if_neg (by omega), if_neg (by omega), if_neg (by omega), if_neg (by omega)]
    simp
  · unfold zloc
    rw [if_neg (by omega), if_neg (by omega), if_neg (by omega), if_neg (by omega), if_neg (by omega), if_pos (by omega), if_pos (by omega)]
    simp only [Prod.mk.injEq]; omega
  · unfold zloc
    rw [if_neg (by omega), if_neg (by omega), if_neg (by omega), if_neg (by omega), if_neg (by omega), if_pos (by omega), if_pos (by omega)]
    simp only [Prod.mk.injEq]; omega
  · unfold zloc
    rw [if_neg (by omega), if_neg (by omega), if_neg (by omega), if_neg (by omega), if_neg (by omega), if_pos (by omega), if_pos (by omega)]
    simp only [Prod.mk.injEq]; omega
  · unfold zloc
    rw [if_neg (by omega), if_neg (by omega), if_neg (by omega), if_neg (by omega), if_neg (by omega), if_pos (by omega), if_neg (by omega)]
    simp only [Prod.mk.injEq]; omega
theorem zCamp_put {n : Nat} {μ : zMem} {k : Nat} {v : Int32} (h : zCamp n μ) (hk : k < 87) (hk2 : k ≠ 2) (a b : Nat) (hab : zloc 1 k = (a, b)) (hv : zVal n (upd (μ 67) k v)) : zCamp n (zst (zst μ a b v) 67 k v) := by
  obtain ⟨h1, h2, h3⟩ := h
  have ha : 1 ≤ a ∧ a ≤ 16 := by
    unfold zloc at hab
    repeat' split at hab
    all_goals (simp only [Prod.mk.injEq] at hab; omega)
  have e67 : zst (zst μ a b v) 67 k v 67 = upd (μ 67) k v := by
    funext j
    rw [zst_at, zst_row_ne (by omega)]
    unfold upd
    by_cases q : j = k
    · rw [if_pos ⟨rfl, q⟩, if_pos q]
    · rw [if_neg (fun z => q z.2), if_neg q]
  refine ⟨by rw [e67]; exact hv, ?_, ?_⟩
  · rw [e67]
    exact (zSim_put h1.1 h2 hk hk2 a b hab).congr h1.1 (fun j q1 q2 => zst_row_ne (by omega))
  · rw [e67, zst_row_ne (by decide), zst_at]
    by_cases q : k = 0
    · subst q
      have := Prod.mk.inj hab
      rw [if_pos ⟨this.1, this.2⟩]; exact pk_us.symm
    · have h4 : ¬ (1 = a ∧ 5 = b) := by
        unfold zloc at hab
        repeat' split at hab
        all_goals (simp only [Prod.mk.injEq] at hab; omega)
      rw [if_neg h4, h3]; exact (pk_un (Ne.symm q)).symm
theorem zInv_put {n : Nat} {μ : zMem} {k : Nat} {v : Int32} (hI : zInv μ) (h : zCamp n μ) (hk : k < 87) (hk2 : k ≠ 2) (a b : Nat) (hab : zloc 1 k = (a, b)) (hv : zVal n (upd (μ 67) k v)) : zInv (zst (zst μ a b v) 67 k v) := by
  have ha : 1 ≤ a ∧ a ≤ 16 := by
    unfold zloc at hab
    repeat' split at hab
    all_goals (have := h.1.1; simp only [Prod.mk.injEq] at hab; omega)
  exact hI.camp (fun j _ _ q1 q2 => by rw [zst_row_ne q2, zst_row_ne (by omega)]) ⟨n, zCamp_put h hk hk2 a b hab hv⟩
theorem zif_t {α : Sort _} {c : Prop} [Decidable c] {x y : α} (h : c) : (if zb c = 0 then x else y) = y := if_neg (fun q => zb_0.mp q h)
theorem zif_f {α : Sort _} {c : Prop} [Decidable c] {x y : α} (h : ¬ c) : (if zb c = 0 then x else y) = x := if_pos (zb_0.mpr h)
theorem ztent {n : Nat} (hn : n ≤ 6) {x : Int32} : (0 ≤ x ∧ x ≤ nI n - 1) ↔ ∃ t, t < n ∧ x = nI t := by
  constructor
  · rintro ⟨q1, q2⟩
    rcases Nat.eq_zero_or_pos n with q | q
    · subst q
      exact absurd (Int32.le_trans q1 q2) (by decide)
    · rw [show nI n - 1 = nI (n - 1) from zsub1 q] at q2
      obtain ⟨t, ht, e⟩ := zrng (M := nI (n - 1)) (n := n - 1) (nI_toInt (by omega)) ⟨q1, q2⟩
      exact ⟨t, by omega, e⟩
  · rintro ⟨t, ht, rfl⟩
    rw [show nI n - 1 = nI (n - 1) from zsub1 (by omega)]
    exact zrng' (by omega) (by omega)
theorem c6_becomes {k : Nat} (hk : k < 87) (v : Int32) (μ : zMem) : fX6_becomes 66 (nI k) v μ = some (μ 67 k, zst μ 67 k v) := by
  unfold fX6_becomes
  rw [zgd_ib hk (by decide), zgd_ib hk (by decide), zcl (by omega)]
theorem zloc_h {c i : Nat} (hi : i < 25) : zloc c (4 + i) = (c + 1, i) := by
  unfold zloc
  rw [if_neg (by omega), if_neg (by omega), if_neg (by omega), if_neg (by omega), if_pos (by omega)]
  simp
theorem zloc_s {c i : Nat} (hi : i < 10) : zloc c (77 + i) = (c + 2, i) := by
  unfold zloc
  rw [if_neg (by omega), if_neg (by omega), if_neg (by omega), if_neg (by omega), if_neg (by omega), if_neg (by omega)]
  simp
theorem zloc_t {c t w : Nat} (ht : t < 6) (hw : w < 4) : zloc c (29 + 8 * t + w) = (c + 4 + 2 * t, w) := by
  unfold zloc
  rw [if_neg (by omega), if_neg (by omega), if_neg (by omega), if_neg (by omega), if_neg (by omega), if_pos (by omega), if_pos (by omega)]
  simp only [Prod.mk.injEq]; omega
theorem zloc_f {c t j : Nat} (ht : t < 6) (hj : j < 4) : zloc c (29 + 8 * t + 4 + j) = (c + 5 + 2 * t, j) := by
  unfold zloc
  rw [if_neg (by omega), if_neg (by omega), if_neg (by omega), if_neg (by omega), if_neg (by omega), if_pos (by omega), if_neg (by omega)]
  simp only [Prod.mk.injEq]; omega
theorem e0 : zE0 zInv := by
  intro a1 a2 μ hI
  obtain ⟨⟨n, hc⟩, -⟩ := id hI
  by_cases h1 : 0 ≤ a1 ∧ a1 ≤ 24
  · by_cases h2 : 0 ≤ a2 ∧ a2 ≤ 99
    · obtain ⟨i, hi, rfl⟩ := zrng (n := 24) rfl h1
      obtain ⟨v, hv, rfl⟩ := zrng (n := 99) rfl h2
      refine zE_of (r := μ 2 i) (μ1 := zst μ 2 i (nI v)) (μ2 := zst (zst μ 2 i (nI v)) 67 (4 + i) (nI v)) ?_ ?_ (zInv_put hI hc (by omega) (by omega) 2 i (zloc_h (by omega)) (zVal_put hc.1 (Or.inr (Or.inr (Or.inr (Or.inl ⟨i, by omega, rfl, v, hv, rfl⟩))))))
      · unfold fX5_height
        rw [c5_isCell, zbd_s, zif_t h1, c5_isMeasure, zbd_s, zif_t h2, zgd_ib (by omega) (by decide), zgd_ib (by omega) (by decide), zcl (by omega)]
      · unfold fX6_height
        rw [c6_isCell, zbd_s, zif_t h1, c6_isHigh, zbd_s, zif_t h2, show (4 : Int32) + nI i = nI (4 + i) from nI_add 4 i, c6_becomes (by omega), zbd_s, zst_row_ne (by decide), hc.2.1.2.1 i (by omega)]
    · refine zfind hI 0 (by decide) ?_ (fun μ' _ => ?_)
      · unfold fX5_height
        rw [c5_isCell, zbd_s, zif_t h1, c5_isMeasure, zbd_s, zif_f h2, zbd_eta]; rfl
      · unfold fX6_height
        rw [c6_isCell, zbd_s, zif_t h1, c6_isHigh, zbd_s, zif_f h2, zbd_eta]; rfl
  · refine zfind hI 0 (by decide) ?_ (fun μ' _ => ?_)
    · unfold fX5_height
      rw [c5_isCell, zbd_s, zif_f h1, zbd_eta]; rfl
    · unfold fX6_height
      rw [c6_isCell, zbd_s, zif_f h1, zbd_eta]; rfl
theorem e28 : zE28 zInv := by
  intro a1 μ hI
  obtain ⟨⟨n, hc⟩, -⟩ := id hI
  refine zE_of (r := μ 1 6) (μ1 := zst μ 1 6 a1) (μ2 := zst (zst μ 1 6 a1) 67 1 a1) rfl ?_ (zInv_put hI hc (by omega) (by omega) 1 6 rfl (zVal_put hc.1 (Or.inl rfl)))
  unfold fX6_seed
  rw [show (1 : Int32) = nI 1 from rfl, c6_becomes (by omega), zbd_s, zst_row_ne (by decide), hc.2.1.1.2.2]
theorem e30 : zE30 zInv := by
  intro μ hI
  obtain ⟨⟨n, hc⟩, hi, hf, ⟨L, h1, h2, h3, h4⟩, hs⟩ := hI
  refine zE_of (r := nI L) (μ1 := zst μ 53 1 0) (μ2 := zst (zst μ 53 1 0) 66 8 0) ?_ ?_ ?_
  · unfold fX5_wipe; rw [h2]
  · unfold fX6_wipe; rw [zst_row_ne (by decide), h3]
  · have q : ∀ j, j ≠ 53 → j ≠ 66 → zst (zst μ 53 1 0) 66 8 0 j = μ j := fun j q1 q2 => by rw [zst_row_ne q2, zst_row_ne q1]
    refine ⟨⟨n, hc.congr (fun k _ _ => q k (by omega) (by omega)) (q 67 (by omega) (by omega))⟩, hi.congr (by rw [q 0 (by omega) (by omega)]) (by rw [zst_ne (by decide), zst_row_ne (by decide)]) (fun k _ _ => q k (by omega) (by omega)) (q 68 (by omega) (by omega)), hf.congr (q 56 (by omega) (by omega)) (q 70 (by omega) (by omega)), ⟨0, by omega, ?_, ?_, fun i hi => absurd hi (by omega)⟩, hs.congr (fun k _ _ => q k (by omega) (by omega)) (q 74 (by omega) (by omega)) (q 75 (by omega) (by omega)) (q 76 (by omega) (by omega))⟩
    · rw [zst_row_ne (by decide), zst_eq]; rfl
    · rw [zst_eq]; rfl
theorem e41 : zE41 zInv := by
  intro μ hI
  obtain ⟨⟨n, hc⟩, hi, hf, ht, hs⟩ := hI
  have q : ∀ j, j ≠ 0 → j ≠ 66 → zst (zst μ 0 8 0) 66 3 0 j = μ j := fun j q1 q2 => by rw [zst_row_ne q2, zst_row_ne q1]
  have hI2 : zInv (zst (zst μ 0 8 0) 66 3 0) := by
    refine ⟨⟨n, hc.congr (fun k _ _ => q k (by omega) (by omega)) (q 67 (by omega) (by omega))⟩, ⟨?_, Or.inl (zst_eq _ _ _ _)⟩, hf.congr (q 56 (by omega) (by omega)) (q 70 (by omega) (by omega)), ht.congr (by rw [q 53 (by omega) (by omega)]) (by rw [zst_ne (by decide), zst_row_ne (by decide)]) (q 54 (by omega) (by omega)) (q 73 (by omega) (by omega)), hs.congr (fun k _ _ => q k (by omega) (by omega)) (q 74 (by omega) (by omega)) (q 75 (by omega) (by omega)) (q 76 (by omega) (by omega))⟩
    rw [zst_eq, zst_row_ne (by decide), zst_eq]
  by_cases h0 : μ 66 3 = 0
  · refine zE_of (r := 0) (μ1 := zst μ 0 8 0) (μ2 := zst (zst μ 0 8 0) 66 3 0) ?_ ?_ hI2
    · unfold fX5_tear; rw [hi.1, if_pos h0]
    · unfold fX6_tear; rw [zst_row_ne (by decide), if_pos h0]
  · refine zE_of (r := 1) (μ1 := zst μ 0 8 0) (μ2 := zst (zst μ 0 8 0) 66 3 0) ?_ ?_ hI2
    · unfold fX5_tear; rw [hi.1, if_neg h0]
    · unfold fX6_tear; rw [zst_row_ne (by decide), if_neg h0]
