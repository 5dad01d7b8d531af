/-! settles -/
/-- a trial under way: the trial camp and the lent row -/
def ztu (n : Nat) (μ1 μ2 μ1' μ2' : zMem) : Prop := (∀ k, ¬ (33 ≤ k ∧ k ≤ 48) → k ≠ 57 → μ1' k = μ1 k) ∧ (∀ k, k ≠ 67 → k ≠ 72 → μ2' k = μ2 k) ∧ zVl n (μ2' 67) ∧ zSim n 33 μ1' (μ2' 67) ∧ ∀ j, 87 ≤ j → μ2' 67 j = μ2 67 j
theorem ztu.trans {n : Nat} {a b a' b' a'' b'' : zMem} (h : ztu n a b a' b') (h' : ztu n a' b' a'' b'') : ztu n a b a'' b'' :=
  ⟨fun k q1 q2 => (h'.1 k q1 q2).trans (h.1 k q1 q2), fun k q1 q2 => (h'.2.1 k q1 q2).trans (h.2.1 k q1 q2), h'.2.2.1, h'.2.2.2.1, fun j hj => (h'.2.2.2.2 j hj).trans (h.2.2.2.2 j hj)⟩
theorem ztu.rfl {n : Nat} {a b : zMem} (h1 : zVl n (b 67)) (h2 : zSim n 33 a (b 67)) : ztu n a b a b := ⟨fun _ _ _ => Eq.refl _, fun _ _ _ => Eq.refl _, h1, h2, fun _ _ => Eq.refl _⟩
theorem zmv.tu {n : Nat} {a b a' b' : zMem} (h : zmv n 33 a b a' b') : ztu n a b a' b' :=
  ⟨fun k q1 _ => h.1 k (by omega), fun k q1 _ => h.2.1 k q1, h.2.2.1, h.2.2.2.1, fun j hj => h.2.2.2.2 j (by omega)⟩
theorem zlend3 {n : Nat} {μ1 μ2 : zMem} (hv : zVal n (μ2 67)) (hs : zSim n 1 μ1 (μ2 67)) : ∃ α1 α2, fX0_becomeLike 33 1 μ1 = some ((), α1) ∧ fX6_lends 66 μ2 = some ((), α2) ∧ zVl n (α2 67) ∧ zSim n 33 α1 (α2 67) ∧ α2 67 = μ2 67 ∧ (∀ k, ¬ (33 ≤ k ∧ k ≤ 48) → α1 k = μ1 k) ∧ (∀ k, k ≠ 69 → α2 k = μ2 k) ∧
    ∀ ν1 ν2 : zMem, ztu n α1 α2 ν1 ν2 → ∃ γ, fX6_laysBack 66 ν2 = some ((), γ) ∧ (∀ k, ¬ zscr k → k < 78 → ν1 k = μ1 k) ∧ (∀ k, ¬ zscr k → k < 78 → γ k = μ2 k) := by
  obtain ⟨α1, f1, f2, f3, -⟩ := c0_become (c := 33) (d := 1) hv.1 (by omega) hs hv.2.1
  obtain ⟨α2, g1, g2, g3⟩ := c6_becomeF (a := 67) (b := 69) rfl rfl (by decide) μ2
  have e67 : α2 67 = μ2 67 := g2 67 (by decide)
  refine ⟨α1, α2, f1, by unfold fX6_lends; rw [g1, zbd_s], by rw [e67]; exact hv.vl, by rw [e67]; exact f3, e67, f2, g2, fun ν1 ν2 h => ?_⟩
  obtain ⟨γ, k1, k2, k3⟩ := c6_becomeF (a := 69) (b := 67) rfl rfl (by decide) ν2
  refine ⟨γ, by unfold fX6_laysBack; rw [k1, zbd_s], fun k q1 q2 => ?_, fun k q1 q2 => ?_⟩
  · have a := (zscr_or q1).1
    rw [h.1 k a (by unfold zscr at q1; omega), f2 k a]
  · have a := (zscr_or q1).2
    by_cases e : k = 67
    · subst e
      funext j
      rw [k3]
      by_cases w : j < 87
      · rw [if_pos w, h.2.1 69 (by decide) (by decide), g3, if_pos w]
      · rw [if_neg w, h.2.2.2.2 j (by omega), e67]
    · rw [k2 k e, h.2.1 k e (by unfold zscr at q1; omega), g2 k a]
def zaeq (f g : Nat → Int32) : Nat → Nat → Bool
  | 0, _ => true
  | m + 1, j => decide (f j = g j) && zaeq f g m (j + 1)
theorem zaeq_congr {f g f' g' : Nat → Int32} : ∀ m j, (∀ i, j ≤ i → i < j + m → f i = f' i ∧ g i = g' i) → zaeq f g m j = zaeq f' g' m j := by
  intro m
  induction m with
  | zero => intro j _; rfl
  | succ m ih =>
    intro j h
    rw [zaeq, zaeq, (h j (by omega) (by omega)).1, (h j (by omega) (by omega)).2, ih (j + 1) (fun i q1 q2 => h i (by omega) (by omega))]
theorem c0_liesAs (μ : zMem) : fX0_liesAs 33 57 μ = some (zb (zaeq (μ 34) (μ 57) 25 0 = true), μ) := by
  have key : ∀ m j q, j + m = 25 → m < q → fX0_liesAs_2 q 33 57 (nI j) μ = some (zb (zaeq (μ 34) (μ 57) m j = true), μ) := by
    intro m
    induction m with
    | zero =>
      intro j q hj hq
      obtain ⟨q, rfl⟩ : ∃ z, q = z + 1 := ⟨q - 1, by omega⟩
      rw [fX0_liesAs_2, show (25 : Int32) = nI 25 from rfl, zle_t (by omega) (by omega)]; rfl
    | succ m ih =>
      intro j q hj hq
      obtain ⟨q, rfl⟩ : ∃ z, q = z + 1 := ⟨q - 1, by omega⟩
      rw [fX0_liesAs_2, show (25 : Int32) = nI 25 from rfl, zle_f (by omega) (by omega), show zln 57 = 25 from rfl]
      simp only [zgd_ib (show j < 25 by omega) (show 25 < 2 ^ 31 by decide), zcl (show j < 2 ^ 31 by omega), n1]
      by_cases w : μ 34 j = μ 57 j
      · rw [if_pos w, ih (j + 1) q (by omega) (by omega)]
        rw [zaeq, decide_eq_true w, Bool.true_and]
      · rw [if_neg w, zb_f]
        rw [zaeq, decide_eq_false w, Bool.false_and]; decide
  exact key 25 0 200 (by omega) (by omega)
theorem c6_la36 (μ : zMem) : fX6_leavesAll_36 200 66 1 0 μ = some (zb (zaeq (fun j => μ 67 (4 + j)) (μ 72) 25 0 = true), μ) := by
  have k0 : ∀ m j q, j + m = 25 → m < q → fX6_leavesAll_36 q 66 0 (nI j) μ = some (0, μ) := by
    intro m
    induction m with
    | zero =>
      intro j q hj hq
      obtain ⟨q, rfl⟩ : ∃ z, q = z + 1 := ⟨q - 1, by omega⟩
      rw [fX6_leavesAll_36, show (25 : Int32) = nI 25 from rfl, zle_t (by omega) (by omega), zgd_t (Or.inl rfl)]
    | succ m ih =>
      intro j q hj hq
      obtain ⟨q, rfl⟩ : ∃ z, q = z + 1 := ⟨q - 1, by omega⟩
      rw [fX6_leavesAll_36, show (25 : Int32) = nI 25 from rfl, zle_f (by omega) (by omega), if_pos rfl, n1]
      exact ih (j + 1) q (by omega) (by omega)
  have key : ∀ m j q, j + m = 25 → m < q → fX6_leavesAll_36 q 66 1 (nI j) μ = some (zb (zaeq (fun j => μ 67 (4 + j)) (μ 72) m j = true), μ) := by
    intro m
    induction m with
    | zero =>
      intro j q hj hq
      obtain ⟨q, rfl⟩ : ∃ z, q = z + 1 := ⟨q - 1, by omega⟩
      rw [fX6_leavesAll_36, show (25 : Int32) = nI 25 from rfl, zle_t (by omega) (by omega), zgd_t (Or.inr rfl)]; rfl
    | succ m ih =>
      intro j q hj hq
      obtain ⟨q, rfl⟩ : ∃ z, q = z + 1 := ⟨q - 1, by omega⟩
      rw [fX6_leavesAll_36, show (25 : Int32) = nI 25 from rfl, zle_f (by omega) (by omega), if_neg (by decide), show (4 : Int32) = nI 4 from rfl, nI_add]
      simp only [zgd_ib (show j < 25 by omega) (show 25 < 2 ^ 31 by decide), zgd_ib (show 4 + j < 87 by omega) (show 87 < 2 ^ 31 by decide), zcl (show j < 2 ^ 31 by omega), zcl (show 4 + j < 2 ^ 31 by omega), n1]
      by_cases w : μ 72 j = μ 67 (4 + j)
      · rw [if_pos w, ih (j + 1) q (by omega) (by omega)]
        rw [zaeq, decide_eq_true w.symm, Bool.true_and]
      · rw [if_neg w, k0 m (j + 1) q (by omega) (by omega), zb_f]
        rw [zaeq, decide_eq_false (fun z => w z.symm), Bool.false_and]; decide
  exact key 25 0 200 (by omega) (by omega)
theorem c6_la2 (μ : zMem) : ∃ μ', fX6_leavesAll 66 μ = (zbd (fX6_aDay 66 μ') fun _ m2 => fX6_leavesAll_36 200 66 1 0 m2) ∧ (∀ k, k ≠ 72 → μ' k = μ k) ∧ ∀ j, j < 25 → μ' 72 j = μ 67 (4 + j) := by
  have key : ∀ m j q, j + m = 25 → m < q → ∀ μ : zMem, ∃ μ', fX6_leavesAll_2 q 66 (nI j) μ = (zbd (fX6_aDay 66 μ') fun _ m2 => fX6_leavesAll_36 200 66 1 0 m2) ∧ (∀ k, k ≠ 72 → μ' k = μ k) ∧ ∀ i, i < 25 → μ' 72 i = if j ≤ i then μ 67 (4 + i) else μ 72 i := by
    intro m
    induction m with
    | zero =>
      intro j q hj hq μ
      obtain ⟨q, rfl⟩ : ∃ z, q = z + 1 := ⟨q - 1, by omega⟩
      refine ⟨μ, ?_, fun _ _ => rfl, fun i hi => by rw [if_neg (by omega)]⟩
      rw [fX6_leavesAll_2, show (25 : Int32) = nI 25 from rfl, zle_t (by omega) (by omega)]
    | succ m ih =>
      intro j q hj hq μ
      obtain ⟨q, rfl⟩ : ∃ z, q = z + 1 := ⟨q - 1, by omega⟩
      obtain ⟨μ', g1, g2, g3⟩ := ih (j + 1) q (by omega) (by omega) (zst μ 72 j (μ 67 (4 + j)))
      refine ⟨μ', ?_, fun k hk => by rw [g2 k hk, zst_row_ne hk], fun i hi => ?_⟩
      · rw [fX6_leavesAll_2, show (25 : Int32) = nI 25 from rfl, zle_f (by omega) (by omega), show (4 : Int32) = nI 4 from rfl, nI_add]
        simp only [zgd_ib (show j < 25 by omega) (show 25 < 2 ^ 31 by decide), zgd_ib (show 4 + j < 87 by omega) (show 87 < 2 ^ 31 by decide), zcl (show j < 2 ^ 31 by omega), zcl (show 4 + j < 2 ^ 31 by omega), n1]
        exact g1
      · rw [g3 i hi, zst_row_ne (by decide), zst_at]
        by_cases e : i = j
        · subst e; rw [if_neg (by omega), if_pos ⟨rfl, rfl⟩, if_pos (by omega)]
        · rw [if_neg (show ¬ (72 = 72 ∧ i = j) from fun z => e z.2)]
          by_cases e2 : j ≤ i
          · rw [if_pos (by omega), if_pos e2]
          · rw [if_neg (by omega), if_neg e2]
  obtain ⟨μ', h1, h2, h3⟩ := key 25 0 200 (by omega) (by omega) μ
  exact ⟨μ', h1, h2, fun j hj => by rw [h3 j hj, if_pos (by omega)]⟩
theorem e16 : zE16 zInv := by
  intro μ hI
  obtain ⟨⟨n, hc⟩, -⟩ := id hI
  have hn := hc.1.1
  refine ztry hI (fun μ2 h2 => ?_)
  have e67 : μ2 67 = μ 67 := h2 67 (by unfold zscr; omega) (by omega) (by omega)
  obtain ⟨α1, α2, b1, b2, b3, b4, b5, b6, b7, b8⟩ := zlend3 (μ1 := μ) (μ2 := μ2) (by rw [e67]; exact hc.1) (by rw [e67]; exact hc.2.1)
  have key : ∀ m i q, i + m = 101 → m < q → ∀ ν1 ν2 : zMem, zVl n (ν2 67) → zSim n 33 ν1 (ν2 67) → ∃ i' ν1' ν2', ztu n ν1 ν2 ν1' ν2' ∧ fX6_settles_6 q 66 (nI i) ν2 = fX6_settles_25 66 (nI i') ν2' ∧ ((i' ≤ 100 ∧ fX5_settles_13 q 0 (nI i) ν1 = some (nI i', ν1')) ∨ (i' = 101 ∧ fX5_settles_13 q 0 (nI i) ν1 = fX5_finding 0 (nI 3) ν1')) := by
    intro m
    induction m with
    | zero =>
      intro i q hi hq ν1 ν2 hv hs
      obtain ⟨q, rfl⟩ : ∃ z, q = z + 1 := ⟨q - 1, by omega⟩
      refine ⟨i, ν1, ν2, ztu.rfl hv hs, ?_, Or.inr ⟨by omega, ?_⟩⟩
      · rw [fX6_settles_6, show (100 : Int32) = nI 100 from rfl, zlt_t (by omega) (by omega)]
      · rw [fX5_settles_13, show (100 : Int32) = nI 100 from rfl, zlt_t (by omega) (by omega), zbd_eta]; rfl
    | succ m ih =>
      intro i q hi hq ν1 ν2 hv hs
      obtain ⟨q, rfl⟩ : ∃ z, q = z + 1 := ⟨q - 1, by omega⟩
      obtain ⟨κ2, a1, a2, a3⟩ := c6_la2 ν2
      have k67 : κ2 67 = ν2 67 := a2 67 (by decide)
      have hs' : zSim n 33 (zrow ν1 57 (va_cpy (ν1 34) (ν1 57) 0 0 25)) (κ2 67) := by
        rw [k67]; exact hs.congr hn (fun k q1 q2 => zrow_ne (by omega))
      obtain ⟨x1, x2, c1, c2, c3, -, -⟩ := zday (c := 33) (by rw [k67]; exact hv) hs'
      have m1 : ztu n ν1 ν2 x1 x2 := ⟨fun k q1 q2 => by rw [c3.1 k (by omega), zrow_ne q2], fun k q1 q2 => by rw [c3.2.1 k q1, a2 k q2], c3.2.2.1, c3.2.2.2.1, fun j hj => by rw [c3.2.2.2.2 j (by omega), k67]⟩
      have eqv : zaeq (x1 34) (x1 57) 25 0 = zaeq (fun j => x2 67 (4 + j)) (x2 72) 25 0 := by
        refine zaeq_congr 25 0 (fun j _ hj => ⟨c3.2.2.2.1.2.1 j (by omega), ?_⟩)
        rw [c3.1 57 (by omega), zrow_at, if_pos rfl, zcpy0 (by omega), hs.2.1 j (by omega), c3.2.1 72 (by decide), a3 j (by omega)]
      have g5 : fX5_settles_13 (q + 1) 0 (nI i) ν1 = if zb (zaeq (x1 34) (x1 57) 25 0 = true) = 0 then fX5_settles_13 q 0 (nI (i + 1)) x1 else some (nI i, x1) := by
        rw [fX5_settles_13, show (100 : Int32) = nI 100 from rfl, zlt_f (by omega) (by omega), zgd_t (by decide)]
        show zbd (fX0_passDay 33 (zrow ν1 57 (va_cpy (ν1 34) (ν1 57) 0 0 25))) _ = _
        rw [c1, zbd_s]
        show zbd (fX0_liesAs 33 57 x1) _ = _
        rw [c0_liesAs, zbd_s, n1]
      have g6 : fX6_settles_6 (q + 1) 66 (nI i) ν2 = if zb (zaeq (x1 34) (x1 57) 25 0 = true) = 0 then fX6_settles_6 q 66 (nI (i + 1)) x2 else fX6_settles_25 66 (nI i) x2 := by
        rw [fX6_settles_6, show (100 : Int32) = nI 100 from rfl, zlt_f (by omega) (by omega), a1, c2, zbd_s, c6_la36, zbd_s, n1, eqv]
      by_cases w : zaeq (x1 34) (x1 57) 25 0 = true
      · exact ⟨i, x1, x2, m1, g6.trans (zif_t w), Or.inl ⟨by omega, g5.trans (zif_t w)⟩⟩
      · obtain ⟨i', y1, y2, d1, d2, d3⟩ := ih (i + 1) q (by omega) (by omega) x1 x2 c3.2.2.1 c3.2.2.2.1
        refine ⟨i', y1, y2, m1.trans d1, (g6.trans (zif_f w)).trans d2, ?_⟩
        rw [g5, zif_f w]; exact d3
  obtain ⟨i', y1, y2, d1, d2, d3⟩ := key 101 0 200 (by omega) (by omega) α1 α2 b3 b4
  obtain ⟨γ, g1, g2, g3⟩ := b8 y1 y2 d1
  have r5 : fX5_settles 0 μ = fX5_settles_13 200 0 (nI 0) α1 := by
    unfold fX5_settles
    show zbd (fX0_becomeLike 33 1 μ) _ = _
    rw [b1, zbd_s]; rfl
  have r6 : fX6_settles 66 μ2 = fX6_orNone 66 (nI i') (nI 100) γ := by
    unfold fX6_settles
    rw [b2, zbd_s]
    refine d2.trans ?_
    unfold fX6_settles_25
    rw [g1, zbd_s, zbd_eta]; rfl
  refine ⟨y1, γ, g2, g3, ?_⟩
  rcases d3 with ⟨w, d3⟩ | ⟨w, d3⟩
  · refine Or.inl ⟨nI i', r5.trans d3, r6.trans ?_⟩
    unfold fX6_orNone
    rw [zlt_f (by omega) (by omega)]
  · refine Or.inr ⟨3, by omega, r5.trans d3, r6.trans ?_⟩
    unfold fX6_orNone
    rw [zlt_t (by omega) (by omega), zbd_eta]; rfl
