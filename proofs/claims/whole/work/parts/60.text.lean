/-! texts: clauses and items -/
def zFr (a b a' b' : zMem) : Prop := (∀ k, ¬ (33 ≤ k ∧ k ≤ 48) → k ≠ 53 → a' k = a k) ∧ a' 33 5 = a 33 5 ∧ (∀ k, k ≠ 66 → k ≠ 67 → b' k = b k) ∧ (∀ j, j ≠ 9 → j ≠ 10 → j ≠ 11 → b' 66 j = b 66 j) ∧ ∀ j, 87 ≤ j ∨ j = 0 → b' 67 j = b 67 j
theorem zFr.trans {a b a' b' a'' b'' : zMem} (h : zFr a b a' b') (h' : zFr a' b' a'' b'') : zFr a b a'' b'' :=
  ⟨fun k q1 q2 => (h'.1 k q1 q2).trans (h.1 k q1 q2), h'.2.1.trans h.2.1, fun k q1 q2 => (h'.2.2.1 k q1 q2).trans (h.2.2.1 k q1 q2), fun j q1 q2 q3 => (h'.2.2.2.1 j q1 q2 q3).trans (h.2.2.2.1 j q1 q2 q3), fun j q => (h'.2.2.2.2 j q).trans (h.2.2.2.2 j q)⟩
theorem zFr.rfl {a b : zMem} : zFr a b a b := ⟨fun _ _ _ => Eq.refl _, Eq.refl _, fun _ _ _ => Eq.refl _, fun _ _ _ _ => Eq.refl _, fun _ _ => Eq.refl _⟩
def zGd (L : Nat) (b : Nat → Nat) (n f : Nat) (a' b' : zMem) : Prop := zNC L b f a' ∧ zNR L b f b' ∧ zVl n (b' 67) ∧ zSim n 33 a' (b' 67)
def zBd (a' b' : zMem) : Prop := zWr b' ∧ a' 53 3 = b' 66 9
theorem zNC.congr {L : Nat} {b : Nat → Nat} {f : Nat} {μ μ' : zMem} (h : zNC L b f μ) (e1 : μ' 53 = μ 53) (e2 : μ' 54 = μ 54) : zNC L b f μ' := by
  unfold zNC zTC at *; rw [e1, e2]; exact h
theorem zNR.congr {L : Nat} {b : Nat → Nat} {f : Nat} {μ μ' : zMem} (h : zNR L b f μ) (e1 : μ' 66 = μ 66) (e2 : μ' 73 = μ 73) : zNR L b f μ' := by
  unfold zNR zTR at *; rw [e1, e2]; exact h
theorem zfrn {ν1 ν2 μ1 μ2 : zMem} (h1 : ∀ k, k ≠ 53 → μ1 k = ν1 k) (h2 : ∀ k, k ≠ 66 → μ2 k = ν2 k) (h3 : ∀ j, j ≠ 9 → j ≠ 10 → μ2 66 j = ν2 66 j) : zFr ν1 ν2 μ1 μ2 :=
  ⟨fun k _ q => h1 k q, by rw [h1 33 (by decide)], fun k q _ => h2 k q, fun j q1 q2 _ => h3 j q1 q2, fun j _ => by rw [h2 67 (by decide)]⟩
theorem zfrw {ν2 : zMem} (ν1 : zMem) : zFr ν1 ν2 ν1 (zst ν2 66 11 1) :=
  ⟨fun _ _ _ => rfl, rfl, fun k q _ => zst_row_ne q, fun j _ _ q => zst_ne q, fun j _ => by rw [zst_row_ne (by decide)]⟩
theorem zfrp {ν2 : zMem} (ν1 : zMem) {j : Nat} (hj : j < 87) (h0 : j ≠ 0) (v : Int32) : zFr ν1 ν2 ν1 (zst ν2 67 j v) :=
  ⟨fun _ _ _ => rfl, rfl, fun k _ q => zst_row_ne q, fun i _ _ _ => by rw [zst_row_ne (by decide)], fun i q => zst_ne (by omega)⟩
theorem zfrc {ν1 : zMem} (ν2 : zMem) {k j : Nat} (hk : 33 ≤ k ∧ k ≤ 48) (hj : ¬ (k = 33 ∧ j = 5)) (v : Int32) : zFr ν1 ν2 (zst ν1 k j v) ν2 :=
  ⟨fun i q _ => zst_row_ne (fun z => q (by rw [z]; exact hk)), by rw [zst_at, if_neg (fun z => hj ⟨z.1.symm, z.2.symm⟩)], fun _ _ _ => rfl, fun _ _ _ _ => rfl, fun _ _ => rfl⟩
theorem zGd.next {L : Nat} {b : Nat → Nat} {n f f' : Nat} {ν1 ν2 μ1 μ2 : zMem} (hn : n ≤ 6) (h3 : zVl n (ν2 67)) (h4 : zSim n 33 ν1 (ν2 67)) (e1 : ∀ k, k ≠ 53 → μ1 k = ν1 k) (e2 : ∀ k, k ≠ 66 → μ2 k = ν2 k) (g1 : zNC L b f' μ1) (g2 : zNR L b f' μ2) : zGd L b n f' μ1 μ2 := by
  have e67 : μ2 67 = ν2 67 := e2 67 (by decide)
  exact ⟨g1, g2, by rw [e67]; exact h3, by rw [e67]; exact h4.congr hn (fun k q1 q2 => e1 k (by omega))⟩
def zcl5 (w M col t : Nat) (μ : zMem) : Option (Int32 × zMem) :=
  zbd (fX3_isWord 53 w μ) fun r1 m2 =>
  if r1 = 0 then
    some ((1 : Int32), m2)
  else
    zbd (fX3_nextToken 53 m2) fun _ m4 =>
    zbd (fX3_isNumberTo 53 (nI M) m4) fun r5 m6 =>
    if r5 = 0 then
      some ((0 : Int32), m6)
    else
      zbd (fX3_nextToken 53 (zst m6 (37 + 2 * t) col (m6 53 5))) fun _ m8 =>
      some ((1 : Int32), m8)
def zcl6 (w M col t : Nat) (K : zMem → Option (Unit × zMem)) (μ : zMem) : Option (Unit × zMem) :=
  zbd (fX6_takes_ 66 w μ) fun r7 m8 =>
  if r7 = 0 then
    K m8
  else
    zbd (fX6_numberRead 66 (0 : Int32) (nI M) m8) fun r21 m22 =>
    zbd (fX6_sets 66 (nI t) (nI col) r21 m22) fun _ m24 =>
    K m24
theorem c6_takes0 {L : Nat} {b : Nat → Nat} {f w : Nat} (hw : w < 27) {μ : zMem} (h : zNR L b f μ) (c : ¬ zqis b L f w = true) : fX6_takes_ 66 w μ = some (0, μ) := by
  unfold fX6_takes_
  rw [c6_isWord hw h, zbd_s, zb_f c, if_pos rfl, zgd_t (Or.inl rfl)]
theorem c6_takes1 {L : Nat} {b : Nat → Nat} {f w : Nat} (hw : w < 27) {μ μ' : zMem} (h : zNR L b f μ) (c : zqis b L f w = true) (e : fX6_next 66 μ = some ((), μ')) : fX6_takes_ 66 w μ = some (1, μ') := by
  unfold fX6_takes_
  rw [c6_isWord hw h, zbd_s, zb_t c, if_neg (by decide), e, zbd_s, zgd_t (Or.inr rfl)]
theorem zclause {L : Nat} {b : Nat → Nat} {n f t w w' M col : Nat} {ν1 ν2 : zMem} (ht : t < n) (hw : w < 26) (hw' : w' < 26) (e : zsb w = zsb w') (hM : (M = 15 ∧ col = 1) ∨ (M = 99 ∧ col = 2)) (h : zGd L b n f ν1 ν2) :
    ∃ ν1' ν2', zFr ν1 ν2 ν1' ν2' ∧ (∀ K, zcl6 w' M col t K ν2 = K ν2') ∧ ((zcl5 w M col t ν1 = some (1, ν1') ∧ ∃ f', f ≤ f' ∧ zGd L b n f' ν1' ν2') ∨ (zcl5 w M col t ν1 = some (0, ν1') ∧ zBd ν1' ν2')) := by
  obtain ⟨h1, h2, h3, h4⟩ := h
  have hn := h3.out.1
  obtain ⟨w1, w2⟩ := zword h1 h2 hw hw' e
  unfold zcl5 zcl6
  rw [w1, zbd_s]
  by_cases c : zqis b L f w' = true
  · obtain ⟨f1, μ1, μ2, ff, -, a1, a2, a3, a4, a5, a6, a7⟩ := znext h1 h2
    rw [zif_t c, a1, zbd_s, c6_takes1 (by omega) h2 c a2]
    have M99 : M ≤ 99 := by omega
    have e67 : μ2 67 = ν2 67 := a4 67 (by decide)
    rcases znum a6 a7 M M99 with ⟨v, hv, hs2, k1, k2, k3⟩ | ⟨k1, r, k3⟩
    · obtain ⟨f2, κ1, κ2, gg, -, b1, b2, b3, b4, b5, b6, b7⟩ := znext (ν1 := zst μ1 (37 + 2 * t) col (nI v)) (ν2 := μ2) (a6.congr (zst_row_ne (by omega)) (zst_row_ne (by omega))) a7
      rw [b2, zbd_s] at k3
      have e67' : κ2 67 = ν2 67 := (b4 67 (by decide)).trans e67
      have sim1 : zSim n 33 (zst μ1 (37 + 2 * t) col (nI v)) (upd (ν2 67) (29 + 8 * t + col) (nI v)) := by
        have q : zSim n 33 μ1 (ν2 67) := h4.congr hn (fun k q1 q2 => a3 k (by omega))
        exact zSim_put hn q (by omega) (by omega) _ _ (zloc_t (c := 33) (t := t) (w := col) (by omega) (by omega))
      refine ⟨κ1, zst κ2 67 (29 + 8 * t + col) (nI v), ?_, fun K => ?_, Or.inl ⟨?_, f2, by omega, b6, b7.congr (zst_row_ne (by decide)) (zst_row_ne (by decide)), ?_, ?_⟩⟩
      · exact (((zfrn a3 a4 a5).trans (zfrc μ2 (by omega) (by omega) (nI v))).trans (zfrn b3 b4 b5)).trans (zfrp κ1 (by omega) (by omega) _)
      · rw [zbd_s, if_neg (by decide), k3, zbd_s, c6_sets (by omega), zbd_s]
      · rw [k1, zbd_s, if_neg (by decide), k2, b1, zbd_s]
      · rw [zst_r, e67']
        refine zVl_put h3 (Or.inr (Or.inr (Or.inr ⟨t, ht, ?_⟩)))
        rcases hM with ⟨rfl, rfl⟩ | ⟨rfl, rfl⟩
        · exact Or.inr (Or.inl ⟨rfl, Or.inr ⟨v, by omega, rfl⟩⟩)
        · exact Or.inr (Or.inr (Or.inl ⟨rfl, v, by omega, rfl⟩))
      · rw [zst_r, e67']
        exact sim1.congr hn (fun k q1 q2 => b3 k (by omega))
    · refine ⟨μ1, zst (zst μ2 66 11 1) 67 (29 + 8 * t + col) r, ?_, fun K => ?_, Or.inr ⟨?_, a7.wr.congr (zst_row_ne (by decide)), ?_⟩⟩
      · exact ((zfrn a3 a4 a5).trans (zfrw μ1)).trans (zfrp μ1 (by omega) (by omega) _)
      · rw [zbd_s, if_neg (by decide), k3, zbd_s, c6_sets (by omega), zbd_s]
      · rw [k1, zbd_s, if_pos rfl]
      · rw [zst_row_ne (by decide), zst_ne (by decide), a6.2.2.1, a7.2.2.1]
  · refine ⟨ν1, ν2, zFr.rfl, fun K => ?_, Or.inl ⟨?_, f, Nat.le_refl _, h1, h2, h3, h4⟩⟩
    · rw [c6_takes0 (by omega) h2 c, zbd_s, if_pos rfl]
    · rw [zif_f c]
/-- the four pieces of felt -/
theorem zfeltW {t : Nat} (ht : t < 6) : ∀ m i q, i + m = 4 → m < q → ∀ μ : zMem, zWr μ → ∃ μ', fX6_tentTold_92 q 66 (nI t) (nI i) μ = some ((), μ') ∧ (∀ k, k ≠ 67 → μ' k = μ k) ∧ ∀ j, 87 ≤ j ∨ j = 0 → μ' 67 j = μ 67 j := by
  intro m
  induction m with
  | zero =>
    intro i q hi hq μ h
    obtain ⟨q, rfl⟩ : ∃ z, q = z + 1 := ⟨q - 1, by omega⟩
    exact ⟨μ, by rw [fX6_tentTold_92, show (4 : Int32) = nI 4 from rfl, zle_t (by omega) (by omega)], fun _ _ => rfl, fun _ _ => rfl⟩
  | succ m ih =>
    intro i q hi hq μ h
    obtain ⟨q, rfl⟩ : ∃ z, q = z + 1 := ⟨q - 1, by omega⟩
    obtain ⟨r, hr⟩ := c6_numW h 0 99
    obtain ⟨μ', k1, k2, k3⟩ := ih (i + 1) q (by omega) (by omega) (zst μ 67 (29 + 8 * t + (4 + i)) r) (h.congr (zst_row_ne (by decide)))
    refine ⟨μ', ?_, fun k hk => by rw [k2 k hk, zst_row_ne hk], fun j hj => by rw [k3 j hj, zst_ne (by omega)]⟩
    rw [fX6_tentTold_92, show (4 : Int32) = nI 4 from rfl, zle_f (by omega) (by omega), hr, zbd_s, nI_add, c6_sets (by omega), zbd_s, n1]
    exact k1
theorem zfelt17 {L : Nat} {b : Nat → Nat} {n t : Nat} (ht : t < n) : ∀ m i q, i + m = 4 → m < q → ∀ (f : Nat) (ν1 ν2 : zMem), zGd L b n f ν1 ν2 → ∃ ν1' ν2', zFr ν1 ν2 ν1' ν2' ∧ fX6_tentTold_92 q 66 (nI t) (nI i) ν2 = some ((), ν2') ∧ ((fX3_readFelt_17 q 53 (37 + 2 * t) (nI i) ν1 = some (1, ν1') ∧ ∃ f', f ≤ f' ∧ zGd L b n f' ν1' ν2') ∨ (fX3_readFelt_17 q 53 (37 + 2 * t) (nI i) ν1 = some (0, ν1') ∧ zBd ν1' ν2')) := by
  intro m
  induction m with
  | zero =>
    intro i q hi hq f ν1 ν2 h
    obtain ⟨q, rfl⟩ : ∃ z, q = z + 1 := ⟨q - 1, by omega⟩
    exact ⟨ν1, ν2, zFr.rfl, by rw [fX6_tentTold_92, show (4 : Int32) = nI 4 from rfl, zle_t (by omega) (by omega)], Or.inl ⟨by rw [fX3_readFelt_17, show (4 : Int32) = nI 4 from rfl, zle_t (by omega) (by omega)], f, Nat.le_refl _, h⟩⟩
  | succ m ih =>
    intro i q hi hq f ν1 ν2 h
    obtain ⟨q, rfl⟩ : ∃ z, q = z + 1 := ⟨q - 1, by omega⟩
    obtain ⟨h1, h2, h3, h4⟩ := h
    have hn := h3.out.1
    rw [fX6_tentTold_92, fX3_readFelt_17, show (4 : Int32) = nI 4 from rfl, zle_f (by omega) (by omega), zle_f (by omega) (by omega), show (99 : Int32) = nI 99 from rfl]
    rcases znum h1 h2 99 (by omega) with ⟨v, hv, hs2, k1, k2, k3⟩ | ⟨k1, r, k3⟩
    · obtain ⟨f2, κ1, κ2, gg, -, b1, b2, b3, b4, b5, b6, b7⟩ := znext (ν1 := zst ν1 (38 + 2 * t) i (nI v)) (ν2 := ν2) (h1.congr (zst_row_ne (by omega)) (zst_row_ne (by omega))) h2
      rw [b2, zbd_s] at k3
      have e67' : κ2 67 = ν2 67 := b4 67 (by decide)
      have sim1 : zSim n 33 (zst ν1 (38 + 2 * t) i (nI v)) (upd (ν2 67) (29 + 8 * t + 4 + i) (nI v)) :=
        zSim_put hn h4 (by omega) (by omega) _ _ (zloc_f (c := 33) (t := t) (j := i) (by omega) (by omega))
      obtain ⟨ν1', ν2', d1, d2, d3⟩ := ih (i + 1) q (by omega) (by omega) f2 κ1 (zst κ2 67 (29 + 8 * t + 4 + i) (nI v)) ⟨b6, b7.congr (zst_row_ne (by decide)) (zst_row_ne (by decide)), by
        rw [zst_r, e67']
        exact zVl_put h3 (Or.inr (Or.inr (Or.inr ⟨t, ht, Or.inr (Or.inr (Or.inr ⟨i, by omega, rfl, Or.inr ⟨v, by omega, rfl⟩⟩))⟩))), by
        rw [zst_r, e67']
        exact sim1.congr hn (fun k q1 q2 => b3 k (by omega))⟩
      have fr : zFr ν1 ν2 ν1' ν2' := (((zfrc ν2 (by omega) (by omega) (nI v)).trans (zfrn b3 b4 b5)).trans (zfrp κ1 (by omega) (by omega) _)).trans d1
      refine ⟨ν1', ν2', fr, ?_, ?_⟩
      · rw [k3, zbd_s, nI_add, c6_sets (by omega), zbd_s, n1, show 29 + 8 * t + (4 + i) = 29 + 8 * t + 4 + i by omega]
        exact d2
      · have g : (zbd (fX3_isNumberTo 53 (nI 99) ν1) fun r5 m6 => if r5 = 0 then some ((0 : Int32), m6) else zgd (zib (nI i) 4) (zbd (fX3_nextToken 53 (zst m6 (37 + 2 * t + 1) (nI i).toNatClampNeg (m6 53 5))) fun _ m10 => fX3_readFelt_17 q 53 (37 + 2 * t) (nI i + 1) m10)) = fX3_readFelt_17 q 53 (37 + 2 * t) (nI (i + 1)) κ1 := by
          rw [k1, zbd_s, if_neg (by decide), zgd_ib (by omega) (by decide), zcl (by omega), k2, show 37 + 2 * t + 1 = 38 + 2 * t by omega, b1, zbd_s, n1]
        rw [g]
        rcases d3 with ⟨d3, f', hf', d4⟩ | ⟨d3, d4⟩
        · exact Or.inl ⟨d3, f', by omega, d4⟩
        · exact Or.inr ⟨d3, d4⟩
    · obtain ⟨μ', c1, c2, c3⟩ := zfeltW (t := t) (by omega) m (i + 1) q (by omega) (by omega) (zst (zst ν2 66 11 1) 67 (29 + 8 * t + (4 + i)) r) (h2.wr.congr (zst_row_ne (by decide)))
      refine ⟨ν1, μ', ?_, ?_, Or.inr ⟨?_, h2.wr.congr ?_, ?_⟩⟩
      · refine ⟨fun _ _ _ => rfl, rfl, fun k q1 q2 => by rw [c2 k q2, zst_row_ne q2, zst_row_ne q1], fun j _ _ q3 => by rw [c2 66 (by decide), zst_row_ne (by decide), zst_ne q3], fun j hj => by rw [c3 j hj, zst_ne (by omega), zst_row_ne (by decide)]⟩
      · rw [k3, zbd_s, nI_add, c6_sets (by omega), zbd_s, n1]
        exact c1
      · rw [k1, zbd_s, if_pos rfl]
      · rw [c2 66 (by decide), zst_row_ne (by decide)]
      · rw [c2 66 (by decide), zst_row_ne (by decide), zst_ne (by decide), h1.2.2.1, h2.2.2.1]
theorem zfelt {L : Nat} {b : Nat → Nat} {n f t : Nat} {ν1 ν2 : zMem} (ht : t < n) (h : zGd L b n f ν1 ν2) : ∃ ν1' ν2', zFr ν1 ν2 ν1' ν2' ∧ fX6_tentTold_80 66 (nI t) ν2 = some ((), ν2') ∧ ((fX3_readFelt 53 (37 + 2 * t) ν1 = some (1, ν1') ∧ ∃ f', f ≤ f' ∧ zGd L b n f' ν1' ν2') ∨ (fX3_readFelt 53 (37 + 2 * t) ν1 = some (0, ν1') ∧ zBd ν1' ν2')) := by
  obtain ⟨h1, h2, h3, h4⟩ := id h
  have hn := h3.out.1
  obtain ⟨w1, w2⟩ := zword (w := 9) (w' := 22) h1 h2 (by omega) (by omega) rfl
  unfold fX3_readFelt fX6_tentTold_80
  rw [w1, zbd_s]
  by_cases c : zqis b L f 22 = true
  · obtain ⟨f1, μ1, μ2, ff, -, a1, a2, a3, a4, a5, a6, a7⟩ := znext h1 h2
    rw [zif_t c, a1, zbd_s, c6_takes1 (by omega) h2 c a2, zbd_s, if_neg (by decide)]
    obtain ⟨ν1', ν2', d1, d2, d3⟩ := zfelt17 ht 4 0 200 (by omega) (by omega) f1 μ1 μ2 (zGd.next (f := f) hn h3 h4 a3 a4 a6 a7)
    refine ⟨ν1', ν2', (zfrn a3 a4 a5).trans d1, d2, ?_⟩
    rcases d3 with ⟨d3, f', hf', d4⟩ | ⟨d3, d4⟩
    · exact Or.inl ⟨d3, f', by omega, d4⟩
    · exact Or.inr ⟨d3, d4⟩
  · refine ⟨ν1, ν2, zFr.rfl, ?_, Or.inl ⟨zif_f c, f, Nat.le_refl _, h⟩⟩
    rw [c6_takes0 (by omega) h2 c, zbd_s, if_pos rfl]
theorem c6_80W {μ : zMem} (h : zWr μ) (t : Int32) : fX6_tentTold_80 66 t μ = some ((), μ) := by
  unfold fX6_tentTold_80; rw [c6_takesW h, zbd_s, if_pos rfl]
theorem c6_57W {μ : zMem} (h : zWr μ) (t : Int32) : fX6_tentTold_57 66 t μ = some ((), μ) := by
  unfold fX6_tentTold_57; rw [c6_takesW h, zbd_s, if_pos rfl, c6_80W h]
/-- a tent's item -/
theorem ztent3 {L : Nat} {b : Nat → Nat} {n f k : Nat} {ν1 ν2 : zMem} (hk : k < 7) (h0 : zqso b L f ≠ 0) (h : zGd L b n f ν1 ν2) : ∃ ν1' ν2', zFr ν1 ν2 ν1' ν2' ∧ fX6_tentTold 66 (nI k) ν2 = some ((), ν2') ∧ ((fX3_readTent 53 33 (nI k) ν1 = some (1, ν1') ∧ ∃ n' f', f < f' ∧ zGd L b n' f' ν1' ν2') ∨ (fX3_readTent 53 33 (nI k) ν1 = some (0, ν1') ∧ zBd ν1' ν2')) := by
  obtain ⟨h1, h2, h3, h4⟩ := id h
  obtain ⟨hn, x2, -⟩ := h3.out
  have s33 : ν1 33 3 = nI n := h4.1.1.trans x2
  unfold fX3_readTent fX6_tentTold
  rw [zgd_t zi2, show ν2 (66 + 1) (2 : Int32).toNatClampNeg = nI n from x2, s33, show (6 : Int32) = nI 6 from rfl]
  by_cases w : n < 6
  · rw [zlt_t w (by omega), zle_f w (by omega), zgd_ib w (by decide), zcl (by omega)]
    obtain ⟨α1, f1, m1, m2, m3, m4, m5⟩ := c0_addTent (c := 33) (Or.inr (Or.inr rfl)) w (nI k) s33
    obtain ⟨g1, μ1, μ2, gg, gg', a1, a2, a3, a4, a5, a6, a7⟩ := znext (ν1 := α1) (ν2 := ν2) (h1.congr (m1 53 (by omega) (by omega) (by omega)) (m1 54 (by omega) (by omega) (by omega))) h2
    have x2' : μ2 67 2 = nI n := by rw [a4 67 (by decide)]; exact x2
    obtain ⟨κ2, q1, q2, q3, q4, q5, q6⟩ := c6_adds w (nI k) x2'
    rw [a4 67 (by decide)] at q6
    have vl : zVl (n + 1) (κ2 67) := by
      unfold zVl
      have ne : ∀ j, j ≠ 0 → upd (κ2 67) 0 (nI 0) j = κ2 67 j := fun j hj => pk_un hj
      refine zVal_add w hk h3 (by rw [ne 2 (by omega)]; exact q3) ⟨by rw [ne _ (by omega)]; exact q4.1, by rw [ne _ (by omega)]; exact q4.2.1, by rw [ne _ (by omega)]; exact q4.2.2⟩ (fun j hj => by rw [ne _ (by omega)]; exact q5 j hj) (fun j hj hj2 => ?_)
      by_cases z : j = 0
      · subst z; rw [pk_us, pk_us]
      · rw [pk_un z, pk_un z]; exact q6 j hj hj2
    have sm : zSim (n + 1) 33 α1 (κ2 67) := zSim_add h4 q3 q4 q5 q6 w (fun j _ z1 z2 z3 => m1 j z1 z2 z3) m2 m3 m4 m5
    have fr1 : zFr ν1 ν2 μ1 κ2 := by
      refine ⟨fun k q1' q2' => by rw [a3 k q2', m1 k (by omega) (by omega) (by omega)], by rw [a3 33 (by decide), m3 5 (by decide)], fun k z1 z2 => by rw [q2 k z2, a4 k z1], fun j z1 z2 _ => by rw [q2 66 (by decide), a5 j z1 z2], fun j hj => q6 j (by omega) (by omega)⟩
    have G1 : zGd L b (n + 1) g1 μ1 κ2 := ⟨a6, a7.congr (q2 66 (by decide)) (q2 73 (by decide)), vl, sm.congr (by omega) (fun k z1 z2 => a3 k (by omega))⟩
    obtain ⟨β1, β2, d1, d2, d3⟩ := zclause (t := n) (w := 7) (w' := 20) (M := 15) (col := 1) (by omega) (by omega) (by omega) rfl (Or.inl ⟨rfl, rfl⟩) G1
    have r6 : fX6_tentTold_17 66 (nI k) 1 66 ν2 = fX6_tentTold_57 66 (nI n) β2 := by
      unfold fX6_tentTold_17
      rw [c6_must1 h2, a2, zbd_s, a7.2.2.2.2, if_pos rfl, q1, zbd_s]
      exact d2 (fX6_tentTold_57 66 (nI n))
    have e5 : ∀ ν, fX3_readPitch 53 (33 + 3 + 1 + 2 * n) ν = zcl5 7 15 1 n ν := fun ν => by
      rw [show 33 + 3 + 1 + 2 * n = 37 + 2 * n by omega]; rfl
    have e5' : ∀ ν, fX3_readWorn 53 (33 + 3 + 1 + 2 * n) ν = zcl5 8 99 2 n ν := fun ν => by
      rw [show 33 + 3 + 1 + 2 * n = 37 + 2 * n by omega]; rfl
    rw [f1, zbd_s, a1, zbd_s, r6, e5]
    rcases d3 with ⟨d3, f', hf', d4⟩ | ⟨d3, d4⟩
    · obtain ⟨γ1, γ2, k1, k2, k3⟩ := zclause (t := n) (w := 8) (w' := 21) (M := 99) (col := 2) (by omega) (by omega) (by omega) rfl (Or.inr ⟨rfl, rfl⟩) d4
      have r6' : fX6_tentTold_57 66 (nI n) β2 = fX6_tentTold_80 66 (nI n) γ2 := k2 (fX6_tentTold_80 66 (nI n))
      rw [d3, zbd_s, if_neg (by decide), r6', e5']
      rcases k3 with ⟨k3, f2', hf2', k4⟩ | ⟨k3, k4⟩
      · obtain ⟨δ1, δ2, p1, p2, p3⟩ := zfelt (t := n) (by omega) k4
        rw [k3, zbd_s, if_neg (by decide), p2, show 33 + 3 + 1 + 2 * n = 37 + 2 * n by omega]
        refine ⟨δ1, δ2, ((fr1.trans d1).trans k1).trans p1, rfl, ?_⟩
        rcases p3 with ⟨p3, f3', hf3', p4⟩ | ⟨p3, p4⟩
        · have := gg' h0
          exact Or.inl ⟨by rw [p3, zbd_s, if_neg (by decide)], n + 1, f3', by omega, p4⟩
        · exact Or.inr ⟨by rw [p3, zbd_s, if_pos rfl], p4⟩
      · refine ⟨γ1, γ2, (fr1.trans d1).trans k1, c6_80W k4.1 _, Or.inr ⟨by rw [k3, zbd_s, if_pos rfl], k4⟩⟩
    · refine ⟨β1, β2, fr1.trans d1, c6_57W d4.1 _, Or.inr ⟨by rw [d3, zbd_s, if_pos rfl], d4⟩⟩
  · rw [zlt_f (by omega) (by omega), zle_t (by omega) (by omega)]
    refine ⟨ν1, zst ν2 66 11 1, zfrw ν1, ?_, Or.inr ⟨rfl, h2.wr, ?_⟩⟩
    · unfold fX6_tentTold_17
      rw [c6_must0 h2, zbd_s, zst_eq, if_neg (by decide)]
    · rw [zst_ne (by decide), h1.2.2.1, h2.2.2.1]
