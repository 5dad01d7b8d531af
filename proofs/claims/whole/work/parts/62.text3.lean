/-! texts: an item; a text -/
theorem zfst_at {T : Nat → Bool} : ∀ m i, zfst T m i = -1 ∨ ∃ p, p < i + m ∧ T p = true ∧ zfst T m i = nI p := by
  intro m
  induction m with
  | zero => intro i; exact Or.inl rfl
  | succ m ih =>
    intro i
    rw [zfst]
    by_cases w : T i = true
    · rw [if_pos w]; exact Or.inr ⟨i, by omega, w, rfl⟩
    · rw [if_neg w]
      rcases ih (i + 1) with q | ⟨p, h1, h2, h3⟩
      · exact Or.inl q
      · exact Or.inr ⟨p, by omega, h2, h3⟩
def zrest (μ : zMem) : Option (Int32 × zMem) :=
  zbd (fX3_isWord 53 10 μ) fun r1 m2 =>
  if r1 = 0 then
    zbd (fX3_isWord 53 11 m2) fun r3 m4 =>
    if r3 = 0 then
      zbd (fX3_isWord 53 12 m4) fun r5 m6 =>
      if r5 = 0 then
        some ((0 : Int32), m6)
      else
        zbd (fX3_readSpring 53 33 (0 : Int32) m6) fun r7 m8 =>
        if r7 = 0 then
          some ((0 : Int32), m8)
        else
          some ((1 : Int32), m8)
    else
      zbd (fX3_readSpring 53 33 (1 : Int32) m4) fun r9 m10 =>
      zgd (r9 = 0 ∨ r9 = 1) (
      some (r9, m10))
  else
    zbd (fX3_readHeight 53 33 m2) fun r12 m13 =>
    zgd (r12 = 0 ∨ r12 = 1) (
    some (r12, m13))
theorem c3_item {L : Nat} {b : Nat → Nat} {f : Nat} {ν1 ν2 : zMem} (h1 : zNC L b f ν1) (h2 : zNR L b f ν2) : fX3_readItem 53 33 ν1 = if zfst (fun i => zqis b L f (13 + i)) 7 0 = (-1 : Int32) then zrest ν1 else zbd (fX3_readTent 53 33 (zfst (fun i => zqis b L f (13 + i)) 7 0) ν1) fun r m => zgd (r = 0 ∨ r = 1) (some (r, m)) := by
  have key : ∀ m i q, i + m = 7 → m < q → fX3_readItem_2 q 53 33 (nI i) ν1 = if zfst (fun i => zqis b L f (13 + i)) m i = (-1 : Int32) then zrest ν1 else zbd (fX3_readTent 53 33 (zfst (fun i => zqis b L f (13 + i)) m i) ν1) fun r m => zgd (r = 0 ∨ r = 1) (some (r, m)) := by
    intro m
    induction m with
    | zero =>
      intro i q hi hq
      obtain ⟨q, rfl⟩ : ∃ z, q = z + 1 := ⟨q - 1, by omega⟩
      rw [fX3_readItem_2, show (7 : Int32) = nI 7 from rfl, zle_t (by omega) (by omega), zfst, if_pos rfl]; rfl
    | succ m ih =>
      intro i q hi hq
      obtain ⟨q, rfl⟩ : ∃ z, q = z + 1 := ⟨q - 1, by omega⟩
      have wk := zwk_eq i (by omega)
      rw [fX3_readItem_2, show (7 : Int32) = nI 7 from rfl, zle_f (by omega) (by omega), c3_nameOf i (by omega), zbd_s, (zword h1 h2 wk.2 (w' := 13 + i) (by omega) wk.1).1, zbd_s, zfst, n1]
      by_cases c : zqis b L f (13 + i) = true
      · rw [zif_t c, if_pos c, if_neg (show ¬ nI i = (-1 : Int32) from zne1 (by omega))]
      · rw [zif_f c, if_neg c]
        exact ih (i + 1) q (by omega) (by omega)
  exact key 7 0 200 (by omega) (by omega)
theorem zitem {L : Nat} {b : Nat → Nat} {n f : Nat} {ν1 ν2 : zMem} (h : zGd L b n f ν1 ν2) : ∃ ν1' ν2', zFr ν1 ν2 ν1' ν2' ∧ fX6_item 66 ν2 = some ((), ν2') ∧ ((fX3_readItem 53 33 ν1 = some (1, ν1') ∧ ∃ n' f', f < f' ∧ zGd L b n' f' ν1' ν2') ∨ (fX3_readItem 53 33 ν1 = some (0, ν1') ∧ zBd ν1' ν2')) := by
  obtain ⟨h1, h2, h3, h4⟩ := id h
  have hb := h1.1.1.2
  have hf := h1.2.1
  have wrap : ∀ o : Option (Int32 × zMem), ∀ (r : Int32) ν, (r = 1 ∨ r = 0) → o = some (r, ν) → (zbd o fun r m => zgd (r = 0 ∨ r = 1) (some (r, m))) = some (r, ν) := by
    intro o r ν hr ho
    rw [ho, zbd_s, zgd_t (hr.elim Or.inr Or.inl)]
  rw [c3_item h1 h2]
  unfold fX6_item
  rw [c6_kindHere h2, zbd_s]
  rcases zfst_at (T := fun i => zqis b L f (13 + i)) 7 0 with q | ⟨p, hp, hT, q⟩
  · rw [q, if_pos (show (-1 : Int32) < 0 by decide), if_pos (show (-1 : Int32) = -1 from rfl)]
    unfold zrest
    obtain ⟨w1, w2⟩ := zword (w := 10) (w' := 23) h1 h2 (by omega) (by omega) rfl
    rw [w1, zbd_s]
    by_cases c : zqis b L f 23 = true
    · have h0 : zqso b L f ≠ 0 := by rw [zqis_let hb hf (by omega) c]; decide
      obtain ⟨f1, μ1, μ2, -, -, -, a2, -⟩ := znext h1 h2
      obtain ⟨ν1', ν2', d1, d2, d3⟩ := zheight h0 h a2
      rw [zif_t c, c6_takes1 (by omega) h2 c a2, zbd_s, if_neg (show ¬ (1 : Int32) = 0 by decide)]
      refine ⟨ν1', ν2', d1, d2, ?_⟩
      rcases d3 with ⟨d3, d4⟩ | ⟨d3, d4⟩
      · exact Or.inl ⟨wrap _ 1 ν1' (Or.inl rfl) d3, d4⟩
      · exact Or.inr ⟨wrap _ 0 ν1' (Or.inr rfl) d3, d4⟩
    · rw [zif_f c, c6_takes0 (by omega) h2 c, zbd_s, if_pos (show (0 : Int32) = 0 from rfl)]
      obtain ⟨w3, w4⟩ := zword (w := 11) (w' := 24) h1 h2 (by omega) (by omega) rfl
      rw [w3, zbd_s]
      by_cases c' : zqis b L f 24 = true
      · have h0 : zqso b L f ≠ 0 := by rw [zqis_let hb hf (by omega) c']; decide
        obtain ⟨f1, μ1, μ2, -, -, -, a2, -⟩ := znext h1 h2
        obtain ⟨ν1', ν2', d1, d2, d3⟩ := zspring (a := 1) (by omega) h0 h a2
        rw [zif_t c', c6_takes1 (by omega) h2 c' a2, zbd_s, if_neg (show ¬ (1 : Int32) = 0 by decide), show (1 : Int32) = nI 1 from rfl, d2, zbd_s]
        refine ⟨ν1', ν2', d1, rfl, ?_⟩
        rcases d3 with ⟨d3, d4⟩ | ⟨d3, d4⟩
        · exact Or.inl ⟨wrap _ 1 ν1' (Or.inl rfl) d3, d4⟩
        · exact Or.inr ⟨wrap _ 0 ν1' (Or.inr rfl) d3, d4⟩
      · rw [zif_f c', c6_takes0 (by omega) h2 c', zbd_s, if_pos (show (0 : Int32) = 0 from rfl)]
        obtain ⟨w5', w6'⟩ := zword (w := 12) (w' := 25) h1 h2 (by omega) (by omega) rfl
        rw [w5', zbd_s, w6', zbd_s]
        by_cases c2 : zqis b L f 25 = true
        · have h0 : zqso b L f ≠ 0 := by rw [zqis_let hb hf (by omega) c2]; decide
          obtain ⟨f1, μ1, μ2, -, -, -, a2, -⟩ := znext h1 h2
          obtain ⟨ν1', ν2', d1, d2, d3⟩ := zspring (a := 0) (by omega) h0 h a2
          rw [zif_t c2, zb_t c2, c6_must1 h2, a2, zbd_s, show (0 : Int32) = nI 0 from rfl, d2, zbd_s]
          refine ⟨ν1', ν2', d1, rfl, ?_⟩
          rcases d3 with ⟨d3, d4⟩ | ⟨d3, d4⟩
          · exact Or.inl ⟨by rw [d3, zbd_s]; rfl, d4⟩
          · exact Or.inr ⟨by rw [d3, zbd_s]; rfl, d4⟩
        · rw [zif_f c2, zb_f c2, c6_must0 h2, zbd_s, c6_springW h2.wr, zbd_s]
          exact ⟨ν1, zst ν2 66 11 1, zfrw ν1, rfl, Or.inr ⟨rfl, h2.wr, by rw [zst_ne (by decide), h1.2.2.1, h2.2.2.1]⟩⟩
  · have h0 : zqso b L f ≠ 0 := by rw [zqis_let hb hf (by omega) hT]; decide
    obtain ⟨ν1', ν2', d1, d2, d3⟩ := ztent3 (k := p) (by omega) h0 h
    rw [q, if_neg (show ¬ nI p < 0 from Int32.not_lt.mpr (nI_pos' (by omega))), if_neg (show ¬ nI p = (-1 : Int32) from zne1 (by omega)), d2, zbd_s]
    refine ⟨ν1', ν2', d1, rfl, ?_⟩
    rcases d3 with ⟨d3, d4⟩ | ⟨d3, d4⟩
    · exact Or.inl ⟨wrap _ 1 ν1' (Or.inl rfl) d3, d4⟩
    · exact Or.inr ⟨wrap _ 0 ν1' (Or.inr rfl) d3, d4⟩
theorem zitems {L : Nat} {b : Nat → Nat} : ∀ m q a f, 121 ≤ f + m → m < q → 2 * a ≤ f + 2 → ∀ (n : Nat) (ν1 ν2 : zMem), zGd L b n f ν1 ν2 → ∃ a' ν1' ν2', zFr ν1 ν2 ν1' ν2' ∧ (zbd (fX6_item 66 ν2) fun _ m => fX6_text_24 q 66 (nI a) m) = fX6_text_63 66 (nI a') ν2' ∧
    ((a' ≤ 120 ∧ fX3_readText_11 q 53 33 (nI a) ν1 = some (nI a', ν1') ∧ ∃ n' f', zGd L b n' f' ν1' ν2') ∨ (fX3_readText_11 q 53 33 (nI a) ν1 = some (-1 - ν1' 53 3, ν1') ∧ zBd ν1' ν2')) := by
  intro m
  induction m with
  | zero =>
    intro q a f h1 h2 h3 n ν1 ν2 h
    have := h.1.2.1
    have := h.1.1.1.1
    omega
  | succ m ih =>
    intro q a f hm hq ha n ν1 ν2 h
    obtain ⟨q, rfl⟩ : ∃ z, q = z + 1 := ⟨q - 1, by omega⟩
    have hfL := h.1.2.1
    have hL := h.1.1.1.1
    obtain ⟨κ1, κ2, d1, d2, d3⟩ := zitem h
    rw [fX3_readText_11, show (120 : Int32) = nI 120 from rfl, zlt_f (show a ≤ 120 by omega) (by omega), d2, zbd_s]
    rcases d3 with ⟨d3, n', f', hf', d4⟩ | ⟨d3, d4⟩
    · obtain ⟨g1, g2, g3, g4⟩ := id d4
      have hs := zqso_le (b := b) (L := L) (i := f')
      have hfL' := g1.2.1
      rw [d3, zbd_s, if_neg (show ¬ (1 : Int32) = 0 by decide), g1.2.2.2.1, fX6_text_24, g2.2.2.2.2, if_pos rfl, g2.1.2.1, g2.2.2.1]
      by_cases w0 : zqso b L f' = 0
      · have := zqso_0.1 w0
        rw [if_pos (show nI (zqso b L f') = 0 by rw [w0]; rfl), zle_t (by omega) (by omega)]
        exact ⟨a, κ1, κ2, d1, rfl, Or.inl ⟨by omega, rfl, n', f', d4⟩⟩
      · have hlt : f' < L := Decidable.byContradiction fun z => w0 (zqso_0.2 z)
        rw [if_neg (show ¬ nI (zqso b L f') = 0 from fun z => w0 ((nI_eq (b := 0) (by omega) (by omega)).1 z)), zle_f (by omega) (by omega), c6_isWord (by omega) g2, zbd_s]
        have sm := zqis_semi (b := b) g1.1.1.2 hfL'
        by_cases w3 : zqso b L f' = 3
        · obtain ⟨f2, μ1, μ2, ff, ff', a1, a2, a3, a4, a5, a6, a7⟩ := znext g1 g2
          have := ff' w0
          obtain ⟨a', ν1', ν2', e1, e2, e3⟩ := ih q (a + 1) f2 (by omega) (by omega) (by omega) n' μ1 μ2 (zGd.next (f := f') g3.out.1 g3 g4 a3 a4 a6 a7)
          rw [if_pos (show nI (zqso b L f') = 3 by rw [w3]; rfl), a1, zbd_s, zb_t (sm.2 w3), c6_must1 g2, a2, zbd_s, n1]
          exact ⟨a', ν1', ν2', (d1.trans (zfrn a3 a4 a5)).trans e1, e2, e3⟩
        · obtain ⟨q, rfl⟩ : ∃ z, q = z + 1 := ⟨q - 1, by omega⟩
          rw [if_neg (show ¬ nI (zqso b L f') = 3 from fun z => w3 ((nI_eq (b := 3) (by omega) (by omega)).1 z)), zb_f (fun z => w3 (sm.1 z)), c6_must0 g2, zbd_s, c6_itemW g2.wr, zbd_s, fX6_text_24, zst_eq, if_neg (show ¬ (1 : Int32) = 0 by decide), n1]
          exact ⟨a + 1, κ1, zst κ2 66 11 1, d1.trans (zfrw κ1), rfl, Or.inr ⟨rfl, g2.wr, by rw [zst_ne (by decide), g1.2.2.1, g2.2.2.1]⟩⟩
    · rw [d3, zbd_s, if_pos rfl, fX6_text_24, d4.1.1, if_neg (show ¬ (1 : Int32) = 0 by decide)]
      exact ⟨a, κ1, κ2, d1, rfl, Or.inr ⟨rfl, d4⟩⟩
theorem zneg : ∀ f, f < 121 → (-1 : Int32) - nI f < 0 := by decide +kernel
theorem e31 : zE31 zInv := by
  intro μ hI
  obtain ⟨⟨n, hc⟩, hImg, hFnd, ⟨L, hL, t1, t2, t3⟩, hShe⟩ := id hI
  have hn := hc.1.1
  obtain ⟨b, hb1, hb2, hb3⟩ : ∃ b : Nat → Nat, (∀ i, i < L → b i < 256) ∧ (∀ i, i < L → μ 54 i = nI (b i)) ∧ ∀ i, i < L → μ 73 i = nI (b i) := by
    refine ⟨fun i => (μ 54 i).toNatClampNeg, fun i hi => ?_, fun i hi => ?_, fun i hi => ?_⟩
    all_goals
      obtain ⟨c, h1, h2, h3⟩ := t3 i hi
      have e : (μ 54 i).toNatClampNeg = c := by rw [h2, zcl (by omega)]
      simp only [e]
    · exact h1
    · exact h2
    · exact h3
  have main : ∀ μ2 : zMem, (∀ k, 66 ≤ k → k < 78 → μ2 k = μ k) → ∃ r μ1' μ2', fX5_text 0 μ = some (r, μ1') ∧ fX6_text 66 μ2 = some (r, μ2') ∧ (∀ k, ¬ (1 ≤ k ∧ k ≤ 16) → ¬ (33 ≤ k ∧ k ≤ 48) → k ≠ 53 → μ1' k = μ k) ∧ μ1' 53 1 = 0 ∧ (∀ k, k ≠ 66 → k ≠ 67 → k ≠ 69 → μ2' k = μ2 k) ∧ (∀ j, j ≠ 8 → j ≠ 9 → j ≠ 10 → j ≠ 11 → μ2' 66 j = μ2 66 j) ∧ μ2' 66 8 = 0 ∧ ∃ n, zVal n (μ2' 67) ∧ zSim n 1 μ1' (μ2' 67) ∧ μ1' 1 5 = μ2' 67 0 := by
    intro μ2 h2
    have e67 : μ2 67 = μ 67 := h2 67 (by omega) (by omega)
    obtain ⟨α1, f1, f2, f3, f4⟩ := c0_become (c := 33) (d := 1) hn (by omega) hc.2.1 hc.1.2.1
    obtain ⟨α2, g1, g2, g3⟩ := c6_becomeF (a := 67) (b := 69) rfl rfl (by decide) μ2
    have a67 : α2 67 = μ 67 := (g2 67 (by decide)).trans e67
    have TC : zTC L b α1 := ⟨⟨hL, hb1⟩, by rw [f2 53 (by omega)]; exact t1, fun i hi => by rw [f2 54 (by omega)]; exact hb2 i hi⟩
    have TR : zTR L b α2 := ⟨⟨hL, hb1⟩, by rw [g2 66 (by decide), h2 66 (by omega) (by omega)]; exact t2, fun i hi => by rw [g2 73 (by decide), h2 73 (by omega) (by omega)]; exact hb3 i hi⟩
    obtain ⟨κ1, k1, k2, k3⟩ := c3_next (p := 0) (TC.put (j := 4) (by decide) 0) (zst_eq _ _ _ _) (by omega)
    obtain ⟨κ2, l1, l2, l3, l4⟩ := c6_next (p := 0) ((TR.put (j := 11) (by decide) 0).put (j := 10) (by decide) 0) (zst_eq _ _ _ _) (by omega) (by rw [zst_ne (by decide), zst_eq])
    have e67' : κ2 67 = μ 67 := by rw [l2 67 (by decide), zst_row_ne (by decide), zst_row_ne (by decide), a67]
    have G : zGd L b n (zqsp b (L - 0) 0) κ1 κ2 := ⟨k3, l4, by rw [e67']; exact hc.1.vl, by rw [e67']; exact f3.congr hn (fun k q1 q2 => by rw [k2 k (by omega), zst_row_ne (by omega)])⟩
    obtain ⟨a', ν1, ν2, d1, d2, d3⟩ := zitems 121 200 1 _ (by omega) (by omega) (by omega) n κ1 κ2 G
    have r5 : fX5_text 0 μ = zbd (fX3_readText_11 200 53 33 (nI 1) κ1) fun r7 m8 => if r7 < 0 then some (r7, zst m8 53 1 0) else zbd (fX0_becomeLike 1 33 (zst m8 53 1 0)) fun _ m13 => some (r7, m13) := by
      unfold fX5_text
      show zbd (fX0_becomeLike 33 1 μ) _ = _
      rw [f1, zbd_s]
      unfold fX3_readText
      show zbd (zbd (fX3_nextToken 53 (zst α1 53 4 0)) _) _ = _
      rw [k1, zbd_s]; rfl
    have r6 : fX6_text 66 μ2 = fX6_text_63 66 (nI a') ν2 := by
      rw [← d2]
      unfold fX6_text fX6_lends
      rw [g1, zbd_s, zbd_s, l1, zbd_s]; rfl
    have c1 : ∀ k, ¬ (33 ≤ k ∧ k ≤ 48) → k ≠ 53 → ν1 k = μ k := fun k q1 q2 => by rw [d1.1 k q1 q2, k2 k q2, zst_row_ne q2, f2 k q1]
    have c5 : ν1 33 5 = μ 1 5 := by rw [d1.2.1, k2 33 (by decide), zst_row_ne (by decide)]; exact f4
    have c2 : ∀ k, k ≠ 66 → k ≠ 67 → k ≠ 69 → ν2 k = μ2 k := fun k q1 q2 q3 => by rw [d1.2.2.1 k q1 q2, l2 k q1, zst_row_ne q1, zst_row_ne q1, g2 k q3]
    have c3 : ∀ j, j ≠ 9 → j ≠ 10 → j ≠ 11 → ν2 66 j = μ2 66 j := fun j q1 q2 q3 => by rw [d1.2.2.2.1 j q1 q2 q3, l3 j q1 q2, zst_ne q2, zst_ne q3, g2 66 (by decide)]
    have c4 : ∀ j, 87 ≤ j ∨ j = 0 → ν2 67 j = μ 67 j := fun j hj => by rw [d1.2.2.2.2 j hj, e67']
    have c69 : ν2 69 = α2 69 := by rw [d1.2.2.1 69 (by decide) (by decide), l2 69 (by decide), zst_row_ne (by decide), zst_row_ne (by decide)]
    rcases d3 with ⟨ha', d3, n', f', G'⟩ | ⟨d3, B⟩
    · obtain ⟨-, w2, w3, w4⟩ := G'
      obtain ⟨hn', x2, -⟩ := w3.out
      have sim3 : zSim n' 33 (zst ν1 53 1 0) (ν2 67) := w4.congr hn' (fun k q1 q2 => zst_row_ne (by omega))
      obtain ⟨τ, p1, p2, p3, p4⟩ := c0_become (c := 1) (d := 33) hn' (by omega) sim3 x2
      obtain ⟨dd, hdd, x0⟩ := hc.1.2.2.1
      have v : zVal n' (ν2 67) := by
        have q := zVal_put (k := 0) (v := nI dd) w3 (Or.inr (Or.inl ⟨rfl, dd, hdd, rfl⟩))
        refine zVal_ext q (fun j _ => ?_)
        by_cases z : j = 0
        · subst z; rw [pk_us, c4 0 (Or.inr rfl), x0]
        · rw [pk_un z, pk_un z]
      refine ⟨nI a', τ, zst ν2 66 8 0, ?_, ?_, fun k q1 q2 q3 => ?_, ?_, fun k q1 q2 q3 => by rw [zst_row_ne q1, c2 k q1 q2 q3], fun j q1 q2 q3 q4 => by rw [zst_ne q1, c3 j q2 q3 q4], zst_eq _ _ _ _, n', ?_, ?_, ?_⟩
      · rw [r5, d3, zbd_s, if_neg (Int32.not_lt.mpr (nI_pos' (by omega))), p1, zbd_s]
      · rw [r6]
        unfold fX6_text_63
        rw [zst_ne (by decide), w2.2.2.2.2, if_pos rfl]
      · rw [p2 k (by omega), zst_row_ne q3, c1 k q2 q3]
      · rw [p2 53 (by omega), zst_eq]
      · rw [zst_row_ne (by decide)]; exact v
      · rw [zst_row_ne (by decide)]; exact p3
      · rw [zst_row_ne (by decide), p4, zst_row_ne (by decide), c5, c4 0 (Or.inr rfl)]; exact hc.2.2
    · obtain ⟨hw, L', f', e', hL', he', h8, h9, h10, hf'⟩ := B.1
      have h53 : ν1 53 3 = nI f' := B.2.trans h9
      obtain ⟨γ, y1, y2, y3⟩ := c6_becomeF (a := 69) (b := 67) rfl rfl (by decide) (zst ν2 66 8 0)
      have g67 : γ 67 = μ 67 := by
        funext j
        rw [y3]
        by_cases w : j < 87
        · rw [if_pos w, zst_row_ne (by decide), c69, g3, if_pos w, e67]
        · rw [if_neg w, zst_row_ne (by decide), c4 j (Or.inl (by omega))]
      refine ⟨-1 - nI f', zst ν1 53 1 0, γ, ?_, ?_, fun k q1 q2 q3 => by rw [zst_row_ne q3, c1 k q2 q3], zst_eq _ _ _ _, fun k q1 q2 q3 => by rw [y2 k q2, zst_row_ne q1, c2 k q1 q2 q3], fun j q1 q2 q3 q4 => by rw [y2 66 (by decide), zst_ne q1, c3 j q2 q3 q4], by rw [y2 66 (by decide), zst_eq], n, ?_, ?_, ?_⟩
      · rw [r5, d3, zbd_s, h53, if_pos (zneg f' (by omega))]
      · rw [r6]
        unfold fX6_text_63 fX6_laysBack
        rw [zst_ne (by decide), hw, if_neg (show ¬ (1 : Int32) = 0 by decide), y1, zbd_s, zbd_s, y2 66 (by decide), zst_ne (by decide), h9]
      · rw [g67]; exact hc.1
      · rw [g67]; exact hc.2.1.congr hn (fun k q1 q2 => by rw [zst_row_ne (by omega), c1 k (by omega) (by omega)])
      · rw [g67, zst_row_ne (by decide), c1 1 (by omega) (by omega)]; exact hc.2.2
  obtain ⟨r, μ1, -, a1, -, a3, a4, -⟩ := main μ (fun _ _ _ => rfl)
  obtain ⟨r', μ1', μ2', b1, b2, -, -, b5, b6, b7, n', b8, b9, b10⟩ := main μ1 (fun k q1 q2 => a3 k (by omega) (by omega) (by omega))
  obtain ⟨rfl, rfl⟩ : r' = r ∧ μ1' = μ1 := by
    have := b1.symm.trans a1
    simp only [Option.some.injEq, Prod.mk.injEq] at this
    exact this
  refine zE_of a1 b2 ⟨⟨n', b8, b9.congr b8.1 (fun k q1 q2 => b5 k (by omega) (by omega) (by omega)), ?_⟩, ?_, ?_, ?_, ?_⟩
  · rw [b5 1 (by omega) (by omega) (by omega)]; exact b10
  · refine hImg.congr ?_ ?_ (fun k q1 q2 => ?_) ?_
    · rw [b5 0 (by omega) (by omega) (by omega), a3 0 (by omega) (by omega) (by omega)]
    · rw [b6 3 (by omega) (by omega) (by omega) (by omega), a3 66 (by omega) (by omega) (by omega)]
    · rw [b5 k (by omega) (by omega) (by omega), a3 k (by omega) (by omega) (by omega)]
    · rw [b5 68 (by omega) (by omega) (by omega), a3 68 (by omega) (by omega) (by omega)]
  · refine hFnd.congr ?_ ?_
    · rw [b5 56 (by omega) (by omega) (by omega), a3 56 (by omega) (by omega) (by omega)]
    · rw [b5 70 (by omega) (by omega) (by omega), a3 70 (by omega) (by omega) (by omega)]
  · exact ⟨0, by omega, by rw [b5 53 (by omega) (by omega) (by omega)]; exact a4, b7, fun i hi => absurd hi (by omega)⟩
  · refine hShe.congr (fun k q1 q2 => ?_) ?_ ?_ ?_
    · rw [b5 k (by omega) (by omega) (by omega), a3 k (by omega) (by omega) (by omega)]
    · rw [b5 74 (by omega) (by omega) (by omega), a3 74 (by omega) (by omega) (by omega)]
    · rw [b5 75 (by omega) (by omega) (by omega), a3 75 (by omega) (by omega) (by omega)]
    · rw [b5 76 (by omega) (by omega) (by omega), a3 76 (by omega) (by omega) (by omega)]
