/-! a corner, a tent, a day -/
theorem c6_presses {k f g : Nat} (hk : k < 7) (hf : f ≤ 99) (hg : g ≤ 99) (μ : zMem) : ∃ v, v < 1000 ∧ fX6_presses (nI k) (nI f) (nI g) μ = some (nI v, μ) ∧ min v 99 = zpr k f g := by
  have pp : ∀ b, b ≤ 1 → fX6_presses_11 (nI k) (nI f) (nI g) (nI b) (nI g) μ = some (nI (if k = 1 then f else if k = 2 then g else if k = 3 then g + b else if k = 4 then g + b + 3 else if k = 5 then (f + 3 * g) / 4 else if k = 6 then f + 1 else (f + g) / 2), μ) := by
    intro b hb
    unfold fX6_presses_11
    rw [show (1 : Int32) = nI 1 from rfl, show (2 : Int32) = nI 2 from rfl, show (3 : Int32) = nI 3 from rfl, show (4 : Int32) = nI 4 from rfl, show (5 : Int32) = nI 5 from rfl, show (6 : Int32) = nI 6 from rfl]
    simp only [zeqk hk (show 1 < 7 by omega), zeqk hk (show 2 < 7 by omega), zeqk hk (show 3 < 7 by omega), zeqk hk (show 4 < 7 by omega), zeqk hk (show 5 < 7 by omega), zeqk hk (show 6 < 7 by omega)]
    rw [nI_add g b, nI_add, pk_mul, nI_add f (3 * g), pk_div (by omega) (by omega) (by omega), nI_add f 1, nI_add f g, pk_div (by omega) (by omega) (by omega)]
    repeat' split
    all_goals rfl
  unfold fX6_presses
  by_cases w : f ≤ g
  · refine ⟨_, ?_, (zle_t w (by omega)).trans (pp 0 (by omega)), ?_⟩
    · repeat' split
      all_goals omega
    · unfold zpr
      rw [if_pos w]
      repeat' split
      all_goals omega
  · refine ⟨_, ?_, (zle_f (by omega) (by omega)).trans (pp 1 (by omega)), ?_⟩
    · repeat' split
      all_goals omega
    · unfold zpr
      rw [if_neg w]
      repeat' split
      all_goals omega
theorem c4_taken {T k w f g : Nat} (hk : k < 7) (hw : w ≤ 99) (hf : f ≤ 99) (hg : g ≤ 99) (μ : zMem) (h : μ T 0 = nI k) (h2 : μ T 2 = nI w) : fX4_taken T (nI f) (nI g) μ = some (nI (ztk k w f g), μ) := by
  unfold fX4_taken
  rw [h, h2]
  rw [show (1 : Int32) = nI 1 from rfl, show (2 : Int32) = nI 2 from rfl, show (3 : Int32) = nI 3 from rfl, show (4 : Int32) = nI 4 from rfl, show (5 : Int32) = nI 5 from rfl, show (6 : Int32) = nI 6 from rfl, show (99 : Int32) = nI 99 from rfl, show (50 : Int32) = nI 50 from rfl]
  simp only [zeqk hk (show 1 < 7 by omega), zeqk hk (show 2 < 7 by omega), zeqk hk (show 3 < 7 by omega), zeqk hk (show 4 < 7 by omega), zeqk hk (show 5 < 7 by omega), zeqk hk (show 6 < 7 by omega)]
  rw [nI_add f g, pk_div (by omega) (by omega) (by omega), nI_add g f, pk_div (by omega) (by omega) (by omega), nI_add, zmin (by omega) (by omega), Nat.add_comm g f]
  unfold ztk
  by_cases q : 50 ≤ w
  · rw [zle_t q (by omega), if_pos q]
    repeat' split
    all_goals rfl
  · rw [zle_f (by omega) (by omega), if_neg q]
    repeat' split
    all_goals rfl
theorem c6_takes {k w f g : Nat} (hk : k < 7) (hw : w ≤ 99) (hf : f ≤ 99) (hg : g ≤ 99) (μ : zMem) : ∃ v, v < 1000 ∧ fX6_takes (nI k) (nI w) (nI f) (nI g) μ = some (nI v, μ) ∧ min v 99 = ztk k w f g := by
  refine ⟨if k = 1 then f else if k = 2 then g else if k = 3 then (f + g) / 2 else if k = 4 then (f + g) / 2 + 1 else if k = 5 then (if 50 ≤ w then g else f) else if k = 6 then f else (f + g) / 2, ?_, ?_, ?_⟩
  · repeat' split
    all_goals omega
  · unfold fX6_takes
    rw [show (1 : Int32) = nI 1 from rfl, show (2 : Int32) = nI 2 from rfl, show (3 : Int32) = nI 3 from rfl, show (4 : Int32) = nI 4 from rfl, show (5 : Int32) = nI 5 from rfl, show (6 : Int32) = nI 6 from rfl, show (50 : Int32) = nI 50 from rfl]
    simp only [zeqk hk (show 1 < 7 by omega), zeqk hk (show 2 < 7 by omega), zeqk hk (show 3 < 7 by omega), zeqk hk (show 4 < 7 by omega), zeqk hk (show 5 < 7 by omega), zeqk hk (show 6 < 7 by omega)]
    rw [nI_add f g, pk_div (by omega) (by omega) (by omega), nI_add]
    by_cases q : 50 ≤ w
    · rw [zle_t q (by omega), if_pos q]
      repeat' split
      all_goals rfl
    · rw [zle_f (by omega) (by omega), if_neg q]
      repeat' split
      all_goals rfl
  · unfold ztk
    repeat' split
    all_goals omega
/-- what a day leaves alone -/
def zkeep (x y : Nat → Int32) : Prop := ∀ k, (1 ≤ k ∧ k ≤ 3) ∨ (29 ≤ k ∧ k < 77 ∧ (k - 29) % 8 < 2) ∨ 77 ≤ k → y k = x k
theorem zkeep.trans {x y z : Nat → Int32} (h : zkeep x y) (h' : zkeep y z) : zkeep x z := fun k hk => (h' k hk).trans (h k hk)
theorem zkeep.rfl {x : Nat → Int32} : zkeep x x := fun _ _ => Eq.refl _
theorem zkeep_put {x : Nat → Int32} {k : Nat} {v : Int32} (hk : k = 0 ∨ (4 ≤ k ∧ k < 29) ∨ (29 ≤ k ∧ k < 77 ∧ 2 ≤ (k - 29) % 8)) : zkeep x (upd x k v) := fun j hj => pk_un (by omega)
/-- the two sides move together: the camp at c, and the reference's row -/
def zmv (n c : Nat) (μ1 μ2 μ1' μ2' : zMem) : Prop := (∀ k, ¬ (c ≤ k ∧ k ≤ c + 15) → μ1' k = μ1 k) ∧ (∀ k, k ≠ 67 → μ2' k = μ2 k) ∧ zVl n (μ2' 67) ∧ zSim n c μ1' (μ2' 67) ∧ zkeep (μ2 67) (μ2' 67)
theorem zmv.trans {n c : Nat} {a b a' b' a'' b'' : zMem} (h : zmv n c a b a' b') (h' : zmv n c a' b' a'' b'') : zmv n c a b a'' b'' :=
  ⟨fun k hk => (h'.1 k hk).trans (h.1 k hk), fun k hk => (h'.2.1 k hk).trans (h.2.1 k hk), h'.2.2.1, h'.2.2.2.1, h.2.2.2.2.trans h'.2.2.2.2⟩
theorem zcorner {n c t j p : Nat} {μ1 μ2 : zMem} (hv : zVl n (μ2 67)) (hs : zSim n c μ1 (μ2 67)) (ht : t < n) (hj : j < 4) (hp : p < 16) (hpe : μ2 67 (29 + 8 * t + 1) = nI p) : ∃ μ1' μ2', (∀ q, fX0_pressAndTake_2 (q + 1) c (c + 4 + 2 * t) (nI j) μ1 = fX0_pressAndTake_2 q c (c + 4 + 2 * t) (nI (j + 1)) μ1') ∧ fX6_pressesOn 66 (nI t) (nI j) μ2 = some ((), μ2') ∧ zmv n c μ1 μ2 μ1' μ2' ∧ μ2' 67 0 = μ2 67 0 ∧ μ1' c 5 = μ1 c 5 := by
  obtain ⟨hn, v2, -, v4, -, v6⟩ := hv.out
  obtain ⟨⟨k, hk, hke⟩, -, ⟨w, hw, hwe⟩, hfe⟩ := v6 t ht
  obtain ⟨s1, s2, s3, s4⟩ := hs
  obtain ⟨⟨t0, t1, t2⟩, tf⟩ := s4 t ht
  have hcl := zce_lt p hp j hj
  obtain ⟨g, hg, hge⟩ := v4 _ hcl
  have g1 : μ1 (c + 1) (zce p j) = nI g := (s2 _ hcl).trans hge
  have i5 : ∀ ν : zMem, fX6_its 66 (nI t) ((4 : Int32) + nI j) ν = some (ν 67 (29 + 8 * t + 4 + j), ν) := fun ν => by
    rw [show (4 : Int32) = nI 4 from rfl, nI_add, c6_its (by omega), show 29 + 8 * t + (4 + j) = 29 + 8 * t + 4 + j by omega]
  have st : ∀ (v : Int32) (ν : zMem), fX6_sets 66 (nI t) ((4 : Int32) + nI j) v ν = some ((), zst ν 67 (29 + 8 * t + 4 + j) v) := fun v ν => by
    rw [show (4 : Int32) = nI 4 from rfl, nI_add, c6_sets (by omega), show 29 + 8 * t + (4 + j) = 29 + 8 * t + 4 + j by omega]
  have i1 : fX6_its 66 (nI t) (1 : Int32) μ2 = some (nI p, μ2) := (c6_its (w := 1) (by omega) μ2).trans (by rw [hpe])
  have a5 : ∀ q, fX0_pressAndTake_2 (q + 1) c (c + 4 + 2 * t) (nI j) μ1 = (if μ1 (c + 5 + 2 * t) j = (-1 : Int32) then fX0_pressAndTake_2 q c (c + 4 + 2 * t) (nI (j + 1)) (zst μ1 (c + 5 + 2 * t) j (nI g)) else zbd (fX4_pressed (c + 4 + 2 * t) (μ1 (c + 5 + 2 * t) j) (nI g) μ1) fun r8 m9 => zbd (fX4_taken (c + 4 + 2 * t) (μ1 (c + 5 + 2 * t) j) (nI g) (zst m9 (c + 1) (zce p j) r8)) fun r12 m13 => fX0_pressAndTake_2 q c (c + 4 + 2 * t) (nI (j + 1)) (zst m13 (c + 5 + 2 * t) j r12)) := by
    intro q
    rw [fX0_pressAndTake_2, show (4 : Int32) = nI 4 from rfl, zle_f (by omega) (by omega), t1, hpe, c5_cellUnder hp hj, zbd_s]
    simp only [zgd_ib hj (show 4 < 2 ^ 31 by decide), zgd_ib hcl (show 25 < 2 ^ 31 by decide), zcl (show j < 2 ^ 31 by omega), zcl (show zce p j < 2 ^ 31 by omega), n1]
    rw [show c + 4 + 2 * t + 1 = c + 5 + 2 * t by omega, g1]
  have a6 : fX6_pressesOn 66 (nI t) (nI j) μ2 = (if μ2 67 (29 + 8 * t + 4 + j) < 0 then fX6_pressesOn_58 66 (nI t) (nI j) (μ2 67 (29 + 8 * t + 4 + j)) (nI g) μ2 else zbd (fX6_its 66 (nI t) (0 : Int32) μ2) fun r22 m23 => zbd (fX6_presses r22 (μ2 67 (29 + 8 * t + 4 + j)) (nI g) m23) fun r24 m25 => zbd (fX6_held r24 m25) fun r26 m27 => fX6_pressesOn_58 66 (nI t) (nI j) (μ2 67 (29 + 8 * t + 4 + j)) (nI g) (zst m27 67 (4 + zce p j) r26)) := by
    unfold fX6_pressesOn
    rw [i1, zbd_s, c6_cellOf hp hj, zbd_s, i5, zbd_s, show (4 : Int32) = nI 4 from rfl, nI_add]
    simp only [zgd_ib (show 4 + zce p j < 87 by omega) (show 87 < 2 ^ 31 by decide), zcl (show 4 + zce p j < 2 ^ 31 by omega)]
    rw [show 66 + 1 = 67 from rfl, hge]
  have hl : zloc c (29 + 8 * t + 4 + j) = (c + 5 + 2 * t, j) := zloc_f (by omega) hj
  rcases hfe j hj with hf | ⟨f, hf, hfe⟩
  · have e5 : μ1 (c + 5 + 2 * t) j = -1 := (tf j hj).trans hf
    refine ⟨zst μ1 (c + 5 + 2 * t) j (nI g), zst μ2 67 (29 + 8 * t + 4 + j) (nI g), fun q => by rw [a5, if_pos e5], ?_, ⟨fun k hk => zst_row_ne (by omega), fun k hk => zst_row_ne hk, ?_, ?_, ?_⟩, zst_ne (by omega), by rw [zst_row_ne (by omega)]⟩
    · rw [a6, hf, if_pos (by decide)]
      unfold fX6_pressesOn_58
      rw [if_neg (by decide), st, zbd_s]
    · rw [zst_r]; exact zVl_put hv (Or.inr (Or.inr (Or.inr ⟨t, ht, Or.inr (Or.inr (Or.inr ⟨j, hj, rfl, Or.inr ⟨g, hg, rfl⟩⟩))⟩)))
    · rw [zst_r]; exact zSim_put hn ⟨s1, s2, s3, s4⟩ (by omega) (by omega) _ _ hl
    · rw [zst_r]; exact zkeep_put (by omega)
  · have e5 : μ1 (c + 5 + 2 * t) j = nI f := (tf j hj).trans hfe
    have P99 : zpr k f g ≤ 99 := zpr_le hf hg
    have T99 : ztk k w f g ≤ 99 := ztk_le hf hg
    obtain ⟨pv, hpv, p1, p2⟩ := c6_presses hk hf hg μ2
    have hs1 : zSim n c (zst μ1 (c + 1) (zce p j) (nI (zpr k f g))) (upd (μ2 67) (4 + zce p j) (nI (zpr k f g))) := zSim_put hn ⟨s1, s2, s3, s4⟩ (by omega) (by omega) _ _ (zloc_h hcl)
    have hv1 : zVl n (upd (μ2 67) (4 + zce p j) (nI (zpr k f g))) := zVl_put hv (Or.inr (Or.inl ⟨_, hcl, rfl, _, P99, rfl⟩))
    refine ⟨zst (zst μ1 (c + 1) (zce p j) (nI (zpr k f g))) (c + 5 + 2 * t) j (nI (ztk k w f g)), zst (zst μ2 67 (4 + zce p j) (nI (zpr k f g))) 67 (29 + 8 * t + 4 + j) (nI (ztk k w f g)), fun q => ?_, ?_, ⟨fun k hk => ?_, fun k hk => ?_, ?_, ?_, ?_⟩, ?_, ?_⟩
    · rw [a5, e5, if_neg (show ¬ nI f = (-1 : Int32) from zne1 (by omega)), c4_pressed hk hf hg _ (t0.trans hke), zbd_s, c4_taken hk hw hf hg _ (by rw [zst_row_ne (by omega)]; exact t0.trans hke) (by rw [zst_row_ne (by omega)]; exact t2.trans hwe), zbd_s]
    · have j0 : fX6_its 66 (nI t) (0 : Int32) μ2 = some (nI k, μ2) := (c6_its (w := 0) (by omega) μ2).trans (by rw [show 29 + 8 * t + 0 = 29 + 8 * t by omega, hke])
      have j0' : ∀ v, fX6_its 66 (nI t) (0 : Int32) (zst μ2 67 (4 + zce p j) v) = some (nI k, zst μ2 67 (4 + zce p j) v) := fun v => (c6_its (w := 0) (by omega) _).trans (by rw [zst_ne (by omega), show 29 + 8 * t + 0 = 29 + 8 * t by omega, hke])
      have j2' : ∀ v, fX6_its 66 (nI t) (2 : Int32) (zst μ2 67 (4 + zce p j) v) = some (nI w, zst μ2 67 (4 + zce p j) v) := fun v => (c6_its (w := 2) (by omega) _).trans (by rw [zst_ne (by omega), hwe])
      rw [a6, hfe, if_neg (nI_pos (by omega)), j0, zbd_s, p1, zbd_s, c6_held (by omega), zbd_s, p2]
      unfold fX6_pressesOn_58
      obtain ⟨tv, htv, q1, q2⟩ := c6_takes hk hw hf hg (zst μ2 67 (4 + zce p j) (nI (zpr k f g)))
      rw [if_pos (nI_pos' (by omega)), j0', zbd_s, j2', zbd_s, q1, zbd_s, c6_held (by omega), zbd_s, q2, st, zbd_s]
    · rw [zst_row_ne (by omega), zst_row_ne (by omega)]
    · rw [zst_row_ne hk, zst_row_ne hk]
    · rw [zst_r, zst_r]; exact zVl_put hv1 (Or.inr (Or.inr (Or.inr ⟨t, ht, Or.inr (Or.inr (Or.inr ⟨j, hj, rfl, Or.inr ⟨_, T99, rfl⟩⟩))⟩)))
    · rw [zst_r, zst_r]; exact zSim_put hn hs1 (by omega) (by omega) _ _ hl
    · rw [zst_r, zst_r]; exact (zkeep_put (by omega)).trans (zkeep_put (by omega))
    · rw [zst_ne (by omega), zst_ne (by omega)]
    · rw [zst_row_ne (by omega), zst_row_ne (by omega)]
