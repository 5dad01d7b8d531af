/-! when, pitchFor -/
/-- moved in the trial camp, and in what is scratch -/
def ztw (n : Nat) (a b a' b' : zMem) : Prop := (∀ k, ¬ zscr k → k < 78 → a' k = a k) ∧ (∀ k, k ≠ 67 → (¬ zscr k ∨ k = 69) → k < 78 → b' k = b k) ∧ zVl n (b' 67) ∧ zSim n 33 a' (b' 67) ∧ ∀ j, 87 ≤ j → b' 67 j = b 67 j
theorem ztw.trans {n : Nat} {a b a' b' a'' b'' : zMem} (h : ztw n a b a' b') (h' : ztw n a' b' a'' b'') : ztw n a b a'' b'' :=
  ⟨fun k q1 q2 => (h'.1 k q1 q2).trans (h.1 k q1 q2), fun k q1 q2 q3 => (h'.2.1 k q1 q2 q3).trans (h.2.1 k q1 q2 q3), h'.2.2.1, h'.2.2.2.1, fun j hj => (h'.2.2.2.2 j hj).trans (h.2.2.2.2 j hj)⟩
theorem ztw.rfl {n : Nat} {a b : zMem} (h1 : zVl n (b 67)) (h2 : zSim n 33 a (b 67)) : ztw n a b a b := ⟨fun _ _ _ => Eq.refl _, fun _ _ _ _ => Eq.refl _, h1, h2, fun _ _ => Eq.refl _⟩
theorem ztu.tw {n : Nat} {a b a' b' : zMem} (h : ztu n a b a' b') : ztw n a b a' b' :=
  ⟨fun k q1 _ => h.1 k (by unfold zscr at q1; omega) (by unfold zscr at q1; omega), fun k q1 q2 _ => h.2.1 k q1 (by unfold zscr at q2; omega), h.2.2.1, h.2.2.2.1, h.2.2.2.2⟩
theorem zlend4 {n : Nat} {μ1 μ2 : zMem} (hv : zVal n (μ2 67)) (hs : zSim n 1 μ1 (μ2 67)) : ∃ α1 α2, fX0_becomeLike 33 1 μ1 = some ((), α1) ∧ fX6_lends 66 μ2 = some ((), α2) ∧ zVl n (α2 67) ∧ zSim n 33 α1 (α2 67) ∧ α2 67 = μ2 67 ∧ (∀ k, ¬ (33 ≤ k ∧ k ≤ 48) → α1 k = μ1 k) ∧ (∀ k, k ≠ 69 → α2 k = μ2 k) ∧
    ∀ ν1 ν2 : zMem, ztw n α1 α2 ν1 ν2 → ∃ γ, fX6_laysBack 66 ν2 = some ((), γ) ∧ (∀ k, ¬ zscr k → k < 78 → ν1 k = μ1 k) ∧ (∀ k, ¬ zscr k → k < 78 → γ k = μ2 k) := by
  obtain ⟨α1, f1, f2, f3, -⟩ := c0_become (c := 33) (d := 1) hv.1 (by omega) hs hv.2.1
  obtain ⟨α2, g1, g2, g3⟩ := c6_becomeF (a := 67) (b := 69) rfl rfl (by decide) μ2
  have e67 : α2 67 = μ2 67 := g2 67 (by decide)
  refine ⟨α1, α2, f1, by unfold fX6_lends; rw [g1, zbd_s], by rw [e67]; exact hv.vl, by rw [e67]; exact f3, e67, f2, g2, fun ν1 ν2 h => ?_⟩
  obtain ⟨γ, k1, k2, k3⟩ := c6_becomeF (a := 69) (b := 67) rfl rfl (by decide) ν2
  refine ⟨γ, by unfold fX6_laysBack; rw [k1, zbd_s], fun k q1 q2 => ?_, fun k q1 q2 => ?_⟩
  · rw [h.1 k q1 q2, f2 k (zscr_or q1).1]
  · have a := (zscr_or q1).2
    by_cases e : k = 67
    · subst e
      funext j
      rw [k3]
      by_cases w : j < 87
      · rw [if_pos w, h.2.1 69 (by decide) (Or.inr rfl) (by decide), g3, if_pos w]
      · rw [if_neg w, h.2.2.2.2 j (by omega), e67]
    · rw [k2 k e, h.2.1 k e (Or.inl q1) q2, g2 k a]
/-- does a flock get through, in the trial camp -/
theorem zthr {n s v : Nat} (hn : n ≤ 6) (hs : s < 25) (hv : v < 25) (l : Int32) {μ1 μ2 : zMem} (h1 : zVl n (μ2 67)) (h2 : zSim n 33 μ1 (μ2 67)) : ∃ r ν1 ν2, (r = -1 ∨ ∃ k, k ≤ 25 ∧ r = nI k) ∧ fX1_stepsBetween 49 33 (nI s) (nI v) l μ1 = some (r, ν1) ∧ fX6_isThrough 66 (nI s) (nI v) l μ2 = some (zb (r ≠ -1), ν2) ∧ ztw n μ1 μ2 ν1 ν2 := by
  obtain ⟨ν1, ν2, f1, f2, f3, f4, -, f5⟩ := zflock (n := n) (c := 33) (s := s) (by omega) (by omega) hs l h2
  obtain ⟨g1, g2⟩ := f5 v hv
  have e67 : ν2 67 = μ2 67 := f4 67 (by decide)
  refine ⟨ν2 71 v, ν1, ν2, g2, ?_, ?_, ⟨zfr1 f3, fun k _ q _ => f4 k (by unfold zscr at q; omega), by rw [e67]; exact h1, by rw [e67]; exact h2.congr hn (fun k q1 q2 => f3 k (by omega) (by omega)), fun j _ => by rw [e67]⟩⟩
  · unfold fX1_stepsBetween
    rw [f1, zbd_s, zgd_ib hv (by decide), zcl (by omega), show ν1 (49 + 1) v = ν2 71 v from g1]
  · unfold fX6_isThrough
    rw [f2, zbd_s, zgd_ib hv (by decide), zcl (by omega), show ν2 (66 + 5) v = ν2 71 v from rfl]
    rcases g2 with q | ⟨k, hk, q⟩
    · rw [q, if_pos (by decide), zb_f (show ¬ ((-1 : Int32) ≠ -1) from fun z => z rfl)]
    · rw [q, if_neg (Int32.not_lt.mpr (nI_pos' (by omega))), zb_t (show nI k ≠ -1 from zne1 (by omega))]
theorem e15 : zE15 zInv := by
  intro a1 a2 a3 μ hI
  obtain ⟨⟨n, hc⟩, -⟩ := id hI
  have hn := hc.1.1
  by_cases h1 : 0 ≤ a1 ∧ a1 ≤ 24
  · by_cases h2 : 0 ≤ a2 ∧ a2 ≤ 24
    · by_cases h3 : 0 ≤ a3 ∧ a3 ≤ 99
      · obtain ⟨s, hs, rfl⟩ := zrng (n := 24) rfl h1
        obtain ⟨v, hv, rfl⟩ := zrng (n := 24) rfl h2
        refine ztry hI (fun μ2 h => ?_)
        have e67 := zz67 h
        obtain ⟨α1, α2, b1, b2, b3, b4, b5, b6, b7, b8⟩ := zlend4 (μ1 := μ) (μ2 := μ2) (by rw [e67]; exact hc.1) (by rw [e67]; exact hc.2.1)
        have key : ∀ m i q, i + m = 101 → m < q → ∀ ν1 ν2 : zMem, zVl n (ν2 67) → zSim n 33 ν1 (ν2 67) → ∃ i' ν1' ν2', ztw n ν1 ν2 ν1' ν2' ∧ fX6_when_22 q 66 (nI s) (nI v) a3 (nI i) ν2 = fX6_when_49 66 (nI i') ν2' ∧ ((i' ≤ 100 ∧ fX5_when_41 q 0 (nI s) (nI v) a3 (nI i) ν1 = some (nI i', ν1')) ∨ (i' = 101 ∧ fX5_when_41 q 0 (nI s) (nI v) a3 (nI i) ν1 = fX5_finding 0 (nI 3) ν1')) := by
          intro m
          induction m with
          | zero =>
            intro i q hi hq ν1 ν2 hv' hs'
            obtain ⟨q, rfl⟩ : ∃ z, q = z + 1 := ⟨q - 1, by omega⟩
            refine ⟨i, ν1, ν2, ztw.rfl hv' hs', ?_, Or.inr ⟨by omega, ?_⟩⟩
            · rw [fX6_when_22, show (100 : Int32) = nI 100 from rfl, zlt_t (by omega) (by omega)]
            · rw [fX5_when_41, show (100 : Int32) = nI 100 from rfl, zlt_t (by omega) (by omega), zbd_eta]; rfl
          | succ m ih =>
            intro i q hi hq ν1 ν2 hv' hs'
            obtain ⟨q, rfl⟩ : ∃ z, q = z + 1 := ⟨q - 1, by omega⟩
            obtain ⟨r, x1, x2, c0, c1, c2, c3⟩ := zthr hn (s := s) (v := v) (by omega) (by omega) a3 hv' hs'
            obtain ⟨y1, y2, d1, d2, d3, -, -⟩ := zday (c := 33) c3.2.2.1 c3.2.2.2.1
            have g5 : fX5_when_41 (q + 1) 0 (nI s) (nI v) a3 (nI i) ν1 = if r = (-1 : Int32) then fX5_when_41 q 0 (nI s) (nI v) a3 (nI (i + 1)) y1 else some (nI i, x1) := by
              rw [fX5_when_41, show (100 : Int32) = nI 100 from rfl, zlt_f (by omega) (by omega), show 0 + 49 = 49 from rfl, show 0 + 33 = 33 from rfl, c1, zbd_s, d1, zbd_s, n1]
            have g6 : fX6_when_22 (q + 1) 66 (nI s) (nI v) a3 (nI i) ν2 = if zb (r ≠ -1) = 0 then fX6_when_22 q 66 (nI s) (nI v) a3 (nI (i + 1)) y2 else fX6_when_49 66 (nI i) x2 := by
              rw [fX6_when_22, show (100 : Int32) = nI 100 from rfl, zlt_f (by omega) (by omega), c2, zbd_s, d2, zbd_s, n1]
            by_cases w : r = -1
            · obtain ⟨i', z1, z2, k1, k2, k3⟩ := ih (i + 1) q (by omega) (by omega) y1 y2 d3.2.2.1 d3.2.2.2.1
              refine ⟨i', z1, z2, (c3.trans d3.tu.tw).trans k1, (g6.trans (zif_f (fun z => z w))).trans k2, ?_⟩
              rw [g5, if_pos w]; exact k3
            · exact ⟨i, x1, x2, c3, g6.trans (zif_t w), Or.inl ⟨by omega, g5.trans (if_neg w)⟩⟩
        obtain ⟨i', y1, y2, d1, d2, d3⟩ := key 101 0 200 (by omega) (by omega) α1 α2 b3 b4
        obtain ⟨γ, g1, g2, g3⟩ := b8 y1 y2 d1
        have r5 : fX5_when 0 (nI s) (nI v) a3 μ = fX5_when_41 200 0 (nI s) (nI v) a3 (nI 0) α1 := by
          unfold fX5_when
          rw [c5_isCell, zbd_s, zif_t h1, c5_isCell, zbd_s, zif_t h2, c5_isMeasure, zbd_s, zif_t h3]
          show zbd (fX0_becomeLike 33 1 μ) _ = _
          rw [b1, zbd_s]; rfl
        have r6 : fX6_when 66 (nI s) (nI v) a3 μ2 = fX6_orNone 66 (nI i') (nI 100) γ := by
          unfold fX6_when
          rw [c6_areWay, zbd_s, zif_t ⟨h1, h2, h3⟩, b2, zbd_s]
          refine d2.trans ?_
          unfold fX6_when_49
          rw [g1, zbd_s, zbd_eta]; rfl
        refine ⟨y1, γ, g2, g3, ?_⟩
        rcases d3 with ⟨w, d3⟩ | ⟨w, d3⟩
        · refine Or.inl ⟨nI i', r5.trans d3, r6.trans ?_⟩
          unfold fX6_orNone
          rw [zlt_f (by omega) (by omega)]
        · refine Or.inr ⟨3, by omega, r5.trans d3, r6.trans ?_⟩
          unfold fX6_orNone
          rw [zlt_t (by omega) (by omega), zbd_eta]; rfl
      · refine zfind hI 0 (by decide) ?_ (fun μ' h => ?_)
        · unfold fX5_when; rw [c5_isCell, zbd_s, zif_t h1, c5_isCell, zbd_s, zif_t h2, c5_isMeasure, zbd_s, zif_f h3, zbd_eta]; rfl
        · unfold fX6_when; rw [c6_areWay, zbd_s, zif_f (fun z => h3 z.2.2), zbd_eta]; rfl
    · refine zfind hI 0 (by decide) ?_ (fun μ' h => ?_)
      · unfold fX5_when; rw [c5_isCell, zbd_s, zif_t h1, c5_isCell, zbd_s, zif_f h2, zbd_eta]; rfl
      · unfold fX6_when; rw [c6_areWay, zbd_s, zif_f (fun z => h2 z.2.1), zbd_eta]; rfl
  · refine zfind hI 0 (by decide) ?_ (fun μ' h => ?_)
    · unfold fX5_when; rw [c5_isCell, zbd_s, zif_f h1, zbd_eta]; rfl
    · unfold fX6_when; rw [c6_areWay, zbd_s, zif_f (fun z => h1 z.1), zbd_eta]; rfl
/-! pitchFor -/
def ztr5 (t s v p : Nat) (l : Int32) (μ : zMem) : Option (Int32 × zMem) :=
  zbd (fX0_becomeLike 33 1 μ) fun _ m20 =>
  zbd (fX0_passDay 33 (zst m20 (37 + 2 * t) 1 (nI p))) fun _ m27 =>
  fX1_stepsBetween 49 33 (nI s) (nI v) l m27
def ztr6 (t s v p : Nat) (l : Int32) (μ : zMem) : Option (Int32 × zMem) :=
  zbd (fX6_lends 66 μ) fun _ m10 =>
  zbd (fX6_aDay 66 (zst m10 67 (29 + 8 * t + 1) (nI p))) fun _ m14 =>
  zbd (fX6_isThrough 66 (nI s) (nI v) l m14) fun r15 m16 =>
  zbd (fX6_laysBack 66 m16) fun _ m18 => some (r15, m18)
theorem zpft {n t s v p : Nat} (ht : t < n) (hs : s < 25) (hv : v < 25) (hp : p < 16) (l : Int32) {μ1 μ2 : zMem} (h1 : zVal n (μ2 67)) (h2 : zSim n 1 μ1 (μ2 67)) : ∃ r ν1 ν2, ztr5 t s v p l μ1 = some (r, ν1) ∧ ztr6 t s v p l μ2 = some (zb (r ≠ -1), ν2) ∧ (∀ k, ¬ zscr k → k < 78 → ν1 k = μ1 k) ∧ (∀ k, ¬ zscr k → k < 78 → ν2 k = μ2 k) := by
  have hn := h1.1
  obtain ⟨α1, α2, b1, b2, b3, b4, b5, b6, b7, b8⟩ := zlend4 h1 h2
  have v1 : zVl n (zst α2 67 (29 + 8 * t + 1) (nI p) 67) := by
    rw [zst_r]; exact zVl_put b3 (Or.inr (Or.inr (Or.inr ⟨t, ht, Or.inr (Or.inl ⟨rfl, Or.inr ⟨p, hp, rfl⟩⟩)⟩)))
  have s1 : zSim n 33 (zst α1 (37 + 2 * t) 1 (nI p)) (zst α2 67 (29 + 8 * t + 1) (nI p) 67) := by
    rw [zst_r]
    exact zSim_put hn b4 (by omega) (by omega) _ _ (zloc_t (c := 33) (t := t) (w := 1) (by omega) (by omega))
  obtain ⟨x1, x2, d1, d2, d3, -, -⟩ := zday v1 s1
  have m1 : ztu n α1 α2 x1 x2 := ⟨fun k q1 q2 => by rw [d3.1 k (by omega), zst_row_ne (by omega)], fun k q1 q2 => by rw [d3.2.1 k q1, zst_row_ne q1], d3.2.2.1, d3.2.2.2.1, fun j hj => by rw [d3.2.2.2.2 j (by omega), zst_ne (by omega)]⟩
  obtain ⟨r, y1, y2, -, c1, c2, c3⟩ := zthr hn hs hv l d3.2.2.1 d3.2.2.2.1
  obtain ⟨γ, g1, g2, g3⟩ := b8 y1 y2 (m1.tw.trans c3)
  refine ⟨r, y1, γ, ?_, ?_, g2, g3⟩
  · unfold ztr5; rw [b1, zbd_s, d1, zbd_s, c1]
  · unfold ztr6; rw [b2, zbd_s, d2, zbd_s, c2, zbd_s, g1, zbd_s]
def zfst (T : Nat → Bool) : Nat → Nat → Int32
  | 0, _ => -1
  | m + 1, i => if T i = true then nI i else zfst T m (i + 1)
theorem zfst_rng {T : Nat → Bool} : ∀ m i, i + m ≤ 16 → zfst T m i = -1 ∨ ∃ p, p < 16 ∧ zfst T m i = nI p := by
  intro m
  induction m with
  | zero => intro i _; exact Or.inl rfl
  | succ m ih =>
    intro i hi
    rw [zfst]
    by_cases w : T i = true
    · rw [if_pos w]; exact Or.inr ⟨i, by omega, rfl⟩
    · rw [if_neg w]; exact ih (i + 1) (by omega)
theorem zdn : ∀ m, m < 16 → nI (m + 1) + (-1 : Int32) = nI m := by decide
theorem e20 : zE20 zInv := by
  intro a1 a2 a3 a4 μ hI
  obtain ⟨⟨n, hc⟩, -⟩ := id hI
  have hn := hc.1.1
  have s1 : μ 1 3 = nI n := hc.size.2.2
  by_cases h0 : 0 ≤ a1 ∧ a1 ≤ nI n - 1
  · by_cases h1 : 0 ≤ a2 ∧ a2 ≤ 24
    · by_cases h2 : 0 ≤ a3 ∧ a3 ≤ 24
      · by_cases h3 : 0 ≤ a4 ∧ a4 ≤ 99
        · obtain ⟨t, ht, rfl⟩ := (ztent hn).1 h0
          obtain ⟨s, hs, rfl⟩ := zrng (n := 24) rfl h1
          obtain ⟨v, hv, rfl⟩ := zrng (n := 24) rfl h2
          refine ztry hI (fun μ2 h => ?_)
          have e67 := zz67 h
          have sim : ∀ ν1 : zMem, (∀ k, ¬ zscr k → k < 78 → ν1 k = μ k) → zSim n 1 ν1 (μ 67) := fun ν1 f => hc.2.1.congr hn (fun k q1 q2 => f k (by unfold zscr; omega) (by omega))
          have T6 : ∀ p, p < 16 → ∀ ν2 : zMem, (∀ k, ¬ zscr k → k < 78 → ν2 k = μ2 k) → ∃ r x1, ztr5 t s v p a4 μ = some (r, x1) ∧ ∃ γ, ztr6 t s v p a4 ν2 = some (zb (r ≠ -1), γ) ∧ ∀ k, ¬ zscr k → k < 78 → γ k = μ2 k := by
            intro p hp ν2 f
            have e : ν2 67 = μ 67 := (f 67 (by unfold zscr; omega) (by omega)).trans e67
            obtain ⟨r, x1, γ, c1, c2, c3, c4⟩ := zpft ht (s := s) (v := v) (by omega) (by omega) hp a4 (μ1 := μ) (μ2 := ν2) (by rw [e]; exact hc.1) (by rw [e]; exact hc.2.1)
            exact ⟨r, x1, c1, γ, c2, fun k q1 q2 => (c4 k q1 q2).trans (f k q1 q2)⟩
          have T5 : ∀ p, p < 16 → ∀ ν1 : zMem, (∀ k, ¬ zscr k → k < 78 → ν1 k = μ k) → ∃ r x1 r' x1', ztr5 t s v p a4 μ = some (r, x1) ∧ ztr5 t s v p a4 ν1 = some (r', x1') ∧ (r = -1 ↔ r' = -1) ∧ ∀ k, ¬ zscr k → k < 78 → x1' k = μ k := by
            intro p hp ν1 f
            obtain ⟨r, x1, c1, γ, c2, -⟩ := T6 p hp μ2 (fun _ _ _ => rfl)
            obtain ⟨r', x1', γ', d1, d2, d3, -⟩ := zpft ht (s := s) (v := v) (by omega) (by omega) hp a4 (μ1 := ν1) (μ2 := μ2) (by rw [e67]; exact hc.1) (by rw [e67]; exact sim ν1 f)
            refine ⟨r, x1, r', x1', c1, d1, ?_, fun k q1 q2 => (d3 k q1 q2).trans (f k q1 q2)⟩
            have q := c2.symm.trans d2
            simp only [Option.some.injEq, Prod.mk.injEq] at q
            have q := q.1
            by_cases w : r = -1
            · rw [zb_f (show ¬ (r ≠ -1) from fun z => z w)] at q
              have := zb_0.1 q.symm
              exact ⟨fun _ => Decidable.not_not.1 this, fun _ => w⟩
            · rw [zb_t (show r ≠ -1 from w)] at q
              refine ⟨fun z => absurd z w, fun z => ?_⟩
              rw [zb_f (show ¬ (r' ≠ -1) from fun y => y z)] at q
              exact absurd q (by decide)
          obtain ⟨T, hT⟩ : ∃ T : Nat → Bool, ∀ p, p < 16 → ∃ r x1, ztr5 t s v p a4 μ = some (r, x1) ∧ (T p = true ↔ r ≠ -1) := by
            refine ⟨fun p => match ztr5 t s v p a4 μ with | some (r, _) => decide (r ≠ -1) | none => false, fun p hp => ?_⟩
            obtain ⟨r, x1, c1, -⟩ := T6 p hp μ2 (fun _ _ _ => rfl)
            refine ⟨r, x1, c1, ?_⟩
            simp only [c1]
            exact decide_eq_true_iff
          have k5 : ∀ m i q, i + m = 16 → m < q → ∀ ν1 : zMem, (∀ k, ¬ zscr k → k < 78 → ν1 k = μ k) → ∃ ν1' : zMem, (∀ k, ¬ zscr k → k < 78 → ν1' k = μ k) ∧ fX5_pitchFor_39 q 0 (nI t) (nI s) (nI v) a4 (nI i) ν1 = if zfst T m i = (-1 : Int32) then fX5_finding 0 (nI 3) ν1' else some (zfst T m i, ν1') := by
            intro m
            induction m with
            | zero =>
              intro i q hi hq ν1 f
              obtain ⟨q, rfl⟩ : ∃ z, q = z + 1 := ⟨q - 1, by omega⟩
              refine ⟨ν1, f, ?_⟩
              rw [fX5_pitchFor_39, show (16 : Int32) = nI 16 from rfl, zle_t (by omega) (by omega), zbd_eta, zfst, if_pos rfl]; rfl
            | succ m ih =>
              intro i q hi hq ν1 f
              obtain ⟨q, rfl⟩ : ∃ z, q = z + 1 := ⟨q - 1, by omega⟩
              obtain ⟨r, x1, r', x1', c1, c2, c3, c4⟩ := T5 i (by omega) ν1 f
              obtain ⟨r0, x0, c0, hTi⟩ := hT i (by omega)
              obtain rfl : r0 = r := by
                have := c0.symm.trans c1
                simp only [Option.some.injEq, Prod.mk.injEq] at this
                exact this.1
              have g : fX5_pitchFor_39 (q + 1) 0 (nI t) (nI s) (nI v) a4 (nI i) ν1 = if r' = (-1 : Int32) then fX5_pitchFor_39 q 0 (nI t) (nI s) (nI v) a4 (nI (i + 1)) x1' else some (nI i, x1') := by
                unfold ztr5 at c2
                rw [fX5_pitchFor_39, show (16 : Int32) = nI 16 from rfl, zle_f (by omega) (by omega)]
                obtain ⟨α, A1, -⟩ := c0_become (c := 33) (d := 1) hn (by omega) (sim ν1 f) hc.1.2.1
                rw [A1, zbd_s] at c2
                show zbd (fX0_becomeLike 33 1 ν1) _ = _
                rw [A1, zbd_s, zgd_ib (by omega) (by decide), zcl (by omega)]
                show zbd (fX0_passDay 33 (zst α (33 + 3 + 1 + 2 * t) 1 (nI i))) _ = _
                rw [show 33 + 3 + 1 + 2 * t = 37 + 2 * t by omega]
                cases hd : fX0_passDay 33 (zst α (37 + 2 * t) 1 (nI i)) with
                | none => rw [hd] at c2; exact absurd c2 (by intro z; cases z)
                | some w =>
                  obtain ⟨w1, w2⟩ := w
                  rw [hd, zbd_s] at c2
                  rw [zbd_s]
                  show zbd (fX1_stepsBetween 49 33 (nI s) (nI v) a4 w2) _ = _
                  rw [c2, zbd_s, n1]
              by_cases w : r' = -1
              · obtain ⟨ν1', d1, d2⟩ := ih (i + 1) q (by omega) (by omega) x1' c4
                refine ⟨ν1', d1, ?_⟩
                rw [g, if_pos w, d2, zfst, if_neg (fun z => hTi.1 z (c3.2 w))]
              · refine ⟨x1', c4, ?_⟩
                rw [g, if_neg w, zfst, if_pos (hTi.2 (fun z => w (c3.1 z))), zneg1, zeq1_f (by omega)]
          have k6 : ∀ m q, m ≤ 16 → m < q → ∀ ν2 : zMem, (∀ k, ¬ zscr k → k < 78 → ν2 k = μ2 k) → ∃ ν2' : zMem, (∀ k, ¬ zscr k → k < 78 → ν2' k = μ2 k) ∧ fX6_pitchFor_31 q 66 (nI t) (nI s) (nI v) a4 (zfst T (16 - m) m) (nI m + (-1 : Int32)) ν2 = if 0 ≤ zfst T 16 0 then some (zfst T 16 0, ν2') else fX6_finds 66 (nI 3) ν2' := by
            intro m
            induction m with
            | zero =>
              intro q hm hq ν2 f
              obtain ⟨q, rfl⟩ : ∃ z, q = z + 1 := ⟨q - 1, by omega⟩
              refine ⟨ν2, f, ?_⟩
              rw [fX6_pitchFor_31, if_pos (by decide), zbd_eta]; rfl
            | succ m ih =>
              intro q hm hq ν2 f
              obtain ⟨q, rfl⟩ : ∃ z, q = z + 1 := ⟨q - 1, by omega⟩
              obtain ⟨r, x1, c1, γ, c2, c3⟩ := T6 m (by omega) ν2 f
              obtain ⟨r0, x0, c0, hTi⟩ := hT m (by omega)
              obtain rfl : r0 = r := by
                have := c0.symm.trans c1
                simp only [Option.some.injEq, Prod.mk.injEq] at this
                exact this.1
              have g : fX6_pitchFor_31 (q + 1) 66 (nI t) (nI s) (nI v) a4 (zfst T (16 - (m + 1)) (m + 1)) (nI m) ν2 = if zb (r0 ≠ -1) = 0 then fX6_pitchFor_31 q 66 (nI t) (nI s) (nI v) a4 (zfst T (16 - (m + 1)) (m + 1)) (nI m + (-1 : Int32)) γ else fX6_pitchFor_31 q 66 (nI t) (nI s) (nI v) a4 (nI m) (nI m + (-1 : Int32)) γ := by
                unfold ztr6 at c2
                rw [fX6_pitchFor_31, if_neg (Int32.not_lt.mpr (nI_pos' (by omega)))]
                cases hl : fX6_lends 66 ν2 with
                | none => rw [hl] at c2; exact absurd c2 (by intro z; cases z)
                | some w =>
                  obtain ⟨w1, w2⟩ := w
                  rw [hl, zbd_s] at c2
                  rw [zbd_s, show (1 : Int32) = nI 1 from rfl, c6_sets (by omega), zbd_s]
                  cases hd : fX6_aDay 66 (zst w2 67 (29 + 8 * t + 1) (nI m)) with
                  | none => rw [hd] at c2; exact absurd c2 (by intro z; cases z)
                  | some u =>
                    obtain ⟨u1, u2⟩ := u
                    rw [hd, zbd_s] at c2
                    rw [zbd_s]
                    cases hi : fX6_isThrough 66 (nI s) (nI v) a4 u2 with
                    | none => rw [hi] at c2; exact absurd c2 (by intro z; cases z)
                    | some y =>
                      obtain ⟨y1, y2⟩ := y
                      rw [hi, zbd_s] at c2
                      rw [zbd_s]
                      cases hb : fX6_laysBack 66 y2 with
                      | none => rw [hb] at c2; exact absurd c2 (by intro z; cases z)
                      | some x =>
                        obtain ⟨o1, o2⟩ := x
                        rw [hb, zbd_s] at c2
                        simp only [Option.some.injEq, Prod.mk.injEq] at c2
                        rw [zbd_s, zbd_s, c2.1, c2.2]; rfl
              obtain ⟨ν2', d1, d2⟩ := ih q (by omega) (by omega) γ c3
              refine ⟨ν2', d1, ?_⟩
              rw [← d2, zdn m (by omega), g, show 16 - m = 16 - (m + 1) + 1 by omega, zfst]
              by_cases w : r0 = -1
              · rw [zif_f (fun z => z w), if_neg (fun z => hTi.1 z w)]
              · rw [zif_t w, if_pos (hTi.2 w)]
          obtain ⟨y1, p1, p2⟩ := k5 16 0 200 (by omega) (by omega) μ (fun _ _ _ => rfl)
          obtain ⟨y2, q1, q2⟩ := k6 16 200 (by omega) (by omega) μ2 (fun _ _ _ => rfl)
          refine ⟨y1, y2, p1, q1, ?_⟩
          have r5 : fX5_pitchFor 0 (nI t) (nI s) (nI v) a4 μ = if zfst T 16 0 = (-1 : Int32) then fX5_finding 0 (nI 3) y1 else some (zfst T 16 0, y1) := by
            unfold fX5_pitchFor
            rw [c5_isT s1, zbd_s, zif_t h0, c5_isCell, zbd_s, zif_t h1, c5_isCell, zbd_s, zif_t h2, c5_isMeasure, zbd_s, zif_t h3]
            exact p2
          have r6 : fX6_pitchFor 66 (nI t) (nI s) (nI v) a4 μ2 = if 0 ≤ zfst T 16 0 then some (zfst T 16 0, y2) else fX6_finds 66 (nI 3) y2 := by
            unfold fX6_pitchFor
            rw [c6_isT (by rw [e67]; exact hc.1.2.1), zbd_s, zif_t h0, c6_areWay, zbd_s, zif_t ⟨h1, h2, h3⟩]
            exact q2
          rw [r5, r6]
          rcases zfst_rng (T := T) 16 0 (by omega) with q | ⟨k, hk, q⟩
          · exact Or.inr ⟨3, by decide, by rw [q, if_pos rfl], by rw [q, if_neg (by decide)]⟩
          · exact Or.inl ⟨nI k, by rw [q, zneg1, zeq1_f (by omega)], by rw [q, if_pos (nI_pos' (by omega))]⟩
        · refine zfind hI 0 (by decide) ?_ (fun μ' h => ?_)
          · unfold fX5_pitchFor; rw [c5_isT s1, zbd_s, zif_t h0, c5_isCell, zbd_s, zif_t h1, c5_isCell, zbd_s, zif_t h2, c5_isMeasure, zbd_s, zif_f h3, zbd_eta]; rfl
          · unfold fX6_pitchFor; rw [c6_isT (by rw [h 67 (by omega) (by omega)]; exact hc.1.2.1), zbd_s, zif_t h0, c6_areWay, zbd_s, zif_f (fun z => h3 z.2.2), zbd_eta]; rfl
      · refine zfind hI 0 (by decide) ?_ (fun μ' h => ?_)
        · unfold fX5_pitchFor; rw [c5_isT s1, zbd_s, zif_t h0, c5_isCell, zbd_s, zif_t h1, c5_isCell, zbd_s, zif_f h2, zbd_eta]; rfl
        · unfold fX6_pitchFor; rw [c6_isT (by rw [h 67 (by omega) (by omega)]; exact hc.1.2.1), zbd_s, zif_t h0, c6_areWay, zbd_s, zif_f (fun z => h2 z.2.1), zbd_eta]; rfl
    · refine zfind hI 0 (by decide) ?_ (fun μ' h => ?_)
      · unfold fX5_pitchFor; rw [c5_isT s1, zbd_s, zif_t h0, c5_isCell, zbd_s, zif_f h1, zbd_eta]; rfl
      · unfold fX6_pitchFor; rw [c6_isT (by rw [h 67 (by omega) (by omega)]; exact hc.1.2.1), zbd_s, zif_t h0, c6_areWay, zbd_s, zif_f (fun z => h1 z.1), zbd_eta]; rfl
  · refine zfind hI 0 (by decide) ?_ (fun μ' h => ?_)
    · unfold fX5_pitchFor; rw [c5_isT s1, zbd_s, zif_f h0, zbd_eta]; rfl
    · unfold fX6_pitchFor; rw [c6_isT (by rw [h 67 (by omega) (by omega)]; exact hc.1.2.1), zbd_s, zif_f h0, zbd_eta]; rfl
