/-! texts: heights, springs, items -/
theorem zheight {L : Nat} {b : Nat → Nat} {n f : Nat} {ν1 ν2 : zMem} (h0 : zqso b L f ≠ 0) (h : zGd L b n f ν1 ν2) {μ2 : zMem} (hx : fX6_next 66 ν2 = some ((), μ2)) :
    ∃ ν1' ν2', zFr ν1 ν2 ν1' ν2' ∧ (zbd (fX6_numberRead 66 0 24 μ2) fun r15 m16 => zbd (fX6_numberRead 66 0 99 m16) fun r17 m18 => if (m18 66 11) = 0 then zgd (zib ((4 : Int32) + r15) 87) (some ((), (zst m18 (66 + 1) (((4 : Int32) + r15)).toNatClampNeg r17))) else some ((), m18)) = some ((), ν2') ∧
      ((fX3_readHeight 53 33 ν1 = some (1, ν1') ∧ ∃ n' f', f < f' ∧ zGd L b n' f' ν1' ν2') ∨ (fX3_readHeight 53 33 ν1 = some (0, ν1') ∧ zBd ν1' ν2')) := by
  obtain ⟨h1, h2, h3, h4⟩ := h
  have hn := h3.out.1
  obtain ⟨f1, μ1, μ2', ff, ff', a1, a2, a3, a4, a5, a6, a7⟩ := znext h1 h2
  obtain rfl : μ2' = μ2 := by
    have := a2.symm.trans hx
    simp only [Option.some.injEq, Prod.mk.injEq, true_and] at this
    exact this
  unfold fX3_readHeight
  rw [a1, zbd_s, show (24 : Int32) = nI 24 from rfl, show (99 : Int32) = nI 99 from rfl]
  rcases znum a6 a7 24 (by omega) with ⟨i, hi, hs2, k1, k2, k3⟩ | ⟨k1, r, k3⟩
  · obtain ⟨f2, κ1, κ2, gg, -, b1, b2, b3, b4, b5, b6, b7⟩ := znext a6 a7
    rw [b2, zbd_s] at k3
    rw [k1, zbd_s, if_neg (by decide), b1, zbd_s, k3, zbd_s]
    rcases znum b6 b7 99 (by omega) with ⟨v, hv, hs3, l1, l2, l3⟩ | ⟨l1, r, l3⟩
    · obtain ⟨f3, τ1, τ2, hh, -, c1, c2, c3, c4, c5, c6, c7⟩ := znext (ν1 := zst κ1 34 i (nI v)) (ν2 := κ2) (b6.congr (zst_row_ne (by omega)) (zst_row_ne (by omega))) b7
      rw [c2, zbd_s] at l3
      have e67' : τ2 67 = ν2 67 := by rw [c4 67 (by decide), b4 67 (by decide), a4 67 (by decide)]
      have sim1 : zSim n 33 (zst κ1 34 i (nI v)) (upd (ν2 67) (4 + i) (nI v)) := by
        have q : zSim n 33 κ1 (ν2 67) := h4.congr hn (fun k q1 q2 => by rw [b3 k (by omega), a3 k (by omega)])
        exact zSim_put hn q (by omega) (by omega) _ _ (zloc_h (c := 33) (i := i) (by omega))
      have := ff' h0
      refine ⟨τ1, zst τ2 67 (4 + i) (nI v), ?_, ?_, Or.inl ⟨?_, n, f3, by omega, c6, c7.congr (zst_row_ne (by decide)) (zst_row_ne (by decide)), ?_, ?_⟩⟩
      · exact ((((zfrn a3 a4 a5).trans (zfrn b3 b4 b5)).trans (zfrc κ2 (by omega) (by omega) (nI v))).trans (zfrn c3 c4 c5)).trans (zfrp τ1 (by omega) (by omega) _)
      · rw [l3, zbd_s, c7.2.2.2.2, if_pos rfl, n4, zgd_ib (show 4 + i < 87 by omega) (by decide), zcl (by omega)]
      · rw [l1, zbd_s, if_neg (by decide), k2, l2, zgd_ib (show i < 25 by omega) (by decide), zcl (by omega), show 33 + 1 = 34 from rfl, c1, zbd_s]
      · rw [zst_r, e67']
        exact zVl_put h3 (Or.inr (Or.inl ⟨i, by omega, rfl, v, by omega, rfl⟩))
      · rw [zst_r, e67']
        exact sim1.congr hn (fun k q1 q2 => c3 k (by omega))
    · refine ⟨κ1, zst κ2 66 11 1, ((zfrn a3 a4 a5).trans (zfrn b3 b4 b5)).trans (zfrw κ1), ?_, Or.inr ⟨?_, b7.wr, ?_⟩⟩
      · rw [l3, zbd_s, zst_eq, if_neg (by decide)]
      · rw [l1, zbd_s, if_pos rfl]
      · rw [zst_ne (by decide), b6.2.2.1, b7.2.2.1]
  · obtain ⟨r', l3⟩ := c6_numW a7.wr 0 (nI 99)
    refine ⟨μ1, zst μ2' 66 11 1, (zfrn a3 a4 a5).trans (zfrw μ1), ?_, Or.inr ⟨?_, a7.wr, ?_⟩⟩
    · rw [k3, zbd_s, l3, zbd_s, zst_eq, if_neg (by decide)]
    · rw [k1, zbd_s, if_pos rfl]
    · rw [zst_ne (by decide), a6.2.2.1, a7.2.2.1]
/-- a spring more or less -/
theorem zsprg {c i v s : Nat} (hi : i < 25) (hv : v ≤ 1) (hs : s < 2 ^ 25) {μ : zMem} {X : Int32} (hX : X = nI s) (e : μ c 4 = X) : ∃ y s', s' < 2 ^ 25 ∧ y = nI s' ∧ fX0_setSpring c (nI i) (nI v) μ = some ((), zst μ c 4 y) ∧ ((X &&& (((1 : Int32) <<< (nI i &&& 31)) ^^^ (-1 : Int32))) ||| (nI v <<< (nI i &&& 31))) = y := by
  rcases Nat.lt_or_ge v 1 with q | q
  · obtain rfl : v = 0 := by omega
    obtain ⟨b, hb, e'⟩ := zmask (((1 : Int32) <<< (nI i &&& 31)) ^^^ (-1 : Int32)) s (by omega)
    rw [Int32.and_comm, ← hX] at e'
    refine ⟨_, b, by omega, e', ?_, ?_⟩
    · unfold fX0_setSpring; rw [if_neg (by decide), e]
    · rw [show nI 0 = (0 : Int32) from rfl, zshl0 i (by omega), Int32.or_zero]
  · obtain rfl : v = 1 := by omega
    refine ⟨X ||| ((1 : Int32) <<< (nI i &&& 31)), s ||| 2 ^ i, Nat.or_lt_two_pow hs (Nat.pow_lt_pow_right (by decide) (by omega)), by rw [hX, zbit i (by omega), zor], ?_, ?_⟩
    · unfold fX0_setSpring; rw [if_pos (show nI 1 = (1 : Int32) from rfl), e]
    · exact zorm _ _
theorem zVl_p3 {n s : Nat} {x : Nat → Int32} (hs : s < 2 ^ 25) (h : zVl n x) : zVl n (upd x 3 (nI s)) := by
  unfold zVl
  have e : upd (upd x 3 (nI s)) 0 (nI 0) = upd (upd x 0 (nI 0)) 3 (nI s) := funext fun a => by
    by_cases q : a = 0
    · subst q; rw [pk_us, pk_un (by decide), pk_us]
    · rw [pk_un q]
      by_cases q2 : a = 3
      · subst q2; rw [pk_us, pk_us]
      · rw [pk_un q2, pk_un q2, pk_un q]
  rw [e]
  exact zVal_put h (Or.inr (Or.inr (Or.inl ⟨rfl, s, hs, rfl⟩)))
theorem zspring {L : Nat} {b : Nat → Nat} {n f a : Nat} (ha : a ≤ 1) {ν1 ν2 : zMem} (h0 : zqso b L f ≠ 0) (h : zGd L b n f ν1 ν2) {μ2 : zMem} (hx : fX6_next 66 ν2 = some ((), μ2)) :
    ∃ ν1' ν2', zFr ν1 ν2 ν1' ν2' ∧ fX6_springTold 66 (nI a) μ2 = some ((), ν2') ∧
      ((fX3_readSpring 53 33 (nI a) ν1 = some (1, ν1') ∧ ∃ n' f', f < f' ∧ zGd L b n' f' ν1' ν2') ∨ (fX3_readSpring 53 33 (nI a) ν1 = some (0, ν1') ∧ zBd ν1' ν2')) := by
  obtain ⟨h1, h2, h3, h4⟩ := h
  have hn := h3.out.1
  obtain ⟨s, hs, x3⟩ := h3.out.2.2.1
  obtain ⟨f1, μ1, μ2', ff, ff', a1, a2, a3, a4, a5, a6, a7⟩ := znext h1 h2
  obtain rfl : μ2' = μ2 := by
    have := a2.symm.trans hx
    simp only [Option.some.injEq, Prod.mk.injEq, true_and] at this
    exact this
  unfold fX3_readSpring fX6_springTold
  rw [a1, zbd_s, show (24 : Int32) = nI 24 from rfl]
  rcases znum a6 a7 24 (by omega) with ⟨i, hi, hs2, k1, k2, k3⟩ | ⟨k1, r, k3⟩
  · obtain ⟨y, s', hs', hy, z1, z2⟩ := zsprg (c := 33) (i := i) (v := a) (by omega) ha hs x3 (μ := μ1) (by rw [a3 33 (by decide)]; exact h4.1.2.1)
    obtain ⟨f3, τ1, τ2, hh, -, c1, c2, c3, c4, c5, c6, c7⟩ := znext (ν1 := zst μ1 33 4 y) (ν2 := μ2') (a6.congr (zst_row_ne (by omega)) (zst_row_ne (by omega))) a7
    rw [c2, zbd_s] at k3
    have e67' : τ2 67 = ν2 67 := by rw [c4 67 (by decide), a4 67 (by decide)]
    have sim1 : zSim n 33 (zst μ1 33 4 y) (upd (ν2 67) 3 y) := by
      have q : zSim n 33 μ1 (ν2 67) := h4.congr hn (fun k q1 q2 => a3 k (by omega))
      exact zSim_put hn q (by omega) (by omega) _ _ rfl
    have := ff' h0
    refine ⟨τ1, zst τ2 67 3 y, ?_, ?_, Or.inl ⟨?_, n, f3, by omega, c6, c7.congr (zst_row_ne (by decide)) (zst_row_ne (by decide)), ?_, ?_⟩⟩
    · exact (((zfrn a3 a4 a5).trans (zfrc μ2' (by omega) (by omega) y)).trans (zfrn c3 c4 c5)).trans (zfrp τ1 (by omega) (by omega) _)
    · rw [k3, zbd_s, c7.2.2.2.2, if_pos rfl]
      unfold fX6_springs
      rw [zgd_t (by decide), zgd_t (by decide), show (3 : Int32).toNatClampNeg = 3 from rfl, show 66 + 1 = 67 from rfl, e67', z2, zbd_s]
    · rw [k1, zbd_s, if_neg (by decide), k2, z1, zbd_s, c1, zbd_s]
    · rw [zst_r, e67', hy]; exact zVl_p3 hs' h3
    · rw [zst_r, e67']
      exact sim1.congr hn (fun k q1 q2 => c3 k (by omega))
  · refine ⟨μ1, zst μ2' 66 11 1, (zfrn a3 a4 a5).trans (zfrw μ1), ?_, Or.inr ⟨?_, a7.wr, ?_⟩⟩
    · rw [k3, zbd_s, zst_eq, if_neg (by decide)]
    · rw [k1, zbd_s, if_pos rfl]
    · rw [zst_ne (by decide), a6.2.2.1, a7.2.2.1]
theorem c6_springW {μ : zMem} (h : zWr μ) (a : Int32) : fX6_springTold 66 a μ = some ((), μ) := by
  obtain ⟨r, hr⟩ := c6_numW h 0 24
  unfold fX6_springTold
  rw [hr, zbd_s, h.1, if_neg (by decide)]
theorem c6_itemW {μ : zMem} (h : zWr μ) : fX6_item 66 μ = some ((), μ) := by
  have k : fX6_kindHere 66 μ = some (-1, μ) := by
    unfold fX6_kindHere
    rw [c6_isWordW h, zbd_s, if_pos rfl, c6_isWordW h, zbd_s, if_pos rfl, c6_isWordW h, zbd_s, if_pos rfl]
    unfold fX6_kindHere_43
    rw [c6_isWordW h, zbd_s, if_pos rfl, c6_isWordW h, zbd_s, if_pos rfl, c6_isWordW h, zbd_s, if_pos rfl]
    unfold fX6_kindHere_87
    rw [if_pos (by decide), if_pos (by decide), c6_isWordW h, zbd_s, if_pos rfl]
  unfold fX6_item
  rw [k, zbd_s, if_pos (by decide), c6_takesW h, zbd_s, if_pos rfl, c6_takesW h, zbd_s, if_pos rfl, c6_isWordW h, zbd_s, c6_mustW h, zbd_s, c6_springW h, zbd_s]
/-- which kind stands there -/
def zwk (i : Nat) : Nat := if i = 0 then 6 else i - 1
theorem c3_nameOf : ∀ i, i < 7 → ∀ μ : zMem, fX3_nameOf (nI i) μ = some (zwk i, μ) := by
  intro i hi μ
  have : i = 0 ∨ i = 1 ∨ i = 2 ∨ i = 3 ∨ i = 4 ∨ i = 5 ∨ i = 6 := by omega
  rcases this with rfl | rfl | rfl | rfl | rfl | rfl | rfl <;> rfl
theorem zwk_eq : ∀ i, i < 7 → zsb (zwk i) = zsb (13 + i) ∧ zwk i < 26 := by decide +kernel
theorem c6_kindHere {L : Nat} {b : Nat → Nat} {f : Nat} {μ : zMem} (h : zNR L b f μ) : fX6_kindHere 66 μ = some (zfst (fun i => zqis b L f (13 + i)) 7 0, μ) := by
  have hw : ∀ w, w < 27 → fX6_isWord 66 w μ = some (zb (zqis b L f w = true), μ) := fun w hw => c6_isWord hw h
  have h87 : ∀ s x : Int32, ¬ s < 0 → fX6_kindHere_87 66 s x μ = some (s, μ) := fun s x hs => by
    unfold fX6_kindHere_87; rw [if_neg hs]
  have h87' : ∀ x : Int32, ¬ x < 0 → fX6_kindHere_87 66 (-1) x μ = some (x, μ) := fun x hx => by
    unfold fX6_kindHere_87; rw [if_pos (by decide), if_neg hx]
  have h43 : ∀ s : Int32, ¬ s < 0 → fX6_kindHere_43 66 s μ = some (s, μ) := fun s hs => by
    unfold fX6_kindHere_43
    rw [hw 16 (by decide), zbd_s, hw 17 (by decide), zbd_s, hw 18 (by decide), zbd_s, h87 s _ hs, h87 s _ hs, h87 s _ hs, h87 s _ hs]
    repeat' split
    all_goals rfl
  unfold fX6_kindHere
  rw [hw 13 (by decide), zbd_s, hw 14 (by decide), zbd_s, hw 15 (by decide), zbd_s, h43 2 (by decide), h43 1 (by decide), h43 0 (by decide)]
  rw [zfst, zfst, zfst, zfst, zfst, zfst, zfst, zfst]
  by_cases c0 : zqis b L f (13 + 0) = true
  · rw [zif_t c0, if_pos c0]; rfl
  rw [zif_f c0, if_neg c0]
  by_cases c1 : zqis b L f (13 + (0 + 1)) = true
  · rw [zif_t c1, if_pos c1]; rfl
  rw [zif_f c1, if_neg c1]
  by_cases c2 : zqis b L f (13 + (0 + 1 + 1)) = true
  · rw [zif_t c2, if_pos c2]; rfl
  rw [zif_f c2, if_neg c2]
  unfold fX6_kindHere_43
  rw [hw 16 (by decide), zbd_s, hw 17 (by decide), zbd_s, hw 18 (by decide), zbd_s, h87' 3 (by decide), h87' 4 (by decide), h87' 5 (by decide)]
  by_cases c3 : zqis b L f (13 + (0 + 1 + 1 + 1)) = true
  · rw [zif_t c3, if_pos c3]; rfl
  rw [zif_f c3, if_neg c3]
  by_cases c4 : zqis b L f (13 + (0 + 1 + 1 + 1 + 1)) = true
  · rw [zif_t c4, if_pos c4]; rfl
  rw [zif_f c4, if_neg c4]
  by_cases c5 : zqis b L f (13 + (0 + 1 + 1 + 1 + 1 + 1)) = true
  · rw [zif_t c5, if_pos c5]; rfl
  rw [zif_f c5, if_neg c5]
  unfold fX6_kindHere_87
  rw [if_pos (by decide), if_pos (by decide), hw 19 (by decide), zbd_s]
  by_cases c6 : zqis b L f (13 + (0 + 1 + 1 + 1 + 1 + 1 + 1)) = true
  · rw [zif_t c6, if_pos c6]; rfl
  rw [zif_f c6, if_neg c6]
