/-! feed, spring -/
theorem zsub (x : Int32) : x + (-1 : Int32) = x - 1 := by rw [Int32.sub_eq_add_neg]
theorem zand255 (x : Int32) (j : Nat) (hj : j < 4) : ((x.toUInt32 >>> ((nI (8 * j)).toUInt32 &&& Int32.toUInt32 31)).toInt32) &&& (255 : Int32) = (x >>> (nI (8 * j) &&& 31)) &&& 255 := zshr (8 * j) 8 (by omega) (by omega) _ zm255 x
def zby (x : Int32) (j : Nat) : Int32 := (x >>> (nI (8 * j) &&& 31)) &&& 255
theorem c5_feed (x : Int32) : ∀ k q L, k < q → k ≤ 4 → L + k ≤ 120 → ∀ μ : zMem, μ 53 1 = nI L → ∃ μ', fX5_feed_39 q 0 x (nI k - 1) μ = some (nI (L + k), μ') ∧ ∀ a b, μ' a b = if a = 53 ∧ b = 1 then nI (L + k) else if a = 54 ∧ L ≤ b ∧ b < L + k then zby x (k - 1 - (b - L)) else μ a b := by
  intro k
  induction k with
  | zero =>
    intro q L hq hk hL μ h
    obtain ⟨q, rfl⟩ : ∃ z, q = z + 1 := ⟨q - 1, by omega⟩
    refine ⟨μ, ?_, fun a b => ?_⟩
    · rw [fX5_feed_39, if_pos (by decide), h]; rfl
    · by_cases z : a = 53 ∧ b = 1
      · obtain ⟨rfl, rfl⟩ := z; rw [if_pos ⟨rfl, rfl⟩, h]; rfl
      · rw [if_neg z, if_neg (by omega)]
  | succ k ih =>
    intro q L hq hk hL μ h
    obtain ⟨q, rfl⟩ : ∃ z, q = z + 1 := ⟨q - 1, by omega⟩
    obtain ⟨μ', g1, g2⟩ := ih q (L + 1) (by omega) (by omega) (by omega) (zst (zst μ 54 L (zby x k)) 53 1 (nI (L + 1))) (zst_eq _ _ _ _)
    refine ⟨μ', ?_, fun a b => ?_⟩
    · rw [fX5_feed_39, show nI (k + 1) - 1 = nI k from zsub1 (by omega), if_neg (nI_pos (by omega)), zsub]
      have e : fX3_append 53 (zby x k) μ = some ((), zst (zst μ 54 L (zby x k)) 53 1 (nI (L + 1))) := by
        unfold fX3_append
        rw [h, show (120 : Int32) = nI 120 from rfl, zle_f (by omega) (by omega), zgd_ib (by omega) (by decide), zcl (by omega), zst_row_ne (by decide), h]
        show some ((), zst (zst μ 54 L (zby x k)) 53 1 (nI L + nI 1)) = _
        rw [nI_add]
      rw [show (8 : Int32) = nI 8 from rfl, pk_mul, zand255 x k (by omega)]
      show zbd (fX3_append 53 (zby x k) μ) _ = _
      rw [e, zbd_s, g1, show L + 1 + k = L + (k + 1) by omega]
    · rw [g2]
      by_cases z : a = 53 ∧ b = 1
      · rw [if_pos z, if_pos z, show L + 1 + k = L + (k + 1) by omega]
      · rw [if_neg z, if_neg z, zst_at, if_neg z, zst_at]
        by_cases z1 : a = 54 ∧ b = L
        · obtain ⟨rfl, rfl⟩ := z1
          rw [if_neg (by omega), if_pos ⟨rfl, rfl⟩, if_pos (by omega), show k + 1 - 1 - (b - b) = k by omega]
        · rw [if_neg z1]
          by_cases z2 : a = 54 ∧ L + 1 ≤ b ∧ b < L + 1 + k
          · rw [if_pos z2, if_pos (by omega)]; congr 1; omega
          · rw [if_neg z2, if_neg (by omega)]
theorem c6_feed (x : Int32) : ∀ k q L, k < q → k ≤ 4 → L + k ≤ 120 → ∀ μ : zMem, μ 66 8 = nI L → ∃ μ', fX6_feed_39 q 66 x (nI k - 1) μ = some (nI (L + k), μ') ∧ ∀ a b, μ' a b = if a = 66 ∧ b = 8 then nI (L + k) else if a = 73 ∧ L ≤ b ∧ b < L + k then zby x (k - 1 - (b - L)) else μ a b := by
  intro k
  induction k with
  | zero =>
    intro q L hq hk hL μ h
    obtain ⟨q, rfl⟩ : ∃ z, q = z + 1 := ⟨q - 1, by omega⟩
    refine ⟨μ, ?_, fun a b => ?_⟩
    · rw [fX6_feed_39, if_pos (by decide), h]; rfl
    · by_cases z : a = 66 ∧ b = 8
      · obtain ⟨rfl, rfl⟩ := z; rw [if_pos ⟨rfl, rfl⟩, h]; rfl
      · rw [if_neg z, if_neg (by omega)]
  | succ k ih =>
    intro q L hq hk hL μ h
    obtain ⟨q, rfl⟩ : ∃ z, q = z + 1 := ⟨q - 1, by omega⟩
    obtain ⟨μ', g1, g2⟩ := ih q (L + 1) (by omega) (by omega) (by omega) (zst (zst μ 73 L (zby x k)) 66 8 (nI (L + 1))) (zst_eq _ _ _ _)
    refine ⟨μ', ?_, fun a b => ?_⟩
    · rw [fX6_feed_39, show nI (k + 1) - 1 = nI k from zsub1 (by omega), if_neg (nI_pos (by omega)), zsub, h, zgd_ib (by omega) (by decide), zcl (by omega), zst_row_ne (by decide), h, show (8 : Int32) = nI 8 from rfl, pk_mul]
      show fX6_feed_39 q 66 x (nI k - 1) (zst (zst μ 73 L (zby x k)) 66 8 (nI L + nI 1)) = _
      rw [nI_add, g1, show L + 1 + k = L + (k + 1) by omega]
    · rw [g2]
      by_cases z : a = 66 ∧ b = 8
      · rw [if_pos z, if_pos z, show L + 1 + k = L + (k + 1) by omega]
      · rw [if_neg z, if_neg z, zst_at, if_neg z, zst_at]
        by_cases z1 : a = 73 ∧ b = L
        · obtain ⟨rfl, rfl⟩ := z1
          rw [if_neg (by omega), if_pos ⟨rfl, rfl⟩, if_pos (by omega), show k + 1 - 1 - (b - b) = k by omega]
        · rw [if_neg z1]
          by_cases z2 : a = 73 ∧ L + 1 ≤ b ∧ b < L + 1 + k
          · rw [if_pos z2, if_pos (by omega)]; congr 1; omega
          · rw [if_neg z2, if_neg (by omega)]
theorem e29 : zE29 zInv := by
  intro a1 a2 μ hI
  obtain ⟨⟨n, hc⟩, hi, hf, ⟨L, h1, h2, h3, h4⟩, hs⟩ := id hI
  have i6 : ∀ μ' : zMem, fX6_in a2.toInt64 1 4 μ' = some (zb (1 ≤ a2 ∧ a2 ≤ 4), μ') := fun μ' => by
    rw [show (1 : Int64) = (1 : Int32).toInt64 from rfl, show (4 : Int64) = (4 : Int32).toInt64 from rfl, w6]
  by_cases w : 1 ≤ a2 ∧ a2 ≤ 4
  · obtain ⟨k, hk, rfl⟩ := zrng (n := 4) rfl ⟨Int32.le_trans (by decide) w.1, w.2⟩
    by_cases w2 : L + k ≤ 120
    · obtain ⟨μ1, f1, f2⟩ := c5_feed a1 k 200 L (by omega) hk w2 μ h2
      have o1 : ∀ a, a ≠ 53 → a ≠ 54 → μ1 a = μ a := fun a q1 q2 => funext fun b => by rw [f2, if_neg (fun q => q1 q.1), if_neg (fun q => q2 q.1)]
      obtain ⟨μ2, g1, g2⟩ := c6_feed a1 k 200 L (by omega) hk w2 μ1 (by rw [o1 66 (by omega) (by omega), h3])
      have o2 : ∀ a, a ≠ 66 → a ≠ 73 → μ2 a = μ1 a := fun a q1 q2 => funext fun b => by rw [g2, if_neg (fun q => q1 q.1), if_neg (fun q => q2 q.1)]
      have q : ∀ a, a ≠ 53 → a ≠ 54 → a ≠ 66 → a ≠ 73 → μ2 a = μ a := fun a q1 q2 q3 q4 => by rw [o2 a q3 q4, o1 a q1 q2]
      refine zE_of (r := nI (L + k)) (μ1 := μ1) (μ2 := μ2) ?_ ?_ ?_
      · unfold fX5_feed
        rw [w5, zbd_s, zif_t w, h2, nI_add, show (120 : Int32) = nI 120 from rfl, zle_t w2 (by decide)]
        exact f1
      · unfold fX6_feed
        rw [i6, zbd_s, zif_t w, o1 66 (by omega) (by omega), h3, nI_add, show (120 : Int32) = nI 120 from rfl, zle_t w2 (by decide)]
        exact g1
      · refine ⟨⟨n, hc.congr (fun k _ _ => q k (by omega) (by omega) (by omega) (by omega)) (q 67 (by omega) (by omega) (by omega) (by omega))⟩, hi.congr (by rw [q 0 (by omega) (by omega) (by omega) (by omega)]) (by rw [g2, if_neg (by omega), if_neg (by omega), o1 66 (by omega) (by omega)]) (fun k _ _ => q k (by omega) (by omega) (by omega) (by omega)) (q 68 (by omega) (by omega) (by omega) (by omega)), hf.congr (q 56 (by omega) (by omega) (by omega) (by omega)) (q 70 (by omega) (by omega) (by omega) (by omega)), ⟨L + k, w2, ?_, ?_, fun i hi => ?_⟩, hs.congr (fun k _ _ => q k (by omega) (by omega) (by omega) (by omega)) (q 74 (by omega) (by omega) (by omega) (by omega)) (q 75 (by omega) (by omega) (by omega) (by omega)) (q 76 (by omega) (by omega) (by omega) (by omega))⟩
        · rw [o2 53 (by omega) (by omega), f2, if_pos ⟨rfl, rfl⟩]
        · rw [g2, if_pos ⟨rfl, rfl⟩]
        · have A : μ2 54 i = if 54 = 54 ∧ L ≤ i ∧ i < L + k then zby a1 (k - 1 - (i - L)) else μ 54 i := by
            rw [o2 54 (by omega) (by omega), f2, if_neg (by omega)]
          have B : μ2 73 i = if 73 = 73 ∧ L ≤ i ∧ i < L + k then zby a1 (k - 1 - (i - L)) else μ 73 i := by
            rw [g2, if_neg (by omega), o1 73 (by omega) (by omega)]
          rw [A, B]
          by_cases z : L ≤ i ∧ i < L + k
          · obtain ⟨b, hb, e⟩ := zmask (a1 >>> (nI (8 * (k - 1 - (i - L))) &&& 31)) 255 (by decide)
            rw [if_pos ⟨rfl, z⟩, if_pos ⟨rfl, z⟩]
            exact ⟨b, by omega, e, e⟩
          · rw [if_neg (fun q => z q.2), if_neg (fun q => z q.2)]
            exact h4 i (by omega)
    · refine zfind hI 1 (by decide) ?_ (fun μ' h => ?_)
      · unfold fX5_feed
        rw [w5, zbd_s, zif_t w, h2, nI_add, show (120 : Int32) = nI 120 from rfl, zle_f (by omega) (by omega), zbd_eta]; rfl
      · unfold fX6_feed
        rw [i6, zbd_s, zif_t w, h 66 (by omega) (by omega), h3, nI_add, show (120 : Int32) = nI 120 from rfl, zle_f (by omega) (by omega), zbd_eta]; rfl
  · refine zfind hI 0 (by decide) ?_ (fun μ' _ => ?_)
    · unfold fX5_feed
      rw [w5, zbd_s, zif_f w, zbd_eta]; rfl
    · unfold fX6_feed
      rw [i6, zbd_s, zif_f w, zbd_eta]; rfl
/-! spring -/
theorem zspr (x : Int32) (i : Nat) (hi : i < 25) : ((x.toUInt32 >>> ((nI i).toUInt32 &&& Int32.toUInt32 31)).toInt32) &&& (1 : Int32) = (x >>> (nI i &&& 31)) &&& 1 := zshr i 1 (by omega) (by omega) _ zmk1 x
theorem zbit01 (x : Int32) : x &&& (1 : Int32) = 0 ∨ x &&& (1 : Int32) = 1 := by
  obtain ⟨b, hb, e⟩ := zmask x 1 (by decide)
  have e' : x &&& (1 : Int32) = nI b := e
  rw [e']
  rcases Nat.lt_or_ge b 1 with q | q
  · left; rw [show b = 0 by omega]; rfl
  · right; rw [show b = 1 by omega]; rfl
theorem zm1b : ∀ i, i < 32 → (-1 : Int32).toBitVec.getLsbD i = true := by decide +kernel
theorem zorm (x m : Int32) : (x &&& (m ^^^ (-1 : Int32))) ||| m = x ||| m := by
  refine Int32.toBitVec_inj.mp (BitVec.eq_of_getLsbD_eq (fun i hi => ?_))
  simp only [Int32.toBitVec_or, Int32.toBitVec_and, Int32.toBitVec_xor, BitVec.getLsbD_or, BitVec.getLsbD_and, BitVec.getLsbD_xor, zm1b i hi]
  cases x.toBitVec.getLsbD i <;> cases m.toBitVec.getLsbD i <;> rfl
theorem zshl0 : ∀ i, i < 25 → (0 : Int32) <<< (nI i &&& 31) = 0 := by decide +kernel
theorem c6_hasSpring (i : Nat) (hi : i < 25) (μ : zMem) : fX6_hasSpring 66 (nI i) μ = some ((μ 67 3 >>> (nI i &&& 31)) &&& 1, μ) := by
  unfold fX6_hasSpring
  rw [zgd_t (by decide), show (3 : Int32).toNatClampNeg = 3 from rfl]
  rcases zbit01 (μ 67 3 >>> (nI i &&& 31)) with q | q
  · rw [show 66 + 1 = 67 from rfl, q, if_neg (by decide)]
  · rw [show 66 + 1 = 67 from rfl, q, if_pos rfl]
theorem e1 : zE1 zInv := by
  intro a1 a2 μ hI
  obtain ⟨⟨n, hc⟩, -⟩ := id hI
  have i6 : ∀ μ' : zMem, fX6_in a2.toInt64 0 1 μ' = some (zb (0 ≤ a2 ∧ a2 ≤ 1), μ') := fun μ' => by
    rw [show (0 : Int64) = (0 : Int32).toInt64 from rfl, show (1 : Int64) = (1 : Int32).toInt64 from rfl, w6]
  by_cases h1 : 0 ≤ a1 ∧ a1 ≤ 24
  · by_cases h2 : 0 ≤ a2 ∧ a2 ≤ 1
    · obtain ⟨i, hi, rfl⟩ := zrng (n := 24) rfl h1
      obtain ⟨v, hv, rfl⟩ := zrng (n := 1) rfl h2
      have e3 : μ 1 4 = μ 67 3 := hc.2.1.1.2.1
      obtain ⟨s, hs, hse⟩ := hc.1.2.2.2.1
      obtain ⟨y, s', hs', hy, k5, k6⟩ : ∃ y s', s' < 2 ^ 25 ∧ y = nI s' ∧ fX0_setSpring 1 (nI i) (nI v) μ = some ((), zst μ 1 4 y) ∧ ((μ 67 3 &&& (((1 : Int32) <<< (nI i &&& 31)) ^^^ (-1 : Int32))) ||| (nI v <<< (nI i &&& 31))) = y := by
        rcases Nat.lt_or_ge v 1 with q | q
        · obtain rfl : v = 0 := by omega
          obtain ⟨b, hb, e⟩ := zmask (((1 : Int32) <<< (nI i &&& 31)) ^^^ (-1 : Int32)) s (by omega)
          rw [Int32.and_comm, ← hse] at e
          refine ⟨_, b, by omega, e, ?_, ?_⟩
          · unfold fX0_setSpring; rw [if_neg (by decide), e3]
          · rw [show nI 0 = (0 : Int32) from rfl, zshl0 i (by omega), Int32.or_zero]
        · obtain rfl : v = 1 := by omega
          refine ⟨μ 67 3 ||| ((1 : Int32) <<< (nI i &&& 31)), s ||| 2 ^ i, Nat.or_lt_two_pow hs (Nat.pow_lt_pow_right (by decide) (by omega)), by rw [hse, zbit i (by omega), zor], ?_, ?_⟩
          · unfold fX0_setSpring; rw [if_pos (show nI 1 = (1 : Int32) from rfl), e3]
          · exact zorm _ _
      refine zE_of (r := (μ 67 3 >>> (nI i &&& 31)) &&& 1) (μ1 := zst μ 1 4 y) (μ2 := zst (zst μ 1 4 y) 67 3 y) ?_ ?_ (zInv_put hI hc (by omega) (by omega) 1 4 rfl (zVal_put hc.1 (Or.inr (Or.inr (Or.inl ⟨rfl, s', hs', hy⟩)))))
      · unfold fX5_spring
        rw [c5_isCell, zbd_s, zif_t h1, w5, zbd_s, zif_t h2]
        unfold fX0_springAt
        rw [zbd_s, k5, zbd_s, e3, zspr _ i (by omega)]
      · have k7 : ∀ r : Int32, fX6_spring_36 66 (nI i) (nI v) r (zst μ 1 4 y) = some (r, zst (zst μ 1 4 y) 67 3 y) := by
          intro r
          unfold fX6_spring_36 fX6_springs
          rw [zgd_t (by decide), zgd_t (by decide), zbd_s, show (3 : Int32).toNatClampNeg = 3 from rfl, show 66 + 1 = 67 from rfl, zst_row_ne (by decide), k6]
        unfold fX6_spring
        rw [c6_isCell, zbd_s, zif_t h1, i6, zbd_s, zif_t h2, c6_hasSpring i (by omega), zbd_s, k7, k7, zst_row_ne (by decide)]
        rcases zbit01 (μ 67 3 >>> (nI i &&& 31)) with q | q
        · rw [q, if_pos rfl]
        · rw [q, if_neg (by decide)]
    · refine zfind hI 0 (by decide) ?_ (fun μ' _ => ?_)
      · unfold fX5_spring
        rw [c5_isCell, zbd_s, zif_t h1, w5, zbd_s, zif_f h2, zbd_eta]; rfl
      · unfold fX6_spring
        rw [c6_isCell, zbd_s, zif_t h1, i6, zbd_s, zif_f h2, zbd_eta]; rfl
  · refine zfind hI 0 (by decide) ?_ (fun μ' _ => ?_)
    · unfold fX5_spring
      rw [c5_isCell, zbd_s, zif_f h1, zbd_eta]; rfl
    · unfold fX6_spring
      rw [c6_isCell, zbd_s, zif_f h1, zbd_eta]; rfl
