/-! nomads -/
theorem zVl_z {n : Nat} {x : Nat → Int32} {v : Int32} (h : zVl n x) : zVl n (upd x 1 v) := by
  unfold zVl
  have e : upd (upd x 1 v) 0 (nI 0) = upd (upd x 0 (nI 0)) 1 v := funext fun a => by
    by_cases q : a = 0
    · subst q; rw [pk_us, pk_un (by omega), pk_us]
    · rw [pk_un q]
      by_cases q2 : a = 1
      · subst q2; rw [pk_us, pk_us]
      · rw [pk_un q2, pk_un q2, pk_un q]
  rw [e]
  exact zVal_put h (Or.inl rfl)
def zdr (y : Int32) : Int32 := (y.toUInt32 >>> (((8 : Int32)).toUInt32 &&& Int32.toUInt32 31)).toInt32
def znx (z : Int32) : Int32 := z * (1103515245 : Int32) + (12345 : Int32)
theorem zdr_nat (y : Int32) : ∃ v, v < 2 ^ 24 ∧ zdr y = nI v := by
  refine ⟨(zdr y).toBitVec.toNat, ?_, znat _⟩
  have e1 : (zdr y).toBitVec = y.toBitVec >>> 8 := by
    show (y.toUInt32 >>> (((8 : Int32)).toUInt32 &&& Int32.toUInt32 31)).toBitVec = _
    rw [UInt32.toBitVec_shiftRight]
    show y.toUInt32.toBitVec >>> (((nI 8).toUInt32 &&& Int32.toUInt32 31).toBitVec % 32).toNat = _
    rw [zsu 8 (by omega)]; rfl
  rw [e1, BitVec.toNat_ushiftRight, Nat.shiftRight_eq_div_pow]
  have := y.toBitVec.isLt
  omega
theorem c0_draw (c : Nat) (μ : zMem) : fX0_draw c μ = some (zdr (znx (μ c 6)), zst μ c 6 (znx (μ c 6))) := by
  unfold fX0_draw; rw [zst_eq]; rfl
theorem c6_draw (μ : zMem) : fX6_draw 66 μ = some (zdr (znx (μ 67 1)), zst μ 67 1 (znx (μ 67 1))) := by
  unfold fX6_draw; rw [zgd_t (by decide), zgd_t (by decide), zgd_t (by decide), zst_eq]; rfl
theorem e26 : zE26 zInv := by
  intro a1 μ hI
  obtain ⟨⟨n, hc⟩, -⟩ := id hI
  have hn := hc.1.1
  have i6 : ∀ μ' : zMem, fX6_in a1.toInt64 1 20 μ' = some (zb (1 ≤ a1 ∧ a1 ≤ 20), μ') := fun μ' => by
    rw [show (1 : Int64) = (1 : Int32).toInt64 from rfl, show (20 : Int64) = (20 : Int32).toInt64 from rfl, w6]
  obtain ⟨d, hd, hde⟩ := hc.1.2.2.1
  have h5 : μ 1 5 = nI d := hc.2.2.trans hde
  by_cases w : 1 ≤ a1 ∧ a1 ≤ 20
  · obtain ⟨D, hD, rfl⟩ := zrng (n := 20) rfl ⟨Int32.le_trans (by decide) w.1, w.2⟩
    by_cases w2 : d + D ≤ 99999
    · have key : ∀ m i q d, i + m = D → m < q → d + m ≤ 99999 → ∀ μ1 μ2 : zMem, zVl n (μ2 67) → zSim n 1 μ1 (μ2 67) → μ1 1 5 = nI d → μ2 67 0 = nI d → ∃ r μ1' μ2', fX5_nomads_38 q 0 (nI D) (nI i) μ1 = some (r, μ1') ∧ fX6_nomads_39 q 66 (nI D) (nI i) μ2 = some (r, μ2') ∧ (∀ k, ¬ (1 ≤ k ∧ k ≤ 16) → μ1' k = μ1 k) ∧ (∀ k, k ≠ 67 → μ2' k = μ2 k) ∧ zVl n (μ2' 67) ∧ zSim n 1 μ1' (μ2' 67) ∧ μ1' 1 5 = nI (d + m) ∧ μ2' 67 0 = nI (d + m) := by
        intro m
        induction m with
        | zero =>
          intro i q d hi hq hd μ1 μ2 hv hs k1 k2
          obtain ⟨q, rfl⟩ : ∃ z, q = z + 1 := ⟨q - 1, by omega⟩
          refine ⟨zhs (μ2 67), μ1, μ2, ?_, ?_, fun _ _ => rfl, fun _ _ => rfl, hv, hs, k1, k2⟩
          · rw [fX5_nomads_38, zle_t (by omega) (by omega)]
            show zbd (fX0_heightSum 1 μ1) _ = _
            rw [c0_heightSum hs, zbd_s]
          · rw [fX6_nomads_39, zle_t (by omega) (by omega), c6_heights, zbd_s]
        | succ m ih =>
          intro i q d hi hq hd μ1 μ2 hv hs k1 k2
          obtain ⟨q, rfl⟩ : ∃ z, q = z + 1 := ⟨q - 1, by omega⟩
          have ez : μ1 1 6 = μ2 67 1 := hs.1.2.2
          obtain ⟨v, hv1, hv2⟩ := zdr_nat (znx (μ2 67 1))
          obtain ⟨u, hu1, hu2⟩ := zdr_nat (znx (znx (μ2 67 1)))
          -- the memories behind the two draws
          have s1 : zSim n 1 (zst (zst μ1 1 6 (znx (μ2 67 1))) 1 6 (znx (znx (μ2 67 1)))) (upd (upd (μ2 67) 1 (znx (μ2 67 1))) 1 (znx (znx (μ2 67 1)))) := zSim_put hn (zSim_put hn hs (by omega) (by omega) 1 6 rfl) (by omega) (by omega) 1 6 rfl
          have v1 : zVl n (upd (upd (μ2 67) 1 (znx (μ2 67 1))) 1 (znx (znx (μ2 67 1)))) := zVl_z (zVl_z hv)
          have g5 : fX5_nomads_38 (q + 1) 0 (nI D) (nI i) μ1 = zbd (fX5_isTent 0 (nI (v % 8)) (zst (zst μ1 1 6 (znx (μ2 67 1))) 1 6 (znx (znx (μ2 67 1))))) fun r13 m14 => if r13 = 0 then (zbd (fX0_passDay 1 m14) fun _ m17 => fX5_nomads_38 q 0 (nI D) (nI (i + 1)) m17) else zgd (zib (nI (v % 8)) 6) (zbd (fX0_passDay 1 (zst m14 (1 + 4 + 2 * (nI (v % 8)).toNatClampNeg) 1 (nI (u % 16)))) fun _ m24 => fX5_nomads_38 q 0 (nI D) (nI (i + 1)) m24) := by
            rw [fX5_nomads_38, zle_f (by omega) (by omega), show 0 + 1 = 1 from rfl, c0_draw, zbd_s, c0_draw, zbd_s, zst_eq, ez, hv2, hu2, show (8 : Int32) = nI 8 from rfl, show (16 : Int32) = nI 16 from rfl, pk_rem (by omega) (by omega) (by omega), pk_rem (by omega) (by omega) (by omega)]
            simp only [n1]
          have g6 : fX6_nomads_39 (q + 1) 66 (nI D) (nI i) μ2 = zbd (fX6_isTent 66 (nI (v % 8)) (zst (zst μ2 67 1 (znx (μ2 67 1))) 67 1 (znx (znx (μ2 67 1))))) fun r11 m12 => if r11 = 0 then (zbd (fX6_aDay 66 m12) fun _ m14 => fX6_nomads_39 q 66 (nI D) (nI (i + 1)) m14) else zbd (fX6_sets 66 (nI (v % 8)) (1 : Int32) (nI (u % 16)) m12) fun _ m16 => zbd (fX6_aDay 66 m16) fun _ m18 => fX6_nomads_39 q 66 (nI D) (nI (i + 1)) m18 := by
            rw [fX6_nomads_39, zle_f (by omega) (by omega), c6_draw, zbd_s, c6_draw, zbd_s, zst_eq, hv2, hu2, show (8 : Int32) = nI 8 from rfl, show (16 : Int32) = nI 16 from rfl, pk_rem (by omega) (by omega) (by omega), pk_rem (by omega) (by omega) (by omega)]
            simp only [n1]
          have t5 := c5_isT (n := n) (μ := zst (zst μ1 1 6 (znx (μ2 67 1))) 1 6 (znx (znx (μ2 67 1)))) (by rw [zst_ne (by omega), zst_ne (by omega)]; exact hs.1.1.trans hv.out.2.1) (nI (v % 8))
          have t6 := c6_isT (n := n) (μ := zst (zst μ2 67 1 (znx (μ2 67 1))) 67 1 (znx (znx (μ2 67 1)))) (by rw [zst_ne (by omega), zst_ne (by omega)]; exact hv.out.2.1) (nI (v % 8))
          have fin : ∀ ν1 ν2 : zMem, (∀ k, ¬ (1 ≤ k ∧ k ≤ 16) → ν1 k = μ1 k) → (∀ k, k ≠ 67 → ν2 k = μ2 k) → zVl n (ν2 67) → zSim n 1 ν1 (ν2 67) → ν1 1 5 = nI d → ν2 67 0 = nI d → ∃ r μ1' μ2', (zbd (fX0_passDay 1 ν1) fun _ m17 => fX5_nomads_38 q 0 (nI D) (nI (i + 1)) m17) = some (r, μ1') ∧ (zbd (fX6_aDay 66 ν2) fun _ m14 => fX6_nomads_39 q 66 (nI D) (nI (i + 1)) m14) = some (r, μ2') ∧ (∀ k, ¬ (1 ≤ k ∧ k ≤ 16) → μ1' k = μ1 k) ∧ (∀ k, k ≠ 67 → μ2' k = μ2 k) ∧ zVl n (μ2' 67) ∧ zSim n 1 μ1' (μ2' 67) ∧ μ1' 1 5 = nI (d + (m + 1)) ∧ μ2' 67 0 = nI (d + (m + 1)) := by
            intro ν1 ν2 f1 f2 f3 f4 f5 f6
            obtain ⟨x1, x2, c1, c2, c3, c4, c5⟩ := zday f3 f4
            rw [f5, show (99999 : Int32) = nI 99999 from rfl, zle_f (by omega) (by omega), n1] at c5
            rw [f6, n1] at c4
            obtain ⟨r, y1, y2, e1, e2, e3, e4, e5, e6, e7, e8⟩ := ih (i + 1) q (d + 1) (by omega) (by omega) (by omega) x1 x2 c3.2.2.1 c3.2.2.2.1 c5 c4
            refine ⟨r, y1, y2, by rw [c1, zbd_s]; exact e1, by rw [c2, zbd_s]; exact e2, fun k hk => by rw [e3 k hk, c3.1 k (by omega), f1 k hk], fun k hk => by rw [e4 k hk, c3.2.1 k hk, f2 k hk], e5, e6, by rw [e7]; congr 1; omega, by rw [e8]; congr 1; omega⟩
          by_cases z : 0 ≤ nI (v % 8) ∧ nI (v % 8) ≤ nI n - 1
          · obtain ⟨t, ht, hte⟩ := (ztent hn).1 z
            have hvt : v % 8 = t := (nI_eq (by omega) (by omega)).1 hte
            obtain ⟨r, y1, y2, e1, e2, e3⟩ := fin (zst (zst (zst μ1 1 6 (znx (μ2 67 1))) 1 6 (znx (znx (μ2 67 1)))) (1 + 4 + 2 * t) 1 (nI (u % 16))) (zst (zst (zst μ2 67 1 (znx (μ2 67 1))) 67 1 (znx (znx (μ2 67 1)))) 67 (29 + 8 * t + 1) (nI (u % 16))) (fun k hk => by rw [zst_row_ne (by omega), zst_row_ne (by omega), zst_row_ne (by omega)]) (fun k hk => by rw [zst_row_ne hk, zst_row_ne hk, zst_row_ne hk]) (by rw [zst_r, zst_r, zst_r]; exact zVl_put v1 (Or.inr (Or.inr (Or.inr ⟨t, ht, Or.inr (Or.inl ⟨rfl, Or.inr ⟨u % 16, by omega, rfl⟩⟩)⟩)))) (by rw [zst_r, zst_r, zst_r]; exact zSim_put hn s1 (by omega) (by omega) _ _ (zloc_t (by omega) (by omega))) (by rw [zst_row_ne (by omega), zst_ne (by omega), zst_ne (by omega)]; exact k1) (by rw [zst_ne (by omega), zst_ne (by omega), zst_ne (by omega)]; exact k2)
            refine ⟨r, y1, y2, ?_, ?_, e3⟩
            · rw [g5, t5, zbd_s, zif_t z, hvt, zgd_ib (by omega) (by decide), zcl (by omega)]; exact e1
            · have st : ∀ ν : zMem, fX6_sets 66 (nI t) (1 : Int32) (nI (u % 16)) ν = some ((), zst ν 67 (29 + 8 * t + 1) (nI (u % 16))) := fun ν => c6_sets (w := 1) (by omega) _ ν
              rw [g6, t6, zbd_s, zif_t z, hvt, st, zbd_s]; exact e2
          · obtain ⟨r, y1, y2, e1, e2, e3⟩ := fin (zst (zst μ1 1 6 (znx (μ2 67 1))) 1 6 (znx (znx (μ2 67 1)))) (zst (zst μ2 67 1 (znx (μ2 67 1))) 67 1 (znx (znx (μ2 67 1)))) (fun k hk => by rw [zst_row_ne (by omega), zst_row_ne (by omega)]) (fun k hk => by rw [zst_row_ne hk, zst_row_ne hk]) (by rw [zst_r, zst_r]; exact v1) (by rw [zst_r, zst_r]; exact s1) (by rw [zst_ne (by omega), zst_ne (by omega)]; exact k1) (by rw [zst_ne (by omega), zst_ne (by omega)]; exact k2)
            refine ⟨r, y1, y2, ?_, ?_, e3⟩
            · rw [g5, t5, zbd_s, zif_f z]; exact e1
            · rw [g6, t6, zbd_s, zif_f z]; exact e2
      refine zgo hI (fun μ2 h2 => ?_)
      have e67 : μ2 67 = μ 67 := h2 67 (by omega) (by unfold zscr; omega) (by omega)
      obtain ⟨r, μ1', μ2', b1, b2, b3, b4, b5, b6, b7, b8⟩ := key D 0 200 d (by omega) (by omega) w2 μ μ2 (by rw [e67]; exact hc.1.vl) (by rw [e67]; exact hc.2.1) h5 (by rw [e67]; exact hde)
      have hvn : zVal n (μ2' 67) := by
        have q := zVal_put (k := 0) (v := nI (d + D)) b5 (Or.inr (Or.inl ⟨rfl, d + D, w2, rfl⟩))
        refine zVal_ext q (fun j _ => ?_)
        by_cases z : j = 0
        · subst z; rw [pk_us, b8]
        · rw [pk_un z, pk_un z]
      refine ⟨n, r, μ1', μ2', ?_, ?_, fun k q1 _ _ => b3 k q1, fun k q1 _ _ => b4 k q1, hvn, b6, b7.trans b8.symm⟩
      · unfold fX5_nomads
        rw [w5, zbd_s, zif_t w, h5, nI_add, show (99999 : Int32) = nI 99999 from rfl, zle_t w2 (by omega)]
        exact b1
      · unfold fX6_nomads
        rw [i6, zbd_s, zif_t w, zgd_t (by decide), show μ2 (66 + 1) (0 : Int32).toNatClampNeg = nI d by rw [show 66 + 1 = 67 from rfl, e67]; exact hde, nI_add, show (99999 : Int32) = nI 99999 from rfl, zle_t w2 (by omega)]
        exact b2
    · refine zfind hI 4 (by decide) ?_ (fun μ' h => ?_)
      · unfold fX5_nomads
        rw [w5, zbd_s, zif_t w, h5, nI_add, show (99999 : Int32) = nI 99999 from rfl, zle_f (by omega) (by omega), zbd_eta]; rfl
      · unfold fX6_nomads
        rw [i6, zbd_s, zif_t w, zgd_t (by decide), show μ' (66 + 1) (0 : Int32).toNatClampNeg = nI d by rw [show 66 + 1 = 67 from rfl, h 67 (by omega) (by omega)]; exact hde, nI_add, show (99999 : Int32) = nI 99999 from rfl, zle_f (by omega) (by omega), zbd_eta]; rfl
  · refine zfind hI 0 (by decide) ?_ (fun μ' _ => ?_)
    · unfold fX5_nomads; rw [w5, zbd_s, zif_f w, zbd_eta]; rfl
    · unfold fX6_nomads; rw [i6, zbd_s, zif_f w, zbd_eta]; rfl
