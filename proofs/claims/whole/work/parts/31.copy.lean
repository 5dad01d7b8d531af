/-! copy -/
theorem zrun (m : Nat) (hm : m ≤ 40) (a b : Int32) (k : Nat) (μ : zMem) (h : μ k 1 = nI m) : fX2_hasRun k a b μ = some (zb (0 ≤ a ∧ 0 ≤ b ∧ a.toInt + b.toInt ≤ m), μ) := by
  unfold fX2_hasRun
  have hmT : (nI m).toInt = m := nI_toInt (by omega)
  by_cases h1 : a < 0
  · rw [if_pos h1, zb_f (fun q => absurd q.1 (Int32.not_le.mpr h1))]
  by_cases h2 : b < 0
  · rw [if_neg h1, if_pos h2, zb_f (fun q => absurd q.2.1 (Int32.not_le.mpr h2))]
  have h1' := Int32.not_lt.mp h1
  have h2' := Int32.not_lt.mp h2
  have h1'' : 0 ≤ a.toInt := Int32.le_iff_toInt_le.mp h1'
  have h2'' : 0 ≤ b.toInt := Int32.le_iff_toInt_le.mp h2'
  rw [if_neg h1, if_neg h2, h]
  by_cases h3 : nI m < b
  · have h3' := Int32.lt_iff_toInt_lt.mp h3
    rw [hmT] at h3'
    rw [if_pos h3, zb_f (fun q => by omega)]
  · have h3' := Int32.le_iff_toInt_le.mp (Int32.not_lt.mp h3)
    rw [hmT] at h3'
    obtain ⟨c, hc, rfl⟩ := zrng (M := nI m) (n := m) hmT ⟨h2', Int32.not_lt.mp h3⟩
    rw [if_neg h3, pk_sub hc]
    have hcT : (nI c).toInt = c := nI_toInt (by omega)
    have hdT : (nI (m - c)).toInt = (m - c : Nat) := nI_toInt (by omega)
    by_cases h4 : nI (m - c) < a
    · have h4' := Int32.lt_iff_toInt_lt.mp h4
      rw [if_pos h4, zb_f (fun q => by omega)]
    · have h4' := Int32.le_iff_toInt_le.mp (Int32.not_lt.mp h4)
      rw [if_neg h4, zb_t ⟨h1', h2', by omega⟩]
theorem zrun6 (m : Nat) (hm : m ≤ 40) (a b : Int32) (h1 : ¬ a < 0) (h2 : ¬ b < 0) : (0 < lg_cmp (a.toInt64 + b.toInt64) (nI m).toInt64) ↔ ¬ a.toInt + b.toInt ≤ m := by
  have hmT : (nI m).toInt = m := nI_toInt (by omega)
  have h1'' : 0 ≤ a.toInt := Int32.le_iff_toInt_le.mp (Int32.not_lt.mp h1)
  have h2'' : 0 ≤ b.toInt := Int32.le_iff_toInt_le.mp (Int32.not_lt.mp h2)
  have ha := Int32.toInt_lt a
  have hb := Int32.toInt_lt b
  rw [zcmp_gt, Int64.lt_iff_toInt_lt, Int64.toInt_add, Int32.toInt_toInt64, Int32.toInt_toInt64, Int32.toInt_toInt64, hmT, Int.bmod_eq_of_le (by omega) (by omega)]
  omega
theorem e36 : zE36 zInv := by
  intro a1 a2 a3 a4 a5 μ hI
  by_cases h1 : 0 ≤ a1 ∧ a1 ≤ 3
  · by_cases h3 : 0 ≤ a3 ∧ a3 ≤ 3
    · obtain ⟨s, hs, rfl⟩ := zrng (n := 3) rfl h1
      obtain ⟨t, ht, rfl⟩ := zrng (n := 3) rfl h3
      obtain ⟨-, -, -, -, hsh⟩ := id hI
      obtain ⟨⟨y1, y2⟩, ⟨m, hm, y3, y4⟩, y5⟩ := hsh s (by omega)
      obtain ⟨⟨x1, x2⟩, ⟨l, hl, x3, x4⟩, x5⟩ := hsh t (by omega)
      have hs4 : s < 4 := by omega
      have ht4 : t < 4 := by omega
      have o5 : fX5_copy 0 (nI s) a2 (nI t) a4 a5 μ = if μ 74 s = 0 then fX5_finding 0 (nI 5) μ else if μ 74 t = 0 then fX5_finding 0 (nI 5) μ else if μ 74 s = μ 74 t then (if zb (0 ≤ a2 ∧ 0 ≤ a5 ∧ a2.toInt + a5.toInt ≤ m) = 0 then fX5_finding 0 (nI 0) μ else if zb (0 ≤ a4 ∧ 0 ≤ a5 ∧ a4.toInt + a5.toInt ≤ l) = 0 then fX5_finding 0 (nI 0) μ else zgd ((¬ a2 < 0 ∧ ¬ a4 < 0 ∧ ¬ a5 < 0) ∧ (a2).toNatClampNeg + (a5).toNatClampNeg ≤ 40 ∧ (a4).toNatClampNeg + (a5).toNatClampNeg ≤ 40) (some (a5, (zrow μ (59 + 2 * t) (va_cpy (μ (59 + 2 * s)) (μ (59 + 2 * t)) (a2).toNatClampNeg (a4).toNatClampNeg (a5).toNatClampNeg))))) else fX5_finding 0 (nI 2) μ := by
        unfold fX5_copy
        rw [c5_isSheet, zbd_s, zif_t h1, c5_isSheet, zbd_s, zif_t h3]
        simp only [zgd_ib hs4 (show 4 < 2 ^ 31 by decide), zgd_ib ht4 (show 4 < 2 ^ 31 by decide), zcl (show s < 2 ^ 31 by omega), zcl (show t < 2 ^ 31 by omega), zadr, zbd_eta]
        unfold fX2_isMissing
        rw [y1]
        by_cases w1 : μ 74 s = 0
        · rw [if_pos w1, if_pos w1, zbd_s, if_neg (by decide)]; rfl
        · rw [if_neg w1, if_neg w1, zbd_s, if_pos rfl, x1]
          by_cases w2 : μ 74 t = 0
          · rw [if_pos w2, if_pos w2, zbd_s, if_neg (by decide)]; rfl
          · rw [if_neg w2, if_neg w2, zbd_s, if_pos rfl, y1, x1, zrun m hm _ _ _ _ y3, zbd_s, zrun l hl _ _ _ _ x3, zbd_s, show 58 + 2 * s + 1 = 59 + 2 * s by omega, show 58 + 2 * t + 1 = 59 + 2 * t by omega]
            rfl
      have o6 : ∀ μ' : zMem, μ' 74 = μ 74 → μ' 75 = μ 75 → fX6_copy 66 (nI s) a2 (nI t) a4 a5 μ' = if μ 74 s = 0 then fX6_finds 66 (nI 5) μ' else if μ 74 t = 0 then fX6_finds 66 (nI 5) μ' else if μ 74 s = μ 74 t then (if zb (0 ≤ a2 ∧ 0 ≤ a5 ∧ a2.toInt + a5.toInt ≤ m) = 0 then fX6_finds 66 (nI 0) μ' else if zb (0 ≤ a4 ∧ 0 ≤ a5 ∧ a4.toInt + a5.toInt ≤ l) = 0 then fX6_finds 66 (nI 0) μ' else fX6_copy_135 200 66 (nI s) a2 (nI t) a4 a5 0 μ') else fX6_finds 66 (nI 2) μ' := by
        intro μ' q1 q2
        unfold fX6_copy
        rw [c6_isSheet, zbd_s, zif_t h1, c6_isSheet, zbd_s, zif_t h3]
        have k0 : fX6_copy_119 66 (nI s) a2 (nI t) a4 a5 0 μ' = fX6_finds 66 (nI 0) μ' := by
          unfold fX6_copy_119; rw [if_pos rfl, zbd_eta]; rfl
        have k1 : fX6_copy_119 66 (nI s) a2 (nI t) a4 a5 1 μ' = fX6_copy_135 200 66 (nI s) a2 (nI t) a4 a5 0 μ' := by
          unfold fX6_copy_119; rw [if_neg (by decide)]
        simp only [zgd_ib hs4 (show 4 < 2 ^ 31 by decide), zgd_ib ht4 (show 4 < 2 ^ 31 by decide), zcl (show s < 2 ^ 31 by omega), zcl (show t < 2 ^ 31 by omega), zbd_eta, k0, k1, show 66 + 8 = 74 from rfl, show 66 + 9 = 75 from rfl, q1, q2, y4, x4]
        by_cases w1 : μ 74 s = 0
        · rw [if_pos w1, if_pos w1]; rfl
        rw [if_neg w1, if_neg w1]
        by_cases w2 : μ 74 t = 0
        · rw [if_pos w2, if_pos w2]; rfl
        rw [if_neg w2, if_neg w2]
        by_cases w3 : μ 74 s = μ 74 t
        · rw [if_pos w3, if_pos w3]
          by_cases w4 : a5 < 0
          · rw [if_pos w4, zif_f (fun q => absurd q.2.1 (Int32.not_le.mpr w4))]
          rw [if_neg w4]
          by_cases w5 : a2 < 0
          · rw [if_pos w5, zif_f (fun q => absurd q.1 (Int32.not_le.mpr w5))]
          rw [if_neg w5]
          by_cases w6 : a4 < 0
          · rw [if_pos w6, zif_f (c := 0 ≤ a4 ∧ _) (fun q => absurd q.1 (Int32.not_le.mpr w6)), ite_self]
          rw [if_neg w6]
          by_cases w7 : a2.toInt + a5.toInt ≤ m
          · rw [if_neg (fun q => (zrun6 m hm a2 a5 w5 w4).1 q w7), zif_t ⟨Int32.not_lt.mp w5, Int32.not_lt.mp w4, w7⟩]
            by_cases w8 : a4.toInt + a5.toInt ≤ l
            · rw [if_neg (fun q => (zrun6 l hl a4 a5 w6 w4).1 q w8), zif_t ⟨Int32.not_lt.mp w6, Int32.not_lt.mp w4, w8⟩]
            · rw [if_pos ((zrun6 l hl a4 a5 w6 w4).2 w8), zif_f (fun q => w8 q.2.2)]
          · rw [if_pos ((zrun6 m hm a2 a5 w5 w4).2 w7), zif_f (fun q => w7 q.2.2)]
        · rw [if_neg w3, if_neg w3]; rfl
      by_cases w1 : μ 74 s = 0
      · exact zfind hI 5 (by decide) (o5.trans (if_pos w1)) (fun μ' h => (o6 μ' (h 74 (by omega) (by omega)) (h 75 (by omega) (by omega))).trans (if_pos w1))
      by_cases w2 : μ 74 t = 0
      · exact zfind hI 5 (by decide) (o5.trans ((if_neg w1).trans (if_pos w2))) (fun μ' h => (o6 μ' (h 74 (by omega) (by omega)) (h 75 (by omega) (by omega))).trans ((if_neg w1).trans (if_pos w2)))
      by_cases w3 : μ 74 s = μ 74 t
      · by_cases w4 : 0 ≤ a2 ∧ 0 ≤ a5 ∧ a2.toInt + a5.toInt ≤ m
        · by_cases w5 : 0 ≤ a4 ∧ 0 ≤ a5 ∧ a4.toInt + a5.toInt ≤ l
          · obtain ⟨v1, v2, v3⟩ := w4
            obtain ⟨v4, -, v5⟩ := id w5
            have b2 : 0 ≤ a2.toInt := Int32.le_iff_toInt_le.mp v1
            have b4 : 0 ≤ a4.toInt := Int32.le_iff_toInt_le.mp v4
            have b5 : 0 ≤ a5.toInt := Int32.le_iff_toInt_le.mp v2
            obtain ⟨p, hp, rfl⟩ := zrng (M := nI 40) (n := 40) rfl ⟨v1, Int32.le_iff_toInt_le.mpr (by rw [show (nI 40).toInt = 40 from rfl]; omega)⟩
            obtain ⟨d, hd, rfl⟩ := zrng (M := nI 40) (n := 40) rfl ⟨v4, Int32.le_iff_toInt_le.mpr (by rw [show (nI 40).toInt = 40 from rfl]; omega)⟩
            obtain ⟨c, hc, rfl⟩ := zrng (M := nI 40) (n := 40) rfl ⟨v2, Int32.le_iff_toInt_le.mpr (by rw [show (nI 40).toInt = 40 from rfl]; omega)⟩
            have t2 : (nI p).toInt = p := nI_toInt (by omega)
            have t4 : (nI d).toInt = d := nI_toInt (by omega)
            have t5 : (nI c).toInt = c := nI_toInt (by omega)
            have f1 : p + c ≤ 40 := by omega
            have f2 : d + c ≤ 40 := by omega
            have k2 : ∀ mm i q, i + mm = c → mm < q → ∀ μ : zMem, ∃ μ', fX6_copy_172 q 66 (nI t) (nI d) (nI c) (nI i) μ = some (nI c, μ') ∧ ∀ a b, μ' a b = if a = 76 ∧ 40 * t + d + i ≤ b ∧ b < 40 * t + d + c then μ 77 (b - (40 * t + d)) else μ a b := by
              intro mm
              induction mm with
              | zero =>
                intro i q hi hq μ
                obtain ⟨q, rfl⟩ : ∃ z, q = z + 1 := ⟨q - 1, by omega⟩
                refine ⟨μ, ?_, fun a b => by rw [if_neg (by omega)]⟩
                rw [fX6_copy_172, zle_t (by omega) (by omega)]
              | succ mm ih =>
                intro i q hi hq μ
                obtain ⟨q, rfl⟩ : ∃ z, q = z + 1 := ⟨q - 1, by omega⟩
                obtain ⟨μ', g1, g2⟩ := ih (i + 1) q (by omega) (by omega) (zst μ 76 (40 * t + d + i) (μ 77 i))
                refine ⟨μ', ?_, fun a b => ?_⟩
                · rw [fX6_copy_172, zle_f (by omega) (by omega), show (40 : Int32) = nI 40 from rfl, pk_mul, nI_add, nI_add]
                  simp only [zgd_ib (show i < 40 by omega) (show 40 < 2 ^ 31 by decide), zgd_ib (show 40 * t + d + i < 160 by omega) (show 160 < 2 ^ 31 by decide), zcl (show i < 2 ^ 31 by omega), zcl (show 40 * t + d + i < 2 ^ 31 by omega), n1]
                  exact g1
                · rw [g2, zst_row_ne (a := 77) (by decide), zst_at]
                  by_cases z : a = 76 ∧ b = 40 * t + d + i
                  · obtain ⟨rfl, rfl⟩ := z
                    rw [if_neg (by omega), if_pos ⟨rfl, rfl⟩, if_pos (by omega), show 40 * t + d + i - (40 * t + d) = i by omega]
                  · rw [if_neg z]
                    repeat' split
                    all_goals first | rfl | (exfalso; omega)
            have k1 : ∀ mm i q, i + mm = c → mm < q → ∀ μ : zMem, ∃ μ', fX6_copy_135 q 66 (nI s) (nI p) (nI t) (nI d) (nI c) (nI i) μ = fX6_copy_172 200 66 (nI t) (nI d) (nI c) 0 μ' ∧ ∀ a b, μ' a b = if a = 77 ∧ i ≤ b ∧ b < c then μ 76 (40 * s + p + b) else μ a b := by
              intro mm
              induction mm with
              | zero =>
                intro i q hi hq μ
                obtain ⟨q, rfl⟩ : ∃ z, q = z + 1 := ⟨q - 1, by omega⟩
                refine ⟨μ, ?_, fun a b => by rw [if_neg (by omega)]⟩
                rw [fX6_copy_135, zle_t (by omega) (by omega)]
              | succ mm ih =>
                intro i q hi hq μ
                obtain ⟨q, rfl⟩ : ∃ z, q = z + 1 := ⟨q - 1, by omega⟩
                obtain ⟨μ', g1, g2⟩ := ih (i + 1) q (by omega) (by omega) (zst μ 77 i (μ 76 (40 * s + p + i)))
                refine ⟨μ', ?_, fun a b => ?_⟩
                · rw [fX6_copy_135, zle_f (by omega) (by omega), show (40 : Int32) = nI 40 from rfl, pk_mul, nI_add, nI_add]
                  simp only [zgd_ib (show i < 40 by omega) (show 40 < 2 ^ 31 by decide), zgd_ib (show 40 * s + p + i < 160 by omega) (show 160 < 2 ^ 31 by decide), zcl (show i < 2 ^ 31 by omega), zcl (show 40 * s + p + i < 2 ^ 31 by omega), n1]
                  exact g1
                · rw [g2, zst_row_ne (a := 76) (by decide), zst_at]
                  by_cases z : a = 77 ∧ b = i
                  · obtain ⟨rfl, rfl⟩ := z
                    rw [if_neg (by omega), if_pos ⟨rfl, rfl⟩, if_pos (by omega)]
                  · rw [if_neg z]
                    repeat' split
                    all_goals first | rfl | (exfalso; omega)
            obtain ⟨ν1, g1, g2⟩ := k1 c 0 200 (by omega) (by omega) (zrow μ (59 + 2 * t) (va_cpy (μ (59 + 2 * s)) (μ (59 + 2 * t)) p d c))
            obtain ⟨ν2, g3, g4⟩ := k2 c 0 200 (by omega) (by omega) ν1
            have r1 : ∀ a, a ≠ 77 → a ≠ 59 + 2 * t → ν1 a = μ a := fun a q1 q2 => funext fun b => by rw [g2, if_neg (fun q => q1 q.1), zrow_ne q2]
            have r2 : ∀ a, a ≠ 76 → ν2 a = ν1 a := fun a q1 => funext fun b => by rw [g4, if_neg (fun q => q1 q.1)]
            have r76 : ∀ b, ν2 76 b = if 40 * t + d ≤ b ∧ b < 40 * t + d + c then μ 76 (40 * s + p + (b - (40 * t + d))) else μ 76 b := by
              intro b
              rw [g4]
              by_cases z : 40 * t + d ≤ b ∧ b < 40 * t + d + c
              · rw [if_pos ⟨rfl, by omega, z.2⟩, if_pos z, g2, if_pos (by omega), zrow_ne (by omega)]
              · rw [if_neg (by omega), if_neg z, r1 76 (by omega) (by omega)]
            refine zE_of (r := nI c) (μ1 := zrow μ (59 + 2 * t) (va_cpy (μ (59 + 2 * s)) (μ (59 + 2 * t)) p d c)) (μ2 := ν2) ?_ ?_ (hI.she ?_ ?_)
            · refine o5.trans ((if_neg w1).trans ((if_neg w2).trans ((if_pos w3).trans ((zif_t ⟨v1, v2, v3⟩).trans ((zif_t w5).trans ?_)))))
              rw [zcl (show p < 2 ^ 31 by omega), zcl (show d < 2 ^ 31 by omega), zcl (show c < 2 ^ 31 by omega)]
              exact zgd_t ⟨⟨nI_pos (by omega), nI_pos (by omega), nI_pos (by omega)⟩, f1, f2⟩
            · refine (o6 _ (zrow_ne (by omega)) (zrow_ne (by omega))).trans ((if_neg w1).trans ((if_neg w2).trans ((if_pos w3).trans ((zif_t ⟨v1, v2, v3⟩).trans ((zif_t w5).trans ?_)))))
              exact g1.trans g3
            · intro k z0 _ z1 z2 z3 z4
              rw [r2 k z4, r1 k (by unfold zscr at z0; omega) (by omega)]
            · intro u hu
              obtain ⟨⟨e1, e2⟩, ⟨e3, e4, e5, e6⟩, e7⟩ := hsh u hu
              rw [r2 (58 + 2 * u) (by omega), r1 (58 + 2 * u) (by omega) (by omega), r2 74 (by omega), r1 74 (by omega) (by omega), r2 75 (by omega), r1 75 (by omega) (by omega), r2 (59 + 2 * u) (by omega)]
              refine ⟨⟨e1, e2⟩, ⟨e3, e4, e5, e6⟩, fun j hj => ?_⟩
              rw [r76]
              by_cases z : u = t
              · subst z
                rw [g2, if_neg (by omega), zrow_at, if_pos rfl]
                by_cases z2 : d ≤ j ∧ j < d + c
                · rw [pk_cpy_in z2.1 z2.2, if_pos (by omega), y5 _ (by omega)]
                  congr 1; omega
                · rw [pk_cpy_out (by omega), if_neg (by omega)]
                  exact e7 j hj
              · rw [r1 _ (by omega) (by omega), if_neg (by omega)]
                exact e7 j hj
          · exact zfind hI 0 (by decide) (o5.trans ((if_neg w1).trans ((if_neg w2).trans ((if_pos w3).trans ((zif_t w4).trans (zif_f w5)))))) (fun μ' h => (o6 μ' (h 74 (by omega) (by omega)) (h 75 (by omega) (by omega))).trans ((if_neg w1).trans ((if_neg w2).trans ((if_pos w3).trans ((zif_t w4).trans (zif_f w5))))))
        · exact zfind hI 0 (by decide) (o5.trans ((if_neg w1).trans ((if_neg w2).trans ((if_pos w3).trans (zif_f w4))))) (fun μ' h => (o6 μ' (h 74 (by omega) (by omega)) (h 75 (by omega) (by omega))).trans ((if_neg w1).trans ((if_neg w2).trans ((if_pos w3).trans (zif_f w4)))))
      · exact zfind hI 2 (by decide) (o5.trans ((if_neg w1).trans ((if_neg w2).trans (if_neg w3)))) (fun μ' h => (o6 μ' (h 74 (by omega) (by omega)) (h 75 (by omega) (by omega))).trans ((if_neg w1).trans ((if_neg w2).trans (if_neg w3))))
    · refine zfind hI 0 (by decide) ?_ (fun μ' _ => ?_)
      · unfold fX5_copy; rw [c5_isSheet, zbd_s, zif_t h1, c5_isSheet, zbd_s, zif_f h3, zbd_eta]; rfl
      · unfold fX6_copy; rw [c6_isSheet, zbd_s, zif_t h1, c6_isSheet, zbd_s, zif_f h3, zbd_eta]; rfl
  · refine zfind hI 0 (by decide) ?_ (fun μ' _ => ?_)
    · unfold fX5_copy; rw [c5_isSheet, zbd_s, zif_f h1, zbd_eta]; rfl
    · unfold fX6_copy; rw [c6_isSheet, zbd_s, zif_f h1, zbd_eta]; rfl
