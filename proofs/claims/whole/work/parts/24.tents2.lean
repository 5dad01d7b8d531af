theorem znl {a b : Nat} (h : a ≠ b) (ha : a < 2 ^ 31) (hb : b < 2 ^ 31) : ¬ nI a = nI b := fun q => h ((nI_eq ha hb).mp q)
theorem c5_isT {n : Nat} {μ : zMem} (s1 : μ 1 3 = nI n) (x : Int32) : fX5_isTent 0 x μ = some (zb (0 ≤ x ∧ x ≤ nI n - 1), μ) := by rw [c5_isTent, show μ (0 + 1) 3 = nI n from s1]
theorem c6_isT {n : Nat} {μ : zMem} (s1 : μ 67 2 = nI n) (x : Int32) : fX6_isTent 66 x μ = some (zb (0 ≤ x ∧ x ≤ nI n - 1), μ) := by rw [c6_isTent, show μ (66 + 1) 2 = nI n from s1]
theorem zm1no {n : Nat} (hn : n ≤ 6) : ¬ (0 ≤ (-1 : Int32) ∧ (-1 : Int32) ≤ nI n - 1) := fun q => absurd q.1 (by decide)
theorem e32 : zE32 zInv := by
  intro a1 a2 μ hI
  obtain ⟨⟨n, hc⟩, -⟩ := id hI
  obtain ⟨hn6, s67, s1⟩ := hc.size
  by_cases h1 : 0 ≤ a1 ∧ a1 ≤ 9
  · by_cases h2 : a2 = -1 ∨ (0 ≤ a2 ∧ a2 ≤ nI n - 1)
    · obtain ⟨i, hi, rfl⟩ := zrng (n := 9) rfl h1
      have hv : a2 = -1 ∨ ∃ t, t < n ∧ a2 = nI t := by
        rcases h2 with q | q
        · exact Or.inl q
        · exact Or.inr ((ztent hn6).mp q)
      have p5 : ∀ μ, fX5_hold_29 0 (nI i) a2 μ = some (1, zst μ 3 i a2) := fun μ => by
        unfold fX5_hold_29
        rw [zgd_ib (by omega) (by decide), zcl (by omega)]
      have p6 : ∀ μ, fX6_hold_26 66 (nI i) a2 μ = some (1, zst μ 67 (77 + i) a2) := fun μ => by
        unfold fX6_hold_26
        rw [show (77 : Int32) + nI i = nI (77 + i) from nI_add 77 i, zgd_ib (by omega) (by decide), zcl (by omega)]
      refine zE_of (r := 1) (μ1 := zst μ 3 i a2) (μ2 := zst (zst μ 3 i a2) 67 (77 + i) a2) ?_ ?_ (zInv_put hI hc (by omega) (by omega) 3 i (zloc_s (by omega)) (zVal_put hc.1 (Or.inr (Or.inr (Or.inr (Or.inr (Or.inl ⟨i, by omega, rfl, hv⟩)))))))
      · unfold fX5_hold
        rw [w5, zbd_s, zif_t h1]
        by_cases q : a2 = -1
        · rw [if_pos q, p5]
        · rw [if_neg q, c5_isT s1, zbd_s, zif_t (h2.resolve_left q), p5]
      · unfold fX6_hold
        rw [c6_isSpot, zbd_s, zif_t h1]
        by_cases q : a2 = -1
        · rw [if_pos q, p6]
        · rw [if_neg q, c6_isT (n := n) (by rw [zst_row_ne (by decide)]; exact s67), zbd_s, zif_t (h2.resolve_left q), p6]
    · have q1 : ¬ a2 = -1 := fun q => h2 (Or.inl q)
      have q2 : ¬ (0 ≤ a2 ∧ a2 ≤ nI n - 1) := fun q => h2 (Or.inr q)
      refine zfind hI 0 (by decide) ?_ (fun μ' hm => ?_)
      · unfold fX5_hold
        rw [w5, zbd_s, zif_t h1, if_neg q1, c5_isT s1, zbd_s, zif_f q2, zbd_eta]; rfl
      · unfold fX6_hold
        rw [c6_isSpot, zbd_s, zif_t h1, if_neg q1, c6_isT (n := n) (by rw [hm 67 (by omega) (by omega)]; exact s67), zbd_s, zif_f q2, zbd_eta]; rfl
  · refine zfind hI 0 (by decide) ?_ (fun μ' _ => ?_)
    · unfold fX5_hold
      rw [w5, zbd_s, zif_f h1, zbd_eta]; rfl
    · unfold fX6_hold
      rw [c6_isSpot, zbd_s, zif_f h1, zbd_eta]; rfl
/-- which kinds are under which -/
def zun (k a : Nat) : Int32 := if (([[0], [1, 0], [2, 0], [3, 2, 0], [4, 3, 2, 0], [5, 0], [6, 1, 0]] : List (List Nat)).getD k []).contains a then 1 else 0
theorem c4_under {k a : Nat} (hk : k < 7) (ha : a < 7) (μ : zMem) : fX4_isUnder (nI k) (nI a) μ = some (zun k a, μ) := by
  have h1 : k = 0 ∨ k = 1 ∨ k = 2 ∨ k = 3 ∨ k = 4 ∨ k = 5 ∨ k = 6 := by omega
  have h2 : a = 0 ∨ a = 1 ∨ a = 2 ∨ a = 3 ∨ a = 4 ∨ a = 5 ∨ a = 6 := by omega
  rcases h1 with rfl | rfl | rfl | rfl | rfl | rfl | rfl <;> rcases h2 with rfl | rfl | rfl | rfl | rfl | rfl | rfl <;> rfl
theorem c6_under {k a : Nat} (hk : k < 7) (ha : a < 7) (μ : zMem) : fX6_isUnder (nI k) (nI a) μ = some (zun k a, μ) := by
  have h1 : k = 0 ∨ k = 1 ∨ k = 2 ∨ k = 3 ∨ k = 4 ∨ k = 5 ∨ k = 6 := by omega
  have h2 : a = 0 ∨ a = 1 ∨ a = 2 ∨ a = 3 ∨ a = 4 ∨ a = 5 ∨ a = 6 := by omega
  rcases h1 with rfl | rfl | rfl | rfl | rfl | rfl | rfl <;> rcases h2 with rfl | rfl | rfl | rfl | rfl | rfl | rfl <;> rfl
theorem e33 : zE33 zInv := by
  intro a1 a2 μ hI
  obtain ⟨⟨n, hc⟩, -⟩ := id hI
  obtain ⟨hn6, s67, s1⟩ := hc.size
  by_cases h1 : 0 ≤ a1 ∧ a1 ≤ 9
  · by_cases h2 : 0 ≤ a2 ∧ a2 ≤ 6
    · obtain ⟨i, hi, rfl⟩ := zrng (n := 9) rfl h1
      obtain ⟨a, ha, rfl⟩ := zrng (n := 6) rfl h2
      have sp := hc.2.1.2.2.1 i (by omega)
      rcases hc.1.2.2.2.2.2.1 i (by omega) with hw | ⟨t, ht, hw⟩
      · refine zfind hI 5 (by decide) ?_ (fun μ' hm => ?_)
        · unfold fX5_as
          rw [w5, zbd_s, zif_t h1, c5_isKind, zbd_s, zif_t h2, zgd_ib (by omega) (by decide), zcl (by omega), show μ (0 + 1 + 2) i = -1 from (by rw [show μ (0 + 1 + 2) = μ (1 + 2) from rfl, sp, hw]), c5_isT s1, zbd_s, zif_f (zm1no hn6), zbd_eta]; rfl
        · unfold fX6_as
          rw [c6_isSpot, zbd_s, zif_t h1, c6_isKind, zbd_s, zif_t h2, show (77 : Int32) + nI i = nI (77 + i) from nI_add 77 i, zgd_ib (by omega) (by decide), zcl (by omega), show μ' (66 + 1) (77 + i) = -1 from (by rw [show μ' (66 + 1) = μ' 67 from rfl, hm 67 (by omega) (by omega), hw]), if_neg (by decide), zbd_eta]; rfl
      · obtain ⟨k, hk, hkd⟩ := (hc.1.2.2.2.2.2.2 t ht).1
        have kd1 := (hc.2.1.2.2.2 t ht).1.1
        have pre5 : fX5_as 0 (nI i) (nI a) μ = (if zun k a = 0 then (zbd (fX5_finding 0 2 μ) fun r18 m19 => some (r18, m19)) else some (nI t, μ)) := by
          unfold fX5_as
          rw [w5, zbd_s, zif_t h1, c5_isKind, zbd_s, zif_t h2, zgd_ib (by omega) (by decide), zcl (by omega), show μ (0 + 1 + 2) i = nI t from (by rw [show μ (0 + 1 + 2) = μ (1 + 2) from rfl, sp, hw]), c5_isT s1, zbd_s, zif_t ((ztent hn6).mpr ⟨t, ht, rfl⟩), zgd_ib (by omega) (by decide), zcl (by omega), show μ (0 + 1 + 3 + 1 + 2 * t) 0 = nI k from (by rw [show 0 + 1 + 3 + 1 + 2 * t = 1 + 4 + 2 * t by omega, kd1, hkd]), c4_under hk (by omega), zbd_s]
        have pre6 : ∀ μ' : zMem, μ' 67 = μ 67 → fX6_as 66 (nI i) (nI a) μ' = (if zun k a = 0 then (zbd (fX6_finds 66 2 μ') fun r18 m19 => some (r18, m19)) else some (nI t, μ')) := by
          intro μ' e
          unfold fX6_as
          rw [c6_isSpot, zbd_s, zif_t h1, c6_isKind, zbd_s, zif_t h2, show (77 : Int32) + nI i = nI (77 + i) from nI_add 77 i, zgd_ib (by omega) (by decide), zcl (by omega), show μ' (66 + 1) (77 + i) = nI t from (by rw [show μ' (66 + 1) = μ' 67 from rfl, e, hw]), if_pos (nI_pos' (by omega)), show (0 : Int32) = nI 0 from rfl, c6_its (by omega), zbd_s, show μ' 67 (29 + 8 * t + 0) = nI k from (by rw [e]; exact hkd), c6_under hk (by omega), zbd_s]
        by_cases q : zun k a = 0
        · refine zfind hI 2 (by decide) ?_ (fun μ' hm => ?_)
          · rw [pre5, if_pos q, zbd_eta]; rfl
          · rw [pre6 μ' (hm 67 (by omega) (by omega)), if_pos q, zbd_eta]; rfl
        · exact zE_of (by rw [pre5, if_neg q]) (by rw [pre6 μ rfl, if_neg q]) hI
    · refine zfind hI 0 (by decide) ?_ (fun μ' _ => ?_)
      · unfold fX5_as
        rw [w5, zbd_s, zif_t h1, c5_isKind, zbd_s, zif_f h2, zbd_eta]; rfl
      · unfold fX6_as
        rw [c6_isSpot, zbd_s, zif_t h1, c6_isKind, zbd_s, zif_f h2, zbd_eta]; rfl
  · refine zfind hI 0 (by decide) ?_ (fun μ' _ => ?_)
    · unfold fX5_as
      rw [w5, zbd_s, zif_f h1, zbd_eta]; rfl
    · unfold fX6_as
      rw [c6_isSpot, zbd_s, zif_f h1, zbd_eta]; rfl
/-- what a kind wears -/
def zwear (k : Int32) : Int32 := if k = 1 then 2 else if k = 2 then 1 else if k = 3 then 1 else if k = 4 then 0 else if k = 5 then 5 else if k = 6 then 4 else 1
theorem c4_wear (a : Nat) (μ : zMem) : fX4_wear a μ = some (zwear (μ a 0), μ) := by
  unfold fX4_wear zwear
  repeat' split
  all_goals rfl
theorem c6_wears {t : Nat} (ht : t < 6) (μ : zMem) : fX6_wears 66 (nI t) μ = some (zwear (μ 67 (29 + 8 * t)), μ) := by
  unfold fX6_wears
  rw [show (0 : Int32) = nI 0 from rfl, c6_its (by omega), zbd_s]
  show _ = some (zwear (μ 67 (29 + 8 * t + 0)), μ)
  unfold zwear
  repeat' split
  all_goals rfl
theorem e4 : zE4 zInv := by
  intro a1 a2 μ hI
  obtain ⟨⟨n, hc⟩, -⟩ := id hI
  obtain ⟨hn6, s67, s1⟩ := hc.size
  by_cases h1 : 0 ≤ a1 ∧ a1 ≤ nI n - 1
  · by_cases h2 : 0 ≤ a2 ∧ a2 ≤ 7
    · obtain ⟨t, ht, rfl⟩ := (ztent hn6).mp h1
      obtain ⟨w, hw, rfl⟩ := zrng (n := 7) rfl h2
      obtain ⟨⟨g0, g1, g2⟩, gf⟩ := hc.2.1.2.2.2 t ht
      have pre5 : fX5_of 0 (nI t) (nI w) μ = zbd (fX4_trait (1 + 4 + 2 * t) (nI w) μ) fun r m => some (r, m) := by
        unfold fX5_of
        rw [c5_isT s1, zbd_s, zif_t h1, w5, zbd_s, zif_t h2, zgd_ib (by omega) (by decide), zcl (by omega), show 0 + 1 + 3 + 1 + 2 * t = 1 + 4 + 2 * t by omega]
      have pre6 : fX6_of 66 (nI t) (nI w) μ = if nI w = (3 : Int32) then some (zwear (μ 67 (29 + 8 * t)), μ) else some (μ 67 (29 + 8 * t + w), μ) := by
        unfold fX6_of
        rw [c6_isT s67, zbd_s, zif_t h1, show (0 : Int64) = (0 : Int32).toInt64 from rfl, show (7 : Int64) = (7 : Int32).toInt64 from rfl, w6, zbd_s, zif_t h2, c6_wears (by omega), zbd_s, c6_its (by omega), zbd_s]
      have hw8 : w = 0 ∨ w = 1 ∨ w = 2 ∨ w = 3 ∨ ∃ j, j < 4 ∧ w = 4 + j := by
        rcases Nat.lt_or_ge w 4 with q | q
        · omega
        · exact Or.inr (Or.inr (Or.inr (Or.inr ⟨w - 4, by omega, by omega⟩)))
      rcases hw8 with rfl | rfl | rfl | rfl | ⟨j, hj, rfl⟩
      · refine zE_of (r := μ (1 + 4 + 2 * t) 0) (μ1 := μ) (μ2 := μ) ?_ ?_ hI
        · rw [pre5]; rfl
        · rw [pre6, g0]; rfl
      · refine zE_of (r := μ (1 + 4 + 2 * t) 1) (μ1 := μ) (μ2 := μ) ?_ ?_ hI
        · rw [pre5]; rfl
        · rw [pre6, g1]; rfl
      · refine zE_of (r := μ (1 + 4 + 2 * t) 2) (μ1 := μ) (μ2 := μ) ?_ ?_ hI
        · rw [pre5]; rfl
        · rw [pre6, g2]; rfl
      · refine zE_of (r := zwear (μ (1 + 4 + 2 * t) 0)) (μ1 := μ) (μ2 := μ) ?_ ?_ hI
        · rw [pre5]
          have : fX4_trait (1 + 4 + 2 * t) (nI 3) μ = zbd (fX4_wear (1 + 4 + 2 * t) μ) fun r m => some (r, m) := rfl
          rw [this, c4_wear]; rfl
        · rw [pre6, g0]; rfl
      · refine zE_of (r := μ (1 + 5 + 2 * t) j) (μ1 := μ) (μ2 := μ) ?_ ?_ hI
        · rw [pre5]
          unfold fX4_trait
          rw [if_neg (show ¬ nI (4 + j) = (0 : Int32) from znl (b := 0) (by omega) (by omega) (by omega)), if_neg (show ¬ nI (4 + j) = (1 : Int32) from znl (b := 1) (by omega) (by omega) (by omega)), if_neg (show ¬ nI (4 + j) = (2 : Int32) from znl (b := 2) (by omega) (by omega) (by omega)), if_neg (show ¬ nI (4 + j) = (3 : Int32) from znl (b := 3) (by omega) (by omega) (by omega)), w5, zbd_s, zif_t (show (4 : Int32) ≤ nI (4 + j) ∧ nI (4 + j) ≤ 7 from ⟨nI_le (a := 4) (b := 4 + j) (by omega) (by omega), nI_le (b := 7) (by omega) (by decide)⟩), show nI (4 + j) - (4 : Int32) = nI j from (by rw [show (4 : Int32) = nI 4 from rfl, pk_sub (by omega)]; congr 1; omega), zgd_ib hj (by decide), zcl (by omega), show 1 + 4 + 2 * t + 1 = 1 + 5 + 2 * t by omega]
          rfl
        · rw [pre6, show (3 : Int32) = nI 3 from rfl, zeq_f (by omega) (by omega) (by omega), gf j hj, show 29 + 8 * t + (4 + j) = 29 + 8 * t + 4 + j by omega]
    · refine zfind hI 0 (by decide) ?_ (fun μ' hm => ?_)
      · unfold fX5_of
        rw [c5_isT s1, zbd_s, zif_t h1, w5, zbd_s, zif_f h2, zbd_eta]; rfl
      · unfold fX6_of
        rw [c6_isT (n := n) (by rw [hm 67 (by omega) (by omega)]; exact s67), zbd_s, zif_t h1, show (0 : Int64) = (0 : Int32).toInt64 from rfl, show (7 : Int64) = (7 : Int32).toInt64 from rfl, w6, zbd_s, zif_f h2, zbd_eta]; rfl
  · refine zfind hI 0 (by decide) ?_ (fun μ' hm => ?_)
    · unfold fX5_of
      rw [c5_isT s1, zbd_s, zif_f h1, zbd_eta]; rfl
    · unfold fX6_of
      rw [c6_isT (n := n) (by rw [hm 67 (by omega) (by omega)]; exact s67), zbd_s, zif_f h1, zbd_eta]; rfl
theorem zge1 {v M : Int32} (hM : 0 ≤ M) : (-1 ≤ v ∧ v ≤ M) ↔ (v = -1 ∨ (0 ≤ v ∧ v ≤ M)) := by
  have e1 : (-1 : Int32).toInt = -1 := by decide
  have e0 : (0 : Int32).toInt = 0 := by decide
  simp only [Int32.le_iff_toInt_le, ← Int32.toInt_inj, e1, e0] at *
  omega
/-- what may become what: both say the same -/
theorem zmay (w v : Int32) : ∃ b : Bool, (∀ μ, fX4_mayBecome w v μ = some (if b = true then 1 else 0, μ)) ∧ (∀ μ, fX6_mayBe w v μ = some (if b = true then 1 else 0, μ)) ∧ (b = true → (w = 0 ∧ ∃ k, k < 7 ∧ v = nI k) ∨ (w = 1 ∧ (v = -1 ∨ ∃ p, p < 16 ∧ v = nI p)) ∨ (w = 2 ∧ ∃ m, m ≤ 99 ∧ v = nI m) ∨ ∃ j, j < 4 ∧ w = nI (4 + j) ∧ (v = -1 ∨ ∃ m, m ≤ 99 ∧ v = nI m)) := by
  by_cases w0 : w = 0
  · subst w0
    by_cases h : 0 ≤ v ∧ v ≤ 6
    · obtain ⟨k, hk, rfl⟩ := zrng (n := 6) rfl h
      refine ⟨true, fun μ => ?_, fun μ => ?_, fun _ => Or.inl ⟨rfl, k, by omega, rfl⟩⟩
      · unfold fX4_mayBecome; rw [if_pos rfl, c5_isKind, zbd_s, zgb, zb_t h]; rfl
      · unfold fX6_mayBe; rw [if_pos rfl, c6_isKind, zbd_s, zgb, zb_t h]; rfl
    · refine ⟨false, fun μ => ?_, fun μ => ?_, fun q => absurd q (by decide)⟩
      · unfold fX4_mayBecome; rw [if_pos rfl, c5_isKind, zbd_s, zgb, zb_f h]; rfl
      · unfold fX6_mayBe; rw [if_pos rfl, c6_isKind, zbd_s, zgb, zb_f h]; rfl
  · by_cases w1 : w = 1
    · subst w1
      by_cases h : v = -1 ∨ (0 ≤ v ∧ v ≤ 15)
      · refine ⟨true, fun μ => ?_, fun μ => ?_, fun _ => Or.inr (Or.inl ⟨rfl, ?_⟩)⟩
        · unfold fX4_mayBecome
          rw [if_neg w0, if_pos rfl]
          by_cases q : v = -1
          · rw [if_pos q]; rfl
          · rw [if_neg q, c5_isPitch, zbd_s, zif_t (h.resolve_left q)]; rfl
        · unfold fX6_mayBe
          rw [if_neg w0, if_pos rfl, show (-1 : Int64) = (-1 : Int32).toInt64 from rfl, show (15 : Int64) = (15 : Int32).toInt64 from rfl, w6, zbd_s, zgb, zb_t ((zge1 (by decide)).mpr h)]; rfl
        · rcases h with h | h
          · exact Or.inl h
          · obtain ⟨p, hp, e⟩ := zrng (n := 15) rfl h
            exact Or.inr ⟨p, by omega, e⟩
      · refine ⟨false, fun μ => ?_, fun μ => ?_, fun q => absurd q (by decide)⟩
        · unfold fX4_mayBecome
          rw [if_neg w0, if_pos rfl, if_neg (fun q => h (Or.inl q)), c5_isPitch, zbd_s, zif_f (fun q => h (Or.inr q))]; rfl
        · unfold fX6_mayBe
          rw [if_neg w0, if_pos rfl, show (-1 : Int64) = (-1 : Int32).toInt64 from rfl, show (15 : Int64) = (15 : Int32).toInt64 from rfl, w6, zbd_s, zgb, zb_f (fun q => h ((zge1 (by decide)).mp q))]; rfl
    · by_cases w2 : w = 2
      · subst w2
        by_cases h : 0 ≤ v ∧ v ≤ 99
        · obtain ⟨k, hk, rfl⟩ := zrng (n := 99) rfl h
          refine ⟨true, fun μ => ?_, fun μ => ?_, fun _ => Or.inr (Or.inr (Or.inl ⟨rfl, k, hk, rfl⟩))⟩
          · unfold fX4_mayBecome; rw [if_neg w0, if_neg w1, if_pos rfl, c5_isMeasure, zbd_s, zgb, zb_t h]; rfl
          · unfold fX6_mayBe; rw [if_neg w0, if_neg w1, if_pos rfl, c6_isHigh, zbd_s, zgb, zb_t h]; rfl
        · refine ⟨false, fun μ => ?_, fun μ => ?_, fun q => absurd q (by decide)⟩
          · unfold fX4_mayBecome; rw [if_neg w0, if_neg w1, if_pos rfl, c5_isMeasure, zbd_s, zgb, zb_f h]; rfl
          · unfold fX6_mayBe; rw [if_neg w0, if_neg w1, if_pos rfl, c6_isHigh, zbd_s, zgb, zb_f h]; rfl
      · by_cases h4 : 4 ≤ w ∧ w ≤ 7
        · obtain ⟨j, hj, rfl⟩ : ∃ j, j < 4 ∧ w = nI (4 + j) := by
            obtain ⟨q, hq, e⟩ := zrng (n := 7) rfl (show 0 ≤ w ∧ w ≤ 7 from ⟨Int32.le_trans (by decide) h4.1, h4.2⟩)
            subst e
            have : 4 ≤ q := by
              rcases Nat.lt_or_ge q 4 with z | z
              · exact absurd h4.1 (nI_ge z (by decide))
              · exact z
            exact ⟨q - 4, by omega, by congr 1; omega⟩
          by_cases h : v = -1 ∨ (0 ≤ v ∧ v ≤ 99)
          · refine ⟨true, fun μ => ?_, fun μ => ?_, fun _ => Or.inr (Or.inr (Or.inr ⟨j, hj, rfl, ?_⟩))⟩
            · unfold fX4_mayBecome
              rw [if_neg w0, if_neg w1, if_neg w2, w5, zbd_s, zif_t h4]
              by_cases q : v = -1
              · rw [if_pos q]; rfl
              · rw [if_neg q, c5_isMeasure, zbd_s, zif_t (h.resolve_left q)]; rfl
            · unfold fX6_mayBe
              rw [if_neg w0, if_neg w1, if_neg w2, show (4 : Int64) = (4 : Int32).toInt64 from rfl, show (7 : Int64) = (7 : Int32).toInt64 from rfl, w6, zbd_s, zif_t h4, show (-1 : Int64) = (-1 : Int32).toInt64 from rfl, show (99 : Int64) = (99 : Int32).toInt64 from rfl, w6, zbd_s, zif_t ((zge1 (by decide)).mpr h)]; rfl
            · rcases h with h | h
              · exact Or.inl h
              · obtain ⟨p, hp, e⟩ := zrng (n := 99) rfl h
                exact Or.inr ⟨p, by omega, e⟩
          · refine ⟨false, fun μ => ?_, fun μ => ?_, fun q => absurd q (by decide)⟩
            · unfold fX4_mayBecome
              rw [if_neg w0, if_neg w1, if_neg w2, w5, zbd_s, zif_t h4, if_neg (fun q => h (Or.inl q)), c5_isMeasure, zbd_s, zif_f (fun q => h (Or.inr q))]; rfl
            · unfold fX6_mayBe
              rw [if_neg w0, if_neg w1, if_neg w2, show (4 : Int64) = (4 : Int32).toInt64 from rfl, show (7 : Int64) = (7 : Int32).toInt64 from rfl, w6, zbd_s, zif_t h4, show (-1 : Int64) = (-1 : Int32).toInt64 from rfl, show (99 : Int64) = (99 : Int32).toInt64 from rfl, w6, zbd_s, zif_f (fun q => h ((zge1 (by decide)).mp q))]; rfl
        · refine ⟨false, fun μ => ?_, fun μ => ?_, fun q => absurd q (by decide)⟩
          · unfold fX4_mayBecome
            rw [if_neg w0, if_neg w1, if_neg w2, w5, zbd_s, zif_f h4]; rfl
          · unfold fX6_mayBe
            rw [if_neg w0, if_neg w1, if_neg w2, show (4 : Int64) = (4 : Int32).toInt64 from rfl, show (7 : Int64) = (7 : Int32).toInt64 from rfl, w6, zbd_s, zif_f h4]; rfl
/-- reading and writing of one trait -/
theorem c4_traitf {T j : Nat} (hj : j < 4) (μ : zMem) : fX4_trait T (nI (4 + j)) μ = some (μ (T + 1) j, μ) := by
  unfold fX4_trait
  rw [if_neg (show ¬ nI (4 + j) = (0 : Int32) from znl (b := 0) (by omega) (by omega) (by omega)), if_neg (show ¬ nI (4 + j) = (1 : Int32) from znl (b := 1) (by omega) (by omega) (by omega)), if_neg (show ¬ nI (4 + j) = (2 : Int32) from znl (b := 2) (by omega) (by omega) (by omega)), if_neg (show ¬ nI (4 + j) = (3 : Int32) from znl (b := 3) (by omega) (by omega) (by omega)), w5, zbd_s, zif_t (show (4 : Int32) ≤ nI (4 + j) ∧ nI (4 + j) ≤ 7 from ⟨nI_le (a := 4) (b := 4 + j) (by omega) (by omega), nI_le (b := 7) (by omega) (by decide)⟩), show nI (4 + j) - (4 : Int32) = nI j from (by rw [show (4 : Int32) = nI 4 from rfl, pk_sub (by omega)]; congr 1; omega), zgd_ib hj (by decide), zcl (by omega)]
theorem c4_setf {T j : Nat} (hj : j < 4) (v : Int32) (μ : zMem) : fX4_setTrait T (nI (4 + j)) v μ = some ((), zst μ (T + 1) j v) := by
  unfold fX4_setTrait
  rw [if_neg (show ¬ nI (4 + j) = (0 : Int32) from znl (b := 0) (by omega) (by omega) (by omega)), if_neg (show ¬ nI (4 + j) = (1 : Int32) from znl (b := 1) (by omega) (by omega) (by omega)), if_neg (show ¬ nI (4 + j) = (2 : Int32) from znl (b := 2) (by omega) (by omega) (by omega)), w5, zbd_s, zif_t (show (4 : Int32) ≤ nI (4 + j) ∧ nI (4 + j) ≤ 7 from ⟨nI_le (a := 4) (b := 4 + j) (by omega) (by omega), nI_le (b := 7) (by omega) (by decide)⟩), show nI (4 + j) - (4 : Int32) = nI j from (by rw [show (4 : Int32) = nI 4 from rfl, pk_sub (by omega)]; congr 1; omega), zgd_ib hj (by decide), zcl (by omega)]
theorem e5 : zE5 zInv := by
  intro a1 a2 a3 μ hI
  obtain ⟨⟨n, hc⟩, -⟩ := id hI
  obtain ⟨hn6, s67, s1⟩ := hc.size
  by_cases h1 : 0 ≤ a1 ∧ a1 ≤ nI n - 1
  · obtain ⟨b, p5, p6, pv⟩ := zmay a2 a3
    cases b with
    | false =>
      refine zfind hI 0 (by decide) ?_ (fun μ' hm => ?_)
      · unfold fX5_change
        rw [c5_isT s1, zbd_s, zif_t h1, p5, zbd_s]
        show (zbd (fX5_finding 0 0 μ) fun r m => some (r, m)) = _
        rw [zbd_eta]; rfl
      · unfold fX6_change
        rw [c6_isT (n := n) (by rw [hm 67 (by omega) (by omega)]; exact s67), zbd_s, zif_t h1, p6, zbd_s]
        show (zbd (fX6_finds 66 0 μ') fun r m => some (r, m)) = _
        rw [zbd_eta]; rfl
    | true =>
      obtain ⟨t, ht, rfl⟩ := (ztent hn6).mp h1
      obtain ⟨⟨g0, g1, g2⟩, gf⟩ := hc.2.1.2.2.2 t ht
      have q5 : fX5_change 0 (nI t) a2 a3 μ = zbd (fX4_trait (1 + 4 + 2 * t) a2 μ) fun r m => zbd (fX4_setTrait (1 + 4 + 2 * t) a2 a3 m) fun _ m' => some (r, m') := by
        unfold fX5_change
        rw [c5_isT s1, zbd_s, zif_t h1, p5, zbd_s]
        rw [if_neg (show ¬ ((if true = true then (1 : Int32) else 0) = 0) by decide)]
        simp only [zgd_ib (show t < 6 by omega) (show 6 < 2 ^ 31 by decide), zcl (show t < 2 ^ 31 by omega)]
      have q6 : ∀ (w : Nat), w < 8 → a2 = nI w → ∀ μ' : zMem, μ' 67 = μ 67 → fX6_change 66 (nI t) a2 a3 μ' = some (μ 67 (29 + 8 * t + w), zst μ' 67 (29 + 8 * t + w) a3) := by
        intro w hw e μ' em
        unfold fX6_change
        rw [c6_isT (n := n) (by rw [em]; exact s67), zbd_s, zif_t h1, p6, zbd_s]
        rw [if_neg (show ¬ ((if true = true then (1 : Int32) else 0) = 0) by decide), e, show (29 : Int32) + (8 : Int32) * nI t + nI w = nI (29 + 8 * t + w) from (by rw [show (29 : Int32) = nI 29 from rfl, show (8 : Int32) = nI 8 from rfl, pk_mul, nI_add, nI_add]), c6_becomes (by omega), zbd_s, em]
      rcases pv rfl with ⟨rfl, hv⟩ | ⟨rfl, hv⟩ | ⟨rfl, hv⟩ | ⟨j, hj, rfl, hv⟩
      · refine zE_of (r := μ (1 + 4 + 2 * t) 0) (μ1 := zst μ (1 + 4 + 2 * t) 0 a3) (μ2 := zst (zst μ (1 + 4 + 2 * t) 0 a3) 67 (29 + 8 * t) a3) ?_ ?_ (zInv_put hI hc (by omega) (by omega) _ 0 (zloc_t (w := 0) (by omega) (by omega)) (zVal_put hc.1 (Or.inr (Or.inr (Or.inr (Or.inr (Or.inr ⟨t, ht, Or.inl ⟨rfl, hv⟩⟩)))))))
        · rw [q5]; rfl
        · rw [q6 0 (by omega) rfl _ (zst_row_ne (by omega)), g0]; rfl
      · refine zE_of (r := μ (1 + 4 + 2 * t) 1) (μ1 := zst μ (1 + 4 + 2 * t) 1 a3) (μ2 := zst (zst μ (1 + 4 + 2 * t) 1 a3) 67 (29 + 8 * t + 1) a3) ?_ ?_ (zInv_put hI hc (by omega) (by omega) _ 1 (zloc_t (by omega) (by omega)) (zVal_put hc.1 (Or.inr (Or.inr (Or.inr (Or.inr (Or.inr ⟨t, ht, Or.inr (Or.inl ⟨rfl, hv⟩)⟩)))))))
        · rw [q5]; rfl
        · rw [q6 1 (by omega) rfl _ (zst_row_ne (by omega)), g1]
      · refine zE_of (r := μ (1 + 4 + 2 * t) 2) (μ1 := zst μ (1 + 4 + 2 * t) 2 a3) (μ2 := zst (zst μ (1 + 4 + 2 * t) 2 a3) 67 (29 + 8 * t + 2) a3) ?_ ?_ (zInv_put hI hc (by omega) (by omega) _ 2 (zloc_t (by omega) (by omega)) (zVal_put hc.1 (Or.inr (Or.inr (Or.inr (Or.inr (Or.inr ⟨t, ht, Or.inr (Or.inr (Or.inl ⟨rfl, hv⟩))⟩)))))))
        · rw [q5]; rfl
        · rw [q6 2 (by omega) rfl _ (zst_row_ne (by omega)), g2]
      · refine zE_of (r := μ (1 + 5 + 2 * t) j) (μ1 := zst μ (1 + 5 + 2 * t) j a3) (μ2 := zst (zst μ (1 + 5 + 2 * t) j a3) 67 (29 + 8 * t + 4 + j) a3) ?_ ?_ (zInv_put hI hc (by omega) (by omega) _ j (zloc_f (by omega) (by omega)) (zVal_put hc.1 (Or.inr (Or.inr (Or.inr (Or.inr (Or.inr ⟨t, ht, Or.inr (Or.inr (Or.inr ⟨j, hj, rfl, hv⟩))⟩)))))))
        · rw [q5, c4_traitf hj, zbd_s, c4_setf hj, zbd_s, show 1 + 4 + 2 * t + 1 = 1 + 5 + 2 * t by omega]
        · rw [q6 (4 + j) (by omega) rfl _ (zst_row_ne (by omega)), gf j hj, show 29 + 8 * t + (4 + j) = 29 + 8 * t + 4 + j by omega]
  · refine zfind hI 0 (by decide) ?_ (fun μ' hm => ?_)
    · unfold fX5_change
      rw [c5_isT s1, zbd_s, zif_f h1, zbd_eta]; rfl
    · unfold fX6_change
      rw [c6_isT (n := n) (by rw [hm 67 (by omega) (by omega)]; exact s67), zbd_s, zif_f h1, zbd_eta]; rfl
