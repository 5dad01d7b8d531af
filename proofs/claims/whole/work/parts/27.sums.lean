/-! sums over the ground, the tents, the spots -/
def zfold (f : Nat → Int32 → Int32) : Nat → Nat → Int32 → Int32
  | 0, _, a => a
  | m + 1, i, a => zfold f m (i + 1) (f i a)
theorem zfold_congr {f g : Nat → Int32 → Int32} : ∀ (m i : Nat) (a : Int32), (∀ j, i ≤ j → j < i + m → ∀ a, f j a = g j a) → zfold f m i a = zfold g m i a := by
  intro m
  induction m with
  | zero => intro i a _; rfl
  | succ m ih =>
    intro i a h
    rw [zfold, zfold, h i (by omega) (by omega)]
    exact ih (i + 1) _ (fun j h1 h2 => h j (by omega) (by omega))
def zhs (x : Nat → Int32) : Int32 := zfold (fun i a => a + x (4 + i)) 25 0 0
def zws (n : Nat) (x : Nat → Int32) : Int32 := zfold (fun i a => a + x (29 + 8 * i + 2)) n 0 0
def zps (n : Nat) (x : Nat → Int32) : Int32 := zfold (fun i a => if x (29 + 8 * i + 1) = -1 then a else a ||| ((1 : Int32) <<< (nI i &&& 31))) n 0 0
def zsp (x : Nat → Int32) : Int32 := zfold (fun i a => if x (77 + i) = -1 then a else a + 1) 10 0 0
def zmm (x : Nat → Int32) : Nat → Nat → Int32 → Int32 → Int32
  | 0, _, a, b => a - b
  | m + 1, i, a, b => zmm x m (i + 1) (if a < x (4 + i) then x (4 + i) else a) (if x (4 + i) < b then x (4 + i) else b)
def zrl (x : Nat → Int32) : Int32 := zmm x 24 1 (x 4) (x 4)
theorem c0_heightSum {n c : Nat} {μ : zMem} {x : Nat → Int32} (h : zSim n c μ x) : fX0_heightSum c μ = some (zhs x, μ) := by
  have key : ∀ m i q acc, i + m = 25 → m < q → fX0_heightSum_4 q c acc (nI i) μ = some (zfold (fun i a => a + x (4 + i)) m i acc, μ) := by
    intro m
    induction m with
    | zero =>
      intro i q acc hi hq
      obtain ⟨q, rfl⟩ : ∃ z, q = z + 1 := ⟨q - 1, by omega⟩
      rw [fX0_heightSum_4, show (25 : Int32) = nI 25 from rfl, zle_t (by omega) (by omega)]; rfl
    | succ m ih =>
      intro i q acc hi hq
      obtain ⟨q, rfl⟩ : ∃ z, q = z + 1 := ⟨q - 1, by omega⟩
      rw [fX0_heightSum_4, show (25 : Int32) = nI 25 from rfl, zle_f (by omega) (by omega), zgd_ib (by omega) (by decide), zcl (by omega), n1, h.2.1 i (by omega)]
      exact ih (i + 1) q _ (by omega) (by omega)
  exact key 25 0 200 0 (by omega) (by omega)
theorem c6_heights (μ : zMem) : fX6_heights 66 μ = some (zhs (μ 67), μ) := by
  have key : ∀ m i q acc, i + m = 25 → m < q → fX6_heights_4 q 66 acc (nI i) μ = some (zfold (fun i a => a + μ 67 (4 + i)) m i acc, μ) := by
    intro m
    induction m with
    | zero =>
      intro i q acc hi hq
      obtain ⟨q, rfl⟩ : ∃ z, q = z + 1 := ⟨q - 1, by omega⟩
      rw [fX6_heights_4, show (25 : Int32) = nI 25 from rfl, zle_t (by omega) (by omega)]; rfl
    | succ m ih =>
      intro i q acc hi hq
      obtain ⟨q, rfl⟩ : ∃ z, q = z + 1 := ⟨q - 1, by omega⟩
      rw [fX6_heights_4, show (25 : Int32) = nI 25 from rfl, zle_f (by omega) (by omega), n4, zgd_ib (by omega) (by decide), zcl (by omega), n1]
      exact ih (i + 1) q _ (by omega) (by omega)
  exact key 25 0 200 0 (by omega) (by omega)
theorem c0_wornSum {n c : Nat} {μ : zMem} {x : Nat → Int32} (hn : n ≤ 6) (h : zSim n c μ x) (h2 : x 2 = nI n) : fX0_wornSum c μ = some (zws n x, μ) := by
  have hs : μ c 3 = nI n := h.1.1.trans h2
  have key : ∀ m i q acc, i + m = n → m < q → fX0_wornSum_4 q c acc (nI i) μ = some (zfold (fun i a => a + x (29 + 8 * i + 2)) m i acc, μ) := by
    intro m
    induction m with
    | zero =>
      intro i q acc hi hq
      obtain ⟨q, rfl⟩ : ∃ z, q = z + 1 := ⟨q - 1, by omega⟩
      rw [fX0_wornSum_4, hs, zle_t (by omega) (by omega)]; rfl
    | succ m ih =>
      intro i q acc hi hq
      obtain ⟨q, rfl⟩ : ∃ z, q = z + 1 := ⟨q - 1, by omega⟩
      rw [fX0_wornSum_4, hs, zle_f (by omega) (by omega), zgd_ib (by omega) (by decide), zcl (by omega), n1, show c + 3 + 1 + 2 * i = c + 4 + 2 * i by omega, (h.2.2.2 i (by omega)).1.2.2]
      exact ih (i + 1) q _ (by omega) (by omega)
  exact key n 0 200 0 (by omega) (by omega)
theorem c6_allWorn {n : Nat} {μ : zMem} (hn : n ≤ 6) (h2 : μ 67 2 = nI n) : fX6_allWorn 66 μ = some (zws n (μ 67), μ) := by
  have key : ∀ m i q acc, i + m = n → m < q → fX6_allWorn_4 q 66 acc (nI i) μ = some (zfold (fun i a => a + μ 67 (29 + 8 * i + 2)) m i acc, μ) := by
    intro m
    induction m with
    | zero =>
      intro i q acc hi hq
      obtain ⟨q, rfl⟩ : ∃ z, q = z + 1 := ⟨q - 1, by omega⟩
      rw [fX6_allWorn_4, zgd_t zi2, show μ (66 + 1) (2 : Int32).toNatClampNeg = nI n from h2, zle_t (by omega) (by omega)]; rfl
    | succ m ih =>
      intro i q acc hi hq
      obtain ⟨q, rfl⟩ : ∃ z, q = z + 1 := ⟨q - 1, by omega⟩
      rw [fX6_allWorn_4, zgd_t zi2, show μ (66 + 1) (2 : Int32).toNatClampNeg = nI n from h2, zle_f (by omega) (by omega), show (2 : Int32) = nI 2 from rfl, c6_its (by omega), zbd_s, n1]
      exact ih (i + 1) q _ (by omega) (by omega)
  exact key n 0 200 0 (by omega) (by omega)
theorem zpit {v : Int32} (h : v = -1 ∨ ∃ p, p < 16 ∧ v = nI p) : (0 ≤ v ∧ v ≤ 15) ↔ ¬ v = -1 := by
  rcases h with rfl | ⟨p, hp, rfl⟩
  · exact ⟨fun q => absurd q.1 (by decide), fun q => absurd rfl q⟩
  · exact ⟨fun _ => zne1 (by omega), fun _ => zrng' (n := 15) (by decide) (by omega)⟩
theorem zpin {v : Int32} (h : v = -1 ∨ ∃ p, p < 16 ∧ v = nI p) : (v < 0) ↔ v = -1 := by
  rcases h with rfl | ⟨p, hp, rfl⟩
  · exact ⟨fun _ => rfl, fun _ => by decide⟩
  · exact ⟨fun q => absurd q (nI_pos (by omega)), fun q => absurd q (zne1 (by omega))⟩
theorem c4_isPitched (T : Nat) (μ : zMem) : fX4_isPitched T μ = some (zb (0 ≤ μ T 1 ∧ μ T 1 ≤ 15), μ) := by
  unfold fX4_isPitched; rw [c5_isPitch, zbd_s, zgb]
theorem c0_pitchedSet {n c : Nat} {μ : zMem} {x : Nat → Int32} (hv : zVal n x) (h : zSim n c μ x) : fX0_pitchedSet c μ = some (zps n x, μ) := by
  have hn := hv.1
  have hs : μ c 3 = nI n := h.1.1.trans hv.2.1
  have key : ∀ m i q acc, i + m = n → m < q → fX0_pitchedSet_4 q c acc (nI i) μ = some (zfold (fun i a => if x (29 + 8 * i + 1) = -1 then a else a ||| ((1 : Int32) <<< (nI i &&& 31))) m i acc, μ) := by
    intro m
    induction m with
    | zero =>
      intro i q acc hi hq
      obtain ⟨q, rfl⟩ : ∃ z, q = z + 1 := ⟨q - 1, by omega⟩
      rw [fX0_pitchedSet_4, hs, zle_t (by omega) (by omega)]; rfl
    | succ m ih =>
      intro i q acc hi hq
      obtain ⟨q, rfl⟩ : ∃ z, q = z + 1 := ⟨q - 1, by omega⟩
      have hp := (hv.2.2.2.2.2.2 i (by omega)).2.1
      rw [fX0_pitchedSet_4, hs, zle_f (by omega) (by omega), zgd_ib (by omega) (by decide), zcl (by omega), n1, show c + 3 + 1 + 2 * i = c + 4 + 2 * i by omega, c4_isPitched, zbd_s, (h.2.2.2 i (by omega)).1.2.1, zfold]
      by_cases e : x (29 + 8 * i + 1) = -1
      · rw [zif_f (fun z => (zpit hp).mp z e), if_pos e]
        exact ih (i + 1) q _ (by omega) (by omega)
      · rw [zif_t ((zpit hp).mpr e), if_neg e]
        exact ih (i + 1) q _ (by omega) (by omega)
  exact key n 0 200 0 (by omega) (by omega)
theorem c6_pitched {n : Nat} {μ : zMem} (hv : zVal n (μ 67)) : fX6_pitched 66 μ = some (zps n (μ 67), μ) := by
  have hn := hv.1
  have h2 := hv.2.1
  have key : ∀ m i q acc, i + m = n → m < q → fX6_pitched_4 q 66 acc (nI i) μ = some (zfold (fun i a => if μ 67 (29 + 8 * i + 1) = -1 then a else a ||| ((1 : Int32) <<< (nI i &&& 31))) m i acc, μ) := by
    intro m
    induction m with
    | zero =>
      intro i q acc hi hq
      obtain ⟨q, rfl⟩ : ∃ z, q = z + 1 := ⟨q - 1, by omega⟩
      rw [fX6_pitched_4, zgd_t zi2, show μ (66 + 1) (2 : Int32).toNatClampNeg = nI n from h2, zle_t (by omega) (by omega)]; rfl
    | succ m ih =>
      intro i q acc hi hq
      obtain ⟨q, rfl⟩ : ∃ z, q = z + 1 := ⟨q - 1, by omega⟩
      have hp := (hv.2.2.2.2.2.2 i (by omega)).2.1
      have e1 : fX6_its 66 (nI i) (1 : Int32) μ = some (μ 67 (29 + 8 * i + 1), μ) := c6_its (w := 1) (by omega) μ
      rw [fX6_pitched_4, zgd_t zi2, show μ (66 + 1) (2 : Int32).toNatClampNeg = nI n from h2, zle_f (by omega) (by omega), e1, zbd_s, n1, zfold]
      by_cases e : μ 67 (29 + 8 * i + 1) = -1
      · rw [if_pos ((zpin hp).mpr e), if_pos e, Int32.or_zero]
        exact ih (i + 1) q _ (by omega) (by omega)
      · rw [if_neg (fun z => e ((zpin hp).mp z)), if_neg e]
        exact ih (i + 1) q _ (by omega) (by omega)
  exact key n 0 200 0 (by omega) (by omega)
theorem zspt {n : Nat} {v : Int32} (hn : n ≤ 6) (h : v = -1 ∨ ∃ t, t < n ∧ v = nI t) : (0 ≤ v) ↔ ¬ v = -1 := by
  rcases h with rfl | ⟨p, hp, rfl⟩
  · exact ⟨fun q => absurd q (by decide), fun q => absurd rfl q⟩
  · exact ⟨fun _ => zne1 (by omega), fun _ => nI_pos' (by omega)⟩
theorem c0_spotsHeld {n c : Nat} {μ : zMem} {x : Nat → Int32} (h : zSim n c μ x) : fX0_spotsHeld c μ = some (zsp x, μ) := by
  have key : ∀ m i q acc, i + m = 10 → m < q → fX0_spotsHeld_4 q c acc (nI i) μ = some (zfold (fun i a => if x (77 + i) = -1 then a else a + 1) m i acc, μ) := by
    intro m
    induction m with
    | zero =>
      intro i q acc hi hq
      obtain ⟨q, rfl⟩ : ∃ z, q = z + 1 := ⟨q - 1, by omega⟩
      rw [fX0_spotsHeld_4, show (10 : Int32) = nI 10 from rfl, zle_t (by omega) (by omega)]; rfl
    | succ m ih =>
      intro i q acc hi hq
      obtain ⟨q, rfl⟩ : ∃ z, q = z + 1 := ⟨q - 1, by omega⟩
      rw [fX0_spotsHeld_4, show (10 : Int32) = nI 10 from rfl, zle_f (by omega) (by omega), zgd_ib (by omega) (by decide), zcl (by omega), n1, h.2.2.1 i (by omega), zfold]
      by_cases e : x (77 + i) = -1
      · rw [if_pos e, if_pos e]; exact ih (i + 1) q _ (by omega) (by omega)
      · rw [if_neg e, if_neg e]; exact ih (i + 1) q _ (by omega) (by omega)
  exact key 10 0 200 0 (by omega) (by omega)
theorem c6_heldS {n : Nat} {μ : zMem} (hv : zVal n (μ 67)) : fX6_held_ 66 μ = some (zsp (μ 67), μ) := by
  have key : ∀ m i q acc, i + m = 10 → m < q → fX6_held__4 q 66 acc (nI i) μ = some (zfold (fun i a => if μ 67 (77 + i) = -1 then a else a + 1) m i acc, μ) := by
    intro m
    induction m with
    | zero =>
      intro i q acc hi hq
      obtain ⟨q, rfl⟩ : ∃ z, q = z + 1 := ⟨q - 1, by omega⟩
      rw [fX6_held__4, show (10 : Int32) = nI 10 from rfl, zle_t (by omega) (by omega)]; rfl
    | succ m ih =>
      intro i q acc hi hq
      obtain ⟨q, rfl⟩ : ∃ z, q = z + 1 := ⟨q - 1, by omega⟩
      have hp := hv.2.2.2.2.2.1 i (by omega)
      rw [fX6_held__4, show (10 : Int32) = nI 10 from rfl, zle_f (by omega) (by omega), show (77 : Int32) + nI i = nI (77 + i) from nI_add 77 i, zgd_ib (by omega) (by decide), zcl (by omega), n1, zfold]
      show (if 0 ≤ μ 67 (77 + i) then _ else _) = _
      by_cases e : μ 67 (77 + i) = -1
      · rw [if_neg (fun z => (zspt hv.1 hp).mp z e), if_pos e, Int32.add_zero]; exact ih (i + 1) q _ (by omega) (by omega)
      · rw [if_pos ((zspt hv.1 hp).mpr e), if_neg e]; exact ih (i + 1) q _ (by omega) (by omega)
  exact key 10 0 200 0 (by omega) (by omega)
theorem c0_relief {n c : Nat} {μ : zMem} {x : Nat → Int32} (h : zSim n c μ x) : fX0_relief c μ = some (zrl x, μ) := by
  have key : ∀ m i q a b, i + m = 25 → m < q → fX0_relief_16 q c a b (nI i) μ = some (zmm x m i a b, μ) := by
    intro m
    induction m with
    | zero =>
      intro i q a b hi hq
      obtain ⟨q, rfl⟩ : ∃ z, q = z + 1 := ⟨q - 1, by omega⟩
      rw [fX0_relief_16, show (25 : Int32) = nI 25 from rfl, zle_t (by omega) (by omega)]; rfl
    | succ m ih =>
      intro i q a b hi hq
      obtain ⟨q, rfl⟩ : ∃ z, q = z + 1 := ⟨q - 1, by omega⟩
      rw [fX0_relief_16, show (25 : Int32) = nI 25 from rfl, zle_f (by omega) (by omega), zgd_ib (by omega) (by decide), zgd_ib (by omega) (by decide), zcl (by omega), n1, h.2.1 i (by omega)]
      exact ih (i + 1) q _ _ (by omega) (by omega)
  unfold fX0_relief
  rw [zgd_t (by decide), zgd_t (by decide), show μ (c + 1) (0 : Int32).toNatClampNeg = x 4 from h.2.1 0 (by omega)]
  exact key 24 1 200 _ _ (by omega) (by omega)
theorem c6_span {n : Nat} {μ : zMem} (hv : zVal n (μ 67)) : fX6_span 66 μ = some (zrl (μ 67), μ) := by
  have key : ∀ m i q a b, i + m = 25 → m < q → fX6_span_7 q 66 a b (nI i) μ = some (zmm (μ 67) m i a b, μ) := by
    intro m
    induction m with
    | zero =>
      intro i q a b hi hq
      obtain ⟨q, rfl⟩ : ∃ z, q = z + 1 := ⟨q - 1, by omega⟩
      rw [fX6_span_7, show (25 : Int32) = nI 25 from rfl, zle_t (by omega) (by omega)]; rfl
    | succ m ih =>
      intro i q a b hi hq
      obtain ⟨q, rfl⟩ : ∃ z, q = z + 1 := ⟨q - 1, by omega⟩
      rw [fX6_span_7, show (25 : Int32) = nI 25 from rfl, zle_f (by omega) (by omega), n4, zgd_ib (by omega) (by decide), zgd_ib (by omega) (by decide), zcl (by omega), n1]
      exact ih (i + 1) q _ _ (by omega) (by omega)
  have h0 : fX6_span 66 μ = some (zmm (μ 67) 25 0 0 99, μ) := key 25 0 200 _ _ (by omega) (by omega)
  rw [h0, zmm]
  obtain ⟨v, hv1, hv2⟩ := hv.2.2.2.2.1 0 (by omega)
  have e4 : μ 67 (4 + 0) = μ 67 4 := rfl
  rw [hv2]
  have a1 : (if (0 : Int32) < nI v then nI v else 0) = nI v := by
    rcases Nat.eq_zero_or_pos v with q | q
    · subst q; rfl
    · exact if_pos (nI_lt (a := 0) q (by omega))
  have a2 : (if nI v < (99 : Int32) then nI v else 99) = nI v := by
    rcases Nat.lt_or_ge v 99 with q | q
    · exact if_pos (nI_lt (b := 99) q (by omega))
    · have : v = 99 := by omega
      subst this; rfl
  rw [a1, a2]
  unfold zrl
  rw [← e4, hv2]
/-- the set of pitched tents is one of six bits -/
theorem zbit : ∀ i, i < 31 → (1 : Int32) <<< (nI i &&& 31) = nI (2 ^ i) := by decide +kernel
theorem zor (a b : Nat) : nI a ||| nI b = nI (a ||| b) := by
  apply Int32.toBitVec_inj.mp
  show (BitVec.ofNat 32 a) ||| (BitVec.ofNat 32 b) = BitVec.ofNat 32 (a ||| b)
  exact (BitVec.ofNat_or).symm
theorem zps_lt {n : Nat} {x : Nat → Int32} (hn : n ≤ 6) : ∃ s, s < 64 ∧ zps n x = nI s := by
  have key : ∀ m i a, i + m = n → a < 64 → ∃ s, s < 64 ∧ zfold (fun i a => if x (29 + 8 * i + 1) = -1 then a else a ||| ((1 : Int32) <<< (nI i &&& 31))) m i (nI a) = nI s := by
    intro m
    induction m with
    | zero => intro i a _ ha; exact ⟨a, ha, rfl⟩
    | succ m ih =>
      intro i a hi ha
      rw [zfold]
      by_cases e : x (29 + 8 * i + 1) = -1
      · rw [if_pos e]; exact ih (i + 1) a (by omega) ha
      · rw [if_neg e, zbit i (by omega), zor]
        have h2 : 2 ^ i < 2 ^ 6 := Nat.pow_lt_pow_right (by decide) (by omega)
        exact ih (i + 1) _ (by omega) (Nat.or_lt_two_pow (n := 6) ha h2)
  exact key n 0 0 (by omega) (by omega)
def zones (v : Int32) : Int32 := zfold (fun i a => a + ((v >>> (nI i &&& 31)) &&& 1)) 6 0 0
theorem c6_ones (v : Int32) (μ : zMem) : fX6_ones v μ = some (zones v, μ) := by
  have key : ∀ m i q acc, i + m = 6 → m < q → fX6_ones_4 q v acc (nI i) μ = some (zfold (fun i a => a + ((v >>> (nI i &&& 31)) &&& 1)) m i acc, μ) := by
    intro m
    induction m with
    | zero =>
      intro i q acc hi hq
      obtain ⟨q, rfl⟩ : ∃ z, q = z + 1 := ⟨q - 1, by omega⟩
      rw [fX6_ones_4, show (6 : Int32) = nI 6 from rfl, zle_t (by omega) (by omega)]; rfl
    | succ m ih =>
      intro i q acc hi hq
      obtain ⟨q, rfl⟩ : ∃ z, q = z + 1 := ⟨q - 1, by omega⟩
      rw [fX6_ones_4, show (6 : Int32) = nI 6 from rfl, zle_f (by omega) (by omega), n1]
      exact ih (i + 1) q _ (by omega) (by omega)
  exact key 6 0 200 0 (by omega) (by omega)
def zbc (v : Int32) : Int32 := match fJ6_bitCount_0f7a4 v zm0 with
  | some x => x.1
  | none => 0
theorem cJ_bitCount (v : Int32) (μ : zMem) : fJ6_bitCount_0f7a4 v μ = some (zbc v, μ) := rfl
theorem zbc_eq : ∀ s, s < 64 → zbc (nI s) = zones (nI s) := by decide +kernel
