/-! numbers and steps for the pure part -/
theorem zl (n : Nat) : (@OfNat.ofNat Int32 n Int32.instOfNat) = nI n := rfl
theorem zneg1 : (-1 : Int32) = -nI 1 := rfl
def zb (c : Prop) [Decidable c] : Int32 := if c then 1 else 0
theorem zb_t {c : Prop} [Decidable c] (h : c) : zb c = 1 := if_pos h
theorem zb_f {c : Prop} [Decidable c] (h : ¬ c) : zb c = 0 := if_neg h
theorem zb_01 (c : Prop) [Decidable c] : zb c = 0 ∨ zb c = 1 := by
  by_cases h : c
  · exact Or.inr (zb_t h)
  · exact Or.inl (zb_f h)
theorem zb_0 {c : Prop} [Decidable c] : (zb c = 0) ↔ ¬ c := by
  by_cases h : c
  · rw [zb_t h]; exact ⟨fun q => absurd q (by decide), fun q => absurd h q⟩
  · rw [zb_f h]; exact ⟨fun _ => h, fun _ => rfl⟩
theorem zbd_s {α β : Type} {r : α} {μ : zMem} {f : α → zMem → Option (β × zMem)} : zbd (some (r, μ)) f = f r μ := rfl
theorem zgd_t {β : Type} {c : Prop} [Decidable c] {o : Option β} (h : c) : zgd c o = o := if_pos h
theorem zgd_ib {β : Type} {i n : Nat} {o : Option β} (h : i < n) (hn : n < 2 ^ 31) : zgd (zib (nI i) n) o = o := if_pos (vp_in_nI h hn)
theorem zbd_eta {α : Type} {o : Option (α × zMem)} : (zbd o fun r m => some (r, m)) = o := by
  cases o with
  | none => rfl
  | some x => rfl
theorem zle_t {α : Sort _} {a b : Nat} {x y : α} (h : a ≤ b) (hb : b < 2 ^ 31) : (if nI a ≤ nI b then x else y) = x := if_pos (nI_le h hb)
theorem zle_f {α : Sort _} {a b : Nat} {x y : α} (h : b < a) (hb : a < 2 ^ 31) : (if nI a ≤ nI b then x else y) = y := if_neg (nI_ge h hb)
theorem zlt_t {α : Sort _} {a b : Nat} {x y : α} (h : a < b) (hb : b < 2 ^ 31) : (if nI a < nI b then x else y) = x := if_pos (nI_lt h hb)
theorem zlt_f {α : Sort _} {a b : Nat} {x y : α} (h : b ≤ a) (hb : a < 2 ^ 31) : (if nI a < nI b then x else y) = y := if_neg (nI_nlt h hb)
theorem zeq_t {α : Sort _} {a b : Nat} {x y : α} (h : a = b) : (if nI a = nI b then x else y) = x := if_pos (by rw [h])
theorem zeq_f {α : Sort _} {a b : Nat} {x y : α} (h : a ≠ b) (ha : a < 2 ^ 31) (hb : b < 2 ^ 31) : (if nI a = nI b then x else y) = y := if_neg (fun q => h ((nI_eq ha hb).mp q))
theorem zm1T : (-nI 1).toInt = -1 := by decide
theorem zne1 {a : Nat} (ha : a < 2 ^ 31) : ¬ nI a = -nI 1 := by
  intro h
  have h1 := congrArg Int32.toInt h
  rw [nI_toInt ha, zm1T] at h1
  omega
theorem zeq1_f {α : Sort _} {a : Nat} {x y : α} (ha : a < 2 ^ 31) : (if nI a = -nI 1 then x else y) = y := if_neg (zne1 ha)
theorem zcl {n : Nat} (h : n < 2 ^ 31) : (nI n).toNatClampNeg = n := nI_clamp h
theorem zsub1 {n : Nat} (h : 0 < n) : nI n - nI 1 = nI (n - 1) := pk_sub h
theorem zst_eq (μ : zMem) (k j : Nat) (v : Int32) : zst μ k j v k j = v := by simp [zst, upd]
theorem zst_row_ne {μ : zMem} {k j a : Nat} {v : Int32} (h : a ≠ k) : zst μ k j v a = μ a := by simp [zst, h]
theorem zst_ne {μ : zMem} {k j b : Nat} {v : Int32} (h : b ≠ j) : zst μ k j v k b = μ k b := by simp [zst, upd, h]
theorem zst_at (μ : zMem) (k j a b : Nat) (v : Int32) : zst μ k j v a b = if a = k ∧ b = j then v else μ a b := by
  unfold zst upd
  by_cases h : a = k
  · subst h
    by_cases h2 : b = j
    · subst h2; simp
    · simp [h2]
  · simp [h]
theorem zrow_at (μ : zMem) (k a : Nat) (r : Nat → Int32) : zrow μ k r a = if a = k then r else μ a := rfl
theorem zrow_ne {μ : zMem} {k a : Nat} {r : Nat → Int32} (h : a ≠ k) : zrow μ k r a = μ a := if_neg h
/-- a number between bounds -/
theorem zrng {x M : Int32} {n : Nat} (hM : M.toInt = n) (h : 0 ≤ x ∧ x ≤ M) : ∃ j : Nat, j ≤ n ∧ x = nI j := nI_of2 hM (Int32.not_lt.mpr h.1) h.2
theorem zrng' {n : Nat} {j : Nat} (hn : n < 2 ^ 31) (hj : j ≤ n) : 0 ≤ nI j ∧ nI j ≤ nI n := ⟨nI_pos' (by omega), nI_le hj hn⟩
/-! the checks of both -/
theorem w5 (a b c : Int32) (μ : zMem) : fX5_within a b c μ = some (zb (b ≤ a ∧ a ≤ c), μ) := by
  unfold fX5_within
  by_cases h1 : a < b
  · rw [if_pos h1, zb_f (fun q => absurd q.1 (Int32.not_le.mpr h1))]
  · rw [if_neg h1]
    by_cases h2 : c < a
    · rw [if_pos h2, zb_f (fun q => absurd q.2 (Int32.not_le.mpr h2))]
    · rw [if_neg h2, zb_t ⟨Int32.not_lt.mp h1, Int32.not_lt.mp h2⟩]
theorem zcmp_lt (a b : Int64) : (lg_cmp a b < 0) ↔ a < b := by
  unfold lg_cmp
  by_cases h1 : a > b
  · rw [if_pos h1]
    exact ⟨fun q => absurd q (by decide), fun q => absurd (Int64.lt_trans q h1) (Int64.lt_irrefl)⟩
  · rw [if_neg h1]
    by_cases h2 : a = b
    · rw [if_pos h2, h2]
      exact ⟨fun q => absurd q (by decide), fun q => absurd q Int64.lt_irrefl⟩
    · rw [if_neg h2]
      exact ⟨fun _ => Int64.lt_of_le_of_ne (Int64.not_lt.mp h1) h2, fun _ => by decide⟩
theorem zcmp_gt (a b : Int64) : (0 < lg_cmp a b) ↔ b < a := by
  unfold lg_cmp
  by_cases h1 : a > b
  · rw [if_pos h1]
    exact ⟨fun _ => h1, fun _ => by decide⟩
  · rw [if_neg h1]
    by_cases h2 : a = b
    · rw [if_pos h2]
      exact ⟨fun q => absurd q (by decide), fun q => absurd q h1⟩
    · rw [if_neg h2]
      exact ⟨fun q => absurd q (by decide), fun q => absurd q h1⟩
theorem z64 (a b : Int32) : (a.toInt64 < b.toInt64) ↔ a < b := by
  rw [Int64.lt_iff_toInt_lt, Int32.lt_iff_toInt_lt, Int32.toInt_toInt64, Int32.toInt_toInt64]
theorem w6 (a b c : Int32) (μ : zMem) : fX6_in a.toInt64 b.toInt64 c.toInt64 μ = some (zb (b ≤ a ∧ a ≤ c), μ) := by
  unfold fX6_in
  by_cases h1 : a < b
  · rw [if_pos ((zcmp_lt _ _).mpr ((z64 a b).mpr h1)), zb_f (fun q => absurd q.1 (Int32.not_le.mpr h1))]
  · rw [if_neg (fun q => h1 ((z64 a b).mp ((zcmp_lt _ _).mp q)))]
    by_cases h2 : c < a
    · rw [if_pos ((zcmp_gt _ _).mpr ((z64 c a).mpr h2)), zb_f (fun q => absurd q.2 (Int32.not_le.mpr h2))]
    · rw [if_neg (fun q => h2 ((z64 c a).mp ((zcmp_gt _ _).mp q))), zb_t ⟨Int32.not_lt.mp h1, Int32.not_lt.mp h2⟩]
theorem zgb {α : Type} {c : Prop} [Decidable c] {o : Option α} : zgd (zb c = 0 ∨ zb c = 1) o = o := zgd_t (zb_01 c)
theorem c5_isCell (x : Int32) (μ : zMem) : fX5_isCell x μ = some (zb (0 ≤ x ∧ x ≤ 24), μ) := by unfold fX5_isCell; rw [w5, zbd_s, zgb]
theorem c5_isPitch (x : Int32) (μ : zMem) : fX5_isPitch x μ = some (zb (0 ≤ x ∧ x ≤ 15), μ) := by unfold fX5_isPitch; rw [w5, zbd_s, zgb]
theorem c5_isKind (x : Int32) (μ : zMem) : fX5_isKind x μ = some (zb (0 ≤ x ∧ x ≤ 6), μ) := by unfold fX5_isKind; rw [w5, zbd_s, zgb]
theorem c5_isSheet (x : Int32) (μ : zMem) : fX5_isSheet x μ = some (zb (0 ≤ x ∧ x ≤ 3), μ) := by unfold fX5_isSheet; rw [w5, zbd_s, zgb]
theorem c5_isMeasure (x : Int32) (μ : zMem) : fX5_isMeasure x μ = some (zb (0 ≤ x ∧ x ≤ 99), μ) := by unfold fX5_isMeasure; rw [w5, zbd_s, zgb]
theorem c5_isTent (a : Nat) (x : Int32) (μ : zMem) : fX5_isTent a x μ = some (zb (0 ≤ x ∧ x ≤ μ (a + 1) 3 - 1), μ) := by unfold fX5_isTent; rw [w5, zbd_s, zgb]
theorem c6_isCell (x : Int32) (μ : zMem) : fX6_isCell x μ = some (zb (0 ≤ x ∧ x ≤ 24), μ) := by unfold fX6_isCell; rw [show (0 : Int64) = (0 : Int32).toInt64 from rfl, show (24 : Int64) = (24 : Int32).toInt64 from rfl, w6, zbd_s, zgb]
theorem c6_isPitch (x : Int32) (μ : zMem) : fX6_isPitch x μ = some (zb (0 ≤ x ∧ x ≤ 15), μ) := by unfold fX6_isPitch; rw [show (0 : Int64) = (0 : Int32).toInt64 from rfl, show (15 : Int64) = (15 : Int32).toInt64 from rfl, w6, zbd_s, zgb]
theorem c6_isKind (x : Int32) (μ : zMem) : fX6_isKind x μ = some (zb (0 ≤ x ∧ x ≤ 6), μ) := by unfold fX6_isKind; rw [show (0 : Int64) = (0 : Int32).toInt64 from rfl, show (6 : Int64) = (6 : Int32).toInt64 from rfl, w6, zbd_s, zgb]
theorem c6_isSheet (x : Int32) (μ : zMem) : fX6_isSheet x μ = some (zb (0 ≤ x ∧ x ≤ 3), μ) := by unfold fX6_isSheet; rw [show (0 : Int64) = (0 : Int32).toInt64 from rfl, show (3 : Int64) = (3 : Int32).toInt64 from rfl, w6, zbd_s, zgb]
theorem c6_isSpot (x : Int32) (μ : zMem) : fX6_isSpot x μ = some (zb (0 ≤ x ∧ x ≤ 9), μ) := by unfold fX6_isSpot; rw [show (0 : Int64) = (0 : Int32).toInt64 from rfl, show (9 : Int64) = (9 : Int32).toInt64 from rfl, w6, zbd_s, zgb]
theorem c6_isHigh (x : Int32) (μ : zMem) : fX6_isHigh x μ = some (zb (0 ≤ x ∧ x ≤ 99), μ) := by unfold fX6_isHigh; rw [show (0 : Int64) = (0 : Int32).toInt64 from rfl, show (99 : Int64) = (99 : Int32).toInt64 from rfl, w6, zbd_s, zgb]
theorem zi2 : zib (2 : Int32) 87 := by decide
theorem c6_isTent (a : Nat) (x : Int32) (μ : zMem) : fX6_isTent a x μ = some (zb (0 ≤ x ∧ x ≤ μ (a + 1) 2 - 1), μ) := by unfold fX6_isTent; rw [zgd_t zi2, show (0 : Int64) = (0 : Int32).toInt64 from rfl, w6, zbd_s, zgb]; rfl
theorem c5_find (k : Nat) (hk : k < 7) (μ : zMem) : fX5_finding 0 (nI k) μ = some ((-1000001 : Int32) - nI k, zst μ 56 k (μ 56 k + 1)) := by
  unfold fX5_finding
  rw [w5, zbd_s, if_neg (by rw [zb_t (show (0 : Int32) ≤ nI k ∧ nI k ≤ 6 from zrng' (n := 6) (by decide) (by omega))]; decide), zgd_ib hk (by decide), zgd_ib hk (by decide), zcl (by omega)]
theorem c6_find (k : Nat) (hk : k < 7) (μ : zMem) : fX6_finds 66 (nI k) μ = some ((-1000001 : Int32) - nI k, zst μ 70 k (μ 70 k + 1)) := by
  unfold fX6_finds
  rw [zgd_ib hk (by decide), zgd_ib hk (by decide), zcl (by omega)]
