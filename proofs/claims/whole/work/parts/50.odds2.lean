/-! odds: the two fractions are the same -/
def zreT (μ : zMem) (o : Option (Int64 × zMem)) : Option (Int64 × zMem) := o.map (fun x => (x.1, μ))
theorem zp_pow : ∀ q a n acc i (μ ν : zMem), fX5_power_5 q a n acc i μ = zreT μ (fX5_power_5 q a n acc i ν) := by
  intro q
  induction q with
  | zero => intro a n acc i μ ν; rfl
  | succ q ih =>
    intro a n acc i μ ν
    rw [fX5_power_5, fX5_power_5]
    by_cases w : n ≤ i
    · rw [if_pos w, if_pos w]; rfl
    · rw [if_neg w, if_neg w]; exact ih _ _ _ _ _ _
theorem zp_79 (a1 a2 : Int32) (a3 a5 : Int64) (μ ν : zMem) : fX5_odds_79 a1 a2 a3 a5 μ = zreT μ (fX5_odds_79 a1 a2 a3 a5 ν) := by
  unfold fX5_odds_79 fX5_power
  rw [zbd_eta, zbd_eta, zbd_eta, zbd_eta]
  by_cases w : a2 = 0
  · rw [if_pos w, if_pos w]; exact zp_pow _ _ _ _ _ _ _
  · rw [if_neg w, if_neg w]; exact zp_pow _ _ _ _ _ _ _
theorem zp_43 : ∀ q a1 a2 a3 a5 a7 (μ ν : zMem), fX5_odds_43 q a1 a2 a3 a5 a7 μ = zreT μ (fX5_odds_43 q a1 a2 a3 a5 a7 ν) := by
  intro q
  induction q with
  | zero => intros; rfl
  | succ q ih =>
    intro a1 a2 a3 a5 a7 μ ν
    rw [fX5_odds_43, fX5_odds_43]
    by_cases w : (4 : Int32) ≤ a7
    · rw [if_pos w, if_pos w]; exact zp_79 _ _ _ _ _ _
    · rw [if_neg w, if_neg w]
      by_cases w2 : (lg_cmp (a3 - a3 / (2 : Int64) * (2 : Int64)) (0 : Int64)) = 0
      · rw [if_pos w2, if_pos w2]; exact ih _ _ _ _ _ _ _
      · rw [if_neg w2, if_neg w2]; exact zp_79 _ _ _ _ _ _
theorem zp_72 : ∀ q a2 a3 a5 a7 a9 (μ ν : zMem), fX6_odds_72 q a2 a3 a5 a7 a9 μ = zreT μ (fX6_odds_72 q a2 a3 a5 a7 a9 ν) := by
  intro q
  induction q with
  | zero => intros; rfl
  | succ q ih =>
    intro a2 a3 a5 a7 a9 μ ν
    rw [fX6_odds_72, fX6_odds_72]
    by_cases w : (lg_cmp a9 (0 : Int64)) = 0
    · rw [if_pos w, if_pos w]
      by_cases w2 : a2 = 0
      · rw [if_pos w2, if_pos w2]
        by_cases w3 : ¬ a7 = 0
        · rw [zgd_t w3, zgd_t w3]; rfl
        · unfold zgd; rw [if_neg w3, if_neg w3]; rfl
      · rw [if_neg w2, if_neg w2]
        by_cases w3 : ¬ a7 = 0
        · rw [zgd_t w3, zgd_t w3]; rfl
        · unfold zgd; rw [if_neg w3, if_neg w3]; rfl
    · rw [if_neg w, if_neg w]
      by_cases w3 : ¬ a9 = 0
      · rw [zgd_t w3, zgd_t w3]; exact ih _ _ _ _ _ _ _
      · unfold zgd; rw [if_neg w3, if_neg w3]; rfl
def zip64 (d : Int64) : Nat → Int64 → Int64
  | 0, A => A
  | m + 1, A => zip64 d m (A * d)
theorem c6_37 {v n : Nat} {μ : zMem} (hn : n ≤ 15) (hd : zdp (μ 67 3) = nI v) (b : Int32) : ∀ m i q A B, i + m = n → m < q → fX6_odds_37 q 66 (nI n) b A B (nI i) μ = fX6_odds_72 200 b (zip64 (nI v).toInt64 m A) (zip64 16 m B) (zip64 (nI v).toInt64 m A) (zip64 16 m B) μ := by
  intro m
  induction m with
  | zero =>
    intro i q A B hi hq
    obtain ⟨q, rfl⟩ : ∃ z, q = z + 1 := ⟨q - 1, by omega⟩
    rw [fX6_odds_37, zle_t (by omega) (by omega)]; rfl
  | succ m ih =>
    intro i q A B hi hq
    obtain ⟨q, rfl⟩ : ∃ z, q = z + 1 := ⟨q - 1, by omega⟩
    rw [fX6_odds_37, zle_f (by omega) (by omega), c6_dry, zbd_s, hd, n1]
    exact ih (i + 1) q _ _ (by omega) (by omega)
def zo5 (v n b : Nat) : Option Int64 := (fX5_odds_43 200 (nI n) (nI b) (nI v).toInt64 16 0 (fun _ _ => 0)).map Prod.fst
def zo6 (v n b : Nat) : Option Int64 := (fX6_odds_72 200 (nI b) (zip64 (nI v).toInt64 n 1) (zip64 16 n 1) (zip64 (nI v).toInt64 n 1) (zip64 16 n 1) (fun _ _ => 0)).map Prod.fst
theorem zo_eq : ∀ v, v ≤ 16 → ∀ n, n ≤ 15 → ∀ b, b ≤ 1 → zo5 v n b = zo6 v n b ∧ (zo5 v n b).isSome = true := by decide +kernel
