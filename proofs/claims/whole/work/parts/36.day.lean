/-! a day passes -/
/-- a row in its bounds, whatever its day -/
def zVl (n : Nat) (x : Nat → Int32) : Prop := zVal n (upd x 0 (nI 0))
theorem zVal.vl {n : Nat} {x : Nat → Int32} (h : zVal n x) : zVl n x := zVal_put h (Or.inr (Or.inl ⟨rfl, 0, by omega, rfl⟩))
theorem zVl.out {n : Nat} {x : Nat → Int32} (h : zVl n x) : n ≤ 6 ∧ x 2 = nI n ∧ (∃ s, s < 2 ^ 25 ∧ x 3 = nI s) ∧
  (∀ i, i < 25 → ∃ h, h ≤ 99 ∧ x (4 + i) = nI h) ∧
  (∀ i, i < 10 → x (77 + i) = -1 ∨ ∃ t, t < n ∧ x (77 + i) = nI t) ∧
  ∀ t, t < n → (∃ k, k < 7 ∧ x (29 + 8 * t) = nI k) ∧ (x (29 + 8 * t + 1) = -1 ∨ ∃ p, p < 16 ∧ x (29 + 8 * t + 1) = nI p) ∧ (∃ w, w ≤ 99 ∧ x (29 + 8 * t + 2) = nI w) ∧
    ∀ j, j < 4 → x (29 + 8 * t + 4 + j) = -1 ∨ ∃ f, f ≤ 99 ∧ x (29 + 8 * t + 4 + j) = nI f := by
  have e : ∀ k, k ≠ 0 → upd x 0 (nI 0) k = x k := fun k hk => pk_un hk
  obtain ⟨a1, a2, -, a4, a5, a6, a7⟩ := h
  refine ⟨a1, by rw [← e 2 (by omega)]; exact a2, by rw [← e 3 (by omega)]; exact a4, fun i hi => by rw [← e (4 + i) (by omega)]; exact a5 i hi, fun i hi => by rw [← e (77 + i) (by omega)]; exact a6 i hi, fun t ht => ?_⟩
  obtain ⟨b1, b2, b3, b4⟩ := a7 t ht
  rw [e _ (by omega)] at b1 b2 b3
  exact ⟨b1, b2, b3, fun j hj => by rw [← e (29 + 8 * t + 4 + j) (by omega)]; exact b4 j hj⟩
theorem zVl_put {n : Nat} {x : Nat → Int32} {k : Nat} {v : Int32} (h : zVl n x) (hv : k = 0 ∨ (∃ i, i < 25 ∧ k = 4 + i ∧ ∃ m, m ≤ 99 ∧ v = nI m) ∨ (∃ i, i < 10 ∧ k = 77 + i ∧ (v = -1 ∨ ∃ t, t < n ∧ v = nI t)) ∨ (∃ t, t < n ∧ ((k = 29 + 8 * t ∧ ∃ m, m < 7 ∧ v = nI m) ∨ (k = 29 + 8 * t + 1 ∧ (v = -1 ∨ ∃ m, m < 16 ∧ v = nI m)) ∨ (k = 29 + 8 * t + 2 ∧ ∃ m, m ≤ 99 ∧ v = nI m) ∨ ∃ j, j < 4 ∧ k = 29 + 8 * t + 4 + j ∧ (v = -1 ∨ ∃ m, m ≤ 99 ∧ v = nI m)))) : zVl n (upd x k v) := by
  by_cases k0 : k = 0
  · subst k0
    unfold zVl
    have e : upd (upd x 0 v) 0 (nI 0) = upd x 0 (nI 0) := funext fun a => by
      by_cases q : a = 0
      · subst q; rw [pk_us, pk_us]
      · rw [pk_un q, pk_un q, pk_un q]
    rw [e]; exact h
  · unfold zVl
    have e : upd (upd x k v) 0 (nI 0) = upd (upd x 0 (nI 0)) k v := funext fun a => by
      by_cases q : a = 0
      · subst q; rw [pk_us, pk_un (fun z => k0 z.symm), pk_us]
      · rw [pk_un q]
        by_cases q2 : a = k
        · subst q2; rw [pk_us, pk_us]
        · rw [pk_un q2, pk_un q2, pk_un q]
    rw [e]
    exact zVal_put h (Or.inr (Or.inr (Or.inr (hv.resolve_left k0))))
theorem zst_r (μ : zMem) (k j : Nat) (v : Int32) : zst μ k j v k = upd (μ k) j v := by simp [zst]
/-! what a kind presses, and what it takes -/
def zpr (k f g : Nat) : Nat := if k = 1 then f else if k = 2 then g else if k = 3 then (if f ≤ g then g else g + 1) else if k = 4 then min ((if f ≤ g then g else g + 1) + 3) 99 else if k = 5 then (f + 3 * g) / 4 else if k = 6 then min (f + 1) 99 else (f + g) / 2
def ztk (k w f g : Nat) : Nat := if k = 1 then f else if k = 2 then g else if k = 3 then (f + g) / 2 else if k = 4 then min ((f + g) / 2 + 1) 99 else if k = 5 then (if 50 ≤ w then g else f) else if k = 6 then f else (f + g) / 2
theorem zpr_le {k f g : Nat} (hf : f ≤ 99) (hg : g ≤ 99) : zpr k f g ≤ 99 := by
  unfold zpr; repeat' split
  all_goals omega
theorem ztk_le {k w f g : Nat} (hf : f ≤ 99) (hg : g ≤ 99) : ztk k w f g ≤ 99 := by
  unfold ztk; repeat' split
  all_goals omega
theorem zmin {a b : Nat} (ha : a < 2 ^ 31) (hb : b < 2 ^ 31) : (if nI a < nI b then nI a else nI b) = nI (min a b) := by
  by_cases w : a < b
  · rw [zlt_t w hb, Nat.min_eq_left (by omega)]
  · rw [zlt_f (by omega) ha, Nat.min_eq_right (by omega)]
theorem c6_held {a : Nat} (ha : a < 2 ^ 31) (μ : zMem) : fX6_held (nI a) μ = some (nI (min a 99), μ) := by
  unfold fX6_held
  rw [show (99 : Int32) = nI 99 from rfl, zmin ha (by decide)]
  by_cases w : min a 99 = 0
  · rw [w]; rfl
  · rw [show (0 : Int32) = nI 0 from rfl, zlt_t (by omega) (by omega)]
theorem zeqk {α : Sort _} {k j : Nat} {x y : α} (hk : k < 7) (hj : j < 7) : (if nI k = nI j then x else y) = if k = j then x else y := by
  by_cases w : k = j
  · rw [zeq_t w, if_pos w]
  · rw [zeq_f w (by omega) (by omega), if_neg w]
theorem c4_pressed {T k f g : Nat} (hk : k < 7) (hf : f ≤ 99) (hg : g ≤ 99) (μ : zMem) (h : μ T 0 = nI k) : fX4_pressed T (nI f) (nI g) μ = some (nI (zpr k f g), μ) := by
  have pp : fX4_patchedPress (nI f) (nI g) μ = some (nI (if f ≤ g then g else g + 1), μ) := by
    unfold fX4_patchedPress
    by_cases w : f ≤ g
    · rw [zle_t w (by omega), if_pos w]
    · rw [zle_f (by omega) (by omega), if_neg w, n1]
  unfold fX4_pressed
  rw [h, pp, zbd_s, zbd_s]
  rw [show (1 : Int32) = nI 1 from rfl, show (2 : Int32) = nI 2 from rfl, show (3 : Int32) = nI 3 from rfl, show (4 : Int32) = nI 4 from rfl, show (5 : Int32) = nI 5 from rfl, show (6 : Int32) = nI 6 from rfl, show (99 : Int32) = nI 99 from rfl]
  simp only [zeqk hk (show 1 < 7 by omega), zeqk hk (show 2 < 7 by omega), zeqk hk (show 3 < 7 by omega), zeqk hk (show 4 < 7 by omega), zeqk hk (show 5 < 7 by omega), zeqk hk (show 6 < 7 by omega)]
  rw [nI_add, zmin (by split <;> omega) (by omega), nI_add, zmin (by omega) (by omega), pk_mul, nI_add, pk_div (by omega) (by omega) (by omega), nI_add, pk_div (by omega) (by omega) (by omega)]
  unfold zpr
  repeat' split
  all_goals rfl
