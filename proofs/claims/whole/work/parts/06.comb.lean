/-! what a method does to the memory, as a function; none: outside what is promised -/
def zok {α : Type} (o : Option (α × zMem)) (Q : α → zMem → Prop) : Prop := match o with
  | none => False
  | some x => Q x.1 x.2
def zgd {β : Type} (c : Prop) [Decidable c] (o : Option β) : Option β := if c then o else none
def zbd {α β : Type} (o : Option (α × zMem)) (f : α → zMem → Option (β × zMem)) : Option (β × zMem) := match o with
  | none => none
  | some x => f x.1 x.2
theorem zok_t {α : Type} {c : Prop} [Decidable c] {a b : Option (α × zMem)} {Q : α → zMem → Prop} (h : zok (if c then a else b) Q) (hc : c) : zok a Q := by rwa [if_pos hc] at h
theorem zok_f {α : Type} {c : Prop} [Decidable c] {a b : Option (α × zMem)} {Q : α → zMem → Prop} (h : zok (if c then a else b) Q) (hc : ¬ c) : zok b Q := by rwa [if_neg hc] at h
theorem zok_g {α : Type} {c : Prop} [Decidable c] {a : Option (α × zMem)} {Q : α → zMem → Prop} (h : zok (zgd c a) Q) : c ∧ zok a Q := by
  unfold zgd at h
  by_cases hc : c
  · rw [if_pos hc] at h; exact ⟨hc, h⟩
  · rw [if_neg hc] at h; exact h.elim
theorem zok_bd {α β : Type} {o : Option (α × zMem)} {f : α → zMem → Option (β × zMem)} {Q : β → zMem → Prop} {Q' : α → zMem → Prop} (h : zok (zbd o f) Q) (k : ∀ r μ, zok (f r μ) Q → Q' r μ) : zok o Q' := by
  cases o with
  | none => exact h.elim
  | some x => exact k x.1 x.2 h
theorem zne {x c : Int32} (n : Int) (hc : c.toInt = n) (h : ¬ x = c) : x.toInt ≠ n := fun q => h (Int32.toInt_inj.mp (q.trans hc.symm))
theorem zpi (v : Int32) (_ : True) : narrow .int (.int v) = .int v := rfl
theorem zpb (v : Int32) (h : v = 0 ∨ v = 1) : narrow .boolean (.int v) = .int v := by rcases h with rfl | rfl <;> decide
theorem zpf {v : Int32} (h : v = 0 ∨ v = 1) : fits .boolean (.int v) = true := by rcases h with rfl | rfl <;> decide
/-- an array of a sort and a length -/
abbrev zR (k c n : Nat) : Prop := zkd k = c ∧ zln k = n
theorem zr_0_0 {k : Nat} (h : zkd k = 0) : zR (k + 1) 7 25 := by
  have q : ∀ k, k < 78 → zkd k = 0 → zR (k + 1) 7 25 := by decide +kernel
  exact q k (zkd_lt h (by decide)) h
theorem zr_0_1 {k : Nat} (h : zkd k = 0) : zR (k + 2) 7 10 := by
  have q : ∀ k, k < 78 → zkd k = 0 → zR (k + 2) 7 10 := by decide +kernel
  exact q k (zkd_lt h (by decide)) h
theorem zr_0_2 {k : Nat} (h : zkd k = 0) : zR (k + 3) 9 6 := by
  have q : ∀ k, k < 78 → zkd k = 0 → zR (k + 3) 9 6 := by decide +kernel
  exact q k (zkd_lt h (by decide)) h
theorem zr_1_0 {k : Nat} (h : zkd k = 1) : zR (k + 1) 7 25 := by
  have q : ∀ k, k < 78 → zkd k = 1 → zR (k + 1) 7 25 := by decide +kernel
  exact q k (zkd_lt h (by decide)) h
theorem zr_1_1 {k : Nat} (h : zkd k = 1) : zR (k + 2) 7 25 := by
  have q : ∀ k, k < 78 → zkd k = 1 → zR (k + 2) 7 25 := by decide +kernel
  exact q k (zkd_lt h (by decide)) h
theorem zr_1_2 {k : Nat} (h : zkd k = 1) : zR (k + 3) 7 25 := by
  have q : ∀ k, k < 78 → zkd k = 1 → zR (k + 3) 7 25 := by decide +kernel
  exact q k (zkd_lt h (by decide)) h
theorem zr_2_2 {k : Nat} (h : zkd k = 2) : zR (k + 1) 7 40 := by
  have q : ∀ k, k < 78 → zkd k = 2 → zR (k + 1) 7 40 := by decide +kernel
  exact q k (zkd_lt h (by decide)) h
theorem zr_3_0 {k : Nat} (h : zkd k = 3) : zR (k + 1) 7 120 := by
  have q : ∀ k, k < 78 → zkd k = 3 → zR (k + 1) 7 120 := by decide +kernel
  exact q k (zkd_lt h (by decide)) h
theorem zr_4_3 {k : Nat} (h : zkd k = 4) : zR (k + 1) 7 4 := by
  have q : ∀ k, k < 78 → zkd k = 4 → zR (k + 1) 7 4 := by decide +kernel
  exact q k (zkd_lt h (by decide)) h
theorem zr_5_0 {k : Nat} (h : zkd k = 5) : zkd (k + 1) = 0 := by
  have q : ∀ k, k < 78 → zkd k = 5 → zkd (k + 1) = 0 := by decide +kernel
  exact q k (zkd_lt h (by decide)) h
theorem zr_5_1 {k : Nat} (h : zkd k = 5) : zkd (k + 17) = 0 := by
  have q : ∀ k, k < 78 → zkd k = 5 → zkd (k + 17) = 0 := by decide +kernel
  exact q k (zkd_lt h (by decide)) h
theorem zr_5_2 {k : Nat} (h : zkd k = 5) : zkd (k + 33) = 0 := by
  have q : ∀ k, k < 78 → zkd k = 5 → zkd (k + 33) = 0 := by decide +kernel
  exact q k (zkd_lt h (by decide)) h
theorem zr_5_3 {k : Nat} (h : zkd k = 5) : zkd (k + 49) = 1 := by
  have q : ∀ k, k < 78 → zkd k = 5 → zkd (k + 49) = 1 := by decide +kernel
  exact q k (zkd_lt h (by decide)) h
theorem zr_5_4 {k : Nat} (h : zkd k = 5) : zkd (k + 53) = 3 := by
  have q : ∀ k, k < 78 → zkd k = 5 → zkd (k + 53) = 3 := by decide +kernel
  exact q k (zkd_lt h (by decide)) h
theorem zr_5_5 {k : Nat} (h : zkd k = 5) : zR (k + 55) 8 4 := by
  have q : ∀ k, k < 78 → zkd k = 5 → zR (k + 55) 8 4 := by decide +kernel
  exact q k (zkd_lt h (by decide)) h
theorem zr_5_6 {k : Nat} (h : zkd k = 5) : zR (k + 56) 7 7 := by
  have q : ∀ k, k < 78 → zkd k = 5 → zR (k + 56) 7 7 := by decide +kernel
  exact q k (zkd_lt h (by decide)) h
theorem zr_5_7 {k : Nat} (h : zkd k = 5) : zR (k + 57) 7 25 := by
  have q : ∀ k, k < 78 → zkd k = 5 → zR (k + 57) 7 25 := by decide +kernel
  exact q k (zkd_lt h (by decide)) h
theorem zr_6_0 {k : Nat} (h : zkd k = 6) : zR (k + 1) 7 87 := by
  have q : ∀ k, k < 78 → zkd k = 6 → zR (k + 1) 7 87 := by decide +kernel
  exact q k (zkd_lt h (by decide)) h
theorem zr_6_1 {k : Nat} (h : zkd k = 6) : zR (k + 2) 7 87 := by
  have q : ∀ k, k < 78 → zkd k = 6 → zR (k + 2) 7 87 := by decide +kernel
  exact q k (zkd_lt h (by decide)) h
theorem zr_6_2 {k : Nat} (h : zkd k = 6) : zR (k + 3) 7 87 := by
  have q : ∀ k, k < 78 → zkd k = 6 → zR (k + 3) 7 87 := by decide +kernel
  exact q k (zkd_lt h (by decide)) h
theorem zr_6_4 {k : Nat} (h : zkd k = 6) : zR (k + 4) 7 7 := by
  have q : ∀ k, k < 78 → zkd k = 6 → zR (k + 4) 7 7 := by decide +kernel
  exact q k (zkd_lt h (by decide)) h
theorem zr_6_5 {k : Nat} (h : zkd k = 6) : zR (k + 5) 7 25 := by
  have q : ∀ k, k < 78 → zkd k = 6 → zR (k + 5) 7 25 := by decide +kernel
  exact q k (zkd_lt h (by decide)) h
theorem zr_6_6 {k : Nat} (h : zkd k = 6) : zR (k + 6) 7 25 := by
  have q : ∀ k, k < 78 → zkd k = 6 → zR (k + 6) 7 25 := by decide +kernel
  exact q k (zkd_lt h (by decide)) h
theorem zr_6_7 {k : Nat} (h : zkd k = 6) : zR (k + 7) 7 120 := by
  have q : ∀ k, k < 78 → zkd k = 6 → zR (k + 7) 7 120 := by decide +kernel
  exact q k (zkd_lt h (by decide)) h
theorem zr_6_12 {k : Nat} (h : zkd k = 6) : zR (k + 8) 7 4 := by
  have q : ∀ k, k < 78 → zkd k = 6 → zR (k + 8) 7 4 := by decide +kernel
  exact q k (zkd_lt h (by decide)) h
theorem zr_6_13 {k : Nat} (h : zkd k = 6) : zR (k + 9) 7 4 := by
  have q : ∀ k, k < 78 → zkd k = 6 → zR (k + 9) 7 4 := by decide +kernel
  exact q k (zkd_lt h (by decide)) h
theorem zr_6_14 {k : Nat} (h : zkd k = 6) : zR (k + 10) 7 160 := by
  have q : ∀ k, k < 78 → zkd k = 6 → zR (k + 10) 7 160 := by decide +kernel
  exact q k (zkd_lt h (by decide)) h
theorem zr_6_15 {k : Nat} (h : zkd k = 6) : zR (k + 11) 7 40 := by
  have q : ∀ k, k < 78 → zkd k = 6 → zR (k + 11) 7 40 := by decide +kernel
  exact q k (zkd_lt h (by decide)) h
theorem zr_tent {k : Nat} {i : Int32} (h : zR k 9 6) (hb : zib i 6) : zkd (k + 1 + 2 * i.toNatClampNeg) = 4 := by
  have q : ∀ k, k < 78 → zkd k = 9 → ∀ j, j < 6 → zkd (k + 1 + 2 * j) = 4 := by decide +kernel
  exact q k (zkd_lt h.1 (by decide)) h.1 _ (by omega)
theorem zr_sheet {k : Nat} {i : Int32} (h : zR k 8 4) (hb : zib i 4) : zkd (k + 3 + 2 * i.toNatClampNeg) = 2 := by
  have q : ∀ k, k < 78 → zkd k = 8 → ∀ j, j < 4 → zkd (k + 3 + 2 * j) = 2 := by decide +kernel
  exact q k (zkd_lt h.1 (by decide)) h.1 _ (by omega)
