/-! texts: the tokens, on both sides -/
theorem zst_id {μ : zMem} {k j : Nat} {v : Int32} (h : μ k j = v) : zst μ k j v = μ := by
  funext a c; rw [zst_at]; split
  · next q => rw [q.1, q.2, h]
  · rfl
theorem zst_zst (μ : zMem) (k j : Nat) (v w : Int32) : zst (zst μ k j v) k j w = zst μ k j w := by
  funext a c; rw [zst_at, zst_at, zst_at]; split <;> rfl
/-- the sort of what stands at i -/
def zqso (b : Nat → Nat) (L i : Nat) : Nat := if i < L then (if 97 ≤ b i ∧ b i ≤ 122 then 1 else if 48 ≤ b i ∧ b i ≤ 57 then 2 else if b i = 59 then 3 else 4) else 0
def zqsp (b : Nat → Nat) : Nat → Nat → Nat
  | 0, p => p
  | m + 1, p => if b p = 32 then zqsp b m (p + 1) else p
def zqru (b : Nat → Nat) (L k : Nat) : Nat → Nat → Nat
  | 0, i => i
  | m + 1, i => if zqso b L i = k then zqru b L k m (i + 1) else i
def zqen (b : Nat → Nat) (L f : Nat) : Nat := if zqso b L f = 0 then f else if zqso b L f = 1 ∨ zqso b L f = 2 then zqru b L (zqso b L f) (L - (f + 1)) (f + 1) else f + 1
def zqva (b : Nat → Nat) : Nat → Nat → Nat → Nat
  | 0, _, a => a
  | m + 1, i, a => if 999 < a then zqva b m (i + 1) a else zqva b m (i + 1) (a * 10 + b i - 48)
theorem zqsp_le {b : Nat → Nat} : ∀ m p, p ≤ zqsp b m p ∧ zqsp b m p ≤ p + m := by
  intro m
  induction m with
  | zero => intro p; exact ⟨Nat.le_refl _, Nat.le_refl _⟩
  | succ m ih =>
    intro p
    rw [zqsp]
    split
    · have := ih (p + 1); omega
    · omega
theorem zqru_le {b : Nat → Nat} {L k : Nat} : ∀ m i, i ≤ zqru b L k m i ∧ zqru b L k m i ≤ i + m ∧ ∀ j, i ≤ j → j < zqru b L k m i → zqso b L j = k := by
  intro m
  induction m with
  | zero => intro i; exact ⟨Nat.le_refl _, Nat.le_refl _, fun j h1 h2 => by rw [zqru] at h2; omega⟩
  | succ m ih =>
    intro i
    rw [zqru]
    by_cases w : zqso b L i = k
    · rw [if_pos w]
      obtain ⟨h1, h2, h3⟩ := ih (i + 1)
      refine ⟨by omega, by omega, fun j q1 q2 => ?_⟩
      by_cases e : j = i
      · rw [e]; exact w
      · exact h3 j (by omega) q2
    · rw [if_neg w]
      exact ⟨by omega, by omega, fun j q1 q2 => by omega⟩
theorem zqso_0 {b : Nat → Nat} {L i : Nat} : zqso b L i = 0 ↔ ¬ i < L := by
  unfold zqso
  constructor
  · intro h w
    rw [if_pos w] at h
    repeat' split at h
    all_goals omega
  · intro h; rw [if_neg h]
theorem zqso_le {b : Nat → Nat} {L i : Nat} : zqso b L i ≤ 4 := by
  unfold zqso
  repeat' split
  all_goals omega
theorem zqso_1 {b : Nat → Nat} {L i : Nat} : zqso b L i = 1 ↔ (i < L ∧ 97 ≤ b i ∧ b i ≤ 122) := by
  unfold zqso
  repeat' split
  all_goals omega
theorem zqso_2 {b : Nat → Nat} {L i : Nat} : zqso b L i = 2 ↔ (i < L ∧ 48 ≤ b i ∧ b i ≤ 57) := by
  unfold zqso
  repeat' split
  all_goals omega
theorem zqso_3 {b : Nat → Nat} {L i : Nat} : zqso b L i = 3 ↔ (i < L ∧ b i = 59) := by
  unfold zqso
  repeat' split
  all_goals omega
theorem zqen_le {b : Nat → Nat} {L f : Nat} (hf : f ≤ L) : f ≤ zqen b L f ∧ zqen b L f ≤ L ∧ (zqso b L f ≠ 0 → f < zqen b L f) := by
  unfold zqen
  by_cases w : zqso b L f = 0
  · rw [if_pos w]; exact ⟨Nat.le_refl _, hf, fun z => absurd w z⟩
  · rw [if_neg w]
    have : f < L := Decidable.byContradiction fun z => w (zqso_0.2 z)
    by_cases w2 : zqso b L f = 1 ∨ zqso b L f = 2
    · rw [if_pos w2]
      have := (zqru_le (b := b) (L := L) (k := zqso b L f) (L - (f + 1)) (f + 1))
      omega
    · rw [if_neg w2]; omega
theorem zqen_dig {b : Nat → Nat} {L f : Nat} (h2 : zqso b L f = 2) : ∀ j, f ≤ j → j < zqen b L f → 48 ≤ b j ∧ b j ≤ 57 := by
  intro j q1 q2
  unfold zqen at q2
  rw [h2, if_neg (by decide), if_pos (by decide)] at q2
  by_cases e : j = f
  · rw [e]; exact (zqso_2.1 h2).2
  · exact (zqso_2.1 ((zqru_le (L - (f + 1)) (f + 1)).2.2 j (by omega) q2)).2
/-- the class's tape -/
def zTC (L : Nat) (b : Nat → Nat) (μ : zMem) : Prop := (L ≤ 120 ∧ ∀ i, i < L → b i < 256) ∧ μ 53 1 = nI L ∧ ∀ i, i < L → μ 54 i = nI (b i)
/-- the reference's tape -/
def zTR (L : Nat) (b : Nat → Nat) (μ : zMem) : Prop := (L ≤ 120 ∧ ∀ i, i < L → b i < 256) ∧ μ 66 8 = nI L ∧ ∀ i, i < L → μ 73 i = nI (b i)
theorem zTC.put {L : Nat} {b : Nat → Nat} {μ : zMem} (h : zTC L b μ) {j : Nat} (hj : j ≠ 1) (v : Int32) : zTC L b (zst μ 53 j v) :=
  ⟨h.1, by rw [zst_ne (fun q => hj q.symm)]; exact h.2.1, fun i hi => by rw [zst_row_ne (by decide)]; exact h.2.2 i hi⟩
theorem zTR.put {L : Nat} {b : Nat → Nat} {μ : zMem} (h : zTR L b μ) {j : Nat} (hj : j ≠ 8) (v : Int32) : zTR L b (zst μ 66 j v) :=
  ⟨h.1, by rw [zst_ne (fun q => hj q.symm)]; exact h.2.1, fun i hi => by rw [zst_row_ne (by decide)]; exact h.2.2 i hi⟩
theorem c3_sortAt {L : Nat} {b : Nat → Nat} {μ : zMem} (h : zTC L b μ) {i : Nat} (hi : i ≤ L) : fX3_sortAt 53 (nI i) μ = some (nI (zqso b L i), μ) := by
  have hL := h.1.1
  unfold fX3_sortAt zqso
  by_cases w : i < L
  · have hb := h.1.2 i w
    have h45 : fX3_sortAt_45 (nI (b i)) μ = some (nI (if b i = 59 then 3 else 4), μ) := by
      unfold fX3_sortAt_45
      rw [show (59 : Int32) = nI 59 from rfl]
      by_cases w3 : b i = 59
      · rw [zeq_t w3, if_pos w3]; rfl
      · rw [zeq_f w3 (by omega) (by omega), if_neg w3]; rfl
    have h31 : fX3_sortAt_31 (nI (b i)) μ = some (nI (if 48 ≤ b i ∧ b i ≤ 57 then 2 else if b i = 59 then 3 else 4), μ) := by
      unfold fX3_sortAt_31
      rw [show (48 : Int32) = nI 48 from rfl, show (57 : Int32) = nI 57 from rfl]
      by_cases w1 : b i < 48
      · rw [zlt_t w1 (by omega), if_neg (show ¬ (48 ≤ b i ∧ b i ≤ 57) by omega)]; exact h45
      · by_cases w2 : 57 < b i
        · rw [zlt_f (show 48 ≤ b i by omega) (by omega), zlt_t w2 (by omega), if_neg (show ¬ (48 ≤ b i ∧ b i ≤ 57) by omega)]; exact h45
        · rw [zlt_f (show 48 ≤ b i by omega) (by omega), zlt_f (show b i ≤ 57 by omega) (by omega), if_pos (show 48 ≤ b i ∧ b i ≤ 57 by omega)]; rfl
    rw [h.2.1, zlt_t w (by omega), if_pos w, zgd_ib (show i < 120 by omega) (by decide), zcl (by omega), show μ (53 + 1) i = nI (b i) from h.2.2 i w, show (97 : Int32) = nI 97 from rfl, show (122 : Int32) = nI 122 from rfl]
    by_cases w1 : b i < 97
    · rw [zlt_t w1 (by omega), if_neg (show ¬ (97 ≤ b i ∧ b i ≤ 122) by omega)]; exact h31
    · by_cases w2 : 122 < b i
      · rw [zlt_f (show 97 ≤ b i by omega) (by omega), zlt_t w2 (by omega), if_neg (show ¬ (97 ≤ b i ∧ b i ≤ 122) by omega)]; exact h31
      · rw [zlt_f (show 97 ≤ b i by omega) (by omega), zlt_f (show b i ≤ 122 by omega) (by omega), if_pos (show 97 ≤ b i ∧ b i ≤ 122 by omega)]; rfl
  · rw [h.2.1, zlt_f (by omega) (by omega), if_neg w]; rfl
theorem c3_n8 {L : Nat} {b : Nat → Nat} : ∀ m p q, p + m = L → m < q → ∀ μ : zMem, zTC L b μ → μ 53 3 = nI p → fX3_nextToken_8 q 53 μ = fX3_nextToken_46 53 (zst μ 53 3 (nI (zqsp b m p))) := by
  intro m
  induction m with
  | zero =>
    intro p q hp hq μ h h3
    obtain ⟨q, rfl⟩ : ∃ z, q = z + 1 := ⟨q - 1, by omega⟩
    have hL := h.1.1
    rw [fX3_nextToken_8, h.2.1, h3, zle_t (by omega) (by omega), zqsp, zst_id h3]
  | succ m ih =>
    intro p q hp hq μ h h3
    obtain ⟨q, rfl⟩ : ∃ z, q = z + 1 := ⟨q - 1, by omega⟩
    have hL := h.1.1
    have hb := h.1.2 p (by omega)
    rw [fX3_nextToken_8, h.2.1, h3, zle_f (by omega) (by omega), zgd_ib (show p < 120 by omega) (by decide), zcl (by omega), show μ (53 + 1) p = nI (b p) from h.2.2 p (by omega), show (32 : Int32) = nI 32 from rfl, zqsp, n1]
    by_cases w : b p = 32
    · rw [zeq_t w, if_pos w, ih (p + 1) q (by omega) (by omega) _ (h.put (by decide) _) (zst_eq _ _ _ _), zst_zst]
    · rw [zeq_f w (by omega) (by omega), if_neg w, zst_id h3]
theorem c3_n84 {L : Nat} {b : Nat → Nat} {k : Nat} (hk : k = 1 ∨ k = 2) : ∀ m e q, e + m = L → m < q → ∀ μ : zMem, zTC L b μ → μ 53 2 = nI k → μ 53 4 = nI e → fX3_nextToken_84 q 53 μ = fX3_nextToken_139 53 (zst μ 53 4 (nI (zqru b L k m e))) := by
  intro m
  induction m with
  | zero =>
    intro e q he hq μ h h2 h4
    obtain ⟨q, rfl⟩ : ∃ z, q = z + 1 := ⟨q - 1, by omega⟩
    have hL := h.1.1
    have g : fX3_nextToken_100 (fX3_nextToken_84 q) 53 μ = fX3_nextToken_139 53 μ := by
      unfold fX3_nextToken_100
      rw [h.2.1, h4, zle_t (by omega) (by omega)]
    rw [fX3_nextToken_84, h2, g, zqru, zst_id h4]
    rcases hk with rfl | rfl
    · exact if_pos rfl
    · rw [if_neg (show ¬ nI 2 = 1 by decide)]; exact if_pos rfl
  | succ m ih =>
    intro e q he hq μ h h2 h4
    obtain ⟨q, rfl⟩ : ∃ z, q = z + 1 := ⟨q - 1, by omega⟩
    have hL := h.1.1
    have hs := zqso_le (b := b) (L := L) (i := e)
    have g : fX3_nextToken_100 (fX3_nextToken_84 q) 53 μ = fX3_nextToken_139 53 (zst μ 53 4 (nI (zqru b L k (m + 1) e))) := by
      unfold fX3_nextToken_100
      rw [h.2.1, h4, zle_f (by omega) (by omega), c3_sortAt h (by omega), zbd_s, h2, h4, n1, zqru]
      by_cases w : zqso b L e = k
      · rw [zeq_t w, if_pos w, ih (e + 1) q (by omega) (by omega) _ (h.put (by decide) _) (by rw [zst_ne (by decide)]; exact h2) (zst_eq _ _ _ _), zst_zst]
      · rw [zeq_f w (by omega) (by omega), if_neg w, zst_id h4]
    rw [fX3_nextToken_84, h2, g]
    rcases hk with rfl | rfl
    · exact if_pos rfl
    · rw [if_neg (show ¬ nI 2 = 1 by decide)]; exact if_pos rfl
theorem zqva_le {b : Nat → Nat} {e : Nat} (hd : ∀ j, j < e → b j ≤ 57) : ∀ m i a, i + m = e → a ≤ 9999 → zqva b m i a ≤ 9999 := by
  intro m
  induction m with
  | zero => intro i a _ h; exact h
  | succ m ih =>
    intro i a hi h
    rw [zqva]
    have := hd i (by omega)
    by_cases w : 999 < a
    · rw [if_pos w]; exact ih (i + 1) a (by omega) h
    · rw [if_neg w]; exact ih (i + 1) _ (by omega) (by omega)
theorem zqst {a c : Nat} (hc : 48 ≤ c) : nI a * (10 : Int32) + nI c - (48 : Int32) = nI (a * 10 + c - 48) := by
  rw [show (10 : Int32) = nI 10 from rfl, show (48 : Int32) = nI 48 from rfl, pk_mul, nI_add, pk_sub (by omega)]
theorem zqst' {a c : Nat} (hc : 48 ≤ c) : (10 : Int32) * nI a + nI c - (48 : Int32) = nI (a * 10 + c - 48) := by
  rw [show (10 : Int32) = nI 10 from rfl, show (48 : Int32) = nI 48 from rfl, pk_mul, nI_add, pk_sub (by omega), Nat.mul_comm 10 a]
theorem c3_num {L : Nat} {b : Nat → Nat} {e : Nat} (he : e ≤ L) : ∀ m i q a, i + m = e → m < q → a ≤ 9999 → ∀ μ : zMem, zTC L b μ → μ 53 4 = nI e → (∀ j, i ≤ j → j < e → 48 ≤ b j ∧ b j ≤ 57) → fX3_numberAtHand_7 q 53 (nI a) (nI i) μ = some (nI (zqva b m i a), μ) := by
  intro m
  induction m with
  | zero =>
    intro i q a hi hq ha μ h h4 hd
    obtain ⟨q, rfl⟩ : ∃ z, q = z + 1 := ⟨q - 1, by omega⟩
    have hL := h.1.1
    rw [fX3_numberAtHand_7, h4, zle_t (by omega) (by omega), zqva]
  | succ m ih =>
    intro i q a hi hq ha μ h h4 hd
    obtain ⟨q, rfl⟩ : ∃ z, q = z + 1 := ⟨q - 1, by omega⟩
    have hL := h.1.1
    have hdi := hd i (by omega) (by omega)
    rw [fX3_numberAtHand_7, h4, zle_f (by omega) (by omega), show (999 : Int32) = nI 999 from rfl, zqva, n1]
    by_cases w : 999 < a
    · rw [zlt_t w (by omega), if_pos w]
      exact ih (i + 1) q a (by omega) (by omega) ha μ h h4 (fun j q1 q2 => hd j (by omega) q2)
    · rw [zlt_f (by omega) (by omega), if_neg w, zgd_ib (show i < 120 by omega) (by decide), zcl (by omega), show μ (53 + 1) i = nI (b i) from h.2.2 i (by omega), zqst hdi.1]
      exact ih (i + 1) q _ (by omega) (by omega) (by omega) μ h h4 (fun j q1 q2 => hd j (by omega) q2)
/-- the class at its next token -/
def zNC (L : Nat) (b : Nat → Nat) (f : Nat) (μ : zMem) : Prop := zTC L b μ ∧ f ≤ L ∧ μ 53 3 = nI f ∧ μ 53 2 = nI (zqso b L f) ∧ μ 53 4 = nI (zqen b L f) ∧ (zqso b L f = 2 → μ 53 5 = nI (zqva b (zqen b L f - f) f 0))
theorem c3_next {L : Nat} {b : Nat → Nat} {p : Nat} {μ : zMem} (h : zTC L b μ) (hp : μ 53 4 = nI p) (hpL : p ≤ L) : ∃ μ', fX3_nextToken 53 μ = some ((), μ') ∧ (∀ k, k ≠ 53 → μ' k = μ k) ∧ zNC L b (zqsp b (L - p) p) μ' := by
  have hL := h.1.1
  obtain ⟨f1, f2⟩ := zqsp_le (b := b) (L - p) p
  generalize hf : zqsp b (L - p) p = f at f1 f2
  have hfL : f ≤ L := by omega
  obtain ⟨e1, e2, e3⟩ := zqen_le (b := b) hfL
  have hs := zqso_le (b := b) (L := L) (i := f)
  unfold fX3_nextToken
  rw [hp, c3_n8 (L - p) p 200 (by omega) (by omega) _ (h.put (by decide) _) (zst_eq _ _ _ _), zst_zst, hf]
  have h3 : zTC L b (zst μ 53 3 (nI f)) := h.put (by decide) _
  unfold fX3_nextToken_46
  rw [zst_eq, zst_ne (show 3 ≠ 4 by decide), zst_eq, c3_sortAt (h3.put (by decide) _) hfL, zbd_s, zst_eq, zst_ne (show 4 ≠ 2 by decide), zst_eq, n1]
  have g2 : zTC L b (zst (zst (zst μ 53 3 (nI f)) 53 4 (nI f)) 53 2 (nI (zqso b L f))) := (h3.put (by decide) _).put (by decide) _
  by_cases w0 : zqso b L f = 0
  · refine ⟨_, if_pos (by rw [w0]; rfl), fun k hk => by rw [zst_row_ne hk, zst_row_ne hk, zst_row_ne hk], g2, hfL, ?_, zst_eq _ _ _ _, ?_, fun z => by omega⟩
    · rw [zst_ne (by decide), zst_ne (by decide), zst_eq]
    · rw [zst_ne (by decide), zst_eq, zqen, if_pos w0]
  · rw [if_neg (show ¬ nI (zqso b L f) = 0 from fun z => w0 ((nI_eq (b := 0) (by omega) (by omega)).1 z))]
    have hlt : f < L := Decidable.byContradiction fun z => w0 (zqso_0.2 z)
    have fin : ∀ ν : zMem, zTC L b ν → (∀ k, k ≠ 53 → ν k = μ k) → ν 53 3 = nI f → ν 53 2 = nI (zqso b L f) → ν 53 4 = nI (zqen b L f) → ∃ μ', fX3_nextToken_139 53 ν = some ((), μ') ∧ (∀ k, k ≠ 53 → μ' k = μ k) ∧ zNC L b f μ' := by
      intro ν n1' n2 n3 n4' n5
      unfold fX3_nextToken_139
      rw [n4']
      by_cases w2 : zqso b L f = 2
      · rw [if_pos (by rw [w2]; rfl)]
        unfold fX3_numberAtHand
        rw [n3, show (0 : Int32) = nI 0 from rfl, c3_num e2 (zqen b L f - f) f 200 0 (by omega) (by omega) (by omega) ν n1' n5 (zqen_dig w2), zbd_s]
        refine ⟨_, rfl, fun k hk => by rw [zst_row_ne hk, n2 k hk], n1'.put (by decide) _, hfL, ?_, ?_, ?_, fun _ => zst_eq _ _ _ _⟩
        · rw [zst_ne (by decide)]; exact n3
        · rw [zst_ne (by decide)]; exact n4'
        · rw [zst_ne (by decide)]; exact n5
      · rw [if_neg (show ¬ nI (zqso b L f) = 2 from fun z => w2 ((nI_eq (b := 2) (by omega) (by omega)).1 z))]
        refine ⟨_, rfl, fun k hk => by rw [zst_row_ne hk, n2 k hk], n1'.put (by decide) _, hfL, ?_, ?_, ?_, fun z => absurd z w2⟩
        · rw [zst_ne (by decide)]; exact n3
        · rw [zst_ne (by decide)]; exact n4'
        · rw [zst_ne (by decide)]; exact n5
    generalize hν : zst (zst (zst (zst μ 53 3 (nI f)) 53 4 (nI f)) 53 2 (nI (zqso b L f))) 53 4 (nI (f + 1)) = ν
    have v1 : zTC L b ν := by rw [← hν]; exact g2.put (by decide) _
    have v2 : ∀ k, k ≠ 53 → ν k = μ k := fun k hk => by rw [← hν, zst_row_ne hk, zst_row_ne hk, zst_row_ne hk, zst_row_ne hk]
    have v3 : ν 53 3 = nI f := by rw [← hν, zst_ne (by decide), zst_ne (by decide), zst_ne (by decide), zst_eq]
    have v4 : ν 53 2 = nI (zqso b L f) := by rw [← hν, zst_ne (by decide), zst_eq]
    have v5 : ν 53 4 = nI (f + 1) := by rw [← hν, zst_eq]
    by_cases w1 : zqso b L f = 1 ∨ zqso b L f = 2
    · rw [c3_n84 w1 (L - (f + 1)) (f + 1) 200 (by omega) (by omega) ν v1 v4 v5]
      refine fin _ (v1.put (by decide) _) (fun k hk => by rw [zst_row_ne hk, v2 k hk]) (by rw [zst_ne (by decide)]; exact v3) (by rw [zst_ne (by decide)]; exact v4) ?_
      rw [zst_eq, zqen, if_neg w0, if_pos w1]
    · rw [fX3_nextToken_84, v4, if_neg (show ¬ nI (zqso b L f) = 1 from fun z => w1 (Or.inl ((nI_eq (b := 1) (by omega) (by omega)).1 z))), if_neg (show ¬ nI (zqso b L f) = 2 from fun z => w1 (Or.inr ((nI_eq (b := 2) (by omega) (by omega)).1 z)))]
      exact fin ν v1 v2 v3 v4 (by rw [v5, zqen, if_neg w0, if_neg w1])
/-! the reference's tokens -/
theorem c6_isByte {L : Nat} {b : Nat → Nat} {μ : zMem} (h : zTR L b μ) {i : Nat} (hi : i ≤ L) (lo hi' : Nat) (hlo : lo < 256) (hhi : hi' < 256) : fX6_isByte 66 (nI i) (nI lo) (nI hi') μ = some (zb (i < L ∧ lo ≤ b i ∧ b i ≤ hi'), μ) := by
  have hL := h.1.1
  unfold fX6_isByte
  rw [h.2.1]
  by_cases w : i < L
  · have hb := h.1.2 i w
    rw [zle_f w (by omega), zgd_ib (show i < 120 by omega) (by decide), zcl (by omega), show μ (66 + 7) i = nI (b i) from h.2.2 i w, w6, zbd_s]
    by_cases w2 : lo ≤ b i ∧ b i ≤ hi'
    · rw [zif_t ⟨nI_le w2.1 (by omega), nI_le w2.2 (by omega)⟩, zb_t (c := i < L ∧ lo ≤ b i ∧ b i ≤ hi') ⟨w, w2⟩]
    · rw [zif_f (c := nI lo ≤ nI (b i) ∧ nI (b i) ≤ nI hi'), zb_f (c := i < L ∧ lo ≤ b i ∧ b i ≤ hi') (fun z => w2 z.2)]
      intro z
      refine w2 ⟨?_, ?_⟩
      · rcases Nat.lt_or_ge (b i) lo with q | q
        · exact absurd z.1 (nI_ge q (by omega))
        · exact q
      · rcases Nat.lt_or_ge hi' (b i) with q | q
        · exact absurd z.2 (nI_ge q (by omega))
        · exact q
  · rw [zle_t (by omega) (by omega), zb_f (c := i < L ∧ lo ≤ b i ∧ b i ≤ hi') (fun z => w z.1)]
theorem c6_n8 {L : Nat} {b : Nat → Nat} : ∀ m p q, p + m = L → m < q → ∀ μ : zMem, zTR L b μ → μ 66 9 = nI p → ∃ μ', fX6_next_8 q 66 μ = fX6_next_70 200 66 (zb (zqsp b m p < L ∧ 97 ≤ b (zqsp b m p) ∧ b (zqsp b m p) ≤ 122)) (zb (zqsp b m p < L ∧ 48 ≤ b (zqsp b m p) ∧ b (zqsp b m p) ≤ 57)) μ' ∧ μ' = zst (zst μ 66 9 (nI (zqsp b m p))) 66 10 (nI (zqsp b m p)) := by
  intro m
  induction m with
  | zero =>
    intro p q hp hq μ h h3
    obtain ⟨q, rfl⟩ : ∃ z, q = z + 1 := ⟨q - 1, by omega⟩
    have hL := h.1.1
    refine ⟨_, ?_, rfl⟩
    have h' : zTR L b (zst μ 66 10 (nI p)) := h.put (by decide) _
    have h9 : zst μ 66 10 (nI p) 66 9 = nI p := by rw [zst_ne (by decide)]; exact h3
    rw [fX6_next_8, h3, show (32 : Int32) = nI 32 from rfl, c6_isByte h (by omega) 32 32 (by omega) (by omega), zbd_s, zif_f (fun z => absurd z.1 (by omega)), h3, h9, show (97 : Int32) = nI 97 from rfl, show (122 : Int32) = nI 122 from rfl, show (48 : Int32) = nI 48 from rfl, show (57 : Int32) = nI 57 from rfl, c6_isByte h' (by omega) 97 122 (by omega) (by omega), zbd_s, h9, c6_isByte h' (by omega) 48 57 (by omega) (by omega), zbd_s, zqsp, zst_id h3]
  | succ m ih =>
    intro p q hp hq μ h h3
    obtain ⟨q, rfl⟩ : ∃ z, q = z + 1 := ⟨q - 1, by omega⟩
    have hL := h.1.1
    rw [fX6_next_8, h3, show (32 : Int32) = nI 32 from rfl, c6_isByte h (by omega) 32 32 (by omega) (by omega), zbd_s, h3, zqsp]
    by_cases w : b p = 32
    · rw [zif_t ⟨by omega, by omega, by omega⟩, if_pos w, n1]
      obtain ⟨μ', k1, k2⟩ := ih (p + 1) q (by omega) (by omega) _ (h.put (by decide) (nI (p + 1))) (zst_eq _ _ _ _)
      exact ⟨μ', k1, by rw [k2, zst_zst]⟩
    · refine ⟨_, ?_, rfl⟩
      have h' : zTR L b (zst μ 66 10 (nI p)) := h.put (by decide) _
      have h9 : zst μ 66 10 (nI p) 66 9 = nI p := by rw [zst_ne (by decide)]; exact h3
      rw [zif_f (fun z => w (by omega)), if_neg w, h9, show (97 : Int32) = nI 97 from rfl, show (122 : Int32) = nI 122 from rfl, show (48 : Int32) = nI 48 from rfl, show (57 : Int32) = nI 57 from rfl, c6_isByte h' (by omega) 97 122 (by omega) (by omega), zbd_s, h9, c6_isByte h' (by omega) 48 57 (by omega) (by omega), zbd_s, zst_id h3]
theorem c6_121 {a1 a2 : Int32} (ha : a1 ≠ 0 ∨ a2 ≠ 0) (μ : zMem) : fX6_next_121 66 a1 a2 μ = some ((), μ) := by
  have e : zst μ 66 10 (μ 66 10 + 0) = μ := zst_id (by rw [Int32.add_zero])
  unfold fX6_next_121
  rw [e]
  by_cases w : a1 = 0
  · rw [if_pos w, if_neg (show ¬ a2 = 0 from ha.resolve_left (fun z => z w))]
  · rw [if_neg w]
/-- letters on end -/
theorem c6_l70 {L : Nat} {b : Nat → Nat} : ∀ m e q, e + m = L → m < q → ∀ μ : zMem, zTR L b μ → μ 66 10 = nI e → fX6_next_70 q 66 1 0 μ = some ((), zst μ 66 10 (nI (zqru b L 1 m e))) := by
  intro m
  induction m with
  | zero =>
    intro e q he hq μ h h10
    obtain ⟨q, rfl⟩ : ∃ z, q = z + 1 := ⟨q - 1, by omega⟩
    have hL := h.1.1
    rw [fX6_next_70, if_neg (by decide), h10, show (97 : Int32) = nI 97 from rfl, show (122 : Int32) = nI 122 from rfl, c6_isByte h (by omega) 97 122 (by omega) (by omega), zbd_s, zif_f (fun z => absurd z.1 (by omega))]
    unfold fX6_next_89
    rw [if_pos rfl, c6_121 (Or.inl (by decide)), zqru, zst_id h10]
  | succ m ih =>
    intro e q he hq μ h h10
    obtain ⟨q, rfl⟩ : ∃ z, q = z + 1 := ⟨q - 1, by omega⟩
    have hL := h.1.1
    rw [fX6_next_70, if_neg (by decide), h10, show (97 : Int32) = nI 97 from rfl, show (122 : Int32) = nI 122 from rfl, c6_isByte h (by omega) 97 122 (by omega) (by omega), zbd_s, zqru]
    by_cases w : zqso b L e = 1
    · rw [zif_t (zqso_1.1 w), if_pos w]
      unfold fX6_next_108
      rw [h10, n1, ih (e + 1) q (by omega) (by omega) _ (h.put (by decide) _) (zst_eq _ _ _ _), zst_zst]
    · rw [zif_f (fun z => w (zqso_1.2 z)), if_neg w]
      unfold fX6_next_89
      rw [if_pos rfl, c6_121 (Or.inl (by decide)), zst_id h10]
/-- digits on end -/
theorem c6_d70 {L : Nat} {b : Nat → Nat} : ∀ m e q, e + m = L → m < q → ∀ μ : zMem, zTR L b μ → μ 66 10 = nI e → fX6_next_70 q 66 0 1 μ = some ((), zst μ 66 10 (nI (zqru b L 2 m e))) := by
  intro m
  induction m with
  | zero =>
    intro e q he hq μ h h10
    obtain ⟨q, rfl⟩ : ∃ z, q = z + 1 := ⟨q - 1, by omega⟩
    have hL := h.1.1
    rw [fX6_next_70, if_pos rfl]
    unfold fX6_next_89
    rw [if_neg (by decide), h10, show (48 : Int32) = nI 48 from rfl, show (57 : Int32) = nI 57 from rfl, c6_isByte h (by omega) 48 57 (by omega) (by omega), zbd_s, zif_f (fun z => absurd z.1 (by omega)), c6_121 (Or.inr (by decide)), zqru, zst_id h10]
  | succ m ih =>
    intro e q he hq μ h h10
    obtain ⟨q, rfl⟩ : ∃ z, q = z + 1 := ⟨q - 1, by omega⟩
    have hL := h.1.1
    rw [fX6_next_70, if_pos rfl]
    unfold fX6_next_89
    rw [if_neg (by decide), h10, show (48 : Int32) = nI 48 from rfl, show (57 : Int32) = nI 57 from rfl, c6_isByte h (by omega) 48 57 (by omega) (by omega), zbd_s, zqru]
    by_cases w : zqso b L e = 2
    · rw [zif_t (zqso_2.1 w), if_pos w]
      unfold fX6_next_108
      rw [h10, n1, ih (e + 1) q (by omega) (by omega) _ (h.put (by decide) _) (zst_eq _ _ _ _), zst_zst]
    · rw [zif_f (fun z => w (zqso_2.2 z)), if_neg w, c6_121 (Or.inr (by decide)), zst_id h10]
/-- the reference at its next token -/
def zNR (L : Nat) (b : Nat → Nat) (f : Nat) (μ : zMem) : Prop := zTR L b μ ∧ f ≤ L ∧ μ 66 9 = nI f ∧ μ 66 10 = nI (zqen b L f) ∧ μ 66 11 = 0
theorem c6_next {L : Nat} {b : Nat → Nat} {p : Nat} {μ : zMem} (h : zTR L b μ) (hp : μ 66 10 = nI p) (hpL : p ≤ L) (hw : μ 66 11 = 0) : ∃ μ', fX6_next 66 μ = some ((), μ') ∧ (∀ k, k ≠ 66 → μ' k = μ k) ∧ (∀ j, j ≠ 9 → j ≠ 10 → μ' 66 j = μ 66 j) ∧ zNR L b (zqsp b (L - p) p) μ' := by
  have hL := h.1.1
  obtain ⟨f1, f2⟩ := zqsp_le (b := b) (L - p) p
  unfold fX6_next
  rw [hp]
  obtain ⟨ν, k1, k2⟩ := c6_n8 (L - p) p 200 (by omega) (by omega) _ (h.put (by decide) (nI p)) (zst_eq μ 66 9 (nI p))
  rw [zst_zst] at k2
  rw [k1]
  generalize hf : zqsp b (L - p) p = f at f1 f2 k2
  have hfL : f ≤ L := by omega
  have v1 : zTR L b ν := by rw [k2]; exact (h.put (by decide) _).put (by decide) _
  have v9 : ν 66 9 = nI f := by rw [k2, zst_ne (by decide), zst_eq]
  have v10 : ν 66 10 = nI f := by rw [k2, zst_eq]
  have vk : ∀ k, k ≠ 66 → ν k = μ k := fun k hk => by rw [k2, zst_row_ne hk, zst_row_ne hk]
  have vj : ∀ j, j ≠ 9 → j ≠ 10 → ν 66 j = μ 66 j := fun j h1 h2 => by rw [k2, zst_ne h2, zst_ne h1]
  have fin : ∀ e, e = zqen b L f → ∃ μ', some ((), zst ν 66 10 (nI e)) = some ((), μ') ∧ (∀ k, k ≠ 66 → μ' k = μ k) ∧ (∀ j, j ≠ 9 → j ≠ 10 → μ' 66 j = μ 66 j) ∧ zNR L b f μ' := by
    intro e he
    refine ⟨_, rfl, fun k hk => by rw [zst_row_ne hk, vk k hk], fun j h1 h2 => by rw [zst_ne h2, vj j h1 h2], v1.put (by decide) _, hfL, ?_, ?_, ?_⟩
    · rw [zst_ne (by decide)]; exact v9
    · rw [zst_eq, he]
    · rw [zst_ne (by decide), vj 11 (by decide) (by decide)]; exact hw
  by_cases w0 : f < L
  · have w0' : zqso b L f ≠ 0 := fun z => (zqso_0.1 z) w0
    obtain ⟨m, hm⟩ : ∃ m, L - f = m + 1 := ⟨L - (f + 1), by omega⟩
    have hm' : L - (f + 1) = m := by omega
    by_cases w1 : zqso b L f = 1
    · have a := zqso_1.1 w1
      rw [zb_t a, zb_f (show ¬ (f < L ∧ 48 ≤ b f ∧ b f ≤ 57) by omega), c6_l70 (L - f) f 200 (by omega) (by omega) ν v1 v10]
      refine fin _ ?_
      rw [hm, zqru, if_pos w1, zqen, if_neg w0', if_pos (Or.inl w1), hm', w1]
    · by_cases w2 : zqso b L f = 2
      · have a := zqso_2.1 w2
        rw [zb_f (show ¬ (f < L ∧ 97 ≤ b f ∧ b f ≤ 122) by omega), zb_t a, c6_d70 (L - f) f 200 (by omega) (by omega) ν v1 v10]
        refine fin _ ?_
        rw [hm, zqru, if_pos w2, zqen, if_neg w0', if_pos (Or.inr w2), hm', w2]
      · rw [zb_f (show ¬ (f < L ∧ 97 ≤ b f ∧ b f ≤ 122) from fun z => w1 (zqso_1.2 z)), zb_f (show ¬ (f < L ∧ 48 ≤ b f ∧ b f ≤ 57) from fun z => w2 (zqso_2.2 z)), fX6_next_70, if_pos rfl]
        unfold fX6_next_89 fX6_next_121
        rw [if_pos rfl, if_pos rfl, if_pos rfl, v1.2.1, v9, zle_f w0 (by omega), v10, n1]
        refine fin _ ?_
        rw [zqen, if_neg w0', if_neg (fun z => z.elim w1 w2)]
  · have w0' : zqso b L f = 0 := zqso_0.2 w0
    rw [zb_f (show ¬ (f < L ∧ 97 ≤ b f ∧ b f ≤ 122) from fun z => w0 z.1), zb_f (show ¬ (f < L ∧ 48 ≤ b f ∧ b f ≤ 57) from fun z => w0 z.1), fX6_next_70, if_pos rfl]
    unfold fX6_next_89 fX6_next_121
    rw [if_pos rfl, if_pos rfl, if_pos rfl, v1.2.1, v9, zle_t (by omega) (by omega), v10, Int32.add_zero]
    refine fin _ ?_
    rw [zqen, if_pos w0']
