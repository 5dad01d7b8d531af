/-! texts: words and numbers, on both sides -/
def zqeq (b : Nat → Nat) (f w : Nat) : Nat → Nat → Bool
  | 0, _ => true
  | m + 1, i => decide (nI (b (f + i)) = zsc w (nI i)) && zqeq b f w m (i + 1)
/-- is the token at f the word w -/
def zqis (b : Nat → Nat) (L f w : Nat) : Bool := decide (zqen b L f - f = (zsb w).length) && zqeq b f w (zsb w).length 0
theorem zsb_len : ∀ w, w < 27 → (zsb w).length < 8 ∧ 0 < (zsb w).length := by decide +kernel
theorem c3_w28 {L : Nat} {b : Nat → Nat} {f w : Nat} (hw : w < 27) {μ : zMem} (h : zTC L b μ) (h3 : μ 53 3 = nI f) (hf : f + (zsb w).length ≤ L) : ∀ m i q, i + m = (zsb w).length → m < q → fX3_isWord_28 q 53 w (nI i) μ = some (zb (zqeq b f w m i = true), μ) := by
  have hl := zsb_len w hw
  have hL := h.1.1
  intro m
  induction m with
  | zero =>
    intro i q hi hq
    obtain ⟨q, rfl⟩ : ∃ z, q = z + 1 := ⟨q - 1, by omega⟩
    rw [fX3_isWord_28, zgd_t hw, show zsn w = nI (zsb w).length from rfl, zle_t (by omega) (by omega), zqeq, zb_t rfl]
  | succ m ih =>
    intro i q hi hq
    obtain ⟨q, rfl⟩ : ∃ z, q = z + 1 := ⟨q - 1, by omega⟩
    rw [fX3_isWord_28, zgd_t hw, show zsn w = nI (zsb w).length from rfl, zle_f (by omega) (by omega), h3, nI_add, zgd_ib (show f + i < 120 by omega) (by decide), zgd_t ⟨hw, vp_in_nI (by omega) (by omega)⟩, zcl (by omega), show μ (53 + 1) (f + i) = nI (b (f + i)) from h.2.2 (f + i) (by omega), zqeq, n1]
    by_cases e : nI (b (f + i)) = zsc w (nI i)
    · rw [if_pos e, ih (i + 1) q (by omega) (by omega), decide_eq_true e, Bool.true_and]
    · rw [if_neg e, decide_eq_false e, Bool.false_and, zb_f (by decide)]
theorem c3_isWord {L : Nat} {b : Nat → Nat} {f w : Nat} (hw : w < 27) {μ : zMem} (h : zNC L b f μ) : fX3_isWord 53 w μ = some (zb (zqso b L f = 1 ∧ zqis b L f w = true), μ) := by
  obtain ⟨h1, hf, h3, h2, h4, -⟩ := h
  obtain ⟨e1, e2, e3⟩ := zqen_le (b := b) hf
  have hs := zqso_le (b := b) (L := L) (i := f)
  have hL := h1.1.1
  have hl := zsb_len w hw
  unfold fX3_isWord
  rw [h2]
  by_cases w1 : zqso b L f = 1
  · rw [if_pos (by rw [w1]; rfl), zgd_t hw, h4, h3, pk_sub e1, show zsn w = nI (zsb w).length from rfl]
    unfold zqis
    by_cases w2 : zqen b L f - f = (zsb w).length
    · rw [zeq_t w2, show (0 : Int32) = nI 0 from rfl, c3_w28 hw h1 h3 (by omega) (zsb w).length 0 200 (by omega) (by omega), decide_eq_true w2, Bool.true_and]
      by_cases w3 : zqeq b f w (zsb w).length 0 = true
      · rw [zb_t w3, zb_t (c := zqso b L f = 1 ∧ zqeq b f w (zsb w).length 0 = true) ⟨w1, w3⟩]
      · rw [zb_f w3, zb_f (c := zqso b L f = 1 ∧ zqeq b f w (zsb w).length 0 = true) (fun z => w3 z.2)]
    · rw [zeq_f w2 (by omega) (by omega), decide_eq_false w2, Bool.false_and, zb_f (c := zqso b L f = 1 ∧ false = true) (fun z => absurd z.2 (by decide))]
  · rw [if_neg (show ¬ nI (zqso b L f) = 1 from fun z => w1 ((nI_eq (b := 1) (by omega) (by omega)).1 z)), zb_f (c := zqso b L f = 1 ∧ zqis b L f w = true) (fun z => w1 z.1)]
theorem c6_w31n {w : Nat} (a3 : Int32) (μ : zMem) (q : Nat) : fX6_isWord_31 (q + 1) 66 w 0 a3 μ = some (0, μ) := by
  rw [fX6_isWord_31, if_pos rfl, zgd_t (Or.inl rfl)]
theorem c6_w31 {L : Nat} {b : Nat → Nat} {f w : Nat} (hw : w < 27) {μ : zMem} (h : zTR L b μ) (h3 : μ 66 9 = nI f) (hf : f + (zsb w).length ≤ L) : ∀ m i q, i + m = (zsb w).length → m + 1 < q → fX6_isWord_31 q 66 w 1 (nI i) μ = some (zb (zqeq b f w m i = true), μ) := by
  have hl := zsb_len w hw
  have hL := h.1.1
  intro m
  induction m with
  | zero =>
    intro i q hi hq
    obtain ⟨q, rfl⟩ : ∃ z, q = z + 1 := ⟨q - 1, by omega⟩
    rw [fX6_isWord_31, if_neg (by decide), zgd_t hw, show zsn w = nI (zsb w).length from rfl, zle_t (by omega) (by omega), zgd_t (Or.inr rfl), zqeq, zb_t rfl]
  | succ m ih =>
    intro i q hi hq
    obtain ⟨q, rfl⟩ : ∃ z, q = z + 2 := ⟨q - 2, by omega⟩
    rw [fX6_isWord_31, if_neg (by decide), zgd_t hw, show zsn w = nI (zsb w).length from rfl, zle_f (by omega) (by omega), h3, nI_add, zgd_ib (show f + i < 120 by omega) (by decide), zgd_t ⟨hw, vp_in_nI (by omega) (by omega)⟩, zcl (by omega), show μ (66 + 7) (f + i) = nI (b (f + i)) from h.2.2 (f + i) (by omega), zqeq, n1]
    by_cases e : nI (b (f + i)) = zsc w (nI i)
    · rw [if_pos e, ih (i + 1) (q + 1) (by omega) (by omega), decide_eq_true e, Bool.true_and]
    · rw [if_neg e, c6_w31n, decide_eq_false e, Bool.false_and, zb_f (by decide)]
theorem c6_isWord {L : Nat} {b : Nat → Nat} {f w : Nat} (hw : w < 27) {μ : zMem} (h : zNR L b f μ) : fX6_isWord 66 w μ = some (zb (zqis b L f w = true), μ) := by
  obtain ⟨h1, hf, h3, h4, h5⟩ := h
  obtain ⟨e1, e2, e3⟩ := zqen_le (b := b) hf
  have hL := h1.1.1
  have hl := zsb_len w hw
  unfold fX6_isWord
  rw [h5, if_pos rfl, zgd_t hw, h4, h3, pk_sub e1, show zsn w = nI (zsb w).length from rfl]
  unfold zqis
  by_cases w2 : zqen b L f - f = (zsb w).length
  · rw [zeq_t w2, show (0 : Int32) = nI 0 from rfl, c6_w31 hw h1 h3 (by omega) (zsb w).length 0 200 (by omega) (by omega), decide_eq_true w2, Bool.true_and]
  · rw [zeq_f w2 (by omega) (by omega), c6_w31n, decide_eq_false w2, Bool.false_and, zb_f (by decide)]
/-- words begin with a letter -/
theorem zsc_let : ∀ w, w < 26 → ∀ c, c < 256 → nI c = zsc w (nI 0) → 97 ≤ c ∧ c ≤ 122 := by decide +kernel
theorem zqis_let {L : Nat} {b : Nat → Nat} {f w : Nat} (hb : ∀ i, i < L → b i < 256) (hf : f ≤ L) (hw : w < 26) (h : zqis b L f w = true) : zqso b L f = 1 := by
  obtain ⟨e1, e2, e3⟩ := zqen_le (b := b) hf
  have hl := zsb_len w (by omega)
  unfold zqis at h
  rw [Bool.and_eq_true, decide_eq_true_iff] at h
  obtain ⟨h1, h2⟩ := h
  obtain ⟨m, hm⟩ : ∃ m, (zsb w).length = m + 1 := ⟨(zsb w).length - 1, by omega⟩
  rw [hm, zqeq, Bool.and_eq_true, decide_eq_true_iff] at h2
  exact zqso_1.2 ⟨by omega, zsc_let w hw (b f) (hb f (by omega)) h2.1⟩
theorem zsc_semi : ∀ c, c < 256 → (nI c = zsc 26 (nI 0) ↔ c = 59) := by decide +kernel
theorem zqis_semi {L : Nat} {b : Nat → Nat} {f : Nat} (hb : ∀ i, i < L → b i < 256) (hf : f ≤ L) : zqis b L f 26 = true ↔ zqso b L f = 3 := by
  obtain ⟨e1, e2, e3⟩ := zqen_le (b := b) hf
  unfold zqis
  rw [show (zsb 26).length = 1 from rfl, zqeq, zqeq, Bool.and_true, Bool.and_eq_true, decide_eq_true_iff, decide_eq_true_iff]
  constructor
  · rintro ⟨h1, h2⟩
    exact zqso_3.2 ⟨by omega, (zsc_semi (b f) (hb f (by omega))).1 h2⟩
  · intro h
    have a := zqso_3.1 h
    refine ⟨?_, (zsc_semi (b f) (hb f (by omega))).2 a.2⟩
    unfold zqen
    rw [h, if_neg (by decide), if_neg (by decide)]; omega
theorem zqeq_w {b : Nat → Nat} {f w w' : Nat} (h : zsb w = zsb w') : ∀ m i, zqeq b f w m i = zqeq b f w' m i := by
  intro m
  induction m with
  | zero => intro i; rfl
  | succ m ih =>
    intro i
    rw [zqeq, zqeq, ih, show zsc w (nI i) = zsc w' (nI i) by unfold zsc; rw [h]]
theorem zqis_w {b : Nat → Nat} {L f w w' : Nat} (h : zsb w = zsb w') : zqis b L f w = zqis b L f w' := by
  unfold zqis; rw [h, zqeq_w h]
/-- a word, on both sides -/
theorem zword {L : Nat} {b : Nat → Nat} {f w w' : Nat} {ν1 ν2 : zMem} (h1 : zNC L b f ν1) (h2 : zNR L b f ν2) (hw : w < 26) (hw' : w' < 26) (e : zsb w = zsb w') : fX3_isWord 53 w ν1 = some (zb (zqis b L f w' = true), ν1) ∧ fX6_isWord 66 w' ν2 = some (zb (zqis b L f w' = true), ν2) := by
  refine ⟨?_, c6_isWord (by omega) h2⟩
  rw [c3_isWord (by omega) h1, zqis_w e]
  by_cases z : zqis b L f w' = true
  · rw [zb_t z, zb_t (c := zqso b L f = 1 ∧ zqis b L f w' = true) ⟨zqis_let h1.1.1.2 h1.2.1 hw' z, z⟩]
  · rw [zb_f z, zb_f (c := zqso b L f = 1 ∧ zqis b L f w' = true) (fun y => z y.2)]
/-- both go to the next token -/
theorem znext {L : Nat} {b : Nat → Nat} {f : Nat} {ν1 ν2 : zMem} (h1 : zNC L b f ν1) (h2 : zNR L b f ν2) : ∃ f' μ1 μ2, f ≤ f' ∧ (zqso b L f ≠ 0 → f < f') ∧ fX3_nextToken 53 ν1 = some ((), μ1) ∧ fX6_next 66 ν2 = some ((), μ2) ∧ (∀ k, k ≠ 53 → μ1 k = ν1 k) ∧ (∀ k, k ≠ 66 → μ2 k = ν2 k) ∧ (∀ j, j ≠ 9 → j ≠ 10 → μ2 66 j = ν2 66 j) ∧ zNC L b f' μ1 ∧ zNR L b f' μ2 := by
  obtain ⟨e1, e2, e3⟩ := zqen_le (b := b) h1.2.1
  obtain ⟨μ1, a1, a2, a3⟩ := c3_next h1.1 h1.2.2.2.2.1 e2
  obtain ⟨μ2, b1, b2, b3, b4⟩ := c6_next h2.1 h2.2.2.2.1 e2 h2.2.2.2.2
  have := (zqsp_le (b := b) (L - zqen b L f) (zqen b L f)).1
  exact ⟨_, μ1, μ2, by omega, fun z => by have := e3 z; omega, a1, b1, a2, b2, b3, a3, b4⟩
/-- the reference once something was wrong -/
def zWr (μ : zMem) : Prop := μ 66 11 = 1 ∧ ∃ L f e, L ≤ 120 ∧ e ≤ 120 ∧ μ 66 8 = nI L ∧ μ 66 9 = nI f ∧ μ 66 10 = nI e ∧ f ≤ L
theorem zWr.congr {μ μ' : zMem} (h : zWr μ) (e : μ' 66 = μ 66) : zWr μ' := by unfold zWr; rw [e]; exact h
theorem zNR.wr {L : Nat} {b : Nat → Nat} {f : Nat} {μ : zMem} (h : zNR L b f μ) : zWr (zst μ 66 11 1) := by
  obtain ⟨h1, hf, h3, h4, h5⟩ := h
  obtain ⟨e1, e2, e3⟩ := zqen_le (b := b) hf
  have hL := h1.1.1
  exact ⟨zst_eq _ _ _ _, L, f, zqen b L f, hL, by omega, by rw [zst_ne (by decide)]; exact h1.2.1, by rw [zst_ne (by decide)]; exact h3, by rw [zst_ne (by decide)]; exact h4, hf⟩
theorem c6_mustW {μ : zMem} (h : zWr μ) (a : Int32) : fX6_must 66 a μ = some ((), μ) := by
  unfold fX6_must
  rw [h.1, if_neg (by decide)]
  unfold fX6_must_17
  rw [zgd_t (Or.inr rfl), zst_id h.1, h.1, if_neg (by decide)]
theorem c6_isWordW {μ : zMem} (h : zWr μ) (w : Nat) : fX6_isWord 66 w μ = some (0, μ) := by
  unfold fX6_isWord
  rw [h.1, if_neg (by decide)]
  exact c6_w31n _ μ 199
theorem c6_takesW {μ : zMem} (h : zWr μ) (w : Nat) : fX6_takes_ 66 w μ = some (0, μ) := by
  unfold fX6_takes_
  rw [c6_isWordW h, zbd_s, if_pos rfl, zgd_t (Or.inl rfl)]
theorem c6_must0 {L : Nat} {b : Nat → Nat} {f : Nat} {μ : zMem} (h : zNR L b f μ) : fX6_must 66 0 μ = some ((), zst μ 66 11 1) := by
  unfold fX6_must
  rw [h.2.2.2.2, if_pos rfl, if_pos rfl]
  unfold fX6_must_17
  rw [zgd_t (Or.inr rfl), zst_eq, if_neg (by decide)]
theorem c6_must1 {L : Nat} {b : Nat → Nat} {f : Nat} {μ : zMem} (h : zNR L b f μ) : fX6_must 66 1 μ = fX6_next 66 μ := by
  unfold fX6_must
  rw [h.2.2.2.2, if_pos rfl, if_neg (by decide)]
  unfold fX6_must_17
  rw [zgd_t (Or.inl rfl), zst_id h.2.2.2.2, h.2.2.2.2, if_pos rfl]
  cases fX6_next 66 μ with
  | none => rfl
  | some r => rfl
/-- any number, read while something is wrong -/
theorem c6_nW27 {μ : zMem} (h : zWr μ) (lo hi : Int32) : ∀ m i q a, i + m = 121 → m < q → ∃ r, fX6_numberRead_27 q 66 lo hi a (nI i) μ = some (r, μ) := by
  obtain ⟨L, f, e, hL, he, h8, h9, h10, hf⟩ := h.2
  have h73 : ∀ a, ∃ r, fX6_numberRead_73 66 lo hi a μ = some (r, μ) := fun a => by
    unfold fX6_numberRead_73
    rw [w6, zbd_s, c6_mustW h, zbd_s]
    exact ⟨a, rfl⟩
  intro m
  induction m with
  | zero =>
    intro i q a hi' hq
    obtain ⟨q, rfl⟩ : ∃ z, q = z + 1 := ⟨q - 1, by omega⟩
    rw [fX6_numberRead_27, h10, zle_t (by omega) (by omega)]
    exact h73 a
  | succ m ih =>
    intro i q a hi' hq
    obtain ⟨q, rfl⟩ : ∃ z, q = z + 1 := ⟨q - 1, by omega⟩
    rw [fX6_numberRead_27, h10]
    by_cases w : e ≤ i
    · rw [zle_t w (by omega)]; exact h73 a
    · rw [zle_f (by omega) (by omega), zgd_ib (show i < 120 by omega) (by decide), zcl (by omega), n1]
      by_cases w1 : a < 0
      · rw [if_pos w1]; exact h73 a
      · rw [if_neg w1]
        by_cases w2 : a ≤ 999
        · rw [if_pos w2]; exact ih (i + 1) q _ (by omega) (by omega)
        · rw [if_neg w2]; exact ih (i + 1) q _ (by omega) (by omega)
theorem c6_numW {μ : zMem} (h : zWr μ) (lo hi : Int32) : ∃ r, fX6_numberRead 66 lo hi μ = some (r, μ) := by
  obtain ⟨L, f, e, hL, he, h8, h9, h10, hf⟩ := h.2
  have hB : ∃ r, fX6_isByte 66 (nI f) 48 57 μ = some (r, μ) := by
    unfold fX6_isByte
    rw [h8]
    by_cases w : L ≤ f
    · exact ⟨0, by rw [zle_t w (by omega)]⟩
    · rw [zle_f (by omega) (by omega), zgd_ib (show f < 120 by omega) (by decide), show ((48 : Int32)).toInt64 = (48 : Int32).toInt64 from rfl, w6, zbd_s]
      split
      · exact ⟨_, rfl⟩
      · exact ⟨_, rfl⟩
  obtain ⟨r, hr⟩ := hB
  unfold fX6_numberRead
  rw [h9, hr, zbd_s, h9]
  by_cases w : r = 0
  · rw [if_pos w]; exact c6_nW27 h lo hi (121 - f) f 200 _ (by omega) (by omega)
  · rw [if_neg w]; exact c6_nW27 h lo hi (121 - f) f 200 _ (by omega) (by omega)
/-- a number that is there -/
theorem c6_n27 {L : Nat} {b : Nat → Nat} {f e : Nat} {μ : zMem} (h : zTR L b μ) (h10 : μ 66 10 = nI e) (he : e ≤ L) (hd : ∀ j, f ≤ j → j < e → 48 ≤ b j ∧ b j ≤ 57) (lo hi : Int32) : ∀ m i q a, i + m = e → m < q → f ≤ i → a ≤ 9999 → fX6_numberRead_27 q 66 lo hi (nI a) (nI i) μ = fX6_numberRead_73 66 lo hi (nI (zqva b m i a)) μ := by
  have hL := h.1.1
  intro m
  induction m with
  | zero =>
    intro i q a hi' hq hfi ha
    obtain ⟨q, rfl⟩ : ∃ z, q = z + 1 := ⟨q - 1, by omega⟩
    rw [fX6_numberRead_27, h10, zle_t (by omega) (by omega), zqva]
  | succ m ih =>
    intro i q a hi' hq hfi ha
    obtain ⟨q, rfl⟩ : ∃ z, q = z + 1 := ⟨q - 1, by omega⟩
    have hdi := hd i hfi (by omega)
    rw [fX6_numberRead_27, h10, zle_f (by omega) (by omega), if_neg (Int32.not_lt.mpr (nI_pos' (by omega))), show (999 : Int32) = nI 999 from rfl, zqva, n1]
    by_cases w : 999 < a
    · rw [zle_f (by omega) (by omega), if_pos w]
      exact ih (i + 1) q a (by omega) (by omega) (by omega) ha
    · rw [zle_t (by omega) (by omega), if_neg w, zgd_ib (show i < 120 by omega) (by decide), zcl (by omega), show μ (66 + 7) i = nI (b i) from h.2.2 i (by omega), zqst' hdi.1]
      exact ih (i + 1) q _ (by omega) (by omega) (by omega) (by omega)
/-- a number up to M, on both sides -/
theorem znum {L : Nat} {b : Nat → Nat} {f : Nat} {ν1 ν2 : zMem} (h1 : zNC L b f ν1) (h2 : zNR L b f ν2) (M : Nat) (hM : M ≤ 99) :
    (∃ v, v ≤ M ∧ zqso b L f = 2 ∧ fX3_isNumberTo 53 (nI M) ν1 = some (1, ν1) ∧ ν1 53 5 = nI v ∧ fX6_numberRead 66 0 (nI M) ν2 = zbd (fX6_next 66 ν2) fun _ m => some (nI v, m)) ∨
    (fX3_isNumberTo 53 (nI M) ν1 = some (0, ν1) ∧ ∃ r, fX6_numberRead 66 0 (nI M) ν2 = some (r, zst ν2 66 11 1)) := by
  obtain ⟨e1, e2, e3⟩ := zqen_le (b := b) h1.2.1
  have hs := zqso_le (b := b) (L := L) (i := f)
  have hL := h1.1.1.1
  have hfL := h1.2.1
  unfold fX3_isNumberTo fX6_numberRead
  rw [h1.2.2.2.1, h2.2.2.1, show (48 : Int32) = nI 48 from rfl, show (57 : Int32) = nI 57 from rfl, c6_isByte h2.1 hfL 48 57 (by omega) (by omega), zbd_s, h2.2.2.1]
  by_cases w : zqso b L f = 2
  · have hv := zqva_le (b := fun j => if f ≤ j then b j else 48) (e := zqen b L f) (fun j hj => by
      by_cases q : f ≤ j
      · simp only [if_pos q]; exact (zqen_dig w j q hj).2
      · simp only [if_neg q]; omega) (zqen b L f - f) f 0 (by omega) (by omega)
    have hve : ∀ m i a, f ≤ i → zqva (fun j => if f ≤ j then b j else 48) m i a = zqva b m i a := by
      intro m
      induction m with
      | zero => intro i a _; rfl
      | succ m ih =>
        intro i a hi
        rw [zqva, zqva, ih (i + 1) _ (by omega), ih (i + 1) _ (by omega)]
        simp only [if_pos hi]
    rw [hve _ f 0 (Nat.le_refl _)] at hv
    rw [if_pos (by rw [w]; rfl), h1.2.2.2.2.2 w, w5, zbd_s, zif_t (zqso_2.1 w), show (0 : Int32) = nI 0 from rfl, c6_n27 h2.1 h2.2.2.2.1 e2 (zqen_dig w) (nI 0) (nI M) (zqen b L f - f) f 200 0 (by omega) (by omega) (by omega) (by omega)]
    generalize hvv : zqva b (zqen b L f - f) f 0 = v at hv
    unfold fX6_numberRead_73
    rw [w6, zbd_s]
    by_cases w2 : v ≤ M
    · have c : nI 0 ≤ nI v ∧ nI v ≤ nI M := ⟨nI_le (by omega) (by omega), nI_le w2 (by omega)⟩
      refine Or.inl ⟨v, w2, w, zif_t c, rfl, ?_⟩
      rw [zb_t c, c6_must1 h2]
    · have c : ¬ (nI 0 ≤ nI v ∧ nI v ≤ nI M) := fun z => nI_ge (by omega) (by omega) z.2
      refine Or.inr ⟨zif_f c, nI v, ?_⟩
      rw [zb_f c, c6_must0 h2, zbd_s]
  · rw [if_neg (show ¬ nI (zqso b L f) = 2 from fun z => w ((nI_eq (b := 2) (by omega) (by omega)).1 z)), zif_f (fun z => w (zqso_2.2 z))]
    refine Or.inr ⟨rfl, -1, ?_⟩
    have g : fX6_numberRead_73 66 0 (nI M) (-1) ν2 = some (-1, zst ν2 66 11 1) := by
      unfold fX6_numberRead_73
      rw [w6, zbd_s, zb_f (show ¬ ((0 : Int32) ≤ -1 ∧ (-1 : Int32) ≤ nI M) from fun z => absurd z.1 (by decide)), c6_must0 h2, zbd_s]
    rw [fX6_numberRead_27, if_pos (show (-1 : Int32) < 0 by decide), g]
    split <;> rfl
