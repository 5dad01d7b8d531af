/-! the reference's walk: layer by layer -/
def zed (h : Nat → Int32) (l : Int32) (a b : Nat) : Bool := decide (zbes a b = true ∧ ¬ l < zcb h a b)
def zwi (E : Nat → Nat → Bool) (s B k a b : Nat) (d : Nat → Int32) : Prop :=
  (∀ c, c < 25 → d c = -1 ∨ ∃ j, j ≤ B ∧ d c = nI j) ∧ d s = nI 0 ∧ (∀ v, v < 25 → d v = nI 0 → v = s) ∧
  (∀ v j, v < 25 → j < 25 → d v = nI (j + 1) → ∃ u, u < 25 ∧ d u = nI j ∧ E u v = true) ∧
  ∀ u v j, u < 25 → v < 25 → j < 25 → d u = nI j → E u v = true → (j < k ∨ j = k ∧ (u < a ∨ u = a ∧ v < b)) → ∃ i, i ≤ j + 1 ∧ d v = nI i
theorem zwi.mono {E : Nat → Nat → Bool} {s B k a b B' k' a' b' : Nat} {d : Nat → Int32} (h : zwi E s B k a b d) (hB : B ≤ B') (hx : ∀ u v j, u < 25 → v < 25 → d u = nI j → E u v = true → (j < k' ∨ j = k' ∧ (u < a' ∨ u = a' ∧ v < b')) → (j < k ∨ j = k ∧ (u < a ∨ u = a ∧ v < b)) ∨ ∃ i, i ≤ j + 1 ∧ d v = nI i) : zwi E s B' k' a' b' d := by
  obtain ⟨h1, h2, h3, h4, h5⟩ := h
  refine ⟨fun c hc => ?_, h2, h3, h4, fun u v j hu hv hj e ee hq => ?_⟩
  · rcases h1 c hc with e | ⟨j, hj, e⟩
    · exact Or.inl e
    · exact Or.inr ⟨j, by omega, e⟩
  · rcases hx u v j hu hv e ee hq with w | w
    · exact h5 u v j hu hv hj e ee w
    · exact w
theorem zwi.put {E : Nat → Nat → Bool} {s k a b : Nat} {d : Nat → Int32} (hk : k < 25) (ha : a < 25) (hb : b < 25) (h : zwi E s (k + 1) k a b d) (e : d a = nI k) (hn : d b = -1) (he : E a b = true) : zwi E s (k + 1) k a (b + 1) (fun c => if c = b then nI (k + 1) else d c) := by
  obtain ⟨h1, h2, h3, h4, h5⟩ := h
  have nb : ∀ c j, j < 2 ^ 31 → d c = nI j → c ≠ b := by
    intro c j hj q w; subst w; exact zne1 hj (q.symm.trans hn)
  have q2 : s ≠ b := nb s 0 (by omega) h2
  have qa : a ≠ b := nb a k (by omega) e
  refine ⟨fun c hc => ?_, ?_, fun v hv q => ?_, fun v j hv hj q => ?_, fun u v j hu hv hj q ee hq => ?_⟩
  · by_cases w : c = b
    · exact Or.inr ⟨k + 1, by omega, if_pos w⟩
    · simp only [if_neg w]; exact h1 c hc
  · simp only [if_neg q2]; exact h2
  · by_cases w : v = b
    · simp only [if_pos w] at q
      have := (nI_eq (by omega) (by omega)).1 q
      omega
    · simp only [if_neg w] at q; exact h3 v hv q
  · by_cases w : v = b
    · simp only [if_pos w] at q
      have := (nI_eq (by omega) (by omega)).1 q
      refine ⟨a, ha, ?_, by rw [w]; exact he⟩
      simp only [if_neg qa]
      rw [e]; congr 1; omega
    · simp only [if_neg w] at q
      obtain ⟨u, hu, f, g⟩ := h4 v j hv hj q
      refine ⟨u, hu, ?_, g⟩
      simp only [if_neg (nb u j (by omega) f)]; exact f
  · by_cases w : u = b
    · simp only [if_pos w] at q
      have := (nI_eq (by omega) (by omega)).1 q
      omega
    · simp only [if_neg w] at q
      by_cases w2 : v = b
      · simp only [if_pos w2]
        by_cases w3 : j < k ∨ j = k ∧ (u < a ∨ u = a ∧ v < b)
        · obtain ⟨i, hi, f⟩ := h5 u v j hu hv hj q ee w3
          exact absurd w2 (nb v i (by omega) f)
        · exact ⟨k + 1, by omega, rfl⟩
      · simp only [if_neg w2]
        exact h5 u v j hu hv hj q ee (by omega)
theorem zw51 {K32 : Nat → Int32 → Int32 → zMem → Option (Unit × zMem)} {K41 : Nat → Int32 → Int32 → Int32 → zMem → Option (Unit × zMem)} {s k a : Nat} {l : Int32} {μ0 : zMem} {P : Option (Unit × zMem) → Prop} (hk : k < 25) (ha : a < 25)
    (hK : ∀ μ' : zMem, (∀ j, j ≠ 71 → μ' j = μ0 j) → zwi (zed (fun i => μ0 67 (4 + i)) l) s (k + 1) k (a + 1) 0 (μ' 71) → P (K41 66 l (nI k) (nI (a + 1)) μ')) :
    ∀ m b q, b + m = 25 → m < q → ∀ μ : zMem, (∀ j, j ≠ 71 → μ j = μ0 j) → zwi (zed (fun i => μ0 67 (4 + i)) l) s (k + 1) k a b (μ 71) → P (fX6_walk_51 K32 K41 q 66 l (nI k) (nI a) (nI b) μ) := by
  intro m
  induction m with
  | zero =>
    intro b q hb hq μ hf hw
    obtain ⟨q, rfl⟩ : ∃ z, q = z + 1 := ⟨q - 1, by omega⟩
    rw [fX6_walk_51, show (25 : Int32) = nI 25 from rfl, zle_t (by omega) (by omega), n1]
    exact hK μ hf (hw.mono (by omega) (fun u v j hu hv _ _ _ => Or.inl (by omega)))
  | succ m ih =>
    intro b q hb hq μ hf hw
    obtain ⟨q, rfl⟩ : ∃ z, q = z + 1 := ⟨q - 1, by omega⟩
    rw [fX6_walk_51, show (25 : Int32) = nI 25 from rfl, zle_f (by omega) (by omega), zgd_ib ha (by decide), zcl (by omega)]
    show P (if μ 71 a = nI k then _ else _)
    by_cases e : μ 71 a = nI k
    · rw [if_pos e, zgd_ib (show b < 25 by omega) (by decide)]
      simp only [zcl (show b < 2 ^ 31 by omega)]
      have hid : zst μ 71 b (μ 71 b) = μ := by
        funext i j; rw [zst_at]; split
        · next h => rw [h.1, h.2]
        · rfl
      have skip : zwi (zed (fun i => μ0 67 (4 + i)) l) s (k + 1) k a (b + 1) (μ 71) → P (fX6_walk_103 K32 K41 (fX6_walk_51 K32 K41 q) 66 l (nI k) (nI a) (nI b) (nI b) (66 + 5) μ) := by
        intro hw'
        unfold fX6_walk_103
        simp only [zgd_ib (show b < 25 by omega) (show 25 < 2 ^ 31 by decide), zcl (show b < 2 ^ 31 by omega), n1]
        rw [hid]
        exact ih (b + 1) q (by omega) (by omega) μ hf hw'
      rcases hw.1 b (by omega) with hb1 | ⟨j, hj, hb1⟩
      · show P (if 0 ≤ μ 71 b then _ else _)
        rw [hb1, if_neg (by decide), c6_canStep ha (by omega), zbd_s, hf 67 (by decide)]
        by_cases ed : zed (fun i => μ0 67 (4 + i)) l a b = true
        · have ed' := of_decide_eq_true ed
          rw [zb_t ed', if_neg (by decide), n1, n1]
          simp only [zgd_ib (show b < 25 by omega) (show 25 < 2 ^ 31 by decide), zcl (show b < 2 ^ 31 by omega)]
          refine ih (b + 1) q (by omega) (by omega) _ (fun j hj => by rw [zst_row_ne (by omega), hf j hj]) ?_
          have e2 : zst μ 71 b (nI (k + 1)) 71 = (fun c => if c = b then nI (k + 1) else μ 71 c) := by
            funext c
            by_cases w : c = b
            · rw [w, zst_eq, if_pos rfl]
            · rw [zst_ne w, if_neg w]
          show zwi _ s (k + 1) k a (b + 1) (zst μ 71 b (nI (k + 1)) 71)
          rw [e2]
          exact hw.put hk ha (by omega) e hb1 ed
        · have ed' : ¬ (zbes a b = true ∧ ¬ l < zcb (fun i => μ0 67 (4 + i)) a b) := fun z => ed (decide_eq_true z)
          rw [zb_f ed', if_pos rfl]
          refine skip (hw.mono (by omega) (fun u v j hu hv hj ee hq => ?_))
          by_cases w : u = a ∧ v = b
          · rw [w.1, w.2] at ee; exact absurd ee ed
          · exact Or.inl (by omega)
      · show P (if 0 ≤ μ 71 b then _ else _)
        rw [hb1, if_pos (nI_pos' (by omega))]
        refine skip (hw.mono (by omega) (fun u v i hu hv hi ee hq => ?_))
        by_cases w : u = a ∧ v = b
        · rw [w.1, e] at hi
          have := (nI_eq (by omega) (by omega)).1 hi
          exact Or.inr ⟨j, by omega, by rw [w.2]; exact hb1⟩
        · exact Or.inl (by omega)
    · rw [if_neg e, n1]
      refine hK μ hf (hw.mono (by omega) (fun u v j hu hv hj ee hq => Or.inl ?_))
      by_cases w : u = a
      · rcases hq with q1 | ⟨q1, q2⟩
        · omega
        · rw [w, q1] at hj; exact absurd hj e
      · omega
theorem zw41 {K32 : Nat → Int32 → Int32 → zMem → Option (Unit × zMem)} {s k : Nat} {l : Int32} {μ0 : zMem} {P : Option (Unit × zMem) → Prop} (hk : k < 25)
    (hK : ∀ μ' : zMem, (∀ j, j ≠ 71 → μ' j = μ0 j) → zwi (zed (fun i => μ0 67 (4 + i)) l) s (k + 1) (k + 1) 0 0 (μ' 71) → P (K32 66 l (nI (k + 1)) μ')) :
    ∀ m a q, a + m = 25 → m < q → ∀ μ : zMem, (∀ j, j ≠ 71 → μ j = μ0 j) → zwi (zed (fun i => μ0 67 (4 + i)) l) s (k + 1) k a 0 (μ 71) → P (fX6_walk_41 K32 q 66 l (nI k) (nI a) μ) := by
  intro m
  induction m with
  | zero =>
    intro a q ha hq μ hf hw
    obtain ⟨q, rfl⟩ : ∃ z, q = z + 1 := ⟨q - 1, by omega⟩
    rw [fX6_walk_41, show (25 : Int32) = nI 25 from rfl, zle_t (by omega) (by omega), n1]
    exact hK μ hf (hw.mono (by omega) (fun u v j hu hv _ _ _ => Or.inl (by omega)))
  | succ m ih =>
    intro a q ha hq μ hf hw
    obtain ⟨q, rfl⟩ : ∃ z, q = z + 1 := ⟨q - 1, by omega⟩
    rw [fX6_walk_41, show (25 : Int32) = nI 25 from rfl, zle_f (by omega) (by omega)]
    exact zw51 hk (by omega) (fun μ' hf' hw' => ih (a + 1) q (by omega) (by omega) μ' hf' hw') 25 0 200 (by omega) (by omega) μ hf hw
theorem zw32 {s : Nat} {l : Int32} {μ0 : zMem} : ∀ m k q, k + m = 25 → m < q → ∀ μ : zMem, (∀ j, j ≠ 71 → μ j = μ0 j) → zwi (zed (fun i => μ0 67 (4 + i)) l) s k k 0 0 (μ 71) → ∃ μ', fX6_walk_32 q 66 l (nI k) μ = some ((), μ') ∧ (∀ j, j ≠ 71 → μ' j = μ0 j) ∧ zrt (zed (fun i => μ0 67 (4 + i)) l) s (μ' 71) := by
  intro m
  induction m with
  | zero =>
    intro k q hk hq μ hf hw
    obtain ⟨q, rfl⟩ : ∃ z, q = z + 1 := ⟨q - 1, by omega⟩
    rw [fX6_walk_32, show (25 : Int32) = nI 25 from rfl, zle_t (by omega) (by omega)]
    obtain rfl : k = 25 := by omega
    obtain ⟨h1, h2, h3, h4, h5⟩ := hw
    exact ⟨μ, rfl, hf, h1, h2, h3, h4, fun u v j hu hv hj e ee => h5 u v j hu hv hj e ee (Or.inl hj)⟩
  | succ m ih =>
    intro k q hk hq μ hf hw
    obtain ⟨q, rfl⟩ : ∃ z, q = z + 1 := ⟨q - 1, by omega⟩
    rw [fX6_walk_32, show (25 : Int32) = nI 25 from rfl, zle_f (by omega) (by omega)]
    exact zw41 (P := fun o => ∃ μ', o = some ((), μ') ∧ (∀ j, j ≠ 71 → μ' j = μ0 j) ∧ zrt (zed (fun i => μ0 67 (4 + i)) l) s (μ' 71)) (by omega) (fun μ' hf' hw' => ih (k + 1) q (by omega) (by omega) μ' hf' hw') 25 0 200 (by omega) (by omega) μ hf (hw.mono (by omega) (fun u v j hu hv _ _ _ => Or.inl (by omega)))
/-- the reference's walk lays the distances into row 71 -/
theorem c6_walk {s : Nat} (hs : s < 25) (l : Int32) (μ : zMem) : ∃ μ', fX6_walk 66 (nI s) l μ = some ((), μ') ∧ (∀ j, j ≠ 71 → μ' j = μ j) ∧ zrt (zed (fun i => μ 67 (4 + i)) l) s (μ' 71) := by
  have key : ∀ m i q, i + m = 25 → m < q → ∀ ν : zMem, (∀ j, j ≠ 71 → ν j = μ j) → (∀ c, c < i → ν 71 c = if c = s then nI 0 else -1) → ∃ μ', fX6_walk_2 q 66 (nI s) l (nI i) ν = some ((), μ') ∧ (∀ j, j ≠ 71 → μ' j = μ j) ∧ zrt (zed (fun i => μ 67 (4 + i)) l) s (μ' 71) := by
    intro m
    induction m with
    | zero =>
      intro i q hi hq ν hf hc
      obtain ⟨q, rfl⟩ : ∃ z, q = z + 1 := ⟨q - 1, by omega⟩
      rw [fX6_walk_2, show (25 : Int32) = nI 25 from rfl, zle_t (by omega) (by omega)]
      obtain rfl : i = 25 := by omega
      have nn : ∀ c j, c < 25 → j < 2 ^ 31 → ν 71 c = nI j → c = s ∧ j = 0 := by
        intro c j hc' hj e
        rw [hc c hc'] at e
        by_cases w : c = s
        · rw [if_pos w] at e
          exact ⟨w, ((nI_eq (by omega) hj).1 e).symm⟩
        · rw [if_neg w] at e
          exact absurd e.symm (zne1 hj)
      refine zw32 25 0 200 (by omega) (by omega) ν hf ⟨fun c h => ?_, by rw [hc s hs, if_pos rfl], fun v hv e => (nn v 0 hv (by omega) e).1, fun v j hv hj e => ?_, fun u v j hu hv hj e ee hq => ?_⟩
      · rw [hc c h]
        by_cases w : c = s
        · exact Or.inr ⟨0, by omega, if_pos w⟩
        · exact Or.inl (if_neg w)
      · have := (nn v (j + 1) hv (by omega) e).2; omega
      · omega
    | succ m ih =>
      intro i q hi hq ν hf hc
      obtain ⟨q, rfl⟩ : ∃ z, q = z + 1 := ⟨q - 1, by omega⟩
      rw [fX6_walk_2, show (25 : Int32) = nI 25 from rfl, zle_f (by omega) (by omega)]
      by_cases w : i = s
      · rw [zeq_t w]
        simp only [zgd_ib (show i < 25 by omega) (show 25 < 2 ^ 31 by decide), zcl (show i < 2 ^ 31 by omega), n1]
        refine ih (i + 1) q (by omega) (by omega) _ (fun j hj => by rw [zst_row_ne (by omega), hf j hj]) (fun c h => ?_)
        by_cases z : c = i
        · rw [z, zst_eq, if_pos w]; rfl
        · rw [zst_ne z, hc c (by omega)]
      · rw [zeq_f w (by omega) (by omega)]
        simp only [zgd_ib (show i < 25 by omega) (show 25 < 2 ^ 31 by decide), zcl (show i < 2 ^ 31 by omega), n1]
        refine ih (i + 1) q (by omega) (by omega) _ (fun j hj => by rw [zst_row_ne (by omega), hf j hj]) (fun c h => ?_)
        by_cases z : c = i
        · rw [z, zst_eq, if_neg w]
        · rw [zst_ne z, hc c (by omega)]
  exact key 25 0 200 (by omega) (by omega) μ (fun _ _ => rfl) (fun c h => absurd h (by omega))
