/-! what lies over a cell, how steep it is -/
def zce (p q : Nat) : Nat := 5 * (p / 4 + q / 2) + p % 4 + q % 2
theorem zce_eq : ∀ p, p < 16 → ∀ q, q < 4 → ((((5 : Int32) * ((nI p / (4 : Int32)) + (nI q / (2 : Int32)))) + (nI p - nI p / (4 : Int32) * (4 : Int32))) + (nI q - nI q / (2 : Int32) * (2 : Int32))) = nI (zce p q) := by decide +kernel
theorem zce_lt : ∀ p, p < 16 → ∀ q, q < 4 → zce p q < 25 := by decide +kernel
theorem c5_cellUnder {p q : Nat} (hp : p < 16) (hq : q < 4) (μ : zMem) : fX5_cellUnder (nI p) (nI q) μ = some (nI (zce p q), μ) := by
  unfold fX5_cellUnder; rw [zce_eq p hp q hq]
theorem c6_cellOf {p q : Nat} (hp : p < 16) (hq : q < 4) (μ : zMem) : fX6_cellOf (nI p) (nI q) μ = some (nI (zce p q), μ) := by
  unfold fX6_cellOf; rw [zce_eq p hp q hq]
def zcu (p : Nat) : Int32 := zfold (fun d a => a ||| ((1 : Int32) <<< (nI (zce p d) &&& 31))) 4 0 0
def zcv (p c : Nat) : Nat → Nat → Bool
  | 0, _ => false
  | m + 1, d => decide (zce p d = c) || zcv p c m (d + 1)
def zcov (p c : Nat) : Bool := zcv p c 4 0
theorem zcu_eq : ∀ p, p < 16 → ∀ c, c < 25 → (decide (((((zcu p).toUInt32 >>> ((nI c).toUInt32 &&& Int32.toUInt32 31)).toInt32) &&& (1 : Int32)) = (1 : Int32))) = zcov p c := by decide +kernel
theorem c0_cellsUnder {p : Nat} (hp : p < 16) (μ : zMem) : fX0_cellsUnder (nI p) μ = some (zcu p, μ) := by
  have key : ∀ m d q acc, d + m = 4 → m < q → fX0_cellsUnder_4 q (nI p) acc (nI d) μ = some (zfold (fun d a => a ||| ((1 : Int32) <<< (nI (zce p d) &&& 31))) m d acc, μ) := by
    intro m
    induction m with
    | zero =>
      intro i q acc hi hq
      obtain ⟨q, rfl⟩ : ∃ z, q = z + 1 := ⟨q - 1, by omega⟩
      rw [fX0_cellsUnder_4, show (4 : Int32) = nI 4 from rfl, zle_t (by omega) (by omega)]; rfl
    | succ m ih =>
      intro i q acc hi hq
      obtain ⟨q, rfl⟩ : ∃ z, q = z + 1 := ⟨q - 1, by omega⟩
      rw [fX0_cellsUnder_4, show (4 : Int32) = nI 4 from rfl, zle_f (by omega) (by omega), c5_cellUnder hp (by omega), zbd_s, n1, zfold]
      exact ih (i + 1) q _ (by omega) (by omega)
  exact key 4 0 200 0 (by omega) (by omega)
theorem c6_covers {p c : Nat} (hp : p < 16) (hc : c < 25) (a0 : Nat) (μ : zMem) : fX6_covers a0 (nI p) (nI c) μ = some (zb (zcov p c = true), μ) := by
  have np : ¬ nI p < (0 : Int32) := nI_pos (by omega)
  have k1 : ∀ m d q, d + m = 4 → m < q → fX6_covers_5 q (nI p) (nI c) 1 (nI d) μ = some (1, μ) := by
    intro m
    induction m with
    | zero =>
      intro i q hi hq
      obtain ⟨q, rfl⟩ : ∃ z, q = z + 1 := ⟨q - 1, by omega⟩
      rw [fX6_covers_5, show (4 : Int32) = nI 4 from rfl, zle_t (by omega) (by omega), zgd_t (Or.inr rfl)]
    | succ m ih =>
      intro i q hi hq
      obtain ⟨q, rfl⟩ : ∃ z, q = z + 1 := ⟨q - 1, by omega⟩
      rw [fX6_covers_5, show (4 : Int32) = nI 4 from rfl, zle_f (by omega) (by omega), if_neg np, if_neg (by decide), n1]
      exact ih (i + 1) q (by omega) (by omega)
  have k0 : ∀ m d q, d + m = 4 → m < q → fX6_covers_5 q (nI p) (nI c) 0 (nI d) μ = some (zb (zcv p c m d = true), μ) := by
    intro m
    induction m with
    | zero =>
      intro i q hi hq
      obtain ⟨q, rfl⟩ : ∃ z, q = z + 1 := ⟨q - 1, by omega⟩
      rw [fX6_covers_5, show (4 : Int32) = nI 4 from rfl, zle_t (by omega) (by omega), zgd_t (Or.inl rfl)]; rfl
    | succ m ih =>
      intro i q hi hq
      obtain ⟨q, rfl⟩ : ∃ z, q = z + 1 := ⟨q - 1, by omega⟩
      rw [fX6_covers_5, show (4 : Int32) = nI 4 from rfl, zle_f (by omega) (by omega), if_neg np, if_pos rfl, c6_cellOf hp (by omega), zbd_s, n1]
      have := zce_lt p hp i (by omega)
      by_cases w : zce p i = c
      · rw [zeq_t w, k1 m (i + 1) q (by omega) (by omega), zb_t (by simp [zcv, w])]
      · rw [zeq_f w (by omega) (by omega), ih (i + 1) q (by omega) (by omega)]
        have e : zcv p c (m + 1) i = zcv p c m (i + 1) := by simp [zcv, w]
        rw [e]
  exact k0 4 0 200 (by omega) (by omega)
theorem c6_covers1 {c : Int32} (a0 : Nat) (μ : zMem) : fX6_covers a0 (-1) c μ = some (0, μ) := by
  unfold fX6_covers
  rw [fX6_covers_5, if_neg (by decide), if_pos (by decide), zgd_t (Or.inl rfl)]
def zto (n : Nat) (x : Nat → Int32) (c : Nat) : Int32 := zfold (fun i a => if x (29 + 8 * i + 1) = -1 then a else if zcov (x (29 + 8 * i + 1)).toNatClampNeg c = true then a ||| ((1 : Int32) <<< (nI i &&& 31)) else a) n 0 0
theorem c0_tentsOver {n c : Nat} {μ : zMem} {x : Nat → Int32} (hv : zVal n x) (h : zSim n c μ x) {i : Nat} (hi : i < 25) : fX0_tentsOver c (nI i) μ = some (zto n x i, μ) := by
  have hn := hv.1
  have hs : μ c 3 = nI n := h.1.1.trans hv.2.1
  have key : ∀ m t q acc, t + m = n → m < q → fX0_tentsOver_4 q c (nI i) acc (nI t) μ = some (zfold (fun t a => if x (29 + 8 * t + 1) = -1 then a else if zcov (x (29 + 8 * t + 1)).toNatClampNeg i = true then a ||| ((1 : Int32) <<< (nI t &&& 31)) else a) m t acc, μ) := by
    intro m
    induction m with
    | zero =>
      intro t q acc ht hq
      obtain ⟨q, rfl⟩ : ∃ z, q = z + 1 := ⟨q - 1, by omega⟩
      rw [fX0_tentsOver_4, hs, zle_t (by omega) (by omega)]; rfl
    | succ m ih =>
      intro t q acc ht hq
      obtain ⟨q, rfl⟩ : ∃ z, q = z + 1 := ⟨q - 1, by omega⟩
      have hp := (hv.2.2.2.2.2.2 t (by omega)).2.1
      rw [fX0_tentsOver_4, hs, zle_f (by omega) (by omega)]
      simp only [zgd_ib (show t < 6 by omega) (show 6 < 2 ^ 31 by decide), zcl (show t < 2 ^ 31 by omega), n1]
      rw [show c + 3 + 1 + 2 * t = c + 4 + 2 * t by omega, c4_isPitched, zbd_s, (h.2.2.2 t (by omega)).1.2.1, zfold]
      by_cases e : x (29 + 8 * t + 1) = -1
      · rw [zif_f (fun z => (zpit hp).mp z e), if_pos e]
        exact ih (t + 1) q _ (by omega) (by omega)
      · rw [zif_t ((zpit hp).mpr e), if_neg e]
        rcases hp with hp | ⟨p, hp, hpe⟩
        · exact absurd hp e
        · rw [hpe, c0_cellsUnder hp, zbd_s, zcl (by omega)]
          have z := zcu_eq p hp i hi
          by_cases w : zcov p i = true
          · rw [if_pos w, if_pos (of_decide_eq_true (z.trans w))]
            exact ih (t + 1) q _ (by omega) (by omega)
          · rw [if_neg w, if_neg (fun k => w (z.symm.trans (decide_eq_true k)))]
            exact ih (t + 1) q _ (by omega) (by omega)
  exact key n 0 200 0 (by omega) (by omega)
theorem c6_tentsOn {n : Nat} {μ : zMem} (hv : zVal n (μ 67)) {i : Nat} (hi : i < 25) : fX6_tentsOn 66 (nI i) μ = some (zto n (μ 67) i, μ) := by
  have hn := hv.1
  have h2 := hv.2.1
  have key : ∀ m t q acc, t + m = n → m < q → fX6_tentsOn_4 q 66 (nI i) acc (nI t) μ = some (zfold (fun t a => if μ 67 (29 + 8 * t + 1) = -1 then a else if zcov (μ 67 (29 + 8 * t + 1)).toNatClampNeg i = true then a ||| ((1 : Int32) <<< (nI t &&& 31)) else a) m t acc, μ) := by
    intro m
    induction m with
    | zero =>
      intro t q acc ht hq
      obtain ⟨q, rfl⟩ : ∃ z, q = z + 1 := ⟨q - 1, by omega⟩
      rw [fX6_tentsOn_4, zgd_t zi2, show μ (66 + 1) (2 : Int32).toNatClampNeg = nI n from h2, zle_t (by omega) (by omega)]; rfl
    | succ m ih =>
      intro t q acc ht hq
      obtain ⟨q, rfl⟩ : ∃ z, q = z + 1 := ⟨q - 1, by omega⟩
      have hp := (hv.2.2.2.2.2.2 t (by omega)).2.1
      have e1 : fX6_its 66 (nI t) (1 : Int32) μ = some (μ 67 (29 + 8 * t + 1), μ) := c6_its (w := 1) (by omega) μ
      rw [fX6_tentsOn_4, zgd_t zi2, show μ (66 + 1) (2 : Int32).toNatClampNeg = nI n from h2, zle_f (by omega) (by omega), e1, zbd_s, n1, zfold, Int32.or_zero]
      by_cases e : μ 67 (29 + 8 * t + 1) = -1
      · rw [if_pos e, e, c6_covers1, zbd_s, if_pos rfl]
        exact ih (t + 1) q _ (by omega) (by omega)
      · rw [if_neg e]
        rcases hp with hp | ⟨p, hp, hpe⟩
        · exact absurd hp e
        · rw [hpe, c6_covers hp hi, zbd_s, zcl (by omega)]
          by_cases w : zcov p i = true
          · rw [if_pos w, zif_t w]
            exact ih (t + 1) q _ (by omega) (by omega)
          · rw [if_neg w, zif_f w]
            exact ih (t + 1) q _ (by omega) (by omega)
  exact key n 0 200 0 (by omega) (by omega)
theorem zbes_iff (a b : Nat) : zbes a b = true ↔ ∃ d, d < 4 ∧ zN a d = nI b := by
  unfold zbes
  simp only [Bool.or_eq_true, decide_eq_true_eq]
  constructor
  · rintro (((q | q) | q) | q)
    · exact ⟨0, by omega, q⟩
    · exact ⟨1, by omega, q⟩
    · exact ⟨2, by omega, q⟩
    · exact ⟨3, by omega, q⟩
  · rintro ⟨d, hd, q⟩
    rcases (by omega : d = 0 ∨ d = 1 ∨ d = 2 ∨ d = 3) with rfl | rfl | rfl | rfl
    · exact Or.inl (Or.inl (Or.inl q))
    · exact Or.inl (Or.inl (Or.inr q))
    · exact Or.inl (Or.inr q)
    · exact Or.inr q
/-- the greatest of a cell's climbs -/
def zgr (D : Nat → Nat) (a w : Nat) : Prop := w ≤ 99 ∧ (∀ e, e < 25 → zbes a e = true → D e ≤ w) ∧ (w = 0 ∨ ∃ e, e < 25 ∧ zbes a e = true ∧ w = D e)
theorem zgr_uniq {D : Nat → Nat} {a w w' : Nat} (h : zgr D a w) (h' : zgr D a w') : w = w' := by
  obtain ⟨-, h1, h2⟩ := h
  obtain ⟨-, h1', h2'⟩ := h'
  have q1 : w ≤ w' := by
    rcases h2 with q | ⟨e, he, q1, q2⟩
    · omega
    · have := h1' e he q1; omega
  have q2 : w' ≤ w := by
    rcases h2' with q | ⟨e, he, q1, q2⟩
    · omega
    · have := h1 e he q1; omega
  omega
theorem zmx {a b : Nat} (ha : a < 2 ^ 31) (hb : b < 2 ^ 31) : (if nI a < nI b then nI b else nI a) = nI (if a < b then b else a) := by
  by_cases w : a < b
  · rw [zlt_t w hb, if_pos w]
  · rw [zlt_f (by omega) ha, if_neg w]
theorem c0_steep {n c : Nat} {μ : zMem} {x : Nat → Int32} (h : zSim n c μ x) {H : Nat → Nat} (hH : ∀ i, i < 25 → H i ≤ 99 ∧ x (4 + i) = nI (H i)) {a : Nat} (ha : a < 25) : ∃ w, fX0_steepnessAt c (nI a) μ = some (nI w, μ) ∧ zgr (fun e => H a - H e + (H e - H a)) a w := by
  have key : ∀ m d q w, d + m = 4 → m < q → w ≤ 99 → (∀ d', d' < d → ∀ e, e < 25 → zN a d' = nI e → H a - H e + (H e - H a) ≤ w) → (w = 0 ∨ ∃ e, e < 25 ∧ zbes a e = true ∧ w = H a - H e + (H e - H a)) → ∃ w', fX0_steepnessAt_4 q c (nI a) (nI w) (nI d) μ = some (nI w', μ) ∧ zgr (fun e => H a - H e + (H e - H a)) a w' := by
    intro m
    induction m with
    | zero =>
      intro d q w hd hq hw h1 h2
      obtain ⟨q, rfl⟩ : ∃ z, q = z + 1 := ⟨q - 1, by omega⟩
      refine ⟨w, ?_, hw, fun e he hb => ?_, h2⟩
      · rw [fX0_steepnessAt_4, show (4 : Int32) = nI 4 from rfl, zle_t (by omega) (by omega)]
      · obtain ⟨d', hd', q'⟩ := (zbes_iff a e).1 hb
        exact h1 d' (by omega) e he q'
    | succ m ih =>
      intro d q w hd hq hw h1 h2
      obtain ⟨q, rfl⟩ : ∃ z, q = z + 1 := ⟨q - 1, by omega⟩
      rw [fX0_steepnessAt_4, show (4 : Int32) = nI 4 from rfl, zle_f (by omega) (by omega), c5_neighbour ha (by omega), zbd_s, n1]
      rcases zN_rng a ha d (by omega) with z | ⟨e, he, z⟩
      · rw [if_pos z]
        refine ih (d + 1) q w (by omega) (by omega) hw (fun d' hd' e he q' => ?_) h2
        by_cases k : d' = d
        · subst k; exact absurd (q'.symm.trans z) (zne1 (by omega))
        · exact h1 d' (by omega) e he q'
      · obtain ⟨pa, qa⟩ := hH a ha
        obtain ⟨pe, qe⟩ := hH e he
        rw [z, if_neg (show ¬ nI e = (-1 : Int32) from zne1 (by omega)), c0_climb ha he, zbd_s, zcb_sim h ha he, zcb_nat (h := fun i => x (4 + i)) qa qe pa pe, zmx (by omega) (by omega)]
        refine ih (d + 1) q _ (by omega) (by omega) ?_ (fun d' hd' e' he' q' => ?_) ?_
        · split <;> omega
        · by_cases k : d' = d
          · subst k
            have : e' = e := (nI_eq (by omega) (by omega)).1 (q'.symm.trans z)
            subst this
            split <;> omega
          · have := h1 d' (by omega) e' he' q'
            split <;> omega
        · split
          · exact Or.inr ⟨e, he, (zbes_iff a e).2 ⟨d, by omega, z⟩, rfl⟩
          · exact h2
  exact key 4 0 200 0 (by omega) (by omega) (by omega) (fun d' hd' => by omega) (Or.inl rfl)
theorem c6_steep {μ : zMem} {H : Nat → Nat} (hH : ∀ i, i < 25 → H i ≤ 99 ∧ μ 67 (4 + i) = nI (H i)) {a : Nat} (ha : a < 25) : ∃ w, fX6_steepest 66 (nI a) μ = some (nI w, μ) ∧ zgr (fun e => H a - H e + (H e - H a)) a w := by
  have key : ∀ m d q w, d + m = 25 → m < q → w ≤ 99 → (∀ e, e < d → zbes a e = true → H a - H e + (H e - H a) ≤ w) → (w = 0 ∨ ∃ e, e < 25 ∧ zbes a e = true ∧ w = H a - H e + (H e - H a)) → ∃ w', fX6_steepest_4 q 66 (nI a) (nI w) (nI d) μ = some (nI w', μ) ∧ zgr (fun e => H a - H e + (H e - H a)) a w' := by
    intro m
    induction m with
    | zero =>
      intro d q w hd hq hw h1 h2
      obtain ⟨q, rfl⟩ : ∃ z, q = z + 1 := ⟨q - 1, by omega⟩
      refine ⟨w, ?_, hw, fun e he hb => h1 e (by omega) hb, h2⟩
      rw [fX6_steepest_4, show (25 : Int32) = nI 25 from rfl, zle_t (by omega) (by omega)]
    | succ m ih =>
      intro d q w hd hq hw h1 h2
      obtain ⟨q, rfl⟩ : ∃ z, q = z + 1 := ⟨q - 1, by omega⟩
      rw [fX6_steepest_4, show (25 : Int32) = nI 25 from rfl, zle_f (by omega) (by omega), c6_areBeside (by omega) ha, zbd_s, n1, zbes_sym d (by omega) a ha, show (4 : Int32) = nI 4 from rfl, nI_add, nI_add]
      simp only [zgd_ib (show 4 + d < 87 by omega) (show 87 < 2 ^ 31 by decide), zgd_ib (show 4 + a < 87 by omega) (show 87 < 2 ^ 31 by decide), zcl (show 4 + d < 2 ^ 31 by omega), zcl (show 4 + a < 2 ^ 31 by omega)]
      by_cases z : zbes a d = true
      · obtain ⟨pa, qa⟩ := hH a ha
        obtain ⟨pe, qe⟩ := hH d (by omega)
        rw [zif_t z]
        show ∃ w', fX6_steepest_4 q 66 (nI a) (if nI w < zcb (fun i => μ 67 (4 + i)) d a then zcb (fun i => μ 67 (4 + i)) d a else nI w) (nI (d + 1)) μ = some (nI w', μ) ∧ _
        rw [zcb_nat (h := fun i => μ 67 (4 + i)) qe qa pe pa, zmx (by omega) (by omega)]
        refine ih (d + 1) q _ (by omega) (by omega) ?_ (fun e' he' q' => ?_) ?_
        · split <;> omega
        · by_cases k : e' = d
          · subst k
            split <;> omega
          · have := h1 e' (by omega) q'
            split <;> omega
        · split
          · exact Or.inr ⟨d, by omega, z, by omega⟩
          · exact h2
      · rw [zif_f z]
        refine ih (d + 1) q w (by omega) (by omega) hw (fun e' he' q' => ?_) h2
        by_cases k : e' = d
        · subst k; exact absurd q' z
        · exact h1 e' (by omega) q'
  exact key 25 0 200 0 (by omega) (by omega) (by omega) (fun d' hd' => by omega) (Or.inl rfl)
theorem zhts {n : Nat} {x : Nat → Int32} (hv : zVal n x) : ∃ H : Nat → Nat, ∀ i, i < 25 → H i ≤ 99 ∧ x (4 + i) = nI (H i) := by
  refine ⟨fun i => (x (4 + i)).toNatClampNeg, fun i hi => ?_⟩
  obtain ⟨v, hv1, hv2⟩ := hv.2.2.2.2.1 i hi
  have e : (x (4 + i)).toNatClampNeg = v := by rw [hv2, zcl (by omega)]
  exact ⟨Nat.le_trans (Nat.le_of_eq e) hv1, hv2.trans (congrArg nI e.symm)⟩
theorem e2 : zE2 zInv := by
  intro a1 a2 μ hI
  obtain ⟨⟨n, hc⟩, -⟩ := id hI
  have i6 : ∀ μ' : zMem, fX6_in a2.toInt64 0 3 μ' = some (zb (0 ≤ a2 ∧ a2 ≤ 3), μ') := fun μ' => by
    rw [show (0 : Int64) = (0 : Int32).toInt64 from rfl, show (3 : Int64) = (3 : Int32).toInt64 from rfl, w6]
  by_cases h1 : 0 ≤ a1 ∧ a1 ≤ 24
  · obtain ⟨i, hi, rfl⟩ := zrng (n := 24) rfl h1
    have s5 : fX5_cell 0 (nI i) a2 μ = if a2 = 0 then some (μ 2 i, μ) else if a2 = 1 then fX0_springAt 1 (nI i) μ else if a2 = 2 then fX0_tentsOver 1 (nI i) μ else if a2 = 3 then fX0_steepnessAt 1 (nI i) μ else fX5_finding 0 (nI 0) μ := by
      unfold fX5_cell
      rw [c5_isCell, zbd_s, zif_t h1, zgd_ib (by omega) (by decide), zcl (by omega)]
      simp only [zbd_eta]
      rfl
    by_cases h2 : 0 ≤ a2 ∧ a2 ≤ 3
    · have s6 : fX6_cell 66 (nI i) a2 μ = if a2 = 0 then some (μ 67 (4 + i), μ) else if a2 = 1 then some ((μ 67 3 >>> (nI i &&& 31)) &&& 1, μ) else if a2 = 2 then fX6_tentsOn 66 (nI i) μ else fX6_steepest 66 (nI i) μ := by
        unfold fX6_cell
        rw [c6_isCell, zbd_s, zif_t h1, i6, zbd_s, zif_t h2, show (4 : Int32) = nI 4 from rfl, nI_add, zgd_ib (by omega) (by decide), zcl (by omega), c6_hasSpring i (by omega), zbd_s]
        simp only [zbd_eta]
        rcases zbit01 (μ 67 3 >>> (nI i &&& 31)) with q | q
        · rw [q, if_pos rfl]
        · rw [q, if_neg (show ¬ (1 : Int32) = 0 by decide)]
      have fin : ∀ r, fX5_cell 0 (nI i) a2 μ = some (r, μ) → fX6_cell 66 (nI i) a2 μ = some (r, μ) → zok (fX5_cell 0 (nI i) a2 μ) (fun r μ1 => zok (fX6_cell 66 (nI i) a2 μ1) (fun r' μ2 => r = r' ∧ zInv μ2)) := fun r q1 q2 => zE_of (f6 := fX6_cell 66 (nI i) a2) q1 q2 hI
      by_cases w0 : a2 = 0
      · exact fin (μ 2 i) (s5.trans (if_pos w0)) (s6.trans ((if_pos w0).trans (by rw [← hc.2.1.2.1 i (by omega)])))
      by_cases w1 : a2 = 1
      · refine fin ((μ 67 3 >>> (nI i &&& 31)) &&& 1) (s5.trans ((if_neg w0).trans ((if_pos w1).trans ?_))) (s6.trans ((if_neg w0).trans (if_pos w1)))
        unfold fX0_springAt
        rw [hc.2.1.1.2.1, zspr _ i (by omega)]
      by_cases w2 : a2 = 2
      · exact fin (zto n (μ 67) i) (s5.trans ((if_neg w0).trans ((if_neg w1).trans ((if_pos w2).trans (c0_tentsOver hc.1 hc.2.1 (by omega)))))) (s6.trans ((if_neg w0).trans ((if_neg w1).trans ((if_pos w2).trans (c6_tentsOn hc.1 (by omega))))))
      have w3 : a2 = 3 := by
        obtain ⟨v, hv, rfl⟩ := zrng (n := 3) rfl h2
        rcases (by omega : v = 0 ∨ v = 1 ∨ v = 2 ∨ v = 3) with rfl | rfl | rfl | rfl
        · exact absurd rfl w0
        · exact absurd rfl w1
        · exact absurd rfl w2
        · rfl
      obtain ⟨H, hH⟩ := zhts hc.1
      obtain ⟨w, g1, g2⟩ := c0_steep hc.2.1 hH (a := i) (by omega)
      obtain ⟨w', g3, g4⟩ := c6_steep hH (a := i) (by omega)
      obtain rfl := zgr_uniq g2 g4
      exact fin (nI w) (s5.trans ((if_neg w0).trans ((if_neg w1).trans ((if_neg w2).trans ((if_pos w3).trans g1))))) (s6.trans ((if_neg w0).trans ((if_neg w1).trans ((if_neg w2).trans g3))))
    · have n0 : ¬ a2 = 0 := fun q => h2 (by rw [q]; decide)
      have n1' : ¬ a2 = 1 := fun q => h2 (by rw [q]; decide)
      have n2 : ¬ a2 = 2 := fun q => h2 (by rw [q]; decide)
      have n3 : ¬ a2 = 3 := fun q => h2 (by rw [q]; decide)
      refine zfind hI 0 (by decide) (s5.trans ((if_neg n0).trans ((if_neg n1').trans ((if_neg n2).trans (if_neg n3))))) (fun μ' _ => ?_)
      unfold fX6_cell
      rw [c6_isCell, zbd_s, zif_t h1, i6, zbd_s, zif_f h2, zbd_eta]; rfl
  · refine zfind hI 0 (by decide) ?_ (fun μ' _ => ?_)
    · unfold fX5_cell
      rw [c5_isCell, zbd_s, zif_f h1, zbd_eta]; rfl
    · unfold fX6_cell
      rw [c6_isCell, zbd_s, zif_f h1, zbd_eta]; rfl
