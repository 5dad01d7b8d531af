/-! the ground's neighbours, steps, judge -/
def zN (c d : Nat) : Int32 := if d = 0 then (if c / 5 = 0 then -1 else nI (c - 5)) else if d = 1 then (if c % 5 = 0 then -1 else nI (c - 1)) else if d = 2 then (if c % 5 = 4 then -1 else nI (c + 1)) else (if c / 5 = 4 then -1 else nI (c + 5))
def zn5 (a0 a1 : Int32) : Int32 := if a1 = (0 : Int32) then (if (a0 / (5 : Int32)) ≤ 0 then (-1 : Int32) else a0 - 5) else if a1 = (1 : Int32) then (if (a0 - a0 / (5 : Int32) * (5 : Int32)) ≤ 0 then (-1 : Int32) else a0 - 1) else if a1 = (2 : Int32) then (if (4 : Int32) ≤ (a0 - a0 / (5 : Int32) * (5 : Int32)) then (-1 : Int32) else a0 + 1) else if a1 = (3 : Int32) then (if (4 : Int32) ≤ (a0 / (5 : Int32)) then (-1 : Int32) else a0 + 5) else -1
theorem zn5_eq : ∀ c, c < 25 → ∀ d, d < 4 → zn5 (nI c) (nI d) = zN c d := by decide +kernel
theorem c5_neighbour {c d : Nat} (hc : c < 25) (hd : d < 4) (μ : zMem) : fX5_neighbour (nI c) (nI d) μ = some (zN c d, μ) := by
  rw [← zn5_eq c hc d hd]
  unfold fX5_neighbour zn5
  repeat' split
  all_goals rfl
theorem zN_rng : ∀ c, c < 25 → ∀ d, d < 4 → zN c d = -1 ∨ ∃ e, e < 25 ∧ zN c d = nI e := by decide +kernel
/-- two cells lie side by side -/
def zbes (a b : Nat) : Bool := decide (zN a 0 = nI b) || decide (zN a 1 = nI b) || decide (zN a 2 = nI b) || decide (zN a 3 = nI b)
def zb6 (a0 a1 : Int32) : Int32 := if ((if 0 ≤ ((a0 / (5 : Int32)) - (a1 / (5 : Int32))) then ((a0 / (5 : Int32)) - (a1 / (5 : Int32))) else 0 - ((a0 / (5 : Int32)) - (a1 / (5 : Int32)))) + (if 0 ≤ ((a0 - a0 / (5 : Int32) * (5 : Int32)) - (a1 - a1 / (5 : Int32) * (5 : Int32))) then ((a0 - a0 / (5 : Int32) * (5 : Int32)) - (a1 - a1 / (5 : Int32) * (5 : Int32))) else 0 - ((a0 - a0 / (5 : Int32) * (5 : Int32)) - (a1 - a1 / (5 : Int32) * (5 : Int32))))) = (1 : Int32) then 1 else 0
theorem zb6_eq : ∀ a, a < 25 → ∀ b, b < 25 → zb6 (nI a) (nI b) = zb (zbes a b = true) := by decide +kernel
theorem c6_areBeside {a b : Nat} (ha : a < 25) (hb : b < 25) (μ : zMem) : fX6_areBeside (nI a) (nI b) μ = some (zb (zbes a b = true), μ) := by
  rw [← zb6_eq a ha b hb]
  unfold fX6_areBeside zb6
  repeat' split
  all_goals rfl
theorem zbes_sym : ∀ a, a < 25 → ∀ b, b < 25 → zbes a b = zbes b a := by decide +kernel
/-- the climb between two heights -/
def zcb (h : Nat → Int32) (a b : Nat) : Int32 := if 0 ≤ h a - h b then h a - h b else 0 - (h a - h b)
theorem zcb_nat {h : Nat → Int32} {a b p q : Nat} (ha : h a = nI p) (hb : h b = nI q) (hp : p ≤ 99) (hq : q ≤ 99) : zcb h a b = nI (p - q + (q - p)) := by
  unfold zcb
  rw [ha, hb]
  rcases Nat.lt_or_ge p q with w | w
  · have e : nI p - nI q = -nI (q - p) := by
      rw [← pk_sub (show p ≤ q by omega), Int32.neg_sub]
    rw [e]
    have e2 : ¬ (0 : Int32) ≤ -nI (q - p) := by
      intro k
      have := Int32.le_iff_toInt_le.mp k
      rw [Int32.toInt_neg, nI_toInt (by omega), Int.bmod_eq_of_le (by omega) (by omega), show (0 : Int32).toInt = 0 from rfl] at this
      omega
    rw [if_neg e2, Int32.zero_sub, Int32.neg_neg, show p - q + (q - p) = q - p by omega]
  · rw [pk_sub w, if_pos (nI_pos' (by omega)), show p - q + (q - p) = p - q by omega]
theorem c0_climb {c a b : Nat} (ha : a < 25) (hb : b < 25) (μ : zMem) : fX0_climbBetween c (nI a) (nI b) μ = some (zcb (μ (c + 1)) a b, μ) := by
  unfold fX0_climbBetween
  simp only [zgd_ib ha (show 25 < 2 ^ 31 by decide), zgd_ib hb (show 25 < 2 ^ 31 by decide), zcl (show a < 2 ^ 31 by omega), zcl (show b < 2 ^ 31 by omega)]
  rfl
theorem c0_isStep {c a b : Nat} (ha : a < 25) (hb : b < 25) (l : Int32) (μ : zMem) : fX0_isStep c (nI a) (nI b) l μ = some (zb (zbes a b = true ∧ ¬ l < zcb (μ (c + 1)) a b), μ) := by
  have step : ∀ d q, d < 4 → fX0_isStep_3 (q + 1) c (nI a) (nI b) l (nI d) μ = if zN a d = nI b then some (zb (¬ l < zcb (μ (c + 1)) a b), μ) else fX0_isStep_3 q c (nI a) (nI b) l (nI (d + 1)) μ := by
    intro d q hd
    rw [fX0_isStep_3, show (4 : Int32) = nI 4 from rfl, zle_f hd (by omega), c5_neighbour ha hd, zbd_s, c0_climb ha hb, zbd_s, n1]
    by_cases w : zN a d = nI b
    · rw [if_pos w, if_pos w]
      by_cases w2 : l < zcb (μ (c + 1)) a b
      · rw [if_pos w2, zb_f (fun q => q w2)]
      · rw [if_neg w2, zb_t w2]
    · rw [if_neg w, if_neg w]
  have last : fX0_isStep_3 196 c (nI a) (nI b) l (nI 4) μ = some (0, μ) := by
    rw [fX0_isStep_3, show (4 : Int32) = nI 4 from rfl, zle_t (by omega) (by omega)]
  unfold fX0_isStep
  show fX0_isStep_3 200 c (nI a) (nI b) l (nI 0) μ = _
  rw [step 0 199 (by omega), step 1 198 (by omega), step 2 197 (by omega), step 3 196 (by omega), last]
  unfold zbes
  by_cases w0 : zN a 0 = nI b
  · rw [if_pos w0]; simp [w0]
  by_cases w1 : zN a 1 = nI b
  · rw [if_neg w0, if_pos w1]; simp [w1]
  by_cases w2 : zN a 2 = nI b
  · rw [if_neg w0, if_neg w1, if_pos w2]; simp [w2]
  by_cases w3 : zN a 3 = nI b
  · rw [if_neg w0, if_neg w1, if_neg w2, if_pos w3]; simp [w3]
  · rw [if_neg w0, if_neg w1, if_neg w2, if_neg w3, zb_f]
    simp [w0, w1, w2, w3]
theorem c6_canStep {a b : Nat} (ha : a < 25) (hb : b < 25) (l : Int32) (μ : zMem) : fX6_canStep 66 (nI a) (nI b) l μ = some (zb (zbes a b = true ∧ ¬ l < zcb (fun i => μ 67 (4 + i)) a b), μ) := by
  unfold fX6_canStep
  rw [c6_areBeside ha hb, zbd_s]
  by_cases w : zbes a b = true
  · rw [zif_t w, show (4 : Int32) = nI 4 from rfl, nI_add, nI_add]
    simp only [zgd_ib (show 4 + a < 87 by omega) (show 87 < 2 ^ 31 by decide), zgd_ib (show 4 + b < 87 by omega) (show 87 < 2 ^ 31 by decide), zcl (show 4 + a < 2 ^ 31 by omega), zcl (show 4 + b < 2 ^ 31 by omega)]
    show (if l < zcb (fun i => μ 67 (4 + i)) a b then _ else _) = _
    by_cases w2 : l < zcb (fun i => μ 67 (4 + i)) a b
    · rw [if_pos w2, zb_f (fun q => q.2 w2)]
    · rw [if_neg w2, zb_t ⟨w, w2⟩]
  · rw [zif_f w, zb_f (fun q => w q.1)]
theorem zcb_sim {n c : Nat} {μ : zMem} {x : Nat → Int32} (h : zSim n c μ x) {a b : Nat} (ha : a < 25) (hb : b < 25) : zcb (μ (c + 1)) a b = zcb (fun i => x (4 + i)) a b := by
  unfold zcb
  rw [h.2.1 a ha, h.2.1 b hb]
theorem e38 : zE38 zInv := by
  intro a1 l μ hI
  rcases zlack hI a1 with ⟨k, hk, l5, l6⟩ | ⟨s, hs, rfl, l5, l6⟩
  · refine zfind hI k hk ?_ (fun μ' h => ?_)
    · unfold fX5_judge; rw [l5, zbd_s, if_neg (zk1 hk), zbd_eta]
    · unfold fX6_judge; rw [l6 μ' (h 74 (by omega) (by omega)), zbd_s, if_neg (zk2 hk), zbd_eta]
  · by_cases hl : 0 ≤ l ∧ l ≤ 99
    · obtain ⟨⟨n, hc⟩, -, -, -, hsh⟩ := id hI
      obtain ⟨⟨y1, y2⟩, ⟨m, hm, y3, y4⟩, y5⟩ := hsh s hs
      have key : ∀ mm i q, i + mm = m → mm < q → (i = 0 ∨ ∃ c, c < 25 ∧ μ 76 (40 * s + (i - 1)) = nI c) → ∃ r, fX5_judge_44 q 0 (nI s) l (59 + 2 * s) (nI i) μ = some (r, μ) ∧ fX6_judge_32 q 66 (nI s) l (nI i) μ = some (r, μ) := by
        intro mm
        induction mm with
        | zero =>
          intro i q hi hq _
          obtain ⟨q, rfl⟩ : ∃ z, q = z + 1 := ⟨q - 1, by omega⟩
          refine ⟨0, ?_, ?_⟩
          · rw [fX5_judge_44, zgd_ib hs (by decide), zcl (by omega), zadr, y3, zle_t (by omega) (by omega)]
          · rw [fX6_judge_32, zgd_ib hs (by decide), zcl (by omega), show 66 + 9 = 75 from rfl, y4, zle_t (by omega) (by omega)]
            unfold fX6_judge_60
            rw [zgd_ib hs (by decide), zcl (by omega), show 66 + 9 = 75 from rfl, y4, zeq_t (by omega)]
        | succ mm ih =>
          intro i q hi hq hp
          obtain ⟨q, rfl⟩ : ∃ z, q = z + 1 := ⟨q - 1, by omega⟩
          have s5 : fX5_judge_44 (q + 1) 0 (nI s) l (59 + 2 * s) (nI i) μ = if zb (0 ≤ μ 76 (40 * s + i) ∧ μ 76 (40 * s + i) ≤ 24) = 0 then some (nI (i + 1), μ) else if nI i ≤ 0 then fX5_judge_44 q 0 (nI s) l (59 + 2 * s) (nI (i + 1)) μ else zgd (zib (nI i - 1) 40) (zbd (fX0_isStep 1 (μ (59 + 2 * s) (nI i - 1).toNatClampNeg) (μ 76 (40 * s + i)) l μ) fun r18 m19 => if r18 = 0 then some (nI (i + 1), m19) else fX5_judge_44 q 0 (nI s) l (59 + 2 * s) (nI (i + 1)) m19) := by
            rw [fX5_judge_44, zgd_ib hs (by decide), zcl (by omega), zadr, y3, zle_f (by omega) (by omega)]
            simp only [zgd_ib (show i < 40 by omega) (show 40 < 2 ^ 31 by decide), zcl (show i < 2 ^ 31 by omega), n1, show (1 : Int32) + nI i = nI (1 + i) from nI_add 1 i, Nat.add_comm 1 i]
            rw [c5_isCell, zbd_s, y5 i (by omega)]
          have s6 : fX6_judge_32 (q + 1) 66 (nI s) l (nI i) μ = zbd (fX6_goesOn 66 (nI s) (nI i) l μ) fun r9 m10 => if r9 = 0 then fX6_judge_60 66 (nI s) (nI i) m10 else fX6_judge_32 q 66 (nI s) l (nI (i + 1)) m10 := by
            rw [fX6_judge_32, zgd_ib hs (by decide), zcl (by omega), show 66 + 9 = 75 from rfl, y4, zle_f (by omega) (by omega)]
            simp only [n1]
          have s7 : fX6_judge_60 66 (nI s) (nI i) μ = some (nI (i + 1), μ) := by
            unfold fX6_judge_60
            rw [zgd_ib hs (by decide), zcl (by omega), show 66 + 9 = 75 from rfl, y4, zeq_f (by omega) (by omega) (by omega), n1]
          have s8 : fX6_goesOn 66 (nI s) (nI i) l μ = if zb (0 ≤ μ 76 (40 * s + i) ∧ μ 76 (40 * s + i) ≤ 24) = 0 then some (0, μ) else if nI i = 0 then some (1, μ) else zgd (zib (nI (40 * s + i) - 1) 160) (zbd (fX6_canStep 66 (μ 76 (nI (40 * s + i) - 1).toNatClampNeg) (μ 76 (40 * s + i)) l μ) fun r7 m8 => if r7 = 0 then some (0, m8) else some (1, m8)) := by
            unfold fX6_goesOn
            rw [show (40 : Int32) = nI 40 from rfl, pk_mul, nI_add]
            simp only [zgd_ib (show 40 * s + i < 160 by omega) (show 160 < 2 ^ 31 by decide), zcl (show 40 * s + i < 2 ^ 31 by omega)]
            rw [c6_isCell, zbd_s]
          by_cases w : 0 ≤ μ 76 (40 * s + i) ∧ μ 76 (40 * s + i) ≤ 24
          · obtain ⟨b, hb, hbe⟩ := zrng (n := 24) rfl w
            obtain ⟨r, u5, u6⟩ := ih (i + 1) q (by omega) (by omega) (Or.inr ⟨b, by omega, by rw [show i + 1 - 1 = i by omega]; exact hbe⟩)
            rcases Nat.eq_zero_or_pos i with z | z
            · subst z
              refine ⟨r, ?_, ?_⟩
              · rw [s5, zif_t w, if_pos (by decide)]; exact u5
              · rw [s6, s8, zif_t w, if_pos (by rfl), zbd_s, if_neg (by decide)]; exact u6
            · obtain ⟨a, ha, hae⟩ : ∃ c, c < 25 ∧ μ 76 (40 * s + (i - 1)) = nI c := by
                rcases hp with hp | hp
                · omega
                · exact hp
              have t5 : fX0_isStep 1 (μ (59 + 2 * s) (nI i - 1).toNatClampNeg) (μ 76 (40 * s + i)) l μ = some (zb (zbes a b = true ∧ ¬ l < zcb (fun i => μ 67 (4 + i)) a b), μ) := by
                rw [show nI i - 1 = nI (i - 1) from zsub1 z, zcl (by omega), y5 _ (by omega), hae, hbe, c0_isStep ha (by omega), zcb_sim hc.2.1 ha (by omega)]
              have t6 : fX6_canStep 66 (μ 76 (nI (40 * s + i) - 1).toNatClampNeg) (μ 76 (40 * s + i)) l μ = some (zb (zbes a b = true ∧ ¬ l < zcb (fun i => μ 67 (4 + i)) a b), μ) := by
                rw [show nI (40 * s + i) - 1 = nI (40 * s + i - 1) from zsub1 (by omega), zcl (by omega), show 40 * s + i - 1 = 40 * s + (i - 1) by omega, hae, hbe, c6_canStep ha (by omega)]
              have g1 : zib (nI i - 1) 40 := by
                rw [show nI i - 1 = nI (i - 1) from zsub1 z]; exact vp_in_nI (by omega) (by decide)
              have g2 : zib (nI (40 * s + i) - 1) 160 := by
                rw [show nI (40 * s + i) - 1 = nI (40 * s + i - 1) from zsub1 (by omega)]; exact vp_in_nI (by omega) (by decide)
              rw [s5, zif_t w, if_neg (show ¬ nI i ≤ (0 : Int32) from nI_ge (a := 0) (b := i) z (by omega)), zgd_t g1, t5, zbd_s, s6, s8, zif_t w, if_neg (show ¬ nI i = (0 : Int32) from znl (b := 0) (by omega) (by omega) (by omega)), zgd_t g2, t6, zbd_s]
              by_cases w2 : zbes a b = true ∧ ¬ l < zcb (fun i => μ 67 (4 + i)) a b
              · refine ⟨r, ?_, ?_⟩
                · rw [zif_t w2]; exact u5
                · rw [zif_t w2, zbd_s, if_neg (by decide)]; exact u6
              · refine ⟨nI (i + 1), ?_, ?_⟩
                · rw [zif_f w2]
                · rw [zif_f w2, zbd_s, if_pos rfl]; exact s7
          · refine ⟨nI (i + 1), ?_, ?_⟩
            · rw [s5, zif_f w]
            · rw [s6, s8, zif_f w, zbd_s, if_pos rfl]; exact s7
      obtain ⟨r, u5, u6⟩ := key m 0 200 (by omega) (by omega) (Or.inl rfl)
      refine zE_of (r := r) (μ1 := μ) (μ2 := μ) ?_ ?_ hI
      · unfold fX5_judge
        rw [l5, zbd_s, if_pos rfl, c5_isMeasure, zbd_s, zif_t hl, zgd_ib hs (by decide), zcl (by omega), show 0 + 55 + 3 + 2 * s + 1 = 59 + 2 * s by omega]
        exact u5
      · unfold fX6_judge
        rw [l6 μ rfl, zbd_s, if_pos (by decide), c6_isHigh, zbd_s, zif_t hl]
        exact u6
    · refine zfind hI 0 (by decide) ?_ (fun μ' h => ?_)
      · unfold fX5_judge; rw [l5, zbd_s, if_pos rfl, c5_isMeasure, zbd_s, zif_f hl, zbd_eta]; rfl
      · unfold fX6_judge; rw [l6 μ' (h 74 (by omega) (by omega)), zbd_s, if_pos (by decide), c6_isHigh, zbd_s, zif_f hl, zbd_eta]; rfl
