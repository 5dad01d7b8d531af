/-! climb -/
def zch (H : Nat → Nat) (a b : Nat) : Nat := H a - H b + (H b - H a)
def zRe (H : Nat → Nat) (s L v : Nat) : Prop := ∀ S : Nat → Prop, S s → (∀ a b, a < 25 → b < 25 → S a → zbes a b = true → zch H a b ≤ L → S b) → S v
theorem zRe.mono {H : Nat → Nat} {s L L' v : Nat} (h : zRe H s L v) (hL : L ≤ L') : zRe H s L' v := fun S h1 h2 => h S h1 (fun a b ha hb sa e l => h2 a b ha hb sa e (by omega))
theorem zRe.step {H : Nat → Nat} {s L a b : Nat} (h : zRe H s L a) (ha : a < 25) (hb : b < 25) (e : zbes a b = true) (l : zch H a b ≤ L) : zRe H s L b := fun S h1 h2 => h2 a b ha hb (h S h1 h2) e l
theorem zed_nat {h : Nat → Int32} {H : Nat → Nat} (hH : ∀ i, i < 25 → H i ≤ 99 ∧ h i = nI (H i)) {L a b : Nat} (hL : L ≤ 99) (ha : a < 25) (hb : b < 25) : zed h (nI L) a b = true ↔ (zbes a b = true ∧ zch H a b ≤ L) := by
  unfold zed
  rw [decide_eq_true_iff, zcb_nat (hH a ha).2 (hH b hb).2 (hH a ha).1 (hH b hb).1]
  have h1 := (hH a ha).1
  have h2 := (hH b hb).1
  unfold zch
  refine and_congr_right fun _ => ⟨fun z => ?_, fun z => nI_nlt z (by omega)⟩
  rcases Nat.lt_or_ge L (H a - H b + (H b - H a)) with w | w
  · exact absurd (nI_lt w (by omega)) z
  · exact w
theorem zrt_24 {E : Nat → Nat → Bool} {s : Nat} {d : Nat → Int32} (h : zrt E s d) {v k : Nat} (hv : v < 25) (hk : k ≤ 25) (e : d v = nI k) : k < 25 := by
  have ex : ∀ m j, j + m = k → ∃ u, u < 25 ∧ d u = nI j := by
    intro m
    induction m with
    | zero => intro j hj; exact ⟨v, hv, by rw [e]; congr 1; omega⟩
    | succ m ih =>
      intro j hj
      obtain ⟨u, hu, eu⟩ := ih (j + 1) (by omega)
      obtain ⟨w, hw, ew, -⟩ := h.2.2.2.1 u j hu (by omega) eu
      exact ⟨w, hw, ew⟩
  have ex' : ∀ j, ∃ u, j ≤ k → u < 25 ∧ d u = nI j := fun j => by
    by_cases w : j ≤ k
    · obtain ⟨u, hu, eu⟩ := ex (k - j) j (by omega)
      exact ⟨u, fun _ => ⟨hu, eu⟩⟩
    · exact ⟨0, fun z => absurd z w⟩
  have := zpig 25 (k + 1) (fun j => Classical.choose (ex' j)) (fun j hj => (Classical.choose_spec (ex' j) (by omega)).1) (fun i j hi hj q => by
    have a := (Classical.choose_spec (ex' i) (by omega)).2
    have b := (Classical.choose_spec (ex' j) (by omega)).2
    have q' : Classical.choose (ex' i) = Classical.choose (ex' j) := q
    rw [q', b] at a
    have := (nI_eq (by omega) (by omega)).1 a
    omega)
  omega
theorem zrt_Re {h : Nat → Int32} {H : Nat → Nat} (hH : ∀ i, i < 25 → H i ≤ 99 ∧ h i = nI (H i)) {L s : Nat} (hL : L ≤ 99) (hs : s < 25) {d : Nat → Int32} (hd : zrt (zed h (nI L)) s d) {v : Nat} (hv : v < 25) : d v ≠ -1 ↔ zRe H s L v := by
  constructor
  · intro hne
    have go : ∀ k, k ≤ 25 → ∀ v, v < 25 → d v = nI k → zRe H s L v := by
      intro k
      induction k with
      | zero =>
        intro _ v hv e
        rw [hd.2.2.1 v hv e]; exact fun S h1 _ => h1
      | succ k ih =>
        intro hk v hv e
        obtain ⟨u, hu, eu, ee⟩ := hd.2.2.2.1 v k hv (by omega) e
        have := (zed_nat hH hL hu hv).1 ee
        exact (ih (by omega) u hu eu).step hu hv this.1 this.2
    rcases hd.1 v hv with e | ⟨k, hk, e⟩
    · exact absurd e hne
    · exact go k hk v hv e
  · intro hr
    refine hr (fun v => d v ≠ -1) ?_ (fun a b ha hb sa e l => ?_)
    · show d s ≠ -1
      rw [hd.2.1]; exact zne1 (by omega)
    · rcases hd.1 a ha with q | ⟨k, hk, q⟩
      · exact absurd q sa
      · obtain ⟨j, hj, ej⟩ := hd.2.2.2.2 a b k ha hb (zrt_24 hd ha hk q) q ((zed_nat hH hL ha hb).2 ⟨e, l⟩)
        show d b ≠ -1
        rw [ej]; exact zne1 (by omega)
theorem zb1 : ∀ a, a < 25 → a % 5 ≠ 0 → zbes a (a - 1) = true := by decide +kernel
theorem zb5 : ∀ a, a < 25 → 5 ≤ a → zbes a (a - 5) = true := by decide +kernel
theorem zRe99 {H : Nat → Nat} (hH : ∀ i, i < 25 → H i ≤ 99) {s v : Nat} (hs : s < 25) (hv : v < 25) : zRe H s 99 v := by
  intro S h1 h2
  have st : ∀ a b, a < 25 → b < 25 → S a → zbes a b = true → S b := fun a b ha hb sa e => h2 a b ha hb sa e (by
    have := hH a ha
    have := hH b hb
    unfold zch; omega)
  have dn : ∀ m a, a ≤ m → a < 25 → S a → S 0 := by
    intro m
    induction m with
    | zero => intro a h _ sa; obtain rfl : a = 0 := by omega
              exact sa
    | succ m ih =>
      intro a h ha sa
      by_cases w : a % 5 ≠ 0
      · exact ih (a - 1) (by omega) (by omega) (st a (a - 1) ha (by omega) sa (zb1 a ha w))
      · by_cases w2 : 5 ≤ a
        · exact ih (a - 5) (by omega) (by omega) (st a (a - 5) ha (by omega) sa (zb5 a ha w2))
        · obtain rfl : a = 0 := by omega
          exact sa
  have up : ∀ m a, a ≤ m → a < 25 → S 0 → S a := by
    intro m
    induction m with
    | zero => intro a h _ sa; obtain rfl : a = 0 := by omega
              exact sa
    | succ m ih =>
      intro a h ha sa
      by_cases w : a % 5 ≠ 0
      · exact st (a - 1) a (by omega) ha (ih (a - 1) (by omega) (by omega) sa) (by rw [zbes_sym (a - 1) (by omega) a ha]; exact zb1 a ha w)
      · by_cases w2 : 5 ≤ a
        · exact st (a - 5) a (by omega) ha (ih (a - 5) (by omega) (by omega) sa) (by rw [zbes_sym (a - 5) (by omega) a ha]; exact zb5 a ha w2)
        · obtain rfl : a = 0 := by omega
          exact sa
  exact up v v (by omega) hv (dn s s (by omega) hs h1)
/-- needs K, settled Z; the cell u is just being looked at from, t of its directions done -/
def zci (H : Nat → Nat) (s u t : Nat) (K : Nat → Nat) (Z : Nat → Bool) : Prop :=
  K s = 0 ∧ (∀ v, v < 25 → K v ≤ 99 ∧ zRe H s (K v) v) ∧
  (∀ w v, w < 25 → v < 25 → Z w = true → Z v = false → zbes w v = true → (w ≠ u ∨ ∃ r, r < t ∧ zN u r = nI v) → K v ≤ K w ∨ K v ≤ zch H w v) ∧
  ∀ w l, w < 25 → Z w = true → l < K w → ¬ zRe H s l w
theorem zci.any {H : Nat → Nat} {s u : Nat} {K : Nat → Nat} {Z : Nat → Bool} (h : zci H s u 4 K Z) : ∀ w v, w < 25 → v < 25 → Z w = true → Z v = false → zbes w v = true → K v ≤ K w ∨ K v ≤ zch H w v := by
  intro w v hw hv zw zv e
  refine h.2.2.1 w v hw hv zw zv e ?_
  by_cases q : w = u
  · subst q; exact Or.inr ((zbes_iff w v).1 e)
  · exact Or.inl q
theorem zci.settle {H : Nat → Nat} {s u' u : Nat} {K : Nat → Nat} {Z : Nat → Bool} (hs : s < 25) (h : zci H s u' 4 K Z) (hu : u < 25) (zu : Z u = false) (hm : ∀ v, v < 25 → Z v = false → K u ≤ K v) : zci H s u 0 K (fun i => Z i || decide (i = u)) := by
  have hB := h.any
  obtain ⟨h1, h2, -, h4⟩ := h
  refine ⟨h1, h2, fun w v hw hv zw zv e hq => ?_, fun w l hw zw hl hr => ?_⟩
  · rcases hq with q | ⟨r, hr, -⟩
    · have zw' : Z w = true := by
        have zw2 : (Z w || decide (w = u)) = true := zw
        rw [decide_eq_false q, Bool.or_false] at zw2; exact zw2
      exact hB w v hw hv zw' (Bool.or_eq_false_iff.1 zv).1 e
    · omega
  · by_cases q : w = u
    · subst q
      by_cases zs : Z s = true
      · have := hr (fun x => x < 25 ∧ Z x = true ∧ K x ≤ l) ⟨hs, zs, by omega⟩ (fun a b ha hb sa e le => by
          refine ⟨hb, ?_⟩
          cases zb' : Z b with
          | true =>
            refine ⟨rfl, ?_⟩
            rcases Nat.lt_or_ge l (K b) with z | z
            · exact absurd ((((h2 a ha).2).mono sa.2.2).step ha hb e le) (h4 b l hb zb' z)
            · exact z
          | false =>
            have a1 := hm b hb zb'
            have a2 := sa.2.2
            rcases hB a b ha hb sa.2.1 zb' e with z | z <;> omega)
        rw [zu] at this
        exact absurd this.2.1 (by decide)
      · have := hm s hs (by cases z : Z s with | true => exact absurd z zs | false => rfl)
        omega
    · have zw' : Z w = true := by
        have zw2 : (Z w || decide (w = u)) = true := zw
        rw [decide_eq_false q, Bool.or_false] at zw2; exact zw2
      exact h4 w l hw zw' hl hr
theorem zci.skip {H : Nat → Nat} {s u t : Nat} {K : Nat → Nat} {Z : Nat → Bool} (h : zci H s u t K Z) (hx : ∀ v, v < 25 → zN u t = nI v → Z v = true) : zci H s u (t + 1) K Z := by
  obtain ⟨h1, h2, h3, h4⟩ := h
  refine ⟨h1, h2, fun w v hw hv zw zv e hq => ?_, h4⟩
  refine h3 w v hw hv zw zv e ?_
  rcases hq with q | ⟨r, hr, q⟩
  · exact Or.inl q
  · by_cases z : r = t
    · subst z
      have := hx v hv q
      rw [zv] at this
      exact absurd this (by decide)
    · exact Or.inr ⟨r, by omega, q⟩
theorem zci.relax {H : Nat → Nat} {s u t e : Nat} {K : Nat → Nat} {Z : Nat → Bool} (h : zci H s u t K Z) (hu : u < 25) (he : e < 25) (hz : zN u t = nI e) (hb : zbes u e = true) (ze : Z e = false) (hc : zch H u e ≤ 99) {M : Nat} (hM : M = if K u < zch H u e then zch H u e else K u) : zci H s u (t + 1) (fun v => if v = e then (if M < K e then M else K e) else K v) Z := by
  obtain ⟨h1, h2, h3, h4⟩ := h
  have m1 : K u ≤ M := by rw [hM]; split <;> omega
  have m2 : zch H u e ≤ M := by rw [hM]; split <;> omega
  have m3 : M ≤ 99 := by have := (h2 u hu).1; rw [hM]; split <;> omega
  have m4 : M ≤ K u ∨ M ≤ zch H u e := by rw [hM]; split <;> omega
  have low : ∀ v, (fun v => if v = e then (if M < K e then M else K e) else K v) v ≤ K v := by
    intro v
    by_cases w : v = e
    · simp only [if_pos w]; rw [w]; split <;> omega
    · simp only [if_neg w]; exact Nat.le_refl _
  have same : ∀ v, Z v = true → (fun v => if v = e then (if M < K e then M else K e) else K v) v = K v := by
    intro v zv
    refine if_neg (fun q => ?_)
    rw [q, ze] at zv
    exact absurd zv (by decide)
  refine ⟨?_, fun v hv => ?_, fun w v hw hv zw zv ee hq => ?_, fun w l hw zw hl hr => ?_⟩
  · have := low s; omega
  · by_cases w : v = e
    · subst w
      simp only [if_pos]
      by_cases q : M < K v
      · rw [if_pos q]
        exact ⟨m3, (((h2 u hu).2).mono m1).step hu hv hb m2⟩
      · rw [if_neg q]; exact h2 v hv
    · simp only [if_neg w]; exact h2 v hv
  · rw [same w zw]
    have lv := low v
    by_cases q : w = u ∧ v = e
    · obtain ⟨rfl, rfl⟩ := q
      have : (fun x => if x = v then (if M < K v then M else K v) else K x) v ≤ M := by
        simp only [if_pos]; split <;> omega
      omega
    · have := h3 w v hw hv zw zv ee (by
        rcases hq with q1 | ⟨r, hr, q1⟩
        · exact Or.inl q1
        · by_cases z : r = t
          · subst z
            have : e = v := (nI_eq (by omega) (by omega)).1 (hz.symm.trans q1)
            exact Or.inl (fun y => q ⟨y, this.symm⟩)
          · exact Or.inr ⟨r, by omega, q1⟩)
      omega
  · rw [same w zw] at hl
    exact h4 w l hw zw hl hr
/-- the rows hold them -/
def zcr (K : Nat → Nat) (Z : Nat → Bool) (μ : zMem) : Prop := (∀ v, v < 25 → μ 52 v = nI (K v)) ∧ ∀ v, v < 25 → (μ 49 3).toBitVec.getLsbD v = Z v
theorem c1_settled {c : Nat} (hc : c < 25) {K : Nat → Nat} {Z : Nat → Bool} {μ : zMem} (h : zcr K Z μ) : fX1_isSettled 49 (nI c) μ = some (zb (Z c = true), μ) := by
  unfold fX1_isSettled
  rw [zspr _ c hc]
  have e := zbs hc (μ 49 3)
  rw [h.2 c hc] at e
  cases z : Z c with
  | false =>
    rw [e.2 z, if_neg (by decide), zb_f (by decide)]
  | true =>
    rcases zbit01 (μ 49 3 >>> (nI c &&& 31)) with q | q
    · have := e.1 q; rw [z] at this; exact absurd this (by decide)
    · rw [q, if_pos rfl, zb_t rfl]
theorem c1_easiest {K : Nat → Nat} {Z : Nat → Bool} {μ : zMem} (hK : ∀ v, v < 25 → K v ≤ 99) (h : zcr K Z μ) : ∃ u, u < 25 ∧ fX1_easiest 49 μ = some (nI u, μ) ∧ ∀ v, v < 25 → Z v = false → Z u = false ∧ K u ≤ K v := by
  have key : ∀ m i q a, i + m = 25 → m < q → a < 25 → (∀ v, v < i → Z v = false → Z a = false ∧ K a ≤ K v) → ∃ u, u < 25 ∧ fX1_easiest_4 q 49 (nI a) (nI i) μ = some (nI u, μ) ∧ ∀ v, v < 25 → Z v = false → Z u = false ∧ K u ≤ K v := by
    intro m
    induction m with
    | zero =>
      intro i q a hi hq ha hv
      obtain ⟨q, rfl⟩ : ∃ z, q = z + 1 := ⟨q - 1, by omega⟩
      exact ⟨a, ha, by rw [fX1_easiest_4, show (25 : Int32) = nI 25 from rfl, zle_t (by omega) (by omega)], fun v hv' => hv v (by omega)⟩
    | succ m ih =>
      intro i q a hi hq ha hv
      obtain ⟨q, rfl⟩ : ∃ z, q = z + 1 := ⟨q - 1, by omega⟩
      rw [fX1_easiest_4, show (25 : Int32) = nI 25 from rfl, zle_f (by omega) (by omega), c1_settled (show i < 25 by omega) h, zbd_s, n1]
      have k1 := hK i (by omega)
      have k2 := hK a ha
      cases zi : Z i with
      | true =>
        rw [zif_t rfl]
        refine ih (i + 1) q a (by omega) (by omega) ha (fun v hv' zv => ?_)
        by_cases w : v = i
        · rw [w, zi] at zv; exact absurd zv (by decide)
        · exact hv v (by omega) zv
      | false =>
        rw [zif_f (by decide), c1_settled ha h, zbd_s]
        cases za : Z a with
        | true =>
          rw [zif_t rfl]
          refine ih (i + 1) q i (by omega) (by omega) (by omega) (fun v hv' zv => ?_)
          by_cases w : v = i
          · rw [w]; exact ⟨zi, Nat.le_refl _⟩
          · have := (hv v (by omega) zv).1; rw [za] at this; exact absurd this (by decide)
        | false =>
          rw [zif_f (by decide), zgd_ib (by omega) (by decide), zgd_ib ha (by decide), zcl (by omega), zcl (by omega), show μ (49 + 3) a = nI (K a) from h.1 a ha, show μ (49 + 3) i = nI (K i) from h.1 i (by omega)]
          by_cases le : K a ≤ K i
          · rw [zle_t le (by omega)]
            refine ih (i + 1) q a (by omega) (by omega) ha (fun v hv' zv => ?_)
            by_cases w : v = i
            · rw [w]; exact ⟨za, le⟩
            · exact hv v (by omega) zv
          · rw [zle_f (by omega) (by omega)]
            refine ih (i + 1) q i (by omega) (by omega) (by omega) (fun v hv' zv => ?_)
            by_cases w : v = i
            · rw [w]; exact ⟨zi, Nat.le_refl _⟩
            · have := (hv v (by omega) zv).2; exact ⟨zi, by omega⟩
  exact key 24 1 200 0 (by omega) (by omega) (by omega) (fun v hv zv => by
    obtain rfl : v = 0 := by omega
    exact ⟨zv, Nat.le_refl _⟩)
theorem zcl61 {K24 : Nat → Nat → Int32 → Int32 → zMem → Option (Int32 × zMem)} {H : Nat → Nat} {s u j : Nat} {a3 : Int32} {Z : Nat → Bool} {μ0 : zMem} {P : Option (Int32 × zMem) → Prop} (hu : u < 25) (hH : ∀ i, i < 25 → H i ≤ 99 ∧ μ0 2 i = nI (H i))
    (hK : ∀ (K : Nat → Nat) (μ' : zMem), (∀ j, j ≠ 49 → j ≠ 52 → μ' j = μ0 j) → zcr K Z μ' → zci H s u 4 K Z → P (K24 49 1 a3 (nI (j + 1)) μ')) :
    ∀ m t q, t + m = 4 → m < q → ∀ (K : Nat → Nat) (μ : zMem), (∀ j, j ≠ 49 → j ≠ 52 → μ j = μ0 j) → zcr K Z μ → zci H s u t K Z → P (fX1_leastClimb_61 K24 q 49 1 a3 (nI j) (nI u) (nI t) μ) := by
  intro m
  induction m with
  | zero =>
    intro t q ht hq K μ hf hr hi
    obtain ⟨q, rfl⟩ : ∃ z, q = z + 1 := ⟨q - 1, by omega⟩
    obtain rfl : t = 4 := by omega
    rw [fX1_leastClimb_61, show (4 : Int32) = nI 4 from rfl, zle_t (by omega) (by omega), n1]
    exact hK K μ hf hr hi
  | succ m ih =>
    intro t q ht hq K μ hf hr hi
    obtain ⟨q, rfl⟩ : ∃ z, q = z + 1 := ⟨q - 1, by omega⟩
    rw [fX1_leastClimb_61, show (4 : Int32) = nI 4 from rfl, zle_f (by omega) (by omega), c5_neighbour hu (by omega), zbd_s, n1]
    rcases zN_rng u hu t (by omega) with hz | ⟨e, he, hz⟩
    · rw [hz, if_pos rfl]
      exact ih (t + 1) q (by omega) (by omega) K μ hf hr (hi.skip (fun v hv q1 => absurd (q1.symm.trans hz) (zne1 (by omega))))
    · rw [hz, zneg1, zeq1_f (by omega), c1_settled he hr, zbd_s]
      cases ze : Z e with
      | true =>
        rw [zif_t rfl]
        refine ih (t + 1) q (by omega) (by omega) K μ hf hr (hi.skip (fun v hv q1 => ?_))
        have : e = v := (nI_eq (by omega) (by omega)).1 (hz.symm.trans q1)
        rw [← this]; exact ze
      | false =>
        have hb : zbes u e = true := (zbes_iff u e).2 ⟨t, by omega, hz⟩
        have b1 := (hH u hu).1
        have b2 := (hH e he).1
        have hc : zch H u e ≤ 99 := by unfold zch; omega
        have k1 := (hi.2.1 u hu).1
        have k2 := (hi.2.1 e he).1
        have e2 : zcb (μ (1 + 1)) u e = nI (zch H u e) := by
          rw [show (1 + 1 : Nat) = 2 from rfl, hf 2 (by omega) (by omega)]
          exact zcb_nat (hH u hu).2 (hH e he).2 b1 b2
        rw [zif_f (by decide), zgd_ib hu (by decide), c0_climb hu he, zbd_s, e2]
        simp only [zgd_ib he (show 25 < 2 ^ 31 by decide), zcl (show u < 2 ^ 31 by omega), zcl (show e < 2 ^ 31 by omega)]
        rw [show μ (49 + 3) u = nI (K u) from hr.1 u hu, show μ (49 + 3) e = nI (K e) from hr.1 e he, zmx (by omega) (by omega)]
        have e3 : ∀ A B : Nat, A < 2 ^ 31 → B < 2 ^ 31 → (if nI A < nI B then nI A else nI B) = nI (if A < B then A else B) := by
          intro A B hA hB
          by_cases w : A < B
          · rw [zlt_t w hB, if_pos w]
          · rw [zlt_f (by omega) hA, if_neg w]
        rw [e3 _ _ (by split <;> omega) (by omega)]
        refine ih (t + 1) q (by omega) (by omega) _ _ (fun j h1 h2 => by rw [zst_row_ne h2, hf j h1 h2]) ?_ (hi.relax hu he hz hb ze hc rfl)
        refine ⟨fun v hv => ?_, fun v hv => ?_⟩
        · by_cases w : v = e
          · rw [w]; simp only [if_pos]; exact zst_eq _ _ _ _
          · simp only [if_neg w]
            rw [show (52 : Nat) = 49 + 3 from rfl, zst_ne w]; exact hr.1 v hv
        · rw [zst_row_ne (by decide)]; exact hr.2 v hv
theorem c1_climb {H : Nat → Nat} {s v : Nat} (hs : s < 25) (hv : v < 25) {μ : zMem} (hH : ∀ i, i < 25 → H i ≤ 99 ∧ μ 2 i = nI (H i)) : ∃ k μ', k ≤ 99 ∧ fX1_leastClimb 49 1 (nI s) (nI v) μ = some (nI k, μ') ∧ (∀ j, j ≠ 49 → j ≠ 52 → μ' j = μ j) ∧ zRe H s k v ∧ ∀ l, l < k → ¬ zRe H s l v := by
  have key : ∀ m j q, j + m = 25 → m < q → ∀ (N K : Nat → Nat) (Z : Nat → Bool) (u' : Nat) (ν : zMem), (∀ j, j ≠ 49 → j ≠ 52 → ν j = μ j) → (∀ i, i < j → N i < 25 ∧ Z (N i) = true) → (∀ i k, i < k → k < j → N i ≠ N k) → zcr K Z ν → zci H s u' 4 K Z → ∃ k μ', k ≤ 99 ∧ fX1_leastClimb_24 q 49 1 (nI v) (nI j) ν = some (nI k, μ') ∧ (∀ j, j ≠ 49 → j ≠ 52 → μ' j = μ j) ∧ zRe H s k v ∧ ∀ l, l < k → ¬ zRe H s l v := by
    intro m
    induction m with
    | zero =>
      intro j q hj hq N K Z u' ν hf hN1 hN2 hr hi
      obtain ⟨q, rfl⟩ : ∃ z, q = z + 1 := ⟨q - 1, by omega⟩
      have zv : Z v = true := by
        cases zv : Z v with
        | true => rfl
        | false =>
          have ne : ∀ i, i < j → N i ≠ v := fun i hi' q1 => by
            have := (hN1 i hi').2; rw [q1, zv] at this; exact absurd this (by decide)
          have := zpig 25 (j + 1) (fun i => if i = j then v else N i) (fun i hi' => by
            by_cases w : i = j
            · simp only [if_pos w]; exact hv
            · simp only [if_neg w]; exact (hN1 i (by omega)).1) (fun i k h1 h2 => by
            simp only [if_neg (show ¬ i = j by omega)]
            by_cases w : k = j
            · simp only [if_pos w]; exact ne i (by omega)
            · simp only [if_neg w]; exact hN2 i k h1 (by omega))
          omega
      refine ⟨K v, ν, (hi.2.1 v hv).1, ?_, hf, (hi.2.1 v hv).2, fun l hl => hi.2.2.2 v l hv zv hl⟩
      rw [fX1_leastClimb_24, show (25 : Int32) = nI 25 from rfl, zle_t (by omega) (by omega), zgd_ib hv (by decide), zcl (by omega), show ν (49 + 3) v = nI (K v) from hr.1 v hv]
    | succ m ih =>
      intro j q hj hq N K Z u' ν hf hN1 hN2 hr hi
      obtain ⟨q, rfl⟩ : ∃ z, q = z + 1 := ⟨q - 1, by omega⟩
      rw [fX1_leastClimb_24, show (25 : Int32) = nI 25 from rfl, zle_f (by omega) (by omega), c1_settled hv hr, zbd_s]
      cases zv : Z v with
      | true =>
        refine ⟨K v, ν, (hi.2.1 v hv).1, ?_, hf, (hi.2.1 v hv).2, fun l hl => hi.2.2.2 v l hv zv hl⟩
        rw [zif_t rfl, zgd_ib hv (by decide), zcl (by omega), show ν (49 + 3) v = nI (K v) from hr.1 v hv]
      | false =>
        obtain ⟨u, hu, c1, c2⟩ := c1_easiest (fun v hv => (hi.2.1 v hv).1) hr
        have zu := (c2 v hv zv).1
        have hset := hi.settle hs hu zu (fun w hw zw => (c2 w hw zw).2)
        rw [zif_f (by decide), c1, zbd_s]
        have ne : ∀ i, i < j → N i ≠ u := fun i hi' q1 => by
          have := (hN1 i hi').2; rw [q1, zu] at this; exact absurd this (by decide)
        refine zcl61 (P := fun o => ∃ k μ', k ≤ 99 ∧ o = some (nI k, μ') ∧ (∀ j, j ≠ 49 → j ≠ 52 → μ' j = μ j) ∧ zRe H s k v ∧ ∀ l, l < k → ¬ zRe H s l v) hu hH (fun K' μ' f' r' i' => ?_) 4 0 200 (by omega) (by omega) K _ (fun j h1 h2 => by rw [zst_row_ne h1, hf j h1 h2]) ?_ hset
        · refine ih (j + 1) q (by omega) (by omega) (fun i => if i = j then u else N i) K' _ u μ' f' (fun i hi' => ?_) (fun i k h1 h2 => ?_) r' i'
          · by_cases w : i = j
            · simp only [if_pos w]; exact ⟨hu, by simp⟩
            · simp only [if_neg w]
              have := hN1 i (by omega)
              exact ⟨this.1, by rw [this.2]; rfl⟩
          · simp only [if_neg (show ¬ i = j by omega)]
            by_cases w : k = j
            · simp only [if_pos w]; exact ne i (by omega)
            · simp only [if_neg w]; exact hN2 i k h1 (by omega)
        · refine ⟨fun w hw => by rw [zst_row_ne (by decide)]; exact hr.1 w hw, fun w hw => ?_⟩
          rw [zst_eq, Int32.toBitVec_or, BitVec.getLsbD_or, hr.2 w hw, ztwo u hu w (by omega)]
  obtain ⟨μ1, f1, f2, f3⟩ := c_fill (k := 52) (len := 25) 99 rfl (by decide) μ
  unfold fX1_leastClimb
  rw [show 49 + 3 = 52 from rfl, f1, zbd_s, zgd_ib hs (by decide), zcl (by omega)]
  refine key 25 0 200 (by omega) (by omega) (fun _ => 0) (fun w => if w = s then 0 else 99) (fun _ => false) 0 _ (fun j h1 h2 => by rw [zst_row_ne h1, zst_row_ne h2, f2 j h2]) (fun i hi => by omega) (fun i k h1 h2 => by omega) ?_ ?_
  · refine ⟨fun w hw => ?_, fun w hw => ?_⟩
    · rw [zst_row_ne (by decide)]
      by_cases z : w = s
      · simp only [if_pos z]; rw [z, zst_eq]; rfl
      · simp only [if_neg z]; rw [zst_ne z, f3 w, if_pos hw]; rfl
    · rw [zst_eq]; exact BitVec.getLsbD_zero
  · refine ⟨if_pos rfl, fun w hw => ?_, fun w x _ _ zw => absurd (show false = true from zw) (by decide), fun w l _ zw => absurd (show false = true from zw) (by decide)⟩
    by_cases z : w = s
    · simp only [if_pos z]; rw [z]; exact ⟨by omega, fun S h1 _ => h1⟩
    · simp only [if_neg z]; exact ⟨by omega, zRe99 (fun i hi => (hH i hi).1) hs hw⟩
theorem e10 : zE10 zInv := by
  intro a1 a2 μ hI
  obtain ⟨⟨n, hc⟩, -⟩ := id hI
  have h3 : (0 : Int32) ≤ 0 ∧ (0 : Int32) ≤ 99 := by decide
  by_cases h1 : 0 ≤ a1 ∧ a1 ≤ 24
  · by_cases h2 : 0 ≤ a2 ∧ a2 ≤ 24
    · obtain ⟨s, hs, rfl⟩ := zrng (n := 24) rfl h1
      obtain ⟨v, hv, rfl⟩ := zrng (n := 24) rfl h2
      obtain ⟨H, hH⟩ := zhts hc.1
      refine ztry hI (fun μ2 h => ?_)
      have e67 := zz67 h
      obtain ⟨k, x1, hk, c1, c2, c3, c4⟩ := c1_climb (s := s) (v := v) (H := H) (μ := μ) (by omega) (by omega) (fun i hi => ⟨(hH i hi).1, (hc.2.1.2.1 i hi).trans (hH i hi).2⟩)
      have key : ∀ m l q, l + m = k → m < q → ∀ ν : zMem, (∀ j, j ≠ 71 → ν j = μ2 j) → ∃ ν' : zMem, (∀ j, j ≠ 71 → ν' j = μ2 j) ∧ fX6_climb_17 q 66 (nI s) (nI v) (nI l - 1) ν = some (nI k, ν') := by
        intro m
        induction m with
        | zero =>
          intro l q hl hq ν f
          obtain ⟨q, rfl⟩ : ∃ z, q = z + 1 := ⟨q - 1, by omega⟩
          obtain rfl : l = k := by omega
          obtain ⟨ν', d1, d2, d3⟩ := c6_walk (s := s) (by omega) (nI l) ν
          refine ⟨ν', fun j hj => (d2 j hj).trans (f j hj), ?_⟩
          have d4 := (zrt_Re (H := H) (fun i hi => by rw [f 67 (by decide), e67]; exact hH i hi) hk (by omega) d3 (show v < 25 by omega)).2 c3
          rw [fX6_climb_17, Int32.sub_add_cancel, d1, zbd_s, zgd_ib (by omega) (by decide), zcl (by omega)]
          rcases d3.1 v (by omega) with w | ⟨i, hi, w⟩
          · exact absurd w d4
          · rw [show ν' (66 + 5) v = nI i from w, if_neg (Int32.not_lt.mpr (nI_pos' (by omega)))]
        | succ m ih =>
          intro l q hl hq ν f
          obtain ⟨q, rfl⟩ : ∃ z, q = z + 1 := ⟨q - 1, by omega⟩
          obtain ⟨ν', d1, d2, d3⟩ := c6_walk (s := s) (by omega) (nI l) ν
          obtain ⟨y, g1, g2⟩ := ih (l + 1) q (by omega) (by omega) ν' (fun j hj => (d2 j hj).trans (f j hj))
          refine ⟨y, g1, ?_⟩
          have d4 := (zrt_Re (H := H) (L := l) (fun i hi => by rw [f 67 (by decide), e67]; exact hH i hi) (by omega) (by omega) d3 (show v < 25 by omega)).1
          rw [fX6_climb_17, Int32.sub_add_cancel, d1, zbd_s, zgd_ib (by omega) (by decide), zcl (by omega)]
          have w : ν' 71 v = -1 := Decidable.byContradiction fun z => c4 l (by omega) (d4 z)
          rw [show ν' (66 + 5) v = -1 from w, if_pos (by decide), ← g2, show nI (l + 1) - 1 = nI l from zsub1 (by omega)]
      obtain ⟨y, g1, g2⟩ := key k 0 200 (by omega) (by omega) μ2 (fun _ _ => rfl)
      refine ⟨x1, y, fun j q1 _ => c2 j (by unfold zscr at q1; omega) (by unfold zscr at q1; omega), zfr2 g1, Or.inl ⟨nI k, ?_, ?_⟩⟩
      · unfold fX5_climb
        rw [c5_isCell, zbd_s, zif_t h1, c5_isCell, zbd_s, zif_t h2, show 0 + 49 = 49 from rfl, show 0 + 1 = 1 from rfl, c1, zbd_s]
      · unfold fX6_climb
        rw [c6_areWay, zbd_s, zif_t ⟨h1, h2, h3⟩]
        exact g2
    · refine zfind hI 0 (by decide) ?_ (fun μ' h => ?_)
      · unfold fX5_climb; rw [c5_isCell, zbd_s, zif_t h1, c5_isCell, zbd_s, zif_f h2, zbd_eta]; rfl
      · unfold fX6_climb; rw [c6_areWay, zbd_s, zif_f (fun z => h2 z.2.1), zbd_eta]; rfl
  · refine zfind hI 0 (by decide) ?_ (fun μ' h => ?_)
    · unfold fX5_climb; rw [c5_isCell, zbd_s, zif_f h1, zbd_eta]; rfl
    · unfold fX6_climb; rw [c6_areWay, zbd_s, zif_f (fun z => h1 z.1), zbd_eta]; rfl
