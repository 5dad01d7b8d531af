/-! the class's roam: breadth first, with a queue -/
theorem zpig : ∀ n L (N : Nat → Nat), (∀ j, j < L → N j < n) → (∀ j k, j < k → k < L → N j ≠ N k) → L ≤ n := by
  intro n
  induction n with
  | zero =>
    intro L N h1 h2
    rcases Nat.eq_zero_or_pos L with w | w
    · omega
    · exact absurd (h1 0 w) (by omega)
  | succ n ih =>
    intro L N h1 h2
    rcases Nat.eq_zero_or_pos L with w | w
    · omega
    · have nl : ∀ j, j < L - 1 → N j ≠ N (L - 1) := fun j hj => h2 j (L - 1) hj (by omega)
      have := ih (L - 1) (fun j => if N j = n then N (L - 1) else N j) (fun j hj => ?_) (fun j k hj hk => ?_)
      · omega
      · have a1 := h1 j (by omega)
        have a2 := h1 (L - 1) (by omega)
        have a3 := nl j hj
        by_cases e : N j = n
        · simp only [if_pos e]; omega
        · simp only [if_neg e]; omega
      · have a3 := nl j (by omega)
        have a4 := nl k (by omega)
        have a5 := h2 j k hj (by omega)
        by_cases e : N j = n
        · by_cases e' : N k = n
          · omega
          · simp only [if_pos e, if_neg e']; omega
        · by_cases e' : N k = n
          · simp only [if_neg e, if_pos e']; omega
          · simp only [if_neg e, if_neg e']; exact a5
def zrq (E : Nat → Nat → Bool) (s L i t : Nat) (d Q : Nat → Int32) (N D : Nat → Nat) : Prop :=
  (∀ j, j < L → N j < 25 ∧ Q j = nI (N j) ∧ d (N j) = nI (D j) ∧ D j ≤ j) ∧ (∀ j k, j < k → k < L → N j ≠ N k ∧ D j ≤ D k) ∧
  (∀ c, c < 25 → d c = -1 ∨ ∃ j, j < L ∧ c = N j) ∧ (0 < L ∧ N 0 = s ∧ ∀ j, j < L → D j = 0 → j = 0) ∧
  (∀ j, j < L → 0 < j → ∃ h, h < L ∧ D j = D h + 1 ∧ E (N h) (N j) = true) ∧
  (∀ j v, j < L → v < 25 → E (N j) v = true → (j < i ∨ j = i ∧ ∃ r, r < t ∧ zN (N i) r = nI v) → ∃ k, k < L ∧ v = N k ∧ D k ≤ D j + 1) ∧
  (i < L → ∀ j, j < L → D j ≤ D i + 1)
theorem zrq.le {E : Nat → Nat → Bool} {s L i t : Nat} {d Q : Nat → Int32} {N D : Nat → Nat} (h : zrq E s L i t d Q N D) : L ≤ 25 :=
  zpig 25 L N (fun j hj => (h.1 j hj).1) (fun j k hj hk => (h.2.1 j k hj hk).1)
theorem zrq.lt {E : Nat → Nat → Bool} {s L i t e : Nat} {d Q : Nat → Int32} {N D : Nat → Nat} (h : zrq E s L i t d Q N D) (he : e < 25) (hd : d e = -1) : L < 25 := by
  have ne : ∀ j, j < L → N j ≠ e := by
    intro j hj q
    have a := h.1 j hj
    have b := h.le
    rw [q, hd] at a
    exact zne1 (a := D j) (by omega) a.2.2.1.symm
  have := zpig 25 (L + 1) (fun j => if j = L then e else N j) (fun j hj => ?_) (fun j k hj hk => ?_)
  · omega
  · by_cases w : j = L
    · simp only [if_pos w]; exact he
    · simp only [if_neg w]; exact (h.1 j (by omega)).1
  · simp only [if_neg (show ¬ j = L by omega)]
    by_cases w : k = L
    · simp only [if_pos w]; exact ne j (by omega)
    · simp only [if_neg w]; exact (h.2.1 j k hj (by omega)).1
theorem zrq.mono {E : Nat → Nat → Bool} {s L i t i' t' : Nat} {d Q : Nat → Int32} {N D : Nat → Nat} (h : zrq E s L i t d Q N D)
    (hx : ∀ j v, j < L → v < 25 → E (N j) v = true → (j < i' ∨ j = i' ∧ ∃ r, r < t' ∧ zN (N i') r = nI v) → (j < i ∨ j = i ∧ ∃ r, r < t ∧ zN (N i) r = nI v) ∨ ∃ k, k < L ∧ v = N k ∧ D k ≤ D j + 1) (hg : i' < L → ∀ j, j < L → D j ≤ D i' + 1) : zrq E s L i' t' d Q N D := by
  obtain ⟨h1, h2, h3, h4, h5, h6, h7⟩ := h
  refine ⟨h1, h2, h3, h4, h5, fun j v hj hv ee hq => ?_, hg⟩
  rcases hx j v hj hv ee hq with w | w
  · exact h6 j v hj hv ee w
  · exact w
theorem zrq.put {E : Nat → Nat → Bool} {s L i t e : Nat} {d Q : Nat → Int32} {N D : Nat → Nat} (h : zrq E s L i t d Q N D) (hi : i < L) (he : e < 25) (hd : d e = -1) (hz : zN (N i) t = nI e) (hE : E (N i) e = true) :
    zrq E s (L + 1) i (t + 1) (fun c => if c = e then nI (D i + 1) else d c) (fun j => if j = L then nI e else Q j) (fun j => if j = L then e else N j) (fun j => if j = L then D i + 1 else D j) := by
  have hL := h.lt he hd
  obtain ⟨h1, h2, h3, h4, h5, h6, h7⟩ := h
  have ne : ∀ j, j < L → N j ≠ e := by
    intro j hj q
    have a := h1 j hj
    rw [q, hd] at a
    exact zne1 (a := D j) (by omega) a.2.2.1.symm
  have hne : ∀ j, j < L → ¬ j = L := fun j hj => by omega
  refine ⟨fun j hj => ?_, fun j k hj hk => ?_, fun c hc => ?_, ⟨by omega, ?_, fun j hj q => ?_⟩, fun j hj h0 => ?_, fun j v hj hv ee hq => ?_, fun _ j hj => ?_⟩
  · by_cases w : j = L
    · simp only [if_pos w, if_true]
      exact ⟨he, trivial, trivial, by have := (h1 i hi).2.2.2; omega⟩
    · simp only [if_neg w, if_neg (ne j (by omega))]
      exact h1 j (by omega)
  · simp only [if_neg (show ¬ j = L by omega)]
    by_cases w : k = L
    · simp only [if_pos w]
      exact ⟨ne j (by omega), h7 hi j (by omega)⟩
    · simp only [if_neg w]; exact h2 j k hj (by omega)
  · by_cases w : c = e
    · exact Or.inr ⟨L, by omega, by simp only [if_pos]; exact w⟩
    · rcases h3 c hc with q | ⟨j, hj, q⟩
      · simp only [if_neg w]; exact Or.inl q
      · exact Or.inr ⟨j, by omega, by simp only [if_neg (hne j hj)]; exact q⟩
  · simp only [if_neg (hne 0 h4.1)]; exact h4.2.1
  · by_cases w : j = L
    · simp only [if_pos w] at q; omega
    · simp only [if_neg w] at q; exact h4.2.2 j (by omega) q
  · by_cases w : j = L
    · refine ⟨i, by omega, ?_⟩
      simp only [if_pos w, if_neg (hne i hi)]
      exact ⟨trivial, hE⟩
    · obtain ⟨p, hp, e1, e2⟩ := h5 j (by omega) h0
      refine ⟨p, by omega, ?_⟩
      simp only [if_neg w, if_neg (hne p hp)]
      exact ⟨e1, e2⟩
  · have hjL : j < L := by omega
    simp only [if_neg (hne j hjL), if_neg (hne i hi)] at ee hq ⊢
    by_cases w : v = e
    · by_cases w2 : j = i
      · refine ⟨L, by omega, ?_⟩
        simp only [if_pos]
        exact ⟨w, by rw [w2]; exact Nat.le_refl _⟩
      · obtain ⟨k, hk, e1, e2⟩ := h6 j v hjL hv ee (by omega)
        exact absurd (e1.symm.trans w) (ne k hk)
    · obtain ⟨k, hk, e1, e2⟩ := h6 j v hjL hv ee (by
        rcases hq with q | ⟨q, r, hr, q2⟩
        · exact Or.inl q
        · refine Or.inr ⟨q, r, ?_, q2⟩
          rcases Nat.lt_or_ge r t with z | z
          · exact z
          · obtain rfl : r = t := by omega
            exact absurd ((nI_eq (by omega) (by omega)).1 (q2.symm.trans hz)) w)
      refine ⟨k, by omega, ?_⟩
      simp only [if_neg (hne k hk)]
      exact ⟨e1, e2⟩
  · simp only [if_neg (hne i hi)]
    by_cases w : j = L
    · simp only [if_pos w]; exact Nat.le_refl _
    · simp only [if_neg w]; exact h7 hi j (by omega)
theorem zrq.rt {E : Nat → Nat → Bool} {s L i t : Nat} {d Q : Nat → Int32} {N D : Nat → Nat} (h : zrq E s L i t d Q N D) (hi : L ≤ i) : zrt E s d := by
  have hL := h.le
  obtain ⟨h1, h2, h3, h4, h5, h6, h7⟩ := h
  have hj : ∀ v k, v < 25 → k < 2 ^ 31 → d v = nI k → ∃ j, j < L ∧ v = N j ∧ D j = k := by
    intro v k hv hk e
    rcases h3 v hv with q | ⟨j, hj, q⟩
    · exact absurd (e.symm.trans q) (zne1 hk)
    · refine ⟨j, hj, q, ?_⟩
      have := h1 j hj
      rw [← q, e] at this
      exact ((nI_eq hk (by omega)).1 this.2.2.1).symm
  refine ⟨fun c hc => ?_, ?_, fun v hv e => ?_, fun v k hv hk e => ?_, fun u v k hu hv hk e ee => ?_⟩
  · rcases h3 c hc with q | ⟨j, hj, q⟩
    · exact Or.inl q
    · have := h1 j hj
      exact Or.inr ⟨D j, by omega, by rw [q]; exact this.2.2.1⟩
  · have := h1 0 h4.1
    rw [h4.2.1] at this
    rw [this.2.2.1]; congr 1; omega
  · obtain ⟨j, a, b, c⟩ := hj v 0 hv (by omega) e
    rw [h4.2.2 j a c] at b
    rw [b]; exact h4.2.1
  · obtain ⟨j, a, b, c⟩ := hj v (k + 1) hv (by omega) e
    obtain ⟨p, hp, e1, e2⟩ := h5 j a (by
      rcases Nat.eq_zero_or_pos j with z | z
      · subst z; have := (h1 0 a).2.2.2; omega
      · exact z)
    have := h1 p hp
    exact ⟨N p, this.1, by rw [this.2.2.1]; congr 1; omega, by rw [b]; exact e2⟩
  · obtain ⟨j, a, b, c⟩ := hj u k hu (by omega) e
    obtain ⟨p, hp, e1, e2⟩ := h6 j v a hv (by rw [← b]; exact ee) (Or.inl (by omega))
    exact ⟨D p, by omega, by rw [e1]; exact (h1 p hp).2.2.1⟩
theorem zr54 {K28 : Nat → Nat → Int32 → Int32 → Int32 → zMem → Option (Unit × zMem)} {c s i : Nat} {l : Int32} {μ0 : zMem} {P : Option (Unit × zMem) → Prop} (h50 : c + 1 ≠ 50) (h51 : c + 1 ≠ 51)
    (hK : ∀ (L : Nat) (N D : Nat → Nat) (μ' : zMem), (∀ j, j ≠ 50 → j ≠ 51 → μ' j = μ0 j) → i < L → zrq (zed (μ0 (c + 1)) l) s L (i + 1) 0 (μ' 50) (μ' 51) N D → P (K28 49 c l (nI L) (nI (i + 1)) μ')) :
    ∀ m t q, t + m = 4 → m < q → ∀ (L : Nat) (N D : Nat → Nat) (μ : zMem), (∀ j, j ≠ 50 → j ≠ 51 → μ j = μ0 j) → i < L → zrq (zed (μ0 (c + 1)) l) s L i t (μ 50) (μ 51) N D → P (fX1_roam_54 K28 q 49 c l (nI L) (nI i) (nI (N i)) (nI t) μ) := by
  intro m
  induction m with
  | zero =>
    intro t q ht hq L N D μ hf hi hr
    obtain ⟨q, rfl⟩ : ∃ z, q = z + 1 := ⟨q - 1, by omega⟩
    rw [fX1_roam_54, show (4 : Int32) = nI 4 from rfl, zle_t (by omega) (by omega), n1]
    refine hK L N D μ hf hi (hr.mono (fun j v hj hv ee hq => Or.inl ?_) (fun hi' j hj => ?_))
    · rcases hq with z | ⟨-, r, hr', -⟩
      · by_cases w : j = i
        · subst w
          obtain ⟨r, hr1, hr2⟩ := (zbes_iff (N j) v).1 (of_decide_eq_true ee).1
          exact Or.inr ⟨rfl, r, by omega, hr2⟩
        · exact Or.inl (by omega)
      · omega
    · have a1 := hr.2.2.2.2.2.2 hi j hj
      have a2 := (hr.2.1 i (i + 1) (by omega) hi').2
      omega
  | succ m ih =>
    intro t q ht hq L N D μ hf hi hr
    obtain ⟨q, rfl⟩ : ∃ z, q = z + 1 := ⟨q - 1, by omega⟩
    have hNi := hr.1 i hi
    have hL := hr.le
    have skip : ((∃ v, v < 25 ∧ zN (N i) t = nI v ∧ zed (μ0 (c + 1)) l (N i) v = true) → ∃ v k, v < 25 ∧ zN (N i) t = nI v ∧ k < L ∧ v = N k) → P (fX1_roam_54 K28 q 49 c l (nI L) (nI i) (nI (N i)) (nI (t + 1)) μ) := by
      intro hsk
      refine ih (t + 1) q (by omega) (by omega) L N D μ hf hi (hr.mono (fun j v hj hv ee hq => ?_) hr.2.2.2.2.2.2)
      rcases hq with z | ⟨z, r, hr1, hr2⟩
      · exact Or.inl (Or.inl z)
      · by_cases w : r = t
        · subst w; subst z
          obtain ⟨v', k, hv', hz, hk, e⟩ := hsk ⟨v, hv, hr2, ee⟩
          have : v' = v := (nI_eq (by omega) (by omega)).1 (hz.symm.trans hr2)
          exact Or.inr ⟨k, hk, by omega, hr.2.2.2.2.2.2 hi k hk⟩
        · exact Or.inl (Or.inr ⟨z, r, by omega, hr2⟩)
    rw [fX1_roam_54, show (4 : Int32) = nI 4 from rfl, zle_f (by omega) (by omega), c5_neighbour hNi.1 (by omega), zbd_s, n1]
    rcases zN_rng (N i) hNi.1 t (by omega) with hz | ⟨e, he, hz⟩
    · rw [hz, if_pos rfl]
      refine skip (fun ⟨v, hv, q1, _⟩ => ?_)
      exact absurd (q1.symm.trans hz) (zne1 (by omega))
    · rw [hz, zneg1, zeq1_f (by omega), zgd_ib he (by decide)]
      simp only [zcl (show e < 2 ^ 31 by omega)]
      show P (if μ 50 e = -nI 1 then _ else _)
      by_cases hd : μ 50 e = -nI 1
      · have hd' : μ 50 e = -1 := hd
        have hlt := hr.lt he hd'
        rw [if_pos hd, show (25 : Int32) = nI 25 from rfl, zle_f (by omega) (by omega), c0_climb hNi.1 he, zbd_s, hf (c + 1) h50 h51]
        by_cases hc : l < zcb (μ0 (c + 1)) (N i) e
        · rw [if_pos hc]
          refine skip (fun ⟨v, hv, q1, q2⟩ => ?_)
          obtain rfl : e = v := (nI_eq (by omega) (by omega)).1 (hz.symm.trans q1)
          exact absurd hc (of_decide_eq_true q2).2
        · rw [if_neg hc]
          have hE : zed (μ0 (c + 1)) l (N i) e = true := decide_eq_true ⟨(zbes_iff _ _).2 ⟨t, by omega, hz⟩, hc⟩
          simp only [zgd_ib hNi.1 (show 25 < 2 ^ 31 by decide), zgd_ib he (show 25 < 2 ^ 31 by decide), zgd_ib hlt (show 25 < 2 ^ 31 by decide), zcl (show N i < 2 ^ 31 by omega), zcl (show e < 2 ^ 31 by omega), zcl (show L < 2 ^ 31 by omega), n1]
          have hp := hr.put hi he hd' hz hE
          rw [show μ (49 + 1) (N i) = nI (D i) from hNi.2.2.1, n1]
          have g := ih (t + 1) q (by omega) (by omega) (L + 1) _ _ (zst (zst μ 50 e (nI (D i + 1))) 51 L (nI e)) (fun j h1 h2 => by rw [zst_row_ne h2, zst_row_ne h1, hf j h1 h2]) (by omega) (by
            rw [zst_row_ne (show 50 ≠ 51 by decide)]
            rw [show zst μ 50 e (nI (D i + 1)) 50 = (fun c => if c = e then nI (D i + 1) else μ 50 c) from funext fun c => by
              by_cases w : c = e
              · rw [w, zst_eq, if_pos rfl]
              · rw [zst_ne w, if_neg w]]
            rw [show zst (zst μ 50 e (nI (D i + 1))) 51 L (nI e) 51 = (fun j => if j = L then nI e else μ 51 j) from funext fun c => by
              by_cases w : c = L
              · rw [w, zst_eq, if_pos rfl]
              · rw [zst_ne w, if_neg w, zst_row_ne (show 51 ≠ 50 by decide)]]
            exact hp)
          rw [if_neg (show ¬ i = L by omega)] at g
          exact g
      · rw [if_neg hd]
        refine skip (fun _ => ?_)
        rcases hr.2.2.1 e he with q1 | ⟨k, hk, q1⟩
        · exact absurd q1 hd
        · exact ⟨e, k, he, hz, hk, q1⟩
theorem zr28 {c s : Nat} {l : Int32} {μ0 : zMem} (h50 : c + 1 ≠ 50) (h51 : c + 1 ≠ 51) : ∀ m i q, i + m = 25 → m < q → ∀ (L : Nat) (N D : Nat → Nat) (μ : zMem), (∀ j, j ≠ 50 → j ≠ 51 → μ j = μ0 j) → zrq (zed (μ0 (c + 1)) l) s L i 0 (μ 50) (μ 51) N D → ∃ μ', fX1_roam_28 q 49 c l (nI L) (nI i) μ = some ((), μ') ∧ (∀ j, j ≠ 50 → j ≠ 51 → μ' j = μ0 j) ∧ zrt (zed (μ0 (c + 1)) l) s (μ' 50) := by
  intro m
  induction m with
  | zero =>
    intro i q hi hq L N D μ hf hr
    obtain ⟨q, rfl⟩ : ∃ z, q = z + 1 := ⟨q - 1, by omega⟩
    have hL := hr.le
    rw [fX1_roam_28, zle_t (by omega) (by omega)]
    exact ⟨μ, rfl, hf, hr.rt (by omega)⟩
  | succ m ih =>
    intro i q hi hq L N D μ hf hr
    obtain ⟨q, rfl⟩ : ∃ z, q = z + 1 := ⟨q - 1, by omega⟩
    have hL := hr.le
    by_cases w : L ≤ i
    · rw [fX1_roam_28, zle_t (by omega) (by omega)]
      exact ⟨μ, rfl, hf, hr.rt (by omega)⟩
    · rw [fX1_roam_28, zle_f (by omega) (by omega), show (25 : Int32) = nI 25 from rfl, zle_f (by omega) (by omega), zgd_ib (show i < 25 by omega) (by decide), zcl (by omega), show μ (49 + 2) i = nI (N i) from (hr.1 i (by omega)).2.1]
      exact zr54 (P := fun o => ∃ μ', o = some ((), μ') ∧ (∀ j, j ≠ 50 → j ≠ 51 → μ' j = μ0 j) ∧ zrt (zed (μ0 (c + 1)) l) s (μ' 50)) h50 h51 (fun L N D μ' hf' _ hr' => ih (i + 1) q (by omega) (by omega) L N D μ' hf' hr') 4 0 200 (by omega) (by omega) L N D μ hf (by omega) hr
/-- the class's roam lays the distances into row 50 -/
theorem c1_roam {c s : Nat} (h50 : c + 1 ≠ 50) (h51 : c + 1 ≠ 51) (hs : s < 25) (l : Int32) (μ : zMem) : ∃ μ', fX1_roam 49 c (nI s) l μ = some ((), μ') ∧ (∀ j, j ≠ 50 → j ≠ 51 → μ' j = μ j) ∧ zrt (zed (μ (c + 1)) l) s (μ' 50) := by
  obtain ⟨μ1, f1, f2, f3⟩ := c_fill (k := 50) (len := 25) (-1) rfl (by decide) μ
  unfold fX1_roam
  rw [show 49 + 1 = 50 from rfl, f1, zbd_s, zgd_ib hs (by decide), zgd_t (by decide), zcl (by omega), show ((0 : Int32)).toNatClampNeg = 0 from rfl]
  have d50 : zst (zst μ1 50 s 0) (49 + 2) 0 (nI s) 50 = fun c => if c = s then nI 0 else μ1 50 c := funext fun c => by
    rw [zst_row_ne (show 50 ≠ 49 + 2 by decide)]
    by_cases w : c = s
    · rw [w, zst_eq, if_pos rfl]; rfl
    · rw [zst_ne w, if_neg w]
  refine zr28 h50 h51 25 0 200 (by omega) (by omega) 1 (fun _ => s) (fun _ => 0) _ (fun j h1 h2 => by rw [zst_row_ne h2, zst_row_ne h1, f2 j h1]) ?_
  rw [d50]
  refine ⟨fun j hj => ⟨hs, ?_, if_pos rfl, Nat.zero_le _⟩, fun j k hj hk => by omega, fun c hc => ?_, ⟨by omega, rfl, fun j hj _ => by omega⟩, fun j hj h0 => by omega, fun j v hj hv ee hq => ?_, fun _ j hj => Nat.zero_le _⟩
  · obtain rfl : j = 0 := by omega
    exact zst_eq _ _ _ _
  · by_cases w : c = s
    · exact Or.inr ⟨0, by omega, w⟩
    · simp only [if_neg w]
      rw [f3 c, if_pos hc]; exact Or.inl rfl
  · rcases hq with z | ⟨-, r, hr, -⟩ <;> omega
