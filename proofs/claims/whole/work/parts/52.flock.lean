/-! distances -/
/-- d is the row of distances from s over the edges E -/
def zrt (E : Nat → Nat → Bool) (s : Nat) (d : Nat → Int32) : Prop :=
  (∀ c, c < 25 → d c = -1 ∨ ∃ k, k ≤ 25 ∧ d c = nI k) ∧ d s = nI 0 ∧ (∀ v, v < 25 → d v = nI 0 → v = s) ∧
  (∀ v k, v < 25 → k < 25 → d v = nI (k + 1) → ∃ u, u < 25 ∧ d u = nI k ∧ E u v = true) ∧
  ∀ u v k, u < 25 → v < 25 → k < 25 → d u = nI k → E u v = true → ∃ j, j ≤ k + 1 ∧ d v = nI j
theorem zrt_le {E : Nat → Nat → Bool} {s : Nat} {d d' : Nat → Int32} (h : zrt E s d) (h' : zrt E s d') : ∀ k, k ≤ 25 → ∀ v, v < 25 → d v = nI k → ∃ j, j ≤ k ∧ d' v = nI j := by
  obtain ⟨-, -, a3, a4, -⟩ := h
  obtain ⟨b1, b2, -, -, b5⟩ := h'
  intro k
  induction k with
  | zero =>
    intro _ v hv e
    rw [a3 v hv e]; exact ⟨0, by omega, b2⟩
  | succ k ih =>
    intro hk v hv e
    obtain ⟨u, hu, eu, ee⟩ := a4 v k hv (by omega) e
    obtain ⟨j, hj, ej⟩ := ih (by omega) u hu eu
    obtain ⟨i, hi, ei⟩ := b5 u v j hu hv (by omega) ej ee
    exact ⟨i, by omega, ei⟩
theorem zrt_uniq {E : Nat → Nat → Bool} {s : Nat} {d d' : Nat → Int32} (h : zrt E s d) (h' : zrt E s d') : ∀ v, v < 25 → d v = d' v := by
  intro v hv
  rcases h.1 v hv with e | ⟨k, hk, e⟩
  · rcases h'.1 v hv with e' | ⟨k', hk', e'⟩
    · rw [e, e']
    · obtain ⟨j, hj, ej⟩ := zrt_le h' h k' hk' v hv e'
      exact absurd (ej.symm.trans e) (zne1 (by omega))
  · obtain ⟨j, hj, ej⟩ := zrt_le h h' k hk v hv e
    obtain ⟨i, hi, ei⟩ := zrt_le h' h j (by omega) v hv ej
    have : i = k := (nI_eq (by omega) (by omega)).1 (ei.symm.trans e)
    rw [e, ej, show j = k by omega]
