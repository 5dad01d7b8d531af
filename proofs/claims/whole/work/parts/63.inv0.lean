/-! it begins so -/
theorem zchk_inv {μ : zMem} (h : zchk μ = true) : zInv μ := by
  unfold zchk at h
  simp only [Bool.and_eq_true, beq_iff_eq, List.all_eq_true, List.mem_range] at h
  obtain ⟨⟨⟨⟨⟨⟨⟨⟨⟨⟨⟨⟨x2, x0⟩, x3⟩, c3⟩, c4⟩, c5⟩, c6⟩, hh⟩, hs⟩, i1, i2⟩, hf⟩, t1, t2⟩, hz⟩ := h
  refine ⟨⟨0, ⟨by omega, x2, ⟨0, by omega, x0⟩, ⟨0, by omega, x3⟩, fun i hi => ⟨50, by omega, (hh i hi).1⟩, fun i hi => Or.inl (hs i hi).1, fun t ht => absurd ht (by omega)⟩, ⟨⟨by rw [c3, x2], by rw [c4, x3], c6⟩, fun i hi => by rw [(hh i hi).2, (hh i hi).1], fun i hi => by rw [(hs i hi).2, (hs i hi).1], fun t ht => absurd ht (by omega)⟩, by rw [c5, x0]⟩, ⟨by rw [i1, i2], Or.inl i2⟩, fun k hk => hf k hk, ⟨0, by omega, t1, t2, fun i hi => absurd hi (by omega)⟩, fun s hs' => ?_⟩
  obtain ⟨⟨⟨b0, z0⟩, p0, p1⟩, hv⟩ := hz s hs'
  exact ⟨⟨by rw [p0, b0], Or.inl b0⟩, ⟨0, by omega, p1, z0⟩, fun i hi => hv i hi⟩
theorem zinv0 : zInv zm4 := zchk_inv zchk_ok
