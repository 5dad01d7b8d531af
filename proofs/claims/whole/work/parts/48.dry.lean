/-! dry pitches -/
theorem ztwo : ∀ c, c < 25 → ∀ i, i < 32 → ((1 : Int32) <<< (nI c &&& 31)).toBitVec.getLsbD i = decide (i = c) := by decide +kernel
theorem zone : ∀ i, i < 32 → (1 : Int32).toBitVec.getLsbD i = decide (i = 0) := by decide +kernel
theorem zbz {c : Nat} (hc : c < 25) (S : Int32) : (((1 : Int32) <<< (nI c &&& 31)) &&& S = 0) ↔ S.toBitVec.getLsbD c = false := by
  constructor
  · intro h
    have e := congrArg (fun x => x.toBitVec.getLsbD c) h
    simp only [Int32.toBitVec_and, BitVec.getLsbD_and, ztwo c hc c (by omega)] at e
    simpa using e
  · intro h
    refine Int32.toBitVec_inj.mp (BitVec.eq_of_getLsbD_eq (fun i hi => ?_))
    rw [Int32.toBitVec_and, BitVec.getLsbD_and, ztwo c hc i hi]
    by_cases w : i = c
    · subst w; rw [h, Bool.and_false]; exact (BitVec.getLsbD_zero).symm
    · rw [decide_eq_false w, Bool.false_and]; exact (BitVec.getLsbD_zero).symm
theorem zbs {c : Nat} (hc : c < 25) (S : Int32) : ((S >>> (nI c &&& 31)) &&& 1 = 0) ↔ S.toBitVec.getLsbD c = false := by
  have e2 : (S >>> (nI c &&& 31)).toBitVec = S.toBitVec.sshiftRight c := by
    rw [Int32.toBitVec_shiftRight]
    show S.toBitVec.sshiftRight ((nI c &&& 31).toBitVec.smod 32).toNat = _
    rw [zsl c (by omega)]
  have b0 : (S.toBitVec.sshiftRight c).getLsbD 0 = S.toBitVec.getLsbD c := by
    rw [BitVec.getLsbD_sshiftRight, if_pos (by omega)]; simp
  constructor
  · intro h
    have e := congrArg (fun x => x.toBitVec.getLsbD 0) h
    simp only [Int32.toBitVec_and, BitVec.getLsbD_and, e2, b0, zone 0 (by omega)] at e
    simpa using e
  · intro h
    refine Int32.toBitVec_inj.mp (BitVec.eq_of_getLsbD_eq (fun i hi => ?_))
    rw [Int32.toBitVec_and, BitVec.getLsbD_and, e2, zone i hi]
    by_cases w : i = 0
    · subst w; rw [b0, h, Bool.false_and]; exact (BitVec.getLsbD_zero).symm
    · rw [decide_eq_false w, Bool.and_false]; exact (BitVec.getLsbD_zero).symm
theorem zorz (a b S : Int32) : ((a ||| b) &&& S = 0) ↔ (a &&& S = 0 ∧ b &&& S = 0) := by
  have bit : ∀ x : Int32, x = 0 ↔ ∀ i, i < 32 → x.toBitVec.getLsbD i = false := by
    intro x
    constructor
    · intro h i _; rw [h]; exact BitVec.getLsbD_zero
    · intro h
      exact Int32.toBitVec_inj.mp (BitVec.eq_of_getLsbD_eq (fun i hi => (h i hi).trans BitVec.getLsbD_zero.symm))
  rw [bit, bit (a &&& S), bit (b &&& S)]
  simp only [Int32.toBitVec_and, Int32.toBitVec_or, BitVec.getLsbD_and, BitVec.getLsbD_or]
  constructor
  · intro h
    refine ⟨fun i hi => ?_, fun i hi => ?_⟩
    · have := h i hi
      revert this
      cases a.toBitVec.getLsbD i <;> cases b.toBitVec.getLsbD i <;> cases S.toBitVec.getLsbD i <;> decide
    · have := h i hi
      revert this
      cases a.toBitVec.getLsbD i <;> cases b.toBitVec.getLsbD i <;> cases S.toBitVec.getLsbD i <;> decide
  · rintro ⟨h1, h2⟩ i hi
    have h1 := h1 i hi
    have h2 := h2 i hi
    revert h1 h2
    cases a.toBitVec.getLsbD i <;> cases b.toBitVec.getLsbD i <;> cases S.toBitVec.getLsbD i <;> decide
def zdry (S : Int32) (p : Nat) : Nat → Nat → Bool
  | 0, _ => true
  | m + 1, d => !(S.toBitVec.getLsbD (zce p d)) && zdry S p m (d + 1)
theorem zdry_eq (S : Int32) {p : Nat} (hp : p < 16) : (zcu p &&& S = 0) ↔ zdry S p 4 0 = true := by
  have key : ∀ m d a, d + m = 4 → ((zfold (fun d a => a ||| ((1 : Int32) <<< (nI (zce p d) &&& 31))) m d a) &&& S = 0 ↔ (a &&& S = 0 ∧ zdry S p m d = true)) := by
    intro m
    induction m with
    | zero => intro d a _; exact ⟨fun h => ⟨h, rfl⟩, fun h => h.1⟩
    | succ m ih =>
      intro d a hd
      rw [zfold, ih (d + 1) _ (by omega), zorz, zbz (zce_lt p hp d (by omega)), zdry]
      cases S.toBitVec.getLsbD (zce p d) <;> simp
  have := key 4 0 0 (by omega)
  rw [show zcu p = zfold (fun d a => a ||| ((1 : Int32) <<< (nI (zce p d) &&& 31))) 4 0 0 from rfl, this]
  exact ⟨fun h => h.2, fun h => ⟨Int32.zero_and, h⟩⟩
