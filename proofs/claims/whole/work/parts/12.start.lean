/-! the constructors' memory, by computation -/
def zm0 : zMem := fun _ _ => 0
def zm1 : zMem := yk zm0
def zget (o : Option (Unit × zMem)) : zMem := match o with
  | some x => x.2
  | none => zm0
def zm2 : zMem := zget (bX5_init (yn zm1) 0 zm1)
def zm3 : zMem := yk zm2
def zm4 : zMem := zget (bX6_init (yn zm3) 66 zm3)
theorem zsome {o : Option (Unit × zMem)} (h : o.isSome = true) : o = some ((), zget o) := by
  cases o with
  | none => cases h
  | some x => obtain ⟨⟨⟩, m⟩ := x; rfl
set_option maxRecDepth 1000000 in
theorem zm1_ok : ygO zm0 0 78 5 = true ∧ yn zm1 = 1 := by decide +kernel
set_option maxRecDepth 1000000 in
theorem zm2_ok : (bX5_init (yn zm1) 0 zm1).isSome = true := by decide +kernel
set_option maxRecDepth 1000000 in
theorem zm2_yn : yn zm2 = 66 := by decide +kernel
set_option maxRecDepth 1000000 in
theorem zm3_ok : ygO zm2 0 78 6 = true ∧ yn zm3 = 67 := by decide +kernel
set_option maxRecDepth 1000000 in
theorem zm4_ok : (bX6_init (yn zm3) 66 zm3).isSome = true := by decide +kernel
set_option maxRecDepth 1000000 in
theorem zm4_yn : yn zm4 = 78 := by decide +kernel
/-- all references are set -/
def yfull (μ : zMem) : Bool := (List.range 78).all (fun k => if zkd k < 7 then (List.range 16).all (fun j => decide ((zoff.getD (zkd k) [])[j]? = some none ∨ (zoff.getD (zkd k) [])[j]? = none ∨ ¬ μ k j = 0)) else decide (zkd k = 7) || (List.range (zln k)).all (fun j => decide (¬ μ k j = 0)))
set_option maxRecDepth 1000000 in
theorem zm4_full : yfull zm4 = true := by decide +kernel
