/-! where it begins -/
def zchk (μ : zMem) : Bool :=
  let x := μ 67
  let c := μ 1
  (x 2 == 0 && x 0 == 0 && x 3 == 0 && c 3 == 0 && c 4 == 0 && c 5 == 0 && c 6 == x 1) &&
  (let h := μ 2; (List.range 25).all fun i => x (4 + i) == 50 && h i == 50) &&
  (let h := μ 3; (List.range 10).all fun i => x (77 + i) == -1 && h i == -1) &&
  (μ 0 8 == 0 && μ 66 3 == 0) &&
  (let f := μ 56; let g := μ 70; (List.range 7).all fun i => f i == g i) &&
  (μ 53 1 == 0 && μ 66 8 == 0) &&
  (let b := μ 74; let z := μ 75; let w := μ 76; (List.range 4).all fun s => b s == 0 && z s == 0 && (let t := μ (58 + 2 * s); t 0 == 0 && t 1 == 0) && (let v := μ (59 + 2 * s); (List.range 40).all fun i => v i == w (40 * s + i)))
theorem zchk_ok : zchk zm4 = true := by decide +kernel
