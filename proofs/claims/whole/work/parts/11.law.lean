/-! THE CLAIM OUT OF ONE WALK OF THE LAW'S BODY. Your part is whole_start (and what it stands on); all else here is the same for every law, but numbers. -/
def R_law : String := "GroundTentsLaw"
def lw_P (b : Addr) (xs : List Int32) (args : Array Value) (s : State) : Prop := args = #[.ref b] ∧ s.IntsAt b xs ∧ xs.length ≤ 3072 ∧ (Jvm.Cond.and given_1 narrow_1).before args s = true
def lw_Q (_ : Array Value) (s : State) (o : Outcome) (t : State) : Prop := o = .returned (some (.int 1)) ∧ Framed s o t [] 600000 7302250
def lw_Z (below : List Frame) (a : Array Value) (s : State) : State → Prop := fun t => ∃ o, t.status = .running ∧ Ended t below o ∧ lw_Q a s o t
/-- the law's own end, with 1 on the stack, nothing written that was there before, its room as the claim has it -/
theorem lw_ret {p : Program} {l : Launch} {e : Env} {s : State} {m : MethodId} {below : List Frame} {meth : Method} {c : Code} {b : Nat} (hx : p.tables.exec = Jvm.exec) (hb : c.code = code) (hr : meth.sig.returnType = ret) (hlocks : meth.locks = false) {pc : Nat} {H : Heap} {ls : Array Slot} (hdg : decode code pc = .ok (.ireturn, 1)) : W p l e room_1 s m #[Value.ref b] below meth c H [] 600000 7302250 (lw_Z below #[Value.ref b] s) (F0 m pc ls [.int 1]) := by
  intro T hT X
  obtain ⟨fs, hret, hrun, hended, hW, hframe⟩ := X.leave (v := some (.int 1)) (hlocks := hlocks) (fun h => by rw [hr] at h; cases h)
  have hmeth' : T.vm.method? m = some meth := X.method'
  refine ⟨T.setFrames fs, ?_, .returned (some (.int 1)), hrun, hended, rfl, ⟨_, rfl⟩, hW, hframe⟩
  jvm_step X.here [X.here.top, hx, hb, hdg, hmeth', hr, ret, narrow_b1]
  (try refine ⟨rfl, ?_⟩); (try refine ⟨rfl, ?_⟩)
  first | (intro acts; rw [hret _ acts rfl rfl rfl]) | rw [hret _ _ rfl rfl rfl]
  exact Steps.refl _
/-- what holds at the law's entry: the machine, the code, the tables' words (any of lw_tbl by 'hts w (by decide +kernel)'), the script of L ints xs at the cell b, what the Statement gives of the start (any of its parts by flat_of_before) -/
def lw_At (p : Program) (s : State) (m : MethodId) (meth : Method) (c : Code) (b L : Nat) (xs : Nat → Int32) : Prop :=
  p.tables.exec = Jvm.exec ∧ c.code = code ∧ meth.sig.returnType = ret ∧ c.maxLocals = 4 ∧ s.vm.findClass R_law = some m.cls ∧ (∀ w ∈ lw_tbl, w.before #[Value.ref b] s = true) ∧ va_X b L xs s s.heap ∧ b < s.heap.size ∧ meth.locks = false ∧ (Jvm.Cond.and given_1 narrow_1).before #[Value.ref b] s = true

def zLw (κ : zK) (b L : Nat) (xs : Nat → Int32) : Prop := match κ with
  | ((_, _, _, _, s, _), _, _, A) => va_X b L xs s s.heap ∧ b < s.heap.size ∧ ¬ A b
theorem zi_sld {g : zG} {κ : zK} {own : String} {cc : ByteArray} {nL d : Nat} (X : zC g κ own cc nL d) {b L : Nat} {xs : Nat → Int32} (Y : zLw κ b L xs) {pc pc' : Nat} {lv : List (Nat × Value)} {st : List Value} {μ : zMem} {i : Int32} (hin : vp_in i L) (hd : decode cc pc = .ok (.iaload, 1)) (hp : pc + 1 = pc') (k : zV g κ pc' lv (.int (xs i.toNatClampNeg) :: st) μ) : zV g κ pc lv (.int i :: .ref b :: st) μ := by
  obtain ⟨⟨p, l, e, R, s, m⟩, ⟨args, below, meth, cx⟩, ⟨cells, slots, Q⟩, A⟩ := κ
  obtain ⟨hx, hb, hml, hown, hts, hKw, hSt, hA, hR, hC⟩ := X
  obtain ⟨h1, h2, h3⟩ := Y
  subst hp
  intro H locs ls hP hS hl
  exact va_sld hx hb h1 h2 h3 hS hin hd (k H locs ls hP hS hl)
theorem zi_slen0 {g : zG} {κ : zK} {own : String} {cc : ByteArray} {nL d : Nat} (X : zC g κ own cc nL d) {b L : Nat} {xs : Nat → Int32} (Y : zLw κ b L xs) {pc pc' : Nat} {lv : List (Nat × Value)} {st : List Value} {μ : zMem} (hd : decode cc pc = .ok (.arraylength, 1)) (hp : pc + 1 = pc') (k : zV g κ pc' lv (.int (nI L) :: st) μ) : zV g κ pc lv (.ref b :: st) μ := by
  obtain ⟨⟨p, l, e, R, s, m⟩, ⟨args, below, meth, cx⟩, ⟨cells, slots, Q⟩, A⟩ := κ
  obtain ⟨hx, hb, hml, hown, hts, hKw, hSt, hA, hR, hC⟩ := X
  obtain ⟨h1, h2, h3⟩ := Y
  subst hp
  intro H locs ls hP hS hl
  exact va_slen hx hb h1 h2 h3 hS hd (k H locs ls hP hS hl)
theorem zok_imp {α : Type} {o : Option (α × zMem)} {Q Q' : α → zMem → Prop} (h : zok o Q) (k : ∀ r μ, Q r μ → Q' r μ) : zok o Q' := by
  cases o with
  | none => exact h.elim
  | some x => exact k x.1 x.2 h
theorem zsi {i L : Nat} (j : Nat) (hj : j < 6) (h : i + 6 ≤ L) (hL : L ≤ 3072) : vp_in (nI i + nI j) L := by
  rw [nI_add]
  exact vp_in_nI (by omega) (by omega)
theorem zlc (x : Int64) : lg_cmp x x = 0 := by
  unfold lg_cmp
  rw [if_neg (by simp [Int64.lt_irrefl]), if_pos rfl]
abbrev zlv (g : zG) (b i : Nat) : List (Nat × Value) := [(0, .ref b), (1, .ref (zad g 0)), (2, .ref (zad g 66)), (3, .int (nI i))]
def zE0 (Inv : zMem → Prop) : Prop := ∀ (a1 : Int32) (a2 : Int32) (μ : zMem), Inv μ → zok (fX5_height 0 a1 a2 μ) (fun r μ1 => zok (fX6_height 66 a1 a2 μ1) (fun r' μ2 => r = r' ∧ Inv μ2))
set_option maxRecDepth 100000 in
theorem zlaw_0 {g : zG} {κ : zK} (X : zC g κ RL code 4 11) {b L : Nat} {xs : Nat → Int32} (Y : zLw κ b L xs) {Inv : zMem → Prop} {i : Nat} (hi : i + 6 ≤ L ∧ L ≤ 3072) (hc : zE0 Inv) (next : ∀ μ, Inv μ → zV g κ 1597 (zlv g b i) [] μ) {μ : zMem} (h : Inv μ) : zV g κ 224 (zlv g b i) [] μ := by
  refine zi_aload_n (pc' := 225) X dL_law_224 rfl rfl 1 rfl ?_
  refine zi_aload_n (pc' := 226) X dL_law_225 rfl rfl 0 rfl ?_
  refine zi_iload_n (pc' := 227) X dL_law_226 rfl rfl 3 rfl ?_
  refine zi_iconst (pc' := 228) (v := (1 : Int32)) X dL_law_227 rfl rfl ?_
  refine zi_iadd (pc' := 229) X dL_law_228 rfl ?_
  refine zi_sld (pc' := 230) X Y (zsi 1 (by decide) hi.1 hi.2) dL_law_229 rfl ?_
  refine zi_aload_n (pc' := 231) X dL_law_230 rfl rfl 0 rfl ?_
  refine zi_iload_n (pc' := 232) X dL_law_231 rfl rfl 3 rfl ?_
  refine zi_iconst (pc' := 233) (v := (2 : Int32)) X dL_law_232 rfl rfl ?_
  refine zi_iadd (pc' := 234) X dL_law_233 rfl ?_
  refine zi_sld (pc' := 235) X Y (zsi 2 (by decide) hi.1 hi.2) dL_law_234 rfl ?_
  refine zi_callVi (pc' := 238) X zl_L_13 (k0 := 0) rfl (by decide) [.int (xs (nI i + (1 : Int32)).toNatClampNeg), .int (xs (nI i + (2 : Int32)).toNatClampNeg)] rfl rfl (by decide) (Nat.le_of_ble_eq_true rfl) dL_law_235 rfl (tX5_height g rfl (zok_imp (hc (xs (nI i + (1 : Int32)).toNatClampNeg) (xs (nI i + (2 : Int32)).toNatClampNeg) μ h) (fun r1 m1 h1 => ?_)))
  refine zi_aload_n (pc' := 239) X dL_law_238 rfl rfl 2 rfl ?_
  refine zi_aload_n (pc' := 240) X dL_law_239 rfl rfl 0 rfl ?_
  refine zi_iload_n (pc' := 241) X dL_law_240 rfl rfl 3 rfl ?_
  refine zi_iconst (pc' := 242) (v := (1 : Int32)) X dL_law_241 rfl rfl ?_
  refine zi_iadd (pc' := 243) X dL_law_242 rfl ?_
  refine zi_sld (pc' := 244) X Y (zsi 1 (by decide) hi.1 hi.2) dL_law_243 rfl ?_
  refine zi_aload_n (pc' := 245) X dL_law_244 rfl rfl 0 rfl ?_
  refine zi_iload_n (pc' := 246) X dL_law_245 rfl rfl 3 rfl ?_
  refine zi_iconst (pc' := 247) (v := (2 : Int32)) X dL_law_246 rfl rfl ?_
  refine zi_iadd (pc' := 248) X dL_law_247 rfl ?_
  refine zi_sld (pc' := 249) X Y (zsi 2 (by decide) hi.1 hi.2) dL_law_248 rfl ?_
  refine zi_callVi (pc' := 252) X zl_L_17 (k0 := 66) rfl (by decide) [.int (xs (nI i + (1 : Int32)).toNatClampNeg), .int (xs (nI i + (2 : Int32)).toNatClampNeg)] rfl rfl (by decide) (Nat.le_of_ble_eq_true rfl) dL_law_249 rfl (tX6_height g rfl (zok_imp h1 (fun r2 m2 h2 => ?_)))
  obtain ⟨e, hI⟩ := h2
  refine zi_icmp_eq (pc' := 255) (tgt := 1597) X dL_law_252 rfl rfl (fun c => next _ hI) (fun c => absurd e c)
def zE1 (Inv : zMem → Prop) : Prop := ∀ (a1 : Int32) (a2 : Int32) (μ : zMem), Inv μ → zok (fX5_spring 0 a1 a2 μ) (fun r μ1 => zok (fX6_spring 66 a1 a2 μ1) (fun r' μ2 => r = r' ∧ Inv μ2))
set_option maxRecDepth 100000 in
theorem zlaw_1 {g : zG} {κ : zK} (X : zC g κ RL code 4 11) {b L : Nat} {xs : Nat → Int32} (Y : zLw κ b L xs) {Inv : zMem → Prop} {i : Nat} (hi : i + 6 ≤ L ∧ L ≤ 3072) (hc : zE1 Inv) (next : ∀ μ, Inv μ → zV g κ 1597 (zlv g b i) [] μ) {μ : zMem} (h : Inv μ) : zV g κ 257 (zlv g b i) [] μ := by
  refine zi_aload_n (pc' := 258) X dL_law_257 rfl rfl 1 rfl ?_
  refine zi_aload_n (pc' := 259) X dL_law_258 rfl rfl 0 rfl ?_
  refine zi_iload_n (pc' := 260) X dL_law_259 rfl rfl 3 rfl ?_
  refine zi_iconst (pc' := 261) (v := (1 : Int32)) X dL_law_260 rfl rfl ?_
  refine zi_iadd (pc' := 262) X dL_law_261 rfl ?_
  refine zi_sld (pc' := 263) X Y (zsi 1 (by decide) hi.1 hi.2) dL_law_262 rfl ?_
  refine zi_aload_n (pc' := 264) X dL_law_263 rfl rfl 0 rfl ?_
  refine zi_iload_n (pc' := 265) X dL_law_264 rfl rfl 3 rfl ?_
  refine zi_iconst (pc' := 266) (v := (2 : Int32)) X dL_law_265 rfl rfl ?_
  refine zi_iadd (pc' := 267) X dL_law_266 rfl ?_
  refine zi_sld (pc' := 268) X Y (zsi 2 (by decide) hi.1 hi.2) dL_law_267 rfl ?_
  refine zi_callVi (pc' := 271) X zl_L_18 (k0 := 0) rfl (by decide) [.int (xs (nI i + (1 : Int32)).toNatClampNeg), .int (xs (nI i + (2 : Int32)).toNatClampNeg)] rfl rfl (by decide) (Nat.le_of_ble_eq_true rfl) dL_law_268 rfl (tX5_spring g rfl (zok_imp (hc (xs (nI i + (1 : Int32)).toNatClampNeg) (xs (nI i + (2 : Int32)).toNatClampNeg) μ h) (fun r1 m1 h1 => ?_)))
  refine zi_aload_n (pc' := 272) X dL_law_271 rfl rfl 2 rfl ?_
  refine zi_aload_n (pc' := 273) X dL_law_272 rfl rfl 0 rfl ?_
  refine zi_iload_n (pc' := 274) X dL_law_273 rfl rfl 3 rfl ?_
  refine zi_iconst (pc' := 275) (v := (1 : Int32)) X dL_law_274 rfl rfl ?_
  refine zi_iadd (pc' := 276) X dL_law_275 rfl ?_
  refine zi_sld (pc' := 277) X Y (zsi 1 (by decide) hi.1 hi.2) dL_law_276 rfl ?_
  refine zi_aload_n (pc' := 278) X dL_law_277 rfl rfl 0 rfl ?_
  refine zi_iload_n (pc' := 279) X dL_law_278 rfl rfl 3 rfl ?_
  refine zi_iconst (pc' := 280) (v := (2 : Int32)) X dL_law_279 rfl rfl ?_
  refine zi_iadd (pc' := 281) X dL_law_280 rfl ?_
  refine zi_sld (pc' := 282) X Y (zsi 2 (by decide) hi.1 hi.2) dL_law_281 rfl ?_
  refine zi_callVi (pc' := 285) X zl_L_21 (k0 := 66) rfl (by decide) [.int (xs (nI i + (1 : Int32)).toNatClampNeg), .int (xs (nI i + (2 : Int32)).toNatClampNeg)] rfl rfl (by decide) (Nat.le_of_ble_eq_true rfl) dL_law_282 rfl (tX6_spring g rfl (zok_imp h1 (fun r2 m2 h2 => ?_)))
  obtain ⟨e, hI⟩ := h2
  refine zi_icmp_eq (pc' := 288) (tgt := 1597) X dL_law_285 rfl rfl (fun c => next _ hI) (fun c => absurd e c)
def zE2 (Inv : zMem → Prop) : Prop := ∀ (a1 : Int32) (a2 : Int32) (μ : zMem), Inv μ → zok (fX5_cell 0 a1 a2 μ) (fun r μ1 => zok (fX6_cell 66 a1 a2 μ1) (fun r' μ2 => r = r' ∧ Inv μ2))
set_option maxRecDepth 100000 in
theorem zlaw_2 {g : zG} {κ : zK} (X : zC g κ RL code 4 11) {b L : Nat} {xs : Nat → Int32} (Y : zLw κ b L xs) {Inv : zMem → Prop} {i : Nat} (hi : i + 6 ≤ L ∧ L ≤ 3072) (hc : zE2 Inv) (next : ∀ μ, Inv μ → zV g κ 1597 (zlv g b i) [] μ) {μ : zMem} (h : Inv μ) : zV g κ 290 (zlv g b i) [] μ := by
  refine zi_aload_n (pc' := 291) X dL_law_290 rfl rfl 1 rfl ?_
  refine zi_aload_n (pc' := 292) X dL_law_291 rfl rfl 0 rfl ?_
  refine zi_iload_n (pc' := 293) X dL_law_292 rfl rfl 3 rfl ?_
  refine zi_iconst (pc' := 294) (v := (1 : Int32)) X dL_law_293 rfl rfl ?_
  refine zi_iadd (pc' := 295) X dL_law_294 rfl ?_
  refine zi_sld (pc' := 296) X Y (zsi 1 (by decide) hi.1 hi.2) dL_law_295 rfl ?_
  refine zi_aload_n (pc' := 297) X dL_law_296 rfl rfl 0 rfl ?_
  refine zi_iload_n (pc' := 298) X dL_law_297 rfl rfl 3 rfl ?_
  refine zi_iconst (pc' := 299) (v := (2 : Int32)) X dL_law_298 rfl rfl ?_
  refine zi_iadd (pc' := 300) X dL_law_299 rfl ?_
  refine zi_sld (pc' := 301) X Y (zsi 2 (by decide) hi.1 hi.2) dL_law_300 rfl ?_
  refine zi_callVi (pc' := 304) X zl_L_22 (k0 := 0) rfl (by decide) [.int (xs (nI i + (1 : Int32)).toNatClampNeg), .int (xs (nI i + (2 : Int32)).toNatClampNeg)] rfl rfl (by decide) (Nat.le_of_ble_eq_true rfl) dL_law_301 rfl (tX5_cell g rfl (zok_imp (hc (xs (nI i + (1 : Int32)).toNatClampNeg) (xs (nI i + (2 : Int32)).toNatClampNeg) μ h) (fun r1 m1 h1 => ?_)))
  refine zi_aload_n (pc' := 305) X dL_law_304 rfl rfl 2 rfl ?_
  refine zi_aload_n (pc' := 306) X dL_law_305 rfl rfl 0 rfl ?_
  refine zi_iload_n (pc' := 307) X dL_law_306 rfl rfl 3 rfl ?_
  refine zi_iconst (pc' := 308) (v := (1 : Int32)) X dL_law_307 rfl rfl ?_
  refine zi_iadd (pc' := 309) X dL_law_308 rfl ?_
  refine zi_sld (pc' := 310) X Y (zsi 1 (by decide) hi.1 hi.2) dL_law_309 rfl ?_
  refine zi_aload_n (pc' := 311) X dL_law_310 rfl rfl 0 rfl ?_
  refine zi_iload_n (pc' := 312) X dL_law_311 rfl rfl 3 rfl ?_
  refine zi_iconst (pc' := 313) (v := (2 : Int32)) X dL_law_312 rfl rfl ?_
  refine zi_iadd (pc' := 314) X dL_law_313 rfl ?_
  refine zi_sld (pc' := 315) X Y (zsi 2 (by decide) hi.1 hi.2) dL_law_314 rfl ?_
  refine zi_callVi (pc' := 318) X zl_L_25 (k0 := 66) rfl (by decide) [.int (xs (nI i + (1 : Int32)).toNatClampNeg), .int (xs (nI i + (2 : Int32)).toNatClampNeg)] rfl rfl (by decide) (Nat.le_of_ble_eq_true rfl) dL_law_315 rfl (tX6_cell g rfl (zok_imp h1 (fun r2 m2 h2 => ?_)))
  obtain ⟨e, hI⟩ := h2
  refine zi_icmp_eq (pc' := 321) (tgt := 1597) X dL_law_318 rfl rfl (fun c => next _ hI) (fun c => absurd e c)
def zE3 (Inv : zMem → Prop) : Prop := ∀ (a1 : Int32) (μ : zMem), Inv μ → zok (fX5_tent 0 a1 μ) (fun r μ1 => zok (fX6_tent 66 a1 μ1) (fun r' μ2 => r = r' ∧ Inv μ2))
set_option maxRecDepth 100000 in
theorem zlaw_3 {g : zG} {κ : zK} (X : zC g κ RL code 4 11) {b L : Nat} {xs : Nat → Int32} (Y : zLw κ b L xs) {Inv : zMem → Prop} {i : Nat} (hi : i + 6 ≤ L ∧ L ≤ 3072) (hc : zE3 Inv) (next : ∀ μ, Inv μ → zV g κ 1597 (zlv g b i) [] μ) {μ : zMem} (h : Inv μ) : zV g κ 323 (zlv g b i) [] μ := by
  refine zi_aload_n (pc' := 324) X dL_law_323 rfl rfl 1 rfl ?_
  refine zi_aload_n (pc' := 325) X dL_law_324 rfl rfl 0 rfl ?_
  refine zi_iload_n (pc' := 326) X dL_law_325 rfl rfl 3 rfl ?_
  refine zi_iconst (pc' := 327) (v := (1 : Int32)) X dL_law_326 rfl rfl ?_
  refine zi_iadd (pc' := 328) X dL_law_327 rfl ?_
  refine zi_sld (pc' := 329) X Y (zsi 1 (by decide) hi.1 hi.2) dL_law_328 rfl ?_
  refine zi_callVi (pc' := 332) X zl_L_26 (k0 := 0) rfl (by decide) [.int (xs (nI i + (1 : Int32)).toNatClampNeg)] rfl rfl (by decide) (Nat.le_of_ble_eq_true rfl) dL_law_329 rfl (tX5_tent g rfl (zok_imp (hc (xs (nI i + (1 : Int32)).toNatClampNeg) μ h) (fun r1 m1 h1 => ?_)))
  refine zi_aload_n (pc' := 333) X dL_law_332 rfl rfl 2 rfl ?_
  refine zi_aload_n (pc' := 334) X dL_law_333 rfl rfl 0 rfl ?_
  refine zi_iload_n (pc' := 335) X dL_law_334 rfl rfl 3 rfl ?_
  refine zi_iconst (pc' := 336) (v := (1 : Int32)) X dL_law_335 rfl rfl ?_
  refine zi_iadd (pc' := 337) X dL_law_336 rfl ?_
  refine zi_sld (pc' := 338) X Y (zsi 1 (by decide) hi.1 hi.2) dL_law_337 rfl ?_
  refine zi_callVi (pc' := 341) X zl_L_30 (k0 := 66) rfl (by decide) [.int (xs (nI i + (1 : Int32)).toNatClampNeg)] rfl rfl (by decide) (Nat.le_of_ble_eq_true rfl) dL_law_338 rfl (tX6_tent g rfl (zok_imp h1 (fun r2 m2 h2 => ?_)))
  obtain ⟨e, hI⟩ := h2
  refine zi_icmp_eq (pc' := 344) (tgt := 1597) X dL_law_341 rfl rfl (fun c => next _ hI) (fun c => absurd e c)
def zE4 (Inv : zMem → Prop) : Prop := ∀ (a1 : Int32) (a2 : Int32) (μ : zMem), Inv μ → zok (fX5_of 0 a1 a2 μ) (fun r μ1 => zok (fX6_of 66 a1 a2 μ1) (fun r' μ2 => r = r' ∧ Inv μ2))
set_option maxRecDepth 100000 in
theorem zlaw_4 {g : zG} {κ : zK} (X : zC g κ RL code 4 11) {b L : Nat} {xs : Nat → Int32} (Y : zLw κ b L xs) {Inv : zMem → Prop} {i : Nat} (hi : i + 6 ≤ L ∧ L ≤ 3072) (hc : zE4 Inv) (next : ∀ μ, Inv μ → zV g κ 1597 (zlv g b i) [] μ) {μ : zMem} (h : Inv μ) : zV g κ 346 (zlv g b i) [] μ := by
  refine zi_aload_n (pc' := 347) X dL_law_346 rfl rfl 1 rfl ?_
  refine zi_aload_n (pc' := 348) X dL_law_347 rfl rfl 0 rfl ?_
  refine zi_iload_n (pc' := 349) X dL_law_348 rfl rfl 3 rfl ?_
  refine zi_iconst (pc' := 350) (v := (1 : Int32)) X dL_law_349 rfl rfl ?_
  refine zi_iadd (pc' := 351) X dL_law_350 rfl ?_
  refine zi_sld (pc' := 352) X Y (zsi 1 (by decide) hi.1 hi.2) dL_law_351 rfl ?_
  refine zi_aload_n (pc' := 353) X dL_law_352 rfl rfl 0 rfl ?_
  refine zi_iload_n (pc' := 354) X dL_law_353 rfl rfl 3 rfl ?_
  refine zi_iconst (pc' := 355) (v := (2 : Int32)) X dL_law_354 rfl rfl ?_
  refine zi_iadd (pc' := 356) X dL_law_355 rfl ?_
  refine zi_sld (pc' := 357) X Y (zsi 2 (by decide) hi.1 hi.2) dL_law_356 rfl ?_
  refine zi_callVi (pc' := 360) X zl_L_31 (k0 := 0) rfl (by decide) [.int (xs (nI i + (1 : Int32)).toNatClampNeg), .int (xs (nI i + (2 : Int32)).toNatClampNeg)] rfl rfl (by decide) (Nat.le_of_ble_eq_true rfl) dL_law_357 rfl (tX5_of g rfl (zok_imp (hc (xs (nI i + (1 : Int32)).toNatClampNeg) (xs (nI i + (2 : Int32)).toNatClampNeg) μ h) (fun r1 m1 h1 => ?_)))
  refine zi_aload_n (pc' := 361) X dL_law_360 rfl rfl 2 rfl ?_
  refine zi_aload_n (pc' := 362) X dL_law_361 rfl rfl 0 rfl ?_
  refine zi_iload_n (pc' := 363) X dL_law_362 rfl rfl 3 rfl ?_
  refine zi_iconst (pc' := 364) (v := (1 : Int32)) X dL_law_363 rfl rfl ?_
  refine zi_iadd (pc' := 365) X dL_law_364 rfl ?_
  refine zi_sld (pc' := 366) X Y (zsi 1 (by decide) hi.1 hi.2) dL_law_365 rfl ?_
  refine zi_aload_n (pc' := 367) X dL_law_366 rfl rfl 0 rfl ?_
  refine zi_iload_n (pc' := 368) X dL_law_367 rfl rfl 3 rfl ?_
  refine zi_iconst (pc' := 369) (v := (2 : Int32)) X dL_law_368 rfl rfl ?_
  refine zi_iadd (pc' := 370) X dL_law_369 rfl ?_
  refine zi_sld (pc' := 371) X Y (zsi 2 (by decide) hi.1 hi.2) dL_law_370 rfl ?_
  refine zi_callVi (pc' := 374) X zl_L_34 (k0 := 66) rfl (by decide) [.int (xs (nI i + (1 : Int32)).toNatClampNeg), .int (xs (nI i + (2 : Int32)).toNatClampNeg)] rfl rfl (by decide) (Nat.le_of_ble_eq_true rfl) dL_law_371 rfl (tX6_of g rfl (zok_imp h1 (fun r2 m2 h2 => ?_)))
  obtain ⟨e, hI⟩ := h2
  refine zi_icmp_eq (pc' := 377) (tgt := 1597) X dL_law_374 rfl rfl (fun c => next _ hI) (fun c => absurd e c)
def zE5 (Inv : zMem → Prop) : Prop := ∀ (a1 : Int32) (a2 : Int32) (a3 : Int32) (μ : zMem), Inv μ → zok (fX5_change 0 a1 a2 a3 μ) (fun r μ1 => zok (fX6_change 66 a1 a2 a3 μ1) (fun r' μ2 => r = r' ∧ Inv μ2))
set_option maxRecDepth 100000 in
theorem zlaw_5 {g : zG} {κ : zK} (X : zC g κ RL code 4 11) {b L : Nat} {xs : Nat → Int32} (Y : zLw κ b L xs) {Inv : zMem → Prop} {i : Nat} (hi : i + 6 ≤ L ∧ L ≤ 3072) (hc : zE5 Inv) (next : ∀ μ, Inv μ → zV g κ 1597 (zlv g b i) [] μ) {μ : zMem} (h : Inv μ) : zV g κ 379 (zlv g b i) [] μ := by
  refine zi_aload_n (pc' := 380) X dL_law_379 rfl rfl 1 rfl ?_
  refine zi_aload_n (pc' := 381) X dL_law_380 rfl rfl 0 rfl ?_
  refine zi_iload_n (pc' := 382) X dL_law_381 rfl rfl 3 rfl ?_
  refine zi_iconst (pc' := 383) (v := (1 : Int32)) X dL_law_382 rfl rfl ?_
  refine zi_iadd (pc' := 384) X dL_law_383 rfl ?_
  refine zi_sld (pc' := 385) X Y (zsi 1 (by decide) hi.1 hi.2) dL_law_384 rfl ?_
  refine zi_aload_n (pc' := 386) X dL_law_385 rfl rfl 0 rfl ?_
  refine zi_iload_n (pc' := 387) X dL_law_386 rfl rfl 3 rfl ?_
  refine zi_iconst (pc' := 388) (v := (2 : Int32)) X dL_law_387 rfl rfl ?_
  refine zi_iadd (pc' := 389) X dL_law_388 rfl ?_
  refine zi_sld (pc' := 390) X Y (zsi 2 (by decide) hi.1 hi.2) dL_law_389 rfl ?_
  refine zi_aload_n (pc' := 391) X dL_law_390 rfl rfl 0 rfl ?_
  refine zi_iload_n (pc' := 392) X dL_law_391 rfl rfl 3 rfl ?_
  refine zi_iconst (pc' := 393) (v := (3 : Int32)) X dL_law_392 rfl rfl ?_
  refine zi_iadd (pc' := 394) X dL_law_393 rfl ?_
  refine zi_sld (pc' := 395) X Y (zsi 3 (by decide) hi.1 hi.2) dL_law_394 rfl ?_
  refine zi_callVi (pc' := 398) X zl_L_35 (k0 := 0) rfl (by decide) [.int (xs (nI i + (1 : Int32)).toNatClampNeg), .int (xs (nI i + (2 : Int32)).toNatClampNeg), .int (xs (nI i + (3 : Int32)).toNatClampNeg)] rfl rfl (by decide) (Nat.le_of_ble_eq_true rfl) dL_law_395 rfl (tX5_change g rfl (zok_imp (hc (xs (nI i + (1 : Int32)).toNatClampNeg) (xs (nI i + (2 : Int32)).toNatClampNeg) (xs (nI i + (3 : Int32)).toNatClampNeg) μ h) (fun r1 m1 h1 => ?_)))
  refine zi_aload_n (pc' := 399) X dL_law_398 rfl rfl 2 rfl ?_
  refine zi_aload_n (pc' := 400) X dL_law_399 rfl rfl 0 rfl ?_
  refine zi_iload_n (pc' := 401) X dL_law_400 rfl rfl 3 rfl ?_
  refine zi_iconst (pc' := 402) (v := (1 : Int32)) X dL_law_401 rfl rfl ?_
  refine zi_iadd (pc' := 403) X dL_law_402 rfl ?_
  refine zi_sld (pc' := 404) X Y (zsi 1 (by decide) hi.1 hi.2) dL_law_403 rfl ?_
  refine zi_aload_n (pc' := 405) X dL_law_404 rfl rfl 0 rfl ?_
  refine zi_iload_n (pc' := 406) X dL_law_405 rfl rfl 3 rfl ?_
  refine zi_iconst (pc' := 407) (v := (2 : Int32)) X dL_law_406 rfl rfl ?_
  refine zi_iadd (pc' := 408) X dL_law_407 rfl ?_
  refine zi_sld (pc' := 409) X Y (zsi 2 (by decide) hi.1 hi.2) dL_law_408 rfl ?_
  refine zi_aload_n (pc' := 410) X dL_law_409 rfl rfl 0 rfl ?_
  refine zi_iload_n (pc' := 411) X dL_law_410 rfl rfl 3 rfl ?_
  refine zi_iconst (pc' := 412) (v := (3 : Int32)) X dL_law_411 rfl rfl ?_
  refine zi_iadd (pc' := 413) X dL_law_412 rfl ?_
  refine zi_sld (pc' := 414) X Y (zsi 3 (by decide) hi.1 hi.2) dL_law_413 rfl ?_
  refine zi_callVi (pc' := 417) X zl_L_39 (k0 := 66) rfl (by decide) [.int (xs (nI i + (1 : Int32)).toNatClampNeg), .int (xs (nI i + (2 : Int32)).toNatClampNeg), .int (xs (nI i + (3 : Int32)).toNatClampNeg)] rfl rfl (by decide) (Nat.le_of_ble_eq_true rfl) dL_law_414 rfl (tX6_change g rfl (zok_imp h1 (fun r2 m2 h2 => ?_)))
  obtain ⟨e, hI⟩ := h2
  refine zi_icmp_eq (pc' := 420) (tgt := 1597) X dL_law_417 rfl rfl (fun c => next _ hI) (fun c => absurd e c)
def zE6 (Inv : zMem → Prop) : Prop := ∀ (a1 : Int32) (μ : zMem), Inv μ → zok (fX5_beat 0 a1 μ) (fun r μ1 => zok (fX6_beat 66 a1 μ1) (fun r' μ2 => r = r' ∧ Inv μ2))
set_option maxRecDepth 100000 in
theorem zlaw_6 {g : zG} {κ : zK} (X : zC g κ RL code 4 11) {b L : Nat} {xs : Nat → Int32} (Y : zLw κ b L xs) {Inv : zMem → Prop} {i : Nat} (hi : i + 6 ≤ L ∧ L ≤ 3072) (hc : zE6 Inv) (next : ∀ μ, Inv μ → zV g κ 1597 (zlv g b i) [] μ) {μ : zMem} (h : Inv μ) : zV g κ 422 (zlv g b i) [] μ := by
  refine zi_aload_n (pc' := 423) X dL_law_422 rfl rfl 1 rfl ?_
  refine zi_aload_n (pc' := 424) X dL_law_423 rfl rfl 0 rfl ?_
  refine zi_iload_n (pc' := 425) X dL_law_424 rfl rfl 3 rfl ?_
  refine zi_iconst (pc' := 426) (v := (1 : Int32)) X dL_law_425 rfl rfl ?_
  refine zi_iadd (pc' := 427) X dL_law_426 rfl ?_
  refine zi_sld (pc' := 428) X Y (zsi 1 (by decide) hi.1 hi.2) dL_law_427 rfl ?_
  refine zi_callVi (pc' := 431) X zl_L_40 (k0 := 0) rfl (by decide) [.int (xs (nI i + (1 : Int32)).toNatClampNeg)] rfl rfl (by decide) (Nat.le_of_ble_eq_true rfl) dL_law_428 rfl (tX5_beat g rfl (zok_imp (hc (xs (nI i + (1 : Int32)).toNatClampNeg) μ h) (fun r1 m1 h1 => ?_)))
  refine zi_aload_n (pc' := 432) X dL_law_431 rfl rfl 2 rfl ?_
  refine zi_aload_n (pc' := 433) X dL_law_432 rfl rfl 0 rfl ?_
  refine zi_iload_n (pc' := 434) X dL_law_433 rfl rfl 3 rfl ?_
  refine zi_iconst (pc' := 435) (v := (1 : Int32)) X dL_law_434 rfl rfl ?_
  refine zi_iadd (pc' := 436) X dL_law_435 rfl ?_
  refine zi_sld (pc' := 437) X Y (zsi 1 (by decide) hi.1 hi.2) dL_law_436 rfl ?_
  refine zi_callVi (pc' := 440) X zl_L_43 (k0 := 66) rfl (by decide) [.int (xs (nI i + (1 : Int32)).toNatClampNeg)] rfl rfl (by decide) (Nat.le_of_ble_eq_true rfl) dL_law_437 rfl (tX6_beat g rfl (zok_imp h1 (fun r2 m2 h2 => ?_)))
  obtain ⟨e, hI⟩ := h2
  refine zi_icmp_eq (pc' := 443) (tgt := 1597) X dL_law_440 rfl rfl (fun c => next _ hI) (fun c => absurd e c)
def zE7 (Inv : zMem → Prop) : Prop := ∀ (a1 : Int32) (μ : zMem), Inv μ → zok (fX5_go 0 a1 μ) (fun r μ1 => zok (fX6_go 66 a1 μ1) (fun r' μ2 => r = r' ∧ Inv μ2))
set_option maxRecDepth 100000 in
theorem zlaw_7 {g : zG} {κ : zK} (X : zC g κ RL code 4 11) {b L : Nat} {xs : Nat → Int32} (Y : zLw κ b L xs) {Inv : zMem → Prop} {i : Nat} (hi : i + 6 ≤ L ∧ L ≤ 3072) (hc : zE7 Inv) (next : ∀ μ, Inv μ → zV g κ 1597 (zlv g b i) [] μ) {μ : zMem} (h : Inv μ) : zV g κ 445 (zlv g b i) [] μ := by
  refine zi_aload_n (pc' := 446) X dL_law_445 rfl rfl 1 rfl ?_
  refine zi_aload_n (pc' := 447) X dL_law_446 rfl rfl 0 rfl ?_
  refine zi_iload_n (pc' := 448) X dL_law_447 rfl rfl 3 rfl ?_
  refine zi_iconst (pc' := 449) (v := (1 : Int32)) X dL_law_448 rfl rfl ?_
  refine zi_iadd (pc' := 450) X dL_law_449 rfl ?_
  refine zi_sld (pc' := 451) X Y (zsi 1 (by decide) hi.1 hi.2) dL_law_450 rfl ?_
  refine zi_callVi (pc' := 454) X zl_L_44 (k0 := 0) rfl (by decide) [.int (xs (nI i + (1 : Int32)).toNatClampNeg)] rfl rfl (by decide) (Nat.le_of_ble_eq_true rfl) dL_law_451 rfl (tX5_go g rfl (zok_imp (hc (xs (nI i + (1 : Int32)).toNatClampNeg) μ h) (fun r1 m1 h1 => ?_)))
  refine zi_aload_n (pc' := 455) X dL_law_454 rfl rfl 2 rfl ?_
  refine zi_aload_n (pc' := 456) X dL_law_455 rfl rfl 0 rfl ?_
  refine zi_iload_n (pc' := 457) X dL_law_456 rfl rfl 3 rfl ?_
  refine zi_iconst (pc' := 458) (v := (1 : Int32)) X dL_law_457 rfl rfl ?_
  refine zi_iadd (pc' := 459) X dL_law_458 rfl ?_
  refine zi_sld (pc' := 460) X Y (zsi 1 (by decide) hi.1 hi.2) dL_law_459 rfl ?_
  refine zi_callVi (pc' := 463) X zl_L_47 (k0 := 66) rfl (by decide) [.int (xs (nI i + (1 : Int32)).toNatClampNeg)] rfl rfl (by decide) (Nat.le_of_ble_eq_true rfl) dL_law_460 rfl (tX6_go g rfl (zok_imp h1 (fun r2 m2 h2 => ?_)))
  obtain ⟨e, hI⟩ := h2
  refine zi_icmp_eq (pc' := 466) (tgt := 1597) X dL_law_463 rfl rfl (fun c => next _ hI) (fun c => absurd e c)
def zE8 (Inv : zMem → Prop) : Prop := ∀ (a1 : Int32) (μ : zMem), Inv μ → zok (fX5_now 0 a1 μ) (fun r μ1 => zok (fX6_now 66 a1 μ1) (fun r' μ2 => r = r' ∧ Inv μ2))
set_option maxRecDepth 100000 in
theorem zlaw_8 {g : zG} {κ : zK} (X : zC g κ RL code 4 11) {b L : Nat} {xs : Nat → Int32} (Y : zLw κ b L xs) {Inv : zMem → Prop} {i : Nat} (hi : i + 6 ≤ L ∧ L ≤ 3072) (hc : zE8 Inv) (next : ∀ μ, Inv μ → zV g κ 1597 (zlv g b i) [] μ) {μ : zMem} (h : Inv μ) : zV g κ 468 (zlv g b i) [] μ := by
  refine zi_aload_n (pc' := 469) X dL_law_468 rfl rfl 1 rfl ?_
  refine zi_aload_n (pc' := 470) X dL_law_469 rfl rfl 0 rfl ?_
  refine zi_iload_n (pc' := 471) X dL_law_470 rfl rfl 3 rfl ?_
  refine zi_iconst (pc' := 472) (v := (1 : Int32)) X dL_law_471 rfl rfl ?_
  refine zi_iadd (pc' := 473) X dL_law_472 rfl ?_
  refine zi_sld (pc' := 474) X Y (zsi 1 (by decide) hi.1 hi.2) dL_law_473 rfl ?_
  refine zi_callVi (pc' := 477) X zl_L_48 (k0 := 0) rfl (by decide) [.int (xs (nI i + (1 : Int32)).toNatClampNeg)] rfl rfl (by decide) (Nat.le_of_ble_eq_true rfl) dL_law_474 rfl (tX5_now g rfl (zok_imp (hc (xs (nI i + (1 : Int32)).toNatClampNeg) μ h) (fun r1 m1 h1 => ?_)))
  refine zi_aload_n (pc' := 478) X dL_law_477 rfl rfl 2 rfl ?_
  refine zi_aload_n (pc' := 479) X dL_law_478 rfl rfl 0 rfl ?_
  refine zi_iload_n (pc' := 480) X dL_law_479 rfl rfl 3 rfl ?_
  refine zi_iconst (pc' := 481) (v := (1 : Int32)) X dL_law_480 rfl rfl ?_
  refine zi_iadd (pc' := 482) X dL_law_481 rfl ?_
  refine zi_sld (pc' := 483) X Y (zsi 1 (by decide) hi.1 hi.2) dL_law_482 rfl ?_
  refine zi_callVi (pc' := 486) X zl_L_51 (k0 := 66) rfl (by decide) [.int (xs (nI i + (1 : Int32)).toNatClampNeg)] rfl rfl (by decide) (Nat.le_of_ble_eq_true rfl) dL_law_483 rfl (tX6_now g rfl (zok_imp h1 (fun r2 m2 h2 => ?_)))
  obtain ⟨e, hI⟩ := h2
  refine zi_icmp_eq (pc' := 489) (tgt := 1597) X dL_law_486 rfl rfl (fun c => next _ hI) (fun c => absurd e c)
def zE9 (Inv : zMem → Prop) : Prop := ∀ (a1 : Int32) (a2 : Int32) (a3 : Int32) (μ : zMem), Inv μ → zok (fX5_way 0 a1 a2 a3 μ) (fun r μ1 => zok (fX6_way 66 a1 a2 a3 μ1) (fun r' μ2 => r = r' ∧ Inv μ2))
set_option maxRecDepth 100000 in
theorem zlaw_9 {g : zG} {κ : zK} (X : zC g κ RL code 4 11) {b L : Nat} {xs : Nat → Int32} (Y : zLw κ b L xs) {Inv : zMem → Prop} {i : Nat} (hi : i + 6 ≤ L ∧ L ≤ 3072) (hc : zE9 Inv) (next : ∀ μ, Inv μ → zV g κ 1597 (zlv g b i) [] μ) {μ : zMem} (h : Inv μ) : zV g κ 491 (zlv g b i) [] μ := by
  refine zi_aload_n (pc' := 492) X dL_law_491 rfl rfl 1 rfl ?_
  refine zi_aload_n (pc' := 493) X dL_law_492 rfl rfl 0 rfl ?_
  refine zi_iload_n (pc' := 494) X dL_law_493 rfl rfl 3 rfl ?_
  refine zi_iconst (pc' := 495) (v := (1 : Int32)) X dL_law_494 rfl rfl ?_
  refine zi_iadd (pc' := 496) X dL_law_495 rfl ?_
  refine zi_sld (pc' := 497) X Y (zsi 1 (by decide) hi.1 hi.2) dL_law_496 rfl ?_
  refine zi_aload_n (pc' := 498) X dL_law_497 rfl rfl 0 rfl ?_
  refine zi_iload_n (pc' := 499) X dL_law_498 rfl rfl 3 rfl ?_
  refine zi_iconst (pc' := 500) (v := (2 : Int32)) X dL_law_499 rfl rfl ?_
  refine zi_iadd (pc' := 501) X dL_law_500 rfl ?_
  refine zi_sld (pc' := 502) X Y (zsi 2 (by decide) hi.1 hi.2) dL_law_501 rfl ?_
  refine zi_aload_n (pc' := 503) X dL_law_502 rfl rfl 0 rfl ?_
  refine zi_iload_n (pc' := 504) X dL_law_503 rfl rfl 3 rfl ?_
  refine zi_iconst (pc' := 505) (v := (3 : Int32)) X dL_law_504 rfl rfl ?_
  refine zi_iadd (pc' := 506) X dL_law_505 rfl ?_
  refine zi_sld (pc' := 507) X Y (zsi 3 (by decide) hi.1 hi.2) dL_law_506 rfl ?_
  refine zi_callVi (pc' := 510) X zl_L_52 (k0 := 0) rfl (by decide) [.int (xs (nI i + (1 : Int32)).toNatClampNeg), .int (xs (nI i + (2 : Int32)).toNatClampNeg), .int (xs (nI i + (3 : Int32)).toNatClampNeg)] rfl rfl (by decide) (Nat.le_of_ble_eq_true rfl) dL_law_507 rfl (tX5_way g rfl (zok_imp (hc (xs (nI i + (1 : Int32)).toNatClampNeg) (xs (nI i + (2 : Int32)).toNatClampNeg) (xs (nI i + (3 : Int32)).toNatClampNeg) μ h) (fun r1 m1 h1 => ?_)))
  refine zi_aload_n (pc' := 511) X dL_law_510 rfl rfl 2 rfl ?_
  refine zi_aload_n (pc' := 512) X dL_law_511 rfl rfl 0 rfl ?_
  refine zi_iload_n (pc' := 513) X dL_law_512 rfl rfl 3 rfl ?_
  refine zi_iconst (pc' := 514) (v := (1 : Int32)) X dL_law_513 rfl rfl ?_
  refine zi_iadd (pc' := 515) X dL_law_514 rfl ?_
  refine zi_sld (pc' := 516) X Y (zsi 1 (by decide) hi.1 hi.2) dL_law_515 rfl ?_
  refine zi_aload_n (pc' := 517) X dL_law_516 rfl rfl 0 rfl ?_
  refine zi_iload_n (pc' := 518) X dL_law_517 rfl rfl 3 rfl ?_
  refine zi_iconst (pc' := 519) (v := (2 : Int32)) X dL_law_518 rfl rfl ?_
  refine zi_iadd (pc' := 520) X dL_law_519 rfl ?_
  refine zi_sld (pc' := 521) X Y (zsi 2 (by decide) hi.1 hi.2) dL_law_520 rfl ?_
  refine zi_aload_n (pc' := 522) X dL_law_521 rfl rfl 0 rfl ?_
  refine zi_iload_n (pc' := 523) X dL_law_522 rfl rfl 3 rfl ?_
  refine zi_iconst (pc' := 524) (v := (3 : Int32)) X dL_law_523 rfl rfl ?_
  refine zi_iadd (pc' := 525) X dL_law_524 rfl ?_
  refine zi_sld (pc' := 526) X Y (zsi 3 (by decide) hi.1 hi.2) dL_law_525 rfl ?_
  refine zi_callVi (pc' := 529) X zl_L_55 (k0 := 66) rfl (by decide) [.int (xs (nI i + (1 : Int32)).toNatClampNeg), .int (xs (nI i + (2 : Int32)).toNatClampNeg), .int (xs (nI i + (3 : Int32)).toNatClampNeg)] rfl rfl (by decide) (Nat.le_of_ble_eq_true rfl) dL_law_526 rfl (tX6_way g rfl (zok_imp h1 (fun r2 m2 h2 => ?_)))
  obtain ⟨e, hI⟩ := h2
  refine zi_icmp_eq (pc' := 532) (tgt := 1597) X dL_law_529 rfl rfl (fun c => next _ hI) (fun c => absurd e c)
def zE10 (Inv : zMem → Prop) : Prop := ∀ (a1 : Int32) (a2 : Int32) (μ : zMem), Inv μ → zok (fX5_climb 0 a1 a2 μ) (fun r μ1 => zok (fX6_climb 66 a1 a2 μ1) (fun r' μ2 => r = r' ∧ Inv μ2))
set_option maxRecDepth 100000 in
theorem zlaw_10 {g : zG} {κ : zK} (X : zC g κ RL code 4 11) {b L : Nat} {xs : Nat → Int32} (Y : zLw κ b L xs) {Inv : zMem → Prop} {i : Nat} (hi : i + 6 ≤ L ∧ L ≤ 3072) (hc : zE10 Inv) (next : ∀ μ, Inv μ → zV g κ 1597 (zlv g b i) [] μ) {μ : zMem} (h : Inv μ) : zV g κ 534 (zlv g b i) [] μ := by
  refine zi_aload_n (pc' := 535) X dL_law_534 rfl rfl 1 rfl ?_
  refine zi_aload_n (pc' := 536) X dL_law_535 rfl rfl 0 rfl ?_
  refine zi_iload_n (pc' := 537) X dL_law_536 rfl rfl 3 rfl ?_
  refine zi_iconst (pc' := 538) (v := (1 : Int32)) X dL_law_537 rfl rfl ?_
  refine zi_iadd (pc' := 539) X dL_law_538 rfl ?_
  refine zi_sld (pc' := 540) X Y (zsi 1 (by decide) hi.1 hi.2) dL_law_539 rfl ?_
  refine zi_aload_n (pc' := 541) X dL_law_540 rfl rfl 0 rfl ?_
  refine zi_iload_n (pc' := 542) X dL_law_541 rfl rfl 3 rfl ?_
  refine zi_iconst (pc' := 543) (v := (2 : Int32)) X dL_law_542 rfl rfl ?_
  refine zi_iadd (pc' := 544) X dL_law_543 rfl ?_
  refine zi_sld (pc' := 545) X Y (zsi 2 (by decide) hi.1 hi.2) dL_law_544 rfl ?_
  refine zi_callVi (pc' := 548) X zl_L_56 (k0 := 0) rfl (by decide) [.int (xs (nI i + (1 : Int32)).toNatClampNeg), .int (xs (nI i + (2 : Int32)).toNatClampNeg)] rfl rfl (by decide) (Nat.le_of_ble_eq_true rfl) dL_law_545 rfl (tX5_climb g rfl (zok_imp (hc (xs (nI i + (1 : Int32)).toNatClampNeg) (xs (nI i + (2 : Int32)).toNatClampNeg) μ h) (fun r1 m1 h1 => ?_)))
  refine zi_aload_n (pc' := 549) X dL_law_548 rfl rfl 2 rfl ?_
  refine zi_aload_n (pc' := 550) X dL_law_549 rfl rfl 0 rfl ?_
  refine zi_iload_n (pc' := 551) X dL_law_550 rfl rfl 3 rfl ?_
  refine zi_iconst (pc' := 552) (v := (1 : Int32)) X dL_law_551 rfl rfl ?_
  refine zi_iadd (pc' := 553) X dL_law_552 rfl ?_
  refine zi_sld (pc' := 554) X Y (zsi 1 (by decide) hi.1 hi.2) dL_law_553 rfl ?_
  refine zi_aload_n (pc' := 555) X dL_law_554 rfl rfl 0 rfl ?_
  refine zi_iload_n (pc' := 556) X dL_law_555 rfl rfl 3 rfl ?_
  refine zi_iconst (pc' := 557) (v := (2 : Int32)) X dL_law_556 rfl rfl ?_
  refine zi_iadd (pc' := 558) X dL_law_557 rfl ?_
  refine zi_sld (pc' := 559) X Y (zsi 2 (by decide) hi.1 hi.2) dL_law_558 rfl ?_
  refine zi_callVi (pc' := 562) X zl_L_59 (k0 := 66) rfl (by decide) [.int (xs (nI i + (1 : Int32)).toNatClampNeg), .int (xs (nI i + (2 : Int32)).toNatClampNeg)] rfl rfl (by decide) (Nat.le_of_ble_eq_true rfl) dL_law_559 rfl (tX6_climb g rfl (zok_imp h1 (fun r2 m2 h2 => ?_)))
  obtain ⟨e, hI⟩ := h2
  refine zi_icmp_eq (pc' := 565) (tgt := 1597) X dL_law_562 rfl rfl (fun c => next _ hI) (fun c => absurd e c)
def zE11 (Inv : zMem → Prop) : Prop := ∀ (a1 : Int32) (a2 : Int32) (μ : zMem), Inv μ → zok (fX5_reach 0 a1 a2 μ) (fun r μ1 => zok (fX6_reach 66 a1 a2 μ1) (fun r' μ2 => r = r' ∧ Inv μ2))
set_option maxRecDepth 100000 in
theorem zlaw_11 {g : zG} {κ : zK} (X : zC g κ RL code 4 11) {b L : Nat} {xs : Nat → Int32} (Y : zLw κ b L xs) {Inv : zMem → Prop} {i : Nat} (hi : i + 6 ≤ L ∧ L ≤ 3072) (hc : zE11 Inv) (next : ∀ μ, Inv μ → zV g κ 1597 (zlv g b i) [] μ) {μ : zMem} (h : Inv μ) : zV g κ 567 (zlv g b i) [] μ := by
  refine zi_aload_n (pc' := 568) X dL_law_567 rfl rfl 1 rfl ?_
  refine zi_aload_n (pc' := 569) X dL_law_568 rfl rfl 0 rfl ?_
  refine zi_iload_n (pc' := 570) X dL_law_569 rfl rfl 3 rfl ?_
  refine zi_iconst (pc' := 571) (v := (1 : Int32)) X dL_law_570 rfl rfl ?_
  refine zi_iadd (pc' := 572) X dL_law_571 rfl ?_
  refine zi_sld (pc' := 573) X Y (zsi 1 (by decide) hi.1 hi.2) dL_law_572 rfl ?_
  refine zi_aload_n (pc' := 574) X dL_law_573 rfl rfl 0 rfl ?_
  refine zi_iload_n (pc' := 575) X dL_law_574 rfl rfl 3 rfl ?_
  refine zi_iconst (pc' := 576) (v := (2 : Int32)) X dL_law_575 rfl rfl ?_
  refine zi_iadd (pc' := 577) X dL_law_576 rfl ?_
  refine zi_sld (pc' := 578) X Y (zsi 2 (by decide) hi.1 hi.2) dL_law_577 rfl ?_
  refine zi_callVi (pc' := 581) X zl_L_60 (k0 := 0) rfl (by decide) [.int (xs (nI i + (1 : Int32)).toNatClampNeg), .int (xs (nI i + (2 : Int32)).toNatClampNeg)] rfl rfl (by decide) (Nat.le_of_ble_eq_true rfl) dL_law_578 rfl (tX5_reach g rfl (zok_imp (hc (xs (nI i + (1 : Int32)).toNatClampNeg) (xs (nI i + (2 : Int32)).toNatClampNeg) μ h) (fun r1 m1 h1 => ?_)))
  refine zi_aload_n (pc' := 582) X dL_law_581 rfl rfl 2 rfl ?_
  refine zi_aload_n (pc' := 583) X dL_law_582 rfl rfl 0 rfl ?_
  refine zi_iload_n (pc' := 584) X dL_law_583 rfl rfl 3 rfl ?_
  refine zi_iconst (pc' := 585) (v := (1 : Int32)) X dL_law_584 rfl rfl ?_
  refine zi_iadd (pc' := 586) X dL_law_585 rfl ?_
  refine zi_sld (pc' := 587) X Y (zsi 1 (by decide) hi.1 hi.2) dL_law_586 rfl ?_
  refine zi_aload_n (pc' := 588) X dL_law_587 rfl rfl 0 rfl ?_
  refine zi_iload_n (pc' := 589) X dL_law_588 rfl rfl 3 rfl ?_
  refine zi_iconst (pc' := 590) (v := (2 : Int32)) X dL_law_589 rfl rfl ?_
  refine zi_iadd (pc' := 591) X dL_law_590 rfl ?_
  refine zi_sld (pc' := 592) X Y (zsi 2 (by decide) hi.1 hi.2) dL_law_591 rfl ?_
  refine zi_callVi (pc' := 595) X zl_L_63 (k0 := 66) rfl (by decide) [.int (xs (nI i + (1 : Int32)).toNatClampNeg), .int (xs (nI i + (2 : Int32)).toNatClampNeg)] rfl rfl (by decide) (Nat.le_of_ble_eq_true rfl) dL_law_592 rfl (tX6_reach g rfl (zok_imp h1 (fun r2 m2 h2 => ?_)))
  obtain ⟨e, hI⟩ := h2
  refine zi_icmp_eq (pc' := 598) (tgt := 1597) X dL_law_595 rfl rfl (fun c => next _ hI) (fun c => absurd e c)
def zE12 (Inv : zMem → Prop) : Prop := ∀ (a1 : Int32) (a2 : Int32) (μ : zMem), Inv μ → zok (fX5_drink 0 a1 a2 μ) (fun r μ1 => zok (fX6_drink 66 a1 a2 μ1) (fun r' μ2 => r = r' ∧ Inv μ2))
set_option maxRecDepth 100000 in
theorem zlaw_12 {g : zG} {κ : zK} (X : zC g κ RL code 4 11) {b L : Nat} {xs : Nat → Int32} (Y : zLw κ b L xs) {Inv : zMem → Prop} {i : Nat} (hi : i + 6 ≤ L ∧ L ≤ 3072) (hc : zE12 Inv) (next : ∀ μ, Inv μ → zV g κ 1597 (zlv g b i) [] μ) {μ : zMem} (h : Inv μ) : zV g κ 600 (zlv g b i) [] μ := by
  refine zi_aload_n (pc' := 601) X dL_law_600 rfl rfl 1 rfl ?_
  refine zi_aload_n (pc' := 602) X dL_law_601 rfl rfl 0 rfl ?_
  refine zi_iload_n (pc' := 603) X dL_law_602 rfl rfl 3 rfl ?_
  refine zi_iconst (pc' := 604) (v := (1 : Int32)) X dL_law_603 rfl rfl ?_
  refine zi_iadd (pc' := 605) X dL_law_604 rfl ?_
  refine zi_sld (pc' := 606) X Y (zsi 1 (by decide) hi.1 hi.2) dL_law_605 rfl ?_
  refine zi_aload_n (pc' := 607) X dL_law_606 rfl rfl 0 rfl ?_
  refine zi_iload_n (pc' := 608) X dL_law_607 rfl rfl 3 rfl ?_
  refine zi_iconst (pc' := 609) (v := (2 : Int32)) X dL_law_608 rfl rfl ?_
  refine zi_iadd (pc' := 610) X dL_law_609 rfl ?_
  refine zi_sld (pc' := 611) X Y (zsi 2 (by decide) hi.1 hi.2) dL_law_610 rfl ?_
  refine zi_callVi (pc' := 614) X zl_L_64 (k0 := 0) rfl (by decide) [.int (xs (nI i + (1 : Int32)).toNatClampNeg), .int (xs (nI i + (2 : Int32)).toNatClampNeg)] rfl rfl (by decide) (Nat.le_of_ble_eq_true rfl) dL_law_611 rfl (tX5_drink g rfl (zok_imp (hc (xs (nI i + (1 : Int32)).toNatClampNeg) (xs (nI i + (2 : Int32)).toNatClampNeg) μ h) (fun r1 m1 h1 => ?_)))
  refine zi_aload_n (pc' := 615) X dL_law_614 rfl rfl 2 rfl ?_
  refine zi_aload_n (pc' := 616) X dL_law_615 rfl rfl 0 rfl ?_
  refine zi_iload_n (pc' := 617) X dL_law_616 rfl rfl 3 rfl ?_
  refine zi_iconst (pc' := 618) (v := (1 : Int32)) X dL_law_617 rfl rfl ?_
  refine zi_iadd (pc' := 619) X dL_law_618 rfl ?_
  refine zi_sld (pc' := 620) X Y (zsi 1 (by decide) hi.1 hi.2) dL_law_619 rfl ?_
  refine zi_aload_n (pc' := 621) X dL_law_620 rfl rfl 0 rfl ?_
  refine zi_iload_n (pc' := 622) X dL_law_621 rfl rfl 3 rfl ?_
  refine zi_iconst (pc' := 623) (v := (2 : Int32)) X dL_law_622 rfl rfl ?_
  refine zi_iadd (pc' := 624) X dL_law_623 rfl ?_
  refine zi_sld (pc' := 625) X Y (zsi 2 (by decide) hi.1 hi.2) dL_law_624 rfl ?_
  refine zi_callVi (pc' := 628) X zl_L_67 (k0 := 66) rfl (by decide) [.int (xs (nI i + (1 : Int32)).toNatClampNeg), .int (xs (nI i + (2 : Int32)).toNatClampNeg)] rfl rfl (by decide) (Nat.le_of_ble_eq_true rfl) dL_law_625 rfl (tX6_drink g rfl (zok_imp h1 (fun r2 m2 h2 => ?_)))
  obtain ⟨e, hI⟩ := h2
  refine zi_icmp_eq (pc' := 631) (tgt := 1597) X dL_law_628 rfl rfl (fun c => next _ hI) (fun c => absurd e c)
def zE13 (Inv : zMem → Prop) : Prop := ∀ (a1 : Int32) (a2 : Int32) (μ : zMem), Inv μ → zok (fX5_ahead 0 a1 a2 μ) (fun r μ1 => zok (fX6_ahead 66 a1 a2 μ1) (fun r' μ2 => r = r' ∧ Inv μ2))
set_option maxRecDepth 100000 in
theorem zlaw_13 {g : zG} {κ : zK} (X : zC g κ RL code 4 11) {b L : Nat} {xs : Nat → Int32} (Y : zLw κ b L xs) {Inv : zMem → Prop} {i : Nat} (hi : i + 6 ≤ L ∧ L ≤ 3072) (hc : zE13 Inv) (next : ∀ μ, Inv μ → zV g κ 1597 (zlv g b i) [] μ) {μ : zMem} (h : Inv μ) : zV g κ 633 (zlv g b i) [] μ := by
  refine zi_aload_n (pc' := 634) X dL_law_633 rfl rfl 1 rfl ?_
  refine zi_aload_n (pc' := 635) X dL_law_634 rfl rfl 0 rfl ?_
  refine zi_iload_n (pc' := 636) X dL_law_635 rfl rfl 3 rfl ?_
  refine zi_iconst (pc' := 637) (v := (1 : Int32)) X dL_law_636 rfl rfl ?_
  refine zi_iadd (pc' := 638) X dL_law_637 rfl ?_
  refine zi_sld (pc' := 639) X Y (zsi 1 (by decide) hi.1 hi.2) dL_law_638 rfl ?_
  refine zi_aload_n (pc' := 640) X dL_law_639 rfl rfl 0 rfl ?_
  refine zi_iload_n (pc' := 641) X dL_law_640 rfl rfl 3 rfl ?_
  refine zi_iconst (pc' := 642) (v := (2 : Int32)) X dL_law_641 rfl rfl ?_
  refine zi_iadd (pc' := 643) X dL_law_642 rfl ?_
  refine zi_sld (pc' := 644) X Y (zsi 2 (by decide) hi.1 hi.2) dL_law_643 rfl ?_
  refine zi_callVi (pc' := 647) X zl_L_68 (k0 := 0) rfl (by decide) [.int (xs (nI i + (1 : Int32)).toNatClampNeg), .int (xs (nI i + (2 : Int32)).toNatClampNeg)] rfl rfl (by decide) (Nat.le_of_ble_eq_true rfl) dL_law_644 rfl (tX5_ahead g rfl (zok_imp (hc (xs (nI i + (1 : Int32)).toNatClampNeg) (xs (nI i + (2 : Int32)).toNatClampNeg) μ h) (fun r1 m1 h1 => ?_)))
  refine zi_aload_n (pc' := 648) X dL_law_647 rfl rfl 2 rfl ?_
  refine zi_aload_n (pc' := 649) X dL_law_648 rfl rfl 0 rfl ?_
  refine zi_iload_n (pc' := 650) X dL_law_649 rfl rfl 3 rfl ?_
  refine zi_iconst (pc' := 651) (v := (1 : Int32)) X dL_law_650 rfl rfl ?_
  refine zi_iadd (pc' := 652) X dL_law_651 rfl ?_
  refine zi_sld (pc' := 653) X Y (zsi 1 (by decide) hi.1 hi.2) dL_law_652 rfl ?_
  refine zi_aload_n (pc' := 654) X dL_law_653 rfl rfl 0 rfl ?_
  refine zi_iload_n (pc' := 655) X dL_law_654 rfl rfl 3 rfl ?_
  refine zi_iconst (pc' := 656) (v := (2 : Int32)) X dL_law_655 rfl rfl ?_
  refine zi_iadd (pc' := 657) X dL_law_656 rfl ?_
  refine zi_sld (pc' := 658) X Y (zsi 2 (by decide) hi.1 hi.2) dL_law_657 rfl ?_
  refine zi_callVi (pc' := 661) X zl_L_71 (k0 := 66) rfl (by decide) [.int (xs (nI i + (1 : Int32)).toNatClampNeg), .int (xs (nI i + (2 : Int32)).toNatClampNeg)] rfl rfl (by decide) (Nat.le_of_ble_eq_true rfl) dL_law_658 rfl (tX6_ahead g rfl (zok_imp h1 (fun r2 m2 h2 => ?_)))
  obtain ⟨e, hI⟩ := h2
  refine zi_icmp_eq (pc' := 664) (tgt := 1597) X dL_law_661 rfl rfl (fun c => next _ hI) (fun c => absurd e c)
def zE14 (Inv : zMem → Prop) : Prop := ∀ (a1 : Int32) (a2 : Int32) (a3 : Int32) (μ : zMem), Inv μ → zok (fX5_felt 0 a1 a2 a3 μ) (fun r μ1 => zok (fX6_felt 66 a1 a2 a3 μ1) (fun r' μ2 => r = r' ∧ Inv μ2))
set_option maxRecDepth 100000 in
theorem zlaw_14 {g : zG} {κ : zK} (X : zC g κ RL code 4 11) {b L : Nat} {xs : Nat → Int32} (Y : zLw κ b L xs) {Inv : zMem → Prop} {i : Nat} (hi : i + 6 ≤ L ∧ L ≤ 3072) (hc : zE14 Inv) (next : ∀ μ, Inv μ → zV g κ 1597 (zlv g b i) [] μ) {μ : zMem} (h : Inv μ) : zV g κ 666 (zlv g b i) [] μ := by
  refine zi_aload_n (pc' := 667) X dL_law_666 rfl rfl 1 rfl ?_
  refine zi_aload_n (pc' := 668) X dL_law_667 rfl rfl 0 rfl ?_
  refine zi_iload_n (pc' := 669) X dL_law_668 rfl rfl 3 rfl ?_
  refine zi_iconst (pc' := 670) (v := (1 : Int32)) X dL_law_669 rfl rfl ?_
  refine zi_iadd (pc' := 671) X dL_law_670 rfl ?_
  refine zi_sld (pc' := 672) X Y (zsi 1 (by decide) hi.1 hi.2) dL_law_671 rfl ?_
  refine zi_aload_n (pc' := 673) X dL_law_672 rfl rfl 0 rfl ?_
  refine zi_iload_n (pc' := 674) X dL_law_673 rfl rfl 3 rfl ?_
  refine zi_iconst (pc' := 675) (v := (2 : Int32)) X dL_law_674 rfl rfl ?_
  refine zi_iadd (pc' := 676) X dL_law_675 rfl ?_
  refine zi_sld (pc' := 677) X Y (zsi 2 (by decide) hi.1 hi.2) dL_law_676 rfl ?_
  refine zi_aload_n (pc' := 678) X dL_law_677 rfl rfl 0 rfl ?_
  refine zi_iload_n (pc' := 679) X dL_law_678 rfl rfl 3 rfl ?_
  refine zi_iconst (pc' := 680) (v := (3 : Int32)) X dL_law_679 rfl rfl ?_
  refine zi_iadd (pc' := 681) X dL_law_680 rfl ?_
  refine zi_sld (pc' := 682) X Y (zsi 3 (by decide) hi.1 hi.2) dL_law_681 rfl ?_
  refine zi_callVi (pc' := 685) X zl_L_72 (k0 := 0) rfl (by decide) [.int (xs (nI i + (1 : Int32)).toNatClampNeg), .int (xs (nI i + (2 : Int32)).toNatClampNeg), .int (xs (nI i + (3 : Int32)).toNatClampNeg)] rfl rfl (by decide) (Nat.le_of_ble_eq_true rfl) dL_law_682 rfl (tX5_felt g rfl (zok_imp (hc (xs (nI i + (1 : Int32)).toNatClampNeg) (xs (nI i + (2 : Int32)).toNatClampNeg) (xs (nI i + (3 : Int32)).toNatClampNeg) μ h) (fun r1 m1 h1 => ?_)))
  refine zi_aload_n (pc' := 686) X dL_law_685 rfl rfl 2 rfl ?_
  refine zi_aload_n (pc' := 687) X dL_law_686 rfl rfl 0 rfl ?_
  refine zi_iload_n (pc' := 688) X dL_law_687 rfl rfl 3 rfl ?_
  refine zi_iconst (pc' := 689) (v := (1 : Int32)) X dL_law_688 rfl rfl ?_
  refine zi_iadd (pc' := 690) X dL_law_689 rfl ?_
  refine zi_sld (pc' := 691) X Y (zsi 1 (by decide) hi.1 hi.2) dL_law_690 rfl ?_
  refine zi_aload_n (pc' := 692) X dL_law_691 rfl rfl 0 rfl ?_
  refine zi_iload_n (pc' := 693) X dL_law_692 rfl rfl 3 rfl ?_
  refine zi_iconst (pc' := 694) (v := (2 : Int32)) X dL_law_693 rfl rfl ?_
  refine zi_iadd (pc' := 695) X dL_law_694 rfl ?_
  refine zi_sld (pc' := 696) X Y (zsi 2 (by decide) hi.1 hi.2) dL_law_695 rfl ?_
  refine zi_aload_n (pc' := 697) X dL_law_696 rfl rfl 0 rfl ?_
  refine zi_iload_n (pc' := 698) X dL_law_697 rfl rfl 3 rfl ?_
  refine zi_iconst (pc' := 699) (v := (3 : Int32)) X dL_law_698 rfl rfl ?_
  refine zi_iadd (pc' := 700) X dL_law_699 rfl ?_
  refine zi_sld (pc' := 701) X Y (zsi 3 (by decide) hi.1 hi.2) dL_law_700 rfl ?_
  refine zi_callVi (pc' := 704) X zl_L_75 (k0 := 66) rfl (by decide) [.int (xs (nI i + (1 : Int32)).toNatClampNeg), .int (xs (nI i + (2 : Int32)).toNatClampNeg), .int (xs (nI i + (3 : Int32)).toNatClampNeg)] rfl rfl (by decide) (Nat.le_of_ble_eq_true rfl) dL_law_701 rfl (tX6_felt g rfl (zok_imp h1 (fun r2 m2 h2 => ?_)))
  obtain ⟨e, hI⟩ := h2
  refine zi_icmp_eq (pc' := 707) (tgt := 1597) X dL_law_704 rfl rfl (fun c => next _ hI) (fun c => absurd e c)
def zE15 (Inv : zMem → Prop) : Prop := ∀ (a1 : Int32) (a2 : Int32) (a3 : Int32) (μ : zMem), Inv μ → zok (fX5_when 0 a1 a2 a3 μ) (fun r μ1 => zok (fX6_when 66 a1 a2 a3 μ1) (fun r' μ2 => r = r' ∧ Inv μ2))
set_option maxRecDepth 100000 in
theorem zlaw_15 {g : zG} {κ : zK} (X : zC g κ RL code 4 11) {b L : Nat} {xs : Nat → Int32} (Y : zLw κ b L xs) {Inv : zMem → Prop} {i : Nat} (hi : i + 6 ≤ L ∧ L ≤ 3072) (hc : zE15 Inv) (next : ∀ μ, Inv μ → zV g κ 1597 (zlv g b i) [] μ) {μ : zMem} (h : Inv μ) : zV g κ 709 (zlv g b i) [] μ := by
  refine zi_aload_n (pc' := 710) X dL_law_709 rfl rfl 1 rfl ?_
  refine zi_aload_n (pc' := 711) X dL_law_710 rfl rfl 0 rfl ?_
  refine zi_iload_n (pc' := 712) X dL_law_711 rfl rfl 3 rfl ?_
  refine zi_iconst (pc' := 713) (v := (1 : Int32)) X dL_law_712 rfl rfl ?_
  refine zi_iadd (pc' := 714) X dL_law_713 rfl ?_
  refine zi_sld (pc' := 715) X Y (zsi 1 (by decide) hi.1 hi.2) dL_law_714 rfl ?_
  refine zi_aload_n (pc' := 716) X dL_law_715 rfl rfl 0 rfl ?_
  refine zi_iload_n (pc' := 717) X dL_law_716 rfl rfl 3 rfl ?_
  refine zi_iconst (pc' := 718) (v := (2 : Int32)) X dL_law_717 rfl rfl ?_
  refine zi_iadd (pc' := 719) X dL_law_718 rfl ?_
  refine zi_sld (pc' := 720) X Y (zsi 2 (by decide) hi.1 hi.2) dL_law_719 rfl ?_
  refine zi_aload_n (pc' := 721) X dL_law_720 rfl rfl 0 rfl ?_
  refine zi_iload_n (pc' := 722) X dL_law_721 rfl rfl 3 rfl ?_
  refine zi_iconst (pc' := 723) (v := (3 : Int32)) X dL_law_722 rfl rfl ?_
  refine zi_iadd (pc' := 724) X dL_law_723 rfl ?_
  refine zi_sld (pc' := 725) X Y (zsi 3 (by decide) hi.1 hi.2) dL_law_724 rfl ?_
  refine zi_callVi (pc' := 728) X zl_L_76 (k0 := 0) rfl (by decide) [.int (xs (nI i + (1 : Int32)).toNatClampNeg), .int (xs (nI i + (2 : Int32)).toNatClampNeg), .int (xs (nI i + (3 : Int32)).toNatClampNeg)] rfl rfl (by decide) (Nat.le_of_ble_eq_true rfl) dL_law_725 rfl (tX5_when g rfl (zok_imp (hc (xs (nI i + (1 : Int32)).toNatClampNeg) (xs (nI i + (2 : Int32)).toNatClampNeg) (xs (nI i + (3 : Int32)).toNatClampNeg) μ h) (fun r1 m1 h1 => ?_)))
  refine zi_aload_n (pc' := 729) X dL_law_728 rfl rfl 2 rfl ?_
  refine zi_aload_n (pc' := 730) X dL_law_729 rfl rfl 0 rfl ?_
  refine zi_iload_n (pc' := 731) X dL_law_730 rfl rfl 3 rfl ?_
  refine zi_iconst (pc' := 732) (v := (1 : Int32)) X dL_law_731 rfl rfl ?_
  refine zi_iadd (pc' := 733) X dL_law_732 rfl ?_
  refine zi_sld (pc' := 734) X Y (zsi 1 (by decide) hi.1 hi.2) dL_law_733 rfl ?_
  refine zi_aload_n (pc' := 735) X dL_law_734 rfl rfl 0 rfl ?_
  refine zi_iload_n (pc' := 736) X dL_law_735 rfl rfl 3 rfl ?_
  refine zi_iconst (pc' := 737) (v := (2 : Int32)) X dL_law_736 rfl rfl ?_
  refine zi_iadd (pc' := 738) X dL_law_737 rfl ?_
  refine zi_sld (pc' := 739) X Y (zsi 2 (by decide) hi.1 hi.2) dL_law_738 rfl ?_
  refine zi_aload_n (pc' := 740) X dL_law_739 rfl rfl 0 rfl ?_
  refine zi_iload_n (pc' := 741) X dL_law_740 rfl rfl 3 rfl ?_
  refine zi_iconst (pc' := 742) (v := (3 : Int32)) X dL_law_741 rfl rfl ?_
  refine zi_iadd (pc' := 743) X dL_law_742 rfl ?_
  refine zi_sld (pc' := 744) X Y (zsi 3 (by decide) hi.1 hi.2) dL_law_743 rfl ?_
  refine zi_callVi (pc' := 747) X zl_L_79 (k0 := 66) rfl (by decide) [.int (xs (nI i + (1 : Int32)).toNatClampNeg), .int (xs (nI i + (2 : Int32)).toNatClampNeg), .int (xs (nI i + (3 : Int32)).toNatClampNeg)] rfl rfl (by decide) (Nat.le_of_ble_eq_true rfl) dL_law_744 rfl (tX6_when g rfl (zok_imp h1 (fun r2 m2 h2 => ?_)))
  obtain ⟨e, hI⟩ := h2
  refine zi_icmp_eq (pc' := 750) (tgt := 1597) X dL_law_747 rfl rfl (fun c => next _ hI) (fun c => absurd e c)
def zE16 (Inv : zMem → Prop) : Prop := ∀ (μ : zMem), Inv μ → zok (fX5_settles 0  μ) (fun r μ1 => zok (fX6_settles 66  μ1) (fun r' μ2 => r = r' ∧ Inv μ2))
set_option maxRecDepth 100000 in
theorem zlaw_16 {g : zG} {κ : zK} (X : zC g κ RL code 4 11) {b L : Nat} {xs : Nat → Int32} (Y : zLw κ b L xs) {Inv : zMem → Prop} {i : Nat} (hi : i + 6 ≤ L ∧ L ≤ 3072) (hc : zE16 Inv) (next : ∀ μ, Inv μ → zV g κ 1597 (zlv g b i) [] μ) {μ : zMem} (h : Inv μ) : zV g κ 752 (zlv g b i) [] μ := by
  refine zi_aload_n (pc' := 753) X dL_law_752 rfl rfl 1 rfl ?_
  refine zi_callVi (pc' := 756) X zl_L_80 (k0 := 0) rfl (by decide) [] rfl rfl (by decide) (Nat.le_of_ble_eq_true rfl) dL_law_753 rfl (tX5_settles g rfl (zok_imp (hc μ h) (fun r1 m1 h1 => ?_)))
  refine zi_aload_n (pc' := 757) X dL_law_756 rfl rfl 2 rfl ?_
  refine zi_callVi (pc' := 760) X zl_L_84 (k0 := 66) rfl (by decide) [] rfl rfl (by decide) (Nat.le_of_ble_eq_true rfl) dL_law_757 rfl (tX6_settles g rfl (zok_imp h1 (fun r2 m2 h2 => ?_)))
  obtain ⟨e, hI⟩ := h2
  refine zi_icmp_eq (pc' := 763) (tgt := 1597) X dL_law_760 rfl rfl (fun c => next _ hI) (fun c => absurd e c)
def zE17 (Inv : zMem → Prop) : Prop := ∀ (a1 : Int32) (a2 : Int32) (μ : zMem), Inv μ → zok (fX5_lies 0 a1 a2 μ) (fun r μ1 => zok (fX6_lies 66 a1 a2 μ1) (fun r' μ2 => r = r' ∧ Inv μ2))
set_option maxRecDepth 100000 in
theorem zlaw_17 {g : zG} {κ : zK} (X : zC g κ RL code 4 11) {b L : Nat} {xs : Nat → Int32} (Y : zLw κ b L xs) {Inv : zMem → Prop} {i : Nat} (hi : i + 6 ≤ L ∧ L ≤ 3072) (hc : zE17 Inv) (next : ∀ μ, Inv μ → zV g κ 1597 (zlv g b i) [] μ) {μ : zMem} (h : Inv μ) : zV g κ 765 (zlv g b i) [] μ := by
  refine zi_aload_n (pc' := 766) X dL_law_765 rfl rfl 1 rfl ?_
  refine zi_aload_n (pc' := 767) X dL_law_766 rfl rfl 0 rfl ?_
  refine zi_iload_n (pc' := 768) X dL_law_767 rfl rfl 3 rfl ?_
  refine zi_iconst (pc' := 769) (v := (1 : Int32)) X dL_law_768 rfl rfl ?_
  refine zi_iadd (pc' := 770) X dL_law_769 rfl ?_
  refine zi_sld (pc' := 771) X Y (zsi 1 (by decide) hi.1 hi.2) dL_law_770 rfl ?_
  refine zi_aload_n (pc' := 772) X dL_law_771 rfl rfl 0 rfl ?_
  refine zi_iload_n (pc' := 773) X dL_law_772 rfl rfl 3 rfl ?_
  refine zi_iconst (pc' := 774) (v := (2 : Int32)) X dL_law_773 rfl rfl ?_
  refine zi_iadd (pc' := 775) X dL_law_774 rfl ?_
  refine zi_sld (pc' := 776) X Y (zsi 2 (by decide) hi.1 hi.2) dL_law_775 rfl ?_
  refine zi_callVi (pc' := 779) X zl_L_85 (k0 := 0) rfl (by decide) [.int (xs (nI i + (1 : Int32)).toNatClampNeg), .int (xs (nI i + (2 : Int32)).toNatClampNeg)] rfl rfl (by decide) (Nat.le_of_ble_eq_true rfl) dL_law_776 rfl (tX5_lies g rfl (zok_imp (hc (xs (nI i + (1 : Int32)).toNatClampNeg) (xs (nI i + (2 : Int32)).toNatClampNeg) μ h) (fun r1 m1 h1 => ?_)))
  refine zi_aload_n (pc' := 780) X dL_law_779 rfl rfl 2 rfl ?_
  refine zi_aload_n (pc' := 781) X dL_law_780 rfl rfl 0 rfl ?_
  refine zi_iload_n (pc' := 782) X dL_law_781 rfl rfl 3 rfl ?_
  refine zi_iconst (pc' := 783) (v := (1 : Int32)) X dL_law_782 rfl rfl ?_
  refine zi_iadd (pc' := 784) X dL_law_783 rfl ?_
  refine zi_sld (pc' := 785) X Y (zsi 1 (by decide) hi.1 hi.2) dL_law_784 rfl ?_
  refine zi_aload_n (pc' := 786) X dL_law_785 rfl rfl 0 rfl ?_
  refine zi_iload_n (pc' := 787) X dL_law_786 rfl rfl 3 rfl ?_
  refine zi_iconst (pc' := 788) (v := (2 : Int32)) X dL_law_787 rfl rfl ?_
  refine zi_iadd (pc' := 789) X dL_law_788 rfl ?_
  refine zi_sld (pc' := 790) X Y (zsi 2 (by decide) hi.1 hi.2) dL_law_789 rfl ?_
  refine zi_callVi (pc' := 793) X zl_L_88 (k0 := 66) rfl (by decide) [.int (xs (nI i + (1 : Int32)).toNatClampNeg), .int (xs (nI i + (2 : Int32)).toNatClampNeg)] rfl rfl (by decide) (Nat.le_of_ble_eq_true rfl) dL_law_790 rfl (tX6_lies g rfl (zok_imp h1 (fun r2 m2 h2 => ?_)))
  obtain ⟨e, hI⟩ := h2
  refine zi_icmp_eq (pc' := 796) (tgt := 1597) X dL_law_793 rfl rfl (fun c => next _ hI) (fun c => absurd e c)
def zE18 (Inv : zMem → Prop) : Prop := ∀ (a1 : Int32) (a2 : Int32) (μ : zMem), Inv μ → zok (fX5_unlike 0 a1 a2 μ) (fun r μ1 => zok (fX6_unlike 66 a1 a2 μ1) (fun r' μ2 => r = r' ∧ Inv μ2))
set_option maxRecDepth 100000 in
theorem zlaw_18 {g : zG} {κ : zK} (X : zC g κ RL code 4 11) {b L : Nat} {xs : Nat → Int32} (Y : zLw κ b L xs) {Inv : zMem → Prop} {i : Nat} (hi : i + 6 ≤ L ∧ L ≤ 3072) (hc : zE18 Inv) (next : ∀ μ, Inv μ → zV g κ 1597 (zlv g b i) [] μ) {μ : zMem} (h : Inv μ) : zV g κ 798 (zlv g b i) [] μ := by
  refine zi_aload_n (pc' := 799) X dL_law_798 rfl rfl 1 rfl ?_
  refine zi_aload_n (pc' := 800) X dL_law_799 rfl rfl 0 rfl ?_
  refine zi_iload_n (pc' := 801) X dL_law_800 rfl rfl 3 rfl ?_
  refine zi_iconst (pc' := 802) (v := (1 : Int32)) X dL_law_801 rfl rfl ?_
  refine zi_iadd (pc' := 803) X dL_law_802 rfl ?_
  refine zi_sld (pc' := 804) X Y (zsi 1 (by decide) hi.1 hi.2) dL_law_803 rfl ?_
  refine zi_aload_n (pc' := 805) X dL_law_804 rfl rfl 0 rfl ?_
  refine zi_iload_n (pc' := 806) X dL_law_805 rfl rfl 3 rfl ?_
  refine zi_iconst (pc' := 807) (v := (2 : Int32)) X dL_law_806 rfl rfl ?_
  refine zi_iadd (pc' := 808) X dL_law_807 rfl ?_
  refine zi_sld (pc' := 809) X Y (zsi 2 (by decide) hi.1 hi.2) dL_law_808 rfl ?_
  refine zi_callVi (pc' := 812) X zl_L_89 (k0 := 0) rfl (by decide) [.int (xs (nI i + (1 : Int32)).toNatClampNeg), .int (xs (nI i + (2 : Int32)).toNatClampNeg)] rfl rfl (by decide) (Nat.le_of_ble_eq_true rfl) dL_law_809 rfl (tX5_unlike g rfl (zok_imp (hc (xs (nI i + (1 : Int32)).toNatClampNeg) (xs (nI i + (2 : Int32)).toNatClampNeg) μ h) (fun r1 m1 h1 => ?_)))
  refine zi_aload_n (pc' := 813) X dL_law_812 rfl rfl 2 rfl ?_
  refine zi_aload_n (pc' := 814) X dL_law_813 rfl rfl 0 rfl ?_
  refine zi_iload_n (pc' := 815) X dL_law_814 rfl rfl 3 rfl ?_
  refine zi_iconst (pc' := 816) (v := (1 : Int32)) X dL_law_815 rfl rfl ?_
  refine zi_iadd (pc' := 817) X dL_law_816 rfl ?_
  refine zi_sld (pc' := 818) X Y (zsi 1 (by decide) hi.1 hi.2) dL_law_817 rfl ?_
  refine zi_aload_n (pc' := 819) X dL_law_818 rfl rfl 0 rfl ?_
  refine zi_iload_n (pc' := 820) X dL_law_819 rfl rfl 3 rfl ?_
  refine zi_iconst (pc' := 821) (v := (2 : Int32)) X dL_law_820 rfl rfl ?_
  refine zi_iadd (pc' := 822) X dL_law_821 rfl ?_
  refine zi_sld (pc' := 823) X Y (zsi 2 (by decide) hi.1 hi.2) dL_law_822 rfl ?_
  refine zi_callVi (pc' := 826) X zl_L_92 (k0 := 66) rfl (by decide) [.int (xs (nI i + (1 : Int32)).toNatClampNeg), .int (xs (nI i + (2 : Int32)).toNatClampNeg)] rfl rfl (by decide) (Nat.le_of_ble_eq_true rfl) dL_law_823 rfl (tX6_unlike g rfl (zok_imp h1 (fun r2 m2 h2 => ?_)))
  obtain ⟨e, hI⟩ := h2
  refine zi_icmp_eq (pc' := 829) (tgt := 1597) X dL_law_826 rfl rfl (fun c => next _ hI) (fun c => absurd e c)
def zE19 (Inv : zMem → Prop) : Prop := ∀ (a1 : Int32) (μ : zMem), Inv μ → zok (fX5_home 0 a1 μ) (fun r μ1 => zok (fX6_home 66 a1 μ1) (fun r' μ2 => r = r' ∧ Inv μ2))
set_option maxRecDepth 100000 in
theorem zlaw_19 {g : zG} {κ : zK} (X : zC g κ RL code 4 11) {b L : Nat} {xs : Nat → Int32} (Y : zLw κ b L xs) {Inv : zMem → Prop} {i : Nat} (hi : i + 6 ≤ L ∧ L ≤ 3072) (hc : zE19 Inv) (next : ∀ μ, Inv μ → zV g κ 1597 (zlv g b i) [] μ) {μ : zMem} (h : Inv μ) : zV g κ 831 (zlv g b i) [] μ := by
  refine zi_aload_n (pc' := 832) X dL_law_831 rfl rfl 1 rfl ?_
  refine zi_aload_n (pc' := 833) X dL_law_832 rfl rfl 0 rfl ?_
  refine zi_iload_n (pc' := 834) X dL_law_833 rfl rfl 3 rfl ?_
  refine zi_iconst (pc' := 835) (v := (1 : Int32)) X dL_law_834 rfl rfl ?_
  refine zi_iadd (pc' := 836) X dL_law_835 rfl ?_
  refine zi_sld (pc' := 837) X Y (zsi 1 (by decide) hi.1 hi.2) dL_law_836 rfl ?_
  refine zi_callVi (pc' := 840) X zl_L_93 (k0 := 0) rfl (by decide) [.int (xs (nI i + (1 : Int32)).toNatClampNeg)] rfl rfl (by decide) (Nat.le_of_ble_eq_true rfl) dL_law_837 rfl (tX5_home g rfl (zok_imp (hc (xs (nI i + (1 : Int32)).toNatClampNeg) μ h) (fun r1 m1 h1 => ?_)))
  refine zi_aload_n (pc' := 841) X dL_law_840 rfl rfl 2 rfl ?_
  refine zi_aload_n (pc' := 842) X dL_law_841 rfl rfl 0 rfl ?_
  refine zi_iload_n (pc' := 843) X dL_law_842 rfl rfl 3 rfl ?_
  refine zi_iconst (pc' := 844) (v := (1 : Int32)) X dL_law_843 rfl rfl ?_
  refine zi_iadd (pc' := 845) X dL_law_844 rfl ?_
  refine zi_sld (pc' := 846) X Y (zsi 1 (by decide) hi.1 hi.2) dL_law_845 rfl ?_
  refine zi_callVi (pc' := 849) X zl_L_96 (k0 := 66) rfl (by decide) [.int (xs (nI i + (1 : Int32)).toNatClampNeg)] rfl rfl (by decide) (Nat.le_of_ble_eq_true rfl) dL_law_846 rfl (tX6_home g rfl (zok_imp h1 (fun r2 m2 h2 => ?_)))
  obtain ⟨e, hI⟩ := h2
  refine zi_icmp_eq (pc' := 852) (tgt := 1597) X dL_law_849 rfl rfl (fun c => next _ hI) (fun c => absurd e c)
def zE20 (Inv : zMem → Prop) : Prop := ∀ (a1 : Int32) (a2 : Int32) (a3 : Int32) (a4 : Int32) (μ : zMem), Inv μ → zok (fX5_pitchFor 0 a1 a2 a3 a4 μ) (fun r μ1 => zok (fX6_pitchFor 66 a1 a2 a3 a4 μ1) (fun r' μ2 => r = r' ∧ Inv μ2))
set_option maxRecDepth 100000 in
theorem zlaw_20 {g : zG} {κ : zK} (X : zC g κ RL code 4 11) {b L : Nat} {xs : Nat → Int32} (Y : zLw κ b L xs) {Inv : zMem → Prop} {i : Nat} (hi : i + 6 ≤ L ∧ L ≤ 3072) (hc : zE20 Inv) (next : ∀ μ, Inv μ → zV g κ 1597 (zlv g b i) [] μ) {μ : zMem} (h : Inv μ) : zV g κ 854 (zlv g b i) [] μ := by
  refine zi_aload_n (pc' := 855) X dL_law_854 rfl rfl 1 rfl ?_
  refine zi_aload_n (pc' := 856) X dL_law_855 rfl rfl 0 rfl ?_
  refine zi_iload_n (pc' := 857) X dL_law_856 rfl rfl 3 rfl ?_
  refine zi_iconst (pc' := 858) (v := (1 : Int32)) X dL_law_857 rfl rfl ?_
  refine zi_iadd (pc' := 859) X dL_law_858 rfl ?_
  refine zi_sld (pc' := 860) X Y (zsi 1 (by decide) hi.1 hi.2) dL_law_859 rfl ?_
  refine zi_aload_n (pc' := 861) X dL_law_860 rfl rfl 0 rfl ?_
  refine zi_iload_n (pc' := 862) X dL_law_861 rfl rfl 3 rfl ?_
  refine zi_iconst (pc' := 863) (v := (2 : Int32)) X dL_law_862 rfl rfl ?_
  refine zi_iadd (pc' := 864) X dL_law_863 rfl ?_
  refine zi_sld (pc' := 865) X Y (zsi 2 (by decide) hi.1 hi.2) dL_law_864 rfl ?_
  refine zi_aload_n (pc' := 866) X dL_law_865 rfl rfl 0 rfl ?_
  refine zi_iload_n (pc' := 867) X dL_law_866 rfl rfl 3 rfl ?_
  refine zi_iconst (pc' := 868) (v := (3 : Int32)) X dL_law_867 rfl rfl ?_
  refine zi_iadd (pc' := 869) X dL_law_868 rfl ?_
  refine zi_sld (pc' := 870) X Y (zsi 3 (by decide) hi.1 hi.2) dL_law_869 rfl ?_
  refine zi_aload_n (pc' := 871) X dL_law_870 rfl rfl 0 rfl ?_
  refine zi_iload_n (pc' := 872) X dL_law_871 rfl rfl 3 rfl ?_
  refine zi_iconst (pc' := 873) (v := (4 : Int32)) X dL_law_872 rfl rfl ?_
  refine zi_iadd (pc' := 874) X dL_law_873 rfl ?_
  refine zi_sld (pc' := 875) X Y (zsi 4 (by decide) hi.1 hi.2) dL_law_874 rfl ?_
  refine zi_callVi (pc' := 878) X zl_L_97 (k0 := 0) rfl (by decide) [.int (xs (nI i + (1 : Int32)).toNatClampNeg), .int (xs (nI i + (2 : Int32)).toNatClampNeg), .int (xs (nI i + (3 : Int32)).toNatClampNeg), .int (xs (nI i + (4 : Int32)).toNatClampNeg)] rfl rfl (by decide) (Nat.le_of_ble_eq_true rfl) dL_law_875 rfl (tX5_pitchFor g rfl (zok_imp (hc (xs (nI i + (1 : Int32)).toNatClampNeg) (xs (nI i + (2 : Int32)).toNatClampNeg) (xs (nI i + (3 : Int32)).toNatClampNeg) (xs (nI i + (4 : Int32)).toNatClampNeg) μ h) (fun r1 m1 h1 => ?_)))
  refine zi_aload_n (pc' := 879) X dL_law_878 rfl rfl 2 rfl ?_
  refine zi_aload_n (pc' := 880) X dL_law_879 rfl rfl 0 rfl ?_
  refine zi_iload_n (pc' := 881) X dL_law_880 rfl rfl 3 rfl ?_
  refine zi_iconst (pc' := 882) (v := (1 : Int32)) X dL_law_881 rfl rfl ?_
  refine zi_iadd (pc' := 883) X dL_law_882 rfl ?_
  refine zi_sld (pc' := 884) X Y (zsi 1 (by decide) hi.1 hi.2) dL_law_883 rfl ?_
  refine zi_aload_n (pc' := 885) X dL_law_884 rfl rfl 0 rfl ?_
  refine zi_iload_n (pc' := 886) X dL_law_885 rfl rfl 3 rfl ?_
  refine zi_iconst (pc' := 887) (v := (2 : Int32)) X dL_law_886 rfl rfl ?_
  refine zi_iadd (pc' := 888) X dL_law_887 rfl ?_
  refine zi_sld (pc' := 889) X Y (zsi 2 (by decide) hi.1 hi.2) dL_law_888 rfl ?_
  refine zi_aload_n (pc' := 890) X dL_law_889 rfl rfl 0 rfl ?_
  refine zi_iload_n (pc' := 891) X dL_law_890 rfl rfl 3 rfl ?_
  refine zi_iconst (pc' := 892) (v := (3 : Int32)) X dL_law_891 rfl rfl ?_
  refine zi_iadd (pc' := 893) X dL_law_892 rfl ?_
  refine zi_sld (pc' := 894) X Y (zsi 3 (by decide) hi.1 hi.2) dL_law_893 rfl ?_
  refine zi_aload_n (pc' := 895) X dL_law_894 rfl rfl 0 rfl ?_
  refine zi_iload_n (pc' := 896) X dL_law_895 rfl rfl 3 rfl ?_
  refine zi_iconst (pc' := 897) (v := (4 : Int32)) X dL_law_896 rfl rfl ?_
  refine zi_iadd (pc' := 898) X dL_law_897 rfl ?_
  refine zi_sld (pc' := 899) X Y (zsi 4 (by decide) hi.1 hi.2) dL_law_898 rfl ?_
  refine zi_callVi (pc' := 902) X zl_L_101 (k0 := 66) rfl (by decide) [.int (xs (nI i + (1 : Int32)).toNatClampNeg), .int (xs (nI i + (2 : Int32)).toNatClampNeg), .int (xs (nI i + (3 : Int32)).toNatClampNeg), .int (xs (nI i + (4 : Int32)).toNatClampNeg)] rfl rfl (by decide) (Nat.le_of_ble_eq_true rfl) dL_law_899 rfl (tX6_pitchFor g rfl (zok_imp h1 (fun r2 m2 h2 => ?_)))
  obtain ⟨e, hI⟩ := h2
  refine zi_icmp_eq (pc' := 905) (tgt := 1597) X dL_law_902 rfl rfl (fun c => next _ hI) (fun c => absurd e c)
def zE21 (Inv : zMem → Prop) : Prop := ∀ (a1 : Int32) (a2 : Int32) (μ : zMem), Inv μ → zok (fX5_kindFor 0 a1 a2 μ) (fun r μ1 => zok (fX6_kindFor 66 a1 a2 μ1) (fun r' μ2 => r = r' ∧ Inv μ2))
set_option maxRecDepth 100000 in
theorem zlaw_21 {g : zG} {κ : zK} (X : zC g κ RL code 4 11) {b L : Nat} {xs : Nat → Int32} (Y : zLw κ b L xs) {Inv : zMem → Prop} {i : Nat} (hi : i + 6 ≤ L ∧ L ≤ 3072) (hc : zE21 Inv) (next : ∀ μ, Inv μ → zV g κ 1597 (zlv g b i) [] μ) {μ : zMem} (h : Inv μ) : zV g κ 907 (zlv g b i) [] μ := by
  refine zi_aload_n (pc' := 908) X dL_law_907 rfl rfl 1 rfl ?_
  refine zi_aload_n (pc' := 909) X dL_law_908 rfl rfl 0 rfl ?_
  refine zi_iload_n (pc' := 910) X dL_law_909 rfl rfl 3 rfl ?_
  refine zi_iconst (pc' := 911) (v := (1 : Int32)) X dL_law_910 rfl rfl ?_
  refine zi_iadd (pc' := 912) X dL_law_911 rfl ?_
  refine zi_sld (pc' := 913) X Y (zsi 1 (by decide) hi.1 hi.2) dL_law_912 rfl ?_
  refine zi_aload_n (pc' := 914) X dL_law_913 rfl rfl 0 rfl ?_
  refine zi_iload_n (pc' := 915) X dL_law_914 rfl rfl 3 rfl ?_
  refine zi_iconst (pc' := 916) (v := (2 : Int32)) X dL_law_915 rfl rfl ?_
  refine zi_iadd (pc' := 917) X dL_law_916 rfl ?_
  refine zi_sld (pc' := 918) X Y (zsi 2 (by decide) hi.1 hi.2) dL_law_917 rfl ?_
  refine zi_callVi (pc' := 921) X zl_L_102 (k0 := 0) rfl (by decide) [.int (xs (nI i + (1 : Int32)).toNatClampNeg), .int (xs (nI i + (2 : Int32)).toNatClampNeg)] rfl rfl (by decide) (Nat.le_of_ble_eq_true rfl) dL_law_918 rfl (tX5_kindFor g rfl (zok_imp (hc (xs (nI i + (1 : Int32)).toNatClampNeg) (xs (nI i + (2 : Int32)).toNatClampNeg) μ h) (fun r1 m1 h1 => ?_)))
  refine zi_aload_n (pc' := 922) X dL_law_921 rfl rfl 2 rfl ?_
  refine zi_aload_n (pc' := 923) X dL_law_922 rfl rfl 0 rfl ?_
  refine zi_iload_n (pc' := 924) X dL_law_923 rfl rfl 3 rfl ?_
  refine zi_iconst (pc' := 925) (v := (1 : Int32)) X dL_law_924 rfl rfl ?_
  refine zi_iadd (pc' := 926) X dL_law_925 rfl ?_
  refine zi_sld (pc' := 927) X Y (zsi 1 (by decide) hi.1 hi.2) dL_law_926 rfl ?_
  refine zi_aload_n (pc' := 928) X dL_law_927 rfl rfl 0 rfl ?_
  refine zi_iload_n (pc' := 929) X dL_law_928 rfl rfl 3 rfl ?_
  refine zi_iconst (pc' := 930) (v := (2 : Int32)) X dL_law_929 rfl rfl ?_
  refine zi_iadd (pc' := 931) X dL_law_930 rfl ?_
  refine zi_sld (pc' := 932) X Y (zsi 2 (by decide) hi.1 hi.2) dL_law_931 rfl ?_
  refine zi_callVi (pc' := 935) X zl_L_105 (k0 := 66) rfl (by decide) [.int (xs (nI i + (1 : Int32)).toNatClampNeg), .int (xs (nI i + (2 : Int32)).toNatClampNeg)] rfl rfl (by decide) (Nat.le_of_ble_eq_true rfl) dL_law_932 rfl (tX6_kindFor g rfl (zok_imp h1 (fun r2 m2 h2 => ?_)))
  obtain ⟨e, hI⟩ := h2
  refine zi_icmp_eq (pc' := 938) (tgt := 1597) X dL_law_935 rfl rfl (fun c => next _ hI) (fun c => absurd e c)
def zE22 (Inv : zMem → Prop) : Prop := ∀ (a1 : Int32) (a2 : Int32) (a3 : Int32) (μ : zMem), Inv μ → zok (fX5_first 0 a1 a2 a3 μ) (fun r μ1 => zok (fX6_first 66 a1 a2 a3 μ1) (fun r' μ2 => r = r' ∧ Inv μ2))
set_option maxRecDepth 100000 in
theorem zlaw_22 {g : zG} {κ : zK} (X : zC g κ RL code 4 11) {b L : Nat} {xs : Nat → Int32} (Y : zLw κ b L xs) {Inv : zMem → Prop} {i : Nat} (hi : i + 6 ≤ L ∧ L ≤ 3072) (hc : zE22 Inv) (next : ∀ μ, Inv μ → zV g κ 1597 (zlv g b i) [] μ) {μ : zMem} (h : Inv μ) : zV g κ 940 (zlv g b i) [] μ := by
  refine zi_aload_n (pc' := 941) X dL_law_940 rfl rfl 1 rfl ?_
  refine zi_aload_n (pc' := 942) X dL_law_941 rfl rfl 0 rfl ?_
  refine zi_iload_n (pc' := 943) X dL_law_942 rfl rfl 3 rfl ?_
  refine zi_iconst (pc' := 944) (v := (1 : Int32)) X dL_law_943 rfl rfl ?_
  refine zi_iadd (pc' := 945) X dL_law_944 rfl ?_
  refine zi_sld (pc' := 946) X Y (zsi 1 (by decide) hi.1 hi.2) dL_law_945 rfl ?_
  refine zi_aload_n (pc' := 947) X dL_law_946 rfl rfl 0 rfl ?_
  refine zi_iload_n (pc' := 948) X dL_law_947 rfl rfl 3 rfl ?_
  refine zi_iconst (pc' := 949) (v := (2 : Int32)) X dL_law_948 rfl rfl ?_
  refine zi_iadd (pc' := 950) X dL_law_949 rfl ?_
  refine zi_sld (pc' := 951) X Y (zsi 2 (by decide) hi.1 hi.2) dL_law_950 rfl ?_
  refine zi_aload_n (pc' := 952) X dL_law_951 rfl rfl 0 rfl ?_
  refine zi_iload_n (pc' := 953) X dL_law_952 rfl rfl 3 rfl ?_
  refine zi_iconst (pc' := 954) (v := (3 : Int32)) X dL_law_953 rfl rfl ?_
  refine zi_iadd (pc' := 955) X dL_law_954 rfl ?_
  refine zi_sld (pc' := 956) X Y (zsi 3 (by decide) hi.1 hi.2) dL_law_955 rfl ?_
  refine zi_callVi (pc' := 959) X zl_L_106 (k0 := 0) rfl (by decide) [.int (xs (nI i + (1 : Int32)).toNatClampNeg), .int (xs (nI i + (2 : Int32)).toNatClampNeg), .int (xs (nI i + (3 : Int32)).toNatClampNeg)] rfl rfl (by decide) (Nat.le_of_ble_eq_true rfl) dL_law_956 rfl (tX5_first g rfl (zok_imp (hc (xs (nI i + (1 : Int32)).toNatClampNeg) (xs (nI i + (2 : Int32)).toNatClampNeg) (xs (nI i + (3 : Int32)).toNatClampNeg) μ h) (fun r1 m1 h1 => ?_)))
  refine zi_aload_n (pc' := 960) X dL_law_959 rfl rfl 2 rfl ?_
  refine zi_aload_n (pc' := 961) X dL_law_960 rfl rfl 0 rfl ?_
  refine zi_iload_n (pc' := 962) X dL_law_961 rfl rfl 3 rfl ?_
  refine zi_iconst (pc' := 963) (v := (1 : Int32)) X dL_law_962 rfl rfl ?_
  refine zi_iadd (pc' := 964) X dL_law_963 rfl ?_
  refine zi_sld (pc' := 965) X Y (zsi 1 (by decide) hi.1 hi.2) dL_law_964 rfl ?_
  refine zi_aload_n (pc' := 966) X dL_law_965 rfl rfl 0 rfl ?_
  refine zi_iload_n (pc' := 967) X dL_law_966 rfl rfl 3 rfl ?_
  refine zi_iconst (pc' := 968) (v := (2 : Int32)) X dL_law_967 rfl rfl ?_
  refine zi_iadd (pc' := 969) X dL_law_968 rfl ?_
  refine zi_sld (pc' := 970) X Y (zsi 2 (by decide) hi.1 hi.2) dL_law_969 rfl ?_
  refine zi_aload_n (pc' := 971) X dL_law_970 rfl rfl 0 rfl ?_
  refine zi_iload_n (pc' := 972) X dL_law_971 rfl rfl 3 rfl ?_
  refine zi_iconst (pc' := 973) (v := (3 : Int32)) X dL_law_972 rfl rfl ?_
  refine zi_iadd (pc' := 974) X dL_law_973 rfl ?_
  refine zi_sld (pc' := 975) X Y (zsi 3 (by decide) hi.1 hi.2) dL_law_974 rfl ?_
  refine zi_callVi (pc' := 978) X zl_L_109 (k0 := 66) rfl (by decide) [.int (xs (nI i + (1 : Int32)).toNatClampNeg), .int (xs (nI i + (2 : Int32)).toNatClampNeg), .int (xs (nI i + (3 : Int32)).toNatClampNeg)] rfl rfl (by decide) (Nat.le_of_ble_eq_true rfl) dL_law_975 rfl (tX6_first g rfl (zok_imp h1 (fun r2 m2 h2 => ?_)))
  obtain ⟨e, hI⟩ := h2
  refine zi_icmp_eq (pc' := 981) (tgt := 1597) X dL_law_978 rfl rfl (fun c => next _ hI) (fun c => absurd e c)
def zE23 (Inv : zMem → Prop) : Prop := ∀ (a1 : Int32) (a2 : Int32) (a3 : Int32) (a4 : Int32) (μ : zMem), Inv μ → zok (fX5_out 0 a1 a2 a3 a4 μ) (fun r μ1 => zok (fX6_out 66 a1 a2 a3 a4 μ1) (fun r' μ2 => r = r' ∧ Inv μ2))
set_option maxRecDepth 100000 in
theorem zlaw_23 {g : zG} {κ : zK} (X : zC g κ RL code 4 11) {b L : Nat} {xs : Nat → Int32} (Y : zLw κ b L xs) {Inv : zMem → Prop} {i : Nat} (hi : i + 6 ≤ L ∧ L ≤ 3072) (hc : zE23 Inv) (next : ∀ μ, Inv μ → zV g κ 1597 (zlv g b i) [] μ) {μ : zMem} (h : Inv μ) : zV g κ 983 (zlv g b i) [] μ := by
  refine zi_aload_n (pc' := 984) X dL_law_983 rfl rfl 1 rfl ?_
  refine zi_aload_n (pc' := 985) X dL_law_984 rfl rfl 0 rfl ?_
  refine zi_iload_n (pc' := 986) X dL_law_985 rfl rfl 3 rfl ?_
  refine zi_iconst (pc' := 987) (v := (1 : Int32)) X dL_law_986 rfl rfl ?_
  refine zi_iadd (pc' := 988) X dL_law_987 rfl ?_
  refine zi_sld (pc' := 989) X Y (zsi 1 (by decide) hi.1 hi.2) dL_law_988 rfl ?_
  refine zi_aload_n (pc' := 990) X dL_law_989 rfl rfl 0 rfl ?_
  refine zi_iload_n (pc' := 991) X dL_law_990 rfl rfl 3 rfl ?_
  refine zi_iconst (pc' := 992) (v := (2 : Int32)) X dL_law_991 rfl rfl ?_
  refine zi_iadd (pc' := 993) X dL_law_992 rfl ?_
  refine zi_sld (pc' := 994) X Y (zsi 2 (by decide) hi.1 hi.2) dL_law_993 rfl ?_
  refine zi_aload_n (pc' := 995) X dL_law_994 rfl rfl 0 rfl ?_
  refine zi_iload_n (pc' := 996) X dL_law_995 rfl rfl 3 rfl ?_
  refine zi_iconst (pc' := 997) (v := (3 : Int32)) X dL_law_996 rfl rfl ?_
  refine zi_iadd (pc' := 998) X dL_law_997 rfl ?_
  refine zi_sld (pc' := 999) X Y (zsi 3 (by decide) hi.1 hi.2) dL_law_998 rfl ?_
  refine zi_aload_n (pc' := 1000) X dL_law_999 rfl rfl 0 rfl ?_
  refine zi_iload_n (pc' := 1001) X dL_law_1000 rfl rfl 3 rfl ?_
  refine zi_iconst (pc' := 1002) (v := (4 : Int32)) X dL_law_1001 rfl rfl ?_
  refine zi_iadd (pc' := 1003) X dL_law_1002 rfl ?_
  refine zi_sld (pc' := 1004) X Y (zsi 4 (by decide) hi.1 hi.2) dL_law_1003 rfl ?_
  refine zi_callVi (pc' := 1007) X zl_L_110 (k0 := 0) rfl (by decide) [.int (xs (nI i + (1 : Int32)).toNatClampNeg), .int (xs (nI i + (2 : Int32)).toNatClampNeg), .int (xs (nI i + (3 : Int32)).toNatClampNeg), .int (xs (nI i + (4 : Int32)).toNatClampNeg)] rfl rfl (by decide) (Nat.le_of_ble_eq_true rfl) dL_law_1004 rfl (tX5_out g rfl (zok_imp (hc (xs (nI i + (1 : Int32)).toNatClampNeg) (xs (nI i + (2 : Int32)).toNatClampNeg) (xs (nI i + (3 : Int32)).toNatClampNeg) (xs (nI i + (4 : Int32)).toNatClampNeg) μ h) (fun r1 m1 h1 => ?_)))
  refine zi_aload_n (pc' := 1008) X dL_law_1007 rfl rfl 2 rfl ?_
  refine zi_aload_n (pc' := 1009) X dL_law_1008 rfl rfl 0 rfl ?_
  refine zi_iload_n (pc' := 1010) X dL_law_1009 rfl rfl 3 rfl ?_
  refine zi_iconst (pc' := 1011) (v := (1 : Int32)) X dL_law_1010 rfl rfl ?_
  refine zi_iadd (pc' := 1012) X dL_law_1011 rfl ?_
  refine zi_sld (pc' := 1013) X Y (zsi 1 (by decide) hi.1 hi.2) dL_law_1012 rfl ?_
  refine zi_aload_n (pc' := 1014) X dL_law_1013 rfl rfl 0 rfl ?_
  refine zi_iload_n (pc' := 1015) X dL_law_1014 rfl rfl 3 rfl ?_
  refine zi_iconst (pc' := 1016) (v := (2 : Int32)) X dL_law_1015 rfl rfl ?_
  refine zi_iadd (pc' := 1017) X dL_law_1016 rfl ?_
  refine zi_sld (pc' := 1018) X Y (zsi 2 (by decide) hi.1 hi.2) dL_law_1017 rfl ?_
  refine zi_aload_n (pc' := 1019) X dL_law_1018 rfl rfl 0 rfl ?_
  refine zi_iload_n (pc' := 1020) X dL_law_1019 rfl rfl 3 rfl ?_
  refine zi_iconst (pc' := 1021) (v := (3 : Int32)) X dL_law_1020 rfl rfl ?_
  refine zi_iadd (pc' := 1022) X dL_law_1021 rfl ?_
  refine zi_sld (pc' := 1023) X Y (zsi 3 (by decide) hi.1 hi.2) dL_law_1022 rfl ?_
  refine zi_aload_n (pc' := 1024) X dL_law_1023 rfl rfl 0 rfl ?_
  refine zi_iload_n (pc' := 1025) X dL_law_1024 rfl rfl 3 rfl ?_
  refine zi_iconst (pc' := 1026) (v := (4 : Int32)) X dL_law_1025 rfl rfl ?_
  refine zi_iadd (pc' := 1027) X dL_law_1026 rfl ?_
  refine zi_sld (pc' := 1028) X Y (zsi 4 (by decide) hi.1 hi.2) dL_law_1027 rfl ?_
  refine zi_callVi (pc' := 1031) X zl_L_113 (k0 := 66) rfl (by decide) [.int (xs (nI i + (1 : Int32)).toNatClampNeg), .int (xs (nI i + (2 : Int32)).toNatClampNeg), .int (xs (nI i + (3 : Int32)).toNatClampNeg), .int (xs (nI i + (4 : Int32)).toNatClampNeg)] rfl rfl (by decide) (Nat.le_of_ble_eq_true rfl) dL_law_1028 rfl (tX6_out g rfl (zok_imp h1 (fun r2 m2 h2 => ?_)))
  obtain ⟨e, hI⟩ := h2
  refine zi_icmp_eq (pc' := 1034) (tgt := 1597) X dL_law_1031 rfl rfl (fun c => next _ hI) (fun c => absurd e c)
def zE24 (Inv : zMem → Prop) : Prop := ∀ (a1 : Int32) (a2 : Int32) (μ : zMem), Inv μ → zok (fX5_fits 0 a1 a2 μ) (fun r μ1 => zok (fX6_fits 66 a1 a2 μ1) (fun r' μ2 => r = r' ∧ Inv μ2))
set_option maxRecDepth 100000 in
theorem zlaw_24 {g : zG} {κ : zK} (X : zC g κ RL code 4 11) {b L : Nat} {xs : Nat → Int32} (Y : zLw κ b L xs) {Inv : zMem → Prop} {i : Nat} (hi : i + 6 ≤ L ∧ L ≤ 3072) (hc : zE24 Inv) (next : ∀ μ, Inv μ → zV g κ 1597 (zlv g b i) [] μ) {μ : zMem} (h : Inv μ) : zV g κ 1036 (zlv g b i) [] μ := by
  refine zi_aload_n (pc' := 1037) X dL_law_1036 rfl rfl 1 rfl ?_
  refine zi_aload_n (pc' := 1038) X dL_law_1037 rfl rfl 0 rfl ?_
  refine zi_iload_n (pc' := 1039) X dL_law_1038 rfl rfl 3 rfl ?_
  refine zi_iconst (pc' := 1040) (v := (1 : Int32)) X dL_law_1039 rfl rfl ?_
  refine zi_iadd (pc' := 1041) X dL_law_1040 rfl ?_
  refine zi_sld (pc' := 1042) X Y (zsi 1 (by decide) hi.1 hi.2) dL_law_1041 rfl ?_
  refine zi_aload_n (pc' := 1043) X dL_law_1042 rfl rfl 0 rfl ?_
  refine zi_iload_n (pc' := 1044) X dL_law_1043 rfl rfl 3 rfl ?_
  refine zi_iconst (pc' := 1045) (v := (2 : Int32)) X dL_law_1044 rfl rfl ?_
  refine zi_iadd (pc' := 1046) X dL_law_1045 rfl ?_
  refine zi_sld (pc' := 1047) X Y (zsi 2 (by decide) hi.1 hi.2) dL_law_1046 rfl ?_
  refine zi_callVi (pc' := 1050) X zl_L_114 (k0 := 0) rfl (by decide) [.int (xs (nI i + (1 : Int32)).toNatClampNeg), .int (xs (nI i + (2 : Int32)).toNatClampNeg)] rfl rfl (by decide) (Nat.le_of_ble_eq_true rfl) dL_law_1047 rfl (tX5_fits g rfl (zok_imp (hc (xs (nI i + (1 : Int32)).toNatClampNeg) (xs (nI i + (2 : Int32)).toNatClampNeg) μ h) (fun r1 m1 h1 => ?_)))
  refine zi_aload_n (pc' := 1051) X dL_law_1050 rfl rfl 2 rfl ?_
  refine zi_aload_n (pc' := 1052) X dL_law_1051 rfl rfl 0 rfl ?_
  refine zi_iload_n (pc' := 1053) X dL_law_1052 rfl rfl 3 rfl ?_
  refine zi_iconst (pc' := 1054) (v := (1 : Int32)) X dL_law_1053 rfl rfl ?_
  refine zi_iadd (pc' := 1055) X dL_law_1054 rfl ?_
  refine zi_sld (pc' := 1056) X Y (zsi 1 (by decide) hi.1 hi.2) dL_law_1055 rfl ?_
  refine zi_aload_n (pc' := 1057) X dL_law_1056 rfl rfl 0 rfl ?_
  refine zi_iload_n (pc' := 1058) X dL_law_1057 rfl rfl 3 rfl ?_
  refine zi_iconst (pc' := 1059) (v := (2 : Int32)) X dL_law_1058 rfl rfl ?_
  refine zi_iadd (pc' := 1060) X dL_law_1059 rfl ?_
  refine zi_sld (pc' := 1061) X Y (zsi 2 (by decide) hi.1 hi.2) dL_law_1060 rfl ?_
  refine zi_callVi (pc' := 1064) X zl_L_117 (k0 := 66) rfl (by decide) [.int (xs (nI i + (1 : Int32)).toNatClampNeg), .int (xs (nI i + (2 : Int32)).toNatClampNeg)] rfl rfl (by decide) (Nat.le_of_ble_eq_true rfl) dL_law_1061 rfl (tX6_fits g rfl (zok_imp h1 (fun r2 m2 h2 => ?_)))
  obtain ⟨e, hI⟩ := h2
  refine zi_icmp_eq (pc' := 1067) (tgt := 1597) X dL_law_1064 rfl rfl (fun c => next _ hI) (fun c => absurd e c)
def zE25 (Inv : zMem → Prop) : Prop := ∀ (a1 : Int32) (a2 : Int32) (μ : zMem), Inv μ → zok (fX5_kinds 0 a1 a2 μ) (fun r μ1 => zok (fX6_kinds 66 a1 a2 μ1) (fun r' μ2 => r = r' ∧ Inv μ2))
set_option maxRecDepth 100000 in
theorem zlaw_25 {g : zG} {κ : zK} (X : zC g κ RL code 4 11) {b L : Nat} {xs : Nat → Int32} (Y : zLw κ b L xs) {Inv : zMem → Prop} {i : Nat} (hi : i + 6 ≤ L ∧ L ≤ 3072) (hc : zE25 Inv) (next : ∀ μ, Inv μ → zV g κ 1597 (zlv g b i) [] μ) {μ : zMem} (h : Inv μ) : zV g κ 1069 (zlv g b i) [] μ := by
  refine zi_aload_n (pc' := 1070) X dL_law_1069 rfl rfl 1 rfl ?_
  refine zi_aload_n (pc' := 1071) X dL_law_1070 rfl rfl 0 rfl ?_
  refine zi_iload_n (pc' := 1072) X dL_law_1071 rfl rfl 3 rfl ?_
  refine zi_iconst (pc' := 1073) (v := (1 : Int32)) X dL_law_1072 rfl rfl ?_
  refine zi_iadd (pc' := 1074) X dL_law_1073 rfl ?_
  refine zi_sld (pc' := 1075) X Y (zsi 1 (by decide) hi.1 hi.2) dL_law_1074 rfl ?_
  refine zi_aload_n (pc' := 1076) X dL_law_1075 rfl rfl 0 rfl ?_
  refine zi_iload_n (pc' := 1077) X dL_law_1076 rfl rfl 3 rfl ?_
  refine zi_iconst (pc' := 1078) (v := (2 : Int32)) X dL_law_1077 rfl rfl ?_
  refine zi_iadd (pc' := 1079) X dL_law_1078 rfl ?_
  refine zi_sld (pc' := 1080) X Y (zsi 2 (by decide) hi.1 hi.2) dL_law_1079 rfl ?_
  refine zi_callVi (pc' := 1083) X zl_L_118 (k0 := 0) rfl (by decide) [.int (xs (nI i + (1 : Int32)).toNatClampNeg), .int (xs (nI i + (2 : Int32)).toNatClampNeg)] rfl rfl (by decide) (Nat.le_of_ble_eq_true rfl) dL_law_1080 rfl (tX5_kinds g rfl (zok_imp (hc (xs (nI i + (1 : Int32)).toNatClampNeg) (xs (nI i + (2 : Int32)).toNatClampNeg) μ h) (fun r1 m1 h1 => ?_)))
  refine zi_aload_n (pc' := 1084) X dL_law_1083 rfl rfl 2 rfl ?_
  refine zi_aload_n (pc' := 1085) X dL_law_1084 rfl rfl 0 rfl ?_
  refine zi_iload_n (pc' := 1086) X dL_law_1085 rfl rfl 3 rfl ?_
  refine zi_iconst (pc' := 1087) (v := (1 : Int32)) X dL_law_1086 rfl rfl ?_
  refine zi_iadd (pc' := 1088) X dL_law_1087 rfl ?_
  refine zi_sld (pc' := 1089) X Y (zsi 1 (by decide) hi.1 hi.2) dL_law_1088 rfl ?_
  refine zi_aload_n (pc' := 1090) X dL_law_1089 rfl rfl 0 rfl ?_
  refine zi_iload_n (pc' := 1091) X dL_law_1090 rfl rfl 3 rfl ?_
  refine zi_iconst (pc' := 1092) (v := (2 : Int32)) X dL_law_1091 rfl rfl ?_
  refine zi_iadd (pc' := 1093) X dL_law_1092 rfl ?_
  refine zi_sld (pc' := 1094) X Y (zsi 2 (by decide) hi.1 hi.2) dL_law_1093 rfl ?_
  refine zi_callVi (pc' := 1097) X zl_L_121 (k0 := 66) rfl (by decide) [.int (xs (nI i + (1 : Int32)).toNatClampNeg), .int (xs (nI i + (2 : Int32)).toNatClampNeg)] rfl rfl (by decide) (Nat.le_of_ble_eq_true rfl) dL_law_1094 rfl (tX6_kinds g rfl (zok_imp h1 (fun r2 m2 h2 => ?_)))
  obtain ⟨e, hI⟩ := h2
  refine zi_icmp_eq (pc' := 1100) (tgt := 1597) X dL_law_1097 rfl rfl (fun c => next _ hI) (fun c => absurd e c)
def zE26 (Inv : zMem → Prop) : Prop := ∀ (a1 : Int32) (μ : zMem), Inv μ → zok (fX5_nomads 0 a1 μ) (fun r μ1 => zok (fX6_nomads 66 a1 μ1) (fun r' μ2 => r = r' ∧ Inv μ2))
set_option maxRecDepth 100000 in
theorem zlaw_26 {g : zG} {κ : zK} (X : zC g κ RL code 4 11) {b L : Nat} {xs : Nat → Int32} (Y : zLw κ b L xs) {Inv : zMem → Prop} {i : Nat} (hi : i + 6 ≤ L ∧ L ≤ 3072) (hc : zE26 Inv) (next : ∀ μ, Inv μ → zV g κ 1597 (zlv g b i) [] μ) {μ : zMem} (h : Inv μ) : zV g κ 1102 (zlv g b i) [] μ := by
  refine zi_aload_n (pc' := 1103) X dL_law_1102 rfl rfl 1 rfl ?_
  refine zi_aload_n (pc' := 1104) X dL_law_1103 rfl rfl 0 rfl ?_
  refine zi_iload_n (pc' := 1105) X dL_law_1104 rfl rfl 3 rfl ?_
  refine zi_iconst (pc' := 1106) (v := (1 : Int32)) X dL_law_1105 rfl rfl ?_
  refine zi_iadd (pc' := 1107) X dL_law_1106 rfl ?_
  refine zi_sld (pc' := 1108) X Y (zsi 1 (by decide) hi.1 hi.2) dL_law_1107 rfl ?_
  refine zi_callVi (pc' := 1111) X zl_L_122 (k0 := 0) rfl (by decide) [.int (xs (nI i + (1 : Int32)).toNatClampNeg)] rfl rfl (by decide) (Nat.le_of_ble_eq_true rfl) dL_law_1108 rfl (tX5_nomads g rfl (zok_imp (hc (xs (nI i + (1 : Int32)).toNatClampNeg) μ h) (fun r1 m1 h1 => ?_)))
  refine zi_aload_n (pc' := 1112) X dL_law_1111 rfl rfl 2 rfl ?_
  refine zi_aload_n (pc' := 1113) X dL_law_1112 rfl rfl 0 rfl ?_
  refine zi_iload_n (pc' := 1114) X dL_law_1113 rfl rfl 3 rfl ?_
  refine zi_iconst (pc' := 1115) (v := (1 : Int32)) X dL_law_1114 rfl rfl ?_
  refine zi_iadd (pc' := 1116) X dL_law_1115 rfl ?_
  refine zi_sld (pc' := 1117) X Y (zsi 1 (by decide) hi.1 hi.2) dL_law_1116 rfl ?_
  refine zi_callVi (pc' := 1120) X zl_L_125 (k0 := 66) rfl (by decide) [.int (xs (nI i + (1 : Int32)).toNatClampNeg)] rfl rfl (by decide) (Nat.le_of_ble_eq_true rfl) dL_law_1117 rfl (tX6_nomads g rfl (zok_imp h1 (fun r2 m2 h2 => ?_)))
  obtain ⟨e, hI⟩ := h2
  refine zi_icmp_eq (pc' := 1123) (tgt := 1597) X dL_law_1120 rfl rfl (fun c => next _ hI) (fun c => absurd e c)
def zE27 (Inv : zMem → Prop) : Prop := ∀ (a1 : Int32) (a2 : Int32) (μ : zMem), Inv μ → zok (fX5_odds 0 a1 a2 μ) (fun r μ1 => zok (fX6_odds 66 a1 a2 μ1) (fun r' μ2 => r = r' ∧ Inv μ2))
set_option maxRecDepth 100000 in
theorem zlaw_27 {g : zG} {κ : zK} (X : zC g κ RL code 4 11) {b L : Nat} {xs : Nat → Int32} (Y : zLw κ b L xs) {Inv : zMem → Prop} {i : Nat} (hi : i + 6 ≤ L ∧ L ≤ 3072) (hc : zE27 Inv) (next : ∀ μ, Inv μ → zV g κ 1597 (zlv g b i) [] μ) {μ : zMem} (h : Inv μ) : zV g κ 1125 (zlv g b i) [] μ := by
  refine zi_aload_n (pc' := 1126) X dL_law_1125 rfl rfl 1 rfl ?_
  refine zi_aload_n (pc' := 1127) X dL_law_1126 rfl rfl 0 rfl ?_
  refine zi_iload_n (pc' := 1128) X dL_law_1127 rfl rfl 3 rfl ?_
  refine zi_iconst (pc' := 1129) (v := (1 : Int32)) X dL_law_1128 rfl rfl ?_
  refine zi_iadd (pc' := 1130) X dL_law_1129 rfl ?_
  refine zi_sld (pc' := 1131) X Y (zsi 1 (by decide) hi.1 hi.2) dL_law_1130 rfl ?_
  refine zi_aload_n (pc' := 1132) X dL_law_1131 rfl rfl 0 rfl ?_
  refine zi_iload_n (pc' := 1133) X dL_law_1132 rfl rfl 3 rfl ?_
  refine zi_iconst (pc' := 1134) (v := (2 : Int32)) X dL_law_1133 rfl rfl ?_
  refine zi_iadd (pc' := 1135) X dL_law_1134 rfl ?_
  refine zi_sld (pc' := 1136) X Y (zsi 2 (by decide) hi.1 hi.2) dL_law_1135 rfl ?_
  refine zi_callVl (pc' := 1139) X zl_L_126 (k0 := 0) rfl (by decide) [.int (xs (nI i + (1 : Int32)).toNatClampNeg), .int (xs (nI i + (2 : Int32)).toNatClampNeg)] rfl rfl (by decide) (Nat.le_of_ble_eq_true rfl) dL_law_1136 rfl (tX5_odds g rfl (zok_imp (hc (xs (nI i + (1 : Int32)).toNatClampNeg) (xs (nI i + (2 : Int32)).toNatClampNeg) μ h) (fun r1 m1 h1 => ?_)))
  refine zi_aload_n (pc' := 1140) X dL_law_1139 rfl rfl 2 rfl ?_
  refine zi_aload_n (pc' := 1141) X dL_law_1140 rfl rfl 0 rfl ?_
  refine zi_iload_n (pc' := 1142) X dL_law_1141 rfl rfl 3 rfl ?_
  refine zi_iconst (pc' := 1143) (v := (1 : Int32)) X dL_law_1142 rfl rfl ?_
  refine zi_iadd (pc' := 1144) X dL_law_1143 rfl ?_
  refine zi_sld (pc' := 1145) X Y (zsi 1 (by decide) hi.1 hi.2) dL_law_1144 rfl ?_
  refine zi_aload_n (pc' := 1146) X dL_law_1145 rfl rfl 0 rfl ?_
  refine zi_iload_n (pc' := 1147) X dL_law_1146 rfl rfl 3 rfl ?_
  refine zi_iconst (pc' := 1148) (v := (2 : Int32)) X dL_law_1147 rfl rfl ?_
  refine zi_iadd (pc' := 1149) X dL_law_1148 rfl ?_
  refine zi_sld (pc' := 1150) X Y (zsi 2 (by decide) hi.1 hi.2) dL_law_1149 rfl ?_
  refine zi_callVl (pc' := 1153) X zl_L_130 (k0 := 66) rfl (by decide) [.int (xs (nI i + (1 : Int32)).toNatClampNeg), .int (xs (nI i + (2 : Int32)).toNatClampNeg)] rfl rfl (by decide) (Nat.le_of_ble_eq_true rfl) dL_law_1150 rfl (tX6_odds g rfl (zok_imp h1 (fun r2 m2 h2 => ?_)))
  refine zi_lcmp (pc' := 1154) X dL_law_1153 rfl ?_
  obtain ⟨e, hI⟩ := h2
  refine zi_if_eq (pc' := 1157) (tgt := 1597) X dL_law_1154 rfl rfl (fun c => next _ hI) (fun c => absurd (by rw [e]; exact zlc _) c)
def zE28 (Inv : zMem → Prop) : Prop := ∀ (a1 : Int32) (μ : zMem), Inv μ → zok (fX5_seed 0 a1 μ) (fun r μ1 => zok (fX6_seed 66 a1 μ1) (fun r' μ2 => r = r' ∧ Inv μ2))
set_option maxRecDepth 100000 in
theorem zlaw_28 {g : zG} {κ : zK} (X : zC g κ RL code 4 11) {b L : Nat} {xs : Nat → Int32} (Y : zLw κ b L xs) {Inv : zMem → Prop} {i : Nat} (hi : i + 6 ≤ L ∧ L ≤ 3072) (hc : zE28 Inv) (next : ∀ μ, Inv μ → zV g κ 1597 (zlv g b i) [] μ) {μ : zMem} (h : Inv μ) : zV g κ 1159 (zlv g b i) [] μ := by
  refine zi_aload_n (pc' := 1160) X dL_law_1159 rfl rfl 1 rfl ?_
  refine zi_aload_n (pc' := 1161) X dL_law_1160 rfl rfl 0 rfl ?_
  refine zi_iload_n (pc' := 1162) X dL_law_1161 rfl rfl 3 rfl ?_
  refine zi_iconst (pc' := 1163) (v := (1 : Int32)) X dL_law_1162 rfl rfl ?_
  refine zi_iadd (pc' := 1164) X dL_law_1163 rfl ?_
  refine zi_sld (pc' := 1165) X Y (zsi 1 (by decide) hi.1 hi.2) dL_law_1164 rfl ?_
  refine zi_callVi (pc' := 1168) X zl_L_131 (k0 := 0) rfl (by decide) [.int (xs (nI i + (1 : Int32)).toNatClampNeg)] rfl rfl (by decide) (Nat.le_of_ble_eq_true rfl) dL_law_1165 rfl (tX5_seed g rfl (zok_imp (hc (xs (nI i + (1 : Int32)).toNatClampNeg) μ h) (fun r1 m1 h1 => ?_)))
  refine zi_aload_n (pc' := 1169) X dL_law_1168 rfl rfl 2 rfl ?_
  refine zi_aload_n (pc' := 1170) X dL_law_1169 rfl rfl 0 rfl ?_
  refine zi_iload_n (pc' := 1171) X dL_law_1170 rfl rfl 3 rfl ?_
  refine zi_iconst (pc' := 1172) (v := (1 : Int32)) X dL_law_1171 rfl rfl ?_
  refine zi_iadd (pc' := 1173) X dL_law_1172 rfl ?_
  refine zi_sld (pc' := 1174) X Y (zsi 1 (by decide) hi.1 hi.2) dL_law_1173 rfl ?_
  refine zi_callVi (pc' := 1177) X zl_L_134 (k0 := 66) rfl (by decide) [.int (xs (nI i + (1 : Int32)).toNatClampNeg)] rfl rfl (by decide) (Nat.le_of_ble_eq_true rfl) dL_law_1174 rfl (tX6_seed g rfl (zok_imp h1 (fun r2 m2 h2 => ?_)))
  obtain ⟨e, hI⟩ := h2
  refine zi_icmp_eq (pc' := 1180) (tgt := 1597) X dL_law_1177 rfl rfl (fun c => next _ hI) (fun c => absurd e c)
def zE29 (Inv : zMem → Prop) : Prop := ∀ (a1 : Int32) (a2 : Int32) (μ : zMem), Inv μ → zok (fX5_feed 0 a1 a2 μ) (fun r μ1 => zok (fX6_feed 66 a1 a2 μ1) (fun r' μ2 => r = r' ∧ Inv μ2))
set_option maxRecDepth 100000 in
theorem zlaw_29 {g : zG} {κ : zK} (X : zC g κ RL code 4 11) {b L : Nat} {xs : Nat → Int32} (Y : zLw κ b L xs) {Inv : zMem → Prop} {i : Nat} (hi : i + 6 ≤ L ∧ L ≤ 3072) (hc : zE29 Inv) (next : ∀ μ, Inv μ → zV g κ 1597 (zlv g b i) [] μ) {μ : zMem} (h : Inv μ) : zV g κ 1182 (zlv g b i) [] μ := by
  refine zi_aload_n (pc' := 1183) X dL_law_1182 rfl rfl 1 rfl ?_
  refine zi_aload_n (pc' := 1184) X dL_law_1183 rfl rfl 0 rfl ?_
  refine zi_iload_n (pc' := 1185) X dL_law_1184 rfl rfl 3 rfl ?_
  refine zi_iconst (pc' := 1186) (v := (1 : Int32)) X dL_law_1185 rfl rfl ?_
  refine zi_iadd (pc' := 1187) X dL_law_1186 rfl ?_
  refine zi_sld (pc' := 1188) X Y (zsi 1 (by decide) hi.1 hi.2) dL_law_1187 rfl ?_
  refine zi_aload_n (pc' := 1189) X dL_law_1188 rfl rfl 0 rfl ?_
  refine zi_iload_n (pc' := 1190) X dL_law_1189 rfl rfl 3 rfl ?_
  refine zi_iconst (pc' := 1191) (v := (2 : Int32)) X dL_law_1190 rfl rfl ?_
  refine zi_iadd (pc' := 1192) X dL_law_1191 rfl ?_
  refine zi_sld (pc' := 1193) X Y (zsi 2 (by decide) hi.1 hi.2) dL_law_1192 rfl ?_
  refine zi_callVi (pc' := 1196) X zl_L_135 (k0 := 0) rfl (by decide) [.int (xs (nI i + (1 : Int32)).toNatClampNeg), .int (xs (nI i + (2 : Int32)).toNatClampNeg)] rfl rfl (by decide) (Nat.le_of_ble_eq_true rfl) dL_law_1193 rfl (tX5_feed g rfl (zok_imp (hc (xs (nI i + (1 : Int32)).toNatClampNeg) (xs (nI i + (2 : Int32)).toNatClampNeg) μ h) (fun r1 m1 h1 => ?_)))
  refine zi_aload_n (pc' := 1197) X dL_law_1196 rfl rfl 2 rfl ?_
  refine zi_aload_n (pc' := 1198) X dL_law_1197 rfl rfl 0 rfl ?_
  refine zi_iload_n (pc' := 1199) X dL_law_1198 rfl rfl 3 rfl ?_
  refine zi_iconst (pc' := 1200) (v := (1 : Int32)) X dL_law_1199 rfl rfl ?_
  refine zi_iadd (pc' := 1201) X dL_law_1200 rfl ?_
  refine zi_sld (pc' := 1202) X Y (zsi 1 (by decide) hi.1 hi.2) dL_law_1201 rfl ?_
  refine zi_aload_n (pc' := 1203) X dL_law_1202 rfl rfl 0 rfl ?_
  refine zi_iload_n (pc' := 1204) X dL_law_1203 rfl rfl 3 rfl ?_
  refine zi_iconst (pc' := 1205) (v := (2 : Int32)) X dL_law_1204 rfl rfl ?_
  refine zi_iadd (pc' := 1206) X dL_law_1205 rfl ?_
  refine zi_sld (pc' := 1207) X Y (zsi 2 (by decide) hi.1 hi.2) dL_law_1206 rfl ?_
  refine zi_callVi (pc' := 1210) X zl_L_138 (k0 := 66) rfl (by decide) [.int (xs (nI i + (1 : Int32)).toNatClampNeg), .int (xs (nI i + (2 : Int32)).toNatClampNeg)] rfl rfl (by decide) (Nat.le_of_ble_eq_true rfl) dL_law_1207 rfl (tX6_feed g rfl (zok_imp h1 (fun r2 m2 h2 => ?_)))
  obtain ⟨e, hI⟩ := h2
  refine zi_icmp_eq (pc' := 1213) (tgt := 1597) X dL_law_1210 rfl rfl (fun c => next _ hI) (fun c => absurd e c)
def zE30 (Inv : zMem → Prop) : Prop := ∀ (μ : zMem), Inv μ → zok (fX5_wipe 0  μ) (fun r μ1 => zok (fX6_wipe 66  μ1) (fun r' μ2 => r = r' ∧ Inv μ2))
set_option maxRecDepth 100000 in
theorem zlaw_30 {g : zG} {κ : zK} (X : zC g κ RL code 4 11) {b L : Nat} {xs : Nat → Int32} (Y : zLw κ b L xs) {Inv : zMem → Prop} {i : Nat} (hi : i + 6 ≤ L ∧ L ≤ 3072) (hc : zE30 Inv) (next : ∀ μ, Inv μ → zV g κ 1597 (zlv g b i) [] μ) {μ : zMem} (h : Inv μ) : zV g κ 1215 (zlv g b i) [] μ := by
  refine zi_aload_n (pc' := 1216) X dL_law_1215 rfl rfl 1 rfl ?_
  refine zi_callVi (pc' := 1219) X zl_L_139 (k0 := 0) rfl (by decide) [] rfl rfl (by decide) (Nat.le_of_ble_eq_true rfl) dL_law_1216 rfl (tX5_wipe g rfl (zok_imp (hc μ h) (fun r1 m1 h1 => ?_)))
  refine zi_aload_n (pc' := 1220) X dL_law_1219 rfl rfl 2 rfl ?_
  refine zi_callVi (pc' := 1223) X zl_L_142 (k0 := 66) rfl (by decide) [] rfl rfl (by decide) (Nat.le_of_ble_eq_true rfl) dL_law_1220 rfl (tX6_wipe g rfl (zok_imp h1 (fun r2 m2 h2 => ?_)))
  obtain ⟨e, hI⟩ := h2
  refine zi_icmp_eq (pc' := 1226) (tgt := 1597) X dL_law_1223 rfl rfl (fun c => next _ hI) (fun c => absurd e c)
def zE31 (Inv : zMem → Prop) : Prop := ∀ (μ : zMem), Inv μ → zok (fX5_text 0  μ) (fun r μ1 => zok (fX6_text 66  μ1) (fun r' μ2 => r = r' ∧ Inv μ2))
set_option maxRecDepth 100000 in
theorem zlaw_31 {g : zG} {κ : zK} (X : zC g κ RL code 4 11) {b L : Nat} {xs : Nat → Int32} (Y : zLw κ b L xs) {Inv : zMem → Prop} {i : Nat} (hi : i + 6 ≤ L ∧ L ≤ 3072) (hc : zE31 Inv) (next : ∀ μ, Inv μ → zV g κ 1597 (zlv g b i) [] μ) {μ : zMem} (h : Inv μ) : zV g κ 1228 (zlv g b i) [] μ := by
  refine zi_aload_n (pc' := 1229) X dL_law_1228 rfl rfl 1 rfl ?_
  refine zi_callVi (pc' := 1232) X zl_L_143 (k0 := 0) rfl (by decide) [] rfl rfl (by decide) (Nat.le_of_ble_eq_true rfl) dL_law_1229 rfl (tX5_text g rfl (zok_imp (hc μ h) (fun r1 m1 h1 => ?_)))
  refine zi_aload_n (pc' := 1233) X dL_law_1232 rfl rfl 2 rfl ?_
  refine zi_callVi (pc' := 1236) X zl_L_146 (k0 := 66) rfl (by decide) [] rfl rfl (by decide) (Nat.le_of_ble_eq_true rfl) dL_law_1233 rfl (tX6_text g rfl (zok_imp h1 (fun r2 m2 h2 => ?_)))
  obtain ⟨e, hI⟩ := h2
  refine zi_icmp_eq (pc' := 1239) (tgt := 1597) X dL_law_1236 rfl rfl (fun c => next _ hI) (fun c => absurd e c)
def zE32 (Inv : zMem → Prop) : Prop := ∀ (a1 : Int32) (a2 : Int32) (μ : zMem), Inv μ → zok (fX5_hold 0 a1 a2 μ) (fun r μ1 => zok (fX6_hold 66 a1 a2 μ1) (fun r' μ2 => r = r' ∧ Inv μ2))
set_option maxRecDepth 100000 in
theorem zlaw_32 {g : zG} {κ : zK} (X : zC g κ RL code 4 11) {b L : Nat} {xs : Nat → Int32} (Y : zLw κ b L xs) {Inv : zMem → Prop} {i : Nat} (hi : i + 6 ≤ L ∧ L ≤ 3072) (hc : zE32 Inv) (next : ∀ μ, Inv μ → zV g κ 1597 (zlv g b i) [] μ) {μ : zMem} (h : Inv μ) : zV g κ 1241 (zlv g b i) [] μ := by
  refine zi_aload_n (pc' := 1242) X dL_law_1241 rfl rfl 1 rfl ?_
  refine zi_aload_n (pc' := 1243) X dL_law_1242 rfl rfl 0 rfl ?_
  refine zi_iload_n (pc' := 1244) X dL_law_1243 rfl rfl 3 rfl ?_
  refine zi_iconst (pc' := 1245) (v := (1 : Int32)) X dL_law_1244 rfl rfl ?_
  refine zi_iadd (pc' := 1246) X dL_law_1245 rfl ?_
  refine zi_sld (pc' := 1247) X Y (zsi 1 (by decide) hi.1 hi.2) dL_law_1246 rfl ?_
  refine zi_aload_n (pc' := 1248) X dL_law_1247 rfl rfl 0 rfl ?_
  refine zi_iload_n (pc' := 1249) X dL_law_1248 rfl rfl 3 rfl ?_
  refine zi_iconst (pc' := 1250) (v := (2 : Int32)) X dL_law_1249 rfl rfl ?_
  refine zi_iadd (pc' := 1251) X dL_law_1250 rfl ?_
  refine zi_sld (pc' := 1252) X Y (zsi 2 (by decide) hi.1 hi.2) dL_law_1251 rfl ?_
  refine zi_callVi (pc' := 1255) X zl_L_147 (k0 := 0) rfl (by decide) [.int (xs (nI i + (1 : Int32)).toNatClampNeg), .int (xs (nI i + (2 : Int32)).toNatClampNeg)] rfl rfl (by decide) (Nat.le_of_ble_eq_true rfl) dL_law_1252 rfl (tX5_hold g rfl (zok_imp (hc (xs (nI i + (1 : Int32)).toNatClampNeg) (xs (nI i + (2 : Int32)).toNatClampNeg) μ h) (fun r1 m1 h1 => ?_)))
  refine zi_aload_n (pc' := 1256) X dL_law_1255 rfl rfl 2 rfl ?_
  refine zi_aload_n (pc' := 1257) X dL_law_1256 rfl rfl 0 rfl ?_
  refine zi_iload_n (pc' := 1258) X dL_law_1257 rfl rfl 3 rfl ?_
  refine zi_iconst (pc' := 1259) (v := (1 : Int32)) X dL_law_1258 rfl rfl ?_
  refine zi_iadd (pc' := 1260) X dL_law_1259 rfl ?_
  refine zi_sld (pc' := 1261) X Y (zsi 1 (by decide) hi.1 hi.2) dL_law_1260 rfl ?_
  refine zi_aload_n (pc' := 1262) X dL_law_1261 rfl rfl 0 rfl ?_
  refine zi_iload_n (pc' := 1263) X dL_law_1262 rfl rfl 3 rfl ?_
  refine zi_iconst (pc' := 1264) (v := (2 : Int32)) X dL_law_1263 rfl rfl ?_
  refine zi_iadd (pc' := 1265) X dL_law_1264 rfl ?_
  refine zi_sld (pc' := 1266) X Y (zsi 2 (by decide) hi.1 hi.2) dL_law_1265 rfl ?_
  refine zi_callVi (pc' := 1269) X zl_L_150 (k0 := 66) rfl (by decide) [.int (xs (nI i + (1 : Int32)).toNatClampNeg), .int (xs (nI i + (2 : Int32)).toNatClampNeg)] rfl rfl (by decide) (Nat.le_of_ble_eq_true rfl) dL_law_1266 rfl (tX6_hold g rfl (zok_imp h1 (fun r2 m2 h2 => ?_)))
  obtain ⟨e, hI⟩ := h2
  refine zi_icmp_eq (pc' := 1272) (tgt := 1597) X dL_law_1269 rfl rfl (fun c => next _ hI) (fun c => absurd e c)
def zE33 (Inv : zMem → Prop) : Prop := ∀ (a1 : Int32) (a2 : Int32) (μ : zMem), Inv μ → zok (fX5_as 0 a1 a2 μ) (fun r μ1 => zok (fX6_as 66 a1 a2 μ1) (fun r' μ2 => r = r' ∧ Inv μ2))
set_option maxRecDepth 100000 in
theorem zlaw_33 {g : zG} {κ : zK} (X : zC g κ RL code 4 11) {b L : Nat} {xs : Nat → Int32} (Y : zLw κ b L xs) {Inv : zMem → Prop} {i : Nat} (hi : i + 6 ≤ L ∧ L ≤ 3072) (hc : zE33 Inv) (next : ∀ μ, Inv μ → zV g κ 1597 (zlv g b i) [] μ) {μ : zMem} (h : Inv μ) : zV g κ 1274 (zlv g b i) [] μ := by
  refine zi_aload_n (pc' := 1275) X dL_law_1274 rfl rfl 1 rfl ?_
  refine zi_aload_n (pc' := 1276) X dL_law_1275 rfl rfl 0 rfl ?_
  refine zi_iload_n (pc' := 1277) X dL_law_1276 rfl rfl 3 rfl ?_
  refine zi_iconst (pc' := 1278) (v := (1 : Int32)) X dL_law_1277 rfl rfl ?_
  refine zi_iadd (pc' := 1279) X dL_law_1278 rfl ?_
  refine zi_sld (pc' := 1280) X Y (zsi 1 (by decide) hi.1 hi.2) dL_law_1279 rfl ?_
  refine zi_aload_n (pc' := 1281) X dL_law_1280 rfl rfl 0 rfl ?_
  refine zi_iload_n (pc' := 1282) X dL_law_1281 rfl rfl 3 rfl ?_
  refine zi_iconst (pc' := 1283) (v := (2 : Int32)) X dL_law_1282 rfl rfl ?_
  refine zi_iadd (pc' := 1284) X dL_law_1283 rfl ?_
  refine zi_sld (pc' := 1285) X Y (zsi 2 (by decide) hi.1 hi.2) dL_law_1284 rfl ?_
  refine zi_callVi (pc' := 1288) X zl_L_151 (k0 := 0) rfl (by decide) [.int (xs (nI i + (1 : Int32)).toNatClampNeg), .int (xs (nI i + (2 : Int32)).toNatClampNeg)] rfl rfl (by decide) (Nat.le_of_ble_eq_true rfl) dL_law_1285 rfl (tX5_as g rfl (zok_imp (hc (xs (nI i + (1 : Int32)).toNatClampNeg) (xs (nI i + (2 : Int32)).toNatClampNeg) μ h) (fun r1 m1 h1 => ?_)))
  refine zi_aload_n (pc' := 1289) X dL_law_1288 rfl rfl 2 rfl ?_
  refine zi_aload_n (pc' := 1290) X dL_law_1289 rfl rfl 0 rfl ?_
  refine zi_iload_n (pc' := 1291) X dL_law_1290 rfl rfl 3 rfl ?_
  refine zi_iconst (pc' := 1292) (v := (1 : Int32)) X dL_law_1291 rfl rfl ?_
  refine zi_iadd (pc' := 1293) X dL_law_1292 rfl ?_
  refine zi_sld (pc' := 1294) X Y (zsi 1 (by decide) hi.1 hi.2) dL_law_1293 rfl ?_
  refine zi_aload_n (pc' := 1295) X dL_law_1294 rfl rfl 0 rfl ?_
  refine zi_iload_n (pc' := 1296) X dL_law_1295 rfl rfl 3 rfl ?_
  refine zi_iconst (pc' := 1297) (v := (2 : Int32)) X dL_law_1296 rfl rfl ?_
  refine zi_iadd (pc' := 1298) X dL_law_1297 rfl ?_
  refine zi_sld (pc' := 1299) X Y (zsi 2 (by decide) hi.1 hi.2) dL_law_1298 rfl ?_
  refine zi_callVi (pc' := 1302) X zl_L_154 (k0 := 66) rfl (by decide) [.int (xs (nI i + (1 : Int32)).toNatClampNeg), .int (xs (nI i + (2 : Int32)).toNatClampNeg)] rfl rfl (by decide) (Nat.le_of_ble_eq_true rfl) dL_law_1299 rfl (tX6_as g rfl (zok_imp h1 (fun r2 m2 h2 => ?_)))
  obtain ⟨e, hI⟩ := h2
  refine zi_icmp_eq (pc' := 1305) (tgt := 1597) X dL_law_1302 rfl rfl (fun c => next _ hI) (fun c => absurd e c)
def zE34 (Inv : zMem → Prop) : Prop := ∀ (a1 : Int32) (a2 : Int32) (a3 : Int32) (μ : zMem), Inv μ → zok (fX5_sheet 0 a1 a2 a3 μ) (fun r μ1 => zok (fX6_sheet 66 a1 a2 a3 μ1) (fun r' μ2 => r = r' ∧ Inv μ2))
set_option maxRecDepth 100000 in
theorem zlaw_34 {g : zG} {κ : zK} (X : zC g κ RL code 4 11) {b L : Nat} {xs : Nat → Int32} (Y : zLw κ b L xs) {Inv : zMem → Prop} {i : Nat} (hi : i + 6 ≤ L ∧ L ≤ 3072) (hc : zE34 Inv) (next : ∀ μ, Inv μ → zV g κ 1597 (zlv g b i) [] μ) {μ : zMem} (h : Inv μ) : zV g κ 1307 (zlv g b i) [] μ := by
  refine zi_aload_n (pc' := 1308) X dL_law_1307 rfl rfl 1 rfl ?_
  refine zi_aload_n (pc' := 1309) X dL_law_1308 rfl rfl 0 rfl ?_
  refine zi_iload_n (pc' := 1310) X dL_law_1309 rfl rfl 3 rfl ?_
  refine zi_iconst (pc' := 1311) (v := (1 : Int32)) X dL_law_1310 rfl rfl ?_
  refine zi_iadd (pc' := 1312) X dL_law_1311 rfl ?_
  refine zi_sld (pc' := 1313) X Y (zsi 1 (by decide) hi.1 hi.2) dL_law_1312 rfl ?_
  refine zi_aload_n (pc' := 1314) X dL_law_1313 rfl rfl 0 rfl ?_
  refine zi_iload_n (pc' := 1315) X dL_law_1314 rfl rfl 3 rfl ?_
  refine zi_iconst (pc' := 1316) (v := (2 : Int32)) X dL_law_1315 rfl rfl ?_
  refine zi_iadd (pc' := 1317) X dL_law_1316 rfl ?_
  refine zi_sld (pc' := 1318) X Y (zsi 2 (by decide) hi.1 hi.2) dL_law_1317 rfl ?_
  refine zi_aload_n (pc' := 1319) X dL_law_1318 rfl rfl 0 rfl ?_
  refine zi_iload_n (pc' := 1320) X dL_law_1319 rfl rfl 3 rfl ?_
  refine zi_iconst (pc' := 1321) (v := (3 : Int32)) X dL_law_1320 rfl rfl ?_
  refine zi_iadd (pc' := 1322) X dL_law_1321 rfl ?_
  refine zi_sld (pc' := 1323) X Y (zsi 3 (by decide) hi.1 hi.2) dL_law_1322 rfl ?_
  refine zi_callVi (pc' := 1326) X zl_L_155 (k0 := 0) rfl (by decide) [.int (xs (nI i + (1 : Int32)).toNatClampNeg), .int (xs (nI i + (2 : Int32)).toNatClampNeg), .int (xs (nI i + (3 : Int32)).toNatClampNeg)] rfl rfl (by decide) (Nat.le_of_ble_eq_true rfl) dL_law_1323 rfl (tX5_sheet g rfl (zok_imp (hc (xs (nI i + (1 : Int32)).toNatClampNeg) (xs (nI i + (2 : Int32)).toNatClampNeg) (xs (nI i + (3 : Int32)).toNatClampNeg) μ h) (fun r1 m1 h1 => ?_)))
  refine zi_aload_n (pc' := 1327) X dL_law_1326 rfl rfl 2 rfl ?_
  refine zi_aload_n (pc' := 1328) X dL_law_1327 rfl rfl 0 rfl ?_
  refine zi_iload_n (pc' := 1329) X dL_law_1328 rfl rfl 3 rfl ?_
  refine zi_iconst (pc' := 1330) (v := (1 : Int32)) X dL_law_1329 rfl rfl ?_
  refine zi_iadd (pc' := 1331) X dL_law_1330 rfl ?_
  refine zi_sld (pc' := 1332) X Y (zsi 1 (by decide) hi.1 hi.2) dL_law_1331 rfl ?_
  refine zi_aload_n (pc' := 1333) X dL_law_1332 rfl rfl 0 rfl ?_
  refine zi_iload_n (pc' := 1334) X dL_law_1333 rfl rfl 3 rfl ?_
  refine zi_iconst (pc' := 1335) (v := (2 : Int32)) X dL_law_1334 rfl rfl ?_
  refine zi_iadd (pc' := 1336) X dL_law_1335 rfl ?_
  refine zi_sld (pc' := 1337) X Y (zsi 2 (by decide) hi.1 hi.2) dL_law_1336 rfl ?_
  refine zi_aload_n (pc' := 1338) X dL_law_1337 rfl rfl 0 rfl ?_
  refine zi_iload_n (pc' := 1339) X dL_law_1338 rfl rfl 3 rfl ?_
  refine zi_iconst (pc' := 1340) (v := (3 : Int32)) X dL_law_1339 rfl rfl ?_
  refine zi_iadd (pc' := 1341) X dL_law_1340 rfl ?_
  refine zi_sld (pc' := 1342) X Y (zsi 3 (by decide) hi.1 hi.2) dL_law_1341 rfl ?_
  refine zi_callVi (pc' := 1345) X zl_L_158 (k0 := 66) rfl (by decide) [.int (xs (nI i + (1 : Int32)).toNatClampNeg), .int (xs (nI i + (2 : Int32)).toNatClampNeg), .int (xs (nI i + (3 : Int32)).toNatClampNeg)] rfl rfl (by decide) (Nat.le_of_ble_eq_true rfl) dL_law_1342 rfl (tX6_sheet g rfl (zok_imp h1 (fun r2 m2 h2 => ?_)))
  obtain ⟨e, hI⟩ := h2
  refine zi_icmp_eq (pc' := 1348) (tgt := 1597) X dL_law_1345 rfl rfl (fun c => next _ hI) (fun c => absurd e c)
def zE35 (Inv : zMem → Prop) : Prop := ∀ (a1 : Int32) (a2 : Int32) (a3 : Int32) (μ : zMem), Inv μ → zok (fX5_write 0 a1 a2 a3 μ) (fun r μ1 => zok (fX6_write 66 a1 a2 a3 μ1) (fun r' μ2 => r = r' ∧ Inv μ2))
set_option maxRecDepth 100000 in
theorem zlaw_35 {g : zG} {κ : zK} (X : zC g κ RL code 4 11) {b L : Nat} {xs : Nat → Int32} (Y : zLw κ b L xs) {Inv : zMem → Prop} {i : Nat} (hi : i + 6 ≤ L ∧ L ≤ 3072) (hc : zE35 Inv) (next : ∀ μ, Inv μ → zV g κ 1597 (zlv g b i) [] μ) {μ : zMem} (h : Inv μ) : zV g κ 1350 (zlv g b i) [] μ := by
  refine zi_aload_n (pc' := 1351) X dL_law_1350 rfl rfl 1 rfl ?_
  refine zi_aload_n (pc' := 1352) X dL_law_1351 rfl rfl 0 rfl ?_
  refine zi_iload_n (pc' := 1353) X dL_law_1352 rfl rfl 3 rfl ?_
  refine zi_iconst (pc' := 1354) (v := (1 : Int32)) X dL_law_1353 rfl rfl ?_
  refine zi_iadd (pc' := 1355) X dL_law_1354 rfl ?_
  refine zi_sld (pc' := 1356) X Y (zsi 1 (by decide) hi.1 hi.2) dL_law_1355 rfl ?_
  refine zi_aload_n (pc' := 1357) X dL_law_1356 rfl rfl 0 rfl ?_
  refine zi_iload_n (pc' := 1358) X dL_law_1357 rfl rfl 3 rfl ?_
  refine zi_iconst (pc' := 1359) (v := (2 : Int32)) X dL_law_1358 rfl rfl ?_
  refine zi_iadd (pc' := 1360) X dL_law_1359 rfl ?_
  refine zi_sld (pc' := 1361) X Y (zsi 2 (by decide) hi.1 hi.2) dL_law_1360 rfl ?_
  refine zi_aload_n (pc' := 1362) X dL_law_1361 rfl rfl 0 rfl ?_
  refine zi_iload_n (pc' := 1363) X dL_law_1362 rfl rfl 3 rfl ?_
  refine zi_iconst (pc' := 1364) (v := (3 : Int32)) X dL_law_1363 rfl rfl ?_
  refine zi_iadd (pc' := 1365) X dL_law_1364 rfl ?_
  refine zi_sld (pc' := 1366) X Y (zsi 3 (by decide) hi.1 hi.2) dL_law_1365 rfl ?_
  refine zi_callVi (pc' := 1369) X zl_L_159 (k0 := 0) rfl (by decide) [.int (xs (nI i + (1 : Int32)).toNatClampNeg), .int (xs (nI i + (2 : Int32)).toNatClampNeg), .int (xs (nI i + (3 : Int32)).toNatClampNeg)] rfl rfl (by decide) (Nat.le_of_ble_eq_true rfl) dL_law_1366 rfl (tX5_write g rfl (zok_imp (hc (xs (nI i + (1 : Int32)).toNatClampNeg) (xs (nI i + (2 : Int32)).toNatClampNeg) (xs (nI i + (3 : Int32)).toNatClampNeg) μ h) (fun r1 m1 h1 => ?_)))
  refine zi_aload_n (pc' := 1370) X dL_law_1369 rfl rfl 2 rfl ?_
  refine zi_aload_n (pc' := 1371) X dL_law_1370 rfl rfl 0 rfl ?_
  refine zi_iload_n (pc' := 1372) X dL_law_1371 rfl rfl 3 rfl ?_
  refine zi_iconst (pc' := 1373) (v := (1 : Int32)) X dL_law_1372 rfl rfl ?_
  refine zi_iadd (pc' := 1374) X dL_law_1373 rfl ?_
  refine zi_sld (pc' := 1375) X Y (zsi 1 (by decide) hi.1 hi.2) dL_law_1374 rfl ?_
  refine zi_aload_n (pc' := 1376) X dL_law_1375 rfl rfl 0 rfl ?_
  refine zi_iload_n (pc' := 1377) X dL_law_1376 rfl rfl 3 rfl ?_
  refine zi_iconst (pc' := 1378) (v := (2 : Int32)) X dL_law_1377 rfl rfl ?_
  refine zi_iadd (pc' := 1379) X dL_law_1378 rfl ?_
  refine zi_sld (pc' := 1380) X Y (zsi 2 (by decide) hi.1 hi.2) dL_law_1379 rfl ?_
  refine zi_aload_n (pc' := 1381) X dL_law_1380 rfl rfl 0 rfl ?_
  refine zi_iload_n (pc' := 1382) X dL_law_1381 rfl rfl 3 rfl ?_
  refine zi_iconst (pc' := 1383) (v := (3 : Int32)) X dL_law_1382 rfl rfl ?_
  refine zi_iadd (pc' := 1384) X dL_law_1383 rfl ?_
  refine zi_sld (pc' := 1385) X Y (zsi 3 (by decide) hi.1 hi.2) dL_law_1384 rfl ?_
  refine zi_callVi (pc' := 1388) X zl_L_162 (k0 := 66) rfl (by decide) [.int (xs (nI i + (1 : Int32)).toNatClampNeg), .int (xs (nI i + (2 : Int32)).toNatClampNeg), .int (xs (nI i + (3 : Int32)).toNatClampNeg)] rfl rfl (by decide) (Nat.le_of_ble_eq_true rfl) dL_law_1385 rfl (tX6_write g rfl (zok_imp h1 (fun r2 m2 h2 => ?_)))
  obtain ⟨e, hI⟩ := h2
  refine zi_icmp_eq (pc' := 1391) (tgt := 1597) X dL_law_1388 rfl rfl (fun c => next _ hI) (fun c => absurd e c)
def zE36 (Inv : zMem → Prop) : Prop := ∀ (a1 : Int32) (a2 : Int32) (a3 : Int32) (a4 : Int32) (a5 : Int32) (μ : zMem), Inv μ → zok (fX5_copy 0 a1 a2 a3 a4 a5 μ) (fun r μ1 => zok (fX6_copy 66 a1 a2 a3 a4 a5 μ1) (fun r' μ2 => r = r' ∧ Inv μ2))
set_option maxRecDepth 100000 in
theorem zlaw_36 {g : zG} {κ : zK} (X : zC g κ RL code 4 11) {b L : Nat} {xs : Nat → Int32} (Y : zLw κ b L xs) {Inv : zMem → Prop} {i : Nat} (hi : i + 6 ≤ L ∧ L ≤ 3072) (hc : zE36 Inv) (next : ∀ μ, Inv μ → zV g κ 1597 (zlv g b i) [] μ) {μ : zMem} (h : Inv μ) : zV g κ 1393 (zlv g b i) [] μ := by
  refine zi_aload_n (pc' := 1394) X dL_law_1393 rfl rfl 1 rfl ?_
  refine zi_aload_n (pc' := 1395) X dL_law_1394 rfl rfl 0 rfl ?_
  refine zi_iload_n (pc' := 1396) X dL_law_1395 rfl rfl 3 rfl ?_
  refine zi_iconst (pc' := 1397) (v := (1 : Int32)) X dL_law_1396 rfl rfl ?_
  refine zi_iadd (pc' := 1398) X dL_law_1397 rfl ?_
  refine zi_sld (pc' := 1399) X Y (zsi 1 (by decide) hi.1 hi.2) dL_law_1398 rfl ?_
  refine zi_aload_n (pc' := 1400) X dL_law_1399 rfl rfl 0 rfl ?_
  refine zi_iload_n (pc' := 1401) X dL_law_1400 rfl rfl 3 rfl ?_
  refine zi_iconst (pc' := 1402) (v := (2 : Int32)) X dL_law_1401 rfl rfl ?_
  refine zi_iadd (pc' := 1403) X dL_law_1402 rfl ?_
  refine zi_sld (pc' := 1404) X Y (zsi 2 (by decide) hi.1 hi.2) dL_law_1403 rfl ?_
  refine zi_aload_n (pc' := 1405) X dL_law_1404 rfl rfl 0 rfl ?_
  refine zi_iload_n (pc' := 1406) X dL_law_1405 rfl rfl 3 rfl ?_
  refine zi_iconst (pc' := 1407) (v := (3 : Int32)) X dL_law_1406 rfl rfl ?_
  refine zi_iadd (pc' := 1408) X dL_law_1407 rfl ?_
  refine zi_sld (pc' := 1409) X Y (zsi 3 (by decide) hi.1 hi.2) dL_law_1408 rfl ?_
  refine zi_aload_n (pc' := 1410) X dL_law_1409 rfl rfl 0 rfl ?_
  refine zi_iload_n (pc' := 1411) X dL_law_1410 rfl rfl 3 rfl ?_
  refine zi_iconst (pc' := 1412) (v := (4 : Int32)) X dL_law_1411 rfl rfl ?_
  refine zi_iadd (pc' := 1413) X dL_law_1412 rfl ?_
  refine zi_sld (pc' := 1414) X Y (zsi 4 (by decide) hi.1 hi.2) dL_law_1413 rfl ?_
  refine zi_aload_n (pc' := 1415) X dL_law_1414 rfl rfl 0 rfl ?_
  refine zi_iload_n (pc' := 1416) X dL_law_1415 rfl rfl 3 rfl ?_
  refine zi_iconst (pc' := 1417) (v := (5 : Int32)) X dL_law_1416 rfl rfl ?_
  refine zi_iadd (pc' := 1418) X dL_law_1417 rfl ?_
  refine zi_sld (pc' := 1419) X Y (zsi 5 (by decide) hi.1 hi.2) dL_law_1418 rfl ?_
  refine zi_callVi (pc' := 1422) X zl_L_163 (k0 := 0) rfl (by decide) [.int (xs (nI i + (1 : Int32)).toNatClampNeg), .int (xs (nI i + (2 : Int32)).toNatClampNeg), .int (xs (nI i + (3 : Int32)).toNatClampNeg), .int (xs (nI i + (4 : Int32)).toNatClampNeg), .int (xs (nI i + (5 : Int32)).toNatClampNeg)] rfl rfl (by decide) (Nat.le_of_ble_eq_true rfl) dL_law_1419 rfl (tX5_copy g rfl (zok_imp (hc (xs (nI i + (1 : Int32)).toNatClampNeg) (xs (nI i + (2 : Int32)).toNatClampNeg) (xs (nI i + (3 : Int32)).toNatClampNeg) (xs (nI i + (4 : Int32)).toNatClampNeg) (xs (nI i + (5 : Int32)).toNatClampNeg) μ h) (fun r1 m1 h1 => ?_)))
  refine zi_aload_n (pc' := 1423) X dL_law_1422 rfl rfl 2 rfl ?_
  refine zi_aload_n (pc' := 1424) X dL_law_1423 rfl rfl 0 rfl ?_
  refine zi_iload_n (pc' := 1425) X dL_law_1424 rfl rfl 3 rfl ?_
  refine zi_iconst (pc' := 1426) (v := (1 : Int32)) X dL_law_1425 rfl rfl ?_
  refine zi_iadd (pc' := 1427) X dL_law_1426 rfl ?_
  refine zi_sld (pc' := 1428) X Y (zsi 1 (by decide) hi.1 hi.2) dL_law_1427 rfl ?_
  refine zi_aload_n (pc' := 1429) X dL_law_1428 rfl rfl 0 rfl ?_
  refine zi_iload_n (pc' := 1430) X dL_law_1429 rfl rfl 3 rfl ?_
  refine zi_iconst (pc' := 1431) (v := (2 : Int32)) X dL_law_1430 rfl rfl ?_
  refine zi_iadd (pc' := 1432) X dL_law_1431 rfl ?_
  refine zi_sld (pc' := 1433) X Y (zsi 2 (by decide) hi.1 hi.2) dL_law_1432 rfl ?_
  refine zi_aload_n (pc' := 1434) X dL_law_1433 rfl rfl 0 rfl ?_
  refine zi_iload_n (pc' := 1435) X dL_law_1434 rfl rfl 3 rfl ?_
  refine zi_iconst (pc' := 1436) (v := (3 : Int32)) X dL_law_1435 rfl rfl ?_
  refine zi_iadd (pc' := 1437) X dL_law_1436 rfl ?_
  refine zi_sld (pc' := 1438) X Y (zsi 3 (by decide) hi.1 hi.2) dL_law_1437 rfl ?_
  refine zi_aload_n (pc' := 1439) X dL_law_1438 rfl rfl 0 rfl ?_
  refine zi_iload_n (pc' := 1440) X dL_law_1439 rfl rfl 3 rfl ?_
  refine zi_iconst (pc' := 1441) (v := (4 : Int32)) X dL_law_1440 rfl rfl ?_
  refine zi_iadd (pc' := 1442) X dL_law_1441 rfl ?_
  refine zi_sld (pc' := 1443) X Y (zsi 4 (by decide) hi.1 hi.2) dL_law_1442 rfl ?_
  refine zi_aload_n (pc' := 1444) X dL_law_1443 rfl rfl 0 rfl ?_
  refine zi_iload_n (pc' := 1445) X dL_law_1444 rfl rfl 3 rfl ?_
  refine zi_iconst (pc' := 1446) (v := (5 : Int32)) X dL_law_1445 rfl rfl ?_
  refine zi_iadd (pc' := 1447) X dL_law_1446 rfl ?_
  refine zi_sld (pc' := 1448) X Y (zsi 5 (by decide) hi.1 hi.2) dL_law_1447 rfl ?_
  refine zi_callVi (pc' := 1451) X zl_L_167 (k0 := 66) rfl (by decide) [.int (xs (nI i + (1 : Int32)).toNatClampNeg), .int (xs (nI i + (2 : Int32)).toNatClampNeg), .int (xs (nI i + (3 : Int32)).toNatClampNeg), .int (xs (nI i + (4 : Int32)).toNatClampNeg), .int (xs (nI i + (5 : Int32)).toNatClampNeg)] rfl rfl (by decide) (Nat.le_of_ble_eq_true rfl) dL_law_1448 rfl (tX6_copy g rfl (zok_imp h1 (fun r2 m2 h2 => ?_)))
  obtain ⟨e, hI⟩ := h2
  refine zi_icmp_eq (pc' := 1454) (tgt := 1597) X dL_law_1451 rfl rfl (fun c => next _ hI) (fun c => absurd e c)
def zE37 (Inv : zMem → Prop) : Prop := ∀ (a1 : Int32) (μ : zMem), Inv μ → zok (fX5_load 0 a1 μ) (fun r μ1 => zok (fX6_load 66 a1 μ1) (fun r' μ2 => r = r' ∧ Inv μ2))
set_option maxRecDepth 100000 in
theorem zlaw_37 {g : zG} {κ : zK} (X : zC g κ RL code 4 11) {b L : Nat} {xs : Nat → Int32} (Y : zLw κ b L xs) {Inv : zMem → Prop} {i : Nat} (hi : i + 6 ≤ L ∧ L ≤ 3072) (hc : zE37 Inv) (next : ∀ μ, Inv μ → zV g κ 1597 (zlv g b i) [] μ) {μ : zMem} (h : Inv μ) : zV g κ 1456 (zlv g b i) [] μ := by
  refine zi_aload_n (pc' := 1457) X dL_law_1456 rfl rfl 1 rfl ?_
  refine zi_aload_n (pc' := 1458) X dL_law_1457 rfl rfl 0 rfl ?_
  refine zi_iload_n (pc' := 1459) X dL_law_1458 rfl rfl 3 rfl ?_
  refine zi_iconst (pc' := 1460) (v := (1 : Int32)) X dL_law_1459 rfl rfl ?_
  refine zi_iadd (pc' := 1461) X dL_law_1460 rfl ?_
  refine zi_sld (pc' := 1462) X Y (zsi 1 (by decide) hi.1 hi.2) dL_law_1461 rfl ?_
  refine zi_callVi (pc' := 1465) X zl_L_168 (k0 := 0) rfl (by decide) [.int (xs (nI i + (1 : Int32)).toNatClampNeg)] rfl rfl (by decide) (Nat.le_of_ble_eq_true rfl) dL_law_1462 rfl (tX5_load g rfl (zok_imp (hc (xs (nI i + (1 : Int32)).toNatClampNeg) μ h) (fun r1 m1 h1 => ?_)))
  refine zi_aload_n (pc' := 1466) X dL_law_1465 rfl rfl 2 rfl ?_
  refine zi_aload_n (pc' := 1467) X dL_law_1466 rfl rfl 0 rfl ?_
  refine zi_iload_n (pc' := 1468) X dL_law_1467 rfl rfl 3 rfl ?_
  refine zi_iconst (pc' := 1469) (v := (1 : Int32)) X dL_law_1468 rfl rfl ?_
  refine zi_iadd (pc' := 1470) X dL_law_1469 rfl ?_
  refine zi_sld (pc' := 1471) X Y (zsi 1 (by decide) hi.1 hi.2) dL_law_1470 rfl ?_
  refine zi_callVi (pc' := 1474) X zl_L_171 (k0 := 66) rfl (by decide) [.int (xs (nI i + (1 : Int32)).toNatClampNeg)] rfl rfl (by decide) (Nat.le_of_ble_eq_true rfl) dL_law_1471 rfl (tX6_load g rfl (zok_imp h1 (fun r2 m2 h2 => ?_)))
  obtain ⟨e, hI⟩ := h2
  refine zi_icmp_eq (pc' := 1477) (tgt := 1597) X dL_law_1474 rfl rfl (fun c => next _ hI) (fun c => absurd e c)
def zE38 (Inv : zMem → Prop) : Prop := ∀ (a1 : Int32) (a2 : Int32) (μ : zMem), Inv μ → zok (fX5_judge 0 a1 a2 μ) (fun r μ1 => zok (fX6_judge 66 a1 a2 μ1) (fun r' μ2 => r = r' ∧ Inv μ2))
set_option maxRecDepth 100000 in
theorem zlaw_38 {g : zG} {κ : zK} (X : zC g κ RL code 4 11) {b L : Nat} {xs : Nat → Int32} (Y : zLw κ b L xs) {Inv : zMem → Prop} {i : Nat} (hi : i + 6 ≤ L ∧ L ≤ 3072) (hc : zE38 Inv) (next : ∀ μ, Inv μ → zV g κ 1597 (zlv g b i) [] μ) {μ : zMem} (h : Inv μ) : zV g κ 1479 (zlv g b i) [] μ := by
  refine zi_aload_n (pc' := 1480) X dL_law_1479 rfl rfl 1 rfl ?_
  refine zi_aload_n (pc' := 1481) X dL_law_1480 rfl rfl 0 rfl ?_
  refine zi_iload_n (pc' := 1482) X dL_law_1481 rfl rfl 3 rfl ?_
  refine zi_iconst (pc' := 1483) (v := (1 : Int32)) X dL_law_1482 rfl rfl ?_
  refine zi_iadd (pc' := 1484) X dL_law_1483 rfl ?_
  refine zi_sld (pc' := 1485) X Y (zsi 1 (by decide) hi.1 hi.2) dL_law_1484 rfl ?_
  refine zi_aload_n (pc' := 1486) X dL_law_1485 rfl rfl 0 rfl ?_
  refine zi_iload_n (pc' := 1487) X dL_law_1486 rfl rfl 3 rfl ?_
  refine zi_iconst (pc' := 1488) (v := (2 : Int32)) X dL_law_1487 rfl rfl ?_
  refine zi_iadd (pc' := 1489) X dL_law_1488 rfl ?_
  refine zi_sld (pc' := 1490) X Y (zsi 2 (by decide) hi.1 hi.2) dL_law_1489 rfl ?_
  refine zi_callVi (pc' := 1493) X zl_L_172 (k0 := 0) rfl (by decide) [.int (xs (nI i + (1 : Int32)).toNatClampNeg), .int (xs (nI i + (2 : Int32)).toNatClampNeg)] rfl rfl (by decide) (Nat.le_of_ble_eq_true rfl) dL_law_1490 rfl (tX5_judge g rfl (zok_imp (hc (xs (nI i + (1 : Int32)).toNatClampNeg) (xs (nI i + (2 : Int32)).toNatClampNeg) μ h) (fun r1 m1 h1 => ?_)))
  refine zi_aload_n (pc' := 1494) X dL_law_1493 rfl rfl 2 rfl ?_
  refine zi_aload_n (pc' := 1495) X dL_law_1494 rfl rfl 0 rfl ?_
  refine zi_iload_n (pc' := 1496) X dL_law_1495 rfl rfl 3 rfl ?_
  refine zi_iconst (pc' := 1497) (v := (1 : Int32)) X dL_law_1496 rfl rfl ?_
  refine zi_iadd (pc' := 1498) X dL_law_1497 rfl ?_
  refine zi_sld (pc' := 1499) X Y (zsi 1 (by decide) hi.1 hi.2) dL_law_1498 rfl ?_
  refine zi_aload_n (pc' := 1500) X dL_law_1499 rfl rfl 0 rfl ?_
  refine zi_iload_n (pc' := 1501) X dL_law_1500 rfl rfl 3 rfl ?_
  refine zi_iconst (pc' := 1502) (v := (2 : Int32)) X dL_law_1501 rfl rfl ?_
  refine zi_iadd (pc' := 1503) X dL_law_1502 rfl ?_
  refine zi_sld (pc' := 1504) X Y (zsi 2 (by decide) hi.1 hi.2) dL_law_1503 rfl ?_
  refine zi_callVi (pc' := 1507) X zl_L_175 (k0 := 66) rfl (by decide) [.int (xs (nI i + (1 : Int32)).toNatClampNeg), .int (xs (nI i + (2 : Int32)).toNatClampNeg)] rfl rfl (by decide) (Nat.le_of_ble_eq_true rfl) dL_law_1504 rfl (tX6_judge g rfl (zok_imp h1 (fun r2 m2 h2 => ?_)))
  obtain ⟨e, hI⟩ := h2
  refine zi_icmp_eq (pc' := 1510) (tgt := 1597) X dL_law_1507 rfl rfl (fun c => next _ hI) (fun c => absurd e c)
def zE39 (Inv : zMem → Prop) : Prop := ∀ (μ : zMem), Inv μ → zok (fX5_image 0  μ) (fun r μ1 => zok (fX6_image 66  μ1) (fun r' μ2 => r = r' ∧ Inv μ2))
set_option maxRecDepth 100000 in
theorem zlaw_39 {g : zG} {κ : zK} (X : zC g κ RL code 4 11) {b L : Nat} {xs : Nat → Int32} (Y : zLw κ b L xs) {Inv : zMem → Prop} {i : Nat} (hi : i + 6 ≤ L ∧ L ≤ 3072) (hc : zE39 Inv) (next : ∀ μ, Inv μ → zV g κ 1597 (zlv g b i) [] μ) {μ : zMem} (h : Inv μ) : zV g κ 1512 (zlv g b i) [] μ := by
  refine zi_aload_n (pc' := 1513) X dL_law_1512 rfl rfl 1 rfl ?_
  refine zi_callVi (pc' := 1516) X zl_L_176 (k0 := 0) rfl (by decide) [] rfl rfl (by decide) (Nat.le_of_ble_eq_true rfl) dL_law_1513 rfl (tX5_image g rfl (zok_imp (hc μ h) (fun r1 m1 h1 => ?_)))
  refine zi_aload_n (pc' := 1517) X dL_law_1516 rfl rfl 2 rfl ?_
  refine zi_callVi (pc' := 1520) X zl_L_179 (k0 := 66) rfl (by decide) [] rfl rfl (by decide) (Nat.le_of_ble_eq_true rfl) dL_law_1517 rfl (tX6_image g rfl (zok_imp h1 (fun r2 m2 h2 => ?_)))
  obtain ⟨e, hI⟩ := h2
  refine zi_icmp_eq (pc' := 1523) (tgt := 1597) X dL_law_1520 rfl rfl (fun c => next _ hI) (fun c => absurd e c)
def zE40 (Inv : zMem → Prop) : Prop := ∀ (μ : zMem), Inv μ → zok (fX5_undo 0  μ) (fun r μ1 => zok (fX6_undo 66  μ1) (fun r' μ2 => r = r' ∧ Inv μ2))
set_option maxRecDepth 100000 in
theorem zlaw_40 {g : zG} {κ : zK} (X : zC g κ RL code 4 11) {b L : Nat} {xs : Nat → Int32} (Y : zLw κ b L xs) {Inv : zMem → Prop} {i : Nat} (hi : i + 6 ≤ L ∧ L ≤ 3072) (hc : zE40 Inv) (next : ∀ μ, Inv μ → zV g κ 1597 (zlv g b i) [] μ) {μ : zMem} (h : Inv μ) : zV g κ 1525 (zlv g b i) [] μ := by
  refine zi_aload_n (pc' := 1526) X dL_law_1525 rfl rfl 1 rfl ?_
  refine zi_callVi (pc' := 1529) X zl_L_180 (k0 := 0) rfl (by decide) [] rfl rfl (by decide) (Nat.le_of_ble_eq_true rfl) dL_law_1526 rfl (tX5_undo g rfl (zok_imp (hc μ h) (fun r1 m1 h1 => ?_)))
  refine zi_aload_n (pc' := 1530) X dL_law_1529 rfl rfl 2 rfl ?_
  refine zi_callVi (pc' := 1533) X zl_L_183 (k0 := 66) rfl (by decide) [] rfl rfl (by decide) (Nat.le_of_ble_eq_true rfl) dL_law_1530 rfl (tX6_undo g rfl (zok_imp h1 (fun r2 m2 h2 => ?_)))
  obtain ⟨e, hI⟩ := h2
  refine zi_icmp_eq (pc' := 1536) (tgt := 1597) X dL_law_1533 rfl rfl (fun c => next _ hI) (fun c => absurd e c)
def zE41 (Inv : zMem → Prop) : Prop := ∀ (μ : zMem), Inv μ → zok (fX5_tear 0  μ) (fun r μ1 => zok (fX6_tear 66  μ1) (fun r' μ2 => r = r' ∧ Inv μ2))
set_option maxRecDepth 100000 in
theorem zlaw_41 {g : zG} {κ : zK} (X : zC g κ RL code 4 11) {b L : Nat} {xs : Nat → Int32} (Y : zLw κ b L xs) {Inv : zMem → Prop} {i : Nat} (hi : i + 6 ≤ L ∧ L ≤ 3072) (hc : zE41 Inv) (next : ∀ μ, Inv μ → zV g κ 1597 (zlv g b i) [] μ) {μ : zMem} (h : Inv μ) : zV g κ 1538 (zlv g b i) [] μ := by
  refine zi_aload_n (pc' := 1539) X dL_law_1538 rfl rfl 1 rfl ?_
  refine zi_callVi (pc' := 1542) X zl_L_184 (k0 := 0) rfl (by decide) [] rfl rfl (by decide) (Nat.le_of_ble_eq_true rfl) dL_law_1539 rfl (tX5_tear g rfl (zok_imp (hc μ h) (fun r1 m1 h1 => ?_)))
  refine zi_aload_n (pc' := 1543) X dL_law_1542 rfl rfl 2 rfl ?_
  refine zi_callVi (pc' := 1546) X zl_L_187 (k0 := 66) rfl (by decide) [] rfl rfl (by decide) (Nat.le_of_ble_eq_true rfl) dL_law_1543 rfl (tX6_tear g rfl (zok_imp h1 (fun r2 m2 h2 => ?_)))
  obtain ⟨e, hI⟩ := h2
  refine zi_icmp_eq (pc' := 1549) (tgt := 1597) X dL_law_1546 rfl rfl (fun c => next _ hI) (fun c => absurd e c)
def zE42 (Inv : zMem → Prop) : Prop := ∀ (a1 : Int32) (μ : zMem), Inv μ → zok (fX5_count 0 a1 μ) (fun r μ1 => zok (fX6_count 66 a1 μ1) (fun r' μ2 => r = r' ∧ Inv μ2))
set_option maxRecDepth 100000 in
theorem zlaw_42 {g : zG} {κ : zK} (X : zC g κ RL code 4 11) {b L : Nat} {xs : Nat → Int32} (Y : zLw κ b L xs) {Inv : zMem → Prop} {i : Nat} (hi : i + 6 ≤ L ∧ L ≤ 3072) (hc : zE42 Inv) (next : ∀ μ, Inv μ → zV g κ 1597 (zlv g b i) [] μ) {μ : zMem} (h : Inv μ) : zV g κ 1551 (zlv g b i) [] μ := by
  refine zi_aload_n (pc' := 1552) X dL_law_1551 rfl rfl 1 rfl ?_
  refine zi_aload_n (pc' := 1553) X dL_law_1552 rfl rfl 0 rfl ?_
  refine zi_iload_n (pc' := 1554) X dL_law_1553 rfl rfl 3 rfl ?_
  refine zi_iconst (pc' := 1555) (v := (1 : Int32)) X dL_law_1554 rfl rfl ?_
  refine zi_iadd (pc' := 1556) X dL_law_1555 rfl ?_
  refine zi_sld (pc' := 1557) X Y (zsi 1 (by decide) hi.1 hi.2) dL_law_1556 rfl ?_
  refine zi_callVi (pc' := 1560) X zl_L_188 (k0 := 0) rfl (by decide) [.int (xs (nI i + (1 : Int32)).toNatClampNeg)] rfl rfl (by decide) (Nat.le_of_ble_eq_true rfl) dL_law_1557 rfl (tX5_count g rfl (zok_imp (hc (xs (nI i + (1 : Int32)).toNatClampNeg) μ h) (fun r1 m1 h1 => ?_)))
  refine zi_aload_n (pc' := 1561) X dL_law_1560 rfl rfl 2 rfl ?_
  refine zi_aload_n (pc' := 1562) X dL_law_1561 rfl rfl 0 rfl ?_
  refine zi_iload_n (pc' := 1563) X dL_law_1562 rfl rfl 3 rfl ?_
  refine zi_iconst (pc' := 1564) (v := (1 : Int32)) X dL_law_1563 rfl rfl ?_
  refine zi_iadd (pc' := 1565) X dL_law_1564 rfl ?_
  refine zi_sld (pc' := 1566) X Y (zsi 1 (by decide) hi.1 hi.2) dL_law_1565 rfl ?_
  refine zi_callVi (pc' := 1569) X zl_L_191 (k0 := 66) rfl (by decide) [.int (xs (nI i + (1 : Int32)).toNatClampNeg)] rfl rfl (by decide) (Nat.le_of_ble_eq_true rfl) dL_law_1566 rfl (tX6_count g rfl (zok_imp h1 (fun r2 m2 h2 => ?_)))
  obtain ⟨e, hI⟩ := h2
  refine zi_icmp_eq (pc' := 1572) (tgt := 1597) X dL_law_1569 rfl rfl (fun c => next _ hI) (fun c => absurd e c)
def zE43 (Inv : zMem → Prop) : Prop := ∀ (a1 : Int32) (μ : zMem), Inv μ → zok (fX5_status 0 a1 μ) (fun r μ1 => zok (fX6_status 66 a1 μ1) (fun r' μ2 => r = r' ∧ Inv μ2))
set_option maxRecDepth 100000 in
theorem zlaw_43 {g : zG} {κ : zK} (X : zC g κ RL code 4 11) {b L : Nat} {xs : Nat → Int32} (Y : zLw κ b L xs) {Inv : zMem → Prop} {i : Nat} (hi : i + 6 ≤ L ∧ L ≤ 3072) (hc : zE43 Inv) (next : ∀ μ, Inv μ → zV g κ 1597 (zlv g b i) [] μ) {μ : zMem} (h : Inv μ) : zV g κ 1574 (zlv g b i) [] μ := by
  refine zi_aload_n (pc' := 1575) X dL_law_1574 rfl rfl 1 rfl ?_
  refine zi_aload_n (pc' := 1576) X dL_law_1575 rfl rfl 0 rfl ?_
  refine zi_iload_n (pc' := 1577) X dL_law_1576 rfl rfl 3 rfl ?_
  refine zi_iconst (pc' := 1578) (v := (1 : Int32)) X dL_law_1577 rfl rfl ?_
  refine zi_iadd (pc' := 1579) X dL_law_1578 rfl ?_
  refine zi_sld (pc' := 1580) X Y (zsi 1 (by decide) hi.1 hi.2) dL_law_1579 rfl ?_
  refine zi_callVi (pc' := 1583) X zl_L_192 (k0 := 0) rfl (by decide) [.int (xs (nI i + (1 : Int32)).toNatClampNeg)] rfl rfl (by decide) (Nat.le_of_ble_eq_true rfl) dL_law_1580 rfl (tX5_status g rfl (zok_imp (hc (xs (nI i + (1 : Int32)).toNatClampNeg) μ h) (fun r1 m1 h1 => ?_)))
  refine zi_aload_n (pc' := 1584) X dL_law_1583 rfl rfl 2 rfl ?_
  refine zi_aload_n (pc' := 1585) X dL_law_1584 rfl rfl 0 rfl ?_
  refine zi_iload_n (pc' := 1586) X dL_law_1585 rfl rfl 3 rfl ?_
  refine zi_iconst (pc' := 1587) (v := (1 : Int32)) X dL_law_1586 rfl rfl ?_
  refine zi_iadd (pc' := 1588) X dL_law_1587 rfl ?_
  refine zi_sld (pc' := 1589) X Y (zsi 1 (by decide) hi.1 hi.2) dL_law_1588 rfl ?_
  refine zi_callVi (pc' := 1592) X zl_L_195 (k0 := 66) rfl (by decide) [.int (xs (nI i + (1 : Int32)).toNatClampNeg)] rfl rfl (by decide) (Nat.le_of_ble_eq_true rfl) dL_law_1589 rfl (tX6_status g rfl (zok_imp h1 (fun r2 m2 h2 => ?_)))
  obtain ⟨e, hI⟩ := h2
  refine zi_icmp_eq (pc' := 1595) (tgt := 1597) X dL_law_1592 rfl rfl (fun c => next _ hI) (fun c => absurd e c)
theorem zlt6 {i L : Nat} (q : L < i + 6) (hL : L ≤ 3072) (hi : i ≤ 4000) : nI L - 6 < nI i := by
  have h1 : (nI L - nI 6).toInt = (L : Int) - 6 := pk_sub_toInt (by omega) (by omega)
  have h2 : (nI i).toInt = (i : Int) := nI_toInt (by omega)
  rw [Int32.lt_iff_toInt_lt]
  show (nI L - nI 6).toInt < _
  rw [h1, h2]
  omega
set_option maxRecDepth 100000 in
set_option maxHeartbeats 4000000 in
theorem zloop {g : zG} {κ : zK} (X : zC g κ RL code 4 11) {b L : Nat} {xs : Nat → Int32} (Y : zLw κ b L xs) (hL : L ≤ 3072) {Inv : zMem → Prop} (hret : ∀ lv μ, decode code 1604 = .ok (.ireturn, 1) → zV g κ 1604 lv [.int 1] μ) (h0 : zE0 Inv) (h1 : zE1 Inv) (h2 : zE2 Inv) (h3 : zE3 Inv) (h4 : zE4 Inv) (h5 : zE5 Inv) (h6 : zE6 Inv) (h7 : zE7 Inv) (h8 : zE8 Inv) (h9 : zE9 Inv) (h10 : zE10 Inv) (h11 : zE11 Inv) (h12 : zE12 Inv) (h13 : zE13 Inv) (h14 : zE14 Inv) (h15 : zE15 Inv) (h16 : zE16 Inv) (h17 : zE17 Inv) (h18 : zE18 Inv) (h19 : zE19 Inv) (h20 : zE20 Inv) (h21 : zE21 Inv) (h22 : zE22 Inv) (h23 : zE23 Inv) (h24 : zE24 Inv) (h25 : zE25 Inv) (h26 : zE26 Inv) (h27 : zE27 Inv) (h28 : zE28 Inv) (h29 : zE29 Inv) (h30 : zE30 Inv) (h31 : zE31 Inv) (h32 : zE32 Inv) (h33 : zE33 Inv) (h34 : zE34 Inv) (h35 : zE35 Inv) (h36 : zE36 Inv) (h37 : zE37 Inv) (h38 : zE38 Inv) (h39 : zE39 Inv) (h40 : zE40 Inv) (h41 : zE41 Inv) (h42 : zE42 Inv) (h43 : zE43 Inv) : ∀ (n i : Nat), L + 7 ≤ i + n → i ≤ 4000 → ∀ μ, Inv μ → zV g κ 18 (zlv g b i) [] μ := by
  intro n
  induction n with
  | zero =>
    intro i hm hi0 μ h
    refine zi_iload_n (pc' := 19) X dL_law_18 rfl rfl 3 rfl ?_
    refine zi_aload_n (pc' := 20) X dL_law_19 rfl rfl 0 rfl ?_
    refine zi_slen0 (pc' := 21) X Y dL_law_20 rfl ?_
    refine zi_bipush (v := (6 : Int32)) (pc' := 23) X dL_law_21 rfl rfl ?_
    refine zi_isub (pc' := 24) X dL_law_23 rfl ?_
    refine zi_icmp_gt (pc' := 27) (tgt := 1603) X dL_law_24 rfl rfl (fun c => ?_) (fun c => absurd (zlt6 (by omega) hL hi0) c)
    refine zi_iconst (v := (1 : Int32)) (pc' := 1604) X dL_law_1603 rfl rfl ?_
    exact hret _ _ dL_law_1604
  | succ n ih =>
    intro i hm hi0 μ h
    refine zi_iload_n (pc' := 19) X dL_law_18 rfl rfl 3 rfl ?_
    refine zi_aload_n (pc' := 20) X dL_law_19 rfl rfl 0 rfl ?_
    refine zi_slen0 (pc' := 21) X Y dL_law_20 rfl ?_
    refine zi_bipush (v := (6 : Int32)) (pc' := 23) X dL_law_21 rfl rfl ?_
    refine zi_isub (pc' := 24) X dL_law_23 rfl ?_
    refine zi_icmp_gt (pc' := 27) (tgt := 1603) X dL_law_24 rfl rfl (fun c => ?_) (fun c => ?_)
    · refine zi_iconst (v := (1 : Int32)) (pc' := 1604) X dL_law_1603 rfl rfl ?_
      exact hret _ _ dL_law_1604
    · have hi : i + 6 ≤ L ∧ L ≤ 3072 := ⟨by
        rcases Nat.lt_or_ge L (i + 6) with q | q
        · exact absurd (zlt6 q hL hi0) c
        · exact q, hL⟩
      refine zi_aload_n (pc' := 28) X dL_law_27 rfl rfl 0 rfl ?_
      refine zi_iload_n (pc' := 29) X dL_law_28 rfl rfl 3 rfl ?_
      refine zi_sld (pc' := 30) X Y (vp_in_nI (by omega) (by omega)) dL_law_29 rfl ?_
      refine zi_bipush (v := (63 : Int32)) (pc' := 32) X dL_law_30 rfl rfl ?_
      refine zi_iand (pc' := 33) X dL_law_32 rfl ?_
      have next : ∀ μ, Inv μ → zV g κ 1597 (zlv g b i) [] μ := by
        intro μ h
        refine zi_iinc (v := nI (i + 6)) (pc' := 1600) X dL_law_1597 rfl 3 rfl (nI_add i 6) (by decide) [(3, .int (nI (i + 6))), (0, .ref b), (1, .ref (zad g 0)), (2, .ref (zad g 66))] rfl ?_
        refine zi_goto (pc' := 18) X dL_law_1600 rfl ?_
        exact zi_sub X [1, 2, 3, 0] _ rfl (ih (i + 6) (by omega) (by omega) μ h)
      generalize xs (nI i).toNatClampNeg &&& (63 : Int32) = x
      by_cases c0 : x = (0 : Int32)
      · exact zi_tabIn (pc' := 224) X c0 dL_law_33 ⟨by decide, rfl, rfl⟩ (zlaw_0 X Y hi h0 next h)
      by_cases c1 : x = (1 : Int32)
      · exact zi_tabIn (pc' := 257) X c1 dL_law_33 ⟨by decide, rfl, rfl⟩ (zlaw_1 X Y hi h1 next h)
      by_cases c2 : x = (2 : Int32)
      · exact zi_tabIn (pc' := 290) X c2 dL_law_33 ⟨by decide, rfl, rfl⟩ (zlaw_2 X Y hi h2 next h)
      by_cases c3 : x = (3 : Int32)
      · exact zi_tabIn (pc' := 323) X c3 dL_law_33 ⟨by decide, rfl, rfl⟩ (zlaw_3 X Y hi h3 next h)
      by_cases c4 : x = (4 : Int32)
      · exact zi_tabIn (pc' := 346) X c4 dL_law_33 ⟨by decide, rfl, rfl⟩ (zlaw_4 X Y hi h4 next h)
      by_cases c5 : x = (5 : Int32)
      · exact zi_tabIn (pc' := 379) X c5 dL_law_33 ⟨by decide, rfl, rfl⟩ (zlaw_5 X Y hi h5 next h)
      by_cases c6 : x = (6 : Int32)
      · exact zi_tabIn (pc' := 422) X c6 dL_law_33 ⟨by decide, rfl, rfl⟩ (zlaw_6 X Y hi h6 next h)
      by_cases c7 : x = (7 : Int32)
      · exact zi_tabIn (pc' := 445) X c7 dL_law_33 ⟨by decide, rfl, rfl⟩ (zlaw_7 X Y hi h7 next h)
      by_cases c8 : x = (8 : Int32)
      · exact zi_tabIn (pc' := 468) X c8 dL_law_33 ⟨by decide, rfl, rfl⟩ (zlaw_8 X Y hi h8 next h)
      by_cases c9 : x = (9 : Int32)
      · exact zi_tabIn (pc' := 491) X c9 dL_law_33 ⟨by decide, rfl, rfl⟩ (zlaw_9 X Y hi h9 next h)
      by_cases c10 : x = (10 : Int32)
      · exact zi_tabIn (pc' := 534) X c10 dL_law_33 ⟨by decide, rfl, rfl⟩ (zlaw_10 X Y hi h10 next h)
      by_cases c11 : x = (11 : Int32)
      · exact zi_tabIn (pc' := 567) X c11 dL_law_33 ⟨by decide, rfl, rfl⟩ (zlaw_11 X Y hi h11 next h)
      by_cases c12 : x = (12 : Int32)
      · exact zi_tabIn (pc' := 600) X c12 dL_law_33 ⟨by decide, rfl, rfl⟩ (zlaw_12 X Y hi h12 next h)
      by_cases c13 : x = (13 : Int32)
      · exact zi_tabIn (pc' := 633) X c13 dL_law_33 ⟨by decide, rfl, rfl⟩ (zlaw_13 X Y hi h13 next h)
      by_cases c14 : x = (14 : Int32)
      · exact zi_tabIn (pc' := 666) X c14 dL_law_33 ⟨by decide, rfl, rfl⟩ (zlaw_14 X Y hi h14 next h)
      by_cases c15 : x = (15 : Int32)
      · exact zi_tabIn (pc' := 709) X c15 dL_law_33 ⟨by decide, rfl, rfl⟩ (zlaw_15 X Y hi h15 next h)
      by_cases c16 : x = (16 : Int32)
      · exact zi_tabIn (pc' := 752) X c16 dL_law_33 ⟨by decide, rfl, rfl⟩ (zlaw_16 X Y hi h16 next h)
      by_cases c17 : x = (17 : Int32)
      · exact zi_tabIn (pc' := 765) X c17 dL_law_33 ⟨by decide, rfl, rfl⟩ (zlaw_17 X Y hi h17 next h)
      by_cases c18 : x = (18 : Int32)
      · exact zi_tabIn (pc' := 798) X c18 dL_law_33 ⟨by decide, rfl, rfl⟩ (zlaw_18 X Y hi h18 next h)
      by_cases c19 : x = (19 : Int32)
      · exact zi_tabIn (pc' := 831) X c19 dL_law_33 ⟨by decide, rfl, rfl⟩ (zlaw_19 X Y hi h19 next h)
      by_cases c20 : x = (20 : Int32)
      · exact zi_tabIn (pc' := 854) X c20 dL_law_33 ⟨by decide, rfl, rfl⟩ (zlaw_20 X Y hi h20 next h)
      by_cases c21 : x = (21 : Int32)
      · exact zi_tabIn (pc' := 907) X c21 dL_law_33 ⟨by decide, rfl, rfl⟩ (zlaw_21 X Y hi h21 next h)
      by_cases c22 : x = (22 : Int32)
      · exact zi_tabIn (pc' := 940) X c22 dL_law_33 ⟨by decide, rfl, rfl⟩ (zlaw_22 X Y hi h22 next h)
      by_cases c23 : x = (23 : Int32)
      · exact zi_tabIn (pc' := 983) X c23 dL_law_33 ⟨by decide, rfl, rfl⟩ (zlaw_23 X Y hi h23 next h)
      by_cases c24 : x = (24 : Int32)
      · exact zi_tabIn (pc' := 1036) X c24 dL_law_33 ⟨by decide, rfl, rfl⟩ (zlaw_24 X Y hi h24 next h)
      by_cases c25 : x = (25 : Int32)
      · exact zi_tabIn (pc' := 1069) X c25 dL_law_33 ⟨by decide, rfl, rfl⟩ (zlaw_25 X Y hi h25 next h)
      by_cases c26 : x = (26 : Int32)
      · exact zi_tabIn (pc' := 1102) X c26 dL_law_33 ⟨by decide, rfl, rfl⟩ (zlaw_26 X Y hi h26 next h)
      by_cases c27 : x = (27 : Int32)
      · exact zi_tabIn (pc' := 1125) X c27 dL_law_33 ⟨by decide, rfl, rfl⟩ (zlaw_27 X Y hi h27 next h)
      by_cases c28 : x = (28 : Int32)
      · exact zi_tabIn (pc' := 1159) X c28 dL_law_33 ⟨by decide, rfl, rfl⟩ (zlaw_28 X Y hi h28 next h)
      by_cases c29 : x = (29 : Int32)
      · exact zi_tabIn (pc' := 1182) X c29 dL_law_33 ⟨by decide, rfl, rfl⟩ (zlaw_29 X Y hi h29 next h)
      by_cases c30 : x = (30 : Int32)
      · exact zi_tabIn (pc' := 1215) X c30 dL_law_33 ⟨by decide, rfl, rfl⟩ (zlaw_30 X Y hi h30 next h)
      by_cases c31 : x = (31 : Int32)
      · exact zi_tabIn (pc' := 1228) X c31 dL_law_33 ⟨by decide, rfl, rfl⟩ (zlaw_31 X Y hi h31 next h)
      by_cases c32 : x = (32 : Int32)
      · exact zi_tabIn (pc' := 1241) X c32 dL_law_33 ⟨by decide, rfl, rfl⟩ (zlaw_32 X Y hi h32 next h)
      by_cases c33 : x = (33 : Int32)
      · exact zi_tabIn (pc' := 1274) X c33 dL_law_33 ⟨by decide, rfl, rfl⟩ (zlaw_33 X Y hi h33 next h)
      by_cases c34 : x = (34 : Int32)
      · exact zi_tabIn (pc' := 1307) X c34 dL_law_33 ⟨by decide, rfl, rfl⟩ (zlaw_34 X Y hi h34 next h)
      by_cases c35 : x = (35 : Int32)
      · exact zi_tabIn (pc' := 1350) X c35 dL_law_33 ⟨by decide, rfl, rfl⟩ (zlaw_35 X Y hi h35 next h)
      by_cases c36 : x = (36 : Int32)
      · exact zi_tabIn (pc' := 1393) X c36 dL_law_33 ⟨by decide, rfl, rfl⟩ (zlaw_36 X Y hi h36 next h)
      by_cases c37 : x = (37 : Int32)
      · exact zi_tabIn (pc' := 1456) X c37 dL_law_33 ⟨by decide, rfl, rfl⟩ (zlaw_37 X Y hi h37 next h)
      by_cases c38 : x = (38 : Int32)
      · exact zi_tabIn (pc' := 1479) X c38 dL_law_33 ⟨by decide, rfl, rfl⟩ (zlaw_38 X Y hi h38 next h)
      by_cases c39 : x = (39 : Int32)
      · exact zi_tabIn (pc' := 1512) X c39 dL_law_33 ⟨by decide, rfl, rfl⟩ (zlaw_39 X Y hi h39 next h)
      by_cases c40 : x = (40 : Int32)
      · exact zi_tabIn (pc' := 1525) X c40 dL_law_33 ⟨by decide, rfl, rfl⟩ (zlaw_40 X Y hi h40 next h)
      by_cases c41 : x = (41 : Int32)
      · exact zi_tabIn (pc' := 1538) X c41 dL_law_33 ⟨by decide, rfl, rfl⟩ (zlaw_41 X Y hi h41 next h)
      by_cases c42 : x = (42 : Int32)
      · exact zi_tabIn (pc' := 1551) X c42 dL_law_33 ⟨by decide, rfl, rfl⟩ (zlaw_42 X Y hi h42 next h)
      by_cases c43 : x = (43 : Int32)
      · exact zi_tabIn (pc' := 1574) X c43 dL_law_33 ⟨by decide, rfl, rfl⟩ (zlaw_43 X Y hi h43 next h)
      have e0 := zne (0) rfl c0
      have e1 := zne (1) rfl c1
      have e2 := zne (2) rfl c2
      have e3 := zne (3) rfl c3
      have e4 := zne (4) rfl c4
      have e5 := zne (5) rfl c5
      have e6 := zne (6) rfl c6
      have e7 := zne (7) rfl c7
      have e8 := zne (8) rfl c8
      have e9 := zne (9) rfl c9
      have e10 := zne (10) rfl c10
      have e11 := zne (11) rfl c11
      have e12 := zne (12) rfl c12
      have e13 := zne (13) rfl c13
      have e14 := zne (14) rfl c14
      have e15 := zne (15) rfl c15
      have e16 := zne (16) rfl c16
      have e17 := zne (17) rfl c17
      have e18 := zne (18) rfl c18
      have e19 := zne (19) rfl c19
      have e20 := zne (20) rfl c20
      have e21 := zne (21) rfl c21
      have e22 := zne (22) rfl c22
      have e23 := zne (23) rfl c23
      have e24 := zne (24) rfl c24
      have e25 := zne (25) rfl c25
      have e26 := zne (26) rfl c26
      have e27 := zne (27) rfl c27
      have e28 := zne (28) rfl c28
      have e29 := zne (29) rfl c29
      have e30 := zne (30) rfl c30
      have e31 := zne (31) rfl c31
      have e32 := zne (32) rfl c32
      have e33 := zne (33) rfl c33
      have e34 := zne (34) rfl c34
      have e35 := zne (35) rfl c35
      have e36 := zne (36) rfl c36
      have e37 := zne (37) rfl c37
      have e38 := zne (38) rfl c38
      have e39 := zne (39) rfl c39
      have e40 := zne (40) rfl c40
      have e41 := zne (41) rfl c41
      have e42 := zne (42) rfl c42
      have e43 := zne (43) rfl c43
      exact zi_tabOut (pc' := 1597) X (by omega) dL_law_33 rfl (next μ h)
