/-! the room while it is being made: cell 99 counts the cells; a reference is null while its place is 0 -/
def yn (μ : zMem) : Nat := (μ 99 0).toNatClampNeg
def yk (μ : zMem) : zMem := zst μ 99 0 (μ 99 0 + 1)
def yval (g : zG) (k : Nat) (r : Nat → Int32) (j : Nat) (o : Option Nat) : Value := match o with
  | none => .int (r j)
  | some d => if r j = 0 then .null else .ref (zad g (k + d))
def yfs (g : zG) (c k : Nat) (r : Nat → Int32) : List Value := (zoff.getD c []).mapIdx (yval g k r)
def ycell (g : zG) (k : Nat) (r : Nat → Int32) : va_E :=
  if zkd k < 7 then .inr (zkd k, yfs g (zkd k) k r)
  else if zkd k = 7 then .inl (zcI g, zln k, .inl r)
  else if zkd k = 8 then .inl (zcS g, zln k, .inr (.inr (.inr (.inr (fun j => if r j = 0 then none else some (zad g (k + 3 + 2 * j)))))))
  else .inl (zcT g, zln k, .inr (.inr (.inr (.inr (fun j => if r j = 0 then none else some (zad g (k + 1 + 2 * j)))))))
def ywd (g : zG) (μ : zMem) : va_W := (List.range (yn μ)).map (fun k => (zad g k, ycell g k (μ k)))
theorem ywd_at {g : zG} {μ : zMem} {k : Nat} (h : k < yn μ) : (ywd g μ)[k]? = some (zad g k, ycell g k (μ k)) := by
  simp [ywd, h]
theorem ywd_len {g : zG} {μ : zMem} : (ywd g μ).length = yn μ := by simp [ywd]
theorem ywd_get {g : zG} {μ : zMem} {i : Nat} {q : Nat × va_E} (h : (ywd g μ)[i]? = some q) : i < yn μ ∧ q = (zad g i, ycell g i (μ i)) := by
  have hi : i < yn μ := by
    have := (List.getElem?_eq_some_iff.mp h).1
    rwa [ywd_len] at this
  refine ⟨hi, ?_⟩
  rw [ywd_at hi] at h
  exact (Option.some.inj h).symm
theorem ycell_o {g : zG} {k c : Nat} (r : Nat → Int32) (h : zkd k = c) (hc : c < 7) : ycell g k r = .inr (c, yfs g c k r) := by
  unfold ycell; rw [h, if_pos hc]
theorem ycell_i {g : zG} {k : Nat} (r : Nat → Int32) (h : zkd k = 7) : ycell g k r = .inl (zcI g, zln k, .inl r) := by
  unfold ycell; rw [h]; rfl
theorem ycell_s {g : zG} {k : Nat} (r : Nat → Int32) (h : zkd k = 8) : ycell g k r = .inl (zcS g, zln k, .inr (.inr (.inr (.inr (fun j => if r j = 0 then none else some (zad g (k + 3 + 2 * j))))))) := by
  unfold ycell; rw [h]; rfl
theorem ycell_t {g : zG} {k : Nat} (r : Nat → Int32) (h : zkd k = 9) : ycell g k r = .inl (zcT g, zln k, .inr (.inr (.inr (.inr (fun j => if r j = 0 then none else some (zad g (k + 1 + 2 * j))))))) := by
  unfold ycell; rw [h]; rfl
theorem yfs_at {g : zG} {c k j : Nat} {r : Nat → Int32} {o : Option Nat} (h : (zoff.getD c [])[j]? = some o) : (yfs g c k r)[j]? = some (yval g k r j o) := by
  rw [yfs, List.getElem?_mapIdx, h]; rfl
theorem yfs_set {g : zG} {c k j : Nat} {r : Nat → Int32} {o : Option Nat} {v : Value} {x : Int32} (h : (zoff.getD c [])[j]? = some o) (hv : yval g k (upd r j x) j o = v) : (yfs g c k r).set j v = yfs g c k (upd r j x) := by
  apply List.ext_getElem?
  intro i
  rw [List.getElem?_set]
  by_cases hij : j = i
  · subst hij
    rw [yfs_at (r := upd r j x) h]
    have hl : j < (yfs g c k r).length := by
      have := (List.getElem?_eq_some_iff.mp h).1
      simpa [yfs] using this
    simp [hl, hv]
  · rw [if_neg hij]
    simp only [yfs, List.getElem?_mapIdx]
    cases (zoff.getD c [])[i]? with
    | none => rfl
    | some o =>
      cases o with
      | none => simp [yval, upd, Ne.symm hij]
      | some d => simp [yval, upd, Ne.symm hij]
theorem yn_row {μ : zMem} {k : Nat} (hk : k ≠ 99) (r : Nat → Int32) : yn (zrow μ k r) = yn μ := by
  unfold yn zrow
  rw [if_neg (Ne.symm hk)]
theorem ywd_row {g : zG} {μ : zMem} {k : Nat} {r : Nat → Int32} {e : va_E} (h : k < yn μ) (hk : k ≠ 99) (he : ycell g k r = e) : (ywd g μ).set k (zad g k, e) = ywd g (zrow μ k r) := by
  apply List.ext_getElem?
  intro i
  rw [List.getElem?_set]
  by_cases hik : k = i
  · subst hik
    rw [if_pos rfl, ywd_len, if_pos h, ywd_at (by rw [yn_row hk]; exact h), ← he]
    have h9 : zrow μ k r k = r := by unfold zrow; exact if_pos rfl
    rw [h9]
  · rw [if_neg hik]
    by_cases hi : i < yn μ
    · rw [ywd_at hi, ywd_at (by rw [yn_row hk]; exact hi)]
      simp [zrow, Ne.symm hik]
    · rw [List.getElem?_eq_none (by rw [ywd_len]; omega), List.getElem?_eq_none (by rw [ywd_len, yn_row hk]; omega)]
theorem ywd_push {g : zG} {μ : zMem} (h : yn (yk μ) = yn μ + 1) (hl : yn μ < 78) : ywd g (yk μ) = ywd g μ ++ [(zad g (yn μ), ycell g (yn μ) (μ (yn μ)))] := by
  have hk : ∀ k, k < 78 → yk μ k = μ k := fun k hk => by unfold yk zst; rw [if_neg (by omega)]
  unfold ywd
  rw [h, List.range_succ, List.map_append]
  congr 1
  · apply List.map_congr_left
    intro a ha
    rw [hk a (by have := List.mem_range.mp ha; omega)]
  · simp only [List.map_cons, List.map_nil]
    rw [hk _ hl]
def yAd (g : zG) : Prop := ∀ k, zad g k = zad g 0 + k
def yA (g : zG) : Nat → Prop := fun q => zad g 0 ≤ q
def yAO (U : State) : Prop := va_AO RX4 U ∧ va_AO RX2 U
theorem yAO.moved {u U : State} (hvm : u.vm.Alike U.vm) (h : yAO u) : yAO U := ⟨h.1.moved hvm, h.2.moved hvm⟩
def yWd (g : zG) (μ : zMem) (U : State) : Prop := (U.heap.size = zad g 0 + yn μ ∧ yAd g ∧ yAO U) ∧ va_P (zD g) vwCl (ywd g μ) U.heap ∧ zKw g U
theorem yWd_blind (g : zG) (μ : zMem) (As : List Value) : FrameBlind (va_Pc As (yWd g μ)) := fun a U f mk q => ⟨q.1, ⟨q.2.1.1, q.2.1.2.1, yAO.moved (u := U) (Vm.Alike.refl U.vm) q.2.1.2.2⟩, q.2.2.1, q.2.2.2.call f mk a⟩
def yV (g : zG) (κ : zK) (n0 pc : Nat) (lv : List (Nat × Value)) (st : List Value) (μ : zMem) : Prop := match κ with
  | ((p, l, e, R, s, m), (args, below, meth, c), (_, _, Q), A) => ∀ (H : Heap) (locs : List Loc) (ls : Array Slot), n0 ≤ yn μ → va_P (zD g) vwCl (ywd g μ) H → va_S A s.heap H locs → lv_has ls c.maxLocals lv → W p l e R s m args below meth c H locs (yn μ - n0) (160 * (yn μ - n0)) Q (F0 m pc ls st)
def yC (g : zG) (κ : zK) (own : String) (cc : ByteArray) (nL d mc n0 : Nat) : Prop := match κ with
  | ((p, _, _, R, s, m), (args, _, meth, c), _, A) => p.tables.exec = Jvm.exec ∧ c.code = cc ∧ c.maxLocals = nL ∧ s.vm.findClass own = some m.cls ∧ (∀ w ∈ zgw, w.before args s = true) ∧ zKw g s ∧ yAd g ∧ (∀ q, zad g 0 ≤ q ↔ A q) ∧ (d ≤ R.frames ∧ 40 * d ≤ R.locals) ∧ (mc ≤ R.cells ∧ 160 * mc ≤ R.slots) ∧ yAO s ∧ s.heap.size = zad g 0 + n0
theorem yD_of {g : zG} {A : Nat → Prop} {μ : zMem} (hI : yAd g) (hA : ∀ q, zad g 0 ≤ q ↔ A q) : va_D A (ywd g μ) := by
  refine ⟨fun i j p q hi hj hpq => ?_, fun k q hk => ?_⟩
  · obtain ⟨h1, rfl⟩ := ywd_get hi
    obtain ⟨h2, rfl⟩ := ywd_get hj
    have h3 : zad g i = zad g j := hpq
    rw [hI i, hI j] at h3
    omega
  · obtain ⟨h1, rfl⟩ := ywd_get hk
    exact (hA _).mp (by show zad g 0 ≤ zad g k; rw [hI k]; omega)
def yTv (g : zG) (y : MethodName) (cc : ByteArray) (nL d mc : Nat) (As : List Value) (μ : zMem) (Q : Unit → zMem → Prop) : Prop :=
  ∀ l : Launch, Met l y (.code y cc nL none :: zgw) { frames := d, cells := mc, slots := 160 * mc, locals := 40 * d } (va_Pc As (yWd g μ)) (va_Qv (Q ()) (yWd g) (yA g)) mc (160 * mc) (yA g)
theorem ySh {g : zG} {A : Nat → Prop} (hA : ∀ q, zad g 0 ≤ q ↔ A q) : A = yA g := funext fun q => propext ⟨fun h => (hA q).mpr h, fun h => (hA q).mp h⟩
/-- more room: the numbers of cells and slots may be counted higher -/
theorem arrV_ext {cI : ClassId} {N : Nat} {f f' : Nat → Value} (h : ∀ j, j < N → f j = f' j) : arrV cI N f = arrV cI N f' := by
  unfold arrV
  congr 1
  apply congrArg Array.ofFn
  funext j
  exact h j.val j.isLt
theorem yi_iconst {g : zG} {κ : zK} {own : String} {cc : ByteArray} {nL d mc n0 : Nat} (X : yC g κ own cc nL d mc n0) {pc pc' : Nat} {lv : List (Nat × Value)} {st : List Value} {μ : zMem} {n : Int} {v : Int32} (hd : decode cc pc = .ok (.iconst n, 1)) (hp : pc + 1 = pc') (hv : Int32.ofInt n = v) (k : yV g κ n0 pc' lv (.int v :: st) μ) : yV g κ n0 pc lv st μ := by
  obtain ⟨⟨p, l, e, R, s, m⟩, ⟨args, below, meth, cx⟩, ⟨cells, slots, Q⟩, A⟩ := κ
  obtain ⟨hx, hb, hml, hown, hts, hKw, hAd, hA, hR, hC, hin, hs0⟩ := X
  subst hp
  intro H locs ls hz hP hS hl
  exact lv_iconst hx hb hd hv (k H locs ls hz hP hS hl)
theorem yi_bipush {g : zG} {κ : zK} {own : String} {cc : ByteArray} {nL d mc n0 : Nat} (X : yC g κ own cc nL d mc n0) {pc pc' : Nat} {lv : List (Nat × Value)} {st : List Value} {μ : zMem} {n : Int} {v : Int32} (hd : decode cc pc = .ok (.bipush n, 2)) (hp : pc + 2 = pc') (hv : (Int8.ofInt n).toInt32 = v) (k : yV g κ n0 pc' lv (.int v :: st) μ) : yV g κ n0 pc lv st μ := by
  obtain ⟨⟨p, l, e, R, s, m⟩, ⟨args, below, meth, cx⟩, ⟨cells, slots, Q⟩, A⟩ := κ
  obtain ⟨hx, hb, hml, hown, hts, hKw, hAd, hA, hR, hC, hin, hs0⟩ := X
  subst hp
  intro H locs ls hz hP hS hl
  exact lv_bipush hx hb hd hv (k H locs ls hz hP hS hl)
theorem yi_sipush {g : zG} {κ : zK} {own : String} {cc : ByteArray} {nL d mc n0 : Nat} (X : yC g κ own cc nL d mc n0) {pc pc' : Nat} {lv : List (Nat × Value)} {st : List Value} {μ : zMem} {n : Int} {v : Int32} (hd : decode cc pc = .ok (.sipush n, 3)) (hp : pc + 3 = pc') (hv : (Int16.ofInt n).toInt32 = v) (k : yV g κ n0 pc' lv (.int v :: st) μ) : yV g κ n0 pc lv st μ := by
  obtain ⟨⟨p, l, e, R, s, m⟩, ⟨args, below, meth, cx⟩, ⟨cells, slots, Q⟩, A⟩ := κ
  obtain ⟨hx, hb, hml, hown, hts, hKw, hAd, hA, hR, hC, hin, hs0⟩ := X
  subst hp
  intro H locs ls hz hP hS hl
  exact lv_sipush hx hb hd hv (k H locs ls hz hP hS hl)
theorem yi_iload_n {g : zG} {κ : zK} {own : String} {cc : ByteArray} {nL d mc n0 : Nat} (X : yC g κ own cc nL d mc n0) {pc pc' : Nat} {lv : List (Nat × Value)} {st : List Value} {μ : zMem} {n : Fin 4} {i : Nat} {x : Int32} (hd : decode cc pc = .ok (.iload_n n, 1)) (hp : pc + 1 = pc') (hi : (n : Nat) = i) (j : Nat) (hj : lv[j]? = some (i, .int x)) (k : yV g κ n0 pc' lv (.int x :: st) μ) : yV g κ n0 pc lv st μ := by
  obtain ⟨⟨p, l, e, R, s, m⟩, ⟨args, below, meth, cx⟩, ⟨cells, slots, Q⟩, A⟩ := κ
  obtain ⟨hx, hb, hml, hown, hts, hKw, hAd, hA, hR, hC, hin, hs0⟩ := X
  subst hp
  intro H locs ls hz hP hS hl
  exact lv_iload_n hx hb hd hi (lv_at hl j hj) (k H locs ls hz hP hS hl)
theorem yi_aload_n {g : zG} {κ : zK} {own : String} {cc : ByteArray} {nL d mc n0 : Nat} (X : yC g κ own cc nL d mc n0) {pc pc' : Nat} {lv : List (Nat × Value)} {st : List Value} {μ : zMem} {n : Fin 4} {i : Nat} {x : Nat} (hd : decode cc pc = .ok (.aload_n n, 1)) (hp : pc + 1 = pc') (hi : (n : Nat) = i) (j : Nat) (hj : lv[j]? = some (i, .ref x)) (k : yV g κ n0 pc' lv (.ref x :: st) μ) : yV g κ n0 pc lv st μ := by
  obtain ⟨⟨p, l, e, R, s, m⟩, ⟨args, below, meth, cx⟩, ⟨cells, slots, Q⟩, A⟩ := κ
  obtain ⟨hx, hb, hml, hown, hts, hKw, hAd, hA, hR, hC, hin, hs0⟩ := X
  subst hp
  intro H locs ls hz hP hS hl
  exact lv_aload_n hx hb hd hi (lv_at hl j hj) (k H locs ls hz hP hS hl)
theorem yi_istore_n {g : zG} {κ : zK} {own : String} {cc : ByteArray} {nL d mc n0 : Nat} (X : yC g κ own cc nL d mc n0) {pc pc' : Nat} {lv : List (Nat × Value)} {st : List Value} {μ : zMem} {n : Fin 4} {i : Nat} {x : Int32} (hd : decode cc pc = .ok (.istore_n n, 1)) (hp : pc + 1 = pc') (hi : (n : Nat) = i) (hn : i < nL) (lv' : List (Nat × Value)) (hl' : (i, Value.int x) :: lv.filter (fun q => !(q.1 == i) && !(q.1 + 1 == i && q.2.category == 2)) = lv') (k : yV g κ n0 pc' lv' st μ) : yV g κ n0 pc lv (.int x :: st) μ := by
  obtain ⟨⟨p, l, e, R, s, m⟩, ⟨args, below, meth, cx⟩, ⟨cells, slots, Q⟩, A⟩ := κ
  obtain ⟨hx, hb, hml, hown, hts, hKw, hAd, hA, hR, hC, hin, hs0⟩ := X
  subst hp
  intro H locs ls hz hP hS hl
  exact lv_istore_n hx hb hd hi hl (by rw [hml]; exact hn) hl' (fun ls hl => k H locs ls hz hP hS hl)
theorem yi_iinc {g : zG} {κ : zK} {own : String} {cc : ByteArray} {nL d mc n0 : Nat} (X : yC g κ own cc nL d mc n0) {pc pc' : Nat} {lv : List (Nat × Value)} {st : List Value} {μ : zMem} {i : Nat} {n : Int} {x v : Int32} (hd : decode cc pc = .ok (.iinc i n, 3)) (hp : pc + 3 = pc') (j : Nat) (hj : lv[j]? = some (i, .int x)) (hv : x + Int32.ofInt n = v) (hn : i < nL) (lv' : List (Nat × Value)) (hl' : (i, Value.int v) :: lv.filter (fun q => !(q.1 == i) && !(q.1 + 1 == i && q.2.category == 2)) = lv') (k : yV g κ n0 pc' lv' st μ) : yV g κ n0 pc lv st μ := by
  obtain ⟨⟨p, l, e, R, s, m⟩, ⟨args, below, meth, cx⟩, ⟨cells, slots, Q⟩, A⟩ := κ
  obtain ⟨hx, hb, hml, hown, hts, hKw, hAd, hA, hR, hC, hin, hs0⟩ := X
  subst hp
  intro H locs ls hz hP hS hl
  exact lv_iinc hx hb hd hl hj hv (by rw [hml]; exact hn) hl' (fun ls hl => k H locs ls hz hP hS hl)
theorem yi_iadd {g : zG} {κ : zK} {own : String} {cc : ByteArray} {nL d mc n0 : Nat} (X : yC g κ own cc nL d mc n0) {pc pc' : Nat} {lv : List (Nat × Value)} {st : List Value} {μ : zMem} {x y : Int32} (hd : decode cc pc = .ok (.iadd, 1)) (hp : pc + 1 = pc')  (k : yV g κ n0 pc' lv (.int (x + y) :: st) μ) : yV g κ n0 pc lv (.int y :: .int x :: st) μ := by
  obtain ⟨⟨p, l, e, R, s, m⟩, ⟨args, below, meth, cx⟩, ⟨cells, slots, Q⟩, A⟩ := κ
  obtain ⟨hx, hb, hml, hown, hts, hKw, hAd, hA, hR, hC, hin, hs0⟩ := X
  subst hp
  intro H locs ls hz hP hS hl
  exact lv_iadd hx hb hd (k H locs ls hz hP hS hl)
theorem yi_dup {g : zG} {κ : zK} {own : String} {cc : ByteArray} {nL d mc n0 : Nat} (X : yC g κ own cc nL d mc n0) {pc pc' : Nat} {lv : List (Nat × Value)} {st : List Value} {μ : zMem} {va : Value} (hd : decode cc pc = .ok (.dup, 1)) (hp : pc + 1 = pc') (hv : va.category = 1) (k : yV g κ n0 pc' lv (va :: va :: st) μ) : yV g κ n0 pc lv (va :: st) μ := by
  obtain ⟨⟨p, l, e, R, s, m⟩, ⟨args, below, meth, cx⟩, ⟨cells, slots, Q⟩, A⟩ := κ
  obtain ⟨hx, hb, hml, hown, hts, hKw, hAd, hA, hR, hC, hin, hs0⟩ := X
  subst hp
  intro H locs ls hz hP hS hl
  exact lv_dup hx hb hd hv (k H locs ls hz hP hS hl)
theorem yi_icmp_ge {g : zG} {κ : zK} {own : String} {cc : ByteArray} {nL d mc n0 : Nat} (X : yC g κ own cc nL d mc n0) {pc pc' : Nat} {lv : List (Nat × Value)} {st : List Value} {μ : zMem} {x y : Int32} {off : Int} {tgt : Nat} (hd : decode cc pc = .ok (.if_icmp .ge off, 3)) (ht : (pc : Int) + off = (tgt : Int)) (hp : pc + 3 = pc') (kt : y ≤ x → yV g κ n0 tgt lv st μ) (kf : ¬ y ≤ x → yV g κ n0 pc' lv st μ) : yV g κ n0 pc lv (.int y :: .int x :: st) μ := by
  obtain ⟨⟨p, l, e, R, s, m⟩, ⟨args, below, meth, cx⟩, ⟨cells, slots, Q⟩, A⟩ := κ
  obtain ⟨hx, hb, hml, hown, hts, hKw, hAd, hA, hR, hC, hin, hs0⟩ := X
  subst hp
  intro H locs ls hz hP hS hl
  exact lv_icmp_ge hx hb hd ht (fun c => kt c H locs ls hz hP hS hl) (fun c => kf c H locs ls hz hP hS hl)
theorem yi_goto {g : zG} {κ : zK} {own : String} {cc : ByteArray} {nL d mc n0 : Nat} (X : yC g κ own cc nL d mc n0) {pc pc' : Nat} {lv : List (Nat × Value)} {st : List Value} {μ : zMem} {off : Int} (hd : decode cc pc = .ok (.goto off, 3)) (ht : (pc : Int) + off = (pc' : Int)) (k : yV g κ n0 pc' lv st μ) : yV g κ n0 pc lv st μ := by
  obtain ⟨⟨p, l, e, R, s, m⟩, ⟨args, below, meth, cx⟩, ⟨cells, slots, Q⟩, A⟩ := κ
  obtain ⟨hx, hb, hml, hown, hts, hKw, hAd, hA, hR, hC, hin, hs0⟩ := X
  intro H locs ls hz hP hS hl
  exact lv_goto hx hb hd ht (k H locs ls hz hP hS hl)
theorem yi_sub {g : zG} {κ : zK} {own : String} {cc : ByteArray} {nL d mc n0 : Nat} (X : yC g κ own cc nL d mc n0) {pc : Nat} {lv : List (Nat × Value)} {st : List Value} {μ : zMem} (ks : List Nat) (lv' : List (Nat × Value)) (h : lv_pick lv ks = lv') (k : yV g κ n0 pc lv' st μ) : yV g κ n0 pc lv st μ := by
  obtain ⟨⟨p, l, e, R, s, m⟩, ⟨args, below, meth, cx⟩, ⟨cells, slots, Q⟩, A⟩ := κ
  obtain ⟨hx, hb, hml, hown, hts, hKw, hAd, hA, hR, hC, hin, hs0⟩ := X
  intro H locs ls hz hP hS hl
  exact k H locs ls hz hP hS (lv_sub hl ks h)
theorem yi_obj {g : zG} {κ : zK} {own : String} {cc : ByteArray} {nL d mc n0 : Nat} (X : yC g κ own cc nL d mc n0) {pc pc' : Nat} {lv : List (Nat × Value)} {st : List Value} {μ : zMem} {idx k0 : Nat} (hlk : Cond.methodLink own idx Lib.objectInit ∈ zgw ∧ Cond.instanceMethod Lib.objectInit ∈ zgw ∧ Cond.code Lib.objectInit ⟨#[0xb1]⟩ 1 none ∈ zgw) (hst : (st.map fun v => v.category).sum ≤ 8) (hdp : 1 ≤ d) (hd : decode cc pc = .ok (.invokespecial idx, 3)) (hp : pc + 3 = pc') (k : yV g κ n0 pc' lv st μ) : yV g κ n0 pc lv (.ref (zad g k0) :: st) μ := by
  obtain ⟨⟨p, l, e, R, s, m⟩, ⟨args, below, meth, cx⟩, ⟨cells, slots, Q⟩, A⟩ := κ
  obtain ⟨hx, hb, hml, hown, hts, hKw, hAd, hA, hR, hC, hin, hs0⟩ := X
  subst hp
  intro H locs ls hz hP hS hl
  refine W.objInit hx hb hown (hts _ hlk.1) (hts _ hlk.2.1) (hts _ hlk.2.2) rfl hl.1 rfl hd (by omega) ?_ (W.eq rfl (k H locs ls hz hP hS hl))
  have := lv_room (m := m) (pc := pc) (ls := ls) (rest := .ref (zad g k0) :: st) hst
  omega
theorem yi_getr {g : zG} {κ : zK} {own : String} {cc : ByteArray} {nL d mc n0 : Nat} (X : yC g κ own cc nL d mc n0) {pc pc' : Nat} {lv : List (Nat × Value)} {st : List Value} {μ : zMem} {idx c j k0 o : Nat} (hf : zFl own idx c j) (ho : (zoff.getD c [])[j]? = some (some o)) (hc : c < 7) (hk : zkd k0 = c) (hn0 : k0 < yn μ ∧ ¬ μ k0 j = 0) (hd : decode cc pc = .ok (.getfield idx, 3)) (hp : pc + 3 = pc') (k : yV g κ n0 pc' lv (.ref (zad g (k0 + o)) :: st) μ) : yV g κ n0 pc lv (.ref (zad g k0) :: st) μ := by
  obtain ⟨⟨p, l, e, R, s, m⟩, ⟨args, below, meth, cx⟩, ⟨cells, slots, Q⟩, A⟩ := κ
  obtain ⟨hx, hb, hml, hown, hts, hKw, hAd, hA, hR, hC, hin, hs0⟩ := X
  subst hp
  intro H locs ls hz hP hS hl
  obtain ⟨C, T, N, h1, h2, h3, h4⟩ := hf
  have he := ywd_at (g := g) (μ := μ) hn0.1
  rw [ycell_o _ hk hc] at he
  have hv : (yfs g c k0 (μ k0))[j]? = some (.ref (zad g (k0 + o))) := by
    rw [yfs_at ho]; simp only [yval]; rw [if_neg hn0.2]
  rcases h4 with h4 | ⟨host, h4⟩
  · exact va_get (C := C) (T := T) (N := N) hx hb hts h3 hown hKw.1 hP k0 he h1 j h2 (hts _ h4) (fun _ h9 => h9) hv hd (k H locs ls hz hP hS hl)
  · exact va_getN (C := C) (T := T) (N := N) (host := host) hx hb hts h3 hown hKw.1 hP k0 he h1 j h2 (va_Nw.use rfl (hKw.2.2 _ h4 rfl)) (fun _ h9 => h9) hv hd (k H locs ls hz hP hS hl)
theorem W.sized {p : Program} {l : Launch} {e : Env} {R : Room} {s : State} {m : MethodId} {args : Array Value} {below : List Frame} {meth : Method} {c : Code} {H : Heap} {locs : List Loc} {cells slots : Nat} {Q : State → Prop} {f : JFrame} {n : Nat} (h1 : n ≤ H.size) (h2 : s.heap.size + cells ≤ n) (k : H.size = n → W p l e R s m args below meth c H locs cells slots Q f) : W p l e R s m args below meth c H locs cells slots Q f := by
  intro T hT X
  have h3 : T.heap.size ≤ s.heap.size + cells := X.same.2.2.1
  rw [hT] at h3
  exact k (by omega) T hT X
theorem yLow {g : zG} {A : Nat → Prop} {μ : zMem} {H0 H : Heap} {locs : List Loc} (hAd : yAd g) (h0 : zad g 0 ≤ H0.size) (hP : va_P (zD g) vwCl (ywd g μ) H) (hS : va_S A H0 H locs) : zad g 0 + yn μ ≤ H.size := by
  rcases Nat.eq_zero_or_pos (yn μ) with h | h
  · have := hS.1
    omega
  · have h1 := (hP (yn μ - 1) _ (ywd_at (g := g) (μ := μ) (by omega))).lt
    have h2 : zad g (yn μ - 1) = zad g 0 + (yn μ - 1) := hAd _
    have h3 : zad g (yn μ - 1) < H.size := h1
    omega
theorem yi_puti {g : zG} {κ : zK} {own : String} {cc : ByteArray} {nL d mc n0 : Nat} (X : yC g κ own cc nL d mc n0) {pc pc' : Nat} {lv : List (Nat × Value)} {st : List Value} {μ : zMem} {idx c j k0 : Nat} {ty : FieldType} {v : Int32} (hf : zFl own idx c j) (hw : zFw c j ty) (ho : (zoff.getD c [])[j]? = some none) (hn : narrow ty (.int v) = .int v) (hfit : fits ty (.int v) = true) (hc : c < 7) (hk : zkd k0 = c) (hn0 : k0 < yn μ) (hd : decode cc pc = .ok (.putfield idx, 3)) (hp : pc + 3 = pc') (k : yV g κ n0 pc' lv st (zst μ k0 j v)) : yV g κ n0 pc lv (.int v :: .ref (zad g k0) :: st) μ := by
  obtain ⟨⟨p, l, e, R, s, m⟩, ⟨args, below, meth, cx⟩, ⟨cells, slots, Q⟩, A⟩ := κ
  obtain ⟨hx, hb, hml, hown, hts, hKw, hAd, hA, hR, hC, hin, hs0⟩ := X
  subst hp
  intro H locs ls hz hP hS hl
  obtain ⟨C, T, N, h1, h2, h3, h4⟩ := hf
  have he := ywd_at (g := g) (μ := μ) hn0
  rw [ycell_o _ hk hc] at he
  have hDD : va_D A (ywd g μ) := yD_of hAd hA
  have hlen : j < (yfs g c k0 (μ k0)).length := (List.getElem?_eq_some_iff.mp (yfs_at (g := g) (k := k0) (r := μ k0) ho)).1
  have h99 : k0 ≠ 99 := by have := zkd_lt hk (by omega); omega
  have hset : (ywd g μ).set k0 (zad g k0, .inr (c, (yfs g c k0 (μ k0)).set j (.int v))) = ywd g (zst μ k0 j v) := by
    rw [zst_row]
    exact ywd_row hn0 h99 (by rw [ycell_o _ hk hc, yfs_set (x := v) ho (by simp [yval, upd])])
  have hyn : yn (zst μ k0 j v) = yn μ := by rw [zst_row]; exact yn_row h99 _
  have kk : ∀ (H1 : Heap) (locs1 : List Loc), va_P (zD g) vwCl ((ywd g μ).set k0 (zad g k0, .inr (c, (yfs g c k0 (μ k0)).set j (.int v)))) H1 → va_D A ((ywd g μ).set k0 (zad g k0, .inr (c, (yfs g c k0 (μ k0)).set j (.int v)))) → va_S A s.heap H1 locs1 → W p l e R s m args below meth cx H1 locs1 (yn μ - n0) (160 * (yn μ - n0)) Q (F0 m (pc + 3) ls st) := by
    intro H1 locs1 q1 _ q3
    have := k H1 locs1 ls (by rw [hyn]; exact hz) (by rw [← hset]; exact q1) q3 hl
    rwa [hyn] at this
  obtain ⟨w1, w2, ty0, w3, w4⟩ := hw C T N h1
  rcases h4 with h4 | ⟨host, h4⟩
  · exact va_put (C := C) (T := T) (N := N) hx hb hts h3 ty0 w3 w4 hown hKw.1 hP hDD hS k0 he h1 j h2 (hts _ h4) (fun _ h9 => h9) w1 w2 hn hfit hlen hd kk
  · exact va_putN (C := C) (T := T) (N := N) (host := host) hx hb hts h3 ty0 w3 w4 hown hKw.1 hP hDD hS k0 he h1 j h2 (va_Nw.use rfl (hKw.2.2 _ h4 rfl)) (fun _ h9 => h9) w1 w2 hn hfit hlen hd kk
/-- a final field of its own class, a reference -/
def yFw (own : String) (idx c j : Nat) : Prop := ∃ (C : String) (T : u_T) (N : Nat), vwCl[c]? = some (C, T, N) ∧ j < N ∧ (∀ w ∈ u_ws C T N, w ∈ zgw) ∧ Cond.fieldLink own idx (T j).1 (T j).2.1 (T j).2.2.1 ∈ zgw ∧ (T j).2.2.2 = true ∧ (T j).1 = own ∧ (∃ ty, parseFieldDescriptor (T j).2.2.1 = some ty ∧ ∀ a : Nat, narrow ty (.ref a) = .ref a ∧ fits ty (.ref a) = true) ∧ ∃ ty0 : Nat → FieldType, (∀ k, k < N → parseFieldDescriptor (T k).2.2.1 = some (ty0 k)) ∧ ∀ a, a < N → ∀ b, b < N → a ≠ b → (T a).2.1 ≠ (T b).2.1
theorem yi_putr {g : zG} {κ : zK} {own : String} {cc : ByteArray} {nL d mc n0 : Nat} (X : yC g κ own cc nL d mc n0) {pc pc' : Nat} {lv : List (Nat × Value)} {st : List Value} {μ : zMem} {idx c j k0 k1 o : Nat} (hf : yFw own idx c j) (hin : (∃ (κ1 : Method), κ1.name = "<init>" ∧ κ.2.1.2.2.1 = κ1)) (ho : (zoff.getD c [])[j]? = some (some o)) (hc : c < 7) (hk : zkd k0 = c) (hn0 : k0 < yn μ ∧ k1 = k0 + o) (hd : decode cc pc = .ok (.putfield idx, 3)) (hp : pc + 3 = pc') (k : yV g κ n0 pc' lv st (zst μ k0 j 1)) : yV g κ n0 pc lv (.ref (zad g k1) :: .ref (zad g k0) :: st) μ := by
  obtain ⟨⟨p, l, e, R, s, m⟩, ⟨args, below, meth, cx⟩, ⟨cells, slots, Q⟩, A⟩ := κ
  obtain ⟨hx, hb, hml, hown, hts, hKw, hAd, hA, hR, hC, _, hs0⟩ := X
  subst hp
  obtain ⟨hn0, rfl⟩ := hn0
  have hin : meth.name = "<init>" := by obtain ⟨κ1, h1, h2⟩ := hin; rw [← h1, ← h2]
  intro H locs ls hz hP hS hl
  obtain ⟨C, T, N, h1, h2, h3, h4, h5, h6, ⟨ty, h7, h8⟩, ty0, w3, w4⟩ := hf
  have he := ywd_at (g := g) (μ := μ) hn0
  rw [ycell_o _ hk hc] at he
  have hDD : va_D A (ywd g μ) := yD_of hAd hA
  have hlen : j < (yfs g c k0 (μ k0)).length := (List.getElem?_eq_some_iff.mp (yfs_at (g := g) (k := k0) (r := μ k0) ho)).1
  have h99 : k0 ≠ 99 := by have := zkd_lt hk (by omega); omega
  have hset : (ywd g μ).set k0 (zad g k0, .inr (c, (yfs g c k0 (μ k0)).set j (.ref (zad g (k0 + o))))) = ywd g (zst μ k0 j 1) := by
    rw [zst_row]
    exact ywd_row hn0 h99 (by rw [ycell_o _ hk hc, yfs_set (x := 1) ho (by simp [yval, upd])])
  have hyn : yn (zst μ k0 j 1) = yn μ := by rw [zst_row]; exact yn_row h99 _
  refine va_putF (C := C) (T := T) (N := N) hx hb hts h3 ty0 w3 w4 hown hKw.1 hP hDD hS k0 he h1 j h2 (hts _ h4) (fun _ h9 => h9) h5 hin h6 h7 (h8 _).1 (h8 _).2 hlen hd (fun H1 locs1 q1 _ q3 => ?_)
  have := k H1 locs1 ls (by rw [hyn]; exact hz) (by rw [← hset]; exact q1) q3 hl
  rwa [hyn] at this
theorem yi_iast {g : zG} {κ : zK} {own : String} {cc : ByteArray} {nL d mc n0 : Nat} (X : yC g κ own cc nL d mc n0) {pc pc' : Nat} {lv : List (Nat × Value)} {st : List Value} {μ : zMem} {k0 : Nat} {i v : Int32} (hk : zkd k0 = 7) (hn0 : k0 < yn μ) (hin0 : zib i (zln k0)) (hd : decode cc pc = .ok (.iastore, 1)) (hp : pc + 1 = pc') (k : yV g κ n0 pc' lv st (zst μ k0 i.toNatClampNeg v)) : yV g κ n0 pc lv (.int v :: .int i :: .ref (zad g k0) :: st) μ := by
  obtain ⟨⟨p, l, e, R, s, m⟩, ⟨args, below, meth, cx⟩, ⟨cells, slots, Q⟩, A⟩ := κ
  obtain ⟨hx, hb, hml, hown, hts, hKw, hAd, hA, hR, hC, hin, hs0⟩ := X
  subst hp
  intro H locs ls hz hP hS hl
  have he := ywd_at (g := g) (μ := μ) hn0
  rw [ycell_i _ hk] at he
  have hDD : va_D A (ywd g μ) := yD_of hAd hA
  have h99 : k0 ≠ 99 := by have := zkd_lt hk (by omega); omega
  have hyn : yn (zst μ k0 i.toNatClampNeg v) = yn μ := by rw [zst_row]; exact yn_row h99 _
  refine va_iast hx hb hKw.1 hP hDD hS k0 0 he rfl hin0 hd (fun H1 locs1 q1 _ q3 => ?_)
  rw [ywd_row hn0 h99 (ycell_i _ hk)] at q1
  have := k H1 locs1 ls (by rw [hyn]; exact hz) q1 q3 hl
  rwa [hyn] at this
theorem yi_aastT {g : zG} {κ : zK} {own : String} {cc : ByteArray} {nL d mc n0 : Nat} (X : yC g κ own cc nL d mc n0) {pc pc' : Nat} {lv : List (Nat × Value)} {st : List Value} {μ : zMem} {k0 k1 : Nat} {i : Int32} (hk : zkd k0 = 9) (hk1 : zkd k1 = 4) (hn0 : k0 < yn μ ∧ k1 < yn μ ∧ k1 = k0 + 1 + 2 * i.toNatClampNeg) (hin0 : zib i (zln k0)) (hd : decode cc pc = .ok (.aastore, 1)) (hp : pc + 1 = pc') (k : yV g κ n0 pc' lv st (zst μ k0 i.toNatClampNeg 1)) : yV g κ n0 pc lv (.ref (zad g k1) :: .int i :: .ref (zad g k0) :: st) μ := by
  obtain ⟨⟨p, l, e, R, s, m⟩, ⟨args, below, meth, cx⟩, ⟨cells, slots, Q⟩, A⟩ := κ
  obtain ⟨hx, hb, hml, hown, hts, hKw, hAd, hA, hR, hC, hin, hs0⟩ := X
  subst hp
  intro H locs ls hz hP hS hl
  have he := ywd_at (g := g) (μ := μ) hn0.1
  rw [ycell_t _ hk] at he
  have he1 := ywd_at (g := g) (μ := μ) hn0.2.1
  rw [ycell_o _ hk1 (by decide)] at he1
  have hDD : va_D A (ywd g μ) := yD_of hAd hA
  have h99 : k0 ≠ 99 := by have := zkd_lt hk (by omega); omega
  have hyn : yn (zst μ k0 i.toNatClampNeg 1) = yn μ := by rw [zst_row]; exact yn_row h99 _
  refine va_astq hx hb hKw.1 hP hDD hS k0 1 k1 4 (r := (RX4, TX4, 4)) he rfl he1 rfl hin0 hd (fun H1 locs1 q1 _ q3 => ?_)
  have hset : (ywd g μ).set k0 (zad g k0, .inl (zcT g, zln k0, .inr (.inr (.inr (.inr (va_up (fun j => if μ k0 j = 0 then none else some (zad g (k0 + 1 + 2 * j))) i.toNatClampNeg (some (zad g k1)))))))) = ywd g (zst μ k0 i.toNatClampNeg 1) := by
    rw [zst_row]
    refine ywd_row hn0.1 h99 ?_
    rw [ycell_t _ hk]
    congr 7
    funext j
    by_cases hj : j = i.toNatClampNeg
    · subst hj; simp [va_up, upd, hn0.2.2]
    · simp [va_up, upd, hj]
  rw [hset] at q1
  have := k H1 locs1 ls (by rw [hyn]; exact hz) q1 q3 hl
  rwa [hyn] at this
theorem yi_aastS {g : zG} {κ : zK} {own : String} {cc : ByteArray} {nL d mc n0 : Nat} (X : yC g κ own cc nL d mc n0) {pc pc' : Nat} {lv : List (Nat × Value)} {st : List Value} {μ : zMem} {k0 k1 : Nat} {i : Int32} (hk : zkd k0 = 8) (hk1 : zkd k1 = 2) (hn0 : k0 < yn μ ∧ k1 < yn μ ∧ k1 = k0 + 3 + 2 * i.toNatClampNeg) (hin0 : zib i (zln k0)) (hd : decode cc pc = .ok (.aastore, 1)) (hp : pc + 1 = pc') (k : yV g κ n0 pc' lv st (zst μ k0 i.toNatClampNeg 1)) : yV g κ n0 pc lv (.ref (zad g k1) :: .int i :: .ref (zad g k0) :: st) μ := by
  obtain ⟨⟨p, l, e, R, s, m⟩, ⟨args, below, meth, cx⟩, ⟨cells, slots, Q⟩, A⟩ := κ
  obtain ⟨hx, hb, hml, hown, hts, hKw, hAd, hA, hR, hC, hin, hs0⟩ := X
  subst hp
  intro H locs ls hz hP hS hl
  have he := ywd_at (g := g) (μ := μ) hn0.1
  rw [ycell_s _ hk] at he
  have he1 := ywd_at (g := g) (μ := μ) hn0.2.1
  rw [ycell_o _ hk1 (by decide)] at he1
  have hDD : va_D A (ywd g μ) := yD_of hAd hA
  have h99 : k0 ≠ 99 := by have := zkd_lt hk (by omega); omega
  have hyn : yn (zst μ k0 i.toNatClampNeg 1) = yn μ := by rw [zst_row]; exact yn_row h99 _
  refine va_astq hx hb hKw.1 hP hDD hS k0 2 k1 2 (r := (RX2, TX2, 3)) he rfl he1 rfl hin0 hd (fun H1 locs1 q1 _ q3 => ?_)
  have hset : (ywd g μ).set k0 (zad g k0, .inl (zcS g, zln k0, .inr (.inr (.inr (.inr (va_up (fun j => if μ k0 j = 0 then none else some (zad g (k0 + 3 + 2 * j))) i.toNatClampNeg (some (zad g k1)))))))) = ywd g (zst μ k0 i.toNatClampNeg 1) := by
    rw [zst_row]
    refine ywd_row hn0.1 h99 ?_
    rw [ycell_s _ hk]
    congr 7
    funext j
    by_cases hj : j = i.toNatClampNeg
    · subst hj; simp [va_up, upd, hn0.2.2]
    · simp [va_up, upd, hj]
  rw [hset] at q1
  have := k H1 locs1 ls (by rw [hyn]; exact hz) q1 q3 hl
  rwa [hyn] at this
theorem yi_alen {g : zG} {κ : zK} {own : String} {cc : ByteArray} {nL d mc n0 : Nat} (X : yC g κ own cc nL d mc n0) {pc pc' : Nat} {lv : List (Nat × Value)} {st : List Value} {μ : zMem} {k0 : Nat} (hk : zkd k0 = 7) (hn0 : k0 < yn μ) (hd : decode cc pc = .ok (.arraylength, 1)) (hp : pc + 1 = pc') (k : yV g κ n0 pc' lv (.int (Int32.ofNat (zln k0)) :: st) μ) : yV g κ n0 pc lv (.ref (zad g k0) :: st) μ := by
  obtain ⟨⟨p, l, e, R, s, m⟩, ⟨args, below, meth, cx⟩, ⟨cells, slots, Q⟩, A⟩ := κ
  obtain ⟨hx, hb, hml, hown, hts, hKw, hAd, hA, hR, hC, hin, hs0⟩ := X
  subst hp
  intro H locs ls hz hP hS hl
  have he := ywd_at (g := g) (μ := μ) hn0
  rw [ycell_i _ hk] at he
  exact va_alen hx hb hKw.1 hP k0 0 he (ty := .int) rfl rfl hd (k H locs ls hz hP hS hl)
/-- a class that can be made: its cell, blank -/
def yNw (own : String) (idx c : Nat) : Prop := ∃ (C : String) (T : u_T) (N : Nat), vwCl[c]? = some (C, T, N) ∧ N ≤ 160 ∧ (∀ w ∈ u_ws C T N, w ∈ zgw) ∧ Cond.classLink own idx C ∈ zgw ∧ Cond.instantiable C N ∈ zgw ∧ Cond.initialized C ∈ zgw ∧ ∃ ty0 : Nat → FieldType, (∀ k, k < N → parseFieldDescriptor (T k).2.2.1 = some (ty0 k)) ∧ ∀ j, j < N → j < 16 ∧ ((zoff.getD c [])[j]? = some none ∧ defaultValue (ty0 j) = .int 0 ∨ (∃ o, (zoff.getD c [])[j]? = some (some o)) ∧ defaultValue (ty0 j) = .null)
theorem yi_new {g : zG} {κ : zK} {own : String} {cc : ByteArray} {nL d mc n0 : Nat} (X : yC g κ own cc nL d mc n0) {pc pc' : Nat} {lv : List (Nat × Value)} {st : List Value} {μ : zMem} {idx c : Nat} (hn : yNw own idx c) (hc : c < 7) (hg : yn μ < 78 ∧ zkd (yn μ) = c ∧ yn (yk μ) = yn μ + 1 ∧ (∀ j, j < 16 → μ (yn μ) j = 0) ∧ yn μ < n0 + mc) (hd : decode cc pc = .ok (.new idx, 3)) (hp : pc + 3 = pc') (k : yV g κ n0 pc' lv (.ref (zad g (yn μ)) :: st) (yk μ)) : yV g κ n0 pc lv st μ := by
  obtain ⟨⟨p, l, e, R, s, m⟩, ⟨args, below, meth, cx⟩, ⟨cells, slots, Q⟩, A⟩ := κ
  obtain ⟨hx, hb, hml, hown, hts, hKw, hAd, hA, hR, hC, hin, hs0⟩ := X
  subst hp
  intro H locs ls hz hP hS hl
  obtain ⟨C, T, N, h1, hN, h3, h4, h5, h6, ty0, h7, h8⟩ := hn
  have hs1 : s.heap.size + (yn μ - n0) ≤ zad g 0 + yn μ := by omega
  refine W.sized (yLow hAd (by omega) hP hS) hs1 (fun hsz => ?_)
  have hq : H.size = zad g (yn μ) := by rw [hAd (yn μ)]; exact hsz
  have hKn := hKw.1.1 c _ h1
  refine W.newcK hx hb hown (hts _ h4) (hts _ h5) (hts _ h6) rfl hd (by omega) (by omega) hKn.2.1 hq fun H1 kC hkC e1 z1 o1 => ?_
  rw [← hq] at o1 z1
  have hnew : va_P (zD g) vwCl [(zad g (yn μ), ycell g (yn μ) (μ (yn μ)))] H1 := by
    intro k9 x hx9
    have hz9 : k9 < 1 := (List.getElem?_eq_some_iff.mp hx9).1
    rw [show k9 = 0 by omega] at hx9
    cases hx9
    rw [ycell_o _ hg.2.1 hc]
    refine ⟨_, h1, (u_born ty0 hts h3 hKn hkC e1 h7).to (fun j hj => ?_)⟩
    obtain ⟨hj16, hj2⟩ := h8 j hj
    show defaultValue (ty0 j) = (yfs g c (yn μ) (μ (yn μ))).getD j .null
    have h0 := hg.2.2.2.1 j hj16
    rcases hj2 with ⟨q1, q2⟩ | ⟨⟨o, q1⟩, q2⟩
    · rw [q2, List.getD_eq_getElem?_getD, yfs_at q1]; simp [yval, h0]
    · rw [q2, List.getD_eq_getElem?_getD, yfs_at q1]; simp [yval, h0]
  have hk9 : ∀ (k : Nat) (x : Nat × va_E), (ywd g μ)[k]? = some x → H1[x.1]? = H[x.1]? := fun k x hx9 => o1 x.1 ((hP k x hx9).lt)
  have hS1 : va_S A s.heap H1 locs := ⟨Nat.le_trans hS.1 (by omega), fun x q1 q2 => (o1 x (Nat.lt_of_lt_of_le q1 hS.1)).trans (hS.2.1 x q1 q2), hS.2.2⟩
  have key := k H1 locs ls (by rw [hg.2.2.1]; omega) (by rw [ywd_push hg.2.2.1 hg.1]; exact (hP.kept hk9).app hnew) hS1 hl
  rw [hg.2.2.1] at key
  refine W.widen (k := yn μ + 1 - n0) (n := 160 * (yn μ + 1 - n0)) (by omega) (by omega) ?_
  exact key
theorem yi_newi {g : zG} {κ : zK} {own : String} {cc : ByteArray} {nL d mc n0 : Nat} (X : yC g κ own cc nL d mc n0) {pc pc' : Nat} {lv : List (Nat × Value)} {st : List Value} {μ : zMem} {n : Int32} (hw : Cond.arrayClass .int ∈ zgw) (hg : yn μ < 78 ∧ zkd (yn μ) = 7 ∧ yn (yk μ) = yn μ + 1 ∧ (∀ j, j < 160 → μ (yn μ) j = 0) ∧ yn μ < n0 + mc ∧ (¬ n < 0 ∧ n.toNatClampNeg = zln (yn μ) ∧ n.toNatClampNeg ≤ 160)) (hd : decode cc pc = .ok (.newarray .int, 2)) (hp : pc + 2 = pc') (k : yV g κ n0 pc' lv (.ref (zad g (yn μ)) :: st) (yk μ)) : yV g κ n0 pc lv (.int n :: st) μ := by
  obtain ⟨⟨p, l, e, R, s, m⟩, ⟨args, below, meth, cx⟩, ⟨cells, slots, Q⟩, A⟩ := κ
  obtain ⟨hx, hb, hml, hown, hts, hKw, hAd, hA, hR, hC, hin, hs0⟩ := X
  subst hp
  intro H locs ls hz hP hS hl
  have hs1 : s.heap.size + (yn μ - n0) ≤ zad g 0 + yn μ := by omega
  refine W.sized (yLow hAd (by omega) hP hS) hs1 (fun hsz => ?_)
  have hq : H.size = zad g (yn μ) := by rw [hAd (yn μ)]; exact hsz
  obtain ⟨g1, g2, g3⟩ := hg.2.2.2.2.2
  refine va_newaK (atype := .int) hx hb (hts _ hw) rfl hd rfl g1 g2 (by rw [← g2]; show n.toNatClampNeg * 4 ≤ 536870912; omega) (by omega) (by omega) hq fun H1 cA e1 z1 o1 hAr hNm => ?_
  rw [← hq] at o1 z1
  have hcA : cA = zcI g := by
    have h9 := (hKw.1.2 0 (zcI g, .int) rfl).2
    have h8 : s.vm.findClass ("[" ++ (FieldType.int).toString) = some (zcI g) := h9
    exact Option.some.inj (hNm.symm.trans h8)
  subst hcA
  have hnew : va_P (zD g) vwCl [(zad g (yn μ), ycell g (yn μ) (μ (yn μ)))] H1 := by
    intro k9 x hx9
    have hz9 : k9 < 1 := (List.getElem?_eq_some_iff.mp hx9).1
    rw [show k9 = 0 by omega] at hx9
    cases hx9
    rw [ycell_i _ hg.2.1]
    show H1[zad g (yn μ)]? = some (vp_cell _ _)
    rw [e1, vp_cell_i]
    exact congrArg some (arrV_ext (fun j hj => by rw [hg.2.2.2.1 j (by omega)]; rfl))
  have hk9 : ∀ (k : Nat) (x : Nat × va_E), (ywd g μ)[k]? = some x → H1[x.1]? = H[x.1]? := fun k x hx9 => o1 x.1 ((hP k x hx9).lt)
  have hS1 : va_S A s.heap H1 locs := ⟨Nat.le_trans hS.1 (by omega), fun x q1 q2 => (o1 x (Nat.lt_of_lt_of_le q1 hS.1)).trans (hS.2.1 x q1 q2), hS.2.2⟩
  have key := k H1 locs ls (by rw [hg.2.2.1]; omega) (by rw [ywd_push hg.2.2.1 hg.1]; exact (hP.kept hk9).app hnew) hS1 hl
  rw [hg.2.2.1] at key
  refine W.widen (k := yn μ + 1 - n0) (n := 160 * (yn μ + 1 - n0)) (by omega) (by omega) ?_
  exact key
theorem yi_newqT {g : zG} {κ : zK} {own : String} {cc : ByteArray} {nL d mc n0 : Nat} (X : yC g κ own cc nL d mc n0) {pc pc' : Nat} {lv : List (Nat × Value)} {st : List Value} {μ : zMem} {n : Int32} {idx : Nat} (hw : Cond.classLink own idx RX4 ∈ zgw) (hg : yn μ < 78 ∧ zkd (yn μ) = 9 ∧ yn (yk μ) = yn μ + 1 ∧ (∀ j, j < 160 → μ (yn μ) j = 0) ∧ yn μ < n0 + mc ∧ (¬ n < 0 ∧ n.toNatClampNeg = zln (yn μ) ∧ n.toNatClampNeg ≤ 160)) (hd : decode cc pc = .ok (.anewarray idx, 3)) (hp : pc + 3 = pc') (k : yV g κ n0 pc' lv (.ref (zad g (yn μ)) :: st) (yk μ)) : yV g κ n0 pc lv (.int n :: st) μ := by
  obtain ⟨⟨p, l, e, R, s, m⟩, ⟨args, below, meth, cx⟩, ⟨cells, slots, Q⟩, A⟩ := κ
  obtain ⟨hx, hb, hml, hown, hts, hKw, hAd, hA, hR, hC, hin, hs0⟩ := X
  subst hp
  intro H locs ls hz hP hS hl
  have hs1 : s.heap.size + (yn μ - n0) ≤ zad g 0 + yn μ := by omega
  refine W.sized (yLow hAd (by omega) hP hS) hs1 (fun hsz => ?_)
  have hq : H.size = zad g (yn μ) := by rw [hAd (yn μ)]; exact hsz
  obtain ⟨g1, g2, g3⟩ := hg.2.2.2.2.2
  obtain ⟨kA, comp, r1, r2, r3, r4⟩ : ∃ (kA : Class) (comp : ClassId), s.vm.classes[zcT g]? = some kA ∧ kA.kind = .array comp (.object RX4) ∧ s.vm.findClass RX4 = some comp ∧ s.vm.findClass ("[" ++ (FieldType.object RX4).toString) = some (zcT g) := (hKw.1.2 1 (zcT g, .object RX4) rfl).2
  refine W.anew hx hb hown (hts _ hw) (va_AO.use hin.1) rfl hd rfl g1 (by omega) (by omega) (by omega) fun cA kA comp f1 f2 f3 f4 => ?_
  have hcA : cA = zcT g := Option.some.inj (f1.symm.trans r4)
  subst hcA
  generalize hH1 : H.push ({ cls := zcT g, slots := Array.replicate n.toNatClampNeg .null, vm := .none } : Cell) = H1
  have z1 : H1.size = H.size + 1 := by rw [← hH1, Array.size_push]
  have e1 : H1[H.size]? = some (arrV (zcT g) n.toNatClampNeg (fun _ => .null)) := by rw [← hH1, Array.getElem?_push_size, ← arrV_new]
  have o1 : ∀ q : Nat, q < H.size → H1[q]? = H[q]? := fun q hq => by rw [← hH1, Array.getElem?_push, if_neg (Nat.ne_of_lt hq)]
  have hnew : va_P (zD g) vwCl [(zad g (yn μ), ycell g (yn μ) (μ (yn μ)))] H1 := by
    intro k9 x hx9
    have hz9 : k9 < 1 := (List.getElem?_eq_some_iff.mp hx9).1
    rw [show k9 = 0 by omega] at hx9
    cases hx9
    rw [ycell_t _ hg.2.1]
    show H1[zad g (yn μ)]? = some (vp_cell _ _)
    rw [← hq, e1, vp_cell_q, g2]
    exact congrArg some (arrV_ext (fun j hj => by rw [if_pos (hg.2.2.2.1 j (by omega))]; rfl))
  rw [hq]
  have hk9 : ∀ (k : Nat) (x : Nat × va_E), (ywd g μ)[k]? = some x → H1[x.1]? = H[x.1]? := fun k x hx9 => o1 x.1 ((hP k x hx9).lt)
  have hS1 : va_S A s.heap H1 locs := ⟨Nat.le_trans hS.1 (by omega), fun x q1 q2 => (o1 x (Nat.lt_of_lt_of_le q1 hS.1)).trans (hS.2.1 x q1 q2), hS.2.2⟩
  have key := k H1 locs ls (by rw [hg.2.2.1]; omega) (by rw [ywd_push hg.2.2.1 hg.1]; exact (hP.kept hk9).app hnew) hS1 hl
  rw [hg.2.2.1] at key
  refine W.widen (k := yn μ + 1 - n0) (n := 160 * (yn μ + 1 - n0)) (by omega) (by omega) ?_
  exact key
theorem yi_newqS {g : zG} {κ : zK} {own : String} {cc : ByteArray} {nL d mc n0 : Nat} (X : yC g κ own cc nL d mc n0) {pc pc' : Nat} {lv : List (Nat × Value)} {st : List Value} {μ : zMem} {n : Int32} {idx : Nat} (hw : Cond.classLink own idx RX2 ∈ zgw) (hg : yn μ < 78 ∧ zkd (yn μ) = 8 ∧ yn (yk μ) = yn μ + 1 ∧ (∀ j, j < 160 → μ (yn μ) j = 0) ∧ yn μ < n0 + mc ∧ (¬ n < 0 ∧ n.toNatClampNeg = zln (yn μ) ∧ n.toNatClampNeg ≤ 160)) (hd : decode cc pc = .ok (.anewarray idx, 3)) (hp : pc + 3 = pc') (k : yV g κ n0 pc' lv (.ref (zad g (yn μ)) :: st) (yk μ)) : yV g κ n0 pc lv (.int n :: st) μ := by
  obtain ⟨⟨p, l, e, R, s, m⟩, ⟨args, below, meth, cx⟩, ⟨cells, slots, Q⟩, A⟩ := κ
  obtain ⟨hx, hb, hml, hown, hts, hKw, hAd, hA, hR, hC, hin, hs0⟩ := X
  subst hp
  intro H locs ls hz hP hS hl
  have hs1 : s.heap.size + (yn μ - n0) ≤ zad g 0 + yn μ := by omega
  refine W.sized (yLow hAd (by omega) hP hS) hs1 (fun hsz => ?_)
  have hq : H.size = zad g (yn μ) := by rw [hAd (yn μ)]; exact hsz
  obtain ⟨g1, g2, g3⟩ := hg.2.2.2.2.2
  obtain ⟨kA, comp, r1, r2, r3, r4⟩ : ∃ (kA : Class) (comp : ClassId), s.vm.classes[zcS g]? = some kA ∧ kA.kind = .array comp (.object RX2) ∧ s.vm.findClass RX2 = some comp ∧ s.vm.findClass ("[" ++ (FieldType.object RX2).toString) = some (zcS g) := (hKw.1.2 2 (zcS g, .object RX2) rfl).2
  refine W.anew hx hb hown (hts _ hw) (va_AO.use hin.2) rfl hd rfl g1 (by omega) (by omega) (by omega) fun cA kA comp f1 f2 f3 f4 => ?_
  have hcA : cA = zcS g := Option.some.inj (f1.symm.trans r4)
  subst hcA
  generalize hH1 : H.push ({ cls := zcS g, slots := Array.replicate n.toNatClampNeg .null, vm := .none } : Cell) = H1
  have z1 : H1.size = H.size + 1 := by rw [← hH1, Array.size_push]
  have e1 : H1[H.size]? = some (arrV (zcS g) n.toNatClampNeg (fun _ => .null)) := by rw [← hH1, Array.getElem?_push_size, ← arrV_new]
  have o1 : ∀ q : Nat, q < H.size → H1[q]? = H[q]? := fun q hq => by rw [← hH1, Array.getElem?_push, if_neg (Nat.ne_of_lt hq)]
  have hnew : va_P (zD g) vwCl [(zad g (yn μ), ycell g (yn μ) (μ (yn μ)))] H1 := by
    intro k9 x hx9
    have hz9 : k9 < 1 := (List.getElem?_eq_some_iff.mp hx9).1
    rw [show k9 = 0 by omega] at hx9
    cases hx9
    rw [ycell_s _ hg.2.1]
    show H1[zad g (yn μ)]? = some (vp_cell _ _)
    rw [← hq, e1, vp_cell_q, g2]
    exact congrArg some (arrV_ext (fun j hj => by rw [if_pos (hg.2.2.2.1 j (by omega))]; rfl))
  rw [hq]
  have hk9 : ∀ (k : Nat) (x : Nat × va_E), (ywd g μ)[k]? = some x → H1[x.1]? = H[x.1]? := fun k x hx9 => o1 x.1 ((hP k x hx9).lt)
  have hS1 : va_S A s.heap H1 locs := ⟨Nat.le_trans hS.1 (by omega), fun x q1 q2 => (o1 x (Nat.lt_of_lt_of_le q1 hS.1)).trans (hS.2.1 x q1 q2), hS.2.2⟩
  have key := k H1 locs ls (by rw [hg.2.2.1]; omega) (by rw [ywd_push hg.2.2.1 hg.1]; exact (hP.kept hk9).app hnew) hS1 hl
  rw [hg.2.2.1] at key
  refine W.widen (k := yn μ + 1 - n0) (n := 160 * (yn μ + 1 - n0)) (by omega) (by omega) ?_
  exact key
theorem yi_callI {g : zG} {κ : zK} {own : String} {cc : ByteArray} {nL d mc n0 : Nat} (X : yC g κ own cc nL d mc n0) {pc pc' : Nat} {lv : List (Nat × Value)} {st : List Value} {μ : zMem} {st0 : List Value} {idx n maxL d' mc' : Nat} {y : MethodName} {bytes : ByteArray} {k0 : Nat} (hlk : zLk own idx y bytes maxL none n ∧ Cond.instanceMethod y ∈ zgw ∧ y.name = "<init>") (As : List Value) (hs : st0 = As.reverse ++ .ref (zad g k0) :: st) (hn : As.length = n) (hdp : d' + 1 ≤ d) (hst : (st.map fun v => v.category).sum ≤ 8) (hg : yn μ + mc' ≤ n0 + mc) (hd : decode cc pc = .ok (.invokespecial idx, 3)) (hp : pc + 3 = pc') (k : yTv g y bytes maxL d' mc' (.ref (zad g k0) :: As) μ (fun _ μ' => yn μ' = yn μ + mc' ∧ yV g κ n0 pc' lv st μ') ∧ True) : yV g κ n0 pc lv st0 μ := by
  obtain ⟨⟨p, l, e, R, s, m⟩, ⟨args, below, meth, cx⟩, ⟨cells, slots, Q⟩, A⟩ := κ
  obtain ⟨hx, hb, hml, hown, hts, hKw, hAd, hA, hR, hC, hin, hs0⟩ := X
  subst hp
  subst hs
  intro H locs ls hz hP hS hl
  have hAA := ySh hA
  have hrm : d' + 1 ≤ R.frames ∧ 8 + (maxL + 11) + 40 * d' ≤ R.locals := by
    have := hlk.1.2.2.2.2
    omega
  have hs1 : s.heap.size + (yn μ - n0) ≤ zad g 0 + yn μ := by omega
  refine W.sized (yLow hAd (by omega) hP hS) hs1 (fun hsz => ?_)
  have hq : H.size = zad g (yn μ) := by rw [hAd (yn μ)]; exact hsz
  have hpre : PreS s H (va_Pc (.ref (zad g k0) :: As) (yWd g μ)) (.ref (zad g k0) :: As) := ⟨yWd_blind g μ _, fun U hU hW => ⟨rfl, ⟨by rw [hU]; exact hsz, hAd, hin.moved hW.alike⟩, by rw [hU]; exact hP, hKw.warm hW⟩⟩
  have hf : (yn μ - n0) + mc' ≤ R.cells ∧ 160 * (yn μ - n0) + 160 * mc' ≤ R.slots := by omega
  have kk : ∀ (μ' : zMem) (t : State) (H1 : Heap) (locs1 : List Loc), t.heap = H1 → s.vm.Alike t.vm → (yn μ' = yn μ + mc' ∧ yV g ((p, l, e, R, s, m), (args, below, meth, cx), (cells, slots, Q), A) n0 (pc + 3) lv st μ') → yWd g μ' t → H.size ≤ H1.size → (∀ q : Nat, q < H.size → ¬ yA g q → H1[q]? = H[q]?) → va_S A s.heap H1 locs1 → W p l e R s m args below meth cx H1 locs1 (yn μ - n0 + mc') (160 * (yn μ - n0) + 160 * mc') Q (F0 m (pc + 3) ls st) := by
    intro μ' t H1 locs1 ht _ hq hB _ _ hS1
    have := hq.2 H1 locs1 ls (by omega) (by rw [← ht]; exact hB.2.1) hS1 hl
    rw [hq.1] at this
    rw [show yn μ + mc' - n0 = yn μ - n0 + mc' by omega, show 160 * (yn μ - n0 + mc') = 160 * (yn μ - n0) + 160 * mc' by omega] at this
    exact this
  rcases hlk.1.1 with h4 | ⟨host, h4⟩
  · have hcb := callB_of (ws' := zgw) (mc := mc') (ms := 160 * mc') (rm := { frames := d', cells := mc', slots := 160 * mc', locals := 40 * d' }) n hts (zgw_in hlk.1.2.2.1) rfl rfl rfl (hts _ hlk.1.2.1) (hts _ h4) hlk.1.2.2.2.1 hrm
    exact va_callv (va_runI (bytes := bytes) (maxL := maxL) (As := As) (rest := st) ⟨hx, hb, hml, hown, hts⟩ (k.1 l) ⟨hcb, hlk.2.2, hts _ hlk.2.1⟩ hpre rfl hn (hl.1.trans hml) rfl (lv_room hst) hd hf) hS (fun q _ h => (hA q).mp h) (fun q h => (hA q).mp h) kk
  · have hcb := va_cnB (ws' := zgw) (mc := mc') (ms := 160 * mc') (rm := { frames := d', cells := mc', slots := 160 * mc', locals := 40 * d' }) n hts (zgw_in hlk.1.2.2.1) rfl rfl rfl (hKw.2.2 _ h4 rfl) (hts _ hlk.1.2.1) hlk.1.2.2.2.1 hrm
    exact va_callv (va_runIN (bytes := bytes) (maxL := maxL) (As := As) (rest := st) ⟨hx, hb, hml, hown, hts⟩ (k.1 l) ⟨hcb, hlk.2.2, hts _ hlk.2.1⟩ hpre rfl hn (hl.1.trans hml) rfl (lv_room hst) hd hf) hS (fun q _ h => (hA q).mp h) (fun q h => (hA q).mp h) kk
theorem yi_callS {g : zG} {κ : zK} {own : String} {cc : ByteArray} {nL d mc n0 : Nat} (X : yC g κ own cc nL d mc n0) {pc pc' : Nat} {lv : List (Nat × Value)} {st : List Value} {μ : zMem} {st0 : List Value} {idx n maxL d' mc' : Nat} {y : MethodName} {bytes : ByteArray}  (hlk : zLkS own idx y bytes maxL none n) (As : List Value) (hs : st0 = As.reverse ++ st) (hn : As.length = n) (hdp : d' + 1 ≤ d) (hst : (st.map fun v => v.category).sum ≤ 8) (hg : yn μ + mc' ≤ n0 + mc) (hd : decode cc pc = .ok (.invokestatic idx, 3)) (hp : pc + 3 = pc') (k : yTv g y bytes maxL d' mc' As μ (fun _ μ' => yn μ' = yn μ + mc' ∧ yV g κ n0 pc' lv st μ') ∧ True) : yV g κ n0 pc lv st0 μ := by
  obtain ⟨⟨p, l, e, R, s, m⟩, ⟨args, below, meth, cx⟩, ⟨cells, slots, Q⟩, A⟩ := κ
  obtain ⟨hx, hb, hml, hown, hts, hKw, hAd, hA, hR, hC, hin, hs0⟩ := X
  subst hp
  subst hs
  intro H locs ls hz hP hS hl
  have hAA := ySh hA
  have hrm : d' + 1 ≤ R.frames ∧ 8 + (maxL + 11) + 40 * d' ≤ R.locals := by
    have := hlk.1.2.2.2.2
    omega
  have hs1 : s.heap.size + (yn μ - n0) ≤ zad g 0 + yn μ := by omega
  refine W.sized (yLow hAd (by omega) hP hS) hs1 (fun hsz => ?_)
  have hq : H.size = zad g (yn μ) := by rw [hAd (yn μ)]; exact hsz
  have hpre : PreS s H (va_Pc As (yWd g μ)) As := ⟨yWd_blind g μ _, fun U hU hW => ⟨rfl, ⟨by rw [hU]; exact hsz, hAd, hin.moved hW.alike⟩, by rw [hU]; exact hP, hKw.warm hW⟩⟩
  have hf : (yn μ - n0) + mc' ≤ R.cells ∧ 160 * (yn μ - n0) + 160 * mc' ≤ R.slots := by omega
  have kk : ∀ (μ' : zMem) (t : State) (H1 : Heap) (locs1 : List Loc), t.heap = H1 → s.vm.Alike t.vm → (yn μ' = yn μ + mc' ∧ yV g ((p, l, e, R, s, m), (args, below, meth, cx), (cells, slots, Q), A) n0 (pc + 3) lv st μ') → yWd g μ' t → H.size ≤ H1.size → (∀ q : Nat, q < H.size → ¬ yA g q → H1[q]? = H[q]?) → va_S A s.heap H1 locs1 → W p l e R s m args below meth cx H1 locs1 (yn μ - n0 + mc') (160 * (yn μ - n0) + 160 * mc') Q (F0 m (pc + 3) ls st) := by
    intro μ' t H1 locs1 ht _ hq hB _ _ hS1
    have := hq.2 H1 locs1 ls (by omega) (by rw [← ht]; exact hB.2.1) hS1 hl
    rw [hq.1] at this
    rw [show yn μ + mc' - n0 = yn μ - n0 + mc' by omega, show 160 * (yn μ - n0 + mc') = 160 * (yn μ - n0) + 160 * mc' by omega] at this
    exact this
  rcases hlk.1.1 with h4 | ⟨host, h4⟩
  · have hcb := callB_of (ws' := zgw) (mc := mc') (ms := 160 * mc') (rm := { frames := d', cells := mc', slots := 160 * mc', locals := 40 * d' }) n hts (zgw_in hlk.1.2.2.1) rfl rfl rfl (hts _ hlk.1.2.1) (hts _ h4) hlk.1.2.2.2.1 hrm
    exact va_callv (va_runS (bytes := bytes) (maxL := maxL) (ret := none) (As := As) (rest := st) ⟨hx, hb, hml, hown, hts⟩ (k.1 l) ⟨hcb, hts _ hlk.2⟩ hpre rfl hn (hl.1.trans hml) rfl (lv_room hst) hd hf) hS (fun q _ h => (hA q).mp h) (fun q h => (hA q).mp h) kk
  · have hcb := va_cnB (ws' := zgw) (mc := mc') (ms := 160 * mc') (rm := { frames := d', cells := mc', slots := 160 * mc', locals := 40 * d' }) n hts (zgw_in hlk.1.2.2.1) rfl rfl rfl (hKw.2.2 _ h4 rfl) (hts _ hlk.1.2.1) hlk.1.2.2.2.1 hrm
    exact va_callv (va_runSN (bytes := bytes) (maxL := maxL) (ret := none) (As := As) (rest := st) ⟨hx, hb, hml, hown, hts⟩ (k.1 l) ⟨hcb, hts _ hlk.2, trivial⟩ hpre rfl hn (hl.1.trans hml) rfl (lv_room hst) hd hf) hS (fun q _ h => (hA q).mp h) (fun q h => (hA q).mp h) kk
theorem yTv_of {g : zG} {y : MethodName} {cc : ByteArray} {nL d mc : Nat} {As : List Value} {μ : zMem} {Q : Unit → zMem → Prop} (own : String) (hy : plainName y.cls = true) (ho : y.cls = own) (hlen : (lg_sl As).length ≤ nL)
    (body : ∀ κ : zK, (∃ κ1 : Method, κ1.name = y.name ∧ κ.2.1.2.2.1 = κ1) → yC g κ own cc nL d mc (yn μ) → (∀ pc lv μ', decode cc pc = .ok (.return_, 1) → Q () μ' → yn μ' ≤ yn μ + mc → yV g κ (yn μ) pc lv [] μ') → yV g κ (yn μ) 0 (lv_args 0 As) [] μ) : yTv g y cc nL d mc As μ Q := by
  intro l
  refine Met.ofW (cc := cc) (maxL := nL) (ret := none) hy rfl ?_
  intro p e s m args below meth c s₁ B hml hv
  obtain ⟨rfl, ⟨hsz, hAd, hAO⟩, hP, hKw⟩ := hv
  have hx := B.exec
  have hb := B.bytes
  have hr := B.returns
  have hts0 := atoms_spec (ws := .code y cc nL none :: zgw) B.pre
  have hts : ∀ w ∈ zgw, w.before As.toArray s = true := fun w h => hts0 w (List.mem_cons_of_mem _ h)
  have hown : s.vm.findClass own = some m.cls := ho ▸ findClass_of_methodNamed B.named
  have hlocks := B.notSynchronized
  have hnm : meth.name = y.name := (name_of_methodNamed B.named B.method).1
  have hl := lv_entry As (n := nL) hlen
  rw [lg_entry_eq]
  generalize (lg_sl As ++ List.replicate (nL - (lg_sl As).length) Slot.unset).toArray = ls at hl ⊢
  have key := body ((p, l, e, { frames := d, cells := mc, slots := 160 * mc, locals := 40 * d }, s, m), (As.toArray, below, meth, c), (0, 0, MQ below (va_Qv (Q ()) (yWd g) (yA g)) As.toArray s mc (160 * mc) (yA g)), yA g) ⟨meth, hnm, rfl⟩ ⟨hx, hb, hml, hown, hts, hKw, hAd, fun q => Iff.rfl, ⟨Nat.le_refl _, Nat.le_refl _⟩, ⟨Nat.le_refl _, Nat.le_refl _⟩, hAO, hsz⟩ ?_
  · have := key s.heap [] ls (Nat.le_refl _) hP va_S.rf (by rw [hml]; exact hl)
    rw [Nat.sub_self] at this
    exact this
  · intro pc lv μ' hd hQ hle H locs ls hz hPw hS hl
    refine W.sized (n := zad g 0 + yn μ') (yLow hAd (by omega) hPw hS) (by omega) (fun hszz => ?_)
    refine W.widen (k := mc) (n := 160 * mc) (by omega) (by omega) ?_
    exact W.vret hx hb hr (fun t ht hW => ⟨⟨μ', rfl, hQ, ⟨by rw [ht]; exact hszz, hAd, hAO.moved hW.alike⟩, by rw [ht]; exact hPw, hKw.warm hW⟩, hS.F ht⟩) hS.2.2 hd
