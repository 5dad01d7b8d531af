/-! the whole room as one memory: cell k, place j; the shape never changes behind the constructors -/
abbrev zMem : Type := Nat → Nat → Int32
abbrev zG : Type := va_G × (ClassId × ClassId × ClassId) × (Nat → Nat) × (Nat → Nat) × (Nat → Nat)
def zD (g : zG) : va_G := g.1
def zcI (g : zG) : ClassId := g.2.1.1
def zcT (g : zG) : ClassId := g.2.1.2.1
def zcS (g : zG) : ClassId := g.2.1.2.2
def zad (g : zG) (k : Nat) : Nat := g.2.2.1 k
def zak (g : zG) (k : Nat) : Nat := g.2.2.2.1 k
def zav (g : zG) (k : Nat) : Nat := g.2.2.2.2 k
def zcamp : List (Nat × Nat) := [(0,0),(7,25),(7,10),(9,6),(4,0),(7,4),(4,0),(7,4),(4,0),(7,4),(4,0),(7,4),(4,0),(7,4),(4,0),(7,4)]
def zkL : List (Nat × Nat) := [(5,0)] ++ zcamp ++ zcamp ++ zcamp ++ [(1,0),(7,25),(7,25),(7,25),(3,0),(7,120),(8,4),(7,7),(7,25),(2,0),(7,40),(2,0),(7,40),(2,0),(7,40),(2,0),(7,40),(6,0),(7,87),(7,87),(7,87),(7,7),(7,25),(7,25),(7,120),(7,4),(7,4),(7,160),(7,40)]
def zkd (k : Nat) : Nat := (zkL.getD k (10, 0)).1
def zln (k : Nat) : Nat := (zkL.getD k (10, 0)).2
theorem zkL_len : zkL.length = 78 := by decide +kernel
theorem zkd_lt {k c : Nat} (h : zkd k = c) (hc : c < 10) : k < 78 := by
  rcases Nat.lt_or_ge k 78 with q | q
  · exact q
  · exfalso
    have h1 : zkL.getD k (10, 0) = (10, 0) := by
      rw [List.getD_eq_getElem?_getD, List.getElem?_eq_none (by rw [zkL_len]; exact q)]; rfl
    rw [zkd, h1] at h
    simp only at h
    omega
/-- fields: none an int, some d a reference to the cell d behind -/
def zoff : List (List (Option Nat)) := [[some 1, some 2, some 3, none, none, none, none], [some 1, some 2, some 3, none], [none, none, some 1], [some 1, none, none, none, none, none], [none, none, none, some 1], [some 1, some 17, some 33, some 49, some 53, some 55, some 56, some 57, none], [some 1, some 2, some 3, none, some 4, some 5, some 6, some 7, none, none, none, none, some 8, some 9, some 10, some 11]]
def zval (g : zG) (k : Nat) (r : Nat → Int32) (j : Nat) (o : Option Nat) : Value := match o with
  | none => .int (r j)
  | some d => .ref (zad g (k + d))
def zfs (g : zG) (c k : Nat) (r : Nat → Int32) : List Value := (zoff.getD c []).mapIdx (zval g k r)
def zcell (g : zG) (k : Nat) (r : Nat → Int32) : va_E :=
  if zkd k < 7 then .inr (zkd k, zfs g (zkd k) k r)
  else if zkd k = 7 then .inl (zcI g, zln k, .inl r)
  else if zkd k = 8 then .inl (zcS g, zln k, .inr (.inr (.inr (.inr (fun j => some (zad g (k + 3 + 2 * j)))))))
  else .inl (zcT g, zln k, .inr (.inr (.inr (.inr (fun j => some (zad g (k + 1 + 2 * j)))))))
def zwd (g : zG) (μ : zMem) : va_W := (List.range 78).map (fun k => (zad g k, zcell g k (μ k)))
theorem zwd_at {g : zG} {μ : zMem} {k : Nat} (h : k < 78) : (zwd g μ)[k]? = some (zad g k, zcell g k (μ k)) := by
  simp [zwd, h]
theorem zwd_get {g : zG} {μ : zMem} {i : Nat} {q : Nat × va_E} (h : (zwd g μ)[i]? = some q) : i < 78 ∧ q = (zad g i, zcell g i (μ i)) := by
  have hi : i < 78 := by
    have := (List.getElem?_eq_some_iff.mp h).1
    simpa [zwd] using this
  refine ⟨hi, ?_⟩
  rw [zwd_at hi] at h
  exact (Option.some.inj h).symm
theorem zcell_o {g : zG} {k c : Nat} (r : Nat → Int32) (h : zkd k = c) (hc : c < 7) : zcell g k r = .inr (c, zfs g c k r) := by
  unfold zcell; rw [h, if_pos hc]
theorem zcell_i {g : zG} {k : Nat} (r : Nat → Int32) (h : zkd k = 7) : zcell g k r = .inl (zcI g, zln k, .inl r) := by
  unfold zcell; rw [h]; rfl
theorem zcell_s {g : zG} {k : Nat} (r : Nat → Int32) (h : zkd k = 8) : zcell g k r = .inl (zcS g, zln k, .inr (.inr (.inr (.inr (fun j => some (zad g (k + 3 + 2 * j))))))) := by
  unfold zcell; rw [h]; rfl
theorem zcell_t {g : zG} {k : Nat} (r : Nat → Int32) (h : zkd k = 9) : zcell g k r = .inl (zcT g, zln k, .inr (.inr (.inr (.inr (fun j => some (zad g (k + 1 + 2 * j))))))) := by
  unfold zcell; rw [h]; rfl
theorem zfs_at {g : zG} {c k j : Nat} {r : Nat → Int32} {o : Option Nat} (h : (zoff.getD c [])[j]? = some o) : (zfs g c k r)[j]? = some (zval g k r j o) := by
  rw [zfs, List.getElem?_mapIdx, h]; rfl
theorem zfs_set {g : zG} {c k j : Nat} {r : Nat → Int32} {v : Int32} (h : (zoff.getD c [])[j]? = some none) : (zfs g c k r).set j (.int v) = zfs g c k (upd r j v) := by
  apply List.ext_getElem?
  intro i
  rw [List.getElem?_set]
  by_cases hij : j = i
  · subst hij
    rw [zfs_at (r := upd r j v) h]
    have hl : j < (zfs g c k r).length := by
      have := (List.getElem?_eq_some_iff.mp h).1
      simpa [zfs] using this
    simp [hl, zval, upd]
  · rw [if_neg hij]
    simp only [zfs, List.getElem?_mapIdx]
    cases (zoff.getD c [])[i]? with
    | none => rfl
    | some o =>
      cases o with
      | none => simp [zval, upd, Ne.symm hij]
      | some d => rfl
/-- one place of one cell gets a number -/
def zst (μ : zMem) (k j : Nat) (v : Int32) : zMem := fun a => if a = k then upd (μ k) j v else μ a
/-- one cell gets a row -/
def zrow (μ : zMem) (k : Nat) (r : Nat → Int32) : zMem := fun a => if a = k then r else μ a
theorem zwd_row {g : zG} {μ : zMem} {k : Nat} {r : Nat → Int32} {e : va_E} (h : k < 78) (he : zcell g k r = e) : (zwd g μ).set k (zad g k, e) = zwd g (zrow μ k r) := by
  apply List.ext_getElem?
  intro i
  rw [List.getElem?_set]
  by_cases hik : k = i
  · subst hik
    rw [zwd_at h, if_pos rfl]
    have : k < (zwd g μ).length := by simpa [zwd] using h
    rw [if_pos this, ← he]
    have h9 : zrow μ k r k = r := by unfold zrow; exact if_pos rfl
    rw [zwd_at h, h9]
  · rw [if_neg hik]
    by_cases hi : i < 78
    · rw [zwd_at hi, zwd_at hi]
      simp [zrow, Ne.symm hik]
    · have h1 : ∀ μ' : zMem, (zwd g μ')[i]? = none := fun μ' => List.getElem?_eq_none (by simp [zwd]; omega)
      rw [h1, h1]
theorem zst_row (μ : zMem) (k j : Nat) (v : Int32) : zst μ k j v = zrow μ k (upd (μ k) j v) := rfl
def ztys (g : zG) : List (ClassId × FieldType) := [(zcI g, .int), (zcT g, .object RX4), (zcS g, .object RX2)]
def zInj (g : zG) : Prop := ∀ i j, i < 78 → j < 78 → zad g i = zad g j → i = j
def zisN : Cond → Bool
  | .fieldLinkNest _ _ _ _ _ _ => true
  | .methodLinkNest _ _ _ _ => true
  | _ => false
def zNs (U : State) : Prop := ∀ w ∈ lw_tbl, zisN w = true → va_Nw w U
def zKw (g : zG) (U : State) : Prop := va_K (zD g) vwCl (ztys g) U ∧ zInj g ∧ zNs U
theorem zNs.warm {s U : State} (hW : s.WarmedH U.vm) (h : zNs s) : zNs U := by
  intro w hw hn
  have h1 := h w hw hn
  cases w <;> first | exact va_Nw.warmF hW h1 | exact va_Nw.warmM hW h1 | (exact absurd hn (by simp [zisN]))
theorem zNs.same {s U : State} (hv : s.vm = U.vm) (h : zNs s) : zNs U := by
  intro w hw hn
  have h1 := h w hw hn
  cases w <;> first | exact absurd hn Bool.false_ne_true | exact va_Nw.same rfl hv h1
theorem zKw.warm {g : zG} {s U : State} (hW : s.WarmedH U.vm) (h : zKw g s) : zKw g U := ⟨va_K.moved hW.alike h.1, h.2.1, h.2.2.warm hW⟩
theorem zKw.call {g : zG} {U : State} (f : JFrame) (mk : MethodId) (a : Array Value) (h : zKw g U) : zKw g (U.calling f mk a) := ⟨va_K.moved (u := U) (U := U.calling f mk a) (Vm.Alike.refl U.vm) h.1, h.2.1, zNs.same (s := U) rfl h.2.2⟩
/-- the literals, by their places: whose, which entry, the text, its bytes -/
def zsL : List (String × Nat × String × List Int32) := [("GroundTents$Tape", 62, "stiff", [115, 116, 105, 102, 102]), ("GroundTents$Tape", 64, "soft", [115, 111, 102, 116]), ("GroundTents$Tape", 66, "patched", [112, 97, 116, 99, 104, 101, 100]), ("GroundTents$Tape", 68, "chiefs", [99, 104, 105, 101, 102, 115]), ("GroundTents$Tape", 70, "old", [111, 108, 100]), ("GroundTents$Tape", 72, "laced", [108, 97, 99, 101, 100]), ("GroundTents$Tape", 74, "tent", [116, 101, 110, 116]), ("GroundTents$Tape", 99, "on", [111, 110]), ("GroundTents$Tape", 110, "worn", [119, 111, 114, 110]), ("GroundTents$Tape", 114, "felt", [102, 101, 108, 116]), ("GroundTents$Tape", 50, "height", [104, 101, 105, 103, 104, 116]), ("GroundTents$Tape", 55, "spring", [115, 112, 114, 105, 110, 103]), ("GroundTents$Tape", 60, "dry", [100, 114, 121]), ("GroundTentsModel", 282, "tent", [116, 101, 110, 116]), ("GroundTentsModel", 284, "stiff", [115, 116, 105, 102, 102]), ("GroundTentsModel", 286, "soft", [115, 111, 102, 116]), ("GroundTentsModel", 288, "patched", [112, 97, 116, 99, 104, 101, 100]), ("GroundTentsModel", 290, "chiefs", [99, 104, 105, 101, 102, 115]), ("GroundTentsModel", 292, "old", [111, 108, 100]), ("GroundTentsModel", 294, "laced", [108, 97, 99, 101, 100]), ("GroundTentsModel", 296, "on", [111, 110]), ("GroundTentsModel", 303, "worn", [119, 111, 114, 110]), ("GroundTentsModel", 305, "felt", [102, 101, 108, 116]), ("GroundTentsModel", 313, "height", [104, 101, 105, 103, 104, 116]), ("GroundTentsModel", 315, "spring", [115, 112, 114, 105, 110, 103]), ("GroundTentsModel", 320, "dry", [100, 114, 121]), ("GroundTentsModel", 325, ";", [59])]
def zso (i : Nat) : String := (zsL.getD i ("", 0, "", [])).1
def zsx (i : Nat) : Nat := (zsL.getD i ("", 0, "", [])).2.1
def zst_t (i : Nat) : String := (zsL.getD i ("", 0, "", [])).2.2.1
def zsb (i : Nat) : List Int32 := (zsL.getD i ("", 0, "", [])).2.2.2
def zSt (g : zG) (A : Nat → Prop) (U : State) (H : Heap) : Prop :=
  (va_Z "java/lang/String" "COMPACT_STRINGS" "Z" (.int 1) A U H ∧ va_Zq "jdk/internal/util/Preconditions" "SIOOBE_FORMATTER" "Ljava/util/function/BiFunction;" A U H) ∧ ∀ i : Nat, i < 27 → vk_R (zso i) (zsx i) (zst_t i) (zak g i) U ∧ va_O "java/lang/String" (zak g i) A U H ∧ va_OF "java/lang/String" "coder" "B" (.int 0) (zak g i) A U H ∧ va_OF "java/lang/String" "value" "[B" (.ref (zav g i)) (zak g i) A U H ∧ va_T .byte (zav g i) (zsb i).length (fun j => .int ((zsb i).getD j 0)) A U H
theorem zSt.kept {g : zG} {A : Nat → Prop} {U : State} {H H1 : Heap} (h : zSt g A U H) (hq : ∀ a : Nat, a < H.size → ¬ A a → H1[a]? = H[a]?) : zSt g A U H1 :=
  ⟨⟨h.1.1.kept hq, h.1.2.kept hq⟩, fun i hi => ⟨(h.2 i hi).1, (h.2 i hi).2.1.kept hq, (h.2 i hi).2.2.1.kept hq, (h.2 i hi).2.2.2.1.kept hq, (h.2 i hi).2.2.2.2.kept hq⟩⟩
theorem zSt.warm {g : zG} {A : Nat → Prop} {s U : State} {H : Heap} (hW : s.WarmedH U.vm) (h : zSt g A s H) : zSt g A U H :=
  ⟨⟨h.1.1.moved hW.alike, h.1.2.moved hW.alike⟩, fun i hi => ⟨(h.2 i hi).1.warm hW, va_O.moved hW.alike (h.2 i hi).2.1, va_OF.moved hW.alike (h.2 i hi).2.2.1, va_OF.moved hW.alike (h.2 i hi).2.2.2.1, va_T.moved hW.alike (h.2 i hi).2.2.2.2⟩⟩
theorem zSt.narrow {g : zG} {A B : Nat → Prop} {U : State} {H : Heap} (h : zSt g A U H) (hAB : ∀ q, B q → A q) : zSt g B U H :=
  ⟨⟨h.1.1.narrow hAB, h.1.2.narrow hAB⟩, fun i hi => ⟨(h.2 i hi).1, (h.2 i hi).2.1.narrow hAB, (h.2 i hi).2.2.1.narrow hAB, (h.2 i hi).2.2.2.1.narrow hAB, (h.2 i hi).2.2.2.2.narrow hAB⟩⟩
theorem zSt.call {g : zG} {A : Nat → Prop} {U : State} (f : JFrame) (mk : MethodId) (a : Array Value) (h : zSt g A U U.heap) : zSt g A (U.calling f mk a) (U.calling f mk a).heap :=
  have hv : U.vm.Alike (U.calling f mk a).vm := Vm.Alike.refl U.vm
  ⟨⟨h.1.1.moved hv, h.1.2.moved hv⟩, fun i hi => ⟨vk_R.same (u := U) rfl (h.2 i hi).1, va_O.moved hv (h.2 i hi).2.1, va_OF.moved hv (h.2 i hi).2.2.1, va_OF.moved hv (h.2 i hi).2.2.2.1, va_T.moved hv (h.2 i hi).2.2.2.2⟩⟩
def zA (g : zG) : Nat → Prop := fun q => ∃ k, k < 78 ∧ q = zad g k
def zWd (g : zG) (μ : zMem) (U : State) : Prop := va_P (zD g) vwCl (zwd g μ) U.heap ∧ zKw g U ∧ zSt g (zA g) U U.heap
theorem zWd_blind (g : zG) (μ : zMem) (As : List Value) : FrameBlind (va_Pc As (zWd g μ)) := fun a _ f mk q => ⟨q.1, q.2.1, q.2.2.1.call f mk a, q.2.2.2.call f mk a⟩
/-- the words that every method has -/
def zgw : List Cond := lw_tbl.filter goodWord
theorem zgw_good {w : Cond} (h : w ∈ zgw) : (w.onTables && w.keeps) = true ∨ ∃ ty, w = .arrayClass ty := good_of_word (List.mem_filter.mp h).2
theorem zgw_of {i : Nat} {w : Cond} (h : tables_1[i]? = some w) (hg : goodWord w = true) : w ∈ zgw := List.mem_filter.mpr ⟨List.mem_append_right _ (List.mem_of_getElem? h), hg⟩
theorem zgw_sel {i : Nat} {w : Cond} (h : (k2_sels lw_privs)[i]? = some w) (hg : goodWord w = true) : w ∈ zgw := List.mem_filter.mpr ⟨List.mem_append_left _ (List.mem_of_getElem? h), hg⟩
theorem zgw_in {y : MethodName} {cc : ByteArray} {n : Nat} {r : Option FieldType} (h : Cond.code y cc n r ∈ zgw) : GoodIn zgw (.code y cc n r :: zgw) := by
  intro w hw
  rcases List.mem_cons.mp hw with rfl | hw
  · exact ⟨h, zgw_good h⟩
  · exact ⟨hw, zgw_good hw⟩
abbrev zK : Type := (Program × Launch × Env × Room × State × MethodId) × (Array Value × List Frame × Method × Code) × (Nat × Nat × (State → Prop)) × (Nat → Prop)
def zV (g : zG) (κ : zK) (pc : Nat) (lv : List (Nat × Value)) (st : List Value) (μ : zMem) : Prop := match κ with
  | ((p, l, e, R, s, m), (args, below, meth, c), (cells, slots, Q), A) => ∀ (H : Heap) (locs : List Loc) (ls : Array Slot), va_P (zD g) vwCl (zwd g μ) H → va_S A s.heap H locs → lv_has ls c.maxLocals lv → W p l e R s m args below meth c H locs cells slots Q (F0 m pc ls st)
/-- what stands all through a method -/
def zC (g : zG) (κ : zK) (own : String) (cc : ByteArray) (nL d : Nat) : Prop := match κ with
  | ((p, _, _, R, s, m), (args, _, _, c), (cells, slots, _), A) => p.tables.exec = Jvm.exec ∧ c.code = cc ∧ c.maxLocals = nL ∧ s.vm.findClass own = some m.cls ∧ (∀ w ∈ zgw, w.before args s = true) ∧ zKw g s ∧ zSt g A s s.heap ∧ (∀ k, k < 78 → A (zad g k)) ∧ (d ≤ R.frames ∧ 40 * d ≤ R.locals) ∧ (cells ≤ R.cells ∧ slots ≤ R.slots)
theorem zD_of {g : zG} {A : Nat → Prop} {μ : zMem} (hI : zInj g) (hA : ∀ k, k < 78 → A (zad g k)) : va_D A (zwd g μ) := by
  refine ⟨fun i j p q hi hj hpq => ?_, fun k q hk => ?_⟩
  · obtain ⟨h1, rfl⟩ := zwd_get hi
    obtain ⟨h2, rfl⟩ := zwd_get hj
    exact hI i j h1 h2 hpq
  · obtain ⟨h1, rfl⟩ := zwd_get hk
    exact hA k h1
/-! contracts -/
abbrev zrm (d : Nat) : Room := { frames := d, cells := 0, slots := 0, locals := 40 * d }
def zTi (g : zG) (y : MethodName) (cc : ByteArray) (nL : Nat) (ty : FieldType) (d : Nat) (As : List Value) (μ : zMem) (Q : Int32 → zMem → Prop) : Prop :=
  ∀ l : Launch, Met l y (.code y cc nL (some ty) :: zgw) (zrm d) (va_Pc As (zWd g μ)) (va_Qi Q (zWd g) (zA g)) 0 0 (zA g)
def zTl (g : zG) (y : MethodName) (cc : ByteArray) (nL : Nat) (d : Nat) (As : List Value) (μ : zMem) (Q : Int64 → zMem → Prop) : Prop :=
  ∀ l : Launch, Met l y (.code y cc nL (some .long) :: zgw) (zrm d) (va_Pc As (zWd g μ)) (va_Ql Q (zWd g) (zA g)) 0 0 (zA g)
def zTv (g : zG) (y : MethodName) (cc : ByteArray) (nL : Nat) (d : Nat) (As : List Value) (μ : zMem) (Q : Unit → zMem → Prop) : Prop :=
  ∀ l : Launch, Met l y (.code y cc nL none :: zgw) (zrm d) (va_Pc As (zWd g μ)) (va_Qv (Q ()) (zWd g) (zA g)) 0 0 (zA g)
def zTs (g : zG) (y : MethodName) (cc : ByteArray) (nL : Nat) (ty : FieldType) (d : Nat) (As : List Value) (μ : zMem) (Q : Nat → zMem → Prop) : Prop :=
  ∀ l : Launch, Met l y (.code y cc nL (some ty) :: zgw) (zrm d) (va_Pc As (zWd g μ)) (va_Qr (S := Nat × zMem) (fun u => Q u.1 u.2) (fun u a t => a = zak g u.1 ∧ zWd g u.2 t) (zA g)) 0 0 (zA g)
theorem zWd_ret {g : zG} {μ : zMem} {s t : State} {H : Heap} {locs : List Loc} (hK : zKw g s) (hT : zSt g (zA g) s s.heap) (hP : va_P (zD g) vwCl (zwd g μ) H) (hS : va_S (zA g) s.heap H locs) (ht : t.heap = H) (hW : s.WarmedH t.vm) : zWd g μ t :=
  ⟨by rw [ht]; exact hP, hK.warm hW, by rw [ht]; exact (hT.warm hW).kept hS.2.1⟩
/-- a field's link: whose place, which class and field -/
def zFl (own : String) (idx c j : Nat) : Prop := ∃ (C : String) (T : u_T) (N : Nat), vwCl[c]? = some (C, T, N) ∧ j < N ∧ (∀ w ∈ u_ws C T N, w ∈ zgw) ∧ (Cond.fieldLink own idx (T j).1 (T j).2.1 (T j).2.2.1 ∈ zgw ∨ ∃ host, Cond.fieldLinkNest own idx (T j).1 (T j).2.1 (T j).2.2.1 host ∈ lw_tbl)
/-- that a class's field may be written, of which sort it is -/
def zFw (c j : Nat) (ty : FieldType) : Prop := ∀ (C : String) (T : u_T) (N : Nat), vwCl[c]? = some (C, T, N) → (T j).2.2.2 = false ∧ parseFieldDescriptor (T j).2.2.1 = some ty ∧ ∃ ty0 : Nat → FieldType, (∀ k, k < N → parseFieldDescriptor (T k).2.2.1 = some (ty0 k)) ∧ ∀ a, a < N → ∀ b, b < N → a ≠ b → (T a).2.1 ≠ (T b).2.1
/-- a method that can be called at a place -/
def zLk (own : String) (idx : Nat) (y : MethodName) (bytes : ByteArray) (maxL : Nat) (ret : Option FieldType) (n : Nat) : Prop :=
  (Cond.methodLink own idx y ∈ zgw ∨ ∃ host, Cond.methodLinkNest own idx y host ∈ lw_tbl) ∧ Cond.initialized y.cls ∈ zgw ∧ Cond.code y bytes maxL ret ∈ zgw ∧ (y.cls ≠ "java/lang/invoke/MethodHandle" ∧ y.cls ≠ "java/lang/invoke/VarHandle" ∧ (parseMethodDescriptor y.desc).map (fun d => d.parameters.length) = some n) ∧ maxL ≤ 21
def zLkS (own : String) (idx : Nat) (y : MethodName) (bytes : ByteArray) (maxL : Nat) (ret : Option FieldType) (n : Nat) : Prop := zLk own idx y bytes maxL ret n ∧ Cond.static y ∈ zgw
def zLkV (own : String) (idx : Nat) (y : MethodName) (bytes : ByteArray) (maxL : Nat) (ret : Option FieldType) (n c : Nat) : Prop := zLk own idx y bytes maxL ret n ∧ Cond.instanceMethod y ∈ zgw ∧ ∃ (C : String) (T : u_T) (N : Nat), vwCl[c]? = some (C, T, N) ∧ Cond.selects C y y ∈ zgw
