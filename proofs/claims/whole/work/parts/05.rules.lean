theorem zi_iconst {g : zG} {κ : zK} {own : String} {cc : ByteArray} {nL d : Nat} (X : zC g κ own cc nL d) {pc pc' : Nat} {lv : List (Nat × Value)} {st : List Value} {μ : zMem} {n : Int} {v : Int32} (hd : decode cc pc = .ok (.iconst n, 1)) (hp : pc + 1 = pc') (hv : Int32.ofInt n = v) (k : zV g κ pc' lv (.int v :: st) μ) : zV g κ pc lv st μ := by
  obtain ⟨⟨p, l, e, R, s, m⟩, ⟨args, below, meth, cx⟩, ⟨cells, slots, Q⟩, A⟩ := κ
  obtain ⟨hx, hb, hml, hown, hts, hKw, hSt, hA, hR, hC⟩ := X
  subst hp
  intro H locs ls hP hS hl
  exact lv_iconst hx hb hd hv (k H locs ls hP hS hl)
theorem zi_bipush {g : zG} {κ : zK} {own : String} {cc : ByteArray} {nL d : Nat} (X : zC g κ own cc nL d) {pc pc' : Nat} {lv : List (Nat × Value)} {st : List Value} {μ : zMem} {n : Int} {v : Int32} (hd : decode cc pc = .ok (.bipush n, 2)) (hp : pc + 2 = pc') (hv : (Int8.ofInt n).toInt32 = v) (k : zV g κ pc' lv (.int v :: st) μ) : zV g κ pc lv st μ := by
  obtain ⟨⟨p, l, e, R, s, m⟩, ⟨args, below, meth, cx⟩, ⟨cells, slots, Q⟩, A⟩ := κ
  obtain ⟨hx, hb, hml, hown, hts, hKw, hSt, hA, hR, hC⟩ := X
  subst hp
  intro H locs ls hP hS hl
  exact lv_bipush hx hb hd hv (k H locs ls hP hS hl)
theorem zi_sipush {g : zG} {κ : zK} {own : String} {cc : ByteArray} {nL d : Nat} (X : zC g κ own cc nL d) {pc pc' : Nat} {lv : List (Nat × Value)} {st : List Value} {μ : zMem} {n : Int} {v : Int32} (hd : decode cc pc = .ok (.sipush n, 3)) (hp : pc + 3 = pc') (hv : (Int16.ofInt n).toInt32 = v) (k : zV g κ pc' lv (.int v :: st) μ) : zV g κ pc lv st μ := by
  obtain ⟨⟨p, l, e, R, s, m⟩, ⟨args, below, meth, cx⟩, ⟨cells, slots, Q⟩, A⟩ := κ
  obtain ⟨hx, hb, hml, hown, hts, hKw, hSt, hA, hR, hC⟩ := X
  subst hp
  intro H locs ls hP hS hl
  exact lv_sipush hx hb hd hv (k H locs ls hP hS hl)
theorem zi_lconst {g : zG} {κ : zK} {own : String} {cc : ByteArray} {nL d : Nat} (X : zC g κ own cc nL d) {pc pc' : Nat} {lv : List (Nat × Value)} {st : List Value} {μ : zMem} {n : Fin 2} {v : Int64} (hd : decode cc pc = .ok (.lconst n, 1)) (hp : pc + 1 = pc') (hv : Int64.ofNat (n : Nat) = v) (k : zV g κ pc' lv (.long v :: st) μ) : zV g κ pc lv st μ := by
  obtain ⟨⟨p, l, e, R, s, m⟩, ⟨args, below, meth, cx⟩, ⟨cells, slots, Q⟩, A⟩ := κ
  obtain ⟨hx, hb, hml, hown, hts, hKw, hSt, hA, hR, hC⟩ := X
  subst hp
  intro H locs ls hP hS hl
  exact lv_lconst hx hb hd hv (k H locs ls hP hS hl)
theorem zi_ldc {g : zG} {κ : zK} {own : String} {cc : ByteArray} {nL d : Nat} (X : zC g κ own cc nL d) {pc pc' : Nat} {lv : List (Nat × Value)} {st : List Value} {μ : zMem} {idx : Nat} {v : Int32} (hd : decode cc pc = .ok (.ldc idx, 2)) (hp : pc + 2 = pc') (hc : Cond.constant own idx v ∈ zgw) (k : zV g κ pc' lv (.int v :: st) μ) : zV g κ pc lv st μ := by
  obtain ⟨⟨p, l, e, R, s, m⟩, ⟨args, below, meth, cx⟩, ⟨cells, slots, Q⟩, A⟩ := κ
  obtain ⟨hx, hb, hml, hown, hts, hKw, hSt, hA, hR, hC⟩ := X
  subst hp
  intro H locs ls hP hS hl
  exact lv_ldc hx hb hown (hts _ hc) hd (k H locs ls hP hS hl)
theorem zi_ldcw {g : zG} {κ : zK} {own : String} {cc : ByteArray} {nL d : Nat} (X : zC g κ own cc nL d) {pc pc' : Nat} {lv : List (Nat × Value)} {st : List Value} {μ : zMem} {idx : Nat} {v : Int32} (hd : decode cc pc = .ok (.ldc_w idx, 3)) (hp : pc + 3 = pc') (hc : Cond.constant own idx v ∈ zgw) (k : zV g κ pc' lv (.int v :: st) μ) : zV g κ pc lv st μ := by
  obtain ⟨⟨p, l, e, R, s, m⟩, ⟨args, below, meth, cx⟩, ⟨cells, slots, Q⟩, A⟩ := κ
  obtain ⟨hx, hb, hml, hown, hts, hKw, hSt, hA, hR, hC⟩ := X
  subst hp
  intro H locs ls hP hS hl
  exact lv_ldcw hx hb hown (hts _ hc) hd (k H locs ls hP hS hl)
theorem zi_ldc2 {g : zG} {κ : zK} {own : String} {cc : ByteArray} {nL d : Nat} (X : zC g κ own cc nL d) {pc pc' : Nat} {lv : List (Nat × Value)} {st : List Value} {μ : zMem} {idx : Nat} {v : Int64} (hd : decode cc pc = .ok (.ldc2_w idx, 3)) (hp : pc + 3 = pc') (hc : Cond.constantLong own idx v ∈ zgw) (k : zV g κ pc' lv (.long v :: st) μ) : zV g κ pc lv st μ := by
  obtain ⟨⟨p, l, e, R, s, m⟩, ⟨args, below, meth, cx⟩, ⟨cells, slots, Q⟩, A⟩ := κ
  obtain ⟨hx, hb, hml, hown, hts, hKw, hSt, hA, hR, hC⟩ := X
  subst hp
  intro H locs ls hP hS hl
  exact lv_ldc2 hx hb hown (hts _ hc) hd (k H locs ls hP hS hl)
theorem zi_iload_n {g : zG} {κ : zK} {own : String} {cc : ByteArray} {nL d : Nat} (X : zC g κ own cc nL d) {pc pc' : Nat} {lv : List (Nat × Value)} {st : List Value} {μ : zMem} {n : Fin 4} {i : Nat} {x : Int32} (hd : decode cc pc = .ok (.iload_n n, 1)) (hp : pc + 1 = pc') (hi : (n : Nat) = i) (j : Nat) (hj : lv[j]? = some (i, .int x)) (k : zV g κ pc' lv (.int x :: st) μ) : zV g κ pc lv st μ := by
  obtain ⟨⟨p, l, e, R, s, m⟩, ⟨args, below, meth, cx⟩, ⟨cells, slots, Q⟩, A⟩ := κ
  obtain ⟨hx, hb, hml, hown, hts, hKw, hSt, hA, hR, hC⟩ := X
  subst hp
  intro H locs ls hP hS hl
  exact lv_iload_n hx hb hd hi (lv_at hl j hj) (k H locs ls hP hS hl)
theorem zi_iload {g : zG} {κ : zK} {own : String} {cc : ByteArray} {nL d : Nat} (X : zC g κ own cc nL d) {pc pc' : Nat} {lv : List (Nat × Value)} {st : List Value} {μ : zMem} {i : Nat} {x : Int32} (hd : decode cc pc = .ok (.iload i, 2)) (hp : pc + 2 = pc') (j : Nat) (hj : lv[j]? = some (i, .int x)) (k : zV g κ pc' lv (.int x :: st) μ) : zV g κ pc lv st μ := by
  obtain ⟨⟨p, l, e, R, s, m⟩, ⟨args, below, meth, cx⟩, ⟨cells, slots, Q⟩, A⟩ := κ
  obtain ⟨hx, hb, hml, hown, hts, hKw, hSt, hA, hR, hC⟩ := X
  subst hp
  intro H locs ls hP hS hl
  exact lv_iload hx hb hd (lv_at hl j hj) (k H locs ls hP hS hl)
theorem zi_lload_n {g : zG} {κ : zK} {own : String} {cc : ByteArray} {nL d : Nat} (X : zC g κ own cc nL d) {pc pc' : Nat} {lv : List (Nat × Value)} {st : List Value} {μ : zMem} {n : Fin 4} {i : Nat} {x : Int64} (hd : decode cc pc = .ok (.lload_n n, 1)) (hp : pc + 1 = pc') (hi : (n : Nat) = i) (j : Nat) (hj : lv[j]? = some (i, .long x)) (k : zV g κ pc' lv (.long x :: st) μ) : zV g κ pc lv st μ := by
  obtain ⟨⟨p, l, e, R, s, m⟩, ⟨args, below, meth, cx⟩, ⟨cells, slots, Q⟩, A⟩ := κ
  obtain ⟨hx, hb, hml, hown, hts, hKw, hSt, hA, hR, hC⟩ := X
  subst hp
  intro H locs ls hP hS hl
  exact lv_lload_n hx hb hd hi (lv_at hl j hj) (k H locs ls hP hS hl)
theorem zi_lload {g : zG} {κ : zK} {own : String} {cc : ByteArray} {nL d : Nat} (X : zC g κ own cc nL d) {pc pc' : Nat} {lv : List (Nat × Value)} {st : List Value} {μ : zMem} {i : Nat} {x : Int64} (hd : decode cc pc = .ok (.lload i, 2)) (hp : pc + 2 = pc') (j : Nat) (hj : lv[j]? = some (i, .long x)) (k : zV g κ pc' lv (.long x :: st) μ) : zV g κ pc lv st μ := by
  obtain ⟨⟨p, l, e, R, s, m⟩, ⟨args, below, meth, cx⟩, ⟨cells, slots, Q⟩, A⟩ := κ
  obtain ⟨hx, hb, hml, hown, hts, hKw, hSt, hA, hR, hC⟩ := X
  subst hp
  intro H locs ls hP hS hl
  exact lv_lload hx hb hd (lv_at hl j hj) (k H locs ls hP hS hl)
theorem zi_aload_n {g : zG} {κ : zK} {own : String} {cc : ByteArray} {nL d : Nat} (X : zC g κ own cc nL d) {pc pc' : Nat} {lv : List (Nat × Value)} {st : List Value} {μ : zMem} {n : Fin 4} {i : Nat} {x : Nat} (hd : decode cc pc = .ok (.aload_n n, 1)) (hp : pc + 1 = pc') (hi : (n : Nat) = i) (j : Nat) (hj : lv[j]? = some (i, .ref x)) (k : zV g κ pc' lv (.ref x :: st) μ) : zV g κ pc lv st μ := by
  obtain ⟨⟨p, l, e, R, s, m⟩, ⟨args, below, meth, cx⟩, ⟨cells, slots, Q⟩, A⟩ := κ
  obtain ⟨hx, hb, hml, hown, hts, hKw, hSt, hA, hR, hC⟩ := X
  subst hp
  intro H locs ls hP hS hl
  exact lv_aload_n hx hb hd hi (lv_at hl j hj) (k H locs ls hP hS hl)
theorem zi_aload {g : zG} {κ : zK} {own : String} {cc : ByteArray} {nL d : Nat} (X : zC g κ own cc nL d) {pc pc' : Nat} {lv : List (Nat × Value)} {st : List Value} {μ : zMem} {i : Nat} {x : Nat} (hd : decode cc pc = .ok (.aload i, 2)) (hp : pc + 2 = pc') (j : Nat) (hj : lv[j]? = some (i, .ref x)) (k : zV g κ pc' lv (.ref x :: st) μ) : zV g κ pc lv st μ := by
  obtain ⟨⟨p, l, e, R, s, m⟩, ⟨args, below, meth, cx⟩, ⟨cells, slots, Q⟩, A⟩ := κ
  obtain ⟨hx, hb, hml, hown, hts, hKw, hSt, hA, hR, hC⟩ := X
  subst hp
  intro H locs ls hP hS hl
  exact lv_aload hx hb hd (lv_at hl j hj) (k H locs ls hP hS hl)
theorem zi_istore_n {g : zG} {κ : zK} {own : String} {cc : ByteArray} {nL d : Nat} (X : zC g κ own cc nL d) {pc pc' : Nat} {lv : List (Nat × Value)} {st : List Value} {μ : zMem} {n : Fin 4} {i : Nat} {x : Int32} (hd : decode cc pc = .ok (.istore_n n, 1)) (hp : pc + 1 = pc') (hi : (n : Nat) = i) (hn : i < nL) (lv' : List (Nat × Value)) (hl' : (i, Value.int x) :: lv.filter (fun q => !(q.1 == i) && !(q.1 + 1 == i && q.2.category == 2)) = lv') (k : zV g κ pc' lv' st μ) : zV g κ pc lv (.int x :: st) μ := by
  obtain ⟨⟨p, l, e, R, s, m⟩, ⟨args, below, meth, cx⟩, ⟨cells, slots, Q⟩, A⟩ := κ
  obtain ⟨hx, hb, hml, hown, hts, hKw, hSt, hA, hR, hC⟩ := X
  subst hp
  intro H locs ls hP hS hl
  exact lv_istore_n hx hb hd hi hl (by rw [hml]; exact hn) hl' (fun ls hl => k H locs ls hP hS hl)
theorem zi_istore {g : zG} {κ : zK} {own : String} {cc : ByteArray} {nL d : Nat} (X : zC g κ own cc nL d) {pc pc' : Nat} {lv : List (Nat × Value)} {st : List Value} {μ : zMem} {i : Nat} {x : Int32} (hd : decode cc pc = .ok (.istore i, 2)) (hp : pc + 2 = pc') (hn : i < nL) (lv' : List (Nat × Value)) (hl' : (i, Value.int x) :: lv.filter (fun q => !(q.1 == i) && !(q.1 + 1 == i && q.2.category == 2)) = lv') (k : zV g κ pc' lv' st μ) : zV g κ pc lv (.int x :: st) μ := by
  obtain ⟨⟨p, l, e, R, s, m⟩, ⟨args, below, meth, cx⟩, ⟨cells, slots, Q⟩, A⟩ := κ
  obtain ⟨hx, hb, hml, hown, hts, hKw, hSt, hA, hR, hC⟩ := X
  subst hp
  intro H locs ls hP hS hl
  exact lv_istore hx hb hd hl (by rw [hml]; exact hn) hl' (fun ls hl => k H locs ls hP hS hl)
theorem zi_lstore_n {g : zG} {κ : zK} {own : String} {cc : ByteArray} {nL d : Nat} (X : zC g κ own cc nL d) {pc pc' : Nat} {lv : List (Nat × Value)} {st : List Value} {μ : zMem} {n : Fin 4} {i : Nat} {x : Int64} (hd : decode cc pc = .ok (.lstore_n n, 1)) (hp : pc + 1 = pc') (hi : (n : Nat) = i) (hn : i + 1 < nL) (lv' : List (Nat × Value)) (hl' : (i, Value.long x) :: lv.filter (fun q => !(q.1 == i) && (!(q.1 == i + 1) && !(q.1 + 1 == i && q.2.category == 2))) = lv') (k : zV g κ pc' lv' st μ) : zV g κ pc lv (.long x :: st) μ := by
  obtain ⟨⟨p, l, e, R, s, m⟩, ⟨args, below, meth, cx⟩, ⟨cells, slots, Q⟩, A⟩ := κ
  obtain ⟨hx, hb, hml, hown, hts, hKw, hSt, hA, hR, hC⟩ := X
  subst hp
  intro H locs ls hP hS hl
  exact lv_lstore_n hx hb hd hi hl (by rw [hml]; exact hn) hl' (fun ls hl => k H locs ls hP hS hl)
theorem zi_lstore {g : zG} {κ : zK} {own : String} {cc : ByteArray} {nL d : Nat} (X : zC g κ own cc nL d) {pc pc' : Nat} {lv : List (Nat × Value)} {st : List Value} {μ : zMem} {i : Nat} {x : Int64} (hd : decode cc pc = .ok (.lstore i, 2)) (hp : pc + 2 = pc') (hn : i + 1 < nL) (lv' : List (Nat × Value)) (hl' : (i, Value.long x) :: lv.filter (fun q => !(q.1 == i) && (!(q.1 == i + 1) && !(q.1 + 1 == i && q.2.category == 2))) = lv') (k : zV g κ pc' lv' st μ) : zV g κ pc lv (.long x :: st) μ := by
  obtain ⟨⟨p, l, e, R, s, m⟩, ⟨args, below, meth, cx⟩, ⟨cells, slots, Q⟩, A⟩ := κ
  obtain ⟨hx, hb, hml, hown, hts, hKw, hSt, hA, hR, hC⟩ := X
  subst hp
  intro H locs ls hP hS hl
  exact lv_lstore hx hb hd hl (by rw [hml]; exact hn) hl' (fun ls hl => k H locs ls hP hS hl)
theorem zi_astore_n {g : zG} {κ : zK} {own : String} {cc : ByteArray} {nL d : Nat} (X : zC g κ own cc nL d) {pc pc' : Nat} {lv : List (Nat × Value)} {st : List Value} {μ : zMem} {n : Fin 4} {i : Nat} {x : Nat} (hd : decode cc pc = .ok (.astore_n n, 1)) (hp : pc + 1 = pc') (hi : (n : Nat) = i) (hn : i < nL) (lv' : List (Nat × Value)) (hl' : (i, Value.ref x) :: lv.filter (fun q => !(q.1 == i) && !(q.1 + 1 == i && q.2.category == 2)) = lv') (k : zV g κ pc' lv' st μ) : zV g κ pc lv (.ref x :: st) μ := by
  obtain ⟨⟨p, l, e, R, s, m⟩, ⟨args, below, meth, cx⟩, ⟨cells, slots, Q⟩, A⟩ := κ
  obtain ⟨hx, hb, hml, hown, hts, hKw, hSt, hA, hR, hC⟩ := X
  subst hp
  intro H locs ls hP hS hl
  exact lv_astore_n hx hb hd hi hl (by rw [hml]; exact hn) hl' (fun ls hl => k H locs ls hP hS hl)
theorem zi_astore {g : zG} {κ : zK} {own : String} {cc : ByteArray} {nL d : Nat} (X : zC g κ own cc nL d) {pc pc' : Nat} {lv : List (Nat × Value)} {st : List Value} {μ : zMem} {i : Nat} {x : Nat} (hd : decode cc pc = .ok (.astore i, 2)) (hp : pc + 2 = pc') (hn : i < nL) (lv' : List (Nat × Value)) (hl' : (i, Value.ref x) :: lv.filter (fun q => !(q.1 == i) && !(q.1 + 1 == i && q.2.category == 2)) = lv') (k : zV g κ pc' lv' st μ) : zV g κ pc lv (.ref x :: st) μ := by
  obtain ⟨⟨p, l, e, R, s, m⟩, ⟨args, below, meth, cx⟩, ⟨cells, slots, Q⟩, A⟩ := κ
  obtain ⟨hx, hb, hml, hown, hts, hKw, hSt, hA, hR, hC⟩ := X
  subst hp
  intro H locs ls hP hS hl
  exact lv_astore hx hb hd hl (by rw [hml]; exact hn) hl' (fun ls hl => k H locs ls hP hS hl)
theorem zi_iinc {g : zG} {κ : zK} {own : String} {cc : ByteArray} {nL d : Nat} (X : zC g κ own cc nL d) {pc pc' : Nat} {lv : List (Nat × Value)} {st : List Value} {μ : zMem} {i : Nat} {n : Int} {x v : Int32} (hd : decode cc pc = .ok (.iinc i n, 3)) (hp : pc + 3 = pc') (j : Nat) (hj : lv[j]? = some (i, .int x)) (hv : x + Int32.ofInt n = v) (hn : i < nL) (lv' : List (Nat × Value)) (hl' : (i, Value.int v) :: lv.filter (fun q => !(q.1 == i) && !(q.1 + 1 == i && q.2.category == 2)) = lv') (k : zV g κ pc' lv' st μ) : zV g κ pc lv st μ := by
  obtain ⟨⟨p, l, e, R, s, m⟩, ⟨args, below, meth, cx⟩, ⟨cells, slots, Q⟩, A⟩ := κ
  obtain ⟨hx, hb, hml, hown, hts, hKw, hSt, hA, hR, hC⟩ := X
  subst hp
  intro H locs ls hP hS hl
  exact lv_iinc hx hb hd hl hj hv (by rw [hml]; exact hn) hl' (fun ls hl => k H locs ls hP hS hl)
theorem zi_iadd {g : zG} {κ : zK} {own : String} {cc : ByteArray} {nL d : Nat} (X : zC g κ own cc nL d) {pc pc' : Nat} {lv : List (Nat × Value)} {st : List Value} {μ : zMem} {x y : Int32} (hd : decode cc pc = .ok (.iadd, 1)) (hp : pc + 1 = pc')  (k : zV g κ pc' lv (.int (x + y) :: st) μ) : zV g κ pc lv (.int y :: .int x :: st) μ := by
  obtain ⟨⟨p, l, e, R, s, m⟩, ⟨args, below, meth, cx⟩, ⟨cells, slots, Q⟩, A⟩ := κ
  obtain ⟨hx, hb, hml, hown, hts, hKw, hSt, hA, hR, hC⟩ := X
  subst hp
  intro H locs ls hP hS hl
  exact lv_iadd hx hb hd (k H locs ls hP hS hl)
theorem zi_isub {g : zG} {κ : zK} {own : String} {cc : ByteArray} {nL d : Nat} (X : zC g κ own cc nL d) {pc pc' : Nat} {lv : List (Nat × Value)} {st : List Value} {μ : zMem} {x y : Int32} (hd : decode cc pc = .ok (.isub, 1)) (hp : pc + 1 = pc')  (k : zV g κ pc' lv (.int (x - y) :: st) μ) : zV g κ pc lv (.int y :: .int x :: st) μ := by
  obtain ⟨⟨p, l, e, R, s, m⟩, ⟨args, below, meth, cx⟩, ⟨cells, slots, Q⟩, A⟩ := κ
  obtain ⟨hx, hb, hml, hown, hts, hKw, hSt, hA, hR, hC⟩ := X
  subst hp
  intro H locs ls hP hS hl
  exact lv_isub hx hb hd (k H locs ls hP hS hl)
theorem zi_imul {g : zG} {κ : zK} {own : String} {cc : ByteArray} {nL d : Nat} (X : zC g κ own cc nL d) {pc pc' : Nat} {lv : List (Nat × Value)} {st : List Value} {μ : zMem} {x y : Int32} (hd : decode cc pc = .ok (.imul, 1)) (hp : pc + 1 = pc')  (k : zV g κ pc' lv (.int (x * y) :: st) μ) : zV g κ pc lv (.int y :: .int x :: st) μ := by
  obtain ⟨⟨p, l, e, R, s, m⟩, ⟨args, below, meth, cx⟩, ⟨cells, slots, Q⟩, A⟩ := κ
  obtain ⟨hx, hb, hml, hown, hts, hKw, hSt, hA, hR, hC⟩ := X
  subst hp
  intro H locs ls hP hS hl
  exact lv_imul hx hb hd (k H locs ls hP hS hl)
theorem zi_iand {g : zG} {κ : zK} {own : String} {cc : ByteArray} {nL d : Nat} (X : zC g κ own cc nL d) {pc pc' : Nat} {lv : List (Nat × Value)} {st : List Value} {μ : zMem} {x y : Int32} (hd : decode cc pc = .ok (.iand, 1)) (hp : pc + 1 = pc')  (k : zV g κ pc' lv (.int (x &&& y) :: st) μ) : zV g κ pc lv (.int y :: .int x :: st) μ := by
  obtain ⟨⟨p, l, e, R, s, m⟩, ⟨args, below, meth, cx⟩, ⟨cells, slots, Q⟩, A⟩ := κ
  obtain ⟨hx, hb, hml, hown, hts, hKw, hSt, hA, hR, hC⟩ := X
  subst hp
  intro H locs ls hP hS hl
  exact lv_iand hx hb hd (k H locs ls hP hS hl)
theorem zi_ior {g : zG} {κ : zK} {own : String} {cc : ByteArray} {nL d : Nat} (X : zC g κ own cc nL d) {pc pc' : Nat} {lv : List (Nat × Value)} {st : List Value} {μ : zMem} {x y : Int32} (hd : decode cc pc = .ok (.ior, 1)) (hp : pc + 1 = pc')  (k : zV g κ pc' lv (.int (x ||| y) :: st) μ) : zV g κ pc lv (.int y :: .int x :: st) μ := by
  obtain ⟨⟨p, l, e, R, s, m⟩, ⟨args, below, meth, cx⟩, ⟨cells, slots, Q⟩, A⟩ := κ
  obtain ⟨hx, hb, hml, hown, hts, hKw, hSt, hA, hR, hC⟩ := X
  subst hp
  intro H locs ls hP hS hl
  exact lv_ior hx hb hd (k H locs ls hP hS hl)
theorem zi_ixor {g : zG} {κ : zK} {own : String} {cc : ByteArray} {nL d : Nat} (X : zC g κ own cc nL d) {pc pc' : Nat} {lv : List (Nat × Value)} {st : List Value} {μ : zMem} {x y : Int32} (hd : decode cc pc = .ok (.ixor, 1)) (hp : pc + 1 = pc')  (k : zV g κ pc' lv (.int (x ^^^ y) :: st) μ) : zV g κ pc lv (.int y :: .int x :: st) μ := by
  obtain ⟨⟨p, l, e, R, s, m⟩, ⟨args, below, meth, cx⟩, ⟨cells, slots, Q⟩, A⟩ := κ
  obtain ⟨hx, hb, hml, hown, hts, hKw, hSt, hA, hR, hC⟩ := X
  subst hp
  intro H locs ls hP hS hl
  exact lv_ixor hx hb hd (k H locs ls hP hS hl)
theorem zi_ishl {g : zG} {κ : zK} {own : String} {cc : ByteArray} {nL d : Nat} (X : zC g κ own cc nL d) {pc pc' : Nat} {lv : List (Nat × Value)} {st : List Value} {μ : zMem} {x y : Int32} (hd : decode cc pc = .ok (.ishl, 1)) (hp : pc + 1 = pc')  (k : zV g κ pc' lv (.int (x <<< (y &&& 31)) :: st) μ) : zV g κ pc lv (.int y :: .int x :: st) μ := by
  obtain ⟨⟨p, l, e, R, s, m⟩, ⟨args, below, meth, cx⟩, ⟨cells, slots, Q⟩, A⟩ := κ
  obtain ⟨hx, hb, hml, hown, hts, hKw, hSt, hA, hR, hC⟩ := X
  subst hp
  intro H locs ls hP hS hl
  exact lv_ishl hx hb hd (k H locs ls hP hS hl)
theorem zi_ishr {g : zG} {κ : zK} {own : String} {cc : ByteArray} {nL d : Nat} (X : zC g κ own cc nL d) {pc pc' : Nat} {lv : List (Nat × Value)} {st : List Value} {μ : zMem} {x y : Int32} (hd : decode cc pc = .ok (.ishr, 1)) (hp : pc + 1 = pc')  (k : zV g κ pc' lv (.int (x >>> (y &&& 31)) :: st) μ) : zV g κ pc lv (.int y :: .int x :: st) μ := by
  obtain ⟨⟨p, l, e, R, s, m⟩, ⟨args, below, meth, cx⟩, ⟨cells, slots, Q⟩, A⟩ := κ
  obtain ⟨hx, hb, hml, hown, hts, hKw, hSt, hA, hR, hC⟩ := X
  subst hp
  intro H locs ls hP hS hl
  exact lv_ishr hx hb hd (k H locs ls hP hS hl)
theorem zi_iushr {g : zG} {κ : zK} {own : String} {cc : ByteArray} {nL d : Nat} (X : zC g κ own cc nL d) {pc pc' : Nat} {lv : List (Nat × Value)} {st : List Value} {μ : zMem} {x y : Int32} (hd : decode cc pc = .ok (.iushr, 1)) (hp : pc + 1 = pc')  (k : zV g κ pc' lv (.int ((x.toUInt32 >>> (y.toUInt32 &&& Int32.toUInt32 31)).toInt32) :: st) μ) : zV g κ pc lv (.int y :: .int x :: st) μ := by
  obtain ⟨⟨p, l, e, R, s, m⟩, ⟨args, below, meth, cx⟩, ⟨cells, slots, Q⟩, A⟩ := κ
  obtain ⟨hx, hb, hml, hown, hts, hKw, hSt, hA, hR, hC⟩ := X
  subst hp
  intro H locs ls hP hS hl
  exact lv_iushr hx hb hd rfl (k H locs ls hP hS hl)
theorem zi_idiv {g : zG} {κ : zK} {own : String} {cc : ByteArray} {nL d : Nat} (X : zC g κ own cc nL d) {pc pc' : Nat} {lv : List (Nat × Value)} {st : List Value} {μ : zMem} {x y : Int32} (hd : decode cc pc = .ok (.idiv, 1)) (hp : pc + 1 = pc') (hne : ¬ y = 0) (k : zV g κ pc' lv (.int (x / y) :: st) μ) : zV g κ pc lv (.int y :: .int x :: st) μ := by
  obtain ⟨⟨p, l, e, R, s, m⟩, ⟨args, below, meth, cx⟩, ⟨cells, slots, Q⟩, A⟩ := κ
  obtain ⟨hx, hb, hml, hown, hts, hKw, hSt, hA, hR, hC⟩ := X
  subst hp
  intro H locs ls hP hS hl
  exact lv_idiv hx hb hd hne (k H locs ls hP hS hl)
theorem zi_irem {g : zG} {κ : zK} {own : String} {cc : ByteArray} {nL d : Nat} (X : zC g κ own cc nL d) {pc pc' : Nat} {lv : List (Nat × Value)} {st : List Value} {μ : zMem} {x y : Int32} (hd : decode cc pc = .ok (.irem, 1)) (hp : pc + 1 = pc') (hne : ¬ y = 0) (k : zV g κ pc' lv (.int (x - x / y * y) :: st) μ) : zV g κ pc lv (.int y :: .int x :: st) μ := by
  obtain ⟨⟨p, l, e, R, s, m⟩, ⟨args, below, meth, cx⟩, ⟨cells, slots, Q⟩, A⟩ := κ
  obtain ⟨hx, hb, hml, hown, hts, hKw, hSt, hA, hR, hC⟩ := X
  subst hp
  intro H locs ls hP hS hl
  exact lv_irem hx hb hd hne (k H locs ls hP hS hl)
theorem zi_ladd {g : zG} {κ : zK} {own : String} {cc : ByteArray} {nL d : Nat} (X : zC g κ own cc nL d) {pc pc' : Nat} {lv : List (Nat × Value)} {st : List Value} {μ : zMem} {x y : Int64} (hd : decode cc pc = .ok (.ladd, 1)) (hp : pc + 1 = pc')  (k : zV g κ pc' lv (.long (x + y) :: st) μ) : zV g κ pc lv (.long y :: .long x :: st) μ := by
  obtain ⟨⟨p, l, e, R, s, m⟩, ⟨args, below, meth, cx⟩, ⟨cells, slots, Q⟩, A⟩ := κ
  obtain ⟨hx, hb, hml, hown, hts, hKw, hSt, hA, hR, hC⟩ := X
  subst hp
  intro H locs ls hP hS hl
  exact lv_ladd hx hb hd (k H locs ls hP hS hl)
theorem zi_lmul {g : zG} {κ : zK} {own : String} {cc : ByteArray} {nL d : Nat} (X : zC g κ own cc nL d) {pc pc' : Nat} {lv : List (Nat × Value)} {st : List Value} {μ : zMem} {x y : Int64} (hd : decode cc pc = .ok (.lmul, 1)) (hp : pc + 1 = pc')  (k : zV g κ pc' lv (.long (x * y) :: st) μ) : zV g κ pc lv (.long y :: .long x :: st) μ := by
  obtain ⟨⟨p, l, e, R, s, m⟩, ⟨args, below, meth, cx⟩, ⟨cells, slots, Q⟩, A⟩ := κ
  obtain ⟨hx, hb, hml, hown, hts, hKw, hSt, hA, hR, hC⟩ := X
  subst hp
  intro H locs ls hP hS hl
  exact lv_lmul hx hb hd (k H locs ls hP hS hl)
theorem zi_ldiv {g : zG} {κ : zK} {own : String} {cc : ByteArray} {nL d : Nat} (X : zC g κ own cc nL d) {pc pc' : Nat} {lv : List (Nat × Value)} {st : List Value} {μ : zMem} {x y : Int64} (hd : decode cc pc = .ok (.ldiv, 1)) (hp : pc + 1 = pc') (hne : ¬ y = 0) (k : zV g κ pc' lv (.long (x / y) :: st) μ) : zV g κ pc lv (.long y :: .long x :: st) μ := by
  obtain ⟨⟨p, l, e, R, s, m⟩, ⟨args, below, meth, cx⟩, ⟨cells, slots, Q⟩, A⟩ := κ
  obtain ⟨hx, hb, hml, hown, hts, hKw, hSt, hA, hR, hC⟩ := X
  subst hp
  intro H locs ls hP hS hl
  exact lv_ldiv hx hb hd hne (k H locs ls hP hS hl)
theorem zi_lrem {g : zG} {κ : zK} {own : String} {cc : ByteArray} {nL d : Nat} (X : zC g κ own cc nL d) {pc pc' : Nat} {lv : List (Nat × Value)} {st : List Value} {μ : zMem} {x y : Int64} (hd : decode cc pc = .ok (.lrem, 1)) (hp : pc + 1 = pc') (hne : ¬ y = 0) (k : zV g κ pc' lv (.long (x - x / y * y) :: st) μ) : zV g κ pc lv (.long y :: .long x :: st) μ := by
  obtain ⟨⟨p, l, e, R, s, m⟩, ⟨args, below, meth, cx⟩, ⟨cells, slots, Q⟩, A⟩ := κ
  obtain ⟨hx, hb, hml, hown, hts, hKw, hSt, hA, hR, hC⟩ := X
  subst hp
  intro H locs ls hP hS hl
  exact lv_lrem hx hb hd hne (k H locs ls hP hS hl)
theorem zi_lcmp {g : zG} {κ : zK} {own : String} {cc : ByteArray} {nL d : Nat} (X : zC g κ own cc nL d) {pc pc' : Nat} {lv : List (Nat × Value)} {st : List Value} {μ : zMem} {x y : Int64} (hd : decode cc pc = .ok (.lcmp, 1)) (hp : pc + 1 = pc')  (k : zV g κ pc' lv (.int (lg_cmp x y) :: st) μ) : zV g κ pc lv (.long y :: .long x :: st) μ := by
  obtain ⟨⟨p, l, e, R, s, m⟩, ⟨args, below, meth, cx⟩, ⟨cells, slots, Q⟩, A⟩ := κ
  obtain ⟨hx, hb, hml, hown, hts, hKw, hSt, hA, hR, hC⟩ := X
  subst hp
  intro H locs ls hP hS hl
  exact W.lcmp hx hb hd (k H locs ls hP hS hl)
theorem zi_i2l {g : zG} {κ : zK} {own : String} {cc : ByteArray} {nL d : Nat} (X : zC g κ own cc nL d) {pc pc' : Nat} {lv : List (Nat × Value)} {st : List Value} {μ : zMem} {x : Int32} (hd : decode cc pc = .ok (.i2l, 1)) (hp : pc + 1 = pc')  (k : zV g κ pc' lv (.long x.toInt64 :: st) μ) : zV g κ pc lv (.int x :: st) μ := by
  obtain ⟨⟨p, l, e, R, s, m⟩, ⟨args, below, meth, cx⟩, ⟨cells, slots, Q⟩, A⟩ := κ
  obtain ⟨hx, hb, hml, hown, hts, hKw, hSt, hA, hR, hC⟩ := X
  subst hp
  intro H locs ls hP hS hl
  exact lv_i2l hx hb hd rfl (k H locs ls hP hS hl)
theorem zi_l2i {g : zG} {κ : zK} {own : String} {cc : ByteArray} {nL d : Nat} (X : zC g κ own cc nL d) {pc pc' : Nat} {lv : List (Nat × Value)} {st : List Value} {μ : zMem} {x : Int64} (hd : decode cc pc = .ok (.l2i, 1)) (hp : pc + 1 = pc')  (k : zV g κ pc' lv (.int x.toInt32 :: st) μ) : zV g κ pc lv (.long x :: st) μ := by
  obtain ⟨⟨p, l, e, R, s, m⟩, ⟨args, below, meth, cx⟩, ⟨cells, slots, Q⟩, A⟩ := κ
  obtain ⟨hx, hb, hml, hown, hts, hKw, hSt, hA, hR, hC⟩ := X
  subst hp
  intro H locs ls hP hS hl
  exact lv_l2i hx hb hd rfl (k H locs ls hP hS hl)
theorem zi_i2b {g : zG} {κ : zK} {own : String} {cc : ByteArray} {nL d : Nat} (X : zC g κ own cc nL d) {pc pc' : Nat} {lv : List (Nat × Value)} {st : List Value} {μ : zMem} {x : Int32} (hd : decode cc pc = .ok (.i2b, 1)) (hp : pc + 1 = pc')  (k : zV g κ pc' lv (.int x.toInt8.toInt32 :: st) μ) : zV g κ pc lv (.int x :: st) μ := by
  obtain ⟨⟨p, l, e, R, s, m⟩, ⟨args, below, meth, cx⟩, ⟨cells, slots, Q⟩, A⟩ := κ
  obtain ⟨hx, hb, hml, hown, hts, hKw, hSt, hA, hR, hC⟩ := X
  subst hp
  intro H locs ls hP hS hl
  exact lv_i2b hx hb hd rfl (k H locs ls hP hS hl)
theorem zi_i2s {g : zG} {κ : zK} {own : String} {cc : ByteArray} {nL d : Nat} (X : zC g κ own cc nL d) {pc pc' : Nat} {lv : List (Nat × Value)} {st : List Value} {μ : zMem} {x : Int32} (hd : decode cc pc = .ok (.i2s, 1)) (hp : pc + 1 = pc')  (k : zV g κ pc' lv (.int x.toInt16.toInt32 :: st) μ) : zV g κ pc lv (.int x :: st) μ := by
  obtain ⟨⟨p, l, e, R, s, m⟩, ⟨args, below, meth, cx⟩, ⟨cells, slots, Q⟩, A⟩ := κ
  obtain ⟨hx, hb, hml, hown, hts, hKw, hSt, hA, hR, hC⟩ := X
  subst hp
  intro H locs ls hP hS hl
  exact lv_i2s hx hb hd rfl (k H locs ls hP hS hl)
theorem zi_i2c {g : zG} {κ : zK} {own : String} {cc : ByteArray} {nL d : Nat} (X : zC g κ own cc nL d) {pc pc' : Nat} {lv : List (Nat × Value)} {st : List Value} {μ : zMem} {x : Int32} (hd : decode cc pc = .ok (.i2c, 1)) (hp : pc + 1 = pc')  (k : zV g κ pc' lv (.int (x.toUInt32 % 65536).toInt32 :: st) μ) : zV g κ pc lv (.int x :: st) μ := by
  obtain ⟨⟨p, l, e, R, s, m⟩, ⟨args, below, meth, cx⟩, ⟨cells, slots, Q⟩, A⟩ := κ
  obtain ⟨hx, hb, hml, hown, hts, hKw, hSt, hA, hR, hC⟩ := X
  subst hp
  intro H locs ls hP hS hl
  exact lv_i2c hx hb hd rfl (k H locs ls hP hS hl)
theorem zi_dup {g : zG} {κ : zK} {own : String} {cc : ByteArray} {nL d : Nat} (X : zC g κ own cc nL d) {pc pc' : Nat} {lv : List (Nat × Value)} {st : List Value} {μ : zMem} {va : Value} (hd : decode cc pc = .ok (.dup, 1)) (hp : pc + 1 = pc') (hv : va.category = 1) (k : zV g κ pc' lv (va :: va :: st) μ) : zV g κ pc lv (va :: st) μ := by
  obtain ⟨⟨p, l, e, R, s, m⟩, ⟨args, below, meth, cx⟩, ⟨cells, slots, Q⟩, A⟩ := κ
  obtain ⟨hx, hb, hml, hown, hts, hKw, hSt, hA, hR, hC⟩ := X
  subst hp
  intro H locs ls hP hS hl
  exact lv_dup hx hb hd hv (k H locs ls hP hS hl)
theorem zi_pop {g : zG} {κ : zK} {own : String} {cc : ByteArray} {nL d : Nat} (X : zC g κ own cc nL d) {pc pc' : Nat} {lv : List (Nat × Value)} {st : List Value} {μ : zMem} {va : Value} (hd : decode cc pc = .ok (.pop, 1)) (hp : pc + 1 = pc') (hv : va.category = 1) (k : zV g κ pc' lv st μ) : zV g κ pc lv (va :: st) μ := by
  obtain ⟨⟨p, l, e, R, s, m⟩, ⟨args, below, meth, cx⟩, ⟨cells, slots, Q⟩, A⟩ := κ
  obtain ⟨hx, hb, hml, hown, hts, hKw, hSt, hA, hR, hC⟩ := X
  subst hp
  intro H locs ls hP hS hl
  exact lv_pop hx hb hd hv (k H locs ls hP hS hl)
theorem zi_dup2 {g : zG} {κ : zK} {own : String} {cc : ByteArray} {nL d : Nat} (X : zC g κ own cc nL d) {pc pc' : Nat} {lv : List (Nat × Value)} {st : List Value} {μ : zMem} {va vb : Value} (hd : decode cc pc = .ok (.dup2, 1)) (hp : pc + 1 = pc') (hv : va.category = 1) (hw : vb.category = 1) (k : zV g κ pc' lv (va :: vb :: va :: vb :: st) μ) : zV g κ pc lv (va :: vb :: st) μ := by
  obtain ⟨⟨p, l, e, R, s, m⟩, ⟨args, below, meth, cx⟩, ⟨cells, slots, Q⟩, A⟩ := κ
  obtain ⟨hx, hb, hml, hown, hts, hKw, hSt, hA, hR, hC⟩ := X
  subst hp
  intro H locs ls hP hS hl
  exact lv_dup2_11 hx hb hd hv hw (k H locs ls hP hS hl)
theorem zi_if_eq {g : zG} {κ : zK} {own : String} {cc : ByteArray} {nL d : Nat} (X : zC g κ own cc nL d) {pc pc' : Nat} {lv : List (Nat × Value)} {st : List Value} {μ : zMem} {x : Int32} {off : Int} {tgt : Nat} (hd : decode cc pc = .ok (.ifCond .eq off, 3)) (ht : (pc : Int) + off = (tgt : Int)) (hp : pc + 3 = pc') (kt : x = 0 → zV g κ tgt lv st μ) (kf : ¬ x = 0 → zV g κ pc' lv st μ) : zV g κ pc lv (.int x :: st) μ := by
  obtain ⟨⟨p, l, e, R, s, m⟩, ⟨args, below, meth, cx⟩, ⟨cells, slots, Q⟩, A⟩ := κ
  obtain ⟨hx, hb, hml, hown, hts, hKw, hSt, hA, hR, hC⟩ := X
  subst hp
  intro H locs ls hP hS hl
  exact lv_if_eq hx hb hd ht (fun c => kt c H locs ls hP hS hl) (fun c => kf c H locs ls hP hS hl)
theorem zi_if_ne {g : zG} {κ : zK} {own : String} {cc : ByteArray} {nL d : Nat} (X : zC g κ own cc nL d) {pc pc' : Nat} {lv : List (Nat × Value)} {st : List Value} {μ : zMem} {x : Int32} {off : Int} {tgt : Nat} (hd : decode cc pc = .ok (.ifCond .ne off, 3)) (ht : (pc : Int) + off = (tgt : Int)) (hp : pc + 3 = pc') (kt : ¬ x = 0 → zV g κ tgt lv st μ) (kf : x = 0 → zV g κ pc' lv st μ) : zV g κ pc lv (.int x :: st) μ := by
  obtain ⟨⟨p, l, e, R, s, m⟩, ⟨args, below, meth, cx⟩, ⟨cells, slots, Q⟩, A⟩ := κ
  obtain ⟨hx, hb, hml, hown, hts, hKw, hSt, hA, hR, hC⟩ := X
  subst hp
  intro H locs ls hP hS hl
  exact lv_if_ne hx hb hd ht (fun c => kt c H locs ls hP hS hl) (fun c => kf c H locs ls hP hS hl)
theorem zi_if_lt {g : zG} {κ : zK} {own : String} {cc : ByteArray} {nL d : Nat} (X : zC g κ own cc nL d) {pc pc' : Nat} {lv : List (Nat × Value)} {st : List Value} {μ : zMem} {x : Int32} {off : Int} {tgt : Nat} (hd : decode cc pc = .ok (.ifCond .lt off, 3)) (ht : (pc : Int) + off = (tgt : Int)) (hp : pc + 3 = pc') (kt : x < 0 → zV g κ tgt lv st μ) (kf : ¬ x < 0 → zV g κ pc' lv st μ) : zV g κ pc lv (.int x :: st) μ := by
  obtain ⟨⟨p, l, e, R, s, m⟩, ⟨args, below, meth, cx⟩, ⟨cells, slots, Q⟩, A⟩ := κ
  obtain ⟨hx, hb, hml, hown, hts, hKw, hSt, hA, hR, hC⟩ := X
  subst hp
  intro H locs ls hP hS hl
  exact lv_if_lt hx hb hd ht (fun c => kt c H locs ls hP hS hl) (fun c => kf c H locs ls hP hS hl)
theorem zi_if_ge {g : zG} {κ : zK} {own : String} {cc : ByteArray} {nL d : Nat} (X : zC g κ own cc nL d) {pc pc' : Nat} {lv : List (Nat × Value)} {st : List Value} {μ : zMem} {x : Int32} {off : Int} {tgt : Nat} (hd : decode cc pc = .ok (.ifCond .ge off, 3)) (ht : (pc : Int) + off = (tgt : Int)) (hp : pc + 3 = pc') (kt : 0 ≤ x → zV g κ tgt lv st μ) (kf : ¬ 0 ≤ x → zV g κ pc' lv st μ) : zV g κ pc lv (.int x :: st) μ := by
  obtain ⟨⟨p, l, e, R, s, m⟩, ⟨args, below, meth, cx⟩, ⟨cells, slots, Q⟩, A⟩ := κ
  obtain ⟨hx, hb, hml, hown, hts, hKw, hSt, hA, hR, hC⟩ := X
  subst hp
  intro H locs ls hP hS hl
  exact lv_if_ge hx hb hd ht (fun c => kt c H locs ls hP hS hl) (fun c => kf c H locs ls hP hS hl)
theorem zi_if_gt {g : zG} {κ : zK} {own : String} {cc : ByteArray} {nL d : Nat} (X : zC g κ own cc nL d) {pc pc' : Nat} {lv : List (Nat × Value)} {st : List Value} {μ : zMem} {x : Int32} {off : Int} {tgt : Nat} (hd : decode cc pc = .ok (.ifCond .gt off, 3)) (ht : (pc : Int) + off = (tgt : Int)) (hp : pc + 3 = pc') (kt : 0 < x → zV g κ tgt lv st μ) (kf : ¬ 0 < x → zV g κ pc' lv st μ) : zV g κ pc lv (.int x :: st) μ := by
  obtain ⟨⟨p, l, e, R, s, m⟩, ⟨args, below, meth, cx⟩, ⟨cells, slots, Q⟩, A⟩ := κ
  obtain ⟨hx, hb, hml, hown, hts, hKw, hSt, hA, hR, hC⟩ := X
  subst hp
  intro H locs ls hP hS hl
  exact lv_if_gt hx hb hd ht (fun c => kt c H locs ls hP hS hl) (fun c => kf c H locs ls hP hS hl)
theorem zi_if_le {g : zG} {κ : zK} {own : String} {cc : ByteArray} {nL d : Nat} (X : zC g κ own cc nL d) {pc pc' : Nat} {lv : List (Nat × Value)} {st : List Value} {μ : zMem} {x : Int32} {off : Int} {tgt : Nat} (hd : decode cc pc = .ok (.ifCond .le off, 3)) (ht : (pc : Int) + off = (tgt : Int)) (hp : pc + 3 = pc') (kt : x ≤ 0 → zV g κ tgt lv st μ) (kf : ¬ x ≤ 0 → zV g κ pc' lv st μ) : zV g κ pc lv (.int x :: st) μ := by
  obtain ⟨⟨p, l, e, R, s, m⟩, ⟨args, below, meth, cx⟩, ⟨cells, slots, Q⟩, A⟩ := κ
  obtain ⟨hx, hb, hml, hown, hts, hKw, hSt, hA, hR, hC⟩ := X
  subst hp
  intro H locs ls hP hS hl
  exact lv_if_le hx hb hd ht (fun c => kt c H locs ls hP hS hl) (fun c => kf c H locs ls hP hS hl)
theorem zi_icmp_eq {g : zG} {κ : zK} {own : String} {cc : ByteArray} {nL d : Nat} (X : zC g κ own cc nL d) {pc pc' : Nat} {lv : List (Nat × Value)} {st : List Value} {μ : zMem} {x y : Int32} {off : Int} {tgt : Nat} (hd : decode cc pc = .ok (.if_icmp .eq off, 3)) (ht : (pc : Int) + off = (tgt : Int)) (hp : pc + 3 = pc') (kt : x = y → zV g κ tgt lv st μ) (kf : ¬ x = y → zV g κ pc' lv st μ) : zV g κ pc lv (.int y :: .int x :: st) μ := by
  obtain ⟨⟨p, l, e, R, s, m⟩, ⟨args, below, meth, cx⟩, ⟨cells, slots, Q⟩, A⟩ := κ
  obtain ⟨hx, hb, hml, hown, hts, hKw, hSt, hA, hR, hC⟩ := X
  subst hp
  intro H locs ls hP hS hl
  exact lv_icmp_eq hx hb hd ht (fun c => kt c H locs ls hP hS hl) (fun c => kf c H locs ls hP hS hl)
theorem zi_icmp_ne {g : zG} {κ : zK} {own : String} {cc : ByteArray} {nL d : Nat} (X : zC g κ own cc nL d) {pc pc' : Nat} {lv : List (Nat × Value)} {st : List Value} {μ : zMem} {x y : Int32} {off : Int} {tgt : Nat} (hd : decode cc pc = .ok (.if_icmp .ne off, 3)) (ht : (pc : Int) + off = (tgt : Int)) (hp : pc + 3 = pc') (kt : ¬ x = y → zV g κ tgt lv st μ) (kf : x = y → zV g κ pc' lv st μ) : zV g κ pc lv (.int y :: .int x :: st) μ := by
  obtain ⟨⟨p, l, e, R, s, m⟩, ⟨args, below, meth, cx⟩, ⟨cells, slots, Q⟩, A⟩ := κ
  obtain ⟨hx, hb, hml, hown, hts, hKw, hSt, hA, hR, hC⟩ := X
  subst hp
  intro H locs ls hP hS hl
  exact lv_icmp_ne hx hb hd ht (fun c => kt c H locs ls hP hS hl) (fun c => kf c H locs ls hP hS hl)
theorem zi_icmp_lt {g : zG} {κ : zK} {own : String} {cc : ByteArray} {nL d : Nat} (X : zC g κ own cc nL d) {pc pc' : Nat} {lv : List (Nat × Value)} {st : List Value} {μ : zMem} {x y : Int32} {off : Int} {tgt : Nat} (hd : decode cc pc = .ok (.if_icmp .lt off, 3)) (ht : (pc : Int) + off = (tgt : Int)) (hp : pc + 3 = pc') (kt : x < y → zV g κ tgt lv st μ) (kf : ¬ x < y → zV g κ pc' lv st μ) : zV g κ pc lv (.int y :: .int x :: st) μ := by
  obtain ⟨⟨p, l, e, R, s, m⟩, ⟨args, below, meth, cx⟩, ⟨cells, slots, Q⟩, A⟩ := κ
  obtain ⟨hx, hb, hml, hown, hts, hKw, hSt, hA, hR, hC⟩ := X
  subst hp
  intro H locs ls hP hS hl
  exact lv_icmp_lt hx hb hd ht (fun c => kt c H locs ls hP hS hl) (fun c => kf c H locs ls hP hS hl)
theorem zi_icmp_ge {g : zG} {κ : zK} {own : String} {cc : ByteArray} {nL d : Nat} (X : zC g κ own cc nL d) {pc pc' : Nat} {lv : List (Nat × Value)} {st : List Value} {μ : zMem} {x y : Int32} {off : Int} {tgt : Nat} (hd : decode cc pc = .ok (.if_icmp .ge off, 3)) (ht : (pc : Int) + off = (tgt : Int)) (hp : pc + 3 = pc') (kt : y ≤ x → zV g κ tgt lv st μ) (kf : ¬ y ≤ x → zV g κ pc' lv st μ) : zV g κ pc lv (.int y :: .int x :: st) μ := by
  obtain ⟨⟨p, l, e, R, s, m⟩, ⟨args, below, meth, cx⟩, ⟨cells, slots, Q⟩, A⟩ := κ
  obtain ⟨hx, hb, hml, hown, hts, hKw, hSt, hA, hR, hC⟩ := X
  subst hp
  intro H locs ls hP hS hl
  exact lv_icmp_ge hx hb hd ht (fun c => kt c H locs ls hP hS hl) (fun c => kf c H locs ls hP hS hl)
theorem zi_icmp_gt {g : zG} {κ : zK} {own : String} {cc : ByteArray} {nL d : Nat} (X : zC g κ own cc nL d) {pc pc' : Nat} {lv : List (Nat × Value)} {st : List Value} {μ : zMem} {x y : Int32} {off : Int} {tgt : Nat} (hd : decode cc pc = .ok (.if_icmp .gt off, 3)) (ht : (pc : Int) + off = (tgt : Int)) (hp : pc + 3 = pc') (kt : y < x → zV g κ tgt lv st μ) (kf : ¬ y < x → zV g κ pc' lv st μ) : zV g κ pc lv (.int y :: .int x :: st) μ := by
  obtain ⟨⟨p, l, e, R, s, m⟩, ⟨args, below, meth, cx⟩, ⟨cells, slots, Q⟩, A⟩ := κ
  obtain ⟨hx, hb, hml, hown, hts, hKw, hSt, hA, hR, hC⟩ := X
  subst hp
  intro H locs ls hP hS hl
  exact lv_icmp_gt hx hb hd ht (fun c => kt c H locs ls hP hS hl) (fun c => kf c H locs ls hP hS hl)
theorem zi_icmp_le {g : zG} {κ : zK} {own : String} {cc : ByteArray} {nL d : Nat} (X : zC g κ own cc nL d) {pc pc' : Nat} {lv : List (Nat × Value)} {st : List Value} {μ : zMem} {x y : Int32} {off : Int} {tgt : Nat} (hd : decode cc pc = .ok (.if_icmp .le off, 3)) (ht : (pc : Int) + off = (tgt : Int)) (hp : pc + 3 = pc') (kt : x ≤ y → zV g κ tgt lv st μ) (kf : ¬ x ≤ y → zV g κ pc' lv st μ) : zV g κ pc lv (.int y :: .int x :: st) μ := by
  obtain ⟨⟨p, l, e, R, s, m⟩, ⟨args, below, meth, cx⟩, ⟨cells, slots, Q⟩, A⟩ := κ
  obtain ⟨hx, hb, hml, hown, hts, hKw, hSt, hA, hR, hC⟩ := X
  subst hp
  intro H locs ls hP hS hl
  exact lv_icmp_le hx hb hd ht (fun c => kt c H locs ls hP hS hl) (fun c => kf c H locs ls hP hS hl)
theorem zi_goto {g : zG} {κ : zK} {own : String} {cc : ByteArray} {nL d : Nat} (X : zC g κ own cc nL d) {pc pc' : Nat} {lv : List (Nat × Value)} {st : List Value} {μ : zMem} {off : Int} (hd : decode cc pc = .ok (.goto off, 3)) (ht : (pc : Int) + off = (pc' : Int)) (k : zV g κ pc' lv st μ) : zV g κ pc lv st μ := by
  obtain ⟨⟨p, l, e, R, s, m⟩, ⟨args, below, meth, cx⟩, ⟨cells, slots, Q⟩, A⟩ := κ
  obtain ⟨hx, hb, hml, hown, hts, hKw, hSt, hA, hR, hC⟩ := X
  intro H locs ls hP hS hl
  exact lv_goto hx hb hd ht (k H locs ls hP hS hl)
theorem zi_tabIn {g : zG} {κ : zK} {own : String} {cc : ByteArray} {nL d : Nat} (X : zC g κ own cc nL d) {pc pc' : Nat} {lv : List (Nat × Value)} {st : List Value} {μ : zMem} {x v : Int32} {dflt lo hi off : Int} {offs : Array Int} {len : Nat} (hx0 : x = v) (hd : decode cc pc = .ok (.tableswitch dflt lo hi offs, len)) (ht : (¬ v.toInt < lo ∧ ¬ hi < v.toInt) ∧ offs[(v.toInt - lo).toNat]? = some off ∧ (pc : Int) + off = (pc' : Int)) (k : zV g κ pc' lv st μ) : zV g κ pc lv (.int x :: st) μ := by
  obtain ⟨⟨p, l, e, R, s, m⟩, ⟨args, below, meth, cx⟩, ⟨cells, slots, Q⟩, A⟩ := κ
  obtain ⟨hx, hb, hml, hown, hts, hKw, hSt, hA, hR, hC⟩ := X
  subst hx0
  intro H locs ls hP hS hl
  exact lv_tableIn hx hb hd ht.1.1 ht.1.2 ht.2.1 ht.2.2 (k H locs ls hP hS hl)
theorem zi_tabOut {g : zG} {κ : zK} {own : String} {cc : ByteArray} {nL d : Nat} (X : zC g κ own cc nL d) {pc pc' : Nat} {lv : List (Nat × Value)} {st : List Value} {μ : zMem} {x : Int32} {dflt lo hi : Int} {offs : Array Int} {len : Nat} (hx0 : x.toInt < lo ∨ hi < x.toInt) (hd : decode cc pc = .ok (.tableswitch dflt lo hi offs, len)) (ht : (pc : Int) + dflt = (pc' : Int)) (k : zV g κ pc' lv st μ) : zV g κ pc lv (.int x :: st) μ := by
  obtain ⟨⟨p, l, e, R, s, m⟩, ⟨args, below, meth, cx⟩, ⟨cells, slots, Q⟩, A⟩ := κ
  obtain ⟨hx, hb, hml, hown, hts, hKw, hSt, hA, hR, hC⟩ := X
  intro H locs ls hP hS hl
  exact lv_tableOut hx hb hd hx0 ht (k H locs ls hP hS hl)
theorem zi_look {g : zG} {κ : zK} {own : String} {cc : ByteArray} {nL d : Nat} (X : zC g κ own cc nL d) {pc pc' : Nat} {lv : List (Nat × Value)} {st : List Value} {μ : zMem} {x : Int32} {dflt off : Int} {ps : Array (Int × Int)} {len : Nat} (hd : decode cc pc = .ok (.lookupswitch dflt ps, len)) (hq : (ps.toList.zip (ps.toList.drop 1)).all (fun (a, next) => a.1 < next.1) = true) (ho : Op.lookupswitch.offset ps.toList dflt x.toInt = off) (ht : (pc : Int) + off = (pc' : Int)) (k : zV g κ pc' lv st μ) : zV g κ pc lv (.int x :: st) μ := by
  obtain ⟨⟨p, l, e, R, s, m⟩, ⟨args, below, meth, cx⟩, ⟨cells, slots, Q⟩, A⟩ := κ
  obtain ⟨hx, hb, hml, hown, hts, hKw, hSt, hA, hR, hC⟩ := X
  intro H locs ls hP hS hl
  exact lv_lookup hx hb hd hq ho ht (k H locs ls hP hS hl)
theorem zi_sub {g : zG} {κ : zK} {own : String} {cc : ByteArray} {nL d : Nat} (X : zC g κ own cc nL d) {pc : Nat} {lv : List (Nat × Value)} {st : List Value} {μ : zMem} (ks : List Nat) (lv' : List (Nat × Value)) (h : lv_pick lv ks = lv') (k : zV g κ pc lv' st μ) : zV g κ pc lv st μ := by
  obtain ⟨⟨p, l, e, R, s, m⟩, ⟨args, below, meth, cx⟩, ⟨cells, slots, Q⟩, A⟩ := κ
  obtain ⟨hx, hb, hml, hown, hts, hKw, hSt, hA, hR, hC⟩ := X
  intro H locs ls hP hS hl
  exact k H locs ls hP hS (lv_sub hl ks h)
theorem zi_get {g : zG} {κ : zK} {own : String} {cc : ByteArray} {nL d : Nat} (X : zC g κ own cc nL d) {pc pc' : Nat} {lv : List (Nat × Value)} {st : List Value} {μ : zMem} {idx c j k0 : Nat} {o : Option Nat} (hf : zFl own idx c j) (ho : (zoff.getD c [])[j]? = some o) (hc : c < 7) (hk : zkd k0 = c) (hd : decode cc pc = .ok (.getfield idx, 3)) (hp : pc + 3 = pc') (k : zV g κ pc' lv (zval g k0 (μ k0) j o :: st) μ) : zV g κ pc lv (.ref (zad g k0) :: st) μ := by
  obtain ⟨⟨p, l, e, R, s, m⟩, ⟨args, below, meth, cx⟩, ⟨cells, slots, Q⟩, A⟩ := κ
  obtain ⟨hx, hb, hml, hown, hts, hKw, hSt, hA, hR, hC⟩ := X
  subst hp
  intro H locs ls hP hS hl
  have hk78 := zkd_lt hk (by omega)
  obtain ⟨C, T, N, h1, h2, h3, h4⟩ := hf
  have he := zwd_at (g := g) (μ := μ) hk78
  rw [zcell_o _ hk hc] at he
  rcases h4 with h4 | ⟨host, h4⟩
  · exact va_get (C := C) (T := T) (N := N) hx hb hts h3 hown hKw.1 hP k0 he h1 j h2 (hts _ h4) (fun _ h9 => h9) (zfs_at ho) hd (k H locs ls hP hS hl)
  · exact va_getN (C := C) (T := T) (N := N) (host := host) hx hb hts h3 hown hKw.1 hP k0 he h1 j h2 (va_Nw.use rfl (hKw.2.2 _ h4 rfl)) (fun _ h9 => h9) (zfs_at ho) hd (k H locs ls hP hS hl)
theorem zi_geti {g : zG} {κ : zK} {own : String} {cc : ByteArray} {nL d : Nat} (X : zC g κ own cc nL d) {pc pc' : Nat} {lv : List (Nat × Value)} {st : List Value} {μ : zMem} {idx c j k0 : Nat} (hf : zFl own idx c j) (ho : (zoff.getD c [])[j]? = some none) (hc : c < 7) (hk : zkd k0 = c) (hd : decode cc pc = .ok (.getfield idx, 3)) (hp : pc + 3 = pc') (k : zV g κ pc' lv (.int (μ k0 j) :: st) μ) : zV g κ pc lv (.ref (zad g k0) :: st) μ := zi_get X hf ho hc hk hd hp k
theorem zi_getr {g : zG} {κ : zK} {own : String} {cc : ByteArray} {nL d : Nat} (X : zC g κ own cc nL d) {pc pc' : Nat} {lv : List (Nat × Value)} {st : List Value} {μ : zMem} {idx c j k0 o : Nat} (hf : zFl own idx c j) (ho : (zoff.getD c [])[j]? = some (some o)) (hc : c < 7) (hk : zkd k0 = c) (hd : decode cc pc = .ok (.getfield idx, 3)) (hp : pc + 3 = pc') (k : zV g κ pc' lv (.ref (zad g (k0 + o)) :: st) μ) : zV g κ pc lv (.ref (zad g k0) :: st) μ := zi_get X hf ho hc hk hd hp k
theorem zi_put {g : zG} {κ : zK} {own : String} {cc : ByteArray} {nL d : Nat} (X : zC g κ own cc nL d) {pc pc' : Nat} {lv : List (Nat × Value)} {st : List Value} {μ : zMem} {idx c j k0 : Nat} {ty : FieldType} {v : Int32} (hf : zFl own idx c j) (hw : zFw c j ty) (ho : (zoff.getD c [])[j]? = some none) (hc : c < 7) (hk : zkd k0 = c) (hn : narrow ty (.int v) = .int v) (hfit : fits ty (.int v) = true) (hd : decode cc pc = .ok (.putfield idx, 3)) (hp : pc + 3 = pc') (k : zV g κ pc' lv st (zst μ k0 j v)) : zV g κ pc lv (.int v :: .ref (zad g k0) :: st) μ := by
  obtain ⟨⟨p, l, e, R, s, m⟩, ⟨args, below, meth, cx⟩, ⟨cells, slots, Q⟩, A⟩ := κ
  obtain ⟨hx, hb, hml, hown, hts, hKw, hSt, hA, hR, hC⟩ := X
  subst hp
  intro H locs ls hP hS hl
  have hk78 := zkd_lt hk (by omega)
  obtain ⟨C, T, N, h1, h2, h3, h4⟩ := hf
  obtain ⟨w1, w2, ty0, w3, w4⟩ := hw C T N h1
  have he := zwd_at (g := g) (μ := μ) hk78
  rw [zcell_o _ hk hc] at he
  have hDD : va_D A (zwd g μ) := zD_of hKw.2.1 hA
  have hlen : j < (zfs g c k0 (μ k0)).length := (List.getElem?_eq_some_iff.mp (zfs_at (g := g) (k := k0) (r := μ k0) ho)).1
  have hset : (zwd g μ).set k0 (zad g k0, .inr (c, (zfs g c k0 (μ k0)).set j (.int v))) = zwd g (zst μ k0 j v) := by
    rw [zst_row]
    exact zwd_row hk78 (by rw [zcell_o _ hk hc, zfs_set ho])
  rcases h4 with h4 | ⟨host, h4⟩
  · exact va_put (C := C) (T := T) (N := N) hx hb hts h3 ty0 w3 w4 hown hKw.1 hP hDD hS k0 he h1 j h2 (hts _ h4) (fun _ h9 => h9) w1 w2 hn hfit hlen hd (fun H1 locs1 q1 _ q3 => k H1 locs1 ls (by rw [← hset]; exact q1) q3 hl)
  · exact va_putN (C := C) (T := T) (N := N) (host := host) hx hb hts h3 ty0 w3 w4 hown hKw.1 hP hDD hS k0 he h1 j h2 (va_Nw.use rfl (hKw.2.2 _ h4 rfl)) (fun _ h9 => h9) w1 w2 hn hfit hlen hd (fun H1 locs1 q1 _ q3 => k H1 locs1 ls (by rw [← hset]; exact q1) q3 hl)
abbrev zib (i : Int32) (n : Nat) : Prop := ¬ (i < 0 ∨ n ≤ i.toNatClampNeg)
theorem zi_iald {g : zG} {κ : zK} {own : String} {cc : ByteArray} {nL d : Nat} (X : zC g κ own cc nL d) {pc pc' : Nat} {lv : List (Nat × Value)} {st : List Value} {μ : zMem} {k0 : Nat} {i : Int32} (hk : zkd k0 = 7) (hin : zib i (zln k0)) (hd : decode cc pc = .ok (.iaload, 1)) (hp : pc + 1 = pc') (k : zV g κ pc' lv (.int (μ k0 i.toNatClampNeg) :: st) μ) : zV g κ pc lv (.int i :: .ref (zad g k0) :: st) μ := by
  obtain ⟨⟨p, l, e, R, s, m⟩, ⟨args, below, meth, cx⟩, ⟨cells, slots, Q⟩, A⟩ := κ
  obtain ⟨hx, hb, hml, hown, hts, hKw, hSt, hA, hR, hC⟩ := X
  subst hp
  intro H locs ls hP hS hl
  have he := zwd_at (g := g) (μ := μ) (zkd_lt hk (by omega))
  rw [zcell_i _ hk] at he
  exact va_iald hx hb hKw.1 hP k0 0 he rfl hin hd (k H locs ls hP hS hl)
theorem zi_iast {g : zG} {κ : zK} {own : String} {cc : ByteArray} {nL d : Nat} (X : zC g κ own cc nL d) {pc pc' : Nat} {lv : List (Nat × Value)} {st : List Value} {μ : zMem} {k0 : Nat} {i v : Int32} (hk : zkd k0 = 7) (hin : zib i (zln k0)) (hd : decode cc pc = .ok (.iastore, 1)) (hp : pc + 1 = pc') (k : zV g κ pc' lv st (zst μ k0 i.toNatClampNeg v)) : zV g κ pc lv (.int v :: .int i :: .ref (zad g k0) :: st) μ := by
  obtain ⟨⟨p, l, e, R, s, m⟩, ⟨args, below, meth, cx⟩, ⟨cells, slots, Q⟩, A⟩ := κ
  obtain ⟨hx, hb, hml, hown, hts, hKw, hSt, hA, hR, hC⟩ := X
  subst hp
  intro H locs ls hP hS hl
  have hk78 := zkd_lt hk (by omega)
  have he := zwd_at (g := g) (μ := μ) hk78
  rw [zcell_i _ hk] at he
  have hDD : va_D A (zwd g μ) := zD_of hKw.2.1 hA
  refine va_iast hx hb hKw.1 hP hDD hS k0 0 he rfl hin hd (fun H1 locs1 q1 _ q3 => k H1 locs1 ls ?_ q3 hl)
  rw [zwd_row hk78 (zcell_i _ hk)] at q1
  exact q1
theorem zi_aaldT {g : zG} {κ : zK} {own : String} {cc : ByteArray} {nL d : Nat} (X : zC g κ own cc nL d) {pc pc' : Nat} {lv : List (Nat × Value)} {st : List Value} {μ : zMem} {k0 : Nat} {i : Int32} (hk : zkd k0 = 9) (hin : zib i (zln k0)) (hd : decode cc pc = .ok (.aaload, 1)) (hp : pc + 1 = pc') (k : zV g κ pc' lv (.ref (zad g (k0 + 1 + 2 * i.toNatClampNeg)) :: st) μ) : zV g κ pc lv (.int i :: .ref (zad g k0) :: st) μ := by
  obtain ⟨⟨p, l, e, R, s, m⟩, ⟨args, below, meth, cx⟩, ⟨cells, slots, Q⟩, A⟩ := κ
  obtain ⟨hx, hb, hml, hown, hts, hKw, hSt, hA, hR, hC⟩ := X
  subst hp
  intro H locs ls hP hS hl
  have he := zwd_at (g := g) (μ := μ) (zkd_lt hk (by omega))
  rw [zcell_t _ hk] at he
  exact va_aldq hx hb hKw.1 hP k0 1 he rfl hin hd (k H locs ls hP hS hl)
theorem zi_aaldS {g : zG} {κ : zK} {own : String} {cc : ByteArray} {nL d : Nat} (X : zC g κ own cc nL d) {pc pc' : Nat} {lv : List (Nat × Value)} {st : List Value} {μ : zMem} {k0 : Nat} {i : Int32} (hk : zkd k0 = 8) (hin : zib i (zln k0)) (hd : decode cc pc = .ok (.aaload, 1)) (hp : pc + 1 = pc') (k : zV g κ pc' lv (.ref (zad g (k0 + 3 + 2 * i.toNatClampNeg)) :: st) μ) : zV g κ pc lv (.int i :: .ref (zad g k0) :: st) μ := by
  obtain ⟨⟨p, l, e, R, s, m⟩, ⟨args, below, meth, cx⟩, ⟨cells, slots, Q⟩, A⟩ := κ
  obtain ⟨hx, hb, hml, hown, hts, hKw, hSt, hA, hR, hC⟩ := X
  subst hp
  intro H locs ls hP hS hl
  have he := zwd_at (g := g) (μ := μ) (zkd_lt hk (by omega))
  rw [zcell_s _ hk] at he
  exact va_aldq hx hb hKw.1 hP k0 2 he rfl hin hd (k H locs ls hP hS hl)
theorem zi_alen {g : zG} {κ : zK} {own : String} {cc : ByteArray} {nL d : Nat} (X : zC g κ own cc nL d) {pc pc' : Nat} {lv : List (Nat × Value)} {st : List Value} {μ : zMem} {k0 : Nat} (hk : zkd k0 = 7) (hd : decode cc pc = .ok (.arraylength, 1)) (hp : pc + 1 = pc') (k : zV g κ pc' lv (.int (Int32.ofNat (zln k0)) :: st) μ) : zV g κ pc lv (.ref (zad g k0) :: st) μ := by
  obtain ⟨⟨p, l, e, R, s, m⟩, ⟨args, below, meth, cx⟩, ⟨cells, slots, Q⟩, A⟩ := κ
  obtain ⟨hx, hb, hml, hown, hts, hKw, hSt, hA, hR, hC⟩ := X
  subst hp
  intro H locs ls hP hS hl
  have he := zwd_at (g := g) (μ := μ) (zkd_lt hk (by omega))
  rw [zcell_i _ hk] at he
  exact va_alen hx hb hKw.1 hP k0 0 he (ty := .int) rfl rfl hd (k H locs ls hP hS hl)
theorem zi_acopy {g : zG} {κ : zK} {own : String} {cc : ByteArray} {nL d : Nat} (X : zC g κ own cc nL d) {pc pc' : Nat} {lv : List (Nat × Value)} {st : List Value} {μ : zMem} {idx k0 k1 : Nat} {sp dp n : Int32} (hlk : Cond.methodLink own idx arraycopyName ∈ zgw ∧ Cond.native arraycopyName ∈ zgw ∧ Cond.static arraycopyName ∈ zgw ∧ Cond.initialized "java/lang/System" ∈ zgw) (hk0 : zkd k0 = 7) (hk1 : zkd k1 = 7) (h : (¬ sp < 0 ∧ ¬ dp < 0 ∧ ¬ n < 0) ∧ sp.toNatClampNeg + n.toNatClampNeg ≤ zln k0 ∧ dp.toNatClampNeg + n.toNatClampNeg ≤ zln k1) (hst : (st.map fun v => v.category).sum ≤ 8) (hdp : 1 ≤ d) (hd : decode cc pc = .ok (.invokestatic idx, 3)) (hp : pc + 3 = pc') (k : zV g κ pc' lv st (zrow μ k1 (va_cpy (μ k0) (μ k1) sp.toNatClampNeg dp.toNatClampNeg n.toNatClampNeg))) : zV g κ pc lv (.int n :: .int dp :: .ref (zad g k1) :: .int sp :: .ref (zad g k0) :: st) μ := by
  obtain ⟨⟨p, l, e, R, s, m⟩, ⟨args, below, meth, cx⟩, ⟨cells, slots, Q⟩, A⟩ := κ
  obtain ⟨hx, hb, hml, hown, hts, hKw, hSt, hA, hR, hC⟩ := X
  subst hp
  intro H locs ls hP hS hl
  have hk78 := zkd_lt hk1 (by omega)
  have he0 := zwd_at (g := g) (μ := μ) (zkd_lt hk0 (by omega))
  have he1 := zwd_at (g := g) (μ := μ) hk78
  rw [zcell_i _ hk0] at he0
  rw [zcell_i _ hk1] at he1
  have hDD : va_D A (zwd g μ) := zD_of hKw.2.1 hA
  have hnw : nativeFrameWords "java/lang/System" "arraycopy" 5 + 11 ≤ 32 := by decide +kernel
  refine va_copyi hx hb hl.1.symm hown (hts _ hlk.1) (hts _ hlk.2.1) (hts _ hlk.2.2.1) (hts _ hlk.2.2.2) hKw.1 hP hDD hS k0 k1 0 0 (ty := .int) he0 he1 rfl rfl rfl h.1.1 h.1.2.1 h.1.2.2 h.2.1 h.2.2 (fun i _ => rfl) (by omega) (by omega) hd (fun H1 locs1 q1 _ q3 => k H1 locs1 ls ?_ q3 hl)
  rw [zwd_row hk78 (zcell_i _ hk1)] at q1
  exact q1
theorem zi_mmax {g : zG} {κ : zK} {own : String} {cc : ByteArray} {nL d : Nat} (X : zC g κ own cc nL d) {pc pc' : Nat} {lv : List (Nat × Value)} {st : List Value} {μ : zMem} {idx : Nat} {x y : Int32} (hlk : Cond.methodLink own idx Lib.Math.max.name ∈ zgw ∧ Cond.static Lib.Math.max.name ∈ zgw ∧ Cond.initialized "java/lang/Math" ∈ zgw ∧ Cond.code Lib.Math.max.name Lib.Math.max.code 2 (some .int) ∈ zgw) (hst : (st.map fun v => v.category).sum ≤ 8) (hdp : 1 ≤ d) (hd : decode cc pc = .ok (.invokestatic idx, 3)) (hp : pc + 3 = pc') (k : zV g κ pc' lv (.int (if x < y then y else x) :: st) μ) : zV g κ pc lv (.int y :: .int x :: st) μ := by
  obtain ⟨⟨p, l, e, R, s, m⟩, ⟨args, below, meth, cx⟩, ⟨cells, slots, Q⟩, A⟩ := κ
  obtain ⟨hx, hb, hml, hown, hts, hKw, hSt, hA, hR, hC⟩ := X
  subst hp
  intro H locs ls hP hS hl
  exact va_mmax hx hb hl.1.symm hown (hts _ hlk.1) (hts _ hlk.2.1) (hts _ hlk.2.2.1) (hts _ hlk.2.2.2) (by omega) (by omega) hC.1 hC.2 hd (k H locs ls hP hS hl)
theorem zi_mmin {g : zG} {κ : zK} {own : String} {cc : ByteArray} {nL d : Nat} (X : zC g κ own cc nL d) {pc pc' : Nat} {lv : List (Nat × Value)} {st : List Value} {μ : zMem} {idx : Nat} {x y : Int32} (hlk : Cond.methodLink own idx Lib.Math.min.name ∈ zgw ∧ Cond.static Lib.Math.min.name ∈ zgw ∧ Cond.initialized "java/lang/Math" ∈ zgw ∧ Cond.code Lib.Math.min.name Lib.Math.min.code 2 (some .int) ∈ zgw) (hst : (st.map fun v => v.category).sum ≤ 8) (hdp : 1 ≤ d) (hd : decode cc pc = .ok (.invokestatic idx, 3)) (hp : pc + 3 = pc') (k : zV g κ pc' lv (.int (if y < x then y else x) :: st) μ) : zV g κ pc lv (.int y :: .int x :: st) μ := by
  obtain ⟨⟨p, l, e, R, s, m⟩, ⟨args, below, meth, cx⟩, ⟨cells, slots, Q⟩, A⟩ := κ
  obtain ⟨hx, hb, hml, hown, hts, hKw, hSt, hA, hR, hC⟩ := X
  subst hp
  intro H locs ls hP hS hl
  exact va_mmin hx hb hl.1.symm hown (hts _ hlk.1) (hts _ hlk.2.1) (hts _ hlk.2.2.1) (hts _ hlk.2.2.2) (by omega) (by omega) hC.1 hC.2 hd (k H locs ls hP hS hl)
theorem zi_mabs {g : zG} {κ : zK} {own : String} {cc : ByteArray} {nL d : Nat} (X : zC g κ own cc nL d) {pc pc' : Nat} {lv : List (Nat × Value)} {st : List Value} {μ : zMem} {idx : Nat} {x : Int32} (hlk : Cond.methodLink own idx Lib.Math.abs.name ∈ zgw ∧ Cond.static Lib.Math.abs.name ∈ zgw ∧ Cond.initialized "java/lang/Math" ∈ zgw ∧ Cond.code Lib.Math.abs.name Lib.Math.abs.code 1 (some .int) ∈ zgw) (hst : (st.map fun v => v.category).sum ≤ 8) (hdp : 1 ≤ d) (hd : decode cc pc = .ok (.invokestatic idx, 3)) (hp : pc + 3 = pc') (k : zV g κ pc' lv (.int (if 0 ≤ x then x else 0 - x) :: st) μ) : zV g κ pc lv (.int x :: st) μ := by
  obtain ⟨⟨p, l, e, R, s, m⟩, ⟨args, below, meth, cx⟩, ⟨cells, slots, Q⟩, A⟩ := κ
  obtain ⟨hx, hb, hml, hown, hts, hKw, hSt, hA, hR, hC⟩ := X
  subst hp
  intro H locs ls hP hS hl
  exact va_mabs hx hb hl.1.symm hown (hts _ hlk.1) (hts _ hlk.2.1) (hts _ hlk.2.2.1) (hts _ hlk.2.2.2) (by omega) (by omega) hC.1 hC.2 hd (k H locs ls hP hS hl)
theorem zi_callSi {g : zG} {κ : zK} {own : String} {cc : ByteArray} {nL d : Nat} (X : zC g κ own cc nL d) {pc pc' : Nat} {lv : List (Nat × Value)} {st : List Value} {μ : zMem} {st0 : List Value} {idx n maxL d' : Nat} {y : MethodName} {bytes : ByteArray} {ty : FieldType}  (hlk : zLkS own idx y bytes maxL (some ty) n) (As : List Value) (hs : st0 = As.reverse ++ st) (hn : As.length = n) (hdp : d' + 1 ≤ d) (hst : (st.map fun v => v.category).sum ≤ 8) (hd : decode cc pc = .ok (.invokestatic idx, 3)) (hp : pc + 3 = pc') (k : zTi g y bytes maxL ty d' As μ (fun r μ' => zV g κ pc' lv (.int r :: st) μ')) : zV g κ pc lv st0 μ := by
  obtain ⟨⟨p, l, e, R, s, m⟩, ⟨args, below, meth, cx⟩, ⟨cells, slots, Q⟩, A⟩ := κ
  obtain ⟨hx, hb, hml, hown, hts, hKw, hSt, hA, hR, hC⟩ := X
  subst hp
  subst hs
  intro H locs ls hP hS hl
  have hAA : ∀ q, zA g q → A q := fun q ⟨k9, h9, e9⟩ => by rw [e9]; exact hA k9 h9
  have hrm : (zrm d').frames + 1 ≤ R.frames ∧ 8 + (maxL + 11) + (zrm d').locals ≤ R.locals := by
    have := hlk.1.2.2.2.2
    exact ⟨by show d' + 1 ≤ R.frames; omega, by show 8 + (maxL + 11) + 40 * d' ≤ R.locals; omega⟩
  rcases hlk.1.1 with h4 | ⟨host, h4⟩
  · have hcb := callB_of (ws' := zgw) (mc := 0) (ms := 0) (rm := zrm d') n hts (zgw_in hlk.1.2.2.1) rfl rfl rfl (hts _ hlk.1.2.1) (hts _ h4) hlk.1.2.2.2.1 hrm
    exact va_calli (va_runS (bytes := bytes) (maxL := maxL) (ret := (some ty)) (As := As) (rest := st) ⟨hx, hb, hml, hown, hts⟩ (k l) ⟨hcb, hts _ hlk.2⟩ ⟨zWd_blind g μ _, fun U hU hW => ⟨rfl, by rw [hU]; exact hP, hKw.warm hW, by rw [hU]; exact ((hSt.warm hW).kept hS.2.1).narrow hAA⟩⟩ rfl hn (hl.1.trans hml) rfl (lv_room hst) hd hC) hS (fun q _ h => hAA q h) hAA (fun r μ' t H1 locs1 ht _ hq hB _ _ hS1 => hq H1 locs1 ls (by rw [← ht]; exact hB.1) hS1 hl)
  · have hcb := va_cnB (ws' := zgw) (mc := 0) (ms := 0) (rm := zrm d') n hts (zgw_in hlk.1.2.2.1) rfl rfl rfl (hKw.2.2 _ h4 rfl) (hts _ hlk.1.2.1) hlk.1.2.2.2.1 hrm
    exact va_calli (va_runSN (bytes := bytes) (maxL := maxL) (ret := (some ty)) (As := As) (rest := st) ⟨hx, hb, hml, hown, hts⟩ (k l) ⟨hcb, hts _ hlk.2, trivial⟩ ⟨zWd_blind g μ _, fun U hU hW => ⟨rfl, by rw [hU]; exact hP, hKw.warm hW, by rw [hU]; exact ((hSt.warm hW).kept hS.2.1).narrow hAA⟩⟩ rfl hn (hl.1.trans hml) rfl (lv_room hst) hd hC) hS (fun q _ h => hAA q h) hAA (fun r μ' t H1 locs1 ht _ hq hB _ _ hS1 => hq H1 locs1 ls (by rw [← ht]; exact hB.1) hS1 hl)
theorem zi_callVi {g : zG} {κ : zK} {own : String} {cc : ByteArray} {nL d : Nat} (X : zC g κ own cc nL d) {pc pc' : Nat} {lv : List (Nat × Value)} {st : List Value} {μ : zMem} {st0 : List Value} {idx n maxL d' : Nat} {y : MethodName} {bytes : ByteArray} {ty : FieldType} {c k0 : Nat} (hlk : zLkV own idx y bytes maxL (some ty) n c) (hk : zkd k0 = c) (hc : c < 7) (As : List Value) (hs : st0 = As.reverse ++ .ref (zad g k0) :: st) (hn : As.length = n) (hdp : d' + 1 ≤ d) (hst : (st.map fun v => v.category).sum ≤ 8) (hd : decode cc pc = .ok (.invokevirtual idx, 3)) (hp : pc + 3 = pc') (k : zTi g y bytes maxL ty d' (.ref (zad g k0) :: As) μ (fun r μ' => zV g κ pc' lv (.int r :: st) μ')) : zV g κ pc lv st0 μ := by
  obtain ⟨⟨p, l, e, R, s, m⟩, ⟨args, below, meth, cx⟩, ⟨cells, slots, Q⟩, A⟩ := κ
  obtain ⟨hx, hb, hml, hown, hts, hKw, hSt, hA, hR, hC⟩ := X
  subst hp
  subst hs
  intro H locs ls hP hS hl
  have hAA : ∀ q, zA g q → A q := fun q ⟨k9, h9, e9⟩ => by rw [e9]; exact hA k9 h9
  have hrm : (zrm d').frames + 1 ≤ R.frames ∧ 8 + (maxL + 11) + (zrm d').locals ≤ R.locals := by
    have := hlk.1.2.2.2.2
    exact ⟨by show d' + 1 ≤ R.frames; omega, by show 8 + (maxL + 11) + 40 * d' ≤ R.locals; omega⟩
  obtain ⟨C, T, N, hCl, hsel⟩ := hlk.2.2
  have he := zwd_at (g := g) (μ := μ) (zkd_lt hk (by omega))
  rw [zcell_o _ hk hc] at he
  have hrv := va_recv hKw.1 hP hCl he
  rcases hlk.1.1 with h4 | ⟨host, h4⟩
  · have hcb := callB_of (ws' := zgw) (mc := 0) (ms := 0) (rm := zrm d') n hts (zgw_in hlk.1.2.2.1) rfl rfl rfl (hts _ hlk.1.2.1) (hts _ h4) hlk.1.2.2.2.1 hrm
    exact va_calli (va_runV (C := C) (bytes := bytes) (maxL := maxL) (ret := (some ty)) (As := As) (rest := st) ⟨hx, hb, hml, hown, hts⟩ (k l) ⟨hcb, hts _ hlk.2.1, hts _ hsel⟩ ⟨zWd_blind g μ _, hrv, fun U hU hW => ⟨rfl, by rw [hU]; exact hP, hKw.warm hW, by rw [hU]; exact ((hSt.warm hW).kept hS.2.1).narrow hAA⟩⟩ rfl hn (hl.1.trans hml) rfl (lv_room hst) hd hC) hS (fun q _ h => hAA q h) hAA (fun r μ' t H1 locs1 ht _ hq hB _ _ hS1 => hq H1 locs1 ls (by rw [← ht]; exact hB.1) hS1 hl)
  · have hcb := va_cnB (ws' := zgw) (mc := 0) (ms := 0) (rm := zrm d') n hts (zgw_in hlk.1.2.2.1) rfl rfl rfl (hKw.2.2 _ h4 rfl) (hts _ hlk.1.2.1) hlk.1.2.2.2.1 hrm
    exact va_calli (va_runVN (C := C) (bytes := bytes) (maxL := maxL) (ret := (some ty)) (As := As) (rest := st) ⟨hx, hb, hml, hown, hts⟩ (k l) ⟨hcb, hts _ hlk.2.1, hts _ hsel⟩ ⟨zWd_blind g μ _, hrv, fun U hU hW => ⟨rfl, by rw [hU]; exact hP, hKw.warm hW, by rw [hU]; exact ((hSt.warm hW).kept hS.2.1).narrow hAA⟩⟩ rfl hn (hl.1.trans hml) rfl (lv_room hst) hd hC) hS (fun q _ h => hAA q h) hAA (fun r μ' t H1 locs1 ht _ hq hB _ _ hS1 => hq H1 locs1 ls (by rw [← ht]; exact hB.1) hS1 hl)
theorem zi_callSl {g : zG} {κ : zK} {own : String} {cc : ByteArray} {nL d : Nat} (X : zC g κ own cc nL d) {pc pc' : Nat} {lv : List (Nat × Value)} {st : List Value} {μ : zMem} {st0 : List Value} {idx n maxL d' : Nat} {y : MethodName} {bytes : ByteArray}   (hlk : zLkS own idx y bytes maxL (some .long) n) (As : List Value) (hs : st0 = As.reverse ++ st) (hn : As.length = n) (hdp : d' + 1 ≤ d) (hst : (st.map fun v => v.category).sum ≤ 8) (hd : decode cc pc = .ok (.invokestatic idx, 3)) (hp : pc + 3 = pc') (k : zTl g y bytes maxL d' As μ (fun r μ' => zV g κ pc' lv (.long r :: st) μ')) : zV g κ pc lv st0 μ := by
  obtain ⟨⟨p, l, e, R, s, m⟩, ⟨args, below, meth, cx⟩, ⟨cells, slots, Q⟩, A⟩ := κ
  obtain ⟨hx, hb, hml, hown, hts, hKw, hSt, hA, hR, hC⟩ := X
  subst hp
  subst hs
  intro H locs ls hP hS hl
  have hAA : ∀ q, zA g q → A q := fun q ⟨k9, h9, e9⟩ => by rw [e9]; exact hA k9 h9
  have hrm : (zrm d').frames + 1 ≤ R.frames ∧ 8 + (maxL + 11) + (zrm d').locals ≤ R.locals := by
    have := hlk.1.2.2.2.2
    exact ⟨by show d' + 1 ≤ R.frames; omega, by show 8 + (maxL + 11) + 40 * d' ≤ R.locals; omega⟩
  rcases hlk.1.1 with h4 | ⟨host, h4⟩
  · have hcb := callB_of (ws' := zgw) (mc := 0) (ms := 0) (rm := zrm d') n hts (zgw_in hlk.1.2.2.1) rfl rfl rfl (hts _ hlk.1.2.1) (hts _ h4) hlk.1.2.2.2.1 hrm
    exact va_calll (va_runS (bytes := bytes) (maxL := maxL) (ret := (some .long)) (As := As) (rest := st) ⟨hx, hb, hml, hown, hts⟩ (k l) ⟨hcb, hts _ hlk.2⟩ ⟨zWd_blind g μ _, fun U hU hW => ⟨rfl, by rw [hU]; exact hP, hKw.warm hW, by rw [hU]; exact ((hSt.warm hW).kept hS.2.1).narrow hAA⟩⟩ rfl hn (hl.1.trans hml) rfl (lv_room hst) hd hC) hS (fun q _ h => hAA q h) hAA (fun r μ' t H1 locs1 ht _ hq hB _ _ hS1 => hq H1 locs1 ls (by rw [← ht]; exact hB.1) hS1 hl)
  · have hcb := va_cnB (ws' := zgw) (mc := 0) (ms := 0) (rm := zrm d') n hts (zgw_in hlk.1.2.2.1) rfl rfl rfl (hKw.2.2 _ h4 rfl) (hts _ hlk.1.2.1) hlk.1.2.2.2.1 hrm
    exact va_calll (va_runSN (bytes := bytes) (maxL := maxL) (ret := (some .long)) (As := As) (rest := st) ⟨hx, hb, hml, hown, hts⟩ (k l) ⟨hcb, hts _ hlk.2, trivial⟩ ⟨zWd_blind g μ _, fun U hU hW => ⟨rfl, by rw [hU]; exact hP, hKw.warm hW, by rw [hU]; exact ((hSt.warm hW).kept hS.2.1).narrow hAA⟩⟩ rfl hn (hl.1.trans hml) rfl (lv_room hst) hd hC) hS (fun q _ h => hAA q h) hAA (fun r μ' t H1 locs1 ht _ hq hB _ _ hS1 => hq H1 locs1 ls (by rw [← ht]; exact hB.1) hS1 hl)
theorem zi_callVl {g : zG} {κ : zK} {own : String} {cc : ByteArray} {nL d : Nat} (X : zC g κ own cc nL d) {pc pc' : Nat} {lv : List (Nat × Value)} {st : List Value} {μ : zMem} {st0 : List Value} {idx n maxL d' : Nat} {y : MethodName} {bytes : ByteArray}  {c k0 : Nat} (hlk : zLkV own idx y bytes maxL (some .long) n c) (hk : zkd k0 = c) (hc : c < 7) (As : List Value) (hs : st0 = As.reverse ++ .ref (zad g k0) :: st) (hn : As.length = n) (hdp : d' + 1 ≤ d) (hst : (st.map fun v => v.category).sum ≤ 8) (hd : decode cc pc = .ok (.invokevirtual idx, 3)) (hp : pc + 3 = pc') (k : zTl g y bytes maxL d' (.ref (zad g k0) :: As) μ (fun r μ' => zV g κ pc' lv (.long r :: st) μ')) : zV g κ pc lv st0 μ := by
  obtain ⟨⟨p, l, e, R, s, m⟩, ⟨args, below, meth, cx⟩, ⟨cells, slots, Q⟩, A⟩ := κ
  obtain ⟨hx, hb, hml, hown, hts, hKw, hSt, hA, hR, hC⟩ := X
  subst hp
  subst hs
  intro H locs ls hP hS hl
  have hAA : ∀ q, zA g q → A q := fun q ⟨k9, h9, e9⟩ => by rw [e9]; exact hA k9 h9
  have hrm : (zrm d').frames + 1 ≤ R.frames ∧ 8 + (maxL + 11) + (zrm d').locals ≤ R.locals := by
    have := hlk.1.2.2.2.2
    exact ⟨by show d' + 1 ≤ R.frames; omega, by show 8 + (maxL + 11) + 40 * d' ≤ R.locals; omega⟩
  obtain ⟨C, T, N, hCl, hsel⟩ := hlk.2.2
  have he := zwd_at (g := g) (μ := μ) (zkd_lt hk (by omega))
  rw [zcell_o _ hk hc] at he
  have hrv := va_recv hKw.1 hP hCl he
  rcases hlk.1.1 with h4 | ⟨host, h4⟩
  · have hcb := callB_of (ws' := zgw) (mc := 0) (ms := 0) (rm := zrm d') n hts (zgw_in hlk.1.2.2.1) rfl rfl rfl (hts _ hlk.1.2.1) (hts _ h4) hlk.1.2.2.2.1 hrm
    exact va_calll (va_runV (C := C) (bytes := bytes) (maxL := maxL) (ret := (some .long)) (As := As) (rest := st) ⟨hx, hb, hml, hown, hts⟩ (k l) ⟨hcb, hts _ hlk.2.1, hts _ hsel⟩ ⟨zWd_blind g μ _, hrv, fun U hU hW => ⟨rfl, by rw [hU]; exact hP, hKw.warm hW, by rw [hU]; exact ((hSt.warm hW).kept hS.2.1).narrow hAA⟩⟩ rfl hn (hl.1.trans hml) rfl (lv_room hst) hd hC) hS (fun q _ h => hAA q h) hAA (fun r μ' t H1 locs1 ht _ hq hB _ _ hS1 => hq H1 locs1 ls (by rw [← ht]; exact hB.1) hS1 hl)
  · have hcb := va_cnB (ws' := zgw) (mc := 0) (ms := 0) (rm := zrm d') n hts (zgw_in hlk.1.2.2.1) rfl rfl rfl (hKw.2.2 _ h4 rfl) (hts _ hlk.1.2.1) hlk.1.2.2.2.1 hrm
    exact va_calll (va_runVN (C := C) (bytes := bytes) (maxL := maxL) (ret := (some .long)) (As := As) (rest := st) ⟨hx, hb, hml, hown, hts⟩ (k l) ⟨hcb, hts _ hlk.2.1, hts _ hsel⟩ ⟨zWd_blind g μ _, hrv, fun U hU hW => ⟨rfl, by rw [hU]; exact hP, hKw.warm hW, by rw [hU]; exact ((hSt.warm hW).kept hS.2.1).narrow hAA⟩⟩ rfl hn (hl.1.trans hml) rfl (lv_room hst) hd hC) hS (fun q _ h => hAA q h) hAA (fun r μ' t H1 locs1 ht _ hq hB _ _ hS1 => hq H1 locs1 ls (by rw [← ht]; exact hB.1) hS1 hl)
theorem zi_callSv {g : zG} {κ : zK} {own : String} {cc : ByteArray} {nL d : Nat} (X : zC g κ own cc nL d) {pc pc' : Nat} {lv : List (Nat × Value)} {st : List Value} {μ : zMem} {st0 : List Value} {idx n maxL d' : Nat} {y : MethodName} {bytes : ByteArray}   (hlk : zLkS own idx y bytes maxL none n) (As : List Value) (hs : st0 = As.reverse ++ st) (hn : As.length = n) (hdp : d' + 1 ≤ d) (hst : (st.map fun v => v.category).sum ≤ 8) (hd : decode cc pc = .ok (.invokestatic idx, 3)) (hp : pc + 3 = pc') (k : zTv g y bytes maxL d' As μ (fun _ μ' => zV g κ pc' lv st μ')) : zV g κ pc lv st0 μ := by
  obtain ⟨⟨p, l, e, R, s, m⟩, ⟨args, below, meth, cx⟩, ⟨cells, slots, Q⟩, A⟩ := κ
  obtain ⟨hx, hb, hml, hown, hts, hKw, hSt, hA, hR, hC⟩ := X
  subst hp
  subst hs
  intro H locs ls hP hS hl
  have hAA : ∀ q, zA g q → A q := fun q ⟨k9, h9, e9⟩ => by rw [e9]; exact hA k9 h9
  have hrm : (zrm d').frames + 1 ≤ R.frames ∧ 8 + (maxL + 11) + (zrm d').locals ≤ R.locals := by
    have := hlk.1.2.2.2.2
    exact ⟨by show d' + 1 ≤ R.frames; omega, by show 8 + (maxL + 11) + 40 * d' ≤ R.locals; omega⟩
  rcases hlk.1.1 with h4 | ⟨host, h4⟩
  · have hcb := callB_of (ws' := zgw) (mc := 0) (ms := 0) (rm := zrm d') n hts (zgw_in hlk.1.2.2.1) rfl rfl rfl (hts _ hlk.1.2.1) (hts _ h4) hlk.1.2.2.2.1 hrm
    exact va_callv (va_runS (bytes := bytes) (maxL := maxL) (ret := none) (As := As) (rest := st) ⟨hx, hb, hml, hown, hts⟩ (k l) ⟨hcb, hts _ hlk.2⟩ ⟨zWd_blind g μ _, fun U hU hW => ⟨rfl, by rw [hU]; exact hP, hKw.warm hW, by rw [hU]; exact ((hSt.warm hW).kept hS.2.1).narrow hAA⟩⟩ rfl hn (hl.1.trans hml) rfl (lv_room hst) hd hC) hS (fun q _ h => hAA q h) hAA (fun μ' t H1 locs1 ht _ hq hB _ _ hS1 => hq H1 locs1 ls (by rw [← ht]; exact hB.1) hS1 hl)
  · have hcb := va_cnB (ws' := zgw) (mc := 0) (ms := 0) (rm := zrm d') n hts (zgw_in hlk.1.2.2.1) rfl rfl rfl (hKw.2.2 _ h4 rfl) (hts _ hlk.1.2.1) hlk.1.2.2.2.1 hrm
    exact va_callv (va_runSN (bytes := bytes) (maxL := maxL) (ret := none) (As := As) (rest := st) ⟨hx, hb, hml, hown, hts⟩ (k l) ⟨hcb, hts _ hlk.2, trivial⟩ ⟨zWd_blind g μ _, fun U hU hW => ⟨rfl, by rw [hU]; exact hP, hKw.warm hW, by rw [hU]; exact ((hSt.warm hW).kept hS.2.1).narrow hAA⟩⟩ rfl hn (hl.1.trans hml) rfl (lv_room hst) hd hC) hS (fun q _ h => hAA q h) hAA (fun μ' t H1 locs1 ht _ hq hB _ _ hS1 => hq H1 locs1 ls (by rw [← ht]; exact hB.1) hS1 hl)
theorem zi_callVv {g : zG} {κ : zK} {own : String} {cc : ByteArray} {nL d : Nat} (X : zC g κ own cc nL d) {pc pc' : Nat} {lv : List (Nat × Value)} {st : List Value} {μ : zMem} {st0 : List Value} {idx n maxL d' : Nat} {y : MethodName} {bytes : ByteArray}  {c k0 : Nat} (hlk : zLkV own idx y bytes maxL none n c) (hk : zkd k0 = c) (hc : c < 7) (As : List Value) (hs : st0 = As.reverse ++ .ref (zad g k0) :: st) (hn : As.length = n) (hdp : d' + 1 ≤ d) (hst : (st.map fun v => v.category).sum ≤ 8) (hd : decode cc pc = .ok (.invokevirtual idx, 3)) (hp : pc + 3 = pc') (k : zTv g y bytes maxL d' (.ref (zad g k0) :: As) μ (fun _ μ' => zV g κ pc' lv st μ')) : zV g κ pc lv st0 μ := by
  obtain ⟨⟨p, l, e, R, s, m⟩, ⟨args, below, meth, cx⟩, ⟨cells, slots, Q⟩, A⟩ := κ
  obtain ⟨hx, hb, hml, hown, hts, hKw, hSt, hA, hR, hC⟩ := X
  subst hp
  subst hs
  intro H locs ls hP hS hl
  have hAA : ∀ q, zA g q → A q := fun q ⟨k9, h9, e9⟩ => by rw [e9]; exact hA k9 h9
  have hrm : (zrm d').frames + 1 ≤ R.frames ∧ 8 + (maxL + 11) + (zrm d').locals ≤ R.locals := by
    have := hlk.1.2.2.2.2
    exact ⟨by show d' + 1 ≤ R.frames; omega, by show 8 + (maxL + 11) + 40 * d' ≤ R.locals; omega⟩
  obtain ⟨C, T, N, hCl, hsel⟩ := hlk.2.2
  have he := zwd_at (g := g) (μ := μ) (zkd_lt hk (by omega))
  rw [zcell_o _ hk hc] at he
  have hrv := va_recv hKw.1 hP hCl he
  rcases hlk.1.1 with h4 | ⟨host, h4⟩
  · have hcb := callB_of (ws' := zgw) (mc := 0) (ms := 0) (rm := zrm d') n hts (zgw_in hlk.1.2.2.1) rfl rfl rfl (hts _ hlk.1.2.1) (hts _ h4) hlk.1.2.2.2.1 hrm
    exact va_callv (va_runV (C := C) (bytes := bytes) (maxL := maxL) (ret := none) (As := As) (rest := st) ⟨hx, hb, hml, hown, hts⟩ (k l) ⟨hcb, hts _ hlk.2.1, hts _ hsel⟩ ⟨zWd_blind g μ _, hrv, fun U hU hW => ⟨rfl, by rw [hU]; exact hP, hKw.warm hW, by rw [hU]; exact ((hSt.warm hW).kept hS.2.1).narrow hAA⟩⟩ rfl hn (hl.1.trans hml) rfl (lv_room hst) hd hC) hS (fun q _ h => hAA q h) hAA (fun μ' t H1 locs1 ht _ hq hB _ _ hS1 => hq H1 locs1 ls (by rw [← ht]; exact hB.1) hS1 hl)
  · have hcb := va_cnB (ws' := zgw) (mc := 0) (ms := 0) (rm := zrm d') n hts (zgw_in hlk.1.2.2.1) rfl rfl rfl (hKw.2.2 _ h4 rfl) (hts _ hlk.1.2.1) hlk.1.2.2.2.1 hrm
    exact va_callv (va_runVN (C := C) (bytes := bytes) (maxL := maxL) (ret := none) (As := As) (rest := st) ⟨hx, hb, hml, hown, hts⟩ (k l) ⟨hcb, hts _ hlk.2.1, hts _ hsel⟩ ⟨zWd_blind g μ _, hrv, fun U hU hW => ⟨rfl, by rw [hU]; exact hP, hKw.warm hW, by rw [hU]; exact ((hSt.warm hW).kept hS.2.1).narrow hAA⟩⟩ rfl hn (hl.1.trans hml) rfl (lv_room hst) hd hC) hS (fun q _ h => hAA q h) hAA (fun μ' t H1 locs1 ht _ hq hB _ _ hS1 => hq H1 locs1 ls (by rw [← ht]; exact hB.1) hS1 hl)
theorem zi_callSs {g : zG} {κ : zK} {own : String} {cc : ByteArray} {nL d : Nat} (X : zC g κ own cc nL d) {pc pc' : Nat} {lv : List (Nat × Value)} {st : List Value} {μ : zMem} {st0 : List Value} {idx n maxL d' : Nat} {y : MethodName} {bytes : ByteArray} {ty : FieldType}  (hlk : zLkS own idx y bytes maxL (some ty) n) (As : List Value) (hs : st0 = As.reverse ++ st) (hn : As.length = n) (hdp : d' + 1 ≤ d) (hst : (st.map fun v => v.category).sum ≤ 8) (hd : decode cc pc = .ok (.invokestatic idx, 3)) (hp : pc + 3 = pc') (k : zTs g y bytes maxL ty d' As μ (fun r μ' => zV g κ pc' lv (.ref (zak g r) :: st) μ')) : zV g κ pc lv st0 μ := by
  obtain ⟨⟨p, l, e, R, s, m⟩, ⟨args, below, meth, cx⟩, ⟨cells, slots, Q⟩, A⟩ := κ
  obtain ⟨hx, hb, hml, hown, hts, hKw, hSt, hA, hR, hC⟩ := X
  subst hp
  subst hs
  intro H locs ls hP hS hl
  have hAA : ∀ q, zA g q → A q := fun q ⟨k9, h9, e9⟩ => by rw [e9]; exact hA k9 h9
  have hrm : (zrm d').frames + 1 ≤ R.frames ∧ 8 + (maxL + 11) + (zrm d').locals ≤ R.locals := by
    have := hlk.1.2.2.2.2
    exact ⟨by show d' + 1 ≤ R.frames; omega, by show 8 + (maxL + 11) + 40 * d' ≤ R.locals; omega⟩
  rcases hlk.1.1 with h4 | ⟨host, h4⟩
  · have hcb := callB_of (ws' := zgw) (mc := 0) (ms := 0) (rm := zrm d') n hts (zgw_in hlk.1.2.2.1) rfl rfl rfl (hts _ hlk.1.2.1) (hts _ h4) hlk.1.2.2.2.1 hrm
    exact va_callr (va_runS (bytes := bytes) (maxL := maxL) (ret := (some ty)) (As := As) (rest := st) ⟨hx, hb, hml, hown, hts⟩ (k l) ⟨hcb, hts _ hlk.2⟩ ⟨zWd_blind g μ _, fun U hU hW => ⟨rfl, by rw [hU]; exact hP, hKw.warm hW, by rw [hU]; exact ((hSt.warm hW).kept hS.2.1).narrow hAA⟩⟩ rfl hn (hl.1.trans hml) rfl (lv_room hst) hd hC) hS (fun q _ h => hAA q h) hAA (fun u ra t H1 locs1 ht _ hq hB _ _ hS1 => by rw [hB.1]; exact hq H1 locs1 ls (by rw [← ht]; exact hB.2.1) hS1 hl)
  · have hcb := va_cnB (ws' := zgw) (mc := 0) (ms := 0) (rm := zrm d') n hts (zgw_in hlk.1.2.2.1) rfl rfl rfl (hKw.2.2 _ h4 rfl) (hts _ hlk.1.2.1) hlk.1.2.2.2.1 hrm
    exact va_callr (va_runSN (bytes := bytes) (maxL := maxL) (ret := (some ty)) (As := As) (rest := st) ⟨hx, hb, hml, hown, hts⟩ (k l) ⟨hcb, hts _ hlk.2, trivial⟩ ⟨zWd_blind g μ _, fun U hU hW => ⟨rfl, by rw [hU]; exact hP, hKw.warm hW, by rw [hU]; exact ((hSt.warm hW).kept hS.2.1).narrow hAA⟩⟩ rfl hn (hl.1.trans hml) rfl (lv_room hst) hd hC) hS (fun q _ h => hAA q h) hAA (fun u ra t H1 locs1 ht _ hq hB _ _ hS1 => by rw [hB.1]; exact hq H1 locs1 ls (by rw [← ht]; exact hB.2.1) hS1 hl)
theorem zTi_of {g : zG} {y : MethodName} {cc : ByteArray} {nL d : Nat} {ty : FieldType} {As : List Value} {μ : zMem} {P : Int32 → Prop} {Q : Int32 → zMem → Prop} (hty : ∀ v, P v → narrow ty (.int v) = .int v) (own : String) (hy : plainName y.cls = true) (ho : y.cls = own) (hlen : (lg_sl As).length ≤ nL)
    (body : ∀ κ : zK, zC g κ own cc nL d → (∀ pc lv r μ', decode cc pc = .ok (.ireturn, 1) → P r → Q r μ' → zV g κ pc lv [.int r] μ') → zV g κ 0 (lv_args 0 As) [] μ) : zTi g y cc nL ty d As μ Q := by
  intro l
  refine Met.ofW (cc := cc) (maxL := nL) (ret := (some ty)) hy rfl ?_
  intro p e s m args below meth c s₁ B hml hv
  obtain ⟨rfl, hP, hKw, hSt⟩ := hv
  have hx := B.exec
  have hb := B.bytes
  have hr := B.returns
  have hts0 := atoms_spec (ws := .code y cc nL (some ty) :: zgw) B.pre
  have hts : ∀ w ∈ zgw, w.before As.toArray s = true := fun w h => hts0 w (List.mem_cons_of_mem _ h)
  have hown : s.vm.findClass own = some m.cls := ho ▸ findClass_of_methodNamed B.named
  have hlocks := B.notSynchronized
  have hl := lv_entry As (n := nL) hlen
  rw [lg_entry_eq]
  generalize (lg_sl As ++ List.replicate (nL - (lg_sl As).length) Slot.unset).toArray = ls at hl ⊢
  have key := body ((p, l, e, zrm d, s, m), (As.toArray, below, meth, c), (0, 0, MQ below (va_Qi Q (zWd g) (zA g)) As.toArray s 0 0 (zA g)), zA g) ⟨hx, hb, hml, hown, hts, hKw, hSt, fun k h => ⟨k, h, rfl⟩, ⟨Nat.le_refl _, Nat.le_refl _⟩, ⟨Nat.le_refl _, Nat.le_refl _⟩⟩ ?_
  · exact key s.heap [] ls hP va_S.rf (by rw [hml]; exact hl)
  · intro pc lv r μ' hd hP1 hQ H locs ls hPw hS hl
    exact W.zret hx hb hr (hty r hP1) (fun t ht hW => ⟨⟨r, μ', rfl, hQ, zWd_ret hKw hSt hPw hS ht hW⟩, hS.F ht⟩) hS.2.2 hd
theorem zTl_of {g : zG} {y : MethodName} {cc : ByteArray} {nL d : Nat}  {As : List Value} {μ : zMem} {Q : Int64 → zMem → Prop} (own : String) (hy : plainName y.cls = true) (ho : y.cls = own) (hlen : (lg_sl As).length ≤ nL)
    (body : ∀ κ : zK, zC g κ own cc nL d → (∀ pc lv r μ', decode cc pc = .ok (.lreturn, 1) → Q r μ' → zV g κ pc lv [.long r] μ') → zV g κ 0 (lv_args 0 As) [] μ) : zTl g y cc nL d As μ Q := by
  intro l
  refine Met.ofW (cc := cc) (maxL := nL) (ret := (some .long)) hy rfl ?_
  intro p e s m args below meth c s₁ B hml hv
  obtain ⟨rfl, hP, hKw, hSt⟩ := hv
  have hx := B.exec
  have hb := B.bytes
  have hr := B.returns
  have hts0 := atoms_spec (ws := .code y cc nL (some .long) :: zgw) B.pre
  have hts : ∀ w ∈ zgw, w.before As.toArray s = true := fun w h => hts0 w (List.mem_cons_of_mem _ h)
  have hown : s.vm.findClass own = some m.cls := ho ▸ findClass_of_methodNamed B.named
  have hlocks := B.notSynchronized
  have hl := lv_entry As (n := nL) hlen
  rw [lg_entry_eq]
  generalize (lg_sl As ++ List.replicate (nL - (lg_sl As).length) Slot.unset).toArray = ls at hl ⊢
  have key := body ((p, l, e, zrm d, s, m), (As.toArray, below, meth, c), (0, 0, MQ below (va_Ql Q (zWd g) (zA g)) As.toArray s 0 0 (zA g)), zA g) ⟨hx, hb, hml, hown, hts, hKw, hSt, fun k h => ⟨k, h, rfl⟩, ⟨Nat.le_refl _, Nat.le_refl _⟩, ⟨Nat.le_refl _, Nat.le_refl _⟩⟩ ?_
  · exact key s.heap [] ls hP va_S.rf (by rw [hml]; exact hl)
  · intro pc lv r μ' hd hQ H locs ls hPw hS hl
    exact W.lret hx hb hr (fun t ht hW => ⟨⟨r, μ', rfl, hQ, zWd_ret hKw hSt hPw hS ht hW⟩, hS.F ht⟩) hS.2.2 hd
theorem zTv_of {g : zG} {y : MethodName} {cc : ByteArray} {nL d : Nat}  {As : List Value} {μ : zMem} {Q : Unit → zMem → Prop} (own : String) (hy : plainName y.cls = true) (ho : y.cls = own) (hlen : (lg_sl As).length ≤ nL)
    (body : ∀ κ : zK, zC g κ own cc nL d → (∀ pc lv μ', decode cc pc = .ok (.return_, 1) → Q () μ' → zV g κ pc lv [] μ') → zV g κ 0 (lv_args 0 As) [] μ) : zTv g y cc nL d As μ Q := by
  intro l
  refine Met.ofW (cc := cc) (maxL := nL) (ret := none) hy rfl ?_
  intro p e s m args below meth c s₁ B hml hv
  obtain ⟨rfl, hP, hKw, hSt⟩ := hv
  have hx := B.exec
  have hb := B.bytes
  have hr := B.returns
  have hts0 := atoms_spec (ws := .code y cc nL none :: zgw) B.pre
  have hts : ∀ w ∈ zgw, w.before As.toArray s = true := fun w h => hts0 w (List.mem_cons_of_mem _ h)
  have hown : s.vm.findClass own = some m.cls := ho ▸ findClass_of_methodNamed B.named
  have hlocks := B.notSynchronized
  have hl := lv_entry As (n := nL) hlen
  rw [lg_entry_eq]
  generalize (lg_sl As ++ List.replicate (nL - (lg_sl As).length) Slot.unset).toArray = ls at hl ⊢
  have key := body ((p, l, e, zrm d, s, m), (As.toArray, below, meth, c), (0, 0, MQ below (va_Qv (Q ()) (zWd g) (zA g)) As.toArray s 0 0 (zA g)), zA g) ⟨hx, hb, hml, hown, hts, hKw, hSt, fun k h => ⟨k, h, rfl⟩, ⟨Nat.le_refl _, Nat.le_refl _⟩, ⟨Nat.le_refl _, Nat.le_refl _⟩⟩ ?_
  · exact key s.heap [] ls hP va_S.rf (by rw [hml]; exact hl)
  · intro pc lv μ' hd hQ H locs ls hPw hS hl
    exact W.vret hx hb hr (fun t ht hW => ⟨⟨μ', rfl, hQ, zWd_ret hKw hSt hPw hS ht hW⟩, hS.F ht⟩) hS.2.2 hd
theorem zTs_of {g : zG} {y : MethodName} {cc : ByteArray} {nL d : Nat} {ty : FieldType} {As : List Value} {μ : zMem} {Q : Nat → zMem → Prop} (hty : ∃ n, ty = .object n) (own : String) (hy : plainName y.cls = true) (ho : y.cls = own) (hlen : (lg_sl As).length ≤ nL)
    (body : ∀ κ : zK, zC g κ own cc nL d → (∀ pc lv r μ', decode cc pc = .ok (.areturn, 1) → Q r μ' → zV g κ pc lv [.ref (zak g r)] μ') → zV g κ 0 (lv_args 0 As) [] μ) : zTs g y cc nL ty d As μ Q := by
  intro l
  refine Met.ofW (cc := cc) (maxL := nL) (ret := (some ty)) hy rfl ?_
  intro p e s m args below meth c s₁ B hml hv
  obtain ⟨rfl, hP, hKw, hSt⟩ := hv
  have hx := B.exec
  have hb := B.bytes
  have hr := B.returns
  have hts0 := atoms_spec (ws := .code y cc nL (some ty) :: zgw) B.pre
  have hts : ∀ w ∈ zgw, w.before As.toArray s = true := fun w h => hts0 w (List.mem_cons_of_mem _ h)
  have hown : s.vm.findClass own = some m.cls := ho ▸ findClass_of_methodNamed B.named
  have hlocks := B.notSynchronized
  have hl := lv_entry As (n := nL) hlen
  rw [lg_entry_eq]
  generalize (lg_sl As ++ List.replicate (nL - (lg_sl As).length) Slot.unset).toArray = ls at hl ⊢
  have key := body ((p, l, e, zrm d, s, m), (As.toArray, below, meth, c), (0, 0, MQ below (va_Qr (S := Nat × zMem) (fun u => Q u.1 u.2) (fun u a t => a = zak g u.1 ∧ zWd g u.2 t) (zA g)) As.toArray s 0 0 (zA g)), zA g) ⟨hx, hb, hml, hown, hts, hKw, hSt, fun k h => ⟨k, h, rfl⟩, ⟨Nat.le_refl _, Nat.le_refl _⟩, ⟨Nat.le_refl _, Nat.le_refl _⟩⟩ ?_
  · exact key s.heap [] ls hP va_S.rf (by rw [hml]; exact hl)
  · intro pc lv r μ' hd hQ H locs ls hPw hS hl
    exact W.aret (v := .ref (zak g r)) hx hb hr (Or.inl hty) (Or.inr ⟨_, rfl⟩) (fun t ht hW => ⟨⟨(r, μ'), _, rfl, hQ, rfl, zWd_ret hKw hSt hPw hS ht hW⟩, hS.F ht⟩) hS.2.2 hd
