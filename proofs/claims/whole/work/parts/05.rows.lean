section AROWS
variable {g : AG} {n : MI} {d pc : Nat} {ls : List (Nat × AV)} {st : List AV} {M : AM} {Q : Option AV → AM → Prop}
theorem Wa_iconst {z : Int} (hd : decode n.2.1 pc = .ok (.iconst z, 1)) (k : Wa g n d (pc + 1) ls (vI z :: st) M Q) : Wa g n d pc ls (st) M Q := by
  intro p e R s m args below meth c H locs cells slots la QW C hR hP hS hl hF
  have K := (k p e R s m args below meth c H locs cells slots la QW C hR hP hS hl hF)
  exact lv_iconst C.1 C.2.1 hd rfl K
theorem Wa_bipush {z : Int} (hd : decode n.2.1 pc = .ok (.bipush z, 2)) (hz : (Int8.ofInt z).toInt32 = Int32.ofInt z) (k : Wa g n d (pc + 2) ls (vI z :: st) M Q) : Wa g n d pc ls (st) M Q := by
  intro p e R s m args below meth c H locs cells slots la QW C hR hP hS hl hF
  have K := (k p e R s m args below meth c H locs cells slots la QW C hR hP hS hl hF)
  exact lv_bipush C.1 C.2.1 hd hz K
theorem Wa_sipush {z : Int} (hd : decode n.2.1 pc = .ok (.sipush z, 3)) (hz : (Int16.ofInt z).toInt32 = Int32.ofInt z) (k : Wa g n d (pc + 3) ls (vI z :: st) M Q) : Wa g n d pc ls (st) M Q := by
  intro p e R s m args below meth c H locs cells slots la QW C hR hP hS hl hF
  have K := (k p e R s m args below meth c H locs cells slots la QW C hR hP hS hl hF)
  exact lv_sipush C.1 C.2.1 hd hz K
theorem Wa_lconst {z : Fin 2} {v : Int} (hd : decode n.2.1 pc = .ok (.lconst z, 1)) (hz : Int64.ofNat (z : Nat) = Int64.ofInt v) (k : Wa g n d (pc + 1) ls (vL v :: st) M Q) : Wa g n d pc ls (st) M Q := by
  intro p e R s m args below meth c H locs cells slots la QW C hR hP hS hl hF
  have K := (k p e R s m args below meth c H locs cells slots la QW C hR hP hS hl hF)
  exact lv_lconst C.1 C.2.1 hd hz K
theorem Wa_fconst0 (hd : decode n.2.1 pc = .ok (.fconst 0, 1)) (k : Wa g n d (pc + 1) ls (vF FP.fconst0 :: st) M Q) : Wa g n d pc ls (st) M Q := by
  intro p e R s m args below meth c H locs cells slots la QW C hR hP hS hl hF
  have K := (k p e R s m args below meth c H locs cells slots la QW C hR hP hS hl hF)
  exact lv_fconst0 C.1 C.2.1 hd K
theorem Wa_fconst1 (hd : decode n.2.1 pc = .ok (.fconst 1, 1)) (k : Wa g n d (pc + 1) ls (vF FP.fconst1 :: st) M Q) : Wa g n d pc ls (st) M Q := by
  intro p e R s m args below meth c H locs cells slots la QW C hR hP hS hl hF
  have K := (k p e R s m args below meth c H locs cells slots la QW C hR hP hS hl hF)
  exact lv_fconst1 C.1 C.2.1 hd K
theorem Wa_fconst2 (hd : decode n.2.1 pc = .ok (.fconst 2, 1)) (k : Wa g n d (pc + 1) ls (vF FP.fconst2 :: st) M Q) : Wa g n d pc ls (st) M Q := by
  intro p e R s m args below meth c H locs cells slots la QW C hR hP hS hl hF
  have K := (k p e R s m args below meth c H locs cells slots la QW C hR hP hS hl hF)
  exact lv_fconst2 C.1 C.2.1 hd K
theorem Wa_dconst0 (hd : decode n.2.1 pc = .ok (.dconst 0, 1)) (k : Wa g n d (pc + 1) ls (vD FP.dconst0 :: st) M Q) : Wa g n d pc ls (st) M Q := by
  intro p e R s m args below meth c H locs cells slots la QW C hR hP hS hl hF
  have K := (k p e R s m args below meth c H locs cells slots la QW C hR hP hS hl hF)
  exact lv_dconst0 C.1 C.2.1 hd K
theorem Wa_dconst1 (hd : decode n.2.1 pc = .ok (.dconst 1, 1)) (k : Wa g n d (pc + 1) ls (vD FP.dconst1 :: st) M Q) : Wa g n d pc ls (st) M Q := by
  intro p e R s m args below meth c H locs cells slots la QW C hR hP hS hl hF
  have K := (k p e R s m args below meth c H locs cells slots la QW C hR hP hS hl hF)
  exact lv_dconst1 C.1 C.2.1 hd K
theorem Wa_ldc {i : Nat} {z : Int} (hd : decode n.2.1 pc = .ok (.ldc i, 2)) (hw : Cond.constant n.1.cls i (Int32.ofInt z) ∈ WT) (k : Wa g n d (pc + 2) ls (vI z :: st) M Q) : Wa g n d pc ls st M Q := by
  intro p e R s m args below meth c H locs cells slots la QW C hR hP hS hl hF
  have K := (k p e R s m args below meth c H locs cells slots la QW C hR hP hS hl hF)
  exact lv_ldc C.1 C.2.1 C.2.2.2.1 (C.2.2.2.2.2.2.2.2.2.2.1 _ hw _) hd K
theorem Wa_ldcw {i : Nat} {z : Int} (hd : decode n.2.1 pc = .ok (.ldc_w i, 3)) (hw : Cond.constant n.1.cls i (Int32.ofInt z) ∈ WT) (k : Wa g n d (pc + 3) ls (vI z :: st) M Q) : Wa g n d pc ls st M Q := by
  intro p e R s m args below meth c H locs cells slots la QW C hR hP hS hl hF
  have K := (k p e R s m args below meth c H locs cells slots la QW C hR hP hS hl hF)
  exact lv_ldcw C.1 C.2.1 C.2.2.2.1 (C.2.2.2.2.2.2.2.2.2.2.1 _ hw _) hd K
theorem Wa_ldc2 {i : Nat} {z : Int} (hd : decode n.2.1 pc = .ok (.ldc2_w i, 3)) (hw : Cond.constantLong n.1.cls i (Int64.ofInt z) ∈ WT) (k : Wa g n d (pc + 3) ls (vL z :: st) M Q) : Wa g n d pc ls st M Q := by
  intro p e R s m args below meth c H locs cells slots la QW C hR hP hS hl hF
  have K := (k p e R s m args below meth c H locs cells slots la QW C hR hP hS hl hF)
  exact lv_ldc2 C.1 C.2.1 C.2.2.2.1 (C.2.2.2.2.2.2.2.2.2.2.1 _ hw _) hd K
theorem Wa_ldcf {i : Nat} {z : UInt32} (hd : decode n.2.1 pc = .ok (.ldc i, 2)) (hw : Cond.constantFloat n.1.cls i z ∈ WT) (k : Wa g n d (pc + 2) ls (vF z :: st) M Q) : Wa g n d pc ls st M Q := by
  intro p e R s m args below meth c H locs cells slots la QW C hR hP hS hl hF
  have K := (k p e R s m args below meth c H locs cells slots la QW C hR hP hS hl hF)
  exact lv_ldcf C.1 C.2.1 C.2.2.2.1 (C.2.2.2.2.2.2.2.2.2.2.1 _ hw _) hd K
theorem Wa_ldc2d {i : Nat} {z : UInt64} (hd : decode n.2.1 pc = .ok (.ldc2_w i, 3)) (hw : Cond.constantDouble n.1.cls i z ∈ WT) (k : Wa g n d (pc + 3) ls (vD z :: st) M Q) : Wa g n d pc ls st M Q := by
  intro p e R s m args below meth c H locs cells slots la QW C hR hP hS hl hF
  have K := (k p e R s m args below meth c H locs cells slots la QW C hR hP hS hl hF)
  exact lv_ldc2d C.1 C.2.1 C.2.2.2.1 (C.2.2.2.2.2.2.2.2.2.2.1 _ hw _) hd K
theorem la_at {la : Array Slot} {nL : Nat} (hl : lv_has la nL (ls.map (rvp (gad g)))) {k i : Nat} {v : AV} (hk : ls[k]? = some (i, v)) : la[i]? = some (.val (rv (gad g) v)) :=
  lv_at hl k (by rw [List.getElem?_map, hk]; rfl)
theorem Wa_iload_n (j : Nat) {q : Fin 4} {i : Nat} {z : Int} (hd : decode n.2.1 pc = .ok (.iload_n q, 1)) (hj : ls[j]? = some (i, vI z)) (hi : (q : Nat) = i) (k : Wa g n d (pc + 1) ls (vI z :: st) M Q) : Wa g n d pc ls st M Q := by
  intro p e R s m args below meth c H locs cells slots la QW C hR hP hS hl hF
  have K := (k p e R s m args below meth c H locs cells slots la QW C hR hP hS hl hF)
  exact lv_iload_n C.1 C.2.1 hd hi (la_at hl hj) K
theorem Wa_iload (j : Nat) {i : Nat} {z : Int} (hd : decode n.2.1 pc = .ok (.iload i, 2)) (hj : ls[j]? = some (i, vI z)) (k : Wa g n d (pc + 2) ls (vI z :: st) M Q) : Wa g n d pc ls st M Q := by
  intro p e R s m args below meth c H locs cells slots la QW C hR hP hS hl hF
  have K := (k p e R s m args below meth c H locs cells slots la QW C hR hP hS hl hF)
  exact lv_iload C.1 C.2.1 hd (la_at hl hj) K
theorem Wa_lload_n (j : Nat) {q : Fin 4} {i : Nat} {z : Int} (hd : decode n.2.1 pc = .ok (.lload_n q, 1)) (hj : ls[j]? = some (i, vL z)) (hi : (q : Nat) = i) (k : Wa g n d (pc + 1) ls (vL z :: st) M Q) : Wa g n d pc ls st M Q := by
  intro p e R s m args below meth c H locs cells slots la QW C hR hP hS hl hF
  have K := (k p e R s m args below meth c H locs cells slots la QW C hR hP hS hl hF)
  exact lv_lload_n C.1 C.2.1 hd hi (la_at hl hj) K
theorem Wa_lload (j : Nat) {i : Nat} {z : Int} (hd : decode n.2.1 pc = .ok (.lload i, 2)) (hj : ls[j]? = some (i, vL z)) (k : Wa g n d (pc + 2) ls (vL z :: st) M Q) : Wa g n d pc ls st M Q := by
  intro p e R s m args below meth c H locs cells slots la QW C hR hP hS hl hF
  have K := (k p e R s m args below meth c H locs cells slots la QW C hR hP hS hl hF)
  exact lv_lload C.1 C.2.1 hd (la_at hl hj) K
theorem Wa_fload_n (j : Nat) {q : Fin 4} {i : Nat} {z : UInt32} (hd : decode n.2.1 pc = .ok (.fload_n q, 1)) (hj : ls[j]? = some (i, vF z)) (hi : (q : Nat) = i) (k : Wa g n d (pc + 1) ls (vF z :: st) M Q) : Wa g n d pc ls st M Q := by
  intro p e R s m args below meth c H locs cells slots la QW C hR hP hS hl hF
  have K := (k p e R s m args below meth c H locs cells slots la QW C hR hP hS hl hF)
  exact lv_fload_n C.1 C.2.1 hd hi (la_at hl hj) K
theorem Wa_fload (j : Nat) {i : Nat} {z : UInt32} (hd : decode n.2.1 pc = .ok (.fload i, 2)) (hj : ls[j]? = some (i, vF z)) (k : Wa g n d (pc + 2) ls (vF z :: st) M Q) : Wa g n d pc ls st M Q := by
  intro p e R s m args below meth c H locs cells slots la QW C hR hP hS hl hF
  have K := (k p e R s m args below meth c H locs cells slots la QW C hR hP hS hl hF)
  exact lv_fload C.1 C.2.1 hd (la_at hl hj) K
theorem Wa_dload_n (j : Nat) {q : Fin 4} {i : Nat} {z : UInt64} (hd : decode n.2.1 pc = .ok (.dload_n q, 1)) (hj : ls[j]? = some (i, vD z)) (hi : (q : Nat) = i) (k : Wa g n d (pc + 1) ls (vD z :: st) M Q) : Wa g n d pc ls st M Q := by
  intro p e R s m args below meth c H locs cells slots la QW C hR hP hS hl hF
  have K := (k p e R s m args below meth c H locs cells slots la QW C hR hP hS hl hF)
  exact lv_dload_n C.1 C.2.1 hd hi (la_at hl hj) K
theorem Wa_dload (j : Nat) {i : Nat} {z : UInt64} (hd : decode n.2.1 pc = .ok (.dload i, 2)) (hj : ls[j]? = some (i, vD z)) (k : Wa g n d (pc + 2) ls (vD z :: st) M Q) : Wa g n d pc ls st M Q := by
  intro p e R s m args below meth c H locs cells slots la QW C hR hP hS hl hF
  have K := (k p e R s m args below meth c H locs cells slots la QW C hR hP hS hl hF)
  exact lv_dload C.1 C.2.1 hd (la_at hl hj) K
theorem Wa_aload_n (j : Nat) {q : Fin 4} {i : Nat} {z : Nat} (hd : decode n.2.1 pc = .ok (.aload_n q, 1)) (hj : ls[j]? = some (i, vR z)) (hi : (q : Nat) = i) (k : Wa g n d (pc + 1) ls (vR z :: st) M Q) : Wa g n d pc ls st M Q := by
  intro p e R s m args below meth c H locs cells slots la QW C hR hP hS hl hF
  have K := (k p e R s m args below meth c H locs cells slots la QW C hR hP hS hl hF)
  exact lv_aload_n C.1 C.2.1 hd hi (la_at hl hj) K
theorem Wa_aload (j : Nat) {i : Nat} {z : Nat} (hd : decode n.2.1 pc = .ok (.aload i, 2)) (hj : ls[j]? = some (i, vR z)) (k : Wa g n d (pc + 2) ls (vR z :: st) M Q) : Wa g n d pc ls st M Q := by
  intro p e R s m args below meth c H locs cells slots la QW C hR hP hS hl hF
  have K := (k p e R s m args below meth c H locs cells slots la QW C hR hP hS hl hF)
  exact lv_aload C.1 C.2.1 hd (la_at hl hj) K
def st1 (i : Nat) (ls : List (Nat × AV)) : List (Nat × AV) := ls.filter (fun q => !(q.1 == i) && !(q.1 + 1 == i && isW q.2))
def st2 (i : Nat) (ls : List (Nat × AV)) : List (Nat × AV) := ls.filter (fun q => !(q.1 == i) && (!(q.1 == i + 1) && !(q.1 + 1 == i && isW q.2)))
theorem st1_rv (ad : Nat → Nat) (i : Nat) (v : AV) (ls : List (Nat × AV)) : (i, rv ad v) :: (ls.map (rvp ad)).filter (fun q => !(q.1 == i) && !(q.1 + 1 == i && q.2.category == 2)) = ((i, v) :: st1 i ls).map (rvp ad) := by
  rw [List.filter_map, List.map_cons]
  congr 1
  unfold st1
  congr 1
  apply List.filter_congr
  intro q _
  simp only [Function.comp, rvp, rv_cat]
theorem st2_rv (ad : Nat → Nat) (i : Nat) (v : AV) (ls : List (Nat × AV)) : (i, rv ad v) :: (ls.map (rvp ad)).filter (fun q => !(q.1 == i) && (!(q.1 == i + 1) && !(q.1 + 1 == i && q.2.category == 2))) = ((i, v) :: st2 i ls).map (rvp ad) := by
  rw [List.filter_map, List.map_cons]
  congr 1
  unfold st2
  congr 1
  apply List.filter_congr
  intro q _
  simp only [Function.comp, rvp, rv_cat]
theorem Wa_istore_n {q : Fin 4} {i : Nat} {z : Int} {ls' : List (Nat × AV)} (hd : decode n.2.1 pc = .ok (.istore_n q, 1)) (hi : (q : Nat) = i) (hn : i < n.2.2.1) (hs : (i, vI z) :: st1 i ls = ls') (k : Wa g n d (pc + 1) ls' st M Q) : Wa g n d pc ls (vI z :: st) M Q := by
  intro p e R s m args below meth c H locs cells slots la QW C hR hP hS hl hF
  refine lv_istore_n C.1 C.2.1 hd hi hl hn (st1_rv (gad g) i (vI z) ls) (fun la' hl' => ?_)
  rw [hs] at hl'
  exact k p e R s m args below meth c H locs cells slots la' QW C hR hP hS hl' hF
theorem Wa_istore {i : Nat} {z : Int} {ls' : List (Nat × AV)} (hd : decode n.2.1 pc = .ok (.istore i, 2)) (hn : i < n.2.2.1) (hs : (i, vI z) :: st1 i ls = ls') (k : Wa g n d (pc + 2) ls' st M Q) : Wa g n d pc ls (vI z :: st) M Q := by
  intro p e R s m args below meth c H locs cells slots la QW C hR hP hS hl hF
  refine lv_istore C.1 C.2.1 hd hl hn (st1_rv (gad g) i (vI z) ls) (fun la' hl' => ?_)
  rw [hs] at hl'
  exact k p e R s m args below meth c H locs cells slots la' QW C hR hP hS hl' hF
theorem Wa_lstore_n {q : Fin 4} {i : Nat} {z : Int} {ls' : List (Nat × AV)} (hd : decode n.2.1 pc = .ok (.lstore_n q, 1)) (hi : (q : Nat) = i) (hn : i + 1 < n.2.2.1) (hs : (i, vL z) :: st2 i ls = ls') (k : Wa g n d (pc + 1) ls' st M Q) : Wa g n d pc ls (vL z :: st) M Q := by
  intro p e R s m args below meth c H locs cells slots la QW C hR hP hS hl hF
  refine lv_lstore_n C.1 C.2.1 hd hi hl hn (st2_rv (gad g) i (vL z) ls) (fun la' hl' => ?_)
  rw [hs] at hl'
  exact k p e R s m args below meth c H locs cells slots la' QW C hR hP hS hl' hF
theorem Wa_lstore {i : Nat} {z : Int} {ls' : List (Nat × AV)} (hd : decode n.2.1 pc = .ok (.lstore i, 2)) (hn : i + 1 < n.2.2.1) (hs : (i, vL z) :: st2 i ls = ls') (k : Wa g n d (pc + 2) ls' st M Q) : Wa g n d pc ls (vL z :: st) M Q := by
  intro p e R s m args below meth c H locs cells slots la QW C hR hP hS hl hF
  refine lv_lstore C.1 C.2.1 hd hl hn (st2_rv (gad g) i (vL z) ls) (fun la' hl' => ?_)
  rw [hs] at hl'
  exact k p e R s m args below meth c H locs cells slots la' QW C hR hP hS hl' hF
theorem Wa_fstore_n {q : Fin 4} {i : Nat} {z : UInt32} {ls' : List (Nat × AV)} (hd : decode n.2.1 pc = .ok (.fstore_n q, 1)) (hi : (q : Nat) = i) (hn : i < n.2.2.1) (hs : (i, vF z) :: st1 i ls = ls') (k : Wa g n d (pc + 1) ls' st M Q) : Wa g n d pc ls (vF z :: st) M Q := by
  intro p e R s m args below meth c H locs cells slots la QW C hR hP hS hl hF
  refine lv_fstore_n C.1 C.2.1 hd hi hl hn (st1_rv (gad g) i (vF z) ls) (fun la' hl' => ?_)
  rw [hs] at hl'
  exact k p e R s m args below meth c H locs cells slots la' QW C hR hP hS hl' hF
theorem Wa_fstore {i : Nat} {z : UInt32} {ls' : List (Nat × AV)} (hd : decode n.2.1 pc = .ok (.fstore i, 2)) (hn : i < n.2.2.1) (hs : (i, vF z) :: st1 i ls = ls') (k : Wa g n d (pc + 2) ls' st M Q) : Wa g n d pc ls (vF z :: st) M Q := by
  intro p e R s m args below meth c H locs cells slots la QW C hR hP hS hl hF
  refine lv_fstore C.1 C.2.1 hd hl hn (st1_rv (gad g) i (vF z) ls) (fun la' hl' => ?_)
  rw [hs] at hl'
  exact k p e R s m args below meth c H locs cells slots la' QW C hR hP hS hl' hF
theorem Wa_dstore_n {q : Fin 4} {i : Nat} {z : UInt64} {ls' : List (Nat × AV)} (hd : decode n.2.1 pc = .ok (.dstore_n q, 1)) (hi : (q : Nat) = i) (hn : i + 1 < n.2.2.1) (hs : (i, vD z) :: st2 i ls = ls') (k : Wa g n d (pc + 1) ls' st M Q) : Wa g n d pc ls (vD z :: st) M Q := by
  intro p e R s m args below meth c H locs cells slots la QW C hR hP hS hl hF
  refine lv_dstore_n C.1 C.2.1 hd hi hl hn (st2_rv (gad g) i (vD z) ls) (fun la' hl' => ?_)
  rw [hs] at hl'
  exact k p e R s m args below meth c H locs cells slots la' QW C hR hP hS hl' hF
theorem Wa_dstore {i : Nat} {z : UInt64} {ls' : List (Nat × AV)} (hd : decode n.2.1 pc = .ok (.dstore i, 2)) (hn : i + 1 < n.2.2.1) (hs : (i, vD z) :: st2 i ls = ls') (k : Wa g n d (pc + 2) ls' st M Q) : Wa g n d pc ls (vD z :: st) M Q := by
  intro p e R s m args below meth c H locs cells slots la QW C hR hP hS hl hF
  refine lv_dstore C.1 C.2.1 hd hl hn (st2_rv (gad g) i (vD z) ls) (fun la' hl' => ?_)
  rw [hs] at hl'
  exact k p e R s m args below meth c H locs cells slots la' QW C hR hP hS hl' hF
theorem Wa_astore_n {q : Fin 4} {i : Nat} {z : Nat} {ls' : List (Nat × AV)} (hd : decode n.2.1 pc = .ok (.astore_n q, 1)) (hi : (q : Nat) = i) (hn : i < n.2.2.1) (hs : (i, vR z) :: st1 i ls = ls') (k : Wa g n d (pc + 1) ls' st M Q) : Wa g n d pc ls (vR z :: st) M Q := by
  intro p e R s m args below meth c H locs cells slots la QW C hR hP hS hl hF
  refine lv_astore_n C.1 C.2.1 hd hi hl hn (st1_rv (gad g) i (vR z) ls) (fun la' hl' => ?_)
  rw [hs] at hl'
  exact k p e R s m args below meth c H locs cells slots la' QW C hR hP hS hl' hF
theorem Wa_astore {i : Nat} {z : Nat} {ls' : List (Nat × AV)} (hd : decode n.2.1 pc = .ok (.astore i, 2)) (hn : i < n.2.2.1) (hs : (i, vR z) :: st1 i ls = ls') (k : Wa g n d (pc + 2) ls' st M Q) : Wa g n d pc ls (vR z :: st) M Q := by
  intro p e R s m args below meth c H locs cells slots la QW C hR hP hS hl hF
  refine lv_astore C.1 C.2.1 hd hl hn (st1_rv (gad g) i (vR z) ls) (fun la' hl' => ?_)
  rw [hs] at hl'
  exact k p e R s m args below meth c H locs cells slots la' QW C hR hP hS hl' hF
theorem Wa_iinc (j : Nat) {i : Nat} {x z : Int} {ls' : List (Nat × AV)} (hd : decode n.2.1 pc = .ok (.iinc i x, 3)) (hj : ls[j]? = some (i, vI z)) (hn : i < n.2.2.1) (hs : (i, vI (z + x)) :: st1 i ls = ls') (k : Wa g n d (pc + 3) ls' st M Q) : Wa g n d pc ls st M Q := by
  intro p e R s m args below meth c H locs cells slots la QW C hR hP hS hl hF
  refine lv_iinc (k := j) (v := Int32.ofInt (z + x)) C.1 C.2.1 hd hl (by rw [List.getElem?_map, hj]; rfl) (Int32.ofInt_add z x).symm hn (st1_rv (gad g) i (vI (z + x)) ls) (fun la' hl' => ?_)
  rw [hs] at hl'
  exact k p e R s m args below meth c H locs cells slots la' QW C hR hP hS hl' hF
theorem Wa_iadd {x y : Int} (hd : decode n.2.1 pc = .ok (.iadd, 1)) (k : Wa g n d (pc + 1) ls (vI (x + y) :: st) M Q) : Wa g n d pc ls (vI y :: vI x :: st) M Q := by
  intro p e R s m args below meth c H locs cells slots la QW C hR hP hS hl hF
  have K := (k p e R s m args below meth c H locs cells slots la QW C hR hP hS hl hF)
  have E : Int32.ofInt (x + y) = Int32.ofInt x + Int32.ofInt y := Int32.ofInt_add x y
  simp only [List.map_cons, rv, E] at K
  exact lv_iadd C.1 C.2.1 hd K
theorem Wa_isub {x y : Int} (hd : decode n.2.1 pc = .ok (.isub, 1)) (k : Wa g n d (pc + 1) ls (vI (x - y) :: st) M Q) : Wa g n d pc ls (vI y :: vI x :: st) M Q := by
  intro p e R s m args below meth c H locs cells slots la QW C hR hP hS hl hF
  have K := (k p e R s m args below meth c H locs cells slots la QW C hR hP hS hl hF)
  have E : Int32.ofInt (x - y) = Int32.ofInt x - Int32.ofInt y := Int32.ofInt_sub x y
  simp only [List.map_cons, rv, E] at K
  exact lv_isub C.1 C.2.1 hd K
theorem Wa_imul {x y : Int} (hd : decode n.2.1 pc = .ok (.imul, 1)) (k : Wa g n d (pc + 1) ls (vI (x * y) :: st) M Q) : Wa g n d pc ls (vI y :: vI x :: st) M Q := by
  intro p e R s m args below meth c H locs cells slots la QW C hR hP hS hl hF
  have K := (k p e R s m args below meth c H locs cells slots la QW C hR hP hS hl hF)
  have E : Int32.ofInt (x * y) = Int32.ofInt x * Int32.ofInt y := Int32.ofInt_mul x y
  simp only [List.map_cons, rv, E] at K
  exact lv_imul C.1 C.2.1 hd K
def iDiv (x y : Int) : Int := (Int32.ofInt x / Int32.ofInt y).toInt
def iRem (x y : Int) : Int := (Int32.ofInt x - Int32.ofInt x / Int32.ofInt y * Int32.ofInt y).toInt
def iAnd (x y : Int) : Int := (Int32.ofInt x &&& Int32.ofInt y).toInt
def iOr (x y : Int) : Int := (Int32.ofInt x ||| Int32.ofInt y).toInt
def iShl (x y : Int) : Int := (Int32.ofInt x <<< (Int32.ofInt y &&& 31)).toInt
def iShr (x y : Int) : Int := (Int32.ofInt x >>> (Int32.ofInt y &&& 31)).toInt
theorem Wa_idiv {x y : Int} (hd : decode n.2.1 pc = .ok (.idiv, 1)) (hne : ¬ Int32.ofInt y = 0) (k : Wa g n d (pc + 1) ls (vI (iDiv x y) :: st) M Q) : Wa g n d pc ls (vI y :: vI x :: st) M Q := by
  intro p e R s m args below meth c H locs cells slots la QW C hR hP hS hl hF
  have K := (k p e R s m args below meth c H locs cells slots la QW C hR hP hS hl hF)
  have E : Int32.ofInt (iDiv x y) = Int32.ofInt x / Int32.ofInt y := Int32.ofInt_toInt _
  simp only [List.map_cons, rv, E] at K
  exact lv_idiv C.1 C.2.1 hd hne K
theorem Wa_irem {x y : Int} (hd : decode n.2.1 pc = .ok (.irem, 1)) (hne : ¬ Int32.ofInt y = 0) (k : Wa g n d (pc + 1) ls (vI (iRem x y) :: st) M Q) : Wa g n d pc ls (vI y :: vI x :: st) M Q := by
  intro p e R s m args below meth c H locs cells slots la QW C hR hP hS hl hF
  have K := (k p e R s m args below meth c H locs cells slots la QW C hR hP hS hl hF)
  have E : Int32.ofInt (iRem x y) = Int32.ofInt x - Int32.ofInt x / Int32.ofInt y * Int32.ofInt y := Int32.ofInt_toInt _
  simp only [List.map_cons, rv, E] at K
  exact lv_irem C.1 C.2.1 hd hne K
theorem Wa_iand {x y : Int} (hd : decode n.2.1 pc = .ok (.iand, 1)) (k : Wa g n d (pc + 1) ls (vI (iAnd x y) :: st) M Q) : Wa g n d pc ls (vI y :: vI x :: st) M Q := by
  intro p e R s m args below meth c H locs cells slots la QW C hR hP hS hl hF
  have K := (k p e R s m args below meth c H locs cells slots la QW C hR hP hS hl hF)
  have E : Int32.ofInt (iAnd x y) = Int32.ofInt x &&& Int32.ofInt y := Int32.ofInt_toInt _
  simp only [List.map_cons, rv, E] at K
  exact lv_iand C.1 C.2.1 hd K
theorem Wa_ior {x y : Int} (hd : decode n.2.1 pc = .ok (.ior, 1)) (k : Wa g n d (pc + 1) ls (vI (iOr x y) :: st) M Q) : Wa g n d pc ls (vI y :: vI x :: st) M Q := by
  intro p e R s m args below meth c H locs cells slots la QW C hR hP hS hl hF
  have K := (k p e R s m args below meth c H locs cells slots la QW C hR hP hS hl hF)
  have E : Int32.ofInt (iOr x y) = Int32.ofInt x ||| Int32.ofInt y := Int32.ofInt_toInt _
  simp only [List.map_cons, rv, E] at K
  exact lv_ior C.1 C.2.1 hd K
theorem Wa_ishl {x y : Int} (hd : decode n.2.1 pc = .ok (.ishl, 1)) (k : Wa g n d (pc + 1) ls (vI (iShl x y) :: st) M Q) : Wa g n d pc ls (vI y :: vI x :: st) M Q := by
  intro p e R s m args below meth c H locs cells slots la QW C hR hP hS hl hF
  have K := (k p e R s m args below meth c H locs cells slots la QW C hR hP hS hl hF)
  have E : Int32.ofInt (iShl x y) = Int32.ofInt x <<< (Int32.ofInt y &&& 31) := Int32.ofInt_toInt _
  simp only [List.map_cons, rv, E] at K
  exact lv_ishl C.1 C.2.1 hd K
theorem Wa_ishr {x y : Int} (hd : decode n.2.1 pc = .ok (.ishr, 1)) (k : Wa g n d (pc + 1) ls (vI (iShr x y) :: st) M Q) : Wa g n d pc ls (vI y :: vI x :: st) M Q := by
  intro p e R s m args below meth c H locs cells slots la QW C hR hP hS hl hF
  have K := (k p e R s m args below meth c H locs cells slots la QW C hR hP hS hl hF)
  have E : Int32.ofInt (iShr x y) = Int32.ofInt x >>> (Int32.ofInt y &&& 31) := Int32.ofInt_toInt _
  simp only [List.map_cons, rv, E] at K
  exact lv_ishr C.1 C.2.1 hd K
theorem Wa_ladd {x y : Int} (hd : decode n.2.1 pc = .ok (.ladd, 1)) (k : Wa g n d (pc + 1) ls (vL (x + y) :: st) M Q) : Wa g n d pc ls (vL y :: vL x :: st) M Q := by
  intro p e R s m args below meth c H locs cells slots la QW C hR hP hS hl hF
  have K := (k p e R s m args below meth c H locs cells slots la QW C hR hP hS hl hF)
  have E : Int64.ofInt (x + y) = Int64.ofInt x + Int64.ofInt y := Int64.ofInt_add x y
  simp only [List.map_cons, rv, E] at K
  exact lv_ladd C.1 C.2.1 hd K
theorem Wa_lsub {x y : Int} (hd : decode n.2.1 pc = .ok (.lsub, 1)) (k : Wa g n d (pc + 1) ls (vL (x - y) :: st) M Q) : Wa g n d pc ls (vL y :: vL x :: st) M Q := by
  intro p e R s m args below meth c H locs cells slots la QW C hR hP hS hl hF
  have K := (k p e R s m args below meth c H locs cells slots la QW C hR hP hS hl hF)
  have E : Int64.ofInt (x - y) = Int64.ofInt x - Int64.ofInt y := Int64.ofInt_sub x y
  simp only [List.map_cons, rv, E] at K
  exact lv_lsub C.1 C.2.1 hd K
theorem Wa_lmul {x y : Int} (hd : decode n.2.1 pc = .ok (.lmul, 1)) (k : Wa g n d (pc + 1) ls (vL (x * y) :: st) M Q) : Wa g n d pc ls (vL y :: vL x :: st) M Q := by
  intro p e R s m args below meth c H locs cells slots la QW C hR hP hS hl hF
  have K := (k p e R s m args below meth c H locs cells slots la QW C hR hP hS hl hF)
  have E : Int64.ofInt (x * y) = Int64.ofInt x * Int64.ofInt y := Int64.ofInt_mul x y
  simp only [List.map_cons, rv, E] at K
  exact lv_lmul C.1 C.2.1 hd K
def lDiv (x y : Int) : Int := (Int64.ofInt x / Int64.ofInt y).toInt
def lRem (x y : Int) : Int := (Int64.ofInt x - Int64.ofInt x / Int64.ofInt y * Int64.ofInt y).toInt
def lAnd (x y : Int) : Int := (Int64.ofInt x &&& Int64.ofInt y).toInt
def lOr (x y : Int) : Int := (Int64.ofInt x ||| Int64.ofInt y).toInt
def lShl (x y : Int) : Int := (Int64.ofInt x <<< ((Int32.ofInt y).toInt64 &&& 63)).toInt
theorem Wa_ldiv {x y : Int} (hd : decode n.2.1 pc = .ok (.ldiv, 1)) (hne : ¬ Int64.ofInt y = 0) (k : Wa g n d (pc + 1) ls (vL (lDiv x y) :: st) M Q) : Wa g n d pc ls (vL y :: vL x :: st) M Q := by
  intro p e R s m args below meth c H locs cells slots la QW C hR hP hS hl hF
  have K := (k p e R s m args below meth c H locs cells slots la QW C hR hP hS hl hF)
  have E : Int64.ofInt (lDiv x y) = Int64.ofInt x / Int64.ofInt y := Int64.ofInt_toInt _
  simp only [List.map_cons, rv, E] at K
  exact lv_ldiv C.1 C.2.1 hd hne K
theorem Wa_lrem {x y : Int} (hd : decode n.2.1 pc = .ok (.lrem, 1)) (hne : ¬ Int64.ofInt y = 0) (k : Wa g n d (pc + 1) ls (vL (lRem x y) :: st) M Q) : Wa g n d pc ls (vL y :: vL x :: st) M Q := by
  intro p e R s m args below meth c H locs cells slots la QW C hR hP hS hl hF
  have K := (k p e R s m args below meth c H locs cells slots la QW C hR hP hS hl hF)
  have E : Int64.ofInt (lRem x y) = Int64.ofInt x - Int64.ofInt x / Int64.ofInt y * Int64.ofInt y := Int64.ofInt_toInt _
  simp only [List.map_cons, rv, E] at K
  exact lv_lrem C.1 C.2.1 hd hne K
theorem Wa_land {x y : Int} (hd : decode n.2.1 pc = .ok (.land, 1)) (k : Wa g n d (pc + 1) ls (vL (lAnd x y) :: st) M Q) : Wa g n d pc ls (vL y :: vL x :: st) M Q := by
  intro p e R s m args below meth c H locs cells slots la QW C hR hP hS hl hF
  have K := (k p e R s m args below meth c H locs cells slots la QW C hR hP hS hl hF)
  have E : Int64.ofInt (lAnd x y) = Int64.ofInt x &&& Int64.ofInt y := Int64.ofInt_toInt _
  simp only [List.map_cons, rv, E] at K
  exact lv_land C.1 C.2.1 hd K
theorem Wa_lor {x y : Int} (hd : decode n.2.1 pc = .ok (.lor, 1)) (k : Wa g n d (pc + 1) ls (vL (lOr x y) :: st) M Q) : Wa g n d pc ls (vL y :: vL x :: st) M Q := by
  intro p e R s m args below meth c H locs cells slots la QW C hR hP hS hl hF
  have K := (k p e R s m args below meth c H locs cells slots la QW C hR hP hS hl hF)
  have E : Int64.ofInt (lOr x y) = Int64.ofInt x ||| Int64.ofInt y := Int64.ofInt_toInt _
  simp only [List.map_cons, rv, E] at K
  exact lv_lor C.1 C.2.1 hd K
theorem Wa_lshl {x y : Int} (hd : decode n.2.1 pc = .ok (.lshl, 1)) (k : Wa g n d (pc + 1) ls (vL (lShl x y) :: st) M Q) : Wa g n d pc ls (vI y :: vL x :: st) M Q := by
  intro p e R s m args below meth c H locs cells slots la QW C hR hP hS hl hF
  have K := (k p e R s m args below meth c H locs cells slots la QW C hR hP hS hl hF)
  exact lv_lshl C.1 C.2.1 hd (Int64.ofInt_toInt _).symm K
theorem Wa_i2l {x : Int} (hd : decode n.2.1 pc = .ok (.i2l, 1)) (hr : rg x) (k : Wa g n d (pc + 1) ls (vL x :: st) M Q) : Wa g n d pc ls (vI x :: st) M Q := by
  intro p e R s m args below meth c H locs cells slots la QW C hR hP hS hl hF
  have K := (k p e R s m args below meth c H locs cells slots la QW C hR hP hS hl hF)
  refine lv_i2l C.1 C.2.1 hd (Int32.toInt64_ofInt hr.1 ?_) K
  have := hr.2
  show x ≤ 2147483647
  omega
def l2I (x : Int) : Int := (Int32.ofInt x).toInt
theorem Wa_l2i {x : Int} (hd : decode n.2.1 pc = .ok (.l2i, 1)) (k : Wa g n d (pc + 1) ls (vI (l2I x) :: st) M Q) : Wa g n d pc ls (vL x :: st) M Q := by
  intro p e R s m args below meth c H locs cells slots la QW C hR hP hS hl hF
  have K := (k p e R s m args below meth c H locs cells slots la QW C hR hP hS hl hF)
  refine lv_l2i C.1 C.2.1 hd ?_ K
  rw [Int64.toInt32_ofInt]
  exact (Int32.ofInt_toInt _).symm
def fCmp (x y : UInt32) (o : CmpOp) : Int := (Op.cmpValue (FP.fcmp x y) o).toInt
def dCmp (x y : UInt64) (o : CmpOp) : Int := (Op.cmpValue (FP.dcmp x y) o).toInt
def lCmp (x y : Int) : Int := (lg_cmp (Int64.ofInt x) (Int64.ofInt y)).toInt
def f2I (x : UInt32) : Int := (FP.f2i x).toInt
def d2L (x : UInt64) : Int := (FP.d2l x).toInt
theorem Wa_fcmp {x y : UInt32} {o : CmpOp} (hd : decode n.2.1 pc = .ok (.fcmp o, 1)) (k : Wa g n d (pc + 1) ls (vI (fCmp x y o) :: st) M Q) : Wa g n d pc ls (vF y :: vF x :: st) M Q := by
  intro p e R s m args below meth c H locs cells slots la QW C hR hP hS hl hF
  have K := (k p e R s m args below meth c H locs cells slots la QW C hR hP hS hl hF)
  simp only [List.map_cons, rv, fCmp, Int32.ofInt_toInt] at K
  exact lv_fcmp C.1 C.2.1 hd K
theorem Wa_dcmp {x y : UInt64} {o : CmpOp} (hd : decode n.2.1 pc = .ok (.dcmp o, 1)) (k : Wa g n d (pc + 1) ls (vI (dCmp x y o) :: st) M Q) : Wa g n d pc ls (vD y :: vD x :: st) M Q := by
  intro p e R s m args below meth c H locs cells slots la QW C hR hP hS hl hF
  have K := (k p e R s m args below meth c H locs cells slots la QW C hR hP hS hl hF)
  simp only [List.map_cons, rv, dCmp, Int32.ofInt_toInt] at K
  exact lv_dcmp C.1 C.2.1 hd K
theorem Wa_lcmp {x y : Int} (hd : decode n.2.1 pc = .ok (.lcmp, 1)) (k : Wa g n d (pc + 1) ls (vI (lCmp x y) :: st) M Q) : Wa g n d pc ls (vL y :: vL x :: st) M Q := by
  intro p e R s m args below meth c H locs cells slots la QW C hR hP hS hl hF
  have K := (k p e R s m args below meth c H locs cells slots la QW C hR hP hS hl hF)
  simp only [List.map_cons, rv, lCmp, Int32.ofInt_toInt] at K
  exact W.lcmp C.1 C.2.1 hd K
theorem Wa_i2f {x : Int} (hd : decode n.2.1 pc = .ok (.i2f, 1)) (k : Wa g n d (pc + 1) ls (vF (FP.i2f (Int32.ofInt x)) :: st) M Q) : Wa g n d pc ls (vI x :: st) M Q := by
  intro p e R s m args below meth c H locs cells slots la QW C hR hP hS hl hF
  exact lv_i2f C.1 C.2.1 hd (k p e R s m args below meth c H locs cells slots la QW C hR hP hS hl hF)
theorem Wa_i2d {x : Int} (hd : decode n.2.1 pc = .ok (.i2d, 1)) (k : Wa g n d (pc + 1) ls (vD (FP.i2d (Int32.ofInt x)) :: st) M Q) : Wa g n d pc ls (vI x :: st) M Q := by
  intro p e R s m args below meth c H locs cells slots la QW C hR hP hS hl hF
  exact lv_i2d C.1 C.2.1 hd (k p e R s m args below meth c H locs cells slots la QW C hR hP hS hl hF)
theorem Wa_f2i {x : UInt32} (hd : decode n.2.1 pc = .ok (.f2i, 1)) (k : Wa g n d (pc + 1) ls (vI (f2I x) :: st) M Q) : Wa g n d pc ls (vF x :: st) M Q := by
  intro p e R s m args below meth c H locs cells slots la QW C hR hP hS hl hF
  have K := (k p e R s m args below meth c H locs cells slots la QW C hR hP hS hl hF)
  simp only [List.map_cons, rv, f2I, Int32.ofInt_toInt] at K
  exact lv_f2i C.1 C.2.1 hd K
theorem Wa_d2l {x : UInt64} (hd : decode n.2.1 pc = .ok (.d2l, 1)) (k : Wa g n d (pc + 1) ls (vL (d2L x) :: st) M Q) : Wa g n d pc ls (vD x :: st) M Q := by
  intro p e R s m args below meth c H locs cells slots la QW C hR hP hS hl hF
  have K := (k p e R s m args below meth c H locs cells slots la QW C hR hP hS hl hF)
  simp only [List.map_cons, rv, d2L, Int64.ofInt_toInt] at K
  exact lv_d2l C.1 C.2.1 hd K
theorem Wa_fdiv {x y : UInt32} (hd : decode n.2.1 pc = .ok (.fdiv, 1)) (hne : vf_n32 (FP.fdiv x y)) (k : Wa g n d (pc + 1) ls (vF (FP.fdiv x y) :: st) M Q) : Wa g n d pc ls (vF y :: vF x :: st) M Q := by
  intro p e R s m args below meth c H locs cells slots la QW C hR hP hS hl hF
  exact lv_fdiv C.1 C.2.1 hd hne (k p e R s m args below meth c H locs cells slots la QW C hR hP hS hl hF)
theorem Wa_fmul {x y : UInt32} (hd : decode n.2.1 pc = .ok (.fmul, 1)) (hne : vf_n32 (FP.fmul x y)) (k : Wa g n d (pc + 1) ls (vF (FP.fmul x y) :: st) M Q) : Wa g n d pc ls (vF y :: vF x :: st) M Q := by
  intro p e R s m args below meth c H locs cells slots la QW C hR hP hS hl hF
  exact lv_fmul C.1 C.2.1 hd hne (k p e R s m args below meth c H locs cells slots la QW C hR hP hS hl hF)
theorem Wa_ddiv {x y : UInt64} (hd : decode n.2.1 pc = .ok (.ddiv, 1)) (hne : vf_n64 (FP.ddiv x y)) (k : Wa g n d (pc + 1) ls (vD (FP.ddiv x y) :: st) M Q) : Wa g n d pc ls (vD y :: vD x :: st) M Q := by
  intro p e R s m args below meth c H locs cells slots la QW C hR hP hS hl hF
  exact lv_ddiv C.1 C.2.1 hd hne (k p e R s m args below meth c H locs cells slots la QW C hR hP hS hl hF)
theorem Wa_dmul {x y : UInt64} (hd : decode n.2.1 pc = .ok (.dmul, 1)) (hne : vf_n64 (FP.dmul x y)) (k : Wa g n d (pc + 1) ls (vD (FP.dmul x y) :: st) M Q) : Wa g n d pc ls (vD y :: vD x :: st) M Q := by
  intro p e R s m args below meth c H locs cells slots la QW C hR hP hS hl hF
  exact lv_dmul C.1 C.2.1 hd hne (k p e R s m args below meth c H locs cells slots la QW C hR hP hS hl hF)
theorem cat1 {ad : Nat → Nat} {v : AV} (h : isW v = false) : (rv ad v).category = 1 := by
  rcases lv_cat (rv ad v) with q | q
  · exact q
  · rw [rv_cat2, h] at q
    cases q
theorem Wa_dup {v : AV} (hd : decode n.2.1 pc = .ok (.dup, 1)) (hv : isW v = false) (k : Wa g n d (pc + 1) ls (v :: v :: st) M Q) : Wa g n d pc ls (v :: st) M Q := by
  intro p e R s m args below meth c H locs cells slots la QW C hR hP hS hl hF
  exact lv_dup C.1 C.2.1 hd (cat1 hv) (k p e R s m args below meth c H locs cells slots la QW C hR hP hS hl hF)
theorem Wa_pop {v : AV} (hd : decode n.2.1 pc = .ok (.pop, 1)) (hv : isW v = false) (k : Wa g n d (pc + 1) ls st M Q) : Wa g n d pc ls (v :: st) M Q := by
  intro p e R s m args below meth c H locs cells slots la QW C hR hP hS hl hF
  exact lv_pop C.1 C.2.1 hd (cat1 hv) (k p e R s m args below meth c H locs cells slots la QW C hR hP hS hl hF)
theorem Wa_dup2 {v u : AV} (hd : decode n.2.1 pc = .ok (.dup2, 1)) (hv : isW v = false) (hu : isW u = false) (k : Wa g n d (pc + 1) ls (v :: u :: v :: u :: st) M Q) : Wa g n d pc ls (v :: u :: st) M Q := by
  intro p e R s m args below meth c H locs cells slots la QW C hR hP hS hl hF
  exact lv_dup2_11 C.1 C.2.1 hd (cat1 hv) (cat1 hu) (k p e R s m args below meth c H locs cells slots la QW C hR hP hS hl hF)
theorem rg_0 : rg 0 := ⟨by decide, by decide⟩
theorem rg_eq {x y : Int} (hx : rg x) (hy : rg y) : Int32.ofInt x = Int32.ofInt y ↔ x = y := by
  refine ⟨fun h => ?_, fun h => by rw [h]⟩
  have := congrArg Int32.toInt h
  rwa [rg_back hx, rg_back hy] at this
theorem rg_lt {x y : Int} (hx : rg x) (hy : rg y) : Int32.ofInt x < Int32.ofInt y ↔ x < y := by
  rw [Int32.lt_iff_toInt_lt, rg_back hx, rg_back hy]
theorem rg_le {x y : Int} (hx : rg x) (hy : rg y) : Int32.ofInt x ≤ Int32.ofInt y ↔ x ≤ y := by
  rw [Int32.le_iff_toInt_le, rg_back hx, rg_back hy]
theorem Wa_icmp_eq {x y : Int} {off : Int} {tgt : Nat} (hd : decode n.2.1 pc = .ok (.if_icmp .eq off, 3)) (ht : (pc : Int) + off = (tgt : Int)) (hx : rg x) (hy : rg y) (kt : x = y → Wa g n d tgt ls st M Q) (kf : ¬ x = y → Wa g n d (pc + 3) ls st M Q) : Wa g n d pc ls (vI y :: vI x :: st) M Q := by
  intro p e R s m args below meth c H locs cells slots la QW C hR hP hS hl hF
  have E0 := rg_eq hx hy
  have E := rg_eq hx hy
  exact lv_icmp_eq C.1 C.2.1 hd ht (fun h => kt (E.mp h) p e R s m args below meth c H locs cells slots la QW C hR hP hS hl hF) (fun h => kf (fun q => h (E.mpr q)) p e R s m args below meth c H locs cells slots la QW C hR hP hS hl hF)
theorem Wa_if_eq {x : Int} {off : Int} {tgt : Nat} (hd : decode n.2.1 pc = .ok (.ifCond .eq off, 3)) (ht : (pc : Int) + off = (tgt : Int)) (hx : rg x) (kt : x = 0 → Wa g n d tgt ls st M Q) (kf : ¬ x = 0 → Wa g n d (pc + 3) ls st M Q) : Wa g n d pc ls (vI x :: st) M Q := by
  intro p e R s m args below meth c H locs cells slots la QW C hR hP hS hl hF
  have E0 := rg_eq hx rg_0
  have E := rg_eq hx rg_0
  exact lv_if_eq C.1 C.2.1 hd ht (fun h => kt (E.mp h) p e R s m args below meth c H locs cells slots la QW C hR hP hS hl hF) (fun h => kf (fun q => h (E.mpr q)) p e R s m args below meth c H locs cells slots la QW C hR hP hS hl hF)
theorem Wa_icmp_ne {x y : Int} {off : Int} {tgt : Nat} (hd : decode n.2.1 pc = .ok (.if_icmp .ne off, 3)) (ht : (pc : Int) + off = (tgt : Int)) (hx : rg x) (hy : rg y) (kt : ¬ x = y → Wa g n d tgt ls st M Q) (kf : x = y → Wa g n d (pc + 3) ls st M Q) : Wa g n d pc ls (vI y :: vI x :: st) M Q := by
  intro p e R s m args below meth c H locs cells slots la QW C hR hP hS hl hF
  have E0 := rg_eq hx hy
  have E := not_congr (rg_eq hx hy)
  exact lv_icmp_ne C.1 C.2.1 hd ht (fun h => kt (E.mp h) p e R s m args below meth c H locs cells slots la QW C hR hP hS hl hF) (fun h => kf (E0.mp h) p e R s m args below meth c H locs cells slots la QW C hR hP hS hl hF)
theorem Wa_if_ne {x : Int} {off : Int} {tgt : Nat} (hd : decode n.2.1 pc = .ok (.ifCond .ne off, 3)) (ht : (pc : Int) + off = (tgt : Int)) (hx : rg x) (kt : ¬ x = 0 → Wa g n d tgt ls st M Q) (kf : x = 0 → Wa g n d (pc + 3) ls st M Q) : Wa g n d pc ls (vI x :: st) M Q := by
  intro p e R s m args below meth c H locs cells slots la QW C hR hP hS hl hF
  have E0 := rg_eq hx rg_0
  have E := not_congr (rg_eq hx rg_0)
  exact lv_if_ne C.1 C.2.1 hd ht (fun h => kt (E.mp h) p e R s m args below meth c H locs cells slots la QW C hR hP hS hl hF) (fun h => kf (E0.mp h) p e R s m args below meth c H locs cells slots la QW C hR hP hS hl hF)
theorem Wa_icmp_lt {x y : Int} {off : Int} {tgt : Nat} (hd : decode n.2.1 pc = .ok (.if_icmp .lt off, 3)) (ht : (pc : Int) + off = (tgt : Int)) (hx : rg x) (hy : rg y) (kt : x < y → Wa g n d tgt ls st M Q) (kf : ¬ x < y → Wa g n d (pc + 3) ls st M Q) : Wa g n d pc ls (vI y :: vI x :: st) M Q := by
  intro p e R s m args below meth c H locs cells slots la QW C hR hP hS hl hF
  have E0 := rg_eq hx hy
  have E := rg_lt hx hy
  exact lv_icmp_lt C.1 C.2.1 hd ht (fun h => kt (E.mp h) p e R s m args below meth c H locs cells slots la QW C hR hP hS hl hF) (fun h => kf (fun q => h (E.mpr q)) p e R s m args below meth c H locs cells slots la QW C hR hP hS hl hF)
theorem Wa_if_lt {x : Int} {off : Int} {tgt : Nat} (hd : decode n.2.1 pc = .ok (.ifCond .lt off, 3)) (ht : (pc : Int) + off = (tgt : Int)) (hx : rg x) (kt : x < 0 → Wa g n d tgt ls st M Q) (kf : ¬ x < 0 → Wa g n d (pc + 3) ls st M Q) : Wa g n d pc ls (vI x :: st) M Q := by
  intro p e R s m args below meth c H locs cells slots la QW C hR hP hS hl hF
  have E0 := rg_eq hx rg_0
  have E := rg_lt hx rg_0
  exact lv_if_lt C.1 C.2.1 hd ht (fun h => kt (E.mp h) p e R s m args below meth c H locs cells slots la QW C hR hP hS hl hF) (fun h => kf (fun q => h (E.mpr q)) p e R s m args below meth c H locs cells slots la QW C hR hP hS hl hF)
theorem Wa_icmp_ge {x y : Int} {off : Int} {tgt : Nat} (hd : decode n.2.1 pc = .ok (.if_icmp .ge off, 3)) (ht : (pc : Int) + off = (tgt : Int)) (hx : rg x) (hy : rg y) (kt : y ≤ x → Wa g n d tgt ls st M Q) (kf : ¬ y ≤ x → Wa g n d (pc + 3) ls st M Q) : Wa g n d pc ls (vI y :: vI x :: st) M Q := by
  intro p e R s m args below meth c H locs cells slots la QW C hR hP hS hl hF
  have E0 := rg_eq hx hy
  have E := rg_le hy hx
  exact lv_icmp_ge C.1 C.2.1 hd ht (fun h => kt (E.mp h) p e R s m args below meth c H locs cells slots la QW C hR hP hS hl hF) (fun h => kf (fun q => h (E.mpr q)) p e R s m args below meth c H locs cells slots la QW C hR hP hS hl hF)
theorem Wa_if_ge {x : Int} {off : Int} {tgt : Nat} (hd : decode n.2.1 pc = .ok (.ifCond .ge off, 3)) (ht : (pc : Int) + off = (tgt : Int)) (hx : rg x) (kt : 0 ≤ x → Wa g n d tgt ls st M Q) (kf : ¬ 0 ≤ x → Wa g n d (pc + 3) ls st M Q) : Wa g n d pc ls (vI x :: st) M Q := by
  intro p e R s m args below meth c H locs cells slots la QW C hR hP hS hl hF
  have E0 := rg_eq hx rg_0
  have E := rg_le rg_0 hx
  exact lv_if_ge C.1 C.2.1 hd ht (fun h => kt (E.mp h) p e R s m args below meth c H locs cells slots la QW C hR hP hS hl hF) (fun h => kf (fun q => h (E.mpr q)) p e R s m args below meth c H locs cells slots la QW C hR hP hS hl hF)
theorem Wa_icmp_gt {x y : Int} {off : Int} {tgt : Nat} (hd : decode n.2.1 pc = .ok (.if_icmp .gt off, 3)) (ht : (pc : Int) + off = (tgt : Int)) (hx : rg x) (hy : rg y) (kt : y < x → Wa g n d tgt ls st M Q) (kf : ¬ y < x → Wa g n d (pc + 3) ls st M Q) : Wa g n d pc ls (vI y :: vI x :: st) M Q := by
  intro p e R s m args below meth c H locs cells slots la QW C hR hP hS hl hF
  have E0 := rg_eq hx hy
  have E := rg_lt hy hx
  exact lv_icmp_gt C.1 C.2.1 hd ht (fun h => kt (E.mp h) p e R s m args below meth c H locs cells slots la QW C hR hP hS hl hF) (fun h => kf (fun q => h (E.mpr q)) p e R s m args below meth c H locs cells slots la QW C hR hP hS hl hF)
theorem Wa_if_gt {x : Int} {off : Int} {tgt : Nat} (hd : decode n.2.1 pc = .ok (.ifCond .gt off, 3)) (ht : (pc : Int) + off = (tgt : Int)) (hx : rg x) (kt : 0 < x → Wa g n d tgt ls st M Q) (kf : ¬ 0 < x → Wa g n d (pc + 3) ls st M Q) : Wa g n d pc ls (vI x :: st) M Q := by
  intro p e R s m args below meth c H locs cells slots la QW C hR hP hS hl hF
  have E0 := rg_eq hx rg_0
  have E := rg_lt rg_0 hx
  exact lv_if_gt C.1 C.2.1 hd ht (fun h => kt (E.mp h) p e R s m args below meth c H locs cells slots la QW C hR hP hS hl hF) (fun h => kf (fun q => h (E.mpr q)) p e R s m args below meth c H locs cells slots la QW C hR hP hS hl hF)
theorem Wa_icmp_le {x y : Int} {off : Int} {tgt : Nat} (hd : decode n.2.1 pc = .ok (.if_icmp .le off, 3)) (ht : (pc : Int) + off = (tgt : Int)) (hx : rg x) (hy : rg y) (kt : x ≤ y → Wa g n d tgt ls st M Q) (kf : ¬ x ≤ y → Wa g n d (pc + 3) ls st M Q) : Wa g n d pc ls (vI y :: vI x :: st) M Q := by
  intro p e R s m args below meth c H locs cells slots la QW C hR hP hS hl hF
  have E0 := rg_eq hx hy
  have E := rg_le hx hy
  exact lv_icmp_le C.1 C.2.1 hd ht (fun h => kt (E.mp h) p e R s m args below meth c H locs cells slots la QW C hR hP hS hl hF) (fun h => kf (fun q => h (E.mpr q)) p e R s m args below meth c H locs cells slots la QW C hR hP hS hl hF)
theorem Wa_if_le {x : Int} {off : Int} {tgt : Nat} (hd : decode n.2.1 pc = .ok (.ifCond .le off, 3)) (ht : (pc : Int) + off = (tgt : Int)) (hx : rg x) (kt : x ≤ 0 → Wa g n d tgt ls st M Q) (kf : ¬ x ≤ 0 → Wa g n d (pc + 3) ls st M Q) : Wa g n d pc ls (vI x :: st) M Q := by
  intro p e R s m args below meth c H locs cells slots la QW C hR hP hS hl hF
  have E0 := rg_eq hx rg_0
  have E := rg_le hx rg_0
  exact lv_if_le C.1 C.2.1 hd ht (fun h => kt (E.mp h) p e R s m args below meth c H locs cells slots la QW C hR hP hS hl hF) (fun h => kf (fun q => h (E.mpr q)) p e R s m args below meth c H locs cells slots la QW C hR hP hS hl hF)
theorem Wa_goto {off : Int} {tgt : Nat} (hd : decode n.2.1 pc = .ok (.goto off, 3)) (ht : (pc : Int) + off = (tgt : Int)) (k : Wa g n d tgt ls st M Q) : Wa g n d pc ls st M Q := by
  intro p e R s m args below meth c H locs cells slots la QW C hR hP hS hl hF
  exact lv_goto C.1 C.2.1 hd ht (k p e R s m args below meth c H locs cells slots la QW C hR hP hS hl hF)
theorem Wa_tabOut {dflt lo hi : Int} {offs : Array Int} {len : Nat} {x : Int} {tgt : Nat} (hd : decode n.2.1 pc = .ok (.tableswitch dflt lo hi offs, len)) (hx : rg x) (h : x < lo ∨ hi < x) (ht : (pc : Int) + dflt = (tgt : Int)) (k : Wa g n d tgt ls st M Q) : Wa g n d pc ls (vI x :: st) M Q := by
  intro p e R s m args below meth c H locs cells slots la QW C hR hP hS hl hF
  exact lv_tableOut C.1 C.2.1 hd (by rw [rg_back hx]; exact h) ht (k p e R s m args below meth c H locs cells slots la QW C hR hP hS hl hF)
theorem Wa_tabIn {dflt lo hi : Int} {offs : Array Int} {len : Nat} {x : Int} {off : Int} {tgt : Nat} (hd : decode n.2.1 pc = .ok (.tableswitch dflt lo hi offs, len)) (hx : rg x) (h1 : ¬ x < lo) (h2 : ¬ hi < x) (ho : offs[(x - lo).toNat]? = some off) (ht : (pc : Int) + off = (tgt : Int)) (k : Wa g n d tgt ls st M Q) : Wa g n d pc ls (vI x :: st) M Q := by
  intro p e R s m args below meth c H locs cells slots la QW C hR hP hS hl hF
  exact lv_tableIn C.1 C.2.1 hd (by rw [rg_back hx]; exact h1) (by rw [rg_back hx]; exact h2) (by rw [rg_back hx]; exact ho) ht (k p e R s m args below meth c H locs cells slots la QW C hR hP hS hl hF)
theorem Wa_sub {ls' : List (Nat × AV)} (ks : List Nat) (h : ks.filterMap (fun k => ls[k]?) = ls') (k : Wa g n d pc ls' st M Q) : Wa g n d pc ls st M Q := by
  intro p e R s m args below meth c H locs cells slots la QW C hR hP hS hl hF
  refine k p e R s m args below meth c H locs cells slots la QW C hR hP hS ⟨hl.1, hl.2.1, fun q hq => ?_⟩ hF
  refine hl.2.2 q ?_
  obtain ⟨x, hx, rfl⟩ := List.mem_map.mp hq
  rw [← h] at hx
  obtain ⟨j, -, hj⟩ := List.mem_filterMap.mp hx
  exact List.mem_map.mpr ⟨x, List.mem_of_getElem? hj, rfl⟩
theorem Wa_rm (k : RM M → Wa g n d pc ls st M Q) : Wa g n d pc ls st M Q := by
  intro p e R s m args below meth c H locs cells slots la QW C hR hP hS hl hF
  exact k hR p e R s m args below meth c H locs cells slots la QW C hR hP hS hl hF
theorem Wa_ireturn {z : Int} (hd : decode n.2.1 pc = .ok (.ireturn, 1)) (hr : n.2.2.2 = some .int) (k : Q (some (vI z)) M) : Wa g n d pc ls [vI z] M Q := by
  intro p e R s m args below meth c H locs cells slots la QW C hR hP hS hl hF
  exact hF (some (vI z)) M H locs pc la k hR hP hS ⟨hd, Or.inl hr⟩
theorem Wa_zreturn {z : Int} (hd : decode n.2.1 pc = .ok (.ireturn, 1)) (hr : n.2.2.2 = some .boolean) (hz : z = 0 ∨ z = 1) (k : Q (some (vI z)) M) : Wa g n d pc ls [vI z] M Q := by
  intro p e R s m args below meth c H locs cells slots la QW C hR hP hS hl hF
  exact hF (some (vI z)) M H locs pc la k hR hP hS ⟨hd, Or.inr ⟨hr, hz⟩⟩
theorem Wa_lreturn {z : Int} (hd : decode n.2.1 pc = .ok (.lreturn, 1)) (hr : n.2.2.2 = some .long) (k : Q (some (vL z)) M) : Wa g n d pc ls [vL z] M Q := by
  intro p e R s m args below meth c H locs cells slots la QW C hR hP hS hl hF
  exact hF (some (vL z)) M H locs pc la k hR hP hS ⟨hd, hr⟩
theorem Wa_freturn {z : UInt32} (hd : decode n.2.1 pc = .ok (.freturn, 1)) (hr : n.2.2.2 = some .float) (k : Q (some (vF z)) M) : Wa g n d pc ls [vF z] M Q := by
  intro p e R s m args below meth c H locs cells slots la QW C hR hP hS hl hF
  exact hF (some (vF z)) M H locs pc la k hR hP hS ⟨hd, hr⟩
theorem Wa_return (hd : decode n.2.1 pc = .ok (.return_, 1)) (hr : n.2.2.2 = none) (k : Q none M) : Wa g n d pc ls [] M Q := by
  intro p e R s m args below meth c H locs cells slots la QW C hR hP hS hl hF
  exact hF none M H locs pc la k hR hP hS ⟨hd, hr⟩
end AROWS
