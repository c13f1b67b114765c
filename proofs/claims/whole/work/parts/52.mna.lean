/-! new int[n][k]: a row of my own for the machine's multianewarray (the kit's names paper has none that can be used here) -/
def rwO (cA : ClassId) (N h i : Nat) : Cell := arrV cA N (fun j => if j < i then .ref (h + 1 + j) else .null)
def rwI (cC : ClassId) (K : Nat) : Cell := arrV cC K (fun _ => .int 0)
theorem rwO_s (cA : ClassId) (N h i : Nat) : (rwO cA N h i).setSlot i (.ref (h + 1 + i)) = rwO cA N h (i + 1) := by
  unfold rwO
  rw [arrV_store]
  congr 1
  funext j
  by_cases e : j = i
  · subst e
    simp [updV]
  · by_cases q : j < i
    · simp [updV, e, q, Nat.lt_succ_of_lt q]
    · simp [updV, e, q, show ¬ j < i + 1 by omega]
def gst (T : State) (cA cC : ClassId) (N K : Nat) : Nat → State
  | 0 => T.pushCell (rwO cA N T.heap.size 0)
  | i + 1 => ((gst T cA cC N K i).pushCell (rwI cC K)).setCell T.heap.size (rwO cA N T.heap.size (i + 1))
theorem gst_s (T : State) (cA cC : ClassId) (N K i : Nat) : gst T cA cC N K (i + 1) = ((gst T cA cC N K i).pushCell (rwI cC K)).setCell T.heap.size (rwO cA N T.heap.size (i + 1)) := rfl
theorem gst_ok (T : State) (cA cC : ClassId) (N K : Nat) : ∀ i, (gst T cA cC N K i).heap.size = T.heap.size + 1 + i ∧ (gst T cA cC N K i).heap[T.heap.size]? = some (rwO cA N T.heap.size i) ∧ (gst T cA cC N K i).vm = T.vm ∧ (gst T cA cC N K i).slotsUsed = T.slotsUsed + N + i * K ∧ (∀ a, a < T.heap.size → (gst T cA cC N K i).heap[a]? = T.heap[a]?) ∧ ∀ j, j < i → (gst T cA cC N K i).heap[T.heap.size + 1 + j]? = some (rwI cC K) := by
  intro i
  induction i with
  | zero =>
    refine ⟨by simp [gst], by simp [gst], rfl, by simp [gst, rwO, arrV_size], fun a ha => ?_, fun j h => absurd h (Nat.not_lt_zero _)⟩
    exact State.heap_pushCell_of_lt _ _ ha
  | succ i ih =>
    obtain ⟨a1, a2, a3, a4, a5, a6⟩ := ih
    have lt : T.heap.size < (gst T cA cC N K i).heap.size := by omega
    have at0 : ((gst T cA cC N K i).pushCell (rwI cC K)).heap[T.heap.size]? = some (rwO cA N T.heap.size i) := by
      rw [State.heap_pushCell_of_lt (h := lt)]
      exact a2
    refine ⟨?_, State.heap_setCell_self at0, by simp [gst_s, a3], ?_, fun a ha => ?_, fun j hj => ?_⟩
    · simp [gst_s, State.setCell, a1]
      omega
    · simp [gst_s, a4, rwI, arrV_size, Nat.succ_mul]
      omega
    · rw [gst_s, State.heap_setCell_other (Nat.ne_of_gt ha), State.heap_pushCell_of_lt (h := (show a < (gst T cA cC N K i).heap.size by omega))]
      exact a5 a ha
    · rw [gst_s, State.heap_setCell_other (show T.heap.size ≠ T.heap.size + 1 + j by omega)]
      rcases Nat.lt_or_ge j i with q | q
      · rw [State.heap_pushCell_of_lt (h := (show T.heap.size + 1 + j < (gst T cA cC N K i).heap.size by omega))]
        exact a6 j q
      · rw [show T.heap.size + 1 + j = (gst T cA cC N K i).heap.size by omega]
        exact State.heap_pushCell_size _ _
theorem gst_top (T : State) (f : JFrame) (cA cC : ClassId) (N K : Nat) : ∀ i, gst (T.setTop f) cA cC N K i = (gst T cA cC N K i).setTop f := by
  intro i
  induction i with
  | zero => rfl
  | succ i ih => rw [gst_s, gst_s, ih, State.heap_setTop, State.pushCell_setTop, State.setCell_setTop]
section MNA
variable {p : Program} {l : Launch} {e : Env} {R : Room} {s : State} {m : MethodId} {args : Array Value} {below : List Frame} {meth : Method} {c : Code}
theorem gst_std {T : State} {locs : List Loc} {cells slots : Nat} (X : Stand p l e R s m args below meth c T locs cells slots) (cA cC : ClassId) (N K : Nat) (hT : s.heap.size ≤ T.heap.size) : ∀ i, Stand p l e R s m args below meth c (gst T cA cC N K i) locs (cells + 1 + i) (slots + N + i * K) := by
  intro i
  induction i with
  | zero =>
    have h := X.pushed (rwO cA N T.heap.size 0)
    rw [show (rwO cA N T.heap.size 0).slots.size = N from arrV_size _ _ _] at h
    simpa [gst] using h
  | succ i ih =>
    obtain ⟨a1, a2, -⟩ := gst_ok T cA cC N K i
    have at0 : ((gst T cA cC N K i).pushCell (rwI cC K)).heap[T.heap.size]? = some (rwO cA N T.heap.size i) := by
      rw [State.heap_pushCell_of_lt (h := (show T.heap.size < (gst T cA cC N K i).heap.size by omega))]
      exact a2
    have h := (ih.pushed (rwI cC K)).stored at0 i (.ref (T.heap.size + 1 + i))
    rw [show (rwI cC K).slots.size = K from arrV_size _ _ _, rwO_s] at h
    have h := Stand.dropFresh h (fun x hx => by rw [List.mem_singleton.mp hx]; exact hT)
    rw [show slots + N + (i + 1) * K = slots + N + i * K + K by rw [Nat.succ_mul]; omega]
    exact h
variable {E : CtlPost} {d : Bool} {acts : List Action}
theorem wp_mk1 {T : State} {cC c9 : ClassId} {kC : Class} {k : Int32} (hkC : T.vm.classes[cC]? = some kC) (hkd : kC.kind = .array c9 .int) (hk : ¬ k < 0) (hl : ¬ k.toNatClampNeg > e.platform.arrayLengthLimit) (hh : ¬ k.toNatClampNeg * componentBytes .int > e.platform.maxHeapBytes)
    (h1 : T.heap.size < e.platform.maxCells) (h2 : T.slotsUsed + k.toNatClampNeg ≤ e.platform.maxSlots) {Q : Addr → Pre} (hq : ∀ acts', Q T.heap.size d acts' (T.pushCell (rwI cC k.toNatClampNeg))) : wp (Op.multianewarray.make cC [k]) Q E e d acts T := by
  rw [Op.multianewarray.make]
  simp only [wp_bind', W.ite, hk, if_false, wp_pure', W.theClass, hkC, hkd, Option.some.injEq, exists_eq_left']
  refine W.newArray_of hkC hkd hl hh h1 h2 rfl (fun acts' => ?_)
  have := hq acts'
  unfold rwI at this
  rw [← arrV_new] at this
  exact this
theorem wp_mk2 {T : State} {cA cC c9 : ClassId} {kA kC : Class} {n k : Int32} (hkA : T.vm.classes[cA]? = some kA) (hkdA : kA.kind = .array cC (.array .int)) (hkC : T.vm.classes[cC]? = some kC) (hkd : kC.kind = .array c9 .int) (hn : ¬ n < 0) (hk : ¬ k < 0)
    (hl1 : ¬ n.toNatClampNeg > e.platform.arrayLengthLimit) (hh1 : ¬ n.toNatClampNeg * componentBytes (.array .int) > e.platform.maxHeapBytes) (hl : ¬ k.toNatClampNeg > e.platform.arrayLengthLimit) (hh : ¬ k.toNatClampNeg * componentBytes .int > e.platform.maxHeapBytes)
    (h1 : T.heap.size + 1 + n.toNatClampNeg ≤ e.platform.maxCells) (h2 : T.slotsUsed + n.toNatClampNeg + n.toNatClampNeg * k.toNatClampNeg ≤ e.platform.maxSlots) {Q : Addr → Pre}
    (hq : ∀ d' acts', Q T.heap.size d' acts' (gst T cA cC n.toNatClampNeg k.toNatClampNeg n.toNatClampNeg)) : wp (Op.multianewarray.make cA [n, k]) Q E e d acts T := by
  generalize hN : n.toNatClampNeg = N at *
  generalize hK : k.toNatClampNeg = K at *
  have hfind : ([k].find? (· < 0)) = none := by simp [hk]
  rw [Op.multianewarray.make]
  simp only [wp_bind', W.ite, hn, if_false, wp_pure', W.theClass, hkA, hkdA, Option.some.injEq, exists_eq_left', hN]
  refine W.newArray_of hkA hkdA hl1 hh1 (by omega) (by have := Nat.zero_le (N * K); omega) rfl (fun acts1 => ?_)
  rw [show ({ cls := cA, slots := Array.replicate N .null } : Cell) = rwO cA N T.heap.size 0 by unfold rwO; rw [show (fun j => if j < 0 then Value.ref (T.heap.size + 1 + j) else .null) = fun _ => .null by funext j; simp]; exact arrV_new _ _ _]
  simp only [hfind]
  rw [ite_self, wp_bind', Std.Legacy.Range.forIn_eq_forIn_range']
  have hsz : ([:N] : Std.Legacy.Range).size = N := by simp [Std.Legacy.Range.size]
  rw [hsz]
  show wp (forIn (List.range' 0 N 1) PUnit.unit _) _ E e d acts1 _
  refine wp_forIn_inv (fun rest s' => ∃ i, i + rest.length = N ∧ rest = List.range' i (N - i) ∧ s' = gst T cA cC N K i) _ _ ⟨0, by simp, rfl, rfl⟩ ?_ ?_
  · rintro x rest s' d' acts' Q' ⟨i, hi, hl9, rfl⟩ hnext
    rw [List.length_cons] at hi
    rw [show N - i = (N - (i + 1)) + 1 by omega, List.range'_succ] at hl9
    obtain ⟨rfl, hr⟩ := List.cons.inj hl9
    obtain ⟨a1, a2, a3, a4, a5, a6⟩ := gst_ok T cA cC N K x
    have hmul : x * K + K ≤ N * K := by
      have := Nat.mul_le_mul_right K (show x + 1 ≤ N by omega)
      rwa [Nat.succ_mul] at this
    simp only [wp_bind']
    refine wp_mk1 (by rw [a3]; exact hkC) hkd hk (by rw [hK]; exact hl) (by rw [hK]; exact hh) (by rw [a1]; omega) (by rw [a4, hK]; omega) (fun acts2 => ?_)
    rw [hK]
    simp only [wp_bind', W.writeLoc, wp_pure']
    refine ⟨rwO cA N T.heap.size x, by rw [State.heap_pushCell_of_lt (h := (show T.heap.size < (gst T cA cC N K x).heap.size by omega))]; exact a2, fun q => (by cases q), by rw [show (rwO cA N T.heap.size x).slots.size = N from arrV_size _ _ _]; omega, ?_, hnext _ _ _ ⟨x + 1, by omega, hr, ?_⟩⟩
    · show State.fitsSlot _ cA .none x _ = true
      simp [State.fitsSlot, State.slotType?, a3, hkA, hkdA, fits]
    · rw [gst_s, a1, rwO_s]
  · rintro s' d' acts' ⟨i, hi, -, rfl⟩
    have : i = N := by simpa using hi
    subst this
    simp only [wp_pure']
    exact hq _ _
theorem W_mna {H : Heap} {locs : List Loc} {cells slots : Nat} {Q : State → Prop} {cc : ByteArray} (hexec : p.tables.exec = Jvm.exec) (hb : c.code = cc) {own : String} {index : Nat} {cA cC c9 : ClassId} {kA kC : Class} (hown : s.vm.findClass own = some m.cls) (hcl : (Cond.classLink own index "[[I").before args s = true)
    (hA : s.vm.findClass "[[I" = some cA) (hkA : s.vm.classes[cA]? = some kA) (hkdA : kA.kind = .array cC (.array .int)) (hkC : s.vm.classes[cC]? = some kC) (hkd : kC.kind = .array c9 .int) {n k : Int32} {N K : Nat} (hn : ¬ n < 0) (hk : ¬ k < 0) (hN : n.toNatClampNeg = N) (hK : k.toNatClampNeg = K) (hb1 : N ≤ 1000) (hb2 : K ≤ 1000) (hs0 : s.heap.size ≤ H.size)
    (hcells : cells + (1 + N) ≤ R.cells) (hslots : slots + (N + N * K) ≤ R.slots) {pc : Nat} {ls : Array Slot} {rest : List Value} (hdg : decode cc pc = .ok (.multianewarray index 2, 4))
    (kk : ∀ H' : Heap, H'.size = H.size + 1 + N → (∀ a, a < H.size → H'[a]? = H[a]?) → H'[H.size]? = some (rwO cA N H.size N) → (∀ j, j < N → H'[H.size + 1 + j]? = some (rwI cC K)) → W p l e R s m args below meth c H' locs (cells + 1 + N) (slots + N + N * K) Q (F0 m (pc + 4) ls (.ref H.size :: rest))) :
    W p l e R s m args below meth c H locs cells slots Q (F0 m pc ls (.int k :: .int n :: rest)) := by
  intro T hT X
  subst hT
  subst hb
  have hpl : e.platform.magicAccessors = ({} : Platform).magicAccessors := by rw [X.admits.platform]
  obtain ⟨c0, hfc0, hcl9⟩ := Cond.classLink_spec hown hcl e.platform hpl
  cases hA.symm.trans hfc0
  obtain ⟨hg1, hw1, hr1⟩ := State.classEntry (e := e) X.warmed hcl9
  generalize T.vm.noted m.cls index (.cls cA) = vm1 at hg1 hw1 hr1
  have hal : s.vm.Alike vm1 := hw1.alike
  obtain ⟨kA1, hkA1, heA⟩ := hal.2.2 _ _ hkA
  obtain ⟨kC1, hkC1, heC⟩ := hal.2.2 _ _ hkC
  have X1 := X.noted hw1
  obtain ⟨r1, r2⟩ := X.roomAbove hcells hslots
  have XF := gst_std X1 cA cC N K hs0 N
  obtain ⟨a1, a2, a3, a4, a5, a6⟩ := gst_ok (T.setVm vm1) cA cC N K N
  obtain ⟨t, b1, b2⟩ := kk (gst (T.setVm vm1) cA cC N K N).heap a1 a5 a2 a6 _ rfl XF
  refine ⟨t, ?_, b2⟩
  have hl1 : ¬ n.toNatClampNeg > e.platform.arrayLengthLimit := by rw [Launch.admits_arrayLengthLimit X.admits]; omega
  have hh1 : ¬ n.toNatClampNeg * componentBytes (.array .int) > e.platform.maxHeapBytes := by
    rw [Launch.admits_maxHeapBytes X.admits]; show ¬ n.toNatClampNeg * 4 > 536870912; omega
  have hl2 : ¬ k.toNatClampNeg > e.platform.arrayLengthLimit := by rw [Launch.admits_arrayLengthLimit X.admits]; omega
  have hh2 : ¬ k.toNatClampNeg * componentBytes .int > e.platform.maxHeapBytes := by
    rw [Launch.admits_maxHeapBytes X.admits]; show ¬ k.toNatClampNeg * 4 > 536870912; omega
  show Steps p.tables e below (T.setTop (F0 m pc ls (.int k :: .int n :: rest))) t
  have hdg2 : decode c.code (F0 m pc ls (.int k :: .int n :: rest)).pc = .ok (.multianewarray index 2, 4) := hdg
  generalize hgf : F0 m pc ls (.int k :: .int n :: rest) = gf at hdg2 ⊢
  have hst : gf.stack = .int k :: .int n :: rest := by rw [← hgf]
  have hgm : gf.method = m := by rw [← hgf]
  have hgp : gf.pc = pc := by rw [← hgf]
  subst hgm
  jvm_step X.here [hexec, hdg2]
  simp only [Op.multianewarray.sem, wp_bind', W.resolveClassAt_links (State.method?_setTop gf X.here.top) hg1]
  rw [W.popN, if_neg (by decide)]
  refine ⟨gf, State.topJava?_setTop' (s := T.setVm vm1) gf X.here.top, [.int n, .int k], rest, rfl, hst, ?_⟩
  simp only [List.mapM_cons, List.mapM_nil, wp_bind', wp_pure']
  refine wp_mk2 (kA := kA1) (kC := kC1) (cC := cC) (c9 := c9) hkA1 (by rw [heA]; exact hkdA) hkC1 (by rw [heC]; exact hkd) hn hk hl1 hh1 hl2 hh2 (by show T.heap.size + 1 + _ ≤ _; omega) (by show T.slotsUsed + _ + _ ≤ _; rw [hN, hK]; omega) (fun d' acts' => ?_)
  have eS : ((T.setTop gf).setVm vm1).setTop { gf with stack := rest } = (T.setVm vm1).setTop { gf with stack := rest } := by
    show ((T.setVm vm1).setTop gf).setTop _ = _
    rw [State.setTop_setTop]
  rw [eS, gst_top, hN, hK]
  simp only [wp_bind', W.mark, W.pushRef, State.topJava?_setTop' _ XF.here.top, Option.some.injEq, exists_eq_left', State.setTop_setTop, State.heap_setTop]
  intro acts9
  simp [jvm, XF.here.top]
  have ef : ({ gf with pc := gf.pc + 4, stack := .ref T.heap.size :: rest } : JFrame) = F0 gf.method (pc + 4) ls (.ref T.heap.size :: rest) := by
    rw [← hgf]
  first | exact b1 | (rw [ef]; exact b1)
end MNA
