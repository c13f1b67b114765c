/-! making the objects: the world as it grows, and a straight run in it -/
def XF (g : AG) (U : State) : Prop := ∃ (kA kC : Class) (c9 : ClassId), U.vm.classes[gcA g]? = some kA ∧ kA.kind = .array (gcI g) (.array .int) ∧ U.vm.classes[gcI g]? = some kC ∧ kC.kind = .array c9 .int
theorem XF.moved {g : AG} {u U : State} (hvm : u.vm.Alike U.vm) (h : XF g u) : XF g U := by
  obtain ⟨kA, kC, c9, h1, h2, h3, h4⟩ := h
  obtain ⟨k1, e1, f1⟩ := hvm.2.2 _ _ h1
  obtain ⟨k2, e2, f2⟩ := hvm.2.2 _ _ h3
  exact ⟨k1, k2, c9, e1, by rw [f1]; exact h2, e2, by rw [f2]; exact h4⟩
def Ga (g : AG) : Prop := ∀ k, k < 108 → gad g k = gs0 g + k
def wk (g : AG) : Nat → List va_E → va_W
  | _, [] => []
  | k, x :: xs => (gs0 g + k, x) :: wk g (k + 1) xs
theorem wk_get (g : AG) : ∀ (ws : List va_E) (k i : Nat), (wk g k ws)[i]? = (ws[i]?).map (fun x => (gs0 g + k + i, x))
  | [], k, i => by simp [wk]
  | x :: xs, k, 0 => by simp [wk]
  | x :: xs, k, i + 1 => by
    simp only [wk, List.getElem?_cons_succ]
    rw [wk_get g xs (k + 1) i, show gs0 g + (k + 1) + i = gs0 g + k + (i + 1) by omega]
theorem wk_app (g : AG) : ∀ (a b : List va_E) (k : Nat), wk g k (a ++ b) = wk g k a ++ wk g (k + a.length) b
  | [], b, k => by simp [wk]
  | x :: a, b, k => by
    simp only [wk, List.cons_append, List.length_cons]
    rw [wk_app g a b (k + 1), show k + 1 + a.length = k + (a.length + 1) by omega]
theorem wk_len (g : AG) : ∀ (a : List va_E) (k : Nat), (wk g k a).length = a.length
  | [], k => rfl
  | x :: a, k => by simp [wk, wk_len g a (k + 1)]
theorem wk_set (g : AG) (ws : List va_E) (k i : Nat) (x : va_E) : (wk g k ws).set i (gs0 g + k + i, x) = wk g k (ws.set i x) := by
  apply List.ext_getElem?
  intro j
  rw [List.getElem?_set, wk_len, wk_get, wk_get, List.getElem?_set]
  by_cases e : i = j
  · subst e
    rw [if_pos rfl, if_pos rfl]
    split <;> rfl
  · rw [if_neg e, if_neg e]
def gB (g : AG) (lo : Nat) : Nat → Prop := fun q => gs0 g + lo ≤ q
def hw (g : AG) (lo : Nat) (ws : List va_E) (H : Heap) : Prop := H.size = gs0 g + lo + ws.length ∧ va_P (gD g) vwCl (wk g lo ws) H
theorem wk_D (g : AG) (lo : Nat) (ws : List va_E) : va_D (gB g lo) (wk g lo ws) := by
  refine ⟨fun i j p q h1 h2 e => ?_, fun k q h => ?_⟩
  · rw [wk_get] at h1 h2
    obtain ⟨x, -, rfl⟩ := Option.map_eq_some_iff.mp h1
    obtain ⟨y, -, rfl⟩ := Option.map_eq_some_iff.mp h2
    simp only at e
    omega
  · rw [wk_get] at h
    obtain ⟨x, -, rfl⟩ := Option.map_eq_some_iff.mp h
    show gs0 g + lo ≤ gs0 g + lo + k
    omega
theorem hw.grow {g : AG} {lo : Nat} {ws xs : List va_E} {H H1 : Heap} (h : hw g lo ws H) (ho : ∀ q, q < H.size → H1[q]? = H[q]?) (hz : H1.size = H.size + xs.length) (hx : ∀ i x, xs[i]? = some x → va_at (gD g) vwCl (H.size + i, x) H1) : hw g lo (ws ++ xs) H1 := by
  refine ⟨by rw [hz, h.1, List.length_append]; omega, ?_⟩
  rw [wk_app]
  refine (h.2.kept (fun k q hq => ho _ ((h.2 k q hq).lt))).app (fun k q hq => ?_)
  rw [wk_get] at hq
  obtain ⟨x, hx1, rfl⟩ := Option.map_eq_some_iff.mp hq
  have := hx k x hx1
  rwa [h.1, show gs0 g + lo + ws.length = gs0 g + (lo + ws.length) by omega] at this
theorem va_S.grow {A : Nat → Prop} {H0 H H1 : Heap} {locs : List Loc} (h : va_S A H0 H locs) (hz : H.size ≤ H1.size) (ho : ∀ q, q < H.size → H1[q]? = H[q]?) : va_S A H0 H1 locs :=
  ⟨Nat.le_trans h.1 hz, fun q h1 h2 => (ho q (Nat.lt_of_lt_of_le h1 h.1)).trans (h.2.1 q h1 h2), h.2.2⟩
def arI (g : AG) (N : Nat) : va_E := .inl (gcI g, N, .inl (fun _ => Int32.ofInt 0))
def arO (g : AG) (f N : Nat) : va_E := .inl (gcA g, N, .inr (.inr (.inr (.inr (fun j => if j < N then some (gad g (f + j)) else none)))))
def CxK (g : AG) (n : MI) (d C S : Nat) (p : Program) (R : Room) (s : State) (m : MethodId) (meth : Method) (c : Code) : Prop :=
  p.tables.exec = Jvm.exec ∧ c.code = n.2.1 ∧ c.maxLocals = n.2.2.1 ∧ s.vm.findClass n.1.cls = some m.cls ∧ meth.locks = false ∧ (n.1.name = "<init>" → meth.name = "<init>") ∧ d ≤ R.frames ∧ 64 * d ≤ R.locals ∧ C ≤ R.cells ∧ S ≤ R.slots ∧ SF g s ∧ XF g s ∧ Ga g
abbrev KPt : Type := Nat × List (Nat × AV) × List AV × List va_E × Nat × Nat
def Rk (g : AG) (n : MI) (d lo C S : Nat) (a b : KPt) : Prop :=
  ∀ (p : Program) (e : Env) (R : Room) (s : State) (m : MethodId) (args : Array Value) (below : List Frame) (meth : Method) (c : Code) (H : Heap) (locs : List Loc) (la : Array Slot) (QW : State → Prop),
    CxK g n d C S p R s m meth c → hw g lo a.2.2.2.1 H → H.size = s.heap.size + a.2.2.2.2.1 → va_S (gB g lo) s.heap H locs → lv_has la n.2.2.1 (a.2.1.map (rvp (gad g))) →
    (∀ (H' : Heap) (locs' : List Loc) (la' : Array Slot), hw g lo b.2.2.2.1 H' → H'.size = s.heap.size + b.2.2.2.2.1 → va_S (gB g lo) s.heap H' locs' → lv_has la' n.2.2.1 (b.2.1.map (rvp (gad g))) →
      W p (gl g) e R s m args below meth c H' locs' b.2.2.2.2.1 b.2.2.2.2.2 QW (F0 m b.1 la' (b.2.2.1.map (rv (gad g))))) →
    W p (gl g) e R s m args below meth c H locs a.2.2.2.2.1 a.2.2.2.2.2 QW (F0 m a.1 la (a.2.2.1.map (rv (gad g))))
def kPc (g : AG) (b : Nat) (x0 : va_E) : Array Value → State → Prop := fun v U => v = [Value.ref (gad g b)].toArray ∧ SF g U ∧ XF g U ∧ hw g b [x0] U.heap
def kQc (g : AG) (b : Nat) (wE : List va_E) : Array Value → State → Outcome → State → Prop := fun _ st o t => (o = .returned none ∧ hw g b wE t.heap) ∧ va_F (gB g b) st t
def MetK (g : AG) (n : MI) (d b C S : Nat) (x0 : va_E) (wE : List va_E) : Prop :=
  Met (gl g) n.1 [.code n.1 n.2.1 n.2.2.1 n.2.2.2] { frames := d, cells := C, slots := S, locals := 64 * d } (kPc g b x0) (kQc g b wE) C S (gB g b)
theorem MetK.of {g : AG} {n : MI} {d b C S : Nat} {x0 : va_E} {wE : List va_E} {pcR : Nat} {lsE : List (Nat × AV)} (hy : plainName n.1.cls = true) (h1 : 1 ≤ n.2.2.1) (hret : n.2.2.2 = none) (hR : decode n.2.1 pcR = .ok (.return_, 1)) (hG : Ga g)
    (k : Rk g n d b C S (0, [(0, vR b)], [], [x0], 0, 0) (pcR, lsE, [], wE, C, S)) : MetK g n d b C S x0 wE := by
  refine Met.ofW (cc := n.2.1) (maxL := n.2.2.1) (ret := n.2.2.2) hy rfl ?_
  intro p e s m args below meth c s₁ B hml hv
  obtain ⟨rfl, hSF, hXF, hw0⟩ := hv
  have hlocks := B.notSynchronized
  have hl := lv_entry [Value.ref (gad g b)] (n := n.2.2.1) h1
  rw [lg_entry_eq]
  refine k p e _ s m _ below meth c s.heap [] _ _ ⟨B.exec, B.bytes, hml, findClass_of_methodNamed B.named, hlocks, fun q => (name_of_methodNamed B.named B.method).1.trans q, Nat.le_refl _, Nat.le_refl _, Nat.le_refl _, Nat.le_refl _, hSF, hXF, hG⟩ hw0 rfl va_S.rf hl ?_
  intro H' locs' la' a1 a2 a3 a4
  exact W.vret B.exec B.bytes (B.returns.trans hret) (fun t ht hW => ⟨⟨rfl, by rw [ht]; exact a1⟩, a3.F ht⟩) a3.2.2 hR
theorem wc_oi : Cond.instanceMethod objectInit ∈ WT := WT_mem (List.mem_append_right _ (List.mem_of_getElem? (i := 19) (by decide +kernel))) (by decide +kernel)
theorem wc_oc : Cond.code objectInit ⟨#[0xb1]⟩ 1 none ∈ WT := WT_mem (List.mem_append_right _ (List.mem_of_getElem? (i := 20) (by decide +kernel))) (by decide +kernel)
theorem wc_ar : Cond.arrayClass .int ∈ WT := WT_mem (List.mem_append_right _ (List.mem_of_getElem? (i := 43) (by decide +kernel))) (by decide +kernel)
section KROWS
variable {g : AG} {n : MI} {d lo C S pc cu su : Nat} {ls : List (Nat × AV)} {st : List AV} {ws : List va_E} {E : KPt}
theorem Rk.rf {a : KPt} : Rk g n d lo C S a a := by
  intro p e R s m args below meth c H locs la QW C0 h1 h2 h3 h4 hF
  exact hF H locs la h1 h2 h3 h4
theorem Rk_aload (j : Nat) {q : Fin 4} {i z : Nat} (hd : decode n.2.1 pc = .ok (.aload_n q, 1)) (hj : ls[j]? = some (i, vR z)) (hi : (q : Nat) = i) (k : Rk g n d lo C S (pc + 1, ls, vR z :: st, ws, cu, su) E) : Rk g n d lo C S (pc, ls, st, ws, cu, su) E := by
  intro p e R s m args below meth c H locs la QW C0 h1 h2 h3 h4 hF
  have K := k p e R s m args below meth c H locs la QW C0 h1 h2 h3 h4 hF
  exact lv_aload_n C0.1 C0.2.1 hd hi (la_at h4 hj) K
theorem Rk_iconst {z : Int} (hd : decode n.2.1 pc = .ok (.iconst z, 1)) (k : Rk g n d lo C S (pc + 1, ls, vI z :: st, ws, cu, su) E) : Rk g n d lo C S (pc, ls, st, ws, cu, su) E := by
  intro p e R s m args below meth c H locs la QW C0 h1 h2 h3 h4 hF
  have K := k p e R s m args below meth c H locs la QW C0 h1 h2 h3 h4 hF
  exact lv_iconst C0.1 C0.2.1 hd rfl K
theorem Rk_bipush {z : Int} (hd : decode n.2.1 pc = .ok (.bipush z, 2)) (hz : (Int8.ofInt z).toInt32 = Int32.ofInt z) (k : Rk g n d lo C S (pc + 2, ls, vI z :: st, ws, cu, su) E) : Rk g n d lo C S (pc, ls, st, ws, cu, su) E := by
  intro p e R s m args below meth c H locs la QW C0 h1 h2 h3 h4 hF
  have K := k p e R s m args below meth c H locs la QW C0 h1 h2 h3 h4 hF
  exact lv_bipush C0.1 C0.2.1 hd hz K
theorem Rk_sipush {z : Int} (hd : decode n.2.1 pc = .ok (.sipush z, 3)) (hz : (Int16.ofInt z).toInt32 = Int32.ofInt z) (k : Rk g n d lo C S (pc + 3, ls, vI z :: st, ws, cu, su) E) : Rk g n d lo C S (pc, ls, st, ws, cu, su) E := by
  intro p e R s m args below meth c H locs la QW C0 h1 h2 h3 h4 hF
  have K := k p e R s m args below meth c H locs la QW C0 h1 h2 h3 h4 hF
  exact lv_sipush C0.1 C0.2.1 hd hz K
theorem Rk_dup {v : AV} (hd : decode n.2.1 pc = .ok (.dup, 1)) (hv : isW v = false) (k : Rk g n d lo C S (pc + 1, ls, v :: v :: st, ws, cu, su) E) : Rk g n d lo C S (pc, ls, v :: st, ws, cu, su) E := by
  intro p e R s m args below meth c H locs la QW C0 h1 h2 h3 h4 hF
  exact lv_dup C0.1 C0.2.1 hd (cat1 hv) (k p e R s m args below meth c H locs la QW C0 h1 h2 h3 h4 hF)
theorem Rk_objInit {idx z : Nat} (w1 : Cond.methodLink n.1.cls idx objectInit ∈ WT) (hd : decode n.2.1 pc = .ok (.invokespecial idx, 3)) (hdd : 1 ≤ d) (hst : rsum st ≤ 8) (k : Rk g n d lo C S (pc + 3, ls, st, ws, cu, su) E) : Rk g n d lo C S (pc, ls, vR z :: st, ws, cu, su) E := by
  intro p e R s m args below meth c H locs la QW C0 h1 h2 h3 h4 hF
  dsimp only at h1 h2 h4 ⊢
  have K := k p e R s m args below meth c H locs la QW C0 h1 h2 h3 h4 hF
  obtain ⟨e1, e2, e3, e4, e5, e6, e7, e8, e9, e10, hSF, -⟩ := C0
  have hw8 : 2 * (F0 m pc la ((vR z :: st).map (rv (gad g)))).monitorRoom + ((st.map (rv (gad g))).map fun v => v.category).sum ≤ 8 := lv_room (by rw [rsum_rv]; exact hst)
  exact W.objInit e1 e2 e4 (hSF.1 _ w1 _) (hSF.1 _ wc_oi _) (hSF.1 _ wc_oc _) rfl (h4.1.trans e3.symm) rfl hd (by omega) (by omega) K
theorem ofI_nat {N : Nat} (h : N ≤ 1000) : ¬ Int32.ofInt (N : Int) < 0 ∧ (Int32.ofInt (N : Int)).toNatClampNeg = N := by
  have r : rg (N : Int) := ⟨by omega, by omega⟩
  refine ⟨fun q => absurd ((rg_lt r rg_0).mp q) (by omega), ?_⟩
  rw [Int32.toNatClampNeg_ofInt_of_le r.1 r.2]
  omega
theorem Rk_newa {N : Nat} (hd : decode n.2.1 pc = .ok (.newarray .int, 2)) (hN : N ≤ 1000) (hc : cu + 1 ≤ C) (hs : su + N ≤ S) (hb : lo + ws.length < 108) (k : Rk g n d lo C S (pc + 2, ls, vR (lo + ws.length) :: st, ws ++ [arI g N], cu + 1, su + N) E) : Rk g n d lo C S (pc, ls, vI (N : Int) :: st, ws, cu, su) E := by
  intro p e R s m args below meth c H locs la QW C0 h1 h2 h3 h4 hF
  dsimp only at h1 h2 h4 ⊢
  have C1 := C0
  obtain ⟨e1, e2, e3, e4, e5, e6, e7, e8, e9, e10, hSF, hXF, hG⟩ := C0
  obtain ⟨n1, n2⟩ := ofI_nat hN
  have ea : gad g (lo + ws.length) = H.size := by rw [hG _ hb, h1.1]; omega
  have hRA := (hSF.2.1.2 0 _ rfl).2
  refine va_newaK e1 e2 (atype := .int) (hSF.1 _ wc_ar _) rfl hd rfl n1 n2 (by show N * 4 ≤ 536870912; omega) (by omega) (by omega) rfl fun H1 cA q1 q2 q3 q4 q5 => ?_
  have ec : some cA = some (gcI g) := q5.symm.trans hRA
  cases ec
  have K := k p e R s m args below meth c H1 locs la QW C1 (h1.grow q3 (by rw [q2]; rfl) (fun i x hx => ?_)) (by rw [q2]; show H.size + 1 = s.heap.size + (cu + 1); rw [h2]; rfl) (h3.grow (by omega) q3) h4 hF
  · simp only [List.map_cons, rv] at K
    rw [ea] at K
    exact K
  · match i, hx with
    | 0, hx =>
      cases hx
      show H1[H.size + 0]? = some (vp_cell (gcI g) (N, .inl (fun _ => Int32.ofInt 0)))
      rw [Nat.add_zero, q1, vp_cell_i]
      rfl
    | i + 1, hx => simp at hx
theorem Rk_mna {N K idx : Nat} (hcl : Cond.classLink n.1.cls idx "[[I" ∈ WT) (hd : decode n.2.1 pc = .ok (.multianewarray idx 2, 4)) (hN : N ≤ 1000) (hK : K ≤ 1000) (hc : cu + (1 + N) ≤ C) (hs : su + (N + N * K) ≤ S) (hb : lo + ws.length + N < 108) (k : Rk g n d lo C S (pc + 4, ls, vR (lo + ws.length) :: st, ws ++ (arO g (lo + ws.length + 1) N :: List.replicate N (arI g K)), cu + 1 + N, su + N + N * K) E) : Rk g n d lo C S (pc, ls, vI (K : Int) :: vI (N : Int) :: st, ws, cu, su) E := by
  intro p e R s m args below meth c H locs la QW C0 h1 h2 h3 h4 hF
  dsimp only at h1 h2 h4 ⊢
  have C1 := C0
  obtain ⟨e1, e2, e3, e4, e5, e6, e7, e8, e9, e10, hSF, ⟨kA, kC, c9, x1, x2, x3, x4⟩, hG⟩ := C0
  obtain ⟨n1, n2⟩ := ofI_nat hN
  obtain ⟨n3, n4⟩ := ofI_nat hK
  have ea : gad g (lo + ws.length) = H.size := by rw [hG _ (by omega), h1.1]; omega
  have hRA := (hSF.2.1.2 1 _ rfl).2
  refine W_mna e1 e2 e4 (hSF.1 _ hcl _) hRA x1 x2 x3 x4 n1 n3 n2 n4 hN hK h3.1 (by omega) (by omega) hd fun H1 q1 q2 q3 q4 => ?_
  have KK := k p e R s m args below meth c H1 locs la QW C1 (h1.grow q2 (by rw [q1, List.length_cons, List.length_replicate]; omega) (fun i x hx => ?_)) (by rw [q1]; show H.size + 1 + N = s.heap.size + (cu + 1 + N); rw [h2]; show s.heap.size + cu + 1 + N = _; omega) (h3.grow (by omega) q2) h4 hF
  · simp only [List.map_cons, rv] at KK
    rw [ea] at KK
    exact KK
  · match i, hx with
    | 0, hx =>
      cases hx
      show H1[H.size + 0]? = some (vp_cell (gcA g) (N, .inr (.inr (.inr (.inr (fun j => if j < N then some (gad g (lo + ws.length + 1 + j)) else none))))))
      rw [Nat.add_zero, q3, vp_cell_q]
      unfold rwO
      congr 2
      funext j
      by_cases w : j < N
      · rw [if_pos w, if_pos w, hG _ (by omega), show H.size + 1 + j = gs0 g + (lo + ws.length + 1 + j) by rw [h1.1]; omega]
        rfl
      · rw [if_neg w, if_neg w]
        rfl
    | i + 1, hx =>
      rw [List.getElem?_cons_succ, List.getElem?_replicate] at hx
      split at hx
      · rename_i w
        cases hx
        show H1[H.size + (i + 1)]? = some (vp_cell (gcI g) (K, .inl (fun _ => Int32.ofInt 0)))
        rw [show H.size + (i + 1) = H.size + 1 + i by omega, q4 i w, vp_cell_i]
        rfl
      · cases hx
theorem Rk_new {ci idx N : Nat} {Cn : String} {T : u_T} {ty : Nat → FieldType} {fs : List Value} (cf : CF ci Cn T N ty) (hcl : Cond.classLink n.1.cls idx Cn ∈ WT) (hin : Cond.instantiable Cn N ∈ WT) (hini : Cond.initialized Cn ∈ WT) (hfs : ∀ j, j < N → defaultValue (ty j) = vp_V fs j) (hd : decode n.2.1 pc = .ok (.new idx, 3)) (hc : cu + 1 ≤ C) (hs : su + N ≤ S) (hb : lo + ws.length < 108)
    (k : Rk g n d lo C S (pc + 3, ls, vR (lo + ws.length) :: st, ws ++ [.inr (ci, fs)], cu + 1, su + N) E) : Rk g n d lo C S (pc, ls, st, ws, cu, su) E := by
  intro p e R s m args below meth c H locs la QW C0 h1 h2 h3 h4 hF
  dsimp only at h1 h2 h4 ⊢
  have C1 := C0
  obtain ⟨e1, e2, e3, e4, e5, e6, e7, e8, e9, e10, hSF, hXF, hG⟩ := C0
  have ea : gad g (lo + ws.length) = H.size := by rw [hG _ hb, h1.1]; omega
  have hKn := hSF.2.1.1 ci _ cf.1
  refine W.newcK e1 e2 e4 (hSF.1 _ hcl _) (hSF.1 _ hin _) (hSF.1 _ hini _) rfl hd (by omega) (by omega) hKn.2.1 rfl fun H1 kC q0 q1 q2 q3 => ?_
  have K := k p e R s m args below meth c H1 locs la QW C1 (h1.grow q3 (by rw [q2]; rfl) (fun i x hx => ?_)) (by rw [q2]; show H.size + 1 = s.heap.size + (cu + 1); rw [h2]; rfl) (h3.grow (by omega) q3) h4 hF
  · simp only [List.map_cons, rv] at K
    rw [ea] at K
    exact K
  · match i, hx with
    | 0, hx =>
      cases hx
      exact ⟨_, cf.1, (u_born ty (fun w hw => hSF.1 w hw args) cf.2.1 hKn q0 q1 cf.2.2.1).to hfs⟩
    | i + 1, hx => simp at hx
theorem Rk_putA {ci j idx N i : Nat} {Cn : String} {T : u_T} {ty : Nat → FieldType} {fs : List Value} {v : AV} {kz : Nat} (fin : Bool) (cf : CF ci Cn T N ty) (hlk : Cond.fieldLink n.1.cls idx (T j).1 (T j).2.1 (T j).2.2.1 ∈ WT) (hfin : (T j).2.2.2 = fin) (hnm : n.1.name = "<init>") (hdc : (T j).1 = n.1.cls) (he : ws[i]? = some (.inr (ci, fs))) (hN : j < N) (hl : j < fs.length) (hn : ∀ ad : Nat → Nat, narrow (ty j) (rv ad v) = rv ad v) (hfit : ∀ ad : Nat → Nat, fits (ty j) (rv ad v) = true) (hkz : kz = lo + i) (hb : lo + i < 108) (hd : decode n.2.1 pc = .ok (.putfield idx, 3))
    (k : Rk g n d lo C S (pc + 3, ls, st, ws.set i (.inr (ci, fs.set j (rv (gad g) v))), cu, su) E) : Rk g n d lo C S (pc, ls, v :: vR kz :: st, ws, cu, su) E := by
  intro p e R s m args below meth c H locs la QW C0 h1 h2 h3 h4 hF
  dsimp only at h1 h2 h4 ⊢
  have C1 := C0
  obtain ⟨e1, e2, e3, e4, e5, e6, e7, e8, e9, e10, hSF, hXF, hG⟩ := C0
  have hi : i < ws.length := (List.getElem?_eq_some_iff.mp he).1
  have ea : gad g kz = gs0 g + lo + i := by rw [hkz, hG _ hb]; omega
  have he2 : (wk g lo ws)[i]? = some (gad g kz, .inr (ci, fs)) := by rw [wk_get, he, ea]; rfl
  have hD := wk_D g lo ws
  have K : ∀ (H1 : Heap) (locs1 : List Loc), va_P (gD g) vwCl ((wk g lo ws).set i (gad g kz, .inr (ci, fs.set j (rv (gad g) v)))) H1 → va_D (gB g lo) ((wk g lo ws).set i (gad g kz, .inr (ci, fs.set j (rv (gad g) v)))) → va_S (gB g lo) s.heap H1 locs1 → W p (gl g) e R s m args below meth c H1 locs1 cu su QW (F0 m (pc + 3) la (st.map (rv (gad g)))) := by
    intro H1 locs1 hP1 _ hS1
    rw [ea, wk_set] at hP1
    intro T hT X
    have b1 : H1.size ≤ s.heap.size + cu := by rw [← hT]; exact X.heapSize
    have b2 : gs0 g + lo + (ws.length - 1) < H1.size := by
      obtain ⟨y, hy⟩ : ∃ y, (ws.set i (.inr (ci, fs.set j (rv (gad g) v))))[ws.length - 1]? = some y := ⟨_, List.getElem?_eq_getElem (by rw [List.length_set]; omega)⟩
      have := (hP1 (ws.length - 1) (gs0 g + lo + (ws.length - 1), y) (by rw [wk_get, hy]; rfl)).lt
      exact this
    have hz : H1.size = H.size := by
      have a1 := h1.1
      have a2 : H.size = s.heap.size + cu := h2
      show H1.size = H.size
      have a3 : H.size = gs0 g + lo + ws.length := a1
      omega
    refine k p e R s m args below meth c H1 locs1 la QW C1 ⟨?_, hP1⟩ ?_ hS1 h4 hF T hT X
    · rw [hz, h1.1]
      show _ = gs0 g + lo + (ws.set i _).length
      rw [List.length_set]
    · rw [hz]
      exact h2
  cases fin with
  | true => exact va_putF (D := gD g) (ci := ci) (C := Cn) (T := T) (N := N) e1 e2 (fun w hw => hSF.1 w hw args) cf.2.1 ty cf.2.2.1 cf.2.2.2 e4 hSF.2.1 h1.2 hD h3 i he2 cf.1 j hN (hSF.1 _ hlk _) (fun _ h9 => h9) hfin (e6 hnm) hdc (cf.2.2.1 j hN) (hn _) (hfit _) hl hd K
  | false => exact va_put (D := gD g) (ci := ci) (C := Cn) (T := T) (N := N) e1 e2 (fun w hw => hSF.1 w hw args) cf.2.1 ty cf.2.2.1 cf.2.2.2 e4 hSF.2.1 h1.2 hD h3 i he2 cf.1 j hN (hSF.1 _ hlk _) (fun _ h9 => h9) hfin (cf.2.2.1 j hN) (hn _) (hfit _) hl hd K
theorem Rk_getR {ci j idx N i r kz : Nat} {Cn : String} {T : u_T} {ty : Nat → FieldType} {fs : List Value} (cf : CF ci Cn T N ty) (hl0 : LK n.1.cls idx (T j)) (he : ws[i]? = some (.inr (ci, fs))) (hN : j < N) (hv : fs[j]? = some (.ref (gad g r))) (hkz : kz = lo + i) (hb : lo + i < 108) (hd : decode n.2.1 pc = .ok (.getfield idx, 3))
    (k : Rk g n d lo C S (pc + 3, ls, vR r :: st, ws, cu, su) E) : Rk g n d lo C S (pc, ls, vR kz :: st, ws, cu, su) E := by
  intro p e R s m args below meth c H locs la QW C0 h1 h2 h3 h4 hF
  dsimp only at h1 h2 h4 ⊢
  have K := k p e R s m args below meth c H locs la QW C0 h1 h2 h3 h4 hF
  obtain ⟨e1, e2, e3, e4, e5, e6, e7, e8, e9, e10, hSF, hXF, hG⟩ := C0
  have ea : gad g kz = gs0 g + lo + i := by rw [hkz, hG _ hb]; omega
  have he2 : (wk g lo ws)[i]? = some (gad g kz, .inr (ci, fs)) := by rw [wk_get, he, ea]; rfl
  rcases hl0 with h | ⟨host, h⟩
  · exact va_get (D := gD g) (ci := ci) (C := Cn) (T := T) (N := N) e1 e2 (fun w hw => hSF.1 w hw args) cf.2.1 e4 hSF.2.1 h1.2 i he2 cf.1 j hN (hSF.1 _ h _) (fun _ h9 => h9) hv hd K
  · exact va_getN (D := gD g) (ci := ci) (C := Cn) (T := T) (N := N) e1 e2 (fun w hw => hSF.1 w hw args) cf.2.1 e4 hSF.2.1 h1.2 i he2 cf.1 j hN (va_Nw.use rfl (hSF.2.2.1 _ h rfl)) (fun _ h9 => h9) hv hd K
set_option maxHeartbeats 4000000 in
theorem Rk_call {n' : MI} {d' idx C' S' : Nat} {x0 : va_E} {wE' : List va_E} (hlc : LC n.1.cls idx n') (hcc : CC n' 0) (hin : Cond.instanceMethod n'.1 ∈ WT) (hnm : n'.1.name = "<init>") (hret : n'.2.2.2 = none) (hdd : d' + 1 ≤ d) (hst : rsum st ≤ 8) (hd : decode n.2.1 pc = .ok (.invokespecial idx, 3)) (hM : MetK g n' d' (lo + ws.length) C' S' x0 wE') (hc : cu + C' ≤ C) (hs : su + S' ≤ S) (hlen : wE'.length = 1 + C')
    (k : Rk g n d lo C S (pc + 3, ls, st, ws ++ wE', cu + C', su + S') E) : Rk g n d lo C S (pc, ls, vR (lo + ws.length) :: st, ws ++ [x0], cu, su) E := by
  intro p e R s m args below meth c H locs la QW C0 h1 h2 h3 h4 hF
  dsimp only at h1 h2 h4 ⊢
  have C1 := C0
  obtain ⟨e1, e2, e3, e4, e5, e6, e7, e8, e9, e10, hSF, hXF, hG⟩ := C0
  obtain ⟨hcode, hini, hnmm, hmx⟩ := hcc
  obtain ⟨ynm, ybs, yml, yrt⟩ := n'
  simp only at hnm hret hcode hini hnmm hmx hin hM hlc
  subst hret
  have hG1 : GoodIn WT [Cond.code ynm ybs yml none] := WT_good (fun w hw => by rw [List.mem_singleton.mp hw]; exact hcode)
  have hts : ∀ w ∈ WT, w.before args s = true := fun w hw => hSF.1 w hw args
  have h1s : H.size = gs0 g + lo + (ws.length + 1) := by have := h1.1; simpa using this
  have hwb : hw g (lo + ws.length) [x0] H := by
    refine ⟨by rw [h1s]; show _ = gs0 g + (lo + ws.length) + 1; omega, ?_⟩
    have := h1.2
    rw [wk_app] at this
    exact fun k q hq => this ((wk g lo ws).length + k) q (by rw [List.getElem?_append_right (by omega), show (wk g lo ws).length + k - (wk g lo ws).length = k by omega]; exact hq)
  have hpre : PreS s H (kPc g (lo + ws.length) x0) [Value.ref (gad g (lo + ws.length))] := ⟨fun a U f mk q => ⟨q.1, SF_calling f mk a q.2.1, XF.moved (u := U) (U := U.calling f mk a) (Vm.Alike.refl U.vm) q.2.2.1, q.2.2.2⟩, fun U hU hW => ⟨rfl, SF_moved hW (by rw [hU]; exact h3.1) (by rw [hU]; exact fun q h5 h6 => h3.2.1 q h5 (fun w => h6 (Nat.le_trans (Nat.le_add_right _ _) w))) hSF, XF.moved hW.alike hXF, by rw [hU]; exact hwb⟩⟩
  have hw8 : 2 * (F0 m pc la ((vR (lo + ws.length) :: st).map (rv (gad g)))).monitorRoom + ((st.map (rv (gad g))).map fun v => v.category).sum ≤ 8 := lv_room (by rw [rsum_rv]; exact hst)
  have hrm : d' + 1 ≤ R.frames ∧ 8 + (yml + 11) + 64 * d' ≤ R.locals := ⟨by omega, by omega⟩
  have hrun : va_Run p (gl g) e R s m args below meth c H locs cu su C' S' (F0 m pc la ((vR (lo + ws.length) :: st).map (rv (gad g)))) (st.map (rv (gad g))) (kQc g (lo + ws.length) wE' [Value.ref (gad g (lo + ws.length))].toArray) (gB g (lo + ws.length)) := by
    rcases hlc with h | ⟨host, h⟩
    · exact va_runI (Ts := WT) (n := 0) (b := gad g (lo + ws.length)) (As := []) (rest := st.map (rv (gad g))) ⟨e1, e2, e3, e4, hts⟩ hM ⟨callB_of (Ts := WT) 0 hts hG1 rfl rfl rfl (hts _ hini) (hts _ h) hnmm hrm, hnm, hts _ hin⟩ hpre rfl rfl h4.1 rfl hw8 hd ⟨by omega, by omega⟩
    · exact va_runIN (Ts := WT) (n := 0) (b := gad g (lo + ws.length)) (As := []) (rest := st.map (rv (gad g))) ⟨e1, e2, e3, e4, hts⟩ hM ⟨va_cnB (Ts := WT) 0 hts hG1 rfl rfl rfl (hSF.2.2.1 _ h rfl) (hts _ hini) hnmm hrm, hnm, hts _ hin⟩ hpre rfl rfl h4.1 rfl hw8 hd ⟨by omega, by omega⟩
  intro T hT X
  obtain ⟨v, st₀, t, T', L, h0, X', hL, f1, f2, ⟨⟨hv, hq⟩, hz, hk⟩, go⟩ := hrun T hT X
  have hv' : v = none := Outcome.returned.inj hv
  subst hv'
  rw [h0] at hz hk
  rw [← f1] at hq hz hk
  have hw2 : hw g lo (ws ++ wE') T'.heap := by
    refine ⟨by rw [hq.1, List.length_append]; omega, ?_⟩
    have := h1.2
    rw [wk_app] at this ⊢
    have hPa : va_P (gD g) vwCl (wk g lo ws) H := fun k q hq => this k q (by rw [List.getElem?_append_left ((List.getElem?_eq_some_iff.mp hq).1)]; exact hq)
    refine (hPa.kept (fun k q hq9 => hk _ ((hPa k q hq9).lt) (fun w => ?_))).app hq.2
    rw [wk_get] at hq9
    obtain ⟨x, hx, rfl⟩ := Option.map_eq_some_iff.mp hq9
    have : k < ws.length := (List.getElem?_eq_some_iff.mp hx).1
    have w : gs0 g + (lo + ws.length) ≤ gs0 g + lo + k := w
    omega
  have K := k p e R s m args below meth c T'.heap (locs ++ L) la QW C1 hw2 (by rw [hq.1, hlen]; have h2 : H.size = s.heap.size + cu := h2; show _ = s.heap.size + (cu + C'); omega) ⟨Nat.le_trans h3.1 hz, fun q h5 h6 => by rw [hk q (Nat.lt_of_lt_of_le h5 h3.1) (fun w => h6 (by have w : gs0 g + (lo + ws.length) ≤ q := w; show gs0 g + lo ≤ q; omega))]; exact h3.2.1 q h5 h6, fun q hq9 => by
    rcases List.mem_append.mp hq9 with h | h
    · exact h3.2.2 q h
    · have w : gs0 g + (lo + ws.length) ≤ q.base := hL q h
      show gs0 g + lo ≤ q.base
      omega⟩ h4 hF T' rfl X'
  obtain ⟨t2, a1, b1⟩ := K
  exact ⟨t2, go t2 a1, b1⟩
theorem Rk_astore {q : Fin 4} {i z : Nat} {ls' : List (Nat × AV)} (hd : decode n.2.1 pc = .ok (.astore_n q, 1)) (hi : (q : Nat) = i) (hn : i < n.2.2.1) (hs : (i, vR z) :: st1 i ls = ls') (k : Rk g n d lo C S (pc + 1, ls', st, ws, cu, su) E) : Rk g n d lo C S (pc, ls, vR z :: st, ws, cu, su) E := by
  intro p e R s m args below meth c H locs la QW C0 h1 h2 h3 h4 hF
  refine lv_astore_n C0.1 C0.2.1 hd hi h4 hn (st1_rv (gad g) i (vR z) ls) (fun la' hl' => ?_)
  rw [hs] at hl'
  exact k p e R s m args below meth c H locs la' QW C0 h1 h2 h3 hl' hF
end KROWS
