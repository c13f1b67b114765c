/-! rows that read and write cells, and calls -/
def CF (ci : Nat) (C : String) (T : u_T) (N : Nat) (ty : Nat → FieldType) : Prop := vwCl[ci]? = some (C, T, N) ∧ (∀ w ∈ u_ws C T N, w ∈ WT) ∧ (∀ k, k < N → parseFieldDescriptor (T k).2.2.1 = some (ty k)) ∧ (∀ a, a < N → ∀ b, b < N → a ≠ b → (T a).2.1 ≠ (T b).2.1)
def LK (own : String) (idx : Nat) (t : String × String × String × Bool) : Prop := Cond.fieldLink own idx t.1 t.2.1 t.2.2.1 ∈ WT ∨ ∃ host, Cond.fieldLinkNest own idx t.1 t.2.1 t.2.2.1 host ∈ lw_tbl
theorem noHash {k ci j : Nat} {fs : List (Nat ⊕ Bool)} (hk : KD[k]? = some (.inl (ci, fs))) (hf : fs[j]? = some (.inr false)) : ¬ (k = 88 ∧ j = 32) := by
  rintro ⟨rfl, rfl⟩
  rw [k_88] at hk
  cases hk
  cases hf
theorem noHashA {k j len : Nat} (hk : KD[k]? = some (.inr (.inl len))) : ¬ (k = 88 ∧ j = 32) := by
  rintro ⟨rfl, rfl⟩
  rw [k_88] at hk
  cases hk
theorem inb_vp {z : Int} {len : Nat} (h : 0 ≤ z ∧ z < len) (hl : len < 2147483648) : vp_in (Int32.ofInt z) len ∧ (Int32.ofInt z).toNatClampNeg = z.toNat := by
  have e : (Int32.ofInt z).toInt = z := rg_back ⟨by omega, by omega⟩
  have e2 : (Int32.ofInt z).toNatClampNeg = z.toNat := Int32.toNatClampNeg_ofInt_of_le (by omega) (by omega)
  exact ⟨vp_in_iff.mpr (by rw [e]; exact h), e2⟩
theorem KD_len_lt {k len : Nat} (hk : KD[k]? = some (.inr (.inl len))) : len < 2147483648 := by
  have h : KD.all (fun x => match x with | .inr (.inl l) => decide (l < 2147483648) | .inr (.inr (l, _)) => decide (l < 2147483648) | _ => true) = true := by decide +kernel
  have := List.all_eq_true.mp h _ (List.mem_of_getElem? hk)
  simpa using this
theorem KD_mat_lt {k len f : Nat} (hk : KD[k]? = some (.inr (.inr (len, f)))) : len < 2147483648 := by
  have h : KD.all (fun x => match x with | .inr (.inl l) => decide (l < 2147483648) | .inr (.inr (l, _)) => decide (l < 2147483648) | _ => true) = true := by decide +kernel
  have := List.all_eq_true.mp h _ (List.mem_of_getElem? hk)
  simpa using this
section AMEM
variable {g : AG} {n : MI} {d pc : Nat} {ls : List (Nat × AV)} {st : List AV} {M : AM} {Q : Option AV → AM → Prop}
theorem Wa_getV {k ci j idx N : Nat} {C : String} {T : u_T} {ty : Nat → FieldType} {fs : List (Nat ⊕ Bool)} {f : Nat ⊕ Bool} {v : AV} (cf : CF ci C T N ty) (hk : KD[k]? = some (.inl (ci, fs))) (hf : fs[j]? = some f) (hv : fvl (gad g) (M k) j f = rv (gad g) v) (hN : j < N) (hl0 : LK n.1.cls idx (T j)) (hd : decode n.2.1 pc = .ok (.getfield idx, 3))
    (kk : Wa g n d (pc + 3) ls (v :: st) M Q) : Wa g n d pc ls (vR k :: st) M Q := by
  intro p e R s m args below meth c H locs cells slots la QW C0 hR hP hS hl hF
  have K := kk p e R s m args below meth c H locs cells slots la QW C0 hR hP hS hl hF
  have hSF := C0.2.2.2.2.2.2.2.2.2.2
  have hv2 : (fvs (gad g) (M k) 0 fs)[j]? = some (rv (gad g) v) := by rw [fvs_get, hf, Nat.zero_add, ← hv]; rfl
  rcases hl0 with h | ⟨host, h⟩
  · exact va_get (D := gD g) (ci := ci) (C := C) (T := T) (N := N) C0.1 C0.2.1 (fun w hw => hSF.1 w hw args) cf.2.1 C0.2.2.2.1 hSF.2.1 hP k (wl_obj hk) cf.1 j hN (hSF.1 _ h _) (fun _ h9 => h9) hv2 hd K
  · exact va_getN (D := gD g) (ci := ci) (C := C) (T := T) (N := N) C0.1 C0.2.1 (fun w hw => hSF.1 w hw args) cf.2.1 C0.2.2.2.1 hSF.2.1 hP k (wl_obj hk) cf.1 j hN (va_Nw.use rfl (hSF.2.2.1 _ h rfl)) (fun _ h9 => h9) hv2 hd K
theorem Wa_getI {k ci j idx N : Nat} {C : String} {T : u_T} {ty : Nat → FieldType} {fs : List (Nat ⊕ Bool)} (cf : CF ci C T N ty) (hl0 : LK n.1.cls idx (T j)) (hk : KD[k]? = some (.inl (ci, fs))) (hf : fs[j]? = some (.inr false)) (hN : j < N) (hd : decode n.2.1 pc = .ok (.getfield idx, 3))
    (kk : rg (M k j) → Wa g n d (pc + 3) ls (vI (M k j) :: st) M Q) : Wa g n d pc ls (vR k :: st) M Q :=
  Wa_rm fun hR => Wa_getV cf hk hf rfl hN hl0 hd (kk (hR k j (noHash hk hf)))
theorem Wa_getL {k ci j idx N : Nat} {C : String} {T : u_T} {ty : Nat → FieldType} {fs : List (Nat ⊕ Bool)} (cf : CF ci C T N ty) (hl0 : LK n.1.cls idx (T j)) (hk : KD[k]? = some (.inl (ci, fs))) (hf : fs[j]? = some (.inr true)) (hN : j < N) (hd : decode n.2.1 pc = .ok (.getfield idx, 3))
    (kk : Wa g n d (pc + 3) ls (vL (M k j) :: st) M Q) : Wa g n d pc ls (vR k :: st) M Q := Wa_getV cf hk hf rfl hN hl0 hd kk
theorem Wa_getR {k ci j idx N r : Nat} {C : String} {T : u_T} {ty : Nat → FieldType} {fs : List (Nat ⊕ Bool)} (cf : CF ci C T N ty) (hl0 : LK n.1.cls idx (T j)) (hk : KD[k]? = some (.inl (ci, fs))) (hf : fs[j]? = some (.inl r)) (hN : j < N) (hd : decode n.2.1 pc = .ok (.getfield idx, 3))
    (kk : Wa g n d (pc + 3) ls (vR r :: st) M Q) : Wa g n d pc ls (vR k :: st) M Q := Wa_getV cf hk hf rfl hN hl0 hd kk
theorem Wa_putV {k ci j idx N : Nat} {C : String} {T : u_T} {ty : Nat → FieldType} {fs : List (Nat ⊕ Bool)} {f : Nat ⊕ Bool} {v : AV} {z : Int} (cf : CF ci C T N ty) (hk : KD[k]? = some (.inl (ci, fs))) (hf : fs[j]? = some f) (hv : ∀ M' : Nat → Int, M' j = z → fvl (gad g) M' j f = rv (gad g) v) (hN : j < N) (hl0 : LK n.1.cls idx (T j)) (hfin : (T j).2.2.2 = false) (hn : narrow (ty j) (rv (gad g) v) = rv (gad g) v) (hfit : fits (ty j) (rv (gad g) v) = true) (hRM : RM M → RM (mU M k j z)) (hd : decode n.2.1 pc = .ok (.putfield idx, 3))
    (kk : Wa g n d (pc + 3) ls st (mU M k j z) Q) : Wa g n d pc ls (v :: vR k :: st) M Q := by
  intro p e R s m args below meth c H locs cells slots la QW C0 hR hP hS hl hF
  have hSF := C0.2.2.2.2.2.2.2.2.2.2
  have hD : va_D (gA g) (wl g M) := va_D_wl hSF.2.2.2.2.2.2.1 hSF.2.2.2.2.2.2.2.1
  have hlen : j < fs.length := (List.getElem?_eq_some_iff.mp hf).1
  have hE : (wl g M).set k (gad g k, .inr (ci, (fvs (gad g) (M k) 0 fs).set j (rv (gad g) v))) = wl g (mU M k j z) := by
    refine wl_set (KD_lt hk) (fun k' h => mU_ne h) ?_
    simp only [cel, hk]
    rw [fvs_eq (M' := mU M k j z k) (gad g) hlen (fun j' h => mU_nej h) (by rw [hf]; exact congrArg some (hv _ mU_at))]
  have K : ∀ (H1 : Heap) (locs1 : List Loc), va_P (gD g) vwCl ((wl g M).set k (gad g k, .inr (ci, (fvs (gad g) (M k) 0 fs).set j (rv (gad g) v)))) H1 → va_D (gA g) ((wl g M).set k (gad g k, .inr (ci, (fvs (gad g) (M k) 0 fs).set j (rv (gad g) v)))) → va_S (gA g) s.heap H1 locs1 → W p (gl g) e R s m args below meth c H1 locs1 cells slots QW (F0 m (pc + 3) la (st.map (rv (gad g)))) := by
    intro H1 locs1 hP1 _ hS1
    rw [hE] at hP1
    exact kk p e R s m args below meth c H1 locs1 cells slots la QW C0 (hRM hR) hP1 hS1 hl hF
  rcases hl0 with h | ⟨host, h⟩
  · exact va_put (D := gD g) (ci := ci) (C := C) (T := T) (N := N) C0.1 C0.2.1 (fun w hw => hSF.1 w hw args) cf.2.1 ty cf.2.2.1 cf.2.2.2 C0.2.2.2.1 hSF.2.1 hP hD hS k (wl_obj hk) cf.1 j hN (hSF.1 _ h _) (fun _ h9 => h9) hfin (cf.2.2.1 j hN) hn hfit (by rw [fvs_len]; exact hlen) hd K
  · exact va_putN (D := gD g) (ci := ci) (C := C) (T := T) (N := N) C0.1 C0.2.1 (fun w hw => hSF.1 w hw args) cf.2.1 ty cf.2.2.1 cf.2.2.2 C0.2.2.2.1 hSF.2.1 hP hD hS k (wl_obj hk) cf.1 j hN (va_Nw.use rfl (hSF.2.2.1 _ h rfl)) (fun _ h9 => h9) hfin (cf.2.2.1 j hN) hn hfit (by rw [fvs_len]; exact hlen) hd K
theorem Wa_putI {k ci j idx N : Nat} {C : String} {T : u_T} {ty : Nat → FieldType} {fs : List (Nat ⊕ Bool)} {z : Int} (cf : CF ci C T N ty) (hl0 : LK n.1.cls idx (T j)) (hk : KD[k]? = some (.inl (ci, fs))) (hf : fs[j]? = some (.inr false)) (hN : j < N) (hfin : (T j).2.2.2 = false) (hty : ty j = .int) (hz : rg z) (hd : decode n.2.1 pc = .ok (.putfield idx, 3))
    (kk : Wa g n d (pc + 3) ls st (mU M k j z) Q) : Wa g n d pc ls (vI z :: vR k :: st) M Q :=
  Wa_putV cf hk hf (fun M' h => by rw [← h]; rfl) hN hl0 hfin (by rw [hty]; rfl) (by rw [hty]; rfl) (fun h => RM_mU h hz) hd kk
theorem Wa_putZ {k ci j idx N : Nat} {C : String} {T : u_T} {ty : Nat → FieldType} {fs : List (Nat ⊕ Bool)} {z : Int} (cf : CF ci C T N ty) (hl0 : LK n.1.cls idx (T j)) (hk : KD[k]? = some (.inl (ci, fs))) (hf : fs[j]? = some (.inr false)) (hN : j < N) (hfin : (T j).2.2.2 = false) (hty : ty j = .boolean) (hz : z = 0 ∨ z = 1) (hd : decode n.2.1 pc = .ok (.putfield idx, 3))
    (kk : Wa g n d (pc + 3) ls st (mU M k j z) Q) : Wa g n d pc ls (vI z :: vR k :: st) M Q :=
  Wa_putV cf hk hf (fun M' h => by rw [← h]; rfl) hN hl0 hfin (by rw [hty]; exact nar_bool hz) (by rw [hty]; exact fit_bool hz) (fun h => RM_mU h (by rcases hz with rfl | rfl <;> exact ⟨by decide, by decide⟩)) hd kk
theorem Wa_putL {idx N : Nat} {C : String} {T : u_T} {ty : Nat → FieldType} {z : Int} (cf : CF 9 C T N ty) (hl0 : LK n.1.cls idx (T 32)) (hN : 32 < N) (hfin : (T 32).2.2.2 = false) (hty : ty 32 = .long) (hd : decode n.2.1 pc = .ok (.putfield idx, 3))
    (kk : Wa g n d (pc + 3) ls st (mU M 88 32 z) Q) : Wa g n d pc ls (vL z :: vR 88 :: st) M Q :=
  Wa_putV cf k_88 (j := 32) (f := .inr true) rfl (fun M' h => by rw [← h]; rfl) hN hl0 hfin (by rw [hty]; rfl) (by rw [hty]; rfl) (fun h => RM_mUl h) hd kk
theorem Wa_iald {k len : Nat} {z : Int} (hk : KD[k]? = some (.inr (.inl len))) (hz : 0 ≤ z ∧ z < len) (hd : decode n.2.1 pc = .ok (.iaload, 1))
    (kk : rg (M k z.toNat) → Wa g n d (pc + 1) ls (vI (M k z.toNat) :: st) M Q) : Wa g n d pc ls (vI z :: vR k :: st) M Q := by
  intro p e R s m args below meth c H locs cells slots la QW C0 hR hP hS hl hF
  have hSF := C0.2.2.2.2.2.2.2.2.2.2
  obtain ⟨h1, h2⟩ := inb_vp hz (KD_len_lt hk)
  have K := kk (hR k _ (noHashA hk)) p e R s m args below meth c H locs cells slots la QW C0 hR hP hS hl hF
  refine va_iald (D := gD g) C0.1 C0.2.1 hSF.2.1 hP k 0 (wl_arr hk) rfl h1 hd ?_
  rw [h2]
  exact K
theorem Wa_iast {k len : Nat} {z x : Int} (hk : KD[k]? = some (.inr (.inl len))) (hz : 0 ≤ z ∧ z < len) (hx : rg x) (hd : decode n.2.1 pc = .ok (.iastore, 1))
    (kk : Wa g n d (pc + 1) ls st (mU M k z.toNat x) Q) : Wa g n d pc ls (vI x :: vI z :: vR k :: st) M Q := by
  intro p e R s m args below meth c H locs cells slots la QW C0 hR hP hS hl hF
  have hSF := C0.2.2.2.2.2.2.2.2.2.2
  have hD : va_D (gA g) (wl g M) := va_D_wl hSF.2.2.2.2.2.2.1 hSF.2.2.2.2.2.2.2.1
  obtain ⟨h1, h2⟩ := inb_vp hz (KD_len_lt hk)
  refine va_iast (D := gD g) C0.1 C0.2.1 hSF.2.1 hP hD hS k 0 (wl_arr hk) rfl h1 hd (fun H1 locs1 hP1 _ hS1 => ?_)
  have hE : (wl g M).set k (gad g k, .inl (gcI g, len, .inl (upd (fun j => Int32.ofInt (M k j)) (Int32.ofInt z).toNatClampNeg (Int32.ofInt x)))) = wl g (mU M k z.toNat x) := by
    refine wl_set (KD_lt hk) (fun k' h => mU_ne h) ?_
    simp only [cel, hk, h2]
    congr 4
    funext j
    by_cases e : j = z.toNat
    · subst e
      rw [mU_at, pk_us]
    · rw [mU_nej e, pk_un e]
  rw [hE] at hP1
  exact kk p e R s m args below meth c H1 locs1 cells slots la QW C0 (RM_mU hR hx) hP1 hS1 hl hF
theorem Wa_alen {k len : Nat} (hk : KD[k]? = some (.inr (.inl len))) (hd : decode n.2.1 pc = .ok (.arraylength, 1))
    (kk : Wa g n d (pc + 1) ls (vI (len : Int) :: st) M Q) : Wa g n d pc ls (vR k :: st) M Q := by
  intro p e R s m args below meth c H locs cells slots la QW C0 hR hP hS hl hF
  have hSF := C0.2.2.2.2.2.2.2.2.2.2
  exact va_alen (D := gD g) C0.1 C0.2.1 hSF.2.1 hP k 0 (wl_arr hk) rfl (Int32.ofInt_eq_ofNat (n := len)).symm hd (kk p e R s m args below meth c H locs cells slots la QW C0 hR hP hS hl hF)
theorem Wa_aald {k len f : Nat} {z : Int} (hk : KD[k]? = some (.inr (.inr (len, f)))) (hz : 0 ≤ z ∧ z < len) (hd : decode n.2.1 pc = .ok (.aaload, 1))
    (kk : Wa g n d (pc + 1) ls (vR (f + z.toNat) :: st) M Q) : Wa g n d pc ls (vI z :: vR k :: st) M Q := by
  intro p e R s m args below meth c H locs cells slots la QW C0 hR hP hS hl hF
  have hSF := C0.2.2.2.2.2.2.2.2.2.2
  obtain ⟨h1, h2⟩ := inb_vp hz (KD_mat_lt hk)
  have hlt : z.toNat < len := by omega
  have K := kk p e R s m args below meth c H locs cells slots la QW C0 hR hP hS hl hF
  refine W.aald (v := va_rf (if z.toNat < len then some (gad g (f + z.toNat)) else none)) (ty := .array .int) C0.1 C0.2.1 (hP k _ (wl_mat hk)) ((hSF.2.1.2 1 _ rfl).1 len _) rfl (fun q => by cases q) (by show ¬ (_ ∨ (arrV _ _ _).slots.size ≤ _); rw [arrV_size]; exact h1) (by show (arrV _ _ _).slots[_]? = _; rw [h2, arrV_read _ _ hlt]) rfl rfl hd ?_
  rw [if_pos hlt]
  exact K
theorem Wa_kab {z : Int} (hz : 0 ≤ z ∧ z < 5) (hd : decode n.2.1 pc = .ok (.iaload, 1))
    (kk : Wa g n d (pc + 1) ls (vI ([-1, 0, 0, 2, 3].getD z.toNat 0) :: st) M Q) : Wa g n d pc ls (vI z :: vR 109 :: st) M Q := by
  intro p e R s m args below meth c H locs cells slots la QW C0 hR hP hS hl hF
  have hSF := C0.2.2.2.2.2.2.2.2.2.2
  obtain ⟨h1, h2⟩ := inb_vp (len := 5) hz (by decide)
  have K := kk p e R s m args below meth c H locs cells slots la QW C0 hR hP hS hl hF
  obtain ⟨cell, q1, q2, q3, q4, q5, q6, q7⟩ := hSF.2.2.2.2.2.1.kept (H1 := H) hS.2.1
  have hi : (Int32.ofInt z).toNatClampNeg < 5 := by rw [h2]; omega
  exact W.iald C0.1 C0.2.1 q1 q2 q3 (fun h => h1 (h.elim Or.inl (fun h => Or.inr (Nat.le_trans q4 h)))) ((q6 _ hi).trans (by rw [h2]; rfl)) rfl rfl hd K
theorem Wa_gkab {idx : Nat} (hw : Cond.fieldLink n.1.cls idx "LineScript" "KIND_ABOVE" "[I" ∈ WT) (hd : decode n.2.1 pc = .ok (.getstatic idx, 3)) (kk : Wa g n d (pc + 3) ls (vR 109 :: st) M Q) : Wa g n d pc ls st M Q := by
  intro p e R s m args below meth c H locs cells slots la QW C0 hR hP hS hl hF
  have hSF := C0.2.2.2.2.2.2.2.2.2.2
  exact va_gets C0.1 C0.2.1 hSF.2.2.2.2.1 hS C0.2.2.2.1 (hSF.1 _ hw _) (fun _ h => h) hd (kk p e R s m args below meth c H locs cells slots la QW C0 hR hP hS hl hF)
theorem Wa_sld {z : Int} (hz : 0 ≤ z ∧ z < gLn g) (hL : gLn g < 2147483648) (hd : decode n.2.1 pc = .ok (.iaload, 1))
    (kk : Wa g n d (pc + 1) ls (vI (gxs g z.toNat).toInt :: st) M Q) : Wa g n d pc ls (vI z :: vR 108 :: st) M Q := by
  intro p e R s m args below meth c H locs cells slots la QW C0 hR hP hS hl hF
  have hSF := C0.2.2.2.2.2.2.2.2.2.2
  obtain ⟨h1, h2⟩ := inb_vp hz hL
  have K := kk p e R s m args below meth c H locs cells slots la QW C0 hR hP hS hl hF
  refine va_sld C0.1 C0.2.1 hSF.2.2.2.1 (Nat.lt_of_lt_of_le hSF.2.2.2.2.2.2.2.2.1 hSF.2.2.2.2.2.2.2.2.2) (Nat.not_le.mpr hSF.2.2.2.2.2.2.2.2.1) hS h1 hd ?_
  rw [h2]
  simp only [List.map_cons, rv, Int32.ofInt_toInt] at K
  exact K
theorem Wa_slen (hd : decode n.2.1 pc = .ok (.arraylength, 1)) (kk : Wa g n d (pc + 1) ls (vI (gLn g : Int) :: st) M Q) : Wa g n d pc ls (vR 108 :: st) M Q := by
  intro p e R s m args below meth c H locs cells slots la QW C0 hR hP hS hl hF
  have hSF := C0.2.2.2.2.2.2.2.2.2.2
  have K := kk p e R s m args below meth c H locs cells slots la QW C0 hR hP hS hl hF
  refine va_slen C0.1 C0.2.1 hSF.2.2.2.1 (Nat.lt_of_lt_of_le hSF.2.2.2.2.2.2.2.2.1 hSF.2.2.2.2.2.2.2.2.2) (Nat.not_le.mpr hSF.2.2.2.2.2.2.2.2.1) hS hd ?_
  rw [← Int32.ofInt_eq_ofNat]
  exact K
def rsum (st : List AV) : Nat := (st.map (fun v => if isW v = true then 2 else 1)).sum
theorem rsum_rv (ad : Nat → Nat) (st : List AV) : ((st.map (rv ad)).map fun v => v.category).sum = rsum st := by
  unfold rsum
  rw [List.map_map]
  congr 1
  apply List.map_congr_left
  intro v _
  simp only [Function.comp]
  rcases v with z | z | z | z | z <;> rfl
theorem Wa_mmax {x y : Int} {idx : Nat} (w1 : Cond.methodLink n.1.cls idx Lib.Math.max.name ∈ WT) (w2 : Cond.static Lib.Math.max.name ∈ WT) (w3 : Cond.initialized "java/lang/Math" ∈ WT) (w4 : Cond.code Lib.Math.max.name Lib.Math.max.code 2 (some .int) ∈ WT) (hx : rg x) (hy : rg y) (hdd : 1 ≤ d) (hst : rsum st ≤ 8) (hd : decode n.2.1 pc = .ok (.invokestatic idx, 3))
    (kk : Wa g n d (pc + 3) ls (vI (if x < y then y else x) :: st) M Q) : Wa g n d pc ls (vI y :: vI x :: st) M Q := by
  intro p e R s m args below meth c H locs cells slots la QW C0 hR hP hS hl hF
  have K := kk p e R s m args below meth c H locs cells slots la QW C0 hR hP hS hl hF
  obtain ⟨e1, e2, e3, e4, e5, e6, e7, e8, e9, e10, hSF⟩ := C0
  refine va_mmax e1 e2 (e3.trans hl.1.symm) e4 (hSF.1 _ w1 _) (hSF.1 _ w2 _) (hSF.1 _ w3 _) (hSF.1 _ w4 _) (by omega) (by rw [rsum_rv]; omega) e9 e10 hd ?_
  simp only [List.map_cons, rv] at K
  have E := rg_lt hx hy
  by_cases h : x < y
  · rw [if_pos h] at K
    rw [if_pos (E.mpr h)]
    exact K
  · rw [if_neg h] at K
    rw [if_neg (fun q => h (E.mp q))]
    exact K
theorem Wa_mmin {x y : Int} {idx : Nat} (w1 : Cond.methodLink n.1.cls idx Lib.Math.min.name ∈ WT) (w2 : Cond.static Lib.Math.min.name ∈ WT) (w3 : Cond.initialized "java/lang/Math" ∈ WT) (w4 : Cond.code Lib.Math.min.name Lib.Math.min.code 2 (some .int) ∈ WT) (hx : rg x) (hy : rg y) (hdd : 1 ≤ d) (hst : rsum st ≤ 8) (hd : decode n.2.1 pc = .ok (.invokestatic idx, 3))
    (kk : Wa g n d (pc + 3) ls (vI (if y < x then y else x) :: st) M Q) : Wa g n d pc ls (vI y :: vI x :: st) M Q := by
  intro p e R s m args below meth c H locs cells slots la QW C0 hR hP hS hl hF
  have K := kk p e R s m args below meth c H locs cells slots la QW C0 hR hP hS hl hF
  obtain ⟨e1, e2, e3, e4, e5, e6, e7, e8, e9, e10, hSF⟩ := C0
  refine va_mmin e1 e2 (e3.trans hl.1.symm) e4 (hSF.1 _ w1 _) (hSF.1 _ w2 _) (hSF.1 _ w3 _) (hSF.1 _ w4 _) (by omega) (by rw [rsum_rv]; omega) e9 e10 hd ?_
  simp only [List.map_cons, rv] at K
  have E := rg_lt hy hx
  by_cases h : y < x
  · rw [if_pos h] at K
    rw [if_pos (E.mpr h)]
    exact K
  · rw [if_neg h] at K
    rw [if_neg (fun q => h (E.mp q))]
    exact K
/-- a call's fact: the link, the callee's code -/
def LC (own : String) (idx : Nat) (n' : MI) : Prop := (Cond.methodLink own idx n'.1 ∈ WT ∨ ∃ host, Cond.methodLinkNest own idx n'.1 host ∈ lw_tbl)
def CC (n' : MI) (cnt : Nat) : Prop := Cond.code n'.1 n'.2.1 n'.2.2.1 n'.2.2.2 ∈ WT ∧ Cond.initialized n'.1.cls ∈ WT ∧ (n'.1.cls ≠ "java/lang/invoke/MethodHandle" ∧ n'.1.cls ≠ "java/lang/invoke/VarHandle" ∧ (parseMethodDescriptor n'.1.desc).map (fun d => d.parameters.length) = some cnt) ∧ n'.2.2.1 ≤ 40
def CV (n' : MI) (cnt : Nat) : Prop := CC n' cnt ∧ Cond.instanceMethod n'.1 ∈ WT ∧ Cond.selects n'.1.cls n'.1 n'.1 ∈ WT
def CS (n' : MI) (cnt : Nat) : Prop := CC n' cnt ∧ Cond.static n'.1 ∈ WT
theorem blindA {as : List AV} : FrameBlind (mPc g as M) := fun a U f mk h => ⟨h.1, SF_calling f mk a h.2.1, h.2.2⟩
theorem Wa_back {p : Program} {e : Env} {R : Room} {s : State} {m : MethodId} {args : Array Value} {below : List Frame} {meth : Method} {c : Code} {H : Heap} {locs : List Loc} {cells slots : Nat} {la : Array Slot} {QW : State → Prop} {Q1 : Option AV → AM → Prop} {st0 : List Value} {a : Array Value}
    (C0 : Cx g n d p R s m meth c cells slots) (hS : va_S (gA g) s.heap H locs) (hl : lv_has la n.2.2.1 (ls.map (rvp (gad g))))
    (hF : ∀ (r : Option AV) (M' : AM) (H' : Heap) (locs' : List Loc) (pc' : Nat) (la' : Array Slot), Q r M' → RM M' → va_P (gD g) vwCl (wl g M') H' → va_S (gA g) s.heap H' locs' → RT n pc' r →
      W p (gl g) e R s m args below meth c H' locs' cells slots QW (F0 m pc' la' (r.toList.map (rv (gad g)))))
    (kk : ∀ r M1, Q1 r M1 → Wa g n d (pc + 3) ls (r.toList ++ st) M1 Q)
    (hr : va_Run p (gl g) e R s m args below meth c H locs cells slots 0 0 (F0 m pc la st0) (st.map (rv (gad g))) (mQc g Q1 a) (gA g)) : W p (gl g) e R s m args below meth c H locs cells slots QW (F0 m pc la st0) := by
  intro T hT X
  obtain ⟨v, st₀, t, T', L, h0, X', hL, e1, e2, ⟨⟨r, M1, hv, hq, hRM1, hP1⟩, hz, hk⟩, go⟩ := hr T hT X
  have hv' : v = r.map (rv (gad g)) := Outcome.returned.inj hv
  subst hv'
  rw [h0] at hz hk
  have hS1 : va_S (gA g) s.heap T'.heap (locs ++ L) := ⟨Nat.le_trans hS.1 (by rw [e1]; exact hz), fun q h1 h2 => by rw [e1, hk q (Nat.lt_of_lt_of_le h1 hS.1) h2]; exact hS.2.1 q h1 h2, fun q hq => by
    rcases List.mem_append.mp hq with h | h
    · exact hS.2.2 q h
    · exact hL q h⟩
  have K := kk r M1 hq p e R s m args below meth c T'.heap (locs ++ L) cells slots la QW C0 hRM1 (by rw [e1]; exact hP1) hS1 hl hF T' rfl X'
  obtain ⟨t2, a1, b1⟩ := K
  refine ⟨t2, go t2 ?_, b1⟩
  have hst : (r.map (rv (gad g))).toList ++ st.map (rv (gad g)) = (r.toList ++ st).map (rv (gad g)) := by cases r <;> rfl
  show Steps p.tables e below (T'.setTop { (F0 m pc la st0) with pc := pc + 3, stack := (r.map (rv (gad g))).toList ++ st.map (rv (gad g)) }) t2
  rw [hst]
  exact a1
set_option maxHeartbeats 4000000 in
theorem Wa_callV {n' : MI} {d' b ci cnt idx N : Nat} {C : String} {T : u_T} {ty : Nat → FieldType} {fs : List (Nat ⊕ Bool)} {Q1 : Option AV → AM → Prop} (as sk : List AV) (cf : CF ci C T N ty) (hC : C = n'.1.cls) (hk : KD[b]? = some (.inl (ci, fs))) (hlc : LC n.1.cls idx n') (hcv : CV n' cnt) (hcnt : as.length = cnt) (hsk : as.reverse ++ vR b :: st = sk) (hdd : d' + 1 ≤ d) (hst : rsum st ≤ 8) (hd : decode n.2.1 pc = .ok (.invokevirtual idx, 3))
    (hM : MetA g n' d' (vR b :: as) M Q1) (kk : ∀ r M1, Q1 r M1 → Wa g n d (pc + 3) ls (r.toList ++ st) M1 Q) : Wa g n d pc ls sk M Q := by
  subst hsk
  intro p e R s m args below meth c H locs cells slots la QW C0 hR hP hS hl hF
  refine Wa_back C0 hS hl hF kk (a := (Value.ref (gad g b) :: as.map (rv (gad g))).toArray) ?_
  obtain ⟨e1, e2, e3, e4, e5, e6, e7, e8, e9, e10, hSF⟩ := C0
  obtain ⟨⟨hcode, hini, hnm, hmx⟩, hinst, hsel⟩ := hcv
  have hG : GoodIn WT [Cond.code n'.1 n'.2.1 n'.2.2.1 n'.2.2.2] := WT_good (fun w hw => by rw [List.mem_singleton.mp hw]; exact hcode)
  have hrm1 : (rmA d').frames + 1 ≤ R.frames := by show d' + 1 ≤ R.frames; omega
  have hrm2 : 8 + (n'.2.2.1 + 11) + (rmA d').locals ≤ R.locals := by show 8 + (n'.2.2.1 + 11) + 64 * d' ≤ R.locals; omega
  have hts : ∀ w ∈ WT, w.before args s = true := fun w hw => hSF.1 w hw args
  have hsel' : Cond.selects C n'.1 n'.1 ∈ WT := by rw [hC]; exact hsel
  have hpre : PreV s H C (gad g b) (mPc g (vR b :: as) M) (as.map (rv (gad g))) := ⟨blindA, va_recv (q := (C, T, N)) hSF.2.1 hP cf.1 (wl_obj hk), fun U hU hW => ⟨rfl, SF_moved hW (by rw [hU]; exact hS.1) (by rw [hU]; exact hS.2.1) hSF, hR, by rw [hU]; exact hP⟩⟩
  have hstk : (F0 m pc la ((as.reverse ++ vR b :: st).map (rv (gad g)))).stack = (as.map (rv (gad g))).reverse ++ .ref (gad g b) :: st.map (rv (gad g)) := by
    show (as.reverse ++ vR b :: st).map (rv (gad g)) = _
    rw [List.map_append, List.map_reverse]
    rfl
  have hw8 : 2 * (F0 m pc la ((as.reverse ++ vR b :: st).map (rv (gad g)))).monitorRoom + ((st.map (rv (gad g))).map fun v => v.category).sum ≤ 8 := lv_room (by rw [rsum_rv]; exact hst)
  rcases hlc with h | ⟨host, h⟩
  · exact va_runV (Ts := WT) (C := C) (n := cnt) (b := gad g b) (As := as.map (rv (gad g))) (rest := st.map (rv (gad g))) ⟨e1, e2, e3, e4, hts⟩ hM ⟨callB_of (Ts := WT) cnt hts hG rfl rfl rfl (hts _ hini) (hts _ h) hnm ⟨hrm1, hrm2⟩, hts _ hinst, hts _ hsel'⟩ hpre rfl (by rw [List.length_map]; exact hcnt) hl.1 hstk hw8 hd ⟨e9, e10⟩
  · exact va_runVN (Ts := WT) (C := C) (n := cnt) (b := gad g b) (As := as.map (rv (gad g))) (rest := st.map (rv (gad g))) ⟨e1, e2, e3, e4, hts⟩ hM ⟨va_cnB (Ts := WT) cnt hts hG rfl rfl rfl (hSF.2.2.1 _ h rfl) (hts _ hini) hnm ⟨hrm1, hrm2⟩, hts _ hinst, hts _ hsel'⟩ hpre rfl (by rw [List.length_map]; exact hcnt) hl.1 hstk hw8 hd ⟨e9, e10⟩
set_option maxHeartbeats 4000000 in
theorem Wa_callS {n' : MI} {d' cnt idx : Nat} {Q1 : Option AV → AM → Prop} (as sk : List AV) (hlc : LC n.1.cls idx n') (hcv : CS n' cnt) (hcnt : as.length = cnt) (hsk : as.reverse ++ st = sk) (hdd : d' + 1 ≤ d) (hst : rsum st ≤ 8) (hd : decode n.2.1 pc = .ok (.invokestatic idx, 3))
    (hM : MetA g n' d' as M Q1) (kk : ∀ r M1, Q1 r M1 → Wa g n d (pc + 3) ls (r.toList ++ st) M1 Q) : Wa g n d pc ls sk M Q := by
  subst hsk
  intro p e R s m args below meth c H locs cells slots la QW C0 hR hP hS hl hF
  refine Wa_back C0 hS hl hF kk (a := (as.map (rv (gad g))).toArray) ?_
  obtain ⟨e1, e2, e3, e4, e5, e6, e7, e8, e9, e10, hSF⟩ := C0
  obtain ⟨⟨hcode, hini, hnm, hmx⟩, hstat⟩ := hcv
  have hG : GoodIn WT [Cond.code n'.1 n'.2.1 n'.2.2.1 n'.2.2.2] := WT_good (fun w hw => by rw [List.mem_singleton.mp hw]; exact hcode)
  have hrm1 : (rmA d').frames + 1 ≤ R.frames := by show d' + 1 ≤ R.frames; omega
  have hrm2 : 8 + (n'.2.2.1 + 11) + (rmA d').locals ≤ R.locals := by show 8 + (n'.2.2.1 + 11) + 64 * d' ≤ R.locals; omega
  have hts : ∀ w ∈ WT, w.before args s = true := fun w hw => hSF.1 w hw args
  have hpre : PreS s H (mPc g as M) (as.map (rv (gad g))) := ⟨blindA, fun U hU hW => ⟨rfl, SF_moved hW (by rw [hU]; exact hS.1) (by rw [hU]; exact hS.2.1) hSF, hR, by rw [hU]; exact hP⟩⟩
  have hstk : (F0 m pc la ((as.reverse ++ st).map (rv (gad g)))).stack = (as.map (rv (gad g))).reverse ++ st.map (rv (gad g)) := by
    show (as.reverse ++ st).map (rv (gad g)) = _
    rw [List.map_append, List.map_reverse]
  have hw8 : 2 * (F0 m pc la ((as.reverse ++ st).map (rv (gad g)))).monitorRoom + ((st.map (rv (gad g))).map fun v => v.category).sum ≤ 8 := lv_room (by rw [rsum_rv]; exact hst)
  rcases hlc with h | ⟨host, h⟩
  · exact va_runS (Ts := WT) (n := cnt) (As := as.map (rv (gad g))) (rest := st.map (rv (gad g))) ⟨e1, e2, e3, e4, hts⟩ hM ⟨callB_of (Ts := WT) cnt hts hG rfl rfl rfl (hts _ hini) (hts _ h) hnm ⟨hrm1, hrm2⟩, hts _ hstat⟩ hpre rfl (by rw [List.length_map]; exact hcnt) hl.1 hstk hw8 hd ⟨e9, e10⟩
  · exact va_runSN (Ts := WT) (n := cnt) (As := as.map (rv (gad g))) (rest := st.map (rv (gad g))) ⟨e1, e2, e3, e4, hts⟩ hM ⟨va_cnB (Ts := WT) cnt hts hG rfl rfl rfl (hSF.2.2.1 _ h rfl) (hts _ hini) hnm ⟨hrm1, hrm2⟩, hts _ hstat, trivial⟩ hpre rfl (by rw [List.length_map]; exact hcnt) hl.1 hstk hw8 hd ⟨e9, e10⟩
/-- System.arraycopy over two rows of ints -/
def mC (M : AM) (k0 k1 sp dp len : Nat) : AM := fun k j => if k = k1 ∧ dp ≤ j ∧ j < dp + len then M k0 (sp + (j - dp)) else M k j
set_option maxHeartbeats 4000000 in
theorem Wa_acopy {k0 k1 l0 l1 idx : Nat} {sp dp len : Int} (h0 : KD[k0]? = some (.inr (.inl l0))) (h1 : KD[k1]? = some (.inr (.inl l1))) (w1 : Cond.methodLink n.1.cls idx arraycopyName ∈ WT) (w2 : Cond.native arraycopyName ∈ WT) (w3 : Cond.static arraycopyName ∈ WT) (w4 : Cond.initialized "java/lang/System" ∈ WT)
    (hsp : 0 ≤ sp) (hdp : 0 ≤ dp) (hln : 0 ≤ len) (hs : sp + len ≤ l0) (hd0 : dp + len ≤ l1) (hdd : 1 ≤ d) (hst : rsum st ≤ 8) (hd : decode n.2.1 pc = .ok (.invokestatic idx, 3))
    (kk : Wa g n d (pc + 3) ls st (mC M k0 k1 sp.toNat dp.toNat len.toNat) Q) : Wa g n d pc ls (vI len :: vI dp :: vR k1 :: vI sp :: vR k0 :: st) M Q := by
  intro p e R s m args below meth c H locs cells slots la QW C0 hR hP hS hl hF
  have C1 := C0
  obtain ⟨e1, e2, e3, e4, e5, e6, e7, e8, e9, e10, hSF⟩ := C0
  have hD : va_D (gA g) (wl g M) := va_D_wl hSF.2.2.2.2.2.2.1 hSF.2.2.2.2.2.2.2.1
  have b0 := KD_len_lt h0
  have b1 := KD_len_lt h1
  have r1 : rg sp := ⟨by omega, by omega⟩
  have r2 : rg dp := ⟨by omega, by omega⟩
  have r3 : rg len := ⟨by omega, by omega⟩
  have c1 : (Int32.ofInt sp).toNatClampNeg = sp.toNat := Int32.toNatClampNeg_ofInt_of_le r1.1 r1.2
  have c2 : (Int32.ofInt dp).toNatClampNeg = dp.toNat := Int32.toNatClampNeg_ofInt_of_le r2.1 r2.2
  have c3 : (Int32.ofInt len).toNatClampNeg = len.toNat := Int32.toNatClampNeg_ofInt_of_le r3.1 r3.2
  have n1 : ¬ Int32.ofInt sp < 0 := fun h => absurd ((rg_lt r1 rg_0).mp h) (by omega)
  have n2 : ¬ Int32.ofInt dp < 0 := fun h => absurd ((rg_lt r2 rg_0).mp h) (by omega)
  have n3 : ¬ Int32.ofInt len < 0 := fun h => absurd ((rg_lt r3 rg_0).mp h) (by omega)
  have hnw : nativeFrameWords "java/lang/System" "arraycopy" 5 + 11 ≤ 40 := by decide +kernel
  refine va_copyi (D := gD g) (ty := .int) e1 e2 (e3.trans hl.1.symm) e4 (hSF.1 _ w1 _) (hSF.1 _ w2 _) (hSF.1 _ w3 _) (hSF.1 _ w4 _) hSF.2.1 hP hD hS k0 k1 0 0 (wl_arr h0) (wl_arr h1) rfl rfl rfl n1 n2 n3 (by rw [c1, c3]; omega) (by rw [c2, c3]; omega) (fun i _ => rfl) (by omega) (by rw [rsum_rv]; omega) hd (fun H1 locs1 hP1 _ hS1 => ?_)
  have hE : (wl g M).set k1 (gad g k1, .inl (gcI g, l1, .inl (va_cpy (fun j => Int32.ofInt (M k0 j)) (fun j => Int32.ofInt (M k1 j)) (Int32.ofInt sp).toNatClampNeg (Int32.ofInt dp).toNatClampNeg (Int32.ofInt len).toNatClampNeg))) = wl g (mC M k0 k1 sp.toNat dp.toNat len.toNat) := by
    refine wl_set (KD_lt h1) (fun k' h => ?_) ?_
    · funext j
      simp [mC, h]
    · simp only [cel, h1, c1, c2, c3]
      congr 4
      funext j
      by_cases q : dp.toNat ≤ j ∧ j < dp.toNat + len.toNat
      · rw [pk_cpy_in q.1 q.2]
        simp only [mC, true_and, if_pos q]
      · rw [pk_cpy_out (by omega)]
        simp only [mC, true_and, if_neg q]
  rw [hE] at hP1
  refine kk p e R s m args below meth c H1 locs1 cells slots la QW C1 (fun k j hn => ?_) hP1 hS1 hl hF
  unfold mC
  split
  · exact hR _ _ (noHashA h0)
  · exact hR _ _ hn
end AMEM
