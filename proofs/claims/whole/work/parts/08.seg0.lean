section LDCW
variable {p : Program} {l : Launch} {e : Env} {R : Room} {s : State} {m : MethodId} {args : Array Value} {below : List Frame} {meth : Method} {c : Code} {H : Heap} {locs : List Loc} {cells slots : Nat} {Q : State → Prop}
theorem ldcwF {T : State} (X : Stand p l e R s m args below meth c T locs cells slots) (hexec : p.tables.exec = Jvm.exec) {own : String} {index : Nat} {v : UInt32} (hown : s.vm.findClass own = some m.cls)
    (hconst : (Cond.constantFloat own index v).before args s = true) {g : JFrame} (hg : g.method = m) (hdg : decode c.code g.pc = .ok (.ldc_w index, 3)) :
    ∀ target, Steps p.tables e below (T.setTop { g with pc := g.pc + 3, stack := .float v :: g.stack }) target → Steps p.tables e below (T.setTop g) target := by
  obtain ⟨k, cf, hk, hcf, hcp⟩ := Cond.constantFloat_spec hown hconst
  obtain ⟨k', hk', he⟩ := X.warmed.alike.2.2 _ _ hk
  intro target hrest
  subst hg
  jvm_step X.here [hexec, hdg, ldc_w.wp_float (s := T) (f := g) X.here.top hk' (by rw [he]; exact hcf) hcp]
  exact hrest
end LDCW
theorem Wa_ldcfw {g : AG} {n : MI} {d pc : Nat} {ls : List (Nat × AV)} {st : List AV} {M : AM} {Q : Option AV → AM → Prop} {i : Nat} {z : UInt32} (hd : decode n.2.1 pc = .ok (.ldc_w i, 3)) (hw : Cond.constantFloat n.1.cls i z ∈ WT) (k : Wa g n d (pc + 3) ls (vF z :: st) M Q) : Wa g n d pc ls st M Q := by
  intro p e R s m args below meth c H locs cells slots la QW C hR hP hS hl hF T hT X
  obtain ⟨t, a, b⟩ := (k p e R s m args below meth c H locs cells slots la QW C hR hP hS hl hF) T hT X
  exact ⟨t, ldcwF X C.1 C.2.2.2.1 (C.2.2.2.2.2.2.2.2.2.2.1 _ hw _) (g := F0 m pc la (st.map (rv (gad g)))) rfl (by rw [C.2.1]; exact hd) t a, b⟩
theorem mU_rd {M : AM} {k j : Nat} {z : Int} {k' j' : Nat} (h : k' ≠ k) : mU M k j z k' j' = M k' j' := congrFun (mU_ne h) j'
theorem Wa_getI2 {g : AG} {n : MI} {d pc : Nat} {ls : List (Nat × AV)} {st : List AV} {M : AM} {Q : Option AV → AM → Prop} {v : Int} {k ci j idx N : Nat} {C : String} {T : u_T} {ty : Nat → FieldType} {fs : List (Nat ⊕ Bool)} (cf : CF ci C T N ty) (hl0 : LK n.1.cls idx (T j)) (hk : KD[k]? = some (.inl (ci, fs))) (hf : fs[j]? = some (.inr false)) (hN : j < N) (hv : M k j = v) (hd : decode n.2.1 pc = .ok (.getfield idx, 3))
    (kk : rg v → Wa g n d (pc + 3) ls (vI v :: st) M Q) : Wa g n d pc ls (vR k :: st) M Q := by
  subst hv
  exact Wa_getI cf hl0 hk hf hN hd kk
theorem Wa_iald2 {g : AG} {n : MI} {d pc : Nat} {ls : List (Nat × AV)} {st : List AV} {M : AM} {Q : Option AV → AM → Prop} {v : Int} {k len : Nat} {z : Int} (hk : KD[k]? = some (.inr (.inl len))) (hz : 0 ≤ z ∧ z < len) (hv : M k z.toNat = v) (hd : decode n.2.1 pc = .ok (.iaload, 1))
    (kk : rg v → Wa g n d (pc + 1) ls (vI v :: st) M Q) : Wa g n d pc ls (vI z :: vR k :: st) M Q := by
  subst hv
  exact Wa_iald hk hz hd kk
theorem rg_bool {z : Int} (h : z = 0 ∨ z = 1) : rg z := by rcases h with rfl | rfl <;> exact ⟨by decide, by decide⟩
theorem rg_ite {c : Prop} {a b : Int} [Decidable c] (ha : rg a) (hb : rg b) : rg (if c then a else b) := by split <;> assumption
theorem rw_6 : ∀ i, i < 2 → KD[7 + i]? = some (.inr (.inl 8)) := rows_all (by decide +kernel)
theorem rw_10 : ∀ i, i < 2 → KD[11 + i]? = some (.inr (.inl 8)) := rows_all (by decide +kernel)
theorem rw_14 : ∀ i, i < 9 → KD[15 + i]? = some (.inr (.inl 9)) := rows_all (by decide +kernel)
theorem rw_30 : ∀ i, i < 2 → KD[31 + i]? = some (.inr (.inl 8)) := rows_all (by decide +kernel)
theorem rw_34 : ∀ i, i < 2 → KD[35 + i]? = some (.inr (.inl 8)) := rows_all (by decide +kernel)
theorem rw_38 : ∀ i, i < 9 → KD[39 + i]? = some (.inr (.inl 9)) := rows_all (by decide +kernel)
theorem rw_53 : ∀ i, i < 2 → KD[54 + i]? = some (.inr (.inl 8)) := rows_all (by decide +kernel)
theorem rw_59 : ∀ i, i < 9 → KD[60 + i]? = some (.inr (.inl 9)) := rows_all (by decide +kernel)
theorem rw_77 : ∀ i, i < 2 → KD[78 + i]? = some (.inr (.inl 8)) := rows_all (by decide +kernel)
theorem rw_81 : ∀ i, i < 5 → KD[82 + i]? = some (.inr (.inl 3)) := rows_all (by decide +kernel)
