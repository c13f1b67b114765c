/-! the class's page: is it a text; one code more -/
section CTEXT
variable {g : AG} {d : Nat} {M : AM} {pg : Int → Int} {z : Int}
/-- the whole page is a text -/
def isTx (pg : Int → Int) (z : Int) : Prop := (rdN pg z.toNat 0 Rd0).1 = z ∧ (rdN pg z.toNat 0 Rd0).2.1 = 1 ∧ mayE (rdN pg z.toNat 0 Rd0).2
theorem c_isText {Q : Int → AM → Prop} (hP : PgC M pg z) (h : ∀ M', (∀ k, k ≠ 3 → M' k = M k) → Q (bI (isTx pg z)) M') : MetI g mX3_isText (d + 5) [vR 1] M Q := by
  refine en_X3_isText (sg_X3_isText_0 (c_firstFault hP (fun M1 k1 k2 _ => ?_)))
  have e : M1 1 2 = z := by rw [k1 1 (by decide)]; exact hP.1
  rw [e]
  refine ⟨fun c => ?_, fun c => ?_⟩
  · have := h M1 k1
    rwa [bI_f (fun q => c q.1)] at this
  · refine c_mayEnd (d := d + 2) (k2 c) (fun _ => ⟨fun c2 => ?_, fun c2 => ?_⟩)
    · have := h M1 k1
      rwa [bI_f (fun q => by rw [bI_t ⟨q.2.1, q.2.2⟩] at c2; cases c2)] at this
    · have := h M1 k1
      have q : _ ∧ _ := Classical.byContradiction fun q => c2 (bI_f q)
      rwa [bI_t ⟨c, q.1, q.2⟩] at this
theorem c_pappend {Q : Int → AM → Prop} {c : Int} (hP : PgC M pg z) (hc : rg c) (h0 : z = 64 → Q 0 M) (h1 : z < 64 → ∀ M', PgC M' (f1 pg z c) (z + 1) → (∀ k, k ≠ 2 → k ≠ 1 → M' k = M k) → (∀ j, j ≠ 2 → M' 1 j = M 1 j) → Q 1 M') : MetI g mX3_append (d + 1) [vR 1, vI c] M Q := by
  obtain ⟨p1, p2, p3⟩ := hP
  refine en_X3_append (sg_X3_append_0 ?_)
  rw [p1]
  refine ⟨fun w => ⟨⟨by omega, by omega⟩, hc, ⟨by omega, by omega⟩, ?_⟩, fun w => h0 (by omega)⟩
  refine h1 w _ ⟨mU_at, ⟨by omega, by omega⟩, fun k k0 k1 => ?_⟩ (fun k q1 q2 => by rw [mU_ne q2, mU_ne q1]) (fun j hj => by rw [mU_nej hj, mU_ne (by decide)])
  rw [mU_ne (by decide)]
  unfold f1
  by_cases e : k = z
  · subst e
    rw [mU_at, if_pos rfl]
    exact ⟨rfl, hc⟩
  · rw [mU_nej (by omega), if_neg e]
    exact p3 k k0 (by omega)
end CTEXT
