/-! reading the page: what a text is, and the class's reader -/
abbrev RdS := Int × Int × (Int → Int) × LF
def f1 (n : Int → Int) (s v : Int) : Int → Int := fun t => if t = s then v else n t
/-- one code more: side, letters here, lines in each side, the lines -/
def stp (c : Int) (r : RdS) : Option RdS := if 97 ≤ c ∧ c ≤ 101 then (if r.2.1 = 3 then none else if r.2.1 = 0 then some (r.1, 1, f1 r.2.2.1 r.1 (r.2.2.1 r.1 + 1), f2 r.2.2.2 r.1 (r.2.2.1 r.1) c) else some (r.1, r.2.1 + 1, r.2.2.1, f2 r.2.2.2 r.1 (r.2.2.1 r.1 - 1) (128 * r.2.2.2 r.1 (r.2.2.1 r.1 - 1) + c)))
  else if c = 44 then (if r.2.1 = 0 ∨ r.2.2.1 r.1 = 8 then none else some (r.1, 0, r.2.2.1, r.2.2.2))
  else if c = 59 ∧ r.1 = 0 ∧ (r.2.2.1 0 = 0 ∨ 0 < r.2.1) then some (1, 0, r.2.2.1, r.2.2.2) else none
def rdN (pg : Int → Int) : Nat → Int → RdS → Int × RdS
  | 0, k, r => (k, r)
  | m + 1, k, r => match stp (pg k) r with
    | none => (k, r)
    | some r' => rdN pg m (k + 1) r'
theorem rdN_n {pg : Int → Int} {m : Nat} {k : Int} {r : RdS} (h : stp (pg k) r = none) : rdN pg (m + 1) k r = (k, r) := by
  show (match stp (pg k) r with | none => (k, r) | some r' => rdN pg m (k + 1) r') = _
  rw [h]
theorem rdN_s {pg : Int → Int} {m : Nat} {k : Int} {r r' : RdS} (h : stp (pg k) r = some r') : rdN pg (m + 1) k r = rdN pg m (k + 1) r' := by
  show (match stp (pg k) r with | none => (k, r) | some r' => rdN pg m (k + 1) r') = _
  rw [h]
def RdOk (r : RdS) : Prop := (r.1 = 0 ∨ r.1 = 1) ∧ (0 ≤ r.2.1 ∧ r.2.1 ≤ 3) ∧ (0 ≤ r.2.2.1 0 ∧ r.2.2.1 0 ≤ 8) ∧ (0 ≤ r.2.2.1 1 ∧ r.2.2.1 1 ≤ 8) ∧ (r.2.1 = 0 → r.2.2.1 r.1 ≤ 7) ∧ (r.1 = 0 → r.2.2.1 1 = 0) ∧ (0 < r.2.1 → 0 < r.2.2.1 r.1)
theorem stp_ok {c : Int} {r r' : RdS} (h : RdOk r) (e : stp c r = some r') : RdOk r' := by
  obtain ⟨sd, hr, n, A⟩ := r
  obtain ⟨h1, h2, h3, h4, h5, h6, h7⟩ := h
  simp only at h1 h2 h3 h4 h5 h6 h7
  unfold stp at e
  simp only at e
  split at e
  · split at e
    · cases e
    · split at e
      · cases e
        rename_i z
        have w := h5 z
        rcases h1 with rfl | rfl
        · have w6 := h6 rfl
          refine ⟨Or.inl rfl, ⟨by simp, by simp⟩, ?_, ?_, ?_, ?_, ?_⟩ <;> simp [f1] <;> omega
        · refine ⟨Or.inr rfl, ⟨by simp, by simp⟩, ?_, ?_, ?_, ?_, ?_⟩ <;> simp [f1] <;> omega
      · cases e
        exact ⟨h1, ⟨by simp only; omega, by simp only; omega⟩, h3, h4, fun q => by simp only at q; omega, h6, fun _ => h7 (by omega)⟩
  · split at e
    · split at e
      · cases e
      · cases e
        refine ⟨h1, ⟨by simp, by simp⟩, h3, h4, fun _ => ?_, h6, fun q => by simp at q⟩
        simp only
        rcases h1 with rfl | rfl <;> omega
    · split at e
      · cases e
        rename_i z
        have w := h6 z.2.1
        refine ⟨Or.inr rfl, ⟨by simp, by simp⟩, h3, h4, fun _ => by simp only; omega, fun q => by simp at q, fun q => by simp at q⟩
      · cases e
def RdC (M : AM) (r : RdS) : Prop := M 3 0 = r.1 ∧ M 3 1 = r.2.2.1 r.1 ∧ M 3 2 = r.2.1
section READ
variable {g : AG} {d : Nat} {M : AM}
theorem c_sideMayEnd {Q : Int → AM → Prop} {r : RdS} (hM : RdC M r) (h : Q (bI (r.2.2.1 r.1 = 0 ∨ 0 < r.2.1)) M) : MetI g mX5_sideMayEnd (d + 1) [vR 3] M Q := by
  obtain ⟨h1, h2, h3⟩ := hM
  refine en_X5_sideMayEnd (sg_X5_sideMayEnd_0 ?_)
  rw [h2, h3]
  refine ⟨fun c => ?_, fun c => ⟨fun c2 => ?_, fun c2 => ?_⟩⟩
  · rwa [bI_t (Or.inl c)] at h
  · rwa [bI_f (by omega)] at h
  · rwa [bI_t (by omega)] at h
theorem c_mayEnd {Q : Int → AM → Prop} {r : RdS} (hM : RdC M r) (h : Q (bI (r.1 = 1 ∧ (r.2.2.1 r.1 = 0 ∨ 0 < r.2.1))) M) : MetI g mX5_mayEnd (d + 2) [vR 3] M Q := by
  refine en_X5_mayEnd (sg_X5_mayEnd_0 ?_)
  rw [hM.1]
  refine ⟨fun c => ?_, fun c => c_sideMayEnd hM (fun _ => ⟨fun c2 => ?_, fun c2 => ?_⟩)⟩
  · rwa [bI_f (fun q => c q.1)] at h
  · rwa [bI_f (fun q => by rw [bI_t q.2] at c2; cases c2)] at h
  · rwa [bI_t ⟨c, Classical.byContradiction fun q => c2 (bI_f q)⟩] at h
theorem c_takes {Q : Int → AM → Prop} {c : Int} {r : RdS} (hM : RdC M r) (ok : RdOk r) (hc : rg c) (h0 : stp c r = none → Q 0 M) (h1 : ∀ r' M', stp c r = some r' → RdC M' r' → (∀ k, k ≠ 3 → M' k = M k) → Q 1 M') : MetI g mX5_takes (d + 3) [vR 3, vI c] M Q := by
  have hM' := hM
  obtain ⟨e1, e2, e3⟩ := hM'
  obtain ⟨sd, hr, n, A⟩ := r
  obtain ⟨o1, o2, o3, o4, o5, o6, o7⟩ := ok
  simp only at o1 o2 o3 o4 o5 o6 o7 e1 e2 e3
  have n8 : 0 ≤ n sd ∧ n sd ≤ 8 := by rcases o1 with rfl | rfl <;> assumption
  unfold stp at h0 h1
  simp only at h0 h1
  refine en_X5_takes (sg_X5_takes_0 ⟨hc, c_isLetter (d := d + 1) hc (fun _ => ⟨fun w => ?_, fun w => ?_⟩)⟩)
  · have hl : ¬ (97 ≤ c ∧ c ≤ 101) := fun q => by rw [bI_t (show isLt c from q)] at w; cases w
    rw [if_neg hl] at h0 h1
    refine ⟨fun c1 => ?_, fun c1 => ?_⟩
    · rw [if_neg c1] at h0 h1
      refine ⟨fun c2 => h0 (by rw [if_neg (fun q => c2 q.1)]), fun c2 => ?_⟩
      refine en_X5_takesSemicolon (sg_X5_takesSemicolon_0 ?_)
      rw [e1]
      refine ⟨fun c3 _ => ⟨fun _ => h0 (by rw [if_neg (fun q => by omega)]), fun q => absurd rfl q⟩, fun c3 => ?_⟩
      have s0 : sd = 0 := by omega
      subst s0
      refine c_sideMayEnd (r := (0, hr, n, A)) hM (fun _ => ⟨fun c4 _ => ⟨fun q => (by cases q), fun _ => ?_⟩, fun c4 _ => ⟨fun _ => ?_, fun q => absurd rfl q⟩⟩)
      · have hq : n 0 = 0 ∨ 0 < hr := Classical.byContradiction fun q => c4 (bI_f q)
        refine h1 (1, 0, n, A) _ (by rw [if_pos ⟨c2, rfl, hq⟩]) ⟨?_, ?_, ?_⟩ (fun k hk => by rw [mU_ne hk, mU_ne hk, mU_ne hk])
        · rw [mU_nej (by decide), mU_nej (by decide), mU_at]
        · rw [mU_nej (by decide), mU_at]
          exact (o6 rfl).symm
        · rw [mU_at]
      · have hq : ¬ (n 0 = 0 ∨ 0 < hr) := fun q => by rw [bI_t q] at c4; cases c4
        exact h0 (by rw [if_neg (fun q => hq q.2.2)])
    · rw [if_pos c1] at h0 h1
      refine en_X5_takesComma (sg_X5_takesComma_0 ?_)
      rw [e2, e3]
      refine ⟨fun c2 _ => ⟨Or.inl rfl, h0 (by rw [if_pos (Or.inl c2)])⟩, fun c2 => ⟨fun c3 _ => ⟨Or.inr rfl, ?_⟩, fun c3 _ => ⟨Or.inl rfl, h0 (by rw [if_pos (Or.inr c3)])⟩⟩⟩
      refine h1 (sd, 0, n, A) _ (by rw [if_neg (by omega)]) ⟨?_, ?_, ?_⟩ (fun k hk => by rw [mU_ne hk])
      · rw [mU_nej (by decide)]; exact e1
      · rw [mU_nej (by decide)]; exact e2
      · rw [mU_at]
  · have hl : 97 ≤ c ∧ c ≤ 101 := Classical.byContradiction fun q => w (bI_f q)
    rw [if_pos hl] at h0 h1
    refine en_X5_takesLetter (sg_X5_takesLetter_0 ?_)
    rw [e2, e3]
    refine ⟨fun c1 => ⟨fun c2 => ⟨⟨by omega, by omega⟩, fun _ => ⟨Or.inr rfl, ?_⟩⟩, fun c2 => ⟨⟨by omega, by omega⟩, ⟨by omega, by omega⟩, fun _ => ⟨Or.inr rfl, ?_⟩⟩⟩, fun c1 _ => ⟨Or.inl rfl, h0 (by rw [if_pos c1])⟩⟩
    · refine h1 _ _ (by rw [if_neg c1, if_neg c2]) ⟨?_, ?_, ?_⟩ (fun k hk => by rw [mU_ne hk])
      · rw [mU_nej (by decide)]; exact e1
      · rw [mU_nej (by decide)]; exact e2
      · rw [mU_at]
    · refine h1 _ _ (by rw [if_neg c1, if_pos c2]) ⟨?_, ?_, ?_⟩ (fun k hk => by rw [mU_ne hk, mU_ne hk])
      · rw [mU_nej (by decide), mU_nej (by decide)]; exact e1
      · rw [mU_nej (by decide), mU_at]
        simp [f1]
      · rw [mU_at]
        simp only
        omega
def Rd0 : RdS := (0, 0, fun _ => 0, fun _ _ => 0)
theorem Rd0_ok : RdOk Rd0 := by unfold RdOk Rd0; simp
def PgC (M : AM) (pg : Int → Int) (z : Int) : Prop := M 1 2 = z ∧ (0 ≤ z ∧ z ≤ 64) ∧ ∀ k, 0 ≤ k → k < z → M 2 k.toNat = pg k ∧ rg (pg k)
theorem c_firstFault {Q : Int → AM → Prop} {pg : Int → Int} {z : Int} (hP : PgC M pg z) (h : ∀ M', (∀ k, k ≠ 3 → M' k = M k) → ((rdN pg z.toNat 0 Rd0).1 = z → RdC M' (rdN pg z.toNat 0 Rd0).2) → Q (rdN pg z.toNat 0 Rd0).1 M') : MetI g mX3_firstFault (d + 4) [vR 1] M Q := by
  obtain ⟨p1, p2, p3⟩ := hP
  have loop : ∀ (m : Nat) (k : Int) (r : RdS) (M1 : AM), k + m = z → 0 ≤ k → RdOk r → RdC M1 r → (∀ k, k ≠ 3 → M1 k = M k) → (∀ M', (∀ k, k ≠ 3 → M' k = M k) → ((rdN pg m k r).1 = z → RdC M' (rdN pg m k r).2) → Q (rdN pg m k r).1 M') → S_X3_firstFault_9 g (d + 4) k M1 Q := by
    intro m
    induction m with
    | zero =>
      intro k r M1 hm k0 ok hR gF hk
      have ez : M1 1 2 = z := by rw [gF 1 (by decide)]; exact p1
      refine sg_X3_firstFault_9 ⟨⟨by omega, by omega⟩, fun _ => ?_, fun w => by omega⟩
      rw [ez, show z = k by omega]
      exact hk M1 gF (fun _ => hR)
    | succ m ih =>
      intro k r M1 hm k0 ok hR gF hk
      have ez : M1 1 2 = z := by rw [gF 1 (by decide)]; exact p1
      obtain ⟨q1, q2⟩ := p3 k k0 (by omega)
      refine sg_X3_firstFault_9 ⟨⟨by omega, by omega⟩, fun w => by omega, fun _ => ⟨⟨by omega, by omega⟩, ?_⟩⟩
      rw [gF 2 (by decide), q1]
      refine c_takes hR ok q2 (fun e _ => ⟨fun w => absurd rfl w, fun _ => ?_⟩) (fun r' M2 e k1 k2 _ => ⟨fun _ => ?_, fun w => by cases w⟩)
      · rw [rdN_n e] at hk
        exact hk M1 gF (fun w => by simp only at w; omega)
      · rw [rdN_s e] at hk
        exact ih (k + 1) r' M2 (by omega) (by omega) (stp_ok ok e) k1 (fun k hk => by rw [k2 k hk]; exact gF k hk) hk
  refine en_X3_firstFault (sg_X3_firstFault_0 (en_X5_begin (sg_X5_begin_0 ?_)))
  refine loop z.toNat 0 Rd0 _ (by omega) (by omega) Rd0_ok ⟨?_, ?_, mU_at⟩ (fun k hk => by rw [mU_ne hk, mU_ne hk, mU_ne hk]) h
  · rw [mU_nej (by decide), mU_nej (by decide), mU_at]; rfl
  · rw [mU_nej (by decide), mU_at]; rfl
end READ
