theorem snoc_of {α : Type} : ∀ (l : List α), l ≠ [] → ∃ m x, l = m ++ [x]
  | [], h => absurd rfl h
  | [a], _ => ⟨[], a, rfl⟩
  | a :: b :: r, _ => by
    obtain ⟨m, x, e⟩ := snoc_of (b :: r) (List.cons_ne_nil _ _)
    exact ⟨a :: m, x, by rw [e]; rfl⟩
def sumW (ps : List (Int × Int × Int × Int)) : Int := (ps.map (fun p => p.2.1 - p.1 + 1)).sum
def sumV (ps : List (Int × Int × Int × Int)) : Int := (ps.map (fun p => 2 * (p.2.1 - p.1) + 1)).sum
def sumC (A : LF) (f : Nat) (ps : List (Int × Int × Int × Int)) : Int := (ps.map (fun q => mc A f q.1 q.2.1 q.2.2.1 q.2.2.2)).sum
theorem sumW_app (l m : List (Int × Int × Int × Int)) : sumW (l ++ m) = sumW l + sumW m := by simp [sumW]
theorem sumV_app (l m : List (Int × Int × Int × Int)) : sumV (l ++ m) = sumV l + sumV m := by simp [sumV]
theorem sumC_app (A : LF) (f : Nat) (l m : List (Int × Int × Int × Int)) : sumC A f (l ++ m) = sumC A f l + sumC A f m := by simp [sumC]
theorem sumW_len : ∀ (ps : List (Int × Int × Int × Int)), (∀ p ∈ ps, p.1 ≤ p.2.1) → (ps.length : Int) ≤ sumW ps
  | [], _ => by simp [sumW]
  | p :: ps, h => by
    have h1 := sumW_len ps (fun x hx => h x (List.mem_cons_of_mem _ hx))
    have h2 := h p List.mem_cons_self
    unfold sumW at *
    simp only [List.map_cons, List.sum_cons, List.length_cons]
    omega
theorem sumV_nn : ∀ (ps : List (Int × Int × Int × Int)), (∀ p ∈ ps, p.1 ≤ p.2.1) → 0 ≤ sumV ps
  | [], _ => by simp [sumV]
  | p :: ps, h => by
    have h1 := sumV_nn ps (fun x hx => h x (List.mem_cons_of_mem _ hx))
    have h2 := h p List.mem_cons_self
    unfold sumV at *
    simp only [List.map_cons, List.sum_cons]
    omega
theorem sumC_nn (A : LF) (f : Nat) : ∀ (ps : List (Int × Int × Int × Int)), (∀ p ∈ ps, p.1 ≤ p.2.1 ∧ 0 ≤ p.2.2.1 ∧ p.2.2.1 ≤ p.2.2.2) → 0 ≤ sumC A f ps
  | [], _ => by simp [sumC]
  | p :: ps, h => by
    have h1 := sumC_nn A f ps (fun x hx => h x (List.mem_cons_of_mem _ hx))
    have h2 := h p List.mem_cons_self
    have h3 := mc_le A f p.1 p.2.1 p.2.2.1 p.2.2.2 h2.1 h2.2.1 h2.2.2
    unfold sumC at *
    simp only [List.map_cons, List.sum_cons]
    omega
theorem mc_subs (A : LF) {f : Nat} {a b c d : Int} (h1 : a ≤ b) (hc : 0 ≤ c) (h2 : c ≤ d) (hf : b - a ≤ f) : mc A (f + 1) a b c d = mpCnt A a b c d + sumC A (f + 1) (mpSub A a b c d) := by
  rw [mc_split]
  have hs := (mpSub_ok A h1 hc h2).1
  have e : (mpSub A a b c d).map (fun q => mc A f q.1 q.2.1 q.2.2.1 q.2.2.2) = (mpSub A a b c d).map (fun q => mc A (f + 1) q.1 q.2.1 q.2.2.1 q.2.2.2) := by
    apply List.map_congr_left
    intro x hx
    have := hs x hx
    unfold PB at this
    exact (mp_st A f (f + 1) x.1 x.2.1 x.2.2.1 x.2.2.2 (by omega) (by omega) (by omega) (by omega) (by omega)).2
  rw [e]
  rfl
theorem mp_subs (A : LF) {f : Nat} {a b c d : Int} (h1 : a ≤ b) (hc : 0 ≤ c) (h2 : c ≤ d) (hf : b - a ≤ f) (q : Int × Int) : q ∈ mp A (f + 1) a b c d ↔ q ∈ mpOwn A a b c d ∨ ∃ p ∈ mpSub A a b c d, q ∈ mp A (f + 1) p.1 p.2.1 p.2.2.1 p.2.2.2 := by
  rw [mp_split]
  have hs := (mpSub_ok A h1 hc h2).1
  have e : ∀ x ∈ mpSub A a b c d, mp A f x.1 x.2.1 x.2.2.1 x.2.2.2 = mp A (f + 1) x.1 x.2.1 x.2.2.1 x.2.2.2 := by
    intro x hx
    have := hs x hx
    unfold PB at this
    exact (mp_st A f (f + 1) x.1 x.2.1 x.2.2.1 x.2.2.2 (by omega) (by omega) (by omega) (by omega) (by omega)).1
  constructor
  · rintro (z | ⟨p, hp, z⟩)
    · exact Or.inl z
    · exact Or.inr ⟨p, hp, by rw [← e p hp]; exact z⟩
  · rintro (z | ⟨p, hp, z⟩)
    · exact Or.inl z
    · exact Or.inr ⟨p, hp, by rw [e p hp]; exact z⟩
section RMATCH3
variable {g : AG} {d : Nat} {M : AM} {A : LF} {n : Int → Int}
theorem r_work {Q : AM → Prop} (hA : LAr M A n) {f : Nat} (hf : 8 ≤ f) (h : ∀ M', PAr M' (kps (mp A (f + 1) 0 (n 0) 0 (n 1)) (fun _ _ => -1)) → M' 88 12 = mc A (f + 1) 0 (n 0) 0 (n 1) → FrR M M' → Q M') : ∀ (m : Nat) (ps : List (Int × Int × Int × Int)) (dl : List (Int × Int)) (M1 : AM), (sumV ps).toNat = m → PSk M1 ps → PAr M1 (kps dl (fun _ _ => -1)) → (∀ q, q ∈ mp A (f + 1) 0 (n 0) 0 (n 1) ↔ q ∈ dl ∨ ∃ p ∈ ps, q ∈ mp A (f + 1) p.1 p.2.1 p.2.2.1 p.2.2.2) → (∀ p ∈ ps, PB 0 (n 0) 0 (n 1) p) → M1 88 12 + sumC A (f + 1) ps = mc A (f + 1) 0 (n 0) 0 (n 1) → 0 ≤ M1 88 12 → sumW ps ≤ 9 → FrR M M1 → S_X9_matchAll_49 g (d + 5) M1 Q := by
  have b1 := hA.2.2.1
  have b2 := hA.2.2.2.1
  have hmp := mp_ok A (f + 1) 0 (n 0) 0 (n 1) b1.1 (Int.le_refl _) b2.1
  have hmc := mc_le A (f + 1) 0 (n 0) 0 (n 1) b1.1 (Int.le_refl _) b2.1
  intro m
  induction m using Nat.strongRecOn with
  | _ m ih =>
    intro ps dl M1 hmm hps hP hmem hpb hc c0 hw hF
    have hlen := sumW_len ps (fun p hp => (hpb p hp).2.1)
    refine sg_X9_matchAll_49 ⟨fun w => ?_, fun w => ?_⟩
    · have he : ps = [] := List.length_eq_zero_iff.mp (by have := hps.1; omega)
      subst he
      have hmem' : ∀ q, q ∈ dl ↔ q ∈ mp A (f + 1) 0 (n 0) 0 (n 1) := fun q => by
        rw [hmem q]
        constructor
        · exact Or.inl
        · rintro (z | ⟨p, hp, _⟩)
          · exact z
          · exact absurd hp List.not_mem_nil
      rw [kps_ext (NX_mem hmp.1 (fun q hq => (hmem' q).mp hq)) hmp.1 hmem'] at hP
      have e0 : sumC A (f + 1) ([] : List (Int × Int × Int × Int)) = 0 := by simp [sumC]
      refine h M1 hP (by omega) hF
    · have hne : ps ≠ [] := fun z => w (by rw [hps.1, z]; exact Int.le_refl _)
      obtain ⟨ps0, p, rfl⟩ := snoc_of ps hne
      have hl1 := hps.1
      rw [List.length_append, List.length_singleton] at hl1 hlen
      have hpp := hps.2 ps0.length (by omega) (by rw [List.length_append, List.length_singleton]; omega)
      rw [show ((ps0.length : Int)).toNat = ps0.length by omega, getD_app_r] at hpp
      obtain ⟨q1, q2, q3, q4, q5, q6⟩ := hpb p (List.mem_append_right _ List.mem_cons_self)
      rw [sumV_app] at hmm
      rw [sumW_app] at hw
      rw [sumC_app] at hc
      have v0 := sumV_nn ps0 (fun p hp => (hpb p (List.mem_append_left _ hp)).2.1)
      have w0 := sumW_len ps0 (fun p hp => (hpb p (List.mem_append_left _ hp)).2.1)
      have cc0 := sumC_nn A (f + 1) ps0 (fun p hp => by have := hpb p (List.mem_append_left _ hp); unfold PB at this; omega)
      have ev : sumV [p] = 2 * (p.2.1 - p.1) + 1 := by simp [sumV]
      have ew : sumW [p] = p.2.1 - p.1 + 1 := by simp [sumW]
      have ec : sumC A (f + 1) [p] = mc A (f + 1) p.1 p.2.1 p.2.2.1 p.2.2.2 := by simp [sumC]
      have hmcp := mc_le A (f + 1) p.1 p.2.1 p.2.2.1 p.2.2.2 q2 (by omega) q5
      obtain ⟨u1, u2, u3, u4, u5⟩ := mpSub_ok A (a := p.1) (b := p.2.1) (c := p.2.2.1) (d := p.2.2.2) q2 (by omega) q5
      have u2 : sumW (mpSub A p.1 p.2.1 p.2.2.1 p.2.2.2) ≤ p.2.1 - p.1 + 1 := u2
      have u3 : sumV (mpSub A p.1 p.2.1 p.2.2.1 p.2.2.2) < 2 * (p.2.1 - p.1) + 1 := u3
      have ecs := mc_subs A (f := f) q2 (show 0 ≤ p.2.2.1 by omega) q5 (by omega)
      have hsub : ∀ x ∈ mpSub A p.1 p.2.1 p.2.2.1 p.2.2.2, PB 0 (n 0) 0 (n 1) x := fun x hx => by
        have := u1 x hx
        unfold PB at *
        omega
      have vs := sumV_nn (mpSub A p.1 p.2.1 p.2.2.1 p.2.2.2) (fun x hx => (hsub x hx).2.1)
      rw [hl1, show ((ps0.length + 1 : Nat) : Int) - 1 = ps0.length by omega]
      refine ⟨⟨by omega, by omega⟩, ⟨by omega, by omega⟩, ⟨by omega, by omega⟩, ⟨by omega, by omega⟩, ⟨by omega, by omega⟩, ?_⟩
      rw [hpp.1, hpp.2.1, hpp.2.2.1, hpp.2.2.2]
      have F2 : FrR M1 (mU M1 88 15 (ps0.length : Int)) := (FrR.rf M1).up8 (by omega)
      have hps0 : PSk (mU M1 88 15 (ps0.length : Int)) ps0 := by
        refine ⟨mU_at, fun k k0 k1 => ?_⟩
        rw [mU_ne (by decide)]
        have := hps.2 k k0 (by rw [List.length_append, List.length_singleton]; omega)
        rw [getD_app_l (by omega)] at this
        exact this
      have e12 : (mU M1 88 15 (ps0.length : Int)) 88 12 = M1 88 12 := mU_nej (by decide)
      refine r_matchPart (hA.fr (hF.tr F2)) q1 q2 q3 q4 q5 q6 (hP.same (mU_ne (by decide))) hps0 (by omega) (by rw [e12]; omega) (fun M3 k1 k2 k3 k4 => ?_)
      rw [e12] at k2
      refine ih _ ?_ (ps0 ++ mpSub A p.1 p.2.1 p.2.2.1 p.2.2.2) (dl ++ mpOwn A p.1 p.2.1 p.2.2.1 p.2.2.2) M3 rfl k3 (by rw [kps_app]; exact k1) (fun q => ?_) (fun x hx => ?_) ?_ (by omega) ?_ ((hF.tr F2).tr k4)
      · rw [sumV_app]
        omega
      · rw [hmem q]
        constructor
        · rintro (z | ⟨x, hx, z⟩)
          · exact Or.inl (List.mem_append_left _ z)
          · rcases List.mem_append.mp hx with hx | hx
            · exact Or.inr ⟨x, List.mem_append_left _ hx, z⟩
            · rw [List.mem_singleton.mp hx] at z
              rcases (mp_subs A (f := f) q2 (show 0 ≤ p.2.2.1 by omega) q5 (by omega) q).mp z with z | ⟨y, hy, z⟩
              · exact Or.inl (List.mem_append_right _ z)
              · exact Or.inr ⟨y, List.mem_append_right _ hy, z⟩
        · rintro (z | ⟨x, hx, z⟩)
          · rcases List.mem_append.mp z with z | z
            · exact Or.inl z
            · exact Or.inr ⟨p, List.mem_append_right _ List.mem_cons_self, (mp_subs A (f := f) q2 (show 0 ≤ p.2.2.1 by omega) q5 (by omega) q).mpr (Or.inl z)⟩
          · rcases List.mem_append.mp hx with hx | hx
            · exact Or.inr ⟨x, List.mem_append_left _ hx, z⟩
            · exact Or.inr ⟨p, List.mem_append_right _ List.mem_cons_self, (mp_subs A (f := f) q2 (show 0 ≤ p.2.2.1 by omega) q5 (by omega) q).mpr (Or.inr ⟨x, hx, z⟩)⟩
      · rcases List.mem_append.mp hx with hx | hx
        · exact hpb x (List.mem_append_left _ hx)
        · exact hsub x hx
      · rw [sumC_app]
        omega
      · rw [sumW_app]
        omega
theorem r_matchAll {Q : AM → Prop} (hA : LAr M A n) (h : ∀ M', PAr M' (P0 A n) → M' 88 12 = ANC A n → FrR M M' → Q M') : MetV g mX9_matchAll (d + 5) [vR 88] M Q := by
  have b1 := hA.2.2.1
  have b2 := hA.2.2.2.1
  have fill : ∀ (m : Nat) (l : Int) (M1 : AM), l + m = 32 → 0 ≤ l → (∀ j : Int, 0 ≤ j → j < l → M1 94 j.toNat = -1) → (∀ k, k ≠ 94 → M1 k = M k) → S_X9_matchAll_2 g (d + 5) l M1 Q := by
    intro m
    induction m with
    | zero =>
      intro l M1 hl l0 g1 g2
      refine sg_X9_matchAll_2 ⟨⟨by omega, by omega⟩, fun _ => ?_, fun w => by omega⟩
      have F1 : FrR M (mU (mU M1 88 12 0) 88 15 0) := FrR.up8 (FrR.up8 ⟨fun k q1 q2 => g2 k (by omega), fun j _ _ _ => by rw [g2 88 (by decide)]⟩ (by omega)) (by omega)
      have p0 : PSk (mU (mU M1 88 12 0) 88 15 0) [] := ⟨mU_at, fun k k0 k1 => by simp at k1; omega⟩
      rw [show M1 93 0 = n 0 by rw [g2 93 (by decide)]; exact hA.1, show M1 93 1 = n 1 by rw [g2 93 (by decide)]; exact hA.2.1]
      refine r_addPart p0 (by decide) ⟨by decide, by decide⟩ ⟨by omega, by omega⟩ ⟨by decide, by decide⟩ ⟨by omega, by omega⟩ (fun M2 k1 k2 k3 => ?_)
      have F2 : FrR M M2 := F1.tr ⟨fun k q1 q2 => k2 k q1 (by omega), fun j q1 q2 q3 => k3 j q3⟩
      have e12 : M2 88 12 = 0 := by rw [k3 12 (by decide), mU_nej (by decide), mU_at]
      refine r_work hA (f := 8) (Nat.le_refl _) h _ [(0, n 0, 0, n 1)] [] M2 rfl k1 (fun s i hs i0 i1 => ?_) (fun q => ?_) (fun p hp => ?_) ?_ (by omega) ?_ F2
      · rw [k2 94 (by decide) (by decide), mU_ne (by decide), mU_ne (by decide)]
        exact g1 _ (by omega) (by omega)
      · constructor
        · intro z
          exact Or.inr ⟨_, List.mem_cons_self, z⟩
        · rintro (z | ⟨x, hx, z⟩)
          · exact absurd z List.not_mem_nil
          · rw [List.mem_singleton.mp hx] at z
            exact z
      · rw [List.mem_singleton.mp hp]
        exact ⟨Int.le_refl _, b1.1, Int.le_refl _, Int.le_refl _, b2.1, Int.le_refl _⟩
      · rw [e12]
        simp [sumC]
      · simp [sumW]
        omega
    | succ m ih =>
      intro l M1 hl l0 g1 g2
      refine sg_X9_matchAll_2 ⟨⟨by omega, by omega⟩, fun w => by omega, fun _ => ⟨⟨by omega, by omega⟩, ih (l + 1) _ (by omega) (by omega) (fun j j0 j1 => ?_) (fun k hk => by rw [mU_ne hk]; exact g2 k hk)⟩⟩
      by_cases e : j = l
      · subst e
        exact mU_at
      · rw [mU_nej (by omega)]
        exact g1 j j0 (by omega)
  exact en_X9_matchAll (sg_X9_matchAll_0 (fill 32 0 M (by omega) (by omega) (fun j j0 j1 => by omega) (fun _ _ => rfl)))
end RMATCH3
