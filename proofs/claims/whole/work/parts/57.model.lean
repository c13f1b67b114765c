/-! the reference's constructor as a contract; the first state -/
def M0 : AM := fun _ _ => 0
theorem RM_0 : RM M0 := fun _ _ _ => rg_0
theorem lS8_len (g : AG) : (lS8 g).length = 88 := rfl
set_option maxRecDepth 100000 in
set_option maxHeartbeats 4000000 in
theorem full_w (g : AG) : lS8 g ++ lS9 g = (List.range 108).map (cel g M0) := rfl
theorem hw_wl {g : AG} {M : AM} {H : Heap} (hG : Ga g) (h : hw g 0 ((List.range 108).map (cel g M)) H) : va_P (gD g) vwCl (wl g M) H := by
  intro k q hq
  have hk : k < 108 := by
    have := (List.getElem?_eq_some_iff.mp hq).1
    simpa [wl] using this
  rw [wl_at g M hk] at hq
  cases hq
  have := h.2 k (gs0 g + 0 + k, cel g M k) (by rw [wk_get, List.getElem?_map, List.getElem?_range hk]; rfl)
  rwa [show gs0 g + 0 + k = gad g k by rw [hG k hk]; omega] at this
def Fst (M : AM) : Prop := M 88 29 = -1 ∧ (∀ j, j < 15 → M 103 j = -1) ∧ (∀ k, k ≠ 88 → k ≠ 103 → M k = M0 k) ∧ ∀ j, j ≠ 29 → M 88 j = 0
theorem Fst_inv {M : AM} (h : Fst M) : Inv 0 M := by
  obtain ⟨h1, h2, h3, h4⟩ := h
  have z : ∀ k j, k ≠ 88 → k ≠ 103 → M k j = 0 := fun k j a b => by rw [h3 k a b]; rfl
  have nl : ∀ s i, ¬ isLn (fun _ => 0) s i := fun s i q => by have a := q.2.1; have b : i < 0 := q.2.2; omega
  obtain ⟨s1, s2⟩ := SCR_0 (A := fun _ _ => 0) (n := fun _ => 0) rfl rfl
  refine Inv.mk (pg := fun _ => 0) (z := 0) (A := fun _ _ => 0) (n := fun _ => 0) (T := 0) (I := 0) (Ai := fun _ _ => 0) (ni := fun _ => 0) (rd := 0) (RK := RK0) (RN := RN0) ⟨⟨z 1 2 (by decide) (by decide), ⟨by decide, by decide⟩, fun k k0 k1 => by omega⟩, ⟨⟨z _ _ (by decide) (by decide), z _ _ (by decide) (by decide), ⟨by decide, by decide⟩, ⟨by decide, by decide⟩, fun s i _ i0 i1 => absurd (show i < 0 from i1) (by omega)⟩, fun s i q => absurd q (nl s i), ?_, fun s i q => absurd q (nl s i), z 0 8 (by decide) (by decide), fun w => absurd w (by decide)⟩, ⟨z 0 9 (by decide) (by decide), fun w => absurd w (by decide), z 0 10 (by decide) (by decide)⟩, fun k k0 k5 => ⟨z _ _ (by decide) (by decide), fun j j0 j1 => by unfold RN0 at j1; omega⟩⟩ ⟨⟨h4 1 (by decide), ⟨by decide, by decide⟩, fun k k0 k1 => by omega⟩, ⟨⟨z _ _ (by decide) (by decide), z _ _ (by decide) (by decide), ⟨by decide, by decide⟩, ⟨by decide, by decide⟩, fun s i _ i0 i1 => absurd (show i < 0 from i1) (by omega)⟩, fun s i q => absurd q (nl s i), ?_, fun s i q => absurd q (nl s i), h4 9 (by decide), fun w => absurd w (by decide)⟩, ⟨h4 10 (by decide), by rw [h1]; decide, by rw [h1]; decide, fun w => absurd w (by decide)⟩, fun k j k0 k5 j0 j3 => h2 _ (by omega)⟩ ⟨fun _ _ => ⟨rg_0, Int.le_refl 0⟩, Or.inl rfl, fun _ => ⟨rfl, rfl⟩⟩ ⟨Or.inl rfl, fun w => absurd w (by decide), fun _ _ => ⟨rg_0, Int.le_refl 0⟩⟩ OkK_0 (by decide) (by decide)
  · rw [s1, s2]
    exact ⟨z 71 6 (by decide) (by decide), z 71 7 (by decide) (by decide), fun k hk => absurd hk (Nat.not_lt_zero _)⟩
  · rw [s1, s2]
    exact ⟨h4 22 (by decide), h4 23 (by decide), fun k hk => absurd hk (Nat.not_lt_zero _)⟩
theorem m_153 {g : AG} {d : Nat} : Wa g mX9_init (d + 1) 153 [(0, vR 88)] [] M0 (QV Fst) := by
  have loop : ∀ (m : Nat) (l : Int) (M1 : AM), l + m = 15 → 0 ≤ l → M1 88 29 = -1 → (∀ j : Nat, (j : Int) < l → M1 103 j = -1) → (∀ k, k ≠ 88 → k ≠ 103 → M1 k = M0 k) → (∀ j, j ≠ 29 → M1 88 j = 0) → Wa g mX9_init (d + 1) 160 [(1, vI l), (0, vR 88)] [] M1 (QV Fst) := by
    intro m
    induction m with
    | zero =>
      intro l M1 hm l0 a1 a2 a3 a4
      refine Wa_iload_n 0 dX9_init_160 rfl rfl ?_
      refine Wa_bipush (z := 15) dX9_init_161 (by decide) ?_
      refine Wa_icmp_ge (tgt := 179) dX9_init_163 (by decide) ⟨by omega, by omega⟩ ⟨by decide, by decide⟩ (fun _ => ?_) (fun w => by omega)
      exact Wa_return dX9_init_179 rfl ⟨rfl, a1, fun j hj => a2 j (by omega), a3, a4⟩
    | succ m ih =>
      intro l M1 hm l0 a1 a2 a3 a4
      refine Wa_iload_n 0 dX9_init_160 rfl rfl ?_
      refine Wa_bipush (z := 15) dX9_init_161 (by decide) ?_
      refine Wa_icmp_ge (tgt := 179) dX9_init_163 (by decide) ⟨by omega, by omega⟩ ⟨by decide, by decide⟩ (fun w => by omega) (fun _ => ?_)
      refine Wa_aload_n 1 dX9_init_166 rfl rfl ?_
      refine Wa_getR (j := 25) (r := 103) cf_X9 lk_X9_52 k_88 rfl (by decide) dX9_init_167 ?_
      refine Wa_iload_n 0 dX9_init_170 rfl rfl ?_
      refine Wa_iconst (z := -1) dX9_init_171 ?_
      refine Wa_iast k_103 ⟨by omega, by omega⟩ ⟨by decide, by decide⟩ dX9_init_172 ?_
      refine Wa_iinc (ls' := [(1, vI (l + 1)), (0, vR 88)]) 0 dX9_init_173 rfl (by decide) rfl ?_
      refine Wa_goto (tgt := 160) dX9_init_176 (by decide) ?_
      refine ih (l + 1) _ (by omega) (by omega) (by rw [mU_ne (by decide)]; exact a1) (fun j hj => ?_) (fun k b c => by rw [mU_ne c]; exact a3 k b c) (fun j b => by rw [mU_ne (by decide)]; exact a4 j b)
      by_cases e : j = l.toNat
      · subst e
        rw [mU_at]
      · rw [mU_nej e]
        exact a2 j (by omega)
  refine Wa_aload_n 0 dX9_init_153 rfl rfl ?_
  refine Wa_iconst (z := -1) dX9_init_154 ?_
  refine Wa_putI (j := 29) cf_X9 lk_X9_67 k_88 rfl (by decide) rfl rfl ⟨by decide, by decide⟩ dX9_init_155 ?_
  refine Wa_iconst (z := 0) dX9_init_158 ?_
  refine Wa_istore_n (ls' := [(1, vI 0), (0, vR 88)]) dX9_init_159 rfl (by decide) rfl ?_
  exact loop 15 0 _ (by decide) (by decide) mU_at (fun j hj => by omega) (fun k b c => mU_ne b) (fun j b => by rw [mU_nej b]; rfl)
def x88 : va_E := .inr (9, [.null, .int (Int32.ofInt 0), .int (Int32.ofInt 0), .int (Int32.ofInt 0), .null, .null, .int (Int32.ofInt 0), .null, .null, .int (Int32.ofInt 0), .int (Int32.ofInt 0), .null, .int (Int32.ofInt 0), .int (Int32.ofInt 0), .null, .int (Int32.ofInt 0), .null, .null, .null, .null, .null, .null, .int (Int32.ofInt 0), .int (Int32.ofInt 0), .null, .null, .int (Int32.ofInt 0), .null, .null, .int (Int32.ofInt 0), .null, .null, .long (Int64.ofInt 0)])
def mPm (g : AG) : Array Value → State → Prop := fun v U => v = [Value.ref (gad g 88)].toArray ∧ SF g U ∧ XF g U ∧ hw g 0 (lS8 g ++ [x88]) U.heap
def mQm (g : AG) : Array Value → State → Outcome → State → Prop := fun _ st o t => (o = .returned none ∧ ∃ M' : AM, Fst M' ∧ RM M' ∧ va_P (gD g) vwCl (wl g M') t.heap) ∧ va_F (gA g) st t
theorem k_model {g : AG} {d : Nat} (hG : Ga g) : Met (gl g) yX9_init [.code yX9_init cX9_init 2 none] { frames := d + 1, cells := 19, slots := 680, locals := 64 * (d + 1) } (mPm g) (mQm g) 19 680 (gA g) := by
  refine Met.ofW (cc := cX9_init) (maxL := 2) (ret := none) (by decide) rfl ?_
  intro p e s m args below meth c s₁ B hml hv
  obtain ⟨rfl, hSF, hXF, hw0⟩ := hv
  have hlocks := B.notSynchronized
  have hl := lv_entry [Value.ref (gad g 88)] (n := 2) (Nat.le_of_ble_eq_true rfl)
  rw [lg_entry_eq]
  refine k_X9 (g := g) (d := d) (lS8_len g) p e _ s m _ below meth c s.heap [] _ _ ⟨B.exec, B.bytes, hml, findClass_of_methodNamed B.named, hlocks, fun q => (name_of_methodNamed B.named B.method).1.trans q, Nat.le_refl _, Nat.le_refl _, Nat.le_refl _, Nat.le_refl _, hSF, hXF, hG⟩ hw0 rfl va_S.rf hl ?_
  intro H' locs' la' a1 a2 a3 a4
  dsimp only at a1 a2 a4 ⊢
  rw [full_w] at a1
  refine m_153 (g := g) (d := d) p e _ s m _ below meth c H' locs' 19 680 la' _ ⟨B.exec, B.bytes, hml, findClass_of_methodNamed B.named, B.returns, hlocks, Nat.le_refl _, Nat.le_refl _, Nat.le_refl _, Nat.le_refl _, hSF⟩ RM_0 (hw_wl hG a1) a3 a4 ?_
  intro r M' H2 locs2 pc2 la2 b1 b2 b3 b4 b5
  obtain ⟨rfl, b1⟩ := b1
  exact W.vret B.exec B.bytes B.returns (fun t ht hW => ⟨⟨rfl, M', b1, b2, by rw [ht]; exact b3⟩, b4.F ht⟩) b4.2.2 b5.1
