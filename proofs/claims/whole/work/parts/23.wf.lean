/-! matchings that do not cross, and how a slide keeps them so -/
theorem int_lg (a b : Int) : a < b ∨ b ≤ a := by omega
def WFs (P : LF) (n : Int → Int) : Prop := ∀ s, s = 0 ∨ s = 1 → (∀ x, 0 ≤ x → x < n s → P s x = -1 ∨ (0 ≤ P s x ∧ P s x < n (1 - s) ∧ P (1 - s) (P s x) = x)) ∧ ∀ x y, 0 ≤ x → x < y → y < n s → P s x ≠ -1 → P s y ≠ -1 → P s x < P s y
theorem os_os {s : Int} : 1 - (1 - s) = s := by omega
theorem P0_wf {A : LF} {n : Int → Int} (h0 : 0 ≤ n 0) (h1 : 0 ≤ n 1) : WFs (P0 A n) n := by
  unfold P0
  obtain ⟨hN, hI⟩ := mp_ok A 9 0 (n 0) 0 (n 1) h0 (Int.le_refl _) h1
  generalize mp A 9 0 (n 0) 0 (n 1) = l at hN hI
  have hin := kps_in l (fun _ _ => -1) hN
  have ho0 := kps_out0 l (fun _ _ => -1)
  have ho1 := kps_out1 l (fun _ _ => -1)
  generalize kps l (fun _ _ => -1) = P at hin ho0 ho1
  have g0 : ∀ x, P 0 x ≠ -1 → ∃ q ∈ l, q.1 = x ∧ P 0 x = q.2 := fun x hx => by
    refine Classical.byContradiction fun w => hx (ho0 x (fun q hq e => w ⟨q, hq, e, ?_⟩))
    rw [← e]
    exact (hin q hq).1
  have g1 : ∀ x, P 1 x ≠ -1 → ∃ q ∈ l, q.2 = x ∧ P 1 x = q.1 := fun x hx => by
    refine Classical.byContradiction fun w => hx (ho1 x (fun q hq e => w ⟨q, hq, e, ?_⟩))
    rw [← e]
    exact (hin q hq).2
  intro s hs
  rcases hs with rfl | rfl
  · refine ⟨fun x x0 x1 => ?_, fun x y x0 xy y1 hx hy => ?_⟩
    · by_cases hx : P 0 x = -1
      · exact Or.inl hx
      · obtain ⟨q, hq, e1, e2⟩ := g0 x hx
        have := (hI q hq).1
        unfold InR at this
        refine Or.inr ⟨by omega, by show P 0 x < n 1; omega, ?_⟩
        show P 1 (P 0 x) = x
        rw [e2, (hin q hq).2, e1]
    · obtain ⟨q, hq, e1, e2⟩ := g0 x hx
      obtain ⟨r, hr, e3, e4⟩ := g0 y hy
      rcases hN q hq r hr with e | e
      · rw [e] at e1
        omega
      · unfold ncr at e
        omega
  · refine ⟨fun x x0 x1 => ?_, fun x y x0 xy y1 hx hy => ?_⟩
    · by_cases hx : P 1 x = -1
      · exact Or.inl hx
      · obtain ⟨q, hq, e1, e2⟩ := g1 x hx
        have := (hI q hq).1
        unfold InR at this
        refine Or.inr ⟨by omega, by show P 1 x < n 0; omega, ?_⟩
        show P 0 (P 1 x) = x
        rw [e2, (hin q hq).1, e1]
    · obtain ⟨q, hq, e1, e2⟩ := g1 x hx
      obtain ⟨r, hr, e3, e4⟩ := g1 y hy
      rcases hN q hq r hr with e | e
      · rw [e] at e1
        omega
      · unfold ncr at e
        omega
theorem sl1_a {P : LF} {s gs ge go : Int} (hs : s = 0 ∨ s = 1) : sl1 P s gs ge go s (ge - 1) = go - 1 := by
  unfold sl1 f2
  rw [if_neg (by omega), if_pos ⟨rfl, rfl⟩]
theorem sl1_b {P : LF} {s gs ge go : Int} (hs : s = 0 ∨ s = 1) (h : gs < ge) : sl1 P s gs ge go s (gs - 1) = -1 := by
  unfold sl1 f2
  rw [if_neg (by omega), if_neg (by omega), if_pos ⟨rfl, rfl⟩]
theorem sl1_c {P : LF} {s gs ge go x : Int} (hs : s = 0 ∨ s = 1) (h1 : x ≠ ge - 1) (h2 : x ≠ gs - 1) : sl1 P s gs ge go s x = P s x := by
  unfold sl1 f2
  rw [if_neg (by omega), if_neg (by omega), if_neg (by omega)]
theorem sl1_d {P : LF} {s gs ge go : Int} : sl1 P s gs ge go (1 - s) (go - 1) = ge - 1 := by
  unfold sl1 f2
  rw [if_pos ⟨rfl, rfl⟩]
theorem sl1_e {P : LF} {s gs ge go x : Int} (hs : s = 0 ∨ s = 1) (h1 : x ≠ go - 1) : sl1 P s gs ge go (1 - s) x = P (1 - s) x := by
  unfold sl1 f2
  rw [if_neg (by omega), if_neg (by omega), if_neg (by omega)]
theorem sl1_wf {P : LF} {n : Int → Int} {s gs ge go : Int} (hs : s = 0 ∨ s = 1) (W : WFs P n) (h1 : 1 ≤ gs) (h2 : gs < ge) (h3 : ge ≤ n s) (h4 : 1 ≤ go) (h5 : go ≤ n (1 - s)) (hp : P s (gs - 1) = go - 1) (hz : ∀ x, gs ≤ x → x < ge → P s x = -1) : WFs (sl1 P s gs ge go) n := by
  obtain ⟨Ws, Wm⟩ := W s hs
  obtain ⟨Wo, Wn⟩ := W (1 - s) (by omega)
  rw [os_os] at Wo
  have hq : P (1 - s) (go - 1) = gs - 1 := by
    rcases Ws (gs - 1) (by omega) (by omega) with e | e
    · omega
    · rw [← hp]
      exact e.2.2
  have main : ((∀ x, 0 ≤ x → x < n s → sl1 P s gs ge go s x = -1 ∨ (0 ≤ sl1 P s gs ge go s x ∧ sl1 P s gs ge go s x < n (1 - s) ∧ sl1 P s gs ge go (1 - s) (sl1 P s gs ge go s x) = x)) ∧ ∀ x y, 0 ≤ x → x < y → y < n s → sl1 P s gs ge go s x ≠ -1 → sl1 P s gs ge go s y ≠ -1 → sl1 P s gs ge go s x < sl1 P s gs ge go s y) ∧ ((∀ x, 0 ≤ x → x < n (1 - s) → sl1 P s gs ge go (1 - s) x = -1 ∨ (0 ≤ sl1 P s gs ge go (1 - s) x ∧ sl1 P s gs ge go (1 - s) x < n s ∧ sl1 P s gs ge go s (sl1 P s gs ge go (1 - s) x) = x)) ∧ ∀ x y, 0 ≤ x → x < y → y < n (1 - s) → sl1 P s gs ge go (1 - s) x ≠ -1 → sl1 P s gs ge go (1 - s) y ≠ -1 → sl1 P s gs ge go (1 - s) x < sl1 P s gs ge go (1 - s) y) := by
    refine ⟨⟨fun x x0 x1 => ?_, fun x y x0 xy y1 hx hy => ?_⟩, ⟨fun x x0 x1 => ?_, fun x y x0 xy y1 hx hy => ?_⟩⟩
    · by_cases ea : x = ge - 1
      · rw [ea, sl1_a hs, sl1_d]
        exact Or.inr ⟨by omega, by omega, rfl⟩
      · by_cases eb : x = gs - 1
        · rw [eb, sl1_b hs h2]
          exact Or.inl rfl
        · rw [sl1_c hs ea eb]
          rcases Ws x x0 x1 with e | ⟨e1, e2, e3⟩
          · exact Or.inl e
          · refine Or.inr ⟨e1, e2, ?_⟩
            rw [sl1_e hs]
            · exact e3
            · intro e
              rw [e, hq] at e3
              omega
    · by_cases ya : y = ge - 1
      · rw [ya, sl1_a hs]
        have xa : x ≠ ge - 1 := by omega
        have xb : x ≠ gs - 1 := fun e => hx (by rw [e]; exact sl1_b hs h2)
        rw [sl1_c hs xa xb] at hx ⊢
        have : x < gs - 1 := by
          rcases int_lg x gs with z | z
          · omega
          · exact absurd (hz x z (by omega)) hx
        rw [← hp]
        exact Wm x (gs - 1) x0 this (by omega) hx (by omega)
      · have yb : y ≠ gs - 1 := fun e => hy (by rw [e]; exact sl1_b hs h2)
        rw [sl1_c hs ya yb] at hy ⊢
        by_cases xa : x = ge - 1
        · rw [xa, sl1_a hs, ← hp]
          exact Wm (gs - 1) y (by omega) (by omega) y1 (by omega) hy
        · have xb : x ≠ gs - 1 := fun e => hx (by rw [e]; exact sl1_b hs h2)
          rw [sl1_c hs xa xb] at hx ⊢
          exact Wm x y x0 xy y1 hx hy
    · by_cases ea : x = go - 1
      · rw [ea, sl1_d, sl1_a hs]
        exact Or.inr ⟨by omega, by omega, rfl⟩
      · rw [sl1_e hs ea]
        rcases Wo x x0 x1 with e | ⟨e1, e2, e3⟩
        · exact Or.inl e
        · refine Or.inr ⟨e1, e2, ?_⟩
          rw [sl1_c hs]
          · exact e3
          · intro e
            rw [e, hz _ (by omega) (by omega)] at e3
            omega
          · intro e
            rw [e, hp] at e3
            omega
    · by_cases ya : y = go - 1
      · rw [ya, sl1_d]
        have xa : x ≠ go - 1 := by omega
        rw [sl1_e hs xa] at hx ⊢
        have := Wn x (go - 1) x0 (by omega) (by omega) hx (by omega)
        omega
      · rw [sl1_e hs ya] at hy ⊢
        by_cases xa : x = go - 1
        · rw [xa, sl1_d]
          have h6 := Wn (go - 1) y (by omega) (by omega) y1 (by omega) hy
          rcases Wo y (by omega) y1 with e | ⟨e1, e2, e3⟩
          · exact absurd e hy
          · rcases int_lg (P (1 - s) y) ge with z | z
            · rw [hz _ (by omega) z] at e3
              omega
            · omega
        · rw [sl1_e hs xa] at hx ⊢
          exact Wn x y x0 xy y1 hx hy
  intro s' hs'
  rcases (show s' = s ∨ s' = 1 - s by omega) with e | e
  · rw [e]
    exact main.1
  · rw [e, os_os]
    exact main.2
/-- nothing is kept across: i lines of side s, j of the other -/
def Cut (P : LF) (s i j : Int) : Prop := (∀ x, 0 ≤ x → x < i → P s x ≠ -1 → P s x < j) ∧ ∀ y, 0 ≤ y → y < j → P (1 - s) y ≠ -1 → P (1 - s) y < i
theorem Cut.sym {P : LF} {s i j : Int} (h : Cut P s i j) : Cut P (1 - s) j i := ⟨h.2, by rw [os_os]; exact h.1⟩
theorem wf_last {P : LF} {n : Int → Int} {s i j : Int} (hs : s = 0 ∨ s = 1) (W : WFs P n) (C : Cut P s i j) (i0 : 0 ≤ i) (i1 : i ≤ n s) (j0 : 0 ≤ j) (j1 : j ≤ n (1 - s)) (hi : 0 < i → P s (i - 1) ≠ -1) (hj : 0 < j → P (1 - s) (j - 1) ≠ -1) (h : 0 < i ∨ 0 < j) : 0 < i ∧ 0 < j ∧ P s (i - 1) = j - 1 ∧ P (1 - s) (j - 1) = i - 1 := by
  obtain ⟨Ws, Wm⟩ := W s hs
  obtain ⟨Wo, Wn⟩ := W (1 - s) (by omega)
  rw [os_os] at Wo
  have a1 : 0 < i → 0 < j := fun z => by
    have := C.1 (i - 1) (by omega) (by omega) (hi z)
    rcases Ws (i - 1) (by omega) (by omega) with e | e
    · exact absurd e (hi z)
    · omega
  have a2 : 0 < j → 0 < i := fun z => by
    have := C.2 (j - 1) (by omega) (by omega) (hj z)
    rcases Wo (j - 1) (by omega) (by omega) with e | e
    · exact absurd e (hj z)
    · omega
  have hi0 : 0 < i := h.elim id a2
  have hj0 : 0 < j := h.elim a1 id
  have p1 := hi hi0
  have p2 := hj hj0
  rcases Ws (i - 1) (by omega) (by omega) with e | ⟨e1, e2, e3⟩
  · exact absurd e p1
  · rcases Wo (j - 1) (by omega) (by omega) with f | ⟨f1, f2, f3⟩
    · exact absurd f p2
    · have c1 := C.1 (i - 1) (by omega) (by omega) p1
      have c2 := C.2 (j - 1) (by omega) (by omega) p2
      have key : P s (i - 1) = j - 1 := by
        rcases int_lg (P s (i - 1)) (j - 1) with z | z
        · have := Wn (P s (i - 1)) (j - 1) e1 z (by omega) (by rw [e3]; omega) p2
          omega
        · omega
      refine ⟨hi0, hj0, key, ?_⟩
      rw [← key]
      exact e3
theorem cb_run (P : LF) (s : Int) : ∀ (m : Nat) (i : Int), i.toNat = m → (∀ x, i - cb P s i ≤ x → x < i → P s x = -1) ∧ (0 < i - cb P s i → P s (i - cb P s i - 1) ≠ -1) ∧ cb P s (i - cb P s i) = 0 := by
  intro m
  induction m with
  | zero =>
    intro i hi
    have e : cb P s i = 0 := by rw [cb_eq, if_neg (by omega)]
    rw [e, Int.sub_zero]
    exact ⟨fun x h1 h2 => by omega, fun h => by omega, e⟩
  | succ m ih =>
    intro i hi
    obtain ⟨h1, h2, h3⟩ := ih (i - 1) (by omega)
    by_cases h : 0 < i ∧ P s (i - 1) = -1
    · have e : cb P s i = 1 + cb P s (i - 1) := by rw [cb_eq, if_pos h]
      have e2 : i - cb P s i = i - 1 - cb P s (i - 1) := by omega
      rw [e2]
      refine ⟨fun x q1 q2 => ?_, h2, h3⟩
      by_cases ex : x = i - 1
      · rw [ex]; exact h.2
      · exact h1 x q1 (by omega)
    · have e : cb P s i = 0 := by rw [cb_eq, if_neg h]
      rw [e, Int.sub_zero]
      exact ⟨fun x q1 q2 => by omega, fun q z => h ⟨q, z⟩, e⟩
theorem cb_add (P : LF) (s : Int) : ∀ (m : Nat) (gs ge : Int), ge = gs + m → 0 ≤ gs → (∀ x, gs ≤ x → x < ge → P s x = -1) → cb P s ge = ge - gs + cb P s gs := by
  intro m
  induction m with
  | zero =>
    intro gs ge h h0 hz
    rw [show ge = gs by omega]
    omega
  | succ m ih =>
    intro gs ge h h0 hz
    rw [cb_eq, if_pos ⟨by omega, hz (ge - 1) (by omega) (by omega)⟩, ih gs (ge - 1) (by omega) h0 (fun x q1 q2 => hz x q1 (by omega))]
    omega
theorem Cut.back {P : LF} {n : Int → Int} {s i j : Int} (hs : s = 0 ∨ s = 1) (W : WFs P n) (j1 : j ≤ n (1 - s)) (C : Cut P s i j) : Cut P s (i - cb P s i) j := by
  obtain ⟨Wo, -⟩ := W (1 - s) (by omega)
  rw [os_os] at Wo
  have r := cb_run P s _ i rfl
  have c := cb_r P s _ i rfl
  refine ⟨fun x x0 x1 hx => C.1 x x0 (by omega) hx, fun y y0 y1 hy => ?_⟩
  have h1 := C.2 y y0 y1 hy
  rcases Wo y y0 (by omega) with e | ⟨e1, e2, e3⟩
  · exact absurd e hy
  · rcases int_lg (P (1 - s) y) (i - cb P s i) with z | z
    · exact z
    · rw [r.1 _ z h1] at e3
      omega
/-- the whole of a gap's slides keeps what is needed -/
theorem slp_wf {A : LF} {n : Int → Int} {s : Int} (hs : s = 0 ∨ s = 1) : ∀ (m : Nat) (P : LF) (gs ge go : Int), gs.toNat = m → WFs P n → Cut P s gs go → 0 ≤ gs → gs < ge → ge ≤ n s → 0 ≤ go → go ≤ n (1 - s) → (∀ x, gs ≤ x → x < ge → P s x = -1) → WFs (slp A P s gs ge go).1 n ∧ Cut (slp A P s gs ge go).1 s (gs - (slp A P s gs ge go).2) (go - (slp A P s gs ge go).2) ∧ ∀ x, gs - (slp A P s gs ge go).2 ≤ x → x < ge - (slp A P s gs ge go).2 → (slp A P s gs ge go).1 s x = -1 := by
  intro m
  induction m with
  | zero =>
    intro P gs ge go hm W C g0 g1 g2 o0 o1 hz
    rw [slp_eq, if_neg (by omega)]
    dsimp only
    rw [Int.sub_zero, Int.sub_zero, Int.sub_zero]
    exact ⟨W, C, hz⟩
  | succ m ih =>
    intro P gs ge go hm W C g0 g1 g2 o0 o1 hz
    rw [slp_eq]
    by_cases h : mayS A P s gs ge go
    · rw [if_pos h]
      dsimp only
      obtain ⟨l1, l2, l3, l4⟩ := wf_last hs W C g0 (by omega) o0 o1 (fun _ => h.2.2.1) (fun _ => h.2.2.2.1) (Or.inl (by omega))
      have W2 := sl1_wf hs W h.1 g1 g2 h.2.1 o1 l3 hz
      have C2 : Cut (sl1 P s gs ge go) s (gs - 1) (go - 1) := by
        obtain ⟨Ws, Wm⟩ := W s hs
        obtain ⟨Wo, Wn⟩ := W (1 - s) (by omega)
        refine ⟨fun x x0 x1 hx => ?_, fun y y0 y1 hy => ?_⟩
        · rw [sl1_c hs (by omega) (by omega)] at hx ⊢
          have := Wm x (gs - 1) x0 x1 (by omega) hx (by omega)
          omega
        · rw [sl1_e hs (by omega)] at hy ⊢
          have := Wn y (go - 1) y0 y1 (by omega) hy (by omega)
          omega
      obtain ⟨i1, i2, i3⟩ := ih (sl1 P s gs ge go) (gs - 1) (ge - 1) (go - 1) (by omega) W2 C2 (by omega) (by omega) (by omega) (by omega) (by omega) (fun x q1 q2 => by
        by_cases e : x = gs - 1
        · rw [e]; exact sl1_b hs g1
        · rw [sl1_c hs (by omega) e]
          exact hz x (by omega) (by omega))
      generalize slp A (sl1 P s gs ge go) s (gs - 1) (ge - 1) (go - 1) = S at i1 i2 i3
      rw [show gs - (S.2 + 1) = gs - 1 - S.2 by omega, show go - (S.2 + 1) = go - 1 - S.2 by omega, show ge - (S.2 + 1) = ge - 1 - S.2 by omega]
      exact ⟨i1, i2, i3⟩
    · rw [if_neg h]
      dsimp only
      rw [Int.sub_zero, Int.sub_zero, Int.sub_zero]
      exact ⟨W, C, hz⟩
theorem tn_0 {A P : LF} {i j : Int} (h0 : cb P 0 i = 0) (h1 : cb P 1 j = 0) : tn A P i j = (P, 0, i, j) := by
  unfold tn
  rw [if_pos (Or.inr ⟨h0, h1⟩), h0, h1, Int.sub_zero, Int.sub_zero, h0, h1, Int.sub_zero, Int.sub_zero]
/-- a turn keeps what is needed; and behind it nothing is dropped or added -/
theorem tn_wf {A P : LF} {n : Int → Int} {i j : Int} (W : WFs P n) (C : Cut P 0 i j) (i0 : 0 ≤ i) (i1 : i ≤ n 0) (j0 : 0 ≤ j) (j1 : j ≤ n 1) : WFs (tn A P i j).1 n ∧ Cut (tn A P i j).1 0 (tn A P i j).2.2.1 (tn A P i j).2.2.2 ∧ cb (tn A P i j).1 0 (tn A P i j).2.2.1 = 0 ∧ cb (tn A P i j).1 1 (tn A P i j).2.2.2 = 0 := by
  have c0 := cb_r P 0 _ i rfl
  have c1 := cb_r P 1 _ j rfl
  have r0 := cb_run P 0 _ i rfl
  have r1 := cb_run P 1 _ j rfl
  have j1' : j ≤ n (1 - 0) := j1
  have i1' : i ≤ n (1 - 1) := i1
  have bk : ∀ (P' : LF) (a b : Int), WFs P' n → Cut P' 0 a b → 0 ≤ a → a ≤ n 0 → b ≤ n 1 → Cut P' 0 (a - cb P' 0 a) (b - cb P' 1 b) := by
    intro P' a b W' C' a0 a1 b1
    have h1 := Cut.back (Or.inl rfl) W' b1 C'
    have c2 := cb_r P' 0 _ a rfl
    have h2 : Cut P' (1 - 0) b (a - cb P' 0 a) := h1.sym
    have h3 : Cut P' 1 b (a - cb P' 0 a) := h2
    have h4 := Cut.back (Or.inr rfl) W' (show a - cb P' 0 a ≤ n (1 - 1) by show a - cb P' 0 a ≤ n 0; omega) h3
    exact h4.sym
  unfold tn
  split
  · next h =>
    dsimp only
    have z0 : cb P 0 (i - cb P 0 i) = 0 := r0.2.2
    have z1 : cb P 1 (j - cb P 1 j) = 0 := r1.2.2
    rw [z0, z1, Int.sub_zero, Int.sub_zero]
    exact ⟨W, bk P i j W C i0 i1 j1, z0, z1⟩
  · next h =>
    split
    · next h2 =>
      dsimp only
      have C2 : Cut P 0 (i - cb P 0 i) j := Cut.back (Or.inl rfl) W j1' C
      obtain ⟨a1, a2, a3⟩ := slp_wf (A := A) (Or.inl rfl) _ P (i - cb P 0 i) i j rfl W C2 (by omega) (by omega) i1 j0 j1' r0.1
      have sr := slp_r A 0 _ P (i - cb P 0 i) i j rfl
      generalize slp A P 0 (i - cb P 0 i) i j = S at a1 a2 a3 sr
      exact ⟨a1, bk S.1 _ _ a1 a2 (by omega) (by omega) (by omega), (cb_run S.1 0 _ _ rfl).2.2, (cb_run S.1 1 _ _ rfl).2.2⟩
    · next h2 =>
      dsimp only
      have C1 : Cut P 1 j i := C.sym
      have C2 : Cut P 1 (j - cb P 1 j) i := Cut.back (Or.inr rfl) W i1' C1
      obtain ⟨a1, a2, a3⟩ := slp_wf (A := A) (Or.inr rfl) _ P (j - cb P 1 j) j i rfl W C2 (by omega) (by omega) j1 i0 i1' r1.1
      have sr := slp_r A 1 _ P (j - cb P 1 j) j i rfl
      generalize slp A P 1 (j - cb P 1 j) j i = S at a1 a2 a3 sr
      exact ⟨a1, bk S.1 _ _ a1 a2.sym (by omega) (by omega) (by omega), (cb_run S.1 0 _ _ rfl).2.2, (cb_run S.1 1 _ _ rfl).2.2⟩
theorem sA_wf {A : LF} {n : Int → Int} : ∀ (f : Nat) (P : LF) (i j : Int), WFs P n → Cut P 0 i j → 0 ≤ i → i ≤ n 0 → 0 ≤ j → j ≤ n 1 → WFs (sA A f P i j).1 n
  | 0, P, i, j, W, _, _, _, _, _ => W
  | f + 1, P, i, j, W, C, i0, i1, j0, j1 => by
    obtain ⟨t1, t2, t3, t4⟩ := tn_wf (A := A) W C i0 i1 j0 j1
    have tr := tn_r A P i0 j0
    unfold sA
    generalize tn A P i j = T at t1 t2 t3 t4 tr
    split
    · exact t1
    · next h =>
      dsimp only
      have hl := wf_last (Or.inl rfl) t1 t2 (by omega) (by omega) (by omega) (show T.2.2.2 ≤ n 1 by omega) (fun z e => by rw [cb_eq, if_pos ⟨z, e⟩] at t3; have := (cb_r T.1 0 _ (T.2.2.1 - 1) rfl).1; omega) (fun z e => by
        have e : T.1 1 (T.2.2.2 - 1) = -1 := e
        rw [cb_eq, if_pos ⟨z, e⟩] at t4
        have := (cb_r T.1 1 _ (T.2.2.2 - 1) rfl).1
        omega) (Or.inl (by omega))
      refine sA_wf f T.1 _ _ t1 ?_ (by omega) (by omega) (by omega) (by omega)
      obtain ⟨Ws, Wm⟩ := t1 0 (Or.inl rfl)
      obtain ⟨Wo, Wn⟩ := t1 1 (Or.inr rfl)
      have hl4 : T.1 1 (T.2.2.2 - 1) = T.2.2.1 - 1 := hl.2.2.2
      refine ⟨fun x x0 x1 hx => ?_, fun y y0 y1 hy => ?_⟩
      · have := Wm x (T.2.2.1 - 1) x0 x1 (by omega) hx (by omega)
        omega
      · have hy : T.1 1 y ≠ -1 := hy
        show T.1 1 y < _
        have := Wn y (T.2.2.2 - 1) y0 y1 (by omega) hy (by omega)
        omega
theorem Cut_full {P : LF} {n : Int → Int} (W : WFs P n) : Cut P 0 (n 0) (n 1) := by
  refine ⟨fun x x0 x1 hx => ?_, fun y y0 y1 hy => ?_⟩
  · rcases (W 0 (Or.inl rfl)).1 x x0 x1 with e | e
    · exact absurd e hx
    · exact e.2.1
  · rcases (W 1 (Or.inr rfl)).1 y y0 y1 with e | e
    · exact absurd e hy
    · exact e.2.1
theorem KP_wf {A : LF} {n : Int → Int} (h0 : 0 ≤ n 0) (h1 : 0 ≤ n 1) : WFs (KP A n) n := sA_wf 9 _ _ _ (P0_wf h0 h1) (Cut_full (P0_wf h0 h1)) h0 (Int.le_refl _) h1 (Int.le_refl _)
