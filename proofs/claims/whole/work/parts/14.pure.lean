/-! pure facts of MATCH -/
def ncr (x y : Int × Int) : Prop := (x.1 < y.1 ∧ x.2 < y.2) ∨ (y.1 < x.1 ∧ y.2 < x.2)
def NX (l : List (Int × Int)) : Prop := ∀ x ∈ l, ∀ y ∈ l, x = y ∨ ncr x y
def InR (a b c d : Int) (q : Int × Int) : Prop := a ≤ q.1 ∧ q.1 < b ∧ c ≤ q.2 ∧ q.2 < d
theorem ncr_symm {x y : Int × Int} (h : ncr x y) : ncr y x := h.elim Or.inr Or.inl
theorem NX_nil : NX [] := fun x h => absurd h List.not_mem_nil
theorem NX_app {l m : List (Int × Int)} (hl : NX l) (hm : NX m) (h : ∀ x ∈ l, ∀ y ∈ m, ncr x y) : NX (l ++ m) := by
  intro x hx y hy
  rcases List.mem_append.mp hx with hx | hx <;> rcases List.mem_append.mp hy with hy | hy
  · exact hl x hx y hy
  · exact Or.inr (h x hx y hy)
  · exact Or.inr (ncr_symm (h y hy x hx))
  · exact hm x hx y hy
theorem NX_cons {q : Int × Int} {m : List (Int × Int)} (hm : NX m) (h : ∀ y ∈ m, ncr q y) : NX (q :: m) := by
  intro x hx y hy
  rcases List.mem_cons.mp hx with ex | ex <;> rcases List.mem_cons.mp hy with ey | ey
  · exact Or.inl (ex.trans ey.symm)
  · rw [ex]
    exact Or.inr (h y ey)
  · rw [ey]
    exact Or.inr (ncr_symm (h x ex))
  · exact hm x ex y ey
theorem NX_mem {l m : List (Int × Int)} (hl : NX l) (h : ∀ q, q ∈ m → q ∈ l) : NX m := fun x hx y hy => hl x (h x hx) y (h y hy)
theorem kp_at0 (P : LF) (o n : Int) : kp P o n 0 o = n := by simp [kp, f2]
theorem kp_at1 (P : LF) (o n : Int) : kp P o n 1 n = o := by simp [kp, f2]
theorem kp_ne0 (P : LF) {o n i : Int} (h : i ≠ o) : kp P o n 0 i = P 0 i := by simp [kp, f2, h]
theorem kp_ne1 (P : LF) {o n i : Int} (h : i ≠ n) : kp P o n 1 i = P 1 i := by simp [kp, f2, h]
theorem kp_nes (P : LF) {o n i s : Int} (h0 : s ≠ 0) (h1 : s ≠ 1) : kp P o n s i = P s i := by simp [kp, f2, h0, h1]
theorem kps_out0 : ∀ (l : List (Int × Int)) (P : LF) (i : Int), (∀ x ∈ l, x.1 ≠ i) → kps l P 0 i = P 0 i
  | [], P, i, _ => rfl
  | q :: l, P, i, h => by
    rw [kps_cons, kps_out0 l _ i (fun x hx => h x (List.mem_cons_of_mem _ hx)), kp_ne0 _ (fun e => h q List.mem_cons_self e.symm)]
theorem kps_out1 : ∀ (l : List (Int × Int)) (P : LF) (i : Int), (∀ x ∈ l, x.2 ≠ i) → kps l P 1 i = P 1 i
  | [], P, i, _ => rfl
  | q :: l, P, i, h => by
    rw [kps_cons, kps_out1 l _ i (fun x hx => h x (List.mem_cons_of_mem _ hx)), kp_ne1 _ (fun e => h q List.mem_cons_self e.symm)]
theorem kps_outs : ∀ (l : List (Int × Int)) (P : LF) (s i : Int), s ≠ 0 → s ≠ 1 → kps l P s i = P s i
  | [], P, s, i, _, _ => rfl
  | q :: l, P, s, i, h0, h1 => by
    rw [kps_cons, kps_outs l _ s i h0 h1, kp_nes _ h0 h1]
theorem kps_in : ∀ (l : List (Int × Int)) (P : LF), NX l → ∀ x ∈ l, kps l P 0 x.1 = x.2 ∧ kps l P 1 x.2 = x.1
  | [], P, _, x, hx => absurd hx List.not_mem_nil
  | q :: l, P, h, x, hx => by
    have hl : NX l := NX_mem h (fun _ w => List.mem_cons_of_mem _ w)
    by_cases hm : x ∈ l
    · rw [kps_cons]
      exact kps_in l _ hl x hm
    · have e : x = q := by
        rcases List.mem_cons.mp hx with e | e
        · exact e
        · exact absurd e hm
      subst e
      rw [kps_cons]
      refine ⟨?_, ?_⟩
      · by_cases hq : ∀ y ∈ l, y.1 ≠ x.1
        · rw [kps_out0 l _ _ hq, kp_at0]
        · obtain ⟨y, hy, e⟩ : ∃ y ∈ l, y.1 = x.1 := Classical.byContradiction fun w => hq fun y hy e => w ⟨y, hy, e⟩
          rcases h x List.mem_cons_self y (List.mem_cons_of_mem _ hy) with r | r
          · exact absurd (r ▸ hy) hm
          · unfold ncr at r
            omega
      · by_cases hq : ∀ y ∈ l, y.2 ≠ x.2
        · rw [kps_out1 l _ _ hq, kp_at1]
        · obtain ⟨y, hy, e⟩ : ∃ y ∈ l, y.2 = x.2 := Classical.byContradiction fun w => hq fun y hy e => w ⟨y, hy, e⟩
          rcases h x List.mem_cons_self y (List.mem_cons_of_mem _ hy) with r | r
          · exact absurd (r ▸ hy) hm
          · unfold ncr at r
            omega
theorem kps_ext {l m : List (Int × Int)} {P : LF} (hl : NX l) (hm : NX m) (h : ∀ q, q ∈ l ↔ q ∈ m) : kps l P = kps m P := by
  funext s i
  by_cases h0 : s = 0
  · subst h0
    by_cases hq : ∃ x ∈ l, x.1 = i
    · obtain ⟨x, hx, rfl⟩ := hq
      rw [(kps_in l P hl x hx).1, (kps_in m P hm x ((h x).mp hx)).1]
    · rw [kps_out0 l P i (fun x hx e => hq ⟨x, hx, e⟩), kps_out0 m P i (fun x hx e => hq ⟨x, (h x).mpr hx, e⟩)]
  · by_cases h1 : s = 1
    · subst h1
      by_cases hq : ∃ x ∈ l, x.2 = i
      · obtain ⟨x, hx, rfl⟩ := hq
        rw [(kps_in l P hl x hx).2, (kps_in m P hm x ((h x).mp hx)).2]
      · rw [kps_out1 l P i (fun x hx e => hq ⟨x, hx, e⟩), kps_out1 m P i (fun x hx e => hq ⟨x, (h x).mpr hx, e⟩)]
    · rw [kps_outs l P s i h0 h1, kps_outs m P s i h0 h1]
theorem mpP_eq (A : LF) (a b c d : Int) : mpP A a b c d = if a < b ∧ c < d ∧ A 0 a = A 1 c then ((a, c) :: (mpP A (a + 1) b (c + 1) d).1, (mpP A (a + 1) b (c + 1) d).2) else ([], a, c) := by rw [mpP]
theorem mpS_eq (A : LF) (a b c d : Int) : mpS A a b c d = if a < b ∧ c < d ∧ A 0 (b - 1) = A 1 (d - 1) then ((b - 1, d - 1) :: (mpS A a (b - 1) c (d - 1)).1, (mpS A a (b - 1) c (d - 1)).2) else ([], b, d) := by rw [mpS]
theorem mpP_ok (A : LF) : ∀ (n : Nat) (a b c d : Int), (b - a).toNat = n → a ≤ b → c ≤ d → a ≤ (mpP A a b c d).2.1 ∧ (mpP A a b c d).2.1 ≤ b ∧ c ≤ (mpP A a b c d).2.2 ∧ (mpP A a b c d).2.2 ≤ d ∧ (mpP A a b c d).2.1 - a = (mpP A a b c d).2.2 - c ∧ NX (mpP A a b c d).1 ∧ ∀ q ∈ (mpP A a b c d).1, InR a (mpP A a b c d).2.1 c (mpP A a b c d).2.2 q ∧ A 0 q.1 = A 1 q.2 := by
  intro n
  induction n using Nat.strongRecOn with
  | _ n ih =>
    intro a b c d hn hab hcd
    rw [mpP_eq]
    by_cases h : a < b ∧ c < d ∧ A 0 a = A 1 c
    · rw [if_pos h]
      obtain ⟨h1, h2, h3, h4, h5, h6, h7⟩ := ih _ (by omega) (a + 1) b (c + 1) d rfl (by omega) (by omega)
      refine ⟨by dsimp only; omega, h2, by dsimp only; omega, h4, by dsimp only; omega, NX_cons h6 (fun y hy => ?_), fun q hq => ?_⟩
      · have := (h7 y hy).1
        unfold InR at this
        unfold ncr
        dsimp only at *
        omega
      · rcases List.mem_cons.mp hq with rfl | hq
        · refine ⟨?_, h.2.2⟩
          unfold InR
          dsimp only
          omega
        · have := h7 q hq
          refine ⟨?_, this.2⟩
          have := this.1
          unfold InR at *
          dsimp only at *
          omega
    · rw [if_neg h]
      exact ⟨Int.le_refl _, hab, Int.le_refl _, hcd, by dsimp only; omega, NX_nil, fun q hq => absurd hq List.not_mem_nil⟩
theorem mpS_ok (A : LF) : ∀ (n : Nat) (a b c d : Int), (b - a).toNat = n → a ≤ b → c ≤ d → a ≤ (mpS A a b c d).2.1 ∧ (mpS A a b c d).2.1 ≤ b ∧ c ≤ (mpS A a b c d).2.2 ∧ (mpS A a b c d).2.2 ≤ d ∧ b - (mpS A a b c d).2.1 = d - (mpS A a b c d).2.2 ∧ NX (mpS A a b c d).1 ∧ ∀ q ∈ (mpS A a b c d).1, InR (mpS A a b c d).2.1 b (mpS A a b c d).2.2 d q ∧ A 0 q.1 = A 1 q.2 := by
  intro n
  induction n using Nat.strongRecOn with
  | _ n ih =>
    intro a b c d hn hab hcd
    rw [mpS_eq]
    by_cases h : a < b ∧ c < d ∧ A 0 (b - 1) = A 1 (d - 1)
    · rw [if_pos h]
      obtain ⟨h1, h2, h3, h4, h5, h6, h7⟩ := ih _ (by omega) a (b - 1) c (d - 1) rfl (by omega) (by omega)
      refine ⟨h1, by dsimp only; omega, h3, by dsimp only; omega, by dsimp only; omega, NX_cons h6 (fun y hy => ?_), fun q hq => ?_⟩
      · have := (h7 y hy).1
        unfold InR at this
        unfold ncr
        dsimp only at *
        omega
      · rcases List.mem_cons.mp hq with rfl | hq
        · refine ⟨?_, h.2.2⟩
          unfold InR
          dsimp only
          omega
        · have := h7 q hq
          refine ⟨?_, this.2⟩
          have := this.1
          unfold InR at *
          dsimp only at *
          omega
    · rw [if_neg h]
      exact ⟨hab, Int.le_refl _, hcd, Int.le_refl _, by dsimp only; omega, NX_nil, fun q hq => absurd hq List.not_mem_nil⟩
theorem mpK_eq (A T : LF) (b d i j : Int) : mpK A T b d i j = if i < b ∧ j < d then (if A 0 i = A 1 j then (i, j) :: mpK A T b d (i + 1) (j + 1) else if T i (j + 1) ≤ T (i + 1) j then mpK A T b d (i + 1) j else mpK A T b d i (j + 1)) else [] := by rw [mpK]
theorem mpK_ok (A T : LF) (b d : Int) : ∀ (n : Nat) (i j : Int), (b - i).toNat + (d - j).toNat = n → NX (mpK A T b d i j) ∧ ∀ q ∈ mpK A T b d i j, InR i b j d q ∧ A 0 q.1 = A 1 q.2 := by
  intro n
  induction n using Nat.strongRecOn with
  | _ n ih =>
    intro i j hn
    rw [mpK_eq]
    by_cases h : i < b ∧ j < d
    · rw [if_pos h]
      split
      · next h2 =>
        obtain ⟨h6, h7⟩ := ih _ (by omega) (i + 1) (j + 1) rfl
        refine ⟨NX_cons h6 (fun y hy => ?_), fun q hq => ?_⟩
        · have := (h7 y hy).1
          unfold InR at this
          unfold ncr
          dsimp only at *
          omega
        · rcases List.mem_cons.mp hq with rfl | hq
          · refine ⟨?_, h2⟩
            unfold InR
            dsimp only
            omega
          · have := h7 q hq
            refine ⟨?_, this.2⟩
            have := this.1
            unfold InR at *
            omega
      · split
        · obtain ⟨h6, h7⟩ := ih _ (by omega) (i + 1) j rfl
          refine ⟨h6, fun q hq => ⟨?_, (h7 q hq).2⟩⟩
          have := (h7 q hq).1
          unfold InR at *
          omega
        · obtain ⟨h6, h7⟩ := ih _ (by omega) i (j + 1) rfl
          refine ⟨h6, fun q hq => ⟨?_, (h7 q hq).2⟩⟩
          have := (h7 q hq).1
          unfold InR at *
          omega
    · rw [if_neg h]
      exact ⟨NX_nil, fun q hq => absurd hq List.not_mem_nil⟩
/-! counting and places -/
theorem cnt_eq (f : Int → Int) (v s e : Int) : cnt f v s e = if s < e then (if f s = v then 1 else 0) + cnt f v (s + 1) e else 0 := by rw [cnt]
theorem plc_eq (f : Int → Int) (v s e : Int) : plc f v s e = if s < e then (if f s = v then s else plc f v (s + 1) e) else -1 := by rw [plc]
theorem cnt_nn (f : Int → Int) (v : Int) : ∀ (n : Nat) (s e : Int), (e - s).toNat = n → 0 ≤ cnt f v s e ∧ cnt f v s e ≤ n := by
  intro n
  induction n with
  | zero =>
    intro s e hn
    rw [cnt_eq, if_neg (by omega)]
    omega
  | succ n ih =>
    intro s e hn
    rw [cnt_eq, if_pos (by omega)]
    have := ih (s + 1) e (by omega)
    split <;> omega
theorem cnt_0 (f : Int → Int) (v : Int) : ∀ (n : Nat) (s e : Int), (e - s).toNat = n → cnt f v s e = 0 → ∀ k, s ≤ k → k < e → f k ≠ v := by
  intro n
  induction n with
  | zero =>
    intro s e hn h k h1 h2
    omega
  | succ n ih =>
    intro s e hn h k h1 h2
    rw [cnt_eq, if_pos (by omega)] at h
    have hn2 := cnt_nn f v _ (s + 1) e rfl
    by_cases hs : f s = v
    · rw [if_pos hs] at h
      omega
    · rw [if_neg hs] at h
      by_cases e1 : k = s
      · rw [e1]; exact hs
      · exact ih (s + 1) e (by omega) (by omega) k (by omega) h2
theorem plc_ok (f : Int → Int) (v : Int) : ∀ (n : Nat) (s e : Int), (e - s).toNat = n → 1 ≤ cnt f v s e → s ≤ plc f v s e ∧ plc f v s e < e ∧ f (plc f v s e) = v ∧ ∀ k, s ≤ k → k < plc f v s e → f k ≠ v := by
  intro n
  induction n with
  | zero =>
    intro s e hn h
    rw [cnt_eq, if_neg (by omega)] at h
    omega
  | succ n ih =>
    intro s e hn h
    rw [plc_eq, if_pos (show s < e by omega)]
    rw [cnt_eq, if_pos (by omega)] at h
    by_cases hs : f s = v
    · rw [if_pos hs]
      exact ⟨by omega, by omega, hs, fun k h1 h2 => by omega⟩
    · rw [if_neg hs]
      rw [if_neg hs] at h
      obtain ⟨h1, h2, h3, h4⟩ := ih (s + 1) e (by omega) (by omega)
      exact ⟨by omega, h2, h3, fun k q1 q2 => by
        by_cases e1 : k = s
        · rw [e1]; exact hs
        · exact h4 k (by omega) q2⟩
theorem anL_eq (A : LF) (a b c d o : Int) : anL A a b c d o = if o < b then (if isAn A a b c d o then (o, plc (A 1) (A 0 o) c d) :: anL A a b c d (o + 1) else anL A a b c d (o + 1)) else [] := by rw [anL]
/-- rows whose firsts rise -/
def RS : Int → List (Int × Int) → Prop
  | _, [] => True
  | o, q :: r => o ≤ q.1 ∧ RS (q.1 + 1) r
theorem RS_mono : ∀ (l : List (Int × Int)) (o o' : Int), o' ≤ o → RS o l → RS o' l
  | [], _, _, _, _ => trivial
  | q :: r, o, o', h, ⟨h1, h2⟩ => ⟨by omega, h2⟩
theorem anL_ok (A : LF) (a b c d : Int) : ∀ (n : Nat) (o : Int), (b - o).toNat = n → RS o (anL A a b c d o) ∧ ∀ q ∈ anL A a b c d o, InR o b c d q ∧ A 0 q.1 = A 1 q.2 := by
  intro n
  induction n with
  | zero =>
    intro o hn
    rw [anL_eq, if_neg (by omega)]
    exact ⟨trivial, fun q hq => absurd hq List.not_mem_nil⟩
  | succ n ih =>
    intro o hn
    rw [anL_eq, if_pos (by omega)]
    obtain ⟨h1, h2⟩ := ih (o + 1) (by omega)
    split
    · next h =>
      obtain ⟨p1, p2, p3, -⟩ := plc_ok (A 1) (A 0 o) _ c d rfl (by rw [h.2]; omega)
      refine ⟨⟨Int.le_refl _, h1⟩, fun q hq => ?_⟩
      rcases List.mem_cons.mp hq with rfl | hq
      · refine ⟨?_, p3.symm⟩
        unfold InR
        dsimp only
        omega
      · refine ⟨?_, (h2 q hq).2⟩
        have := (h2 q hq).1
        unfold InR at *
        omega
    · refine ⟨RS_mono _ _ _ (by omega) h1, fun q hq => ⟨?_, (h2 q hq).2⟩⟩
      have := (h2 q hq).1
      unfold InR at *
      omega
theorem mxl_r (n : Int) : ∀ (w : List (Int × Int × Int)) (m : Int), m ≤ mxl n w m
  | [], m => Int.le_refl _
  | q :: w, m => by
    unfold mxl
    have := mxl_r n w (if n < q.2.1 ∧ m < q.2.2 then q.2.2 else m)
    split at this <;> (split <;> omega)
theorem mxl_ub (n B : Int) : ∀ (w : List (Int × Int × Int)) (m : Int), (∀ q ∈ w, q.2.2 ≤ B) → m ≤ B → mxl n w m ≤ B
  | [], m, _, hm => hm
  | q :: w, m, h, hm => by
    unfold mxl
    refine mxl_ub n B w _ (fun x hx => h x (List.mem_cons_of_mem _ hx)) ?_
    split
    · exact h q List.mem_cons_self
    · exact hm
theorem anW_mem : ∀ (l : List (Int × Int)) (q : Int × Int × Int), q ∈ anW l → (q.1, q.2.1) ∈ l ∧ 1 ≤ q.2.2 ∧ q.2.2 ≤ l.length
  | [], q, h => absurd h List.not_mem_nil
  | x :: r, q, h => by
    unfold anW at h
    rcases List.mem_cons.mp h with rfl | h
    · have h1 := mxl_r x.2 (anW r) 0
      have h2 := mxl_ub x.2 (r.length : Int) (anW r) 0 (fun y hy => (anW_mem r y hy).2.2) (by omega)
      refine ⟨List.mem_cons_self, ?_, ?_⟩
      · dsimp only
        omega
      · simp only [List.length_cons]
        omega
    · obtain ⟨h1, h2, h3⟩ := anW_mem r q h
      refine ⟨List.mem_cons_of_mem _ h1, h2, ?_⟩
      simp only [List.length_cons]
      omega
def IsMx (w : List (Int × Int × Int)) (m : Int) : Prop := (∀ q ∈ w, q.2.2 ≤ m) ∧ ((w = [] ∧ m = 0) ∨ ∃ q ∈ w, q.2.2 = m)
theorem IsMx_un {w : List (Int × Int × Int)} {m m' : Int} (h : IsMx w m) (h' : IsMx w m') : m = m' := by
  rcases h.2 with ⟨e, rfl⟩ | ⟨q, hq, rfl⟩
  · rcases h'.2 with ⟨-, rfl⟩ | ⟨q, hq, -⟩
    · rfl
    · rw [e] at hq
      exact absurd hq List.not_mem_nil
  · rcases h'.2 with ⟨e, -⟩ | ⟨q', hq', rfl⟩
    · rw [e] at hq
      exact absurd hq List.not_mem_nil
    · have h1 := h.1 q' hq'
      have h2 := h'.1 q hq
      omega
theorem mxa_ok : ∀ (w : List (Int × Int × Int)) (m : Int), m ≤ mxa w m ∧ (∀ q ∈ w, q.2.2 ≤ mxa w m) ∧ (mxa w m = m ∨ ∃ q ∈ w, q.2.2 = mxa w m)
  | [], m => ⟨Int.le_refl _, fun q h => absurd h List.not_mem_nil, Or.inl rfl⟩
  | x :: w, m => by
    unfold mxa
    obtain ⟨h1, h2, h3⟩ := mxa_ok w (if m < x.2.2 then x.2.2 else m)
    refine ⟨by split at h1 <;> (split <;> omega), fun q hq => ?_, ?_⟩
    · rcases List.mem_cons.mp hq with rfl | hq
      · split at h1 <;> (split <;> omega)
      · exact h2 q hq
    · rcases h3 with h3 | ⟨q, hq, e⟩
      · by_cases hm : m < x.2.2
        · rw [if_pos hm] at h3 ⊢
          exact Or.inr ⟨x, List.mem_cons_self, h3.symm⟩
        · rw [if_neg hm] at h3 ⊢
          exact Or.inl h3
      · exact Or.inr ⟨q, List.mem_cons_of_mem _ hq, e⟩
theorem mxa_mx (w : List (Int × Int × Int)) (h : ∀ q ∈ w, 1 ≤ q.2.2) : IsMx w (mxa w 0) := by
  obtain ⟨h1, h2, h3⟩ := mxa_ok w 0
  refine ⟨h2, ?_⟩
  rcases h3 with h3 | h3
  · cases w with
    | nil => exact Or.inl ⟨rfl, h3⟩
    | cons x w =>
      have := h x List.mem_cons_self
      have := h2 x List.mem_cons_self
      omega
  · exact Or.inr h3
/-- a chain: both numbers rise -/
def CH (b d : Int) : Int → Int → List (Int × Int) → Prop
  | _, _, [] => True
  | o, n, q :: r => o ≤ q.1 ∧ n ≤ q.2 ∧ q.1 < b ∧ q.2 < d ∧ CH b d (q.1 + 1) (q.2 + 1) r
theorem CH_mono (b d : Int) : ∀ (l : List (Int × Int)) (o n o' n' : Int), o' ≤ o → n' ≤ n → CH b d o n l → CH b d o' n' l
  | [], _, _, _, _, _, _, _ => trivial
  | q :: r, o, n, o', n', h1, h2, ⟨g1, g2, g3⟩ => ⟨by omega, by omega, g3⟩
theorem pck_ok (b d : Int) : ∀ (l : List (Int × Int)) (o want last : Int), RS o l → (∀ q ∈ l, q.1 < b ∧ q.2 < d) → CH b d o (last + 1) (pck (anW l) want last)
  | [], _, _, _, _, _ => trivial
  | x :: r, o, want, last, ⟨h1, h2⟩, h3 => by
    have h4 : ∀ q ∈ r, q.1 < b ∧ q.2 < d := fun q hq => h3 q (List.mem_cons_of_mem _ hq)
    unfold anW pck
    dsimp only
    split
    · next h =>
      have := pck_ok b d r (x.1 + 1) (want - 1) x.2 h2 h4
      have h5 := h3 x List.mem_cons_self
      exact ⟨h1, by dsimp only; omega, h5.1, h5.2, this⟩
    · exact CH_mono b d _ _ _ _ _ (by omega) (by omega) (pck_ok b d r (x.1 + 1) want last h2 h4)
theorem pck_mem : ∀ (w : List (Int × Int × Int)) (want last : Int) (q : Int × Int), q ∈ pck w want last → ∃ l, (q.1, q.2, l) ∈ w
  | [], _, _, q, h => absurd h List.not_mem_nil
  | x :: w, want, last, q, h => by
    unfold pck at h
    split at h
    · rcases List.mem_cons.mp h with rfl | h
      · exact ⟨x.2.2, List.mem_cons_self⟩
      · obtain ⟨l, hl⟩ := pck_mem w _ _ q h
        exact ⟨l, List.mem_cons_of_mem _ hl⟩
    · obtain ⟨l, hl⟩ := pck_mem w _ _ q h
      exact ⟨l, List.mem_cons_of_mem _ hl⟩
theorem pck_ne : ∀ (w : List (Int × Int × Int)) (want last : Int), (∃ q ∈ w, q.2.2 = want) → (∀ q ∈ w, last < q.2.1) → pck w want last ≠ []
  | [], _, _, ⟨q, hq, _⟩, _ => absurd hq List.not_mem_nil
  | x :: w, want, last, ⟨q, hq, e⟩, h => by
    unfold pck
    split
    · exact List.cons_ne_nil _ _
    · next hn =>
      refine pck_ne w want last ?_ (fun y hy => h y (List.mem_cons_of_mem _ hy))
      rcases List.mem_cons.mp hq with rfl | hq
      · exact absurd ⟨e, h q List.mem_cons_self⟩ hn
      · exact ⟨q, hq, e⟩
theorem chn_ok {A : LF} {a b c d : Int} (hc : 0 ≤ c) : CH b d a c (chn A a b c d) ∧ (∀ q ∈ chn A a b c d, InR a b c d q ∧ A 0 q.1 = A 1 q.2) ∧ (anL A a b c d a ≠ [] → chn A a b c d ≠ []) := by
  obtain ⟨h1, h2⟩ := anL_ok A a b c d _ a rfl
  have h3 : ∀ q ∈ chn A a b c d, q ∈ anL A a b c d a := by
    intro q hq
    obtain ⟨l, hl⟩ := pck_mem _ _ _ q hq
    exact (anW_mem _ _ hl).1
  have hch : CH b d a (-1 + 1) (chn A a b c d) := pck_ok b d (anL A a b c d a) a (mxa (anW (anL A a b c d a)) 0) (-1) h1 (fun q hq => by have := (h2 q hq).1; unfold InR at this; omega)
  rw [show (-1 : Int) + 1 = 0 from rfl] at hch
  refine ⟨?_, fun q hq => h2 q (h3 q hq), fun hne => ?_⟩
  · generalize hl : chn A a b c d = l at hch h3
    cases l with
    | nil => exact trivial
    | cons q r =>
      have := (h2 q (h3 q List.mem_cons_self)).1
      unfold InR at this
      exact ⟨hch.1, by omega, hch.2.2⟩
  · have hmx := mxa_mx (anW (anL A a b c d a)) (fun q hq => (anW_mem _ q hq).2.1)
    refine pck_ne _ _ _ ?_ (fun q hq => ?_)
    · rcases hmx.2 with ⟨e, -⟩ | h
      · exfalso
        apply hne
        cases hl : anL A a b c d a with
        | nil => rfl
        | cons q r =>
          rw [hl] at e
          unfold anW at e
          cases e
      · exact h
    · have := (h2 _ (anW_mem _ q hq).1).1
      unfold InR at this
      dsimp only at this
      omega
theorem CH_in {b d : Int} : ∀ (l : List (Int × Int)) (o n : Int), CH b d o n l → ∀ q ∈ l, InR o b n d q
  | [], _, _, _, q, h => absurd h List.not_mem_nil
  | x :: r, o, n, ⟨h1, h2, h3, h4, h5⟩, q, h => by
    rcases List.mem_cons.mp h with rfl | h
    · exact ⟨h1, h3, h2, h4⟩
    · have := CH_in r _ _ h5 q h
      unfold InR at *
      omega
/-- a part's bounds -/
def PB (a b c d : Int) (p : Int × Int × Int × Int) : Prop := a ≤ p.1 ∧ p.1 ≤ p.2.1 ∧ p.2.1 ≤ b ∧ c ≤ p.2.2.1 ∧ p.2.2.1 ≤ p.2.2.2 ∧ p.2.2.2 ≤ d
theorem btw_ok {b d : Int} : ∀ (l : List (Int × Int)) (a c : Int), CH b d a c l → a ≤ b → c ≤ d → (∀ p ∈ btw b d l a c, PB a b c d p ∧ p.2.1 - p.1 + l.length ≤ b - a) ∧ ((btw b d l a c).map (fun p => p.2.1 - p.1)).sum + l.length = b - a ∧ (btw b d l a c).length = l.length + 1
  | [], a, c, _, h1, h2 => by
    refine ⟨fun p hp => ?_, by simp [btw], rfl⟩
    rw [List.mem_singleton.mp hp]
    exact ⟨⟨Int.le_refl _, h1, Int.le_refl _, Int.le_refl _, h2, Int.le_refl _⟩, by simp⟩
  | q :: r, a, c, ⟨g1, g2, g3, g4, g5⟩, h1, h2 => by
    obtain ⟨i1, i2, i3⟩ := btw_ok r (q.1 + 1) (q.2 + 1) g5 (by omega) (by omega)
    unfold btw
    have hsum : ((r.length : Int)) ≤ b - (q.1 + 1) := by
      have : ∀ (ps : List (Int × Int × Int × Int)), (∀ p ∈ ps, p.1 ≤ p.2.1) → 0 ≤ (ps.map (fun p => p.2.1 - p.1)).sum := by
        intro ps
        induction ps with
        | nil => intro _; simp
        | cons p ps ih =>
          intro h
          have := ih (fun x hx => h x (List.mem_cons_of_mem _ hx))
          have := h p List.mem_cons_self
          simp only [List.map_cons, List.sum_cons]
          omega
      have := this _ (fun p hp => (i1 p hp).1.2.1)
      omega
    refine ⟨fun p hp => ?_, ?_, ?_⟩
    · rcases List.mem_cons.mp hp with rfl | hp
      · refine ⟨⟨Int.le_refl _, g1, ?_, Int.le_refl _, g2, ?_⟩, ?_⟩
        · dsimp only; omega
        · dsimp only; omega
        · simp only [List.length_cons]
          omega
      · obtain ⟨j1, j2⟩ := i1 p hp
        unfold PB at *
        simp only [List.length_cons]
        omega
    · simp only [List.map_cons, List.sum_cons, List.length_cons]
      omega
    · simp only [List.length_cons, i3]
theorem btw_cons (b d : Int) (q : Int × Int) (r : List (Int × Int)) (a c : Int) : btw b d (q :: r) a c = (a, q.1, c, q.2) :: btw b d r (q.1 + 1) (q.2 + 1) := rfl
theorem par_ok {A : LF} {b d : Int} {rc : Int × Int × Int × Int → List (Int × Int)} : ∀ (l : List (Int × Int)) (a c : Int), CH b d a c l → a ≤ b → c ≤ d → (∀ q ∈ l, A 0 q.1 = A 1 q.2) → (∀ p ∈ btw b d l a c, NX (rc p) ∧ ∀ q ∈ rc p, InR p.1 p.2.1 p.2.2.1 p.2.2.2 q ∧ A 0 q.1 = A 1 q.2) → NX (l ++ (btw b d l a c).flatMap rc) ∧ ∀ q ∈ l ++ (btw b d l a c).flatMap rc, InR a b c d q ∧ A 0 q.1 = A 1 q.2
  | [], a, c, _, h1, h2, _, h => by
    have := h (a, b, c, d) (List.mem_singleton.mpr rfl)
    simpa [btw] using this
  | x :: r, a, c, ⟨g1, g2, g3, g4, g5⟩, h1, h2, hA, h => by
    obtain ⟨i1, i2⟩ := par_ok r (x.1 + 1) (x.2 + 1) g5 (by omega) (by omega) (fun q hq => hA q (List.mem_cons_of_mem _ hq)) (fun p hp => h p (by rw [btw_cons]; exact List.mem_cons_of_mem _ hp))
    obtain ⟨j1, j2⟩ := h (a, x.1, c, x.2) (by rw [btw_cons]; exact List.mem_cons_self)
    have hmem : ∀ q, q ∈ (x :: r) ++ (btw b d (x :: r) a c).flatMap rc ↔ q = x ∨ q ∈ rc (a, x.1, c, x.2) ∨ q ∈ r ++ (btw b d r (x.1 + 1) (x.2 + 1)).flatMap rc := by
      intro q
      rw [btw_cons]
      simp only [List.cons_append, List.mem_cons, List.mem_append, List.flatMap_cons]
      constructor
      · rintro (h | h | h | h)
        · exact Or.inl h
        · exact Or.inr (Or.inr (Or.inl h))
        · exact Or.inr (Or.inl h)
        · exact Or.inr (Or.inr (Or.inr h))
      · rintro (h | h | h | h)
        · exact Or.inl h
        · exact Or.inr (Or.inr (Or.inl h))
        · exact Or.inr (Or.inl h)
        · exact Or.inr (Or.inr (Or.inr h))
    have hN : NX (x :: (rc (a, x.1, c, x.2) ++ (r ++ (btw b d r (x.1 + 1) (x.2 + 1)).flatMap rc))) := by
      refine NX_cons (NX_app j1 i1 (fun u hu v hv => ?_)) (fun v hv => ?_)
      · have a1 := (j2 u hu).1
        have a2 := (i2 v hv).1
        unfold InR at a1 a2
        unfold ncr
        dsimp only at a1
        omega
      · rcases List.mem_append.mp hv with hv | hv
        · have a1 := (j2 v hv).1
          unfold InR at a1
          unfold ncr
          dsimp only at a1
          omega
        · have a2 := (i2 v hv).1
          unfold InR at a2
          unfold ncr
          omega
    refine ⟨NX_mem hN (fun q hq => ?_), fun q hq => ?_⟩
    · rcases (hmem q).mp hq with rfl | h | h
      · exact List.mem_cons_self
      · exact List.mem_cons_of_mem _ (List.mem_append_left _ h)
      · exact List.mem_cons_of_mem _ (List.mem_append_right _ h)
    · rcases (hmem q).mp hq with rfl | h | h
      · exact ⟨⟨g1, g3, g2, g4⟩, hA _ List.mem_cons_self⟩
      · refine ⟨?_, (j2 q h).2⟩
        have a1 := (j2 q h).1
        unfold InR at *
        dsimp only at a1
        omega
      · refine ⟨?_, (i2 q h).2⟩
        have a2 := (i2 q h).1
        unfold InR at *
        omega
theorem mpM_ok {A : LF} {rc : Int × Int × Int × Int → List (Int × Int)} {a b c d : Int} (h1 : a ≤ b) (h2 : c ≤ d) (hc : 0 ≤ c) (h : ∀ p, PB a b c d p → p.2.1 - p.1 < b - a → NX (rc p) ∧ ∀ q ∈ rc p, InR p.1 p.2.1 p.2.2.1 p.2.2.2 q ∧ A 0 q.1 = A 1 q.2) : NX (mpM A rc a b c d) ∧ ∀ q ∈ mpM A rc a b c d, InR a b c d q ∧ A 0 q.1 = A 1 q.2 := by
  unfold mpM
  split
  · split
    · exact mpK_ok A _ b d _ a c rfl
    · next hne =>
      obtain ⟨k1, k2, k3⟩ := chn_ok (A := A) (a := a) (b := b) (c := c) (d := d) hc
      have hl : 1 ≤ ((chn A a b c d).length : Int) := by
        have := List.length_pos_iff.mpr (k3 hne)
        omega
      obtain ⟨b1, -, -⟩ := btw_ok _ a c k1 h1 h2
      exact par_ok _ a c k1 h1 h2 (fun q hq => (k2 q hq).2) (fun p hp => h p (b1 p hp).1 (by have := (b1 p hp).2; omega))
  · exact ⟨NX_nil, fun q hq => absurd hq List.not_mem_nil⟩
theorem mp_ok (A : LF) : ∀ (f : Nat) (a b c d : Int), a ≤ b → 0 ≤ c → c ≤ d → NX (mp A f a b c d) ∧ ∀ q ∈ mp A f a b c d, InR a b c d q ∧ A 0 q.1 = A 1 q.2
  | 0, _, _, _, _, _, _, _ => ⟨NX_nil, fun q hq => absurd hq List.not_mem_nil⟩
  | f + 1, a, b, c, d, h1, hc, h2 => by
    unfold mp
    obtain ⟨p1, p2, p3, p4, p5, p6, p7⟩ := mpP_ok A _ a b c d rfl h1 h2
    generalize mpP A a b c d = P at p1 p2 p3 p4 p5 p6 p7 ⊢
    obtain ⟨s1, s2, s3, s4, s5, s6, s7⟩ := mpS_ok A _ P.2.1 b P.2.2 d rfl p2 p4
    generalize mpS A P.2.1 b P.2.2 d = S at s1 s2 s3 s4 s5 s6 s7 ⊢
    obtain ⟨m1, m2⟩ := mpM_ok (A := A) (rc := fun q => mp A f q.1 q.2.1 q.2.2.1 q.2.2.2) s1 s3 (by omega) (fun p hp _ => mp_ok A f p.1 p.2.1 p.2.2.1 p.2.2.2 hp.2.1 (by have := hp.2.2.2.1; omega) hp.2.2.2.2.1)
    refine ⟨NX_app p6 (NX_app s6 m1 (fun u hu v hv => ?_)) (fun u hu v hv => ?_), fun q hq => ?_⟩
    · have a1 := (s7 u hu).1
      have a2 := (m2 v hv).1
      unfold InR at a1 a2
      unfold ncr
      omega
    · have a1 := (p7 u hu).1
      unfold InR at a1
      rcases List.mem_append.mp hv with hv | hv
      · have a2 := (s7 v hv).1
        unfold InR at a2
        unfold ncr
        omega
      · have a2 := (m2 v hv).1
        unfold InR at a2
        unfold ncr
        omega
    · rcases List.mem_append.mp hq with hq | hq
      · refine ⟨?_, (p7 q hq).2⟩
        have a1 := (p7 q hq).1
        unfold InR at *
        omega
      · rcases List.mem_append.mp hq with hq | hq
        · refine ⟨?_, (s7 q hq).2⟩
          have a1 := (s7 q hq).1
          unfold InR at *
          omega
        · refine ⟨?_, (m2 q hq).2⟩
          have a1 := (m2 q hq).1
          unfold InR at *
          omega
/-- more fuel than lines changes nothing -/
theorem mpM_cg {A : LF} {r1 r2 : Int × Int × Int × Int → List (Int × Int)} {a b c d : Int} (h1 : a ≤ b) (h2 : c ≤ d) (hc : 0 ≤ c) (h : ∀ p, PB a b c d p → p.2.1 - p.1 < b - a → r1 p = r2 p) : mpM A r1 a b c d = mpM A r2 a b c d := by
  unfold mpM
  split
  · split
    · rfl
    · next hne =>
      obtain ⟨k1, k2, k3⟩ := chn_ok (A := A) (a := a) (b := b) (c := c) (d := d) hc
      have hl : 1 ≤ ((chn A a b c d).length : Int) := by
        have := List.length_pos_iff.mpr (k3 hne)
        omega
      obtain ⟨b1, -, -⟩ := btw_ok _ a c k1 h1 h2
      congr 1
      generalize btw b d (chn A a b c d) a c = ps at b1
      induction ps with
      | nil => rfl
      | cons p ps ih =>
        rw [List.flatMap_cons, List.flatMap_cons, h p (b1 p List.mem_cons_self).1 (by have := (b1 p List.mem_cons_self).2; omega), ih (fun x hx => b1 x (List.mem_cons_of_mem _ hx))]
  · rfl
theorem mcM_cg {A : LF} {r1 r2 : Int × Int × Int × Int → Int} {a b c d : Int} (h1 : a ≤ b) (h2 : c ≤ d) (hc : 0 ≤ c) (h : ∀ p, PB a b c d p → p.2.1 - p.1 < b - a → r1 p = r2 p) : mcM A r1 a b c d = mcM A r2 a b c d := by
  unfold mcM
  split
  · next hne =>
    obtain ⟨k1, k2, k3⟩ := chn_ok (A := A) (a := a) (b := b) (c := c) (d := d) hc
    have hl : 1 ≤ ((chn A a b c d).length : Int) := by
      have := List.length_pos_iff.mpr (k3 hne.2.2)
      omega
    obtain ⟨b1, -, -⟩ := btw_ok _ a c k1 h1 h2
    congr 1
    generalize btw b d (chn A a b c d) a c = ps at b1
    induction ps with
    | nil => rfl
    | cons p ps ih =>
      rw [List.map_cons, List.map_cons, List.sum_cons, List.sum_cons, h p (b1 p List.mem_cons_self).1 (by have := (b1 p List.mem_cons_self).2; omega), ih (fun x hx => b1 x (List.mem_cons_of_mem _ hx))]
  · rfl
theorem mp_st (A : LF) : ∀ (f f' : Nat) (a b c d : Int), a ≤ b → 0 ≤ c → c ≤ d → b - a < f → b - a < f' → mp A f a b c d = mp A f' a b c d ∧ mc A f a b c d = mc A f' a b c d
  | 0, _, a, b, _, _, h1, _, _, h, _ => by omega
  | _ + 1, 0, a, b, _, _, h1, _, _, _, h => by omega
  | f + 1, f' + 1, a, b, c, d, h1, hc, h2, g1, g2 => by
    unfold mp mc
    obtain ⟨p1, p2, p3, p4, p5, p6, p7⟩ := mpP_ok A _ a b c d rfl h1 h2
    generalize mpP A a b c d = P at p1 p2 p3 p4 p5 p6 p7 ⊢
    obtain ⟨s1, s2, s3, s4, s5, s6, s7⟩ := mpS_ok A _ P.2.1 b P.2.2 d rfl p2 p4
    generalize mpS A P.2.1 b P.2.2 d = S at s1 s2 s3 s4 s5 s6 s7 ⊢
    refine ⟨?_, ?_⟩
    · congr 2
      exact mpM_cg s1 s3 (by omega) (fun p hp hlt => (mp_st A f f' p.1 p.2.1 p.2.2.1 p.2.2.2 hp.2.1 (by have := hp.2.2.2.1; omega) hp.2.2.2.2.1 (by omega) (by omega)).1)
    · exact mcM_cg s1 s3 (by omega) (fun p hp hlt => (mp_st A f f' p.1 p.2.1 p.2.2.1 p.2.2.2 hp.2.1 (by have := hp.2.2.2.1; omega) hp.2.2.2.2.1 (by omega) (by omega)).2)
