/-! calls that change something: letter, blank, fault, put, take, swap, turn, image, restore -/
theorem LAq.cpy {M M' : AM} {a b a' b' : Nat} {A : LF} {n : Int → Int} (h : LAq M a b A n) (ha : ∀ k : Nat, k < 32 → M' a' k = M a k) (hb : ∀ k : Nat, k < 2 → M' b' k = M b k) : LAq M' a' b' A n := by
  obtain ⟨h1, h2, h3, h4, h5⟩ := h
  refine ⟨by rw [hb 0 (by omega)]; exact h1, by rw [hb 1 (by omega)]; exact h2, h3, h4, fun s i hs i0 i1 => ?_⟩
  rw [ha _ (by rcases hs with rfl | rfl <;> omega)]
  exact h5 s i hs i0 i1
theorem RpC.anew {M M1 : AM} {pg : Int → Int} {z : Int} {A Ai : LF} {n ni : Int → Int} {T I rd : Int} (hP : PgC M pg z) (hI : ImC M I Ai ni rd) (hT : TxC M1 A n T) (hK : RkC M1 RK0 RN0) (f : FrA M M1) : RpC M1 pg z A n T I Ai ni rd RK0 RN0 :=
  ⟨hP.same (f 1 (by omega)) (f 2 (by omega)), hT, hI.same (fun k hk => f k (by omega)), hK⟩
theorem RpR.anew {M M1 : AM} {pg : Int → Int} {z : Int} {A Ai : LF} {n ni : Int → Int} {T I rd : Int} (hP : PgR M pg z) (hI : ImR M I Ai ni rd) (hT : TxR M1 A n T) (hK : RkR M1 RK0) (f : FrL M M1) : RpR M1 pg z A n T I Ai ni rd RK0 :=
  ⟨hP.same (f.2 1 (by decide) (by decide) (by decide) (by decide) (by decide)) (f.1 89 (by decide) (by omega)), hT, hI.same (fun k hk => f.1 k (by omega) (by omega)) (fun j hj => f.2 j (by omega) (by omega) (by omega) (by omega) (by omega)), hK⟩
def mayP (n : Int → Int) (T s p v : Int) : Prop := ((s = 0 ∨ s = 1) ∧ 0 ≤ p ∧ p ≤ n s) ∧ okLn v ∧ T = 1 ∧ n s < 8
noncomputable def noP (n : Int → Int) (T s p v : Int) : Int := cI ((s = 0 ∨ s = 1) ∧ 0 ≤ p ∧ p ≤ n s) (cI (okLn v) (cI (T = 1) (-104) (-103)) (-102)) (-101)
section CALLS
variable {g : AG} {d : Nat} {M : AM} {pg : Int → Int} {z : Int} {A Ai RK : LF} {n ni RN : Int → Int} {T I rd : Int} {Q : Int → AM → Prop}
theorem c_letter0 {c : Int} (hS : RpC M pg z A n T I Ai ni rd RK RN) (hc : rg c) (hn : ¬ ((1 ≤ c ∧ c ≤ 126) ∧ z < 64)) (h : Q (cI (1 ≤ c ∧ c ≤ 126) (-104) (-102)) M) : MetI g mX8_letter (d + 2) [vR 0, vI c] M Q := by
  refine en_X8_letter (sg_X8_letter_0 ⟨hc, fun w => ?_, fun w => ⟨fun w2 => c_pappend hS.1 hc (fun e _ => ⟨fun _ => ?_, fun q => absurd rfl q⟩) (fun e => by omega), fun w2 => ?_⟩⟩)
  · rwa [cI_f (by omega)] at h
  · rwa [cI_t (by omega)] at h
  · rwa [cI_f (by omega)] at h
theorem c_letter1 {c : Int} (hS : RpC M pg z A n T I Ai ni rd RK RN) (hc : rg c) (hy : (1 ≤ c ∧ c ≤ 126) ∧ z < 64) (h : ∀ M', RpC M' (f1 pg z c) (z + 1) A n T I Ai ni rd RK RN → (∀ k, 88 ≤ k → M' k = M k) → Q (z + 1) M') : MetI g mX8_letter (d + 2) [vR 0, vI c] M Q := by
  refine en_X8_letter (sg_X8_letter_0 ⟨hc, fun w => by omega, fun w => ⟨fun w2 => c_pappend hS.1 hc (fun e => by omega) (fun e M1 k1 k2 k3 _ => ⟨fun q => (by cases q), fun _ => ?_⟩), fun w2 => by omega⟩⟩)
  rw [k1.1]
  exact h M1 ⟨k1, hS.2.1.same (fun k hk => k2 k (by omega) (by omega)), hS.2.2.1.same (fun k hk => k2 k (by omega) (by omega)), hS.2.2.2.same (fun k _ _ => k2 k (by omega) (by omega))⟩ (fun k hk => k2 k (by omega) (by omega))
theorem r_letter0 {c : Int} (hS : RpR M pg z A n T I Ai ni rd RK) (hc : rg c) (hn : ¬ ((1 ≤ c ∧ c ≤ 126) ∧ z < 64)) (h : Q (cI (1 ≤ c ∧ c ≤ 126) (-104) (-102)) M) : MetI g mX9_letter (d + 2) [vR 88, vI c] M Q := by
  have e1 := hS.1.1
  have b := hS.1.2.1
  refine en_X9_letter (sg_X9_letter_0 ⟨hc, r_in (rl_of hc) ⟨by decide, by decide⟩ ⟨by decide, by decide⟩ (fun _ => ⟨fun w => ?_, fun w => ?_⟩)⟩)
  · have := bI_of w
    rw [e1]
    refine ⟨fun w2 => by omega, fun w2 => ?_⟩
    rwa [cI_t this] at h
  · rwa [cI_f (bI_not w)] at h
theorem r_letter1 {c : Int} (hS : RpR M pg z A n T I Ai ni rd RK) (hc : rg c) (hy : (1 ≤ c ∧ c ≤ 126) ∧ z < 64) (h : ∀ M', RpR M' (f1 pg z c) (z + 1) A n T I Ai ni rd RK → (∀ k, k < 88 → M' k = M k) → Q (z + 1) M') : MetI g mX9_letter (d + 2) [vR 88, vI c] M Q := by
  obtain ⟨e1, b, pk⟩ := hS.1
  refine en_X9_letter (sg_X9_letter_0 ⟨hc, r_in (rl_of hc) ⟨by decide, by decide⟩ ⟨by decide, by decide⟩ (fun _ => ⟨fun w => ?_, fun w => absurd hy.1 (bI_not w)⟩)⟩)
  rw [e1]
  refine ⟨fun w2 => ⟨⟨by omega, by omega⟩, ⟨by omega, by omega⟩, ?_⟩, fun w2 => by omega⟩
  refine h _ ⟨⟨mU_at, ⟨by omega, by omega⟩, fun k k0 k1 => ?_⟩, hS.2.1.same (fun k hk => by rw [mU_ne (by omega), mU_ne (by omega)]) (fun j hj => by rw [mU_nej (by omega), mU_ne (by decide)]), hS.2.2.1.same (fun k hk => by rw [mU_ne (by omega), mU_ne (by omega)]) (fun j hj => by rw [mU_nej (by omega), mU_ne (by decide)]), hS.2.2.2.same (by rw [mU_ne (by decide), mU_ne (by decide)])⟩ (fun k hk => by rw [mU_ne (by omega), mU_ne (by omega)])
  rw [mU_ne (by decide)]
  unfold f1
  by_cases e : k = z
  · subst e
    rw [mU_at, if_pos rfl]
    exact ⟨rfl, hc⟩
  · rw [mU_nej (by omega), if_neg e]
    exact pk k k0 (by omega)
theorem c_blank (hS : RpC M pg z A n T I Ai ni rd RK RN) (h : ∀ M', RpC M' pg 0 A n T I Ai ni rd RK RN → (∀ k, 88 ≤ k → M' k = M k) → Q z M') : MetI g mX8_blank (d + 1) [vR 0] M Q := by
  refine en_X8_blank (sg_X8_blank_0 ?_)
  rw [hS.1.1]
  exact h _ ⟨⟨mU_at, ⟨by decide, by decide⟩, fun k k0 k1 => by omega⟩, hS.2.1.same (fun k hk => mU_ne (by omega)), hS.2.2.1.same (fun k hk => mU_ne (by omega)), hS.2.2.2.same (fun k _ _ => mU_ne (by omega))⟩ (fun k hk => mU_ne (by omega))
theorem r_blank (hS : RpR M pg z A n T I Ai ni rd RK) (h : ∀ M', RpR M' pg 0 A n T I Ai ni rd RK → (∀ k, k < 88 → M' k = M k) → Q z M') : MetI g mX9_blank (d + 1) [vR 88] M Q := by
  refine en_X9_blank (sg_X9_blank_0 ?_)
  rw [hS.1.1]
  exact h _ ⟨⟨mU_at, ⟨by decide, by decide⟩, fun k k0 k1 => by omega⟩, hS.2.1.same (fun k hk => mU_ne (by omega)) (fun j hj => mU_nej (by omega)), hS.2.2.1.same (fun k hk => mU_ne (by omega)) (fun j hj => mU_nej (by omega)), hS.2.2.2.same (mU_ne (by decide))⟩ (fun k hk => mU_ne (by omega))
theorem c_fault (hP : PgC M pg z) (h : ∀ M', KpC M M' → Q (rdN pg z.toNat 0 Rd0).1 M') : MetI g mX8_fault (d + 5) [vR 0] M Q :=
  en_X8_fault (sg_X8_fault_0 (c_firstFault hP (fun M' k1 _ _ => h M' (fun k hk => k1 k (by omega)))))
theorem FrP.kp {M M' : AM} (f : FrP M M') : KpR M M' := ⟨fun k a b c _ _ _ => f.1 k a b c, fun j a b c _ _ _ => f.2 j a b c⟩
theorem r_fault (hP : PgR M pg z) (h : ∀ M', KpR M M' → Q (rdN pg z.toNat 0 Rd0).1 M') : MetI g mX9_fault (d + 4) [vR 88] M Q :=
  en_X9_fault (sg_X9_fault_0 (r_faultOf hP (fun M' k1 _ _ => h M' k1.kp)))
theorem r_isLetters {v : Int} (hv : rg v) (h : Q (bI (okLn v)) M) : MetI g mX9_isLetters (d + 2) [vI v] M Q := by
  have st : ∀ x : Int, 0 < x → x < 2097152 → (¬ isLt (x % 128) → Q 0 M) → (isLt (x % 128) → S_X9_isLetters_18 g (d + 2) 1 (x / 128) M Q) → S_X9_isLetters_18 g (d + 2) 1 x M Q := by
    intro x x0 x1 k0 k1
    refine sg_X9_isLetters_18 ⟨⟨by decide, by decide⟩, fun w => (by cases w), fun _ => ⟨⟨by omega, by omega⟩, fun w => by omega, fun _ => ?_⟩⟩
    rw [iRem_pos (by omega) (by omega) (by decide) (by decide), iDiv_pos (by omega) (by omega) (by decide) (by decide)]
    refine r_in (rl_of ⟨by omega, by omega⟩) ⟨by decide, by decide⟩ ⟨by decide, by decide⟩ (fun _ => ?_)
    by_cases c : 97 ≤ x % 128 ∧ x % 128 ≤ 101
    · rw [bI_t c]
      exact k1 c
    · rw [bI_f c]
      exact sg_X9_isLetters_18 ⟨⟨by decide, by decide⟩, fun _ => ⟨Or.inl rfl, k0 c⟩, fun w => absurd rfl w⟩
  have en : Q 1 M → S_X9_isLetters_18 g (d + 2) 1 0 M Q := fun q =>
    sg_X9_isLetters_18 ⟨⟨by decide, by decide⟩, fun w => (by cases w), fun _ => ⟨⟨by decide, by decide⟩, fun _ => ⟨Or.inr rfl, q⟩, fun w => absurd (by decide) w⟩⟩
  have no : Q 0 M → ∀ x, S_X9_isLetters_18 g (d + 2) 0 x M Q := fun q x =>
    sg_X9_isLetters_18 ⟨⟨by decide, by decide⟩, fun _ => ⟨Or.inl rfl, q⟩, fun w => absurd rfl w⟩
  have yes : okLn v → Q 1 M := fun q => by rwa [bI_t q] at h
  have nay : ¬ okLn v → Q 0 M := fun q => by rwa [bI_f q] at h
  unfold okLn isLt at yes nay
  refine en_X9_isLetters (sg_X9_isLetters_0 ⟨hv, fun c => no (nay (by omega)) v, fun c => ⟨fun c1 => no (nay (by omega)) v, fun c1 => ?_⟩⟩)
  refine st v (by omega) (by omega) (fun q => nay (by unfold isLt at q; omega)) (fun q => ?_)
  unfold isLt at q
  by_cases z1 : v / 128 = 0
  · rw [z1]
    exact en (yes (by omega))
  · refine st _ (by omega) (by omega) (fun q2 => nay (by unfold isLt at q2; omega)) (fun q2 => ?_)
    unfold isLt at q2
    by_cases z2 : v / 128 / 128 = 0
    · rw [z2]
      exact en (yes (by omega))
    · refine st _ (by omega) (by omega) (fun q3 => nay (by unfold isLt at q3; omega)) (fun q3 => ?_)
      unfold isLt at q3
      have z3 : v / 128 / 128 / 128 = 0 := by omega
      rw [z3]
      exact en (yes (by omega))
theorem c_put0 {s p v : Int} (hS : RpC M pg z A n T I Ai ni rd RK RN) (ok : OkT A n T) (h1 : rg s) (h2 : rg p) (h3 : rg v) (hn : ¬ mayP n T s p v) (h : Q (noP n T s p v) M) : MetI g mX8_put (d + 24) [vR 0, vI s, vI p, vI v] M Q := by
  obtain ⟨t1, t2, t3, t4, t5, t6⟩ := hS.2.1
  unfold noP at h
  refine en_X8_put (sg_X8_put_0 ⟨h1, c_isSide (d := d + 22) h1 (fun _ => ⟨fun c => ?_, fun c => ?_⟩)⟩)
  · rwa [cI_f (fun q => bI_not c q.1)] at h
  · have hs := bI_of c
    have es : M 9 s.toNat = n s := t1.sz hs
    have bs := t1.bd hs
    rw [es]
    refine ⟨h2, fun c1 => ?_, fun c1 => ⟨⟨by omega, by omega⟩, fun c2 => ⟨h3, c_isLine (d := d + 21) h3 (fun _ => ⟨fun c3 => ?_, fun c3 => ?_⟩)⟩, fun c2 => ?_⟩⟩
    · rwa [cI_f (by omega)] at h
    · rw [cI_t ⟨hs, by omega, c2⟩, cI_t (bI_of c3)] at h
      rw [t5, es]
      refine ⟨fun c4 => ⟨fun c5 => ?_, fun c5 => ?_⟩, fun c4 => ?_⟩
      · exact absurd ⟨⟨hs, by omega, c2⟩, bI_of c3, by have := ok.2.1; omega, c5⟩ hn
      · rwa [cI_t (by have := ok.2.1; omega)] at h
      · rwa [cI_f (by omega)] at h
    · rwa [cI_t ⟨hs, by omega, c2⟩, cI_f (bI_not c3)] at h
    · rwa [cI_f (by omega)] at h
theorem okLn_ok {v : Int} (h : okLn v) : rg v ∧ 0 ≤ v := by
  have := okLn_rg h
  exact ⟨⟨by omega, by omega⟩, by omega⟩
theorem c_put1 {s p v : Int} (hS : RpC M pg z A n T I Ai ni rd RK RN) (ok : OkT A n T) (h1 : rg s) (h2 : rg p) (h3 : rg v) (hy : mayP n T s p v) (h : ∀ M', RpC M' pg z (insA A n s p v) (f1 n s (n s + 1)) T I Ai ni rd RK0 RN0 → (∀ k, 88 ≤ k → M' k = M k) → Q (SCR (insA A n s p v) (f1 n s (n s + 1))).length M') : MetI g mX8_put (d + 24) [vR 0, vI s, vI p, vI v] M Q := by
  obtain ⟨t1, t2, t3, t4, t5, t6⟩ := hS.2.1
  obtain ⟨⟨hs, p0, p1⟩, hl, T1, n8⟩ := hy
  have es : M 9 s.toNat = n s := t1.sz hs
  refine en_X8_put (sg_X8_put_0 ⟨h1, c_isSide (d := d + 22) h1 (fun _ => ⟨fun c => absurd hs (bI_not c), fun c => ?_⟩)⟩)
  rw [es]
  refine ⟨h2, fun c1 => by omega, fun c1 => ⟨⟨by omega, by omega⟩, fun c2 => ⟨h3, c_isLine (d := d + 21) h3 (fun _ => ⟨fun c3 => ?_, fun c3 => absurd hl (bI_not c3)⟩)⟩, fun c2 => by omega⟩⟩
  rw [t5, es]
  refine ⟨fun c4 => ⟨fun c5 => ?_, fun c5 => by omega⟩, fun c4 => by omega⟩
  refine c_insert (d := d + 21) isSides_5 hs h3 ⟨p0, by rw [show M (5 + 4) s.toNat = n s from es]; exact p1⟩ (by rw [show M (5 + 4) s.toNat = n s from es]; omega) ?_
  have fr := sIns_fr (M := M) (o := 4) (s := s.toNat) (p := p.toNat) (v := v) (by omega)
  have fr : ∀ k, (k < 7 ∨ 9 < k) → sIns M 5 s.toNat p.toNat v k = M k := fr
  have l1 : LAm (sIns M 5 s.toNat p.toNat v) 4 (insA A n s p v) (f1 n s (n s + 1)) := t1.ins hs ⟨p0, p1⟩ (by omega)
  refine c_anew l1 (okA.ins ok.1 (okLn_ok hl)) (by rw [fr 0 (by omega)]; exact t5) (fun M2 k1 k2 k3 _ => h M2 (RpC.anew (hS.1.same (fr 1 (by omega)) (fr 2 (by omega))) (hS.2.2.1.same (fun k hk => fr k (by omega))) k1 k2 k3) (fun k hk => ?_))
  rw [k3 k (by omega), fr k (by omega)]
theorem r_put0 {s p v : Int} (hS : RpR M pg z A n T I Ai ni rd RK) (ok : OkT A n T) (h1 : rg s) (h2 : rg p) (h3 : rg v) (hn : ¬ mayP n T s p v) (h : Q (noP n T s p v) M) : MetI g mX9_put (d + 8) [vR 88, vI s, vI p, vI v] M Q := by
  obtain ⟨t1, t2, t3, t4, t5, t6⟩ := hS.2.1
  unfold noP at h
  refine en_X9_put (sg_X9_put_0 ⟨h1, r_isSide (d := d + 6) h1 (fun _ => ⟨fun c => ?_, fun c => ?_⟩)⟩)
  · rwa [cI_f (fun q => bI_not c q.1)] at h
  · have hs := bI_of c
    have es := t1.sz hs
    have bs := t1.bd hs
    rw [es]
    refine ⟨h2, ⟨by omega, by omega⟩, r_in (d := d + 6) (rl_of h2) ⟨by decide, by decide⟩ ⟨by omega, by omega⟩ (fun _ => ⟨fun c1 => ⟨h3, r_isLetters (d := d + 5) h3 (fun _ => ⟨fun c3 => ?_, fun c3 => ?_⟩)⟩, fun c1 => ?_⟩)⟩
    · rw [cI_t ⟨hs, bI_of c1⟩, cI_t (bI_of c3)] at h
      rw [t5, es]
      refine ⟨fun c4 => ⟨fun c5 => ?_, fun c5 => ?_⟩, fun c4 => ?_⟩
      · exact absurd ⟨⟨hs, bI_of c1⟩, bI_of c3, by have := ok.2.1; omega, by omega⟩ hn
      · rwa [cI_t (by have := ok.2.1; omega)] at h
      · rwa [cI_f (by omega)] at h
    · rwa [cI_t ⟨hs, bI_of c1⟩, cI_f (bI_not c3)] at h
    · rwa [cI_f (fun q => bI_not c1 q.2)] at h
theorem r_put1 {s p v : Int} (hS : RpR M pg z A n T I Ai ni rd RK) (ok : OkT A n T) (h1 : rg s) (h2 : rg p) (h3 : rg v) (hy : mayP n T s p v) (h : ∀ M', RpR M' pg z (insA A n s p v) (f1 n s (n s + 1)) T I Ai ni rd RK0 → (∀ k, k < 88 → M' k = M k) → Q (SCR (insA A n s p v) (f1 n s (n s + 1))).length M') : MetI g mX9_put (d + 8) [vR 88, vI s, vI p, vI v] M Q := by
  obtain ⟨t1, t2, t3, t4, t5, t6⟩ := hS.2.1
  obtain ⟨⟨hs, p0, p1⟩, hl, T1, n8⟩ := hy
  have es := t1.sz hs
  have bs := t1.bd hs
  refine en_X9_put (sg_X9_put_0 ⟨h1, r_isSide (d := d + 6) h1 (fun _ => ⟨fun c => absurd hs (bI_not c), fun c => ?_⟩)⟩)
  rw [es]
  refine ⟨h2, ⟨by omega, by omega⟩, r_in (d := d + 6) (rl_of h2) ⟨by decide, by decide⟩ ⟨by omega, by omega⟩ (fun _ => ⟨fun c1 => ⟨h3, r_isLetters (d := d + 5) h3 (fun _ => ⟨fun c3 => ?_, fun c3 => absurd hl (bI_not c3)⟩)⟩, fun c1 => absurd ⟨p0, p1⟩ (bI_not c1)⟩)⟩
  rw [t5, es]
  refine ⟨fun c4 => ⟨fun c5 => ?_, fun c5 => by omega⟩, fun c4 => by omega⟩
  refine r_insert (d := d + 6) t1 hs ⟨p0, p1⟩ (by omega) h3 (fun M1 k1 k2 => ?_)
  refine r_lay (T := T) k1 (okA.ins ok.1 (okLn_ok hl)) (by rw [k2 88 (by decide) (by decide)]; exact t5) (fun M2 j1 j2 j3 => ?_)
  rw [j1.2.2.1.1]
  refine h M2 (RpR.anew (hS.1.same (by rw [k2 88 (by decide) (by decide)]) (k2 89 (by decide) (by decide))) (hS.2.2.1.same (fun k hk => k2 k (by omega) (by omega)) (fun j _ => by rw [k2 88 (by decide) (by decide)])) j1 j2 j3) (fun k hk => ?_)
  rw [j3.1 k (by omega) (by omega), k2 k (by omega) (by omega)]
theorem c_take0 {s p : Int} (hS : RpC M pg z A n T I Ai ni rd RK RN) (h1 : rg s) (h2 : rg p) (hn : ¬ isLn n s p) (h : Q (-101) M) : MetI g mX8_take (d + 24) [vR 0, vI s, vI p] M Q :=
  en_X8_take (sg_X8_take_0 ⟨h1, h2, c_hasL (d := d + 21) hS.2.1.1 h1 h2 (fun _ => ⟨fun c => absurd (bI_of c) hn, fun _ => h⟩)⟩)
theorem c_take1 {s p : Int} (hS : RpC M pg z A n T I Ai ni rd RK RN) (ok : OkT A n T) (h1 : rg s) (h2 : rg p) (hy : isLn n s p) (h : ∀ M', RpC M' pg z (remA A n s p) (f1 n s (n s - 1)) T I Ai ni rd RK0 RN0 → (∀ k, 88 ≤ k → M' k = M k) → Q (SCR (remA A n s p) (f1 n s (n s - 1))).length M') : MetI g mX8_take (d + 24) [vR 0, vI s, vI p] M Q := by
  obtain ⟨t1, t2, t3, t4, t5, t6⟩ := hS.2.1
  have es : M 9 s.toNat = n s := t1.sz hy.1
  have bs := t1.bd hy.1
  have hs := hy.1
  refine en_X8_take (sg_X8_take_0 ⟨h1, h2, c_hasL (d := d + 21) t1 h1 h2 (fun _ => ⟨fun _ => ?_, fun c => absurd hy (bI_not c)⟩)⟩)
  refine c_remove (d := d + 20) isSides_5 hs (by rw [show M (5 + 4) s.toNat = n s from es]; exact hy.2) (by rw [show M (5 + 4) s.toNat = n s from es]; omega) ?_
  have fr := sRem_fr (M := M) (o := 4) (s := s.toNat) (p := p.toNat) (by omega)
  have fr : ∀ k, (k < 7 ∨ 9 < k) → sRem M 5 s.toNat p.toNat k = M k := fr
  have l1 : LAm (sRem M 5 s.toNat p.toNat) 4 (remA A n s p) (f1 n s (n s - 1)) := t1.rem hs hy.2
  refine c_anew l1 (okA.rem ok.1) (by rw [fr 0 (by omega)]; exact t5) (fun M2 k1 k2 k3 _ => h M2 (RpC.anew (hS.1.same (fr 1 (by omega)) (fr 2 (by omega))) (hS.2.2.1.same (fun k hk => fr k (by omega))) k1 k2 k3) (fun k hk => ?_))
  rw [k3 k (by omega), fr k (by omega)]
theorem r_take0 {s p : Int} (hS : RpR M pg z A n T I Ai ni rd RK) (h1 : rg s) (h2 : rg p) (hn : ¬ isLn n s p) (h : Q (-101) M) : MetI g mX9_take (d + 8) [vR 88, vI s, vI p] M Q :=
  en_X9_take (sg_X9_take_0 ⟨h1, h2, r_isLine (d := d + 5) hS.2.1.1 h1 h2 (fun _ => ⟨fun c => absurd (bI_of c) hn, fun _ => h⟩)⟩)
theorem r_take1 {s p : Int} (hS : RpR M pg z A n T I Ai ni rd RK) (ok : OkT A n T) (h1 : rg s) (h2 : rg p) (hy : isLn n s p) (h : ∀ M', RpR M' pg z (remA A n s p) (f1 n s (n s - 1)) T I Ai ni rd RK0 → (∀ k, k < 88 → M' k = M k) → Q (SCR (remA A n s p) (f1 n s (n s - 1))).length M') : MetI g mX9_take (d + 8) [vR 88, vI s, vI p] M Q := by
  obtain ⟨t1, t2, t3, t4, t5, t6⟩ := hS.2.1
  refine en_X9_take (sg_X9_take_0 ⟨h1, h2, r_isLine (d := d + 5) t1 h1 h2 (fun _ => ⟨fun _ => ?_, fun c => absurd hy (bI_not c)⟩)⟩)
  refine r_remove (d := d + 6) t1 hy.1 hy.2 (fun M1 k1 k2 => ?_)
  refine r_lay (T := T) k1 (okA.rem ok.1) (by rw [k2 88 (by decide) (by decide)]; exact t5) (fun M2 j1 j2 j3 => ?_)
  rw [j1.2.2.1.1]
  refine h M2 (RpR.anew (hS.1.same (by rw [k2 88 (by decide) (by decide)]) (k2 89 (by decide) (by decide))) (hS.2.2.1.same (fun k hk => k2 k (by omega) (by omega)) (fun j _ => by rw [k2 88 (by decide) (by decide)])) j1 j2 j3) (fun k hk => ?_)
  rw [j3.1 k (by omega) (by omega), k2 k (by omega) (by omega)]
theorem c_swap0 {s p q : Int} (hS : RpC M pg z A n T I Ai ni rd RK RN) (h1 : rg s) (h2 : rg p) (h3 : rg q) (hn : ¬ (isLn n s p ∧ isLn n s q ∧ p ≠ q)) (h : Q (-101) M) : MetI g mX8_swap (d + 24) [vR 0, vI s, vI p, vI q] M Q :=
  en_X8_swap (sg_X8_swap_0 ⟨h1, h2, c_hasL (d := d + 21) hS.2.1.1 h1 h2 (fun _ => ⟨fun _ => h, fun c => ⟨h3, c_hasL (d := d + 21) hS.2.1.1 h1 h3 (fun _ => ⟨fun _ => h, fun c1 => ⟨fun c2 => absurd ⟨bI_of c, bI_of c1, c2⟩ hn, fun _ => h⟩⟩)⟩⟩)⟩)
theorem c_swap1 {s p q : Int} (hS : RpC M pg z A n T I Ai ni rd RK RN) (ok : OkT A n T) (h1 : rg s) (h2 : rg p) (h3 : rg q) (hy : isLn n s p ∧ isLn n s q ∧ p ≠ q) (h : ∀ M', RpC M' pg z (swpA A s p q) n T I Ai ni rd RK0 RN0 → (∀ k, 88 ≤ k → M' k = M k) → Q (SCR (swpA A s p q) n).length M') : MetI g mX8_swap (d + 24) [vR 0, vI s, vI p, vI q] M Q := by
  obtain ⟨t1, t2, t3, t4, t5, t6⟩ := hS.2.1
  obtain ⟨y1, y2, y3⟩ := hy
  have es : M 9 s.toNat = n s := t1.sz y1.1
  have bs := t1.bd y1.1
  have hs := y1.1
  refine en_X8_swap (sg_X8_swap_0 ⟨h1, h2, c_hasL (d := d + 21) t1 h1 h2 (fun _ => ⟨fun c => absurd y1 (bI_not c), fun _ => ⟨h3, c_hasL (d := d + 21) t1 h1 h3 (fun _ => ⟨fun c => absurd y2 (bI_not c), fun _ => ⟨fun _ => ?_, fun c => absurd c y3⟩⟩)⟩⟩)⟩)
  refine c_exchangeLines (d := d + 20) isSides_5 hs (by rw [show M (5 + 4) s.toNat = n s from es]; exact y1.2) (by rw [show M (5 + 4) s.toNat = n s from es]; exact y2.2) (by rw [show M (5 + 4) s.toNat = n s from es]; omega) y3 ?_
  have fr := sSwp_fr (M := M) (o := 4) (s := s.toNat) (p := p.toNat) (q := q.toNat) (by omega)
  have fr : ∀ k, (k < 7 ∨ 9 < k) → sSwp M 5 s.toNat p.toNat q.toNat k = M k := fr
  have l1 : LAm (sSwp M 5 s.toNat p.toNat q.toNat) 4 (swpA A s p q) n := t1.swp hs y1.2 y2.2
  refine c_anew l1 (okA.swp ok.1) (by rw [fr 0 (by omega)]; exact t5) (fun M2 k1 k2 k3 _ => h M2 (RpC.anew (hS.1.same (fr 1 (by omega)) (fr 2 (by omega))) (hS.2.2.1.same (fun k hk => fr k (by omega))) k1 k2 k3) (fun k hk => ?_))
  rw [k3 k (by omega), fr k (by omega)]
theorem r_swap0 {s p q : Int} (hS : RpR M pg z A n T I Ai ni rd RK) (h1 : rg s) (h2 : rg p) (h3 : rg q) (hn : ¬ (isLn n s p ∧ isLn n s q ∧ p ≠ q)) (h : Q (-101) M) : MetI g mX9_swap (d + 8) [vR 88, vI s, vI p, vI q] M Q :=
  en_X9_swap (sg_X9_swap_0 ⟨h1, h2, r_isLine (d := d + 5) hS.2.1.1 h1 h2 (fun _ => ⟨fun _ => h, fun c => ⟨h3, r_isLine (d := d + 5) hS.2.1.1 h1 h3 (fun _ => ⟨fun _ => h, fun c1 => ⟨fun c2 => absurd ⟨bI_of c, bI_of c1, c2⟩ hn, fun _ => h⟩⟩)⟩⟩)⟩)
theorem r_swap1 {s p q : Int} (hS : RpR M pg z A n T I Ai ni rd RK) (ok : OkT A n T) (h1 : rg s) (h2 : rg p) (h3 : rg q) (hy : isLn n s p ∧ isLn n s q ∧ p ≠ q) (h : ∀ M', RpR M' pg z (swpA A s p q) n T I Ai ni rd RK0 → (∀ k, k < 88 → M' k = M k) → Q (SCR (swpA A s p q) n).length M') : MetI g mX9_swap (d + 8) [vR 88, vI s, vI p, vI q] M Q := by
  obtain ⟨t1, t2, t3, t4, t5, t6⟩ := hS.2.1
  obtain ⟨y1, y2, y3⟩ := hy
  have bs := t1.bd y1.1
  have hs := y1.1
  have p1 := y1.2
  have q1 := y2.2
  refine en_X9_swap (sg_X9_swap_0 ⟨h1, h2, r_isLine (d := d + 5) t1 h1 h2 (fun _ => ⟨fun c => absurd y1 (bI_not c), fun _ => ⟨h3, r_isLine (d := d + 5) t1 h1 h3 (fun _ => ⟨fun c => absurd y2 (bI_not c), fun _ => ⟨fun _ => ⟨⟨by omega, by omega⟩, ⟨by omega, by omega⟩, ?_⟩, fun c => absurd c y3⟩⟩)⟩⟩)⟩)
  rw [t1.2.2.2.2 s p hs p1.1 p1.2, t1.2.2.2.2 s q hs q1.1 q1.2]
  have k2 : ∀ k, k ≠ 92 → (mU (mU M 92 (16 * s + p).toNat (A s q)) 92 (16 * s + q).toNat (A s p)) k = M k := fun k hk => by rw [mU_ne hk, mU_ne hk]
  have l1 : LAr (mU (mU M 92 (16 * s + p).toNat (A s q)) 92 (16 * s + q).toNat (A s p)) (swpA A s p q) n := by
    refine LAr_of t1.2.2.1 t1.2.2.2.1 (fun t ht => by rw [k2 93 (by decide)]; exact t1.sz ht) (fun t i ht i0 i1 i8 => ?_)
    unfold swpA
    by_cases e : t = s ∧ i = p
    · rw [if_pos e, e.1, e.2, mU_nej (by omega), mU_at]
    · rw [if_neg e]
      by_cases e2 : t = s ∧ i = q
      · rw [if_pos e2, e2.1, e2.2, mU_at]
      · rw [if_neg e2, mU_nej (by omega), mU_nej (by omega)]
        exact t1.2.2.2.2 t i ht i0 i1
  refine r_lay (T := T) l1 (okA.swp ok.1) (by rw [k2 88 (by decide)]; exact t5) (fun M2 j1 j2 j3 => ?_)
  rw [j1.2.2.1.1]
  refine h M2 (RpR.anew (hS.1.same (by rw [k2 88 (by decide)]) (k2 89 (by decide))) (hS.2.2.1.same (fun k hk => k2 k (by omega)) (fun j _ => by rw [k2 88 (by decide)])) j1 j2 j3) (fun k hk => ?_)
  rw [j3.1 k (by omega) (by omega), k2 k (by omega)]
theorem c_turn0 (hS : RpC M pg z A n T I Ai ni rd RK RN) (hn : T = 0) (h : Q (-103) M) : MetI g mX8_turn (d + 24) [vR 0] M Q := by
  refine en_X8_turn (sg_X8_turn_0 ?_)
  rw [hS.2.1.2.2.2.2.1]
  exact ⟨fun c => absurd hn c, fun _ => h⟩
theorem c_turn1 (hS : RpC M pg z A n T I Ai ni rd RK RN) (ok : OkT A n T) (hy : T = 1) (h : ∀ M', RpC M' pg z (excA A) (excN n) T I Ai ni rd RK0 RN0 → (∀ k, 88 ≤ k → M' k = M k) → Q (SCR (excA A) (excN n)).length M') : MetI g mX8_turn (d + 24) [vR 0] M Q := by
  obtain ⟨t1, t2, t3, t4, t5, t6⟩ := hS.2.1
  refine en_X8_turn (sg_X8_turn_0 ?_)
  rw [t5]
  refine ⟨fun _ => c_exchangeSides (d := d + 22) isSides_5 ?_, fun c => by omega⟩
  have fr : ∀ k, (k < 7 ∨ 9 < k) → sExc M 5 k = M k := sExc_fr (M := M) (o := 4)
  have l1 : LAm (sExc M 5) 4 (excA A) (excN n) := t1.exc
  refine c_anew l1 (okA.exc ok.1) (by rw [fr 0 (by omega)]; exact t5) (fun M2 k1 k2 k3 _ => h M2 (RpC.anew (hS.1.same (fr 1 (by omega)) (fr 2 (by omega))) (hS.2.2.1.same (fun k hk => fr k (by omega))) k1 k2 k3) (fun k hk => ?_))
  rw [k3 k (by omega), fr k (by omega)]
theorem r_turn0 (hS : RpR M pg z A n T I Ai ni rd RK) (hn : T = 0) (h : Q (-103) M) : MetI g mX9_turn (d + 8) [vR 88] M Q := by
  refine en_X9_turn (sg_X9_turn_0 ?_)
  rw [hS.2.1.2.2.2.2.1]
  exact ⟨fun c => absurd hn c, fun _ => h⟩
theorem r_turn1 (hS : RpR M pg z A n T I Ai ni rd RK) (ok : OkT A n T) (hy : T = 1) (h : ∀ M', RpR M' pg z (excA A) (excN n) T I Ai ni rd RK0 → (∀ k, k < 88 → M' k = M k) → Q (SCR (excA A) (excN n)).length M') : MetI g mX9_turn (d + 8) [vR 88] M Q := by
  obtain ⟨t1, t2, t3, t4, t5, t6⟩ := hS.2.1
  have loop : ∀ (m : Nat) (l : Int) (M1 : AM), l + m = 8 → 0 ≤ l → (∀ i : Int, 0 ≤ i → i < 8 → M1 92 i.toNat = (if i < l then M 92 (16 + i).toNat else M 92 i.toNat) ∧ M1 92 (16 + i).toNat = (if i < l then M 92 i.toNat else M 92 (16 + i).toNat)) → (∀ k, k ≠ 92 → M1 k = M k) → S_X9_turn_12 g (d + 8) l M1 Q := by
    intro m
    induction m with
    | zero =>
      intro l M1 hm l0 hM gF
      refine sg_X9_turn_12 ⟨⟨by omega, by omega⟩, fun _ => ?_, fun w => by omega⟩
      rw [gF 93 (by decide), t1.1, t1.2.1]
      have k2 : ∀ k, k ≠ 92 → k ≠ 93 → (mU (mU M1 93 0 (n 1)) 93 1 (n 0)) k = M k := fun k a b => by rw [mU_ne b, mU_ne b]; exact gF k a
      have l1 : LAr (mU (mU M1 93 0 (n 1)) 93 1 (n 0)) (excA A) (excN n) := by
        refine LAr_of t1.2.2.2.1 t1.2.2.1 (fun t ht => ?_) (fun t i ht i0 i1 i8 => ?_)
        · rcases ht with rfl | rfl
          · rw [show ((0 : Int)).toNat = 0 by decide, mU_nej (by decide), mU_at]; rfl
          · rw [show ((1 : Int)).toNat = 1 by decide, mU_at]; rfl
        · rw [mU_ne (by decide), mU_ne (by decide)]
          obtain ⟨a1, a2⟩ := hM i i0 i8
          rcases ht with rfl | rfl
          · rw [show (16 : Int) * 0 + i = i by omega, a1, if_pos (by omega)]
            exact t1.2.2.2.2 1 i (Or.inr rfl) i0 i1
          · rw [show (16 : Int) * 1 + i = 16 + i by omega, a2, if_pos (by omega)]
            have := t1.2.2.2.2 0 i (Or.inl rfl) i0 i1
            rwa [show (16 : Int) * 0 + i = i by omega] at this
      refine r_lay (T := T) l1 (okA.exc ok.1) (by rw [k2 88 (by decide) (by decide)]; exact t5) (fun M2 j1 j2 j3 => ?_)
      rw [j1.2.2.1.1]
      refine h M2 (RpR.anew (hS.1.same (by rw [k2 88 (by decide) (by decide)]) (k2 89 (by decide) (by decide))) (hS.2.2.1.same (fun k hk => k2 k (by omega) (by omega)) (fun j _ => by rw [k2 88 (by decide) (by decide)])) j1 j2 j3) (fun k hk => ?_)
      rw [j3.1 k (by omega) (by omega), k2 k (by omega) (by omega)]
    | succ m ih =>
      intro l M1 hm l0 hM gF
      refine sg_X9_turn_12 ⟨⟨by omega, by omega⟩, fun w => by omega, fun _ => ⟨⟨by omega, by omega⟩, ⟨by omega, by omega⟩, ?_⟩⟩
      obtain ⟨a1, a2⟩ := hM l l0 (by omega)
      rw [if_neg (by omega)] at a1 a2
      refine ih (l + 1) _ (by omega) (by omega) (fun i i0 i8 => ?_) (fun k hk => by rw [mU_ne hk, mU_ne hk]; exact gF k hk)
      obtain ⟨c1, c2⟩ := hM i i0 i8
      by_cases e : i = l
      · subst e
        rw [if_pos (by omega), if_pos (by omega), mU_nej (by omega), mU_at, mU_at, a1, a2]
        exact ⟨rfl, rfl⟩
      · rw [mU_nej (by omega), mU_nej (by omega), mU_nej (by omega), mU_nej (by omega), c1, c2]
        by_cases e2 : i < l
        · rw [if_pos e2, if_pos e2, if_pos (by omega), if_pos (by omega)]
          exact ⟨rfl, rfl⟩
        · rw [if_neg e2, if_neg e2, if_neg (by omega), if_neg (by omega)]
          exact ⟨rfl, rfl⟩
  refine en_X9_turn (sg_X9_turn_0 ?_)
  rw [t5]
  refine ⟨fun _ => loop 8 0 M (by decide) (by decide) (fun i i0 i8 => ?_) (fun _ _ => rfl), fun c => by omega⟩
  rw [if_neg (by omega), if_neg (by omega)]
  exact ⟨rfl, rfl⟩
theorem c_image0 (hS : RpC M pg z A n T I Ai ni rd RK RN) (hn : T = 0) (h : Q (-103) M) : MetI g mX8_image (d + 2) [vR 0] M Q := by
  refine en_X8_image (sg_X8_image_0 ?_)
  rw [hS.2.1.2.2.2.2.1]
  exact ⟨fun c => absurd hn c, fun _ => h⟩
theorem c_image1 (hS : RpC M pg z A n T I Ai ni rd RK RN) (hy : T = 1) (h : ∀ M', RpC M' pg z A n T 1 A n rd RK RN → (∀ k, 88 ≤ k → M' k = M k) → Q (n 0 + n 1) M') : MetI g mX8_image (d + 2) [vR 0] M Q := by
  obtain ⟨t1, t2, t3, t4, t5, t6⟩ := hS.2.1
  refine en_X8_image (sg_X8_image_0 ?_)
  rw [t5]
  refine ⟨fun _ => c_copyFrom (d := d) isSides_52 isSides_5 (by omega) ?_, fun c => by omega⟩
  have fr : ∀ k, (k < 54 ∨ 56 < k) → sCpy M 52 5 k = M k := sCpy_fr (M := M) (o := 51) (o2 := 4)
  have l1 : LAm (sCpy M 52 5) 51 A n := LAm.cpy (o := 51) t1
  have l4 : LAm (mU (sCpy M 52 5) 0 9 1) 4 A n := t1.same (fun k a b => by rw [mU_ne (by omega)]; exact fr k (by omega))
  refine c_totalL (d := d) isMatch_4 l4 (fun _ => h _ ⟨?_, ⟨l4, ?_, ?_, ?_, ?_, ?_⟩, ⟨mU_at, fun _ => l1.same (fun k a b => mU_ne (by omega)), ?_⟩, ?_⟩ (fun k hk => ?_))
  · exact hS.1.same (by rw [mU_ne (by decide)]; exact fr 1 (by omega)) (by rw [mU_ne (by decide)]; exact fr 2 (by omega))
  · intro s i L
    have := L.1
    rw [mU_ne (by omega), fr _ (by omega)]
    exact t2 s i L
  · exact t3.same (fun k a b => by rw [mU_ne (by omega)]; exact fr k (by omega))
  · intro s i L
    have := L.1
    rw [mU_ne (by omega), fr _ (by omega)]
    exact t4 s i L
  · rw [mU_nej (by decide), fr 0 (by omega)]
    exact t5
  · rw [mU_ne (by decide), fr 4 (by omega)]
    exact t6
  · rw [mU_nej (by decide), fr 0 (by omega)]
    exact hS.2.2.1.2.2
  · exact hS.2.2.2.same (fun k a b => by rw [mU_ne (by omega)]; exact fr k (by omega))
  · rw [mU_ne (by omega)]
    exact fr k (by omega)
theorem r_image0 (hS : RpR M pg z A n T I Ai ni rd RK) (hn : T = 0) (h : Q (-103) M) : MetI g mX9_image (d + 2) [vR 88] M Q := by
  refine en_X9_image (sg_X9_image_0 ?_)
  rw [hS.2.1.2.2.2.2.1]
  exact ⟨fun c => absurd hn c, fun _ => h⟩
theorem r_image1 (hS : RpR M pg z A n T I Ai ni rd RK) (hy : T = 1) (h : ∀ M', RpR M' pg z A n T 1 A n rd RK → (∀ k, k < 88 → M' k = M k) → Q (n 0 + n 1) M') : MetI g mX9_image (d + 2) [vR 88] M Q := by
  obtain ⟨t1, t2, t3, t4, t5, t6⟩ := hS.2.1
  have b0 := t1.2.2.1
  have b1 := t1.2.2.2.1
  refine en_X9_image (sg_X9_image_0 ?_)
  rw [t5]
  refine ⟨fun _ => r_copy (n1 := 32) (n2 := 32) rfl rfl (by decide) (by decide) (by decide) (fun M1 a1 _ a3 => r_copy (n1 := 2) (n2 := 2) rfl rfl (by decide) (by decide) (by decide) (fun M2 c1 _ c3 => ?_)), fun c => by omega⟩
  have fr : ∀ k, k ≠ 106 → k ≠ 107 → M2 k = M k := fun k x y => by rw [c3 k y, a3 k x]
  have q : LAq M2 106 107 A n := LAq.cpy (show LAq M 92 93 A n from t1) (fun k hk => by rw [c3 106 (by decide)]; exact a1 k hk) (fun k hk => by rw [c1 k hk, a3 93 (by decide)])
  rw [fr 93 (by decide) (by decide), t1.1, t1.2.1, fr 88 (by decide) (by decide), hS.2.2.1.1]
  refine ⟨⟨by omega, by omega⟩, h _ ⟨?_, ?_, ⟨?_, ?_, ?_, ?_⟩, ?_⟩ (fun k hk => ?_)⟩
  · exact hS.1.same (by rw [mU_nej (by decide), fr 88 (by decide) (by decide)]) (by rw [mU_ne (by decide)]; exact fr 89 (by decide) (by decide))
  · exact hS.2.1.same (fun k hk => by rw [mU_ne (by omega)]; exact fr k (by omega) (by omega)) (fun j hj => by rw [mU_nej (by omega), fr 88 (by decide) (by decide)])
  · rw [mU_nej (by decide), fr 88 (by decide) (by decide)]
    exact hS.2.2.1.1
  · rw [mU_at]
    exact Int.le_refl _
  · rw [mU_at]
    exact ⟨fun _ => rfl, fun _ => rfl⟩
  · intro _
    exact q.same (mU_ne (by decide)) (mU_ne (by decide))
  · exact hS.2.2.2.same (by rw [mU_ne (by decide)]; exact fr 103 (by decide) (by decide))
  · rw [mU_ne (by omega)]
    exact fr k (by omega) (by omega)
theorem c_restore0 (hS : RpC M pg z A n T I Ai ni rd RK RN) (hn : I = 0) (h : Q (-103) M) : MetI g mX8_restore (d + 24) [vR 0] M Q := by
  refine en_X8_restore (sg_X8_restore_0 ?_)
  rw [hS.2.2.1.1]
  exact ⟨fun c => absurd hn c, fun _ => h⟩
theorem c_restore1 (hS : RpC M pg z A n T I Ai ni rd RK RN) (okI : OkI T I Ai) (hy : I = 1) (h : ∀ M', RpC M' pg z Ai ni T I Ai ni rd RK0 RN0 → (∀ k, 88 ≤ k → M' k = M k) → Q (ni 0 + ni 1) M') : MetI g mX8_restore (d + 24) [vR 0] M Q := by
  obtain ⟨t1, t2, t3, t4, t5, t6⟩ := hS.2.1
  refine en_X8_restore (sg_X8_restore_0 ?_)
  rw [hS.2.2.1.1]
  refine ⟨fun _ => c_copyFrom (d := d + 22) isSides_5 isSides_52 (by omega) ?_, fun c => by omega⟩
  have fr : ∀ k, (k < 7 ∨ 9 < k) → sCpy M 5 52 k = M k := sCpy_fr (M := M) (o := 4) (o2 := 51)
  have l1 : LAm (sCpy M 5 52) 4 Ai ni := LAm.cpy (o := 4) (hS.2.2.1.2.1 hy)
  refine c_anew l1 okI.2.2 (by rw [fr 0 (by omega)]; exact t5) (fun M2 k1 k2 k3 _ => c_totalL (d := d + 22) isMatch_4 k1.1 (fun _ => h M2 (RpC.anew (hS.1.same (fr 1 (by omega)) (fr 2 (by omega))) (hS.2.2.1.same (fun k hk => fr k (by omega))) k1 k2 k3) (fun k hk => ?_)))
  rw [k3 k (by omega), fr k (by omega)]
theorem r_restore0 (hS : RpR M pg z A n T I Ai ni rd RK) (hn : I = 0) (h : Q (-103) M) : MetI g mX9_restore (d + 8) [vR 88] M Q := by
  obtain ⟨i1, i2, i3, i4⟩ := hS.2.2.1
  refine en_X9_restore (sg_X9_restore_0 ?_)
  rw [i1]
  exact ⟨fun c => by have := i3.mp c; omega, fun _ => h⟩
theorem r_restore1 (hS : RpR M pg z A n T I Ai ni rd RK) (okI : OkI T I Ai) (hy : I = 1) (h : ∀ M', RpR M' pg z Ai ni T I Ai ni rd RK0 → (∀ k, k < 88 → M' k = M k) → Q (ni 0 + ni 1) M') : MetI g mX9_restore (d + 8) [vR 88] M Q := by
  obtain ⟨t1, t2, t3, t4, t5, t6⟩ := hS.2.1
  obtain ⟨i1, i2, i3, i4⟩ := hS.2.2.1
  have q := i4 hy
  have b0 := q.2.2.1
  have b1 := q.2.2.2.1
  refine en_X9_restore (sg_X9_restore_0 ?_)
  rw [i1]
  refine ⟨fun _ => r_copy (d := d + 6) (n1 := 32) (n2 := 32) rfl rfl (by decide) (by decide) (by decide) (fun M1 a1 _ a3 => r_copy (d := d + 6) (n1 := 2) (n2 := 2) rfl rfl (by decide) (by decide) (by decide) (fun M2 c1 _ c3 => ?_)), fun c => absurd (i3.mpr hy) c⟩
  have fr : ∀ k, k ≠ 92 → k ≠ 93 → M2 k = M k := fun k x y => by rw [c3 k y, a3 k x]
  have q2 : LAr M2 Ai ni := LAq.cpy (a' := 92) (b' := 93) q (fun k hk => by rw [c3 92 (by decide)]; exact a1 k hk) (fun k hk => by rw [c1 k hk, a3 107 (by decide)])
  refine r_lay (T := T) q2 okI.2.2 (by rw [fr 88 (by decide) (by decide)]; exact t5) (fun M3 j1 j2 j3 => ?_)
  rw [j1.1.1, j1.1.2.1]
  refine ⟨⟨by omega, by omega⟩, h M3 (RpR.anew (hS.1.same (by rw [fr 88 (by decide) (by decide)]) (fr 89 (by decide) (by decide))) (hS.2.2.1.same (fun k hk => fr k (by omega) (by omega)) (fun j _ => by rw [fr 88 (by decide) (by decide)])) j1 j2 j3) (fun k hk => ?_)⟩
  rw [j3.1 k (by omega) (by omega), fr k (by omega) (by omega)]
end CALLS
