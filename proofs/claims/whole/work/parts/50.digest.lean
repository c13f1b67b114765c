/-! the digest, on both sides -/
def fo (F : Int → Int → Int) : Nat → Int → Int → Int
  | 0, _, h => h
  | m + 1, i, h => fo F m (i + 1) (F i h)
theorem fo_s (F : Int → Int → Int) (m : Nat) (i h : Int) : fo F (m + 1) i h = fo F m (i + 1) (F i h) := rfl
def dgW (A : LF) (n : Int → Int) (s i : Int) : Int → Int := fo (fun w h => 31 * h + aLine A n s i w) 6 0
def dgI (A : LF) (n : Int → Int) (s : Int) : Int → Int := fo (fun i h => dgW A n s i h) (n s).toNat 0
def dgK (L : List St) (i : Int) : Int → Int := fo (fun w h => 31 * h + aStep L i w) 5 0
def dgS (L : List St) : Int → Int := fo (fun i h => dgK L i h) L.length 0
def dgT (A : LF) (n : Int → Int) (h : Int) : Int := 31 * fo (fun w h => 31 * h + aCost A n w) 5 0 h + aAll A n
def dgJ (RK : LF) (k : Int) : Int → Int := fo (fun j h => 31 * h + aRkd RK k j) 3 0
def dgR (RK : LF) : Int → Int := fo (fun k h => dgJ RK k h) 5 0
def dgP (pg : Int → Int) (z : Int) : Int → Int := fo (fun k h => 31 * h + pg k) z.toNat 0
def dgC (z : Int) (A : LF) (n RN : Int → Int) (rd : Int) : Int → Int := fo (fun w h => 31 * h + aCnt z A n RN rd w) 11 0
def dg0 (A : LF) (n : Int → Int) : Int := dgS (SCR A n) (dgI A n 1 (dgI A n 0 1409))
def aDig (pg : Int → Int) (z : Int) (A : LF) (n : Int → Int) (T rd : Int) (RK : LF) (RN : Int → Int) : Int := dgC z A n RN rd (dgP pg z (dgR RK (if T = 1 then dgT A n (dg0 A n) else dg0 A n)))
section DIGEST
variable {g : AG} {d : Nat} {M : AM} {pg : Int → Int} {z : Int} {A Ai RK : LF} {n ni RN : Int → Int} {T I rd : Int} {Q : Int → AM → Prop}
theorem c_digestOfLines {h0 : Int} (hT : TxC M A n T) (ok : OkT A n T) (h : Q (dgI A n 1 (dgI A n 0 h0)) M) : MetL g mX8_digestOfLines (d + 4) [vR 0, vL h0] M Q := by
  have t1 := hT.1
  have lw : ∀ (s i : Int) (hx : Int), isLn n s i → S_X8_digestOfLines_14 g (d + 4) hx s (i + 1) M Q → ∀ (m : Nat) (w h1 : Int), w + m = 6 → 0 ≤ w → fo (fun w h => 31 * h + aLine A n s i w) m w h1 = hx → S_X8_digestOfLines_32 g (d + 4) h1 s i w M Q := by
    intro s i hx L nx m
    have i8 := isLn_r t1.2.2.1 t1.2.2.2.1 L
    have hs := L.1
    have hi := L.2.1
    induction m with
    | zero =>
      intro w h1 hm w0 e
      have e : h1 = hx := e
      subst e
      exact sg_X8_digestOfLines_32 ⟨⟨by omega, by omega⟩, fun _ => nx, fun q => by omega⟩
    | succ m ih =>
      intro w h1 hm w0 e
      rw [fo_s] at e
      refine sg_X8_digestOfLines_32 ⟨⟨by omega, by omega⟩, fun q => by omega, fun _ => ⟨⟨by omega, by omega⟩, ⟨by omega, by omega⟩, c_line (d := d) hT ok ⟨by omega, by omega⟩ ⟨by omega, by omega⟩ ⟨by omega, by omega⟩ (fun _ => ?_)⟩⟩
      rw [cI_t L]
      exact ih (w + 1) _ (by omega) (by omega) e
  have li : ∀ (s : Int) (hx : Int), (s = 0 ∨ s = 1) → S_X8_digestOfLines_5 g (d + 4) hx (s + 1) M Q → ∀ (m : Nat) (i h1 : Int), i + m = n s → 0 ≤ i → fo (fun i h => dgW A n s i h) m i h1 = hx → S_X8_digestOfLines_14 g (d + 4) h1 s i M Q := by
    intro s hx hs nx m
    have es : M 9 s.toNat = n s := t1.sz hs
    have bs := t1.bd hs
    induction m with
    | zero =>
      intro i h1 hm i0 e
      have e : h1 = hx := e
      subst e
      refine sg_X8_digestOfLines_14 ?_
      rw [es]
      exact ⟨⟨by omega, by omega⟩, ⟨by omega, by omega⟩, fun _ => nx, fun q => by omega⟩
    | succ m ih =>
      intro i h1 hm i0 e
      rw [fo_s] at e
      refine sg_X8_digestOfLines_14 ?_
      rw [es]
      refine ⟨⟨by omega, by omega⟩, ⟨by omega, by omega⟩, fun q => by omega, fun _ => ?_⟩
      exact lw s i _ ⟨hs, i0, by omega⟩ (ih (i + 1) _ (by omega) (by omega) e) 6 0 h1 (by decide) (by decide) rfl
  refine en_X8_digestOfLines (sg_X8_digestOfLines_0 (sg_X8_digestOfLines_5 ⟨⟨by decide, by decide⟩, fun q => absurd q (by decide), fun _ => ?_⟩))
  refine li 0 _ (Or.inl rfl) ?_ (n 0).toNat 0 h0 (by have := t1.2.2.1; omega) (by decide) rfl
  refine sg_X8_digestOfLines_5 ⟨⟨by decide, by decide⟩, fun q => absurd q (by decide), fun _ => ?_⟩
  refine li 1 _ (Or.inr rfl) ?_ (n 1).toNat 0 _ (by have := t1.2.2.2.1; omega) (by decide) rfl
  exact sg_X8_digestOfLines_5 ⟨⟨by decide, by decide⟩, fun _ => h, fun q => absurd (by decide) q⟩
theorem c_digestOfScript {h0 : Int} (hT : TxC M A n T) (h : Q (dgS (SCR A n) h0) M) : MetL g mX8_digestOfScript (d + 3) [vR 0, vL h0] M Q := by
  have t1 := hT.1
  have e6 : M 71 6 = (SCR A n).length := hT.2.2.1.1
  have l16 := SCR_len (A := A) t1.2.2.1 t1.2.2.2.1
  have lw : ∀ (i : Int) (hx : Int), isSt (SCR A n) i → S_X8_digestOfScript_5 g (d + 3) hx (i + 1) M Q → ∀ (m : Nat) (w h1 : Int), w + m = 5 → 0 ≤ w → fo (fun w h => 31 * h + aStep (SCR A n) i w) m w h1 = hx → S_X8_digestOfScript_20 g (d + 3) h1 i w M Q := by
    intro i hx L nx m
    have L0 := L.1
    have L1 := L.2
    induction m with
    | zero =>
      intro w h1 hm w0 e
      have e : h1 = hx := e
      subst e
      exact sg_X8_digestOfScript_20 ⟨⟨by omega, by omega⟩, fun _ => nx, fun q => by omega⟩
    | succ m ih =>
      intro w h1 hm w0 e
      rw [fo_s] at e
      refine sg_X8_digestOfScript_20 ⟨⟨by omega, by omega⟩, fun q => by omega, fun _ => ⟨⟨by omega, by omega⟩, c_step (d := d) hT ⟨by omega, by omega⟩ ⟨by omega, by omega⟩ (fun _ => ?_)⟩⟩
      rw [cI_t L]
      exact ih (w + 1) _ (by omega) (by omega) e
  have li : ∀ (m : Nat) (i h1 : Int), i + m = (SCR A n).length → 0 ≤ i → fo (fun i h => dgK (SCR A n) i h) m i h1 = dgS (SCR A n) h0 → S_X8_digestOfScript_5 g (d + 3) h1 i M Q := by
    intro m
    induction m with
    | zero =>
      intro i h1 hm i0 e
      have e : h1 = dgS (SCR A n) h0 := e
      rw [e]
      refine sg_X8_digestOfScript_5 ?_
      rw [e6]
      exact ⟨⟨by omega, by omega⟩, fun _ => h, fun q => by omega⟩
    | succ m ih =>
      intro i h1 hm i0 e
      rw [fo_s] at e
      refine sg_X8_digestOfScript_5 ?_
      rw [e6]
      refine ⟨⟨by omega, by omega⟩, fun q => by omega, fun _ => ?_⟩
      exact lw i _ ⟨i0, by omega⟩ (ih (i + 1) _ (by omega) (by omega) e) 5 0 h1 (by decide) (by decide) rfl
  exact en_X8_digestOfScript (sg_X8_digestOfScript_0 (li (SCR A n).length 0 h0 (by omega) (by decide) rfl))
theorem c_digest (hS : RpC M pg z A n T I Ai ni rd RK RN) (ok : OkT A n T) (okK : OkK RK RN) (h : ∀ M', KpC M M' → Q (aDig pg z A n T rd RK RN) M') : MetL g mX8_digest (d + 5) [vR 0] M Q := by
  have pb := hS.1.2.1
  have lc : ∀ (m : Nat) (w h1 : Int) (M1 : AM), KpC M M1 → w + m = 11 → 0 ≤ w → fo (fun w h => 31 * h + aCnt z A n RN rd w) m w h1 = aDig pg z A n T rd RK RN → S_X8_digest_137 g (d + 5) h1 w M1 Q := by
    intro m
    induction m with
    | zero =>
      intro w h1 M1 kp hm w0 e
      have e : h1 = aDig pg z A n T rd RK RN := e
      rw [e]
      exact sg_X8_digest_137 ⟨⟨by omega, by omega⟩, fun _ => h M1 kp, fun q => by omega⟩
    | succ m ih =>
      intro w h1 M1 kp hm w0 e
      rw [fo_s] at e
      have s1 := hS.kp kp
      exact sg_X8_digest_137 ⟨⟨by omega, by omega⟩, fun q => by omega, fun _ => c_count (d := d + 2) s1.1 s1.2.1 s1.2.2.1 s1.2.2.2 okK ⟨by omega, by omega⟩ (fun _ => ih (w + 1) _ M1 kp (by omega) (by omega) e)⟩
  have lp : ∀ (m : Nat) (k h1 : Int) (M1 : AM), KpC M M1 → k + m = z → 0 ≤ k → dgC z A n RN rd (fo (fun k h => 31 * h + pg k) m k h1) = aDig pg z A n T rd RK RN → S_X8_digest_101 g (d + 5) h1 k M1 Q := by
    intro m
    induction m with
    | zero =>
      intro k h1 M1 kp hm k0 e
      have s1 := hS.kp kp
      refine sg_X8_digest_101 ?_
      rw [s1.1.1]
      exact ⟨⟨by omega, by omega⟩, fun _ => lc 11 0 h1 M1 kp (by decide) (by decide) e, fun q => by omega⟩
    | succ m ih =>
      intro k h1 M1 kp hm k0 e
      rw [fo_s] at e
      have s1 := hS.kp kp
      refine sg_X8_digest_101 ?_
      rw [s1.1.1, (s1.1.2.2 k k0 (by omega)).1]
      exact ⟨⟨by omega, by omega⟩, fun q => by omega, fun _ => ⟨⟨by omega, by omega⟩, ih (k + 1) _ M1 kp (by omega) (by omega) e⟩⟩
  have lj : ∀ (k hx : Int) (M1 : AM), KpC M M1 → 0 ≤ k ∧ k < 5 → S_X8_digest_58 g (d + 5) hx (k + 1) M1 Q → ∀ (m : Nat) (j h1 : Int), j + m = 3 → 0 ≤ j → fo (fun j h => 31 * h + aRkd RK k j) m j h1 = hx → S_X8_digest_66 g (d + 5) h1 k j M1 Q := by
    intro k hx M1 kp hk nx m
    induction m with
    | zero =>
      intro j h1 hm j0 e
      have e : h1 = hx := e
      subst e
      exact sg_X8_digest_66 ⟨⟨by omega, by omega⟩, fun _ => nx, fun q => by omega⟩
    | succ m ih =>
      intro j h1 hm j0 e
      rw [fo_s] at e
      exact sg_X8_digest_66 ⟨⟨by omega, by omega⟩, fun q => by omega, fun _ => ⟨⟨by omega, by omega⟩, c_racked (d := d + 3) (hS.kp kp).2.2.2 okK ⟨by omega, by omega⟩ ⟨by omega, by omega⟩ (fun _ => ih (j + 1) _ (by omega) (by omega) e)⟩⟩
  have lr : ∀ (m : Nat) (k h1 : Int) (M1 : AM), KpC M M1 → k + m = 5 → 0 ≤ k → dgC z A n RN rd (dgP pg z (fo (fun k h => dgJ RK k h) m k h1)) = aDig pg z A n T rd RK RN → S_X8_digest_58 g (d + 5) h1 k M1 Q := by
    intro m
    induction m with
    | zero =>
      intro k h1 M1 kp hm k0 e
      exact sg_X8_digest_58 ⟨⟨by omega, by omega⟩, fun _ => lp z.toNat 0 h1 M1 kp (by omega) (by decide) e, fun q => by omega⟩
    | succ m ih =>
      intro k h1 M1 kp hm k0 e
      rw [fo_s] at e
      refine sg_X8_digest_58 ⟨⟨by omega, by omega⟩, fun q => by omega, fun _ => ?_⟩
      exact lj k _ M1 kp ⟨k0, by omega⟩ (ih (k + 1) _ M1 kp (by omega) (by omega) e) 3 0 h1 (by decide) (by decide) rfl
  have lt : T = 1 → ∀ (m : Nat) (w h1 : Int) (M1 : AM), KpC M M1 → w + m = 5 → 0 ≤ w → dgC z A n RN rd (dgP pg z (dgR RK (31 * fo (fun w h => 31 * h + aCost A n w) m w h1 + aAll A n))) = aDig pg z A n T rd RK RN → S_X8_digest_21 g (d + 5) h1 w M1 Q := by
    intro T1 m
    induction m with
    | zero =>
      intro w h1 M1 kp hm w0 e
      refine sg_X8_digest_21 ⟨⟨by omega, by omega⟩, fun _ => c_all (d := d + 2) (hS.kp kp).2.1 ok ?_, fun q => by omega⟩
      rw [cI_t T1]
      exact lr 5 0 _ M1 kp (by decide) (by decide) e
    | succ m ih =>
      intro w h1 M1 kp hm w0 e
      rw [fo_s] at e
      refine sg_X8_digest_21 ⟨⟨by omega, by omega⟩, fun q => by omega, fun _ => c_cost (d := d + 1) (hS.kp kp).2.1 ok ⟨by omega, by omega⟩ (fun M2 k2 _ => ?_)⟩
      unfold rCost
      rw [cI_t ⟨w0, by omega⟩, cI_t T1]
      exact ih (w + 1) _ M2 (kp.tr k2) (by omega) (by omega) e
  refine en_X8_digest (sg_X8_digest_0 (c_digestOfLines (d := d) hS.2.1 ok (c_digestOfScript (d := d + 1) hS.2.1 ?_)))
  rw [hS.2.1.2.2.2.2.1]
  refine ⟨fun c => lr 5 0 _ M (KpC.rf M) (by decide) (by decide) ?_, fun c => ?_⟩
  · unfold aDig
    rw [if_neg (by omega)]
    rfl
  · have T1 : T = 1 := by have := ok.2.1; omega
    refine lt T1 5 0 _ M (KpC.rf M) (by decide) (by decide) ?_
    unfold aDig
    rw [if_pos T1]
    rfl
/-! the reference -/
theorem r_say {h v : Int} {Q : AM → Prop} (e : M 88 32 = h) (k : ∀ M', KpR M M' → M' 88 32 = 31 * h + v → Q M') : MetV g mX9_say (d + 1) [vR 88, vL v] M Q := by
  refine en_X9_say (sg_X9_say_0 (k _ ⟨fun k a _ _ _ _ _ => mU_ne a, fun j _ _ _ _ _ a => mU_nej a⟩ ?_))
  rw [mU_at, e]
theorem r_sayText {h : Int} {Q : AM → Prop} (hT : TxR M A n T) (T1 : T = 1) (e : M 88 32 = h) (k : ∀ M', KpR M M' → M' 88 32 = dgT A n h → Q M') : MetV g mX9_sayText (d + 4) [vR 88] M Q := by
  have loop : ∀ (m : Nat) (w h1 : Int) (M1 : AM), KpR M M1 → M1 88 32 = h1 → w + m = 5 → 0 ≤ w → 31 * fo (fun w h => 31 * h + aCost A n w) m w h1 + aAll A n = dgT A n h → S_X9_sayText_2 g (d + 4) w M1 Q := by
    intro m
    induction m with
    | zero =>
      intro w h1 M1 kp e1 hm w0 e2
      refine sg_X9_sayText_2 ⟨⟨by omega, by omega⟩, fun _ => r_allOf (d := d + 1) (hT.kp kp) (r_say (d := d + 2) e1 (fun M2 k2 e3 => ?_)), fun q => by omega⟩
      refine k M2 (kp.tr k2) ?_
      rw [e3]
      exact e2
    | succ m ih =>
      intro w h1 M1 kp e1 hm w0 e2
      rw [fo_s] at e2
      refine sg_X9_sayText_2 ⟨⟨by omega, by omega⟩, fun q => by omega, fun _ => r_costOf (d := d) (hT.kp kp) T1 ⟨by omega, by omega⟩ (fun M2 k2 _ => r_say (d := d + 2) (h := h1) (by rw [k2 88 (by decide)]; exact e1) (fun M3 k3 e3 => ?_))⟩
      exact ih (w + 1) _ M3 ((kp.tr (KpR.of99 k2)).tr k3) e3 (by omega) (by omega) e2
  exact en_X9_sayText (sg_X9_sayText_0 (loop 5 0 h M (KpR.rf M) e (by decide) (by decide) rfl))
theorem r_digest (hS : RpR M pg z A n T I Ai ni rd RK) (ok : OkT A n T) (okK : OkK RK RN) (h : ∀ M', KpR M M' → Q (aDig pg z A n T rd RK RN) M') : MetL g mX9_digest (d + 5) [vR 88] M Q := by
  have pb := hS.1.2.1
  have t1 := hS.2.1.1
  have e22 := hS.2.1.2.2.1.1
  have l16 := SCR_len (A := A) t1.2.2.1 t1.2.2.2.1
  have lc : ∀ (m : Nat) (w h1 : Int) (M1 : AM), KpR M M1 → M1 88 32 = h1 → w + m = 11 → 0 ≤ w → fo (fun w h => 31 * h + aCnt z A n RN rd w) m w h1 = aDig pg z A n T rd RK RN → S_X9_digest_158 g (d + 5) w M1 Q := by
    intro m
    induction m with
    | zero =>
      intro w h1 M1 kp e1 hm w0 e
      have e : h1 = aDig pg z A n T rd RK RN := e
      refine sg_X9_digest_158 ⟨⟨by omega, by omega⟩, fun _ => ?_, fun q => by omega⟩
      rw [e1, e]
      exact h M1 kp
    | succ m ih =>
      intro w h1 M1 kp e1 hm w0 e
      rw [fo_s] at e
      have s1 := hS.kp kp
      exact sg_X9_digest_158 ⟨⟨by omega, by omega⟩, fun q => by omega, fun _ => r_countOf (d := d + 1) s1.1 s1.2.1 s1.2.2.1 s1.2.2.2 okK ⟨by omega, by omega⟩ (fun _ => r_say (d := d + 3) e1 (fun M2 k2 e2 => ih (w + 1) _ M2 (kp.tr k2) e2 (by omega) (by omega) e))⟩
  have lp : ∀ (m : Nat) (k h1 : Int) (M1 : AM), KpR M M1 → M1 88 32 = h1 → k + m = z → 0 ≤ k → dgC z A n RN rd (fo (fun k h => 31 * h + pg k) m k h1) = aDig pg z A n T rd RK RN → S_X9_digest_131 g (d + 5) k M1 Q := by
    intro m
    induction m with
    | zero =>
      intro k h1 M1 kp e1 hm k0 e
      have s1 := hS.kp kp
      refine sg_X9_digest_131 ?_
      rw [s1.1.1]
      exact ⟨⟨by omega, by omega⟩, fun _ => lc 11 0 h1 M1 kp e1 (by decide) (by decide) e, fun q => by omega⟩
    | succ m ih =>
      intro k h1 M1 kp e1 hm k0 e
      rw [fo_s] at e
      have s1 := hS.kp kp
      refine sg_X9_digest_131 ?_
      rw [s1.1.1, (s1.1.2.2 k k0 (by omega)).1]
      exact ⟨⟨by omega, by omega⟩, fun q => by omega, fun _ => ⟨⟨by omega, by omega⟩, r_say (d := d + 3) e1 (fun M2 k2 e2 => ih (k + 1) _ M2 (kp.tr k2) e2 (by omega) (by omega) e)⟩⟩
  have lj : ∀ (k hx : Int), 0 ≤ k ∧ k < 5 → (∀ M1, KpR M M1 → M1 88 32 = hx → S_X9_digest_106 g (d + 5) (3 * (k + 1)) M1 Q) → ∀ (m : Nat) (j h1 : Int) (M1 : AM), KpR M M1 → M1 88 32 = h1 → j + m = 3 → 0 ≤ j → fo (fun j h => 31 * h + aRkd RK k j) m j h1 = hx → S_X9_digest_106 g (d + 5) (3 * k + j) M1 Q := by
    intro k hx hk nx m
    induction m with
    | zero =>
      intro j h1 M1 kp e1 hm j0 e
      have e : h1 = hx := e
      have := nx M1 kp (by rw [e1, e])
      rwa [show 3 * (k + 1) = 3 * k + j by omega] at this
    | succ m ih =>
      intro j h1 M1 kp e1 hm j0 e
      rw [fo_s] at e
      refine sg_X9_digest_106 ⟨⟨by omega, by omega⟩, fun q => by omega, fun _ => ⟨⟨by omega, by omega⟩, ?_⟩⟩
      have ev : M1 103 (3 * k + j).toNat = aRkd RK k j := by
        rw [(hS.kp kp).2.2.2 k j hk.1 hk.2 j0 (by omega)]
        unfold aRkd
        rw [if_neg (by omega)]
      rw [ev]
      refine r_say (d := d + 3) e1 (fun M2 k2 e2 => ?_)
      have := ih (j + 1) _ M2 (kp.tr k2) e2 (by omega) (by omega) e
      rwa [show 3 * k + (j + 1) = 3 * k + j + 1 by omega] at this
  have lr : ∀ (m : Nat) (k h1 : Int) (M1 : AM), KpR M M1 → M1 88 32 = h1 → k + m = 5 → 0 ≤ k → dgC z A n RN rd (dgP pg z (fo (fun k h => dgJ RK k h) m k h1)) = aDig pg z A n T rd RK RN → S_X9_digest_106 g (d + 5) (3 * k) M1 Q := by
    intro m
    induction m with
    | zero =>
      intro k h1 M1 kp e1 hm k0 e
      exact sg_X9_digest_106 ⟨⟨by omega, by omega⟩, fun _ => lp z.toNat 0 h1 M1 kp e1 (by omega) (by decide) e, fun q => by omega⟩
    | succ m ih =>
      intro k h1 M1 kp e1 hm k0 e
      rw [fo_s] at e
      have := lj k _ ⟨k0, by omega⟩ (fun M2 k2 e2 => ih (k + 1) _ M2 k2 e2 (by omega) (by omega) e) 3 0 h1 M1 kp e1 (by decide) (by decide) rfl
      rwa [Int.add_zero] at this
  have lk : ∀ (i hx : Int), isSt (SCR A n) i → (∀ M1, KpR M M1 → M1 88 32 = hx → S_X9_digest_66 g (d + 5) (5 * (i + 1)) M1 Q) → ∀ (m : Nat) (w h1 : Int) (M1 : AM), KpR M M1 → M1 88 32 = h1 → w + m = 5 → 0 ≤ w → fo (fun w h => 31 * h + aStep (SCR A n) i w) m w h1 = hx → S_X9_digest_66 g (d + 5) (5 * i + w) M1 Q := by
    intro i hx L nx m
    have L0 := L.1
    have L1 := L.2
    induction m with
    | zero =>
      intro w h1 M1 kp e1 hm w0 e
      have e : h1 = hx := e
      have := nx M1 kp (by rw [e1, e])
      rwa [show 5 * (i + 1) = 5 * i + w by omega] at this
    | succ m ih =>
      intro w h1 M1 kp e1 hm w0 e
      rw [fo_s] at e
      have s1 := hS.kp kp
      obtain ⟨a1, a2, a3, a4, a5⟩ := s1.2.1.2.2.1.at L
      have ev : M1 101 (5 * i + w).toNat = aStep (SCR A n) i w := by
        unfold aStep stF
        rw [if_neg (by omega)]
        rcases (show w = 0 ∨ w = 1 ∨ w = 2 ∨ w = 3 ∨ w = 4 by omega) with rfl | rfl | rfl | rfl | rfl
        · rw [if_pos rfl, Int.add_zero, a1]
        · rw [if_neg (by decide), if_pos rfl, a2]
        · rw [if_neg (by decide), if_neg (by decide), if_pos rfl, a3]
        · rw [if_neg (by decide), if_neg (by decide), if_neg (by decide), if_pos rfl, a4]
        · rw [if_neg (by decide), if_neg (by decide), if_neg (by decide), if_neg (by decide), a5]
      refine sg_X9_digest_66 ?_
      rw [s1.2.1.2.2.1.1, ev]
      refine ⟨⟨by omega, by omega⟩, ⟨by omega, by omega⟩, fun q => by omega, fun _ => ⟨⟨by omega, by omega⟩, r_say (d := d + 3) e1 (fun M2 k2 e2 => ?_)⟩⟩
      have := ih (w + 1) _ M2 (kp.tr k2) e2 (by omega) (by omega) e
      rwa [show 5 * i + (w + 1) = 5 * i + w + 1 by omega] at this
  have ls : ∀ (m : Nat) (i h1 : Int) (M1 : AM), KpR M M1 → M1 88 32 = h1 → i + m = (SCR A n).length → 0 ≤ i → fo (fun i h => dgK (SCR A n) i h) m i h1 = dg0 A n → S_X9_digest_66 g (d + 5) (5 * i) M1 Q := by
    intro m
    induction m with
    | zero =>
      intro i h1 M1 kp e1 hm i0 e
      have e : h1 = dg0 A n := e
      have s1 := hS.kp kp
      refine sg_X9_digest_66 ?_
      rw [s1.2.1.2.2.1.1, s1.2.1.2.2.2.2.1]
      refine ⟨⟨by omega, by omega⟩, ⟨by omega, by omega⟩, fun _ => ⟨fun c => ?_, fun c => ?_⟩, fun q => by omega⟩
      · refine lr 5 0 h1 M1 kp e1 (by decide) (by decide) ?_
        unfold aDig
        rw [if_neg (by omega), e]
        rfl
      · have T1 : T = 1 := by have := ok.2.1; omega
        refine r_sayText (d := d) s1.2.1 T1 e1 (fun M2 k2 e2 => lr 5 0 _ M2 (kp.tr k2) e2 (by decide) (by decide) ?_)
        unfold aDig
        rw [if_pos T1, e]
        rfl
    | succ m ih =>
      intro i h1 M1 kp e1 hm i0 e
      rw [fo_s] at e
      have := lk i _ ⟨i0, by omega⟩ (fun M2 k2 e2 => ih (i + 1) _ M2 k2 e2 (by omega) (by omega) e) 5 0 h1 M1 kp e1 (by decide) (by decide) rfl
      rwa [Int.add_zero] at this
  have lw : ∀ (s i : Int) (hx : Int), isLn n s i → (∀ M1, KpR M M1 → M1 88 32 = hx → S_X9_digest_16 g (d + 5) s (i + 1) M1 Q) → ∀ (m : Nat) (w h1 : Int) (M1 : AM), KpR M M1 → M1 88 32 = h1 → w + m = 6 → 0 ≤ w → fo (fun w h => 31 * h + aLine A n s i w) m w h1 = hx → S_X9_digest_28 g (d + 5) s i w M1 Q := by
    intro s i hx L nx m
    have i8 := isLn_r t1.2.2.1 t1.2.2.2.1 L
    have hs := L.1
    have hi := L.2.1
    induction m with
    | zero =>
      intro w h1 M1 kp e1 hm w0 e
      have e : h1 = hx := e
      exact sg_X9_digest_28 ⟨⟨by omega, by omega⟩, fun _ => nx M1 kp (by rw [e1, e]), fun q => by omega⟩
    | succ m ih =>
      intro w h1 M1 kp e1 hm w0 e
      rw [fo_s] at e
      have s1 := hS.kp kp
      refine sg_X9_digest_28 ⟨⟨by omega, by omega⟩, fun q => by omega, fun _ => ⟨⟨by omega, by omega⟩, ⟨by omega, by omega⟩, r_tellLine (d := d + 1) s1.2.1 ok L ⟨by omega, by omega⟩ (fun _ => r_say (d := d + 3) e1 (fun M2 k2 e2 => ?_))⟩⟩
      exact ih (w + 1) _ M2 (kp.tr k2) e2 (by omega) (by omega) e
  have li : ∀ (s : Int) (hx : Int), (s = 0 ∨ s = 1) → (∀ M1, KpR M M1 → M1 88 32 = hx → S_X9_digest_9 g (d + 5) (s + 1) M1 Q) → ∀ (m : Nat) (i h1 : Int) (M1 : AM), KpR M M1 → M1 88 32 = h1 → i + m = n s → 0 ≤ i → fo (fun i h => dgW A n s i h) m i h1 = hx → S_X9_digest_16 g (d + 5) s i M1 Q := by
    intro s hx hs nx m
    have bs := t1.bd hs
    induction m with
    | zero =>
      intro i h1 M1 kp e1 hm i0 e
      have e : h1 = hx := e
      have es := (hS.kp kp).2.1.1.sz hs
      refine sg_X9_digest_16 ?_
      rw [es]
      exact ⟨⟨by omega, by omega⟩, ⟨by omega, by omega⟩, fun _ => nx M1 kp (by rw [e1, e]), fun q => by omega⟩
    | succ m ih =>
      intro i h1 M1 kp e1 hm i0 e
      rw [fo_s] at e
      have es := (hS.kp kp).2.1.1.sz hs
      refine sg_X9_digest_16 ?_
      rw [es]
      refine ⟨⟨by omega, by omega⟩, ⟨by omega, by omega⟩, fun q => by omega, fun _ => ?_⟩
      exact lw s i _ ⟨hs, i0, by omega⟩ (fun M2 k2 e2 => ih (i + 1) _ M2 k2 e2 (by omega) (by omega) e) 6 0 h1 M1 kp e1 (by decide) (by decide) rfl
  have k0 : KpR M (mU M 88 32 1409) := ⟨fun k a _ _ _ _ _ => mU_ne a, fun j _ _ _ _ _ a => mU_nej a⟩
  refine en_X9_digest (sg_X9_digest_0 (sg_X9_digest_9 ⟨⟨by decide, by decide⟩, fun q => absurd q (by decide), fun _ => ?_⟩))
  refine li 0 _ (Or.inl rfl) (fun M1 k1 e1 => ?_) (n 0).toNat 0 1409 _ k0 mU_at (by have := t1.2.2.1; omega) (by decide) rfl
  refine sg_X9_digest_9 ⟨⟨by decide, by decide⟩, fun q => absurd q (by decide), fun _ => ?_⟩
  refine li 1 _ (Or.inr rfl) (fun M2 k2 e2 => ?_) (n 1).toNat 0 _ M1 k1 e1 (by have := t1.2.2.2.1; omega) (by decide) rfl
  refine sg_X9_digest_9 ⟨⟨by decide, by decide⟩, fun _ => ?_, fun q => absurd (by decide) q⟩
  have := ls (SCR A n).length 0 _ M2 k2 e2 (by omega) (by decide) rfl
  rwa [show (5 : Int) * 0 = 0 by decide] at this
end DIGEST
