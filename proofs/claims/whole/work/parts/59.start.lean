/-! the law from its entry -/
theorem nest_on {w : Cond} (h : isNest w = true) : w.onTables = true := by
  cases w <;> simp [isNest] at h <;> rfl
set_option maxHeartbeats 4000000 in
theorem start_SF {s : State} {b L : Nat} {xs : Nat → Int32} (l : Launch) (hts : ∀ w ∈ lw_tbl, w.before #[Value.ref b] s = true) (hX : va_X b L xs s s.heap) (hbl : b < s.heap.size) (hgv : (Jvm.Cond.and given_1 narrow_1).before #[Value.ref b] s = true) : ∃ g : AG, gl g = l ∧ gs0 g = s.heap.size ∧ gLn g = L ∧ gad g 108 = b ∧ Ga g ∧ SF g s ∧ XF g s := by
  have htw : ∀ w ∈ WT, w.before #[Value.ref b] s = true := fun w hw => hts w (List.mem_filter.mp hw).1
  obtain ⟨c0, i0, K0⟩ := u_known (n := 1) htw cf_X0.2.1 (htw _ it_X0)
  obtain ⟨c1, i1, K1⟩ := u_known (n := 3) htw cf_X1.2.1 (htw _ it_X1)
  obtain ⟨c2, i2, K2⟩ := u_known (n := 9) htw cf_X2.2.1 (htw _ it_X2)
  obtain ⟨c3, i3, K3⟩ := u_known (n := 3) htw cf_X3.2.1 (htw _ it_X3)
  obtain ⟨c4, i4, K4⟩ := u_known (n := 2) htw cf_X4.2.1 (htw _ it_X4)
  obtain ⟨c5, i5, K5⟩ := u_known (n := 3) htw cf_X5.2.1 (htw _ it_X5)
  obtain ⟨c6, i6, K6⟩ := u_known (n := 8) htw cf_X6.2.1 (htw _ it_X6)
  obtain ⟨c7, i7, K7⟩ := u_known (n := 2) htw cf_X7.2.1 (htw _ it_X7)
  obtain ⟨c8, i8, K8⟩ := u_known (n := 11) htw cf_X8.2.1 (htw _ it_X8)
  obtain ⟨c9, i9, K9⟩ := u_known (n := 33) htw cf_X9.2.1 (htw _ it_X9)
  obtain ⟨comp, cA, kA, hcomp, -, hkA, hkindA, hnameA⟩ := arrayOverA_spec (hts (.arrayOver (.array .int)) (List.mem_append_right _ (List.mem_of_getElem? (i := 69) (by decide +kernel))))
  obtain ⟨comp', kC, cc, hcomp', hkC, hkindC⟩ := Cond.arrayClass_spec (htw _ wc_ar)
  have ecomp : comp' = comp := Option.some.inj (hcomp'.symm.trans hcomp)
  subst ecomp
  have hs := flat_of_before _ hgv
  have nA : ∀ a : Nat, a < s.heap.size → ¬ (fun q : Nat => s.heap.size ≤ q) a := fun a ha q => absurd ha (Nat.not_lt.mpr q)
  have harr : (Cond.arrayOf (.static "LineScript" "KIND_ABOVE" "[I") .int).before #[Value.ref b] s = true := hs _ (by decide +kernel)
  have hlen := va_eqt (t := .length (.static "LineScript" "KIND_ABOVE" "[I")) (z := 5) (hs _ (by decide +kernel))
  have e0 := va_eqt (t := .elem (.static "LineScript" "KIND_ABOVE" "[I") (.int 0)) (z := -1) (hs _ (by decide +kernel))
  have e1 := va_eqt (t := .elem (.static "LineScript" "KIND_ABOVE" "[I") (.int 1)) (z := 0) (hs _ (by decide +kernel))
  have e2 := va_eqt (t := .elem (.static "LineScript" "KIND_ABOVE" "[I") (.int 2)) (z := 0) (hs _ (by decide +kernel))
  have e3 := va_eqt (t := .elem (.static "LineScript" "KIND_ABOVE" "[I") (.int 3)) (z := 2) (hs _ (by decide +kernel))
  have e4 := va_eqt (t := .elem (.static "LineScript" "KIND_ABOVE" "[I") (.int 4)) (z := 3) (hs _ (by decide +kernel))
  obtain ⟨t, ht, hT⟩ := va_Tof (ty := .int) (N := 5) (f := kab) (A := fun q : Nat => s.heap.size ≤ q) (by decide) harr hlen (fun j hj => by
    match j, hj with
    | 0, _ => exact e0
    | 1, _ => exact e1
    | 2, _ => exact e2
    | 3, _ => exact e3
    | 4, _ => exact e4
    | j + 5, h => exact absurd h (by omega)) nA
  have hZ := va_Zof (A := fun q : Nat => s.heap.size ≤ q) (hts (.laysStatic "LineScript" "KIND_ABOVE" "[I") (List.mem_append_right _ (List.mem_of_getElem? (i := 475) (by decide +kernel)))) (htw _ ii_X8) ht nA
  obtain ⟨ad, a1, a2, a3⟩ : ∃ ad : Nat → Nat, (∀ k, k < 108 → ad k = s.heap.size + k) ∧ ad 108 = b ∧ ad 109 = t := ⟨fun k => if k < 108 then s.heap.size + k else if k = 108 then b else t, fun k hk => if_pos hk, rfl, rfl⟩
  obtain ⟨dC, dI, hKc⟩ : ∃ (dC : Nat → ClassId) (dI : Nat → Nat → Nat), ∀ (k : Nat) (q : vw_C), vwCl[k]? = some q → u_Kn s q.1 q.2.1 q.2.2 (dC k) (dI k) := by
    refine ⟨fun k => match k with | 0 => c0 | 1 => c1 | 2 => c2 | 3 => c3 | 4 => c4 | 5 => c5 | 6 => c6 | 7 => c7 | 8 => c8 | _ => c9, fun k => match k with | 0 => i0 | 1 => i1 | 2 => i2 | 3 => i3 | 4 => i4 | 5 => i5 | 6 => i6 | 7 => i7 | 8 => i8 | _ => i9, fun k q hq => ?_⟩
    match k, hq with
    | 0, hq => cases hq; exact K0
    | 1, hq => cases hq; exact K1
    | 2, hq => cases hq; exact K2
    | 3, hq => cases hq; exact K3
    | 4, hq => cases hq; exact K4
    | 5, hq => cases hq; exact K5
    | 6, hq => cases hq; exact K6
    | 7, hq => cases hq; exact K7
    | 8, hq => cases hq; exact K8
    | 9, hq => cases hq; exact K9
    | k + 10, hq => exact absurd ((List.getElem?_eq_some_iff.mp hq).1) (by show ¬ k + 10 < 10; omega)
  have hG : Ga (l, dC, dI, ad, s.heap.size, comp', cA, L, xs) := a1
  refine ⟨(l, dC, dI, ad, s.heap.size, comp', cA, L, xs), rfl, rfl, rfl, a2, hG, ⟨?_, ⟨hKc, ?_⟩, ?_, ?_, ?_, ?_, ?_, ?_, ?_, Nat.le_refl _⟩, kA, kC, cc, hkA, hkindA, hkC, hkindC⟩
  · exact fun w hw a => word_at (State.WarmedH.refl s) (good_of_word (List.mem_filter.mp hw).2) (htw w hw)
  · intro k q hq
    match k, hq with
    | 0, hq => cases hq; exact ⟨fun n z => ⟨fun k h => (by cases h), kC, hkC, cc, hkindC⟩, hcomp'⟩
    | 1, hq => cases hq; exact ⟨fun n z => ⟨fun k h => (by cases h), kA, hkA, comp', hkindA⟩, hnameA⟩
    | k + 2, hq => simp at hq
  · exact fun w hw hn => va_Nw.of (nest_on hn) (hts w hw)
  · show va_X (ad 108) L xs s s.heap
    rw [a2]
    exact hX
  · show va_Z "LineScript" "KIND_ABOVE" "[I" (.ref (ad 109)) (fun q : Nat => s.heap.size ≤ q) s s.heap
    rw [a3]
    exact hZ
  · show va_T .int (ad 109) 5 kab (fun q : Nat => s.heap.size ≤ q) s s.heap
    rw [a3]
    exact hT
  · intro i j hi hj e
    have e : ad i = ad j := e
    rw [a1 i hi, a1 j hj] at e
    omega
  · intro k hk
    show s.heap.size ≤ ad k
    rw [a1 k hk]
    omega
  · show ad 108 < s.heap.size
    rw [a2]
    exact hbl
set_option maxRecDepth 100000 in
set_option maxHeartbeats 4000000 in
theorem k_law {g : AG} {d : Nat} (hG : Ga g) : Rk g mL_law (d + 4) 0 1000 2000 (0, [(0, vR 108)], [], [], 0, 0) (12, [(1, vR 0), (0, vR 108)], [vR 88, vR 88], lS8 g ++ [x88], 89, 689) := by
  refine Rk_newQ (q := 0) rfl cf_X8 cl_L_7 it_X8 ii_X8 dv_X8 dL_law_0 (by decide) (by decide) (by decide) ?_
  refine Rk_dup dL_law_3 rfl ?_
  refine Rk_callQ (ws := []) (q := 0) rfl li_L_9 ci_X8 im_X8 rfl rfl (Nat.le_refl _) (Nat.le_of_ble_eq_true rfl) dL_law_4 (k_X8 hG) (by decide) (by decide) (lS8_len g) ?_
  show Rk _ _ _ _ _ _ (7, [(0, vR 108)], [vR 0], lS8 g, 88, 656) _
  refine Rk_astore (ls' := [(1, vR 0), (0, vR 108)]) dL_law_7 rfl (by decide) rfl ?_
  refine Rk_newQ (q := 88) (by rw [lS8_len]) cf_X9 cl_L_10 it_X9 ii_X9 dv_X9 dL_law_8 (by decide) (by decide) (by decide) ?_
  refine Rk_dup dL_law_11 rfl ?_
  exact Rk.rf
theorem w_15 {g : AG} (hL : gLn g ≤ 2048) {M : AM} (h : Fst M) : Wa g mL_law 40 15 [(1, vR 0), (0, vR 108)] [vR 88] M (QI (fun z _ => z = 1)) := by
  refine Wa_astore_n (ls' := [(2, vR 88), (1, vR 0), (0, vR 108)]) dL_law_15 rfl (by decide) rfl ?_
  refine Wa_iconst (z := 0) dL_law_16 ?_
  refine Wa_istore_n (ls' := [(3, vI 0), (2, vR 88), (1, vR 0), (0, vR 108)]) dL_law_17 rfl (by decide) rfl ?_
  refine Wa_sub [3, 2, 1, 0] rfl ?_
  exact law_loop (d := 15) hL (fun _ => rfl) (gLn g) 0 0 M (by omega) ⟨by decide, by decide⟩ (by decide) (by decide) (by decide) (Fst_inv h)
set_option maxHeartbeats 4000000 in
theorem whole_start {p : Program} {e : Env} {s : State} {m : MethodId} {below : List Frame} {meth : Method} {c : Code} (l : Launch) (hflags : l.flags = flags0) {b L : Nat} {xs : Nat → Int32} (hL : L ≤ 2048) (C0 : lw_At p s m meth c b L xs) : W p l e room_1 s m #[Value.ref b] below meth c s.heap [] 0 0 (lw_Z below #[Value.ref b] s) (entryFrame m ([Value.ref b] : List Value).toArray 4) := by
  obtain ⟨hx, hb, hr, hml, hown, hts, hX, hbl, hlocks, hgv⟩ := id C0
  obtain ⟨g, rfl, g0, gL, g8, hG, hSF, hXF⟩ := start_SF l hts hX hbl hgv
  have hl := lv_entry ([.ref b]) (n := 4) (Nat.le_of_ble_eq_true rfl)
  rw [lg_entry_eq]
  generalize (lg_sl ([.ref b]) ++ List.replicate (4 - (lg_sl ([.ref b])).length) Slot.unset).toArray = la at hl ⊢
  have hl : lv_has la 4 [(0, .ref b)] := hl
  have hl : lv_has la mL_law.2.2.1 ([(0, vR 108)].map (rvp (gad g))) := by
    show lv_has la 4 [(0, .ref (gad g 108))]
    rw [g8]
    exact hl
  have hR1 : 40 ≤ room_1.frames := Nat.le_of_ble_eq_true rfl
  have hR2 : 64 * 40 ≤ room_1.locals := Nat.le_of_ble_eq_true rfl
  have hgA : ∀ q, gA g q → s.heap.size ≤ q := fun q h => by
    have h : gs0 g ≤ q := h
    omega
  refine k_law (g := g) (d := 36) hG p e room_1 s m _ below meth c s.heap [] la _ ⟨hx, hb, hml, hown, hlocks, fun q => absurd q (by decide), hR1, hR2, Nat.le_of_ble_eq_true rfl, Nat.le_of_ble_eq_true rfl, hSF, hXF, hG⟩ ⟨by rw [g0]; rfl, fun k q h => by simp [wk] at h⟩ rfl va_S.rf hl ?_
  intro H locs la1 h1 h2 h3 h4
  dsimp only at h1 h2 h4 ⊢
  have hts2 : ∀ w ∈ WT, w.before #[Value.ref b] s = true := fun w hw => hSF.1 w hw _
  obtain ⟨hcode, hini, hnmm, hmx⟩ := ci_X9
  have hG1 : GoodIn WT [Cond.code yX9_init cX9_init 2 none] := WT_good (fun w hw => by rw [List.mem_singleton.mp hw]; exact hcode)
  have hpre : PreS s H (mPm g) [Value.ref (gad g 88)] := ⟨fun a U f mk q => ⟨q.1, SF_calling f mk a q.2.1, XF.moved (u := U) (U := U.calling f mk a) (Vm.Alike.refl U.vm) q.2.2.1, q.2.2.2⟩, fun U hU hW => ⟨rfl, SF_moved hW (by rw [hU]; exact h3.1) (by rw [hU]; exact h3.2.1) hSF, XF.moved hW.alike hXF, by rw [hU]; exact h1⟩⟩
  have hw8 : 2 * (F0 m 12 la1 ([vR 88, vR 88].map (rv (gad g)))).monitorRoom + (([vR 88].map (rv (gad g))).map fun v => v.category).sum ≤ 8 := lv_room (Nat.le_of_ble_eq_true rfl)
  have hrun : va_Run p (gl g) e room_1 s m #[Value.ref b] below meth c H locs 89 689 19 680 (F0 m 12 la1 ([vR 88, vR 88].map (rv (gad g)))) ([vR 88].map (rv (gad g))) (mQm g [Value.ref (gad g 88)].toArray) (gA g) := by
    rcases li_L_12 with h | ⟨host, h⟩
    · exact va_runI (Ts := WT) (n := 0) (b := gad g 88) (As := []) (rest := [vR 88].map (rv (gad g))) ⟨hx, hb, hml, hown, hts2⟩ (k_model (d := 0) hG) ⟨callB_of (Ts := WT) 0 hts2 hG1 rfl rfl rfl (hts2 _ hini) (hts2 _ h) hnmm ⟨Nat.le_of_ble_eq_true rfl, Nat.le_of_ble_eq_true rfl⟩, rfl, hts2 _ im_X9⟩ hpre rfl rfl h4.1 rfl hw8 dL_law_12 ⟨Nat.le_of_ble_eq_true rfl, Nat.le_of_ble_eq_true rfl⟩
    · exact va_runIN (Ts := WT) (n := 0) (b := gad g 88) (As := []) (rest := [vR 88].map (rv (gad g))) ⟨hx, hb, hml, hown, hts2⟩ (k_model (d := 0) hG) ⟨va_cnB (Ts := WT) 0 hts2 hG1 rfl rfl rfl (hSF.2.2.1 _ h rfl) (hts2 _ hini) hnmm ⟨Nat.le_of_ble_eq_true rfl, Nat.le_of_ble_eq_true rfl⟩, rfl, hts2 _ im_X9⟩ hpre rfl rfl h4.1 rfl hw8 dL_law_12 ⟨Nat.le_of_ble_eq_true rfl, Nat.le_of_ble_eq_true rfl⟩
  intro T hT X
  obtain ⟨v, st₀, t, T', Ls, f0, X', hLs, f1, f2, ⟨⟨hv, M', q1, q2, q3⟩, hz, hk⟩, go⟩ := hrun T hT X
  have hv' : v = none := Outcome.returned.inj hv
  subst hv'
  rw [f0] at hz hk
  rw [← f1] at q3 hz hk
  have hS2 : va_S (gA g) s.heap T'.heap (locs ++ Ls) := ⟨Nat.le_trans h3.1 hz, fun q h5 h6 => by rw [hk q (Nat.lt_of_lt_of_le h5 h3.1) h6]; exact h3.2.1 q h5 h6, fun q hq9 => by
    rcases List.mem_append.mp hq9 with h | h
    · exact h3.2.2 q h
    · exact hLs q h⟩
  have K := w_15 (g := g) (by rw [gL]; exact hL) q1 p e room_1 s m _ below meth c T'.heap (locs ++ Ls) 108 1369 la1 (lw_Z below #[Value.ref b] s) ⟨hx, hb, hml, hown, hr, hlocks, hR1, hR2, Nat.le_of_ble_eq_true rfl, Nat.le_of_ble_eq_true rfl, hSF⟩ q2 q3 hS2 h4 (fun r M2 H2 locs2 pc2 la2 b1 b2 b3 b4 b5 => by
    obtain ⟨z, rfl, -, rfl⟩ := b1
    refine va_forget (fun q hq => hgA _ (b4.2.2 q hq)) ?_
    refine W.widen (k := 600000) (n := 7302250) (Nat.le_of_ble_eq_true rfl) (Nat.le_of_ble_eq_true rfl) ?_
    refine W.base ?_
    exact lw_ret (Drawn.sameBut.refl s.drawn lw_cs) hx hb hr hlocks b5.1) T' rfl X'
  obtain ⟨t2, c1, c2⟩ := K
  exact ⟨t2, go t2 c1, c2⟩
