/-! packing a letter behind others -/
theorem iShl_7 {p : Int} (h0 : 0 ≤ p) (h1 : p < 16384) : iShl p 7 = 128 * p := by
  unfold iShl
  obtain ⟨m, rfl⟩ : ∃ m : Nat, p = m := ⟨p.toNat, by omega⟩
  have e : (Int32.ofInt 7 &&& 31 : Int32) = 7 := by decide
  rw [e]
  have e1 : (Int32.ofInt (m : Int) <<< (7 : Int32)).toBitVec = BitVec.ofNat 32 (128 * m) := by
    rw [Int32.toBitVec_shiftLeft, Int32.toBitVec_ofInt]
    apply BitVec.eq_of_toNat_eq
    rw [show ((7 : Int32).toBitVec.smod 32 : BitVec 32) = 7 by decide]
    simp [BitVec.toNat_shiftLeft, Nat.shiftLeft_eq]
    omega
  rw [show (Int32.ofInt (m : Int) <<< (7 : Int32)).toInt = (Int32.ofInt (m : Int) <<< (7 : Int32)).toBitVec.toInt from rfl, e1, BitVec.toInt_eq_toNat_cond, BitVec.toNat_ofNat, if_pos (by omega)]
  omega
theorem iOr_7 {q c : Int} (h0 : 0 ≤ q) (h1 : q < 16384) (c0 : 0 ≤ c) (c1 : c < 128) : iOr (128 * q) c = 128 * q + c := by
  unfold iOr
  obtain ⟨m, rfl⟩ : ∃ m : Nat, q = m := ⟨q.toNat, by omega⟩
  obtain ⟨k, rfl⟩ : ∃ k : Nat, c = k := ⟨c.toNat, by omega⟩
  have e1 : (Int32.ofInt (128 * (m : Int)) ||| Int32.ofInt (k : Int)).toBitVec = BitVec.ofNat 32 (128 * m + k) := by
    rw [Int32.toBitVec_or, Int32.toBitVec_ofInt, Int32.toBitVec_ofInt]
    apply BitVec.eq_of_toNat_eq
    have w := Nat.shiftLeft_add_eq_or_of_lt (b := k) (i := 7) (by omega) m
    rw [Nat.shiftLeft_eq] at w
    rw [BitVec.toNat_or, BitVec.toNat_ofInt, BitVec.toNat_ofInt, BitVec.toNat_ofNat]
    rw [show ((128 * (m : Int)) % ((2 ^ 32 : Nat) : Int)).toNat = m * 2 ^ 7 by omega, show ((k : Int) % ((2 ^ 32 : Nat) : Int)).toNat = k by omega, ← w]
    omega
  rw [show (Int32.ofInt (128 * (m : Int)) ||| Int32.ofInt (k : Int)).toInt = (Int32.ofInt (128 * (m : Int)) ||| Int32.ofInt (k : Int)).toBitVec.toInt from rfl, e1, BitVec.toInt_eq_toNat_cond, BitVec.toNat_ofNat, if_pos (by omega)]
  omega
