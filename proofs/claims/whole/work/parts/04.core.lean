/-! the abstract machine: values, memory, cells by number -/
abbrev AV : Type := Int ⊕ Int ⊕ UInt32 ⊕ UInt64 ⊕ Nat
abbrev vI (z : Int) : AV := Sum.inl z
abbrev vL (z : Int) : AV := Sum.inr (Sum.inl z)
abbrev vF (z : UInt32) : AV := Sum.inr (Sum.inr (Sum.inl z))
abbrev vD (z : UInt64) : AV := Sum.inr (Sum.inr (Sum.inr (Sum.inl z)))
abbrev vR (k : Nat) : AV := Sum.inr (Sum.inr (Sum.inr (Sum.inr k)))
abbrev AM : Type := Nat → Nat → Int
def mU (M : AM) (k j : Nat) (z : Int) : AM := fun k' j' => if k' = k ∧ j' = j then z else M k' j'
def rg (z : Int) : Prop := -2147483648 ≤ z ∧ z < 2147483648
def RM (M : AM) : Prop := ∀ k j, ¬ (k = 88 ∧ j = 32) → rg (M k j)
theorem rg_toInt (x : Int32) : rg x.toInt := ⟨Int32.le_toInt x, Int32.toInt_lt x⟩
theorem rg_back {z : Int} (h : rg z) : (Int32.ofInt z).toInt = z := Int32.toInt_ofInt_of_le h.1 h.2
theorem RM_mU {M : AM} {k j : Nat} {z : Int} (h : RM M) (hz : rg z) : RM (mU M k j z) := by
  intro k' j' hn
  unfold mU
  split
  · exact hz
  · exact h k' j' hn
theorem RM_mUl {M : AM} {z : Int} (h : RM M) : RM (mU M 88 32 z) := by
  intro k' j' hn
  unfold mU
  split
  · next e => exact absurd e hn
  · exact h k' j' hn
/-- a cell's kind: an object (class, fields: a cell, or a number: long or not), a row of ints, a row of rows -/
abbrev AK : Type := (Nat × List (Nat ⊕ Bool)) ⊕ Nat ⊕ (Nat × Nat)
def KD : List AK := [
  .inl (8, [.inl 1, .inl 4, .inl 5, .inl 28, .inl 52, .inl 57, .inl 71, .inl 80, .inr false, .inr false, .inr false]),
  .inl (3, [.inl 2, .inl 3, .inr false]),
  .inr (.inl 64),
  .inl (5, [.inr false, .inr false, .inr false]),
  .inl (2, [.inl 5, .inl 10, .inl 13, .inl 24, .inl 25, .inl 26, .inl 27, .inr false, .inr false]),
  .inl (7, [.inl 6, .inl 9]),
  .inr (.inr (2, 7)),
  .inr (.inl 8),
  .inr (.inl 8),
  .inr (.inl 2),
  .inr (.inr (2, 11)),
  .inr (.inl 8),
  .inr (.inl 8),
  .inl (0, [.inl 14]),
  .inr (.inr (9, 15)),
  .inr (.inl 9),
  .inr (.inl 9),
  .inr (.inl 9),
  .inr (.inl 9),
  .inr (.inl 9),
  .inr (.inl 9),
  .inr (.inl 9),
  .inr (.inl 9),
  .inr (.inl 9),
  .inr (.inl 8),
  .inr (.inl 8),
  .inr (.inl 2),
  .inr (.inl 2),
  .inl (2, [.inl 29, .inl 34, .inl 37, .inl 48, .inl 49, .inl 50, .inl 51, .inr false, .inr false]),
  .inl (7, [.inl 30, .inl 33]),
  .inr (.inr (2, 31)),
  .inr (.inl 8),
  .inr (.inl 8),
  .inr (.inl 2),
  .inr (.inr (2, 35)),
  .inr (.inl 8),
  .inr (.inl 8),
  .inl (0, [.inl 38]),
  .inr (.inr (9, 39)),
  .inr (.inl 9),
  .inr (.inl 9),
  .inr (.inl 9),
  .inr (.inl 9),
  .inr (.inl 9),
  .inr (.inl 9),
  .inr (.inl 9),
  .inr (.inl 9),
  .inr (.inl 9),
  .inr (.inl 8),
  .inr (.inl 8),
  .inr (.inl 2),
  .inr (.inl 2),
  .inl (7, [.inl 53, .inl 56]),
  .inr (.inr (2, 54)),
  .inr (.inl 8),
  .inr (.inl 8),
  .inr (.inl 2),
  .inl (1, [.inl 58, .inl 69, .inl 70]),
  .inl (0, [.inl 59]),
  .inr (.inr (9, 60)),
  .inr (.inl 9),
  .inr (.inl 9),
  .inr (.inl 9),
  .inr (.inl 9),
  .inr (.inl 9),
  .inr (.inl 9),
  .inr (.inl 9),
  .inr (.inl 9),
  .inr (.inl 9),
  .inr (.inl 3),
  .inr (.inl 3),
  .inl (6, [.inl 72, .inl 73, .inl 74, .inl 75, .inl 76, .inl 77, .inr false, .inr false]),
  .inr (.inl 16),
  .inr (.inl 16),
  .inr (.inl 16),
  .inr (.inl 16),
  .inr (.inl 16),
  .inr (.inr (2, 78)),
  .inr (.inl 8),
  .inr (.inl 8),
  .inl (4, [.inl 81, .inl 87]),
  .inr (.inr (5, 82)),
  .inr (.inl 3),
  .inr (.inl 3),
  .inr (.inl 3),
  .inr (.inl 3),
  .inr (.inl 3),
  .inr (.inl 5),
  .inl (9, [.inl 89, .inr false, .inr false, .inr false, .inl 90, .inl 91, .inr false, .inl 92, .inl 93, .inr false, .inr false, .inl 94, .inr false, .inr false, .inl 95, .inr false, .inl 96, .inl 97, .inl 98, .inl 99, .inl 100, .inl 101, .inr false, .inr false, .inl 102, .inl 103, .inr false, .inl 104, .inl 105, .inr false, .inl 106, .inl 107, .inr true]),
  .inr (.inl 64),
  .inr (.inl 2),
  .inr (.inl 32),
  .inr (.inl 32),
  .inr (.inl 2),
  .inr (.inl 32),
  .inr (.inl 200),
  .inr (.inl 8),
  .inr (.inl 8),
  .inr (.inl 8),
  .inr (.inl 81),
  .inr (.inl 16),
  .inr (.inl 80),
  .inr (.inl 32),
  .inr (.inl 15),
  .inr (.inl 32),
  .inr (.inl 2),
  .inr (.inl 32),
  .inr (.inl 2)]
theorem k_0 : KD[0]? = some (.inl (8, [.inl 1, .inl 4, .inl 5, .inl 28, .inl 52, .inl 57, .inl 71, .inl 80, .inr false, .inr false, .inr false])) := rfl
theorem k_1 : KD[1]? = some (.inl (3, [.inl 2, .inl 3, .inr false])) := rfl
theorem k_2 : KD[2]? = some (.inr (.inl 64)) := rfl
theorem k_3 : KD[3]? = some (.inl (5, [.inr false, .inr false, .inr false])) := rfl
theorem k_4 : KD[4]? = some (.inl (2, [.inl 5, .inl 10, .inl 13, .inl 24, .inl 25, .inl 26, .inl 27, .inr false, .inr false])) := rfl
theorem k_5 : KD[5]? = some (.inl (7, [.inl 6, .inl 9])) := rfl
theorem k_6 : KD[6]? = some (.inr (.inr (2, 7))) := rfl
theorem k_7 : KD[7]? = some (.inr (.inl 8)) := rfl
theorem k_8 : KD[8]? = some (.inr (.inl 8)) := rfl
theorem k_9 : KD[9]? = some (.inr (.inl 2)) := rfl
theorem k_10 : KD[10]? = some (.inr (.inr (2, 11))) := rfl
theorem k_11 : KD[11]? = some (.inr (.inl 8)) := rfl
theorem k_12 : KD[12]? = some (.inr (.inl 8)) := rfl
theorem k_13 : KD[13]? = some (.inl (0, [.inl 14])) := rfl
theorem k_14 : KD[14]? = some (.inr (.inr (9, 15))) := rfl
theorem k_15 : KD[15]? = some (.inr (.inl 9)) := rfl
theorem k_16 : KD[16]? = some (.inr (.inl 9)) := rfl
theorem k_17 : KD[17]? = some (.inr (.inl 9)) := rfl
theorem k_18 : KD[18]? = some (.inr (.inl 9)) := rfl
theorem k_19 : KD[19]? = some (.inr (.inl 9)) := rfl
theorem k_20 : KD[20]? = some (.inr (.inl 9)) := rfl
theorem k_21 : KD[21]? = some (.inr (.inl 9)) := rfl
theorem k_22 : KD[22]? = some (.inr (.inl 9)) := rfl
theorem k_23 : KD[23]? = some (.inr (.inl 9)) := rfl
theorem k_24 : KD[24]? = some (.inr (.inl 8)) := rfl
theorem k_25 : KD[25]? = some (.inr (.inl 8)) := rfl
theorem k_26 : KD[26]? = some (.inr (.inl 2)) := rfl
theorem k_27 : KD[27]? = some (.inr (.inl 2)) := rfl
theorem k_28 : KD[28]? = some (.inl (2, [.inl 29, .inl 34, .inl 37, .inl 48, .inl 49, .inl 50, .inl 51, .inr false, .inr false])) := rfl
theorem k_29 : KD[29]? = some (.inl (7, [.inl 30, .inl 33])) := rfl
theorem k_30 : KD[30]? = some (.inr (.inr (2, 31))) := rfl
theorem k_31 : KD[31]? = some (.inr (.inl 8)) := rfl
theorem k_32 : KD[32]? = some (.inr (.inl 8)) := rfl
theorem k_33 : KD[33]? = some (.inr (.inl 2)) := rfl
theorem k_34 : KD[34]? = some (.inr (.inr (2, 35))) := rfl
theorem k_35 : KD[35]? = some (.inr (.inl 8)) := rfl
theorem k_36 : KD[36]? = some (.inr (.inl 8)) := rfl
theorem k_37 : KD[37]? = some (.inl (0, [.inl 38])) := rfl
theorem k_38 : KD[38]? = some (.inr (.inr (9, 39))) := rfl
theorem k_39 : KD[39]? = some (.inr (.inl 9)) := rfl
theorem k_40 : KD[40]? = some (.inr (.inl 9)) := rfl
theorem k_41 : KD[41]? = some (.inr (.inl 9)) := rfl
theorem k_42 : KD[42]? = some (.inr (.inl 9)) := rfl
theorem k_43 : KD[43]? = some (.inr (.inl 9)) := rfl
theorem k_44 : KD[44]? = some (.inr (.inl 9)) := rfl
theorem k_45 : KD[45]? = some (.inr (.inl 9)) := rfl
theorem k_46 : KD[46]? = some (.inr (.inl 9)) := rfl
theorem k_47 : KD[47]? = some (.inr (.inl 9)) := rfl
theorem k_48 : KD[48]? = some (.inr (.inl 8)) := rfl
theorem k_49 : KD[49]? = some (.inr (.inl 8)) := rfl
theorem k_50 : KD[50]? = some (.inr (.inl 2)) := rfl
theorem k_51 : KD[51]? = some (.inr (.inl 2)) := rfl
theorem k_52 : KD[52]? = some (.inl (7, [.inl 53, .inl 56])) := rfl
theorem k_53 : KD[53]? = some (.inr (.inr (2, 54))) := rfl
theorem k_54 : KD[54]? = some (.inr (.inl 8)) := rfl
theorem k_55 : KD[55]? = some (.inr (.inl 8)) := rfl
theorem k_56 : KD[56]? = some (.inr (.inl 2)) := rfl
theorem k_57 : KD[57]? = some (.inl (1, [.inl 58, .inl 69, .inl 70])) := rfl
theorem k_58 : KD[58]? = some (.inl (0, [.inl 59])) := rfl
theorem k_59 : KD[59]? = some (.inr (.inr (9, 60))) := rfl
theorem k_60 : KD[60]? = some (.inr (.inl 9)) := rfl
theorem k_61 : KD[61]? = some (.inr (.inl 9)) := rfl
theorem k_62 : KD[62]? = some (.inr (.inl 9)) := rfl
theorem k_63 : KD[63]? = some (.inr (.inl 9)) := rfl
theorem k_64 : KD[64]? = some (.inr (.inl 9)) := rfl
theorem k_65 : KD[65]? = some (.inr (.inl 9)) := rfl
theorem k_66 : KD[66]? = some (.inr (.inl 9)) := rfl
theorem k_67 : KD[67]? = some (.inr (.inl 9)) := rfl
theorem k_68 : KD[68]? = some (.inr (.inl 9)) := rfl
theorem k_69 : KD[69]? = some (.inr (.inl 3)) := rfl
theorem k_70 : KD[70]? = some (.inr (.inl 3)) := rfl
theorem k_71 : KD[71]? = some (.inl (6, [.inl 72, .inl 73, .inl 74, .inl 75, .inl 76, .inl 77, .inr false, .inr false])) := rfl
theorem k_72 : KD[72]? = some (.inr (.inl 16)) := rfl
theorem k_73 : KD[73]? = some (.inr (.inl 16)) := rfl
theorem k_74 : KD[74]? = some (.inr (.inl 16)) := rfl
theorem k_75 : KD[75]? = some (.inr (.inl 16)) := rfl
theorem k_76 : KD[76]? = some (.inr (.inl 16)) := rfl
theorem k_77 : KD[77]? = some (.inr (.inr (2, 78))) := rfl
theorem k_78 : KD[78]? = some (.inr (.inl 8)) := rfl
theorem k_79 : KD[79]? = some (.inr (.inl 8)) := rfl
theorem k_80 : KD[80]? = some (.inl (4, [.inl 81, .inl 87])) := rfl
theorem k_81 : KD[81]? = some (.inr (.inr (5, 82))) := rfl
theorem k_82 : KD[82]? = some (.inr (.inl 3)) := rfl
theorem k_83 : KD[83]? = some (.inr (.inl 3)) := rfl
theorem k_84 : KD[84]? = some (.inr (.inl 3)) := rfl
theorem k_85 : KD[85]? = some (.inr (.inl 3)) := rfl
theorem k_86 : KD[86]? = some (.inr (.inl 3)) := rfl
theorem k_87 : KD[87]? = some (.inr (.inl 5)) := rfl
theorem k_88 : KD[88]? = some (.inl (9, [.inl 89, .inr false, .inr false, .inr false, .inl 90, .inl 91, .inr false, .inl 92, .inl 93, .inr false, .inr false, .inl 94, .inr false, .inr false, .inl 95, .inr false, .inl 96, .inl 97, .inl 98, .inl 99, .inl 100, .inl 101, .inr false, .inr false, .inl 102, .inl 103, .inr false, .inl 104, .inl 105, .inr false, .inl 106, .inl 107, .inr true])) := rfl
theorem k_89 : KD[89]? = some (.inr (.inl 64)) := rfl
theorem k_90 : KD[90]? = some (.inr (.inl 2)) := rfl
theorem k_91 : KD[91]? = some (.inr (.inl 32)) := rfl
theorem k_92 : KD[92]? = some (.inr (.inl 32)) := rfl
theorem k_93 : KD[93]? = some (.inr (.inl 2)) := rfl
theorem k_94 : KD[94]? = some (.inr (.inl 32)) := rfl
theorem k_95 : KD[95]? = some (.inr (.inl 200)) := rfl
theorem k_96 : KD[96]? = some (.inr (.inl 8)) := rfl
theorem k_97 : KD[97]? = some (.inr (.inl 8)) := rfl
theorem k_98 : KD[98]? = some (.inr (.inl 8)) := rfl
theorem k_99 : KD[99]? = some (.inr (.inl 81)) := rfl
theorem k_100 : KD[100]? = some (.inr (.inl 16)) := rfl
theorem k_101 : KD[101]? = some (.inr (.inl 80)) := rfl
theorem k_102 : KD[102]? = some (.inr (.inl 32)) := rfl
theorem k_103 : KD[103]? = some (.inr (.inl 15)) := rfl
theorem k_104 : KD[104]? = some (.inr (.inl 32)) := rfl
theorem k_105 : KD[105]? = some (.inr (.inl 2)) := rfl
theorem k_106 : KD[106]? = some (.inr (.inl 32)) := rfl
theorem k_107 : KD[107]? = some (.inr (.inl 2)) := rfl
theorem KD_len : KD.length = 108 := rfl
theorem KD_lt {k : Nat} {x : AK} (h : KD[k]? = some x) : k < 108 := by
  have := (List.getElem?_eq_some_iff.mp h).1
  rwa [KD_len] at this
def rv (ad : Nat → Nat) (v : AV) : Value := match v with
  | .inl z => .int (Int32.ofInt z)
  | .inr (.inl z) => .long (Int64.ofInt z)
  | .inr (.inr (.inl b)) => .float b
  | .inr (.inr (.inr (.inl b))) => .double b
  | .inr (.inr (.inr (.inr k))) => .ref (ad k)
def isW (v : AV) : Bool := match v with
  | .inr (.inl _) => true
  | .inr (.inr (.inr (.inl _))) => true
  | _ => false
theorem rv_cat (ad : Nat → Nat) (v : AV) : ((rv ad v).category == 2) = isW v := by
  rcases v with z | z | z | z | z <;> rfl
theorem rv_cat2 (ad : Nat → Nat) (v : AV) : (rv ad v).category = 2 ↔ isW v = true := by
  rcases v with z | z | z | z | z <;> simp [rv, isW, Value.category]
def rvp (ad : Nat → Nat) (q : Nat × AV) : Nat × Value := (q.1, rv ad q.2)
/-- a field's value -/
def fvl (ad : Nat → Nat) (M : Nat → Int) (j : Nat) (f : Nat ⊕ Bool) : Value := match f with
  | .inl r => .ref (ad r)
  | .inr false => .int (Int32.ofInt (M j))
  | .inr true => .long (Int64.ofInt (M j))
def fvs (ad : Nat → Nat) (M : Nat → Int) : Nat → List (Nat ⊕ Bool) → List Value
  | _, [] => []
  | j, f :: fs => fvl ad M j f :: fvs ad M (j + 1) fs
theorem fvs_get (ad : Nat → Nat) (M : Nat → Int) : ∀ (fs : List (Nat ⊕ Bool)) (i k : Nat), (fvs ad M i fs)[k]? = (fs[k]?).map (fvl ad M (i + k))
  | [], i, k => by simp [fvs]
  | f :: fs, i, 0 => by simp [fvs]
  | f :: fs, i, k + 1 => by
    simp only [fvs, List.getElem?_cons_succ]
    rw [fvs_get ad M fs (i + 1) k, show i + 1 + k = i + (k + 1) by omega]
theorem fvs_len (ad : Nat → Nat) (M : Nat → Int) : ∀ (fs : List (Nat ⊕ Bool)) (i : Nat), (fvs ad M i fs).length = fs.length
  | [], i => rfl
  | f :: fs, i => by simp [fvs, fvs_len ad M fs (i + 1)]
theorem fvs_eq (ad : Nat → Nat) {M M' : Nat → Int} {fs : List (Nat ⊕ Bool)} {k : Nat} {v : Value} (hk : k < fs.length) (hne : ∀ j, j ≠ k → M' j = M j) (hv : (fs[k]?).map (fvl ad M' k) = some v) : (fvs ad M 0 fs).set k v = fvs ad M' 0 fs := by
  apply List.ext_getElem?
  intro i
  rw [fvs_get, Nat.zero_add, List.getElem?_set, fvs_len]
  by_cases e : k = i
  · subst e
    rw [if_pos rfl, if_pos hk, hv]
  · rw [if_neg e, fvs_get, Nat.zero_add]
    cases fs[i]? with
    | none => rfl
    | some f =>
      simp only [Option.map_some]
      rcases f with r | b
      · rfl
      · cases b <;> simp only [fvl, hne i (fun q => e q.symm)]
/-- the geometry: launch, classes, slots, addresses, where the heap ended at the law's start, the classes of int[] and int[][], the script -/
abbrev AG : Type := Launch × (Nat → ClassId) × (Nat → Nat → Nat) × (Nat → Nat) × Nat × ClassId × ClassId × Nat × (Nat → Int32)
abbrev gl (g : AG) : Launch := g.1
abbrev gD (g : AG) : va_G := (g.2.1, g.2.2.1)
abbrev gad (g : AG) : Nat → Nat := g.2.2.2.1
abbrev gs0 (g : AG) : Nat := g.2.2.2.2.1
abbrev gcI (g : AG) : ClassId := g.2.2.2.2.2.1
abbrev gcA (g : AG) : ClassId := g.2.2.2.2.2.2.1
abbrev gLn (g : AG) : Nat := g.2.2.2.2.2.2.2.1
abbrev gxs (g : AG) : Nat → Int32 := g.2.2.2.2.2.2.2.2
def gA (g : AG) : Nat → Prop := fun q => gs0 g ≤ q
def cel (g : AG) (M : AM) (k : Nat) : va_E := match KD[k]? with
  | some (.inl (ci, fs)) => .inr (ci, fvs (gad g) (M k) 0 fs)
  | some (.inr (.inl n)) => .inl (gcI g, n, .inl (fun j => Int32.ofInt (M k j)))
  | some (.inr (.inr (n, f))) => .inl (gcA g, n, .inr (.inr (.inr (.inr (fun j => if j < n then some (gad g (f + j)) else none)))))
  | none => .inr (0, [])
def wl (g : AG) (M : AM) : va_W := (List.range 108).map (fun k => (gad g k, cel g M k))
theorem wl_at (g : AG) (M : AM) {k : Nat} (h : k < 108) : (wl g M)[k]? = some (gad g k, cel g M k) := by
  unfold wl
  rw [List.getElem?_map, List.getElem?_range h]
  rfl
theorem wl_obj {g : AG} {M : AM} {k ci : Nat} {fs : List (Nat ⊕ Bool)} (h : KD[k]? = some (.inl (ci, fs))) : (wl g M)[k]? = some (gad g k, .inr (ci, fvs (gad g) (M k) 0 fs)) := by
  rw [wl_at g M (KD_lt h)]
  simp only [cel, h]
theorem wl_arr {g : AG} {M : AM} {k n : Nat} (h : KD[k]? = some (.inr (.inl n))) : (wl g M)[k]? = some (gad g k, .inl (gcI g, n, .inl (fun j => Int32.ofInt (M k j)))) := by
  rw [wl_at g M (KD_lt h)]
  simp only [cel, h]
theorem wl_mat {g : AG} {M : AM} {k n f : Nat} (h : KD[k]? = some (.inr (.inr (n, f)))) : (wl g M)[k]? = some (gad g k, .inl (gcA g, n, .inr (.inr (.inr (.inr (fun j => if j < n then some (gad g (f + j)) else none)))))) := by
  rw [wl_at g M (KD_lt h)]
  simp only [cel, h]
theorem wl_set {g : AG} {M M' : AM} {k : Nat} {x : va_E} (hk : k < 108) (hne : ∀ k', k' ≠ k → M' k' = M k') (hx : cel g M' k = x) : (wl g M).set k (gad g k, x) = wl g M' := by
  apply List.ext_getElem?
  intro i
  have hl : (wl g M).length = 108 := by simp [wl]
  rw [List.getElem?_set, hl]
  by_cases e : k = i
  · subst e
    rw [if_pos rfl, if_pos hk, wl_at g M' hk, hx]
  · rw [if_neg e]
    by_cases h : i < 108
    · rw [wl_at g M h, wl_at g M' h]
      simp only [cel, hne i (fun q => e q.symm)]
    · rw [List.getElem?_eq_none (by rw [hl]; omega), List.getElem?_eq_none (by simp [wl]; omega)]
theorem mU_ne {M : AM} {k j : Nat} {z : Int} {k' : Nat} (h : k' ≠ k) : mU M k j z k' = M k' := by
  funext j'
  simp [mU, h]
theorem mU_at {M : AM} {k j : Nat} {z : Int} : mU M k j z k j = z := by simp [mU]
theorem mU_nej {M : AM} {k j : Nat} {z : Int} {j' : Nat} (h : j' ≠ j) : mU M k j z k j' = M k j' := by simp [mU, h]
theorem mU_nej' {M : AM} {k j : Nat} {z : Int} {k' j' : Nat} (h : j' ≠ j) : mU M k j z k' j' = M k' j' := by simp [mU, h]

/-! what holds of the tables and of the cells that nobody writes -/
def isNest : Cond → Bool
  | .fieldLinkNest _ _ _ _ _ _ => true
  | .methodLinkNest _ _ _ _ => true
  | _ => false
def kab : Nat → Value := fun j => .int (Int32.ofInt ([-1, 0, 0, 2, 3].getD j 0))
def WT : List Cond := lw_tbl.filter goodWord
theorem WT_mem {w : Cond} (h : w ∈ lw_tbl) (hg : goodWord w = true) : w ∈ WT := List.mem_filter.mpr ⟨h, hg⟩
theorem WT_good {ws : List Cond} (h : ∀ w ∈ ws, w ∈ WT) : GoodIn WT ws := fun w hw => ⟨h w hw, good_of_word (List.mem_filter.mp (h w hw)).2⟩
def SF (g : AG) (U : State) : Prop :=
  (∀ w ∈ WT, ∀ a : Array Value, w.before a U = true) ∧ va_K (gD g) vwCl [(gcI g, .int), (gcA g, .array .int)] U ∧ (∀ w ∈ lw_tbl, isNest w = true → va_Nw w U) ∧
  va_X (gad g 108) (gLn g) (gxs g) U U.heap ∧ va_Z "LineScript" "KIND_ABOVE" "[I" (.ref (gad g 109)) (gA g) U U.heap ∧ va_T .int (gad g 109) 5 kab (gA g) U U.heap ∧
  (∀ i j, i < 108 → j < 108 → gad g i = gad g j → i = j) ∧ (∀ k, k < 108 → gs0 g ≤ gad g k) ∧ gad g 108 < gs0 g ∧ gs0 g ≤ U.heap.size
theorem va_D_wl {g : AG} {M : AM} (hi : ∀ i j, i < 108 → j < 108 → gad g i = gad g j → i = j) (ha : ∀ k, k < 108 → gs0 g ≤ gad g k) : va_D (gA g) (wl g M) := by
  have hl : (wl g M).length = 108 := by simp [wl]
  refine ⟨fun i j p q h1 h2 e => ?_, fun k q h => ?_⟩
  · have h3 : i < 108 := hl ▸ (List.getElem?_eq_some_iff.mp h1).1
    have h4 : j < 108 := hl ▸ (List.getElem?_eq_some_iff.mp h2).1
    rw [wl_at g M h3] at h1
    rw [wl_at g M h4] at h2
    cases h1
    cases h2
    exact hi i j h3 h4 e
  · have h3 : k < 108 := hl ▸ (List.getElem?_eq_some_iff.mp h).1
    rw [wl_at g M h3] at h
    cases h
    exact ha k h3
theorem isNest_warm {w : Cond} (h : isNest w = true) {s U : State} (hW : s.WarmedH U.vm) (hZ : va_Nw w s) : va_Nw w U := by
  cases w <;> simp [isNest] at h
  · exact va_Nw.warmM hW hZ
  · exact va_Nw.warmF hW hZ
theorem SF_moved {g : AG} {s U : State} (hW : s.WarmedH U.vm) (hz : s.heap.size ≤ U.heap.size) (hk : ∀ q : Nat, q < s.heap.size → ¬ gA g q → U.heap[q]? = s.heap[q]?) (h : SF g s) : SF g U := by
  obtain ⟨h1, h2, h3, h4, h5, h6, h7, h8, h9, h10⟩ := h
  refine ⟨fun w hw a => word_at hW (good_of_word (List.mem_filter.mp hw).2) (h1 w hw a), va_K.moved hW.alike h2, fun w hw hn => isNest_warm hn hW (h3 w hw hn), ?_, ?_, ?_, h7, h8, h9, Nat.le_trans h10 hz⟩
  · exact va_X.moved hW.alike (h4.kept (hk _ (Nat.lt_of_lt_of_le h9 h10) (Nat.not_le.mpr h9)))
  · exact va_Z.moved hW.alike (h5.kept hk)
  · exact va_T.moved hW.alike (h6.kept hk)
theorem SF_calling {g : AG} {U : State} (f : JFrame) (mk : MethodId) (a : Array Value) (h : SF g U) : SF g (U.calling f mk a) :=
  SF_moved (U := U.calling f mk a) (State.WarmedH.refl U) (Nat.le_refl _) (fun _ _ _ => rfl) h

/-! methods, the judgement -/
abbrev MI : Type := MethodName × ByteArray × Nat × Option FieldType
def Cx (g : AG) (n : MI) (d : Nat) (p : Program) (R : Room) (s : State) (m : MethodId) (meth : Method) (c : Code) (cells slots : Nat) : Prop :=
  p.tables.exec = Jvm.exec ∧ c.code = n.2.1 ∧ c.maxLocals = n.2.2.1 ∧ s.vm.findClass n.1.cls = some m.cls ∧ meth.sig.returnType = n.2.2.2 ∧ meth.locks = false ∧ d ≤ R.frames ∧ 64 * d ≤ R.locals ∧ cells ≤ R.cells ∧ slots ≤ R.slots ∧ SF g s
def RT (n : MI) (pc : Nat) (r : Option AV) : Prop := match r with
  | none => decode n.2.1 pc = .ok (.return_, 1) ∧ n.2.2.2 = none
  | some (.inl z) => decode n.2.1 pc = .ok (.ireturn, 1) ∧ (n.2.2.2 = some .int ∨ (n.2.2.2 = some .boolean ∧ (z = 0 ∨ z = 1)))
  | some (.inr (.inl _)) => decode n.2.1 pc = .ok (.lreturn, 1) ∧ n.2.2.2 = some .long
  | some (.inr (.inr (.inl _))) => decode n.2.1 pc = .ok (.freturn, 1) ∧ n.2.2.2 = some .float
  | _ => False
def Wa (g : AG) (n : MI) (d pc : Nat) (ls : List (Nat × AV)) (st : List AV) (M : AM) (Q : Option AV → AM → Prop) : Prop :=
  ∀ (p : Program) (e : Env) (R : Room) (s : State) (m : MethodId) (args : Array Value) (below : List Frame) (meth : Method) (c : Code) (H : Heap) (locs : List Loc) (cells slots : Nat) (la : Array Slot) (QW : State → Prop),
    Cx g n d p R s m meth c cells slots → RM M → va_P (gD g) vwCl (wl g M) H → va_S (gA g) s.heap H locs → lv_has la n.2.2.1 (ls.map (rvp (gad g))) →
    (∀ (r : Option AV) (M' : AM) (H' : Heap) (locs' : List Loc) (pc' : Nat) (la' : Array Slot), Q r M' → RM M' → va_P (gD g) vwCl (wl g M') H' → va_S (gA g) s.heap H' locs' → RT n pc' r →
      W p (gl g) e R s m args below meth c H' locs' cells slots QW (F0 m pc' la' (r.toList.map (rv (gad g))))) →
    W p (gl g) e R s m args below meth c H locs cells slots QW (F0 m pc la (st.map (rv (gad g))))
def rmA (d : Nat) : Room := { frames := d, cells := 0, slots := 0, locals := 64 * d }
def mPc (g : AG) (as : List AV) (M : AM) : Array Value → State → Prop := fun v U => v = (as.map (rv (gad g))).toArray ∧ SF g U ∧ RM M ∧ va_P (gD g) vwCl (wl g M) U.heap
def mQc (g : AG) (Q : Option AV → AM → Prop) : Array Value → State → Outcome → State → Prop := fun _ st o t => (∃ (r : Option AV) (M' : AM), o = .returned (r.map (rv (gad g))) ∧ Q r M' ∧ RM M' ∧ va_P (gD g) vwCl (wl g M') t.heap) ∧ va_F (gA g) st t
def MetA (g : AG) (n : MI) (d : Nat) (as : List AV) (M : AM) (Q : Option AV → AM → Prop) : Prop :=
  Met (gl g) n.1 [.code n.1 n.2.1 n.2.2.1 n.2.2.2] (rmA d) (mPc g as M) (mQc g Q) 0 0 (gA g)
def largs : Nat → List AV → List (Nat × AV)
  | _, [] => []
  | i, v :: vs => (i, v) :: largs (if isW v = true then i + 2 else i + 1) vs
theorem largs_rv (ad : Nat → Nat) : ∀ (as : List AV) (i : Nat), lv_args i (as.map (rv ad)) = (largs i as).map (rvp ad)
  | [], i => rfl
  | v :: vs, i => by
    simp only [List.map_cons, lv_args, largs, rvp, rv_cat2]
    rw [largs_rv ad vs]
def lsz : List AV → Nat
  | [] => 0
  | v :: vs => (if isW v = true then 2 else 1) + lsz vs
theorem lsz_rv (ad : Nat → Nat) : ∀ (as : List AV), (lg_sl (as.map (rv ad))).length = lsz as
  | [] => rfl
  | v :: vs => by
    have ih := lsz_rv ad vs
    unfold lg_sl at ih ⊢
    simp only [List.map_cons, List.flatMap_cons, List.length_append, ih, lsz, rv_cat2]
    split <;> simp
theorem nar_bool {z : Int} (h : z = 0 ∨ z = 1) : narrow .boolean (.int (Int32.ofInt z)) = .int (Int32.ofInt z) := by
  rcases h with rfl | rfl <;> decide
theorem fit_bool {z : Int} (h : z = 0 ∨ z = 1) : fits .boolean (.int (Int32.ofInt z)) = true := by
  rcases h with rfl | rfl <;> decide
set_option maxHeartbeats 4000000 in
theorem MetA.of {g : AG} {n : MI} {d : Nat} {as : List AV} {M : AM} {Q : Option AV → AM → Prop} (hy : plainName n.1.cls = true) (hsz : lsz as ≤ n.2.2.1) (k : Wa g n d 0 (largs 0 as) [] M Q) : MetA g n d as M Q := by
  refine Met.ofW (cc := n.2.1) (maxL := n.2.2.1) (ret := n.2.2.2) hy rfl ?_
  intro p e s m args below meth c s₁ B hml hv
  obtain ⟨rfl, hSF, hRM, hP⟩ := hv
  have hlocks := B.notSynchronized
  have hr := B.returns
  have hl := lv_entry (as.map (rv (gad g))) (n := n.2.2.1) (by rw [lsz_rv]; exact hsz)
  rw [largs_rv] at hl
  rw [lg_entry_eq]
  refine k p e (rmA d) s m _ below meth c s.heap [] 0 0 _ _ ⟨B.exec, B.bytes, hml, findClass_of_methodNamed B.named, hr, hlocks, Nat.le_refl _, Nat.le_refl _, Nat.le_refl _, Nat.le_refl _, hSF⟩ hRM hP va_S.rf hl ?_
  intro r M' H' locs' pc' la' hQ hRM' hP' hS' hT
  have fin : ∀ (t : State), t.heap = H' → s.WarmedH t.vm → mQc g Q (as.map (rv (gad g))).toArray s (.returned (r.map (rv (gad g)))) t := fun t ht _ => ⟨⟨r, M', rfl, hQ, hRM', by rw [ht]; exact hP'⟩, hS'.F ht⟩
  have hf : ∀ q ∈ locs', gA g q.base := hS'.2.2
  rcases r with _ | z | z | z | z | z
  · exact W.vret B.exec B.bytes (hr.trans hT.2) fin hf hT.1
  · rcases hT.2 with h | ⟨h, hz⟩
    · exact W.iret B.exec B.bytes (hr.trans h) fin hf hT.1
    · exact W.zret B.exec B.bytes (hr.trans h) (nar_bool hz) fin hf hT.1
  · exact W.lret B.exec B.bytes (hr.trans hT.2) fin hf hT.1
  · exact W.fret B.exec B.bytes (hr.trans hT.2) fin hf hT.1
  · exact hT.elim
  · exact hT.elim
theorem MetA.mono {g : AG} {n : MI} {d : Nat} {as : List AV} {M : AM} {Q Q' : Option AV → AM → Prop} (h : MetA g n d as M Q) (hq : ∀ r M', Q r M' → Q' r M') : MetA g n d as M Q' := by
  intro p e ha hc hk s m args below hf happ hP hK
  obtain ⟨k, o, h1, h2, h3, ⟨⟨⟨r, M', e1, e2, e3⟩, hF⟩, hL⟩⟩ := h p e ha hc hk s m args below hf happ hP hK
  exact ⟨k, o, h1, h2, h3, ⟨⟨⟨r, M', e1, hq r M' e2, e3⟩, hF⟩, hL⟩⟩
theorem Wa.mono {g : AG} {n : MI} {d pc : Nat} {ls : List (Nat × AV)} {st : List AV} {M : AM} {Q Q' : Option AV → AM → Prop} (h : Wa g n d pc ls st M Q) (hq : ∀ r M', Q r M' → Q' r M') : Wa g n d pc ls st M Q' := by
  intro p e R s m args below meth c H locs cells slots la QW C hR hP hS hl hF
  exact h p e R s m args below meth c H locs cells slots la QW C hR hP hS hl (fun r M' H' locs' pc' la' h0 => hF r M' H' locs' pc' la' (hq r M' h0))

