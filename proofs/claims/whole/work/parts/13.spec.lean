/-! MATCH as a pure function: which lines are kept with which -/
abbrev LF : Type := Int → Int → Int
def f2 (P : LF) (s i v : Int) : LF := fun s' i' => if s' = s ∧ i' = i then v else P s' i'
def kp (P : LF) (o n : Int) : LF := f2 (f2 P 0 o n) 1 n o
def kps (l : List (Int × Int)) (P : LF) : LF := l.foldl (fun P q => kp P q.1 q.2) P
theorem kps_nil (P : LF) : kps [] P = P := rfl
theorem kps_cons (q : Int × Int) (l : List (Int × Int)) (P : LF) : kps (q :: l) P = kps l (kp P q.1 q.2) := rfl
theorem kps_app (l m : List (Int × Int)) (P : LF) : kps (l ++ m) P = kps m (kps l P) := by
  unfold kps
  rw [List.foldl_append]
/-- the first lines, as long as they are the same; then the last ones -/
def mpP (A : LF) (a b c d : Int) : List (Int × Int) × Int × Int :=
  if a < b ∧ c < d ∧ A 0 a = A 1 c then ((a, c) :: (mpP A (a + 1) b (c + 1) d).1, (mpP A (a + 1) b (c + 1) d).2) else ([], a, c)
termination_by (b - a).toNat
decreasing_by all_goals omega
def mpS (A : LF) (a b c d : Int) : List (Int × Int) × Int × Int :=
  if a < b ∧ c < d ∧ A 0 (b - 1) = A 1 (d - 1) then ((b - 1, d - 1) :: (mpS A a (b - 1) c (d - 1)).1, (mpS A a (b - 1) c (d - 1)).2) else ([], b, d)
termination_by (b - a).toNat
decreasing_by all_goals omega
/-- as many as can be kept in order -/
def mpK (A : LF) (T : LF) (b d i j : Int) : List (Int × Int) :=
  if i < b ∧ j < d then
    if A 0 i = A 1 j then (i, j) :: mpK A T b d (i + 1) (j + 1)
    else if T i (j + 1) ≤ T (i + 1) j then mpK A T b d (i + 1) j else mpK A T b d i (j + 1)
  else []
termination_by (b - i).toNat + (d - j).toNat
decreasing_by all_goals omega
/-- anchors -/
def cnt (f : Int → Int) (v s e : Int) : Int := if s < e then (if f s = v then 1 else 0) + cnt f v (s + 1) e else 0
termination_by (e - s).toNat
decreasing_by all_goals omega
def plc (f : Int → Int) (v s e : Int) : Int := if s < e then (if f s = v then s else plc f v (s + 1) e) else -1
termination_by (e - s).toNat
decreasing_by all_goals omega
abbrev isAn (A : LF) (a b c d o : Int) : Prop := cnt (A 0) (A 0 o) a b = 1 ∧ cnt (A 1) (A 0 o) c d = 1

def anL (A : LF) (a b c d o : Int) : List (Int × Int) :=
  if o < b then (if isAn A a b c d o then (o, plc (A 1) (A 0 o) c d) :: anL A a b c d (o + 1) else anL A a b c d (o + 1)) else []
termination_by (b - o).toNat
decreasing_by all_goals omega
def mxl (n : Int) : List (Int × Int × Int) → Int → Int
  | [], m => m
  | q :: w, m => mxl n w (if n < q.2.1 ∧ m < q.2.2 then q.2.2 else m)
def anW : List (Int × Int) → List (Int × Int × Int)
  | [] => []
  | q :: r => (q.1, q.2, 1 + mxl q.2 (anW r) 0) :: anW r
def mxa : List (Int × Int × Int) → Int → Int
  | [], m => m
  | q :: w, m => mxa w (if m < q.2.2 then q.2.2 else m)
def pck : List (Int × Int × Int) → Int → Int → List (Int × Int)
  | [], _, _ => []
  | q :: w, want, last => if q.2.2 = want ∧ last < q.2.1 then (q.1, q.2.1) :: pck w (want - 1) q.2.1 else pck w want last
def chn (A : LF) (a b c d : Int) : List (Int × Int) := pck (anW (anL A a b c d a)) (mxa (anW (anL A a b c d a)) 0) (-1)
def btw (b d : Int) : List (Int × Int) → Int → Int → List (Int × Int × Int × Int)
  | [], a, c => [(a, b, c, d)]
  | q :: r, a, c => (a, q.1, c, q.2) :: btw b d r (q.1 + 1) (q.2 + 1)
/-- what is done with the middle, given how parts between anchors are matched -/

def mpM (A : LF) (rc : Int × Int × Int × Int → List (Int × Int)) (a b c d : Int) : List (Int × Int) :=
  if a < b ∧ c < d then
    if anL A a b c d a = [] then mpK A (lcT (A 0) (A 1) b d) b d a c
    else chn A a b c d ++ (btw b d (chn A a b c d) a c).flatMap rc
  else []
def mp (A : LF) : Nat → Int → Int → Int → Int → List (Int × Int)
  | 0, _, _, _, _ => []
  | f + 1, a, b, c, d =>
    (mpP A a b c d).1 ++ ((mpS A (mpP A a b c d).2.1 b (mpP A a b c d).2.2 d).1 ++
      mpM A (fun q => mp A f q.1 q.2.1 q.2.2.1 q.2.2.2) (mpP A a b c d).2.1 (mpS A (mpP A a b c d).2.1 b (mpP A a b c d).2.2 d).2.1 (mpP A a b c d).2.2 (mpS A (mpP A a b c d).2.1 b (mpP A a b c d).2.2 d).2.2)
/-- how many anchors are kept in all -/

def mcM (A : LF) (rc : Int × Int × Int × Int → Int) (a b c d : Int) : Int :=
  if a < b ∧ c < d ∧ ¬ anL A a b c d a = [] then ((chn A a b c d).length : Int) + ((btw b d (chn A a b c d) a c).map rc).sum else 0
def mc (A : LF) : Nat → Int → Int → Int → Int → Int
  | 0, _, _, _, _ => 0
  | f + 1, a, b, c, d => mcM A (fun q => mc A f q.1 q.2.1 q.2.2.1 q.2.2.2) (mpP A a b c d).2.1 (mpS A (mpP A a b c d).2.1 b (mpP A a b c d).2.2 d).2.1 (mpP A a b c d).2.2 (mpS A (mpP A a b c d).2.1 b (mpP A a b c d).2.2 d).2.2
