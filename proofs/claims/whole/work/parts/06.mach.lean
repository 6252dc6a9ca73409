/-! THE ABSTRACT MACHINE: cells numbered as they are made, from 5 on (0 the script, 1 .. 4 Reader's tables); ints, longs, references apart -/
abbrev Hp (S : Type) : Type := Nat × (Nat → Nat → Int32) × (Nat → Nat → Int64) × S
abbrev LV : Type := List (Option Value)
def gl : LV → Nat → Option Value
  | [], _ => none
  | a :: _, 0 => a
  | _ :: t, n + 1 => gl t n
def sl : LV → Nat → Option Value → LV
  | [], 0, v => [v]
  | [], n + 1, v => none :: sl [] n v
  | _ :: t, 0, v => v :: t
  | a :: t, n + 1, v => a :: sl t n v
/-- the slot ahead holds nothing of two slots -/
def nl (ls : LV) : Nat → Bool
  | 0 => true
  | j + 1 => match gl ls j with
    | some v => Nat.beq v.category 1
    | none => true
def ents : List Value → LV
  | [] => []
  | .long x :: r => some (.long x) :: none :: ents r
  | .double x :: r => some (.double x) :: none :: ents r
  | v :: r => some v :: ents r
def mxl : List Nat := [1, 2, 2, 8, 5, 1, 3, 1, 2, 2, 5, 3, 3, 3, 3, 4, 2, 4, 4, 3, 2, 2, 2, 2, 3, 4, 3, 1, 3, 4, 2, 3, 6, 6, 3, 5, 3, 2, 7, 11, 1, 2, 6, 1, 3, 2, 2, 5, 7, 4, 3, 6, 3, 4, 4, 4, 1, 3, 2, 2, 2, 2, 4, 5, 2, 5, 1, 5, 2, 2, 2, 4, 4, 3, 3, 3, 1, 1, 1, 2, 4, 3, 4, 2, 7, 5, 1, 2, 2, 4, 3, 3, 5, 5, 1, 3, 2, 6, 3, 1, 7, 4, 6, 4, 3, 5, 3, 1, 7, 5, 4, 7, 6, 2, 7, 4, 8, 2, 4, 1, 3, 6, 9, 3, 2, 1, 3, 3, 1, 4, 5, 3, 2, 2, 2, 3, 1, 2, 1, 3, 4, 3, 2, 3, 1, 3, 3, 12, 3, 3, 3, 4, 2, 4, 4, 2, 2, 3, 1, 1, 2, 3, 1, 4, 2, 1, 2, 2, 3, 1, 1, 1, 5, 1, 1, 1, 3, 2, 6, 3, 7, 2, 4, 3, 3, 8, 4, 7, 6, 6, 4, 7, 3, 5, 4, 10, 2, 2, 4, 5, 5, 5, 4, 8, 10, 2, 4, 3, 7, 4, 2, 2, 4, 3, 7, 2, 2, 3, 1, 5, 4, 4, 4, 3, 4, 3, 3, 3, 3, 2, 2, 2, 4, 5, 1, 3, 2, 2, 3, 6, 6, 3, 4, 4, 5, 3, 2, 17, 3, 1, 13, 3, 6, 3, 5, 3, 4, 4, 2, 4, 2, 2, 3, 1, 1, 2, 1, 1, 2, 2, 4, 4]
def padT : LV → Nat → LV
  | [], n => List.replicate n none
  | a :: t, 0 => a :: t
  | a :: t, n + 1 => a :: padT t n
/-- locals at a method's beginning -/
def entm (M : Nat) (as : List Value) : LV := padT (ents as) (gn mxl M)
def pI {α : Type} (st : List Value) (bad : α) (f : Int32 → List Value → α) : α := match st with
  | .int x :: r => f x r
  | _ => bad
def pII {α : Type} (st : List Value) (bad : α) (f : Int32 → Int32 → List Value → α) : α := match st with
  | .int y :: .int x :: r => f x y r
  | _ => bad
def pJ {α : Type} (st : List Value) (bad : α) (f : Int64 → List Value → α) : α := match st with
  | .long x :: r => f x r
  | _ => bad
def pJJ {α : Type} (st : List Value) (bad : α) (f : Int64 → Int64 → List Value → α) : α := match st with
  | .long y :: .long x :: r => f x y r
  | _ => bad
def pR {α : Type} (st : List Value) (bad : α) (f : Nat → List Value → α) : α := match st with
  | .ref a :: r => f a r
  | _ => bad
def pO {α : Type} (st : List Value) (bad : α) (fn : List Value → α) (f : Nat → List Value → α) : α := match st with
  | .null :: r => fn r
  | .ref a :: r => f a r
  | _ => bad
def pIR {α : Type} (st : List Value) (bad : α) (f : Int32 → Nat → List Value → α) : α := match st with
  | .int i :: .ref a :: r => f i a r
  | _ => bad
def pIIR {α : Type} (st : List Value) (bad : α) (f : Int32 → Int32 → Nat → List Value → α) : α := match st with
  | .int x :: .int i :: .ref a :: r => f x i a r
  | _ => bad
def pJR {α : Type} (st : List Value) (bad : α) (f : Int64 → Nat → List Value → α) : α := match st with
  | .long x :: .ref a :: r => f x a r
  | _ => bad
def pRR {α : Type} (st : List Value) (bad : α) (f : Nat → Nat → List Value → α) : α := match st with
  | .ref v :: .ref a :: r => f v a r
  | _ => bad
def pRIR {α : Type} (st : List Value) (bad : α) (f : Nat → Int32 → Nat → List Value → α) : α := match st with
  | .ref v :: .int i :: .ref a :: r => f v i a r
  | _ => bad
def pCpy {α : Type} (st : List Value) (bad : α) (f : Int32 → Int32 → Nat → Int32 → Nat → List Value → α) : α := match st with
  | .int n :: .int dp :: .ref a :: .int sp :: .ref a0 :: r => f n dp a sp a0 r
  | _ => bad
def pD {α : Type} (st : List Value) (bad : α) (fI : Int32 → List Value → α) (fR : Nat → List Value → α) : α := match st with
  | .int x :: r => fI x r
  | .ref x :: r => fR x r
  | _ => bad
def t4 {α : Type} (n : Nat) (a1 a2 a3 d : α) : α := match n with
  | 1 => a1
  | 2 => a2
  | 3 => a3
  | _ => d
def t3 {α : Type} (n : Nat) (a0 a1 a2 d : α) : α := match n with
  | 0 => a0
  | 1 => a1
  | 2 => a2
  | _ => d
def hdR {α : Type} (as : List Value) (bad : α) (f : Nat → α) : α := match as with
  | .ref b :: _ => f b
  | _ => bad
def r1I {α : Type} (st : List Value) (bad : α) (f : Int32 → α) : α := match st with
  | [.int x] => f x
  | _ => bad
def r1J {α : Type} (st : List Value) (bad : α) (f : Int64 → α) : α := match st with
  | [.long x] => f x
  | _ => bad
def r1O {α : Type} (st : List Value) (bad : α) (fn : α) (f : Nat → α) : α := match st with
  | [.null] => fn
  | [.ref x] => f x
  | _ => bad
def r0 {α : Type} (st : List Value) (bad : α) (f : α) : α := match st with
  | [] => f
  | _ => bad
def xk {α : Type} (l : List Nat) (a0 a1 a2 a3 d : α) : α := match l with
  | [] => a0
  | [1] => a1
  | [2] => a2
  | [3] => a3
  | _ => d
def nk {α : Type} (l : List Nat) (a0 d : α) : α := match l with
  | [] => a0
  | _ => d
def oel {α : Type} (o : Option Nat) (a : α) (f : Nat → α) : α := match o with
  | none => a
  | some x => f x
def glv {α : Type} (o : Option Value) (bad : α) (f : Value → α) : α := match o with
  | some v => f v
  | none => bad
def rI {α : Type} (o : Option Value) (bad : α) (f : Int32 → α) : α := match o with
  | some (.int x) => f x
  | _ => bad
def rJ {α : Type} (o : Option Value) (bad : α) (f : Int64 → α) : α := match o with
  | some (.long x) => f x
  | _ => bad
def rO {α : Type} (o : Option Value) (bad : α) (fn : α) (f : Nat → α) : α := match o with
  | some .null => fn
  | some (.ref x) => f x
  | _ => bad
def rV {α : Type} (o : Option Value) (bad : α) (f : α) : α := match o with
  | none => f
  | _ => bad
def swt {α : Type} (x : Int32) : List (Int32 × Nat) → (Nat → α) → α → α
  | [], _, d => d
  | (v, t) :: r, f, d => if x = v then f t else swt x r f d
def tk : Nat → List Value → List Value → Option (List Value × List Value)
  | 0, acc, st => some (acc, st)
  | _ + 1, _, [] => none
  | n + 1, acc, v :: st => tk n (v :: acc) st
def csum : List Value → Nat
  | [] => 0
  | v :: r => v.category + csum r
def tkm {α : Type} (mx : Nat) (o : Option (List Value × List Value)) (bad : α) (f : List Value → List Value → α) : α := match o with
  | some (a, r) => bif Nat.ble (csum r) 8 && Nat.ble (csum a) mx then f a r else bad
  | none => bad
def b01 (x : Int32) : Bool := decide (x = 0) || decide (x = 1)
def gp : List (Nat × Nat) → Nat → Nat × Nat
  | [], _ => (99, 0)
  | a :: _, 0 => a
  | _ :: t, n + 1 => gp t n
def lk : List (Nat × AI) → Nat → Option AI
  | [], _ => none
  | (q, a) :: t, pc => bif Nat.beq q pc then some a else lk t pc
/-- kind and length of each cell: 0 int[], 1 boolean[], 2 Line[], 3 int[][], 4 + c an object of class c -/
def shl : List (Nat × Nat) := [(0, 0), (0, 4), (0, 5), (0, 10), (0, 4), (15, 11), (11, 5), (3, 4), (0, 60), (0, 60), (0, 60), (0, 60), (0, 4), (0, 4), (0, 60), (10, 3), (0, 60), (4, 2), (2, 24), (14, 10), (0, 24), (0, 24), (0, 24), (0, 24), (0, 24), (0, 24), (1, 24), (0, 12), (0, 11), (12, 6), (0, 6), (0, 40), (0, 40), (0, 40), (8, 9), (3, 8), (0, 12), (0, 12), (0, 12), (0, 12), (0, 12), (0, 12), (0, 12), (0, 12), (0, 8), (3, 12), (0, 12), (0, 12), (0, 12), (0, 12), (0, 12), (0, 12), (0, 12), (0, 12), (0, 12), (0, 12), (0, 12), (0, 12), (0, 12), (0, 12), (0, 12), (0, 12), (5, 13), (0, 12), (0, 12), (0, 60), (0, 60), (0, 60), (0, 60), (0, 12), (0, 12), (9, 3), (0, 24), (1, 24), (6, 13), (0, 30), (0, 30), (0, 30), (0, 30), (0, 30), (13, 6), (0, 6), (0, 6), (0, 6), (0, 6), (0, 6), (16, 77), (0, 4), (0, 4), (0, 240), (0, 25), (0, 25), (0, 25), (0, 25), (0, 25), (0, 25), (0, 25), (0, 24), (0, 24), (0, 24), (0, 24), (0, 24), (0, 24), (0, 12), (0, 12), (0, 6), (0, 40), (0, 40), (0, 40), (0, 8), (0, 96), (0, 12), (0, 12), (0, 12), (0, 144), (0, 12), (0, 12), (0, 12), (0, 60), (0, 60), (1, 60), (0, 60), (0, 12), (0, 24), (1, 24), (0, 30), (0, 30), (0, 30), (0, 30), (0, 30), (0, 12), (0, 12), (0, 6), (0, 6), (0, 6), (0, 6), (0, 6)]
def shT (L a : Nat) : Nat × Nat := bif Nat.beq a 0 then (0, L) else bif Nat.blt a 137 then gp shl a else (7, 7)
def Rt : List (List Nat) := [[], [], [], [], [], [6, 15, 17, 19, 29, 34, 62, 71, 74, 80], [7, 12, 13, 14], [8, 9, 10, 11], [], [], [], [], [], [], [], [16], [], [18], [], [20, 21, 22, 23, 24, 25, 26, 27, 28], [], [], [], [], [], [], [], [], [], [30, 31, 32, 33], [], [], [], [], [35, 44, 45, 58, 59, 60, 61], [36, 37, 38, 39, 40, 41, 42, 43], [], [], [], [], [], [], [], [], [], [46, 47, 48, 49, 50, 51, 52, 53, 54, 55, 56, 57], [], [], [], [], [], [], [], [], [], [], [], [], [], [], [], [], [63, 64, 65, 66, 67, 68, 69, 70], [], [], [], [], [], [], [], [], [72, 73], [], [], [75, 76, 77, 78, 79], [], [], [], [], [], [81, 82, 83, 84, 85], [], [], [], [], [], [0, 0, 87, 88, 89, 0, 90, 91, 92, 93, 94, 95, 96, 0, 0, 0, 0, 97, 98, 99, 100, 101, 102, 103, 104, 0, 105, 0, 106, 107, 108, 0, 109, 110, 0, 111, 112, 113, 114, 115, 0, 116, 117, 0, 0, 118, 119, 120, 121, 122, 0, 0, 0, 0, 0, 0, 0, 123, 124, 0, 0, 0, 125, 126, 127, 128, 129, 0, 130, 131, 0, 0, 132, 133, 134, 135, 136], [], [], [], [], [], [], [], [], [], [], [], [], [], [], [], [], [], [], [], [], [], [], [], [], [], [], [], [], [], [], [], [], [], [], [], [], [], [], [], [], [], [], [], [], [], [], [], [], [], []]
def Rc (a i : Nat) : Option Nat := match gn (gll Rt a) i with
  | 0 => none
  | v + 1 => some (v + 1)
/-- the order in which references are laid by the constructors -/
def Rw : List (Nat × Nat × Nat) := [(7, 0, 8), (7, 1, 9), (7, 2, 10), (7, 3, 11), (6, 0, 7), (6, 1, 12), (6, 2, 13), (6, 3, 14), (5, 0, 6), (15, 0, 16), (5, 1, 15), (17, 0, 18), (5, 2, 17), (19, 0, 20), (19, 1, 21), (19, 2, 22), (19, 3, 23), (19, 4, 24), (19, 5, 25), (19, 6, 26), (19, 7, 27), (19, 8, 28), (5, 3, 19), (29, 0, 30), (29, 1, 31), (29, 2, 32), (29, 3, 33), (5, 4, 29), (35, 0, 36), (35, 1, 37), (35, 2, 38), (35, 3, 39), (35, 4, 40), (35, 5, 41), (35, 6, 42), (35, 7, 43), (34, 0, 35), (34, 1, 44), (45, 0, 46), (45, 1, 47), (45, 2, 48), (45, 3, 49), (45, 4, 50), (45, 5, 51), (45, 6, 52), (45, 7, 53), (45, 8, 54), (45, 9, 55), (45, 10, 56), (45, 11, 57), (34, 2, 45), (34, 3, 58), (34, 4, 59), (34, 5, 60), (34, 6, 61), (5, 5, 34), (62, 0, 63), (62, 1, 64), (62, 2, 65), (62, 3, 66), (62, 4, 67), (62, 5, 68), (62, 6, 69), (62, 7, 70), (5, 6, 62), (71, 0, 72), (71, 1, 73), (5, 7, 71), (74, 0, 75), (74, 1, 76), (74, 2, 77), (74, 3, 78), (74, 4, 79), (5, 8, 74), (80, 0, 81), (80, 1, 82), (80, 2, 83), (80, 3, 84), (80, 4, 85), (5, 9, 80), (86, 2, 87), (86, 3, 88), (86, 4, 89), (86, 6, 90), (86, 7, 91), (86, 8, 92), (86, 9, 93), (86, 10, 94), (86, 11, 95), (86, 12, 96), (86, 17, 97), (86, 18, 98), (86, 19, 99), (86, 20, 100), (86, 21, 101), (86, 22, 102), (86, 23, 103), (86, 24, 104), (86, 26, 105), (86, 28, 106), (86, 29, 107), (86, 30, 108), (86, 32, 109), (86, 33, 110), (86, 35, 111), (86, 36, 112), (86, 37, 113), (86, 38, 114), (86, 39, 115), (86, 41, 116), (86, 42, 117), (86, 45, 118), (86, 46, 119), (86, 47, 120), (86, 48, 121), (86, 49, 122), (86, 57, 123), (86, 58, 124), (86, 62, 125), (86, 63, 126), (86, 64, 127), (86, 65, 128), (86, 66, 129), (86, 68, 130), (86, 69, 131), (86, 72, 132), (86, 73, 133), (86, 74, 134), (86, 75, 135), (86, 76, 136)]
def okT (L θ n a tg : Nat) : Bool := Nat.beq (shT L a).1 tg && (Nat.blt a θ || Nat.blt a n)
def upR (I : Nat → Nat → Int32) (a : Nat) (f : Nat → Int32) : Nat → Nat → Int32 := fun b => if b = a then f else I b
def upJ (J : Nat → Nat → Int64) (a k : Nat) (x : Int64) : Nat → Nat → Int64 := fun b j => if b = a ∧ j = k then x else J b j
abbrev hI {S : Type} (h : Hp S) (a : Nat) (f : Nat → Int32) : Hp S := (h.1, upR h.2.1 a f, h.2.2.1, h.2.2.2)
abbrev hJ {S : Type} (h : Hp S) (a k : Nat) (x : Int64) : Hp S := (h.1, h.2.1, upJ h.2.2.1 a k x, h.2.2.2)
abbrev hR {S : Type} (h : Hp S) (r : S) : Hp S := (h.1, h.2.1, h.2.2.1, r)
abbrev hN {S : Type} (h : Hp S) (n : Nat) : Hp S := (h.1 + n, h.2)
def stv (xs : Nat → Int32) (a i : Nat) : Int32 := match a with
  | 0 => xs i
  | 1 => [109, 115, 99, 107].getD i 0
  | 2 => [48, 49, 50, 51, 42].getD i 0
  | 3 => [48, 49, 50, 51, 52, 53, 54, 55, 56, 57].getD i 0
  | _ => [100, 112, 101, 118].getD i 0
/-- an int of a row -/
def rdI (xs : Nat → Int32) (I : Nat → Nat → Int32) (a i : Nat) : Int32 := bif Nat.blt a 5 then stv xs a i else I a i
/-- references of new int[n][m] -/
def wrm {S : Type} (wr : S → Nat → Nat → Nat → Option S) (a : Nat) : Nat → S → Option S
  | 0, s => some s
  | n + 1, s => (wrm wr a n s).bind (fun t => wr t a n (a + 1 + n))
def shm (L a m : Nat) : Nat → Bool
  | 0 => true
  | n + 1 => shm L a m n && (Nat.beq (shT L (a + 1 + n)).1 0 && Nat.beq (shT L (a + 1 + n)).2 m)
def oS {α S : Type} (o : Option S) (bad : α) (f : S → α) : α := match o with
  | some x => f x
  | none => bad
/-- one step, into any type: no (stuck), k (goes on), c (a call), rt (the end) -/
def stp {α S : Type} (L : Nat) (xs : Nat → Int32) (θ : Nat) (rd : S → Nat → Nat → Option Nat) (wr : S → Nat → Nat → Nat → Option S) (no : α) (k : Nat → LV → List Value → Hp S → α) (c : Nat → List Value → Hp S → (Option Value → Hp S → α) → α) (rt : Option Value → Hp S → α)
    (ai : AI) (pc : Nat) (ls : LV) (st : List Value) (h : Hp S) : α := match ai.1 with
  | .iconst _ => k (pc + 1) ls (.int (kv ai.2.2.2) :: st) h
  | .bipush _ => k (pc + 2) ls (.int (kv ai.2.2.2) :: st) h
  | .sipush _ => k (pc + 3) ls (.int (kv ai.2.2.2) :: st) h
  | .ldc_w _ => k (pc + 3) ls (.int (kv ai.2.2.2) :: st) h
  | .lconst _ => k (pc + 1) ls (.long (bif Nat.beq (ax ai.2.2.1 0) 0 then 0 else 1) :: st) h
  | .ldc2_w _ => k (pc + 3) ls (.long vLOST :: st) h
  | .aconst_null => k (pc + 1) ls (.null :: st) h
  | .iload _ => rI (gl ls (ax ai.2.2.1 0)) no fun x => k (pc + 2) ls (.int x :: st) h
  | .iload_n _ => rI (gl ls (ax ai.2.2.1 0)) no fun x => k (pc + 1) ls (.int x :: st) h
  | .lload _ => rJ (gl ls (ax ai.2.2.1 0)) no fun x => k (pc + 2) ls (.long x :: st) h
  | .lload_n _ => rJ (gl ls (ax ai.2.2.1 0)) no fun x => k (pc + 1) ls (.long x :: st) h
  | .aload _ => rO (gl ls (ax ai.2.2.1 0)) no (k (pc + 2) ls (.null :: st) h) fun x => k (pc + 2) ls (.ref x :: st) h
  | .aload_n _ => rO (gl ls (ax ai.2.2.1 0)) no (k (pc + 1) ls (.null :: st) h) fun x => k (pc + 1) ls (.ref x :: st) h
  | .istore _ => pI st no fun x r => bif nl ls (ax ai.2.2.1 0) then k (pc + 2) (sl ls (ax ai.2.2.1 0) (some (.int x))) r h else no
  | .istore_n _ => pI st no fun x r => bif nl ls (ax ai.2.2.1 0) then k (pc + 1) (sl ls (ax ai.2.2.1 0) (some (.int x))) r h else no
  | .lstore _ => pJ st no fun x r => bif nl ls (ax ai.2.2.1 0) then k (pc + 2) (sl (sl ls (ax ai.2.2.1 0 + 1) none) (ax ai.2.2.1 0) (some (.long x))) r h else no
  | .lstore_n _ => pJ st no fun x r => bif nl ls (ax ai.2.2.1 0) then k (pc + 1) (sl (sl ls (ax ai.2.2.1 0 + 1) none) (ax ai.2.2.1 0) (some (.long x))) r h else no
  | .astore _ => pO st no (fun r => bif nl ls (ax ai.2.2.1 0) then k (pc + 2) (sl ls (ax ai.2.2.1 0) (some .null)) r h else no) fun x r => bif nl ls (ax ai.2.2.1 0) then k (pc + 2) (sl ls (ax ai.2.2.1 0) (some (.ref x))) r h else no
  | .astore_n _ => pO st no (fun r => bif nl ls (ax ai.2.2.1 0) then k (pc + 1) (sl ls (ax ai.2.2.1 0) (some .null)) r h else no) fun x r => bif nl ls (ax ai.2.2.1 0) then k (pc + 1) (sl ls (ax ai.2.2.1 0) (some (.ref x))) r h else no
  | .iinc _ _ => rI (gl ls (ax ai.2.2.1 0)) no fun x => bif nl ls (ax ai.2.2.1 0) then k (pc + 3) (sl ls (ax ai.2.2.1 0) (some (.int (x + kv ai.2.2.2)))) st h else no
  | .iadd => pII st no fun x y r => k (pc + 1) ls (.int (x + y) :: r) h
  | .isub => pII st no fun x y r => k (pc + 1) ls (.int (x - y) :: r) h
  | .imul => pII st no fun x y r => k (pc + 1) ls (.int (x * y) :: r) h
  | .iand => pII st no fun x y r => k (pc + 1) ls (.int (x &&& y) :: r) h
  | .ior => pII st no fun x y r => k (pc + 1) ls (.int (x ||| y) :: r) h
  | .ixor => pII st no fun x y r => k (pc + 1) ls (.int (x ^^^ y) :: r) h
  | .idiv => pII st no fun x y r => if y = 0 then no else k (pc + 1) ls (.int (x / y) :: r) h
  | .irem => pII st no fun x y r => if y = 0 then no else k (pc + 1) ls (.int (x - x / y * y) :: r) h
  | .ineg => pI st no fun x r => k (pc + 1) ls (.int (-x) :: r) h
  | .ishl => pII st no fun x y r => k (pc + 1) ls (.int (x <<< (y &&& 31)) :: r) h
  | .ishr => pII st no fun x y r => k (pc + 1) ls (.int (x >>> (y &&& 31)) :: r) h
  | .iushr => pII st no fun x y r => k (pc + 1) ls (.int (x.toUInt32 >>> (y.toUInt32 &&& Int32.toUInt32 31)).toInt32 :: r) h
  | .i2l => pI st no fun x r => k (pc + 1) ls (.long x.toInt64 :: r) h
  | .i2b => pI st no fun x r => k (pc + 1) ls (.int x.toInt8.toInt32 :: r) h
  | .i2s => pI st no fun x r => k (pc + 1) ls (.int x.toInt16.toInt32 :: r) h
  | .lmul => pJJ st no fun x y r => k (pc + 1) ls (.long (x * y) :: r) h
  | .lsub => pJJ st no fun x y r => k (pc + 1) ls (.long (x - y) :: r) h
  | .ldiv => pJJ st no fun x y r => if y = 0 then no else k (pc + 1) ls (.long (x / y) :: r) h
  | .lrem => pJJ st no fun x y r => if y = 0 then no else k (pc + 1) ls (.long (x - x / y * y) :: r) h
  | .lcmp => pJJ st no fun x y r => k (pc + 1) ls (.int (lg_cmp x y) :: r) h
  | .dup => pD st no (fun x r => k (pc + 1) ls (.int x :: .int x :: r) h) fun x r => k (pc + 1) ls (.ref x :: .ref x :: r) h
  | .dup2 => pIR st no fun x y r => k (pc + 1) ls (.int x :: .ref y :: .int x :: .ref y :: r) h
  | .ifCond .eq _ => pI st no fun x r => if x = 0 then k (ax ai.2.2.1 0) ls r h else k (pc + 3) ls r h
  | .ifCond .ne _ => pI st no fun x r => if ¬ x = 0 then k (ax ai.2.2.1 0) ls r h else k (pc + 3) ls r h
  | .ifCond .lt _ => pI st no fun x r => if x < 0 then k (ax ai.2.2.1 0) ls r h else k (pc + 3) ls r h
  | .ifCond .ge _ => pI st no fun x r => if 0 ≤ x then k (ax ai.2.2.1 0) ls r h else k (pc + 3) ls r h
  | .ifCond .gt _ => pI st no fun x r => if 0 < x then k (ax ai.2.2.1 0) ls r h else k (pc + 3) ls r h
  | .ifCond .le _ => pI st no fun x r => if x ≤ 0 then k (ax ai.2.2.1 0) ls r h else k (pc + 3) ls r h
  | .if_icmp .eq _ => pII st no fun x y r => if x = y then k (ax ai.2.2.1 0) ls r h else k (pc + 3) ls r h
  | .if_icmp .ne _ => pII st no fun x y r => if ¬ x = y then k (ax ai.2.2.1 0) ls r h else k (pc + 3) ls r h
  | .if_icmp .lt _ => pII st no fun x y r => if x < y then k (ax ai.2.2.1 0) ls r h else k (pc + 3) ls r h
  | .if_icmp .ge _ => pII st no fun x y r => if y ≤ x then k (ax ai.2.2.1 0) ls r h else k (pc + 3) ls r h
  | .if_icmp .gt _ => pII st no fun x y r => if y < x then k (ax ai.2.2.1 0) ls r h else k (pc + 3) ls r h
  | .if_icmp .le _ => pII st no fun x y r => if x ≤ y then k (ax ai.2.2.1 0) ls r h else k (pc + 3) ls r h
  | .ifnull _ => pO st no (fun r => k (ax ai.2.2.1 0) ls r h) fun _ r => k (pc + 3) ls r h
  | .ifnonnull _ => pO st no (fun r => k (pc + 3) ls r h) fun _ r => k (ax ai.2.2.1 0) ls r h
  | .goto _ => k (ax ai.2.2.1 0) ls st h
  | .tableswitch _ _ _ _ => pI st no fun x r => swt x ai.2.2.2 (fun t => k t ls r h) (k (ax ai.2.2.1 0) ls r h)
  | .lookupswitch _ _ => pI st no fun x r => swt x ai.2.2.2 (fun t => k t ls r h) (k (ax ai.2.2.1 0) ls r h)
  | .getstatic _ => k (pc + 3) ls (.ref (ax ai.2.2.1 0) :: st) h
  | .getfield _ => pR st no fun a r => bif okT L θ h.1 a (4 + ax ai.2.2.1 0) then
      t4 (ax ai.2.2.1 2) (k (pc + 3) ls (.long (h.2.2.1 a (ax ai.2.2.1 1)) :: r) h) (oel (rd h.2.2.2 a (ax ai.2.2.1 1)) (k (pc + 3) ls (.null :: r) h) fun v => k (pc + 3) ls (.ref v :: r) h) (k (pc + 3) ls (.int (h.2.1 a (ax ai.2.2.1 1)) :: r) h) (k (pc + 3) ls (.int (h.2.1 a (ax ai.2.2.1 1)) :: r) h) else no
  | .putfield _ => t4 (ax ai.2.2.1 2)
      (pJR st no fun x a r => bif okT L θ h.1 a (4 + ax ai.2.2.1 0) then k (pc + 3) ls r (hJ h a (ax ai.2.2.1 1) x) else no)
      (pRR st no fun v a r => bif okT L θ h.1 a (4 + ax ai.2.2.1 0) then oS (wr h.2.2.2 a (ax ai.2.2.1 1) v) no (fun s => k (pc + 3) ls r (hR h s)) else no)
      (pIR st no fun x a r => bif okT L θ h.1 a (4 + ax ai.2.2.1 0) && b01 x then k (pc + 3) ls r (hI h a (upd (h.2.1 a) (ax ai.2.2.1 1) x)) else no)
      (pIR st no fun x a r => bif okT L θ h.1 a (4 + ax ai.2.2.1 0) then k (pc + 3) ls r (hI h a (upd (h.2.1 a) (ax ai.2.2.1 1) x)) else no)
  | .arraylength => pR st no fun a r => bif (Nat.ble (shT L a).1 3) && (Nat.blt a θ || Nat.blt a h.1) then k (pc + 1) ls (.int (Int32.ofNat (shT L a).2) :: r) h else no
  | .iaload => pIR st no fun i a r => bif okT L θ h.1 a 0 then (if i < 0 ∨ (shT L a).2 ≤ i.toNatClampNeg then no else k (pc + 1) ls (.int (rdI xs h.2.1 a i.toNatClampNeg) :: r) h) else no
  | .baload => pIR st no fun i a r => bif okT L θ h.1 a 1 then (if i < 0 ∨ (shT L a).2 ≤ i.toNatClampNeg then no else k (pc + 1) ls (.int (h.2.1 a i.toNatClampNeg) :: r) h) else no
  | .aaload => pIR st no fun i a r => bif (okT L θ h.1 a 2 || okT L θ h.1 a 3) then (if i < 0 ∨ (shT L a).2 ≤ i.toNatClampNeg then no else oel (rd h.2.2.2 a i.toNatClampNeg) (k (pc + 1) ls (.null :: r) h) fun v => k (pc + 1) ls (.ref v :: r) h) else no
  | .iastore => pIIR st no fun x i a r => bif okT L θ h.1 a 0 && Nat.ble 5 a then (if i < 0 ∨ (shT L a).2 ≤ i.toNatClampNeg then no else k (pc + 1) ls r (hI h a (upd (h.2.1 a) i.toNatClampNeg x))) else no
  | .bastore => pIIR st no fun x i a r => bif okT L θ h.1 a 1 then (if i < 0 ∨ (shT L a).2 ≤ i.toNatClampNeg then no else k (pc + 1) ls r (hI h a (upd (h.2.1 a) i.toNatClampNeg (vp_nar .boolean x)))) else no
  | .aastore => pRIR st no fun v i a r => bif okT L θ h.1 a 2 && okT L θ h.1 v 7 then (if i < 0 ∨ (shT L a).2 ≤ i.toNatClampNeg then no else oS (wr h.2.2.2 a i.toNatClampNeg v) no (fun s => k (pc + 1) ls r (hR h s))) else no
  | .new _ => bif Nat.beq (shT L h.1).1 (4 + ax ai.2.2.1 0) then k (pc + 3) ls (.ref h.1 :: st) (hN h 1) else no
  | .newarray _ => pI st no fun n r => bif Nat.beq (shT L h.1).1 (ax ai.2.2.1 0) && (Nat.beq (shT L h.1).2 n.toNatClampNeg && decide (¬ n < 0)) then k (pc + 2) ls (.ref h.1 :: r) (hN h 1) else no
  | .anewarray _ => pI st no fun n r => bif Nat.beq (shT L h.1).1 2 && (Nat.beq (shT L h.1).2 n.toNatClampNeg && decide (¬ n < 0)) then k (pc + 3) ls (.ref h.1 :: r) (hN h 1) else no
  | .multianewarray _ _ => pII st no fun n m r => bif (Nat.beq (shT L h.1).1 3 && (Nat.beq (shT L h.1).2 n.toNatClampNeg && decide (¬ n < 0))) && (shm L h.1 m.toNatClampNeg n.toNatClampNeg && decide (¬ m < 0)) then
      oS (wrm wr h.1 n.toNatClampNeg h.2.2.2) no (fun s => k (pc + 4) ls (.ref h.1 :: r) (hR (hN h (1 + n.toNatClampNeg)) s)) else no
  | .invokevirtual _ => tkm (ax ai.2.2.1 4) (tk (ax ai.2.2.1 1) [] st) no fun as r => hdR as no fun b => bif okT L θ h.1 b (4 + ax ai.2.2.1 3) then t3 (ax ai.2.2.1 2)
        (c (ax ai.2.2.1 0) as h fun v h1 => rV v no (k (pc + 3) ls r h1))
        (c (ax ai.2.2.1 0) as h fun v h1 => rI v no fun x => k (pc + 3) ls (.int x :: r) h1)
        (c (ax ai.2.2.1 0) as h fun v h1 => rJ v no fun x => k (pc + 3) ls (.long x :: r) h1)
        (c (ax ai.2.2.1 0) as h fun v h1 => rO v no (k (pc + 3) ls (.null :: r) h1) fun x => k (pc + 3) ls (.ref x :: r) h1) else no
  | .invokestatic _ => xk ai.2.2.1
      (pCpy st no fun n dp a sp a0 r => bif okT L θ h.1 a 0 && (Nat.ble 5 a && (okT L θ h.1 a0 0 && (Nat.ble 5 a0 && Nat.ble (csum r) 8))) then (if (sp < 0 ∨ dp < 0 ∨ n < 0) ∨ (shT L a0).2 < sp.toNatClampNeg + n.toNatClampNeg ∨ (shT L a).2 < dp.toNatClampNeg + n.toNatClampNeg then no else
          k (pc + 3) ls r (hI h a (va_cpy (h.2.1 a0) (h.2.1 a) sp.toNatClampNeg dp.toNatClampNeg n.toNatClampNeg))) else no)
      (pII st no fun x y r => bif Nat.ble (csum r) 8 then k (pc + 3) ls (.int (if x < y then y else x) :: r) h else no)
      (pII st no fun x y r => bif Nat.ble (csum r) 8 then k (pc + 3) ls (.int (if y < x then y else x) :: r) h else no)
      (pI st no fun x r => bif Nat.ble (csum r) 8 then k (pc + 3) ls (.int (if 0 ≤ x then x else 0 - x) :: r) h else no)
      (tkm (ax ai.2.2.1 4) (tk (ax ai.2.2.1 1) [] st) no fun as r => t3 (ax ai.2.2.1 2)
        (c (ax ai.2.2.1 0) as h fun v h1 => rV v no (k (pc + 3) ls r h1))
        (c (ax ai.2.2.1 0) as h fun v h1 => rI v no fun x => k (pc + 3) ls (.int x :: r) h1)
        (c (ax ai.2.2.1 0) as h fun v h1 => rJ v no fun x => k (pc + 3) ls (.long x :: r) h1)
        (c (ax ai.2.2.1 0) as h fun v h1 => rO v no (k (pc + 3) ls (.null :: r) h1) fun x => k (pc + 3) ls (.ref x :: r) h1))
  | .invokespecial _ => nk ai.2.2.1
      (pR st no fun _ r => bif Nat.ble (csum r) 8 then k (pc + 3) ls r h else no)
      (tkm (ax ai.2.2.1 4) (tk (ax ai.2.2.1 1) [] st) no fun as r => hdR as no fun _ => c (ax ai.2.2.1 0) as h fun v h1 => rV v no (k (pc + 3) ls r h1))
  | .ireturn => r1I st no fun x => bif Nat.beq (ax ai.2.2.1 0) 0 || b01 x then rt (some (.int x)) h else no
  | .lreturn => r1J st no fun x => rt (some (.long x)) h
  | .areturn => r1O st no (rt (some .null) h) fun x => rt (some (.ref x)) h
  | .return_ => r0 st no (rt none h)
  | _ => no

