/-! ===== the program over whole numbers: values are (tag, number), a store is a function of cell and place ===== -/
abbrev VV : Type := Nat × Int
abbrev MM : Type := Int → Int → Int
abbrev RR : Type := Option (Int × MM)
abbrev XX : Type := Nat → Nat → List VV → List VV → MM → RR
def w32 (x : Int) : Int := (x + 2147483648) % 4294967296 - 2147483648
def w64 (x : Int) : Int := (x + 9223372036854775808) % 18446744073709551616 - 9223372036854775808
def up (μ : MM) (x i v : Int) : MM := fun y j => if y = x ∧ j = i then v else μ y j
def bnd (o : RR) (K : Int → MM → RR) : RR := match o with
  | none => none
  | some q => K q.1 q.2
def cty (x : Int) : Nat := (CT.getD x.toNat (99, 0)).1
def cln (x : Int) : Int := ((CT.getD x.toNat (99, 0)).2 : Nat)
def etg (y : Nat) : Nat := if y = 22 then 11 else if y = 23 then 10 else if y = 24 then 30 else 0
def stg (y : Nat) : Nat := if y = 21 then 3 else etg y
/-- the receiver of a field -/
def rcv (t : Nat) (x : Int) (b : Nat) (K : RR) : RR := if t = 40 + b then K else if t = 10 + b then (if x = 0 then none else K) else none
/-- an array, with the number of its kind -/
def rca (t : Nat) (x : Int) (K : Nat → RR) : RR := if 60 ≤ t ∧ t ≤ 64 then K (t - 40) else if 30 ≤ t ∧ t ≤ 34 then (if x = 0 then none else K (t - 10)) else none
/-- a value goes where tag p is asked -/
def cpt (t : Nat) (x : Int) (p : Nat) (K : RR) : RR :=
  if t = p then K
  else if p = 3 then (if t = 0 then (if x = 0 ∨ x = 1 then K else none) else none)
  else if 10 ≤ p ∧ p < 40 then (if t = p + 30 ∨ t = 8 then K else none)
  else if 40 ≤ p ∧ p < 70 then (if t + 30 = p then (if x = 0 then none else K) else none)
  else none
def cpa : List VV → List Nat → RR → RR
  | [], [], K => K
  | v :: vs, p :: ps, K => cpt v.1 v.2 p (cpa vs ps K)
  | _, _, _ => none
def ent : List VV → List Nat → List VV
  | v :: vs, p :: ps => if p = 1 then (1, v.2) :: (9, 0) :: ent vs ps else (p, v.2) :: ent vs ps
  | _, _ => []
def pad (n : Nat) (l : List VV) : List VV := l ++ List.replicate (n - l.length) (9, 0)
def cats : List VV → Nat
  | [] => 0
  | v :: r => (if v.1 = 1 then 2 else 1) + cats r
def lod (b t : Nat) : Bool := (b == 0 && t == 0) || (b == 1 && t == 1) || (b == 2 && (t == 8 || (decide (10 ≤ t) && decide (t < 70)) || t == 99))
def ast (a y t : Nat) : Bool := (a == 0 && y == 20) || (a == 1 && y == 21) || (a == 2 && ((y == 22 && t == 41) || (y == 23 && t == 40)))
def akd (a y : Nat) : Bool := (a == 0 && y == 20) || (a == 1 && y == 21) || (a == 2 && (y == 22 || y == 23 || y == 24))
def cmp (a : Nat) (x y : Int) (A B : RR) : RR := match a with
  | 0 => if x = y then A else B
  | 1 => if x = y then B else A
  | 2 => if x < y then A else B
  | 3 => if x < y then B else A
  | 4 => if y < x then A else B
  | 5 => if y < x then B else A
  | _ => none
def bin (a : Nat) (x y : Int) : Int := match a with
  | 0 => w32 (x + y)
  | 1 => w32 (x - y)
  | 2 => w32 (x * y)
  | 3 => (Int32.ofInt x &&& Int32.ofInt y).toInt
  | 4 => (Int32.ofInt x ||| Int32.ofInt y).toInt
  | 5 => (Int32.ofInt x <<< (Int32.ofInt y &&& 31)).toInt
  | _ => (Int32.ofInt x >>> (Int32.ofInt y &&& 31)).toInt
def swi (sw : List (Int × Nat)) (d : Nat) (x : Int) (J : Nat → RR) : RR := match sw with
  | [] => J d
  | q :: r => if x = q.1 then J q.2 else swi r d x J
def o0 (X : XX) (k nx a : Nat) (z : Int) (ls st : List VV) (μ : MM) : RR := X k nx ls ((a, z) :: st) μ
def o1 (X : XX) (k nx a b : Nat) (ls st : List VV) (μ : MM) : RR := match ls[a]? with
  | some v => if lod b v.1 = true then X k nx ls (v :: st) μ else none
  | none => none
def o2 (X : XX) (k nx a b : Nat) (ls st : List VV) (μ : MM) : RR := match st with
  | v :: r => if lod b v.1 = true ∧ v.1 ≠ 99 ∧ a + (if b = 1 then 1 else 0) < ls.length ∧ (a = 0 ∨ (ls.getD (a - 1) (9, 0)).1 ≠ 1) then X k nx (if b = 1 then (ls.set a v).set (a + 1) (9, 0) else ls.set a v) r μ else none
  | _ => none
def o3 (X : XX) (k nx a : Nat) (z : Int) (ls st : List VV) (μ : MM) : RR := match ls[a]? with
  | some v => if v.1 = 0 ∧ (a = 0 ∨ (ls.getD (a - 1) (9, 0)).1 ≠ 1) then X k nx (ls.set a (0, w32 (v.2 + z))) st μ else none
  | none => none
def o4 (X : XX) (k nx a : Nat) (ls st : List VV) (μ : MM) : RR := match st with
  | y :: x :: r => if x.1 = 0 ∧ y.1 = 0 then X k nx ls ((0, bin a x.2 y.2) :: r) μ else none
  | _ => none
def o5 (X : XX) (k nx a : Nat) (ls st : List VV) (μ : MM) : RR := match st with
  | y :: x :: r => if x.1 = 0 ∧ y.1 = 0 then (if y.2 = 0 then none else X k nx ls ((0, if a = 0 then w32 (Int.tdiv x.2 y.2) else Int.tmod x.2 y.2) :: r) μ) else none
  | _ => none
def o6 (X : XX) (k nx a : Nat) (ls st : List VV) (μ : MM) : RR := match st with
  | y :: x :: r => if x.1 = 1 ∧ y.1 = 1 then X k nx ls ((1, if a = 0 then w64 (x.2 + y.2) else w64 (x.2 * y.2)) :: r) μ else none
  | _ => none
def o7 (X : XX) (k nx a : Nat) (ls st : List VV) (μ : MM) : RR := match st with
  | y :: x :: r => if x.1 = 1 ∧ y.1 = 1 then (if y.2 = 0 then none else X k nx ls ((1, if a = 0 then w64 (Int.tdiv x.2 y.2) else Int.tmod x.2 y.2) :: r) μ) else none
  | _ => none
def o8 (X : XX) (k nx : Nat) (ls st : List VV) (μ : MM) : RR := match st with
  | y :: x :: r => if x.1 = 1 ∧ y.1 = 1 then X k nx ls ((0, if x.2 < y.2 then -1 else if x.2 = y.2 then 0 else 1) :: r) μ else none
  | _ => none
def o9 (X : XX) (k nx a : Nat) (ls st : List VV) (μ : MM) : RR := match st with
  | x :: r => if x.1 = 0 then X k nx ls ((if a = 0 then (0, w32 (- x.2)) else (1, x.2)) :: r) μ else none
  | _ => none
def o10 (X : XX) (k nx a b : Nat) (ls st : List VV) (μ : MM) : RR := match st with
  | x :: r => if x.1 = 0 then cmp a x.2 0 (X k b ls r μ) (X k nx ls r μ) else none
  | _ => none
def o11 (X : XX) (k nx a b : Nat) (ls st : List VV) (μ : MM) : RR := match st with
  | y :: x :: r => if x.1 = 0 ∧ y.1 = 0 then cmp a x.2 y.2 (X k b ls r μ) (X k nx ls r μ) else none
  | _ => none
def o12 (X : XX) (k nx a b : Nat) (ls st : List VV) (μ : MM) : RR := match st with
  | x :: r => if x.1 = 8 ∨ (10 ≤ x.1 ∧ x.1 < 70) then cmp a x.2 0 (X k b ls r μ) (X k nx ls r μ) else none
  | _ => none
def o14 (X : XX) (k b : Nat) (sw : List (Int × Nat)) (ls st : List VV) (μ : MM) : RR := match st with
  | x :: r => if x.1 = 0 then swi sw b x.2 (fun g => X k g ls r μ) else none
  | _ => none
def o15 (X : XX) (k nx a b c : Nat) (ls st : List VV) (μ : MM) : RR := match st with
  | x :: r => rcv x.1 x.2 b (X k nx ls ((if c = 3 then 0 else c, μ x.2 a) :: r) μ)
  | _ => none
def o16 (X : XX) (k nx a b c : Nat) (ls st : List VV) (μ : MM) : RR := match st with
  | v :: x :: r => rcv x.1 x.2 b (cpt v.1 v.2 c (X k nx ls r (up μ x.2 a v.2)))
  | _ => none
def o17 (X : XX) (k nx a : Nat) (ls st : List VV) (μ : MM) : RR := match st with
  | i :: x :: r => if i.1 = 0 then rca x.1 x.2 (fun y => if akd a y = true then (if 0 ≤ i.2 ∧ i.2 < cln x.2 then X k nx ls ((etg y, μ x.2 i.2) :: r) μ else none) else none) else none
  | _ => none
def o18 (X : XX) (k nx a : Nat) (ls st : List VV) (μ : MM) : RR := match st with
  | v :: i :: x :: r => if i.1 = 0 then rca x.1 x.2 (fun y => if ast a y v.1 = true then (if 0 ≤ i.2 ∧ i.2 < cln x.2 then cpt v.1 v.2 (stg y) (X k nx ls r (up μ x.2 i.2 v.2)) else none) else none) else none
  | _ => none
def o19 (X : XX) (k nx : Nat) (ls st : List VV) (μ : MM) : RR := match st with
  | x :: r => rca x.1 x.2 (fun _ => X k nx ls ((0, cln x.2) :: r) μ)
  | _ => none
def cal (X : XX) (k nx a c ml : Nat) (ps : List Nat) (vs : List VV) (ls rest : List VV) (μ : MM) : RR :=
  cpa vs ps (if cats rest ≤ 8 then bnd (X a 0 (pad ml (ent vs ps)) [] μ) (fun v μ' => X k nx ls (if c = 9 then rest else (c, v) :: rest) μ') else none)
def o20 (X : XX) (k nx a c : Nat) (sw : List (Int × Nat)) (ls st : List VV) (μ : MM) : RR := match sw with
  | q :: r => if q.2 ≤ st.length then cal X k nx a c q.1.toNat (r.map Prod.snd) ((st.take q.2).reverse) ls (st.drop q.2) μ else none
  | _ => none
def o21 (a c : Nat) (st : List VV) (μ : MM) : RR := match a, st with
  | 0, [] => some (0, μ)
  | 0, _ => none
  | _, [v] => cpt v.1 v.2 c (some (v.2, μ))
  | _, _ => none
def o22 (X : XX) (k nx : Nat) (ls st : List VV) (μ : MM) : RR := match st with
  | v :: r => if v.1 = 1 then none else X k nx ls (v :: v :: r) μ
  | _ => none
def o23 (X : XX) (k nx : Nat) (ls st : List VV) (μ : MM) : RR := match st with
  | v :: u :: r => if v.1 = 1 ∨ u.1 = 1 then none else X k nx ls (v :: u :: v :: u :: r) μ
  | _ => none
def o24 (X : XX) (k nx : Nat) (ls st : List VV) (μ : MM) : RR := match st with
  | v :: r => if v.1 = 1 then none else X k nx ls r μ
  | _ => none
/-- a new cell of a kind and length: the next one, as the table of cells says; all its places are 0 -/
def mak (μ : MM) (n : Int) : MM := fun y j => if y = n then 0 else if y = 0 ∧ j = 0 then n + 1 else μ y j
def o25 (X : XX) (k nx a : Nat) (ls st : List VV) (μ : MM) : RR :=
  if cty (μ 0 0) = a ∧ cln (μ 0 0) = (fnum a : Nat) then X k nx ls ((40 + a, μ 0 0) :: st) (mak μ (μ 0 0)) else none
def o26 (X : XX) (k nx a : Nat) (ls st : List VV) (μ : MM) : RR := match st with
  | v :: r => if v.1 = 0 ∧ 0 ≤ v.2 ∧ v.2 ≤ 100000 ∧ cty (μ 0 0) = a ∧ cln (μ 0 0) = v.2 then X k nx ls ((40 + a, μ 0 0) :: r) (mak μ (μ 0 0)) else none
  | _ => none
def mk2 (μ : MM) (n m o : Int) : MM := fun y j => if y = o then (if 0 ≤ j ∧ j < n then o + 1 + j else 0) else if o < y ∧ y ≤ o + n then 0 else if y = 0 ∧ j = 0 then o + 1 + n else μ y j
def o28 (X : XX) (k nx : Nat) (ls st : List VV) (μ : MM) : RR := match st with
  | v :: u :: r => if v.1 = 0 ∧ u.1 = 0 ∧ v.2 = 11 ∧ u.2 = 11 ∧ μ 0 0 = 27 then X k nx ls ((64, μ 0 0) :: r) (mk2 μ u.2 v.2 (μ 0 0)) else none
  | _ => none
def o29 (X : XX) (k nx : Nat) (ls st : List VV) (μ : MM) : RR := match st with
  | v :: r => if 40 ≤ v.1 ∧ v.1 < 50 ∧ cats r ≤ 8 then X k nx ls r μ else none
  | _ => none
def o30 (X : XX) (k nx : Nat) (ls st : List VV) (μ : MM) : RR := match st with
  | i :: x :: r => if i.1 = 0 ∧ x.1 = 99 ∧ 0 ≤ i.2 ∧ i.2 < μ 0 1 then X k nx ls ((0, μ (-1) i.2) :: r) μ else none
  | _ => none
def o31 (X : XX) (k nx : Nat) (ls st : List VV) (μ : MM) : RR := match st with
  | x :: r => if x.1 = 99 then X k nx ls ((0, μ 0 1) :: r) μ else none
  | _ => none
def o32 (X : XX) (k nx a : Nat) (ls st : List VV) (μ : MM) : RR := match a, st with
  | 0, y :: x :: r => if x.1 = 0 ∧ y.1 = 0 ∧ cats r ≤ 8 then X k nx ls ((0, if x.2 < y.2 then y.2 else x.2) :: r) μ else none
  | 1, y :: x :: r => if x.1 = 0 ∧ y.1 = 0 ∧ cats r ≤ 8 then X k nx ls ((0, if y.2 < x.2 then y.2 else x.2) :: r) μ else none
  | 2, x :: r => if x.1 = 0 ∧ cats r ≤ 8 then X k nx ls ((0, if 0 ≤ x.2 then x.2 else w32 (0 - x.2)) :: r) μ else none
  | _, _ => none
def stp (X : XX) (k : Nat) (i : II) (ls st : List VV) (μ : MM) : RR := match i with
  | (op, nx, a, b, c, _, z, sw) => match op with
    | 0 => o0 X k nx a z ls st μ
    | 1 => o1 X k nx a b ls st μ
    | 2 => o2 X k nx a b ls st μ
    | 3 => o3 X k nx a z ls st μ
    | 4 => o4 X k nx a ls st μ
    | 5 => o5 X k nx a ls st μ
    | 6 => o6 X k nx a ls st μ
    | 7 => o7 X k nx a ls st μ
    | 8 => o8 X k nx ls st μ
    | 9 => o9 X k nx a ls st μ
    | 10 => o10 X k nx a b ls st μ
    | 11 => o11 X k nx a b ls st μ
    | 12 => o12 X k nx a b ls st μ
    | 13 => X k b ls st μ
    | 14 => o14 X k b sw ls st μ
    | 15 => o15 X k nx a b c ls st μ
    | 16 => o16 X k nx a b c ls st μ
    | 17 => o17 X k nx a ls st μ
    | 18 => o18 X k nx a ls st μ
    | 19 => o19 X k nx ls st μ
    | 20 => o20 X k nx a c sw ls st μ
    | 21 => o21 a c st μ
    | 22 => o22 X k nx ls st μ
    | 23 => o23 X k nx ls st μ
    | 24 => o24 X k nx ls st μ
    | 25 => o25 X k nx a ls st μ
    | 26 => o26 X k nx a ls st μ
    | 27 => o26 X k nx a ls st μ
    | 28 => o28 X k nx ls st μ
    | 29 => o29 X k nx ls st μ
    | 30 => o30 X k nx ls st μ
    | 31 => o31 X k nx ls st μ
    | 32 => o32 X k nx a ls st μ
    | _ => none
def kil : List Nat → List VV → List VV
  | [], ls => ls
  | a :: r, ls => kil r (ls.set a (9, 0))
def kl0 : List (List (Nat × List Nat)) := [[], [], [(5, [1, 6]), (10, [1, 6]), (15, [1, 6]), (21, [1, 4, 6]), (27, [1, 4, 5, 6]), (30, [1, 4, 5]), (54, [1, 4, 5])], [(35, [1, 2]), (60, [2]), (65, [2]), (110, [0, 1, 2])], [], [], [], [(15, [1]), (20, [1, 2]), (25, [1, 2])], [], [(20, [1]), (30, [1, 2]), (40, [1, 2]), (50, [1, 2]), (90, [1, 2]), (91, [1, 2]), (92, [1, 2])], [], [], [], [], [], []]
def kl1 : List (List (Nat × List Nat)) := [[], [], [], [], [], [(5, [1])], [], [], [], [], [], [], [], [], [], []]
def kl2 : List (List (Nat × List Nat)) := [[], [], [], [(20, [4])], [], [], [], [], [], [], [], [], [], [], [], []]
def kl3 : List (List (Nat × List Nat)) := [[], [(2, [1])], [(2, [1])], [], [(4, [4])], [(6, [4])], [], [], [], [], [], [(2, [1])], [], [], [], []]
def kl4 : List (List (Nat × List Nat)) := [[], [], [], [], [(39, [3])], [(9, [0, 1, 2, 3, 9, 10])], [], [], [], [(15, [3])], [], [(8, [6, 7]), (20, [7]), (76, [3, 4]), (89, [7])], [], [], [(5, [4])], []]
def kl5 : List (List (Nat × List Nat)) := [[], [(10, [5])], [(3, [3])], [], [], [(15, [1])], [(9, [4, 5])], [(11, [6])], [(8, [1, 5]), (25, [1])], [(9, [3, 4])], [], [(11, [6])], [], [], [], [(31, [5])]]
def kl6 : List (List (Nat × List Nat)) := [[(3, [3, 6]), (13, [3])], [(14, [4])], [(3, [1])], [], [], [(9, [1])], [], [], [], [], [], [], [], [], [], []]
def kl7 : List (List (Nat × List Nat)) := [[], [], [], [], [], [], [], [], [], [], [], [], [], [], [], []]
def kl8 : List (List (Nat × List Nat)) := [[], [], [], [], [], [], [(37, [1])], [], [], [], [], [], [(4, [3, 4])], [], [], []]
def kl9 : List (List (Nat × List Nat)) := [[], [], [], [], [], [], [], [], [], [], [], [], [], [], [], []]
def kl10 : List (List (Nat × List Nat)) := [[(28, [4, 5]), (53, [4, 5]), (57, [4, 5]), (58, [4, 5]), (93, [4, 5]), (122, [0, 1, 2, 3, 4])], [(2, [3, 4]), (25, [4])], [(10, [5, 6, 7]), (84, [1, 2, 3, 5, 6, 7]), (95, [1, 2, 3, 7])], [], [], [(2, [2, 3, 4, 5]), (10, [3, 4, 5]), (34, [5])], [(6, [4])], [(17, [1, 2, 5, 6, 7]), (28, [1, 2, 7])], [], [], [], [], [], [], [], []]
def kl11 : List (List (Nat × List Nat)) := [[], [], [], [], [], [], [], [], [], [], [], [(67, [2, 5]), (74, [2, 3, 5]), (81, [2, 3, 5]), (91, [2, 3, 5]), (102, [2, 3, 4, 5]), (105, [2, 3, 4]), (127, [2, 3, 4]), (136, [2, 3, 4]), (159, [2, 3, 4]), (180, [2, 3, 4]), (191, [0, 1, 2, 3, 4, 5])], [(93, [2]), (106, [2, 3]), (132, [0, 1, 2, 3])], [(71, [2]), (81, [0, 1, 2])], [], []]
def kl12 : List (List (Nat × List Nat)) := [[], [], [], [], [], [(12, [2, 3]), (64, [3]), (130, [1, 3])], [], [(6, [2])], [], [], [], [], [], [(39, [5])], [], []]
def kl13 : List (List (Nat × List Nat)) := [[], [(4, [2])], [(4, [2])], [(6, [0, 1, 2, 3, 8, 9])], [], [(26, [4, 5, 6, 7, 8, 9]), (53, [5, 6, 7, 8, 9]), (61, [6, 7, 8, 9]), (72, [8, 9]), (112, [4]), (141, [4, 5, 6, 7, 8, 9])], [], [], [(9, [7, 8]), (23, [8])], [(5, [5])], [], [], [], [], [], []]
def kl14 : List (List (Nat × List Nat)) := [[(45, [2, 5]), (59, [2])], [(14, [3, 4]), (29, [3, 4]), (44, [3, 4]), (48, [3, 4]), (49, [3, 4]), (84, [3, 4]), (116, [0, 1, 2, 3])], [], [(6, [8])], [], [], [(39, [7, 8]), (63, [8]), (142, [4, 5, 8]), (163, [4, 5])], [], [], [], [(19, [0, 1, 2, 3, 4, 5, 6]), (50, [2, 6]), (55, [2, 6]), (95, [0, 1, 2, 3, 4, 5, 6]), (97, [2, 6]), (147, [0, 1, 2, 3, 4, 5, 6]), (168, [0, 1, 2, 3, 4, 5, 6]), (231, [0, 1, 2, 3, 4, 5, 6])], [], [], [], [], []]
def kl15 : List (List (Nat × List Nat)) := [[], [(22, [2, 3])], [], [], [], [], [], [], [], [(44, [5])], [], [], [], [(4, [3])], [], []]
def kl16 : List (List (Nat × List Nat)) := [[(2, [4])], [], [], [], [], [], [], [], [], [(9, [6])], [], [], [], [(7, [4, 5]), (19, [5]), (110, [5])], [(80, [8])], [(42, [1]), (73, [1]), (101, [1])]]
def kl17 : List (List (Nat × List Nat)) := [[]]
def klall : List (List (List (Nat × List Nat))) := [kl0, kl1, kl2, kl3, kl4, kl5, kl6, kl7, kl8, kl9, kl10, kl11, kl12, kl13, kl14, kl15, kl16, kl17]
def fnk : List (Nat × List Nat) → Nat → List Nat
  | [], _ => []
  | q :: r, pc => if q.1 = pc then q.2 else fnk r pc
/-- locals that are no more read from here on: their places are emptied -/
def kls (k pc : Nat) : List Nat := fnk ((klall.getD (k / 16) []).getD (k % 16) []) pc
noncomputable def ev : Nat → XX
  | 0 => fun _ _ _ _ _ => none
  | n + 1 => fun k pc ls st μ => match cod k pc with
    | none => none
    | some i => stp (ev n) k i (kil (kls k pc) ls) st μ
/-! ===== more fuel gives no other answer ===== -/
def Les (X Y : XX) : Prop := ∀ k pc ls st μ q, X k pc ls st μ = some q → Y k pc ls st μ = some q
theorem bnd_mono {o o' : RR} {K K' : Int → MM → RR} {q : Int × MM} (ho : ∀ q, o = some q → o' = some q) (hK : ∀ v μ q, K v μ = some q → K' v μ = some q) (h : bnd o K = some q) : bnd o' K' = some q := by
  cases o with
  | none => cases h
  | some p =>
    rw [ho p rfl]
    exact hK _ _ _ h
theorem ite_mono {c : Prop} [Decidable c] {A B A' B' : RR} {q : Int × MM} (hA : A = some q → A' = some q) (hB : B = some q → B' = some q) (h : (if c then A else B) = some q) : (if c then A' else B') = some q := by
  by_cases e : c
  · rw [if_pos e] at h ⊢; exact hA h
  · rw [if_neg e] at h ⊢; exact hB h
theorem rcv_mono {t : Nat} {x : Int} {b : Nat} {K K' : RR} {q : Int × MM} (hK : K = some q → K' = some q) (h : rcv t x b K = some q) : rcv t x b K' = some q :=
  ite_mono hK (ite_mono (ite_mono id hK) id) h
theorem cpt_mono {t : Nat} {x : Int} {b : Nat} {K K' : RR} {q : Int × MM} (hK : K = some q → K' = some q) (h : cpt t x b K = some q) : cpt t x b K' = some q :=
  ite_mono hK (ite_mono (ite_mono (ite_mono hK id) id) (ite_mono (ite_mono hK id) (ite_mono (ite_mono (ite_mono id hK) id) id))) h
theorem rca_mono {t : Nat} {x : Int} {K K' : Nat → RR} {q : Int × MM} (hK : ∀ y, K y = some q → K' y = some q) (h : rca t x K = some q) : rca t x K' = some q :=
  ite_mono (hK _) (ite_mono (ite_mono id (hK _)) id) h
theorem cmp_mono {a : Nat} {x y : Int} {A B A' B' : RR} {q : Int × MM} (hA : A = some q → A' = some q) (hB : B = some q → B' = some q) (h : cmp a x y A B = some q) : cmp a x y A' B' = some q := by
  unfold cmp at h ⊢
  split at h
  · exact ite_mono hA hB h
  · exact ite_mono hB hA h
  · exact ite_mono hA hB h
  · exact ite_mono hB hA h
  · exact ite_mono hA hB h
  · exact ite_mono hB hA h
  · cases h
theorem swi_mono {sw : List (Int × Nat)} {d : Nat} {x : Int} {J J' : Nat → RR} {q : Int × MM} (hJ : ∀ g, J g = some q → J' g = some q) (h : swi sw d x J = some q) : swi sw d x J' = some q := by
  induction sw with
  | nil => exact hJ _ h
  | cons p r ih =>
    unfold swi at h ⊢
    split at h
    · rename_i e; rw [if_pos e]; exact hJ _ h
    · rename_i e; rw [if_neg e]; exact ih h
theorem cpa_mono {K K' : RR} {q : Int × MM} (hK : K = some q → K' = some q) : ∀ (vs : List VV) (ps : List Nat), cpa vs ps K = some q → cpa vs ps K' = some q
  | [], [], h => hK h
  | v :: vs, p :: ps, h => cpt_mono (cpa_mono hK vs ps) h
  | [], _ :: _, h => by cases h
  | _ :: _, [], h => by cases h
theorem cal_mono {X Y : XX} (hX : Les X Y) {k nx a c ml : Nat} {ps : List Nat} {vs ls rest : List VV} {μ : MM} {q : Int × MM} (h : cal X k nx a c ml ps vs ls rest μ = some q) : cal Y k nx a c ml ps vs ls rest μ = some q :=
  cpa_mono (ite_mono (bnd_mono (hX _ _ _ _ _) (fun _ _ q h => hX _ _ _ _ _ q h)) id) vs ps h
theorem stp_mono {X Y : XX} (hX : Les X Y) {k : Nat} {i : II} {ls st : List VV} {μ : MM} {q : Int × MM} (h : stp X k i ls st μ = some q) : stp Y k i ls st μ = some q := by
  obtain ⟨op, nx, a, b, c, w, z, sw⟩ := i
  have hx : ∀ k pc ls st μ, X k pc ls st μ = some q → Y k pc ls st μ = some q := fun k pc ls st μ => hX k pc ls st μ q
  unfold stp at h ⊢
  dsimp only at h ⊢
  split at h
  · exact hx _ _ _ _ _ h
  · unfold o1 at h ⊢; split at h
    · exact ite_mono (hx _ _ _ _ _) id h
    · cases h
  · unfold o2 at h ⊢; split at h
    · exact ite_mono (hx _ _ _ _ _) id h
    · cases h
  · unfold o3 at h ⊢; split at h
    · exact ite_mono (hx _ _ _ _ _) id h
    · cases h
  · unfold o4 at h ⊢; split at h
    · exact ite_mono (hx _ _ _ _ _) id h
    · cases h
  · unfold o5 at h ⊢; split at h
    · exact ite_mono (ite_mono id (hx _ _ _ _ _)) id h
    · cases h
  · unfold o6 at h ⊢; split at h
    · exact ite_mono (hx _ _ _ _ _) id h
    · cases h
  · unfold o7 at h ⊢; split at h
    · exact ite_mono (ite_mono id (hx _ _ _ _ _)) id h
    · cases h
  · unfold o8 at h ⊢; split at h
    · exact ite_mono (hx _ _ _ _ _) id h
    · cases h
  · unfold o9 at h ⊢; split at h
    · exact ite_mono (hx _ _ _ _ _) id h
    · cases h
  · unfold o10 at h ⊢; split at h
    · exact ite_mono (cmp_mono (hx _ _ _ _ _) (hx _ _ _ _ _)) id h
    · cases h
  · unfold o11 at h ⊢; split at h
    · exact ite_mono (cmp_mono (hx _ _ _ _ _) (hx _ _ _ _ _)) id h
    · cases h
  · unfold o12 at h ⊢; split at h
    · exact ite_mono (cmp_mono (hx _ _ _ _ _) (hx _ _ _ _ _)) id h
    · cases h
  · exact hx _ _ _ _ _ h
  · unfold o14 at h ⊢; split at h
    · exact ite_mono (swi_mono (fun _ => hx _ _ _ _ _)) id h
    · cases h
  · unfold o15 at h ⊢; split at h
    · exact rcv_mono (hx _ _ _ _ _) h
    · cases h
  · unfold o16 at h ⊢; split at h
    · exact rcv_mono (cpt_mono (hx _ _ _ _ _)) h
    · cases h
  · unfold o17 at h ⊢; split at h
    · exact ite_mono (rca_mono (fun _ => ite_mono (ite_mono (hx _ _ _ _ _) id) id)) id h
    · cases h
  · unfold o18 at h ⊢; split at h
    · exact ite_mono (rca_mono (fun _ => ite_mono (ite_mono (cpt_mono (hx _ _ _ _ _)) id) id)) id h
    · cases h
  · unfold o19 at h ⊢; split at h
    · exact rca_mono (fun _ => hx _ _ _ _ _) h
    · cases h
  · unfold o20 at h ⊢; split at h
    · exact ite_mono (cal_mono hX) id h
    · cases h
  · exact h
  · unfold o22 at h ⊢; split at h
    · exact ite_mono id (hx _ _ _ _ _) h
    · cases h
  · unfold o23 at h ⊢; split at h
    · exact ite_mono id (hx _ _ _ _ _) h
    · cases h
  · unfold o24 at h ⊢; split at h
    · exact ite_mono id (hx _ _ _ _ _) h
    · cases h
  · exact ite_mono (hx _ _ _ _ _) id h
  · unfold o26 at h ⊢; split at h
    · exact ite_mono (hx _ _ _ _ _) id h
    · cases h
  · unfold o26 at h ⊢; split at h
    · exact ite_mono (hx _ _ _ _ _) id h
    · cases h
  · unfold o28 at h ⊢; split at h
    · exact ite_mono (hx _ _ _ _ _) id h
    · cases h
  · unfold o29 at h ⊢; split at h
    · exact ite_mono (hx _ _ _ _ _) id h
    · cases h
  · unfold o30 at h ⊢; split at h
    · exact ite_mono (hx _ _ _ _ _) id h
    · cases h
  · unfold o31 at h ⊢; split at h
    · exact ite_mono (hx _ _ _ _ _) id h
    · cases h
  · unfold o32 at h ⊢; split at h
    · exact ite_mono (hx _ _ _ _ _) id h
    · exact ite_mono (hx _ _ _ _ _) id h
    · exact ite_mono (hx _ _ _ _ _) id h
    · cases h
  · cases h
theorem ev_step : ∀ n, Les (ev n) (ev (n + 1))
  | 0 => fun _ _ _ _ _ _ h => by cases h
  | n + 1 => fun k pc ls st μ q h => by
    show (match cod k pc with | none => none | some i => stp (ev (n + 1)) k i (kil (kls k pc) ls) st μ) = some q
    have h' : (match cod k pc with | none => none | some i => stp (ev n) k i (kil (kls k pc) ls) st μ) = some q := h
    revert h'
    cases cod k pc with
    | none => exact fun h => by cases h
    | some i => exact fun h => stp_mono (ev_step n) h
theorem ev_le {n m : Nat} (h : n ≤ m) : Les (ev n) (ev m) := by
  induction h with
  | refl => exact fun _ _ _ _ _ _ h => h
  | step _ ih => exact fun k pc ls st μ q h => ev_step _ k pc ls st μ q (ih k pc ls st μ q h)
/-- the answer, with fuel enough -/
noncomputable def EE : XX := fun k pc ls st μ => @dite RR (∃ n q, ev n k pc ls st μ = some q) (Classical.propDecidable _) (fun h => some h.choose_spec.choose) (fun _ => none)
theorem EE_of {n k pc : Nat} {ls st : List VV} {μ : MM} {q : Int × MM} (h : ev n k pc ls st μ = some q) : EE k pc ls st μ = some q := by
  have he : ∃ n q, ev n k pc ls st μ = some q := ⟨n, q, h⟩
  unfold EE
  rw [dif_pos he]
  have h2 := he.choose_spec.choose_spec
  have h3 := ev_le (Nat.le_max_left n he.choose) _ _ _ _ _ _ h
  have h4 := ev_le (Nat.le_max_right n he.choose) _ _ _ _ _ _ h2
  exact h4.symm.trans h3
theorem EE_to {k pc : Nat} {ls st : List VV} {μ : MM} {q : Int × MM} (h : EE k pc ls st μ = some q) : ∃ n, ev n k pc ls st μ = some q := by
  unfold EE at h
  by_cases he : ∃ n q, ev n k pc ls st μ = some q
  · rw [dif_pos he] at h
    have h2 := he.choose_spec.choose_spec
    rw [h] at h2
    exact ⟨_, h2⟩
  · rw [dif_neg he] at h
    cases h
/-! ===== the answer meets the program's own equation ===== -/
theorem ite_ct {c : Prop} [Decidable c] {A B : RR} {A' B' : Nat → RR} {q : Int × MM} (hA : A = some q → ∃ n, A' n = some q) (hB : B = some q → ∃ n, B' n = some q) (h : (if c then A else B) = some q) : ∃ n, (if c then A' n else B' n) = some q := by
  by_cases e : c
  · rw [if_pos e] at h
    obtain ⟨n, hn⟩ := hA h
    exact ⟨n, by rw [if_pos e]; exact hn⟩
  · rw [if_neg e] at h
    obtain ⟨n, hn⟩ := hB h
    exact ⟨n, by rw [if_neg e]; exact hn⟩
theorem non_ct {q : Int × MM} {B' : Nat → RR} (h : (none : RR) = some q) : ∃ n, B' n = some q := by cases h
theorem rcv_ct {t : Nat} {x : Int} {b : Nat} {K : RR} {K' : Nat → RR} {q : Int × MM} (hK : K = some q → ∃ n, K' n = some q) (h : rcv t x b K = some q) : ∃ n, rcv t x b (K' n) = some q :=
  ite_ct hK (ite_ct (ite_ct non_ct hK) non_ct) h
theorem cpt_ct {t : Nat} {x : Int} {b : Nat} {K : RR} {K' : Nat → RR} {q : Int × MM} (hK : K = some q → ∃ n, K' n = some q) (h : cpt t x b K = some q) : ∃ n, cpt t x b (K' n) = some q :=
  ite_ct hK (ite_ct (ite_ct (ite_ct hK non_ct) non_ct) (ite_ct (ite_ct hK non_ct) (ite_ct (ite_ct (ite_ct non_ct hK) non_ct) non_ct))) h
theorem rca_ct {t : Nat} {x : Int} {K : Nat → RR} {K' : Nat → Nat → RR} {q : Int × MM} (hK : ∀ y, K y = some q → ∃ n, K' n y = some q) (h : rca t x K = some q) : ∃ n, rca t x (K' n) = some q :=
  ite_ct (hK _) (ite_ct (ite_ct non_ct (hK _)) non_ct) h
theorem cmp_ct {a : Nat} {x y : Int} {A B : RR} {A' B' : Nat → RR} {q : Int × MM} (hA : A = some q → ∃ n, A' n = some q) (hB : B = some q → ∃ n, B' n = some q) (h : cmp a x y A B = some q) : ∃ n, cmp a x y (A' n) (B' n) = some q := by
  unfold cmp at h ⊢
  split at h
  · exact ite_ct hA hB h
  · exact ite_ct hB hA h
  · exact ite_ct hA hB h
  · exact ite_ct hB hA h
  · exact ite_ct hA hB h
  · exact ite_ct hB hA h
  · cases h
theorem swi_ct {d : Nat} {x : Int} {J : Nat → RR} {J' : Nat → Nat → RR} {q : Int × MM} (hJ : ∀ g, J g = some q → ∃ n, J' n g = some q) : ∀ (sw : List (Int × Nat)), swi sw d x J = some q → ∃ n, swi sw d x (J' n) = some q
  | [], h => hJ _ h
  | p :: r, h => ite_ct (A := J p.2) (B := swi r d x J) (A' := fun n => J' n p.2) (B' := fun n => swi r d x (J' n)) (hJ _) (swi_ct hJ r) h
theorem cpa_ct {K : RR} {K' : Nat → RR} {q : Int × MM} (hK : K = some q → ∃ n, K' n = some q) : ∀ (vs : List VV) (ps : List Nat), cpa vs ps K = some q → ∃ n, cpa vs ps (K' n) = some q
  | [], [], h => hK h
  | v :: vs, p :: ps, h => cpt_ct (K := cpa vs ps K) (K' := fun n => cpa vs ps (K' n)) (cpa_ct hK vs ps) h
  | [], _ :: _, h => by cases h
  | _ :: _, [], h => by cases h
theorem cal_ct {k nx a c ml : Nat} {ps : List Nat} {vs ls rest : List VV} {μ : MM} {q : Int × MM} (h : cal EE k nx a c ml ps vs ls rest μ = some q) : ∃ n, cal (ev n) k nx a c ml ps vs ls rest μ = some q := by
  refine cpa_ct (K' := fun n => if cats rest ≤ 8 then bnd (ev n a 0 (pad ml (ent vs ps)) [] μ) (fun v μ' => ev n k nx ls (if c = 9 then rest else (c, v) :: rest) μ') else none) (ite_ct (A' := fun n => bnd (ev n a 0 (pad ml (ent vs ps)) [] μ) (fun v μ' => ev n k nx ls (if c = 9 then rest else (c, v) :: rest) μ')) (B' := fun _ => none) ?_ non_ct) vs ps h
  intro h
  cases ho : EE a 0 (pad ml (ent vs ps)) [] μ with
  | none => rw [ho] at h; cases h
  | some p =>
    rw [ho] at h
    obtain ⟨n1, h1⟩ := EE_to ho
    obtain ⟨n2, h2⟩ := EE_to (show EE k nx ls (if c = 9 then rest else (c, p.1) :: rest) p.2 = some q from h)
    refine ⟨max n1 n2, ?_⟩
    show bnd (ev (max n1 n2) a 0 (pad ml (ent vs ps)) [] μ) _ = some q
    rw [ev_le (Nat.le_max_left n1 n2) _ _ _ _ _ _ h1]
    exact ev_le (Nat.le_max_right n1 n2) _ _ _ _ _ _ h2
theorem stp_ct {k : Nat} {i : II} {ls st : List VV} {μ : MM} {q : Int × MM} (h : stp EE k i ls st μ = some q) : ∃ n, stp (ev n) k i ls st μ = some q := by
  obtain ⟨op, nx, a, b, c, w, z, sw⟩ := i
  have hx : ∀ {k pc ls st μ}, EE k pc ls st μ = some q → ∃ n, ev n k pc ls st μ = some q := fun h => EE_to h
  unfold stp at h ⊢
  dsimp only at h ⊢
  split at h
  · exact hx h
  · unfold o1 at h ⊢; split at h
    · exact ite_ct hx non_ct h
    · cases h
  · unfold o2 at h ⊢; split at h
    · exact ite_ct hx non_ct h
    · cases h
  · unfold o3 at h ⊢; split at h
    · exact ite_ct hx non_ct h
    · cases h
  · unfold o4 at h ⊢; split at h
    · exact ite_ct hx non_ct h
    · cases h
  · unfold o5 at h ⊢; split at h
    · exact ite_ct (ite_ct non_ct hx) non_ct h
    · cases h
  · unfold o6 at h ⊢; split at h
    · exact ite_ct hx non_ct h
    · cases h
  · unfold o7 at h ⊢; split at h
    · exact ite_ct (ite_ct non_ct hx) non_ct h
    · cases h
  · unfold o8 at h ⊢; split at h
    · exact ite_ct hx non_ct h
    · cases h
  · unfold o9 at h ⊢; split at h
    · exact ite_ct hx non_ct h
    · cases h
  · unfold o10 at h ⊢; split at h
    · exact ite_ct (cmp_ct hx hx) non_ct h
    · cases h
  · unfold o11 at h ⊢; split at h
    · exact ite_ct (cmp_ct hx hx) non_ct h
    · cases h
  · unfold o12 at h ⊢; split at h
    · exact ite_ct (cmp_ct hx hx) non_ct h
    · cases h
  · exact hx h
  · unfold o14 at h ⊢; split at h
    · exact ite_ct (swi_ct (fun _ => hx) _) non_ct h
    · cases h
  · unfold o15 at h ⊢; split at h
    · exact rcv_ct hx h
    · cases h
  · unfold o16 at h ⊢; split at h
    · exact rcv_ct (cpt_ct hx) h
    · cases h
  · unfold o17 at h ⊢; split at h
    · exact ite_ct (rca_ct (fun _ => ite_ct (ite_ct hx non_ct) non_ct)) non_ct h
    · cases h
  · unfold o18 at h ⊢; split at h
    · exact ite_ct (rca_ct (fun _ => ite_ct (ite_ct (cpt_ct hx) non_ct) non_ct)) non_ct h
    · cases h
  · unfold o19 at h ⊢; split at h
    · exact rca_ct (fun _ => hx) h
    · cases h
  · unfold o20 at h ⊢; split at h
    · exact ite_ct cal_ct non_ct h
    · cases h
  · exact ⟨0, h⟩
  · unfold o22 at h ⊢; split at h
    · exact ite_ct non_ct hx h
    · cases h
  · unfold o23 at h ⊢; split at h
    · exact ite_ct non_ct hx h
    · cases h
  · unfold o24 at h ⊢; split at h
    · exact ite_ct non_ct hx h
    · cases h
  · exact ite_ct hx non_ct h
  · unfold o26 at h ⊢; split at h
    · exact ite_ct hx non_ct h
    · cases h
  · unfold o26 at h ⊢; split at h
    · exact ite_ct hx non_ct h
    · cases h
  · unfold o28 at h ⊢; split at h
    · exact ite_ct hx non_ct h
    · cases h
  · unfold o29 at h ⊢; split at h
    · exact ite_ct hx non_ct h
    · cases h
  · unfold o30 at h ⊢; split at h
    · exact ite_ct hx non_ct h
    · cases h
  · unfold o31 at h ⊢; split at h
    · exact ite_ct hx non_ct h
    · cases h
  · unfold o32 at h ⊢; split at h
    · exact ite_ct hx non_ct h
    · exact ite_ct hx non_ct h
    · exact ite_ct hx non_ct h
    · cases h
  · cases h
theorem EE_eq (k pc : Nat) (ls st : List VV) (μ : MM) : EE k pc ls st μ = (match cod k pc with | none => none | some i => stp EE k i (kil (kls k pc) ls) st μ) := by
  have h1 : ∀ q, EE k pc ls st μ = some q → (match cod k pc with | none => none | some i => stp EE k i (kil (kls k pc) ls) st μ) = some q := by
    intro q h
    obtain ⟨n, hn⟩ := EE_to h
    cases n with
    | zero => cases hn
    | succ n =>
      have h' : (match cod k pc with | none => none | some i => stp (ev n) k i (kil (kls k pc) ls) st μ) = some q := hn
      revert h'
      cases cod k pc with
      | none => exact fun h => by cases h
      | some i => exact fun h => stp_mono (fun _ _ _ _ _ _ h => EE_of h) h
  have h2 : ∀ q, (match cod k pc with | none => none | some i => stp EE k i (kil (kls k pc) ls) st μ) = some q → EE k pc ls st μ = some q := by
    intro q h
    have : ∃ n, (match cod k pc with | none => none | some i => stp (ev n) k i (kil (kls k pc) ls) st μ) = some q := by
      revert h
      cases cod k pc with
      | none => exact fun h => by cases h
      | some i => exact fun h => stp_ct h
    obtain ⟨n, hn⟩ := this
    exact EE_of (n := n + 1) hn
  cases h : EE k pc ls st μ with
  | some q => exact (h1 q h).symm
  | none =>
    cases h' : (match cod k pc with | none => none | some i => stp EE k i (kil (kls k pc) ls) st μ) with
    | none => rfl
    | some q => rw [h2 q h'] at h; cases h
/-- the program's text laid out from pc on: to the places cut, to calls and answers -/
noncomputable def unr (cut : List Nat) (k0 : Nat) : Nat → Nat → List VV → List VV → MM → RR
  | 0 => fun pc ls st μ => EE k0 pc ls st μ
  | c + 1 => fun pc ls st μ => match cod k0 pc with
    | none => none
    | some i => stp (fun k pc' ls' st' μ' => if k = k0 then (if cut.contains pc' = true then EE k pc' ls' st' μ' else unr cut k0 c pc' ls' st' μ') else EE k pc' ls' st' μ') k0 i (kil (kls k0 pc) ls) st μ
theorem unr_eq (cut : List Nat) (k0 : Nat) : ∀ (c pc : Nat) (ls st : List VV) (μ : MM), EE k0 pc ls st μ = unr cut k0 c pc ls st μ
  | 0, _, _, _, _ => rfl
  | c + 1, pc, ls, st, μ => by
    rw [EE_eq]
    unfold unr
    cases cod k0 pc with
    | none => rfl
    | some i =>
      have hX : (fun k pc' ls' st' μ' => if k = k0 then (if cut.contains pc' = true then EE k pc' ls' st' μ' else unr cut k0 c pc' ls' st' μ') else EE k pc' ls' st' μ') = EE := by
        funext k pc' ls' st' μ'
        by_cases e : k = k0
        · subst e
          rw [if_pos rfl, ← unr_eq cut k c]
          split <;> rfl
        · rw [if_neg e]
      show stp EE k0 i (kil (kls k0 pc) ls) st μ = stp (fun k pc' ls' st' μ' => if k = k0 then (if cut.contains pc' = true then EE k pc' ls' st' μ' else unr cut k0 c pc' ls' st' μ') else EE k pc' ls' st' μ') k0 i (kil (kls k0 pc) ls) st μ
      rw [hX]
