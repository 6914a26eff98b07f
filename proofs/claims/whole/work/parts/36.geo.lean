/-! Squares, rays, leaps: what can be seen on an empty board is decided square by square. -/
def onB (f r : Int) : Bool := (decide (0 ≤ f) && decide (f < 8)) && (decide (0 ≤ r) && decide (r < 8))
def WF : List Int := [-1, 0, 1, -1, 1, -1, 0, 1]
def WR : List Int := [-1, -1, -1, 0, 0, 1, 1, 1]
def LF : List Int := [-1, 1, -2, 2, -2, 2, -1, 1]
def LR : List Int := [-2, -2, -1, -1, 1, 1, 2, 2]
def ray (df dr : Int) : Nat → Int → Int → List Int
  | 0, _, _ => []
  | k + 1, f, r => match onB (f + df) (r + dr) with
    | true => (8 * (r + dr) + (f + df)) :: ray df dr k (f + df) (r + dr)
    | false => []
def raySq (sq : Int) (w : Nat) : List Int := ray (WF.getD w 0) (WR.getD w 0) 7 (sq % 8) (sq / 8)
def leapSq (sq : Int) : List Int := (List.range 8).filterMap (fun w => match onB (sq % 8 + LF.getD w 0) (sq / 8 + LR.getD w 0) with
  | true => some (8 * (sq / 8 + LR.getD w 0) + (sq % 8 + LF.getD w 0))
  | false => none)
def diag (w : Nat) : Bool := !(WF.getD w 0 == 0) && !(WR.getD w 0 == 0)
def sz (x : Int) : Int := if x < 0 then -x else x
def gdf (a b : Int) : Int := sz (b % 8 - a % 8)
def gdr (a b : Int) : Int := b / 8 - a / 8
def gsl (a b : Int) : Bool := (gdf a b == sz (gdr a b)) && decide (0 < gdf a b)
def gln (a b : Int) : Bool := (gdf a b == 0) != (gdr a b == 0)
def gkn (a b : Int) : Bool := gdf a b * sz (gdr a b) == 2
def gkg (a b : Int) : Bool := decide (gdf a b ≤ 1) && (decide (sz (gdr a b) ≤ 1) && !(a == b))
def gpw (up : Int) (a b : Int) : Bool := (gdf a b == 1) && (gdr a b == up)
def sgn (x : Int) : Int := if 0 < x then 1 else if x < 0 then -1 else 0
def gst (a b : Int) : Int := sgn (b % 8 - a % 8) + 8 * sgn (b / 8 - a / 8)
def walk (step to : Int) : Nat → Int → List Int
  | 0, _ => []
  | k + 1, s => if s = to then [] else s :: walk step to k (s + step)
def path (a b : Int) : List Int := walk (gst a b) b 8 (a + gst a b)
def sq64 : List Int := (List.range 64).map (fun (n : Nat) => (n : Int))
def raysOf (sq : Int) : List Int := (List.range 8).flatMap (raySq sq)
def restOf (sq : Int) : List Int := sq64.filter (fun s => !(s == sq) && (!((raysOf sq).contains s) && !((leapSq sq).contains s)))
def rayOk (sq : Int) (w : Nat) (r : List Int) : Nat → List Int → Bool
  | _, [] => true
  | i, t :: l => ((((gsl t sq == diag w) && (gln t sq == !diag w)) && ((gkn t sq == false) && (gkg t sq == (i == 0)))) && (((path t sq == (r.take i).reverse) && (path sq t == r.take i)) && ((gsl sq t == diag w) && (gln sq t == !diag w)))) && (((gkn sq t == false) && (gkg sq t == (i == 0))) && (((gpw 1 t sq == ((i == 0) && (diag w && (WR.getD w 0 == -1)))) && (gpw (-1) t sq == ((i == 0) && (diag w && (WR.getD w 0 == 1))))) && ((decide (0 ≤ t) && decide (t < 64)) && (t - sq == (i + 1) * (8 * WR.getD w 0 + WF.getD w 0))))) && rayOk sq w r (i + 1) l
def leapOk (sq t : Int) : Bool := ((gsl t sq == false) && (gln t sq == false)) && ((gkn t sq == true) && (gkg t sq == false)) && ((gpw 1 t sq == false) && (gpw (-1) t sq == false)) && ((decide (0 ≤ t) && decide (t < 64)) && ((gkn sq t == true) && ((gsl sq t == false) && ((gln sq t == false) && (gkg sq t == false)))))
def restOk (sq t : Int) : Bool := ((gsl t sq == false) && (gln t sq == false)) && ((gkn t sq == false) && (gkg t sq == false)) && ((gpw 1 t sq == false) && (gpw (-1) t sq == false)) && (((gkn sq t == false) && ((gsl sq t == false) && ((gln sq t == false) && (gkg sq t == false)))))
set_option maxRecDepth 100000 in
theorem geo_perm : ∀ n : Nat, n < 64 → ((n : Int) :: (raysOf n ++ (leapSq n ++ restOf n))).isPerm sq64 = true := by decide +kernel
set_option maxRecDepth 100000 in
theorem geo_ray : ∀ n : Nat, n < 64 → ∀ w, w < 8 → rayOk n w (raySq n w) 0 (raySq n w) = true := by decide +kernel
set_option maxRecDepth 100000 in
theorem geo_leap : ∀ n : Nat, n < 64 → (leapSq n).all (leapOk n) = true := by decide +kernel
set_option maxRecDepth 100000 in
theorem geo_rest : ∀ n : Nat, n < 64 → (restOf n).all (restOk n) = true := by decide +kernel
set_option maxRecDepth 100000 in
theorem geo_self : ∀ n : Nat, n < 64 → restOk n n = true := by decide +kernel
set_option maxRecDepth 100000 in
theorem geo_len : ∀ n : Nat, n < 64 → (raysOf n).length ≤ 27 ∧ (leapSq n).length ≤ 8 := by decide +kernel
set_option maxRecDepth 100000 in
theorem geo_path : ∀ a : Nat, a < 64 → ∀ b : Nat, b < 64 → ((!(gsl a b) && !(gln a b)) || (path a b).all (fun s => decide (0 ≤ s) && decide (s < 64))) = true := by decide +kernel
