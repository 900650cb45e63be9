/-! trees in plain numbers: edges, roots, plans -/
def TN (n : Nat) : Nat := if n = 4 then 3 else if n = 5 then 15 else if n = 6 then 105 else 1
def eN (n : Nat) : Nat := if n < 2 then 0 else 2 * n - 3
def dig (t k : Nat) : Nat := if k = 3 then t % 3 else if k = 4 then t / 3 % 5 else t / 15
abbrev PL : Type := List (Nat × Nat)
/-- a copy k is hung on the edge e; the first knot is b -/
def hangE (b k e : Nat) (es : PL) : PL := es.set e ((es.getD e (0, 0)).1, b + (k - 2)) ++ [(b + (k - 2), (es.getD e (0, 0)).2), (b + (k - 2), k)]
def edg3 (b t : Nat) : Nat → PL
  | 0 => [(0, b), (1, b), (2, b)]
  | m + 1 => hangE b (m + 3) (dig t (m + 3)) (edg3 b t m)
def edg (b n t : Nat) : PL := if n < 2 then [] else if n = 2 then [(0, 1)] else edg3 b t (n - 3)
/-- the ends below a knot x that was reached by the edge ea -/
def kidsF (es : PL) (x ea : Nat) : Nat → PL
  | 0 => []
  | j + 1 => kidsF es x ea j ++ (if j = ea then [] else if (es.getD j (0, 0)).1 = x then [((es.getD j (0, 0)).2, j)] else if (es.getD j (0, 0)).2 = x then [((es.getD j (0, 0)).1, j)] else [])
def kids (es : PL) (x ea : Nat) : PL := kidsF es x ea es.length
/-- from a root down: nodes with the edge above, and where those below begin -/
def fol (es : PL) : Nat → Nat → PL → List Nat → PL × List Nat
  | 0, _, q, bl => (q, bl)
  | f + 1, i, q, bl => if i < q.length then (if 6 ≤ (q.getD i (0, 0)).1 then fol es f (i + 1) (q ++ kids es (q.getD i (0, 0)).1 (q.getD i (0, 0)).2) (bl ++ [q.length]) else fol es f (i + 1) q (bl ++ [0])) else (q, bl)
def fol0 (es : PL) (e : Nat) : PL × List Nat := fol es 11 1 [(10, e), ((es.getD e (0, 0)).1, e), ((es.getD e (0, 0)).2, e)] [1]
/-- a plan: who is taken off to whom -/
abbrev CV : Type := Nat → Nat → Nat
def tk (dn : (Nat → Nat) → Nat → Nat) (a : Nat × Nat) (c : CV) : CV := fun w r => if w = a.2 then c w r + dn (c a.1) r else c w r
def exP (dn : (Nat → Nat) → Nat → Nat) : PL → CV → CV
  | [], c => c
  | a :: l, c => exP dn l (tk dn a c)
def indep (a b : Nat × Nat) : Bool := !(a.2 == b.1) && !(b.2 == a.1)
def pick (x : Nat × Nat) : PL → Option PL
  | [] => none
  | y :: ys => if x = y then some ys else if indep x y = true then (pick x ys).map (y :: ·) else none
def permOK : PL → PL → Bool
  | p, [] => p.isEmpty
  | p, x :: q => match pick x p with
    | none => false
    | some p' => permOK p' q
theorem tk_comm {dn : (Nat → Nat) → Nat → Nat} {a b : Nat × Nat} (h : indep a b = true) (c : CV) : tk dn a (tk dn b c) = tk dn b (tk dn a c) := by
  have h1 : a.2 ≠ b.1 ∧ b.2 ≠ a.1 := by simpa [indep] using h
  have e1 : (tk dn b c) a.1 = c a.1 := by
    funext r
    unfold tk
    rw [if_neg (Ne.symm h1.2)]
  have e2 : (tk dn a c) b.1 = c b.1 := by
    funext r
    unfold tk
    rw [if_neg (Ne.symm h1.1)]
  funext w r
  show (if w = a.2 then (tk dn b c) w r + dn ((tk dn b c) a.1) r else (tk dn b c) w r) = (if w = b.2 then (tk dn a c) w r + dn ((tk dn a c) b.1) r else (tk dn a c) w r)
  rw [e1, e2]
  unfold tk
  by_cases p : w = a.2 <;> by_cases q : w = b.2
  · rw [if_pos p, if_pos q, if_pos q, if_pos p]; omega
  · rw [if_pos p, if_neg q, if_neg q, if_pos p]
  · rw [if_neg p, if_pos q, if_pos q, if_neg p]
  · rw [if_neg p, if_neg q, if_neg q, if_neg p]
theorem pick_ex {dn : (Nat → Nat) → Nat → Nat} {x : Nat × Nat} : ∀ (p p' : PL), pick x p = some p' → ∀ c, exP dn p c = exP dn (x :: p') c := by
  intro p
  induction p with
  | nil => intro p' h; cases h
  | cons y ys ih =>
    intro p' h c
    unfold pick at h
    by_cases e : x = y
    · rw [if_pos e] at h
      cases h
      rw [e]
    · rw [if_neg e] at h
      by_cases i : indep x y = true
      · rw [if_pos i] at h
        cases hq : pick x ys with
        | none => rw [hq] at h; cases h
        | some q =>
          rw [hq] at h
          have h2 : y :: q = p' := Option.some.inj h
          subst h2
          show exP dn ys (tk dn y c) = exP dn q (tk dn y (tk dn x c))
          rw [ih q hq (tk dn y c)]
          show exP dn q (tk dn x (tk dn y c)) = _
          rw [tk_comm i]
      · rw [if_neg i] at h
        cases h
theorem perm_ex {dn : (Nat → Nat) → Nat → Nat} : ∀ (q p : PL), permOK p q = true → ∀ c, exP dn p c = exP dn q c := by
  intro q
  induction q with
  | nil =>
    intro p h c
    have : p = [] := by
      cases p with
      | nil => rfl
      | cons a l => simp [permOK] at h
    rw [this]
  | cons x q ih =>
    intro p h c
    unfold permOK at h
    cases hp : pick x p with
    | none => rw [hp] at h; cases h
    | some p' =>
      rw [hp] at h
      rw [pick_ex p p' hp c]
      show exP dn p' (tk dn x c) = exP dn q (tk dn x c)
      exact ih p' h _
/-- the reference's own order: a node with one edge left goes to its other end -/
def lastE (es : PL) (gone : Nat → Bool) (x : Nat) : Nat → Option Nat → Option (Option Nat)
  | 0, w => some w
  | j + 1, w => match lastE es gone x j w with
    | none => none
    | some w' => if !gone j && ((es.getD j (0, 0)).1 == x || (es.getD j (0, 0)).2 == x) then (match w' with
      | none => some (some j)
      | some _ => none) else some w'
/-- none: more than one, or none -/
def lastEd (es : PL) (gone : Nat → Bool) (x : Nat) : Option Nat := match lastE es gone x es.length none with
  | none => none
  | some w => w
def gset (gone : Nat → Bool) (e : Nat) : Nat → Bool := fun j => if j == e then true else gone j
/-- one round over the nodes from x on, nm - x of them -/
def passM (es : PL) (root : Nat) : Nat → Nat → (Nat → Bool) → Nat → PL → (Nat → Bool) × Nat × PL
  | 0, _, g, d, p => (g, d, p)
  | f + 1, x, g, d, p => match (if x = root then none else lastEd es g x) with
    | none => passM es root f (x + 1) g d p
    | some e => passM es root f (x + 1) (gset g e) (d + 1) (p ++ [(x, if (es.getD e (0, 0)).1 = x then (es.getD e (0, 0)).2 else (es.getD e (0, 0)).1)])
def planM (es : PL) (nm root : Nat) : Nat → (Nat → Bool) → Nat → PL → Option PL
  | 0, _, _, _ => none
  | f + 1, g, d, p => if es.length ≤ d then some p else match passM es root nm 0 g d p with
    | (g', d', p') => planM es nm root f g' d' p'
def plan0 (es : PL) (nm root : Nat) : Option PL := planM es nm root 20 (fun _ => false) 0 []
/-- the plan that the order of a descent gives: positions s-1 .. 0 -/
def planQ (q : PL) (bl : List Nat) : Nat → PL
  | 0 => []
  | i + 1 => (if 6 ≤ (q.getD i (0, 0)).1 then [((q.getD (bl.getD i 0) (0, 0)).1, (q.getD i (0, 0)).1), ((q.getD (bl.getD i 0 + 1) (0, 0)).1, (q.getD i (0, 0)).1)] else []) ++ planQ q bl i
/-- positions s-1 .. 1 only -/
def planQ1 (q : PL) (bl : List Nat) : Nat → PL
  | 0 => []
  | 1 => []
  | i + 2 => (if 6 ≤ (q.getD (i + 1) (0, 0)).1 then [((q.getD (bl.getD (i + 1) 0) (0, 0)).1, (q.getD (i + 1) (0, 0)).1), ((q.getD (bl.getD (i + 1) 0 + 1) (0, 0)).1, (q.getD (i + 1) (0, 0)).1)] else []) ++ planQ1 q bl (i + 1)
def rnm (n x : Nat) : Nat := if x = 10 then 2 * n - 2 else if 6 ≤ x then x - 6 + n else x
def dirE (es : PL) (e r : Nat) : PL := es.set e ((es.getD e (0, 0)).1, r) ++ [(r, (es.getD e (0, 0)).2)]
/-- a value for each place of a descent, from the end: at leaves by the node, at knots by the two below -/
def evG {α : Type} (q : PL) (bl : List Nat) (z : α) (lf : Nat → α) (kn : Nat → α → α → α) : Nat → Nat → α
  | 0 => fun _ => z
  | k + 1 => fun j => if j = q.length - 1 - k then (if (q.getD j (0, 0)).1 < 6 then lf (q.getD j (0, 0)).1 else kn j (evG q bl z lf kn k (bl.getD j 0)) (evG q bl z lf kn k (bl.getD j 0 + 1))) else evG q bl z lf kn k j
def evA {α : Type} (q : PL) (bl : List Nat) (z : α) (lf : Nat → α) (kn : Nat → α → α → α) : Nat → α := evG q bl z lf kn q.length
def szA (q : PL) (bl : List Nat) : Nat → Nat := evA q bl 0 (fun _ => 1) (fun _ a b => a + b + 1)
def sbA (q : PL) (bl : List Nat) : Nat → List Nat := evA q bl [] (fun _ => []) (fun j a b => j :: (a ++ b))
/-- what a descent is: places apart, those below behind, copies at the leaves -/
def folOK (n : Nat) (q : PL) (bl : List Nat) : Bool :=
  (q.length == 2 * n - 1) && (bl.length == q.length) && ((q.getD 0 (0, 0)).1 == 10) &&
  (List.range q.length).all (fun i => (decide ((q.getD i (0, 0)).1 < n) || (decide (6 ≤ (q.getD i (0, 0)).1) && decide (i < bl.getD i 0) && decide (bl.getD i 0 + 1 < q.length) && decide (n ≤ rnm n (q.getD i (0, 0)).1))) && decide (rnm n (q.getD i (0, 0)).1 ≤ 2 * n - 2) && (List.range i).all (fun j => !(rnm n (q.getD j (0, 0)).1 == rnm n (q.getD i (0, 0)).1)) && decide (szA q bl i ≤ 11))
def dirOK (n t e : Nat) : Bool := match fol0 (edg 6 n t) e with
  | (q, bl) => folOK n q bl && (match plan0 (dirE (edg n n t) e (2 * n - 2)) (2 * n - 1) (2 * n - 2) with
    | none => false
    | some p => permOK p ((planQ q bl q.length).map (fun (a : Nat × Nat) => (rnm n a.1, rnm n a.2))))
def undOK (n t : Nat) : Bool := match fol0 (edg 6 n t) 0 with
  | (q, bl) => folOK n q bl && ((q.getD 1 (0, 0)).1 == 0) && (bl.getD 0 0 == 1) && decide (List.Perm (sbA q bl 0) ((List.range q.length).filter (fun i => decide (6 ≤ (q.getD i (0, 0)).1)))) && (match plan0 (edg n n t) (2 * n - 2) 0 with
    | none => false
    | some p => permOK p ((planQ1 q bl q.length ++ [((q.getD 2 (0, 0)).1, 0)]).map (fun (a : Nat × Nat) => (rnm n a.1, rnm n a.2))))
