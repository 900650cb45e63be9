/-- all that may change is whole numbers: cell c, place k -/
abbrev Mem : Type := Nat → Nat → Int32
def stm (σ : Mem) (c k : Nat) (v : Int32) : Mem := fun c' => if c' = c then upd (σ c) k v else σ c'
theorem stm_at (σ : Mem) (c k : Nat) (v : Int32) : stm σ c k v c = upd (σ c) k v := by simp [stm]
theorem stm_ne {σ : Mem} {c k : Nat} {v : Int32} {c' : Nat} (h : c' ≠ c) : stm σ c k v c' = σ c' := by simp [stm, h]
/-- a cell of the one world: an array (ints or booleans, its length), or an object (its class's number, its fields: a cell's number, or a whole number) -/
abbrev LD : Type := (Bool × Nat) ⊕ (Nat × List (Option Nat))
def LY : List LD :=
  [.inr (8, [some 1, some 4, some 7, some 10, some 15, some 19, some 23, some 25, some 30, some 41, some 43, some 45, some 47, none, none, none]),
   .inr (6, [some 2, none]), .inr (5, [some 3]), .inl (true, 90),
   .inr (4, [some 5, none, none]), .inr (5, [some 6]), .inl (true, 48),
   .inr (4, [some 8, none, none]), .inr (5, [some 9]), .inl (true, 48),
   .inr (1, [some 11, some 13, none]), .inr (5, [some 12]), .inl (true, 10), .inr (5, [some 14]), .inl (true, 10),
   .inr (2, [some 16, none, none]), .inr (4, [some 17, none, none]), .inr (5, [some 18]), .inl (true, 48),
   .inr (2, [some 20, none, none]), .inr (4, [some 21, none, none]), .inr (5, [some 22]), .inl (true, 48),
   .inr (5, [some 24]), .inl (true, 6),
   .inr (7, [some 26, some 28, none]), .inr (5, [some 27]), .inl (true, 9), .inr (5, [some 29]), .inl (true, 9),
   .inr (0, [some 31, some 33, some 35, some 37, some 39, none]), .inr (5, [some 32]), .inl (true, 11), .inr (5, [some 34]), .inl (true, 11), .inr (5, [some 36]), .inl (true, 11), .inr (5, [some 38]), .inl (true, 11), .inr (5, [some 40]), .inl (true, 44),
   .inr (5, [some 42]), .inl (true, 6),
   .inr (5, [some 44]), .inl (true, 105),
   .inr (5, [some 46]), .inl (true, 49),
   .inr (3, [some 48, none, none, none, none]), .inr (5, [some 49]), .inl (true, 6),
   .inr (9, [none, none, some 51, none, none, some 52, none, some 53, some 54, some 55, none, some 56, none, none, none, none, none, none, some 57, none, none, some 58, some 59, some 60, some 61, some 62, some 63]),
   .inl (true, 49), .inl (true, 490), .inl (true, 6), .inl (false, 2), .inl (true, 98), .inl (true, 90), .inl (true, 48), .inl (true, 10), .inl (true, 10), .inl (true, 44), .inl (false, 10), .inl (true, 105), .inl (true, 5)]

def cellV (ad : Nat → Nat) (f : Nat → Int32) : Nat → List (Option Nat) → List Value
  | _, [] => []
  | k, some c :: fs => .ref (ad c) :: cellV ad f (k + 1) fs
  | k, none :: fs => .int (f k) :: cellV ad f (k + 1) fs
def cellE (cI cZ : ClassId) (ad : Nat → Nat) (f : Nat → Int32) : LD → va_E
  | .inl (true, n) => .inl (cI, n, .inl f)
  | .inl (false, n) => .inl (cZ, n, .inl f)
  | .inr (ci, fs) => .inr (ci, cellV ad f 0 fs)
/-- the one world: all cells of the class and of the reference -/
def WS (cI cZ : ClassId) (ad : Nat → Nat) (σ : Mem) : va_W := LY.mapIdx (fun c d => (ad c, cellE cI cZ ad (σ c) d))
theorem cellV_int {ad : Nat → Nat} {f : Nat → Int32} : ∀ (fs : List (Option Nat)) (j k : Nat), fs[k]? = some none → (cellV ad f j fs)[k]? = some (.int (f (j + k))) := by
  intro fs
  induction fs with
  | nil => intro j k h; simp at h
  | cons a t ih =>
    intro j k h
    cases k with
    | zero => cases a with
      | none => simp [cellV]
      | some c => simp at h
    | succ k =>
      have h2 : t[k]? = some none := by simpa using h
      have := ih (j + 1) k h2
      cases a <;> simp only [cellV, List.getElem?_cons_succ] <;> rw [this] <;> congr 3 <;> omega
theorem cellV_ref {ad : Nat → Nat} {f : Nat → Int32} : ∀ (fs : List (Option Nat)) (j k c : Nat), fs[k]? = some (some c) → (cellV ad f j fs)[k]? = some (.ref (ad c)) := by
  intro fs
  induction fs with
  | nil => intro j k c h; simp at h
  | cons a t ih =>
    intro j k c h
    cases k with
    | zero => cases a with
      | none => simp at h
      | some c2 => simp at h; subst h; simp [cellV]
    | succ k =>
      have h2 : t[k]? = some (some c) := by simpa using h
      have := ih (j + 1) k c h2
      cases a <;> simp only [cellV, List.getElem?_cons_succ] <;> rw [this]
theorem cellV_len {ad : Nat → Nat} {f : Nat → Int32} : ∀ (fs : List (Option Nat)) (j : Nat), (cellV ad f j fs).length = fs.length := by
  intro fs
  induction fs with
  | nil => intro j; rfl
  | cons a t ih => intro j; cases a <;> simp [cellV, ih]
theorem cellV_hi {ad : Nat → Nat} {f g : Nat → Int32} : ∀ (fs : List (Option Nat)) (j : Nat), (∀ q, j ≤ q → f q = g q) → cellV ad f j fs = cellV ad g j fs := by
  intro fs
  induction fs with
  | nil => intro j _; rfl
  | cons a t ih =>
    intro j h
    have := ih (j + 1) (fun q hq => h q (by omega))
    cases a with
    | none => simp only [cellV]; rw [this, h j (Nat.le_refl j)]
    | some c => simp only [cellV]; rw [this]
theorem cellV_set {ad : Nat → Nat} {f : Nat → Int32} {v : Int32} : ∀ (fs : List (Option Nat)) (j k : Nat), fs[k]? = some none → (cellV ad f j fs).set k (.int v) = cellV ad (upd f (j + k) v) j fs := by
  intro fs
  induction fs with
  | nil => intro j k h; simp at h
  | cons a t ih =>
    intro j k h
    cases k with
    | zero => cases a with
      | none =>
        simp only [cellV, List.set_cons_zero]
        rw [cellV_hi (f := f) (g := upd f (j + 0) v) t (j + 1) (fun q hq => by unfold upd; rw [if_neg (by omega)])]
        simp [upd]
      | some c => simp at h
    | succ k =>
      have h2 : t[k]? = some none := by simpa using h
      have := ih (j + 1) k h2
      have e : j + 1 + k = j + (k + 1) := by omega
      rw [e] at this
      cases a with
      | none =>
        simp only [cellV, List.set_cons_succ]
        rw [this]
        congr 2
        unfold upd
        rw [if_neg (by omega)]
      | some c =>
        simp only [cellV, List.set_cons_succ]
        rw [this]
theorem ws_at {cI cZ : ClassId} {ad : Nat → Nat} {σ : Mem} {c : Nat} {d : LD} (h : LY[c]? = some d) : (WS cI cZ ad σ)[c]? = some (ad c, cellE cI cZ ad (σ c) d) := by
  unfold WS
  rw [List.getElem?_mapIdx, h]
  rfl
theorem ws_inv {cI cZ : ClassId} {ad : Nat → Nat} {σ : Mem} {c : Nat} {q : Nat × va_E} (h : (WS cI cZ ad σ)[c]? = some q) : c < 64 ∧ q.1 = ad c := by
  unfold WS at h
  rw [List.getElem?_mapIdx] at h
  cases hd : LY[c]? with
  | none => rw [hd] at h; cases h
  | some d =>
    rw [hd] at h
    have h2 := Option.some.inj h
    have hl : c < LY.length := (List.getElem?_eq_some_iff.mp hd).1
    exact ⟨hl, by rw [← h2]⟩
theorem ws_set {cI cZ : ClassId} {ad : Nat → Nat} {σ : Mem} {c k : Nat} {v : Int32} {d : LD} (h : LY[c]? = some d) {x : va_E} (hx : x = cellE cI cZ ad (upd (σ c) k v) d) : (WS cI cZ ad σ).set c (ad c, x) = WS cI cZ ad (stm σ c k v) := by
  apply List.ext_getElem?
  intro j
  rw [List.getElem?_set]
  by_cases hj : c = j
  · subst hj
    have hl : c < (WS cI cZ ad σ).length := (List.getElem?_eq_some_iff.mp (ws_at h)).1
    rw [if_pos rfl, if_pos hl, ws_at h, stm_at, hx]
  · rw [if_neg hj]
    unfold WS
    rw [List.getElem?_mapIdx, List.getElem?_mapIdx]
    cases hd : LY[j]? with
    | none => rfl
    | some d2 => simp only [Option.map_some]; rw [stm_ne (Ne.symm hj)]
/-- which cells a method may change -/
def AA (ad : Nat → Nat) (sz : Nat) : Nat → Prop := fun q => (∃ i, i < 64 ∧ ad i = q) ∨ sz ≤ q
def INJ (ad : Nat → Nat) : Prop := ∀ i j, i < 64 → j < 64 → ad i = ad j → i = j
theorem ws_D {cI cZ : ClassId} {ad : Nat → Nat} {A : Nat → Prop} (hi : INJ ad) (hA : ∀ i, i < 64 → A (ad i)) (σ : Mem) : va_D A (WS cI cZ ad σ) := by
  refine ⟨fun i j x y hx hy hxy => ?_, fun k q hq => ?_⟩
  · obtain ⟨a1, a2⟩ := ws_inv hx
    obtain ⟨b1, b2⟩ := ws_inv hy
    exact hi i j a1 b1 (by rw [← a2, ← b2]; exact hxy)
  · obtain ⟨a1, a2⟩ := ws_inv hq
    rw [a2]
    exact hA k a1
/-- the tables' words that stay good at any later state -/
def UW : List Cond := lw_tbl.filter goodWord
theorem uw_in {w : Cond} (h : w ∈ UW) : w ∈ lw_tbl := (List.mem_filter.mp h).1
theorem uw_good {w : Cond} (h : w ∈ UW) : (w.onTables && w.keeps) = true ∨ ∃ ty, w = .arrayClass ty := good_of_word (List.mem_filter.mp h).2
theorem uw_mk {w : Cond} (i : Nat) (h : lw_tbl[i]? = some w) (hg : goodWord w = true) : w ∈ UW := List.mem_filter.mpr ⟨List.mem_of_getElem? h, hg⟩
theorem uw_all {ws : List Cond} (ps : List Nat) (h : ws = ps.filterMap (fun i => lw_tbl[i]?)) (hg : ws.all goodWord = true) : ∀ w ∈ ws, w ∈ UW := by
  intro w hw
  have h1 := List.all_eq_true.mp hg w hw
  rw [h] at hw
  obtain ⟨i, -, hi⟩ := List.mem_filterMap.mp hw
  exact uw_mk i hi h1
/-- private members of nest mates -/
def NFw (q : String × Nat × String × String × String × String) : Cond := .fieldLinkNest q.1 q.2.1 q.2.2.1 q.2.2.2.1 q.2.2.2.2.1 q.2.2.2.2.2
def NMw (q : String × Nat × MethodName × String) : Cond := .methodLinkNest q.1 q.2.1 q.2.2.1 q.2.2.2
def NF : List (String × Nat × String × String × String × String) := [("StemmaTree", 82, "StemmaTree$Text", "length", "I", "StemmaTree"), ("StemmaTree", 158, "StemmaTree$Readings", "cells", "LStemmaTree$Row;", "StemmaTree"), ("StemmaTree$Mix", 20, "StemmaTree$Readings", "copyCount", "I", "StemmaTree"), ("StemmaTree$Text", 28, "StemmaTree$Readings", "copyCount", "I", "StemmaTree"), ("StemmaTree", 113, "StemmaTree$Readings", "copyCount", "I", "StemmaTree"), ("StemmaTree$Mix", 26, "StemmaTree$Readings", "placeCount", "I", "StemmaTree"), ("StemmaTree$Text", 33, "StemmaTree$Readings", "placeCount", "I", "StemmaTree"), ("StemmaTree", 212, "StemmaTree$Readings", "placeCount", "I", "StemmaTree"), ("StemmaTree", 149, "StemmaTree$Done", "cells", "LStemmaTree$Row;", "StemmaTree"), ("StemmaTree", 155, "StemmaTree$Done", "befores", "LStemmaTree$Row;", "StemmaTree"), ("StemmaTree", 100, "StemmaTree$Done", "size", "I", "StemmaTree"), ("StemmaTree", 241, "StemmaTree$Image", "readings", "LStemmaTree$Readings;", "StemmaTree"), ("StemmaTree", 244, "StemmaTree$Image", "chosen", "I", "StemmaTree"), ("StemmaTree", 106, "StemmaTree$Image", "kept", "Z", "StemmaTree"), ("StemmaTree$Descent", 48, "StemmaTree$Tree", "firstEnds", "LStemmaTree$Row;", "StemmaTree"), ("StemmaTree$Descent", 55, "StemmaTree$Tree", "secondEnds", "LStemmaTree$Row;", "StemmaTree"), ("StemmaTree$Descent", 36, "StemmaTree$Tree", "edgeCount", "I", "StemmaTree"), ("StemmaTree", 179, "StemmaTree$Tree", "edgeCount", "I", "StemmaTree"), ("StemmaTree", 218, "StemmaTree$Mix", "unlikes", "I", "StemmaTree"), ("StemmaTree", 221, "StemmaTree$Mix", "first", "I", "StemmaTree"), ("StemmaTree", 224, "StemmaTree$Mix", "second", "I", "StemmaTree"), ("StemmaTree", 227, "StemmaTree$Mix", "goesOver", "I", "StemmaTree")]
def NM : List (String × Nat × MethodName × String) := [("StemmaTree", 11, ⟨"StemmaTree$Text", "<init>", "()V"⟩, "StemmaTree"), ("StemmaTree", 18, ⟨"StemmaTree$Readings", "<init>", "()V"⟩, "StemmaTree"), ("StemmaTree", 28, ⟨"StemmaTree$Done", "<init>", "()V"⟩, "StemmaTree"), ("StemmaTree", 35, ⟨"StemmaTree$Image", "<init>", "()V"⟩, "StemmaTree"), ("StemmaTree$Image", 9, ⟨"StemmaTree$Readings", "<init>", "()V"⟩, "StemmaTree"), ("StemmaTree", 54, ⟨"StemmaTree$Tree", "<init>", "()V"⟩, "StemmaTree"), ("StemmaTree", 61, ⟨"StemmaTree$Descent", "<init>", "()V"⟩, "StemmaTree"), ("StemmaTree", 77, ⟨"StemmaTree$Mix", "<init>", "()V"⟩, "StemmaTree"), ("StemmaTree$Readings", 56, ⟨"StemmaTree", "bitsOf", "(I)I"⟩, "StemmaTree"), ("StemmaTree$Readings", 59, ⟨"StemmaTree", "bitOf", "(II)I"⟩, "StemmaTree"), ("StemmaTree$Descent", 81, ⟨"StemmaTree", "bitOf", "(II)I"⟩, "StemmaTree")]
def NW : List Cond := NF.map NFw ++ NM.map NMw
theorem nw_warm {s U : State} (hW : s.WarmedH U.vm) {w : Cond} (hw : w ∈ NW) (h : va_Nw w s) : va_Nw w U := by
  rcases List.mem_append.mp hw with hw | hw
  · obtain ⟨q, -, rfl⟩ := List.mem_map.mp hw
    exact va_Nw.warmF hW h
  · obtain ⟨q, -, rfl⟩ := List.mem_map.mp hw
    exact va_Nw.warmM hW h
theorem nw_same {u U : State} (hv : u.vm = U.vm) {w : Cond} (hw : w ∈ NW) (h : va_Nw w u) : va_Nw w U := by
  rcases List.mem_append.mp hw with hw | hw
  · obtain ⟨q, -, rfl⟩ := List.mem_map.mp hw
    exact va_Nw.same rfl hv h
  · obtain ⟨q, -, rfl⟩ := List.mem_map.mp hw
    exact va_Nw.same rfl hv h
/-- the table TREES -/
def TRi (j : Nat) : Int32 := ([1, 1, 1, 1, 3, 15, 105] : List Int32).getD j 0
/-- what every method needs beside the world: nest mates' links, the table -/
def EN (tT : Nat) (A : Nat → Prop) (U : State) (H : Heap) : Prop := (∀ w ∈ NW, va_Nw w U) ∧ va_Z RX8 "TREES" "[I" (.ref tT) A U H ∧ va_T .int tT 7 (fun j => .int (TRi j)) A U H
theorem EN.warm {tT : Nat} {A : Nat → Prop} {s U : State} {H : Heap} (hW : s.WarmedH U.vm) (h : EN tT A s H) : EN tT A U H := ⟨fun w hw => nw_warm hW hw (h.1 w hw), va_Z.moved hW.alike h.2.1, va_T.moved hW.alike h.2.2⟩
theorem EN.same {tT : Nat} {A : Nat → Prop} {s U : State} {H : Heap} (hv : s.vm = U.vm) (h : EN tT A s H) : EN tT A U H := ⟨fun w hw => nw_same hv hw (h.1 w hw), va_Z.moved (by rw [hv]; exact Vm.Alike.refl _) h.2.1, va_T.moved (by rw [hv]; exact Vm.Alike.refl _) h.2.2⟩
theorem EN.kept {tT : Nat} {A : Nat → Prop} {U : State} {H H1 : Heap} (h : EN tT A U H) (hq : ∀ a : Nat, a < H.size → ¬ A a → H1[a]? = H[a]?) : EN tT A U H1 := ⟨h.1, h.2.1.kept hq, h.2.2.kept hq⟩
theorem EN.narrow {tT : Nat} {A B : Nat → Prop} {U : State} {H : Heap} (h : EN tT A U H) (hAB : ∀ q, B q → A q) : EN tT B U H := ⟨h.1, h.2.1.narrow hAB, h.2.2.narrow hAB⟩
/-- a method's start and end -/
def PRE (D : va_G) (cI cZ : ClassId) (ad : Nat → Nat) (tT sz : Nat) (σ : Mem) (U : State) : Prop := U.heap.size = sz ∧ va_P D vwCl (WS cI cZ ad σ) U.heap ∧ va_K D vwCl [(cI, .int), (cZ, .boolean)] U ∧ EN tT (AA ad sz) U U.heap
def QQ (D : va_G) (cI cZ : ClassId) (ad : Nat → Nat) (A : Nat → Prop) (v : Option Value) (σ' : Mem) : Array Value → State → Outcome → State → Prop := fun _ st oc t => (oc = .returned v ∧ va_P D vwCl (WS cI cZ ad σ') t.heap) ∧ va_F A st t
/-- a method's contract: whenever the pure computation o ends, the method ends with its answer and its memory -/
def GM (l : Launch) (D : va_G) (cI cZ : ClassId) (ad : Nat → Nat) (tT : Nat) (y : MethodName) (cc : ByteArray) (nL : Nat) (ret : Option FieldType) (fr lo : Nat) (rv : Int32 → Option Value) (As : List Value) (σ : Mem) (o : Option (Int32 × Mem)) : Prop :=
  ∀ (r : Int32) (σ' : Mem), o = some (r, σ') → ∀ sz : Nat, Met l y (.code y cc nL ret :: UW) { frames := fr, cells := 0, slots := 0, locals := lo } (va_Pc As (PRE D cI cZ ad tT sz σ)) (QQ D cI cZ ad (AA ad sz) (rv r) σ') 0 0 (AA ad sz)
def rvi (r : Int32) : Option Value := some (.int r)
def rvv (_ : Int32) : Option Value := none
/-- from this frame and this memory the machine comes to the end that o tells -/
def WR (p : Program) (l : Launch) (e : Env) (R : Room) (s : State) (m : MethodId) (args : Array Value) (below : List Frame) (meth : Method) (c : Code) (D : va_G) (cI cZ : ClassId) (ad : Nat → Nat) (A : Nat → Prop) (kc ks : Nat) (Q : Int32 → Mem → State → Prop) (o : Option (Int32 × Mem)) (σ : Mem) (g : JFrame) : Prop :=
  ∀ (r : Int32) (σ' : Mem), o = some (r, σ') → ∀ (H : Heap) (locs : List Loc), va_P D vwCl (WS cI cZ ad σ) H → va_S A s.heap H locs → W p l e R s m args below meth c H locs kc ks (Q r σ') g
def CX (p : Program) (s : State) (m : MethodId) (args : Array Value) (meth : Method) (c : Code) (cc : ByteArray) (nL : Nat) (own : String) (ret : Option FieldType) (D : va_G) (cI cZ : ClassId) (ad : Nat → Nat) (tT : Nat) (A : Nat → Prop) : Prop :=
  p.tables.exec = Jvm.exec ∧ c.code = cc ∧ c.maxLocals = nL ∧ s.vm.findClass own = some m.cls ∧ (∀ w ∈ UW, w.before args s = true) ∧ va_K D vwCl [(cI, .int), (cZ, .boolean)] s ∧ INJ ad ∧ (∀ i, i < 64 → A (ad i)) ∧ (∀ q, s.heap.size ≤ q → A q) ∧ EN tT A s s.heap ∧ meth.sig.returnType = ret ∧ meth.locks = false
/-- a guard: a place in a row of n -/
def gd {α : Type} (n : Nat) (i : Int32) (o : Option α) : Option α := if i < 0 ∨ n ≤ i.toNatClampNeg then none else o
theorem gd_ok {α : Type} {n : Nat} {i : Int32} {o : Option α} (h : vp_in i n) : gd n i o = o := if_neg h
theorem gd_some {α : Type} {n : Nat} {i : Int32} {o : Option α} {x : α} (h : gd n i o = some x) : vp_in i n ∧ o = some x := by
  unfold gd at h
  by_cases q : i < 0 ∨ n ≤ i.toNatClampNeg
  · rw [if_pos q] at h; cases h
  · rw [if_neg q] at h; exact ⟨q, h⟩
/-- a call -/
def bnd (o : Option (Int32 × Mem)) (k : Int32 → Mem → Option (Int32 × Mem)) : Option (Int32 × Mem) := match o with
  | none => none
  | some (r, σ) => k r σ
theorem bnd_some {o : Option (Int32 × Mem)} {k : Int32 → Mem → Option (Int32 × Mem)} {x : Int32 × Mem} (h : bnd o k = some x) : ∃ r σ, o = some (r, σ) ∧ k r σ = some x := by
  unfold bnd at h
  split at h
  · cases h
  · exact ⟨_, _, rfl, h⟩
theorem bnd_eq {r : Int32} {σ : Mem} {k : Int32 → Mem → Option (Int32 × Mem)} : bnd (some (r, σ)) k = k r σ := rfl
/-- roads that come together -/
def jn {α : Type} (k : α) (f : α → Option (Int32 × Mem)) : Option (Int32 × Mem) := f k
section RL
variable {p : Program} {l : Launch} {e : Env} {R : Room} {s : State} {m : MethodId} {args : Array Value} {below : List Frame} {meth : Method} {c : Code} {cc : ByteArray} {nL : Nat} {own : String} {ret : Option FieldType} {D : va_G} {cI cZ : ClassId} {ad : Nat → Nat} {tT : Nat} {A : Nat → Prop} {kc ks : Nat} {Q : Int32 → Mem → State → Prop} {o o1 o2 : Option (Int32 × Mem)} {σ : Mem} {pc : Nat} {ls : Array Slot} {rest : List Value}
theorem CX.Dd (C : CX p s m args meth c cc nL own ret D cI cZ ad tT A) (σ : Mem) : va_D A (WS cI cZ ad σ) := ws_D C.2.2.2.2.2.2.1 C.2.2.2.2.2.2.2.1 σ
theorem CX.K (C : CX p s m args meth c cc nL own ret D cI cZ ad tT A) : va_K D vwCl [(cI, .int), (cZ, .boolean)] s := C.2.2.2.2.2.1
theorem CX.N (C : CX p s m args meth c cc nL own ret D cI cZ ad tT A) : EN tT A s s.heap := C.2.2.2.2.2.2.2.2.2.1

theorem r_iconst (C : CX p s m args meth c cc nL own ret D cI cZ ad tT A) {n : Int} {v : Int32} (hdg : decode cc pc = .ok (.iconst n, 1)) (hv : Int32.ofInt n = v) (k : WR p l e R s m args below meth c D cI cZ ad A kc ks Q o σ (F0 m (pc + 1) ls (.int v :: rest))) : WR p l e R s m args below meth c D cI cZ ad A kc ks Q o σ (F0 m pc ls (rest)) := fun r σ' ho H locs hP hS => lv_iconst C.1 C.2.1 hdg hv (k r σ' ho H locs hP hS)
theorem r_bipush (C : CX p s m args meth c cc nL own ret D cI cZ ad tT A) {n : Int} {v : Int32} (hdg : decode cc pc = .ok (.bipush n, 2)) (hv : (Int8.ofInt n).toInt32 = v) (k : WR p l e R s m args below meth c D cI cZ ad A kc ks Q o σ (F0 m (pc + 2) ls (.int v :: rest))) : WR p l e R s m args below meth c D cI cZ ad A kc ks Q o σ (F0 m pc ls (rest)) := fun r σ' ho H locs hP hS => lv_bipush C.1 C.2.1 hdg hv (k r σ' ho H locs hP hS)
theorem r_sipush (C : CX p s m args meth c cc nL own ret D cI cZ ad tT A) {n : Int} {v : Int32} (hdg : decode cc pc = .ok (.sipush n, 3)) (hv : (Int16.ofInt n).toInt32 = v) (k : WR p l e R s m args below meth c D cI cZ ad A kc ks Q o σ (F0 m (pc + 3) ls (.int v :: rest))) : WR p l e R s m args below meth c D cI cZ ad A kc ks Q o σ (F0 m pc ls (rest)) := fun r σ' ho H locs hP hS => lv_sipush C.1 C.2.1 hdg hv (k r σ' ho H locs hP hS)
theorem r_iload_n (C : CX p s m args meth c cc nL own ret D cI cZ ad tT A) {kf : Fin 4} {i : Nat} {x : Int32} (hdg : decode cc pc = .ok (.iload_n kf, 1)) (hi : (kf : Nat) = i) (hl : ls[i]? = some (.val (.int x))) (k : WR p l e R s m args below meth c D cI cZ ad A kc ks Q o σ (F0 m (pc + 1) ls (.int x :: rest))) : WR p l e R s m args below meth c D cI cZ ad A kc ks Q o σ (F0 m pc ls (rest)) := fun r σ' ho H locs hP hS => lv_iload_n C.1 C.2.1 hdg hi hl (k r σ' ho H locs hP hS)
theorem r_iload (C : CX p s m args meth c cc nL own ret D cI cZ ad tT A) {i : Nat} {x : Int32} (hdg : decode cc pc = .ok (.iload i, 2)) (hl : ls[i]? = some (.val (.int x))) (k : WR p l e R s m args below meth c D cI cZ ad A kc ks Q o σ (F0 m (pc + 2) ls (.int x :: rest))) : WR p l e R s m args below meth c D cI cZ ad A kc ks Q o σ (F0 m pc ls (rest)) := fun r σ' ho H locs hP hS => lv_iload C.1 C.2.1 hdg hl (k r σ' ho H locs hP hS)
theorem r_aload_n (C : CX p s m args meth c cc nL own ret D cI cZ ad tT A) {kf : Fin 4} {i : Nat} {x : Nat} (hdg : decode cc pc = .ok (.aload_n kf, 1)) (hi : (kf : Nat) = i) (hl : ls[i]? = some (.val (.ref x))) (k : WR p l e R s m args below meth c D cI cZ ad A kc ks Q o σ (F0 m (pc + 1) ls (.ref x :: rest))) : WR p l e R s m args below meth c D cI cZ ad A kc ks Q o σ (F0 m pc ls (rest)) := fun r σ' ho H locs hP hS => lv_aload_n C.1 C.2.1 hdg hi hl (k r σ' ho H locs hP hS)
theorem r_aload (C : CX p s m args meth c cc nL own ret D cI cZ ad tT A) {i : Nat} {x : Nat} (hdg : decode cc pc = .ok (.aload i, 2)) (hl : ls[i]? = some (.val (.ref x))) (k : WR p l e R s m args below meth c D cI cZ ad A kc ks Q o σ (F0 m (pc + 2) ls (.ref x :: rest))) : WR p l e R s m args below meth c D cI cZ ad A kc ks Q o σ (F0 m pc ls (rest)) := fun r σ' ho H locs hP hS => lv_aload C.1 C.2.1 hdg hl (k r σ' ho H locs hP hS)
theorem r_istore_n (C : CX p s m args meth c cc nL own ret D cI cZ ad tT A) {kf : Fin 4} {i : Nat} {x : Int32} {lv lv' : List (Nat × Value)} (hdg : decode cc pc = .ok (.istore_n kf, 1)) (hi : (kf : Nat) = i) (h : lv_has ls nL lv) (hn : i < nL) (hl : (i, Value.int x) :: lv.filter (fun q => !(q.1 == i) && !(q.1 + 1 == i && q.2.category == 2)) = lv') (kk : ∀ ls' : Array Slot, lv_has ls' nL lv' → WR p l e R s m args below meth c D cI cZ ad A kc ks Q o σ (F0 m (pc + 1) ls' rest)) : WR p l e R s m args below meth c D cI cZ ad A kc ks Q o σ (F0 m pc ls (.int x :: rest)) := fun r σ' ho H locs hP hS => lv_istore_n C.1 C.2.1 hdg hi h hn hl (fun ls' hl' => kk ls' hl' r σ' ho H locs hP hS)
theorem r_istore (C : CX p s m args meth c cc nL own ret D cI cZ ad tT A) {i : Nat} {x : Int32} {lv lv' : List (Nat × Value)} (hdg : decode cc pc = .ok (.istore i, 2)) (h : lv_has ls nL lv) (hn : i < nL) (hl : (i, Value.int x) :: lv.filter (fun q => !(q.1 == i) && !(q.1 + 1 == i && q.2.category == 2)) = lv') (kk : ∀ ls' : Array Slot, lv_has ls' nL lv' → WR p l e R s m args below meth c D cI cZ ad A kc ks Q o σ (F0 m (pc + 2) ls' rest)) : WR p l e R s m args below meth c D cI cZ ad A kc ks Q o σ (F0 m pc ls (.int x :: rest)) := fun r σ' ho H locs hP hS => lv_istore C.1 C.2.1 hdg h hn hl (fun ls' hl' => kk ls' hl' r σ' ho H locs hP hS)
theorem r_astore_n (C : CX p s m args meth c cc nL own ret D cI cZ ad tT A) {kf : Fin 4} {i : Nat} {x : Nat} {lv lv' : List (Nat × Value)} (hdg : decode cc pc = .ok (.astore_n kf, 1)) (hi : (kf : Nat) = i) (h : lv_has ls nL lv) (hn : i < nL) (hl : (i, Value.ref x) :: lv.filter (fun q => !(q.1 == i) && !(q.1 + 1 == i && q.2.category == 2)) = lv') (kk : ∀ ls' : Array Slot, lv_has ls' nL lv' → WR p l e R s m args below meth c D cI cZ ad A kc ks Q o σ (F0 m (pc + 1) ls' rest)) : WR p l e R s m args below meth c D cI cZ ad A kc ks Q o σ (F0 m pc ls (.ref x :: rest)) := fun r σ' ho H locs hP hS => lv_astore_n C.1 C.2.1 hdg hi h hn hl (fun ls' hl' => kk ls' hl' r σ' ho H locs hP hS)
theorem r_astore (C : CX p s m args meth c cc nL own ret D cI cZ ad tT A) {i : Nat} {x : Nat} {lv lv' : List (Nat × Value)} (hdg : decode cc pc = .ok (.astore i, 2)) (h : lv_has ls nL lv) (hn : i < nL) (hl : (i, Value.ref x) :: lv.filter (fun q => !(q.1 == i) && !(q.1 + 1 == i && q.2.category == 2)) = lv') (kk : ∀ ls' : Array Slot, lv_has ls' nL lv' → WR p l e R s m args below meth c D cI cZ ad A kc ks Q o σ (F0 m (pc + 2) ls' rest)) : WR p l e R s m args below meth c D cI cZ ad A kc ks Q o σ (F0 m pc ls (.ref x :: rest)) := fun r σ' ho H locs hP hS => lv_astore C.1 C.2.1 hdg h hn hl (fun ls' hl' => kk ls' hl' r σ' ho H locs hP hS)
theorem r_iinc (C : CX p s m args meth c cc nL own ret D cI cZ ad tT A) {i k : Nat} {n : Int} {x v : Int32} {lv lv' : List (Nat × Value)} (hdg : decode cc pc = .ok (.iinc i n, 3)) (h : lv_has ls nL lv) (hk : lv[k]? = some (i, .int x)) (hv : x + Int32.ofInt n = v) (hn : i < nL) (hl : (i, Value.int v) :: lv.filter (fun q => !(q.1 == i) && !(q.1 + 1 == i && q.2.category == 2)) = lv') (kk : ∀ ls' : Array Slot, lv_has ls' nL lv' → WR p l e R s m args below meth c D cI cZ ad A kc ks Q o σ (F0 m (pc + 3) ls' rest)) : WR p l e R s m args below meth c D cI cZ ad A kc ks Q o σ (F0 m pc ls rest) := fun r σ' ho H locs hP hS => lv_iinc C.1 C.2.1 hdg h hk hv hn hl (fun ls' hl' => kk ls' hl' r σ' ho H locs hP hS)
theorem r_iadd (C : CX p s m args meth c cc nL own ret D cI cZ ad tT A) {x y : Int32} (hdg : decode cc pc = .ok (.iadd, 1)) (k : WR p l e R s m args below meth c D cI cZ ad A kc ks Q o σ (F0 m (pc + 1) ls (.int (x + y) :: rest))) : WR p l e R s m args below meth c D cI cZ ad A kc ks Q o σ (F0 m pc ls (.int y :: .int x :: rest)) := fun r σ' ho H locs hP hS => lv_iadd C.1 C.2.1 hdg (k r σ' ho H locs hP hS)
theorem r_isub (C : CX p s m args meth c cc nL own ret D cI cZ ad tT A) {x y : Int32} (hdg : decode cc pc = .ok (.isub, 1)) (k : WR p l e R s m args below meth c D cI cZ ad A kc ks Q o σ (F0 m (pc + 1) ls (.int (x - y) :: rest))) : WR p l e R s m args below meth c D cI cZ ad A kc ks Q o σ (F0 m pc ls (.int y :: .int x :: rest)) := fun r σ' ho H locs hP hS => lv_isub C.1 C.2.1 hdg (k r σ' ho H locs hP hS)
theorem r_imul (C : CX p s m args meth c cc nL own ret D cI cZ ad tT A) {x y : Int32} (hdg : decode cc pc = .ok (.imul, 1)) (k : WR p l e R s m args below meth c D cI cZ ad A kc ks Q o σ (F0 m (pc + 1) ls (.int (x * y) :: rest))) : WR p l e R s m args below meth c D cI cZ ad A kc ks Q o σ (F0 m pc ls (.int y :: .int x :: rest)) := fun r σ' ho H locs hP hS => lv_imul C.1 C.2.1 hdg (k r σ' ho H locs hP hS)
theorem r_iand (C : CX p s m args meth c cc nL own ret D cI cZ ad tT A) {x y : Int32} (hdg : decode cc pc = .ok (.iand, 1)) (k : WR p l e R s m args below meth c D cI cZ ad A kc ks Q o σ (F0 m (pc + 1) ls (.int (x &&& y) :: rest))) : WR p l e R s m args below meth c D cI cZ ad A kc ks Q o σ (F0 m pc ls (.int y :: .int x :: rest)) := fun r σ' ho H locs hP hS => lv_iand C.1 C.2.1 hdg (k r σ' ho H locs hP hS)
theorem r_ior (C : CX p s m args meth c cc nL own ret D cI cZ ad tT A) {x y : Int32} (hdg : decode cc pc = .ok (.ior, 1)) (k : WR p l e R s m args below meth c D cI cZ ad A kc ks Q o σ (F0 m (pc + 1) ls (.int (x ||| y) :: rest))) : WR p l e R s m args below meth c D cI cZ ad A kc ks Q o σ (F0 m pc ls (.int y :: .int x :: rest)) := fun r σ' ho H locs hP hS => lv_ior C.1 C.2.1 hdg (k r σ' ho H locs hP hS)
theorem r_ixor (C : CX p s m args meth c cc nL own ret D cI cZ ad tT A) {x y : Int32} (hdg : decode cc pc = .ok (.ixor, 1)) (k : WR p l e R s m args below meth c D cI cZ ad A kc ks Q o σ (F0 m (pc + 1) ls (.int (x ^^^ y) :: rest))) : WR p l e R s m args below meth c D cI cZ ad A kc ks Q o σ (F0 m pc ls (.int y :: .int x :: rest)) := fun r σ' ho H locs hP hS => lv_ixor C.1 C.2.1 hdg (k r σ' ho H locs hP hS)
theorem r_idiv (C : CX p s m args meth c cc nL own ret D cI cZ ad tT A) {x y : Int32} (hdg : decode cc pc = .ok (.idiv, 1)) (hne : ¬ y = 0) (k : WR p l e R s m args below meth c D cI cZ ad A kc ks Q o σ (F0 m (pc + 1) ls (.int (x / y) :: rest))) : WR p l e R s m args below meth c D cI cZ ad A kc ks Q o σ (F0 m pc ls (.int y :: .int x :: rest)) := fun r σ' ho H locs hP hS => lv_idiv C.1 C.2.1 hdg hne (k r σ' ho H locs hP hS)
theorem r_irem (C : CX p s m args meth c cc nL own ret D cI cZ ad tT A) {x y : Int32} (hdg : decode cc pc = .ok (.irem, 1)) (hne : ¬ y = 0) (k : WR p l e R s m args below meth c D cI cZ ad A kc ks Q o σ (F0 m (pc + 1) ls (.int (x - x / y * y) :: rest))) : WR p l e R s m args below meth c D cI cZ ad A kc ks Q o σ (F0 m pc ls (.int y :: .int x :: rest)) := fun r σ' ho H locs hP hS => lv_irem C.1 C.2.1 hdg hne (k r σ' ho H locs hP hS)
theorem r_ishl (C : CX p s m args meth c cc nL own ret D cI cZ ad tT A) {x y : Int32} (hdg : decode cc pc = .ok (.ishl, 1)) (k : WR p l e R s m args below meth c D cI cZ ad A kc ks Q o σ (F0 m (pc + 1) ls (.int (x <<< (y &&& 31)) :: rest))) : WR p l e R s m args below meth c D cI cZ ad A kc ks Q o σ (F0 m pc ls (.int y :: .int x :: rest)) := fun r σ' ho H locs hP hS => lv_ishl C.1 C.2.1 hdg (k r σ' ho H locs hP hS)
theorem r_ishr (C : CX p s m args meth c cc nL own ret D cI cZ ad tT A) {x y : Int32} (hdg : decode cc pc = .ok (.ishr, 1)) (k : WR p l e R s m args below meth c D cI cZ ad A kc ks Q o σ (F0 m (pc + 1) ls (.int (x >>> (y &&& 31)) :: rest))) : WR p l e R s m args below meth c D cI cZ ad A kc ks Q o σ (F0 m pc ls (.int y :: .int x :: rest)) := fun r σ' ho H locs hP hS => lv_ishr C.1 C.2.1 hdg (k r σ' ho H locs hP hS)
theorem r_iushr (C : CX p s m args meth c cc nL own ret D cI cZ ad tT A) {x y v : Int32} (hdg : decode cc pc = .ok (.iushr, 1)) (hv : (x.toUInt32 >>> (y.toUInt32 &&& Int32.toUInt32 31)).toInt32 = v) (k : WR p l e R s m args below meth c D cI cZ ad A kc ks Q o σ (F0 m (pc + 1) ls (.int v :: rest))) : WR p l e R s m args below meth c D cI cZ ad A kc ks Q o σ (F0 m pc ls (.int y :: .int x :: rest)) := fun r σ' ho H locs hP hS => lv_iushr C.1 C.2.1 hdg hv (k r σ' ho H locs hP hS)
theorem r_dup (C : CX p s m args meth c cc nL own ret D cI cZ ad tT A) {va : Value} (hdg : decode cc pc = .ok (.dup, 1)) (hva : va.category = 1) (k : WR p l e R s m args below meth c D cI cZ ad A kc ks Q o σ (F0 m (pc + 1) ls (va :: va :: rest))) : WR p l e R s m args below meth c D cI cZ ad A kc ks Q o σ (F0 m pc ls (va :: rest)) := fun r σ' ho H locs hP hS => lv_dup C.1 C.2.1 hdg hva (k r σ' ho H locs hP hS)
theorem r_pop (C : CX p s m args meth c cc nL own ret D cI cZ ad tT A) {va : Value} (hdg : decode cc pc = .ok (.pop, 1)) (hva : va.category = 1) (k : WR p l e R s m args below meth c D cI cZ ad A kc ks Q o σ (F0 m (pc + 1) ls (rest))) : WR p l e R s m args below meth c D cI cZ ad A kc ks Q o σ (F0 m pc ls (va :: rest)) := fun r σ' ho H locs hP hS => lv_pop C.1 C.2.1 hdg hva (k r σ' ho H locs hP hS)
theorem r_dup2_11 (C : CX p s m args meth c cc nL own ret D cI cZ ad tT A) {va vb : Value} (hdg : decode cc pc = .ok (.dup2, 1)) (hva : va.category = 1) (hvb : vb.category = 1) (k : WR p l e R s m args below meth c D cI cZ ad A kc ks Q o σ (F0 m (pc + 1) ls (va :: vb :: va :: vb :: rest))) : WR p l e R s m args below meth c D cI cZ ad A kc ks Q o σ (F0 m pc ls (va :: vb :: rest)) := fun r σ' ho H locs hP hS => lv_dup2_11 C.1 C.2.1 hdg hva hvb (k r σ' ho H locs hP hS)
theorem r_goto (C : CX p s m args meth c cc nL own ret D cI cZ ad tT A) {off : Int} {tgt : Nat} (hdg : decode cc pc = .ok (.goto off, 3)) (ht : (pc : Int) + off = (tgt : Int)) (k : WR p l e R s m args below meth c D cI cZ ad A kc ks Q o σ (F0 m tgt ls rest)) : WR p l e R s m args below meth c D cI cZ ad A kc ks Q o σ (F0 m pc ls rest) := fun r σ' ho H locs hP hS => lv_goto C.1 C.2.1 hdg ht (k r σ' ho H locs hP hS)
theorem r_ldc (C : CX p s m args meth c cc nL own ret D cI cZ ad tT A) {index : Nat} {v : Int32}  (hconst : Jvm.Cond.constant own index v ∈ UW) (hdg : decode cc pc = .ok (.ldc index, 2)) (k : WR p l e R s m args below meth c D cI cZ ad A kc ks Q o σ (F0 m (pc + 2) ls (.int v :: rest))) : WR p l e R s m args below meth c D cI cZ ad A kc ks Q o σ (F0 m pc ls rest) := fun r σ' ho H locs hP hS => lv_ldc C.1 C.2.1 C.2.2.2.1 (C.2.2.2.2.1 _ hconst) hdg (k r σ' ho H locs hP hS)
theorem r_ldcw (C : CX p s m args meth c cc nL own ret D cI cZ ad tT A) {index : Nat} {v : Int32}  (hconst : Jvm.Cond.constant own index v ∈ UW) (hdg : decode cc pc = .ok (.ldc_w index, 3)) (k : WR p l e R s m args below meth c D cI cZ ad A kc ks Q o σ (F0 m (pc + 3) ls (.int v :: rest))) : WR p l e R s m args below meth c D cI cZ ad A kc ks Q o σ (F0 m pc ls rest) := fun r σ' ho H locs hP hS => lv_ldcw C.1 C.2.1 C.2.2.2.1 (C.2.2.2.2.1 _ hconst) hdg (k r σ' ho H locs hP hS)
theorem r_if_eq (C : CX p s m args meth c cc nL own ret D cI cZ ad tT A) {x : Int32} {off : Int} {tgt : Nat} (hdg : decode cc pc = .ok (.ifCond .eq off, 3)) (ht : (pc : Int) + off = (tgt : Int)) (kt : WR p l e R s m args below meth c D cI cZ ad A kc ks Q o1 σ (F0 m tgt ls rest)) (kf : WR p l e R s m args below meth c D cI cZ ad A kc ks Q o2 σ (F0 m (pc + 3) ls rest)) : WR p l e R s m args below meth c D cI cZ ad A kc ks Q (if x = 0 then o1 else o2) σ (F0 m pc ls (.int x :: rest)) := fun r σ' ho H locs hP hS => lv_if_eq C.1 C.2.1 hdg ht (fun h => kt r σ' (by rw [if_pos h] at ho; exact ho) H locs hP hS) (fun h => kf r σ' (by rw [if_neg h] at ho; exact ho) H locs hP hS)
theorem r_if_ne (C : CX p s m args meth c cc nL own ret D cI cZ ad tT A) {x : Int32} {off : Int} {tgt : Nat} (hdg : decode cc pc = .ok (.ifCond .ne off, 3)) (ht : (pc : Int) + off = (tgt : Int)) (kt : WR p l e R s m args below meth c D cI cZ ad A kc ks Q o1 σ (F0 m tgt ls rest)) (kf : WR p l e R s m args below meth c D cI cZ ad A kc ks Q o2 σ (F0 m (pc + 3) ls rest)) : WR p l e R s m args below meth c D cI cZ ad A kc ks Q (if x = 0 then o2 else o1) σ (F0 m pc ls (.int x :: rest)) := fun r σ' ho H locs hP hS => lv_if_ne C.1 C.2.1 hdg ht (fun h => kt r σ' (by rw [if_neg h] at ho; exact ho) H locs hP hS) (fun h => kf r σ' (by rw [if_pos h] at ho; exact ho) H locs hP hS)
theorem r_if_lt (C : CX p s m args meth c cc nL own ret D cI cZ ad tT A) {x : Int32} {off : Int} {tgt : Nat} (hdg : decode cc pc = .ok (.ifCond .lt off, 3)) (ht : (pc : Int) + off = (tgt : Int)) (kt : WR p l e R s m args below meth c D cI cZ ad A kc ks Q o1 σ (F0 m tgt ls rest)) (kf : WR p l e R s m args below meth c D cI cZ ad A kc ks Q o2 σ (F0 m (pc + 3) ls rest)) : WR p l e R s m args below meth c D cI cZ ad A kc ks Q (if x < 0 then o1 else o2) σ (F0 m pc ls (.int x :: rest)) := fun r σ' ho H locs hP hS => lv_if_lt C.1 C.2.1 hdg ht (fun h => kt r σ' (by rw [if_pos h] at ho; exact ho) H locs hP hS) (fun h => kf r σ' (by rw [if_neg h] at ho; exact ho) H locs hP hS)
theorem r_if_ge (C : CX p s m args meth c cc nL own ret D cI cZ ad tT A) {x : Int32} {off : Int} {tgt : Nat} (hdg : decode cc pc = .ok (.ifCond .ge off, 3)) (ht : (pc : Int) + off = (tgt : Int)) (kt : WR p l e R s m args below meth c D cI cZ ad A kc ks Q o1 σ (F0 m tgt ls rest)) (kf : WR p l e R s m args below meth c D cI cZ ad A kc ks Q o2 σ (F0 m (pc + 3) ls rest)) : WR p l e R s m args below meth c D cI cZ ad A kc ks Q (if 0 ≤ x then o1 else o2) σ (F0 m pc ls (.int x :: rest)) := fun r σ' ho H locs hP hS => lv_if_ge C.1 C.2.1 hdg ht (fun h => kt r σ' (by rw [if_pos h] at ho; exact ho) H locs hP hS) (fun h => kf r σ' (by rw [if_neg h] at ho; exact ho) H locs hP hS)
theorem r_if_gt (C : CX p s m args meth c cc nL own ret D cI cZ ad tT A) {x : Int32} {off : Int} {tgt : Nat} (hdg : decode cc pc = .ok (.ifCond .gt off, 3)) (ht : (pc : Int) + off = (tgt : Int)) (kt : WR p l e R s m args below meth c D cI cZ ad A kc ks Q o1 σ (F0 m tgt ls rest)) (kf : WR p l e R s m args below meth c D cI cZ ad A kc ks Q o2 σ (F0 m (pc + 3) ls rest)) : WR p l e R s m args below meth c D cI cZ ad A kc ks Q (if 0 < x then o1 else o2) σ (F0 m pc ls (.int x :: rest)) := fun r σ' ho H locs hP hS => lv_if_gt C.1 C.2.1 hdg ht (fun h => kt r σ' (by rw [if_pos h] at ho; exact ho) H locs hP hS) (fun h => kf r σ' (by rw [if_neg h] at ho; exact ho) H locs hP hS)
theorem r_if_le (C : CX p s m args meth c cc nL own ret D cI cZ ad tT A) {x : Int32} {off : Int} {tgt : Nat} (hdg : decode cc pc = .ok (.ifCond .le off, 3)) (ht : (pc : Int) + off = (tgt : Int)) (kt : WR p l e R s m args below meth c D cI cZ ad A kc ks Q o1 σ (F0 m tgt ls rest)) (kf : WR p l e R s m args below meth c D cI cZ ad A kc ks Q o2 σ (F0 m (pc + 3) ls rest)) : WR p l e R s m args below meth c D cI cZ ad A kc ks Q (if x ≤ 0 then o1 else o2) σ (F0 m pc ls (.int x :: rest)) := fun r σ' ho H locs hP hS => lv_if_le C.1 C.2.1 hdg ht (fun h => kt r σ' (by rw [if_pos h] at ho; exact ho) H locs hP hS) (fun h => kf r σ' (by rw [if_neg h] at ho; exact ho) H locs hP hS)
theorem r_icmp_eq (C : CX p s m args meth c cc nL own ret D cI cZ ad tT A) {x y : Int32} {off : Int} {tgt : Nat} (hdg : decode cc pc = .ok (.if_icmp .eq off, 3)) (ht : (pc : Int) + off = (tgt : Int)) (kt : WR p l e R s m args below meth c D cI cZ ad A kc ks Q o1 σ (F0 m tgt ls rest)) (kf : WR p l e R s m args below meth c D cI cZ ad A kc ks Q o2 σ (F0 m (pc + 3) ls rest)) : WR p l e R s m args below meth c D cI cZ ad A kc ks Q (if x = y then o1 else o2) σ (F0 m pc ls (.int y :: .int x :: rest)) := fun r σ' ho H locs hP hS => lv_icmp_eq C.1 C.2.1 hdg ht (fun h => kt r σ' (by rw [if_pos h] at ho; exact ho) H locs hP hS) (fun h => kf r σ' (by rw [if_neg h] at ho; exact ho) H locs hP hS)
theorem r_icmp_ne (C : CX p s m args meth c cc nL own ret D cI cZ ad tT A) {x y : Int32} {off : Int} {tgt : Nat} (hdg : decode cc pc = .ok (.if_icmp .ne off, 3)) (ht : (pc : Int) + off = (tgt : Int)) (kt : WR p l e R s m args below meth c D cI cZ ad A kc ks Q o1 σ (F0 m tgt ls rest)) (kf : WR p l e R s m args below meth c D cI cZ ad A kc ks Q o2 σ (F0 m (pc + 3) ls rest)) : WR p l e R s m args below meth c D cI cZ ad A kc ks Q (if x = y then o2 else o1) σ (F0 m pc ls (.int y :: .int x :: rest)) := fun r σ' ho H locs hP hS => lv_icmp_ne C.1 C.2.1 hdg ht (fun h => kt r σ' (by rw [if_neg h] at ho; exact ho) H locs hP hS) (fun h => kf r σ' (by rw [if_pos h] at ho; exact ho) H locs hP hS)
theorem r_icmp_lt (C : CX p s m args meth c cc nL own ret D cI cZ ad tT A) {x y : Int32} {off : Int} {tgt : Nat} (hdg : decode cc pc = .ok (.if_icmp .lt off, 3)) (ht : (pc : Int) + off = (tgt : Int)) (kt : WR p l e R s m args below meth c D cI cZ ad A kc ks Q o1 σ (F0 m tgt ls rest)) (kf : WR p l e R s m args below meth c D cI cZ ad A kc ks Q o2 σ (F0 m (pc + 3) ls rest)) : WR p l e R s m args below meth c D cI cZ ad A kc ks Q (if x < y then o1 else o2) σ (F0 m pc ls (.int y :: .int x :: rest)) := fun r σ' ho H locs hP hS => lv_icmp_lt C.1 C.2.1 hdg ht (fun h => kt r σ' (by rw [if_pos h] at ho; exact ho) H locs hP hS) (fun h => kf r σ' (by rw [if_neg h] at ho; exact ho) H locs hP hS)
theorem r_icmp_ge (C : CX p s m args meth c cc nL own ret D cI cZ ad tT A) {x y : Int32} {off : Int} {tgt : Nat} (hdg : decode cc pc = .ok (.if_icmp .ge off, 3)) (ht : (pc : Int) + off = (tgt : Int)) (kt : WR p l e R s m args below meth c D cI cZ ad A kc ks Q o1 σ (F0 m tgt ls rest)) (kf : WR p l e R s m args below meth c D cI cZ ad A kc ks Q o2 σ (F0 m (pc + 3) ls rest)) : WR p l e R s m args below meth c D cI cZ ad A kc ks Q (if y ≤ x then o1 else o2) σ (F0 m pc ls (.int y :: .int x :: rest)) := fun r σ' ho H locs hP hS => lv_icmp_ge C.1 C.2.1 hdg ht (fun h => kt r σ' (by rw [if_pos h] at ho; exact ho) H locs hP hS) (fun h => kf r σ' (by rw [if_neg h] at ho; exact ho) H locs hP hS)
theorem r_icmp_gt (C : CX p s m args meth c cc nL own ret D cI cZ ad tT A) {x y : Int32} {off : Int} {tgt : Nat} (hdg : decode cc pc = .ok (.if_icmp .gt off, 3)) (ht : (pc : Int) + off = (tgt : Int)) (kt : WR p l e R s m args below meth c D cI cZ ad A kc ks Q o1 σ (F0 m tgt ls rest)) (kf : WR p l e R s m args below meth c D cI cZ ad A kc ks Q o2 σ (F0 m (pc + 3) ls rest)) : WR p l e R s m args below meth c D cI cZ ad A kc ks Q (if y < x then o1 else o2) σ (F0 m pc ls (.int y :: .int x :: rest)) := fun r σ' ho H locs hP hS => lv_icmp_gt C.1 C.2.1 hdg ht (fun h => kt r σ' (by rw [if_pos h] at ho; exact ho) H locs hP hS) (fun h => kf r σ' (by rw [if_neg h] at ho; exact ho) H locs hP hS)
theorem r_icmp_le (C : CX p s m args meth c cc nL own ret D cI cZ ad tT A) {x y : Int32} {off : Int} {tgt : Nat} (hdg : decode cc pc = .ok (.if_icmp .le off, 3)) (ht : (pc : Int) + off = (tgt : Int)) (kt : WR p l e R s m args below meth c D cI cZ ad A kc ks Q o1 σ (F0 m tgt ls rest)) (kf : WR p l e R s m args below meth c D cI cZ ad A kc ks Q o2 σ (F0 m (pc + 3) ls rest)) : WR p l e R s m args below meth c D cI cZ ad A kc ks Q (if x ≤ y then o1 else o2) σ (F0 m pc ls (.int y :: .int x :: rest)) := fun r σ' ho H locs hP hS => lv_icmp_le C.1 C.2.1 hdg ht (fun h => kt r σ' (by rw [if_pos h] at ho; exact ho) H locs hP hS) (fun h => kf r σ' (by rw [if_neg h] at ho; exact ho) H locs hP hS)
/-- a field by its link: class ci, place k -/
def FLD (own : String) (index ci k : Nat) : Prop := ∃ (C : String) (T : u_T) (N : Nat), vwCl[ci]? = some (C, T, N) ∧ (∀ w ∈ u_ws C T N, w ∈ UW) ∧ k < N ∧ Cond.fieldLink own index (T k).1 (T k).2.1 (T k).2.2.1 ∈ UW
def FLN (own : String) (index ci k : Nat) : Prop := ∃ (C : String) (T : u_T) (N : Nat) (host : String), vwCl[ci]? = some (C, T, N) ∧ (∀ w ∈ u_ws C T N, w ∈ UW) ∧ k < N ∧ Cond.fieldLinkNest own index (T k).1 (T k).2.1 (T k).2.2.1 host ∈ NW
/-- a field that may be put -/
def FPT (ci k : Nat) (ty : FieldType) : Prop := ∃ (C : String) (T : u_T) (N : Nat) (ty0 : Nat → FieldType), vwCl[ci]? = some (C, T, N) ∧ (∀ k, k < N → parseFieldDescriptor (T k).2.2.1 = some (ty0 k)) ∧ (∀ a, a < N → ∀ b, b < N → a ≠ b → (T a).2.1 ≠ (T b).2.1) ∧ (T k).2.2.2 = false ∧ parseFieldDescriptor (T k).2.2.1 = some ty
def LF (c ci k : Nat) (x : Option Nat) : Prop := ∃ fs : List (Option Nat), LY[c]? = some (.inr (ci, fs)) ∧ fs[k]? = some x
theorem r_getI (C : CX p s m args meth c cc nL own ret D cI cZ ad tT A) {index ci c0 k : Nat} (hF : FLD own index ci k) (hL : LF c0 ci k none) (hdg : decode cc pc = .ok (.getfield index, 3)) (kk : WR p l e R s m args below meth c D cI cZ ad A kc ks Q o σ (F0 m (pc + 3) ls (.int (σ c0 k) :: rest))) : WR p l e R s m args below meth c D cI cZ ad A kc ks Q o σ (F0 m pc ls (.ref (ad c0) :: rest)) := by
  intro r σ' ho H locs hP hS
  obtain ⟨C1, T, N, hc, hu, hk, hw⟩ := hF
  obtain ⟨fs, h1, h2⟩ := hL
  have h3 := cellV_int (ad := ad) (f := σ c0) fs 0 k h2
  rw [Nat.zero_add] at h3
  exact va_get C.1 C.2.1 C.2.2.2.2.1 hu C.2.2.2.1 C.K hP c0 (ws_at h1) hc k hk (C.2.2.2.2.1 _ hw) (fun _ h => h) h3 hdg (kk r σ' ho H locs hP hS)
theorem r_getR (C : CX p s m args meth c cc nL own ret D cI cZ ad tT A) {index ci c0 c1 k : Nat} (hF : FLD own index ci k) (hL : LF c0 ci k (some c1)) (hdg : decode cc pc = .ok (.getfield index, 3)) (kk : WR p l e R s m args below meth c D cI cZ ad A kc ks Q o σ (F0 m (pc + 3) ls (.ref (ad c1) :: rest))) : WR p l e R s m args below meth c D cI cZ ad A kc ks Q o σ (F0 m pc ls (.ref (ad c0) :: rest)) := by
  intro r σ' ho H locs hP hS
  obtain ⟨C1, T, N, hc, hu, hk, hw⟩ := hF
  obtain ⟨fs, h1, h2⟩ := hL
  exact va_get C.1 C.2.1 C.2.2.2.2.1 hu C.2.2.2.1 C.K hP c0 (ws_at h1) hc k hk (C.2.2.2.2.1 _ hw) (fun _ h => h) (cellV_ref (ad := ad) (f := σ c0) fs 0 k c1 h2) hdg (kk r σ' ho H locs hP hS)
theorem r_getIN (C : CX p s m args meth c cc nL own ret D cI cZ ad tT A) {index ci c0 k : Nat} (hF : FLN own index ci k) (hL : LF c0 ci k none) (hdg : decode cc pc = .ok (.getfield index, 3)) (kk : WR p l e R s m args below meth c D cI cZ ad A kc ks Q o σ (F0 m (pc + 3) ls (.int (σ c0 k) :: rest))) : WR p l e R s m args below meth c D cI cZ ad A kc ks Q o σ (F0 m pc ls (.ref (ad c0) :: rest)) := by
  intro r σ' ho H locs hP hS
  obtain ⟨C1, T, N, host, hc, hu, hk, hw⟩ := hF
  obtain ⟨fs, h1, h2⟩ := hL
  have h3 := cellV_int (ad := ad) (f := σ c0) fs 0 k h2
  rw [Nat.zero_add] at h3
  exact va_getN C.1 C.2.1 C.2.2.2.2.1 hu C.2.2.2.1 C.K hP c0 (ws_at h1) hc k hk (va_Nw.use rfl (C.N.1 _ hw)) (fun _ h => h) h3 hdg (kk r σ' ho H locs hP hS)
theorem r_getRN (C : CX p s m args meth c cc nL own ret D cI cZ ad tT A) {index ci c0 c1 k : Nat} (hF : FLN own index ci k) (hL : LF c0 ci k (some c1)) (hdg : decode cc pc = .ok (.getfield index, 3)) (kk : WR p l e R s m args below meth c D cI cZ ad A kc ks Q o σ (F0 m (pc + 3) ls (.ref (ad c1) :: rest))) : WR p l e R s m args below meth c D cI cZ ad A kc ks Q o σ (F0 m pc ls (.ref (ad c0) :: rest)) := by
  intro r σ' ho H locs hP hS
  obtain ⟨C1, T, N, host, hc, hu, hk, hw⟩ := hF
  obtain ⟨fs, h1, h2⟩ := hL
  exact va_getN C.1 C.2.1 C.2.2.2.2.1 hu C.2.2.2.1 C.K hP c0 (ws_at h1) hc k hk (va_Nw.use rfl (C.N.1 _ hw)) (fun _ h => h) (cellV_ref (ad := ad) (f := σ c0) fs 0 k c1 h2) hdg (kk r σ' ho H locs hP hS)
theorem r_putI (C : CX p s m args meth c cc nL own ret D cI cZ ad tT A) {index ci c0 k : Nat} {v : Int32} {ty : FieldType} (hF : FLD own index ci k) (hT : FPT ci k ty) (hn : narrow ty (.int v) = .int v) (hfit : fits ty (.int v) = true) (hL : LF c0 ci k none) (hdg : decode cc pc = .ok (.putfield index, 3)) (kk : WR p l e R s m args below meth c D cI cZ ad A kc ks Q o (stm σ c0 k v) (F0 m (pc + 3) ls rest)) : WR p l e R s m args below meth c D cI cZ ad A kc ks Q o σ (F0 m pc ls (.int v :: .ref (ad c0) :: rest)) := by
  intro r σ' ho H locs hP hS
  obtain ⟨C1, T, N, hc, hu, hk, hw⟩ := hF
  obtain ⟨C2, T2, N2, ty0, hc2, hty, hnm, hfin, hd⟩ := hT
  cases hc.symm.trans hc2
  obtain ⟨fs, h1, h2⟩ := hL
  have hlen : k < (cellV ad (σ c0) 0 fs).length := by rw [cellV_len]; exact (List.getElem?_eq_some_iff.mp h2).1
  refine va_put C.1 C.2.1 C.2.2.2.2.1 hu ty0 hty hnm C.2.2.2.1 C.K hP (C.Dd σ) hS c0 (ws_at h1) hc k hk (C.2.2.2.2.1 _ hw) (fun _ h => h) hfin hd hn hfit hlen hdg (fun H1 locs1 hP1 _ hS1 => ?_)
  have h4 := cellV_set (ad := ad) (f := σ c0) (v := v) fs 0 k h2
  rw [Nat.zero_add] at h4
  rw [ws_set (k := k) (v := v) h1 (show (Sum.inr (ci, (cellV ad (σ c0) 0 fs).set k (.int v)) : va_E) = cellE cI cZ ad (upd (σ c0) k v) (.inr (ci, fs)) by rw [h4]; rfl)] at hP1
  exact kk r σ' ho H1 locs1 hP1 hS1
theorem r_putIN (C : CX p s m args meth c cc nL own ret D cI cZ ad tT A) {index ci c0 k : Nat} {v : Int32} {ty : FieldType} (hF : FLN own index ci k) (hT : FPT ci k ty) (hn : narrow ty (.int v) = .int v) (hfit : fits ty (.int v) = true) (hL : LF c0 ci k none) (hdg : decode cc pc = .ok (.putfield index, 3)) (kk : WR p l e R s m args below meth c D cI cZ ad A kc ks Q o (stm σ c0 k v) (F0 m (pc + 3) ls rest)) : WR p l e R s m args below meth c D cI cZ ad A kc ks Q o σ (F0 m pc ls (.int v :: .ref (ad c0) :: rest)) := by
  intro r σ' ho H locs hP hS
  obtain ⟨C1, T, N, host, hc, hu, hk, hw⟩ := hF
  obtain ⟨C2, T2, N2, ty0, hc2, hty, hnm, hfin, hd⟩ := hT
  cases hc.symm.trans hc2
  obtain ⟨fs, h1, h2⟩ := hL
  have hlen : k < (cellV ad (σ c0) 0 fs).length := by rw [cellV_len]; exact (List.getElem?_eq_some_iff.mp h2).1
  refine va_putN C.1 C.2.1 C.2.2.2.2.1 hu ty0 hty hnm C.2.2.2.1 C.K hP (C.Dd σ) hS c0 (ws_at h1) hc k hk (va_Nw.use rfl (C.N.1 _ hw)) (fun _ h => h) hfin hd hn hfit hlen hdg (fun H1 locs1 hP1 _ hS1 => ?_)
  have h4 := cellV_set (ad := ad) (f := σ c0) (v := v) fs 0 k h2
  rw [Nat.zero_add] at h4
  rw [ws_set (k := k) (v := v) h1 (show (Sum.inr (ci, (cellV ad (σ c0) 0 fs).set k (.int v)) : va_E) = cellE cI cZ ad (upd (σ c0) k v) (.inr (ci, fs)) by rw [h4]; rfl)] at hP1
  exact kk r σ' ho H1 locs1 hP1 hS1
theorem r_iald (C : CX p s m args meth c cc nL own ret D cI cZ ad tT A) {c0 n : Nat} {i : Int32} (hL : LY[c0]? = some (.inl (true, n))) (hdg : decode cc pc = .ok (.iaload, 1)) (kk : WR p l e R s m args below meth c D cI cZ ad A kc ks Q o σ (F0 m (pc + 1) ls (.int (σ c0 i.toNatClampNeg) :: rest))) : WR p l e R s m args below meth c D cI cZ ad A kc ks Q (gd n i o) σ (F0 m pc ls (.int i :: .ref (ad c0) :: rest)) := by
  intro r σ' ho H locs hP hS
  obtain ⟨hin, ho⟩ := gd_some ho
  exact va_iald C.1 C.2.1 C.K hP c0 0 (ws_at hL) rfl hin hdg (kk r σ' ho H locs hP hS)
theorem r_zald (C : CX p s m args meth c cc nL own ret D cI cZ ad tT A) {c0 n : Nat} {i : Int32} (hL : LY[c0]? = some (.inl (false, n))) (hdg : decode cc pc = .ok (.baload, 1)) (kk : WR p l e R s m args below meth c D cI cZ ad A kc ks Q o σ (F0 m (pc + 1) ls (.int (σ c0 i.toNatClampNeg) :: rest))) : WR p l e R s m args below meth c D cI cZ ad A kc ks Q (gd n i o) σ (F0 m pc ls (.int i :: .ref (ad c0) :: rest)) := by
  intro r σ' ho H locs hP hS
  obtain ⟨hin, ho⟩ := gd_some ho
  exact va_zald C.1 C.2.1 C.K hP c0 1 (ws_at hL) rfl hin hdg (kk r σ' ho H locs hP hS)
theorem r_iast (C : CX p s m args meth c cc nL own ret D cI cZ ad tT A) {c0 n : Nat} {i x : Int32} (hL : LY[c0]? = some (.inl (true, n))) (hdg : decode cc pc = .ok (.iastore, 1)) (kk : WR p l e R s m args below meth c D cI cZ ad A kc ks Q o (stm σ c0 i.toNatClampNeg x) (F0 m (pc + 1) ls rest)) : WR p l e R s m args below meth c D cI cZ ad A kc ks Q (gd n i o) σ (F0 m pc ls (.int x :: .int i :: .ref (ad c0) :: rest)) := by
  intro r σ' ho H locs hP hS
  obtain ⟨hin, ho⟩ := gd_some ho
  refine va_iast C.1 C.2.1 C.K hP (C.Dd σ) hS c0 0 (ws_at hL) rfl hin hdg (fun H1 locs1 hP1 _ hS1 => ?_)
  rw [ws_set (k := i.toNatClampNeg) (v := x) hL (x := (Sum.inl (cI, n, Sum.inl (upd (σ c0) i.toNatClampNeg x)) : va_E)) rfl] at hP1
  exact kk r σ' ho H1 locs1 hP1 hS1
theorem r_zast (C : CX p s m args meth c cc nL own ret D cI cZ ad tT A) {c0 n : Nat} {i x : Int32} (hL : LY[c0]? = some (.inl (false, n))) (hx : vp_nar .boolean x = x) (hdg : decode cc pc = .ok (.bastore, 1)) (kk : WR p l e R s m args below meth c D cI cZ ad A kc ks Q o (stm σ c0 i.toNatClampNeg x) (F0 m (pc + 1) ls rest)) : WR p l e R s m args below meth c D cI cZ ad A kc ks Q (gd n i o) σ (F0 m pc ls (.int x :: .int i :: .ref (ad c0) :: rest)) := by
  intro r σ' ho H locs hP hS
  obtain ⟨hin, ho⟩ := gd_some ho
  refine va_zast C.1 C.2.1 C.K hP (C.Dd σ) hS c0 1 (ws_at hL) rfl hin hdg (fun H1 locs1 hP1 _ hS1 => ?_)
  rw [hx, ws_set (k := i.toNatClampNeg) (v := x) hL (x := (Sum.inl (cZ, n, Sum.inl (upd (σ c0) i.toNatClampNeg x)) : va_E)) rfl] at hP1
  exact kk r σ' ho H1 locs1 hP1 hS1
theorem r_alen (C : CX p s m args meth c cc nL own ret D cI cZ ad tT A) {c0 n : Nat} {v : Int32} (hL : LY[c0]? = some (.inl (true, n))) (hv : nI n = v) (hdg : decode cc pc = .ok (.arraylength, 1)) (kk : WR p l e R s m args below meth c D cI cZ ad A kc ks Q o σ (F0 m (pc + 1) ls (.int v :: rest))) : WR p l e R s m args below meth c D cI cZ ad A kc ks Q o σ (F0 m pc ls (.ref (ad c0) :: rest)) := fun r σ' ho H locs hP hS => va_alen C.1 C.2.1 C.K hP c0 0 (ws_at hL) (ty := .int) rfl hv hdg (kk r σ' ho H locs hP hS)
theorem r_gett (C : CX p s m args meth c cc nL own ret D cI cZ ad tT A) {index : Nat} (hw : Cond.fieldLink own index RX8 "TREES" "[I" ∈ UW) (hdg : decode cc pc = .ok (.getstatic index, 3)) (kk : WR p l e R s m args below meth c D cI cZ ad A kc ks Q o σ (F0 m (pc + 3) ls (.ref tT :: rest))) : WR p l e R s m args below meth c D cI cZ ad A kc ks Q o σ (F0 m pc ls rest) := fun r σ' ho H locs hP hS => va_gets C.1 C.2.1 C.N.2.1 hS C.2.2.2.1 (C.2.2.2.2.1 _ hw) (fun _ h => h) hdg (kk r σ' ho H locs hP hS)
theorem r_tald (C : CX p s m args meth c cc nL own ret D cI cZ ad tT A) {i : Int32} (hdg : decode cc pc = .ok (.iaload, 1)) (kk : WR p l e R s m args below meth c D cI cZ ad A kc ks Q o σ (F0 m (pc + 1) ls (.int (TRi i.toNatClampNeg) :: rest))) : WR p l e R s m args below meth c D cI cZ ad A kc ks Q (gd 7 i o) σ (F0 m pc ls (.int i :: .ref tT :: rest)) := by
  intro r σ' ho H locs hP hS
  obtain ⟨hin, ho⟩ := gd_some ho
  exact va_ti C.1 C.2.1 C.N.2.2 hS hin rfl hdg (kk r σ' ho H locs hP hS)
theorem r_tlen (C : CX p s m args meth c cc nL own ret D cI cZ ad tT A) {v : Int32} (hv : nI 7 = v) (hdg : decode cc pc = .ok (.arraylength, 1)) (kk : WR p l e R s m args below meth c D cI cZ ad A kc ks Q o σ (F0 m (pc + 1) ls (.int v :: rest))) : WR p l e R s m args below meth c D cI cZ ad A kc ks Q o σ (F0 m pc ls (.ref tT :: rest)) := fun r σ' ho H locs hP hS => va_tlen C.1 C.2.1 C.N.2.2 hS hv hdg (kk r σ' ho H locs hP hS)
theorem r_mmax (C : CX p s m args meth c cc nL own ret D cI cZ ad tT A) {lv : List (Nat × Value)} (hl : lv_has ls nL lv) {index : Nat} (hM : Cond.methodLink own index Lib.Math.max.name ∈ UW ∧ Cond.static Lib.Math.max.name ∈ UW ∧ Cond.initialized "java/lang/Math" ∈ UW ∧ Cond.code Lib.Math.max.name Lib.Math.max.code 2 (some .int) ∈ UW) (hR : 1 ≤ R.frames ∧ (rest.map fun v => v.category).sum + 13 ≤ R.locals ∧ kc ≤ R.cells ∧ ks ≤ R.slots) {x y : Int32} (hdg : decode cc pc = .ok (.invokestatic index, 3)) (kk : WR p l e R s m args below meth c D cI cZ ad A kc ks Q o σ (F0 m (pc + 3) ls (.int (if x < y then y else x) :: rest))) : WR p l e R s m args below meth c D cI cZ ad A kc ks Q o σ (F0 m pc ls (.int y :: .int x :: rest)) := fun r σ' ho H locs hP hS => va_mmax C.1 C.2.1 (C.2.2.1.trans hl.1.symm) C.2.2.2.1 (C.2.2.2.2.1 _ hM.1) (C.2.2.2.2.1 _ hM.2.1) (C.2.2.2.2.1 _ hM.2.2.1) (C.2.2.2.2.1 _ hM.2.2.2) hR.1 hR.2.1 hR.2.2.1 hR.2.2.2 hdg (kk r σ' ho H locs hP hS)
theorem r_mmin (C : CX p s m args meth c cc nL own ret D cI cZ ad tT A) {lv : List (Nat × Value)} (hl : lv_has ls nL lv) {index : Nat} (hM : Cond.methodLink own index Lib.Math.min.name ∈ UW ∧ Cond.static Lib.Math.min.name ∈ UW ∧ Cond.initialized "java/lang/Math" ∈ UW ∧ Cond.code Lib.Math.min.name Lib.Math.min.code 2 (some .int) ∈ UW) (hR : 1 ≤ R.frames ∧ (rest.map fun v => v.category).sum + 13 ≤ R.locals ∧ kc ≤ R.cells ∧ ks ≤ R.slots) {x y : Int32} (hdg : decode cc pc = .ok (.invokestatic index, 3)) (kk : WR p l e R s m args below meth c D cI cZ ad A kc ks Q o σ (F0 m (pc + 3) ls (.int (if y < x then y else x) :: rest))) : WR p l e R s m args below meth c D cI cZ ad A kc ks Q o σ (F0 m pc ls (.int y :: .int x :: rest)) := fun r σ' ho H locs hP hS => va_mmin C.1 C.2.1 (C.2.2.1.trans hl.1.symm) C.2.2.2.1 (C.2.2.2.2.1 _ hM.1) (C.2.2.2.2.1 _ hM.2.1) (C.2.2.2.2.1 _ hM.2.2.1) (C.2.2.2.2.1 _ hM.2.2.2) hR.1 hR.2.1 hR.2.2.1 hR.2.2.2 hdg (kk r σ' ho H locs hP hS)
theorem r_tableIn (C : CX p s m args meth c cc nL own ret D cI cZ ad tT A) {dflt lo hi : Int} {offs : Array Int} {len : Nat} {x : Int32} {off : Int} {tgt : Nat} (hdg : decode cc pc = .ok (.tableswitch dflt lo hi offs, len)) (h1 : ¬ x.toInt < lo) (h2 : ¬ hi < x.toInt) (hof : offs[(x.toInt - lo).toNat]? = some off) (ht : (pc : Int) + off = (tgt : Int)) (k : WR p l e R s m args below meth c D cI cZ ad A kc ks Q o σ (F0 m tgt ls rest)) : WR p l e R s m args below meth c D cI cZ ad A kc ks Q o σ (F0 m pc ls (.int x :: rest)) := fun r σ' ho H locs hP hS => lv_tableIn C.1 C.2.1 hdg h1 h2 hof ht (k r σ' ho H locs hP hS)
theorem r_tableOut (C : CX p s m args meth c cc nL own ret D cI cZ ad tT A) {dflt lo hi : Int} {offs : Array Int} {len : Nat} {x : Int32} {tgt : Nat} (hdg : decode cc pc = .ok (.tableswitch dflt lo hi offs, len)) (h : x.toInt < lo ∨ hi < x.toInt) (ht : (pc : Int) + dflt = (tgt : Int)) (k : WR p l e R s m args below meth c D cI cZ ad A kc ks Q o σ (F0 m tgt ls rest)) : WR p l e R s m args below meth c D cI cZ ad A kc ks Q o σ (F0 m pc ls (.int x :: rest)) := fun r σ' ho H locs hP hS => lv_tableOut C.1 C.2.1 hdg h ht (k r σ' ho H locs hP hS)
theorem r_split {q : Prop} [Decidable q] {g : JFrame} (k1 : q → WR p l e R s m args below meth c D cI cZ ad A kc ks Q o1 σ g) (k2 : ¬ q → WR p l e R s m args below meth c D cI cZ ad A kc ks Q o2 σ g) : WR p l e R s m args below meth c D cI cZ ad A kc ks Q (if q then o1 else o2) σ g := by
  by_cases h : q
  · rw [if_pos h]; exact k1 h
  · rw [if_neg h]; exact k2 h
theorem r_none {g : JFrame} : WR p l e R s m args below meth c D cI cZ ad A kc ks Q none σ g := fun _ _ h => by cases h
theorem r_jn {α : Type} {k : α} {f : α → Option (Int32 × Mem)} {g : JFrame} (P : α → Prop) (hk : P k) (hf : ∀ k', P k' → WR p l e R s m args below meth c D cI cZ ad A kc ks Q (f k') σ g) : WR p l e R s m args below meth c D cI cZ ad A kc ks Q (jn k f) σ g := hf k hk
/-- returns -/
theorem r_iret (C : CX p s m args meth c cc nL own ret D cI cZ ad tT A) {v : Int32} (hret : ret = some .int) (hdg : decode cc pc = .ok (.ireturn, 1)) : WR p l e R s m args below meth c D cI cZ ad A 0 0 (fun r σ' => MQ below (QQ D cI cZ ad A (rvi r) σ') args s 0 0 A) (some (v, σ)) σ (F0 m pc ls [.int v]) := by
  intro r σ' ho H locs hP hS
  cases ho
  exact W.iret (Qc := QQ D cI cZ ad A (rvi v) σ) C.1 C.2.1 (by rw [← hret]; exact C.2.2.2.2.2.2.2.2.2.2.1) (fun t ht hW => ⟨⟨rfl, by rw [ht]; exact hP⟩, hS.F ht⟩) hS.2.2 hdg C.2.2.2.2.2.2.2.2.2.2.2
theorem r_zret (C : CX p s m args meth c cc nL own ret D cI cZ ad tT A) {v : Int32} (hret : ret = some .boolean) (hn : narrow .boolean (.int v) = .int v) (hdg : decode cc pc = .ok (.ireturn, 1)) : WR p l e R s m args below meth c D cI cZ ad A 0 0 (fun r σ' => MQ below (QQ D cI cZ ad A (rvi r) σ') args s 0 0 A) (some (v, σ)) σ (F0 m pc ls [.int v]) := by
  intro r σ' ho H locs hP hS
  cases ho
  exact W.zret (Qc := QQ D cI cZ ad A (rvi v) σ) (ty := .boolean) C.1 C.2.1 (by rw [← hret]; exact C.2.2.2.2.2.2.2.2.2.2.1) hn (fun t ht hW => ⟨⟨rfl, by rw [ht]; exact hP⟩, hS.F ht⟩) hS.2.2 hdg C.2.2.2.2.2.2.2.2.2.2.2
theorem r_vret (C : CX p s m args meth c cc nL own ret D cI cZ ad tT A) {v : Int32} (hret : ret = none) (hdg : decode cc pc = .ok (.return_, 1)) : WR p l e R s m args below meth c D cI cZ ad A 0 0 (fun r σ' => MQ below (QQ D cI cZ ad A (rvv r) σ') args s 0 0 A) (some (v, σ)) σ (F0 m pc ls []) := by
  intro r σ' ho H locs hP hS
  cases ho
  exact W.vret (Qc := QQ D cI cZ ad A (rvv v) σ) C.1 C.2.1 (by rw [← hret]; exact C.2.2.2.2.2.2.2.2.2.2.1) (fun t ht hW => ⟨⟨rfl, by rw [ht]; exact hP⟩, hS.F ht⟩) hS.2.2 hdg C.2.2.2.2.2.2.2.2.2.2.2
theorem r_aret (C : CX p s m args meth c cc nL own ret D cI cZ ad tT A) {q : Nat} {v : Int32} {rt : FieldType} (hret : ret = some rt) (hrt : ∃ n, rt = .object n) (hdg : decode cc pc = .ok (.areturn, 1)) : WR p l e R s m args below meth c D cI cZ ad A 0 0 (fun _ σ' => MQ below (QQ D cI cZ ad A (some (.ref q)) σ') args s 0 0 A) (some (v, σ)) σ (F0 m pc ls [.ref q]) := by
  intro r σ' ho H locs hP hS
  cases ho
  exact W.aret (Qc := QQ D cI cZ ad A (some (.ref q)) σ) (rt := rt) C.1 C.2.1 (by rw [← hret]; exact C.2.2.2.2.2.2.2.2.2.2.1) (Or.inl hrt) (Or.inr ⟨q, rfl⟩) (fun t ht hW => ⟨⟨rfl, by rw [ht]; exact hP⟩, hS.F ht⟩) hS.2.2 hdg C.2.2.2.2.2.2.2.2.2.2.2
/-- calls -/
def MLV (own : String) (index : Nat) (y : MethodName) (cy : ByteArray) (nLy : Nat) (rety : Option FieldType) (n : Nat) : Prop := Cond.methodLink own index y ∈ UW ∧ Cond.instanceMethod y ∈ UW ∧ Cond.selects y.cls y y ∈ UW ∧ Cond.initialized y.cls ∈ UW ∧ Cond.code y cy nLy rety ∈ UW ∧ (y.cls ≠ "java/lang/invoke/MethodHandle" ∧ y.cls ≠ "java/lang/invoke/VarHandle" ∧ (parseMethodDescriptor y.desc).map (fun d => d.parameters.length) = some n)
def MLS (own : String) (index : Nat) (y : MethodName) (cy : ByteArray) (nLy : Nat) (rety : Option FieldType) (n : Nat) : Prop := Cond.methodLink own index y ∈ UW ∧ Cond.static y ∈ UW ∧ Cond.initialized y.cls ∈ UW ∧ Cond.code y cy nLy rety ∈ UW ∧ (y.cls ≠ "java/lang/invoke/MethodHandle" ∧ y.cls ≠ "java/lang/invoke/VarHandle" ∧ (parseMethodDescriptor y.desc).map (fun d => d.parameters.length) = some n)
def MLSN (own : String) (index : Nat) (y : MethodName) (cy : ByteArray) (nLy : Nat) (rety : Option FieldType) (n : Nat) : Prop := (∃ host : String, Cond.methodLinkNest own index y host ∈ NW) ∧ Cond.static y ∈ UW ∧ Cond.initialized y.cls ∈ UW ∧ Cond.code y cy nLy rety ∈ UW ∧ (y.cls ≠ "java/lang/invoke/MethodHandle" ∧ y.cls ≠ "java/lang/invoke/VarHandle" ∧ (parseMethodDescriptor y.desc).map (fun d => d.parameters.length) = some n)
def RCV (c0 : Nat) (cls : String) : Prop := ∃ (ci : Nat) (fs : List (Option Nat)) (T : u_T) (N : Nat), LY[c0]? = some (.inr (ci, fs)) ∧ vwCl[ci]? = some (cls, T, N)
theorem good_cons {y : MethodName} {cy : ByteArray} {nLy : Nat} {rety : Option FieldType} {l0 : List Cond} (h0 : ∀ w ∈ l0, w ∈ UW) (h : Cond.code y cy nLy rety ∈ UW) : GoodIn UW (l0 ++ (.code y cy nLy rety :: UW)) := by
  intro w hw
  have hm : w ∈ UW := by
    rcases List.mem_append.mp hw with a | a
    · exact h0 w a
    · rcases List.mem_cons.mp a with a | a
      · rw [a]; exact h
      · exact a
  exact ⟨hm, uw_good hm⟩
theorem pre_blind {As : List Value} {sz : Nat} : FrameBlind (va_Pc As (PRE D cI cZ ad tT sz σ)) := fun a U g mk q => ⟨q.1, q.2.1, q.2.2.1, va_K.moved (u := U) (U := U.calling g mk a) (Vm.Alike.refl U.vm) q.2.2.2.1, EN.same (s := U) (U := U.calling g mk a) rfl q.2.2.2.2⟩
theorem aa_in (C : CX p s m args meth c cc nL own ret D cI cZ ad tT A) {H : Heap} {locs : List Loc} (hS : va_S A s.heap H locs) : ∀ q, AA ad H.size q → A q := by
  intro q h
  rcases h with ⟨i, h1, h2⟩ | h
  · rw [← h2]; exact C.2.2.2.2.2.2.2.1 i h1
  · exact C.2.2.2.2.2.2.2.2.1 q (Nat.le_trans hS.1 h)
theorem pre_at (C : CX p s m args meth c cc nL own ret D cI cZ ad tT A) {H : Heap} {locs : List Loc} (hP : va_P D vwCl (WS cI cZ ad σ) H) (hS : va_S A s.heap H locs) {U : State} (hU : U.heap = H) (hW : s.WarmedH U.vm) : PRE D cI cZ ad tT H.size σ U := ⟨by rw [hU], by rw [hU]; exact hP, va_K.moved hW.alike C.K, by rw [hU]; exact EN.warm hW ((C.N.kept hS.2.1).narrow (aa_in C hS))⟩
theorem call_go (C : CX p s m args meth c cc nL own ret D cI cZ ad tT A) {H : Heap} {locs : List Loc} {st : List Value} {v1 : Option Value} {σ1 : Mem} {a : Array Value} {Q1 : State → Prop} (hS : va_S A s.heap H locs) (run : va_Run p l e R s m args below meth c H locs kc ks 0 0 (F0 m pc ls st) rest (QQ D cI cZ ad (AA ad H.size) v1 σ1 a) (AA ad H.size)) (kk : ∀ (H : Heap) (locs : List Loc), va_P D vwCl (WS cI cZ ad σ1) H → va_S A s.heap H locs → W p l e R s m args below meth c H locs kc ks Q1 (F0 m (pc + 3) ls (v1.toList ++ rest))) : W p l e R s m args below meth c H locs kc ks Q1 (F0 m pc ls st) := by
  intro T hT X
  obtain ⟨v, st₀, t, T', L, h0, X', hL, e1, e2, ⟨⟨hv, hP1⟩, hz, hk⟩, gs⟩ := run T hT X
  have hv2 : v = v1 := by injection hv
  subst hv2
  rw [h0] at hz hk
  have hAA := aa_in C hS
  obtain ⟨t2, a1, b1⟩ := kk T'.heap (locs ++ L) (by rw [e1]; exact hP1)
    ⟨Nat.le_trans hS.1 (by rw [e1]; exact hz), fun q h1 h2 => by rw [e1, hk q (Nat.lt_of_lt_of_le h1 hS.1) (fun z => h2 (hAA q z))]; exact hS.2.1 q h1 h2, fun q hq => by
      rcases List.mem_append.mp hq with h | h
      · exact hS.2.2 q h
      · exact hAA _ (hL q h)⟩ T' rfl X'
  exact ⟨t2, gs t2 a1, b1⟩
theorem r_callV (C : CX p s m args meth c cc nL own ret D cI cZ ad tT A) {lv : List (Nat × Value)} (hl : lv_has ls nL lv) {index n c0 nLy fr lo : Nat} {y : MethodName} {cy : ByteArray} {rety : Option FieldType} {rv : Int32 → Option Value} {As : List Value} {k : Int32 → Mem → Option (Int32 × Mem)} {st : List Value} (hM : MLV own index y cy nLy rety n) (hc : RCV c0 y.cls) (hG : GM l D cI cZ ad tT y cy nLy rety fr lo rv (.ref (ad c0) :: As) σ o1) (hR : fr + 1 ≤ R.frames ∧ 8 + (nLy + 11) + lo ≤ R.locals) (hz : kc ≤ R.cells ∧ ks ≤ R.slots) (hn : As.length = n) (hst : st = As.reverse ++ .ref (ad c0) :: rest) (hrm : (rest.map fun v => v.category).sum ≤ 8) (hdg : decode cc pc = .ok (.invokevirtual index, 3)) (kk : ∀ (r : Int32) (σ1 : Mem), WR p l e R s m args below meth c D cI cZ ad A kc ks Q (k r σ1) σ1 (F0 m (pc + 3) ls ((rv r).toList ++ rest))) : WR p l e R s m args below meth c D cI cZ ad A kc ks Q (bnd o1 k) σ (F0 m pc ls st) := by
  intro r σ' ho H locs hP hS
  obtain ⟨r1, σ1, h1, h2⟩ := bnd_some ho
  have hMet := hG r1 σ1 h1 H.size
  obtain ⟨ci, fs, T, N, hL, hcl⟩ := hc
  obtain ⟨w1, w2, w3, w4, w5, hd⟩ := hM
  have hG2 : GoodIn UW (wsV own index y.cls y (.code y cy nLy rety :: UW)) := good_cons (by intro w hw; simp only [List.mem_cons, List.not_mem_nil, or_false] at hw; rcases hw with rfl | rfl | rfl | rfl <;> assumption) w5
  have run := va_runV (p := p) (l := l) (e := e) (R := R) (below := below) (meth := meth) (H := H) (locs := locs) (cells := kc) (slots := ks) (As := As) (rest := rest) (g := F0 m pc ls st) (nL := nL) (cc := cc) (own := own) (C := y.cls) (b := ad c0) (n := n) (index := index) (bytes := cy) (maxL := nLy) (ret := rety) (Ts := UW) ⟨C.1, C.2.1, C.2.2.1, C.2.2.2.1, C.2.2.2.2.1⟩ hMet (cwV n C.2.2.2.2.1 hG2 rfl rfl rfl ⟨rfl, hd⟩ hR) ⟨pre_blind, va_recv C.K hP hcl (ws_at hL), fun U hU hW => ⟨rfl, pre_at C hP hS hU hW⟩⟩ rfl hn hl.1 hst (lv_room hrm) hdg hz
  exact call_go C hS run (fun H locs hP hS => kk r1 σ1 r σ' h2 H locs hP hS)
theorem r_callS (C : CX p s m args meth c cc nL own ret D cI cZ ad tT A) {lv : List (Nat × Value)} (hl : lv_has ls nL lv) {index n nLy fr lo : Nat} {y : MethodName} {cy : ByteArray} {rety : Option FieldType} {rv : Int32 → Option Value} {As : List Value} {k : Int32 → Mem → Option (Int32 × Mem)} {st : List Value} (hM : MLS own index y cy nLy rety n) (hG : GM l D cI cZ ad tT y cy nLy rety fr lo rv As σ o1) (hR : fr + 1 ≤ R.frames ∧ 8 + (nLy + 11) + lo ≤ R.locals) (hz : kc ≤ R.cells ∧ ks ≤ R.slots) (hn : As.length = n) (hst : st = As.reverse ++ rest) (hrm : (rest.map fun v => v.category).sum ≤ 8) (hdg : decode cc pc = .ok (.invokestatic index, 3)) (kk : ∀ (r : Int32) (σ1 : Mem), WR p l e R s m args below meth c D cI cZ ad A kc ks Q (k r σ1) σ1 (F0 m (pc + 3) ls ((rv r).toList ++ rest))) : WR p l e R s m args below meth c D cI cZ ad A kc ks Q (bnd o1 k) σ (F0 m pc ls st) := by
  intro r σ' ho H locs hP hS
  obtain ⟨r1, σ1, h1, h2⟩ := bnd_some ho
  have hMet := hG r1 σ1 h1 H.size
  obtain ⟨w1, w2, w4, w5, hd⟩ := hM
  have hG2 : GoodIn UW (va_wsS own index y (.code y cy nLy rety :: UW)) := good_cons (by intro w hw; simp only [List.mem_cons, List.not_mem_nil, or_false] at hw; rcases hw with rfl | rfl | rfl <;> assumption) w5
  have run := va_runS (p := p) (l := l) (e := e) (R := R) (below := below) (meth := meth) (H := H) (locs := locs) (cells := kc) (slots := ks) (As := As) (rest := rest) (g := F0 m pc ls st) (nL := nL) (cc := cc) (own := own) (n := n) (index := index) (bytes := cy) (maxL := nLy) (ret := rety) (Ts := UW) ⟨C.1, C.2.1, C.2.2.1, C.2.2.2.1, C.2.2.2.2.1⟩ hMet (va_cwS n C.2.2.2.2.1 hG2 rfl rfl rfl hd hR) ⟨pre_blind, fun U hU hW => ⟨rfl, pre_at C hP hS hU hW⟩⟩ rfl hn hl.1 hst (lv_room hrm) hdg hz
  exact call_go C hS run (fun H locs hP hS => kk r1 σ1 r σ' h2 H locs hP hS)
theorem r_callSN (C : CX p s m args meth c cc nL own ret D cI cZ ad tT A) {lv : List (Nat × Value)} (hl : lv_has ls nL lv) {index n nLy fr lo : Nat} {y : MethodName} {cy : ByteArray} {rety : Option FieldType} {rv : Int32 → Option Value} {As : List Value} {k : Int32 → Mem → Option (Int32 × Mem)} {st : List Value} (hM : MLSN own index y cy nLy rety n) (hG : GM l D cI cZ ad tT y cy nLy rety fr lo rv As σ o1) (hR : fr + 1 ≤ R.frames ∧ 8 + (nLy + 11) + lo ≤ R.locals) (hz : kc ≤ R.cells ∧ ks ≤ R.slots) (hn : As.length = n) (hst : st = As.reverse ++ rest) (hrm : (rest.map fun v => v.category).sum ≤ 8) (hdg : decode cc pc = .ok (.invokestatic index, 3)) (kk : ∀ (r : Int32) (σ1 : Mem), WR p l e R s m args below meth c D cI cZ ad A kc ks Q (k r σ1) σ1 (F0 m (pc + 3) ls ((rv r).toList ++ rest))) : WR p l e R s m args below meth c D cI cZ ad A kc ks Q (bnd o1 k) σ (F0 m pc ls st) := by
  intro r σ' ho H locs hP hS
  obtain ⟨r1, σ1, h1, h2⟩ := bnd_some ho
  have hMet := hG r1 σ1 h1 H.size
  obtain ⟨⟨host, w1⟩, w2, w4, w5, hd⟩ := hM
  have hG2 : GoodIn UW (.code y cy nLy rety :: UW) := good_cons (l0 := []) (fun w hw => by cases hw) w5
  have run := va_runSN (p := p) (l := l) (e := e) (R := R) (below := below) (meth := meth) (H := H) (locs := locs) (cells := kc) (slots := ks) (As := As) (rest := rest) (g := F0 m pc ls st) (nL := nL) (cc := cc) (own := own) (n := n) (index := index) (bytes := cy) (maxL := nLy) (ret := rety) (Ts := UW) ⟨C.1, C.2.1, C.2.2.1, C.2.2.2.1, C.2.2.2.2.1⟩ hMet ⟨va_cnB n C.2.2.2.2.1 hG2 rfl rfl rfl (C.N.1 _ w1) (C.2.2.2.2.1 _ w4) hd hR, C.2.2.2.2.1 _ w2, trivial⟩ ⟨pre_blind, fun U hU hW => ⟨rfl, pre_at C hP hS hU hW⟩⟩ rfl hn hl.1 hst (lv_room hrm) hdg hz
  exact call_go C hS run (fun H locs hP hS => kk r1 σ1 r σ' h2 H locs hP hS)
end RL
/-- a contract out of a walk from the entry -/
theorem gm_of {l : Launch} {D : va_G} {cI cZ : ClassId} {ad : Nat → Nat} {tT : Nat} {y : MethodName} {cc : ByteArray} {nL : Nat} {ret : Option FieldType} {fr lo : Nat} {rv : Int32 → Option Value} {As : List Value} {σ : Mem} {o : Option (Int32 × Mem)} {lv : List (Nat × Value)} {own : String} (hi : INJ ad) (hy : plainName y.cls = true) (hown : y.cls = own) (hlen : (lg_sl As).length ≤ nL) (hlv : lv_args 0 As = lv)
    (h : ∀ (p : Program) (e : Env) (s : State) (m : MethodId) (args : Array Value) (below : List Frame) (meth : Method) (c : Code) (A : Nat → Prop), CX p s m args meth c cc nL own ret D cI cZ ad tT A → ∀ ls : Array Slot, lv_has ls nL lv → WR p l e { frames := fr, cells := 0, slots := 0, locals := lo } s m args below meth c D cI cZ ad A 0 0 (fun r σ' => MQ below (QQ D cI cZ ad A (rv r) σ') args s 0 0 A) o σ (F0 m 0 ls [])) : GM l D cI cZ ad tT y cc nL ret fr lo rv As σ o := by
  intro r σ' ho sz
  refine Met.ofW (cc := cc) (maxL := nL) (ret := ret) hy rfl ?_
  intro p e s m args below meth c s₁ B hml hv
  obtain ⟨rfl, hsz, hP, hK, hE⟩ := hv
  have hts := atoms_spec (ws := .code y cc nL ret :: UW) B.pre
  subst hsz
  have C : CX p s m As.toArray meth c cc nL own ret D cI cZ ad tT (AA ad s.heap.size) := ⟨B.exec, B.bytes, hml, by rw [← hown]; exact findClass_of_methodNamed B.named, fun w hw => hts w (List.mem_cons_of_mem _ hw), hK, hi, fun i h => Or.inl ⟨i, h, rfl⟩, fun q hq => Or.inr hq, hE, B.returns, B.notSynchronized⟩
  have hl := lv_entry As (n := nL) hlen
  rw [hlv] at hl
  rw [lg_entry_eq]
  exact h p e s m _ below meth c _ C _ hl r σ' ho s.heap [] hP va_S.rf
/-- a method's own end -/
def letv (x : Int32) (k : Int32 → Option (Int32 × Mem)) : Option (Int32 × Mem) := k x
def letm (x : Mem) (k : Mem → Option (Int32 × Mem)) : Option (Int32 × Mem) := k x
def ush (x y : Int32) : Int32 := (x.toUInt32 >>> (y.toUInt32 &&& Int32.toUInt32 31)).toInt32
def remi (x y : Int32) : Int32 := x - x / y * y
def mx (x y : Int32) : Int32 := if x < y then y else x
def mn (x y : Int32) : Int32 := if y < x then y else x
def gb (x : Int32) (o : Option (Int32 × Mem)) : Option (Int32 × Mem) := if x = 0 ∨ x = 1 then o else none
theorem ne_toInt {x : Int32} (k : Int32) (h : ¬ x = k) {j : Int} (hj : k.toInt = j) : x.toInt ≠ j := fun q => h (Int32.toInt_inj.mp (q.trans hj.symm))
abbrev QM (rv : Int32 → Option Value) (D : va_G) (cI cZ : ClassId) (ad : Nat → Nat) (A : Nat → Prop) (below : List Frame) (args : Array Value) (s : State) : Int32 → Mem → State → Prop := fun r σ' => MQ below (QQ D cI cZ ad A (rv r) σ') args s 0 0 A
abbrev WM (p : Program) (l : Launch) (e : Env) (fr lo : Nat) (s : State) (m : MethodId) (args : Array Value) (below : List Frame) (meth : Method) (c : Code) (D : va_G) (cI cZ : ClassId) (ad : Nat → Nat) (A : Nat → Prop) (rv : Int32 → Option Value) (o : Option (Int32 × Mem)) (σ : Mem) (g : JFrame) : Prop :=
  WR p l e { frames := fr, cells := 0, slots := 0, locals := lo } s m args below meth c D cI cZ ad A 0 0 (QM rv D cI cZ ad A below args s) o σ g
section RM
variable {p : Program} {l : Launch} {e : Env} {R : Room} {s : State} {m : MethodId} {args : Array Value} {below : List Frame} {meth : Method} {c : Code} {cc : ByteArray} {nL : Nat} {own : String} {ret : Option FieldType} {D : va_G} {cI cZ : ClassId} {ad : Nat → Nat} {tT : Nat} {A : Nat → Prop} {kc ks : Nat} {Q : Int32 → Mem → State → Prop} {o o1 o2 : Option (Int32 × Mem)} {σ : Mem} {pc : Nat} {ls : Array Slot} {rest : List Value}
theorem CX.inj (C : CX p s m args meth c cc nL own ret D cI cZ ad tT A) : INJ ad := C.2.2.2.2.2.2.1
theorem r_letv {x : Int32} {k : Int32 → Option (Int32 × Mem)} (h : ∀ v : Int32, WR p l e R s m args below meth c D cI cZ ad A kc ks Q (k v) σ (F0 m pc ls (.int v :: rest))) : WR p l e R s m args below meth c D cI cZ ad A kc ks Q (letv x k) σ (F0 m pc ls (.int x :: rest)) := h x
theorem r_letm {k : Mem → Option (Int32 × Mem)} {g : JFrame} (h : ∀ σ : Mem, WR p l e R s m args below meth c D cI cZ ad A kc ks Q (k σ) σ g) : WR p l e R s m args below meth c D cI cZ ad A kc ks Q (letm σ k) σ g := h σ
theorem r_irem2 (C : CX p s m args meth c cc nL own ret D cI cZ ad tT A) {x y : Int32} (hdg : decode cc pc = .ok (.irem, 1)) (hne : ¬ y = 0) (k : WR p l e R s m args below meth c D cI cZ ad A kc ks Q o σ (F0 m (pc + 1) ls (.int (remi x y) :: rest))) : WR p l e R s m args below meth c D cI cZ ad A kc ks Q o σ (F0 m pc ls (.int y :: .int x :: rest)) := r_irem C hdg hne k
theorem r_iushr2 (C : CX p s m args meth c cc nL own ret D cI cZ ad tT A) {x y : Int32} (hdg : decode cc pc = .ok (.iushr, 1)) (k : WR p l e R s m args below meth c D cI cZ ad A kc ks Q o σ (F0 m (pc + 1) ls (.int (ush x y) :: rest))) : WR p l e R s m args below meth c D cI cZ ad A kc ks Q o σ (F0 m pc ls (.int y :: .int x :: rest)) := r_iushr C hdg rfl k
theorem r_mmax2 (C : CX p s m args meth c cc nL own ret D cI cZ ad tT A) {lv : List (Nat × Value)} (hl : lv_has ls nL lv) {index : Nat} (hM : Cond.methodLink own index Lib.Math.max.name ∈ UW ∧ Cond.static Lib.Math.max.name ∈ UW ∧ Cond.initialized "java/lang/Math" ∈ UW ∧ Cond.code Lib.Math.max.name Lib.Math.max.code 2 (some .int) ∈ UW) (hR : 1 ≤ R.frames ∧ (rest.map fun v => v.category).sum + 13 ≤ R.locals ∧ kc ≤ R.cells ∧ ks ≤ R.slots) {x y : Int32} (hdg : decode cc pc = .ok (.invokestatic index, 3)) (kk : WR p l e R s m args below meth c D cI cZ ad A kc ks Q o σ (F0 m (pc + 3) ls (.int (mx x y) :: rest))) : WR p l e R s m args below meth c D cI cZ ad A kc ks Q o σ (F0 m pc ls (.int y :: .int x :: rest)) := r_mmax C hl hM hR hdg kk
theorem r_mmin2 (C : CX p s m args meth c cc nL own ret D cI cZ ad tT A) {lv : List (Nat × Value)} (hl : lv_has ls nL lv) {index : Nat} (hM : Cond.methodLink own index Lib.Math.min.name ∈ UW ∧ Cond.static Lib.Math.min.name ∈ UW ∧ Cond.initialized "java/lang/Math" ∈ UW ∧ Cond.code Lib.Math.min.name Lib.Math.min.code 2 (some .int) ∈ UW) (hR : 1 ≤ R.frames ∧ (rest.map fun v => v.category).sum + 13 ≤ R.locals ∧ kc ≤ R.cells ∧ ks ≤ R.slots) {x y : Int32} (hdg : decode cc pc = .ok (.invokestatic index, 3)) (kk : WR p l e R s m args below meth c D cI cZ ad A kc ks Q o σ (F0 m (pc + 3) ls (.int (mn x y) :: rest))) : WR p l e R s m args below meth c D cI cZ ad A kc ks Q o σ (F0 m pc ls (.int y :: .int x :: rest)) := r_mmin C hl hM hR hdg kk
theorem gb_some {x : Int32} {o : Option (Int32 × Mem)} {q : Int32 × Mem} (h : gb x o = some q) : (x = 0 ∨ x = 1) ∧ o = some q := by
  unfold gb at h
  by_cases z : x = 0 ∨ x = 1
  · rw [if_pos z] at h; exact ⟨z, h⟩
  · rw [if_neg z] at h; cases h
theorem r_zretG (C : CX p s m args meth c cc nL own ret D cI cZ ad tT A) {v : Int32} (hret : ret = some .boolean) (hdg : decode cc pc = .ok (.ireturn, 1)) : WR p l e R s m args below meth c D cI cZ ad A 0 0 (fun r σ' => MQ below (QQ D cI cZ ad A (rvi r) σ') args s 0 0 A) (gb v (some (v, σ))) σ (F0 m pc ls [.int v]) := by
  intro r σ' ho
  obtain ⟨h, h2⟩ := gb_some ho
  rcases h with h | h
  · subst h; exact r_zret C hret (by decide) hdg r σ' h2
  · subst h; exact r_zret C hret (by decide) hdg r σ' h2
theorem r_callVi (C : CX p s m args meth c cc nL own ret D cI cZ ad tT A) {lv : List (Nat × Value)} (hl : lv_has ls nL lv) {index n c0 nLy fr lo : Nat} {y : MethodName} {cy : ByteArray} {rety : Option FieldType} {As : List Value} {k : Int32 → Mem → Option (Int32 × Mem)} {st : List Value} (hM : MLV own index y cy nLy rety n) (hc : RCV c0 y.cls) (hG : GM l D cI cZ ad tT y cy nLy rety fr lo rvi (.ref (ad c0) :: As) σ o1) (hR : fr + 1 ≤ R.frames ∧ 8 + (nLy + 11) + lo ≤ R.locals) (hz : kc ≤ R.cells ∧ ks ≤ R.slots) (hn : As.length = n) (hst : st = As.reverse ++ .ref (ad c0) :: rest) (hrm : (rest.map fun v => v.category).sum ≤ 8) (hdg : decode cc pc = .ok (.invokevirtual index, 3)) (kk : ∀ (r : Int32) (σ1 : Mem), WR p l e R s m args below meth c D cI cZ ad A kc ks Q (k r σ1) σ1 (F0 m (pc + 3) ls (.int r :: rest))) : WR p l e R s m args below meth c D cI cZ ad A kc ks Q (bnd o1 k) σ (F0 m pc ls st) := r_callV C hl hM hc hG hR hz hn hst hrm hdg kk
theorem r_callVv (C : CX p s m args meth c cc nL own ret D cI cZ ad tT A) {lv : List (Nat × Value)} (hl : lv_has ls nL lv) {index n c0 nLy fr lo : Nat} {y : MethodName} {cy : ByteArray} {rety : Option FieldType} {As : List Value} {k : Int32 → Mem → Option (Int32 × Mem)} {st : List Value} (hM : MLV own index y cy nLy rety n) (hc : RCV c0 y.cls) (hG : GM l D cI cZ ad tT y cy nLy rety fr lo rvv (.ref (ad c0) :: As) σ o1) (hR : fr + 1 ≤ R.frames ∧ 8 + (nLy + 11) + lo ≤ R.locals) (hz : kc ≤ R.cells ∧ ks ≤ R.slots) (hn : As.length = n) (hst : st = As.reverse ++ .ref (ad c0) :: rest) (hrm : (rest.map fun v => v.category).sum ≤ 8) (hdg : decode cc pc = .ok (.invokevirtual index, 3)) (kk : ∀ (r : Int32) (σ1 : Mem), WR p l e R s m args below meth c D cI cZ ad A kc ks Q (k r σ1) σ1 (F0 m (pc + 3) ls rest)) : WR p l e R s m args below meth c D cI cZ ad A kc ks Q (bnd o1 k) σ (F0 m pc ls st) := r_callV C hl hM hc hG hR hz hn hst hrm hdg kk
theorem r_callSi (C : CX p s m args meth c cc nL own ret D cI cZ ad tT A) {lv : List (Nat × Value)} (hl : lv_has ls nL lv) {index n nLy fr lo : Nat} {y : MethodName} {cy : ByteArray} {rety : Option FieldType} {As : List Value} {k : Int32 → Mem → Option (Int32 × Mem)} {st : List Value} (hM : MLS own index y cy nLy rety n) (hG : GM l D cI cZ ad tT y cy nLy rety fr lo rvi As σ o1) (hR : fr + 1 ≤ R.frames ∧ 8 + (nLy + 11) + lo ≤ R.locals) (hz : kc ≤ R.cells ∧ ks ≤ R.slots) (hn : As.length = n) (hst : st = As.reverse ++ rest) (hrm : (rest.map fun v => v.category).sum ≤ 8) (hdg : decode cc pc = .ok (.invokestatic index, 3)) (kk : ∀ (r : Int32) (σ1 : Mem), WR p l e R s m args below meth c D cI cZ ad A kc ks Q (k r σ1) σ1 (F0 m (pc + 3) ls (.int r :: rest))) : WR p l e R s m args below meth c D cI cZ ad A kc ks Q (bnd o1 k) σ (F0 m pc ls st) := r_callS C hl hM hG hR hz hn hst hrm hdg kk
theorem r_callSv (C : CX p s m args meth c cc nL own ret D cI cZ ad tT A) {lv : List (Nat × Value)} (hl : lv_has ls nL lv) {index n nLy fr lo : Nat} {y : MethodName} {cy : ByteArray} {rety : Option FieldType} {As : List Value} {k : Int32 → Mem → Option (Int32 × Mem)} {st : List Value} (hM : MLS own index y cy nLy rety n) (hG : GM l D cI cZ ad tT y cy nLy rety fr lo rvv As σ o1) (hR : fr + 1 ≤ R.frames ∧ 8 + (nLy + 11) + lo ≤ R.locals) (hz : kc ≤ R.cells ∧ ks ≤ R.slots) (hn : As.length = n) (hst : st = As.reverse ++ rest) (hrm : (rest.map fun v => v.category).sum ≤ 8) (hdg : decode cc pc = .ok (.invokestatic index, 3)) (kk : ∀ (r : Int32) (σ1 : Mem), WR p l e R s m args below meth c D cI cZ ad A kc ks Q (k r σ1) σ1 (F0 m (pc + 3) ls rest)) : WR p l e R s m args below meth c D cI cZ ad A kc ks Q (bnd o1 k) σ (F0 m pc ls st) := r_callS C hl hM hG hR hz hn hst hrm hdg kk
theorem r_callNi (C : CX p s m args meth c cc nL own ret D cI cZ ad tT A) {lv : List (Nat × Value)} (hl : lv_has ls nL lv) {index n nLy fr lo : Nat} {y : MethodName} {cy : ByteArray} {rety : Option FieldType} {As : List Value} {k : Int32 → Mem → Option (Int32 × Mem)} {st : List Value} (hM : MLSN own index y cy nLy rety n) (hG : GM l D cI cZ ad tT y cy nLy rety fr lo rvi As σ o1) (hR : fr + 1 ≤ R.frames ∧ 8 + (nLy + 11) + lo ≤ R.locals) (hz : kc ≤ R.cells ∧ ks ≤ R.slots) (hn : As.length = n) (hst : st = As.reverse ++ rest) (hrm : (rest.map fun v => v.category).sum ≤ 8) (hdg : decode cc pc = .ok (.invokestatic index, 3)) (kk : ∀ (r : Int32) (σ1 : Mem), WR p l e R s m args below meth c D cI cZ ad A kc ks Q (k r σ1) σ1 (F0 m (pc + 3) ls (.int r :: rest))) : WR p l e R s m args below meth c D cI cZ ad A kc ks Q (bnd o1 k) σ (F0 m pc ls st) := r_callSN C hl hM hG hR hz hn hst hrm hdg kk
theorem r_callNv (C : CX p s m args meth c cc nL own ret D cI cZ ad tT A) {lv : List (Nat × Value)} (hl : lv_has ls nL lv) {index n nLy fr lo : Nat} {y : MethodName} {cy : ByteArray} {rety : Option FieldType} {As : List Value} {k : Int32 → Mem → Option (Int32 × Mem)} {st : List Value} (hM : MLSN own index y cy nLy rety n) (hG : GM l D cI cZ ad tT y cy nLy rety fr lo rvv As σ o1) (hR : fr + 1 ≤ R.frames ∧ 8 + (nLy + 11) + lo ≤ R.locals) (hz : kc ≤ R.cells ∧ ks ≤ R.slots) (hn : As.length = n) (hst : st = As.reverse ++ rest) (hrm : (rest.map fun v => v.category).sum ≤ 8) (hdg : decode cc pc = .ok (.invokestatic index, 3)) (kk : ∀ (r : Int32) (σ1 : Mem), WR p l e R s m args below meth c D cI cZ ad A kc ks Q (k r σ1) σ1 (F0 m (pc + 3) ls rest)) : WR p l e R s m args below meth c D cI cZ ad A kc ks Q (bnd o1 k) σ (F0 m pc ls st) := r_callSN C hl hM hG hR hz hn hst hrm hdg kk
theorem r_callVr (C : CX p s m args meth c cc nL own ret D cI cZ ad tT A) {lv : List (Nat × Value)} (hl : lv_has ls nL lv) {index n c0 nLy fr lo : Nat} {y : MethodName} {cy : ByteArray} {rety : Option FieldType} {q0 : Nat} {As : List Value} {k : Int32 → Mem → Option (Int32 × Mem)} {st : List Value} (hM : MLV own index y cy nLy rety n) (hc : RCV c0 y.cls) (hG : GM l D cI cZ ad tT y cy nLy rety fr lo (fun _ => some (.ref q0)) (.ref (ad c0) :: As) σ o1) (hR : fr + 1 ≤ R.frames ∧ 8 + (nLy + 11) + lo ≤ R.locals) (hz : kc ≤ R.cells ∧ ks ≤ R.slots) (hn : As.length = n) (hst : st = As.reverse ++ .ref (ad c0) :: rest) (hrm : (rest.map fun v => v.category).sum ≤ 8) (hdg : decode cc pc = .ok (.invokevirtual index, 3)) (kk : ∀ (r : Int32) (σ1 : Mem), WR p l e R s m args below meth c D cI cZ ad A kc ks Q (k r σ1) σ1 (F0 m (pc + 3) ls (.ref q0 :: rest))) : WR p l e R s m args below meth c D cI cZ ad A kc ks Q (bnd o1 k) σ (F0 m pc ls st) := r_callV C hl hM hc hG hR hz hn hst hrm hdg kk
end RM

