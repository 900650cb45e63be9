/-- a place of a world that grows -/
def WC (p : Program) (l : Launch) (e : Env) (R : Room) (s : State) (m : MethodId) (args : Array Value) (below : List Frame) (meth : Method) (c : Code) (D : va_G) (A : Nat → Prop) (Q : State → Prop) (ws : va_W) (kc ks : Nat) (g : JFrame) : Prop :=
  ∀ (H : Heap) (locs : List Loc), va_P D vwCl ws H → va_D A ws → va_S A s.heap H locs → W p l e R s m args below meth c H locs kc ks Q g
def CK (p : Program) (s : State) (m : MethodId) (args : Array Value) (c : Code) (cc : ByteArray) (nL : Nat) (own : String) (D : va_G) (cI cZ : ClassId) (A : Nat → Prop) : Prop :=
  p.tables.exec = Jvm.exec ∧ c.code = cc ∧ c.maxLocals = nL ∧ s.vm.findClass own = some m.cls ∧ (∀ w ∈ UW, w.before args s = true) ∧ va_K D vwCl [(cI, .int), (cZ, .boolean)] s ∧ (∀ q, s.heap.size ≤ q → A q) ∧ ∀ w ∈ NW, va_Nw w s
/-- a constructor's contract: B h w: what the world w of the object at h is behind it -/
def QK (D : va_G) (A : Nat → Prop) (B : va_W → Prop) : Array Value → State → Outcome → State → Prop := fun _ st oc t => (oc = .returned none ∧ ∃ w, B w ∧ va_P D vwCl w t.heap ∧ va_D A w) ∧ va_F A st t
def PK (D : va_G) (cI cZ : ClassId) (h0 ci : Nat) (fs0 : List Value) (sz : Nat) (U : State) : Prop := U.heap.size = sz ∧ va_P D vwCl [(h0, .inr (ci, fs0))] U.heap ∧ va_K D vwCl [(cI, .int), (cZ, .boolean)] U ∧ ∀ w ∈ NW, va_Nw w U
def KI (l : Launch) (D : va_G) (cI cZ : ClassId) (y : MethodName) (cc : ByteArray) (nL fr lo mc ms : Nat) (As : List Value) (ci : Nat) (fs0 : List Value) (B : Nat → va_W → Prop) : Prop :=
  ∀ h0 sz : Nat, Met l y (.code y cc nL none :: UW) { frames := fr, cells := mc, slots := ms, locals := lo } (va_Pc (.ref h0 :: As) (PK D cI cZ h0 ci fs0 sz)) (QK D (va_A [(h0, .inr (ci, fs0))] sz) (B h0)) mc ms (va_A [(h0, .inr (ci, fs0))] sz)
def MLI (own : String) (index : Nat) (y : MethodName) (cy : ByteArray) (nLy n : Nat) : Prop := Cond.methodLink own index y ∈ UW ∧ Cond.instanceMethod y ∈ UW ∧ Cond.initialized y.cls ∈ UW ∧ Cond.code y cy nLy none ∈ UW ∧ y.name = "<init>" ∧ (y.cls ≠ "java/lang/invoke/MethodHandle" ∧ y.cls ≠ "java/lang/invoke/VarHandle" ∧ (parseMethodDescriptor y.desc).map (fun d => d.parameters.length) = some n)
def MLIN (own : String) (index : Nat) (y : MethodName) (cy : ByteArray) (nLy n : Nat) : Prop := (∃ host : String, Cond.methodLinkNest own index y host ∈ NW) ∧ Cond.instanceMethod y ∈ UW ∧ Cond.initialized y.cls ∈ UW ∧ Cond.code y cy nLy none ∈ UW ∧ y.name = "<init>" ∧ (y.cls ≠ "java/lang/invoke/MethodHandle" ∧ y.cls ≠ "java/lang/invoke/VarHandle" ∧ (parseMethodDescriptor y.desc).map (fun d => d.parameters.length) = some n)
theorem va_P.last {D : va_G} {ws : va_W} {x : Nat × va_E} {H : Heap} (hP : va_P D vwCl (ws ++ [x]) H) : va_P D vwCl [x] H := by
  intro k q hk
  have hm : q = x := by simpa using List.mem_of_getElem? hk
  subst hm
  exact hP ws.length q (by simp)
theorem va_jl {D : va_G} {A : Nat → Prop} {w0 w1 : va_W} {x : Nat × va_E} {H H1 : Heap} (hP : va_P D vwCl (w0 ++ [x]) H) (hD : va_D A (w0 ++ [x])) (hk : ∀ q : Nat, q < H.size → ¬ va_A [x] H.size q → H1[q]? = H[q]?) (hF : ∀ q, va_A [x] H.size q → A q) (hP1 : va_P D vwCl w1 H1) (hD1 : va_D (va_A [x] H.size) w1) : va_P D vwCl (w0 ++ w1) H1 ∧ va_D A (w0 ++ w1) := by
  have up : ∀ (k : Nat) (q : Nat × va_E), w0[k]? = some q → k < w0.length ∧ (w0 ++ [x])[k]? = some q := by
    intro k q hq
    have hl := (List.getElem?_eq_some_iff.mp hq).1
    exact ⟨hl, by rw [List.getElem?_append_left hl]; exact hq⟩
  have apart : ∀ (k : Nat) (q : Nat × va_E), w0[k]? = some q → q.1 < H.size ∧ ¬ va_A [x] H.size q.1 := by
    intro k q hq
    obtain ⟨hl, h2⟩ := up k q hq
    have hlt := (hP k q h2).lt
    refine ⟨hlt, fun h => ?_⟩
    rcases h with ⟨k2, e, h⟩ | h
    · have hm : (q.1, e) = x := by simpa using List.mem_of_getElem? h
      have hx : (w0 ++ [x])[w0.length]? = some (q.1, e) := by rw [hm]; simp
      have := hD.1 k w0.length q (q.1, e) h2 hx rfl
      omega
    · omega
  refine ⟨va_P.app (fun k q hq => ?_) hP1, va_D.app ⟨fun i j a b ha hb hab => hD.1 i j a b (up i a ha).2 (up j b hb).2 hab, fun k q hq => hD.2 k q (up k q hq).2⟩ (hD1.weaken (fun k q _ h => hF q.1 h)) (fun i j a b ha hb hab => ?_)⟩
  · obtain ⟨g1, g2⟩ := apart k q hq
    exact (hP k q (up k q hq).2).kept (hk q.1 g1 g2)
  · exact (apart i a ha).2 (by rw [hab]; exact hD1.2 j b hb)
section RC
variable {p : Program} {l : Launch} {e : Env} {R : Room} {s : State} {m : MethodId} {args : Array Value} {below : List Frame} {meth : Method} {c : Code} {cc : ByteArray} {nL : Nat} {own : String} {D : va_G} {cI cZ : ClassId} {A : Nat → Prop} {kc ks : Nat} {Q : State → Prop} {ws : va_W} {pc : Nat} {ls : Array Slot} {rest : List Value}
theorem k_aload_n (C : CK p s m args c cc nL own D cI cZ A) {kf : Fin 4} {i : Nat} {x : Nat} (hdg : decode cc pc = .ok (.aload_n kf, 1)) (hi : (kf : Nat) = i) (hl : ls[i]? = some (.val (.ref x))) (k : WC p l e R s m args below meth c D A Q ws kc ks (F0 m (pc + 1) ls (.ref x :: rest))) : WC p l e R s m args below meth c D A Q ws kc ks (F0 m pc ls rest) := fun H locs hP hD hS => lv_aload_n C.1 C.2.1 hdg hi hl (k H locs hP hD hS)
theorem k_iload_n (C : CK p s m args c cc nL own D cI cZ A) {kf : Fin 4} {i : Nat} {x : Int32} (hdg : decode cc pc = .ok (.iload_n kf, 1)) (hi : (kf : Nat) = i) (hl : ls[i]? = some (.val (.int x))) (k : WC p l e R s m args below meth c D A Q ws kc ks (F0 m (pc + 1) ls (.int x :: rest))) : WC p l e R s m args below meth c D A Q ws kc ks (F0 m pc ls rest) := fun H locs hP hD hS => lv_iload_n C.1 C.2.1 hdg hi hl (k H locs hP hD hS)
theorem k_dup (C : CK p s m args c cc nL own D cI cZ A) {va : Value} (hdg : decode cc pc = .ok (.dup, 1)) (hva : va.category = 1) (k : WC p l e R s m args below meth c D A Q ws kc ks (F0 m (pc + 1) ls (va :: va :: rest))) : WC p l e R s m args below meth c D A Q ws kc ks (F0 m pc ls (va :: rest)) := fun H locs hP hD hS => lv_dup C.1 C.2.1 hdg hva (k H locs hP hD hS)
theorem k_iconst (C : CK p s m args c cc nL own D cI cZ A) {n : Int} {v : Int32} (hdg : decode cc pc = .ok (.iconst n, 1)) (hv : Int32.ofInt n = v) (k : WC p l e R s m args below meth c D A Q ws kc ks (F0 m (pc + 1) ls (.int v :: rest))) : WC p l e R s m args below meth c D A Q ws kc ks (F0 m pc ls rest) := fun H locs hP hD hS => lv_iconst C.1 C.2.1 hdg hv (k H locs hP hD hS)
theorem k_bipush (C : CK p s m args c cc nL own D cI cZ A) {n : Int} {v : Int32} (hdg : decode cc pc = .ok (.bipush n, 2)) (hv : (Int8.ofInt n).toInt32 = v) (k : WC p l e R s m args below meth c D A Q ws kc ks (F0 m (pc + 2) ls (.int v :: rest))) : WC p l e R s m args below meth c D A Q ws kc ks (F0 m pc ls rest) := fun H locs hP hD hS => lv_bipush C.1 C.2.1 hdg hv (k H locs hP hD hS)
theorem k_sipush (C : CK p s m args c cc nL own D cI cZ A) {n : Int} {v : Int32} (hdg : decode cc pc = .ok (.sipush n, 3)) (hv : (Int16.ofInt n).toInt32 = v) (k : WC p l e R s m args below meth c D A Q ws kc ks (F0 m (pc + 3) ls (.int v :: rest))) : WC p l e R s m args below meth c D A Q ws kc ks (F0 m pc ls rest) := fun H locs hP hD hS => lv_sipush C.1 C.2.1 hdg hv (k H locs hP hD hS)
theorem k_widen {kc2 ks2 : Nat} {g : JFrame} (h1 : kc ≤ kc2) (h2 : ks ≤ ks2) (k : WC p l e R s m args below meth c D A Q ws kc2 ks2 g) : WC p l e R s m args below meth c D A Q ws kc ks g := fun H locs hP hD hS => W.widen h1 h2 (k H locs hP hD hS)
theorem k_obj (C : CK p s m args c cc nL own D cI cZ A) {lv : List (Nat × Value)} (hl : lv_has ls nL lv) {idx a : Nat} (h1 : Cond.methodLink own idx Lib.objectInit ∈ UW) (h2 : Cond.instanceMethod Lib.objectInit ∈ UW) (h3 : Cond.code Lib.objectInit ⟨#[0xb1]⟩ 1 none ∈ UW) (hdg : decode cc pc = .ok (.invokespecial idx, 3)) (hf : 1 ≤ R.frames) (hlo : 2 * (F0 m pc ls (.ref a :: rest)).monitorRoom + (rest.map fun v => v.category).sum + 12 ≤ R.locals) (k : WC p l e R s m args below meth c D A Q ws kc ks (F0 m (pc + 3) ls rest)) : WC p l e R s m args below meth c D A Q ws kc ks (F0 m pc ls (.ref a :: rest)) := fun H locs hP hD hS => W.objInit C.1 C.2.1 C.2.2.2.1 (C.2.2.2.2.1 _ h1) (C.2.2.2.2.1 _ h2) (C.2.2.2.2.1 _ h3) rfl (by rw [C.2.2.1]; exact hl.1) rfl hdg hf hlo (k H locs hP hD hS)
theorem k_new (C : CK p s m args c cc nL own D cI cZ A) {cN : String} {T : u_T} {N ci index : Nat} {ty : Nat → FieldType} {fs : List Value} (hc : vwCl[ci]? = some (cN, T, N)) (hu : ∀ w ∈ u_ws cN T N, w ∈ UW) (hty : ∀ k, k < N → parseFieldDescriptor (T k).2.2.1 = some (ty k)) (h1 : Cond.classLink own index cN ∈ UW) (h2 : Cond.instantiable cN N ∈ UW) (h3 : Cond.initialized cN ∈ UW) (hfs : ∀ j, j < N → defaultValue (ty j) = vp_V fs j) (hz : kc + 1 ≤ R.cells ∧ ks + N ≤ R.slots) (hdg : decode cc pc = .ok (.new index, 3)) (kk : ∀ q : Nat, WC p l e R s m args below meth c D A Q (ws ++ [(q, .inr (ci, fs))]) (kc + 1) (ks + N) (F0 m (pc + 3) ls (.ref q :: rest))) : WC p l e R s m args below meth c D A Q ws kc ks (F0 m pc ls rest) := fun H locs hP hD hS => va_new C.1 C.2.1 C.2.2.2.2.1 hu ty hty C.2.2.2.1 (C.2.2.2.2.1 _ h1) (C.2.2.2.2.1 _ h2) (C.2.2.2.2.1 _ h3) C.2.2.2.2.2.1 hP hD hS C.2.2.2.2.2.2.1 hc hfs hz.1 hz.2 hdg (fun q H1 hP1 hD1 hS1 => kk q H1 locs hP1 hD1 hS1)
theorem k_newI (C : CK p s m args c cc nL own D cI cZ A) {v : Int32} {N : Nat} (hw : Cond.arrayClass .int ∈ UW) (hn : ¬ v < 0) (hN : v.toNatClampNeg = N) (hb : N * 4 ≤ 536870912) (hz : kc + 1 ≤ R.cells ∧ ks + N ≤ R.slots) (hdg : decode cc pc = .ok (.newarray .int, 2)) (kk : ∀ q : Nat, WC p l e R s m args below meth c D A Q (ws ++ [(q, .inl (cI, N, .inl (fun _ => 0)))]) (kc + 1) (ks + N) (F0 m (pc + 2) ls (.ref q :: rest))) : WC p l e R s m args below meth c D A Q ws kc ks (F0 m pc ls (.int v :: rest)) := by
  intro H locs hP hD hS
  refine va_newa (atype := .int) (ty := .int) C.1 C.2.1 (C.2.2.2.2.1 _ hw) rfl C.2.2.2.2.2.1 hP hD hS C.2.2.2.2.2.2.1 (a0 := (N, .inl (fun _ => 0))) (fun _ => rfl) hn hN hb hz.1 hz.2 hdg (fun q cA H1 hK1 hP1 hD1 hS1 => ?_)
  have e1 : s.vm.findClass ("[" ++ FieldType.int.toString) = some cA := (hK1.2 2 _ rfl).2
  have e2 : s.vm.findClass ("[" ++ FieldType.int.toString) = some cI := (hK1.2 0 _ rfl).2
  have e3 : cA = cI := Option.some.inj (e1.symm.trans e2)
  subst e3
  exact kk q H1 locs hP1 hD1 hS1
theorem k_newZ (C : CK p s m args c cc nL own D cI cZ A) {v : Int32} {N : Nat} (hw : Cond.arrayClass .boolean ∈ UW) (hn : ¬ v < 0) (hN : v.toNatClampNeg = N) (hb : N * 1 ≤ 536870912) (hz : kc + 1 ≤ R.cells ∧ ks + N ≤ R.slots) (hdg : decode cc pc = .ok (.newarray .boolean, 2)) (kk : ∀ q : Nat, WC p l e R s m args below meth c D A Q (ws ++ [(q, .inl (cZ, N, .inl (fun _ => 0)))]) (kc + 1) (ks + N) (F0 m (pc + 2) ls (.ref q :: rest))) : WC p l e R s m args below meth c D A Q ws kc ks (F0 m pc ls (.int v :: rest)) := by
  intro H locs hP hD hS
  refine va_newa (atype := .boolean) (ty := .boolean) C.1 C.2.1 (C.2.2.2.2.1 _ hw) rfl C.2.2.2.2.2.1 hP hD hS C.2.2.2.2.2.2.1 (a0 := (N, .inl (fun _ => 0))) (fun _ => rfl) hn hN hb hz.1 hz.2 hdg (fun q cA H1 hK1 hP1 hD1 hS1 => ?_)
  have e1 : s.vm.findClass ("[" ++ FieldType.boolean.toString) = some cA := (hK1.2 2 _ rfl).2
  have e2 : s.vm.findClass ("[" ++ FieldType.boolean.toString) = some cZ := (hK1.2 1 _ rfl).2
  have e3 : cA = cZ := Option.some.inj (e1.symm.trans e2)
  subst e3
  exact kk q H1 locs hP1 hD1 hS1
theorem k_putF (C : CK p s m args c cc nL own D cI cZ A) (hin : meth.name = "<init>") {index ci k h0 b : Nat} {fs : List Value} {cN : String} {T : u_T} {N : Nat} {ty0 : Nat → FieldType} {ty : FieldType} (hc : vwCl[ci]? = some (cN, T, N)) (hu : ∀ w ∈ u_ws cN T N, w ∈ UW) (hty : ∀ k, k < N → parseFieldDescriptor (T k).2.2.1 = some (ty0 k)) (hnm : ∀ a, a < N → ∀ b, b < N → a ≠ b → (T a).2.1 ≠ (T b).2.1) (hk : k < N) (hw : Cond.fieldLink own index (T k).1 (T k).2.1 (T k).2.2.1 ∈ UW) (hfin : (T k).2.2.2 = true) (hdecl : (T k).1 = own) (hd : parseFieldDescriptor (T k).2.2.1 = some ty) (hn : narrow ty (.ref b) = .ref b) (hfit : fits ty (.ref b) = true) (hlen : k < fs.length) (hdg : decode cc pc = .ok (.putfield index, 3)) (kk : WC p l e R s m args below meth c D A Q ((h0, .inr (ci, fs.set k (.ref b))) :: ws) kc ks (F0 m (pc + 3) ls rest)) : WC p l e R s m args below meth c D A Q ((h0, .inr (ci, fs)) :: ws) kc ks (F0 m pc ls (.ref b :: .ref h0 :: rest)) := fun H locs hP hD hS => va_putF C.1 C.2.1 C.2.2.2.2.1 hu ty0 hty hnm C.2.2.2.1 C.2.2.2.2.2.1 hP hD hS 0 rfl hc k hk (C.2.2.2.2.1 _ hw) (fun _ h => h) hfin hin hdecl hd hn hfit hlen hdg (fun H1 locs1 hP1 hD1 hS1 => kk H1 locs1 hP1 hD1 hS1)
theorem k_mmax (C : CK p s m args c cc nL own D cI cZ A) {lv : List (Nat × Value)} (hl : lv_has ls nL lv) {index : Nat} (hM : Cond.methodLink own index Lib.Math.max.name ∈ UW ∧ Cond.static Lib.Math.max.name ∈ UW ∧ Cond.initialized "java/lang/Math" ∈ UW ∧ Cond.code Lib.Math.max.name Lib.Math.max.code 2 (some .int) ∈ UW) (hR : 1 ≤ R.frames ∧ (rest.map fun v => v.category).sum + 13 ≤ R.locals ∧ kc ≤ R.cells ∧ ks ≤ R.slots) {x y v : Int32} (hv : (if x < y then y else x) = v) (hdg : decode cc pc = .ok (.invokestatic index, 3)) (kk : WC p l e R s m args below meth c D A Q ws kc ks (F0 m (pc + 3) ls (.int v :: rest))) : WC p l e R s m args below meth c D A Q ws kc ks (F0 m pc ls (.int y :: .int x :: rest)) := fun H locs hP hD hS => va_mmax C.1 C.2.1 (C.2.2.1.trans hl.1.symm) C.2.2.2.1 (C.2.2.2.2.1 _ hM.1) (C.2.2.2.2.1 _ hM.2.1) (C.2.2.2.2.1 _ hM.2.2.1) (C.2.2.2.2.1 _ hM.2.2.2) hR.1 hR.2.1 hR.2.2.1 hR.2.2.2 hdg (by rw [hv]; exact kk H locs hP hD hS)
theorem k_vret {B : va_W → Prop} (C : CK p s m args c cc nL own D cI cZ A) (hr : meth.sig.returnType = none) (hlk : meth.locks = false) (hB : B ws) (hdg : decode cc pc = .ok (.return_, 1)) : WC p l e R s m args below meth c D A (MQ below (QK D A B) args s kc ks A) ws kc ks (F0 m pc ls []) := fun H locs hP hD hS => W.vret (Qc := QK D A B) C.1 C.2.1 hr (fun t ht hW => ⟨⟨rfl, ws, hB, by rw [ht]; exact hP, hD⟩, hS.F ht⟩) hS.2.2 hdg hlk
theorem pk_blind {As : List Value} {h0 ci sz : Nat} {fs0 : List Value} : FrameBlind (va_Pc As (PK D cI cZ h0 ci fs0 sz)) := fun a U g mk q => ⟨q.1, q.2.1, q.2.2.1, va_K.moved (u := U) (U := U.calling g mk a) (Vm.Alike.refl U.vm) q.2.2.2.1, fun w hw => nw_same (u := U) (U := U.calling g mk a) rfl hw (q.2.2.2.2 w hw)⟩
theorem k_go (C : CK p s m args c cc nL own D cI cZ A) {H : Heap} {locs : List Loc} {st : List Value} {x : Nat × va_E} {B : va_W → Prop} {mc ms : Nat} {a : Array Value} (hP : va_P D vwCl (ws ++ [x]) H) (hD : va_D A (ws ++ [x])) (hS : va_S A s.heap H locs) (hF : ∀ q, va_A [x] H.size q → A q) (run : va_Run p l e R s m args below meth c H locs kc ks mc ms (F0 m pc ls st) rest (QK D (va_A [x] H.size) B a) (va_A [x] H.size)) (kk : ∀ w1 : va_W, B w1 → WC p l e R s m args below meth c D A Q (ws ++ w1) (kc + mc) (ks + ms) (F0 m (pc + 3) ls rest)) : W p l e R s m args below meth c H locs kc ks Q (F0 m pc ls st) := by
  intro T hT X
  obtain ⟨v, st₀, t, T', L, h0, X', hL, e1, e2, ⟨⟨hv, w1, hB, hP1, hD1⟩, hz, hk⟩, gs⟩ := run T hT X
  have hv2 : v = none := by injection hv
  subst hv2
  rw [h0] at hz hk
  rw [← e1] at hP1 hz hk
  obtain ⟨hP2, hD2⟩ := va_jl hP hD hk hF hP1 hD1
  obtain ⟨t2, a1, b1⟩ := kk w1 hB T'.heap (locs ++ L) hP2 hD2
    ⟨Nat.le_trans hS.1 hz, fun q h1 h2 => by rw [hk q (Nat.lt_of_lt_of_le h1 hS.1) (fun z => h2 (hF q z))]; exact hS.2.1 q h1 h2, fun q hq => by
      rcases List.mem_append.mp hq with h | h
      · exact hS.2.2 q h
      · exact hF _ (hL q h)⟩ T' rfl X'
  exact ⟨t2, gs t2 a1, b1⟩
theorem k_free (C : CK p s m args c cc nL own D cI cZ A) {H : Heap} {locs : List Loc} {x : Nat × va_E} (hD : va_D A (ws ++ [x])) (hS : va_S A s.heap H locs) : ∀ q, va_A [x] H.size q → A q := by
  intro q h
  rcases h with ⟨k2, e, h⟩ | h
  · have hm : (q, e) = x := by simpa using List.mem_of_getElem? h
    have := hD.2 ws.length x (by simp)
    rw [← hm] at this
    exact this
  · exact C.2.2.2.2.2.2.1 q (Nat.le_trans hS.1 h)
theorem k_ctor (C : CK p s m args c cc nL own D cI cZ A) {lv : List (Nat × Value)} (hl : lv_has ls nL lv) {index n nLy fr lo mc ms q ci : Nat} {y : MethodName} {cy : ByteArray} {fs0 : List Value} {B : Nat → va_W → Prop} {As st : List Value} (hM : MLI own index y cy nLy n) (hG : KI l D cI cZ y cy nLy fr lo mc ms As ci fs0 B) (hR : fr + 1 ≤ R.frames ∧ 8 + (nLy + 11) + lo ≤ R.locals) (hz : kc + mc ≤ R.cells ∧ ks + ms ≤ R.slots) (hn : As.length = n) (hst : st = As.reverse ++ .ref q :: rest) (hrm : (rest.map fun v => v.category).sum ≤ 8) (hdg : decode cc pc = .ok (.invokespecial index, 3)) (kk : ∀ w1 : va_W, B q w1 → WC p l e R s m args below meth c D A Q (ws ++ w1) (kc + mc) (ks + ms) (F0 m (pc + 3) ls rest)) : WC p l e R s m args below meth c D A Q (ws ++ [(q, .inr (ci, fs0))]) kc ks (F0 m pc ls st) := by
  intro H locs hP hD hS
  obtain ⟨w1, w2, w4, w5, hnm, hd⟩ := hM
  have hG2 : GoodIn UW (.code y cy nLy none :: UW) := good_cons (l0 := []) (fun w hw => by cases hw) w5
  have run := va_runI (p := p) (l := l) (e := e) (R := R) (below := below) (meth := meth) (H := H) (locs := locs) (cells := kc) (slots := ks) (As := As) (rest := rest) (g := F0 m pc ls st) (nL := nL) (cc := cc) (own := own) (n := n) (index := index) (bytes := cy) (maxL := nLy) (Ts := UW) (b := q) ⟨C.1, C.2.1, C.2.2.1, C.2.2.2.1, C.2.2.2.2.1⟩ (hG q H.size) (cwI n C.2.2.2.2.1 hG2 rfl rfl rfl (C.2.2.2.2.1 _ w4) (C.2.2.2.2.1 _ w1) (C.2.2.2.2.1 _ w2) hnm hd hR) ⟨pk_blind, fun U hU hW => ⟨rfl, by rw [hU], by rw [hU]; exact hP.last, va_K.moved hW.alike C.2.2.2.2.2.1, fun w hw => nw_warm hW hw (C.2.2.2.2.2.2.2 w hw)⟩⟩ rfl hn hl.1 hst (lv_room hrm) hdg hz
  exact k_go C hP hD hS (k_free C hD hS) run kk
theorem k_ctorN (C : CK p s m args c cc nL own D cI cZ A) {lv : List (Nat × Value)} (hl : lv_has ls nL lv) {index n nLy fr lo mc ms q ci : Nat} {y : MethodName} {cy : ByteArray} {fs0 : List Value} {B : Nat → va_W → Prop} {As st : List Value} (hM : MLIN own index y cy nLy n) (hG : KI l D cI cZ y cy nLy fr lo mc ms As ci fs0 B) (hR : fr + 1 ≤ R.frames ∧ 8 + (nLy + 11) + lo ≤ R.locals) (hz : kc + mc ≤ R.cells ∧ ks + ms ≤ R.slots) (hn : As.length = n) (hst : st = As.reverse ++ .ref q :: rest) (hrm : (rest.map fun v => v.category).sum ≤ 8) (hdg : decode cc pc = .ok (.invokespecial index, 3)) (kk : ∀ w1 : va_W, B q w1 → WC p l e R s m args below meth c D A Q (ws ++ w1) (kc + mc) (ks + ms) (F0 m (pc + 3) ls rest)) : WC p l e R s m args below meth c D A Q (ws ++ [(q, .inr (ci, fs0))]) kc ks (F0 m pc ls st) := by
  intro H locs hP hD hS
  obtain ⟨⟨host, w1⟩, w2, w4, w5, hnm, hd⟩ := hM
  have hG2 : GoodIn UW (.code y cy nLy none :: UW) := good_cons (l0 := []) (fun w hw => by cases hw) w5
  have run := va_runIN (p := p) (l := l) (e := e) (R := R) (below := below) (meth := meth) (H := H) (locs := locs) (cells := kc) (slots := ks) (As := As) (rest := rest) (g := F0 m pc ls st) (nL := nL) (cc := cc) (own := own) (n := n) (index := index) (bytes := cy) (maxL := nLy) (Ts := UW) (b := q) ⟨C.1, C.2.1, C.2.2.1, C.2.2.2.1, C.2.2.2.2.1⟩ (hG q H.size) ⟨va_cnB n C.2.2.2.2.1 hG2 rfl rfl rfl (C.2.2.2.2.2.2.2 _ w1) (C.2.2.2.2.1 _ w4) hd hR, hnm, C.2.2.2.2.1 _ w2⟩ ⟨pk_blind, fun U hU hW => ⟨rfl, by rw [hU], by rw [hU]; exact hP.last, va_K.moved hW.alike C.2.2.2.2.2.1, fun w hw => nw_warm hW hw (C.2.2.2.2.2.2.2 w hw)⟩⟩ rfl hn hl.1 hst (lv_room hrm) hdg hz
  exact k_go C hP hD hS (k_free C hD hS) run kk
end RC
theorem ki_of {l : Launch} {D : va_G} {cI cZ : ClassId} {y : MethodName} {cc : ByteArray} {nL fr lo mc ms : Nat} {As : List Value} {ci : Nat} {fs0 : List Value} {B : Nat → va_W → Prop} {own : String} (hy : plainName y.cls = true) (hnm : y.name = "<init>") (hown : y.cls = own) (hlen : ∀ h0 : Nat, (lg_sl (.ref h0 :: As)).length ≤ nL)
    (h : ∀ (p : Program) (e : Env) (s : State) (m : MethodId) (args : Array Value) (below : List Frame) (meth : Method) (c : Code) (A : Nat → Prop) (h0 : Nat), CK p s m args c cc nL own D cI cZ A → meth.name = "<init>" → meth.sig.returnType = none → meth.locks = false → ∀ ls : Array Slot, lv_has ls nL (lv_args 0 (.ref h0 :: As)) → WC p l e { frames := fr, cells := mc, slots := ms, locals := lo } s m args below meth c D A (MQ below (QK D A (B h0)) args s mc ms A) [(h0, .inr (ci, fs0))] 0 0 (F0 m 0 ls [])) : KI l D cI cZ y cc nL fr lo mc ms As ci fs0 B := by
  intro h0 sz
  refine Met.ofW (cc := cc) (maxL := nL) (ret := none) hy rfl ?_
  intro p e s m args below meth c s₁ B1 hml hv
  obtain ⟨rfl, hsz, hP, hK, hN⟩ := hv
  have hts := atoms_spec (ws := .code y cc nL none :: UW) B1.pre
  subst hsz
  have hin : meth.name = "<init>" := (name_of_methodNamed B1.named B1.method).1.trans hnm
  have C : CK p s m (Value.ref h0 :: As).toArray c cc nL own D cI cZ (va_A [(h0, .inr (ci, fs0))] s.heap.size) := ⟨B1.exec, B1.bytes, hml, by rw [← hown]; exact findClass_of_methodNamed B1.named, fun w hw => hts w (List.mem_cons_of_mem _ hw), hK, fun q hq => Or.inr hq, hN⟩
  have hl := lv_entry (.ref h0 :: As) (n := nL) (hlen h0)
  rw [lg_entry_eq]
  have hD : va_D (va_A [(h0, .inr (ci, fs0))] s.heap.size) [(h0, .inr (ci, fs0))] := by
    refine ⟨fun i j a b ha hb _ => ?_, fun k q hq => va_A.in hq⟩
    have h1 : i < 1 := (List.getElem?_eq_some_iff.mp ha).1
    have h2 : j < 1 := (List.getElem?_eq_some_iff.mp hb).1
    omega
  exact h p e s m _ below meth c _ h0 C hin B1.returns B1.notSynchronized _ hl s.heap [] hP hD va_S.rf

def shRow (cI : ClassId) (n : Nat) (h : Nat) (w : va_W) : Prop := ∃ q : Nat, w = [(h, .inr (5, [.ref q])), (q, .inl (cI, n, .inl (fun _ => 0)))]
def shRd (cI : ClassId) (h : Nat) (w : va_W) : Prop := ∃ (q : Nat) (w1 : va_W), shRow cI 48 q w1 ∧ w = (h, .inr (4, [.ref q, .int 0, .int 0])) :: w1
def shText (cI : ClassId) (h : Nat) (w : va_W) : Prop := ∃ (q : Nat) (w1 : va_W), shRow cI 90 q w1 ∧ w = (h, .inr (6, [.ref q, .int 0])) :: w1
def shMix (cI : ClassId) (h : Nat) (w : va_W) : Prop := ∃ (q : Nat) (w1 : va_W), shRow cI 6 q w1 ∧ w = (h, .inr (3, [.ref q, .int 0, .int 0, .int 0, .int 0])) :: w1
def shImg (cI : ClassId) (h : Nat) (w : va_W) : Prop := ∃ (q : Nat) (w1 : va_W), shRd cI q w1 ∧ w = (h, .inr (2, [.ref q, .int 0, .int 0])) :: w1
def shDone (cI : ClassId) (h : Nat) (w : va_W) : Prop := ∃ (q1 q2 : Nat) (w1 w2 : va_W), shRow cI 10 q1 w1 ∧ shRow cI 10 q2 w2 ∧ w = (h, .inr (1, [.ref q1, .ref q2, .int 0])) :: (w1 ++ w2)
def shTree (cI : ClassId) (h : Nat) (w : va_W) : Prop := ∃ (q1 q2 : Nat) (w1 w2 : va_W), shRow cI 9 q1 w1 ∧ shRow cI 9 q2 w2 ∧ w = (h, .inr (7, [.ref q1, .ref q2, .int 0])) :: (w1 ++ w2)
def shDesc (cI : ClassId) (h : Nat) (w : va_W) : Prop := ∃ (q1 q2 q3 q4 q5 : Nat) (w1 w2 w3 w4 w5 : va_W), shRow cI 11 q1 w1 ∧ shRow cI 11 q2 w2 ∧ shRow cI 11 q3 w3 ∧ shRow cI 11 q4 w4 ∧ shRow cI 44 q5 w5 ∧ w = (h, .inr (0, [.ref q1, .ref q2, .ref q3, .ref q4, .ref q5, .int 0])) :: (w1 ++ w2 ++ w3 ++ w4 ++ w5)
def shS (cI : ClassId) (h : Nat) (w : va_W) : Prop := ∃ (q1 q2 q3 q4 q5 q6 q7 q8 q9 q10 q11 q12 q13 : Nat) (w1 w2 w3 w4 w5 w6 w7 w8 w9 w10 w11 w12 w13 : va_W), shText cI q1 w1 ∧ shRd cI q2 w2 ∧ shRd cI q3 w3 ∧ shDone cI q4 w4 ∧ shImg cI q5 w5 ∧ shImg cI q6 w6 ∧ shRow cI 6 q7 w7 ∧ shTree cI q8 w8 ∧ shDesc cI q9 w9 ∧ shRow cI 6 q10 w10 ∧ shRow cI 105 q11 w11 ∧ shRow cI 49 q12 w12 ∧ shMix cI q13 w13 ∧ w = (h, .inr (8, [.ref q1, .ref q2, .ref q3, .ref q4, .ref q5, .ref q6, .ref q7, .ref q8, .ref q9, .ref q10, .ref q11, .ref q12, .ref q13, .int 0, .int 0, .int 0])) :: (w1 ++ w2 ++ w3 ++ w4 ++ w5 ++ w6 ++ w7 ++ w8 ++ w9 ++ w10 ++ w11 ++ w12 ++ w13)
def shM (cI cZ : ClassId) (h : Nat) (w : va_W) : Prop := ∃ (q1 q2 q3 q4 q5 q6 q7 q8 q9 q10 q11 q12 q13 : Nat), w = [(h, .inr (9, [.int 0, .int 0, .ref q1, .int 0, .int 0, .ref q2, .int 0, .ref q3, .ref q4, .ref q5, .int 0, .ref q6, .int 0, .int 0, .int 0, .int 0, .int 0, .int 0, .ref q7, .int 0, .int 0, .ref q8, .ref q9, .ref q10, .ref q11, .ref q12, .ref q13])), (q1, .inl (cI, 49, .inl (fun _ => 0))), (q2, .inl (cI, 490, .inl (fun _ => 0))), (q3, .inl (cI, 6, .inl (fun _ => 0))), (q4, .inl (cZ, 2, .inl (fun _ => 0))), (q5, .inl (cI, 98, .inl (fun _ => 0))), (q6, .inl (cI, 90, .inl (fun _ => 0))), (q7, .inl (cI, 48, .inl (fun _ => 0))), (q8, .inl (cI, 10, .inl (fun _ => 0))), (q9, .inl (cI, 10, .inl (fun _ => 0))), (q10, .inl (cI, 44, .inl (fun _ => 0))), (q11, .inl (cZ, 10, .inl (fun _ => 0))), (q12, .inl (cI, 105, .inl (fun _ => 0))), (q13, .inl (cI, 5, .inl (fun _ => 0)))]

theorem k_shape {p : Program} {l : Launch} {e : Env} {R : Room} {s : State} {m : MethodId} {args : Array Value} {below : List Frame} {meth : Method} {c : Code} {D : va_G} {A : Nat → Prop} {kc ks : Nat} {Q : State → Prop} {ws ws2 : va_W} {g : JFrame} (h : ws = ws2) (k : WC p l e R s m args below meth c D A Q ws2 kc ks g) : WC p l e R s m args below meth c D A Q ws kc ks g := by subst h; exact k
set_option maxRecDepth 100000 in
set_option maxHeartbeats 4000000 in
theorem kX5 (l : Launch) {D : va_G} {cI cZ : ClassId} (n : Nat) (hn : n ≤ 1000) : KI l D cI cZ yX5_init cX5_init 2 1 21 1 n [.int (nI n)] 5 [.null] (shRow cI n) := by
  refine ki_of (own := RX5) (by decide +kernel) rfl rfl (fun _ => Nat.le_of_ble_eq_true rfl) ?_
  intro p e s m args below meth c A h0 C hin hr hlk ls hl
  refine k_aload_n C dX5_init_0 rfl (lv_at hl 0 rfl) ?_
  refine k_obj C hl (uw_mk 85 (by decide +kernel) rfl) (uw_mk 72 (by decide +kernel) rfl) (uw_mk 73 rfl rfl) dX5_init_1 (Nat.le_of_ble_eq_true rfl) (Nat.le_of_ble_eq_true rfl) ?_
  refine k_aload_n C dX5_init_4 rfl (lv_at hl 0 rfl) ?_
  refine k_iload_n C dX5_init_5 rfl (lv_at hl 1 rfl) ?_
  refine k_iconst (v := 0) C dX5_init_6 (by decide) ?_
  refine k_mmax (v := nI n) C hl ⟨uw_mk 86 (by decide +kernel) rfl, uw_mk 87 (by decide +kernel) rfl, uw_mk 57 (by decide +kernel) rfl, uw_mk 88 (by decide +kernel) rfl⟩ ⟨Nat.le_of_ble_eq_true rfl, Nat.le_of_ble_eq_true rfl, Nat.le_of_ble_eq_true rfl, Nat.zero_le _⟩ (if_neg (nI_pos (by omega))) dX5_init_7 ?_
  refine k_newI (v := nI n) (N := n) C (uw_mk 93 (by decide +kernel) rfl) (nI_pos (by omega)) (nI_clamp (by omega)) (by omega) ⟨Nat.le_of_ble_eq_true rfl, by simp⟩ dX5_init_10 (fun q1 => ?_)
  refine k_widen (kc2 := 1) (ks2 := n) (Nat.le_of_ble_eq_true rfl) (by omega) ?_
  refine k_putF (ty := .array .int) (ty0 := tyX5) C hin rfl uwX5 tyX5_ok nmX5 (k := 0) (by decide) (uw_mk 89 (by decide +kernel) rfl) rfl rfl (by decide +kernel) rfl rfl (Nat.le_of_ble_eq_true rfl) dX5_init_12 ?_
  exact k_vret C hr hlk ⟨q1, rfl⟩ dX5_init_15

set_option maxRecDepth 100000 in
set_option maxHeartbeats 4000000 in
theorem kX4 (l : Launch) {D : va_G} {cI cZ : ClassId} : KI l D cI cZ yX4_init cX4_init 1 2 42 2 49 [] 4 [.null, .int 0, .int 0] (shRd cI) := by
  refine ki_of (own := RX4) (by decide +kernel) rfl rfl (fun _ => Nat.le_of_ble_eq_true rfl) ?_
  intro p e s m args below meth c A h0 C hin hr hlk ls hl
  refine k_aload_n C dX4_init_0 rfl (lv_at hl 0 rfl) ?_
  refine k_obj C hl (uw_mk 107 (by decide +kernel) rfl) (uw_mk 72 (by decide +kernel) rfl) (uw_mk 73 rfl rfl) dX4_init_1 (Nat.le_of_ble_eq_true rfl) (Nat.le_of_ble_eq_true rfl) ?_
  refine k_aload_n C dX4_init_4 rfl (lv_at hl 0 rfl) ?_
  refine k_new (ci := 5) (fs := [.null]) (ty := tyX5) C rfl uwX5 tyX5_ok (uw_mk 108 (by decide +kernel) rfl) (uw_mk 81 (by decide +kernel) rfl) (uw_mk 56 (by decide +kernel) rfl) (fun j hj => by rcases (show j = 0 by omega) with rfl <;> rfl) ⟨Nat.le_of_ble_eq_true rfl, Nat.le_of_ble_eq_true rfl⟩ dX4_init_5 (fun q1 => ?_)
  refine k_widen (kc2 := 1) (ks2 := 1) (Nat.le_of_ble_eq_true rfl) (Nat.le_of_ble_eq_true rfl) ?_
  refine k_dup C dX4_init_8 rfl ?_
  refine k_bipush (v := 48) C dX4_init_9 (by decide) ?_
  refine k_ctor (As := [.int 48]) (rest := [.ref q1, .ref h0]) (q := q1) C hl ⟨uw_mk 109 (by decide +kernel) rfl, uw_mk 83 (by decide +kernel) rfl, uw_mk 56 (by decide +kernel) rfl, uw_mk 84 rfl rfl, rfl, ⟨by decide +kernel, by decide +kernel, by decide +kernel⟩⟩ (kX5 l 48 (by decide)) ⟨Nat.le_of_ble_eq_true rfl, Nat.le_of_ble_eq_true rfl⟩ ⟨Nat.le_of_ble_eq_true rfl, Nat.le_of_ble_eq_true rfl⟩ rfl rfl (Nat.le_of_ble_eq_true rfl) dX4_init_11 (fun w1 b1 => ?_)
  refine k_widen (kc2 := 2) (ks2 := 49) (Nat.le_of_ble_eq_true rfl) (Nat.le_of_ble_eq_true rfl) ?_
  refine k_shape (ws2 := (h0, .inr (4, [.null, .int 0, .int 0])) :: (w1)) (by simp only [List.cons_append, List.nil_append, List.append_assoc]) ?_
  refine k_putF (ty := .object "StemmaTree$Row") (ty0 := tyX4) C hin rfl uwX4 tyX4_ok nmX4 (k := 0) (by decide) (uw_mk 110 (by decide +kernel) rfl) rfl rfl (by decide +kernel) rfl rfl (Nat.le_of_ble_eq_true rfl) dX4_init_14 ?_
  refine k_shape (ws2 := (h0, .inr (4, [.ref q1, .int 0, .int 0])) :: (w1)) rfl ?_
  exact k_vret C hr hlk ⟨q1, w1, b1, rfl⟩ dX4_init_17

set_option maxRecDepth 100000 in
set_option maxHeartbeats 4000000 in
theorem kX6 (l : Launch) {D : va_G} {cI cZ : ClassId} : KI l D cI cZ yX6_init cX6_init 1 2 42 2 91 [] 6 [.null, .int 0] (shText cI) := by
  refine ki_of (own := RX6) (by decide +kernel) rfl rfl (fun _ => Nat.le_of_ble_eq_true rfl) ?_
  intro p e s m args below meth c A h0 C hin hr hlk ls hl
  refine k_aload_n C dX6_init_0 rfl (lv_at hl 0 rfl) ?_
  refine k_obj C hl (uw_mk 79 (by decide +kernel) rfl) (uw_mk 72 (by decide +kernel) rfl) (uw_mk 73 rfl rfl) dX6_init_1 (Nat.le_of_ble_eq_true rfl) (Nat.le_of_ble_eq_true rfl) ?_
  refine k_aload_n C dX6_init_4 rfl (lv_at hl 0 rfl) ?_
  refine k_new (ci := 5) (fs := [.null]) (ty := tyX5) C rfl uwX5 tyX5_ok (uw_mk 80 (by decide +kernel) rfl) (uw_mk 81 (by decide +kernel) rfl) (uw_mk 56 (by decide +kernel) rfl) (fun j hj => by rcases (show j = 0 by omega) with rfl <;> rfl) ⟨Nat.le_of_ble_eq_true rfl, Nat.le_of_ble_eq_true rfl⟩ dX6_init_5 (fun q1 => ?_)
  refine k_widen (kc2 := 1) (ks2 := 1) (Nat.le_of_ble_eq_true rfl) (Nat.le_of_ble_eq_true rfl) ?_
  refine k_dup C dX6_init_8 rfl ?_
  refine k_bipush (v := 90) C dX6_init_9 (by decide) ?_
  refine k_ctor (As := [.int 90]) (rest := [.ref q1, .ref h0]) (q := q1) C hl ⟨uw_mk 82 (by decide +kernel) rfl, uw_mk 83 (by decide +kernel) rfl, uw_mk 56 (by decide +kernel) rfl, uw_mk 84 rfl rfl, rfl, ⟨by decide +kernel, by decide +kernel, by decide +kernel⟩⟩ (kX5 l 90 (by decide)) ⟨Nat.le_of_ble_eq_true rfl, Nat.le_of_ble_eq_true rfl⟩ ⟨Nat.le_of_ble_eq_true rfl, Nat.le_of_ble_eq_true rfl⟩ rfl rfl (Nat.le_of_ble_eq_true rfl) dX6_init_11 (fun w1 b1 => ?_)
  refine k_widen (kc2 := 2) (ks2 := 91) (Nat.le_of_ble_eq_true rfl) (Nat.le_of_ble_eq_true rfl) ?_
  refine k_shape (ws2 := (h0, .inr (6, [.null, .int 0])) :: (w1)) (by simp only [List.cons_append, List.nil_append, List.append_assoc]) ?_
  refine k_putF (ty := .object "StemmaTree$Row") (ty0 := tyX6) C hin rfl uwX6 tyX6_ok nmX6 (k := 0) (by decide) (uw_mk 94 (by decide +kernel) rfl) rfl rfl (by decide +kernel) rfl rfl (Nat.le_of_ble_eq_true rfl) dX6_init_14 ?_
  refine k_shape (ws2 := (h0, .inr (6, [.ref q1, .int 0])) :: (w1)) rfl ?_
  exact k_vret C hr hlk ⟨q1, w1, b1, rfl⟩ dX6_init_17

set_option maxRecDepth 100000 in
set_option maxHeartbeats 4000000 in
theorem kX3 (l : Launch) {D : va_G} {cI cZ : ClassId} : KI l D cI cZ yX3_init cX3_init 1 2 42 2 7 [] 3 [.null, .int 0, .int 0, .int 0, .int 0] (shMix cI) := by
  refine ki_of (own := RX3) (by decide +kernel) rfl rfl (fun _ => Nat.le_of_ble_eq_true rfl) ?_
  intro p e s m args below meth c A h0 C hin hr hlk ls hl
  refine k_aload_n C dX3_init_0 rfl (lv_at hl 0 rfl) ?_
  refine k_obj C hl (uw_mk 223 (by decide +kernel) rfl) (uw_mk 72 (by decide +kernel) rfl) (uw_mk 73 rfl rfl) dX3_init_1 (Nat.le_of_ble_eq_true rfl) (Nat.le_of_ble_eq_true rfl) ?_
  refine k_aload_n C dX3_init_4 rfl (lv_at hl 0 rfl) ?_
  refine k_new (ci := 5) (fs := [.null]) (ty := tyX5) C rfl uwX5 tyX5_ok (uw_mk 224 (by decide +kernel) rfl) (uw_mk 81 (by decide +kernel) rfl) (uw_mk 56 (by decide +kernel) rfl) (fun j hj => by rcases (show j = 0 by omega) with rfl <;> rfl) ⟨Nat.le_of_ble_eq_true rfl, Nat.le_of_ble_eq_true rfl⟩ dX3_init_5 (fun q1 => ?_)
  refine k_widen (kc2 := 1) (ks2 := 1) (Nat.le_of_ble_eq_true rfl) (Nat.le_of_ble_eq_true rfl) ?_
  refine k_dup C dX3_init_8 rfl ?_
  refine k_bipush (v := 6) C dX3_init_9 (by decide) ?_
  refine k_ctor (As := [.int 6]) (rest := [.ref q1, .ref h0]) (q := q1) C hl ⟨uw_mk 225 (by decide +kernel) rfl, uw_mk 83 (by decide +kernel) rfl, uw_mk 56 (by decide +kernel) rfl, uw_mk 84 rfl rfl, rfl, ⟨by decide +kernel, by decide +kernel, by decide +kernel⟩⟩ (kX5 l 6 (by decide)) ⟨Nat.le_of_ble_eq_true rfl, Nat.le_of_ble_eq_true rfl⟩ ⟨Nat.le_of_ble_eq_true rfl, Nat.le_of_ble_eq_true rfl⟩ rfl rfl (Nat.le_of_ble_eq_true rfl) dX3_init_11 (fun w1 b1 => ?_)
  refine k_widen (kc2 := 2) (ks2 := 7) (Nat.le_of_ble_eq_true rfl) (Nat.le_of_ble_eq_true rfl) ?_
  refine k_shape (ws2 := (h0, .inr (3, [.null, .int 0, .int 0, .int 0, .int 0])) :: (w1)) (by simp only [List.cons_append, List.nil_append, List.append_assoc]) ?_
  refine k_putF (ty := .object "StemmaTree$Row") (ty0 := tyX3) C hin rfl uwX3 tyX3_ok nmX3 (k := 0) (by decide) (uw_mk 226 (by decide +kernel) rfl) rfl rfl (by decide +kernel) rfl rfl (Nat.le_of_ble_eq_true rfl) dX3_init_14 ?_
  refine k_shape (ws2 := (h0, .inr (3, [.ref q1, .int 0, .int 0, .int 0, .int 0])) :: (w1)) rfl ?_
  exact k_vret C hr hlk ⟨q1, w1, b1, rfl⟩ dX3_init_17

set_option maxRecDepth 100000 in
set_option maxHeartbeats 4000000 in
theorem kX2 (l : Launch) {D : va_G} {cI cZ : ClassId} : KI l D cI cZ yX2_init cX2_init 1 3 62 3 52 [] 2 [.null, .int 0, .int 0] (shImg cI) := by
  refine ki_of (own := RX2) (by decide +kernel) rfl rfl (fun _ => Nat.le_of_ble_eq_true rfl) ?_
  intro p e s m args below meth c A h0 C hin hr hlk ls hl
  refine k_aload_n C dX2_init_0 rfl (lv_at hl 0 rfl) ?_
  refine k_obj C hl (uw_mk 153 (by decide +kernel) rfl) (uw_mk 72 (by decide +kernel) rfl) (uw_mk 73 rfl rfl) dX2_init_1 (Nat.le_of_ble_eq_true rfl) (Nat.le_of_ble_eq_true rfl) ?_
  refine k_aload_n C dX2_init_4 rfl (lv_at hl 0 rfl) ?_
  refine k_new (ci := 4) (fs := [.null, .int 0, .int 0]) (ty := tyX4) C rfl uwX4 tyX4_ok (uw_mk 154 (by decide +kernel) rfl) (uw_mk 103 (by decide +kernel) rfl) (uw_mk 58 (by decide +kernel) rfl) (fun j hj => by rcases (show j = 0 ∨ j = 1 ∨ j = 2 by omega) with rfl | rfl | rfl <;> rfl) ⟨Nat.le_of_ble_eq_true rfl, Nat.le_of_ble_eq_true rfl⟩ dX2_init_5 (fun q1 => ?_)
  refine k_widen (kc2 := 1) (ks2 := 3) (Nat.le_of_ble_eq_true rfl) (Nat.le_of_ble_eq_true rfl) ?_
  refine k_dup C dX2_init_8 rfl ?_
  refine k_ctorN (As := []) (rest := [.ref q1, .ref h0]) (q := q1) C hl ⟨⟨"StemmaTree", List.mem_of_getElem? (i := 26) rfl⟩, uw_mk 105 (by decide +kernel) rfl, uw_mk 58 (by decide +kernel) rfl, uw_mk 106 rfl rfl, rfl, ⟨by decide +kernel, by decide +kernel, by decide +kernel⟩⟩ (kX4 l) ⟨Nat.le_of_ble_eq_true rfl, Nat.le_of_ble_eq_true rfl⟩ ⟨Nat.le_of_ble_eq_true rfl, Nat.le_of_ble_eq_true rfl⟩ rfl rfl (Nat.le_of_ble_eq_true rfl) dX2_init_9 (fun w1 b1 => ?_)
  refine k_widen (kc2 := 3) (ks2 := 52) (Nat.le_of_ble_eq_true rfl) (Nat.le_of_ble_eq_true rfl) ?_
  refine k_shape (ws2 := (h0, .inr (2, [.null, .int 0, .int 0])) :: (w1)) (by simp only [List.cons_append, List.nil_append, List.append_assoc]) ?_
  refine k_putF (ty := .object "StemmaTree$Readings") (ty0 := tyX2) C hin rfl uwX2 tyX2_ok nmX2 (k := 0) (by decide) (uw_mk 156 (by decide +kernel) rfl) rfl rfl (by decide +kernel) rfl rfl (Nat.le_of_ble_eq_true rfl) dX2_init_12 ?_
  refine k_shape (ws2 := (h0, .inr (2, [.ref q1, .int 0, .int 0])) :: (w1)) rfl ?_
  exact k_vret C hr hlk ⟨q1, w1, b1, rfl⟩ dX2_init_15

set_option maxRecDepth 100000 in
set_option maxHeartbeats 4000000 in
theorem kX1 (l : Launch) {D : va_G} {cI cZ : ClassId} : KI l D cI cZ yX1_init cX1_init 1 2 42 4 22 [] 1 [.null, .null, .int 0] (shDone cI) := by
  refine ki_of (own := RX1) (by decide +kernel) rfl rfl (fun _ => Nat.le_of_ble_eq_true rfl) ?_
  intro p e s m args below meth c A h0 C hin hr hlk ls hl
  refine k_aload_n C dX1_init_0 rfl (lv_at hl 0 rfl) ?_
  refine k_obj C hl (uw_mk 132 (by decide +kernel) rfl) (uw_mk 72 (by decide +kernel) rfl) (uw_mk 73 rfl rfl) dX1_init_1 (Nat.le_of_ble_eq_true rfl) (Nat.le_of_ble_eq_true rfl) ?_
  refine k_aload_n C dX1_init_4 rfl (lv_at hl 0 rfl) ?_
  refine k_new (ci := 5) (fs := [.null]) (ty := tyX5) C rfl uwX5 tyX5_ok (uw_mk 133 (by decide +kernel) rfl) (uw_mk 81 (by decide +kernel) rfl) (uw_mk 56 (by decide +kernel) rfl) (fun j hj => by rcases (show j = 0 by omega) with rfl <;> rfl) ⟨Nat.le_of_ble_eq_true rfl, Nat.le_of_ble_eq_true rfl⟩ dX1_init_5 (fun q1 => ?_)
  refine k_widen (kc2 := 1) (ks2 := 1) (Nat.le_of_ble_eq_true rfl) (Nat.le_of_ble_eq_true rfl) ?_
  refine k_dup C dX1_init_8 rfl ?_
  refine k_bipush (v := 10) C dX1_init_9 (by decide) ?_
  refine k_ctor (As := [.int 10]) (rest := [.ref q1, .ref h0]) (q := q1) C hl ⟨uw_mk 134 (by decide +kernel) rfl, uw_mk 83 (by decide +kernel) rfl, uw_mk 56 (by decide +kernel) rfl, uw_mk 84 rfl rfl, rfl, ⟨by decide +kernel, by decide +kernel, by decide +kernel⟩⟩ (kX5 l 10 (by decide)) ⟨Nat.le_of_ble_eq_true rfl, Nat.le_of_ble_eq_true rfl⟩ ⟨Nat.le_of_ble_eq_true rfl, Nat.le_of_ble_eq_true rfl⟩ rfl rfl (Nat.le_of_ble_eq_true rfl) dX1_init_11 (fun w1 b1 => ?_)
  refine k_widen (kc2 := 2) (ks2 := 11) (Nat.le_of_ble_eq_true rfl) (Nat.le_of_ble_eq_true rfl) ?_
  refine k_shape (ws2 := (h0, .inr (1, [.null, .null, .int 0])) :: (w1)) (by simp only [List.cons_append, List.nil_append, List.append_assoc]) ?_
  refine k_putF (ty := .object "StemmaTree$Row") (ty0 := tyX1) C hin rfl uwX1 tyX1_ok nmX1 (k := 0) (by decide) (uw_mk 135 (by decide +kernel) rfl) rfl rfl (by decide +kernel) rfl rfl (Nat.le_of_ble_eq_true rfl) dX1_init_14 ?_
  refine k_shape (ws2 := (h0, .inr (1, [.ref q1, .null, .int 0])) :: (w1)) rfl ?_
  refine k_aload_n C dX1_init_17 rfl (lv_at hl 0 rfl) ?_
  refine k_new (ci := 5) (fs := [.null]) (ty := tyX5) C rfl uwX5 tyX5_ok (uw_mk 133 (by decide +kernel) rfl) (uw_mk 81 (by decide +kernel) rfl) (uw_mk 56 (by decide +kernel) rfl) (fun j hj => by rcases (show j = 0 by omega) with rfl <;> rfl) ⟨Nat.le_of_ble_eq_true rfl, Nat.le_of_ble_eq_true rfl⟩ dX1_init_18 (fun q2 => ?_)
  refine k_widen (kc2 := 3) (ks2 := 12) (Nat.le_of_ble_eq_true rfl) (Nat.le_of_ble_eq_true rfl) ?_
  refine k_dup C dX1_init_21 rfl ?_
  refine k_bipush (v := 10) C dX1_init_22 (by decide) ?_
  refine k_ctor (As := [.int 10]) (rest := [.ref q2, .ref h0]) (q := q2) C hl ⟨uw_mk 134 (by decide +kernel) rfl, uw_mk 83 (by decide +kernel) rfl, uw_mk 56 (by decide +kernel) rfl, uw_mk 84 rfl rfl, rfl, ⟨by decide +kernel, by decide +kernel, by decide +kernel⟩⟩ (kX5 l 10 (by decide)) ⟨Nat.le_of_ble_eq_true rfl, Nat.le_of_ble_eq_true rfl⟩ ⟨Nat.le_of_ble_eq_true rfl, Nat.le_of_ble_eq_true rfl⟩ rfl rfl (Nat.le_of_ble_eq_true rfl) dX1_init_24 (fun w2 b2 => ?_)
  refine k_widen (kc2 := 4) (ks2 := 22) (Nat.le_of_ble_eq_true rfl) (Nat.le_of_ble_eq_true rfl) ?_
  refine k_shape (ws2 := (h0, .inr (1, [.ref q1, .null, .int 0])) :: (w1 ++ w2)) (by simp only [List.cons_append, List.nil_append, List.append_assoc]) ?_
  refine k_putF (ty := .object "StemmaTree$Row") (ty0 := tyX1) C hin rfl uwX1 tyX1_ok nmX1 (k := 1) (by decide) (uw_mk 137 (by decide +kernel) rfl) rfl rfl (by decide +kernel) rfl rfl (Nat.le_of_ble_eq_true rfl) dX1_init_27 ?_
  refine k_shape (ws2 := (h0, .inr (1, [.ref q1, .ref q2, .int 0])) :: (w1 ++ w2)) rfl ?_
  exact k_vret C hr hlk ⟨q1, q2, w1, w2, b1, b2, rfl⟩ dX1_init_30

set_option maxRecDepth 100000 in
set_option maxHeartbeats 4000000 in
theorem kX7 (l : Launch) {D : va_G} {cI cZ : ClassId} : KI l D cI cZ yX7_init cX7_init 1 2 42 4 20 [] 7 [.null, .null, .int 0] (shTree cI) := by
  refine ki_of (own := RX7) (by decide +kernel) rfl rfl (fun _ => Nat.le_of_ble_eq_true rfl) ?_
  intro p e s m args below meth c A h0 C hin hr hlk ls hl
  refine k_aload_n C dX7_init_0 rfl (lv_at hl 0 rfl) ?_
  refine k_obj C hl (uw_mk 174 (by decide +kernel) rfl) (uw_mk 72 (by decide +kernel) rfl) (uw_mk 73 rfl rfl) dX7_init_1 (Nat.le_of_ble_eq_true rfl) (Nat.le_of_ble_eq_true rfl) ?_
  refine k_aload_n C dX7_init_4 rfl (lv_at hl 0 rfl) ?_
  refine k_new (ci := 5) (fs := [.null]) (ty := tyX5) C rfl uwX5 tyX5_ok (uw_mk 175 (by decide +kernel) rfl) (uw_mk 81 (by decide +kernel) rfl) (uw_mk 56 (by decide +kernel) rfl) (fun j hj => by rcases (show j = 0 by omega) with rfl <;> rfl) ⟨Nat.le_of_ble_eq_true rfl, Nat.le_of_ble_eq_true rfl⟩ dX7_init_5 (fun q1 => ?_)
  refine k_widen (kc2 := 1) (ks2 := 1) (Nat.le_of_ble_eq_true rfl) (Nat.le_of_ble_eq_true rfl) ?_
  refine k_dup C dX7_init_8 rfl ?_
  refine k_bipush (v := 9) C dX7_init_9 (by decide) ?_
  refine k_ctor (As := [.int 9]) (rest := [.ref q1, .ref h0]) (q := q1) C hl ⟨uw_mk 176 (by decide +kernel) rfl, uw_mk 83 (by decide +kernel) rfl, uw_mk 56 (by decide +kernel) rfl, uw_mk 84 rfl rfl, rfl, ⟨by decide +kernel, by decide +kernel, by decide +kernel⟩⟩ (kX5 l 9 (by decide)) ⟨Nat.le_of_ble_eq_true rfl, Nat.le_of_ble_eq_true rfl⟩ ⟨Nat.le_of_ble_eq_true rfl, Nat.le_of_ble_eq_true rfl⟩ rfl rfl (Nat.le_of_ble_eq_true rfl) dX7_init_11 (fun w1 b1 => ?_)
  refine k_widen (kc2 := 2) (ks2 := 10) (Nat.le_of_ble_eq_true rfl) (Nat.le_of_ble_eq_true rfl) ?_
  refine k_shape (ws2 := (h0, .inr (7, [.null, .null, .int 0])) :: (w1)) (by simp only [List.cons_append, List.nil_append, List.append_assoc]) ?_
  refine k_putF (ty := .object "StemmaTree$Row") (ty0 := tyX7) C hin rfl uwX7 tyX7_ok nmX7 (k := 0) (by decide) (uw_mk 177 (by decide +kernel) rfl) rfl rfl (by decide +kernel) rfl rfl (Nat.le_of_ble_eq_true rfl) dX7_init_14 ?_
  refine k_shape (ws2 := (h0, .inr (7, [.ref q1, .null, .int 0])) :: (w1)) rfl ?_
  refine k_aload_n C dX7_init_17 rfl (lv_at hl 0 rfl) ?_
  refine k_new (ci := 5) (fs := [.null]) (ty := tyX5) C rfl uwX5 tyX5_ok (uw_mk 175 (by decide +kernel) rfl) (uw_mk 81 (by decide +kernel) rfl) (uw_mk 56 (by decide +kernel) rfl) (fun j hj => by rcases (show j = 0 by omega) with rfl <;> rfl) ⟨Nat.le_of_ble_eq_true rfl, Nat.le_of_ble_eq_true rfl⟩ dX7_init_18 (fun q2 => ?_)
  refine k_widen (kc2 := 3) (ks2 := 11) (Nat.le_of_ble_eq_true rfl) (Nat.le_of_ble_eq_true rfl) ?_
  refine k_dup C dX7_init_21 rfl ?_
  refine k_bipush (v := 9) C dX7_init_22 (by decide) ?_
  refine k_ctor (As := [.int 9]) (rest := [.ref q2, .ref h0]) (q := q2) C hl ⟨uw_mk 176 (by decide +kernel) rfl, uw_mk 83 (by decide +kernel) rfl, uw_mk 56 (by decide +kernel) rfl, uw_mk 84 rfl rfl, rfl, ⟨by decide +kernel, by decide +kernel, by decide +kernel⟩⟩ (kX5 l 9 (by decide)) ⟨Nat.le_of_ble_eq_true rfl, Nat.le_of_ble_eq_true rfl⟩ ⟨Nat.le_of_ble_eq_true rfl, Nat.le_of_ble_eq_true rfl⟩ rfl rfl (Nat.le_of_ble_eq_true rfl) dX7_init_24 (fun w2 b2 => ?_)
  refine k_widen (kc2 := 4) (ks2 := 20) (Nat.le_of_ble_eq_true rfl) (Nat.le_of_ble_eq_true rfl) ?_
  refine k_shape (ws2 := (h0, .inr (7, [.ref q1, .null, .int 0])) :: (w1 ++ w2)) (by simp only [List.cons_append, List.nil_append, List.append_assoc]) ?_
  refine k_putF (ty := .object "StemmaTree$Row") (ty0 := tyX7) C hin rfl uwX7 tyX7_ok nmX7 (k := 1) (by decide) (uw_mk 179 (by decide +kernel) rfl) rfl rfl (by decide +kernel) rfl rfl (Nat.le_of_ble_eq_true rfl) dX7_init_27 ?_
  refine k_shape (ws2 := (h0, .inr (7, [.ref q1, .ref q2, .int 0])) :: (w1 ++ w2)) rfl ?_
  exact k_vret C hr hlk ⟨q1, q2, w1, w2, b1, b2, rfl⟩ dX7_init_30

set_option maxRecDepth 100000 in
set_option maxHeartbeats 4000000 in
theorem kX0 (l : Launch) {D : va_G} {cI cZ : ClassId} : KI l D cI cZ yX0_init cX0_init 1 2 42 10 93 [] 0 [.null, .null, .null, .null, .null, .int 0] (shDesc cI) := by
  refine ki_of (own := RX0) (by decide +kernel) rfl rfl (fun _ => Nat.le_of_ble_eq_true rfl) ?_
  intro p e s m args below meth c A h0 C hin hr hlk ls hl
  refine k_aload_n C dX0_init_0 rfl (lv_at hl 0 rfl) ?_
  refine k_obj C hl (uw_mk 196 (by decide +kernel) rfl) (uw_mk 72 (by decide +kernel) rfl) (uw_mk 73 rfl rfl) dX0_init_1 (Nat.le_of_ble_eq_true rfl) (Nat.le_of_ble_eq_true rfl) ?_
  refine k_aload_n C dX0_init_4 rfl (lv_at hl 0 rfl) ?_
  refine k_new (ci := 5) (fs := [.null]) (ty := tyX5) C rfl uwX5 tyX5_ok (uw_mk 197 (by decide +kernel) rfl) (uw_mk 81 (by decide +kernel) rfl) (uw_mk 56 (by decide +kernel) rfl) (fun j hj => by rcases (show j = 0 by omega) with rfl <;> rfl) ⟨Nat.le_of_ble_eq_true rfl, Nat.le_of_ble_eq_true rfl⟩ dX0_init_5 (fun q1 => ?_)
  refine k_widen (kc2 := 1) (ks2 := 1) (Nat.le_of_ble_eq_true rfl) (Nat.le_of_ble_eq_true rfl) ?_
  refine k_dup C dX0_init_8 rfl ?_
  refine k_bipush (v := 11) C dX0_init_9 (by decide) ?_
  refine k_ctor (As := [.int 11]) (rest := [.ref q1, .ref h0]) (q := q1) C hl ⟨uw_mk 198 (by decide +kernel) rfl, uw_mk 83 (by decide +kernel) rfl, uw_mk 56 (by decide +kernel) rfl, uw_mk 84 rfl rfl, rfl, ⟨by decide +kernel, by decide +kernel, by decide +kernel⟩⟩ (kX5 l 11 (by decide)) ⟨Nat.le_of_ble_eq_true rfl, Nat.le_of_ble_eq_true rfl⟩ ⟨Nat.le_of_ble_eq_true rfl, Nat.le_of_ble_eq_true rfl⟩ rfl rfl (Nat.le_of_ble_eq_true rfl) dX0_init_11 (fun w1 b1 => ?_)
  refine k_widen (kc2 := 2) (ks2 := 12) (Nat.le_of_ble_eq_true rfl) (Nat.le_of_ble_eq_true rfl) ?_
  refine k_shape (ws2 := (h0, .inr (0, [.null, .null, .null, .null, .null, .int 0])) :: (w1)) (by simp only [List.cons_append, List.nil_append, List.append_assoc]) ?_
  refine k_putF (ty := .object "StemmaTree$Row") (ty0 := tyX0) C hin rfl uwX0 tyX0_ok nmX0 (k := 0) (by decide) (uw_mk 199 (by decide +kernel) rfl) rfl rfl (by decide +kernel) rfl rfl (Nat.le_of_ble_eq_true rfl) dX0_init_14 ?_
  refine k_shape (ws2 := (h0, .inr (0, [.ref q1, .null, .null, .null, .null, .int 0])) :: (w1)) rfl ?_
  refine k_aload_n C dX0_init_17 rfl (lv_at hl 0 rfl) ?_
  refine k_new (ci := 5) (fs := [.null]) (ty := tyX5) C rfl uwX5 tyX5_ok (uw_mk 197 (by decide +kernel) rfl) (uw_mk 81 (by decide +kernel) rfl) (uw_mk 56 (by decide +kernel) rfl) (fun j hj => by rcases (show j = 0 by omega) with rfl <;> rfl) ⟨Nat.le_of_ble_eq_true rfl, Nat.le_of_ble_eq_true rfl⟩ dX0_init_18 (fun q2 => ?_)
  refine k_widen (kc2 := 3) (ks2 := 13) (Nat.le_of_ble_eq_true rfl) (Nat.le_of_ble_eq_true rfl) ?_
  refine k_dup C dX0_init_21 rfl ?_
  refine k_bipush (v := 11) C dX0_init_22 (by decide) ?_
  refine k_ctor (As := [.int 11]) (rest := [.ref q2, .ref h0]) (q := q2) C hl ⟨uw_mk 198 (by decide +kernel) rfl, uw_mk 83 (by decide +kernel) rfl, uw_mk 56 (by decide +kernel) rfl, uw_mk 84 rfl rfl, rfl, ⟨by decide +kernel, by decide +kernel, by decide +kernel⟩⟩ (kX5 l 11 (by decide)) ⟨Nat.le_of_ble_eq_true rfl, Nat.le_of_ble_eq_true rfl⟩ ⟨Nat.le_of_ble_eq_true rfl, Nat.le_of_ble_eq_true rfl⟩ rfl rfl (Nat.le_of_ble_eq_true rfl) dX0_init_24 (fun w2 b2 => ?_)
  refine k_widen (kc2 := 4) (ks2 := 24) (Nat.le_of_ble_eq_true rfl) (Nat.le_of_ble_eq_true rfl) ?_
  refine k_shape (ws2 := (h0, .inr (0, [.ref q1, .null, .null, .null, .null, .int 0])) :: (w1 ++ w2)) (by simp only [List.cons_append, List.nil_append, List.append_assoc]) ?_
  refine k_putF (ty := .object "StemmaTree$Row") (ty0 := tyX0) C hin rfl uwX0 tyX0_ok nmX0 (k := 1) (by decide) (uw_mk 200 (by decide +kernel) rfl) rfl rfl (by decide +kernel) rfl rfl (Nat.le_of_ble_eq_true rfl) dX0_init_27 ?_
  refine k_shape (ws2 := (h0, .inr (0, [.ref q1, .ref q2, .null, .null, .null, .int 0])) :: (w1 ++ w2)) rfl ?_
  refine k_aload_n C dX0_init_30 rfl (lv_at hl 0 rfl) ?_
  refine k_new (ci := 5) (fs := [.null]) (ty := tyX5) C rfl uwX5 tyX5_ok (uw_mk 197 (by decide +kernel) rfl) (uw_mk 81 (by decide +kernel) rfl) (uw_mk 56 (by decide +kernel) rfl) (fun j hj => by rcases (show j = 0 by omega) with rfl <;> rfl) ⟨Nat.le_of_ble_eq_true rfl, Nat.le_of_ble_eq_true rfl⟩ dX0_init_31 (fun q3 => ?_)
  refine k_widen (kc2 := 5) (ks2 := 25) (Nat.le_of_ble_eq_true rfl) (Nat.le_of_ble_eq_true rfl) ?_
  refine k_dup C dX0_init_34 rfl ?_
  refine k_bipush (v := 11) C dX0_init_35 (by decide) ?_
  refine k_ctor (As := [.int 11]) (rest := [.ref q3, .ref h0]) (q := q3) C hl ⟨uw_mk 198 (by decide +kernel) rfl, uw_mk 83 (by decide +kernel) rfl, uw_mk 56 (by decide +kernel) rfl, uw_mk 84 rfl rfl, rfl, ⟨by decide +kernel, by decide +kernel, by decide +kernel⟩⟩ (kX5 l 11 (by decide)) ⟨Nat.le_of_ble_eq_true rfl, Nat.le_of_ble_eq_true rfl⟩ ⟨Nat.le_of_ble_eq_true rfl, Nat.le_of_ble_eq_true rfl⟩ rfl rfl (Nat.le_of_ble_eq_true rfl) dX0_init_37 (fun w3 b3 => ?_)
  refine k_widen (kc2 := 6) (ks2 := 36) (Nat.le_of_ble_eq_true rfl) (Nat.le_of_ble_eq_true rfl) ?_
  refine k_shape (ws2 := (h0, .inr (0, [.ref q1, .ref q2, .null, .null, .null, .int 0])) :: (w1 ++ w2 ++ w3)) (by simp only [List.cons_append, List.nil_append, List.append_assoc]) ?_
  refine k_putF (ty := .object "StemmaTree$Row") (ty0 := tyX0) C hin rfl uwX0 tyX0_ok nmX0 (k := 2) (by decide) (uw_mk 201 (by decide +kernel) rfl) rfl rfl (by decide +kernel) rfl rfl (Nat.le_of_ble_eq_true rfl) dX0_init_40 ?_
  refine k_shape (ws2 := (h0, .inr (0, [.ref q1, .ref q2, .ref q3, .null, .null, .int 0])) :: (w1 ++ w2 ++ w3)) rfl ?_
  refine k_aload_n C dX0_init_43 rfl (lv_at hl 0 rfl) ?_
  refine k_new (ci := 5) (fs := [.null]) (ty := tyX5) C rfl uwX5 tyX5_ok (uw_mk 197 (by decide +kernel) rfl) (uw_mk 81 (by decide +kernel) rfl) (uw_mk 56 (by decide +kernel) rfl) (fun j hj => by rcases (show j = 0 by omega) with rfl <;> rfl) ⟨Nat.le_of_ble_eq_true rfl, Nat.le_of_ble_eq_true rfl⟩ dX0_init_44 (fun q4 => ?_)
  refine k_widen (kc2 := 7) (ks2 := 37) (Nat.le_of_ble_eq_true rfl) (Nat.le_of_ble_eq_true rfl) ?_
  refine k_dup C dX0_init_47 rfl ?_
  refine k_bipush (v := 11) C dX0_init_48 (by decide) ?_
  refine k_ctor (As := [.int 11]) (rest := [.ref q4, .ref h0]) (q := q4) C hl ⟨uw_mk 198 (by decide +kernel) rfl, uw_mk 83 (by decide +kernel) rfl, uw_mk 56 (by decide +kernel) rfl, uw_mk 84 rfl rfl, rfl, ⟨by decide +kernel, by decide +kernel, by decide +kernel⟩⟩ (kX5 l 11 (by decide)) ⟨Nat.le_of_ble_eq_true rfl, Nat.le_of_ble_eq_true rfl⟩ ⟨Nat.le_of_ble_eq_true rfl, Nat.le_of_ble_eq_true rfl⟩ rfl rfl (Nat.le_of_ble_eq_true rfl) dX0_init_50 (fun w4 b4 => ?_)
  refine k_widen (kc2 := 8) (ks2 := 48) (Nat.le_of_ble_eq_true rfl) (Nat.le_of_ble_eq_true rfl) ?_
  refine k_shape (ws2 := (h0, .inr (0, [.ref q1, .ref q2, .ref q3, .null, .null, .int 0])) :: (w1 ++ w2 ++ w3 ++ w4)) (by simp only [List.cons_append, List.nil_append, List.append_assoc]) ?_
  refine k_putF (ty := .object "StemmaTree$Row") (ty0 := tyX0) C hin rfl uwX0 tyX0_ok nmX0 (k := 3) (by decide) (uw_mk 202 (by decide +kernel) rfl) rfl rfl (by decide +kernel) rfl rfl (Nat.le_of_ble_eq_true rfl) dX0_init_53 ?_
  refine k_shape (ws2 := (h0, .inr (0, [.ref q1, .ref q2, .ref q3, .ref q4, .null, .int 0])) :: (w1 ++ w2 ++ w3 ++ w4)) rfl ?_
  refine k_aload_n C dX0_init_56 rfl (lv_at hl 0 rfl) ?_
  refine k_new (ci := 5) (fs := [.null]) (ty := tyX5) C rfl uwX5 tyX5_ok (uw_mk 197 (by decide +kernel) rfl) (uw_mk 81 (by decide +kernel) rfl) (uw_mk 56 (by decide +kernel) rfl) (fun j hj => by rcases (show j = 0 by omega) with rfl <;> rfl) ⟨Nat.le_of_ble_eq_true rfl, Nat.le_of_ble_eq_true rfl⟩ dX0_init_57 (fun q5 => ?_)
  refine k_widen (kc2 := 9) (ks2 := 49) (Nat.le_of_ble_eq_true rfl) (Nat.le_of_ble_eq_true rfl) ?_
  refine k_dup C dX0_init_60 rfl ?_
  refine k_bipush (v := 44) C dX0_init_61 (by decide) ?_
  refine k_ctor (As := [.int 44]) (rest := [.ref q5, .ref h0]) (q := q5) C hl ⟨uw_mk 198 (by decide +kernel) rfl, uw_mk 83 (by decide +kernel) rfl, uw_mk 56 (by decide +kernel) rfl, uw_mk 84 rfl rfl, rfl, ⟨by decide +kernel, by decide +kernel, by decide +kernel⟩⟩ (kX5 l 44 (by decide)) ⟨Nat.le_of_ble_eq_true rfl, Nat.le_of_ble_eq_true rfl⟩ ⟨Nat.le_of_ble_eq_true rfl, Nat.le_of_ble_eq_true rfl⟩ rfl rfl (Nat.le_of_ble_eq_true rfl) dX0_init_63 (fun w5 b5 => ?_)
  refine k_widen (kc2 := 10) (ks2 := 93) (Nat.le_of_ble_eq_true rfl) (Nat.le_of_ble_eq_true rfl) ?_
  refine k_shape (ws2 := (h0, .inr (0, [.ref q1, .ref q2, .ref q3, .ref q4, .null, .int 0])) :: (w1 ++ w2 ++ w3 ++ w4 ++ w5)) (by simp only [List.cons_append, List.nil_append, List.append_assoc]) ?_
  refine k_putF (ty := .object "StemmaTree$Row") (ty0 := tyX0) C hin rfl uwX0 tyX0_ok nmX0 (k := 4) (by decide) (uw_mk 203 (by decide +kernel) rfl) rfl rfl (by decide +kernel) rfl rfl (Nat.le_of_ble_eq_true rfl) dX0_init_66 ?_
  refine k_shape (ws2 := (h0, .inr (0, [.ref q1, .ref q2, .ref q3, .ref q4, .ref q5, .int 0])) :: (w1 ++ w2 ++ w3 ++ w4 ++ w5)) rfl ?_
  exact k_vret C hr hlk ⟨q1, q2, q3, q4, q5, w1, w2, w3, w4, w5, b1, b2, b3, b4, b5, rfl⟩ dX0_init_69

set_option maxRecDepth 100000 in
set_option maxHeartbeats 4000000 in
theorem kX8 (l : Launch) {D : va_G} {cI cZ : ClassId} : KI l D cI cZ yX8_init cX8_init 1 4 82 49 636 [] 8 [.null, .null, .null, .null, .null, .null, .null, .null, .null, .null, .null, .null, .null, .int 0, .int 0, .int 0] (shS cI) := by
  refine ki_of (own := RX8) (by decide +kernel) rfl rfl (fun _ => Nat.le_of_ble_eq_true rfl) ?_
  intro p e s m args below meth c A h0 C hin hr hlk ls hl
  refine k_aload_n C dX8_init_0 rfl (lv_at hl 0 rfl) ?_
  refine k_obj C hl (uw_mk 71 (by decide +kernel) rfl) (uw_mk 72 (by decide +kernel) rfl) (uw_mk 73 rfl rfl) dX8_init_1 (Nat.le_of_ble_eq_true rfl) (Nat.le_of_ble_eq_true rfl) ?_
  refine k_aload_n C dX8_init_4 rfl (lv_at hl 0 rfl) ?_
  refine k_new (ci := 6) (fs := [.null, .int 0]) (ty := tyX6) C rfl uwX6 tyX6_ok (uw_mk 74 (by decide +kernel) rfl) (uw_mk 75 (by decide +kernel) rfl) (uw_mk 55 (by decide +kernel) rfl) (fun j hj => by rcases (show j = 0 ∨ j = 1 by omega) with rfl | rfl <;> rfl) ⟨Nat.le_of_ble_eq_true rfl, Nat.le_of_ble_eq_true rfl⟩ dX8_init_5 (fun q1 => ?_)
  refine k_widen (kc2 := 1) (ks2 := 2) (Nat.le_of_ble_eq_true rfl) (Nat.le_of_ble_eq_true rfl) ?_
  refine k_dup C dX8_init_8 rfl ?_
  refine k_ctorN (As := []) (rest := [.ref q1, .ref h0]) (q := q1) C hl ⟨⟨"StemmaTree", List.mem_of_getElem? (i := 22) rfl⟩, uw_mk 77 (by decide +kernel) rfl, uw_mk 55 (by decide +kernel) rfl, uw_mk 78 rfl rfl, rfl, ⟨by decide +kernel, by decide +kernel, by decide +kernel⟩⟩ (kX6 l) ⟨Nat.le_of_ble_eq_true rfl, Nat.le_of_ble_eq_true rfl⟩ ⟨Nat.le_of_ble_eq_true rfl, Nat.le_of_ble_eq_true rfl⟩ rfl rfl (Nat.le_of_ble_eq_true rfl) dX8_init_9 (fun w1 b1 => ?_)
  refine k_widen (kc2 := 3) (ks2 := 93) (Nat.le_of_ble_eq_true rfl) (Nat.le_of_ble_eq_true rfl) ?_
  refine k_shape (ws2 := (h0, .inr (8, [.null, .null, .null, .null, .null, .null, .null, .null, .null, .null, .null, .null, .null, .int 0, .int 0, .int 0])) :: (w1)) (by simp only [List.cons_append, List.nil_append, List.append_assoc]) ?_
  refine k_putF (ty := .object "StemmaTree$Text") (ty0 := tyX8) C hin rfl uwX8 tyX8_ok nmX8 (k := 0) (by decide) (uw_mk 246 (by decide +kernel) rfl) rfl rfl (by decide +kernel) rfl rfl (Nat.le_of_ble_eq_true rfl) dX8_init_12 ?_
  refine k_shape (ws2 := (h0, .inr (8, [.ref q1, .null, .null, .null, .null, .null, .null, .null, .null, .null, .null, .null, .null, .int 0, .int 0, .int 0])) :: (w1)) rfl ?_
  refine k_aload_n C dX8_init_15 rfl (lv_at hl 0 rfl) ?_
  refine k_new (ci := 4) (fs := [.null, .int 0, .int 0]) (ty := tyX4) C rfl uwX4 tyX4_ok (uw_mk 102 (by decide +kernel) rfl) (uw_mk 103 (by decide +kernel) rfl) (uw_mk 58 (by decide +kernel) rfl) (fun j hj => by rcases (show j = 0 ∨ j = 1 ∨ j = 2 by omega) with rfl | rfl | rfl <;> rfl) ⟨Nat.le_of_ble_eq_true rfl, Nat.le_of_ble_eq_true rfl⟩ dX8_init_16 (fun q2 => ?_)
  refine k_widen (kc2 := 4) (ks2 := 96) (Nat.le_of_ble_eq_true rfl) (Nat.le_of_ble_eq_true rfl) ?_
  refine k_dup C dX8_init_19 rfl ?_
  refine k_ctorN (As := []) (rest := [.ref q2, .ref h0]) (q := q2) C hl ⟨⟨"StemmaTree", List.mem_of_getElem? (i := 23) rfl⟩, uw_mk 105 (by decide +kernel) rfl, uw_mk 58 (by decide +kernel) rfl, uw_mk 106 rfl rfl, rfl, ⟨by decide +kernel, by decide +kernel, by decide +kernel⟩⟩ (kX4 l) ⟨Nat.le_of_ble_eq_true rfl, Nat.le_of_ble_eq_true rfl⟩ ⟨Nat.le_of_ble_eq_true rfl, Nat.le_of_ble_eq_true rfl⟩ rfl rfl (Nat.le_of_ble_eq_true rfl) dX8_init_20 (fun w2 b2 => ?_)
  refine k_widen (kc2 := 6) (ks2 := 145) (Nat.le_of_ble_eq_true rfl) (Nat.le_of_ble_eq_true rfl) ?_
  refine k_shape (ws2 := (h0, .inr (8, [.ref q1, .null, .null, .null, .null, .null, .null, .null, .null, .null, .null, .null, .null, .int 0, .int 0, .int 0])) :: (w1 ++ w2)) (by simp only [List.cons_append, List.nil_append, List.append_assoc]) ?_
  refine k_putF (ty := .object "StemmaTree$Readings") (ty0 := tyX8) C hin rfl uwX8 tyX8_ok nmX8 (k := 1) (by decide) (uw_mk 247 (by decide +kernel) rfl) rfl rfl (by decide +kernel) rfl rfl (Nat.le_of_ble_eq_true rfl) dX8_init_23 ?_
  refine k_shape (ws2 := (h0, .inr (8, [.ref q1, .ref q2, .null, .null, .null, .null, .null, .null, .null, .null, .null, .null, .null, .int 0, .int 0, .int 0])) :: (w1 ++ w2)) rfl ?_
  refine k_aload_n C dX8_init_26 rfl (lv_at hl 0 rfl) ?_
  refine k_new (ci := 4) (fs := [.null, .int 0, .int 0]) (ty := tyX4) C rfl uwX4 tyX4_ok (uw_mk 102 (by decide +kernel) rfl) (uw_mk 103 (by decide +kernel) rfl) (uw_mk 58 (by decide +kernel) rfl) (fun j hj => by rcases (show j = 0 ∨ j = 1 ∨ j = 2 by omega) with rfl | rfl | rfl <;> rfl) ⟨Nat.le_of_ble_eq_true rfl, Nat.le_of_ble_eq_true rfl⟩ dX8_init_27 (fun q3 => ?_)
  refine k_widen (kc2 := 7) (ks2 := 148) (Nat.le_of_ble_eq_true rfl) (Nat.le_of_ble_eq_true rfl) ?_
  refine k_dup C dX8_init_30 rfl ?_
  refine k_ctorN (As := []) (rest := [.ref q3, .ref h0]) (q := q3) C hl ⟨⟨"StemmaTree", List.mem_of_getElem? (i := 23) rfl⟩, uw_mk 105 (by decide +kernel) rfl, uw_mk 58 (by decide +kernel) rfl, uw_mk 106 rfl rfl, rfl, ⟨by decide +kernel, by decide +kernel, by decide +kernel⟩⟩ (kX4 l) ⟨Nat.le_of_ble_eq_true rfl, Nat.le_of_ble_eq_true rfl⟩ ⟨Nat.le_of_ble_eq_true rfl, Nat.le_of_ble_eq_true rfl⟩ rfl rfl (Nat.le_of_ble_eq_true rfl) dX8_init_31 (fun w3 b3 => ?_)
  refine k_widen (kc2 := 9) (ks2 := 197) (Nat.le_of_ble_eq_true rfl) (Nat.le_of_ble_eq_true rfl) ?_
  refine k_shape (ws2 := (h0, .inr (8, [.ref q1, .ref q2, .null, .null, .null, .null, .null, .null, .null, .null, .null, .null, .null, .int 0, .int 0, .int 0])) :: (w1 ++ w2 ++ w3)) (by simp only [List.cons_append, List.nil_append, List.append_assoc]) ?_
  refine k_putF (ty := .object "StemmaTree$Readings") (ty0 := tyX8) C hin rfl uwX8 tyX8_ok nmX8 (k := 2) (by decide) (uw_mk 248 (by decide +kernel) rfl) rfl rfl (by decide +kernel) rfl rfl (Nat.le_of_ble_eq_true rfl) dX8_init_34 ?_
  refine k_shape (ws2 := (h0, .inr (8, [.ref q1, .ref q2, .ref q3, .null, .null, .null, .null, .null, .null, .null, .null, .null, .null, .int 0, .int 0, .int 0])) :: (w1 ++ w2 ++ w3)) rfl ?_
  refine k_aload_n C dX8_init_37 rfl (lv_at hl 0 rfl) ?_
  refine k_new (ci := 1) (fs := [.null, .null, .int 0]) (ty := tyX1) C rfl uwX1 tyX1_ok (uw_mk 127 (by decide +kernel) rfl) (uw_mk 128 (by decide +kernel) rfl) (uw_mk 59 (by decide +kernel) rfl) (fun j hj => by rcases (show j = 0 ∨ j = 1 ∨ j = 2 by omega) with rfl | rfl | rfl <;> rfl) ⟨Nat.le_of_ble_eq_true rfl, Nat.le_of_ble_eq_true rfl⟩ dX8_init_38 (fun q4 => ?_)
  refine k_widen (kc2 := 10) (ks2 := 200) (Nat.le_of_ble_eq_true rfl) (Nat.le_of_ble_eq_true rfl) ?_
  refine k_dup C dX8_init_41 rfl ?_
  refine k_ctorN (As := []) (rest := [.ref q4, .ref h0]) (q := q4) C hl ⟨⟨"StemmaTree", List.mem_of_getElem? (i := 24) rfl⟩, uw_mk 130 (by decide +kernel) rfl, uw_mk 59 (by decide +kernel) rfl, uw_mk 131 rfl rfl, rfl, ⟨by decide +kernel, by decide +kernel, by decide +kernel⟩⟩ (kX1 l) ⟨Nat.le_of_ble_eq_true rfl, Nat.le_of_ble_eq_true rfl⟩ ⟨Nat.le_of_ble_eq_true rfl, Nat.le_of_ble_eq_true rfl⟩ rfl rfl (Nat.le_of_ble_eq_true rfl) dX8_init_42 (fun w4 b4 => ?_)
  refine k_widen (kc2 := 14) (ks2 := 222) (Nat.le_of_ble_eq_true rfl) (Nat.le_of_ble_eq_true rfl) ?_
  refine k_shape (ws2 := (h0, .inr (8, [.ref q1, .ref q2, .ref q3, .null, .null, .null, .null, .null, .null, .null, .null, .null, .null, .int 0, .int 0, .int 0])) :: (w1 ++ w2 ++ w3 ++ w4)) (by simp only [List.cons_append, List.nil_append, List.append_assoc]) ?_
  refine k_putF (ty := .object "StemmaTree$Done") (ty0 := tyX8) C hin rfl uwX8 tyX8_ok nmX8 (k := 3) (by decide) (uw_mk 249 (by decide +kernel) rfl) rfl rfl (by decide +kernel) rfl rfl (Nat.le_of_ble_eq_true rfl) dX8_init_45 ?_
  refine k_shape (ws2 := (h0, .inr (8, [.ref q1, .ref q2, .ref q3, .ref q4, .null, .null, .null, .null, .null, .null, .null, .null, .null, .int 0, .int 0, .int 0])) :: (w1 ++ w2 ++ w3 ++ w4)) rfl ?_
  refine k_aload_n C dX8_init_48 rfl (lv_at hl 0 rfl) ?_
  refine k_new (ci := 2) (fs := [.null, .int 0, .int 0]) (ty := tyX2) C rfl uwX2 tyX2_ok (uw_mk 148 (by decide +kernel) rfl) (uw_mk 149 (by decide +kernel) rfl) (uw_mk 60 (by decide +kernel) rfl) (fun j hj => by rcases (show j = 0 ∨ j = 1 ∨ j = 2 by omega) with rfl | rfl | rfl <;> rfl) ⟨Nat.le_of_ble_eq_true rfl, Nat.le_of_ble_eq_true rfl⟩ dX8_init_49 (fun q5 => ?_)
  refine k_widen (kc2 := 15) (ks2 := 225) (Nat.le_of_ble_eq_true rfl) (Nat.le_of_ble_eq_true rfl) ?_
  refine k_dup C dX8_init_52 rfl ?_
  refine k_ctorN (As := []) (rest := [.ref q5, .ref h0]) (q := q5) C hl ⟨⟨"StemmaTree", List.mem_of_getElem? (i := 25) rfl⟩, uw_mk 151 (by decide +kernel) rfl, uw_mk 60 (by decide +kernel) rfl, uw_mk 152 rfl rfl, rfl, ⟨by decide +kernel, by decide +kernel, by decide +kernel⟩⟩ (kX2 l) ⟨Nat.le_of_ble_eq_true rfl, Nat.le_of_ble_eq_true rfl⟩ ⟨Nat.le_of_ble_eq_true rfl, Nat.le_of_ble_eq_true rfl⟩ rfl rfl (Nat.le_of_ble_eq_true rfl) dX8_init_53 (fun w5 b5 => ?_)
  refine k_widen (kc2 := 18) (ks2 := 277) (Nat.le_of_ble_eq_true rfl) (Nat.le_of_ble_eq_true rfl) ?_
  refine k_shape (ws2 := (h0, .inr (8, [.ref q1, .ref q2, .ref q3, .ref q4, .null, .null, .null, .null, .null, .null, .null, .null, .null, .int 0, .int 0, .int 0])) :: (w1 ++ w2 ++ w3 ++ w4 ++ w5)) (by simp only [List.cons_append, List.nil_append, List.append_assoc]) ?_
  refine k_putF (ty := .object "StemmaTree$Image") (ty0 := tyX8) C hin rfl uwX8 tyX8_ok nmX8 (k := 4) (by decide) (uw_mk 250 (by decide +kernel) rfl) rfl rfl (by decide +kernel) rfl rfl (Nat.le_of_ble_eq_true rfl) dX8_init_56 ?_
  refine k_shape (ws2 := (h0, .inr (8, [.ref q1, .ref q2, .ref q3, .ref q4, .ref q5, .null, .null, .null, .null, .null, .null, .null, .null, .int 0, .int 0, .int 0])) :: (w1 ++ w2 ++ w3 ++ w4 ++ w5)) rfl ?_
  refine k_aload_n C dX8_init_59 rfl (lv_at hl 0 rfl) ?_
  refine k_new (ci := 2) (fs := [.null, .int 0, .int 0]) (ty := tyX2) C rfl uwX2 tyX2_ok (uw_mk 148 (by decide +kernel) rfl) (uw_mk 149 (by decide +kernel) rfl) (uw_mk 60 (by decide +kernel) rfl) (fun j hj => by rcases (show j = 0 ∨ j = 1 ∨ j = 2 by omega) with rfl | rfl | rfl <;> rfl) ⟨Nat.le_of_ble_eq_true rfl, Nat.le_of_ble_eq_true rfl⟩ dX8_init_60 (fun q6 => ?_)
  refine k_widen (kc2 := 19) (ks2 := 280) (Nat.le_of_ble_eq_true rfl) (Nat.le_of_ble_eq_true rfl) ?_
  refine k_dup C dX8_init_63 rfl ?_
  refine k_ctorN (As := []) (rest := [.ref q6, .ref h0]) (q := q6) C hl ⟨⟨"StemmaTree", List.mem_of_getElem? (i := 25) rfl⟩, uw_mk 151 (by decide +kernel) rfl, uw_mk 60 (by decide +kernel) rfl, uw_mk 152 rfl rfl, rfl, ⟨by decide +kernel, by decide +kernel, by decide +kernel⟩⟩ (kX2 l) ⟨Nat.le_of_ble_eq_true rfl, Nat.le_of_ble_eq_true rfl⟩ ⟨Nat.le_of_ble_eq_true rfl, Nat.le_of_ble_eq_true rfl⟩ rfl rfl (Nat.le_of_ble_eq_true rfl) dX8_init_64 (fun w6 b6 => ?_)
  refine k_widen (kc2 := 22) (ks2 := 332) (Nat.le_of_ble_eq_true rfl) (Nat.le_of_ble_eq_true rfl) ?_
  refine k_shape (ws2 := (h0, .inr (8, [.ref q1, .ref q2, .ref q3, .ref q4, .ref q5, .null, .null, .null, .null, .null, .null, .null, .null, .int 0, .int 0, .int 0])) :: (w1 ++ w2 ++ w3 ++ w4 ++ w5 ++ w6)) (by simp only [List.cons_append, List.nil_append, List.append_assoc]) ?_
  refine k_putF (ty := .object "StemmaTree$Image") (ty0 := tyX8) C hin rfl uwX8 tyX8_ok nmX8 (k := 5) (by decide) (uw_mk 251 (by decide +kernel) rfl) rfl rfl (by decide +kernel) rfl rfl (Nat.le_of_ble_eq_true rfl) dX8_init_67 ?_
  refine k_shape (ws2 := (h0, .inr (8, [.ref q1, .ref q2, .ref q3, .ref q4, .ref q5, .ref q6, .null, .null, .null, .null, .null, .null, .null, .int 0, .int 0, .int 0])) :: (w1 ++ w2 ++ w3 ++ w4 ++ w5 ++ w6)) rfl ?_
  refine k_aload_n C dX8_init_70 rfl (lv_at hl 0 rfl) ?_
  refine k_new (ci := 5) (fs := [.null]) (ty := tyX5) C rfl uwX5 tyX5_ok (uw_mk 167 (by decide +kernel) rfl) (uw_mk 81 (by decide +kernel) rfl) (uw_mk 56 (by decide +kernel) rfl) (fun j hj => by rcases (show j = 0 by omega) with rfl <;> rfl) ⟨Nat.le_of_ble_eq_true rfl, Nat.le_of_ble_eq_true rfl⟩ dX8_init_71 (fun q7 => ?_)
  refine k_widen (kc2 := 23) (ks2 := 333) (Nat.le_of_ble_eq_true rfl) (Nat.le_of_ble_eq_true rfl) ?_
  refine k_dup C dX8_init_74 rfl ?_
  refine k_bipush (v := 6) C dX8_init_75 (by decide) ?_
  refine k_ctor (As := [.int 6]) (rest := [.ref q7, .ref h0]) (q := q7) C hl ⟨uw_mk 168 (by decide +kernel) rfl, uw_mk 83 (by decide +kernel) rfl, uw_mk 56 (by decide +kernel) rfl, uw_mk 84 rfl rfl, rfl, ⟨by decide +kernel, by decide +kernel, by decide +kernel⟩⟩ (kX5 l 6 (by decide)) ⟨Nat.le_of_ble_eq_true rfl, Nat.le_of_ble_eq_true rfl⟩ ⟨Nat.le_of_ble_eq_true rfl, Nat.le_of_ble_eq_true rfl⟩ rfl rfl (Nat.le_of_ble_eq_true rfl) dX8_init_77 (fun w7 b7 => ?_)
  refine k_widen (kc2 := 24) (ks2 := 339) (Nat.le_of_ble_eq_true rfl) (Nat.le_of_ble_eq_true rfl) ?_
  refine k_shape (ws2 := (h0, .inr (8, [.ref q1, .ref q2, .ref q3, .ref q4, .ref q5, .ref q6, .null, .null, .null, .null, .null, .null, .null, .int 0, .int 0, .int 0])) :: (w1 ++ w2 ++ w3 ++ w4 ++ w5 ++ w6 ++ w7)) (by simp only [List.cons_append, List.nil_append, List.append_assoc]) ?_
  refine k_putF (ty := .object "StemmaTree$Row") (ty0 := tyX8) C hin rfl uwX8 tyX8_ok nmX8 (k := 6) (by decide) (uw_mk 252 (by decide +kernel) rfl) rfl rfl (by decide +kernel) rfl rfl (Nat.le_of_ble_eq_true rfl) dX8_init_80 ?_
  refine k_shape (ws2 := (h0, .inr (8, [.ref q1, .ref q2, .ref q3, .ref q4, .ref q5, .ref q6, .ref q7, .null, .null, .null, .null, .null, .null, .int 0, .int 0, .int 0])) :: (w1 ++ w2 ++ w3 ++ w4 ++ w5 ++ w6 ++ w7)) rfl ?_
  refine k_aload_n C dX8_init_83 rfl (lv_at hl 0 rfl) ?_
  refine k_new (ci := 7) (fs := [.null, .null, .int 0]) (ty := tyX7) C rfl uwX7 tyX7_ok (uw_mk 169 (by decide +kernel) rfl) (uw_mk 170 (by decide +kernel) rfl) (uw_mk 61 (by decide +kernel) rfl) (fun j hj => by rcases (show j = 0 ∨ j = 1 ∨ j = 2 by omega) with rfl | rfl | rfl <;> rfl) ⟨Nat.le_of_ble_eq_true rfl, Nat.le_of_ble_eq_true rfl⟩ dX8_init_84 (fun q8 => ?_)
  refine k_widen (kc2 := 25) (ks2 := 342) (Nat.le_of_ble_eq_true rfl) (Nat.le_of_ble_eq_true rfl) ?_
  refine k_dup C dX8_init_87 rfl ?_
  refine k_ctorN (As := []) (rest := [.ref q8, .ref h0]) (q := q8) C hl ⟨⟨"StemmaTree", List.mem_of_getElem? (i := 27) rfl⟩, uw_mk 172 (by decide +kernel) rfl, uw_mk 61 (by decide +kernel) rfl, uw_mk 173 rfl rfl, rfl, ⟨by decide +kernel, by decide +kernel, by decide +kernel⟩⟩ (kX7 l) ⟨Nat.le_of_ble_eq_true rfl, Nat.le_of_ble_eq_true rfl⟩ ⟨Nat.le_of_ble_eq_true rfl, Nat.le_of_ble_eq_true rfl⟩ rfl rfl (Nat.le_of_ble_eq_true rfl) dX8_init_88 (fun w8 b8 => ?_)
  refine k_widen (kc2 := 29) (ks2 := 362) (Nat.le_of_ble_eq_true rfl) (Nat.le_of_ble_eq_true rfl) ?_
  refine k_shape (ws2 := (h0, .inr (8, [.ref q1, .ref q2, .ref q3, .ref q4, .ref q5, .ref q6, .ref q7, .null, .null, .null, .null, .null, .null, .int 0, .int 0, .int 0])) :: (w1 ++ w2 ++ w3 ++ w4 ++ w5 ++ w6 ++ w7 ++ w8)) (by simp only [List.cons_append, List.nil_append, List.append_assoc]) ?_
  refine k_putF (ty := .object "StemmaTree$Tree") (ty0 := tyX8) C hin rfl uwX8 tyX8_ok nmX8 (k := 7) (by decide) (uw_mk 253 (by decide +kernel) rfl) rfl rfl (by decide +kernel) rfl rfl (Nat.le_of_ble_eq_true rfl) dX8_init_91 ?_
  refine k_shape (ws2 := (h0, .inr (8, [.ref q1, .ref q2, .ref q3, .ref q4, .ref q5, .ref q6, .ref q7, .ref q8, .null, .null, .null, .null, .null, .int 0, .int 0, .int 0])) :: (w1 ++ w2 ++ w3 ++ w4 ++ w5 ++ w6 ++ w7 ++ w8)) rfl ?_
  refine k_aload_n C dX8_init_94 rfl (lv_at hl 0 rfl) ?_
  refine k_new (ci := 0) (fs := [.null, .null, .null, .null, .null, .int 0]) (ty := tyX0) C rfl uwX0 tyX0_ok (uw_mk 191 (by decide +kernel) rfl) (uw_mk 192 (by decide +kernel) rfl) (uw_mk 62 (by decide +kernel) rfl) (fun j hj => by rcases (show j = 0 ∨ j = 1 ∨ j = 2 ∨ j = 3 ∨ j = 4 ∨ j = 5 by omega) with rfl | rfl | rfl | rfl | rfl | rfl <;> rfl) ⟨Nat.le_of_ble_eq_true rfl, Nat.le_of_ble_eq_true rfl⟩ dX8_init_95 (fun q9 => ?_)
  refine k_widen (kc2 := 30) (ks2 := 368) (Nat.le_of_ble_eq_true rfl) (Nat.le_of_ble_eq_true rfl) ?_
  refine k_dup C dX8_init_98 rfl ?_
  refine k_ctorN (As := []) (rest := [.ref q9, .ref h0]) (q := q9) C hl ⟨⟨"StemmaTree", List.mem_of_getElem? (i := 28) rfl⟩, uw_mk 194 (by decide +kernel) rfl, uw_mk 62 (by decide +kernel) rfl, uw_mk 195 rfl rfl, rfl, ⟨by decide +kernel, by decide +kernel, by decide +kernel⟩⟩ (kX0 l) ⟨Nat.le_of_ble_eq_true rfl, Nat.le_of_ble_eq_true rfl⟩ ⟨Nat.le_of_ble_eq_true rfl, Nat.le_of_ble_eq_true rfl⟩ rfl rfl (Nat.le_of_ble_eq_true rfl) dX8_init_99 (fun w9 b9 => ?_)
  refine k_widen (kc2 := 40) (ks2 := 461) (Nat.le_of_ble_eq_true rfl) (Nat.le_of_ble_eq_true rfl) ?_
  refine k_shape (ws2 := (h0, .inr (8, [.ref q1, .ref q2, .ref q3, .ref q4, .ref q5, .ref q6, .ref q7, .ref q8, .null, .null, .null, .null, .null, .int 0, .int 0, .int 0])) :: (w1 ++ w2 ++ w3 ++ w4 ++ w5 ++ w6 ++ w7 ++ w8 ++ w9)) (by simp only [List.cons_append, List.nil_append, List.append_assoc]) ?_
  refine k_putF (ty := .object "StemmaTree$Descent") (ty0 := tyX8) C hin rfl uwX8 tyX8_ok nmX8 (k := 8) (by decide) (uw_mk 254 (by decide +kernel) rfl) rfl rfl (by decide +kernel) rfl rfl (Nat.le_of_ble_eq_true rfl) dX8_init_102 ?_
  refine k_shape (ws2 := (h0, .inr (8, [.ref q1, .ref q2, .ref q3, .ref q4, .ref q5, .ref q6, .ref q7, .ref q8, .ref q9, .null, .null, .null, .null, .int 0, .int 0, .int 0])) :: (w1 ++ w2 ++ w3 ++ w4 ++ w5 ++ w6 ++ w7 ++ w8 ++ w9)) rfl ?_
  refine k_aload_n C dX8_init_105 rfl (lv_at hl 0 rfl) ?_
  refine k_new (ci := 5) (fs := [.null]) (ty := tyX5) C rfl uwX5 tyX5_ok (uw_mk 167 (by decide +kernel) rfl) (uw_mk 81 (by decide +kernel) rfl) (uw_mk 56 (by decide +kernel) rfl) (fun j hj => by rcases (show j = 0 by omega) with rfl <;> rfl) ⟨Nat.le_of_ble_eq_true rfl, Nat.le_of_ble_eq_true rfl⟩ dX8_init_106 (fun q10 => ?_)
  refine k_widen (kc2 := 41) (ks2 := 462) (Nat.le_of_ble_eq_true rfl) (Nat.le_of_ble_eq_true rfl) ?_
  refine k_dup C dX8_init_109 rfl ?_
  refine k_bipush (v := 6) C dX8_init_110 (by decide) ?_
  refine k_ctor (As := [.int 6]) (rest := [.ref q10, .ref h0]) (q := q10) C hl ⟨uw_mk 168 (by decide +kernel) rfl, uw_mk 83 (by decide +kernel) rfl, uw_mk 56 (by decide +kernel) rfl, uw_mk 84 rfl rfl, rfl, ⟨by decide +kernel, by decide +kernel, by decide +kernel⟩⟩ (kX5 l 6 (by decide)) ⟨Nat.le_of_ble_eq_true rfl, Nat.le_of_ble_eq_true rfl⟩ ⟨Nat.le_of_ble_eq_true rfl, Nat.le_of_ble_eq_true rfl⟩ rfl rfl (Nat.le_of_ble_eq_true rfl) dX8_init_112 (fun w10 b10 => ?_)
  refine k_widen (kc2 := 42) (ks2 := 468) (Nat.le_of_ble_eq_true rfl) (Nat.le_of_ble_eq_true rfl) ?_
  refine k_shape (ws2 := (h0, .inr (8, [.ref q1, .ref q2, .ref q3, .ref q4, .ref q5, .ref q6, .ref q7, .ref q8, .ref q9, .null, .null, .null, .null, .int 0, .int 0, .int 0])) :: (w1 ++ w2 ++ w3 ++ w4 ++ w5 ++ w6 ++ w7 ++ w8 ++ w9 ++ w10)) (by simp only [List.cons_append, List.nil_append, List.append_assoc]) ?_
  refine k_putF (ty := .object "StemmaTree$Row") (ty0 := tyX8) C hin rfl uwX8 tyX8_ok nmX8 (k := 9) (by decide) (uw_mk 255 (by decide +kernel) rfl) rfl rfl (by decide +kernel) rfl rfl (Nat.le_of_ble_eq_true rfl) dX8_init_115 ?_
  refine k_shape (ws2 := (h0, .inr (8, [.ref q1, .ref q2, .ref q3, .ref q4, .ref q5, .ref q6, .ref q7, .ref q8, .ref q9, .ref q10, .null, .null, .null, .int 0, .int 0, .int 0])) :: (w1 ++ w2 ++ w3 ++ w4 ++ w5 ++ w6 ++ w7 ++ w8 ++ w9 ++ w10)) rfl ?_
  refine k_aload_n C dX8_init_118 rfl (lv_at hl 0 rfl) ?_
  refine k_new (ci := 5) (fs := [.null]) (ty := tyX5) C rfl uwX5 tyX5_ok (uw_mk 167 (by decide +kernel) rfl) (uw_mk 81 (by decide +kernel) rfl) (uw_mk 56 (by decide +kernel) rfl) (fun j hj => by rcases (show j = 0 by omega) with rfl <;> rfl) ⟨Nat.le_of_ble_eq_true rfl, Nat.le_of_ble_eq_true rfl⟩ dX8_init_119 (fun q11 => ?_)
  refine k_widen (kc2 := 43) (ks2 := 469) (Nat.le_of_ble_eq_true rfl) (Nat.le_of_ble_eq_true rfl) ?_
  refine k_dup C dX8_init_122 rfl ?_
  refine k_bipush (v := 105) C dX8_init_123 (by decide) ?_
  refine k_ctor (As := [.int 105]) (rest := [.ref q11, .ref h0]) (q := q11) C hl ⟨uw_mk 168 (by decide +kernel) rfl, uw_mk 83 (by decide +kernel) rfl, uw_mk 56 (by decide +kernel) rfl, uw_mk 84 rfl rfl, rfl, ⟨by decide +kernel, by decide +kernel, by decide +kernel⟩⟩ (kX5 l 105 (by decide)) ⟨Nat.le_of_ble_eq_true rfl, Nat.le_of_ble_eq_true rfl⟩ ⟨Nat.le_of_ble_eq_true rfl, Nat.le_of_ble_eq_true rfl⟩ rfl rfl (Nat.le_of_ble_eq_true rfl) dX8_init_125 (fun w11 b11 => ?_)
  refine k_widen (kc2 := 44) (ks2 := 574) (Nat.le_of_ble_eq_true rfl) (Nat.le_of_ble_eq_true rfl) ?_
  refine k_shape (ws2 := (h0, .inr (8, [.ref q1, .ref q2, .ref q3, .ref q4, .ref q5, .ref q6, .ref q7, .ref q8, .ref q9, .ref q10, .null, .null, .null, .int 0, .int 0, .int 0])) :: (w1 ++ w2 ++ w3 ++ w4 ++ w5 ++ w6 ++ w7 ++ w8 ++ w9 ++ w10 ++ w11)) (by simp only [List.cons_append, List.nil_append, List.append_assoc]) ?_
  refine k_putF (ty := .object "StemmaTree$Row") (ty0 := tyX8) C hin rfl uwX8 tyX8_ok nmX8 (k := 10) (by decide) (uw_mk 256 (by decide +kernel) rfl) rfl rfl (by decide +kernel) rfl rfl (Nat.le_of_ble_eq_true rfl) dX8_init_128 ?_
  refine k_shape (ws2 := (h0, .inr (8, [.ref q1, .ref q2, .ref q3, .ref q4, .ref q5, .ref q6, .ref q7, .ref q8, .ref q9, .ref q10, .ref q11, .null, .null, .int 0, .int 0, .int 0])) :: (w1 ++ w2 ++ w3 ++ w4 ++ w5 ++ w6 ++ w7 ++ w8 ++ w9 ++ w10 ++ w11)) rfl ?_
  refine k_aload_n C dX8_init_131 rfl (lv_at hl 0 rfl) ?_
  refine k_new (ci := 5) (fs := [.null]) (ty := tyX5) C rfl uwX5 tyX5_ok (uw_mk 167 (by decide +kernel) rfl) (uw_mk 81 (by decide +kernel) rfl) (uw_mk 56 (by decide +kernel) rfl) (fun j hj => by rcases (show j = 0 by omega) with rfl <;> rfl) ⟨Nat.le_of_ble_eq_true rfl, Nat.le_of_ble_eq_true rfl⟩ dX8_init_132 (fun q12 => ?_)
  refine k_widen (kc2 := 45) (ks2 := 575) (Nat.le_of_ble_eq_true rfl) (Nat.le_of_ble_eq_true rfl) ?_
  refine k_dup C dX8_init_135 rfl ?_
  refine k_bipush (v := 49) C dX8_init_136 (by decide) ?_
  refine k_ctor (As := [.int 49]) (rest := [.ref q12, .ref h0]) (q := q12) C hl ⟨uw_mk 168 (by decide +kernel) rfl, uw_mk 83 (by decide +kernel) rfl, uw_mk 56 (by decide +kernel) rfl, uw_mk 84 rfl rfl, rfl, ⟨by decide +kernel, by decide +kernel, by decide +kernel⟩⟩ (kX5 l 49 (by decide)) ⟨Nat.le_of_ble_eq_true rfl, Nat.le_of_ble_eq_true rfl⟩ ⟨Nat.le_of_ble_eq_true rfl, Nat.le_of_ble_eq_true rfl⟩ rfl rfl (Nat.le_of_ble_eq_true rfl) dX8_init_138 (fun w12 b12 => ?_)
  refine k_widen (kc2 := 46) (ks2 := 624) (Nat.le_of_ble_eq_true rfl) (Nat.le_of_ble_eq_true rfl) ?_
  refine k_shape (ws2 := (h0, .inr (8, [.ref q1, .ref q2, .ref q3, .ref q4, .ref q5, .ref q6, .ref q7, .ref q8, .ref q9, .ref q10, .ref q11, .null, .null, .int 0, .int 0, .int 0])) :: (w1 ++ w2 ++ w3 ++ w4 ++ w5 ++ w6 ++ w7 ++ w8 ++ w9 ++ w10 ++ w11 ++ w12)) (by simp only [List.cons_append, List.nil_append, List.append_assoc]) ?_
  refine k_putF (ty := .object "StemmaTree$Row") (ty0 := tyX8) C hin rfl uwX8 tyX8_ok nmX8 (k := 11) (by decide) (uw_mk 257 (by decide +kernel) rfl) rfl rfl (by decide +kernel) rfl rfl (Nat.le_of_ble_eq_true rfl) dX8_init_141 ?_
  refine k_shape (ws2 := (h0, .inr (8, [.ref q1, .ref q2, .ref q3, .ref q4, .ref q5, .ref q6, .ref q7, .ref q8, .ref q9, .ref q10, .ref q11, .ref q12, .null, .int 0, .int 0, .int 0])) :: (w1 ++ w2 ++ w3 ++ w4 ++ w5 ++ w6 ++ w7 ++ w8 ++ w9 ++ w10 ++ w11 ++ w12)) rfl ?_
  refine k_aload_n C dX8_init_144 rfl (lv_at hl 0 rfl) ?_
  refine k_new (ci := 3) (fs := [.null, .int 0, .int 0, .int 0, .int 0]) (ty := tyX3) C rfl uwX3 tyX3_ok (uw_mk 218 (by decide +kernel) rfl) (uw_mk 219 (by decide +kernel) rfl) (uw_mk 63 (by decide +kernel) rfl) (fun j hj => by rcases (show j = 0 ∨ j = 1 ∨ j = 2 ∨ j = 3 ∨ j = 4 by omega) with rfl | rfl | rfl | rfl | rfl <;> rfl) ⟨Nat.le_of_ble_eq_true rfl, Nat.le_of_ble_eq_true rfl⟩ dX8_init_145 (fun q13 => ?_)
  refine k_widen (kc2 := 47) (ks2 := 629) (Nat.le_of_ble_eq_true rfl) (Nat.le_of_ble_eq_true rfl) ?_
  refine k_dup C dX8_init_148 rfl ?_
  refine k_ctorN (As := []) (rest := [.ref q13, .ref h0]) (q := q13) C hl ⟨⟨"StemmaTree", List.mem_of_getElem? (i := 29) rfl⟩, uw_mk 221 (by decide +kernel) rfl, uw_mk 63 (by decide +kernel) rfl, uw_mk 222 rfl rfl, rfl, ⟨by decide +kernel, by decide +kernel, by decide +kernel⟩⟩ (kX3 l) ⟨Nat.le_of_ble_eq_true rfl, Nat.le_of_ble_eq_true rfl⟩ ⟨Nat.le_of_ble_eq_true rfl, Nat.le_of_ble_eq_true rfl⟩ rfl rfl (Nat.le_of_ble_eq_true rfl) dX8_init_149 (fun w13 b13 => ?_)
  refine k_widen (kc2 := 49) (ks2 := 636) (Nat.le_of_ble_eq_true rfl) (Nat.le_of_ble_eq_true rfl) ?_
  refine k_shape (ws2 := (h0, .inr (8, [.ref q1, .ref q2, .ref q3, .ref q4, .ref q5, .ref q6, .ref q7, .ref q8, .ref q9, .ref q10, .ref q11, .ref q12, .null, .int 0, .int 0, .int 0])) :: (w1 ++ w2 ++ w3 ++ w4 ++ w5 ++ w6 ++ w7 ++ w8 ++ w9 ++ w10 ++ w11 ++ w12 ++ w13)) (by simp only [List.cons_append, List.nil_append, List.append_assoc]) ?_
  refine k_putF (ty := .object "StemmaTree$Mix") (ty0 := tyX8) C hin rfl uwX8 tyX8_ok nmX8 (k := 12) (by decide) (uw_mk 258 (by decide +kernel) rfl) rfl rfl (by decide +kernel) rfl rfl (Nat.le_of_ble_eq_true rfl) dX8_init_152 ?_
  refine k_shape (ws2 := (h0, .inr (8, [.ref q1, .ref q2, .ref q3, .ref q4, .ref q5, .ref q6, .ref q7, .ref q8, .ref q9, .ref q10, .ref q11, .ref q12, .ref q13, .int 0, .int 0, .int 0])) :: (w1 ++ w2 ++ w3 ++ w4 ++ w5 ++ w6 ++ w7 ++ w8 ++ w9 ++ w10 ++ w11 ++ w12 ++ w13)) rfl ?_
  exact k_vret C hr hlk ⟨q1, q2, q3, q4, q5, q6, q7, q8, q9, q10, q11, q12, q13, w1, w2, w3, w4, w5, w6, w7, w8, w9, w10, w11, w12, w13, b1, b2, b3, b4, b5, b6, b7, b8, b9, b10, b11, b12, b13, rfl⟩ dX8_init_155

set_option maxRecDepth 100000 in
set_option maxHeartbeats 4000000 in
theorem kX9 (l : Launch) {D : va_G} {cI cZ : ClassId} : KI l D cI cZ yX9_init cX9_init 1 1 12 13 967 [] 9 [.int 0, .int 0, .null, .int 0, .int 0, .null, .int 0, .null, .null, .null, .int 0, .null, .int 0, .int 0, .int 0, .int 0, .int 0, .int 0, .null, .int 0, .int 0, .null, .null, .null, .null, .null, .null] (shM cI cZ) := by
  refine ki_of (own := RX9) (by decide +kernel) rfl rfl (fun _ => Nat.le_of_ble_eq_true rfl) ?_
  intro p e s m args below meth c A h0 C hin hr hlk ls hl
  refine k_aload_n C dX9_init_0 rfl (lv_at hl 0 rfl) ?_
  refine k_obj C hl (uw_mk 647 (by decide +kernel) rfl) (uw_mk 72 (by decide +kernel) rfl) (uw_mk 73 rfl rfl) dX9_init_1 (Nat.le_of_ble_eq_true rfl) (Nat.le_of_ble_eq_true rfl) ?_
  refine k_aload_n C dX9_init_4 rfl (lv_at hl 0 rfl) ?_
  refine k_bipush (v := 49) C dX9_init_5 (by decide) ?_
  refine k_newI (v := 49) (N := 49) C (uw_mk 93 (by decide +kernel) rfl) (by decide) (by decide) (by decide) ⟨Nat.le_of_ble_eq_true rfl, Nat.le_of_ble_eq_true rfl⟩ dX9_init_7 (fun q1 => ?_)
  refine k_widen (kc2 := 1) (ks2 := 49) (Nat.le_of_ble_eq_true rfl) (Nat.le_of_ble_eq_true rfl) ?_
  refine k_shape (ws2 := (h0, .inr (9, [.int 0, .int 0, .null, .int 0, .int 0, .null, .int 0, .null, .null, .null, .int 0, .null, .int 0, .int 0, .int 0, .int 0, .int 0, .int 0, .null, .int 0, .int 0, .null, .null, .null, .null, .null, .null])) :: ([(q1, .inl (cI, 49, .inl (fun _ => 0)))])) (by simp only [List.cons_append, List.nil_append, List.append_assoc]) ?_
  refine k_putF (ty := .array .int) (ty0 := tyX9) C hin rfl uwX9 tyX9_ok nmX9 (k := 2) (by decide) (uw_mk 650 (by decide +kernel) rfl) rfl rfl (by decide +kernel) rfl rfl (Nat.le_of_ble_eq_true rfl) dX9_init_9 ?_
  refine k_shape (ws2 := (h0, .inr (9, [.int 0, .int 0, .ref q1, .int 0, .int 0, .null, .int 0, .null, .null, .null, .int 0, .null, .int 0, .int 0, .int 0, .int 0, .int 0, .int 0, .null, .int 0, .int 0, .null, .null, .null, .null, .null, .null])) :: ([(q1, .inl (cI, 49, .inl (fun _ => 0)))])) rfl ?_
  refine k_aload_n C dX9_init_12 rfl (lv_at hl 0 rfl) ?_
  refine k_sipush (v := 490) C dX9_init_13 (by decide) ?_
  refine k_newI (v := 490) (N := 490) C (uw_mk 93 (by decide +kernel) rfl) (by decide) (by decide) (by decide) ⟨Nat.le_of_ble_eq_true rfl, Nat.le_of_ble_eq_true rfl⟩ dX9_init_16 (fun q2 => ?_)
  refine k_widen (kc2 := 2) (ks2 := 539) (Nat.le_of_ble_eq_true rfl) (Nat.le_of_ble_eq_true rfl) ?_
  refine k_shape (ws2 := (h0, .inr (9, [.int 0, .int 0, .ref q1, .int 0, .int 0, .null, .int 0, .null, .null, .null, .int 0, .null, .int 0, .int 0, .int 0, .int 0, .int 0, .int 0, .null, .int 0, .int 0, .null, .null, .null, .null, .null, .null])) :: ([(q1, .inl (cI, 49, .inl (fun _ => 0)))] ++ [(q2, .inl (cI, 490, .inl (fun _ => 0)))])) (by simp only [List.cons_append, List.nil_append, List.append_assoc]) ?_
  refine k_putF (ty := .array .int) (ty0 := tyX9) C hin rfl uwX9 tyX9_ok nmX9 (k := 5) (by decide) (uw_mk 653 (by decide +kernel) rfl) rfl rfl (by decide +kernel) rfl rfl (Nat.le_of_ble_eq_true rfl) dX9_init_18 ?_
  refine k_shape (ws2 := (h0, .inr (9, [.int 0, .int 0, .ref q1, .int 0, .int 0, .ref q2, .int 0, .null, .null, .null, .int 0, .null, .int 0, .int 0, .int 0, .int 0, .int 0, .int 0, .null, .int 0, .int 0, .null, .null, .null, .null, .null, .null])) :: ([(q1, .inl (cI, 49, .inl (fun _ => 0)))] ++ [(q2, .inl (cI, 490, .inl (fun _ => 0)))])) rfl ?_
  refine k_aload_n C dX9_init_21 rfl (lv_at hl 0 rfl) ?_
  refine k_bipush (v := 6) C dX9_init_22 (by decide) ?_
  refine k_newI (v := 6) (N := 6) C (uw_mk 93 (by decide +kernel) rfl) (by decide) (by decide) (by decide) ⟨Nat.le_of_ble_eq_true rfl, Nat.le_of_ble_eq_true rfl⟩ dX9_init_24 (fun q3 => ?_)
  refine k_widen (kc2 := 3) (ks2 := 545) (Nat.le_of_ble_eq_true rfl) (Nat.le_of_ble_eq_true rfl) ?_
  refine k_shape (ws2 := (h0, .inr (9, [.int 0, .int 0, .ref q1, .int 0, .int 0, .ref q2, .int 0, .null, .null, .null, .int 0, .null, .int 0, .int 0, .int 0, .int 0, .int 0, .int 0, .null, .int 0, .int 0, .null, .null, .null, .null, .null, .null])) :: ([(q1, .inl (cI, 49, .inl (fun _ => 0)))] ++ [(q2, .inl (cI, 490, .inl (fun _ => 0)))] ++ [(q3, .inl (cI, 6, .inl (fun _ => 0)))])) (by simp only [List.cons_append, List.nil_append, List.append_assoc]) ?_
  refine k_putF (ty := .array .int) (ty0 := tyX9) C hin rfl uwX9 tyX9_ok nmX9 (k := 7) (by decide) (uw_mk 655 (by decide +kernel) rfl) rfl rfl (by decide +kernel) rfl rfl (Nat.le_of_ble_eq_true rfl) dX9_init_26 ?_
  refine k_shape (ws2 := (h0, .inr (9, [.int 0, .int 0, .ref q1, .int 0, .int 0, .ref q2, .int 0, .ref q3, .null, .null, .int 0, .null, .int 0, .int 0, .int 0, .int 0, .int 0, .int 0, .null, .int 0, .int 0, .null, .null, .null, .null, .null, .null])) :: ([(q1, .inl (cI, 49, .inl (fun _ => 0)))] ++ [(q2, .inl (cI, 490, .inl (fun _ => 0)))] ++ [(q3, .inl (cI, 6, .inl (fun _ => 0)))])) rfl ?_
  refine k_aload_n C dX9_init_29 rfl (lv_at hl 0 rfl) ?_
  refine k_iconst (v := 2) C dX9_init_30 (by decide) ?_
  refine k_newZ (v := 2) (N := 2) C (uw_mk 730 (by decide +kernel) rfl) (by decide) (by decide) (by decide) ⟨Nat.le_of_ble_eq_true rfl, Nat.le_of_ble_eq_true rfl⟩ dX9_init_31 (fun q4 => ?_)
  refine k_widen (kc2 := 4) (ks2 := 547) (Nat.le_of_ble_eq_true rfl) (Nat.le_of_ble_eq_true rfl) ?_
  refine k_shape (ws2 := (h0, .inr (9, [.int 0, .int 0, .ref q1, .int 0, .int 0, .ref q2, .int 0, .ref q3, .null, .null, .int 0, .null, .int 0, .int 0, .int 0, .int 0, .int 0, .int 0, .null, .int 0, .int 0, .null, .null, .null, .null, .null, .null])) :: ([(q1, .inl (cI, 49, .inl (fun _ => 0)))] ++ [(q2, .inl (cI, 490, .inl (fun _ => 0)))] ++ [(q3, .inl (cI, 6, .inl (fun _ => 0)))] ++ [(q4, .inl (cZ, 2, .inl (fun _ => 0)))])) (by simp only [List.cons_append, List.nil_append, List.append_assoc]) ?_
  refine k_putF (ty := .array .boolean) (ty0 := tyX9) C hin rfl uwX9 tyX9_ok nmX9 (k := 8) (by decide) (uw_mk 656 (by decide +kernel) rfl) rfl rfl (by decide +kernel) rfl rfl (Nat.le_of_ble_eq_true rfl) dX9_init_33 ?_
  refine k_shape (ws2 := (h0, .inr (9, [.int 0, .int 0, .ref q1, .int 0, .int 0, .ref q2, .int 0, .ref q3, .ref q4, .null, .int 0, .null, .int 0, .int 0, .int 0, .int 0, .int 0, .int 0, .null, .int 0, .int 0, .null, .null, .null, .null, .null, .null])) :: ([(q1, .inl (cI, 49, .inl (fun _ => 0)))] ++ [(q2, .inl (cI, 490, .inl (fun _ => 0)))] ++ [(q3, .inl (cI, 6, .inl (fun _ => 0)))] ++ [(q4, .inl (cZ, 2, .inl (fun _ => 0)))])) rfl ?_
  refine k_aload_n C dX9_init_36 rfl (lv_at hl 0 rfl) ?_
  refine k_bipush (v := 98) C dX9_init_37 (by decide) ?_
  refine k_newI (v := 98) (N := 98) C (uw_mk 93 (by decide +kernel) rfl) (by decide) (by decide) (by decide) ⟨Nat.le_of_ble_eq_true rfl, Nat.le_of_ble_eq_true rfl⟩ dX9_init_39 (fun q5 => ?_)
  refine k_widen (kc2 := 5) (ks2 := 645) (Nat.le_of_ble_eq_true rfl) (Nat.le_of_ble_eq_true rfl) ?_
  refine k_shape (ws2 := (h0, .inr (9, [.int 0, .int 0, .ref q1, .int 0, .int 0, .ref q2, .int 0, .ref q3, .ref q4, .null, .int 0, .null, .int 0, .int 0, .int 0, .int 0, .int 0, .int 0, .null, .int 0, .int 0, .null, .null, .null, .null, .null, .null])) :: ([(q1, .inl (cI, 49, .inl (fun _ => 0)))] ++ [(q2, .inl (cI, 490, .inl (fun _ => 0)))] ++ [(q3, .inl (cI, 6, .inl (fun _ => 0)))] ++ [(q4, .inl (cZ, 2, .inl (fun _ => 0)))] ++ [(q5, .inl (cI, 98, .inl (fun _ => 0)))])) (by simp only [List.cons_append, List.nil_append, List.append_assoc]) ?_
  refine k_putF (ty := .array .int) (ty0 := tyX9) C hin rfl uwX9 tyX9_ok nmX9 (k := 9) (by decide) (uw_mk 657 (by decide +kernel) rfl) rfl rfl (by decide +kernel) rfl rfl (Nat.le_of_ble_eq_true rfl) dX9_init_41 ?_
  refine k_shape (ws2 := (h0, .inr (9, [.int 0, .int 0, .ref q1, .int 0, .int 0, .ref q2, .int 0, .ref q3, .ref q4, .ref q5, .int 0, .null, .int 0, .int 0, .int 0, .int 0, .int 0, .int 0, .null, .int 0, .int 0, .null, .null, .null, .null, .null, .null])) :: ([(q1, .inl (cI, 49, .inl (fun _ => 0)))] ++ [(q2, .inl (cI, 490, .inl (fun _ => 0)))] ++ [(q3, .inl (cI, 6, .inl (fun _ => 0)))] ++ [(q4, .inl (cZ, 2, .inl (fun _ => 0)))] ++ [(q5, .inl (cI, 98, .inl (fun _ => 0)))])) rfl ?_
  refine k_aload_n C dX9_init_44 rfl (lv_at hl 0 rfl) ?_
  refine k_bipush (v := 90) C dX9_init_45 (by decide) ?_
  refine k_newI (v := 90) (N := 90) C (uw_mk 93 (by decide +kernel) rfl) (by decide) (by decide) (by decide) ⟨Nat.le_of_ble_eq_true rfl, Nat.le_of_ble_eq_true rfl⟩ dX9_init_47 (fun q6 => ?_)
  refine k_widen (kc2 := 6) (ks2 := 735) (Nat.le_of_ble_eq_true rfl) (Nat.le_of_ble_eq_true rfl) ?_
  refine k_shape (ws2 := (h0, .inr (9, [.int 0, .int 0, .ref q1, .int 0, .int 0, .ref q2, .int 0, .ref q3, .ref q4, .ref q5, .int 0, .null, .int 0, .int 0, .int 0, .int 0, .int 0, .int 0, .null, .int 0, .int 0, .null, .null, .null, .null, .null, .null])) :: ([(q1, .inl (cI, 49, .inl (fun _ => 0)))] ++ [(q2, .inl (cI, 490, .inl (fun _ => 0)))] ++ [(q3, .inl (cI, 6, .inl (fun _ => 0)))] ++ [(q4, .inl (cZ, 2, .inl (fun _ => 0)))] ++ [(q5, .inl (cI, 98, .inl (fun _ => 0)))] ++ [(q6, .inl (cI, 90, .inl (fun _ => 0)))])) (by simp only [List.cons_append, List.nil_append, List.append_assoc]) ?_
  refine k_putF (ty := .array .int) (ty0 := tyX9) C hin rfl uwX9 tyX9_ok nmX9 (k := 11) (by decide) (uw_mk 659 (by decide +kernel) rfl) rfl rfl (by decide +kernel) rfl rfl (Nat.le_of_ble_eq_true rfl) dX9_init_49 ?_
  refine k_shape (ws2 := (h0, .inr (9, [.int 0, .int 0, .ref q1, .int 0, .int 0, .ref q2, .int 0, .ref q3, .ref q4, .ref q5, .int 0, .ref q6, .int 0, .int 0, .int 0, .int 0, .int 0, .int 0, .null, .int 0, .int 0, .null, .null, .null, .null, .null, .null])) :: ([(q1, .inl (cI, 49, .inl (fun _ => 0)))] ++ [(q2, .inl (cI, 490, .inl (fun _ => 0)))] ++ [(q3, .inl (cI, 6, .inl (fun _ => 0)))] ++ [(q4, .inl (cZ, 2, .inl (fun _ => 0)))] ++ [(q5, .inl (cI, 98, .inl (fun _ => 0)))] ++ [(q6, .inl (cI, 90, .inl (fun _ => 0)))])) rfl ?_
  refine k_aload_n C dX9_init_52 rfl (lv_at hl 0 rfl) ?_
  refine k_bipush (v := 48) C dX9_init_53 (by decide) ?_
  refine k_newI (v := 48) (N := 48) C (uw_mk 93 (by decide +kernel) rfl) (by decide) (by decide) (by decide) ⟨Nat.le_of_ble_eq_true rfl, Nat.le_of_ble_eq_true rfl⟩ dX9_init_55 (fun q7 => ?_)
  refine k_widen (kc2 := 7) (ks2 := 783) (Nat.le_of_ble_eq_true rfl) (Nat.le_of_ble_eq_true rfl) ?_
  refine k_shape (ws2 := (h0, .inr (9, [.int 0, .int 0, .ref q1, .int 0, .int 0, .ref q2, .int 0, .ref q3, .ref q4, .ref q5, .int 0, .ref q6, .int 0, .int 0, .int 0, .int 0, .int 0, .int 0, .null, .int 0, .int 0, .null, .null, .null, .null, .null, .null])) :: ([(q1, .inl (cI, 49, .inl (fun _ => 0)))] ++ [(q2, .inl (cI, 490, .inl (fun _ => 0)))] ++ [(q3, .inl (cI, 6, .inl (fun _ => 0)))] ++ [(q4, .inl (cZ, 2, .inl (fun _ => 0)))] ++ [(q5, .inl (cI, 98, .inl (fun _ => 0)))] ++ [(q6, .inl (cI, 90, .inl (fun _ => 0)))] ++ [(q7, .inl (cI, 48, .inl (fun _ => 0)))])) (by simp only [List.cons_append, List.nil_append, List.append_assoc]) ?_
  refine k_putF (ty := .array .int) (ty0 := tyX9) C hin rfl uwX9 tyX9_ok nmX9 (k := 18) (by decide) (uw_mk 666 (by decide +kernel) rfl) rfl rfl (by decide +kernel) rfl rfl (Nat.le_of_ble_eq_true rfl) dX9_init_57 ?_
  refine k_shape (ws2 := (h0, .inr (9, [.int 0, .int 0, .ref q1, .int 0, .int 0, .ref q2, .int 0, .ref q3, .ref q4, .ref q5, .int 0, .ref q6, .int 0, .int 0, .int 0, .int 0, .int 0, .int 0, .ref q7, .int 0, .int 0, .null, .null, .null, .null, .null, .null])) :: ([(q1, .inl (cI, 49, .inl (fun _ => 0)))] ++ [(q2, .inl (cI, 490, .inl (fun _ => 0)))] ++ [(q3, .inl (cI, 6, .inl (fun _ => 0)))] ++ [(q4, .inl (cZ, 2, .inl (fun _ => 0)))] ++ [(q5, .inl (cI, 98, .inl (fun _ => 0)))] ++ [(q6, .inl (cI, 90, .inl (fun _ => 0)))] ++ [(q7, .inl (cI, 48, .inl (fun _ => 0)))])) rfl ?_
  refine k_aload_n C dX9_init_60 rfl (lv_at hl 0 rfl) ?_
  refine k_bipush (v := 10) C dX9_init_61 (by decide) ?_
  refine k_newI (v := 10) (N := 10) C (uw_mk 93 (by decide +kernel) rfl) (by decide) (by decide) (by decide) ⟨Nat.le_of_ble_eq_true rfl, Nat.le_of_ble_eq_true rfl⟩ dX9_init_63 (fun q8 => ?_)
  refine k_widen (kc2 := 8) (ks2 := 793) (Nat.le_of_ble_eq_true rfl) (Nat.le_of_ble_eq_true rfl) ?_
  refine k_shape (ws2 := (h0, .inr (9, [.int 0, .int 0, .ref q1, .int 0, .int 0, .ref q2, .int 0, .ref q3, .ref q4, .ref q5, .int 0, .ref q6, .int 0, .int 0, .int 0, .int 0, .int 0, .int 0, .ref q7, .int 0, .int 0, .null, .null, .null, .null, .null, .null])) :: ([(q1, .inl (cI, 49, .inl (fun _ => 0)))] ++ [(q2, .inl (cI, 490, .inl (fun _ => 0)))] ++ [(q3, .inl (cI, 6, .inl (fun _ => 0)))] ++ [(q4, .inl (cZ, 2, .inl (fun _ => 0)))] ++ [(q5, .inl (cI, 98, .inl (fun _ => 0)))] ++ [(q6, .inl (cI, 90, .inl (fun _ => 0)))] ++ [(q7, .inl (cI, 48, .inl (fun _ => 0)))] ++ [(q8, .inl (cI, 10, .inl (fun _ => 0)))])) (by simp only [List.cons_append, List.nil_append, List.append_assoc]) ?_
  refine k_putF (ty := .array .int) (ty0 := tyX9) C hin rfl uwX9 tyX9_ok nmX9 (k := 21) (by decide) (uw_mk 669 (by decide +kernel) rfl) rfl rfl (by decide +kernel) rfl rfl (Nat.le_of_ble_eq_true rfl) dX9_init_65 ?_
  refine k_shape (ws2 := (h0, .inr (9, [.int 0, .int 0, .ref q1, .int 0, .int 0, .ref q2, .int 0, .ref q3, .ref q4, .ref q5, .int 0, .ref q6, .int 0, .int 0, .int 0, .int 0, .int 0, .int 0, .ref q7, .int 0, .int 0, .ref q8, .null, .null, .null, .null, .null])) :: ([(q1, .inl (cI, 49, .inl (fun _ => 0)))] ++ [(q2, .inl (cI, 490, .inl (fun _ => 0)))] ++ [(q3, .inl (cI, 6, .inl (fun _ => 0)))] ++ [(q4, .inl (cZ, 2, .inl (fun _ => 0)))] ++ [(q5, .inl (cI, 98, .inl (fun _ => 0)))] ++ [(q6, .inl (cI, 90, .inl (fun _ => 0)))] ++ [(q7, .inl (cI, 48, .inl (fun _ => 0)))] ++ [(q8, .inl (cI, 10, .inl (fun _ => 0)))])) rfl ?_
  refine k_aload_n C dX9_init_68 rfl (lv_at hl 0 rfl) ?_
  refine k_bipush (v := 10) C dX9_init_69 (by decide) ?_
  refine k_newI (v := 10) (N := 10) C (uw_mk 93 (by decide +kernel) rfl) (by decide) (by decide) (by decide) ⟨Nat.le_of_ble_eq_true rfl, Nat.le_of_ble_eq_true rfl⟩ dX9_init_71 (fun q9 => ?_)
  refine k_widen (kc2 := 9) (ks2 := 803) (Nat.le_of_ble_eq_true rfl) (Nat.le_of_ble_eq_true rfl) ?_
  refine k_shape (ws2 := (h0, .inr (9, [.int 0, .int 0, .ref q1, .int 0, .int 0, .ref q2, .int 0, .ref q3, .ref q4, .ref q5, .int 0, .ref q6, .int 0, .int 0, .int 0, .int 0, .int 0, .int 0, .ref q7, .int 0, .int 0, .ref q8, .null, .null, .null, .null, .null])) :: ([(q1, .inl (cI, 49, .inl (fun _ => 0)))] ++ [(q2, .inl (cI, 490, .inl (fun _ => 0)))] ++ [(q3, .inl (cI, 6, .inl (fun _ => 0)))] ++ [(q4, .inl (cZ, 2, .inl (fun _ => 0)))] ++ [(q5, .inl (cI, 98, .inl (fun _ => 0)))] ++ [(q6, .inl (cI, 90, .inl (fun _ => 0)))] ++ [(q7, .inl (cI, 48, .inl (fun _ => 0)))] ++ [(q8, .inl (cI, 10, .inl (fun _ => 0)))] ++ [(q9, .inl (cI, 10, .inl (fun _ => 0)))])) (by simp only [List.cons_append, List.nil_append, List.append_assoc]) ?_
  refine k_putF (ty := .array .int) (ty0 := tyX9) C hin rfl uwX9 tyX9_ok nmX9 (k := 22) (by decide) (uw_mk 670 (by decide +kernel) rfl) rfl rfl (by decide +kernel) rfl rfl (Nat.le_of_ble_eq_true rfl) dX9_init_73 ?_
  refine k_shape (ws2 := (h0, .inr (9, [.int 0, .int 0, .ref q1, .int 0, .int 0, .ref q2, .int 0, .ref q3, .ref q4, .ref q5, .int 0, .ref q6, .int 0, .int 0, .int 0, .int 0, .int 0, .int 0, .ref q7, .int 0, .int 0, .ref q8, .ref q9, .null, .null, .null, .null])) :: ([(q1, .inl (cI, 49, .inl (fun _ => 0)))] ++ [(q2, .inl (cI, 490, .inl (fun _ => 0)))] ++ [(q3, .inl (cI, 6, .inl (fun _ => 0)))] ++ [(q4, .inl (cZ, 2, .inl (fun _ => 0)))] ++ [(q5, .inl (cI, 98, .inl (fun _ => 0)))] ++ [(q6, .inl (cI, 90, .inl (fun _ => 0)))] ++ [(q7, .inl (cI, 48, .inl (fun _ => 0)))] ++ [(q8, .inl (cI, 10, .inl (fun _ => 0)))] ++ [(q9, .inl (cI, 10, .inl (fun _ => 0)))])) rfl ?_
  refine k_aload_n C dX9_init_76 rfl (lv_at hl 0 rfl) ?_
  refine k_bipush (v := 44) C dX9_init_77 (by decide) ?_
  refine k_newI (v := 44) (N := 44) C (uw_mk 93 (by decide +kernel) rfl) (by decide) (by decide) (by decide) ⟨Nat.le_of_ble_eq_true rfl, Nat.le_of_ble_eq_true rfl⟩ dX9_init_79 (fun q10 => ?_)
  refine k_widen (kc2 := 10) (ks2 := 847) (Nat.le_of_ble_eq_true rfl) (Nat.le_of_ble_eq_true rfl) ?_
  refine k_shape (ws2 := (h0, .inr (9, [.int 0, .int 0, .ref q1, .int 0, .int 0, .ref q2, .int 0, .ref q3, .ref q4, .ref q5, .int 0, .ref q6, .int 0, .int 0, .int 0, .int 0, .int 0, .int 0, .ref q7, .int 0, .int 0, .ref q8, .ref q9, .null, .null, .null, .null])) :: ([(q1, .inl (cI, 49, .inl (fun _ => 0)))] ++ [(q2, .inl (cI, 490, .inl (fun _ => 0)))] ++ [(q3, .inl (cI, 6, .inl (fun _ => 0)))] ++ [(q4, .inl (cZ, 2, .inl (fun _ => 0)))] ++ [(q5, .inl (cI, 98, .inl (fun _ => 0)))] ++ [(q6, .inl (cI, 90, .inl (fun _ => 0)))] ++ [(q7, .inl (cI, 48, .inl (fun _ => 0)))] ++ [(q8, .inl (cI, 10, .inl (fun _ => 0)))] ++ [(q9, .inl (cI, 10, .inl (fun _ => 0)))] ++ [(q10, .inl (cI, 44, .inl (fun _ => 0)))])) (by simp only [List.cons_append, List.nil_append, List.append_assoc]) ?_
  refine k_putF (ty := .array .int) (ty0 := tyX9) C hin rfl uwX9 tyX9_ok nmX9 (k := 23) (by decide) (uw_mk 671 (by decide +kernel) rfl) rfl rfl (by decide +kernel) rfl rfl (Nat.le_of_ble_eq_true rfl) dX9_init_81 ?_
  refine k_shape (ws2 := (h0, .inr (9, [.int 0, .int 0, .ref q1, .int 0, .int 0, .ref q2, .int 0, .ref q3, .ref q4, .ref q5, .int 0, .ref q6, .int 0, .int 0, .int 0, .int 0, .int 0, .int 0, .ref q7, .int 0, .int 0, .ref q8, .ref q9, .ref q10, .null, .null, .null])) :: ([(q1, .inl (cI, 49, .inl (fun _ => 0)))] ++ [(q2, .inl (cI, 490, .inl (fun _ => 0)))] ++ [(q3, .inl (cI, 6, .inl (fun _ => 0)))] ++ [(q4, .inl (cZ, 2, .inl (fun _ => 0)))] ++ [(q5, .inl (cI, 98, .inl (fun _ => 0)))] ++ [(q6, .inl (cI, 90, .inl (fun _ => 0)))] ++ [(q7, .inl (cI, 48, .inl (fun _ => 0)))] ++ [(q8, .inl (cI, 10, .inl (fun _ => 0)))] ++ [(q9, .inl (cI, 10, .inl (fun _ => 0)))] ++ [(q10, .inl (cI, 44, .inl (fun _ => 0)))])) rfl ?_
  refine k_aload_n C dX9_init_84 rfl (lv_at hl 0 rfl) ?_
  refine k_bipush (v := 10) C dX9_init_85 (by decide) ?_
  refine k_newZ (v := 10) (N := 10) C (uw_mk 730 (by decide +kernel) rfl) (by decide) (by decide) (by decide) ⟨Nat.le_of_ble_eq_true rfl, Nat.le_of_ble_eq_true rfl⟩ dX9_init_87 (fun q11 => ?_)
  refine k_widen (kc2 := 11) (ks2 := 857) (Nat.le_of_ble_eq_true rfl) (Nat.le_of_ble_eq_true rfl) ?_
  refine k_shape (ws2 := (h0, .inr (9, [.int 0, .int 0, .ref q1, .int 0, .int 0, .ref q2, .int 0, .ref q3, .ref q4, .ref q5, .int 0, .ref q6, .int 0, .int 0, .int 0, .int 0, .int 0, .int 0, .ref q7, .int 0, .int 0, .ref q8, .ref q9, .ref q10, .null, .null, .null])) :: ([(q1, .inl (cI, 49, .inl (fun _ => 0)))] ++ [(q2, .inl (cI, 490, .inl (fun _ => 0)))] ++ [(q3, .inl (cI, 6, .inl (fun _ => 0)))] ++ [(q4, .inl (cZ, 2, .inl (fun _ => 0)))] ++ [(q5, .inl (cI, 98, .inl (fun _ => 0)))] ++ [(q6, .inl (cI, 90, .inl (fun _ => 0)))] ++ [(q7, .inl (cI, 48, .inl (fun _ => 0)))] ++ [(q8, .inl (cI, 10, .inl (fun _ => 0)))] ++ [(q9, .inl (cI, 10, .inl (fun _ => 0)))] ++ [(q10, .inl (cI, 44, .inl (fun _ => 0)))] ++ [(q11, .inl (cZ, 10, .inl (fun _ => 0)))])) (by simp only [List.cons_append, List.nil_append, List.append_assoc]) ?_
  refine k_putF (ty := .array .boolean) (ty0 := tyX9) C hin rfl uwX9 tyX9_ok nmX9 (k := 24) (by decide) (uw_mk 672 (by decide +kernel) rfl) rfl rfl (by decide +kernel) rfl rfl (Nat.le_of_ble_eq_true rfl) dX9_init_89 ?_
  refine k_shape (ws2 := (h0, .inr (9, [.int 0, .int 0, .ref q1, .int 0, .int 0, .ref q2, .int 0, .ref q3, .ref q4, .ref q5, .int 0, .ref q6, .int 0, .int 0, .int 0, .int 0, .int 0, .int 0, .ref q7, .int 0, .int 0, .ref q8, .ref q9, .ref q10, .ref q11, .null, .null])) :: ([(q1, .inl (cI, 49, .inl (fun _ => 0)))] ++ [(q2, .inl (cI, 490, .inl (fun _ => 0)))] ++ [(q3, .inl (cI, 6, .inl (fun _ => 0)))] ++ [(q4, .inl (cZ, 2, .inl (fun _ => 0)))] ++ [(q5, .inl (cI, 98, .inl (fun _ => 0)))] ++ [(q6, .inl (cI, 90, .inl (fun _ => 0)))] ++ [(q7, .inl (cI, 48, .inl (fun _ => 0)))] ++ [(q8, .inl (cI, 10, .inl (fun _ => 0)))] ++ [(q9, .inl (cI, 10, .inl (fun _ => 0)))] ++ [(q10, .inl (cI, 44, .inl (fun _ => 0)))] ++ [(q11, .inl (cZ, 10, .inl (fun _ => 0)))])) rfl ?_
  refine k_aload_n C dX9_init_92 rfl (lv_at hl 0 rfl) ?_
  refine k_bipush (v := 105) C dX9_init_93 (by decide) ?_
  refine k_newI (v := 105) (N := 105) C (uw_mk 93 (by decide +kernel) rfl) (by decide) (by decide) (by decide) ⟨Nat.le_of_ble_eq_true rfl, Nat.le_of_ble_eq_true rfl⟩ dX9_init_95 (fun q12 => ?_)
  refine k_widen (kc2 := 12) (ks2 := 962) (Nat.le_of_ble_eq_true rfl) (Nat.le_of_ble_eq_true rfl) ?_
  refine k_shape (ws2 := (h0, .inr (9, [.int 0, .int 0, .ref q1, .int 0, .int 0, .ref q2, .int 0, .ref q3, .ref q4, .ref q5, .int 0, .ref q6, .int 0, .int 0, .int 0, .int 0, .int 0, .int 0, .ref q7, .int 0, .int 0, .ref q8, .ref q9, .ref q10, .ref q11, .null, .null])) :: ([(q1, .inl (cI, 49, .inl (fun _ => 0)))] ++ [(q2, .inl (cI, 490, .inl (fun _ => 0)))] ++ [(q3, .inl (cI, 6, .inl (fun _ => 0)))] ++ [(q4, .inl (cZ, 2, .inl (fun _ => 0)))] ++ [(q5, .inl (cI, 98, .inl (fun _ => 0)))] ++ [(q6, .inl (cI, 90, .inl (fun _ => 0)))] ++ [(q7, .inl (cI, 48, .inl (fun _ => 0)))] ++ [(q8, .inl (cI, 10, .inl (fun _ => 0)))] ++ [(q9, .inl (cI, 10, .inl (fun _ => 0)))] ++ [(q10, .inl (cI, 44, .inl (fun _ => 0)))] ++ [(q11, .inl (cZ, 10, .inl (fun _ => 0)))] ++ [(q12, .inl (cI, 105, .inl (fun _ => 0)))])) (by simp only [List.cons_append, List.nil_append, List.append_assoc]) ?_
  refine k_putF (ty := .array .int) (ty0 := tyX9) C hin rfl uwX9 tyX9_ok nmX9 (k := 25) (by decide) (uw_mk 673 (by decide +kernel) rfl) rfl rfl (by decide +kernel) rfl rfl (Nat.le_of_ble_eq_true rfl) dX9_init_97 ?_
  refine k_shape (ws2 := (h0, .inr (9, [.int 0, .int 0, .ref q1, .int 0, .int 0, .ref q2, .int 0, .ref q3, .ref q4, .ref q5, .int 0, .ref q6, .int 0, .int 0, .int 0, .int 0, .int 0, .int 0, .ref q7, .int 0, .int 0, .ref q8, .ref q9, .ref q10, .ref q11, .ref q12, .null])) :: ([(q1, .inl (cI, 49, .inl (fun _ => 0)))] ++ [(q2, .inl (cI, 490, .inl (fun _ => 0)))] ++ [(q3, .inl (cI, 6, .inl (fun _ => 0)))] ++ [(q4, .inl (cZ, 2, .inl (fun _ => 0)))] ++ [(q5, .inl (cI, 98, .inl (fun _ => 0)))] ++ [(q6, .inl (cI, 90, .inl (fun _ => 0)))] ++ [(q7, .inl (cI, 48, .inl (fun _ => 0)))] ++ [(q8, .inl (cI, 10, .inl (fun _ => 0)))] ++ [(q9, .inl (cI, 10, .inl (fun _ => 0)))] ++ [(q10, .inl (cI, 44, .inl (fun _ => 0)))] ++ [(q11, .inl (cZ, 10, .inl (fun _ => 0)))] ++ [(q12, .inl (cI, 105, .inl (fun _ => 0)))])) rfl ?_
  refine k_aload_n C dX9_init_100 rfl (lv_at hl 0 rfl) ?_
  refine k_iconst (v := 5) C dX9_init_101 (by decide) ?_
  refine k_newI (v := 5) (N := 5) C (uw_mk 93 (by decide +kernel) rfl) (by decide) (by decide) (by decide) ⟨Nat.le_of_ble_eq_true rfl, Nat.le_of_ble_eq_true rfl⟩ dX9_init_102 (fun q13 => ?_)
  refine k_widen (kc2 := 13) (ks2 := 967) (Nat.le_of_ble_eq_true rfl) (Nat.le_of_ble_eq_true rfl) ?_
  refine k_shape (ws2 := (h0, .inr (9, [.int 0, .int 0, .ref q1, .int 0, .int 0, .ref q2, .int 0, .ref q3, .ref q4, .ref q5, .int 0, .ref q6, .int 0, .int 0, .int 0, .int 0, .int 0, .int 0, .ref q7, .int 0, .int 0, .ref q8, .ref q9, .ref q10, .ref q11, .ref q12, .null])) :: ([(q1, .inl (cI, 49, .inl (fun _ => 0)))] ++ [(q2, .inl (cI, 490, .inl (fun _ => 0)))] ++ [(q3, .inl (cI, 6, .inl (fun _ => 0)))] ++ [(q4, .inl (cZ, 2, .inl (fun _ => 0)))] ++ [(q5, .inl (cI, 98, .inl (fun _ => 0)))] ++ [(q6, .inl (cI, 90, .inl (fun _ => 0)))] ++ [(q7, .inl (cI, 48, .inl (fun _ => 0)))] ++ [(q8, .inl (cI, 10, .inl (fun _ => 0)))] ++ [(q9, .inl (cI, 10, .inl (fun _ => 0)))] ++ [(q10, .inl (cI, 44, .inl (fun _ => 0)))] ++ [(q11, .inl (cZ, 10, .inl (fun _ => 0)))] ++ [(q12, .inl (cI, 105, .inl (fun _ => 0)))] ++ [(q13, .inl (cI, 5, .inl (fun _ => 0)))])) (by simp only [List.cons_append, List.nil_append, List.append_assoc]) ?_
  refine k_putF (ty := .array .int) (ty0 := tyX9) C hin rfl uwX9 tyX9_ok nmX9 (k := 26) (by decide) (uw_mk 674 (by decide +kernel) rfl) rfl rfl (by decide +kernel) rfl rfl (Nat.le_of_ble_eq_true rfl) dX9_init_104 ?_
  refine k_shape (ws2 := (h0, .inr (9, [.int 0, .int 0, .ref q1, .int 0, .int 0, .ref q2, .int 0, .ref q3, .ref q4, .ref q5, .int 0, .ref q6, .int 0, .int 0, .int 0, .int 0, .int 0, .int 0, .ref q7, .int 0, .int 0, .ref q8, .ref q9, .ref q10, .ref q11, .ref q12, .ref q13])) :: ([(q1, .inl (cI, 49, .inl (fun _ => 0)))] ++ [(q2, .inl (cI, 490, .inl (fun _ => 0)))] ++ [(q3, .inl (cI, 6, .inl (fun _ => 0)))] ++ [(q4, .inl (cZ, 2, .inl (fun _ => 0)))] ++ [(q5, .inl (cI, 98, .inl (fun _ => 0)))] ++ [(q6, .inl (cI, 90, .inl (fun _ => 0)))] ++ [(q7, .inl (cI, 48, .inl (fun _ => 0)))] ++ [(q8, .inl (cI, 10, .inl (fun _ => 0)))] ++ [(q9, .inl (cI, 10, .inl (fun _ => 0)))] ++ [(q10, .inl (cI, 44, .inl (fun _ => 0)))] ++ [(q11, .inl (cZ, 10, .inl (fun _ => 0)))] ++ [(q12, .inl (cI, 105, .inl (fun _ => 0)))] ++ [(q13, .inl (cI, 5, .inl (fun _ => 0)))])) rfl ?_
  exact k_vret C hr hlk ⟨q1, q2, q3, q4, q5, q6, q7, q8, q9, q10, q11, q12, q13, by simp only [List.cons_append, List.nil_append, List.append_assoc, List.singleton_append]⟩ dX9_init_107

