def R_law : String := "StemmaTreeLaw"
def lw_P (b : Addr) (xs : List Int32) (args : Array Value) (s : State) : Prop := args = #[.ref b] ∧ s.IntsAt b xs ∧ xs.length ≤ 2048 ∧ (Jvm.Cond.and given_1 narrow_1).before args s = true
def lw_Q (_ : Array Value) (s : State) (o : Outcome) (t : State) : Prop := o = .returned (some (.int 1)) ∧ Framed s o t [] 600000 7302250
def lw_Z (below : List Frame) (a : Array Value) (s : State) : State → Prop := fun t => ∃ o, t.status = .running ∧ Ended t below o ∧ lw_Q a s o t
/-- the law's own end, with 1 on the stack, nothing written that was there before, its room as the claim has it -/
theorem lw_ret {p : Program} {l : Launch} {e : Env} {s : State} {m : MethodId} {below : List Frame} {meth : Method} {c : Code} {b : Nat} (hx : p.tables.exec = Jvm.exec) (hb : c.code = code) (hr : meth.sig.returnType = ret) (hlocks : meth.locks = false) {pc : Nat} {H : Heap} {ls : Array Slot} (hdg : decode code pc = .ok (.ireturn, 1)) : W p l e room_1 s m #[Value.ref b] below meth c H [] 600000 7302250 (lw_Z below #[Value.ref b] s) (F0 m pc ls [.int 1]) := by
  intro T hT X
  obtain ⟨fs, hret, hrun, hended, hW, hframe⟩ := X.leave (v := some (.int 1)) (hlocks := hlocks) (fun h => by rw [hr] at h; cases h)
  have hmeth' : T.vm.method? m = some meth := X.method'
  refine ⟨T.setFrames fs, ?_, .returned (some (.int 1)), hrun, hended, rfl, ⟨_, rfl⟩, hW, hframe⟩
  jvm_step X.here [X.here.top, hx, hb, hdg, hmeth', hr, ret, narrow_b1]
  (try refine ⟨rfl, ?_⟩); (try refine ⟨rfl, ?_⟩)
  first | (intro acts; rw [hret _ acts rfl rfl rfl]) | rw [hret _ _ rfl rfl rfl]
  exact Steps.refl _
/-- what holds at the law's entry: the machine, the code, the tables' words (any of lw_tbl by 'hts w (by decide +kernel)'), the script of L ints xs at the cell b, what the Statement gives of the start (any of its parts by flat_of_before) -/
def lw_At (p : Program) (s : State) (m : MethodId) (meth : Method) (c : Code) (b L : Nat) (xs : Nat → Int32) : Prop :=
  p.tables.exec = Jvm.exec ∧ c.code = code ∧ meth.sig.returnType = ret ∧ c.maxLocals = 4 ∧ s.vm.findClass R_law = some m.cls ∧ (∀ w ∈ lw_tbl, w.before #[Value.ref b] s = true) ∧ va_X b L xs s s.heap ∧ b < s.heap.size ∧ meth.locks = false ∧ (Jvm.Cond.and given_1 narrow_1).before #[Value.ref b] s = true

def QL (below : List Frame) (args : Array Value) (s : State) : Int32 → Mem → State → Prop := fun r _ t => r = 1 → lw_Z below args s t
section RLW
variable {p : Program} {l : Launch} {e : Env} {R : Room} {s : State} {m : MethodId} {args : Array Value} {below : List Frame} {meth : Method} {c : Code} {cc : ByteArray} {nL : Nat} {own : String} {ret : Option FieldType} {D : va_G} {cI cZ : ClassId} {ad : Nat → Nat} {tT : Nat} {A : Nat → Prop} {kc ks : Nat} {Q : Int32 → Mem → State → Prop} {o : Option (Int32 × Mem)} {σ : Mem} {pc : Nat} {ls : Array Slot} {rest : List Value}
theorem r_sld (C : CX p s m args meth c cc nL own ret D cI cZ ad tT A) {b L : Nat} {xs : Nat → Int32} (hX : va_X b L xs s s.heap) (hbl : b < s.heap.size) (hbA : ¬ A b) {i : Int32} (hdg : decode cc pc = .ok (.iaload, 1)) (kk : WR p l e R s m args below meth c D cI cZ ad A kc ks Q o σ (F0 m (pc + 1) ls (.int (xs i.toNatClampNeg) :: rest))) : WR p l e R s m args below meth c D cI cZ ad A kc ks Q (gd L i o) σ (F0 m pc ls (.int i :: .ref b :: rest)) := by
  intro r σ' ho H locs hP hS
  obtain ⟨hin, ho⟩ := gd_some ho
  exact va_sld C.1 C.2.1 hX hbl hbA hS hin hdg (kk r σ' ho H locs hP hS)
theorem r_slen (C : CX p s m args meth c cc nL own ret D cI cZ ad tT A) {b L : Nat} {xs : Nat → Int32} (hX : va_X b L xs s s.heap) (hbl : b < s.heap.size) (hbA : ¬ A b) (hdg : decode cc pc = .ok (.arraylength, 1)) (kk : WR p l e R s m args below meth c D cI cZ ad A kc ks Q o σ (F0 m (pc + 1) ls (.int (nI L) :: rest))) : WR p l e R s m args below meth c D cI cZ ad A kc ks Q o σ (F0 m pc ls (.ref b :: rest)) := fun r σ' ho H locs hP hS => va_slen C.1 C.2.1 hX hbl hbA hS hdg (kk r σ' ho H locs hP hS)
theorem r_lret0 (_ : CX p s m args meth c cc nL own ret D cI cZ ad tT A) {g : JFrame} : WR p l e room_1 s m args below meth c D cI cZ ad A 64 1646 (QL below args s) (some (0, σ)) σ g := by
  intro r σ' ho H locs hP hS
  cases ho
  intro T hT X
  exact ⟨_, Steps.refl _, fun h => absurd h (by decide)⟩
theorem r_lret1 (C : CX p s m args meth c code nL own (some .boolean) D cI cZ ad tT A) (hA : ∀ q, A q → s.heap.size ≤ q) {b : Nat} (hargs : args = #[Value.ref b]) (hdg : decode code pc = .ok (.ireturn, 1)) : WR p l e room_1 s m args below meth c D cI cZ ad A 64 1646 (QL below args s) (some (1, σ)) σ (F0 m pc ls [.int 1]) := by
  intro r σ' ho H locs hP hS
  cases ho
  subst hargs
  refine va_forget (fun q hq => hA _ (hS.2.2 q hq)) ?_
  refine W.widen (k := 600000) (n := 7302250) (Nat.le_of_ble_eq_true rfl) (Nat.le_of_ble_eq_true rfl) ?_
  intro T hT X
  obtain ⟨t, a1, b1⟩ := lw_ret (b := b) (ls := ls) C.1 C.2.1 C.2.2.2.2.2.2.2.2.2.2.1 C.2.2.2.2.2.2.2.2.2.2.2 hdg T hT X
  exact ⟨t, a1, fun _ => b1⟩
end RLW
set_option maxRecDepth 20000 in
theorem ml_L_13 : MLV RL 13 yX8_type cX8_type 2 (some .int) 1 := ⟨uw_mk 295 (by decide +kernel) rfl, uw_mk 296 (by decide +kernel) rfl, uw_mk 297 (by decide +kernel) rfl, uw_mk 54 (by decide +kernel) rfl, uw_mk 298 rfl rfl, ⟨by decide +kernel, by decide +kernel, by decide +kernel⟩⟩
set_option maxRecDepth 20000 in
theorem ml_L_17 : MLV RL 17 yX9_type cX9_type 2 (some .int) 1 := ⟨uw_mk 731 (by decide +kernel) rfl, uw_mk 732 (by decide +kernel) rfl, uw_mk 733 (by decide +kernel) rfl, uw_mk 64 (by decide +kernel) rfl, uw_mk 734 rfl rfl, ⟨by decide +kernel, by decide +kernel, by decide +kernel⟩⟩
set_option maxRecDepth 20000 in
theorem ml_L_18 : MLV RL 18 yX8_clear cX8_clear 2 (some .int) 0 := ⟨uw_mk 307 (by decide +kernel) rfl, uw_mk 308 (by decide +kernel) rfl, uw_mk 309 (by decide +kernel) rfl, uw_mk 54 (by decide +kernel) rfl, uw_mk 310 rfl rfl, ⟨by decide +kernel, by decide +kernel, by decide +kernel⟩⟩
set_option maxRecDepth 20000 in
theorem ml_L_22 : MLV RL 22 yX9_clear cX9_clear 2 (some .int) 0 := ⟨uw_mk 738 (by decide +kernel) rfl, uw_mk 739 (by decide +kernel) rfl, uw_mk 740 (by decide +kernel) rfl, uw_mk 64 (by decide +kernel) rfl, uw_mk 741 rfl rfl, ⟨by decide +kernel, by decide +kernel, by decide +kernel⟩⟩
set_option maxRecDepth 20000 in
theorem ml_L_23 : MLV RL 23 yX8_copies cX8_copies 2 (some .int) 0 := ⟨uw_mk 311 (by decide +kernel) rfl, uw_mk 312 (by decide +kernel) rfl, uw_mk 313 (by decide +kernel) rfl, uw_mk 54 (by decide +kernel) rfl, uw_mk 314 rfl rfl, ⟨by decide +kernel, by decide +kernel, by decide +kernel⟩⟩
set_option maxRecDepth 20000 in
theorem ml_L_26 : MLV RL 26 yX9_copies cX9_copies 2 (some .int) 0 := ⟨uw_mk 742 (by decide +kernel) rfl, uw_mk 743 (by decide +kernel) rfl, uw_mk 744 (by decide +kernel) rfl, uw_mk 64 (by decide +kernel) rfl, uw_mk 745 rfl rfl, ⟨by decide +kernel, by decide +kernel, by decide +kernel⟩⟩
set_option maxRecDepth 20000 in
theorem ml_L_27 : MLV RL 27 yX8_reading cX8_reading 4 (some .int) 2 := ⟨uw_mk 351 (by decide +kernel) rfl, uw_mk 352 (by decide +kernel) rfl, uw_mk 353 (by decide +kernel) rfl, uw_mk 54 (by decide +kernel) rfl, uw_mk 354 rfl rfl, ⟨by decide +kernel, by decide +kernel, by decide +kernel⟩⟩
set_option maxRecDepth 20000 in
theorem ml_L_31 : MLV RL 31 yX9_reading cX9_reading 3 (some .int) 2 := ⟨uw_mk 758 (by decide +kernel) rfl, uw_mk 759 (by decide +kernel) rfl, uw_mk 760 (by decide +kernel) rfl, uw_mk 64 (by decide +kernel) rfl, uw_mk 761 rfl rfl, ⟨by decide +kernel, by decide +kernel, by decide +kernel⟩⟩
set_option maxRecDepth 20000 in
theorem ml_L_32 : MLV RL 32 yX8_reads cX8_reads 5 (some .int) 3 := ⟨uw_mk 373 (by decide +kernel) rfl, uw_mk 374 (by decide +kernel) rfl, uw_mk 375 (by decide +kernel) rfl, uw_mk 54 (by decide +kernel) rfl, uw_mk 376 rfl rfl, ⟨by decide +kernel, by decide +kernel, by decide +kernel⟩⟩
set_option maxRecDepth 20000 in
theorem ml_L_36 : MLV RL 36 yX9_reads cX9_reads 4 (some .int) 3 := ⟨uw_mk 863 (by decide +kernel) rfl, uw_mk 864 (by decide +kernel) rfl, uw_mk 865 (by decide +kernel) rfl, uw_mk 64 (by decide +kernel) rfl, uw_mk 866 rfl rfl, ⟨by decide +kernel, by decide +kernel, by decide +kernel⟩⟩
set_option maxRecDepth 20000 in
theorem ml_L_37 : MLV RL 37 yX8_chooses cX8_chooses 3 (some .int) 1 := ⟨uw_mk 389 (by decide +kernel) rfl, uw_mk 390 (by decide +kernel) rfl, uw_mk 391 (by decide +kernel) rfl, uw_mk 54 (by decide +kernel) rfl, uw_mk 392 rfl rfl, ⟨by decide +kernel, by decide +kernel, by decide +kernel⟩⟩
set_option maxRecDepth 20000 in
theorem ml_L_40 : MLV RL 40 yX9_chooses cX9_chooses 2 (some .int) 1 := ⟨uw_mk 875 (by decide +kernel) rfl, uw_mk 876 (by decide +kernel) rfl, uw_mk 877 (by decide +kernel) rfl, uw_mk 64 (by decide +kernel) rfl, uw_mk 878 rfl rfl, ⟨by decide +kernel, by decide +kernel, by decide +kernel⟩⟩
set_option maxRecDepth 20000 in
theorem ml_L_41 : MLV RL 41 yX8_betters cX8_betters 2 (some .int) 0 := ⟨uw_mk 406 (by decide +kernel) rfl, uw_mk 407 (by decide +kernel) rfl, uw_mk 408 (by decide +kernel) rfl, uw_mk 54 (by decide +kernel) rfl, uw_mk 409 rfl rfl, ⟨by decide +kernel, by decide +kernel, by decide +kernel⟩⟩
set_option maxRecDepth 20000 in
theorem ml_L_44 : MLV RL 44 yX9_betters cX9_betters 5 (some .int) 0 := ⟨uw_mk 879 (by decide +kernel) rfl, uw_mk 880 (by decide +kernel) rfl, uw_mk 881 (by decide +kernel) rfl, uw_mk 64 (by decide +kernel) rfl, uw_mk 882 rfl rfl, ⟨by decide +kernel, by decide +kernel, by decide +kernel⟩⟩
set_option maxRecDepth 20000 in
theorem ml_L_45 : MLV RL 45 yX8_undo cX8_undo 3 (some .int) 0 := ⟨uw_mk 489 (by decide +kernel) rfl, uw_mk 490 (by decide +kernel) rfl, uw_mk 491 (by decide +kernel) rfl, uw_mk 54 (by decide +kernel) rfl, uw_mk 492 rfl rfl, ⟨by decide +kernel, by decide +kernel, by decide +kernel⟩⟩
set_option maxRecDepth 20000 in
theorem ml_L_48 : MLV RL 48 yX9_undo cX9_undo 2 (some .int) 0 := ⟨uw_mk 886 (by decide +kernel) rfl, uw_mk 887 (by decide +kernel) rfl, uw_mk 888 (by decide +kernel) rfl, uw_mk 64 (by decide +kernel) rfl, uw_mk 889 rfl rfl, ⟨by decide +kernel, by decide +kernel, by decide +kernel⟩⟩
set_option maxRecDepth 20000 in
theorem ml_L_49 : MLV RL 49 yX8_changes cX8_changes 3 (some .int) 2 := ⟨uw_mk 493 (by decide +kernel) rfl, uw_mk 494 (by decide +kernel) rfl, uw_mk 495 (by decide +kernel) rfl, uw_mk 54 (by decide +kernel) rfl, uw_mk 496 rfl rfl, ⟨by decide +kernel, by decide +kernel, by decide +kernel⟩⟩
set_option maxRecDepth 20000 in
theorem ml_L_52 : MLV RL 52 yX9_changes cX9_changes 3 (some .int) 2 := ⟨uw_mk 774 (by decide +kernel) rfl, uw_mk 775 (by decide +kernel) rfl, uw_mk 776 (by decide +kernel) rfl, uw_mk 64 (by decide +kernel) rfl, uw_mk 777 rfl rfl, ⟨by decide +kernel, by decide +kernel, by decide +kernel⟩⟩
set_option maxRecDepth 20000 in
theorem ml_L_53 : MLV RL 53 yX8_directed cX8_directed 3 (some .int) 2 := ⟨uw_mk 498 (by decide +kernel) rfl, uw_mk 499 (by decide +kernel) rfl, uw_mk 500 (by decide +kernel) rfl, uw_mk 54 (by decide +kernel) rfl, uw_mk 501 rfl rfl, ⟨by decide +kernel, by decide +kernel, by decide +kernel⟩⟩
set_option maxRecDepth 20000 in
theorem ml_L_56 : MLV RL 56 yX9_directed cX9_directed 3 (some .int) 2 := ⟨uw_mk 828 (by decide +kernel) rfl, uw_mk 829 (by decide +kernel) rfl, uw_mk 830 (by decide +kernel) rfl, uw_mk 64 (by decide +kernel) rfl, uw_mk 831 rfl rfl, ⟨by decide +kernel, by decide +kernel, by decide +kernel⟩⟩
set_option maxRecDepth 20000 in
theorem ml_L_57 : MLV RL 57 yX8_root cX8_root 6 (some .int) 1 := ⟨uw_mk 526 (by decide +kernel) rfl, uw_mk 527 (by decide +kernel) rfl, uw_mk 528 (by decide +kernel) rfl, uw_mk 54 (by decide +kernel) rfl, uw_mk 529 rfl rfl, ⟨by decide +kernel, by decide +kernel, by decide +kernel⟩⟩
set_option maxRecDepth 20000 in
theorem ml_L_60 : MLV RL 60 yX9_root cX9_root 6 (some .int) 1 := ⟨uw_mk 840 (by decide +kernel) rfl, uw_mk 841 (by decide +kernel) rfl, uw_mk 842 (by decide +kernel) rfl, uw_mk 64 (by decide +kernel) rfl, uw_mk 843 rfl rfl, ⟨by decide +kernel, by decide +kernel, by decide +kernel⟩⟩
set_option maxRecDepth 20000 in
theorem ml_L_61 : MLV RL 61 yX8_rank cX8_rank 5 (some .int) 1 := ⟨uw_mk 530 (by decide +kernel) rfl, uw_mk 531 (by decide +kernel) rfl, uw_mk 532 (by decide +kernel) rfl, uw_mk 54 (by decide +kernel) rfl, uw_mk 533 rfl rfl, ⟨by decide +kernel, by decide +kernel, by decide +kernel⟩⟩
set_option maxRecDepth 20000 in
theorem ml_L_64 : MLV RL 64 yX9_rank cX9_rank 5 (some .int) 1 := ⟨uw_mk 844 (by decide +kernel) rfl, uw_mk 845 (by decide +kernel) rfl, uw_mk 846 (by decide +kernel) rfl, uw_mk 64 (by decide +kernel) rfl, uw_mk 847 rfl rfl, ⟨by decide +kernel, by decide +kernel, by decide +kernel⟩⟩
set_option maxRecDepth 20000 in
theorem ml_L_65 : MLV RL 65 yX8_best cX8_best 3 (some .int) 1 := ⟨uw_mk 538 (by decide +kernel) rfl, uw_mk 539 (by decide +kernel) rfl, uw_mk 540 (by decide +kernel) rfl, uw_mk 54 (by decide +kernel) rfl, uw_mk 541 rfl rfl, ⟨by decide +kernel, by decide +kernel, by decide +kernel⟩⟩
set_option maxRecDepth 20000 in
theorem ml_L_68 : MLV RL 68 yX9_best cX9_best 5 (some .int) 1 := ⟨uw_mk 852 (by decide +kernel) rfl, uw_mk 853 (by decide +kernel) rfl, uw_mk 854 (by decide +kernel) rfl, uw_mk 64 (by decide +kernel) rfl, uw_mk 855 rfl rfl, ⟨by decide +kernel, by decide +kernel, by decide +kernel⟩⟩
set_option maxRecDepth 20000 in
theorem ml_L_69 : MLV RL 69 yX8_fitting cX8_fitting 6 (some .int) 2 := ⟨uw_mk 551 (by decide +kernel) rfl, uw_mk 552 (by decide +kernel) rfl, uw_mk 553 (by decide +kernel) rfl, uw_mk 54 (by decide +kernel) rfl, uw_mk 554 rfl rfl, ⟨by decide +kernel, by decide +kernel, by decide +kernel⟩⟩
set_option maxRecDepth 20000 in
theorem ml_L_72 : MLV RL 72 yX9_fitting cX9_fitting 7 (some .int) 2 := ⟨uw_mk 890 (by decide +kernel) rfl, uw_mk 891 (by decide +kernel) rfl, uw_mk 892 (by decide +kernel) rfl, uw_mk 64 (by decide +kernel) rfl, uw_mk 893 rfl rfl, ⟨by decide +kernel, by decide +kernel, by decide +kernel⟩⟩
set_option maxRecDepth 20000 in
theorem ml_L_73 : MLV RL 73 yX8_quarrel cX8_quarrel 3 (some .int) 2 := ⟨uw_mk 560 (by decide +kernel) rfl, uw_mk 561 (by decide +kernel) rfl, uw_mk 562 (by decide +kernel) rfl, uw_mk 54 (by decide +kernel) rfl, uw_mk 563 rfl rfl, ⟨by decide +kernel, by decide +kernel, by decide +kernel⟩⟩
set_option maxRecDepth 20000 in
theorem ml_L_76 : MLV RL 76 yX9_quarrel cX9_quarrel 3 (some .int) 2 := ⟨uw_mk 894 (by decide +kernel) rfl, uw_mk 895 (by decide +kernel) rfl, uw_mk 896 (by decide +kernel) rfl, uw_mk 64 (by decide +kernel) rfl, uw_mk 897 rfl rfl, ⟨by decide +kernel, by decide +kernel, by decide +kernel⟩⟩
set_option maxRecDepth 20000 in
theorem ml_L_77 : MLV RL 77 yX8_shared cX8_shared 6 (some .int) 2 := ⟨uw_mk 568 (by decide +kernel) rfl, uw_mk 569 (by decide +kernel) rfl, uw_mk 570 (by decide +kernel) rfl, uw_mk 54 (by decide +kernel) rfl, uw_mk 571 rfl rfl, ⟨by decide +kernel, by decide +kernel, by decide +kernel⟩⟩
set_option maxRecDepth 20000 in
theorem ml_L_80 : MLV RL 80 yX9_shared cX9_shared 5 (some .int) 2 := ⟨uw_mk 906 (by decide +kernel) rfl, uw_mk 907 (by decide +kernel) rfl, uw_mk 908 (by decide +kernel) rfl, uw_mk 64 (by decide +kernel) rfl, uw_mk 909 rfl rfl, ⟨by decide +kernel, by decide +kernel, by decide +kernel⟩⟩
set_option maxRecDepth 20000 in
theorem ml_L_81 : MLV RL 81 yX8_mixed cX8_mixed 3 (some .int) 2 := ⟨uw_mk 572 (by decide +kernel) rfl, uw_mk 573 (by decide +kernel) rfl, uw_mk 574 (by decide +kernel) rfl, uw_mk 54 (by decide +kernel) rfl, uw_mk 575 rfl rfl, ⟨by decide +kernel, by decide +kernel, by decide +kernel⟩⟩
set_option maxRecDepth 20000 in
theorem ml_L_84 : MLV RL 84 yX9_mixed cX9_mixed 9 (some .int) 2 := ⟨uw_mk 910 (by decide +kernel) rfl, uw_mk 911 (by decide +kernel) rfl, uw_mk 912 (by decide +kernel) rfl, uw_mk 64 (by decide +kernel) rfl, uw_mk 913 rfl rfl, ⟨by decide +kernel, by decide +kernel, by decide +kernel⟩⟩
set_option maxRecDepth 20000 in
theorem ml_L_85 : MLV RL 85 yX8_sees cX8_sees 2 (some .int) 1 := ⟨uw_mk 598 (by decide +kernel) rfl, uw_mk 599 (by decide +kernel) rfl, uw_mk 600 (by decide +kernel) rfl, uw_mk 54 (by decide +kernel) rfl, uw_mk 601 rfl rfl, ⟨by decide +kernel, by decide +kernel, by decide +kernel⟩⟩
set_option maxRecDepth 20000 in
theorem ml_L_88 : MLV RL 88 yX9_sees cX9_sees 2 (some .int) 1 := ⟨uw_mk 918 (by decide +kernel) rfl, uw_mk 919 (by decide +kernel) rfl, uw_mk 920 (by decide +kernel) rfl, uw_mk 64 (by decide +kernel) rfl, uw_mk 921 rfl rfl, ⟨by decide +kernel, by decide +kernel, by decide +kernel⟩⟩
set_option maxRecDepth 20000 in
theorem ml_L_89 : MLV RL 89 yX8_forget cX8_forget 2 (some .int) 0 := ⟨uw_mk 602 (by decide +kernel) rfl, uw_mk 603 (by decide +kernel) rfl, uw_mk 604 (by decide +kernel) rfl, uw_mk 54 (by decide +kernel) rfl, uw_mk 605 rfl rfl, ⟨by decide +kernel, by decide +kernel, by decide +kernel⟩⟩
set_option maxRecDepth 20000 in
theorem ml_L_92 : MLV RL 92 yX9_forget cX9_forget 2 (some .int) 0 := ⟨uw_mk 922 (by decide +kernel) rfl, uw_mk 923 (by decide +kernel) rfl, uw_mk 924 (by decide +kernel) rfl, uw_mk 64 (by decide +kernel) rfl, uw_mk 925 rfl rfl, ⟨by decide +kernel, by decide +kernel, by decide +kernel⟩⟩
set_option maxRecDepth 20000 in
theorem ml_L_93 : MLV RL 93 yX8_unseen cX8_unseen 3 (some .int) 0 := ⟨uw_mk 606 (by decide +kernel) rfl, uw_mk 607 (by decide +kernel) rfl, uw_mk 608 (by decide +kernel) rfl, uw_mk 54 (by decide +kernel) rfl, uw_mk 609 rfl rfl, ⟨by decide +kernel, by decide +kernel, by decide +kernel⟩⟩
set_option maxRecDepth 20000 in
theorem ml_L_96 : MLV RL 96 yX9_unseen cX9_unseen 5 (some .int) 0 := ⟨uw_mk 926 (by decide +kernel) rfl, uw_mk 927 (by decide +kernel) rfl, uw_mk 928 (by decide +kernel) rfl, uw_mk 64 (by decide +kernel) rfl, uw_mk 929 rfl rfl, ⟨by decide +kernel, by decide +kernel, by decide +kernel⟩⟩
set_option maxRecDepth 20000 in
theorem ml_L_97 : MLV RL 97 yX8_keep cX8_keep 3 (some .int) 1 := ⟨uw_mk 618 (by decide +kernel) rfl, uw_mk 619 (by decide +kernel) rfl, uw_mk 620 (by decide +kernel) rfl, uw_mk 54 (by decide +kernel) rfl, uw_mk 621 rfl rfl, ⟨by decide +kernel, by decide +kernel, by decide +kernel⟩⟩
set_option maxRecDepth 20000 in
theorem ml_L_100 : MLV RL 100 yX9_keep cX9_keep 3 (some .int) 1 := ⟨uw_mk 934 (by decide +kernel) rfl, uw_mk 935 (by decide +kernel) rfl, uw_mk 936 (by decide +kernel) rfl, uw_mk 64 (by decide +kernel) rfl, uw_mk 937 rfl rfl, ⟨by decide +kernel, by decide +kernel, by decide +kernel⟩⟩
set_option maxRecDepth 20000 in
theorem ml_L_101 : MLV RL 101 yX8_back cX8_back 3 (some .int) 1 := ⟨uw_mk 626 (by decide +kernel) rfl, uw_mk 627 (by decide +kernel) rfl, uw_mk 628 (by decide +kernel) rfl, uw_mk 54 (by decide +kernel) rfl, uw_mk 629 rfl rfl, ⟨by decide +kernel, by decide +kernel, by decide +kernel⟩⟩
set_option maxRecDepth 20000 in
theorem ml_L_104 : MLV RL 104 yX9_back cX9_back 3 (some .int) 1 := ⟨uw_mk 938 (by decide +kernel) rfl, uw_mk 939 (by decide +kernel) rfl, uw_mk 940 (by decide +kernel) rfl, uw_mk 64 (by decide +kernel) rfl, uw_mk 941 rfl rfl, ⟨by decide +kernel, by decide +kernel, by decide +kernel⟩⟩
set_option maxRecDepth 20000 in
theorem ml_L_105 : MLV RL 105 yX8_count cX8_count 2 (some .int) 1 := ⟨uw_mk 630 (by decide +kernel) rfl, uw_mk 631 (by decide +kernel) rfl, uw_mk 632 (by decide +kernel) rfl, uw_mk 54 (by decide +kernel) rfl, uw_mk 633 rfl rfl, ⟨by decide +kernel, by decide +kernel, by decide +kernel⟩⟩
set_option maxRecDepth 20000 in
theorem ml_L_108 : MLV RL 108 yX9_count cX9_count 2 (some .int) 1 := ⟨uw_mk 942 (by decide +kernel) rfl, uw_mk 943 (by decide +kernel) rfl, uw_mk 944 (by decide +kernel) rfl, uw_mk 64 (by decide +kernel) rfl, uw_mk 945 rfl rfl, ⟨by decide +kernel, by decide +kernel, by decide +kernel⟩⟩
set_option maxRecDepth 100000 in
def BL_law_18 (L : Nat) (xs : Nat → Int32) (k705 : Mem → Option (Int32 × Mem)) (rec : Int32 → Mem → Option (Int32 × Mem)) (x3 : Int32) (σ : Mem) : Option (Int32 × Mem) := if ((nI L) - 4 : Int32) < x3 then k705 σ else gd L x3 (letv ((xs x3.toNatClampNeg) &&& 31) (fun v1 => if (v1 : Int32) = 0 then gd L (x3 + 1) (bnd (fX8_type (xs (x3 + 1).toNatClampNeg) σ) (fun r2 σ3 => gd L (x3 + 1) (bnd (fX9_type (xs (x3 + 1).toNatClampNeg) σ3) (fun r4 σ5 => if (r2 : Int32) = r4 then rec (x3 + 4) σ5 else some (0, σ5))))) else if (v1 : Int32) = 1 then bnd (fX8_clear σ) (fun r6 σ7 => bnd (fX9_clear σ7) (fun r8 σ9 => if (r6 : Int32) = r8 then rec (x3 + 4) σ9 else some (0, σ9))) else if (v1 : Int32) = 2 then bnd (fX8_copies σ) (fun r10 σ11 => bnd (fX9_copies σ11) (fun r12 σ13 => if (r10 : Int32) = r12 then rec (x3 + 4) σ13 else some (0, σ13))) else if (v1 : Int32) = 3 then gd L (x3 + 1) (gd L (x3 + 2) (bnd (fX8_reading (xs (x3 + 1).toNatClampNeg) (xs (x3 + 2).toNatClampNeg) σ) (fun r14 σ15 => gd L (x3 + 1) (gd L (x3 + 2) (bnd (fX9_reading (xs (x3 + 1).toNatClampNeg) (xs (x3 + 2).toNatClampNeg) σ15) (fun r16 σ17 => if (r14 : Int32) = r16 then rec (x3 + 4) σ17 else some (0, σ17))))))) else if (v1 : Int32) = 4 then gd L (x3 + 1) (gd L (x3 + 2) (gd L (x3 + 3) (bnd (fX8_reads (xs (x3 + 1).toNatClampNeg) (xs (x3 + 2).toNatClampNeg) (xs (x3 + 3).toNatClampNeg) σ) (fun r18 σ19 => gd L (x3 + 1) (gd L (x3 + 2) (gd L (x3 + 3) (bnd (fX9_reads (xs (x3 + 1).toNatClampNeg) (xs (x3 + 2).toNatClampNeg) (xs (x3 + 3).toNatClampNeg) σ19) (fun r20 σ21 => if (r18 : Int32) = r20 then rec (x3 + 4) σ21 else some (0, σ21))))))))) else if (v1 : Int32) = 5 then gd L (x3 + 1) (bnd (fX8_chooses (xs (x3 + 1).toNatClampNeg) σ) (fun r22 σ23 => gd L (x3 + 1) (bnd (fX9_chooses (xs (x3 + 1).toNatClampNeg) σ23) (fun r24 σ25 => if (r22 : Int32) = r24 then rec (x3 + 4) σ25 else some (0, σ25))))) else if (v1 : Int32) = 6 then bnd (fX8_betters σ) (fun r26 σ27 => bnd (fX9_betters σ27) (fun r28 σ29 => if (r26 : Int32) = r28 then rec (x3 + 4) σ29 else some (0, σ29))) else if (v1 : Int32) = 7 then bnd (fX8_undo σ) (fun r30 σ31 => bnd (fX9_undo σ31) (fun r32 σ33 => if (r30 : Int32) = r32 then rec (x3 + 4) σ33 else some (0, σ33))) else if (v1 : Int32) = 8 then gd L (x3 + 1) (gd L (x3 + 2) (bnd (fX8_changes (xs (x3 + 1).toNatClampNeg) (xs (x3 + 2).toNatClampNeg) σ) (fun r34 σ35 => gd L (x3 + 1) (gd L (x3 + 2) (bnd (fX9_changes (xs (x3 + 1).toNatClampNeg) (xs (x3 + 2).toNatClampNeg) σ35) (fun r36 σ37 => if (r34 : Int32) = r36 then rec (x3 + 4) σ37 else some (0, σ37))))))) else if (v1 : Int32) = 9 then gd L (x3 + 1) (gd L (x3 + 2) (bnd (fX8_directed (xs (x3 + 1).toNatClampNeg) (xs (x3 + 2).toNatClampNeg) σ) (fun r38 σ39 => gd L (x3 + 1) (gd L (x3 + 2) (bnd (fX9_directed (xs (x3 + 1).toNatClampNeg) (xs (x3 + 2).toNatClampNeg) σ39) (fun r40 σ41 => if (r38 : Int32) = r40 then rec (x3 + 4) σ41 else some (0, σ41))))))) else if (v1 : Int32) = 10 then gd L (x3 + 1) (bnd (fX8_root (xs (x3 + 1).toNatClampNeg) σ) (fun r42 σ43 => gd L (x3 + 1) (bnd (fX9_root (xs (x3 + 1).toNatClampNeg) σ43) (fun r44 σ45 => if (r42 : Int32) = r44 then rec (x3 + 4) σ45 else some (0, σ45))))) else if (v1 : Int32) = 11 then gd L (x3 + 1) (bnd (fX8_rank (xs (x3 + 1).toNatClampNeg) σ) (fun r46 σ47 => gd L (x3 + 1) (bnd (fX9_rank (xs (x3 + 1).toNatClampNeg) σ47) (fun r48 σ49 => if (r46 : Int32) = r48 then rec (x3 + 4) σ49 else some (0, σ49))))) else if (v1 : Int32) = 12 then gd L (x3 + 1) (bnd (fX8_best (xs (x3 + 1).toNatClampNeg) σ) (fun r50 σ51 => gd L (x3 + 1) (bnd (fX9_best (xs (x3 + 1).toNatClampNeg) σ51) (fun r52 σ53 => if (r50 : Int32) = r52 then rec (x3 + 4) σ53 else some (0, σ53))))) else if (v1 : Int32) = 13 then gd L (x3 + 1) (gd L (x3 + 2) (bnd (fX8_fitting (xs (x3 + 1).toNatClampNeg) (xs (x3 + 2).toNatClampNeg) σ) (fun r54 σ55 => gd L (x3 + 1) (gd L (x3 + 2) (bnd (fX9_fitting (xs (x3 + 1).toNatClampNeg) (xs (x3 + 2).toNatClampNeg) σ55) (fun r56 σ57 => if (r54 : Int32) = r56 then rec (x3 + 4) σ57 else some (0, σ57))))))) else if (v1 : Int32) = 14 then gd L (x3 + 1) (gd L (x3 + 2) (bnd (fX8_quarrel (xs (x3 + 1).toNatClampNeg) (xs (x3 + 2).toNatClampNeg) σ) (fun r58 σ59 => gd L (x3 + 1) (gd L (x3 + 2) (bnd (fX9_quarrel (xs (x3 + 1).toNatClampNeg) (xs (x3 + 2).toNatClampNeg) σ59) (fun r60 σ61 => if (r58 : Int32) = r60 then rec (x3 + 4) σ61 else some (0, σ61))))))) else if (v1 : Int32) = 15 then gd L (x3 + 1) (gd L (x3 + 2) (bnd (fX8_shared (xs (x3 + 1).toNatClampNeg) (xs (x3 + 2).toNatClampNeg) σ) (fun r62 σ63 => gd L (x3 + 1) (gd L (x3 + 2) (bnd (fX9_shared (xs (x3 + 1).toNatClampNeg) (xs (x3 + 2).toNatClampNeg) σ63) (fun r64 σ65 => if (r62 : Int32) = r64 then rec (x3 + 4) σ65 else some (0, σ65))))))) else if (v1 : Int32) = 16 then gd L (x3 + 1) (gd L (x3 + 2) (bnd (fX8_mixed (xs (x3 + 1).toNatClampNeg) (xs (x3 + 2).toNatClampNeg) σ) (fun r66 σ67 => gd L (x3 + 1) (gd L (x3 + 2) (bnd (fX9_mixed (xs (x3 + 1).toNatClampNeg) (xs (x3 + 2).toNatClampNeg) σ67) (fun r68 σ69 => if (r66 : Int32) = r68 then rec (x3 + 4) σ69 else some (0, σ69))))))) else if (v1 : Int32) = 17 then gd L (x3 + 1) (bnd (fX8_sees (xs (x3 + 1).toNatClampNeg) σ) (fun r70 σ71 => gd L (x3 + 1) (bnd (fX9_sees (xs (x3 + 1).toNatClampNeg) σ71) (fun r72 σ73 => if (r70 : Int32) = r72 then rec (x3 + 4) σ73 else some (0, σ73))))) else if (v1 : Int32) = 18 then bnd (fX8_forget σ) (fun r74 σ75 => bnd (fX9_forget σ75) (fun r76 σ77 => if (r74 : Int32) = r76 then rec (x3 + 4) σ77 else some (0, σ77))) else if (v1 : Int32) = 19 then bnd (fX8_unseen σ) (fun r78 σ79 => bnd (fX9_unseen σ79) (fun r80 σ81 => if (r78 : Int32) = r80 then rec (x3 + 4) σ81 else some (0, σ81))) else if (v1 : Int32) = 20 then gd L (x3 + 1) (bnd (fX8_keep (xs (x3 + 1).toNatClampNeg) σ) (fun r82 σ83 => gd L (x3 + 1) (bnd (fX9_keep (xs (x3 + 1).toNatClampNeg) σ83) (fun r84 σ85 => if (r82 : Int32) = r84 then rec (x3 + 4) σ85 else some (0, σ85))))) else if (v1 : Int32) = 21 then gd L (x3 + 1) (bnd (fX8_back (xs (x3 + 1).toNatClampNeg) σ) (fun r86 σ87 => gd L (x3 + 1) (bnd (fX9_back (xs (x3 + 1).toNatClampNeg) σ87) (fun r88 σ89 => if (r86 : Int32) = r88 then rec (x3 + 4) σ89 else some (0, σ89))))) else if (v1 : Int32) = 22 then gd L (x3 + 1) (bnd (fX8_count (xs (x3 + 1).toNatClampNeg) σ) (fun r90 σ91 => gd L (x3 + 1) (bnd (fX9_count (xs (x3 + 1).toNatClampNeg) σ91) (fun r92 σ93 => if (r90 : Int32) = r92 then rec (x3 + 4) σ93 else some (0, σ93))))) else rec (x3 + 4) σ))
def LL_law_18 (L : Nat) (xs : Nat → Int32) (k705 : Mem → Option (Int32 × Mem)) : Nat → Int32 → Mem → Option (Int32 × Mem)
  | 0 => fun _ _ => none
  | n + 1 => BL_law_18 L xs k705 (LL_law_18 L xs k705 n)
set_option maxRecDepth 100000 in
set_option maxHeartbeats 4000000 in
theorem wL_law_18 {p : Program} {l : Launch} {e : Env} {s : State} {m : MethodId} {args : Array Value} {below : List Frame} {meth : Method} {c : Code} {D : va_G} {cI cZ : ClassId} {ad : Nat → Nat} {tT : Nat} {A : Nat → Prop} {b : Nat} (L : Nat) (xs : Nat → Int32) (hX : va_X b L xs s s.heap) (hbl : b < s.heap.size) (hbA : ¬ A b) (C : CX p s m args meth c cL_law 4 RL (some .boolean) D cI cZ ad tT A) (hA : ∀ q, A q → s.heap.size ≤ q) (hargs : args = #[Value.ref b]) (k705 : Mem → Option (Int32 × Mem)) (hk705 : ∀ (σ : Mem) (ls : Array Slot), lv_has ls 4 [] → WR p l e room_1 s m args below meth c D cI cZ ad A 64 1646 (QL below args s) (k705 σ) σ (F0 m 705 ls [])) :
    ∀ (n0 : Nat), ∀ (x3 : Int32) (σ : Mem) (ls : Array Slot), lv_has ls 4 [(0, .ref b), (1, .ref (ad 0)), (2, .ref (ad 50)), (3, .int x3)] → WR p l e room_1 s m args below meth c D cI cZ ad A 64 1646 (QL below args s) (LL_law_18 L xs k705 n0 x3 σ) σ (F0 m 18 ls []) := by
  intro n0
  induction n0 with
  | zero => intro x3 σ ls hl; exact r_none
  | succ n0 ih =>
    intro x3 σ ls hl
    show WR p l e room_1 s m args below meth c D cI cZ ad A 64 1646 (QL below args s) (BL_law_18 L xs k705 (LL_law_18 L xs k705 n0) x3 σ) σ (F0 m 18 ls [])
    unfold BL_law_18
    refine r_iload_n C dL_law_18 rfl (lv_at hl 3 rfl) ?_
    refine r_aload_n C dL_law_19 rfl (lv_at hl 0 rfl) ?_
    refine r_slen C hX hbl hbA dL_law_20 ?_
    refine r_iconst (v := 4) C dL_law_21 (by decide) ?_
    refine r_isub C dL_law_22 ?_
    refine r_icmp_gt (tgt := 705) C dL_law_23 (by decide) ?_ ?_
    · exact hk705 σ ls (lv_sub hl [] rfl)
    · refine r_aload_n C dL_law_26 rfl (lv_at hl 0 rfl) ?_
      refine r_iload_n C dL_law_27 rfl (lv_at hl 3 rfl) ?_
      refine r_sld C hX hbl hbA dL_law_28 ?_
      refine r_bipush (v := 31) C dL_law_29 (by decide) ?_
      refine r_iand C dL_law_31 ?_
      refine r_letv (fun v1 => ?_)
      refine r_split (fun c0 => ?_) (fun c0 => ?_)
      · refine r_tableIn (off := 108) (tgt := 140) C dL_law_32 (by rw [c0]; decide) (by rw [c0]; decide) (by rw [c0]; rfl) (by decide) ?_
        refine r_aload_n C dL_law_140 rfl (lv_at hl 1 rfl) ?_
        refine r_aload_n C dL_law_141 rfl (lv_at hl 0 rfl) ?_
        refine r_iload_n C dL_law_142 rfl (lv_at hl 3 rfl) ?_
        refine r_iconst (v := 1) C dL_law_143 (by decide) ?_
        refine r_iadd C dL_law_144 ?_
        refine r_sld C hX hbl hbA dL_law_145 ?_
        refine r_callVi (As := [.int (xs (x3 + 1).toNatClampNeg)]) (rest := []) C hl ml_L_13 rc_0 (gX8_type l C.inj (xs (x3 + 1).toNatClampNeg) σ) ⟨Nat.le_of_ble_eq_true rfl, Nat.le_of_ble_eq_true rfl⟩ ⟨Nat.le_of_ble_eq_true rfl, Nat.le_of_ble_eq_true rfl⟩ rfl rfl (Nat.le_of_ble_eq_true rfl) dL_law_146 (fun r2 σ3 => ?_)
        refine r_aload_n C dL_law_149 rfl (lv_at hl 2 rfl) ?_
        refine r_aload_n C dL_law_150 rfl (lv_at hl 0 rfl) ?_
        refine r_iload_n C dL_law_151 rfl (lv_at hl 3 rfl) ?_
        refine r_iconst (v := 1) C dL_law_152 (by decide) ?_
        refine r_iadd C dL_law_153 ?_
        refine r_sld C hX hbl hbA dL_law_154 ?_
        refine r_callVi (As := [.int (xs (x3 + 1).toNatClampNeg)]) (rest := [.int r2]) C hl ml_L_17 rc_50 (gX9_type l C.inj (xs (x3 + 1).toNatClampNeg) σ3) ⟨Nat.le_of_ble_eq_true rfl, Nat.le_of_ble_eq_true rfl⟩ ⟨Nat.le_of_ble_eq_true rfl, Nat.le_of_ble_eq_true rfl⟩ rfl rfl (Nat.le_of_ble_eq_true rfl) dL_law_155 (fun r4 σ5 => ?_)
        refine r_icmp_eq (tgt := 699) C dL_law_158 (by decide) ?_ ?_
        · refine r_iinc (v := x3 + 4) (lv' := [(3, .int (x3 + 4)), (0, .ref b), (1, .ref (ad 0)), (2, .ref (ad 50))]) C dL_law_699 hl (k := 3) rfl rfl (by decide) rfl (fun ls hl => ?_)
          refine r_goto (tgt := 18) C dL_law_702 (by decide) ?_
          exact ih (x3 + 4) σ5 ls (lv_sub hl [1, 2, 3, 0] rfl)
        · refine r_iconst (v := 0) C dL_law_161 (by decide) ?_
          exact r_lret0 C 
      · refine r_split (fun c1 => ?_) (fun c1 => ?_)
        · refine r_tableIn (off := 131) (tgt := 163) C dL_law_32 (by rw [c1]; decide) (by rw [c1]; decide) (by rw [c1]; rfl) (by decide) ?_
          refine r_aload_n C dL_law_163 rfl (lv_at hl 1 rfl) ?_
          refine r_callVi (As := []) (rest := []) C hl ml_L_18 rc_0 (gX8_clear l C.inj σ) ⟨Nat.le_of_ble_eq_true rfl, Nat.le_of_ble_eq_true rfl⟩ ⟨Nat.le_of_ble_eq_true rfl, Nat.le_of_ble_eq_true rfl⟩ rfl rfl (Nat.le_of_ble_eq_true rfl) dL_law_164 (fun r6 σ7 => ?_)
          refine r_aload_n C dL_law_167 rfl (lv_at hl 2 rfl) ?_
          refine r_callVi (As := []) (rest := [.int r6]) C hl ml_L_22 rc_50 (gX9_clear l C.inj σ7) ⟨Nat.le_of_ble_eq_true rfl, Nat.le_of_ble_eq_true rfl⟩ ⟨Nat.le_of_ble_eq_true rfl, Nat.le_of_ble_eq_true rfl⟩ rfl rfl (Nat.le_of_ble_eq_true rfl) dL_law_168 (fun r8 σ9 => ?_)
          refine r_icmp_eq (tgt := 699) C dL_law_171 (by decide) ?_ ?_
          · refine r_iinc (v := x3 + 4) (lv' := [(3, .int (x3 + 4)), (0, .ref b), (1, .ref (ad 0)), (2, .ref (ad 50))]) C dL_law_699 hl (k := 3) rfl rfl (by decide) rfl (fun ls hl => ?_)
            refine r_goto (tgt := 18) C dL_law_702 (by decide) ?_
            exact ih (x3 + 4) σ9 ls (lv_sub hl [1, 2, 3, 0] rfl)
          · refine r_iconst (v := 0) C dL_law_174 (by decide) ?_
            exact r_lret0 C 
        · refine r_split (fun c2 => ?_) (fun c2 => ?_)
          · refine r_tableIn (off := 144) (tgt := 176) C dL_law_32 (by rw [c2]; decide) (by rw [c2]; decide) (by rw [c2]; rfl) (by decide) ?_
            refine r_aload_n C dL_law_176 rfl (lv_at hl 1 rfl) ?_
            refine r_callVi (As := []) (rest := []) C hl ml_L_23 rc_0 (gX8_copies l C.inj σ) ⟨Nat.le_of_ble_eq_true rfl, Nat.le_of_ble_eq_true rfl⟩ ⟨Nat.le_of_ble_eq_true rfl, Nat.le_of_ble_eq_true rfl⟩ rfl rfl (Nat.le_of_ble_eq_true rfl) dL_law_177 (fun r10 σ11 => ?_)
            refine r_aload_n C dL_law_180 rfl (lv_at hl 2 rfl) ?_
            refine r_callVi (As := []) (rest := [.int r10]) C hl ml_L_26 rc_50 (gX9_copies l C.inj σ11) ⟨Nat.le_of_ble_eq_true rfl, Nat.le_of_ble_eq_true rfl⟩ ⟨Nat.le_of_ble_eq_true rfl, Nat.le_of_ble_eq_true rfl⟩ rfl rfl (Nat.le_of_ble_eq_true rfl) dL_law_181 (fun r12 σ13 => ?_)
            refine r_icmp_eq (tgt := 699) C dL_law_184 (by decide) ?_ ?_
            · refine r_iinc (v := x3 + 4) (lv' := [(3, .int (x3 + 4)), (0, .ref b), (1, .ref (ad 0)), (2, .ref (ad 50))]) C dL_law_699 hl (k := 3) rfl rfl (by decide) rfl (fun ls hl => ?_)
              refine r_goto (tgt := 18) C dL_law_702 (by decide) ?_
              exact ih (x3 + 4) σ13 ls (lv_sub hl [1, 2, 3, 0] rfl)
            · refine r_iconst (v := 0) C dL_law_187 (by decide) ?_
              exact r_lret0 C 
          · refine r_split (fun c3 => ?_) (fun c3 => ?_)
            · refine r_tableIn (off := 157) (tgt := 189) C dL_law_32 (by rw [c3]; decide) (by rw [c3]; decide) (by rw [c3]; rfl) (by decide) ?_
              refine r_aload_n C dL_law_189 rfl (lv_at hl 1 rfl) ?_
              refine r_aload_n C dL_law_190 rfl (lv_at hl 0 rfl) ?_
              refine r_iload_n C dL_law_191 rfl (lv_at hl 3 rfl) ?_
              refine r_iconst (v := 1) C dL_law_192 (by decide) ?_
              refine r_iadd C dL_law_193 ?_
              refine r_sld C hX hbl hbA dL_law_194 ?_
              refine r_aload_n C dL_law_195 rfl (lv_at hl 0 rfl) ?_
              refine r_iload_n C dL_law_196 rfl (lv_at hl 3 rfl) ?_
              refine r_iconst (v := 2) C dL_law_197 (by decide) ?_
              refine r_iadd C dL_law_198 ?_
              refine r_sld C hX hbl hbA dL_law_199 ?_
              refine r_callVi (As := [.int (xs (x3 + 1).toNatClampNeg), .int (xs (x3 + 2).toNatClampNeg)]) (rest := []) C hl ml_L_27 rc_0 (gX8_reading l C.inj (xs (x3 + 1).toNatClampNeg) (xs (x3 + 2).toNatClampNeg) σ) ⟨Nat.le_of_ble_eq_true rfl, Nat.le_of_ble_eq_true rfl⟩ ⟨Nat.le_of_ble_eq_true rfl, Nat.le_of_ble_eq_true rfl⟩ rfl rfl (Nat.le_of_ble_eq_true rfl) dL_law_200 (fun r14 σ15 => ?_)
              refine r_aload_n C dL_law_203 rfl (lv_at hl 2 rfl) ?_
              refine r_aload_n C dL_law_204 rfl (lv_at hl 0 rfl) ?_
              refine r_iload_n C dL_law_205 rfl (lv_at hl 3 rfl) ?_
              refine r_iconst (v := 1) C dL_law_206 (by decide) ?_
              refine r_iadd C dL_law_207 ?_
              refine r_sld C hX hbl hbA dL_law_208 ?_
              refine r_aload_n C dL_law_209 rfl (lv_at hl 0 rfl) ?_
              refine r_iload_n C dL_law_210 rfl (lv_at hl 3 rfl) ?_
              refine r_iconst (v := 2) C dL_law_211 (by decide) ?_
              refine r_iadd C dL_law_212 ?_
              refine r_sld C hX hbl hbA dL_law_213 ?_
              refine r_callVi (As := [.int (xs (x3 + 1).toNatClampNeg), .int (xs (x3 + 2).toNatClampNeg)]) (rest := [.int r14]) C hl ml_L_31 rc_50 (gX9_reading l C.inj (xs (x3 + 1).toNatClampNeg) (xs (x3 + 2).toNatClampNeg) σ15) ⟨Nat.le_of_ble_eq_true rfl, Nat.le_of_ble_eq_true rfl⟩ ⟨Nat.le_of_ble_eq_true rfl, Nat.le_of_ble_eq_true rfl⟩ rfl rfl (Nat.le_of_ble_eq_true rfl) dL_law_214 (fun r16 σ17 => ?_)
              refine r_icmp_eq (tgt := 699) C dL_law_217 (by decide) ?_ ?_
              · refine r_iinc (v := x3 + 4) (lv' := [(3, .int (x3 + 4)), (0, .ref b), (1, .ref (ad 0)), (2, .ref (ad 50))]) C dL_law_699 hl (k := 3) rfl rfl (by decide) rfl (fun ls hl => ?_)
                refine r_goto (tgt := 18) C dL_law_702 (by decide) ?_
                exact ih (x3 + 4) σ17 ls (lv_sub hl [1, 2, 3, 0] rfl)
              · refine r_iconst (v := 0) C dL_law_220 (by decide) ?_
                exact r_lret0 C 
            · refine r_split (fun c4 => ?_) (fun c4 => ?_)
              · refine r_tableIn (off := 190) (tgt := 222) C dL_law_32 (by rw [c4]; decide) (by rw [c4]; decide) (by rw [c4]; rfl) (by decide) ?_
                refine r_aload_n C dL_law_222 rfl (lv_at hl 1 rfl) ?_
                refine r_aload_n C dL_law_223 rfl (lv_at hl 0 rfl) ?_
                refine r_iload_n C dL_law_224 rfl (lv_at hl 3 rfl) ?_
                refine r_iconst (v := 1) C dL_law_225 (by decide) ?_
                refine r_iadd C dL_law_226 ?_
                refine r_sld C hX hbl hbA dL_law_227 ?_
                refine r_aload_n C dL_law_228 rfl (lv_at hl 0 rfl) ?_
                refine r_iload_n C dL_law_229 rfl (lv_at hl 3 rfl) ?_
                refine r_iconst (v := 2) C dL_law_230 (by decide) ?_
                refine r_iadd C dL_law_231 ?_
                refine r_sld C hX hbl hbA dL_law_232 ?_
                refine r_aload_n C dL_law_233 rfl (lv_at hl 0 rfl) ?_
                refine r_iload_n C dL_law_234 rfl (lv_at hl 3 rfl) ?_
                refine r_iconst (v := 3) C dL_law_235 (by decide) ?_
                refine r_iadd C dL_law_236 ?_
                refine r_sld C hX hbl hbA dL_law_237 ?_
                refine r_callVi (As := [.int (xs (x3 + 1).toNatClampNeg), .int (xs (x3 + 2).toNatClampNeg), .int (xs (x3 + 3).toNatClampNeg)]) (rest := []) C hl ml_L_32 rc_0 (gX8_reads l C.inj (xs (x3 + 1).toNatClampNeg) (xs (x3 + 2).toNatClampNeg) (xs (x3 + 3).toNatClampNeg) σ) ⟨Nat.le_of_ble_eq_true rfl, Nat.le_of_ble_eq_true rfl⟩ ⟨Nat.le_of_ble_eq_true rfl, Nat.le_of_ble_eq_true rfl⟩ rfl rfl (Nat.le_of_ble_eq_true rfl) dL_law_238 (fun r18 σ19 => ?_)
                refine r_aload_n C dL_law_241 rfl (lv_at hl 2 rfl) ?_
                refine r_aload_n C dL_law_242 rfl (lv_at hl 0 rfl) ?_
                refine r_iload_n C dL_law_243 rfl (lv_at hl 3 rfl) ?_
                refine r_iconst (v := 1) C dL_law_244 (by decide) ?_
                refine r_iadd C dL_law_245 ?_
                refine r_sld C hX hbl hbA dL_law_246 ?_
                refine r_aload_n C dL_law_247 rfl (lv_at hl 0 rfl) ?_
                refine r_iload_n C dL_law_248 rfl (lv_at hl 3 rfl) ?_
                refine r_iconst (v := 2) C dL_law_249 (by decide) ?_
                refine r_iadd C dL_law_250 ?_
                refine r_sld C hX hbl hbA dL_law_251 ?_
                refine r_aload_n C dL_law_252 rfl (lv_at hl 0 rfl) ?_
                refine r_iload_n C dL_law_253 rfl (lv_at hl 3 rfl) ?_
                refine r_iconst (v := 3) C dL_law_254 (by decide) ?_
                refine r_iadd C dL_law_255 ?_
                refine r_sld C hX hbl hbA dL_law_256 ?_
                refine r_callVi (As := [.int (xs (x3 + 1).toNatClampNeg), .int (xs (x3 + 2).toNatClampNeg), .int (xs (x3 + 3).toNatClampNeg)]) (rest := [.int r18]) C hl ml_L_36 rc_50 (gX9_reads l C.inj (xs (x3 + 1).toNatClampNeg) (xs (x3 + 2).toNatClampNeg) (xs (x3 + 3).toNatClampNeg) σ19) ⟨Nat.le_of_ble_eq_true rfl, Nat.le_of_ble_eq_true rfl⟩ ⟨Nat.le_of_ble_eq_true rfl, Nat.le_of_ble_eq_true rfl⟩ rfl rfl (Nat.le_of_ble_eq_true rfl) dL_law_257 (fun r20 σ21 => ?_)
                refine r_icmp_eq (tgt := 699) C dL_law_260 (by decide) ?_ ?_
                · refine r_iinc (v := x3 + 4) (lv' := [(3, .int (x3 + 4)), (0, .ref b), (1, .ref (ad 0)), (2, .ref (ad 50))]) C dL_law_699 hl (k := 3) rfl rfl (by decide) rfl (fun ls hl => ?_)
                  refine r_goto (tgt := 18) C dL_law_702 (by decide) ?_
                  exact ih (x3 + 4) σ21 ls (lv_sub hl [1, 2, 3, 0] rfl)
                · refine r_iconst (v := 0) C dL_law_263 (by decide) ?_
                  exact r_lret0 C 
              · refine r_split (fun c5 => ?_) (fun c5 => ?_)
                · refine r_tableIn (off := 233) (tgt := 265) C dL_law_32 (by rw [c5]; decide) (by rw [c5]; decide) (by rw [c5]; rfl) (by decide) ?_
                  refine r_aload_n C dL_law_265 rfl (lv_at hl 1 rfl) ?_
                  refine r_aload_n C dL_law_266 rfl (lv_at hl 0 rfl) ?_
                  refine r_iload_n C dL_law_267 rfl (lv_at hl 3 rfl) ?_
                  refine r_iconst (v := 1) C dL_law_268 (by decide) ?_
                  refine r_iadd C dL_law_269 ?_
                  refine r_sld C hX hbl hbA dL_law_270 ?_
                  refine r_callVi (As := [.int (xs (x3 + 1).toNatClampNeg)]) (rest := []) C hl ml_L_37 rc_0 (gX8_chooses l C.inj (xs (x3 + 1).toNatClampNeg) σ) ⟨Nat.le_of_ble_eq_true rfl, Nat.le_of_ble_eq_true rfl⟩ ⟨Nat.le_of_ble_eq_true rfl, Nat.le_of_ble_eq_true rfl⟩ rfl rfl (Nat.le_of_ble_eq_true rfl) dL_law_271 (fun r22 σ23 => ?_)
                  refine r_aload_n C dL_law_274 rfl (lv_at hl 2 rfl) ?_
                  refine r_aload_n C dL_law_275 rfl (lv_at hl 0 rfl) ?_
                  refine r_iload_n C dL_law_276 rfl (lv_at hl 3 rfl) ?_
                  refine r_iconst (v := 1) C dL_law_277 (by decide) ?_
                  refine r_iadd C dL_law_278 ?_
                  refine r_sld C hX hbl hbA dL_law_279 ?_
                  refine r_callVi (As := [.int (xs (x3 + 1).toNatClampNeg)]) (rest := [.int r22]) C hl ml_L_40 rc_50 (gX9_chooses l C.inj (xs (x3 + 1).toNatClampNeg) σ23) ⟨Nat.le_of_ble_eq_true rfl, Nat.le_of_ble_eq_true rfl⟩ ⟨Nat.le_of_ble_eq_true rfl, Nat.le_of_ble_eq_true rfl⟩ rfl rfl (Nat.le_of_ble_eq_true rfl) dL_law_280 (fun r24 σ25 => ?_)
                  refine r_icmp_eq (tgt := 699) C dL_law_283 (by decide) ?_ ?_
                  · refine r_iinc (v := x3 + 4) (lv' := [(3, .int (x3 + 4)), (0, .ref b), (1, .ref (ad 0)), (2, .ref (ad 50))]) C dL_law_699 hl (k := 3) rfl rfl (by decide) rfl (fun ls hl => ?_)
                    refine r_goto (tgt := 18) C dL_law_702 (by decide) ?_
                    exact ih (x3 + 4) σ25 ls (lv_sub hl [1, 2, 3, 0] rfl)
                  · refine r_iconst (v := 0) C dL_law_286 (by decide) ?_
                    exact r_lret0 C 
                · refine r_split (fun c6 => ?_) (fun c6 => ?_)
                  · refine r_tableIn (off := 256) (tgt := 288) C dL_law_32 (by rw [c6]; decide) (by rw [c6]; decide) (by rw [c6]; rfl) (by decide) ?_
                    refine r_aload_n C dL_law_288 rfl (lv_at hl 1 rfl) ?_
                    refine r_callVi (As := []) (rest := []) C hl ml_L_41 rc_0 (gX8_betters l C.inj σ) ⟨Nat.le_of_ble_eq_true rfl, Nat.le_of_ble_eq_true rfl⟩ ⟨Nat.le_of_ble_eq_true rfl, Nat.le_of_ble_eq_true rfl⟩ rfl rfl (Nat.le_of_ble_eq_true rfl) dL_law_289 (fun r26 σ27 => ?_)
                    refine r_aload_n C dL_law_292 rfl (lv_at hl 2 rfl) ?_
                    refine r_callVi (As := []) (rest := [.int r26]) C hl ml_L_44 rc_50 (gX9_betters l C.inj σ27) ⟨Nat.le_of_ble_eq_true rfl, Nat.le_of_ble_eq_true rfl⟩ ⟨Nat.le_of_ble_eq_true rfl, Nat.le_of_ble_eq_true rfl⟩ rfl rfl (Nat.le_of_ble_eq_true rfl) dL_law_293 (fun r28 σ29 => ?_)
                    refine r_icmp_eq (tgt := 699) C dL_law_296 (by decide) ?_ ?_
                    · refine r_iinc (v := x3 + 4) (lv' := [(3, .int (x3 + 4)), (0, .ref b), (1, .ref (ad 0)), (2, .ref (ad 50))]) C dL_law_699 hl (k := 3) rfl rfl (by decide) rfl (fun ls hl => ?_)
                      refine r_goto (tgt := 18) C dL_law_702 (by decide) ?_
                      exact ih (x3 + 4) σ29 ls (lv_sub hl [1, 2, 3, 0] rfl)
                    · refine r_iconst (v := 0) C dL_law_299 (by decide) ?_
                      exact r_lret0 C 
                  · refine r_split (fun c7 => ?_) (fun c7 => ?_)
                    · refine r_tableIn (off := 269) (tgt := 301) C dL_law_32 (by rw [c7]; decide) (by rw [c7]; decide) (by rw [c7]; rfl) (by decide) ?_
                      refine r_aload_n C dL_law_301 rfl (lv_at hl 1 rfl) ?_
                      refine r_callVi (As := []) (rest := []) C hl ml_L_45 rc_0 (gX8_undo l C.inj σ) ⟨Nat.le_of_ble_eq_true rfl, Nat.le_of_ble_eq_true rfl⟩ ⟨Nat.le_of_ble_eq_true rfl, Nat.le_of_ble_eq_true rfl⟩ rfl rfl (Nat.le_of_ble_eq_true rfl) dL_law_302 (fun r30 σ31 => ?_)
                      refine r_aload_n C dL_law_305 rfl (lv_at hl 2 rfl) ?_
                      refine r_callVi (As := []) (rest := [.int r30]) C hl ml_L_48 rc_50 (gX9_undo l C.inj σ31) ⟨Nat.le_of_ble_eq_true rfl, Nat.le_of_ble_eq_true rfl⟩ ⟨Nat.le_of_ble_eq_true rfl, Nat.le_of_ble_eq_true rfl⟩ rfl rfl (Nat.le_of_ble_eq_true rfl) dL_law_306 (fun r32 σ33 => ?_)
                      refine r_icmp_eq (tgt := 699) C dL_law_309 (by decide) ?_ ?_
                      · refine r_iinc (v := x3 + 4) (lv' := [(3, .int (x3 + 4)), (0, .ref b), (1, .ref (ad 0)), (2, .ref (ad 50))]) C dL_law_699 hl (k := 3) rfl rfl (by decide) rfl (fun ls hl => ?_)
                        refine r_goto (tgt := 18) C dL_law_702 (by decide) ?_
                        exact ih (x3 + 4) σ33 ls (lv_sub hl [1, 2, 3, 0] rfl)
                      · refine r_iconst (v := 0) C dL_law_312 (by decide) ?_
                        exact r_lret0 C 
                    · refine r_split (fun c8 => ?_) (fun c8 => ?_)
                      · refine r_tableIn (off := 282) (tgt := 314) C dL_law_32 (by rw [c8]; decide) (by rw [c8]; decide) (by rw [c8]; rfl) (by decide) ?_
                        refine r_aload_n C dL_law_314 rfl (lv_at hl 1 rfl) ?_
                        refine r_aload_n C dL_law_315 rfl (lv_at hl 0 rfl) ?_
                        refine r_iload_n C dL_law_316 rfl (lv_at hl 3 rfl) ?_
                        refine r_iconst (v := 1) C dL_law_317 (by decide) ?_
                        refine r_iadd C dL_law_318 ?_
                        refine r_sld C hX hbl hbA dL_law_319 ?_
                        refine r_aload_n C dL_law_320 rfl (lv_at hl 0 rfl) ?_
                        refine r_iload_n C dL_law_321 rfl (lv_at hl 3 rfl) ?_
                        refine r_iconst (v := 2) C dL_law_322 (by decide) ?_
                        refine r_iadd C dL_law_323 ?_
                        refine r_sld C hX hbl hbA dL_law_324 ?_
                        refine r_callVi (As := [.int (xs (x3 + 1).toNatClampNeg), .int (xs (x3 + 2).toNatClampNeg)]) (rest := []) C hl ml_L_49 rc_0 (gX8_changes l C.inj (xs (x3 + 1).toNatClampNeg) (xs (x3 + 2).toNatClampNeg) σ) ⟨Nat.le_of_ble_eq_true rfl, Nat.le_of_ble_eq_true rfl⟩ ⟨Nat.le_of_ble_eq_true rfl, Nat.le_of_ble_eq_true rfl⟩ rfl rfl (Nat.le_of_ble_eq_true rfl) dL_law_325 (fun r34 σ35 => ?_)
                        refine r_aload_n C dL_law_328 rfl (lv_at hl 2 rfl) ?_
                        refine r_aload_n C dL_law_329 rfl (lv_at hl 0 rfl) ?_
                        refine r_iload_n C dL_law_330 rfl (lv_at hl 3 rfl) ?_
                        refine r_iconst (v := 1) C dL_law_331 (by decide) ?_
                        refine r_iadd C dL_law_332 ?_
                        refine r_sld C hX hbl hbA dL_law_333 ?_
                        refine r_aload_n C dL_law_334 rfl (lv_at hl 0 rfl) ?_
                        refine r_iload_n C dL_law_335 rfl (lv_at hl 3 rfl) ?_
                        refine r_iconst (v := 2) C dL_law_336 (by decide) ?_
                        refine r_iadd C dL_law_337 ?_
                        refine r_sld C hX hbl hbA dL_law_338 ?_
                        refine r_callVi (As := [.int (xs (x3 + 1).toNatClampNeg), .int (xs (x3 + 2).toNatClampNeg)]) (rest := [.int r34]) C hl ml_L_52 rc_50 (gX9_changes l C.inj (xs (x3 + 1).toNatClampNeg) (xs (x3 + 2).toNatClampNeg) σ35) ⟨Nat.le_of_ble_eq_true rfl, Nat.le_of_ble_eq_true rfl⟩ ⟨Nat.le_of_ble_eq_true rfl, Nat.le_of_ble_eq_true rfl⟩ rfl rfl (Nat.le_of_ble_eq_true rfl) dL_law_339 (fun r36 σ37 => ?_)
                        refine r_icmp_eq (tgt := 699) C dL_law_342 (by decide) ?_ ?_
                        · refine r_iinc (v := x3 + 4) (lv' := [(3, .int (x3 + 4)), (0, .ref b), (1, .ref (ad 0)), (2, .ref (ad 50))]) C dL_law_699 hl (k := 3) rfl rfl (by decide) rfl (fun ls hl => ?_)
                          refine r_goto (tgt := 18) C dL_law_702 (by decide) ?_
                          exact ih (x3 + 4) σ37 ls (lv_sub hl [1, 2, 3, 0] rfl)
                        · refine r_iconst (v := 0) C dL_law_345 (by decide) ?_
                          exact r_lret0 C 
                      · refine r_split (fun c9 => ?_) (fun c9 => ?_)
                        · refine r_tableIn (off := 315) (tgt := 347) C dL_law_32 (by rw [c9]; decide) (by rw [c9]; decide) (by rw [c9]; rfl) (by decide) ?_
                          refine r_aload_n C dL_law_347 rfl (lv_at hl 1 rfl) ?_
                          refine r_aload_n C dL_law_348 rfl (lv_at hl 0 rfl) ?_
                          refine r_iload_n C dL_law_349 rfl (lv_at hl 3 rfl) ?_
                          refine r_iconst (v := 1) C dL_law_350 (by decide) ?_
                          refine r_iadd C dL_law_351 ?_
                          refine r_sld C hX hbl hbA dL_law_352 ?_
                          refine r_aload_n C dL_law_353 rfl (lv_at hl 0 rfl) ?_
                          refine r_iload_n C dL_law_354 rfl (lv_at hl 3 rfl) ?_
                          refine r_iconst (v := 2) C dL_law_355 (by decide) ?_
                          refine r_iadd C dL_law_356 ?_
                          refine r_sld C hX hbl hbA dL_law_357 ?_
                          refine r_callVi (As := [.int (xs (x3 + 1).toNatClampNeg), .int (xs (x3 + 2).toNatClampNeg)]) (rest := []) C hl ml_L_53 rc_0 (gX8_directed l C.inj (xs (x3 + 1).toNatClampNeg) (xs (x3 + 2).toNatClampNeg) σ) ⟨Nat.le_of_ble_eq_true rfl, Nat.le_of_ble_eq_true rfl⟩ ⟨Nat.le_of_ble_eq_true rfl, Nat.le_of_ble_eq_true rfl⟩ rfl rfl (Nat.le_of_ble_eq_true rfl) dL_law_358 (fun r38 σ39 => ?_)
                          refine r_aload_n C dL_law_361 rfl (lv_at hl 2 rfl) ?_
                          refine r_aload_n C dL_law_362 rfl (lv_at hl 0 rfl) ?_
                          refine r_iload_n C dL_law_363 rfl (lv_at hl 3 rfl) ?_
                          refine r_iconst (v := 1) C dL_law_364 (by decide) ?_
                          refine r_iadd C dL_law_365 ?_
                          refine r_sld C hX hbl hbA dL_law_366 ?_
                          refine r_aload_n C dL_law_367 rfl (lv_at hl 0 rfl) ?_
                          refine r_iload_n C dL_law_368 rfl (lv_at hl 3 rfl) ?_
                          refine r_iconst (v := 2) C dL_law_369 (by decide) ?_
                          refine r_iadd C dL_law_370 ?_
                          refine r_sld C hX hbl hbA dL_law_371 ?_
                          refine r_callVi (As := [.int (xs (x3 + 1).toNatClampNeg), .int (xs (x3 + 2).toNatClampNeg)]) (rest := [.int r38]) C hl ml_L_56 rc_50 (gX9_directed l C.inj (xs (x3 + 1).toNatClampNeg) (xs (x3 + 2).toNatClampNeg) σ39) ⟨Nat.le_of_ble_eq_true rfl, Nat.le_of_ble_eq_true rfl⟩ ⟨Nat.le_of_ble_eq_true rfl, Nat.le_of_ble_eq_true rfl⟩ rfl rfl (Nat.le_of_ble_eq_true rfl) dL_law_372 (fun r40 σ41 => ?_)
                          refine r_icmp_eq (tgt := 699) C dL_law_375 (by decide) ?_ ?_
                          · refine r_iinc (v := x3 + 4) (lv' := [(3, .int (x3 + 4)), (0, .ref b), (1, .ref (ad 0)), (2, .ref (ad 50))]) C dL_law_699 hl (k := 3) rfl rfl (by decide) rfl (fun ls hl => ?_)
                            refine r_goto (tgt := 18) C dL_law_702 (by decide) ?_
                            exact ih (x3 + 4) σ41 ls (lv_sub hl [1, 2, 3, 0] rfl)
                          · refine r_iconst (v := 0) C dL_law_378 (by decide) ?_
                            exact r_lret0 C 
                        · refine r_split (fun c10 => ?_) (fun c10 => ?_)
                          · refine r_tableIn (off := 348) (tgt := 380) C dL_law_32 (by rw [c10]; decide) (by rw [c10]; decide) (by rw [c10]; rfl) (by decide) ?_
                            refine r_aload_n C dL_law_380 rfl (lv_at hl 1 rfl) ?_
                            refine r_aload_n C dL_law_381 rfl (lv_at hl 0 rfl) ?_
                            refine r_iload_n C dL_law_382 rfl (lv_at hl 3 rfl) ?_
                            refine r_iconst (v := 1) C dL_law_383 (by decide) ?_
                            refine r_iadd C dL_law_384 ?_
                            refine r_sld C hX hbl hbA dL_law_385 ?_
                            refine r_callVi (As := [.int (xs (x3 + 1).toNatClampNeg)]) (rest := []) C hl ml_L_57 rc_0 (gX8_root l C.inj (xs (x3 + 1).toNatClampNeg) σ) ⟨Nat.le_of_ble_eq_true rfl, Nat.le_of_ble_eq_true rfl⟩ ⟨Nat.le_of_ble_eq_true rfl, Nat.le_of_ble_eq_true rfl⟩ rfl rfl (Nat.le_of_ble_eq_true rfl) dL_law_386 (fun r42 σ43 => ?_)
                            refine r_aload_n C dL_law_389 rfl (lv_at hl 2 rfl) ?_
                            refine r_aload_n C dL_law_390 rfl (lv_at hl 0 rfl) ?_
                            refine r_iload_n C dL_law_391 rfl (lv_at hl 3 rfl) ?_
                            refine r_iconst (v := 1) C dL_law_392 (by decide) ?_
                            refine r_iadd C dL_law_393 ?_
                            refine r_sld C hX hbl hbA dL_law_394 ?_
                            refine r_callVi (As := [.int (xs (x3 + 1).toNatClampNeg)]) (rest := [.int r42]) C hl ml_L_60 rc_50 (gX9_root l C.inj (xs (x3 + 1).toNatClampNeg) σ43) ⟨Nat.le_of_ble_eq_true rfl, Nat.le_of_ble_eq_true rfl⟩ ⟨Nat.le_of_ble_eq_true rfl, Nat.le_of_ble_eq_true rfl⟩ rfl rfl (Nat.le_of_ble_eq_true rfl) dL_law_395 (fun r44 σ45 => ?_)
                            refine r_icmp_eq (tgt := 699) C dL_law_398 (by decide) ?_ ?_
                            · refine r_iinc (v := x3 + 4) (lv' := [(3, .int (x3 + 4)), (0, .ref b), (1, .ref (ad 0)), (2, .ref (ad 50))]) C dL_law_699 hl (k := 3) rfl rfl (by decide) rfl (fun ls hl => ?_)
                              refine r_goto (tgt := 18) C dL_law_702 (by decide) ?_
                              exact ih (x3 + 4) σ45 ls (lv_sub hl [1, 2, 3, 0] rfl)
                            · refine r_iconst (v := 0) C dL_law_401 (by decide) ?_
                              exact r_lret0 C 
                          · refine r_split (fun c11 => ?_) (fun c11 => ?_)
                            · refine r_tableIn (off := 371) (tgt := 403) C dL_law_32 (by rw [c11]; decide) (by rw [c11]; decide) (by rw [c11]; rfl) (by decide) ?_
                              refine r_aload_n C dL_law_403 rfl (lv_at hl 1 rfl) ?_
                              refine r_aload_n C dL_law_404 rfl (lv_at hl 0 rfl) ?_
                              refine r_iload_n C dL_law_405 rfl (lv_at hl 3 rfl) ?_
                              refine r_iconst (v := 1) C dL_law_406 (by decide) ?_
                              refine r_iadd C dL_law_407 ?_
                              refine r_sld C hX hbl hbA dL_law_408 ?_
                              refine r_callVi (As := [.int (xs (x3 + 1).toNatClampNeg)]) (rest := []) C hl ml_L_61 rc_0 (gX8_rank l C.inj (xs (x3 + 1).toNatClampNeg) σ) ⟨Nat.le_of_ble_eq_true rfl, Nat.le_of_ble_eq_true rfl⟩ ⟨Nat.le_of_ble_eq_true rfl, Nat.le_of_ble_eq_true rfl⟩ rfl rfl (Nat.le_of_ble_eq_true rfl) dL_law_409 (fun r46 σ47 => ?_)
                              refine r_aload_n C dL_law_412 rfl (lv_at hl 2 rfl) ?_
                              refine r_aload_n C dL_law_413 rfl (lv_at hl 0 rfl) ?_
                              refine r_iload_n C dL_law_414 rfl (lv_at hl 3 rfl) ?_
                              refine r_iconst (v := 1) C dL_law_415 (by decide) ?_
                              refine r_iadd C dL_law_416 ?_
                              refine r_sld C hX hbl hbA dL_law_417 ?_
                              refine r_callVi (As := [.int (xs (x3 + 1).toNatClampNeg)]) (rest := [.int r46]) C hl ml_L_64 rc_50 (gX9_rank l C.inj (xs (x3 + 1).toNatClampNeg) σ47) ⟨Nat.le_of_ble_eq_true rfl, Nat.le_of_ble_eq_true rfl⟩ ⟨Nat.le_of_ble_eq_true rfl, Nat.le_of_ble_eq_true rfl⟩ rfl rfl (Nat.le_of_ble_eq_true rfl) dL_law_418 (fun r48 σ49 => ?_)
                              refine r_icmp_eq (tgt := 699) C dL_law_421 (by decide) ?_ ?_
                              · refine r_iinc (v := x3 + 4) (lv' := [(3, .int (x3 + 4)), (0, .ref b), (1, .ref (ad 0)), (2, .ref (ad 50))]) C dL_law_699 hl (k := 3) rfl rfl (by decide) rfl (fun ls hl => ?_)
                                refine r_goto (tgt := 18) C dL_law_702 (by decide) ?_
                                exact ih (x3 + 4) σ49 ls (lv_sub hl [1, 2, 3, 0] rfl)
                              · refine r_iconst (v := 0) C dL_law_424 (by decide) ?_
                                exact r_lret0 C 
                            · refine r_split (fun c12 => ?_) (fun c12 => ?_)
                              · refine r_tableIn (off := 394) (tgt := 426) C dL_law_32 (by rw [c12]; decide) (by rw [c12]; decide) (by rw [c12]; rfl) (by decide) ?_
                                refine r_aload_n C dL_law_426 rfl (lv_at hl 1 rfl) ?_
                                refine r_aload_n C dL_law_427 rfl (lv_at hl 0 rfl) ?_
                                refine r_iload_n C dL_law_428 rfl (lv_at hl 3 rfl) ?_
                                refine r_iconst (v := 1) C dL_law_429 (by decide) ?_
                                refine r_iadd C dL_law_430 ?_
                                refine r_sld C hX hbl hbA dL_law_431 ?_
                                refine r_callVi (As := [.int (xs (x3 + 1).toNatClampNeg)]) (rest := []) C hl ml_L_65 rc_0 (gX8_best l C.inj (xs (x3 + 1).toNatClampNeg) σ) ⟨Nat.le_of_ble_eq_true rfl, Nat.le_of_ble_eq_true rfl⟩ ⟨Nat.le_of_ble_eq_true rfl, Nat.le_of_ble_eq_true rfl⟩ rfl rfl (Nat.le_of_ble_eq_true rfl) dL_law_432 (fun r50 σ51 => ?_)
                                refine r_aload_n C dL_law_435 rfl (lv_at hl 2 rfl) ?_
                                refine r_aload_n C dL_law_436 rfl (lv_at hl 0 rfl) ?_
                                refine r_iload_n C dL_law_437 rfl (lv_at hl 3 rfl) ?_
                                refine r_iconst (v := 1) C dL_law_438 (by decide) ?_
                                refine r_iadd C dL_law_439 ?_
                                refine r_sld C hX hbl hbA dL_law_440 ?_
                                refine r_callVi (As := [.int (xs (x3 + 1).toNatClampNeg)]) (rest := [.int r50]) C hl ml_L_68 rc_50 (gX9_best l C.inj (xs (x3 + 1).toNatClampNeg) σ51) ⟨Nat.le_of_ble_eq_true rfl, Nat.le_of_ble_eq_true rfl⟩ ⟨Nat.le_of_ble_eq_true rfl, Nat.le_of_ble_eq_true rfl⟩ rfl rfl (Nat.le_of_ble_eq_true rfl) dL_law_441 (fun r52 σ53 => ?_)
                                refine r_icmp_eq (tgt := 699) C dL_law_444 (by decide) ?_ ?_
                                · refine r_iinc (v := x3 + 4) (lv' := [(3, .int (x3 + 4)), (0, .ref b), (1, .ref (ad 0)), (2, .ref (ad 50))]) C dL_law_699 hl (k := 3) rfl rfl (by decide) rfl (fun ls hl => ?_)
                                  refine r_goto (tgt := 18) C dL_law_702 (by decide) ?_
                                  exact ih (x3 + 4) σ53 ls (lv_sub hl [1, 2, 3, 0] rfl)
                                · refine r_iconst (v := 0) C dL_law_447 (by decide) ?_
                                  exact r_lret0 C 
                              · refine r_split (fun c13 => ?_) (fun c13 => ?_)
                                · refine r_tableIn (off := 417) (tgt := 449) C dL_law_32 (by rw [c13]; decide) (by rw [c13]; decide) (by rw [c13]; rfl) (by decide) ?_
                                  refine r_aload_n C dL_law_449 rfl (lv_at hl 1 rfl) ?_
                                  refine r_aload_n C dL_law_450 rfl (lv_at hl 0 rfl) ?_
                                  refine r_iload_n C dL_law_451 rfl (lv_at hl 3 rfl) ?_
                                  refine r_iconst (v := 1) C dL_law_452 (by decide) ?_
                                  refine r_iadd C dL_law_453 ?_
                                  refine r_sld C hX hbl hbA dL_law_454 ?_
                                  refine r_aload_n C dL_law_455 rfl (lv_at hl 0 rfl) ?_
                                  refine r_iload_n C dL_law_456 rfl (lv_at hl 3 rfl) ?_
                                  refine r_iconst (v := 2) C dL_law_457 (by decide) ?_
                                  refine r_iadd C dL_law_458 ?_
                                  refine r_sld C hX hbl hbA dL_law_459 ?_
                                  refine r_callVi (As := [.int (xs (x3 + 1).toNatClampNeg), .int (xs (x3 + 2).toNatClampNeg)]) (rest := []) C hl ml_L_69 rc_0 (gX8_fitting l C.inj (xs (x3 + 1).toNatClampNeg) (xs (x3 + 2).toNatClampNeg) σ) ⟨Nat.le_of_ble_eq_true rfl, Nat.le_of_ble_eq_true rfl⟩ ⟨Nat.le_of_ble_eq_true rfl, Nat.le_of_ble_eq_true rfl⟩ rfl rfl (Nat.le_of_ble_eq_true rfl) dL_law_460 (fun r54 σ55 => ?_)
                                  refine r_aload_n C dL_law_463 rfl (lv_at hl 2 rfl) ?_
                                  refine r_aload_n C dL_law_464 rfl (lv_at hl 0 rfl) ?_
                                  refine r_iload_n C dL_law_465 rfl (lv_at hl 3 rfl) ?_
                                  refine r_iconst (v := 1) C dL_law_466 (by decide) ?_
                                  refine r_iadd C dL_law_467 ?_
                                  refine r_sld C hX hbl hbA dL_law_468 ?_
                                  refine r_aload_n C dL_law_469 rfl (lv_at hl 0 rfl) ?_
                                  refine r_iload_n C dL_law_470 rfl (lv_at hl 3 rfl) ?_
                                  refine r_iconst (v := 2) C dL_law_471 (by decide) ?_
                                  refine r_iadd C dL_law_472 ?_
                                  refine r_sld C hX hbl hbA dL_law_473 ?_
                                  refine r_callVi (As := [.int (xs (x3 + 1).toNatClampNeg), .int (xs (x3 + 2).toNatClampNeg)]) (rest := [.int r54]) C hl ml_L_72 rc_50 (gX9_fitting l C.inj (xs (x3 + 1).toNatClampNeg) (xs (x3 + 2).toNatClampNeg) σ55) ⟨Nat.le_of_ble_eq_true rfl, Nat.le_of_ble_eq_true rfl⟩ ⟨Nat.le_of_ble_eq_true rfl, Nat.le_of_ble_eq_true rfl⟩ rfl rfl (Nat.le_of_ble_eq_true rfl) dL_law_474 (fun r56 σ57 => ?_)
                                  refine r_icmp_eq (tgt := 699) C dL_law_477 (by decide) ?_ ?_
                                  · refine r_iinc (v := x3 + 4) (lv' := [(3, .int (x3 + 4)), (0, .ref b), (1, .ref (ad 0)), (2, .ref (ad 50))]) C dL_law_699 hl (k := 3) rfl rfl (by decide) rfl (fun ls hl => ?_)
                                    refine r_goto (tgt := 18) C dL_law_702 (by decide) ?_
                                    exact ih (x3 + 4) σ57 ls (lv_sub hl [1, 2, 3, 0] rfl)
                                  · refine r_iconst (v := 0) C dL_law_480 (by decide) ?_
                                    exact r_lret0 C 
                                · refine r_split (fun c14 => ?_) (fun c14 => ?_)
                                  · refine r_tableIn (off := 450) (tgt := 482) C dL_law_32 (by rw [c14]; decide) (by rw [c14]; decide) (by rw [c14]; rfl) (by decide) ?_
                                    refine r_aload_n C dL_law_482 rfl (lv_at hl 1 rfl) ?_
                                    refine r_aload_n C dL_law_483 rfl (lv_at hl 0 rfl) ?_
                                    refine r_iload_n C dL_law_484 rfl (lv_at hl 3 rfl) ?_
                                    refine r_iconst (v := 1) C dL_law_485 (by decide) ?_
                                    refine r_iadd C dL_law_486 ?_
                                    refine r_sld C hX hbl hbA dL_law_487 ?_
                                    refine r_aload_n C dL_law_488 rfl (lv_at hl 0 rfl) ?_
                                    refine r_iload_n C dL_law_489 rfl (lv_at hl 3 rfl) ?_
                                    refine r_iconst (v := 2) C dL_law_490 (by decide) ?_
                                    refine r_iadd C dL_law_491 ?_
                                    refine r_sld C hX hbl hbA dL_law_492 ?_
                                    refine r_callVi (As := [.int (xs (x3 + 1).toNatClampNeg), .int (xs (x3 + 2).toNatClampNeg)]) (rest := []) C hl ml_L_73 rc_0 (gX8_quarrel l C.inj (xs (x3 + 1).toNatClampNeg) (xs (x3 + 2).toNatClampNeg) σ) ⟨Nat.le_of_ble_eq_true rfl, Nat.le_of_ble_eq_true rfl⟩ ⟨Nat.le_of_ble_eq_true rfl, Nat.le_of_ble_eq_true rfl⟩ rfl rfl (Nat.le_of_ble_eq_true rfl) dL_law_493 (fun r58 σ59 => ?_)
                                    refine r_aload_n C dL_law_496 rfl (lv_at hl 2 rfl) ?_
                                    refine r_aload_n C dL_law_497 rfl (lv_at hl 0 rfl) ?_
                                    refine r_iload_n C dL_law_498 rfl (lv_at hl 3 rfl) ?_
                                    refine r_iconst (v := 1) C dL_law_499 (by decide) ?_
                                    refine r_iadd C dL_law_500 ?_
                                    refine r_sld C hX hbl hbA dL_law_501 ?_
                                    refine r_aload_n C dL_law_502 rfl (lv_at hl 0 rfl) ?_
                                    refine r_iload_n C dL_law_503 rfl (lv_at hl 3 rfl) ?_
                                    refine r_iconst (v := 2) C dL_law_504 (by decide) ?_
                                    refine r_iadd C dL_law_505 ?_
                                    refine r_sld C hX hbl hbA dL_law_506 ?_
                                    refine r_callVi (As := [.int (xs (x3 + 1).toNatClampNeg), .int (xs (x3 + 2).toNatClampNeg)]) (rest := [.int r58]) C hl ml_L_76 rc_50 (gX9_quarrel l C.inj (xs (x3 + 1).toNatClampNeg) (xs (x3 + 2).toNatClampNeg) σ59) ⟨Nat.le_of_ble_eq_true rfl, Nat.le_of_ble_eq_true rfl⟩ ⟨Nat.le_of_ble_eq_true rfl, Nat.le_of_ble_eq_true rfl⟩ rfl rfl (Nat.le_of_ble_eq_true rfl) dL_law_507 (fun r60 σ61 => ?_)
                                    refine r_icmp_eq (tgt := 699) C dL_law_510 (by decide) ?_ ?_
                                    · refine r_iinc (v := x3 + 4) (lv' := [(3, .int (x3 + 4)), (0, .ref b), (1, .ref (ad 0)), (2, .ref (ad 50))]) C dL_law_699 hl (k := 3) rfl rfl (by decide) rfl (fun ls hl => ?_)
                                      refine r_goto (tgt := 18) C dL_law_702 (by decide) ?_
                                      exact ih (x3 + 4) σ61 ls (lv_sub hl [1, 2, 3, 0] rfl)
                                    · refine r_iconst (v := 0) C dL_law_513 (by decide) ?_
                                      exact r_lret0 C 
                                  · refine r_split (fun c15 => ?_) (fun c15 => ?_)
                                    · refine r_tableIn (off := 483) (tgt := 515) C dL_law_32 (by rw [c15]; decide) (by rw [c15]; decide) (by rw [c15]; rfl) (by decide) ?_
                                      refine r_aload_n C dL_law_515 rfl (lv_at hl 1 rfl) ?_
                                      refine r_aload_n C dL_law_516 rfl (lv_at hl 0 rfl) ?_
                                      refine r_iload_n C dL_law_517 rfl (lv_at hl 3 rfl) ?_
                                      refine r_iconst (v := 1) C dL_law_518 (by decide) ?_
                                      refine r_iadd C dL_law_519 ?_
                                      refine r_sld C hX hbl hbA dL_law_520 ?_
                                      refine r_aload_n C dL_law_521 rfl (lv_at hl 0 rfl) ?_
                                      refine r_iload_n C dL_law_522 rfl (lv_at hl 3 rfl) ?_
                                      refine r_iconst (v := 2) C dL_law_523 (by decide) ?_
                                      refine r_iadd C dL_law_524 ?_
                                      refine r_sld C hX hbl hbA dL_law_525 ?_
                                      refine r_callVi (As := [.int (xs (x3 + 1).toNatClampNeg), .int (xs (x3 + 2).toNatClampNeg)]) (rest := []) C hl ml_L_77 rc_0 (gX8_shared l C.inj (xs (x3 + 1).toNatClampNeg) (xs (x3 + 2).toNatClampNeg) σ) ⟨Nat.le_of_ble_eq_true rfl, Nat.le_of_ble_eq_true rfl⟩ ⟨Nat.le_of_ble_eq_true rfl, Nat.le_of_ble_eq_true rfl⟩ rfl rfl (Nat.le_of_ble_eq_true rfl) dL_law_526 (fun r62 σ63 => ?_)
                                      refine r_aload_n C dL_law_529 rfl (lv_at hl 2 rfl) ?_
                                      refine r_aload_n C dL_law_530 rfl (lv_at hl 0 rfl) ?_
                                      refine r_iload_n C dL_law_531 rfl (lv_at hl 3 rfl) ?_
                                      refine r_iconst (v := 1) C dL_law_532 (by decide) ?_
                                      refine r_iadd C dL_law_533 ?_
                                      refine r_sld C hX hbl hbA dL_law_534 ?_
                                      refine r_aload_n C dL_law_535 rfl (lv_at hl 0 rfl) ?_
                                      refine r_iload_n C dL_law_536 rfl (lv_at hl 3 rfl) ?_
                                      refine r_iconst (v := 2) C dL_law_537 (by decide) ?_
                                      refine r_iadd C dL_law_538 ?_
                                      refine r_sld C hX hbl hbA dL_law_539 ?_
                                      refine r_callVi (As := [.int (xs (x3 + 1).toNatClampNeg), .int (xs (x3 + 2).toNatClampNeg)]) (rest := [.int r62]) C hl ml_L_80 rc_50 (gX9_shared l C.inj (xs (x3 + 1).toNatClampNeg) (xs (x3 + 2).toNatClampNeg) σ63) ⟨Nat.le_of_ble_eq_true rfl, Nat.le_of_ble_eq_true rfl⟩ ⟨Nat.le_of_ble_eq_true rfl, Nat.le_of_ble_eq_true rfl⟩ rfl rfl (Nat.le_of_ble_eq_true rfl) dL_law_540 (fun r64 σ65 => ?_)
                                      refine r_icmp_eq (tgt := 699) C dL_law_543 (by decide) ?_ ?_
                                      · refine r_iinc (v := x3 + 4) (lv' := [(3, .int (x3 + 4)), (0, .ref b), (1, .ref (ad 0)), (2, .ref (ad 50))]) C dL_law_699 hl (k := 3) rfl rfl (by decide) rfl (fun ls hl => ?_)
                                        refine r_goto (tgt := 18) C dL_law_702 (by decide) ?_
                                        exact ih (x3 + 4) σ65 ls (lv_sub hl [1, 2, 3, 0] rfl)
                                      · refine r_iconst (v := 0) C dL_law_546 (by decide) ?_
                                        exact r_lret0 C 
                                    · refine r_split (fun c16 => ?_) (fun c16 => ?_)
                                      · refine r_tableIn (off := 516) (tgt := 548) C dL_law_32 (by rw [c16]; decide) (by rw [c16]; decide) (by rw [c16]; rfl) (by decide) ?_
                                        refine r_aload_n C dL_law_548 rfl (lv_at hl 1 rfl) ?_
                                        refine r_aload_n C dL_law_549 rfl (lv_at hl 0 rfl) ?_
                                        refine r_iload_n C dL_law_550 rfl (lv_at hl 3 rfl) ?_
                                        refine r_iconst (v := 1) C dL_law_551 (by decide) ?_
                                        refine r_iadd C dL_law_552 ?_
                                        refine r_sld C hX hbl hbA dL_law_553 ?_
                                        refine r_aload_n C dL_law_554 rfl (lv_at hl 0 rfl) ?_
                                        refine r_iload_n C dL_law_555 rfl (lv_at hl 3 rfl) ?_
                                        refine r_iconst (v := 2) C dL_law_556 (by decide) ?_
                                        refine r_iadd C dL_law_557 ?_
                                        refine r_sld C hX hbl hbA dL_law_558 ?_
                                        refine r_callVi (As := [.int (xs (x3 + 1).toNatClampNeg), .int (xs (x3 + 2).toNatClampNeg)]) (rest := []) C hl ml_L_81 rc_0 (gX8_mixed l C.inj (xs (x3 + 1).toNatClampNeg) (xs (x3 + 2).toNatClampNeg) σ) ⟨Nat.le_of_ble_eq_true rfl, Nat.le_of_ble_eq_true rfl⟩ ⟨Nat.le_of_ble_eq_true rfl, Nat.le_of_ble_eq_true rfl⟩ rfl rfl (Nat.le_of_ble_eq_true rfl) dL_law_559 (fun r66 σ67 => ?_)
                                        refine r_aload_n C dL_law_562 rfl (lv_at hl 2 rfl) ?_
                                        refine r_aload_n C dL_law_563 rfl (lv_at hl 0 rfl) ?_
                                        refine r_iload_n C dL_law_564 rfl (lv_at hl 3 rfl) ?_
                                        refine r_iconst (v := 1) C dL_law_565 (by decide) ?_
                                        refine r_iadd C dL_law_566 ?_
                                        refine r_sld C hX hbl hbA dL_law_567 ?_
                                        refine r_aload_n C dL_law_568 rfl (lv_at hl 0 rfl) ?_
                                        refine r_iload_n C dL_law_569 rfl (lv_at hl 3 rfl) ?_
                                        refine r_iconst (v := 2) C dL_law_570 (by decide) ?_
                                        refine r_iadd C dL_law_571 ?_
                                        refine r_sld C hX hbl hbA dL_law_572 ?_
                                        refine r_callVi (As := [.int (xs (x3 + 1).toNatClampNeg), .int (xs (x3 + 2).toNatClampNeg)]) (rest := [.int r66]) C hl ml_L_84 rc_50 (gX9_mixed l C.inj (xs (x3 + 1).toNatClampNeg) (xs (x3 + 2).toNatClampNeg) σ67) ⟨Nat.le_of_ble_eq_true rfl, Nat.le_of_ble_eq_true rfl⟩ ⟨Nat.le_of_ble_eq_true rfl, Nat.le_of_ble_eq_true rfl⟩ rfl rfl (Nat.le_of_ble_eq_true rfl) dL_law_573 (fun r68 σ69 => ?_)
                                        refine r_icmp_eq (tgt := 699) C dL_law_576 (by decide) ?_ ?_
                                        · refine r_iinc (v := x3 + 4) (lv' := [(3, .int (x3 + 4)), (0, .ref b), (1, .ref (ad 0)), (2, .ref (ad 50))]) C dL_law_699 hl (k := 3) rfl rfl (by decide) rfl (fun ls hl => ?_)
                                          refine r_goto (tgt := 18) C dL_law_702 (by decide) ?_
                                          exact ih (x3 + 4) σ69 ls (lv_sub hl [1, 2, 3, 0] rfl)
                                        · refine r_iconst (v := 0) C dL_law_579 (by decide) ?_
                                          exact r_lret0 C 
                                      · refine r_split (fun c17 => ?_) (fun c17 => ?_)
                                        · refine r_tableIn (off := 549) (tgt := 581) C dL_law_32 (by rw [c17]; decide) (by rw [c17]; decide) (by rw [c17]; rfl) (by decide) ?_
                                          refine r_aload_n C dL_law_581 rfl (lv_at hl 1 rfl) ?_
                                          refine r_aload_n C dL_law_582 rfl (lv_at hl 0 rfl) ?_
                                          refine r_iload_n C dL_law_583 rfl (lv_at hl 3 rfl) ?_
                                          refine r_iconst (v := 1) C dL_law_584 (by decide) ?_
                                          refine r_iadd C dL_law_585 ?_
                                          refine r_sld C hX hbl hbA dL_law_586 ?_
                                          refine r_callVi (As := [.int (xs (x3 + 1).toNatClampNeg)]) (rest := []) C hl ml_L_85 rc_0 (gX8_sees l C.inj (xs (x3 + 1).toNatClampNeg) σ) ⟨Nat.le_of_ble_eq_true rfl, Nat.le_of_ble_eq_true rfl⟩ ⟨Nat.le_of_ble_eq_true rfl, Nat.le_of_ble_eq_true rfl⟩ rfl rfl (Nat.le_of_ble_eq_true rfl) dL_law_587 (fun r70 σ71 => ?_)
                                          refine r_aload_n C dL_law_590 rfl (lv_at hl 2 rfl) ?_
                                          refine r_aload_n C dL_law_591 rfl (lv_at hl 0 rfl) ?_
                                          refine r_iload_n C dL_law_592 rfl (lv_at hl 3 rfl) ?_
                                          refine r_iconst (v := 1) C dL_law_593 (by decide) ?_
                                          refine r_iadd C dL_law_594 ?_
                                          refine r_sld C hX hbl hbA dL_law_595 ?_
                                          refine r_callVi (As := [.int (xs (x3 + 1).toNatClampNeg)]) (rest := [.int r70]) C hl ml_L_88 rc_50 (gX9_sees l C.inj (xs (x3 + 1).toNatClampNeg) σ71) ⟨Nat.le_of_ble_eq_true rfl, Nat.le_of_ble_eq_true rfl⟩ ⟨Nat.le_of_ble_eq_true rfl, Nat.le_of_ble_eq_true rfl⟩ rfl rfl (Nat.le_of_ble_eq_true rfl) dL_law_596 (fun r72 σ73 => ?_)
                                          refine r_icmp_eq (tgt := 699) C dL_law_599 (by decide) ?_ ?_
                                          · refine r_iinc (v := x3 + 4) (lv' := [(3, .int (x3 + 4)), (0, .ref b), (1, .ref (ad 0)), (2, .ref (ad 50))]) C dL_law_699 hl (k := 3) rfl rfl (by decide) rfl (fun ls hl => ?_)
                                            refine r_goto (tgt := 18) C dL_law_702 (by decide) ?_
                                            exact ih (x3 + 4) σ73 ls (lv_sub hl [1, 2, 3, 0] rfl)
                                          · refine r_iconst (v := 0) C dL_law_602 (by decide) ?_
                                            exact r_lret0 C 
                                        · refine r_split (fun c18 => ?_) (fun c18 => ?_)
                                          · refine r_tableIn (off := 572) (tgt := 604) C dL_law_32 (by rw [c18]; decide) (by rw [c18]; decide) (by rw [c18]; rfl) (by decide) ?_
                                            refine r_aload_n C dL_law_604 rfl (lv_at hl 1 rfl) ?_
                                            refine r_callVi (As := []) (rest := []) C hl ml_L_89 rc_0 (gX8_forget l C.inj σ) ⟨Nat.le_of_ble_eq_true rfl, Nat.le_of_ble_eq_true rfl⟩ ⟨Nat.le_of_ble_eq_true rfl, Nat.le_of_ble_eq_true rfl⟩ rfl rfl (Nat.le_of_ble_eq_true rfl) dL_law_605 (fun r74 σ75 => ?_)
                                            refine r_aload_n C dL_law_608 rfl (lv_at hl 2 rfl) ?_
                                            refine r_callVi (As := []) (rest := [.int r74]) C hl ml_L_92 rc_50 (gX9_forget l C.inj σ75) ⟨Nat.le_of_ble_eq_true rfl, Nat.le_of_ble_eq_true rfl⟩ ⟨Nat.le_of_ble_eq_true rfl, Nat.le_of_ble_eq_true rfl⟩ rfl rfl (Nat.le_of_ble_eq_true rfl) dL_law_609 (fun r76 σ77 => ?_)
                                            refine r_icmp_eq (tgt := 699) C dL_law_612 (by decide) ?_ ?_
                                            · refine r_iinc (v := x3 + 4) (lv' := [(3, .int (x3 + 4)), (0, .ref b), (1, .ref (ad 0)), (2, .ref (ad 50))]) C dL_law_699 hl (k := 3) rfl rfl (by decide) rfl (fun ls hl => ?_)
                                              refine r_goto (tgt := 18) C dL_law_702 (by decide) ?_
                                              exact ih (x3 + 4) σ77 ls (lv_sub hl [1, 2, 3, 0] rfl)
                                            · refine r_iconst (v := 0) C dL_law_615 (by decide) ?_
                                              exact r_lret0 C 
                                          · refine r_split (fun c19 => ?_) (fun c19 => ?_)
                                            · refine r_tableIn (off := 585) (tgt := 617) C dL_law_32 (by rw [c19]; decide) (by rw [c19]; decide) (by rw [c19]; rfl) (by decide) ?_
                                              refine r_aload_n C dL_law_617 rfl (lv_at hl 1 rfl) ?_
                                              refine r_callVi (As := []) (rest := []) C hl ml_L_93 rc_0 (gX8_unseen l C.inj σ) ⟨Nat.le_of_ble_eq_true rfl, Nat.le_of_ble_eq_true rfl⟩ ⟨Nat.le_of_ble_eq_true rfl, Nat.le_of_ble_eq_true rfl⟩ rfl rfl (Nat.le_of_ble_eq_true rfl) dL_law_618 (fun r78 σ79 => ?_)
                                              refine r_aload_n C dL_law_621 rfl (lv_at hl 2 rfl) ?_
                                              refine r_callVi (As := []) (rest := [.int r78]) C hl ml_L_96 rc_50 (gX9_unseen l C.inj σ79) ⟨Nat.le_of_ble_eq_true rfl, Nat.le_of_ble_eq_true rfl⟩ ⟨Nat.le_of_ble_eq_true rfl, Nat.le_of_ble_eq_true rfl⟩ rfl rfl (Nat.le_of_ble_eq_true rfl) dL_law_622 (fun r80 σ81 => ?_)
                                              refine r_icmp_eq (tgt := 699) C dL_law_625 (by decide) ?_ ?_
                                              · refine r_iinc (v := x3 + 4) (lv' := [(3, .int (x3 + 4)), (0, .ref b), (1, .ref (ad 0)), (2, .ref (ad 50))]) C dL_law_699 hl (k := 3) rfl rfl (by decide) rfl (fun ls hl => ?_)
                                                refine r_goto (tgt := 18) C dL_law_702 (by decide) ?_
                                                exact ih (x3 + 4) σ81 ls (lv_sub hl [1, 2, 3, 0] rfl)
                                              · refine r_iconst (v := 0) C dL_law_628 (by decide) ?_
                                                exact r_lret0 C 
                                            · refine r_split (fun c20 => ?_) (fun c20 => ?_)
                                              · refine r_tableIn (off := 598) (tgt := 630) C dL_law_32 (by rw [c20]; decide) (by rw [c20]; decide) (by rw [c20]; rfl) (by decide) ?_
                                                refine r_aload_n C dL_law_630 rfl (lv_at hl 1 rfl) ?_
                                                refine r_aload_n C dL_law_631 rfl (lv_at hl 0 rfl) ?_
                                                refine r_iload_n C dL_law_632 rfl (lv_at hl 3 rfl) ?_
                                                refine r_iconst (v := 1) C dL_law_633 (by decide) ?_
                                                refine r_iadd C dL_law_634 ?_
                                                refine r_sld C hX hbl hbA dL_law_635 ?_
                                                refine r_callVi (As := [.int (xs (x3 + 1).toNatClampNeg)]) (rest := []) C hl ml_L_97 rc_0 (gX8_keep l C.inj (xs (x3 + 1).toNatClampNeg) σ) ⟨Nat.le_of_ble_eq_true rfl, Nat.le_of_ble_eq_true rfl⟩ ⟨Nat.le_of_ble_eq_true rfl, Nat.le_of_ble_eq_true rfl⟩ rfl rfl (Nat.le_of_ble_eq_true rfl) dL_law_636 (fun r82 σ83 => ?_)
                                                refine r_aload_n C dL_law_639 rfl (lv_at hl 2 rfl) ?_
                                                refine r_aload_n C dL_law_640 rfl (lv_at hl 0 rfl) ?_
                                                refine r_iload_n C dL_law_641 rfl (lv_at hl 3 rfl) ?_
                                                refine r_iconst (v := 1) C dL_law_642 (by decide) ?_
                                                refine r_iadd C dL_law_643 ?_
                                                refine r_sld C hX hbl hbA dL_law_644 ?_
                                                refine r_callVi (As := [.int (xs (x3 + 1).toNatClampNeg)]) (rest := [.int r82]) C hl ml_L_100 rc_50 (gX9_keep l C.inj (xs (x3 + 1).toNatClampNeg) σ83) ⟨Nat.le_of_ble_eq_true rfl, Nat.le_of_ble_eq_true rfl⟩ ⟨Nat.le_of_ble_eq_true rfl, Nat.le_of_ble_eq_true rfl⟩ rfl rfl (Nat.le_of_ble_eq_true rfl) dL_law_645 (fun r84 σ85 => ?_)
                                                refine r_icmp_eq (tgt := 699) C dL_law_648 (by decide) ?_ ?_
                                                · refine r_iinc (v := x3 + 4) (lv' := [(3, .int (x3 + 4)), (0, .ref b), (1, .ref (ad 0)), (2, .ref (ad 50))]) C dL_law_699 hl (k := 3) rfl rfl (by decide) rfl (fun ls hl => ?_)
                                                  refine r_goto (tgt := 18) C dL_law_702 (by decide) ?_
                                                  exact ih (x3 + 4) σ85 ls (lv_sub hl [1, 2, 3, 0] rfl)
                                                · refine r_iconst (v := 0) C dL_law_651 (by decide) ?_
                                                  exact r_lret0 C 
                                              · refine r_split (fun c21 => ?_) (fun c21 => ?_)
                                                · refine r_tableIn (off := 621) (tgt := 653) C dL_law_32 (by rw [c21]; decide) (by rw [c21]; decide) (by rw [c21]; rfl) (by decide) ?_
                                                  refine r_aload_n C dL_law_653 rfl (lv_at hl 1 rfl) ?_
                                                  refine r_aload_n C dL_law_654 rfl (lv_at hl 0 rfl) ?_
                                                  refine r_iload_n C dL_law_655 rfl (lv_at hl 3 rfl) ?_
                                                  refine r_iconst (v := 1) C dL_law_656 (by decide) ?_
                                                  refine r_iadd C dL_law_657 ?_
                                                  refine r_sld C hX hbl hbA dL_law_658 ?_
                                                  refine r_callVi (As := [.int (xs (x3 + 1).toNatClampNeg)]) (rest := []) C hl ml_L_101 rc_0 (gX8_back l C.inj (xs (x3 + 1).toNatClampNeg) σ) ⟨Nat.le_of_ble_eq_true rfl, Nat.le_of_ble_eq_true rfl⟩ ⟨Nat.le_of_ble_eq_true rfl, Nat.le_of_ble_eq_true rfl⟩ rfl rfl (Nat.le_of_ble_eq_true rfl) dL_law_659 (fun r86 σ87 => ?_)
                                                  refine r_aload_n C dL_law_662 rfl (lv_at hl 2 rfl) ?_
                                                  refine r_aload_n C dL_law_663 rfl (lv_at hl 0 rfl) ?_
                                                  refine r_iload_n C dL_law_664 rfl (lv_at hl 3 rfl) ?_
                                                  refine r_iconst (v := 1) C dL_law_665 (by decide) ?_
                                                  refine r_iadd C dL_law_666 ?_
                                                  refine r_sld C hX hbl hbA dL_law_667 ?_
                                                  refine r_callVi (As := [.int (xs (x3 + 1).toNatClampNeg)]) (rest := [.int r86]) C hl ml_L_104 rc_50 (gX9_back l C.inj (xs (x3 + 1).toNatClampNeg) σ87) ⟨Nat.le_of_ble_eq_true rfl, Nat.le_of_ble_eq_true rfl⟩ ⟨Nat.le_of_ble_eq_true rfl, Nat.le_of_ble_eq_true rfl⟩ rfl rfl (Nat.le_of_ble_eq_true rfl) dL_law_668 (fun r88 σ89 => ?_)
                                                  refine r_icmp_eq (tgt := 699) C dL_law_671 (by decide) ?_ ?_
                                                  · refine r_iinc (v := x3 + 4) (lv' := [(3, .int (x3 + 4)), (0, .ref b), (1, .ref (ad 0)), (2, .ref (ad 50))]) C dL_law_699 hl (k := 3) rfl rfl (by decide) rfl (fun ls hl => ?_)
                                                    refine r_goto (tgt := 18) C dL_law_702 (by decide) ?_
                                                    exact ih (x3 + 4) σ89 ls (lv_sub hl [1, 2, 3, 0] rfl)
                                                  · refine r_iconst (v := 0) C dL_law_674 (by decide) ?_
                                                    exact r_lret0 C 
                                                · refine r_split (fun c22 => ?_) (fun c22 => ?_)
                                                  · refine r_tableIn (off := 644) (tgt := 676) C dL_law_32 (by rw [c22]; decide) (by rw [c22]; decide) (by rw [c22]; rfl) (by decide) ?_
                                                    refine r_aload_n C dL_law_676 rfl (lv_at hl 1 rfl) ?_
                                                    refine r_aload_n C dL_law_677 rfl (lv_at hl 0 rfl) ?_
                                                    refine r_iload_n C dL_law_678 rfl (lv_at hl 3 rfl) ?_
                                                    refine r_iconst (v := 1) C dL_law_679 (by decide) ?_
                                                    refine r_iadd C dL_law_680 ?_
                                                    refine r_sld C hX hbl hbA dL_law_681 ?_
                                                    refine r_callVi (As := [.int (xs (x3 + 1).toNatClampNeg)]) (rest := []) C hl ml_L_105 rc_0 (gX8_count l C.inj (xs (x3 + 1).toNatClampNeg) σ) ⟨Nat.le_of_ble_eq_true rfl, Nat.le_of_ble_eq_true rfl⟩ ⟨Nat.le_of_ble_eq_true rfl, Nat.le_of_ble_eq_true rfl⟩ rfl rfl (Nat.le_of_ble_eq_true rfl) dL_law_682 (fun r90 σ91 => ?_)
                                                    refine r_aload_n C dL_law_685 rfl (lv_at hl 2 rfl) ?_
                                                    refine r_aload_n C dL_law_686 rfl (lv_at hl 0 rfl) ?_
                                                    refine r_iload_n C dL_law_687 rfl (lv_at hl 3 rfl) ?_
                                                    refine r_iconst (v := 1) C dL_law_688 (by decide) ?_
                                                    refine r_iadd C dL_law_689 ?_
                                                    refine r_sld C hX hbl hbA dL_law_690 ?_
                                                    refine r_callVi (As := [.int (xs (x3 + 1).toNatClampNeg)]) (rest := [.int r90]) C hl ml_L_108 rc_50 (gX9_count l C.inj (xs (x3 + 1).toNatClampNeg) σ91) ⟨Nat.le_of_ble_eq_true rfl, Nat.le_of_ble_eq_true rfl⟩ ⟨Nat.le_of_ble_eq_true rfl, Nat.le_of_ble_eq_true rfl⟩ rfl rfl (Nat.le_of_ble_eq_true rfl) dL_law_691 (fun r92 σ93 => ?_)
                                                    refine r_icmp_eq (tgt := 699) C dL_law_694 (by decide) ?_ ?_
                                                    · refine r_iinc (v := x3 + 4) (lv' := [(3, .int (x3 + 4)), (0, .ref b), (1, .ref (ad 0)), (2, .ref (ad 50))]) C dL_law_699 hl (k := 3) rfl rfl (by decide) rfl (fun ls hl => ?_)
                                                      refine r_goto (tgt := 18) C dL_law_702 (by decide) ?_
                                                      exact ih (x3 + 4) σ93 ls (lv_sub hl [1, 2, 3, 0] rfl)
                                                    · refine r_iconst (v := 0) C dL_law_697 (by decide) ?_
                                                      exact r_lret0 C 
                                                  · have q0 : (v1 : Int32).toInt ≠ 0 := ne_toInt 0 c0 rfl
                                                    have q1 : (v1 : Int32).toInt ≠ 1 := ne_toInt 1 c1 rfl
                                                    have q2 : (v1 : Int32).toInt ≠ 2 := ne_toInt 2 c2 rfl
                                                    have q3 : (v1 : Int32).toInt ≠ 3 := ne_toInt 3 c3 rfl
                                                    have q4 : (v1 : Int32).toInt ≠ 4 := ne_toInt 4 c4 rfl
                                                    have q5 : (v1 : Int32).toInt ≠ 5 := ne_toInt 5 c5 rfl
                                                    have q6 : (v1 : Int32).toInt ≠ 6 := ne_toInt 6 c6 rfl
                                                    have q7 : (v1 : Int32).toInt ≠ 7 := ne_toInt 7 c7 rfl
                                                    have q8 : (v1 : Int32).toInt ≠ 8 := ne_toInt 8 c8 rfl
                                                    have q9 : (v1 : Int32).toInt ≠ 9 := ne_toInt 9 c9 rfl
                                                    have q10 : (v1 : Int32).toInt ≠ 10 := ne_toInt 10 c10 rfl
                                                    have q11 : (v1 : Int32).toInt ≠ 11 := ne_toInt 11 c11 rfl
                                                    have q12 : (v1 : Int32).toInt ≠ 12 := ne_toInt 12 c12 rfl
                                                    have q13 : (v1 : Int32).toInt ≠ 13 := ne_toInt 13 c13 rfl
                                                    have q14 : (v1 : Int32).toInt ≠ 14 := ne_toInt 14 c14 rfl
                                                    have q15 : (v1 : Int32).toInt ≠ 15 := ne_toInt 15 c15 rfl
                                                    have q16 : (v1 : Int32).toInt ≠ 16 := ne_toInt 16 c16 rfl
                                                    have q17 : (v1 : Int32).toInt ≠ 17 := ne_toInt 17 c17 rfl
                                                    have q18 : (v1 : Int32).toInt ≠ 18 := ne_toInt 18 c18 rfl
                                                    have q19 : (v1 : Int32).toInt ≠ 19 := ne_toInt 19 c19 rfl
                                                    have q20 : (v1 : Int32).toInt ≠ 20 := ne_toInt 20 c20 rfl
                                                    have q21 : (v1 : Int32).toInt ≠ 21 := ne_toInt 21 c21 rfl
                                                    have q22 : (v1 : Int32).toInt ≠ 22 := ne_toInt 22 c22 rfl
                                                    refine r_tableOut (tgt := 699) C dL_law_32 (by omega) (by decide) ?_
                                                    refine r_iinc (v := x3 + 4) (lv' := [(3, .int (x3 + 4)), (0, .ref b), (1, .ref (ad 0)), (2, .ref (ad 50))]) C dL_law_699 hl (k := 3) rfl rfl (by decide) rfl (fun ls hl => ?_)
                                                    refine r_goto (tgt := 18) C dL_law_702 (by decide) ?_
                                                    exact ih (x3 + 4) σ ls (lv_sub hl [1, 2, 3, 0] rfl)
