section KL
variable {p : Program} {l : Launch} {e : Env} {R : Room} {s : State} {m : MethodId} {args : Array Value} {below : List Frame} {meth : Method} {c : Code} {cc : ByteArray} {nL : Nat} {own : String} {D : va_G} {cI cZ : ClassId} {A : Nat → Prop} {kc ks : Nat} {Q : State → Prop} {ws : va_W} {pc : Nat} {ls : Array Slot} {rest : List Value}
theorem k_astore_n (C : CK p s m args c cc nL own D cI cZ A) {kf : Fin 4} {i : Nat} {x : Nat} {lv lv' : List (Nat × Value)} (hdg : decode cc pc = .ok (.astore_n kf, 1)) (hi : (kf : Nat) = i) (h : lv_has ls nL lv) (hn : i < nL) (hl : (i, Value.ref x) :: lv.filter (fun q => !(q.1 == i) && !(q.1 + 1 == i && q.2.category == 2)) = lv') (kk : ∀ ls' : Array Slot, lv_has ls' nL lv' → WC p l e R s m args below meth c D A Q ws kc ks (F0 m (pc + 1) ls' rest)) : WC p l e R s m args below meth c D A Q ws kc ks (F0 m pc ls (.ref x :: rest)) := fun H locs hP hD hS => lv_astore_n C.1 C.2.1 hdg hi h hn hl (fun ls' hl' => kk ls' hl' H locs hP hD hS)
theorem k_istore_n (C : CK p s m args c cc nL own D cI cZ A) {kf : Fin 4} {i : Nat} {x : Int32} {lv lv' : List (Nat × Value)} (hdg : decode cc pc = .ok (.istore_n kf, 1)) (hi : (kf : Nat) = i) (h : lv_has ls nL lv) (hn : i < nL) (hl : (i, Value.int x) :: lv.filter (fun q => !(q.1 == i) && !(q.1 + 1 == i && q.2.category == 2)) = lv') (kk : ∀ ls' : Array Slot, lv_has ls' nL lv' → WC p l e R s m args below meth c D A Q ws kc ks (F0 m (pc + 1) ls' rest)) : WC p l e R s m args below meth c D A Q ws kc ks (F0 m pc ls (.int x :: rest)) := fun H locs hP hD hS => lv_istore_n C.1 C.2.1 hdg hi h hn hl (fun ls' hl' => kk ls' hl' H locs hP hD hS)
end KL
theorem arr_known {s : State} {args : Array Value} {ty : FieldType} (h : (Cond.arrayClass ty).before args s = true) : ∃ cA : ClassId, ArrOfT s cA ty ∧ s.vm.findClass ("[" ++ ty.toString) = some cA := by
  obtain ⟨cA, k, comp, h1, h2, h3⟩ := Cond.arrayClass_spec h
  exact ⟨cA, fun n z => ⟨fun k h => (by cases h), k, h2, comp, h3⟩, h1⟩
set_option maxRecDepth 100000 in
set_option maxHeartbeats 4000000 in
theorem whole_start {p : Program} {e : Env} {s : State} {m : MethodId} {below : List Frame} {meth : Method} {c : Code} (l : Launch) (hflags : l.flags = flags0) {b L : Nat} {xs : Nat → Int32} (hL : L ≤ 2048) (C0 : lw_At p s m meth c b L xs) : W p l e room_1 s m #[Value.ref b] below meth c s.heap [] 0 0 (lw_Z below #[Value.ref b] s) (entryFrame m ([Value.ref b] : List Value).toArray 4) := by
  obtain ⟨hx, hb, hr, hml, hown, hts, hX, hbl, hlocks, hgv⟩ := id C0
  have htu : ∀ w ∈ UW, w.before #[Value.ref b] s = true := fun w hw => hts w (uw_in hw)
  have hbA : ¬ (fun q : Nat => s.heap.size ≤ q) b := Nat.not_le.mpr hbl
  obtain ⟨c0, i0, hKn0⟩ := u_known (C := RX0) (T := TX0) (N := 6) (n := 6) htu uwX0 (htu _ (uw_mk 192 (by decide +kernel) rfl))
  obtain ⟨c1, i1, hKn1⟩ := u_known (C := RX1) (T := TX1) (N := 3) (n := 3) htu uwX1 (htu _ (uw_mk 128 (by decide +kernel) rfl))
  obtain ⟨c2, i2, hKn2⟩ := u_known (C := RX2) (T := TX2) (N := 3) (n := 3) htu uwX2 (htu _ (uw_mk 149 (by decide +kernel) rfl))
  obtain ⟨c3, i3, hKn3⟩ := u_known (C := RX3) (T := TX3) (N := 5) (n := 5) htu uwX3 (htu _ (uw_mk 219 (by decide +kernel) rfl))
  obtain ⟨c4, i4, hKn4⟩ := u_known (C := RX4) (T := TX4) (N := 3) (n := 3) htu uwX4 (htu _ (uw_mk 103 (by decide +kernel) rfl))
  obtain ⟨c5, i5, hKn5⟩ := u_known (C := RX5) (T := TX5) (N := 1) (n := 1) htu uwX5 (htu _ (uw_mk 81 (by decide +kernel) rfl))
  obtain ⟨c6, i6, hKn6⟩ := u_known (C := RX6) (T := TX6) (N := 2) (n := 2) htu uwX6 (htu _ (uw_mk 75 (by decide +kernel) rfl))
  obtain ⟨c7, i7, hKn7⟩ := u_known (C := RX7) (T := TX7) (N := 3) (n := 3) htu uwX7 (htu _ (uw_mk 170 (by decide +kernel) rfl))
  obtain ⟨c8, i8, hKn8⟩ := u_known (C := RX8) (T := TX8) (N := 16) (n := 16) htu uwX8 (htu _ (uw_mk 67 (by decide +kernel) rfl))
  obtain ⟨c9, i9, hKn9⟩ := u_known (C := RX9) (T := TX9) (N := 27) (n := 27) htu uwX9 (htu _ (uw_mk 643 (by decide +kernel) rfl))
  obtain ⟨dC, dI, hKc⟩ : ∃ (dC : Nat → ClassId) (dI : Nat → Nat → Nat), ∀ (k : Nat) (q : vw_C), vwCl[k]? = some q → u_Kn s q.1 q.2.1 q.2.2 (dC k) (dI k) := by
    refine ⟨fun k => if k = 0 then c0 else if k = 1 then c1 else if k = 2 then c2 else if k = 3 then c3 else if k = 4 then c4 else if k = 5 then c5 else if k = 6 then c6 else if k = 7 then c7 else if k = 8 then c8 else c9, fun k => if k = 0 then i0 else if k = 1 then i1 else if k = 2 then i2 else if k = 3 then i3 else if k = 4 then i4 else if k = 5 then i5 else if k = 6 then i6 else if k = 7 then i7 else if k = 8 then i8 else i9, ?_⟩
    intro k q hq
    match k, hq with
    | 0, hq => cases hq; exact hKn0
    | 1, hq => cases hq; exact hKn1
    | 2, hq => cases hq; exact hKn2
    | 3, hq => cases hq; exact hKn3
    | 4, hq => cases hq; exact hKn4
    | 5, hq => cases hq; exact hKn5
    | 6, hq => cases hq; exact hKn6
    | 7, hq => cases hq; exact hKn7
    | 8, hq => cases hq; exact hKn8
    | 9, hq => cases hq; exact hKn9
    | k + 10, hq => simp [vwCl] at hq
  obtain ⟨cI, hcI, hcI2⟩ := arr_known (htu (.arrayClass .int) (uw_mk 93 (by decide +kernel) rfl))
  obtain ⟨cZ, hcZ, hcZ2⟩ := arr_known (htu (.arrayClass .boolean) (uw_mk 730 (by decide +kernel) rfl))
  have hK : va_K (dC, dI) vwCl [(cI, .int), (cZ, .boolean)] s := by
    refine ⟨hKc, fun k q hq => ?_⟩
    match k, hq with
    | 0, hq => cases hq; exact ⟨hcI, hcI2⟩
    | 1, hq => cases hq; exact ⟨hcZ, hcZ2⟩
    | k + 2, hq => simp at hq
  have hN : ∀ w ∈ NW, va_Nw w s := fun w hw => va_Nw.of (nw_tab hw) (hts w (nw_in w hw))
  have hs := flat_of_before _ hgv
  have hAo : ∀ a : Nat, a < s.heap.size → ¬ (fun q : Nat => s.heap.size ≤ q) a := fun a h => Nat.not_le.mpr h
  obtain ⟨tT, ht1, ht2⟩ := va_Tof (args := #[Value.ref b]) (s := s) (tm := .static "StemmaTree" "TREES" "[I") (ty := .int) (N := 7) (f := fun j => .int (TRi j)) (A := fun q : Nat => s.heap.size ≤ q) (by decide) (hs _ (by decide +kernel)) (va_eqt (hs _ (by decide +kernel))) (fun j hj => by
      match j, hj with
      | 0, _ => exact va_eqt (hs _ (by decide +kernel))
      | 1, _ => exact va_eqt (hs _ (by decide +kernel))
      | 2, _ => exact va_eqt (hs _ (by decide +kernel))
      | 3, _ => exact va_eqt (hs _ (by decide +kernel))
      | 4, _ => exact va_eqt (hs _ (by decide +kernel))
      | 5, _ => exact va_eqt (hs _ (by decide +kernel))
      | 6, _ => exact va_eqt (hs _ (by decide +kernel))
      | j + 7, hj => omega) hAo
  have ht3 : va_Z RX8 "TREES" "[I" (.ref tT) (fun q : Nat => s.heap.size ≤ q) s s.heap := va_Zref (args := #[Value.ref b]) (hts _ (List.mem_of_getElem? (i := 401) (by decide +kernel))) (htu _ (uw_mk 54 (by decide +kernel) rfl)) ht1 hAo
  have CKK : CK p s m #[Value.ref b] c code 4 RL (dC, dI) cI cZ (fun q : Nat => s.heap.size ≤ q) := ⟨hx, hb, hml, hown, htu, hK, fun _ h => h, hN⟩
  have hl := lv_entry ([.ref b]) (n := 4) (Nat.le_of_ble_eq_true rfl)
  rw [lg_entry_eq]
  generalize (lg_sl ([.ref b]) ++ List.replicate (4 - (lg_sl ([.ref b])).length) Slot.unset).toArray = ls at hl ⊢
  have hl : lv_has ls 4 [(0, .ref b)] := hl
  suffices hw : WC p l e room_1 s m #[Value.ref b] below meth c (dC, dI) (fun q : Nat => s.heap.size ≤ q) (lw_Z below #[Value.ref b] s) [] 0 0 (F0 m 0 ls []) from
    hw s.heap [] (fun k q h => by simp at h) ⟨fun i j p q h => by simp at h, fun k q h => by simp at h⟩ va_S.rf
  refine k_new (ci := 8) (fs := [.null, .null, .null, .null, .null, .null, .null, .null, .null, .null, .null, .null, .null, .int 0, .int 0, .int 0]) (ty := tyX8) CKK rfl uwX8 tyX8_ok (uw_mk 66 (by decide +kernel) rfl) (uw_mk 67 (by decide +kernel) rfl) (uw_mk 54 (by decide +kernel) rfl) (fun j hj => by rcases (show j = 0 ∨ j = 1 ∨ j = 2 ∨ j = 3 ∨ j = 4 ∨ j = 5 ∨ j = 6 ∨ j = 7 ∨ j = 8 ∨ j = 9 ∨ j = 10 ∨ j = 11 ∨ j = 12 ∨ j = 13 ∨ j = 14 ∨ j = 15 by omega) with rfl | rfl | rfl | rfl | rfl | rfl | rfl | rfl | rfl | rfl | rfl | rfl | rfl | rfl | rfl | rfl <;> rfl) ⟨Nat.le_of_ble_eq_true rfl, Nat.le_of_ble_eq_true rfl⟩ dL_law_0 (fun q0 => ?_)
  refine k_widen (kc2 := 1) (ks2 := 16) (Nat.le_of_ble_eq_true rfl) (Nat.le_of_ble_eq_true rfl) ?_
  refine k_dup CKK dL_law_3 rfl ?_
  refine k_ctor (As := []) (rest := [.ref q0]) (q := q0) CKK hl ⟨uw_mk 68 (by decide +kernel) rfl, uw_mk 69 (by decide +kernel) rfl, uw_mk 54 (by decide +kernel) rfl, uw_mk 70 rfl rfl, rfl, ⟨by decide +kernel, by decide +kernel, by decide +kernel⟩⟩ (kX8 l) ⟨Nat.le_of_ble_eq_true rfl, Nat.le_of_ble_eq_true rfl⟩ ⟨Nat.le_of_ble_eq_true rfl, Nat.le_of_ble_eq_true rfl⟩ rfl rfl (Nat.le_of_ble_eq_true rfl) dL_law_4 (fun w1 b1 => ?_)
  refine k_widen (kc2 := 50) (ks2 := 652) (Nat.le_of_ble_eq_true rfl) (Nat.le_of_ble_eq_true rfl) ?_
  refine k_shape (ws2 := w1) rfl ?_
  refine k_astore_n (lv' := [(1, .ref q0), (0, .ref b)]) CKK dL_law_7 rfl hl (by decide) rfl (fun ls hl => ?_)
  refine k_new (ci := 9) (fs := [.int 0, .int 0, .null, .int 0, .int 0, .null, .int 0, .null, .null, .null, .int 0, .null, .int 0, .int 0, .int 0, .int 0, .int 0, .int 0, .null, .int 0, .int 0, .null, .null, .null, .null, .null, .null]) (ty := tyX9) CKK rfl uwX9 tyX9_ok (uw_mk 642 (by decide +kernel) rfl) (uw_mk 643 (by decide +kernel) rfl) (uw_mk 64 (by decide +kernel) rfl) (fun j hj => by rcases (show j = 0 ∨ j = 1 ∨ j = 2 ∨ j = 3 ∨ j = 4 ∨ j = 5 ∨ j = 6 ∨ j = 7 ∨ j = 8 ∨ j = 9 ∨ j = 10 ∨ j = 11 ∨ j = 12 ∨ j = 13 ∨ j = 14 ∨ j = 15 ∨ j = 16 ∨ j = 17 ∨ j = 18 ∨ j = 19 ∨ j = 20 ∨ j = 21 ∨ j = 22 ∨ j = 23 ∨ j = 24 ∨ j = 25 ∨ j = 26 by omega) with rfl | rfl | rfl | rfl | rfl | rfl | rfl | rfl | rfl | rfl | rfl | rfl | rfl | rfl | rfl | rfl | rfl | rfl | rfl | rfl | rfl | rfl | rfl | rfl | rfl | rfl | rfl <;> rfl) ⟨Nat.le_of_ble_eq_true rfl, Nat.le_of_ble_eq_true rfl⟩ dL_law_8 (fun q1 => ?_)
  refine k_widen (kc2 := 51) (ks2 := 679) (Nat.le_of_ble_eq_true rfl) (Nat.le_of_ble_eq_true rfl) ?_
  refine k_dup CKK dL_law_11 rfl ?_
  refine k_ctor (As := []) (rest := [.ref q1]) (q := q1) CKK hl ⟨uw_mk 644 (by decide +kernel) rfl, uw_mk 645 (by decide +kernel) rfl, uw_mk 64 (by decide +kernel) rfl, uw_mk 646 rfl rfl, rfl, ⟨by decide +kernel, by decide +kernel, by decide +kernel⟩⟩ (kX9 l) ⟨Nat.le_of_ble_eq_true rfl, Nat.le_of_ble_eq_true rfl⟩ ⟨Nat.le_of_ble_eq_true rfl, Nat.le_of_ble_eq_true rfl⟩ rfl rfl (Nat.le_of_ble_eq_true rfl) dL_law_12 (fun w2 b2 => ?_)
  refine k_widen (kc2 := 64) (ks2 := 1646) (Nat.le_of_ble_eq_true rfl) (Nat.le_of_ble_eq_true rfl) ?_
  refine k_astore_n (lv' := [(2, .ref q1), (1, .ref q0), (0, .ref b)]) CKK dL_law_15 rfl hl (by decide) rfl (fun ls hl => ?_)
  refine k_iconst (v := 0) CKK dL_law_16 (by decide) ?_
  refine k_istore_n (lv' := [(3, .int 0), (2, .ref q1), (1, .ref q0), (0, .ref b)]) CKK dL_law_17 rfl hl (by decide) rfl (fun ls hl => ?_)
  obtain ⟨ad, e1, e2, e3⟩ := ws_init b1 b2
  intro H locs hP hD hS
  rw [e1] at hP hD
  obtain ⟨hi, hA⟩ := inj_of_D hD
  subst e2; subst e3
  have C : CX p s m #[Value.ref b] meth c cL_law 4 RL (some .boolean) (dC, dI) cI cZ ad tT (fun q : Nat => s.heap.size ≤ q) := ⟨hx, hb, hml, hown, htu, hK, hi, hA, fun _ h => h, ⟨hN, ht3, ht2⟩, hr, hlocks⟩
  obtain ⟨σ', ho⟩ := law_ok L hL xs
  have hw := wL_law_18 (l := l) (e := e) (below := below) L xs hX hbl hbA C (fun _ h => h) rfl (fun σ => some (1, σ)) (by
    intro σ ls hl
    refine r_iconst (v := 1) C dL_law_705 (by decide) ?_
    exact r_lret1 C (fun _ h => h) rfl dL_law_706) 600 0 (fun _ _ => 0) ls (lv_sub hl [3, 2, 1, 0] rfl) 1 σ' ho H locs hP hS
  intro T hT X
  obtain ⟨t, a1, b1⟩ := hw T hT X
  exact ⟨t, a1, b1 rfl⟩

