set_option maxHeartbeats 4000000 in
set_option maxRecDepth 100000 in
/-- what the tables say of the classes, the arrays and the nest -/
theorem law_tables {s : State} {b : Nat} (hts : ∀ w ∈ lw_tbl, w.before #[Value.ref b] s = true) : ∃ (D : va_G) (cB cI cZ cO : ClassId), va_K D vwCl (ka_tys cB cI cZ cO) s ∧ kb_X s := by
  have tb : ∀ {w : Cond} (i : Nat), tables_1[i]? = some w → w.before #[Value.ref b] s = true := fun i h => hts _ (List.mem_append_right _ (List.mem_of_getElem? h))
  obtain ⟨k0, i0, hK0⟩ := u_known (C := RX0) (T := TX0) (N := 9) (n := 9) hts inX0 (tb (w := .instantiable RX0 9) 63 (by decide +kernel))
  obtain ⟨k1, i1, hK1⟩ := u_known (C := RX1) (T := TX1) (N := 1) (n := 1) hts inX1 (tb (w := .instantiable RX1 1) 101 (by decide +kernel))
  obtain ⟨k2, i2, hK2⟩ := u_known (C := RX3) (T := TX3) (N := 3) (n := 3) hts inX3 (tb (w := .instantiable RX3 3) 44 (by decide +kernel))
  obtain ⟨k3, i3, hK3⟩ := u_known (C := RX5) (T := TX5) (N := 5) (n := 5) hts inX5 (tb (w := .instantiable RX5 5) 21 (by decide +kernel))
  obtain ⟨k4, i4, hK4⟩ := u_known (C := RX7) (T := TX7) (N := 7) (n := 7) hts inX7 (tb (w := .instantiable RX7 7) 111 (by decide +kernel))
  obtain ⟨k5, i5, hK5⟩ := u_known (C := RX8) (T := TX8) (N := 9) (n := 9) hts inX8 (tb (w := .instantiable RX8 9) 13 (by decide +kernel))
  obtain ⟨k6, i6, hK6⟩ := u_known (C := RX9) (T := TX9) (N := 22) (n := 22) hts inX9 (tb (w := .instantiable RX9 22) 590 (by decide +kernel))
  obtain ⟨dC, dI, hKc⟩ : ∃ (dC : Nat → ClassId) (dI : Nat → Nat → Nat), ∀ (q : Nat) (r : vw_C), vwCl[q]? = some r → u_Kn s r.1 r.2.1 r.2.2 (dC q) (dI q) := by
    refine ⟨fun q => if q = 0 then k0 else if q = 1 then k1 else if q = 2 then k2 else if q = 3 then k3 else if q = 4 then k4 else if q = 5 then k5 else k6, fun q => if q = 0 then i0 else if q = 1 then i1 else if q = 2 then i2 else if q = 3 then i3 else if q = 4 then i4 else if q = 5 then i5 else i6, ?_⟩
    intro q r hq
    match q, hq with
    | 0, hq => cases hq; exact hK0
    | 1, hq => cases hq; exact hK1
    | 2, hq => cases hq; exact hK2
    | 3, hq => cases hq; exact hK3
    | 4, hq => cases hq; exact hK4
    | 5, hq => cases hq; exact hK5
    | 6, hq => cases hq; exact hK6
    | q + 7, hq => simp [vwCl] at hq
  obtain ⟨cB, kB, pB, b1, b2, b3⟩ := Cond.arrayClass_spec (tb (w := .arrayClass .byte) 138 (by decide +kernel))
  obtain ⟨cI, kI, pI, n1, n2, n3⟩ := Cond.arrayClass_spec (tb (w := .arrayClass .int) 42 (by decide +kernel))
  obtain ⟨cZ, kZ, pZ, z1, z2, z3⟩ := Cond.arrayClass_spec (tb (w := .arrayClass .boolean) 99 (by decide +kernel))
  have hO : (Cond.arrayOver (.object RX5)).before #[Value.ref b] s = true := tb (w := .arrayOver (.object RX5)) 50 (by decide +kernel)
  obtain ⟨pO, cO, kO, o1, o2, o3, o4, o5⟩ := Cond.arrayOver_spec hO
  refine ⟨(dC, dI), cB, cI, cZ, cO, ⟨hKc, fun q r hq => ?_⟩, ⟨?_, va_AO.of hO⟩⟩
  · match q, hq with
    | 0, hq => cases hq; exact ⟨fun n z => ⟨fun k h => (by cases h), kB, b2, pB, b3⟩, b1⟩
    | 1, hq => cases hq; exact ⟨fun n z => ⟨fun k h => (by cases h), kI, n2, pI, n3⟩, n1⟩
    | 2, hq => cases hq; exact ⟨fun n z => ⟨fun k h => (by cases h), kZ, z2, pZ, z3⟩, z1⟩
    | 3, hq => cases hq; exact ⟨fun n z => ⟨fun k h => (by cases h), kO, o3, pO, o4⟩, ⟨kO, pO, o3, o4, o1, o5⟩⟩
    | q + 4, hq => simp [ka_tys] at hq
  · exact ⟨va_Nw.of rfl (tb 348 (by decide +kernel)), va_Nw.of rfl (tb 433 (by decide +kernel)), va_Nw.of rfl (tb 189 (by decide +kernel)), va_Nw.of rfl (tb 177 (by decide +kernel)), va_Nw.of rfl (tb 531 (by decide +kernel)), va_Nw.of rfl (tb 22 (by decide +kernel)), va_Nw.of rfl (tb 64 (by decide +kernel)), va_Nw.of rfl (tb 102 (by decide +kernel)), va_Nw.of rfl (tb 112 (by decide +kernel)), va_Nw.of rfl (tb 69 (by decide +kernel)), va_Nw.of rfl (tb 51 (by decide +kernel))⟩
set_option maxHeartbeats 4000000 in
set_option maxRecDepth 100000 in
/-- from the entry, for every script of at most 2560 ints, the law comes to its end with true -/
theorem whole_start {p : Program} {e : Env} {s : State} {m : MethodId} {below : List Frame} {meth : Method} {c : Code} (l : Launch) (hflags : l.flags = flags0) {b L : Nat} {xs : Nat → Int32} (hL : L ≤ 2560) (C0 : lw_At p s m meth c b L xs) : W p l e room_1 s m #[Value.ref b] below meth c s.heap [] 0 0 (lw_Z below #[Value.ref b] s) (entryFrame m ([Value.ref b] : List Value).toArray 4) := by
  obtain ⟨hx, hb, hr, hml, hown, hts, hX, hbl, hlocks, hgv⟩ := id C0
  have hb : c.code = cL_law := hb
  have hown : s.vm.findClass RL = some m.cls := hown
  have htsL : ∀ w ∈ wsL_law, w.before #[Value.ref b] s = true := fun w h => hts w (wsL_law_in w h)
  have tb : ∀ {w : Cond} (i : Nat), tables_1[i]? = some w → w.before #[Value.ref b] s = true := fun i h => hts _ (List.mem_append_right _ (List.mem_of_getElem? h))
  obtain ⟨D, cB, cI, cZ, cO, hK, hXX⟩ := law_tables hts
  have hA : ∀ q : Nat, s.heap.size ≤ q → (fun q : Nat => s.heap.size ≤ q) q := fun _ h => h
  have hS : va_S (fun q : Nat => s.heap.size ≤ q) s.heap s.heap [] := va_S.rf
  have hP : va_P D vwCl [] s.heap := fun k q h => by simp at h
  have hD : va_D (fun q : Nat => s.heap.size ≤ q) [] := ⟨fun i j p q h => by simp at h, fun k q h => by simp at h⟩
  have hl := lv_entry ([.ref b]) (n := 4) (Nat.le_of_ble_eq_true rfl)
  rw [lg_entry_eq]
  generalize (lg_sl ([.ref b]) ++ List.replicate (4 - (lg_sl ([.ref b])).length) Slot.unset).toArray = ls at hl ⊢
  have hl : lv_has ls 4 [(0, .ref b)] := hl
  refine va_new (ci := 5) (fs := [.null, .null, .null, .null, .null, .null, .int 0, .int 0, .int 0]) (C := RX8) (T := TX8) (N := 9) hx hb hts inX8 tyX8 tyX8_ok hown (tb (w := .classLink RL 7 RX8) 12 (by decide +kernel)) (tb (w := .instantiable RX8 9) 13 (by decide +kernel)) (tb (w := .initialized RX8) 1 (by decide +kernel)) hK hP hD hS hA rfl (by decide +kernel) (Nat.le_of_ble_eq_true rfl) (Nat.le_of_ble_eq_true rfl) dL_law_0 (fun q1 H hP hD hS => ?_)
  have hP : va_P D vwCl [(q1, .inr (5, [.null, .null, .null, .null, .null, .null, .int 0, .int 0, .int 0]))] H := hP
  have hD : va_D (fun q : Nat => s.heap.size ≤ q) [(q1, .inr (5, [.null, .null, .null, .null, .null, .null, .int 0, .int 0, .int 0]))] := hD
  refine W.widen (k := 1) (n := 9) (Nat.le_of_ble_eq_true rfl) (Nat.le_of_ble_eq_true rfl) ?_
  refine lv_dup hx hb dL_law_3 rfl ?_
  refine kd_C (wr := []) (va_runI (As := []) (rest := [.ref q1]) ⟨hx, hb, hml, hown, htsL⟩ (c8_init l D cB cI cZ cO q1 H.size) (cwI 0 htsL gL_law_X8_init rfl rfl rfl (tb (w := .initialized RX8) 1 (by decide +kernel)) (tb (w := .methodLink RL 9 yX8_init) 14 (by decide +kernel)) (tb (w := .instanceMethod yX8_init) 15 (by decide +kernel)) rfl (by decide +kernel) ⟨Nat.le_of_ble_eq_true rfl, Nat.le_of_ble_eq_true rfl⟩) ⟨kb_blindC, kb_preC hP hD hK hXX⟩ rfl rfl hl.1 rfl (lv_room (Nat.le_of_ble_eq_true rfl)) dL_law_4 ⟨Nat.le_of_ble_eq_true rfl, Nat.le_of_ble_eq_true rfl⟩) hP hD hS hA [0] [] rfl rfl rfl (by decide) (fun q2 H locs hq2 hP2 hD2 hS2 => ?_)
  subst hq2
  have hP : va_P D vwCl (wdO cB cI cZ cO q2 sT0 sT0 (fun _ => sT0) 0 0 sT0 (fun _ => 0) (fun _ => 0) 0 0 0 0 0 0 (fun _ => 0) (fun _ => 0) 0 0 0 0 0 0 0 0 0) H := hP2
  have hD : va_D (fun q : Nat => s.heap.size ≤ q) (wdO cB cI cZ cO q2 sT0 sT0 (fun _ => sT0) 0 0 sT0 (fun _ => 0) (fun _ => 0) 0 0 0 0 0 0 (fun _ => 0) (fun _ => 0) 0 0 0 0 0 0 0 0 0) := hD2
  have hS := hS2
  refine W.widen (k := 34) (n := 45089) (Nat.le_of_ble_eq_true rfl) (Nat.le_of_ble_eq_true rfl) ?_
  refine lv_astore_n (lv' := [(1, .ref (q2 0)), (0, .ref b)]) hx hb dL_law_7 rfl hl (by decide) rfl (fun ls hl => ?_)
  refine va_new (ci := 6) (fs := [.null, .null, .int 0, .null, .null, .null, .null, .int 0, .null, .null, .int 0, .null, .null, .null, .null, .null, .null, .null, .int 0, .int 0, .int 0, .null]) (C := RX9) (T := TX9) (N := 22) hx hb hts inX9 tyX9 tyX9_ok hown (tb (w := .classLink RL 10 RX9) 589 (by decide +kernel)) (tb (w := .instantiable RX9 22) 590 (by decide +kernel)) (tb (w := .initialized RX9) 7 (by decide +kernel)) hK hP hD hS hA rfl (by decide +kernel) (Nat.le_of_ble_eq_true rfl) (Nat.le_of_ble_eq_true rfl) dL_law_8 (fun q3 H hP hD hS => ?_)
  refine W.widen (k := 35) (n := 45111) (Nat.le_of_ble_eq_true rfl) (Nat.le_of_ble_eq_true rfl) ?_
  refine lv_dup hx hb dL_law_11 rfl ?_
  have hPc : va_P D vwCl [(q3, .inr (6, [.null, .null, .int 0, .null, .null, .null, .null, .int 0, .null, .null, .int 0, .null, .null, .null, .null, .null, .null, .null, .int 0, .int 0, .int 0, .null]))] H := hP.sub [34] rfl
  have hDc : va_D (fun q : Nat => s.heap.size ≤ q) [(q3, .inr (6, [.null, .null, .int 0, .null, .null, .null, .null, .int 0, .null, .null, .int 0, .null, .null, .null, .null, .null, .null, .null, .int 0, .int 0, .int 0, .null]))] := hD.sub [34] (by decide) rfl
  refine kd_C (wr := wdO cB cI cZ cO q2 sT0 sT0 (fun _ => sT0) 0 0 sT0 (fun _ => 0) (fun _ => 0) 0 0 0 0 0 0 (fun _ => 0) (fun _ => 0) 0 0 0 0 0 0 0 0 0) (va_runI (As := []) (rest := [.ref q3]) ⟨hx, hb, hml, hown, htsL⟩ (c9_init l D cB cI cZ cO q3 H.size) (cwI 0 htsL gL_law_X9_init rfl rfl rfl (tb (w := .initialized RX9) 7 (by decide +kernel)) (tb (w := .methodLink RL 12 yX9_init) 591 (by decide +kernel)) (tb (w := .instanceMethod yX9_init) 592 (by decide +kernel)) rfl (by decide +kernel) ⟨Nat.le_of_ble_eq_true rfl, Nat.le_of_ble_eq_true rfl⟩) ⟨kb_blindC, kb_preC hPc hDc hK hXX⟩ rfl rfl hl.1 rfl (lv_room (Nat.le_of_ble_eq_true rfl)) dL_law_12 ⟨Nat.le_of_ble_eq_true rfl, Nat.le_of_ble_eq_true rfl⟩) hP hD hS hA [34] [0, 1, 2, 3, 4, 5, 6, 7, 8, 9, 10, 11, 12, 13, 14, 15, 16, 17, 18, 19, 20, 21, 22, 23, 24, 25, 26, 27, 28, 29, 30, 31, 32, 33] rfl rfl rfl (by decide) (fun q4 H locs hq4 hP4 hD4 hS4 => ?_)
  subst hq4
  have hP : va_P D vwCl (wdO cB cI cZ cO q2 sT0 sT0 (fun _ => sT0) 0 0 sT0 (fun _ => 0) (fun _ => 0) 0 0 0 0 0 0 (fun _ => 0) (fun _ => 0) 0 0 0 0 0 0 0 0 0 ++ wdM cI cZ q4 (upd (fun _ => 0) 43 0) (fun _ => 0) 0 (fun _ => 0) (fun _ => 0) (fun _ => 0) (fun _ => 0) 0 (fun _ => 0) (fun _ => 0) 0 (fun _ => 0) (fun _ => 0) (fun _ => 0) (fun _ => 0) (fun _ => 0) (fun _ => 0) (fun _ => 0) 0 0 0 (fun _ => 0)) H := hP4
  have hD : va_D (fun q : Nat => s.heap.size ≤ q) (wdO cB cI cZ cO q2 sT0 sT0 (fun _ => sT0) 0 0 sT0 (fun _ => 0) (fun _ => 0) 0 0 0 0 0 0 (fun _ => 0) (fun _ => 0) 0 0 0 0 0 0 0 0 0 ++ wdM cI cZ q4 (upd (fun _ => 0) 43 0) (fun _ => 0) 0 (fun _ => 0) (fun _ => 0) (fun _ => 0) (fun _ => 0) 0 (fun _ => 0) (fun _ => 0) 0 (fun _ => 0) (fun _ => 0) (fun _ => 0) (fun _ => 0) (fun _ => 0) (fun _ => 0) (fun _ => 0) 0 0 0 (fun _ => 0)) := hD4
  have hS := hS4
  refine W.widen (k := 51) (n := 55782) (Nat.le_of_ble_eq_true rfl) (Nat.le_of_ble_eq_true rfl) ?_
  refine lv_astore_n (lv' := [(2, .ref (q4 0)), (1, .ref (q2 0)), (0, .ref b)]) hx hb dL_law_15 rfl hl (by decide) rfl (fun ls hl => ?_)
  refine lv_iconst (v := 0) hx hb dL_law_16 (by decide) ?_
  refine lv_istore_n (lv' := [(3, .int 0), (2, .ref (q4 0)), (1, .ref (q2 0)), (0, .ref b)]) hx hb dL_law_17 rfl hl (by decide) rfl (fun ls hl => ?_)
  exact law_loop hL C0 htsL hK hXX.1 (L + 1) 0 (Nat.zero_le L) (by omega) H locs ls ⟨sT0, sT0, fun _ => sT0, 0, 0, sT0, fun _ => 0, fun _ => 0, 0, 0, 0, 0, 0, 0, fun _ => 0, fun _ => 0, 0, 0, 0, 0, 0, 0, 0, 0, 0, upd (fun _ => 0) 43 0, fun _ => 0, 0, fun _ => 0, fun _ => 0, fun _ => 0, fun _ => 0, 0, fun _ => 0, fun _ => 0, 0, fun _ => 0, fun _ => 0, fun _ => 0, fun _ => 0, fun _ => 0, fun _ => 0, fun _ => 0, 0, 0, 0, fun _ => 0, rel_0, hP, hD⟩ hS (lv_sub hl [3, 2, 1, 0] rfl)
