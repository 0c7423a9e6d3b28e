set_option maxHeartbeats 4000000 in
set_option maxRecDepth 100000 in
theorem c7_length (l : Launch) (D : va_G) (cB cI cZ cO : ClassId) (h : Nat → Nat) (o : Nat) (sz : Nat) (v_bytes : Nat → Int32) (v_length : Int32) (v_place : Int32) (v_thread : Int32) (v_kind : Int32) (v_target : Int32) (v_value : Int32) (r0 : Int32) (hf : f7_length v_length = r0) : Met l yX7_length wsX7_length rm7_length (va_Pc [.ref (h o)] (kb_B D (ka_tys cB cI cZ cO) sz (wdT cB h o v_bytes v_length v_place v_thread v_kind v_target v_value))) (va_Qi (kb_post .int r0) (fun _ t => va_P D vwCl (wdT cB h o v_bytes v_length v_place v_thread v_kind v_target v_value) t.heap) (va_A (wdT cB h o v_bytes v_length v_place v_thread v_kind v_target v_value) sz)) 0 0 (va_A (wdT cB h o v_bytes v_length v_place v_thread v_kind v_target v_value) sz) := by
  refine kb_metZ (cc := cX7_length) (maxL := 1) (ty := .int) (by decide) rfl (Nat.le_of_ble_eq_true rfl) ?_
  intro p e s m args below meth c Q A ls H hx hb hml hown hts hK hN hP hD hS hA hl hend
  have hown : s.vm.findClass RX7 = some m.cls := hown
  have hl : lv_has ls 1 [(0, .ref (h o))] := hl
  have hin7 : ∀ w ∈ u_ws RX7 TX7 7, w ∈ wsX7_length := by decide +kernel
  rw [f7_length] at hf
  refine lv_aload_n hx hb dX7_length_0 rfl (lv_at hl 0 rfl) ?_
  refine va_get (D := D) (cl := vwCl) (ci := 4) (v := .int v_length) (C := RX7) (T := TX7) (N := 7) hx hb hts hin7 hown hK hP 0 rfl rfl 1 (by decide) (hts (.fieldLink RX7 15 "StepOrders$Text" "length" "I") (by decide +kernel)) (fun _ h9 => h9) rfl dX7_length_1 ?_
  subst hf
  exact hend _ _ _ _ rfl hP hS dX7_length_4

set_option maxHeartbeats 4000000 in
set_option maxRecDepth 100000 in
theorem c7_append (l : Launch) (D : va_G) (cB cI cZ cO : ClassId) (h : Nat → Nat) (o : Nat) (sz : Nat) (x1 : Int32) (v_bytes : Nat → Int32) (v_length : Int32) (v_place : Int32) (v_thread : Int32) (v_kind : Int32) (v_target : Int32) (v_value : Int32) (v_bytes' : Nat → Int32) (v_length' : Int32) (hf : f7_append v_bytes v_length x1 = some (v_bytes', v_length')) : Met l yX7_append wsX7_append rm7_append (va_Pc [.ref (h o), .int x1] (kb_B D (ka_tys cB cI cZ cO) sz (wdT cB h o v_bytes v_length v_place v_thread v_kind v_target v_value))) (va_Qv (fun (_ : Unit) => True) (fun _ t => va_P D vwCl (wdT cB h o (v_bytes') (v_length') v_place v_thread v_kind v_target v_value) t.heap) (va_A (wdT cB h o v_bytes v_length v_place v_thread v_kind v_target v_value) sz)) 0 0 (va_A (wdT cB h o v_bytes v_length v_place v_thread v_kind v_target v_value) sz) := by
  refine kb_metV (cc := cX7_append) (maxL := 2) (by decide) rfl (Nat.le_of_ble_eq_true rfl) ?_
  intro p e s m args below meth c Q A ls H hx hb hml hown hts hK hN hP hD hS hA hl hend
  have hown : s.vm.findClass RX7 = some m.cls := hown
  have hl : lv_has ls 2 [(0, .ref (h o)), (1, .int x1)] := hl
  have hin7 : ∀ w ∈ u_ws RX7 TX7 7, w ∈ wsX7_append := by decide +kernel
  rw [f7_append] at hf
  refine lv_aload_n hx hb dX7_append_0 rfl (lv_at hl 0 rfl) ?_
  refine va_get (D := D) (cl := vwCl) (ci := 4) (v := .int v_length) (C := RX7) (T := TX7) (N := 7) hx hb hts hin7 hown hK hP 0 rfl rfl 1 (by decide) (hts (.fieldLink RX7 15 "StepOrders$Text" "length" "I") (by decide +kernel)) (fun _ h9 => h9) rfl dX7_append_1 ?_
  refine lv_bipush (v := 120) hx hb dX7_append_4 (by decide) ?_
  refine lv_icmp_ge (tgt := 30) hx hb dX7_append_6 (by decide) (fun c1 => ?_) (fun c1 => ?_)
  · rw [if_pos c1] at hf
    obtain ⟨z1, y1⟩ := Prod.mk.inj (Option.some.inj hf)
    subst z1 y1
    exact hend _ _ _ _ hP hS dX7_append_30
  · rw [if_neg c1] at hf
    refine lv_aload_n hx hb dX7_append_9 rfl (lv_at hl 0 rfl) ?_
    refine va_get (D := D) (cl := vwCl) (ci := 4) (v := .ref (h (o + 1))) (C := RX7) (T := TX7) (N := 7) hx hb hts hin7 hown hK hP 0 rfl rfl 0 (by decide) (hts (.fieldLink RX7 9 "StepOrders$Text" "bytes" "[B") (by decide +kernel)) (fun _ h9 => h9) rfl dX7_append_10 ?_
    refine lv_aload_n hx hb dX7_append_13 rfl (lv_at hl 0 rfl) ?_
    refine va_get (D := D) (cl := vwCl) (ci := 4) (v := .int v_length) (C := RX7) (T := TX7) (N := 7) hx hb hts hin7 hown hK hP 0 rfl rfl 1 (by decide) (hts (.fieldLink RX7 15 "StepOrders$Text" "length" "I") (by decide +kernel)) (fun _ h9 => h9) rfl dX7_append_14 ?_
    refine lv_iload_n hx hb dX7_append_17 rfl (lv_at hl 1 rfl) ?_
    refine lv_i2b (v := x1.toInt8.toInt32) hx hb dX7_append_18 rfl ?_
    refine kb_bind hf (fun v2 hv2 hf => ?_)
    refine ka_bast (D := D) (cl := vwCl) hx hb hK hP hD hS 1 0 (f := v_bytes) (g := v2) rfl rfl (awr_in hv2) (awr_v hv2) dX7_append_19 (fun H locs hP hD hS => ?_)
    have hP : va_P D vwCl (wdT cB h o v2 v_length v_place v_thread v_kind v_target v_value) H := hP
    have hD : va_D A (wdT cB h o v2 v_length v_place v_thread v_kind v_target v_value) := hD
    refine lv_aload_n hx hb dX7_append_20 rfl (lv_at hl 0 rfl) ?_
    refine lv_dup hx hb dX7_append_21 rfl ?_
    refine va_get (D := D) (cl := vwCl) (ci := 4) (v := .int v_length) (C := RX7) (T := TX7) (N := 7) hx hb hts hin7 hown hK hP 0 rfl rfl 1 (by decide) (hts (.fieldLink RX7 15 "StepOrders$Text" "length" "I") (by decide +kernel)) (fun _ h9 => h9) rfl dX7_append_22 ?_
    refine lv_iconst (v := 1) hx hb dX7_append_25 (by decide) ?_
    refine lv_iadd hx hb dX7_append_26 ?_
    refine va_put (D := D) (cl := vwCl) (ci := 4) (v := .int (v_length + (1 : Int32))) (ty := .int) (C := RX7) (T := TX7) (N := 7) hx hb hts hin7 tyX7 tyX7_ok nmX7 hown hK hP hD hS 0 rfl rfl 1 (by decide) (hts (.fieldLink RX7 15 "StepOrders$Text" "length" "I") (by decide +kernel)) (fun _ h9 => h9) rfl (tyX7_ok 1 (by decide)) rfl rfl (Nat.le_of_ble_eq_true rfl) dX7_append_27 (fun H locs hP hD hS => ?_)
    have hP : va_P D vwCl (wdT cB h o v2 (v_length + (1 : Int32)) v_place v_thread v_kind v_target v_value) H := hP
    have hD : va_D A (wdT cB h o v2 (v_length + (1 : Int32)) v_place v_thread v_kind v_target v_value) := hD
    obtain ⟨z1, y1⟩ := Prod.mk.inj (Option.some.inj hf)
    subst z1 y1
    exact hend _ _ _ _ hP hS dX7_append_30

set_option maxHeartbeats 4000000 in
set_option maxRecDepth 100000 in
theorem c7_empty (l : Launch) (D : va_G) (cB cI cZ cO : ClassId) (h : Nat → Nat) (o : Nat) (sz : Nat) (v_bytes : Nat → Int32) (v_length : Int32) (v_place : Int32) (v_thread : Int32) (v_kind : Int32) (v_target : Int32) (v_value : Int32) (v_length' : Int32) (hf : f7_empty v_length = some (v_length')) : Met l yX7_empty wsX7_empty rm7_empty (va_Pc [.ref (h o)] (kb_B D (ka_tys cB cI cZ cO) sz (wdT cB h o v_bytes v_length v_place v_thread v_kind v_target v_value))) (va_Qv (fun (_ : Unit) => True) (fun _ t => va_P D vwCl (wdT cB h o v_bytes (v_length') v_place v_thread v_kind v_target v_value) t.heap) (va_A (wdT cB h o v_bytes v_length v_place v_thread v_kind v_target v_value) sz)) 0 0 (va_A (wdT cB h o v_bytes v_length v_place v_thread v_kind v_target v_value) sz) := by
  refine kb_metV (cc := cX7_empty) (maxL := 1) (by decide) rfl (Nat.le_of_ble_eq_true rfl) ?_
  intro p e s m args below meth c Q A ls H hx hb hml hown hts hK hN hP hD hS hA hl hend
  have hown : s.vm.findClass RX7 = some m.cls := hown
  have hl : lv_has ls 1 [(0, .ref (h o))] := hl
  have hin7 : ∀ w ∈ u_ws RX7 TX7 7, w ∈ wsX7_empty := by decide +kernel
  rw [f7_empty] at hf
  refine lv_aload_n hx hb dX7_empty_0 rfl (lv_at hl 0 rfl) ?_
  refine lv_iconst (v := 0) hx hb dX7_empty_1 (by decide) ?_
  refine va_put (D := D) (cl := vwCl) (ci := 4) (v := .int (0 : Int32)) (ty := .int) (C := RX7) (T := TX7) (N := 7) hx hb hts hin7 tyX7 tyX7_ok nmX7 hown hK hP hD hS 0 rfl rfl 1 (by decide) (hts (.fieldLink RX7 15 "StepOrders$Text" "length" "I") (by decide +kernel)) (fun _ h9 => h9) rfl (tyX7_ok 1 (by decide)) rfl rfl (Nat.le_of_ble_eq_true rfl) dX7_empty_2 (fun H locs hP hD hS => ?_)
  have hP : va_P D vwCl (wdT cB h o v_bytes (0 : Int32) v_place v_thread v_kind v_target v_value) H := hP
  have hD : va_D A (wdT cB h o v_bytes (0 : Int32) v_place v_thread v_kind v_target v_value) := hD
  obtain rfl := Option.some.inj hf
  exact hend _ _ _ _ hP hS dX7_empty_5

set_option maxHeartbeats 4000000 in
set_option maxRecDepth 100000 in
theorem c7_takesValue (l : Launch) (D : va_G) (cB cI cZ cO : ClassId) (h : Nat → Nat) (o : Nat) (sz : Nat) (x1 : Int32) (v_bytes : Nat → Int32) (v_length : Int32) (v_place : Int32) (v_thread : Int32) (v_kind : Int32) (v_target : Int32) (v_value : Int32) (r0 : Int32) (v_place' : Int32) (v_value' : Int32) (hf : f7_takesValue v_place v_kind v_value x1 = some (r0, v_place', v_value')) : Met l yX7_takesValue wsX7_takesValue rm7_takesValue (va_Pc [.ref (h o), .int x1] (kb_B D (ka_tys cB cI cZ cO) sz (wdT cB h o v_bytes v_length v_place v_thread v_kind v_target v_value))) (va_Qi (kb_post .boolean r0) (fun _ t => va_P D vwCl (wdT cB h o v_bytes v_length (v_place') v_thread v_kind v_target (v_value')) t.heap) (va_A (wdT cB h o v_bytes v_length v_place v_thread v_kind v_target v_value) sz)) 0 0 (va_A (wdT cB h o v_bytes v_length v_place v_thread v_kind v_target v_value) sz) := by
  refine kb_metZ (cc := cX7_takesValue) (maxL := 2) (ty := .boolean) (by decide) rfl (Nat.le_of_ble_eq_true rfl) ?_
  intro p e s m args below meth c Q A ls H hx hb hml hown hts hK hN hP hD hS hA hl hend
  have hown : s.vm.findClass RX7 = some m.cls := hown
  have hl : lv_has ls 2 [(0, .ref (h o)), (1, .int x1)] := hl
  have hin7 : ∀ w ∈ u_ws RX7 TX7 7, w ∈ wsX7_takesValue := by decide +kernel
  have J44 : ∀ (v_place : Int32) (v_value : Int32) (s0 : Int32) (s1 : Int32) (H : Heap) (locs : List Loc) (ls : Array Slot), f7_takesValue_b44 v_place v_kind v_value s0 s1 = some (r0, v_place', v_value') → va_P D vwCl (wdT cB h o v_bytes v_length v_place v_thread v_kind v_target v_value) H → va_D A (wdT cB h o v_bytes v_length v_place v_thread v_kind v_target v_value) → va_S A s.heap H locs → lv_has ls 2 [] → W p l e rm7_takesValue s m args below meth c H locs 0 0 Q (F0 m 44 ls [.int s1, .int s0]) := by
    intro v_place v_value s0 s1 H locs ls hf hP hD hS hl
    rw [f7_takesValue_b44] at hf
    have hPc : va_P D vwCl ([]) H := hP.sub [] rfl
    have hDc : va_D A ([]) := hD.sub [] (by decide) rfl
    refine kd_iR (va_runSN (As := [.int s0, .int s1]) (rest := []) ⟨hx, hb, hml, hown, hts⟩ (c8_below l D cB cI cZ cO h H.size s0 s1 (f8_below s0 s1) rfl) ⟨va_cnB 2 hts gX7_takesValue_X8_below_n48 rfl rfl rfl hN.2.2.2.2.1 (hts (.initialized RX8) (by decide +kernel)) (by decide +kernel) ⟨Nat.le_of_ble_eq_true rfl, Nat.le_of_ble_eq_true rfl⟩, hts (.static yX8_below) (by decide +kernel), trivial⟩ ⟨kb_blind, kb_pre hPc hDc hK hN⟩ rfl rfl hl.1 rfl (lv_room (Nat.le_of_ble_eq_true rfl)) dX7_takesValue_44 ⟨Nat.le_refl _, Nat.le_refl _⟩) hP hD hS hA [] rfl (fun H locs hn2 hP hS => ?_)
    obtain ⟨z1, y1⟩ := Prod.mk.inj (Option.some.inj hf)
    obtain ⟨z2, y2⟩ := Prod.mk.inj y1
    subst z1 z2 y2
    exact hend _ _ _ _ hn2 hP hS dX7_takesValue_47
  have J17 : ∀ (v_place : Int32) (v_value : Int32) (s1 : Int32) (s2 : Int32) (H : Heap) (locs : List Loc) (ls : Array Slot), f7_takesValue_b17 v_place v_kind v_value s1 s2 = some (r0, v_place', v_value') → va_P D vwCl (wdT cB h o v_bytes v_length v_place v_thread v_kind v_target v_value) H → va_D A (wdT cB h o v_bytes v_length v_place v_thread v_kind v_target v_value) → va_S A s.heap H locs → lv_has ls 2 [(0, .ref (h o))] → W p l e rm7_takesValue s m args below meth c H locs 0 0 Q (F0 m 17 ls [.int s2, .int s1, .ref (h o)]) := by
    intro v_place v_value s1 s2 H locs ls hf hP hD hS hl
    rw [f7_takesValue_b17] at hf
    refine lv_isub hx hb dX7_takesValue_17 ?_
    refine va_put (D := D) (cl := vwCl) (ci := 4) (v := .int (s1 - s2)) (ty := .int) (C := RX7) (T := TX7) (N := 7) hx hb hts hin7 tyX7 tyX7_ok nmX7 hown hK hP hD hS 0 rfl rfl 6 (by decide) (hts (.fieldLink RX7 73 "StepOrders$Text" "value" "I") (by decide +kernel)) (fun _ h9 => h9) rfl (tyX7_ok 6 (by decide)) rfl rfl (Nat.le_of_ble_eq_true rfl) dX7_takesValue_18 (fun H locs hP hD hS => ?_)
    have hP : va_P D vwCl (wdT cB h o v_bytes v_length v_place v_thread v_kind v_target (s1 - s2)) H := hP
    have hD : va_D A (wdT cB h o v_bytes v_length v_place v_thread v_kind v_target (s1 - s2)) := hD
    refine lv_aload_n hx hb dX7_takesValue_21 rfl (lv_at hl 0 rfl) ?_
    refine lv_iconst (v := 4) hx hb dX7_takesValue_22 (by decide) ?_
    refine va_put (D := D) (cl := vwCl) (ci := 4) (v := .int (4 : Int32)) (ty := .int) (C := RX7) (T := TX7) (N := 7) hx hb hts hin7 tyX7 tyX7_ok nmX7 hown hK hP hD hS 0 rfl rfl 2 (by decide) (hts (.fieldLink RX7 25 "StepOrders$Text" "place" "I") (by decide +kernel)) (fun _ h9 => h9) rfl (tyX7_ok 2 (by decide)) rfl rfl (Nat.le_of_ble_eq_true rfl) dX7_takesValue_23 (fun H locs hP hD hS => ?_)
    have hP : va_P D vwCl (wdT cB h o v_bytes v_length (4 : Int32) v_thread v_kind v_target (s1 - s2)) H := hP
    have hD : va_D A (wdT cB h o v_bytes v_length (4 : Int32) v_thread v_kind v_target (s1 - s2)) := hD
    refine lv_aload_n hx hb dX7_takesValue_26 rfl (lv_at hl 0 rfl) ?_
    refine va_get (D := D) (cl := vwCl) (ci := 4) (v := .int (s1 - s2)) (C := RX7) (T := TX7) (N := 7) hx hb hts hin7 hown hK hP 0 rfl rfl 6 (by decide) (hts (.fieldLink RX7 73 "StepOrders$Text" "value" "I") (by decide +kernel)) (fun _ h9 => h9) rfl dX7_takesValue_27 ?_
    refine lv_aload_n hx hb dX7_takesValue_30 rfl (lv_at hl 0 rfl) ?_
    refine va_get (D := D) (cl := vwCl) (ci := 4) (v := .int v_kind) (C := RX7) (T := TX7) (N := 7) hx hb hts hin7 hown hK hP 0 rfl rfl 4 (by decide) (hts (.fieldLink RX7 62 "StepOrders$Text" "kind" "I") (by decide +kernel)) (fun _ h9 => h9) rfl dX7_takesValue_31 ?_
    refine lv_iconst (v := 2) hx hb dX7_takesValue_34 (by decide) ?_
    refine lv_icmp_ne (tgt := 42) hx hb dX7_takesValue_35 (by decide) (fun c4 => ?_) (fun c4 => ?_)
    · rw [if_neg c4] at hf
      refine lv_bipush (v := 10) hx hb dX7_takesValue_42 (by decide) ?_
      exact J44 (4 : Int32) (s1 - s2) (s1 - s2) (10 : Int32) _ _ _ hf hP hD hS (lv_sub hl [] rfl)
    · rw [if_pos c4] at hf
      refine lv_iconst (v := 4) hx hb dX7_takesValue_38 (by decide) ?_
      refine lv_goto (tgt := 44) hx hb dX7_takesValue_39 (by decide) ?_
      exact J44 (4 : Int32) (s1 - s2) (s1 - s2) (4 : Int32) _ _ _ hf hP hD hS (lv_sub hl [] rfl)
  rw [f7_takesValue] at hf
  refine lv_aload_n hx hb dX7_takesValue_0 rfl (lv_at hl 0 rfl) ?_
  refine lv_iload_n hx hb dX7_takesValue_1 rfl (lv_at hl 1 rfl) ?_
  refine lv_aload_n hx hb dX7_takesValue_2 rfl (lv_at hl 0 rfl) ?_
  refine va_get (D := D) (cl := vwCl) (ci := 4) (v := .int v_kind) (C := RX7) (T := TX7) (N := 7) hx hb hts hin7 hown hK hP 0 rfl rfl 4 (by decide) (hts (.fieldLink RX7 62 "StepOrders$Text" "kind" "I") (by decide +kernel)) (fun _ h9 => h9) rfl dX7_takesValue_3 ?_
  refine lv_iconst (v := 2) hx hb dX7_takesValue_6 (by decide) ?_
  refine lv_icmp_ne (tgt := 15) hx hb dX7_takesValue_7 (by decide) (fun c5 => ?_) (fun c5 => ?_)
  · rw [if_neg c5] at hf
    refine lv_bipush (v := 48) hx hb dX7_takesValue_15 (by decide) ?_
    exact J17 v_place v_value x1 (48 : Int32) _ _ _ hf hP hD hS (lv_sub hl [0] rfl)
  · rw [if_pos c5] at hf
    refine lv_bipush (v := 97) hx hb dX7_takesValue_10 (by decide) ?_
    refine lv_goto (tgt := 17) hx hb dX7_takesValue_12 (by decide) ?_
    exact J17 v_place v_value x1 (97 : Int32) _ _ _ hf hP hD hS (lv_sub hl [0] rfl)

set_option maxHeartbeats 4000000 in
set_option maxRecDepth 100000 in
theorem c7_takesTarget (l : Launch) (D : va_G) (cB cI cZ cO : ClassId) (h : Nat → Nat) (o : Nat) (sz : Nat) (x1 : Int32) (v_bytes : Nat → Int32) (v_length : Int32) (v_place : Int32) (v_thread : Int32) (v_kind : Int32) (v_target : Int32) (v_value : Int32) (r0 : Int32) (v_place' : Int32) (v_target' : Int32) (v_value' : Int32) (hf : f7_takesTarget v_place v_kind v_target v_value x1 = some (r0, v_place', v_target', v_value')) : Met l yX7_takesTarget wsX7_takesTarget rm7_takesTarget (va_Pc [.ref (h o), .int x1] (kb_B D (ka_tys cB cI cZ cO) sz (wdT cB h o v_bytes v_length v_place v_thread v_kind v_target v_value))) (va_Qi (kb_post .boolean r0) (fun _ t => va_P D vwCl (wdT cB h o v_bytes v_length (v_place') v_thread v_kind (v_target') (v_value')) t.heap) (va_A (wdT cB h o v_bytes v_length v_place v_thread v_kind v_target v_value) sz)) 0 0 (va_A (wdT cB h o v_bytes v_length v_place v_thread v_kind v_target v_value) sz) := by
  refine kb_metZ (cc := cX7_takesTarget) (maxL := 3) (ty := .boolean) (by decide) rfl (Nat.le_of_ble_eq_true rfl) ?_
  intro p e s m args below meth c Q A ls H hx hb hml hown hts hK hN hP hD hS hA hl hend
  have hown : s.vm.findClass RX7 = some m.cls := hown
  have hl : lv_has ls 3 [(0, .ref (h o)), (1, .int x1)] := hl
  have hin7 : ∀ w ∈ u_ws RX7 TX7 7, w ∈ wsX7_takesTarget := by decide +kernel
  have J56 : ∀ (v_place : Int32) (v_target : Int32) (v_value : Int32) (s0 : Int32) (s1 : Int32) (H : Heap) (locs : List Loc) (ls : Array Slot), f7_takesTarget_b56 v_place v_kind v_target v_value s0 s1 = some (r0, v_place', v_target', v_value') → va_P D vwCl (wdT cB h o v_bytes v_length v_place v_thread v_kind v_target v_value) H → va_D A (wdT cB h o v_bytes v_length v_place v_thread v_kind v_target v_value) → va_S A s.heap H locs → lv_has ls 3 [] → W p l e rm7_takesTarget s m args below meth c H locs 0 0 Q (F0 m 56 ls [.int s1, .int s0]) := by
    intro v_place v_target v_value s0 s1 H locs ls hf hP hD hS hl
    rw [f7_takesTarget_b56] at hf
    have hPc : va_P D vwCl ([]) H := hP.sub [] rfl
    have hDc : va_D A ([]) := hD.sub [] (by decide) rfl
    refine kd_iR (va_runSN (As := [.int s0, .int s1]) (rest := []) ⟨hx, hb, hml, hown, hts⟩ (c8_below l D cB cI cZ cO h H.size s0 s1 (f8_below s0 s1) rfl) ⟨va_cnB 2 hts gX7_takesTarget_X8_below_n48 rfl rfl rfl hN.2.2.2.2.1 (hts (.initialized RX8) (by decide +kernel)) (by decide +kernel) ⟨Nat.le_of_ble_eq_true rfl, Nat.le_of_ble_eq_true rfl⟩, hts (.static yX8_below) (by decide +kernel), trivial⟩ ⟨kb_blind, kb_pre hPc hDc hK hN⟩ rfl rfl hl.1 rfl (lv_room (Nat.le_of_ble_eq_true rfl)) dX7_takesTarget_56 ⟨Nat.le_refl _, Nat.le_refl _⟩) hP hD hS hA [] rfl (fun H locs hn2 hP hS => ?_)
    obtain ⟨z1, y1⟩ := Prod.mk.inj (Option.some.inj hf)
    obtain ⟨z2, y2⟩ := Prod.mk.inj y1
    obtain ⟨z3, y3⟩ := Prod.mk.inj y2
    subst z1 z2 z3 y3
    exact hend _ _ _ _ hn2 hP hS dX7_takesTarget_59
  have J40 : ∀ (v_place : Int32) (v_target : Int32) (v_value : Int32) (x2 : Int32) (s1 : Int32) (H : Heap) (locs : List Loc) (ls : Array Slot), f7_takesTarget_b40 v_place v_kind v_target v_value x2 s1 = some (r0, v_place', v_target', v_value') → va_P D vwCl (wdT cB h o v_bytes v_length v_place v_thread v_kind v_target v_value) H → va_D A (wdT cB h o v_bytes v_length v_place v_thread v_kind v_target v_value) → va_S A s.heap H locs → lv_has ls 3 [(0, .ref (h o)), (2, .int x2)] → W p l e rm7_takesTarget s m args below meth c H locs 0 0 Q (F0 m 40 ls [.int s1, .ref (h o)]) := by
    intro v_place v_target v_value x2 s1 H locs ls hf hP hD hS hl
    rw [f7_takesTarget_b40] at hf
    refine va_put (D := D) (cl := vwCl) (ci := 4) (v := .int s1) (ty := .int) (C := RX7) (T := TX7) (N := 7) hx hb hts hin7 tyX7 tyX7_ok nmX7 hown hK hP hD hS 0 rfl rfl 2 (by decide) (hts (.fieldLink RX7 25 "StepOrders$Text" "place" "I") (by decide +kernel)) (fun _ h9 => h9) rfl (tyX7_ok 2 (by decide)) rfl rfl (Nat.le_of_ble_eq_true rfl) dX7_takesTarget_40 (fun H locs hP hD hS => ?_)
    have hP : va_P D vwCl (wdT cB h o v_bytes v_length s1 v_thread v_kind v_target v_value) H := hP
    have hD : va_D A (wdT cB h o v_bytes v_length s1 v_thread v_kind v_target v_value) := hD
    refine lv_aload_n hx hb dX7_takesTarget_43 rfl (lv_at hl 0 rfl) ?_
    refine va_get (D := D) (cl := vwCl) (ci := 4) (v := .int v_target) (C := RX7) (T := TX7) (N := 7) hx hb hts hin7 hown hK hP 0 rfl rfl 5 (by decide) (hts (.fieldLink RX7 70 "StepOrders$Text" "target" "I") (by decide +kernel)) (fun _ h9 => h9) rfl dX7_takesTarget_44 ?_
    refine lv_iload_n hx hb dX7_takesTarget_47 rfl (lv_at hl 1 rfl) ?_
    refine lv_if_eq (tgt := 55) hx hb dX7_takesTarget_48 (by decide) (fun c4 => ?_) (fun c4 => ?_)
    · rw [if_pos c4] at hf
      refine lv_iconst (v := 4) hx hb dX7_takesTarget_55 (by decide) ?_
      exact J56 s1 v_target v_value v_target (4 : Int32) _ _ _ hf hP hD hS (lv_sub hl [] rfl)
    · rw [if_neg c4] at hf
      refine lv_iconst (v := 2) hx hb dX7_takesTarget_51 (by decide) ?_
      refine lv_goto (tgt := 56) hx hb dX7_takesTarget_52 (by decide) ?_
      exact J56 s1 v_target v_value v_target (2 : Int32) _ _ _ hf hP hD hS (lv_sub hl [] rfl)
  have J21 : ∀ (v_place : Int32) (v_target : Int32) (v_value : Int32) (x2 : Int32) (s1 : Int32) (s2 : Int32) (H : Heap) (locs : List Loc) (ls : Array Slot), f7_takesTarget_b21 v_place v_kind v_target v_value x2 s1 s2 = some (r0, v_place', v_target', v_value') → va_P D vwCl (wdT cB h o v_bytes v_length v_place v_thread v_kind v_target v_value) H → va_D A (wdT cB h o v_bytes v_length v_place v_thread v_kind v_target v_value) → va_S A s.heap H locs → lv_has ls 3 [(0, .ref (h o)), (2, .int x2)] → W p l e rm7_takesTarget s m args below meth c H locs 0 0 Q (F0 m 21 ls [.int s2, .int s1, .ref (h o)]) := by
    intro v_place v_target v_value x2 s1 s2 H locs ls hf hP hD hS hl
    rw [f7_takesTarget_b21] at hf
    refine lv_isub hx hb dX7_takesTarget_21 ?_
    refine va_put (D := D) (cl := vwCl) (ci := 4) (v := .int (s1 - s2)) (ty := .int) (C := RX7) (T := TX7) (N := 7) hx hb hts hin7 tyX7 tyX7_ok nmX7 hown hK hP hD hS 0 rfl rfl 5 (by decide) (hts (.fieldLink RX7 70 "StepOrders$Text" "target" "I") (by decide +kernel)) (fun _ h9 => h9) rfl (tyX7_ok 5 (by decide)) rfl rfl (Nat.le_of_ble_eq_true rfl) dX7_takesTarget_22 (fun H locs hP hD hS => ?_)
    have hP : va_P D vwCl (wdT cB h o v_bytes v_length v_place v_thread v_kind (s1 - s2) v_value) H := hP
    have hD : va_D A (wdT cB h o v_bytes v_length v_place v_thread v_kind (s1 - s2) v_value) := hD
    refine lv_aload_n hx hb dX7_takesTarget_25 rfl (lv_at hl 0 rfl) ?_
    refine lv_iconst (v := 0) hx hb dX7_takesTarget_26 (by decide) ?_
    refine va_put (D := D) (cl := vwCl) (ci := 4) (v := .int (0 : Int32)) (ty := .int) (C := RX7) (T := TX7) (N := 7) hx hb hts hin7 tyX7 tyX7_ok nmX7 hown hK hP hD hS 0 rfl rfl 6 (by decide) (hts (.fieldLink RX7 73 "StepOrders$Text" "value" "I") (by decide +kernel)) (fun _ h9 => h9) rfl (tyX7_ok 6 (by decide)) rfl rfl (Nat.le_of_ble_eq_true rfl) dX7_takesTarget_27 (fun H locs hP hD hS => ?_)
    have hP : va_P D vwCl (wdT cB h o v_bytes v_length v_place v_thread v_kind (s1 - s2) (0 : Int32)) H := hP
    have hD : va_D A (wdT cB h o v_bytes v_length v_place v_thread v_kind (s1 - s2) (0 : Int32)) := hD
    refine lv_aload_n hx hb dX7_takesTarget_30 rfl (lv_at hl 0 rfl) ?_
    refine lv_iload_n hx hb dX7_takesTarget_31 rfl (lv_at hl 1 rfl) ?_
    refine lv_if_eq (tgt := 39) hx hb dX7_takesTarget_32 (by decide) (fun c6 => ?_) (fun c6 => ?_)
    · rw [if_pos c6] at hf
      refine lv_iconst (v := 3) hx hb dX7_takesTarget_39 (by decide) ?_
      exact J40 v_place (s1 - s2) (0 : Int32) x2 (3 : Int32) _ _ _ hf hP hD hS (lv_sub hl [0, 1] rfl)
    · rw [if_neg c6] at hf
      refine lv_iconst (v := 4) hx hb dX7_takesTarget_35 (by decide) ?_
      refine lv_goto (tgt := 40) hx hb dX7_takesTarget_36 (by decide) ?_
      exact J40 v_place (s1 - s2) (0 : Int32) x2 (4 : Int32) _ _ _ hf hP hD hS (lv_sub hl [0, 1] rfl)
  rw [f7_takesTarget] at hf
  refine lv_aload_n hx hb dX7_takesTarget_0 rfl (lv_at hl 0 rfl) ?_
  refine va_get (D := D) (cl := vwCl) (ci := 4) (v := .int v_kind) (C := RX7) (T := TX7) (N := 7) hx hb hts hin7 hown hK hP 0 rfl rfl 4 (by decide) (hts (.fieldLink RX7 62 "StepOrders$Text" "kind" "I") (by decide +kernel)) (fun _ h9 => h9) rfl dX7_takesTarget_1 ?_
  have hPc : va_P D vwCl ([]) H := hP.sub [] rfl
  have hDc : va_D A ([]) := hD.sub [] (by decide) rfl
  refine kd_iR (va_runS (As := [.int v_kind]) (rest := []) ⟨hx, hb, hml, hown, hts⟩ (c6_isLocking l D cB cI cZ cO h H.size v_kind (f6_isLocking v_kind) rfl) (va_cwS 1 hts gX7_takesTarget_X6_isLocking rfl rfl rfl (by decide +kernel) ⟨Nat.le_of_ble_eq_true rfl, Nat.le_of_ble_eq_true rfl⟩) ⟨kb_blind, kb_pre hPc hDc hK hN⟩ rfl rfl hl.1 rfl (lv_room (Nat.le_of_ble_eq_true rfl)) dX7_takesTarget_4 ⟨Nat.le_refl _, Nat.le_refl _⟩) hP hD hS hA [] rfl (fun H locs hn7 hP hS => ?_)
  refine lv_istore_n (lv' := [(2, .int (f6_isLocking v_kind)), (0, .ref (h o)), (1, .int x1)]) hx hb dX7_takesTarget_7 rfl hl (by decide) rfl (fun ls hl => ?_)
  refine lv_aload_n hx hb dX7_takesTarget_8 rfl (lv_at hl 1 rfl) ?_
  refine lv_iload_n hx hb dX7_takesTarget_9 rfl (lv_at hl 2 rfl) ?_
  refine lv_iload_n hx hb dX7_takesTarget_10 rfl (lv_at hl 0 rfl) ?_
  refine lv_if_eq (tgt := 19) hx hb dX7_takesTarget_11 (by decide) (fun c8 => ?_) (fun c8 => ?_)
  · rw [if_pos c8] at hf
    refine lv_bipush (v := 97) hx hb dX7_takesTarget_19 (by decide) ?_
    exact J21 v_place v_target v_value (f6_isLocking v_kind) x1 (97 : Int32) _ _ _ hf hP hD hS (lv_sub hl [1, 0] rfl)
  · rw [if_neg c8] at hf
    refine lv_bipush (v := 48) hx hb dX7_takesTarget_14 (by decide) ?_
    refine lv_goto (tgt := 21) hx hb dX7_takesTarget_16 (by decide) ?_
    exact J21 v_place v_target v_value (f6_isLocking v_kind) x1 (48 : Int32) _ _ _ hf hP hD hS (lv_sub hl [1, 0] rfl)

set_option maxHeartbeats 4000000 in
set_option maxRecDepth 100000 in
theorem c7_kindOf (l : Launch) (D : va_G) (cB cI cZ cO : ClassId) (h : Nat → Nat) (sz : Nat) (x0 : Int32) (r0 : Int32) (hf : f7_kindOf x0 = r0) : Met l yX7_kindOf wsX7_kindOf rm7_kindOf (va_Pc [.int x0] (kb_B D (ka_tys cB cI cZ cO) sz ([]))) (va_Qi (kb_post .int r0) (fun _ t => va_P D vwCl ([]) t.heap) (va_A ([]) sz)) 0 0 (va_A ([]) sz) := by
  refine kb_metZ (cc := cX7_kindOf) (maxL := 1) (ty := .int) (by decide) rfl (Nat.le_of_ble_eq_true rfl) ?_
  intro p e s m args below meth c Q A ls H hx hb hml hown hts hK hN hP hD hS hA hl hend
  have hown : s.vm.findClass RX7 = some m.cls := hown
  have hl : lv_has ls 1 [(0, .int x0)] := hl
  rw [f7_kindOf] at hf
  refine lv_iload_n hx hb dX7_kindOf_0 rfl (lv_at hl 0 rfl) ?_
  by_cases c1_0 : x0 = 97
  · rw [if_pos c1_0] at hf
    refine lv_lookup (tgt := 62) (off := 61) hx hb dX7_kindOf_1 (by decide) (by rw [c1_0]; decide) (by decide) ?_
    refine lv_iconst (v := 1) hx hb dX7_kindOf_62 (by decide) ?_
    subst hf
    exact hend _ _ _ _ rfl hP hS dX7_kindOf_63
  rw [if_neg c1_0] at hf
  by_cases c1_1 : x0 = 99
  · rw [if_pos c1_1] at hf
    refine lv_lookup (tgt := 64) (off := 63) hx hb dX7_kindOf_1 (by decide) (by rw [c1_1]; decide) (by decide) ?_
    refine lv_iconst (v := 2) hx hb dX7_kindOf_64 (by decide) ?_
    subst hf
    exact hend _ _ _ _ rfl hP hS dX7_kindOf_65
  rw [if_neg c1_1] at hf
  by_cases c1_2 : x0 = 102
  · rw [if_pos c1_2] at hf
    refine lv_lookup (tgt := 70) (off := 69) hx hb dX7_kindOf_1 (by decide) (by rw [c1_2]; decide) (by decide) ?_
    refine lv_iconst (v := 5) hx hb dX7_kindOf_70 (by decide) ?_
    subst hf
    exact hend _ _ _ _ rfl hP hS dX7_kindOf_71
  rw [if_neg c1_2] at hf
  by_cases c1_3 : x0 = 107
  · rw [if_pos c1_3] at hf
    refine lv_lookup (tgt := 66) (off := 65) hx hb dX7_kindOf_1 (by decide) (by rw [c1_3]; decide) (by decide) ?_
    refine lv_iconst (v := 3) hx hb dX7_kindOf_66 (by decide) ?_
    subst hf
    exact hend _ _ _ _ rfl hP hS dX7_kindOf_67
  rw [if_neg c1_3] at hf
  by_cases c1_4 : x0 = 108
  · rw [if_pos c1_4] at hf
    refine lv_lookup (tgt := 68) (off := 67) hx hb dX7_kindOf_1 (by decide) (by rw [c1_4]; decide) (by decide) ?_
    refine lv_iconst (v := 4) hx hb dX7_kindOf_68 (by decide) ?_
    subst hf
    exact hend _ _ _ _ rfl hP hS dX7_kindOf_69
  rw [if_neg c1_4] at hf
  by_cases c1_5 : x0 = 119
  · rw [if_pos c1_5] at hf
    refine lv_lookup (tgt := 60) (off := 59) hx hb dX7_kindOf_1 (by decide) (by rw [c1_5]; decide) (by decide) ?_
    refine lv_iconst (v := 0) hx hb dX7_kindOf_60 (by decide) ?_
    subst hf
    exact hend _ _ _ _ rfl hP hS dX7_kindOf_61
  rw [if_neg c1_5] at hf
  refine lv_lookup (tgt := 72) (off := 71) hx hb dX7_kindOf_1 (by decide) (show Op.lookupswitch.offset [(97, 61), (99, 63), (102, 69), (107, 65), (108, 67), (119, 59)] 71 _ = 71 from ((lv_osw (a := 97) c1_0 rfl).trans ((lv_osw (a := 99) c1_1 rfl).trans ((lv_osw (a := 102) c1_2 rfl).trans ((lv_osw (a := 107) c1_3 rfl).trans ((lv_osw (a := 108) c1_4 rfl).trans ((lv_osw (a := 119) c1_5 rfl).trans rfl))))))) (by decide) ?_
  refine lv_iconst (v := (-1)) hx hb dX7_kindOf_72 (by decide) ?_
  subst hf
  exact hend _ _ _ _ rfl hP hS dX7_kindOf_73

set_option maxHeartbeats 4000000 in
set_option maxRecDepth 100000 in
theorem c7_takesKind (l : Launch) (D : va_G) (cB cI cZ cO : ClassId) (h : Nat → Nat) (o : Nat) (sz : Nat) (x1 : Int32) (v_bytes : Nat → Int32) (v_length : Int32) (v_place : Int32) (v_thread : Int32) (v_kind : Int32) (v_target : Int32) (v_value : Int32) (r0 : Int32) (v_place' : Int32) (v_kind' : Int32) (hf : f7_takesKind v_place v_kind x1 = some (r0, v_place', v_kind')) : Met l yX7_takesKind wsX7_takesKind rm7_takesKind (va_Pc [.ref (h o), .int x1] (kb_B D (ka_tys cB cI cZ cO) sz (wdT cB h o v_bytes v_length v_place v_thread v_kind v_target v_value))) (va_Qi (kb_post .boolean r0) (fun _ t => va_P D vwCl (wdT cB h o v_bytes v_length (v_place') v_thread (v_kind') v_target v_value) t.heap) (va_A (wdT cB h o v_bytes v_length v_place v_thread v_kind v_target v_value) sz)) 0 0 (va_A (wdT cB h o v_bytes v_length v_place v_thread v_kind v_target v_value) sz) := by
  refine kb_metZ (cc := cX7_takesKind) (maxL := 2) (ty := .boolean) (by decide) rfl (Nat.le_of_ble_eq_true rfl) ?_
  intro p e s m args below meth c Q A ls H hx hb hml hown hts hK hN hP hD hS hA hl hend
  have hown : s.vm.findClass RX7 = some m.cls := hown
  have hl : lv_has ls 2 [(0, .ref (h o)), (1, .int x1)] := hl
  have hin7 : ∀ w ∈ u_ws RX7 TX7 7, w ∈ wsX7_takesKind := by decide +kernel
  rw [f7_takesKind] at hf
  refine lv_aload_n hx hb dX7_takesKind_0 rfl (lv_at hl 0 rfl) ?_
  refine lv_iload_n hx hb dX7_takesKind_1 rfl (lv_at hl 1 rfl) ?_
  have hPc : va_P D vwCl ([]) H := hP.sub [] rfl
  have hDc : va_D A ([]) := hD.sub [] (by decide) rfl
  refine kd_iR (va_runS (As := [.int x1]) (rest := [.ref (h o)]) ⟨hx, hb, hml, hown, hts⟩ (c7_kindOf l D cB cI cZ cO h H.size x1 (f7_kindOf x1) rfl) (va_cwS 1 hts gX7_takesKind_X7_kindOf rfl rfl rfl (by decide +kernel) ⟨Nat.le_of_ble_eq_true rfl, Nat.le_of_ble_eq_true rfl⟩) ⟨kb_blind, kb_pre hPc hDc hK hN⟩ rfl rfl hl.1 rfl (lv_room (Nat.le_of_ble_eq_true rfl)) dX7_takesKind_2 ⟨Nat.le_refl _, Nat.le_refl _⟩) hP hD hS hA [] rfl (fun H locs hn1 hP hS => ?_)
  refine va_put (D := D) (cl := vwCl) (ci := 4) (v := .int (f7_kindOf x1)) (ty := .int) (C := RX7) (T := TX7) (N := 7) hx hb hts hin7 tyX7 tyX7_ok nmX7 hown hK hP hD hS 0 rfl rfl 4 (by decide) (hts (.fieldLink RX7 62 "StepOrders$Text" "kind" "I") (by decide +kernel)) (fun _ h9 => h9) rfl (tyX7_ok 4 (by decide)) rfl rfl (Nat.le_of_ble_eq_true rfl) dX7_takesKind_5 (fun H locs hP hD hS => ?_)
  have hP : va_P D vwCl (wdT cB h o v_bytes v_length v_place v_thread (f7_kindOf x1) v_target v_value) H := hP
  have hD : va_D A (wdT cB h o v_bytes v_length v_place v_thread (f7_kindOf x1) v_target v_value) := hD
  refine lv_aload_n hx hb dX7_takesKind_8 rfl (lv_at hl 0 rfl) ?_
  refine lv_iconst (v := 2) hx hb dX7_takesKind_9 (by decide) ?_
  refine va_put (D := D) (cl := vwCl) (ci := 4) (v := .int (2 : Int32)) (ty := .int) (C := RX7) (T := TX7) (N := 7) hx hb hts hin7 tyX7 tyX7_ok nmX7 hown hK hP hD hS 0 rfl rfl 2 (by decide) (hts (.fieldLink RX7 25 "StepOrders$Text" "place" "I") (by decide +kernel)) (fun _ h9 => h9) rfl (tyX7_ok 2 (by decide)) rfl rfl (Nat.le_of_ble_eq_true rfl) dX7_takesKind_10 (fun H locs hP hD hS => ?_)
  have hP : va_P D vwCl (wdT cB h o v_bytes v_length (2 : Int32) v_thread (f7_kindOf x1) v_target v_value) H := hP
  have hD : va_D A (wdT cB h o v_bytes v_length (2 : Int32) v_thread (f7_kindOf x1) v_target v_value) := hD
  refine lv_aload_n hx hb dX7_takesKind_13 rfl (lv_at hl 0 rfl) ?_
  refine va_get (D := D) (cl := vwCl) (ci := 4) (v := .int (f7_kindOf x1)) (C := RX7) (T := TX7) (N := 7) hx hb hts hin7 hown hK hP 0 rfl rfl 4 (by decide) (hts (.fieldLink RX7 62 "StepOrders$Text" "kind" "I") (by decide +kernel)) (fun _ h9 => h9) rfl dX7_takesKind_14 ?_
  refine lv_iconst (v := (-1)) hx hb dX7_takesKind_17 (by decide) ?_
  refine lv_icmp_eq (tgt := 25) hx hb dX7_takesKind_18 (by decide) (fun c2 => ?_) (fun c2 => ?_)
  · rw [if_pos c2] at hf
    refine lv_iconst (v := 0) hx hb dX7_takesKind_25 (by decide) ?_
    obtain ⟨z1, y1⟩ := Prod.mk.inj (Option.some.inj hf)
    obtain ⟨z2, y2⟩ := Prod.mk.inj y1
    subst z1 z2 y2
    exact hend _ _ _ _ rfl hP hS dX7_takesKind_26
  · rw [if_neg c2] at hf
    refine lv_iconst (v := 1) hx hb dX7_takesKind_21 (by decide) ?_
    refine lv_goto (tgt := 26) hx hb dX7_takesKind_22 (by decide) ?_
    obtain ⟨z1, y1⟩ := Prod.mk.inj (Option.some.inj hf)
    obtain ⟨z2, y2⟩ := Prod.mk.inj y1
    subst z1 z2 y2
    exact hend _ _ _ _ rfl hP hS dX7_takesKind_26

set_option maxHeartbeats 4000000 in
set_option maxRecDepth 100000 in
theorem c7_takesThread (l : Launch) (D : va_G) (cB cI cZ cO : ClassId) (h : Nat → Nat) (o : Nat) (o2 : Nat) (sz : Nat) (x1 : Int32) (v_bytes : Nat → Int32) (v_length : Int32) (v_place : Int32) (v_thread : Int32) (v_kind : Int32) (v_target : Int32) (v_value : Int32) (w_u : sT) (r0 : Int32) (v_place' : Int32) (v_thread' : Int32) (hf : f7_takesThread v_place v_thread w_u x1 = some (r0, v_place', v_thread')) : Met l yX7_takesThread wsX7_takesThread rm7_takesThread (va_Pc [.ref (h o), .int x1, .ref (h o2)] (kb_B D (ka_tys cB cI cZ cO) sz (wdT cB h o v_bytes v_length v_place v_thread v_kind v_target v_value ++ wdS cI h o2 w_u))) (va_Qi (kb_post .boolean r0) (fun _ t => va_P D vwCl (wdT cB h o v_bytes v_length (v_place') (v_thread') v_kind v_target v_value ++ wdS cI h o2 w_u) t.heap) (va_A (wdT cB h o v_bytes v_length v_place v_thread v_kind v_target v_value ++ wdS cI h o2 w_u) sz)) 0 0 (va_A (wdT cB h o v_bytes v_length v_place v_thread v_kind v_target v_value ++ wdS cI h o2 w_u) sz) := by
  refine kb_metZ (cc := cX7_takesThread) (maxL := 3) (ty := .boolean) (by decide) rfl (Nat.le_of_ble_eq_true rfl) ?_
  intro p e s m args below meth c Q A ls H hx hb hml hown hts hK hN hP hD hS hA hl hend
  have hown : s.vm.findClass RX7 = some m.cls := hown
  have hl : lv_has ls 3 [(0, .ref (h o)), (1, .int x1), (2, .ref (h o2))] := hl
  have hin7 : ∀ w ∈ u_ws RX7 TX7 7, w ∈ wsX7_takesThread := by decide +kernel
  rw [f7_takesThread] at hf
  refine lv_iload_n hx hb dX7_takesThread_0 rfl (lv_at hl 1 rfl) ?_
  refine lv_iconst (v := 3) hx hb dX7_takesThread_1 (by decide) ?_
  have hPc : va_P D vwCl ([]) H := hP.sub [] rfl
  have hDc : va_D A ([]) := hD.sub [] (by decide) rfl
  refine kd_iR (va_runSN (As := [.int x1, .int (3 : Int32)]) (rest := []) ⟨hx, hb, hml, hown, hts⟩ (c8_below l D cB cI cZ cO h H.size x1 (3 : Int32) (f8_below x1 (3 : Int32)) rfl) ⟨va_cnB 2 hts gX7_takesThread_X8_below_n48 rfl rfl rfl hN.2.2.2.2.1 (hts (.initialized RX8) (by decide +kernel)) (by decide +kernel) ⟨Nat.le_of_ble_eq_true rfl, Nat.le_of_ble_eq_true rfl⟩, hts (.static yX8_below) (by decide +kernel), trivial⟩ ⟨kb_blind, kb_pre hPc hDc hK hN⟩ rfl rfl hl.1 rfl (lv_room (Nat.le_of_ble_eq_true rfl)) dX7_takesThread_2 ⟨Nat.le_refl _, Nat.le_refl _⟩) hP hD hS hA [] rfl (fun H locs hn1 hP hS => ?_)
  refine lv_if_eq (tgt := 17) hx hb dX7_takesThread_5 (by decide) (fun c2 => ?_) (fun c2 => ?_)
  · rw [if_pos c2] at hf
    refine lv_iconst (v := 0) hx hb dX7_takesThread_17 (by decide) ?_
    obtain ⟨z1, y1⟩ := Prod.mk.inj (Option.some.inj hf)
    obtain ⟨z2, y2⟩ := Prod.mk.inj y1
    subst z1 z2 y2
    exact hend _ _ _ _ rfl hP hS dX7_takesThread_18
  · rw [if_neg c2] at hf
    refine lv_aload_n hx hb dX7_takesThread_8 rfl (lv_at hl 2 rfl) ?_
    refine lv_iload_n hx hb dX7_takesThread_9 rfl (lv_at hl 1 rfl) ?_
    refine kb_bind hf (fun q3 hq3 hf => ?_)
    have hPc : va_P D vwCl (wdS cI h o2 w_u) H := hP.sub [2, 3, 4] rfl
    have hDc : va_D A (wdS cI h o2 w_u) := hD.sub [2, 3, 4] (by decide) rfl
    refine kd_iR (va_runV (As := [.int x1]) (rest := []) ⟨hx, hb, hml, hown, hts⟩ (c5_stepsOf l D cB cI cZ cO h o2 H.size x1 w_u q3 hq3) (cwV 1 hts gX7_takesThread_X5_stepsOf rfl rfl rfl (by decide +kernel) ⟨Nat.le_of_ble_eq_true rfl, Nat.le_of_ble_eq_true rfl⟩) ⟨kb_blind, va_recv hK hPc (ci := 3) (q0 := 0) rfl rfl, kb_pre hPc hDc hK hN⟩ rfl rfl hl.1 rfl (lv_room (Nat.le_of_ble_eq_true rfl)) dX7_takesThread_10 ⟨Nat.le_refl _, Nat.le_refl _⟩) hP hD hS hA [2, 3, 4] rfl (fun H locs hn4 hP hS => ?_)
    refine lv_iconst (v := 4) hx hb dX7_takesThread_13 (by decide) ?_
    refine lv_icmp_lt (tgt := 19) hx hb dX7_takesThread_14 (by decide) (fun c5 => ?_) (fun c5 => ?_)
    · rw [if_pos c5] at hf
      refine lv_aload_n hx hb dX7_takesThread_19 rfl (lv_at hl 0 rfl) ?_
      refine lv_iload_n hx hb dX7_takesThread_20 rfl (lv_at hl 1 rfl) ?_
      refine va_put (D := D) (cl := vwCl) (ci := 4) (v := .int x1) (ty := .int) (C := RX7) (T := TX7) (N := 7) hx hb hts hin7 tyX7 tyX7_ok nmX7 hown hK hP hD hS 0 rfl rfl 3 (by decide) (hts (.fieldLink RX7 56 "StepOrders$Text" "thread" "I") (by decide +kernel)) (fun _ h9 => h9) rfl (tyX7_ok 3 (by decide)) rfl rfl (Nat.le_of_ble_eq_true rfl) dX7_takesThread_21 (fun H locs hP hD hS => ?_)
      have hP : va_P D vwCl (wdT cB h o v_bytes v_length v_place x1 v_kind v_target v_value ++ wdS cI h o2 w_u) H := hP
      have hD : va_D A (wdT cB h o v_bytes v_length v_place x1 v_kind v_target v_value ++ wdS cI h o2 w_u) := hD
      refine lv_aload_n hx hb dX7_takesThread_24 rfl (lv_at hl 0 rfl) ?_
      refine lv_iconst (v := 1) hx hb dX7_takesThread_25 (by decide) ?_
      refine va_put (D := D) (cl := vwCl) (ci := 4) (v := .int (1 : Int32)) (ty := .int) (C := RX7) (T := TX7) (N := 7) hx hb hts hin7 tyX7 tyX7_ok nmX7 hown hK hP hD hS 0 rfl rfl 2 (by decide) (hts (.fieldLink RX7 25 "StepOrders$Text" "place" "I") (by decide +kernel)) (fun _ h9 => h9) rfl (tyX7_ok 2 (by decide)) rfl rfl (Nat.le_of_ble_eq_true rfl) dX7_takesThread_26 (fun H locs hP hD hS => ?_)
      have hP : va_P D vwCl (wdT cB h o v_bytes v_length (1 : Int32) x1 v_kind v_target v_value ++ wdS cI h o2 w_u) H := hP
      have hD : va_D A (wdT cB h o v_bytes v_length (1 : Int32) x1 v_kind v_target v_value ++ wdS cI h o2 w_u) := hD
      refine lv_iconst (v := 1) hx hb dX7_takesThread_29 (by decide) ?_
      obtain ⟨z1, y1⟩ := Prod.mk.inj (Option.some.inj hf)
      obtain ⟨z2, y2⟩ := Prod.mk.inj y1
      subst z1 z2 y2
      exact hend _ _ _ _ rfl hP hS dX7_takesThread_30
    · rw [if_neg c5] at hf
      refine lv_iconst (v := 0) hx hb dX7_takesThread_17 (by decide) ?_
      obtain ⟨z1, y1⟩ := Prod.mk.inj (Option.some.inj hf)
      obtain ⟨z2, y2⟩ := Prod.mk.inj y1
      subst z1 z2 y2
      exact hend _ _ _ _ rfl hP hS dX7_takesThread_18

set_option maxHeartbeats 4000000 in
set_option maxRecDepth 100000 in
theorem c7_takesEnd (l : Launch) (D : va_G) (cB cI cZ cO : ClassId) (h : Nat → Nat) (o : Nat) (o2 : Nat) (sz : Nat) (x1 : Int32) (v_bytes : Nat → Int32) (v_length : Int32) (v_place : Int32) (v_thread : Int32) (v_kind : Int32) (v_target : Int32) (v_value : Int32) (w_u : sT) (r0 : Int32) (v_place' : Int32) (w_u' : sT) (hf : f7_takesEnd v_place v_thread v_kind v_target v_value w_u x1 = some (r0, v_place', w_u')) : Met l yX7_takesEnd wsX7_takesEnd rm7_takesEnd (va_Pc [.ref (h o), .int x1, .ref (h o2)] (kb_B D (ka_tys cB cI cZ cO) sz (wdT cB h o v_bytes v_length v_place v_thread v_kind v_target v_value ++ wdS cI h o2 w_u))) (va_Qi (kb_post .boolean r0) (fun _ t => va_P D vwCl (wdT cB h o v_bytes v_length (v_place') v_thread v_kind v_target v_value ++ wdS cI h o2 (w_u')) t.heap) (va_A (wdT cB h o v_bytes v_length v_place v_thread v_kind v_target v_value ++ wdS cI h o2 w_u) sz)) 0 0 (va_A (wdT cB h o v_bytes v_length v_place v_thread v_kind v_target v_value ++ wdS cI h o2 w_u) sz) := by
  refine kb_metZ (cc := cX7_takesEnd) (maxL := 3) (ty := .boolean) (by decide) rfl (Nat.le_of_ble_eq_true rfl) ?_
  intro p e s m args below meth c Q A ls H hx hb hml hown hts hK hN hP hD hS hA hl hend
  have hown : s.vm.findClass RX7 = some m.cls := hown
  have hl : lv_has ls 3 [(0, .ref (h o)), (1, .int x1), (2, .ref (h o2))] := hl
  have hin7 : ∀ w ∈ u_ws RX7 TX7 7, w ∈ wsX7_takesEnd := by decide +kernel
  rw [f7_takesEnd] at hf
  refine lv_iload_n hx hb dX7_takesEnd_0 rfl (lv_at hl 1 rfl) ?_
  refine lv_bipush (v := 59) hx hb dX7_takesEnd_1 (by decide) ?_
  refine lv_icmp_eq (tgt := 8) hx hb dX7_takesEnd_3 (by decide) (fun c1 => ?_) (fun c1 => ?_)
  · rw [if_pos c1] at hf
    refine lv_aload_n hx hb dX7_takesEnd_8 rfl (lv_at hl 2 rfl) ?_
    refine lv_aload_n hx hb dX7_takesEnd_9 rfl (lv_at hl 0 rfl) ?_
    refine va_get (D := D) (cl := vwCl) (ci := 4) (v := .int v_thread) (C := RX7) (T := TX7) (N := 7) hx hb hts hin7 hown hK hP 0 rfl rfl 3 (by decide) (hts (.fieldLink RX7 56 "StepOrders$Text" "thread" "I") (by decide +kernel)) (fun _ h9 => h9) rfl dX7_takesEnd_10 ?_
    refine lv_aload_n hx hb dX7_takesEnd_13 rfl (lv_at hl 0 rfl) ?_
    refine va_get (D := D) (cl := vwCl) (ci := 4) (v := .int v_kind) (C := RX7) (T := TX7) (N := 7) hx hb hts hin7 hown hK hP 0 rfl rfl 4 (by decide) (hts (.fieldLink RX7 62 "StepOrders$Text" "kind" "I") (by decide +kernel)) (fun _ h9 => h9) rfl dX7_takesEnd_14 ?_
    refine lv_aload_n hx hb dX7_takesEnd_17 rfl (lv_at hl 0 rfl) ?_
    refine va_get (D := D) (cl := vwCl) (ci := 4) (v := .int v_target) (C := RX7) (T := TX7) (N := 7) hx hb hts hin7 hown hK hP 0 rfl rfl 5 (by decide) (hts (.fieldLink RX7 70 "StepOrders$Text" "target" "I") (by decide +kernel)) (fun _ h9 => h9) rfl dX7_takesEnd_18 ?_
    refine lv_aload_n hx hb dX7_takesEnd_21 rfl (lv_at hl 0 rfl) ?_
    refine va_get (D := D) (cl := vwCl) (ci := 4) (v := .int v_value) (C := RX7) (T := TX7) (N := 7) hx hb hts hin7 hown hK hP 0 rfl rfl 6 (by decide) (hts (.fieldLink RX7 73 "StepOrders$Text" "value" "I") (by decide +kernel)) (fun _ h9 => h9) rfl dX7_takesEnd_22 ?_
    have hPc : va_P D vwCl ([]) H := hP.sub [] rfl
    have hDc : va_D A ([]) := hD.sub [] (by decide) rfl
    refine kd_iR (va_runS (As := [.int v_kind, .int v_target, .int v_value]) (rest := [.int v_thread, .ref (h o2)]) ⟨hx, hb, hml, hown, hts⟩ (c6_packed l D cB cI cZ cO h H.size v_kind v_target v_value (f6_packed v_kind v_target v_value) rfl) (va_cwS 3 hts gX7_takesEnd_X6_packed rfl rfl rfl (by decide +kernel) ⟨Nat.le_of_ble_eq_true rfl, Nat.le_of_ble_eq_true rfl⟩) ⟨kb_blind, kb_pre hPc hDc hK hN⟩ rfl rfl hl.1 rfl (lv_room (Nat.le_of_ble_eq_true rfl)) dX7_takesEnd_25 ⟨Nat.le_refl _, Nat.le_refl _⟩) hP hD hS hA [] rfl (fun H locs hn2 hP hS => ?_)
    refine kb_bind hf (fun q3 hq3 hf => ?_)
    have hPc : va_P D vwCl (wdS cI h o2 w_u) H := hP.sub [2, 3, 4] rfl
    have hDc : va_D A (wdS cI h o2 w_u) := hD.sub [2, 3, 4] (by decide) rfl
    refine kd_vW (ws' := wdT cB h o v_bytes v_length v_place v_thread v_kind v_target v_value ++ wdS cI h o2 q3) (va_runV (As := [.int v_thread, .int (f6_packed v_kind v_target v_value)]) (rest := []) ⟨hx, hb, hml, hown, hts⟩ (c5_addStep l D cB cI cZ cO h o2 H.size v_thread (f6_packed v_kind v_target v_value) w_u q3 hq3) (cwV 2 hts gX7_takesEnd_X5_addStep rfl rfl rfl (by decide +kernel) ⟨Nat.le_of_ble_eq_true rfl, Nat.le_of_ble_eq_true rfl⟩) ⟨kb_blind, va_recv hK hPc (ci := 3) (q0 := 0) rfl rfl, kb_pre hPc hDc hK hN⟩ rfl rfl hl.1 rfl (lv_room (Nat.le_of_ble_eq_true rfl)) dX7_takesEnd_28 ⟨Nat.le_refl _, Nat.le_refl _⟩) hP hD hS hA [2, 3, 4] [0, 1] rfl rfl (List.forall_mem_cons.mpr ⟨rfl, (List.forall_mem_cons.mpr ⟨rfl, (fun _ h9 => absurd h9 List.not_mem_nil)⟩)⟩) rfl rfl (fun H locs hP hD hS => ?_)
    refine lv_aload_n hx hb dX7_takesEnd_31 rfl (lv_at hl 0 rfl) ?_
    refine lv_iconst (v := 0) hx hb dX7_takesEnd_32 (by decide) ?_
    refine va_put (D := D) (cl := vwCl) (ci := 4) (v := .int (0 : Int32)) (ty := .int) (C := RX7) (T := TX7) (N := 7) hx hb hts hin7 tyX7 tyX7_ok nmX7 hown hK hP hD hS 0 rfl rfl 2 (by decide) (hts (.fieldLink RX7 25 "StepOrders$Text" "place" "I") (by decide +kernel)) (fun _ h9 => h9) rfl (tyX7_ok 2 (by decide)) rfl rfl (Nat.le_of_ble_eq_true rfl) dX7_takesEnd_33 (fun H locs hP hD hS => ?_)
    have hP : va_P D vwCl (wdT cB h o v_bytes v_length (0 : Int32) v_thread v_kind v_target v_value ++ wdS cI h o2 q3) H := hP
    have hD : va_D A (wdT cB h o v_bytes v_length (0 : Int32) v_thread v_kind v_target v_value ++ wdS cI h o2 q3) := hD
    refine lv_iconst (v := 1) hx hb dX7_takesEnd_36 (by decide) ?_
    obtain ⟨z1, y1⟩ := Prod.mk.inj (Option.some.inj hf)
    obtain ⟨z2, y2⟩ := Prod.mk.inj y1
    subst z1 z2 y2
    exact hend _ _ _ _ rfl hP hS dX7_takesEnd_37
  · rw [if_neg c1] at hf
    refine lv_iconst (v := 0) hx hb dX7_takesEnd_6 (by decide) ?_
    obtain ⟨z1, y1⟩ := Prod.mk.inj (Option.some.inj hf)
    obtain ⟨z2, y2⟩ := Prod.mk.inj y1
    subst z1 z2 y2
    exact hend _ _ _ _ rfl hP hS dX7_takesEnd_7

set_option maxHeartbeats 4000000 in
set_option maxRecDepth 100000 in
theorem c7_takes (l : Launch) (D : va_G) (cB cI cZ cO : ClassId) (h : Nat → Nat) (o : Nat) (o2 : Nat) (sz : Nat) (x1 : Int32) (v_bytes : Nat → Int32) (v_length : Int32) (v_place : Int32) (v_thread : Int32) (v_kind : Int32) (v_target : Int32) (v_value : Int32) (w_u : sT) (r0 : Int32) (v_place' : Int32) (v_thread' : Int32) (v_kind' : Int32) (v_target' : Int32) (v_value' : Int32) (w_u' : sT) (hf : f7_takes v_place v_thread v_kind v_target v_value w_u x1 = some (r0, v_place', v_thread', v_kind', v_target', v_value', w_u')) : Met l yX7_takes wsX7_takes rm7_takes (va_Pc [.ref (h o), .int x1, .ref (h o2)] (kb_B D (ka_tys cB cI cZ cO) sz (wdT cB h o v_bytes v_length v_place v_thread v_kind v_target v_value ++ wdS cI h o2 w_u))) (va_Qi (kb_post .boolean r0) (fun _ t => va_P D vwCl (wdT cB h o v_bytes v_length (v_place') (v_thread') (v_kind') (v_target') (v_value') ++ wdS cI h o2 (w_u')) t.heap) (va_A (wdT cB h o v_bytes v_length v_place v_thread v_kind v_target v_value ++ wdS cI h o2 w_u) sz)) 0 0 (va_A (wdT cB h o v_bytes v_length v_place v_thread v_kind v_target v_value ++ wdS cI h o2 w_u) sz) := by
  refine kb_metZ (cc := cX7_takes) (maxL := 3) (ty := .boolean) (by decide) rfl (Nat.le_of_ble_eq_true rfl) ?_
  intro p e s m args below meth c Q A ls H hx hb hml hown hts hK hN hP hD hS hA hl hend
  have hown : s.vm.findClass RX7 = some m.cls := hown
  have hl : lv_has ls 3 [(0, .ref (h o)), (1, .int x1), (2, .ref (h o2))] := hl
  have hin7 : ∀ w ∈ u_ws RX7 TX7 7, w ∈ wsX7_takes := by decide +kernel
  rw [f7_takes] at hf
  refine lv_aload_n hx hb dX7_takes_0 rfl (lv_at hl 0 rfl) ?_
  refine va_get (D := D) (cl := vwCl) (ci := 4) (v := .int v_place) (C := RX7) (T := TX7) (N := 7) hx hb hts hin7 hown hK hP 0 rfl rfl 2 (by decide) (hts (.fieldLink RX7 25 "StepOrders$Text" "place" "I") (by decide +kernel)) (fun _ h9 => h9) rfl dX7_takes_1 ?_
  by_cases c1_0 : v_place = 0
  · rw [if_pos c1_0] at hf
    refine lv_tableIn (tgt := 36) (off := 32) hx hb dX7_takes_4 (by rw [c1_0]; decide) (by rw [c1_0]; decide) (by rw [c1_0]; rfl) (by decide) ?_
    refine lv_aload_n hx hb dX7_takes_36 rfl (lv_at hl 0 rfl) ?_
    refine lv_iload_n hx hb dX7_takes_37 rfl (lv_at hl 1 rfl) ?_
    refine lv_bipush (v := 48) hx hb dX7_takes_38 (by decide) ?_
    refine lv_isub hx hb dX7_takes_40 ?_
    refine lv_aload_n hx hb dX7_takes_41 rfl (lv_at hl 2 rfl) ?_
    refine kb_bind hf (fun q2 hq2 hf => ?_)
    have hPc : va_P D vwCl (wdT cB h o v_bytes v_length v_place v_thread v_kind v_target v_value ++ wdS cI h o2 w_u) H := hP.sub [0, 1, 2, 3, 4] rfl
    have hDc : va_D A (wdT cB h o v_bytes v_length v_place v_thread v_kind v_target v_value ++ wdS cI h o2 w_u) := hD.sub [0, 1, 2, 3, 4] (by decide) rfl
    refine kd_iW (ws' := wdT cB h o v_bytes v_length q2.2.1 q2.2.2 v_kind v_target v_value ++ wdS cI h o2 w_u) (va_runV (As := [.int (x1 - (48 : Int32)), .ref (h o2)]) (rest := []) ⟨hx, hb, hml, hown, hts⟩ (c7_takesThread l D cB cI cZ cO h o o2 H.size (x1 - (48 : Int32)) v_bytes v_length v_place v_thread v_kind v_target v_value w_u q2.1 q2.2.1 q2.2.2 hq2) (cwV 2 hts gX7_takes_X7_takesThread rfl rfl rfl (by decide +kernel) ⟨Nat.le_of_ble_eq_true rfl, Nat.le_of_ble_eq_true rfl⟩) ⟨kb_blind, va_recv hK hPc (ci := 4) (q0 := 0) rfl rfl, kb_pre hPc hDc hK hN⟩ rfl rfl hl.1 rfl (lv_room (Nat.le_of_ble_eq_true rfl)) dX7_takes_42 ⟨Nat.le_refl _, Nat.le_refl _⟩) hP hD hS hA [0, 1, 2, 3, 4] [] rfl rfl (fun _ h9 => absurd h9 List.not_mem_nil) rfl rfl (fun H locs hn3 hP hD hS => ?_)
    obtain ⟨z1, y1⟩ := Prod.mk.inj (Option.some.inj hf)
    obtain ⟨z2, y2⟩ := Prod.mk.inj y1
    obtain ⟨z3, y3⟩ := Prod.mk.inj y2
    obtain ⟨z4, y4⟩ := Prod.mk.inj y3
    obtain ⟨z5, y5⟩ := Prod.mk.inj y4
    obtain ⟨z6, y6⟩ := Prod.mk.inj y5
    subst z1 z2 z3 z4 z5 z6 y6
    exact hend _ _ _ _ hn3 hP hS dX7_takes_45
  rw [if_neg c1_0] at hf
  by_cases c1_1 : v_place = 1
  · rw [if_pos c1_1] at hf
    refine lv_tableIn (tgt := 46) (off := 42) hx hb dX7_takes_4 (by rw [c1_1]; decide) (by rw [c1_1]; decide) (by rw [c1_1]; rfl) (by decide) ?_
    refine lv_aload_n hx hb dX7_takes_46 rfl (lv_at hl 0 rfl) ?_
    refine lv_iload_n hx hb dX7_takes_47 rfl (lv_at hl 1 rfl) ?_
    refine kb_bind hf (fun q4 hq4 hf => ?_)
    have hPc : va_P D vwCl (wdT cB h o v_bytes v_length v_place v_thread v_kind v_target v_value) H := hP.sub [0, 1] rfl
    have hDc : va_D A (wdT cB h o v_bytes v_length v_place v_thread v_kind v_target v_value) := hD.sub [0, 1] (by decide) rfl
    refine kd_iW (ws' := wdT cB h o v_bytes v_length q4.2.1 v_thread q4.2.2 v_target v_value ++ wdS cI h o2 w_u) (va_runV (As := [.int x1]) (rest := []) ⟨hx, hb, hml, hown, hts⟩ (c7_takesKind l D cB cI cZ cO h o H.size x1 v_bytes v_length v_place v_thread v_kind v_target v_value q4.1 q4.2.1 q4.2.2 hq4) (cwV 1 hts gX7_takes_X7_takesKind rfl rfl rfl (by decide +kernel) ⟨Nat.le_of_ble_eq_true rfl, Nat.le_of_ble_eq_true rfl⟩) ⟨kb_blind, va_recv hK hPc (ci := 4) (q0 := 0) rfl rfl, kb_pre hPc hDc hK hN⟩ rfl rfl hl.1 rfl (lv_room (Nat.le_of_ble_eq_true rfl)) dX7_takes_48 ⟨Nat.le_refl _, Nat.le_refl _⟩) hP hD hS hA [0, 1] [2, 3, 4] rfl rfl (List.forall_mem_cons.mpr ⟨rfl, (List.forall_mem_cons.mpr ⟨rfl, (List.forall_mem_cons.mpr ⟨rfl, (fun _ h9 => absurd h9 List.not_mem_nil)⟩)⟩)⟩) rfl rfl (fun H locs hn5 hP hD hS => ?_)
    obtain ⟨z1, y1⟩ := Prod.mk.inj (Option.some.inj hf)
    obtain ⟨z2, y2⟩ := Prod.mk.inj y1
    obtain ⟨z3, y3⟩ := Prod.mk.inj y2
    obtain ⟨z4, y4⟩ := Prod.mk.inj y3
    obtain ⟨z5, y5⟩ := Prod.mk.inj y4
    obtain ⟨z6, y6⟩ := Prod.mk.inj y5
    subst z1 z2 z3 z4 z5 z6 y6
    exact hend _ _ _ _ hn5 hP hS dX7_takes_51
  rw [if_neg c1_1] at hf
  by_cases c1_2 : v_place = 2
  · rw [if_pos c1_2] at hf
    refine lv_tableIn (tgt := 52) (off := 48) hx hb dX7_takes_4 (by rw [c1_2]; decide) (by rw [c1_2]; decide) (by rw [c1_2]; rfl) (by decide) ?_
    refine lv_aload_n hx hb dX7_takes_52 rfl (lv_at hl 0 rfl) ?_
    refine lv_iload_n hx hb dX7_takes_53 rfl (lv_at hl 1 rfl) ?_
    refine kb_bind hf (fun q6 hq6 hf => ?_)
    have hPc : va_P D vwCl (wdT cB h o v_bytes v_length v_place v_thread v_kind v_target v_value) H := hP.sub [0, 1] rfl
    have hDc : va_D A (wdT cB h o v_bytes v_length v_place v_thread v_kind v_target v_value) := hD.sub [0, 1] (by decide) rfl
    refine kd_iW (ws' := wdT cB h o v_bytes v_length q6.2.1 v_thread v_kind q6.2.2.1 q6.2.2.2 ++ wdS cI h o2 w_u) (va_runV (As := [.int x1]) (rest := []) ⟨hx, hb, hml, hown, hts⟩ (c7_takesTarget l D cB cI cZ cO h o H.size x1 v_bytes v_length v_place v_thread v_kind v_target v_value q6.1 q6.2.1 q6.2.2.1 q6.2.2.2 hq6) (cwV 1 hts gX7_takes_X7_takesTarget rfl rfl rfl (by decide +kernel) ⟨Nat.le_of_ble_eq_true rfl, Nat.le_of_ble_eq_true rfl⟩) ⟨kb_blind, va_recv hK hPc (ci := 4) (q0 := 0) rfl rfl, kb_pre hPc hDc hK hN⟩ rfl rfl hl.1 rfl (lv_room (Nat.le_of_ble_eq_true rfl)) dX7_takes_54 ⟨Nat.le_refl _, Nat.le_refl _⟩) hP hD hS hA [0, 1] [2, 3, 4] rfl rfl (List.forall_mem_cons.mpr ⟨rfl, (List.forall_mem_cons.mpr ⟨rfl, (List.forall_mem_cons.mpr ⟨rfl, (fun _ h9 => absurd h9 List.not_mem_nil)⟩)⟩)⟩) rfl rfl (fun H locs hn7 hP hD hS => ?_)
    obtain ⟨z1, y1⟩ := Prod.mk.inj (Option.some.inj hf)
    obtain ⟨z2, y2⟩ := Prod.mk.inj y1
    obtain ⟨z3, y3⟩ := Prod.mk.inj y2
    obtain ⟨z4, y4⟩ := Prod.mk.inj y3
    obtain ⟨z5, y5⟩ := Prod.mk.inj y4
    obtain ⟨z6, y6⟩ := Prod.mk.inj y5
    subst z1 z2 z3 z4 z5 z6 y6
    exact hend _ _ _ _ hn7 hP hS dX7_takes_57
  rw [if_neg c1_2] at hf
  by_cases c1_3 : v_place = 3
  · rw [if_pos c1_3] at hf
    refine lv_tableIn (tgt := 58) (off := 54) hx hb dX7_takes_4 (by rw [c1_3]; decide) (by rw [c1_3]; decide) (by rw [c1_3]; rfl) (by decide) ?_
    refine lv_aload_n hx hb dX7_takes_58 rfl (lv_at hl 0 rfl) ?_
    refine lv_iload_n hx hb dX7_takes_59 rfl (lv_at hl 1 rfl) ?_
    refine kb_bind hf (fun q8 hq8 hf => ?_)
    have hPc : va_P D vwCl (wdT cB h o v_bytes v_length v_place v_thread v_kind v_target v_value) H := hP.sub [0, 1] rfl
    have hDc : va_D A (wdT cB h o v_bytes v_length v_place v_thread v_kind v_target v_value) := hD.sub [0, 1] (by decide) rfl
    refine kd_iW (ws' := wdT cB h o v_bytes v_length q8.2.1 v_thread v_kind v_target q8.2.2 ++ wdS cI h o2 w_u) (va_runV (As := [.int x1]) (rest := []) ⟨hx, hb, hml, hown, hts⟩ (c7_takesValue l D cB cI cZ cO h o H.size x1 v_bytes v_length v_place v_thread v_kind v_target v_value q8.1 q8.2.1 q8.2.2 hq8) (cwV 1 hts gX7_takes_X7_takesValue rfl rfl rfl (by decide +kernel) ⟨Nat.le_of_ble_eq_true rfl, Nat.le_of_ble_eq_true rfl⟩) ⟨kb_blind, va_recv hK hPc (ci := 4) (q0 := 0) rfl rfl, kb_pre hPc hDc hK hN⟩ rfl rfl hl.1 rfl (lv_room (Nat.le_of_ble_eq_true rfl)) dX7_takes_60 ⟨Nat.le_refl _, Nat.le_refl _⟩) hP hD hS hA [0, 1] [2, 3, 4] rfl rfl (List.forall_mem_cons.mpr ⟨rfl, (List.forall_mem_cons.mpr ⟨rfl, (List.forall_mem_cons.mpr ⟨rfl, (fun _ h9 => absurd h9 List.not_mem_nil)⟩)⟩)⟩) rfl rfl (fun H locs hn9 hP hD hS => ?_)
    obtain ⟨z1, y1⟩ := Prod.mk.inj (Option.some.inj hf)
    obtain ⟨z2, y2⟩ := Prod.mk.inj y1
    obtain ⟨z3, y3⟩ := Prod.mk.inj y2
    obtain ⟨z4, y4⟩ := Prod.mk.inj y3
    obtain ⟨z5, y5⟩ := Prod.mk.inj y4
    obtain ⟨z6, y6⟩ := Prod.mk.inj y5
    subst z1 z2 z3 z4 z5 z6 y6
    exact hend _ _ _ _ hn9 hP hS dX7_takes_63
  rw [if_neg c1_3] at hf
  refine lv_tableOut (tgt := 64) hx hb dX7_takes_4 (by have e0 := lv_neT c1_0 (a := 0) rfl; have e1 := lv_neT c1_1 (a := 1) rfl; have e2 := lv_neT c1_2 (a := 2) rfl; have e3 := lv_neT c1_3 (a := 3) rfl; omega) (by decide) ?_
  refine lv_aload_n hx hb dX7_takes_64 rfl (lv_at hl 0 rfl) ?_
  refine lv_iload_n hx hb dX7_takes_65 rfl (lv_at hl 1 rfl) ?_
  refine lv_aload_n hx hb dX7_takes_66 rfl (lv_at hl 2 rfl) ?_
  refine kb_bind hf (fun q10 hq10 hf => ?_)
  have hPc : va_P D vwCl (wdT cB h o v_bytes v_length v_place v_thread v_kind v_target v_value ++ wdS cI h o2 w_u) H := hP.sub [0, 1, 2, 3, 4] rfl
  have hDc : va_D A (wdT cB h o v_bytes v_length v_place v_thread v_kind v_target v_value ++ wdS cI h o2 w_u) := hD.sub [0, 1, 2, 3, 4] (by decide) rfl
  refine kd_iW (ws' := wdT cB h o v_bytes v_length q10.2.1 v_thread v_kind v_target v_value ++ wdS cI h o2 q10.2.2) (va_runV (As := [.int x1, .ref (h o2)]) (rest := []) ⟨hx, hb, hml, hown, hts⟩ (c7_takesEnd l D cB cI cZ cO h o o2 H.size x1 v_bytes v_length v_place v_thread v_kind v_target v_value w_u q10.1 q10.2.1 q10.2.2 hq10) (cwV 2 hts gX7_takes_X7_takesEnd rfl rfl rfl (by decide +kernel) ⟨Nat.le_of_ble_eq_true rfl, Nat.le_of_ble_eq_true rfl⟩) ⟨kb_blind, va_recv hK hPc (ci := 4) (q0 := 0) rfl rfl, kb_pre hPc hDc hK hN⟩ rfl rfl hl.1 rfl (lv_room (Nat.le_of_ble_eq_true rfl)) dX7_takes_67 ⟨Nat.le_refl _, Nat.le_refl _⟩) hP hD hS hA [0, 1, 2, 3, 4] [] rfl rfl (fun _ h9 => absurd h9 List.not_mem_nil) rfl rfl (fun H locs hn11 hP hD hS => ?_)
  obtain ⟨z1, y1⟩ := Prod.mk.inj (Option.some.inj hf)
  obtain ⟨z2, y2⟩ := Prod.mk.inj y1
  obtain ⟨z3, y3⟩ := Prod.mk.inj y2
  obtain ⟨z4, y4⟩ := Prod.mk.inj y3
  obtain ⟨z5, y5⟩ := Prod.mk.inj y4
  obtain ⟨z6, y6⟩ := Prod.mk.inj y5
  subst z1 z2 z3 z4 z5 z6 y6
  exact hend _ _ _ _ hn11 hP hS dX7_takes_70

set_option maxHeartbeats 4000000 in
set_option maxRecDepth 100000 in
theorem c7_readInto (l : Launch) (D : va_G) (cB cI cZ cO : ClassId) (h : Nat → Nat) (o : Nat) (o2 : Nat) (sz : Nat) (v_bytes : Nat → Int32) (v_length : Int32) (v_place : Int32) (v_thread : Int32) (v_kind : Int32) (v_target : Int32) (v_value : Int32) (w_u : sT) (r0 : Int32) (v_place' : Int32) (v_thread' : Int32) (v_kind' : Int32) (v_target' : Int32) (v_value' : Int32) (w_u' : sT) (hf : f7_readInto v_bytes v_length v_place v_thread v_kind v_target v_value w_u = some (r0, v_place', v_thread', v_kind', v_target', v_value', w_u')) : Met l yX7_readInto wsX7_readInto rm7_readInto (va_Pc [.ref (h o), .ref (h o2)] (kb_B D (ka_tys cB cI cZ cO) sz (wdT cB h o v_bytes v_length v_place v_thread v_kind v_target v_value ++ wdS cI h o2 w_u))) (va_Qi (kb_post .int r0) (fun _ t => va_P D vwCl (wdT cB h o v_bytes v_length (v_place') (v_thread') (v_kind') (v_target') (v_value') ++ wdS cI h o2 (w_u')) t.heap) (va_A (wdT cB h o v_bytes v_length v_place v_thread v_kind v_target v_value ++ wdS cI h o2 w_u) sz)) 0 0 (va_A (wdT cB h o v_bytes v_length v_place v_thread v_kind v_target v_value ++ wdS cI h o2 w_u) sz) := by
  refine kb_metZ (cc := cX7_readInto) (maxL := 4) (ty := .int) (by decide) rfl (Nat.le_of_ble_eq_true rfl) ?_
  intro p e s m args below meth c Q A ls H hx hb hml hown hts hK hN hP hD hS hA hl hend
  have hown : s.vm.findClass RX7 = some m.cls := hown
  have hl : lv_has ls 4 [(0, .ref (h o)), (1, .ref (h o2))] := hl
  have hin7 : ∀ w ∈ u_ws RX7 TX7 7, w ∈ wsX7_readInto := by decide +kernel
  have J45 : ∀ (v_place : Int32) (v_thread : Int32) (v_kind : Int32) (v_target : Int32) (v_value : Int32) (w_u : sT) (x3 : Int32) (H : Heap) (locs : List Loc) (ls : Array Slot), f7_readInto_b45 v_bytes v_length v_place v_thread v_kind v_target v_value w_u x3 = some (r0, v_place', v_thread', v_kind', v_target', v_value', w_u') → va_P D vwCl (wdT cB h o v_bytes v_length v_place v_thread v_kind v_target v_value ++ wdS cI h o2 w_u) H → va_D A (wdT cB h o v_bytes v_length v_place v_thread v_kind v_target v_value ++ wdS cI h o2 w_u) → va_S A s.heap H locs → lv_has ls 4 [(3, .int x3)] → W p l e rm7_readInto s m args below meth c H locs 0 0 Q (F0 m 45 ls []) := by
    intro v_place v_thread v_kind v_target v_value w_u x3 H locs ls hf hP hD hS hl
    rw [f7_readInto_b45] at hf
    refine lv_iload_n hx hb dX7_readInto_45 rfl (lv_at hl 0 rfl) ?_
    obtain ⟨z1, y1⟩ := Prod.mk.inj (Option.some.inj hf)
    obtain ⟨z2, y2⟩ := Prod.mk.inj y1
    obtain ⟨z3, y3⟩ := Prod.mk.inj y2
    obtain ⟨z4, y4⟩ := Prod.mk.inj y3
    obtain ⟨z5, y5⟩ := Prod.mk.inj y4
    obtain ⟨z6, y6⟩ := Prod.mk.inj y5
    subst z1 z2 z3 z4 z5 z6 y6
    exact hend _ _ _ _ rfl hP hS dX7_readInto_46
  have J72 : ∀ (v_place : Int32) (v_thread : Int32) (v_kind : Int32) (v_target : Int32) (v_value : Int32) (w_u : sT) (H : Heap) (locs : List Loc) (ls : Array Slot), f7_readInto_b72 v_bytes v_length v_place v_thread v_kind v_target v_value w_u = some (r0, v_place', v_thread', v_kind', v_target', v_value', w_u') → va_P D vwCl (wdT cB h o v_bytes v_length v_place v_thread v_kind v_target v_value ++ wdS cI h o2 w_u) H → va_D A (wdT cB h o v_bytes v_length v_place v_thread v_kind v_target v_value ++ wdS cI h o2 w_u) → va_S A s.heap H locs → lv_has ls 4 [(0, .ref (h o))] → W p l e rm7_readInto s m args below meth c H locs 0 0 Q (F0 m 72 ls []) := by
    intro v_place v_thread v_kind v_target v_value w_u H locs ls hf hP hD hS hl
    rw [f7_readInto_b72] at hf
    refine lv_aload_n hx hb dX7_readInto_72 rfl (lv_at hl 0 rfl) ?_
    refine va_get (D := D) (cl := vwCl) (ci := 4) (v := .int v_length) (C := RX7) (T := TX7) (N := 7) hx hb hts hin7 hown hK hP 0 rfl rfl 1 (by decide) (hts (.fieldLink RX7 15 "StepOrders$Text" "length" "I") (by decide +kernel)) (fun _ h9 => h9) rfl dX7_readInto_73 ?_
    obtain ⟨z1, y1⟩ := Prod.mk.inj (Option.some.inj hf)
    obtain ⟨z2, y2⟩ := Prod.mk.inj y1
    obtain ⟨z3, y3⟩ := Prod.mk.inj y2
    obtain ⟨z4, y4⟩ := Prod.mk.inj y3
    obtain ⟨z5, y5⟩ := Prod.mk.inj y4
    obtain ⟨z6, y6⟩ := Prod.mk.inj y5
    subst z1 z2 z3 z4 z5 z6 y6
    exact hend _ _ _ _ rfl hP hS dX7_readInto_76
  have J53 : ∀ (v_place : Int32) (v_thread : Int32) (v_kind : Int32) (v_target : Int32) (v_value : Int32) (w_u : sT) (x2 : Int32) (H : Heap) (locs : List Loc) (ls : Array Slot), f7_readInto_b53 v_bytes v_length v_place v_thread v_kind v_target v_value w_u x2 = some (r0, v_place', v_thread', v_kind', v_target', v_value', w_u') → va_P D vwCl (wdT cB h o v_bytes v_length v_place v_thread v_kind v_target v_value ++ wdS cI h o2 w_u) H → va_D A (wdT cB h o v_bytes v_length v_place v_thread v_kind v_target v_value ++ wdS cI h o2 w_u) → va_S A s.heap H locs → lv_has ls 4 [(0, .ref (h o)), (1, .ref (h o2)), (2, .int x2)] → W p l e rm7_readInto s m args below meth c H locs 0 0 Q (F0 m 53 ls []) := by
    intro v_place v_thread v_kind v_target v_value w_u x2 H locs ls hf hP hD hS hl
    rw [f7_readInto_b53] at hf
    refine lv_aload_n hx hb dX7_readInto_53 rfl (lv_at hl 0 rfl) ?_
    refine va_get (D := D) (cl := vwCl) (ci := 4) (v := .int v_place) (C := RX7) (T := TX7) (N := 7) hx hb hts hin7 hown hK hP 0 rfl rfl 2 (by decide) (hts (.fieldLink RX7 25 "StepOrders$Text" "place" "I") (by decide +kernel)) (fun _ h9 => h9) rfl dX7_readInto_54 ?_
    refine lv_if_ne (tgt := 72) hx hb dX7_readInto_57 (by decide) (fun c5 => ?_) (fun c5 => ?_)
    · rw [if_neg c5] at hf
      exact J72 v_place v_thread v_kind v_target v_value w_u _ _ _ hf hP hD hS (lv_sub hl [0] rfl)
    · rw [if_pos c5] at hf
      refine lv_aload_n hx hb dX7_readInto_60 rfl (lv_at hl 1 rfl) ?_
      refine kb_bind hf (fun q6 hq6 hf => ?_)
      have hPc : va_P D vwCl (wdS cI h o2 w_u) H := hP.sub [2, 3, 4] rfl
      have hDc : va_D A (wdS cI h o2 w_u) := hD.sub [2, 3, 4] (by decide) rfl
      refine kd_iR (va_runV (As := []) (rest := []) ⟨hx, hb, hml, hown, hts⟩ (c5_stepsInAll l D cB cI cZ cO h o2 H.size w_u q6 hq6) (cwV 0 hts gX7_readInto_X5_stepsInAll rfl rfl rfl (by decide +kernel) ⟨Nat.le_of_ble_eq_true rfl, Nat.le_of_ble_eq_true rfl⟩) ⟨kb_blind, va_recv hK hPc (ci := 3) (q0 := 0) rfl rfl, kb_pre hPc hDc hK hN⟩ rfl rfl hl.1 rfl (lv_room (Nat.le_of_ble_eq_true rfl)) dX7_readInto_61 ⟨Nat.le_refl _, Nat.le_refl _⟩) hP hD hS hA [2, 3, 4] rfl (fun H locs hn7 hP hS => ?_)
      refine lv_iload_n hx hb dX7_readInto_64 rfl (lv_at hl 2 rfl) ?_
      refine lv_icmp_le (tgt := 72) hx hb dX7_readInto_65 (by decide) (fun c8 => ?_) (fun c8 => ?_)
      · rw [if_pos c8] at hf
        exact J72 v_place v_thread v_kind v_target v_value w_u _ _ _ hf hP hD hS (lv_sub hl [0] rfl)
      · rw [if_neg c8] at hf
        refine lv_iconst (v := (-1)) hx hb dX7_readInto_68 (by decide) ?_
        refine lv_goto (tgt := 76) hx hb dX7_readInto_69 (by decide) ?_
        obtain ⟨z1, y1⟩ := Prod.mk.inj (Option.some.inj hf)
        obtain ⟨z2, y2⟩ := Prod.mk.inj y1
        obtain ⟨z3, y3⟩ := Prod.mk.inj y2
        obtain ⟨z4, y4⟩ := Prod.mk.inj y3
        obtain ⟨z5, y5⟩ := Prod.mk.inj y4
        obtain ⟨z6, y6⟩ := Prod.mk.inj y5
        subst z1 z2 z3 z4 z5 z6 y6
        exact hend _ _ _ _ rfl hP hS dX7_readInto_76
  have J12 : ∀ (n : Nat) (v_place : Int32) (v_thread : Int32) (v_kind : Int32) (v_target : Int32) (v_value : Int32) (w_u : sT) (x2 : Int32) (x3 : Int32) (H : Heap) (locs : List Loc) (ls : Array Slot), f7_readInto_l12 n v_bytes v_length v_place v_thread v_kind v_target v_value w_u x2 x3 = some (r0, v_place', v_thread', v_kind', v_target', v_value', w_u') → va_P D vwCl (wdT cB h o v_bytes v_length v_place v_thread v_kind v_target v_value ++ wdS cI h o2 w_u) H → va_D A (wdT cB h o v_bytes v_length v_place v_thread v_kind v_target v_value ++ wdS cI h o2 w_u) → va_S A s.heap H locs → lv_has ls 4 [(0, .ref (h o)), (1, .ref (h o2)), (2, .int x2), (3, .int x3)] → W p l e rm7_readInto s m args below meth c H locs 0 0 Q (F0 m 12 ls []) := by
    intro n
    induction n with
    | zero =>
      intro v_place v_thread v_kind v_target v_value w_u x2 x3 H locs ls hf
      cases (show (none : Option (Int32 × Int32 × Int32 × Int32 × Int32 × Int32 × sT)) = some (r0, v_place', v_thread', v_kind', v_target', v_value', w_u') from hf)
    | succ n ih =>
      have J47 : ∀ (v_place : Int32) (v_thread : Int32) (v_kind : Int32) (v_target : Int32) (v_value : Int32) (w_u : sT) (x2 : Int32) (x3 : Int32) (H : Heap) (locs : List Loc) (ls : Array Slot), f7_readInto_b47 (f7_readInto_l12 n) v_bytes v_length v_place v_thread v_kind v_target v_value w_u x2 x3 = some (r0, v_place', v_thread', v_kind', v_target', v_value', w_u') → va_P D vwCl (wdT cB h o v_bytes v_length v_place v_thread v_kind v_target v_value ++ wdS cI h o2 w_u) H → va_D A (wdT cB h o v_bytes v_length v_place v_thread v_kind v_target v_value ++ wdS cI h o2 w_u) → va_S A s.heap H locs → lv_has ls 4 [(0, .ref (h o)), (1, .ref (h o2)), (2, .int x2), (3, .int x3)] → W p l e rm7_readInto s m args below meth c H locs 0 0 Q (F0 m 47 ls []) := by
        intro v_place v_thread v_kind v_target v_value w_u x2 x3 H locs ls hf hP hD hS hl
        rw [f7_readInto_b47] at hf
        refine lv_iinc (v := (x3 + 1)) (lv' := [(3, .int (x3 + 1)), (0, .ref (h o)), (1, .ref (h o2)), (2, .int x2)]) hx hb dX7_readInto_47 hl (k := 3) rfl rfl (by decide) rfl (fun ls hl => ?_)
        refine lv_goto (tgt := 12) hx hb dX7_readInto_50 (by decide) ?_
        exact ih v_place v_thread v_kind v_target v_value w_u x2 (x3 + 1) _ _ _ hf hP hD hS (lv_sub hl [1, 2, 3, 0] rfl)
      intro v_place v_thread v_kind v_target v_value w_u x2 x3 H locs ls hf hP hD hS hl
      rw [f7_readInto_l12_s] at hf
      refine lv_iload_n hx hb dX7_readInto_12 rfl (lv_at hl 3 rfl) ?_
      refine lv_aload_n hx hb dX7_readInto_13 rfl (lv_at hl 0 rfl) ?_
      refine va_get (D := D) (cl := vwCl) (ci := 4) (v := .int v_length) (C := RX7) (T := TX7) (N := 7) hx hb hts hin7 hown hK hP 0 rfl rfl 1 (by decide) (hts (.fieldLink RX7 15 "StepOrders$Text" "length" "I") (by decide +kernel)) (fun _ h9 => h9) rfl dX7_readInto_14 ?_
      refine lv_icmp_ge (tgt := 53) hx hb dX7_readInto_17 (by decide) (fun c16 => ?_) (fun c16 => ?_)
      · rw [if_pos c16] at hf
        exact J53 v_place v_thread v_kind v_target v_value w_u x2 _ _ _ hf hP hD hS (lv_sub hl [0, 1, 2] rfl)
      · rw [if_neg c16] at hf
        refine lv_aload_n hx hb dX7_readInto_20 rfl (lv_at hl 0 rfl) ?_
        refine va_get (D := D) (cl := vwCl) (ci := 4) (v := .ref (h (o + 1))) (C := RX7) (T := TX7) (N := 7) hx hb hts hin7 hown hK hP 0 rfl rfl 0 (by decide) (hts (.fieldLink RX7 9 "StepOrders$Text" "bytes" "[B") (by decide +kernel)) (fun _ h9 => h9) rfl dX7_readInto_21 ?_
        refine lv_iload_n hx hb dX7_readInto_24 rfl (lv_at hl 3 rfl) ?_
        refine kb_bind hf (fun v17 hv17 hf => ?_)
        refine ka_bald (D := D) (cl := vwCl) hx hb hK hP 1 0 (f := v_bytes) rfl rfl (ard_in hv17) (ard_v hv17) dX7_readInto_25 ?_
        refine lv_bipush (v := 32) hx hb dX7_readInto_26 (by decide) ?_
        refine lv_icmp_eq (tgt := 47) hx hb dX7_readInto_28 (by decide) (fun c18 => ?_) (fun c18 => ?_)
        · rw [if_pos c18] at hf
          exact J47 v_place v_thread v_kind v_target v_value w_u x2 x3 _ _ _ hf hP hD hS (lv_sub hl [0, 1, 2, 3] rfl)
        · rw [if_neg c18] at hf
          refine lv_aload_n hx hb dX7_readInto_31 rfl (lv_at hl 0 rfl) ?_
          refine lv_aload_n hx hb dX7_readInto_32 rfl (lv_at hl 0 rfl) ?_
          refine va_get (D := D) (cl := vwCl) (ci := 4) (v := .ref (h (o + 1))) (C := RX7) (T := TX7) (N := 7) hx hb hts hin7 hown hK hP 0 rfl rfl 0 (by decide) (hts (.fieldLink RX7 9 "StepOrders$Text" "bytes" "[B") (by decide +kernel)) (fun _ h9 => h9) rfl dX7_readInto_33 ?_
          refine lv_iload_n hx hb dX7_readInto_36 rfl (lv_at hl 3 rfl) ?_
          refine kb_bind hf (fun v19 hv19 hf => ?_)
          refine ka_bald (D := D) (cl := vwCl) hx hb hK hP 1 0 (f := v_bytes) rfl rfl (ard_in hv19) (ard_v hv19) dX7_readInto_37 ?_
          refine lv_aload_n hx hb dX7_readInto_38 rfl (lv_at hl 1 rfl) ?_
          refine kb_bind hf (fun q20 hq20 hf => ?_)
          have hPc : va_P D vwCl (wdT cB h o v_bytes v_length v_place v_thread v_kind v_target v_value ++ wdS cI h o2 w_u) H := hP.sub [0, 1, 2, 3, 4] rfl
          have hDc : va_D A (wdT cB h o v_bytes v_length v_place v_thread v_kind v_target v_value ++ wdS cI h o2 w_u) := hD.sub [0, 1, 2, 3, 4] (by decide) rfl
          refine kd_iW (ws' := wdT cB h o v_bytes v_length q20.2.1 q20.2.2.1 q20.2.2.2.1 q20.2.2.2.2.1 q20.2.2.2.2.2.1 ++ wdS cI h o2 q20.2.2.2.2.2.2) (va_runV (As := [.int v19, .ref (h o2)]) (rest := []) ⟨hx, hb, hml, hown, hts⟩ (c7_takes l D cB cI cZ cO h o o2 H.size v19 v_bytes v_length v_place v_thread v_kind v_target v_value w_u q20.1 q20.2.1 q20.2.2.1 q20.2.2.2.1 q20.2.2.2.2.1 q20.2.2.2.2.2.1 q20.2.2.2.2.2.2 hq20) (cwV 2 hts gX7_readInto_X7_takes rfl rfl rfl (by decide +kernel) ⟨Nat.le_of_ble_eq_true rfl, Nat.le_of_ble_eq_true rfl⟩) ⟨kb_blind, va_recv hK hPc (ci := 4) (q0 := 0) rfl rfl, kb_pre hPc hDc hK hN⟩ rfl rfl hl.1 rfl (lv_room (Nat.le_of_ble_eq_true rfl)) dX7_readInto_39 ⟨Nat.le_refl _, Nat.le_refl _⟩) hP hD hS hA [0, 1, 2, 3, 4] [] rfl rfl (fun _ h9 => absurd h9 List.not_mem_nil) rfl rfl (fun H locs hn21 hP hD hS => ?_)
          refine lv_if_ne (tgt := 47) hx hb dX7_readInto_42 (by decide) (fun c22 => ?_) (fun c22 => ?_)
          · rw [if_neg c22] at hf
            exact J47 q20.2.1 q20.2.2.1 q20.2.2.2.1 q20.2.2.2.2.1 q20.2.2.2.2.2.1 q20.2.2.2.2.2.2 x2 x3 _ _ _ hf hP hD hS (lv_sub hl [0, 1, 2, 3] rfl)
          · rw [if_pos c22] at hf
            exact J45 q20.2.1 q20.2.2.1 q20.2.2.2.1 q20.2.2.2.2.1 q20.2.2.2.2.2.1 q20.2.2.2.2.2.2 x3 _ _ _ hf hP hD hS (lv_sub hl [3] rfl)
  rw [f7_readInto] at hf
  refine lv_aload_n hx hb dX7_readInto_0 rfl (lv_at hl 1 rfl) ?_
  refine kb_bind hf (fun q23 hq23 hf => ?_)
  have hPc : va_P D vwCl (wdS cI h o2 w_u) H := hP.sub [2, 3, 4] rfl
  have hDc : va_D A (wdS cI h o2 w_u) := hD.sub [2, 3, 4] (by decide) rfl
  refine kd_iR (va_runV (As := []) (rest := []) ⟨hx, hb, hml, hown, hts⟩ (c5_stepsInAll l D cB cI cZ cO h o2 H.size w_u q23 hq23) (cwV 0 hts gX7_readInto_X5_stepsInAll rfl rfl rfl (by decide +kernel) ⟨Nat.le_of_ble_eq_true rfl, Nat.le_of_ble_eq_true rfl⟩) ⟨kb_blind, va_recv hK hPc (ci := 3) (q0 := 0) rfl rfl, kb_pre hPc hDc hK hN⟩ rfl rfl hl.1 rfl (lv_room (Nat.le_of_ble_eq_true rfl)) dX7_readInto_1 ⟨Nat.le_refl _, Nat.le_refl _⟩) hP hD hS hA [2, 3, 4] rfl (fun H locs hn24 hP hS => ?_)
  refine lv_istore_n (lv' := [(2, .int q23), (0, .ref (h o)), (1, .ref (h o2))]) hx hb dX7_readInto_4 rfl hl (by decide) rfl (fun ls hl => ?_)
  refine lv_aload_n hx hb dX7_readInto_5 rfl (lv_at hl 1 rfl) ?_
  refine lv_iconst (v := 0) hx hb dX7_readInto_6 (by decide) ?_
  refine va_put (D := D) (cl := vwCl) (ci := 4) (v := .int (0 : Int32)) (ty := .int) (C := RX7) (T := TX7) (N := 7) hx hb hts hin7 tyX7 tyX7_ok nmX7 hown hK hP hD hS 0 rfl rfl 2 (by decide) (hts (.fieldLink RX7 25 "StepOrders$Text" "place" "I") (by decide +kernel)) (fun _ h9 => h9) rfl (tyX7_ok 2 (by decide)) rfl rfl (Nat.le_of_ble_eq_true rfl) dX7_readInto_7 (fun H locs hP hD hS => ?_)
  have hP : va_P D vwCl (wdT cB h o v_bytes v_length (0 : Int32) v_thread v_kind v_target v_value ++ wdS cI h o2 w_u) H := hP
  have hD : va_D A (wdT cB h o v_bytes v_length (0 : Int32) v_thread v_kind v_target v_value ++ wdS cI h o2 w_u) := hD
  refine lv_iconst (v := 0) hx hb dX7_readInto_10 (by decide) ?_
  refine lv_istore_n (lv' := [(3, .int (0 : Int32)), (2, .int q23), (0, .ref (h o)), (1, .ref (h o2))]) hx hb dX7_readInto_11 rfl hl (by decide) rfl (fun ls hl => ?_)
  exact J12 kFUEL (0 : Int32) v_thread v_kind v_target v_value w_u q23 (0 : Int32) _ _ _ hf hP hD hS (lv_sub hl [2, 3, 1, 0] rfl)
