set_option maxHeartbeats 4000000 in
set_option maxRecDepth 100000 in
theorem c5_takeFrom (l : Launch) (D : va_G) (cB cI cZ cO : ClassId) (h : Nat → Nat) (o : Nat) (o2 : Nat) (sz : Nat) (v_u : sT) (w_u : sT) (v_u' : sT) (hf : f5_takeFrom v_u w_u = some (v_u')) : Met l yX5_takeFrom wsX5_takeFrom rm5_takeFrom (va_Pc [.ref (h o), .ref (h o2)] (kb_B D (ka_tys cB cI cZ cO) sz (wdS cI h o v_u ++ wdS cI h o2 w_u))) (va_Qv (fun (_ : Unit) => True) (fun _ t => va_P D vwCl (wdS cI h o (v_u') ++ wdS cI h o2 w_u) t.heap) (va_A (wdS cI h o v_u ++ wdS cI h o2 w_u) sz)) 0 0 (va_A (wdS cI h o v_u ++ wdS cI h o2 w_u) sz) := by
  refine kb_metV (cc := cX5_takeFrom) (maxL := 2) (by decide) rfl (Nat.le_of_ble_eq_true rfl) ?_
  intro p e s m args below meth c Q A ls H hx hb hml hown hts hK hN hP hD hS hA hl hend
  have hown : s.vm.findClass RX5 = some m.cls := hown
  have hl : lv_has ls 2 [(0, .ref (h o)), (1, .ref (h o2))] := hl
  have hin5 : ∀ w ∈ u_ws RX5 TX5 5, w ∈ wsX5_takeFrom := by decide +kernel
  rw [f5_takeFrom] at hf
  refine lv_aload_n hx hb dX5_takeFrom_0 rfl (lv_at hl 1 rfl) ?_
  refine va_get (D := D) (cl := vwCl) (ci := 3) (v := .ref (h (o2 + 1))) (C := RX5) (T := TX5) (N := 5) hx hb hts hin5 hown hK hP 3 rfl rfl 0 (by decide) (hts (.fieldLink RX5 9 "StepOrders$State" "steps" "[I") (by decide +kernel)) (fun _ h9 => h9) rfl dX5_takeFrom_1 ?_
  refine lv_iconst (v := 0) hx hb dX5_takeFrom_4 (by decide) ?_
  refine lv_aload_n hx hb dX5_takeFrom_5 rfl (lv_at hl 0 rfl) ?_
  refine va_get (D := D) (cl := vwCl) (ci := 3) (v := .ref (h (o + 1))) (C := RX5) (T := TX5) (N := 5) hx hb hts hin5 hown hK hP 0 rfl rfl 0 (by decide) (hts (.fieldLink RX5 9 "StepOrders$State" "steps" "[I") (by decide +kernel)) (fun _ h9 => h9) rfl dX5_takeFrom_6 ?_
  refine lv_iconst (v := 0) hx hb dX5_takeFrom_9 (by decide) ?_
  refine lv_bipush (v := 12) hx hb dX5_takeFrom_10 (by decide) ?_
  refine va_copyi (D := D) (cl := vwCl) hx hb (hml.trans hl.1.symm) hown (hts (.methodLink RX5 18 arraycopyName) (by decide +kernel)) (hts (.native arraycopyName) (by decide +kernel)) (hts (.static arraycopyName) (by decide +kernel)) (hts (.initialized "java/lang/System") (by decide +kernel)) hK hP hD hS 4 1 1 1 (f := w_u.1) (g := v_u.1) (ty := .int) rfl rfl rfl rfl rfl (by decide) (by decide) (by decide) (by decide) (by decide) (fun _ _ => rfl) (Nat.le_of_ble_eq_true rfl) (Nat.le_of_ble_eq_true rfl) dX5_takeFrom_12 (fun H locs hP hD hS => ?_)
  have hP : va_P D vwCl (wdS cI h o ((va_cpy w_u.1 v_u.1 0 0 12), v_u.2.1, v_u.2.2.1, v_u.2.2.2.1, v_u.2.2.2.2) ++ wdS cI h o2 w_u) H := hP
  have hD : va_D A (wdS cI h o ((va_cpy w_u.1 v_u.1 0 0 12), v_u.2.1, v_u.2.2.1, v_u.2.2.2.1, v_u.2.2.2.2) ++ wdS cI h o2 w_u) := hD
  refine lv_aload_n hx hb dX5_takeFrom_15 rfl (lv_at hl 1 rfl) ?_
  refine va_get (D := D) (cl := vwCl) (ci := 3) (v := .ref (h (o2 + 2))) (C := RX5) (T := TX5) (N := 5) hx hb hts hin5 hown hK hP 3 rfl rfl 1 (by decide) (hts (.fieldLink RX5 15 "StepOrders$State" "counts" "[I") (by decide +kernel)) (fun _ h9 => h9) rfl dX5_takeFrom_16 ?_
  refine lv_iconst (v := 0) hx hb dX5_takeFrom_19 (by decide) ?_
  refine lv_aload_n hx hb dX5_takeFrom_20 rfl (lv_at hl 0 rfl) ?_
  refine va_get (D := D) (cl := vwCl) (ci := 3) (v := .ref (h (o + 2))) (C := RX5) (T := TX5) (N := 5) hx hb hts hin5 hown hK hP 0 rfl rfl 1 (by decide) (hts (.fieldLink RX5 15 "StepOrders$State" "counts" "[I") (by decide +kernel)) (fun _ h9 => h9) rfl dX5_takeFrom_21 ?_
  refine lv_iconst (v := 0) hx hb dX5_takeFrom_24 (by decide) ?_
  refine lv_iconst (v := 3) hx hb dX5_takeFrom_25 (by decide) ?_
  refine va_copyi (D := D) (cl := vwCl) hx hb (hml.trans hl.1.symm) hown (hts (.methodLink RX5 18 arraycopyName) (by decide +kernel)) (hts (.native arraycopyName) (by decide +kernel)) (hts (.static arraycopyName) (by decide +kernel)) (hts (.initialized "java/lang/System") (by decide +kernel)) hK hP hD hS 5 2 1 1 (f := w_u.2.1) (g := v_u.2.1) (ty := .int) rfl rfl rfl rfl rfl (by decide) (by decide) (by decide) (by decide) (by decide) (fun _ _ => rfl) (Nat.le_of_ble_eq_true rfl) (Nat.le_of_ble_eq_true rfl) dX5_takeFrom_26 (fun H locs hP hD hS => ?_)
  have hP : va_P D vwCl (wdS cI h o ((va_cpy w_u.1 v_u.1 0 0 12), (va_cpy w_u.2.1 v_u.2.1 0 0 3), v_u.2.2.1, v_u.2.2.2.1, v_u.2.2.2.2) ++ wdS cI h o2 w_u) H := hP
  have hD : va_D A (wdS cI h o ((va_cpy w_u.1 v_u.1 0 0 12), (va_cpy w_u.2.1 v_u.2.1 0 0 3), v_u.2.2.1, v_u.2.2.2.1, v_u.2.2.2.2) ++ wdS cI h o2 w_u) := hD
  refine lv_aload_n hx hb dX5_takeFrom_29 rfl (lv_at hl 0 rfl) ?_
  refine lv_aload_n hx hb dX5_takeFrom_30 rfl (lv_at hl 1 rfl) ?_
  refine va_get (D := D) (cl := vwCl) (ci := 3) (v := .long w_u.2.2.1) (C := RX5) (T := TX5) (N := 5) hx hb hts hin5 hown hK hP 3 rfl rfl 2 (by decide) (hts (.fieldLink RX5 24 "StepOrders$State" "beginning" "J") (by decide +kernel)) (fun _ h9 => h9) rfl dX5_takeFrom_31 ?_
  refine va_put (D := D) (cl := vwCl) (ci := 3) (v := .long w_u.2.2.1) (ty := .long) (C := RX5) (T := TX5) (N := 5) hx hb hts hin5 tyX5 tyX5_ok nmX5 hown hK hP hD hS 0 rfl rfl 2 (by decide) (hts (.fieldLink RX5 24 "StepOrders$State" "beginning" "J") (by decide +kernel)) (fun _ h9 => h9) rfl (tyX5_ok 2 (by decide)) rfl rfl (Nat.le_of_ble_eq_true rfl) dX5_takeFrom_34 (fun H locs hP hD hS => ?_)
  have hP : va_P D vwCl (wdS cI h o ((va_cpy w_u.1 v_u.1 0 0 12), (va_cpy w_u.2.1 v_u.2.1 0 0 3), w_u.2.2.1, v_u.2.2.2.1, v_u.2.2.2.2) ++ wdS cI h o2 w_u) H := hP
  have hD : va_D A (wdS cI h o ((va_cpy w_u.1 v_u.1 0 0 12), (va_cpy w_u.2.1 v_u.2.1 0 0 3), w_u.2.2.1, v_u.2.2.2.1, v_u.2.2.2.2) ++ wdS cI h o2 w_u) := hD
  refine lv_aload_n hx hb dX5_takeFrom_37 rfl (lv_at hl 0 rfl) ?_
  refine lv_aload_n hx hb dX5_takeFrom_38 rfl (lv_at hl 1 rfl) ?_
  refine va_get (D := D) (cl := vwCl) (ci := 3) (v := .long w_u.2.2.2.1) (C := RX5) (T := TX5) (N := 5) hx hb hts hin5 hown hK hP 3 rfl rfl 3 (by decide) (hts (.fieldLink RX5 28 "StepOrders$State" "runMoment" "J") (by decide +kernel)) (fun _ h9 => h9) rfl dX5_takeFrom_39 ?_
  refine va_put (D := D) (cl := vwCl) (ci := 3) (v := .long w_u.2.2.2.1) (ty := .long) (C := RX5) (T := TX5) (N := 5) hx hb hts hin5 tyX5 tyX5_ok nmX5 hown hK hP hD hS 0 rfl rfl 3 (by decide) (hts (.fieldLink RX5 28 "StepOrders$State" "runMoment" "J") (by decide +kernel)) (fun _ h9 => h9) rfl (tyX5_ok 3 (by decide)) rfl rfl (Nat.le_of_ble_eq_true rfl) dX5_takeFrom_42 (fun H locs hP hD hS => ?_)
  have hP : va_P D vwCl (wdS cI h o ((va_cpy w_u.1 v_u.1 0 0 12), (va_cpy w_u.2.1 v_u.2.1 0 0 3), w_u.2.2.1, w_u.2.2.2.1, v_u.2.2.2.2) ++ wdS cI h o2 w_u) H := hP
  have hD : va_D A (wdS cI h o ((va_cpy w_u.1 v_u.1 0 0 12), (va_cpy w_u.2.1 v_u.2.1 0 0 3), w_u.2.2.1, w_u.2.2.2.1, v_u.2.2.2.2) ++ wdS cI h o2 w_u) := hD
  refine lv_aload_n hx hb dX5_takeFrom_45 rfl (lv_at hl 0 rfl) ?_
  refine lv_aload_n hx hb dX5_takeFrom_46 rfl (lv_at hl 1 rfl) ?_
  refine va_get (D := D) (cl := vwCl) (ci := 3) (v := .int w_u.2.2.2.2) (C := RX5) (T := TX5) (N := 5) hx hb hts hin5 hown hK hP 3 rfl rfl 4 (by decide) (hts (.fieldLink RX5 31 "StepOrders$State" "runRow" "I") (by decide +kernel)) (fun _ h9 => h9) rfl dX5_takeFrom_47 ?_
  refine va_put (D := D) (cl := vwCl) (ci := 3) (v := .int w_u.2.2.2.2) (ty := .int) (C := RX5) (T := TX5) (N := 5) hx hb hts hin5 tyX5 tyX5_ok nmX5 hown hK hP hD hS 0 rfl rfl 4 (by decide) (hts (.fieldLink RX5 31 "StepOrders$State" "runRow" "I") (by decide +kernel)) (fun _ h9 => h9) rfl (tyX5_ok 4 (by decide)) rfl rfl (Nat.le_of_ble_eq_true rfl) dX5_takeFrom_50 (fun H locs hP hD hS => ?_)
  have hP : va_P D vwCl (wdS cI h o ((va_cpy w_u.1 v_u.1 0 0 12), (va_cpy w_u.2.1 v_u.2.1 0 0 3), w_u.2.2.1, w_u.2.2.2.1, w_u.2.2.2.2) ++ wdS cI h o2 w_u) H := hP
  have hD : va_D A (wdS cI h o ((va_cpy w_u.1 v_u.1 0 0 12), (va_cpy w_u.2.1 v_u.2.1 0 0 3), w_u.2.2.1, w_u.2.2.2.1, w_u.2.2.2.2) ++ wdS cI h o2 w_u) := hD
  obtain rfl := Option.some.inj hf
  exact hend _ _ _ _ hP hS dX5_takeFrom_53

set_option maxHeartbeats 4000000 in
set_option maxRecDepth 100000 in
theorem c5_stepAt (l : Launch) (D : va_G) (cB cI cZ cO : ClassId) (h : Nat → Nat) (o : Nat) (sz : Nat) (x1 : Int32) (x2 : Int32) (v_u : sT) (r0 : Int32) (hf : f5_stepAt v_u x1 x2 = some r0) : Met l yX5_stepAt wsX5_stepAt rm5_stepAt (va_Pc [.ref (h o), .int x1, .int x2] (kb_B D (ka_tys cB cI cZ cO) sz (wdS cI h o v_u))) (va_Qi (kb_post .int r0) (fun _ t => va_P D vwCl (wdS cI h o v_u) t.heap) (va_A (wdS cI h o v_u) sz)) 0 0 (va_A (wdS cI h o v_u) sz) := by
  refine kb_metZ (cc := cX5_stepAt) (maxL := 4) (ty := .int) (by decide) rfl (Nat.le_of_ble_eq_true rfl) ?_
  intro p e s m args below meth c Q A ls H hx hb hml hown hts hK hN hP hD hS hA hl hend
  have hown : s.vm.findClass RX5 = some m.cls := hown
  have hl : lv_has ls 4 [(0, .ref (h o)), (1, .int x1), (2, .int x2)] := hl
  have hin5 : ∀ w ∈ u_ws RX5 TX5 5, w ∈ wsX5_stepAt := by decide +kernel
  have J28 : ∀ (x1 : Int32) (x2 : Int32) (s0 : Int32) (H : Heap) (locs : List Loc) (ls : Array Slot), f5_stepAt_b28 v_u x1 x2 s0 = some r0 → va_P D vwCl (wdS cI h o v_u) H → va_D A (wdS cI h o v_u) → va_S A s.heap H locs → lv_has ls 4 [(0, .ref (h o)), (1, .int x1), (2, .int x2)] → W p l e rm5_stepAt s m args below meth c H locs 0 0 Q (F0 m 28 ls [.int s0]) := by
    intro x1 x2 s0 H locs ls hf hP hD hS hl
    rw [f5_stepAt_b28] at hf
    refine lv_istore_n (lv' := [(3, .int s0), (0, .ref (h o)), (1, .int x1), (2, .int x2)]) hx hb dX5_stepAt_28 rfl hl (by decide) rfl (fun ls hl => ?_)
    refine lv_iload_n hx hb dX5_stepAt_29 rfl (lv_at hl 0 rfl) ?_
    refine lv_if_eq (tgt := 46) hx hb dX5_stepAt_30 (by decide) (fun c3 => ?_) (fun c3 => ?_)
    · rw [if_pos c3] at hf
      refine lv_iconst (v := (-1)) hx hb dX5_stepAt_46 (by decide) ?_
      obtain rfl := Option.some.inj hf
      exact hend _ _ _ _ rfl hP hS dX5_stepAt_47
    · rw [if_neg c3] at hf
      refine lv_aload_n hx hb dX5_stepAt_33 rfl (lv_at hl 1 rfl) ?_
      refine va_get (D := D) (cl := vwCl) (ci := 3) (v := .ref (h (o + 1))) (C := RX5) (T := TX5) (N := 5) hx hb hts hin5 hown hK hP 0 rfl rfl 0 (by decide) (hts (.fieldLink RX5 9 "StepOrders$State" "steps" "[I") (by decide +kernel)) (fun _ h9 => h9) rfl dX5_stepAt_34 ?_
      refine lv_iload_n hx hb dX5_stepAt_37 rfl (lv_at hl 2 rfl) ?_
      refine lv_iconst (v := 4) hx hb dX5_stepAt_38 (by decide) ?_
      refine lv_imul hx hb dX5_stepAt_39 ?_
      refine lv_iload_n hx hb dX5_stepAt_40 rfl (lv_at hl 3 rfl) ?_
      refine lv_iadd hx hb dX5_stepAt_41 ?_
      refine kb_bind hf (fun v4 hv4 hf => ?_)
      refine ka_iald (D := D) (cl := vwCl) hx hb hK hP 1 1 (f := v_u.1) rfl rfl (ard_in hv4) (ard_v hv4) dX5_stepAt_42 ?_
      refine lv_goto (tgt := 47) hx hb dX5_stepAt_43 (by decide) ?_
      obtain rfl := Option.some.inj hf
      exact hend _ _ _ _ rfl hP hS dX5_stepAt_47
  have J27 : ∀ (x1 : Int32) (x2 : Int32) (H : Heap) (locs : List Loc) (ls : Array Slot), f5_stepAt_b27 v_u x1 x2 = some r0 → va_P D vwCl (wdS cI h o v_u) H → va_D A (wdS cI h o v_u) → va_S A s.heap H locs → lv_has ls 4 [(0, .ref (h o)), (1, .int x1), (2, .int x2)] → W p l e rm5_stepAt s m args below meth c H locs 0 0 Q (F0 m 27 ls []) := by
    intro x1 x2 H locs ls hf hP hD hS hl
    rw [f5_stepAt_b27] at hf
    refine lv_iconst (v := 0) hx hb dX5_stepAt_27 (by decide) ?_
    exact J28 x1 x2 (0 : Int32) _ _ _ hf hP hD hS (lv_sub hl [0, 1, 2] rfl)
  rw [f5_stepAt] at hf
  refine lv_iload_n hx hb dX5_stepAt_0 rfl (lv_at hl 1 rfl) ?_
  refine lv_if_lt (tgt := 27) hx hb dX5_stepAt_1 (by decide) (fun c5 => ?_) (fun c5 => ?_)
  · rw [if_pos c5] at hf
    exact J27 x1 x2 _ _ _ hf hP hD hS (lv_sub hl [0, 1, 2] rfl)
  · rw [if_neg c5] at hf
    refine lv_iload_n hx hb dX5_stepAt_4 rfl (lv_at hl 1 rfl) ?_
    refine lv_iconst (v := 3) hx hb dX5_stepAt_5 (by decide) ?_
    refine lv_icmp_ge (tgt := 27) hx hb dX5_stepAt_6 (by decide) (fun c6 => ?_) (fun c6 => ?_)
    · rw [if_pos c6] at hf
      exact J27 x1 x2 _ _ _ hf hP hD hS (lv_sub hl [0, 1, 2] rfl)
    · rw [if_neg c6] at hf
      refine lv_iload_n hx hb dX5_stepAt_9 rfl (lv_at hl 2 rfl) ?_
      refine lv_if_lt (tgt := 27) hx hb dX5_stepAt_10 (by decide) (fun c7 => ?_) (fun c7 => ?_)
      · rw [if_pos c7] at hf
        exact J27 x1 x2 _ _ _ hf hP hD hS (lv_sub hl [0, 1, 2] rfl)
      · rw [if_neg c7] at hf
        refine lv_iload_n hx hb dX5_stepAt_13 rfl (lv_at hl 2 rfl) ?_
        refine lv_aload_n hx hb dX5_stepAt_14 rfl (lv_at hl 0 rfl) ?_
        refine va_get (D := D) (cl := vwCl) (ci := 3) (v := .ref (h (o + 2))) (C := RX5) (T := TX5) (N := 5) hx hb hts hin5 hown hK hP 0 rfl rfl 1 (by decide) (hts (.fieldLink RX5 15 "StepOrders$State" "counts" "[I") (by decide +kernel)) (fun _ h9 => h9) rfl dX5_stepAt_15 ?_
        refine lv_iload_n hx hb dX5_stepAt_18 rfl (lv_at hl 1 rfl) ?_
        refine kb_bind hf (fun v8 hv8 hf => ?_)
        refine ka_iald (D := D) (cl := vwCl) hx hb hK hP 2 1 (f := v_u.2.1) rfl rfl (ard_in hv8) (ard_v hv8) dX5_stepAt_19 ?_
        refine lv_icmp_ge (tgt := 27) hx hb dX5_stepAt_20 (by decide) (fun c9 => ?_) (fun c9 => ?_)
        · rw [if_pos c9] at hf
          exact J27 x1 x2 _ _ _ hf hP hD hS (lv_sub hl [0, 1, 2] rfl)
        · rw [if_neg c9] at hf
          refine lv_iconst (v := 1) hx hb dX5_stepAt_23 (by decide) ?_
          refine lv_goto (tgt := 28) hx hb dX5_stepAt_24 (by decide) ?_
          exact J28 x1 x2 (1 : Int32) _ _ _ hf hP hD hS (lv_sub hl [0, 1, 2] rfl)

set_option maxHeartbeats 4000000 in
set_option maxRecDepth 100000 in
theorem c5_hasSameThreads (l : Launch) (D : va_G) (cB cI cZ cO : ClassId) (h : Nat → Nat) (o : Nat) (o2 : Nat) (sz : Nat) (v_u : sT) (w_u : sT) (r0 : Int32) (hf : f5_hasSameThreads v_u w_u = some r0) : Met l yX5_hasSameThreads wsX5_hasSameThreads rm5_hasSameThreads (va_Pc [.ref (h o), .ref (h o2)] (kb_B D (ka_tys cB cI cZ cO) sz (wdS cI h o v_u ++ wdS cI h o2 w_u))) (va_Qi (kb_post .boolean r0) (fun _ t => va_P D vwCl (wdS cI h o v_u ++ wdS cI h o2 w_u) t.heap) (va_A (wdS cI h o v_u ++ wdS cI h o2 w_u) sz)) 0 0 (va_A (wdS cI h o v_u ++ wdS cI h o2 w_u) sz) := by
  refine kb_metZ (cc := cX5_hasSameThreads) (maxL := 4) (ty := .boolean) (by decide) rfl (Nat.le_of_ble_eq_true rfl) ?_
  intro p e s m args below meth c Q A ls H hx hb hml hown hts hK hN hP hD hS hA hl hend
  have hown : s.vm.findClass RX5 = some m.cls := hown
  have hl : lv_has ls 4 [(0, .ref (h o)), (1, .ref (h o2))] := hl
  have hin5 : ∀ w ∈ u_ws RX5 TX5 5, w ∈ wsX5_hasSameThreads := by decide +kernel
  have J16 : ∀ (n : Nat) (x2 : Int32) (H : Heap) (locs : List Loc) (ls : Array Slot), f5_hasSameThreads_l16 n v_u w_u x2 = some r0 → va_P D vwCl (wdS cI h o v_u ++ wdS cI h o2 w_u) H → va_D A (wdS cI h o v_u ++ wdS cI h o2 w_u) → va_S A s.heap H locs → lv_has ls 4 [(0, .ref (h o)), (1, .ref (h o2)), (2, .int x2)] → W p l e rm5_hasSameThreads s m args below meth c H locs 0 0 Q (F0 m 16 ls []) := by
    intro n
    induction n with
    | zero =>
      intro x2 H locs ls hf
      cases (show (none : Option (Int32)) = some r0 from hf)
    | succ n ih =>
      have J73 : ∀ (x2 : Int32) (H : Heap) (locs : List Loc) (ls : Array Slot), f5_hasSameThreads_b73 (f5_hasSameThreads_l16 n) v_u w_u x2 = some r0 → va_P D vwCl (wdS cI h o v_u ++ wdS cI h o2 w_u) H → va_D A (wdS cI h o v_u ++ wdS cI h o2 w_u) → va_S A s.heap H locs → lv_has ls 4 [(0, .ref (h o)), (1, .ref (h o2)), (2, .int x2)] → W p l e rm5_hasSameThreads s m args below meth c H locs 0 0 Q (F0 m 73 ls []) := by
        intro x2 H locs ls hf hP hD hS hl
        rw [f5_hasSameThreads_b73] at hf
        refine lv_iinc (v := (x2 + 1)) (lv' := [(2, .int (x2 + 1)), (0, .ref (h o)), (1, .ref (h o2))]) hx hb dX5_hasSameThreads_73 hl (k := 2) rfl rfl (by decide) rfl (fun ls hl => ?_)
        refine lv_goto (tgt := 16) hx hb dX5_hasSameThreads_76 (by decide) ?_
        exact ih (x2 + 1) _ _ _ hf hP hD hS (lv_sub hl [1, 2, 0] rfl)
      have J40 : ∀ (n40 : Nat) (x2 : Int32) (x3 : Int32) (H : Heap) (locs : List Loc) (ls : Array Slot), f5_hasSameThreads_l40 (f5_hasSameThreads_l16 n) n40 v_u w_u x2 x3 = some r0 → va_P D vwCl (wdS cI h o v_u ++ wdS cI h o2 w_u) H → va_D A (wdS cI h o v_u ++ wdS cI h o2 w_u) → va_S A s.heap H locs → lv_has ls 4 [(0, .ref (h o)), (1, .ref (h o2)), (2, .int x2), (3, .int x3)] → W p l e rm5_hasSameThreads s m args below meth c H locs 0 0 Q (F0 m 40 ls []) := by
        intro n40
        induction n40 with
        | zero =>
          intro x2 x3 H locs ls hf
          cases (show (none : Option (Int32)) = some r0 from hf)
        | succ n40 ih40 =>
          intro x2 x3 H locs ls hf hP hD hS hl
          rw [f5_hasSameThreads_l40_s] at hf
          refine lv_iload_n hx hb dX5_hasSameThreads_40 rfl (lv_at hl 3 rfl) ?_
          refine lv_aload_n hx hb dX5_hasSameThreads_41 rfl (lv_at hl 0 rfl) ?_
          refine va_get (D := D) (cl := vwCl) (ci := 3) (v := .ref (h (o + 2))) (C := RX5) (T := TX5) (N := 5) hx hb hts hin5 hown hK hP 0 rfl rfl 1 (by decide) (hts (.fieldLink RX5 15 "StepOrders$State" "counts" "[I") (by decide +kernel)) (fun _ h9 => h9) rfl dX5_hasSameThreads_42 ?_
          refine lv_iload_n hx hb dX5_hasSameThreads_45 rfl (lv_at hl 2 rfl) ?_
          refine kb_bind hf (fun v12 hv12 hf => ?_)
          refine ka_iald (D := D) (cl := vwCl) hx hb hK hP 2 1 (f := v_u.2.1) rfl rfl (ard_in hv12) (ard_v hv12) dX5_hasSameThreads_46 ?_
          refine lv_icmp_ge (tgt := 73) hx hb dX5_hasSameThreads_47 (by decide) (fun c13 => ?_) (fun c13 => ?_)
          · rw [if_pos c13] at hf
            exact J73 x2 _ _ _ hf hP hD hS (lv_sub hl [0, 1, 2] rfl)
          · rw [if_neg c13] at hf
            refine lv_aload_n hx hb dX5_hasSameThreads_50 rfl (lv_at hl 0 rfl) ?_
            refine lv_iload_n hx hb dX5_hasSameThreads_51 rfl (lv_at hl 2 rfl) ?_
            refine lv_iload_n hx hb dX5_hasSameThreads_52 rfl (lv_at hl 3 rfl) ?_
            refine kb_bind hf (fun q14 hq14 hf => ?_)
            have hPc : va_P D vwCl (wdS cI h o v_u) H := hP.sub [0, 1, 2] rfl
            have hDc : va_D A (wdS cI h o v_u) := hD.sub [0, 1, 2] (by decide) rfl
            refine kd_iR (va_runV (As := [.int x2, .int x3]) (rest := []) ⟨hx, hb, hml, hown, hts⟩ (c5_stepAt l D cB cI cZ cO h o H.size x2 x3 v_u q14 hq14) (cwV 2 hts gX5_hasSameThreads_X5_stepAt rfl rfl rfl (by decide +kernel) ⟨Nat.le_of_ble_eq_true rfl, Nat.le_of_ble_eq_true rfl⟩) ⟨kb_blind, va_recv hK hPc (ci := 3) (q0 := 0) rfl rfl, kb_pre hPc hDc hK hN⟩ rfl rfl hl.1 rfl (lv_room (Nat.le_of_ble_eq_true rfl)) dX5_hasSameThreads_53 ⟨Nat.le_refl _, Nat.le_refl _⟩) hP hD hS hA [0, 1, 2] rfl (fun H locs hn15 hP hS => ?_)
            refine lv_aload_n hx hb dX5_hasSameThreads_56 rfl (lv_at hl 1 rfl) ?_
            refine lv_iload_n hx hb dX5_hasSameThreads_57 rfl (lv_at hl 2 rfl) ?_
            refine lv_iload_n hx hb dX5_hasSameThreads_58 rfl (lv_at hl 3 rfl) ?_
            refine kb_bind hf (fun q16 hq16 hf => ?_)
            have hPc : va_P D vwCl (wdS cI h o2 w_u) H := hP.sub [3, 4, 5] rfl
            have hDc : va_D A (wdS cI h o2 w_u) := hD.sub [3, 4, 5] (by decide) rfl
            refine kd_iR (va_runV (As := [.int x2, .int x3]) (rest := [.int q14]) ⟨hx, hb, hml, hown, hts⟩ (c5_stepAt l D cB cI cZ cO h o2 H.size x2 x3 w_u q16 hq16) (cwV 2 hts gX5_hasSameThreads_X5_stepAt rfl rfl rfl (by decide +kernel) ⟨Nat.le_of_ble_eq_true rfl, Nat.le_of_ble_eq_true rfl⟩) ⟨kb_blind, va_recv hK hPc (ci := 3) (q0 := 0) rfl rfl, kb_pre hPc hDc hK hN⟩ rfl rfl hl.1 rfl (lv_room (Nat.le_of_ble_eq_true rfl)) dX5_hasSameThreads_59 ⟨Nat.le_refl _, Nat.le_refl _⟩) hP hD hS hA [3, 4, 5] rfl (fun H locs hn17 hP hS => ?_)
            refine lv_icmp_eq (tgt := 67) hx hb dX5_hasSameThreads_62 (by decide) (fun c18 => ?_) (fun c18 => ?_)
            · rw [if_pos c18] at hf
              refine lv_iinc (v := (x3 + 1)) (lv' := [(3, .int (x3 + 1)), (0, .ref (h o)), (1, .ref (h o2)), (2, .int x2)]) hx hb dX5_hasSameThreads_67 hl (k := 3) rfl rfl (by decide) rfl (fun ls hl => ?_)
              refine lv_goto (tgt := 40) hx hb dX5_hasSameThreads_70 (by decide) ?_
              exact ih40 x2 (x3 + 1) _ _ _ hf hP hD hS (lv_sub hl [1, 2, 3, 0] rfl)
            · rw [if_neg c18] at hf
              refine lv_iconst (v := 0) hx hb dX5_hasSameThreads_65 (by decide) ?_
              obtain rfl := Option.some.inj hf
              exact hend _ _ _ _ rfl hP hS dX5_hasSameThreads_66
      intro x2 H locs ls hf hP hD hS hl
      rw [f5_hasSameThreads_l16_s] at hf
      refine lv_iload_n hx hb dX5_hasSameThreads_16 rfl (lv_at hl 2 rfl) ?_
      refine lv_iconst (v := 3) hx hb dX5_hasSameThreads_17 (by decide) ?_
      refine lv_icmp_ge (tgt := 79) hx hb dX5_hasSameThreads_18 (by decide) (fun c19 => ?_) (fun c19 => ?_)
      · rw [if_pos c19] at hf
        refine lv_iconst (v := 1) hx hb dX5_hasSameThreads_79 (by decide) ?_
        obtain rfl := Option.some.inj hf
        exact hend _ _ _ _ rfl hP hS dX5_hasSameThreads_80
      · rw [if_neg c19] at hf
        refine lv_aload_n hx hb dX5_hasSameThreads_21 rfl (lv_at hl 0 rfl) ?_
        refine va_get (D := D) (cl := vwCl) (ci := 3) (v := .ref (h (o + 2))) (C := RX5) (T := TX5) (N := 5) hx hb hts hin5 hown hK hP 0 rfl rfl 1 (by decide) (hts (.fieldLink RX5 15 "StepOrders$State" "counts" "[I") (by decide +kernel)) (fun _ h9 => h9) rfl dX5_hasSameThreads_22 ?_
        refine lv_iload_n hx hb dX5_hasSameThreads_25 rfl (lv_at hl 2 rfl) ?_
        refine kb_bind hf (fun v20 hv20 hf => ?_)
        refine ka_iald (D := D) (cl := vwCl) hx hb hK hP 2 1 (f := v_u.2.1) rfl rfl (ard_in hv20) (ard_v hv20) dX5_hasSameThreads_26 ?_
        refine lv_aload_n hx hb dX5_hasSameThreads_27 rfl (lv_at hl 1 rfl) ?_
        refine va_get (D := D) (cl := vwCl) (ci := 3) (v := .ref (h (o2 + 2))) (C := RX5) (T := TX5) (N := 5) hx hb hts hin5 hown hK hP 3 rfl rfl 1 (by decide) (hts (.fieldLink RX5 15 "StepOrders$State" "counts" "[I") (by decide +kernel)) (fun _ h9 => h9) rfl dX5_hasSameThreads_28 ?_
        refine lv_iload_n hx hb dX5_hasSameThreads_31 rfl (lv_at hl 2 rfl) ?_
        refine kb_bind hf (fun v21 hv21 hf => ?_)
        refine ka_iald (D := D) (cl := vwCl) hx hb hK hP 5 1 (f := w_u.2.1) rfl rfl (ard_in hv21) (ard_v hv21) dX5_hasSameThreads_32 ?_
        refine lv_icmp_eq (tgt := 38) hx hb dX5_hasSameThreads_33 (by decide) (fun c22 => ?_) (fun c22 => ?_)
        · rw [if_pos c22] at hf
          refine lv_iconst (v := 0) hx hb dX5_hasSameThreads_38 (by decide) ?_
          refine lv_istore_n (lv' := [(3, .int (0 : Int32)), (0, .ref (h o)), (1, .ref (h o2)), (2, .int x2)]) hx hb dX5_hasSameThreads_39 rfl hl (by decide) rfl (fun ls hl => ?_)
          exact J40 kFUEL x2 (0 : Int32) _ _ _ hf hP hD hS (lv_sub hl [1, 2, 3, 0] rfl)
        · rw [if_neg c22] at hf
          refine lv_iconst (v := 0) hx hb dX5_hasSameThreads_36 (by decide) ?_
          obtain rfl := Option.some.inj hf
          exact hend _ _ _ _ rfl hP hS dX5_hasSameThreads_37
  rw [f5_hasSameThreads] at hf
  refine lv_aload_n hx hb dX5_hasSameThreads_0 rfl (lv_at hl 0 rfl) ?_
  refine va_get (D := D) (cl := vwCl) (ci := 3) (v := .long v_u.2.2.1) (C := RX5) (T := TX5) (N := 5) hx hb hts hin5 hown hK hP 0 rfl rfl 2 (by decide) (hts (.fieldLink RX5 24 "StepOrders$State" "beginning" "J") (by decide +kernel)) (fun _ h9 => h9) rfl dX5_hasSameThreads_1 ?_
  refine lv_aload_n hx hb dX5_hasSameThreads_4 rfl (lv_at hl 1 rfl) ?_
  refine va_get (D := D) (cl := vwCl) (ci := 3) (v := .long w_u.2.2.1) (C := RX5) (T := TX5) (N := 5) hx hb hts hin5 hown hK hP 3 rfl rfl 2 (by decide) (hts (.fieldLink RX5 24 "StepOrders$State" "beginning" "J") (by decide +kernel)) (fun _ h9 => h9) rfl dX5_hasSameThreads_5 ?_
  refine W.lcmp hx hb dX5_hasSameThreads_8 ?_
  refine lv_if_eq (tgt := 14) hx hb dX5_hasSameThreads_9 (by decide) (fun c23 => ?_) (fun c23 => ?_)
  · rw [if_pos c23] at hf
    refine lv_iconst (v := 0) hx hb dX5_hasSameThreads_14 (by decide) ?_
    refine lv_istore_n (lv' := [(2, .int (0 : Int32)), (0, .ref (h o)), (1, .ref (h o2))]) hx hb dX5_hasSameThreads_15 rfl hl (by decide) rfl (fun ls hl => ?_)
    exact J16 kFUEL (0 : Int32) _ _ _ hf hP hD hS (lv_sub hl [1, 2, 0] rfl)
  · rw [if_neg c23] at hf
    refine lv_iconst (v := 0) hx hb dX5_hasSameThreads_12 (by decide) ?_
    obtain rfl := Option.some.inj hf
    exact hend _ _ _ _ rfl hP hS dX5_hasSameThreads_13

set_option maxHeartbeats 4000000 in
set_option maxRecDepth 100000 in
theorem c5_stepsOf (l : Launch) (D : va_G) (cB cI cZ cO : ClassId) (h : Nat → Nat) (o : Nat) (sz : Nat) (x1 : Int32) (v_u : sT) (r0 : Int32) (hf : f5_stepsOf v_u x1 = some r0) : Met l yX5_stepsOf wsX5_stepsOf rm5_stepsOf (va_Pc [.ref (h o), .int x1] (kb_B D (ka_tys cB cI cZ cO) sz (wdS cI h o v_u))) (va_Qi (kb_post .int r0) (fun _ t => va_P D vwCl (wdS cI h o v_u) t.heap) (va_A (wdS cI h o v_u) sz)) 0 0 (va_A (wdS cI h o v_u) sz) := by
  refine kb_metZ (cc := cX5_stepsOf) (maxL := 2) (ty := .int) (by decide) rfl (Nat.le_of_ble_eq_true rfl) ?_
  intro p e s m args below meth c Q A ls H hx hb hml hown hts hK hN hP hD hS hA hl hend
  have hown : s.vm.findClass RX5 = some m.cls := hown
  have hl : lv_has ls 2 [(0, .ref (h o)), (1, .int x1)] := hl
  have hin5 : ∀ w ∈ u_ws RX5 TX5 5, w ∈ wsX5_stepsOf := by decide +kernel
  rw [f5_stepsOf] at hf
  refine lv_iload_n hx hb dX5_stepsOf_0 rfl (lv_at hl 1 rfl) ?_
  refine lv_iconst (v := 3) hx hb dX5_stepsOf_1 (by decide) ?_
  have hPc : va_P D vwCl ([]) H := hP.sub [] rfl
  have hDc : va_D A ([]) := hD.sub [] (by decide) rfl
  refine kd_iR (va_runSN (As := [.int x1, .int (3 : Int32)]) (rest := []) ⟨hx, hb, hml, hown, hts⟩ (c8_below l D cB cI cZ cO h H.size x1 (3 : Int32) (f8_below x1 (3 : Int32)) rfl) ⟨va_cnB 2 hts gX5_stepsOf_X8_below_n39 rfl rfl rfl hN.2.2.1 (hts (.initialized RX8) (by decide +kernel)) (by decide +kernel) ⟨Nat.le_of_ble_eq_true rfl, Nat.le_of_ble_eq_true rfl⟩, hts (.static yX8_below) (by decide +kernel), trivial⟩ ⟨kb_blind, kb_pre hPc hDc hK hN⟩ rfl rfl hl.1 rfl (lv_room (Nat.le_of_ble_eq_true rfl)) dX5_stepsOf_2 ⟨Nat.le_refl _, Nat.le_refl _⟩) hP hD hS hA [] rfl (fun H locs hn1 hP hS => ?_)
  refine lv_if_eq (tgt := 17) hx hb dX5_stepsOf_5 (by decide) (fun c2 => ?_) (fun c2 => ?_)
  · rw [if_pos c2] at hf
    refine lv_iconst (v := 0) hx hb dX5_stepsOf_17 (by decide) ?_
    obtain rfl := Option.some.inj hf
    exact hend _ _ _ _ rfl hP hS dX5_stepsOf_18
  · rw [if_neg c2] at hf
    refine lv_aload_n hx hb dX5_stepsOf_8 rfl (lv_at hl 0 rfl) ?_
    refine va_get (D := D) (cl := vwCl) (ci := 3) (v := .ref (h (o + 2))) (C := RX5) (T := TX5) (N := 5) hx hb hts hin5 hown hK hP 0 rfl rfl 1 (by decide) (hts (.fieldLink RX5 15 "StepOrders$State" "counts" "[I") (by decide +kernel)) (fun _ h9 => h9) rfl dX5_stepsOf_9 ?_
    refine lv_iload_n hx hb dX5_stepsOf_12 rfl (lv_at hl 1 rfl) ?_
    refine kb_bind hf (fun v3 hv3 hf => ?_)
    refine ka_iald (D := D) (cl := vwCl) hx hb hK hP 2 1 (f := v_u.2.1) rfl rfl (ard_in hv3) (ard_v hv3) dX5_stepsOf_13 ?_
    refine lv_goto (tgt := 18) hx hb dX5_stepsOf_14 (by decide) ?_
    obtain rfl := Option.some.inj hf
    exact hend _ _ _ _ rfl hP hS dX5_stepsOf_18

set_option maxHeartbeats 4000000 in
set_option maxRecDepth 100000 in
theorem c5_stepsInAll (l : Launch) (D : va_G) (cB cI cZ cO : ClassId) (h : Nat → Nat) (o : Nat) (sz : Nat) (v_u : sT) (r0 : Int32) (hf : f5_stepsInAll v_u = some r0) : Met l yX5_stepsInAll wsX5_stepsInAll rm5_stepsInAll (va_Pc [.ref (h o)] (kb_B D (ka_tys cB cI cZ cO) sz (wdS cI h o v_u))) (va_Qi (kb_post .int r0) (fun _ t => va_P D vwCl (wdS cI h o v_u) t.heap) (va_A (wdS cI h o v_u) sz)) 0 0 (va_A (wdS cI h o v_u) sz) := by
  refine kb_metZ (cc := cX5_stepsInAll) (maxL := 3) (ty := .int) (by decide) rfl (Nat.le_of_ble_eq_true rfl) ?_
  intro p e s m args below meth c Q A ls H hx hb hml hown hts hK hN hP hD hS hA hl hend
  have hown : s.vm.findClass RX5 = some m.cls := hown
  have hl : lv_has ls 3 [(0, .ref (h o))] := hl
  have hin5 : ∀ w ∈ u_ws RX5 TX5 5, w ∈ wsX5_stepsInAll := by decide +kernel
  have J24 : ∀ (x1 : Int32) (H : Heap) (locs : List Loc) (ls : Array Slot), f5_stepsInAll_b24 v_u x1 = some r0 → va_P D vwCl (wdS cI h o v_u) H → va_D A (wdS cI h o v_u) → va_S A s.heap H locs → lv_has ls 3 [(1, .int x1)] → W p l e rm5_stepsInAll s m args below meth c H locs 0 0 Q (F0 m 24 ls []) := by
    intro x1 H locs ls hf hP hD hS hl
    rw [f5_stepsInAll_b24] at hf
    refine lv_iload_n hx hb dX5_stepsInAll_24 rfl (lv_at hl 0 rfl) ?_
    obtain rfl := Option.some.inj hf
    exact hend _ _ _ _ rfl hP hS dX5_stepsInAll_25
  have J4 : ∀ (n : Nat) (x1 : Int32) (x2 : Int32) (H : Heap) (locs : List Loc) (ls : Array Slot), f5_stepsInAll_l4 n v_u x1 x2 = some r0 → va_P D vwCl (wdS cI h o v_u) H → va_D A (wdS cI h o v_u) → va_S A s.heap H locs → lv_has ls 3 [(0, .ref (h o)), (1, .int x1), (2, .int x2)] → W p l e rm5_stepsInAll s m args below meth c H locs 0 0 Q (F0 m 4 ls []) := by
    intro n
    induction n with
    | zero =>
      intro x1 x2 H locs ls hf
      cases (show (none : Option (Int32)) = some r0 from hf)
    | succ n ih =>
      intro x1 x2 H locs ls hf hP hD hS hl
      rw [f5_stepsInAll_l4_s] at hf
      refine lv_iload_n hx hb dX5_stepsInAll_4 rfl (lv_at hl 2 rfl) ?_
      refine lv_iconst (v := 3) hx hb dX5_stepsInAll_5 (by decide) ?_
      refine lv_icmp_ge (tgt := 24) hx hb dX5_stepsInAll_6 (by decide) (fun c3 => ?_) (fun c3 => ?_)
      · rw [if_pos c3] at hf
        exact J24 x1 _ _ _ hf hP hD hS (lv_sub hl [1] rfl)
      · rw [if_neg c3] at hf
        refine lv_iload_n hx hb dX5_stepsInAll_9 rfl (lv_at hl 1 rfl) ?_
        refine lv_aload_n hx hb dX5_stepsInAll_10 rfl (lv_at hl 0 rfl) ?_
        refine va_get (D := D) (cl := vwCl) (ci := 3) (v := .ref (h (o + 2))) (C := RX5) (T := TX5) (N := 5) hx hb hts hin5 hown hK hP 0 rfl rfl 1 (by decide) (hts (.fieldLink RX5 15 "StepOrders$State" "counts" "[I") (by decide +kernel)) (fun _ h9 => h9) rfl dX5_stepsInAll_11 ?_
        refine lv_iload_n hx hb dX5_stepsInAll_14 rfl (lv_at hl 2 rfl) ?_
        refine kb_bind hf (fun v4 hv4 hf => ?_)
        refine ka_iald (D := D) (cl := vwCl) hx hb hK hP 2 1 (f := v_u.2.1) rfl rfl (ard_in hv4) (ard_v hv4) dX5_stepsInAll_15 ?_
        refine lv_iadd hx hb dX5_stepsInAll_16 ?_
        refine lv_istore_n (lv' := [(1, .int (x1 + v4)), (0, .ref (h o)), (2, .int x2)]) hx hb dX5_stepsInAll_17 rfl hl (by decide) rfl (fun ls hl => ?_)
        refine lv_iinc (v := (x2 + 1)) (lv' := [(2, .int (x2 + 1)), (1, .int (x1 + v4)), (0, .ref (h o))]) hx hb dX5_stepsInAll_18 hl (k := 2) rfl rfl (by decide) rfl (fun ls hl => ?_)
        refine lv_goto (tgt := 4) hx hb dX5_stepsInAll_21 (by decide) ?_
        exact ih (x1 + v4) (x2 + 1) _ _ _ hf hP hD hS (lv_sub hl [2, 1, 0] rfl)
  rw [f5_stepsInAll] at hf
  refine lv_iconst (v := 0) hx hb dX5_stepsInAll_0 (by decide) ?_
  refine lv_istore_n (lv' := [(1, .int (0 : Int32)), (0, .ref (h o))]) hx hb dX5_stepsInAll_1 rfl hl (by decide) rfl (fun ls hl => ?_)
  refine lv_iconst (v := 0) hx hb dX5_stepsInAll_2 (by decide) ?_
  refine lv_istore_n (lv' := [(2, .int (0 : Int32)), (1, .int (0 : Int32)), (0, .ref (h o))]) hx hb dX5_stepsInAll_3 rfl hl (by decide) rfl (fun ls hl => ?_)
  exact J4 kFUEL (0 : Int32) (0 : Int32) _ _ _ hf hP hD hS (lv_sub hl [2, 1, 0] rfl)

set_option maxHeartbeats 4000000 in
set_option maxRecDepth 100000 in
theorem c5_hasStep (l : Launch) (D : va_G) (cB cI cZ cO : ClassId) (h : Nat → Nat) (o : Nat) (sz : Nat) (x1 : Int32) (x2 : Int32) (v_u : sT) (r0 : Int32) (hf : f5_hasStep v_u x1 x2 = some r0) : Met l yX5_hasStep wsX5_hasStep rm5_hasStep (va_Pc [.ref (h o), .int x1, .int x2] (kb_B D (ka_tys cB cI cZ cO) sz (wdS cI h o v_u))) (va_Qi (kb_post .boolean r0) (fun _ t => va_P D vwCl (wdS cI h o v_u) t.heap) (va_A (wdS cI h o v_u) sz)) 0 0 (va_A (wdS cI h o v_u) sz) := by
  refine kb_metZ (cc := cX5_hasStep) (maxL := 3) (ty := .boolean) (by decide) rfl (Nat.le_of_ble_eq_true rfl) ?_
  intro p e s m args below meth c Q A ls H hx hb hml hown hts hK hN hP hD hS hA hl hend
  have hown : s.vm.findClass RX5 = some m.cls := hown
  have hl : lv_has ls 3 [(0, .ref (h o)), (1, .int x1), (2, .int x2)] := hl
  rw [f5_hasStep] at hf
  refine lv_iload_n hx hb dX5_hasStep_0 rfl (lv_at hl 2 rfl) ?_
  refine lv_if_lt (tgt := 17) hx hb dX5_hasStep_1 (by decide) (fun c1 => ?_) (fun c1 => ?_)
  · rw [if_pos c1] at hf
    refine lv_iconst (v := 0) hx hb dX5_hasStep_17 (by decide) ?_
    obtain rfl := Option.some.inj hf
    exact hend _ _ _ _ rfl hP hS dX5_hasStep_18
  · rw [if_neg c1] at hf
    refine lv_iload_n hx hb dX5_hasStep_4 rfl (lv_at hl 2 rfl) ?_
    refine lv_aload_n hx hb dX5_hasStep_5 rfl (lv_at hl 0 rfl) ?_
    refine lv_iload_n hx hb dX5_hasStep_6 rfl (lv_at hl 1 rfl) ?_
    refine kb_bind hf (fun q2 hq2 hf => ?_)
    have hPc : va_P D vwCl (wdS cI h o v_u) H := hP.sub [0, 1, 2] rfl
    have hDc : va_D A (wdS cI h o v_u) := hD.sub [0, 1, 2] (by decide) rfl
    refine kd_iR (va_runV (As := [.int x1]) (rest := [.int x2]) ⟨hx, hb, hml, hown, hts⟩ (c5_stepsOf l D cB cI cZ cO h o H.size x1 v_u q2 hq2) (cwV 1 hts gX5_hasStep_X5_stepsOf rfl rfl rfl (by decide +kernel) ⟨Nat.le_of_ble_eq_true rfl, Nat.le_of_ble_eq_true rfl⟩) ⟨kb_blind, va_recv hK hPc (ci := 3) (q0 := 0) rfl rfl, kb_pre hPc hDc hK hN⟩ rfl rfl hl.1 rfl (lv_room (Nat.le_of_ble_eq_true rfl)) dX5_hasStep_7 ⟨Nat.le_refl _, Nat.le_refl _⟩) hP hD hS hA [0, 1, 2] rfl (fun H locs hn3 hP hS => ?_)
    refine lv_icmp_ge (tgt := 17) hx hb dX5_hasStep_10 (by decide) (fun c4 => ?_) (fun c4 => ?_)
    · rw [if_pos c4] at hf
      refine lv_iconst (v := 0) hx hb dX5_hasStep_17 (by decide) ?_
      obtain rfl := Option.some.inj hf
      exact hend _ _ _ _ rfl hP hS dX5_hasStep_18
    · rw [if_neg c4] at hf
      refine lv_iconst (v := 1) hx hb dX5_hasStep_13 (by decide) ?_
      refine lv_goto (tgt := 18) hx hb dX5_hasStep_14 (by decide) ?_
      obtain rfl := Option.some.inj hf
      exact hend _ _ _ _ rfl hP hS dX5_hasStep_18

set_option maxHeartbeats 4000000 in
set_option maxRecDepth 100000 in
theorem c5_beginRun (l : Launch) (D : va_G) (cB cI cZ cO : ClassId) (h : Nat → Nat) (o : Nat) (sz : Nat) (v_u : sT) (v_u' : sT) (hf : f5_beginRun v_u = some (v_u')) : Met l yX5_beginRun wsX5_beginRun rm5_beginRun (va_Pc [.ref (h o)] (kb_B D (ka_tys cB cI cZ cO) sz (wdS cI h o v_u))) (va_Qv (fun (_ : Unit) => True) (fun _ t => va_P D vwCl (wdS cI h o (v_u')) t.heap) (va_A (wdS cI h o v_u) sz)) 0 0 (va_A (wdS cI h o v_u) sz) := by
  refine kb_metV (cc := cX5_beginRun) (maxL := 1) (by decide) rfl (Nat.le_of_ble_eq_true rfl) ?_
  intro p e s m args below meth c Q A ls H hx hb hml hown hts hK hN hP hD hS hA hl hend
  have hown : s.vm.findClass RX5 = some m.cls := hown
  have hl : lv_has ls 1 [(0, .ref (h o))] := hl
  have hin5 : ∀ w ∈ u_ws RX5 TX5 5, w ∈ wsX5_beginRun := by decide +kernel
  rw [f5_beginRun] at hf
  refine lv_aload_n hx hb dX5_beginRun_0 rfl (lv_at hl 0 rfl) ?_
  refine lv_aload_n hx hb dX5_beginRun_1 rfl (lv_at hl 0 rfl) ?_
  refine va_get (D := D) (cl := vwCl) (ci := 3) (v := .long v_u.2.2.1) (C := RX5) (T := TX5) (N := 5) hx hb hts hin5 hown hK hP 0 rfl rfl 2 (by decide) (hts (.fieldLink RX5 24 "StepOrders$State" "beginning" "J") (by decide +kernel)) (fun _ h9 => h9) rfl dX5_beginRun_2 ?_
  refine va_put (D := D) (cl := vwCl) (ci := 3) (v := .long v_u.2.2.1) (ty := .long) (C := RX5) (T := TX5) (N := 5) hx hb hts hin5 tyX5 tyX5_ok nmX5 hown hK hP hD hS 0 rfl rfl 3 (by decide) (hts (.fieldLink RX5 28 "StepOrders$State" "runMoment" "J") (by decide +kernel)) (fun _ h9 => h9) rfl (tyX5_ok 3 (by decide)) rfl rfl (Nat.le_of_ble_eq_true rfl) dX5_beginRun_5 (fun H locs hP hD hS => ?_)
  have hP : va_P D vwCl (wdS cI h o (v_u.1, v_u.2.1, v_u.2.2.1, v_u.2.2.1, v_u.2.2.2.2)) H := hP
  have hD : va_D A (wdS cI h o (v_u.1, v_u.2.1, v_u.2.2.1, v_u.2.2.1, v_u.2.2.2.2)) := hD
  refine lv_aload_n hx hb dX5_beginRun_8 rfl (lv_at hl 0 rfl) ?_
  refine lv_iconst (v := 0) hx hb dX5_beginRun_9 (by decide) ?_
  refine va_put (D := D) (cl := vwCl) (ci := 3) (v := .int (0 : Int32)) (ty := .int) (C := RX5) (T := TX5) (N := 5) hx hb hts hin5 tyX5 tyX5_ok nmX5 hown hK hP hD hS 0 rfl rfl 4 (by decide) (hts (.fieldLink RX5 31 "StepOrders$State" "runRow" "I") (by decide +kernel)) (fun _ h9 => h9) rfl (tyX5_ok 4 (by decide)) rfl rfl (Nat.le_of_ble_eq_true rfl) dX5_beginRun_10 (fun H locs hP hD hS => ?_)
  have hP : va_P D vwCl (wdS cI h o (v_u.1, v_u.2.1, v_u.2.2.1, v_u.2.2.1, (0 : Int32))) H := hP
  have hD : va_D A (wdS cI h o (v_u.1, v_u.2.1, v_u.2.2.1, v_u.2.2.1, (0 : Int32))) := hD
  obtain rfl := Option.some.inj hf
  exact hend _ _ _ _ hP hS dX5_beginRun_13

set_option maxHeartbeats 4000000 in
set_option maxRecDepth 100000 in
theorem c5_addStep (l : Launch) (D : va_G) (cB cI cZ cO : ClassId) (h : Nat → Nat) (o : Nat) (sz : Nat) (x1 : Int32) (x2 : Int32) (v_u : sT) (v_u' : sT) (hf : f5_addStep v_u x1 x2 = some (v_u')) : Met l yX5_addStep wsX5_addStep rm5_addStep (va_Pc [.ref (h o), .int x1, .int x2] (kb_B D (ka_tys cB cI cZ cO) sz (wdS cI h o v_u))) (va_Qv (fun (_ : Unit) => True) (fun _ t => va_P D vwCl (wdS cI h o (v_u')) t.heap) (va_A (wdS cI h o v_u) sz)) 0 0 (va_A (wdS cI h o v_u) sz) := by
  refine kb_metV (cc := cX5_addStep) (maxL := 3) (by decide) rfl (Nat.le_of_ble_eq_true rfl) ?_
  intro p e s m args below meth c Q A ls H hx hb hml hown hts hK hN hP hD hS hA hl hend
  have hown : s.vm.findClass RX5 = some m.cls := hown
  have hl : lv_has ls 3 [(0, .ref (h o)), (1, .int x1), (2, .int x2)] := hl
  have hin5 : ∀ w ∈ u_ws RX5 TX5 5, w ∈ wsX5_addStep := by decide +kernel
  rw [f5_addStep] at hf
  refine lv_iload_n hx hb dX5_addStep_0 rfl (lv_at hl 1 rfl) ?_
  refine lv_iconst (v := 3) hx hb dX5_addStep_1 (by decide) ?_
  have hPc : va_P D vwCl ([]) H := hP.sub [] rfl
  have hDc : va_D A ([]) := hD.sub [] (by decide) rfl
  refine kd_iR (va_runSN (As := [.int x1, .int (3 : Int32)]) (rest := []) ⟨hx, hb, hml, hown, hts⟩ (c8_below l D cB cI cZ cO h H.size x1 (3 : Int32) (f8_below x1 (3 : Int32)) rfl) ⟨va_cnB 2 hts gX5_addStep_X8_below_n39 rfl rfl rfl hN.2.2.1 (hts (.initialized RX8) (by decide +kernel)) (by decide +kernel) ⟨Nat.le_of_ble_eq_true rfl, Nat.le_of_ble_eq_true rfl⟩, hts (.static yX8_below) (by decide +kernel), trivial⟩ ⟨kb_blind, kb_pre hPc hDc hK hN⟩ rfl rfl hl.1 rfl (lv_room (Nat.le_of_ble_eq_true rfl)) dX5_addStep_2 ⟨Nat.le_refl _, Nat.le_refl _⟩) hP hD hS hA [] rfl (fun H locs hn1 hP hS => ?_)
  refine lv_if_eq (tgt := 48) hx hb dX5_addStep_5 (by decide) (fun c2 => ?_) (fun c2 => ?_)
  · rw [if_pos c2] at hf
    obtain rfl := Option.some.inj hf
    exact hend _ _ _ _ hP hS dX5_addStep_48
  · rw [if_neg c2] at hf
    refine lv_aload_n hx hb dX5_addStep_8 rfl (lv_at hl 0 rfl) ?_
    refine va_get (D := D) (cl := vwCl) (ci := 3) (v := .ref (h (o + 2))) (C := RX5) (T := TX5) (N := 5) hx hb hts hin5 hown hK hP 0 rfl rfl 1 (by decide) (hts (.fieldLink RX5 15 "StepOrders$State" "counts" "[I") (by decide +kernel)) (fun _ h9 => h9) rfl dX5_addStep_9 ?_
    refine lv_iload_n hx hb dX5_addStep_12 rfl (lv_at hl 1 rfl) ?_
    refine kb_bind hf (fun v3 hv3 hf => ?_)
    refine ka_iald (D := D) (cl := vwCl) hx hb hK hP 2 1 (f := v_u.2.1) rfl rfl (ard_in hv3) (ard_v hv3) dX5_addStep_13 ?_
    refine lv_iconst (v := 4) hx hb dX5_addStep_14 (by decide) ?_
    refine lv_icmp_ge (tgt := 48) hx hb dX5_addStep_15 (by decide) (fun c4 => ?_) (fun c4 => ?_)
    · rw [if_pos c4] at hf
      obtain rfl := Option.some.inj hf
      exact hend _ _ _ _ hP hS dX5_addStep_48
    · rw [if_neg c4] at hf
      refine lv_aload_n hx hb dX5_addStep_18 rfl (lv_at hl 0 rfl) ?_
      refine va_get (D := D) (cl := vwCl) (ci := 3) (v := .ref (h (o + 1))) (C := RX5) (T := TX5) (N := 5) hx hb hts hin5 hown hK hP 0 rfl rfl 0 (by decide) (hts (.fieldLink RX5 9 "StepOrders$State" "steps" "[I") (by decide +kernel)) (fun _ h9 => h9) rfl dX5_addStep_19 ?_
      refine lv_iload_n hx hb dX5_addStep_22 rfl (lv_at hl 1 rfl) ?_
      refine lv_iconst (v := 4) hx hb dX5_addStep_23 (by decide) ?_
      refine lv_imul hx hb dX5_addStep_24 ?_
      refine lv_aload_n hx hb dX5_addStep_25 rfl (lv_at hl 0 rfl) ?_
      refine va_get (D := D) (cl := vwCl) (ci := 3) (v := .ref (h (o + 2))) (C := RX5) (T := TX5) (N := 5) hx hb hts hin5 hown hK hP 0 rfl rfl 1 (by decide) (hts (.fieldLink RX5 15 "StepOrders$State" "counts" "[I") (by decide +kernel)) (fun _ h9 => h9) rfl dX5_addStep_26 ?_
      refine lv_iload_n hx hb dX5_addStep_29 rfl (lv_at hl 1 rfl) ?_
      refine kb_bind hf (fun v5 hv5 hf => ?_)
      refine ka_iald (D := D) (cl := vwCl) hx hb hK hP 2 1 (f := v_u.2.1) rfl rfl (ard_in hv5) (ard_v hv5) dX5_addStep_30 ?_
      refine lv_iadd hx hb dX5_addStep_31 ?_
      refine lv_iload_n hx hb dX5_addStep_32 rfl (lv_at hl 2 rfl) ?_
      refine kb_bind hf (fun v6 hv6 hf => ?_)
      refine ka_iast (D := D) (cl := vwCl) hx hb hK hP hD hS 1 1 (f := v_u.1) (g := v6) rfl rfl (awr_in hv6) (awr_v hv6) dX5_addStep_33 (fun H locs hP hD hS => ?_)
      have hP : va_P D vwCl (wdS cI h o (v6, v_u.2.1, v_u.2.2.1, v_u.2.2.2.1, v_u.2.2.2.2)) H := hP
      have hD : va_D A (wdS cI h o (v6, v_u.2.1, v_u.2.2.1, v_u.2.2.2.1, v_u.2.2.2.2)) := hD
      refine lv_aload_n hx hb dX5_addStep_34 rfl (lv_at hl 0 rfl) ?_
      refine va_get (D := D) (cl := vwCl) (ci := 3) (v := .ref (h (o + 2))) (C := RX5) (T := TX5) (N := 5) hx hb hts hin5 hown hK hP 0 rfl rfl 1 (by decide) (hts (.fieldLink RX5 15 "StepOrders$State" "counts" "[I") (by decide +kernel)) (fun _ h9 => h9) rfl dX5_addStep_35 ?_
      refine lv_iload_n hx hb dX5_addStep_38 rfl (lv_at hl 1 rfl) ?_
      refine lv_dup2_11 hx hb dX5_addStep_39 rfl rfl ?_
      refine kb_bind hf (fun v7 hv7 hf => ?_)
      refine ka_iald (D := D) (cl := vwCl) hx hb hK hP 2 1 (f := v_u.2.1) rfl rfl (ard_in hv7) (ard_v hv7) dX5_addStep_40 ?_
      refine lv_iconst (v := 1) hx hb dX5_addStep_41 (by decide) ?_
      refine lv_iadd hx hb dX5_addStep_42 ?_
      refine kb_bind hf (fun v8 hv8 hf => ?_)
      refine ka_iast (D := D) (cl := vwCl) hx hb hK hP hD hS 2 1 (f := v_u.2.1) (g := v8) rfl rfl (awr_in hv8) (awr_v hv8) dX5_addStep_43 (fun H locs hP hD hS => ?_)
      have hP : va_P D vwCl (wdS cI h o (v6, v8, v_u.2.2.1, v_u.2.2.2.1, v_u.2.2.2.2)) H := hP
      have hD : va_D A (wdS cI h o (v6, v8, v_u.2.2.1, v_u.2.2.2.1, v_u.2.2.2.2)) := hD
      refine lv_aload_n hx hb dX5_addStep_44 rfl (lv_at hl 0 rfl) ?_
      refine kb_bind hf (fun q9 hq9 hf => ?_)
      have hPc : va_P D vwCl (wdS cI h o (v6, v8, v_u.2.2.1, v_u.2.2.2.1, v_u.2.2.2.2)) H := hP.sub [0, 1, 2] rfl
      have hDc : va_D A (wdS cI h o (v6, v8, v_u.2.2.1, v_u.2.2.2.1, v_u.2.2.2.2)) := hD.sub [0, 1, 2] (by decide) rfl
      refine kd_vW (ws' := wdS cI h o q9) (va_runV (As := []) (rest := []) ⟨hx, hb, hml, hown, hts⟩ (c5_beginRun l D cB cI cZ cO h o H.size (v6, v8, v_u.2.2.1, v_u.2.2.2.1, v_u.2.2.2.2) q9 hq9) (cwV 0 hts gX5_addStep_X5_beginRun rfl rfl rfl (by decide +kernel) ⟨Nat.le_of_ble_eq_true rfl, Nat.le_of_ble_eq_true rfl⟩) ⟨kb_blind, va_recv hK hPc (ci := 3) (q0 := 0) rfl rfl, kb_pre hPc hDc hK hN⟩ rfl rfl hl.1 rfl (lv_room (Nat.le_of_ble_eq_true rfl)) dX5_addStep_45 ⟨Nat.le_refl _, Nat.le_refl _⟩) hP hD hS hA [0, 1, 2] [] rfl rfl (fun _ h9 => absurd h9 List.not_mem_nil) rfl rfl (fun H locs hP hD hS => ?_)
      obtain rfl := Option.some.inj hf
      exact hend _ _ _ _ hP hS dX5_addStep_48

set_option maxHeartbeats 4000000 in
set_option maxRecDepth 100000 in
theorem c5_dropStep (l : Launch) (D : va_G) (cB cI cZ cO : ClassId) (h : Nat → Nat) (o : Nat) (sz : Nat) (x1 : Int32) (v_u : sT) (v_u' : sT) (hf : f5_dropStep v_u x1 = some (v_u')) : Met l yX5_dropStep wsX5_dropStep rm5_dropStep (va_Pc [.ref (h o), .int x1] (kb_B D (ka_tys cB cI cZ cO) sz (wdS cI h o v_u))) (va_Qv (fun (_ : Unit) => True) (fun _ t => va_P D vwCl (wdS cI h o (v_u')) t.heap) (va_A (wdS cI h o v_u) sz)) 0 0 (va_A (wdS cI h o v_u) sz) := by
  refine kb_metV (cc := cX5_dropStep) (maxL := 2) (by decide) rfl (Nat.le_of_ble_eq_true rfl) ?_
  intro p e s m args below meth c Q A ls H hx hb hml hown hts hK hN hP hD hS hA hl hend
  have hown : s.vm.findClass RX5 = some m.cls := hown
  have hl : lv_has ls 2 [(0, .ref (h o)), (1, .int x1)] := hl
  have hin5 : ∀ w ∈ u_ws RX5 TX5 5, w ∈ wsX5_dropStep := by decide +kernel
  rw [f5_dropStep] at hf
  refine lv_iload_n hx hb dX5_dropStep_0 rfl (lv_at hl 1 rfl) ?_
  refine lv_iconst (v := 3) hx hb dX5_dropStep_1 (by decide) ?_
  have hPc : va_P D vwCl ([]) H := hP.sub [] rfl
  have hDc : va_D A ([]) := hD.sub [] (by decide) rfl
  refine kd_iR (va_runSN (As := [.int x1, .int (3 : Int32)]) (rest := []) ⟨hx, hb, hml, hown, hts⟩ (c8_below l D cB cI cZ cO h H.size x1 (3 : Int32) (f8_below x1 (3 : Int32)) rfl) ⟨va_cnB 2 hts gX5_dropStep_X8_below_n39 rfl rfl rfl hN.2.2.1 (hts (.initialized RX8) (by decide +kernel)) (by decide +kernel) ⟨Nat.le_of_ble_eq_true rfl, Nat.le_of_ble_eq_true rfl⟩, hts (.static yX8_below) (by decide +kernel), trivial⟩ ⟨kb_blind, kb_pre hPc hDc hK hN⟩ rfl rfl hl.1 rfl (lv_room (Nat.le_of_ble_eq_true rfl)) dX5_dropStep_2 ⟨Nat.le_refl _, Nat.le_refl _⟩) hP hD hS hA [] rfl (fun H locs hn1 hP hS => ?_)
  refine lv_if_eq (tgt := 31) hx hb dX5_dropStep_5 (by decide) (fun c2 => ?_) (fun c2 => ?_)
  · rw [if_pos c2] at hf
    obtain rfl := Option.some.inj hf
    exact hend _ _ _ _ hP hS dX5_dropStep_31
  · rw [if_neg c2] at hf
    refine lv_aload_n hx hb dX5_dropStep_8 rfl (lv_at hl 0 rfl) ?_
    refine va_get (D := D) (cl := vwCl) (ci := 3) (v := .ref (h (o + 2))) (C := RX5) (T := TX5) (N := 5) hx hb hts hin5 hown hK hP 0 rfl rfl 1 (by decide) (hts (.fieldLink RX5 15 "StepOrders$State" "counts" "[I") (by decide +kernel)) (fun _ h9 => h9) rfl dX5_dropStep_9 ?_
    refine lv_iload_n hx hb dX5_dropStep_12 rfl (lv_at hl 1 rfl) ?_
    refine kb_bind hf (fun v3 hv3 hf => ?_)
    refine ka_iald (D := D) (cl := vwCl) hx hb hK hP 2 1 (f := v_u.2.1) rfl rfl (ard_in hv3) (ard_v hv3) dX5_dropStep_13 ?_
    refine lv_if_le (tgt := 31) hx hb dX5_dropStep_14 (by decide) (fun c4 => ?_) (fun c4 => ?_)
    · rw [if_pos c4] at hf
      obtain rfl := Option.some.inj hf
      exact hend _ _ _ _ hP hS dX5_dropStep_31
    · rw [if_neg c4] at hf
      refine lv_aload_n hx hb dX5_dropStep_17 rfl (lv_at hl 0 rfl) ?_
      refine va_get (D := D) (cl := vwCl) (ci := 3) (v := .ref (h (o + 2))) (C := RX5) (T := TX5) (N := 5) hx hb hts hin5 hown hK hP 0 rfl rfl 1 (by decide) (hts (.fieldLink RX5 15 "StepOrders$State" "counts" "[I") (by decide +kernel)) (fun _ h9 => h9) rfl dX5_dropStep_18 ?_
      refine lv_iload_n hx hb dX5_dropStep_21 rfl (lv_at hl 1 rfl) ?_
      refine lv_dup2_11 hx hb dX5_dropStep_22 rfl rfl ?_
      refine kb_bind hf (fun v5 hv5 hf => ?_)
      refine ka_iald (D := D) (cl := vwCl) hx hb hK hP 2 1 (f := v_u.2.1) rfl rfl (ard_in hv5) (ard_v hv5) dX5_dropStep_23 ?_
      refine lv_iconst (v := 1) hx hb dX5_dropStep_24 (by decide) ?_
      refine lv_isub hx hb dX5_dropStep_25 ?_
      refine kb_bind hf (fun v6 hv6 hf => ?_)
      refine ka_iast (D := D) (cl := vwCl) hx hb hK hP hD hS 2 1 (f := v_u.2.1) (g := v6) rfl rfl (awr_in hv6) (awr_v hv6) dX5_dropStep_26 (fun H locs hP hD hS => ?_)
      have hP : va_P D vwCl (wdS cI h o (v_u.1, v6, v_u.2.2.1, v_u.2.2.2.1, v_u.2.2.2.2)) H := hP
      have hD : va_D A (wdS cI h o (v_u.1, v6, v_u.2.2.1, v_u.2.2.2.1, v_u.2.2.2.2)) := hD
      refine lv_aload_n hx hb dX5_dropStep_27 rfl (lv_at hl 0 rfl) ?_
      refine kb_bind hf (fun q7 hq7 hf => ?_)
      have hPc : va_P D vwCl (wdS cI h o (v_u.1, v6, v_u.2.2.1, v_u.2.2.2.1, v_u.2.2.2.2)) H := hP.sub [0, 1, 2] rfl
      have hDc : va_D A (wdS cI h o (v_u.1, v6, v_u.2.2.1, v_u.2.2.2.1, v_u.2.2.2.2)) := hD.sub [0, 1, 2] (by decide) rfl
      refine kd_vW (ws' := wdS cI h o q7) (va_runV (As := []) (rest := []) ⟨hx, hb, hml, hown, hts⟩ (c5_beginRun l D cB cI cZ cO h o H.size (v_u.1, v6, v_u.2.2.1, v_u.2.2.2.1, v_u.2.2.2.2) q7 hq7) (cwV 0 hts gX5_dropStep_X5_beginRun rfl rfl rfl (by decide +kernel) ⟨Nat.le_of_ble_eq_true rfl, Nat.le_of_ble_eq_true rfl⟩) ⟨kb_blind, va_recv hK hPc (ci := 3) (q0 := 0) rfl rfl, kb_pre hPc hDc hK hN⟩ rfl rfl hl.1 rfl (lv_room (Nat.le_of_ble_eq_true rfl)) dX5_dropStep_28 ⟨Nat.le_refl _, Nat.le_refl _⟩) hP hD hS hA [0, 1, 2] [] rfl rfl (fun _ h9 => absurd h9 List.not_mem_nil) rfl rfl (fun H locs hP hD hS => ?_)
      obtain rfl := Option.some.inj hf
      exact hend _ _ _ _ hP hS dX5_dropStep_31

set_option maxHeartbeats 4000000 in
set_option maxRecDepth 100000 in
theorem c5_beginning (l : Launch) (D : va_G) (cB cI cZ cO : ClassId) (h : Nat → Nat) (o : Nat) (sz : Nat) (v_u : sT) (r0 : Int64) (hf : f5_beginning v_u = r0) : Met l yX5_beginning wsX5_beginning rm5_beginning (va_Pc [.ref (h o)] (kb_B D (ka_tys cB cI cZ cO) sz (wdS cI h o v_u))) (va_Ql (fun r (_ : Unit) => r = r0) (fun _ t => va_P D vwCl (wdS cI h o v_u) t.heap) (va_A (wdS cI h o v_u) sz)) 0 0 (va_A (wdS cI h o v_u) sz) := by
  refine kb_metL (cc := cX5_beginning) (maxL := 1) (by decide) rfl (Nat.le_of_ble_eq_true rfl) ?_
  intro p e s m args below meth c Q A ls H hx hb hml hown hts hK hN hP hD hS hA hl hend
  have hown : s.vm.findClass RX5 = some m.cls := hown
  have hl : lv_has ls 1 [(0, .ref (h o))] := hl
  have hin5 : ∀ w ∈ u_ws RX5 TX5 5, w ∈ wsX5_beginning := by decide +kernel
  rw [f5_beginning] at hf
  refine lv_aload_n hx hb dX5_beginning_0 rfl (lv_at hl 0 rfl) ?_
  refine va_get (D := D) (cl := vwCl) (ci := 3) (v := .long v_u.2.2.1) (C := RX5) (T := TX5) (N := 5) hx hb hts hin5 hown hK hP 0 rfl rfl 2 (by decide) (hts (.fieldLink RX5 24 "StepOrders$State" "beginning" "J") (by decide +kernel)) (fun _ h9 => h9) rfl dX5_beginning_1 ?_
  subst hf
  exact hend _ _ _ _ hP hS dX5_beginning_4

set_option maxHeartbeats 4000000 in
set_option maxRecDepth 100000 in
theorem c5_setBeginning (l : Launch) (D : va_G) (cB cI cZ cO : ClassId) (h : Nat → Nat) (o : Nat) (sz : Nat) (x1 : Int32) (x2 : Int32) (v_u : sT) (v_u' : sT) (hf : f5_setBeginning v_u x1 x2 = some (v_u')) : Met l yX5_setBeginning wsX5_setBeginning rm5_setBeginning (va_Pc [.ref (h o), .int x1, .int x2] (kb_B D (ka_tys cB cI cZ cO) sz (wdS cI h o v_u))) (va_Qv (fun (_ : Unit) => True) (fun _ t => va_P D vwCl (wdS cI h o (v_u')) t.heap) (va_A (wdS cI h o v_u) sz)) 0 0 (va_A (wdS cI h o v_u) sz) := by
  refine kb_metV (cc := cX5_setBeginning) (maxL := 3) (by decide) rfl (Nat.le_of_ble_eq_true rfl) ?_
  intro p e s m args below meth c Q A ls H hx hb hml hown hts hK hN hP hD hS hA hl hend
  have hown : s.vm.findClass RX5 = some m.cls := hown
  have hl : lv_has ls 3 [(0, .ref (h o)), (1, .int x1), (2, .int x2)] := hl
  have hin5 : ∀ w ∈ u_ws RX5 TX5 5, w ∈ wsX5_setBeginning := by decide +kernel
  rw [f5_setBeginning] at hf
  refine lv_aload_n hx hb dX5_setBeginning_0 rfl (lv_at hl 0 rfl) ?_
  refine lv_aload_n hx hb dX5_setBeginning_1 rfl (lv_at hl 0 rfl) ?_
  refine va_get (D := D) (cl := vwCl) (ci := 3) (v := .long v_u.2.2.1) (C := RX5) (T := TX5) (N := 5) hx hb hts hin5 hown hK hP 0 rfl rfl 2 (by decide) (hts (.fieldLink RX5 24 "StepOrders$State" "beginning" "J") (by decide +kernel)) (fun _ h9 => h9) rfl dX5_setBeginning_2 ?_
  refine lv_iload_n hx hb dX5_setBeginning_5 rfl (lv_at hl 1 rfl) ?_
  refine lv_iload_n hx hb dX5_setBeginning_6 rfl (lv_at hl 2 rfl) ?_
  have hPc : va_P D vwCl ([]) H := hP.sub [] rfl
  have hDc : va_D A ([]) := hD.sub [] (by decide) rfl
  refine kd_lR (va_runS (As := [.long v_u.2.2.1, .int x1, .int x2]) (rest := [.ref (h o)]) ⟨hx, hb, hml, hown, hts⟩ (c2_withValue l D cB cI cZ cO h H.size v_u.2.2.1 x1 x2 (f2_withValue v_u.2.2.1 x1 x2) rfl) (va_cwS 3 hts gX5_setBeginning_X2_withValue rfl rfl rfl (by decide +kernel) ⟨Nat.le_of_ble_eq_true rfl, Nat.le_of_ble_eq_true rfl⟩) ⟨kb_blind, kb_pre hPc hDc hK hN⟩ rfl rfl hl.1 rfl (lv_room (Nat.le_of_ble_eq_true rfl)) dX5_setBeginning_7 ⟨Nat.le_refl _, Nat.le_refl _⟩) hP hD hS hA [] rfl (fun H locs hP hS => ?_)
  refine va_put (D := D) (cl := vwCl) (ci := 3) (v := .long (f2_withValue v_u.2.2.1 x1 x2)) (ty := .long) (C := RX5) (T := TX5) (N := 5) hx hb hts hin5 tyX5 tyX5_ok nmX5 hown hK hP hD hS 0 rfl rfl 2 (by decide) (hts (.fieldLink RX5 24 "StepOrders$State" "beginning" "J") (by decide +kernel)) (fun _ h9 => h9) rfl (tyX5_ok 2 (by decide)) rfl rfl (Nat.le_of_ble_eq_true rfl) dX5_setBeginning_10 (fun H locs hP hD hS => ?_)
  have hP : va_P D vwCl (wdS cI h o (v_u.1, v_u.2.1, (f2_withValue v_u.2.2.1 x1 x2), v_u.2.2.2.1, v_u.2.2.2.2)) H := hP
  have hD : va_D A (wdS cI h o (v_u.1, v_u.2.1, (f2_withValue v_u.2.2.1 x1 x2), v_u.2.2.2.1, v_u.2.2.2.2)) := hD
  refine lv_aload_n hx hb dX5_setBeginning_13 rfl (lv_at hl 0 rfl) ?_
  refine kb_bind hf (fun q1 hq1 hf => ?_)
  have hPc : va_P D vwCl (wdS cI h o (v_u.1, v_u.2.1, (f2_withValue v_u.2.2.1 x1 x2), v_u.2.2.2.1, v_u.2.2.2.2)) H := hP.sub [0, 1, 2] rfl
  have hDc : va_D A (wdS cI h o (v_u.1, v_u.2.1, (f2_withValue v_u.2.2.1 x1 x2), v_u.2.2.2.1, v_u.2.2.2.2)) := hD.sub [0, 1, 2] (by decide) rfl
  refine kd_vW (ws' := wdS cI h o q1) (va_runV (As := []) (rest := []) ⟨hx, hb, hml, hown, hts⟩ (c5_beginRun l D cB cI cZ cO h o H.size (v_u.1, v_u.2.1, (f2_withValue v_u.2.2.1 x1 x2), v_u.2.2.2.1, v_u.2.2.2.2) q1 hq1) (cwV 0 hts gX5_setBeginning_X5_beginRun rfl rfl rfl (by decide +kernel) ⟨Nat.le_of_ble_eq_true rfl, Nat.le_of_ble_eq_true rfl⟩) ⟨kb_blind, va_recv hK hPc (ci := 3) (q0 := 0) rfl rfl, kb_pre hPc hDc hK hN⟩ rfl rfl hl.1 rfl (lv_room (Nat.le_of_ble_eq_true rfl)) dX5_setBeginning_14 ⟨Nat.le_refl _, Nat.le_refl _⟩) hP hD hS hA [0, 1, 2] [] rfl rfl (fun _ h9 => absurd h9 List.not_mem_nil) rfl rfl (fun H locs hP hD hS => ?_)
  obtain rfl := Option.some.inj hf
  exact hend _ _ _ _ hP hS dX5_setBeginning_17

set_option maxHeartbeats 4000000 in
set_option maxRecDepth 100000 in
theorem c5_runMoment (l : Launch) (D : va_G) (cB cI cZ cO : ClassId) (h : Nat → Nat) (o : Nat) (sz : Nat) (v_u : sT) (r0 : Int64) (hf : f5_runMoment v_u = r0) : Met l yX5_runMoment wsX5_runMoment rm5_runMoment (va_Pc [.ref (h o)] (kb_B D (ka_tys cB cI cZ cO) sz (wdS cI h o v_u))) (va_Ql (fun r (_ : Unit) => r = r0) (fun _ t => va_P D vwCl (wdS cI h o v_u) t.heap) (va_A (wdS cI h o v_u) sz)) 0 0 (va_A (wdS cI h o v_u) sz) := by
  refine kb_metL (cc := cX5_runMoment) (maxL := 1) (by decide) rfl (Nat.le_of_ble_eq_true rfl) ?_
  intro p e s m args below meth c Q A ls H hx hb hml hown hts hK hN hP hD hS hA hl hend
  have hown : s.vm.findClass RX5 = some m.cls := hown
  have hl : lv_has ls 1 [(0, .ref (h o))] := hl
  have hin5 : ∀ w ∈ u_ws RX5 TX5 5, w ∈ wsX5_runMoment := by decide +kernel
  rw [f5_runMoment] at hf
  refine lv_aload_n hx hb dX5_runMoment_0 rfl (lv_at hl 0 rfl) ?_
  refine va_get (D := D) (cl := vwCl) (ci := 3) (v := .long v_u.2.2.2.1) (C := RX5) (T := TX5) (N := 5) hx hb hts hin5 hown hK hP 0 rfl rfl 3 (by decide) (hts (.fieldLink RX5 28 "StepOrders$State" "runMoment" "J") (by decide +kernel)) (fun _ h9 => h9) rfl dX5_runMoment_1 ?_
  subst hf
  exact hend _ _ _ _ hP hS dX5_runMoment_4

set_option maxHeartbeats 4000000 in
set_option maxRecDepth 100000 in
theorem c5_runRow (l : Launch) (D : va_G) (cB cI cZ cO : ClassId) (h : Nat → Nat) (o : Nat) (sz : Nat) (v_u : sT) (r0 : Int32) (hf : f5_runRow v_u = r0) : Met l yX5_runRow wsX5_runRow rm5_runRow (va_Pc [.ref (h o)] (kb_B D (ka_tys cB cI cZ cO) sz (wdS cI h o v_u))) (va_Qi (kb_post .int r0) (fun _ t => va_P D vwCl (wdS cI h o v_u) t.heap) (va_A (wdS cI h o v_u) sz)) 0 0 (va_A (wdS cI h o v_u) sz) := by
  refine kb_metZ (cc := cX5_runRow) (maxL := 1) (ty := .int) (by decide) rfl (Nat.le_of_ble_eq_true rfl) ?_
  intro p e s m args below meth c Q A ls H hx hb hml hown hts hK hN hP hD hS hA hl hend
  have hown : s.vm.findClass RX5 = some m.cls := hown
  have hl : lv_has ls 1 [(0, .ref (h o))] := hl
  have hin5 : ∀ w ∈ u_ws RX5 TX5 5, w ∈ wsX5_runRow := by decide +kernel
  rw [f5_runRow] at hf
  refine lv_aload_n hx hb dX5_runRow_0 rfl (lv_at hl 0 rfl) ?_
  refine va_get (D := D) (cl := vwCl) (ci := 3) (v := .int v_u.2.2.2.2) (C := RX5) (T := TX5) (N := 5) hx hb hts hin5 hown hK hP 0 rfl rfl 4 (by decide) (hts (.fieldLink RX5 31 "StepOrders$State" "runRow" "I") (by decide +kernel)) (fun _ h9 => h9) rfl dX5_runRow_1 ?_
  subst hf
  exact hend _ _ _ _ rfl hP hS dX5_runRow_4

set_option maxHeartbeats 4000000 in
set_option maxRecDepth 100000 in
theorem c5_nextStep (l : Launch) (D : va_G) (cB cI cZ cO : ClassId) (h : Nat → Nat) (o : Nat) (sz : Nat) (x1 : Int64) (x3 : Int32) (v_u : sT) (r0 : Int32) (hf : f5_nextStep v_u x1 x3 = some r0) : Met l yX5_nextStep wsX5_nextStep rm5_nextStep (va_Pc [.ref (h o), .long x1, .int x3] (kb_B D (ka_tys cB cI cZ cO) sz (wdS cI h o v_u))) (va_Qi (kb_post .int r0) (fun _ t => va_P D vwCl (wdS cI h o v_u) t.heap) (va_A (wdS cI h o v_u) sz)) 0 0 (va_A (wdS cI h o v_u) sz) := by
  refine kb_metZ (cc := cX5_nextStep) (maxL := 4) (ty := .int) (by decide) rfl (Nat.le_of_ble_eq_true rfl) ?_
  intro p e s m args below meth c Q A ls H hx hb hml hown hts hK hN hP hD hS hA hl hend
  have hown : s.vm.findClass RX5 = some m.cls := hown
  have hl : lv_has ls 4 [(0, .ref (h o)), (1, .long x1), (3, .int x3)] := hl
  rw [f5_nextStep] at hf
  refine lv_aload_n hx hb dX5_nextStep_0 rfl (lv_at hl 0 rfl) ?_
  refine lv_iload_n hx hb dX5_nextStep_1 rfl (lv_at hl 2 rfl) ?_
  refine lv_lload_n hx hb dX5_nextStep_2 rfl (lv_at hl 1 rfl) ?_
  refine lv_iload_n hx hb dX5_nextStep_3 rfl (lv_at hl 2 rfl) ?_
  have hPc : va_P D vwCl ([]) H := hP.sub [] rfl
  have hDc : va_D A ([]) := hD.sub [] (by decide) rfl
  refine kd_iR (va_runS (As := [.long x1, .int x3]) (rest := [.int x3, .ref (h o)]) ⟨hx, hb, hml, hown, hts⟩ (c2_doneOf l D cB cI cZ cO h H.size x1 x3 (f2_doneOf x1 x3) rfl) (va_cwS 2 hts gX5_nextStep_X2_doneOf rfl rfl rfl (by decide +kernel) ⟨Nat.le_of_ble_eq_true rfl, Nat.le_of_ble_eq_true rfl⟩) ⟨kb_blind, kb_pre hPc hDc hK hN⟩ rfl rfl hl.1 rfl (lv_room (Nat.le_of_ble_eq_true rfl)) dX5_nextStep_4 ⟨Nat.le_refl _, Nat.le_refl _⟩) hP hD hS hA [] rfl (fun H locs hn1 hP hS => ?_)
  refine kb_bind hf (fun q2 hq2 hf => ?_)
  have hPc : va_P D vwCl (wdS cI h o v_u) H := hP.sub [0, 1, 2] rfl
  have hDc : va_D A (wdS cI h o v_u) := hD.sub [0, 1, 2] (by decide) rfl
  refine kd_iR (va_runV (As := [.int x3, .int (f2_doneOf x1 x3)]) (rest := []) ⟨hx, hb, hml, hown, hts⟩ (c5_stepAt l D cB cI cZ cO h o H.size x3 (f2_doneOf x1 x3) v_u q2 hq2) (cwV 2 hts gX5_nextStep_X5_stepAt rfl rfl rfl (by decide +kernel) ⟨Nat.le_of_ble_eq_true rfl, Nat.le_of_ble_eq_true rfl⟩) ⟨kb_blind, va_recv hK hPc (ci := 3) (q0 := 0) rfl rfl, kb_pre hPc hDc hK hN⟩ rfl rfl hl.1 rfl (lv_room (Nat.le_of_ble_eq_true rfl)) dX5_nextStep_7 ⟨Nat.le_refl _, Nat.le_refl _⟩) hP hD hS hA [0, 1, 2] rfl (fun H locs hn3 hP hS => ?_)
  obtain rfl := Option.some.inj hf
  exact hend _ _ _ _ rfl hP hS dX5_nextStep_10

set_option maxHeartbeats 4000000 in
set_option maxRecDepth 100000 in
theorem c5_firstPlace (l : Launch) (D : va_G) (cB cI cZ cO : ClassId) (h : Nat → Nat) (o : Nat) (sz : Nat) (x1 : Int32) (v_u : sT) (r0 : Int32) (hf : f5_firstPlace v_u x1 = some r0) : Met l yX5_firstPlace wsX5_firstPlace rm5_firstPlace (va_Pc [.ref (h o), .int x1] (kb_B D (ka_tys cB cI cZ cO) sz (wdS cI h o v_u))) (va_Qi (kb_post .int r0) (fun _ t => va_P D vwCl (wdS cI h o v_u) t.heap) (va_A (wdS cI h o v_u) sz)) 0 0 (va_A (wdS cI h o v_u) sz) := by
  refine kb_metZ (cc := cX5_firstPlace) (maxL := 8) (ty := .int) (by decide) rfl (Nat.le_of_ble_eq_true rfl) ?_
  intro p e s m args below meth c Q A ls H hx hb hml hown hts hK hN hP hD hS hA hl hend
  have hown : s.vm.findClass RX5 = some m.cls := hown
  have hl : lv_has ls 8 [(0, .ref (h o)), (1, .int x1)] := hl
  have hin5 : ∀ w ∈ u_ws RX5 TX5 5, w ∈ wsX5_firstPlace := by decide +kernel
  have J86 : ∀ (x5 : Int32) (H : Heap) (locs : List Loc) (ls : Array Slot), f5_firstPlace_b86 v_u x5 = some r0 → va_P D vwCl (wdS cI h o v_u) H → va_D A (wdS cI h o v_u) → va_S A s.heap H locs → lv_has ls 8 [(5, .int x5)] → W p l e rm5_firstPlace s m args below meth c H locs 0 0 Q (F0 m 86 ls []) := by
    intro x5 H locs ls hf hP hD hS hl
    rw [f5_firstPlace_b86] at hf
    refine lv_iload hx hb dX5_firstPlace_86 (lv_at hl 0 rfl) ?_
    obtain rfl := Option.some.inj hf
    exact hend _ _ _ _ rfl hP hS dX5_firstPlace_88
  have J105 : ∀ (x5 : Int32) (H : Heap) (locs : List Loc) (ls : Array Slot), f5_firstPlace_b105 v_u x5 = some r0 → va_P D vwCl (wdS cI h o v_u) H → va_D A (wdS cI h o v_u) → va_S A s.heap H locs → lv_has ls 8 [(5, .int x5)] → W p l e rm5_firstPlace s m args below meth c H locs 0 0 Q (F0 m 105 ls []) := by
    intro x5 H locs ls hf hP hD hS hl
    rw [f5_firstPlace_b105] at hf
    refine lv_iload hx hb dX5_firstPlace_105 (lv_at hl 0 rfl) ?_
    obtain rfl := Option.some.inj hf
    exact hend _ _ _ _ rfl hP hS dX5_firstPlace_107
  have J35 : ∀ (n : Nat) (x1 : Int32) (x2 : Int32) (x3 : Int64) (x5 : Int32) (x6 : Int32) (H : Heap) (locs : List Loc) (ls : Array Slot), f5_firstPlace_l35 n v_u x1 x2 x3 x5 x6 = some r0 → va_P D vwCl (wdS cI h o v_u) H → va_D A (wdS cI h o v_u) → va_S A s.heap H locs → lv_has ls 8 [(0, .ref (h o)), (1, .int x1), (2, .int x2), (3, .long x3), (5, .int x5), (6, .int x6)] → W p l e rm5_firstPlace s m args below meth c H locs 0 0 Q (F0 m 35 ls []) := by
    intro n
    induction n with
    | zero =>
      intro x1 x2 x3 x5 x6 H locs ls hf
      cases (show (none : Option (Int32)) = some r0 from hf)
    | succ n ih =>
      have J99 : ∀ (x1 : Int32) (x2 : Int32) (x3 : Int64) (x5 : Int32) (x6 : Int32) (H : Heap) (locs : List Loc) (ls : Array Slot), f5_firstPlace_b99 (f5_firstPlace_l35 n) v_u x1 x2 x3 x5 x6 = some r0 → va_P D vwCl (wdS cI h o v_u) H → va_D A (wdS cI h o v_u) → va_S A s.heap H locs → lv_has ls 8 [(0, .ref (h o)), (1, .int x1), (2, .int x2), (3, .long x3), (5, .int x5), (6, .int x6)] → W p l e rm5_firstPlace s m args below meth c H locs 0 0 Q (F0 m 99 ls []) := by
        intro x1 x2 x3 x5 x6 H locs ls hf hP hD hS hl
        rw [f5_firstPlace_b99] at hf
        refine lv_iinc (v := (x6 + (-1))) (lv' := [(6, .int (x6 + (-1))), (0, .ref (h o)), (1, .int x1), (2, .int x2), (3, .long x3), (5, .int x5)]) hx hb dX5_firstPlace_99 hl (k := 5) rfl rfl (by decide) rfl (fun ls hl => ?_)
        refine lv_goto (tgt := 35) hx hb dX5_firstPlace_102 (by decide) ?_
        exact ih x1 x2 x3 x5 (x6 + (-1)) _ _ _ hf hP hD hS (lv_sub hl [1, 2, 3, 4, 5, 0] rfl)
      intro x1 x2 x3 x5 x6 H locs ls hf hP hD hS hl
      rw [f5_firstPlace_l35_s] at hf
      refine lv_iload hx hb dX5_firstPlace_35 (lv_at hl 5 rfl) ?_
      refine lv_if_lt (tgt := 105) hx hb dX5_firstPlace_37 (by decide) (fun c10 => ?_) (fun c10 => ?_)
      · rw [if_pos c10] at hf
        exact J105 x5 _ _ _ hf hP hD hS (lv_sub hl [4] rfl)
      · rw [if_neg c10] at hf
        refine lv_aload_n hx hb dX5_firstPlace_40 rfl (lv_at hl 0 rfl) ?_
        refine va_get (D := D) (cl := vwCl) (ci := 3) (v := .int v_u.2.2.2.2) (C := RX5) (T := TX5) (N := 5) hx hb hts hin5 hown hK hP 0 rfl rfl 4 (by decide) (hts (.fieldLink RX5 31 "StepOrders$State" "runRow" "I") (by decide +kernel)) (fun _ h9 => h9) rfl dX5_firstPlace_41 ?_
        refine lv_iload hx hb dX5_firstPlace_44 (lv_at hl 5 rfl) ?_
        have hPc : va_P D vwCl ([]) H := hP.sub [] rfl
        have hDc : va_D A ([]) := hD.sub [] (by decide) rfl
        refine kd_iR (va_runS (As := [.int v_u.2.2.2.2, .int x6]) (rest := []) ⟨hx, hb, hml, hown, hts⟩ (c4_threadAt l D cB cI cZ cO h H.size v_u.2.2.2.2 x6 (f4_threadAt v_u.2.2.2.2 x6) rfl) (va_cwS 2 hts gX5_firstPlace_X4_threadAt rfl rfl rfl (by decide +kernel) ⟨Nat.le_of_ble_eq_true rfl, Nat.le_of_ble_eq_true rfl⟩) ⟨kb_blind, kb_pre hPc hDc hK hN⟩ rfl rfl hl.1 rfl (lv_room (Nat.le_of_ble_eq_true rfl)) dX5_firstPlace_46 ⟨Nat.le_refl _, Nat.le_refl _⟩) hP hD hS hA [] rfl (fun H locs hn11 hP hS => ?_)
        refine lv_istore (lv' := [(7, .int (f4_threadAt v_u.2.2.2.2 x6)), (0, .ref (h o)), (1, .int x1), (2, .int x2), (3, .long x3), (5, .int x5), (6, .int x6)]) hx hb dX5_firstPlace_49 hl (by decide) rfl (fun ls hl => ?_)
        refine lv_lload_n hx hb dX5_firstPlace_51 rfl (lv_at hl 4 rfl) ?_
        refine lv_iload hx hb dX5_firstPlace_52 (lv_at hl 0 rfl) ?_
        refine lv_lload_n hx hb dX5_firstPlace_54 rfl (lv_at hl 4 rfl) ?_
        refine lv_iload hx hb dX5_firstPlace_55 (lv_at hl 0 rfl) ?_
        have hPc : va_P D vwCl ([]) H := hP.sub [] rfl
        have hDc : va_D A ([]) := hD.sub [] (by decide) rfl
        refine kd_iR (va_runS (As := [.long x3, .int (f4_threadAt v_u.2.2.2.2 x6)]) (rest := [.int (f4_threadAt v_u.2.2.2.2 x6), .long x3]) ⟨hx, hb, hml, hown, hts⟩ (c2_doneOf l D cB cI cZ cO h H.size x3 (f4_threadAt v_u.2.2.2.2 x6) (f2_doneOf x3 (f4_threadAt v_u.2.2.2.2 x6)) rfl) (va_cwS 2 hts gX5_firstPlace_X2_doneOf rfl rfl rfl (by decide +kernel) ⟨Nat.le_of_ble_eq_true rfl, Nat.le_of_ble_eq_true rfl⟩) ⟨kb_blind, kb_pre hPc hDc hK hN⟩ rfl rfl hl.1 rfl (lv_room (Nat.le_of_ble_eq_true rfl)) dX5_firstPlace_57 ⟨Nat.le_refl _, Nat.le_refl _⟩) hP hD hS hA [] rfl (fun H locs hn12 hP hS => ?_)
        refine lv_iconst (v := 1) hx hb dX5_firstPlace_60 (by decide) ?_
        refine lv_isub hx hb dX5_firstPlace_61 ?_
        have hPc : va_P D vwCl ([]) H := hP.sub [] rfl
        have hDc : va_D A ([]) := hD.sub [] (by decide) rfl
        refine kd_lR (va_runS (As := [.long x3, .int (f4_threadAt v_u.2.2.2.2 x6), .int ((f2_doneOf x3 (f4_threadAt v_u.2.2.2.2 x6)) - (1 : Int32))]) (rest := []) ⟨hx, hb, hml, hown, hts⟩ (c2_withDone l D cB cI cZ cO h H.size x3 (f4_threadAt v_u.2.2.2.2 x6) ((f2_doneOf x3 (f4_threadAt v_u.2.2.2.2 x6)) - (1 : Int32)) (f2_withDone x3 (f4_threadAt v_u.2.2.2.2 x6) ((f2_doneOf x3 (f4_threadAt v_u.2.2.2.2 x6)) - (1 : Int32))) rfl) (va_cwS 3 hts gX5_firstPlace_X2_withDone rfl rfl rfl (by decide +kernel) ⟨Nat.le_of_ble_eq_true rfl, Nat.le_of_ble_eq_true rfl⟩) ⟨kb_blind, kb_pre hPc hDc hK hN⟩ rfl rfl hl.1 rfl (lv_room (Nat.le_of_ble_eq_true rfl)) dX5_firstPlace_62 ⟨Nat.le_refl _, Nat.le_refl _⟩) hP hD hS hA [] rfl (fun H locs hP hS => ?_)
        refine lv_lstore_n (lv' := [(3, .long (f2_withDone x3 (f4_threadAt v_u.2.2.2.2 x6) ((f2_doneOf x3 (f4_threadAt v_u.2.2.2.2 x6)) - (1 : Int32)))), (7, .int (f4_threadAt v_u.2.2.2.2 x6)), (0, .ref (h o)), (1, .int x1), (2, .int x2), (5, .int x5), (6, .int x6)]) hx hb dX5_firstPlace_65 rfl hl (by decide) rfl (fun ls hl => ?_)
        refine lv_iload hx hb dX5_firstPlace_66 (lv_at hl 1 rfl) ?_
        refine lv_iload_n hx hb dX5_firstPlace_68 rfl (lv_at hl 3 rfl) ?_
        refine lv_icmp_eq (tgt := 86) hx hb dX5_firstPlace_69 (by decide) (fun c13 => ?_) (fun c13 => ?_)
        · rw [if_pos c13] at hf
          exact J86 x5 _ _ _ hf hP hD hS (lv_sub hl [5] rfl)
        · rw [if_neg c13] at hf
          refine lv_iload_n hx hb dX5_firstPlace_72 rfl (lv_at hl 4 rfl) ?_
          refine lv_aload_n hx hb dX5_firstPlace_73 rfl (lv_at hl 2 rfl) ?_
          refine lv_lload_n hx hb dX5_firstPlace_74 rfl (lv_at hl 0 rfl) ?_
          refine lv_iload hx hb dX5_firstPlace_75 (lv_at hl 1 rfl) ?_
          refine kb_bind hf (fun q14 hq14 hf => ?_)
          have hPc : va_P D vwCl (wdS cI h o v_u) H := hP.sub [0, 1, 2] rfl
          have hDc : va_D A (wdS cI h o v_u) := hD.sub [0, 1, 2] (by decide) rfl
          refine kd_iR (va_runV (As := [.long (f2_withDone x3 (f4_threadAt v_u.2.2.2.2 x6) ((f2_doneOf x3 (f4_threadAt v_u.2.2.2.2 x6)) - (1 : Int32))), .int (f4_threadAt v_u.2.2.2.2 x6)]) (rest := [.int x2]) ⟨hx, hb, hml, hown, hts⟩ (c5_nextStep l D cB cI cZ cO h o H.size (f2_withDone x3 (f4_threadAt v_u.2.2.2.2 x6) ((f2_doneOf x3 (f4_threadAt v_u.2.2.2.2 x6)) - (1 : Int32))) (f4_threadAt v_u.2.2.2.2 x6) v_u q14 hq14) (cwV 2 hts gX5_firstPlace_X5_nextStep rfl rfl rfl (by decide +kernel) ⟨Nat.le_of_ble_eq_true rfl, Nat.le_of_ble_eq_true rfl⟩) ⟨kb_blind, va_recv hK hPc (ci := 3) (q0 := 0) rfl rfl, kb_pre hPc hDc hK hN⟩ rfl rfl hl.1 rfl (lv_room (Nat.le_of_ble_eq_true rfl)) dX5_firstPlace_77 ⟨Nat.le_refl _, Nat.le_refl _⟩) hP hD hS hA [0, 1, 2] rfl (fun H locs hn15 hP hS => ?_)
          have hPc : va_P D vwCl ([]) H := hP.sub [] rfl
          have hDc : va_D A ([]) := hD.sub [] (by decide) rfl
          refine kd_iR (va_runS (As := [.int x2, .int q14]) (rest := []) ⟨hx, hb, hml, hown, hts⟩ (c6_tied l D cB cI cZ cO h H.size x2 q14 (f6_tied x2 q14) rfl) (va_cwS 2 hts gX5_firstPlace_X6_tied rfl rfl rfl (by decide +kernel) ⟨Nat.le_of_ble_eq_true rfl, Nat.le_of_ble_eq_true rfl⟩) ⟨kb_blind, kb_pre hPc hDc hK hN⟩ rfl rfl hl.1 rfl (lv_room (Nat.le_of_ble_eq_true rfl)) dX5_firstPlace_80 ⟨Nat.le_refl _, Nat.le_refl _⟩) hP hD hS hA [] rfl (fun H locs hn16 hP hS => ?_)
          refine lv_if_eq (tgt := 89) hx hb dX5_firstPlace_83 (by decide) (fun c17 => ?_) (fun c17 => ?_)
          · rw [if_pos c17] at hf
            refine lv_iload hx hb dX5_firstPlace_89 (lv_at hl 1 rfl) ?_
            refine lv_iload_n hx hb dX5_firstPlace_91 rfl (lv_at hl 3 rfl) ?_
            refine lv_icmp_le (tgt := 99) hx hb dX5_firstPlace_92 (by decide) (fun c18 => ?_) (fun c18 => ?_)
            · rw [if_pos c18] at hf
              exact J99 x1 x2 (f2_withDone x3 (f4_threadAt v_u.2.2.2.2 x6) ((f2_doneOf x3 (f4_threadAt v_u.2.2.2.2 x6)) - (1 : Int32))) x5 x6 _ _ _ hf hP hD hS (lv_sub hl [2, 3, 4, 0, 5, 6] rfl)
            · rw [if_neg c18] at hf
              refine lv_iload hx hb dX5_firstPlace_95 (lv_at hl 6 rfl) ?_
              refine lv_istore (lv' := [(5, .int x6), (3, .long (f2_withDone x3 (f4_threadAt v_u.2.2.2.2 x6) ((f2_doneOf x3 (f4_threadAt v_u.2.2.2.2 x6)) - (1 : Int32)))), (7, .int (f4_threadAt v_u.2.2.2.2 x6)), (0, .ref (h o)), (1, .int x1), (2, .int x2), (6, .int x6)]) hx hb dX5_firstPlace_97 hl (by decide) rfl (fun ls hl => ?_)
              exact J99 x1 x2 (f2_withDone x3 (f4_threadAt v_u.2.2.2.2 x6) ((f2_doneOf x3 (f4_threadAt v_u.2.2.2.2 x6)) - (1 : Int32))) x6 x6 _ _ _ hf hP hD hS (lv_sub hl [3, 4, 5, 1, 0, 6] rfl)
          · rw [if_neg c17] at hf
            exact J86 x5 _ _ _ hf hP hD hS (lv_sub hl [5] rfl)
  rw [f5_firstPlace] at hf
  refine lv_aload_n hx hb dX5_firstPlace_0 rfl (lv_at hl 0 rfl) ?_
  refine lv_aload_n hx hb dX5_firstPlace_1 rfl (lv_at hl 0 rfl) ?_
  refine va_get (D := D) (cl := vwCl) (ci := 3) (v := .long v_u.2.2.2.1) (C := RX5) (T := TX5) (N := 5) hx hb hts hin5 hown hK hP 0 rfl rfl 3 (by decide) (hts (.fieldLink RX5 28 "StepOrders$State" "runMoment" "J") (by decide +kernel)) (fun _ h9 => h9) rfl dX5_firstPlace_2 ?_
  refine lv_iload_n hx hb dX5_firstPlace_5 rfl (lv_at hl 1 rfl) ?_
  refine kb_bind hf (fun q19 hq19 hf => ?_)
  have hPc : va_P D vwCl (wdS cI h o v_u) H := hP.sub [0, 1, 2] rfl
  have hDc : va_D A (wdS cI h o v_u) := hD.sub [0, 1, 2] (by decide) rfl
  refine kd_iR (va_runV (As := [.long v_u.2.2.2.1, .int x1]) (rest := []) ⟨hx, hb, hml, hown, hts⟩ (c5_nextStep l D cB cI cZ cO h o H.size v_u.2.2.2.1 x1 v_u q19 hq19) (cwV 2 hts gX5_firstPlace_X5_nextStep rfl rfl rfl (by decide +kernel) ⟨Nat.le_of_ble_eq_true rfl, Nat.le_of_ble_eq_true rfl⟩) ⟨kb_blind, va_recv hK hPc (ci := 3) (q0 := 0) rfl rfl, kb_pre hPc hDc hK hN⟩ rfl rfl hl.1 rfl (lv_room (Nat.le_of_ble_eq_true rfl)) dX5_firstPlace_6 ⟨Nat.le_refl _, Nat.le_refl _⟩) hP hD hS hA [0, 1, 2] rfl (fun H locs hn20 hP hS => ?_)
  refine lv_istore_n (lv' := [(2, .int q19), (0, .ref (h o)), (1, .int x1)]) hx hb dX5_firstPlace_9 rfl hl (by decide) rfl (fun ls hl => ?_)
  refine lv_aload_n hx hb dX5_firstPlace_10 rfl (lv_at hl 1 rfl) ?_
  refine va_get (D := D) (cl := vwCl) (ci := 3) (v := .long v_u.2.2.2.1) (C := RX5) (T := TX5) (N := 5) hx hb hts hin5 hown hK hP 0 rfl rfl 3 (by decide) (hts (.fieldLink RX5 28 "StepOrders$State" "runMoment" "J") (by decide +kernel)) (fun _ h9 => h9) rfl dX5_firstPlace_11 ?_
  refine lv_lstore_n (lv' := [(3, .long v_u.2.2.2.1), (2, .int q19), (0, .ref (h o)), (1, .int x1)]) hx hb dX5_firstPlace_14 rfl hl (by decide) rfl (fun ls hl => ?_)
  refine lv_aload_n hx hb dX5_firstPlace_15 rfl (lv_at hl 2 rfl) ?_
  refine va_get (D := D) (cl := vwCl) (ci := 3) (v := .int v_u.2.2.2.2) (C := RX5) (T := TX5) (N := 5) hx hb hts hin5 hown hK hP 0 rfl rfl 4 (by decide) (hts (.fieldLink RX5 31 "StepOrders$State" "runRow" "I") (by decide +kernel)) (fun _ h9 => h9) rfl dX5_firstPlace_16 ?_
  have hPc : va_P D vwCl ([]) H := hP.sub [] rfl
  have hDc : va_D A ([]) := hD.sub [] (by decide) rfl
  refine kd_iR (va_runS (As := [.int v_u.2.2.2.2]) (rest := []) ⟨hx, hb, hml, hown, hts⟩ (c4_length l D cB cI cZ cO h H.size v_u.2.2.2.2 (f4_length v_u.2.2.2.2) rfl) (va_cwS 1 hts gX5_firstPlace_X4_length rfl rfl rfl (by decide +kernel) ⟨Nat.le_of_ble_eq_true rfl, Nat.le_of_ble_eq_true rfl⟩) ⟨kb_blind, kb_pre hPc hDc hK hN⟩ rfl rfl hl.1 rfl (lv_room (Nat.le_of_ble_eq_true rfl)) dX5_firstPlace_19 ⟨Nat.le_refl _, Nat.le_refl _⟩) hP hD hS hA [] rfl (fun H locs hn21 hP hS => ?_)
  refine lv_istore (lv' := [(5, .int (f4_length v_u.2.2.2.2)), (3, .long v_u.2.2.2.1), (2, .int q19), (0, .ref (h o)), (1, .int x1)]) hx hb dX5_firstPlace_22 hl (by decide) rfl (fun ls hl => ?_)
  refine lv_aload_n hx hb dX5_firstPlace_24 rfl (lv_at hl 3 rfl) ?_
  refine va_get (D := D) (cl := vwCl) (ci := 3) (v := .int v_u.2.2.2.2) (C := RX5) (T := TX5) (N := 5) hx hb hts hin5 hown hK hP 0 rfl rfl 4 (by decide) (hts (.fieldLink RX5 31 "StepOrders$State" "runRow" "I") (by decide +kernel)) (fun _ h9 => h9) rfl dX5_firstPlace_25 ?_
  have hPc : va_P D vwCl ([]) H := hP.sub [] rfl
  have hDc : va_D A ([]) := hD.sub [] (by decide) rfl
  refine kd_iR (va_runS (As := [.int v_u.2.2.2.2]) (rest := []) ⟨hx, hb, hml, hown, hts⟩ (c4_length l D cB cI cZ cO h H.size v_u.2.2.2.2 (f4_length v_u.2.2.2.2) rfl) (va_cwS 1 hts gX5_firstPlace_X4_length rfl rfl rfl (by decide +kernel) ⟨Nat.le_of_ble_eq_true rfl, Nat.le_of_ble_eq_true rfl⟩) ⟨kb_blind, kb_pre hPc hDc hK hN⟩ rfl rfl hl.1 rfl (lv_room (Nat.le_of_ble_eq_true rfl)) dX5_firstPlace_28 ⟨Nat.le_refl _, Nat.le_refl _⟩) hP hD hS hA [] rfl (fun H locs hn22 hP hS => ?_)
  refine lv_iconst (v := 1) hx hb dX5_firstPlace_31 (by decide) ?_
  refine lv_isub hx hb dX5_firstPlace_32 ?_
  refine lv_istore (lv' := [(6, .int ((f4_length v_u.2.2.2.2) - (1 : Int32))), (5, .int (f4_length v_u.2.2.2.2)), (3, .long v_u.2.2.2.1), (2, .int q19), (0, .ref (h o)), (1, .int x1)]) hx hb dX5_firstPlace_33 hl (by decide) rfl (fun ls hl => ?_)
  exact J35 kFUEL x1 q19 v_u.2.2.2.1 (f4_length v_u.2.2.2.2) ((f4_length v_u.2.2.2.2) - (1 : Int32)) _ _ _ hf hP hD hS (lv_sub hl [4, 5, 3, 2, 1, 0] rfl)

set_option maxHeartbeats 4000000 in
set_option maxRecDepth 100000 in
theorem c5_stepDone (l : Launch) (D : va_G) (cB cI cZ cO : ClassId) (h : Nat → Nat) (o : Nat) (sz : Nat) (x1 : Int64) (x3 : Int32) (v_u : sT) (r0 : Int64) (hf : f5_stepDone v_u x1 x3 = some r0) : Met l yX5_stepDone wsX5_stepDone rm5_stepDone (va_Pc [.ref (h o), .long x1, .int x3] (kb_B D (ka_tys cB cI cZ cO) sz (wdS cI h o v_u))) (va_Ql (fun r (_ : Unit) => r = r0) (fun _ t => va_P D vwCl (wdS cI h o v_u) t.heap) (va_A (wdS cI h o v_u) sz)) 0 0 (va_A (wdS cI h o v_u) sz) := by
  refine kb_metL (cc := cX5_stepDone) (maxL := 10) (by decide) rfl (Nat.le_of_ble_eq_true rfl) ?_
  intro p e s m args below meth c Q A ls H hx hb hml hown hts hK hN hP hD hS hA hl hend
  have hown : s.vm.findClass RX5 = some m.cls := hown
  have hl : lv_has ls 10 [(0, .ref (h o)), (1, .long x1), (3, .int x3)] := hl
  rw [f5_stepDone] at hf
  refine lv_aload_n hx hb dX5_stepDone_0 rfl (lv_at hl 0 rfl) ?_
  refine lv_lload_n hx hb dX5_stepDone_1 rfl (lv_at hl 1 rfl) ?_
  refine lv_iload_n hx hb dX5_stepDone_2 rfl (lv_at hl 2 rfl) ?_
  refine kb_bind hf (fun q1 hq1 hf => ?_)
  have hPc : va_P D vwCl (wdS cI h o v_u) H := hP.sub [0, 1, 2] rfl
  have hDc : va_D A (wdS cI h o v_u) := hD.sub [0, 1, 2] (by decide) rfl
  refine kd_iR (va_runV (As := [.long x1, .int x3]) (rest := []) ⟨hx, hb, hml, hown, hts⟩ (c5_nextStep l D cB cI cZ cO h o H.size x1 x3 v_u q1 hq1) (cwV 2 hts gX5_stepDone_X5_nextStep rfl rfl rfl (by decide +kernel) ⟨Nat.le_of_ble_eq_true rfl, Nat.le_of_ble_eq_true rfl⟩) ⟨kb_blind, va_recv hK hPc (ci := 3) (q0 := 0) rfl rfl, kb_pre hPc hDc hK hN⟩ rfl rfl hl.1 rfl (lv_room (Nat.le_of_ble_eq_true rfl)) dX5_stepDone_3 ⟨Nat.le_refl _, Nat.le_refl _⟩) hP hD hS hA [0, 1, 2] rfl (fun H locs hn2 hP hS => ?_)
  refine lv_istore (lv' := [(4, .int q1), (0, .ref (h o)), (1, .long x1), (3, .int x3)]) hx hb dX5_stepDone_6 hl (by decide) rfl (fun ls hl => ?_)
  refine lv_iload hx hb dX5_stepDone_8 (lv_at hl 0 rfl) ?_
  refine lv_iconst (v := (-1)) hx hb dX5_stepDone_10 (by decide) ?_
  refine lv_icmp_ne (tgt := 16) hx hb dX5_stepDone_11 (by decide) (fun c3 => ?_) (fun c3 => ?_)
  · rw [if_neg c3] at hf
    refine lv_lload_n hx hb dX5_stepDone_16 rfl (lv_at hl 2 rfl) ?_
    refine lv_iload_n hx hb dX5_stepDone_17 rfl (lv_at hl 3 rfl) ?_
    refine lv_lload_n hx hb dX5_stepDone_18 rfl (lv_at hl 2 rfl) ?_
    refine lv_iload_n hx hb dX5_stepDone_19 rfl (lv_at hl 3 rfl) ?_
    have hPc : va_P D vwCl ([]) H := hP.sub [] rfl
    have hDc : va_D A ([]) := hD.sub [] (by decide) rfl
    refine kd_iR (va_runS (As := [.long x1, .int x3]) (rest := [.int x3, .long x1]) ⟨hx, hb, hml, hown, hts⟩ (c2_doneOf l D cB cI cZ cO h H.size x1 x3 (f2_doneOf x1 x3) rfl) (va_cwS 2 hts gX5_stepDone_X2_doneOf rfl rfl rfl (by decide +kernel) ⟨Nat.le_of_ble_eq_true rfl, Nat.le_of_ble_eq_true rfl⟩) ⟨kb_blind, kb_pre hPc hDc hK hN⟩ rfl rfl hl.1 rfl (lv_room (Nat.le_of_ble_eq_true rfl)) dX5_stepDone_20 ⟨Nat.le_refl _, Nat.le_refl _⟩) hP hD hS hA [] rfl (fun H locs hn4 hP hS => ?_)
    refine lv_iconst (v := 1) hx hb dX5_stepDone_23 (by decide) ?_
    refine lv_iadd hx hb dX5_stepDone_24 ?_
    have hPc : va_P D vwCl ([]) H := hP.sub [] rfl
    have hDc : va_D A ([]) := hD.sub [] (by decide) rfl
    refine kd_lR (va_runS (As := [.long x1, .int x3, .int ((f2_doneOf x1 x3) + (1 : Int32))]) (rest := []) ⟨hx, hb, hml, hown, hts⟩ (c2_withDone l D cB cI cZ cO h H.size x1 x3 ((f2_doneOf x1 x3) + (1 : Int32)) (f2_withDone x1 x3 ((f2_doneOf x1 x3) + (1 : Int32))) rfl) (va_cwS 3 hts gX5_stepDone_X2_withDone rfl rfl rfl (by decide +kernel) ⟨Nat.le_of_ble_eq_true rfl, Nat.le_of_ble_eq_true rfl⟩) ⟨kb_blind, kb_pre hPc hDc hK hN⟩ rfl rfl hl.1 rfl (lv_room (Nat.le_of_ble_eq_true rfl)) dX5_stepDone_25 ⟨Nat.le_refl _, Nat.le_refl _⟩) hP hD hS hA [] rfl (fun H locs hP hS => ?_)
    refine lv_lstore (lv' := [(5, .long (f2_withDone x1 x3 ((f2_doneOf x1 x3) + (1 : Int32)))), (4, .int q1), (0, .ref (h o)), (1, .long x1), (3, .int x3)]) hx hb dX5_stepDone_28 hl (by decide) rfl (fun ls hl => ?_)
    refine lv_iload hx hb dX5_stepDone_30 (lv_at hl 1 rfl) ?_
    have hPc : va_P D vwCl ([]) H := hP.sub [] rfl
    have hDc : va_D A ([]) := hD.sub [] (by decide) rfl
    refine kd_iR (va_runS (As := [.int q1]) (rest := []) ⟨hx, hb, hml, hown, hts⟩ (c6_target l D cB cI cZ cO h H.size q1 (f6_target q1) rfl) (va_cwS 1 hts gX5_stepDone_X6_target rfl rfl rfl (by decide +kernel) ⟨Nat.le_of_ble_eq_true rfl, Nat.le_of_ble_eq_true rfl⟩) ⟨kb_blind, kb_pre hPc hDc hK hN⟩ rfl rfl hl.1 rfl (lv_room (Nat.le_of_ble_eq_true rfl)) dX5_stepDone_32 ⟨Nat.le_refl _, Nat.le_refl _⟩) hP hD hS hA [] rfl (fun H locs hn5 hP hS => ?_)
    refine lv_istore (lv' := [(7, .int (f6_target q1)), (5, .long (f2_withDone x1 x3 ((f2_doneOf x1 x3) + (1 : Int32)))), (4, .int q1), (0, .ref (h o)), (1, .long x1), (3, .int x3)]) hx hb dX5_stepDone_35 hl (by decide) rfl (fun ls hl => ?_)
    refine lv_iload hx hb dX5_stepDone_37 (lv_at hl 2 rfl) ?_
    have hPc : va_P D vwCl ([]) H := hP.sub [] rfl
    have hDc : va_D A ([]) := hD.sub [] (by decide) rfl
    refine kd_iR (va_runS (As := [.int q1]) (rest := []) ⟨hx, hb, hml, hown, hts⟩ (c6_value l D cB cI cZ cO h H.size q1 (f6_value q1) rfl) (va_cwS 1 hts gX5_stepDone_X6_value rfl rfl rfl (by decide +kernel) ⟨Nat.le_of_ble_eq_true rfl, Nat.le_of_ble_eq_true rfl⟩) ⟨kb_blind, kb_pre hPc hDc hK hN⟩ rfl rfl hl.1 rfl (lv_room (Nat.le_of_ble_eq_true rfl)) dX5_stepDone_39 ⟨Nat.le_refl _, Nat.le_refl _⟩) hP hD hS hA [] rfl (fun H locs hn6 hP hS => ?_)
    refine lv_istore (lv' := [(8, .int (f6_value q1)), (7, .int (f6_target q1)), (5, .long (f2_withDone x1 x3 ((f2_doneOf x1 x3) + (1 : Int32)))), (4, .int q1), (0, .ref (h o)), (1, .long x1), (3, .int x3)]) hx hb dX5_stepDone_42 hl (by decide) rfl (fun ls hl => ?_)
    refine lv_lload_n hx hb dX5_stepDone_44 rfl (lv_at hl 5 rfl) ?_
    refine lv_iload hx hb dX5_stepDone_45 (lv_at hl 1 rfl) ?_
    have hPc : va_P D vwCl ([]) H := hP.sub [] rfl
    have hDc : va_D A ([]) := hD.sub [] (by decide) rfl
    refine kd_iR (va_runS (As := [.long x1, .int (f6_target q1)]) (rest := []) ⟨hx, hb, hml, hown, hts⟩ (c2_valueOf l D cB cI cZ cO h H.size x1 (f6_target q1) (f2_valueOf x1 (f6_target q1)) rfl) (va_cwS 2 hts gX5_stepDone_X2_valueOf rfl rfl rfl (by decide +kernel) ⟨Nat.le_of_ble_eq_true rfl, Nat.le_of_ble_eq_true rfl⟩) ⟨kb_blind, kb_pre hPc hDc hK hN⟩ rfl rfl hl.1 rfl (lv_room (Nat.le_of_ble_eq_true rfl)) dX5_stepDone_47 ⟨Nat.le_refl _, Nat.le_refl _⟩) hP hD hS hA [] rfl (fun H locs hn7 hP hS => ?_)
    refine lv_istore (lv' := [(9, .int (f2_valueOf x1 (f6_target q1))), (8, .int (f6_value q1)), (7, .int (f6_target q1)), (5, .long (f2_withDone x1 x3 ((f2_doneOf x1 x3) + (1 : Int32)))), (4, .int q1), (0, .ref (h o)), (1, .long x1), (3, .int x3)]) hx hb dX5_stepDone_50 hl (by decide) rfl (fun ls hl => ?_)
    refine lv_iload hx hb dX5_stepDone_52 (lv_at hl 4 rfl) ?_
    have hPc : va_P D vwCl ([]) H := hP.sub [] rfl
    have hDc : va_D A ([]) := hD.sub [] (by decide) rfl
    refine kd_iR (va_runS (As := [.int q1]) (rest := []) ⟨hx, hb, hml, hown, hts⟩ (c6_kind l D cB cI cZ cO h H.size q1 (f6_kind q1) rfl) (va_cwS 1 hts gX5_stepDone_X6_kind rfl rfl rfl (by decide +kernel) ⟨Nat.le_of_ble_eq_true rfl, Nat.le_of_ble_eq_true rfl⟩) ⟨kb_blind, kb_pre hPc hDc hK hN⟩ rfl rfl hl.1 rfl (lv_room (Nat.le_of_ble_eq_true rfl)) dX5_stepDone_54 ⟨Nat.le_refl _, Nat.le_refl _⟩) hP hD hS hA [] rfl (fun H locs hn8 hP hS => ?_)
    by_cases c9_0 : (f6_kind q1) = 0
    · rw [if_pos c9_0] at hf
      refine lv_tableIn (tgt := 92) (off := 35) hx hb dX5_stepDone_57 (by rw [c9_0]; decide) (by rw [c9_0]; decide) (by rw [c9_0]; rfl) (by decide) ?_
      refine lv_lload hx hb dX5_stepDone_92 (lv_at hl 3 rfl) ?_
      refine lv_iload hx hb dX5_stepDone_94 (lv_at hl 2 rfl) ?_
      refine lv_iload hx hb dX5_stepDone_96 (lv_at hl 1 rfl) ?_
      have hPc : va_P D vwCl ([]) H := hP.sub [] rfl
      have hDc : va_D A ([]) := hD.sub [] (by decide) rfl
      refine kd_lR (va_runS (As := [.long (f2_withDone x1 x3 ((f2_doneOf x1 x3) + (1 : Int32))), .int (f6_target q1), .int (f6_value q1)]) (rest := []) ⟨hx, hb, hml, hown, hts⟩ (c2_withValue l D cB cI cZ cO h H.size (f2_withDone x1 x3 ((f2_doneOf x1 x3) + (1 : Int32))) (f6_target q1) (f6_value q1) (f2_withValue (f2_withDone x1 x3 ((f2_doneOf x1 x3) + (1 : Int32))) (f6_target q1) (f6_value q1)) rfl) (va_cwS 3 hts gX5_stepDone_X2_withValue rfl rfl rfl (by decide +kernel) ⟨Nat.le_of_ble_eq_true rfl, Nat.le_of_ble_eq_true rfl⟩) ⟨kb_blind, kb_pre hPc hDc hK hN⟩ rfl rfl hl.1 rfl (lv_room (Nat.le_of_ble_eq_true rfl)) dX5_stepDone_98 ⟨Nat.le_refl _, Nat.le_refl _⟩) hP hD hS hA [] rfl (fun H locs hP hS => ?_)
      obtain rfl := Option.some.inj hf
      exact hend _ _ _ _ hP hS dX5_stepDone_101
    rw [if_neg c9_0] at hf
    by_cases c9_1 : (f6_kind q1) = 1
    · rw [if_pos c9_1] at hf
      refine lv_tableIn (tgt := 102) (off := 45) hx hb dX5_stepDone_57 (by rw [c9_1]; decide) (by rw [c9_1]; decide) (by rw [c9_1]; rfl) (by decide) ?_
      refine lv_lload hx hb dX5_stepDone_102 (lv_at hl 3 rfl) ?_
      refine lv_iload hx hb dX5_stepDone_104 (lv_at hl 2 rfl) ?_
      refine lv_iload hx hb dX5_stepDone_106 (lv_at hl 0 rfl) ?_
      refine lv_iload hx hb dX5_stepDone_108 (lv_at hl 1 rfl) ?_
      refine lv_iadd hx hb dX5_stepDone_110 ?_
      refine lv_bipush (v := 10) hx hb dX5_stepDone_111 (by decide) ?_
      refine lv_irem hx hb dX5_stepDone_113 (by decide) ?_
      have hPc : va_P D vwCl ([]) H := hP.sub [] rfl
      have hDc : va_D A ([]) := hD.sub [] (by decide) rfl
      refine kd_lR (va_runS (As := [.long (f2_withDone x1 x3 ((f2_doneOf x1 x3) + (1 : Int32))), .int (f6_target q1), .int (((f2_valueOf x1 (f6_target q1)) + (f6_value q1)) - ((f2_valueOf x1 (f6_target q1)) + (f6_value q1)) / (10 : Int32) * (10 : Int32))]) (rest := []) ⟨hx, hb, hml, hown, hts⟩ (c2_withValue l D cB cI cZ cO h H.size (f2_withDone x1 x3 ((f2_doneOf x1 x3) + (1 : Int32))) (f6_target q1) (((f2_valueOf x1 (f6_target q1)) + (f6_value q1)) - ((f2_valueOf x1 (f6_target q1)) + (f6_value q1)) / (10 : Int32) * (10 : Int32)) (f2_withValue (f2_withDone x1 x3 ((f2_doneOf x1 x3) + (1 : Int32))) (f6_target q1) (((f2_valueOf x1 (f6_target q1)) + (f6_value q1)) - ((f2_valueOf x1 (f6_target q1)) + (f6_value q1)) / (10 : Int32) * (10 : Int32))) rfl) (va_cwS 3 hts gX5_stepDone_X2_withValue rfl rfl rfl (by decide +kernel) ⟨Nat.le_of_ble_eq_true rfl, Nat.le_of_ble_eq_true rfl⟩) ⟨kb_blind, kb_pre hPc hDc hK hN⟩ rfl rfl hl.1 rfl (lv_room (Nat.le_of_ble_eq_true rfl)) dX5_stepDone_114 ⟨Nat.le_refl _, Nat.le_refl _⟩) hP hD hS hA [] rfl (fun H locs hP hS => ?_)
      obtain rfl := Option.some.inj hf
      exact hend _ _ _ _ hP hS dX5_stepDone_117
    rw [if_neg c9_1] at hf
    by_cases c9_2 : (f6_kind q1) = 2
    · rw [if_pos c9_2] at hf
      refine lv_tableIn (tgt := 118) (off := 61) hx hb dX5_stepDone_57 (by rw [c9_2]; decide) (by rw [c9_2]; decide) (by rw [c9_2]; rfl) (by decide) ?_
      refine lv_lload hx hb dX5_stepDone_118 (lv_at hl 3 rfl) ?_
      refine lv_iload hx hb dX5_stepDone_120 (lv_at hl 2 rfl) ?_
      refine lv_lload_n hx hb dX5_stepDone_122 rfl (lv_at hl 6 rfl) ?_
      refine lv_iload hx hb dX5_stepDone_123 (lv_at hl 1 rfl) ?_
      have hPc : va_P D vwCl ([]) H := hP.sub [] rfl
      have hDc : va_D A ([]) := hD.sub [] (by decide) rfl
      refine kd_iR (va_runS (As := [.long x1, .int (f6_value q1)]) (rest := [.int (f6_target q1), .long (f2_withDone x1 x3 ((f2_doneOf x1 x3) + (1 : Int32)))]) ⟨hx, hb, hml, hown, hts⟩ (c2_valueOf l D cB cI cZ cO h H.size x1 (f6_value q1) (f2_valueOf x1 (f6_value q1)) rfl) (va_cwS 2 hts gX5_stepDone_X2_valueOf rfl rfl rfl (by decide +kernel) ⟨Nat.le_of_ble_eq_true rfl, Nat.le_of_ble_eq_true rfl⟩) ⟨kb_blind, kb_pre hPc hDc hK hN⟩ rfl rfl hl.1 rfl (lv_room (Nat.le_of_ble_eq_true rfl)) dX5_stepDone_125 ⟨Nat.le_refl _, Nat.le_refl _⟩) hP hD hS hA [] rfl (fun H locs hn10 hP hS => ?_)
      have hPc : va_P D vwCl ([]) H := hP.sub [] rfl
      have hDc : va_D A ([]) := hD.sub [] (by decide) rfl
      refine kd_lR (va_runS (As := [.long (f2_withDone x1 x3 ((f2_doneOf x1 x3) + (1 : Int32))), .int (f6_target q1), .int (f2_valueOf x1 (f6_value q1))]) (rest := []) ⟨hx, hb, hml, hown, hts⟩ (c2_withValue l D cB cI cZ cO h H.size (f2_withDone x1 x3 ((f2_doneOf x1 x3) + (1 : Int32))) (f6_target q1) (f2_valueOf x1 (f6_value q1)) (f2_withValue (f2_withDone x1 x3 ((f2_doneOf x1 x3) + (1 : Int32))) (f6_target q1) (f2_valueOf x1 (f6_value q1))) rfl) (va_cwS 3 hts gX5_stepDone_X2_withValue rfl rfl rfl (by decide +kernel) ⟨Nat.le_of_ble_eq_true rfl, Nat.le_of_ble_eq_true rfl⟩) ⟨kb_blind, kb_pre hPc hDc hK hN⟩ rfl rfl hl.1 rfl (lv_room (Nat.le_of_ble_eq_true rfl)) dX5_stepDone_128 ⟨Nat.le_refl _, Nat.le_refl _⟩) hP hD hS hA [] rfl (fun H locs hP hS => ?_)
      obtain rfl := Option.some.inj hf
      exact hend _ _ _ _ hP hS dX5_stepDone_131
    rw [if_neg c9_2] at hf
    by_cases c9_3 : (f6_kind q1) = 3
    · rw [if_pos c9_3] at hf
      refine lv_tableIn (tgt := 132) (off := 75) hx hb dX5_stepDone_57 (by rw [c9_3]; decide) (by rw [c9_3]; decide) (by rw [c9_3]; rfl) (by decide) ?_
      refine lv_iload hx hb dX5_stepDone_132 (lv_at hl 0 rfl) ?_
      refine lv_iload hx hb dX5_stepDone_134 (lv_at hl 1 rfl) ?_
      refine lv_icmp_ne (tgt := 144) hx hb dX5_stepDone_136 (by decide) (fun c11 => ?_) (fun c11 => ?_)
      · rw [if_neg c11] at hf
        refine lv_lload hx hb dX5_stepDone_144 (lv_at hl 3 rfl) ?_
        have hPc : va_P D vwCl ([]) H := hP.sub [] rfl
        have hDc : va_D A ([]) := hD.sub [] (by decide) rfl
        refine kd_lR (va_runS (As := [.long (f2_withDone x1 x3 ((f2_doneOf x1 x3) + (1 : Int32)))]) (rest := []) ⟨hx, hb, hml, hown, hts⟩ (c2_withOneWrongMore l D cB cI cZ cO h H.size (f2_withDone x1 x3 ((f2_doneOf x1 x3) + (1 : Int32))) (f2_withOneWrongMore (f2_withDone x1 x3 ((f2_doneOf x1 x3) + (1 : Int32)))) rfl) (va_cwS 1 hts gX5_stepDone_X2_withOneWrongMore rfl rfl rfl (by decide +kernel) ⟨Nat.le_of_ble_eq_true rfl, Nat.le_of_ble_eq_true rfl⟩) ⟨kb_blind, kb_pre hPc hDc hK hN⟩ rfl rfl hl.1 rfl (lv_room (Nat.le_of_ble_eq_true rfl)) dX5_stepDone_146 ⟨Nat.le_refl _, Nat.le_refl _⟩) hP hD hS hA [] rfl (fun H locs hP hS => ?_)
        obtain rfl := Option.some.inj hf
        exact hend _ _ _ _ hP hS dX5_stepDone_149
      · rw [if_pos c11] at hf
        refine lv_lload hx hb dX5_stepDone_139 (lv_at hl 3 rfl) ?_
        refine lv_goto (tgt := 149) hx hb dX5_stepDone_141 (by decide) ?_
        obtain rfl := Option.some.inj hf
        exact hend _ _ _ _ hP hS dX5_stepDone_149
    rw [if_neg c9_3] at hf
    by_cases c9_4 : (f6_kind q1) = 4
    · rw [if_pos c9_4] at hf
      refine lv_tableIn (tgt := 150) (off := 93) hx hb dX5_stepDone_57 (by rw [c9_4]; decide) (by rw [c9_4]; decide) (by rw [c9_4]; rfl) (by decide) ?_
      refine lv_lload hx hb dX5_stepDone_150 (lv_at hl 3 rfl) ?_
      refine lv_iload hx hb dX5_stepDone_152 (lv_at hl 2 rfl) ?_
      refine lv_iload_n hx hb dX5_stepDone_154 rfl (lv_at hl 7 rfl) ?_
      have hPc : va_P D vwCl ([]) H := hP.sub [] rfl
      have hDc : va_D A ([]) := hD.sub [] (by decide) rfl
      refine kd_lR (va_runS (As := [.long (f2_withDone x1 x3 ((f2_doneOf x1 x3) + (1 : Int32))), .int (f6_target q1), .int x3]) (rest := []) ⟨hx, hb, hml, hown, hts⟩ (c2_withHolder l D cB cI cZ cO h H.size (f2_withDone x1 x3 ((f2_doneOf x1 x3) + (1 : Int32))) (f6_target q1) x3 (f2_withHolder (f2_withDone x1 x3 ((f2_doneOf x1 x3) + (1 : Int32))) (f6_target q1) x3) rfl) (va_cwS 3 hts gX5_stepDone_X2_withHolder rfl rfl rfl (by decide +kernel) ⟨Nat.le_of_ble_eq_true rfl, Nat.le_of_ble_eq_true rfl⟩) ⟨kb_blind, kb_pre hPc hDc hK hN⟩ rfl rfl hl.1 rfl (lv_room (Nat.le_of_ble_eq_true rfl)) dX5_stepDone_155 ⟨Nat.le_refl _, Nat.le_refl _⟩) hP hD hS hA [] rfl (fun H locs hP hS => ?_)
      obtain rfl := Option.some.inj hf
      exact hend _ _ _ _ hP hS dX5_stepDone_158
    rw [if_neg c9_4] at hf
    refine lv_tableOut (tgt := 159) hx hb dX5_stepDone_57 (by have e0 := lv_neT c9_0 (a := 0) rfl; have e1 := lv_neT c9_1 (a := 1) rfl; have e2 := lv_neT c9_2 (a := 2) rfl; have e3 := lv_neT c9_3 (a := 3) rfl; have e4 := lv_neT c9_4 (a := 4) rfl; omega) (by decide) ?_
    refine lv_lload hx hb dX5_stepDone_159 (lv_at hl 3 rfl) ?_
    refine lv_iload hx hb dX5_stepDone_161 (lv_at hl 2 rfl) ?_
    refine lv_iconst (v := (-1)) hx hb dX5_stepDone_163 (by decide) ?_
    have hPc : va_P D vwCl ([]) H := hP.sub [] rfl
    have hDc : va_D A ([]) := hD.sub [] (by decide) rfl
    refine kd_lR (va_runS (As := [.long (f2_withDone x1 x3 ((f2_doneOf x1 x3) + (1 : Int32))), .int (f6_target q1), .int (-1 : Int32)]) (rest := []) ⟨hx, hb, hml, hown, hts⟩ (c2_withHolder l D cB cI cZ cO h H.size (f2_withDone x1 x3 ((f2_doneOf x1 x3) + (1 : Int32))) (f6_target q1) (-1 : Int32) (f2_withHolder (f2_withDone x1 x3 ((f2_doneOf x1 x3) + (1 : Int32))) (f6_target q1) (-1 : Int32)) rfl) (va_cwS 3 hts gX5_stepDone_X2_withHolder rfl rfl rfl (by decide +kernel) ⟨Nat.le_of_ble_eq_true rfl, Nat.le_of_ble_eq_true rfl⟩) ⟨kb_blind, kb_pre hPc hDc hK hN⟩ rfl rfl hl.1 rfl (lv_room (Nat.le_of_ble_eq_true rfl)) dX5_stepDone_164 ⟨Nat.le_refl _, Nat.le_refl _⟩) hP hD hS hA [] rfl (fun H locs hP hS => ?_)
    obtain rfl := Option.some.inj hf
    exact hend _ _ _ _ hP hS dX5_stepDone_167
  · rw [if_pos c3] at hf
    refine lv_lload_n hx hb dX5_stepDone_14 rfl (lv_at hl 2 rfl) ?_
    obtain rfl := Option.some.inj hf
    exact hend _ _ _ _ hP hS dX5_stepDone_15

set_option maxHeartbeats 4000000 in
set_option maxRecDepth 100000 in
theorem c5_runOn (l : Launch) (D : va_G) (cB cI cZ cO : ClassId) (h : Nat → Nat) (o : Nat) (sz : Nat) (x1 : Int32) (v_u : sT) (v_u' : sT) (hf : f5_runOn v_u x1 = some (v_u')) : Met l yX5_runOn wsX5_runOn rm5_runOn (va_Pc [.ref (h o), .int x1] (kb_B D (ka_tys cB cI cZ cO) sz (wdS cI h o v_u))) (va_Qv (fun (_ : Unit) => True) (fun _ t => va_P D vwCl (wdS cI h o (v_u')) t.heap) (va_A (wdS cI h o v_u) sz)) 0 0 (va_A (wdS cI h o v_u) sz) := by
  refine kb_metV (cc := cX5_runOn) (maxL := 2) (by decide) rfl (Nat.le_of_ble_eq_true rfl) ?_
  intro p e s m args below meth c Q A ls H hx hb hml hown hts hK hN hP hD hS hA hl hend
  have hown : s.vm.findClass RX5 = some m.cls := hown
  have hl : lv_has ls 2 [(0, .ref (h o)), (1, .int x1)] := hl
  have hin5 : ∀ w ∈ u_ws RX5 TX5 5, w ∈ wsX5_runOn := by decide +kernel
  rw [f5_runOn] at hf
  refine lv_aload_n hx hb dX5_runOn_0 rfl (lv_at hl 0 rfl) ?_
  refine lv_aload_n hx hb dX5_runOn_1 rfl (lv_at hl 0 rfl) ?_
  refine va_get (D := D) (cl := vwCl) (ci := 3) (v := .int v_u.2.2.2.2) (C := RX5) (T := TX5) (N := 5) hx hb hts hin5 hown hK hP 0 rfl rfl 4 (by decide) (hts (.fieldLink RX5 31 "StepOrders$State" "runRow" "I") (by decide +kernel)) (fun _ h9 => h9) rfl dX5_runOn_2 ?_
  refine lv_aload_n hx hb dX5_runOn_5 rfl (lv_at hl 0 rfl) ?_
  refine lv_iload_n hx hb dX5_runOn_6 rfl (lv_at hl 1 rfl) ?_
  refine kb_bind hf (fun q1 hq1 hf => ?_)
  have hPc : va_P D vwCl (wdS cI h o v_u) H := hP.sub [0, 1, 2] rfl
  have hDc : va_D A (wdS cI h o v_u) := hD.sub [0, 1, 2] (by decide) rfl
  refine kd_iR (va_runV (As := [.int x1]) (rest := [.int v_u.2.2.2.2, .ref (h o)]) ⟨hx, hb, hml, hown, hts⟩ (c5_firstPlace l D cB cI cZ cO h o H.size x1 v_u q1 hq1) (cwV 1 hts gX5_runOn_X5_firstPlace rfl rfl rfl (by decide +kernel) ⟨Nat.le_of_ble_eq_true rfl, Nat.le_of_ble_eq_true rfl⟩) ⟨kb_blind, va_recv hK hPc (ci := 3) (q0 := 0) rfl rfl, kb_pre hPc hDc hK hN⟩ rfl rfl hl.1 rfl (lv_room (Nat.le_of_ble_eq_true rfl)) dX5_runOn_7 ⟨Nat.le_refl _, Nat.le_refl _⟩) hP hD hS hA [0, 1, 2] rfl (fun H locs hn2 hP hS => ?_)
  refine lv_iload_n hx hb dX5_runOn_10 rfl (lv_at hl 1 rfl) ?_
  have hPc : va_P D vwCl ([]) H := hP.sub [] rfl
  have hDc : va_D A ([]) := hD.sub [] (by decide) rfl
  refine kd_iR (va_runS (As := [.int v_u.2.2.2.2, .int q1, .int x1]) (rest := [.ref (h o)]) ⟨hx, hb, hml, hown, hts⟩ (c4_withThreadAt l D cB cI cZ cO h H.size v_u.2.2.2.2 q1 x1 (f4_withThreadAt v_u.2.2.2.2 q1 x1) rfl) (va_cwS 3 hts gX5_runOn_X4_withThreadAt rfl rfl rfl (by decide +kernel) ⟨Nat.le_of_ble_eq_true rfl, Nat.le_of_ble_eq_true rfl⟩) ⟨kb_blind, kb_pre hPc hDc hK hN⟩ rfl rfl hl.1 rfl (lv_room (Nat.le_of_ble_eq_true rfl)) dX5_runOn_11 ⟨Nat.le_refl _, Nat.le_refl _⟩) hP hD hS hA [] rfl (fun H locs hn3 hP hS => ?_)
  refine va_put (D := D) (cl := vwCl) (ci := 3) (v := .int (f4_withThreadAt v_u.2.2.2.2 q1 x1)) (ty := .int) (C := RX5) (T := TX5) (N := 5) hx hb hts hin5 tyX5 tyX5_ok nmX5 hown hK hP hD hS 0 rfl rfl 4 (by decide) (hts (.fieldLink RX5 31 "StepOrders$State" "runRow" "I") (by decide +kernel)) (fun _ h9 => h9) rfl (tyX5_ok 4 (by decide)) rfl rfl (Nat.le_of_ble_eq_true rfl) dX5_runOn_14 (fun H locs hP hD hS => ?_)
  have hP : va_P D vwCl (wdS cI h o (v_u.1, v_u.2.1, v_u.2.2.1, v_u.2.2.2.1, (f4_withThreadAt v_u.2.2.2.2 q1 x1))) H := hP
  have hD : va_D A (wdS cI h o (v_u.1, v_u.2.1, v_u.2.2.1, v_u.2.2.2.1, (f4_withThreadAt v_u.2.2.2.2 q1 x1))) := hD
  refine lv_aload_n hx hb dX5_runOn_17 rfl (lv_at hl 0 rfl) ?_
  refine lv_aload_n hx hb dX5_runOn_18 rfl (lv_at hl 0 rfl) ?_
  refine lv_aload_n hx hb dX5_runOn_19 rfl (lv_at hl 0 rfl) ?_
  refine va_get (D := D) (cl := vwCl) (ci := 3) (v := .long v_u.2.2.2.1) (C := RX5) (T := TX5) (N := 5) hx hb hts hin5 hown hK hP 0 rfl rfl 3 (by decide) (hts (.fieldLink RX5 28 "StepOrders$State" "runMoment" "J") (by decide +kernel)) (fun _ h9 => h9) rfl dX5_runOn_20 ?_
  refine lv_iload_n hx hb dX5_runOn_23 rfl (lv_at hl 1 rfl) ?_
  refine kb_bind hf (fun q4 hq4 hf => ?_)
  have hPc : va_P D vwCl (wdS cI h o (v_u.1, v_u.2.1, v_u.2.2.1, v_u.2.2.2.1, (f4_withThreadAt v_u.2.2.2.2 q1 x1))) H := hP.sub [0, 1, 2] rfl
  have hDc : va_D A (wdS cI h o (v_u.1, v_u.2.1, v_u.2.2.1, v_u.2.2.2.1, (f4_withThreadAt v_u.2.2.2.2 q1 x1))) := hD.sub [0, 1, 2] (by decide) rfl
  refine kd_lR (va_runV (As := [.long v_u.2.2.2.1, .int x1]) (rest := [.ref (h o)]) ⟨hx, hb, hml, hown, hts⟩ (c5_stepDone l D cB cI cZ cO h o H.size v_u.2.2.2.1 x1 (v_u.1, v_u.2.1, v_u.2.2.1, v_u.2.2.2.1, (f4_withThreadAt v_u.2.2.2.2 q1 x1)) q4 hq4) (cwV 2 hts gX5_runOn_X5_stepDone rfl rfl rfl (by decide +kernel) ⟨Nat.le_of_ble_eq_true rfl, Nat.le_of_ble_eq_true rfl⟩) ⟨kb_blind, va_recv hK hPc (ci := 3) (q0 := 0) rfl rfl, kb_pre hPc hDc hK hN⟩ rfl rfl hl.1 rfl (lv_room (Nat.le_of_ble_eq_true rfl)) dX5_runOn_24 ⟨Nat.le_refl _, Nat.le_refl _⟩) hP hD hS hA [0, 1, 2] rfl (fun H locs hP hS => ?_)
  refine va_put (D := D) (cl := vwCl) (ci := 3) (v := .long q4) (ty := .long) (C := RX5) (T := TX5) (N := 5) hx hb hts hin5 tyX5 tyX5_ok nmX5 hown hK hP hD hS 0 rfl rfl 3 (by decide) (hts (.fieldLink RX5 28 "StepOrders$State" "runMoment" "J") (by decide +kernel)) (fun _ h9 => h9) rfl (tyX5_ok 3 (by decide)) rfl rfl (Nat.le_of_ble_eq_true rfl) dX5_runOn_27 (fun H locs hP hD hS => ?_)
  have hP : va_P D vwCl (wdS cI h o (v_u.1, v_u.2.1, v_u.2.2.1, q4, (f4_withThreadAt v_u.2.2.2.2 q1 x1))) H := hP
  have hD : va_D A (wdS cI h o (v_u.1, v_u.2.1, v_u.2.2.1, q4, (f4_withThreadAt v_u.2.2.2.2 q1 x1))) := hD
  obtain rfl := Option.some.inj hf
  exact hend _ _ _ _ hP hS dX5_runOn_30

set_option maxHeartbeats 4000000 in
set_option maxRecDepth 100000 in
theorem c5_canDo (l : Launch) (D : va_G) (cB cI cZ cO : ClassId) (h : Nat → Nat) (o : Nat) (sz : Nat) (x1 : Int64) (x3 : Int32) (v_u : sT) (r0 : Int32) (hf : f5_canDo v_u x1 x3 = some r0) : Met l yX5_canDo wsX5_canDo rm5_canDo (va_Pc [.ref (h o), .long x1, .int x3] (kb_B D (ka_tys cB cI cZ cO) sz (wdS cI h o v_u))) (va_Qi (kb_post .boolean r0) (fun _ t => va_P D vwCl (wdS cI h o v_u) t.heap) (va_A (wdS cI h o v_u) sz)) 0 0 (va_A (wdS cI h o v_u) sz) := by
  refine kb_metZ (cc := cX5_canDo) (maxL := 5) (ty := .boolean) (by decide) rfl (Nat.le_of_ble_eq_true rfl) ?_
  intro p e s m args below meth c Q A ls H hx hb hml hown hts hK hN hP hD hS hA hl hend
  have hown : s.vm.findClass RX5 = some m.cls := hown
  have hl : lv_has ls 5 [(0, .ref (h o)), (1, .long x1), (3, .int x3)] := hl
  rw [f5_canDo] at hf
  refine lv_aload_n hx hb dX5_canDo_0 rfl (lv_at hl 0 rfl) ?_
  refine lv_lload_n hx hb dX5_canDo_1 rfl (lv_at hl 1 rfl) ?_
  refine lv_iload_n hx hb dX5_canDo_2 rfl (lv_at hl 2 rfl) ?_
  refine kb_bind hf (fun q1 hq1 hf => ?_)
  have hPc : va_P D vwCl (wdS cI h o v_u) H := hP.sub [0, 1, 2] rfl
  have hDc : va_D A (wdS cI h o v_u) := hD.sub [0, 1, 2] (by decide) rfl
  refine kd_iR (va_runV (As := [.long x1, .int x3]) (rest := []) ⟨hx, hb, hml, hown, hts⟩ (c5_nextStep l D cB cI cZ cO h o H.size x1 x3 v_u q1 hq1) (cwV 2 hts gX5_canDo_X5_nextStep rfl rfl rfl (by decide +kernel) ⟨Nat.le_of_ble_eq_true rfl, Nat.le_of_ble_eq_true rfl⟩) ⟨kb_blind, va_recv hK hPc (ci := 3) (q0 := 0) rfl rfl, kb_pre hPc hDc hK hN⟩ rfl rfl hl.1 rfl (lv_room (Nat.le_of_ble_eq_true rfl)) dX5_canDo_3 ⟨Nat.le_refl _, Nat.le_refl _⟩) hP hD hS hA [0, 1, 2] rfl (fun H locs hn2 hP hS => ?_)
  refine lv_istore (lv' := [(4, .int q1), (0, .ref (h o)), (1, .long x1), (3, .int x3)]) hx hb dX5_canDo_6 hl (by decide) rfl (fun ls hl => ?_)
  refine lv_iload hx hb dX5_canDo_8 (lv_at hl 0 rfl) ?_
  refine lv_iconst (v := (-1)) hx hb dX5_canDo_10 (by decide) ?_
  refine lv_icmp_ne (tgt := 16) hx hb dX5_canDo_11 (by decide) (fun c3 => ?_) (fun c3 => ?_)
  · rw [if_neg c3] at hf
    refine lv_iload hx hb dX5_canDo_16 (lv_at hl 0 rfl) ?_
    have hPc : va_P D vwCl ([]) H := hP.sub [] rfl
    have hDc : va_D A ([]) := hD.sub [] (by decide) rfl
    refine kd_iR (va_runS (As := [.int q1]) (rest := []) ⟨hx, hb, hml, hown, hts⟩ (c6_kind l D cB cI cZ cO h H.size q1 (f6_kind q1) rfl) (va_cwS 1 hts gX5_canDo_X6_kind rfl rfl rfl (by decide +kernel) ⟨Nat.le_of_ble_eq_true rfl, Nat.le_of_ble_eq_true rfl⟩) ⟨kb_blind, kb_pre hPc hDc hK hN⟩ rfl rfl hl.1 rfl (lv_room (Nat.le_of_ble_eq_true rfl)) dX5_canDo_18 ⟨Nat.le_refl _, Nat.le_refl _⟩) hP hD hS hA [] rfl (fun H locs hn4 hP hS => ?_)
    by_cases c5_0 : (f6_kind q1) = 4
    · rw [if_pos c5_0] at hf
      refine lv_lookup (tgt := 48) (off := 27) hx hb dX5_canDo_21 (by decide) (by rw [c5_0]; decide) (by decide) ?_
      refine lv_lload_n hx hb dX5_canDo_48 rfl (lv_at hl 2 rfl) ?_
      refine lv_iload hx hb dX5_canDo_49 (lv_at hl 0 rfl) ?_
      have hPc : va_P D vwCl ([]) H := hP.sub [] rfl
      have hDc : va_D A ([]) := hD.sub [] (by decide) rfl
      refine kd_iR (va_runS (As := [.int q1]) (rest := [.long x1]) ⟨hx, hb, hml, hown, hts⟩ (c6_target l D cB cI cZ cO h H.size q1 (f6_target q1) rfl) (va_cwS 1 hts gX5_canDo_X6_target rfl rfl rfl (by decide +kernel) ⟨Nat.le_of_ble_eq_true rfl, Nat.le_of_ble_eq_true rfl⟩) ⟨kb_blind, kb_pre hPc hDc hK hN⟩ rfl rfl hl.1 rfl (lv_room (Nat.le_of_ble_eq_true rfl)) dX5_canDo_51 ⟨Nat.le_refl _, Nat.le_refl _⟩) hP hD hS hA [] rfl (fun H locs hn6 hP hS => ?_)
      have hPc : va_P D vwCl ([]) H := hP.sub [] rfl
      have hDc : va_D A ([]) := hD.sub [] (by decide) rfl
      refine kd_iR (va_runS (As := [.long x1, .int (f6_target q1)]) (rest := []) ⟨hx, hb, hml, hown, hts⟩ (c2_holderOf l D cB cI cZ cO h H.size x1 (f6_target q1) (f2_holderOf x1 (f6_target q1)) rfl) (va_cwS 2 hts gX5_canDo_X2_holderOf rfl rfl rfl (by decide +kernel) ⟨Nat.le_of_ble_eq_true rfl, Nat.le_of_ble_eq_true rfl⟩) ⟨kb_blind, kb_pre hPc hDc hK hN⟩ rfl rfl hl.1 rfl (lv_room (Nat.le_of_ble_eq_true rfl)) dX5_canDo_54 ⟨Nat.le_refl _, Nat.le_refl _⟩) hP hD hS hA [] rfl (fun H locs hn7 hP hS => ?_)
      refine lv_iconst (v := (-1)) hx hb dX5_canDo_57 (by decide) ?_
      refine lv_icmp_ne (tgt := 65) hx hb dX5_canDo_58 (by decide) (fun c8 => ?_) (fun c8 => ?_)
      · rw [if_neg c8] at hf
        refine lv_iconst (v := 0) hx hb dX5_canDo_65 (by decide) ?_
        obtain rfl := Option.some.inj hf
        exact hend _ _ _ _ rfl hP hS dX5_canDo_66
      · rw [if_pos c8] at hf
        refine lv_iconst (v := 1) hx hb dX5_canDo_61 (by decide) ?_
        refine lv_goto (tgt := 66) hx hb dX5_canDo_62 (by decide) ?_
        obtain rfl := Option.some.inj hf
        exact hend _ _ _ _ rfl hP hS dX5_canDo_66
    rw [if_neg c5_0] at hf
    by_cases c5_1 : (f6_kind q1) = 5
    · rw [if_pos c5_1] at hf
      refine lv_lookup (tgt := 67) (off := 46) hx hb dX5_canDo_21 (by decide) (by rw [c5_1]; decide) (by decide) ?_
      refine lv_lload_n hx hb dX5_canDo_67 rfl (lv_at hl 2 rfl) ?_
      refine lv_iload hx hb dX5_canDo_68 (lv_at hl 0 rfl) ?_
      have hPc : va_P D vwCl ([]) H := hP.sub [] rfl
      have hDc : va_D A ([]) := hD.sub [] (by decide) rfl
      refine kd_iR (va_runS (As := [.int q1]) (rest := [.long x1]) ⟨hx, hb, hml, hown, hts⟩ (c6_target l D cB cI cZ cO h H.size q1 (f6_target q1) rfl) (va_cwS 1 hts gX5_canDo_X6_target rfl rfl rfl (by decide +kernel) ⟨Nat.le_of_ble_eq_true rfl, Nat.le_of_ble_eq_true rfl⟩) ⟨kb_blind, kb_pre hPc hDc hK hN⟩ rfl rfl hl.1 rfl (lv_room (Nat.le_of_ble_eq_true rfl)) dX5_canDo_70 ⟨Nat.le_refl _, Nat.le_refl _⟩) hP hD hS hA [] rfl (fun H locs hn9 hP hS => ?_)
      have hPc : va_P D vwCl ([]) H := hP.sub [] rfl
      have hDc : va_D A ([]) := hD.sub [] (by decide) rfl
      refine kd_iR (va_runS (As := [.long x1, .int (f6_target q1)]) (rest := []) ⟨hx, hb, hml, hown, hts⟩ (c2_holderOf l D cB cI cZ cO h H.size x1 (f6_target q1) (f2_holderOf x1 (f6_target q1)) rfl) (va_cwS 2 hts gX5_canDo_X2_holderOf rfl rfl rfl (by decide +kernel) ⟨Nat.le_of_ble_eq_true rfl, Nat.le_of_ble_eq_true rfl⟩) ⟨kb_blind, kb_pre hPc hDc hK hN⟩ rfl rfl hl.1 rfl (lv_room (Nat.le_of_ble_eq_true rfl)) dX5_canDo_73 ⟨Nat.le_refl _, Nat.le_refl _⟩) hP hD hS hA [] rfl (fun H locs hn10 hP hS => ?_)
      refine lv_iload_n hx hb dX5_canDo_76 rfl (lv_at hl 3 rfl) ?_
      refine lv_icmp_ne (tgt := 84) hx hb dX5_canDo_77 (by decide) (fun c11 => ?_) (fun c11 => ?_)
      · rw [if_neg c11] at hf
        refine lv_iconst (v := 0) hx hb dX5_canDo_84 (by decide) ?_
        obtain rfl := Option.some.inj hf
        exact hend _ _ _ _ rfl hP hS dX5_canDo_85
      · rw [if_pos c11] at hf
        refine lv_iconst (v := 1) hx hb dX5_canDo_80 (by decide) ?_
        refine lv_goto (tgt := 85) hx hb dX5_canDo_81 (by decide) ?_
        obtain rfl := Option.some.inj hf
        exact hend _ _ _ _ rfl hP hS dX5_canDo_85
    rw [if_neg c5_1] at hf
    refine lv_lookup (tgt := 86) (off := 65) hx hb dX5_canDo_21 (by decide) (show Op.lookupswitch.offset [(4, 27), (5, 46)] 65 _ = 65 from ((lv_osw (a := 4) c5_0 rfl).trans ((lv_osw (a := 5) c5_1 rfl).trans rfl))) (by decide) ?_
    refine lv_iconst (v := 1) hx hb dX5_canDo_86 (by decide) ?_
    obtain rfl := Option.some.inj hf
    exact hend _ _ _ _ rfl hP hS dX5_canDo_87
  · rw [if_pos c3] at hf
    refine lv_iconst (v := 0) hx hb dX5_canDo_14 (by decide) ?_
    obtain rfl := Option.some.inj hf
    exact hend _ _ _ _ rfl hP hS dX5_canDo_15

set_option maxHeartbeats 4000000 in
set_option maxRecDepth 100000 in
theorem c5_ableBits (l : Launch) (D : va_G) (cB cI cZ cO : ClassId) (h : Nat → Nat) (o : Nat) (sz : Nat) (x1 : Int64) (v_u : sT) (r0 : Int32) (hf : f5_ableBits v_u x1 = some r0) : Met l yX5_ableBits wsX5_ableBits rm5_ableBits (va_Pc [.ref (h o), .long x1] (kb_B D (ka_tys cB cI cZ cO) sz (wdS cI h o v_u))) (va_Qi (kb_post .int r0) (fun _ t => va_P D vwCl (wdS cI h o v_u) t.heap) (va_A (wdS cI h o v_u) sz)) 0 0 (va_A (wdS cI h o v_u) sz) := by
  refine kb_metZ (cc := cX5_ableBits) (maxL := 5) (ty := .int) (by decide) rfl (Nat.le_of_ble_eq_true rfl) ?_
  intro p e s m args below meth c Q A ls H hx hb hml hown hts hK hN hP hD hS hA hl hend
  have hown : s.vm.findClass RX5 = some m.cls := hown
  have hl : lv_has ls 5 [(0, .ref (h o)), (1, .long x1)] := hl
  have J34 : ∀ (x3 : Int32) (H : Heap) (locs : List Loc) (ls : Array Slot), f5_ableBits_b34 v_u x3 = some r0 → va_P D vwCl (wdS cI h o v_u) H → va_D A (wdS cI h o v_u) → va_S A s.heap H locs → lv_has ls 5 [(3, .int x3)] → W p l e rm5_ableBits s m args below meth c H locs 0 0 Q (F0 m 34 ls []) := by
    intro x3 H locs ls hf hP hD hS hl
    rw [f5_ableBits_b34] at hf
    refine lv_iload_n hx hb dX5_ableBits_34 rfl (lv_at hl 0 rfl) ?_
    obtain rfl := Option.some.inj hf
    exact hend _ _ _ _ rfl hP hS dX5_ableBits_35
  have J5 : ∀ (n : Nat) (x1 : Int64) (x3 : Int32) (x4 : Int32) (H : Heap) (locs : List Loc) (ls : Array Slot), f5_ableBits_l5 n v_u x1 x3 x4 = some r0 → va_P D vwCl (wdS cI h o v_u) H → va_D A (wdS cI h o v_u) → va_S A s.heap H locs → lv_has ls 5 [(0, .ref (h o)), (1, .long x1), (3, .int x3), (4, .int x4)] → W p l e rm5_ableBits s m args below meth c H locs 0 0 Q (F0 m 5 ls []) := by
    intro n
    induction n with
    | zero =>
      intro x1 x3 x4 H locs ls hf
      cases (show (none : Option (Int32)) = some r0 from hf)
    | succ n ih =>
      have J28 : ∀ (x1 : Int64) (x3 : Int32) (x4 : Int32) (H : Heap) (locs : List Loc) (ls : Array Slot), f5_ableBits_b28 (f5_ableBits_l5 n) v_u x1 x3 x4 = some r0 → va_P D vwCl (wdS cI h o v_u) H → va_D A (wdS cI h o v_u) → va_S A s.heap H locs → lv_has ls 5 [(0, .ref (h o)), (1, .long x1), (3, .int x3), (4, .int x4)] → W p l e rm5_ableBits s m args below meth c H locs 0 0 Q (F0 m 28 ls []) := by
        intro x1 x3 x4 H locs ls hf hP hD hS hl
        rw [f5_ableBits_b28] at hf
        refine lv_iinc (v := (x4 + 1)) (lv' := [(4, .int (x4 + 1)), (0, .ref (h o)), (1, .long x1), (3, .int x3)]) hx hb dX5_ableBits_28 hl (k := 3) rfl rfl (by decide) rfl (fun ls hl => ?_)
        refine lv_goto (tgt := 5) hx hb dX5_ableBits_31 (by decide) ?_
        exact ih x1 x3 (x4 + 1) _ _ _ hf hP hD hS (lv_sub hl [1, 2, 3, 0] rfl)
      intro x1 x3 x4 H locs ls hf hP hD hS hl
      rw [f5_ableBits_l5_s] at hf
      refine lv_iload hx hb dX5_ableBits_5 (lv_at hl 3 rfl) ?_
      refine lv_iconst (v := 3) hx hb dX5_ableBits_7 (by decide) ?_
      refine lv_icmp_ge (tgt := 34) hx hb dX5_ableBits_8 (by decide) (fun c5 => ?_) (fun c5 => ?_)
      · rw [if_pos c5] at hf
        exact J34 x3 _ _ _ hf hP hD hS (lv_sub hl [2] rfl)
      · rw [if_neg c5] at hf
        refine lv_aload_n hx hb dX5_ableBits_11 rfl (lv_at hl 0 rfl) ?_
        refine lv_lload_n hx hb dX5_ableBits_12 rfl (lv_at hl 1 rfl) ?_
        refine lv_iload hx hb dX5_ableBits_13 (lv_at hl 3 rfl) ?_
        refine kb_bind hf (fun q6 hq6 hf => ?_)
        have hPc : va_P D vwCl (wdS cI h o v_u) H := hP.sub [0, 1, 2] rfl
        have hDc : va_D A (wdS cI h o v_u) := hD.sub [0, 1, 2] (by decide) rfl
        refine kd_iR (va_runV (As := [.long x1, .int x4]) (rest := []) ⟨hx, hb, hml, hown, hts⟩ (c5_canDo l D cB cI cZ cO h o H.size x1 x4 v_u q6 hq6) (cwV 2 hts gX5_ableBits_X5_canDo rfl rfl rfl (by decide +kernel) ⟨Nat.le_of_ble_eq_true rfl, Nat.le_of_ble_eq_true rfl⟩) ⟨kb_blind, va_recv hK hPc (ci := 3) (q0 := 0) rfl rfl, kb_pre hPc hDc hK hN⟩ rfl rfl hl.1 rfl (lv_room (Nat.le_of_ble_eq_true rfl)) dX5_ableBits_15 ⟨Nat.le_refl _, Nat.le_refl _⟩) hP hD hS hA [0, 1, 2] rfl (fun H locs hn7 hP hS => ?_)
        refine lv_if_eq (tgt := 28) hx hb dX5_ableBits_18 (by decide) (fun c8 => ?_) (fun c8 => ?_)
        · rw [if_pos c8] at hf
          exact J28 x1 x3 x4 _ _ _ hf hP hD hS (lv_sub hl [0, 1, 2, 3] rfl)
        · rw [if_neg c8] at hf
          refine lv_iload_n hx hb dX5_ableBits_21 rfl (lv_at hl 2 rfl) ?_
          refine lv_iconst (v := 1) hx hb dX5_ableBits_22 (by decide) ?_
          refine lv_iload hx hb dX5_ableBits_23 (lv_at hl 3 rfl) ?_
          refine lv_ishl hx hb dX5_ableBits_25 ?_
          refine lv_ior hx hb dX5_ableBits_26 ?_
          refine lv_istore_n (lv' := [(3, .int (x3 ||| ((1 : Int32) <<< (x4 &&& 31)))), (0, .ref (h o)), (1, .long x1), (4, .int x4)]) hx hb dX5_ableBits_27 rfl hl (by decide) rfl (fun ls hl => ?_)
          exact J28 x1 (x3 ||| ((1 : Int32) <<< (x4 &&& 31))) x4 _ _ _ hf hP hD hS (lv_sub hl [1, 2, 0, 3] rfl)
  rw [f5_ableBits] at hf
  refine lv_iconst (v := 0) hx hb dX5_ableBits_0 (by decide) ?_
  refine lv_istore_n (lv' := [(3, .int (0 : Int32)), (0, .ref (h o)), (1, .long x1)]) hx hb dX5_ableBits_1 rfl hl (by decide) rfl (fun ls hl => ?_)
  refine lv_iconst (v := 0) hx hb dX5_ableBits_2 (by decide) ?_
  refine lv_istore (lv' := [(4, .int (0 : Int32)), (3, .int (0 : Int32)), (0, .ref (h o)), (1, .long x1)]) hx hb dX5_ableBits_3 hl (by decide) rfl (fun ls hl => ?_)
  exact J5 kFUEL x1 (0 : Int32) (0 : Int32) _ _ _ hf hP hD hS (lv_sub hl [2, 3, 1, 0] rfl)

set_option maxHeartbeats 4000000 in
set_option maxRecDepth 100000 in
theorem c5_momentBehind (l : Launch) (D : va_G) (cB cI cZ cO : ClassId) (h : Nat → Nat) (o : Nat) (sz : Nat) (x1 : Int32) (v_u : sT) (r0 : Int64) (hf : f5_momentBehind v_u x1 = some r0) : Met l yX5_momentBehind wsX5_momentBehind rm5_momentBehind (va_Pc [.ref (h o), .int x1] (kb_B D (ka_tys cB cI cZ cO) sz (wdS cI h o v_u))) (va_Ql (fun r (_ : Unit) => r = r0) (fun _ t => va_P D vwCl (wdS cI h o v_u) t.heap) (va_A (wdS cI h o v_u) sz)) 0 0 (va_A (wdS cI h o v_u) sz) := by
  refine kb_metL (cc := cX5_momentBehind) (maxL := 5) (by decide) rfl (Nat.le_of_ble_eq_true rfl) ?_
  intro p e s m args below meth c Q A ls H hx hb hml hown hts hK hN hP hD hS hA hl hend
  have hown : s.vm.findClass RX5 = some m.cls := hown
  have hl : lv_has ls 5 [(0, .ref (h o)), (1, .int x1)] := hl
  have hin5 : ∀ w ∈ u_ws RX5 TX5 5, w ∈ wsX5_momentBehind := by decide +kernel
  have J35 : ∀ (x2 : Int64) (H : Heap) (locs : List Loc) (ls : Array Slot), f5_momentBehind_b35 v_u x2 = some r0 → va_P D vwCl (wdS cI h o v_u) H → va_D A (wdS cI h o v_u) → va_S A s.heap H locs → lv_has ls 5 [(2, .long x2)] → W p l e rm5_momentBehind s m args below meth c H locs 0 0 Q (F0 m 35 ls []) := by
    intro x2 H locs ls hf hP hD hS hl
    rw [f5_momentBehind_b35] at hf
    refine lv_lload_n hx hb dX5_momentBehind_35 rfl (lv_at hl 0 rfl) ?_
    obtain rfl := Option.some.inj hf
    exact hend _ _ _ _ hP hS dX5_momentBehind_36
  have J8 : ∀ (n : Nat) (x1 : Int32) (x2 : Int64) (x4 : Int32) (H : Heap) (locs : List Loc) (ls : Array Slot), f5_momentBehind_l8 n v_u x1 x2 x4 = some r0 → va_P D vwCl (wdS cI h o v_u) H → va_D A (wdS cI h o v_u) → va_S A s.heap H locs → lv_has ls 5 [(0, .ref (h o)), (1, .int x1), (2, .long x2), (4, .int x4)] → W p l e rm5_momentBehind s m args below meth c H locs 0 0 Q (F0 m 8 ls []) := by
    intro n
    induction n with
    | zero =>
      intro x1 x2 x4 H locs ls hf
      cases (show (none : Option (Int64)) = some r0 from hf)
    | succ n ih =>
      intro x1 x2 x4 H locs ls hf hP hD hS hl
      rw [f5_momentBehind_l8_s] at hf
      refine lv_iload hx hb dX5_momentBehind_8 (lv_at hl 3 rfl) ?_
      refine lv_iload_n hx hb dX5_momentBehind_10 rfl (lv_at hl 1 rfl) ?_
      have hPc : va_P D vwCl ([]) H := hP.sub [] rfl
      have hDc : va_D A ([]) := hD.sub [] (by decide) rfl
      refine kd_iR (va_runS (As := [.int x1]) (rest := [.int x4]) ⟨hx, hb, hml, hown, hts⟩ (c4_length l D cB cI cZ cO h H.size x1 (f4_length x1) rfl) (va_cwS 1 hts gX5_momentBehind_X4_length rfl rfl rfl (by decide +kernel) ⟨Nat.le_of_ble_eq_true rfl, Nat.le_of_ble_eq_true rfl⟩) ⟨kb_blind, kb_pre hPc hDc hK hN⟩ rfl rfl hl.1 rfl (lv_room (Nat.le_of_ble_eq_true rfl)) dX5_momentBehind_11 ⟨Nat.le_refl _, Nat.le_refl _⟩) hP hD hS hA [] rfl (fun H locs hn5 hP hS => ?_)
      refine lv_icmp_ge (tgt := 35) hx hb dX5_momentBehind_14 (by decide) (fun c6 => ?_) (fun c6 => ?_)
      · rw [if_pos c6] at hf
        exact J35 x2 _ _ _ hf hP hD hS (lv_sub hl [2] rfl)
      · rw [if_neg c6] at hf
        refine lv_aload_n hx hb dX5_momentBehind_17 rfl (lv_at hl 0 rfl) ?_
        refine lv_lload_n hx hb dX5_momentBehind_18 rfl (lv_at hl 2 rfl) ?_
        refine lv_iload_n hx hb dX5_momentBehind_19 rfl (lv_at hl 1 rfl) ?_
        refine lv_iload hx hb dX5_momentBehind_20 (lv_at hl 3 rfl) ?_
        have hPc : va_P D vwCl ([]) H := hP.sub [] rfl
        have hDc : va_D A ([]) := hD.sub [] (by decide) rfl
        refine kd_iR (va_runS (As := [.int x1, .int x4]) (rest := [.long x2, .ref (h o)]) ⟨hx, hb, hml, hown, hts⟩ (c4_threadAt l D cB cI cZ cO h H.size x1 x4 (f4_threadAt x1 x4) rfl) (va_cwS 2 hts gX5_momentBehind_X4_threadAt rfl rfl rfl (by decide +kernel) ⟨Nat.le_of_ble_eq_true rfl, Nat.le_of_ble_eq_true rfl⟩) ⟨kb_blind, kb_pre hPc hDc hK hN⟩ rfl rfl hl.1 rfl (lv_room (Nat.le_of_ble_eq_true rfl)) dX5_momentBehind_22 ⟨Nat.le_refl _, Nat.le_refl _⟩) hP hD hS hA [] rfl (fun H locs hn7 hP hS => ?_)
        refine kb_bind hf (fun q8 hq8 hf => ?_)
        have hPc : va_P D vwCl (wdS cI h o v_u) H := hP.sub [0, 1, 2] rfl
        have hDc : va_D A (wdS cI h o v_u) := hD.sub [0, 1, 2] (by decide) rfl
        refine kd_lR (va_runV (As := [.long x2, .int (f4_threadAt x1 x4)]) (rest := []) ⟨hx, hb, hml, hown, hts⟩ (c5_stepDone l D cB cI cZ cO h o H.size x2 (f4_threadAt x1 x4) v_u q8 hq8) (cwV 2 hts gX5_momentBehind_X5_stepDone rfl rfl rfl (by decide +kernel) ⟨Nat.le_of_ble_eq_true rfl, Nat.le_of_ble_eq_true rfl⟩) ⟨kb_blind, va_recv hK hPc (ci := 3) (q0 := 0) rfl rfl, kb_pre hPc hDc hK hN⟩ rfl rfl hl.1 rfl (lv_room (Nat.le_of_ble_eq_true rfl)) dX5_momentBehind_25 ⟨Nat.le_refl _, Nat.le_refl _⟩) hP hD hS hA [0, 1, 2] rfl (fun H locs hP hS => ?_)
        refine lv_lstore_n (lv' := [(2, .long q8), (0, .ref (h o)), (1, .int x1), (4, .int x4)]) hx hb dX5_momentBehind_28 rfl hl (by decide) rfl (fun ls hl => ?_)
        refine lv_iinc (v := (x4 + 1)) (lv' := [(4, .int (x4 + 1)), (2, .long q8), (0, .ref (h o)), (1, .int x1)]) hx hb dX5_momentBehind_29 hl (k := 3) rfl rfl (by decide) rfl (fun ls hl => ?_)
        refine lv_goto (tgt := 8) hx hb dX5_momentBehind_32 (by decide) ?_
        exact ih x1 q8 (x4 + 1) _ _ _ hf hP hD hS (lv_sub hl [2, 3, 1, 0] rfl)
  rw [f5_momentBehind] at hf
  refine lv_aload_n hx hb dX5_momentBehind_0 rfl (lv_at hl 0 rfl) ?_
  refine va_get (D := D) (cl := vwCl) (ci := 3) (v := .long v_u.2.2.1) (C := RX5) (T := TX5) (N := 5) hx hb hts hin5 hown hK hP 0 rfl rfl 2 (by decide) (hts (.fieldLink RX5 24 "StepOrders$State" "beginning" "J") (by decide +kernel)) (fun _ h9 => h9) rfl dX5_momentBehind_1 ?_
  refine lv_lstore_n (lv' := [(2, .long v_u.2.2.1), (0, .ref (h o)), (1, .int x1)]) hx hb dX5_momentBehind_4 rfl hl (by decide) rfl (fun ls hl => ?_)
  refine lv_iconst (v := 0) hx hb dX5_momentBehind_5 (by decide) ?_
  refine lv_istore (lv' := [(4, .int (0 : Int32)), (2, .long v_u.2.2.1), (0, .ref (h o)), (1, .int x1)]) hx hb dX5_momentBehind_6 hl (by decide) rfl (fun ls hl => ?_)
  exact J8 kFUEL x1 v_u.2.2.1 (0 : Int32) _ _ _ hf hP hD hS (lv_sub hl [2, 3, 1, 0] rfl)
