set_option maxHeartbeats 4000000 in
set_option maxRecDepth 100000 in
theorem c3_size (l : Launch) (D : va_G) (cB cI cZ cO : ClassId) (h : Nat → Nat) (o : Nat) (sz : Nat) (v_kept : Nat → sT) (v_oldest : Int32) (v_size : Int32) (r0 : Int32) (hf : f3_size v_size = r0) : Met l yX3_size wsX3_size rm3_size (va_Pc [.ref (h o)] (kb_B D (ka_tys cB cI cZ cO) sz (wdP cI cO h o v_kept v_oldest v_size))) (va_Qi (kb_post .int r0) (fun _ t => va_P D vwCl (wdP cI cO h o v_kept v_oldest v_size) t.heap) (va_A (wdP cI cO h o v_kept v_oldest v_size) sz)) 0 0 (va_A (wdP cI cO h o v_kept v_oldest v_size) sz) := by
  refine kb_metZ (cc := cX3_size) (maxL := 1) (ty := .int) (by decide) rfl (Nat.le_of_ble_eq_true rfl) ?_
  intro p e s m args below meth c Q A ls H hx hb hml hown hts hK hN hP hD hS hA hl hend
  have hown : s.vm.findClass RX3 = some m.cls := hown
  have hl : lv_has ls 1 [(0, .ref (h o))] := hl
  have hin3 : ∀ w ∈ u_ws RX3 TX3 3, w ∈ wsX3_size := by decide +kernel
  rw [f3_size] at hf
  refine lv_aload_n hx hb dX3_size_0 rfl (lv_at hl 0 rfl) ?_
  refine va_get (D := D) (cl := vwCl) (ci := 2) (v := .int v_size) (C := RX3) (T := TX3) (N := 3) hx hb hts hin3 hown hK hP 0 rfl rfl 2 (by decide) (hts (.fieldLink RX3 18 "StepOrders$Past" "size" "I") (by decide +kernel)) (fun _ h9 => h9) rfl dX3_size_1 ?_
  subst hf
  exact hend _ _ _ _ rfl hP hS dX3_size_4

set_option maxHeartbeats 4000000 in
set_option maxRecDepth 100000 in
theorem c3_keep (l : Launch) (D : va_G) (cB cI cZ cO : ClassId) (h : Nat → Nat) (o : Nat) (o2 : Nat) (sz : Nat) (v_kept : Nat → sT) (v_oldest : Int32) (v_size : Int32) (w_u : sT) (v_kept' : Nat → sT) (v_oldest' : Int32) (v_size' : Int32) (hf : f3_keep v_kept v_oldest v_size w_u = some (v_kept', v_oldest', v_size')) : Met l yX3_keep wsX3_keep rm3_keep (va_Pc [.ref (h o), .ref (h o2)] (kb_B D (ka_tys cB cI cZ cO) sz (wdP cI cO h o v_kept v_oldest v_size ++ wdS cI h o2 w_u))) (va_Qv (fun (_ : Unit) => True) (fun _ t => va_P D vwCl (wdP cI cO h o (v_kept') (v_oldest') (v_size') ++ wdS cI h o2 w_u) t.heap) (va_A (wdP cI cO h o v_kept v_oldest v_size ++ wdS cI h o2 w_u) sz)) 0 0 (va_A (wdP cI cO h o v_kept v_oldest v_size ++ wdS cI h o2 w_u) sz) := by
  refine kb_metV (cc := cX3_keep) (maxL := 2) (by decide) rfl (Nat.le_of_ble_eq_true rfl) ?_
  intro p e s m args below meth c Q A ls H hx hb hml hown hts hK hN hP hD hS hA hl hend
  have hown : s.vm.findClass RX3 = some m.cls := hown
  have hl : lv_has ls 2 [(0, .ref (h o)), (1, .ref (h o2))] := hl
  have hin3 : ∀ w ∈ u_ws RX3 TX3 3, w ∈ wsX3_keep := by decide +kernel
  rw [f3_keep] at hf
  refine lv_aload_n hx hb dX3_keep_0 rfl (lv_at hl 0 rfl) ?_
  refine va_get (D := D) (cl := vwCl) (ci := 2) (v := .ref (h (o + 1))) (C := RX3) (T := TX3) (N := 3) hx hb hts hin3 hown hK hP 0 rfl rfl 0 (by decide) (hts (.fieldLink RX3 11 "StepOrders$Past" "kept" "[LStepOrders$State;") (by decide +kernel)) (fun _ h9 => h9) rfl dX3_keep_1 ?_
  refine lv_aload_n hx hb dX3_keep_4 rfl (lv_at hl 0 rfl) ?_
  refine va_get (D := D) (cl := vwCl) (ci := 2) (v := .int v_oldest) (C := RX3) (T := TX3) (N := 3) hx hb hts hin3 hown hK hP 0 rfl rfl 1 (by decide) (hts (.fieldLink RX3 22 "StepOrders$Past" "oldest" "I") (by decide +kernel)) (fun _ h9 => h9) rfl dX3_keep_5 ?_
  refine lv_aload_n hx hb dX3_keep_8 rfl (lv_at hl 0 rfl) ?_
  refine va_get (D := D) (cl := vwCl) (ci := 2) (v := .int v_size) (C := RX3) (T := TX3) (N := 3) hx hb hts hin3 hown hK hP 0 rfl rfl 2 (by decide) (hts (.fieldLink RX3 18 "StepOrders$Past" "size" "I") (by decide +kernel)) (fun _ h9 => h9) rfl dX3_keep_9 ?_
  refine lv_iadd hx hb dX3_keep_12 ?_
  refine lv_iconst (v := 5) hx hb dX3_keep_13 (by decide) ?_
  refine lv_irem hx hb dX3_keep_14 (by decide) ?_
  refine kb_bind hf (fun j1 hj1 hf => ?_)
  refine va_aldq (D := D) (cl := vwCl) hx hb hK hP 1 3 (f := ka_kept h o) rfl rfl (aidx_in hj1) dX3_keep_15 ?_
  rw [aidx_v hj1]
  have hlt1 := aidx_lt hj1
  have hcs1 : j1 = 0 ∨ j1 = 1 ∨ j1 = 2 ∨ j1 = 3 ∨ j1 = 4 := by omega
  rcases hcs1 with rfl | rfl | rfl | rfl | rfl
  · refine W.eq (g2 := F0 m 16 ls [.ref (h (o + 2))]) rfl ?_
    refine lv_aload_n hx hb dX3_keep_16 rfl (lv_at hl 1 rfl) ?_
    refine kb_bind hf (fun q2 hq2 hf => ?_)
    have hPc : va_P D vwCl (wdS cI h (o + 2) (v_kept 0) ++ wdS cI h o2 w_u) H := hP.sub [2, 3, 4, 17, 18, 19] rfl
    have hDc : va_D A (wdS cI h (o + 2) (v_kept 0) ++ wdS cI h o2 w_u) := hD.sub [2, 3, 4, 17, 18, 19] (by decide) rfl
    refine kd_vW (ws' := wdP cI cO h o (updS v_kept 0 q2) v_oldest v_size ++ wdS cI h o2 w_u) (va_runV (As := [.ref (h o2)]) (rest := []) ⟨hx, hb, hml, hown, hts⟩ (c5_takeFrom l D cB cI cZ cO h (o + 2) o2 H.size (v_kept 0) w_u q2 hq2) (cwV 1 hts gX3_keep_X5_takeFrom rfl rfl rfl (by decide +kernel) ⟨Nat.le_of_ble_eq_true rfl, Nat.le_of_ble_eq_true rfl⟩) ⟨kb_blind, va_recv hK hPc (ci := 3) (q0 := 0) rfl rfl, kb_pre hPc hDc hK hN⟩ rfl rfl hl.1 rfl (lv_room (Nat.le_of_ble_eq_true rfl)) dX3_keep_17 ⟨Nat.le_refl _, Nat.le_refl _⟩) hP hD hS hA [2, 3, 4, 17, 18, 19] [0, 1, 5, 6, 7, 8, 9, 10, 11, 12, 13, 14, 15, 16] rfl rfl (List.forall_mem_cons.mpr ⟨rfl, (List.forall_mem_cons.mpr ⟨rfl, (List.forall_mem_cons.mpr ⟨rfl, (List.forall_mem_cons.mpr ⟨rfl, (List.forall_mem_cons.mpr ⟨rfl, (List.forall_mem_cons.mpr ⟨rfl, (List.forall_mem_cons.mpr ⟨rfl, (List.forall_mem_cons.mpr ⟨rfl, (List.forall_mem_cons.mpr ⟨rfl, (List.forall_mem_cons.mpr ⟨rfl, (List.forall_mem_cons.mpr ⟨rfl, (List.forall_mem_cons.mpr ⟨rfl, (List.forall_mem_cons.mpr ⟨rfl, (List.forall_mem_cons.mpr ⟨rfl, (fun _ h9 => absurd h9 List.not_mem_nil)⟩)⟩)⟩)⟩)⟩)⟩)⟩)⟩)⟩)⟩)⟩)⟩)⟩)⟩) rfl rfl (fun H locs hP hD hS => ?_)
    refine lv_aload_n hx hb dX3_keep_20 rfl (lv_at hl 0 rfl) ?_
    refine va_get (D := D) (cl := vwCl) (ci := 2) (v := .int v_size) (C := RX3) (T := TX3) (N := 3) hx hb hts hin3 hown hK hP 0 rfl rfl 2 (by decide) (hts (.fieldLink RX3 18 "StepOrders$Past" "size" "I") (by decide +kernel)) (fun _ h9 => h9) rfl dX3_keep_21 ?_
    refine lv_iconst (v := 5) hx hb dX3_keep_24 (by decide) ?_
    refine lv_icmp_ge (tgt := 41) hx hb dX3_keep_25 (by decide) (fun c3 => ?_) (fun c3 => ?_)
    · rw [if_pos c3] at hf
      refine lv_aload_n hx hb dX3_keep_41 rfl (lv_at hl 0 rfl) ?_
      refine lv_aload_n hx hb dX3_keep_42 rfl (lv_at hl 0 rfl) ?_
      refine va_get (D := D) (cl := vwCl) (ci := 2) (v := .int v_oldest) (C := RX3) (T := TX3) (N := 3) hx hb hts hin3 hown hK hP 0 rfl rfl 1 (by decide) (hts (.fieldLink RX3 22 "StepOrders$Past" "oldest" "I") (by decide +kernel)) (fun _ h9 => h9) rfl dX3_keep_43 ?_
      refine lv_iconst (v := 1) hx hb dX3_keep_46 (by decide) ?_
      refine lv_iadd hx hb dX3_keep_47 ?_
      refine lv_iconst (v := 5) hx hb dX3_keep_48 (by decide) ?_
      refine lv_irem hx hb dX3_keep_49 (by decide) ?_
      refine va_put (D := D) (cl := vwCl) (ci := 2) (v := .int ((v_oldest + (1 : Int32)) - (v_oldest + (1 : Int32)) / (5 : Int32) * (5 : Int32))) (ty := .int) (C := RX3) (T := TX3) (N := 3) hx hb hts hin3 tyX3 tyX3_ok nmX3 hown hK hP hD hS 0 rfl rfl 1 (by decide) (hts (.fieldLink RX3 22 "StepOrders$Past" "oldest" "I") (by decide +kernel)) (fun _ h9 => h9) rfl (tyX3_ok 1 (by decide)) rfl rfl (Nat.le_of_ble_eq_true rfl) dX3_keep_50 (fun H locs hP hD hS => ?_)
      have hP : va_P D vwCl (wdP cI cO h o (updS v_kept 0 q2) ((v_oldest + (1 : Int32)) - (v_oldest + (1 : Int32)) / (5 : Int32) * (5 : Int32)) v_size ++ wdS cI h o2 w_u) H := hP
      have hD : va_D A (wdP cI cO h o (updS v_kept 0 q2) ((v_oldest + (1 : Int32)) - (v_oldest + (1 : Int32)) / (5 : Int32) * (5 : Int32)) v_size ++ wdS cI h o2 w_u) := hD
      obtain ⟨z1, y1⟩ := Prod.mk.inj (Option.some.inj hf)
      obtain ⟨z2, y2⟩ := Prod.mk.inj y1
      subst z1 z2 y2
      exact hend _ _ _ _ hP hS dX3_keep_53
    · rw [if_neg c3] at hf
      refine lv_aload_n hx hb dX3_keep_28 rfl (lv_at hl 0 rfl) ?_
      refine lv_dup hx hb dX3_keep_29 rfl ?_
      refine va_get (D := D) (cl := vwCl) (ci := 2) (v := .int v_size) (C := RX3) (T := TX3) (N := 3) hx hb hts hin3 hown hK hP 0 rfl rfl 2 (by decide) (hts (.fieldLink RX3 18 "StepOrders$Past" "size" "I") (by decide +kernel)) (fun _ h9 => h9) rfl dX3_keep_30 ?_
      refine lv_iconst (v := 1) hx hb dX3_keep_33 (by decide) ?_
      refine lv_iadd hx hb dX3_keep_34 ?_
      refine va_put (D := D) (cl := vwCl) (ci := 2) (v := .int (v_size + (1 : Int32))) (ty := .int) (C := RX3) (T := TX3) (N := 3) hx hb hts hin3 tyX3 tyX3_ok nmX3 hown hK hP hD hS 0 rfl rfl 2 (by decide) (hts (.fieldLink RX3 18 "StepOrders$Past" "size" "I") (by decide +kernel)) (fun _ h9 => h9) rfl (tyX3_ok 2 (by decide)) rfl rfl (Nat.le_of_ble_eq_true rfl) dX3_keep_35 (fun H locs hP hD hS => ?_)
      have hP : va_P D vwCl (wdP cI cO h o (updS v_kept 0 q2) v_oldest (v_size + (1 : Int32)) ++ wdS cI h o2 w_u) H := hP
      have hD : va_D A (wdP cI cO h o (updS v_kept 0 q2) v_oldest (v_size + (1 : Int32)) ++ wdS cI h o2 w_u) := hD
      refine lv_goto (tgt := 53) hx hb dX3_keep_38 (by decide) ?_
      obtain ⟨z1, y1⟩ := Prod.mk.inj (Option.some.inj hf)
      obtain ⟨z2, y2⟩ := Prod.mk.inj y1
      subst z1 z2 y2
      exact hend _ _ _ _ hP hS dX3_keep_53
  · refine W.eq (g2 := F0 m 16 ls [.ref (h (o + 5))]) rfl ?_
    refine lv_aload_n hx hb dX3_keep_16 rfl (lv_at hl 1 rfl) ?_
    refine kb_bind hf (fun q2 hq2 hf => ?_)
    have hPc : va_P D vwCl (wdS cI h (o + 5) (v_kept 1) ++ wdS cI h o2 w_u) H := hP.sub [5, 6, 7, 17, 18, 19] rfl
    have hDc : va_D A (wdS cI h (o + 5) (v_kept 1) ++ wdS cI h o2 w_u) := hD.sub [5, 6, 7, 17, 18, 19] (by decide) rfl
    refine kd_vW (ws' := wdP cI cO h o (updS v_kept 1 q2) v_oldest v_size ++ wdS cI h o2 w_u) (va_runV (As := [.ref (h o2)]) (rest := []) ⟨hx, hb, hml, hown, hts⟩ (c5_takeFrom l D cB cI cZ cO h (o + 5) o2 H.size (v_kept 1) w_u q2 hq2) (cwV 1 hts gX3_keep_X5_takeFrom rfl rfl rfl (by decide +kernel) ⟨Nat.le_of_ble_eq_true rfl, Nat.le_of_ble_eq_true rfl⟩) ⟨kb_blind, va_recv hK hPc (ci := 3) (q0 := 0) rfl rfl, kb_pre hPc hDc hK hN⟩ rfl rfl hl.1 rfl (lv_room (Nat.le_of_ble_eq_true rfl)) dX3_keep_17 ⟨Nat.le_refl _, Nat.le_refl _⟩) hP hD hS hA [5, 6, 7, 17, 18, 19] [0, 1, 2, 3, 4, 8, 9, 10, 11, 12, 13, 14, 15, 16] rfl rfl (List.forall_mem_cons.mpr ⟨rfl, (List.forall_mem_cons.mpr ⟨rfl, (List.forall_mem_cons.mpr ⟨rfl, (List.forall_mem_cons.mpr ⟨rfl, (List.forall_mem_cons.mpr ⟨rfl, (List.forall_mem_cons.mpr ⟨rfl, (List.forall_mem_cons.mpr ⟨rfl, (List.forall_mem_cons.mpr ⟨rfl, (List.forall_mem_cons.mpr ⟨rfl, (List.forall_mem_cons.mpr ⟨rfl, (List.forall_mem_cons.mpr ⟨rfl, (List.forall_mem_cons.mpr ⟨rfl, (List.forall_mem_cons.mpr ⟨rfl, (List.forall_mem_cons.mpr ⟨rfl, (fun _ h9 => absurd h9 List.not_mem_nil)⟩)⟩)⟩)⟩)⟩)⟩)⟩)⟩)⟩)⟩)⟩)⟩)⟩)⟩) rfl rfl (fun H locs hP hD hS => ?_)
    refine lv_aload_n hx hb dX3_keep_20 rfl (lv_at hl 0 rfl) ?_
    refine va_get (D := D) (cl := vwCl) (ci := 2) (v := .int v_size) (C := RX3) (T := TX3) (N := 3) hx hb hts hin3 hown hK hP 0 rfl rfl 2 (by decide) (hts (.fieldLink RX3 18 "StepOrders$Past" "size" "I") (by decide +kernel)) (fun _ h9 => h9) rfl dX3_keep_21 ?_
    refine lv_iconst (v := 5) hx hb dX3_keep_24 (by decide) ?_
    refine lv_icmp_ge (tgt := 41) hx hb dX3_keep_25 (by decide) (fun c3 => ?_) (fun c3 => ?_)
    · rw [if_pos c3] at hf
      refine lv_aload_n hx hb dX3_keep_41 rfl (lv_at hl 0 rfl) ?_
      refine lv_aload_n hx hb dX3_keep_42 rfl (lv_at hl 0 rfl) ?_
      refine va_get (D := D) (cl := vwCl) (ci := 2) (v := .int v_oldest) (C := RX3) (T := TX3) (N := 3) hx hb hts hin3 hown hK hP 0 rfl rfl 1 (by decide) (hts (.fieldLink RX3 22 "StepOrders$Past" "oldest" "I") (by decide +kernel)) (fun _ h9 => h9) rfl dX3_keep_43 ?_
      refine lv_iconst (v := 1) hx hb dX3_keep_46 (by decide) ?_
      refine lv_iadd hx hb dX3_keep_47 ?_
      refine lv_iconst (v := 5) hx hb dX3_keep_48 (by decide) ?_
      refine lv_irem hx hb dX3_keep_49 (by decide) ?_
      refine va_put (D := D) (cl := vwCl) (ci := 2) (v := .int ((v_oldest + (1 : Int32)) - (v_oldest + (1 : Int32)) / (5 : Int32) * (5 : Int32))) (ty := .int) (C := RX3) (T := TX3) (N := 3) hx hb hts hin3 tyX3 tyX3_ok nmX3 hown hK hP hD hS 0 rfl rfl 1 (by decide) (hts (.fieldLink RX3 22 "StepOrders$Past" "oldest" "I") (by decide +kernel)) (fun _ h9 => h9) rfl (tyX3_ok 1 (by decide)) rfl rfl (Nat.le_of_ble_eq_true rfl) dX3_keep_50 (fun H locs hP hD hS => ?_)
      have hP : va_P D vwCl (wdP cI cO h o (updS v_kept 1 q2) ((v_oldest + (1 : Int32)) - (v_oldest + (1 : Int32)) / (5 : Int32) * (5 : Int32)) v_size ++ wdS cI h o2 w_u) H := hP
      have hD : va_D A (wdP cI cO h o (updS v_kept 1 q2) ((v_oldest + (1 : Int32)) - (v_oldest + (1 : Int32)) / (5 : Int32) * (5 : Int32)) v_size ++ wdS cI h o2 w_u) := hD
      obtain ⟨z1, y1⟩ := Prod.mk.inj (Option.some.inj hf)
      obtain ⟨z2, y2⟩ := Prod.mk.inj y1
      subst z1 z2 y2
      exact hend _ _ _ _ hP hS dX3_keep_53
    · rw [if_neg c3] at hf
      refine lv_aload_n hx hb dX3_keep_28 rfl (lv_at hl 0 rfl) ?_
      refine lv_dup hx hb dX3_keep_29 rfl ?_
      refine va_get (D := D) (cl := vwCl) (ci := 2) (v := .int v_size) (C := RX3) (T := TX3) (N := 3) hx hb hts hin3 hown hK hP 0 rfl rfl 2 (by decide) (hts (.fieldLink RX3 18 "StepOrders$Past" "size" "I") (by decide +kernel)) (fun _ h9 => h9) rfl dX3_keep_30 ?_
      refine lv_iconst (v := 1) hx hb dX3_keep_33 (by decide) ?_
      refine lv_iadd hx hb dX3_keep_34 ?_
      refine va_put (D := D) (cl := vwCl) (ci := 2) (v := .int (v_size + (1 : Int32))) (ty := .int) (C := RX3) (T := TX3) (N := 3) hx hb hts hin3 tyX3 tyX3_ok nmX3 hown hK hP hD hS 0 rfl rfl 2 (by decide) (hts (.fieldLink RX3 18 "StepOrders$Past" "size" "I") (by decide +kernel)) (fun _ h9 => h9) rfl (tyX3_ok 2 (by decide)) rfl rfl (Nat.le_of_ble_eq_true rfl) dX3_keep_35 (fun H locs hP hD hS => ?_)
      have hP : va_P D vwCl (wdP cI cO h o (updS v_kept 1 q2) v_oldest (v_size + (1 : Int32)) ++ wdS cI h o2 w_u) H := hP
      have hD : va_D A (wdP cI cO h o (updS v_kept 1 q2) v_oldest (v_size + (1 : Int32)) ++ wdS cI h o2 w_u) := hD
      refine lv_goto (tgt := 53) hx hb dX3_keep_38 (by decide) ?_
      obtain ⟨z1, y1⟩ := Prod.mk.inj (Option.some.inj hf)
      obtain ⟨z2, y2⟩ := Prod.mk.inj y1
      subst z1 z2 y2
      exact hend _ _ _ _ hP hS dX3_keep_53
  · refine W.eq (g2 := F0 m 16 ls [.ref (h (o + 8))]) rfl ?_
    refine lv_aload_n hx hb dX3_keep_16 rfl (lv_at hl 1 rfl) ?_
    refine kb_bind hf (fun q2 hq2 hf => ?_)
    have hPc : va_P D vwCl (wdS cI h (o + 8) (v_kept 2) ++ wdS cI h o2 w_u) H := hP.sub [8, 9, 10, 17, 18, 19] rfl
    have hDc : va_D A (wdS cI h (o + 8) (v_kept 2) ++ wdS cI h o2 w_u) := hD.sub [8, 9, 10, 17, 18, 19] (by decide) rfl
    refine kd_vW (ws' := wdP cI cO h o (updS v_kept 2 q2) v_oldest v_size ++ wdS cI h o2 w_u) (va_runV (As := [.ref (h o2)]) (rest := []) ⟨hx, hb, hml, hown, hts⟩ (c5_takeFrom l D cB cI cZ cO h (o + 8) o2 H.size (v_kept 2) w_u q2 hq2) (cwV 1 hts gX3_keep_X5_takeFrom rfl rfl rfl (by decide +kernel) ⟨Nat.le_of_ble_eq_true rfl, Nat.le_of_ble_eq_true rfl⟩) ⟨kb_blind, va_recv hK hPc (ci := 3) (q0 := 0) rfl rfl, kb_pre hPc hDc hK hN⟩ rfl rfl hl.1 rfl (lv_room (Nat.le_of_ble_eq_true rfl)) dX3_keep_17 ⟨Nat.le_refl _, Nat.le_refl _⟩) hP hD hS hA [8, 9, 10, 17, 18, 19] [0, 1, 2, 3, 4, 5, 6, 7, 11, 12, 13, 14, 15, 16] rfl rfl (List.forall_mem_cons.mpr ⟨rfl, (List.forall_mem_cons.mpr ⟨rfl, (List.forall_mem_cons.mpr ⟨rfl, (List.forall_mem_cons.mpr ⟨rfl, (List.forall_mem_cons.mpr ⟨rfl, (List.forall_mem_cons.mpr ⟨rfl, (List.forall_mem_cons.mpr ⟨rfl, (List.forall_mem_cons.mpr ⟨rfl, (List.forall_mem_cons.mpr ⟨rfl, (List.forall_mem_cons.mpr ⟨rfl, (List.forall_mem_cons.mpr ⟨rfl, (List.forall_mem_cons.mpr ⟨rfl, (List.forall_mem_cons.mpr ⟨rfl, (List.forall_mem_cons.mpr ⟨rfl, (fun _ h9 => absurd h9 List.not_mem_nil)⟩)⟩)⟩)⟩)⟩)⟩)⟩)⟩)⟩)⟩)⟩)⟩)⟩)⟩) rfl rfl (fun H locs hP hD hS => ?_)
    refine lv_aload_n hx hb dX3_keep_20 rfl (lv_at hl 0 rfl) ?_
    refine va_get (D := D) (cl := vwCl) (ci := 2) (v := .int v_size) (C := RX3) (T := TX3) (N := 3) hx hb hts hin3 hown hK hP 0 rfl rfl 2 (by decide) (hts (.fieldLink RX3 18 "StepOrders$Past" "size" "I") (by decide +kernel)) (fun _ h9 => h9) rfl dX3_keep_21 ?_
    refine lv_iconst (v := 5) hx hb dX3_keep_24 (by decide) ?_
    refine lv_icmp_ge (tgt := 41) hx hb dX3_keep_25 (by decide) (fun c3 => ?_) (fun c3 => ?_)
    · rw [if_pos c3] at hf
      refine lv_aload_n hx hb dX3_keep_41 rfl (lv_at hl 0 rfl) ?_
      refine lv_aload_n hx hb dX3_keep_42 rfl (lv_at hl 0 rfl) ?_
      refine va_get (D := D) (cl := vwCl) (ci := 2) (v := .int v_oldest) (C := RX3) (T := TX3) (N := 3) hx hb hts hin3 hown hK hP 0 rfl rfl 1 (by decide) (hts (.fieldLink RX3 22 "StepOrders$Past" "oldest" "I") (by decide +kernel)) (fun _ h9 => h9) rfl dX3_keep_43 ?_
      refine lv_iconst (v := 1) hx hb dX3_keep_46 (by decide) ?_
      refine lv_iadd hx hb dX3_keep_47 ?_
      refine lv_iconst (v := 5) hx hb dX3_keep_48 (by decide) ?_
      refine lv_irem hx hb dX3_keep_49 (by decide) ?_
      refine va_put (D := D) (cl := vwCl) (ci := 2) (v := .int ((v_oldest + (1 : Int32)) - (v_oldest + (1 : Int32)) / (5 : Int32) * (5 : Int32))) (ty := .int) (C := RX3) (T := TX3) (N := 3) hx hb hts hin3 tyX3 tyX3_ok nmX3 hown hK hP hD hS 0 rfl rfl 1 (by decide) (hts (.fieldLink RX3 22 "StepOrders$Past" "oldest" "I") (by decide +kernel)) (fun _ h9 => h9) rfl (tyX3_ok 1 (by decide)) rfl rfl (Nat.le_of_ble_eq_true rfl) dX3_keep_50 (fun H locs hP hD hS => ?_)
      have hP : va_P D vwCl (wdP cI cO h o (updS v_kept 2 q2) ((v_oldest + (1 : Int32)) - (v_oldest + (1 : Int32)) / (5 : Int32) * (5 : Int32)) v_size ++ wdS cI h o2 w_u) H := hP
      have hD : va_D A (wdP cI cO h o (updS v_kept 2 q2) ((v_oldest + (1 : Int32)) - (v_oldest + (1 : Int32)) / (5 : Int32) * (5 : Int32)) v_size ++ wdS cI h o2 w_u) := hD
      obtain ⟨z1, y1⟩ := Prod.mk.inj (Option.some.inj hf)
      obtain ⟨z2, y2⟩ := Prod.mk.inj y1
      subst z1 z2 y2
      exact hend _ _ _ _ hP hS dX3_keep_53
    · rw [if_neg c3] at hf
      refine lv_aload_n hx hb dX3_keep_28 rfl (lv_at hl 0 rfl) ?_
      refine lv_dup hx hb dX3_keep_29 rfl ?_
      refine va_get (D := D) (cl := vwCl) (ci := 2) (v := .int v_size) (C := RX3) (T := TX3) (N := 3) hx hb hts hin3 hown hK hP 0 rfl rfl 2 (by decide) (hts (.fieldLink RX3 18 "StepOrders$Past" "size" "I") (by decide +kernel)) (fun _ h9 => h9) rfl dX3_keep_30 ?_
      refine lv_iconst (v := 1) hx hb dX3_keep_33 (by decide) ?_
      refine lv_iadd hx hb dX3_keep_34 ?_
      refine va_put (D := D) (cl := vwCl) (ci := 2) (v := .int (v_size + (1 : Int32))) (ty := .int) (C := RX3) (T := TX3) (N := 3) hx hb hts hin3 tyX3 tyX3_ok nmX3 hown hK hP hD hS 0 rfl rfl 2 (by decide) (hts (.fieldLink RX3 18 "StepOrders$Past" "size" "I") (by decide +kernel)) (fun _ h9 => h9) rfl (tyX3_ok 2 (by decide)) rfl rfl (Nat.le_of_ble_eq_true rfl) dX3_keep_35 (fun H locs hP hD hS => ?_)
      have hP : va_P D vwCl (wdP cI cO h o (updS v_kept 2 q2) v_oldest (v_size + (1 : Int32)) ++ wdS cI h o2 w_u) H := hP
      have hD : va_D A (wdP cI cO h o (updS v_kept 2 q2) v_oldest (v_size + (1 : Int32)) ++ wdS cI h o2 w_u) := hD
      refine lv_goto (tgt := 53) hx hb dX3_keep_38 (by decide) ?_
      obtain ⟨z1, y1⟩ := Prod.mk.inj (Option.some.inj hf)
      obtain ⟨z2, y2⟩ := Prod.mk.inj y1
      subst z1 z2 y2
      exact hend _ _ _ _ hP hS dX3_keep_53
  · refine W.eq (g2 := F0 m 16 ls [.ref (h (o + 11))]) rfl ?_
    refine lv_aload_n hx hb dX3_keep_16 rfl (lv_at hl 1 rfl) ?_
    refine kb_bind hf (fun q2 hq2 hf => ?_)
    have hPc : va_P D vwCl (wdS cI h (o + 11) (v_kept 3) ++ wdS cI h o2 w_u) H := hP.sub [11, 12, 13, 17, 18, 19] rfl
    have hDc : va_D A (wdS cI h (o + 11) (v_kept 3) ++ wdS cI h o2 w_u) := hD.sub [11, 12, 13, 17, 18, 19] (by decide) rfl
    refine kd_vW (ws' := wdP cI cO h o (updS v_kept 3 q2) v_oldest v_size ++ wdS cI h o2 w_u) (va_runV (As := [.ref (h o2)]) (rest := []) ⟨hx, hb, hml, hown, hts⟩ (c5_takeFrom l D cB cI cZ cO h (o + 11) o2 H.size (v_kept 3) w_u q2 hq2) (cwV 1 hts gX3_keep_X5_takeFrom rfl rfl rfl (by decide +kernel) ⟨Nat.le_of_ble_eq_true rfl, Nat.le_of_ble_eq_true rfl⟩) ⟨kb_blind, va_recv hK hPc (ci := 3) (q0 := 0) rfl rfl, kb_pre hPc hDc hK hN⟩ rfl rfl hl.1 rfl (lv_room (Nat.le_of_ble_eq_true rfl)) dX3_keep_17 ⟨Nat.le_refl _, Nat.le_refl _⟩) hP hD hS hA [11, 12, 13, 17, 18, 19] [0, 1, 2, 3, 4, 5, 6, 7, 8, 9, 10, 14, 15, 16] rfl rfl (List.forall_mem_cons.mpr ⟨rfl, (List.forall_mem_cons.mpr ⟨rfl, (List.forall_mem_cons.mpr ⟨rfl, (List.forall_mem_cons.mpr ⟨rfl, (List.forall_mem_cons.mpr ⟨rfl, (List.forall_mem_cons.mpr ⟨rfl, (List.forall_mem_cons.mpr ⟨rfl, (List.forall_mem_cons.mpr ⟨rfl, (List.forall_mem_cons.mpr ⟨rfl, (List.forall_mem_cons.mpr ⟨rfl, (List.forall_mem_cons.mpr ⟨rfl, (List.forall_mem_cons.mpr ⟨rfl, (List.forall_mem_cons.mpr ⟨rfl, (List.forall_mem_cons.mpr ⟨rfl, (fun _ h9 => absurd h9 List.not_mem_nil)⟩)⟩)⟩)⟩)⟩)⟩)⟩)⟩)⟩)⟩)⟩)⟩)⟩)⟩) rfl rfl (fun H locs hP hD hS => ?_)
    refine lv_aload_n hx hb dX3_keep_20 rfl (lv_at hl 0 rfl) ?_
    refine va_get (D := D) (cl := vwCl) (ci := 2) (v := .int v_size) (C := RX3) (T := TX3) (N := 3) hx hb hts hin3 hown hK hP 0 rfl rfl 2 (by decide) (hts (.fieldLink RX3 18 "StepOrders$Past" "size" "I") (by decide +kernel)) (fun _ h9 => h9) rfl dX3_keep_21 ?_
    refine lv_iconst (v := 5) hx hb dX3_keep_24 (by decide) ?_
    refine lv_icmp_ge (tgt := 41) hx hb dX3_keep_25 (by decide) (fun c3 => ?_) (fun c3 => ?_)
    · rw [if_pos c3] at hf
      refine lv_aload_n hx hb dX3_keep_41 rfl (lv_at hl 0 rfl) ?_
      refine lv_aload_n hx hb dX3_keep_42 rfl (lv_at hl 0 rfl) ?_
      refine va_get (D := D) (cl := vwCl) (ci := 2) (v := .int v_oldest) (C := RX3) (T := TX3) (N := 3) hx hb hts hin3 hown hK hP 0 rfl rfl 1 (by decide) (hts (.fieldLink RX3 22 "StepOrders$Past" "oldest" "I") (by decide +kernel)) (fun _ h9 => h9) rfl dX3_keep_43 ?_
      refine lv_iconst (v := 1) hx hb dX3_keep_46 (by decide) ?_
      refine lv_iadd hx hb dX3_keep_47 ?_
      refine lv_iconst (v := 5) hx hb dX3_keep_48 (by decide) ?_
      refine lv_irem hx hb dX3_keep_49 (by decide) ?_
      refine va_put (D := D) (cl := vwCl) (ci := 2) (v := .int ((v_oldest + (1 : Int32)) - (v_oldest + (1 : Int32)) / (5 : Int32) * (5 : Int32))) (ty := .int) (C := RX3) (T := TX3) (N := 3) hx hb hts hin3 tyX3 tyX3_ok nmX3 hown hK hP hD hS 0 rfl rfl 1 (by decide) (hts (.fieldLink RX3 22 "StepOrders$Past" "oldest" "I") (by decide +kernel)) (fun _ h9 => h9) rfl (tyX3_ok 1 (by decide)) rfl rfl (Nat.le_of_ble_eq_true rfl) dX3_keep_50 (fun H locs hP hD hS => ?_)
      have hP : va_P D vwCl (wdP cI cO h o (updS v_kept 3 q2) ((v_oldest + (1 : Int32)) - (v_oldest + (1 : Int32)) / (5 : Int32) * (5 : Int32)) v_size ++ wdS cI h o2 w_u) H := hP
      have hD : va_D A (wdP cI cO h o (updS v_kept 3 q2) ((v_oldest + (1 : Int32)) - (v_oldest + (1 : Int32)) / (5 : Int32) * (5 : Int32)) v_size ++ wdS cI h o2 w_u) := hD
      obtain ⟨z1, y1⟩ := Prod.mk.inj (Option.some.inj hf)
      obtain ⟨z2, y2⟩ := Prod.mk.inj y1
      subst z1 z2 y2
      exact hend _ _ _ _ hP hS dX3_keep_53
    · rw [if_neg c3] at hf
      refine lv_aload_n hx hb dX3_keep_28 rfl (lv_at hl 0 rfl) ?_
      refine lv_dup hx hb dX3_keep_29 rfl ?_
      refine va_get (D := D) (cl := vwCl) (ci := 2) (v := .int v_size) (C := RX3) (T := TX3) (N := 3) hx hb hts hin3 hown hK hP 0 rfl rfl 2 (by decide) (hts (.fieldLink RX3 18 "StepOrders$Past" "size" "I") (by decide +kernel)) (fun _ h9 => h9) rfl dX3_keep_30 ?_
      refine lv_iconst (v := 1) hx hb dX3_keep_33 (by decide) ?_
      refine lv_iadd hx hb dX3_keep_34 ?_
      refine va_put (D := D) (cl := vwCl) (ci := 2) (v := .int (v_size + (1 : Int32))) (ty := .int) (C := RX3) (T := TX3) (N := 3) hx hb hts hin3 tyX3 tyX3_ok nmX3 hown hK hP hD hS 0 rfl rfl 2 (by decide) (hts (.fieldLink RX3 18 "StepOrders$Past" "size" "I") (by decide +kernel)) (fun _ h9 => h9) rfl (tyX3_ok 2 (by decide)) rfl rfl (Nat.le_of_ble_eq_true rfl) dX3_keep_35 (fun H locs hP hD hS => ?_)
      have hP : va_P D vwCl (wdP cI cO h o (updS v_kept 3 q2) v_oldest (v_size + (1 : Int32)) ++ wdS cI h o2 w_u) H := hP
      have hD : va_D A (wdP cI cO h o (updS v_kept 3 q2) v_oldest (v_size + (1 : Int32)) ++ wdS cI h o2 w_u) := hD
      refine lv_goto (tgt := 53) hx hb dX3_keep_38 (by decide) ?_
      obtain ⟨z1, y1⟩ := Prod.mk.inj (Option.some.inj hf)
      obtain ⟨z2, y2⟩ := Prod.mk.inj y1
      subst z1 z2 y2
      exact hend _ _ _ _ hP hS dX3_keep_53
  · refine W.eq (g2 := F0 m 16 ls [.ref (h (o + 14))]) rfl ?_
    refine lv_aload_n hx hb dX3_keep_16 rfl (lv_at hl 1 rfl) ?_
    refine kb_bind hf (fun q2 hq2 hf => ?_)
    have hPc : va_P D vwCl (wdS cI h (o + 14) (v_kept 4) ++ wdS cI h o2 w_u) H := hP.sub [14, 15, 16, 17, 18, 19] rfl
    have hDc : va_D A (wdS cI h (o + 14) (v_kept 4) ++ wdS cI h o2 w_u) := hD.sub [14, 15, 16, 17, 18, 19] (by decide) rfl
    refine kd_vW (ws' := wdP cI cO h o (updS v_kept 4 q2) v_oldest v_size ++ wdS cI h o2 w_u) (va_runV (As := [.ref (h o2)]) (rest := []) ⟨hx, hb, hml, hown, hts⟩ (c5_takeFrom l D cB cI cZ cO h (o + 14) o2 H.size (v_kept 4) w_u q2 hq2) (cwV 1 hts gX3_keep_X5_takeFrom rfl rfl rfl (by decide +kernel) ⟨Nat.le_of_ble_eq_true rfl, Nat.le_of_ble_eq_true rfl⟩) ⟨kb_blind, va_recv hK hPc (ci := 3) (q0 := 0) rfl rfl, kb_pre hPc hDc hK hN⟩ rfl rfl hl.1 rfl (lv_room (Nat.le_of_ble_eq_true rfl)) dX3_keep_17 ⟨Nat.le_refl _, Nat.le_refl _⟩) hP hD hS hA [14, 15, 16, 17, 18, 19] [0, 1, 2, 3, 4, 5, 6, 7, 8, 9, 10, 11, 12, 13] rfl rfl (List.forall_mem_cons.mpr ⟨rfl, (List.forall_mem_cons.mpr ⟨rfl, (List.forall_mem_cons.mpr ⟨rfl, (List.forall_mem_cons.mpr ⟨rfl, (List.forall_mem_cons.mpr ⟨rfl, (List.forall_mem_cons.mpr ⟨rfl, (List.forall_mem_cons.mpr ⟨rfl, (List.forall_mem_cons.mpr ⟨rfl, (List.forall_mem_cons.mpr ⟨rfl, (List.forall_mem_cons.mpr ⟨rfl, (List.forall_mem_cons.mpr ⟨rfl, (List.forall_mem_cons.mpr ⟨rfl, (List.forall_mem_cons.mpr ⟨rfl, (List.forall_mem_cons.mpr ⟨rfl, (fun _ h9 => absurd h9 List.not_mem_nil)⟩)⟩)⟩)⟩)⟩)⟩)⟩)⟩)⟩)⟩)⟩)⟩)⟩)⟩) rfl rfl (fun H locs hP hD hS => ?_)
    refine lv_aload_n hx hb dX3_keep_20 rfl (lv_at hl 0 rfl) ?_
    refine va_get (D := D) (cl := vwCl) (ci := 2) (v := .int v_size) (C := RX3) (T := TX3) (N := 3) hx hb hts hin3 hown hK hP 0 rfl rfl 2 (by decide) (hts (.fieldLink RX3 18 "StepOrders$Past" "size" "I") (by decide +kernel)) (fun _ h9 => h9) rfl dX3_keep_21 ?_
    refine lv_iconst (v := 5) hx hb dX3_keep_24 (by decide) ?_
    refine lv_icmp_ge (tgt := 41) hx hb dX3_keep_25 (by decide) (fun c3 => ?_) (fun c3 => ?_)
    · rw [if_pos c3] at hf
      refine lv_aload_n hx hb dX3_keep_41 rfl (lv_at hl 0 rfl) ?_
      refine lv_aload_n hx hb dX3_keep_42 rfl (lv_at hl 0 rfl) ?_
      refine va_get (D := D) (cl := vwCl) (ci := 2) (v := .int v_oldest) (C := RX3) (T := TX3) (N := 3) hx hb hts hin3 hown hK hP 0 rfl rfl 1 (by decide) (hts (.fieldLink RX3 22 "StepOrders$Past" "oldest" "I") (by decide +kernel)) (fun _ h9 => h9) rfl dX3_keep_43 ?_
      refine lv_iconst (v := 1) hx hb dX3_keep_46 (by decide) ?_
      refine lv_iadd hx hb dX3_keep_47 ?_
      refine lv_iconst (v := 5) hx hb dX3_keep_48 (by decide) ?_
      refine lv_irem hx hb dX3_keep_49 (by decide) ?_
      refine va_put (D := D) (cl := vwCl) (ci := 2) (v := .int ((v_oldest + (1 : Int32)) - (v_oldest + (1 : Int32)) / (5 : Int32) * (5 : Int32))) (ty := .int) (C := RX3) (T := TX3) (N := 3) hx hb hts hin3 tyX3 tyX3_ok nmX3 hown hK hP hD hS 0 rfl rfl 1 (by decide) (hts (.fieldLink RX3 22 "StepOrders$Past" "oldest" "I") (by decide +kernel)) (fun _ h9 => h9) rfl (tyX3_ok 1 (by decide)) rfl rfl (Nat.le_of_ble_eq_true rfl) dX3_keep_50 (fun H locs hP hD hS => ?_)
      have hP : va_P D vwCl (wdP cI cO h o (updS v_kept 4 q2) ((v_oldest + (1 : Int32)) - (v_oldest + (1 : Int32)) / (5 : Int32) * (5 : Int32)) v_size ++ wdS cI h o2 w_u) H := hP
      have hD : va_D A (wdP cI cO h o (updS v_kept 4 q2) ((v_oldest + (1 : Int32)) - (v_oldest + (1 : Int32)) / (5 : Int32) * (5 : Int32)) v_size ++ wdS cI h o2 w_u) := hD
      obtain ⟨z1, y1⟩ := Prod.mk.inj (Option.some.inj hf)
      obtain ⟨z2, y2⟩ := Prod.mk.inj y1
      subst z1 z2 y2
      exact hend _ _ _ _ hP hS dX3_keep_53
    · rw [if_neg c3] at hf
      refine lv_aload_n hx hb dX3_keep_28 rfl (lv_at hl 0 rfl) ?_
      refine lv_dup hx hb dX3_keep_29 rfl ?_
      refine va_get (D := D) (cl := vwCl) (ci := 2) (v := .int v_size) (C := RX3) (T := TX3) (N := 3) hx hb hts hin3 hown hK hP 0 rfl rfl 2 (by decide) (hts (.fieldLink RX3 18 "StepOrders$Past" "size" "I") (by decide +kernel)) (fun _ h9 => h9) rfl dX3_keep_30 ?_
      refine lv_iconst (v := 1) hx hb dX3_keep_33 (by decide) ?_
      refine lv_iadd hx hb dX3_keep_34 ?_
      refine va_put (D := D) (cl := vwCl) (ci := 2) (v := .int (v_size + (1 : Int32))) (ty := .int) (C := RX3) (T := TX3) (N := 3) hx hb hts hin3 tyX3 tyX3_ok nmX3 hown hK hP hD hS 0 rfl rfl 2 (by decide) (hts (.fieldLink RX3 18 "StepOrders$Past" "size" "I") (by decide +kernel)) (fun _ h9 => h9) rfl (tyX3_ok 2 (by decide)) rfl rfl (Nat.le_of_ble_eq_true rfl) dX3_keep_35 (fun H locs hP hD hS => ?_)
      have hP : va_P D vwCl (wdP cI cO h o (updS v_kept 4 q2) v_oldest (v_size + (1 : Int32)) ++ wdS cI h o2 w_u) H := hP
      have hD : va_D A (wdP cI cO h o (updS v_kept 4 q2) v_oldest (v_size + (1 : Int32)) ++ wdS cI h o2 w_u) := hD
      refine lv_goto (tgt := 53) hx hb dX3_keep_38 (by decide) ?_
      obtain ⟨z1, y1⟩ := Prod.mk.inj (Option.some.inj hf)
      obtain ⟨z2, y2⟩ := Prod.mk.inj y1
      subst z1 z2 y2
      exact hend _ _ _ _ hP hS dX3_keep_53

set_option maxHeartbeats 4000000 in
set_option maxRecDepth 100000 in
theorem c3_bringBack (l : Launch) (D : va_G) (cB cI cZ cO : ClassId) (h : Nat → Nat) (o : Nat) (o2 : Nat) (sz : Nat) (v_kept : Nat → sT) (v_oldest : Int32) (v_size : Int32) (w_u : sT) (v_size' : Int32) (w_u' : sT) (hf : f3_bringBack v_kept v_oldest v_size w_u = some (v_size', w_u')) : Met l yX3_bringBack wsX3_bringBack rm3_bringBack (va_Pc [.ref (h o), .ref (h o2)] (kb_B D (ka_tys cB cI cZ cO) sz (wdP cI cO h o v_kept v_oldest v_size ++ wdS cI h o2 w_u))) (va_Qv (fun (_ : Unit) => True) (fun _ t => va_P D vwCl (wdP cI cO h o v_kept v_oldest (v_size') ++ wdS cI h o2 (w_u')) t.heap) (va_A (wdP cI cO h o v_kept v_oldest v_size ++ wdS cI h o2 w_u) sz)) 0 0 (va_A (wdP cI cO h o v_kept v_oldest v_size ++ wdS cI h o2 w_u) sz) := by
  refine kb_metV (cc := cX3_bringBack) (maxL := 2) (by decide) rfl (Nat.le_of_ble_eq_true rfl) ?_
  intro p e s m args below meth c Q A ls H hx hb hml hown hts hK hN hP hD hS hA hl hend
  have hown : s.vm.findClass RX3 = some m.cls := hown
  have hl : lv_has ls 2 [(0, .ref (h o)), (1, .ref (h o2))] := hl
  have hin3 : ∀ w ∈ u_ws RX3 TX3 3, w ∈ wsX3_bringBack := by decide +kernel
  rw [f3_bringBack] at hf
  refine lv_aload_n hx hb dX3_bringBack_0 rfl (lv_at hl 0 rfl) ?_
  refine va_get (D := D) (cl := vwCl) (ci := 2) (v := .int v_size) (C := RX3) (T := TX3) (N := 3) hx hb hts hin3 hown hK hP 0 rfl rfl 2 (by decide) (hts (.fieldLink RX3 18 "StepOrders$Past" "size" "I") (by decide +kernel)) (fun _ h9 => h9) rfl dX3_bringBack_1 ?_
  refine lv_if_le (tgt := 37) hx hb dX3_bringBack_4 (by decide) (fun c1 => ?_) (fun c1 => ?_)
  · rw [if_pos c1] at hf
    obtain ⟨z1, y1⟩ := Prod.mk.inj (Option.some.inj hf)
    subst z1 y1
    exact hend _ _ _ _ hP hS dX3_bringBack_37
  · rw [if_neg c1] at hf
    refine lv_aload_n hx hb dX3_bringBack_7 rfl (lv_at hl 0 rfl) ?_
    refine lv_dup hx hb dX3_bringBack_8 rfl ?_
    refine va_get (D := D) (cl := vwCl) (ci := 2) (v := .int v_size) (C := RX3) (T := TX3) (N := 3) hx hb hts hin3 hown hK hP 0 rfl rfl 2 (by decide) (hts (.fieldLink RX3 18 "StepOrders$Past" "size" "I") (by decide +kernel)) (fun _ h9 => h9) rfl dX3_bringBack_9 ?_
    refine lv_iconst (v := 1) hx hb dX3_bringBack_12 (by decide) ?_
    refine lv_isub hx hb dX3_bringBack_13 ?_
    refine va_put (D := D) (cl := vwCl) (ci := 2) (v := .int (v_size - (1 : Int32))) (ty := .int) (C := RX3) (T := TX3) (N := 3) hx hb hts hin3 tyX3 tyX3_ok nmX3 hown hK hP hD hS 0 rfl rfl 2 (by decide) (hts (.fieldLink RX3 18 "StepOrders$Past" "size" "I") (by decide +kernel)) (fun _ h9 => h9) rfl (tyX3_ok 2 (by decide)) rfl rfl (Nat.le_of_ble_eq_true rfl) dX3_bringBack_14 (fun H locs hP hD hS => ?_)
    have hP : va_P D vwCl (wdP cI cO h o v_kept v_oldest (v_size - (1 : Int32)) ++ wdS cI h o2 w_u) H := hP
    have hD : va_D A (wdP cI cO h o v_kept v_oldest (v_size - (1 : Int32)) ++ wdS cI h o2 w_u) := hD
    refine lv_aload_n hx hb dX3_bringBack_17 rfl (lv_at hl 1 rfl) ?_
    refine lv_aload_n hx hb dX3_bringBack_18 rfl (lv_at hl 0 rfl) ?_
    refine va_get (D := D) (cl := vwCl) (ci := 2) (v := .ref (h (o + 1))) (C := RX3) (T := TX3) (N := 3) hx hb hts hin3 hown hK hP 0 rfl rfl 0 (by decide) (hts (.fieldLink RX3 11 "StepOrders$Past" "kept" "[LStepOrders$State;") (by decide +kernel)) (fun _ h9 => h9) rfl dX3_bringBack_19 ?_
    refine lv_aload_n hx hb dX3_bringBack_22 rfl (lv_at hl 0 rfl) ?_
    refine va_get (D := D) (cl := vwCl) (ci := 2) (v := .int v_oldest) (C := RX3) (T := TX3) (N := 3) hx hb hts hin3 hown hK hP 0 rfl rfl 1 (by decide) (hts (.fieldLink RX3 22 "StepOrders$Past" "oldest" "I") (by decide +kernel)) (fun _ h9 => h9) rfl dX3_bringBack_23 ?_
    refine lv_aload_n hx hb dX3_bringBack_26 rfl (lv_at hl 0 rfl) ?_
    refine va_get (D := D) (cl := vwCl) (ci := 2) (v := .int (v_size - (1 : Int32))) (C := RX3) (T := TX3) (N := 3) hx hb hts hin3 hown hK hP 0 rfl rfl 2 (by decide) (hts (.fieldLink RX3 18 "StepOrders$Past" "size" "I") (by decide +kernel)) (fun _ h9 => h9) rfl dX3_bringBack_27 ?_
    refine lv_iadd hx hb dX3_bringBack_30 ?_
    refine lv_iconst (v := 5) hx hb dX3_bringBack_31 (by decide) ?_
    refine lv_irem hx hb dX3_bringBack_32 (by decide) ?_
    refine kb_bind hf (fun j2 hj2 hf => ?_)
    refine va_aldq (D := D) (cl := vwCl) hx hb hK hP 1 3 (f := ka_kept h o) rfl rfl (aidx_in hj2) dX3_bringBack_33 ?_
    rw [aidx_v hj2]
    have hlt2 := aidx_lt hj2
    have hcs2 : j2 = 0 ∨ j2 = 1 ∨ j2 = 2 ∨ j2 = 3 ∨ j2 = 4 := by omega
    rcases hcs2 with rfl | rfl | rfl | rfl | rfl
    · refine W.eq (g2 := F0 m 34 ls [.ref (h (o + 2)), .ref (h o2)]) rfl ?_
      refine kb_bind hf (fun q3 hq3 hf => ?_)
      have hPc : va_P D vwCl (wdS cI h o2 w_u ++ wdS cI h (o + 2) (v_kept 0)) H := hP.sub [17, 18, 19, 2, 3, 4] rfl
      have hDc : va_D A (wdS cI h o2 w_u ++ wdS cI h (o + 2) (v_kept 0)) := hD.sub [17, 18, 19, 2, 3, 4] (by decide) rfl
      refine kd_vW (ws' := wdP cI cO h o v_kept v_oldest (v_size - (1 : Int32)) ++ wdS cI h o2 q3) (va_runV (As := [.ref (h (o + 2))]) (rest := []) ⟨hx, hb, hml, hown, hts⟩ (c5_takeFrom l D cB cI cZ cO h o2 (o + 2) H.size w_u (v_kept 0) q3 hq3) (cwV 1 hts gX3_bringBack_X5_takeFrom rfl rfl rfl (by decide +kernel) ⟨Nat.le_of_ble_eq_true rfl, Nat.le_of_ble_eq_true rfl⟩) ⟨kb_blind, va_recv hK hPc (ci := 3) (q0 := 0) rfl rfl, kb_pre hPc hDc hK hN⟩ rfl rfl hl.1 rfl (lv_room (Nat.le_of_ble_eq_true rfl)) dX3_bringBack_34 ⟨Nat.le_refl _, Nat.le_refl _⟩) hP hD hS hA [17, 18, 19, 2, 3, 4] [0, 1, 5, 6, 7, 8, 9, 10, 11, 12, 13, 14, 15, 16] rfl rfl (List.forall_mem_cons.mpr ⟨rfl, (List.forall_mem_cons.mpr ⟨rfl, (List.forall_mem_cons.mpr ⟨rfl, (List.forall_mem_cons.mpr ⟨rfl, (List.forall_mem_cons.mpr ⟨rfl, (List.forall_mem_cons.mpr ⟨rfl, (List.forall_mem_cons.mpr ⟨rfl, (List.forall_mem_cons.mpr ⟨rfl, (List.forall_mem_cons.mpr ⟨rfl, (List.forall_mem_cons.mpr ⟨rfl, (List.forall_mem_cons.mpr ⟨rfl, (List.forall_mem_cons.mpr ⟨rfl, (List.forall_mem_cons.mpr ⟨rfl, (List.forall_mem_cons.mpr ⟨rfl, (fun _ h9 => absurd h9 List.not_mem_nil)⟩)⟩)⟩)⟩)⟩)⟩)⟩)⟩)⟩)⟩)⟩)⟩)⟩)⟩) rfl rfl (fun H locs hP hD hS => ?_)
      obtain ⟨z1, y1⟩ := Prod.mk.inj (Option.some.inj hf)
      subst z1 y1
      exact hend _ _ _ _ hP hS dX3_bringBack_37
    · refine W.eq (g2 := F0 m 34 ls [.ref (h (o + 5)), .ref (h o2)]) rfl ?_
      refine kb_bind hf (fun q3 hq3 hf => ?_)
      have hPc : va_P D vwCl (wdS cI h o2 w_u ++ wdS cI h (o + 5) (v_kept 1)) H := hP.sub [17, 18, 19, 5, 6, 7] rfl
      have hDc : va_D A (wdS cI h o2 w_u ++ wdS cI h (o + 5) (v_kept 1)) := hD.sub [17, 18, 19, 5, 6, 7] (by decide) rfl
      refine kd_vW (ws' := wdP cI cO h o v_kept v_oldest (v_size - (1 : Int32)) ++ wdS cI h o2 q3) (va_runV (As := [.ref (h (o + 5))]) (rest := []) ⟨hx, hb, hml, hown, hts⟩ (c5_takeFrom l D cB cI cZ cO h o2 (o + 5) H.size w_u (v_kept 1) q3 hq3) (cwV 1 hts gX3_bringBack_X5_takeFrom rfl rfl rfl (by decide +kernel) ⟨Nat.le_of_ble_eq_true rfl, Nat.le_of_ble_eq_true rfl⟩) ⟨kb_blind, va_recv hK hPc (ci := 3) (q0 := 0) rfl rfl, kb_pre hPc hDc hK hN⟩ rfl rfl hl.1 rfl (lv_room (Nat.le_of_ble_eq_true rfl)) dX3_bringBack_34 ⟨Nat.le_refl _, Nat.le_refl _⟩) hP hD hS hA [17, 18, 19, 5, 6, 7] [0, 1, 2, 3, 4, 8, 9, 10, 11, 12, 13, 14, 15, 16] rfl rfl (List.forall_mem_cons.mpr ⟨rfl, (List.forall_mem_cons.mpr ⟨rfl, (List.forall_mem_cons.mpr ⟨rfl, (List.forall_mem_cons.mpr ⟨rfl, (List.forall_mem_cons.mpr ⟨rfl, (List.forall_mem_cons.mpr ⟨rfl, (List.forall_mem_cons.mpr ⟨rfl, (List.forall_mem_cons.mpr ⟨rfl, (List.forall_mem_cons.mpr ⟨rfl, (List.forall_mem_cons.mpr ⟨rfl, (List.forall_mem_cons.mpr ⟨rfl, (List.forall_mem_cons.mpr ⟨rfl, (List.forall_mem_cons.mpr ⟨rfl, (List.forall_mem_cons.mpr ⟨rfl, (fun _ h9 => absurd h9 List.not_mem_nil)⟩)⟩)⟩)⟩)⟩)⟩)⟩)⟩)⟩)⟩)⟩)⟩)⟩)⟩) rfl rfl (fun H locs hP hD hS => ?_)
      obtain ⟨z1, y1⟩ := Prod.mk.inj (Option.some.inj hf)
      subst z1 y1
      exact hend _ _ _ _ hP hS dX3_bringBack_37
    · refine W.eq (g2 := F0 m 34 ls [.ref (h (o + 8)), .ref (h o2)]) rfl ?_
      refine kb_bind hf (fun q3 hq3 hf => ?_)
      have hPc : va_P D vwCl (wdS cI h o2 w_u ++ wdS cI h (o + 8) (v_kept 2)) H := hP.sub [17, 18, 19, 8, 9, 10] rfl
      have hDc : va_D A (wdS cI h o2 w_u ++ wdS cI h (o + 8) (v_kept 2)) := hD.sub [17, 18, 19, 8, 9, 10] (by decide) rfl
      refine kd_vW (ws' := wdP cI cO h o v_kept v_oldest (v_size - (1 : Int32)) ++ wdS cI h o2 q3) (va_runV (As := [.ref (h (o + 8))]) (rest := []) ⟨hx, hb, hml, hown, hts⟩ (c5_takeFrom l D cB cI cZ cO h o2 (o + 8) H.size w_u (v_kept 2) q3 hq3) (cwV 1 hts gX3_bringBack_X5_takeFrom rfl rfl rfl (by decide +kernel) ⟨Nat.le_of_ble_eq_true rfl, Nat.le_of_ble_eq_true rfl⟩) ⟨kb_blind, va_recv hK hPc (ci := 3) (q0 := 0) rfl rfl, kb_pre hPc hDc hK hN⟩ rfl rfl hl.1 rfl (lv_room (Nat.le_of_ble_eq_true rfl)) dX3_bringBack_34 ⟨Nat.le_refl _, Nat.le_refl _⟩) hP hD hS hA [17, 18, 19, 8, 9, 10] [0, 1, 2, 3, 4, 5, 6, 7, 11, 12, 13, 14, 15, 16] rfl rfl (List.forall_mem_cons.mpr ⟨rfl, (List.forall_mem_cons.mpr ⟨rfl, (List.forall_mem_cons.mpr ⟨rfl, (List.forall_mem_cons.mpr ⟨rfl, (List.forall_mem_cons.mpr ⟨rfl, (List.forall_mem_cons.mpr ⟨rfl, (List.forall_mem_cons.mpr ⟨rfl, (List.forall_mem_cons.mpr ⟨rfl, (List.forall_mem_cons.mpr ⟨rfl, (List.forall_mem_cons.mpr ⟨rfl, (List.forall_mem_cons.mpr ⟨rfl, (List.forall_mem_cons.mpr ⟨rfl, (List.forall_mem_cons.mpr ⟨rfl, (List.forall_mem_cons.mpr ⟨rfl, (fun _ h9 => absurd h9 List.not_mem_nil)⟩)⟩)⟩)⟩)⟩)⟩)⟩)⟩)⟩)⟩)⟩)⟩)⟩)⟩) rfl rfl (fun H locs hP hD hS => ?_)
      obtain ⟨z1, y1⟩ := Prod.mk.inj (Option.some.inj hf)
      subst z1 y1
      exact hend _ _ _ _ hP hS dX3_bringBack_37
    · refine W.eq (g2 := F0 m 34 ls [.ref (h (o + 11)), .ref (h o2)]) rfl ?_
      refine kb_bind hf (fun q3 hq3 hf => ?_)
      have hPc : va_P D vwCl (wdS cI h o2 w_u ++ wdS cI h (o + 11) (v_kept 3)) H := hP.sub [17, 18, 19, 11, 12, 13] rfl
      have hDc : va_D A (wdS cI h o2 w_u ++ wdS cI h (o + 11) (v_kept 3)) := hD.sub [17, 18, 19, 11, 12, 13] (by decide) rfl
      refine kd_vW (ws' := wdP cI cO h o v_kept v_oldest (v_size - (1 : Int32)) ++ wdS cI h o2 q3) (va_runV (As := [.ref (h (o + 11))]) (rest := []) ⟨hx, hb, hml, hown, hts⟩ (c5_takeFrom l D cB cI cZ cO h o2 (o + 11) H.size w_u (v_kept 3) q3 hq3) (cwV 1 hts gX3_bringBack_X5_takeFrom rfl rfl rfl (by decide +kernel) ⟨Nat.le_of_ble_eq_true rfl, Nat.le_of_ble_eq_true rfl⟩) ⟨kb_blind, va_recv hK hPc (ci := 3) (q0 := 0) rfl rfl, kb_pre hPc hDc hK hN⟩ rfl rfl hl.1 rfl (lv_room (Nat.le_of_ble_eq_true rfl)) dX3_bringBack_34 ⟨Nat.le_refl _, Nat.le_refl _⟩) hP hD hS hA [17, 18, 19, 11, 12, 13] [0, 1, 2, 3, 4, 5, 6, 7, 8, 9, 10, 14, 15, 16] rfl rfl (List.forall_mem_cons.mpr ⟨rfl, (List.forall_mem_cons.mpr ⟨rfl, (List.forall_mem_cons.mpr ⟨rfl, (List.forall_mem_cons.mpr ⟨rfl, (List.forall_mem_cons.mpr ⟨rfl, (List.forall_mem_cons.mpr ⟨rfl, (List.forall_mem_cons.mpr ⟨rfl, (List.forall_mem_cons.mpr ⟨rfl, (List.forall_mem_cons.mpr ⟨rfl, (List.forall_mem_cons.mpr ⟨rfl, (List.forall_mem_cons.mpr ⟨rfl, (List.forall_mem_cons.mpr ⟨rfl, (List.forall_mem_cons.mpr ⟨rfl, (List.forall_mem_cons.mpr ⟨rfl, (fun _ h9 => absurd h9 List.not_mem_nil)⟩)⟩)⟩)⟩)⟩)⟩)⟩)⟩)⟩)⟩)⟩)⟩)⟩)⟩) rfl rfl (fun H locs hP hD hS => ?_)
      obtain ⟨z1, y1⟩ := Prod.mk.inj (Option.some.inj hf)
      subst z1 y1
      exact hend _ _ _ _ hP hS dX3_bringBack_37
    · refine W.eq (g2 := F0 m 34 ls [.ref (h (o + 14)), .ref (h o2)]) rfl ?_
      refine kb_bind hf (fun q3 hq3 hf => ?_)
      have hPc : va_P D vwCl (wdS cI h o2 w_u ++ wdS cI h (o + 14) (v_kept 4)) H := hP.sub [17, 18, 19, 14, 15, 16] rfl
      have hDc : va_D A (wdS cI h o2 w_u ++ wdS cI h (o + 14) (v_kept 4)) := hD.sub [17, 18, 19, 14, 15, 16] (by decide) rfl
      refine kd_vW (ws' := wdP cI cO h o v_kept v_oldest (v_size - (1 : Int32)) ++ wdS cI h o2 q3) (va_runV (As := [.ref (h (o + 14))]) (rest := []) ⟨hx, hb, hml, hown, hts⟩ (c5_takeFrom l D cB cI cZ cO h o2 (o + 14) H.size w_u (v_kept 4) q3 hq3) (cwV 1 hts gX3_bringBack_X5_takeFrom rfl rfl rfl (by decide +kernel) ⟨Nat.le_of_ble_eq_true rfl, Nat.le_of_ble_eq_true rfl⟩) ⟨kb_blind, va_recv hK hPc (ci := 3) (q0 := 0) rfl rfl, kb_pre hPc hDc hK hN⟩ rfl rfl hl.1 rfl (lv_room (Nat.le_of_ble_eq_true rfl)) dX3_bringBack_34 ⟨Nat.le_refl _, Nat.le_refl _⟩) hP hD hS hA [17, 18, 19, 14, 15, 16] [0, 1, 2, 3, 4, 5, 6, 7, 8, 9, 10, 11, 12, 13] rfl rfl (List.forall_mem_cons.mpr ⟨rfl, (List.forall_mem_cons.mpr ⟨rfl, (List.forall_mem_cons.mpr ⟨rfl, (List.forall_mem_cons.mpr ⟨rfl, (List.forall_mem_cons.mpr ⟨rfl, (List.forall_mem_cons.mpr ⟨rfl, (List.forall_mem_cons.mpr ⟨rfl, (List.forall_mem_cons.mpr ⟨rfl, (List.forall_mem_cons.mpr ⟨rfl, (List.forall_mem_cons.mpr ⟨rfl, (List.forall_mem_cons.mpr ⟨rfl, (List.forall_mem_cons.mpr ⟨rfl, (List.forall_mem_cons.mpr ⟨rfl, (List.forall_mem_cons.mpr ⟨rfl, (fun _ h9 => absurd h9 List.not_mem_nil)⟩)⟩)⟩)⟩)⟩)⟩)⟩)⟩)⟩)⟩)⟩)⟩)⟩)⟩) rfl rfl (fun H locs hP hD hS => ?_)
      obtain ⟨z1, y1⟩ := Prod.mk.inj (Option.some.inj hf)
      subst z1 y1
      exact hend _ _ _ _ hP hS dX3_bringBack_37
