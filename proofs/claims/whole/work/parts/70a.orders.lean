set_option maxHeartbeats 4000000 in
set_option maxRecDepth 100000 in
theorem c8_refused (l : Launch) (D : va_G) (cB cI cZ cO : ClassId) (h : Nat → Nat) (sz : Nat) (x1 : Int32) (v_now : sT) (v_tried : sT) (v_past_kept : Nat → sT) (v_past_oldest : Int32) (v_past_size : Int32) (v_all_threads : sT) (v_all_rows : Nat → Int32) (v_all_ended : Nat → Int32) (v_all_known : Int32) (v_all_stepsInAll : Int32) (v_all_count : Int32) (v_all_standstills : Int32) (v_all_wrongOnes : Int32) (v_all_unlikeEnds : Int32) (v_meetings_reached : Nat → Int32) (v_text_bytes : Nat → Int32) (v_text_length : Int32) (v_text_place : Int32) (v_text_thread : Int32) (v_text_kind : Int32) (v_text_target : Int32) (v_text_value : Int32) (v_refusedBad : Int32) (v_refusedNo : Int32) (v_refusedFull : Int32) (r0 : Int32) (v_refusedBad' : Int32) (v_refusedNo' : Int32) (v_refusedFull' : Int32) (hf : f8_refused v_refusedBad v_refusedNo v_refusedFull x1 = some (r0, v_refusedBad', v_refusedNo', v_refusedFull')) : Met l yX8_refused wsX8_refused rm8_refused (va_Pc [.ref (h 0), .int x1] (kb_B D (ka_tys cB cI cZ cO) sz (wdO cB cI cZ cO h v_now v_tried v_past_kept v_past_oldest v_past_size v_all_threads v_all_rows v_all_ended v_all_known v_all_stepsInAll v_all_count v_all_standstills v_all_wrongOnes v_all_unlikeEnds v_meetings_reached v_text_bytes v_text_length v_text_place v_text_thread v_text_kind v_text_target v_text_value v_refusedBad v_refusedNo v_refusedFull))) (va_Qi (kb_post .int r0) (fun _ t => va_P D vwCl (wdO cB cI cZ cO h v_now v_tried v_past_kept v_past_oldest v_past_size v_all_threads v_all_rows v_all_ended v_all_known v_all_stepsInAll v_all_count v_all_standstills v_all_wrongOnes v_all_unlikeEnds v_meetings_reached v_text_bytes v_text_length v_text_place v_text_thread v_text_kind v_text_target v_text_value (v_refusedBad') (v_refusedNo') (v_refusedFull')) t.heap) (va_A (wdO cB cI cZ cO h v_now v_tried v_past_kept v_past_oldest v_past_size v_all_threads v_all_rows v_all_ended v_all_known v_all_stepsInAll v_all_count v_all_standstills v_all_wrongOnes v_all_unlikeEnds v_meetings_reached v_text_bytes v_text_length v_text_place v_text_thread v_text_kind v_text_target v_text_value v_refusedBad v_refusedNo v_refusedFull) sz)) 0 0 (va_A (wdO cB cI cZ cO h v_now v_tried v_past_kept v_past_oldest v_past_size v_all_threads v_all_rows v_all_ended v_all_known v_all_stepsInAll v_all_count v_all_standstills v_all_wrongOnes v_all_unlikeEnds v_meetings_reached v_text_bytes v_text_length v_text_place v_text_thread v_text_kind v_text_target v_text_value v_refusedBad v_refusedNo v_refusedFull) sz) := by
  refine kb_metZ (cc := cX8_refused) (maxL := 2) (ty := .int) (by decide) rfl (Nat.le_of_ble_eq_true rfl) ?_
  intro p e s m args below meth c Q A ls H hx hb hml hown hts hK hN hP hD hS hA hl hend
  have hown : s.vm.findClass RX8 = some m.cls := hown
  have hl : lv_has ls 2 [(0, .ref (h 0)), (1, .int x1)] := hl
  have hin8 : ∀ w ∈ u_ws RX8 TX8 9, w ∈ wsX8_refused := by decide +kernel
  have J48 : ∀ (v_refusedBad : Int32) (v_refusedNo : Int32) (v_refusedFull : Int32) (x1 : Int32) (H : Heap) (locs : List Loc) (ls : Array Slot), f8_refused_b48 v_refusedBad v_refusedNo v_refusedFull x1 = some (r0, v_refusedBad', v_refusedNo', v_refusedFull') → va_P D vwCl (wdO cB cI cZ cO h v_now v_tried v_past_kept v_past_oldest v_past_size v_all_threads v_all_rows v_all_ended v_all_known v_all_stepsInAll v_all_count v_all_standstills v_all_wrongOnes v_all_unlikeEnds v_meetings_reached v_text_bytes v_text_length v_text_place v_text_thread v_text_kind v_text_target v_text_value v_refusedBad v_refusedNo v_refusedFull) H → va_D A (wdO cB cI cZ cO h v_now v_tried v_past_kept v_past_oldest v_past_size v_all_threads v_all_rows v_all_ended v_all_known v_all_stepsInAll v_all_count v_all_standstills v_all_wrongOnes v_all_unlikeEnds v_meetings_reached v_text_bytes v_text_length v_text_place v_text_thread v_text_kind v_text_target v_text_value v_refusedBad v_refusedNo v_refusedFull) → va_S A s.heap H locs → lv_has ls 2 [(1, .int x1)] → W p l e rm8_refused s m args below meth c H locs 0 0 Q (F0 m 48 ls []) := by
    intro v_refusedBad v_refusedNo v_refusedFull x1 H locs ls hf hP hD hS hl
    rw [f8_refused_b48] at hf
    refine lv_iload_n hx hb dX8_refused_48 rfl (lv_at hl 0 rfl) ?_
    obtain ⟨z1, y1⟩ := Prod.mk.inj (Option.some.inj hf)
    obtain ⟨z2, y2⟩ := Prod.mk.inj y1
    obtain ⟨z3, y3⟩ := Prod.mk.inj y2
    subst z1 z2 z3 y3
    exact hend _ _ _ _ rfl hP hS dX8_refused_49
  rw [f8_refused] at hf
  refine lv_iload_n hx hb dX8_refused_0 rfl (lv_at hl 1 rfl) ?_
  refine lv_bipush (v := (-2)) hx hb dX8_refused_1 (by decide) ?_
  refine lv_icmp_ne (tgt := 19) hx hb dX8_refused_3 (by decide) (fun c1 => ?_) (fun c1 => ?_)
  · rw [if_neg c1] at hf
    refine lv_iload_n hx hb dX8_refused_19 rfl (lv_at hl 1 rfl) ?_
    refine lv_bipush (v := (-3)) hx hb dX8_refused_20 (by decide) ?_
    refine lv_icmp_ne (tgt := 38) hx hb dX8_refused_22 (by decide) (fun c2 => ?_) (fun c2 => ?_)
    · rw [if_neg c2] at hf
      refine lv_aload_n hx hb dX8_refused_38 rfl (lv_at hl 0 rfl) ?_
      refine lv_dup hx hb dX8_refused_39 rfl ?_
      refine va_get (D := D) (cl := vwCl) (ci := 5) (v := .int v_refusedFull) (C := RX8) (T := TX8) (N := 9) hx hb hts hin8 hown hK hP 0 rfl rfl 8 (by decide) (hts (.fieldLink RX8 218 "StepOrders" "refusedFull" "I") (by decide +kernel)) (fun _ h9 => h9) rfl dX8_refused_40 ?_
      refine lv_iconst (v := 1) hx hb dX8_refused_43 (by decide) ?_
      refine lv_iadd hx hb dX8_refused_44 ?_
      refine va_put (D := D) (cl := vwCl) (ci := 5) (v := .int (v_refusedFull + (1 : Int32))) (ty := .int) (C := RX8) (T := TX8) (N := 9) hx hb hts hin8 tyX8 tyX8_ok nmX8 hown hK hP hD hS 0 rfl rfl 8 (by decide) (hts (.fieldLink RX8 218 "StepOrders" "refusedFull" "I") (by decide +kernel)) (fun _ h9 => h9) rfl (tyX8_ok 8 (by decide)) rfl rfl (Nat.le_of_ble_eq_true rfl) dX8_refused_45 (fun H locs hP hD hS => ?_)
      have hP : va_P D vwCl (wdO cB cI cZ cO h v_now v_tried v_past_kept v_past_oldest v_past_size v_all_threads v_all_rows v_all_ended v_all_known v_all_stepsInAll v_all_count v_all_standstills v_all_wrongOnes v_all_unlikeEnds v_meetings_reached v_text_bytes v_text_length v_text_place v_text_thread v_text_kind v_text_target v_text_value v_refusedBad v_refusedNo (v_refusedFull + (1 : Int32))) H := hP
      have hD : va_D A (wdO cB cI cZ cO h v_now v_tried v_past_kept v_past_oldest v_past_size v_all_threads v_all_rows v_all_ended v_all_known v_all_stepsInAll v_all_count v_all_standstills v_all_wrongOnes v_all_unlikeEnds v_meetings_reached v_text_bytes v_text_length v_text_place v_text_thread v_text_kind v_text_target v_text_value v_refusedBad v_refusedNo (v_refusedFull + (1 : Int32))) := hD
      exact J48 v_refusedBad v_refusedNo (v_refusedFull + (1 : Int32)) x1 _ _ _ hf hP hD hS (lv_sub hl [1] rfl)
    · rw [if_pos c2] at hf
      refine lv_aload_n hx hb dX8_refused_25 rfl (lv_at hl 0 rfl) ?_
      refine lv_dup hx hb dX8_refused_26 rfl ?_
      refine va_get (D := D) (cl := vwCl) (ci := 5) (v := .int v_refusedNo) (C := RX8) (T := TX8) (N := 9) hx hb hts hin8 hown hK hP 0 rfl rfl 7 (by decide) (hts (.fieldLink RX8 215 "StepOrders" "refusedNo" "I") (by decide +kernel)) (fun _ h9 => h9) rfl dX8_refused_27 ?_
      refine lv_iconst (v := 1) hx hb dX8_refused_30 (by decide) ?_
      refine lv_iadd hx hb dX8_refused_31 ?_
      refine va_put (D := D) (cl := vwCl) (ci := 5) (v := .int (v_refusedNo + (1 : Int32))) (ty := .int) (C := RX8) (T := TX8) (N := 9) hx hb hts hin8 tyX8 tyX8_ok nmX8 hown hK hP hD hS 0 rfl rfl 7 (by decide) (hts (.fieldLink RX8 215 "StepOrders" "refusedNo" "I") (by decide +kernel)) (fun _ h9 => h9) rfl (tyX8_ok 7 (by decide)) rfl rfl (Nat.le_of_ble_eq_true rfl) dX8_refused_32 (fun H locs hP hD hS => ?_)
      have hP : va_P D vwCl (wdO cB cI cZ cO h v_now v_tried v_past_kept v_past_oldest v_past_size v_all_threads v_all_rows v_all_ended v_all_known v_all_stepsInAll v_all_count v_all_standstills v_all_wrongOnes v_all_unlikeEnds v_meetings_reached v_text_bytes v_text_length v_text_place v_text_thread v_text_kind v_text_target v_text_value v_refusedBad (v_refusedNo + (1 : Int32)) v_refusedFull) H := hP
      have hD : va_D A (wdO cB cI cZ cO h v_now v_tried v_past_kept v_past_oldest v_past_size v_all_threads v_all_rows v_all_ended v_all_known v_all_stepsInAll v_all_count v_all_standstills v_all_wrongOnes v_all_unlikeEnds v_meetings_reached v_text_bytes v_text_length v_text_place v_text_thread v_text_kind v_text_target v_text_value v_refusedBad (v_refusedNo + (1 : Int32)) v_refusedFull) := hD
      refine lv_goto (tgt := 48) hx hb dX8_refused_35 (by decide) ?_
      exact J48 v_refusedBad (v_refusedNo + (1 : Int32)) v_refusedFull x1 _ _ _ hf hP hD hS (lv_sub hl [1] rfl)
  · rw [if_pos c1] at hf
    refine lv_aload_n hx hb dX8_refused_6 rfl (lv_at hl 0 rfl) ?_
    refine lv_dup hx hb dX8_refused_7 rfl ?_
    refine va_get (D := D) (cl := vwCl) (ci := 5) (v := .int v_refusedBad) (C := RX8) (T := TX8) (N := 9) hx hb hts hin8 hown hK hP 0 rfl rfl 6 (by decide) (hts (.fieldLink RX8 211 "StepOrders" "refusedBad" "I") (by decide +kernel)) (fun _ h9 => h9) rfl dX8_refused_8 ?_
    refine lv_iconst (v := 1) hx hb dX8_refused_11 (by decide) ?_
    refine lv_iadd hx hb dX8_refused_12 ?_
    refine va_put (D := D) (cl := vwCl) (ci := 5) (v := .int (v_refusedBad + (1 : Int32))) (ty := .int) (C := RX8) (T := TX8) (N := 9) hx hb hts hin8 tyX8 tyX8_ok nmX8 hown hK hP hD hS 0 rfl rfl 6 (by decide) (hts (.fieldLink RX8 211 "StepOrders" "refusedBad" "I") (by decide +kernel)) (fun _ h9 => h9) rfl (tyX8_ok 6 (by decide)) rfl rfl (Nat.le_of_ble_eq_true rfl) dX8_refused_13 (fun H locs hP hD hS => ?_)
    have hP : va_P D vwCl (wdO cB cI cZ cO h v_now v_tried v_past_kept v_past_oldest v_past_size v_all_threads v_all_rows v_all_ended v_all_known v_all_stepsInAll v_all_count v_all_standstills v_all_wrongOnes v_all_unlikeEnds v_meetings_reached v_text_bytes v_text_length v_text_place v_text_thread v_text_kind v_text_target v_text_value (v_refusedBad + (1 : Int32)) v_refusedNo v_refusedFull) H := hP
    have hD : va_D A (wdO cB cI cZ cO h v_now v_tried v_past_kept v_past_oldest v_past_size v_all_threads v_all_rows v_all_ended v_all_known v_all_stepsInAll v_all_count v_all_standstills v_all_wrongOnes v_all_unlikeEnds v_meetings_reached v_text_bytes v_text_length v_text_place v_text_thread v_text_kind v_text_target v_text_value (v_refusedBad + (1 : Int32)) v_refusedNo v_refusedFull) := hD
    refine lv_goto (tgt := 48) hx hb dX8_refused_16 (by decide) ?_
    exact J48 (v_refusedBad + (1 : Int32)) v_refusedNo v_refusedFull x1 _ _ _ hf hP hD hS (lv_sub hl [1] rfl)

set_option maxHeartbeats 4000000 in
set_option maxRecDepth 100000 in
theorem c8_step (l : Launch) (D : va_G) (cB cI cZ cO : ClassId) (h : Nat → Nat) (sz : Nat) (x1 : Int32) (x2 : Int32) (x3 : Int32) (x4 : Int32) (v_now : sT) (v_tried : sT) (v_past_kept : Nat → sT) (v_past_oldest : Int32) (v_past_size : Int32) (v_all_threads : sT) (v_all_rows : Nat → Int32) (v_all_ended : Nat → Int32) (v_all_known : Int32) (v_all_stepsInAll : Int32) (v_all_count : Int32) (v_all_standstills : Int32) (v_all_wrongOnes : Int32) (v_all_unlikeEnds : Int32) (v_meetings_reached : Nat → Int32) (v_text_bytes : Nat → Int32) (v_text_length : Int32) (v_text_place : Int32) (v_text_thread : Int32) (v_text_kind : Int32) (v_text_target : Int32) (v_text_value : Int32) (v_refusedBad : Int32) (v_refusedNo : Int32) (v_refusedFull : Int32) (r0 : Int32) (v_now' : sT) (v_past_kept' : Nat → sT) (v_past_oldest' : Int32) (v_past_size' : Int32) (v_refusedBad' : Int32) (v_refusedNo' : Int32) (v_refusedFull' : Int32) (hf : f8_step v_now v_past_kept v_past_oldest v_past_size v_refusedBad v_refusedNo v_refusedFull x1 x2 x3 x4 = some (r0, v_now', v_past_kept', v_past_oldest', v_past_size', v_refusedBad', v_refusedNo', v_refusedFull')) : Met l yX8_step wsX8_step rm8_step (va_Pc [.ref (h 0), .int x1, .int x2, .int x3, .int x4] (kb_B D (ka_tys cB cI cZ cO) sz (wdO cB cI cZ cO h v_now v_tried v_past_kept v_past_oldest v_past_size v_all_threads v_all_rows v_all_ended v_all_known v_all_stepsInAll v_all_count v_all_standstills v_all_wrongOnes v_all_unlikeEnds v_meetings_reached v_text_bytes v_text_length v_text_place v_text_thread v_text_kind v_text_target v_text_value v_refusedBad v_refusedNo v_refusedFull))) (va_Qi (kb_post .int r0) (fun _ t => va_P D vwCl (wdO cB cI cZ cO h (v_now') v_tried (v_past_kept') (v_past_oldest') (v_past_size') v_all_threads v_all_rows v_all_ended v_all_known v_all_stepsInAll v_all_count v_all_standstills v_all_wrongOnes v_all_unlikeEnds v_meetings_reached v_text_bytes v_text_length v_text_place v_text_thread v_text_kind v_text_target v_text_value (v_refusedBad') (v_refusedNo') (v_refusedFull')) t.heap) (va_A (wdO cB cI cZ cO h v_now v_tried v_past_kept v_past_oldest v_past_size v_all_threads v_all_rows v_all_ended v_all_known v_all_stepsInAll v_all_count v_all_standstills v_all_wrongOnes v_all_unlikeEnds v_meetings_reached v_text_bytes v_text_length v_text_place v_text_thread v_text_kind v_text_target v_text_value v_refusedBad v_refusedNo v_refusedFull) sz)) 0 0 (va_A (wdO cB cI cZ cO h v_now v_tried v_past_kept v_past_oldest v_past_size v_all_threads v_all_rows v_all_ended v_all_known v_all_stepsInAll v_all_count v_all_standstills v_all_wrongOnes v_all_unlikeEnds v_meetings_reached v_text_bytes v_text_length v_text_place v_text_thread v_text_kind v_text_target v_text_value v_refusedBad v_refusedNo v_refusedFull) sz) := by
  refine kb_metZ (cc := cX8_step) (maxL := 5) (ty := .int) (by decide) rfl (Nat.le_of_ble_eq_true rfl) ?_
  intro p e s m args below meth c Q A ls H hx hb hml hown hts hK hN hP hD hS hA hl hend
  have hown : s.vm.findClass RX8 = some m.cls := hown
  have hl : lv_has ls 5 [(0, .ref (h 0)), (1, .int x1), (2, .int x2), (3, .int x3), (4, .int x4)] := hl
  have hin8 : ∀ w ∈ u_ws RX8 TX8 9, w ∈ wsX8_step := by decide +kernel
  have J18 : ∀ (v_now : sT) (v_past_kept : Nat → sT) (v_past_oldest : Int32) (v_past_size : Int32) (v_refusedBad : Int32) (v_refusedNo : Int32) (v_refusedFull : Int32) (H : Heap) (locs : List Loc) (ls : Array Slot), f8_step_b18 v_now v_past_kept v_past_oldest v_past_size v_refusedBad v_refusedNo v_refusedFull = some (r0, v_now', v_past_kept', v_past_oldest', v_past_size', v_refusedBad', v_refusedNo', v_refusedFull') → va_P D vwCl (wdO cB cI cZ cO h v_now v_tried v_past_kept v_past_oldest v_past_size v_all_threads v_all_rows v_all_ended v_all_known v_all_stepsInAll v_all_count v_all_standstills v_all_wrongOnes v_all_unlikeEnds v_meetings_reached v_text_bytes v_text_length v_text_place v_text_thread v_text_kind v_text_target v_text_value v_refusedBad v_refusedNo v_refusedFull) H → va_D A (wdO cB cI cZ cO h v_now v_tried v_past_kept v_past_oldest v_past_size v_all_threads v_all_rows v_all_ended v_all_known v_all_stepsInAll v_all_count v_all_standstills v_all_wrongOnes v_all_unlikeEnds v_meetings_reached v_text_bytes v_text_length v_text_place v_text_thread v_text_kind v_text_target v_text_value v_refusedBad v_refusedNo v_refusedFull) → va_S A s.heap H locs → lv_has ls 5 [(0, .ref (h 0))] → W p l e rm8_step s m args below meth c H locs 0 0 Q (F0 m 18 ls []) := by
    intro v_now v_past_kept v_past_oldest v_past_size v_refusedBad v_refusedNo v_refusedFull H locs ls hf hP hD hS hl
    rw [f8_step_b18] at hf
    refine lv_aload_n hx hb dX8_step_18 rfl (lv_at hl 0 rfl) ?_
    refine lv_bipush (v := (-2)) hx hb dX8_step_19 (by decide) ?_
    refine kb_bind hf (fun q3 hq3 hf => ?_)
    have hPc : va_P D vwCl (wdO cB cI cZ cO h v_now v_tried v_past_kept v_past_oldest v_past_size v_all_threads v_all_rows v_all_ended v_all_known v_all_stepsInAll v_all_count v_all_standstills v_all_wrongOnes v_all_unlikeEnds v_meetings_reached v_text_bytes v_text_length v_text_place v_text_thread v_text_kind v_text_target v_text_value v_refusedBad v_refusedNo v_refusedFull) H := hP.sub [0, 1, 2, 3, 4, 5, 6, 7, 8, 9, 10, 11, 12, 13, 14, 15, 16, 17, 18, 19, 20, 21, 22, 23, 24, 25, 26, 27, 28, 29, 30, 31, 32, 33] rfl
    have hDc : va_D A (wdO cB cI cZ cO h v_now v_tried v_past_kept v_past_oldest v_past_size v_all_threads v_all_rows v_all_ended v_all_known v_all_stepsInAll v_all_count v_all_standstills v_all_wrongOnes v_all_unlikeEnds v_meetings_reached v_text_bytes v_text_length v_text_place v_text_thread v_text_kind v_text_target v_text_value v_refusedBad v_refusedNo v_refusedFull) := hD.sub [0, 1, 2, 3, 4, 5, 6, 7, 8, 9, 10, 11, 12, 13, 14, 15, 16, 17, 18, 19, 20, 21, 22, 23, 24, 25, 26, 27, 28, 29, 30, 31, 32, 33] (by decide) rfl
    refine kd_iW (ws' := wdO cB cI cZ cO h v_now v_tried v_past_kept v_past_oldest v_past_size v_all_threads v_all_rows v_all_ended v_all_known v_all_stepsInAll v_all_count v_all_standstills v_all_wrongOnes v_all_unlikeEnds v_meetings_reached v_text_bytes v_text_length v_text_place v_text_thread v_text_kind v_text_target v_text_value q3.2.1 q3.2.2.1 q3.2.2.2) (va_runV (As := [.int (-2 : Int32)]) (rest := []) ⟨hx, hb, hml, hown, hts⟩ (c8_refused l D cB cI cZ cO h H.size (-2 : Int32) v_now v_tried v_past_kept v_past_oldest v_past_size v_all_threads v_all_rows v_all_ended v_all_known v_all_stepsInAll v_all_count v_all_standstills v_all_wrongOnes v_all_unlikeEnds v_meetings_reached v_text_bytes v_text_length v_text_place v_text_thread v_text_kind v_text_target v_text_value v_refusedBad v_refusedNo v_refusedFull q3.1 q3.2.1 q3.2.2.1 q3.2.2.2 hq3) (cwV 1 hts gX8_step_X8_refused rfl rfl rfl (by decide +kernel) ⟨Nat.le_of_ble_eq_true rfl, Nat.le_of_ble_eq_true rfl⟩) ⟨kb_blind, va_recv hK hPc (ci := 5) (q0 := 0) rfl rfl, kb_pre hPc hDc hK hN⟩ rfl rfl hl.1 rfl (lv_room (Nat.le_of_ble_eq_true rfl)) dX8_step_21 ⟨Nat.le_refl _, Nat.le_refl _⟩) hP hD hS hA [0, 1, 2, 3, 4, 5, 6, 7, 8, 9, 10, 11, 12, 13, 14, 15, 16, 17, 18, 19, 20, 21, 22, 23, 24, 25, 26, 27, 28, 29, 30, 31, 32, 33] [] rfl rfl (fun _ h9 => absurd h9 List.not_mem_nil) rfl rfl (fun H locs hn4 hP hD hS => ?_)
    obtain ⟨z1, y1⟩ := Prod.mk.inj (Option.some.inj hf)
    obtain ⟨z2, y2⟩ := Prod.mk.inj y1
    obtain ⟨z3, y3⟩ := Prod.mk.inj y2
    obtain ⟨z4, y4⟩ := Prod.mk.inj y3
    obtain ⟨z5, y5⟩ := Prod.mk.inj y4
    obtain ⟨z6, y6⟩ := Prod.mk.inj y5
    obtain ⟨z7, y7⟩ := Prod.mk.inj y6
    subst z1 z2 z3 z4 z5 z6 z7 y7
    exact hend _ _ _ _ rfl hP hS dX8_step_24
  rw [f8_step] at hf
  refine lv_iload_n hx hb dX8_step_0 rfl (lv_at hl 1 rfl) ?_
  refine lv_iconst (v := 3) hx hb dX8_step_1 (by decide) ?_
  have hPc : va_P D vwCl ([]) H := hP.sub [] rfl
  have hDc : va_D A ([]) := hD.sub [] (by decide) rfl
  refine kd_iR (va_runS (As := [.int x1, .int (3 : Int32)]) (rest := []) ⟨hx, hb, hml, hown, hts⟩ (c8_below l D cB cI cZ cO h H.size x1 (3 : Int32) (f8_below x1 (3 : Int32)) rfl) (va_cwS 2 hts gX8_step_X8_below rfl rfl rfl (by decide +kernel) ⟨Nat.le_of_ble_eq_true rfl, Nat.le_of_ble_eq_true rfl⟩) ⟨kb_blind, kb_pre hPc hDc hK hN⟩ rfl rfl hl.1 rfl (lv_room (Nat.le_of_ble_eq_true rfl)) dX8_step_2 ⟨Nat.le_refl _, Nat.le_refl _⟩) hP hD hS hA [] rfl (fun H locs hn5 hP hS => ?_)
  refine lv_if_eq (tgt := 18) hx hb dX8_step_5 (by decide) (fun c6 => ?_) (fun c6 => ?_)
  · rw [if_pos c6] at hf
    exact J18 v_now v_past_kept v_past_oldest v_past_size v_refusedBad v_refusedNo v_refusedFull _ _ _ hf hP hD hS (lv_sub hl [0] rfl)
  · rw [if_neg c6] at hf
    refine lv_iload_n hx hb dX8_step_8 rfl (lv_at hl 2 rfl) ?_
    refine lv_iload_n hx hb dX8_step_9 rfl (lv_at hl 3 rfl) ?_
    refine lv_iload hx hb dX8_step_10 (lv_at hl 4 rfl) ?_
    have hPc : va_P D vwCl ([]) H := hP.sub [] rfl
    have hDc : va_D A ([]) := hD.sub [] (by decide) rfl
    refine kd_iR (va_runS (As := [.int x2, .int x3, .int x4]) (rest := []) ⟨hx, hb, hml, hown, hts⟩ (c6_isOne l D cB cI cZ cO h H.size x2 x3 x4 (f6_isOne x2 x3 x4) rfl) (va_cwS 3 hts gX8_step_X6_isOne rfl rfl rfl (by decide +kernel) ⟨Nat.le_of_ble_eq_true rfl, Nat.le_of_ble_eq_true rfl⟩) ⟨kb_blind, kb_pre hPc hDc hK hN⟩ rfl rfl hl.1 rfl (lv_room (Nat.le_of_ble_eq_true rfl)) dX8_step_12 ⟨Nat.le_refl _, Nat.le_refl _⟩) hP hD hS hA [] rfl (fun H locs hn7 hP hS => ?_)
    refine lv_if_ne (tgt := 25) hx hb dX8_step_15 (by decide) (fun c8 => ?_) (fun c8 => ?_)
    · rw [if_neg c8] at hf
      refine lv_aload_n hx hb dX8_step_25 rfl (lv_at hl 0 rfl) ?_
      refine va_get (D := D) (cl := vwCl) (ci := 5) (v := .ref (h 1)) (C := RX8) (T := TX8) (N := 9) hx hb hts hin8 hown hK hP 0 rfl rfl 0 (by decide) (hts (.fieldLink RX8 12 "StepOrders" "now" "LStepOrders$State;") (by decide +kernel)) (fun _ h9 => h9) rfl dX8_step_26 ?_
      refine lv_iload_n hx hb dX8_step_29 rfl (lv_at hl 1 rfl) ?_
      refine kb_bind hf (fun q9 hq9 hf => ?_)
      have hPc : va_P D vwCl (wdS cI h 1 v_now) H := hP.sub [1, 2, 3] rfl
      have hDc : va_D A (wdS cI h 1 v_now) := hD.sub [1, 2, 3] (by decide) rfl
      refine kd_iR (va_runV (As := [.int x1]) (rest := []) ⟨hx, hb, hml, hown, hts⟩ (c5_stepsOf l D cB cI cZ cO h 1 H.size x1 v_now q9 hq9) (cwV 1 hts gX8_step_X5_stepsOf rfl rfl rfl (by decide +kernel) ⟨Nat.le_of_ble_eq_true rfl, Nat.le_of_ble_eq_true rfl⟩) ⟨kb_blind, va_recv hK hPc (ci := 3) (q0 := 0) rfl rfl, kb_pre hPc hDc hK hN⟩ rfl rfl hl.1 rfl (lv_room (Nat.le_of_ble_eq_true rfl)) dX8_step_30 ⟨Nat.le_refl _, Nat.le_refl _⟩) hP hD hS hA [1, 2, 3] rfl (fun H locs hn10 hP hS => ?_)
      refine lv_iconst (v := 4) hx hb dX8_step_33 (by decide) ?_
      refine lv_icmp_lt (tgt := 44) hx hb dX8_step_34 (by decide) (fun c11 => ?_) (fun c11 => ?_)
      · rw [if_pos c11] at hf
        refine lv_aload_n hx hb dX8_step_44 rfl (lv_at hl 0 rfl) ?_
        refine va_get (D := D) (cl := vwCl) (ci := 5) (v := .ref (h 7)) (C := RX8) (T := TX8) (N := 9) hx hb hts hin8 hown hK hP 0 rfl rfl 2 (by decide) (hts (.fieldLink RX8 22 "StepOrders" "past" "LStepOrders$Past;") (by decide +kernel)) (fun _ h9 => h9) rfl dX8_step_45 ?_
        refine lv_aload_n hx hb dX8_step_48 rfl (lv_at hl 0 rfl) ?_
        refine va_get (D := D) (cl := vwCl) (ci := 5) (v := .ref (h 1)) (C := RX8) (T := TX8) (N := 9) hx hb hts hin8 hown hK hP 0 rfl rfl 0 (by decide) (hts (.fieldLink RX8 12 "StepOrders" "now" "LStepOrders$State;") (by decide +kernel)) (fun _ h9 => h9) rfl dX8_step_49 ?_
        refine kb_bind hf (fun q12 hq12 hf => ?_)
        have hPc : va_P D vwCl (wdP cI cO h 7 v_past_kept v_past_oldest v_past_size ++ wdS cI h 1 v_now) H := hP.sub [7, 8, 9, 10, 11, 12, 13, 14, 15, 16, 17, 18, 19, 20, 21, 22, 23, 1, 2, 3] rfl
        have hDc : va_D A (wdP cI cO h 7 v_past_kept v_past_oldest v_past_size ++ wdS cI h 1 v_now) := hD.sub [7, 8, 9, 10, 11, 12, 13, 14, 15, 16, 17, 18, 19, 20, 21, 22, 23, 1, 2, 3] (by decide) rfl
        refine kd_vW (ws' := wdO cB cI cZ cO h v_now v_tried q12.1 q12.2.1 q12.2.2 v_all_threads v_all_rows v_all_ended v_all_known v_all_stepsInAll v_all_count v_all_standstills v_all_wrongOnes v_all_unlikeEnds v_meetings_reached v_text_bytes v_text_length v_text_place v_text_thread v_text_kind v_text_target v_text_value v_refusedBad v_refusedNo v_refusedFull) (va_runV (As := [.ref (h 1)]) (rest := []) ⟨hx, hb, hml, hown, hts⟩ (c3_keep l D cB cI cZ cO h 7 1 H.size v_past_kept v_past_oldest v_past_size v_now q12.1 q12.2.1 q12.2.2 hq12) (cwV 1 hts gX8_step_X3_keep rfl rfl rfl (by decide +kernel) ⟨Nat.le_of_ble_eq_true rfl, Nat.le_of_ble_eq_true rfl⟩) ⟨kb_blind, va_recv hK hPc (ci := 2) (q0 := 0) rfl rfl, kb_pre hPc hDc hK hN⟩ rfl rfl hl.1 rfl (lv_room (Nat.le_of_ble_eq_true rfl)) dX8_step_52 ⟨Nat.le_refl _, Nat.le_refl _⟩) hP hD hS hA [7, 8, 9, 10, 11, 12, 13, 14, 15, 16, 17, 18, 19, 20, 21, 22, 23, 1, 2, 3] [0, 4, 5, 6, 24, 25, 26, 27, 28, 29, 30, 31, 32, 33] rfl rfl (List.forall_mem_cons.mpr ⟨rfl, (List.forall_mem_cons.mpr ⟨rfl, (List.forall_mem_cons.mpr ⟨rfl, (List.forall_mem_cons.mpr ⟨rfl, (List.forall_mem_cons.mpr ⟨rfl, (List.forall_mem_cons.mpr ⟨rfl, (List.forall_mem_cons.mpr ⟨rfl, (List.forall_mem_cons.mpr ⟨rfl, (List.forall_mem_cons.mpr ⟨rfl, (List.forall_mem_cons.mpr ⟨rfl, (List.forall_mem_cons.mpr ⟨rfl, (List.forall_mem_cons.mpr ⟨rfl, (List.forall_mem_cons.mpr ⟨rfl, (List.forall_mem_cons.mpr ⟨rfl, (fun _ h9 => absurd h9 List.not_mem_nil)⟩)⟩)⟩)⟩)⟩)⟩)⟩)⟩)⟩)⟩)⟩)⟩)⟩)⟩) rfl rfl (fun H locs hP hD hS => ?_)
        refine lv_aload_n hx hb dX8_step_55 rfl (lv_at hl 0 rfl) ?_
        refine va_get (D := D) (cl := vwCl) (ci := 5) (v := .ref (h 1)) (C := RX8) (T := TX8) (N := 9) hx hb hts hin8 hown hK hP 0 rfl rfl 0 (by decide) (hts (.fieldLink RX8 12 "StepOrders" "now" "LStepOrders$State;") (by decide +kernel)) (fun _ h9 => h9) rfl dX8_step_56 ?_
        refine lv_iload_n hx hb dX8_step_59 rfl (lv_at hl 1 rfl) ?_
        refine lv_iload_n hx hb dX8_step_60 rfl (lv_at hl 2 rfl) ?_
        refine lv_iload_n hx hb dX8_step_61 rfl (lv_at hl 3 rfl) ?_
        refine lv_iload hx hb dX8_step_62 (lv_at hl 4 rfl) ?_
        have hPc : va_P D vwCl ([]) H := hP.sub [] rfl
        have hDc : va_D A ([]) := hD.sub [] (by decide) rfl
        refine kd_iR (va_runS (As := [.int x2, .int x3, .int x4]) (rest := [.int x1, .ref (h 1)]) ⟨hx, hb, hml, hown, hts⟩ (c6_packed l D cB cI cZ cO h H.size x2 x3 x4 (f6_packed x2 x3 x4) rfl) (va_cwS 3 hts gX8_step_X6_packed rfl rfl rfl (by decide +kernel) ⟨Nat.le_of_ble_eq_true rfl, Nat.le_of_ble_eq_true rfl⟩) ⟨kb_blind, kb_pre hPc hDc hK hN⟩ rfl rfl hl.1 rfl (lv_room (Nat.le_of_ble_eq_true rfl)) dX8_step_64 ⟨Nat.le_refl _, Nat.le_refl _⟩) hP hD hS hA [] rfl (fun H locs hn13 hP hS => ?_)
        refine kb_bind hf (fun q14 hq14 hf => ?_)
        have hPc : va_P D vwCl (wdS cI h 1 v_now) H := hP.sub [1, 2, 3] rfl
        have hDc : va_D A (wdS cI h 1 v_now) := hD.sub [1, 2, 3] (by decide) rfl
        refine kd_vW (ws' := wdO cB cI cZ cO h q14 v_tried q12.1 q12.2.1 q12.2.2 v_all_threads v_all_rows v_all_ended v_all_known v_all_stepsInAll v_all_count v_all_standstills v_all_wrongOnes v_all_unlikeEnds v_meetings_reached v_text_bytes v_text_length v_text_place v_text_thread v_text_kind v_text_target v_text_value v_refusedBad v_refusedNo v_refusedFull) (va_runV (As := [.int x1, .int (f6_packed x2 x3 x4)]) (rest := []) ⟨hx, hb, hml, hown, hts⟩ (c5_addStep l D cB cI cZ cO h 1 H.size x1 (f6_packed x2 x3 x4) v_now q14 hq14) (cwV 2 hts gX8_step_X5_addStep rfl rfl rfl (by decide +kernel) ⟨Nat.le_of_ble_eq_true rfl, Nat.le_of_ble_eq_true rfl⟩) ⟨kb_blind, va_recv hK hPc (ci := 3) (q0 := 0) rfl rfl, kb_pre hPc hDc hK hN⟩ rfl rfl hl.1 rfl (lv_room (Nat.le_of_ble_eq_true rfl)) dX8_step_67 ⟨Nat.le_refl _, Nat.le_refl _⟩) hP hD hS hA [1, 2, 3] [0, 4, 5, 6, 7, 8, 9, 10, 11, 12, 13, 14, 15, 16, 17, 18, 19, 20, 21, 22, 23, 24, 25, 26, 27, 28, 29, 30, 31, 32, 33] rfl rfl (List.forall_mem_cons.mpr ⟨rfl, (List.forall_mem_cons.mpr ⟨rfl, (List.forall_mem_cons.mpr ⟨rfl, (List.forall_mem_cons.mpr ⟨rfl, (List.forall_mem_cons.mpr ⟨rfl, (List.forall_mem_cons.mpr ⟨rfl, (List.forall_mem_cons.mpr ⟨rfl, (List.forall_mem_cons.mpr ⟨rfl, (List.forall_mem_cons.mpr ⟨rfl, (List.forall_mem_cons.mpr ⟨rfl, (List.forall_mem_cons.mpr ⟨rfl, (List.forall_mem_cons.mpr ⟨rfl, (List.forall_mem_cons.mpr ⟨rfl, (List.forall_mem_cons.mpr ⟨rfl, (List.forall_mem_cons.mpr ⟨rfl, (List.forall_mem_cons.mpr ⟨rfl, (List.forall_mem_cons.mpr ⟨rfl, (List.forall_mem_cons.mpr ⟨rfl, (List.forall_mem_cons.mpr ⟨rfl, (List.forall_mem_cons.mpr ⟨rfl, (List.forall_mem_cons.mpr ⟨rfl, (List.forall_mem_cons.mpr ⟨rfl, (List.forall_mem_cons.mpr ⟨rfl, (List.forall_mem_cons.mpr ⟨rfl, (List.forall_mem_cons.mpr ⟨rfl, (List.forall_mem_cons.mpr ⟨rfl, (List.forall_mem_cons.mpr ⟨rfl, (List.forall_mem_cons.mpr ⟨rfl, (List.forall_mem_cons.mpr ⟨rfl, (List.forall_mem_cons.mpr ⟨rfl, (List.forall_mem_cons.mpr ⟨rfl, (fun _ h9 => absurd h9 List.not_mem_nil)⟩)⟩)⟩)⟩)⟩)⟩)⟩)⟩)⟩)⟩)⟩)⟩)⟩)⟩)⟩)⟩)⟩)⟩)⟩)⟩)⟩)⟩)⟩)⟩)⟩)⟩)⟩)⟩)⟩)⟩)⟩) rfl rfl (fun H locs hP hD hS => ?_)
        refine lv_aload_n hx hb dX8_step_70 rfl (lv_at hl 0 rfl) ?_
        refine va_get (D := D) (cl := vwCl) (ci := 5) (v := .ref (h 1)) (C := RX8) (T := TX8) (N := 9) hx hb hts hin8 hown hK hP 0 rfl rfl 0 (by decide) (hts (.fieldLink RX8 12 "StepOrders" "now" "LStepOrders$State;") (by decide +kernel)) (fun _ h9 => h9) rfl dX8_step_71 ?_
        refine lv_iload_n hx hb dX8_step_74 rfl (lv_at hl 1 rfl) ?_
        refine kb_bind hf (fun q15 hq15 hf => ?_)
        have hPc : va_P D vwCl (wdS cI h 1 q14) H := hP.sub [1, 2, 3] rfl
        have hDc : va_D A (wdS cI h 1 q14) := hD.sub [1, 2, 3] (by decide) rfl
        refine kd_iR (va_runV (As := [.int x1]) (rest := []) ⟨hx, hb, hml, hown, hts⟩ (c5_stepsOf l D cB cI cZ cO h 1 H.size x1 q14 q15 hq15) (cwV 1 hts gX8_step_X5_stepsOf rfl rfl rfl (by decide +kernel) ⟨Nat.le_of_ble_eq_true rfl, Nat.le_of_ble_eq_true rfl⟩) ⟨kb_blind, va_recv hK hPc (ci := 3) (q0 := 0) rfl rfl, kb_pre hPc hDc hK hN⟩ rfl rfl hl.1 rfl (lv_room (Nat.le_of_ble_eq_true rfl)) dX8_step_75 ⟨Nat.le_refl _, Nat.le_refl _⟩) hP hD hS hA [1, 2, 3] rfl (fun H locs hn16 hP hS => ?_)
        refine lv_iconst (v := 1) hx hb dX8_step_78 (by decide) ?_
        refine lv_isub hx hb dX8_step_79 ?_
        obtain ⟨z1, y1⟩ := Prod.mk.inj (Option.some.inj hf)
        obtain ⟨z2, y2⟩ := Prod.mk.inj y1
        obtain ⟨z3, y3⟩ := Prod.mk.inj y2
        obtain ⟨z4, y4⟩ := Prod.mk.inj y3
        obtain ⟨z5, y5⟩ := Prod.mk.inj y4
        obtain ⟨z6, y6⟩ := Prod.mk.inj y5
        obtain ⟨z7, y7⟩ := Prod.mk.inj y6
        subst z1 z2 z3 z4 z5 z6 z7 y7
        exact hend _ _ _ _ rfl hP hS dX8_step_80
      · rw [if_neg c11] at hf
        refine lv_aload_n hx hb dX8_step_37 rfl (lv_at hl 0 rfl) ?_
        refine lv_bipush (v := (-4)) hx hb dX8_step_38 (by decide) ?_
        refine kb_bind hf (fun q17 hq17 hf => ?_)
        have hPc : va_P D vwCl (wdO cB cI cZ cO h v_now v_tried v_past_kept v_past_oldest v_past_size v_all_threads v_all_rows v_all_ended v_all_known v_all_stepsInAll v_all_count v_all_standstills v_all_wrongOnes v_all_unlikeEnds v_meetings_reached v_text_bytes v_text_length v_text_place v_text_thread v_text_kind v_text_target v_text_value v_refusedBad v_refusedNo v_refusedFull) H := hP.sub [0, 1, 2, 3, 4, 5, 6, 7, 8, 9, 10, 11, 12, 13, 14, 15, 16, 17, 18, 19, 20, 21, 22, 23, 24, 25, 26, 27, 28, 29, 30, 31, 32, 33] rfl
        have hDc : va_D A (wdO cB cI cZ cO h v_now v_tried v_past_kept v_past_oldest v_past_size v_all_threads v_all_rows v_all_ended v_all_known v_all_stepsInAll v_all_count v_all_standstills v_all_wrongOnes v_all_unlikeEnds v_meetings_reached v_text_bytes v_text_length v_text_place v_text_thread v_text_kind v_text_target v_text_value v_refusedBad v_refusedNo v_refusedFull) := hD.sub [0, 1, 2, 3, 4, 5, 6, 7, 8, 9, 10, 11, 12, 13, 14, 15, 16, 17, 18, 19, 20, 21, 22, 23, 24, 25, 26, 27, 28, 29, 30, 31, 32, 33] (by decide) rfl
        refine kd_iW (ws' := wdO cB cI cZ cO h v_now v_tried v_past_kept v_past_oldest v_past_size v_all_threads v_all_rows v_all_ended v_all_known v_all_stepsInAll v_all_count v_all_standstills v_all_wrongOnes v_all_unlikeEnds v_meetings_reached v_text_bytes v_text_length v_text_place v_text_thread v_text_kind v_text_target v_text_value q17.2.1 q17.2.2.1 q17.2.2.2) (va_runV (As := [.int (-4 : Int32)]) (rest := []) ⟨hx, hb, hml, hown, hts⟩ (c8_refused l D cB cI cZ cO h H.size (-4 : Int32) v_now v_tried v_past_kept v_past_oldest v_past_size v_all_threads v_all_rows v_all_ended v_all_known v_all_stepsInAll v_all_count v_all_standstills v_all_wrongOnes v_all_unlikeEnds v_meetings_reached v_text_bytes v_text_length v_text_place v_text_thread v_text_kind v_text_target v_text_value v_refusedBad v_refusedNo v_refusedFull q17.1 q17.2.1 q17.2.2.1 q17.2.2.2 hq17) (cwV 1 hts gX8_step_X8_refused rfl rfl rfl (by decide +kernel) ⟨Nat.le_of_ble_eq_true rfl, Nat.le_of_ble_eq_true rfl⟩) ⟨kb_blind, va_recv hK hPc (ci := 5) (q0 := 0) rfl rfl, kb_pre hPc hDc hK hN⟩ rfl rfl hl.1 rfl (lv_room (Nat.le_of_ble_eq_true rfl)) dX8_step_40 ⟨Nat.le_refl _, Nat.le_refl _⟩) hP hD hS hA [0, 1, 2, 3, 4, 5, 6, 7, 8, 9, 10, 11, 12, 13, 14, 15, 16, 17, 18, 19, 20, 21, 22, 23, 24, 25, 26, 27, 28, 29, 30, 31, 32, 33] [] rfl rfl (fun _ h9 => absurd h9 List.not_mem_nil) rfl rfl (fun H locs hn18 hP hD hS => ?_)
        obtain ⟨z1, y1⟩ := Prod.mk.inj (Option.some.inj hf)
        obtain ⟨z2, y2⟩ := Prod.mk.inj y1
        obtain ⟨z3, y3⟩ := Prod.mk.inj y2
        obtain ⟨z4, y4⟩ := Prod.mk.inj y3
        obtain ⟨z5, y5⟩ := Prod.mk.inj y4
        obtain ⟨z6, y6⟩ := Prod.mk.inj y5
        obtain ⟨z7, y7⟩ := Prod.mk.inj y6
        subst z1 z2 z3 z4 z5 z6 z7 y7
        exact hend _ _ _ _ rfl hP hS dX8_step_43
    · rw [if_pos c8] at hf
      exact J18 v_now v_past_kept v_past_oldest v_past_size v_refusedBad v_refusedNo v_refusedFull _ _ _ hf hP hD hS (lv_sub hl [0] rfl)

set_option maxHeartbeats 4000000 in
set_option maxRecDepth 100000 in
theorem c8_drops (l : Launch) (D : va_G) (cB cI cZ cO : ClassId) (h : Nat → Nat) (sz : Nat) (x1 : Int32) (v_now : sT) (v_tried : sT) (v_past_kept : Nat → sT) (v_past_oldest : Int32) (v_past_size : Int32) (v_all_threads : sT) (v_all_rows : Nat → Int32) (v_all_ended : Nat → Int32) (v_all_known : Int32) (v_all_stepsInAll : Int32) (v_all_count : Int32) (v_all_standstills : Int32) (v_all_wrongOnes : Int32) (v_all_unlikeEnds : Int32) (v_meetings_reached : Nat → Int32) (v_text_bytes : Nat → Int32) (v_text_length : Int32) (v_text_place : Int32) (v_text_thread : Int32) (v_text_kind : Int32) (v_text_target : Int32) (v_text_value : Int32) (v_refusedBad : Int32) (v_refusedNo : Int32) (v_refusedFull : Int32) (r0 : Int32) (v_now' : sT) (v_past_kept' : Nat → sT) (v_past_oldest' : Int32) (v_past_size' : Int32) (v_refusedBad' : Int32) (v_refusedNo' : Int32) (v_refusedFull' : Int32) (hf : f8_drops v_now v_past_kept v_past_oldest v_past_size v_refusedBad v_refusedNo v_refusedFull x1 = some (r0, v_now', v_past_kept', v_past_oldest', v_past_size', v_refusedBad', v_refusedNo', v_refusedFull')) : Met l yX8_drops wsX8_drops rm8_drops (va_Pc [.ref (h 0), .int x1] (kb_B D (ka_tys cB cI cZ cO) sz (wdO cB cI cZ cO h v_now v_tried v_past_kept v_past_oldest v_past_size v_all_threads v_all_rows v_all_ended v_all_known v_all_stepsInAll v_all_count v_all_standstills v_all_wrongOnes v_all_unlikeEnds v_meetings_reached v_text_bytes v_text_length v_text_place v_text_thread v_text_kind v_text_target v_text_value v_refusedBad v_refusedNo v_refusedFull))) (va_Qi (kb_post .int r0) (fun _ t => va_P D vwCl (wdO cB cI cZ cO h (v_now') v_tried (v_past_kept') (v_past_oldest') (v_past_size') v_all_threads v_all_rows v_all_ended v_all_known v_all_stepsInAll v_all_count v_all_standstills v_all_wrongOnes v_all_unlikeEnds v_meetings_reached v_text_bytes v_text_length v_text_place v_text_thread v_text_kind v_text_target v_text_value (v_refusedBad') (v_refusedNo') (v_refusedFull')) t.heap) (va_A (wdO cB cI cZ cO h v_now v_tried v_past_kept v_past_oldest v_past_size v_all_threads v_all_rows v_all_ended v_all_known v_all_stepsInAll v_all_count v_all_standstills v_all_wrongOnes v_all_unlikeEnds v_meetings_reached v_text_bytes v_text_length v_text_place v_text_thread v_text_kind v_text_target v_text_value v_refusedBad v_refusedNo v_refusedFull) sz)) 0 0 (va_A (wdO cB cI cZ cO h v_now v_tried v_past_kept v_past_oldest v_past_size v_all_threads v_all_rows v_all_ended v_all_known v_all_stepsInAll v_all_count v_all_standstills v_all_wrongOnes v_all_unlikeEnds v_meetings_reached v_text_bytes v_text_length v_text_place v_text_thread v_text_kind v_text_target v_text_value v_refusedBad v_refusedNo v_refusedFull) sz) := by
  refine kb_metZ (cc := cX8_drops) (maxL := 2) (ty := .int) (by decide) rfl (Nat.le_of_ble_eq_true rfl) ?_
  intro p e s m args below meth c Q A ls H hx hb hml hown hts hK hN hP hD hS hA hl hend
  have hown : s.vm.findClass RX8 = some m.cls := hown
  have hl : lv_has ls 2 [(0, .ref (h 0)), (1, .int x1)] := hl
  have hin8 : ∀ w ∈ u_ws RX8 TX8 9, w ∈ wsX8_drops := by decide +kernel
  rw [f8_drops] at hf
  refine lv_iload_n hx hb dX8_drops_0 rfl (lv_at hl 1 rfl) ?_
  refine lv_iconst (v := 3) hx hb dX8_drops_1 (by decide) ?_
  have hPc : va_P D vwCl ([]) H := hP.sub [] rfl
  have hDc : va_D A ([]) := hD.sub [] (by decide) rfl
  refine kd_iR (va_runS (As := [.int x1, .int (3 : Int32)]) (rest := []) ⟨hx, hb, hml, hown, hts⟩ (c8_below l D cB cI cZ cO h H.size x1 (3 : Int32) (f8_below x1 (3 : Int32)) rfl) (va_cwS 2 hts gX8_drops_X8_below rfl rfl rfl (by decide +kernel) ⟨Nat.le_of_ble_eq_true rfl, Nat.le_of_ble_eq_true rfl⟩) ⟨kb_blind, kb_pre hPc hDc hK hN⟩ rfl rfl hl.1 rfl (lv_room (Nat.le_of_ble_eq_true rfl)) dX8_drops_2 ⟨Nat.le_refl _, Nat.le_refl _⟩) hP hD hS hA [] rfl (fun H locs hn1 hP hS => ?_)
  refine lv_if_ne (tgt := 15) hx hb dX8_drops_5 (by decide) (fun c2 => ?_) (fun c2 => ?_)
  · rw [if_neg c2] at hf
    refine lv_aload_n hx hb dX8_drops_15 rfl (lv_at hl 0 rfl) ?_
    refine va_get (D := D) (cl := vwCl) (ci := 5) (v := .ref (h 1)) (C := RX8) (T := TX8) (N := 9) hx hb hts hin8 hown hK hP 0 rfl rfl 0 (by decide) (hts (.fieldLink RX8 12 "StepOrders" "now" "LStepOrders$State;") (by decide +kernel)) (fun _ h9 => h9) rfl dX8_drops_16 ?_
    refine lv_iload_n hx hb dX8_drops_19 rfl (lv_at hl 1 rfl) ?_
    refine kb_bind hf (fun q3 hq3 hf => ?_)
    have hPc : va_P D vwCl (wdS cI h 1 v_now) H := hP.sub [1, 2, 3] rfl
    have hDc : va_D A (wdS cI h 1 v_now) := hD.sub [1, 2, 3] (by decide) rfl
    refine kd_iR (va_runV (As := [.int x1]) (rest := []) ⟨hx, hb, hml, hown, hts⟩ (c5_stepsOf l D cB cI cZ cO h 1 H.size x1 v_now q3 hq3) (cwV 1 hts gX8_drops_X5_stepsOf rfl rfl rfl (by decide +kernel) ⟨Nat.le_of_ble_eq_true rfl, Nat.le_of_ble_eq_true rfl⟩) ⟨kb_blind, va_recv hK hPc (ci := 3) (q0 := 0) rfl rfl, kb_pre hPc hDc hK hN⟩ rfl rfl hl.1 rfl (lv_room (Nat.le_of_ble_eq_true rfl)) dX8_drops_20 ⟨Nat.le_refl _, Nat.le_refl _⟩) hP hD hS hA [1, 2, 3] rfl (fun H locs hn4 hP hS => ?_)
    refine lv_if_ne (tgt := 33) hx hb dX8_drops_23 (by decide) (fun c5 => ?_) (fun c5 => ?_)
    · rw [if_neg c5] at hf
      refine lv_aload_n hx hb dX8_drops_33 rfl (lv_at hl 0 rfl) ?_
      refine va_get (D := D) (cl := vwCl) (ci := 5) (v := .ref (h 7)) (C := RX8) (T := TX8) (N := 9) hx hb hts hin8 hown hK hP 0 rfl rfl 2 (by decide) (hts (.fieldLink RX8 22 "StepOrders" "past" "LStepOrders$Past;") (by decide +kernel)) (fun _ h9 => h9) rfl dX8_drops_34 ?_
      refine lv_aload_n hx hb dX8_drops_37 rfl (lv_at hl 0 rfl) ?_
      refine va_get (D := D) (cl := vwCl) (ci := 5) (v := .ref (h 1)) (C := RX8) (T := TX8) (N := 9) hx hb hts hin8 hown hK hP 0 rfl rfl 0 (by decide) (hts (.fieldLink RX8 12 "StepOrders" "now" "LStepOrders$State;") (by decide +kernel)) (fun _ h9 => h9) rfl dX8_drops_38 ?_
      refine kb_bind hf (fun q6 hq6 hf => ?_)
      have hPc : va_P D vwCl (wdP cI cO h 7 v_past_kept v_past_oldest v_past_size ++ wdS cI h 1 v_now) H := hP.sub [7, 8, 9, 10, 11, 12, 13, 14, 15, 16, 17, 18, 19, 20, 21, 22, 23, 1, 2, 3] rfl
      have hDc : va_D A (wdP cI cO h 7 v_past_kept v_past_oldest v_past_size ++ wdS cI h 1 v_now) := hD.sub [7, 8, 9, 10, 11, 12, 13, 14, 15, 16, 17, 18, 19, 20, 21, 22, 23, 1, 2, 3] (by decide) rfl
      refine kd_vW (ws' := wdO cB cI cZ cO h v_now v_tried q6.1 q6.2.1 q6.2.2 v_all_threads v_all_rows v_all_ended v_all_known v_all_stepsInAll v_all_count v_all_standstills v_all_wrongOnes v_all_unlikeEnds v_meetings_reached v_text_bytes v_text_length v_text_place v_text_thread v_text_kind v_text_target v_text_value v_refusedBad v_refusedNo v_refusedFull) (va_runV (As := [.ref (h 1)]) (rest := []) ⟨hx, hb, hml, hown, hts⟩ (c3_keep l D cB cI cZ cO h 7 1 H.size v_past_kept v_past_oldest v_past_size v_now q6.1 q6.2.1 q6.2.2 hq6) (cwV 1 hts gX8_drops_X3_keep rfl rfl rfl (by decide +kernel) ⟨Nat.le_of_ble_eq_true rfl, Nat.le_of_ble_eq_true rfl⟩) ⟨kb_blind, va_recv hK hPc (ci := 2) (q0 := 0) rfl rfl, kb_pre hPc hDc hK hN⟩ rfl rfl hl.1 rfl (lv_room (Nat.le_of_ble_eq_true rfl)) dX8_drops_41 ⟨Nat.le_refl _, Nat.le_refl _⟩) hP hD hS hA [7, 8, 9, 10, 11, 12, 13, 14, 15, 16, 17, 18, 19, 20, 21, 22, 23, 1, 2, 3] [0, 4, 5, 6, 24, 25, 26, 27, 28, 29, 30, 31, 32, 33] rfl rfl (List.forall_mem_cons.mpr ⟨rfl, (List.forall_mem_cons.mpr ⟨rfl, (List.forall_mem_cons.mpr ⟨rfl, (List.forall_mem_cons.mpr ⟨rfl, (List.forall_mem_cons.mpr ⟨rfl, (List.forall_mem_cons.mpr ⟨rfl, (List.forall_mem_cons.mpr ⟨rfl, (List.forall_mem_cons.mpr ⟨rfl, (List.forall_mem_cons.mpr ⟨rfl, (List.forall_mem_cons.mpr ⟨rfl, (List.forall_mem_cons.mpr ⟨rfl, (List.forall_mem_cons.mpr ⟨rfl, (List.forall_mem_cons.mpr ⟨rfl, (List.forall_mem_cons.mpr ⟨rfl, (fun _ h9 => absurd h9 List.not_mem_nil)⟩)⟩)⟩)⟩)⟩)⟩)⟩)⟩)⟩)⟩)⟩)⟩)⟩)⟩) rfl rfl (fun H locs hP hD hS => ?_)
      refine lv_aload_n hx hb dX8_drops_44 rfl (lv_at hl 0 rfl) ?_
      refine va_get (D := D) (cl := vwCl) (ci := 5) (v := .ref (h 1)) (C := RX8) (T := TX8) (N := 9) hx hb hts hin8 hown hK hP 0 rfl rfl 0 (by decide) (hts (.fieldLink RX8 12 "StepOrders" "now" "LStepOrders$State;") (by decide +kernel)) (fun _ h9 => h9) rfl dX8_drops_45 ?_
      refine lv_iload_n hx hb dX8_drops_48 rfl (lv_at hl 1 rfl) ?_
      refine kb_bind hf (fun q7 hq7 hf => ?_)
      have hPc : va_P D vwCl (wdS cI h 1 v_now) H := hP.sub [1, 2, 3] rfl
      have hDc : va_D A (wdS cI h 1 v_now) := hD.sub [1, 2, 3] (by decide) rfl
      refine kd_vW (ws' := wdO cB cI cZ cO h q7 v_tried q6.1 q6.2.1 q6.2.2 v_all_threads v_all_rows v_all_ended v_all_known v_all_stepsInAll v_all_count v_all_standstills v_all_wrongOnes v_all_unlikeEnds v_meetings_reached v_text_bytes v_text_length v_text_place v_text_thread v_text_kind v_text_target v_text_value v_refusedBad v_refusedNo v_refusedFull) (va_runV (As := [.int x1]) (rest := []) ⟨hx, hb, hml, hown, hts⟩ (c5_dropStep l D cB cI cZ cO h 1 H.size x1 v_now q7 hq7) (cwV 1 hts gX8_drops_X5_dropStep rfl rfl rfl (by decide +kernel) ⟨Nat.le_of_ble_eq_true rfl, Nat.le_of_ble_eq_true rfl⟩) ⟨kb_blind, va_recv hK hPc (ci := 3) (q0 := 0) rfl rfl, kb_pre hPc hDc hK hN⟩ rfl rfl hl.1 rfl (lv_room (Nat.le_of_ble_eq_true rfl)) dX8_drops_49 ⟨Nat.le_refl _, Nat.le_refl _⟩) hP hD hS hA [1, 2, 3] [0, 4, 5, 6, 7, 8, 9, 10, 11, 12, 13, 14, 15, 16, 17, 18, 19, 20, 21, 22, 23, 24, 25, 26, 27, 28, 29, 30, 31, 32, 33] rfl rfl (List.forall_mem_cons.mpr ⟨rfl, (List.forall_mem_cons.mpr ⟨rfl, (List.forall_mem_cons.mpr ⟨rfl, (List.forall_mem_cons.mpr ⟨rfl, (List.forall_mem_cons.mpr ⟨rfl, (List.forall_mem_cons.mpr ⟨rfl, (List.forall_mem_cons.mpr ⟨rfl, (List.forall_mem_cons.mpr ⟨rfl, (List.forall_mem_cons.mpr ⟨rfl, (List.forall_mem_cons.mpr ⟨rfl, (List.forall_mem_cons.mpr ⟨rfl, (List.forall_mem_cons.mpr ⟨rfl, (List.forall_mem_cons.mpr ⟨rfl, (List.forall_mem_cons.mpr ⟨rfl, (List.forall_mem_cons.mpr ⟨rfl, (List.forall_mem_cons.mpr ⟨rfl, (List.forall_mem_cons.mpr ⟨rfl, (List.forall_mem_cons.mpr ⟨rfl, (List.forall_mem_cons.mpr ⟨rfl, (List.forall_mem_cons.mpr ⟨rfl, (List.forall_mem_cons.mpr ⟨rfl, (List.forall_mem_cons.mpr ⟨rfl, (List.forall_mem_cons.mpr ⟨rfl, (List.forall_mem_cons.mpr ⟨rfl, (List.forall_mem_cons.mpr ⟨rfl, (List.forall_mem_cons.mpr ⟨rfl, (List.forall_mem_cons.mpr ⟨rfl, (List.forall_mem_cons.mpr ⟨rfl, (List.forall_mem_cons.mpr ⟨rfl, (List.forall_mem_cons.mpr ⟨rfl, (List.forall_mem_cons.mpr ⟨rfl, (fun _ h9 => absurd h9 List.not_mem_nil)⟩)⟩)⟩)⟩)⟩)⟩)⟩)⟩)⟩)⟩)⟩)⟩)⟩)⟩)⟩)⟩)⟩)⟩)⟩)⟩)⟩)⟩)⟩)⟩)⟩)⟩)⟩)⟩)⟩)⟩)⟩) rfl rfl (fun H locs hP hD hS => ?_)
      refine lv_aload_n hx hb dX8_drops_52 rfl (lv_at hl 0 rfl) ?_
      refine va_get (D := D) (cl := vwCl) (ci := 5) (v := .ref (h 1)) (C := RX8) (T := TX8) (N := 9) hx hb hts hin8 hown hK hP 0 rfl rfl 0 (by decide) (hts (.fieldLink RX8 12 "StepOrders" "now" "LStepOrders$State;") (by decide +kernel)) (fun _ h9 => h9) rfl dX8_drops_53 ?_
      refine lv_iload_n hx hb dX8_drops_56 rfl (lv_at hl 1 rfl) ?_
      refine kb_bind hf (fun q8 hq8 hf => ?_)
      have hPc : va_P D vwCl (wdS cI h 1 q7) H := hP.sub [1, 2, 3] rfl
      have hDc : va_D A (wdS cI h 1 q7) := hD.sub [1, 2, 3] (by decide) rfl
      refine kd_iR (va_runV (As := [.int x1]) (rest := []) ⟨hx, hb, hml, hown, hts⟩ (c5_stepsOf l D cB cI cZ cO h 1 H.size x1 q7 q8 hq8) (cwV 1 hts gX8_drops_X5_stepsOf rfl rfl rfl (by decide +kernel) ⟨Nat.le_of_ble_eq_true rfl, Nat.le_of_ble_eq_true rfl⟩) ⟨kb_blind, va_recv hK hPc (ci := 3) (q0 := 0) rfl rfl, kb_pre hPc hDc hK hN⟩ rfl rfl hl.1 rfl (lv_room (Nat.le_of_ble_eq_true rfl)) dX8_drops_57 ⟨Nat.le_refl _, Nat.le_refl _⟩) hP hD hS hA [1, 2, 3] rfl (fun H locs hn9 hP hS => ?_)
      obtain ⟨z1, y1⟩ := Prod.mk.inj (Option.some.inj hf)
      obtain ⟨z2, y2⟩ := Prod.mk.inj y1
      obtain ⟨z3, y3⟩ := Prod.mk.inj y2
      obtain ⟨z4, y4⟩ := Prod.mk.inj y3
      obtain ⟨z5, y5⟩ := Prod.mk.inj y4
      obtain ⟨z6, y6⟩ := Prod.mk.inj y5
      obtain ⟨z7, y7⟩ := Prod.mk.inj y6
      subst z1 z2 z3 z4 z5 z6 z7 y7
      exact hend _ _ _ _ rfl hP hS dX8_drops_60
    · rw [if_pos c5] at hf
      refine lv_aload_n hx hb dX8_drops_26 rfl (lv_at hl 0 rfl) ?_
      refine lv_bipush (v := (-3)) hx hb dX8_drops_27 (by decide) ?_
      refine kb_bind hf (fun q10 hq10 hf => ?_)
      have hPc : va_P D vwCl (wdO cB cI cZ cO h v_now v_tried v_past_kept v_past_oldest v_past_size v_all_threads v_all_rows v_all_ended v_all_known v_all_stepsInAll v_all_count v_all_standstills v_all_wrongOnes v_all_unlikeEnds v_meetings_reached v_text_bytes v_text_length v_text_place v_text_thread v_text_kind v_text_target v_text_value v_refusedBad v_refusedNo v_refusedFull) H := hP.sub [0, 1, 2, 3, 4, 5, 6, 7, 8, 9, 10, 11, 12, 13, 14, 15, 16, 17, 18, 19, 20, 21, 22, 23, 24, 25, 26, 27, 28, 29, 30, 31, 32, 33] rfl
      have hDc : va_D A (wdO cB cI cZ cO h v_now v_tried v_past_kept v_past_oldest v_past_size v_all_threads v_all_rows v_all_ended v_all_known v_all_stepsInAll v_all_count v_all_standstills v_all_wrongOnes v_all_unlikeEnds v_meetings_reached v_text_bytes v_text_length v_text_place v_text_thread v_text_kind v_text_target v_text_value v_refusedBad v_refusedNo v_refusedFull) := hD.sub [0, 1, 2, 3, 4, 5, 6, 7, 8, 9, 10, 11, 12, 13, 14, 15, 16, 17, 18, 19, 20, 21, 22, 23, 24, 25, 26, 27, 28, 29, 30, 31, 32, 33] (by decide) rfl
      refine kd_iW (ws' := wdO cB cI cZ cO h v_now v_tried v_past_kept v_past_oldest v_past_size v_all_threads v_all_rows v_all_ended v_all_known v_all_stepsInAll v_all_count v_all_standstills v_all_wrongOnes v_all_unlikeEnds v_meetings_reached v_text_bytes v_text_length v_text_place v_text_thread v_text_kind v_text_target v_text_value q10.2.1 q10.2.2.1 q10.2.2.2) (va_runV (As := [.int (-3 : Int32)]) (rest := []) ⟨hx, hb, hml, hown, hts⟩ (c8_refused l D cB cI cZ cO h H.size (-3 : Int32) v_now v_tried v_past_kept v_past_oldest v_past_size v_all_threads v_all_rows v_all_ended v_all_known v_all_stepsInAll v_all_count v_all_standstills v_all_wrongOnes v_all_unlikeEnds v_meetings_reached v_text_bytes v_text_length v_text_place v_text_thread v_text_kind v_text_target v_text_value v_refusedBad v_refusedNo v_refusedFull q10.1 q10.2.1 q10.2.2.1 q10.2.2.2 hq10) (cwV 1 hts gX8_drops_X8_refused rfl rfl rfl (by decide +kernel) ⟨Nat.le_of_ble_eq_true rfl, Nat.le_of_ble_eq_true rfl⟩) ⟨kb_blind, va_recv hK hPc (ci := 5) (q0 := 0) rfl rfl, kb_pre hPc hDc hK hN⟩ rfl rfl hl.1 rfl (lv_room (Nat.le_of_ble_eq_true rfl)) dX8_drops_29 ⟨Nat.le_refl _, Nat.le_refl _⟩) hP hD hS hA [0, 1, 2, 3, 4, 5, 6, 7, 8, 9, 10, 11, 12, 13, 14, 15, 16, 17, 18, 19, 20, 21, 22, 23, 24, 25, 26, 27, 28, 29, 30, 31, 32, 33] [] rfl rfl (fun _ h9 => absurd h9 List.not_mem_nil) rfl rfl (fun H locs hn11 hP hD hS => ?_)
      obtain ⟨z1, y1⟩ := Prod.mk.inj (Option.some.inj hf)
      obtain ⟨z2, y2⟩ := Prod.mk.inj y1
      obtain ⟨z3, y3⟩ := Prod.mk.inj y2
      obtain ⟨z4, y4⟩ := Prod.mk.inj y3
      obtain ⟨z5, y5⟩ := Prod.mk.inj y4
      obtain ⟨z6, y6⟩ := Prod.mk.inj y5
      obtain ⟨z7, y7⟩ := Prod.mk.inj y6
      subst z1 z2 z3 z4 z5 z6 z7 y7
      exact hend _ _ _ _ rfl hP hS dX8_drops_32
  · rw [if_pos c2] at hf
    refine lv_aload_n hx hb dX8_drops_8 rfl (lv_at hl 0 rfl) ?_
    refine lv_bipush (v := (-2)) hx hb dX8_drops_9 (by decide) ?_
    refine kb_bind hf (fun q12 hq12 hf => ?_)
    have hPc : va_P D vwCl (wdO cB cI cZ cO h v_now v_tried v_past_kept v_past_oldest v_past_size v_all_threads v_all_rows v_all_ended v_all_known v_all_stepsInAll v_all_count v_all_standstills v_all_wrongOnes v_all_unlikeEnds v_meetings_reached v_text_bytes v_text_length v_text_place v_text_thread v_text_kind v_text_target v_text_value v_refusedBad v_refusedNo v_refusedFull) H := hP.sub [0, 1, 2, 3, 4, 5, 6, 7, 8, 9, 10, 11, 12, 13, 14, 15, 16, 17, 18, 19, 20, 21, 22, 23, 24, 25, 26, 27, 28, 29, 30, 31, 32, 33] rfl
    have hDc : va_D A (wdO cB cI cZ cO h v_now v_tried v_past_kept v_past_oldest v_past_size v_all_threads v_all_rows v_all_ended v_all_known v_all_stepsInAll v_all_count v_all_standstills v_all_wrongOnes v_all_unlikeEnds v_meetings_reached v_text_bytes v_text_length v_text_place v_text_thread v_text_kind v_text_target v_text_value v_refusedBad v_refusedNo v_refusedFull) := hD.sub [0, 1, 2, 3, 4, 5, 6, 7, 8, 9, 10, 11, 12, 13, 14, 15, 16, 17, 18, 19, 20, 21, 22, 23, 24, 25, 26, 27, 28, 29, 30, 31, 32, 33] (by decide) rfl
    refine kd_iW (ws' := wdO cB cI cZ cO h v_now v_tried v_past_kept v_past_oldest v_past_size v_all_threads v_all_rows v_all_ended v_all_known v_all_stepsInAll v_all_count v_all_standstills v_all_wrongOnes v_all_unlikeEnds v_meetings_reached v_text_bytes v_text_length v_text_place v_text_thread v_text_kind v_text_target v_text_value q12.2.1 q12.2.2.1 q12.2.2.2) (va_runV (As := [.int (-2 : Int32)]) (rest := []) ⟨hx, hb, hml, hown, hts⟩ (c8_refused l D cB cI cZ cO h H.size (-2 : Int32) v_now v_tried v_past_kept v_past_oldest v_past_size v_all_threads v_all_rows v_all_ended v_all_known v_all_stepsInAll v_all_count v_all_standstills v_all_wrongOnes v_all_unlikeEnds v_meetings_reached v_text_bytes v_text_length v_text_place v_text_thread v_text_kind v_text_target v_text_value v_refusedBad v_refusedNo v_refusedFull q12.1 q12.2.1 q12.2.2.1 q12.2.2.2 hq12) (cwV 1 hts gX8_drops_X8_refused rfl rfl rfl (by decide +kernel) ⟨Nat.le_of_ble_eq_true rfl, Nat.le_of_ble_eq_true rfl⟩) ⟨kb_blind, va_recv hK hPc (ci := 5) (q0 := 0) rfl rfl, kb_pre hPc hDc hK hN⟩ rfl rfl hl.1 rfl (lv_room (Nat.le_of_ble_eq_true rfl)) dX8_drops_11 ⟨Nat.le_refl _, Nat.le_refl _⟩) hP hD hS hA [0, 1, 2, 3, 4, 5, 6, 7, 8, 9, 10, 11, 12, 13, 14, 15, 16, 17, 18, 19, 20, 21, 22, 23, 24, 25, 26, 27, 28, 29, 30, 31, 32, 33] [] rfl rfl (fun _ h9 => absurd h9 List.not_mem_nil) rfl rfl (fun H locs hn13 hP hD hS => ?_)
    obtain ⟨z1, y1⟩ := Prod.mk.inj (Option.some.inj hf)
    obtain ⟨z2, y2⟩ := Prod.mk.inj y1
    obtain ⟨z3, y3⟩ := Prod.mk.inj y2
    obtain ⟨z4, y4⟩ := Prod.mk.inj y3
    obtain ⟨z5, y5⟩ := Prod.mk.inj y4
    obtain ⟨z6, y6⟩ := Prod.mk.inj y5
    obtain ⟨z7, y7⟩ := Prod.mk.inj y6
    subst z1 z2 z3 z4 z5 z6 z7 y7
    exact hend _ _ _ _ rfl hP hS dX8_drops_14

set_option maxHeartbeats 4000000 in
set_option maxRecDepth 100000 in
theorem c8_number (l : Launch) (D : va_G) (cB cI cZ cO : ClassId) (h : Nat → Nat) (sz : Nat) (x1 : Int32) (x2 : Int32) (v_now : sT) (v_tried : sT) (v_past_kept : Nat → sT) (v_past_oldest : Int32) (v_past_size : Int32) (v_all_threads : sT) (v_all_rows : Nat → Int32) (v_all_ended : Nat → Int32) (v_all_known : Int32) (v_all_stepsInAll : Int32) (v_all_count : Int32) (v_all_standstills : Int32) (v_all_wrongOnes : Int32) (v_all_unlikeEnds : Int32) (v_meetings_reached : Nat → Int32) (v_text_bytes : Nat → Int32) (v_text_length : Int32) (v_text_place : Int32) (v_text_thread : Int32) (v_text_kind : Int32) (v_text_target : Int32) (v_text_value : Int32) (v_refusedBad : Int32) (v_refusedNo : Int32) (v_refusedFull : Int32) (r0 : Int32) (v_now' : sT) (v_past_kept' : Nat → sT) (v_past_oldest' : Int32) (v_past_size' : Int32) (v_refusedBad' : Int32) (v_refusedNo' : Int32) (v_refusedFull' : Int32) (hf : f8_number v_now v_past_kept v_past_oldest v_past_size v_refusedBad v_refusedNo v_refusedFull x1 x2 = some (r0, v_now', v_past_kept', v_past_oldest', v_past_size', v_refusedBad', v_refusedNo', v_refusedFull')) : Met l yX8_number wsX8_number rm8_number (va_Pc [.ref (h 0), .int x1, .int x2] (kb_B D (ka_tys cB cI cZ cO) sz (wdO cB cI cZ cO h v_now v_tried v_past_kept v_past_oldest v_past_size v_all_threads v_all_rows v_all_ended v_all_known v_all_stepsInAll v_all_count v_all_standstills v_all_wrongOnes v_all_unlikeEnds v_meetings_reached v_text_bytes v_text_length v_text_place v_text_thread v_text_kind v_text_target v_text_value v_refusedBad v_refusedNo v_refusedFull))) (va_Qi (kb_post .int r0) (fun _ t => va_P D vwCl (wdO cB cI cZ cO h (v_now') v_tried (v_past_kept') (v_past_oldest') (v_past_size') v_all_threads v_all_rows v_all_ended v_all_known v_all_stepsInAll v_all_count v_all_standstills v_all_wrongOnes v_all_unlikeEnds v_meetings_reached v_text_bytes v_text_length v_text_place v_text_thread v_text_kind v_text_target v_text_value (v_refusedBad') (v_refusedNo') (v_refusedFull')) t.heap) (va_A (wdO cB cI cZ cO h v_now v_tried v_past_kept v_past_oldest v_past_size v_all_threads v_all_rows v_all_ended v_all_known v_all_stepsInAll v_all_count v_all_standstills v_all_wrongOnes v_all_unlikeEnds v_meetings_reached v_text_bytes v_text_length v_text_place v_text_thread v_text_kind v_text_target v_text_value v_refusedBad v_refusedNo v_refusedFull) sz)) 0 0 (va_A (wdO cB cI cZ cO h v_now v_tried v_past_kept v_past_oldest v_past_size v_all_threads v_all_rows v_all_ended v_all_known v_all_stepsInAll v_all_count v_all_standstills v_all_wrongOnes v_all_unlikeEnds v_meetings_reached v_text_bytes v_text_length v_text_place v_text_thread v_text_kind v_text_target v_text_value v_refusedBad v_refusedNo v_refusedFull) sz) := by
  refine kb_metZ (cc := cX8_number) (maxL := 4) (ty := .int) (by decide) rfl (Nat.le_of_ble_eq_true rfl) ?_
  intro p e s m args below meth c Q A ls H hx hb hml hown hts hK hN hP hD hS hA hl hend
  have hown : s.vm.findClass RX8 = some m.cls := hown
  have hl : lv_has ls 4 [(0, .ref (h 0)), (1, .int x1), (2, .int x2)] := hl
  have hin8 : ∀ w ∈ u_ws RX8 TX8 9, w ∈ wsX8_number := by decide +kernel
  have J17 : ∀ (v_now : sT) (v_past_kept : Nat → sT) (v_past_oldest : Int32) (v_past_size : Int32) (v_refusedBad : Int32) (v_refusedNo : Int32) (v_refusedFull : Int32) (H : Heap) (locs : List Loc) (ls : Array Slot), f8_number_b17 v_now v_past_kept v_past_oldest v_past_size v_refusedBad v_refusedNo v_refusedFull = some (r0, v_now', v_past_kept', v_past_oldest', v_past_size', v_refusedBad', v_refusedNo', v_refusedFull') → va_P D vwCl (wdO cB cI cZ cO h v_now v_tried v_past_kept v_past_oldest v_past_size v_all_threads v_all_rows v_all_ended v_all_known v_all_stepsInAll v_all_count v_all_standstills v_all_wrongOnes v_all_unlikeEnds v_meetings_reached v_text_bytes v_text_length v_text_place v_text_thread v_text_kind v_text_target v_text_value v_refusedBad v_refusedNo v_refusedFull) H → va_D A (wdO cB cI cZ cO h v_now v_tried v_past_kept v_past_oldest v_past_size v_all_threads v_all_rows v_all_ended v_all_known v_all_stepsInAll v_all_count v_all_standstills v_all_wrongOnes v_all_unlikeEnds v_meetings_reached v_text_bytes v_text_length v_text_place v_text_thread v_text_kind v_text_target v_text_value v_refusedBad v_refusedNo v_refusedFull) → va_S A s.heap H locs → lv_has ls 4 [(0, .ref (h 0))] → W p l e rm8_number s m args below meth c H locs 0 0 Q (F0 m 17 ls []) := by
    intro v_now v_past_kept v_past_oldest v_past_size v_refusedBad v_refusedNo v_refusedFull H locs ls hf hP hD hS hl
    rw [f8_number_b17] at hf
    refine lv_aload_n hx hb dX8_number_17 rfl (lv_at hl 0 rfl) ?_
    refine lv_bipush (v := (-2)) hx hb dX8_number_18 (by decide) ?_
    refine kb_bind hf (fun q3 hq3 hf => ?_)
    have hPc : va_P D vwCl (wdO cB cI cZ cO h v_now v_tried v_past_kept v_past_oldest v_past_size v_all_threads v_all_rows v_all_ended v_all_known v_all_stepsInAll v_all_count v_all_standstills v_all_wrongOnes v_all_unlikeEnds v_meetings_reached v_text_bytes v_text_length v_text_place v_text_thread v_text_kind v_text_target v_text_value v_refusedBad v_refusedNo v_refusedFull) H := hP.sub [0, 1, 2, 3, 4, 5, 6, 7, 8, 9, 10, 11, 12, 13, 14, 15, 16, 17, 18, 19, 20, 21, 22, 23, 24, 25, 26, 27, 28, 29, 30, 31, 32, 33] rfl
    have hDc : va_D A (wdO cB cI cZ cO h v_now v_tried v_past_kept v_past_oldest v_past_size v_all_threads v_all_rows v_all_ended v_all_known v_all_stepsInAll v_all_count v_all_standstills v_all_wrongOnes v_all_unlikeEnds v_meetings_reached v_text_bytes v_text_length v_text_place v_text_thread v_text_kind v_text_target v_text_value v_refusedBad v_refusedNo v_refusedFull) := hD.sub [0, 1, 2, 3, 4, 5, 6, 7, 8, 9, 10, 11, 12, 13, 14, 15, 16, 17, 18, 19, 20, 21, 22, 23, 24, 25, 26, 27, 28, 29, 30, 31, 32, 33] (by decide) rfl
    refine kd_iW (ws' := wdO cB cI cZ cO h v_now v_tried v_past_kept v_past_oldest v_past_size v_all_threads v_all_rows v_all_ended v_all_known v_all_stepsInAll v_all_count v_all_standstills v_all_wrongOnes v_all_unlikeEnds v_meetings_reached v_text_bytes v_text_length v_text_place v_text_thread v_text_kind v_text_target v_text_value q3.2.1 q3.2.2.1 q3.2.2.2) (va_runV (As := [.int (-2 : Int32)]) (rest := []) ⟨hx, hb, hml, hown, hts⟩ (c8_refused l D cB cI cZ cO h H.size (-2 : Int32) v_now v_tried v_past_kept v_past_oldest v_past_size v_all_threads v_all_rows v_all_ended v_all_known v_all_stepsInAll v_all_count v_all_standstills v_all_wrongOnes v_all_unlikeEnds v_meetings_reached v_text_bytes v_text_length v_text_place v_text_thread v_text_kind v_text_target v_text_value v_refusedBad v_refusedNo v_refusedFull q3.1 q3.2.1 q3.2.2.1 q3.2.2.2 hq3) (cwV 1 hts gX8_number_X8_refused rfl rfl rfl (by decide +kernel) ⟨Nat.le_of_ble_eq_true rfl, Nat.le_of_ble_eq_true rfl⟩) ⟨kb_blind, va_recv hK hPc (ci := 5) (q0 := 0) rfl rfl, kb_pre hPc hDc hK hN⟩ rfl rfl hl.1 rfl (lv_room (Nat.le_of_ble_eq_true rfl)) dX8_number_20 ⟨Nat.le_refl _, Nat.le_refl _⟩) hP hD hS hA [0, 1, 2, 3, 4, 5, 6, 7, 8, 9, 10, 11, 12, 13, 14, 15, 16, 17, 18, 19, 20, 21, 22, 23, 24, 25, 26, 27, 28, 29, 30, 31, 32, 33] [] rfl rfl (fun _ h9 => absurd h9 List.not_mem_nil) rfl rfl (fun H locs hn4 hP hD hS => ?_)
    obtain ⟨z1, y1⟩ := Prod.mk.inj (Option.some.inj hf)
    obtain ⟨z2, y2⟩ := Prod.mk.inj y1
    obtain ⟨z3, y3⟩ := Prod.mk.inj y2
    obtain ⟨z4, y4⟩ := Prod.mk.inj y3
    obtain ⟨z5, y5⟩ := Prod.mk.inj y4
    obtain ⟨z6, y6⟩ := Prod.mk.inj y5
    obtain ⟨z7, y7⟩ := Prod.mk.inj y6
    subst z1 z2 z3 z4 z5 z6 z7 y7
    exact hend _ _ _ _ rfl hP hS dX8_number_23
  rw [f8_number] at hf
  refine lv_iload_n hx hb dX8_number_0 rfl (lv_at hl 1 rfl) ?_
  refine lv_iconst (v := 4) hx hb dX8_number_1 (by decide) ?_
  have hPc : va_P D vwCl ([]) H := hP.sub [] rfl
  have hDc : va_D A ([]) := hD.sub [] (by decide) rfl
  refine kd_iR (va_runS (As := [.int x1, .int (4 : Int32)]) (rest := []) ⟨hx, hb, hml, hown, hts⟩ (c8_below l D cB cI cZ cO h H.size x1 (4 : Int32) (f8_below x1 (4 : Int32)) rfl) (va_cwS 2 hts gX8_number_X8_below rfl rfl rfl (by decide +kernel) ⟨Nat.le_of_ble_eq_true rfl, Nat.le_of_ble_eq_true rfl⟩) ⟨kb_blind, kb_pre hPc hDc hK hN⟩ rfl rfl hl.1 rfl (lv_room (Nat.le_of_ble_eq_true rfl)) dX8_number_2 ⟨Nat.le_refl _, Nat.le_refl _⟩) hP hD hS hA [] rfl (fun H locs hn5 hP hS => ?_)
  refine lv_if_eq (tgt := 17) hx hb dX8_number_5 (by decide) (fun c6 => ?_) (fun c6 => ?_)
  · rw [if_pos c6] at hf
    exact J17 v_now v_past_kept v_past_oldest v_past_size v_refusedBad v_refusedNo v_refusedFull _ _ _ hf hP hD hS (lv_sub hl [0] rfl)
  · rw [if_neg c6] at hf
    refine lv_iload_n hx hb dX8_number_8 rfl (lv_at hl 2 rfl) ?_
    refine lv_bipush (v := 10) hx hb dX8_number_9 (by decide) ?_
    have hPc : va_P D vwCl ([]) H := hP.sub [] rfl
    have hDc : va_D A ([]) := hD.sub [] (by decide) rfl
    refine kd_iR (va_runS (As := [.int x2, .int (10 : Int32)]) (rest := []) ⟨hx, hb, hml, hown, hts⟩ (c8_below l D cB cI cZ cO h H.size x2 (10 : Int32) (f8_below x2 (10 : Int32)) rfl) (va_cwS 2 hts gX8_number_X8_below rfl rfl rfl (by decide +kernel) ⟨Nat.le_of_ble_eq_true rfl, Nat.le_of_ble_eq_true rfl⟩) ⟨kb_blind, kb_pre hPc hDc hK hN⟩ rfl rfl hl.1 rfl (lv_room (Nat.le_of_ble_eq_true rfl)) dX8_number_11 ⟨Nat.le_refl _, Nat.le_refl _⟩) hP hD hS hA [] rfl (fun H locs hn7 hP hS => ?_)
    refine lv_if_ne (tgt := 24) hx hb dX8_number_14 (by decide) (fun c8 => ?_) (fun c8 => ?_)
    · rw [if_neg c8] at hf
      refine lv_aload_n hx hb dX8_number_24 rfl (lv_at hl 0 rfl) ?_
      refine va_get (D := D) (cl := vwCl) (ci := 5) (v := .ref (h 7)) (C := RX8) (T := TX8) (N := 9) hx hb hts hin8 hown hK hP 0 rfl rfl 2 (by decide) (hts (.fieldLink RX8 22 "StepOrders" "past" "LStepOrders$Past;") (by decide +kernel)) (fun _ h9 => h9) rfl dX8_number_25 ?_
      refine lv_aload_n hx hb dX8_number_28 rfl (lv_at hl 0 rfl) ?_
      refine va_get (D := D) (cl := vwCl) (ci := 5) (v := .ref (h 1)) (C := RX8) (T := TX8) (N := 9) hx hb hts hin8 hown hK hP 0 rfl rfl 0 (by decide) (hts (.fieldLink RX8 12 "StepOrders" "now" "LStepOrders$State;") (by decide +kernel)) (fun _ h9 => h9) rfl dX8_number_29 ?_
      refine kb_bind hf (fun q9 hq9 hf => ?_)
      have hPc : va_P D vwCl (wdP cI cO h 7 v_past_kept v_past_oldest v_past_size ++ wdS cI h 1 v_now) H := hP.sub [7, 8, 9, 10, 11, 12, 13, 14, 15, 16, 17, 18, 19, 20, 21, 22, 23, 1, 2, 3] rfl
      have hDc : va_D A (wdP cI cO h 7 v_past_kept v_past_oldest v_past_size ++ wdS cI h 1 v_now) := hD.sub [7, 8, 9, 10, 11, 12, 13, 14, 15, 16, 17, 18, 19, 20, 21, 22, 23, 1, 2, 3] (by decide) rfl
      refine kd_vW (ws' := wdO cB cI cZ cO h v_now v_tried q9.1 q9.2.1 q9.2.2 v_all_threads v_all_rows v_all_ended v_all_known v_all_stepsInAll v_all_count v_all_standstills v_all_wrongOnes v_all_unlikeEnds v_meetings_reached v_text_bytes v_text_length v_text_place v_text_thread v_text_kind v_text_target v_text_value v_refusedBad v_refusedNo v_refusedFull) (va_runV (As := [.ref (h 1)]) (rest := []) ⟨hx, hb, hml, hown, hts⟩ (c3_keep l D cB cI cZ cO h 7 1 H.size v_past_kept v_past_oldest v_past_size v_now q9.1 q9.2.1 q9.2.2 hq9) (cwV 1 hts gX8_number_X3_keep rfl rfl rfl (by decide +kernel) ⟨Nat.le_of_ble_eq_true rfl, Nat.le_of_ble_eq_true rfl⟩) ⟨kb_blind, va_recv hK hPc (ci := 2) (q0 := 0) rfl rfl, kb_pre hPc hDc hK hN⟩ rfl rfl hl.1 rfl (lv_room (Nat.le_of_ble_eq_true rfl)) dX8_number_32 ⟨Nat.le_refl _, Nat.le_refl _⟩) hP hD hS hA [7, 8, 9, 10, 11, 12, 13, 14, 15, 16, 17, 18, 19, 20, 21, 22, 23, 1, 2, 3] [0, 4, 5, 6, 24, 25, 26, 27, 28, 29, 30, 31, 32, 33] rfl rfl (List.forall_mem_cons.mpr ⟨rfl, (List.forall_mem_cons.mpr ⟨rfl, (List.forall_mem_cons.mpr ⟨rfl, (List.forall_mem_cons.mpr ⟨rfl, (List.forall_mem_cons.mpr ⟨rfl, (List.forall_mem_cons.mpr ⟨rfl, (List.forall_mem_cons.mpr ⟨rfl, (List.forall_mem_cons.mpr ⟨rfl, (List.forall_mem_cons.mpr ⟨rfl, (List.forall_mem_cons.mpr ⟨rfl, (List.forall_mem_cons.mpr ⟨rfl, (List.forall_mem_cons.mpr ⟨rfl, (List.forall_mem_cons.mpr ⟨rfl, (List.forall_mem_cons.mpr ⟨rfl, (fun _ h9 => absurd h9 List.not_mem_nil)⟩)⟩)⟩)⟩)⟩)⟩)⟩)⟩)⟩)⟩)⟩)⟩)⟩)⟩) rfl rfl (fun H locs hP hD hS => ?_)
      refine lv_aload_n hx hb dX8_number_35 rfl (lv_at hl 0 rfl) ?_
      refine va_get (D := D) (cl := vwCl) (ci := 5) (v := .ref (h 1)) (C := RX8) (T := TX8) (N := 9) hx hb hts hin8 hown hK hP 0 rfl rfl 0 (by decide) (hts (.fieldLink RX8 12 "StepOrders" "now" "LStepOrders$State;") (by decide +kernel)) (fun _ h9 => h9) rfl dX8_number_36 ?_
      have hPc : va_P D vwCl (wdS cI h 1 v_now) H := hP.sub [1, 2, 3] rfl
      have hDc : va_D A (wdS cI h 1 v_now) := hD.sub [1, 2, 3] (by decide) rfl
      refine kd_lR (va_runV (As := []) (rest := []) ⟨hx, hb, hml, hown, hts⟩ (c5_beginning l D cB cI cZ cO h 1 H.size v_now (f5_beginning v_now) rfl) (cwV 0 hts gX8_number_X5_beginning rfl rfl rfl (by decide +kernel) ⟨Nat.le_of_ble_eq_true rfl, Nat.le_of_ble_eq_true rfl⟩) ⟨kb_blind, va_recv hK hPc (ci := 3) (q0 := 0) rfl rfl, kb_pre hPc hDc hK hN⟩ rfl rfl hl.1 rfl (lv_room (Nat.le_of_ble_eq_true rfl)) dX8_number_39 ⟨Nat.le_refl _, Nat.le_refl _⟩) hP hD hS hA [1, 2, 3] rfl (fun H locs hP hS => ?_)
      refine lv_iload_n hx hb dX8_number_42 rfl (lv_at hl 1 rfl) ?_
      have hPc : va_P D vwCl ([]) H := hP.sub [] rfl
      have hDc : va_D A ([]) := hD.sub [] (by decide) rfl
      refine kd_iR (va_runS (As := [.long (f5_beginning v_now), .int x1]) (rest := []) ⟨hx, hb, hml, hown, hts⟩ (c2_valueOf l D cB cI cZ cO h H.size (f5_beginning v_now) x1 (f2_valueOf (f5_beginning v_now) x1) rfl) (va_cwS 2 hts gX8_number_X2_valueOf rfl rfl rfl (by decide +kernel) ⟨Nat.le_of_ble_eq_true rfl, Nat.le_of_ble_eq_true rfl⟩) ⟨kb_blind, kb_pre hPc hDc hK hN⟩ rfl rfl hl.1 rfl (lv_room (Nat.le_of_ble_eq_true rfl)) dX8_number_43 ⟨Nat.le_refl _, Nat.le_refl _⟩) hP hD hS hA [] rfl (fun H locs hn10 hP hS => ?_)
      refine lv_istore_n (lv' := [(3, .int (f2_valueOf (f5_beginning v_now) x1)), (0, .ref (h 0)), (1, .int x1), (2, .int x2)]) hx hb dX8_number_46 rfl hl (by decide) rfl (fun ls hl => ?_)
      refine lv_aload_n hx hb dX8_number_47 rfl (lv_at hl 1 rfl) ?_
      refine va_get (D := D) (cl := vwCl) (ci := 5) (v := .ref (h 1)) (C := RX8) (T := TX8) (N := 9) hx hb hts hin8 hown hK hP 0 rfl rfl 0 (by decide) (hts (.fieldLink RX8 12 "StepOrders" "now" "LStepOrders$State;") (by decide +kernel)) (fun _ h9 => h9) rfl dX8_number_48 ?_
      refine lv_iload_n hx hb dX8_number_51 rfl (lv_at hl 2 rfl) ?_
      refine lv_iload_n hx hb dX8_number_52 rfl (lv_at hl 3 rfl) ?_
      refine kb_bind hf (fun q11 hq11 hf => ?_)
      have hPc : va_P D vwCl (wdS cI h 1 v_now) H := hP.sub [1, 2, 3] rfl
      have hDc : va_D A (wdS cI h 1 v_now) := hD.sub [1, 2, 3] (by decide) rfl
      refine kd_vW (ws' := wdO cB cI cZ cO h q11 v_tried q9.1 q9.2.1 q9.2.2 v_all_threads v_all_rows v_all_ended v_all_known v_all_stepsInAll v_all_count v_all_standstills v_all_wrongOnes v_all_unlikeEnds v_meetings_reached v_text_bytes v_text_length v_text_place v_text_thread v_text_kind v_text_target v_text_value v_refusedBad v_refusedNo v_refusedFull) (va_runV (As := [.int x1, .int x2]) (rest := []) ⟨hx, hb, hml, hown, hts⟩ (c5_setBeginning l D cB cI cZ cO h 1 H.size x1 x2 v_now q11 hq11) (cwV 2 hts gX8_number_X5_setBeginning rfl rfl rfl (by decide +kernel) ⟨Nat.le_of_ble_eq_true rfl, Nat.le_of_ble_eq_true rfl⟩) ⟨kb_blind, va_recv hK hPc (ci := 3) (q0 := 0) rfl rfl, kb_pre hPc hDc hK hN⟩ rfl rfl hl.1 rfl (lv_room (Nat.le_of_ble_eq_true rfl)) dX8_number_53 ⟨Nat.le_refl _, Nat.le_refl _⟩) hP hD hS hA [1, 2, 3] [0, 4, 5, 6, 7, 8, 9, 10, 11, 12, 13, 14, 15, 16, 17, 18, 19, 20, 21, 22, 23, 24, 25, 26, 27, 28, 29, 30, 31, 32, 33] rfl rfl (List.forall_mem_cons.mpr ⟨rfl, (List.forall_mem_cons.mpr ⟨rfl, (List.forall_mem_cons.mpr ⟨rfl, (List.forall_mem_cons.mpr ⟨rfl, (List.forall_mem_cons.mpr ⟨rfl, (List.forall_mem_cons.mpr ⟨rfl, (List.forall_mem_cons.mpr ⟨rfl, (List.forall_mem_cons.mpr ⟨rfl, (List.forall_mem_cons.mpr ⟨rfl, (List.forall_mem_cons.mpr ⟨rfl, (List.forall_mem_cons.mpr ⟨rfl, (List.forall_mem_cons.mpr ⟨rfl, (List.forall_mem_cons.mpr ⟨rfl, (List.forall_mem_cons.mpr ⟨rfl, (List.forall_mem_cons.mpr ⟨rfl, (List.forall_mem_cons.mpr ⟨rfl, (List.forall_mem_cons.mpr ⟨rfl, (List.forall_mem_cons.mpr ⟨rfl, (List.forall_mem_cons.mpr ⟨rfl, (List.forall_mem_cons.mpr ⟨rfl, (List.forall_mem_cons.mpr ⟨rfl, (List.forall_mem_cons.mpr ⟨rfl, (List.forall_mem_cons.mpr ⟨rfl, (List.forall_mem_cons.mpr ⟨rfl, (List.forall_mem_cons.mpr ⟨rfl, (List.forall_mem_cons.mpr ⟨rfl, (List.forall_mem_cons.mpr ⟨rfl, (List.forall_mem_cons.mpr ⟨rfl, (List.forall_mem_cons.mpr ⟨rfl, (List.forall_mem_cons.mpr ⟨rfl, (List.forall_mem_cons.mpr ⟨rfl, (fun _ h9 => absurd h9 List.not_mem_nil)⟩)⟩)⟩)⟩)⟩)⟩)⟩)⟩)⟩)⟩)⟩)⟩)⟩)⟩)⟩)⟩)⟩)⟩)⟩)⟩)⟩)⟩)⟩)⟩)⟩)⟩)⟩)⟩)⟩)⟩)⟩) rfl rfl (fun H locs hP hD hS => ?_)
      refine lv_iload_n hx hb dX8_number_56 rfl (lv_at hl 0 rfl) ?_
      obtain ⟨z1, y1⟩ := Prod.mk.inj (Option.some.inj hf)
      obtain ⟨z2, y2⟩ := Prod.mk.inj y1
      obtain ⟨z3, y3⟩ := Prod.mk.inj y2
      obtain ⟨z4, y4⟩ := Prod.mk.inj y3
      obtain ⟨z5, y5⟩ := Prod.mk.inj y4
      obtain ⟨z6, y6⟩ := Prod.mk.inj y5
      obtain ⟨z7, y7⟩ := Prod.mk.inj y6
      subst z1 z2 z3 z4 z5 z6 z7 y7
      exact hend _ _ _ _ rfl hP hS dX8_number_57
    · rw [if_pos c8] at hf
      exact J17 v_now v_past_kept v_past_oldest v_past_size v_refusedBad v_refusedNo v_refusedFull _ _ _ hf hP hD hS (lv_sub hl [0] rfl)

set_option maxHeartbeats 4000000 in
set_option maxRecDepth 100000 in
theorem c8_of (l : Launch) (D : va_G) (cB cI cZ cO : ClassId) (h : Nat → Nat) (sz : Nat) (x1 : Int32) (x2 : Int32) (x3 : Int32) (v_now : sT) (v_tried : sT) (v_past_kept : Nat → sT) (v_past_oldest : Int32) (v_past_size : Int32) (v_all_threads : sT) (v_all_rows : Nat → Int32) (v_all_ended : Nat → Int32) (v_all_known : Int32) (v_all_stepsInAll : Int32) (v_all_count : Int32) (v_all_standstills : Int32) (v_all_wrongOnes : Int32) (v_all_unlikeEnds : Int32) (v_meetings_reached : Nat → Int32) (v_text_bytes : Nat → Int32) (v_text_length : Int32) (v_text_place : Int32) (v_text_thread : Int32) (v_text_kind : Int32) (v_text_target : Int32) (v_text_value : Int32) (v_refusedBad : Int32) (v_refusedNo : Int32) (v_refusedFull : Int32) (r0 : Int32) (v_refusedBad' : Int32) (v_refusedNo' : Int32) (v_refusedFull' : Int32) (hf : f8_of v_now v_refusedBad v_refusedNo v_refusedFull x1 x2 x3 = some (r0, v_refusedBad', v_refusedNo', v_refusedFull')) : Met l yX8_of wsX8_of rm8_of (va_Pc [.ref (h 0), .int x1, .int x2, .int x3] (kb_B D (ka_tys cB cI cZ cO) sz (wdO cB cI cZ cO h v_now v_tried v_past_kept v_past_oldest v_past_size v_all_threads v_all_rows v_all_ended v_all_known v_all_stepsInAll v_all_count v_all_standstills v_all_wrongOnes v_all_unlikeEnds v_meetings_reached v_text_bytes v_text_length v_text_place v_text_thread v_text_kind v_text_target v_text_value v_refusedBad v_refusedNo v_refusedFull))) (va_Qi (kb_post .int r0) (fun _ t => va_P D vwCl (wdO cB cI cZ cO h v_now v_tried v_past_kept v_past_oldest v_past_size v_all_threads v_all_rows v_all_ended v_all_known v_all_stepsInAll v_all_count v_all_standstills v_all_wrongOnes v_all_unlikeEnds v_meetings_reached v_text_bytes v_text_length v_text_place v_text_thread v_text_kind v_text_target v_text_value (v_refusedBad') (v_refusedNo') (v_refusedFull')) t.heap) (va_A (wdO cB cI cZ cO h v_now v_tried v_past_kept v_past_oldest v_past_size v_all_threads v_all_rows v_all_ended v_all_known v_all_stepsInAll v_all_count v_all_standstills v_all_wrongOnes v_all_unlikeEnds v_meetings_reached v_text_bytes v_text_length v_text_place v_text_thread v_text_kind v_text_target v_text_value v_refusedBad v_refusedNo v_refusedFull) sz)) 0 0 (va_A (wdO cB cI cZ cO h v_now v_tried v_past_kept v_past_oldest v_past_size v_all_threads v_all_rows v_all_ended v_all_known v_all_stepsInAll v_all_count v_all_standstills v_all_wrongOnes v_all_unlikeEnds v_meetings_reached v_text_bytes v_text_length v_text_place v_text_thread v_text_kind v_text_target v_text_value v_refusedBad v_refusedNo v_refusedFull) sz) := by
  refine kb_metZ (cc := cX8_of) (maxL := 5) (ty := .int) (by decide) rfl (Nat.le_of_ble_eq_true rfl) ?_
  intro p e s m args below meth c Q A ls H hx hb hml hown hts hK hN hP hD hS hA hl hend
  have hown : s.vm.findClass RX8 = some m.cls := hown
  have hl : lv_has ls 5 [(0, .ref (h 0)), (1, .int x1), (2, .int x2), (3, .int x3)] := hl
  have hin8 : ∀ w ∈ u_ws RX8 TX8 9, w ∈ wsX8_of := by decide +kernel
  rw [f8_of] at hf
  refine lv_aload_n hx hb dX8_of_0 rfl (lv_at hl 0 rfl) ?_
  refine va_get (D := D) (cl := vwCl) (ci := 5) (v := .ref (h 1)) (C := RX8) (T := TX8) (N := 9) hx hb hts hin8 hown hK hP 0 rfl rfl 0 (by decide) (hts (.fieldLink RX8 12 "StepOrders" "now" "LStepOrders$State;") (by decide +kernel)) (fun _ h9 => h9) rfl dX8_of_1 ?_
  refine lv_iload_n hx hb dX8_of_4 rfl (lv_at hl 1 rfl) ?_
  refine lv_iload_n hx hb dX8_of_5 rfl (lv_at hl 2 rfl) ?_
  refine kb_bind hf (fun q1 hq1 hf => ?_)
  have hPc : va_P D vwCl (wdS cI h 1 v_now) H := hP.sub [1, 2, 3] rfl
  have hDc : va_D A (wdS cI h 1 v_now) := hD.sub [1, 2, 3] (by decide) rfl
  refine kd_iR (va_runV (As := [.int x1, .int x2]) (rest := []) ⟨hx, hb, hml, hown, hts⟩ (c5_hasStep l D cB cI cZ cO h 1 H.size x1 x2 v_now q1 hq1) (cwV 2 hts gX8_of_X5_hasStep rfl rfl rfl (by decide +kernel) ⟨Nat.le_of_ble_eq_true rfl, Nat.le_of_ble_eq_true rfl⟩) ⟨kb_blind, va_recv hK hPc (ci := 3) (q0 := 0) rfl rfl, kb_pre hPc hDc hK hN⟩ rfl rfl hl.1 rfl (lv_room (Nat.le_of_ble_eq_true rfl)) dX8_of_6 ⟨Nat.le_refl _, Nat.le_refl _⟩) hP hD hS hA [1, 2, 3] rfl (fun H locs hn2 hP hS => ?_)
  refine lv_if_ne (tgt := 19) hx hb dX8_of_9 (by decide) (fun c3 => ?_) (fun c3 => ?_)
  · rw [if_neg c3] at hf
    refine lv_aload_n hx hb dX8_of_19 rfl (lv_at hl 0 rfl) ?_
    refine va_get (D := D) (cl := vwCl) (ci := 5) (v := .ref (h 1)) (C := RX8) (T := TX8) (N := 9) hx hb hts hin8 hown hK hP 0 rfl rfl 0 (by decide) (hts (.fieldLink RX8 12 "StepOrders" "now" "LStepOrders$State;") (by decide +kernel)) (fun _ h9 => h9) rfl dX8_of_20 ?_
    refine lv_iload_n hx hb dX8_of_23 rfl (lv_at hl 1 rfl) ?_
    refine lv_iload_n hx hb dX8_of_24 rfl (lv_at hl 2 rfl) ?_
    refine kb_bind hf (fun q4 hq4 hf => ?_)
    have hPc : va_P D vwCl (wdS cI h 1 v_now) H := hP.sub [1, 2, 3] rfl
    have hDc : va_D A (wdS cI h 1 v_now) := hD.sub [1, 2, 3] (by decide) rfl
    refine kd_iR (va_runV (As := [.int x1, .int x2]) (rest := []) ⟨hx, hb, hml, hown, hts⟩ (c5_stepAt l D cB cI cZ cO h 1 H.size x1 x2 v_now q4 hq4) (cwV 2 hts gX8_of_X5_stepAt rfl rfl rfl (by decide +kernel) ⟨Nat.le_of_ble_eq_true rfl, Nat.le_of_ble_eq_true rfl⟩) ⟨kb_blind, va_recv hK hPc (ci := 3) (q0 := 0) rfl rfl, kb_pre hPc hDc hK hN⟩ rfl rfl hl.1 rfl (lv_room (Nat.le_of_ble_eq_true rfl)) dX8_of_25 ⟨Nat.le_refl _, Nat.le_refl _⟩) hP hD hS hA [1, 2, 3] rfl (fun H locs hn5 hP hS => ?_)
    refine lv_istore (lv' := [(4, .int q4), (0, .ref (h 0)), (1, .int x1), (2, .int x2), (3, .int x3)]) hx hb dX8_of_28 hl (by decide) rfl (fun ls hl => ?_)
    refine lv_iload_n hx hb dX8_of_30 rfl (lv_at hl 4 rfl) ?_
    by_cases c6_0 : x3 = 0
    · rw [if_pos c6_0] at hf
      refine lv_tableIn (tgt := 64) (off := 33) hx hb dX8_of_31 (by rw [c6_0]; decide) (by rw [c6_0]; decide) (by rw [c6_0]; rfl) (by decide) ?_
      refine lv_iload hx hb dX8_of_64 (lv_at hl 0 rfl) ?_
      have hPc : va_P D vwCl ([]) H := hP.sub [] rfl
      have hDc : va_D A ([]) := hD.sub [] (by decide) rfl
      refine kd_iR (va_runS (As := [.int q4]) (rest := []) ⟨hx, hb, hml, hown, hts⟩ (c6_kind l D cB cI cZ cO h H.size q4 (f6_kind q4) rfl) (va_cwS 1 hts gX8_of_X6_kind rfl rfl rfl (by decide +kernel) ⟨Nat.le_of_ble_eq_true rfl, Nat.le_of_ble_eq_true rfl⟩) ⟨kb_blind, kb_pre hPc hDc hK hN⟩ rfl rfl hl.1 rfl (lv_room (Nat.le_of_ble_eq_true rfl)) dX8_of_66 ⟨Nat.le_refl _, Nat.le_refl _⟩) hP hD hS hA [] rfl (fun H locs hn7 hP hS => ?_)
      obtain ⟨z1, y1⟩ := Prod.mk.inj (Option.some.inj hf)
      obtain ⟨z2, y2⟩ := Prod.mk.inj y1
      obtain ⟨z3, y3⟩ := Prod.mk.inj y2
      subst z1 z2 z3 y3
      exact hend _ _ _ _ rfl hP hS dX8_of_69
    rw [if_neg c6_0] at hf
    by_cases c6_1 : x3 = 1
    · rw [if_pos c6_1] at hf
      refine lv_tableIn (tgt := 70) (off := 39) hx hb dX8_of_31 (by rw [c6_1]; decide) (by rw [c6_1]; decide) (by rw [c6_1]; rfl) (by decide) ?_
      refine lv_iload hx hb dX8_of_70 (lv_at hl 0 rfl) ?_
      have hPc : va_P D vwCl ([]) H := hP.sub [] rfl
      have hDc : va_D A ([]) := hD.sub [] (by decide) rfl
      refine kd_iR (va_runS (As := [.int q4]) (rest := []) ⟨hx, hb, hml, hown, hts⟩ (c6_target l D cB cI cZ cO h H.size q4 (f6_target q4) rfl) (va_cwS 1 hts gX8_of_X6_target rfl rfl rfl (by decide +kernel) ⟨Nat.le_of_ble_eq_true rfl, Nat.le_of_ble_eq_true rfl⟩) ⟨kb_blind, kb_pre hPc hDc hK hN⟩ rfl rfl hl.1 rfl (lv_room (Nat.le_of_ble_eq_true rfl)) dX8_of_72 ⟨Nat.le_refl _, Nat.le_refl _⟩) hP hD hS hA [] rfl (fun H locs hn8 hP hS => ?_)
      obtain ⟨z1, y1⟩ := Prod.mk.inj (Option.some.inj hf)
      obtain ⟨z2, y2⟩ := Prod.mk.inj y1
      obtain ⟨z3, y3⟩ := Prod.mk.inj y2
      subst z1 z2 z3 y3
      exact hend _ _ _ _ rfl hP hS dX8_of_75
    rw [if_neg c6_1] at hf
    by_cases c6_2 : x3 = 2
    · rw [if_pos c6_2] at hf
      refine lv_tableIn (tgt := 76) (off := 45) hx hb dX8_of_31 (by rw [c6_2]; decide) (by rw [c6_2]; decide) (by rw [c6_2]; rfl) (by decide) ?_
      refine lv_iload hx hb dX8_of_76 (lv_at hl 0 rfl) ?_
      have hPc : va_P D vwCl ([]) H := hP.sub [] rfl
      have hDc : va_D A ([]) := hD.sub [] (by decide) rfl
      refine kd_iR (va_runS (As := [.int q4]) (rest := []) ⟨hx, hb, hml, hown, hts⟩ (c6_value l D cB cI cZ cO h H.size q4 (f6_value q4) rfl) (va_cwS 1 hts gX8_of_X6_value rfl rfl rfl (by decide +kernel) ⟨Nat.le_of_ble_eq_true rfl, Nat.le_of_ble_eq_true rfl⟩) ⟨kb_blind, kb_pre hPc hDc hK hN⟩ rfl rfl hl.1 rfl (lv_room (Nat.le_of_ble_eq_true rfl)) dX8_of_78 ⟨Nat.le_refl _, Nat.le_refl _⟩) hP hD hS hA [] rfl (fun H locs hn9 hP hS => ?_)
      obtain ⟨z1, y1⟩ := Prod.mk.inj (Option.some.inj hf)
      obtain ⟨z2, y2⟩ := Prod.mk.inj y1
      obtain ⟨z3, y3⟩ := Prod.mk.inj y2
      subst z1 z2 z3 y3
      exact hend _ _ _ _ rfl hP hS dX8_of_81
    rw [if_neg c6_2] at hf
    by_cases c6_3 : x3 = 3
    · rw [if_pos c6_3] at hf
      refine lv_tableIn (tgt := 82) (off := 51) hx hb dX8_of_31 (by rw [c6_3]; decide) (by rw [c6_3]; decide) (by rw [c6_3]; rfl) (by decide) ?_
      refine lv_iload hx hb dX8_of_82 (lv_at hl 0 rfl) ?_
      have hPc : va_P D vwCl ([]) H := hP.sub [] rfl
      have hDc : va_D A ([]) := hD.sub [] (by decide) rfl
      refine kd_iR (va_runS (As := [.int q4]) (rest := []) ⟨hx, hb, hml, hown, hts⟩ (c6_readBits l D cB cI cZ cO h H.size q4 (f6_readBits q4) rfl) (va_cwS 1 hts gX8_of_X6_readBits rfl rfl rfl (by decide +kernel) ⟨Nat.le_of_ble_eq_true rfl, Nat.le_of_ble_eq_true rfl⟩) ⟨kb_blind, kb_pre hPc hDc hK hN⟩ rfl rfl hl.1 rfl (lv_room (Nat.le_of_ble_eq_true rfl)) dX8_of_84 ⟨Nat.le_refl _, Nat.le_refl _⟩) hP hD hS hA [] rfl (fun H locs hn10 hP hS => ?_)
      obtain ⟨z1, y1⟩ := Prod.mk.inj (Option.some.inj hf)
      obtain ⟨z2, y2⟩ := Prod.mk.inj y1
      obtain ⟨z3, y3⟩ := Prod.mk.inj y2
      subst z1 z2 z3 y3
      exact hend _ _ _ _ rfl hP hS dX8_of_87
    rw [if_neg c6_3] at hf
    by_cases c6_4 : x3 = 4
    · rw [if_pos c6_4] at hf
      refine lv_tableIn (tgt := 88) (off := 57) hx hb dX8_of_31 (by rw [c6_4]; decide) (by rw [c6_4]; decide) (by rw [c6_4]; rfl) (by decide) ?_
      refine lv_iload hx hb dX8_of_88 (lv_at hl 0 rfl) ?_
      have hPc : va_P D vwCl ([]) H := hP.sub [] rfl
      have hDc : va_D A ([]) := hD.sub [] (by decide) rfl
      refine kd_iR (va_runS (As := [.int q4]) (rest := []) ⟨hx, hb, hml, hown, hts⟩ (c6_writeBits l D cB cI cZ cO h H.size q4 (f6_writeBits q4) rfl) (va_cwS 1 hts gX8_of_X6_writeBits rfl rfl rfl (by decide +kernel) ⟨Nat.le_of_ble_eq_true rfl, Nat.le_of_ble_eq_true rfl⟩) ⟨kb_blind, kb_pre hPc hDc hK hN⟩ rfl rfl hl.1 rfl (lv_room (Nat.le_of_ble_eq_true rfl)) dX8_of_90 ⟨Nat.le_refl _, Nat.le_refl _⟩) hP hD hS hA [] rfl (fun H locs hn11 hP hS => ?_)
      obtain ⟨z1, y1⟩ := Prod.mk.inj (Option.some.inj hf)
      obtain ⟨z2, y2⟩ := Prod.mk.inj y1
      obtain ⟨z3, y3⟩ := Prod.mk.inj y2
      subst z1 z2 z3 y3
      exact hend _ _ _ _ rfl hP hS dX8_of_93
    rw [if_neg c6_4] at hf
    refine lv_tableOut (tgt := 94) hx hb dX8_of_31 (by have e0 := lv_neT c6_0 (a := 0) rfl; have e1 := lv_neT c6_1 (a := 1) rfl; have e2 := lv_neT c6_2 (a := 2) rfl; have e3 := lv_neT c6_3 (a := 3) rfl; have e4 := lv_neT c6_4 (a := 4) rfl; omega) (by decide) ?_
    refine lv_aload_n hx hb dX8_of_94 rfl (lv_at hl 1 rfl) ?_
    refine lv_bipush (v := (-2)) hx hb dX8_of_95 (by decide) ?_
    refine kb_bind hf (fun q12 hq12 hf => ?_)
    have hPc : va_P D vwCl (wdO cB cI cZ cO h v_now v_tried v_past_kept v_past_oldest v_past_size v_all_threads v_all_rows v_all_ended v_all_known v_all_stepsInAll v_all_count v_all_standstills v_all_wrongOnes v_all_unlikeEnds v_meetings_reached v_text_bytes v_text_length v_text_place v_text_thread v_text_kind v_text_target v_text_value v_refusedBad v_refusedNo v_refusedFull) H := hP.sub [0, 1, 2, 3, 4, 5, 6, 7, 8, 9, 10, 11, 12, 13, 14, 15, 16, 17, 18, 19, 20, 21, 22, 23, 24, 25, 26, 27, 28, 29, 30, 31, 32, 33] rfl
    have hDc : va_D A (wdO cB cI cZ cO h v_now v_tried v_past_kept v_past_oldest v_past_size v_all_threads v_all_rows v_all_ended v_all_known v_all_stepsInAll v_all_count v_all_standstills v_all_wrongOnes v_all_unlikeEnds v_meetings_reached v_text_bytes v_text_length v_text_place v_text_thread v_text_kind v_text_target v_text_value v_refusedBad v_refusedNo v_refusedFull) := hD.sub [0, 1, 2, 3, 4, 5, 6, 7, 8, 9, 10, 11, 12, 13, 14, 15, 16, 17, 18, 19, 20, 21, 22, 23, 24, 25, 26, 27, 28, 29, 30, 31, 32, 33] (by decide) rfl
    refine kd_iW (ws' := wdO cB cI cZ cO h v_now v_tried v_past_kept v_past_oldest v_past_size v_all_threads v_all_rows v_all_ended v_all_known v_all_stepsInAll v_all_count v_all_standstills v_all_wrongOnes v_all_unlikeEnds v_meetings_reached v_text_bytes v_text_length v_text_place v_text_thread v_text_kind v_text_target v_text_value q12.2.1 q12.2.2.1 q12.2.2.2) (va_runV (As := [.int (-2 : Int32)]) (rest := []) ⟨hx, hb, hml, hown, hts⟩ (c8_refused l D cB cI cZ cO h H.size (-2 : Int32) v_now v_tried v_past_kept v_past_oldest v_past_size v_all_threads v_all_rows v_all_ended v_all_known v_all_stepsInAll v_all_count v_all_standstills v_all_wrongOnes v_all_unlikeEnds v_meetings_reached v_text_bytes v_text_length v_text_place v_text_thread v_text_kind v_text_target v_text_value v_refusedBad v_refusedNo v_refusedFull q12.1 q12.2.1 q12.2.2.1 q12.2.2.2 hq12) (cwV 1 hts gX8_of_X8_refused rfl rfl rfl (by decide +kernel) ⟨Nat.le_of_ble_eq_true rfl, Nat.le_of_ble_eq_true rfl⟩) ⟨kb_blind, va_recv hK hPc (ci := 5) (q0 := 0) rfl rfl, kb_pre hPc hDc hK hN⟩ rfl rfl hl.1 rfl (lv_room (Nat.le_of_ble_eq_true rfl)) dX8_of_97 ⟨Nat.le_refl _, Nat.le_refl _⟩) hP hD hS hA [0, 1, 2, 3, 4, 5, 6, 7, 8, 9, 10, 11, 12, 13, 14, 15, 16, 17, 18, 19, 20, 21, 22, 23, 24, 25, 26, 27, 28, 29, 30, 31, 32, 33] [] rfl rfl (fun _ h9 => absurd h9 List.not_mem_nil) rfl rfl (fun H locs hn13 hP hD hS => ?_)
    obtain ⟨z1, y1⟩ := Prod.mk.inj (Option.some.inj hf)
    obtain ⟨z2, y2⟩ := Prod.mk.inj y1
    obtain ⟨z3, y3⟩ := Prod.mk.inj y2
    subst z1 z2 z3 y3
    exact hend _ _ _ _ rfl hP hS dX8_of_100
  · rw [if_pos c3] at hf
    refine lv_aload_n hx hb dX8_of_12 rfl (lv_at hl 0 rfl) ?_
    refine lv_bipush (v := (-2)) hx hb dX8_of_13 (by decide) ?_
    refine kb_bind hf (fun q14 hq14 hf => ?_)
    have hPc : va_P D vwCl (wdO cB cI cZ cO h v_now v_tried v_past_kept v_past_oldest v_past_size v_all_threads v_all_rows v_all_ended v_all_known v_all_stepsInAll v_all_count v_all_standstills v_all_wrongOnes v_all_unlikeEnds v_meetings_reached v_text_bytes v_text_length v_text_place v_text_thread v_text_kind v_text_target v_text_value v_refusedBad v_refusedNo v_refusedFull) H := hP.sub [0, 1, 2, 3, 4, 5, 6, 7, 8, 9, 10, 11, 12, 13, 14, 15, 16, 17, 18, 19, 20, 21, 22, 23, 24, 25, 26, 27, 28, 29, 30, 31, 32, 33] rfl
    have hDc : va_D A (wdO cB cI cZ cO h v_now v_tried v_past_kept v_past_oldest v_past_size v_all_threads v_all_rows v_all_ended v_all_known v_all_stepsInAll v_all_count v_all_standstills v_all_wrongOnes v_all_unlikeEnds v_meetings_reached v_text_bytes v_text_length v_text_place v_text_thread v_text_kind v_text_target v_text_value v_refusedBad v_refusedNo v_refusedFull) := hD.sub [0, 1, 2, 3, 4, 5, 6, 7, 8, 9, 10, 11, 12, 13, 14, 15, 16, 17, 18, 19, 20, 21, 22, 23, 24, 25, 26, 27, 28, 29, 30, 31, 32, 33] (by decide) rfl
    refine kd_iW (ws' := wdO cB cI cZ cO h v_now v_tried v_past_kept v_past_oldest v_past_size v_all_threads v_all_rows v_all_ended v_all_known v_all_stepsInAll v_all_count v_all_standstills v_all_wrongOnes v_all_unlikeEnds v_meetings_reached v_text_bytes v_text_length v_text_place v_text_thread v_text_kind v_text_target v_text_value q14.2.1 q14.2.2.1 q14.2.2.2) (va_runV (As := [.int (-2 : Int32)]) (rest := []) ⟨hx, hb, hml, hown, hts⟩ (c8_refused l D cB cI cZ cO h H.size (-2 : Int32) v_now v_tried v_past_kept v_past_oldest v_past_size v_all_threads v_all_rows v_all_ended v_all_known v_all_stepsInAll v_all_count v_all_standstills v_all_wrongOnes v_all_unlikeEnds v_meetings_reached v_text_bytes v_text_length v_text_place v_text_thread v_text_kind v_text_target v_text_value v_refusedBad v_refusedNo v_refusedFull q14.1 q14.2.1 q14.2.2.1 q14.2.2.2 hq14) (cwV 1 hts gX8_of_X8_refused rfl rfl rfl (by decide +kernel) ⟨Nat.le_of_ble_eq_true rfl, Nat.le_of_ble_eq_true rfl⟩) ⟨kb_blind, va_recv hK hPc (ci := 5) (q0 := 0) rfl rfl, kb_pre hPc hDc hK hN⟩ rfl rfl hl.1 rfl (lv_room (Nat.le_of_ble_eq_true rfl)) dX8_of_15 ⟨Nat.le_refl _, Nat.le_refl _⟩) hP hD hS hA [0, 1, 2, 3, 4, 5, 6, 7, 8, 9, 10, 11, 12, 13, 14, 15, 16, 17, 18, 19, 20, 21, 22, 23, 24, 25, 26, 27, 28, 29, 30, 31, 32, 33] [] rfl rfl (fun _ h9 => absurd h9 List.not_mem_nil) rfl rfl (fun H locs hn15 hP hD hS => ?_)
    obtain ⟨z1, y1⟩ := Prod.mk.inj (Option.some.inj hf)
    obtain ⟨z2, y2⟩ := Prod.mk.inj y1
    obtain ⟨z3, y3⟩ := Prod.mk.inj y2
    subst z1 z2 z3 y3
    exact hend _ _ _ _ rfl hP hS dX8_of_18

set_option maxHeartbeats 4000000 in
set_option maxRecDepth 100000 in
theorem c8_depend (l : Launch) (D : va_G) (cB cI cZ cO : ClassId) (h : Nat → Nat) (sz : Nat) (x1 : Int32) (x2 : Int32) (x3 : Int32) (x4 : Int32) (v_now : sT) (v_tried : sT) (v_past_kept : Nat → sT) (v_past_oldest : Int32) (v_past_size : Int32) (v_all_threads : sT) (v_all_rows : Nat → Int32) (v_all_ended : Nat → Int32) (v_all_known : Int32) (v_all_stepsInAll : Int32) (v_all_count : Int32) (v_all_standstills : Int32) (v_all_wrongOnes : Int32) (v_all_unlikeEnds : Int32) (v_meetings_reached : Nat → Int32) (v_text_bytes : Nat → Int32) (v_text_length : Int32) (v_text_place : Int32) (v_text_thread : Int32) (v_text_kind : Int32) (v_text_target : Int32) (v_text_value : Int32) (v_refusedBad : Int32) (v_refusedNo : Int32) (v_refusedFull : Int32) (r0 : Int32) (v_refusedBad' : Int32) (v_refusedNo' : Int32) (v_refusedFull' : Int32) (hf : f8_depend v_now v_refusedBad v_refusedNo v_refusedFull x1 x2 x3 x4 = some (r0, v_refusedBad', v_refusedNo', v_refusedFull')) : Met l yX8_depend wsX8_depend rm8_depend (va_Pc [.ref (h 0), .int x1, .int x2, .int x3, .int x4] (kb_B D (ka_tys cB cI cZ cO) sz (wdO cB cI cZ cO h v_now v_tried v_past_kept v_past_oldest v_past_size v_all_threads v_all_rows v_all_ended v_all_known v_all_stepsInAll v_all_count v_all_standstills v_all_wrongOnes v_all_unlikeEnds v_meetings_reached v_text_bytes v_text_length v_text_place v_text_thread v_text_kind v_text_target v_text_value v_refusedBad v_refusedNo v_refusedFull))) (va_Qi (kb_post .int r0) (fun _ t => va_P D vwCl (wdO cB cI cZ cO h v_now v_tried v_past_kept v_past_oldest v_past_size v_all_threads v_all_rows v_all_ended v_all_known v_all_stepsInAll v_all_count v_all_standstills v_all_wrongOnes v_all_unlikeEnds v_meetings_reached v_text_bytes v_text_length v_text_place v_text_thread v_text_kind v_text_target v_text_value (v_refusedBad') (v_refusedNo') (v_refusedFull')) t.heap) (va_A (wdO cB cI cZ cO h v_now v_tried v_past_kept v_past_oldest v_past_size v_all_threads v_all_rows v_all_ended v_all_known v_all_stepsInAll v_all_count v_all_standstills v_all_wrongOnes v_all_unlikeEnds v_meetings_reached v_text_bytes v_text_length v_text_place v_text_thread v_text_kind v_text_target v_text_value v_refusedBad v_refusedNo v_refusedFull) sz)) 0 0 (va_A (wdO cB cI cZ cO h v_now v_tried v_past_kept v_past_oldest v_past_size v_all_threads v_all_rows v_all_ended v_all_known v_all_stepsInAll v_all_count v_all_standstills v_all_wrongOnes v_all_unlikeEnds v_meetings_reached v_text_bytes v_text_length v_text_place v_text_thread v_text_kind v_text_target v_text_value v_refusedBad v_refusedNo v_refusedFull) sz) := by
  refine kb_metZ (cc := cX8_depend) (maxL := 5) (ty := .int) (by decide) rfl (Nat.le_of_ble_eq_true rfl) ?_
  intro p e s m args below meth c Q A ls H hx hb hml hown hts hK hN hP hD hS hA hl hend
  have hown : s.vm.findClass RX8 = some m.cls := hown
  have hl : lv_has ls 5 [(0, .ref (h 0)), (1, .int x1), (2, .int x2), (3, .int x3), (4, .int x4)] := hl
  have hin8 : ∀ w ∈ u_ws RX8 TX8 9, w ∈ wsX8_depend := by decide +kernel
  have J36 : ∀ (v_refusedBad : Int32) (v_refusedNo : Int32) (v_refusedFull : Int32) (H : Heap) (locs : List Loc) (ls : Array Slot), f8_depend_b36 v_now v_refusedBad v_refusedNo v_refusedFull = some (r0, v_refusedBad', v_refusedNo', v_refusedFull') → va_P D vwCl (wdO cB cI cZ cO h v_now v_tried v_past_kept v_past_oldest v_past_size v_all_threads v_all_rows v_all_ended v_all_known v_all_stepsInAll v_all_count v_all_standstills v_all_wrongOnes v_all_unlikeEnds v_meetings_reached v_text_bytes v_text_length v_text_place v_text_thread v_text_kind v_text_target v_text_value v_refusedBad v_refusedNo v_refusedFull) H → va_D A (wdO cB cI cZ cO h v_now v_tried v_past_kept v_past_oldest v_past_size v_all_threads v_all_rows v_all_ended v_all_known v_all_stepsInAll v_all_count v_all_standstills v_all_wrongOnes v_all_unlikeEnds v_meetings_reached v_text_bytes v_text_length v_text_place v_text_thread v_text_kind v_text_target v_text_value v_refusedBad v_refusedNo v_refusedFull) → va_S A s.heap H locs → lv_has ls 5 [(0, .ref (h 0))] → W p l e rm8_depend s m args below meth c H locs 0 0 Q (F0 m 36 ls []) := by
    intro v_refusedBad v_refusedNo v_refusedFull H locs ls hf hP hD hS hl
    rw [f8_depend_b36] at hf
    refine lv_aload_n hx hb dX8_depend_36 rfl (lv_at hl 0 rfl) ?_
    refine lv_bipush (v := (-2)) hx hb dX8_depend_37 (by decide) ?_
    refine kb_bind hf (fun q3 hq3 hf => ?_)
    have hPc : va_P D vwCl (wdO cB cI cZ cO h v_now v_tried v_past_kept v_past_oldest v_past_size v_all_threads v_all_rows v_all_ended v_all_known v_all_stepsInAll v_all_count v_all_standstills v_all_wrongOnes v_all_unlikeEnds v_meetings_reached v_text_bytes v_text_length v_text_place v_text_thread v_text_kind v_text_target v_text_value v_refusedBad v_refusedNo v_refusedFull) H := hP.sub [0, 1, 2, 3, 4, 5, 6, 7, 8, 9, 10, 11, 12, 13, 14, 15, 16, 17, 18, 19, 20, 21, 22, 23, 24, 25, 26, 27, 28, 29, 30, 31, 32, 33] rfl
    have hDc : va_D A (wdO cB cI cZ cO h v_now v_tried v_past_kept v_past_oldest v_past_size v_all_threads v_all_rows v_all_ended v_all_known v_all_stepsInAll v_all_count v_all_standstills v_all_wrongOnes v_all_unlikeEnds v_meetings_reached v_text_bytes v_text_length v_text_place v_text_thread v_text_kind v_text_target v_text_value v_refusedBad v_refusedNo v_refusedFull) := hD.sub [0, 1, 2, 3, 4, 5, 6, 7, 8, 9, 10, 11, 12, 13, 14, 15, 16, 17, 18, 19, 20, 21, 22, 23, 24, 25, 26, 27, 28, 29, 30, 31, 32, 33] (by decide) rfl
    refine kd_iW (ws' := wdO cB cI cZ cO h v_now v_tried v_past_kept v_past_oldest v_past_size v_all_threads v_all_rows v_all_ended v_all_known v_all_stepsInAll v_all_count v_all_standstills v_all_wrongOnes v_all_unlikeEnds v_meetings_reached v_text_bytes v_text_length v_text_place v_text_thread v_text_kind v_text_target v_text_value q3.2.1 q3.2.2.1 q3.2.2.2) (va_runV (As := [.int (-2 : Int32)]) (rest := []) ⟨hx, hb, hml, hown, hts⟩ (c8_refused l D cB cI cZ cO h H.size (-2 : Int32) v_now v_tried v_past_kept v_past_oldest v_past_size v_all_threads v_all_rows v_all_ended v_all_known v_all_stepsInAll v_all_count v_all_standstills v_all_wrongOnes v_all_unlikeEnds v_meetings_reached v_text_bytes v_text_length v_text_place v_text_thread v_text_kind v_text_target v_text_value v_refusedBad v_refusedNo v_refusedFull q3.1 q3.2.1 q3.2.2.1 q3.2.2.2 hq3) (cwV 1 hts gX8_depend_X8_refused rfl rfl rfl (by decide +kernel) ⟨Nat.le_of_ble_eq_true rfl, Nat.le_of_ble_eq_true rfl⟩) ⟨kb_blind, va_recv hK hPc (ci := 5) (q0 := 0) rfl rfl, kb_pre hPc hDc hK hN⟩ rfl rfl hl.1 rfl (lv_room (Nat.le_of_ble_eq_true rfl)) dX8_depend_39 ⟨Nat.le_refl _, Nat.le_refl _⟩) hP hD hS hA [0, 1, 2, 3, 4, 5, 6, 7, 8, 9, 10, 11, 12, 13, 14, 15, 16, 17, 18, 19, 20, 21, 22, 23, 24, 25, 26, 27, 28, 29, 30, 31, 32, 33] [] rfl rfl (fun _ h9 => absurd h9 List.not_mem_nil) rfl rfl (fun H locs hn4 hP hD hS => ?_)
    obtain ⟨z1, y1⟩ := Prod.mk.inj (Option.some.inj hf)
    obtain ⟨z2, y2⟩ := Prod.mk.inj y1
    obtain ⟨z3, y3⟩ := Prod.mk.inj y2
    subst z1 z2 z3 y3
    exact hend _ _ _ _ rfl hP hS dX8_depend_42
  have J73 : ∀ (v_refusedBad : Int32) (v_refusedNo : Int32) (v_refusedFull : Int32) (H : Heap) (locs : List Loc) (ls : Array Slot), f8_depend_b73 v_now v_refusedBad v_refusedNo v_refusedFull = some (r0, v_refusedBad', v_refusedNo', v_refusedFull') → va_P D vwCl (wdO cB cI cZ cO h v_now v_tried v_past_kept v_past_oldest v_past_size v_all_threads v_all_rows v_all_ended v_all_known v_all_stepsInAll v_all_count v_all_standstills v_all_wrongOnes v_all_unlikeEnds v_meetings_reached v_text_bytes v_text_length v_text_place v_text_thread v_text_kind v_text_target v_text_value v_refusedBad v_refusedNo v_refusedFull) H → va_D A (wdO cB cI cZ cO h v_now v_tried v_past_kept v_past_oldest v_past_size v_all_threads v_all_rows v_all_ended v_all_known v_all_stepsInAll v_all_count v_all_standstills v_all_wrongOnes v_all_unlikeEnds v_meetings_reached v_text_bytes v_text_length v_text_place v_text_thread v_text_kind v_text_target v_text_value v_refusedBad v_refusedNo v_refusedFull) → va_S A s.heap H locs → lv_has ls 5 [] → W p l e rm8_depend s m args below meth c H locs 0 0 Q (F0 m 73 ls []) := by
    intro v_refusedBad v_refusedNo v_refusedFull H locs ls hf hP hD hS hl
    rw [f8_depend_b73] at hf
    refine lv_iconst (v := 1) hx hb dX8_depend_73 (by decide) ?_
    refine lv_goto (tgt := 78) hx hb dX8_depend_74 (by decide) ?_
    obtain ⟨z1, y1⟩ := Prod.mk.inj (Option.some.inj hf)
    obtain ⟨z2, y2⟩ := Prod.mk.inj y1
    obtain ⟨z3, y3⟩ := Prod.mk.inj y2
    subst z1 z2 z3 y3
    exact hend _ _ _ _ rfl hP hS dX8_depend_78
  have J43 : ∀ (v_refusedBad : Int32) (v_refusedNo : Int32) (v_refusedFull : Int32) (x1 : Int32) (x2 : Int32) (x3 : Int32) (x4 : Int32) (H : Heap) (locs : List Loc) (ls : Array Slot), f8_depend_b43 v_now v_refusedBad v_refusedNo v_refusedFull x1 x2 x3 x4 = some (r0, v_refusedBad', v_refusedNo', v_refusedFull') → va_P D vwCl (wdO cB cI cZ cO h v_now v_tried v_past_kept v_past_oldest v_past_size v_all_threads v_all_rows v_all_ended v_all_known v_all_stepsInAll v_all_count v_all_standstills v_all_wrongOnes v_all_unlikeEnds v_meetings_reached v_text_bytes v_text_length v_text_place v_text_thread v_text_kind v_text_target v_text_value v_refusedBad v_refusedNo v_refusedFull) H → va_D A (wdO cB cI cZ cO h v_now v_tried v_past_kept v_past_oldest v_past_size v_all_threads v_all_rows v_all_ended v_all_known v_all_stepsInAll v_all_count v_all_standstills v_all_wrongOnes v_all_unlikeEnds v_meetings_reached v_text_bytes v_text_length v_text_place v_text_thread v_text_kind v_text_target v_text_value v_refusedBad v_refusedNo v_refusedFull) → va_S A s.heap H locs → lv_has ls 5 [(0, .ref (h 0)), (1, .int x1), (2, .int x2), (3, .int x3), (4, .int x4)] → W p l e rm8_depend s m args below meth c H locs 0 0 Q (F0 m 43 ls []) := by
    intro v_refusedBad v_refusedNo v_refusedFull x1 x2 x3 x4 H locs ls hf hP hD hS hl
    rw [f8_depend_b43] at hf
    refine lv_iload_n hx hb dX8_depend_43 rfl (lv_at hl 1 rfl) ?_
    refine lv_iload_n hx hb dX8_depend_44 rfl (lv_at hl 3 rfl) ?_
    refine lv_icmp_eq (tgt := 73) hx hb dX8_depend_45 (by decide) (fun c12 => ?_) (fun c12 => ?_)
    · rw [if_pos c12] at hf
      exact J73 v_refusedBad v_refusedNo v_refusedFull _ _ _ hf hP hD hS (lv_sub hl [] rfl)
    · rw [if_neg c12] at hf
      refine lv_aload_n hx hb dX8_depend_48 rfl (lv_at hl 0 rfl) ?_
      refine va_get (D := D) (cl := vwCl) (ci := 5) (v := .ref (h 1)) (C := RX8) (T := TX8) (N := 9) hx hb hts hin8 hown hK hP 0 rfl rfl 0 (by decide) (hts (.fieldLink RX8 12 "StepOrders" "now" "LStepOrders$State;") (by decide +kernel)) (fun _ h9 => h9) rfl dX8_depend_49 ?_
      refine lv_iload_n hx hb dX8_depend_52 rfl (lv_at hl 1 rfl) ?_
      refine lv_iload_n hx hb dX8_depend_53 rfl (lv_at hl 2 rfl) ?_
      refine kb_bind hf (fun q13 hq13 hf => ?_)
      have hPc : va_P D vwCl (wdS cI h 1 v_now) H := hP.sub [1, 2, 3] rfl
      have hDc : va_D A (wdS cI h 1 v_now) := hD.sub [1, 2, 3] (by decide) rfl
      refine kd_iR (va_runV (As := [.int x1, .int x2]) (rest := []) ⟨hx, hb, hml, hown, hts⟩ (c5_stepAt l D cB cI cZ cO h 1 H.size x1 x2 v_now q13 hq13) (cwV 2 hts gX8_depend_X5_stepAt rfl rfl rfl (by decide +kernel) ⟨Nat.le_of_ble_eq_true rfl, Nat.le_of_ble_eq_true rfl⟩) ⟨kb_blind, va_recv hK hPc (ci := 3) (q0 := 0) rfl rfl, kb_pre hPc hDc hK hN⟩ rfl rfl hl.1 rfl (lv_room (Nat.le_of_ble_eq_true rfl)) dX8_depend_54 ⟨Nat.le_refl _, Nat.le_refl _⟩) hP hD hS hA [1, 2, 3] rfl (fun H locs hn14 hP hS => ?_)
      refine lv_aload_n hx hb dX8_depend_57 rfl (lv_at hl 0 rfl) ?_
      refine va_get (D := D) (cl := vwCl) (ci := 5) (v := .ref (h 1)) (C := RX8) (T := TX8) (N := 9) hx hb hts hin8 hown hK hP 0 rfl rfl 0 (by decide) (hts (.fieldLink RX8 12 "StepOrders" "now" "LStepOrders$State;") (by decide +kernel)) (fun _ h9 => h9) rfl dX8_depend_58 ?_
      refine lv_iload_n hx hb dX8_depend_61 rfl (lv_at hl 3 rfl) ?_
      refine lv_iload hx hb dX8_depend_62 (lv_at hl 4 rfl) ?_
      refine kb_bind hf (fun q15 hq15 hf => ?_)
      have hPc : va_P D vwCl (wdS cI h 1 v_now) H := hP.sub [1, 2, 3] rfl
      have hDc : va_D A (wdS cI h 1 v_now) := hD.sub [1, 2, 3] (by decide) rfl
      refine kd_iR (va_runV (As := [.int x3, .int x4]) (rest := [.int q13]) ⟨hx, hb, hml, hown, hts⟩ (c5_stepAt l D cB cI cZ cO h 1 H.size x3 x4 v_now q15 hq15) (cwV 2 hts gX8_depend_X5_stepAt rfl rfl rfl (by decide +kernel) ⟨Nat.le_of_ble_eq_true rfl, Nat.le_of_ble_eq_true rfl⟩) ⟨kb_blind, va_recv hK hPc (ci := 3) (q0 := 0) rfl rfl, kb_pre hPc hDc hK hN⟩ rfl rfl hl.1 rfl (lv_room (Nat.le_of_ble_eq_true rfl)) dX8_depend_64 ⟨Nat.le_refl _, Nat.le_refl _⟩) hP hD hS hA [1, 2, 3] rfl (fun H locs hn16 hP hS => ?_)
      have hPc : va_P D vwCl ([]) H := hP.sub [] rfl
      have hDc : va_D A ([]) := hD.sub [] (by decide) rfl
      refine kd_iR (va_runS (As := [.int q13, .int q15]) (rest := []) ⟨hx, hb, hml, hown, hts⟩ (c6_tied l D cB cI cZ cO h H.size q13 q15 (f6_tied q13 q15) rfl) (va_cwS 2 hts gX8_depend_X6_tied rfl rfl rfl (by decide +kernel) ⟨Nat.le_of_ble_eq_true rfl, Nat.le_of_ble_eq_true rfl⟩) ⟨kb_blind, kb_pre hPc hDc hK hN⟩ rfl rfl hl.1 rfl (lv_room (Nat.le_of_ble_eq_true rfl)) dX8_depend_67 ⟨Nat.le_refl _, Nat.le_refl _⟩) hP hD hS hA [] rfl (fun H locs hn17 hP hS => ?_)
      refine lv_if_eq (tgt := 77) hx hb dX8_depend_70 (by decide) (fun c18 => ?_) (fun c18 => ?_)
      · rw [if_pos c18] at hf
        refine lv_iconst (v := 0) hx hb dX8_depend_77 (by decide) ?_
        obtain ⟨z1, y1⟩ := Prod.mk.inj (Option.some.inj hf)
        obtain ⟨z2, y2⟩ := Prod.mk.inj y1
        obtain ⟨z3, y3⟩ := Prod.mk.inj y2
        subst z1 z2 z3 y3
        exact hend _ _ _ _ rfl hP hS dX8_depend_78
      · rw [if_neg c18] at hf
        exact J73 v_refusedBad v_refusedNo v_refusedFull _ _ _ hf hP hD hS (lv_sub hl [] rfl)
  rw [f8_depend] at hf
  refine lv_aload_n hx hb dX8_depend_0 rfl (lv_at hl 0 rfl) ?_
  refine va_get (D := D) (cl := vwCl) (ci := 5) (v := .ref (h 1)) (C := RX8) (T := TX8) (N := 9) hx hb hts hin8 hown hK hP 0 rfl rfl 0 (by decide) (hts (.fieldLink RX8 12 "StepOrders" "now" "LStepOrders$State;") (by decide +kernel)) (fun _ h9 => h9) rfl dX8_depend_1 ?_
  refine lv_iload_n hx hb dX8_depend_4 rfl (lv_at hl 1 rfl) ?_
  refine lv_iload_n hx hb dX8_depend_5 rfl (lv_at hl 2 rfl) ?_
  refine kb_bind hf (fun q19 hq19 hf => ?_)
  have hPc : va_P D vwCl (wdS cI h 1 v_now) H := hP.sub [1, 2, 3] rfl
  have hDc : va_D A (wdS cI h 1 v_now) := hD.sub [1, 2, 3] (by decide) rfl
  refine kd_iR (va_runV (As := [.int x1, .int x2]) (rest := []) ⟨hx, hb, hml, hown, hts⟩ (c5_hasStep l D cB cI cZ cO h 1 H.size x1 x2 v_now q19 hq19) (cwV 2 hts gX8_depend_X5_hasStep rfl rfl rfl (by decide +kernel) ⟨Nat.le_of_ble_eq_true rfl, Nat.le_of_ble_eq_true rfl⟩) ⟨kb_blind, va_recv hK hPc (ci := 3) (q0 := 0) rfl rfl, kb_pre hPc hDc hK hN⟩ rfl rfl hl.1 rfl (lv_room (Nat.le_of_ble_eq_true rfl)) dX8_depend_6 ⟨Nat.le_refl _, Nat.le_refl _⟩) hP hD hS hA [1, 2, 3] rfl (fun H locs hn20 hP hS => ?_)
  refine lv_if_eq (tgt := 36) hx hb dX8_depend_9 (by decide) (fun c21 => ?_) (fun c21 => ?_)
  · rw [if_pos c21] at hf
    exact J36 v_refusedBad v_refusedNo v_refusedFull _ _ _ hf hP hD hS (lv_sub hl [0] rfl)
  · rw [if_neg c21] at hf
    refine lv_aload_n hx hb dX8_depend_12 rfl (lv_at hl 0 rfl) ?_
    refine va_get (D := D) (cl := vwCl) (ci := 5) (v := .ref (h 1)) (C := RX8) (T := TX8) (N := 9) hx hb hts hin8 hown hK hP 0 rfl rfl 0 (by decide) (hts (.fieldLink RX8 12 "StepOrders" "now" "LStepOrders$State;") (by decide +kernel)) (fun _ h9 => h9) rfl dX8_depend_13 ?_
    refine lv_iload_n hx hb dX8_depend_16 rfl (lv_at hl 3 rfl) ?_
    refine lv_iload hx hb dX8_depend_17 (lv_at hl 4 rfl) ?_
    refine kb_bind hf (fun q22 hq22 hf => ?_)
    have hPc : va_P D vwCl (wdS cI h 1 v_now) H := hP.sub [1, 2, 3] rfl
    have hDc : va_D A (wdS cI h 1 v_now) := hD.sub [1, 2, 3] (by decide) rfl
    refine kd_iR (va_runV (As := [.int x3, .int x4]) (rest := []) ⟨hx, hb, hml, hown, hts⟩ (c5_hasStep l D cB cI cZ cO h 1 H.size x3 x4 v_now q22 hq22) (cwV 2 hts gX8_depend_X5_hasStep rfl rfl rfl (by decide +kernel) ⟨Nat.le_of_ble_eq_true rfl, Nat.le_of_ble_eq_true rfl⟩) ⟨kb_blind, va_recv hK hPc (ci := 3) (q0 := 0) rfl rfl, kb_pre hPc hDc hK hN⟩ rfl rfl hl.1 rfl (lv_room (Nat.le_of_ble_eq_true rfl)) dX8_depend_19 ⟨Nat.le_refl _, Nat.le_refl _⟩) hP hD hS hA [1, 2, 3] rfl (fun H locs hn23 hP hS => ?_)
    refine lv_if_eq (tgt := 36) hx hb dX8_depend_22 (by decide) (fun c24 => ?_) (fun c24 => ?_)
    · rw [if_pos c24] at hf
      exact J36 v_refusedBad v_refusedNo v_refusedFull _ _ _ hf hP hD hS (lv_sub hl [0] rfl)
    · rw [if_neg c24] at hf
      refine lv_iload_n hx hb dX8_depend_25 rfl (lv_at hl 1 rfl) ?_
      refine lv_iload_n hx hb dX8_depend_26 rfl (lv_at hl 3 rfl) ?_
      refine lv_icmp_ne (tgt := 43) hx hb dX8_depend_27 (by decide) (fun c25 => ?_) (fun c25 => ?_)
      · rw [if_neg c25] at hf
        exact J43 v_refusedBad v_refusedNo v_refusedFull x1 x2 x3 x4 _ _ _ hf hP hD hS (lv_sub hl [0, 1, 2, 3, 4] rfl)
      · rw [if_pos c25] at hf
        refine lv_iload_n hx hb dX8_depend_30 rfl (lv_at hl 2 rfl) ?_
        refine lv_iload hx hb dX8_depend_31 (lv_at hl 4 rfl) ?_
        refine lv_icmp_ne (tgt := 43) hx hb dX8_depend_33 (by decide) (fun c26 => ?_) (fun c26 => ?_)
        · rw [if_neg c26] at hf
          exact J43 v_refusedBad v_refusedNo v_refusedFull x1 x2 x3 x4 _ _ _ hf hP hD hS (lv_sub hl [0, 1, 2, 3, 4] rfl)
        · rw [if_pos c26] at hf
          exact J36 v_refusedBad v_refusedNo v_refusedFull _ _ _ hf hP hD hS (lv_sub hl [0] rfl)

set_option maxHeartbeats 4000000 in
set_option maxRecDepth 100000 in
theorem c8_orders (l : Launch) (D : va_G) (cB cI cZ cO : ClassId) (h : Nat → Nat) (sz : Nat) (x1 : Int32) (v_now : sT) (v_tried : sT) (v_past_kept : Nat → sT) (v_past_oldest : Int32) (v_past_size : Int32) (v_all_threads : sT) (v_all_rows : Nat → Int32) (v_all_ended : Nat → Int32) (v_all_known : Int32) (v_all_stepsInAll : Int32) (v_all_count : Int32) (v_all_standstills : Int32) (v_all_wrongOnes : Int32) (v_all_unlikeEnds : Int32) (v_meetings_reached : Nat → Int32) (v_text_bytes : Nat → Int32) (v_text_length : Int32) (v_text_place : Int32) (v_text_thread : Int32) (v_text_kind : Int32) (v_text_target : Int32) (v_text_value : Int32) (v_refusedBad : Int32) (v_refusedNo : Int32) (v_refusedFull : Int32) (r0 : Int32) (v_all_threads' : sT) (v_all_rows' : Nat → Int32) (v_all_ended' : Nat → Int32) (v_all_known' : Int32) (v_all_stepsInAll' : Int32) (v_all_count' : Int32) (v_all_standstills' : Int32) (v_all_wrongOnes' : Int32) (v_all_unlikeEnds' : Int32) (v_refusedBad' : Int32) (v_refusedNo' : Int32) (v_refusedFull' : Int32) (hf : f8_orders v_now v_all_threads v_all_rows v_all_ended v_all_known v_all_stepsInAll v_all_count v_all_standstills v_all_wrongOnes v_all_unlikeEnds v_refusedBad v_refusedNo v_refusedFull x1 = some (r0, v_all_threads', v_all_rows', v_all_ended', v_all_known', v_all_stepsInAll', v_all_count', v_all_standstills', v_all_wrongOnes', v_all_unlikeEnds', v_refusedBad', v_refusedNo', v_refusedFull')) : Met l yX8_orders wsX8_orders rm8_orders (va_Pc [.ref (h 0), .int x1] (kb_B D (ka_tys cB cI cZ cO) sz (wdO cB cI cZ cO h v_now v_tried v_past_kept v_past_oldest v_past_size v_all_threads v_all_rows v_all_ended v_all_known v_all_stepsInAll v_all_count v_all_standstills v_all_wrongOnes v_all_unlikeEnds v_meetings_reached v_text_bytes v_text_length v_text_place v_text_thread v_text_kind v_text_target v_text_value v_refusedBad v_refusedNo v_refusedFull))) (va_Qi (kb_post .int r0) (fun _ t => va_P D vwCl (wdO cB cI cZ cO h v_now v_tried v_past_kept v_past_oldest v_past_size (v_all_threads') (v_all_rows') (v_all_ended') (v_all_known') (v_all_stepsInAll') (v_all_count') (v_all_standstills') (v_all_wrongOnes') (v_all_unlikeEnds') v_meetings_reached v_text_bytes v_text_length v_text_place v_text_thread v_text_kind v_text_target v_text_value (v_refusedBad') (v_refusedNo') (v_refusedFull')) t.heap) (va_A (wdO cB cI cZ cO h v_now v_tried v_past_kept v_past_oldest v_past_size v_all_threads v_all_rows v_all_ended v_all_known v_all_stepsInAll v_all_count v_all_standstills v_all_wrongOnes v_all_unlikeEnds v_meetings_reached v_text_bytes v_text_length v_text_place v_text_thread v_text_kind v_text_target v_text_value v_refusedBad v_refusedNo v_refusedFull) sz)) 0 0 (va_A (wdO cB cI cZ cO h v_now v_tried v_past_kept v_past_oldest v_past_size v_all_threads v_all_rows v_all_ended v_all_known v_all_stepsInAll v_all_count v_all_standstills v_all_wrongOnes v_all_unlikeEnds v_meetings_reached v_text_bytes v_text_length v_text_place v_text_thread v_text_kind v_text_target v_text_value v_refusedBad v_refusedNo v_refusedFull) sz) := by
  refine kb_metZ (cc := cX8_orders) (maxL := 2) (ty := .int) (by decide) rfl (Nat.le_of_ble_eq_true rfl) ?_
  intro p e s m args below meth c Q A ls H hx hb hml hown hts hK hN hP hD hS hA hl hend
  have hown : s.vm.findClass RX8 = some m.cls := hown
  have hl : lv_has ls 2 [(0, .ref (h 0)), (1, .int x1)] := hl
  have hin8 : ∀ w ∈ u_ws RX8 TX8 9, w ∈ wsX8_orders := by decide +kernel
  rw [f8_orders] at hf
  refine lv_iload_n hx hb dX8_orders_0 rfl (lv_at hl 1 rfl) ?_
  refine lv_iconst (v := 4) hx hb dX8_orders_1 (by decide) ?_
  have hPc : va_P D vwCl ([]) H := hP.sub [] rfl
  have hDc : va_D A ([]) := hD.sub [] (by decide) rfl
  refine kd_iR (va_runS (As := [.int x1, .int (4 : Int32)]) (rest := []) ⟨hx, hb, hml, hown, hts⟩ (c8_below l D cB cI cZ cO h H.size x1 (4 : Int32) (f8_below x1 (4 : Int32)) rfl) (va_cwS 2 hts gX8_orders_X8_below rfl rfl rfl (by decide +kernel) ⟨Nat.le_of_ble_eq_true rfl, Nat.le_of_ble_eq_true rfl⟩) ⟨kb_blind, kb_pre hPc hDc hK hN⟩ rfl rfl hl.1 rfl (lv_room (Nat.le_of_ble_eq_true rfl)) dX8_orders_2 ⟨Nat.le_refl _, Nat.le_refl _⟩) hP hD hS hA [] rfl (fun H locs hn1 hP hS => ?_)
  refine lv_if_ne (tgt := 15) hx hb dX8_orders_5 (by decide) (fun c2 => ?_) (fun c2 => ?_)
  · rw [if_neg c2] at hf
    refine lv_aload_n hx hb dX8_orders_15 rfl (lv_at hl 0 rfl) ?_
    refine va_get (D := D) (cl := vwCl) (ci := 5) (v := .ref (h 24)) (C := RX8) (T := TX8) (N := 9) hx hb hts hin8 hown hK hP 0 rfl rfl 3 (by decide) (hts (.fieldLink RX8 29 "StepOrders" "all" "LStepOrders$AllOrders;") (by decide +kernel)) (fun _ h9 => h9) rfl dX8_orders_16 ?_
    refine lv_aload_n hx hb dX8_orders_19 rfl (lv_at hl 0 rfl) ?_
    refine va_get (D := D) (cl := vwCl) (ci := 5) (v := .ref (h 1)) (C := RX8) (T := TX8) (N := 9) hx hb hts hin8 hown hK hP 0 rfl rfl 0 (by decide) (hts (.fieldLink RX8 12 "StepOrders" "now" "LStepOrders$State;") (by decide +kernel)) (fun _ h9 => h9) rfl dX8_orders_20 ?_
    refine kb_bind hf (fun q3 hq3 hf => ?_)
    have hPc : va_P D vwCl (wdA cI cZ h 24 v_all_threads v_all_rows v_all_ended v_all_known v_all_stepsInAll v_all_count v_all_standstills v_all_wrongOnes v_all_unlikeEnds ++ wdS cI h 1 v_now) H := hP.sub [24, 25, 26, 27, 28, 29, 1, 2, 3] rfl
    have hDc : va_D A (wdA cI cZ h 24 v_all_threads v_all_rows v_all_ended v_all_known v_all_stepsInAll v_all_count v_all_standstills v_all_wrongOnes v_all_unlikeEnds ++ wdS cI h 1 v_now) := hD.sub [24, 25, 26, 27, 28, 29, 1, 2, 3] (by decide) rfl
    refine kd_vW (ws' := wdO cB cI cZ cO h v_now v_tried v_past_kept v_past_oldest v_past_size q3.1 q3.2.1 q3.2.2.1 q3.2.2.2.1 q3.2.2.2.2.1 q3.2.2.2.2.2.1 q3.2.2.2.2.2.2.1 q3.2.2.2.2.2.2.2.1 q3.2.2.2.2.2.2.2.2 v_meetings_reached v_text_bytes v_text_length v_text_place v_text_thread v_text_kind v_text_target v_text_value v_refusedBad v_refusedNo v_refusedFull) (va_runV (As := [.ref (h 1)]) (rest := []) ⟨hx, hb, hml, hown, hts⟩ (c0_goThrough l D cB cI cZ cO h 24 1 H.size v_all_threads v_all_rows v_all_ended v_all_known v_all_stepsInAll v_all_count v_all_standstills v_all_wrongOnes v_all_unlikeEnds v_now q3.1 q3.2.1 q3.2.2.1 q3.2.2.2.1 q3.2.2.2.2.1 q3.2.2.2.2.2.1 q3.2.2.2.2.2.2.1 q3.2.2.2.2.2.2.2.1 q3.2.2.2.2.2.2.2.2 hq3) (cwV 1 hts gX8_orders_X0_goThrough rfl rfl rfl (by decide +kernel) ⟨Nat.le_of_ble_eq_true rfl, Nat.le_of_ble_eq_true rfl⟩) ⟨kb_blind, va_recv hK hPc (ci := 0) (q0 := 0) rfl rfl, kb_pre hPc hDc hK hN⟩ rfl rfl hl.1 rfl (lv_room (Nat.le_of_ble_eq_true rfl)) dX8_orders_23 ⟨Nat.le_refl _, Nat.le_refl _⟩) hP hD hS hA [24, 25, 26, 27, 28, 29, 1, 2, 3] [0, 4, 5, 6, 7, 8, 9, 10, 11, 12, 13, 14, 15, 16, 17, 18, 19, 20, 21, 22, 23, 30, 31, 32, 33] rfl rfl (List.forall_mem_cons.mpr ⟨rfl, (List.forall_mem_cons.mpr ⟨rfl, (List.forall_mem_cons.mpr ⟨rfl, (List.forall_mem_cons.mpr ⟨rfl, (List.forall_mem_cons.mpr ⟨rfl, (List.forall_mem_cons.mpr ⟨rfl, (List.forall_mem_cons.mpr ⟨rfl, (List.forall_mem_cons.mpr ⟨rfl, (List.forall_mem_cons.mpr ⟨rfl, (List.forall_mem_cons.mpr ⟨rfl, (List.forall_mem_cons.mpr ⟨rfl, (List.forall_mem_cons.mpr ⟨rfl, (List.forall_mem_cons.mpr ⟨rfl, (List.forall_mem_cons.mpr ⟨rfl, (List.forall_mem_cons.mpr ⟨rfl, (List.forall_mem_cons.mpr ⟨rfl, (List.forall_mem_cons.mpr ⟨rfl, (List.forall_mem_cons.mpr ⟨rfl, (List.forall_mem_cons.mpr ⟨rfl, (List.forall_mem_cons.mpr ⟨rfl, (List.forall_mem_cons.mpr ⟨rfl, (List.forall_mem_cons.mpr ⟨rfl, (List.forall_mem_cons.mpr ⟨rfl, (List.forall_mem_cons.mpr ⟨rfl, (List.forall_mem_cons.mpr ⟨rfl, (fun _ h9 => absurd h9 List.not_mem_nil)⟩)⟩)⟩)⟩)⟩)⟩)⟩)⟩)⟩)⟩)⟩)⟩)⟩)⟩)⟩)⟩)⟩)⟩)⟩)⟩)⟩)⟩)⟩)⟩)⟩) rfl rfl (fun H locs hP hD hS => ?_)
    refine lv_aload_n hx hb dX8_orders_26 rfl (lv_at hl 0 rfl) ?_
    refine va_get (D := D) (cl := vwCl) (ci := 5) (v := .ref (h 24)) (C := RX8) (T := TX8) (N := 9) hx hb hts hin8 hown hK hP 0 rfl rfl 3 (by decide) (hts (.fieldLink RX8 29 "StepOrders" "all" "LStepOrders$AllOrders;") (by decide +kernel)) (fun _ h9 => h9) rfl dX8_orders_27 ?_
    refine lv_iload_n hx hb dX8_orders_30 rfl (lv_at hl 1 rfl) ?_
    have hPc : va_P D vwCl (wdA cI cZ h 24 q3.1 q3.2.1 q3.2.2.1 q3.2.2.2.1 q3.2.2.2.2.1 q3.2.2.2.2.2.1 q3.2.2.2.2.2.2.1 q3.2.2.2.2.2.2.2.1 q3.2.2.2.2.2.2.2.2) H := hP.sub [24, 25, 26, 27, 28, 29] rfl
    have hDc : va_D A (wdA cI cZ h 24 q3.1 q3.2.1 q3.2.2.1 q3.2.2.2.1 q3.2.2.2.2.1 q3.2.2.2.2.2.1 q3.2.2.2.2.2.2.1 q3.2.2.2.2.2.2.2.1 q3.2.2.2.2.2.2.2.2) := hD.sub [24, 25, 26, 27, 28, 29] (by decide) rfl
    refine kd_iR (va_runV (As := [.int x1]) (rest := []) ⟨hx, hb, hml, hown, hts⟩ (c0_howMany l D cB cI cZ cO h 24 H.size x1 q3.1 q3.2.1 q3.2.2.1 q3.2.2.2.1 q3.2.2.2.2.1 q3.2.2.2.2.2.1 q3.2.2.2.2.2.2.1 q3.2.2.2.2.2.2.2.1 q3.2.2.2.2.2.2.2.2 (f0_howMany q3.2.2.2.2.2.1 q3.2.2.2.2.2.2.1 q3.2.2.2.2.2.2.2.1 q3.2.2.2.2.2.2.2.2 x1) rfl) (cwV 1 hts gX8_orders_X0_howMany rfl rfl rfl (by decide +kernel) ⟨Nat.le_of_ble_eq_true rfl, Nat.le_of_ble_eq_true rfl⟩) ⟨kb_blind, va_recv hK hPc (ci := 0) (q0 := 0) rfl rfl, kb_pre hPc hDc hK hN⟩ rfl rfl hl.1 rfl (lv_room (Nat.le_of_ble_eq_true rfl)) dX8_orders_31 ⟨Nat.le_refl _, Nat.le_refl _⟩) hP hD hS hA [24, 25, 26, 27, 28, 29] rfl (fun H locs hn4 hP hS => ?_)
    obtain ⟨z1, y1⟩ := Prod.mk.inj (Option.some.inj hf)
    obtain ⟨z2, y2⟩ := Prod.mk.inj y1
    obtain ⟨z3, y3⟩ := Prod.mk.inj y2
    obtain ⟨z4, y4⟩ := Prod.mk.inj y3
    obtain ⟨z5, y5⟩ := Prod.mk.inj y4
    obtain ⟨z6, y6⟩ := Prod.mk.inj y5
    obtain ⟨z7, y7⟩ := Prod.mk.inj y6
    obtain ⟨z8, y8⟩ := Prod.mk.inj y7
    obtain ⟨z9, y9⟩ := Prod.mk.inj y8
    obtain ⟨z10, y10⟩ := Prod.mk.inj y9
    obtain ⟨z11, y11⟩ := Prod.mk.inj y10
    obtain ⟨z12, y12⟩ := Prod.mk.inj y11
    subst z1 z2 z3 z4 z5 z6 z7 z8 z9 z10 z11 z12 y12
    exact hend _ _ _ _ rfl hP hS dX8_orders_34
  · rw [if_pos c2] at hf
    refine lv_aload_n hx hb dX8_orders_8 rfl (lv_at hl 0 rfl) ?_
    refine lv_bipush (v := (-2)) hx hb dX8_orders_9 (by decide) ?_
    refine kb_bind hf (fun q5 hq5 hf => ?_)
    have hPc : va_P D vwCl (wdO cB cI cZ cO h v_now v_tried v_past_kept v_past_oldest v_past_size v_all_threads v_all_rows v_all_ended v_all_known v_all_stepsInAll v_all_count v_all_standstills v_all_wrongOnes v_all_unlikeEnds v_meetings_reached v_text_bytes v_text_length v_text_place v_text_thread v_text_kind v_text_target v_text_value v_refusedBad v_refusedNo v_refusedFull) H := hP.sub [0, 1, 2, 3, 4, 5, 6, 7, 8, 9, 10, 11, 12, 13, 14, 15, 16, 17, 18, 19, 20, 21, 22, 23, 24, 25, 26, 27, 28, 29, 30, 31, 32, 33] rfl
    have hDc : va_D A (wdO cB cI cZ cO h v_now v_tried v_past_kept v_past_oldest v_past_size v_all_threads v_all_rows v_all_ended v_all_known v_all_stepsInAll v_all_count v_all_standstills v_all_wrongOnes v_all_unlikeEnds v_meetings_reached v_text_bytes v_text_length v_text_place v_text_thread v_text_kind v_text_target v_text_value v_refusedBad v_refusedNo v_refusedFull) := hD.sub [0, 1, 2, 3, 4, 5, 6, 7, 8, 9, 10, 11, 12, 13, 14, 15, 16, 17, 18, 19, 20, 21, 22, 23, 24, 25, 26, 27, 28, 29, 30, 31, 32, 33] (by decide) rfl
    refine kd_iW (ws' := wdO cB cI cZ cO h v_now v_tried v_past_kept v_past_oldest v_past_size v_all_threads v_all_rows v_all_ended v_all_known v_all_stepsInAll v_all_count v_all_standstills v_all_wrongOnes v_all_unlikeEnds v_meetings_reached v_text_bytes v_text_length v_text_place v_text_thread v_text_kind v_text_target v_text_value q5.2.1 q5.2.2.1 q5.2.2.2) (va_runV (As := [.int (-2 : Int32)]) (rest := []) ⟨hx, hb, hml, hown, hts⟩ (c8_refused l D cB cI cZ cO h H.size (-2 : Int32) v_now v_tried v_past_kept v_past_oldest v_past_size v_all_threads v_all_rows v_all_ended v_all_known v_all_stepsInAll v_all_count v_all_standstills v_all_wrongOnes v_all_unlikeEnds v_meetings_reached v_text_bytes v_text_length v_text_place v_text_thread v_text_kind v_text_target v_text_value v_refusedBad v_refusedNo v_refusedFull q5.1 q5.2.1 q5.2.2.1 q5.2.2.2 hq5) (cwV 1 hts gX8_orders_X8_refused rfl rfl rfl (by decide +kernel) ⟨Nat.le_of_ble_eq_true rfl, Nat.le_of_ble_eq_true rfl⟩) ⟨kb_blind, va_recv hK hPc (ci := 5) (q0 := 0) rfl rfl, kb_pre hPc hDc hK hN⟩ rfl rfl hl.1 rfl (lv_room (Nat.le_of_ble_eq_true rfl)) dX8_orders_11 ⟨Nat.le_refl _, Nat.le_refl _⟩) hP hD hS hA [0, 1, 2, 3, 4, 5, 6, 7, 8, 9, 10, 11, 12, 13, 14, 15, 16, 17, 18, 19, 20, 21, 22, 23, 24, 25, 26, 27, 28, 29, 30, 31, 32, 33] [] rfl rfl (fun _ h9 => absurd h9 List.not_mem_nil) rfl rfl (fun H locs hn6 hP hD hS => ?_)
    obtain ⟨z1, y1⟩ := Prod.mk.inj (Option.some.inj hf)
    obtain ⟨z2, y2⟩ := Prod.mk.inj y1
    obtain ⟨z3, y3⟩ := Prod.mk.inj y2
    obtain ⟨z4, y4⟩ := Prod.mk.inj y3
    obtain ⟨z5, y5⟩ := Prod.mk.inj y4
    obtain ⟨z6, y6⟩ := Prod.mk.inj y5
    obtain ⟨z7, y7⟩ := Prod.mk.inj y6
    obtain ⟨z8, y8⟩ := Prod.mk.inj y7
    obtain ⟨z9, y9⟩ := Prod.mk.inj y8
    obtain ⟨z10, y10⟩ := Prod.mk.inj y9
    obtain ⟨z11, y11⟩ := Prod.mk.inj y10
    obtain ⟨z12, y12⟩ := Prod.mk.inj y11
    subst z1 z2 z3 z4 z5 z6 z7 z8 z9 z10 z11 z12 y12
    exact hend _ _ _ _ rfl hP hS dX8_orders_14

set_option maxHeartbeats 4000000 in
set_option maxRecDepth 100000 in
theorem c8_order (l : Launch) (D : va_G) (cB cI cZ cO : ClassId) (h : Nat → Nat) (sz : Nat) (x1 : Int32) (x2 : Int32) (v_now : sT) (v_tried : sT) (v_past_kept : Nat → sT) (v_past_oldest : Int32) (v_past_size : Int32) (v_all_threads : sT) (v_all_rows : Nat → Int32) (v_all_ended : Nat → Int32) (v_all_known : Int32) (v_all_stepsInAll : Int32) (v_all_count : Int32) (v_all_standstills : Int32) (v_all_wrongOnes : Int32) (v_all_unlikeEnds : Int32) (v_meetings_reached : Nat → Int32) (v_text_bytes : Nat → Int32) (v_text_length : Int32) (v_text_place : Int32) (v_text_thread : Int32) (v_text_kind : Int32) (v_text_target : Int32) (v_text_value : Int32) (v_refusedBad : Int32) (v_refusedNo : Int32) (v_refusedFull : Int32) (r0 : Int32) (v_all_threads' : sT) (v_all_rows' : Nat → Int32) (v_all_ended' : Nat → Int32) (v_all_known' : Int32) (v_all_stepsInAll' : Int32) (v_all_count' : Int32) (v_all_standstills' : Int32) (v_all_wrongOnes' : Int32) (v_all_unlikeEnds' : Int32) (v_refusedBad' : Int32) (v_refusedNo' : Int32) (v_refusedFull' : Int32) (hf : f8_order v_now v_all_threads v_all_rows v_all_ended v_all_known v_all_stepsInAll v_all_count v_all_standstills v_all_wrongOnes v_all_unlikeEnds v_refusedBad v_refusedNo v_refusedFull x1 x2 = some (r0, v_all_threads', v_all_rows', v_all_ended', v_all_known', v_all_stepsInAll', v_all_count', v_all_standstills', v_all_wrongOnes', v_all_unlikeEnds', v_refusedBad', v_refusedNo', v_refusedFull')) : Met l yX8_order wsX8_order rm8_order (va_Pc [.ref (h 0), .int x1, .int x2] (kb_B D (ka_tys cB cI cZ cO) sz (wdO cB cI cZ cO h v_now v_tried v_past_kept v_past_oldest v_past_size v_all_threads v_all_rows v_all_ended v_all_known v_all_stepsInAll v_all_count v_all_standstills v_all_wrongOnes v_all_unlikeEnds v_meetings_reached v_text_bytes v_text_length v_text_place v_text_thread v_text_kind v_text_target v_text_value v_refusedBad v_refusedNo v_refusedFull))) (va_Qi (kb_post .int r0) (fun _ t => va_P D vwCl (wdO cB cI cZ cO h v_now v_tried v_past_kept v_past_oldest v_past_size (v_all_threads') (v_all_rows') (v_all_ended') (v_all_known') (v_all_stepsInAll') (v_all_count') (v_all_standstills') (v_all_wrongOnes') (v_all_unlikeEnds') v_meetings_reached v_text_bytes v_text_length v_text_place v_text_thread v_text_kind v_text_target v_text_value (v_refusedBad') (v_refusedNo') (v_refusedFull')) t.heap) (va_A (wdO cB cI cZ cO h v_now v_tried v_past_kept v_past_oldest v_past_size v_all_threads v_all_rows v_all_ended v_all_known v_all_stepsInAll v_all_count v_all_standstills v_all_wrongOnes v_all_unlikeEnds v_meetings_reached v_text_bytes v_text_length v_text_place v_text_thread v_text_kind v_text_target v_text_value v_refusedBad v_refusedNo v_refusedFull) sz)) 0 0 (va_A (wdO cB cI cZ cO h v_now v_tried v_past_kept v_past_oldest v_past_size v_all_threads v_all_rows v_all_ended v_all_known v_all_stepsInAll v_all_count v_all_standstills v_all_wrongOnes v_all_unlikeEnds v_meetings_reached v_text_bytes v_text_length v_text_place v_text_thread v_text_kind v_text_target v_text_value v_refusedBad v_refusedNo v_refusedFull) sz) := by
  refine kb_metZ (cc := cX8_order) (maxL := 4) (ty := .int) (by decide) rfl (Nat.le_of_ble_eq_true rfl) ?_
  intro p e s m args below meth c Q A ls H hx hb hml hown hts hK hN hP hD hS hA hl hend
  have hown : s.vm.findClass RX8 = some m.cls := hown
  have hl : lv_has ls 4 [(0, .ref (h 0)), (1, .int x1), (2, .int x2)] := hl
  have hin8 : ∀ w ∈ u_ws RX8 TX8 9, w ∈ wsX8_order := by decide +kernel
  have J9 : ∀ (v_all_threads : sT) (v_all_rows : Nat → Int32) (v_all_ended : Nat → Int32) (v_all_known : Int32) (v_all_stepsInAll : Int32) (v_all_count : Int32) (v_all_standstills : Int32) (v_all_wrongOnes : Int32) (v_all_unlikeEnds : Int32) (v_refusedBad : Int32) (v_refusedNo : Int32) (v_refusedFull : Int32) (H : Heap) (locs : List Loc) (ls : Array Slot), f8_order_b9 v_now v_all_threads v_all_rows v_all_ended v_all_known v_all_stepsInAll v_all_count v_all_standstills v_all_wrongOnes v_all_unlikeEnds v_refusedBad v_refusedNo v_refusedFull = some (r0, v_all_threads', v_all_rows', v_all_ended', v_all_known', v_all_stepsInAll', v_all_count', v_all_standstills', v_all_wrongOnes', v_all_unlikeEnds', v_refusedBad', v_refusedNo', v_refusedFull') → va_P D vwCl (wdO cB cI cZ cO h v_now v_tried v_past_kept v_past_oldest v_past_size v_all_threads v_all_rows v_all_ended v_all_known v_all_stepsInAll v_all_count v_all_standstills v_all_wrongOnes v_all_unlikeEnds v_meetings_reached v_text_bytes v_text_length v_text_place v_text_thread v_text_kind v_text_target v_text_value v_refusedBad v_refusedNo v_refusedFull) H → va_D A (wdO cB cI cZ cO h v_now v_tried v_past_kept v_past_oldest v_past_size v_all_threads v_all_rows v_all_ended v_all_known v_all_stepsInAll v_all_count v_all_standstills v_all_wrongOnes v_all_unlikeEnds v_meetings_reached v_text_bytes v_text_length v_text_place v_text_thread v_text_kind v_text_target v_text_value v_refusedBad v_refusedNo v_refusedFull) → va_S A s.heap H locs → lv_has ls 4 [(0, .ref (h 0))] → W p l e rm8_order s m args below meth c H locs 0 0 Q (F0 m 9 ls []) := by
    intro v_all_threads v_all_rows v_all_ended v_all_known v_all_stepsInAll v_all_count v_all_standstills v_all_wrongOnes v_all_unlikeEnds v_refusedBad v_refusedNo v_refusedFull H locs ls hf hP hD hS hl
    rw [f8_order_b9] at hf
    refine lv_aload_n hx hb dX8_order_9 rfl (lv_at hl 0 rfl) ?_
    refine lv_bipush (v := (-2)) hx hb dX8_order_10 (by decide) ?_
    refine kb_bind hf (fun q3 hq3 hf => ?_)
    have hPc : va_P D vwCl (wdO cB cI cZ cO h v_now v_tried v_past_kept v_past_oldest v_past_size v_all_threads v_all_rows v_all_ended v_all_known v_all_stepsInAll v_all_count v_all_standstills v_all_wrongOnes v_all_unlikeEnds v_meetings_reached v_text_bytes v_text_length v_text_place v_text_thread v_text_kind v_text_target v_text_value v_refusedBad v_refusedNo v_refusedFull) H := hP.sub [0, 1, 2, 3, 4, 5, 6, 7, 8, 9, 10, 11, 12, 13, 14, 15, 16, 17, 18, 19, 20, 21, 22, 23, 24, 25, 26, 27, 28, 29, 30, 31, 32, 33] rfl
    have hDc : va_D A (wdO cB cI cZ cO h v_now v_tried v_past_kept v_past_oldest v_past_size v_all_threads v_all_rows v_all_ended v_all_known v_all_stepsInAll v_all_count v_all_standstills v_all_wrongOnes v_all_unlikeEnds v_meetings_reached v_text_bytes v_text_length v_text_place v_text_thread v_text_kind v_text_target v_text_value v_refusedBad v_refusedNo v_refusedFull) := hD.sub [0, 1, 2, 3, 4, 5, 6, 7, 8, 9, 10, 11, 12, 13, 14, 15, 16, 17, 18, 19, 20, 21, 22, 23, 24, 25, 26, 27, 28, 29, 30, 31, 32, 33] (by decide) rfl
    refine kd_iW (ws' := wdO cB cI cZ cO h v_now v_tried v_past_kept v_past_oldest v_past_size v_all_threads v_all_rows v_all_ended v_all_known v_all_stepsInAll v_all_count v_all_standstills v_all_wrongOnes v_all_unlikeEnds v_meetings_reached v_text_bytes v_text_length v_text_place v_text_thread v_text_kind v_text_target v_text_value q3.2.1 q3.2.2.1 q3.2.2.2) (va_runV (As := [.int (-2 : Int32)]) (rest := []) ⟨hx, hb, hml, hown, hts⟩ (c8_refused l D cB cI cZ cO h H.size (-2 : Int32) v_now v_tried v_past_kept v_past_oldest v_past_size v_all_threads v_all_rows v_all_ended v_all_known v_all_stepsInAll v_all_count v_all_standstills v_all_wrongOnes v_all_unlikeEnds v_meetings_reached v_text_bytes v_text_length v_text_place v_text_thread v_text_kind v_text_target v_text_value v_refusedBad v_refusedNo v_refusedFull q3.1 q3.2.1 q3.2.2.1 q3.2.2.2 hq3) (cwV 1 hts gX8_order_X8_refused rfl rfl rfl (by decide +kernel) ⟨Nat.le_of_ble_eq_true rfl, Nat.le_of_ble_eq_true rfl⟩) ⟨kb_blind, va_recv hK hPc (ci := 5) (q0 := 0) rfl rfl, kb_pre hPc hDc hK hN⟩ rfl rfl hl.1 rfl (lv_room (Nat.le_of_ble_eq_true rfl)) dX8_order_12 ⟨Nat.le_refl _, Nat.le_refl _⟩) hP hD hS hA [0, 1, 2, 3, 4, 5, 6, 7, 8, 9, 10, 11, 12, 13, 14, 15, 16, 17, 18, 19, 20, 21, 22, 23, 24, 25, 26, 27, 28, 29, 30, 31, 32, 33] [] rfl rfl (fun _ h9 => absurd h9 List.not_mem_nil) rfl rfl (fun H locs hn4 hP hD hS => ?_)
    obtain ⟨z1, y1⟩ := Prod.mk.inj (Option.some.inj hf)
    obtain ⟨z2, y2⟩ := Prod.mk.inj y1
    obtain ⟨z3, y3⟩ := Prod.mk.inj y2
    obtain ⟨z4, y4⟩ := Prod.mk.inj y3
    obtain ⟨z5, y5⟩ := Prod.mk.inj y4
    obtain ⟨z6, y6⟩ := Prod.mk.inj y5
    obtain ⟨z7, y7⟩ := Prod.mk.inj y6
    obtain ⟨z8, y8⟩ := Prod.mk.inj y7
    obtain ⟨z9, y9⟩ := Prod.mk.inj y8
    obtain ⟨z10, y10⟩ := Prod.mk.inj y9
    obtain ⟨z11, y11⟩ := Prod.mk.inj y10
    obtain ⟨z12, y12⟩ := Prod.mk.inj y11
    subst z1 z2 z3 z4 z5 z6 z7 z8 z9 z10 z11 z12 y12
    exact hend _ _ _ _ rfl hP hS dX8_order_15
  rw [f8_order] at hf
  refine lv_iload_n hx hb dX8_order_0 rfl (lv_at hl 1 rfl) ?_
  refine lv_if_lt (tgt := 9) hx hb dX8_order_1 (by decide) (fun c5 => ?_) (fun c5 => ?_)
  · rw [if_pos c5] at hf
    exact J9 v_all_threads v_all_rows v_all_ended v_all_known v_all_stepsInAll v_all_count v_all_standstills v_all_wrongOnes v_all_unlikeEnds v_refusedBad v_refusedNo v_refusedFull _ _ _ hf hP hD hS (lv_sub hl [0] rfl)
  · rw [if_neg c5] at hf
    refine lv_iload_n hx hb dX8_order_4 rfl (lv_at hl 2 rfl) ?_
    refine lv_iconst (v := (-1)) hx hb dX8_order_5 (by decide) ?_
    refine lv_icmp_ge (tgt := 16) hx hb dX8_order_6 (by decide) (fun c6 => ?_) (fun c6 => ?_)
    · rw [if_pos c6] at hf
      refine lv_aload_n hx hb dX8_order_16 rfl (lv_at hl 0 rfl) ?_
      refine va_get (D := D) (cl := vwCl) (ci := 5) (v := .ref (h 24)) (C := RX8) (T := TX8) (N := 9) hx hb hts hin8 hown hK hP 0 rfl rfl 3 (by decide) (hts (.fieldLink RX8 29 "StepOrders" "all" "LStepOrders$AllOrders;") (by decide +kernel)) (fun _ h9 => h9) rfl dX8_order_17 ?_
      refine lv_aload_n hx hb dX8_order_20 rfl (lv_at hl 0 rfl) ?_
      refine va_get (D := D) (cl := vwCl) (ci := 5) (v := .ref (h 1)) (C := RX8) (T := TX8) (N := 9) hx hb hts hin8 hown hK hP 0 rfl rfl 0 (by decide) (hts (.fieldLink RX8 12 "StepOrders" "now" "LStepOrders$State;") (by decide +kernel)) (fun _ h9 => h9) rfl dX8_order_21 ?_
      refine kb_bind hf (fun q7 hq7 hf => ?_)
      have hPc : va_P D vwCl (wdA cI cZ h 24 v_all_threads v_all_rows v_all_ended v_all_known v_all_stepsInAll v_all_count v_all_standstills v_all_wrongOnes v_all_unlikeEnds ++ wdS cI h 1 v_now) H := hP.sub [24, 25, 26, 27, 28, 29, 1, 2, 3] rfl
      have hDc : va_D A (wdA cI cZ h 24 v_all_threads v_all_rows v_all_ended v_all_known v_all_stepsInAll v_all_count v_all_standstills v_all_wrongOnes v_all_unlikeEnds ++ wdS cI h 1 v_now) := hD.sub [24, 25, 26, 27, 28, 29, 1, 2, 3] (by decide) rfl
      refine kd_vW (ws' := wdO cB cI cZ cO h v_now v_tried v_past_kept v_past_oldest v_past_size q7.1 q7.2.1 q7.2.2.1 q7.2.2.2.1 q7.2.2.2.2.1 q7.2.2.2.2.2.1 q7.2.2.2.2.2.2.1 q7.2.2.2.2.2.2.2.1 q7.2.2.2.2.2.2.2.2 v_meetings_reached v_text_bytes v_text_length v_text_place v_text_thread v_text_kind v_text_target v_text_value v_refusedBad v_refusedNo v_refusedFull) (va_runV (As := [.ref (h 1)]) (rest := []) ⟨hx, hb, hml, hown, hts⟩ (c0_goThrough l D cB cI cZ cO h 24 1 H.size v_all_threads v_all_rows v_all_ended v_all_known v_all_stepsInAll v_all_count v_all_standstills v_all_wrongOnes v_all_unlikeEnds v_now q7.1 q7.2.1 q7.2.2.1 q7.2.2.2.1 q7.2.2.2.2.1 q7.2.2.2.2.2.1 q7.2.2.2.2.2.2.1 q7.2.2.2.2.2.2.2.1 q7.2.2.2.2.2.2.2.2 hq7) (cwV 1 hts gX8_order_X0_goThrough rfl rfl rfl (by decide +kernel) ⟨Nat.le_of_ble_eq_true rfl, Nat.le_of_ble_eq_true rfl⟩) ⟨kb_blind, va_recv hK hPc (ci := 0) (q0 := 0) rfl rfl, kb_pre hPc hDc hK hN⟩ rfl rfl hl.1 rfl (lv_room (Nat.le_of_ble_eq_true rfl)) dX8_order_24 ⟨Nat.le_refl _, Nat.le_refl _⟩) hP hD hS hA [24, 25, 26, 27, 28, 29, 1, 2, 3] [0, 4, 5, 6, 7, 8, 9, 10, 11, 12, 13, 14, 15, 16, 17, 18, 19, 20, 21, 22, 23, 30, 31, 32, 33] rfl rfl (List.forall_mem_cons.mpr ⟨rfl, (List.forall_mem_cons.mpr ⟨rfl, (List.forall_mem_cons.mpr ⟨rfl, (List.forall_mem_cons.mpr ⟨rfl, (List.forall_mem_cons.mpr ⟨rfl, (List.forall_mem_cons.mpr ⟨rfl, (List.forall_mem_cons.mpr ⟨rfl, (List.forall_mem_cons.mpr ⟨rfl, (List.forall_mem_cons.mpr ⟨rfl, (List.forall_mem_cons.mpr ⟨rfl, (List.forall_mem_cons.mpr ⟨rfl, (List.forall_mem_cons.mpr ⟨rfl, (List.forall_mem_cons.mpr ⟨rfl, (List.forall_mem_cons.mpr ⟨rfl, (List.forall_mem_cons.mpr ⟨rfl, (List.forall_mem_cons.mpr ⟨rfl, (List.forall_mem_cons.mpr ⟨rfl, (List.forall_mem_cons.mpr ⟨rfl, (List.forall_mem_cons.mpr ⟨rfl, (List.forall_mem_cons.mpr ⟨rfl, (List.forall_mem_cons.mpr ⟨rfl, (List.forall_mem_cons.mpr ⟨rfl, (List.forall_mem_cons.mpr ⟨rfl, (List.forall_mem_cons.mpr ⟨rfl, (List.forall_mem_cons.mpr ⟨rfl, (fun _ h9 => absurd h9 List.not_mem_nil)⟩)⟩)⟩)⟩)⟩)⟩)⟩)⟩)⟩)⟩)⟩)⟩)⟩)⟩)⟩)⟩)⟩)⟩)⟩)⟩)⟩)⟩)⟩)⟩)⟩) rfl rfl (fun H locs hP hD hS => ?_)
      refine lv_iload_n hx hb dX8_order_27 rfl (lv_at hl 1 rfl) ?_
      refine lv_aload_n hx hb dX8_order_28 rfl (lv_at hl 0 rfl) ?_
      refine va_get (D := D) (cl := vwCl) (ci := 5) (v := .ref (h 24)) (C := RX8) (T := TX8) (N := 9) hx hb hts hin8 hown hK hP 0 rfl rfl 3 (by decide) (hts (.fieldLink RX8 29 "StepOrders" "all" "LStepOrders$AllOrders;") (by decide +kernel)) (fun _ h9 => h9) rfl dX8_order_29 ?_
      have hPc : va_P D vwCl (wdA cI cZ h 24 q7.1 q7.2.1 q7.2.2.1 q7.2.2.2.1 q7.2.2.2.2.1 q7.2.2.2.2.2.1 q7.2.2.2.2.2.2.1 q7.2.2.2.2.2.2.2.1 q7.2.2.2.2.2.2.2.2) H := hP.sub [24, 25, 26, 27, 28, 29] rfl
      have hDc : va_D A (wdA cI cZ h 24 q7.1 q7.2.1 q7.2.2.1 q7.2.2.2.1 q7.2.2.2.2.1 q7.2.2.2.2.2.1 q7.2.2.2.2.2.2.1 q7.2.2.2.2.2.2.2.1 q7.2.2.2.2.2.2.2.2) := hD.sub [24, 25, 26, 27, 28, 29] (by decide) rfl
      refine kd_iR (va_runV (As := []) (rest := [.int x1]) ⟨hx, hb, hml, hown, hts⟩ (c0_count l D cB cI cZ cO h 24 H.size q7.1 q7.2.1 q7.2.2.1 q7.2.2.2.1 q7.2.2.2.2.1 q7.2.2.2.2.2.1 q7.2.2.2.2.2.2.1 q7.2.2.2.2.2.2.2.1 q7.2.2.2.2.2.2.2.2 (f0_count q7.2.2.2.2.2.1) rfl) (cwV 0 hts gX8_order_X0_count rfl rfl rfl (by decide +kernel) ⟨Nat.le_of_ble_eq_true rfl, Nat.le_of_ble_eq_true rfl⟩) ⟨kb_blind, va_recv hK hPc (ci := 0) (q0 := 0) rfl rfl, kb_pre hPc hDc hK hN⟩ rfl rfl hl.1 rfl (lv_room (Nat.le_of_ble_eq_true rfl)) dX8_order_32 ⟨Nat.le_refl _, Nat.le_refl _⟩) hP hD hS hA [24, 25, 26, 27, 28, 29] rfl (fun H locs hn8 hP hS => ?_)
      refine lv_icmp_lt (tgt := 45) hx hb dX8_order_35 (by decide) (fun c9 => ?_) (fun c9 => ?_)
      · rw [if_pos c9] at hf
        refine lv_aload_n hx hb dX8_order_45 rfl (lv_at hl 0 rfl) ?_
        refine va_get (D := D) (cl := vwCl) (ci := 5) (v := .ref (h 24)) (C := RX8) (T := TX8) (N := 9) hx hb hts hin8 hown hK hP 0 rfl rfl 3 (by decide) (hts (.fieldLink RX8 29 "StepOrders" "all" "LStepOrders$AllOrders;") (by decide +kernel)) (fun _ h9 => h9) rfl dX8_order_46 ?_
        refine lv_iload_n hx hb dX8_order_49 rfl (lv_at hl 1 rfl) ?_
        refine kb_bind hf (fun q10 hq10 hf => ?_)
        have hPc : va_P D vwCl (wdA cI cZ h 24 q7.1 q7.2.1 q7.2.2.1 q7.2.2.2.1 q7.2.2.2.2.1 q7.2.2.2.2.2.1 q7.2.2.2.2.2.2.1 q7.2.2.2.2.2.2.2.1 q7.2.2.2.2.2.2.2.2) H := hP.sub [24, 25, 26, 27, 28, 29] rfl
        have hDc : va_D A (wdA cI cZ h 24 q7.1 q7.2.1 q7.2.2.1 q7.2.2.2.1 q7.2.2.2.2.1 q7.2.2.2.2.2.1 q7.2.2.2.2.2.2.1 q7.2.2.2.2.2.2.2.1 q7.2.2.2.2.2.2.2.2) := hD.sub [24, 25, 26, 27, 28, 29] (by decide) rfl
        refine kd_iR (va_runV (As := [.int x1]) (rest := []) ⟨hx, hb, hml, hown, hts⟩ (c0_rowAt l D cB cI cZ cO h 24 H.size x1 q7.1 q7.2.1 q7.2.2.1 q7.2.2.2.1 q7.2.2.2.2.1 q7.2.2.2.2.2.1 q7.2.2.2.2.2.2.1 q7.2.2.2.2.2.2.2.1 q7.2.2.2.2.2.2.2.2 q10 hq10) (cwV 1 hts gX8_order_X0_rowAt rfl rfl rfl (by decide +kernel) ⟨Nat.le_of_ble_eq_true rfl, Nat.le_of_ble_eq_true rfl⟩) ⟨kb_blind, va_recv hK hPc (ci := 0) (q0 := 0) rfl rfl, kb_pre hPc hDc hK hN⟩ rfl rfl hl.1 rfl (lv_room (Nat.le_of_ble_eq_true rfl)) dX8_order_50 ⟨Nat.le_refl _, Nat.le_refl _⟩) hP hD hS hA [24, 25, 26, 27, 28, 29] rfl (fun H locs hn11 hP hS => ?_)
        refine lv_istore_n (lv' := [(3, .int q10), (0, .ref (h 0)), (1, .int x1), (2, .int x2)]) hx hb dX8_order_53 rfl hl (by decide) rfl (fun ls hl => ?_)
        refine lv_iload_n hx hb dX8_order_54 rfl (lv_at hl 3 rfl) ?_
        refine lv_iconst (v := (-1)) hx hb dX8_order_55 (by decide) ?_
        refine lv_icmp_ne (tgt := 64) hx hb dX8_order_56 (by decide) (fun c12 => ?_) (fun c12 => ?_)
        · rw [if_neg c12] at hf
          refine lv_iload_n hx hb dX8_order_64 rfl (lv_at hl 3 rfl) ?_
          refine lv_iload_n hx hb dX8_order_65 rfl (lv_at hl 0 rfl) ?_
          have hPc : va_P D vwCl ([]) H := hP.sub [] rfl
          have hDc : va_D A ([]) := hD.sub [] (by decide) rfl
          refine kd_iR (va_runS (As := [.int q10]) (rest := [.int x2]) ⟨hx, hb, hml, hown, hts⟩ (c4_length l D cB cI cZ cO h H.size q10 (f4_length q10) rfl) (va_cwS 1 hts gX8_order_X4_length rfl rfl rfl (by decide +kernel) ⟨Nat.le_of_ble_eq_true rfl, Nat.le_of_ble_eq_true rfl⟩) ⟨kb_blind, kb_pre hPc hDc hK hN⟩ rfl rfl hl.1 rfl (lv_room (Nat.le_of_ble_eq_true rfl)) dX8_order_66 ⟨Nat.le_refl _, Nat.le_refl _⟩) hP hD hS hA [] rfl (fun H locs hn13 hP hS => ?_)
          refine lv_icmp_ge (tgt := 80) hx hb dX8_order_69 (by decide) (fun c14 => ?_) (fun c14 => ?_)
          · rw [if_pos c14] at hf
            refine lv_bipush (v := (-5)) hx hb dX8_order_80 (by decide) ?_
            obtain ⟨z1, y1⟩ := Prod.mk.inj (Option.some.inj hf)
            obtain ⟨z2, y2⟩ := Prod.mk.inj y1
            obtain ⟨z3, y3⟩ := Prod.mk.inj y2
            obtain ⟨z4, y4⟩ := Prod.mk.inj y3
            obtain ⟨z5, y5⟩ := Prod.mk.inj y4
            obtain ⟨z6, y6⟩ := Prod.mk.inj y5
            obtain ⟨z7, y7⟩ := Prod.mk.inj y6
            obtain ⟨z8, y8⟩ := Prod.mk.inj y7
            obtain ⟨z9, y9⟩ := Prod.mk.inj y8
            obtain ⟨z10, y10⟩ := Prod.mk.inj y9
            obtain ⟨z11, y11⟩ := Prod.mk.inj y10
            obtain ⟨z12, y12⟩ := Prod.mk.inj y11
            subst z1 z2 z3 z4 z5 z6 z7 z8 z9 z10 z11 z12 y12
            exact hend _ _ _ _ rfl hP hS dX8_order_82
          · rw [if_neg c14] at hf
            refine lv_iload_n hx hb dX8_order_72 rfl (lv_at hl 0 rfl) ?_
            refine lv_iload_n hx hb dX8_order_73 rfl (lv_at hl 3 rfl) ?_
            have hPc : va_P D vwCl ([]) H := hP.sub [] rfl
            have hDc : va_D A ([]) := hD.sub [] (by decide) rfl
            refine kd_iR (va_runS (As := [.int q10, .int x2]) (rest := []) ⟨hx, hb, hml, hown, hts⟩ (c4_threadAt l D cB cI cZ cO h H.size q10 x2 (f4_threadAt q10 x2) rfl) (va_cwS 2 hts gX8_order_X4_threadAt rfl rfl rfl (by decide +kernel) ⟨Nat.le_of_ble_eq_true rfl, Nat.le_of_ble_eq_true rfl⟩) ⟨kb_blind, kb_pre hPc hDc hK hN⟩ rfl rfl hl.1 rfl (lv_room (Nat.le_of_ble_eq_true rfl)) dX8_order_74 ⟨Nat.le_refl _, Nat.le_refl _⟩) hP hD hS hA [] rfl (fun H locs hn15 hP hS => ?_)
            refine lv_goto (tgt := 82) hx hb dX8_order_77 (by decide) ?_
            obtain ⟨z1, y1⟩ := Prod.mk.inj (Option.some.inj hf)
            obtain ⟨z2, y2⟩ := Prod.mk.inj y1
            obtain ⟨z3, y3⟩ := Prod.mk.inj y2
            obtain ⟨z4, y4⟩ := Prod.mk.inj y3
            obtain ⟨z5, y5⟩ := Prod.mk.inj y4
            obtain ⟨z6, y6⟩ := Prod.mk.inj y5
            obtain ⟨z7, y7⟩ := Prod.mk.inj y6
            obtain ⟨z8, y8⟩ := Prod.mk.inj y7
            obtain ⟨z9, y9⟩ := Prod.mk.inj y8
            obtain ⟨z10, y10⟩ := Prod.mk.inj y9
            obtain ⟨z11, y11⟩ := Prod.mk.inj y10
            obtain ⟨z12, y12⟩ := Prod.mk.inj y11
            subst z1 z2 z3 z4 z5 z6 z7 z8 z9 z10 z11 z12 y12
            exact hend _ _ _ _ rfl hP hS dX8_order_82
        · rw [if_pos c12] at hf
          refine lv_iload_n hx hb dX8_order_59 rfl (lv_at hl 0 rfl) ?_
          have hPc : va_P D vwCl ([]) H := hP.sub [] rfl
          have hDc : va_D A ([]) := hD.sub [] (by decide) rfl
          refine kd_iR (va_runS (As := [.int q10]) (rest := []) ⟨hx, hb, hml, hown, hts⟩ (c4_length l D cB cI cZ cO h H.size q10 (f4_length q10) rfl) (va_cwS 1 hts gX8_order_X4_length rfl rfl rfl (by decide +kernel) ⟨Nat.le_of_ble_eq_true rfl, Nat.le_of_ble_eq_true rfl⟩) ⟨kb_blind, kb_pre hPc hDc hK hN⟩ rfl rfl hl.1 rfl (lv_room (Nat.le_of_ble_eq_true rfl)) dX8_order_60 ⟨Nat.le_refl _, Nat.le_refl _⟩) hP hD hS hA [] rfl (fun H locs hn16 hP hS => ?_)
          obtain ⟨z1, y1⟩ := Prod.mk.inj (Option.some.inj hf)
          obtain ⟨z2, y2⟩ := Prod.mk.inj y1
          obtain ⟨z3, y3⟩ := Prod.mk.inj y2
          obtain ⟨z4, y4⟩ := Prod.mk.inj y3
          obtain ⟨z5, y5⟩ := Prod.mk.inj y4
          obtain ⟨z6, y6⟩ := Prod.mk.inj y5
          obtain ⟨z7, y7⟩ := Prod.mk.inj y6
          obtain ⟨z8, y8⟩ := Prod.mk.inj y7
          obtain ⟨z9, y9⟩ := Prod.mk.inj y8
          obtain ⟨z10, y10⟩ := Prod.mk.inj y9
          obtain ⟨z11, y11⟩ := Prod.mk.inj y10
          obtain ⟨z12, y12⟩ := Prod.mk.inj y11
          subst z1 z2 z3 z4 z5 z6 z7 z8 z9 z10 z11 z12 y12
          exact hend _ _ _ _ rfl hP hS dX8_order_63
      · rw [if_neg c9] at hf
        refine lv_aload_n hx hb dX8_order_38 rfl (lv_at hl 0 rfl) ?_
        refine lv_bipush (v := (-3)) hx hb dX8_order_39 (by decide) ?_
        refine kb_bind hf (fun q17 hq17 hf => ?_)
        have hPc : va_P D vwCl (wdO cB cI cZ cO h v_now v_tried v_past_kept v_past_oldest v_past_size q7.1 q7.2.1 q7.2.2.1 q7.2.2.2.1 q7.2.2.2.2.1 q7.2.2.2.2.2.1 q7.2.2.2.2.2.2.1 q7.2.2.2.2.2.2.2.1 q7.2.2.2.2.2.2.2.2 v_meetings_reached v_text_bytes v_text_length v_text_place v_text_thread v_text_kind v_text_target v_text_value v_refusedBad v_refusedNo v_refusedFull) H := hP.sub [0, 1, 2, 3, 4, 5, 6, 7, 8, 9, 10, 11, 12, 13, 14, 15, 16, 17, 18, 19, 20, 21, 22, 23, 24, 25, 26, 27, 28, 29, 30, 31, 32, 33] rfl
        have hDc : va_D A (wdO cB cI cZ cO h v_now v_tried v_past_kept v_past_oldest v_past_size q7.1 q7.2.1 q7.2.2.1 q7.2.2.2.1 q7.2.2.2.2.1 q7.2.2.2.2.2.1 q7.2.2.2.2.2.2.1 q7.2.2.2.2.2.2.2.1 q7.2.2.2.2.2.2.2.2 v_meetings_reached v_text_bytes v_text_length v_text_place v_text_thread v_text_kind v_text_target v_text_value v_refusedBad v_refusedNo v_refusedFull) := hD.sub [0, 1, 2, 3, 4, 5, 6, 7, 8, 9, 10, 11, 12, 13, 14, 15, 16, 17, 18, 19, 20, 21, 22, 23, 24, 25, 26, 27, 28, 29, 30, 31, 32, 33] (by decide) rfl
        refine kd_iW (ws' := wdO cB cI cZ cO h v_now v_tried v_past_kept v_past_oldest v_past_size q7.1 q7.2.1 q7.2.2.1 q7.2.2.2.1 q7.2.2.2.2.1 q7.2.2.2.2.2.1 q7.2.2.2.2.2.2.1 q7.2.2.2.2.2.2.2.1 q7.2.2.2.2.2.2.2.2 v_meetings_reached v_text_bytes v_text_length v_text_place v_text_thread v_text_kind v_text_target v_text_value q17.2.1 q17.2.2.1 q17.2.2.2) (va_runV (As := [.int (-3 : Int32)]) (rest := []) ⟨hx, hb, hml, hown, hts⟩ (c8_refused l D cB cI cZ cO h H.size (-3 : Int32) v_now v_tried v_past_kept v_past_oldest v_past_size q7.1 q7.2.1 q7.2.2.1 q7.2.2.2.1 q7.2.2.2.2.1 q7.2.2.2.2.2.1 q7.2.2.2.2.2.2.1 q7.2.2.2.2.2.2.2.1 q7.2.2.2.2.2.2.2.2 v_meetings_reached v_text_bytes v_text_length v_text_place v_text_thread v_text_kind v_text_target v_text_value v_refusedBad v_refusedNo v_refusedFull q17.1 q17.2.1 q17.2.2.1 q17.2.2.2 hq17) (cwV 1 hts gX8_order_X8_refused rfl rfl rfl (by decide +kernel) ⟨Nat.le_of_ble_eq_true rfl, Nat.le_of_ble_eq_true rfl⟩) ⟨kb_blind, va_recv hK hPc (ci := 5) (q0 := 0) rfl rfl, kb_pre hPc hDc hK hN⟩ rfl rfl hl.1 rfl (lv_room (Nat.le_of_ble_eq_true rfl)) dX8_order_41 ⟨Nat.le_refl _, Nat.le_refl _⟩) hP hD hS hA [0, 1, 2, 3, 4, 5, 6, 7, 8, 9, 10, 11, 12, 13, 14, 15, 16, 17, 18, 19, 20, 21, 22, 23, 24, 25, 26, 27, 28, 29, 30, 31, 32, 33] [] rfl rfl (fun _ h9 => absurd h9 List.not_mem_nil) rfl rfl (fun H locs hn18 hP hD hS => ?_)
        obtain ⟨z1, y1⟩ := Prod.mk.inj (Option.some.inj hf)
        obtain ⟨z2, y2⟩ := Prod.mk.inj y1
        obtain ⟨z3, y3⟩ := Prod.mk.inj y2
        obtain ⟨z4, y4⟩ := Prod.mk.inj y3
        obtain ⟨z5, y5⟩ := Prod.mk.inj y4
        obtain ⟨z6, y6⟩ := Prod.mk.inj y5
        obtain ⟨z7, y7⟩ := Prod.mk.inj y6
        obtain ⟨z8, y8⟩ := Prod.mk.inj y7
        obtain ⟨z9, y9⟩ := Prod.mk.inj y8
        obtain ⟨z10, y10⟩ := Prod.mk.inj y9
        obtain ⟨z11, y11⟩ := Prod.mk.inj y10
        obtain ⟨z12, y12⟩ := Prod.mk.inj y11
        subst z1 z2 z3 z4 z5 z6 z7 z8 z9 z10 z11 z12 y12
        exact hend _ _ _ _ rfl hP hS dX8_order_44
    · rw [if_neg c6] at hf
      exact J9 v_all_threads v_all_rows v_all_ended v_all_known v_all_stepsInAll v_all_count v_all_standstills v_all_wrongOnes v_all_unlikeEnds v_refusedBad v_refusedNo v_refusedFull _ _ _ hf hP hD hS (lv_sub hl [0] rfl)
