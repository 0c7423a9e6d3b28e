set_option maxHeartbeats 4000000 in
set_option maxRecDepth 100000 in
theorem c8_which (l : Launch) (D : va_G) (cB cI cZ cO : ClassId) (h : Nat → Nat) (sz : Nat) (v_now : sT) (v_tried : sT) (v_past_kept : Nat → sT) (v_past_oldest : Int32) (v_past_size : Int32) (v_all_threads : sT) (v_all_rows : Nat → Int32) (v_all_ended : Nat → Int32) (v_all_known : Int32) (v_all_stepsInAll : Int32) (v_all_count : Int32) (v_all_standstills : Int32) (v_all_wrongOnes : Int32) (v_all_unlikeEnds : Int32) (v_meetings_reached : Nat → Int32) (v_text_bytes : Nat → Int32) (v_text_length : Int32) (v_text_place : Int32) (v_text_thread : Int32) (v_text_kind : Int32) (v_text_target : Int32) (v_text_value : Int32) (v_refusedBad : Int32) (v_refusedNo : Int32) (v_refusedFull : Int32) (r0 : Int32) (v_all_threads' : sT) (v_all_rows' : Nat → Int32) (v_all_ended' : Nat → Int32) (v_all_known' : Int32) (v_all_stepsInAll' : Int32) (v_all_count' : Int32) (v_all_standstills' : Int32) (v_all_wrongOnes' : Int32) (v_all_unlikeEnds' : Int32) (hf : f8_which v_now v_all_threads v_all_rows v_all_ended v_all_known v_all_stepsInAll v_all_count v_all_standstills v_all_wrongOnes v_all_unlikeEnds = some (r0, v_all_threads', v_all_rows', v_all_ended', v_all_known', v_all_stepsInAll', v_all_count', v_all_standstills', v_all_wrongOnes', v_all_unlikeEnds')) : Met l yX8_which wsX8_which rm8_which (va_Pc [.ref (h 0)] (kb_B D (ka_tys cB cI cZ cO) sz (wdO cB cI cZ cO h v_now v_tried v_past_kept v_past_oldest v_past_size v_all_threads v_all_rows v_all_ended v_all_known v_all_stepsInAll v_all_count v_all_standstills v_all_wrongOnes v_all_unlikeEnds v_meetings_reached v_text_bytes v_text_length v_text_place v_text_thread v_text_kind v_text_target v_text_value v_refusedBad v_refusedNo v_refusedFull))) (va_Qi (kb_post .int r0) (fun _ t => va_P D vwCl (wdO cB cI cZ cO h v_now v_tried v_past_kept v_past_oldest v_past_size (v_all_threads') (v_all_rows') (v_all_ended') (v_all_known') (v_all_stepsInAll') (v_all_count') (v_all_standstills') (v_all_wrongOnes') (v_all_unlikeEnds') v_meetings_reached v_text_bytes v_text_length v_text_place v_text_thread v_text_kind v_text_target v_text_value v_refusedBad v_refusedNo v_refusedFull) t.heap) (va_A (wdO cB cI cZ cO h v_now v_tried v_past_kept v_past_oldest v_past_size v_all_threads v_all_rows v_all_ended v_all_known v_all_stepsInAll v_all_count v_all_standstills v_all_wrongOnes v_all_unlikeEnds v_meetings_reached v_text_bytes v_text_length v_text_place v_text_thread v_text_kind v_text_target v_text_value v_refusedBad v_refusedNo v_refusedFull) sz)) 0 0 (va_A (wdO cB cI cZ cO h v_now v_tried v_past_kept v_past_oldest v_past_size v_all_threads v_all_rows v_all_ended v_all_known v_all_stepsInAll v_all_count v_all_standstills v_all_wrongOnes v_all_unlikeEnds v_meetings_reached v_text_bytes v_text_length v_text_place v_text_thread v_text_kind v_text_target v_text_value v_refusedBad v_refusedNo v_refusedFull) sz) := by
  refine kb_metZ (cc := cX8_which) (maxL := 1) (ty := .int) (by decide) rfl (Nat.le_of_ble_eq_true rfl) ?_
  intro p e s m args below meth c Q A ls H hx hb hml hown hts hK hN hP hD hS hA hl hend
  have hown : s.vm.findClass RX8 = some m.cls := hown
  have hl : lv_has ls 1 [(0, .ref (h 0))] := hl
  have hin8 : ∀ w ∈ u_ws RX8 TX8 9, w ∈ wsX8_which := by decide +kernel
  rw [f8_which] at hf
  refine lv_aload_n hx hb dX8_which_0 rfl (lv_at hl 0 rfl) ?_
  refine va_get (D := D) (cl := vwCl) (ci := 5) (v := .ref (h 1)) (C := RX8) (T := TX8) (N := 9) hx hb hts hin8 hown hK hP 0 rfl rfl 0 (by decide) (hts (.fieldLink RX8 12 "StepOrders" "now" "LStepOrders$State;") (by decide +kernel)) (fun _ h9 => h9) rfl dX8_which_1 ?_
  refine lv_aload_n hx hb dX8_which_4 rfl (lv_at hl 0 rfl) ?_
  refine va_get (D := D) (cl := vwCl) (ci := 5) (v := .ref (h 1)) (C := RX8) (T := TX8) (N := 9) hx hb hts hin8 hown hK hP 0 rfl rfl 0 (by decide) (hts (.fieldLink RX8 12 "StepOrders" "now" "LStepOrders$State;") (by decide +kernel)) (fun _ h9 => h9) rfl dX8_which_5 ?_
  have hPc : va_P D vwCl (wdS cI h 1 v_now) H := hP.sub [1, 2, 3] rfl
  have hDc : va_D A (wdS cI h 1 v_now) := hD.sub [1, 2, 3] (by decide) rfl
  refine kd_lR (va_runV (As := []) (rest := [.ref (h 1)]) ⟨hx, hb, hml, hown, hts⟩ (c5_runMoment l D cB cI cZ cO h 1 H.size v_now (f5_runMoment v_now) rfl) (cwV 0 hts gX8_which_X5_runMoment rfl rfl rfl (by decide +kernel) ⟨Nat.le_of_ble_eq_true rfl, Nat.le_of_ble_eq_true rfl⟩) ⟨kb_blind, va_recv hK hPc (ci := 3) (q0 := 0) rfl rfl, kb_pre hPc hDc hK hN⟩ rfl rfl hl.1 rfl (lv_room (Nat.le_of_ble_eq_true rfl)) dX8_which_8 ⟨Nat.le_refl _, Nat.le_refl _⟩) hP hD hS hA [1, 2, 3] rfl (fun H locs hP hS => ?_)
  refine kb_bind hf (fun q1 hq1 hf => ?_)
  have hPc : va_P D vwCl (wdS cI h 1 v_now) H := hP.sub [1, 2, 3] rfl
  have hDc : va_D A (wdS cI h 1 v_now) := hD.sub [1, 2, 3] (by decide) rfl
  refine kd_iR (va_runV (As := [.long (f5_runMoment v_now)]) (rest := []) ⟨hx, hb, hml, hown, hts⟩ (c5_ableBits l D cB cI cZ cO h 1 H.size (f5_runMoment v_now) v_now q1 hq1) (cwV 1 hts gX8_which_X5_ableBits rfl rfl rfl (by decide +kernel) ⟨Nat.le_of_ble_eq_true rfl, Nat.le_of_ble_eq_true rfl⟩) ⟨kb_blind, va_recv hK hPc (ci := 3) (q0 := 0) rfl rfl, kb_pre hPc hDc hK hN⟩ rfl rfl hl.1 rfl (lv_room (Nat.le_of_ble_eq_true rfl)) dX8_which_11 ⟨Nat.le_refl _, Nat.le_refl _⟩) hP hD hS hA [1, 2, 3] rfl (fun H locs hn2 hP hS => ?_)
  refine lv_if_eq (tgt := 19) hx hb dX8_which_14 (by decide) (fun c3 => ?_) (fun c3 => ?_)
  · rw [if_pos c3] at hf
    refine lv_aload_n hx hb dX8_which_19 rfl (lv_at hl 0 rfl) ?_
    refine va_get (D := D) (cl := vwCl) (ci := 5) (v := .ref (h 24)) (C := RX8) (T := TX8) (N := 9) hx hb hts hin8 hown hK hP 0 rfl rfl 3 (by decide) (hts (.fieldLink RX8 29 "StepOrders" "all" "LStepOrders$AllOrders;") (by decide +kernel)) (fun _ h9 => h9) rfl dX8_which_20 ?_
    refine lv_aload_n hx hb dX8_which_23 rfl (lv_at hl 0 rfl) ?_
    refine va_get (D := D) (cl := vwCl) (ci := 5) (v := .ref (h 1)) (C := RX8) (T := TX8) (N := 9) hx hb hts hin8 hown hK hP 0 rfl rfl 0 (by decide) (hts (.fieldLink RX8 12 "StepOrders" "now" "LStepOrders$State;") (by decide +kernel)) (fun _ h9 => h9) rfl dX8_which_24 ?_
    refine kb_bind hf (fun q4 hq4 hf => ?_)
    have hPc : va_P D vwCl (wdA cI cZ h 24 v_all_threads v_all_rows v_all_ended v_all_known v_all_stepsInAll v_all_count v_all_standstills v_all_wrongOnes v_all_unlikeEnds ++ wdS cI h 1 v_now) H := hP.sub [24, 25, 26, 27, 28, 29, 1, 2, 3] rfl
    have hDc : va_D A (wdA cI cZ h 24 v_all_threads v_all_rows v_all_ended v_all_known v_all_stepsInAll v_all_count v_all_standstills v_all_wrongOnes v_all_unlikeEnds ++ wdS cI h 1 v_now) := hD.sub [24, 25, 26, 27, 28, 29, 1, 2, 3] (by decide) rfl
    refine kd_vW (ws' := wdO cB cI cZ cO h v_now v_tried v_past_kept v_past_oldest v_past_size q4.1 q4.2.1 q4.2.2.1 q4.2.2.2.1 q4.2.2.2.2.1 q4.2.2.2.2.2.1 q4.2.2.2.2.2.2.1 q4.2.2.2.2.2.2.2.1 q4.2.2.2.2.2.2.2.2 v_meetings_reached v_text_bytes v_text_length v_text_place v_text_thread v_text_kind v_text_target v_text_value v_refusedBad v_refusedNo v_refusedFull) (va_runV (As := [.ref (h 1)]) (rest := []) ⟨hx, hb, hml, hown, hts⟩ (c0_goThrough l D cB cI cZ cO h 24 1 H.size v_all_threads v_all_rows v_all_ended v_all_known v_all_stepsInAll v_all_count v_all_standstills v_all_wrongOnes v_all_unlikeEnds v_now q4.1 q4.2.1 q4.2.2.1 q4.2.2.2.1 q4.2.2.2.2.1 q4.2.2.2.2.2.1 q4.2.2.2.2.2.2.1 q4.2.2.2.2.2.2.2.1 q4.2.2.2.2.2.2.2.2 hq4) (cwV 1 hts gX8_which_X0_goThrough rfl rfl rfl (by decide +kernel) ⟨Nat.le_of_ble_eq_true rfl, Nat.le_of_ble_eq_true rfl⟩) ⟨kb_blind, va_recv hK hPc (ci := 0) (q0 := 0) rfl rfl, kb_pre hPc hDc hK hN⟩ rfl rfl hl.1 rfl (lv_room (Nat.le_of_ble_eq_true rfl)) dX8_which_27 ⟨Nat.le_refl _, Nat.le_refl _⟩) hP hD hS hA [24, 25, 26, 27, 28, 29, 1, 2, 3] [0, 4, 5, 6, 7, 8, 9, 10, 11, 12, 13, 14, 15, 16, 17, 18, 19, 20, 21, 22, 23, 30, 31, 32, 33] rfl rfl (List.forall_mem_cons.mpr ⟨rfl, (List.forall_mem_cons.mpr ⟨rfl, (List.forall_mem_cons.mpr ⟨rfl, (List.forall_mem_cons.mpr ⟨rfl, (List.forall_mem_cons.mpr ⟨rfl, (List.forall_mem_cons.mpr ⟨rfl, (List.forall_mem_cons.mpr ⟨rfl, (List.forall_mem_cons.mpr ⟨rfl, (List.forall_mem_cons.mpr ⟨rfl, (List.forall_mem_cons.mpr ⟨rfl, (List.forall_mem_cons.mpr ⟨rfl, (List.forall_mem_cons.mpr ⟨rfl, (List.forall_mem_cons.mpr ⟨rfl, (List.forall_mem_cons.mpr ⟨rfl, (List.forall_mem_cons.mpr ⟨rfl, (List.forall_mem_cons.mpr ⟨rfl, (List.forall_mem_cons.mpr ⟨rfl, (List.forall_mem_cons.mpr ⟨rfl, (List.forall_mem_cons.mpr ⟨rfl, (List.forall_mem_cons.mpr ⟨rfl, (List.forall_mem_cons.mpr ⟨rfl, (List.forall_mem_cons.mpr ⟨rfl, (List.forall_mem_cons.mpr ⟨rfl, (List.forall_mem_cons.mpr ⟨rfl, (List.forall_mem_cons.mpr ⟨rfl, (fun _ h9 => absurd h9 List.not_mem_nil)⟩)⟩)⟩)⟩)⟩)⟩)⟩)⟩)⟩)⟩)⟩)⟩)⟩)⟩)⟩)⟩)⟩)⟩)⟩)⟩)⟩)⟩)⟩)⟩)⟩) rfl rfl (fun H locs hP hD hS => ?_)
    refine lv_aload_n hx hb dX8_which_30 rfl (lv_at hl 0 rfl) ?_
    refine va_get (D := D) (cl := vwCl) (ci := 5) (v := .ref (h 24)) (C := RX8) (T := TX8) (N := 9) hx hb hts hin8 hown hK hP 0 rfl rfl 3 (by decide) (hts (.fieldLink RX8 29 "StepOrders" "all" "LStepOrders$AllOrders;") (by decide +kernel)) (fun _ h9 => h9) rfl dX8_which_31 ?_
    refine lv_aload_n hx hb dX8_which_34 rfl (lv_at hl 0 rfl) ?_
    refine va_get (D := D) (cl := vwCl) (ci := 5) (v := .ref (h 1)) (C := RX8) (T := TX8) (N := 9) hx hb hts hin8 hown hK hP 0 rfl rfl 0 (by decide) (hts (.fieldLink RX8 12 "StepOrders" "now" "LStepOrders$State;") (by decide +kernel)) (fun _ h9 => h9) rfl dX8_which_35 ?_
    have hPc : va_P D vwCl (wdS cI h 1 v_now) H := hP.sub [1, 2, 3] rfl
    have hDc : va_D A (wdS cI h 1 v_now) := hD.sub [1, 2, 3] (by decide) rfl
    refine kd_iR (va_runV (As := []) (rest := [.ref (h 24)]) ⟨hx, hb, hml, hown, hts⟩ (c5_runRow l D cB cI cZ cO h 1 H.size v_now (f5_runRow v_now) rfl) (cwV 0 hts gX8_which_X5_runRow rfl rfl rfl (by decide +kernel) ⟨Nat.le_of_ble_eq_true rfl, Nat.le_of_ble_eq_true rfl⟩) ⟨kb_blind, va_recv hK hPc (ci := 3) (q0 := 0) rfl rfl, kb_pre hPc hDc hK hN⟩ rfl rfl hl.1 rfl (lv_room (Nat.le_of_ble_eq_true rfl)) dX8_which_38 ⟨Nat.le_refl _, Nat.le_refl _⟩) hP hD hS hA [1, 2, 3] rfl (fun H locs hn5 hP hS => ?_)
    refine kb_bind hf (fun q6 hq6 hf => ?_)
    have hPc : va_P D vwCl (wdA cI cZ h 24 q4.1 q4.2.1 q4.2.2.1 q4.2.2.2.1 q4.2.2.2.2.1 q4.2.2.2.2.2.1 q4.2.2.2.2.2.2.1 q4.2.2.2.2.2.2.2.1 q4.2.2.2.2.2.2.2.2) H := hP.sub [24, 25, 26, 27, 28, 29] rfl
    have hDc : va_D A (wdA cI cZ h 24 q4.1 q4.2.1 q4.2.2.1 q4.2.2.2.1 q4.2.2.2.2.1 q4.2.2.2.2.2.1 q4.2.2.2.2.2.2.1 q4.2.2.2.2.2.2.2.1 q4.2.2.2.2.2.2.2.2) := hD.sub [24, 25, 26, 27, 28, 29] (by decide) rfl
    refine kd_iR (va_runV (As := [.int (f5_runRow v_now)]) (rest := []) ⟨hx, hb, hml, hown, hts⟩ (c0_find l D cB cI cZ cO h 24 H.size (f5_runRow v_now) q4.1 q4.2.1 q4.2.2.1 q4.2.2.2.1 q4.2.2.2.2.1 q4.2.2.2.2.2.1 q4.2.2.2.2.2.2.1 q4.2.2.2.2.2.2.2.1 q4.2.2.2.2.2.2.2.2 q6 hq6) (cwV 1 hts gX8_which_X0_find rfl rfl rfl (by decide +kernel) ⟨Nat.le_of_ble_eq_true rfl, Nat.le_of_ble_eq_true rfl⟩) ⟨kb_blind, va_recv hK hPc (ci := 0) (q0 := 0) rfl rfl, kb_pre hPc hDc hK hN⟩ rfl rfl hl.1 rfl (lv_room (Nat.le_of_ble_eq_true rfl)) dX8_which_41 ⟨Nat.le_refl _, Nat.le_refl _⟩) hP hD hS hA [24, 25, 26, 27, 28, 29] rfl (fun H locs hn7 hP hS => ?_)
    obtain ⟨z1, y1⟩ := Prod.mk.inj (Option.some.inj hf)
    obtain ⟨z2, y2⟩ := Prod.mk.inj y1
    obtain ⟨z3, y3⟩ := Prod.mk.inj y2
    obtain ⟨z4, y4⟩ := Prod.mk.inj y3
    obtain ⟨z5, y5⟩ := Prod.mk.inj y4
    obtain ⟨z6, y6⟩ := Prod.mk.inj y5
    obtain ⟨z7, y7⟩ := Prod.mk.inj y6
    obtain ⟨z8, y8⟩ := Prod.mk.inj y7
    obtain ⟨z9, y9⟩ := Prod.mk.inj y8
    subst z1 z2 z3 z4 z5 z6 z7 z8 z9 y9
    exact hend _ _ _ _ rfl hP hS dX8_which_44
  · rw [if_neg c3] at hf
    refine lv_iconst (v := (-1)) hx hb dX8_which_17 (by decide) ?_
    obtain ⟨z1, y1⟩ := Prod.mk.inj (Option.some.inj hf)
    obtain ⟨z2, y2⟩ := Prod.mk.inj y1
    obtain ⟨z3, y3⟩ := Prod.mk.inj y2
    obtain ⟨z4, y4⟩ := Prod.mk.inj y3
    obtain ⟨z5, y5⟩ := Prod.mk.inj y4
    obtain ⟨z6, y6⟩ := Prod.mk.inj y5
    obtain ⟨z7, y7⟩ := Prod.mk.inj y6
    obtain ⟨z8, y8⟩ := Prod.mk.inj y7
    obtain ⟨z9, y9⟩ := Prod.mk.inj y8
    subst z1 z2 z3 z4 z5 z6 z7 z8 z9 y9
    exact hend _ _ _ _ rfl hP hS dX8_which_18

set_option maxHeartbeats 4000000 in
set_option maxRecDepth 100000 in
theorem c8_type (l : Launch) (D : va_G) (cB cI cZ cO : ClassId) (h : Nat → Nat) (sz : Nat) (x1 : Int32) (v_now : sT) (v_tried : sT) (v_past_kept : Nat → sT) (v_past_oldest : Int32) (v_past_size : Int32) (v_all_threads : sT) (v_all_rows : Nat → Int32) (v_all_ended : Nat → Int32) (v_all_known : Int32) (v_all_stepsInAll : Int32) (v_all_count : Int32) (v_all_standstills : Int32) (v_all_wrongOnes : Int32) (v_all_unlikeEnds : Int32) (v_meetings_reached : Nat → Int32) (v_text_bytes : Nat → Int32) (v_text_length : Int32) (v_text_place : Int32) (v_text_thread : Int32) (v_text_kind : Int32) (v_text_target : Int32) (v_text_value : Int32) (v_refusedBad : Int32) (v_refusedNo : Int32) (v_refusedFull : Int32) (r0 : Int32) (v_text_bytes' : Nat → Int32) (v_text_length' : Int32) (v_refusedBad' : Int32) (v_refusedNo' : Int32) (v_refusedFull' : Int32) (hf : f8_type v_text_bytes v_text_length v_refusedBad v_refusedNo v_refusedFull x1 = some (r0, v_text_bytes', v_text_length', v_refusedBad', v_refusedNo', v_refusedFull')) : Met l yX8_type wsX8_type rm8_type (va_Pc [.ref (h 0), .int x1] (kb_B D (ka_tys cB cI cZ cO) sz (wdO cB cI cZ cO h v_now v_tried v_past_kept v_past_oldest v_past_size v_all_threads v_all_rows v_all_ended v_all_known v_all_stepsInAll v_all_count v_all_standstills v_all_wrongOnes v_all_unlikeEnds v_meetings_reached v_text_bytes v_text_length v_text_place v_text_thread v_text_kind v_text_target v_text_value v_refusedBad v_refusedNo v_refusedFull))) (va_Qi (kb_post .int r0) (fun _ t => va_P D vwCl (wdO cB cI cZ cO h v_now v_tried v_past_kept v_past_oldest v_past_size v_all_threads v_all_rows v_all_ended v_all_known v_all_stepsInAll v_all_count v_all_standstills v_all_wrongOnes v_all_unlikeEnds v_meetings_reached (v_text_bytes') (v_text_length') v_text_place v_text_thread v_text_kind v_text_target v_text_value (v_refusedBad') (v_refusedNo') (v_refusedFull')) t.heap) (va_A (wdO cB cI cZ cO h v_now v_tried v_past_kept v_past_oldest v_past_size v_all_threads v_all_rows v_all_ended v_all_known v_all_stepsInAll v_all_count v_all_standstills v_all_wrongOnes v_all_unlikeEnds v_meetings_reached v_text_bytes v_text_length v_text_place v_text_thread v_text_kind v_text_target v_text_value v_refusedBad v_refusedNo v_refusedFull) sz)) 0 0 (va_A (wdO cB cI cZ cO h v_now v_tried v_past_kept v_past_oldest v_past_size v_all_threads v_all_rows v_all_ended v_all_known v_all_stepsInAll v_all_count v_all_standstills v_all_wrongOnes v_all_unlikeEnds v_meetings_reached v_text_bytes v_text_length v_text_place v_text_thread v_text_kind v_text_target v_text_value v_refusedBad v_refusedNo v_refusedFull) sz) := by
  refine kb_metZ (cc := cX8_type) (maxL := 2) (ty := .int) (by decide) rfl (Nat.le_of_ble_eq_true rfl) ?_
  intro p e s m args below meth c Q A ls H hx hb hml hown hts hK hN hP hD hS hA hl hend
  have hown : s.vm.findClass RX8 = some m.cls := hown
  have hl : lv_has ls 2 [(0, .ref (h 0)), (1, .int x1)] := hl
  have hin8 : ∀ w ∈ u_ws RX8 TX8 9, w ∈ wsX8_type := by decide +kernel
  rw [f8_type] at hf
  refine lv_iload_n hx hb dX8_type_0 rfl (lv_at hl 1 rfl) ?_
  refine lv_sipush (v := 128) hx hb dX8_type_1 (by decide) ?_
  have hPc : va_P D vwCl ([]) H := hP.sub [] rfl
  have hDc : va_D A ([]) := hD.sub [] (by decide) rfl
  refine kd_iR (va_runS (As := [.int x1, .int (128 : Int32)]) (rest := []) ⟨hx, hb, hml, hown, hts⟩ (c8_below l D cB cI cZ cO h H.size x1 (128 : Int32) (f8_below x1 (128 : Int32)) rfl) (va_cwS 2 hts gX8_type_X8_below rfl rfl rfl (by decide +kernel) ⟨Nat.le_of_ble_eq_true rfl, Nat.le_of_ble_eq_true rfl⟩) ⟨kb_blind, kb_pre hPc hDc hK hN⟩ rfl rfl hl.1 rfl (lv_room (Nat.le_of_ble_eq_true rfl)) dX8_type_4 ⟨Nat.le_refl _, Nat.le_refl _⟩) hP hD hS hA [] rfl (fun H locs hn1 hP hS => ?_)
  refine lv_if_ne (tgt := 17) hx hb dX8_type_7 (by decide) (fun c2 => ?_) (fun c2 => ?_)
  · rw [if_neg c2] at hf
    refine lv_aload_n hx hb dX8_type_17 rfl (lv_at hl 0 rfl) ?_
    refine va_get (D := D) (cl := vwCl) (ci := 5) (v := .ref (h 32)) (C := RX8) (T := TX8) (N := 9) hx hb hts hin8 hown hK hP 0 rfl rfl 5 (by decide) (hts (.fieldLink RX8 43 "StepOrders" "text" "LStepOrders$Text;") (by decide +kernel)) (fun _ h9 => h9) rfl dX8_type_18 ?_
    have hPc : va_P D vwCl (wdT cB h 32 v_text_bytes v_text_length v_text_place v_text_thread v_text_kind v_text_target v_text_value) H := hP.sub [32, 33] rfl
    have hDc : va_D A (wdT cB h 32 v_text_bytes v_text_length v_text_place v_text_thread v_text_kind v_text_target v_text_value) := hD.sub [32, 33] (by decide) rfl
    refine kd_iR (va_runV (As := []) (rest := []) ⟨hx, hb, hml, hown, hts⟩ (c7_length l D cB cI cZ cO h 32 H.size v_text_bytes v_text_length v_text_place v_text_thread v_text_kind v_text_target v_text_value (f7_length v_text_length) rfl) (cwV 0 hts gX8_type_X7_length rfl rfl rfl (by decide +kernel) ⟨Nat.le_of_ble_eq_true rfl, Nat.le_of_ble_eq_true rfl⟩) ⟨kb_blind, va_recv hK hPc (ci := 4) (q0 := 0) rfl rfl, kb_pre hPc hDc hK hN⟩ rfl rfl hl.1 rfl (lv_room (Nat.le_of_ble_eq_true rfl)) dX8_type_21 ⟨Nat.le_refl _, Nat.le_refl _⟩) hP hD hS hA [32, 33] rfl (fun H locs hn3 hP hS => ?_)
    refine lv_bipush (v := 120) hx hb dX8_type_24 (by decide) ?_
    refine lv_icmp_lt (tgt := 36) hx hb dX8_type_26 (by decide) (fun c4 => ?_) (fun c4 => ?_)
    · rw [if_pos c4] at hf
      refine lv_aload_n hx hb dX8_type_36 rfl (lv_at hl 0 rfl) ?_
      refine va_get (D := D) (cl := vwCl) (ci := 5) (v := .ref (h 32)) (C := RX8) (T := TX8) (N := 9) hx hb hts hin8 hown hK hP 0 rfl rfl 5 (by decide) (hts (.fieldLink RX8 43 "StepOrders" "text" "LStepOrders$Text;") (by decide +kernel)) (fun _ h9 => h9) rfl dX8_type_37 ?_
      refine lv_iload_n hx hb dX8_type_40 rfl (lv_at hl 1 rfl) ?_
      refine kb_bind hf (fun q5 hq5 hf => ?_)
      have hPc : va_P D vwCl (wdT cB h 32 v_text_bytes v_text_length v_text_place v_text_thread v_text_kind v_text_target v_text_value) H := hP.sub [32, 33] rfl
      have hDc : va_D A (wdT cB h 32 v_text_bytes v_text_length v_text_place v_text_thread v_text_kind v_text_target v_text_value) := hD.sub [32, 33] (by decide) rfl
      refine kd_vW (ws' := wdO cB cI cZ cO h v_now v_tried v_past_kept v_past_oldest v_past_size v_all_threads v_all_rows v_all_ended v_all_known v_all_stepsInAll v_all_count v_all_standstills v_all_wrongOnes v_all_unlikeEnds v_meetings_reached q5.1 q5.2 v_text_place v_text_thread v_text_kind v_text_target v_text_value v_refusedBad v_refusedNo v_refusedFull) (va_runV (As := [.int x1]) (rest := []) ⟨hx, hb, hml, hown, hts⟩ (c7_append l D cB cI cZ cO h 32 H.size x1 v_text_bytes v_text_length v_text_place v_text_thread v_text_kind v_text_target v_text_value q5.1 q5.2 hq5) (cwV 1 hts gX8_type_X7_append rfl rfl rfl (by decide +kernel) ⟨Nat.le_of_ble_eq_true rfl, Nat.le_of_ble_eq_true rfl⟩) ⟨kb_blind, va_recv hK hPc (ci := 4) (q0 := 0) rfl rfl, kb_pre hPc hDc hK hN⟩ rfl rfl hl.1 rfl (lv_room (Nat.le_of_ble_eq_true rfl)) dX8_type_41 ⟨Nat.le_refl _, Nat.le_refl _⟩) hP hD hS hA [32, 33] [0, 1, 2, 3, 4, 5, 6, 7, 8, 9, 10, 11, 12, 13, 14, 15, 16, 17, 18, 19, 20, 21, 22, 23, 24, 25, 26, 27, 28, 29, 30, 31] rfl rfl (List.forall_mem_cons.mpr ⟨rfl, (List.forall_mem_cons.mpr ⟨rfl, (List.forall_mem_cons.mpr ⟨rfl, (List.forall_mem_cons.mpr ⟨rfl, (List.forall_mem_cons.mpr ⟨rfl, (List.forall_mem_cons.mpr ⟨rfl, (List.forall_mem_cons.mpr ⟨rfl, (List.forall_mem_cons.mpr ⟨rfl, (List.forall_mem_cons.mpr ⟨rfl, (List.forall_mem_cons.mpr ⟨rfl, (List.forall_mem_cons.mpr ⟨rfl, (List.forall_mem_cons.mpr ⟨rfl, (List.forall_mem_cons.mpr ⟨rfl, (List.forall_mem_cons.mpr ⟨rfl, (List.forall_mem_cons.mpr ⟨rfl, (List.forall_mem_cons.mpr ⟨rfl, (List.forall_mem_cons.mpr ⟨rfl, (List.forall_mem_cons.mpr ⟨rfl, (List.forall_mem_cons.mpr ⟨rfl, (List.forall_mem_cons.mpr ⟨rfl, (List.forall_mem_cons.mpr ⟨rfl, (List.forall_mem_cons.mpr ⟨rfl, (List.forall_mem_cons.mpr ⟨rfl, (List.forall_mem_cons.mpr ⟨rfl, (List.forall_mem_cons.mpr ⟨rfl, (List.forall_mem_cons.mpr ⟨rfl, (List.forall_mem_cons.mpr ⟨rfl, (List.forall_mem_cons.mpr ⟨rfl, (List.forall_mem_cons.mpr ⟨rfl, (List.forall_mem_cons.mpr ⟨rfl, (List.forall_mem_cons.mpr ⟨rfl, (List.forall_mem_cons.mpr ⟨rfl, (fun _ h9 => absurd h9 List.not_mem_nil)⟩)⟩)⟩)⟩)⟩)⟩)⟩)⟩)⟩)⟩)⟩)⟩)⟩)⟩)⟩)⟩)⟩)⟩)⟩)⟩)⟩)⟩)⟩)⟩)⟩)⟩)⟩)⟩)⟩)⟩)⟩)⟩) rfl rfl (fun H locs hP hD hS => ?_)
      refine lv_aload_n hx hb dX8_type_44 rfl (lv_at hl 0 rfl) ?_
      refine va_get (D := D) (cl := vwCl) (ci := 5) (v := .ref (h 32)) (C := RX8) (T := TX8) (N := 9) hx hb hts hin8 hown hK hP 0 rfl rfl 5 (by decide) (hts (.fieldLink RX8 43 "StepOrders" "text" "LStepOrders$Text;") (by decide +kernel)) (fun _ h9 => h9) rfl dX8_type_45 ?_
      have hPc : va_P D vwCl (wdT cB h 32 q5.1 q5.2 v_text_place v_text_thread v_text_kind v_text_target v_text_value) H := hP.sub [32, 33] rfl
      have hDc : va_D A (wdT cB h 32 q5.1 q5.2 v_text_place v_text_thread v_text_kind v_text_target v_text_value) := hD.sub [32, 33] (by decide) rfl
      refine kd_iR (va_runV (As := []) (rest := []) ⟨hx, hb, hml, hown, hts⟩ (c7_length l D cB cI cZ cO h 32 H.size q5.1 q5.2 v_text_place v_text_thread v_text_kind v_text_target v_text_value (f7_length q5.2) rfl) (cwV 0 hts gX8_type_X7_length rfl rfl rfl (by decide +kernel) ⟨Nat.le_of_ble_eq_true rfl, Nat.le_of_ble_eq_true rfl⟩) ⟨kb_blind, va_recv hK hPc (ci := 4) (q0 := 0) rfl rfl, kb_pre hPc hDc hK hN⟩ rfl rfl hl.1 rfl (lv_room (Nat.le_of_ble_eq_true rfl)) dX8_type_48 ⟨Nat.le_refl _, Nat.le_refl _⟩) hP hD hS hA [32, 33] rfl (fun H locs hn6 hP hS => ?_)
      obtain ⟨z1, y1⟩ := Prod.mk.inj (Option.some.inj hf)
      obtain ⟨z2, y2⟩ := Prod.mk.inj y1
      obtain ⟨z3, y3⟩ := Prod.mk.inj y2
      obtain ⟨z4, y4⟩ := Prod.mk.inj y3
      obtain ⟨z5, y5⟩ := Prod.mk.inj y4
      subst z1 z2 z3 z4 z5 y5
      exact hend _ _ _ _ rfl hP hS dX8_type_51
    · rw [if_neg c4] at hf
      refine lv_aload_n hx hb dX8_type_29 rfl (lv_at hl 0 rfl) ?_
      refine lv_bipush (v := (-4)) hx hb dX8_type_30 (by decide) ?_
      refine kb_bind hf (fun q7 hq7 hf => ?_)
      have hPc : va_P D vwCl (wdO cB cI cZ cO h v_now v_tried v_past_kept v_past_oldest v_past_size v_all_threads v_all_rows v_all_ended v_all_known v_all_stepsInAll v_all_count v_all_standstills v_all_wrongOnes v_all_unlikeEnds v_meetings_reached v_text_bytes v_text_length v_text_place v_text_thread v_text_kind v_text_target v_text_value v_refusedBad v_refusedNo v_refusedFull) H := hP.sub [0, 1, 2, 3, 4, 5, 6, 7, 8, 9, 10, 11, 12, 13, 14, 15, 16, 17, 18, 19, 20, 21, 22, 23, 24, 25, 26, 27, 28, 29, 30, 31, 32, 33] rfl
      have hDc : va_D A (wdO cB cI cZ cO h v_now v_tried v_past_kept v_past_oldest v_past_size v_all_threads v_all_rows v_all_ended v_all_known v_all_stepsInAll v_all_count v_all_standstills v_all_wrongOnes v_all_unlikeEnds v_meetings_reached v_text_bytes v_text_length v_text_place v_text_thread v_text_kind v_text_target v_text_value v_refusedBad v_refusedNo v_refusedFull) := hD.sub [0, 1, 2, 3, 4, 5, 6, 7, 8, 9, 10, 11, 12, 13, 14, 15, 16, 17, 18, 19, 20, 21, 22, 23, 24, 25, 26, 27, 28, 29, 30, 31, 32, 33] (by decide) rfl
      refine kd_iW (ws' := wdO cB cI cZ cO h v_now v_tried v_past_kept v_past_oldest v_past_size v_all_threads v_all_rows v_all_ended v_all_known v_all_stepsInAll v_all_count v_all_standstills v_all_wrongOnes v_all_unlikeEnds v_meetings_reached v_text_bytes v_text_length v_text_place v_text_thread v_text_kind v_text_target v_text_value q7.2.1 q7.2.2.1 q7.2.2.2) (va_runV (As := [.int (-4 : Int32)]) (rest := []) ⟨hx, hb, hml, hown, hts⟩ (c8_refused l D cB cI cZ cO h H.size (-4 : Int32) v_now v_tried v_past_kept v_past_oldest v_past_size v_all_threads v_all_rows v_all_ended v_all_known v_all_stepsInAll v_all_count v_all_standstills v_all_wrongOnes v_all_unlikeEnds v_meetings_reached v_text_bytes v_text_length v_text_place v_text_thread v_text_kind v_text_target v_text_value v_refusedBad v_refusedNo v_refusedFull q7.1 q7.2.1 q7.2.2.1 q7.2.2.2 hq7) (cwV 1 hts gX8_type_X8_refused rfl rfl rfl (by decide +kernel) ⟨Nat.le_of_ble_eq_true rfl, Nat.le_of_ble_eq_true rfl⟩) ⟨kb_blind, va_recv hK hPc (ci := 5) (q0 := 0) rfl rfl, kb_pre hPc hDc hK hN⟩ rfl rfl hl.1 rfl (lv_room (Nat.le_of_ble_eq_true rfl)) dX8_type_32 ⟨Nat.le_refl _, Nat.le_refl _⟩) hP hD hS hA [0, 1, 2, 3, 4, 5, 6, 7, 8, 9, 10, 11, 12, 13, 14, 15, 16, 17, 18, 19, 20, 21, 22, 23, 24, 25, 26, 27, 28, 29, 30, 31, 32, 33] [] rfl rfl (fun _ h9 => absurd h9 List.not_mem_nil) rfl rfl (fun H locs hn8 hP hD hS => ?_)
      obtain ⟨z1, y1⟩ := Prod.mk.inj (Option.some.inj hf)
      obtain ⟨z2, y2⟩ := Prod.mk.inj y1
      obtain ⟨z3, y3⟩ := Prod.mk.inj y2
      obtain ⟨z4, y4⟩ := Prod.mk.inj y3
      obtain ⟨z5, y5⟩ := Prod.mk.inj y4
      subst z1 z2 z3 z4 z5 y5
      exact hend _ _ _ _ rfl hP hS dX8_type_35
  · rw [if_pos c2] at hf
    refine lv_aload_n hx hb dX8_type_10 rfl (lv_at hl 0 rfl) ?_
    refine lv_bipush (v := (-2)) hx hb dX8_type_11 (by decide) ?_
    refine kb_bind hf (fun q9 hq9 hf => ?_)
    have hPc : va_P D vwCl (wdO cB cI cZ cO h v_now v_tried v_past_kept v_past_oldest v_past_size v_all_threads v_all_rows v_all_ended v_all_known v_all_stepsInAll v_all_count v_all_standstills v_all_wrongOnes v_all_unlikeEnds v_meetings_reached v_text_bytes v_text_length v_text_place v_text_thread v_text_kind v_text_target v_text_value v_refusedBad v_refusedNo v_refusedFull) H := hP.sub [0, 1, 2, 3, 4, 5, 6, 7, 8, 9, 10, 11, 12, 13, 14, 15, 16, 17, 18, 19, 20, 21, 22, 23, 24, 25, 26, 27, 28, 29, 30, 31, 32, 33] rfl
    have hDc : va_D A (wdO cB cI cZ cO h v_now v_tried v_past_kept v_past_oldest v_past_size v_all_threads v_all_rows v_all_ended v_all_known v_all_stepsInAll v_all_count v_all_standstills v_all_wrongOnes v_all_unlikeEnds v_meetings_reached v_text_bytes v_text_length v_text_place v_text_thread v_text_kind v_text_target v_text_value v_refusedBad v_refusedNo v_refusedFull) := hD.sub [0, 1, 2, 3, 4, 5, 6, 7, 8, 9, 10, 11, 12, 13, 14, 15, 16, 17, 18, 19, 20, 21, 22, 23, 24, 25, 26, 27, 28, 29, 30, 31, 32, 33] (by decide) rfl
    refine kd_iW (ws' := wdO cB cI cZ cO h v_now v_tried v_past_kept v_past_oldest v_past_size v_all_threads v_all_rows v_all_ended v_all_known v_all_stepsInAll v_all_count v_all_standstills v_all_wrongOnes v_all_unlikeEnds v_meetings_reached v_text_bytes v_text_length v_text_place v_text_thread v_text_kind v_text_target v_text_value q9.2.1 q9.2.2.1 q9.2.2.2) (va_runV (As := [.int (-2 : Int32)]) (rest := []) ⟨hx, hb, hml, hown, hts⟩ (c8_refused l D cB cI cZ cO h H.size (-2 : Int32) v_now v_tried v_past_kept v_past_oldest v_past_size v_all_threads v_all_rows v_all_ended v_all_known v_all_stepsInAll v_all_count v_all_standstills v_all_wrongOnes v_all_unlikeEnds v_meetings_reached v_text_bytes v_text_length v_text_place v_text_thread v_text_kind v_text_target v_text_value v_refusedBad v_refusedNo v_refusedFull q9.1 q9.2.1 q9.2.2.1 q9.2.2.2 hq9) (cwV 1 hts gX8_type_X8_refused rfl rfl rfl (by decide +kernel) ⟨Nat.le_of_ble_eq_true rfl, Nat.le_of_ble_eq_true rfl⟩) ⟨kb_blind, va_recv hK hPc (ci := 5) (q0 := 0) rfl rfl, kb_pre hPc hDc hK hN⟩ rfl rfl hl.1 rfl (lv_room (Nat.le_of_ble_eq_true rfl)) dX8_type_13 ⟨Nat.le_refl _, Nat.le_refl _⟩) hP hD hS hA [0, 1, 2, 3, 4, 5, 6, 7, 8, 9, 10, 11, 12, 13, 14, 15, 16, 17, 18, 19, 20, 21, 22, 23, 24, 25, 26, 27, 28, 29, 30, 31, 32, 33] [] rfl rfl (fun _ h9 => absurd h9 List.not_mem_nil) rfl rfl (fun H locs hn10 hP hD hS => ?_)
    obtain ⟨z1, y1⟩ := Prod.mk.inj (Option.some.inj hf)
    obtain ⟨z2, y2⟩ := Prod.mk.inj y1
    obtain ⟨z3, y3⟩ := Prod.mk.inj y2
    obtain ⟨z4, y4⟩ := Prod.mk.inj y3
    obtain ⟨z5, y5⟩ := Prod.mk.inj y4
    subst z1 z2 z3 z4 z5 y5
    exact hend _ _ _ _ rfl hP hS dX8_type_16

set_option maxHeartbeats 4000000 in
set_option maxRecDepth 100000 in
theorem c8_clear (l : Launch) (D : va_G) (cB cI cZ cO : ClassId) (h : Nat → Nat) (sz : Nat) (v_now : sT) (v_tried : sT) (v_past_kept : Nat → sT) (v_past_oldest : Int32) (v_past_size : Int32) (v_all_threads : sT) (v_all_rows : Nat → Int32) (v_all_ended : Nat → Int32) (v_all_known : Int32) (v_all_stepsInAll : Int32) (v_all_count : Int32) (v_all_standstills : Int32) (v_all_wrongOnes : Int32) (v_all_unlikeEnds : Int32) (v_meetings_reached : Nat → Int32) (v_text_bytes : Nat → Int32) (v_text_length : Int32) (v_text_place : Int32) (v_text_thread : Int32) (v_text_kind : Int32) (v_text_target : Int32) (v_text_value : Int32) (v_refusedBad : Int32) (v_refusedNo : Int32) (v_refusedFull : Int32) (r0 : Int32) (v_text_length' : Int32) (hf : f8_clear v_text_length = some (r0, v_text_length')) : Met l yX8_clear wsX8_clear rm8_clear (va_Pc [.ref (h 0)] (kb_B D (ka_tys cB cI cZ cO) sz (wdO cB cI cZ cO h v_now v_tried v_past_kept v_past_oldest v_past_size v_all_threads v_all_rows v_all_ended v_all_known v_all_stepsInAll v_all_count v_all_standstills v_all_wrongOnes v_all_unlikeEnds v_meetings_reached v_text_bytes v_text_length v_text_place v_text_thread v_text_kind v_text_target v_text_value v_refusedBad v_refusedNo v_refusedFull))) (va_Qi (kb_post .int r0) (fun _ t => va_P D vwCl (wdO cB cI cZ cO h v_now v_tried v_past_kept v_past_oldest v_past_size v_all_threads v_all_rows v_all_ended v_all_known v_all_stepsInAll v_all_count v_all_standstills v_all_wrongOnes v_all_unlikeEnds v_meetings_reached v_text_bytes (v_text_length') v_text_place v_text_thread v_text_kind v_text_target v_text_value v_refusedBad v_refusedNo v_refusedFull) t.heap) (va_A (wdO cB cI cZ cO h v_now v_tried v_past_kept v_past_oldest v_past_size v_all_threads v_all_rows v_all_ended v_all_known v_all_stepsInAll v_all_count v_all_standstills v_all_wrongOnes v_all_unlikeEnds v_meetings_reached v_text_bytes v_text_length v_text_place v_text_thread v_text_kind v_text_target v_text_value v_refusedBad v_refusedNo v_refusedFull) sz)) 0 0 (va_A (wdO cB cI cZ cO h v_now v_tried v_past_kept v_past_oldest v_past_size v_all_threads v_all_rows v_all_ended v_all_known v_all_stepsInAll v_all_count v_all_standstills v_all_wrongOnes v_all_unlikeEnds v_meetings_reached v_text_bytes v_text_length v_text_place v_text_thread v_text_kind v_text_target v_text_value v_refusedBad v_refusedNo v_refusedFull) sz) := by
  refine kb_metZ (cc := cX8_clear) (maxL := 2) (ty := .int) (by decide) rfl (Nat.le_of_ble_eq_true rfl) ?_
  intro p e s m args below meth c Q A ls H hx hb hml hown hts hK hN hP hD hS hA hl hend
  have hown : s.vm.findClass RX8 = some m.cls := hown
  have hl : lv_has ls 2 [(0, .ref (h 0))] := hl
  have hin8 : ∀ w ∈ u_ws RX8 TX8 9, w ∈ wsX8_clear := by decide +kernel
  rw [f8_clear] at hf
  refine lv_aload_n hx hb dX8_clear_0 rfl (lv_at hl 0 rfl) ?_
  refine va_get (D := D) (cl := vwCl) (ci := 5) (v := .ref (h 32)) (C := RX8) (T := TX8) (N := 9) hx hb hts hin8 hown hK hP 0 rfl rfl 5 (by decide) (hts (.fieldLink RX8 43 "StepOrders" "text" "LStepOrders$Text;") (by decide +kernel)) (fun _ h9 => h9) rfl dX8_clear_1 ?_
  have hPc : va_P D vwCl (wdT cB h 32 v_text_bytes v_text_length v_text_place v_text_thread v_text_kind v_text_target v_text_value) H := hP.sub [32, 33] rfl
  have hDc : va_D A (wdT cB h 32 v_text_bytes v_text_length v_text_place v_text_thread v_text_kind v_text_target v_text_value) := hD.sub [32, 33] (by decide) rfl
  refine kd_iR (va_runV (As := []) (rest := []) ⟨hx, hb, hml, hown, hts⟩ (c7_length l D cB cI cZ cO h 32 H.size v_text_bytes v_text_length v_text_place v_text_thread v_text_kind v_text_target v_text_value (f7_length v_text_length) rfl) (cwV 0 hts gX8_clear_X7_length rfl rfl rfl (by decide +kernel) ⟨Nat.le_of_ble_eq_true rfl, Nat.le_of_ble_eq_true rfl⟩) ⟨kb_blind, va_recv hK hPc (ci := 4) (q0 := 0) rfl rfl, kb_pre hPc hDc hK hN⟩ rfl rfl hl.1 rfl (lv_room (Nat.le_of_ble_eq_true rfl)) dX8_clear_4 ⟨Nat.le_refl _, Nat.le_refl _⟩) hP hD hS hA [32, 33] rfl (fun H locs hn1 hP hS => ?_)
  refine lv_istore_n (lv' := [(1, .int (f7_length v_text_length)), (0, .ref (h 0))]) hx hb dX8_clear_7 rfl hl (by decide) rfl (fun ls hl => ?_)
  refine lv_aload_n hx hb dX8_clear_8 rfl (lv_at hl 1 rfl) ?_
  refine va_get (D := D) (cl := vwCl) (ci := 5) (v := .ref (h 32)) (C := RX8) (T := TX8) (N := 9) hx hb hts hin8 hown hK hP 0 rfl rfl 5 (by decide) (hts (.fieldLink RX8 43 "StepOrders" "text" "LStepOrders$Text;") (by decide +kernel)) (fun _ h9 => h9) rfl dX8_clear_9 ?_
  refine kb_bind hf (fun q2 hq2 hf => ?_)
  have hPc : va_P D vwCl (wdT cB h 32 v_text_bytes v_text_length v_text_place v_text_thread v_text_kind v_text_target v_text_value) H := hP.sub [32, 33] rfl
  have hDc : va_D A (wdT cB h 32 v_text_bytes v_text_length v_text_place v_text_thread v_text_kind v_text_target v_text_value) := hD.sub [32, 33] (by decide) rfl
  refine kd_vW (ws' := wdO cB cI cZ cO h v_now v_tried v_past_kept v_past_oldest v_past_size v_all_threads v_all_rows v_all_ended v_all_known v_all_stepsInAll v_all_count v_all_standstills v_all_wrongOnes v_all_unlikeEnds v_meetings_reached v_text_bytes q2 v_text_place v_text_thread v_text_kind v_text_target v_text_value v_refusedBad v_refusedNo v_refusedFull) (va_runV (As := []) (rest := []) ⟨hx, hb, hml, hown, hts⟩ (c7_empty l D cB cI cZ cO h 32 H.size v_text_bytes v_text_length v_text_place v_text_thread v_text_kind v_text_target v_text_value q2 hq2) (cwV 0 hts gX8_clear_X7_empty rfl rfl rfl (by decide +kernel) ⟨Nat.le_of_ble_eq_true rfl, Nat.le_of_ble_eq_true rfl⟩) ⟨kb_blind, va_recv hK hPc (ci := 4) (q0 := 0) rfl rfl, kb_pre hPc hDc hK hN⟩ rfl rfl hl.1 rfl (lv_room (Nat.le_of_ble_eq_true rfl)) dX8_clear_12 ⟨Nat.le_refl _, Nat.le_refl _⟩) hP hD hS hA [32, 33] [0, 1, 2, 3, 4, 5, 6, 7, 8, 9, 10, 11, 12, 13, 14, 15, 16, 17, 18, 19, 20, 21, 22, 23, 24, 25, 26, 27, 28, 29, 30, 31] rfl rfl (List.forall_mem_cons.mpr ⟨rfl, (List.forall_mem_cons.mpr ⟨rfl, (List.forall_mem_cons.mpr ⟨rfl, (List.forall_mem_cons.mpr ⟨rfl, (List.forall_mem_cons.mpr ⟨rfl, (List.forall_mem_cons.mpr ⟨rfl, (List.forall_mem_cons.mpr ⟨rfl, (List.forall_mem_cons.mpr ⟨rfl, (List.forall_mem_cons.mpr ⟨rfl, (List.forall_mem_cons.mpr ⟨rfl, (List.forall_mem_cons.mpr ⟨rfl, (List.forall_mem_cons.mpr ⟨rfl, (List.forall_mem_cons.mpr ⟨rfl, (List.forall_mem_cons.mpr ⟨rfl, (List.forall_mem_cons.mpr ⟨rfl, (List.forall_mem_cons.mpr ⟨rfl, (List.forall_mem_cons.mpr ⟨rfl, (List.forall_mem_cons.mpr ⟨rfl, (List.forall_mem_cons.mpr ⟨rfl, (List.forall_mem_cons.mpr ⟨rfl, (List.forall_mem_cons.mpr ⟨rfl, (List.forall_mem_cons.mpr ⟨rfl, (List.forall_mem_cons.mpr ⟨rfl, (List.forall_mem_cons.mpr ⟨rfl, (List.forall_mem_cons.mpr ⟨rfl, (List.forall_mem_cons.mpr ⟨rfl, (List.forall_mem_cons.mpr ⟨rfl, (List.forall_mem_cons.mpr ⟨rfl, (List.forall_mem_cons.mpr ⟨rfl, (List.forall_mem_cons.mpr ⟨rfl, (List.forall_mem_cons.mpr ⟨rfl, (List.forall_mem_cons.mpr ⟨rfl, (fun _ h9 => absurd h9 List.not_mem_nil)⟩)⟩)⟩)⟩)⟩)⟩)⟩)⟩)⟩)⟩)⟩)⟩)⟩)⟩)⟩)⟩)⟩)⟩)⟩)⟩)⟩)⟩)⟩)⟩)⟩)⟩)⟩)⟩)⟩)⟩)⟩)⟩) rfl rfl (fun H locs hP hD hS => ?_)
  refine lv_iload_n hx hb dX8_clear_15 rfl (lv_at hl 0 rfl) ?_
  obtain ⟨z1, y1⟩ := Prod.mk.inj (Option.some.inj hf)
  subst z1 y1
  exact hend _ _ _ _ rfl hP hS dX8_clear_16

set_option maxHeartbeats 4000000 in
set_option maxRecDepth 100000 in
theorem c8_reads (l : Launch) (D : va_G) (cB cI cZ cO : ClassId) (h : Nat → Nat) (sz : Nat) (v_now : sT) (v_tried : sT) (v_past_kept : Nat → sT) (v_past_oldest : Int32) (v_past_size : Int32) (v_all_threads : sT) (v_all_rows : Nat → Int32) (v_all_ended : Nat → Int32) (v_all_known : Int32) (v_all_stepsInAll : Int32) (v_all_count : Int32) (v_all_standstills : Int32) (v_all_wrongOnes : Int32) (v_all_unlikeEnds : Int32) (v_meetings_reached : Nat → Int32) (v_text_bytes : Nat → Int32) (v_text_length : Int32) (v_text_place : Int32) (v_text_thread : Int32) (v_text_kind : Int32) (v_text_target : Int32) (v_text_value : Int32) (v_refusedBad : Int32) (v_refusedNo : Int32) (v_refusedFull : Int32) (r0 : Int32) (v_now' : sT) (v_tried' : sT) (v_past_kept' : Nat → sT) (v_past_oldest' : Int32) (v_past_size' : Int32) (v_text_place' : Int32) (v_text_thread' : Int32) (v_text_kind' : Int32) (v_text_target' : Int32) (v_text_value' : Int32) (hf : f8_reads v_now v_tried v_past_kept v_past_oldest v_past_size v_text_bytes v_text_length v_text_place v_text_thread v_text_kind v_text_target v_text_value = some (r0, v_now', v_tried', v_past_kept', v_past_oldest', v_past_size', v_text_place', v_text_thread', v_text_kind', v_text_target', v_text_value')) : Met l yX8_reads wsX8_reads rm8_reads (va_Pc [.ref (h 0)] (kb_B D (ka_tys cB cI cZ cO) sz (wdO cB cI cZ cO h v_now v_tried v_past_kept v_past_oldest v_past_size v_all_threads v_all_rows v_all_ended v_all_known v_all_stepsInAll v_all_count v_all_standstills v_all_wrongOnes v_all_unlikeEnds v_meetings_reached v_text_bytes v_text_length v_text_place v_text_thread v_text_kind v_text_target v_text_value v_refusedBad v_refusedNo v_refusedFull))) (va_Qi (kb_post .int r0) (fun _ t => va_P D vwCl (wdO cB cI cZ cO h (v_now') (v_tried') (v_past_kept') (v_past_oldest') (v_past_size') v_all_threads v_all_rows v_all_ended v_all_known v_all_stepsInAll v_all_count v_all_standstills v_all_wrongOnes v_all_unlikeEnds v_meetings_reached v_text_bytes v_text_length (v_text_place') (v_text_thread') (v_text_kind') (v_text_target') (v_text_value') v_refusedBad v_refusedNo v_refusedFull) t.heap) (va_A (wdO cB cI cZ cO h v_now v_tried v_past_kept v_past_oldest v_past_size v_all_threads v_all_rows v_all_ended v_all_known v_all_stepsInAll v_all_count v_all_standstills v_all_wrongOnes v_all_unlikeEnds v_meetings_reached v_text_bytes v_text_length v_text_place v_text_thread v_text_kind v_text_target v_text_value v_refusedBad v_refusedNo v_refusedFull) sz)) 0 0 (va_A (wdO cB cI cZ cO h v_now v_tried v_past_kept v_past_oldest v_past_size v_all_threads v_all_rows v_all_ended v_all_known v_all_stepsInAll v_all_count v_all_standstills v_all_wrongOnes v_all_unlikeEnds v_meetings_reached v_text_bytes v_text_length v_text_place v_text_thread v_text_kind v_text_target v_text_value v_refusedBad v_refusedNo v_refusedFull) sz) := by
  refine kb_metZ (cc := cX8_reads) (maxL := 3) (ty := .int) (by decide) rfl (Nat.le_of_ble_eq_true rfl) ?_
  intro p e s m args below meth c Q A ls H hx hb hml hown hts hK hN hP hD hS hA hl hend
  have hown : s.vm.findClass RX8 = some m.cls := hown
  have hl : lv_has ls 3 [(0, .ref (h 0))] := hl
  have hin8 : ∀ w ∈ u_ws RX8 TX8 9, w ∈ wsX8_reads := by decide +kernel
  rw [f8_reads] at hf
  refine lv_aload_n hx hb dX8_reads_0 rfl (lv_at hl 0 rfl) ?_
  refine va_get (D := D) (cl := vwCl) (ci := 5) (v := .ref (h 4)) (C := RX8) (T := TX8) (N := 9) hx hb hts hin8 hown hK hP 0 rfl rfl 1 (by decide) (hts (.fieldLink RX8 16 "StepOrders" "tried" "LStepOrders$State;") (by decide +kernel)) (fun _ h9 => h9) rfl dX8_reads_1 ?_
  refine lv_aload_n hx hb dX8_reads_4 rfl (lv_at hl 0 rfl) ?_
  refine va_get (D := D) (cl := vwCl) (ci := 5) (v := .ref (h 1)) (C := RX8) (T := TX8) (N := 9) hx hb hts hin8 hown hK hP 0 rfl rfl 0 (by decide) (hts (.fieldLink RX8 12 "StepOrders" "now" "LStepOrders$State;") (by decide +kernel)) (fun _ h9 => h9) rfl dX8_reads_5 ?_
  refine kb_bind hf (fun q1 hq1 hf => ?_)
  have hPc : va_P D vwCl (wdS cI h 4 v_tried ++ wdS cI h 1 v_now) H := hP.sub [4, 5, 6, 1, 2, 3] rfl
  have hDc : va_D A (wdS cI h 4 v_tried ++ wdS cI h 1 v_now) := hD.sub [4, 5, 6, 1, 2, 3] (by decide) rfl
  refine kd_vW (ws' := wdO cB cI cZ cO h v_now q1 v_past_kept v_past_oldest v_past_size v_all_threads v_all_rows v_all_ended v_all_known v_all_stepsInAll v_all_count v_all_standstills v_all_wrongOnes v_all_unlikeEnds v_meetings_reached v_text_bytes v_text_length v_text_place v_text_thread v_text_kind v_text_target v_text_value v_refusedBad v_refusedNo v_refusedFull) (va_runV (As := [.ref (h 1)]) (rest := []) ⟨hx, hb, hml, hown, hts⟩ (c5_takeFrom l D cB cI cZ cO h 4 1 H.size v_tried v_now q1 hq1) (cwV 1 hts gX8_reads_X5_takeFrom rfl rfl rfl (by decide +kernel) ⟨Nat.le_of_ble_eq_true rfl, Nat.le_of_ble_eq_true rfl⟩) ⟨kb_blind, va_recv hK hPc (ci := 3) (q0 := 0) rfl rfl, kb_pre hPc hDc hK hN⟩ rfl rfl hl.1 rfl (lv_room (Nat.le_of_ble_eq_true rfl)) dX8_reads_8 ⟨Nat.le_refl _, Nat.le_refl _⟩) hP hD hS hA [4, 5, 6, 1, 2, 3] [0, 7, 8, 9, 10, 11, 12, 13, 14, 15, 16, 17, 18, 19, 20, 21, 22, 23, 24, 25, 26, 27, 28, 29, 30, 31, 32, 33] rfl rfl (List.forall_mem_cons.mpr ⟨rfl, (List.forall_mem_cons.mpr ⟨rfl, (List.forall_mem_cons.mpr ⟨rfl, (List.forall_mem_cons.mpr ⟨rfl, (List.forall_mem_cons.mpr ⟨rfl, (List.forall_mem_cons.mpr ⟨rfl, (List.forall_mem_cons.mpr ⟨rfl, (List.forall_mem_cons.mpr ⟨rfl, (List.forall_mem_cons.mpr ⟨rfl, (List.forall_mem_cons.mpr ⟨rfl, (List.forall_mem_cons.mpr ⟨rfl, (List.forall_mem_cons.mpr ⟨rfl, (List.forall_mem_cons.mpr ⟨rfl, (List.forall_mem_cons.mpr ⟨rfl, (List.forall_mem_cons.mpr ⟨rfl, (List.forall_mem_cons.mpr ⟨rfl, (List.forall_mem_cons.mpr ⟨rfl, (List.forall_mem_cons.mpr ⟨rfl, (List.forall_mem_cons.mpr ⟨rfl, (List.forall_mem_cons.mpr ⟨rfl, (List.forall_mem_cons.mpr ⟨rfl, (List.forall_mem_cons.mpr ⟨rfl, (List.forall_mem_cons.mpr ⟨rfl, (List.forall_mem_cons.mpr ⟨rfl, (List.forall_mem_cons.mpr ⟨rfl, (List.forall_mem_cons.mpr ⟨rfl, (List.forall_mem_cons.mpr ⟨rfl, (List.forall_mem_cons.mpr ⟨rfl, (fun _ h9 => absurd h9 List.not_mem_nil)⟩)⟩)⟩)⟩)⟩)⟩)⟩)⟩)⟩)⟩)⟩)⟩)⟩)⟩)⟩)⟩)⟩)⟩)⟩)⟩)⟩)⟩)⟩)⟩)⟩)⟩)⟩)⟩) rfl rfl (fun H locs hP hD hS => ?_)
  refine lv_aload_n hx hb dX8_reads_11 rfl (lv_at hl 0 rfl) ?_
  refine va_get (D := D) (cl := vwCl) (ci := 5) (v := .ref (h 32)) (C := RX8) (T := TX8) (N := 9) hx hb hts hin8 hown hK hP 0 rfl rfl 5 (by decide) (hts (.fieldLink RX8 43 "StepOrders" "text" "LStepOrders$Text;") (by decide +kernel)) (fun _ h9 => h9) rfl dX8_reads_12 ?_
  refine lv_aload_n hx hb dX8_reads_15 rfl (lv_at hl 0 rfl) ?_
  refine va_get (D := D) (cl := vwCl) (ci := 5) (v := .ref (h 4)) (C := RX8) (T := TX8) (N := 9) hx hb hts hin8 hown hK hP 0 rfl rfl 1 (by decide) (hts (.fieldLink RX8 16 "StepOrders" "tried" "LStepOrders$State;") (by decide +kernel)) (fun _ h9 => h9) rfl dX8_reads_16 ?_
  refine kb_bind hf (fun q2 hq2 hf => ?_)
  have hPc : va_P D vwCl (wdT cB h 32 v_text_bytes v_text_length v_text_place v_text_thread v_text_kind v_text_target v_text_value ++ wdS cI h 4 q1) H := hP.sub [32, 33, 4, 5, 6] rfl
  have hDc : va_D A (wdT cB h 32 v_text_bytes v_text_length v_text_place v_text_thread v_text_kind v_text_target v_text_value ++ wdS cI h 4 q1) := hD.sub [32, 33, 4, 5, 6] (by decide) rfl
  refine kd_iW (ws' := wdO cB cI cZ cO h v_now q2.2.2.2.2.2.2 v_past_kept v_past_oldest v_past_size v_all_threads v_all_rows v_all_ended v_all_known v_all_stepsInAll v_all_count v_all_standstills v_all_wrongOnes v_all_unlikeEnds v_meetings_reached v_text_bytes v_text_length q2.2.1 q2.2.2.1 q2.2.2.2.1 q2.2.2.2.2.1 q2.2.2.2.2.2.1 v_refusedBad v_refusedNo v_refusedFull) (va_runV (As := [.ref (h 4)]) (rest := []) ⟨hx, hb, hml, hown, hts⟩ (c7_readInto l D cB cI cZ cO h 32 4 H.size v_text_bytes v_text_length v_text_place v_text_thread v_text_kind v_text_target v_text_value q1 q2.1 q2.2.1 q2.2.2.1 q2.2.2.2.1 q2.2.2.2.2.1 q2.2.2.2.2.2.1 q2.2.2.2.2.2.2 hq2) (cwV 1 hts gX8_reads_X7_readInto rfl rfl rfl (by decide +kernel) ⟨Nat.le_of_ble_eq_true rfl, Nat.le_of_ble_eq_true rfl⟩) ⟨kb_blind, va_recv hK hPc (ci := 4) (q0 := 0) rfl rfl, kb_pre hPc hDc hK hN⟩ rfl rfl hl.1 rfl (lv_room (Nat.le_of_ble_eq_true rfl)) dX8_reads_19 ⟨Nat.le_refl _, Nat.le_refl _⟩) hP hD hS hA [32, 33, 4, 5, 6] [0, 1, 2, 3, 7, 8, 9, 10, 11, 12, 13, 14, 15, 16, 17, 18, 19, 20, 21, 22, 23, 24, 25, 26, 27, 28, 29, 30, 31] rfl rfl (List.forall_mem_cons.mpr ⟨rfl, (List.forall_mem_cons.mpr ⟨rfl, (List.forall_mem_cons.mpr ⟨rfl, (List.forall_mem_cons.mpr ⟨rfl, (List.forall_mem_cons.mpr ⟨rfl, (List.forall_mem_cons.mpr ⟨rfl, (List.forall_mem_cons.mpr ⟨rfl, (List.forall_mem_cons.mpr ⟨rfl, (List.forall_mem_cons.mpr ⟨rfl, (List.forall_mem_cons.mpr ⟨rfl, (List.forall_mem_cons.mpr ⟨rfl, (List.forall_mem_cons.mpr ⟨rfl, (List.forall_mem_cons.mpr ⟨rfl, (List.forall_mem_cons.mpr ⟨rfl, (List.forall_mem_cons.mpr ⟨rfl, (List.forall_mem_cons.mpr ⟨rfl, (List.forall_mem_cons.mpr ⟨rfl, (List.forall_mem_cons.mpr ⟨rfl, (List.forall_mem_cons.mpr ⟨rfl, (List.forall_mem_cons.mpr ⟨rfl, (List.forall_mem_cons.mpr ⟨rfl, (List.forall_mem_cons.mpr ⟨rfl, (List.forall_mem_cons.mpr ⟨rfl, (List.forall_mem_cons.mpr ⟨rfl, (List.forall_mem_cons.mpr ⟨rfl, (List.forall_mem_cons.mpr ⟨rfl, (List.forall_mem_cons.mpr ⟨rfl, (List.forall_mem_cons.mpr ⟨rfl, (List.forall_mem_cons.mpr ⟨rfl, (fun _ h9 => absurd h9 List.not_mem_nil)⟩)⟩)⟩)⟩)⟩)⟩)⟩)⟩)⟩)⟩)⟩)⟩)⟩)⟩)⟩)⟩)⟩)⟩)⟩)⟩)⟩)⟩)⟩)⟩)⟩)⟩)⟩)⟩)⟩) rfl rfl (fun H locs hn3 hP hD hS => ?_)
  refine lv_istore_n (lv' := [(1, .int q2.1), (0, .ref (h 0))]) hx hb dX8_reads_22 rfl hl (by decide) rfl (fun ls hl => ?_)
  refine lv_iload_n hx hb dX8_reads_23 rfl (lv_at hl 0 rfl) ?_
  refine lv_iconst (v := (-1)) hx hb dX8_reads_24 (by decide) ?_
  refine lv_icmp_eq (tgt := 33) hx hb dX8_reads_25 (by decide) (fun c4 => ?_) (fun c4 => ?_)
  · rw [if_pos c4] at hf
    refine lv_aload_n hx hb dX8_reads_33 rfl (lv_at hl 1 rfl) ?_
    refine va_get (D := D) (cl := vwCl) (ci := 5) (v := .ref (h 7)) (C := RX8) (T := TX8) (N := 9) hx hb hts hin8 hown hK hP 0 rfl rfl 2 (by decide) (hts (.fieldLink RX8 22 "StepOrders" "past" "LStepOrders$Past;") (by decide +kernel)) (fun _ h9 => h9) rfl dX8_reads_34 ?_
    refine lv_aload_n hx hb dX8_reads_37 rfl (lv_at hl 1 rfl) ?_
    refine va_get (D := D) (cl := vwCl) (ci := 5) (v := .ref (h 1)) (C := RX8) (T := TX8) (N := 9) hx hb hts hin8 hown hK hP 0 rfl rfl 0 (by decide) (hts (.fieldLink RX8 12 "StepOrders" "now" "LStepOrders$State;") (by decide +kernel)) (fun _ h9 => h9) rfl dX8_reads_38 ?_
    refine kb_bind hf (fun q5 hq5 hf => ?_)
    have hPc : va_P D vwCl (wdP cI cO h 7 v_past_kept v_past_oldest v_past_size ++ wdS cI h 1 v_now) H := hP.sub [7, 8, 9, 10, 11, 12, 13, 14, 15, 16, 17, 18, 19, 20, 21, 22, 23, 1, 2, 3] rfl
    have hDc : va_D A (wdP cI cO h 7 v_past_kept v_past_oldest v_past_size ++ wdS cI h 1 v_now) := hD.sub [7, 8, 9, 10, 11, 12, 13, 14, 15, 16, 17, 18, 19, 20, 21, 22, 23, 1, 2, 3] (by decide) rfl
    refine kd_vW (ws' := wdO cB cI cZ cO h v_now q2.2.2.2.2.2.2 q5.1 q5.2.1 q5.2.2 v_all_threads v_all_rows v_all_ended v_all_known v_all_stepsInAll v_all_count v_all_standstills v_all_wrongOnes v_all_unlikeEnds v_meetings_reached v_text_bytes v_text_length q2.2.1 q2.2.2.1 q2.2.2.2.1 q2.2.2.2.2.1 q2.2.2.2.2.2.1 v_refusedBad v_refusedNo v_refusedFull) (va_runV (As := [.ref (h 1)]) (rest := []) ⟨hx, hb, hml, hown, hts⟩ (c3_keep l D cB cI cZ cO h 7 1 H.size v_past_kept v_past_oldest v_past_size v_now q5.1 q5.2.1 q5.2.2 hq5) (cwV 1 hts gX8_reads_X3_keep rfl rfl rfl (by decide +kernel) ⟨Nat.le_of_ble_eq_true rfl, Nat.le_of_ble_eq_true rfl⟩) ⟨kb_blind, va_recv hK hPc (ci := 2) (q0 := 0) rfl rfl, kb_pre hPc hDc hK hN⟩ rfl rfl hl.1 rfl (lv_room (Nat.le_of_ble_eq_true rfl)) dX8_reads_41 ⟨Nat.le_refl _, Nat.le_refl _⟩) hP hD hS hA [7, 8, 9, 10, 11, 12, 13, 14, 15, 16, 17, 18, 19, 20, 21, 22, 23, 1, 2, 3] [0, 4, 5, 6, 24, 25, 26, 27, 28, 29, 30, 31, 32, 33] rfl rfl (List.forall_mem_cons.mpr ⟨rfl, (List.forall_mem_cons.mpr ⟨rfl, (List.forall_mem_cons.mpr ⟨rfl, (List.forall_mem_cons.mpr ⟨rfl, (List.forall_mem_cons.mpr ⟨rfl, (List.forall_mem_cons.mpr ⟨rfl, (List.forall_mem_cons.mpr ⟨rfl, (List.forall_mem_cons.mpr ⟨rfl, (List.forall_mem_cons.mpr ⟨rfl, (List.forall_mem_cons.mpr ⟨rfl, (List.forall_mem_cons.mpr ⟨rfl, (List.forall_mem_cons.mpr ⟨rfl, (List.forall_mem_cons.mpr ⟨rfl, (List.forall_mem_cons.mpr ⟨rfl, (fun _ h9 => absurd h9 List.not_mem_nil)⟩)⟩)⟩)⟩)⟩)⟩)⟩)⟩)⟩)⟩)⟩)⟩)⟩)⟩) rfl rfl (fun H locs hP hD hS => ?_)
    refine lv_aload_n hx hb dX8_reads_44 rfl (lv_at hl 1 rfl) ?_
    refine va_get (D := D) (cl := vwCl) (ci := 5) (v := .ref (h 4)) (C := RX8) (T := TX8) (N := 9) hx hb hts hin8 hown hK hP 0 rfl rfl 1 (by decide) (hts (.fieldLink RX8 16 "StepOrders" "tried" "LStepOrders$State;") (by decide +kernel)) (fun _ h9 => h9) rfl dX8_reads_45 ?_
    refine kb_bind hf (fun q6 hq6 hf => ?_)
    have hPc : va_P D vwCl (wdS cI h 4 q2.2.2.2.2.2.2) H := hP.sub [4, 5, 6] rfl
    have hDc : va_D A (wdS cI h 4 q2.2.2.2.2.2.2) := hD.sub [4, 5, 6] (by decide) rfl
    refine kd_iR (va_runV (As := []) (rest := []) ⟨hx, hb, hml, hown, hts⟩ (c5_stepsInAll l D cB cI cZ cO h 4 H.size q2.2.2.2.2.2.2 q6 hq6) (cwV 0 hts gX8_reads_X5_stepsInAll rfl rfl rfl (by decide +kernel) ⟨Nat.le_of_ble_eq_true rfl, Nat.le_of_ble_eq_true rfl⟩) ⟨kb_blind, va_recv hK hPc (ci := 3) (q0 := 0) rfl rfl, kb_pre hPc hDc hK hN⟩ rfl rfl hl.1 rfl (lv_room (Nat.le_of_ble_eq_true rfl)) dX8_reads_48 ⟨Nat.le_refl _, Nat.le_refl _⟩) hP hD hS hA [4, 5, 6] rfl (fun H locs hn7 hP hS => ?_)
    refine lv_aload_n hx hb dX8_reads_51 rfl (lv_at hl 1 rfl) ?_
    refine va_get (D := D) (cl := vwCl) (ci := 5) (v := .ref (h 1)) (C := RX8) (T := TX8) (N := 9) hx hb hts hin8 hown hK hP 0 rfl rfl 0 (by decide) (hts (.fieldLink RX8 12 "StepOrders" "now" "LStepOrders$State;") (by decide +kernel)) (fun _ h9 => h9) rfl dX8_reads_52 ?_
    refine kb_bind hf (fun q8 hq8 hf => ?_)
    have hPc : va_P D vwCl (wdS cI h 1 v_now) H := hP.sub [1, 2, 3] rfl
    have hDc : va_D A (wdS cI h 1 v_now) := hD.sub [1, 2, 3] (by decide) rfl
    refine kd_iR (va_runV (As := []) (rest := [.int q6]) ⟨hx, hb, hml, hown, hts⟩ (c5_stepsInAll l D cB cI cZ cO h 1 H.size v_now q8 hq8) (cwV 0 hts gX8_reads_X5_stepsInAll rfl rfl rfl (by decide +kernel) ⟨Nat.le_of_ble_eq_true rfl, Nat.le_of_ble_eq_true rfl⟩) ⟨kb_blind, va_recv hK hPc (ci := 3) (q0 := 0) rfl rfl, kb_pre hPc hDc hK hN⟩ rfl rfl hl.1 rfl (lv_room (Nat.le_of_ble_eq_true rfl)) dX8_reads_55 ⟨Nat.le_refl _, Nat.le_refl _⟩) hP hD hS hA [1, 2, 3] rfl (fun H locs hn9 hP hS => ?_)
    refine lv_isub hx hb dX8_reads_58 ?_
    refine lv_istore_n (lv' := [(2, .int (q6 - q8)), (1, .int q2.1), (0, .ref (h 0))]) hx hb dX8_reads_59 rfl hl (by decide) rfl (fun ls hl => ?_)
    refine lv_aload_n hx hb dX8_reads_60 rfl (lv_at hl 2 rfl) ?_
    refine va_get (D := D) (cl := vwCl) (ci := 5) (v := .ref (h 1)) (C := RX8) (T := TX8) (N := 9) hx hb hts hin8 hown hK hP 0 rfl rfl 0 (by decide) (hts (.fieldLink RX8 12 "StepOrders" "now" "LStepOrders$State;") (by decide +kernel)) (fun _ h9 => h9) rfl dX8_reads_61 ?_
    refine lv_aload_n hx hb dX8_reads_64 rfl (lv_at hl 2 rfl) ?_
    refine va_get (D := D) (cl := vwCl) (ci := 5) (v := .ref (h 4)) (C := RX8) (T := TX8) (N := 9) hx hb hts hin8 hown hK hP 0 rfl rfl 1 (by decide) (hts (.fieldLink RX8 16 "StepOrders" "tried" "LStepOrders$State;") (by decide +kernel)) (fun _ h9 => h9) rfl dX8_reads_65 ?_
    refine kb_bind hf (fun q10 hq10 hf => ?_)
    have hPc : va_P D vwCl (wdS cI h 1 v_now ++ wdS cI h 4 q2.2.2.2.2.2.2) H := hP.sub [1, 2, 3, 4, 5, 6] rfl
    have hDc : va_D A (wdS cI h 1 v_now ++ wdS cI h 4 q2.2.2.2.2.2.2) := hD.sub [1, 2, 3, 4, 5, 6] (by decide) rfl
    refine kd_vW (ws' := wdO cB cI cZ cO h q10 q2.2.2.2.2.2.2 q5.1 q5.2.1 q5.2.2 v_all_threads v_all_rows v_all_ended v_all_known v_all_stepsInAll v_all_count v_all_standstills v_all_wrongOnes v_all_unlikeEnds v_meetings_reached v_text_bytes v_text_length q2.2.1 q2.2.2.1 q2.2.2.2.1 q2.2.2.2.2.1 q2.2.2.2.2.2.1 v_refusedBad v_refusedNo v_refusedFull) (va_runV (As := [.ref (h 4)]) (rest := []) ⟨hx, hb, hml, hown, hts⟩ (c5_takeFrom l D cB cI cZ cO h 1 4 H.size v_now q2.2.2.2.2.2.2 q10 hq10) (cwV 1 hts gX8_reads_X5_takeFrom rfl rfl rfl (by decide +kernel) ⟨Nat.le_of_ble_eq_true rfl, Nat.le_of_ble_eq_true rfl⟩) ⟨kb_blind, va_recv hK hPc (ci := 3) (q0 := 0) rfl rfl, kb_pre hPc hDc hK hN⟩ rfl rfl hl.1 rfl (lv_room (Nat.le_of_ble_eq_true rfl)) dX8_reads_68 ⟨Nat.le_refl _, Nat.le_refl _⟩) hP hD hS hA [1, 2, 3, 4, 5, 6] [0, 7, 8, 9, 10, 11, 12, 13, 14, 15, 16, 17, 18, 19, 20, 21, 22, 23, 24, 25, 26, 27, 28, 29, 30, 31, 32, 33] rfl rfl (List.forall_mem_cons.mpr ⟨rfl, (List.forall_mem_cons.mpr ⟨rfl, (List.forall_mem_cons.mpr ⟨rfl, (List.forall_mem_cons.mpr ⟨rfl, (List.forall_mem_cons.mpr ⟨rfl, (List.forall_mem_cons.mpr ⟨rfl, (List.forall_mem_cons.mpr ⟨rfl, (List.forall_mem_cons.mpr ⟨rfl, (List.forall_mem_cons.mpr ⟨rfl, (List.forall_mem_cons.mpr ⟨rfl, (List.forall_mem_cons.mpr ⟨rfl, (List.forall_mem_cons.mpr ⟨rfl, (List.forall_mem_cons.mpr ⟨rfl, (List.forall_mem_cons.mpr ⟨rfl, (List.forall_mem_cons.mpr ⟨rfl, (List.forall_mem_cons.mpr ⟨rfl, (List.forall_mem_cons.mpr ⟨rfl, (List.forall_mem_cons.mpr ⟨rfl, (List.forall_mem_cons.mpr ⟨rfl, (List.forall_mem_cons.mpr ⟨rfl, (List.forall_mem_cons.mpr ⟨rfl, (List.forall_mem_cons.mpr ⟨rfl, (List.forall_mem_cons.mpr ⟨rfl, (List.forall_mem_cons.mpr ⟨rfl, (List.forall_mem_cons.mpr ⟨rfl, (List.forall_mem_cons.mpr ⟨rfl, (List.forall_mem_cons.mpr ⟨rfl, (List.forall_mem_cons.mpr ⟨rfl, (fun _ h9 => absurd h9 List.not_mem_nil)⟩)⟩)⟩)⟩)⟩)⟩)⟩)⟩)⟩)⟩)⟩)⟩)⟩)⟩)⟩)⟩)⟩)⟩)⟩)⟩)⟩)⟩)⟩)⟩)⟩)⟩)⟩)⟩) rfl rfl (fun H locs hP hD hS => ?_)
    refine lv_iload_n hx hb dX8_reads_71 rfl (lv_at hl 0 rfl) ?_
    obtain ⟨z1, y1⟩ := Prod.mk.inj (Option.some.inj hf)
    obtain ⟨z2, y2⟩ := Prod.mk.inj y1
    obtain ⟨z3, y3⟩ := Prod.mk.inj y2
    obtain ⟨z4, y4⟩ := Prod.mk.inj y3
    obtain ⟨z5, y5⟩ := Prod.mk.inj y4
    obtain ⟨z6, y6⟩ := Prod.mk.inj y5
    obtain ⟨z7, y7⟩ := Prod.mk.inj y6
    obtain ⟨z8, y8⟩ := Prod.mk.inj y7
    obtain ⟨z9, y9⟩ := Prod.mk.inj y8
    obtain ⟨z10, y10⟩ := Prod.mk.inj y9
    subst z1 z2 z3 z4 z5 z6 z7 z8 z9 z10 y10
    exact hend _ _ _ _ rfl hP hS dX8_reads_72
  · rw [if_neg c4] at hf
    refine lv_bipush (v := (-10)) hx hb dX8_reads_28 (by decide) ?_
    refine lv_iload_n hx hb dX8_reads_30 rfl (lv_at hl 0 rfl) ?_
    refine lv_isub hx hb dX8_reads_31 ?_
    obtain ⟨z1, y1⟩ := Prod.mk.inj (Option.some.inj hf)
    obtain ⟨z2, y2⟩ := Prod.mk.inj y1
    obtain ⟨z3, y3⟩ := Prod.mk.inj y2
    obtain ⟨z4, y4⟩ := Prod.mk.inj y3
    obtain ⟨z5, y5⟩ := Prod.mk.inj y4
    obtain ⟨z6, y6⟩ := Prod.mk.inj y5
    obtain ⟨z7, y7⟩ := Prod.mk.inj y6
    obtain ⟨z8, y8⟩ := Prod.mk.inj y7
    obtain ⟨z9, y9⟩ := Prod.mk.inj y8
    obtain ⟨z10, y10⟩ := Prod.mk.inj y9
    subst z1 z2 z3 z4 z5 z6 z7 z8 z9 z10 y10
    exact hend _ _ _ _ rfl hP hS dX8_reads_32

set_option maxHeartbeats 4000000 in
set_option maxRecDepth 100000 in
theorem c8_back (l : Launch) (D : va_G) (cB cI cZ cO : ClassId) (h : Nat → Nat) (sz : Nat) (v_now : sT) (v_tried : sT) (v_past_kept : Nat → sT) (v_past_oldest : Int32) (v_past_size : Int32) (v_all_threads : sT) (v_all_rows : Nat → Int32) (v_all_ended : Nat → Int32) (v_all_known : Int32) (v_all_stepsInAll : Int32) (v_all_count : Int32) (v_all_standstills : Int32) (v_all_wrongOnes : Int32) (v_all_unlikeEnds : Int32) (v_meetings_reached : Nat → Int32) (v_text_bytes : Nat → Int32) (v_text_length : Int32) (v_text_place : Int32) (v_text_thread : Int32) (v_text_kind : Int32) (v_text_target : Int32) (v_text_value : Int32) (v_refusedBad : Int32) (v_refusedNo : Int32) (v_refusedFull : Int32) (r0 : Int32) (v_now' : sT) (v_past_size' : Int32) (v_refusedBad' : Int32) (v_refusedNo' : Int32) (v_refusedFull' : Int32) (hf : f8_back v_now v_past_kept v_past_oldest v_past_size v_refusedBad v_refusedNo v_refusedFull = some (r0, v_now', v_past_size', v_refusedBad', v_refusedNo', v_refusedFull')) : Met l yX8_back wsX8_back rm8_back (va_Pc [.ref (h 0)] (kb_B D (ka_tys cB cI cZ cO) sz (wdO cB cI cZ cO h v_now v_tried v_past_kept v_past_oldest v_past_size v_all_threads v_all_rows v_all_ended v_all_known v_all_stepsInAll v_all_count v_all_standstills v_all_wrongOnes v_all_unlikeEnds v_meetings_reached v_text_bytes v_text_length v_text_place v_text_thread v_text_kind v_text_target v_text_value v_refusedBad v_refusedNo v_refusedFull))) (va_Qi (kb_post .int r0) (fun _ t => va_P D vwCl (wdO cB cI cZ cO h (v_now') v_tried v_past_kept v_past_oldest (v_past_size') v_all_threads v_all_rows v_all_ended v_all_known v_all_stepsInAll v_all_count v_all_standstills v_all_wrongOnes v_all_unlikeEnds v_meetings_reached v_text_bytes v_text_length v_text_place v_text_thread v_text_kind v_text_target v_text_value (v_refusedBad') (v_refusedNo') (v_refusedFull')) t.heap) (va_A (wdO cB cI cZ cO h v_now v_tried v_past_kept v_past_oldest v_past_size v_all_threads v_all_rows v_all_ended v_all_known v_all_stepsInAll v_all_count v_all_standstills v_all_wrongOnes v_all_unlikeEnds v_meetings_reached v_text_bytes v_text_length v_text_place v_text_thread v_text_kind v_text_target v_text_value v_refusedBad v_refusedNo v_refusedFull) sz)) 0 0 (va_A (wdO cB cI cZ cO h v_now v_tried v_past_kept v_past_oldest v_past_size v_all_threads v_all_rows v_all_ended v_all_known v_all_stepsInAll v_all_count v_all_standstills v_all_wrongOnes v_all_unlikeEnds v_meetings_reached v_text_bytes v_text_length v_text_place v_text_thread v_text_kind v_text_target v_text_value v_refusedBad v_refusedNo v_refusedFull) sz) := by
  refine kb_metZ (cc := cX8_back) (maxL := 1) (ty := .int) (by decide) rfl (Nat.le_of_ble_eq_true rfl) ?_
  intro p e s m args below meth c Q A ls H hx hb hml hown hts hK hN hP hD hS hA hl hend
  have hown : s.vm.findClass RX8 = some m.cls := hown
  have hl : lv_has ls 1 [(0, .ref (h 0))] := hl
  have hin8 : ∀ w ∈ u_ws RX8 TX8 9, w ∈ wsX8_back := by decide +kernel
  rw [f8_back] at hf
  refine lv_aload_n hx hb dX8_back_0 rfl (lv_at hl 0 rfl) ?_
  refine va_get (D := D) (cl := vwCl) (ci := 5) (v := .ref (h 7)) (C := RX8) (T := TX8) (N := 9) hx hb hts hin8 hown hK hP 0 rfl rfl 2 (by decide) (hts (.fieldLink RX8 22 "StepOrders" "past" "LStepOrders$Past;") (by decide +kernel)) (fun _ h9 => h9) rfl dX8_back_1 ?_
  have hPc : va_P D vwCl (wdP cI cO h 7 v_past_kept v_past_oldest v_past_size) H := hP.sub [7, 8, 9, 10, 11, 12, 13, 14, 15, 16, 17, 18, 19, 20, 21, 22, 23] rfl
  have hDc : va_D A (wdP cI cO h 7 v_past_kept v_past_oldest v_past_size) := hD.sub [7, 8, 9, 10, 11, 12, 13, 14, 15, 16, 17, 18, 19, 20, 21, 22, 23] (by decide) rfl
  refine kd_iR (va_runV (As := []) (rest := []) ⟨hx, hb, hml, hown, hts⟩ (c3_size l D cB cI cZ cO h 7 H.size v_past_kept v_past_oldest v_past_size (f3_size v_past_size) rfl) (cwV 0 hts gX8_back_X3_size rfl rfl rfl (by decide +kernel) ⟨Nat.le_of_ble_eq_true rfl, Nat.le_of_ble_eq_true rfl⟩) ⟨kb_blind, va_recv hK hPc (ci := 2) (q0 := 0) rfl rfl, kb_pre hPc hDc hK hN⟩ rfl rfl hl.1 rfl (lv_room (Nat.le_of_ble_eq_true rfl)) dX8_back_4 ⟨Nat.le_refl _, Nat.le_refl _⟩) hP hD hS hA [7, 8, 9, 10, 11, 12, 13, 14, 15, 16, 17, 18, 19, 20, 21, 22, 23] rfl (fun H locs hn1 hP hS => ?_)
  refine lv_if_ne (tgt := 17) hx hb dX8_back_7 (by decide) (fun c2 => ?_) (fun c2 => ?_)
  · rw [if_neg c2] at hf
    refine lv_aload_n hx hb dX8_back_17 rfl (lv_at hl 0 rfl) ?_
    refine va_get (D := D) (cl := vwCl) (ci := 5) (v := .ref (h 7)) (C := RX8) (T := TX8) (N := 9) hx hb hts hin8 hown hK hP 0 rfl rfl 2 (by decide) (hts (.fieldLink RX8 22 "StepOrders" "past" "LStepOrders$Past;") (by decide +kernel)) (fun _ h9 => h9) rfl dX8_back_18 ?_
    refine lv_aload_n hx hb dX8_back_21 rfl (lv_at hl 0 rfl) ?_
    refine va_get (D := D) (cl := vwCl) (ci := 5) (v := .ref (h 1)) (C := RX8) (T := TX8) (N := 9) hx hb hts hin8 hown hK hP 0 rfl rfl 0 (by decide) (hts (.fieldLink RX8 12 "StepOrders" "now" "LStepOrders$State;") (by decide +kernel)) (fun _ h9 => h9) rfl dX8_back_22 ?_
    refine kb_bind hf (fun q3 hq3 hf => ?_)
    have hPc : va_P D vwCl (wdP cI cO h 7 v_past_kept v_past_oldest v_past_size ++ wdS cI h 1 v_now) H := hP.sub [7, 8, 9, 10, 11, 12, 13, 14, 15, 16, 17, 18, 19, 20, 21, 22, 23, 1, 2, 3] rfl
    have hDc : va_D A (wdP cI cO h 7 v_past_kept v_past_oldest v_past_size ++ wdS cI h 1 v_now) := hD.sub [7, 8, 9, 10, 11, 12, 13, 14, 15, 16, 17, 18, 19, 20, 21, 22, 23, 1, 2, 3] (by decide) rfl
    refine kd_vW (ws' := wdO cB cI cZ cO h q3.2 v_tried v_past_kept v_past_oldest q3.1 v_all_threads v_all_rows v_all_ended v_all_known v_all_stepsInAll v_all_count v_all_standstills v_all_wrongOnes v_all_unlikeEnds v_meetings_reached v_text_bytes v_text_length v_text_place v_text_thread v_text_kind v_text_target v_text_value v_refusedBad v_refusedNo v_refusedFull) (va_runV (As := [.ref (h 1)]) (rest := []) ⟨hx, hb, hml, hown, hts⟩ (c3_bringBack l D cB cI cZ cO h 7 1 H.size v_past_kept v_past_oldest v_past_size v_now q3.1 q3.2 hq3) (cwV 1 hts gX8_back_X3_bringBack rfl rfl rfl (by decide +kernel) ⟨Nat.le_of_ble_eq_true rfl, Nat.le_of_ble_eq_true rfl⟩) ⟨kb_blind, va_recv hK hPc (ci := 2) (q0 := 0) rfl rfl, kb_pre hPc hDc hK hN⟩ rfl rfl hl.1 rfl (lv_room (Nat.le_of_ble_eq_true rfl)) dX8_back_25 ⟨Nat.le_refl _, Nat.le_refl _⟩) hP hD hS hA [7, 8, 9, 10, 11, 12, 13, 14, 15, 16, 17, 18, 19, 20, 21, 22, 23, 1, 2, 3] [0, 4, 5, 6, 24, 25, 26, 27, 28, 29, 30, 31, 32, 33] rfl rfl (List.forall_mem_cons.mpr ⟨rfl, (List.forall_mem_cons.mpr ⟨rfl, (List.forall_mem_cons.mpr ⟨rfl, (List.forall_mem_cons.mpr ⟨rfl, (List.forall_mem_cons.mpr ⟨rfl, (List.forall_mem_cons.mpr ⟨rfl, (List.forall_mem_cons.mpr ⟨rfl, (List.forall_mem_cons.mpr ⟨rfl, (List.forall_mem_cons.mpr ⟨rfl, (List.forall_mem_cons.mpr ⟨rfl, (List.forall_mem_cons.mpr ⟨rfl, (List.forall_mem_cons.mpr ⟨rfl, (List.forall_mem_cons.mpr ⟨rfl, (List.forall_mem_cons.mpr ⟨rfl, (fun _ h9 => absurd h9 List.not_mem_nil)⟩)⟩)⟩)⟩)⟩)⟩)⟩)⟩)⟩)⟩)⟩)⟩)⟩)⟩) rfl rfl (fun H locs hP hD hS => ?_)
    refine lv_aload_n hx hb dX8_back_28 rfl (lv_at hl 0 rfl) ?_
    refine va_get (D := D) (cl := vwCl) (ci := 5) (v := .ref (h 7)) (C := RX8) (T := TX8) (N := 9) hx hb hts hin8 hown hK hP 0 rfl rfl 2 (by decide) (hts (.fieldLink RX8 22 "StepOrders" "past" "LStepOrders$Past;") (by decide +kernel)) (fun _ h9 => h9) rfl dX8_back_29 ?_
    have hPc : va_P D vwCl (wdP cI cO h 7 v_past_kept v_past_oldest q3.1) H := hP.sub [7, 8, 9, 10, 11, 12, 13, 14, 15, 16, 17, 18, 19, 20, 21, 22, 23] rfl
    have hDc : va_D A (wdP cI cO h 7 v_past_kept v_past_oldest q3.1) := hD.sub [7, 8, 9, 10, 11, 12, 13, 14, 15, 16, 17, 18, 19, 20, 21, 22, 23] (by decide) rfl
    refine kd_iR (va_runV (As := []) (rest := []) ⟨hx, hb, hml, hown, hts⟩ (c3_size l D cB cI cZ cO h 7 H.size v_past_kept v_past_oldest q3.1 (f3_size q3.1) rfl) (cwV 0 hts gX8_back_X3_size rfl rfl rfl (by decide +kernel) ⟨Nat.le_of_ble_eq_true rfl, Nat.le_of_ble_eq_true rfl⟩) ⟨kb_blind, va_recv hK hPc (ci := 2) (q0 := 0) rfl rfl, kb_pre hPc hDc hK hN⟩ rfl rfl hl.1 rfl (lv_room (Nat.le_of_ble_eq_true rfl)) dX8_back_32 ⟨Nat.le_refl _, Nat.le_refl _⟩) hP hD hS hA [7, 8, 9, 10, 11, 12, 13, 14, 15, 16, 17, 18, 19, 20, 21, 22, 23] rfl (fun H locs hn4 hP hS => ?_)
    obtain ⟨z1, y1⟩ := Prod.mk.inj (Option.some.inj hf)
    obtain ⟨z2, y2⟩ := Prod.mk.inj y1
    obtain ⟨z3, y3⟩ := Prod.mk.inj y2
    obtain ⟨z4, y4⟩ := Prod.mk.inj y3
    obtain ⟨z5, y5⟩ := Prod.mk.inj y4
    subst z1 z2 z3 z4 z5 y5
    exact hend _ _ _ _ rfl hP hS dX8_back_35
  · rw [if_pos c2] at hf
    refine lv_aload_n hx hb dX8_back_10 rfl (lv_at hl 0 rfl) ?_
    refine lv_bipush (v := (-3)) hx hb dX8_back_11 (by decide) ?_
    refine kb_bind hf (fun q5 hq5 hf => ?_)
    have hPc : va_P D vwCl (wdO cB cI cZ cO h v_now v_tried v_past_kept v_past_oldest v_past_size v_all_threads v_all_rows v_all_ended v_all_known v_all_stepsInAll v_all_count v_all_standstills v_all_wrongOnes v_all_unlikeEnds v_meetings_reached v_text_bytes v_text_length v_text_place v_text_thread v_text_kind v_text_target v_text_value v_refusedBad v_refusedNo v_refusedFull) H := hP.sub [0, 1, 2, 3, 4, 5, 6, 7, 8, 9, 10, 11, 12, 13, 14, 15, 16, 17, 18, 19, 20, 21, 22, 23, 24, 25, 26, 27, 28, 29, 30, 31, 32, 33] rfl
    have hDc : va_D A (wdO cB cI cZ cO h v_now v_tried v_past_kept v_past_oldest v_past_size v_all_threads v_all_rows v_all_ended v_all_known v_all_stepsInAll v_all_count v_all_standstills v_all_wrongOnes v_all_unlikeEnds v_meetings_reached v_text_bytes v_text_length v_text_place v_text_thread v_text_kind v_text_target v_text_value v_refusedBad v_refusedNo v_refusedFull) := hD.sub [0, 1, 2, 3, 4, 5, 6, 7, 8, 9, 10, 11, 12, 13, 14, 15, 16, 17, 18, 19, 20, 21, 22, 23, 24, 25, 26, 27, 28, 29, 30, 31, 32, 33] (by decide) rfl
    refine kd_iW (ws' := wdO cB cI cZ cO h v_now v_tried v_past_kept v_past_oldest v_past_size v_all_threads v_all_rows v_all_ended v_all_known v_all_stepsInAll v_all_count v_all_standstills v_all_wrongOnes v_all_unlikeEnds v_meetings_reached v_text_bytes v_text_length v_text_place v_text_thread v_text_kind v_text_target v_text_value q5.2.1 q5.2.2.1 q5.2.2.2) (va_runV (As := [.int (-3 : Int32)]) (rest := []) ⟨hx, hb, hml, hown, hts⟩ (c8_refused l D cB cI cZ cO h H.size (-3 : Int32) v_now v_tried v_past_kept v_past_oldest v_past_size v_all_threads v_all_rows v_all_ended v_all_known v_all_stepsInAll v_all_count v_all_standstills v_all_wrongOnes v_all_unlikeEnds v_meetings_reached v_text_bytes v_text_length v_text_place v_text_thread v_text_kind v_text_target v_text_value v_refusedBad v_refusedNo v_refusedFull q5.1 q5.2.1 q5.2.2.1 q5.2.2.2 hq5) (cwV 1 hts gX8_back_X8_refused rfl rfl rfl (by decide +kernel) ⟨Nat.le_of_ble_eq_true rfl, Nat.le_of_ble_eq_true rfl⟩) ⟨kb_blind, va_recv hK hPc (ci := 5) (q0 := 0) rfl rfl, kb_pre hPc hDc hK hN⟩ rfl rfl hl.1 rfl (lv_room (Nat.le_of_ble_eq_true rfl)) dX8_back_13 ⟨Nat.le_refl _, Nat.le_refl _⟩) hP hD hS hA [0, 1, 2, 3, 4, 5, 6, 7, 8, 9, 10, 11, 12, 13, 14, 15, 16, 17, 18, 19, 20, 21, 22, 23, 24, 25, 26, 27, 28, 29, 30, 31, 32, 33] [] rfl rfl (fun _ h9 => absurd h9 List.not_mem_nil) rfl rfl (fun H locs hn6 hP hD hS => ?_)
    obtain ⟨z1, y1⟩ := Prod.mk.inj (Option.some.inj hf)
    obtain ⟨z2, y2⟩ := Prod.mk.inj y1
    obtain ⟨z3, y3⟩ := Prod.mk.inj y2
    obtain ⟨z4, y4⟩ := Prod.mk.inj y3
    obtain ⟨z5, y5⟩ := Prod.mk.inj y4
    subst z1 z2 z3 z4 z5 y5
    exact hend _ _ _ _ rfl hP hS dX8_back_16

set_option maxHeartbeats 4000000 in
set_option maxRecDepth 100000 in
theorem c8_told (l : Launch) (D : va_G) (cB cI cZ cO : ClassId) (h : Nat → Nat) (sz : Nat) (x1 : Int32) (v_now : sT) (v_tried : sT) (v_past_kept : Nat → sT) (v_past_oldest : Int32) (v_past_size : Int32) (v_all_threads : sT) (v_all_rows : Nat → Int32) (v_all_ended : Nat → Int32) (v_all_known : Int32) (v_all_stepsInAll : Int32) (v_all_count : Int32) (v_all_standstills : Int32) (v_all_wrongOnes : Int32) (v_all_unlikeEnds : Int32) (v_meetings_reached : Nat → Int32) (v_text_bytes : Nat → Int32) (v_text_length : Int32) (v_text_place : Int32) (v_text_thread : Int32) (v_text_kind : Int32) (v_text_target : Int32) (v_text_value : Int32) (v_refusedBad : Int32) (v_refusedNo : Int32) (v_refusedFull : Int32) (r0 : Int32) (v_refusedBad' : Int32) (v_refusedNo' : Int32) (v_refusedFull' : Int32) (hf : f8_told v_now v_past_size v_text_length v_refusedBad v_refusedNo v_refusedFull x1 = some (r0, v_refusedBad', v_refusedNo', v_refusedFull')) : Met l yX8_told wsX8_told rm8_told (va_Pc [.ref (h 0), .int x1] (kb_B D (ka_tys cB cI cZ cO) sz (wdO cB cI cZ cO h v_now v_tried v_past_kept v_past_oldest v_past_size v_all_threads v_all_rows v_all_ended v_all_known v_all_stepsInAll v_all_count v_all_standstills v_all_wrongOnes v_all_unlikeEnds v_meetings_reached v_text_bytes v_text_length v_text_place v_text_thread v_text_kind v_text_target v_text_value v_refusedBad v_refusedNo v_refusedFull))) (va_Qi (kb_post .int r0) (fun _ t => va_P D vwCl (wdO cB cI cZ cO h v_now v_tried v_past_kept v_past_oldest v_past_size v_all_threads v_all_rows v_all_ended v_all_known v_all_stepsInAll v_all_count v_all_standstills v_all_wrongOnes v_all_unlikeEnds v_meetings_reached v_text_bytes v_text_length v_text_place v_text_thread v_text_kind v_text_target v_text_value (v_refusedBad') (v_refusedNo') (v_refusedFull')) t.heap) (va_A (wdO cB cI cZ cO h v_now v_tried v_past_kept v_past_oldest v_past_size v_all_threads v_all_rows v_all_ended v_all_known v_all_stepsInAll v_all_count v_all_standstills v_all_wrongOnes v_all_unlikeEnds v_meetings_reached v_text_bytes v_text_length v_text_place v_text_thread v_text_kind v_text_target v_text_value v_refusedBad v_refusedNo v_refusedFull) sz)) 0 0 (va_A (wdO cB cI cZ cO h v_now v_tried v_past_kept v_past_oldest v_past_size v_all_threads v_all_rows v_all_ended v_all_known v_all_stepsInAll v_all_count v_all_standstills v_all_wrongOnes v_all_unlikeEnds v_meetings_reached v_text_bytes v_text_length v_text_place v_text_thread v_text_kind v_text_target v_text_value v_refusedBad v_refusedNo v_refusedFull) sz) := by
  refine kb_metZ (cc := cX8_told) (maxL := 2) (ty := .int) (by decide) rfl (Nat.le_of_ble_eq_true rfl) ?_
  intro p e s m args below meth c Q A ls H hx hb hml hown hts hK hN hP hD hS hA hl hend
  have hown : s.vm.findClass RX8 = some m.cls := hown
  have hl : lv_has ls 2 [(0, .ref (h 0)), (1, .int x1)] := hl
  have hin8 : ∀ w ∈ u_ws RX8 TX8 9, w ∈ wsX8_told := by decide +kernel
  have J75 : ∀ (v_refusedBad : Int32) (v_refusedNo : Int32) (v_refusedFull : Int32) (x1 : Int32) (H : Heap) (locs : List Loc) (ls : Array Slot), f8_told_b75 v_now v_past_size v_text_length v_refusedBad v_refusedNo v_refusedFull x1 = some (r0, v_refusedBad', v_refusedNo', v_refusedFull') → va_P D vwCl (wdO cB cI cZ cO h v_now v_tried v_past_kept v_past_oldest v_past_size v_all_threads v_all_rows v_all_ended v_all_known v_all_stepsInAll v_all_count v_all_standstills v_all_wrongOnes v_all_unlikeEnds v_meetings_reached v_text_bytes v_text_length v_text_place v_text_thread v_text_kind v_text_target v_text_value v_refusedBad v_refusedNo v_refusedFull) H → va_D A (wdO cB cI cZ cO h v_now v_tried v_past_kept v_past_oldest v_past_size v_all_threads v_all_rows v_all_ended v_all_known v_all_stepsInAll v_all_count v_all_standstills v_all_wrongOnes v_all_unlikeEnds v_meetings_reached v_text_bytes v_text_length v_text_place v_text_thread v_text_kind v_text_target v_text_value v_refusedBad v_refusedNo v_refusedFull) → va_S A s.heap H locs → lv_has ls 2 [(0, .ref (h 0)), (1, .int x1)] → W p l e rm8_told s m args below meth c H locs 0 0 Q (F0 m 75 ls []) := by
    intro v_refusedBad v_refusedNo v_refusedFull x1 H locs ls hf hP hD hS hl
    rw [f8_told_b75] at hf
    refine lv_aload_n hx hb dX8_told_75 rfl (lv_at hl 0 rfl) ?_
    refine va_get (D := D) (cl := vwCl) (ci := 5) (v := .ref (h 1)) (C := RX8) (T := TX8) (N := 9) hx hb hts hin8 hown hK hP 0 rfl rfl 0 (by decide) (hts (.fieldLink RX8 12 "StepOrders" "now" "LStepOrders$State;") (by decide +kernel)) (fun _ h9 => h9) rfl dX8_told_76 ?_
    refine lv_iload_n hx hb dX8_told_79 rfl (lv_at hl 1 rfl) ?_
    refine lv_iconst (v := 4) hx hb dX8_told_80 (by decide) ?_
    refine lv_isub hx hb dX8_told_81 ?_
    refine kb_bind hf (fun q3 hq3 hf => ?_)
    have hPc : va_P D vwCl (wdS cI h 1 v_now) H := hP.sub [1, 2, 3] rfl
    have hDc : va_D A (wdS cI h 1 v_now) := hD.sub [1, 2, 3] (by decide) rfl
    refine kd_iR (va_runV (As := [.int (x1 - (4 : Int32))]) (rest := []) ⟨hx, hb, hml, hown, hts⟩ (c5_stepsOf l D cB cI cZ cO h 1 H.size (x1 - (4 : Int32)) v_now q3 hq3) (cwV 1 hts gX8_told_X5_stepsOf rfl rfl rfl (by decide +kernel) ⟨Nat.le_of_ble_eq_true rfl, Nat.le_of_ble_eq_true rfl⟩) ⟨kb_blind, va_recv hK hPc (ci := 3) (q0 := 0) rfl rfl, kb_pre hPc hDc hK hN⟩ rfl rfl hl.1 rfl (lv_room (Nat.le_of_ble_eq_true rfl)) dX8_told_82 ⟨Nat.le_refl _, Nat.le_refl _⟩) hP hD hS hA [1, 2, 3] rfl (fun H locs hn4 hP hS => ?_)
    obtain ⟨z1, y1⟩ := Prod.mk.inj (Option.some.inj hf)
    obtain ⟨z2, y2⟩ := Prod.mk.inj y1
    obtain ⟨z3, y3⟩ := Prod.mk.inj y2
    subst z1 z2 z3 y3
    exact hend _ _ _ _ rfl hP hS dX8_told_85
  rw [f8_told] at hf
  refine lv_iload_n hx hb dX8_told_0 rfl (lv_at hl 1 rfl) ?_
  by_cases c5_0 : x1 = 0
  · rw [if_pos c5_0] at hf
    refine lv_tableIn (tgt := 52) (off := 51) hx hb dX8_told_1 (by rw [c5_0]; decide) (by rw [c5_0]; decide) (by rw [c5_0]; rfl) (by decide) ?_
    refine lv_aload_n hx hb dX8_told_52 rfl (lv_at hl 0 rfl) ?_
    refine va_get (D := D) (cl := vwCl) (ci := 5) (v := .int v_refusedBad) (C := RX8) (T := TX8) (N := 9) hx hb hts hin8 hown hK hP 0 rfl rfl 6 (by decide) (hts (.fieldLink RX8 211 "StepOrders" "refusedBad" "I") (by decide +kernel)) (fun _ h9 => h9) rfl dX8_told_53 ?_
    obtain ⟨z1, y1⟩ := Prod.mk.inj (Option.some.inj hf)
    obtain ⟨z2, y2⟩ := Prod.mk.inj y1
    obtain ⟨z3, y3⟩ := Prod.mk.inj y2
    subst z1 z2 z3 y3
    exact hend _ _ _ _ rfl hP hS dX8_told_56
  rw [if_neg c5_0] at hf
  by_cases c5_1 : x1 = 1
  · rw [if_pos c5_1] at hf
    refine lv_tableIn (tgt := 57) (off := 56) hx hb dX8_told_1 (by rw [c5_1]; decide) (by rw [c5_1]; decide) (by rw [c5_1]; rfl) (by decide) ?_
    refine lv_aload_n hx hb dX8_told_57 rfl (lv_at hl 0 rfl) ?_
    refine va_get (D := D) (cl := vwCl) (ci := 5) (v := .int v_refusedNo) (C := RX8) (T := TX8) (N := 9) hx hb hts hin8 hown hK hP 0 rfl rfl 7 (by decide) (hts (.fieldLink RX8 215 "StepOrders" "refusedNo" "I") (by decide +kernel)) (fun _ h9 => h9) rfl dX8_told_58 ?_
    obtain ⟨z1, y1⟩ := Prod.mk.inj (Option.some.inj hf)
    obtain ⟨z2, y2⟩ := Prod.mk.inj y1
    obtain ⟨z3, y3⟩ := Prod.mk.inj y2
    subst z1 z2 z3 y3
    exact hend _ _ _ _ rfl hP hS dX8_told_61
  rw [if_neg c5_1] at hf
  by_cases c5_2 : x1 = 2
  · rw [if_pos c5_2] at hf
    refine lv_tableIn (tgt := 62) (off := 61) hx hb dX8_told_1 (by rw [c5_2]; decide) (by rw [c5_2]; decide) (by rw [c5_2]; rfl) (by decide) ?_
    refine lv_aload_n hx hb dX8_told_62 rfl (lv_at hl 0 rfl) ?_
    refine va_get (D := D) (cl := vwCl) (ci := 5) (v := .int v_refusedFull) (C := RX8) (T := TX8) (N := 9) hx hb hts hin8 hown hK hP 0 rfl rfl 8 (by decide) (hts (.fieldLink RX8 218 "StepOrders" "refusedFull" "I") (by decide +kernel)) (fun _ h9 => h9) rfl dX8_told_63 ?_
    obtain ⟨z1, y1⟩ := Prod.mk.inj (Option.some.inj hf)
    obtain ⟨z2, y2⟩ := Prod.mk.inj y1
    obtain ⟨z3, y3⟩ := Prod.mk.inj y2
    subst z1 z2 z3 y3
    exact hend _ _ _ _ rfl hP hS dX8_told_66
  rw [if_neg c5_2] at hf
  by_cases c5_3 : x1 = 3
  · rw [if_pos c5_3] at hf
    refine lv_tableIn (tgt := 67) (off := 66) hx hb dX8_told_1 (by rw [c5_3]; decide) (by rw [c5_3]; decide) (by rw [c5_3]; rfl) (by decide) ?_
    refine lv_aload_n hx hb dX8_told_67 rfl (lv_at hl 0 rfl) ?_
    refine va_get (D := D) (cl := vwCl) (ci := 5) (v := .ref (h 32)) (C := RX8) (T := TX8) (N := 9) hx hb hts hin8 hown hK hP 0 rfl rfl 5 (by decide) (hts (.fieldLink RX8 43 "StepOrders" "text" "LStepOrders$Text;") (by decide +kernel)) (fun _ h9 => h9) rfl dX8_told_68 ?_
    have hPc : va_P D vwCl (wdT cB h 32 v_text_bytes v_text_length v_text_place v_text_thread v_text_kind v_text_target v_text_value) H := hP.sub [32, 33] rfl
    have hDc : va_D A (wdT cB h 32 v_text_bytes v_text_length v_text_place v_text_thread v_text_kind v_text_target v_text_value) := hD.sub [32, 33] (by decide) rfl
    refine kd_iR (va_runV (As := []) (rest := []) ⟨hx, hb, hml, hown, hts⟩ (c7_length l D cB cI cZ cO h 32 H.size v_text_bytes v_text_length v_text_place v_text_thread v_text_kind v_text_target v_text_value (f7_length v_text_length) rfl) (cwV 0 hts gX8_told_X7_length rfl rfl rfl (by decide +kernel) ⟨Nat.le_of_ble_eq_true rfl, Nat.le_of_ble_eq_true rfl⟩) ⟨kb_blind, va_recv hK hPc (ci := 4) (q0 := 0) rfl rfl, kb_pre hPc hDc hK hN⟩ rfl rfl hl.1 rfl (lv_room (Nat.le_of_ble_eq_true rfl)) dX8_told_71 ⟨Nat.le_refl _, Nat.le_refl _⟩) hP hD hS hA [32, 33] rfl (fun H locs hn6 hP hS => ?_)
    obtain ⟨z1, y1⟩ := Prod.mk.inj (Option.some.inj hf)
    obtain ⟨z2, y2⟩ := Prod.mk.inj y1
    obtain ⟨z3, y3⟩ := Prod.mk.inj y2
    subst z1 z2 z3 y3
    exact hend _ _ _ _ rfl hP hS dX8_told_74
  rw [if_neg c5_3] at hf
  by_cases c5_4 : x1 = 4
  · rw [if_pos c5_4] at hf
    refine lv_tableIn (tgt := 75) (off := 74) hx hb dX8_told_1 (by rw [c5_4]; decide) (by rw [c5_4]; decide) (by rw [c5_4]; rfl) (by decide) ?_
    exact J75 v_refusedBad v_refusedNo v_refusedFull x1 _ _ _ hf hP hD hS (lv_sub hl [0, 1] rfl)
  rw [if_neg c5_4] at hf
  by_cases c5_5 : x1 = 5
  · rw [if_pos c5_5] at hf
    refine lv_tableIn (tgt := 75) (off := 74) hx hb dX8_told_1 (by rw [c5_5]; decide) (by rw [c5_5]; decide) (by rw [c5_5]; rfl) (by decide) ?_
    exact J75 v_refusedBad v_refusedNo v_refusedFull x1 _ _ _ hf hP hD hS (lv_sub hl [0, 1] rfl)
  rw [if_neg c5_5] at hf
  by_cases c5_6 : x1 = 6
  · rw [if_pos c5_6] at hf
    refine lv_tableIn (tgt := 75) (off := 74) hx hb dX8_told_1 (by rw [c5_6]; decide) (by rw [c5_6]; decide) (by rw [c5_6]; rfl) (by decide) ?_
    exact J75 v_refusedBad v_refusedNo v_refusedFull x1 _ _ _ hf hP hD hS (lv_sub hl [0, 1] rfl)
  rw [if_neg c5_6] at hf
  by_cases c5_7 : x1 = 7
  · rw [if_pos c5_7] at hf
    refine lv_tableIn (tgt := 86) (off := 85) hx hb dX8_told_1 (by rw [c5_7]; decide) (by rw [c5_7]; decide) (by rw [c5_7]; rfl) (by decide) ?_
    refine lv_aload_n hx hb dX8_told_86 rfl (lv_at hl 0 rfl) ?_
    refine va_get (D := D) (cl := vwCl) (ci := 5) (v := .ref (h 1)) (C := RX8) (T := TX8) (N := 9) hx hb hts hin8 hown hK hP 0 rfl rfl 0 (by decide) (hts (.fieldLink RX8 12 "StepOrders" "now" "LStepOrders$State;") (by decide +kernel)) (fun _ h9 => h9) rfl dX8_told_87 ?_
    have hPc : va_P D vwCl (wdS cI h 1 v_now) H := hP.sub [1, 2, 3] rfl
    have hDc : va_D A (wdS cI h 1 v_now) := hD.sub [1, 2, 3] (by decide) rfl
    refine kd_lR (va_runV (As := []) (rest := []) ⟨hx, hb, hml, hown, hts⟩ (c5_beginning l D cB cI cZ cO h 1 H.size v_now (f5_beginning v_now) rfl) (cwV 0 hts gX8_told_X5_beginning rfl rfl rfl (by decide +kernel) ⟨Nat.le_of_ble_eq_true rfl, Nat.le_of_ble_eq_true rfl⟩) ⟨kb_blind, va_recv hK hPc (ci := 3) (q0 := 0) rfl rfl, kb_pre hPc hDc hK hN⟩ rfl rfl hl.1 rfl (lv_room (Nat.le_of_ble_eq_true rfl)) dX8_told_90 ⟨Nat.le_refl _, Nat.le_refl _⟩) hP hD hS hA [1, 2, 3] rfl (fun H locs hP hS => ?_)
    refine kb_bind hf (fun q7 hq7 hf => ?_)
    have hPc : va_P D vwCl ([]) H := hP.sub [] rfl
    have hDc : va_D A ([]) := hD.sub [] (by decide) rfl
    refine kd_iR (va_runS (As := [.long (f5_beginning v_now)]) (rest := []) ⟨hx, hb, hml, hown, hts⟩ (c2_ending l D cB cI cZ cO h H.size (f5_beginning v_now) q7 hq7) (va_cwS 1 hts gX8_told_X2_ending rfl rfl rfl (by decide +kernel) ⟨Nat.le_of_ble_eq_true rfl, Nat.le_of_ble_eq_true rfl⟩) ⟨kb_blind, kb_pre hPc hDc hK hN⟩ rfl rfl hl.1 rfl (lv_room (Nat.le_of_ble_eq_true rfl)) dX8_told_93 ⟨Nat.le_refl _, Nat.le_refl _⟩) hP hD hS hA [] rfl (fun H locs hn8 hP hS => ?_)
    obtain ⟨z1, y1⟩ := Prod.mk.inj (Option.some.inj hf)
    obtain ⟨z2, y2⟩ := Prod.mk.inj y1
    obtain ⟨z3, y3⟩ := Prod.mk.inj y2
    subst z1 z2 z3 y3
    exact hend _ _ _ _ rfl hP hS dX8_told_96
  rw [if_neg c5_7] at hf
  by_cases c5_8 : x1 = 8
  · rw [if_pos c5_8] at hf
    refine lv_tableIn (tgt := 97) (off := 96) hx hb dX8_told_1 (by rw [c5_8]; decide) (by rw [c5_8]; decide) (by rw [c5_8]; rfl) (by decide) ?_
    refine lv_aload_n hx hb dX8_told_97 rfl (lv_at hl 0 rfl) ?_
    refine va_get (D := D) (cl := vwCl) (ci := 5) (v := .ref (h 7)) (C := RX8) (T := TX8) (N := 9) hx hb hts hin8 hown hK hP 0 rfl rfl 2 (by decide) (hts (.fieldLink RX8 22 "StepOrders" "past" "LStepOrders$Past;") (by decide +kernel)) (fun _ h9 => h9) rfl dX8_told_98 ?_
    have hPc : va_P D vwCl (wdP cI cO h 7 v_past_kept v_past_oldest v_past_size) H := hP.sub [7, 8, 9, 10, 11, 12, 13, 14, 15, 16, 17, 18, 19, 20, 21, 22, 23] rfl
    have hDc : va_D A (wdP cI cO h 7 v_past_kept v_past_oldest v_past_size) := hD.sub [7, 8, 9, 10, 11, 12, 13, 14, 15, 16, 17, 18, 19, 20, 21, 22, 23] (by decide) rfl
    refine kd_iR (va_runV (As := []) (rest := []) ⟨hx, hb, hml, hown, hts⟩ (c3_size l D cB cI cZ cO h 7 H.size v_past_kept v_past_oldest v_past_size (f3_size v_past_size) rfl) (cwV 0 hts gX8_told_X3_size rfl rfl rfl (by decide +kernel) ⟨Nat.le_of_ble_eq_true rfl, Nat.le_of_ble_eq_true rfl⟩) ⟨kb_blind, va_recv hK hPc (ci := 2) (q0 := 0) rfl rfl, kb_pre hPc hDc hK hN⟩ rfl rfl hl.1 rfl (lv_room (Nat.le_of_ble_eq_true rfl)) dX8_told_101 ⟨Nat.le_refl _, Nat.le_refl _⟩) hP hD hS hA [7, 8, 9, 10, 11, 12, 13, 14, 15, 16, 17, 18, 19, 20, 21, 22, 23] rfl (fun H locs hn9 hP hS => ?_)
    obtain ⟨z1, y1⟩ := Prod.mk.inj (Option.some.inj hf)
    obtain ⟨z2, y2⟩ := Prod.mk.inj y1
    obtain ⟨z3, y3⟩ := Prod.mk.inj y2
    subst z1 z2 z3 y3
    exact hend _ _ _ _ rfl hP hS dX8_told_104
  rw [if_neg c5_8] at hf
  refine lv_tableOut (tgt := 105) hx hb dX8_told_1 (by have e0 := lv_neT c5_0 (a := 0) rfl; have e1 := lv_neT c5_1 (a := 1) rfl; have e2 := lv_neT c5_2 (a := 2) rfl; have e3 := lv_neT c5_3 (a := 3) rfl; have e4 := lv_neT c5_4 (a := 4) rfl; have e5 := lv_neT c5_5 (a := 5) rfl; have e6 := lv_neT c5_6 (a := 6) rfl; have e7 := lv_neT c5_7 (a := 7) rfl; have e8 := lv_neT c5_8 (a := 8) rfl; omega) (by decide) ?_
  refine lv_aload_n hx hb dX8_told_105 rfl (lv_at hl 0 rfl) ?_
  refine lv_bipush (v := (-2)) hx hb dX8_told_106 (by decide) ?_
  refine kb_bind hf (fun q10 hq10 hf => ?_)
  have hPc : va_P D vwCl (wdO cB cI cZ cO h v_now v_tried v_past_kept v_past_oldest v_past_size v_all_threads v_all_rows v_all_ended v_all_known v_all_stepsInAll v_all_count v_all_standstills v_all_wrongOnes v_all_unlikeEnds v_meetings_reached v_text_bytes v_text_length v_text_place v_text_thread v_text_kind v_text_target v_text_value v_refusedBad v_refusedNo v_refusedFull) H := hP.sub [0, 1, 2, 3, 4, 5, 6, 7, 8, 9, 10, 11, 12, 13, 14, 15, 16, 17, 18, 19, 20, 21, 22, 23, 24, 25, 26, 27, 28, 29, 30, 31, 32, 33] rfl
  have hDc : va_D A (wdO cB cI cZ cO h v_now v_tried v_past_kept v_past_oldest v_past_size v_all_threads v_all_rows v_all_ended v_all_known v_all_stepsInAll v_all_count v_all_standstills v_all_wrongOnes v_all_unlikeEnds v_meetings_reached v_text_bytes v_text_length v_text_place v_text_thread v_text_kind v_text_target v_text_value v_refusedBad v_refusedNo v_refusedFull) := hD.sub [0, 1, 2, 3, 4, 5, 6, 7, 8, 9, 10, 11, 12, 13, 14, 15, 16, 17, 18, 19, 20, 21, 22, 23, 24, 25, 26, 27, 28, 29, 30, 31, 32, 33] (by decide) rfl
  refine kd_iW (ws' := wdO cB cI cZ cO h v_now v_tried v_past_kept v_past_oldest v_past_size v_all_threads v_all_rows v_all_ended v_all_known v_all_stepsInAll v_all_count v_all_standstills v_all_wrongOnes v_all_unlikeEnds v_meetings_reached v_text_bytes v_text_length v_text_place v_text_thread v_text_kind v_text_target v_text_value q10.2.1 q10.2.2.1 q10.2.2.2) (va_runV (As := [.int (-2 : Int32)]) (rest := []) ⟨hx, hb, hml, hown, hts⟩ (c8_refused l D cB cI cZ cO h H.size (-2 : Int32) v_now v_tried v_past_kept v_past_oldest v_past_size v_all_threads v_all_rows v_all_ended v_all_known v_all_stepsInAll v_all_count v_all_standstills v_all_wrongOnes v_all_unlikeEnds v_meetings_reached v_text_bytes v_text_length v_text_place v_text_thread v_text_kind v_text_target v_text_value v_refusedBad v_refusedNo v_refusedFull q10.1 q10.2.1 q10.2.2.1 q10.2.2.2 hq10) (cwV 1 hts gX8_told_X8_refused rfl rfl rfl (by decide +kernel) ⟨Nat.le_of_ble_eq_true rfl, Nat.le_of_ble_eq_true rfl⟩) ⟨kb_blind, va_recv hK hPc (ci := 5) (q0 := 0) rfl rfl, kb_pre hPc hDc hK hN⟩ rfl rfl hl.1 rfl (lv_room (Nat.le_of_ble_eq_true rfl)) dX8_told_108 ⟨Nat.le_refl _, Nat.le_refl _⟩) hP hD hS hA [0, 1, 2, 3, 4, 5, 6, 7, 8, 9, 10, 11, 12, 13, 14, 15, 16, 17, 18, 19, 20, 21, 22, 23, 24, 25, 26, 27, 28, 29, 30, 31, 32, 33] [] rfl rfl (fun _ h9 => absurd h9 List.not_mem_nil) rfl rfl (fun H locs hn11 hP hD hS => ?_)
  obtain ⟨z1, y1⟩ := Prod.mk.inj (Option.some.inj hf)
  obtain ⟨z2, y2⟩ := Prod.mk.inj y1
  obtain ⟨z3, y3⟩ := Prod.mk.inj y2
  subst z1 z2 z3 y3
  exact hend _ _ _ _ rfl hP hS dX8_told_111

set_option maxHeartbeats 4000000 in
set_option maxRecDepth 100000 in
theorem c8_digestSteps (l : Launch) (D : va_G) (cB cI cZ cO : ClassId) (h : Nat → Nat) (sz : Nat) (x1 : Int64) (v_now : sT) (v_tried : sT) (v_past_kept : Nat → sT) (v_past_oldest : Int32) (v_past_size : Int32) (v_all_threads : sT) (v_all_rows : Nat → Int32) (v_all_ended : Nat → Int32) (v_all_known : Int32) (v_all_stepsInAll : Int32) (v_all_count : Int32) (v_all_standstills : Int32) (v_all_wrongOnes : Int32) (v_all_unlikeEnds : Int32) (v_meetings_reached : Nat → Int32) (v_text_bytes : Nat → Int32) (v_text_length : Int32) (v_text_place : Int32) (v_text_thread : Int32) (v_text_kind : Int32) (v_text_target : Int32) (v_text_value : Int32) (v_refusedBad : Int32) (v_refusedNo : Int32) (v_refusedFull : Int32) (r0 : Int64) (v_refusedBad' : Int32) (v_refusedNo' : Int32) (v_refusedFull' : Int32) (hf : f8_digestSteps v_now v_refusedBad v_refusedNo v_refusedFull x1 = some (r0, v_refusedBad', v_refusedNo', v_refusedFull')) : Met l yX8_digestSteps wsX8_digestSteps rm8_digestSteps (va_Pc [.ref (h 0), .long x1] (kb_B D (ka_tys cB cI cZ cO) sz (wdO cB cI cZ cO h v_now v_tried v_past_kept v_past_oldest v_past_size v_all_threads v_all_rows v_all_ended v_all_known v_all_stepsInAll v_all_count v_all_standstills v_all_wrongOnes v_all_unlikeEnds v_meetings_reached v_text_bytes v_text_length v_text_place v_text_thread v_text_kind v_text_target v_text_value v_refusedBad v_refusedNo v_refusedFull))) (va_Ql (fun r (_ : Unit) => r = r0) (fun _ t => va_P D vwCl (wdO cB cI cZ cO h v_now v_tried v_past_kept v_past_oldest v_past_size v_all_threads v_all_rows v_all_ended v_all_known v_all_stepsInAll v_all_count v_all_standstills v_all_wrongOnes v_all_unlikeEnds v_meetings_reached v_text_bytes v_text_length v_text_place v_text_thread v_text_kind v_text_target v_text_value (v_refusedBad') (v_refusedNo') (v_refusedFull')) t.heap) (va_A (wdO cB cI cZ cO h v_now v_tried v_past_kept v_past_oldest v_past_size v_all_threads v_all_rows v_all_ended v_all_known v_all_stepsInAll v_all_count v_all_standstills v_all_wrongOnes v_all_unlikeEnds v_meetings_reached v_text_bytes v_text_length v_text_place v_text_thread v_text_kind v_text_target v_text_value v_refusedBad v_refusedNo v_refusedFull) sz)) 0 0 (va_A (wdO cB cI cZ cO h v_now v_tried v_past_kept v_past_oldest v_past_size v_all_threads v_all_rows v_all_ended v_all_known v_all_stepsInAll v_all_count v_all_standstills v_all_wrongOnes v_all_unlikeEnds v_meetings_reached v_text_bytes v_text_length v_text_place v_text_thread v_text_kind v_text_target v_text_value v_refusedBad v_refusedNo v_refusedFull) sz) := by
  refine kb_metL (cc := cX8_digestSteps) (maxL := 8) (by decide) rfl (Nat.le_of_ble_eq_true rfl) ?_
  intro p e s m args below meth c Q A ls H hx hb hml hown hts hK hN hP hD hS hA hl hend
  have hown : s.vm.findClass RX8 = some m.cls := hown
  have hl : lv_has ls 8 [(0, .ref (h 0)), (1, .long x1)] := hl
  have hin8 : ∀ w ∈ u_ws RX8 TX8 9, w ∈ wsX8_digestSteps := by decide +kernel
  have J73 : ∀ (v_refusedBad : Int32) (v_refusedNo : Int32) (v_refusedFull : Int32) (x3 : Int64) (H : Heap) (locs : List Loc) (ls : Array Slot), f8_digestSteps_b73 v_now v_refusedBad v_refusedNo v_refusedFull x3 = some (r0, v_refusedBad', v_refusedNo', v_refusedFull') → va_P D vwCl (wdO cB cI cZ cO h v_now v_tried v_past_kept v_past_oldest v_past_size v_all_threads v_all_rows v_all_ended v_all_known v_all_stepsInAll v_all_count v_all_standstills v_all_wrongOnes v_all_unlikeEnds v_meetings_reached v_text_bytes v_text_length v_text_place v_text_thread v_text_kind v_text_target v_text_value v_refusedBad v_refusedNo v_refusedFull) H → va_D A (wdO cB cI cZ cO h v_now v_tried v_past_kept v_past_oldest v_past_size v_all_threads v_all_rows v_all_ended v_all_known v_all_stepsInAll v_all_count v_all_standstills v_all_wrongOnes v_all_unlikeEnds v_meetings_reached v_text_bytes v_text_length v_text_place v_text_thread v_text_kind v_text_target v_text_value v_refusedBad v_refusedNo v_refusedFull) → va_S A s.heap H locs → lv_has ls 8 [(3, .long x3)] → W p l e rm8_digestSteps s m args below meth c H locs 0 0 Q (F0 m 73 ls []) := by
    intro v_refusedBad v_refusedNo v_refusedFull x3 H locs ls hf hP hD hS hl
    rw [f8_digestSteps_b73] at hf
    refine lv_lload_n hx hb dX8_digestSteps_73 rfl (lv_at hl 0 rfl) ?_
    obtain ⟨z1, y1⟩ := Prod.mk.inj (Option.some.inj hf)
    obtain ⟨z2, y2⟩ := Prod.mk.inj y1
    obtain ⟨z3, y3⟩ := Prod.mk.inj y2
    subst z1 z2 z3 y3
    exact hend _ _ _ _ hP hS dX8_digestSteps_74
  have J5 : ∀ (n : Nat) (v_refusedBad : Int32) (v_refusedNo : Int32) (v_refusedFull : Int32) (x3 : Int64) (x5 : Int32) (H : Heap) (locs : List Loc) (ls : Array Slot), f8_digestSteps_l5 n v_now v_refusedBad v_refusedNo v_refusedFull x3 x5 = some (r0, v_refusedBad', v_refusedNo', v_refusedFull') → va_P D vwCl (wdO cB cI cZ cO h v_now v_tried v_past_kept v_past_oldest v_past_size v_all_threads v_all_rows v_all_ended v_all_known v_all_stepsInAll v_all_count v_all_standstills v_all_wrongOnes v_all_unlikeEnds v_meetings_reached v_text_bytes v_text_length v_text_place v_text_thread v_text_kind v_text_target v_text_value v_refusedBad v_refusedNo v_refusedFull) H → va_D A (wdO cB cI cZ cO h v_now v_tried v_past_kept v_past_oldest v_past_size v_all_threads v_all_rows v_all_ended v_all_known v_all_stepsInAll v_all_count v_all_standstills v_all_wrongOnes v_all_unlikeEnds v_meetings_reached v_text_bytes v_text_length v_text_place v_text_thread v_text_kind v_text_target v_text_value v_refusedBad v_refusedNo v_refusedFull) → va_S A s.heap H locs → lv_has ls 8 [(0, .ref (h 0)), (3, .long x3), (5, .int x5)] → W p l e rm8_digestSteps s m args below meth c H locs 0 0 Q (F0 m 5 ls []) := by
    intro n
    induction n with
    | zero =>
      intro v_refusedBad v_refusedNo v_refusedFull x3 x5 H locs ls hf
      cases (show (none : Option (Int64 × Int32 × Int32 × Int32)) = some (r0, v_refusedBad', v_refusedNo', v_refusedFull') from hf)
    | succ n ih =>
      have J67 : ∀ (v_refusedBad : Int32) (v_refusedNo : Int32) (v_refusedFull : Int32) (x3 : Int64) (x5 : Int32) (H : Heap) (locs : List Loc) (ls : Array Slot), f8_digestSteps_b67 (f8_digestSteps_l5 n) v_now v_refusedBad v_refusedNo v_refusedFull x3 x5 = some (r0, v_refusedBad', v_refusedNo', v_refusedFull') → va_P D vwCl (wdO cB cI cZ cO h v_now v_tried v_past_kept v_past_oldest v_past_size v_all_threads v_all_rows v_all_ended v_all_known v_all_stepsInAll v_all_count v_all_standstills v_all_wrongOnes v_all_unlikeEnds v_meetings_reached v_text_bytes v_text_length v_text_place v_text_thread v_text_kind v_text_target v_text_value v_refusedBad v_refusedNo v_refusedFull) H → va_D A (wdO cB cI cZ cO h v_now v_tried v_past_kept v_past_oldest v_past_size v_all_threads v_all_rows v_all_ended v_all_known v_all_stepsInAll v_all_count v_all_standstills v_all_wrongOnes v_all_unlikeEnds v_meetings_reached v_text_bytes v_text_length v_text_place v_text_thread v_text_kind v_text_target v_text_value v_refusedBad v_refusedNo v_refusedFull) → va_S A s.heap H locs → lv_has ls 8 [(0, .ref (h 0)), (3, .long x3), (5, .int x5)] → W p l e rm8_digestSteps s m args below meth c H locs 0 0 Q (F0 m 67 ls []) := by
        intro v_refusedBad v_refusedNo v_refusedFull x3 x5 H locs ls hf hP hD hS hl
        rw [f8_digestSteps_b67] at hf
        refine lv_iinc (v := (x5 + 1)) (lv' := [(5, .int (x5 + 1)), (0, .ref (h 0)), (3, .long x3)]) hx hb dX8_digestSteps_67 hl (k := 2) rfl rfl (by decide) rfl (fun ls hl => ?_)
        refine lv_goto (tgt := 5) hx hb dX8_digestSteps_70 (by decide) ?_
        exact ih v_refusedBad v_refusedNo v_refusedFull x3 (x5 + 1) _ _ _ hf hP hD hS (lv_sub hl [1, 2, 0] rfl)
      have J14 : ∀ (n14 : Nat) (v_refusedBad : Int32) (v_refusedNo : Int32) (v_refusedFull : Int32) (x3 : Int64) (x5 : Int32) (x6 : Int32) (H : Heap) (locs : List Loc) (ls : Array Slot), f8_digestSteps_l14 (f8_digestSteps_l5 n) n14 v_now v_refusedBad v_refusedNo v_refusedFull x3 x5 x6 = some (r0, v_refusedBad', v_refusedNo', v_refusedFull') → va_P D vwCl (wdO cB cI cZ cO h v_now v_tried v_past_kept v_past_oldest v_past_size v_all_threads v_all_rows v_all_ended v_all_known v_all_stepsInAll v_all_count v_all_standstills v_all_wrongOnes v_all_unlikeEnds v_meetings_reached v_text_bytes v_text_length v_text_place v_text_thread v_text_kind v_text_target v_text_value v_refusedBad v_refusedNo v_refusedFull) H → va_D A (wdO cB cI cZ cO h v_now v_tried v_past_kept v_past_oldest v_past_size v_all_threads v_all_rows v_all_ended v_all_known v_all_stepsInAll v_all_count v_all_standstills v_all_wrongOnes v_all_unlikeEnds v_meetings_reached v_text_bytes v_text_length v_text_place v_text_thread v_text_kind v_text_target v_text_value v_refusedBad v_refusedNo v_refusedFull) → va_S A s.heap H locs → lv_has ls 8 [(0, .ref (h 0)), (3, .long x3), (5, .int x5), (6, .int x6)] → W p l e rm8_digestSteps s m args below meth c H locs 0 0 Q (F0 m 14 ls []) := by
        intro n14
        induction n14 with
        | zero =>
          intro v_refusedBad v_refusedNo v_refusedFull x3 x5 x6 H locs ls hf
          cases (show (none : Option (Int64 × Int32 × Int32 × Int32)) = some (r0, v_refusedBad', v_refusedNo', v_refusedFull') from hf)
        | succ n14 ih14 =>
          have J61 : ∀ (v_refusedBad : Int32) (v_refusedNo : Int32) (v_refusedFull : Int32) (x3 : Int64) (x5 : Int32) (x6 : Int32) (H : Heap) (locs : List Loc) (ls : Array Slot), f8_digestSteps_b61 (f8_digestSteps_l5 n) (f8_digestSteps_l14 (f8_digestSteps_l5 n) n14) v_now v_refusedBad v_refusedNo v_refusedFull x3 x5 x6 = some (r0, v_refusedBad', v_refusedNo', v_refusedFull') → va_P D vwCl (wdO cB cI cZ cO h v_now v_tried v_past_kept v_past_oldest v_past_size v_all_threads v_all_rows v_all_ended v_all_known v_all_stepsInAll v_all_count v_all_standstills v_all_wrongOnes v_all_unlikeEnds v_meetings_reached v_text_bytes v_text_length v_text_place v_text_thread v_text_kind v_text_target v_text_value v_refusedBad v_refusedNo v_refusedFull) H → va_D A (wdO cB cI cZ cO h v_now v_tried v_past_kept v_past_oldest v_past_size v_all_threads v_all_rows v_all_ended v_all_known v_all_stepsInAll v_all_count v_all_standstills v_all_wrongOnes v_all_unlikeEnds v_meetings_reached v_text_bytes v_text_length v_text_place v_text_thread v_text_kind v_text_target v_text_value v_refusedBad v_refusedNo v_refusedFull) → va_S A s.heap H locs → lv_has ls 8 [(0, .ref (h 0)), (3, .long x3), (5, .int x5), (6, .int x6)] → W p l e rm8_digestSteps s m args below meth c H locs 0 0 Q (F0 m 61 ls []) := by
            intro v_refusedBad v_refusedNo v_refusedFull x3 x5 x6 H locs ls hf hP hD hS hl
            rw [f8_digestSteps_b61] at hf
            refine lv_iinc (v := (x6 + 1)) (lv' := [(6, .int (x6 + 1)), (0, .ref (h 0)), (3, .long x3), (5, .int x5)]) hx hb dX8_digestSteps_61 hl (k := 3) rfl rfl (by decide) rfl (fun ls hl => ?_)
            refine lv_goto (tgt := 14) hx hb dX8_digestSteps_64 (by decide) ?_
            exact ih14 v_refusedBad v_refusedNo v_refusedFull x3 x5 (x6 + 1) _ _ _ hf hP hD hS (lv_sub hl [1, 2, 3, 0] rfl)
          have J31 : ∀ (n31 : Nat) (v_refusedBad : Int32) (v_refusedNo : Int32) (v_refusedFull : Int32) (x3 : Int64) (x5 : Int32) (x6 : Int32) (x7 : Int32) (H : Heap) (locs : List Loc) (ls : Array Slot), f8_digestSteps_l31 (f8_digestSteps_l5 n) (f8_digestSteps_l14 (f8_digestSteps_l5 n) n14) n31 v_now v_refusedBad v_refusedNo v_refusedFull x3 x5 x6 x7 = some (r0, v_refusedBad', v_refusedNo', v_refusedFull') → va_P D vwCl (wdO cB cI cZ cO h v_now v_tried v_past_kept v_past_oldest v_past_size v_all_threads v_all_rows v_all_ended v_all_known v_all_stepsInAll v_all_count v_all_standstills v_all_wrongOnes v_all_unlikeEnds v_meetings_reached v_text_bytes v_text_length v_text_place v_text_thread v_text_kind v_text_target v_text_value v_refusedBad v_refusedNo v_refusedFull) H → va_D A (wdO cB cI cZ cO h v_now v_tried v_past_kept v_past_oldest v_past_size v_all_threads v_all_rows v_all_ended v_all_known v_all_stepsInAll v_all_count v_all_standstills v_all_wrongOnes v_all_unlikeEnds v_meetings_reached v_text_bytes v_text_length v_text_place v_text_thread v_text_kind v_text_target v_text_value v_refusedBad v_refusedNo v_refusedFull) → va_S A s.heap H locs → lv_has ls 8 [(0, .ref (h 0)), (3, .long x3), (5, .int x5), (6, .int x6), (7, .int x7)] → W p l e rm8_digestSteps s m args below meth c H locs 0 0 Q (F0 m 31 ls []) := by
            intro n31
            induction n31 with
            | zero =>
              intro v_refusedBad v_refusedNo v_refusedFull x3 x5 x6 x7 H locs ls hf
              cases (show (none : Option (Int64 × Int32 × Int32 × Int32)) = some (r0, v_refusedBad', v_refusedNo', v_refusedFull') from hf)
            | succ n31 ih31 =>
              intro v_refusedBad v_refusedNo v_refusedFull x3 x5 x6 x7 H locs ls hf hP hD hS hl
              rw [f8_digestSteps_l31_s] at hf
              refine lv_iload hx hb dX8_digestSteps_31 (lv_at hl 4 rfl) ?_
              refine lv_iconst (v := 4) hx hb dX8_digestSteps_33 (by decide) ?_
              refine lv_icmp_gt (tgt := 61) hx hb dX8_digestSteps_34 (by decide) (fun c8 => ?_) (fun c8 => ?_)
              · rw [if_pos c8] at hf
                exact J61 v_refusedBad v_refusedNo v_refusedFull x3 x5 x6 _ _ _ hf hP hD hS (lv_sub hl [0, 1, 2, 3] rfl)
              · rw [if_neg c8] at hf
                refine lv_ldc2 (v := 31) hx hb hown (hts (.constantLong RX8 223 (31)) (by decide +kernel)) dX8_digestSteps_37 ?_
                refine lv_lload_n hx hb dX8_digestSteps_40 rfl (lv_at hl 1 rfl) ?_
                refine lv_lmul hx hb dX8_digestSteps_41 ?_
                refine lv_aload_n hx hb dX8_digestSteps_42 rfl (lv_at hl 0 rfl) ?_
                refine lv_iload hx hb dX8_digestSteps_43 (lv_at hl 2 rfl) ?_
                refine lv_iload hx hb dX8_digestSteps_45 (lv_at hl 3 rfl) ?_
                refine lv_iload hx hb dX8_digestSteps_47 (lv_at hl 4 rfl) ?_
                refine kb_bind hf (fun q9 hq9 hf => ?_)
                have hPc : va_P D vwCl (wdO cB cI cZ cO h v_now v_tried v_past_kept v_past_oldest v_past_size v_all_threads v_all_rows v_all_ended v_all_known v_all_stepsInAll v_all_count v_all_standstills v_all_wrongOnes v_all_unlikeEnds v_meetings_reached v_text_bytes v_text_length v_text_place v_text_thread v_text_kind v_text_target v_text_value v_refusedBad v_refusedNo v_refusedFull) H := hP.sub [0, 1, 2, 3, 4, 5, 6, 7, 8, 9, 10, 11, 12, 13, 14, 15, 16, 17, 18, 19, 20, 21, 22, 23, 24, 25, 26, 27, 28, 29, 30, 31, 32, 33] rfl
                have hDc : va_D A (wdO cB cI cZ cO h v_now v_tried v_past_kept v_past_oldest v_past_size v_all_threads v_all_rows v_all_ended v_all_known v_all_stepsInAll v_all_count v_all_standstills v_all_wrongOnes v_all_unlikeEnds v_meetings_reached v_text_bytes v_text_length v_text_place v_text_thread v_text_kind v_text_target v_text_value v_refusedBad v_refusedNo v_refusedFull) := hD.sub [0, 1, 2, 3, 4, 5, 6, 7, 8, 9, 10, 11, 12, 13, 14, 15, 16, 17, 18, 19, 20, 21, 22, 23, 24, 25, 26, 27, 28, 29, 30, 31, 32, 33] (by decide) rfl
                refine kd_iW (ws' := wdO cB cI cZ cO h v_now v_tried v_past_kept v_past_oldest v_past_size v_all_threads v_all_rows v_all_ended v_all_known v_all_stepsInAll v_all_count v_all_standstills v_all_wrongOnes v_all_unlikeEnds v_meetings_reached v_text_bytes v_text_length v_text_place v_text_thread v_text_kind v_text_target v_text_value q9.2.1 q9.2.2.1 q9.2.2.2) (va_runV (As := [.int x5, .int x6, .int x7]) (rest := [.long ((31 : Int64) * x3)]) ⟨hx, hb, hml, hown, hts⟩ (c8_of l D cB cI cZ cO h H.size x5 x6 x7 v_now v_tried v_past_kept v_past_oldest v_past_size v_all_threads v_all_rows v_all_ended v_all_known v_all_stepsInAll v_all_count v_all_standstills v_all_wrongOnes v_all_unlikeEnds v_meetings_reached v_text_bytes v_text_length v_text_place v_text_thread v_text_kind v_text_target v_text_value v_refusedBad v_refusedNo v_refusedFull q9.1 q9.2.1 q9.2.2.1 q9.2.2.2 hq9) (cwV 3 hts gX8_digestSteps_X8_of rfl rfl rfl (by decide +kernel) ⟨Nat.le_of_ble_eq_true rfl, Nat.le_of_ble_eq_true rfl⟩) ⟨kb_blind, va_recv hK hPc (ci := 5) (q0 := 0) rfl rfl, kb_pre hPc hDc hK hN⟩ rfl rfl hl.1 rfl (lv_room (Nat.le_of_ble_eq_true rfl)) dX8_digestSteps_49 ⟨Nat.le_refl _, Nat.le_refl _⟩) hP hD hS hA [0, 1, 2, 3, 4, 5, 6, 7, 8, 9, 10, 11, 12, 13, 14, 15, 16, 17, 18, 19, 20, 21, 22, 23, 24, 25, 26, 27, 28, 29, 30, 31, 32, 33] [] rfl rfl (fun _ h9 => absurd h9 List.not_mem_nil) rfl rfl (fun H locs hn10 hP hD hS => ?_)
                refine lv_i2l (v := q9.1.toInt64) hx hb dX8_digestSteps_52 rfl ?_
                refine lv_ladd hx hb dX8_digestSteps_53 ?_
                refine lv_lstore_n (lv' := [(3, .long (((31 : Int64) * x3) + q9.1.toInt64)), (0, .ref (h 0)), (5, .int x5), (6, .int x6), (7, .int x7)]) hx hb dX8_digestSteps_54 rfl hl (by decide) rfl (fun ls hl => ?_)
                refine lv_iinc (v := (x7 + 1)) (lv' := [(7, .int (x7 + 1)), (3, .long (((31 : Int64) * x3) + q9.1.toInt64)), (0, .ref (h 0)), (5, .int x5), (6, .int x6)]) hx hb dX8_digestSteps_55 hl (k := 4) rfl rfl (by decide) rfl (fun ls hl => ?_)
                refine lv_goto (tgt := 31) hx hb dX8_digestSteps_58 (by decide) ?_
                exact ih31 q9.2.1 q9.2.2.1 q9.2.2.2 (((31 : Int64) * x3) + q9.1.toInt64) x5 x6 (x7 + 1) _ _ _ hf hP hD hS (lv_sub hl [2, 1, 3, 4, 0] rfl)
          intro v_refusedBad v_refusedNo v_refusedFull x3 x5 x6 H locs ls hf hP hD hS hl
          rw [f8_digestSteps_l14_s] at hf
          refine lv_iload hx hb dX8_digestSteps_14 (lv_at hl 3 rfl) ?_
          refine lv_aload_n hx hb dX8_digestSteps_16 rfl (lv_at hl 0 rfl) ?_
          refine va_get (D := D) (cl := vwCl) (ci := 5) (v := .ref (h 1)) (C := RX8) (T := TX8) (N := 9) hx hb hts hin8 hown hK hP 0 rfl rfl 0 (by decide) (hts (.fieldLink RX8 12 "StepOrders" "now" "LStepOrders$State;") (by decide +kernel)) (fun _ h9 => h9) rfl dX8_digestSteps_17 ?_
          refine lv_iload hx hb dX8_digestSteps_20 (lv_at hl 2 rfl) ?_
          refine kb_bind hf (fun q11 hq11 hf => ?_)
          have hPc : va_P D vwCl (wdS cI h 1 v_now) H := hP.sub [1, 2, 3] rfl
          have hDc : va_D A (wdS cI h 1 v_now) := hD.sub [1, 2, 3] (by decide) rfl
          refine kd_iR (va_runV (As := [.int x5]) (rest := [.int x6]) ⟨hx, hb, hml, hown, hts⟩ (c5_stepsOf l D cB cI cZ cO h 1 H.size x5 v_now q11 hq11) (cwV 1 hts gX8_digestSteps_X5_stepsOf rfl rfl rfl (by decide +kernel) ⟨Nat.le_of_ble_eq_true rfl, Nat.le_of_ble_eq_true rfl⟩) ⟨kb_blind, va_recv hK hPc (ci := 3) (q0 := 0) rfl rfl, kb_pre hPc hDc hK hN⟩ rfl rfl hl.1 rfl (lv_room (Nat.le_of_ble_eq_true rfl)) dX8_digestSteps_22 ⟨Nat.le_refl _, Nat.le_refl _⟩) hP hD hS hA [1, 2, 3] rfl (fun H locs hn12 hP hS => ?_)
          refine lv_icmp_ge (tgt := 67) hx hb dX8_digestSteps_25 (by decide) (fun c13 => ?_) (fun c13 => ?_)
          · rw [if_pos c13] at hf
            exact J67 v_refusedBad v_refusedNo v_refusedFull x3 x5 _ _ _ hf hP hD hS (lv_sub hl [0, 1, 2] rfl)
          · rw [if_neg c13] at hf
            refine lv_iconst (v := 0) hx hb dX8_digestSteps_28 (by decide) ?_
            refine lv_istore (lv' := [(7, .int (0 : Int32)), (0, .ref (h 0)), (3, .long x3), (5, .int x5), (6, .int x6)]) hx hb dX8_digestSteps_29 hl (by decide) rfl (fun ls hl => ?_)
            exact J31 kFUEL v_refusedBad v_refusedNo v_refusedFull x3 x5 x6 (0 : Int32) _ _ _ hf hP hD hS (lv_sub hl [1, 2, 3, 4, 0] rfl)
      intro v_refusedBad v_refusedNo v_refusedFull x3 x5 H locs ls hf hP hD hS hl
      rw [f8_digestSteps_l5_s] at hf
      refine lv_iload hx hb dX8_digestSteps_5 (lv_at hl 2 rfl) ?_
      refine lv_iconst (v := 3) hx hb dX8_digestSteps_7 (by decide) ?_
      refine lv_icmp_ge (tgt := 73) hx hb dX8_digestSteps_8 (by decide) (fun c14 => ?_) (fun c14 => ?_)
      · rw [if_pos c14] at hf
        exact J73 v_refusedBad v_refusedNo v_refusedFull x3 _ _ _ hf hP hD hS (lv_sub hl [1] rfl)
      · rw [if_neg c14] at hf
        refine lv_iconst (v := 0) hx hb dX8_digestSteps_11 (by decide) ?_
        refine lv_istore (lv' := [(6, .int (0 : Int32)), (0, .ref (h 0)), (3, .long x3), (5, .int x5)]) hx hb dX8_digestSteps_12 hl (by decide) rfl (fun ls hl => ?_)
        exact J14 kFUEL v_refusedBad v_refusedNo v_refusedFull x3 x5 (0 : Int32) _ _ _ hf hP hD hS (lv_sub hl [1, 2, 3, 0] rfl)
  rw [f8_digestSteps] at hf
  refine lv_lload_n hx hb dX8_digestSteps_0 rfl (lv_at hl 1 rfl) ?_
  refine lv_lstore_n (lv' := [(3, .long x1), (0, .ref (h 0)), (1, .long x1)]) hx hb dX8_digestSteps_1 rfl hl (by decide) rfl (fun ls hl => ?_)
  refine lv_iconst (v := 0) hx hb dX8_digestSteps_2 (by decide) ?_
  refine lv_istore (lv' := [(5, .int (0 : Int32)), (3, .long x1), (0, .ref (h 0)), (1, .long x1)]) hx hb dX8_digestSteps_3 hl (by decide) rfl (fun ls hl => ?_)
  exact J5 kFUEL v_refusedBad v_refusedNo v_refusedFull x1 (0 : Int32) _ _ _ hf hP hD hS (lv_sub hl [2, 1, 0] rfl)

set_option maxHeartbeats 4000000 in
set_option maxRecDepth 100000 in
theorem c8_digestEnds (l : Launch) (D : va_G) (cB cI cZ cO : ClassId) (h : Nat → Nat) (sz : Nat) (x1 : Int64) (v_now : sT) (v_tried : sT) (v_past_kept : Nat → sT) (v_past_oldest : Int32) (v_past_size : Int32) (v_all_threads : sT) (v_all_rows : Nat → Int32) (v_all_ended : Nat → Int32) (v_all_known : Int32) (v_all_stepsInAll : Int32) (v_all_count : Int32) (v_all_standstills : Int32) (v_all_wrongOnes : Int32) (v_all_unlikeEnds : Int32) (v_meetings_reached : Nat → Int32) (v_text_bytes : Nat → Int32) (v_text_length : Int32) (v_text_place : Int32) (v_text_thread : Int32) (v_text_kind : Int32) (v_text_target : Int32) (v_text_value : Int32) (v_refusedBad : Int32) (v_refusedNo : Int32) (v_refusedFull : Int32) (r0 : Int64) (hf : f8_digestEnds v_all_ended x1 = some r0) : Met l yX8_digestEnds wsX8_digestEnds rm8_digestEnds (va_Pc [.ref (h 0), .long x1] (kb_B D (ka_tys cB cI cZ cO) sz (wdO cB cI cZ cO h v_now v_tried v_past_kept v_past_oldest v_past_size v_all_threads v_all_rows v_all_ended v_all_known v_all_stepsInAll v_all_count v_all_standstills v_all_wrongOnes v_all_unlikeEnds v_meetings_reached v_text_bytes v_text_length v_text_place v_text_thread v_text_kind v_text_target v_text_value v_refusedBad v_refusedNo v_refusedFull))) (va_Ql (fun r (_ : Unit) => r = r0) (fun _ t => va_P D vwCl (wdO cB cI cZ cO h v_now v_tried v_past_kept v_past_oldest v_past_size v_all_threads v_all_rows v_all_ended v_all_known v_all_stepsInAll v_all_count v_all_standstills v_all_wrongOnes v_all_unlikeEnds v_meetings_reached v_text_bytes v_text_length v_text_place v_text_thread v_text_kind v_text_target v_text_value v_refusedBad v_refusedNo v_refusedFull) t.heap) (va_A (wdO cB cI cZ cO h v_now v_tried v_past_kept v_past_oldest v_past_size v_all_threads v_all_rows v_all_ended v_all_known v_all_stepsInAll v_all_count v_all_standstills v_all_wrongOnes v_all_unlikeEnds v_meetings_reached v_text_bytes v_text_length v_text_place v_text_thread v_text_kind v_text_target v_text_value v_refusedBad v_refusedNo v_refusedFull) sz)) 0 0 (va_A (wdO cB cI cZ cO h v_now v_tried v_past_kept v_past_oldest v_past_size v_all_threads v_all_rows v_all_ended v_all_known v_all_stepsInAll v_all_count v_all_standstills v_all_wrongOnes v_all_unlikeEnds v_meetings_reached v_text_bytes v_text_length v_text_place v_text_thread v_text_kind v_text_target v_text_value v_refusedBad v_refusedNo v_refusedFull) sz) := by
  refine kb_metL (cc := cX8_digestEnds) (maxL := 6) (by decide) rfl (Nat.le_of_ble_eq_true rfl) ?_
  intro p e s m args below meth c Q A ls H hx hb hml hown hts hK hN hP hD hS hA hl hend
  have hown : s.vm.findClass RX8 = some m.cls := hown
  have hl : lv_has ls 6 [(0, .ref (h 0)), (1, .long x1)] := hl
  have hin8 : ∀ w ∈ u_ws RX8 TX8 9, w ∈ wsX8_digestEnds := by decide +kernel
  have J41 : ∀ (x3 : Int64) (H : Heap) (locs : List Loc) (ls : Array Slot), f8_digestEnds_b41 v_all_ended x3 = some r0 → va_P D vwCl (wdO cB cI cZ cO h v_now v_tried v_past_kept v_past_oldest v_past_size v_all_threads v_all_rows v_all_ended v_all_known v_all_stepsInAll v_all_count v_all_standstills v_all_wrongOnes v_all_unlikeEnds v_meetings_reached v_text_bytes v_text_length v_text_place v_text_thread v_text_kind v_text_target v_text_value v_refusedBad v_refusedNo v_refusedFull) H → va_D A (wdO cB cI cZ cO h v_now v_tried v_past_kept v_past_oldest v_past_size v_all_threads v_all_rows v_all_ended v_all_known v_all_stepsInAll v_all_count v_all_standstills v_all_wrongOnes v_all_unlikeEnds v_meetings_reached v_text_bytes v_text_length v_text_place v_text_thread v_text_kind v_text_target v_text_value v_refusedBad v_refusedNo v_refusedFull) → va_S A s.heap H locs → lv_has ls 6 [(3, .long x3)] → W p l e rm8_digestEnds s m args below meth c H locs 0 0 Q (F0 m 41 ls []) := by
    intro x3 H locs ls hf hP hD hS hl
    rw [f8_digestEnds_b41] at hf
    refine lv_lload_n hx hb dX8_digestEnds_41 rfl (lv_at hl 0 rfl) ?_
    obtain rfl := Option.some.inj hf
    exact hend _ _ _ _ hP hS dX8_digestEnds_42
  have J5 : ∀ (n : Nat) (x3 : Int64) (x5 : Int32) (H : Heap) (locs : List Loc) (ls : Array Slot), f8_digestEnds_l5 n v_all_ended x3 x5 = some r0 → va_P D vwCl (wdO cB cI cZ cO h v_now v_tried v_past_kept v_past_oldest v_past_size v_all_threads v_all_rows v_all_ended v_all_known v_all_stepsInAll v_all_count v_all_standstills v_all_wrongOnes v_all_unlikeEnds v_meetings_reached v_text_bytes v_text_length v_text_place v_text_thread v_text_kind v_text_target v_text_value v_refusedBad v_refusedNo v_refusedFull) H → va_D A (wdO cB cI cZ cO h v_now v_tried v_past_kept v_past_oldest v_past_size v_all_threads v_all_rows v_all_ended v_all_known v_all_stepsInAll v_all_count v_all_standstills v_all_wrongOnes v_all_unlikeEnds v_meetings_reached v_text_bytes v_text_length v_text_place v_text_thread v_text_kind v_text_target v_text_value v_refusedBad v_refusedNo v_refusedFull) → va_S A s.heap H locs → lv_has ls 6 [(0, .ref (h 0)), (3, .long x3), (5, .int x5)] → W p l e rm8_digestEnds s m args below meth c H locs 0 0 Q (F0 m 5 ls []) := by
    intro n
    induction n with
    | zero =>
      intro x3 x5 H locs ls hf
      cases (show (none : Option (Int64)) = some r0 from hf)
    | succ n ih =>
      have J35 : ∀ (x3 : Int64) (x5 : Int32) (H : Heap) (locs : List Loc) (ls : Array Slot), f8_digestEnds_b35 (f8_digestEnds_l5 n) v_all_ended x3 x5 = some r0 → va_P D vwCl (wdO cB cI cZ cO h v_now v_tried v_past_kept v_past_oldest v_past_size v_all_threads v_all_rows v_all_ended v_all_known v_all_stepsInAll v_all_count v_all_standstills v_all_wrongOnes v_all_unlikeEnds v_meetings_reached v_text_bytes v_text_length v_text_place v_text_thread v_text_kind v_text_target v_text_value v_refusedBad v_refusedNo v_refusedFull) H → va_D A (wdO cB cI cZ cO h v_now v_tried v_past_kept v_past_oldest v_past_size v_all_threads v_all_rows v_all_ended v_all_known v_all_stepsInAll v_all_count v_all_standstills v_all_wrongOnes v_all_unlikeEnds v_meetings_reached v_text_bytes v_text_length v_text_place v_text_thread v_text_kind v_text_target v_text_value v_refusedBad v_refusedNo v_refusedFull) → va_S A s.heap H locs → lv_has ls 6 [(0, .ref (h 0)), (3, .long x3), (5, .int x5)] → W p l e rm8_digestEnds s m args below meth c H locs 0 0 Q (F0 m 35 ls []) := by
        intro x3 x5 H locs ls hf hP hD hS hl
        rw [f8_digestEnds_b35] at hf
        refine lv_iinc (v := (x5 + 1)) (lv' := [(5, .int (x5 + 1)), (0, .ref (h 0)), (3, .long x3)]) hx hb dX8_digestEnds_35 hl (k := 2) rfl rfl (by decide) rfl (fun ls hl => ?_)
        refine lv_goto (tgt := 5) hx hb dX8_digestEnds_38 (by decide) ?_
        exact ih x3 (x5 + 1) _ _ _ hf hP hD hS (lv_sub hl [1, 2, 0] rfl)
      intro x3 x5 H locs ls hf hP hD hS hl
      rw [f8_digestEnds_l5_s] at hf
      refine lv_iload hx hb dX8_digestEnds_5 (lv_at hl 2 rfl) ?_
      refine lv_sipush (v := 10000) hx hb dX8_digestEnds_7 (by decide) ?_
      refine lv_icmp_ge (tgt := 41) hx hb dX8_digestEnds_10 (by decide) (fun c5 => ?_) (fun c5 => ?_)
      · rw [if_pos c5] at hf
        exact J41 x3 _ _ _ hf hP hD hS (lv_sub hl [1] rfl)
      · rw [if_neg c5] at hf
        refine lv_aload_n hx hb dX8_digestEnds_13 rfl (lv_at hl 0 rfl) ?_
        refine va_get (D := D) (cl := vwCl) (ci := 5) (v := .ref (h 24)) (C := RX8) (T := TX8) (N := 9) hx hb hts hin8 hown hK hP 0 rfl rfl 3 (by decide) (hts (.fieldLink RX8 29 "StepOrders" "all" "LStepOrders$AllOrders;") (by decide +kernel)) (fun _ h9 => h9) rfl dX8_digestEnds_14 ?_
        refine lv_iload hx hb dX8_digestEnds_17 (lv_at hl 2 rfl) ?_
        refine kb_bind hf (fun q6 hq6 hf => ?_)
        have hPc : va_P D vwCl (wdA cI cZ h 24 v_all_threads v_all_rows v_all_ended v_all_known v_all_stepsInAll v_all_count v_all_standstills v_all_wrongOnes v_all_unlikeEnds) H := hP.sub [24, 25, 26, 27, 28, 29] rfl
        have hDc : va_D A (wdA cI cZ h 24 v_all_threads v_all_rows v_all_ended v_all_known v_all_stepsInAll v_all_count v_all_standstills v_all_wrongOnes v_all_unlikeEnds) := hD.sub [24, 25, 26, 27, 28, 29] (by decide) rfl
        refine kd_iR (va_runV (As := [.int x5]) (rest := []) ⟨hx, hb, hml, hown, hts⟩ (c0_endsAt l D cB cI cZ cO h 24 H.size x5 v_all_threads v_all_rows v_all_ended v_all_known v_all_stepsInAll v_all_count v_all_standstills v_all_wrongOnes v_all_unlikeEnds q6 hq6) (cwV 1 hts gX8_digestEnds_X0_endsAt rfl rfl rfl (by decide +kernel) ⟨Nat.le_of_ble_eq_true rfl, Nat.le_of_ble_eq_true rfl⟩) ⟨kb_blind, va_recv hK hPc (ci := 0) (q0 := 0) rfl rfl, kb_pre hPc hDc hK hN⟩ rfl rfl hl.1 rfl (lv_room (Nat.le_of_ble_eq_true rfl)) dX8_digestEnds_19 ⟨Nat.le_refl _, Nat.le_refl _⟩) hP hD hS hA [24, 25, 26, 27, 28, 29] rfl (fun H locs hn7 hP hS => ?_)
        refine lv_if_eq (tgt := 35) hx hb dX8_digestEnds_22 (by decide) (fun c8 => ?_) (fun c8 => ?_)
        · rw [if_pos c8] at hf
          exact J35 x3 x5 _ _ _ hf hP hD hS (lv_sub hl [0, 1, 2] rfl)
        · rw [if_neg c8] at hf
          refine lv_ldc2 (v := 31) hx hb hown (hts (.constantLong RX8 223 (31)) (by decide +kernel)) dX8_digestEnds_25 ?_
          refine lv_lload_n hx hb dX8_digestEnds_28 rfl (lv_at hl 1 rfl) ?_
          refine lv_lmul hx hb dX8_digestEnds_29 ?_
          refine lv_iload hx hb dX8_digestEnds_30 (lv_at hl 2 rfl) ?_
          refine lv_i2l (v := x5.toInt64) hx hb dX8_digestEnds_32 rfl ?_
          refine lv_ladd hx hb dX8_digestEnds_33 ?_
          refine lv_lstore_n (lv' := [(3, .long (((31 : Int64) * x3) + x5.toInt64)), (0, .ref (h 0)), (5, .int x5)]) hx hb dX8_digestEnds_34 rfl hl (by decide) rfl (fun ls hl => ?_)
          exact J35 (((31 : Int64) * x3) + x5.toInt64) x5 _ _ _ hf hP hD hS (lv_sub hl [1, 0, 2] rfl)
  rw [f8_digestEnds] at hf
  refine lv_lload_n hx hb dX8_digestEnds_0 rfl (lv_at hl 1 rfl) ?_
  refine lv_lstore_n (lv' := [(3, .long x1), (0, .ref (h 0)), (1, .long x1)]) hx hb dX8_digestEnds_1 rfl hl (by decide) rfl (fun ls hl => ?_)
  refine lv_iconst (v := 0) hx hb dX8_digestEnds_2 (by decide) ?_
  refine lv_istore (lv' := [(5, .int (0 : Int32)), (3, .long x1), (0, .ref (h 0)), (1, .long x1)]) hx hb dX8_digestEnds_3 hl (by decide) rfl (fun ls hl => ?_)
  exact J5 kFUEL x1 (0 : Int32) _ _ _ hf hP hD hS (lv_sub hl [2, 1, 0] rfl)
