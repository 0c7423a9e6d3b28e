set_option maxHeartbeats 4000000 in
set_option maxRecDepth 100000 in
theorem c8_sort (l : Launch) (D : va_G) (cB cI cZ cO : ClassId) (h : Nat → Nat) (sz : Nat) (x1 : Int32) (x2 : Int32) (v_now : sT) (v_tried : sT) (v_past_kept : Nat → sT) (v_past_oldest : Int32) (v_past_size : Int32) (v_all_threads : sT) (v_all_rows : Nat → Int32) (v_all_ended : Nat → Int32) (v_all_known : Int32) (v_all_stepsInAll : Int32) (v_all_count : Int32) (v_all_standstills : Int32) (v_all_wrongOnes : Int32) (v_all_unlikeEnds : Int32) (v_meetings_reached : Nat → Int32) (v_text_bytes : Nat → Int32) (v_text_length : Int32) (v_text_place : Int32) (v_text_thread : Int32) (v_text_kind : Int32) (v_text_target : Int32) (v_text_value : Int32) (v_refusedBad : Int32) (v_refusedNo : Int32) (v_refusedFull : Int32) (r0 : Int32) (v_all_threads' : sT) (v_all_rows' : Nat → Int32) (v_all_ended' : Nat → Int32) (v_all_known' : Int32) (v_all_stepsInAll' : Int32) (v_all_count' : Int32) (v_all_standstills' : Int32) (v_all_wrongOnes' : Int32) (v_all_unlikeEnds' : Int32) (v_refusedBad' : Int32) (v_refusedNo' : Int32) (v_refusedFull' : Int32) (hf : f8_sort v_now v_all_threads v_all_rows v_all_ended v_all_known v_all_stepsInAll v_all_count v_all_standstills v_all_wrongOnes v_all_unlikeEnds v_refusedBad v_refusedNo v_refusedFull x1 x2 = some (r0, v_all_threads', v_all_rows', v_all_ended', v_all_known', v_all_stepsInAll', v_all_count', v_all_standstills', v_all_wrongOnes', v_all_unlikeEnds', v_refusedBad', v_refusedNo', v_refusedFull')) : Met l yX8_sort wsX8_sort rm8_sort (va_Pc [.ref (h 0), .int x1, .int x2] (kb_B D (ka_tys cB cI cZ cO) sz (wdO cB cI cZ cO h v_now v_tried v_past_kept v_past_oldest v_past_size v_all_threads v_all_rows v_all_ended v_all_known v_all_stepsInAll v_all_count v_all_standstills v_all_wrongOnes v_all_unlikeEnds v_meetings_reached v_text_bytes v_text_length v_text_place v_text_thread v_text_kind v_text_target v_text_value v_refusedBad v_refusedNo v_refusedFull))) (va_Qi (kb_post .int r0) (fun _ t => va_P D vwCl (wdO cB cI cZ cO h v_now v_tried v_past_kept v_past_oldest v_past_size (v_all_threads') (v_all_rows') (v_all_ended') (v_all_known') (v_all_stepsInAll') (v_all_count') (v_all_standstills') (v_all_wrongOnes') (v_all_unlikeEnds') v_meetings_reached v_text_bytes v_text_length v_text_place v_text_thread v_text_kind v_text_target v_text_value (v_refusedBad') (v_refusedNo') (v_refusedFull')) t.heap) (va_A (wdO cB cI cZ cO h v_now v_tried v_past_kept v_past_oldest v_past_size v_all_threads v_all_rows v_all_ended v_all_known v_all_stepsInAll v_all_count v_all_standstills v_all_wrongOnes v_all_unlikeEnds v_meetings_reached v_text_bytes v_text_length v_text_place v_text_thread v_text_kind v_text_target v_text_value v_refusedBad v_refusedNo v_refusedFull) sz)) 0 0 (va_A (wdO cB cI cZ cO h v_now v_tried v_past_kept v_past_oldest v_past_size v_all_threads v_all_rows v_all_ended v_all_known v_all_stepsInAll v_all_count v_all_standstills v_all_wrongOnes v_all_unlikeEnds v_meetings_reached v_text_bytes v_text_length v_text_place v_text_thread v_text_kind v_text_target v_text_value v_refusedBad v_refusedNo v_refusedFull) sz) := by
  refine kb_metZ (cc := cX8_sort) (maxL := 4) (ty := .int) (by decide) rfl (Nat.le_of_ble_eq_true rfl) ?_
  intro p e s m args below meth c Q A ls H hx hb hml hown hts hK hN hP hD hS hA hl hend
  have hown : s.vm.findClass RX8 = some m.cls := hown
  have hl : lv_has ls 4 [(0, .ref (h 0)), (1, .int x1), (2, .int x2)] := hl
  have hin8 : ∀ w ∈ u_ws RX8 TX8 9, w ∈ wsX8_sort := by decide +kernel
  have J12 : ∀ (v_all_threads : sT) (v_all_rows : Nat → Int32) (v_all_ended : Nat → Int32) (v_all_known : Int32) (v_all_stepsInAll : Int32) (v_all_count : Int32) (v_all_standstills : Int32) (v_all_wrongOnes : Int32) (v_all_unlikeEnds : Int32) (v_refusedBad : Int32) (v_refusedNo : Int32) (v_refusedFull : Int32) (H : Heap) (locs : List Loc) (ls : Array Slot), f8_sort_b12 v_now v_all_threads v_all_rows v_all_ended v_all_known v_all_stepsInAll v_all_count v_all_standstills v_all_wrongOnes v_all_unlikeEnds v_refusedBad v_refusedNo v_refusedFull = some (r0, v_all_threads', v_all_rows', v_all_ended', v_all_known', v_all_stepsInAll', v_all_count', v_all_standstills', v_all_wrongOnes', v_all_unlikeEnds', v_refusedBad', v_refusedNo', v_refusedFull') → va_P D vwCl (wdO cB cI cZ cO h v_now v_tried v_past_kept v_past_oldest v_past_size v_all_threads v_all_rows v_all_ended v_all_known v_all_stepsInAll v_all_count v_all_standstills v_all_wrongOnes v_all_unlikeEnds v_meetings_reached v_text_bytes v_text_length v_text_place v_text_thread v_text_kind v_text_target v_text_value v_refusedBad v_refusedNo v_refusedFull) H → va_D A (wdO cB cI cZ cO h v_now v_tried v_past_kept v_past_oldest v_past_size v_all_threads v_all_rows v_all_ended v_all_known v_all_stepsInAll v_all_count v_all_standstills v_all_wrongOnes v_all_unlikeEnds v_meetings_reached v_text_bytes v_text_length v_text_place v_text_thread v_text_kind v_text_target v_text_value v_refusedBad v_refusedNo v_refusedFull) → va_S A s.heap H locs → lv_has ls 4 [(0, .ref (h 0))] → W p l e rm8_sort s m args below meth c H locs 0 0 Q (F0 m 12 ls []) := by
    intro v_all_threads v_all_rows v_all_ended v_all_known v_all_stepsInAll v_all_count v_all_standstills v_all_wrongOnes v_all_unlikeEnds v_refusedBad v_refusedNo v_refusedFull H locs ls hf hP hD hS hl
    rw [f8_sort_b12] at hf
    refine lv_aload_n hx hb dX8_sort_12 rfl (lv_at hl 0 rfl) ?_
    refine lv_bipush (v := (-2)) hx hb dX8_sort_13 (by decide) ?_
    refine kb_bind hf (fun q3 hq3 hf => ?_)
    have hPc : va_P D vwCl (wdO cB cI cZ cO h v_now v_tried v_past_kept v_past_oldest v_past_size v_all_threads v_all_rows v_all_ended v_all_known v_all_stepsInAll v_all_count v_all_standstills v_all_wrongOnes v_all_unlikeEnds v_meetings_reached v_text_bytes v_text_length v_text_place v_text_thread v_text_kind v_text_target v_text_value v_refusedBad v_refusedNo v_refusedFull) H := hP.sub [0, 1, 2, 3, 4, 5, 6, 7, 8, 9, 10, 11, 12, 13, 14, 15, 16, 17, 18, 19, 20, 21, 22, 23, 24, 25, 26, 27, 28, 29, 30, 31, 32, 33] rfl
    have hDc : va_D A (wdO cB cI cZ cO h v_now v_tried v_past_kept v_past_oldest v_past_size v_all_threads v_all_rows v_all_ended v_all_known v_all_stepsInAll v_all_count v_all_standstills v_all_wrongOnes v_all_unlikeEnds v_meetings_reached v_text_bytes v_text_length v_text_place v_text_thread v_text_kind v_text_target v_text_value v_refusedBad v_refusedNo v_refusedFull) := hD.sub [0, 1, 2, 3, 4, 5, 6, 7, 8, 9, 10, 11, 12, 13, 14, 15, 16, 17, 18, 19, 20, 21, 22, 23, 24, 25, 26, 27, 28, 29, 30, 31, 32, 33] (by decide) rfl
    refine kd_iW (ws' := wdO cB cI cZ cO h v_now v_tried v_past_kept v_past_oldest v_past_size v_all_threads v_all_rows v_all_ended v_all_known v_all_stepsInAll v_all_count v_all_standstills v_all_wrongOnes v_all_unlikeEnds v_meetings_reached v_text_bytes v_text_length v_text_place v_text_thread v_text_kind v_text_target v_text_value q3.2.1 q3.2.2.1 q3.2.2.2) (va_runV (As := [.int (-2 : Int32)]) (rest := []) ⟨hx, hb, hml, hown, hts⟩ (c8_refused l D cB cI cZ cO h H.size (-2 : Int32) v_now v_tried v_past_kept v_past_oldest v_past_size v_all_threads v_all_rows v_all_ended v_all_known v_all_stepsInAll v_all_count v_all_standstills v_all_wrongOnes v_all_unlikeEnds v_meetings_reached v_text_bytes v_text_length v_text_place v_text_thread v_text_kind v_text_target v_text_value v_refusedBad v_refusedNo v_refusedFull q3.1 q3.2.1 q3.2.2.1 q3.2.2.2 hq3) (cwV 1 hts gX8_sort_X8_refused rfl rfl rfl (by decide +kernel) ⟨Nat.le_of_ble_eq_true rfl, Nat.le_of_ble_eq_true rfl⟩) ⟨kb_blind, va_recv hK hPc (ci := 5) (q0 := 0) rfl rfl, kb_pre hPc hDc hK hN⟩ rfl rfl hl.1 rfl (lv_room (Nat.le_of_ble_eq_true rfl)) dX8_sort_15 ⟨Nat.le_refl _, Nat.le_refl _⟩) hP hD hS hA [0, 1, 2, 3, 4, 5, 6, 7, 8, 9, 10, 11, 12, 13, 14, 15, 16, 17, 18, 19, 20, 21, 22, 23, 24, 25, 26, 27, 28, 29, 30, 31, 32, 33] [] rfl rfl (fun _ h9 => absurd h9 List.not_mem_nil) rfl rfl (fun H locs hn4 hP hD hS => ?_)
    obtain ⟨z1, y1⟩ := Prod.mk.inj (Option.some.inj hf)
    obtain ⟨z2, y2⟩ := Prod.mk.inj y1
    obtain ⟨z3, y3⟩ := Prod.mk.inj y2
    obtain ⟨z4, y4⟩ := Prod.mk.inj y3
    obtain ⟨z5, y5⟩ := Prod.mk.inj y4
    obtain ⟨z6, y6⟩ := Prod.mk.inj y5
    obtain ⟨z7, y7⟩ := Prod.mk.inj y6
    obtain ⟨z8, y8⟩ := Prod.mk.inj y7
    obtain ⟨z9, y9⟩ := Prod.mk.inj y8
    obtain ⟨z10, y10⟩ := Prod.mk.inj y9
    obtain ⟨z11, y11⟩ := Prod.mk.inj y10
    obtain ⟨z12, y12⟩ := Prod.mk.inj y11
    subst z1 z2 z3 z4 z5 z6 z7 z8 z9 z10 z11 z12 y12
    exact hend _ _ _ _ rfl hP hS dX8_sort_18
  rw [f8_sort] at hf
  refine lv_iload_n hx hb dX8_sort_0 rfl (lv_at hl 1 rfl) ?_
  refine lv_if_lt (tgt := 12) hx hb dX8_sort_1 (by decide) (fun c5 => ?_) (fun c5 => ?_)
  · rw [if_pos c5] at hf
    exact J12 v_all_threads v_all_rows v_all_ended v_all_known v_all_stepsInAll v_all_count v_all_standstills v_all_wrongOnes v_all_unlikeEnds v_refusedBad v_refusedNo v_refusedFull _ _ _ hf hP hD hS (lv_sub hl [0] rfl)
  · rw [if_neg c5] at hf
    refine lv_iload_n hx hb dX8_sort_4 rfl (lv_at hl 2 rfl) ?_
    refine lv_iconst (v := 3) hx hb dX8_sort_5 (by decide) ?_
    have hPc : va_P D vwCl ([]) H := hP.sub [] rfl
    have hDc : va_D A ([]) := hD.sub [] (by decide) rfl
    refine kd_iR (va_runS (As := [.int x2, .int (3 : Int32)]) (rest := []) ⟨hx, hb, hml, hown, hts⟩ (c8_below l D cB cI cZ cO h H.size x2 (3 : Int32) (f8_below x2 (3 : Int32)) rfl) (va_cwS 2 hts gX8_sort_X8_below rfl rfl rfl (by decide +kernel) ⟨Nat.le_of_ble_eq_true rfl, Nat.le_of_ble_eq_true rfl⟩) ⟨kb_blind, kb_pre hPc hDc hK hN⟩ rfl rfl hl.1 rfl (lv_room (Nat.le_of_ble_eq_true rfl)) dX8_sort_6 ⟨Nat.le_refl _, Nat.le_refl _⟩) hP hD hS hA [] rfl (fun H locs hn6 hP hS => ?_)
    refine lv_if_ne (tgt := 19) hx hb dX8_sort_9 (by decide) (fun c7 => ?_) (fun c7 => ?_)
    · rw [if_neg c7] at hf
      refine lv_aload_n hx hb dX8_sort_19 rfl (lv_at hl 0 rfl) ?_
      refine va_get (D := D) (cl := vwCl) (ci := 5) (v := .ref (h 24)) (C := RX8) (T := TX8) (N := 9) hx hb hts hin8 hown hK hP 0 rfl rfl 3 (by decide) (hts (.fieldLink RX8 29 "StepOrders" "all" "LStepOrders$AllOrders;") (by decide +kernel)) (fun _ h9 => h9) rfl dX8_sort_20 ?_
      refine lv_aload_n hx hb dX8_sort_23 rfl (lv_at hl 0 rfl) ?_
      refine va_get (D := D) (cl := vwCl) (ci := 5) (v := .ref (h 1)) (C := RX8) (T := TX8) (N := 9) hx hb hts hin8 hown hK hP 0 rfl rfl 0 (by decide) (hts (.fieldLink RX8 12 "StepOrders" "now" "LStepOrders$State;") (by decide +kernel)) (fun _ h9 => h9) rfl dX8_sort_24 ?_
      refine kb_bind hf (fun q8 hq8 hf => ?_)
      have hPc : va_P D vwCl (wdA cI cZ h 24 v_all_threads v_all_rows v_all_ended v_all_known v_all_stepsInAll v_all_count v_all_standstills v_all_wrongOnes v_all_unlikeEnds ++ wdS cI h 1 v_now) H := hP.sub [24, 25, 26, 27, 28, 29, 1, 2, 3] rfl
      have hDc : va_D A (wdA cI cZ h 24 v_all_threads v_all_rows v_all_ended v_all_known v_all_stepsInAll v_all_count v_all_standstills v_all_wrongOnes v_all_unlikeEnds ++ wdS cI h 1 v_now) := hD.sub [24, 25, 26, 27, 28, 29, 1, 2, 3] (by decide) rfl
      refine kd_vW (ws' := wdO cB cI cZ cO h v_now v_tried v_past_kept v_past_oldest v_past_size q8.1 q8.2.1 q8.2.2.1 q8.2.2.2.1 q8.2.2.2.2.1 q8.2.2.2.2.2.1 q8.2.2.2.2.2.2.1 q8.2.2.2.2.2.2.2.1 q8.2.2.2.2.2.2.2.2 v_meetings_reached v_text_bytes v_text_length v_text_place v_text_thread v_text_kind v_text_target v_text_value v_refusedBad v_refusedNo v_refusedFull) (va_runV (As := [.ref (h 1)]) (rest := []) ⟨hx, hb, hml, hown, hts⟩ (c0_goThrough l D cB cI cZ cO h 24 1 H.size v_all_threads v_all_rows v_all_ended v_all_known v_all_stepsInAll v_all_count v_all_standstills v_all_wrongOnes v_all_unlikeEnds v_now q8.1 q8.2.1 q8.2.2.1 q8.2.2.2.1 q8.2.2.2.2.1 q8.2.2.2.2.2.1 q8.2.2.2.2.2.2.1 q8.2.2.2.2.2.2.2.1 q8.2.2.2.2.2.2.2.2 hq8) (cwV 1 hts gX8_sort_X0_goThrough rfl rfl rfl (by decide +kernel) ⟨Nat.le_of_ble_eq_true rfl, Nat.le_of_ble_eq_true rfl⟩) ⟨kb_blind, va_recv hK hPc (ci := 0) (q0 := 0) rfl rfl, kb_pre hPc hDc hK hN⟩ rfl rfl hl.1 rfl (lv_room (Nat.le_of_ble_eq_true rfl)) dX8_sort_27 ⟨Nat.le_refl _, Nat.le_refl _⟩) hP hD hS hA [24, 25, 26, 27, 28, 29, 1, 2, 3] [0, 4, 5, 6, 7, 8, 9, 10, 11, 12, 13, 14, 15, 16, 17, 18, 19, 20, 21, 22, 23, 30, 31, 32, 33] rfl rfl (List.forall_mem_cons.mpr ⟨rfl, (List.forall_mem_cons.mpr ⟨rfl, (List.forall_mem_cons.mpr ⟨rfl, (List.forall_mem_cons.mpr ⟨rfl, (List.forall_mem_cons.mpr ⟨rfl, (List.forall_mem_cons.mpr ⟨rfl, (List.forall_mem_cons.mpr ⟨rfl, (List.forall_mem_cons.mpr ⟨rfl, (List.forall_mem_cons.mpr ⟨rfl, (List.forall_mem_cons.mpr ⟨rfl, (List.forall_mem_cons.mpr ⟨rfl, (List.forall_mem_cons.mpr ⟨rfl, (List.forall_mem_cons.mpr ⟨rfl, (List.forall_mem_cons.mpr ⟨rfl, (List.forall_mem_cons.mpr ⟨rfl, (List.forall_mem_cons.mpr ⟨rfl, (List.forall_mem_cons.mpr ⟨rfl, (List.forall_mem_cons.mpr ⟨rfl, (List.forall_mem_cons.mpr ⟨rfl, (List.forall_mem_cons.mpr ⟨rfl, (List.forall_mem_cons.mpr ⟨rfl, (List.forall_mem_cons.mpr ⟨rfl, (List.forall_mem_cons.mpr ⟨rfl, (List.forall_mem_cons.mpr ⟨rfl, (List.forall_mem_cons.mpr ⟨rfl, (fun _ h9 => absurd h9 List.not_mem_nil)⟩)⟩)⟩)⟩)⟩)⟩)⟩)⟩)⟩)⟩)⟩)⟩)⟩)⟩)⟩)⟩)⟩)⟩)⟩)⟩)⟩)⟩)⟩)⟩)⟩) rfl rfl (fun H locs hP hD hS => ?_)
      refine lv_iload_n hx hb dX8_sort_30 rfl (lv_at hl 1 rfl) ?_
      refine lv_aload_n hx hb dX8_sort_31 rfl (lv_at hl 0 rfl) ?_
      refine va_get (D := D) (cl := vwCl) (ci := 5) (v := .ref (h 24)) (C := RX8) (T := TX8) (N := 9) hx hb hts hin8 hown hK hP 0 rfl rfl 3 (by decide) (hts (.fieldLink RX8 29 "StepOrders" "all" "LStepOrders$AllOrders;") (by decide +kernel)) (fun _ h9 => h9) rfl dX8_sort_32 ?_
      have hPc : va_P D vwCl (wdA cI cZ h 24 q8.1 q8.2.1 q8.2.2.1 q8.2.2.2.1 q8.2.2.2.2.1 q8.2.2.2.2.2.1 q8.2.2.2.2.2.2.1 q8.2.2.2.2.2.2.2.1 q8.2.2.2.2.2.2.2.2) H := hP.sub [24, 25, 26, 27, 28, 29] rfl
      have hDc : va_D A (wdA cI cZ h 24 q8.1 q8.2.1 q8.2.2.1 q8.2.2.2.1 q8.2.2.2.2.1 q8.2.2.2.2.2.1 q8.2.2.2.2.2.2.1 q8.2.2.2.2.2.2.2.1 q8.2.2.2.2.2.2.2.2) := hD.sub [24, 25, 26, 27, 28, 29] (by decide) rfl
      refine kd_iR (va_runV (As := []) (rest := [.int x1]) ⟨hx, hb, hml, hown, hts⟩ (c0_count l D cB cI cZ cO h 24 H.size q8.1 q8.2.1 q8.2.2.1 q8.2.2.2.1 q8.2.2.2.2.1 q8.2.2.2.2.2.1 q8.2.2.2.2.2.2.1 q8.2.2.2.2.2.2.2.1 q8.2.2.2.2.2.2.2.2 (f0_count q8.2.2.2.2.2.1) rfl) (cwV 0 hts gX8_sort_X0_count rfl rfl rfl (by decide +kernel) ⟨Nat.le_of_ble_eq_true rfl, Nat.le_of_ble_eq_true rfl⟩) ⟨kb_blind, va_recv hK hPc (ci := 0) (q0 := 0) rfl rfl, kb_pre hPc hDc hK hN⟩ rfl rfl hl.1 rfl (lv_room (Nat.le_of_ble_eq_true rfl)) dX8_sort_35 ⟨Nat.le_refl _, Nat.le_refl _⟩) hP hD hS hA [24, 25, 26, 27, 28, 29] rfl (fun H locs hn9 hP hS => ?_)
      refine lv_icmp_lt (tgt := 48) hx hb dX8_sort_38 (by decide) (fun c10 => ?_) (fun c10 => ?_)
      · rw [if_pos c10] at hf
        refine lv_aload_n hx hb dX8_sort_48 rfl (lv_at hl 0 rfl) ?_
        refine va_get (D := D) (cl := vwCl) (ci := 5) (v := .ref (h 24)) (C := RX8) (T := TX8) (N := 9) hx hb hts hin8 hown hK hP 0 rfl rfl 3 (by decide) (hts (.fieldLink RX8 29 "StepOrders" "all" "LStepOrders$AllOrders;") (by decide +kernel)) (fun _ h9 => h9) rfl dX8_sort_49 ?_
        refine lv_iload_n hx hb dX8_sort_52 rfl (lv_at hl 1 rfl) ?_
        refine kb_bind hf (fun q11 hq11 hf => ?_)
        have hPc : va_P D vwCl (wdA cI cZ h 24 q8.1 q8.2.1 q8.2.2.1 q8.2.2.2.1 q8.2.2.2.2.1 q8.2.2.2.2.2.1 q8.2.2.2.2.2.2.1 q8.2.2.2.2.2.2.2.1 q8.2.2.2.2.2.2.2.2) H := hP.sub [24, 25, 26, 27, 28, 29] rfl
        have hDc : va_D A (wdA cI cZ h 24 q8.1 q8.2.1 q8.2.2.1 q8.2.2.2.1 q8.2.2.2.2.1 q8.2.2.2.2.2.1 q8.2.2.2.2.2.2.1 q8.2.2.2.2.2.2.2.1 q8.2.2.2.2.2.2.2.2) := hD.sub [24, 25, 26, 27, 28, 29] (by decide) rfl
        refine kd_iR (va_runV (As := [.int x1]) (rest := []) ⟨hx, hb, hml, hown, hts⟩ (c0_rowAt l D cB cI cZ cO h 24 H.size x1 q8.1 q8.2.1 q8.2.2.1 q8.2.2.2.1 q8.2.2.2.2.1 q8.2.2.2.2.2.1 q8.2.2.2.2.2.2.1 q8.2.2.2.2.2.2.2.1 q8.2.2.2.2.2.2.2.2 q11 hq11) (cwV 1 hts gX8_sort_X0_rowAt rfl rfl rfl (by decide +kernel) ⟨Nat.le_of_ble_eq_true rfl, Nat.le_of_ble_eq_true rfl⟩) ⟨kb_blind, va_recv hK hPc (ci := 0) (q0 := 0) rfl rfl, kb_pre hPc hDc hK hN⟩ rfl rfl hl.1 rfl (lv_room (Nat.le_of_ble_eq_true rfl)) dX8_sort_53 ⟨Nat.le_refl _, Nat.le_refl _⟩) hP hD hS hA [24, 25, 26, 27, 28, 29] rfl (fun H locs hn12 hP hS => ?_)
        refine lv_istore_n (lv' := [(3, .int q11), (0, .ref (h 0)), (1, .int x1), (2, .int x2)]) hx hb dX8_sort_56 rfl hl (by decide) rfl (fun ls hl => ?_)
        refine lv_iload_n hx hb dX8_sort_57 rfl (lv_at hl 3 rfl) ?_
        by_cases c13_0 : x2 = 0
        · rw [if_pos c13_0] at hf
          refine lv_lookup (tgt := 84) (off := 26) hx hb dX8_sort_58 (by decide) (by rw [c13_0]; decide) (by decide) ?_
          refine lv_aload_n hx hb dX8_sort_84 rfl (lv_at hl 1 rfl) ?_
          refine va_get (D := D) (cl := vwCl) (ci := 5) (v := .ref (h 1)) (C := RX8) (T := TX8) (N := 9) hx hb hts hin8 hown hK hP 0 rfl rfl 0 (by decide) (hts (.fieldLink RX8 12 "StepOrders" "now" "LStepOrders$State;") (by decide +kernel)) (fun _ h9 => h9) rfl dX8_sort_85 ?_
          refine lv_iload_n hx hb dX8_sort_88 rfl (lv_at hl 0 rfl) ?_
          refine kb_bind hf (fun q14 hq14 hf => ?_)
          have hPc : va_P D vwCl (wdS cI h 1 v_now) H := hP.sub [1, 2, 3] rfl
          have hDc : va_D A (wdS cI h 1 v_now) := hD.sub [1, 2, 3] (by decide) rfl
          refine kd_lR (va_runV (As := [.int q11]) (rest := []) ⟨hx, hb, hml, hown, hts⟩ (c5_momentBehind l D cB cI cZ cO h 1 H.size q11 v_now q14 hq14) (cwV 1 hts gX8_sort_X5_momentBehind rfl rfl rfl (by decide +kernel) ⟨Nat.le_of_ble_eq_true rfl, Nat.le_of_ble_eq_true rfl⟩) ⟨kb_blind, va_recv hK hPc (ci := 3) (q0 := 0) rfl rfl, kb_pre hPc hDc hK hN⟩ rfl rfl hl.1 rfl (lv_room (Nat.le_of_ble_eq_true rfl)) dX8_sort_89 ⟨Nat.le_refl _, Nat.le_refl _⟩) hP hD hS hA [1, 2, 3] rfl (fun H locs hP hS => ?_)
          refine kb_bind hf (fun q15 hq15 hf => ?_)
          have hPc : va_P D vwCl ([]) H := hP.sub [] rfl
          have hDc : va_D A ([]) := hD.sub [] (by decide) rfl
          refine kd_iR (va_runS (As := [.long q14]) (rest := []) ⟨hx, hb, hml, hown, hts⟩ (c2_ending l D cB cI cZ cO h H.size q14 q15 hq15) (va_cwS 1 hts gX8_sort_X2_ending rfl rfl rfl (by decide +kernel) ⟨Nat.le_of_ble_eq_true rfl, Nat.le_of_ble_eq_true rfl⟩) ⟨kb_blind, kb_pre hPc hDc hK hN⟩ rfl rfl hl.1 rfl (lv_room (Nat.le_of_ble_eq_true rfl)) dX8_sort_92 ⟨Nat.le_refl _, Nat.le_refl _⟩) hP hD hS hA [] rfl (fun H locs hn16 hP hS => ?_)
          obtain ⟨z1, y1⟩ := Prod.mk.inj (Option.some.inj hf)
          obtain ⟨z2, y2⟩ := Prod.mk.inj y1
          obtain ⟨z3, y3⟩ := Prod.mk.inj y2
          obtain ⟨z4, y4⟩ := Prod.mk.inj y3
          obtain ⟨z5, y5⟩ := Prod.mk.inj y4
          obtain ⟨z6, y6⟩ := Prod.mk.inj y5
          obtain ⟨z7, y7⟩ := Prod.mk.inj y6
          obtain ⟨z8, y8⟩ := Prod.mk.inj y7
          obtain ⟨z9, y9⟩ := Prod.mk.inj y8
          obtain ⟨z10, y10⟩ := Prod.mk.inj y9
          obtain ⟨z11, y11⟩ := Prod.mk.inj y10
          obtain ⟨z12, y12⟩ := Prod.mk.inj y11
          subst z1 z2 z3 z4 z5 z6 z7 z8 z9 z10 z11 z12 y12
          exact hend _ _ _ _ rfl hP hS dX8_sort_95
        rw [if_neg c13_0] at hf
        by_cases c13_1 : x2 = 1
        · rw [if_pos c13_1] at hf
          refine lv_lookup (tgt := 96) (off := 38) hx hb dX8_sort_58 (by decide) (by rw [c13_1]; decide) (by decide) ?_
          refine lv_aload_n hx hb dX8_sort_96 rfl (lv_at hl 1 rfl) ?_
          refine va_get (D := D) (cl := vwCl) (ci := 5) (v := .ref (h 1)) (C := RX8) (T := TX8) (N := 9) hx hb hts hin8 hown hK hP 0 rfl rfl 0 (by decide) (hts (.fieldLink RX8 12 "StepOrders" "now" "LStepOrders$State;") (by decide +kernel)) (fun _ h9 => h9) rfl dX8_sort_97 ?_
          refine lv_iload_n hx hb dX8_sort_100 rfl (lv_at hl 0 rfl) ?_
          refine kb_bind hf (fun q17 hq17 hf => ?_)
          have hPc : va_P D vwCl (wdS cI h 1 v_now) H := hP.sub [1, 2, 3] rfl
          have hDc : va_D A (wdS cI h 1 v_now) := hD.sub [1, 2, 3] (by decide) rfl
          refine kd_lR (va_runV (As := [.int q11]) (rest := []) ⟨hx, hb, hml, hown, hts⟩ (c5_momentBehind l D cB cI cZ cO h 1 H.size q11 v_now q17 hq17) (cwV 1 hts gX8_sort_X5_momentBehind rfl rfl rfl (by decide +kernel) ⟨Nat.le_of_ble_eq_true rfl, Nat.le_of_ble_eq_true rfl⟩) ⟨kb_blind, va_recv hK hPc (ci := 3) (q0 := 0) rfl rfl, kb_pre hPc hDc hK hN⟩ rfl rfl hl.1 rfl (lv_room (Nat.le_of_ble_eq_true rfl)) dX8_sort_101 ⟨Nat.le_refl _, Nat.le_refl _⟩) hP hD hS hA [1, 2, 3] rfl (fun H locs hP hS => ?_)
          have hPc : va_P D vwCl ([]) H := hP.sub [] rfl
          have hDc : va_D A ([]) := hD.sub [] (by decide) rfl
          refine kd_iR (va_runS (As := [.long q17]) (rest := []) ⟨hx, hb, hml, hown, hts⟩ (c2_wrongOnes l D cB cI cZ cO h H.size q17 (f2_wrongOnes q17) rfl) (va_cwS 1 hts gX8_sort_X2_wrongOnes rfl rfl rfl (by decide +kernel) ⟨Nat.le_of_ble_eq_true rfl, Nat.le_of_ble_eq_true rfl⟩) ⟨kb_blind, kb_pre hPc hDc hK hN⟩ rfl rfl hl.1 rfl (lv_room (Nat.le_of_ble_eq_true rfl)) dX8_sort_104 ⟨Nat.le_refl _, Nat.le_refl _⟩) hP hD hS hA [] rfl (fun H locs hn18 hP hS => ?_)
          obtain ⟨z1, y1⟩ := Prod.mk.inj (Option.some.inj hf)
          obtain ⟨z2, y2⟩ := Prod.mk.inj y1
          obtain ⟨z3, y3⟩ := Prod.mk.inj y2
          obtain ⟨z4, y4⟩ := Prod.mk.inj y3
          obtain ⟨z5, y5⟩ := Prod.mk.inj y4
          obtain ⟨z6, y6⟩ := Prod.mk.inj y5
          obtain ⟨z7, y7⟩ := Prod.mk.inj y6
          obtain ⟨z8, y8⟩ := Prod.mk.inj y7
          obtain ⟨z9, y9⟩ := Prod.mk.inj y8
          obtain ⟨z10, y10⟩ := Prod.mk.inj y9
          obtain ⟨z11, y11⟩ := Prod.mk.inj y10
          obtain ⟨z12, y12⟩ := Prod.mk.inj y11
          subst z1 z2 z3 z4 z5 z6 z7 z8 z9 z10 z11 z12 y12
          exact hend _ _ _ _ rfl hP hS dX8_sort_107
        rw [if_neg c13_1] at hf
        refine lv_lookup (tgt := 108) (off := 50) hx hb dX8_sort_58 (by decide) (show Op.lookupswitch.offset [(0, 26), (1, 38)] 50 _ = 50 from ((lv_osw (a := 0) c13_0 rfl).trans ((lv_osw (a := 1) c13_1 rfl).trans rfl))) (by decide) ?_
        refine lv_iload_n hx hb dX8_sort_108 rfl (lv_at hl 0 rfl) ?_
        have hPc : va_P D vwCl ([]) H := hP.sub [] rfl
        have hDc : va_D A ([]) := hD.sub [] (by decide) rfl
        refine kd_iR (va_runS (As := [.int q11]) (rest := []) ⟨hx, hb, hml, hown, hts⟩ (c4_length l D cB cI cZ cO h H.size q11 (f4_length q11) rfl) (va_cwS 1 hts gX8_sort_X4_length rfl rfl rfl (by decide +kernel) ⟨Nat.le_of_ble_eq_true rfl, Nat.le_of_ble_eq_true rfl⟩) ⟨kb_blind, kb_pre hPc hDc hK hN⟩ rfl rfl hl.1 rfl (lv_room (Nat.le_of_ble_eq_true rfl)) dX8_sort_109 ⟨Nat.le_refl _, Nat.le_refl _⟩) hP hD hS hA [] rfl (fun H locs hn19 hP hS => ?_)
        refine lv_aload_n hx hb dX8_sort_112 rfl (lv_at hl 1 rfl) ?_
        refine va_get (D := D) (cl := vwCl) (ci := 5) (v := .ref (h 1)) (C := RX8) (T := TX8) (N := 9) hx hb hts hin8 hown hK hP 0 rfl rfl 0 (by decide) (hts (.fieldLink RX8 12 "StepOrders" "now" "LStepOrders$State;") (by decide +kernel)) (fun _ h9 => h9) rfl dX8_sort_113 ?_
        refine kb_bind hf (fun q20 hq20 hf => ?_)
        have hPc : va_P D vwCl (wdS cI h 1 v_now) H := hP.sub [1, 2, 3] rfl
        have hDc : va_D A (wdS cI h 1 v_now) := hD.sub [1, 2, 3] (by decide) rfl
        refine kd_iR (va_runV (As := []) (rest := [.int (f4_length q11)]) ⟨hx, hb, hml, hown, hts⟩ (c5_stepsInAll l D cB cI cZ cO h 1 H.size v_now q20 hq20) (cwV 0 hts gX8_sort_X5_stepsInAll rfl rfl rfl (by decide +kernel) ⟨Nat.le_of_ble_eq_true rfl, Nat.le_of_ble_eq_true rfl⟩) ⟨kb_blind, va_recv hK hPc (ci := 3) (q0 := 0) rfl rfl, kb_pre hPc hDc hK hN⟩ rfl rfl hl.1 rfl (lv_room (Nat.le_of_ble_eq_true rfl)) dX8_sort_116 ⟨Nat.le_refl _, Nat.le_refl _⟩) hP hD hS hA [1, 2, 3] rfl (fun H locs hn21 hP hS => ?_)
        refine lv_icmp_ge (tgt := 126) hx hb dX8_sort_119 (by decide) (fun c22 => ?_) (fun c22 => ?_)
        · rw [if_pos c22] at hf
          refine lv_iconst (v := 0) hx hb dX8_sort_126 (by decide) ?_
          obtain ⟨z1, y1⟩ := Prod.mk.inj (Option.some.inj hf)
          obtain ⟨z2, y2⟩ := Prod.mk.inj y1
          obtain ⟨z3, y3⟩ := Prod.mk.inj y2
          obtain ⟨z4, y4⟩ := Prod.mk.inj y3
          obtain ⟨z5, y5⟩ := Prod.mk.inj y4
          obtain ⟨z6, y6⟩ := Prod.mk.inj y5
          obtain ⟨z7, y7⟩ := Prod.mk.inj y6
          obtain ⟨z8, y8⟩ := Prod.mk.inj y7
          obtain ⟨z9, y9⟩ := Prod.mk.inj y8
          obtain ⟨z10, y10⟩ := Prod.mk.inj y9
          obtain ⟨z11, y11⟩ := Prod.mk.inj y10
          obtain ⟨z12, y12⟩ := Prod.mk.inj y11
          subst z1 z2 z3 z4 z5 z6 z7 z8 z9 z10 z11 z12 y12
          exact hend _ _ _ _ rfl hP hS dX8_sort_127
        · rw [if_neg c22] at hf
          refine lv_iconst (v := 1) hx hb dX8_sort_122 (by decide) ?_
          refine lv_goto (tgt := 127) hx hb dX8_sort_123 (by decide) ?_
          obtain ⟨z1, y1⟩ := Prod.mk.inj (Option.some.inj hf)
          obtain ⟨z2, y2⟩ := Prod.mk.inj y1
          obtain ⟨z3, y3⟩ := Prod.mk.inj y2
          obtain ⟨z4, y4⟩ := Prod.mk.inj y3
          obtain ⟨z5, y5⟩ := Prod.mk.inj y4
          obtain ⟨z6, y6⟩ := Prod.mk.inj y5
          obtain ⟨z7, y7⟩ := Prod.mk.inj y6
          obtain ⟨z8, y8⟩ := Prod.mk.inj y7
          obtain ⟨z9, y9⟩ := Prod.mk.inj y8
          obtain ⟨z10, y10⟩ := Prod.mk.inj y9
          obtain ⟨z11, y11⟩ := Prod.mk.inj y10
          obtain ⟨z12, y12⟩ := Prod.mk.inj y11
          subst z1 z2 z3 z4 z5 z6 z7 z8 z9 z10 z11 z12 y12
          exact hend _ _ _ _ rfl hP hS dX8_sort_127
      · rw [if_neg c10] at hf
        refine lv_aload_n hx hb dX8_sort_41 rfl (lv_at hl 0 rfl) ?_
        refine lv_bipush (v := (-3)) hx hb dX8_sort_42 (by decide) ?_
        refine kb_bind hf (fun q23 hq23 hf => ?_)
        have hPc : va_P D vwCl (wdO cB cI cZ cO h v_now v_tried v_past_kept v_past_oldest v_past_size q8.1 q8.2.1 q8.2.2.1 q8.2.2.2.1 q8.2.2.2.2.1 q8.2.2.2.2.2.1 q8.2.2.2.2.2.2.1 q8.2.2.2.2.2.2.2.1 q8.2.2.2.2.2.2.2.2 v_meetings_reached v_text_bytes v_text_length v_text_place v_text_thread v_text_kind v_text_target v_text_value v_refusedBad v_refusedNo v_refusedFull) H := hP.sub [0, 1, 2, 3, 4, 5, 6, 7, 8, 9, 10, 11, 12, 13, 14, 15, 16, 17, 18, 19, 20, 21, 22, 23, 24, 25, 26, 27, 28, 29, 30, 31, 32, 33] rfl
        have hDc : va_D A (wdO cB cI cZ cO h v_now v_tried v_past_kept v_past_oldest v_past_size q8.1 q8.2.1 q8.2.2.1 q8.2.2.2.1 q8.2.2.2.2.1 q8.2.2.2.2.2.1 q8.2.2.2.2.2.2.1 q8.2.2.2.2.2.2.2.1 q8.2.2.2.2.2.2.2.2 v_meetings_reached v_text_bytes v_text_length v_text_place v_text_thread v_text_kind v_text_target v_text_value v_refusedBad v_refusedNo v_refusedFull) := hD.sub [0, 1, 2, 3, 4, 5, 6, 7, 8, 9, 10, 11, 12, 13, 14, 15, 16, 17, 18, 19, 20, 21, 22, 23, 24, 25, 26, 27, 28, 29, 30, 31, 32, 33] (by decide) rfl
        refine kd_iW (ws' := wdO cB cI cZ cO h v_now v_tried v_past_kept v_past_oldest v_past_size q8.1 q8.2.1 q8.2.2.1 q8.2.2.2.1 q8.2.2.2.2.1 q8.2.2.2.2.2.1 q8.2.2.2.2.2.2.1 q8.2.2.2.2.2.2.2.1 q8.2.2.2.2.2.2.2.2 v_meetings_reached v_text_bytes v_text_length v_text_place v_text_thread v_text_kind v_text_target v_text_value q23.2.1 q23.2.2.1 q23.2.2.2) (va_runV (As := [.int (-3 : Int32)]) (rest := []) ⟨hx, hb, hml, hown, hts⟩ (c8_refused l D cB cI cZ cO h H.size (-3 : Int32) v_now v_tried v_past_kept v_past_oldest v_past_size q8.1 q8.2.1 q8.2.2.1 q8.2.2.2.1 q8.2.2.2.2.1 q8.2.2.2.2.2.1 q8.2.2.2.2.2.2.1 q8.2.2.2.2.2.2.2.1 q8.2.2.2.2.2.2.2.2 v_meetings_reached v_text_bytes v_text_length v_text_place v_text_thread v_text_kind v_text_target v_text_value v_refusedBad v_refusedNo v_refusedFull q23.1 q23.2.1 q23.2.2.1 q23.2.2.2 hq23) (cwV 1 hts gX8_sort_X8_refused rfl rfl rfl (by decide +kernel) ⟨Nat.le_of_ble_eq_true rfl, Nat.le_of_ble_eq_true rfl⟩) ⟨kb_blind, va_recv hK hPc (ci := 5) (q0 := 0) rfl rfl, kb_pre hPc hDc hK hN⟩ rfl rfl hl.1 rfl (lv_room (Nat.le_of_ble_eq_true rfl)) dX8_sort_44 ⟨Nat.le_refl _, Nat.le_refl _⟩) hP hD hS hA [0, 1, 2, 3, 4, 5, 6, 7, 8, 9, 10, 11, 12, 13, 14, 15, 16, 17, 18, 19, 20, 21, 22, 23, 24, 25, 26, 27, 28, 29, 30, 31, 32, 33] [] rfl rfl (fun _ h9 => absurd h9 List.not_mem_nil) rfl rfl (fun H locs hn24 hP hD hS => ?_)
        obtain ⟨z1, y1⟩ := Prod.mk.inj (Option.some.inj hf)
        obtain ⟨z2, y2⟩ := Prod.mk.inj y1
        obtain ⟨z3, y3⟩ := Prod.mk.inj y2
        obtain ⟨z4, y4⟩ := Prod.mk.inj y3
        obtain ⟨z5, y5⟩ := Prod.mk.inj y4
        obtain ⟨z6, y6⟩ := Prod.mk.inj y5
        obtain ⟨z7, y7⟩ := Prod.mk.inj y6
        obtain ⟨z8, y8⟩ := Prod.mk.inj y7
        obtain ⟨z9, y9⟩ := Prod.mk.inj y8
        obtain ⟨z10, y10⟩ := Prod.mk.inj y9
        obtain ⟨z11, y11⟩ := Prod.mk.inj y10
        obtain ⟨z12, y12⟩ := Prod.mk.inj y11
        subst z1 z2 z3 z4 z5 z6 z7 z8 z9 z10 z11 z12 y12
        exact hend _ _ _ _ rfl hP hS dX8_sort_47
    · rw [if_pos c7] at hf
      exact J12 v_all_threads v_all_rows v_all_ended v_all_known v_all_stepsInAll v_all_count v_all_standstills v_all_wrongOnes v_all_unlikeEnds v_refusedBad v_refusedNo v_refusedFull _ _ _ hf hP hD hS (lv_sub hl [0] rfl)

set_option maxHeartbeats 4000000 in
set_option maxRecDepth 100000 in
theorem c8_ends (l : Launch) (D : va_G) (cB cI cZ cO : ClassId) (h : Nat → Nat) (sz : Nat) (x1 : Int32) (v_now : sT) (v_tried : sT) (v_past_kept : Nat → sT) (v_past_oldest : Int32) (v_past_size : Int32) (v_all_threads : sT) (v_all_rows : Nat → Int32) (v_all_ended : Nat → Int32) (v_all_known : Int32) (v_all_stepsInAll : Int32) (v_all_count : Int32) (v_all_standstills : Int32) (v_all_wrongOnes : Int32) (v_all_unlikeEnds : Int32) (v_meetings_reached : Nat → Int32) (v_text_bytes : Nat → Int32) (v_text_length : Int32) (v_text_place : Int32) (v_text_thread : Int32) (v_text_kind : Int32) (v_text_target : Int32) (v_text_value : Int32) (v_refusedBad : Int32) (v_refusedNo : Int32) (v_refusedFull : Int32) (r0 : Int32) (v_all_threads' : sT) (v_all_rows' : Nat → Int32) (v_all_ended' : Nat → Int32) (v_all_known' : Int32) (v_all_stepsInAll' : Int32) (v_all_count' : Int32) (v_all_standstills' : Int32) (v_all_wrongOnes' : Int32) (v_all_unlikeEnds' : Int32) (v_refusedBad' : Int32) (v_refusedNo' : Int32) (v_refusedFull' : Int32) (hf : f8_ends v_now v_all_threads v_all_rows v_all_ended v_all_known v_all_stepsInAll v_all_count v_all_standstills v_all_wrongOnes v_all_unlikeEnds v_refusedBad v_refusedNo v_refusedFull x1 = some (r0, v_all_threads', v_all_rows', v_all_ended', v_all_known', v_all_stepsInAll', v_all_count', v_all_standstills', v_all_wrongOnes', v_all_unlikeEnds', v_refusedBad', v_refusedNo', v_refusedFull')) : Met l yX8_ends wsX8_ends rm8_ends (va_Pc [.ref (h 0), .int x1] (kb_B D (ka_tys cB cI cZ cO) sz (wdO cB cI cZ cO h v_now v_tried v_past_kept v_past_oldest v_past_size v_all_threads v_all_rows v_all_ended v_all_known v_all_stepsInAll v_all_count v_all_standstills v_all_wrongOnes v_all_unlikeEnds v_meetings_reached v_text_bytes v_text_length v_text_place v_text_thread v_text_kind v_text_target v_text_value v_refusedBad v_refusedNo v_refusedFull))) (va_Qi (kb_post .int r0) (fun _ t => va_P D vwCl (wdO cB cI cZ cO h v_now v_tried v_past_kept v_past_oldest v_past_size (v_all_threads') (v_all_rows') (v_all_ended') (v_all_known') (v_all_stepsInAll') (v_all_count') (v_all_standstills') (v_all_wrongOnes') (v_all_unlikeEnds') v_meetings_reached v_text_bytes v_text_length v_text_place v_text_thread v_text_kind v_text_target v_text_value (v_refusedBad') (v_refusedNo') (v_refusedFull')) t.heap) (va_A (wdO cB cI cZ cO h v_now v_tried v_past_kept v_past_oldest v_past_size v_all_threads v_all_rows v_all_ended v_all_known v_all_stepsInAll v_all_count v_all_standstills v_all_wrongOnes v_all_unlikeEnds v_meetings_reached v_text_bytes v_text_length v_text_place v_text_thread v_text_kind v_text_target v_text_value v_refusedBad v_refusedNo v_refusedFull) sz)) 0 0 (va_A (wdO cB cI cZ cO h v_now v_tried v_past_kept v_past_oldest v_past_size v_all_threads v_all_rows v_all_ended v_all_known v_all_stepsInAll v_all_count v_all_standstills v_all_wrongOnes v_all_unlikeEnds v_meetings_reached v_text_bytes v_text_length v_text_place v_text_thread v_text_kind v_text_target v_text_value v_refusedBad v_refusedNo v_refusedFull) sz) := by
  refine kb_metZ (cc := cX8_ends) (maxL := 4) (ty := .int) (by decide) rfl (Nat.le_of_ble_eq_true rfl) ?_
  intro p e s m args below meth c Q A ls H hx hb hml hown hts hK hN hP hD hS hA hl hend
  have hown : s.vm.findClass RX8 = some m.cls := hown
  have hl : lv_has ls 4 [(0, .ref (h 0)), (1, .int x1)] := hl
  have hin8 : ∀ w ∈ u_ws RX8 TX8 9, w ∈ wsX8_ends := by decide +kernel
  have J48 : ∀ (v_all_threads : sT) (v_all_rows : Nat → Int32) (v_all_ended : Nat → Int32) (v_all_known : Int32) (v_all_stepsInAll : Int32) (v_all_count : Int32) (v_all_standstills : Int32) (v_all_wrongOnes : Int32) (v_all_unlikeEnds : Int32) (v_refusedBad : Int32) (v_refusedNo : Int32) (v_refusedFull : Int32) (x3 : Int32) (H : Heap) (locs : List Loc) (ls : Array Slot), f8_ends_b48 v_now v_all_threads v_all_rows v_all_ended v_all_known v_all_stepsInAll v_all_count v_all_standstills v_all_wrongOnes v_all_unlikeEnds v_refusedBad v_refusedNo v_refusedFull x3 = some (r0, v_all_threads', v_all_rows', v_all_ended', v_all_known', v_all_stepsInAll', v_all_count', v_all_standstills', v_all_wrongOnes', v_all_unlikeEnds', v_refusedBad', v_refusedNo', v_refusedFull') → va_P D vwCl (wdO cB cI cZ cO h v_now v_tried v_past_kept v_past_oldest v_past_size v_all_threads v_all_rows v_all_ended v_all_known v_all_stepsInAll v_all_count v_all_standstills v_all_wrongOnes v_all_unlikeEnds v_meetings_reached v_text_bytes v_text_length v_text_place v_text_thread v_text_kind v_text_target v_text_value v_refusedBad v_refusedNo v_refusedFull) H → va_D A (wdO cB cI cZ cO h v_now v_tried v_past_kept v_past_oldest v_past_size v_all_threads v_all_rows v_all_ended v_all_known v_all_stepsInAll v_all_count v_all_standstills v_all_wrongOnes v_all_unlikeEnds v_meetings_reached v_text_bytes v_text_length v_text_place v_text_thread v_text_kind v_text_target v_text_value v_refusedBad v_refusedNo v_refusedFull) → va_S A s.heap H locs → lv_has ls 4 [(3, .int x3)] → W p l e rm8_ends s m args below meth c H locs 0 0 Q (F0 m 48 ls []) := by
    intro v_all_threads v_all_rows v_all_ended v_all_known v_all_stepsInAll v_all_count v_all_standstills v_all_wrongOnes v_all_unlikeEnds v_refusedBad v_refusedNo v_refusedFull x3 H locs ls hf hP hD hS hl
    rw [f8_ends_b48] at hf
    refine lv_iload_n hx hb dX8_ends_48 rfl (lv_at hl 0 rfl) ?_
    obtain ⟨z1, y1⟩ := Prod.mk.inj (Option.some.inj hf)
    obtain ⟨z2, y2⟩ := Prod.mk.inj y1
    obtain ⟨z3, y3⟩ := Prod.mk.inj y2
    obtain ⟨z4, y4⟩ := Prod.mk.inj y3
    obtain ⟨z5, y5⟩ := Prod.mk.inj y4
    obtain ⟨z6, y6⟩ := Prod.mk.inj y5
    obtain ⟨z7, y7⟩ := Prod.mk.inj y6
    obtain ⟨z8, y8⟩ := Prod.mk.inj y7
    obtain ⟨z9, y9⟩ := Prod.mk.inj y8
    obtain ⟨z10, y10⟩ := Prod.mk.inj y9
    obtain ⟨z11, y11⟩ := Prod.mk.inj y10
    obtain ⟨z12, y12⟩ := Prod.mk.inj y11
    subst z1 z2 z3 z4 z5 z6 z7 z8 z9 z10 z11 z12 y12
    exact hend _ _ _ _ rfl hP hS dX8_ends_49
  have J59 : ∀ (v_all_threads : sT) (v_all_rows : Nat → Int32) (v_all_ended : Nat → Int32) (v_all_known : Int32) (v_all_stepsInAll : Int32) (v_all_count : Int32) (v_all_standstills : Int32) (v_all_wrongOnes : Int32) (v_all_unlikeEnds : Int32) (v_refusedBad : Int32) (v_refusedNo : Int32) (v_refusedFull : Int32) (H : Heap) (locs : List Loc) (ls : Array Slot), f8_ends_b59 v_now v_all_threads v_all_rows v_all_ended v_all_known v_all_stepsInAll v_all_count v_all_standstills v_all_wrongOnes v_all_unlikeEnds v_refusedBad v_refusedNo v_refusedFull = some (r0, v_all_threads', v_all_rows', v_all_ended', v_all_known', v_all_stepsInAll', v_all_count', v_all_standstills', v_all_wrongOnes', v_all_unlikeEnds', v_refusedBad', v_refusedNo', v_refusedFull') → va_P D vwCl (wdO cB cI cZ cO h v_now v_tried v_past_kept v_past_oldest v_past_size v_all_threads v_all_rows v_all_ended v_all_known v_all_stepsInAll v_all_count v_all_standstills v_all_wrongOnes v_all_unlikeEnds v_meetings_reached v_text_bytes v_text_length v_text_place v_text_thread v_text_kind v_text_target v_text_value v_refusedBad v_refusedNo v_refusedFull) H → va_D A (wdO cB cI cZ cO h v_now v_tried v_past_kept v_past_oldest v_past_size v_all_threads v_all_rows v_all_ended v_all_known v_all_stepsInAll v_all_count v_all_standstills v_all_wrongOnes v_all_unlikeEnds v_meetings_reached v_text_bytes v_text_length v_text_place v_text_thread v_text_kind v_text_target v_text_value v_refusedBad v_refusedNo v_refusedFull) → va_S A s.heap H locs → lv_has ls 4 [] → W p l e rm8_ends s m args below meth c H locs 0 0 Q (F0 m 59 ls []) := by
    intro v_all_threads v_all_rows v_all_ended v_all_known v_all_stepsInAll v_all_count v_all_standstills v_all_wrongOnes v_all_unlikeEnds v_refusedBad v_refusedNo v_refusedFull H locs ls hf hP hD hS hl
    rw [f8_ends_b59] at hf
    refine lv_bipush (v := (-5)) hx hb dX8_ends_59 (by decide) ?_
    obtain ⟨z1, y1⟩ := Prod.mk.inj (Option.some.inj hf)
    obtain ⟨z2, y2⟩ := Prod.mk.inj y1
    obtain ⟨z3, y3⟩ := Prod.mk.inj y2
    obtain ⟨z4, y4⟩ := Prod.mk.inj y3
    obtain ⟨z5, y5⟩ := Prod.mk.inj y4
    obtain ⟨z6, y6⟩ := Prod.mk.inj y5
    obtain ⟨z7, y7⟩ := Prod.mk.inj y6
    obtain ⟨z8, y8⟩ := Prod.mk.inj y7
    obtain ⟨z9, y9⟩ := Prod.mk.inj y8
    obtain ⟨z10, y10⟩ := Prod.mk.inj y9
    obtain ⟨z11, y11⟩ := Prod.mk.inj y10
    obtain ⟨z12, y12⟩ := Prod.mk.inj y11
    subst z1 z2 z3 z4 z5 z6 z7 z8 z9 z10 z11 z12 y12
    exact hend _ _ _ _ rfl hP hS dX8_ends_61
  have J26 : ∀ (n : Nat) (v_all_threads : sT) (v_all_rows : Nat → Int32) (v_all_ended : Nat → Int32) (v_all_known : Int32) (v_all_stepsInAll : Int32) (v_all_count : Int32) (v_all_standstills : Int32) (v_all_wrongOnes : Int32) (v_all_unlikeEnds : Int32) (v_refusedBad : Int32) (v_refusedNo : Int32) (v_refusedFull : Int32) (x2 : Int32) (x3 : Int32) (H : Heap) (locs : List Loc) (ls : Array Slot), f8_ends_l26 n v_now v_all_threads v_all_rows v_all_ended v_all_known v_all_stepsInAll v_all_count v_all_standstills v_all_wrongOnes v_all_unlikeEnds v_refusedBad v_refusedNo v_refusedFull x2 x3 = some (r0, v_all_threads', v_all_rows', v_all_ended', v_all_known', v_all_stepsInAll', v_all_count', v_all_standstills', v_all_wrongOnes', v_all_unlikeEnds', v_refusedBad', v_refusedNo', v_refusedFull') → va_P D vwCl (wdO cB cI cZ cO h v_now v_tried v_past_kept v_past_oldest v_past_size v_all_threads v_all_rows v_all_ended v_all_known v_all_stepsInAll v_all_count v_all_standstills v_all_wrongOnes v_all_unlikeEnds v_meetings_reached v_text_bytes v_text_length v_text_place v_text_thread v_text_kind v_text_target v_text_value v_refusedBad v_refusedNo v_refusedFull) H → va_D A (wdO cB cI cZ cO h v_now v_tried v_past_kept v_past_oldest v_past_size v_all_threads v_all_rows v_all_ended v_all_known v_all_stepsInAll v_all_count v_all_standstills v_all_wrongOnes v_all_unlikeEnds v_meetings_reached v_text_bytes v_text_length v_text_place v_text_thread v_text_kind v_text_target v_text_value v_refusedBad v_refusedNo v_refusedFull) → va_S A s.heap H locs → lv_has ls 4 [(0, .ref (h 0)), (2, .int x2), (3, .int x3)] → W p l e rm8_ends s m args below meth c H locs 0 0 Q (F0 m 26 ls []) := by
    intro n
    induction n with
    | zero =>
      intro v_all_threads v_all_rows v_all_ended v_all_known v_all_stepsInAll v_all_count v_all_standstills v_all_wrongOnes v_all_unlikeEnds v_refusedBad v_refusedNo v_refusedFull x2 x3 H locs ls hf
      cases (show (none : Option (Int32 × sT × (Nat → Int32) × (Nat → Int32) × Int32 × Int32 × Int32 × Int32 × Int32 × Int32 × Int32 × Int32 × Int32)) = some (r0, v_all_threads', v_all_rows', v_all_ended', v_all_known', v_all_stepsInAll', v_all_count', v_all_standstills', v_all_wrongOnes', v_all_unlikeEnds', v_refusedBad', v_refusedNo', v_refusedFull') from hf)
    | succ n ih =>
      have J53 : ∀ (v_all_threads : sT) (v_all_rows : Nat → Int32) (v_all_ended : Nat → Int32) (v_all_known : Int32) (v_all_stepsInAll : Int32) (v_all_count : Int32) (v_all_standstills : Int32) (v_all_wrongOnes : Int32) (v_all_unlikeEnds : Int32) (v_refusedBad : Int32) (v_refusedNo : Int32) (v_refusedFull : Int32) (x2 : Int32) (x3 : Int32) (H : Heap) (locs : List Loc) (ls : Array Slot), f8_ends_b53 (f8_ends_l26 n) v_now v_all_threads v_all_rows v_all_ended v_all_known v_all_stepsInAll v_all_count v_all_standstills v_all_wrongOnes v_all_unlikeEnds v_refusedBad v_refusedNo v_refusedFull x2 x3 = some (r0, v_all_threads', v_all_rows', v_all_ended', v_all_known', v_all_stepsInAll', v_all_count', v_all_standstills', v_all_wrongOnes', v_all_unlikeEnds', v_refusedBad', v_refusedNo', v_refusedFull') → va_P D vwCl (wdO cB cI cZ cO h v_now v_tried v_past_kept v_past_oldest v_past_size v_all_threads v_all_rows v_all_ended v_all_known v_all_stepsInAll v_all_count v_all_standstills v_all_wrongOnes v_all_unlikeEnds v_meetings_reached v_text_bytes v_text_length v_text_place v_text_thread v_text_kind v_text_target v_text_value v_refusedBad v_refusedNo v_refusedFull) H → va_D A (wdO cB cI cZ cO h v_now v_tried v_past_kept v_past_oldest v_past_size v_all_threads v_all_rows v_all_ended v_all_known v_all_stepsInAll v_all_count v_all_standstills v_all_wrongOnes v_all_unlikeEnds v_meetings_reached v_text_bytes v_text_length v_text_place v_text_thread v_text_kind v_text_target v_text_value v_refusedBad v_refusedNo v_refusedFull) → va_S A s.heap H locs → lv_has ls 4 [(0, .ref (h 0)), (2, .int x2), (3, .int x3)] → W p l e rm8_ends s m args below meth c H locs 0 0 Q (F0 m 53 ls []) := by
        intro v_all_threads v_all_rows v_all_ended v_all_known v_all_stepsInAll v_all_count v_all_standstills v_all_wrongOnes v_all_unlikeEnds v_refusedBad v_refusedNo v_refusedFull x2 x3 H locs ls hf hP hD hS hl
        rw [f8_ends_b53] at hf
        refine lv_iinc (v := (x3 + 1)) (lv' := [(3, .int (x3 + 1)), (0, .ref (h 0)), (2, .int x2)]) hx hb dX8_ends_53 hl (k := 2) rfl rfl (by decide) rfl (fun ls hl => ?_)
        refine lv_goto (tgt := 26) hx hb dX8_ends_56 (by decide) ?_
        exact ih v_all_threads v_all_rows v_all_ended v_all_known v_all_stepsInAll v_all_count v_all_standstills v_all_wrongOnes v_all_unlikeEnds v_refusedBad v_refusedNo v_refusedFull x2 (x3 + 1) _ _ _ hf hP hD hS (lv_sub hl [1, 2, 0] rfl)
      intro v_all_threads v_all_rows v_all_ended v_all_known v_all_stepsInAll v_all_count v_all_standstills v_all_wrongOnes v_all_unlikeEnds v_refusedBad v_refusedNo v_refusedFull x2 x3 H locs ls hf hP hD hS hl
      rw [f8_ends_l26_s] at hf
      refine lv_iload_n hx hb dX8_ends_26 rfl (lv_at hl 2 rfl) ?_
      refine lv_sipush (v := 10000) hx hb dX8_ends_27 (by decide) ?_
      refine lv_icmp_ge (tgt := 59) hx hb dX8_ends_30 (by decide) (fun c6 => ?_) (fun c6 => ?_)
      · rw [if_pos c6] at hf
        exact J59 v_all_threads v_all_rows v_all_ended v_all_known v_all_stepsInAll v_all_count v_all_standstills v_all_wrongOnes v_all_unlikeEnds v_refusedBad v_refusedNo v_refusedFull _ _ _ hf hP hD hS (lv_sub hl [] rfl)
      · rw [if_neg c6] at hf
        refine lv_aload_n hx hb dX8_ends_33 rfl (lv_at hl 0 rfl) ?_
        refine va_get (D := D) (cl := vwCl) (ci := 5) (v := .ref (h 24)) (C := RX8) (T := TX8) (N := 9) hx hb hts hin8 hown hK hP 0 rfl rfl 3 (by decide) (hts (.fieldLink RX8 29 "StepOrders" "all" "LStepOrders$AllOrders;") (by decide +kernel)) (fun _ h9 => h9) rfl dX8_ends_34 ?_
        refine lv_iload_n hx hb dX8_ends_37 rfl (lv_at hl 2 rfl) ?_
        refine kb_bind hf (fun q7 hq7 hf => ?_)
        have hPc : va_P D vwCl (wdA cI cZ h 24 v_all_threads v_all_rows v_all_ended v_all_known v_all_stepsInAll v_all_count v_all_standstills v_all_wrongOnes v_all_unlikeEnds) H := hP.sub [24, 25, 26, 27, 28, 29] rfl
        have hDc : va_D A (wdA cI cZ h 24 v_all_threads v_all_rows v_all_ended v_all_known v_all_stepsInAll v_all_count v_all_standstills v_all_wrongOnes v_all_unlikeEnds) := hD.sub [24, 25, 26, 27, 28, 29] (by decide) rfl
        refine kd_iR (va_runV (As := [.int x3]) (rest := []) ⟨hx, hb, hml, hown, hts⟩ (c0_endsAt l D cB cI cZ cO h 24 H.size x3 v_all_threads v_all_rows v_all_ended v_all_known v_all_stepsInAll v_all_count v_all_standstills v_all_wrongOnes v_all_unlikeEnds q7 hq7) (cwV 1 hts gX8_ends_X0_endsAt rfl rfl rfl (by decide +kernel) ⟨Nat.le_of_ble_eq_true rfl, Nat.le_of_ble_eq_true rfl⟩) ⟨kb_blind, va_recv hK hPc (ci := 0) (q0 := 0) rfl rfl, kb_pre hPc hDc hK hN⟩ rfl rfl hl.1 rfl (lv_room (Nat.le_of_ble_eq_true rfl)) dX8_ends_38 ⟨Nat.le_refl _, Nat.le_refl _⟩) hP hD hS hA [24, 25, 26, 27, 28, 29] rfl (fun H locs hn8 hP hS => ?_)
        refine lv_if_eq (tgt := 53) hx hb dX8_ends_41 (by decide) (fun c9 => ?_) (fun c9 => ?_)
        · rw [if_pos c9] at hf
          exact J53 v_all_threads v_all_rows v_all_ended v_all_known v_all_stepsInAll v_all_count v_all_standstills v_all_wrongOnes v_all_unlikeEnds v_refusedBad v_refusedNo v_refusedFull x2 x3 _ _ _ hf hP hD hS (lv_sub hl [0, 1, 2] rfl)
        · rw [if_neg c9] at hf
          refine lv_iload_n hx hb dX8_ends_44 rfl (lv_at hl 1 rfl) ?_
          refine lv_if_ne (tgt := 50) hx hb dX8_ends_45 (by decide) (fun c10 => ?_) (fun c10 => ?_)
          · rw [if_neg c10] at hf
            refine lv_iinc (v := (x2 + (-1))) (lv' := [(2, .int (x2 + (-1))), (0, .ref (h 0)), (3, .int x3)]) hx hb dX8_ends_50 hl (k := 1) rfl rfl (by decide) rfl (fun ls hl => ?_)
            exact J53 v_all_threads v_all_rows v_all_ended v_all_known v_all_stepsInAll v_all_count v_all_standstills v_all_wrongOnes v_all_unlikeEnds v_refusedBad v_refusedNo v_refusedFull (x2 + (-1)) x3 _ _ _ hf hP hD hS (lv_sub hl [1, 0, 2] rfl)
          · rw [if_pos c10] at hf
            exact J48 v_all_threads v_all_rows v_all_ended v_all_known v_all_stepsInAll v_all_count v_all_standstills v_all_wrongOnes v_all_unlikeEnds v_refusedBad v_refusedNo v_refusedFull x3 _ _ _ hf hP hD hS (lv_sub hl [2] rfl)
  rw [f8_ends] at hf
  refine lv_iload_n hx hb dX8_ends_0 rfl (lv_at hl 1 rfl) ?_
  refine lv_if_ge (tgt := 11) hx hb dX8_ends_1 (by decide) (fun c11 => ?_) (fun c11 => ?_)
  · rw [if_pos c11] at hf
    refine lv_aload_n hx hb dX8_ends_11 rfl (lv_at hl 0 rfl) ?_
    refine va_get (D := D) (cl := vwCl) (ci := 5) (v := .ref (h 24)) (C := RX8) (T := TX8) (N := 9) hx hb hts hin8 hown hK hP 0 rfl rfl 3 (by decide) (hts (.fieldLink RX8 29 "StepOrders" "all" "LStepOrders$AllOrders;") (by decide +kernel)) (fun _ h9 => h9) rfl dX8_ends_12 ?_
    refine lv_aload_n hx hb dX8_ends_15 rfl (lv_at hl 0 rfl) ?_
    refine va_get (D := D) (cl := vwCl) (ci := 5) (v := .ref (h 1)) (C := RX8) (T := TX8) (N := 9) hx hb hts hin8 hown hK hP 0 rfl rfl 0 (by decide) (hts (.fieldLink RX8 12 "StepOrders" "now" "LStepOrders$State;") (by decide +kernel)) (fun _ h9 => h9) rfl dX8_ends_16 ?_
    refine kb_bind hf (fun q12 hq12 hf => ?_)
    have hPc : va_P D vwCl (wdA cI cZ h 24 v_all_threads v_all_rows v_all_ended v_all_known v_all_stepsInAll v_all_count v_all_standstills v_all_wrongOnes v_all_unlikeEnds ++ wdS cI h 1 v_now) H := hP.sub [24, 25, 26, 27, 28, 29, 1, 2, 3] rfl
    have hDc : va_D A (wdA cI cZ h 24 v_all_threads v_all_rows v_all_ended v_all_known v_all_stepsInAll v_all_count v_all_standstills v_all_wrongOnes v_all_unlikeEnds ++ wdS cI h 1 v_now) := hD.sub [24, 25, 26, 27, 28, 29, 1, 2, 3] (by decide) rfl
    refine kd_vW (ws' := wdO cB cI cZ cO h v_now v_tried v_past_kept v_past_oldest v_past_size q12.1 q12.2.1 q12.2.2.1 q12.2.2.2.1 q12.2.2.2.2.1 q12.2.2.2.2.2.1 q12.2.2.2.2.2.2.1 q12.2.2.2.2.2.2.2.1 q12.2.2.2.2.2.2.2.2 v_meetings_reached v_text_bytes v_text_length v_text_place v_text_thread v_text_kind v_text_target v_text_value v_refusedBad v_refusedNo v_refusedFull) (va_runV (As := [.ref (h 1)]) (rest := []) ⟨hx, hb, hml, hown, hts⟩ (c0_goThrough l D cB cI cZ cO h 24 1 H.size v_all_threads v_all_rows v_all_ended v_all_known v_all_stepsInAll v_all_count v_all_standstills v_all_wrongOnes v_all_unlikeEnds v_now q12.1 q12.2.1 q12.2.2.1 q12.2.2.2.1 q12.2.2.2.2.1 q12.2.2.2.2.2.1 q12.2.2.2.2.2.2.1 q12.2.2.2.2.2.2.2.1 q12.2.2.2.2.2.2.2.2 hq12) (cwV 1 hts gX8_ends_X0_goThrough rfl rfl rfl (by decide +kernel) ⟨Nat.le_of_ble_eq_true rfl, Nat.le_of_ble_eq_true rfl⟩) ⟨kb_blind, va_recv hK hPc (ci := 0) (q0 := 0) rfl rfl, kb_pre hPc hDc hK hN⟩ rfl rfl hl.1 rfl (lv_room (Nat.le_of_ble_eq_true rfl)) dX8_ends_19 ⟨Nat.le_refl _, Nat.le_refl _⟩) hP hD hS hA [24, 25, 26, 27, 28, 29, 1, 2, 3] [0, 4, 5, 6, 7, 8, 9, 10, 11, 12, 13, 14, 15, 16, 17, 18, 19, 20, 21, 22, 23, 30, 31, 32, 33] rfl rfl (List.forall_mem_cons.mpr ⟨rfl, (List.forall_mem_cons.mpr ⟨rfl, (List.forall_mem_cons.mpr ⟨rfl, (List.forall_mem_cons.mpr ⟨rfl, (List.forall_mem_cons.mpr ⟨rfl, (List.forall_mem_cons.mpr ⟨rfl, (List.forall_mem_cons.mpr ⟨rfl, (List.forall_mem_cons.mpr ⟨rfl, (List.forall_mem_cons.mpr ⟨rfl, (List.forall_mem_cons.mpr ⟨rfl, (List.forall_mem_cons.mpr ⟨rfl, (List.forall_mem_cons.mpr ⟨rfl, (List.forall_mem_cons.mpr ⟨rfl, (List.forall_mem_cons.mpr ⟨rfl, (List.forall_mem_cons.mpr ⟨rfl, (List.forall_mem_cons.mpr ⟨rfl, (List.forall_mem_cons.mpr ⟨rfl, (List.forall_mem_cons.mpr ⟨rfl, (List.forall_mem_cons.mpr ⟨rfl, (List.forall_mem_cons.mpr ⟨rfl, (List.forall_mem_cons.mpr ⟨rfl, (List.forall_mem_cons.mpr ⟨rfl, (List.forall_mem_cons.mpr ⟨rfl, (List.forall_mem_cons.mpr ⟨rfl, (List.forall_mem_cons.mpr ⟨rfl, (fun _ h9 => absurd h9 List.not_mem_nil)⟩)⟩)⟩)⟩)⟩)⟩)⟩)⟩)⟩)⟩)⟩)⟩)⟩)⟩)⟩)⟩)⟩)⟩)⟩)⟩)⟩)⟩)⟩)⟩)⟩) rfl rfl (fun H locs hP hD hS => ?_)
    refine lv_iload_n hx hb dX8_ends_22 rfl (lv_at hl 1 rfl) ?_
    refine lv_istore_n (lv' := [(2, .int x1), (0, .ref (h 0)), (1, .int x1)]) hx hb dX8_ends_23 rfl hl (by decide) rfl (fun ls hl => ?_)
    refine lv_iconst (v := 0) hx hb dX8_ends_24 (by decide) ?_
    refine lv_istore_n (lv' := [(3, .int (0 : Int32)), (2, .int x1), (0, .ref (h 0)), (1, .int x1)]) hx hb dX8_ends_25 rfl hl (by decide) rfl (fun ls hl => ?_)
    exact J26 kFUEL q12.1 q12.2.1 q12.2.2.1 q12.2.2.2.1 q12.2.2.2.2.1 q12.2.2.2.2.2.1 q12.2.2.2.2.2.2.1 q12.2.2.2.2.2.2.2.1 q12.2.2.2.2.2.2.2.2 v_refusedBad v_refusedNo v_refusedFull x1 (0 : Int32) _ _ _ hf hP hD hS (lv_sub hl [2, 1, 0] rfl)
  · rw [if_neg c11] at hf
    refine lv_aload_n hx hb dX8_ends_4 rfl (lv_at hl 0 rfl) ?_
    refine lv_bipush (v := (-2)) hx hb dX8_ends_5 (by decide) ?_
    refine kb_bind hf (fun q13 hq13 hf => ?_)
    have hPc : va_P D vwCl (wdO cB cI cZ cO h v_now v_tried v_past_kept v_past_oldest v_past_size v_all_threads v_all_rows v_all_ended v_all_known v_all_stepsInAll v_all_count v_all_standstills v_all_wrongOnes v_all_unlikeEnds v_meetings_reached v_text_bytes v_text_length v_text_place v_text_thread v_text_kind v_text_target v_text_value v_refusedBad v_refusedNo v_refusedFull) H := hP.sub [0, 1, 2, 3, 4, 5, 6, 7, 8, 9, 10, 11, 12, 13, 14, 15, 16, 17, 18, 19, 20, 21, 22, 23, 24, 25, 26, 27, 28, 29, 30, 31, 32, 33] rfl
    have hDc : va_D A (wdO cB cI cZ cO h v_now v_tried v_past_kept v_past_oldest v_past_size v_all_threads v_all_rows v_all_ended v_all_known v_all_stepsInAll v_all_count v_all_standstills v_all_wrongOnes v_all_unlikeEnds v_meetings_reached v_text_bytes v_text_length v_text_place v_text_thread v_text_kind v_text_target v_text_value v_refusedBad v_refusedNo v_refusedFull) := hD.sub [0, 1, 2, 3, 4, 5, 6, 7, 8, 9, 10, 11, 12, 13, 14, 15, 16, 17, 18, 19, 20, 21, 22, 23, 24, 25, 26, 27, 28, 29, 30, 31, 32, 33] (by decide) rfl
    refine kd_iW (ws' := wdO cB cI cZ cO h v_now v_tried v_past_kept v_past_oldest v_past_size v_all_threads v_all_rows v_all_ended v_all_known v_all_stepsInAll v_all_count v_all_standstills v_all_wrongOnes v_all_unlikeEnds v_meetings_reached v_text_bytes v_text_length v_text_place v_text_thread v_text_kind v_text_target v_text_value q13.2.1 q13.2.2.1 q13.2.2.2) (va_runV (As := [.int (-2 : Int32)]) (rest := []) ⟨hx, hb, hml, hown, hts⟩ (c8_refused l D cB cI cZ cO h H.size (-2 : Int32) v_now v_tried v_past_kept v_past_oldest v_past_size v_all_threads v_all_rows v_all_ended v_all_known v_all_stepsInAll v_all_count v_all_standstills v_all_wrongOnes v_all_unlikeEnds v_meetings_reached v_text_bytes v_text_length v_text_place v_text_thread v_text_kind v_text_target v_text_value v_refusedBad v_refusedNo v_refusedFull q13.1 q13.2.1 q13.2.2.1 q13.2.2.2 hq13) (cwV 1 hts gX8_ends_X8_refused rfl rfl rfl (by decide +kernel) ⟨Nat.le_of_ble_eq_true rfl, Nat.le_of_ble_eq_true rfl⟩) ⟨kb_blind, va_recv hK hPc (ci := 5) (q0 := 0) rfl rfl, kb_pre hPc hDc hK hN⟩ rfl rfl hl.1 rfl (lv_room (Nat.le_of_ble_eq_true rfl)) dX8_ends_7 ⟨Nat.le_refl _, Nat.le_refl _⟩) hP hD hS hA [0, 1, 2, 3, 4, 5, 6, 7, 8, 9, 10, 11, 12, 13, 14, 15, 16, 17, 18, 19, 20, 21, 22, 23, 24, 25, 26, 27, 28, 29, 30, 31, 32, 33] [] rfl rfl (fun _ h9 => absurd h9 List.not_mem_nil) rfl rfl (fun H locs hn14 hP hD hS => ?_)
    obtain ⟨z1, y1⟩ := Prod.mk.inj (Option.some.inj hf)
    obtain ⟨z2, y2⟩ := Prod.mk.inj y1
    obtain ⟨z3, y3⟩ := Prod.mk.inj y2
    obtain ⟨z4, y4⟩ := Prod.mk.inj y3
    obtain ⟨z5, y5⟩ := Prod.mk.inj y4
    obtain ⟨z6, y6⟩ := Prod.mk.inj y5
    obtain ⟨z7, y7⟩ := Prod.mk.inj y6
    obtain ⟨z8, y8⟩ := Prod.mk.inj y7
    obtain ⟨z9, y9⟩ := Prod.mk.inj y8
    obtain ⟨z10, y10⟩ := Prod.mk.inj y9
    obtain ⟨z11, y11⟩ := Prod.mk.inj y10
    obtain ⟨z12, y12⟩ := Prod.mk.inj y11
    subst z1 z2 z3 z4 z5 z6 z7 z8 z9 z10 z11 z12 y12
    exact hend _ _ _ _ rfl hP hS dX8_ends_10

set_option maxHeartbeats 4000000 in
set_option maxRecDepth 100000 in
theorem c8_race (l : Launch) (D : va_G) (cB cI cZ cO : ClassId) (h : Nat → Nat) (sz : Nat) (x1 : Int32) (x2 : Int32) (x3 : Int32) (x4 : Int32) (v_now : sT) (v_tried : sT) (v_past_kept : Nat → sT) (v_past_oldest : Int32) (v_past_size : Int32) (v_all_threads : sT) (v_all_rows : Nat → Int32) (v_all_ended : Nat → Int32) (v_all_known : Int32) (v_all_stepsInAll : Int32) (v_all_count : Int32) (v_all_standstills : Int32) (v_all_wrongOnes : Int32) (v_all_unlikeEnds : Int32) (v_meetings_reached : Nat → Int32) (v_text_bytes : Nat → Int32) (v_text_length : Int32) (v_text_place : Int32) (v_text_thread : Int32) (v_text_kind : Int32) (v_text_target : Int32) (v_text_value : Int32) (v_refusedBad : Int32) (v_refusedNo : Int32) (v_refusedFull : Int32) (r0 : Int32) (v_meetings_reached' : Nat → Int32) (v_refusedBad' : Int32) (v_refusedNo' : Int32) (v_refusedFull' : Int32) (hf : f8_race v_now v_meetings_reached v_refusedBad v_refusedNo v_refusedFull x1 x2 x3 x4 = some (r0, v_meetings_reached', v_refusedBad', v_refusedNo', v_refusedFull')) : Met l yX8_race wsX8_race rm8_race (va_Pc [.ref (h 0), .int x1, .int x2, .int x3, .int x4] (kb_B D (ka_tys cB cI cZ cO) sz (wdO cB cI cZ cO h v_now v_tried v_past_kept v_past_oldest v_past_size v_all_threads v_all_rows v_all_ended v_all_known v_all_stepsInAll v_all_count v_all_standstills v_all_wrongOnes v_all_unlikeEnds v_meetings_reached v_text_bytes v_text_length v_text_place v_text_thread v_text_kind v_text_target v_text_value v_refusedBad v_refusedNo v_refusedFull))) (va_Qi (kb_post .int r0) (fun _ t => va_P D vwCl (wdO cB cI cZ cO h v_now v_tried v_past_kept v_past_oldest v_past_size v_all_threads v_all_rows v_all_ended v_all_known v_all_stepsInAll v_all_count v_all_standstills v_all_wrongOnes v_all_unlikeEnds (v_meetings_reached') v_text_bytes v_text_length v_text_place v_text_thread v_text_kind v_text_target v_text_value (v_refusedBad') (v_refusedNo') (v_refusedFull')) t.heap) (va_A (wdO cB cI cZ cO h v_now v_tried v_past_kept v_past_oldest v_past_size v_all_threads v_all_rows v_all_ended v_all_known v_all_stepsInAll v_all_count v_all_standstills v_all_wrongOnes v_all_unlikeEnds v_meetings_reached v_text_bytes v_text_length v_text_place v_text_thread v_text_kind v_text_target v_text_value v_refusedBad v_refusedNo v_refusedFull) sz)) 0 0 (va_A (wdO cB cI cZ cO h v_now v_tried v_past_kept v_past_oldest v_past_size v_all_threads v_all_rows v_all_ended v_all_known v_all_stepsInAll v_all_count v_all_standstills v_all_wrongOnes v_all_unlikeEnds v_meetings_reached v_text_bytes v_text_length v_text_place v_text_thread v_text_kind v_text_target v_text_value v_refusedBad v_refusedNo v_refusedFull) sz) := by
  refine kb_metZ (cc := cX8_race) (maxL := 5) (ty := .int) (by decide) rfl (Nat.le_of_ble_eq_true rfl) ?_
  intro p e s m args below meth c Q A ls H hx hb hml hown hts hK hN hP hD hS hA hl hend
  have hown : s.vm.findClass RX8 = some m.cls := hown
  have hl : lv_has ls 5 [(0, .ref (h 0)), (1, .int x1), (2, .int x2), (3, .int x3), (4, .int x4)] := hl
  have hin8 : ∀ w ∈ u_ws RX8 TX8 9, w ∈ wsX8_race := by decide +kernel
  have J30 : ∀ (v_meetings_reached : Nat → Int32) (v_refusedBad : Int32) (v_refusedNo : Int32) (v_refusedFull : Int32) (H : Heap) (locs : List Loc) (ls : Array Slot), f8_race_b30 v_now v_meetings_reached v_refusedBad v_refusedNo v_refusedFull = some (r0, v_meetings_reached', v_refusedBad', v_refusedNo', v_refusedFull') → va_P D vwCl (wdO cB cI cZ cO h v_now v_tried v_past_kept v_past_oldest v_past_size v_all_threads v_all_rows v_all_ended v_all_known v_all_stepsInAll v_all_count v_all_standstills v_all_wrongOnes v_all_unlikeEnds v_meetings_reached v_text_bytes v_text_length v_text_place v_text_thread v_text_kind v_text_target v_text_value v_refusedBad v_refusedNo v_refusedFull) H → va_D A (wdO cB cI cZ cO h v_now v_tried v_past_kept v_past_oldest v_past_size v_all_threads v_all_rows v_all_ended v_all_known v_all_stepsInAll v_all_count v_all_standstills v_all_wrongOnes v_all_unlikeEnds v_meetings_reached v_text_bytes v_text_length v_text_place v_text_thread v_text_kind v_text_target v_text_value v_refusedBad v_refusedNo v_refusedFull) → va_S A s.heap H locs → lv_has ls 5 [(0, .ref (h 0))] → W p l e rm8_race s m args below meth c H locs 0 0 Q (F0 m 30 ls []) := by
    intro v_meetings_reached v_refusedBad v_refusedNo v_refusedFull H locs ls hf hP hD hS hl
    rw [f8_race_b30] at hf
    refine lv_aload_n hx hb dX8_race_30 rfl (lv_at hl 0 rfl) ?_
    refine lv_bipush (v := (-2)) hx hb dX8_race_31 (by decide) ?_
    refine kb_bind hf (fun q3 hq3 hf => ?_)
    have hPc : va_P D vwCl (wdO cB cI cZ cO h v_now v_tried v_past_kept v_past_oldest v_past_size v_all_threads v_all_rows v_all_ended v_all_known v_all_stepsInAll v_all_count v_all_standstills v_all_wrongOnes v_all_unlikeEnds v_meetings_reached v_text_bytes v_text_length v_text_place v_text_thread v_text_kind v_text_target v_text_value v_refusedBad v_refusedNo v_refusedFull) H := hP.sub [0, 1, 2, 3, 4, 5, 6, 7, 8, 9, 10, 11, 12, 13, 14, 15, 16, 17, 18, 19, 20, 21, 22, 23, 24, 25, 26, 27, 28, 29, 30, 31, 32, 33] rfl
    have hDc : va_D A (wdO cB cI cZ cO h v_now v_tried v_past_kept v_past_oldest v_past_size v_all_threads v_all_rows v_all_ended v_all_known v_all_stepsInAll v_all_count v_all_standstills v_all_wrongOnes v_all_unlikeEnds v_meetings_reached v_text_bytes v_text_length v_text_place v_text_thread v_text_kind v_text_target v_text_value v_refusedBad v_refusedNo v_refusedFull) := hD.sub [0, 1, 2, 3, 4, 5, 6, 7, 8, 9, 10, 11, 12, 13, 14, 15, 16, 17, 18, 19, 20, 21, 22, 23, 24, 25, 26, 27, 28, 29, 30, 31, 32, 33] (by decide) rfl
    refine kd_iW (ws' := wdO cB cI cZ cO h v_now v_tried v_past_kept v_past_oldest v_past_size v_all_threads v_all_rows v_all_ended v_all_known v_all_stepsInAll v_all_count v_all_standstills v_all_wrongOnes v_all_unlikeEnds v_meetings_reached v_text_bytes v_text_length v_text_place v_text_thread v_text_kind v_text_target v_text_value q3.2.1 q3.2.2.1 q3.2.2.2) (va_runV (As := [.int (-2 : Int32)]) (rest := []) ⟨hx, hb, hml, hown, hts⟩ (c8_refused l D cB cI cZ cO h H.size (-2 : Int32) v_now v_tried v_past_kept v_past_oldest v_past_size v_all_threads v_all_rows v_all_ended v_all_known v_all_stepsInAll v_all_count v_all_standstills v_all_wrongOnes v_all_unlikeEnds v_meetings_reached v_text_bytes v_text_length v_text_place v_text_thread v_text_kind v_text_target v_text_value v_refusedBad v_refusedNo v_refusedFull q3.1 q3.2.1 q3.2.2.1 q3.2.2.2 hq3) (cwV 1 hts gX8_race_X8_refused rfl rfl rfl (by decide +kernel) ⟨Nat.le_of_ble_eq_true rfl, Nat.le_of_ble_eq_true rfl⟩) ⟨kb_blind, va_recv hK hPc (ci := 5) (q0 := 0) rfl rfl, kb_pre hPc hDc hK hN⟩ rfl rfl hl.1 rfl (lv_room (Nat.le_of_ble_eq_true rfl)) dX8_race_33 ⟨Nat.le_refl _, Nat.le_refl _⟩) hP hD hS hA [0, 1, 2, 3, 4, 5, 6, 7, 8, 9, 10, 11, 12, 13, 14, 15, 16, 17, 18, 19, 20, 21, 22, 23, 24, 25, 26, 27, 28, 29, 30, 31, 32, 33] [] rfl rfl (fun _ h9 => absurd h9 List.not_mem_nil) rfl rfl (fun H locs hn4 hP hD hS => ?_)
    obtain ⟨z1, y1⟩ := Prod.mk.inj (Option.some.inj hf)
    obtain ⟨z2, y2⟩ := Prod.mk.inj y1
    obtain ⟨z3, y3⟩ := Prod.mk.inj y2
    obtain ⟨z4, y4⟩ := Prod.mk.inj y3
    subst z1 z2 z3 z4 y4
    exact hend _ _ _ _ rfl hP hS dX8_race_36
  rw [f8_race] at hf
  refine lv_aload_n hx hb dX8_race_0 rfl (lv_at hl 0 rfl) ?_
  refine va_get (D := D) (cl := vwCl) (ci := 5) (v := .ref (h 1)) (C := RX8) (T := TX8) (N := 9) hx hb hts hin8 hown hK hP 0 rfl rfl 0 (by decide) (hts (.fieldLink RX8 12 "StepOrders" "now" "LStepOrders$State;") (by decide +kernel)) (fun _ h9 => h9) rfl dX8_race_1 ?_
  refine lv_iload_n hx hb dX8_race_4 rfl (lv_at hl 1 rfl) ?_
  refine lv_iload_n hx hb dX8_race_5 rfl (lv_at hl 2 rfl) ?_
  refine kb_bind hf (fun q5 hq5 hf => ?_)
  have hPc : va_P D vwCl (wdS cI h 1 v_now) H := hP.sub [1, 2, 3] rfl
  have hDc : va_D A (wdS cI h 1 v_now) := hD.sub [1, 2, 3] (by decide) rfl
  refine kd_iR (va_runV (As := [.int x1, .int x2]) (rest := []) ⟨hx, hb, hml, hown, hts⟩ (c5_hasStep l D cB cI cZ cO h 1 H.size x1 x2 v_now q5 hq5) (cwV 2 hts gX8_race_X5_hasStep rfl rfl rfl (by decide +kernel) ⟨Nat.le_of_ble_eq_true rfl, Nat.le_of_ble_eq_true rfl⟩) ⟨kb_blind, va_recv hK hPc (ci := 3) (q0 := 0) rfl rfl, kb_pre hPc hDc hK hN⟩ rfl rfl hl.1 rfl (lv_room (Nat.le_of_ble_eq_true rfl)) dX8_race_6 ⟨Nat.le_refl _, Nat.le_refl _⟩) hP hD hS hA [1, 2, 3] rfl (fun H locs hn6 hP hS => ?_)
  refine lv_if_eq (tgt := 30) hx hb dX8_race_9 (by decide) (fun c7 => ?_) (fun c7 => ?_)
  · rw [if_pos c7] at hf
    exact J30 v_meetings_reached v_refusedBad v_refusedNo v_refusedFull _ _ _ hf hP hD hS (lv_sub hl [0] rfl)
  · rw [if_neg c7] at hf
    refine lv_aload_n hx hb dX8_race_12 rfl (lv_at hl 0 rfl) ?_
    refine va_get (D := D) (cl := vwCl) (ci := 5) (v := .ref (h 1)) (C := RX8) (T := TX8) (N := 9) hx hb hts hin8 hown hK hP 0 rfl rfl 0 (by decide) (hts (.fieldLink RX8 12 "StepOrders" "now" "LStepOrders$State;") (by decide +kernel)) (fun _ h9 => h9) rfl dX8_race_13 ?_
    refine lv_iload_n hx hb dX8_race_16 rfl (lv_at hl 3 rfl) ?_
    refine lv_iload hx hb dX8_race_17 (lv_at hl 4 rfl) ?_
    refine kb_bind hf (fun q8 hq8 hf => ?_)
    have hPc : va_P D vwCl (wdS cI h 1 v_now) H := hP.sub [1, 2, 3] rfl
    have hDc : va_D A (wdS cI h 1 v_now) := hD.sub [1, 2, 3] (by decide) rfl
    refine kd_iR (va_runV (As := [.int x3, .int x4]) (rest := []) ⟨hx, hb, hml, hown, hts⟩ (c5_hasStep l D cB cI cZ cO h 1 H.size x3 x4 v_now q8 hq8) (cwV 2 hts gX8_race_X5_hasStep rfl rfl rfl (by decide +kernel) ⟨Nat.le_of_ble_eq_true rfl, Nat.le_of_ble_eq_true rfl⟩) ⟨kb_blind, va_recv hK hPc (ci := 3) (q0 := 0) rfl rfl, kb_pre hPc hDc hK hN⟩ rfl rfl hl.1 rfl (lv_room (Nat.le_of_ble_eq_true rfl)) dX8_race_19 ⟨Nat.le_refl _, Nat.le_refl _⟩) hP hD hS hA [1, 2, 3] rfl (fun H locs hn9 hP hS => ?_)
    refine lv_if_eq (tgt := 30) hx hb dX8_race_22 (by decide) (fun c10 => ?_) (fun c10 => ?_)
    · rw [if_pos c10] at hf
      exact J30 v_meetings_reached v_refusedBad v_refusedNo v_refusedFull _ _ _ hf hP hD hS (lv_sub hl [0] rfl)
    · rw [if_neg c10] at hf
      refine lv_iload_n hx hb dX8_race_25 rfl (lv_at hl 1 rfl) ?_
      refine lv_iload_n hx hb dX8_race_26 rfl (lv_at hl 3 rfl) ?_
      refine lv_icmp_ne (tgt := 37) hx hb dX8_race_27 (by decide) (fun c11 => ?_) (fun c11 => ?_)
      · rw [if_neg c11] at hf
        refine lv_aload_n hx hb dX8_race_37 rfl (lv_at hl 0 rfl) ?_
        refine va_get (D := D) (cl := vwCl) (ci := 5) (v := .ref (h 30)) (C := RX8) (T := TX8) (N := 9) hx hb hts hin8 hown hK hP 0 rfl rfl 4 (by decide) (hts (.fieldLink RX8 36 "StepOrders" "meetings" "LStepOrders$Meetings;") (by decide +kernel)) (fun _ h9 => h9) rfl dX8_race_38 ?_
        refine lv_aload_n hx hb dX8_race_41 rfl (lv_at hl 0 rfl) ?_
        refine va_get (D := D) (cl := vwCl) (ci := 5) (v := .ref (h 1)) (C := RX8) (T := TX8) (N := 9) hx hb hts hin8 hown hK hP 0 rfl rfl 0 (by decide) (hts (.fieldLink RX8 12 "StepOrders" "now" "LStepOrders$State;") (by decide +kernel)) (fun _ h9 => h9) rfl dX8_race_42 ?_
        refine kb_bind hf (fun q12 hq12 hf => ?_)
        have hPc : va_P D vwCl (wdG cZ h 30 v_meetings_reached ++ wdS cI h 1 v_now) H := hP.sub [30, 31, 1, 2, 3] rfl
        have hDc : va_D A (wdG cZ h 30 v_meetings_reached ++ wdS cI h 1 v_now) := hD.sub [30, 31, 1, 2, 3] (by decide) rfl
        refine kd_vW (ws' := wdO cB cI cZ cO h v_now v_tried v_past_kept v_past_oldest v_past_size v_all_threads v_all_rows v_all_ended v_all_known v_all_stepsInAll v_all_count v_all_standstills v_all_wrongOnes v_all_unlikeEnds q12 v_text_bytes v_text_length v_text_place v_text_thread v_text_kind v_text_target v_text_value v_refusedBad v_refusedNo v_refusedFull) (va_runV (As := [.ref (h 1)]) (rest := []) ⟨hx, hb, hml, hown, hts⟩ (c1_goThrough l D cB cI cZ cO h 30 1 H.size v_meetings_reached v_now q12 hq12) (cwV 1 hts gX8_race_X1_goThrough rfl rfl rfl (by decide +kernel) ⟨Nat.le_of_ble_eq_true rfl, Nat.le_of_ble_eq_true rfl⟩) ⟨kb_blind, va_recv hK hPc (ci := 1) (q0 := 0) rfl rfl, kb_pre hPc hDc hK hN⟩ rfl rfl hl.1 rfl (lv_room (Nat.le_of_ble_eq_true rfl)) dX8_race_45 ⟨Nat.le_refl _, Nat.le_refl _⟩) hP hD hS hA [30, 31, 1, 2, 3] [0, 4, 5, 6, 7, 8, 9, 10, 11, 12, 13, 14, 15, 16, 17, 18, 19, 20, 21, 22, 23, 24, 25, 26, 27, 28, 29, 32, 33] rfl rfl (List.forall_mem_cons.mpr ⟨rfl, (List.forall_mem_cons.mpr ⟨rfl, (List.forall_mem_cons.mpr ⟨rfl, (List.forall_mem_cons.mpr ⟨rfl, (List.forall_mem_cons.mpr ⟨rfl, (List.forall_mem_cons.mpr ⟨rfl, (List.forall_mem_cons.mpr ⟨rfl, (List.forall_mem_cons.mpr ⟨rfl, (List.forall_mem_cons.mpr ⟨rfl, (List.forall_mem_cons.mpr ⟨rfl, (List.forall_mem_cons.mpr ⟨rfl, (List.forall_mem_cons.mpr ⟨rfl, (List.forall_mem_cons.mpr ⟨rfl, (List.forall_mem_cons.mpr ⟨rfl, (List.forall_mem_cons.mpr ⟨rfl, (List.forall_mem_cons.mpr ⟨rfl, (List.forall_mem_cons.mpr ⟨rfl, (List.forall_mem_cons.mpr ⟨rfl, (List.forall_mem_cons.mpr ⟨rfl, (List.forall_mem_cons.mpr ⟨rfl, (List.forall_mem_cons.mpr ⟨rfl, (List.forall_mem_cons.mpr ⟨rfl, (List.forall_mem_cons.mpr ⟨rfl, (List.forall_mem_cons.mpr ⟨rfl, (List.forall_mem_cons.mpr ⟨rfl, (List.forall_mem_cons.mpr ⟨rfl, (List.forall_mem_cons.mpr ⟨rfl, (List.forall_mem_cons.mpr ⟨rfl, (List.forall_mem_cons.mpr ⟨rfl, (fun _ h9 => absurd h9 List.not_mem_nil)⟩)⟩)⟩)⟩)⟩)⟩)⟩)⟩)⟩)⟩)⟩)⟩)⟩)⟩)⟩)⟩)⟩)⟩)⟩)⟩)⟩)⟩)⟩)⟩)⟩)⟩)⟩)⟩)⟩) rfl rfl (fun H locs hP hD hS => ?_)
        refine lv_aload_n hx hb dX8_race_48 rfl (lv_at hl 0 rfl) ?_
        refine va_get (D := D) (cl := vwCl) (ci := 5) (v := .ref (h 30)) (C := RX8) (T := TX8) (N := 9) hx hb hts hin8 hown hK hP 0 rfl rfl 4 (by decide) (hts (.fieldLink RX8 36 "StepOrders" "meetings" "LStepOrders$Meetings;") (by decide +kernel)) (fun _ h9 => h9) rfl dX8_race_49 ?_
        refine lv_aload_n hx hb dX8_race_52 rfl (lv_at hl 0 rfl) ?_
        refine va_get (D := D) (cl := vwCl) (ci := 5) (v := .ref (h 1)) (C := RX8) (T := TX8) (N := 9) hx hb hts hin8 hown hK hP 0 rfl rfl 0 (by decide) (hts (.fieldLink RX8 12 "StepOrders" "now" "LStepOrders$State;") (by decide +kernel)) (fun _ h9 => h9) rfl dX8_race_53 ?_
        refine lv_iload_n hx hb dX8_race_56 rfl (lv_at hl 1 rfl) ?_
        refine lv_iload_n hx hb dX8_race_57 rfl (lv_at hl 2 rfl) ?_
        refine lv_iload_n hx hb dX8_race_58 rfl (lv_at hl 3 rfl) ?_
        refine lv_iload hx hb dX8_race_59 (lv_at hl 4 rfl) ?_
        refine kb_bind hf (fun q13 hq13 hf => ?_)
        have hPc : va_P D vwCl (wdG cZ h 30 q12 ++ wdS cI h 1 v_now) H := hP.sub [30, 31, 1, 2, 3] rfl
        have hDc : va_D A (wdG cZ h 30 q12 ++ wdS cI h 1 v_now) := hD.sub [30, 31, 1, 2, 3] (by decide) rfl
        refine kd_iR (va_runV (As := [.ref (h 1), .int x1, .int x2, .int x3, .int x4]) (rest := []) ⟨hx, hb, hml, hown, hts⟩ (c1_isRace l D cB cI cZ cO h 30 1 H.size x1 x2 x3 x4 q12 v_now q13 hq13) (cwV 5 hts gX8_race_X1_isRace rfl rfl rfl (by decide +kernel) ⟨Nat.le_of_ble_eq_true rfl, Nat.le_of_ble_eq_true rfl⟩) ⟨kb_blind, va_recv hK hPc (ci := 1) (q0 := 0) rfl rfl, kb_pre hPc hDc hK hN⟩ rfl rfl hl.1 rfl (lv_room (Nat.le_of_ble_eq_true rfl)) dX8_race_61 ⟨Nat.le_refl _, Nat.le_refl _⟩) hP hD hS hA [30, 31, 1, 2, 3] rfl (fun H locs hn14 hP hS => ?_)
        refine lv_if_eq (tgt := 71) hx hb dX8_race_64 (by decide) (fun c15 => ?_) (fun c15 => ?_)
        · rw [if_pos c15] at hf
          refine lv_iconst (v := 0) hx hb dX8_race_71 (by decide) ?_
          obtain ⟨z1, y1⟩ := Prod.mk.inj (Option.some.inj hf)
          obtain ⟨z2, y2⟩ := Prod.mk.inj y1
          obtain ⟨z3, y3⟩ := Prod.mk.inj y2
          obtain ⟨z4, y4⟩ := Prod.mk.inj y3
          subst z1 z2 z3 z4 y4
          exact hend _ _ _ _ rfl hP hS dX8_race_72
        · rw [if_neg c15] at hf
          refine lv_iconst (v := 1) hx hb dX8_race_67 (by decide) ?_
          refine lv_goto (tgt := 72) hx hb dX8_race_68 (by decide) ?_
          obtain ⟨z1, y1⟩ := Prod.mk.inj (Option.some.inj hf)
          obtain ⟨z2, y2⟩ := Prod.mk.inj y1
          obtain ⟨z3, y3⟩ := Prod.mk.inj y2
          obtain ⟨z4, y4⟩ := Prod.mk.inj y3
          subst z1 z2 z3 z4 y4
          exact hend _ _ _ _ rfl hP hS dX8_race_72
      · rw [if_pos c11] at hf
        exact J30 v_meetings_reached v_refusedBad v_refusedNo v_refusedFull _ _ _ hf hP hD hS (lv_sub hl [0] rfl)

set_option maxHeartbeats 4000000 in
set_option maxRecDepth 100000 in
theorem c8_racesBetween (l : Launch) (D : va_G) (cB cI cZ cO : ClassId) (h : Nat → Nat) (sz : Nat) (x1 : Int32) (x2 : Int32) (v_now : sT) (v_tried : sT) (v_past_kept : Nat → sT) (v_past_oldest : Int32) (v_past_size : Int32) (v_all_threads : sT) (v_all_rows : Nat → Int32) (v_all_ended : Nat → Int32) (v_all_known : Int32) (v_all_stepsInAll : Int32) (v_all_count : Int32) (v_all_standstills : Int32) (v_all_wrongOnes : Int32) (v_all_unlikeEnds : Int32) (v_meetings_reached : Nat → Int32) (v_text_bytes : Nat → Int32) (v_text_length : Int32) (v_text_place : Int32) (v_text_thread : Int32) (v_text_kind : Int32) (v_text_target : Int32) (v_text_value : Int32) (v_refusedBad : Int32) (v_refusedNo : Int32) (v_refusedFull : Int32) (r0 : Int32) (hf : f8_racesBetween v_now v_meetings_reached x1 x2 = some r0) : Met l yX8_racesBetween wsX8_racesBetween rm8_racesBetween (va_Pc [.ref (h 0), .int x1, .int x2] (kb_B D (ka_tys cB cI cZ cO) sz (wdO cB cI cZ cO h v_now v_tried v_past_kept v_past_oldest v_past_size v_all_threads v_all_rows v_all_ended v_all_known v_all_stepsInAll v_all_count v_all_standstills v_all_wrongOnes v_all_unlikeEnds v_meetings_reached v_text_bytes v_text_length v_text_place v_text_thread v_text_kind v_text_target v_text_value v_refusedBad v_refusedNo v_refusedFull))) (va_Qi (kb_post .int r0) (fun _ t => va_P D vwCl (wdO cB cI cZ cO h v_now v_tried v_past_kept v_past_oldest v_past_size v_all_threads v_all_rows v_all_ended v_all_known v_all_stepsInAll v_all_count v_all_standstills v_all_wrongOnes v_all_unlikeEnds v_meetings_reached v_text_bytes v_text_length v_text_place v_text_thread v_text_kind v_text_target v_text_value v_refusedBad v_refusedNo v_refusedFull) t.heap) (va_A (wdO cB cI cZ cO h v_now v_tried v_past_kept v_past_oldest v_past_size v_all_threads v_all_rows v_all_ended v_all_known v_all_stepsInAll v_all_count v_all_standstills v_all_wrongOnes v_all_unlikeEnds v_meetings_reached v_text_bytes v_text_length v_text_place v_text_thread v_text_kind v_text_target v_text_value v_refusedBad v_refusedNo v_refusedFull) sz)) 0 0 (va_A (wdO cB cI cZ cO h v_now v_tried v_past_kept v_past_oldest v_past_size v_all_threads v_all_rows v_all_ended v_all_known v_all_stepsInAll v_all_count v_all_standstills v_all_wrongOnes v_all_unlikeEnds v_meetings_reached v_text_bytes v_text_length v_text_place v_text_thread v_text_kind v_text_target v_text_value v_refusedBad v_refusedNo v_refusedFull) sz) := by
  refine kb_metZ (cc := cX8_racesBetween) (maxL := 6) (ty := .int) (by decide) rfl (Nat.le_of_ble_eq_true rfl) ?_
  intro p e s m args below meth c Q A ls H hx hb hml hown hts hK hN hP hD hS hA hl hend
  have hown : s.vm.findClass RX8 = some m.cls := hown
  have hl : lv_has ls 6 [(0, .ref (h 0)), (1, .int x1), (2, .int x2)] := hl
  have hin8 : ∀ w ∈ u_ws RX8 TX8 9, w ∈ wsX8_racesBetween := by decide +kernel
  have J69 : ∀ (x3 : Int32) (H : Heap) (locs : List Loc) (ls : Array Slot), f8_racesBetween_b69 v_now v_meetings_reached x3 = some r0 → va_P D vwCl (wdO cB cI cZ cO h v_now v_tried v_past_kept v_past_oldest v_past_size v_all_threads v_all_rows v_all_ended v_all_known v_all_stepsInAll v_all_count v_all_standstills v_all_wrongOnes v_all_unlikeEnds v_meetings_reached v_text_bytes v_text_length v_text_place v_text_thread v_text_kind v_text_target v_text_value v_refusedBad v_refusedNo v_refusedFull) H → va_D A (wdO cB cI cZ cO h v_now v_tried v_past_kept v_past_oldest v_past_size v_all_threads v_all_rows v_all_ended v_all_known v_all_stepsInAll v_all_count v_all_standstills v_all_wrongOnes v_all_unlikeEnds v_meetings_reached v_text_bytes v_text_length v_text_place v_text_thread v_text_kind v_text_target v_text_value v_refusedBad v_refusedNo v_refusedFull) → va_S A s.heap H locs → lv_has ls 6 [(3, .int x3)] → W p l e rm8_racesBetween s m args below meth c H locs 0 0 Q (F0 m 69 ls []) := by
    intro x3 H locs ls hf hP hD hS hl
    rw [f8_racesBetween_b69] at hf
    refine lv_iload_n hx hb dX8_racesBetween_69 rfl (lv_at hl 0 rfl) ?_
    obtain rfl := Option.some.inj hf
    exact hend _ _ _ _ rfl hP hS dX8_racesBetween_70
  have J5 : ∀ (n : Nat) (x1 : Int32) (x2 : Int32) (x3 : Int32) (x4 : Int32) (H : Heap) (locs : List Loc) (ls : Array Slot), f8_racesBetween_l5 n v_now v_meetings_reached x1 x2 x3 x4 = some r0 → va_P D vwCl (wdO cB cI cZ cO h v_now v_tried v_past_kept v_past_oldest v_past_size v_all_threads v_all_rows v_all_ended v_all_known v_all_stepsInAll v_all_count v_all_standstills v_all_wrongOnes v_all_unlikeEnds v_meetings_reached v_text_bytes v_text_length v_text_place v_text_thread v_text_kind v_text_target v_text_value v_refusedBad v_refusedNo v_refusedFull) H → va_D A (wdO cB cI cZ cO h v_now v_tried v_past_kept v_past_oldest v_past_size v_all_threads v_all_rows v_all_ended v_all_known v_all_stepsInAll v_all_count v_all_standstills v_all_wrongOnes v_all_unlikeEnds v_meetings_reached v_text_bytes v_text_length v_text_place v_text_thread v_text_kind v_text_target v_text_value v_refusedBad v_refusedNo v_refusedFull) → va_S A s.heap H locs → lv_has ls 6 [(0, .ref (h 0)), (1, .int x1), (2, .int x2), (3, .int x3), (4, .int x4)] → W p l e rm8_racesBetween s m args below meth c H locs 0 0 Q (F0 m 5 ls []) := by
    intro n
    induction n with
    | zero =>
      intro x1 x2 x3 x4 H locs ls hf
      cases (show (none : Option (Int32)) = some r0 from hf)
    | succ n ih =>
      have J63 : ∀ (x1 : Int32) (x2 : Int32) (x3 : Int32) (x4 : Int32) (H : Heap) (locs : List Loc) (ls : Array Slot), f8_racesBetween_b63 (f8_racesBetween_l5 n) v_now v_meetings_reached x1 x2 x3 x4 = some r0 → va_P D vwCl (wdO cB cI cZ cO h v_now v_tried v_past_kept v_past_oldest v_past_size v_all_threads v_all_rows v_all_ended v_all_known v_all_stepsInAll v_all_count v_all_standstills v_all_wrongOnes v_all_unlikeEnds v_meetings_reached v_text_bytes v_text_length v_text_place v_text_thread v_text_kind v_text_target v_text_value v_refusedBad v_refusedNo v_refusedFull) H → va_D A (wdO cB cI cZ cO h v_now v_tried v_past_kept v_past_oldest v_past_size v_all_threads v_all_rows v_all_ended v_all_known v_all_stepsInAll v_all_count v_all_standstills v_all_wrongOnes v_all_unlikeEnds v_meetings_reached v_text_bytes v_text_length v_text_place v_text_thread v_text_kind v_text_target v_text_value v_refusedBad v_refusedNo v_refusedFull) → va_S A s.heap H locs → lv_has ls 6 [(0, .ref (h 0)), (1, .int x1), (2, .int x2), (3, .int x3), (4, .int x4)] → W p l e rm8_racesBetween s m args below meth c H locs 0 0 Q (F0 m 63 ls []) := by
        intro x1 x2 x3 x4 H locs ls hf hP hD hS hl
        rw [f8_racesBetween_b63] at hf
        refine lv_iinc (v := (x4 + 1)) (lv' := [(4, .int (x4 + 1)), (0, .ref (h 0)), (1, .int x1), (2, .int x2), (3, .int x3)]) hx hb dX8_racesBetween_63 hl (k := 4) rfl rfl (by decide) rfl (fun ls hl => ?_)
        refine lv_goto (tgt := 5) hx hb dX8_racesBetween_66 (by decide) ?_
        exact ih x1 x2 x3 (x4 + 1) _ _ _ hf hP hD hS (lv_sub hl [1, 2, 3, 4, 0] rfl)
      have J21 : ∀ (n21 : Nat) (x1 : Int32) (x2 : Int32) (x3 : Int32) (x4 : Int32) (x5 : Int32) (H : Heap) (locs : List Loc) (ls : Array Slot), f8_racesBetween_l21 (f8_racesBetween_l5 n) n21 v_now v_meetings_reached x1 x2 x3 x4 x5 = some r0 → va_P D vwCl (wdO cB cI cZ cO h v_now v_tried v_past_kept v_past_oldest v_past_size v_all_threads v_all_rows v_all_ended v_all_known v_all_stepsInAll v_all_count v_all_standstills v_all_wrongOnes v_all_unlikeEnds v_meetings_reached v_text_bytes v_text_length v_text_place v_text_thread v_text_kind v_text_target v_text_value v_refusedBad v_refusedNo v_refusedFull) H → va_D A (wdO cB cI cZ cO h v_now v_tried v_past_kept v_past_oldest v_past_size v_all_threads v_all_rows v_all_ended v_all_known v_all_stepsInAll v_all_count v_all_standstills v_all_wrongOnes v_all_unlikeEnds v_meetings_reached v_text_bytes v_text_length v_text_place v_text_thread v_text_kind v_text_target v_text_value v_refusedBad v_refusedNo v_refusedFull) → va_S A s.heap H locs → lv_has ls 6 [(0, .ref (h 0)), (1, .int x1), (2, .int x2), (3, .int x3), (4, .int x4), (5, .int x5)] → W p l e rm8_racesBetween s m args below meth c H locs 0 0 Q (F0 m 21 ls []) := by
        intro n21
        induction n21 with
        | zero =>
          intro x1 x2 x3 x4 x5 H locs ls hf
          cases (show (none : Option (Int32)) = some r0 from hf)
        | succ n21 ih21 =>
          have J57 : ∀ (x1 : Int32) (x2 : Int32) (x3 : Int32) (x4 : Int32) (x5 : Int32) (H : Heap) (locs : List Loc) (ls : Array Slot), f8_racesBetween_b57 (f8_racesBetween_l5 n) (f8_racesBetween_l21 (f8_racesBetween_l5 n) n21) v_now v_meetings_reached x1 x2 x3 x4 x5 = some r0 → va_P D vwCl (wdO cB cI cZ cO h v_now v_tried v_past_kept v_past_oldest v_past_size v_all_threads v_all_rows v_all_ended v_all_known v_all_stepsInAll v_all_count v_all_standstills v_all_wrongOnes v_all_unlikeEnds v_meetings_reached v_text_bytes v_text_length v_text_place v_text_thread v_text_kind v_text_target v_text_value v_refusedBad v_refusedNo v_refusedFull) H → va_D A (wdO cB cI cZ cO h v_now v_tried v_past_kept v_past_oldest v_past_size v_all_threads v_all_rows v_all_ended v_all_known v_all_stepsInAll v_all_count v_all_standstills v_all_wrongOnes v_all_unlikeEnds v_meetings_reached v_text_bytes v_text_length v_text_place v_text_thread v_text_kind v_text_target v_text_value v_refusedBad v_refusedNo v_refusedFull) → va_S A s.heap H locs → lv_has ls 6 [(0, .ref (h 0)), (1, .int x1), (2, .int x2), (3, .int x3), (4, .int x4), (5, .int x5)] → W p l e rm8_racesBetween s m args below meth c H locs 0 0 Q (F0 m 57 ls []) := by
            intro x1 x2 x3 x4 x5 H locs ls hf hP hD hS hl
            rw [f8_racesBetween_b57] at hf
            refine lv_iinc (v := (x5 + 1)) (lv' := [(5, .int (x5 + 1)), (0, .ref (h 0)), (1, .int x1), (2, .int x2), (3, .int x3), (4, .int x4)]) hx hb dX8_racesBetween_57 hl (k := 5) rfl rfl (by decide) rfl (fun ls hl => ?_)
            refine lv_goto (tgt := 21) hx hb dX8_racesBetween_60 (by decide) ?_
            exact ih21 x1 x2 x3 x4 (x5 + 1) _ _ _ hf hP hD hS (lv_sub hl [1, 2, 3, 4, 5, 0] rfl)
          intro x1 x2 x3 x4 x5 H locs ls hf hP hD hS hl
          rw [f8_racesBetween_l21_s] at hf
          refine lv_iload hx hb dX8_racesBetween_21 (lv_at hl 5 rfl) ?_
          refine lv_aload_n hx hb dX8_racesBetween_23 rfl (lv_at hl 0 rfl) ?_
          refine va_get (D := D) (cl := vwCl) (ci := 5) (v := .ref (h 1)) (C := RX8) (T := TX8) (N := 9) hx hb hts hin8 hown hK hP 0 rfl rfl 0 (by decide) (hts (.fieldLink RX8 12 "StepOrders" "now" "LStepOrders$State;") (by decide +kernel)) (fun _ h9 => h9) rfl dX8_racesBetween_24 ?_
          refine lv_iload_n hx hb dX8_racesBetween_27 rfl (lv_at hl 2 rfl) ?_
          refine kb_bind hf (fun q10 hq10 hf => ?_)
          have hPc : va_P D vwCl (wdS cI h 1 v_now) H := hP.sub [1, 2, 3] rfl
          have hDc : va_D A (wdS cI h 1 v_now) := hD.sub [1, 2, 3] (by decide) rfl
          refine kd_iR (va_runV (As := [.int x2]) (rest := [.int x5]) ⟨hx, hb, hml, hown, hts⟩ (c5_stepsOf l D cB cI cZ cO h 1 H.size x2 v_now q10 hq10) (cwV 1 hts gX8_racesBetween_X5_stepsOf rfl rfl rfl (by decide +kernel) ⟨Nat.le_of_ble_eq_true rfl, Nat.le_of_ble_eq_true rfl⟩) ⟨kb_blind, va_recv hK hPc (ci := 3) (q0 := 0) rfl rfl, kb_pre hPc hDc hK hN⟩ rfl rfl hl.1 rfl (lv_room (Nat.le_of_ble_eq_true rfl)) dX8_racesBetween_28 ⟨Nat.le_refl _, Nat.le_refl _⟩) hP hD hS hA [1, 2, 3] rfl (fun H locs hn11 hP hS => ?_)
          refine lv_icmp_ge (tgt := 63) hx hb dX8_racesBetween_31 (by decide) (fun c12 => ?_) (fun c12 => ?_)
          · rw [if_pos c12] at hf
            exact J63 x1 x2 x3 x4 _ _ _ hf hP hD hS (lv_sub hl [0, 1, 2, 3, 4] rfl)
          · rw [if_neg c12] at hf
            refine lv_aload_n hx hb dX8_racesBetween_34 rfl (lv_at hl 0 rfl) ?_
            refine va_get (D := D) (cl := vwCl) (ci := 5) (v := .ref (h 30)) (C := RX8) (T := TX8) (N := 9) hx hb hts hin8 hown hK hP 0 rfl rfl 4 (by decide) (hts (.fieldLink RX8 36 "StepOrders" "meetings" "LStepOrders$Meetings;") (by decide +kernel)) (fun _ h9 => h9) rfl dX8_racesBetween_35 ?_
            refine lv_aload_n hx hb dX8_racesBetween_38 rfl (lv_at hl 0 rfl) ?_
            refine va_get (D := D) (cl := vwCl) (ci := 5) (v := .ref (h 1)) (C := RX8) (T := TX8) (N := 9) hx hb hts hin8 hown hK hP 0 rfl rfl 0 (by decide) (hts (.fieldLink RX8 12 "StepOrders" "now" "LStepOrders$State;") (by decide +kernel)) (fun _ h9 => h9) rfl dX8_racesBetween_39 ?_
            refine lv_iload_n hx hb dX8_racesBetween_42 rfl (lv_at hl 1 rfl) ?_
            refine lv_iload hx hb dX8_racesBetween_43 (lv_at hl 4 rfl) ?_
            refine lv_iload_n hx hb dX8_racesBetween_45 rfl (lv_at hl 2 rfl) ?_
            refine lv_iload hx hb dX8_racesBetween_46 (lv_at hl 5 rfl) ?_
            refine kb_bind hf (fun q13 hq13 hf => ?_)
            have hPc : va_P D vwCl (wdG cZ h 30 v_meetings_reached ++ wdS cI h 1 v_now) H := hP.sub [30, 31, 1, 2, 3] rfl
            have hDc : va_D A (wdG cZ h 30 v_meetings_reached ++ wdS cI h 1 v_now) := hD.sub [30, 31, 1, 2, 3] (by decide) rfl
            refine kd_iR (va_runV (As := [.ref (h 1), .int x1, .int x4, .int x2, .int x5]) (rest := []) ⟨hx, hb, hml, hown, hts⟩ (c1_isRace l D cB cI cZ cO h 30 1 H.size x1 x4 x2 x5 v_meetings_reached v_now q13 hq13) (cwV 5 hts gX8_racesBetween_X1_isRace rfl rfl rfl (by decide +kernel) ⟨Nat.le_of_ble_eq_true rfl, Nat.le_of_ble_eq_true rfl⟩) ⟨kb_blind, va_recv hK hPc (ci := 1) (q0 := 0) rfl rfl, kb_pre hPc hDc hK hN⟩ rfl rfl hl.1 rfl (lv_room (Nat.le_of_ble_eq_true rfl)) dX8_racesBetween_48 ⟨Nat.le_refl _, Nat.le_refl _⟩) hP hD hS hA [30, 31, 1, 2, 3] rfl (fun H locs hn14 hP hS => ?_)
            refine lv_if_eq (tgt := 57) hx hb dX8_racesBetween_51 (by decide) (fun c15 => ?_) (fun c15 => ?_)
            · rw [if_pos c15] at hf
              exact J57 x1 x2 x3 x4 x5 _ _ _ hf hP hD hS (lv_sub hl [0, 1, 2, 3, 4, 5] rfl)
            · rw [if_neg c15] at hf
              refine lv_iinc (v := (x3 + 1)) (lv' := [(3, .int (x3 + 1)), (0, .ref (h 0)), (1, .int x1), (2, .int x2), (4, .int x4), (5, .int x5)]) hx hb dX8_racesBetween_54 hl (k := 3) rfl rfl (by decide) rfl (fun ls hl => ?_)
              exact J57 x1 x2 (x3 + 1) x4 x5 _ _ _ hf hP hD hS (lv_sub hl [1, 2, 3, 0, 4, 5] rfl)
      intro x1 x2 x3 x4 H locs ls hf hP hD hS hl
      rw [f8_racesBetween_l5_s] at hf
      refine lv_iload hx hb dX8_racesBetween_5 (lv_at hl 4 rfl) ?_
      refine lv_aload_n hx hb dX8_racesBetween_7 rfl (lv_at hl 0 rfl) ?_
      refine va_get (D := D) (cl := vwCl) (ci := 5) (v := .ref (h 1)) (C := RX8) (T := TX8) (N := 9) hx hb hts hin8 hown hK hP 0 rfl rfl 0 (by decide) (hts (.fieldLink RX8 12 "StepOrders" "now" "LStepOrders$State;") (by decide +kernel)) (fun _ h9 => h9) rfl dX8_racesBetween_8 ?_
      refine lv_iload_n hx hb dX8_racesBetween_11 rfl (lv_at hl 1 rfl) ?_
      refine kb_bind hf (fun q16 hq16 hf => ?_)
      have hPc : va_P D vwCl (wdS cI h 1 v_now) H := hP.sub [1, 2, 3] rfl
      have hDc : va_D A (wdS cI h 1 v_now) := hD.sub [1, 2, 3] (by decide) rfl
      refine kd_iR (va_runV (As := [.int x1]) (rest := [.int x4]) ⟨hx, hb, hml, hown, hts⟩ (c5_stepsOf l D cB cI cZ cO h 1 H.size x1 v_now q16 hq16) (cwV 1 hts gX8_racesBetween_X5_stepsOf rfl rfl rfl (by decide +kernel) ⟨Nat.le_of_ble_eq_true rfl, Nat.le_of_ble_eq_true rfl⟩) ⟨kb_blind, va_recv hK hPc (ci := 3) (q0 := 0) rfl rfl, kb_pre hPc hDc hK hN⟩ rfl rfl hl.1 rfl (lv_room (Nat.le_of_ble_eq_true rfl)) dX8_racesBetween_12 ⟨Nat.le_refl _, Nat.le_refl _⟩) hP hD hS hA [1, 2, 3] rfl (fun H locs hn17 hP hS => ?_)
      refine lv_icmp_ge (tgt := 69) hx hb dX8_racesBetween_15 (by decide) (fun c18 => ?_) (fun c18 => ?_)
      · rw [if_pos c18] at hf
        exact J69 x3 _ _ _ hf hP hD hS (lv_sub hl [3] rfl)
      · rw [if_neg c18] at hf
        refine lv_iconst (v := 0) hx hb dX8_racesBetween_18 (by decide) ?_
        refine lv_istore (lv' := [(5, .int (0 : Int32)), (0, .ref (h 0)), (1, .int x1), (2, .int x2), (3, .int x3), (4, .int x4)]) hx hb dX8_racesBetween_19 hl (by decide) rfl (fun ls hl => ?_)
        exact J21 kFUEL x1 x2 x3 x4 (0 : Int32) _ _ _ hf hP hD hS (lv_sub hl [1, 2, 3, 4, 5, 0] rfl)
  rw [f8_racesBetween] at hf
  refine lv_iconst (v := 0) hx hb dX8_racesBetween_0 (by decide) ?_
  refine lv_istore_n (lv' := [(3, .int (0 : Int32)), (0, .ref (h 0)), (1, .int x1), (2, .int x2)]) hx hb dX8_racesBetween_1 rfl hl (by decide) rfl (fun ls hl => ?_)
  refine lv_iconst (v := 0) hx hb dX8_racesBetween_2 (by decide) ?_
  refine lv_istore (lv' := [(4, .int (0 : Int32)), (3, .int (0 : Int32)), (0, .ref (h 0)), (1, .int x1), (2, .int x2)]) hx hb dX8_racesBetween_3 hl (by decide) rfl (fun ls hl => ?_)
  exact J5 kFUEL x1 x2 (0 : Int32) (0 : Int32) _ _ _ hf hP hD hS (lv_sub hl [2, 3, 4, 1, 0] rfl)

set_option maxHeartbeats 4000000 in
set_option maxRecDepth 100000 in
theorem c8_races (l : Launch) (D : va_G) (cB cI cZ cO : ClassId) (h : Nat → Nat) (sz : Nat) (v_now : sT) (v_tried : sT) (v_past_kept : Nat → sT) (v_past_oldest : Int32) (v_past_size : Int32) (v_all_threads : sT) (v_all_rows : Nat → Int32) (v_all_ended : Nat → Int32) (v_all_known : Int32) (v_all_stepsInAll : Int32) (v_all_count : Int32) (v_all_standstills : Int32) (v_all_wrongOnes : Int32) (v_all_unlikeEnds : Int32) (v_meetings_reached : Nat → Int32) (v_text_bytes : Nat → Int32) (v_text_length : Int32) (v_text_place : Int32) (v_text_thread : Int32) (v_text_kind : Int32) (v_text_target : Int32) (v_text_value : Int32) (v_refusedBad : Int32) (v_refusedNo : Int32) (v_refusedFull : Int32) (r0 : Int32) (v_meetings_reached' : Nat → Int32) (hf : f8_races v_now v_meetings_reached = some (r0, v_meetings_reached')) : Met l yX8_races wsX8_races rm8_races (va_Pc [.ref (h 0)] (kb_B D (ka_tys cB cI cZ cO) sz (wdO cB cI cZ cO h v_now v_tried v_past_kept v_past_oldest v_past_size v_all_threads v_all_rows v_all_ended v_all_known v_all_stepsInAll v_all_count v_all_standstills v_all_wrongOnes v_all_unlikeEnds v_meetings_reached v_text_bytes v_text_length v_text_place v_text_thread v_text_kind v_text_target v_text_value v_refusedBad v_refusedNo v_refusedFull))) (va_Qi (kb_post .int r0) (fun _ t => va_P D vwCl (wdO cB cI cZ cO h v_now v_tried v_past_kept v_past_oldest v_past_size v_all_threads v_all_rows v_all_ended v_all_known v_all_stepsInAll v_all_count v_all_standstills v_all_wrongOnes v_all_unlikeEnds (v_meetings_reached') v_text_bytes v_text_length v_text_place v_text_thread v_text_kind v_text_target v_text_value v_refusedBad v_refusedNo v_refusedFull) t.heap) (va_A (wdO cB cI cZ cO h v_now v_tried v_past_kept v_past_oldest v_past_size v_all_threads v_all_rows v_all_ended v_all_known v_all_stepsInAll v_all_count v_all_standstills v_all_wrongOnes v_all_unlikeEnds v_meetings_reached v_text_bytes v_text_length v_text_place v_text_thread v_text_kind v_text_target v_text_value v_refusedBad v_refusedNo v_refusedFull) sz)) 0 0 (va_A (wdO cB cI cZ cO h v_now v_tried v_past_kept v_past_oldest v_past_size v_all_threads v_all_rows v_all_ended v_all_known v_all_stepsInAll v_all_count v_all_standstills v_all_wrongOnes v_all_unlikeEnds v_meetings_reached v_text_bytes v_text_length v_text_place v_text_thread v_text_kind v_text_target v_text_value v_refusedBad v_refusedNo v_refusedFull) sz) := by
  refine kb_metZ (cc := cX8_races) (maxL := 4) (ty := .int) (by decide) rfl (Nat.le_of_ble_eq_true rfl) ?_
  intro p e s m args below meth c Q A ls H hx hb hml hown hts hK hN hP hD hS hA hl hend
  have hown : s.vm.findClass RX8 = some m.cls := hown
  have hl : lv_has ls 4 [(0, .ref (h 0))] := hl
  have hin8 : ∀ w ∈ u_ws RX8 TX8 9, w ∈ wsX8_races := by decide +kernel
  have J50 : ∀ (v_meetings_reached : Nat → Int32) (x1 : Int32) (H : Heap) (locs : List Loc) (ls : Array Slot), f8_races_b50 v_now v_meetings_reached x1 = some (r0, v_meetings_reached') → va_P D vwCl (wdO cB cI cZ cO h v_now v_tried v_past_kept v_past_oldest v_past_size v_all_threads v_all_rows v_all_ended v_all_known v_all_stepsInAll v_all_count v_all_standstills v_all_wrongOnes v_all_unlikeEnds v_meetings_reached v_text_bytes v_text_length v_text_place v_text_thread v_text_kind v_text_target v_text_value v_refusedBad v_refusedNo v_refusedFull) H → va_D A (wdO cB cI cZ cO h v_now v_tried v_past_kept v_past_oldest v_past_size v_all_threads v_all_rows v_all_ended v_all_known v_all_stepsInAll v_all_count v_all_standstills v_all_wrongOnes v_all_unlikeEnds v_meetings_reached v_text_bytes v_text_length v_text_place v_text_thread v_text_kind v_text_target v_text_value v_refusedBad v_refusedNo v_refusedFull) → va_S A s.heap H locs → lv_has ls 4 [(1, .int x1)] → W p l e rm8_races s m args below meth c H locs 0 0 Q (F0 m 50 ls []) := by
    intro v_meetings_reached x1 H locs ls hf hP hD hS hl
    rw [f8_races_b50] at hf
    refine lv_iload_n hx hb dX8_races_50 rfl (lv_at hl 0 rfl) ?_
    obtain ⟨z1, y1⟩ := Prod.mk.inj (Option.some.inj hf)
    subst z1 y1
    exact hend _ _ _ _ rfl hP hS dX8_races_51
  have J15 : ∀ (n : Nat) (v_meetings_reached : Nat → Int32) (x1 : Int32) (x2 : Int32) (H : Heap) (locs : List Loc) (ls : Array Slot), f8_races_l15 n v_now v_meetings_reached x1 x2 = some (r0, v_meetings_reached') → va_P D vwCl (wdO cB cI cZ cO h v_now v_tried v_past_kept v_past_oldest v_past_size v_all_threads v_all_rows v_all_ended v_all_known v_all_stepsInAll v_all_count v_all_standstills v_all_wrongOnes v_all_unlikeEnds v_meetings_reached v_text_bytes v_text_length v_text_place v_text_thread v_text_kind v_text_target v_text_value v_refusedBad v_refusedNo v_refusedFull) H → va_D A (wdO cB cI cZ cO h v_now v_tried v_past_kept v_past_oldest v_past_size v_all_threads v_all_rows v_all_ended v_all_known v_all_stepsInAll v_all_count v_all_standstills v_all_wrongOnes v_all_unlikeEnds v_meetings_reached v_text_bytes v_text_length v_text_place v_text_thread v_text_kind v_text_target v_text_value v_refusedBad v_refusedNo v_refusedFull) → va_S A s.heap H locs → lv_has ls 4 [(0, .ref (h 0)), (1, .int x1), (2, .int x2)] → W p l e rm8_races s m args below meth c H locs 0 0 Q (F0 m 15 ls []) := by
    intro n
    induction n with
    | zero =>
      intro v_meetings_reached x1 x2 H locs ls hf
      cases (show (none : Option (Int32 × (Nat → Int32))) = some (r0, v_meetings_reached') from hf)
    | succ n ih =>
      have J44 : ∀ (v_meetings_reached : Nat → Int32) (x1 : Int32) (x2 : Int32) (H : Heap) (locs : List Loc) (ls : Array Slot), f8_races_b44 (f8_races_l15 n) v_now v_meetings_reached x1 x2 = some (r0, v_meetings_reached') → va_P D vwCl (wdO cB cI cZ cO h v_now v_tried v_past_kept v_past_oldest v_past_size v_all_threads v_all_rows v_all_ended v_all_known v_all_stepsInAll v_all_count v_all_standstills v_all_wrongOnes v_all_unlikeEnds v_meetings_reached v_text_bytes v_text_length v_text_place v_text_thread v_text_kind v_text_target v_text_value v_refusedBad v_refusedNo v_refusedFull) H → va_D A (wdO cB cI cZ cO h v_now v_tried v_past_kept v_past_oldest v_past_size v_all_threads v_all_rows v_all_ended v_all_known v_all_stepsInAll v_all_count v_all_standstills v_all_wrongOnes v_all_unlikeEnds v_meetings_reached v_text_bytes v_text_length v_text_place v_text_thread v_text_kind v_text_target v_text_value v_refusedBad v_refusedNo v_refusedFull) → va_S A s.heap H locs → lv_has ls 4 [(0, .ref (h 0)), (1, .int x1), (2, .int x2)] → W p l e rm8_races s m args below meth c H locs 0 0 Q (F0 m 44 ls []) := by
        intro v_meetings_reached x1 x2 H locs ls hf hP hD hS hl
        rw [f8_races_b44] at hf
        refine lv_iinc (v := (x2 + 1)) (lv' := [(2, .int (x2 + 1)), (0, .ref (h 0)), (1, .int x1)]) hx hb dX8_races_44 hl (k := 2) rfl rfl (by decide) rfl (fun ls hl => ?_)
        refine lv_goto (tgt := 15) hx hb dX8_races_47 (by decide) ?_
        exact ih v_meetings_reached x1 (x2 + 1) _ _ _ hf hP hD hS (lv_sub hl [1, 2, 0] rfl)
      have J24 : ∀ (n24 : Nat) (v_meetings_reached : Nat → Int32) (x1 : Int32) (x2 : Int32) (x3 : Int32) (H : Heap) (locs : List Loc) (ls : Array Slot), f8_races_l24 (f8_races_l15 n) n24 v_now v_meetings_reached x1 x2 x3 = some (r0, v_meetings_reached') → va_P D vwCl (wdO cB cI cZ cO h v_now v_tried v_past_kept v_past_oldest v_past_size v_all_threads v_all_rows v_all_ended v_all_known v_all_stepsInAll v_all_count v_all_standstills v_all_wrongOnes v_all_unlikeEnds v_meetings_reached v_text_bytes v_text_length v_text_place v_text_thread v_text_kind v_text_target v_text_value v_refusedBad v_refusedNo v_refusedFull) H → va_D A (wdO cB cI cZ cO h v_now v_tried v_past_kept v_past_oldest v_past_size v_all_threads v_all_rows v_all_ended v_all_known v_all_stepsInAll v_all_count v_all_standstills v_all_wrongOnes v_all_unlikeEnds v_meetings_reached v_text_bytes v_text_length v_text_place v_text_thread v_text_kind v_text_target v_text_value v_refusedBad v_refusedNo v_refusedFull) → va_S A s.heap H locs → lv_has ls 4 [(0, .ref (h 0)), (1, .int x1), (2, .int x2), (3, .int x3)] → W p l e rm8_races s m args below meth c H locs 0 0 Q (F0 m 24 ls []) := by
        intro n24
        induction n24 with
        | zero =>
          intro v_meetings_reached x1 x2 x3 H locs ls hf
          cases (show (none : Option (Int32 × (Nat → Int32))) = some (r0, v_meetings_reached') from hf)
        | succ n24 ih24 =>
          intro v_meetings_reached x1 x2 x3 H locs ls hf hP hD hS hl
          rw [f8_races_l24_s] at hf
          refine lv_iload_n hx hb dX8_races_24 rfl (lv_at hl 3 rfl) ?_
          refine lv_iconst (v := 3) hx hb dX8_races_25 (by decide) ?_
          refine lv_icmp_ge (tgt := 44) hx hb dX8_races_26 (by decide) (fun c5 => ?_) (fun c5 => ?_)
          · rw [if_pos c5] at hf
            exact J44 v_meetings_reached x1 x2 _ _ _ hf hP hD hS (lv_sub hl [0, 1, 2] rfl)
          · rw [if_neg c5] at hf
            refine lv_iload_n hx hb dX8_races_29 rfl (lv_at hl 1 rfl) ?_
            refine lv_aload_n hx hb dX8_races_30 rfl (lv_at hl 0 rfl) ?_
            refine lv_iload_n hx hb dX8_races_31 rfl (lv_at hl 2 rfl) ?_
            refine lv_iload_n hx hb dX8_races_32 rfl (lv_at hl 3 rfl) ?_
            refine kb_bind hf (fun q6 hq6 hf => ?_)
            have hPc : va_P D vwCl (wdO cB cI cZ cO h v_now v_tried v_past_kept v_past_oldest v_past_size v_all_threads v_all_rows v_all_ended v_all_known v_all_stepsInAll v_all_count v_all_standstills v_all_wrongOnes v_all_unlikeEnds v_meetings_reached v_text_bytes v_text_length v_text_place v_text_thread v_text_kind v_text_target v_text_value v_refusedBad v_refusedNo v_refusedFull) H := hP.sub [0, 1, 2, 3, 4, 5, 6, 7, 8, 9, 10, 11, 12, 13, 14, 15, 16, 17, 18, 19, 20, 21, 22, 23, 24, 25, 26, 27, 28, 29, 30, 31, 32, 33] rfl
            have hDc : va_D A (wdO cB cI cZ cO h v_now v_tried v_past_kept v_past_oldest v_past_size v_all_threads v_all_rows v_all_ended v_all_known v_all_stepsInAll v_all_count v_all_standstills v_all_wrongOnes v_all_unlikeEnds v_meetings_reached v_text_bytes v_text_length v_text_place v_text_thread v_text_kind v_text_target v_text_value v_refusedBad v_refusedNo v_refusedFull) := hD.sub [0, 1, 2, 3, 4, 5, 6, 7, 8, 9, 10, 11, 12, 13, 14, 15, 16, 17, 18, 19, 20, 21, 22, 23, 24, 25, 26, 27, 28, 29, 30, 31, 32, 33] (by decide) rfl
            refine kd_iR (va_runV (As := [.int x2, .int x3]) (rest := [.int x1]) ⟨hx, hb, hml, hown, hts⟩ (c8_racesBetween l D cB cI cZ cO h H.size x2 x3 v_now v_tried v_past_kept v_past_oldest v_past_size v_all_threads v_all_rows v_all_ended v_all_known v_all_stepsInAll v_all_count v_all_standstills v_all_wrongOnes v_all_unlikeEnds v_meetings_reached v_text_bytes v_text_length v_text_place v_text_thread v_text_kind v_text_target v_text_value v_refusedBad v_refusedNo v_refusedFull q6 hq6) (cwV 2 hts gX8_races_X8_racesBetween rfl rfl rfl (by decide +kernel) ⟨Nat.le_of_ble_eq_true rfl, Nat.le_of_ble_eq_true rfl⟩) ⟨kb_blind, va_recv hK hPc (ci := 5) (q0 := 0) rfl rfl, kb_pre hPc hDc hK hN⟩ rfl rfl hl.1 rfl (lv_room (Nat.le_of_ble_eq_true rfl)) dX8_races_33 ⟨Nat.le_refl _, Nat.le_refl _⟩) hP hD hS hA [0, 1, 2, 3, 4, 5, 6, 7, 8, 9, 10, 11, 12, 13, 14, 15, 16, 17, 18, 19, 20, 21, 22, 23, 24, 25, 26, 27, 28, 29, 30, 31, 32, 33] rfl (fun H locs hn7 hP hS => ?_)
            refine lv_iadd hx hb dX8_races_36 ?_
            refine lv_istore_n (lv' := [(1, .int (x1 + q6)), (0, .ref (h 0)), (2, .int x2), (3, .int x3)]) hx hb dX8_races_37 rfl hl (by decide) rfl (fun ls hl => ?_)
            refine lv_iinc (v := (x3 + 1)) (lv' := [(3, .int (x3 + 1)), (1, .int (x1 + q6)), (0, .ref (h 0)), (2, .int x2)]) hx hb dX8_races_38 hl (k := 3) rfl rfl (by decide) rfl (fun ls hl => ?_)
            refine lv_goto (tgt := 24) hx hb dX8_races_41 (by decide) ?_
            exact ih24 v_meetings_reached (x1 + q6) x2 (x3 + 1) _ _ _ hf hP hD hS (lv_sub hl [2, 1, 3, 0] rfl)
      intro v_meetings_reached x1 x2 H locs ls hf hP hD hS hl
      rw [f8_races_l15_s] at hf
      refine lv_iload_n hx hb dX8_races_15 rfl (lv_at hl 2 rfl) ?_
      refine lv_iconst (v := 3) hx hb dX8_races_16 (by decide) ?_
      refine lv_icmp_ge (tgt := 50) hx hb dX8_races_17 (by decide) (fun c8 => ?_) (fun c8 => ?_)
      · rw [if_pos c8] at hf
        exact J50 v_meetings_reached x1 _ _ _ hf hP hD hS (lv_sub hl [1] rfl)
      · rw [if_neg c8] at hf
        refine lv_iload_n hx hb dX8_races_20 rfl (lv_at hl 2 rfl) ?_
        refine lv_iconst (v := 1) hx hb dX8_races_21 (by decide) ?_
        refine lv_iadd hx hb dX8_races_22 ?_
        refine lv_istore_n (lv' := [(3, .int (x2 + (1 : Int32))), (0, .ref (h 0)), (1, .int x1), (2, .int x2)]) hx hb dX8_races_23 rfl hl (by decide) rfl (fun ls hl => ?_)
        exact J24 kFUEL v_meetings_reached x1 x2 (x2 + (1 : Int32)) _ _ _ hf hP hD hS (lv_sub hl [1, 2, 3, 0] rfl)
  rw [f8_races] at hf
  refine lv_aload_n hx hb dX8_races_0 rfl (lv_at hl 0 rfl) ?_
  refine va_get (D := D) (cl := vwCl) (ci := 5) (v := .ref (h 30)) (C := RX8) (T := TX8) (N := 9) hx hb hts hin8 hown hK hP 0 rfl rfl 4 (by decide) (hts (.fieldLink RX8 36 "StepOrders" "meetings" "LStepOrders$Meetings;") (by decide +kernel)) (fun _ h9 => h9) rfl dX8_races_1 ?_
  refine lv_aload_n hx hb dX8_races_4 rfl (lv_at hl 0 rfl) ?_
  refine va_get (D := D) (cl := vwCl) (ci := 5) (v := .ref (h 1)) (C := RX8) (T := TX8) (N := 9) hx hb hts hin8 hown hK hP 0 rfl rfl 0 (by decide) (hts (.fieldLink RX8 12 "StepOrders" "now" "LStepOrders$State;") (by decide +kernel)) (fun _ h9 => h9) rfl dX8_races_5 ?_
  refine kb_bind hf (fun q9 hq9 hf => ?_)
  have hPc : va_P D vwCl (wdG cZ h 30 v_meetings_reached ++ wdS cI h 1 v_now) H := hP.sub [30, 31, 1, 2, 3] rfl
  have hDc : va_D A (wdG cZ h 30 v_meetings_reached ++ wdS cI h 1 v_now) := hD.sub [30, 31, 1, 2, 3] (by decide) rfl
  refine kd_vW (ws' := wdO cB cI cZ cO h v_now v_tried v_past_kept v_past_oldest v_past_size v_all_threads v_all_rows v_all_ended v_all_known v_all_stepsInAll v_all_count v_all_standstills v_all_wrongOnes v_all_unlikeEnds q9 v_text_bytes v_text_length v_text_place v_text_thread v_text_kind v_text_target v_text_value v_refusedBad v_refusedNo v_refusedFull) (va_runV (As := [.ref (h 1)]) (rest := []) ⟨hx, hb, hml, hown, hts⟩ (c1_goThrough l D cB cI cZ cO h 30 1 H.size v_meetings_reached v_now q9 hq9) (cwV 1 hts gX8_races_X1_goThrough rfl rfl rfl (by decide +kernel) ⟨Nat.le_of_ble_eq_true rfl, Nat.le_of_ble_eq_true rfl⟩) ⟨kb_blind, va_recv hK hPc (ci := 1) (q0 := 0) rfl rfl, kb_pre hPc hDc hK hN⟩ rfl rfl hl.1 rfl (lv_room (Nat.le_of_ble_eq_true rfl)) dX8_races_8 ⟨Nat.le_refl _, Nat.le_refl _⟩) hP hD hS hA [30, 31, 1, 2, 3] [0, 4, 5, 6, 7, 8, 9, 10, 11, 12, 13, 14, 15, 16, 17, 18, 19, 20, 21, 22, 23, 24, 25, 26, 27, 28, 29, 32, 33] rfl rfl (List.forall_mem_cons.mpr ⟨rfl, (List.forall_mem_cons.mpr ⟨rfl, (List.forall_mem_cons.mpr ⟨rfl, (List.forall_mem_cons.mpr ⟨rfl, (List.forall_mem_cons.mpr ⟨rfl, (List.forall_mem_cons.mpr ⟨rfl, (List.forall_mem_cons.mpr ⟨rfl, (List.forall_mem_cons.mpr ⟨rfl, (List.forall_mem_cons.mpr ⟨rfl, (List.forall_mem_cons.mpr ⟨rfl, (List.forall_mem_cons.mpr ⟨rfl, (List.forall_mem_cons.mpr ⟨rfl, (List.forall_mem_cons.mpr ⟨rfl, (List.forall_mem_cons.mpr ⟨rfl, (List.forall_mem_cons.mpr ⟨rfl, (List.forall_mem_cons.mpr ⟨rfl, (List.forall_mem_cons.mpr ⟨rfl, (List.forall_mem_cons.mpr ⟨rfl, (List.forall_mem_cons.mpr ⟨rfl, (List.forall_mem_cons.mpr ⟨rfl, (List.forall_mem_cons.mpr ⟨rfl, (List.forall_mem_cons.mpr ⟨rfl, (List.forall_mem_cons.mpr ⟨rfl, (List.forall_mem_cons.mpr ⟨rfl, (List.forall_mem_cons.mpr ⟨rfl, (List.forall_mem_cons.mpr ⟨rfl, (List.forall_mem_cons.mpr ⟨rfl, (List.forall_mem_cons.mpr ⟨rfl, (List.forall_mem_cons.mpr ⟨rfl, (fun _ h9 => absurd h9 List.not_mem_nil)⟩)⟩)⟩)⟩)⟩)⟩)⟩)⟩)⟩)⟩)⟩)⟩)⟩)⟩)⟩)⟩)⟩)⟩)⟩)⟩)⟩)⟩)⟩)⟩)⟩)⟩)⟩)⟩)⟩) rfl rfl (fun H locs hP hD hS => ?_)
  refine lv_iconst (v := 0) hx hb dX8_races_11 (by decide) ?_
  refine lv_istore_n (lv' := [(1, .int (0 : Int32)), (0, .ref (h 0))]) hx hb dX8_races_12 rfl hl (by decide) rfl (fun ls hl => ?_)
  refine lv_iconst (v := 0) hx hb dX8_races_13 (by decide) ?_
  refine lv_istore_n (lv' := [(2, .int (0 : Int32)), (1, .int (0 : Int32)), (0, .ref (h 0))]) hx hb dX8_races_14 rfl hl (by decide) rfl (fun ls hl => ?_)
  exact J15 kFUEL q9 (0 : Int32) (0 : Int32) _ _ _ hf hP hD hS (lv_sub hl [2, 1, 0] rfl)

set_option maxHeartbeats 4000000 in
set_option maxRecDepth 100000 in
theorem c8_does (l : Launch) (D : va_G) (cB cI cZ cO : ClassId) (h : Nat → Nat) (sz : Nat) (x1 : Int32) (v_now : sT) (v_tried : sT) (v_past_kept : Nat → sT) (v_past_oldest : Int32) (v_past_size : Int32) (v_all_threads : sT) (v_all_rows : Nat → Int32) (v_all_ended : Nat → Int32) (v_all_known : Int32) (v_all_stepsInAll : Int32) (v_all_count : Int32) (v_all_standstills : Int32) (v_all_wrongOnes : Int32) (v_all_unlikeEnds : Int32) (v_meetings_reached : Nat → Int32) (v_text_bytes : Nat → Int32) (v_text_length : Int32) (v_text_place : Int32) (v_text_thread : Int32) (v_text_kind : Int32) (v_text_target : Int32) (v_text_value : Int32) (v_refusedBad : Int32) (v_refusedNo : Int32) (v_refusedFull : Int32) (r0 : Int32) (v_now' : sT) (v_past_kept' : Nat → sT) (v_past_oldest' : Int32) (v_past_size' : Int32) (v_refusedBad' : Int32) (v_refusedNo' : Int32) (v_refusedFull' : Int32) (hf : f8_does v_now v_past_kept v_past_oldest v_past_size v_refusedBad v_refusedNo v_refusedFull x1 = some (r0, v_now', v_past_kept', v_past_oldest', v_past_size', v_refusedBad', v_refusedNo', v_refusedFull')) : Met l yX8_does wsX8_does rm8_does (va_Pc [.ref (h 0), .int x1] (kb_B D (ka_tys cB cI cZ cO) sz (wdO cB cI cZ cO h v_now v_tried v_past_kept v_past_oldest v_past_size v_all_threads v_all_rows v_all_ended v_all_known v_all_stepsInAll v_all_count v_all_standstills v_all_wrongOnes v_all_unlikeEnds v_meetings_reached v_text_bytes v_text_length v_text_place v_text_thread v_text_kind v_text_target v_text_value v_refusedBad v_refusedNo v_refusedFull))) (va_Qi (kb_post .int r0) (fun _ t => va_P D vwCl (wdO cB cI cZ cO h (v_now') v_tried (v_past_kept') (v_past_oldest') (v_past_size') v_all_threads v_all_rows v_all_ended v_all_known v_all_stepsInAll v_all_count v_all_standstills v_all_wrongOnes v_all_unlikeEnds v_meetings_reached v_text_bytes v_text_length v_text_place v_text_thread v_text_kind v_text_target v_text_value (v_refusedBad') (v_refusedNo') (v_refusedFull')) t.heap) (va_A (wdO cB cI cZ cO h v_now v_tried v_past_kept v_past_oldest v_past_size v_all_threads v_all_rows v_all_ended v_all_known v_all_stepsInAll v_all_count v_all_standstills v_all_wrongOnes v_all_unlikeEnds v_meetings_reached v_text_bytes v_text_length v_text_place v_text_thread v_text_kind v_text_target v_text_value v_refusedBad v_refusedNo v_refusedFull) sz)) 0 0 (va_A (wdO cB cI cZ cO h v_now v_tried v_past_kept v_past_oldest v_past_size v_all_threads v_all_rows v_all_ended v_all_known v_all_stepsInAll v_all_count v_all_standstills v_all_wrongOnes v_all_unlikeEnds v_meetings_reached v_text_bytes v_text_length v_text_place v_text_thread v_text_kind v_text_target v_text_value v_refusedBad v_refusedNo v_refusedFull) sz) := by
  refine kb_metZ (cc := cX8_does) (maxL := 2) (ty := .int) (by decide) rfl (Nat.le_of_ble_eq_true rfl) ?_
  intro p e s m args below meth c Q A ls H hx hb hml hown hts hK hN hP hD hS hA hl hend
  have hown : s.vm.findClass RX8 = some m.cls := hown
  have hl : lv_has ls 2 [(0, .ref (h 0)), (1, .int x1)] := hl
  have hin8 : ∀ w ∈ u_ws RX8 TX8 9, w ∈ wsX8_does := by decide +kernel
  rw [f8_does] at hf
  refine lv_iload_n hx hb dX8_does_0 rfl (lv_at hl 1 rfl) ?_
  refine lv_iconst (v := 3) hx hb dX8_does_1 (by decide) ?_
  have hPc : va_P D vwCl ([]) H := hP.sub [] rfl
  have hDc : va_D A ([]) := hD.sub [] (by decide) rfl
  refine kd_iR (va_runS (As := [.int x1, .int (3 : Int32)]) (rest := []) ⟨hx, hb, hml, hown, hts⟩ (c8_below l D cB cI cZ cO h H.size x1 (3 : Int32) (f8_below x1 (3 : Int32)) rfl) (va_cwS 2 hts gX8_does_X8_below rfl rfl rfl (by decide +kernel) ⟨Nat.le_of_ble_eq_true rfl, Nat.le_of_ble_eq_true rfl⟩) ⟨kb_blind, kb_pre hPc hDc hK hN⟩ rfl rfl hl.1 rfl (lv_room (Nat.le_of_ble_eq_true rfl)) dX8_does_2 ⟨Nat.le_refl _, Nat.le_refl _⟩) hP hD hS hA [] rfl (fun H locs hn1 hP hS => ?_)
  refine lv_if_ne (tgt := 15) hx hb dX8_does_5 (by decide) (fun c2 => ?_) (fun c2 => ?_)
  · rw [if_neg c2] at hf
    refine lv_aload_n hx hb dX8_does_15 rfl (lv_at hl 0 rfl) ?_
    refine va_get (D := D) (cl := vwCl) (ci := 5) (v := .ref (h 1)) (C := RX8) (T := TX8) (N := 9) hx hb hts hin8 hown hK hP 0 rfl rfl 0 (by decide) (hts (.fieldLink RX8 12 "StepOrders" "now" "LStepOrders$State;") (by decide +kernel)) (fun _ h9 => h9) rfl dX8_does_16 ?_
    refine lv_aload_n hx hb dX8_does_19 rfl (lv_at hl 0 rfl) ?_
    refine va_get (D := D) (cl := vwCl) (ci := 5) (v := .ref (h 1)) (C := RX8) (T := TX8) (N := 9) hx hb hts hin8 hown hK hP 0 rfl rfl 0 (by decide) (hts (.fieldLink RX8 12 "StepOrders" "now" "LStepOrders$State;") (by decide +kernel)) (fun _ h9 => h9) rfl dX8_does_20 ?_
    have hPc : va_P D vwCl (wdS cI h 1 v_now) H := hP.sub [1, 2, 3] rfl
    have hDc : va_D A (wdS cI h 1 v_now) := hD.sub [1, 2, 3] (by decide) rfl
    refine kd_lR (va_runV (As := []) (rest := [.ref (h 1)]) ⟨hx, hb, hml, hown, hts⟩ (c5_runMoment l D cB cI cZ cO h 1 H.size v_now (f5_runMoment v_now) rfl) (cwV 0 hts gX8_does_X5_runMoment rfl rfl rfl (by decide +kernel) ⟨Nat.le_of_ble_eq_true rfl, Nat.le_of_ble_eq_true rfl⟩) ⟨kb_blind, va_recv hK hPc (ci := 3) (q0 := 0) rfl rfl, kb_pre hPc hDc hK hN⟩ rfl rfl hl.1 rfl (lv_room (Nat.le_of_ble_eq_true rfl)) dX8_does_23 ⟨Nat.le_refl _, Nat.le_refl _⟩) hP hD hS hA [1, 2, 3] rfl (fun H locs hP hS => ?_)
    refine lv_iload_n hx hb dX8_does_26 rfl (lv_at hl 1 rfl) ?_
    refine kb_bind hf (fun q3 hq3 hf => ?_)
    have hPc : va_P D vwCl (wdS cI h 1 v_now) H := hP.sub [1, 2, 3] rfl
    have hDc : va_D A (wdS cI h 1 v_now) := hD.sub [1, 2, 3] (by decide) rfl
    refine kd_iR (va_runV (As := [.long (f5_runMoment v_now), .int x1]) (rest := []) ⟨hx, hb, hml, hown, hts⟩ (c5_canDo l D cB cI cZ cO h 1 H.size (f5_runMoment v_now) x1 v_now q3 hq3) (cwV 2 hts gX8_does_X5_canDo rfl rfl rfl (by decide +kernel) ⟨Nat.le_of_ble_eq_true rfl, Nat.le_of_ble_eq_true rfl⟩) ⟨kb_blind, va_recv hK hPc (ci := 3) (q0 := 0) rfl rfl, kb_pre hPc hDc hK hN⟩ rfl rfl hl.1 rfl (lv_room (Nat.le_of_ble_eq_true rfl)) dX8_does_27 ⟨Nat.le_refl _, Nat.le_refl _⟩) hP hD hS hA [1, 2, 3] rfl (fun H locs hn4 hP hS => ?_)
    refine lv_if_ne (tgt := 40) hx hb dX8_does_30 (by decide) (fun c5 => ?_) (fun c5 => ?_)
    · rw [if_neg c5] at hf
      refine lv_aload_n hx hb dX8_does_40 rfl (lv_at hl 0 rfl) ?_
      refine va_get (D := D) (cl := vwCl) (ci := 5) (v := .ref (h 7)) (C := RX8) (T := TX8) (N := 9) hx hb hts hin8 hown hK hP 0 rfl rfl 2 (by decide) (hts (.fieldLink RX8 22 "StepOrders" "past" "LStepOrders$Past;") (by decide +kernel)) (fun _ h9 => h9) rfl dX8_does_41 ?_
      refine lv_aload_n hx hb dX8_does_44 rfl (lv_at hl 0 rfl) ?_
      refine va_get (D := D) (cl := vwCl) (ci := 5) (v := .ref (h 1)) (C := RX8) (T := TX8) (N := 9) hx hb hts hin8 hown hK hP 0 rfl rfl 0 (by decide) (hts (.fieldLink RX8 12 "StepOrders" "now" "LStepOrders$State;") (by decide +kernel)) (fun _ h9 => h9) rfl dX8_does_45 ?_
      refine kb_bind hf (fun q6 hq6 hf => ?_)
      have hPc : va_P D vwCl (wdP cI cO h 7 v_past_kept v_past_oldest v_past_size ++ wdS cI h 1 v_now) H := hP.sub [7, 8, 9, 10, 11, 12, 13, 14, 15, 16, 17, 18, 19, 20, 21, 22, 23, 1, 2, 3] rfl
      have hDc : va_D A (wdP cI cO h 7 v_past_kept v_past_oldest v_past_size ++ wdS cI h 1 v_now) := hD.sub [7, 8, 9, 10, 11, 12, 13, 14, 15, 16, 17, 18, 19, 20, 21, 22, 23, 1, 2, 3] (by decide) rfl
      refine kd_vW (ws' := wdO cB cI cZ cO h v_now v_tried q6.1 q6.2.1 q6.2.2 v_all_threads v_all_rows v_all_ended v_all_known v_all_stepsInAll v_all_count v_all_standstills v_all_wrongOnes v_all_unlikeEnds v_meetings_reached v_text_bytes v_text_length v_text_place v_text_thread v_text_kind v_text_target v_text_value v_refusedBad v_refusedNo v_refusedFull) (va_runV (As := [.ref (h 1)]) (rest := []) ⟨hx, hb, hml, hown, hts⟩ (c3_keep l D cB cI cZ cO h 7 1 H.size v_past_kept v_past_oldest v_past_size v_now q6.1 q6.2.1 q6.2.2 hq6) (cwV 1 hts gX8_does_X3_keep rfl rfl rfl (by decide +kernel) ⟨Nat.le_of_ble_eq_true rfl, Nat.le_of_ble_eq_true rfl⟩) ⟨kb_blind, va_recv hK hPc (ci := 2) (q0 := 0) rfl rfl, kb_pre hPc hDc hK hN⟩ rfl rfl hl.1 rfl (lv_room (Nat.le_of_ble_eq_true rfl)) dX8_does_48 ⟨Nat.le_refl _, Nat.le_refl _⟩) hP hD hS hA [7, 8, 9, 10, 11, 12, 13, 14, 15, 16, 17, 18, 19, 20, 21, 22, 23, 1, 2, 3] [0, 4, 5, 6, 24, 25, 26, 27, 28, 29, 30, 31, 32, 33] rfl rfl (List.forall_mem_cons.mpr ⟨rfl, (List.forall_mem_cons.mpr ⟨rfl, (List.forall_mem_cons.mpr ⟨rfl, (List.forall_mem_cons.mpr ⟨rfl, (List.forall_mem_cons.mpr ⟨rfl, (List.forall_mem_cons.mpr ⟨rfl, (List.forall_mem_cons.mpr ⟨rfl, (List.forall_mem_cons.mpr ⟨rfl, (List.forall_mem_cons.mpr ⟨rfl, (List.forall_mem_cons.mpr ⟨rfl, (List.forall_mem_cons.mpr ⟨rfl, (List.forall_mem_cons.mpr ⟨rfl, (List.forall_mem_cons.mpr ⟨rfl, (List.forall_mem_cons.mpr ⟨rfl, (fun _ h9 => absurd h9 List.not_mem_nil)⟩)⟩)⟩)⟩)⟩)⟩)⟩)⟩)⟩)⟩)⟩)⟩)⟩)⟩) rfl rfl (fun H locs hP hD hS => ?_)
      refine lv_aload_n hx hb dX8_does_51 rfl (lv_at hl 0 rfl) ?_
      refine va_get (D := D) (cl := vwCl) (ci := 5) (v := .ref (h 1)) (C := RX8) (T := TX8) (N := 9) hx hb hts hin8 hown hK hP 0 rfl rfl 0 (by decide) (hts (.fieldLink RX8 12 "StepOrders" "now" "LStepOrders$State;") (by decide +kernel)) (fun _ h9 => h9) rfl dX8_does_52 ?_
      refine lv_iload_n hx hb dX8_does_55 rfl (lv_at hl 1 rfl) ?_
      refine kb_bind hf (fun q7 hq7 hf => ?_)
      have hPc : va_P D vwCl (wdS cI h 1 v_now) H := hP.sub [1, 2, 3] rfl
      have hDc : va_D A (wdS cI h 1 v_now) := hD.sub [1, 2, 3] (by decide) rfl
      refine kd_vW (ws' := wdO cB cI cZ cO h q7 v_tried q6.1 q6.2.1 q6.2.2 v_all_threads v_all_rows v_all_ended v_all_known v_all_stepsInAll v_all_count v_all_standstills v_all_wrongOnes v_all_unlikeEnds v_meetings_reached v_text_bytes v_text_length v_text_place v_text_thread v_text_kind v_text_target v_text_value v_refusedBad v_refusedNo v_refusedFull) (va_runV (As := [.int x1]) (rest := []) ⟨hx, hb, hml, hown, hts⟩ (c5_runOn l D cB cI cZ cO h 1 H.size x1 v_now q7 hq7) (cwV 1 hts gX8_does_X5_runOn rfl rfl rfl (by decide +kernel) ⟨Nat.le_of_ble_eq_true rfl, Nat.le_of_ble_eq_true rfl⟩) ⟨kb_blind, va_recv hK hPc (ci := 3) (q0 := 0) rfl rfl, kb_pre hPc hDc hK hN⟩ rfl rfl hl.1 rfl (lv_room (Nat.le_of_ble_eq_true rfl)) dX8_does_56 ⟨Nat.le_refl _, Nat.le_refl _⟩) hP hD hS hA [1, 2, 3] [0, 4, 5, 6, 7, 8, 9, 10, 11, 12, 13, 14, 15, 16, 17, 18, 19, 20, 21, 22, 23, 24, 25, 26, 27, 28, 29, 30, 31, 32, 33] rfl rfl (List.forall_mem_cons.mpr ⟨rfl, (List.forall_mem_cons.mpr ⟨rfl, (List.forall_mem_cons.mpr ⟨rfl, (List.forall_mem_cons.mpr ⟨rfl, (List.forall_mem_cons.mpr ⟨rfl, (List.forall_mem_cons.mpr ⟨rfl, (List.forall_mem_cons.mpr ⟨rfl, (List.forall_mem_cons.mpr ⟨rfl, (List.forall_mem_cons.mpr ⟨rfl, (List.forall_mem_cons.mpr ⟨rfl, (List.forall_mem_cons.mpr ⟨rfl, (List.forall_mem_cons.mpr ⟨rfl, (List.forall_mem_cons.mpr ⟨rfl, (List.forall_mem_cons.mpr ⟨rfl, (List.forall_mem_cons.mpr ⟨rfl, (List.forall_mem_cons.mpr ⟨rfl, (List.forall_mem_cons.mpr ⟨rfl, (List.forall_mem_cons.mpr ⟨rfl, (List.forall_mem_cons.mpr ⟨rfl, (List.forall_mem_cons.mpr ⟨rfl, (List.forall_mem_cons.mpr ⟨rfl, (List.forall_mem_cons.mpr ⟨rfl, (List.forall_mem_cons.mpr ⟨rfl, (List.forall_mem_cons.mpr ⟨rfl, (List.forall_mem_cons.mpr ⟨rfl, (List.forall_mem_cons.mpr ⟨rfl, (List.forall_mem_cons.mpr ⟨rfl, (List.forall_mem_cons.mpr ⟨rfl, (List.forall_mem_cons.mpr ⟨rfl, (List.forall_mem_cons.mpr ⟨rfl, (List.forall_mem_cons.mpr ⟨rfl, (fun _ h9 => absurd h9 List.not_mem_nil)⟩)⟩)⟩)⟩)⟩)⟩)⟩)⟩)⟩)⟩)⟩)⟩)⟩)⟩)⟩)⟩)⟩)⟩)⟩)⟩)⟩)⟩)⟩)⟩)⟩)⟩)⟩)⟩)⟩)⟩)⟩) rfl rfl (fun H locs hP hD hS => ?_)
      refine lv_aload_n hx hb dX8_does_59 rfl (lv_at hl 0 rfl) ?_
      refine va_get (D := D) (cl := vwCl) (ci := 5) (v := .ref (h 1)) (C := RX8) (T := TX8) (N := 9) hx hb hts hin8 hown hK hP 0 rfl rfl 0 (by decide) (hts (.fieldLink RX8 12 "StepOrders" "now" "LStepOrders$State;") (by decide +kernel)) (fun _ h9 => h9) rfl dX8_does_60 ?_
      have hPc : va_P D vwCl (wdS cI h 1 q7) H := hP.sub [1, 2, 3] rfl
      have hDc : va_D A (wdS cI h 1 q7) := hD.sub [1, 2, 3] (by decide) rfl
      refine kd_lR (va_runV (As := []) (rest := []) ⟨hx, hb, hml, hown, hts⟩ (c5_runMoment l D cB cI cZ cO h 1 H.size q7 (f5_runMoment q7) rfl) (cwV 0 hts gX8_does_X5_runMoment rfl rfl rfl (by decide +kernel) ⟨Nat.le_of_ble_eq_true rfl, Nat.le_of_ble_eq_true rfl⟩) ⟨kb_blind, va_recv hK hPc (ci := 3) (q0 := 0) rfl rfl, kb_pre hPc hDc hK hN⟩ rfl rfl hl.1 rfl (lv_room (Nat.le_of_ble_eq_true rfl)) dX8_does_63 ⟨Nat.le_refl _, Nat.le_refl _⟩) hP hD hS hA [1, 2, 3] rfl (fun H locs hP hS => ?_)
      have hPc : va_P D vwCl ([]) H := hP.sub [] rfl
      have hDc : va_D A ([]) := hD.sub [] (by decide) rfl
      refine kd_iR (va_runS (As := [.long (f5_runMoment q7)]) (rest := []) ⟨hx, hb, hml, hown, hts⟩ (c2_wrongOnes l D cB cI cZ cO h H.size (f5_runMoment q7) (f2_wrongOnes (f5_runMoment q7)) rfl) (va_cwS 1 hts gX8_does_X2_wrongOnes rfl rfl rfl (by decide +kernel) ⟨Nat.le_of_ble_eq_true rfl, Nat.le_of_ble_eq_true rfl⟩) ⟨kb_blind, kb_pre hPc hDc hK hN⟩ rfl rfl hl.1 rfl (lv_room (Nat.le_of_ble_eq_true rfl)) dX8_does_66 ⟨Nat.le_refl _, Nat.le_refl _⟩) hP hD hS hA [] rfl (fun H locs hn8 hP hS => ?_)
      obtain ⟨z1, y1⟩ := Prod.mk.inj (Option.some.inj hf)
      obtain ⟨z2, y2⟩ := Prod.mk.inj y1
      obtain ⟨z3, y3⟩ := Prod.mk.inj y2
      obtain ⟨z4, y4⟩ := Prod.mk.inj y3
      obtain ⟨z5, y5⟩ := Prod.mk.inj y4
      obtain ⟨z6, y6⟩ := Prod.mk.inj y5
      obtain ⟨z7, y7⟩ := Prod.mk.inj y6
      subst z1 z2 z3 z4 z5 z6 z7 y7
      exact hend _ _ _ _ rfl hP hS dX8_does_69
    · rw [if_pos c5] at hf
      refine lv_aload_n hx hb dX8_does_33 rfl (lv_at hl 0 rfl) ?_
      refine lv_bipush (v := (-3)) hx hb dX8_does_34 (by decide) ?_
      refine kb_bind hf (fun q9 hq9 hf => ?_)
      have hPc : va_P D vwCl (wdO cB cI cZ cO h v_now v_tried v_past_kept v_past_oldest v_past_size v_all_threads v_all_rows v_all_ended v_all_known v_all_stepsInAll v_all_count v_all_standstills v_all_wrongOnes v_all_unlikeEnds v_meetings_reached v_text_bytes v_text_length v_text_place v_text_thread v_text_kind v_text_target v_text_value v_refusedBad v_refusedNo v_refusedFull) H := hP.sub [0, 1, 2, 3, 4, 5, 6, 7, 8, 9, 10, 11, 12, 13, 14, 15, 16, 17, 18, 19, 20, 21, 22, 23, 24, 25, 26, 27, 28, 29, 30, 31, 32, 33] rfl
      have hDc : va_D A (wdO cB cI cZ cO h v_now v_tried v_past_kept v_past_oldest v_past_size v_all_threads v_all_rows v_all_ended v_all_known v_all_stepsInAll v_all_count v_all_standstills v_all_wrongOnes v_all_unlikeEnds v_meetings_reached v_text_bytes v_text_length v_text_place v_text_thread v_text_kind v_text_target v_text_value v_refusedBad v_refusedNo v_refusedFull) := hD.sub [0, 1, 2, 3, 4, 5, 6, 7, 8, 9, 10, 11, 12, 13, 14, 15, 16, 17, 18, 19, 20, 21, 22, 23, 24, 25, 26, 27, 28, 29, 30, 31, 32, 33] (by decide) rfl
      refine kd_iW (ws' := wdO cB cI cZ cO h v_now v_tried v_past_kept v_past_oldest v_past_size v_all_threads v_all_rows v_all_ended v_all_known v_all_stepsInAll v_all_count v_all_standstills v_all_wrongOnes v_all_unlikeEnds v_meetings_reached v_text_bytes v_text_length v_text_place v_text_thread v_text_kind v_text_target v_text_value q9.2.1 q9.2.2.1 q9.2.2.2) (va_runV (As := [.int (-3 : Int32)]) (rest := []) ⟨hx, hb, hml, hown, hts⟩ (c8_refused l D cB cI cZ cO h H.size (-3 : Int32) v_now v_tried v_past_kept v_past_oldest v_past_size v_all_threads v_all_rows v_all_ended v_all_known v_all_stepsInAll v_all_count v_all_standstills v_all_wrongOnes v_all_unlikeEnds v_meetings_reached v_text_bytes v_text_length v_text_place v_text_thread v_text_kind v_text_target v_text_value v_refusedBad v_refusedNo v_refusedFull q9.1 q9.2.1 q9.2.2.1 q9.2.2.2 hq9) (cwV 1 hts gX8_does_X8_refused rfl rfl rfl (by decide +kernel) ⟨Nat.le_of_ble_eq_true rfl, Nat.le_of_ble_eq_true rfl⟩) ⟨kb_blind, va_recv hK hPc (ci := 5) (q0 := 0) rfl rfl, kb_pre hPc hDc hK hN⟩ rfl rfl hl.1 rfl (lv_room (Nat.le_of_ble_eq_true rfl)) dX8_does_36 ⟨Nat.le_refl _, Nat.le_refl _⟩) hP hD hS hA [0, 1, 2, 3, 4, 5, 6, 7, 8, 9, 10, 11, 12, 13, 14, 15, 16, 17, 18, 19, 20, 21, 22, 23, 24, 25, 26, 27, 28, 29, 30, 31, 32, 33] [] rfl rfl (fun _ h9 => absurd h9 List.not_mem_nil) rfl rfl (fun H locs hn10 hP hD hS => ?_)
      obtain ⟨z1, y1⟩ := Prod.mk.inj (Option.some.inj hf)
      obtain ⟨z2, y2⟩ := Prod.mk.inj y1
      obtain ⟨z3, y3⟩ := Prod.mk.inj y2
      obtain ⟨z4, y4⟩ := Prod.mk.inj y3
      obtain ⟨z5, y5⟩ := Prod.mk.inj y4
      obtain ⟨z6, y6⟩ := Prod.mk.inj y5
      obtain ⟨z7, y7⟩ := Prod.mk.inj y6
      subst z1 z2 z3 z4 z5 z6 z7 y7
      exact hend _ _ _ _ rfl hP hS dX8_does_39
  · rw [if_pos c2] at hf
    refine lv_aload_n hx hb dX8_does_8 rfl (lv_at hl 0 rfl) ?_
    refine lv_bipush (v := (-2)) hx hb dX8_does_9 (by decide) ?_
    refine kb_bind hf (fun q11 hq11 hf => ?_)
    have hPc : va_P D vwCl (wdO cB cI cZ cO h v_now v_tried v_past_kept v_past_oldest v_past_size v_all_threads v_all_rows v_all_ended v_all_known v_all_stepsInAll v_all_count v_all_standstills v_all_wrongOnes v_all_unlikeEnds v_meetings_reached v_text_bytes v_text_length v_text_place v_text_thread v_text_kind v_text_target v_text_value v_refusedBad v_refusedNo v_refusedFull) H := hP.sub [0, 1, 2, 3, 4, 5, 6, 7, 8, 9, 10, 11, 12, 13, 14, 15, 16, 17, 18, 19, 20, 21, 22, 23, 24, 25, 26, 27, 28, 29, 30, 31, 32, 33] rfl
    have hDc : va_D A (wdO cB cI cZ cO h v_now v_tried v_past_kept v_past_oldest v_past_size v_all_threads v_all_rows v_all_ended v_all_known v_all_stepsInAll v_all_count v_all_standstills v_all_wrongOnes v_all_unlikeEnds v_meetings_reached v_text_bytes v_text_length v_text_place v_text_thread v_text_kind v_text_target v_text_value v_refusedBad v_refusedNo v_refusedFull) := hD.sub [0, 1, 2, 3, 4, 5, 6, 7, 8, 9, 10, 11, 12, 13, 14, 15, 16, 17, 18, 19, 20, 21, 22, 23, 24, 25, 26, 27, 28, 29, 30, 31, 32, 33] (by decide) rfl
    refine kd_iW (ws' := wdO cB cI cZ cO h v_now v_tried v_past_kept v_past_oldest v_past_size v_all_threads v_all_rows v_all_ended v_all_known v_all_stepsInAll v_all_count v_all_standstills v_all_wrongOnes v_all_unlikeEnds v_meetings_reached v_text_bytes v_text_length v_text_place v_text_thread v_text_kind v_text_target v_text_value q11.2.1 q11.2.2.1 q11.2.2.2) (va_runV (As := [.int (-2 : Int32)]) (rest := []) ⟨hx, hb, hml, hown, hts⟩ (c8_refused l D cB cI cZ cO h H.size (-2 : Int32) v_now v_tried v_past_kept v_past_oldest v_past_size v_all_threads v_all_rows v_all_ended v_all_known v_all_stepsInAll v_all_count v_all_standstills v_all_wrongOnes v_all_unlikeEnds v_meetings_reached v_text_bytes v_text_length v_text_place v_text_thread v_text_kind v_text_target v_text_value v_refusedBad v_refusedNo v_refusedFull q11.1 q11.2.1 q11.2.2.1 q11.2.2.2 hq11) (cwV 1 hts gX8_does_X8_refused rfl rfl rfl (by decide +kernel) ⟨Nat.le_of_ble_eq_true rfl, Nat.le_of_ble_eq_true rfl⟩) ⟨kb_blind, va_recv hK hPc (ci := 5) (q0 := 0) rfl rfl, kb_pre hPc hDc hK hN⟩ rfl rfl hl.1 rfl (lv_room (Nat.le_of_ble_eq_true rfl)) dX8_does_11 ⟨Nat.le_refl _, Nat.le_refl _⟩) hP hD hS hA [0, 1, 2, 3, 4, 5, 6, 7, 8, 9, 10, 11, 12, 13, 14, 15, 16, 17, 18, 19, 20, 21, 22, 23, 24, 25, 26, 27, 28, 29, 30, 31, 32, 33] [] rfl rfl (fun _ h9 => absurd h9 List.not_mem_nil) rfl rfl (fun H locs hn12 hP hD hS => ?_)
    obtain ⟨z1, y1⟩ := Prod.mk.inj (Option.some.inj hf)
    obtain ⟨z2, y2⟩ := Prod.mk.inj y1
    obtain ⟨z3, y3⟩ := Prod.mk.inj y2
    obtain ⟨z4, y4⟩ := Prod.mk.inj y3
    obtain ⟨z5, y5⟩ := Prod.mk.inj y4
    obtain ⟨z6, y6⟩ := Prod.mk.inj y5
    obtain ⟨z7, y7⟩ := Prod.mk.inj y6
    subst z1 z2 z3 z4 z5 z6 z7 y7
    exact hend _ _ _ _ rfl hP hS dX8_does_14

set_option maxHeartbeats 4000000 in
set_option maxRecDepth 100000 in
theorem c8_again (l : Launch) (D : va_G) (cB cI cZ cO : ClassId) (h : Nat → Nat) (sz : Nat) (v_now : sT) (v_tried : sT) (v_past_kept : Nat → sT) (v_past_oldest : Int32) (v_past_size : Int32) (v_all_threads : sT) (v_all_rows : Nat → Int32) (v_all_ended : Nat → Int32) (v_all_known : Int32) (v_all_stepsInAll : Int32) (v_all_count : Int32) (v_all_standstills : Int32) (v_all_wrongOnes : Int32) (v_all_unlikeEnds : Int32) (v_meetings_reached : Nat → Int32) (v_text_bytes : Nat → Int32) (v_text_length : Int32) (v_text_place : Int32) (v_text_thread : Int32) (v_text_kind : Int32) (v_text_target : Int32) (v_text_value : Int32) (v_refusedBad : Int32) (v_refusedNo : Int32) (v_refusedFull : Int32) (r0 : Int32) (v_now' : sT) (v_past_kept' : Nat → sT) (v_past_oldest' : Int32) (v_past_size' : Int32) (hf : f8_again v_now v_past_kept v_past_oldest v_past_size = some (r0, v_now', v_past_kept', v_past_oldest', v_past_size')) : Met l yX8_again wsX8_again rm8_again (va_Pc [.ref (h 0)] (kb_B D (ka_tys cB cI cZ cO) sz (wdO cB cI cZ cO h v_now v_tried v_past_kept v_past_oldest v_past_size v_all_threads v_all_rows v_all_ended v_all_known v_all_stepsInAll v_all_count v_all_standstills v_all_wrongOnes v_all_unlikeEnds v_meetings_reached v_text_bytes v_text_length v_text_place v_text_thread v_text_kind v_text_target v_text_value v_refusedBad v_refusedNo v_refusedFull))) (va_Qi (kb_post .int r0) (fun _ t => va_P D vwCl (wdO cB cI cZ cO h (v_now') v_tried (v_past_kept') (v_past_oldest') (v_past_size') v_all_threads v_all_rows v_all_ended v_all_known v_all_stepsInAll v_all_count v_all_standstills v_all_wrongOnes v_all_unlikeEnds v_meetings_reached v_text_bytes v_text_length v_text_place v_text_thread v_text_kind v_text_target v_text_value v_refusedBad v_refusedNo v_refusedFull) t.heap) (va_A (wdO cB cI cZ cO h v_now v_tried v_past_kept v_past_oldest v_past_size v_all_threads v_all_rows v_all_ended v_all_known v_all_stepsInAll v_all_count v_all_standstills v_all_wrongOnes v_all_unlikeEnds v_meetings_reached v_text_bytes v_text_length v_text_place v_text_thread v_text_kind v_text_target v_text_value v_refusedBad v_refusedNo v_refusedFull) sz)) 0 0 (va_A (wdO cB cI cZ cO h v_now v_tried v_past_kept v_past_oldest v_past_size v_all_threads v_all_rows v_all_ended v_all_known v_all_stepsInAll v_all_count v_all_standstills v_all_wrongOnes v_all_unlikeEnds v_meetings_reached v_text_bytes v_text_length v_text_place v_text_thread v_text_kind v_text_target v_text_value v_refusedBad v_refusedNo v_refusedFull) sz) := by
  refine kb_metZ (cc := cX8_again) (maxL := 2) (ty := .int) (by decide) rfl (Nat.le_of_ble_eq_true rfl) ?_
  intro p e s m args below meth c Q A ls H hx hb hml hown hts hK hN hP hD hS hA hl hend
  have hown : s.vm.findClass RX8 = some m.cls := hown
  have hl : lv_has ls 2 [(0, .ref (h 0))] := hl
  have hin8 : ∀ w ∈ u_ws RX8 TX8 9, w ∈ wsX8_again := by decide +kernel
  rw [f8_again] at hf
  refine lv_aload_n hx hb dX8_again_0 rfl (lv_at hl 0 rfl) ?_
  refine va_get (D := D) (cl := vwCl) (ci := 5) (v := .ref (h 7)) (C := RX8) (T := TX8) (N := 9) hx hb hts hin8 hown hK hP 0 rfl rfl 2 (by decide) (hts (.fieldLink RX8 22 "StepOrders" "past" "LStepOrders$Past;") (by decide +kernel)) (fun _ h9 => h9) rfl dX8_again_1 ?_
  refine lv_aload_n hx hb dX8_again_4 rfl (lv_at hl 0 rfl) ?_
  refine va_get (D := D) (cl := vwCl) (ci := 5) (v := .ref (h 1)) (C := RX8) (T := TX8) (N := 9) hx hb hts hin8 hown hK hP 0 rfl rfl 0 (by decide) (hts (.fieldLink RX8 12 "StepOrders" "now" "LStepOrders$State;") (by decide +kernel)) (fun _ h9 => h9) rfl dX8_again_5 ?_
  refine kb_bind hf (fun q1 hq1 hf => ?_)
  have hPc : va_P D vwCl (wdP cI cO h 7 v_past_kept v_past_oldest v_past_size ++ wdS cI h 1 v_now) H := hP.sub [7, 8, 9, 10, 11, 12, 13, 14, 15, 16, 17, 18, 19, 20, 21, 22, 23, 1, 2, 3] rfl
  have hDc : va_D A (wdP cI cO h 7 v_past_kept v_past_oldest v_past_size ++ wdS cI h 1 v_now) := hD.sub [7, 8, 9, 10, 11, 12, 13, 14, 15, 16, 17, 18, 19, 20, 21, 22, 23, 1, 2, 3] (by decide) rfl
  refine kd_vW (ws' := wdO cB cI cZ cO h v_now v_tried q1.1 q1.2.1 q1.2.2 v_all_threads v_all_rows v_all_ended v_all_known v_all_stepsInAll v_all_count v_all_standstills v_all_wrongOnes v_all_unlikeEnds v_meetings_reached v_text_bytes v_text_length v_text_place v_text_thread v_text_kind v_text_target v_text_value v_refusedBad v_refusedNo v_refusedFull) (va_runV (As := [.ref (h 1)]) (rest := []) ⟨hx, hb, hml, hown, hts⟩ (c3_keep l D cB cI cZ cO h 7 1 H.size v_past_kept v_past_oldest v_past_size v_now q1.1 q1.2.1 q1.2.2 hq1) (cwV 1 hts gX8_again_X3_keep rfl rfl rfl (by decide +kernel) ⟨Nat.le_of_ble_eq_true rfl, Nat.le_of_ble_eq_true rfl⟩) ⟨kb_blind, va_recv hK hPc (ci := 2) (q0 := 0) rfl rfl, kb_pre hPc hDc hK hN⟩ rfl rfl hl.1 rfl (lv_room (Nat.le_of_ble_eq_true rfl)) dX8_again_8 ⟨Nat.le_refl _, Nat.le_refl _⟩) hP hD hS hA [7, 8, 9, 10, 11, 12, 13, 14, 15, 16, 17, 18, 19, 20, 21, 22, 23, 1, 2, 3] [0, 4, 5, 6, 24, 25, 26, 27, 28, 29, 30, 31, 32, 33] rfl rfl (List.forall_mem_cons.mpr ⟨rfl, (List.forall_mem_cons.mpr ⟨rfl, (List.forall_mem_cons.mpr ⟨rfl, (List.forall_mem_cons.mpr ⟨rfl, (List.forall_mem_cons.mpr ⟨rfl, (List.forall_mem_cons.mpr ⟨rfl, (List.forall_mem_cons.mpr ⟨rfl, (List.forall_mem_cons.mpr ⟨rfl, (List.forall_mem_cons.mpr ⟨rfl, (List.forall_mem_cons.mpr ⟨rfl, (List.forall_mem_cons.mpr ⟨rfl, (List.forall_mem_cons.mpr ⟨rfl, (List.forall_mem_cons.mpr ⟨rfl, (List.forall_mem_cons.mpr ⟨rfl, (fun _ h9 => absurd h9 List.not_mem_nil)⟩)⟩)⟩)⟩)⟩)⟩)⟩)⟩)⟩)⟩)⟩)⟩)⟩)⟩) rfl rfl (fun H locs hP hD hS => ?_)
  refine lv_aload_n hx hb dX8_again_11 rfl (lv_at hl 0 rfl) ?_
  refine va_get (D := D) (cl := vwCl) (ci := 5) (v := .ref (h 1)) (C := RX8) (T := TX8) (N := 9) hx hb hts hin8 hown hK hP 0 rfl rfl 0 (by decide) (hts (.fieldLink RX8 12 "StepOrders" "now" "LStepOrders$State;") (by decide +kernel)) (fun _ h9 => h9) rfl dX8_again_12 ?_
  have hPc : va_P D vwCl (wdS cI h 1 v_now) H := hP.sub [1, 2, 3] rfl
  have hDc : va_D A (wdS cI h 1 v_now) := hD.sub [1, 2, 3] (by decide) rfl
  refine kd_iR (va_runV (As := []) (rest := []) ⟨hx, hb, hml, hown, hts⟩ (c5_runRow l D cB cI cZ cO h 1 H.size v_now (f5_runRow v_now) rfl) (cwV 0 hts gX8_again_X5_runRow rfl rfl rfl (by decide +kernel) ⟨Nat.le_of_ble_eq_true rfl, Nat.le_of_ble_eq_true rfl⟩) ⟨kb_blind, va_recv hK hPc (ci := 3) (q0 := 0) rfl rfl, kb_pre hPc hDc hK hN⟩ rfl rfl hl.1 rfl (lv_room (Nat.le_of_ble_eq_true rfl)) dX8_again_15 ⟨Nat.le_refl _, Nat.le_refl _⟩) hP hD hS hA [1, 2, 3] rfl (fun H locs hn2 hP hS => ?_)
  have hPc : va_P D vwCl ([]) H := hP.sub [] rfl
  have hDc : va_D A ([]) := hD.sub [] (by decide) rfl
  refine kd_iR (va_runS (As := [.int (f5_runRow v_now)]) (rest := []) ⟨hx, hb, hml, hown, hts⟩ (c4_length l D cB cI cZ cO h H.size (f5_runRow v_now) (f4_length (f5_runRow v_now)) rfl) (va_cwS 1 hts gX8_again_X4_length rfl rfl rfl (by decide +kernel) ⟨Nat.le_of_ble_eq_true rfl, Nat.le_of_ble_eq_true rfl⟩) ⟨kb_blind, kb_pre hPc hDc hK hN⟩ rfl rfl hl.1 rfl (lv_room (Nat.le_of_ble_eq_true rfl)) dX8_again_18 ⟨Nat.le_refl _, Nat.le_refl _⟩) hP hD hS hA [] rfl (fun H locs hn3 hP hS => ?_)
  refine lv_istore_n (lv' := [(1, .int (f4_length (f5_runRow v_now))), (0, .ref (h 0))]) hx hb dX8_again_21 rfl hl (by decide) rfl (fun ls hl => ?_)
  refine lv_aload_n hx hb dX8_again_22 rfl (lv_at hl 1 rfl) ?_
  refine va_get (D := D) (cl := vwCl) (ci := 5) (v := .ref (h 1)) (C := RX8) (T := TX8) (N := 9) hx hb hts hin8 hown hK hP 0 rfl rfl 0 (by decide) (hts (.fieldLink RX8 12 "StepOrders" "now" "LStepOrders$State;") (by decide +kernel)) (fun _ h9 => h9) rfl dX8_again_23 ?_
  refine kb_bind hf (fun q4 hq4 hf => ?_)
  have hPc : va_P D vwCl (wdS cI h 1 v_now) H := hP.sub [1, 2, 3] rfl
  have hDc : va_D A (wdS cI h 1 v_now) := hD.sub [1, 2, 3] (by decide) rfl
  refine kd_vW (ws' := wdO cB cI cZ cO h q4 v_tried q1.1 q1.2.1 q1.2.2 v_all_threads v_all_rows v_all_ended v_all_known v_all_stepsInAll v_all_count v_all_standstills v_all_wrongOnes v_all_unlikeEnds v_meetings_reached v_text_bytes v_text_length v_text_place v_text_thread v_text_kind v_text_target v_text_value v_refusedBad v_refusedNo v_refusedFull) (va_runV (As := []) (rest := []) ⟨hx, hb, hml, hown, hts⟩ (c5_beginRun l D cB cI cZ cO h 1 H.size v_now q4 hq4) (cwV 0 hts gX8_again_X5_beginRun rfl rfl rfl (by decide +kernel) ⟨Nat.le_of_ble_eq_true rfl, Nat.le_of_ble_eq_true rfl⟩) ⟨kb_blind, va_recv hK hPc (ci := 3) (q0 := 0) rfl rfl, kb_pre hPc hDc hK hN⟩ rfl rfl hl.1 rfl (lv_room (Nat.le_of_ble_eq_true rfl)) dX8_again_26 ⟨Nat.le_refl _, Nat.le_refl _⟩) hP hD hS hA [1, 2, 3] [0, 4, 5, 6, 7, 8, 9, 10, 11, 12, 13, 14, 15, 16, 17, 18, 19, 20, 21, 22, 23, 24, 25, 26, 27, 28, 29, 30, 31, 32, 33] rfl rfl (List.forall_mem_cons.mpr ⟨rfl, (List.forall_mem_cons.mpr ⟨rfl, (List.forall_mem_cons.mpr ⟨rfl, (List.forall_mem_cons.mpr ⟨rfl, (List.forall_mem_cons.mpr ⟨rfl, (List.forall_mem_cons.mpr ⟨rfl, (List.forall_mem_cons.mpr ⟨rfl, (List.forall_mem_cons.mpr ⟨rfl, (List.forall_mem_cons.mpr ⟨rfl, (List.forall_mem_cons.mpr ⟨rfl, (List.forall_mem_cons.mpr ⟨rfl, (List.forall_mem_cons.mpr ⟨rfl, (List.forall_mem_cons.mpr ⟨rfl, (List.forall_mem_cons.mpr ⟨rfl, (List.forall_mem_cons.mpr ⟨rfl, (List.forall_mem_cons.mpr ⟨rfl, (List.forall_mem_cons.mpr ⟨rfl, (List.forall_mem_cons.mpr ⟨rfl, (List.forall_mem_cons.mpr ⟨rfl, (List.forall_mem_cons.mpr ⟨rfl, (List.forall_mem_cons.mpr ⟨rfl, (List.forall_mem_cons.mpr ⟨rfl, (List.forall_mem_cons.mpr ⟨rfl, (List.forall_mem_cons.mpr ⟨rfl, (List.forall_mem_cons.mpr ⟨rfl, (List.forall_mem_cons.mpr ⟨rfl, (List.forall_mem_cons.mpr ⟨rfl, (List.forall_mem_cons.mpr ⟨rfl, (List.forall_mem_cons.mpr ⟨rfl, (List.forall_mem_cons.mpr ⟨rfl, (List.forall_mem_cons.mpr ⟨rfl, (fun _ h9 => absurd h9 List.not_mem_nil)⟩)⟩)⟩)⟩)⟩)⟩)⟩)⟩)⟩)⟩)⟩)⟩)⟩)⟩)⟩)⟩)⟩)⟩)⟩)⟩)⟩)⟩)⟩)⟩)⟩)⟩)⟩)⟩)⟩)⟩)⟩) rfl rfl (fun H locs hP hD hS => ?_)
  refine lv_iload_n hx hb dX8_again_29 rfl (lv_at hl 0 rfl) ?_
  obtain ⟨z1, y1⟩ := Prod.mk.inj (Option.some.inj hf)
  obtain ⟨z2, y2⟩ := Prod.mk.inj y1
  obtain ⟨z3, y3⟩ := Prod.mk.inj y2
  obtain ⟨z4, y4⟩ := Prod.mk.inj y3
  subst z1 z2 z3 z4 y4
  exact hend _ _ _ _ rfl hP hS dX8_again_30

set_option maxHeartbeats 4000000 in
set_option maxRecDepth 100000 in
theorem c8_run (l : Launch) (D : va_G) (cB cI cZ cO : ClassId) (h : Nat → Nat) (sz : Nat) (x1 : Int32) (v_now : sT) (v_tried : sT) (v_past_kept : Nat → sT) (v_past_oldest : Int32) (v_past_size : Int32) (v_all_threads : sT) (v_all_rows : Nat → Int32) (v_all_ended : Nat → Int32) (v_all_known : Int32) (v_all_stepsInAll : Int32) (v_all_count : Int32) (v_all_standstills : Int32) (v_all_wrongOnes : Int32) (v_all_unlikeEnds : Int32) (v_meetings_reached : Nat → Int32) (v_text_bytes : Nat → Int32) (v_text_length : Int32) (v_text_place : Int32) (v_text_thread : Int32) (v_text_kind : Int32) (v_text_target : Int32) (v_text_value : Int32) (v_refusedBad : Int32) (v_refusedNo : Int32) (v_refusedFull : Int32) (r0 : Int32) (v_refusedBad' : Int32) (v_refusedNo' : Int32) (v_refusedFull' : Int32) (hf : f8_run v_now v_refusedBad v_refusedNo v_refusedFull x1 = some (r0, v_refusedBad', v_refusedNo', v_refusedFull')) : Met l yX8_run wsX8_run rm8_run (va_Pc [.ref (h 0), .int x1] (kb_B D (ka_tys cB cI cZ cO) sz (wdO cB cI cZ cO h v_now v_tried v_past_kept v_past_oldest v_past_size v_all_threads v_all_rows v_all_ended v_all_known v_all_stepsInAll v_all_count v_all_standstills v_all_wrongOnes v_all_unlikeEnds v_meetings_reached v_text_bytes v_text_length v_text_place v_text_thread v_text_kind v_text_target v_text_value v_refusedBad v_refusedNo v_refusedFull))) (va_Qi (kb_post .int r0) (fun _ t => va_P D vwCl (wdO cB cI cZ cO h v_now v_tried v_past_kept v_past_oldest v_past_size v_all_threads v_all_rows v_all_ended v_all_known v_all_stepsInAll v_all_count v_all_standstills v_all_wrongOnes v_all_unlikeEnds v_meetings_reached v_text_bytes v_text_length v_text_place v_text_thread v_text_kind v_text_target v_text_value (v_refusedBad') (v_refusedNo') (v_refusedFull')) t.heap) (va_A (wdO cB cI cZ cO h v_now v_tried v_past_kept v_past_oldest v_past_size v_all_threads v_all_rows v_all_ended v_all_known v_all_stepsInAll v_all_count v_all_standstills v_all_wrongOnes v_all_unlikeEnds v_meetings_reached v_text_bytes v_text_length v_text_place v_text_thread v_text_kind v_text_target v_text_value v_refusedBad v_refusedNo v_refusedFull) sz)) 0 0 (va_A (wdO cB cI cZ cO h v_now v_tried v_past_kept v_past_oldest v_past_size v_all_threads v_all_rows v_all_ended v_all_known v_all_stepsInAll v_all_count v_all_standstills v_all_wrongOnes v_all_unlikeEnds v_meetings_reached v_text_bytes v_text_length v_text_place v_text_thread v_text_kind v_text_target v_text_value v_refusedBad v_refusedNo v_refusedFull) sz) := by
  refine kb_metZ (cc := cX8_run) (maxL := 4) (ty := .int) (by decide) rfl (Nat.le_of_ble_eq_true rfl) ?_
  intro p e s m args below meth c Q A ls H hx hb hml hown hts hK hN hP hD hS hA hl hend
  have hown : s.vm.findClass RX8 = some m.cls := hown
  have hl : lv_has ls 4 [(0, .ref (h 0)), (1, .int x1)] := hl
  have hin8 : ∀ w ∈ u_ws RX8 TX8 9, w ∈ wsX8_run := by decide +kernel
  rw [f8_run] at hf
  refine lv_aload_n hx hb dX8_run_0 rfl (lv_at hl 0 rfl) ?_
  refine va_get (D := D) (cl := vwCl) (ci := 5) (v := .ref (h 1)) (C := RX8) (T := TX8) (N := 9) hx hb hts hin8 hown hK hP 0 rfl rfl 0 (by decide) (hts (.fieldLink RX8 12 "StepOrders" "now" "LStepOrders$State;") (by decide +kernel)) (fun _ h9 => h9) rfl dX8_run_1 ?_
  have hPc : va_P D vwCl (wdS cI h 1 v_now) H := hP.sub [1, 2, 3] rfl
  have hDc : va_D A (wdS cI h 1 v_now) := hD.sub [1, 2, 3] (by decide) rfl
  refine kd_lR (va_runV (As := []) (rest := []) ⟨hx, hb, hml, hown, hts⟩ (c5_runMoment l D cB cI cZ cO h 1 H.size v_now (f5_runMoment v_now) rfl) (cwV 0 hts gX8_run_X5_runMoment rfl rfl rfl (by decide +kernel) ⟨Nat.le_of_ble_eq_true rfl, Nat.le_of_ble_eq_true rfl⟩) ⟨kb_blind, va_recv hK hPc (ci := 3) (q0 := 0) rfl rfl, kb_pre hPc hDc hK hN⟩ rfl rfl hl.1 rfl (lv_room (Nat.le_of_ble_eq_true rfl)) dX8_run_4 ⟨Nat.le_refl _, Nat.le_refl _⟩) hP hD hS hA [1, 2, 3] rfl (fun H locs hP hS => ?_)
  refine lv_lstore_n (lv' := [(2, .long (f5_runMoment v_now)), (0, .ref (h 0)), (1, .int x1)]) hx hb dX8_run_7 rfl hl (by decide) rfl (fun ls hl => ?_)
  refine lv_iload_n hx hb dX8_run_8 rfl (lv_at hl 2 rfl) ?_
  by_cases c1_0 : x1 = 0
  · rw [if_pos c1_0] at hf
    refine lv_tableIn (tgt := 48) (off := 39) hx hb dX8_run_9 (by rw [c1_0]; decide) (by rw [c1_0]; decide) (by rw [c1_0]; rfl) (by decide) ?_
    refine lv_aload_n hx hb dX8_run_48 rfl (lv_at hl 1 rfl) ?_
    refine va_get (D := D) (cl := vwCl) (ci := 5) (v := .ref (h 1)) (C := RX8) (T := TX8) (N := 9) hx hb hts hin8 hown hK hP 0 rfl rfl 0 (by decide) (hts (.fieldLink RX8 12 "StepOrders" "now" "LStepOrders$State;") (by decide +kernel)) (fun _ h9 => h9) rfl dX8_run_49 ?_
    refine lv_lload_n hx hb dX8_run_52 rfl (lv_at hl 0 rfl) ?_
    refine kb_bind hf (fun q2 hq2 hf => ?_)
    have hPc : va_P D vwCl (wdS cI h 1 v_now) H := hP.sub [1, 2, 3] rfl
    have hDc : va_D A (wdS cI h 1 v_now) := hD.sub [1, 2, 3] (by decide) rfl
    refine kd_iR (va_runV (As := [.long (f5_runMoment v_now)]) (rest := []) ⟨hx, hb, hml, hown, hts⟩ (c5_ableBits l D cB cI cZ cO h 1 H.size (f5_runMoment v_now) v_now q2 hq2) (cwV 1 hts gX8_run_X5_ableBits rfl rfl rfl (by decide +kernel) ⟨Nat.le_of_ble_eq_true rfl, Nat.le_of_ble_eq_true rfl⟩) ⟨kb_blind, va_recv hK hPc (ci := 3) (q0 := 0) rfl rfl, kb_pre hPc hDc hK hN⟩ rfl rfl hl.1 rfl (lv_room (Nat.le_of_ble_eq_true rfl)) dX8_run_53 ⟨Nat.le_refl _, Nat.le_refl _⟩) hP hD hS hA [1, 2, 3] rfl (fun H locs hn3 hP hS => ?_)
    obtain ⟨z1, y1⟩ := Prod.mk.inj (Option.some.inj hf)
    obtain ⟨z2, y2⟩ := Prod.mk.inj y1
    obtain ⟨z3, y3⟩ := Prod.mk.inj y2
    subst z1 z2 z3 y3
    exact hend _ _ _ _ rfl hP hS dX8_run_56
  rw [if_neg c1_0] at hf
  by_cases c1_1 : x1 = 1
  · rw [if_pos c1_1] at hf
    refine lv_tableIn (tgt := 57) (off := 48) hx hb dX8_run_9 (by rw [c1_1]; decide) (by rw [c1_1]; decide) (by rw [c1_1]; rfl) (by decide) ?_
    refine lv_aload_n hx hb dX8_run_57 rfl (lv_at hl 1 rfl) ?_
    refine va_get (D := D) (cl := vwCl) (ci := 5) (v := .ref (h 1)) (C := RX8) (T := TX8) (N := 9) hx hb hts hin8 hown hK hP 0 rfl rfl 0 (by decide) (hts (.fieldLink RX8 12 "StepOrders" "now" "LStepOrders$State;") (by decide +kernel)) (fun _ h9 => h9) rfl dX8_run_58 ?_
    have hPc : va_P D vwCl (wdS cI h 1 v_now) H := hP.sub [1, 2, 3] rfl
    have hDc : va_D A (wdS cI h 1 v_now) := hD.sub [1, 2, 3] (by decide) rfl
    refine kd_iR (va_runV (As := []) (rest := []) ⟨hx, hb, hml, hown, hts⟩ (c5_runRow l D cB cI cZ cO h 1 H.size v_now (f5_runRow v_now) rfl) (cwV 0 hts gX8_run_X5_runRow rfl rfl rfl (by decide +kernel) ⟨Nat.le_of_ble_eq_true rfl, Nat.le_of_ble_eq_true rfl⟩) ⟨kb_blind, va_recv hK hPc (ci := 3) (q0 := 0) rfl rfl, kb_pre hPc hDc hK hN⟩ rfl rfl hl.1 rfl (lv_room (Nat.le_of_ble_eq_true rfl)) dX8_run_61 ⟨Nat.le_refl _, Nat.le_refl _⟩) hP hD hS hA [1, 2, 3] rfl (fun H locs hn4 hP hS => ?_)
    have hPc : va_P D vwCl ([]) H := hP.sub [] rfl
    have hDc : va_D A ([]) := hD.sub [] (by decide) rfl
    refine kd_iR (va_runS (As := [.int (f5_runRow v_now)]) (rest := []) ⟨hx, hb, hml, hown, hts⟩ (c4_length l D cB cI cZ cO h H.size (f5_runRow v_now) (f4_length (f5_runRow v_now)) rfl) (va_cwS 1 hts gX8_run_X4_length rfl rfl rfl (by decide +kernel) ⟨Nat.le_of_ble_eq_true rfl, Nat.le_of_ble_eq_true rfl⟩) ⟨kb_blind, kb_pre hPc hDc hK hN⟩ rfl rfl hl.1 rfl (lv_room (Nat.le_of_ble_eq_true rfl)) dX8_run_64 ⟨Nat.le_refl _, Nat.le_refl _⟩) hP hD hS hA [] rfl (fun H locs hn5 hP hS => ?_)
    obtain ⟨z1, y1⟩ := Prod.mk.inj (Option.some.inj hf)
    obtain ⟨z2, y2⟩ := Prod.mk.inj y1
    obtain ⟨z3, y3⟩ := Prod.mk.inj y2
    subst z1 z2 z3 y3
    exact hend _ _ _ _ rfl hP hS dX8_run_67
  rw [if_neg c1_1] at hf
  by_cases c1_2 : x1 = 2
  · rw [if_pos c1_2] at hf
    refine lv_tableIn (tgt := 68) (off := 59) hx hb dX8_run_9 (by rw [c1_2]; decide) (by rw [c1_2]; decide) (by rw [c1_2]; rfl) (by decide) ?_
    refine lv_lload_n hx hb dX8_run_68 rfl (lv_at hl 0 rfl) ?_
    have hPc : va_P D vwCl ([]) H := hP.sub [] rfl
    have hDc : va_D A ([]) := hD.sub [] (by decide) rfl
    refine kd_iR (va_runS (As := [.long (f5_runMoment v_now)]) (rest := []) ⟨hx, hb, hml, hown, hts⟩ (c2_wrongOnes l D cB cI cZ cO h H.size (f5_runMoment v_now) (f2_wrongOnes (f5_runMoment v_now)) rfl) (va_cwS 1 hts gX8_run_X2_wrongOnes rfl rfl rfl (by decide +kernel) ⟨Nat.le_of_ble_eq_true rfl, Nat.le_of_ble_eq_true rfl⟩) ⟨kb_blind, kb_pre hPc hDc hK hN⟩ rfl rfl hl.1 rfl (lv_room (Nat.le_of_ble_eq_true rfl)) dX8_run_69 ⟨Nat.le_refl _, Nat.le_refl _⟩) hP hD hS hA [] rfl (fun H locs hn6 hP hS => ?_)
    obtain ⟨z1, y1⟩ := Prod.mk.inj (Option.some.inj hf)
    obtain ⟨z2, y2⟩ := Prod.mk.inj y1
    obtain ⟨z3, y3⟩ := Prod.mk.inj y2
    subst z1 z2 z3 y3
    exact hend _ _ _ _ rfl hP hS dX8_run_72
  rw [if_neg c1_2] at hf
  by_cases c1_3 : x1 = 3
  · rw [if_pos c1_3] at hf
    refine lv_tableIn (tgt := 73) (off := 64) hx hb dX8_run_9 (by rw [c1_3]; decide) (by rw [c1_3]; decide) (by rw [c1_3]; rfl) (by decide) ?_
    refine lv_lload_n hx hb dX8_run_73 rfl (lv_at hl 0 rfl) ?_
    refine kb_bind hf (fun q7 hq7 hf => ?_)
    have hPc : va_P D vwCl ([]) H := hP.sub [] rfl
    have hDc : va_D A ([]) := hD.sub [] (by decide) rfl
    refine kd_iR (va_runS (As := [.long (f5_runMoment v_now)]) (rest := []) ⟨hx, hb, hml, hown, hts⟩ (c2_ending l D cB cI cZ cO h H.size (f5_runMoment v_now) q7 hq7) (va_cwS 1 hts gX8_run_X2_ending rfl rfl rfl (by decide +kernel) ⟨Nat.le_of_ble_eq_true rfl, Nat.le_of_ble_eq_true rfl⟩) ⟨kb_blind, kb_pre hPc hDc hK hN⟩ rfl rfl hl.1 rfl (lv_room (Nat.le_of_ble_eq_true rfl)) dX8_run_74 ⟨Nat.le_refl _, Nat.le_refl _⟩) hP hD hS hA [] rfl (fun H locs hn8 hP hS => ?_)
    obtain ⟨z1, y1⟩ := Prod.mk.inj (Option.some.inj hf)
    obtain ⟨z2, y2⟩ := Prod.mk.inj y1
    obtain ⟨z3, y3⟩ := Prod.mk.inj y2
    subst z1 z2 z3 y3
    exact hend _ _ _ _ rfl hP hS dX8_run_77
  rw [if_neg c1_3] at hf
  by_cases c1_4 : x1 = 4
  · rw [if_pos c1_4] at hf
    refine lv_tableIn (tgt := 78) (off := 69) hx hb dX8_run_9 (by rw [c1_4]; decide) (by rw [c1_4]; decide) (by rw [c1_4]; rfl) (by decide) ?_
    refine lv_lload_n hx hb dX8_run_78 rfl (lv_at hl 0 rfl) ?_
    refine lv_iconst (v := 0) hx hb dX8_run_79 (by decide) ?_
    have hPc : va_P D vwCl ([]) H := hP.sub [] rfl
    have hDc : va_D A ([]) := hD.sub [] (by decide) rfl
    refine kd_iR (va_runS (As := [.long (f5_runMoment v_now), .int (0 : Int32)]) (rest := []) ⟨hx, hb, hml, hown, hts⟩ (c2_holderOf l D cB cI cZ cO h H.size (f5_runMoment v_now) (0 : Int32) (f2_holderOf (f5_runMoment v_now) (0 : Int32)) rfl) (va_cwS 2 hts gX8_run_X2_holderOf rfl rfl rfl (by decide +kernel) ⟨Nat.le_of_ble_eq_true rfl, Nat.le_of_ble_eq_true rfl⟩) ⟨kb_blind, kb_pre hPc hDc hK hN⟩ rfl rfl hl.1 rfl (lv_room (Nat.le_of_ble_eq_true rfl)) dX8_run_80 ⟨Nat.le_refl _, Nat.le_refl _⟩) hP hD hS hA [] rfl (fun H locs hn9 hP hS => ?_)
    obtain ⟨z1, y1⟩ := Prod.mk.inj (Option.some.inj hf)
    obtain ⟨z2, y2⟩ := Prod.mk.inj y1
    obtain ⟨z3, y3⟩ := Prod.mk.inj y2
    subst z1 z2 z3 y3
    exact hend _ _ _ _ rfl hP hS dX8_run_83
  rw [if_neg c1_4] at hf
  by_cases c1_5 : x1 = 5
  · rw [if_pos c1_5] at hf
    refine lv_tableIn (tgt := 84) (off := 75) hx hb dX8_run_9 (by rw [c1_5]; decide) (by rw [c1_5]; decide) (by rw [c1_5]; rfl) (by decide) ?_
    refine lv_lload_n hx hb dX8_run_84 rfl (lv_at hl 0 rfl) ?_
    refine lv_iconst (v := 1) hx hb dX8_run_85 (by decide) ?_
    have hPc : va_P D vwCl ([]) H := hP.sub [] rfl
    have hDc : va_D A ([]) := hD.sub [] (by decide) rfl
    refine kd_iR (va_runS (As := [.long (f5_runMoment v_now), .int (1 : Int32)]) (rest := []) ⟨hx, hb, hml, hown, hts⟩ (c2_holderOf l D cB cI cZ cO h H.size (f5_runMoment v_now) (1 : Int32) (f2_holderOf (f5_runMoment v_now) (1 : Int32)) rfl) (va_cwS 2 hts gX8_run_X2_holderOf rfl rfl rfl (by decide +kernel) ⟨Nat.le_of_ble_eq_true rfl, Nat.le_of_ble_eq_true rfl⟩) ⟨kb_blind, kb_pre hPc hDc hK hN⟩ rfl rfl hl.1 rfl (lv_room (Nat.le_of_ble_eq_true rfl)) dX8_run_86 ⟨Nat.le_refl _, Nat.le_refl _⟩) hP hD hS hA [] rfl (fun H locs hn10 hP hS => ?_)
    obtain ⟨z1, y1⟩ := Prod.mk.inj (Option.some.inj hf)
    obtain ⟨z2, y2⟩ := Prod.mk.inj y1
    obtain ⟨z3, y3⟩ := Prod.mk.inj y2
    subst z1 z2 z3 y3
    exact hend _ _ _ _ rfl hP hS dX8_run_89
  rw [if_neg c1_5] at hf
  refine lv_tableOut (tgt := 90) hx hb dX8_run_9 (by have e0 := lv_neT c1_0 (a := 0) rfl; have e1 := lv_neT c1_1 (a := 1) rfl; have e2 := lv_neT c1_2 (a := 2) rfl; have e3 := lv_neT c1_3 (a := 3) rfl; have e4 := lv_neT c1_4 (a := 4) rfl; have e5 := lv_neT c1_5 (a := 5) rfl; omega) (by decide) ?_
  refine lv_aload_n hx hb dX8_run_90 rfl (lv_at hl 1 rfl) ?_
  refine lv_bipush (v := (-2)) hx hb dX8_run_91 (by decide) ?_
  refine kb_bind hf (fun q11 hq11 hf => ?_)
  have hPc : va_P D vwCl (wdO cB cI cZ cO h v_now v_tried v_past_kept v_past_oldest v_past_size v_all_threads v_all_rows v_all_ended v_all_known v_all_stepsInAll v_all_count v_all_standstills v_all_wrongOnes v_all_unlikeEnds v_meetings_reached v_text_bytes v_text_length v_text_place v_text_thread v_text_kind v_text_target v_text_value v_refusedBad v_refusedNo v_refusedFull) H := hP.sub [0, 1, 2, 3, 4, 5, 6, 7, 8, 9, 10, 11, 12, 13, 14, 15, 16, 17, 18, 19, 20, 21, 22, 23, 24, 25, 26, 27, 28, 29, 30, 31, 32, 33] rfl
  have hDc : va_D A (wdO cB cI cZ cO h v_now v_tried v_past_kept v_past_oldest v_past_size v_all_threads v_all_rows v_all_ended v_all_known v_all_stepsInAll v_all_count v_all_standstills v_all_wrongOnes v_all_unlikeEnds v_meetings_reached v_text_bytes v_text_length v_text_place v_text_thread v_text_kind v_text_target v_text_value v_refusedBad v_refusedNo v_refusedFull) := hD.sub [0, 1, 2, 3, 4, 5, 6, 7, 8, 9, 10, 11, 12, 13, 14, 15, 16, 17, 18, 19, 20, 21, 22, 23, 24, 25, 26, 27, 28, 29, 30, 31, 32, 33] (by decide) rfl
  refine kd_iW (ws' := wdO cB cI cZ cO h v_now v_tried v_past_kept v_past_oldest v_past_size v_all_threads v_all_rows v_all_ended v_all_known v_all_stepsInAll v_all_count v_all_standstills v_all_wrongOnes v_all_unlikeEnds v_meetings_reached v_text_bytes v_text_length v_text_place v_text_thread v_text_kind v_text_target v_text_value q11.2.1 q11.2.2.1 q11.2.2.2) (va_runV (As := [.int (-2 : Int32)]) (rest := []) ⟨hx, hb, hml, hown, hts⟩ (c8_refused l D cB cI cZ cO h H.size (-2 : Int32) v_now v_tried v_past_kept v_past_oldest v_past_size v_all_threads v_all_rows v_all_ended v_all_known v_all_stepsInAll v_all_count v_all_standstills v_all_wrongOnes v_all_unlikeEnds v_meetings_reached v_text_bytes v_text_length v_text_place v_text_thread v_text_kind v_text_target v_text_value v_refusedBad v_refusedNo v_refusedFull q11.1 q11.2.1 q11.2.2.1 q11.2.2.2 hq11) (cwV 1 hts gX8_run_X8_refused rfl rfl rfl (by decide +kernel) ⟨Nat.le_of_ble_eq_true rfl, Nat.le_of_ble_eq_true rfl⟩) ⟨kb_blind, va_recv hK hPc (ci := 5) (q0 := 0) rfl rfl, kb_pre hPc hDc hK hN⟩ rfl rfl hl.1 rfl (lv_room (Nat.le_of_ble_eq_true rfl)) dX8_run_93 ⟨Nat.le_refl _, Nat.le_refl _⟩) hP hD hS hA [0, 1, 2, 3, 4, 5, 6, 7, 8, 9, 10, 11, 12, 13, 14, 15, 16, 17, 18, 19, 20, 21, 22, 23, 24, 25, 26, 27, 28, 29, 30, 31, 32, 33] [] rfl rfl (fun _ h9 => absurd h9 List.not_mem_nil) rfl rfl (fun H locs hn12 hP hD hS => ?_)
  obtain ⟨z1, y1⟩ := Prod.mk.inj (Option.some.inj hf)
  obtain ⟨z2, y2⟩ := Prod.mk.inj y1
  obtain ⟨z3, y3⟩ := Prod.mk.inj y2
  subst z1 z2 z3 y3
  exact hend _ _ _ _ rfl hP hS dX8_run_96
