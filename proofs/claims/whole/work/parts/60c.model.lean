set_option maxHeartbeats 4000000 in
set_option maxRecDepth 100000 in
theorem c9_told4 (l : Launch) (D : va_G) (cB cI cZ cO : ClassId) (h : Nat → Nat) (sz : Nat) (x1 : Int32) (x2 : Int32) (x3 : Int32) (x4 : Int32) (v_all : Nat → Int32) (v_past : Nat → Int32) (v_states : Int32) (v_refused : Nat → Int32) (v_far : Nat → Int32) (v_row : Nat → Int32) (v_stepAt : Nat → Int32) (v_depth : Int32) (v_tries : Nat → Int32) (v_values : Nat → Int32) (v_wrong : Int32) (v_isEnd : Nat → Int32) (v_found : Nat → Int32) (v_reached : Nat → Int32) (v_stepIn : Nat → Int32) (v_laid : Nat → Int32) (v_firstRow : Nat → Int32) (v_text : Nat → Int32) (v_textLong : Int32) (v_spot : Int32) (v_taken : Int32) (v_counted : Nat → Int32) (r0 : Int32) (hf : f9_told4 x1 x2 x3 x4 = r0) : Met l yX9_told4 wsX9_told4 rm9_told4 (va_Pc [.ref (h 0), .int x1, .int x2, .int x3, .int x4] (kb_B D (ka_tys cB cI cZ cO) sz (wdM cI cZ h v_all v_past v_states v_refused v_far v_row v_stepAt v_depth v_tries v_values v_wrong v_isEnd v_found v_reached v_stepIn v_laid v_firstRow v_text v_textLong v_spot v_taken v_counted))) (va_Qi (kb_post .int r0) (fun _ t => va_P D vwCl (wdM cI cZ h v_all v_past v_states v_refused v_far v_row v_stepAt v_depth v_tries v_values v_wrong v_isEnd v_found v_reached v_stepIn v_laid v_firstRow v_text v_textLong v_spot v_taken v_counted) t.heap) (va_A (wdM cI cZ h v_all v_past v_states v_refused v_far v_row v_stepAt v_depth v_tries v_values v_wrong v_isEnd v_found v_reached v_stepIn v_laid v_firstRow v_text v_textLong v_spot v_taken v_counted) sz)) 0 0 (va_A (wdM cI cZ h v_all v_past v_states v_refused v_far v_row v_stepAt v_depth v_tries v_values v_wrong v_isEnd v_found v_reached v_stepIn v_laid v_firstRow v_text v_textLong v_spot v_taken v_counted) sz) := by
  refine kb_metZ (cc := cX9_told4) (maxL := 5) (ty := .int) (by decide) rfl (Nat.le_of_ble_eq_true rfl) ?_
  intro p e s m args below meth c Q A ls H hx hb hml hown hts hK hN hP hD hS hA hl hend
  have hown : s.vm.findClass RX9 = some m.cls := hown
  have hl : lv_has ls 5 [(0, .ref (h 0)), (1, .int x1), (2, .int x2), (3, .int x3), (4, .int x4)] := hl
  rw [f9_told4] at hf
  refine lv_sipush (v := 1000) hx hb dX9_told4_0 (by decide) ?_
  refine lv_iload_n hx hb dX9_told4_3 rfl (lv_at hl 1 rfl) ?_
  refine lv_imul hx hb dX9_told4_4 ?_
  refine lv_bipush (v := 100) hx hb dX9_told4_5 (by decide) ?_
  refine lv_iload_n hx hb dX9_told4_7 rfl (lv_at hl 2 rfl) ?_
  refine lv_imul hx hb dX9_told4_8 ?_
  refine lv_iadd hx hb dX9_told4_9 ?_
  refine lv_bipush (v := 10) hx hb dX9_told4_10 (by decide) ?_
  refine lv_iload_n hx hb dX9_told4_12 rfl (lv_at hl 3 rfl) ?_
  refine lv_imul hx hb dX9_told4_13 ?_
  refine lv_iadd hx hb dX9_told4_14 ?_
  refine lv_iload hx hb dX9_told4_15 (lv_at hl 4 rfl) ?_
  refine lv_iadd hx hb dX9_told4_17 ?_
  subst hf
  exact hend _ _ _ _ rfl hP hS dX9_told4_18

set_option maxHeartbeats 4000000 in
set_option maxRecDepth 100000 in
theorem c9_endOf (l : Launch) (D : va_G) (cB cI cZ cO : ClassId) (h : Nat → Nat) (sz : Nat) (v_all : Nat → Int32) (v_past : Nat → Int32) (v_states : Int32) (v_refused : Nat → Int32) (v_far : Nat → Int32) (v_row : Nat → Int32) (v_stepAt : Nat → Int32) (v_depth : Int32) (v_tries : Nat → Int32) (v_values : Nat → Int32) (v_wrong : Int32) (v_isEnd : Nat → Int32) (v_found : Nat → Int32) (v_reached : Nat → Int32) (v_stepIn : Nat → Int32) (v_laid : Nat → Int32) (v_firstRow : Nat → Int32) (v_text : Nat → Int32) (v_textLong : Int32) (v_spot : Int32) (v_taken : Int32) (v_counted : Nat → Int32) (r0 : Int32) (v_values' : Nat → Int32) (v_wrong' : Int32) (hf : f9_endOf v_all v_row v_stepAt v_depth v_values v_wrong = some (r0, v_values', v_wrong')) : Met l yX9_endOf wsX9_endOf rm9_endOf (va_Pc [.ref (h 0)] (kb_B D (ka_tys cB cI cZ cO) sz (wdM cI cZ h v_all v_past v_states v_refused v_far v_row v_stepAt v_depth v_tries v_values v_wrong v_isEnd v_found v_reached v_stepIn v_laid v_firstRow v_text v_textLong v_spot v_taken v_counted))) (va_Qi (kb_post .int r0) (fun _ t => va_P D vwCl (wdM cI cZ h v_all v_past v_states v_refused v_far v_row v_stepAt v_depth v_tries (v_values') (v_wrong') v_isEnd v_found v_reached v_stepIn v_laid v_firstRow v_text v_textLong v_spot v_taken v_counted) t.heap) (va_A (wdM cI cZ h v_all v_past v_states v_refused v_far v_row v_stepAt v_depth v_tries v_values v_wrong v_isEnd v_found v_reached v_stepIn v_laid v_firstRow v_text v_textLong v_spot v_taken v_counted) sz)) 0 0 (va_A (wdM cI cZ h v_all v_past v_states v_refused v_far v_row v_stepAt v_depth v_tries v_values v_wrong v_isEnd v_found v_reached v_stepIn v_laid v_firstRow v_text v_textLong v_spot v_taken v_counted) sz) := by
  refine kb_metZ (cc := cX9_endOf) (maxL := 2) (ty := .int) (by decide) rfl (Nat.le_of_ble_eq_true rfl) ?_
  intro p e s m args below meth c Q A ls H hx hb hml hown hts hK hN hP hD hS hA hl hend
  have hown : s.vm.findClass RX9 = some m.cls := hown
  have hl : lv_has ls 2 [(0, .ref (h 0))] := hl
  have hin9 : ∀ w ∈ u_ws RX9 TX9 22, w ∈ wsX9_endOf := by decide +kernel
  have J36 : ∀ (v_values : Nat → Int32) (v_wrong : Int32) (H : Heap) (locs : List Loc) (ls : Array Slot), f9_endOf_b36 v_all v_row v_stepAt v_depth v_values v_wrong = some (r0, v_values', v_wrong') → va_P D vwCl (wdM cI cZ h v_all v_past v_states v_refused v_far v_row v_stepAt v_depth v_tries v_values v_wrong v_isEnd v_found v_reached v_stepIn v_laid v_firstRow v_text v_textLong v_spot v_taken v_counted) H → va_D A (wdM cI cZ h v_all v_past v_states v_refused v_far v_row v_stepAt v_depth v_tries v_values v_wrong v_isEnd v_found v_reached v_stepIn v_laid v_firstRow v_text v_textLong v_spot v_taken v_counted) → va_S A s.heap H locs → lv_has ls 2 [(0, .ref (h 0))] → W p l e rm9_endOf s m args below meth c H locs 0 0 Q (F0 m 36 ls []) := by
    intro v_values v_wrong H locs ls hf hP hD hS hl
    rw [f9_endOf_b36] at hf
    refine lv_aload_n hx hb dX9_endOf_36 rfl (lv_at hl 0 rfl) ?_
    refine lv_aload_n hx hb dX9_endOf_37 rfl (lv_at hl 0 rfl) ?_
    refine va_get (D := D) (cl := vwCl) (ci := 6) (v := .ref (h 8)) (C := RX9) (T := TX9) (N := 22) hx hb hts hin9 hown hK hP 0 rfl rfl 9 (by decide) (hts (.fieldLink RX9 31 "StepOrdersModel" "values" "[I") (by decide +kernel)) (fun _ h9 => h9) rfl dX9_endOf_38 ?_
    refine lv_iconst (v := 0) hx hb dX9_endOf_41 (by decide) ?_
    refine ka_iald (D := D) (cl := vwCl) hx hb hK hP 8 1 (f := v_values) rfl rfl (v := (v_values 0)) (show ¬ (_ ∨ _) from by decide) rfl dX9_endOf_42 ?_
    refine lv_aload_n hx hb dX9_endOf_43 rfl (lv_at hl 0 rfl) ?_
    refine va_get (D := D) (cl := vwCl) (ci := 6) (v := .ref (h 8)) (C := RX9) (T := TX9) (N := 22) hx hb hts hin9 hown hK hP 0 rfl rfl 9 (by decide) (hts (.fieldLink RX9 31 "StepOrdersModel" "values" "[I") (by decide +kernel)) (fun _ h9 => h9) rfl dX9_endOf_44 ?_
    refine lv_iconst (v := 1) hx hb dX9_endOf_47 (by decide) ?_
    refine ka_iald (D := D) (cl := vwCl) hx hb hK hP 8 1 (f := v_values) rfl rfl (v := (v_values 1)) (show ¬ (_ ∨ _) from by decide) rfl dX9_endOf_48 ?_
    refine lv_aload_n hx hb dX9_endOf_49 rfl (lv_at hl 0 rfl) ?_
    refine va_get (D := D) (cl := vwCl) (ci := 6) (v := .ref (h 8)) (C := RX9) (T := TX9) (N := 22) hx hb hts hin9 hown hK hP 0 rfl rfl 9 (by decide) (hts (.fieldLink RX9 31 "StepOrdersModel" "values" "[I") (by decide +kernel)) (fun _ h9 => h9) rfl dX9_endOf_50 ?_
    refine lv_iconst (v := 2) hx hb dX9_endOf_53 (by decide) ?_
    refine ka_iald (D := D) (cl := vwCl) hx hb hK hP 8 1 (f := v_values) rfl rfl (v := (v_values 2)) (show ¬ (_ ∨ _) from by decide) rfl dX9_endOf_54 ?_
    refine lv_aload_n hx hb dX9_endOf_55 rfl (lv_at hl 0 rfl) ?_
    refine va_get (D := D) (cl := vwCl) (ci := 6) (v := .ref (h 8)) (C := RX9) (T := TX9) (N := 22) hx hb hts hin9 hown hK hP 0 rfl rfl 9 (by decide) (hts (.fieldLink RX9 31 "StepOrdersModel" "values" "[I") (by decide +kernel)) (fun _ h9 => h9) rfl dX9_endOf_56 ?_
    refine lv_iconst (v := 3) hx hb dX9_endOf_59 (by decide) ?_
    refine ka_iald (D := D) (cl := vwCl) hx hb hK hP 8 1 (f := v_values) rfl rfl (v := (v_values 3)) (show ¬ (_ ∨ _) from by decide) rfl dX9_endOf_60 ?_
    have hPc : va_P D vwCl (wdM cI cZ h v_all v_past v_states v_refused v_far v_row v_stepAt v_depth v_tries v_values v_wrong v_isEnd v_found v_reached v_stepIn v_laid v_firstRow v_text v_textLong v_spot v_taken v_counted) H := hP.sub [0, 1, 2, 3, 4, 5, 6, 7, 8, 9, 10, 11, 12, 13, 14, 15, 16] rfl
    have hDc : va_D A (wdM cI cZ h v_all v_past v_states v_refused v_far v_row v_stepAt v_depth v_tries v_values v_wrong v_isEnd v_found v_reached v_stepIn v_laid v_firstRow v_text v_textLong v_spot v_taken v_counted) := hD.sub [0, 1, 2, 3, 4, 5, 6, 7, 8, 9, 10, 11, 12, 13, 14, 15, 16] (by decide) rfl
    refine kd_iR (va_runV (As := [.int (v_values 0), .int (v_values 1), .int (v_values 2), .int (v_values 3)]) (rest := []) ⟨hx, hb, hml, hown, hts⟩ (c9_told4 l D cB cI cZ cO h H.size (v_values 0) (v_values 1) (v_values 2) (v_values 3) v_all v_past v_states v_refused v_far v_row v_stepAt v_depth v_tries v_values v_wrong v_isEnd v_found v_reached v_stepIn v_laid v_firstRow v_text v_textLong v_spot v_taken v_counted (f9_told4 (v_values 0) (v_values 1) (v_values 2) (v_values 3)) rfl) (cwV 4 hts gX9_endOf_X9_told4 rfl rfl rfl (by decide +kernel) ⟨Nat.le_of_ble_eq_true rfl, Nat.le_of_ble_eq_true rfl⟩) ⟨kb_blind, va_recv hK hPc (ci := 6) (q0 := 0) rfl rfl, kb_pre hPc hDc hK hN⟩ rfl rfl hl.1 rfl (lv_room (Nat.le_of_ble_eq_true rfl)) dX9_endOf_61 ⟨Nat.le_refl _, Nat.le_refl _⟩) hP hD hS hA [0, 1, 2, 3, 4, 5, 6, 7, 8, 9, 10, 11, 12, 13, 14, 15, 16] rfl (fun H locs hn2 hP hS => ?_)
    obtain ⟨z1, y1⟩ := Prod.mk.inj (Option.some.inj hf)
    obtain ⟨z2, y2⟩ := Prod.mk.inj y1
    subst z1 z2 y2
    exact hend _ _ _ _ rfl hP hS dX9_endOf_64
  have J6 : ∀ (n : Nat) (v_values : Nat → Int32) (v_wrong : Int32) (x1 : Int32) (H : Heap) (locs : List Loc) (ls : Array Slot), f9_endOf_l6 n v_all v_row v_stepAt v_depth v_values v_wrong x1 = some (r0, v_values', v_wrong') → va_P D vwCl (wdM cI cZ h v_all v_past v_states v_refused v_far v_row v_stepAt v_depth v_tries v_values v_wrong v_isEnd v_found v_reached v_stepIn v_laid v_firstRow v_text v_textLong v_spot v_taken v_counted) H → va_D A (wdM cI cZ h v_all v_past v_states v_refused v_far v_row v_stepAt v_depth v_tries v_values v_wrong v_isEnd v_found v_reached v_stepIn v_laid v_firstRow v_text v_textLong v_spot v_taken v_counted) → va_S A s.heap H locs → lv_has ls 2 [(0, .ref (h 0)), (1, .int x1)] → W p l e rm9_endOf s m args below meth c H locs 0 0 Q (F0 m 6 ls []) := by
    intro n
    induction n with
    | zero =>
      intro v_values v_wrong x1 H locs ls hf
      cases (show (none : Option (Int32 × (Nat → Int32) × Int32)) = some (r0, v_values', v_wrong') from hf)
    | succ n ih =>
      intro v_values v_wrong x1 H locs ls hf hP hD hS hl
      rw [f9_endOf_l6_s] at hf
      refine lv_iload_n hx hb dX9_endOf_6 rfl (lv_at hl 1 rfl) ?_
      refine lv_aload_n hx hb dX9_endOf_7 rfl (lv_at hl 0 rfl) ?_
      refine va_get (D := D) (cl := vwCl) (ci := 6) (v := .int v_depth) (C := RX9) (T := TX9) (N := 22) hx hb hts hin9 hown hK hP 0 rfl rfl 7 (by decide) (hts (.fieldLink RX9 130 "StepOrdersModel" "depth" "I") (by decide +kernel)) (fun _ h9 => h9) rfl dX9_endOf_8 ?_
      refine lv_icmp_ge (tgt := 36) hx hb dX9_endOf_11 (by decide) (fun c7 => ?_) (fun c7 => ?_)
      · rw [if_pos c7] at hf
        exact J36 v_values v_wrong _ _ _ hf hP hD hS (lv_sub hl [0] rfl)
      · rw [if_neg c7] at hf
        refine lv_aload_n hx hb dX9_endOf_14 rfl (lv_at hl 0 rfl) ?_
        refine lv_aload_n hx hb dX9_endOf_15 rfl (lv_at hl 0 rfl) ?_
        refine va_get (D := D) (cl := vwCl) (ci := 6) (v := .ref (h 5)) (C := RX9) (T := TX9) (N := 22) hx hb hts hin9 hown hK hP 0 rfl rfl 5 (by decide) (hts (.fieldLink RX9 22 "StepOrdersModel" "row" "[I") (by decide +kernel)) (fun _ h9 => h9) rfl dX9_endOf_16 ?_
        refine lv_iload_n hx hb dX9_endOf_19 rfl (lv_at hl 1 rfl) ?_
        refine kb_bind hf (fun v8 hv8 hf => ?_)
        refine ka_iald (D := D) (cl := vwCl) hx hb hK hP 5 1 (f := v_row) rfl rfl (ard_in hv8) (ard_v hv8) dX9_endOf_20 ?_
        refine lv_aload_n hx hb dX9_endOf_21 rfl (lv_at hl 0 rfl) ?_
        refine va_get (D := D) (cl := vwCl) (ci := 6) (v := .ref (h 6)) (C := RX9) (T := TX9) (N := 22) hx hb hts hin9 hown hK hP 0 rfl rfl 6 (by decide) (hts (.fieldLink RX9 25 "StepOrdersModel" "stepAt" "[I") (by decide +kernel)) (fun _ h9 => h9) rfl dX9_endOf_22 ?_
        refine lv_iload_n hx hb dX9_endOf_25 rfl (lv_at hl 1 rfl) ?_
        refine kb_bind hf (fun v9 hv9 hf => ?_)
        refine ka_iald (D := D) (cl := vwCl) hx hb hK hP 6 1 (f := v_stepAt) rfl rfl (ard_in hv9) (ard_v hv9) dX9_endOf_26 ?_
        refine kb_bind hf (fun q10 hq10 hf => ?_)
        have hPc : va_P D vwCl (wdM cI cZ h v_all v_past v_states v_refused v_far v_row v_stepAt v_depth v_tries v_values v_wrong v_isEnd v_found v_reached v_stepIn v_laid v_firstRow v_text v_textLong v_spot v_taken v_counted) H := hP.sub [0, 1, 2, 3, 4, 5, 6, 7, 8, 9, 10, 11, 12, 13, 14, 15, 16] rfl
        have hDc : va_D A (wdM cI cZ h v_all v_past v_states v_refused v_far v_row v_stepAt v_depth v_tries v_values v_wrong v_isEnd v_found v_reached v_stepIn v_laid v_firstRow v_text v_textLong v_spot v_taken v_counted) := hD.sub [0, 1, 2, 3, 4, 5, 6, 7, 8, 9, 10, 11, 12, 13, 14, 15, 16] (by decide) rfl
        refine kd_vW (ws' := wdM cI cZ h v_all v_past v_states v_refused v_far v_row v_stepAt v_depth v_tries q10.1 q10.2 v_isEnd v_found v_reached v_stepIn v_laid v_firstRow v_text v_textLong v_spot v_taken v_counted) (va_runV (As := [.int v8, .int v9]) (rest := []) ⟨hx, hb, hml, hown, hts⟩ (c9_doesStep l D cB cI cZ cO h H.size v8 v9 v_all v_past v_states v_refused v_far v_row v_stepAt v_depth v_tries v_values v_wrong v_isEnd v_found v_reached v_stepIn v_laid v_firstRow v_text v_textLong v_spot v_taken v_counted q10.1 q10.2 hq10) (cwV 2 hts gX9_endOf_X9_doesStep rfl rfl rfl (by decide +kernel) ⟨Nat.le_of_ble_eq_true rfl, Nat.le_of_ble_eq_true rfl⟩) ⟨kb_blind, va_recv hK hPc (ci := 6) (q0 := 0) rfl rfl, kb_pre hPc hDc hK hN⟩ rfl rfl hl.1 rfl (lv_room (Nat.le_of_ble_eq_true rfl)) dX9_endOf_27 ⟨Nat.le_refl _, Nat.le_refl _⟩) hP hD hS hA [0, 1, 2, 3, 4, 5, 6, 7, 8, 9, 10, 11, 12, 13, 14, 15, 16] [] rfl rfl (fun _ h9 => absurd h9 List.not_mem_nil) rfl rfl (fun H locs hP hD hS => ?_)
        refine lv_iinc (v := (x1 + 1)) (lv' := [(1, .int (x1 + 1)), (0, .ref (h 0))]) hx hb dX9_endOf_30 hl (k := 1) rfl rfl (by decide) rfl (fun ls hl => ?_)
        refine lv_goto (tgt := 6) hx hb dX9_endOf_33 (by decide) ?_
        exact ih q10.1 q10.2 (x1 + 1) _ _ _ hf hP hD hS (lv_sub hl [1, 0] rfl)
  rw [f9_endOf] at hf
  refine lv_aload_n hx hb dX9_endOf_0 rfl (lv_at hl 0 rfl) ?_
  refine kb_bind hf (fun q11 hq11 hf => ?_)
  have hPc : va_P D vwCl (wdM cI cZ h v_all v_past v_states v_refused v_far v_row v_stepAt v_depth v_tries v_values v_wrong v_isEnd v_found v_reached v_stepIn v_laid v_firstRow v_text v_textLong v_spot v_taken v_counted) H := hP.sub [0, 1, 2, 3, 4, 5, 6, 7, 8, 9, 10, 11, 12, 13, 14, 15, 16] rfl
  have hDc : va_D A (wdM cI cZ h v_all v_past v_states v_refused v_far v_row v_stepAt v_depth v_tries v_values v_wrong v_isEnd v_found v_reached v_stepIn v_laid v_firstRow v_text v_textLong v_spot v_taken v_counted) := hD.sub [0, 1, 2, 3, 4, 5, 6, 7, 8, 9, 10, 11, 12, 13, 14, 15, 16] (by decide) rfl
  refine kd_vW (ws' := wdM cI cZ h v_all v_past v_states v_refused v_far v_row v_stepAt v_depth v_tries q11.1 q11.2 v_isEnd v_found v_reached v_stepIn v_laid v_firstRow v_text v_textLong v_spot v_taken v_counted) (va_runV (As := []) (rest := []) ⟨hx, hb, hml, hown, hts⟩ (c9_valuesBegin l D cB cI cZ cO h H.size v_all v_past v_states v_refused v_far v_row v_stepAt v_depth v_tries v_values v_wrong v_isEnd v_found v_reached v_stepIn v_laid v_firstRow v_text v_textLong v_spot v_taken v_counted q11.1 q11.2 hq11) (cwV 0 hts gX9_endOf_X9_valuesBegin rfl rfl rfl (by decide +kernel) ⟨Nat.le_of_ble_eq_true rfl, Nat.le_of_ble_eq_true rfl⟩) ⟨kb_blind, va_recv hK hPc (ci := 6) (q0 := 0) rfl rfl, kb_pre hPc hDc hK hN⟩ rfl rfl hl.1 rfl (lv_room (Nat.le_of_ble_eq_true rfl)) dX9_endOf_1 ⟨Nat.le_refl _, Nat.le_refl _⟩) hP hD hS hA [0, 1, 2, 3, 4, 5, 6, 7, 8, 9, 10, 11, 12, 13, 14, 15, 16] [] rfl rfl (fun _ h9 => absurd h9 List.not_mem_nil) rfl rfl (fun H locs hP hD hS => ?_)
  refine lv_iconst (v := 0) hx hb dX9_endOf_4 (by decide) ?_
  refine lv_istore_n (lv' := [(1, .int (0 : Int32)), (0, .ref (h 0))]) hx hb dX9_endOf_5 rfl hl (by decide) rfl (fun ls hl => ?_)
  exact J6 kFUEL q11.1 q11.2 (0 : Int32) _ _ _ hf hP hD hS (lv_sub hl [1, 0] rfl)

set_option maxHeartbeats 4000000 in
set_option maxRecDepth 100000 in
theorem c9_allSteps (l : Launch) (D : va_G) (cB cI cZ cO : ClassId) (h : Nat → Nat) (sz : Nat) (v_all : Nat → Int32) (v_past : Nat → Int32) (v_states : Int32) (v_refused : Nat → Int32) (v_far : Nat → Int32) (v_row : Nat → Int32) (v_stepAt : Nat → Int32) (v_depth : Int32) (v_tries : Nat → Int32) (v_values : Nat → Int32) (v_wrong : Int32) (v_isEnd : Nat → Int32) (v_found : Nat → Int32) (v_reached : Nat → Int32) (v_stepIn : Nat → Int32) (v_laid : Nat → Int32) (v_firstRow : Nat → Int32) (v_text : Nat → Int32) (v_textLong : Int32) (v_spot : Int32) (v_taken : Int32) (v_counted : Nat → Int32) (r0 : Int32) (hf : f9_allSteps v_all = some r0) : Met l yX9_allSteps wsX9_allSteps rm9_allSteps (va_Pc [.ref (h 0)] (kb_B D (ka_tys cB cI cZ cO) sz (wdM cI cZ h v_all v_past v_states v_refused v_far v_row v_stepAt v_depth v_tries v_values v_wrong v_isEnd v_found v_reached v_stepIn v_laid v_firstRow v_text v_textLong v_spot v_taken v_counted))) (va_Qi (kb_post .int r0) (fun _ t => va_P D vwCl (wdM cI cZ h v_all v_past v_states v_refused v_far v_row v_stepAt v_depth v_tries v_values v_wrong v_isEnd v_found v_reached v_stepIn v_laid v_firstRow v_text v_textLong v_spot v_taken v_counted) t.heap) (va_A (wdM cI cZ h v_all v_past v_states v_refused v_far v_row v_stepAt v_depth v_tries v_values v_wrong v_isEnd v_found v_reached v_stepIn v_laid v_firstRow v_text v_textLong v_spot v_taken v_counted) sz)) 0 0 (va_A (wdM cI cZ h v_all v_past v_states v_refused v_far v_row v_stepAt v_depth v_tries v_values v_wrong v_isEnd v_found v_reached v_stepIn v_laid v_firstRow v_text v_textLong v_spot v_taken v_counted) sz) := by
  refine kb_metZ (cc := cX9_allSteps) (maxL := 1) (ty := .int) (by decide) rfl (Nat.le_of_ble_eq_true rfl) ?_
  intro p e s m args below meth c Q A ls H hx hb hml hown hts hK hN hP hD hS hA hl hend
  have hown : s.vm.findClass RX9 = some m.cls := hown
  have hl : lv_has ls 1 [(0, .ref (h 0))] := hl
  rw [f9_allSteps] at hf
  refine lv_aload_n hx hb dX9_allSteps_0 rfl (lv_at hl 0 rfl) ?_
  refine lv_iconst (v := 0) hx hb dX9_allSteps_1 (by decide) ?_
  refine kb_bind hf (fun q1 hq1 hf => ?_)
  have hPc : va_P D vwCl (wdM cI cZ h v_all v_past v_states v_refused v_far v_row v_stepAt v_depth v_tries v_values v_wrong v_isEnd v_found v_reached v_stepIn v_laid v_firstRow v_text v_textLong v_spot v_taken v_counted) H := hP.sub [0, 1, 2, 3, 4, 5, 6, 7, 8, 9, 10, 11, 12, 13, 14, 15, 16] rfl
  have hDc : va_D A (wdM cI cZ h v_all v_past v_states v_refused v_far v_row v_stepAt v_depth v_tries v_values v_wrong v_isEnd v_found v_reached v_stepIn v_laid v_firstRow v_text v_textLong v_spot v_taken v_counted) := hD.sub [0, 1, 2, 3, 4, 5, 6, 7, 8, 9, 10, 11, 12, 13, 14, 15, 16] (by decide) rfl
  refine kd_iR (va_runV (As := [.int (0 : Int32)]) (rest := []) ⟨hx, hb, hml, hown, hts⟩ (c9_many l D cB cI cZ cO h H.size (0 : Int32) v_all v_past v_states v_refused v_far v_row v_stepAt v_depth v_tries v_values v_wrong v_isEnd v_found v_reached v_stepIn v_laid v_firstRow v_text v_textLong v_spot v_taken v_counted q1 hq1) (cwV 1 hts gX9_allSteps_X9_many rfl rfl rfl (by decide +kernel) ⟨Nat.le_of_ble_eq_true rfl, Nat.le_of_ble_eq_true rfl⟩) ⟨kb_blind, va_recv hK hPc (ci := 6) (q0 := 0) rfl rfl, kb_pre hPc hDc hK hN⟩ rfl rfl hl.1 rfl (lv_room (Nat.le_of_ble_eq_true rfl)) dX9_allSteps_2 ⟨Nat.le_refl _, Nat.le_refl _⟩) hP hD hS hA [0, 1, 2, 3, 4, 5, 6, 7, 8, 9, 10, 11, 12, 13, 14, 15, 16] rfl (fun H locs hn2 hP hS => ?_)
  refine lv_aload_n hx hb dX9_allSteps_5 rfl (lv_at hl 0 rfl) ?_
  refine lv_iconst (v := 1) hx hb dX9_allSteps_6 (by decide) ?_
  refine kb_bind hf (fun q3 hq3 hf => ?_)
  have hPc : va_P D vwCl (wdM cI cZ h v_all v_past v_states v_refused v_far v_row v_stepAt v_depth v_tries v_values v_wrong v_isEnd v_found v_reached v_stepIn v_laid v_firstRow v_text v_textLong v_spot v_taken v_counted) H := hP.sub [0, 1, 2, 3, 4, 5, 6, 7, 8, 9, 10, 11, 12, 13, 14, 15, 16] rfl
  have hDc : va_D A (wdM cI cZ h v_all v_past v_states v_refused v_far v_row v_stepAt v_depth v_tries v_values v_wrong v_isEnd v_found v_reached v_stepIn v_laid v_firstRow v_text v_textLong v_spot v_taken v_counted) := hD.sub [0, 1, 2, 3, 4, 5, 6, 7, 8, 9, 10, 11, 12, 13, 14, 15, 16] (by decide) rfl
  refine kd_iR (va_runV (As := [.int (1 : Int32)]) (rest := [.int q1]) ⟨hx, hb, hml, hown, hts⟩ (c9_many l D cB cI cZ cO h H.size (1 : Int32) v_all v_past v_states v_refused v_far v_row v_stepAt v_depth v_tries v_values v_wrong v_isEnd v_found v_reached v_stepIn v_laid v_firstRow v_text v_textLong v_spot v_taken v_counted q3 hq3) (cwV 1 hts gX9_allSteps_X9_many rfl rfl rfl (by decide +kernel) ⟨Nat.le_of_ble_eq_true rfl, Nat.le_of_ble_eq_true rfl⟩) ⟨kb_blind, va_recv hK hPc (ci := 6) (q0 := 0) rfl rfl, kb_pre hPc hDc hK hN⟩ rfl rfl hl.1 rfl (lv_room (Nat.le_of_ble_eq_true rfl)) dX9_allSteps_7 ⟨Nat.le_refl _, Nat.le_refl _⟩) hP hD hS hA [0, 1, 2, 3, 4, 5, 6, 7, 8, 9, 10, 11, 12, 13, 14, 15, 16] rfl (fun H locs hn4 hP hS => ?_)
  refine lv_iadd hx hb dX9_allSteps_10 ?_
  refine lv_aload_n hx hb dX9_allSteps_11 rfl (lv_at hl 0 rfl) ?_
  refine lv_iconst (v := 2) hx hb dX9_allSteps_12 (by decide) ?_
  refine kb_bind hf (fun q5 hq5 hf => ?_)
  have hPc : va_P D vwCl (wdM cI cZ h v_all v_past v_states v_refused v_far v_row v_stepAt v_depth v_tries v_values v_wrong v_isEnd v_found v_reached v_stepIn v_laid v_firstRow v_text v_textLong v_spot v_taken v_counted) H := hP.sub [0, 1, 2, 3, 4, 5, 6, 7, 8, 9, 10, 11, 12, 13, 14, 15, 16] rfl
  have hDc : va_D A (wdM cI cZ h v_all v_past v_states v_refused v_far v_row v_stepAt v_depth v_tries v_values v_wrong v_isEnd v_found v_reached v_stepIn v_laid v_firstRow v_text v_textLong v_spot v_taken v_counted) := hD.sub [0, 1, 2, 3, 4, 5, 6, 7, 8, 9, 10, 11, 12, 13, 14, 15, 16] (by decide) rfl
  refine kd_iR (va_runV (As := [.int (2 : Int32)]) (rest := [.int (q1 + q3)]) ⟨hx, hb, hml, hown, hts⟩ (c9_many l D cB cI cZ cO h H.size (2 : Int32) v_all v_past v_states v_refused v_far v_row v_stepAt v_depth v_tries v_values v_wrong v_isEnd v_found v_reached v_stepIn v_laid v_firstRow v_text v_textLong v_spot v_taken v_counted q5 hq5) (cwV 1 hts gX9_allSteps_X9_many rfl rfl rfl (by decide +kernel) ⟨Nat.le_of_ble_eq_true rfl, Nat.le_of_ble_eq_true rfl⟩) ⟨kb_blind, va_recv hK hPc (ci := 6) (q0 := 0) rfl rfl, kb_pre hPc hDc hK hN⟩ rfl rfl hl.1 rfl (lv_room (Nat.le_of_ble_eq_true rfl)) dX9_allSteps_13 ⟨Nat.le_refl _, Nat.le_refl _⟩) hP hD hS hA [0, 1, 2, 3, 4, 5, 6, 7, 8, 9, 10, 11, 12, 13, 14, 15, 16] rfl (fun H locs hn6 hP hS => ?_)
  refine lv_iadd hx hb dX9_allSteps_16 ?_
  obtain rfl := Option.some.inj hf
  exact hend _ _ _ _ rfl hP hS dX9_allSteps_17

set_option maxHeartbeats 4000000 in
set_option maxRecDepth 100000 in
theorem c9_findsAll (l : Launch) (D : va_G) (cB cI cZ cO : ClassId) (h : Nat → Nat) (sz : Nat) (v_all : Nat → Int32) (v_past : Nat → Int32) (v_states : Int32) (v_refused : Nat → Int32) (v_far : Nat → Int32) (v_row : Nat → Int32) (v_stepAt : Nat → Int32) (v_depth : Int32) (v_tries : Nat → Int32) (v_values : Nat → Int32) (v_wrong : Int32) (v_isEnd : Nat → Int32) (v_found : Nat → Int32) (v_reached : Nat → Int32) (v_stepIn : Nat → Int32) (v_laid : Nat → Int32) (v_firstRow : Nat → Int32) (v_text : Nat → Int32) (v_textLong : Int32) (v_spot : Int32) (v_taken : Int32) (v_counted : Nat → Int32) (v_far' : Nat → Int32) (v_row' : Nat → Int32) (v_stepAt' : Nat → Int32) (v_depth' : Int32) (v_tries' : Nat → Int32) (v_values' : Nat → Int32) (v_wrong' : Int32) (v_isEnd' : Nat → Int32) (v_found' : Nat → Int32) (hf : f9_findsAll v_all v_far v_row v_stepAt v_depth v_tries v_values v_wrong v_isEnd v_found = some (v_far', v_row', v_stepAt', v_depth', v_tries', v_values', v_wrong', v_isEnd', v_found')) : Met l yX9_findsAll wsX9_findsAll rm9_findsAll (va_Pc [.ref (h 0)] (kb_B D (ka_tys cB cI cZ cO) sz (wdM cI cZ h v_all v_past v_states v_refused v_far v_row v_stepAt v_depth v_tries v_values v_wrong v_isEnd v_found v_reached v_stepIn v_laid v_firstRow v_text v_textLong v_spot v_taken v_counted))) (va_Qv (fun (_ : Unit) => True) (fun _ t => va_P D vwCl (wdM cI cZ h v_all v_past v_states v_refused (v_far') (v_row') (v_stepAt') (v_depth') (v_tries') (v_values') (v_wrong') (v_isEnd') (v_found') v_reached v_stepIn v_laid v_firstRow v_text v_textLong v_spot v_taken v_counted) t.heap) (va_A (wdM cI cZ h v_all v_past v_states v_refused v_far v_row v_stepAt v_depth v_tries v_values v_wrong v_isEnd v_found v_reached v_stepIn v_laid v_firstRow v_text v_textLong v_spot v_taken v_counted) sz)) 0 0 (va_A (wdM cI cZ h v_all v_past v_states v_refused v_far v_row v_stepAt v_depth v_tries v_values v_wrong v_isEnd v_found v_reached v_stepIn v_laid v_firstRow v_text v_textLong v_spot v_taken v_counted) sz) := by
  refine kb_metV (cc := cX9_findsAll) (maxL := 2) (by decide) rfl (Nat.le_of_ble_eq_true rfl) ?_
  intro p e s m args below meth c Q A ls H hx hb hml hown hts hK hN hP hD hS hA hl hend
  have hown : s.vm.findClass RX9 = some m.cls := hown
  have hl : lv_has ls 2 [(0, .ref (h 0))] := hl
  have hin9 : ∀ w ∈ u_ws RX9 TX9 22, w ∈ wsX9_findsAll := by decide +kernel
  have J46 : ∀ (n : Nat) (v_far : Nat → Int32) (v_row : Nat → Int32) (v_stepAt : Nat → Int32) (v_depth : Int32) (v_tries : Nat → Int32) (v_values : Nat → Int32) (v_wrong : Int32) (v_isEnd : Nat → Int32) (v_found : Nat → Int32) (H : Heap) (locs : List Loc) (ls : Array Slot), f9_findsAll_l46 n v_all v_far v_row v_stepAt v_depth v_tries v_values v_wrong v_isEnd v_found = some (v_far', v_row', v_stepAt', v_depth', v_tries', v_values', v_wrong', v_isEnd', v_found') → va_P D vwCl (wdM cI cZ h v_all v_past v_states v_refused v_far v_row v_stepAt v_depth v_tries v_values v_wrong v_isEnd v_found v_reached v_stepIn v_laid v_firstRow v_text v_textLong v_spot v_taken v_counted) H → va_D A (wdM cI cZ h v_all v_past v_states v_refused v_far v_row v_stepAt v_depth v_tries v_values v_wrong v_isEnd v_found v_reached v_stepIn v_laid v_firstRow v_text v_textLong v_spot v_taken v_counted) → va_S A s.heap H locs → lv_has ls 2 [(0, .ref (h 0))] → W p l e rm9_findsAll s m args below meth c H locs 0 0 Q (F0 m 46 ls []) := by
    intro n
    induction n with
    | zero =>
      intro v_far v_row v_stepAt v_depth v_tries v_values v_wrong v_isEnd v_found H locs ls hf
      cases (show (none : Option ((Nat → Int32) × (Nat → Int32) × (Nat → Int32) × Int32 × (Nat → Int32) × (Nat → Int32) × Int32 × (Nat → Int32) × (Nat → Int32))) = some (v_far', v_row', v_stepAt', v_depth', v_tries', v_values', v_wrong', v_isEnd', v_found') from hf)
    | succ n ih =>
      have J135 : ∀ (v_far : Nat → Int32) (v_row : Nat → Int32) (v_stepAt : Nat → Int32) (v_depth : Int32) (v_tries : Nat → Int32) (v_values : Nat → Int32) (v_wrong : Int32) (v_isEnd : Nat → Int32) (v_found : Nat → Int32) (x1 : Int32) (s1 : Int32) (s2 : Int32) (s3 : Int32) (H : Heap) (locs : List Loc) (ls : Array Slot), f9_findsAll_b135 (f9_findsAll_l46 n) v_all v_far v_row v_stepAt v_depth v_tries v_values v_wrong v_isEnd v_found x1 s1 s2 s3 = some (v_far', v_row', v_stepAt', v_depth', v_tries', v_values', v_wrong', v_isEnd', v_found') → va_P D vwCl (wdM cI cZ h v_all v_past v_states v_refused v_far v_row v_stepAt v_depth v_tries v_values v_wrong v_isEnd v_found v_reached v_stepIn v_laid v_firstRow v_text v_textLong v_spot v_taken v_counted) H → va_D A (wdM cI cZ h v_all v_past v_states v_refused v_far v_row v_stepAt v_depth v_tries v_values v_wrong v_isEnd v_found v_reached v_stepIn v_laid v_firstRow v_text v_textLong v_spot v_taken v_counted) → va_S A s.heap H locs → lv_has ls 2 [(0, .ref (h 0)), (1, .int x1)] → W p l e rm9_findsAll s m args below meth c H locs 0 0 Q (F0 m 135 ls [.int s3, .int s2, .int s1, .ref (h 10)]) := by
        intro v_far v_row v_stepAt v_depth v_tries v_values v_wrong v_isEnd v_found x1 s1 s2 s3 H locs ls hf hP hD hS hl
        rw [f9_findsAll_b135] at hf
        refine lv_iadd hx hb dX9_findsAll_135 ?_
        refine kb_bind hf (fun v16 hv16 hf => ?_)
        refine ka_iast (D := D) (cl := vwCl) hx hb hK hP hD hS 10 1 (f := v_found) (g := v16) rfl rfl (awr_in hv16) (awr_v hv16) dX9_findsAll_136 (fun H locs hP hD hS => ?_)
        have hP : va_P D vwCl (wdM cI cZ h v_all v_past v_states v_refused v_far v_row v_stepAt v_depth v_tries v_values v_wrong v_isEnd v16 v_reached v_stepIn v_laid v_firstRow v_text v_textLong v_spot v_taken v_counted) H := hP
        have hD : va_D A (wdM cI cZ h v_all v_past v_states v_refused v_far v_row v_stepAt v_depth v_tries v_values v_wrong v_isEnd v16 v_reached v_stepIn v_laid v_firstRow v_text v_textLong v_spot v_taken v_counted) := hD
        refine lv_aload_n hx hb dX9_findsAll_137 rfl (lv_at hl 0 rfl) ?_
        refine va_get (D := D) (cl := vwCl) (ci := 6) (v := .ref (h 9)) (C := RX9) (T := TX9) (N := 22) hx hb hts hin9 hown hK hP 0 rfl rfl 11 (by decide) (hts (.fieldLink RX9 34 "StepOrdersModel" "isEnd" "[Z") (by decide +kernel)) (fun _ h9 => h9) rfl dX9_findsAll_138 ?_
        refine lv_iload_n hx hb dX9_findsAll_141 rfl (lv_at hl 1 rfl) ?_
        refine lv_iconst (v := 1) hx hb dX9_findsAll_142 (by decide) ?_
        refine kb_bind hf (fun v17 hv17 hf => ?_)
        refine ka_zast (D := D) (cl := vwCl) hx hb hK hP hD hS 9 2 (f := v_isEnd) (g := v17) rfl rfl (awr_in hv17) (awr_v hv17) dX9_findsAll_143 (fun H locs hP hD hS => ?_)
        have hP : va_P D vwCl (wdM cI cZ h v_all v_past v_states v_refused v_far v_row v_stepAt v_depth v_tries v_values v_wrong v17 v16 v_reached v_stepIn v_laid v_firstRow v_text v_textLong v_spot v_taken v_counted) H := hP
        have hD : va_D A (wdM cI cZ h v_all v_past v_states v_refused v_far v_row v_stepAt v_depth v_tries v_values v_wrong v17 v16 v_reached v_stepIn v_laid v_firstRow v_text v_textLong v_spot v_taken v_counted) := hD
        refine lv_goto (tgt := 46) hx hb dX9_findsAll_144 (by decide) ?_
        exact ih v_far v_row v_stepAt v_depth v_tries v_values v_wrong v17 v16 _ _ _ hf hP hD hS (lv_sub hl [0] rfl)
      have J112 : ∀ (v_far : Nat → Int32) (v_row : Nat → Int32) (v_stepAt : Nat → Int32) (v_depth : Int32) (v_tries : Nat → Int32) (v_values : Nat → Int32) (v_wrong : Int32) (v_isEnd : Nat → Int32) (v_found : Nat → Int32) (x1 : Int32) (s1 : Int32) (s2 : Int32) (s3 : Int32) (H : Heap) (locs : List Loc) (ls : Array Slot), f9_findsAll_b112 (f9_findsAll_l46 n) v_all v_far v_row v_stepAt v_depth v_tries v_values v_wrong v_isEnd v_found x1 s1 s2 s3 = some (v_far', v_row', v_stepAt', v_depth', v_tries', v_values', v_wrong', v_isEnd', v_found') → va_P D vwCl (wdM cI cZ h v_all v_past v_states v_refused v_far v_row v_stepAt v_depth v_tries v_values v_wrong v_isEnd v_found v_reached v_stepIn v_laid v_firstRow v_text v_textLong v_spot v_taken v_counted) H → va_D A (wdM cI cZ h v_all v_past v_states v_refused v_far v_row v_stepAt v_depth v_tries v_values v_wrong v_isEnd v_found v_reached v_stepIn v_laid v_firstRow v_text v_textLong v_spot v_taken v_counted) → va_S A s.heap H locs → lv_has ls 2 [(0, .ref (h 0)), (1, .int x1)] → W p l e rm9_findsAll s m args below meth c H locs 0 0 Q (F0 m 112 ls [.int s3, .int s2, .int s1, .ref (h 10)]) := by
        intro v_far v_row v_stepAt v_depth v_tries v_values v_wrong v_isEnd v_found x1 s1 s2 s3 H locs ls hf hP hD hS hl
        rw [f9_findsAll_b112] at hf
        refine lv_iadd hx hb dX9_findsAll_112 ?_
        refine kb_bind hf (fun v18 hv18 hf => ?_)
        refine ka_iast (D := D) (cl := vwCl) hx hb hK hP hD hS 10 1 (f := v_found) (g := v18) rfl rfl (awr_in hv18) (awr_v hv18) dX9_findsAll_113 (fun H locs hP hD hS => ?_)
        have hP : va_P D vwCl (wdM cI cZ h v_all v_past v_states v_refused v_far v_row v_stepAt v_depth v_tries v_values v_wrong v_isEnd v18 v_reached v_stepIn v_laid v_firstRow v_text v_textLong v_spot v_taken v_counted) H := hP
        have hD : va_D A (wdM cI cZ h v_all v_past v_states v_refused v_far v_row v_stepAt v_depth v_tries v_values v_wrong v_isEnd v18 v_reached v_stepIn v_laid v_firstRow v_text v_textLong v_spot v_taken v_counted) := hD
        refine lv_aload_n hx hb dX9_findsAll_114 rfl (lv_at hl 0 rfl) ?_
        refine va_get (D := D) (cl := vwCl) (ci := 6) (v := .ref (h 10)) (C := RX9) (T := TX9) (N := 22) hx hb hts hin9 hown hK hP 0 rfl rfl 12 (by decide) (hts (.fieldLink RX9 38 "StepOrdersModel" "found" "[I") (by decide +kernel)) (fun _ h9 => h9) rfl dX9_findsAll_115 ?_
        refine lv_iconst (v := 3) hx hb dX9_findsAll_118 (by decide) ?_
        refine lv_dup2_11 hx hb dX9_findsAll_119 rfl rfl ?_
        refine ka_iald (D := D) (cl := vwCl) hx hb hK hP 10 1 (f := v18) rfl rfl (v := (v18 3)) (show ¬ (_ ∨ _) from by decide) rfl dX9_findsAll_120 ?_
        refine lv_aload_n hx hb dX9_findsAll_121 rfl (lv_at hl 0 rfl) ?_
        refine va_get (D := D) (cl := vwCl) (ci := 6) (v := .ref (h 9)) (C := RX9) (T := TX9) (N := 22) hx hb hts hin9 hown hK hP 0 rfl rfl 11 (by decide) (hts (.fieldLink RX9 34 "StepOrdersModel" "isEnd" "[Z") (by decide +kernel)) (fun _ h9 => h9) rfl dX9_findsAll_122 ?_
        refine lv_iload_n hx hb dX9_findsAll_125 rfl (lv_at hl 1 rfl) ?_
        refine kb_bind hf (fun v19 hv19 hf => ?_)
        refine ka_zald (D := D) (cl := vwCl) hx hb hK hP 9 2 (f := v_isEnd) rfl rfl (ard_in hv19) (ard_v hv19) dX9_findsAll_126 ?_
        refine lv_if_eq (tgt := 134) hx hb dX9_findsAll_127 (by decide) (fun c20 => ?_) (fun c20 => ?_)
        · rw [if_pos c20] at hf
          refine lv_iconst (v := 1) hx hb dX9_findsAll_134 (by decide) ?_
          exact J135 v_far v_row v_stepAt v_depth v_tries v_values v_wrong v_isEnd v18 x1 (3 : Int32) (v18 3) (1 : Int32) _ _ _ hf hP hD hS (lv_sub hl [0, 1] rfl)
        · rw [if_neg c20] at hf
          refine lv_iconst (v := 0) hx hb dX9_findsAll_130 (by decide) ?_
          refine lv_goto (tgt := 135) hx hb dX9_findsAll_131 (by decide) ?_
          exact J135 v_far v_row v_stepAt v_depth v_tries v_values v_wrong v_isEnd v18 x1 (3 : Int32) (v18 3) (0 : Int32) _ _ _ hf hP hD hS (lv_sub hl [0, 1] rfl)
      have J91 : ∀ (v_far : Nat → Int32) (v_row : Nat → Int32) (v_stepAt : Nat → Int32) (v_depth : Int32) (v_tries : Nat → Int32) (v_values : Nat → Int32) (v_wrong : Int32) (v_isEnd : Nat → Int32) (v_found : Nat → Int32) (x1 : Int32) (s1 : Int32) (s2 : Int32) (s3 : Int32) (H : Heap) (locs : List Loc) (ls : Array Slot), f9_findsAll_b91 (f9_findsAll_l46 n) v_all v_far v_row v_stepAt v_depth v_tries v_values v_wrong v_isEnd v_found x1 s1 s2 s3 = some (v_far', v_row', v_stepAt', v_depth', v_tries', v_values', v_wrong', v_isEnd', v_found') → va_P D vwCl (wdM cI cZ h v_all v_past v_states v_refused v_far v_row v_stepAt v_depth v_tries v_values v_wrong v_isEnd v_found v_reached v_stepIn v_laid v_firstRow v_text v_textLong v_spot v_taken v_counted) H → va_D A (wdM cI cZ h v_all v_past v_states v_refused v_far v_row v_stepAt v_depth v_tries v_values v_wrong v_isEnd v_found v_reached v_stepIn v_laid v_firstRow v_text v_textLong v_spot v_taken v_counted) → va_S A s.heap H locs → lv_has ls 2 [(0, .ref (h 0)), (1, .int x1)] → W p l e rm9_findsAll s m args below meth c H locs 0 0 Q (F0 m 91 ls [.int s3, .int s2, .int s1, .ref (h 10)]) := by
        intro v_far v_row v_stepAt v_depth v_tries v_values v_wrong v_isEnd v_found x1 s1 s2 s3 H locs ls hf hP hD hS hl
        rw [f9_findsAll_b91] at hf
        refine lv_iadd hx hb dX9_findsAll_91 ?_
        refine kb_bind hf (fun v21 hv21 hf => ?_)
        refine ka_iast (D := D) (cl := vwCl) hx hb hK hP hD hS 10 1 (f := v_found) (g := v21) rfl rfl (awr_in hv21) (awr_v hv21) dX9_findsAll_92 (fun H locs hP hD hS => ?_)
        have hP : va_P D vwCl (wdM cI cZ h v_all v_past v_states v_refused v_far v_row v_stepAt v_depth v_tries v_values v_wrong v_isEnd v21 v_reached v_stepIn v_laid v_firstRow v_text v_textLong v_spot v_taken v_counted) H := hP
        have hD : va_D A (wdM cI cZ h v_all v_past v_states v_refused v_far v_row v_stepAt v_depth v_tries v_values v_wrong v_isEnd v21 v_reached v_stepIn v_laid v_firstRow v_text v_textLong v_spot v_taken v_counted) := hD
        refine lv_aload_n hx hb dX9_findsAll_93 rfl (lv_at hl 0 rfl) ?_
        refine va_get (D := D) (cl := vwCl) (ci := 6) (v := .ref (h 10)) (C := RX9) (T := TX9) (N := 22) hx hb hts hin9 hown hK hP 0 rfl rfl 12 (by decide) (hts (.fieldLink RX9 38 "StepOrdersModel" "found" "[I") (by decide +kernel)) (fun _ h9 => h9) rfl dX9_findsAll_94 ?_
        refine lv_iconst (v := 2) hx hb dX9_findsAll_97 (by decide) ?_
        refine lv_dup2_11 hx hb dX9_findsAll_98 rfl rfl ?_
        refine ka_iald (D := D) (cl := vwCl) hx hb hK hP 10 1 (f := v21) rfl rfl (v := (v21 2)) (show ¬ (_ ∨ _) from by decide) rfl dX9_findsAll_99 ?_
        refine lv_aload_n hx hb dX9_findsAll_100 rfl (lv_at hl 0 rfl) ?_
        refine va_get (D := D) (cl := vwCl) (ci := 6) (v := .int v_wrong) (C := RX9) (T := TX9) (N := 22) hx hb hts hin9 hown hK hP 0 rfl rfl 10 (by decide) (hts (.fieldLink RX9 140 "StepOrdersModel" "wrong" "I") (by decide +kernel)) (fun _ h9 => h9) rfl dX9_findsAll_101 ?_
        refine lv_if_le (tgt := 111) hx hb dX9_findsAll_104 (by decide) (fun c22 => ?_) (fun c22 => ?_)
        · rw [if_pos c22] at hf
          refine lv_iconst (v := 0) hx hb dX9_findsAll_111 (by decide) ?_
          exact J112 v_far v_row v_stepAt v_depth v_tries v_values v_wrong v_isEnd v21 x1 (2 : Int32) (v21 2) (0 : Int32) _ _ _ hf hP hD hS (lv_sub hl [0, 1] rfl)
        · rw [if_neg c22] at hf
          refine lv_iconst (v := 1) hx hb dX9_findsAll_107 (by decide) ?_
          refine lv_goto (tgt := 112) hx hb dX9_findsAll_108 (by decide) ?_
          exact J112 v_far v_row v_stepAt v_depth v_tries v_values v_wrong v_isEnd v21 x1 (2 : Int32) (v21 2) (1 : Int32) _ _ _ hf hP hD hS (lv_sub hl [0, 1] rfl)
      intro v_far v_row v_stepAt v_depth v_tries v_values v_wrong v_isEnd v_found H locs ls hf hP hD hS hl
      rw [f9_findsAll_l46_s] at hf
      refine lv_aload_n hx hb dX9_findsAll_46 rfl (lv_at hl 0 rfl) ?_
      refine kb_bind hf (fun q23 hq23 hf => ?_)
      have hPc : va_P D vwCl (wdM cI cZ h v_all v_past v_states v_refused v_far v_row v_stepAt v_depth v_tries v_values v_wrong v_isEnd v_found v_reached v_stepIn v_laid v_firstRow v_text v_textLong v_spot v_taken v_counted) H := hP.sub [0, 1, 2, 3, 4, 5, 6, 7, 8, 9, 10, 11, 12, 13, 14, 15, 16] rfl
      have hDc : va_D A (wdM cI cZ h v_all v_past v_states v_refused v_far v_row v_stepAt v_depth v_tries v_values v_wrong v_isEnd v_found v_reached v_stepIn v_laid v_firstRow v_text v_textLong v_spot v_taken v_counted) := hD.sub [0, 1, 2, 3, 4, 5, 6, 7, 8, 9, 10, 11, 12, 13, 14, 15, 16] (by decide) rfl
      refine kd_iW (ws' := wdM cI cZ h v_all v_past v_states v_refused q23.2.1 q23.2.2.1 q23.2.2.2.1 q23.2.2.2.2.1 q23.2.2.2.2.2 v_values v_wrong v_isEnd v_found v_reached v_stepIn v_laid v_firstRow v_text v_textLong v_spot v_taken v_counted) (va_runV (As := []) (rest := []) ⟨hx, hb, hml, hown, hts⟩ (c9_goesOn l D cB cI cZ cO h H.size v_all v_past v_states v_refused v_far v_row v_stepAt v_depth v_tries v_values v_wrong v_isEnd v_found v_reached v_stepIn v_laid v_firstRow v_text v_textLong v_spot v_taken v_counted q23.1 q23.2.1 q23.2.2.1 q23.2.2.2.1 q23.2.2.2.2.1 q23.2.2.2.2.2 hq23) (cwV 0 hts gX9_findsAll_X9_goesOn rfl rfl rfl (by decide +kernel) ⟨Nat.le_of_ble_eq_true rfl, Nat.le_of_ble_eq_true rfl⟩) ⟨kb_blind, va_recv hK hPc (ci := 6) (q0 := 0) rfl rfl, kb_pre hPc hDc hK hN⟩ rfl rfl hl.1 rfl (lv_room (Nat.le_of_ble_eq_true rfl)) dX9_findsAll_47 ⟨Nat.le_refl _, Nat.le_refl _⟩) hP hD hS hA [0, 1, 2, 3, 4, 5, 6, 7, 8, 9, 10, 11, 12, 13, 14, 15, 16] [] rfl rfl (fun _ h9 => absurd h9 List.not_mem_nil) rfl rfl (fun H locs hn24 hP hD hS => ?_)
      refine lv_if_eq (tgt := 147) hx hb dX9_findsAll_50 (by decide) (fun c25 => ?_) (fun c25 => ?_)
      · rw [if_pos c25] at hf
        obtain ⟨z1, y1⟩ := Prod.mk.inj (Option.some.inj hf)
        obtain ⟨z2, y2⟩ := Prod.mk.inj y1
        obtain ⟨z3, y3⟩ := Prod.mk.inj y2
        obtain ⟨z4, y4⟩ := Prod.mk.inj y3
        obtain ⟨z5, y5⟩ := Prod.mk.inj y4
        obtain ⟨z6, y6⟩ := Prod.mk.inj y5
        obtain ⟨z7, y7⟩ := Prod.mk.inj y6
        obtain ⟨z8, y8⟩ := Prod.mk.inj y7
        subst z1 z2 z3 z4 z5 z6 z7 z8 y8
        exact hend _ _ _ _ hP hS dX9_findsAll_147
      · rw [if_neg c25] at hf
        refine lv_aload_n hx hb dX9_findsAll_53 rfl (lv_at hl 0 rfl) ?_
        refine kb_bind hf (fun q26 hq26 hf => ?_)
        have hPc : va_P D vwCl (wdM cI cZ h v_all v_past v_states v_refused q23.2.1 q23.2.2.1 q23.2.2.2.1 q23.2.2.2.2.1 q23.2.2.2.2.2 v_values v_wrong v_isEnd v_found v_reached v_stepIn v_laid v_firstRow v_text v_textLong v_spot v_taken v_counted) H := hP.sub [0, 1, 2, 3, 4, 5, 6, 7, 8, 9, 10, 11, 12, 13, 14, 15, 16] rfl
        have hDc : va_D A (wdM cI cZ h v_all v_past v_states v_refused q23.2.1 q23.2.2.1 q23.2.2.2.1 q23.2.2.2.2.1 q23.2.2.2.2.2 v_values v_wrong v_isEnd v_found v_reached v_stepIn v_laid v_firstRow v_text v_textLong v_spot v_taken v_counted) := hD.sub [0, 1, 2, 3, 4, 5, 6, 7, 8, 9, 10, 11, 12, 13, 14, 15, 16] (by decide) rfl
        refine kd_iW (ws' := wdM cI cZ h v_all v_past v_states v_refused q23.2.1 q23.2.2.1 q23.2.2.2.1 q23.2.2.2.2.1 q23.2.2.2.2.2 q26.2.1 q26.2.2 v_isEnd v_found v_reached v_stepIn v_laid v_firstRow v_text v_textLong v_spot v_taken v_counted) (va_runV (As := []) (rest := []) ⟨hx, hb, hml, hown, hts⟩ (c9_endOf l D cB cI cZ cO h H.size v_all v_past v_states v_refused q23.2.1 q23.2.2.1 q23.2.2.2.1 q23.2.2.2.2.1 q23.2.2.2.2.2 v_values v_wrong v_isEnd v_found v_reached v_stepIn v_laid v_firstRow v_text v_textLong v_spot v_taken v_counted q26.1 q26.2.1 q26.2.2 hq26) (cwV 0 hts gX9_findsAll_X9_endOf rfl rfl rfl (by decide +kernel) ⟨Nat.le_of_ble_eq_true rfl, Nat.le_of_ble_eq_true rfl⟩) ⟨kb_blind, va_recv hK hPc (ci := 6) (q0 := 0) rfl rfl, kb_pre hPc hDc hK hN⟩ rfl rfl hl.1 rfl (lv_room (Nat.le_of_ble_eq_true rfl)) dX9_findsAll_54 ⟨Nat.le_refl _, Nat.le_refl _⟩) hP hD hS hA [0, 1, 2, 3, 4, 5, 6, 7, 8, 9, 10, 11, 12, 13, 14, 15, 16] [] rfl rfl (fun _ h9 => absurd h9 List.not_mem_nil) rfl rfl (fun H locs hn27 hP hD hS => ?_)
        refine lv_istore_n (lv' := [(1, .int q26.1), (0, .ref (h 0))]) hx hb dX9_findsAll_57 rfl hl (by decide) rfl (fun ls hl => ?_)
        refine lv_aload_n hx hb dX9_findsAll_58 rfl (lv_at hl 1 rfl) ?_
        refine va_get (D := D) (cl := vwCl) (ci := 6) (v := .ref (h 10)) (C := RX9) (T := TX9) (N := 22) hx hb hts hin9 hown hK hP 0 rfl rfl 12 (by decide) (hts (.fieldLink RX9 38 "StepOrdersModel" "found" "[I") (by decide +kernel)) (fun _ h9 => h9) rfl dX9_findsAll_59 ?_
        refine lv_iconst (v := 0) hx hb dX9_findsAll_62 (by decide) ?_
        refine lv_dup2_11 hx hb dX9_findsAll_63 rfl rfl ?_
        refine ka_iald (D := D) (cl := vwCl) hx hb hK hP 10 1 (f := v_found) rfl rfl (v := (v_found 0)) (show ¬ (_ ∨ _) from by decide) rfl dX9_findsAll_64 ?_
        refine lv_iconst (v := 1) hx hb dX9_findsAll_65 (by decide) ?_
        refine lv_iadd hx hb dX9_findsAll_66 ?_
        refine ka_iast (D := D) (cl := vwCl) hx hb hK hP hD hS 10 1 (f := v_found) (g := (upd v_found 0 ((v_found 0) + (1 : Int32)))) rfl rfl (show ¬ (_ ∨ _) from by decide) rfl dX9_findsAll_67 (fun H locs hP hD hS => ?_)
        have hP : va_P D vwCl (wdM cI cZ h v_all v_past v_states v_refused q23.2.1 q23.2.2.1 q23.2.2.2.1 q23.2.2.2.2.1 q23.2.2.2.2.2 q26.2.1 q26.2.2 v_isEnd (upd v_found 0 ((v_found 0) + (1 : Int32))) v_reached v_stepIn v_laid v_firstRow v_text v_textLong v_spot v_taken v_counted) H := hP
        have hD : va_D A (wdM cI cZ h v_all v_past v_states v_refused q23.2.1 q23.2.2.1 q23.2.2.2.1 q23.2.2.2.2.1 q23.2.2.2.2.2 q26.2.1 q26.2.2 v_isEnd (upd v_found 0 ((v_found 0) + (1 : Int32))) v_reached v_stepIn v_laid v_firstRow v_text v_textLong v_spot v_taken v_counted) := hD
        refine lv_aload_n hx hb dX9_findsAll_68 rfl (lv_at hl 1 rfl) ?_
        refine va_get (D := D) (cl := vwCl) (ci := 6) (v := .ref (h 10)) (C := RX9) (T := TX9) (N := 22) hx hb hts hin9 hown hK hP 0 rfl rfl 12 (by decide) (hts (.fieldLink RX9 38 "StepOrdersModel" "found" "[I") (by decide +kernel)) (fun _ h9 => h9) rfl dX9_findsAll_69 ?_
        refine lv_iconst (v := 1) hx hb dX9_findsAll_72 (by decide) ?_
        refine lv_dup2_11 hx hb dX9_findsAll_73 rfl rfl ?_
        refine ka_iald (D := D) (cl := vwCl) hx hb hK hP 10 1 (f := (upd v_found 0 ((v_found 0) + (1 : Int32)))) rfl rfl (v := ((upd v_found 0 ((v_found 0) + (1 : Int32))) 1)) (show ¬ (_ ∨ _) from by decide) rfl dX9_findsAll_74 ?_
        refine lv_aload_n hx hb dX9_findsAll_75 rfl (lv_at hl 1 rfl) ?_
        refine va_get (D := D) (cl := vwCl) (ci := 6) (v := .int q23.2.2.2.2.1) (C := RX9) (T := TX9) (N := 22) hx hb hts hin9 hown hK hP 0 rfl rfl 7 (by decide) (hts (.fieldLink RX9 130 "StepOrdersModel" "depth" "I") (by decide +kernel)) (fun _ h9 => h9) rfl dX9_findsAll_76 ?_
        refine lv_aload_n hx hb dX9_findsAll_79 rfl (lv_at hl 1 rfl) ?_
        refine kb_bind hf (fun q28 hq28 hf => ?_)
        have hPc : va_P D vwCl (wdM cI cZ h v_all v_past v_states v_refused q23.2.1 q23.2.2.1 q23.2.2.2.1 q23.2.2.2.2.1 q23.2.2.2.2.2 q26.2.1 q26.2.2 v_isEnd (upd v_found 0 ((v_found 0) + (1 : Int32))) v_reached v_stepIn v_laid v_firstRow v_text v_textLong v_spot v_taken v_counted) H := hP.sub [0, 1, 2, 3, 4, 5, 6, 7, 8, 9, 10, 11, 12, 13, 14, 15, 16] rfl
        have hDc : va_D A (wdM cI cZ h v_all v_past v_states v_refused q23.2.1 q23.2.2.1 q23.2.2.2.1 q23.2.2.2.2.1 q23.2.2.2.2.2 q26.2.1 q26.2.2 v_isEnd (upd v_found 0 ((v_found 0) + (1 : Int32))) v_reached v_stepIn v_laid v_firstRow v_text v_textLong v_spot v_taken v_counted) := hD.sub [0, 1, 2, 3, 4, 5, 6, 7, 8, 9, 10, 11, 12, 13, 14, 15, 16] (by decide) rfl
        refine kd_iR (va_runV (As := []) (rest := [.int q23.2.2.2.2.1, .int ((upd v_found 0 ((v_found 0) + (1 : Int32))) 1), .int (1 : Int32), .ref (h 10)]) ⟨hx, hb, hml, hown, hts⟩ (c9_allSteps l D cB cI cZ cO h H.size v_all v_past v_states v_refused q23.2.1 q23.2.2.1 q23.2.2.2.1 q23.2.2.2.2.1 q23.2.2.2.2.2 q26.2.1 q26.2.2 v_isEnd (upd v_found 0 ((v_found 0) + (1 : Int32))) v_reached v_stepIn v_laid v_firstRow v_text v_textLong v_spot v_taken v_counted q28 hq28) (cwV 0 hts gX9_findsAll_X9_allSteps rfl rfl rfl (by decide +kernel) ⟨Nat.le_of_ble_eq_true rfl, Nat.le_of_ble_eq_true rfl⟩) ⟨kb_blind, va_recv hK hPc (ci := 6) (q0 := 0) rfl rfl, kb_pre hPc hDc hK hN⟩ rfl rfl hl.1 rfl (lv_room (Nat.le_of_ble_eq_true rfl)) dX9_findsAll_80 ⟨Nat.le_refl _, Nat.le_refl _⟩) hP hD hS hA [0, 1, 2, 3, 4, 5, 6, 7, 8, 9, 10, 11, 12, 13, 14, 15, 16] rfl (fun H locs hn29 hP hS => ?_)
        refine lv_icmp_ge (tgt := 90) hx hb dX9_findsAll_83 (by decide) (fun c30 => ?_) (fun c30 => ?_)
        · rw [if_pos c30] at hf
          refine lv_iconst (v := 0) hx hb dX9_findsAll_90 (by decide) ?_
          exact J91 q23.2.1 q23.2.2.1 q23.2.2.2.1 q23.2.2.2.2.1 q23.2.2.2.2.2 q26.2.1 q26.2.2 v_isEnd (upd v_found 0 ((v_found 0) + (1 : Int32))) q26.1 (1 : Int32) ((upd v_found 0 ((v_found 0) + (1 : Int32))) 1) (0 : Int32) _ _ _ hf hP hD hS (lv_sub hl [1, 0] rfl)
        · rw [if_neg c30] at hf
          refine lv_iconst (v := 1) hx hb dX9_findsAll_86 (by decide) ?_
          refine lv_goto (tgt := 91) hx hb dX9_findsAll_87 (by decide) ?_
          exact J91 q23.2.1 q23.2.2.1 q23.2.2.2.1 q23.2.2.2.2.1 q23.2.2.2.2.2 q26.2.1 q26.2.2 v_isEnd (upd v_found 0 ((v_found 0) + (1 : Int32))) q26.1 (1 : Int32) ((upd v_found 0 ((v_found 0) + (1 : Int32))) 1) (1 : Int32) _ _ _ hf hP hD hS (lv_sub hl [1, 0] rfl)
  have J42 : ∀ (v_far : Nat → Int32) (v_row : Nat → Int32) (v_stepAt : Nat → Int32) (v_depth : Int32) (v_tries : Nat → Int32) (v_values : Nat → Int32) (v_wrong : Int32) (v_isEnd : Nat → Int32) (v_found : Nat → Int32) (H : Heap) (locs : List Loc) (ls : Array Slot), f9_findsAll_b42 v_all v_far v_row v_stepAt v_depth v_tries v_values v_wrong v_isEnd v_found = some (v_far', v_row', v_stepAt', v_depth', v_tries', v_values', v_wrong', v_isEnd', v_found') → va_P D vwCl (wdM cI cZ h v_all v_past v_states v_refused v_far v_row v_stepAt v_depth v_tries v_values v_wrong v_isEnd v_found v_reached v_stepIn v_laid v_firstRow v_text v_textLong v_spot v_taken v_counted) H → va_D A (wdM cI cZ h v_all v_past v_states v_refused v_far v_row v_stepAt v_depth v_tries v_values v_wrong v_isEnd v_found v_reached v_stepIn v_laid v_firstRow v_text v_textLong v_spot v_taken v_counted) → va_S A s.heap H locs → lv_has ls 2 [(0, .ref (h 0))] → W p l e rm9_findsAll s m args below meth c H locs 0 0 Q (F0 m 42 ls []) := by
    intro v_far v_row v_stepAt v_depth v_tries v_values v_wrong v_isEnd v_found H locs ls hf hP hD hS hl
    rw [f9_findsAll_b42] at hf
    refine lv_aload_n hx hb dX9_findsAll_42 rfl (lv_at hl 0 rfl) ?_
    refine kb_bind hf (fun q32 hq32 hf => ?_)
    have hPc : va_P D vwCl (wdM cI cZ h v_all v_past v_states v_refused v_far v_row v_stepAt v_depth v_tries v_values v_wrong v_isEnd v_found v_reached v_stepIn v_laid v_firstRow v_text v_textLong v_spot v_taken v_counted) H := hP.sub [0, 1, 2, 3, 4, 5, 6, 7, 8, 9, 10, 11, 12, 13, 14, 15, 16] rfl
    have hDc : va_D A (wdM cI cZ h v_all v_past v_states v_refused v_far v_row v_stepAt v_depth v_tries v_values v_wrong v_isEnd v_found v_reached v_stepIn v_laid v_firstRow v_text v_textLong v_spot v_taken v_counted) := hD.sub [0, 1, 2, 3, 4, 5, 6, 7, 8, 9, 10, 11, 12, 13, 14, 15, 16] (by decide) rfl
    refine kd_vW (ws' := wdM cI cZ h v_all v_past v_states v_refused q32.1 v_row v_stepAt q32.2.1 q32.2.2 v_values v_wrong v_isEnd v_found v_reached v_stepIn v_laid v_firstRow v_text v_textLong v_spot v_taken v_counted) (va_runV (As := []) (rest := []) ⟨hx, hb, hml, hown, hts⟩ (c9_starts l D cB cI cZ cO h H.size v_all v_past v_states v_refused v_far v_row v_stepAt v_depth v_tries v_values v_wrong v_isEnd v_found v_reached v_stepIn v_laid v_firstRow v_text v_textLong v_spot v_taken v_counted q32.1 q32.2.1 q32.2.2 hq32) (cwV 0 hts gX9_findsAll_X9_starts rfl rfl rfl (by decide +kernel) ⟨Nat.le_of_ble_eq_true rfl, Nat.le_of_ble_eq_true rfl⟩) ⟨kb_blind, va_recv hK hPc (ci := 6) (q0 := 0) rfl rfl, kb_pre hPc hDc hK hN⟩ rfl rfl hl.1 rfl (lv_room (Nat.le_of_ble_eq_true rfl)) dX9_findsAll_43 ⟨Nat.le_refl _, Nat.le_refl _⟩) hP hD hS hA [0, 1, 2, 3, 4, 5, 6, 7, 8, 9, 10, 11, 12, 13, 14, 15, 16] [] rfl rfl (fun _ h9 => absurd h9 List.not_mem_nil) rfl rfl (fun H locs hP hD hS => ?_)
    exact J46 kFUEL q32.1 v_row v_stepAt q32.2.1 q32.2.2 v_values v_wrong v_isEnd v_found _ _ _ hf hP hD hS (lv_sub hl [0] rfl)
  have J24 : ∀ (n : Nat) (v_far : Nat → Int32) (v_row : Nat → Int32) (v_stepAt : Nat → Int32) (v_depth : Int32) (v_tries : Nat → Int32) (v_values : Nat → Int32) (v_wrong : Int32) (v_isEnd : Nat → Int32) (v_found : Nat → Int32) (x1 : Int32) (H : Heap) (locs : List Loc) (ls : Array Slot), f9_findsAll_l24 n v_all v_far v_row v_stepAt v_depth v_tries v_values v_wrong v_isEnd v_found x1 = some (v_far', v_row', v_stepAt', v_depth', v_tries', v_values', v_wrong', v_isEnd', v_found') → va_P D vwCl (wdM cI cZ h v_all v_past v_states v_refused v_far v_row v_stepAt v_depth v_tries v_values v_wrong v_isEnd v_found v_reached v_stepIn v_laid v_firstRow v_text v_textLong v_spot v_taken v_counted) H → va_D A (wdM cI cZ h v_all v_past v_states v_refused v_far v_row v_stepAt v_depth v_tries v_values v_wrong v_isEnd v_found v_reached v_stepIn v_laid v_firstRow v_text v_textLong v_spot v_taken v_counted) → va_S A s.heap H locs → lv_has ls 2 [(0, .ref (h 0)), (1, .int x1)] → W p l e rm9_findsAll s m args below meth c H locs 0 0 Q (F0 m 24 ls []) := by
    intro n
    induction n with
    | zero =>
      intro v_far v_row v_stepAt v_depth v_tries v_values v_wrong v_isEnd v_found x1 H locs ls hf
      cases (show (none : Option ((Nat → Int32) × (Nat → Int32) × (Nat → Int32) × Int32 × (Nat → Int32) × (Nat → Int32) × Int32 × (Nat → Int32) × (Nat → Int32))) = some (v_far', v_row', v_stepAt', v_depth', v_tries', v_values', v_wrong', v_isEnd', v_found') from hf)
    | succ n ih =>
      intro v_far v_row v_stepAt v_depth v_tries v_values v_wrong v_isEnd v_found x1 H locs ls hf hP hD hS hl
      rw [f9_findsAll_l24_s] at hf
      refine lv_iload_n hx hb dX9_findsAll_24 rfl (lv_at hl 1 rfl) ?_
      refine lv_iconst (v := 4) hx hb dX9_findsAll_25 (by decide) ?_
      refine lv_icmp_ge (tgt := 42) hx hb dX9_findsAll_26 (by decide) (fun c35 => ?_) (fun c35 => ?_)
      · rw [if_pos c35] at hf
        exact J42 v_far v_row v_stepAt v_depth v_tries v_values v_wrong v_isEnd v_found _ _ _ hf hP hD hS (lv_sub hl [0] rfl)
      · rw [if_neg c35] at hf
        refine lv_aload_n hx hb dX9_findsAll_29 rfl (lv_at hl 0 rfl) ?_
        refine va_get (D := D) (cl := vwCl) (ci := 6) (v := .ref (h 10)) (C := RX9) (T := TX9) (N := 22) hx hb hts hin9 hown hK hP 0 rfl rfl 12 (by decide) (hts (.fieldLink RX9 38 "StepOrdersModel" "found" "[I") (by decide +kernel)) (fun _ h9 => h9) rfl dX9_findsAll_30 ?_
        refine lv_iload_n hx hb dX9_findsAll_33 rfl (lv_at hl 1 rfl) ?_
        refine lv_iconst (v := 0) hx hb dX9_findsAll_34 (by decide) ?_
        refine kb_bind hf (fun v36 hv36 hf => ?_)
        refine ka_iast (D := D) (cl := vwCl) hx hb hK hP hD hS 10 1 (f := v_found) (g := v36) rfl rfl (awr_in hv36) (awr_v hv36) dX9_findsAll_35 (fun H locs hP hD hS => ?_)
        have hP : va_P D vwCl (wdM cI cZ h v_all v_past v_states v_refused v_far v_row v_stepAt v_depth v_tries v_values v_wrong v_isEnd v36 v_reached v_stepIn v_laid v_firstRow v_text v_textLong v_spot v_taken v_counted) H := hP
        have hD : va_D A (wdM cI cZ h v_all v_past v_states v_refused v_far v_row v_stepAt v_depth v_tries v_values v_wrong v_isEnd v36 v_reached v_stepIn v_laid v_firstRow v_text v_textLong v_spot v_taken v_counted) := hD
        refine lv_iinc (v := (x1 + 1)) (lv' := [(1, .int (x1 + 1)), (0, .ref (h 0))]) hx hb dX9_findsAll_36 hl (k := 1) rfl rfl (by decide) rfl (fun ls hl => ?_)
        refine lv_goto (tgt := 24) hx hb dX9_findsAll_39 (by decide) ?_
        exact ih v_far v_row v_stepAt v_depth v_tries v_values v_wrong v_isEnd v36 (x1 + 1) _ _ _ hf hP hD hS (lv_sub hl [1, 0] rfl)
  have J22 : ∀ (v_far : Nat → Int32) (v_row : Nat → Int32) (v_stepAt : Nat → Int32) (v_depth : Int32) (v_tries : Nat → Int32) (v_values : Nat → Int32) (v_wrong : Int32) (v_isEnd : Nat → Int32) (v_found : Nat → Int32) (H : Heap) (locs : List Loc) (ls : Array Slot), f9_findsAll_b22 v_all v_far v_row v_stepAt v_depth v_tries v_values v_wrong v_isEnd v_found = some (v_far', v_row', v_stepAt', v_depth', v_tries', v_values', v_wrong', v_isEnd', v_found') → va_P D vwCl (wdM cI cZ h v_all v_past v_states v_refused v_far v_row v_stepAt v_depth v_tries v_values v_wrong v_isEnd v_found v_reached v_stepIn v_laid v_firstRow v_text v_textLong v_spot v_taken v_counted) H → va_D A (wdM cI cZ h v_all v_past v_states v_refused v_far v_row v_stepAt v_depth v_tries v_values v_wrong v_isEnd v_found v_reached v_stepIn v_laid v_firstRow v_text v_textLong v_spot v_taken v_counted) → va_S A s.heap H locs → lv_has ls 2 [(0, .ref (h 0))] → W p l e rm9_findsAll s m args below meth c H locs 0 0 Q (F0 m 22 ls []) := by
    intro v_far v_row v_stepAt v_depth v_tries v_values v_wrong v_isEnd v_found H locs ls hf hP hD hS hl
    rw [f9_findsAll_b22] at hf
    refine lv_iconst (v := 0) hx hb dX9_findsAll_22 (by decide) ?_
    refine lv_istore_n (lv' := [(1, .int (0 : Int32)), (0, .ref (h 0))]) hx hb dX9_findsAll_23 rfl hl (by decide) rfl (fun ls hl => ?_)
    exact J24 kFUEL v_far v_row v_stepAt v_depth v_tries v_values v_wrong v_isEnd v_found (0 : Int32) _ _ _ hf hP hD hS (lv_sub hl [1, 0] rfl)
  have J2 : ∀ (n : Nat) (v_far : Nat → Int32) (v_row : Nat → Int32) (v_stepAt : Nat → Int32) (v_depth : Int32) (v_tries : Nat → Int32) (v_values : Nat → Int32) (v_wrong : Int32) (v_isEnd : Nat → Int32) (v_found : Nat → Int32) (x1 : Int32) (H : Heap) (locs : List Loc) (ls : Array Slot), f9_findsAll_l2 n v_all v_far v_row v_stepAt v_depth v_tries v_values v_wrong v_isEnd v_found x1 = some (v_far', v_row', v_stepAt', v_depth', v_tries', v_values', v_wrong', v_isEnd', v_found') → va_P D vwCl (wdM cI cZ h v_all v_past v_states v_refused v_far v_row v_stepAt v_depth v_tries v_values v_wrong v_isEnd v_found v_reached v_stepIn v_laid v_firstRow v_text v_textLong v_spot v_taken v_counted) H → va_D A (wdM cI cZ h v_all v_past v_states v_refused v_far v_row v_stepAt v_depth v_tries v_values v_wrong v_isEnd v_found v_reached v_stepIn v_laid v_firstRow v_text v_textLong v_spot v_taken v_counted) → va_S A s.heap H locs → lv_has ls 2 [(0, .ref (h 0)), (1, .int x1)] → W p l e rm9_findsAll s m args below meth c H locs 0 0 Q (F0 m 2 ls []) := by
    intro n
    induction n with
    | zero =>
      intro v_far v_row v_stepAt v_depth v_tries v_values v_wrong v_isEnd v_found x1 H locs ls hf
      cases (show (none : Option ((Nat → Int32) × (Nat → Int32) × (Nat → Int32) × Int32 × (Nat → Int32) × (Nat → Int32) × Int32 × (Nat → Int32) × (Nat → Int32))) = some (v_far', v_row', v_stepAt', v_depth', v_tries', v_values', v_wrong', v_isEnd', v_found') from hf)
    | succ n ih =>
      intro v_far v_row v_stepAt v_depth v_tries v_values v_wrong v_isEnd v_found x1 H locs ls hf hP hD hS hl
      rw [f9_findsAll_l2_s] at hf
      refine lv_iload_n hx hb dX9_findsAll_2 rfl (lv_at hl 1 rfl) ?_
      refine lv_sipush (v := 10000) hx hb dX9_findsAll_3 (by decide) ?_
      refine lv_icmp_ge (tgt := 22) hx hb dX9_findsAll_6 (by decide) (fun c39 => ?_) (fun c39 => ?_)
      · rw [if_pos c39] at hf
        exact J22 v_far v_row v_stepAt v_depth v_tries v_values v_wrong v_isEnd v_found _ _ _ hf hP hD hS (lv_sub hl [0] rfl)
      · rw [if_neg c39] at hf
        refine lv_aload_n hx hb dX9_findsAll_9 rfl (lv_at hl 0 rfl) ?_
        refine va_get (D := D) (cl := vwCl) (ci := 6) (v := .ref (h 9)) (C := RX9) (T := TX9) (N := 22) hx hb hts hin9 hown hK hP 0 rfl rfl 11 (by decide) (hts (.fieldLink RX9 34 "StepOrdersModel" "isEnd" "[Z") (by decide +kernel)) (fun _ h9 => h9) rfl dX9_findsAll_10 ?_
        refine lv_iload_n hx hb dX9_findsAll_13 rfl (lv_at hl 1 rfl) ?_
        refine lv_iconst (v := 0) hx hb dX9_findsAll_14 (by decide) ?_
        refine kb_bind hf (fun v40 hv40 hf => ?_)
        refine ka_zast (D := D) (cl := vwCl) hx hb hK hP hD hS 9 2 (f := v_isEnd) (g := v40) rfl rfl (awr_in hv40) (awr_v hv40) dX9_findsAll_15 (fun H locs hP hD hS => ?_)
        have hP : va_P D vwCl (wdM cI cZ h v_all v_past v_states v_refused v_far v_row v_stepAt v_depth v_tries v_values v_wrong v40 v_found v_reached v_stepIn v_laid v_firstRow v_text v_textLong v_spot v_taken v_counted) H := hP
        have hD : va_D A (wdM cI cZ h v_all v_past v_states v_refused v_far v_row v_stepAt v_depth v_tries v_values v_wrong v40 v_found v_reached v_stepIn v_laid v_firstRow v_text v_textLong v_spot v_taken v_counted) := hD
        refine lv_iinc (v := (x1 + 1)) (lv' := [(1, .int (x1 + 1)), (0, .ref (h 0))]) hx hb dX9_findsAll_16 hl (k := 1) rfl rfl (by decide) rfl (fun ls hl => ?_)
        refine lv_goto (tgt := 2) hx hb dX9_findsAll_19 (by decide) ?_
        exact ih v_far v_row v_stepAt v_depth v_tries v_values v_wrong v40 v_found (x1 + 1) _ _ _ hf hP hD hS (lv_sub hl [1, 0] rfl)
  rw [f9_findsAll] at hf
  refine lv_iconst (v := 0) hx hb dX9_findsAll_0 (by decide) ?_
  refine lv_istore_n (lv' := [(1, .int (0 : Int32)), (0, .ref (h 0))]) hx hb dX9_findsAll_1 rfl hl (by decide) rfl (fun ls hl => ?_)
  exact J2 kFUEL v_far v_row v_stepAt v_depth v_tries v_values v_wrong v_isEnd v_found (0 : Int32) _ _ _ hf hP hD hS (lv_sub hl [1, 0] rfl)

set_option maxHeartbeats 4000000 in
set_option maxRecDepth 100000 in
theorem c9_orders (l : Launch) (D : va_G) (cB cI cZ cO : ClassId) (h : Nat → Nat) (sz : Nat) (x1 : Int32) (v_all : Nat → Int32) (v_past : Nat → Int32) (v_states : Int32) (v_refused : Nat → Int32) (v_far : Nat → Int32) (v_row : Nat → Int32) (v_stepAt : Nat → Int32) (v_depth : Int32) (v_tries : Nat → Int32) (v_values : Nat → Int32) (v_wrong : Int32) (v_isEnd : Nat → Int32) (v_found : Nat → Int32) (v_reached : Nat → Int32) (v_stepIn : Nat → Int32) (v_laid : Nat → Int32) (v_firstRow : Nat → Int32) (v_text : Nat → Int32) (v_textLong : Int32) (v_spot : Int32) (v_taken : Int32) (v_counted : Nat → Int32) (r0 : Int32) (v_refused' : Nat → Int32) (v_far' : Nat → Int32) (v_row' : Nat → Int32) (v_stepAt' : Nat → Int32) (v_depth' : Int32) (v_tries' : Nat → Int32) (v_values' : Nat → Int32) (v_wrong' : Int32) (v_isEnd' : Nat → Int32) (v_found' : Nat → Int32) (hf : f9_orders v_all v_refused v_far v_row v_stepAt v_depth v_tries v_values v_wrong v_isEnd v_found x1 = some (r0, v_refused', v_far', v_row', v_stepAt', v_depth', v_tries', v_values', v_wrong', v_isEnd', v_found')) : Met l yX9_orders wsX9_orders rm9_orders (va_Pc [.ref (h 0), .int x1] (kb_B D (ka_tys cB cI cZ cO) sz (wdM cI cZ h v_all v_past v_states v_refused v_far v_row v_stepAt v_depth v_tries v_values v_wrong v_isEnd v_found v_reached v_stepIn v_laid v_firstRow v_text v_textLong v_spot v_taken v_counted))) (va_Qi (kb_post .int r0) (fun _ t => va_P D vwCl (wdM cI cZ h v_all v_past v_states (v_refused') (v_far') (v_row') (v_stepAt') (v_depth') (v_tries') (v_values') (v_wrong') (v_isEnd') (v_found') v_reached v_stepIn v_laid v_firstRow v_text v_textLong v_spot v_taken v_counted) t.heap) (va_A (wdM cI cZ h v_all v_past v_states v_refused v_far v_row v_stepAt v_depth v_tries v_values v_wrong v_isEnd v_found v_reached v_stepIn v_laid v_firstRow v_text v_textLong v_spot v_taken v_counted) sz)) 0 0 (va_A (wdM cI cZ h v_all v_past v_states v_refused v_far v_row v_stepAt v_depth v_tries v_values v_wrong v_isEnd v_found v_reached v_stepIn v_laid v_firstRow v_text v_textLong v_spot v_taken v_counted) sz) := by
  refine kb_metZ (cc := cX9_orders) (maxL := 2) (ty := .int) (by decide) rfl (Nat.le_of_ble_eq_true rfl) ?_
  intro p e s m args below meth c Q A ls H hx hb hml hown hts hK hN hP hD hS hA hl hend
  have hown : s.vm.findClass RX9 = some m.cls := hown
  have hl : lv_has ls 2 [(0, .ref (h 0)), (1, .int x1)] := hl
  have hin9 : ∀ w ∈ u_ws RX9 TX9 22, w ∈ wsX9_orders := by decide +kernel
  rw [f9_orders] at hf
  refine lv_iload_n hx hb dX9_orders_0 rfl (lv_at hl 1 rfl) ?_
  refine lv_i2l (v := x1.toInt64) hx hb dX9_orders_1 rfl ?_
  refine lv_lconst (v := 0) hx hb dX9_orders_2 (by decide) ?_
  refine lv_ldc2 (v := 3) hx hb hown (hts (.constantLong RX9 69 (3)) (by decide +kernel)) dX9_orders_3 ?_
  have hPc : va_P D vwCl ([]) H := hP.sub [] rfl
  have hDc : va_D A ([]) := hD.sub [] (by decide) rfl
  refine kd_iR (va_runS (As := [.long x1.toInt64, .long (0 : Int64), .long (3 : Int64)]) (rest := []) ⟨hx, hb, hml, hown, hts⟩ (c9_in l D cB cI cZ cO h H.size x1.toInt64 (0 : Int64) (3 : Int64) (f9_in x1.toInt64 (0 : Int64) (3 : Int64)) rfl) (va_cwS 3 hts gX9_orders_X9_in rfl rfl rfl (by decide +kernel) ⟨Nat.le_of_ble_eq_true rfl, Nat.le_of_ble_eq_true rfl⟩) ⟨kb_blind, kb_pre hPc hDc hK hN⟩ rfl rfl hl.1 rfl (lv_room (Nat.le_of_ble_eq_true rfl)) dX9_orders_6 ⟨Nat.le_refl _, Nat.le_refl _⟩) hP hD hS hA [] rfl (fun H locs hn1 hP hS => ?_)
  refine lv_if_ne (tgt := 19) hx hb dX9_orders_9 (by decide) (fun c2 => ?_) (fun c2 => ?_)
  · rw [if_neg c2] at hf
    refine lv_aload_n hx hb dX9_orders_19 rfl (lv_at hl 0 rfl) ?_
    refine kb_bind hf (fun q3 hq3 hf => ?_)
    have hPc : va_P D vwCl (wdM cI cZ h v_all v_past v_states v_refused v_far v_row v_stepAt v_depth v_tries v_values v_wrong v_isEnd v_found v_reached v_stepIn v_laid v_firstRow v_text v_textLong v_spot v_taken v_counted) H := hP.sub [0, 1, 2, 3, 4, 5, 6, 7, 8, 9, 10, 11, 12, 13, 14, 15, 16] rfl
    have hDc : va_D A (wdM cI cZ h v_all v_past v_states v_refused v_far v_row v_stepAt v_depth v_tries v_values v_wrong v_isEnd v_found v_reached v_stepIn v_laid v_firstRow v_text v_textLong v_spot v_taken v_counted) := hD.sub [0, 1, 2, 3, 4, 5, 6, 7, 8, 9, 10, 11, 12, 13, 14, 15, 16] (by decide) rfl
    refine kd_vW (ws' := wdM cI cZ h v_all v_past v_states v_refused q3.1 q3.2.1 q3.2.2.1 q3.2.2.2.1 q3.2.2.2.2.1 q3.2.2.2.2.2.1 q3.2.2.2.2.2.2.1 q3.2.2.2.2.2.2.2.1 q3.2.2.2.2.2.2.2.2 v_reached v_stepIn v_laid v_firstRow v_text v_textLong v_spot v_taken v_counted) (va_runV (As := []) (rest := []) ⟨hx, hb, hml, hown, hts⟩ (c9_findsAll l D cB cI cZ cO h H.size v_all v_past v_states v_refused v_far v_row v_stepAt v_depth v_tries v_values v_wrong v_isEnd v_found v_reached v_stepIn v_laid v_firstRow v_text v_textLong v_spot v_taken v_counted q3.1 q3.2.1 q3.2.2.1 q3.2.2.2.1 q3.2.2.2.2.1 q3.2.2.2.2.2.1 q3.2.2.2.2.2.2.1 q3.2.2.2.2.2.2.2.1 q3.2.2.2.2.2.2.2.2 hq3) (cwV 0 hts gX9_orders_X9_findsAll rfl rfl rfl (by decide +kernel) ⟨Nat.le_of_ble_eq_true rfl, Nat.le_of_ble_eq_true rfl⟩) ⟨kb_blind, va_recv hK hPc (ci := 6) (q0 := 0) rfl rfl, kb_pre hPc hDc hK hN⟩ rfl rfl hl.1 rfl (lv_room (Nat.le_of_ble_eq_true rfl)) dX9_orders_20 ⟨Nat.le_refl _, Nat.le_refl _⟩) hP hD hS hA [0, 1, 2, 3, 4, 5, 6, 7, 8, 9, 10, 11, 12, 13, 14, 15, 16] [] rfl rfl (fun _ h9 => absurd h9 List.not_mem_nil) rfl rfl (fun H locs hP hD hS => ?_)
    refine lv_aload_n hx hb dX9_orders_23 rfl (lv_at hl 0 rfl) ?_
    refine va_get (D := D) (cl := vwCl) (ci := 6) (v := .ref (h 10)) (C := RX9) (T := TX9) (N := 22) hx hb hts hin9 hown hK hP 0 rfl rfl 12 (by decide) (hts (.fieldLink RX9 38 "StepOrdersModel" "found" "[I") (by decide +kernel)) (fun _ h9 => h9) rfl dX9_orders_24 ?_
    refine lv_iload_n hx hb dX9_orders_27 rfl (lv_at hl 1 rfl) ?_
    refine kb_bind hf (fun v4 hv4 hf => ?_)
    refine ka_iald (D := D) (cl := vwCl) hx hb hK hP 10 1 (f := q3.2.2.2.2.2.2.2.2) rfl rfl (ard_in hv4) (ard_v hv4) dX9_orders_28 ?_
    obtain ⟨z1, y1⟩ := Prod.mk.inj (Option.some.inj hf)
    obtain ⟨z2, y2⟩ := Prod.mk.inj y1
    obtain ⟨z3, y3⟩ := Prod.mk.inj y2
    obtain ⟨z4, y4⟩ := Prod.mk.inj y3
    obtain ⟨z5, y5⟩ := Prod.mk.inj y4
    obtain ⟨z6, y6⟩ := Prod.mk.inj y5
    obtain ⟨z7, y7⟩ := Prod.mk.inj y6
    obtain ⟨z8, y8⟩ := Prod.mk.inj y7
    obtain ⟨z9, y9⟩ := Prod.mk.inj y8
    obtain ⟨z10, y10⟩ := Prod.mk.inj y9
    subst z1 z2 z3 z4 z5 z6 z7 z8 z9 z10 y10
    exact hend _ _ _ _ rfl hP hS dX9_orders_29
  · rw [if_pos c2] at hf
    refine lv_aload_n hx hb dX9_orders_12 rfl (lv_at hl 0 rfl) ?_
    refine lv_bipush (v := (-2)) hx hb dX9_orders_13 (by decide) ?_
    refine kb_bind hf (fun q5 hq5 hf => ?_)
    have hPc : va_P D vwCl (wdM cI cZ h v_all v_past v_states v_refused v_far v_row v_stepAt v_depth v_tries v_values v_wrong v_isEnd v_found v_reached v_stepIn v_laid v_firstRow v_text v_textLong v_spot v_taken v_counted) H := hP.sub [0, 1, 2, 3, 4, 5, 6, 7, 8, 9, 10, 11, 12, 13, 14, 15, 16] rfl
    have hDc : va_D A (wdM cI cZ h v_all v_past v_states v_refused v_far v_row v_stepAt v_depth v_tries v_values v_wrong v_isEnd v_found v_reached v_stepIn v_laid v_firstRow v_text v_textLong v_spot v_taken v_counted) := hD.sub [0, 1, 2, 3, 4, 5, 6, 7, 8, 9, 10, 11, 12, 13, 14, 15, 16] (by decide) rfl
    refine kd_iW (ws' := wdM cI cZ h v_all v_past v_states q5.2 v_far v_row v_stepAt v_depth v_tries v_values v_wrong v_isEnd v_found v_reached v_stepIn v_laid v_firstRow v_text v_textLong v_spot v_taken v_counted) (va_runV (As := [.int (-2 : Int32)]) (rest := []) ⟨hx, hb, hml, hown, hts⟩ (c9_refuses l D cB cI cZ cO h H.size (-2 : Int32) v_all v_past v_states v_refused v_far v_row v_stepAt v_depth v_tries v_values v_wrong v_isEnd v_found v_reached v_stepIn v_laid v_firstRow v_text v_textLong v_spot v_taken v_counted q5.1 q5.2 hq5) (cwV 1 hts gX9_orders_X9_refuses rfl rfl rfl (by decide +kernel) ⟨Nat.le_of_ble_eq_true rfl, Nat.le_of_ble_eq_true rfl⟩) ⟨kb_blind, va_recv hK hPc (ci := 6) (q0 := 0) rfl rfl, kb_pre hPc hDc hK hN⟩ rfl rfl hl.1 rfl (lv_room (Nat.le_of_ble_eq_true rfl)) dX9_orders_15 ⟨Nat.le_refl _, Nat.le_refl _⟩) hP hD hS hA [0, 1, 2, 3, 4, 5, 6, 7, 8, 9, 10, 11, 12, 13, 14, 15, 16] [] rfl rfl (fun _ h9 => absurd h9 List.not_mem_nil) rfl rfl (fun H locs hn6 hP hD hS => ?_)
    obtain ⟨z1, y1⟩ := Prod.mk.inj (Option.some.inj hf)
    obtain ⟨z2, y2⟩ := Prod.mk.inj y1
    obtain ⟨z3, y3⟩ := Prod.mk.inj y2
    obtain ⟨z4, y4⟩ := Prod.mk.inj y3
    obtain ⟨z5, y5⟩ := Prod.mk.inj y4
    obtain ⟨z6, y6⟩ := Prod.mk.inj y5
    obtain ⟨z7, y7⟩ := Prod.mk.inj y6
    obtain ⟨z8, y8⟩ := Prod.mk.inj y7
    obtain ⟨z9, y9⟩ := Prod.mk.inj y8
    obtain ⟨z10, y10⟩ := Prod.mk.inj y9
    subst z1 z2 z3 z4 z5 z6 z7 z8 z9 z10 y10
    exact hend _ _ _ _ rfl hP hS dX9_orders_18

set_option maxHeartbeats 4000000 in
set_option maxRecDepth 100000 in
theorem c9_findsSort (l : Launch) (D : va_G) (cB cI cZ cO : ClassId) (h : Nat → Nat) (sz : Nat) (x1 : Int32) (v_all : Nat → Int32) (v_past : Nat → Int32) (v_states : Int32) (v_refused : Nat → Int32) (v_far : Nat → Int32) (v_row : Nat → Int32) (v_stepAt : Nat → Int32) (v_depth : Int32) (v_tries : Nat → Int32) (v_values : Nat → Int32) (v_wrong : Int32) (v_isEnd : Nat → Int32) (v_found : Nat → Int32) (v_reached : Nat → Int32) (v_stepIn : Nat → Int32) (v_laid : Nat → Int32) (v_firstRow : Nat → Int32) (v_text : Nat → Int32) (v_textLong : Int32) (v_spot : Int32) (v_taken : Int32) (v_counted : Nat → Int32) (r0 : Int32) (v_far' : Nat → Int32) (v_row' : Nat → Int32) (v_stepAt' : Nat → Int32) (v_depth' : Int32) (v_tries' : Nat → Int32) (hf : f9_findsSort v_all v_far v_row v_stepAt v_depth v_tries x1 = some (r0, v_far', v_row', v_stepAt', v_depth', v_tries')) : Met l yX9_findsSort wsX9_findsSort rm9_findsSort (va_Pc [.ref (h 0), .int x1] (kb_B D (ka_tys cB cI cZ cO) sz (wdM cI cZ h v_all v_past v_states v_refused v_far v_row v_stepAt v_depth v_tries v_values v_wrong v_isEnd v_found v_reached v_stepIn v_laid v_firstRow v_text v_textLong v_spot v_taken v_counted))) (va_Qi (kb_post .boolean r0) (fun _ t => va_P D vwCl (wdM cI cZ h v_all v_past v_states v_refused (v_far') (v_row') (v_stepAt') (v_depth') (v_tries') v_values v_wrong v_isEnd v_found v_reached v_stepIn v_laid v_firstRow v_text v_textLong v_spot v_taken v_counted) t.heap) (va_A (wdM cI cZ h v_all v_past v_states v_refused v_far v_row v_stepAt v_depth v_tries v_values v_wrong v_isEnd v_found v_reached v_stepIn v_laid v_firstRow v_text v_textLong v_spot v_taken v_counted) sz)) 0 0 (va_A (wdM cI cZ h v_all v_past v_states v_refused v_far v_row v_stepAt v_depth v_tries v_values v_wrong v_isEnd v_found v_reached v_stepIn v_laid v_firstRow v_text v_textLong v_spot v_taken v_counted) sz) := by
  refine kb_metZ (cc := cX9_findsSort) (maxL := 3) (ty := .boolean) (by decide) rfl (Nat.le_of_ble_eq_true rfl) ?_
  intro p e s m args below meth c Q A ls H hx hb hml hown hts hK hN hP hD hS hA hl hend
  have hown : s.vm.findClass RX9 = some m.cls := hown
  have hl : lv_has ls 3 [(0, .ref (h 0)), (1, .int x1)] := hl
  have J6 : ∀ (n : Nat) (v_far : Nat → Int32) (v_row : Nat → Int32) (v_stepAt : Nat → Int32) (v_depth : Int32) (v_tries : Nat → Int32) (x1 : Int32) (x2 : Int32) (H : Heap) (locs : List Loc) (ls : Array Slot), f9_findsSort_l6 n v_all v_far v_row v_stepAt v_depth v_tries x1 x2 = some (r0, v_far', v_row', v_stepAt', v_depth', v_tries') → va_P D vwCl (wdM cI cZ h v_all v_past v_states v_refused v_far v_row v_stepAt v_depth v_tries v_values v_wrong v_isEnd v_found v_reached v_stepIn v_laid v_firstRow v_text v_textLong v_spot v_taken v_counted) H → va_D A (wdM cI cZ h v_all v_past v_states v_refused v_far v_row v_stepAt v_depth v_tries v_values v_wrong v_isEnd v_found v_reached v_stepIn v_laid v_firstRow v_text v_textLong v_spot v_taken v_counted) → va_S A s.heap H locs → lv_has ls 3 [(0, .ref (h 0)), (1, .int x1), (2, .int x2)] → W p l e rm9_findsSort s m args below meth c H locs 0 0 Q (F0 m 6 ls []) := by
    intro n
    induction n with
    | zero =>
      intro v_far v_row v_stepAt v_depth v_tries x1 x2 H locs ls hf
      cases (show (none : Option (Int32 × (Nat → Int32) × (Nat → Int32) × (Nat → Int32) × Int32 × (Nat → Int32))) = some (r0, v_far', v_row', v_stepAt', v_depth', v_tries') from hf)
    | succ n ih =>
      intro v_far v_row v_stepAt v_depth v_tries x1 x2 H locs ls hf hP hD hS hl
      rw [f9_findsSort_l6_s] at hf
      refine lv_aload_n hx hb dX9_findsSort_6 rfl (lv_at hl 0 rfl) ?_
      refine kb_bind hf (fun q5 hq5 hf => ?_)
      have hPc : va_P D vwCl (wdM cI cZ h v_all v_past v_states v_refused v_far v_row v_stepAt v_depth v_tries v_values v_wrong v_isEnd v_found v_reached v_stepIn v_laid v_firstRow v_text v_textLong v_spot v_taken v_counted) H := hP.sub [0, 1, 2, 3, 4, 5, 6, 7, 8, 9, 10, 11, 12, 13, 14, 15, 16] rfl
      have hDc : va_D A (wdM cI cZ h v_all v_past v_states v_refused v_far v_row v_stepAt v_depth v_tries v_values v_wrong v_isEnd v_found v_reached v_stepIn v_laid v_firstRow v_text v_textLong v_spot v_taken v_counted) := hD.sub [0, 1, 2, 3, 4, 5, 6, 7, 8, 9, 10, 11, 12, 13, 14, 15, 16] (by decide) rfl
      refine kd_iW (ws' := wdM cI cZ h v_all v_past v_states v_refused q5.2.1 q5.2.2.1 q5.2.2.2.1 q5.2.2.2.2.1 q5.2.2.2.2.2 v_values v_wrong v_isEnd v_found v_reached v_stepIn v_laid v_firstRow v_text v_textLong v_spot v_taken v_counted) (va_runV (As := []) (rest := []) ⟨hx, hb, hml, hown, hts⟩ (c9_goesOn l D cB cI cZ cO h H.size v_all v_past v_states v_refused v_far v_row v_stepAt v_depth v_tries v_values v_wrong v_isEnd v_found v_reached v_stepIn v_laid v_firstRow v_text v_textLong v_spot v_taken v_counted q5.1 q5.2.1 q5.2.2.1 q5.2.2.2.1 q5.2.2.2.2.1 q5.2.2.2.2.2 hq5) (cwV 0 hts gX9_findsSort_X9_goesOn rfl rfl rfl (by decide +kernel) ⟨Nat.le_of_ble_eq_true rfl, Nat.le_of_ble_eq_true rfl⟩) ⟨kb_blind, va_recv hK hPc (ci := 6) (q0 := 0) rfl rfl, kb_pre hPc hDc hK hN⟩ rfl rfl hl.1 rfl (lv_room (Nat.le_of_ble_eq_true rfl)) dX9_findsSort_7 ⟨Nat.le_refl _, Nat.le_refl _⟩) hP hD hS hA [0, 1, 2, 3, 4, 5, 6, 7, 8, 9, 10, 11, 12, 13, 14, 15, 16] [] rfl rfl (fun _ h9 => absurd h9 List.not_mem_nil) rfl rfl (fun H locs hn6 hP hD hS => ?_)
      refine lv_if_eq (tgt := 26) hx hb dX9_findsSort_10 (by decide) (fun c7 => ?_) (fun c7 => ?_)
      · rw [if_pos c7] at hf
        refine lv_iconst (v := 0) hx hb dX9_findsSort_26 (by decide) ?_
        obtain ⟨z1, y1⟩ := Prod.mk.inj (Option.some.inj hf)
        obtain ⟨z2, y2⟩ := Prod.mk.inj y1
        obtain ⟨z3, y3⟩ := Prod.mk.inj y2
        obtain ⟨z4, y4⟩ := Prod.mk.inj y3
        obtain ⟨z5, y5⟩ := Prod.mk.inj y4
        subst z1 z2 z3 z4 z5 y5
        exact hend _ _ _ _ rfl hP hS dX9_findsSort_27
      · rw [if_neg c7] at hf
        refine lv_iload_n hx hb dX9_findsSort_13 rfl (lv_at hl 2 rfl) ?_
        refine lv_iload_n hx hb dX9_findsSort_14 rfl (lv_at hl 1 rfl) ?_
        refine lv_icmp_ne (tgt := 20) hx hb dX9_findsSort_15 (by decide) (fun c8 => ?_) (fun c8 => ?_)
        · rw [if_neg c8] at hf
          refine lv_iinc (v := (x2 + 1)) (lv' := [(2, .int (x2 + 1)), (0, .ref (h 0)), (1, .int x1)]) hx hb dX9_findsSort_20 hl (k := 2) rfl rfl (by decide) rfl (fun ls hl => ?_)
          refine lv_goto (tgt := 6) hx hb dX9_findsSort_23 (by decide) ?_
          exact ih q5.2.1 q5.2.2.1 q5.2.2.2.1 q5.2.2.2.2.1 q5.2.2.2.2.2 x1 (x2 + 1) _ _ _ hf hP hD hS (lv_sub hl [1, 2, 0] rfl)
        · rw [if_pos c8] at hf
          refine lv_iconst (v := 1) hx hb dX9_findsSort_18 (by decide) ?_
          obtain ⟨z1, y1⟩ := Prod.mk.inj (Option.some.inj hf)
          obtain ⟨z2, y2⟩ := Prod.mk.inj y1
          obtain ⟨z3, y3⟩ := Prod.mk.inj y2
          obtain ⟨z4, y4⟩ := Prod.mk.inj y3
          obtain ⟨z5, y5⟩ := Prod.mk.inj y4
          subst z1 z2 z3 z4 z5 y5
          exact hend _ _ _ _ rfl hP hS dX9_findsSort_19
  rw [f9_findsSort] at hf
  refine lv_aload_n hx hb dX9_findsSort_0 rfl (lv_at hl 0 rfl) ?_
  refine kb_bind hf (fun q9 hq9 hf => ?_)
  have hPc : va_P D vwCl (wdM cI cZ h v_all v_past v_states v_refused v_far v_row v_stepAt v_depth v_tries v_values v_wrong v_isEnd v_found v_reached v_stepIn v_laid v_firstRow v_text v_textLong v_spot v_taken v_counted) H := hP.sub [0, 1, 2, 3, 4, 5, 6, 7, 8, 9, 10, 11, 12, 13, 14, 15, 16] rfl
  have hDc : va_D A (wdM cI cZ h v_all v_past v_states v_refused v_far v_row v_stepAt v_depth v_tries v_values v_wrong v_isEnd v_found v_reached v_stepIn v_laid v_firstRow v_text v_textLong v_spot v_taken v_counted) := hD.sub [0, 1, 2, 3, 4, 5, 6, 7, 8, 9, 10, 11, 12, 13, 14, 15, 16] (by decide) rfl
  refine kd_vW (ws' := wdM cI cZ h v_all v_past v_states v_refused q9.1 v_row v_stepAt q9.2.1 q9.2.2 v_values v_wrong v_isEnd v_found v_reached v_stepIn v_laid v_firstRow v_text v_textLong v_spot v_taken v_counted) (va_runV (As := []) (rest := []) ⟨hx, hb, hml, hown, hts⟩ (c9_starts l D cB cI cZ cO h H.size v_all v_past v_states v_refused v_far v_row v_stepAt v_depth v_tries v_values v_wrong v_isEnd v_found v_reached v_stepIn v_laid v_firstRow v_text v_textLong v_spot v_taken v_counted q9.1 q9.2.1 q9.2.2 hq9) (cwV 0 hts gX9_findsSort_X9_starts rfl rfl rfl (by decide +kernel) ⟨Nat.le_of_ble_eq_true rfl, Nat.le_of_ble_eq_true rfl⟩) ⟨kb_blind, va_recv hK hPc (ci := 6) (q0 := 0) rfl rfl, kb_pre hPc hDc hK hN⟩ rfl rfl hl.1 rfl (lv_room (Nat.le_of_ble_eq_true rfl)) dX9_findsSort_1 ⟨Nat.le_refl _, Nat.le_refl _⟩) hP hD hS hA [0, 1, 2, 3, 4, 5, 6, 7, 8, 9, 10, 11, 12, 13, 14, 15, 16] [] rfl rfl (fun _ h9 => absurd h9 List.not_mem_nil) rfl rfl (fun H locs hP hD hS => ?_)
  refine lv_iconst (v := 0) hx hb dX9_findsSort_4 (by decide) ?_
  refine lv_istore_n (lv' := [(2, .int (0 : Int32)), (0, .ref (h 0)), (1, .int x1)]) hx hb dX9_findsSort_5 rfl hl (by decide) rfl (fun ls hl => ?_)
  exact J6 kFUEL q9.1 v_row v_stepAt q9.2.1 q9.2.2 x1 (0 : Int32) _ _ _ hf hP hD hS (lv_sub hl [1, 2, 0] rfl)

set_option maxHeartbeats 4000000 in
set_option maxRecDepth 100000 in
theorem c9_order (l : Launch) (D : va_G) (cB cI cZ cO : ClassId) (h : Nat → Nat) (sz : Nat) (x1 : Int32) (x2 : Int32) (v_all : Nat → Int32) (v_past : Nat → Int32) (v_states : Int32) (v_refused : Nat → Int32) (v_far : Nat → Int32) (v_row : Nat → Int32) (v_stepAt : Nat → Int32) (v_depth : Int32) (v_tries : Nat → Int32) (v_values : Nat → Int32) (v_wrong : Int32) (v_isEnd : Nat → Int32) (v_found : Nat → Int32) (v_reached : Nat → Int32) (v_stepIn : Nat → Int32) (v_laid : Nat → Int32) (v_firstRow : Nat → Int32) (v_text : Nat → Int32) (v_textLong : Int32) (v_spot : Int32) (v_taken : Int32) (v_counted : Nat → Int32) (r0 : Int32) (v_refused' : Nat → Int32) (v_far' : Nat → Int32) (v_row' : Nat → Int32) (v_stepAt' : Nat → Int32) (v_depth' : Int32) (v_tries' : Nat → Int32) (hf : f9_order v_all v_refused v_far v_row v_stepAt v_depth v_tries x1 x2 = some (r0, v_refused', v_far', v_row', v_stepAt', v_depth', v_tries')) : Met l yX9_order wsX9_order rm9_order (va_Pc [.ref (h 0), .int x1, .int x2] (kb_B D (ka_tys cB cI cZ cO) sz (wdM cI cZ h v_all v_past v_states v_refused v_far v_row v_stepAt v_depth v_tries v_values v_wrong v_isEnd v_found v_reached v_stepIn v_laid v_firstRow v_text v_textLong v_spot v_taken v_counted))) (va_Qi (kb_post .int r0) (fun _ t => va_P D vwCl (wdM cI cZ h v_all v_past v_states (v_refused') (v_far') (v_row') (v_stepAt') (v_depth') (v_tries') v_values v_wrong v_isEnd v_found v_reached v_stepIn v_laid v_firstRow v_text v_textLong v_spot v_taken v_counted) t.heap) (va_A (wdM cI cZ h v_all v_past v_states v_refused v_far v_row v_stepAt v_depth v_tries v_values v_wrong v_isEnd v_found v_reached v_stepIn v_laid v_firstRow v_text v_textLong v_spot v_taken v_counted) sz)) 0 0 (va_A (wdM cI cZ h v_all v_past v_states v_refused v_far v_row v_stepAt v_depth v_tries v_values v_wrong v_isEnd v_found v_reached v_stepIn v_laid v_firstRow v_text v_textLong v_spot v_taken v_counted) sz) := by
  refine kb_metZ (cc := cX9_order) (maxL := 3) (ty := .int) (by decide) rfl (Nat.le_of_ble_eq_true rfl) ?_
  intro p e s m args below meth c Q A ls H hx hb hml hown hts hK hN hP hD hS hA hl hend
  have hown : s.vm.findClass RX9 = some m.cls := hown
  have hl : lv_has ls 3 [(0, .ref (h 0)), (1, .int x1), (2, .int x2)] := hl
  have hin9 : ∀ w ∈ u_ws RX9 TX9 22, w ∈ wsX9_order := by decide +kernel
  have J9 : ∀ (v_refused : Nat → Int32) (v_far : Nat → Int32) (v_row : Nat → Int32) (v_stepAt : Nat → Int32) (v_depth : Int32) (v_tries : Nat → Int32) (H : Heap) (locs : List Loc) (ls : Array Slot), f9_order_b9 v_all v_refused v_far v_row v_stepAt v_depth v_tries = some (r0, v_refused', v_far', v_row', v_stepAt', v_depth', v_tries') → va_P D vwCl (wdM cI cZ h v_all v_past v_states v_refused v_far v_row v_stepAt v_depth v_tries v_values v_wrong v_isEnd v_found v_reached v_stepIn v_laid v_firstRow v_text v_textLong v_spot v_taken v_counted) H → va_D A (wdM cI cZ h v_all v_past v_states v_refused v_far v_row v_stepAt v_depth v_tries v_values v_wrong v_isEnd v_found v_reached v_stepIn v_laid v_firstRow v_text v_textLong v_spot v_taken v_counted) → va_S A s.heap H locs → lv_has ls 3 [(0, .ref (h 0))] → W p l e rm9_order s m args below meth c H locs 0 0 Q (F0 m 9 ls []) := by
    intro v_refused v_far v_row v_stepAt v_depth v_tries H locs ls hf hP hD hS hl
    rw [f9_order_b9] at hf
    refine lv_aload_n hx hb dX9_order_9 rfl (lv_at hl 0 rfl) ?_
    refine lv_bipush (v := (-2)) hx hb dX9_order_10 (by decide) ?_
    refine kb_bind hf (fun q3 hq3 hf => ?_)
    have hPc : va_P D vwCl (wdM cI cZ h v_all v_past v_states v_refused v_far v_row v_stepAt v_depth v_tries v_values v_wrong v_isEnd v_found v_reached v_stepIn v_laid v_firstRow v_text v_textLong v_spot v_taken v_counted) H := hP.sub [0, 1, 2, 3, 4, 5, 6, 7, 8, 9, 10, 11, 12, 13, 14, 15, 16] rfl
    have hDc : va_D A (wdM cI cZ h v_all v_past v_states v_refused v_far v_row v_stepAt v_depth v_tries v_values v_wrong v_isEnd v_found v_reached v_stepIn v_laid v_firstRow v_text v_textLong v_spot v_taken v_counted) := hD.sub [0, 1, 2, 3, 4, 5, 6, 7, 8, 9, 10, 11, 12, 13, 14, 15, 16] (by decide) rfl
    refine kd_iW (ws' := wdM cI cZ h v_all v_past v_states q3.2 v_far v_row v_stepAt v_depth v_tries v_values v_wrong v_isEnd v_found v_reached v_stepIn v_laid v_firstRow v_text v_textLong v_spot v_taken v_counted) (va_runV (As := [.int (-2 : Int32)]) (rest := []) ⟨hx, hb, hml, hown, hts⟩ (c9_refuses l D cB cI cZ cO h H.size (-2 : Int32) v_all v_past v_states v_refused v_far v_row v_stepAt v_depth v_tries v_values v_wrong v_isEnd v_found v_reached v_stepIn v_laid v_firstRow v_text v_textLong v_spot v_taken v_counted q3.1 q3.2 hq3) (cwV 1 hts gX9_order_X9_refuses rfl rfl rfl (by decide +kernel) ⟨Nat.le_of_ble_eq_true rfl, Nat.le_of_ble_eq_true rfl⟩) ⟨kb_blind, va_recv hK hPc (ci := 6) (q0 := 0) rfl rfl, kb_pre hPc hDc hK hN⟩ rfl rfl hl.1 rfl (lv_room (Nat.le_of_ble_eq_true rfl)) dX9_order_12 ⟨Nat.le_refl _, Nat.le_refl _⟩) hP hD hS hA [0, 1, 2, 3, 4, 5, 6, 7, 8, 9, 10, 11, 12, 13, 14, 15, 16] [] rfl rfl (fun _ h9 => absurd h9 List.not_mem_nil) rfl rfl (fun H locs hn4 hP hD hS => ?_)
    obtain ⟨z1, y1⟩ := Prod.mk.inj (Option.some.inj hf)
    obtain ⟨z2, y2⟩ := Prod.mk.inj y1
    obtain ⟨z3, y3⟩ := Prod.mk.inj y2
    obtain ⟨z4, y4⟩ := Prod.mk.inj y3
    obtain ⟨z5, y5⟩ := Prod.mk.inj y4
    obtain ⟨z6, y6⟩ := Prod.mk.inj y5
    subst z1 z2 z3 z4 z5 z6 y6
    exact hend _ _ _ _ rfl hP hS dX9_order_15
  rw [f9_order] at hf
  refine lv_iload_n hx hb dX9_order_0 rfl (lv_at hl 1 rfl) ?_
  refine lv_if_lt (tgt := 9) hx hb dX9_order_1 (by decide) (fun c5 => ?_) (fun c5 => ?_)
  · rw [if_pos c5] at hf
    exact J9 v_refused v_far v_row v_stepAt v_depth v_tries _ _ _ hf hP hD hS (lv_sub hl [0] rfl)
  · rw [if_neg c5] at hf
    refine lv_iload_n hx hb dX9_order_4 rfl (lv_at hl 2 rfl) ?_
    refine lv_iconst (v := (-1)) hx hb dX9_order_5 (by decide) ?_
    refine lv_icmp_ge (tgt := 16) hx hb dX9_order_6 (by decide) (fun c6 => ?_) (fun c6 => ?_)
    · rw [if_pos c6] at hf
      refine lv_aload_n hx hb dX9_order_16 rfl (lv_at hl 0 rfl) ?_
      refine lv_iload_n hx hb dX9_order_17 rfl (lv_at hl 1 rfl) ?_
      refine kb_bind hf (fun q7 hq7 hf => ?_)
      have hPc : va_P D vwCl (wdM cI cZ h v_all v_past v_states v_refused v_far v_row v_stepAt v_depth v_tries v_values v_wrong v_isEnd v_found v_reached v_stepIn v_laid v_firstRow v_text v_textLong v_spot v_taken v_counted) H := hP.sub [0, 1, 2, 3, 4, 5, 6, 7, 8, 9, 10, 11, 12, 13, 14, 15, 16] rfl
      have hDc : va_D A (wdM cI cZ h v_all v_past v_states v_refused v_far v_row v_stepAt v_depth v_tries v_values v_wrong v_isEnd v_found v_reached v_stepIn v_laid v_firstRow v_text v_textLong v_spot v_taken v_counted) := hD.sub [0, 1, 2, 3, 4, 5, 6, 7, 8, 9, 10, 11, 12, 13, 14, 15, 16] (by decide) rfl
      refine kd_iW (ws' := wdM cI cZ h v_all v_past v_states v_refused q7.2.1 q7.2.2.1 q7.2.2.2.1 q7.2.2.2.2.1 q7.2.2.2.2.2 v_values v_wrong v_isEnd v_found v_reached v_stepIn v_laid v_firstRow v_text v_textLong v_spot v_taken v_counted) (va_runV (As := [.int x1]) (rest := []) ⟨hx, hb, hml, hown, hts⟩ (c9_findsSort l D cB cI cZ cO h H.size x1 v_all v_past v_states v_refused v_far v_row v_stepAt v_depth v_tries v_values v_wrong v_isEnd v_found v_reached v_stepIn v_laid v_firstRow v_text v_textLong v_spot v_taken v_counted q7.1 q7.2.1 q7.2.2.1 q7.2.2.2.1 q7.2.2.2.2.1 q7.2.2.2.2.2 hq7) (cwV 1 hts gX9_order_X9_findsSort rfl rfl rfl (by decide +kernel) ⟨Nat.le_of_ble_eq_true rfl, Nat.le_of_ble_eq_true rfl⟩) ⟨kb_blind, va_recv hK hPc (ci := 6) (q0 := 0) rfl rfl, kb_pre hPc hDc hK hN⟩ rfl rfl hl.1 rfl (lv_room (Nat.le_of_ble_eq_true rfl)) dX9_order_18 ⟨Nat.le_refl _, Nat.le_refl _⟩) hP hD hS hA [0, 1, 2, 3, 4, 5, 6, 7, 8, 9, 10, 11, 12, 13, 14, 15, 16] [] rfl rfl (fun _ h9 => absurd h9 List.not_mem_nil) rfl rfl (fun H locs hn8 hP hD hS => ?_)
      refine lv_if_ne (tgt := 31) hx hb dX9_order_21 (by decide) (fun c9 => ?_) (fun c9 => ?_)
      · rw [if_neg c9] at hf
        refine lv_iload_n hx hb dX9_order_31 rfl (lv_at hl 2 rfl) ?_
        refine lv_iconst (v := (-1)) hx hb dX9_order_32 (by decide) ?_
        refine lv_icmp_ne (tgt := 43) hx hb dX9_order_33 (by decide) (fun c10 => ?_) (fun c10 => ?_)
        · rw [if_neg c10] at hf
          refine lv_iload_n hx hb dX9_order_43 rfl (lv_at hl 2 rfl) ?_
          refine lv_aload_n hx hb dX9_order_44 rfl (lv_at hl 0 rfl) ?_
          refine va_get (D := D) (cl := vwCl) (ci := 6) (v := .int q7.2.2.2.2.1) (C := RX9) (T := TX9) (N := 22) hx hb hts hin9 hown hK hP 0 rfl rfl 7 (by decide) (hts (.fieldLink RX9 130 "StepOrdersModel" "depth" "I") (by decide +kernel)) (fun _ h9 => h9) rfl dX9_order_45 ?_
          refine lv_icmp_ge (tgt := 60) hx hb dX9_order_48 (by decide) (fun c11 => ?_) (fun c11 => ?_)
          · rw [if_pos c11] at hf
            refine lv_bipush (v := (-5)) hx hb dX9_order_60 (by decide) ?_
            obtain ⟨z1, y1⟩ := Prod.mk.inj (Option.some.inj hf)
            obtain ⟨z2, y2⟩ := Prod.mk.inj y1
            obtain ⟨z3, y3⟩ := Prod.mk.inj y2
            obtain ⟨z4, y4⟩ := Prod.mk.inj y3
            obtain ⟨z5, y5⟩ := Prod.mk.inj y4
            obtain ⟨z6, y6⟩ := Prod.mk.inj y5
            subst z1 z2 z3 z4 z5 z6 y6
            exact hend _ _ _ _ rfl hP hS dX9_order_62
          · rw [if_neg c11] at hf
            refine lv_aload_n hx hb dX9_order_51 rfl (lv_at hl 0 rfl) ?_
            refine va_get (D := D) (cl := vwCl) (ci := 6) (v := .ref (h 5)) (C := RX9) (T := TX9) (N := 22) hx hb hts hin9 hown hK hP 0 rfl rfl 5 (by decide) (hts (.fieldLink RX9 22 "StepOrdersModel" "row" "[I") (by decide +kernel)) (fun _ h9 => h9) rfl dX9_order_52 ?_
            refine lv_iload_n hx hb dX9_order_55 rfl (lv_at hl 2 rfl) ?_
            refine kb_bind hf (fun v12 hv12 hf => ?_)
            refine ka_iald (D := D) (cl := vwCl) hx hb hK hP 5 1 (f := q7.2.2.1) rfl rfl (ard_in hv12) (ard_v hv12) dX9_order_56 ?_
            refine lv_goto (tgt := 62) hx hb dX9_order_57 (by decide) ?_
            obtain ⟨z1, y1⟩ := Prod.mk.inj (Option.some.inj hf)
            obtain ⟨z2, y2⟩ := Prod.mk.inj y1
            obtain ⟨z3, y3⟩ := Prod.mk.inj y2
            obtain ⟨z4, y4⟩ := Prod.mk.inj y3
            obtain ⟨z5, y5⟩ := Prod.mk.inj y4
            obtain ⟨z6, y6⟩ := Prod.mk.inj y5
            subst z1 z2 z3 z4 z5 z6 y6
            exact hend _ _ _ _ rfl hP hS dX9_order_62
        · rw [if_pos c10] at hf
          refine lv_aload_n hx hb dX9_order_36 rfl (lv_at hl 0 rfl) ?_
          refine va_get (D := D) (cl := vwCl) (ci := 6) (v := .int q7.2.2.2.2.1) (C := RX9) (T := TX9) (N := 22) hx hb hts hin9 hown hK hP 0 rfl rfl 7 (by decide) (hts (.fieldLink RX9 130 "StepOrdersModel" "depth" "I") (by decide +kernel)) (fun _ h9 => h9) rfl dX9_order_37 ?_
          refine lv_goto (tgt := 62) hx hb dX9_order_40 (by decide) ?_
          obtain ⟨z1, y1⟩ := Prod.mk.inj (Option.some.inj hf)
          obtain ⟨z2, y2⟩ := Prod.mk.inj y1
          obtain ⟨z3, y3⟩ := Prod.mk.inj y2
          obtain ⟨z4, y4⟩ := Prod.mk.inj y3
          obtain ⟨z5, y5⟩ := Prod.mk.inj y4
          obtain ⟨z6, y6⟩ := Prod.mk.inj y5
          subst z1 z2 z3 z4 z5 z6 y6
          exact hend _ _ _ _ rfl hP hS dX9_order_62
      · rw [if_pos c9] at hf
        refine lv_aload_n hx hb dX9_order_24 rfl (lv_at hl 0 rfl) ?_
        refine lv_bipush (v := (-3)) hx hb dX9_order_25 (by decide) ?_
        refine kb_bind hf (fun q13 hq13 hf => ?_)
        have hPc : va_P D vwCl (wdM cI cZ h v_all v_past v_states v_refused q7.2.1 q7.2.2.1 q7.2.2.2.1 q7.2.2.2.2.1 q7.2.2.2.2.2 v_values v_wrong v_isEnd v_found v_reached v_stepIn v_laid v_firstRow v_text v_textLong v_spot v_taken v_counted) H := hP.sub [0, 1, 2, 3, 4, 5, 6, 7, 8, 9, 10, 11, 12, 13, 14, 15, 16] rfl
        have hDc : va_D A (wdM cI cZ h v_all v_past v_states v_refused q7.2.1 q7.2.2.1 q7.2.2.2.1 q7.2.2.2.2.1 q7.2.2.2.2.2 v_values v_wrong v_isEnd v_found v_reached v_stepIn v_laid v_firstRow v_text v_textLong v_spot v_taken v_counted) := hD.sub [0, 1, 2, 3, 4, 5, 6, 7, 8, 9, 10, 11, 12, 13, 14, 15, 16] (by decide) rfl
        refine kd_iW (ws' := wdM cI cZ h v_all v_past v_states q13.2 q7.2.1 q7.2.2.1 q7.2.2.2.1 q7.2.2.2.2.1 q7.2.2.2.2.2 v_values v_wrong v_isEnd v_found v_reached v_stepIn v_laid v_firstRow v_text v_textLong v_spot v_taken v_counted) (va_runV (As := [.int (-3 : Int32)]) (rest := []) ⟨hx, hb, hml, hown, hts⟩ (c9_refuses l D cB cI cZ cO h H.size (-3 : Int32) v_all v_past v_states v_refused q7.2.1 q7.2.2.1 q7.2.2.2.1 q7.2.2.2.2.1 q7.2.2.2.2.2 v_values v_wrong v_isEnd v_found v_reached v_stepIn v_laid v_firstRow v_text v_textLong v_spot v_taken v_counted q13.1 q13.2 hq13) (cwV 1 hts gX9_order_X9_refuses rfl rfl rfl (by decide +kernel) ⟨Nat.le_of_ble_eq_true rfl, Nat.le_of_ble_eq_true rfl⟩) ⟨kb_blind, va_recv hK hPc (ci := 6) (q0 := 0) rfl rfl, kb_pre hPc hDc hK hN⟩ rfl rfl hl.1 rfl (lv_room (Nat.le_of_ble_eq_true rfl)) dX9_order_27 ⟨Nat.le_refl _, Nat.le_refl _⟩) hP hD hS hA [0, 1, 2, 3, 4, 5, 6, 7, 8, 9, 10, 11, 12, 13, 14, 15, 16] [] rfl rfl (fun _ h9 => absurd h9 List.not_mem_nil) rfl rfl (fun H locs hn14 hP hD hS => ?_)
        obtain ⟨z1, y1⟩ := Prod.mk.inj (Option.some.inj hf)
        obtain ⟨z2, y2⟩ := Prod.mk.inj y1
        obtain ⟨z3, y3⟩ := Prod.mk.inj y2
        obtain ⟨z4, y4⟩ := Prod.mk.inj y3
        obtain ⟨z5, y5⟩ := Prod.mk.inj y4
        obtain ⟨z6, y6⟩ := Prod.mk.inj y5
        subst z1 z2 z3 z4 z5 z6 y6
        exact hend _ _ _ _ rfl hP hS dX9_order_30
    · rw [if_neg c6] at hf
      exact J9 v_refused v_far v_row v_stepAt v_depth v_tries _ _ _ hf hP hD hS (lv_sub hl [0] rfl)

set_option maxHeartbeats 4000000 in
set_option maxRecDepth 100000 in
theorem c9_sort (l : Launch) (D : va_G) (cB cI cZ cO : ClassId) (h : Nat → Nat) (sz : Nat) (x1 : Int32) (x2 : Int32) (v_all : Nat → Int32) (v_past : Nat → Int32) (v_states : Int32) (v_refused : Nat → Int32) (v_far : Nat → Int32) (v_row : Nat → Int32) (v_stepAt : Nat → Int32) (v_depth : Int32) (v_tries : Nat → Int32) (v_values : Nat → Int32) (v_wrong : Int32) (v_isEnd : Nat → Int32) (v_found : Nat → Int32) (v_reached : Nat → Int32) (v_stepIn : Nat → Int32) (v_laid : Nat → Int32) (v_firstRow : Nat → Int32) (v_text : Nat → Int32) (v_textLong : Int32) (v_spot : Int32) (v_taken : Int32) (v_counted : Nat → Int32) (r0 : Int32) (v_refused' : Nat → Int32) (v_far' : Nat → Int32) (v_row' : Nat → Int32) (v_stepAt' : Nat → Int32) (v_depth' : Int32) (v_tries' : Nat → Int32) (v_values' : Nat → Int32) (v_wrong' : Int32) (hf : f9_sort v_all v_refused v_far v_row v_stepAt v_depth v_tries v_values v_wrong x1 x2 = some (r0, v_refused', v_far', v_row', v_stepAt', v_depth', v_tries', v_values', v_wrong')) : Met l yX9_sort wsX9_sort rm9_sort (va_Pc [.ref (h 0), .int x1, .int x2] (kb_B D (ka_tys cB cI cZ cO) sz (wdM cI cZ h v_all v_past v_states v_refused v_far v_row v_stepAt v_depth v_tries v_values v_wrong v_isEnd v_found v_reached v_stepIn v_laid v_firstRow v_text v_textLong v_spot v_taken v_counted))) (va_Qi (kb_post .int r0) (fun _ t => va_P D vwCl (wdM cI cZ h v_all v_past v_states (v_refused') (v_far') (v_row') (v_stepAt') (v_depth') (v_tries') (v_values') (v_wrong') v_isEnd v_found v_reached v_stepIn v_laid v_firstRow v_text v_textLong v_spot v_taken v_counted) t.heap) (va_A (wdM cI cZ h v_all v_past v_states v_refused v_far v_row v_stepAt v_depth v_tries v_values v_wrong v_isEnd v_found v_reached v_stepIn v_laid v_firstRow v_text v_textLong v_spot v_taken v_counted) sz)) 0 0 (va_A (wdM cI cZ h v_all v_past v_states v_refused v_far v_row v_stepAt v_depth v_tries v_values v_wrong v_isEnd v_found v_reached v_stepIn v_laid v_firstRow v_text v_textLong v_spot v_taken v_counted) sz) := by
  refine kb_metZ (cc := cX9_sort) (maxL := 4) (ty := .int) (by decide) rfl (Nat.le_of_ble_eq_true rfl) ?_
  intro p e s m args below meth c Q A ls H hx hb hml hown hts hK hN hP hD hS hA hl hend
  have hown : s.vm.findClass RX9 = some m.cls := hown
  have hl : lv_has ls 4 [(0, .ref (h 0)), (1, .int x1), (2, .int x2)] := hl
  have hin9 : ∀ w ∈ u_ws RX9 TX9 22, w ∈ wsX9_sort := by decide +kernel
  have J16 : ∀ (v_refused : Nat → Int32) (v_far : Nat → Int32) (v_row : Nat → Int32) (v_stepAt : Nat → Int32) (v_depth : Int32) (v_tries : Nat → Int32) (v_values : Nat → Int32) (v_wrong : Int32) (H : Heap) (locs : List Loc) (ls : Array Slot), f9_sort_b16 v_all v_refused v_far v_row v_stepAt v_depth v_tries v_values v_wrong = some (r0, v_refused', v_far', v_row', v_stepAt', v_depth', v_tries', v_values', v_wrong') → va_P D vwCl (wdM cI cZ h v_all v_past v_states v_refused v_far v_row v_stepAt v_depth v_tries v_values v_wrong v_isEnd v_found v_reached v_stepIn v_laid v_firstRow v_text v_textLong v_spot v_taken v_counted) H → va_D A (wdM cI cZ h v_all v_past v_states v_refused v_far v_row v_stepAt v_depth v_tries v_values v_wrong v_isEnd v_found v_reached v_stepIn v_laid v_firstRow v_text v_textLong v_spot v_taken v_counted) → va_S A s.heap H locs → lv_has ls 4 [(0, .ref (h 0))] → W p l e rm9_sort s m args below meth c H locs 0 0 Q (F0 m 16 ls []) := by
    intro v_refused v_far v_row v_stepAt v_depth v_tries v_values v_wrong H locs ls hf hP hD hS hl
    rw [f9_sort_b16] at hf
    refine lv_aload_n hx hb dX9_sort_16 rfl (lv_at hl 0 rfl) ?_
    refine lv_bipush (v := (-2)) hx hb dX9_sort_17 (by decide) ?_
    refine kb_bind hf (fun q3 hq3 hf => ?_)
    have hPc : va_P D vwCl (wdM cI cZ h v_all v_past v_states v_refused v_far v_row v_stepAt v_depth v_tries v_values v_wrong v_isEnd v_found v_reached v_stepIn v_laid v_firstRow v_text v_textLong v_spot v_taken v_counted) H := hP.sub [0, 1, 2, 3, 4, 5, 6, 7, 8, 9, 10, 11, 12, 13, 14, 15, 16] rfl
    have hDc : va_D A (wdM cI cZ h v_all v_past v_states v_refused v_far v_row v_stepAt v_depth v_tries v_values v_wrong v_isEnd v_found v_reached v_stepIn v_laid v_firstRow v_text v_textLong v_spot v_taken v_counted) := hD.sub [0, 1, 2, 3, 4, 5, 6, 7, 8, 9, 10, 11, 12, 13, 14, 15, 16] (by decide) rfl
    refine kd_iW (ws' := wdM cI cZ h v_all v_past v_states q3.2 v_far v_row v_stepAt v_depth v_tries v_values v_wrong v_isEnd v_found v_reached v_stepIn v_laid v_firstRow v_text v_textLong v_spot v_taken v_counted) (va_runV (As := [.int (-2 : Int32)]) (rest := []) ⟨hx, hb, hml, hown, hts⟩ (c9_refuses l D cB cI cZ cO h H.size (-2 : Int32) v_all v_past v_states v_refused v_far v_row v_stepAt v_depth v_tries v_values v_wrong v_isEnd v_found v_reached v_stepIn v_laid v_firstRow v_text v_textLong v_spot v_taken v_counted q3.1 q3.2 hq3) (cwV 1 hts gX9_sort_X9_refuses rfl rfl rfl (by decide +kernel) ⟨Nat.le_of_ble_eq_true rfl, Nat.le_of_ble_eq_true rfl⟩) ⟨kb_blind, va_recv hK hPc (ci := 6) (q0 := 0) rfl rfl, kb_pre hPc hDc hK hN⟩ rfl rfl hl.1 rfl (lv_room (Nat.le_of_ble_eq_true rfl)) dX9_sort_19 ⟨Nat.le_refl _, Nat.le_refl _⟩) hP hD hS hA [0, 1, 2, 3, 4, 5, 6, 7, 8, 9, 10, 11, 12, 13, 14, 15, 16] [] rfl rfl (fun _ h9 => absurd h9 List.not_mem_nil) rfl rfl (fun H locs hn4 hP hD hS => ?_)
    obtain ⟨z1, y1⟩ := Prod.mk.inj (Option.some.inj hf)
    obtain ⟨z2, y2⟩ := Prod.mk.inj y1
    obtain ⟨z3, y3⟩ := Prod.mk.inj y2
    obtain ⟨z4, y4⟩ := Prod.mk.inj y3
    obtain ⟨z5, y5⟩ := Prod.mk.inj y4
    obtain ⟨z6, y6⟩ := Prod.mk.inj y5
    obtain ⟨z7, y7⟩ := Prod.mk.inj y6
    obtain ⟨z8, y8⟩ := Prod.mk.inj y7
    subst z1 z2 z3 z4 z5 z6 z7 z8 y8
    exact hend _ _ _ _ rfl hP hS dX9_sort_22
  rw [f9_sort] at hf
  refine lv_iload_n hx hb dX9_sort_0 rfl (lv_at hl 1 rfl) ?_
  refine lv_if_lt (tgt := 16) hx hb dX9_sort_1 (by decide) (fun c5 => ?_) (fun c5 => ?_)
  · rw [if_pos c5] at hf
    exact J16 v_refused v_far v_row v_stepAt v_depth v_tries v_values v_wrong _ _ _ hf hP hD hS (lv_sub hl [0] rfl)
  · rw [if_neg c5] at hf
    refine lv_iload_n hx hb dX9_sort_4 rfl (lv_at hl 2 rfl) ?_
    refine lv_i2l (v := x2.toInt64) hx hb dX9_sort_5 rfl ?_
    refine lv_lconst (v := 0) hx hb dX9_sort_6 (by decide) ?_
    refine lv_ldc2 (v := 2) hx hb hown (hts (.constantLong RX9 77 (2)) (by decide +kernel)) dX9_sort_7 ?_
    have hPc : va_P D vwCl ([]) H := hP.sub [] rfl
    have hDc : va_D A ([]) := hD.sub [] (by decide) rfl
    refine kd_iR (va_runS (As := [.long x2.toInt64, .long (0 : Int64), .long (2 : Int64)]) (rest := []) ⟨hx, hb, hml, hown, hts⟩ (c9_in l D cB cI cZ cO h H.size x2.toInt64 (0 : Int64) (2 : Int64) (f9_in x2.toInt64 (0 : Int64) (2 : Int64)) rfl) (va_cwS 3 hts gX9_sort_X9_in rfl rfl rfl (by decide +kernel) ⟨Nat.le_of_ble_eq_true rfl, Nat.le_of_ble_eq_true rfl⟩) ⟨kb_blind, kb_pre hPc hDc hK hN⟩ rfl rfl hl.1 rfl (lv_room (Nat.le_of_ble_eq_true rfl)) dX9_sort_10 ⟨Nat.le_refl _, Nat.le_refl _⟩) hP hD hS hA [] rfl (fun H locs hn6 hP hS => ?_)
    refine lv_if_ne (tgt := 23) hx hb dX9_sort_13 (by decide) (fun c7 => ?_) (fun c7 => ?_)
    · rw [if_neg c7] at hf
      refine lv_aload_n hx hb dX9_sort_23 rfl (lv_at hl 0 rfl) ?_
      refine lv_iload_n hx hb dX9_sort_24 rfl (lv_at hl 1 rfl) ?_
      refine kb_bind hf (fun q8 hq8 hf => ?_)
      have hPc : va_P D vwCl (wdM cI cZ h v_all v_past v_states v_refused v_far v_row v_stepAt v_depth v_tries v_values v_wrong v_isEnd v_found v_reached v_stepIn v_laid v_firstRow v_text v_textLong v_spot v_taken v_counted) H := hP.sub [0, 1, 2, 3, 4, 5, 6, 7, 8, 9, 10, 11, 12, 13, 14, 15, 16] rfl
      have hDc : va_D A (wdM cI cZ h v_all v_past v_states v_refused v_far v_row v_stepAt v_depth v_tries v_values v_wrong v_isEnd v_found v_reached v_stepIn v_laid v_firstRow v_text v_textLong v_spot v_taken v_counted) := hD.sub [0, 1, 2, 3, 4, 5, 6, 7, 8, 9, 10, 11, 12, 13, 14, 15, 16] (by decide) rfl
      refine kd_iW (ws' := wdM cI cZ h v_all v_past v_states v_refused q8.2.1 q8.2.2.1 q8.2.2.2.1 q8.2.2.2.2.1 q8.2.2.2.2.2 v_values v_wrong v_isEnd v_found v_reached v_stepIn v_laid v_firstRow v_text v_textLong v_spot v_taken v_counted) (va_runV (As := [.int x1]) (rest := []) ⟨hx, hb, hml, hown, hts⟩ (c9_findsSort l D cB cI cZ cO h H.size x1 v_all v_past v_states v_refused v_far v_row v_stepAt v_depth v_tries v_values v_wrong v_isEnd v_found v_reached v_stepIn v_laid v_firstRow v_text v_textLong v_spot v_taken v_counted q8.1 q8.2.1 q8.2.2.1 q8.2.2.2.1 q8.2.2.2.2.1 q8.2.2.2.2.2 hq8) (cwV 1 hts gX9_sort_X9_findsSort rfl rfl rfl (by decide +kernel) ⟨Nat.le_of_ble_eq_true rfl, Nat.le_of_ble_eq_true rfl⟩) ⟨kb_blind, va_recv hK hPc (ci := 6) (q0 := 0) rfl rfl, kb_pre hPc hDc hK hN⟩ rfl rfl hl.1 rfl (lv_room (Nat.le_of_ble_eq_true rfl)) dX9_sort_25 ⟨Nat.le_refl _, Nat.le_refl _⟩) hP hD hS hA [0, 1, 2, 3, 4, 5, 6, 7, 8, 9, 10, 11, 12, 13, 14, 15, 16] [] rfl rfl (fun _ h9 => absurd h9 List.not_mem_nil) rfl rfl (fun H locs hn9 hP hD hS => ?_)
      refine lv_if_ne (tgt := 38) hx hb dX9_sort_28 (by decide) (fun c10 => ?_) (fun c10 => ?_)
      · rw [if_neg c10] at hf
        refine lv_aload_n hx hb dX9_sort_38 rfl (lv_at hl 0 rfl) ?_
        refine kb_bind hf (fun q11 hq11 hf => ?_)
        have hPc : va_P D vwCl (wdM cI cZ h v_all v_past v_states v_refused q8.2.1 q8.2.2.1 q8.2.2.2.1 q8.2.2.2.2.1 q8.2.2.2.2.2 v_values v_wrong v_isEnd v_found v_reached v_stepIn v_laid v_firstRow v_text v_textLong v_spot v_taken v_counted) H := hP.sub [0, 1, 2, 3, 4, 5, 6, 7, 8, 9, 10, 11, 12, 13, 14, 15, 16] rfl
        have hDc : va_D A (wdM cI cZ h v_all v_past v_states v_refused q8.2.1 q8.2.2.1 q8.2.2.2.1 q8.2.2.2.2.1 q8.2.2.2.2.2 v_values v_wrong v_isEnd v_found v_reached v_stepIn v_laid v_firstRow v_text v_textLong v_spot v_taken v_counted) := hD.sub [0, 1, 2, 3, 4, 5, 6, 7, 8, 9, 10, 11, 12, 13, 14, 15, 16] (by decide) rfl
        refine kd_iW (ws' := wdM cI cZ h v_all v_past v_states v_refused q8.2.1 q8.2.2.1 q8.2.2.2.1 q8.2.2.2.2.1 q8.2.2.2.2.2 q11.2.1 q11.2.2 v_isEnd v_found v_reached v_stepIn v_laid v_firstRow v_text v_textLong v_spot v_taken v_counted) (va_runV (As := []) (rest := []) ⟨hx, hb, hml, hown, hts⟩ (c9_endOf l D cB cI cZ cO h H.size v_all v_past v_states v_refused q8.2.1 q8.2.2.1 q8.2.2.2.1 q8.2.2.2.2.1 q8.2.2.2.2.2 v_values v_wrong v_isEnd v_found v_reached v_stepIn v_laid v_firstRow v_text v_textLong v_spot v_taken v_counted q11.1 q11.2.1 q11.2.2 hq11) (cwV 0 hts gX9_sort_X9_endOf rfl rfl rfl (by decide +kernel) ⟨Nat.le_of_ble_eq_true rfl, Nat.le_of_ble_eq_true rfl⟩) ⟨kb_blind, va_recv hK hPc (ci := 6) (q0 := 0) rfl rfl, kb_pre hPc hDc hK hN⟩ rfl rfl hl.1 rfl (lv_room (Nat.le_of_ble_eq_true rfl)) dX9_sort_39 ⟨Nat.le_refl _, Nat.le_refl _⟩) hP hD hS hA [0, 1, 2, 3, 4, 5, 6, 7, 8, 9, 10, 11, 12, 13, 14, 15, 16] [] rfl rfl (fun _ h9 => absurd h9 List.not_mem_nil) rfl rfl (fun H locs hn12 hP hD hS => ?_)
        refine lv_istore_n (lv' := [(3, .int q11.1), (0, .ref (h 0)), (1, .int x1), (2, .int x2)]) hx hb dX9_sort_42 rfl hl (by decide) rfl (fun ls hl => ?_)
        refine lv_iload_n hx hb dX9_sort_43 rfl (lv_at hl 3 rfl) ?_
        refine lv_if_ne (tgt := 51) hx hb dX9_sort_44 (by decide) (fun c13 => ?_) (fun c13 => ?_)
        · rw [if_neg c13] at hf
          refine lv_iload_n hx hb dX9_sort_51 rfl (lv_at hl 3 rfl) ?_
          refine lv_iconst (v := 1) hx hb dX9_sort_52 (by decide) ?_
          refine lv_icmp_ne (tgt := 63) hx hb dX9_sort_53 (by decide) (fun c14 => ?_) (fun c14 => ?_)
          · rw [if_neg c14] at hf
            refine lv_aload_n hx hb dX9_sort_63 rfl (lv_at hl 1 rfl) ?_
            refine va_get (D := D) (cl := vwCl) (ci := 6) (v := .int q8.2.2.2.2.1) (C := RX9) (T := TX9) (N := 22) hx hb hts hin9 hown hK hP 0 rfl rfl 7 (by decide) (hts (.fieldLink RX9 130 "StepOrdersModel" "depth" "I") (by decide +kernel)) (fun _ h9 => h9) rfl dX9_sort_64 ?_
            refine lv_aload_n hx hb dX9_sort_67 rfl (lv_at hl 1 rfl) ?_
            refine kb_bind hf (fun q15 hq15 hf => ?_)
            have hPc : va_P D vwCl (wdM cI cZ h v_all v_past v_states v_refused q8.2.1 q8.2.2.1 q8.2.2.2.1 q8.2.2.2.2.1 q8.2.2.2.2.2 q11.2.1 q11.2.2 v_isEnd v_found v_reached v_stepIn v_laid v_firstRow v_text v_textLong v_spot v_taken v_counted) H := hP.sub [0, 1, 2, 3, 4, 5, 6, 7, 8, 9, 10, 11, 12, 13, 14, 15, 16] rfl
            have hDc : va_D A (wdM cI cZ h v_all v_past v_states v_refused q8.2.1 q8.2.2.1 q8.2.2.2.1 q8.2.2.2.2.1 q8.2.2.2.2.2 q11.2.1 q11.2.2 v_isEnd v_found v_reached v_stepIn v_laid v_firstRow v_text v_textLong v_spot v_taken v_counted) := hD.sub [0, 1, 2, 3, 4, 5, 6, 7, 8, 9, 10, 11, 12, 13, 14, 15, 16] (by decide) rfl
            refine kd_iR (va_runV (As := []) (rest := [.int q8.2.2.2.2.1]) ⟨hx, hb, hml, hown, hts⟩ (c9_allSteps l D cB cI cZ cO h H.size v_all v_past v_states v_refused q8.2.1 q8.2.2.1 q8.2.2.2.1 q8.2.2.2.2.1 q8.2.2.2.2.2 q11.2.1 q11.2.2 v_isEnd v_found v_reached v_stepIn v_laid v_firstRow v_text v_textLong v_spot v_taken v_counted q15 hq15) (cwV 0 hts gX9_sort_X9_allSteps rfl rfl rfl (by decide +kernel) ⟨Nat.le_of_ble_eq_true rfl, Nat.le_of_ble_eq_true rfl⟩) ⟨kb_blind, va_recv hK hPc (ci := 6) (q0 := 0) rfl rfl, kb_pre hPc hDc hK hN⟩ rfl rfl hl.1 rfl (lv_room (Nat.le_of_ble_eq_true rfl)) dX9_sort_68 ⟨Nat.le_refl _, Nat.le_refl _⟩) hP hD hS hA [0, 1, 2, 3, 4, 5, 6, 7, 8, 9, 10, 11, 12, 13, 14, 15, 16] rfl (fun H locs hn16 hP hS => ?_)
            refine lv_icmp_ge (tgt := 78) hx hb dX9_sort_71 (by decide) (fun c17 => ?_) (fun c17 => ?_)
            · rw [if_pos c17] at hf
              refine lv_iconst (v := 0) hx hb dX9_sort_78 (by decide) ?_
              obtain ⟨z1, y1⟩ := Prod.mk.inj (Option.some.inj hf)
              obtain ⟨z2, y2⟩ := Prod.mk.inj y1
              obtain ⟨z3, y3⟩ := Prod.mk.inj y2
              obtain ⟨z4, y4⟩ := Prod.mk.inj y3
              obtain ⟨z5, y5⟩ := Prod.mk.inj y4
              obtain ⟨z6, y6⟩ := Prod.mk.inj y5
              obtain ⟨z7, y7⟩ := Prod.mk.inj y6
              obtain ⟨z8, y8⟩ := Prod.mk.inj y7
              subst z1 z2 z3 z4 z5 z6 z7 z8 y8
              exact hend _ _ _ _ rfl hP hS dX9_sort_79
            · rw [if_neg c17] at hf
              refine lv_iconst (v := 1) hx hb dX9_sort_74 (by decide) ?_
              refine lv_goto (tgt := 79) hx hb dX9_sort_75 (by decide) ?_
              obtain ⟨z1, y1⟩ := Prod.mk.inj (Option.some.inj hf)
              obtain ⟨z2, y2⟩ := Prod.mk.inj y1
              obtain ⟨z3, y3⟩ := Prod.mk.inj y2
              obtain ⟨z4, y4⟩ := Prod.mk.inj y3
              obtain ⟨z5, y5⟩ := Prod.mk.inj y4
              obtain ⟨z6, y6⟩ := Prod.mk.inj y5
              obtain ⟨z7, y7⟩ := Prod.mk.inj y6
              obtain ⟨z8, y8⟩ := Prod.mk.inj y7
              subst z1 z2 z3 z4 z5 z6 z7 z8 y8
              exact hend _ _ _ _ rfl hP hS dX9_sort_79
          · rw [if_pos c14] at hf
            refine lv_aload_n hx hb dX9_sort_56 rfl (lv_at hl 1 rfl) ?_
            refine va_get (D := D) (cl := vwCl) (ci := 6) (v := .int q11.2.2) (C := RX9) (T := TX9) (N := 22) hx hb hts hin9 hown hK hP 0 rfl rfl 10 (by decide) (hts (.fieldLink RX9 140 "StepOrdersModel" "wrong" "I") (by decide +kernel)) (fun _ h9 => h9) rfl dX9_sort_57 ?_
            refine lv_goto (tgt := 79) hx hb dX9_sort_60 (by decide) ?_
            obtain ⟨z1, y1⟩ := Prod.mk.inj (Option.some.inj hf)
            obtain ⟨z2, y2⟩ := Prod.mk.inj y1
            obtain ⟨z3, y3⟩ := Prod.mk.inj y2
            obtain ⟨z4, y4⟩ := Prod.mk.inj y3
            obtain ⟨z5, y5⟩ := Prod.mk.inj y4
            obtain ⟨z6, y6⟩ := Prod.mk.inj y5
            obtain ⟨z7, y7⟩ := Prod.mk.inj y6
            obtain ⟨z8, y8⟩ := Prod.mk.inj y7
            subst z1 z2 z3 z4 z5 z6 z7 z8 y8
            exact hend _ _ _ _ rfl hP hS dX9_sort_79
        · rw [if_pos c13] at hf
          refine lv_iload_n hx hb dX9_sort_47 rfl (lv_at hl 0 rfl) ?_
          refine lv_goto (tgt := 79) hx hb dX9_sort_48 (by decide) ?_
          obtain ⟨z1, y1⟩ := Prod.mk.inj (Option.some.inj hf)
          obtain ⟨z2, y2⟩ := Prod.mk.inj y1
          obtain ⟨z3, y3⟩ := Prod.mk.inj y2
          obtain ⟨z4, y4⟩ := Prod.mk.inj y3
          obtain ⟨z5, y5⟩ := Prod.mk.inj y4
          obtain ⟨z6, y6⟩ := Prod.mk.inj y5
          obtain ⟨z7, y7⟩ := Prod.mk.inj y6
          obtain ⟨z8, y8⟩ := Prod.mk.inj y7
          subst z1 z2 z3 z4 z5 z6 z7 z8 y8
          exact hend _ _ _ _ rfl hP hS dX9_sort_79
      · rw [if_pos c10] at hf
        refine lv_aload_n hx hb dX9_sort_31 rfl (lv_at hl 0 rfl) ?_
        refine lv_bipush (v := (-3)) hx hb dX9_sort_32 (by decide) ?_
        refine kb_bind hf (fun q18 hq18 hf => ?_)
        have hPc : va_P D vwCl (wdM cI cZ h v_all v_past v_states v_refused q8.2.1 q8.2.2.1 q8.2.2.2.1 q8.2.2.2.2.1 q8.2.2.2.2.2 v_values v_wrong v_isEnd v_found v_reached v_stepIn v_laid v_firstRow v_text v_textLong v_spot v_taken v_counted) H := hP.sub [0, 1, 2, 3, 4, 5, 6, 7, 8, 9, 10, 11, 12, 13, 14, 15, 16] rfl
        have hDc : va_D A (wdM cI cZ h v_all v_past v_states v_refused q8.2.1 q8.2.2.1 q8.2.2.2.1 q8.2.2.2.2.1 q8.2.2.2.2.2 v_values v_wrong v_isEnd v_found v_reached v_stepIn v_laid v_firstRow v_text v_textLong v_spot v_taken v_counted) := hD.sub [0, 1, 2, 3, 4, 5, 6, 7, 8, 9, 10, 11, 12, 13, 14, 15, 16] (by decide) rfl
        refine kd_iW (ws' := wdM cI cZ h v_all v_past v_states q18.2 q8.2.1 q8.2.2.1 q8.2.2.2.1 q8.2.2.2.2.1 q8.2.2.2.2.2 v_values v_wrong v_isEnd v_found v_reached v_stepIn v_laid v_firstRow v_text v_textLong v_spot v_taken v_counted) (va_runV (As := [.int (-3 : Int32)]) (rest := []) ⟨hx, hb, hml, hown, hts⟩ (c9_refuses l D cB cI cZ cO h H.size (-3 : Int32) v_all v_past v_states v_refused q8.2.1 q8.2.2.1 q8.2.2.2.1 q8.2.2.2.2.1 q8.2.2.2.2.2 v_values v_wrong v_isEnd v_found v_reached v_stepIn v_laid v_firstRow v_text v_textLong v_spot v_taken v_counted q18.1 q18.2 hq18) (cwV 1 hts gX9_sort_X9_refuses rfl rfl rfl (by decide +kernel) ⟨Nat.le_of_ble_eq_true rfl, Nat.le_of_ble_eq_true rfl⟩) ⟨kb_blind, va_recv hK hPc (ci := 6) (q0 := 0) rfl rfl, kb_pre hPc hDc hK hN⟩ rfl rfl hl.1 rfl (lv_room (Nat.le_of_ble_eq_true rfl)) dX9_sort_34 ⟨Nat.le_refl _, Nat.le_refl _⟩) hP hD hS hA [0, 1, 2, 3, 4, 5, 6, 7, 8, 9, 10, 11, 12, 13, 14, 15, 16] [] rfl rfl (fun _ h9 => absurd h9 List.not_mem_nil) rfl rfl (fun H locs hn19 hP hD hS => ?_)
        obtain ⟨z1, y1⟩ := Prod.mk.inj (Option.some.inj hf)
        obtain ⟨z2, y2⟩ := Prod.mk.inj y1
        obtain ⟨z3, y3⟩ := Prod.mk.inj y2
        obtain ⟨z4, y4⟩ := Prod.mk.inj y3
        obtain ⟨z5, y5⟩ := Prod.mk.inj y4
        obtain ⟨z6, y6⟩ := Prod.mk.inj y5
        obtain ⟨z7, y7⟩ := Prod.mk.inj y6
        obtain ⟨z8, y8⟩ := Prod.mk.inj y7
        subst z1 z2 z3 z4 z5 z6 z7 z8 y8
        exact hend _ _ _ _ rfl hP hS dX9_sort_37
    · rw [if_pos c7] at hf
      exact J16 v_refused v_far v_row v_stepAt v_depth v_tries v_values v_wrong _ _ _ hf hP hD hS (lv_sub hl [0] rfl)

set_option maxHeartbeats 4000000 in
set_option maxRecDepth 100000 in
theorem c9_ends (l : Launch) (D : va_G) (cB cI cZ cO : ClassId) (h : Nat → Nat) (sz : Nat) (x1 : Int32) (v_all : Nat → Int32) (v_past : Nat → Int32) (v_states : Int32) (v_refused : Nat → Int32) (v_far : Nat → Int32) (v_row : Nat → Int32) (v_stepAt : Nat → Int32) (v_depth : Int32) (v_tries : Nat → Int32) (v_values : Nat → Int32) (v_wrong : Int32) (v_isEnd : Nat → Int32) (v_found : Nat → Int32) (v_reached : Nat → Int32) (v_stepIn : Nat → Int32) (v_laid : Nat → Int32) (v_firstRow : Nat → Int32) (v_text : Nat → Int32) (v_textLong : Int32) (v_spot : Int32) (v_taken : Int32) (v_counted : Nat → Int32) (r0 : Int32) (v_refused' : Nat → Int32) (v_far' : Nat → Int32) (v_row' : Nat → Int32) (v_stepAt' : Nat → Int32) (v_depth' : Int32) (v_tries' : Nat → Int32) (v_values' : Nat → Int32) (v_wrong' : Int32) (v_isEnd' : Nat → Int32) (v_found' : Nat → Int32) (hf : f9_ends v_all v_refused v_far v_row v_stepAt v_depth v_tries v_values v_wrong v_isEnd v_found x1 = some (r0, v_refused', v_far', v_row', v_stepAt', v_depth', v_tries', v_values', v_wrong', v_isEnd', v_found')) : Met l yX9_ends wsX9_ends rm9_ends (va_Pc [.ref (h 0), .int x1] (kb_B D (ka_tys cB cI cZ cO) sz (wdM cI cZ h v_all v_past v_states v_refused v_far v_row v_stepAt v_depth v_tries v_values v_wrong v_isEnd v_found v_reached v_stepIn v_laid v_firstRow v_text v_textLong v_spot v_taken v_counted))) (va_Qi (kb_post .int r0) (fun _ t => va_P D vwCl (wdM cI cZ h v_all v_past v_states (v_refused') (v_far') (v_row') (v_stepAt') (v_depth') (v_tries') (v_values') (v_wrong') (v_isEnd') (v_found') v_reached v_stepIn v_laid v_firstRow v_text v_textLong v_spot v_taken v_counted) t.heap) (va_A (wdM cI cZ h v_all v_past v_states v_refused v_far v_row v_stepAt v_depth v_tries v_values v_wrong v_isEnd v_found v_reached v_stepIn v_laid v_firstRow v_text v_textLong v_spot v_taken v_counted) sz)) 0 0 (va_A (wdM cI cZ h v_all v_past v_states v_refused v_far v_row v_stepAt v_depth v_tries v_values v_wrong v_isEnd v_found v_reached v_stepIn v_laid v_firstRow v_text v_textLong v_spot v_taken v_counted) sz) := by
  refine kb_metZ (cc := cX9_ends) (maxL := 4) (ty := .int) (by decide) rfl (Nat.le_of_ble_eq_true rfl) ?_
  intro p e s m args below meth c Q A ls H hx hb hml hown hts hK hN hP hD hS hA hl hend
  have hown : s.vm.findClass RX9 = some m.cls := hown
  have hl : lv_has ls 4 [(0, .ref (h 0)), (1, .int x1)] := hl
  have hin9 : ∀ w ∈ u_ws RX9 TX9 22, w ∈ wsX9_ends := by decide +kernel
  have J40 : ∀ (v_refused : Nat → Int32) (v_far : Nat → Int32) (v_row : Nat → Int32) (v_stepAt : Nat → Int32) (v_depth : Int32) (v_tries : Nat → Int32) (v_values : Nat → Int32) (v_wrong : Int32) (v_isEnd : Nat → Int32) (v_found : Nat → Int32) (x3 : Int32) (H : Heap) (locs : List Loc) (ls : Array Slot), f9_ends_b40 v_all v_refused v_far v_row v_stepAt v_depth v_tries v_values v_wrong v_isEnd v_found x3 = some (r0, v_refused', v_far', v_row', v_stepAt', v_depth', v_tries', v_values', v_wrong', v_isEnd', v_found') → va_P D vwCl (wdM cI cZ h v_all v_past v_states v_refused v_far v_row v_stepAt v_depth v_tries v_values v_wrong v_isEnd v_found v_reached v_stepIn v_laid v_firstRow v_text v_textLong v_spot v_taken v_counted) H → va_D A (wdM cI cZ h v_all v_past v_states v_refused v_far v_row v_stepAt v_depth v_tries v_values v_wrong v_isEnd v_found v_reached v_stepIn v_laid v_firstRow v_text v_textLong v_spot v_taken v_counted) → va_S A s.heap H locs → lv_has ls 4 [(3, .int x3)] → W p l e rm9_ends s m args below meth c H locs 0 0 Q (F0 m 40 ls []) := by
    intro v_refused v_far v_row v_stepAt v_depth v_tries v_values v_wrong v_isEnd v_found x3 H locs ls hf hP hD hS hl
    rw [f9_ends_b40] at hf
    refine lv_iload_n hx hb dX9_ends_40 rfl (lv_at hl 0 rfl) ?_
    obtain ⟨z1, y1⟩ := Prod.mk.inj (Option.some.inj hf)
    obtain ⟨z2, y2⟩ := Prod.mk.inj y1
    obtain ⟨z3, y3⟩ := Prod.mk.inj y2
    obtain ⟨z4, y4⟩ := Prod.mk.inj y3
    obtain ⟨z5, y5⟩ := Prod.mk.inj y4
    obtain ⟨z6, y6⟩ := Prod.mk.inj y5
    obtain ⟨z7, y7⟩ := Prod.mk.inj y6
    obtain ⟨z8, y8⟩ := Prod.mk.inj y7
    obtain ⟨z9, y9⟩ := Prod.mk.inj y8
    obtain ⟨z10, y10⟩ := Prod.mk.inj y9
    subst z1 z2 z3 z4 z5 z6 z7 z8 z9 z10 y10
    exact hend _ _ _ _ rfl hP hS dX9_ends_41
  have J51 : ∀ (v_refused : Nat → Int32) (v_far : Nat → Int32) (v_row : Nat → Int32) (v_stepAt : Nat → Int32) (v_depth : Int32) (v_tries : Nat → Int32) (v_values : Nat → Int32) (v_wrong : Int32) (v_isEnd : Nat → Int32) (v_found : Nat → Int32) (H : Heap) (locs : List Loc) (ls : Array Slot), f9_ends_b51 v_all v_refused v_far v_row v_stepAt v_depth v_tries v_values v_wrong v_isEnd v_found = some (r0, v_refused', v_far', v_row', v_stepAt', v_depth', v_tries', v_values', v_wrong', v_isEnd', v_found') → va_P D vwCl (wdM cI cZ h v_all v_past v_states v_refused v_far v_row v_stepAt v_depth v_tries v_values v_wrong v_isEnd v_found v_reached v_stepIn v_laid v_firstRow v_text v_textLong v_spot v_taken v_counted) H → va_D A (wdM cI cZ h v_all v_past v_states v_refused v_far v_row v_stepAt v_depth v_tries v_values v_wrong v_isEnd v_found v_reached v_stepIn v_laid v_firstRow v_text v_textLong v_spot v_taken v_counted) → va_S A s.heap H locs → lv_has ls 4 [] → W p l e rm9_ends s m args below meth c H locs 0 0 Q (F0 m 51 ls []) := by
    intro v_refused v_far v_row v_stepAt v_depth v_tries v_values v_wrong v_isEnd v_found H locs ls hf hP hD hS hl
    rw [f9_ends_b51] at hf
    refine lv_bipush (v := (-5)) hx hb dX9_ends_51 (by decide) ?_
    obtain ⟨z1, y1⟩ := Prod.mk.inj (Option.some.inj hf)
    obtain ⟨z2, y2⟩ := Prod.mk.inj y1
    obtain ⟨z3, y3⟩ := Prod.mk.inj y2
    obtain ⟨z4, y4⟩ := Prod.mk.inj y3
    obtain ⟨z5, y5⟩ := Prod.mk.inj y4
    obtain ⟨z6, y6⟩ := Prod.mk.inj y5
    obtain ⟨z7, y7⟩ := Prod.mk.inj y6
    obtain ⟨z8, y8⟩ := Prod.mk.inj y7
    obtain ⟨z9, y9⟩ := Prod.mk.inj y8
    obtain ⟨z10, y10⟩ := Prod.mk.inj y9
    subst z1 z2 z3 z4 z5 z6 z7 z8 z9 z10 y10
    exact hend _ _ _ _ rfl hP hS dX9_ends_53
  have J19 : ∀ (n : Nat) (v_refused : Nat → Int32) (v_far : Nat → Int32) (v_row : Nat → Int32) (v_stepAt : Nat → Int32) (v_depth : Int32) (v_tries : Nat → Int32) (v_values : Nat → Int32) (v_wrong : Int32) (v_isEnd : Nat → Int32) (v_found : Nat → Int32) (x1 : Int32) (x2 : Int32) (x3 : Int32) (H : Heap) (locs : List Loc) (ls : Array Slot), f9_ends_l19 n v_all v_refused v_far v_row v_stepAt v_depth v_tries v_values v_wrong v_isEnd v_found x1 x2 x3 = some (r0, v_refused', v_far', v_row', v_stepAt', v_depth', v_tries', v_values', v_wrong', v_isEnd', v_found') → va_P D vwCl (wdM cI cZ h v_all v_past v_states v_refused v_far v_row v_stepAt v_depth v_tries v_values v_wrong v_isEnd v_found v_reached v_stepIn v_laid v_firstRow v_text v_textLong v_spot v_taken v_counted) H → va_D A (wdM cI cZ h v_all v_past v_states v_refused v_far v_row v_stepAt v_depth v_tries v_values v_wrong v_isEnd v_found v_reached v_stepIn v_laid v_firstRow v_text v_textLong v_spot v_taken v_counted) → va_S A s.heap H locs → lv_has ls 4 [(0, .ref (h 0)), (1, .int x1), (2, .int x2), (3, .int x3)] → W p l e rm9_ends s m args below meth c H locs 0 0 Q (F0 m 19 ls []) := by
    intro n
    induction n with
    | zero =>
      intro v_refused v_far v_row v_stepAt v_depth v_tries v_values v_wrong v_isEnd v_found x1 x2 x3 H locs ls hf
      cases (show (none : Option (Int32 × (Nat → Int32) × (Nat → Int32) × (Nat → Int32) × (Nat → Int32) × Int32 × (Nat → Int32) × (Nat → Int32) × Int32 × (Nat → Int32) × (Nat → Int32))) = some (r0, v_refused', v_far', v_row', v_stepAt', v_depth', v_tries', v_values', v_wrong', v_isEnd', v_found') from hf)
    | succ n ih =>
      have J45 : ∀ (v_refused : Nat → Int32) (v_far : Nat → Int32) (v_row : Nat → Int32) (v_stepAt : Nat → Int32) (v_depth : Int32) (v_tries : Nat → Int32) (v_values : Nat → Int32) (v_wrong : Int32) (v_isEnd : Nat → Int32) (v_found : Nat → Int32) (x1 : Int32) (x2 : Int32) (x3 : Int32) (H : Heap) (locs : List Loc) (ls : Array Slot), f9_ends_b45 (f9_ends_l19 n) v_all v_refused v_far v_row v_stepAt v_depth v_tries v_values v_wrong v_isEnd v_found x1 x2 x3 = some (r0, v_refused', v_far', v_row', v_stepAt', v_depth', v_tries', v_values', v_wrong', v_isEnd', v_found') → va_P D vwCl (wdM cI cZ h v_all v_past v_states v_refused v_far v_row v_stepAt v_depth v_tries v_values v_wrong v_isEnd v_found v_reached v_stepIn v_laid v_firstRow v_text v_textLong v_spot v_taken v_counted) H → va_D A (wdM cI cZ h v_all v_past v_states v_refused v_far v_row v_stepAt v_depth v_tries v_values v_wrong v_isEnd v_found v_reached v_stepIn v_laid v_firstRow v_text v_textLong v_spot v_taken v_counted) → va_S A s.heap H locs → lv_has ls 4 [(0, .ref (h 0)), (1, .int x1), (2, .int x2), (3, .int x3)] → W p l e rm9_ends s m args below meth c H locs 0 0 Q (F0 m 45 ls []) := by
        intro v_refused v_far v_row v_stepAt v_depth v_tries v_values v_wrong v_isEnd v_found x1 x2 x3 H locs ls hf hP hD hS hl
        rw [f9_ends_b45] at hf
        refine lv_iinc (v := (x3 + 1)) (lv' := [(3, .int (x3 + 1)), (0, .ref (h 0)), (1, .int x1), (2, .int x2)]) hx hb dX9_ends_45 hl (k := 3) rfl rfl (by decide) rfl (fun ls hl => ?_)
        refine lv_goto (tgt := 19) hx hb dX9_ends_48 (by decide) ?_
        exact ih v_refused v_far v_row v_stepAt v_depth v_tries v_values v_wrong v_isEnd v_found x1 x2 (x3 + 1) _ _ _ hf hP hD hS (lv_sub hl [1, 2, 3, 0] rfl)
      intro v_refused v_far v_row v_stepAt v_depth v_tries v_values v_wrong v_isEnd v_found x1 x2 x3 H locs ls hf hP hD hS hl
      rw [f9_ends_l19_s] at hf
      refine lv_iload_n hx hb dX9_ends_19 rfl (lv_at hl 3 rfl) ?_
      refine lv_sipush (v := 10000) hx hb dX9_ends_20 (by decide) ?_
      refine lv_icmp_ge (tgt := 51) hx hb dX9_ends_23 (by decide) (fun c5 => ?_) (fun c5 => ?_)
      · rw [if_pos c5] at hf
        exact J51 v_refused v_far v_row v_stepAt v_depth v_tries v_values v_wrong v_isEnd v_found _ _ _ hf hP hD hS (lv_sub hl [] rfl)
      · rw [if_neg c5] at hf
        refine lv_aload_n hx hb dX9_ends_26 rfl (lv_at hl 0 rfl) ?_
        refine va_get (D := D) (cl := vwCl) (ci := 6) (v := .ref (h 9)) (C := RX9) (T := TX9) (N := 22) hx hb hts hin9 hown hK hP 0 rfl rfl 11 (by decide) (hts (.fieldLink RX9 34 "StepOrdersModel" "isEnd" "[Z") (by decide +kernel)) (fun _ h9 => h9) rfl dX9_ends_27 ?_
        refine lv_iload_n hx hb dX9_ends_30 rfl (lv_at hl 3 rfl) ?_
        refine kb_bind hf (fun v6 hv6 hf => ?_)
        refine ka_zald (D := D) (cl := vwCl) hx hb hK hP 9 2 (f := v_isEnd) rfl rfl (ard_in hv6) (ard_v hv6) dX9_ends_31 ?_
        refine lv_if_eq (tgt := 45) hx hb dX9_ends_32 (by decide) (fun c7 => ?_) (fun c7 => ?_)
        · rw [if_pos c7] at hf
          exact J45 v_refused v_far v_row v_stepAt v_depth v_tries v_values v_wrong v_isEnd v_found x1 x2 x3 _ _ _ hf hP hD hS (lv_sub hl [0, 1, 2, 3] rfl)
        · rw [if_neg c7] at hf
          refine lv_iload_n hx hb dX9_ends_35 rfl (lv_at hl 2 rfl) ?_
          refine lv_iload_n hx hb dX9_ends_36 rfl (lv_at hl 1 rfl) ?_
          refine lv_icmp_ne (tgt := 42) hx hb dX9_ends_37 (by decide) (fun c8 => ?_) (fun c8 => ?_)
          · rw [if_neg c8] at hf
            refine lv_iinc (v := (x2 + 1)) (lv' := [(2, .int (x2 + 1)), (0, .ref (h 0)), (1, .int x1), (3, .int x3)]) hx hb dX9_ends_42 hl (k := 2) rfl rfl (by decide) rfl (fun ls hl => ?_)
            exact J45 v_refused v_far v_row v_stepAt v_depth v_tries v_values v_wrong v_isEnd v_found x1 (x2 + 1) x3 _ _ _ hf hP hD hS (lv_sub hl [1, 2, 0, 3] rfl)
          · rw [if_pos c8] at hf
            exact J40 v_refused v_far v_row v_stepAt v_depth v_tries v_values v_wrong v_isEnd v_found x3 _ _ _ hf hP hD hS (lv_sub hl [3] rfl)
  rw [f9_ends] at hf
  refine lv_iload_n hx hb dX9_ends_0 rfl (lv_at hl 1 rfl) ?_
  refine lv_if_ge (tgt := 11) hx hb dX9_ends_1 (by decide) (fun c9 => ?_) (fun c9 => ?_)
  · rw [if_pos c9] at hf
    refine lv_aload_n hx hb dX9_ends_11 rfl (lv_at hl 0 rfl) ?_
    refine kb_bind hf (fun q10 hq10 hf => ?_)
    have hPc : va_P D vwCl (wdM cI cZ h v_all v_past v_states v_refused v_far v_row v_stepAt v_depth v_tries v_values v_wrong v_isEnd v_found v_reached v_stepIn v_laid v_firstRow v_text v_textLong v_spot v_taken v_counted) H := hP.sub [0, 1, 2, 3, 4, 5, 6, 7, 8, 9, 10, 11, 12, 13, 14, 15, 16] rfl
    have hDc : va_D A (wdM cI cZ h v_all v_past v_states v_refused v_far v_row v_stepAt v_depth v_tries v_values v_wrong v_isEnd v_found v_reached v_stepIn v_laid v_firstRow v_text v_textLong v_spot v_taken v_counted) := hD.sub [0, 1, 2, 3, 4, 5, 6, 7, 8, 9, 10, 11, 12, 13, 14, 15, 16] (by decide) rfl
    refine kd_vW (ws' := wdM cI cZ h v_all v_past v_states v_refused q10.1 q10.2.1 q10.2.2.1 q10.2.2.2.1 q10.2.2.2.2.1 q10.2.2.2.2.2.1 q10.2.2.2.2.2.2.1 q10.2.2.2.2.2.2.2.1 q10.2.2.2.2.2.2.2.2 v_reached v_stepIn v_laid v_firstRow v_text v_textLong v_spot v_taken v_counted) (va_runV (As := []) (rest := []) ⟨hx, hb, hml, hown, hts⟩ (c9_findsAll l D cB cI cZ cO h H.size v_all v_past v_states v_refused v_far v_row v_stepAt v_depth v_tries v_values v_wrong v_isEnd v_found v_reached v_stepIn v_laid v_firstRow v_text v_textLong v_spot v_taken v_counted q10.1 q10.2.1 q10.2.2.1 q10.2.2.2.1 q10.2.2.2.2.1 q10.2.2.2.2.2.1 q10.2.2.2.2.2.2.1 q10.2.2.2.2.2.2.2.1 q10.2.2.2.2.2.2.2.2 hq10) (cwV 0 hts gX9_ends_X9_findsAll rfl rfl rfl (by decide +kernel) ⟨Nat.le_of_ble_eq_true rfl, Nat.le_of_ble_eq_true rfl⟩) ⟨kb_blind, va_recv hK hPc (ci := 6) (q0 := 0) rfl rfl, kb_pre hPc hDc hK hN⟩ rfl rfl hl.1 rfl (lv_room (Nat.le_of_ble_eq_true rfl)) dX9_ends_12 ⟨Nat.le_refl _, Nat.le_refl _⟩) hP hD hS hA [0, 1, 2, 3, 4, 5, 6, 7, 8, 9, 10, 11, 12, 13, 14, 15, 16] [] rfl rfl (fun _ h9 => absurd h9 List.not_mem_nil) rfl rfl (fun H locs hP hD hS => ?_)
    refine lv_iconst (v := 0) hx hb dX9_ends_15 (by decide) ?_
    refine lv_istore_n (lv' := [(2, .int (0 : Int32)), (0, .ref (h 0)), (1, .int x1)]) hx hb dX9_ends_16 rfl hl (by decide) rfl (fun ls hl => ?_)
    refine lv_iconst (v := 0) hx hb dX9_ends_17 (by decide) ?_
    refine lv_istore_n (lv' := [(3, .int (0 : Int32)), (2, .int (0 : Int32)), (0, .ref (h 0)), (1, .int x1)]) hx hb dX9_ends_18 rfl hl (by decide) rfl (fun ls hl => ?_)
    exact J19 kFUEL v_refused q10.1 q10.2.1 q10.2.2.1 q10.2.2.2.1 q10.2.2.2.2.1 q10.2.2.2.2.2.1 q10.2.2.2.2.2.2.1 q10.2.2.2.2.2.2.2.1 q10.2.2.2.2.2.2.2.2 x1 (0 : Int32) (0 : Int32) _ _ _ hf hP hD hS (lv_sub hl [2, 3, 1, 0] rfl)
  · rw [if_neg c9] at hf
    refine lv_aload_n hx hb dX9_ends_4 rfl (lv_at hl 0 rfl) ?_
    refine lv_bipush (v := (-2)) hx hb dX9_ends_5 (by decide) ?_
    refine kb_bind hf (fun q11 hq11 hf => ?_)
    have hPc : va_P D vwCl (wdM cI cZ h v_all v_past v_states v_refused v_far v_row v_stepAt v_depth v_tries v_values v_wrong v_isEnd v_found v_reached v_stepIn v_laid v_firstRow v_text v_textLong v_spot v_taken v_counted) H := hP.sub [0, 1, 2, 3, 4, 5, 6, 7, 8, 9, 10, 11, 12, 13, 14, 15, 16] rfl
    have hDc : va_D A (wdM cI cZ h v_all v_past v_states v_refused v_far v_row v_stepAt v_depth v_tries v_values v_wrong v_isEnd v_found v_reached v_stepIn v_laid v_firstRow v_text v_textLong v_spot v_taken v_counted) := hD.sub [0, 1, 2, 3, 4, 5, 6, 7, 8, 9, 10, 11, 12, 13, 14, 15, 16] (by decide) rfl
    refine kd_iW (ws' := wdM cI cZ h v_all v_past v_states q11.2 v_far v_row v_stepAt v_depth v_tries v_values v_wrong v_isEnd v_found v_reached v_stepIn v_laid v_firstRow v_text v_textLong v_spot v_taken v_counted) (va_runV (As := [.int (-2 : Int32)]) (rest := []) ⟨hx, hb, hml, hown, hts⟩ (c9_refuses l D cB cI cZ cO h H.size (-2 : Int32) v_all v_past v_states v_refused v_far v_row v_stepAt v_depth v_tries v_values v_wrong v_isEnd v_found v_reached v_stepIn v_laid v_firstRow v_text v_textLong v_spot v_taken v_counted q11.1 q11.2 hq11) (cwV 1 hts gX9_ends_X9_refuses rfl rfl rfl (by decide +kernel) ⟨Nat.le_of_ble_eq_true rfl, Nat.le_of_ble_eq_true rfl⟩) ⟨kb_blind, va_recv hK hPc (ci := 6) (q0 := 0) rfl rfl, kb_pre hPc hDc hK hN⟩ rfl rfl hl.1 rfl (lv_room (Nat.le_of_ble_eq_true rfl)) dX9_ends_7 ⟨Nat.le_refl _, Nat.le_refl _⟩) hP hD hS hA [0, 1, 2, 3, 4, 5, 6, 7, 8, 9, 10, 11, 12, 13, 14, 15, 16] [] rfl rfl (fun _ h9 => absurd h9 List.not_mem_nil) rfl rfl (fun H locs hn12 hP hD hS => ?_)
    obtain ⟨z1, y1⟩ := Prod.mk.inj (Option.some.inj hf)
    obtain ⟨z2, y2⟩ := Prod.mk.inj y1
    obtain ⟨z3, y3⟩ := Prod.mk.inj y2
    obtain ⟨z4, y4⟩ := Prod.mk.inj y3
    obtain ⟨z5, y5⟩ := Prod.mk.inj y4
    obtain ⟨z6, y6⟩ := Prod.mk.inj y5
    obtain ⟨z7, y7⟩ := Prod.mk.inj y6
    obtain ⟨z8, y8⟩ := Prod.mk.inj y7
    obtain ⟨z9, y9⟩ := Prod.mk.inj y8
    obtain ⟨z10, y10⟩ := Prod.mk.inj y9
    subst z1 z2 z3 z4 z5 z6 z7 z8 z9 z10 y10
    exact hend _ _ _ _ rfl hP hS dX9_ends_10
