set_option maxHeartbeats 4000000 in
set_option maxRecDepth 100000 in
theorem c9_isNext (l : Launch) (D : va_G) (cB cI cZ cO : ClassId) (h : Nat → Nat) (sz : Nat) (x1 : Int32) (v_all : Nat → Int32) (v_past : Nat → Int32) (v_states : Int32) (v_refused : Nat → Int32) (v_far : Nat → Int32) (v_row : Nat → Int32) (v_stepAt : Nat → Int32) (v_depth : Int32) (v_tries : Nat → Int32) (v_values : Nat → Int32) (v_wrong : Int32) (v_isEnd : Nat → Int32) (v_found : Nat → Int32) (v_reached : Nat → Int32) (v_stepIn : Nat → Int32) (v_laid : Nat → Int32) (v_firstRow : Nat → Int32) (v_text : Nat → Int32) (v_textLong : Int32) (v_spot : Int32) (v_taken : Int32) (v_counted : Nat → Int32) (r0 : Int32) (hf : f9_isNext v_all v_stepIn v_laid x1 = some r0) : Met l yX9_isNext wsX9_isNext rm9_isNext (va_Pc [.ref (h 0), .int x1] (kb_B D (ka_tys cB cI cZ cO) sz (wdM cI cZ h v_all v_past v_states v_refused v_far v_row v_stepAt v_depth v_tries v_values v_wrong v_isEnd v_found v_reached v_stepIn v_laid v_firstRow v_text v_textLong v_spot v_taken v_counted))) (va_Qi (kb_post .boolean r0) (fun _ t => va_P D vwCl (wdM cI cZ h v_all v_past v_states v_refused v_far v_row v_stepAt v_depth v_tries v_values v_wrong v_isEnd v_found v_reached v_stepIn v_laid v_firstRow v_text v_textLong v_spot v_taken v_counted) t.heap) (va_A (wdM cI cZ h v_all v_past v_states v_refused v_far v_row v_stepAt v_depth v_tries v_values v_wrong v_isEnd v_found v_reached v_stepIn v_laid v_firstRow v_text v_textLong v_spot v_taken v_counted) sz)) 0 0 (va_A (wdM cI cZ h v_all v_past v_states v_refused v_far v_row v_stepAt v_depth v_tries v_values v_wrong v_isEnd v_found v_reached v_stepIn v_laid v_firstRow v_text v_textLong v_spot v_taken v_counted) sz) := by
  refine kb_metZ (cc := cX9_isNext) (maxL := 4) (ty := .boolean) (by decide) rfl (Nat.le_of_ble_eq_true rfl) ?_
  intro p e s m args below meth c Q A ls H hx hb hml hown hts hK hN hP hD hS hA hl hend
  have hown : s.vm.findClass RX9 = some m.cls := hown
  have hl : lv_has ls 4 [(0, .ref (h 0)), (1, .int x1)] := hl
  have hnr : narrow .boolean (.int r0) = .int r0 := b9_isNext hf
  have hin9 : ∀ w ∈ u_ws RX9 TX9 22, w ∈ wsX9_isNext := by decide +kernel
  have J84 : ∀ (x2 : Int32) (H : Heap) (locs : List Loc) (ls : Array Slot), f9_isNext_b84 v_all v_stepIn v_laid x2 = some r0 → va_P D vwCl (wdM cI cZ h v_all v_past v_states v_refused v_far v_row v_stepAt v_depth v_tries v_values v_wrong v_isEnd v_found v_reached v_stepIn v_laid v_firstRow v_text v_textLong v_spot v_taken v_counted) H → va_D A (wdM cI cZ h v_all v_past v_states v_refused v_far v_row v_stepAt v_depth v_tries v_values v_wrong v_isEnd v_found v_reached v_stepIn v_laid v_firstRow v_text v_textLong v_spot v_taken v_counted) → va_S A s.heap H locs → lv_has ls 4 [(2, .int x2)] → W p l e rm9_isNext s m args below meth c H locs 0 0 Q (F0 m 84 ls []) := by
    intro x2 H locs ls hf hP hD hS hl
    rw [f9_isNext_b84] at hf
    refine lv_iload_n hx hb dX9_isNext_84 rfl (lv_at hl 0 rfl) ?_
    obtain rfl := Option.some.inj hf
    exact hend _ _ _ _ hnr hP hS dX9_isNext_85
  have J17 : ∀ (n : Nat) (x1 : Int32) (x2 : Int32) (x3 : Int32) (H : Heap) (locs : List Loc) (ls : Array Slot), f9_isNext_l17 n v_all v_stepIn v_laid x1 x2 x3 = some r0 → va_P D vwCl (wdM cI cZ h v_all v_past v_states v_refused v_far v_row v_stepAt v_depth v_tries v_values v_wrong v_isEnd v_found v_reached v_stepIn v_laid v_firstRow v_text v_textLong v_spot v_taken v_counted) H → va_D A (wdM cI cZ h v_all v_past v_states v_refused v_far v_row v_stepAt v_depth v_tries v_values v_wrong v_isEnd v_found v_reached v_stepIn v_laid v_firstRow v_text v_textLong v_spot v_taken v_counted) → va_S A s.heap H locs → lv_has ls 4 [(0, .ref (h 0)), (1, .int x1), (2, .int x2), (3, .int x3)] → W p l e rm9_isNext s m args below meth c H locs 0 0 Q (F0 m 17 ls []) := by
    intro n
    induction n with
    | zero =>
      intro x1 x2 x3 H locs ls hf
      cases (show (none : Option (Int32)) = some r0 from hf)
    | succ n ih =>
      have J77 : ∀ (x1 : Int32) (x3 : Int32) (s0 : Int32) (H : Heap) (locs : List Loc) (ls : Array Slot), f9_isNext_b77 (f9_isNext_l17 n) v_all v_stepIn v_laid x1 x3 s0 = some r0 → va_P D vwCl (wdM cI cZ h v_all v_past v_states v_refused v_far v_row v_stepAt v_depth v_tries v_values v_wrong v_isEnd v_found v_reached v_stepIn v_laid v_firstRow v_text v_textLong v_spot v_taken v_counted) H → va_D A (wdM cI cZ h v_all v_past v_states v_refused v_far v_row v_stepAt v_depth v_tries v_values v_wrong v_isEnd v_found v_reached v_stepIn v_laid v_firstRow v_text v_textLong v_spot v_taken v_counted) → va_S A s.heap H locs → lv_has ls 4 [(0, .ref (h 0)), (1, .int x1), (3, .int x3)] → W p l e rm9_isNext s m args below meth c H locs 0 0 Q (F0 m 77 ls [.int s0]) := by
        intro x1 x3 s0 H locs ls hf hP hD hS hl
        rw [f9_isNext_b77] at hf
        refine lv_istore_n (lv' := [(2, .int s0), (0, .ref (h 0)), (1, .int x1), (3, .int x3)]) hx hb dX9_isNext_77 rfl hl (by decide) rfl (fun ls hl => ?_)
        refine lv_iinc (v := (x3 + 1)) (lv' := [(3, .int (x3 + 1)), (2, .int s0), (0, .ref (h 0)), (1, .int x1)]) hx hb dX9_isNext_78 hl (k := 3) rfl rfl (by decide) rfl (fun ls hl => ?_)
        refine lv_goto (tgt := 17) hx hb dX9_isNext_81 (by decide) ?_
        exact ih x1 s0 (x3 + 1) _ _ _ hf hP hD hS (lv_sub hl [2, 3, 1, 0] rfl)
      have J72 : ∀ (x1 : Int32) (x3 : Int32) (H : Heap) (locs : List Loc) (ls : Array Slot), f9_isNext_b72 (f9_isNext_l17 n) v_all v_stepIn v_laid x1 x3 = some r0 → va_P D vwCl (wdM cI cZ h v_all v_past v_states v_refused v_far v_row v_stepAt v_depth v_tries v_values v_wrong v_isEnd v_found v_reached v_stepIn v_laid v_firstRow v_text v_textLong v_spot v_taken v_counted) H → va_D A (wdM cI cZ h v_all v_past v_states v_refused v_far v_row v_stepAt v_depth v_tries v_values v_wrong v_isEnd v_found v_reached v_stepIn v_laid v_firstRow v_text v_textLong v_spot v_taken v_counted) → va_S A s.heap H locs → lv_has ls 4 [(0, .ref (h 0)), (1, .int x1), (3, .int x3)] → W p l e rm9_isNext s m args below meth c H locs 0 0 Q (F0 m 72 ls []) := by
        intro x1 x3 H locs ls hf hP hD hS hl
        rw [f9_isNext_b72] at hf
        refine lv_iconst (v := 1) hx hb dX9_isNext_72 (by decide) ?_
        refine lv_goto (tgt := 77) hx hb dX9_isNext_73 (by decide) ?_
        exact J77 x1 x3 (1 : Int32) _ _ _ hf hP hD hS (lv_sub hl [0, 1, 2] rfl)
      intro x1 x2 x3 H locs ls hf hP hD hS hl
      rw [f9_isNext_l17_s] at hf
      refine lv_iload_n hx hb dX9_isNext_17 rfl (lv_at hl 3 rfl) ?_
      refine lv_iload_n hx hb dX9_isNext_18 rfl (lv_at hl 1 rfl) ?_
      refine lv_icmp_ge (tgt := 84) hx hb dX9_isNext_19 (by decide) (fun c12 => ?_) (fun c12 => ?_)
      · rw [if_pos c12] at hf
        exact J84 x2 _ _ _ hf hP hD hS (lv_sub hl [2] rfl)
      · rw [if_neg c12] at hf
        refine lv_iload_n hx hb dX9_isNext_22 rfl (lv_at hl 2 rfl) ?_
        refine lv_if_eq (tgt := 84) hx hb dX9_isNext_23 (by decide) (fun c13 => ?_) (fun c13 => ?_)
        · rw [if_pos c13] at hf
          exact J84 x2 _ _ _ hf hP hD hS (lv_sub hl [2] rfl)
        · rw [if_neg c13] at hf
          refine lv_aload_n hx hb dX9_isNext_26 rfl (lv_at hl 0 rfl) ?_
          refine va_get (D := D) (cl := vwCl) (ci := 6) (v := .ref (h 13)) (C := RX9) (T := TX9) (N := 22) hx hb hts hin9 hown hK hP 0 rfl rfl 15 (by decide) (hts (.fieldLink RX9 47 "StepOrdersModel" "laid" "[Z") (by decide +kernel)) (fun _ h9 => h9) rfl dX9_isNext_27 ?_
          refine lv_iload_n hx hb dX9_isNext_30 rfl (lv_at hl 3 rfl) ?_
          refine kb_bind hf (fun v14 hv14 hf => ?_)
          refine ka_zald (D := D) (cl := vwCl) hx hb hK hP 13 2 (f := v_laid) rfl rfl (ard_in hv14) (ard_v hv14) dX9_isNext_31 ?_
          refine lv_if_ne (tgt := 72) hx hb dX9_isNext_32 (by decide) (fun c15 => ?_) (fun c15 => ?_)
          · rw [if_neg c15] at hf
            exact J72 x1 x3 _ _ _ hf hP hD hS (lv_sub hl [0, 1, 3] rfl)
          · rw [if_pos c15] at hf
            refine lv_aload_n hx hb dX9_isNext_35 rfl (lv_at hl 0 rfl) ?_
            refine lv_aload_n hx hb dX9_isNext_36 rfl (lv_at hl 0 rfl) ?_
            refine va_get (D := D) (cl := vwCl) (ci := 6) (v := .ref (h 1)) (C := RX9) (T := TX9) (N := 22) hx hb hts hin9 hown hK hP 0 rfl rfl 0 (by decide) (hts (.fieldLink RX9 7 "StepOrdersModel" "all" "[I") (by decide +kernel)) (fun _ h9 => h9) rfl dX9_isNext_37 ?_
            refine lv_bipush (v := 44) hx hb dX9_isNext_40 (by decide) ?_
            refine lv_iload_n hx hb dX9_isNext_42 rfl (lv_at hl 3 rfl) ?_
            refine lv_iadd hx hb dX9_isNext_43 ?_
            refine kb_bind hf (fun v16 hv16 hf => ?_)
            refine ka_iald (D := D) (cl := vwCl) hx hb hK hP 1 1 (f := v_all) rfl rfl (ard_in hv16) (ard_v hv16) dX9_isNext_44 ?_
            refine lv_aload_n hx hb dX9_isNext_45 rfl (lv_at hl 0 rfl) ?_
            refine va_get (D := D) (cl := vwCl) (ci := 6) (v := .ref (h 12)) (C := RX9) (T := TX9) (N := 22) hx hb hts hin9 hown hK hP 0 rfl rfl 14 (by decide) (hts (.fieldLink RX9 44 "StepOrdersModel" "stepIn" "[I") (by decide +kernel)) (fun _ h9 => h9) rfl dX9_isNext_46 ?_
            refine lv_iload_n hx hb dX9_isNext_49 rfl (lv_at hl 3 rfl) ?_
            refine kb_bind hf (fun v17 hv17 hf => ?_)
            refine ka_iald (D := D) (cl := vwCl) hx hb hK hP 12 1 (f := v_stepIn) rfl rfl (ard_in hv17) (ard_v hv17) dX9_isNext_50 ?_
            refine lv_aload_n hx hb dX9_isNext_51 rfl (lv_at hl 0 rfl) ?_
            refine va_get (D := D) (cl := vwCl) (ci := 6) (v := .ref (h 1)) (C := RX9) (T := TX9) (N := 22) hx hb hts hin9 hown hK hP 0 rfl rfl 0 (by decide) (hts (.fieldLink RX9 7 "StepOrdersModel" "all" "[I") (by decide +kernel)) (fun _ h9 => h9) rfl dX9_isNext_52 ?_
            refine lv_bipush (v := 44) hx hb dX9_isNext_55 (by decide) ?_
            refine lv_iload_n hx hb dX9_isNext_57 rfl (lv_at hl 1 rfl) ?_
            refine lv_iadd hx hb dX9_isNext_58 ?_
            refine kb_bind hf (fun v18 hv18 hf => ?_)
            refine ka_iald (D := D) (cl := vwCl) hx hb hK hP 1 1 (f := v_all) rfl rfl (ard_in hv18) (ard_v hv18) dX9_isNext_59 ?_
            refine lv_aload_n hx hb dX9_isNext_60 rfl (lv_at hl 0 rfl) ?_
            refine va_get (D := D) (cl := vwCl) (ci := 6) (v := .ref (h 12)) (C := RX9) (T := TX9) (N := 22) hx hb hts hin9 hown hK hP 0 rfl rfl 14 (by decide) (hts (.fieldLink RX9 44 "StepOrdersModel" "stepIn" "[I") (by decide +kernel)) (fun _ h9 => h9) rfl dX9_isNext_61 ?_
            refine lv_iload_n hx hb dX9_isNext_64 rfl (lv_at hl 1 rfl) ?_
            refine kb_bind hf (fun v19 hv19 hf => ?_)
            refine ka_iald (D := D) (cl := vwCl) hx hb hK hP 12 1 (f := v_stepIn) rfl rfl (ard_in hv19) (ard_v hv19) dX9_isNext_65 ?_
            refine kb_bind hf (fun q20 hq20 hf => ?_)
            have hPc : va_P D vwCl (wdM cI cZ h v_all v_past v_states v_refused v_far v_row v_stepAt v_depth v_tries v_values v_wrong v_isEnd v_found v_reached v_stepIn v_laid v_firstRow v_text v_textLong v_spot v_taken v_counted) H := hP.sub [0, 1, 2, 3, 4, 5, 6, 7, 8, 9, 10, 11, 12, 13, 14, 15, 16] rfl
            have hDc : va_D A (wdM cI cZ h v_all v_past v_states v_refused v_far v_row v_stepAt v_depth v_tries v_values v_wrong v_isEnd v_found v_reached v_stepIn v_laid v_firstRow v_text v_textLong v_spot v_taken v_counted) := hD.sub [0, 1, 2, 3, 4, 5, 6, 7, 8, 9, 10, 11, 12, 13, 14, 15, 16] (by decide) rfl
            refine kd_iR (va_runV (As := [.int v16, .int v17, .int v18, .int v19]) (rest := []) ⟨hx, hb, hml, hown, hts⟩ (c9_areDependent l D cB cI cZ cO h H.size v16 v17 v18 v19 v_all v_past v_states v_refused v_far v_row v_stepAt v_depth v_tries v_values v_wrong v_isEnd v_found v_reached v_stepIn v_laid v_firstRow v_text v_textLong v_spot v_taken v_counted q20 hq20) (cwV 4 hts gX9_isNext_X9_areDependent rfl rfl rfl (by decide +kernel) ⟨Nat.le_of_ble_eq_true rfl, Nat.le_of_ble_eq_true rfl⟩) ⟨kb_blind, va_recv hK hPc (ci := 6) (q0 := 0) rfl rfl, kb_pre hPc hDc hK hN⟩ rfl rfl hl.1 rfl (lv_room (Nat.le_of_ble_eq_true rfl)) dX9_isNext_66 ⟨Nat.le_refl _, Nat.le_refl _⟩) hP hD hS hA [0, 1, 2, 3, 4, 5, 6, 7, 8, 9, 10, 11, 12, 13, 14, 15, 16] rfl (fun H locs hn21 hP hS => ?_)
            refine lv_if_ne (tgt := 76) hx hb dX9_isNext_69 (by decide) (fun c22 => ?_) (fun c22 => ?_)
            · rw [if_neg c22] at hf
              refine lv_iconst (v := 0) hx hb dX9_isNext_76 (by decide) ?_
              exact J77 x1 x3 (0 : Int32) _ _ _ hf hP hD hS (lv_sub hl [0, 1, 3] rfl)
            · rw [if_pos c22] at hf
              exact J72 x1 x3 _ _ _ hf hP hD hS (lv_sub hl [0, 1, 3] rfl)
  have J14 : ∀ (x1 : Int32) (s0 : Int32) (H : Heap) (locs : List Loc) (ls : Array Slot), f9_isNext_b14 v_all v_stepIn v_laid x1 s0 = some r0 → va_P D vwCl (wdM cI cZ h v_all v_past v_states v_refused v_far v_row v_stepAt v_depth v_tries v_values v_wrong v_isEnd v_found v_reached v_stepIn v_laid v_firstRow v_text v_textLong v_spot v_taken v_counted) H → va_D A (wdM cI cZ h v_all v_past v_states v_refused v_far v_row v_stepAt v_depth v_tries v_values v_wrong v_isEnd v_found v_reached v_stepIn v_laid v_firstRow v_text v_textLong v_spot v_taken v_counted) → va_S A s.heap H locs → lv_has ls 4 [(0, .ref (h 0)), (1, .int x1)] → W p l e rm9_isNext s m args below meth c H locs 0 0 Q (F0 m 14 ls [.int s0]) := by
    intro x1 s0 H locs ls hf hP hD hS hl
    rw [f9_isNext_b14] at hf
    refine lv_istore_n (lv' := [(2, .int s0), (0, .ref (h 0)), (1, .int x1)]) hx hb dX9_isNext_14 rfl hl (by decide) rfl (fun ls hl => ?_)
    refine lv_iconst (v := 0) hx hb dX9_isNext_15 (by decide) ?_
    refine lv_istore_n (lv' := [(3, .int (0 : Int32)), (2, .int s0), (0, .ref (h 0)), (1, .int x1)]) hx hb dX9_isNext_16 rfl hl (by decide) rfl (fun ls hl => ?_)
    exact J17 kFUEL x1 s0 (0 : Int32) _ _ _ hf hP hD hS (lv_sub hl [2, 3, 1, 0] rfl)
  rw [f9_isNext] at hf
  refine lv_aload_n hx hb dX9_isNext_0 rfl (lv_at hl 0 rfl) ?_
  refine va_get (D := D) (cl := vwCl) (ci := 6) (v := .ref (h 13)) (C := RX9) (T := TX9) (N := 22) hx hb hts hin9 hown hK hP 0 rfl rfl 15 (by decide) (hts (.fieldLink RX9 47 "StepOrdersModel" "laid" "[Z") (by decide +kernel)) (fun _ h9 => h9) rfl dX9_isNext_1 ?_
  refine lv_iload_n hx hb dX9_isNext_4 rfl (lv_at hl 1 rfl) ?_
  refine kb_bind hf (fun v23 hv23 hf => ?_)
  refine ka_zald (D := D) (cl := vwCl) hx hb hK hP 13 2 (f := v_laid) rfl rfl (ard_in hv23) (ard_v hv23) dX9_isNext_5 ?_
  refine lv_if_ne (tgt := 13) hx hb dX9_isNext_6 (by decide) (fun c24 => ?_) (fun c24 => ?_)
  · rw [if_neg c24] at hf
    refine lv_iconst (v := 0) hx hb dX9_isNext_13 (by decide) ?_
    exact J14 x1 (0 : Int32) _ _ _ hf hP hD hS (lv_sub hl [0, 1] rfl)
  · rw [if_pos c24] at hf
    refine lv_iconst (v := 1) hx hb dX9_isNext_9 (by decide) ?_
    refine lv_goto (tgt := 14) hx hb dX9_isNext_10 (by decide) ?_
    exact J14 x1 (1 : Int32) _ _ _ hf hP hD hS (lv_sub hl [0, 1] rfl)

set_option maxHeartbeats 4000000 in
set_option maxRecDepth 100000 in
theorem c9_laysFirst (l : Launch) (D : va_G) (cB cI cZ cO : ClassId) (h : Nat → Nat) (sz : Nat) (v_all : Nat → Int32) (v_past : Nat → Int32) (v_states : Int32) (v_refused : Nat → Int32) (v_far : Nat → Int32) (v_row : Nat → Int32) (v_stepAt : Nat → Int32) (v_depth : Int32) (v_tries : Nat → Int32) (v_values : Nat → Int32) (v_wrong : Int32) (v_isEnd : Nat → Int32) (v_found : Nat → Int32) (v_reached : Nat → Int32) (v_stepIn : Nat → Int32) (v_laid : Nat → Int32) (v_firstRow : Nat → Int32) (v_text : Nat → Int32) (v_textLong : Int32) (v_spot : Int32) (v_taken : Int32) (v_counted : Nat → Int32) (v_far' : Nat → Int32) (v_depth' : Int32) (v_tries' : Nat → Int32) (v_stepIn' : Nat → Int32) (v_laid' : Nat → Int32) (v_firstRow' : Nat → Int32) (hf : f9_laysFirst v_all v_far v_depth v_tries v_stepIn v_laid v_firstRow = some (v_far', v_depth', v_tries', v_stepIn', v_laid', v_firstRow')) : Met l yX9_laysFirst wsX9_laysFirst rm9_laysFirst (va_Pc [.ref (h 0)] (kb_B D (ka_tys cB cI cZ cO) sz (wdM cI cZ h v_all v_past v_states v_refused v_far v_row v_stepAt v_depth v_tries v_values v_wrong v_isEnd v_found v_reached v_stepIn v_laid v_firstRow v_text v_textLong v_spot v_taken v_counted))) (va_Qv (fun (_ : Unit) => True) (fun _ t => va_P D vwCl (wdM cI cZ h v_all v_past v_states v_refused (v_far') v_row v_stepAt (v_depth') (v_tries') v_values v_wrong v_isEnd v_found v_reached (v_stepIn') (v_laid') (v_firstRow') v_text v_textLong v_spot v_taken v_counted) t.heap) (va_A (wdM cI cZ h v_all v_past v_states v_refused v_far v_row v_stepAt v_depth v_tries v_values v_wrong v_isEnd v_found v_reached v_stepIn v_laid v_firstRow v_text v_textLong v_spot v_taken v_counted) sz)) 0 0 (va_A (wdM cI cZ h v_all v_past v_states v_refused v_far v_row v_stepAt v_depth v_tries v_values v_wrong v_isEnd v_found v_reached v_stepIn v_laid v_firstRow v_text v_textLong v_spot v_taken v_counted) sz) := by
  refine kb_metV (cc := cX9_laysFirst) (maxL := 5) (by decide) rfl (Nat.le_of_ble_eq_true rfl) ?_
  intro p e s m args below meth c Q A ls H hx hb hml hown hts hK hN hP hD hS hA hl hend
  have hown : s.vm.findClass RX9 = some m.cls := hown
  have hl : lv_has ls 5 [(0, .ref (h 0))] := hl
  have hin9 : ∀ w ∈ u_ws RX9 TX9 22, w ∈ wsX9_laysFirst := by decide +kernel
  have J66 : ∀ (n : Nat) (v_far : Nat → Int32) (v_depth : Int32) (v_tries : Nat → Int32) (v_stepIn : Nat → Int32) (v_laid : Nat → Int32) (v_firstRow : Nat → Int32) (x1 : Int32) (x2 : Int32) (H : Heap) (locs : List Loc) (ls : Array Slot), f9_laysFirst_l66 n v_all v_far v_depth v_tries v_stepIn v_laid v_firstRow x1 x2 = some (v_far', v_depth', v_tries', v_stepIn', v_laid', v_firstRow') → va_P D vwCl (wdM cI cZ h v_all v_past v_states v_refused v_far v_row v_stepAt v_depth v_tries v_values v_wrong v_isEnd v_found v_reached v_stepIn v_laid v_firstRow v_text v_textLong v_spot v_taken v_counted) H → va_D A (wdM cI cZ h v_all v_past v_states v_refused v_far v_row v_stepAt v_depth v_tries v_values v_wrong v_isEnd v_found v_reached v_stepIn v_laid v_firstRow v_text v_textLong v_spot v_taken v_counted) → va_S A s.heap H locs → lv_has ls 5 [(0, .ref (h 0)), (1, .int x1), (2, .int x2)] → W p l e rm9_laysFirst s m args below meth c H locs 0 0 Q (F0 m 66 ls []) := by
    intro n
    induction n with
    | zero =>
      intro v_far v_depth v_tries v_stepIn v_laid v_firstRow x1 x2 H locs ls hf
      cases (show (none : Option ((Nat → Int32) × Int32 × (Nat → Int32) × (Nat → Int32) × (Nat → Int32) × (Nat → Int32))) = some (v_far', v_depth', v_tries', v_stepIn', v_laid', v_firstRow') from hf)
    | succ n ih =>
      have J131 : ∀ (v_far : Nat → Int32) (v_depth : Int32) (v_tries : Nat → Int32) (v_stepIn : Nat → Int32) (v_laid : Nat → Int32) (v_firstRow : Nat → Int32) (x1 : Int32) (x2 : Int32) (x3 : Int32) (H : Heap) (locs : List Loc) (ls : Array Slot), f9_laysFirst_b131 (f9_laysFirst_l66 n) v_all v_far v_depth v_tries v_stepIn v_laid v_firstRow x1 x2 x3 = some (v_far', v_depth', v_tries', v_stepIn', v_laid', v_firstRow') → va_P D vwCl (wdM cI cZ h v_all v_past v_states v_refused v_far v_row v_stepAt v_depth v_tries v_values v_wrong v_isEnd v_found v_reached v_stepIn v_laid v_firstRow v_text v_textLong v_spot v_taken v_counted) H → va_D A (wdM cI cZ h v_all v_past v_states v_refused v_far v_row v_stepAt v_depth v_tries v_values v_wrong v_isEnd v_found v_reached v_stepIn v_laid v_firstRow v_text v_textLong v_spot v_taken v_counted) → va_S A s.heap H locs → lv_has ls 5 [(0, .ref (h 0)), (1, .int x1), (2, .int x2), (3, .int x3)] → W p l e rm9_laysFirst s m args below meth c H locs 0 0 Q (F0 m 131 ls []) := by
        intro v_far v_depth v_tries v_stepIn v_laid v_firstRow x1 x2 x3 H locs ls hf hP hD hS hl
        rw [f9_laysFirst_b131] at hf
        refine lv_aload_n hx hb dX9_laysFirst_131 rfl (lv_at hl 0 rfl) ?_
        refine va_get (D := D) (cl := vwCl) (ci := 6) (v := .ref (h 13)) (C := RX9) (T := TX9) (N := 22) hx hb hts hin9 hown hK hP 0 rfl rfl 15 (by decide) (hts (.fieldLink RX9 47 "StepOrdersModel" "laid" "[Z") (by decide +kernel)) (fun _ h9 => h9) rfl dX9_laysFirst_132 ?_
        refine lv_iload_n hx hb dX9_laysFirst_135 rfl (lv_at hl 3 rfl) ?_
        refine lv_iconst (v := 1) hx hb dX9_laysFirst_136 (by decide) ?_
        refine kb_bind hf (fun v13 hv13 hf => ?_)
        refine ka_zast (D := D) (cl := vwCl) hx hb hK hP hD hS 13 2 (f := v_laid) (g := v13) rfl rfl (awr_in hv13) (awr_v hv13) dX9_laysFirst_137 (fun H locs hP hD hS => ?_)
        have hP : va_P D vwCl (wdM cI cZ h v_all v_past v_states v_refused v_far v_row v_stepAt v_depth v_tries v_values v_wrong v_isEnd v_found v_reached v_stepIn v13 v_firstRow v_text v_textLong v_spot v_taken v_counted) H := hP
        have hD : va_D A (wdM cI cZ h v_all v_past v_states v_refused v_far v_row v_stepAt v_depth v_tries v_values v_wrong v_isEnd v_found v_reached v_stepIn v13 v_firstRow v_text v_textLong v_spot v_taken v_counted) := hD
        refine lv_aload_n hx hb dX9_laysFirst_138 rfl (lv_at hl 0 rfl) ?_
        refine va_get (D := D) (cl := vwCl) (ci := 6) (v := .ref (h 14)) (C := RX9) (T := TX9) (N := 22) hx hb hts hin9 hown hK hP 0 rfl rfl 16 (by decide) (hts (.fieldLink RX9 50 "StepOrdersModel" "firstRow" "[I") (by decide +kernel)) (fun _ h9 => h9) rfl dX9_laysFirst_139 ?_
        refine lv_iload_n hx hb dX9_laysFirst_142 rfl (lv_at hl 2 rfl) ?_
        refine lv_aload_n hx hb dX9_laysFirst_143 rfl (lv_at hl 0 rfl) ?_
        refine va_get (D := D) (cl := vwCl) (ci := 6) (v := .ref (h 1)) (C := RX9) (T := TX9) (N := 22) hx hb hts hin9 hown hK hP 0 rfl rfl 0 (by decide) (hts (.fieldLink RX9 7 "StepOrdersModel" "all" "[I") (by decide +kernel)) (fun _ h9 => h9) rfl dX9_laysFirst_144 ?_
        refine lv_bipush (v := 44) hx hb dX9_laysFirst_147 (by decide) ?_
        refine lv_iload_n hx hb dX9_laysFirst_149 rfl (lv_at hl 3 rfl) ?_
        refine lv_iadd hx hb dX9_laysFirst_150 ?_
        refine kb_bind hf (fun v14 hv14 hf => ?_)
        refine ka_iald (D := D) (cl := vwCl) hx hb hK hP 1 1 (f := v_all) rfl rfl (ard_in hv14) (ard_v hv14) dX9_laysFirst_151 ?_
        refine kb_bind hf (fun v15 hv15 hf => ?_)
        refine ka_iast (D := D) (cl := vwCl) hx hb hK hP hD hS 14 1 (f := v_firstRow) (g := v15) rfl rfl (awr_in hv15) (awr_v hv15) dX9_laysFirst_152 (fun H locs hP hD hS => ?_)
        have hP : va_P D vwCl (wdM cI cZ h v_all v_past v_states v_refused v_far v_row v_stepAt v_depth v_tries v_values v_wrong v_isEnd v_found v_reached v_stepIn v13 v15 v_text v_textLong v_spot v_taken v_counted) H := hP
        have hD : va_D A (wdM cI cZ h v_all v_past v_states v_refused v_far v_row v_stepAt v_depth v_tries v_values v_wrong v_isEnd v_found v_reached v_stepIn v13 v15 v_text v_textLong v_spot v_taken v_counted) := hD
        refine lv_iinc (v := (x2 + 1)) (lv' := [(2, .int (x2 + 1)), (0, .ref (h 0)), (1, .int x1), (3, .int x3)]) hx hb dX9_laysFirst_153 hl (k := 2) rfl rfl (by decide) rfl (fun ls hl => ?_)
        refine lv_goto (tgt := 66) hx hb dX9_laysFirst_156 (by decide) ?_
        exact ih v_far v_depth v_tries v_stepIn v13 v15 x1 (x2 + 1) _ _ _ hf hP hD hS (lv_sub hl [1, 2, 0] rfl)
      have J76 : ∀ (n76 : Nat) (v_far : Nat → Int32) (v_depth : Int32) (v_tries : Nat → Int32) (v_stepIn : Nat → Int32) (v_laid : Nat → Int32) (v_firstRow : Nat → Int32) (x1 : Int32) (x2 : Int32) (x3 : Int32) (x4 : Int32) (H : Heap) (locs : List Loc) (ls : Array Slot), f9_laysFirst_l76 (f9_laysFirst_l66 n) n76 v_all v_far v_depth v_tries v_stepIn v_laid v_firstRow x1 x2 x3 x4 = some (v_far', v_depth', v_tries', v_stepIn', v_laid', v_firstRow') → va_P D vwCl (wdM cI cZ h v_all v_past v_states v_refused v_far v_row v_stepAt v_depth v_tries v_values v_wrong v_isEnd v_found v_reached v_stepIn v_laid v_firstRow v_text v_textLong v_spot v_taken v_counted) H → va_D A (wdM cI cZ h v_all v_past v_states v_refused v_far v_row v_stepAt v_depth v_tries v_values v_wrong v_isEnd v_found v_reached v_stepIn v_laid v_firstRow v_text v_textLong v_spot v_taken v_counted) → va_S A s.heap H locs → lv_has ls 5 [(0, .ref (h 0)), (1, .int x1), (2, .int x2), (3, .int x3), (4, .int x4)] → W p l e rm9_laysFirst s m args below meth c H locs 0 0 Q (F0 m 76 ls []) := by
        intro n76
        induction n76 with
        | zero =>
          intro v_far v_depth v_tries v_stepIn v_laid v_firstRow x1 x2 x3 x4 H locs ls hf
          cases (show (none : Option ((Nat → Int32) × Int32 × (Nat → Int32) × (Nat → Int32) × (Nat → Int32) × (Nat → Int32))) = some (v_far', v_depth', v_tries', v_stepIn', v_laid', v_firstRow') from hf)
        | succ n76 ih76 =>
          have J124 : ∀ (v_far : Nat → Int32) (v_depth : Int32) (v_tries : Nat → Int32) (v_stepIn : Nat → Int32) (v_laid : Nat → Int32) (v_firstRow : Nat → Int32) (x1 : Int32) (x2 : Int32) (x4 : Int32) (s0 : Int32) (H : Heap) (locs : List Loc) (ls : Array Slot), f9_laysFirst_b124 (f9_laysFirst_l66 n) (f9_laysFirst_l76 (f9_laysFirst_l66 n) n76) v_all v_far v_depth v_tries v_stepIn v_laid v_firstRow x1 x2 x4 s0 = some (v_far', v_depth', v_tries', v_stepIn', v_laid', v_firstRow') → va_P D vwCl (wdM cI cZ h v_all v_past v_states v_refused v_far v_row v_stepAt v_depth v_tries v_values v_wrong v_isEnd v_found v_reached v_stepIn v_laid v_firstRow v_text v_textLong v_spot v_taken v_counted) H → va_D A (wdM cI cZ h v_all v_past v_states v_refused v_far v_row v_stepAt v_depth v_tries v_values v_wrong v_isEnd v_found v_reached v_stepIn v_laid v_firstRow v_text v_textLong v_spot v_taken v_counted) → va_S A s.heap H locs → lv_has ls 5 [(0, .ref (h 0)), (1, .int x1), (2, .int x2), (4, .int x4)] → W p l e rm9_laysFirst s m args below meth c H locs 0 0 Q (F0 m 124 ls [.int s0]) := by
            intro v_far v_depth v_tries v_stepIn v_laid v_firstRow x1 x2 x4 s0 H locs ls hf hP hD hS hl
            rw [f9_laysFirst_b124] at hf
            refine lv_istore_n (lv' := [(3, .int s0), (0, .ref (h 0)), (1, .int x1), (2, .int x2), (4, .int x4)]) hx hb dX9_laysFirst_124 rfl hl (by decide) rfl (fun ls hl => ?_)
            refine lv_iinc (v := (x4 + 1)) (lv' := [(4, .int (x4 + 1)), (3, .int s0), (0, .ref (h 0)), (1, .int x1), (2, .int x2)]) hx hb dX9_laysFirst_125 hl (k := 4) rfl rfl (by decide) rfl (fun ls hl => ?_)
            refine lv_goto (tgt := 76) hx hb dX9_laysFirst_128 (by decide) ?_
            exact ih76 v_far v_depth v_tries v_stepIn v_laid v_firstRow x1 x2 s0 (x4 + 1) _ _ _ hf hP hD hS (lv_sub hl [2, 3, 4, 1, 0] rfl)
          have J118 : ∀ (v_far : Nat → Int32) (v_depth : Int32) (v_tries : Nat → Int32) (v_stepIn : Nat → Int32) (v_laid : Nat → Int32) (v_firstRow : Nat → Int32) (x1 : Int32) (x2 : Int32) (x4 : Int32) (H : Heap) (locs : List Loc) (ls : Array Slot), f9_laysFirst_b118 (f9_laysFirst_l66 n) (f9_laysFirst_l76 (f9_laysFirst_l66 n) n76) v_all v_far v_depth v_tries v_stepIn v_laid v_firstRow x1 x2 x4 = some (v_far', v_depth', v_tries', v_stepIn', v_laid', v_firstRow') → va_P D vwCl (wdM cI cZ h v_all v_past v_states v_refused v_far v_row v_stepAt v_depth v_tries v_values v_wrong v_isEnd v_found v_reached v_stepIn v_laid v_firstRow v_text v_textLong v_spot v_taken v_counted) H → va_D A (wdM cI cZ h v_all v_past v_states v_refused v_far v_row v_stepAt v_depth v_tries v_values v_wrong v_isEnd v_found v_reached v_stepIn v_laid v_firstRow v_text v_textLong v_spot v_taken v_counted) → va_S A s.heap H locs → lv_has ls 5 [(0, .ref (h 0)), (1, .int x1), (2, .int x2), (4, .int x4)] → W p l e rm9_laysFirst s m args below meth c H locs 0 0 Q (F0 m 118 ls []) := by
            intro v_far v_depth v_tries v_stepIn v_laid v_firstRow x1 x2 x4 H locs ls hf hP hD hS hl
            rw [f9_laysFirst_b118] at hf
            refine lv_iload hx hb dX9_laysFirst_118 (lv_at hl 3 rfl) ?_
            refine lv_goto (tgt := 124) hx hb dX9_laysFirst_120 (by decide) ?_
            exact J124 v_far v_depth v_tries v_stepIn v_laid v_firstRow x1 x2 x4 x4 _ _ _ hf hP hD hS (lv_sub hl [0, 1, 2, 3] rfl)
          have J123 : ∀ (v_far : Nat → Int32) (v_depth : Int32) (v_tries : Nat → Int32) (v_stepIn : Nat → Int32) (v_laid : Nat → Int32) (v_firstRow : Nat → Int32) (x1 : Int32) (x2 : Int32) (x3 : Int32) (x4 : Int32) (H : Heap) (locs : List Loc) (ls : Array Slot), f9_laysFirst_b123 (f9_laysFirst_l66 n) (f9_laysFirst_l76 (f9_laysFirst_l66 n) n76) v_all v_far v_depth v_tries v_stepIn v_laid v_firstRow x1 x2 x3 x4 = some (v_far', v_depth', v_tries', v_stepIn', v_laid', v_firstRow') → va_P D vwCl (wdM cI cZ h v_all v_past v_states v_refused v_far v_row v_stepAt v_depth v_tries v_values v_wrong v_isEnd v_found v_reached v_stepIn v_laid v_firstRow v_text v_textLong v_spot v_taken v_counted) H → va_D A (wdM cI cZ h v_all v_past v_states v_refused v_far v_row v_stepAt v_depth v_tries v_values v_wrong v_isEnd v_found v_reached v_stepIn v_laid v_firstRow v_text v_textLong v_spot v_taken v_counted) → va_S A s.heap H locs → lv_has ls 5 [(0, .ref (h 0)), (1, .int x1), (2, .int x2), (3, .int x3), (4, .int x4)] → W p l e rm9_laysFirst s m args below meth c H locs 0 0 Q (F0 m 123 ls []) := by
            intro v_far v_depth v_tries v_stepIn v_laid v_firstRow x1 x2 x3 x4 H locs ls hf hP hD hS hl
            rw [f9_laysFirst_b123] at hf
            refine lv_iload_n hx hb dX9_laysFirst_123 rfl (lv_at hl 3 rfl) ?_
            exact J124 v_far v_depth v_tries v_stepIn v_laid v_firstRow x1 x2 x4 x3 _ _ _ hf hP hD hS (lv_sub hl [0, 1, 2, 4] rfl)
          intro v_far v_depth v_tries v_stepIn v_laid v_firstRow x1 x2 x3 x4 H locs ls hf hP hD hS hl
          rw [f9_laysFirst_l76_s] at hf
          refine lv_iload hx hb dX9_laysFirst_76 (lv_at hl 4 rfl) ?_
          refine lv_iload_n hx hb dX9_laysFirst_78 rfl (lv_at hl 1 rfl) ?_
          refine lv_icmp_ge (tgt := 131) hx hb dX9_laysFirst_79 (by decide) (fun c16 => ?_) (fun c16 => ?_)
          · rw [if_pos c16] at hf
            exact J131 v_far v_depth v_tries v_stepIn v_laid v_firstRow x1 x2 x3 _ _ _ hf hP hD hS (lv_sub hl [0, 1, 2, 3] rfl)
          · rw [if_neg c16] at hf
            refine lv_aload_n hx hb dX9_laysFirst_82 rfl (lv_at hl 0 rfl) ?_
            refine lv_iload hx hb dX9_laysFirst_83 (lv_at hl 4 rfl) ?_
            refine kb_bind hf (fun q17 hq17 hf => ?_)
            have hPc : va_P D vwCl (wdM cI cZ h v_all v_past v_states v_refused v_far v_row v_stepAt v_depth v_tries v_values v_wrong v_isEnd v_found v_reached v_stepIn v_laid v_firstRow v_text v_textLong v_spot v_taken v_counted) H := hP.sub [0, 1, 2, 3, 4, 5, 6, 7, 8, 9, 10, 11, 12, 13, 14, 15, 16] rfl
            have hDc : va_D A (wdM cI cZ h v_all v_past v_states v_refused v_far v_row v_stepAt v_depth v_tries v_values v_wrong v_isEnd v_found v_reached v_stepIn v_laid v_firstRow v_text v_textLong v_spot v_taken v_counted) := hD.sub [0, 1, 2, 3, 4, 5, 6, 7, 8, 9, 10, 11, 12, 13, 14, 15, 16] (by decide) rfl
            refine kd_iR (va_runV (As := [.int x4]) (rest := []) ⟨hx, hb, hml, hown, hts⟩ (c9_isNext l D cB cI cZ cO h H.size x4 v_all v_past v_states v_refused v_far v_row v_stepAt v_depth v_tries v_values v_wrong v_isEnd v_found v_reached v_stepIn v_laid v_firstRow v_text v_textLong v_spot v_taken v_counted q17 hq17) (cwV 1 hts gX9_laysFirst_X9_isNext rfl rfl rfl (by decide +kernel) ⟨Nat.le_of_ble_eq_true rfl, Nat.le_of_ble_eq_true rfl⟩) ⟨kb_blind, va_recv hK hPc (ci := 6) (q0 := 0) rfl rfl, kb_pre hPc hDc hK hN⟩ rfl rfl hl.1 rfl (lv_room (Nat.le_of_ble_eq_true rfl)) dX9_laysFirst_85 ⟨Nat.le_refl _, Nat.le_refl _⟩) hP hD hS hA [0, 1, 2, 3, 4, 5, 6, 7, 8, 9, 10, 11, 12, 13, 14, 15, 16] rfl (fun H locs hn18 hP hS => ?_)
            refine lv_if_eq (tgt := 123) hx hb dX9_laysFirst_88 (by decide) (fun c19 => ?_) (fun c19 => ?_)
            · rw [if_pos c19] at hf
              exact J123 v_far v_depth v_tries v_stepIn v_laid v_firstRow x1 x2 x3 x4 _ _ _ hf hP hD hS (lv_sub hl [0, 1, 2, 3, 4] rfl)
            · rw [if_neg c19] at hf
              refine lv_iload_n hx hb dX9_laysFirst_91 rfl (lv_at hl 3 rfl) ?_
              refine lv_iconst (v := (-1)) hx hb dX9_laysFirst_92 (by decide) ?_
              refine lv_icmp_eq (tgt := 118) hx hb dX9_laysFirst_93 (by decide) (fun c20 => ?_) (fun c20 => ?_)
              · rw [if_pos c20] at hf
                exact J118 v_far v_depth v_tries v_stepIn v_laid v_firstRow x1 x2 x4 _ _ _ hf hP hD hS (lv_sub hl [0, 1, 2, 4] rfl)
              · rw [if_neg c20] at hf
                refine lv_aload_n hx hb dX9_laysFirst_96 rfl (lv_at hl 0 rfl) ?_
                refine va_get (D := D) (cl := vwCl) (ci := 6) (v := .ref (h 1)) (C := RX9) (T := TX9) (N := 22) hx hb hts hin9 hown hK hP 0 rfl rfl 0 (by decide) (hts (.fieldLink RX9 7 "StepOrdersModel" "all" "[I") (by decide +kernel)) (fun _ h9 => h9) rfl dX9_laysFirst_97 ?_
                refine lv_bipush (v := 44) hx hb dX9_laysFirst_100 (by decide) ?_
                refine lv_iload hx hb dX9_laysFirst_102 (lv_at hl 4 rfl) ?_
                refine lv_iadd hx hb dX9_laysFirst_104 ?_
                refine kb_bind hf (fun v21 hv21 hf => ?_)
                refine ka_iald (D := D) (cl := vwCl) hx hb hK hP 1 1 (f := v_all) rfl rfl (ard_in hv21) (ard_v hv21) dX9_laysFirst_105 ?_
                refine lv_aload_n hx hb dX9_laysFirst_106 rfl (lv_at hl 0 rfl) ?_
                refine va_get (D := D) (cl := vwCl) (ci := 6) (v := .ref (h 1)) (C := RX9) (T := TX9) (N := 22) hx hb hts hin9 hown hK hP 0 rfl rfl 0 (by decide) (hts (.fieldLink RX9 7 "StepOrdersModel" "all" "[I") (by decide +kernel)) (fun _ h9 => h9) rfl dX9_laysFirst_107 ?_
                refine lv_bipush (v := 44) hx hb dX9_laysFirst_110 (by decide) ?_
                refine lv_iload_n hx hb dX9_laysFirst_112 rfl (lv_at hl 3 rfl) ?_
                refine lv_iadd hx hb dX9_laysFirst_113 ?_
                refine kb_bind hf (fun v22 hv22 hf => ?_)
                refine ka_iald (D := D) (cl := vwCl) hx hb hK hP 1 1 (f := v_all) rfl rfl (ard_in hv22) (ard_v hv22) dX9_laysFirst_114 ?_
                refine lv_icmp_ge (tgt := 123) hx hb dX9_laysFirst_115 (by decide) (fun c23 => ?_) (fun c23 => ?_)
                · rw [if_pos c23] at hf
                  exact J123 v_far v_depth v_tries v_stepIn v_laid v_firstRow x1 x2 x3 x4 _ _ _ hf hP hD hS (lv_sub hl [0, 1, 2, 3, 4] rfl)
                · rw [if_neg c23] at hf
                  exact J118 v_far v_depth v_tries v_stepIn v_laid v_firstRow x1 x2 x4 _ _ _ hf hP hD hS (lv_sub hl [0, 1, 2, 4] rfl)
      intro v_far v_depth v_tries v_stepIn v_laid v_firstRow x1 x2 H locs ls hf hP hD hS hl
      rw [f9_laysFirst_l66_s] at hf
      refine lv_iload_n hx hb dX9_laysFirst_66 rfl (lv_at hl 2 rfl) ?_
      refine lv_iload_n hx hb dX9_laysFirst_67 rfl (lv_at hl 1 rfl) ?_
      refine lv_icmp_ge (tgt := 159) hx hb dX9_laysFirst_68 (by decide) (fun c24 => ?_) (fun c24 => ?_)
      · rw [if_pos c24] at hf
        obtain ⟨z1, y1⟩ := Prod.mk.inj (Option.some.inj hf)
        obtain ⟨z2, y2⟩ := Prod.mk.inj y1
        obtain ⟨z3, y3⟩ := Prod.mk.inj y2
        obtain ⟨z4, y4⟩ := Prod.mk.inj y3
        obtain ⟨z5, y5⟩ := Prod.mk.inj y4
        subst z1 z2 z3 z4 z5 y5
        exact hend _ _ _ _ hP hS dX9_laysFirst_159
      · rw [if_neg c24] at hf
        refine lv_iconst (v := (-1)) hx hb dX9_laysFirst_71 (by decide) ?_
        refine lv_istore_n (lv' := [(3, .int (-1 : Int32)), (0, .ref (h 0)), (1, .int x1), (2, .int x2)]) hx hb dX9_laysFirst_72 rfl hl (by decide) rfl (fun ls hl => ?_)
        refine lv_iconst (v := 0) hx hb dX9_laysFirst_73 (by decide) ?_
        refine lv_istore (lv' := [(4, .int (0 : Int32)), (3, .int (-1 : Int32)), (0, .ref (h 0)), (1, .int x1), (2, .int x2)]) hx hb dX9_laysFirst_74 hl (by decide) rfl (fun ls hl => ?_)
        exact J76 kFUEL v_far v_depth v_tries v_stepIn v_laid v_firstRow x1 x2 (-1 : Int32) (0 : Int32) _ _ _ hf hP hD hS (lv_sub hl [2, 3, 4, 1, 0] rfl)
  have J64 : ∀ (v_far : Nat → Int32) (v_depth : Int32) (v_tries : Nat → Int32) (v_stepIn : Nat → Int32) (v_laid : Nat → Int32) (v_firstRow : Nat → Int32) (x1 : Int32) (H : Heap) (locs : List Loc) (ls : Array Slot), f9_laysFirst_b64 v_all v_far v_depth v_tries v_stepIn v_laid v_firstRow x1 = some (v_far', v_depth', v_tries', v_stepIn', v_laid', v_firstRow') → va_P D vwCl (wdM cI cZ h v_all v_past v_states v_refused v_far v_row v_stepAt v_depth v_tries v_values v_wrong v_isEnd v_found v_reached v_stepIn v_laid v_firstRow v_text v_textLong v_spot v_taken v_counted) H → va_D A (wdM cI cZ h v_all v_past v_states v_refused v_far v_row v_stepAt v_depth v_tries v_values v_wrong v_isEnd v_found v_reached v_stepIn v_laid v_firstRow v_text v_textLong v_spot v_taken v_counted) → va_S A s.heap H locs → lv_has ls 5 [(0, .ref (h 0)), (1, .int x1)] → W p l e rm9_laysFirst s m args below meth c H locs 0 0 Q (F0 m 64 ls []) := by
    intro v_far v_depth v_tries v_stepIn v_laid v_firstRow x1 H locs ls hf hP hD hS hl
    rw [f9_laysFirst_b64] at hf
    refine lv_iconst (v := 0) hx hb dX9_laysFirst_64 (by decide) ?_
    refine lv_istore_n (lv' := [(2, .int (0 : Int32)), (0, .ref (h 0)), (1, .int x1)]) hx hb dX9_laysFirst_65 rfl hl (by decide) rfl (fun ls hl => ?_)
    exact J66 kFUEL v_far v_depth v_tries v_stepIn v_laid v_firstRow x1 (0 : Int32) _ _ _ hf hP hD hS (lv_sub hl [1, 2, 0] rfl)
  have J14 : ∀ (n : Nat) (v_far : Nat → Int32) (v_depth : Int32) (v_tries : Nat → Int32) (v_stepIn : Nat → Int32) (v_laid : Nat → Int32) (v_firstRow : Nat → Int32) (x1 : Int32) (x2 : Int32) (H : Heap) (locs : List Loc) (ls : Array Slot), f9_laysFirst_l14 n v_all v_far v_depth v_tries v_stepIn v_laid v_firstRow x1 x2 = some (v_far', v_depth', v_tries', v_stepIn', v_laid', v_firstRow') → va_P D vwCl (wdM cI cZ h v_all v_past v_states v_refused v_far v_row v_stepAt v_depth v_tries v_values v_wrong v_isEnd v_found v_reached v_stepIn v_laid v_firstRow v_text v_textLong v_spot v_taken v_counted) H → va_D A (wdM cI cZ h v_all v_past v_states v_refused v_far v_row v_stepAt v_depth v_tries v_values v_wrong v_isEnd v_found v_reached v_stepIn v_laid v_firstRow v_text v_textLong v_spot v_taken v_counted) → va_S A s.heap H locs → lv_has ls 5 [(0, .ref (h 0)), (1, .int x1), (2, .int x2)] → W p l e rm9_laysFirst s m args below meth c H locs 0 0 Q (F0 m 14 ls []) := by
    intro n
    induction n with
    | zero =>
      intro v_far v_depth v_tries v_stepIn v_laid v_firstRow x1 x2 H locs ls hf
      cases (show (none : Option ((Nat → Int32) × Int32 × (Nat → Int32) × (Nat → Int32) × (Nat → Int32) × (Nat → Int32))) = some (v_far', v_depth', v_tries', v_stepIn', v_laid', v_firstRow') from hf)
    | succ n ih =>
      intro v_far v_depth v_tries v_stepIn v_laid v_firstRow x1 x2 H locs ls hf hP hD hS hl
      rw [f9_laysFirst_l14_s] at hf
      refine lv_iload_n hx hb dX9_laysFirst_14 rfl (lv_at hl 2 rfl) ?_
      refine lv_iload_n hx hb dX9_laysFirst_15 rfl (lv_at hl 1 rfl) ?_
      refine lv_icmp_ge (tgt := 64) hx hb dX9_laysFirst_16 (by decide) (fun c32 => ?_) (fun c32 => ?_)
      · rw [if_pos c32] at hf
        exact J64 v_far v_depth v_tries v_stepIn v_laid v_firstRow x1 _ _ _ hf hP hD hS (lv_sub hl [0, 1] rfl)
      · rw [if_neg c32] at hf
        refine lv_aload_n hx hb dX9_laysFirst_19 rfl (lv_at hl 0 rfl) ?_
        refine va_get (D := D) (cl := vwCl) (ci := 6) (v := .ref (h 1)) (C := RX9) (T := TX9) (N := 22) hx hb hts hin9 hown hK hP 0 rfl rfl 0 (by decide) (hts (.fieldLink RX9 7 "StepOrdersModel" "all" "[I") (by decide +kernel)) (fun _ h9 => h9) rfl dX9_laysFirst_20 ?_
        refine lv_bipush (v := 44) hx hb dX9_laysFirst_23 (by decide) ?_
        refine lv_iload_n hx hb dX9_laysFirst_25 rfl (lv_at hl 2 rfl) ?_
        refine lv_iadd hx hb dX9_laysFirst_26 ?_
        refine kb_bind hf (fun v33 hv33 hf => ?_)
        refine ka_iald (D := D) (cl := vwCl) hx hb hK hP 1 1 (f := v_all) rfl rfl (ard_in hv33) (ard_v hv33) dX9_laysFirst_27 ?_
        refine lv_istore_n (lv' := [(3, .int v33), (0, .ref (h 0)), (1, .int x1), (2, .int x2)]) hx hb dX9_laysFirst_28 rfl hl (by decide) rfl (fun ls hl => ?_)
        refine lv_aload_n hx hb dX9_laysFirst_29 rfl (lv_at hl 1 rfl) ?_
        refine va_get (D := D) (cl := vwCl) (ci := 6) (v := .ref (h 12)) (C := RX9) (T := TX9) (N := 22) hx hb hts hin9 hown hK hP 0 rfl rfl 14 (by decide) (hts (.fieldLink RX9 44 "StepOrdersModel" "stepIn" "[I") (by decide +kernel)) (fun _ h9 => h9) rfl dX9_laysFirst_30 ?_
        refine lv_iload_n hx hb dX9_laysFirst_33 rfl (lv_at hl 3 rfl) ?_
        refine lv_aload_n hx hb dX9_laysFirst_34 rfl (lv_at hl 1 rfl) ?_
        refine va_get (D := D) (cl := vwCl) (ci := 6) (v := .ref (h 4)) (C := RX9) (T := TX9) (N := 22) hx hb hts hin9 hown hK hP 0 rfl rfl 4 (by decide) (hts (.fieldLink RX9 19 "StepOrdersModel" "far" "[I") (by decide +kernel)) (fun _ h9 => h9) rfl dX9_laysFirst_35 ?_
        refine lv_iload_n hx hb dX9_laysFirst_38 rfl (lv_at hl 0 rfl) ?_
        refine kb_bind hf (fun v34 hv34 hf => ?_)
        refine ka_iald (D := D) (cl := vwCl) hx hb hK hP 4 1 (f := v_far) rfl rfl (ard_in hv34) (ard_v hv34) dX9_laysFirst_39 ?_
        refine kb_bind hf (fun v35 hv35 hf => ?_)
        refine ka_iast (D := D) (cl := vwCl) hx hb hK hP hD hS 12 1 (f := v_stepIn) (g := v35) rfl rfl (awr_in hv35) (awr_v hv35) dX9_laysFirst_40 (fun H locs hP hD hS => ?_)
        have hP : va_P D vwCl (wdM cI cZ h v_all v_past v_states v_refused v_far v_row v_stepAt v_depth v_tries v_values v_wrong v_isEnd v_found v_reached v35 v_laid v_firstRow v_text v_textLong v_spot v_taken v_counted) H := hP
        have hD : va_D A (wdM cI cZ h v_all v_past v_states v_refused v_far v_row v_stepAt v_depth v_tries v_values v_wrong v_isEnd v_found v_reached v35 v_laid v_firstRow v_text v_textLong v_spot v_taken v_counted) := hD
        refine lv_aload_n hx hb dX9_laysFirst_41 rfl (lv_at hl 1 rfl) ?_
        refine va_get (D := D) (cl := vwCl) (ci := 6) (v := .ref (h 4)) (C := RX9) (T := TX9) (N := 22) hx hb hts hin9 hown hK hP 0 rfl rfl 4 (by decide) (hts (.fieldLink RX9 19 "StepOrdersModel" "far" "[I") (by decide +kernel)) (fun _ h9 => h9) rfl dX9_laysFirst_42 ?_
        refine lv_iload_n hx hb dX9_laysFirst_45 rfl (lv_at hl 0 rfl) ?_
        refine lv_dup2_11 hx hb dX9_laysFirst_46 rfl rfl ?_
        refine kb_bind hf (fun v36 hv36 hf => ?_)
        refine ka_iald (D := D) (cl := vwCl) hx hb hK hP 4 1 (f := v_far) rfl rfl (ard_in hv36) (ard_v hv36) dX9_laysFirst_47 ?_
        refine lv_iconst (v := 1) hx hb dX9_laysFirst_48 (by decide) ?_
        refine lv_iadd hx hb dX9_laysFirst_49 ?_
        refine kb_bind hf (fun v37 hv37 hf => ?_)
        refine ka_iast (D := D) (cl := vwCl) hx hb hK hP hD hS 4 1 (f := v_far) (g := v37) rfl rfl (awr_in hv37) (awr_v hv37) dX9_laysFirst_50 (fun H locs hP hD hS => ?_)
        have hP : va_P D vwCl (wdM cI cZ h v_all v_past v_states v_refused v37 v_row v_stepAt v_depth v_tries v_values v_wrong v_isEnd v_found v_reached v35 v_laid v_firstRow v_text v_textLong v_spot v_taken v_counted) H := hP
        have hD : va_D A (wdM cI cZ h v_all v_past v_states v_refused v37 v_row v_stepAt v_depth v_tries v_values v_wrong v_isEnd v_found v_reached v35 v_laid v_firstRow v_text v_textLong v_spot v_taken v_counted) := hD
        refine lv_aload_n hx hb dX9_laysFirst_51 rfl (lv_at hl 1 rfl) ?_
        refine va_get (D := D) (cl := vwCl) (ci := 6) (v := .ref (h 13)) (C := RX9) (T := TX9) (N := 22) hx hb hts hin9 hown hK hP 0 rfl rfl 15 (by decide) (hts (.fieldLink RX9 47 "StepOrdersModel" "laid" "[Z") (by decide +kernel)) (fun _ h9 => h9) rfl dX9_laysFirst_52 ?_
        refine lv_iload_n hx hb dX9_laysFirst_55 rfl (lv_at hl 3 rfl) ?_
        refine lv_iconst (v := 0) hx hb dX9_laysFirst_56 (by decide) ?_
        refine kb_bind hf (fun v38 hv38 hf => ?_)
        refine ka_zast (D := D) (cl := vwCl) hx hb hK hP hD hS 13 2 (f := v_laid) (g := v38) rfl rfl (awr_in hv38) (awr_v hv38) dX9_laysFirst_57 (fun H locs hP hD hS => ?_)
        have hP : va_P D vwCl (wdM cI cZ h v_all v_past v_states v_refused v37 v_row v_stepAt v_depth v_tries v_values v_wrong v_isEnd v_found v_reached v35 v38 v_firstRow v_text v_textLong v_spot v_taken v_counted) H := hP
        have hD : va_D A (wdM cI cZ h v_all v_past v_states v_refused v37 v_row v_stepAt v_depth v_tries v_values v_wrong v_isEnd v_found v_reached v35 v38 v_firstRow v_text v_textLong v_spot v_taken v_counted) := hD
        refine lv_iinc (v := (x2 + 1)) (lv' := [(2, .int (x2 + 1)), (3, .int v33), (0, .ref (h 0)), (1, .int x1)]) hx hb dX9_laysFirst_58 hl (k := 3) rfl rfl (by decide) rfl (fun ls hl => ?_)
        refine lv_goto (tgt := 14) hx hb dX9_laysFirst_61 (by decide) ?_
        exact ih v37 v_depth v_tries v35 v38 v_firstRow x1 (x2 + 1) _ _ _ hf hP hD hS (lv_sub hl [2, 3, 0] rfl)
  rw [f9_laysFirst] at hf
  refine lv_aload_n hx hb dX9_laysFirst_0 rfl (lv_at hl 0 rfl) ?_
  refine kb_bind hf (fun q39 hq39 hf => ?_)
  have hPc : va_P D vwCl (wdM cI cZ h v_all v_past v_states v_refused v_far v_row v_stepAt v_depth v_tries v_values v_wrong v_isEnd v_found v_reached v_stepIn v_laid v_firstRow v_text v_textLong v_spot v_taken v_counted) H := hP.sub [0, 1, 2, 3, 4, 5, 6, 7, 8, 9, 10, 11, 12, 13, 14, 15, 16] rfl
  have hDc : va_D A (wdM cI cZ h v_all v_past v_states v_refused v_far v_row v_stepAt v_depth v_tries v_values v_wrong v_isEnd v_found v_reached v_stepIn v_laid v_firstRow v_text v_textLong v_spot v_taken v_counted) := hD.sub [0, 1, 2, 3, 4, 5, 6, 7, 8, 9, 10, 11, 12, 13, 14, 15, 16] (by decide) rfl
  refine kd_vW (ws' := wdM cI cZ h v_all v_past v_states v_refused q39.1 v_row v_stepAt q39.2.1 q39.2.2 v_values v_wrong v_isEnd v_found v_reached v_stepIn v_laid v_firstRow v_text v_textLong v_spot v_taken v_counted) (va_runV (As := []) (rest := []) ⟨hx, hb, hml, hown, hts⟩ (c9_starts l D cB cI cZ cO h H.size v_all v_past v_states v_refused v_far v_row v_stepAt v_depth v_tries v_values v_wrong v_isEnd v_found v_reached v_stepIn v_laid v_firstRow v_text v_textLong v_spot v_taken v_counted q39.1 q39.2.1 q39.2.2 hq39) (cwV 0 hts gX9_laysFirst_X9_starts rfl rfl rfl (by decide +kernel) ⟨Nat.le_of_ble_eq_true rfl, Nat.le_of_ble_eq_true rfl⟩) ⟨kb_blind, va_recv hK hPc (ci := 6) (q0 := 0) rfl rfl, kb_pre hPc hDc hK hN⟩ rfl rfl hl.1 rfl (lv_room (Nat.le_of_ble_eq_true rfl)) dX9_laysFirst_1 ⟨Nat.le_refl _, Nat.le_refl _⟩) hP hD hS hA [0, 1, 2, 3, 4, 5, 6, 7, 8, 9, 10, 11, 12, 13, 14, 15, 16] [] rfl rfl (fun _ h9 => absurd h9 List.not_mem_nil) rfl rfl (fun H locs hP hD hS => ?_)
  refine lv_aload_n hx hb dX9_laysFirst_4 rfl (lv_at hl 0 rfl) ?_
  refine va_get (D := D) (cl := vwCl) (ci := 6) (v := .ref (h 1)) (C := RX9) (T := TX9) (N := 22) hx hb hts hin9 hown hK hP 0 rfl rfl 0 (by decide) (hts (.fieldLink RX9 7 "StepOrdersModel" "all" "[I") (by decide +kernel)) (fun _ h9 => h9) rfl dX9_laysFirst_5 ?_
  refine lv_bipush (v := 43) hx hb dX9_laysFirst_8 (by decide) ?_
  refine ka_iald (D := D) (cl := vwCl) hx hb hK hP 1 1 (f := v_all) rfl rfl (v := (v_all 43)) (show ¬ (_ ∨ _) from by decide) rfl dX9_laysFirst_10 ?_
  refine lv_istore_n (lv' := [(1, .int (v_all 43)), (0, .ref (h 0))]) hx hb dX9_laysFirst_11 rfl hl (by decide) rfl (fun ls hl => ?_)
  refine lv_iconst (v := 0) hx hb dX9_laysFirst_12 (by decide) ?_
  refine lv_istore_n (lv' := [(2, .int (0 : Int32)), (1, .int (v_all 43)), (0, .ref (h 0))]) hx hb dX9_laysFirst_13 rfl hl (by decide) rfl (fun ls hl => ?_)
  exact J14 kFUEL q39.1 q39.2.1 q39.2.2 v_stepIn v_laid v_firstRow (v_all 43) (0 : Int32) _ _ _ hf hP hD hS (lv_sub hl [2, 1, 0] rfl)

set_option maxHeartbeats 4000000 in
set_option maxRecDepth 100000 in
theorem c9_which (l : Launch) (D : va_G) (cB cI cZ cO : ClassId) (h : Nat → Nat) (sz : Nat) (v_all : Nat → Int32) (v_past : Nat → Int32) (v_states : Int32) (v_refused : Nat → Int32) (v_far : Nat → Int32) (v_row : Nat → Int32) (v_stepAt : Nat → Int32) (v_depth : Int32) (v_tries : Nat → Int32) (v_values : Nat → Int32) (v_wrong : Int32) (v_isEnd : Nat → Int32) (v_found : Nat → Int32) (v_reached : Nat → Int32) (v_stepIn : Nat → Int32) (v_laid : Nat → Int32) (v_firstRow : Nat → Int32) (v_text : Nat → Int32) (v_textLong : Int32) (v_spot : Int32) (v_taken : Int32) (v_counted : Nat → Int32) (r0 : Int32) (v_far' : Nat → Int32) (v_row' : Nat → Int32) (v_stepAt' : Nat → Int32) (v_depth' : Int32) (v_tries' : Nat → Int32) (v_values' : Nat → Int32) (v_wrong' : Int32) (v_stepIn' : Nat → Int32) (v_laid' : Nat → Int32) (v_firstRow' : Nat → Int32) (hf : f9_which v_all v_far v_row v_stepAt v_depth v_tries v_values v_wrong v_stepIn v_laid v_firstRow = some (r0, v_far', v_row', v_stepAt', v_depth', v_tries', v_values', v_wrong', v_stepIn', v_laid', v_firstRow')) : Met l yX9_which wsX9_which rm9_which (va_Pc [.ref (h 0)] (kb_B D (ka_tys cB cI cZ cO) sz (wdM cI cZ h v_all v_past v_states v_refused v_far v_row v_stepAt v_depth v_tries v_values v_wrong v_isEnd v_found v_reached v_stepIn v_laid v_firstRow v_text v_textLong v_spot v_taken v_counted))) (va_Qi (kb_post .int r0) (fun _ t => va_P D vwCl (wdM cI cZ h v_all v_past v_states v_refused (v_far') (v_row') (v_stepAt') (v_depth') (v_tries') (v_values') (v_wrong') v_isEnd v_found v_reached (v_stepIn') (v_laid') (v_firstRow') v_text v_textLong v_spot v_taken v_counted) t.heap) (va_A (wdM cI cZ h v_all v_past v_states v_refused v_far v_row v_stepAt v_depth v_tries v_values v_wrong v_isEnd v_found v_reached v_stepIn v_laid v_firstRow v_text v_textLong v_spot v_taken v_counted) sz)) 0 0 (va_A (wdM cI cZ h v_all v_past v_states v_refused v_far v_row v_stepAt v_depth v_tries v_values v_wrong v_isEnd v_found v_reached v_stepIn v_laid v_firstRow v_text v_textLong v_spot v_taken v_counted) sz) := by
  refine kb_metZ (cc := cX9_which) (maxL := 4) (ty := .int) (by decide) rfl (Nat.le_of_ble_eq_true rfl) ?_
  intro p e s m args below meth c Q A ls H hx hb hml hown hts hK hN hP hD hS hA hl hend
  have hown : s.vm.findClass RX9 = some m.cls := hown
  have hl : lv_has ls 4 [(0, .ref (h 0))] := hl
  have hin9 : ∀ w ∈ u_ws RX9 TX9 22, w ∈ wsX9_which := by decide +kernel
  have J95 : ∀ (v_far : Nat → Int32) (v_row : Nat → Int32) (v_stepAt : Nat → Int32) (v_depth : Int32) (v_tries : Nat → Int32) (v_values : Nat → Int32) (v_wrong : Int32) (v_stepIn : Nat → Int32) (v_laid : Nat → Int32) (v_firstRow : Nat → Int32) (x1 : Int32) (H : Heap) (locs : List Loc) (ls : Array Slot), f9_which_b95 v_all v_far v_row v_stepAt v_depth v_tries v_values v_wrong v_stepIn v_laid v_firstRow x1 = some (r0, v_far', v_row', v_stepAt', v_depth', v_tries', v_values', v_wrong', v_stepIn', v_laid', v_firstRow') → va_P D vwCl (wdM cI cZ h v_all v_past v_states v_refused v_far v_row v_stepAt v_depth v_tries v_values v_wrong v_isEnd v_found v_reached v_stepIn v_laid v_firstRow v_text v_textLong v_spot v_taken v_counted) H → va_D A (wdM cI cZ h v_all v_past v_states v_refused v_far v_row v_stepAt v_depth v_tries v_values v_wrong v_isEnd v_found v_reached v_stepIn v_laid v_firstRow v_text v_textLong v_spot v_taken v_counted) → va_S A s.heap H locs → lv_has ls 4 [(1, .int x1)] → W p l e rm9_which s m args below meth c H locs 0 0 Q (F0 m 95 ls []) := by
    intro v_far v_row v_stepAt v_depth v_tries v_values v_wrong v_stepIn v_laid v_firstRow x1 H locs ls hf hP hD hS hl
    rw [f9_which_b95] at hf
    refine lv_iload_n hx hb dX9_which_95 rfl (lv_at hl 0 rfl) ?_
    obtain ⟨z1, y1⟩ := Prod.mk.inj (Option.some.inj hf)
    obtain ⟨z2, y2⟩ := Prod.mk.inj y1
    obtain ⟨z3, y3⟩ := Prod.mk.inj y2
    obtain ⟨z4, y4⟩ := Prod.mk.inj y3
    obtain ⟨z5, y5⟩ := Prod.mk.inj y4
    obtain ⟨z6, y6⟩ := Prod.mk.inj y5
    obtain ⟨z7, y7⟩ := Prod.mk.inj y6
    obtain ⟨z8, y8⟩ := Prod.mk.inj y7
    obtain ⟨z9, y9⟩ := Prod.mk.inj y8
    obtain ⟨z10, y10⟩ := Prod.mk.inj y9
    subst z1 z2 z3 z4 z5 z6 z7 z8 z9 z10 y10
    exact hend _ _ _ _ rfl hP hS dX9_which_96
  have J23 : ∀ (n : Nat) (v_far : Nat → Int32) (v_row : Nat → Int32) (v_stepAt : Nat → Int32) (v_depth : Int32) (v_tries : Nat → Int32) (v_values : Nat → Int32) (v_wrong : Int32) (v_stepIn : Nat → Int32) (v_laid : Nat → Int32) (v_firstRow : Nat → Int32) (x1 : Int32) (H : Heap) (locs : List Loc) (ls : Array Slot), f9_which_l23 n v_all v_far v_row v_stepAt v_depth v_tries v_values v_wrong v_stepIn v_laid v_firstRow x1 = some (r0, v_far', v_row', v_stepAt', v_depth', v_tries', v_values', v_wrong', v_stepIn', v_laid', v_firstRow') → va_P D vwCl (wdM cI cZ h v_all v_past v_states v_refused v_far v_row v_stepAt v_depth v_tries v_values v_wrong v_isEnd v_found v_reached v_stepIn v_laid v_firstRow v_text v_textLong v_spot v_taken v_counted) H → va_D A (wdM cI cZ h v_all v_past v_states v_refused v_far v_row v_stepAt v_depth v_tries v_values v_wrong v_isEnd v_found v_reached v_stepIn v_laid v_firstRow v_text v_textLong v_spot v_taken v_counted) → va_S A s.heap H locs → lv_has ls 4 [(0, .ref (h 0)), (1, .int x1)] → W p l e rm9_which s m args below meth c H locs 0 0 Q (F0 m 23 ls []) := by
    intro n
    induction n with
    | zero =>
      intro v_far v_row v_stepAt v_depth v_tries v_values v_wrong v_stepIn v_laid v_firstRow x1 H locs ls hf
      cases (show (none : Option (Int32 × (Nat → Int32) × (Nat → Int32) × (Nat → Int32) × Int32 × (Nat → Int32) × (Nat → Int32) × Int32 × (Nat → Int32) × (Nat → Int32) × (Nat → Int32))) = some (r0, v_far', v_row', v_stepAt', v_depth', v_tries', v_values', v_wrong', v_stepIn', v_laid', v_firstRow') from hf)
    | succ n ih =>
      have J91 : ∀ (v_far : Nat → Int32) (v_row : Nat → Int32) (v_stepAt : Nat → Int32) (v_depth : Int32) (v_tries : Nat → Int32) (v_values : Nat → Int32) (v_wrong : Int32) (v_stepIn : Nat → Int32) (v_laid : Nat → Int32) (v_firstRow : Nat → Int32) (x1 : Int32) (x2 : Int32) (H : Heap) (locs : List Loc) (ls : Array Slot), f9_which_b91 (f9_which_l23 n) v_all v_far v_row v_stepAt v_depth v_tries v_values v_wrong v_stepIn v_laid v_firstRow x1 x2 = some (r0, v_far', v_row', v_stepAt', v_depth', v_tries', v_values', v_wrong', v_stepIn', v_laid', v_firstRow') → va_P D vwCl (wdM cI cZ h v_all v_past v_states v_refused v_far v_row v_stepAt v_depth v_tries v_values v_wrong v_isEnd v_found v_reached v_stepIn v_laid v_firstRow v_text v_textLong v_spot v_taken v_counted) H → va_D A (wdM cI cZ h v_all v_past v_states v_refused v_far v_row v_stepAt v_depth v_tries v_values v_wrong v_isEnd v_found v_reached v_stepIn v_laid v_firstRow v_text v_textLong v_spot v_taken v_counted) → va_S A s.heap H locs → lv_has ls 4 [(0, .ref (h 0)), (1, .int x1), (2, .int x2)] → W p l e rm9_which s m args below meth c H locs 0 0 Q (F0 m 91 ls []) := by
        intro v_far v_row v_stepAt v_depth v_tries v_values v_wrong v_stepIn v_laid v_firstRow x1 x2 H locs ls hf hP hD hS hl
        rw [f9_which_b91] at hf
        refine lv_iload_n hx hb dX9_which_91 rfl (lv_at hl 2 rfl) ?_
        refine lv_if_eq (tgt := 97) hx hb dX9_which_92 (by decide) (fun c11 => ?_) (fun c11 => ?_)
        · rw [if_pos c11] at hf
          refine lv_iinc (v := (x1 + 1)) (lv' := [(1, .int (x1 + 1)), (0, .ref (h 0)), (2, .int x2)]) hx hb dX9_which_97 hl (k := 1) rfl rfl (by decide) rfl (fun ls hl => ?_)
          refine lv_goto (tgt := 23) hx hb dX9_which_100 (by decide) ?_
          exact ih v_far v_row v_stepAt v_depth v_tries v_values v_wrong v_stepIn v_laid v_firstRow (x1 + 1) _ _ _ hf hP hD hS (lv_sub hl [1, 0] rfl)
        · rw [if_neg c11] at hf
          exact J95 v_far v_row v_stepAt v_depth v_tries v_values v_wrong v_stepIn v_laid v_firstRow x1 _ _ _ hf hP hD hS (lv_sub hl [1] rfl)
      have J52 : ∀ (n52 : Nat) (v_far : Nat → Int32) (v_row : Nat → Int32) (v_stepAt : Nat → Int32) (v_depth : Int32) (v_tries : Nat → Int32) (v_values : Nat → Int32) (v_wrong : Int32) (v_stepIn : Nat → Int32) (v_laid : Nat → Int32) (v_firstRow : Nat → Int32) (x1 : Int32) (x2 : Int32) (x3 : Int32) (H : Heap) (locs : List Loc) (ls : Array Slot), f9_which_l52 (f9_which_l23 n) n52 v_all v_far v_row v_stepAt v_depth v_tries v_values v_wrong v_stepIn v_laid v_firstRow x1 x2 x3 = some (r0, v_far', v_row', v_stepAt', v_depth', v_tries', v_values', v_wrong', v_stepIn', v_laid', v_firstRow') → va_P D vwCl (wdM cI cZ h v_all v_past v_states v_refused v_far v_row v_stepAt v_depth v_tries v_values v_wrong v_isEnd v_found v_reached v_stepIn v_laid v_firstRow v_text v_textLong v_spot v_taken v_counted) H → va_D A (wdM cI cZ h v_all v_past v_states v_refused v_far v_row v_stepAt v_depth v_tries v_values v_wrong v_isEnd v_found v_reached v_stepIn v_laid v_firstRow v_text v_textLong v_spot v_taken v_counted) → va_S A s.heap H locs → lv_has ls 4 [(0, .ref (h 0)), (1, .int x1), (2, .int x2), (3, .int x3)] → W p l e rm9_which s m args below meth c H locs 0 0 Q (F0 m 52 ls []) := by
        intro n52
        induction n52 with
        | zero =>
          intro v_far v_row v_stepAt v_depth v_tries v_values v_wrong v_stepIn v_laid v_firstRow x1 x2 x3 H locs ls hf
          cases (show (none : Option (Int32 × (Nat → Int32) × (Nat → Int32) × (Nat → Int32) × Int32 × (Nat → Int32) × (Nat → Int32) × Int32 × (Nat → Int32) × (Nat → Int32) × (Nat → Int32))) = some (r0, v_far', v_row', v_stepAt', v_depth', v_tries', v_values', v_wrong', v_stepIn', v_laid', v_firstRow') from hf)
        | succ n52 ih52 =>
          have J84 : ∀ (v_far : Nat → Int32) (v_row : Nat → Int32) (v_stepAt : Nat → Int32) (v_depth : Int32) (v_tries : Nat → Int32) (v_values : Nat → Int32) (v_wrong : Int32) (v_stepIn : Nat → Int32) (v_laid : Nat → Int32) (v_firstRow : Nat → Int32) (x1 : Int32) (x3 : Int32) (s0 : Int32) (H : Heap) (locs : List Loc) (ls : Array Slot), f9_which_b84 (f9_which_l23 n) (f9_which_l52 (f9_which_l23 n) n52) v_all v_far v_row v_stepAt v_depth v_tries v_values v_wrong v_stepIn v_laid v_firstRow x1 x3 s0 = some (r0, v_far', v_row', v_stepAt', v_depth', v_tries', v_values', v_wrong', v_stepIn', v_laid', v_firstRow') → va_P D vwCl (wdM cI cZ h v_all v_past v_states v_refused v_far v_row v_stepAt v_depth v_tries v_values v_wrong v_isEnd v_found v_reached v_stepIn v_laid v_firstRow v_text v_textLong v_spot v_taken v_counted) H → va_D A (wdM cI cZ h v_all v_past v_states v_refused v_far v_row v_stepAt v_depth v_tries v_values v_wrong v_isEnd v_found v_reached v_stepIn v_laid v_firstRow v_text v_textLong v_spot v_taken v_counted) → va_S A s.heap H locs → lv_has ls 4 [(0, .ref (h 0)), (1, .int x1), (3, .int x3)] → W p l e rm9_which s m args below meth c H locs 0 0 Q (F0 m 84 ls [.int s0]) := by
            intro v_far v_row v_stepAt v_depth v_tries v_values v_wrong v_stepIn v_laid v_firstRow x1 x3 s0 H locs ls hf hP hD hS hl
            rw [f9_which_b84] at hf
            refine lv_istore_n (lv' := [(2, .int s0), (0, .ref (h 0)), (1, .int x1), (3, .int x3)]) hx hb dX9_which_84 rfl hl (by decide) rfl (fun ls hl => ?_)
            refine lv_iinc (v := (x3 + 1)) (lv' := [(3, .int (x3 + 1)), (2, .int s0), (0, .ref (h 0)), (1, .int x1)]) hx hb dX9_which_85 hl (k := 3) rfl rfl (by decide) rfl (fun ls hl => ?_)
            refine lv_goto (tgt := 52) hx hb dX9_which_88 (by decide) ?_
            exact ih52 v_far v_row v_stepAt v_depth v_tries v_values v_wrong v_stepIn v_laid v_firstRow x1 s0 (x3 + 1) _ _ _ hf hP hD hS (lv_sub hl [2, 3, 1, 0] rfl)
          intro v_far v_row v_stepAt v_depth v_tries v_values v_wrong v_stepIn v_laid v_firstRow x1 x2 x3 H locs ls hf hP hD hS hl
          rw [f9_which_l52_s] at hf
          refine lv_iload_n hx hb dX9_which_52 rfl (lv_at hl 3 rfl) ?_
          refine lv_aload_n hx hb dX9_which_53 rfl (lv_at hl 0 rfl) ?_
          refine va_get (D := D) (cl := vwCl) (ci := 6) (v := .int v_depth) (C := RX9) (T := TX9) (N := 22) hx hb hts hin9 hown hK hP 0 rfl rfl 7 (by decide) (hts (.fieldLink RX9 130 "StepOrdersModel" "depth" "I") (by decide +kernel)) (fun _ h9 => h9) rfl dX9_which_54 ?_
          refine lv_icmp_ge (tgt := 91) hx hb dX9_which_57 (by decide) (fun c12 => ?_) (fun c12 => ?_)
          · rw [if_pos c12] at hf
            exact J91 v_far v_row v_stepAt v_depth v_tries v_values v_wrong v_stepIn v_laid v_firstRow x1 x2 _ _ _ hf hP hD hS (lv_sub hl [0, 1, 2] rfl)
          · rw [if_neg c12] at hf
            refine lv_iload_n hx hb dX9_which_60 rfl (lv_at hl 2 rfl) ?_
            refine lv_if_eq (tgt := 91) hx hb dX9_which_61 (by decide) (fun c13 => ?_) (fun c13 => ?_)
            · rw [if_pos c13] at hf
              exact J91 v_far v_row v_stepAt v_depth v_tries v_values v_wrong v_stepIn v_laid v_firstRow x1 x2 _ _ _ hf hP hD hS (lv_sub hl [0, 1, 2] rfl)
            · rw [if_neg c13] at hf
              refine lv_aload_n hx hb dX9_which_64 rfl (lv_at hl 0 rfl) ?_
              refine va_get (D := D) (cl := vwCl) (ci := 6) (v := .ref (h 5)) (C := RX9) (T := TX9) (N := 22) hx hb hts hin9 hown hK hP 0 rfl rfl 5 (by decide) (hts (.fieldLink RX9 22 "StepOrdersModel" "row" "[I") (by decide +kernel)) (fun _ h9 => h9) rfl dX9_which_65 ?_
              refine lv_iload_n hx hb dX9_which_68 rfl (lv_at hl 3 rfl) ?_
              refine kb_bind hf (fun v14 hv14 hf => ?_)
              refine ka_iald (D := D) (cl := vwCl) hx hb hK hP 5 1 (f := v_row) rfl rfl (ard_in hv14) (ard_v hv14) dX9_which_69 ?_
              refine lv_aload_n hx hb dX9_which_70 rfl (lv_at hl 0 rfl) ?_
              refine va_get (D := D) (cl := vwCl) (ci := 6) (v := .ref (h 14)) (C := RX9) (T := TX9) (N := 22) hx hb hts hin9 hown hK hP 0 rfl rfl 16 (by decide) (hts (.fieldLink RX9 50 "StepOrdersModel" "firstRow" "[I") (by decide +kernel)) (fun _ h9 => h9) rfl dX9_which_71 ?_
              refine lv_iload_n hx hb dX9_which_74 rfl (lv_at hl 3 rfl) ?_
              refine kb_bind hf (fun v15 hv15 hf => ?_)
              refine ka_iald (D := D) (cl := vwCl) hx hb hK hP 14 1 (f := v_firstRow) rfl rfl (ard_in hv15) (ard_v hv15) dX9_which_75 ?_
              refine lv_icmp_ne (tgt := 83) hx hb dX9_which_76 (by decide) (fun c16 => ?_) (fun c16 => ?_)
              · rw [if_neg c16] at hf
                refine lv_iconst (v := 0) hx hb dX9_which_83 (by decide) ?_
                exact J84 v_far v_row v_stepAt v_depth v_tries v_values v_wrong v_stepIn v_laid v_firstRow x1 x3 (0 : Int32) _ _ _ hf hP hD hS (lv_sub hl [0, 1, 3] rfl)
              · rw [if_pos c16] at hf
                refine lv_iconst (v := 1) hx hb dX9_which_79 (by decide) ?_
                refine lv_goto (tgt := 84) hx hb dX9_which_80 (by decide) ?_
                exact J84 v_far v_row v_stepAt v_depth v_tries v_values v_wrong v_stepIn v_laid v_firstRow x1 x3 (1 : Int32) _ _ _ hf hP hD hS (lv_sub hl [0, 1, 3] rfl)
      have J49 : ∀ (v_far : Nat → Int32) (v_row : Nat → Int32) (v_stepAt : Nat → Int32) (v_depth : Int32) (v_tries : Nat → Int32) (v_values : Nat → Int32) (v_wrong : Int32) (v_stepIn : Nat → Int32) (v_laid : Nat → Int32) (v_firstRow : Nat → Int32) (x1 : Int32) (s0 : Int32) (H : Heap) (locs : List Loc) (ls : Array Slot), f9_which_b49 (f9_which_l23 n) v_all v_far v_row v_stepAt v_depth v_tries v_values v_wrong v_stepIn v_laid v_firstRow x1 s0 = some (r0, v_far', v_row', v_stepAt', v_depth', v_tries', v_values', v_wrong', v_stepIn', v_laid', v_firstRow') → va_P D vwCl (wdM cI cZ h v_all v_past v_states v_refused v_far v_row v_stepAt v_depth v_tries v_values v_wrong v_isEnd v_found v_reached v_stepIn v_laid v_firstRow v_text v_textLong v_spot v_taken v_counted) H → va_D A (wdM cI cZ h v_all v_past v_states v_refused v_far v_row v_stepAt v_depth v_tries v_values v_wrong v_isEnd v_found v_reached v_stepIn v_laid v_firstRow v_text v_textLong v_spot v_taken v_counted) → va_S A s.heap H locs → lv_has ls 4 [(0, .ref (h 0)), (1, .int x1)] → W p l e rm9_which s m args below meth c H locs 0 0 Q (F0 m 49 ls [.int s0]) := by
        intro v_far v_row v_stepAt v_depth v_tries v_values v_wrong v_stepIn v_laid v_firstRow x1 s0 H locs ls hf hP hD hS hl
        rw [f9_which_b49] at hf
        refine lv_istore_n (lv' := [(2, .int s0), (0, .ref (h 0)), (1, .int x1)]) hx hb dX9_which_49 rfl hl (by decide) rfl (fun ls hl => ?_)
        refine lv_iconst (v := 0) hx hb dX9_which_50 (by decide) ?_
        refine lv_istore_n (lv' := [(3, .int (0 : Int32)), (2, .int s0), (0, .ref (h 0)), (1, .int x1)]) hx hb dX9_which_51 rfl hl (by decide) rfl (fun ls hl => ?_)
        exact J52 kFUEL v_far v_row v_stepAt v_depth v_tries v_values v_wrong v_stepIn v_laid v_firstRow x1 s0 (0 : Int32) _ _ _ hf hP hD hS (lv_sub hl [2, 3, 1, 0] rfl)
      intro v_far v_row v_stepAt v_depth v_tries v_values v_wrong v_stepIn v_laid v_firstRow x1 H locs ls hf hP hD hS hl
      rw [f9_which_l23_s] at hf
      refine lv_aload_n hx hb dX9_which_23 rfl (lv_at hl 0 rfl) ?_
      refine kb_bind hf (fun q17 hq17 hf => ?_)
      have hPc : va_P D vwCl (wdM cI cZ h v_all v_past v_states v_refused v_far v_row v_stepAt v_depth v_tries v_values v_wrong v_isEnd v_found v_reached v_stepIn v_laid v_firstRow v_text v_textLong v_spot v_taken v_counted) H := hP.sub [0, 1, 2, 3, 4, 5, 6, 7, 8, 9, 10, 11, 12, 13, 14, 15, 16] rfl
      have hDc : va_D A (wdM cI cZ h v_all v_past v_states v_refused v_far v_row v_stepAt v_depth v_tries v_values v_wrong v_isEnd v_found v_reached v_stepIn v_laid v_firstRow v_text v_textLong v_spot v_taken v_counted) := hD.sub [0, 1, 2, 3, 4, 5, 6, 7, 8, 9, 10, 11, 12, 13, 14, 15, 16] (by decide) rfl
      refine kd_iW (ws' := wdM cI cZ h v_all v_past v_states v_refused q17.2.1 q17.2.2.1 q17.2.2.2.1 q17.2.2.2.2.1 q17.2.2.2.2.2 v_values v_wrong v_isEnd v_found v_reached v_stepIn v_laid v_firstRow v_text v_textLong v_spot v_taken v_counted) (va_runV (As := []) (rest := []) ⟨hx, hb, hml, hown, hts⟩ (c9_goesOn l D cB cI cZ cO h H.size v_all v_past v_states v_refused v_far v_row v_stepAt v_depth v_tries v_values v_wrong v_isEnd v_found v_reached v_stepIn v_laid v_firstRow v_text v_textLong v_spot v_taken v_counted q17.1 q17.2.1 q17.2.2.1 q17.2.2.2.1 q17.2.2.2.2.1 q17.2.2.2.2.2 hq17) (cwV 0 hts gX9_which_X9_goesOn rfl rfl rfl (by decide +kernel) ⟨Nat.le_of_ble_eq_true rfl, Nat.le_of_ble_eq_true rfl⟩) ⟨kb_blind, va_recv hK hPc (ci := 6) (q0 := 0) rfl rfl, kb_pre hPc hDc hK hN⟩ rfl rfl hl.1 rfl (lv_room (Nat.le_of_ble_eq_true rfl)) dX9_which_24 ⟨Nat.le_refl _, Nat.le_refl _⟩) hP hD hS hA [0, 1, 2, 3, 4, 5, 6, 7, 8, 9, 10, 11, 12, 13, 14, 15, 16] [] rfl rfl (fun _ h9 => absurd h9 List.not_mem_nil) rfl rfl (fun H locs hn18 hP hD hS => ?_)
      refine lv_if_eq (tgt := 103) hx hb dX9_which_27 (by decide) (fun c19 => ?_) (fun c19 => ?_)
      · rw [if_pos c19] at hf
        refine lv_iconst (v := (-1)) hx hb dX9_which_103 (by decide) ?_
        obtain ⟨z1, y1⟩ := Prod.mk.inj (Option.some.inj hf)
        obtain ⟨z2, y2⟩ := Prod.mk.inj y1
        obtain ⟨z3, y3⟩ := Prod.mk.inj y2
        obtain ⟨z4, y4⟩ := Prod.mk.inj y3
        obtain ⟨z5, y5⟩ := Prod.mk.inj y4
        obtain ⟨z6, y6⟩ := Prod.mk.inj y5
        obtain ⟨z7, y7⟩ := Prod.mk.inj y6
        obtain ⟨z8, y8⟩ := Prod.mk.inj y7
        obtain ⟨z9, y9⟩ := Prod.mk.inj y8
        obtain ⟨z10, y10⟩ := Prod.mk.inj y9
        subst z1 z2 z3 z4 z5 z6 z7 z8 z9 z10 y10
        exact hend _ _ _ _ rfl hP hS dX9_which_104
      · rw [if_neg c19] at hf
        refine lv_aload_n hx hb dX9_which_30 rfl (lv_at hl 0 rfl) ?_
        refine va_get (D := D) (cl := vwCl) (ci := 6) (v := .int q17.2.2.2.2.1) (C := RX9) (T := TX9) (N := 22) hx hb hts hin9 hown hK hP 0 rfl rfl 7 (by decide) (hts (.fieldLink RX9 130 "StepOrdersModel" "depth" "I") (by decide +kernel)) (fun _ h9 => h9) rfl dX9_which_31 ?_
        refine lv_aload_n hx hb dX9_which_34 rfl (lv_at hl 0 rfl) ?_
        refine va_get (D := D) (cl := vwCl) (ci := 6) (v := .ref (h 1)) (C := RX9) (T := TX9) (N := 22) hx hb hts hin9 hown hK hP 0 rfl rfl 0 (by decide) (hts (.fieldLink RX9 7 "StepOrdersModel" "all" "[I") (by decide +kernel)) (fun _ h9 => h9) rfl dX9_which_35 ?_
        refine lv_bipush (v := 43) hx hb dX9_which_38 (by decide) ?_
        refine ka_iald (D := D) (cl := vwCl) hx hb hK hP 1 1 (f := v_all) rfl rfl (v := (v_all 43)) (show ¬ (_ ∨ _) from by decide) rfl dX9_which_40 ?_
        refine lv_icmp_ne (tgt := 48) hx hb dX9_which_41 (by decide) (fun c20 => ?_) (fun c20 => ?_)
        · rw [if_neg c20] at hf
          refine lv_iconst (v := 0) hx hb dX9_which_48 (by decide) ?_
          exact J49 q17.2.1 q17.2.2.1 q17.2.2.2.1 q17.2.2.2.2.1 q17.2.2.2.2.2 v_values v_wrong v_stepIn v_laid v_firstRow x1 (0 : Int32) _ _ _ hf hP hD hS (lv_sub hl [0, 1] rfl)
        · rw [if_pos c20] at hf
          refine lv_iconst (v := 1) hx hb dX9_which_44 (by decide) ?_
          refine lv_goto (tgt := 49) hx hb dX9_which_45 (by decide) ?_
          exact J49 q17.2.1 q17.2.2.1 q17.2.2.2.1 q17.2.2.2.2.1 q17.2.2.2.2.2 v_values v_wrong v_stepIn v_laid v_firstRow x1 (1 : Int32) _ _ _ hf hP hD hS (lv_sub hl [0, 1] rfl)
  rw [f9_which] at hf
  refine lv_aload_n hx hb dX9_which_0 rfl (lv_at hl 0 rfl) ?_
  refine kb_bind hf (fun q21 hq21 hf => ?_)
  have hPc : va_P D vwCl (wdM cI cZ h v_all v_past v_states v_refused v_far v_row v_stepAt v_depth v_tries v_values v_wrong v_isEnd v_found v_reached v_stepIn v_laid v_firstRow v_text v_textLong v_spot v_taken v_counted) H := hP.sub [0, 1, 2, 3, 4, 5, 6, 7, 8, 9, 10, 11, 12, 13, 14, 15, 16] rfl
  have hDc : va_D A (wdM cI cZ h v_all v_past v_states v_refused v_far v_row v_stepAt v_depth v_tries v_values v_wrong v_isEnd v_found v_reached v_stepIn v_laid v_firstRow v_text v_textLong v_spot v_taken v_counted) := hD.sub [0, 1, 2, 3, 4, 5, 6, 7, 8, 9, 10, 11, 12, 13, 14, 15, 16] (by decide) rfl
  refine kd_vW (ws' := wdM cI cZ h v_all v_past v_states v_refused q21.1 v_row v_stepAt q21.2.1 q21.2.2.1 q21.2.2.2.1 q21.2.2.2.2 v_isEnd v_found v_reached v_stepIn v_laid v_firstRow v_text v_textLong v_spot v_taken v_counted) (va_runV (As := []) (rest := []) ⟨hx, hb, hml, hown, hts⟩ (c9_goesRun l D cB cI cZ cO h H.size v_all v_past v_states v_refused v_far v_row v_stepAt v_depth v_tries v_values v_wrong v_isEnd v_found v_reached v_stepIn v_laid v_firstRow v_text v_textLong v_spot v_taken v_counted q21.1 q21.2.1 q21.2.2.1 q21.2.2.2.1 q21.2.2.2.2 hq21) (cwV 0 hts gX9_which_X9_goesRun rfl rfl rfl (by decide +kernel) ⟨Nat.le_of_ble_eq_true rfl, Nat.le_of_ble_eq_true rfl⟩) ⟨kb_blind, va_recv hK hPc (ci := 6) (q0 := 0) rfl rfl, kb_pre hPc hDc hK hN⟩ rfl rfl hl.1 rfl (lv_room (Nat.le_of_ble_eq_true rfl)) dX9_which_1 ⟨Nat.le_refl _, Nat.le_refl _⟩) hP hD hS hA [0, 1, 2, 3, 4, 5, 6, 7, 8, 9, 10, 11, 12, 13, 14, 15, 16] [] rfl rfl (fun _ h9 => absurd h9 List.not_mem_nil) rfl rfl (fun H locs hP hD hS => ?_)
  refine lv_aload_n hx hb dX9_which_4 rfl (lv_at hl 0 rfl) ?_
  refine kb_bind hf (fun q22 hq22 hf => ?_)
  have hPc : va_P D vwCl (wdM cI cZ h v_all v_past v_states v_refused q21.1 v_row v_stepAt q21.2.1 q21.2.2.1 q21.2.2.2.1 q21.2.2.2.2 v_isEnd v_found v_reached v_stepIn v_laid v_firstRow v_text v_textLong v_spot v_taken v_counted) H := hP.sub [0, 1, 2, 3, 4, 5, 6, 7, 8, 9, 10, 11, 12, 13, 14, 15, 16] rfl
  have hDc : va_D A (wdM cI cZ h v_all v_past v_states v_refused q21.1 v_row v_stepAt q21.2.1 q21.2.2.1 q21.2.2.2.1 q21.2.2.2.2 v_isEnd v_found v_reached v_stepIn v_laid v_firstRow v_text v_textLong v_spot v_taken v_counted) := hD.sub [0, 1, 2, 3, 4, 5, 6, 7, 8, 9, 10, 11, 12, 13, 14, 15, 16] (by decide) rfl
  refine kd_iR (va_runV (As := []) (rest := []) ⟨hx, hb, hml, hown, hts⟩ (c9_isStill l D cB cI cZ cO h H.size v_all v_past v_states v_refused q21.1 v_row v_stepAt q21.2.1 q21.2.2.1 q21.2.2.2.1 q21.2.2.2.2 v_isEnd v_found v_reached v_stepIn v_laid v_firstRow v_text v_textLong v_spot v_taken v_counted q22 hq22) (cwV 0 hts gX9_which_X9_isStill rfl rfl rfl (by decide +kernel) ⟨Nat.le_of_ble_eq_true rfl, Nat.le_of_ble_eq_true rfl⟩) ⟨kb_blind, va_recv hK hPc (ci := 6) (q0 := 0) rfl rfl, kb_pre hPc hDc hK hN⟩ rfl rfl hl.1 rfl (lv_room (Nat.le_of_ble_eq_true rfl)) dX9_which_5 ⟨Nat.le_refl _, Nat.le_refl _⟩) hP hD hS hA [0, 1, 2, 3, 4, 5, 6, 7, 8, 9, 10, 11, 12, 13, 14, 15, 16] rfl (fun H locs hn23 hP hS => ?_)
  refine lv_if_ne (tgt := 13) hx hb dX9_which_8 (by decide) (fun c24 => ?_) (fun c24 => ?_)
  · rw [if_neg c24] at hf
    refine lv_aload_n hx hb dX9_which_13 rfl (lv_at hl 0 rfl) ?_
    refine kb_bind hf (fun q25 hq25 hf => ?_)
    have hPc : va_P D vwCl (wdM cI cZ h v_all v_past v_states v_refused q21.1 v_row v_stepAt q21.2.1 q21.2.2.1 q21.2.2.2.1 q21.2.2.2.2 v_isEnd v_found v_reached v_stepIn v_laid v_firstRow v_text v_textLong v_spot v_taken v_counted) H := hP.sub [0, 1, 2, 3, 4, 5, 6, 7, 8, 9, 10, 11, 12, 13, 14, 15, 16] rfl
    have hDc : va_D A (wdM cI cZ h v_all v_past v_states v_refused q21.1 v_row v_stepAt q21.2.1 q21.2.2.1 q21.2.2.2.1 q21.2.2.2.2 v_isEnd v_found v_reached v_stepIn v_laid v_firstRow v_text v_textLong v_spot v_taken v_counted) := hD.sub [0, 1, 2, 3, 4, 5, 6, 7, 8, 9, 10, 11, 12, 13, 14, 15, 16] (by decide) rfl
    refine kd_vW (ws' := wdM cI cZ h v_all v_past v_states v_refused q25.1 v_row v_stepAt q25.2.1 q25.2.2.1 q21.2.2.2.1 q21.2.2.2.2 v_isEnd v_found v_reached q25.2.2.2.1 q25.2.2.2.2.1 q25.2.2.2.2.2 v_text v_textLong v_spot v_taken v_counted) (va_runV (As := []) (rest := []) ⟨hx, hb, hml, hown, hts⟩ (c9_laysFirst l D cB cI cZ cO h H.size v_all v_past v_states v_refused q21.1 v_row v_stepAt q21.2.1 q21.2.2.1 q21.2.2.2.1 q21.2.2.2.2 v_isEnd v_found v_reached v_stepIn v_laid v_firstRow v_text v_textLong v_spot v_taken v_counted q25.1 q25.2.1 q25.2.2.1 q25.2.2.2.1 q25.2.2.2.2.1 q25.2.2.2.2.2 hq25) (cwV 0 hts gX9_which_X9_laysFirst rfl rfl rfl (by decide +kernel) ⟨Nat.le_of_ble_eq_true rfl, Nat.le_of_ble_eq_true rfl⟩) ⟨kb_blind, va_recv hK hPc (ci := 6) (q0 := 0) rfl rfl, kb_pre hPc hDc hK hN⟩ rfl rfl hl.1 rfl (lv_room (Nat.le_of_ble_eq_true rfl)) dX9_which_14 ⟨Nat.le_refl _, Nat.le_refl _⟩) hP hD hS hA [0, 1, 2, 3, 4, 5, 6, 7, 8, 9, 10, 11, 12, 13, 14, 15, 16] [] rfl rfl (fun _ h9 => absurd h9 List.not_mem_nil) rfl rfl (fun H locs hP hD hS => ?_)
    refine lv_aload_n hx hb dX9_which_17 rfl (lv_at hl 0 rfl) ?_
    refine kb_bind hf (fun q26 hq26 hf => ?_)
    have hPc : va_P D vwCl (wdM cI cZ h v_all v_past v_states v_refused q25.1 v_row v_stepAt q25.2.1 q25.2.2.1 q21.2.2.2.1 q21.2.2.2.2 v_isEnd v_found v_reached q25.2.2.2.1 q25.2.2.2.2.1 q25.2.2.2.2.2 v_text v_textLong v_spot v_taken v_counted) H := hP.sub [0, 1, 2, 3, 4, 5, 6, 7, 8, 9, 10, 11, 12, 13, 14, 15, 16] rfl
    have hDc : va_D A (wdM cI cZ h v_all v_past v_states v_refused q25.1 v_row v_stepAt q25.2.1 q25.2.2.1 q21.2.2.2.1 q21.2.2.2.2 v_isEnd v_found v_reached q25.2.2.2.1 q25.2.2.2.2.1 q25.2.2.2.2.2 v_text v_textLong v_spot v_taken v_counted) := hD.sub [0, 1, 2, 3, 4, 5, 6, 7, 8, 9, 10, 11, 12, 13, 14, 15, 16] (by decide) rfl
    refine kd_vW (ws' := wdM cI cZ h v_all v_past v_states v_refused q26.1 v_row v_stepAt q26.2.1 q26.2.2 q21.2.2.2.1 q21.2.2.2.2 v_isEnd v_found v_reached q25.2.2.2.1 q25.2.2.2.2.1 q25.2.2.2.2.2 v_text v_textLong v_spot v_taken v_counted) (va_runV (As := []) (rest := []) ⟨hx, hb, hml, hown, hts⟩ (c9_starts l D cB cI cZ cO h H.size v_all v_past v_states v_refused q25.1 v_row v_stepAt q25.2.1 q25.2.2.1 q21.2.2.2.1 q21.2.2.2.2 v_isEnd v_found v_reached q25.2.2.2.1 q25.2.2.2.2.1 q25.2.2.2.2.2 v_text v_textLong v_spot v_taken v_counted q26.1 q26.2.1 q26.2.2 hq26) (cwV 0 hts gX9_which_X9_starts rfl rfl rfl (by decide +kernel) ⟨Nat.le_of_ble_eq_true rfl, Nat.le_of_ble_eq_true rfl⟩) ⟨kb_blind, va_recv hK hPc (ci := 6) (q0 := 0) rfl rfl, kb_pre hPc hDc hK hN⟩ rfl rfl hl.1 rfl (lv_room (Nat.le_of_ble_eq_true rfl)) dX9_which_18 ⟨Nat.le_refl _, Nat.le_refl _⟩) hP hD hS hA [0, 1, 2, 3, 4, 5, 6, 7, 8, 9, 10, 11, 12, 13, 14, 15, 16] [] rfl rfl (fun _ h9 => absurd h9 List.not_mem_nil) rfl rfl (fun H locs hP hD hS => ?_)
    refine lv_iconst (v := 0) hx hb dX9_which_21 (by decide) ?_
    refine lv_istore_n (lv' := [(1, .int (0 : Int32)), (0, .ref (h 0))]) hx hb dX9_which_22 rfl hl (by decide) rfl (fun ls hl => ?_)
    exact J23 kFUEL q26.1 v_row v_stepAt q26.2.1 q26.2.2 q21.2.2.2.1 q21.2.2.2.2 q25.2.2.2.1 q25.2.2.2.2.1 q25.2.2.2.2.2 (0 : Int32) _ _ _ hf hP hD hS (lv_sub hl [1, 0] rfl)
  · rw [if_pos c24] at hf
    refine lv_iconst (v := (-1)) hx hb dX9_which_11 (by decide) ?_
    obtain ⟨z1, y1⟩ := Prod.mk.inj (Option.some.inj hf)
    obtain ⟨z2, y2⟩ := Prod.mk.inj y1
    obtain ⟨z3, y3⟩ := Prod.mk.inj y2
    obtain ⟨z4, y4⟩ := Prod.mk.inj y3
    obtain ⟨z5, y5⟩ := Prod.mk.inj y4
    obtain ⟨z6, y6⟩ := Prod.mk.inj y5
    obtain ⟨z7, y7⟩ := Prod.mk.inj y6
    obtain ⟨z8, y8⟩ := Prod.mk.inj y7
    obtain ⟨z9, y9⟩ := Prod.mk.inj y8
    obtain ⟨z10, y10⟩ := Prod.mk.inj y9
    subst z1 z2 z3 z4 z5 z6 z7 z8 z9 z10 y10
    exact hend _ _ _ _ rfl hP hS dX9_which_12

set_option maxHeartbeats 4000000 in
set_option maxRecDepth 100000 in
theorem c9_type (l : Launch) (D : va_G) (cB cI cZ cO : ClassId) (h : Nat → Nat) (sz : Nat) (x1 : Int32) (v_all : Nat → Int32) (v_past : Nat → Int32) (v_states : Int32) (v_refused : Nat → Int32) (v_far : Nat → Int32) (v_row : Nat → Int32) (v_stepAt : Nat → Int32) (v_depth : Int32) (v_tries : Nat → Int32) (v_values : Nat → Int32) (v_wrong : Int32) (v_isEnd : Nat → Int32) (v_found : Nat → Int32) (v_reached : Nat → Int32) (v_stepIn : Nat → Int32) (v_laid : Nat → Int32) (v_firstRow : Nat → Int32) (v_text : Nat → Int32) (v_textLong : Int32) (v_spot : Int32) (v_taken : Int32) (v_counted : Nat → Int32) (r0 : Int32) (v_refused' : Nat → Int32) (v_text' : Nat → Int32) (v_textLong' : Int32) (hf : f9_type v_refused v_text v_textLong x1 = some (r0, v_refused', v_text', v_textLong')) : Met l yX9_type wsX9_type rm9_type (va_Pc [.ref (h 0), .int x1] (kb_B D (ka_tys cB cI cZ cO) sz (wdM cI cZ h v_all v_past v_states v_refused v_far v_row v_stepAt v_depth v_tries v_values v_wrong v_isEnd v_found v_reached v_stepIn v_laid v_firstRow v_text v_textLong v_spot v_taken v_counted))) (va_Qi (kb_post .int r0) (fun _ t => va_P D vwCl (wdM cI cZ h v_all v_past v_states (v_refused') v_far v_row v_stepAt v_depth v_tries v_values v_wrong v_isEnd v_found v_reached v_stepIn v_laid v_firstRow (v_text') (v_textLong') v_spot v_taken v_counted) t.heap) (va_A (wdM cI cZ h v_all v_past v_states v_refused v_far v_row v_stepAt v_depth v_tries v_values v_wrong v_isEnd v_found v_reached v_stepIn v_laid v_firstRow v_text v_textLong v_spot v_taken v_counted) sz)) 0 0 (va_A (wdM cI cZ h v_all v_past v_states v_refused v_far v_row v_stepAt v_depth v_tries v_values v_wrong v_isEnd v_found v_reached v_stepIn v_laid v_firstRow v_text v_textLong v_spot v_taken v_counted) sz) := by
  refine kb_metZ (cc := cX9_type) (maxL := 2) (ty := .int) (by decide) rfl (Nat.le_of_ble_eq_true rfl) ?_
  intro p e s m args below meth c Q A ls H hx hb hml hown hts hK hN hP hD hS hA hl hend
  have hown : s.vm.findClass RX9 = some m.cls := hown
  have hl : lv_has ls 2 [(0, .ref (h 0)), (1, .int x1)] := hl
  have hin9 : ∀ w ∈ u_ws RX9 TX9 22, w ∈ wsX9_type := by decide +kernel
  rw [f9_type] at hf
  refine lv_iload_n hx hb dX9_type_0 rfl (lv_at hl 1 rfl) ?_
  refine lv_i2l (v := x1.toInt64) hx hb dX9_type_1 rfl ?_
  refine lv_lconst (v := 0) hx hb dX9_type_2 (by decide) ?_
  refine lv_ldc2 (v := 127) hx hb hown (hts (.constantLong RX9 191 (127)) (by decide +kernel)) dX9_type_3 ?_
  have hPc : va_P D vwCl ([]) H := hP.sub [] rfl
  have hDc : va_D A ([]) := hD.sub [] (by decide) rfl
  refine kd_iR (va_runS (As := [.long x1.toInt64, .long (0 : Int64), .long (127 : Int64)]) (rest := []) ⟨hx, hb, hml, hown, hts⟩ (c9_in l D cB cI cZ cO h H.size x1.toInt64 (0 : Int64) (127 : Int64) (f9_in x1.toInt64 (0 : Int64) (127 : Int64)) rfl) (va_cwS 3 hts gX9_type_X9_in rfl rfl rfl (by decide +kernel) ⟨Nat.le_of_ble_eq_true rfl, Nat.le_of_ble_eq_true rfl⟩) ⟨kb_blind, kb_pre hPc hDc hK hN⟩ rfl rfl hl.1 rfl (lv_room (Nat.le_of_ble_eq_true rfl)) dX9_type_6 ⟨Nat.le_refl _, Nat.le_refl _⟩) hP hD hS hA [] rfl (fun H locs hn1 hP hS => ?_)
  refine lv_if_ne (tgt := 19) hx hb dX9_type_9 (by decide) (fun c2 => ?_) (fun c2 => ?_)
  · rw [if_neg c2] at hf
    refine lv_aload_n hx hb dX9_type_19 rfl (lv_at hl 0 rfl) ?_
    refine va_get (D := D) (cl := vwCl) (ci := 6) (v := .int v_textLong) (C := RX9) (T := TX9) (N := 22) hx hb hts hin9 hown hK hP 0 rfl rfl 18 (by decide) (hts (.fieldLink RX9 193 "StepOrdersModel" "textLong" "I") (by decide +kernel)) (fun _ h9 => h9) rfl dX9_type_20 ?_
    refine lv_bipush (v := 120) hx hb dX9_type_23 (by decide) ?_
    refine lv_icmp_ne (tgt := 35) hx hb dX9_type_25 (by decide) (fun c3 => ?_) (fun c3 => ?_)
    · rw [if_neg c3] at hf
      refine lv_aload_n hx hb dX9_type_35 rfl (lv_at hl 0 rfl) ?_
      refine va_get (D := D) (cl := vwCl) (ci := 6) (v := .ref (h 15)) (C := RX9) (T := TX9) (N := 22) hx hb hts hin9 hown hK hP 0 rfl rfl 17 (by decide) (hts (.fieldLink RX9 53 "StepOrdersModel" "text" "[I") (by decide +kernel)) (fun _ h9 => h9) rfl dX9_type_36 ?_
      refine lv_aload_n hx hb dX9_type_39 rfl (lv_at hl 0 rfl) ?_
      refine va_get (D := D) (cl := vwCl) (ci := 6) (v := .int v_textLong) (C := RX9) (T := TX9) (N := 22) hx hb hts hin9 hown hK hP 0 rfl rfl 18 (by decide) (hts (.fieldLink RX9 193 "StepOrdersModel" "textLong" "I") (by decide +kernel)) (fun _ h9 => h9) rfl dX9_type_40 ?_
      refine lv_iload_n hx hb dX9_type_43 rfl (lv_at hl 1 rfl) ?_
      refine kb_bind hf (fun v4 hv4 hf => ?_)
      refine ka_iast (D := D) (cl := vwCl) hx hb hK hP hD hS 15 1 (f := v_text) (g := v4) rfl rfl (awr_in hv4) (awr_v hv4) dX9_type_44 (fun H locs hP hD hS => ?_)
      have hP : va_P D vwCl (wdM cI cZ h v_all v_past v_states v_refused v_far v_row v_stepAt v_depth v_tries v_values v_wrong v_isEnd v_found v_reached v_stepIn v_laid v_firstRow v4 v_textLong v_spot v_taken v_counted) H := hP
      have hD : va_D A (wdM cI cZ h v_all v_past v_states v_refused v_far v_row v_stepAt v_depth v_tries v_values v_wrong v_isEnd v_found v_reached v_stepIn v_laid v_firstRow v4 v_textLong v_spot v_taken v_counted) := hD
      refine lv_aload_n hx hb dX9_type_45 rfl (lv_at hl 0 rfl) ?_
      refine lv_dup hx hb dX9_type_46 rfl ?_
      refine va_get (D := D) (cl := vwCl) (ci := 6) (v := .int v_textLong) (C := RX9) (T := TX9) (N := 22) hx hb hts hin9 hown hK hP 0 rfl rfl 18 (by decide) (hts (.fieldLink RX9 193 "StepOrdersModel" "textLong" "I") (by decide +kernel)) (fun _ h9 => h9) rfl dX9_type_47 ?_
      refine lv_iconst (v := 1) hx hb dX9_type_50 (by decide) ?_
      refine lv_iadd hx hb dX9_type_51 ?_
      refine va_put (D := D) (cl := vwCl) (ci := 6) (v := .int (v_textLong + (1 : Int32))) (ty := .int) (C := RX9) (T := TX9) (N := 22) hx hb hts hin9 tyX9 tyX9_ok nmX9 hown hK hP hD hS 0 rfl rfl 18 (by decide) (hts (.fieldLink RX9 193 "StepOrdersModel" "textLong" "I") (by decide +kernel)) (fun _ h9 => h9) rfl (tyX9_ok 18 (by decide)) rfl rfl (Nat.le_of_ble_eq_true rfl) dX9_type_52 (fun H locs hP hD hS => ?_)
      have hP : va_P D vwCl (wdM cI cZ h v_all v_past v_states v_refused v_far v_row v_stepAt v_depth v_tries v_values v_wrong v_isEnd v_found v_reached v_stepIn v_laid v_firstRow v4 (v_textLong + (1 : Int32)) v_spot v_taken v_counted) H := hP
      have hD : va_D A (wdM cI cZ h v_all v_past v_states v_refused v_far v_row v_stepAt v_depth v_tries v_values v_wrong v_isEnd v_found v_reached v_stepIn v_laid v_firstRow v4 (v_textLong + (1 : Int32)) v_spot v_taken v_counted) := hD
      refine lv_aload_n hx hb dX9_type_55 rfl (lv_at hl 0 rfl) ?_
      refine va_get (D := D) (cl := vwCl) (ci := 6) (v := .int (v_textLong + (1 : Int32))) (C := RX9) (T := TX9) (N := 22) hx hb hts hin9 hown hK hP 0 rfl rfl 18 (by decide) (hts (.fieldLink RX9 193 "StepOrdersModel" "textLong" "I") (by decide +kernel)) (fun _ h9 => h9) rfl dX9_type_56 ?_
      obtain ⟨z1, y1⟩ := Prod.mk.inj (Option.some.inj hf)
      obtain ⟨z2, y2⟩ := Prod.mk.inj y1
      obtain ⟨z3, y3⟩ := Prod.mk.inj y2
      subst z1 z2 z3 y3
      exact hend _ _ _ _ rfl hP hS dX9_type_59
    · rw [if_pos c3] at hf
      refine lv_aload_n hx hb dX9_type_28 rfl (lv_at hl 0 rfl) ?_
      refine lv_bipush (v := (-4)) hx hb dX9_type_29 (by decide) ?_
      refine kb_bind hf (fun q5 hq5 hf => ?_)
      have hPc : va_P D vwCl (wdM cI cZ h v_all v_past v_states v_refused v_far v_row v_stepAt v_depth v_tries v_values v_wrong v_isEnd v_found v_reached v_stepIn v_laid v_firstRow v_text v_textLong v_spot v_taken v_counted) H := hP.sub [0, 1, 2, 3, 4, 5, 6, 7, 8, 9, 10, 11, 12, 13, 14, 15, 16] rfl
      have hDc : va_D A (wdM cI cZ h v_all v_past v_states v_refused v_far v_row v_stepAt v_depth v_tries v_values v_wrong v_isEnd v_found v_reached v_stepIn v_laid v_firstRow v_text v_textLong v_spot v_taken v_counted) := hD.sub [0, 1, 2, 3, 4, 5, 6, 7, 8, 9, 10, 11, 12, 13, 14, 15, 16] (by decide) rfl
      refine kd_iW (ws' := wdM cI cZ h v_all v_past v_states q5.2 v_far v_row v_stepAt v_depth v_tries v_values v_wrong v_isEnd v_found v_reached v_stepIn v_laid v_firstRow v_text v_textLong v_spot v_taken v_counted) (va_runV (As := [.int (-4 : Int32)]) (rest := []) ⟨hx, hb, hml, hown, hts⟩ (c9_refuses l D cB cI cZ cO h H.size (-4 : Int32) v_all v_past v_states v_refused v_far v_row v_stepAt v_depth v_tries v_values v_wrong v_isEnd v_found v_reached v_stepIn v_laid v_firstRow v_text v_textLong v_spot v_taken v_counted q5.1 q5.2 hq5) (cwV 1 hts gX9_type_X9_refuses rfl rfl rfl (by decide +kernel) ⟨Nat.le_of_ble_eq_true rfl, Nat.le_of_ble_eq_true rfl⟩) ⟨kb_blind, va_recv hK hPc (ci := 6) (q0 := 0) rfl rfl, kb_pre hPc hDc hK hN⟩ rfl rfl hl.1 rfl (lv_room (Nat.le_of_ble_eq_true rfl)) dX9_type_31 ⟨Nat.le_refl _, Nat.le_refl _⟩) hP hD hS hA [0, 1, 2, 3, 4, 5, 6, 7, 8, 9, 10, 11, 12, 13, 14, 15, 16] [] rfl rfl (fun _ h9 => absurd h9 List.not_mem_nil) rfl rfl (fun H locs hn6 hP hD hS => ?_)
      obtain ⟨z1, y1⟩ := Prod.mk.inj (Option.some.inj hf)
      obtain ⟨z2, y2⟩ := Prod.mk.inj y1
      obtain ⟨z3, y3⟩ := Prod.mk.inj y2
      subst z1 z2 z3 y3
      exact hend _ _ _ _ rfl hP hS dX9_type_34
  · rw [if_pos c2] at hf
    refine lv_aload_n hx hb dX9_type_12 rfl (lv_at hl 0 rfl) ?_
    refine lv_bipush (v := (-2)) hx hb dX9_type_13 (by decide) ?_
    refine kb_bind hf (fun q7 hq7 hf => ?_)
    have hPc : va_P D vwCl (wdM cI cZ h v_all v_past v_states v_refused v_far v_row v_stepAt v_depth v_tries v_values v_wrong v_isEnd v_found v_reached v_stepIn v_laid v_firstRow v_text v_textLong v_spot v_taken v_counted) H := hP.sub [0, 1, 2, 3, 4, 5, 6, 7, 8, 9, 10, 11, 12, 13, 14, 15, 16] rfl
    have hDc : va_D A (wdM cI cZ h v_all v_past v_states v_refused v_far v_row v_stepAt v_depth v_tries v_values v_wrong v_isEnd v_found v_reached v_stepIn v_laid v_firstRow v_text v_textLong v_spot v_taken v_counted) := hD.sub [0, 1, 2, 3, 4, 5, 6, 7, 8, 9, 10, 11, 12, 13, 14, 15, 16] (by decide) rfl
    refine kd_iW (ws' := wdM cI cZ h v_all v_past v_states q7.2 v_far v_row v_stepAt v_depth v_tries v_values v_wrong v_isEnd v_found v_reached v_stepIn v_laid v_firstRow v_text v_textLong v_spot v_taken v_counted) (va_runV (As := [.int (-2 : Int32)]) (rest := []) ⟨hx, hb, hml, hown, hts⟩ (c9_refuses l D cB cI cZ cO h H.size (-2 : Int32) v_all v_past v_states v_refused v_far v_row v_stepAt v_depth v_tries v_values v_wrong v_isEnd v_found v_reached v_stepIn v_laid v_firstRow v_text v_textLong v_spot v_taken v_counted q7.1 q7.2 hq7) (cwV 1 hts gX9_type_X9_refuses rfl rfl rfl (by decide +kernel) ⟨Nat.le_of_ble_eq_true rfl, Nat.le_of_ble_eq_true rfl⟩) ⟨kb_blind, va_recv hK hPc (ci := 6) (q0 := 0) rfl rfl, kb_pre hPc hDc hK hN⟩ rfl rfl hl.1 rfl (lv_room (Nat.le_of_ble_eq_true rfl)) dX9_type_15 ⟨Nat.le_refl _, Nat.le_refl _⟩) hP hD hS hA [0, 1, 2, 3, 4, 5, 6, 7, 8, 9, 10, 11, 12, 13, 14, 15, 16] [] rfl rfl (fun _ h9 => absurd h9 List.not_mem_nil) rfl rfl (fun H locs hn8 hP hD hS => ?_)
    obtain ⟨z1, y1⟩ := Prod.mk.inj (Option.some.inj hf)
    obtain ⟨z2, y2⟩ := Prod.mk.inj y1
    obtain ⟨z3, y3⟩ := Prod.mk.inj y2
    subst z1 z2 z3 y3
    exact hend _ _ _ _ rfl hP hS dX9_type_18

set_option maxHeartbeats 4000000 in
set_option maxRecDepth 100000 in
theorem c9_clear (l : Launch) (D : va_G) (cB cI cZ cO : ClassId) (h : Nat → Nat) (sz : Nat) (v_all : Nat → Int32) (v_past : Nat → Int32) (v_states : Int32) (v_refused : Nat → Int32) (v_far : Nat → Int32) (v_row : Nat → Int32) (v_stepAt : Nat → Int32) (v_depth : Int32) (v_tries : Nat → Int32) (v_values : Nat → Int32) (v_wrong : Int32) (v_isEnd : Nat → Int32) (v_found : Nat → Int32) (v_reached : Nat → Int32) (v_stepIn : Nat → Int32) (v_laid : Nat → Int32) (v_firstRow : Nat → Int32) (v_text : Nat → Int32) (v_textLong : Int32) (v_spot : Int32) (v_taken : Int32) (v_counted : Nat → Int32) (r0 : Int32) (v_textLong' : Int32) (hf : f9_clear v_textLong = some (r0, v_textLong')) : Met l yX9_clear wsX9_clear rm9_clear (va_Pc [.ref (h 0)] (kb_B D (ka_tys cB cI cZ cO) sz (wdM cI cZ h v_all v_past v_states v_refused v_far v_row v_stepAt v_depth v_tries v_values v_wrong v_isEnd v_found v_reached v_stepIn v_laid v_firstRow v_text v_textLong v_spot v_taken v_counted))) (va_Qi (kb_post .int r0) (fun _ t => va_P D vwCl (wdM cI cZ h v_all v_past v_states v_refused v_far v_row v_stepAt v_depth v_tries v_values v_wrong v_isEnd v_found v_reached v_stepIn v_laid v_firstRow v_text (v_textLong') v_spot v_taken v_counted) t.heap) (va_A (wdM cI cZ h v_all v_past v_states v_refused v_far v_row v_stepAt v_depth v_tries v_values v_wrong v_isEnd v_found v_reached v_stepIn v_laid v_firstRow v_text v_textLong v_spot v_taken v_counted) sz)) 0 0 (va_A (wdM cI cZ h v_all v_past v_states v_refused v_far v_row v_stepAt v_depth v_tries v_values v_wrong v_isEnd v_found v_reached v_stepIn v_laid v_firstRow v_text v_textLong v_spot v_taken v_counted) sz) := by
  refine kb_metZ (cc := cX9_clear) (maxL := 2) (ty := .int) (by decide) rfl (Nat.le_of_ble_eq_true rfl) ?_
  intro p e s m args below meth c Q A ls H hx hb hml hown hts hK hN hP hD hS hA hl hend
  have hown : s.vm.findClass RX9 = some m.cls := hown
  have hl : lv_has ls 2 [(0, .ref (h 0))] := hl
  have hin9 : ∀ w ∈ u_ws RX9 TX9 22, w ∈ wsX9_clear := by decide +kernel
  rw [f9_clear] at hf
  refine lv_aload_n hx hb dX9_clear_0 rfl (lv_at hl 0 rfl) ?_
  refine va_get (D := D) (cl := vwCl) (ci := 6) (v := .int v_textLong) (C := RX9) (T := TX9) (N := 22) hx hb hts hin9 hown hK hP 0 rfl rfl 18 (by decide) (hts (.fieldLink RX9 193 "StepOrdersModel" "textLong" "I") (by decide +kernel)) (fun _ h9 => h9) rfl dX9_clear_1 ?_
  refine lv_istore_n (lv' := [(1, .int v_textLong), (0, .ref (h 0))]) hx hb dX9_clear_4 rfl hl (by decide) rfl (fun ls hl => ?_)
  refine lv_aload_n hx hb dX9_clear_5 rfl (lv_at hl 1 rfl) ?_
  refine lv_iconst (v := 0) hx hb dX9_clear_6 (by decide) ?_
  refine va_put (D := D) (cl := vwCl) (ci := 6) (v := .int (0 : Int32)) (ty := .int) (C := RX9) (T := TX9) (N := 22) hx hb hts hin9 tyX9 tyX9_ok nmX9 hown hK hP hD hS 0 rfl rfl 18 (by decide) (hts (.fieldLink RX9 193 "StepOrdersModel" "textLong" "I") (by decide +kernel)) (fun _ h9 => h9) rfl (tyX9_ok 18 (by decide)) rfl rfl (Nat.le_of_ble_eq_true rfl) dX9_clear_7 (fun H locs hP hD hS => ?_)
  have hP : va_P D vwCl (wdM cI cZ h v_all v_past v_states v_refused v_far v_row v_stepAt v_depth v_tries v_values v_wrong v_isEnd v_found v_reached v_stepIn v_laid v_firstRow v_text (0 : Int32) v_spot v_taken v_counted) H := hP
  have hD : va_D A (wdM cI cZ h v_all v_past v_states v_refused v_far v_row v_stepAt v_depth v_tries v_values v_wrong v_isEnd v_found v_reached v_stepIn v_laid v_firstRow v_text (0 : Int32) v_spot v_taken v_counted) := hD
  refine lv_iload_n hx hb dX9_clear_10 rfl (lv_at hl 0 rfl) ?_
  obtain ⟨z1, y1⟩ := Prod.mk.inj (Option.some.inj hf)
  subst z1 y1
  exact hend _ _ _ _ rfl hP hS dX9_clear_11

set_option maxHeartbeats 4000000 in
set_option maxRecDepth 100000 in
theorem c9_here (l : Launch) (D : va_G) (cB cI cZ cO : ClassId) (h : Nat → Nat) (sz : Nat) (v_all : Nat → Int32) (v_past : Nat → Int32) (v_states : Int32) (v_refused : Nat → Int32) (v_far : Nat → Int32) (v_row : Nat → Int32) (v_stepAt : Nat → Int32) (v_depth : Int32) (v_tries : Nat → Int32) (v_values : Nat → Int32) (v_wrong : Int32) (v_isEnd : Nat → Int32) (v_found : Nat → Int32) (v_reached : Nat → Int32) (v_stepIn : Nat → Int32) (v_laid : Nat → Int32) (v_firstRow : Nat → Int32) (v_text : Nat → Int32) (v_textLong : Int32) (v_spot : Int32) (v_taken : Int32) (v_counted : Nat → Int32) (r0 : Int32) (v_spot' : Int32) (hf : f9_here v_text v_textLong v_spot = some (r0, v_spot')) : Met l yX9_here wsX9_here rm9_here (va_Pc [.ref (h 0)] (kb_B D (ka_tys cB cI cZ cO) sz (wdM cI cZ h v_all v_past v_states v_refused v_far v_row v_stepAt v_depth v_tries v_values v_wrong v_isEnd v_found v_reached v_stepIn v_laid v_firstRow v_text v_textLong v_spot v_taken v_counted))) (va_Qi (kb_post .int r0) (fun _ t => va_P D vwCl (wdM cI cZ h v_all v_past v_states v_refused v_far v_row v_stepAt v_depth v_tries v_values v_wrong v_isEnd v_found v_reached v_stepIn v_laid v_firstRow v_text v_textLong (v_spot') v_taken v_counted) t.heap) (va_A (wdM cI cZ h v_all v_past v_states v_refused v_far v_row v_stepAt v_depth v_tries v_values v_wrong v_isEnd v_found v_reached v_stepIn v_laid v_firstRow v_text v_textLong v_spot v_taken v_counted) sz)) 0 0 (va_A (wdM cI cZ h v_all v_past v_states v_refused v_far v_row v_stepAt v_depth v_tries v_values v_wrong v_isEnd v_found v_reached v_stepIn v_laid v_firstRow v_text v_textLong v_spot v_taken v_counted) sz) := by
  refine kb_metZ (cc := cX9_here) (maxL := 1) (ty := .int) (by decide) rfl (Nat.le_of_ble_eq_true rfl) ?_
  intro p e s m args below meth c Q A ls H hx hb hml hown hts hK hN hP hD hS hA hl hend
  have hown : s.vm.findClass RX9 = some m.cls := hown
  have hl : lv_has ls 1 [(0, .ref (h 0))] := hl
  have hin9 : ∀ w ∈ u_ws RX9 TX9 22, w ∈ wsX9_here := by decide +kernel
  have J38 : ∀ (v_spot : Int32) (H : Heap) (locs : List Loc) (ls : Array Slot), f9_here_b38 v_text v_textLong v_spot = some (r0, v_spot') → va_P D vwCl (wdM cI cZ h v_all v_past v_states v_refused v_far v_row v_stepAt v_depth v_tries v_values v_wrong v_isEnd v_found v_reached v_stepIn v_laid v_firstRow v_text v_textLong v_spot v_taken v_counted) H → va_D A (wdM cI cZ h v_all v_past v_states v_refused v_far v_row v_stepAt v_depth v_tries v_values v_wrong v_isEnd v_found v_reached v_stepIn v_laid v_firstRow v_text v_textLong v_spot v_taken v_counted) → va_S A s.heap H locs → lv_has ls 1 [(0, .ref (h 0))] → W p l e rm9_here s m args below meth c H locs 0 0 Q (F0 m 38 ls []) := by
    intro v_spot H locs ls hf hP hD hS hl
    rw [f9_here_b38] at hf
    refine lv_aload_n hx hb dX9_here_38 rfl (lv_at hl 0 rfl) ?_
    refine va_get (D := D) (cl := vwCl) (ci := 6) (v := .int v_spot) (C := RX9) (T := TX9) (N := 22) hx hb hts hin9 hown hK hP 0 rfl rfl 19 (by decide) (hts (.fieldLink RX9 196 "StepOrdersModel" "spot" "I") (by decide +kernel)) (fun _ h9 => h9) rfl dX9_here_39 ?_
    refine lv_aload_n hx hb dX9_here_42 rfl (lv_at hl 0 rfl) ?_
    refine va_get (D := D) (cl := vwCl) (ci := 6) (v := .int v_textLong) (C := RX9) (T := TX9) (N := 22) hx hb hts hin9 hown hK hP 0 rfl rfl 18 (by decide) (hts (.fieldLink RX9 193 "StepOrdersModel" "textLong" "I") (by decide +kernel)) (fun _ h9 => h9) rfl dX9_here_43 ?_
    refine lv_icmp_ge (tgt := 61) hx hb dX9_here_46 (by decide) (fun c3 => ?_) (fun c3 => ?_)
    · rw [if_pos c3] at hf
      refine lv_iconst (v := (-1)) hx hb dX9_here_61 (by decide) ?_
      obtain ⟨z1, y1⟩ := Prod.mk.inj (Option.some.inj hf)
      subst z1 y1
      exact hend _ _ _ _ rfl hP hS dX9_here_62
    · rw [if_neg c3] at hf
      refine lv_aload_n hx hb dX9_here_49 rfl (lv_at hl 0 rfl) ?_
      refine va_get (D := D) (cl := vwCl) (ci := 6) (v := .ref (h 15)) (C := RX9) (T := TX9) (N := 22) hx hb hts hin9 hown hK hP 0 rfl rfl 17 (by decide) (hts (.fieldLink RX9 53 "StepOrdersModel" "text" "[I") (by decide +kernel)) (fun _ h9 => h9) rfl dX9_here_50 ?_
      refine lv_aload_n hx hb dX9_here_53 rfl (lv_at hl 0 rfl) ?_
      refine va_get (D := D) (cl := vwCl) (ci := 6) (v := .int v_spot) (C := RX9) (T := TX9) (N := 22) hx hb hts hin9 hown hK hP 0 rfl rfl 19 (by decide) (hts (.fieldLink RX9 196 "StepOrdersModel" "spot" "I") (by decide +kernel)) (fun _ h9 => h9) rfl dX9_here_54 ?_
      refine kb_bind hf (fun v4 hv4 hf => ?_)
      refine ka_iald (D := D) (cl := vwCl) hx hb hK hP 15 1 (f := v_text) rfl rfl (ard_in hv4) (ard_v hv4) dX9_here_57 ?_
      refine lv_goto (tgt := 62) hx hb dX9_here_58 (by decide) ?_
      obtain ⟨z1, y1⟩ := Prod.mk.inj (Option.some.inj hf)
      subst z1 y1
      exact hend _ _ _ _ rfl hP hS dX9_here_62
  have J0 : ∀ (n : Nat) (v_spot : Int32) (H : Heap) (locs : List Loc) (ls : Array Slot), f9_here_l0 n v_text v_textLong v_spot = some (r0, v_spot') → va_P D vwCl (wdM cI cZ h v_all v_past v_states v_refused v_far v_row v_stepAt v_depth v_tries v_values v_wrong v_isEnd v_found v_reached v_stepIn v_laid v_firstRow v_text v_textLong v_spot v_taken v_counted) H → va_D A (wdM cI cZ h v_all v_past v_states v_refused v_far v_row v_stepAt v_depth v_tries v_values v_wrong v_isEnd v_found v_reached v_stepIn v_laid v_firstRow v_text v_textLong v_spot v_taken v_counted) → va_S A s.heap H locs → lv_has ls 1 [(0, .ref (h 0))] → W p l e rm9_here s m args below meth c H locs 0 0 Q (F0 m 0 ls []) := by
    intro n
    induction n with
    | zero =>
      intro v_spot H locs ls hf
      cases (show (none : Option (Int32 × Int32)) = some (r0, v_spot') from hf)
    | succ n ih =>
      intro v_spot H locs ls hf hP hD hS hl
      rw [f9_here_l0_s] at hf
      refine lv_aload_n hx hb dX9_here_0 rfl (lv_at hl 0 rfl) ?_
      refine va_get (D := D) (cl := vwCl) (ci := 6) (v := .int v_spot) (C := RX9) (T := TX9) (N := 22) hx hb hts hin9 hown hK hP 0 rfl rfl 19 (by decide) (hts (.fieldLink RX9 196 "StepOrdersModel" "spot" "I") (by decide +kernel)) (fun _ h9 => h9) rfl dX9_here_1 ?_
      refine lv_aload_n hx hb dX9_here_4 rfl (lv_at hl 0 rfl) ?_
      refine va_get (D := D) (cl := vwCl) (ci := 6) (v := .int v_textLong) (C := RX9) (T := TX9) (N := 22) hx hb hts hin9 hown hK hP 0 rfl rfl 18 (by decide) (hts (.fieldLink RX9 193 "StepOrdersModel" "textLong" "I") (by decide +kernel)) (fun _ h9 => h9) rfl dX9_here_5 ?_
      refine lv_icmp_ge (tgt := 38) hx hb dX9_here_8 (by decide) (fun c8 => ?_) (fun c8 => ?_)
      · rw [if_pos c8] at hf
        exact J38 v_spot _ _ _ hf hP hD hS (lv_sub hl [0] rfl)
      · rw [if_neg c8] at hf
        refine lv_aload_n hx hb dX9_here_11 rfl (lv_at hl 0 rfl) ?_
        refine va_get (D := D) (cl := vwCl) (ci := 6) (v := .ref (h 15)) (C := RX9) (T := TX9) (N := 22) hx hb hts hin9 hown hK hP 0 rfl rfl 17 (by decide) (hts (.fieldLink RX9 53 "StepOrdersModel" "text" "[I") (by decide +kernel)) (fun _ h9 => h9) rfl dX9_here_12 ?_
        refine lv_aload_n hx hb dX9_here_15 rfl (lv_at hl 0 rfl) ?_
        refine va_get (D := D) (cl := vwCl) (ci := 6) (v := .int v_spot) (C := RX9) (T := TX9) (N := 22) hx hb hts hin9 hown hK hP 0 rfl rfl 19 (by decide) (hts (.fieldLink RX9 196 "StepOrdersModel" "spot" "I") (by decide +kernel)) (fun _ h9 => h9) rfl dX9_here_16 ?_
        refine kb_bind hf (fun v9 hv9 hf => ?_)
        refine ka_iald (D := D) (cl := vwCl) hx hb hK hP 15 1 (f := v_text) rfl rfl (ard_in hv9) (ard_v hv9) dX9_here_19 ?_
        refine lv_bipush (v := 32) hx hb dX9_here_20 (by decide) ?_
        refine lv_icmp_ne (tgt := 38) hx hb dX9_here_22 (by decide) (fun c10 => ?_) (fun c10 => ?_)
        · rw [if_neg c10] at hf
          exact J38 v_spot _ _ _ hf hP hD hS (lv_sub hl [0] rfl)
        · rw [if_pos c10] at hf
          refine lv_aload_n hx hb dX9_here_25 rfl (lv_at hl 0 rfl) ?_
          refine lv_dup hx hb dX9_here_26 rfl ?_
          refine va_get (D := D) (cl := vwCl) (ci := 6) (v := .int v_spot) (C := RX9) (T := TX9) (N := 22) hx hb hts hin9 hown hK hP 0 rfl rfl 19 (by decide) (hts (.fieldLink RX9 196 "StepOrdersModel" "spot" "I") (by decide +kernel)) (fun _ h9 => h9) rfl dX9_here_27 ?_
          refine lv_iconst (v := 1) hx hb dX9_here_30 (by decide) ?_
          refine lv_iadd hx hb dX9_here_31 ?_
          refine va_put (D := D) (cl := vwCl) (ci := 6) (v := .int (v_spot + (1 : Int32))) (ty := .int) (C := RX9) (T := TX9) (N := 22) hx hb hts hin9 tyX9 tyX9_ok nmX9 hown hK hP hD hS 0 rfl rfl 19 (by decide) (hts (.fieldLink RX9 196 "StepOrdersModel" "spot" "I") (by decide +kernel)) (fun _ h9 => h9) rfl (tyX9_ok 19 (by decide)) rfl rfl (Nat.le_of_ble_eq_true rfl) dX9_here_32 (fun H locs hP hD hS => ?_)
          have hP : va_P D vwCl (wdM cI cZ h v_all v_past v_states v_refused v_far v_row v_stepAt v_depth v_tries v_values v_wrong v_isEnd v_found v_reached v_stepIn v_laid v_firstRow v_text v_textLong (v_spot + (1 : Int32)) v_taken v_counted) H := hP
          have hD : va_D A (wdM cI cZ h v_all v_past v_states v_refused v_far v_row v_stepAt v_depth v_tries v_values v_wrong v_isEnd v_found v_reached v_stepIn v_laid v_firstRow v_text v_textLong (v_spot + (1 : Int32)) v_taken v_counted) := hD
          refine lv_goto (tgt := 0) hx hb dX9_here_35 (by decide) ?_
          exact ih (v_spot + (1 : Int32)) _ _ _ hf hP hD hS (lv_sub hl [0] rfl)
  rw [f9_here] at hf
  exact J0 kFUEL v_spot _ _ _ hf hP hD hS (lv_sub hl [0] rfl)

set_option maxHeartbeats 4000000 in
set_option maxRecDepth 100000 in
theorem c9_takes (l : Launch) (D : va_G) (cB cI cZ cO : ClassId) (h : Nat → Nat) (sz : Nat) (x1 : Int32) (x2 : Int32) (v_all : Nat → Int32) (v_past : Nat → Int32) (v_states : Int32) (v_refused : Nat → Int32) (v_far : Nat → Int32) (v_row : Nat → Int32) (v_stepAt : Nat → Int32) (v_depth : Int32) (v_tries : Nat → Int32) (v_values : Nat → Int32) (v_wrong : Int32) (v_isEnd : Nat → Int32) (v_found : Nat → Int32) (v_reached : Nat → Int32) (v_stepIn : Nat → Int32) (v_laid : Nat → Int32) (v_firstRow : Nat → Int32) (v_text : Nat → Int32) (v_textLong : Int32) (v_spot : Int32) (v_taken : Int32) (v_counted : Nat → Int32) (r0 : Int32) (v_spot' : Int32) (v_taken' : Int32) (hf : f9_takes v_text v_textLong v_spot v_taken x1 x2 = some (r0, v_spot', v_taken')) : Met l yX9_takes wsX9_takes rm9_takes (va_Pc [.ref (h 0), .int x1, .int x2] (kb_B D (ka_tys cB cI cZ cO) sz (wdM cI cZ h v_all v_past v_states v_refused v_far v_row v_stepAt v_depth v_tries v_values v_wrong v_isEnd v_found v_reached v_stepIn v_laid v_firstRow v_text v_textLong v_spot v_taken v_counted))) (va_Qi (kb_post .boolean r0) (fun _ t => va_P D vwCl (wdM cI cZ h v_all v_past v_states v_refused v_far v_row v_stepAt v_depth v_tries v_values v_wrong v_isEnd v_found v_reached v_stepIn v_laid v_firstRow v_text v_textLong (v_spot') (v_taken') v_counted) t.heap) (va_A (wdM cI cZ h v_all v_past v_states v_refused v_far v_row v_stepAt v_depth v_tries v_values v_wrong v_isEnd v_found v_reached v_stepIn v_laid v_firstRow v_text v_textLong v_spot v_taken v_counted) sz)) 0 0 (va_A (wdM cI cZ h v_all v_past v_states v_refused v_far v_row v_stepAt v_depth v_tries v_values v_wrong v_isEnd v_found v_reached v_stepIn v_laid v_firstRow v_text v_textLong v_spot v_taken v_counted) sz) := by
  refine kb_metZ (cc := cX9_takes) (maxL := 4) (ty := .boolean) (by decide) rfl (Nat.le_of_ble_eq_true rfl) ?_
  intro p e s m args below meth c Q A ls H hx hb hml hown hts hK hN hP hD hS hA hl hend
  have hown : s.vm.findClass RX9 = some m.cls := hown
  have hl : lv_has ls 4 [(0, .ref (h 0)), (1, .int x1), (2, .int x2)] := hl
  have hin9 : ∀ w ∈ u_ws RX9 TX9 22, w ∈ wsX9_takes := by decide +kernel
  rw [f9_takes] at hf
  refine lv_aload_n hx hb dX9_takes_0 rfl (lv_at hl 0 rfl) ?_
  refine kb_bind hf (fun q1 hq1 hf => ?_)
  have hPc : va_P D vwCl (wdM cI cZ h v_all v_past v_states v_refused v_far v_row v_stepAt v_depth v_tries v_values v_wrong v_isEnd v_found v_reached v_stepIn v_laid v_firstRow v_text v_textLong v_spot v_taken v_counted) H := hP.sub [0, 1, 2, 3, 4, 5, 6, 7, 8, 9, 10, 11, 12, 13, 14, 15, 16] rfl
  have hDc : va_D A (wdM cI cZ h v_all v_past v_states v_refused v_far v_row v_stepAt v_depth v_tries v_values v_wrong v_isEnd v_found v_reached v_stepIn v_laid v_firstRow v_text v_textLong v_spot v_taken v_counted) := hD.sub [0, 1, 2, 3, 4, 5, 6, 7, 8, 9, 10, 11, 12, 13, 14, 15, 16] (by decide) rfl
  refine kd_iW (ws' := wdM cI cZ h v_all v_past v_states v_refused v_far v_row v_stepAt v_depth v_tries v_values v_wrong v_isEnd v_found v_reached v_stepIn v_laid v_firstRow v_text v_textLong q1.2 v_taken v_counted) (va_runV (As := []) (rest := []) ⟨hx, hb, hml, hown, hts⟩ (c9_here l D cB cI cZ cO h H.size v_all v_past v_states v_refused v_far v_row v_stepAt v_depth v_tries v_values v_wrong v_isEnd v_found v_reached v_stepIn v_laid v_firstRow v_text v_textLong v_spot v_taken v_counted q1.1 q1.2 hq1) (cwV 0 hts gX9_takes_X9_here rfl rfl rfl (by decide +kernel) ⟨Nat.le_of_ble_eq_true rfl, Nat.le_of_ble_eq_true rfl⟩) ⟨kb_blind, va_recv hK hPc (ci := 6) (q0 := 0) rfl rfl, kb_pre hPc hDc hK hN⟩ rfl rfl hl.1 rfl (lv_room (Nat.le_of_ble_eq_true rfl)) dX9_takes_1 ⟨Nat.le_refl _, Nat.le_refl _⟩) hP hD hS hA [0, 1, 2, 3, 4, 5, 6, 7, 8, 9, 10, 11, 12, 13, 14, 15, 16] [] rfl rfl (fun _ h9 => absurd h9 List.not_mem_nil) rfl rfl (fun H locs hn2 hP hD hS => ?_)
  refine lv_istore_n (lv' := [(3, .int q1.1), (0, .ref (h 0)), (1, .int x1), (2, .int x2)]) hx hb dX9_takes_4 rfl hl (by decide) rfl (fun ls hl => ?_)
  refine lv_iload_n hx hb dX9_takes_5 rfl (lv_at hl 0 rfl) ?_
  refine lv_i2l (v := q1.1.toInt64) hx hb dX9_takes_6 rfl ?_
  refine lv_iload_n hx hb dX9_takes_7 rfl (lv_at hl 2 rfl) ?_
  refine lv_i2l (v := x1.toInt64) hx hb dX9_takes_8 rfl ?_
  refine lv_iload_n hx hb dX9_takes_9 rfl (lv_at hl 3 rfl) ?_
  refine lv_i2l (v := x2.toInt64) hx hb dX9_takes_10 rfl ?_
  have hPc : va_P D vwCl ([]) H := hP.sub [] rfl
  have hDc : va_D A ([]) := hD.sub [] (by decide) rfl
  refine kd_iR (va_runS (As := [.long q1.1.toInt64, .long x1.toInt64, .long x2.toInt64]) (rest := []) ⟨hx, hb, hml, hown, hts⟩ (c9_in l D cB cI cZ cO h H.size q1.1.toInt64 x1.toInt64 x2.toInt64 (f9_in q1.1.toInt64 x1.toInt64 x2.toInt64) rfl) (va_cwS 3 hts gX9_takes_X9_in rfl rfl rfl (by decide +kernel) ⟨Nat.le_of_ble_eq_true rfl, Nat.le_of_ble_eq_true rfl⟩) ⟨kb_blind, kb_pre hPc hDc hK hN⟩ rfl rfl hl.1 rfl (lv_room (Nat.le_of_ble_eq_true rfl)) dX9_takes_11 ⟨Nat.le_refl _, Nat.le_refl _⟩) hP hD hS hA [] rfl (fun H locs hn3 hP hS => ?_)
  refine lv_if_ne (tgt := 19) hx hb dX9_takes_14 (by decide) (fun c4 => ?_) (fun c4 => ?_)
  · rw [if_neg c4] at hf
    refine lv_aload_n hx hb dX9_takes_19 rfl (lv_at hl 1 rfl) ?_
    refine lv_iload_n hx hb dX9_takes_20 rfl (lv_at hl 0 rfl) ?_
    refine lv_iload_n hx hb dX9_takes_21 rfl (lv_at hl 2 rfl) ?_
    refine lv_isub hx hb dX9_takes_22 ?_
    refine va_put (D := D) (cl := vwCl) (ci := 6) (v := .int (q1.1 - x1)) (ty := .int) (C := RX9) (T := TX9) (N := 22) hx hb hts hin9 tyX9 tyX9_ok nmX9 hown hK hP hD hS 0 rfl rfl 20 (by decide) (hts (.fieldLink RX9 202 "StepOrdersModel" "taken" "I") (by decide +kernel)) (fun _ h9 => h9) rfl (tyX9_ok 20 (by decide)) rfl rfl (Nat.le_of_ble_eq_true rfl) dX9_takes_23 (fun H locs hP hD hS => ?_)
    have hP : va_P D vwCl (wdM cI cZ h v_all v_past v_states v_refused v_far v_row v_stepAt v_depth v_tries v_values v_wrong v_isEnd v_found v_reached v_stepIn v_laid v_firstRow v_text v_textLong q1.2 (q1.1 - x1) v_counted) H := hP
    have hD : va_D A (wdM cI cZ h v_all v_past v_states v_refused v_far v_row v_stepAt v_depth v_tries v_values v_wrong v_isEnd v_found v_reached v_stepIn v_laid v_firstRow v_text v_textLong q1.2 (q1.1 - x1) v_counted) := hD
    refine lv_aload_n hx hb dX9_takes_26 rfl (lv_at hl 1 rfl) ?_
    refine lv_dup hx hb dX9_takes_27 rfl ?_
    refine va_get (D := D) (cl := vwCl) (ci := 6) (v := .int q1.2) (C := RX9) (T := TX9) (N := 22) hx hb hts hin9 hown hK hP 0 rfl rfl 19 (by decide) (hts (.fieldLink RX9 196 "StepOrdersModel" "spot" "I") (by decide +kernel)) (fun _ h9 => h9) rfl dX9_takes_28 ?_
    refine lv_iconst (v := 1) hx hb dX9_takes_31 (by decide) ?_
    refine lv_iadd hx hb dX9_takes_32 ?_
    refine va_put (D := D) (cl := vwCl) (ci := 6) (v := .int (q1.2 + (1 : Int32))) (ty := .int) (C := RX9) (T := TX9) (N := 22) hx hb hts hin9 tyX9 tyX9_ok nmX9 hown hK hP hD hS 0 rfl rfl 19 (by decide) (hts (.fieldLink RX9 196 "StepOrdersModel" "spot" "I") (by decide +kernel)) (fun _ h9 => h9) rfl (tyX9_ok 19 (by decide)) rfl rfl (Nat.le_of_ble_eq_true rfl) dX9_takes_33 (fun H locs hP hD hS => ?_)
    have hP : va_P D vwCl (wdM cI cZ h v_all v_past v_states v_refused v_far v_row v_stepAt v_depth v_tries v_values v_wrong v_isEnd v_found v_reached v_stepIn v_laid v_firstRow v_text v_textLong (q1.2 + (1 : Int32)) (q1.1 - x1) v_counted) H := hP
    have hD : va_D A (wdM cI cZ h v_all v_past v_states v_refused v_far v_row v_stepAt v_depth v_tries v_values v_wrong v_isEnd v_found v_reached v_stepIn v_laid v_firstRow v_text v_textLong (q1.2 + (1 : Int32)) (q1.1 - x1) v_counted) := hD
    refine lv_iconst (v := 1) hx hb dX9_takes_36 (by decide) ?_
    obtain ⟨z1, y1⟩ := Prod.mk.inj (Option.some.inj hf)
    obtain ⟨z2, y2⟩ := Prod.mk.inj y1
    subst z1 z2 y2
    exact hend _ _ _ _ rfl hP hS dX9_takes_37
  · rw [if_pos c4] at hf
    refine lv_iconst (v := 0) hx hb dX9_takes_17 (by decide) ?_
    obtain ⟨z1, y1⟩ := Prod.mk.inj (Option.some.inj hf)
    obtain ⟨z2, y2⟩ := Prod.mk.inj y1
    subst z1 z2 y2
    exact hend _ _ _ _ rfl hP hS dX9_takes_18
