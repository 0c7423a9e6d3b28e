set_option maxHeartbeats 4000000 in
set_option maxRecDepth 100000 in
theorem c9_in (l : Launch) (D : va_G) (cB cI cZ cO : ClassId) (h : Nat → Nat) (sz : Nat) (x0 : Int64) (x2 : Int64) (x4 : Int64) (r0 : Int32) (hf : f9_in x0 x2 x4 = r0) : Met l yX9_in wsX9_in rm9_in (va_Pc [.long x0, .long x2, .long x4] (kb_B D (ka_tys cB cI cZ cO) sz ([]))) (va_Qi (kb_post .boolean r0) (fun _ t => va_P D vwCl ([]) t.heap) (va_A ([]) sz)) 0 0 (va_A ([]) sz) := by
  refine kb_metZ (cc := cX9_in) (maxL := 6) (ty := .boolean) (by decide) rfl (Nat.le_of_ble_eq_true rfl) ?_
  intro p e s m args below meth c Q A ls H hx hb hml hown hts hK hN hP hD hS hA hl hend
  have hown : s.vm.findClass RX9 = some m.cls := hown
  have hl : lv_has ls 6 [(0, .long x0), (2, .long x2), (4, .long x4)] := hl
  rw [f9_in] at hf
  refine lv_lload_n hx hb dX9_in_0 rfl (lv_at hl 0 rfl) ?_
  refine lv_lload_n hx hb dX9_in_1 rfl (lv_at hl 1 rfl) ?_
  refine W.lcmp hx hb dX9_in_2 ?_
  refine lv_if_lt (tgt := 17) hx hb dX9_in_3 (by decide) (fun c1 => ?_) (fun c1 => ?_)
  · rw [if_pos c1] at hf
    refine lv_iconst (v := 0) hx hb dX9_in_17 (by decide) ?_
    cases hf
    exact hend _ _ _ _ rfl hP hS dX9_in_18
  · rw [if_neg c1] at hf
    refine lv_lload_n hx hb dX9_in_6 rfl (lv_at hl 0 rfl) ?_
    refine lv_lload hx hb dX9_in_7 (lv_at hl 2 rfl) ?_
    refine W.lcmp hx hb dX9_in_9 ?_
    refine lv_if_gt (tgt := 17) hx hb dX9_in_10 (by decide) (fun c2 => ?_) (fun c2 => ?_)
    · rw [if_pos c2] at hf
      refine lv_iconst (v := 0) hx hb dX9_in_17 (by decide) ?_
      cases hf
      exact hend _ _ _ _ rfl hP hS dX9_in_18
    · rw [if_neg c2] at hf
      refine lv_iconst (v := 1) hx hb dX9_in_13 (by decide) ?_
      refine lv_goto (tgt := 18) hx hb dX9_in_14 (by decide) ?_
      cases hf
      exact hend _ _ _ _ rfl hP hS dX9_in_18

set_option maxHeartbeats 4000000 in
set_option maxRecDepth 100000 in
theorem c9_refuses (l : Launch) (D : va_G) (cB cI cZ cO : ClassId) (h : Nat → Nat) (sz : Nat) (x1 : Int32) (v_all : Nat → Int32) (v_past : Nat → Int32) (v_states : Int32) (v_refused : Nat → Int32) (v_far : Nat → Int32) (v_row : Nat → Int32) (v_stepAt : Nat → Int32) (v_depth : Int32) (v_tries : Nat → Int32) (v_values : Nat → Int32) (v_wrong : Int32) (v_isEnd : Nat → Int32) (v_found : Nat → Int32) (v_reached : Nat → Int32) (v_stepIn : Nat → Int32) (v_laid : Nat → Int32) (v_firstRow : Nat → Int32) (v_text : Nat → Int32) (v_textLong : Int32) (v_spot : Int32) (v_taken : Int32) (v_counted : Nat → Int32) (r0 : Int32) (v_refused' : Nat → Int32) (hf : f9_refuses v_refused x1 = some (r0, v_refused')) : Met l yX9_refuses wsX9_refuses rm9_refuses (va_Pc [.ref (h 0), .int x1] (kb_B D (ka_tys cB cI cZ cO) sz (wdM cI cZ h v_all v_past v_states v_refused v_far v_row v_stepAt v_depth v_tries v_values v_wrong v_isEnd v_found v_reached v_stepIn v_laid v_firstRow v_text v_textLong v_spot v_taken v_counted))) (va_Qi (kb_post .int r0) (fun _ t => va_P D vwCl (wdM cI cZ h v_all v_past v_states (v_refused') v_far v_row v_stepAt v_depth v_tries v_values v_wrong v_isEnd v_found v_reached v_stepIn v_laid v_firstRow v_text v_textLong v_spot v_taken v_counted) t.heap) (va_A (wdM cI cZ h v_all v_past v_states v_refused v_far v_row v_stepAt v_depth v_tries v_values v_wrong v_isEnd v_found v_reached v_stepIn v_laid v_firstRow v_text v_textLong v_spot v_taken v_counted) sz)) 0 0 (va_A (wdM cI cZ h v_all v_past v_states v_refused v_far v_row v_stepAt v_depth v_tries v_values v_wrong v_isEnd v_found v_reached v_stepIn v_laid v_firstRow v_text v_textLong v_spot v_taken v_counted) sz) := by
  refine kb_metZ (cc := cX9_refuses) (maxL := 2) (ty := .int) (by decide) rfl (Nat.le_of_ble_eq_true rfl) ?_
  intro p e s m args below meth c Q A ls H hx hb hml hown hts hK hN hP hD hS hA hl hend
  have hown : s.vm.findClass RX9 = some m.cls := hown
  have hl : lv_has ls 2 [(0, .ref (h 0)), (1, .int x1)] := hl
  have hin9 : ∀ w ∈ u_ws RX9 TX9 22, w ∈ wsX9_refuses := by decide +kernel
  rw [f9_refuses] at hf
  refine lv_aload_n hx hb dX9_refuses_0 rfl (lv_at hl 0 rfl) ?_
  refine va_get (D := D) (cl := vwCl) (ci := 6) (v := .ref (h 3)) (C := RX9) (T := TX9) (N := 22) hx hb hts hin9 hown hK hP 0 rfl rfl 3 (by decide) (hts (.fieldLink RX9 16 "StepOrdersModel" "refused" "[I") (by decide +kernel)) (fun _ h9 => h9) rfl dX9_refuses_1 ?_
  refine lv_bipush (v := (-2)) hx hb dX9_refuses_4 (by decide) ?_
  refine lv_iload_n hx hb dX9_refuses_6 rfl (lv_at hl 1 rfl) ?_
  refine lv_isub hx hb dX9_refuses_7 ?_
  refine lv_dup2_11 hx hb dX9_refuses_8 rfl rfl ?_
  refine kb_bind hf (fun v1 hv1 hf => ?_)
  refine ka_iald (D := D) (cl := vwCl) hx hb hK hP 3 1 (f := v_refused) rfl rfl (ard_in hv1) (ard_v hv1) dX9_refuses_9 ?_
  refine lv_iconst (v := 1) hx hb dX9_refuses_10 (by decide) ?_
  refine lv_iadd hx hb dX9_refuses_11 ?_
  refine kb_bind hf (fun v2 hv2 hf => ?_)
  refine ka_iast (D := D) (cl := vwCl) hx hb hK hP hD hS 3 1 (f := v_refused) (g := v2) rfl rfl (awr_in hv2) (awr_v hv2) dX9_refuses_12 (fun H locs hP hD hS => ?_)
  have hP : va_P D vwCl (wdM cI cZ h v_all v_past v_states v2 v_far v_row v_stepAt v_depth v_tries v_values v_wrong v_isEnd v_found v_reached v_stepIn v_laid v_firstRow v_text v_textLong v_spot v_taken v_counted) H := hP
  have hD : va_D A (wdM cI cZ h v_all v_past v_states v2 v_far v_row v_stepAt v_depth v_tries v_values v_wrong v_isEnd v_found v_reached v_stepIn v_laid v_firstRow v_text v_textLong v_spot v_taken v_counted) := hD
  refine lv_iload_n hx hb dX9_refuses_13 rfl (lv_at hl 1 rfl) ?_
  cases hf
  exact hend _ _ _ _ rfl hP hS dX9_refuses_14

set_option maxHeartbeats 4000000 in
set_option maxRecDepth 100000 in
theorem c9_keep (l : Launch) (D : va_G) (cB cI cZ cO : ClassId) (h : Nat → Nat) (sz : Nat) (v_all : Nat → Int32) (v_past : Nat → Int32) (v_states : Int32) (v_refused : Nat → Int32) (v_far : Nat → Int32) (v_row : Nat → Int32) (v_stepAt : Nat → Int32) (v_depth : Int32) (v_tries : Nat → Int32) (v_values : Nat → Int32) (v_wrong : Int32) (v_isEnd : Nat → Int32) (v_found : Nat → Int32) (v_reached : Nat → Int32) (v_stepIn : Nat → Int32) (v_laid : Nat → Int32) (v_firstRow : Nat → Int32) (v_text : Nat → Int32) (v_textLong : Int32) (v_spot : Int32) (v_taken : Int32) (v_counted : Nat → Int32) (v_past' : Nat → Int32) (v_states' : Int32) (hf : f9_keep v_all v_past v_states = some (v_past', v_states')) : Met l yX9_keep wsX9_keep rm9_keep (va_Pc [.ref (h 0)] (kb_B D (ka_tys cB cI cZ cO) sz (wdM cI cZ h v_all v_past v_states v_refused v_far v_row v_stepAt v_depth v_tries v_values v_wrong v_isEnd v_found v_reached v_stepIn v_laid v_firstRow v_text v_textLong v_spot v_taken v_counted))) (va_Qv (fun (_ : Unit) => True) (fun _ t => va_P D vwCl (wdM cI cZ h v_all (v_past') (v_states') v_refused v_far v_row v_stepAt v_depth v_tries v_values v_wrong v_isEnd v_found v_reached v_stepIn v_laid v_firstRow v_text v_textLong v_spot v_taken v_counted) t.heap) (va_A (wdM cI cZ h v_all v_past v_states v_refused v_far v_row v_stepAt v_depth v_tries v_values v_wrong v_isEnd v_found v_reached v_stepIn v_laid v_firstRow v_text v_textLong v_spot v_taken v_counted) sz)) 0 0 (va_A (wdM cI cZ h v_all v_past v_states v_refused v_far v_row v_stepAt v_depth v_tries v_values v_wrong v_isEnd v_found v_reached v_stepIn v_laid v_firstRow v_text v_textLong v_spot v_taken v_counted) sz) := by
  refine kb_metV (cc := cX9_keep) (maxL := 2) (by decide) rfl (Nat.le_of_ble_eq_true rfl) ?_
  intro p e s m args below meth c Q A ls H hx hb hml hown hts hK hN hP hD hS hA hl hend
  have hown : s.vm.findClass RX9 = some m.cls := hown
  have hl : lv_has ls 2 [(0, .ref (h 0))] := hl
  have hin9 : ∀ w ∈ u_ws RX9 TX9 22, w ∈ wsX9_keep := by decide +kernel
  have J82 : ∀ (v_past : Nat → Int32) (v_states : Int32) (H : Heap) (locs : List Loc) (ls : Array Slot), f9_keep_b82 v_all v_past v_states = some (v_past', v_states') → va_P D vwCl (wdM cI cZ h v_all v_past v_states v_refused v_far v_row v_stepAt v_depth v_tries v_values v_wrong v_isEnd v_found v_reached v_stepIn v_laid v_firstRow v_text v_textLong v_spot v_taken v_counted) H → va_D A (wdM cI cZ h v_all v_past v_states v_refused v_far v_row v_stepAt v_depth v_tries v_values v_wrong v_isEnd v_found v_reached v_stepIn v_laid v_firstRow v_text v_textLong v_spot v_taken v_counted) → va_S A s.heap H locs → lv_has ls 2 [(0, .ref (h 0))] → W p l e rm9_keep s m args below meth c H locs 0 0 Q (F0 m 82 ls []) := by
    intro v_past v_states H locs ls hf hP hD hS hl
    rw [f9_keep_b82] at hf
    refine lv_aload_n hx hb dX9_keep_82 rfl (lv_at hl 0 rfl) ?_
    refine lv_dup hx hb dX9_keep_83 rfl ?_
    refine va_get (D := D) (cl := vwCl) (ci := 6) (v := .int v_states) (C := RX9) (T := TX9) (N := 22) hx hb hts hin9 hown hK hP 0 rfl rfl 2 (by decide) (hts (.fieldLink RX9 59 "StepOrdersModel" "states" "I") (by decide +kernel)) (fun _ h9 => h9) rfl dX9_keep_84 ?_
    refine lv_iconst (v := 1) hx hb dX9_keep_87 (by decide) ?_
    refine lv_iadd hx hb dX9_keep_88 ?_
    refine va_put (D := D) (cl := vwCl) (ci := 6) (v := .int (v_states + (1 : Int32))) (ty := .int) (C := RX9) (T := TX9) (N := 22) hx hb hts hin9 tyX9 tyX9_ok nmX9 hown hK hP hD hS 0 rfl rfl 2 (by decide) (hts (.fieldLink RX9 59 "StepOrdersModel" "states" "I") (by decide +kernel)) (fun _ h9 => h9) rfl (tyX9_ok 2 (by decide)) rfl rfl (Nat.le_of_ble_eq_true rfl) dX9_keep_89 (fun H locs hP hD hS => ?_)
    have hP : va_P D vwCl (wdM cI cZ h v_all v_past (v_states + (1 : Int32)) v_refused v_far v_row v_stepAt v_depth v_tries v_values v_wrong v_isEnd v_found v_reached v_stepIn v_laid v_firstRow v_text v_textLong v_spot v_taken v_counted) H := hP
    have hD : va_D A (wdM cI cZ h v_all v_past (v_states + (1 : Int32)) v_refused v_far v_row v_stepAt v_depth v_tries v_values v_wrong v_isEnd v_found v_reached v_stepIn v_laid v_firstRow v_text v_textLong v_spot v_taken v_counted) := hD
    cases hf
    exact hend _ _ _ _ hP hS dX9_keep_92
  have J50 : ∀ (n : Nat) (v_past : Nat → Int32) (v_states : Int32) (x1 : Int32) (H : Heap) (locs : List Loc) (ls : Array Slot), f9_keep_l50 n v_all v_past v_states x1 = some (v_past', v_states') → va_P D vwCl (wdM cI cZ h v_all v_past v_states v_refused v_far v_row v_stepAt v_depth v_tries v_values v_wrong v_isEnd v_found v_reached v_stepIn v_laid v_firstRow v_text v_textLong v_spot v_taken v_counted) H → va_D A (wdM cI cZ h v_all v_past v_states v_refused v_far v_row v_stepAt v_depth v_tries v_values v_wrong v_isEnd v_found v_reached v_stepIn v_laid v_firstRow v_text v_textLong v_spot v_taken v_counted) → va_S A s.heap H locs → lv_has ls 2 [(0, .ref (h 0)), (1, .int x1)] → W p l e rm9_keep s m args below meth c H locs 0 0 Q (F0 m 50 ls []) := by
    intro n
    induction n with
    | zero =>
      intro v_past v_states x1 H locs ls hf
      cases (show (none : Option ((Nat → Int32) × Int32)) = some (v_past', v_states') from hf)
    | succ n ih =>
      intro v_past v_states x1 H locs ls hf hP hD hS hl
      rw [f9_keep_l50_s] at hf
      refine lv_iload_n hx hb dX9_keep_50 rfl (lv_at hl 1 rfl) ?_
      refine lv_bipush (v := 56) hx hb dX9_keep_51 (by decide) ?_
      refine lv_icmp_ge (tgt := 82) hx hb dX9_keep_53 (by decide) (fun c4 => ?_) (fun c4 => ?_)
      · rw [if_pos c4] at hf
        exact J82 v_past v_states _ _ _ hf hP hD hS (lv_sub hl [0] rfl)
      · rw [if_neg c4] at hf
        refine lv_aload_n hx hb dX9_keep_56 rfl (lv_at hl 0 rfl) ?_
        refine va_get (D := D) (cl := vwCl) (ci := 6) (v := .ref (h 2)) (C := RX9) (T := TX9) (N := 22) hx hb hts hin9 hown hK hP 0 rfl rfl 1 (by decide) (hts (.fieldLink RX9 13 "StepOrdersModel" "past" "[I") (by decide +kernel)) (fun _ h9 => h9) rfl dX9_keep_57 ?_
        refine lv_bipush (v := 56) hx hb dX9_keep_60 (by decide) ?_
        refine lv_aload_n hx hb dX9_keep_62 rfl (lv_at hl 0 rfl) ?_
        refine va_get (D := D) (cl := vwCl) (ci := 6) (v := .int v_states) (C := RX9) (T := TX9) (N := 22) hx hb hts hin9 hown hK hP 0 rfl rfl 2 (by decide) (hts (.fieldLink RX9 59 "StepOrdersModel" "states" "I") (by decide +kernel)) (fun _ h9 => h9) rfl dX9_keep_63 ?_
        refine lv_imul hx hb dX9_keep_66 ?_
        refine lv_iload_n hx hb dX9_keep_67 rfl (lv_at hl 1 rfl) ?_
        refine lv_iadd hx hb dX9_keep_68 ?_
        refine lv_aload_n hx hb dX9_keep_69 rfl (lv_at hl 0 rfl) ?_
        refine va_get (D := D) (cl := vwCl) (ci := 6) (v := .ref (h 1)) (C := RX9) (T := TX9) (N := 22) hx hb hts hin9 hown hK hP 0 rfl rfl 0 (by decide) (hts (.fieldLink RX9 7 "StepOrdersModel" "all" "[I") (by decide +kernel)) (fun _ h9 => h9) rfl dX9_keep_70 ?_
        refine lv_iload_n hx hb dX9_keep_73 rfl (lv_at hl 1 rfl) ?_
        refine kb_bind hf (fun v5 hv5 hf => ?_)
        refine ka_iald (D := D) (cl := vwCl) hx hb hK hP 1 1 (f := v_all) rfl rfl (ard_in hv5) (ard_v hv5) dX9_keep_74 ?_
        refine kb_bind hf (fun v6 hv6 hf => ?_)
        refine ka_iast (D := D) (cl := vwCl) hx hb hK hP hD hS 2 1 (f := v_past) (g := v6) rfl rfl (awr_in hv6) (awr_v hv6) dX9_keep_75 (fun H locs hP hD hS => ?_)
        have hP : va_P D vwCl (wdM cI cZ h v_all v6 v_states v_refused v_far v_row v_stepAt v_depth v_tries v_values v_wrong v_isEnd v_found v_reached v_stepIn v_laid v_firstRow v_text v_textLong v_spot v_taken v_counted) H := hP
        have hD : va_D A (wdM cI cZ h v_all v6 v_states v_refused v_far v_row v_stepAt v_depth v_tries v_values v_wrong v_isEnd v_found v_reached v_stepIn v_laid v_firstRow v_text v_textLong v_spot v_taken v_counted) := hD
        refine lv_iinc (v := (x1 + 1)) (lv' := [(1, .int (x1 + 1)), (0, .ref (h 0))]) hx hb dX9_keep_76 hl (k := 1) rfl rfl (by decide) rfl (fun ls hl => ?_)
        refine lv_goto (tgt := 50) hx hb dX9_keep_79 (by decide) ?_
        exact ih v6 v_states (x1 + 1) _ _ _ hf hP hD hS (lv_sub hl [1, 0] rfl)
  have J48 : ∀ (v_past : Nat → Int32) (v_states : Int32) (H : Heap) (locs : List Loc) (ls : Array Slot), f9_keep_b48 v_all v_past v_states = some (v_past', v_states') → va_P D vwCl (wdM cI cZ h v_all v_past v_states v_refused v_far v_row v_stepAt v_depth v_tries v_values v_wrong v_isEnd v_found v_reached v_stepIn v_laid v_firstRow v_text v_textLong v_spot v_taken v_counted) H → va_D A (wdM cI cZ h v_all v_past v_states v_refused v_far v_row v_stepAt v_depth v_tries v_values v_wrong v_isEnd v_found v_reached v_stepIn v_laid v_firstRow v_text v_textLong v_spot v_taken v_counted) → va_S A s.heap H locs → lv_has ls 2 [(0, .ref (h 0))] → W p l e rm9_keep s m args below meth c H locs 0 0 Q (F0 m 48 ls []) := by
    intro v_past v_states H locs ls hf hP hD hS hl
    rw [f9_keep_b48] at hf
    refine lv_iconst (v := 0) hx hb dX9_keep_48 (by decide) ?_
    refine lv_istore_n (lv' := [(1, .int (0 : Int32)), (0, .ref (h 0))]) hx hb dX9_keep_49 rfl hl (by decide) rfl (fun ls hl => ?_)
    exact J50 kFUEL v_past v_states (0 : Int32) _ _ _ hf hP hD hS (lv_sub hl [1, 0] rfl)
  have J38 : ∀ (v_past : Nat → Int32) (v_states : Int32) (H : Heap) (locs : List Loc) (ls : Array Slot), f9_keep_b38 v_all v_past v_states = some (v_past', v_states') → va_P D vwCl (wdM cI cZ h v_all v_past v_states v_refused v_far v_row v_stepAt v_depth v_tries v_values v_wrong v_isEnd v_found v_reached v_stepIn v_laid v_firstRow v_text v_textLong v_spot v_taken v_counted) H → va_D A (wdM cI cZ h v_all v_past v_states v_refused v_far v_row v_stepAt v_depth v_tries v_values v_wrong v_isEnd v_found v_reached v_stepIn v_laid v_firstRow v_text v_textLong v_spot v_taken v_counted) → va_S A s.heap H locs → lv_has ls 2 [(0, .ref (h 0))] → W p l e rm9_keep s m args below meth c H locs 0 0 Q (F0 m 38 ls []) := by
    intro v_past v_states H locs ls hf hP hD hS hl
    rw [f9_keep_b38] at hf
    refine lv_aload_n hx hb dX9_keep_38 rfl (lv_at hl 0 rfl) ?_
    refine lv_dup hx hb dX9_keep_39 rfl ?_
    refine va_get (D := D) (cl := vwCl) (ci := 6) (v := .int v_states) (C := RX9) (T := TX9) (N := 22) hx hb hts hin9 hown hK hP 0 rfl rfl 2 (by decide) (hts (.fieldLink RX9 59 "StepOrdersModel" "states" "I") (by decide +kernel)) (fun _ h9 => h9) rfl dX9_keep_40 ?_
    refine lv_iconst (v := 1) hx hb dX9_keep_43 (by decide) ?_
    refine lv_isub hx hb dX9_keep_44 ?_
    refine va_put (D := D) (cl := vwCl) (ci := 6) (v := .int (v_states - (1 : Int32))) (ty := .int) (C := RX9) (T := TX9) (N := 22) hx hb hts hin9 tyX9 tyX9_ok nmX9 hown hK hP hD hS 0 rfl rfl 2 (by decide) (hts (.fieldLink RX9 59 "StepOrdersModel" "states" "I") (by decide +kernel)) (fun _ h9 => h9) rfl (tyX9_ok 2 (by decide)) rfl rfl (Nat.le_of_ble_eq_true rfl) dX9_keep_45 (fun H locs hP hD hS => ?_)
    have hP : va_P D vwCl (wdM cI cZ h v_all v_past (v_states - (1 : Int32)) v_refused v_far v_row v_stepAt v_depth v_tries v_values v_wrong v_isEnd v_found v_reached v_stepIn v_laid v_firstRow v_text v_textLong v_spot v_taken v_counted) H := hP
    have hD : va_D A (wdM cI cZ h v_all v_past (v_states - (1 : Int32)) v_refused v_far v_row v_stepAt v_depth v_tries v_values v_wrong v_isEnd v_found v_reached v_stepIn v_laid v_firstRow v_text v_textLong v_spot v_taken v_counted) := hD
    exact J48 v_past (v_states - (1 : Int32)) _ _ _ hf hP hD hS (lv_sub hl [0] rfl)
  have J10 : ∀ (n : Nat) (v_past : Nat → Int32) (v_states : Int32) (x1 : Int32) (H : Heap) (locs : List Loc) (ls : Array Slot), f9_keep_l10 n v_all v_past v_states x1 = some (v_past', v_states') → va_P D vwCl (wdM cI cZ h v_all v_past v_states v_refused v_far v_row v_stepAt v_depth v_tries v_values v_wrong v_isEnd v_found v_reached v_stepIn v_laid v_firstRow v_text v_textLong v_spot v_taken v_counted) H → va_D A (wdM cI cZ h v_all v_past v_states v_refused v_far v_row v_stepAt v_depth v_tries v_values v_wrong v_isEnd v_found v_reached v_stepIn v_laid v_firstRow v_text v_textLong v_spot v_taken v_counted) → va_S A s.heap H locs → lv_has ls 2 [(0, .ref (h 0)), (1, .int x1)] → W p l e rm9_keep s m args below meth c H locs 0 0 Q (F0 m 10 ls []) := by
    intro n
    induction n with
    | zero =>
      intro v_past v_states x1 H locs ls hf
      cases (show (none : Option ((Nat → Int32) × Int32)) = some (v_past', v_states') from hf)
    | succ n ih =>
      intro v_past v_states x1 H locs ls hf hP hD hS hl
      rw [f9_keep_l10_s] at hf
      refine lv_iload_n hx hb dX9_keep_10 rfl (lv_at hl 1 rfl) ?_
      refine lv_sipush (v := 224) hx hb dX9_keep_11 (by decide) ?_
      refine lv_icmp_ge (tgt := 38) hx hb dX9_keep_14 (by decide) (fun c10 => ?_) (fun c10 => ?_)
      · rw [if_pos c10] at hf
        exact J38 v_past v_states _ _ _ hf hP hD hS (lv_sub hl [0] rfl)
      · rw [if_neg c10] at hf
        refine lv_aload_n hx hb dX9_keep_17 rfl (lv_at hl 0 rfl) ?_
        refine va_get (D := D) (cl := vwCl) (ci := 6) (v := .ref (h 2)) (C := RX9) (T := TX9) (N := 22) hx hb hts hin9 hown hK hP 0 rfl rfl 1 (by decide) (hts (.fieldLink RX9 13 "StepOrdersModel" "past" "[I") (by decide +kernel)) (fun _ h9 => h9) rfl dX9_keep_18 ?_
        refine lv_iload_n hx hb dX9_keep_21 rfl (lv_at hl 1 rfl) ?_
        refine lv_aload_n hx hb dX9_keep_22 rfl (lv_at hl 0 rfl) ?_
        refine va_get (D := D) (cl := vwCl) (ci := 6) (v := .ref (h 2)) (C := RX9) (T := TX9) (N := 22) hx hb hts hin9 hown hK hP 0 rfl rfl 1 (by decide) (hts (.fieldLink RX9 13 "StepOrdersModel" "past" "[I") (by decide +kernel)) (fun _ h9 => h9) rfl dX9_keep_23 ?_
        refine lv_iload_n hx hb dX9_keep_26 rfl (lv_at hl 1 rfl) ?_
        refine lv_bipush (v := 56) hx hb dX9_keep_27 (by decide) ?_
        refine lv_iadd hx hb dX9_keep_29 ?_
        refine kb_bind hf (fun v11 hv11 hf => ?_)
        refine ka_iald (D := D) (cl := vwCl) hx hb hK hP 2 1 (f := v_past) rfl rfl (ard_in hv11) (ard_v hv11) dX9_keep_30 ?_
        refine kb_bind hf (fun v12 hv12 hf => ?_)
        refine ka_iast (D := D) (cl := vwCl) hx hb hK hP hD hS 2 1 (f := v_past) (g := v12) rfl rfl (awr_in hv12) (awr_v hv12) dX9_keep_31 (fun H locs hP hD hS => ?_)
        have hP : va_P D vwCl (wdM cI cZ h v_all v12 v_states v_refused v_far v_row v_stepAt v_depth v_tries v_values v_wrong v_isEnd v_found v_reached v_stepIn v_laid v_firstRow v_text v_textLong v_spot v_taken v_counted) H := hP
        have hD : va_D A (wdM cI cZ h v_all v12 v_states v_refused v_far v_row v_stepAt v_depth v_tries v_values v_wrong v_isEnd v_found v_reached v_stepIn v_laid v_firstRow v_text v_textLong v_spot v_taken v_counted) := hD
        refine lv_iinc (v := (x1 + 1)) (lv' := [(1, .int (x1 + 1)), (0, .ref (h 0))]) hx hb dX9_keep_32 hl (k := 1) rfl rfl (by decide) rfl (fun ls hl => ?_)
        refine lv_goto (tgt := 10) hx hb dX9_keep_35 (by decide) ?_
        exact ih v12 v_states (x1 + 1) _ _ _ hf hP hD hS (lv_sub hl [1, 0] rfl)
  rw [f9_keep] at hf
  refine lv_aload_n hx hb dX9_keep_0 rfl (lv_at hl 0 rfl) ?_
  refine va_get (D := D) (cl := vwCl) (ci := 6) (v := .int v_states) (C := RX9) (T := TX9) (N := 22) hx hb hts hin9 hown hK hP 0 rfl rfl 2 (by decide) (hts (.fieldLink RX9 59 "StepOrdersModel" "states" "I") (by decide +kernel)) (fun _ h9 => h9) rfl dX9_keep_1 ?_
  refine lv_iconst (v := 5) hx hb dX9_keep_4 (by decide) ?_
  refine lv_icmp_ne (tgt := 48) hx hb dX9_keep_5 (by decide) (fun c13 => ?_) (fun c13 => ?_)
  · rw [if_neg c13] at hf
    exact J48 v_past v_states _ _ _ hf hP hD hS (lv_sub hl [0] rfl)
  · rw [if_pos c13] at hf
    refine lv_iconst (v := 0) hx hb dX9_keep_8 (by decide) ?_
    refine lv_istore_n (lv' := [(1, .int (0 : Int32)), (0, .ref (h 0))]) hx hb dX9_keep_9 rfl hl (by decide) rfl (fun ls hl => ?_)
    exact J10 kFUEL v_past v_states (0 : Int32) _ _ _ hf hP hD hS (lv_sub hl [1, 0] rfl)

set_option maxHeartbeats 4000000 in
set_option maxRecDepth 100000 in
theorem c9_many (l : Launch) (D : va_G) (cB cI cZ cO : ClassId) (h : Nat → Nat) (sz : Nat) (x1 : Int32) (v_all : Nat → Int32) (v_past : Nat → Int32) (v_states : Int32) (v_refused : Nat → Int32) (v_far : Nat → Int32) (v_row : Nat → Int32) (v_stepAt : Nat → Int32) (v_depth : Int32) (v_tries : Nat → Int32) (v_values : Nat → Int32) (v_wrong : Int32) (v_isEnd : Nat → Int32) (v_found : Nat → Int32) (v_reached : Nat → Int32) (v_stepIn : Nat → Int32) (v_laid : Nat → Int32) (v_firstRow : Nat → Int32) (v_text : Nat → Int32) (v_textLong : Int32) (v_spot : Int32) (v_taken : Int32) (v_counted : Nat → Int32) (r0 : Int32) (hf : f9_many v_all x1 = some r0) : Met l yX9_many wsX9_many rm9_many (va_Pc [.ref (h 0), .int x1] (kb_B D (ka_tys cB cI cZ cO) sz (wdM cI cZ h v_all v_past v_states v_refused v_far v_row v_stepAt v_depth v_tries v_values v_wrong v_isEnd v_found v_reached v_stepIn v_laid v_firstRow v_text v_textLong v_spot v_taken v_counted))) (va_Qi (kb_post .int r0) (fun _ t => va_P D vwCl (wdM cI cZ h v_all v_past v_states v_refused v_far v_row v_stepAt v_depth v_tries v_values v_wrong v_isEnd v_found v_reached v_stepIn v_laid v_firstRow v_text v_textLong v_spot v_taken v_counted) t.heap) (va_A (wdM cI cZ h v_all v_past v_states v_refused v_far v_row v_stepAt v_depth v_tries v_values v_wrong v_isEnd v_found v_reached v_stepIn v_laid v_firstRow v_text v_textLong v_spot v_taken v_counted) sz)) 0 0 (va_A (wdM cI cZ h v_all v_past v_states v_refused v_far v_row v_stepAt v_depth v_tries v_values v_wrong v_isEnd v_found v_reached v_stepIn v_laid v_firstRow v_text v_textLong v_spot v_taken v_counted) sz) := by
  refine kb_metZ (cc := cX9_many) (maxL := 2) (ty := .int) (by decide) rfl (Nat.le_of_ble_eq_true rfl) ?_
  intro p e s m args below meth c Q A ls H hx hb hml hown hts hK hN hP hD hS hA hl hend
  have hown : s.vm.findClass RX9 = some m.cls := hown
  have hl : lv_has ls 2 [(0, .ref (h 0)), (1, .int x1)] := hl
  have hin9 : ∀ w ∈ u_ws RX9 TX9 22, w ∈ wsX9_many := by decide +kernel
  rw [f9_many] at hf
  refine lv_aload_n hx hb dX9_many_0 rfl (lv_at hl 0 rfl) ?_
  refine va_get (D := D) (cl := vwCl) (ci := 6) (v := .ref (h 1)) (C := RX9) (T := TX9) (N := 22) hx hb hts hin9 hown hK hP 0 rfl rfl 0 (by decide) (hts (.fieldLink RX9 7 "StepOrdersModel" "all" "[I") (by decide +kernel)) (fun _ h9 => h9) rfl dX9_many_1 ?_
  refine lv_bipush (v := 36) hx hb dX9_many_4 (by decide) ?_
  refine lv_iload_n hx hb dX9_many_6 rfl (lv_at hl 1 rfl) ?_
  refine lv_iadd hx hb dX9_many_7 ?_
  refine kb_bind hf (fun v1 hv1 hf => ?_)
  refine ka_iald (D := D) (cl := vwCl) hx hb hK hP 1 1 (f := v_all) rfl rfl (ard_in hv1) (ard_v hv1) dX9_many_8 ?_
  cases hf
  exact hend _ _ _ _ rfl hP hS dX9_many_9

set_option maxHeartbeats 4000000 in
set_option maxRecDepth 100000 in
theorem c9_its (l : Launch) (D : va_G) (cB cI cZ cO : ClassId) (h : Nat → Nat) (sz : Nat) (x1 : Int32) (x2 : Int32) (x3 : Int32) (v_all : Nat → Int32) (v_past : Nat → Int32) (v_states : Int32) (v_refused : Nat → Int32) (v_far : Nat → Int32) (v_row : Nat → Int32) (v_stepAt : Nat → Int32) (v_depth : Int32) (v_tries : Nat → Int32) (v_values : Nat → Int32) (v_wrong : Int32) (v_isEnd : Nat → Int32) (v_found : Nat → Int32) (v_reached : Nat → Int32) (v_stepIn : Nat → Int32) (v_laid : Nat → Int32) (v_firstRow : Nat → Int32) (v_text : Nat → Int32) (v_textLong : Int32) (v_spot : Int32) (v_taken : Int32) (v_counted : Nat → Int32) (r0 : Int32) (hf : f9_its v_all x1 x2 x3 = some r0) : Met l yX9_its wsX9_its rm9_its (va_Pc [.ref (h 0), .int x1, .int x2, .int x3] (kb_B D (ka_tys cB cI cZ cO) sz (wdM cI cZ h v_all v_past v_states v_refused v_far v_row v_stepAt v_depth v_tries v_values v_wrong v_isEnd v_found v_reached v_stepIn v_laid v_firstRow v_text v_textLong v_spot v_taken v_counted))) (va_Qi (kb_post .int r0) (fun _ t => va_P D vwCl (wdM cI cZ h v_all v_past v_states v_refused v_far v_row v_stepAt v_depth v_tries v_values v_wrong v_isEnd v_found v_reached v_stepIn v_laid v_firstRow v_text v_textLong v_spot v_taken v_counted) t.heap) (va_A (wdM cI cZ h v_all v_past v_states v_refused v_far v_row v_stepAt v_depth v_tries v_values v_wrong v_isEnd v_found v_reached v_stepIn v_laid v_firstRow v_text v_textLong v_spot v_taken v_counted) sz)) 0 0 (va_A (wdM cI cZ h v_all v_past v_states v_refused v_far v_row v_stepAt v_depth v_tries v_values v_wrong v_isEnd v_found v_reached v_stepIn v_laid v_firstRow v_text v_textLong v_spot v_taken v_counted) sz) := by
  refine kb_metZ (cc := cX9_its) (maxL := 4) (ty := .int) (by decide) rfl (Nat.le_of_ble_eq_true rfl) ?_
  intro p e s m args below meth c Q A ls H hx hb hml hown hts hK hN hP hD hS hA hl hend
  have hown : s.vm.findClass RX9 = some m.cls := hown
  have hl : lv_has ls 4 [(0, .ref (h 0)), (1, .int x1), (2, .int x2), (3, .int x3)] := hl
  have hin9 : ∀ w ∈ u_ws RX9 TX9 22, w ∈ wsX9_its := by decide +kernel
  rw [f9_its] at hf
  refine lv_aload_n hx hb dX9_its_0 rfl (lv_at hl 0 rfl) ?_
  refine va_get (D := D) (cl := vwCl) (ci := 6) (v := .ref (h 1)) (C := RX9) (T := TX9) (N := 22) hx hb hts hin9 hown hK hP 0 rfl rfl 0 (by decide) (hts (.fieldLink RX9 7 "StepOrdersModel" "all" "[I") (by decide +kernel)) (fun _ h9 => h9) rfl dX9_its_1 ?_
  refine lv_bipush (v := 12) hx hb dX9_its_4 (by decide) ?_
  refine lv_iload_n hx hb dX9_its_6 rfl (lv_at hl 1 rfl) ?_
  refine lv_imul hx hb dX9_its_7 ?_
  refine lv_iconst (v := 3) hx hb dX9_its_8 (by decide) ?_
  refine lv_iload_n hx hb dX9_its_9 rfl (lv_at hl 2 rfl) ?_
  refine lv_imul hx hb dX9_its_10 ?_
  refine lv_iadd hx hb dX9_its_11 ?_
  refine lv_iload_n hx hb dX9_its_12 rfl (lv_at hl 3 rfl) ?_
  refine lv_iadd hx hb dX9_its_13 ?_
  refine kb_bind hf (fun v1 hv1 hf => ?_)
  refine ka_iald (D := D) (cl := vwCl) hx hb hK hP 1 1 (f := v_all) rfl rfl (ard_in hv1) (ard_v hv1) dX9_its_14 ?_
  cases hf
  exact hend _ _ _ _ rfl hP hS dX9_its_15

set_option maxHeartbeats 4000000 in
set_option maxRecDepth 100000 in
theorem c9_isTold (l : Launch) (D : va_G) (cB cI cZ cO : ClassId) (h : Nat → Nat) (sz : Nat) (x0 : Int32) (x1 : Int32) (x2 : Int32) (r0 : Int32) (hf : f9_isTold x0 x1 x2 = r0) : Met l yX9_isTold wsX9_isTold rm9_isTold (va_Pc [.int x0, .int x1, .int x2] (kb_B D (ka_tys cB cI cZ cO) sz ([]))) (va_Qi (kb_post .boolean r0) (fun _ t => va_P D vwCl ([]) t.heap) (va_A ([]) sz)) 0 0 (va_A ([]) sz) := by
  refine kb_metZ (cc := cX9_isTold) (maxL := 4) (ty := .boolean) (by decide) rfl (Nat.le_of_ble_eq_true rfl) ?_
  intro p e s m args below meth c Q A ls H hx hb hml hown hts hK hN hP hD hS hA hl hend
  have hown : s.vm.findClass RX9 = some m.cls := hown
  have hl : lv_has ls 4 [(0, .int x0), (1, .int x1), (2, .int x2)] := hl
  have J73 : ∀ (s0 : Int64) (s1 : Int64) (s2 : Int64) (H : Heap) (locs : List Loc) (ls : Array Slot), f9_isTold_b73 s0 s1 s2 = r0 → va_P D vwCl ([]) H → va_D A ([]) → va_S A s.heap H locs → lv_has ls 4 [] → W p l e rm9_isTold s m args below meth c H locs 0 0 Q (F0 m 73 ls [.long s2, .long s1, .long s0]) := by
    intro s0 s1 s2 H locs ls hf hP hD hS hl
    rw [f9_isTold_b73] at hf
    have hPc : va_P D vwCl ([]) H := hP.sub [] rfl
    have hDc : va_D A ([]) := hD.sub [] (by decide) rfl
    refine kd_iR (va_runS (As := [.long s0, .long s1, .long s2]) (rest := []) ⟨hx, hb, hml, hown, hts⟩ (c9_in l D cB cI cZ cO h H.size s0 s1 s2 (f9_in s0 s1 s2) rfl) (va_cwS 3 hts gX9_isTold_X9_in rfl rfl rfl (by decide +kernel) ⟨Nat.le_of_ble_eq_true rfl, Nat.le_of_ble_eq_true rfl⟩) ⟨kb_blind, kb_pre hPc hDc hK hN⟩ rfl rfl hl.1 rfl (lv_room (Nat.le_of_ble_eq_true rfl)) dX9_isTold_73 ⟨Nat.le_refl _, Nat.le_refl _⟩) hP hD hS hA [] rfl (fun H locs hn3 hP hS => ?_)
    refine lv_if_eq (tgt := 83) hx hb dX9_isTold_76 (by decide) (fun c4 => ?_) (fun c4 => ?_)
    · rw [if_pos c4] at hf
      refine lv_iconst (v := 0) hx hb dX9_isTold_83 (by decide) ?_
      cases hf
      exact hend _ _ _ _ rfl hP hS dX9_isTold_84
    · rw [if_neg c4] at hf
      refine lv_iconst (v := 1) hx hb dX9_isTold_79 (by decide) ?_
      refine lv_goto (tgt := 84) hx hb dX9_isTold_80 (by decide) ?_
      cases hf
      exact hend _ _ _ _ rfl hP hS dX9_isTold_84
  have J42 : ∀ (x0 : Int32) (x2 : Int32) (x3 : Int32) (s0 : Int64) (s1 : Int64) (s2 : Int64) (H : Heap) (locs : List Loc) (ls : Array Slot), f9_isTold_b42 x0 x2 x3 s0 s1 s2 = r0 → va_P D vwCl ([]) H → va_D A ([]) → va_S A s.heap H locs → lv_has ls 4 [(0, .int x0), (2, .int x2), (3, .int x3)] → W p l e rm9_isTold s m args below meth c H locs 0 0 Q (F0 m 42 ls [.long s2, .long s1, .long s0]) := by
    intro x0 x2 x3 s0 s1 s2 H locs ls hf hP hD hS hl
    rw [f9_isTold_b42] at hf
    have hPc : va_P D vwCl ([]) H := hP.sub [] rfl
    have hDc : va_D A ([]) := hD.sub [] (by decide) rfl
    refine kd_iR (va_runS (As := [.long s0, .long s1, .long s2]) (rest := []) ⟨hx, hb, hml, hown, hts⟩ (c9_in l D cB cI cZ cO h H.size s0 s1 s2 (f9_in s0 s1 s2) rfl) (va_cwS 3 hts gX9_isTold_X9_in rfl rfl rfl (by decide +kernel) ⟨Nat.le_of_ble_eq_true rfl, Nat.le_of_ble_eq_true rfl⟩) ⟨kb_blind, kb_pre hPc hDc hK hN⟩ rfl rfl hl.1 rfl (lv_room (Nat.le_of_ble_eq_true rfl)) dX9_isTold_42 ⟨Nat.le_refl _, Nat.le_refl _⟩) hP hD hS hA [] rfl (fun H locs hn9 hP hS => ?_)
    refine lv_if_eq (tgt := 83) hx hb dX9_isTold_45 (by decide) (fun c10 => ?_) (fun c10 => ?_)
    · rw [if_pos c10] at hf
      refine lv_iconst (v := 0) hx hb dX9_isTold_83 (by decide) ?_
      cases hf
      exact hend _ _ _ _ rfl hP hS dX9_isTold_84
    · rw [if_neg c10] at hf
      refine lv_iload_n hx hb dX9_isTold_48 rfl (lv_at hl 1 rfl) ?_
      refine lv_i2l (v := x2.toInt64) hx hb dX9_isTold_49 rfl ?_
      refine lv_lconst (v := 0) hx hb dX9_isTold_50 (by decide) ?_
      refine lv_iload_n hx hb dX9_isTold_51 rfl (lv_at hl 2 rfl) ?_
      refine lv_if_eq (tgt := 59) hx hb dX9_isTold_52 (by decide) (fun c11 => ?_) (fun c11 => ?_)
      · rw [if_pos c11] at hf
        refine lv_iload_n hx hb dX9_isTold_59 rfl (lv_at hl 0 rfl) ?_
        refine lv_iconst (v := 2) hx hb dX9_isTold_60 (by decide) ?_
        refine lv_icmp_ne (tgt := 70) hx hb dX9_isTold_61 (by decide) (fun c12 => ?_) (fun c12 => ?_)
        · rw [if_neg c12] at hf
          refine lv_ldc2 (v := 9) hx hb hown (hts (.constantLong RX9 71 (9)) (by decide +kernel)) dX9_isTold_70 ?_
          exact J73 x2.toInt64 (0 : Int64) (9 : Int64) _ _ _ hf hP hD hS (lv_sub hl [] rfl)
        · rw [if_pos c12] at hf
          refine lv_ldc2 (v := 3) hx hb hown (hts (.constantLong RX9 69 (3)) (by decide +kernel)) dX9_isTold_64 ?_
          refine lv_goto (tgt := 73) hx hb dX9_isTold_67 (by decide) ?_
          exact J73 x2.toInt64 (0 : Int64) (3 : Int64) _ _ _ hf hP hD hS (lv_sub hl [] rfl)
      · rw [if_neg c11] at hf
        refine lv_lconst (v := 0) hx hb dX9_isTold_55 (by decide) ?_
        refine lv_goto (tgt := 73) hx hb dX9_isTold_56 (by decide) ?_
        exact J73 x2.toInt64 (0 : Int64) (0 : Int64) _ _ _ hf hP hD hS (lv_sub hl [] rfl)
  have J15 : ∀ (x0 : Int32) (x1 : Int32) (x2 : Int32) (s0 : Int32) (H : Heap) (locs : List Loc) (ls : Array Slot), f9_isTold_b15 x0 x1 x2 s0 = r0 → va_P D vwCl ([]) H → va_D A ([]) → va_S A s.heap H locs → lv_has ls 4 [(0, .int x0), (1, .int x1), (2, .int x2)] → W p l e rm9_isTold s m args below meth c H locs 0 0 Q (F0 m 15 ls [.int s0]) := by
    intro x0 x1 x2 s0 H locs ls hf hP hD hS hl
    rw [f9_isTold_b15] at hf
    refine lv_istore_n (lv' := [(3, .int s0), (0, .int x0), (1, .int x1), (2, .int x2)]) hx hb dX9_isTold_15 rfl hl (by decide) rfl (fun ls hl => ?_)
    refine lv_iload_n hx hb dX9_isTold_16 rfl (lv_at hl 1 rfl) ?_
    refine lv_i2l (v := x0.toInt64) hx hb dX9_isTold_17 rfl ?_
    refine lv_lconst (v := 0) hx hb dX9_isTold_18 (by decide) ?_
    refine lv_ldc2 (v := 5) hx hb hown (hts (.constantLong RX9 63 (5)) (by decide +kernel)) dX9_isTold_19 ?_
    have hPc : va_P D vwCl ([]) H := hP.sub [] rfl
    have hDc : va_D A ([]) := hD.sub [] (by decide) rfl
    refine kd_iR (va_runS (As := [.long x0.toInt64, .long (0 : Int64), .long (5 : Int64)]) (rest := []) ⟨hx, hb, hml, hown, hts⟩ (c9_in l D cB cI cZ cO h H.size x0.toInt64 (0 : Int64) (5 : Int64) (f9_in x0.toInt64 (0 : Int64) (5 : Int64)) rfl) (va_cwS 3 hts gX9_isTold_X9_in rfl rfl rfl (by decide +kernel) ⟨Nat.le_of_ble_eq_true rfl, Nat.le_of_ble_eq_true rfl⟩) ⟨kb_blind, kb_pre hPc hDc hK hN⟩ rfl rfl hl.1 rfl (lv_room (Nat.le_of_ble_eq_true rfl)) dX9_isTold_22 ⟨Nat.le_refl _, Nat.le_refl _⟩) hP hD hS hA [] rfl (fun H locs hn16 hP hS => ?_)
    refine lv_if_eq (tgt := 83) hx hb dX9_isTold_25 (by decide) (fun c17 => ?_) (fun c17 => ?_)
    · rw [if_pos c17] at hf
      refine lv_iconst (v := 0) hx hb dX9_isTold_83 (by decide) ?_
      cases hf
      exact hend _ _ _ _ rfl hP hS dX9_isTold_84
    · rw [if_neg c17] at hf
      refine lv_iload_n hx hb dX9_isTold_28 rfl (lv_at hl 2 rfl) ?_
      refine lv_i2l (v := x1.toInt64) hx hb dX9_isTold_29 rfl ?_
      refine lv_lconst (v := 0) hx hb dX9_isTold_30 (by decide) ?_
      refine lv_iload_n hx hb dX9_isTold_31 rfl (lv_at hl 0 rfl) ?_
      refine lv_if_eq (tgt := 39) hx hb dX9_isTold_32 (by decide) (fun c18 => ?_) (fun c18 => ?_)
      · rw [if_pos c18] at hf
        refine lv_ldc2 (v := 3) hx hb hown (hts (.constantLong RX9 69 (3)) (by decide +kernel)) dX9_isTold_39 ?_
        exact J42 x0 x2 s0 x1.toInt64 (0 : Int64) (3 : Int64) _ _ _ hf hP hD hS (lv_sub hl [1, 3, 0] rfl)
      · rw [if_neg c18] at hf
        refine lv_lconst (v := 1) hx hb dX9_isTold_35 (by decide) ?_
        refine lv_goto (tgt := 42) hx hb dX9_isTold_36 (by decide) ?_
        exact J42 x0 x2 s0 x1.toInt64 (0 : Int64) (1 : Int64) _ _ _ hf hP hD hS (lv_sub hl [1, 3, 0] rfl)
  have J10 : ∀ (x0 : Int32) (x1 : Int32) (x2 : Int32) (H : Heap) (locs : List Loc) (ls : Array Slot), f9_isTold_b10 x0 x1 x2 = r0 → va_P D vwCl ([]) H → va_D A ([]) → va_S A s.heap H locs → lv_has ls 4 [(0, .int x0), (1, .int x1), (2, .int x2)] → W p l e rm9_isTold s m args below meth c H locs 0 0 Q (F0 m 10 ls []) := by
    intro x0 x1 x2 H locs ls hf hP hD hS hl
    rw [f9_isTold_b10] at hf
    refine lv_iconst (v := 1) hx hb dX9_isTold_10 (by decide) ?_
    refine lv_goto (tgt := 15) hx hb dX9_isTold_11 (by decide) ?_
    exact J15 x0 x1 x2 (1 : Int32) _ _ _ hf hP hD hS (lv_sub hl [0, 1, 2] rfl)
  rw [f9_isTold] at hf
  refine lv_iload_n hx hb dX9_isTold_0 rfl (lv_at hl 0 rfl) ?_
  refine lv_iconst (v := 4) hx hb dX9_isTold_1 (by decide) ?_
  refine lv_icmp_eq (tgt := 10) hx hb dX9_isTold_2 (by decide) (fun c19 => ?_) (fun c19 => ?_)
  · rw [if_pos c19] at hf
    exact J10 x0 x1 x2 _ _ _ hf hP hD hS (lv_sub hl [0, 1, 2] rfl)
  · rw [if_neg c19] at hf
    refine lv_iload_n hx hb dX9_isTold_5 rfl (lv_at hl 0 rfl) ?_
    refine lv_iconst (v := 5) hx hb dX9_isTold_6 (by decide) ?_
    refine lv_icmp_ne (tgt := 14) hx hb dX9_isTold_7 (by decide) (fun c20 => ?_) (fun c20 => ?_)
    · rw [if_neg c20] at hf
      refine lv_iconst (v := 0) hx hb dX9_isTold_14 (by decide) ?_
      exact J15 x0 x1 x2 (0 : Int32) _ _ _ hf hP hD hS (lv_sub hl [0, 1, 2] rfl)
    · rw [if_pos c20] at hf
      exact J10 x0 x1 x2 _ _ _ hf hP hD hS (lv_sub hl [0, 1, 2] rfl)

set_option maxHeartbeats 4000000 in
set_option maxRecDepth 100000 in
theorem c9_lays (l : Launch) (D : va_G) (cB cI cZ cO : ClassId) (h : Nat → Nat) (sz : Nat) (x1 : Int32) (x2 : Int32) (x3 : Int32) (x4 : Int32) (v_all : Nat → Int32) (v_past : Nat → Int32) (v_states : Int32) (v_refused : Nat → Int32) (v_far : Nat → Int32) (v_row : Nat → Int32) (v_stepAt : Nat → Int32) (v_depth : Int32) (v_tries : Nat → Int32) (v_values : Nat → Int32) (v_wrong : Int32) (v_isEnd : Nat → Int32) (v_found : Nat → Int32) (v_reached : Nat → Int32) (v_stepIn : Nat → Int32) (v_laid : Nat → Int32) (v_firstRow : Nat → Int32) (v_text : Nat → Int32) (v_textLong : Int32) (v_spot : Int32) (v_taken : Int32) (v_counted : Nat → Int32) (v_all' : Nat → Int32) (hf : f9_lays v_all x1 x2 x3 x4 = some (v_all')) : Met l yX9_lays wsX9_lays rm9_lays (va_Pc [.ref (h 0), .int x1, .int x2, .int x3, .int x4] (kb_B D (ka_tys cB cI cZ cO) sz (wdM cI cZ h v_all v_past v_states v_refused v_far v_row v_stepAt v_depth v_tries v_values v_wrong v_isEnd v_found v_reached v_stepIn v_laid v_firstRow v_text v_textLong v_spot v_taken v_counted))) (va_Qv (fun (_ : Unit) => True) (fun _ t => va_P D vwCl (wdM cI cZ h (v_all') v_past v_states v_refused v_far v_row v_stepAt v_depth v_tries v_values v_wrong v_isEnd v_found v_reached v_stepIn v_laid v_firstRow v_text v_textLong v_spot v_taken v_counted) t.heap) (va_A (wdM cI cZ h v_all v_past v_states v_refused v_far v_row v_stepAt v_depth v_tries v_values v_wrong v_isEnd v_found v_reached v_stepIn v_laid v_firstRow v_text v_textLong v_spot v_taken v_counted) sz)) 0 0 (va_A (wdM cI cZ h v_all v_past v_states v_refused v_far v_row v_stepAt v_depth v_tries v_values v_wrong v_isEnd v_found v_reached v_stepIn v_laid v_firstRow v_text v_textLong v_spot v_taken v_counted) sz) := by
  refine kb_metV (cc := cX9_lays) (maxL := 6) (by decide) rfl (Nat.le_of_ble_eq_true rfl) ?_
  intro p e s m args below meth c Q A ls H hx hb hml hown hts hK hN hP hD hS hA hl hend
  have hown : s.vm.findClass RX9 = some m.cls := hown
  have hl : lv_has ls 6 [(0, .ref (h 0)), (1, .int x1), (2, .int x2), (3, .int x3), (4, .int x4)] := hl
  have hin9 : ∀ w ∈ u_ws RX9 TX9 22, w ∈ wsX9_lays := by decide +kernel
  rw [f9_lays] at hf
  refine lv_bipush (v := 12) hx hb dX9_lays_0 (by decide) ?_
  refine lv_iload_n hx hb dX9_lays_2 rfl (lv_at hl 1 rfl) ?_
  refine lv_imul hx hb dX9_lays_3 ?_
  refine lv_iconst (v := 3) hx hb dX9_lays_4 (by decide) ?_
  refine lv_aload_n hx hb dX9_lays_5 rfl (lv_at hl 0 rfl) ?_
  refine lv_iload_n hx hb dX9_lays_6 rfl (lv_at hl 1 rfl) ?_
  refine kb_bind hf (fun q1 hq1 hf => ?_)
  have hPc : va_P D vwCl (wdM cI cZ h v_all v_past v_states v_refused v_far v_row v_stepAt v_depth v_tries v_values v_wrong v_isEnd v_found v_reached v_stepIn v_laid v_firstRow v_text v_textLong v_spot v_taken v_counted) H := hP.sub [0, 1, 2, 3, 4, 5, 6, 7, 8, 9, 10, 11, 12, 13, 14, 15, 16] rfl
  have hDc : va_D A (wdM cI cZ h v_all v_past v_states v_refused v_far v_row v_stepAt v_depth v_tries v_values v_wrong v_isEnd v_found v_reached v_stepIn v_laid v_firstRow v_text v_textLong v_spot v_taken v_counted) := hD.sub [0, 1, 2, 3, 4, 5, 6, 7, 8, 9, 10, 11, 12, 13, 14, 15, 16] (by decide) rfl
  refine kd_iR (va_runV (As := [.int x1]) (rest := [.int (3 : Int32), .int ((12 : Int32) * x1)]) ⟨hx, hb, hml, hown, hts⟩ (c9_many l D cB cI cZ cO h H.size x1 v_all v_past v_states v_refused v_far v_row v_stepAt v_depth v_tries v_values v_wrong v_isEnd v_found v_reached v_stepIn v_laid v_firstRow v_text v_textLong v_spot v_taken v_counted q1 hq1) (cwV 1 hts gX9_lays_X9_many rfl rfl rfl (by decide +kernel) ⟨Nat.le_of_ble_eq_true rfl, Nat.le_of_ble_eq_true rfl⟩) ⟨kb_blind, va_recv hK hPc (ci := 6) (q0 := 0) rfl rfl, kb_pre hPc hDc hK hN⟩ rfl rfl hl.1 rfl (lv_room (Nat.le_of_ble_eq_true rfl)) dX9_lays_7 ⟨Nat.le_refl _, Nat.le_refl _⟩) hP hD hS hA [0, 1, 2, 3, 4, 5, 6, 7, 8, 9, 10, 11, 12, 13, 14, 15, 16] rfl (fun H locs hn2 hP hS => ?_)
  refine lv_imul hx hb dX9_lays_10 ?_
  refine lv_iadd hx hb dX9_lays_11 ?_
  refine lv_istore (lv' := [(5, .int (((12 : Int32) * x1) + ((3 : Int32) * q1))), (0, .ref (h 0)), (1, .int x1), (2, .int x2), (3, .int x3), (4, .int x4)]) hx hb dX9_lays_12 hl (by decide) rfl (fun ls hl => ?_)
  refine lv_aload_n hx hb dX9_lays_14 rfl (lv_at hl 1 rfl) ?_
  refine va_get (D := D) (cl := vwCl) (ci := 6) (v := .ref (h 1)) (C := RX9) (T := TX9) (N := 22) hx hb hts hin9 hown hK hP 0 rfl rfl 0 (by decide) (hts (.fieldLink RX9 7 "StepOrdersModel" "all" "[I") (by decide +kernel)) (fun _ h9 => h9) rfl dX9_lays_15 ?_
  refine lv_iload hx hb dX9_lays_18 (lv_at hl 0 rfl) ?_
  refine lv_iload_n hx hb dX9_lays_20 rfl (lv_at hl 3 rfl) ?_
  refine kb_bind hf (fun v3 hv3 hf => ?_)
  refine ka_iast (D := D) (cl := vwCl) hx hb hK hP hD hS 1 1 (f := v_all) (g := v3) rfl rfl (awr_in hv3) (awr_v hv3) dX9_lays_21 (fun H locs hP hD hS => ?_)
  have hP : va_P D vwCl (wdM cI cZ h v3 v_past v_states v_refused v_far v_row v_stepAt v_depth v_tries v_values v_wrong v_isEnd v_found v_reached v_stepIn v_laid v_firstRow v_text v_textLong v_spot v_taken v_counted) H := hP
  have hD : va_D A (wdM cI cZ h v3 v_past v_states v_refused v_far v_row v_stepAt v_depth v_tries v_values v_wrong v_isEnd v_found v_reached v_stepIn v_laid v_firstRow v_text v_textLong v_spot v_taken v_counted) := hD
  refine lv_aload_n hx hb dX9_lays_22 rfl (lv_at hl 1 rfl) ?_
  refine va_get (D := D) (cl := vwCl) (ci := 6) (v := .ref (h 1)) (C := RX9) (T := TX9) (N := 22) hx hb hts hin9 hown hK hP 0 rfl rfl 0 (by decide) (hts (.fieldLink RX9 7 "StepOrdersModel" "all" "[I") (by decide +kernel)) (fun _ h9 => h9) rfl dX9_lays_23 ?_
  refine lv_iload hx hb dX9_lays_26 (lv_at hl 0 rfl) ?_
  refine lv_iconst (v := 1) hx hb dX9_lays_28 (by decide) ?_
  refine lv_iadd hx hb dX9_lays_29 ?_
  refine lv_iload_n hx hb dX9_lays_30 rfl (lv_at hl 4 rfl) ?_
  refine kb_bind hf (fun v4 hv4 hf => ?_)
  refine ka_iast (D := D) (cl := vwCl) hx hb hK hP hD hS 1 1 (f := v3) (g := v4) rfl rfl (awr_in hv4) (awr_v hv4) dX9_lays_31 (fun H locs hP hD hS => ?_)
  have hP : va_P D vwCl (wdM cI cZ h v4 v_past v_states v_refused v_far v_row v_stepAt v_depth v_tries v_values v_wrong v_isEnd v_found v_reached v_stepIn v_laid v_firstRow v_text v_textLong v_spot v_taken v_counted) H := hP
  have hD : va_D A (wdM cI cZ h v4 v_past v_states v_refused v_far v_row v_stepAt v_depth v_tries v_values v_wrong v_isEnd v_found v_reached v_stepIn v_laid v_firstRow v_text v_textLong v_spot v_taken v_counted) := hD
  refine lv_aload_n hx hb dX9_lays_32 rfl (lv_at hl 1 rfl) ?_
  refine va_get (D := D) (cl := vwCl) (ci := 6) (v := .ref (h 1)) (C := RX9) (T := TX9) (N := 22) hx hb hts hin9 hown hK hP 0 rfl rfl 0 (by decide) (hts (.fieldLink RX9 7 "StepOrdersModel" "all" "[I") (by decide +kernel)) (fun _ h9 => h9) rfl dX9_lays_33 ?_
  refine lv_iload hx hb dX9_lays_36 (lv_at hl 0 rfl) ?_
  refine lv_iconst (v := 2) hx hb dX9_lays_38 (by decide) ?_
  refine lv_iadd hx hb dX9_lays_39 ?_
  refine lv_iload hx hb dX9_lays_40 (lv_at hl 5 rfl) ?_
  refine kb_bind hf (fun v5 hv5 hf => ?_)
  refine ka_iast (D := D) (cl := vwCl) hx hb hK hP hD hS 1 1 (f := v4) (g := v5) rfl rfl (awr_in hv5) (awr_v hv5) dX9_lays_42 (fun H locs hP hD hS => ?_)
  have hP : va_P D vwCl (wdM cI cZ h v5 v_past v_states v_refused v_far v_row v_stepAt v_depth v_tries v_values v_wrong v_isEnd v_found v_reached v_stepIn v_laid v_firstRow v_text v_textLong v_spot v_taken v_counted) H := hP
  have hD : va_D A (wdM cI cZ h v5 v_past v_states v_refused v_far v_row v_stepAt v_depth v_tries v_values v_wrong v_isEnd v_found v_reached v_stepIn v_laid v_firstRow v_text v_textLong v_spot v_taken v_counted) := hD
  refine lv_aload_n hx hb dX9_lays_43 rfl (lv_at hl 1 rfl) ?_
  refine va_get (D := D) (cl := vwCl) (ci := 6) (v := .ref (h 1)) (C := RX9) (T := TX9) (N := 22) hx hb hts hin9 hown hK hP 0 rfl rfl 0 (by decide) (hts (.fieldLink RX9 7 "StepOrdersModel" "all" "[I") (by decide +kernel)) (fun _ h9 => h9) rfl dX9_lays_44 ?_
  refine lv_bipush (v := 36) hx hb dX9_lays_47 (by decide) ?_
  refine lv_iload_n hx hb dX9_lays_49 rfl (lv_at hl 2 rfl) ?_
  refine lv_iadd hx hb dX9_lays_50 ?_
  refine lv_dup2_11 hx hb dX9_lays_51 rfl rfl ?_
  refine kb_bind hf (fun v6 hv6 hf => ?_)
  refine ka_iald (D := D) (cl := vwCl) hx hb hK hP 1 1 (f := v5) rfl rfl (ard_in hv6) (ard_v hv6) dX9_lays_52 ?_
  refine lv_iconst (v := 1) hx hb dX9_lays_53 (by decide) ?_
  refine lv_iadd hx hb dX9_lays_54 ?_
  refine kb_bind hf (fun v7 hv7 hf => ?_)
  refine ka_iast (D := D) (cl := vwCl) hx hb hK hP hD hS 1 1 (f := v5) (g := v7) rfl rfl (awr_in hv7) (awr_v hv7) dX9_lays_55 (fun H locs hP hD hS => ?_)
  have hP : va_P D vwCl (wdM cI cZ h v7 v_past v_states v_refused v_far v_row v_stepAt v_depth v_tries v_values v_wrong v_isEnd v_found v_reached v_stepIn v_laid v_firstRow v_text v_textLong v_spot v_taken v_counted) H := hP
  have hD : va_D A (wdM cI cZ h v7 v_past v_states v_refused v_far v_row v_stepAt v_depth v_tries v_values v_wrong v_isEnd v_found v_reached v_stepIn v_laid v_firstRow v_text v_textLong v_spot v_taken v_counted) := hD
  refine lv_aload_n hx hb dX9_lays_56 rfl (lv_at hl 1 rfl) ?_
  refine va_get (D := D) (cl := vwCl) (ci := 6) (v := .ref (h 1)) (C := RX9) (T := TX9) (N := 22) hx hb hts hin9 hown hK hP 0 rfl rfl 0 (by decide) (hts (.fieldLink RX9 7 "StepOrdersModel" "all" "[I") (by decide +kernel)) (fun _ h9 => h9) rfl dX9_lays_57 ?_
  refine lv_bipush (v := 43) hx hb dX9_lays_60 (by decide) ?_
  refine lv_iconst (v := 0) hx hb dX9_lays_62 (by decide) ?_
  refine ka_iast (D := D) (cl := vwCl) hx hb hK hP hD hS 1 1 (f := v7) (g := (upd v7 43 (0 : Int32))) rfl rfl (show ¬ (_ ∨ _) from by decide) rfl dX9_lays_63 (fun H locs hP hD hS => ?_)
  have hP : va_P D vwCl (wdM cI cZ h (upd v7 43 (0 : Int32)) v_past v_states v_refused v_far v_row v_stepAt v_depth v_tries v_values v_wrong v_isEnd v_found v_reached v_stepIn v_laid v_firstRow v_text v_textLong v_spot v_taken v_counted) H := hP
  have hD : va_D A (wdM cI cZ h (upd v7 43 (0 : Int32)) v_past v_states v_refused v_far v_row v_stepAt v_depth v_tries v_values v_wrong v_isEnd v_found v_reached v_stepIn v_laid v_firstRow v_text v_textLong v_spot v_taken v_counted) := hD
  cases hf
  exact hend _ _ _ _ hP hS dX9_lays_64

set_option maxHeartbeats 4000000 in
set_option maxRecDepth 100000 in
theorem c9_isThread (l : Launch) (D : va_G) (cB cI cZ cO : ClassId) (h : Nat → Nat) (sz : Nat) (x0 : Int32) (r0 : Int32) (hf : f9_isThread x0 = r0) : Met l yX9_isThread wsX9_isThread rm9_isThread (va_Pc [.int x0] (kb_B D (ka_tys cB cI cZ cO) sz ([]))) (va_Qi (kb_post .boolean r0) (fun _ t => va_P D vwCl ([]) t.heap) (va_A ([]) sz)) 0 0 (va_A ([]) sz) := by
  refine kb_metZ (cc := cX9_isThread) (maxL := 1) (ty := .boolean) (by decide) rfl (Nat.le_of_ble_eq_true rfl) ?_
  intro p e s m args below meth c Q A ls H hx hb hml hown hts hK hN hP hD hS hA hl hend
  have hown : s.vm.findClass RX9 = some m.cls := hown
  have hl : lv_has ls 1 [(0, .int x0)] := hl
  rw [f9_isThread] at hf
  refine lv_iload_n hx hb dX9_isThread_0 rfl (lv_at hl 0 rfl) ?_
  refine lv_i2l (v := x0.toInt64) hx hb dX9_isThread_1 rfl ?_
  refine lv_lconst (v := 0) hx hb dX9_isThread_2 (by decide) ?_
  refine lv_ldc2 (v := 2) hx hb hown (hts (.constantLong RX9 77 (2)) (by decide +kernel)) dX9_isThread_3 ?_
  have hPc : va_P D vwCl ([]) H := hP.sub [] rfl
  have hDc : va_D A ([]) := hD.sub [] (by decide) rfl
  refine kd_iR (va_runS (As := [.long x0.toInt64, .long (0 : Int64), .long (2 : Int64)]) (rest := []) ⟨hx, hb, hml, hown, hts⟩ (c9_in l D cB cI cZ cO h H.size x0.toInt64 (0 : Int64) (2 : Int64) (f9_in x0.toInt64 (0 : Int64) (2 : Int64)) rfl) (va_cwS 3 hts gX9_isThread_X9_in rfl rfl rfl (by decide +kernel) ⟨Nat.le_of_ble_eq_true rfl, Nat.le_of_ble_eq_true rfl⟩) ⟨kb_blind, kb_pre hPc hDc hK hN⟩ rfl rfl hl.1 rfl (lv_room (Nat.le_of_ble_eq_true rfl)) dX9_isThread_6 ⟨Nat.le_refl _, Nat.le_refl _⟩) hP hD hS hA [] rfl (fun H locs hn1 hP hS => ?_)
  cases hf
  exact hend _ _ _ _ hn1 hP hS dX9_isThread_9

set_option maxHeartbeats 4000000 in
set_option maxRecDepth 100000 in
theorem c9_step (l : Launch) (D : va_G) (cB cI cZ cO : ClassId) (h : Nat → Nat) (sz : Nat) (x1 : Int32) (x2 : Int32) (x3 : Int32) (x4 : Int32) (v_all : Nat → Int32) (v_past : Nat → Int32) (v_states : Int32) (v_refused : Nat → Int32) (v_far : Nat → Int32) (v_row : Nat → Int32) (v_stepAt : Nat → Int32) (v_depth : Int32) (v_tries : Nat → Int32) (v_values : Nat → Int32) (v_wrong : Int32) (v_isEnd : Nat → Int32) (v_found : Nat → Int32) (v_reached : Nat → Int32) (v_stepIn : Nat → Int32) (v_laid : Nat → Int32) (v_firstRow : Nat → Int32) (v_text : Nat → Int32) (v_textLong : Int32) (v_spot : Int32) (v_taken : Int32) (v_counted : Nat → Int32) (r0 : Int32) (v_all' : Nat → Int32) (v_past' : Nat → Int32) (v_states' : Int32) (v_refused' : Nat → Int32) (hf : f9_step v_all v_past v_states v_refused x1 x2 x3 x4 = some (r0, v_all', v_past', v_states', v_refused')) : Met l yX9_step wsX9_step rm9_step (va_Pc [.ref (h 0), .int x1, .int x2, .int x3, .int x4] (kb_B D (ka_tys cB cI cZ cO) sz (wdM cI cZ h v_all v_past v_states v_refused v_far v_row v_stepAt v_depth v_tries v_values v_wrong v_isEnd v_found v_reached v_stepIn v_laid v_firstRow v_text v_textLong v_spot v_taken v_counted))) (va_Qi (kb_post .int r0) (fun _ t => va_P D vwCl (wdM cI cZ h (v_all') (v_past') (v_states') (v_refused') v_far v_row v_stepAt v_depth v_tries v_values v_wrong v_isEnd v_found v_reached v_stepIn v_laid v_firstRow v_text v_textLong v_spot v_taken v_counted) t.heap) (va_A (wdM cI cZ h v_all v_past v_states v_refused v_far v_row v_stepAt v_depth v_tries v_values v_wrong v_isEnd v_found v_reached v_stepIn v_laid v_firstRow v_text v_textLong v_spot v_taken v_counted) sz)) 0 0 (va_A (wdM cI cZ h v_all v_past v_states v_refused v_far v_row v_stepAt v_depth v_tries v_values v_wrong v_isEnd v_found v_reached v_stepIn v_laid v_firstRow v_text v_textLong v_spot v_taken v_counted) sz) := by
  refine kb_metZ (cc := cX9_step) (maxL := 5) (ty := .int) (by decide) rfl (Nat.le_of_ble_eq_true rfl) ?_
  intro p e s m args below meth c Q A ls H hx hb hml hown hts hK hN hP hD hS hA hl hend
  have hown : s.vm.findClass RX9 = some m.cls := hown
  have hl : lv_has ls 5 [(0, .ref (h 0)), (1, .int x1), (2, .int x2), (3, .int x3), (4, .int x4)] := hl
  have J17 : ∀ (v_all : Nat → Int32) (v_past : Nat → Int32) (v_states : Int32) (v_refused : Nat → Int32) (H : Heap) (locs : List Loc) (ls : Array Slot), f9_step_b17 v_all v_past v_states v_refused = some (r0, v_all', v_past', v_states', v_refused') → va_P D vwCl (wdM cI cZ h v_all v_past v_states v_refused v_far v_row v_stepAt v_depth v_tries v_values v_wrong v_isEnd v_found v_reached v_stepIn v_laid v_firstRow v_text v_textLong v_spot v_taken v_counted) H → va_D A (wdM cI cZ h v_all v_past v_states v_refused v_far v_row v_stepAt v_depth v_tries v_values v_wrong v_isEnd v_found v_reached v_stepIn v_laid v_firstRow v_text v_textLong v_spot v_taken v_counted) → va_S A s.heap H locs → lv_has ls 5 [(0, .ref (h 0))] → W p l e rm9_step s m args below meth c H locs 0 0 Q (F0 m 17 ls []) := by
    intro v_all v_past v_states v_refused H locs ls hf hP hD hS hl
    rw [f9_step_b17] at hf
    refine lv_aload_n hx hb dX9_step_17 rfl (lv_at hl 0 rfl) ?_
    refine lv_bipush (v := (-2)) hx hb dX9_step_18 (by decide) ?_
    refine kb_bind hf (fun q3 hq3 hf => ?_)
    have hPc : va_P D vwCl (wdM cI cZ h v_all v_past v_states v_refused v_far v_row v_stepAt v_depth v_tries v_values v_wrong v_isEnd v_found v_reached v_stepIn v_laid v_firstRow v_text v_textLong v_spot v_taken v_counted) H := hP.sub [0, 1, 2, 3, 4, 5, 6, 7, 8, 9, 10, 11, 12, 13, 14, 15, 16] rfl
    have hDc : va_D A (wdM cI cZ h v_all v_past v_states v_refused v_far v_row v_stepAt v_depth v_tries v_values v_wrong v_isEnd v_found v_reached v_stepIn v_laid v_firstRow v_text v_textLong v_spot v_taken v_counted) := hD.sub [0, 1, 2, 3, 4, 5, 6, 7, 8, 9, 10, 11, 12, 13, 14, 15, 16] (by decide) rfl
    refine kd_iW (ws' := wdM cI cZ h v_all v_past v_states q3.2 v_far v_row v_stepAt v_depth v_tries v_values v_wrong v_isEnd v_found v_reached v_stepIn v_laid v_firstRow v_text v_textLong v_spot v_taken v_counted) (va_runV (As := [.int (-2 : Int32)]) (rest := []) ⟨hx, hb, hml, hown, hts⟩ (c9_refuses l D cB cI cZ cO h H.size (-2 : Int32) v_all v_past v_states v_refused v_far v_row v_stepAt v_depth v_tries v_values v_wrong v_isEnd v_found v_reached v_stepIn v_laid v_firstRow v_text v_textLong v_spot v_taken v_counted q3.1 q3.2 hq3) (cwV 1 hts gX9_step_X9_refuses rfl rfl rfl (by decide +kernel) ⟨Nat.le_of_ble_eq_true rfl, Nat.le_of_ble_eq_true rfl⟩) ⟨kb_blind, va_recv hK hPc (ci := 6) (q0 := 0) rfl rfl, kb_pre hPc hDc hK hN⟩ rfl rfl hl.1 rfl (lv_room (Nat.le_of_ble_eq_true rfl)) dX9_step_20 ⟨Nat.le_refl _, Nat.le_refl _⟩) hP hD hS hA [0, 1, 2, 3, 4, 5, 6, 7, 8, 9, 10, 11, 12, 13, 14, 15, 16] [] rfl rfl rfl rfl rfl (fun H locs hn4 hP hD hS => ?_)
    cases hf
    exact hend _ _ _ _ rfl hP hS dX9_step_23
  rw [f9_step] at hf
  refine lv_iload_n hx hb dX9_step_0 rfl (lv_at hl 1 rfl) ?_
  have hPc : va_P D vwCl ([]) H := hP.sub [] rfl
  have hDc : va_D A ([]) := hD.sub [] (by decide) rfl
  refine kd_iR (va_runS (As := [.int x1]) (rest := []) ⟨hx, hb, hml, hown, hts⟩ (c9_isThread l D cB cI cZ cO h H.size x1 (f9_isThread x1) rfl) (va_cwS 1 hts gX9_step_X9_isThread rfl rfl rfl (by decide +kernel) ⟨Nat.le_of_ble_eq_true rfl, Nat.le_of_ble_eq_true rfl⟩) ⟨kb_blind, kb_pre hPc hDc hK hN⟩ rfl rfl hl.1 rfl (lv_room (Nat.le_of_ble_eq_true rfl)) dX9_step_1 ⟨Nat.le_refl _, Nat.le_refl _⟩) hP hD hS hA [] rfl (fun H locs hn5 hP hS => ?_)
  refine lv_if_eq (tgt := 17) hx hb dX9_step_4 (by decide) (fun c6 => ?_) (fun c6 => ?_)
  · rw [if_pos c6] at hf
    exact J17 v_all v_past v_states v_refused _ _ _ hf hP hD hS (lv_sub hl [0] rfl)
  · rw [if_neg c6] at hf
    refine lv_iload_n hx hb dX9_step_7 rfl (lv_at hl 2 rfl) ?_
    refine lv_iload_n hx hb dX9_step_8 rfl (lv_at hl 3 rfl) ?_
    refine lv_iload hx hb dX9_step_9 (lv_at hl 4 rfl) ?_
    have hPc : va_P D vwCl ([]) H := hP.sub [] rfl
    have hDc : va_D A ([]) := hD.sub [] (by decide) rfl
    refine kd_iR (va_runS (As := [.int x2, .int x3, .int x4]) (rest := []) ⟨hx, hb, hml, hown, hts⟩ (c9_isTold l D cB cI cZ cO h H.size x2 x3 x4 (f9_isTold x2 x3 x4) rfl) (va_cwS 3 hts gX9_step_X9_isTold rfl rfl rfl (by decide +kernel) ⟨Nat.le_of_ble_eq_true rfl, Nat.le_of_ble_eq_true rfl⟩) ⟨kb_blind, kb_pre hPc hDc hK hN⟩ rfl rfl hl.1 rfl (lv_room (Nat.le_of_ble_eq_true rfl)) dX9_step_11 ⟨Nat.le_refl _, Nat.le_refl _⟩) hP hD hS hA [] rfl (fun H locs hn7 hP hS => ?_)
    refine lv_if_ne (tgt := 24) hx hb dX9_step_14 (by decide) (fun c8 => ?_) (fun c8 => ?_)
    · rw [if_neg c8] at hf
      refine lv_aload_n hx hb dX9_step_24 rfl (lv_at hl 0 rfl) ?_
      refine lv_iload_n hx hb dX9_step_25 rfl (lv_at hl 1 rfl) ?_
      refine kb_bind hf (fun q9 hq9 hf => ?_)
      have hPc : va_P D vwCl (wdM cI cZ h v_all v_past v_states v_refused v_far v_row v_stepAt v_depth v_tries v_values v_wrong v_isEnd v_found v_reached v_stepIn v_laid v_firstRow v_text v_textLong v_spot v_taken v_counted) H := hP.sub [0, 1, 2, 3, 4, 5, 6, 7, 8, 9, 10, 11, 12, 13, 14, 15, 16] rfl
      have hDc : va_D A (wdM cI cZ h v_all v_past v_states v_refused v_far v_row v_stepAt v_depth v_tries v_values v_wrong v_isEnd v_found v_reached v_stepIn v_laid v_firstRow v_text v_textLong v_spot v_taken v_counted) := hD.sub [0, 1, 2, 3, 4, 5, 6, 7, 8, 9, 10, 11, 12, 13, 14, 15, 16] (by decide) rfl
      refine kd_iR (va_runV (As := [.int x1]) (rest := []) ⟨hx, hb, hml, hown, hts⟩ (c9_many l D cB cI cZ cO h H.size x1 v_all v_past v_states v_refused v_far v_row v_stepAt v_depth v_tries v_values v_wrong v_isEnd v_found v_reached v_stepIn v_laid v_firstRow v_text v_textLong v_spot v_taken v_counted q9 hq9) (cwV 1 hts gX9_step_X9_many rfl rfl rfl (by decide +kernel) ⟨Nat.le_of_ble_eq_true rfl, Nat.le_of_ble_eq_true rfl⟩) ⟨kb_blind, va_recv hK hPc (ci := 6) (q0 := 0) rfl rfl, kb_pre hPc hDc hK hN⟩ rfl rfl hl.1 rfl (lv_room (Nat.le_of_ble_eq_true rfl)) dX9_step_26 ⟨Nat.le_refl _, Nat.le_refl _⟩) hP hD hS hA [0, 1, 2, 3, 4, 5, 6, 7, 8, 9, 10, 11, 12, 13, 14, 15, 16] rfl (fun H locs hn10 hP hS => ?_)
      refine lv_iconst (v := 4) hx hb dX9_step_29 (by decide) ?_
      refine lv_icmp_ne (tgt := 40) hx hb dX9_step_30 (by decide) (fun c11 => ?_) (fun c11 => ?_)
      · rw [if_neg c11] at hf
        refine lv_aload_n hx hb dX9_step_40 rfl (lv_at hl 0 rfl) ?_
        refine kb_bind hf (fun q12 hq12 hf => ?_)
        have hPc : va_P D vwCl (wdM cI cZ h v_all v_past v_states v_refused v_far v_row v_stepAt v_depth v_tries v_values v_wrong v_isEnd v_found v_reached v_stepIn v_laid v_firstRow v_text v_textLong v_spot v_taken v_counted) H := hP.sub [0, 1, 2, 3, 4, 5, 6, 7, 8, 9, 10, 11, 12, 13, 14, 15, 16] rfl
        have hDc : va_D A (wdM cI cZ h v_all v_past v_states v_refused v_far v_row v_stepAt v_depth v_tries v_values v_wrong v_isEnd v_found v_reached v_stepIn v_laid v_firstRow v_text v_textLong v_spot v_taken v_counted) := hD.sub [0, 1, 2, 3, 4, 5, 6, 7, 8, 9, 10, 11, 12, 13, 14, 15, 16] (by decide) rfl
        refine kd_vW (ws' := wdM cI cZ h v_all q12.1 q12.2 v_refused v_far v_row v_stepAt v_depth v_tries v_values v_wrong v_isEnd v_found v_reached v_stepIn v_laid v_firstRow v_text v_textLong v_spot v_taken v_counted) (va_runV (As := []) (rest := []) ⟨hx, hb, hml, hown, hts⟩ (c9_keep l D cB cI cZ cO h H.size v_all v_past v_states v_refused v_far v_row v_stepAt v_depth v_tries v_values v_wrong v_isEnd v_found v_reached v_stepIn v_laid v_firstRow v_text v_textLong v_spot v_taken v_counted q12.1 q12.2 hq12) (cwV 0 hts gX9_step_X9_keep rfl rfl rfl (by decide +kernel) ⟨Nat.le_of_ble_eq_true rfl, Nat.le_of_ble_eq_true rfl⟩) ⟨kb_blind, va_recv hK hPc (ci := 6) (q0 := 0) rfl rfl, kb_pre hPc hDc hK hN⟩ rfl rfl hl.1 rfl (lv_room (Nat.le_of_ble_eq_true rfl)) dX9_step_41 ⟨Nat.le_refl _, Nat.le_refl _⟩) hP hD hS hA [0, 1, 2, 3, 4, 5, 6, 7, 8, 9, 10, 11, 12, 13, 14, 15, 16] [] rfl rfl rfl rfl rfl (fun H locs hP hD hS => ?_)
        refine lv_aload_n hx hb dX9_step_44 rfl (lv_at hl 0 rfl) ?_
        refine lv_iload_n hx hb dX9_step_45 rfl (lv_at hl 1 rfl) ?_
        refine lv_iload_n hx hb dX9_step_46 rfl (lv_at hl 2 rfl) ?_
        refine lv_iload_n hx hb dX9_step_47 rfl (lv_at hl 3 rfl) ?_
        refine lv_iload hx hb dX9_step_48 (lv_at hl 4 rfl) ?_
        refine kb_bind hf (fun q13 hq13 hf => ?_)
        have hPc : va_P D vwCl (wdM cI cZ h v_all q12.1 q12.2 v_refused v_far v_row v_stepAt v_depth v_tries v_values v_wrong v_isEnd v_found v_reached v_stepIn v_laid v_firstRow v_text v_textLong v_spot v_taken v_counted) H := hP.sub [0, 1, 2, 3, 4, 5, 6, 7, 8, 9, 10, 11, 12, 13, 14, 15, 16] rfl
        have hDc : va_D A (wdM cI cZ h v_all q12.1 q12.2 v_refused v_far v_row v_stepAt v_depth v_tries v_values v_wrong v_isEnd v_found v_reached v_stepIn v_laid v_firstRow v_text v_textLong v_spot v_taken v_counted) := hD.sub [0, 1, 2, 3, 4, 5, 6, 7, 8, 9, 10, 11, 12, 13, 14, 15, 16] (by decide) rfl
        refine kd_vW (ws' := wdM cI cZ h q13 q12.1 q12.2 v_refused v_far v_row v_stepAt v_depth v_tries v_values v_wrong v_isEnd v_found v_reached v_stepIn v_laid v_firstRow v_text v_textLong v_spot v_taken v_counted) (va_runV (As := [.int x1, .int x2, .int x3, .int x4]) (rest := []) ⟨hx, hb, hml, hown, hts⟩ (c9_lays l D cB cI cZ cO h H.size x1 x2 x3 x4 v_all q12.1 q12.2 v_refused v_far v_row v_stepAt v_depth v_tries v_values v_wrong v_isEnd v_found v_reached v_stepIn v_laid v_firstRow v_text v_textLong v_spot v_taken v_counted q13 hq13) (cwV 4 hts gX9_step_X9_lays rfl rfl rfl (by decide +kernel) ⟨Nat.le_of_ble_eq_true rfl, Nat.le_of_ble_eq_true rfl⟩) ⟨kb_blind, va_recv hK hPc (ci := 6) (q0 := 0) rfl rfl, kb_pre hPc hDc hK hN⟩ rfl rfl hl.1 rfl (lv_room (Nat.le_of_ble_eq_true rfl)) dX9_step_50 ⟨Nat.le_refl _, Nat.le_refl _⟩) hP hD hS hA [0, 1, 2, 3, 4, 5, 6, 7, 8, 9, 10, 11, 12, 13, 14, 15, 16] [] rfl rfl rfl rfl rfl (fun H locs hP hD hS => ?_)
        refine lv_aload_n hx hb dX9_step_53 rfl (lv_at hl 0 rfl) ?_
        refine lv_iload_n hx hb dX9_step_54 rfl (lv_at hl 1 rfl) ?_
        refine kb_bind hf (fun q14 hq14 hf => ?_)
        have hPc : va_P D vwCl (wdM cI cZ h q13 q12.1 q12.2 v_refused v_far v_row v_stepAt v_depth v_tries v_values v_wrong v_isEnd v_found v_reached v_stepIn v_laid v_firstRow v_text v_textLong v_spot v_taken v_counted) H := hP.sub [0, 1, 2, 3, 4, 5, 6, 7, 8, 9, 10, 11, 12, 13, 14, 15, 16] rfl
        have hDc : va_D A (wdM cI cZ h q13 q12.1 q12.2 v_refused v_far v_row v_stepAt v_depth v_tries v_values v_wrong v_isEnd v_found v_reached v_stepIn v_laid v_firstRow v_text v_textLong v_spot v_taken v_counted) := hD.sub [0, 1, 2, 3, 4, 5, 6, 7, 8, 9, 10, 11, 12, 13, 14, 15, 16] (by decide) rfl
        refine kd_iR (va_runV (As := [.int x1]) (rest := []) ⟨hx, hb, hml, hown, hts⟩ (c9_many l D cB cI cZ cO h H.size x1 q13 q12.1 q12.2 v_refused v_far v_row v_stepAt v_depth v_tries v_values v_wrong v_isEnd v_found v_reached v_stepIn v_laid v_firstRow v_text v_textLong v_spot v_taken v_counted q14 hq14) (cwV 1 hts gX9_step_X9_many rfl rfl rfl (by decide +kernel) ⟨Nat.le_of_ble_eq_true rfl, Nat.le_of_ble_eq_true rfl⟩) ⟨kb_blind, va_recv hK hPc (ci := 6) (q0 := 0) rfl rfl, kb_pre hPc hDc hK hN⟩ rfl rfl hl.1 rfl (lv_room (Nat.le_of_ble_eq_true rfl)) dX9_step_55 ⟨Nat.le_refl _, Nat.le_refl _⟩) hP hD hS hA [0, 1, 2, 3, 4, 5, 6, 7, 8, 9, 10, 11, 12, 13, 14, 15, 16] rfl (fun H locs hn15 hP hS => ?_)
        refine lv_iconst (v := 1) hx hb dX9_step_58 (by decide) ?_
        refine lv_isub hx hb dX9_step_59 ?_
        cases hf
        exact hend _ _ _ _ rfl hP hS dX9_step_60
      · rw [if_pos c11] at hf
        refine lv_aload_n hx hb dX9_step_33 rfl (lv_at hl 0 rfl) ?_
        refine lv_bipush (v := (-4)) hx hb dX9_step_34 (by decide) ?_
        refine kb_bind hf (fun q16 hq16 hf => ?_)
        have hPc : va_P D vwCl (wdM cI cZ h v_all v_past v_states v_refused v_far v_row v_stepAt v_depth v_tries v_values v_wrong v_isEnd v_found v_reached v_stepIn v_laid v_firstRow v_text v_textLong v_spot v_taken v_counted) H := hP.sub [0, 1, 2, 3, 4, 5, 6, 7, 8, 9, 10, 11, 12, 13, 14, 15, 16] rfl
        have hDc : va_D A (wdM cI cZ h v_all v_past v_states v_refused v_far v_row v_stepAt v_depth v_tries v_values v_wrong v_isEnd v_found v_reached v_stepIn v_laid v_firstRow v_text v_textLong v_spot v_taken v_counted) := hD.sub [0, 1, 2, 3, 4, 5, 6, 7, 8, 9, 10, 11, 12, 13, 14, 15, 16] (by decide) rfl
        refine kd_iW (ws' := wdM cI cZ h v_all v_past v_states q16.2 v_far v_row v_stepAt v_depth v_tries v_values v_wrong v_isEnd v_found v_reached v_stepIn v_laid v_firstRow v_text v_textLong v_spot v_taken v_counted) (va_runV (As := [.int (-4 : Int32)]) (rest := []) ⟨hx, hb, hml, hown, hts⟩ (c9_refuses l D cB cI cZ cO h H.size (-4 : Int32) v_all v_past v_states v_refused v_far v_row v_stepAt v_depth v_tries v_values v_wrong v_isEnd v_found v_reached v_stepIn v_laid v_firstRow v_text v_textLong v_spot v_taken v_counted q16.1 q16.2 hq16) (cwV 1 hts gX9_step_X9_refuses rfl rfl rfl (by decide +kernel) ⟨Nat.le_of_ble_eq_true rfl, Nat.le_of_ble_eq_true rfl⟩) ⟨kb_blind, va_recv hK hPc (ci := 6) (q0 := 0) rfl rfl, kb_pre hPc hDc hK hN⟩ rfl rfl hl.1 rfl (lv_room (Nat.le_of_ble_eq_true rfl)) dX9_step_36 ⟨Nat.le_refl _, Nat.le_refl _⟩) hP hD hS hA [0, 1, 2, 3, 4, 5, 6, 7, 8, 9, 10, 11, 12, 13, 14, 15, 16] [] rfl rfl rfl rfl rfl (fun H locs hn17 hP hD hS => ?_)
        cases hf
        exact hend _ _ _ _ rfl hP hS dX9_step_39
    · rw [if_pos c8] at hf
      exact J17 v_all v_past v_states v_refused _ _ _ hf hP hD hS (lv_sub hl [0] rfl)

set_option maxHeartbeats 4000000 in
set_option maxRecDepth 100000 in
theorem c9_drops (l : Launch) (D : va_G) (cB cI cZ cO : ClassId) (h : Nat → Nat) (sz : Nat) (x1 : Int32) (v_all : Nat → Int32) (v_past : Nat → Int32) (v_states : Int32) (v_refused : Nat → Int32) (v_far : Nat → Int32) (v_row : Nat → Int32) (v_stepAt : Nat → Int32) (v_depth : Int32) (v_tries : Nat → Int32) (v_values : Nat → Int32) (v_wrong : Int32) (v_isEnd : Nat → Int32) (v_found : Nat → Int32) (v_reached : Nat → Int32) (v_stepIn : Nat → Int32) (v_laid : Nat → Int32) (v_firstRow : Nat → Int32) (v_text : Nat → Int32) (v_textLong : Int32) (v_spot : Int32) (v_taken : Int32) (v_counted : Nat → Int32) (r0 : Int32) (v_all' : Nat → Int32) (v_past' : Nat → Int32) (v_states' : Int32) (v_refused' : Nat → Int32) (hf : f9_drops v_all v_past v_states v_refused x1 = some (r0, v_all', v_past', v_states', v_refused')) : Met l yX9_drops wsX9_drops rm9_drops (va_Pc [.ref (h 0), .int x1] (kb_B D (ka_tys cB cI cZ cO) sz (wdM cI cZ h v_all v_past v_states v_refused v_far v_row v_stepAt v_depth v_tries v_values v_wrong v_isEnd v_found v_reached v_stepIn v_laid v_firstRow v_text v_textLong v_spot v_taken v_counted))) (va_Qi (kb_post .int r0) (fun _ t => va_P D vwCl (wdM cI cZ h (v_all') (v_past') (v_states') (v_refused') v_far v_row v_stepAt v_depth v_tries v_values v_wrong v_isEnd v_found v_reached v_stepIn v_laid v_firstRow v_text v_textLong v_spot v_taken v_counted) t.heap) (va_A (wdM cI cZ h v_all v_past v_states v_refused v_far v_row v_stepAt v_depth v_tries v_values v_wrong v_isEnd v_found v_reached v_stepIn v_laid v_firstRow v_text v_textLong v_spot v_taken v_counted) sz)) 0 0 (va_A (wdM cI cZ h v_all v_past v_states v_refused v_far v_row v_stepAt v_depth v_tries v_values v_wrong v_isEnd v_found v_reached v_stepIn v_laid v_firstRow v_text v_textLong v_spot v_taken v_counted) sz) := by
  refine kb_metZ (cc := cX9_drops) (maxL := 2) (ty := .int) (by decide) rfl (Nat.le_of_ble_eq_true rfl) ?_
  intro p e s m args below meth c Q A ls H hx hb hml hown hts hK hN hP hD hS hA hl hend
  have hown : s.vm.findClass RX9 = some m.cls := hown
  have hl : lv_has ls 2 [(0, .ref (h 0)), (1, .int x1)] := hl
  have hin9 : ∀ w ∈ u_ws RX9 TX9 22, w ∈ wsX9_drops := by decide +kernel
  rw [f9_drops] at hf
  refine lv_iload_n hx hb dX9_drops_0 rfl (lv_at hl 1 rfl) ?_
  have hPc : va_P D vwCl ([]) H := hP.sub [] rfl
  have hDc : va_D A ([]) := hD.sub [] (by decide) rfl
  refine kd_iR (va_runS (As := [.int x1]) (rest := []) ⟨hx, hb, hml, hown, hts⟩ (c9_isThread l D cB cI cZ cO h H.size x1 (f9_isThread x1) rfl) (va_cwS 1 hts gX9_drops_X9_isThread rfl rfl rfl (by decide +kernel) ⟨Nat.le_of_ble_eq_true rfl, Nat.le_of_ble_eq_true rfl⟩) ⟨kb_blind, kb_pre hPc hDc hK hN⟩ rfl rfl hl.1 rfl (lv_room (Nat.le_of_ble_eq_true rfl)) dX9_drops_1 ⟨Nat.le_refl _, Nat.le_refl _⟩) hP hD hS hA [] rfl (fun H locs hn1 hP hS => ?_)
  refine lv_if_ne (tgt := 14) hx hb dX9_drops_4 (by decide) (fun c2 => ?_) (fun c2 => ?_)
  · rw [if_neg c2] at hf
    refine lv_aload_n hx hb dX9_drops_14 rfl (lv_at hl 0 rfl) ?_
    refine lv_iload_n hx hb dX9_drops_15 rfl (lv_at hl 1 rfl) ?_
    refine kb_bind hf (fun q3 hq3 hf => ?_)
    have hPc : va_P D vwCl (wdM cI cZ h v_all v_past v_states v_refused v_far v_row v_stepAt v_depth v_tries v_values v_wrong v_isEnd v_found v_reached v_stepIn v_laid v_firstRow v_text v_textLong v_spot v_taken v_counted) H := hP.sub [0, 1, 2, 3, 4, 5, 6, 7, 8, 9, 10, 11, 12, 13, 14, 15, 16] rfl
    have hDc : va_D A (wdM cI cZ h v_all v_past v_states v_refused v_far v_row v_stepAt v_depth v_tries v_values v_wrong v_isEnd v_found v_reached v_stepIn v_laid v_firstRow v_text v_textLong v_spot v_taken v_counted) := hD.sub [0, 1, 2, 3, 4, 5, 6, 7, 8, 9, 10, 11, 12, 13, 14, 15, 16] (by decide) rfl
    refine kd_iR (va_runV (As := [.int x1]) (rest := []) ⟨hx, hb, hml, hown, hts⟩ (c9_many l D cB cI cZ cO h H.size x1 v_all v_past v_states v_refused v_far v_row v_stepAt v_depth v_tries v_values v_wrong v_isEnd v_found v_reached v_stepIn v_laid v_firstRow v_text v_textLong v_spot v_taken v_counted q3 hq3) (cwV 1 hts gX9_drops_X9_many rfl rfl rfl (by decide +kernel) ⟨Nat.le_of_ble_eq_true rfl, Nat.le_of_ble_eq_true rfl⟩) ⟨kb_blind, va_recv hK hPc (ci := 6) (q0 := 0) rfl rfl, kb_pre hPc hDc hK hN⟩ rfl rfl hl.1 rfl (lv_room (Nat.le_of_ble_eq_true rfl)) dX9_drops_16 ⟨Nat.le_refl _, Nat.le_refl _⟩) hP hD hS hA [0, 1, 2, 3, 4, 5, 6, 7, 8, 9, 10, 11, 12, 13, 14, 15, 16] rfl (fun H locs hn4 hP hS => ?_)
    refine lv_if_ne (tgt := 29) hx hb dX9_drops_19 (by decide) (fun c5 => ?_) (fun c5 => ?_)
    · rw [if_neg c5] at hf
      refine lv_aload_n hx hb dX9_drops_29 rfl (lv_at hl 0 rfl) ?_
      refine kb_bind hf (fun q6 hq6 hf => ?_)
      have hPc : va_P D vwCl (wdM cI cZ h v_all v_past v_states v_refused v_far v_row v_stepAt v_depth v_tries v_values v_wrong v_isEnd v_found v_reached v_stepIn v_laid v_firstRow v_text v_textLong v_spot v_taken v_counted) H := hP.sub [0, 1, 2, 3, 4, 5, 6, 7, 8, 9, 10, 11, 12, 13, 14, 15, 16] rfl
      have hDc : va_D A (wdM cI cZ h v_all v_past v_states v_refused v_far v_row v_stepAt v_depth v_tries v_values v_wrong v_isEnd v_found v_reached v_stepIn v_laid v_firstRow v_text v_textLong v_spot v_taken v_counted) := hD.sub [0, 1, 2, 3, 4, 5, 6, 7, 8, 9, 10, 11, 12, 13, 14, 15, 16] (by decide) rfl
      refine kd_vW (ws' := wdM cI cZ h v_all q6.1 q6.2 v_refused v_far v_row v_stepAt v_depth v_tries v_values v_wrong v_isEnd v_found v_reached v_stepIn v_laid v_firstRow v_text v_textLong v_spot v_taken v_counted) (va_runV (As := []) (rest := []) ⟨hx, hb, hml, hown, hts⟩ (c9_keep l D cB cI cZ cO h H.size v_all v_past v_states v_refused v_far v_row v_stepAt v_depth v_tries v_values v_wrong v_isEnd v_found v_reached v_stepIn v_laid v_firstRow v_text v_textLong v_spot v_taken v_counted q6.1 q6.2 hq6) (cwV 0 hts gX9_drops_X9_keep rfl rfl rfl (by decide +kernel) ⟨Nat.le_of_ble_eq_true rfl, Nat.le_of_ble_eq_true rfl⟩) ⟨kb_blind, va_recv hK hPc (ci := 6) (q0 := 0) rfl rfl, kb_pre hPc hDc hK hN⟩ rfl rfl hl.1 rfl (lv_room (Nat.le_of_ble_eq_true rfl)) dX9_drops_30 ⟨Nat.le_refl _, Nat.le_refl _⟩) hP hD hS hA [0, 1, 2, 3, 4, 5, 6, 7, 8, 9, 10, 11, 12, 13, 14, 15, 16] [] rfl rfl rfl rfl rfl (fun H locs hP hD hS => ?_)
      refine lv_aload_n hx hb dX9_drops_33 rfl (lv_at hl 0 rfl) ?_
      refine va_get (D := D) (cl := vwCl) (ci := 6) (v := .ref (h 1)) (C := RX9) (T := TX9) (N := 22) hx hb hts hin9 hown hK hP 0 rfl rfl 0 (by decide) (hts (.fieldLink RX9 7 "StepOrdersModel" "all" "[I") (by decide +kernel)) (fun _ h9 => h9) rfl dX9_drops_34 ?_
      refine lv_bipush (v := 36) hx hb dX9_drops_37 (by decide) ?_
      refine lv_iload_n hx hb dX9_drops_39 rfl (lv_at hl 1 rfl) ?_
      refine lv_iadd hx hb dX9_drops_40 ?_
      refine lv_dup2_11 hx hb dX9_drops_41 rfl rfl ?_
      refine kb_bind hf (fun v7 hv7 hf => ?_)
      refine ka_iald (D := D) (cl := vwCl) hx hb hK hP 1 1 (f := v_all) rfl rfl (ard_in hv7) (ard_v hv7) dX9_drops_42 ?_
      refine lv_iconst (v := 1) hx hb dX9_drops_43 (by decide) ?_
      refine lv_isub hx hb dX9_drops_44 ?_
      refine kb_bind hf (fun v8 hv8 hf => ?_)
      refine ka_iast (D := D) (cl := vwCl) hx hb hK hP hD hS 1 1 (f := v_all) (g := v8) rfl rfl (awr_in hv8) (awr_v hv8) dX9_drops_45 (fun H locs hP hD hS => ?_)
      have hP : va_P D vwCl (wdM cI cZ h v8 q6.1 q6.2 v_refused v_far v_row v_stepAt v_depth v_tries v_values v_wrong v_isEnd v_found v_reached v_stepIn v_laid v_firstRow v_text v_textLong v_spot v_taken v_counted) H := hP
      have hD : va_D A (wdM cI cZ h v8 q6.1 q6.2 v_refused v_far v_row v_stepAt v_depth v_tries v_values v_wrong v_isEnd v_found v_reached v_stepIn v_laid v_firstRow v_text v_textLong v_spot v_taken v_counted) := hD
      refine lv_aload_n hx hb dX9_drops_46 rfl (lv_at hl 0 rfl) ?_
      refine va_get (D := D) (cl := vwCl) (ci := 6) (v := .ref (h 1)) (C := RX9) (T := TX9) (N := 22) hx hb hts hin9 hown hK hP 0 rfl rfl 0 (by decide) (hts (.fieldLink RX9 7 "StepOrdersModel" "all" "[I") (by decide +kernel)) (fun _ h9 => h9) rfl dX9_drops_47 ?_
      refine lv_bipush (v := 43) hx hb dX9_drops_50 (by decide) ?_
      refine lv_iconst (v := 0) hx hb dX9_drops_52 (by decide) ?_
      refine ka_iast (D := D) (cl := vwCl) hx hb hK hP hD hS 1 1 (f := v8) (g := (upd v8 43 (0 : Int32))) rfl rfl (show ¬ (_ ∨ _) from by decide) rfl dX9_drops_53 (fun H locs hP hD hS => ?_)
      have hP : va_P D vwCl (wdM cI cZ h (upd v8 43 (0 : Int32)) q6.1 q6.2 v_refused v_far v_row v_stepAt v_depth v_tries v_values v_wrong v_isEnd v_found v_reached v_stepIn v_laid v_firstRow v_text v_textLong v_spot v_taken v_counted) H := hP
      have hD : va_D A (wdM cI cZ h (upd v8 43 (0 : Int32)) q6.1 q6.2 v_refused v_far v_row v_stepAt v_depth v_tries v_values v_wrong v_isEnd v_found v_reached v_stepIn v_laid v_firstRow v_text v_textLong v_spot v_taken v_counted) := hD
      refine lv_aload_n hx hb dX9_drops_54 rfl (lv_at hl 0 rfl) ?_
      refine lv_iload_n hx hb dX9_drops_55 rfl (lv_at hl 1 rfl) ?_
      refine kb_bind hf (fun q9 hq9 hf => ?_)
      have hPc : va_P D vwCl (wdM cI cZ h (upd v8 43 (0 : Int32)) q6.1 q6.2 v_refused v_far v_row v_stepAt v_depth v_tries v_values v_wrong v_isEnd v_found v_reached v_stepIn v_laid v_firstRow v_text v_textLong v_spot v_taken v_counted) H := hP.sub [0, 1, 2, 3, 4, 5, 6, 7, 8, 9, 10, 11, 12, 13, 14, 15, 16] rfl
      have hDc : va_D A (wdM cI cZ h (upd v8 43 (0 : Int32)) q6.1 q6.2 v_refused v_far v_row v_stepAt v_depth v_tries v_values v_wrong v_isEnd v_found v_reached v_stepIn v_laid v_firstRow v_text v_textLong v_spot v_taken v_counted) := hD.sub [0, 1, 2, 3, 4, 5, 6, 7, 8, 9, 10, 11, 12, 13, 14, 15, 16] (by decide) rfl
      refine kd_iR (va_runV (As := [.int x1]) (rest := []) ⟨hx, hb, hml, hown, hts⟩ (c9_many l D cB cI cZ cO h H.size x1 (upd v8 43 (0 : Int32)) q6.1 q6.2 v_refused v_far v_row v_stepAt v_depth v_tries v_values v_wrong v_isEnd v_found v_reached v_stepIn v_laid v_firstRow v_text v_textLong v_spot v_taken v_counted q9 hq9) (cwV 1 hts gX9_drops_X9_many rfl rfl rfl (by decide +kernel) ⟨Nat.le_of_ble_eq_true rfl, Nat.le_of_ble_eq_true rfl⟩) ⟨kb_blind, va_recv hK hPc (ci := 6) (q0 := 0) rfl rfl, kb_pre hPc hDc hK hN⟩ rfl rfl hl.1 rfl (lv_room (Nat.le_of_ble_eq_true rfl)) dX9_drops_56 ⟨Nat.le_refl _, Nat.le_refl _⟩) hP hD hS hA [0, 1, 2, 3, 4, 5, 6, 7, 8, 9, 10, 11, 12, 13, 14, 15, 16] rfl (fun H locs hn10 hP hS => ?_)
      cases hf
      exact hend _ _ _ _ rfl hP hS dX9_drops_59
    · rw [if_pos c5] at hf
      refine lv_aload_n hx hb dX9_drops_22 rfl (lv_at hl 0 rfl) ?_
      refine lv_bipush (v := (-3)) hx hb dX9_drops_23 (by decide) ?_
      refine kb_bind hf (fun q11 hq11 hf => ?_)
      have hPc : va_P D vwCl (wdM cI cZ h v_all v_past v_states v_refused v_far v_row v_stepAt v_depth v_tries v_values v_wrong v_isEnd v_found v_reached v_stepIn v_laid v_firstRow v_text v_textLong v_spot v_taken v_counted) H := hP.sub [0, 1, 2, 3, 4, 5, 6, 7, 8, 9, 10, 11, 12, 13, 14, 15, 16] rfl
      have hDc : va_D A (wdM cI cZ h v_all v_past v_states v_refused v_far v_row v_stepAt v_depth v_tries v_values v_wrong v_isEnd v_found v_reached v_stepIn v_laid v_firstRow v_text v_textLong v_spot v_taken v_counted) := hD.sub [0, 1, 2, 3, 4, 5, 6, 7, 8, 9, 10, 11, 12, 13, 14, 15, 16] (by decide) rfl
      refine kd_iW (ws' := wdM cI cZ h v_all v_past v_states q11.2 v_far v_row v_stepAt v_depth v_tries v_values v_wrong v_isEnd v_found v_reached v_stepIn v_laid v_firstRow v_text v_textLong v_spot v_taken v_counted) (va_runV (As := [.int (-3 : Int32)]) (rest := []) ⟨hx, hb, hml, hown, hts⟩ (c9_refuses l D cB cI cZ cO h H.size (-3 : Int32) v_all v_past v_states v_refused v_far v_row v_stepAt v_depth v_tries v_values v_wrong v_isEnd v_found v_reached v_stepIn v_laid v_firstRow v_text v_textLong v_spot v_taken v_counted q11.1 q11.2 hq11) (cwV 1 hts gX9_drops_X9_refuses rfl rfl rfl (by decide +kernel) ⟨Nat.le_of_ble_eq_true rfl, Nat.le_of_ble_eq_true rfl⟩) ⟨kb_blind, va_recv hK hPc (ci := 6) (q0 := 0) rfl rfl, kb_pre hPc hDc hK hN⟩ rfl rfl hl.1 rfl (lv_room (Nat.le_of_ble_eq_true rfl)) dX9_drops_25 ⟨Nat.le_refl _, Nat.le_refl _⟩) hP hD hS hA [0, 1, 2, 3, 4, 5, 6, 7, 8, 9, 10, 11, 12, 13, 14, 15, 16] [] rfl rfl rfl rfl rfl (fun H locs hn12 hP hD hS => ?_)
      cases hf
      exact hend _ _ _ _ rfl hP hS dX9_drops_28
  · rw [if_pos c2] at hf
    refine lv_aload_n hx hb dX9_drops_7 rfl (lv_at hl 0 rfl) ?_
    refine lv_bipush (v := (-2)) hx hb dX9_drops_8 (by decide) ?_
    refine kb_bind hf (fun q13 hq13 hf => ?_)
    have hPc : va_P D vwCl (wdM cI cZ h v_all v_past v_states v_refused v_far v_row v_stepAt v_depth v_tries v_values v_wrong v_isEnd v_found v_reached v_stepIn v_laid v_firstRow v_text v_textLong v_spot v_taken v_counted) H := hP.sub [0, 1, 2, 3, 4, 5, 6, 7, 8, 9, 10, 11, 12, 13, 14, 15, 16] rfl
    have hDc : va_D A (wdM cI cZ h v_all v_past v_states v_refused v_far v_row v_stepAt v_depth v_tries v_values v_wrong v_isEnd v_found v_reached v_stepIn v_laid v_firstRow v_text v_textLong v_spot v_taken v_counted) := hD.sub [0, 1, 2, 3, 4, 5, 6, 7, 8, 9, 10, 11, 12, 13, 14, 15, 16] (by decide) rfl
    refine kd_iW (ws' := wdM cI cZ h v_all v_past v_states q13.2 v_far v_row v_stepAt v_depth v_tries v_values v_wrong v_isEnd v_found v_reached v_stepIn v_laid v_firstRow v_text v_textLong v_spot v_taken v_counted) (va_runV (As := [.int (-2 : Int32)]) (rest := []) ⟨hx, hb, hml, hown, hts⟩ (c9_refuses l D cB cI cZ cO h H.size (-2 : Int32) v_all v_past v_states v_refused v_far v_row v_stepAt v_depth v_tries v_values v_wrong v_isEnd v_found v_reached v_stepIn v_laid v_firstRow v_text v_textLong v_spot v_taken v_counted q13.1 q13.2 hq13) (cwV 1 hts gX9_drops_X9_refuses rfl rfl rfl (by decide +kernel) ⟨Nat.le_of_ble_eq_true rfl, Nat.le_of_ble_eq_true rfl⟩) ⟨kb_blind, va_recv hK hPc (ci := 6) (q0 := 0) rfl rfl, kb_pre hPc hDc hK hN⟩ rfl rfl hl.1 rfl (lv_room (Nat.le_of_ble_eq_true rfl)) dX9_drops_10 ⟨Nat.le_refl _, Nat.le_refl _⟩) hP hD hS hA [0, 1, 2, 3, 4, 5, 6, 7, 8, 9, 10, 11, 12, 13, 14, 15, 16] [] rfl rfl rfl rfl rfl (fun H locs hn14 hP hD hS => ?_)
    cases hf
    exact hend _ _ _ _ rfl hP hS dX9_drops_13

set_option maxHeartbeats 4000000 in
set_option maxRecDepth 100000 in
theorem c9_number (l : Launch) (D : va_G) (cB cI cZ cO : ClassId) (h : Nat → Nat) (sz : Nat) (x1 : Int32) (x2 : Int32) (v_all : Nat → Int32) (v_past : Nat → Int32) (v_states : Int32) (v_refused : Nat → Int32) (v_far : Nat → Int32) (v_row : Nat → Int32) (v_stepAt : Nat → Int32) (v_depth : Int32) (v_tries : Nat → Int32) (v_values : Nat → Int32) (v_wrong : Int32) (v_isEnd : Nat → Int32) (v_found : Nat → Int32) (v_reached : Nat → Int32) (v_stepIn : Nat → Int32) (v_laid : Nat → Int32) (v_firstRow : Nat → Int32) (v_text : Nat → Int32) (v_textLong : Int32) (v_spot : Int32) (v_taken : Int32) (v_counted : Nat → Int32) (r0 : Int32) (v_all' : Nat → Int32) (v_past' : Nat → Int32) (v_states' : Int32) (v_refused' : Nat → Int32) (hf : f9_number v_all v_past v_states v_refused x1 x2 = some (r0, v_all', v_past', v_states', v_refused')) : Met l yX9_number wsX9_number rm9_number (va_Pc [.ref (h 0), .int x1, .int x2] (kb_B D (ka_tys cB cI cZ cO) sz (wdM cI cZ h v_all v_past v_states v_refused v_far v_row v_stepAt v_depth v_tries v_values v_wrong v_isEnd v_found v_reached v_stepIn v_laid v_firstRow v_text v_textLong v_spot v_taken v_counted))) (va_Qi (kb_post .int r0) (fun _ t => va_P D vwCl (wdM cI cZ h (v_all') (v_past') (v_states') (v_refused') v_far v_row v_stepAt v_depth v_tries v_values v_wrong v_isEnd v_found v_reached v_stepIn v_laid v_firstRow v_text v_textLong v_spot v_taken v_counted) t.heap) (va_A (wdM cI cZ h v_all v_past v_states v_refused v_far v_row v_stepAt v_depth v_tries v_values v_wrong v_isEnd v_found v_reached v_stepIn v_laid v_firstRow v_text v_textLong v_spot v_taken v_counted) sz)) 0 0 (va_A (wdM cI cZ h v_all v_past v_states v_refused v_far v_row v_stepAt v_depth v_tries v_values v_wrong v_isEnd v_found v_reached v_stepIn v_laid v_firstRow v_text v_textLong v_spot v_taken v_counted) sz) := by
  refine kb_metZ (cc := cX9_number) (maxL := 4) (ty := .int) (by decide) rfl (Nat.le_of_ble_eq_true rfl) ?_
  intro p e s m args below meth c Q A ls H hx hb hml hown hts hK hN hP hD hS hA hl hend
  have hown : s.vm.findClass RX9 = some m.cls := hown
  have hl : lv_has ls 4 [(0, .ref (h 0)), (1, .int x1), (2, .int x2)] := hl
  have hin9 : ∀ w ∈ u_ws RX9 TX9 22, w ∈ wsX9_number := by decide +kernel
  have J24 : ∀ (v_all : Nat → Int32) (v_past : Nat → Int32) (v_states : Int32) (v_refused : Nat → Int32) (H : Heap) (locs : List Loc) (ls : Array Slot), f9_number_b24 v_all v_past v_states v_refused = some (r0, v_all', v_past', v_states', v_refused') → va_P D vwCl (wdM cI cZ h v_all v_past v_states v_refused v_far v_row v_stepAt v_depth v_tries v_values v_wrong v_isEnd v_found v_reached v_stepIn v_laid v_firstRow v_text v_textLong v_spot v_taken v_counted) H → va_D A (wdM cI cZ h v_all v_past v_states v_refused v_far v_row v_stepAt v_depth v_tries v_values v_wrong v_isEnd v_found v_reached v_stepIn v_laid v_firstRow v_text v_textLong v_spot v_taken v_counted) → va_S A s.heap H locs → lv_has ls 4 [(0, .ref (h 0))] → W p l e rm9_number s m args below meth c H locs 0 0 Q (F0 m 24 ls []) := by
    intro v_all v_past v_states v_refused H locs ls hf hP hD hS hl
    rw [f9_number_b24] at hf
    refine lv_aload_n hx hb dX9_number_24 rfl (lv_at hl 0 rfl) ?_
    refine lv_bipush (v := (-2)) hx hb dX9_number_25 (by decide) ?_
    refine kb_bind hf (fun q3 hq3 hf => ?_)
    have hPc : va_P D vwCl (wdM cI cZ h v_all v_past v_states v_refused v_far v_row v_stepAt v_depth v_tries v_values v_wrong v_isEnd v_found v_reached v_stepIn v_laid v_firstRow v_text v_textLong v_spot v_taken v_counted) H := hP.sub [0, 1, 2, 3, 4, 5, 6, 7, 8, 9, 10, 11, 12, 13, 14, 15, 16] rfl
    have hDc : va_D A (wdM cI cZ h v_all v_past v_states v_refused v_far v_row v_stepAt v_depth v_tries v_values v_wrong v_isEnd v_found v_reached v_stepIn v_laid v_firstRow v_text v_textLong v_spot v_taken v_counted) := hD.sub [0, 1, 2, 3, 4, 5, 6, 7, 8, 9, 10, 11, 12, 13, 14, 15, 16] (by decide) rfl
    refine kd_iW (ws' := wdM cI cZ h v_all v_past v_states q3.2 v_far v_row v_stepAt v_depth v_tries v_values v_wrong v_isEnd v_found v_reached v_stepIn v_laid v_firstRow v_text v_textLong v_spot v_taken v_counted) (va_runV (As := [.int (-2 : Int32)]) (rest := []) ⟨hx, hb, hml, hown, hts⟩ (c9_refuses l D cB cI cZ cO h H.size (-2 : Int32) v_all v_past v_states v_refused v_far v_row v_stepAt v_depth v_tries v_values v_wrong v_isEnd v_found v_reached v_stepIn v_laid v_firstRow v_text v_textLong v_spot v_taken v_counted q3.1 q3.2 hq3) (cwV 1 hts gX9_number_X9_refuses rfl rfl rfl (by decide +kernel) ⟨Nat.le_of_ble_eq_true rfl, Nat.le_of_ble_eq_true rfl⟩) ⟨kb_blind, va_recv hK hPc (ci := 6) (q0 := 0) rfl rfl, kb_pre hPc hDc hK hN⟩ rfl rfl hl.1 rfl (lv_room (Nat.le_of_ble_eq_true rfl)) dX9_number_27 ⟨Nat.le_refl _, Nat.le_refl _⟩) hP hD hS hA [0, 1, 2, 3, 4, 5, 6, 7, 8, 9, 10, 11, 12, 13, 14, 15, 16] [] rfl rfl rfl rfl rfl (fun H locs hn4 hP hD hS => ?_)
    cases hf
    exact hend _ _ _ _ rfl hP hS dX9_number_30
  rw [f9_number] at hf
  refine lv_iload_n hx hb dX9_number_0 rfl (lv_at hl 1 rfl) ?_
  refine lv_i2l (v := x1.toInt64) hx hb dX9_number_1 rfl ?_
  refine lv_lconst (v := 0) hx hb dX9_number_2 (by decide) ?_
  refine lv_ldc2 (v := 3) hx hb hown (hts (.constantLong RX9 69 (3)) (by decide +kernel)) dX9_number_3 ?_
  have hPc : va_P D vwCl ([]) H := hP.sub [] rfl
  have hDc : va_D A ([]) := hD.sub [] (by decide) rfl
  refine kd_iR (va_runS (As := [.long x1.toInt64, .long (0 : Int64), .long (3 : Int64)]) (rest := []) ⟨hx, hb, hml, hown, hts⟩ (c9_in l D cB cI cZ cO h H.size x1.toInt64 (0 : Int64) (3 : Int64) (f9_in x1.toInt64 (0 : Int64) (3 : Int64)) rfl) (va_cwS 3 hts gX9_number_X9_in rfl rfl rfl (by decide +kernel) ⟨Nat.le_of_ble_eq_true rfl, Nat.le_of_ble_eq_true rfl⟩) ⟨kb_blind, kb_pre hPc hDc hK hN⟩ rfl rfl hl.1 rfl (lv_room (Nat.le_of_ble_eq_true rfl)) dX9_number_6 ⟨Nat.le_refl _, Nat.le_refl _⟩) hP hD hS hA [] rfl (fun H locs hn5 hP hS => ?_)
  refine lv_if_eq (tgt := 24) hx hb dX9_number_9 (by decide) (fun c6 => ?_) (fun c6 => ?_)
  · rw [if_pos c6] at hf
    exact J24 v_all v_past v_states v_refused _ _ _ hf hP hD hS (lv_sub hl [0] rfl)
  · rw [if_neg c6] at hf
    refine lv_iload_n hx hb dX9_number_12 rfl (lv_at hl 2 rfl) ?_
    refine lv_i2l (v := x2.toInt64) hx hb dX9_number_13 rfl ?_
    refine lv_lconst (v := 0) hx hb dX9_number_14 (by decide) ?_
    refine lv_ldc2 (v := 9) hx hb hown (hts (.constantLong RX9 71 (9)) (by decide +kernel)) dX9_number_15 ?_
    have hPc : va_P D vwCl ([]) H := hP.sub [] rfl
    have hDc : va_D A ([]) := hD.sub [] (by decide) rfl
    refine kd_iR (va_runS (As := [.long x2.toInt64, .long (0 : Int64), .long (9 : Int64)]) (rest := []) ⟨hx, hb, hml, hown, hts⟩ (c9_in l D cB cI cZ cO h H.size x2.toInt64 (0 : Int64) (9 : Int64) (f9_in x2.toInt64 (0 : Int64) (9 : Int64)) rfl) (va_cwS 3 hts gX9_number_X9_in rfl rfl rfl (by decide +kernel) ⟨Nat.le_of_ble_eq_true rfl, Nat.le_of_ble_eq_true rfl⟩) ⟨kb_blind, kb_pre hPc hDc hK hN⟩ rfl rfl hl.1 rfl (lv_room (Nat.le_of_ble_eq_true rfl)) dX9_number_18 ⟨Nat.le_refl _, Nat.le_refl _⟩) hP hD hS hA [] rfl (fun H locs hn7 hP hS => ?_)
    refine lv_if_ne (tgt := 31) hx hb dX9_number_21 (by decide) (fun c8 => ?_) (fun c8 => ?_)
    · rw [if_neg c8] at hf
      refine lv_aload_n hx hb dX9_number_31 rfl (lv_at hl 0 rfl) ?_
      refine kb_bind hf (fun q9 hq9 hf => ?_)
      have hPc : va_P D vwCl (wdM cI cZ h v_all v_past v_states v_refused v_far v_row v_stepAt v_depth v_tries v_values v_wrong v_isEnd v_found v_reached v_stepIn v_laid v_firstRow v_text v_textLong v_spot v_taken v_counted) H := hP.sub [0, 1, 2, 3, 4, 5, 6, 7, 8, 9, 10, 11, 12, 13, 14, 15, 16] rfl
      have hDc : va_D A (wdM cI cZ h v_all v_past v_states v_refused v_far v_row v_stepAt v_depth v_tries v_values v_wrong v_isEnd v_found v_reached v_stepIn v_laid v_firstRow v_text v_textLong v_spot v_taken v_counted) := hD.sub [0, 1, 2, 3, 4, 5, 6, 7, 8, 9, 10, 11, 12, 13, 14, 15, 16] (by decide) rfl
      refine kd_vW (ws' := wdM cI cZ h v_all q9.1 q9.2 v_refused v_far v_row v_stepAt v_depth v_tries v_values v_wrong v_isEnd v_found v_reached v_stepIn v_laid v_firstRow v_text v_textLong v_spot v_taken v_counted) (va_runV (As := []) (rest := []) ⟨hx, hb, hml, hown, hts⟩ (c9_keep l D cB cI cZ cO h H.size v_all v_past v_states v_refused v_far v_row v_stepAt v_depth v_tries v_values v_wrong v_isEnd v_found v_reached v_stepIn v_laid v_firstRow v_text v_textLong v_spot v_taken v_counted q9.1 q9.2 hq9) (cwV 0 hts gX9_number_X9_keep rfl rfl rfl (by decide +kernel) ⟨Nat.le_of_ble_eq_true rfl, Nat.le_of_ble_eq_true rfl⟩) ⟨kb_blind, va_recv hK hPc (ci := 6) (q0 := 0) rfl rfl, kb_pre hPc hDc hK hN⟩ rfl rfl hl.1 rfl (lv_room (Nat.le_of_ble_eq_true rfl)) dX9_number_32 ⟨Nat.le_refl _, Nat.le_refl _⟩) hP hD hS hA [0, 1, 2, 3, 4, 5, 6, 7, 8, 9, 10, 11, 12, 13, 14, 15, 16] [] rfl rfl rfl rfl rfl (fun H locs hP hD hS => ?_)
      refine lv_aload_n hx hb dX9_number_35 rfl (lv_at hl 0 rfl) ?_
      refine va_get (D := D) (cl := vwCl) (ci := 6) (v := .ref (h 1)) (C := RX9) (T := TX9) (N := 22) hx hb hts hin9 hown hK hP 0 rfl rfl 0 (by decide) (hts (.fieldLink RX9 7 "StepOrdersModel" "all" "[I") (by decide +kernel)) (fun _ h9 => h9) rfl dX9_number_36 ?_
      refine lv_bipush (v := 39) hx hb dX9_number_39 (by decide) ?_
      refine lv_iload_n hx hb dX9_number_41 rfl (lv_at hl 1 rfl) ?_
      refine lv_iadd hx hb dX9_number_42 ?_
      refine kb_bind hf (fun v10 hv10 hf => ?_)
      refine ka_iald (D := D) (cl := vwCl) hx hb hK hP 1 1 (f := v_all) rfl rfl (ard_in hv10) (ard_v hv10) dX9_number_43 ?_
      refine lv_istore_n (lv' := [(3, .int v10), (0, .ref (h 0)), (1, .int x1), (2, .int x2)]) hx hb dX9_number_44 rfl hl (by decide) rfl (fun ls hl => ?_)
      refine lv_aload_n hx hb dX9_number_45 rfl (lv_at hl 1 rfl) ?_
      refine va_get (D := D) (cl := vwCl) (ci := 6) (v := .ref (h 1)) (C := RX9) (T := TX9) (N := 22) hx hb hts hin9 hown hK hP 0 rfl rfl 0 (by decide) (hts (.fieldLink RX9 7 "StepOrdersModel" "all" "[I") (by decide +kernel)) (fun _ h9 => h9) rfl dX9_number_46 ?_
      refine lv_bipush (v := 39) hx hb dX9_number_49 (by decide) ?_
      refine lv_iload_n hx hb dX9_number_51 rfl (lv_at hl 2 rfl) ?_
      refine lv_iadd hx hb dX9_number_52 ?_
      refine lv_iload_n hx hb dX9_number_53 rfl (lv_at hl 3 rfl) ?_
      refine kb_bind hf (fun v11 hv11 hf => ?_)
      refine ka_iast (D := D) (cl := vwCl) hx hb hK hP hD hS 1 1 (f := v_all) (g := v11) rfl rfl (awr_in hv11) (awr_v hv11) dX9_number_54 (fun H locs hP hD hS => ?_)
      have hP : va_P D vwCl (wdM cI cZ h v11 q9.1 q9.2 v_refused v_far v_row v_stepAt v_depth v_tries v_values v_wrong v_isEnd v_found v_reached v_stepIn v_laid v_firstRow v_text v_textLong v_spot v_taken v_counted) H := hP
      have hD : va_D A (wdM cI cZ h v11 q9.1 q9.2 v_refused v_far v_row v_stepAt v_depth v_tries v_values v_wrong v_isEnd v_found v_reached v_stepIn v_laid v_firstRow v_text v_textLong v_spot v_taken v_counted) := hD
      refine lv_aload_n hx hb dX9_number_55 rfl (lv_at hl 1 rfl) ?_
      refine va_get (D := D) (cl := vwCl) (ci := 6) (v := .ref (h 1)) (C := RX9) (T := TX9) (N := 22) hx hb hts hin9 hown hK hP 0 rfl rfl 0 (by decide) (hts (.fieldLink RX9 7 "StepOrdersModel" "all" "[I") (by decide +kernel)) (fun _ h9 => h9) rfl dX9_number_56 ?_
      refine lv_bipush (v := 43) hx hb dX9_number_59 (by decide) ?_
      refine lv_iconst (v := 0) hx hb dX9_number_61 (by decide) ?_
      refine ka_iast (D := D) (cl := vwCl) hx hb hK hP hD hS 1 1 (f := v11) (g := (upd v11 43 (0 : Int32))) rfl rfl (show ¬ (_ ∨ _) from by decide) rfl dX9_number_62 (fun H locs hP hD hS => ?_)
      have hP : va_P D vwCl (wdM cI cZ h (upd v11 43 (0 : Int32)) q9.1 q9.2 v_refused v_far v_row v_stepAt v_depth v_tries v_values v_wrong v_isEnd v_found v_reached v_stepIn v_laid v_firstRow v_text v_textLong v_spot v_taken v_counted) H := hP
      have hD : va_D A (wdM cI cZ h (upd v11 43 (0 : Int32)) q9.1 q9.2 v_refused v_far v_row v_stepAt v_depth v_tries v_values v_wrong v_isEnd v_found v_reached v_stepIn v_laid v_firstRow v_text v_textLong v_spot v_taken v_counted) := hD
      refine lv_iload_n hx hb dX9_number_63 rfl (lv_at hl 0 rfl) ?_
      cases hf
      exact hend _ _ _ _ rfl hP hS dX9_number_64
    · rw [if_pos c8] at hf
      exact J24 v_all v_past v_states v_refused _ _ _ hf hP hD hS (lv_sub hl [0] rfl)

set_option maxHeartbeats 4000000 in
set_option maxRecDepth 100000 in
theorem c9_readBy (l : Launch) (D : va_G) (cB cI cZ cO : ClassId) (h : Nat → Nat) (sz : Nat) (x1 : Int32) (x2 : Int32) (v_all : Nat → Int32) (v_past : Nat → Int32) (v_states : Int32) (v_refused : Nat → Int32) (v_far : Nat → Int32) (v_row : Nat → Int32) (v_stepAt : Nat → Int32) (v_depth : Int32) (v_tries : Nat → Int32) (v_values : Nat → Int32) (v_wrong : Int32) (v_isEnd : Nat → Int32) (v_found : Nat → Int32) (v_reached : Nat → Int32) (v_stepIn : Nat → Int32) (v_laid : Nat → Int32) (v_firstRow : Nat → Int32) (v_text : Nat → Int32) (v_textLong : Int32) (v_spot : Int32) (v_taken : Int32) (v_counted : Nat → Int32) (r0 : Int32) (hf : f9_readBy v_all x1 x2 = some r0) : Met l yX9_readBy wsX9_readBy rm9_readBy (va_Pc [.ref (h 0), .int x1, .int x2] (kb_B D (ka_tys cB cI cZ cO) sz (wdM cI cZ h v_all v_past v_states v_refused v_far v_row v_stepAt v_depth v_tries v_values v_wrong v_isEnd v_found v_reached v_stepIn v_laid v_firstRow v_text v_textLong v_spot v_taken v_counted))) (va_Qi (kb_post .int r0) (fun _ t => va_P D vwCl (wdM cI cZ h v_all v_past v_states v_refused v_far v_row v_stepAt v_depth v_tries v_values v_wrong v_isEnd v_found v_reached v_stepIn v_laid v_firstRow v_text v_textLong v_spot v_taken v_counted) t.heap) (va_A (wdM cI cZ h v_all v_past v_states v_refused v_far v_row v_stepAt v_depth v_tries v_values v_wrong v_isEnd v_found v_reached v_stepIn v_laid v_firstRow v_text v_textLong v_spot v_taken v_counted) sz)) 0 0 (va_A (wdM cI cZ h v_all v_past v_states v_refused v_far v_row v_stepAt v_depth v_tries v_values v_wrong v_isEnd v_found v_reached v_stepIn v_laid v_firstRow v_text v_textLong v_spot v_taken v_counted) sz) := by
  refine kb_metZ (cc := cX9_readBy) (maxL := 4) (ty := .int) (by decide) rfl (Nat.le_of_ble_eq_true rfl) ?_
  intro p e s m args below meth c Q A ls H hx hb hml hown hts hK hN hP hD hS hA hl hend
  have hown : s.vm.findClass RX9 = some m.cls := hown
  have hl : lv_has ls 4 [(0, .ref (h 0)), (1, .int x1), (2, .int x2)] := hl
  have J18 : ∀ (x1 : Int32) (x2 : Int32) (H : Heap) (locs : List Loc) (ls : Array Slot), f9_readBy_b18 v_all x1 x2 = some r0 → va_P D vwCl (wdM cI cZ h v_all v_past v_states v_refused v_far v_row v_stepAt v_depth v_tries v_values v_wrong v_isEnd v_found v_reached v_stepIn v_laid v_firstRow v_text v_textLong v_spot v_taken v_counted) H → va_D A (wdM cI cZ h v_all v_past v_states v_refused v_far v_row v_stepAt v_depth v_tries v_values v_wrong v_isEnd v_found v_reached v_stepIn v_laid v_firstRow v_text v_textLong v_spot v_taken v_counted) → va_S A s.heap H locs → lv_has ls 4 [(0, .ref (h 0)), (1, .int x1), (2, .int x2)] → W p l e rm9_readBy s m args below meth c H locs 0 0 Q (F0 m 18 ls []) := by
    intro x1 x2 H locs ls hf hP hD hS hl
    rw [f9_readBy_b18] at hf
    refine lv_iconst (v := 1) hx hb dX9_readBy_18 (by decide) ?_
    refine lv_aload_n hx hb dX9_readBy_19 rfl (lv_at hl 0 rfl) ?_
    refine lv_iload_n hx hb dX9_readBy_20 rfl (lv_at hl 1 rfl) ?_
    refine lv_iload_n hx hb dX9_readBy_21 rfl (lv_at hl 2 rfl) ?_
    refine lv_iconst (v := 1) hx hb dX9_readBy_22 (by decide) ?_
    refine kb_bind hf (fun q3 hq3 hf => ?_)
    have hPc : va_P D vwCl (wdM cI cZ h v_all v_past v_states v_refused v_far v_row v_stepAt v_depth v_tries v_values v_wrong v_isEnd v_found v_reached v_stepIn v_laid v_firstRow v_text v_textLong v_spot v_taken v_counted) H := hP.sub [0, 1, 2, 3, 4, 5, 6, 7, 8, 9, 10, 11, 12, 13, 14, 15, 16] rfl
    have hDc : va_D A (wdM cI cZ h v_all v_past v_states v_refused v_far v_row v_stepAt v_depth v_tries v_values v_wrong v_isEnd v_found v_reached v_stepIn v_laid v_firstRow v_text v_textLong v_spot v_taken v_counted) := hD.sub [0, 1, 2, 3, 4, 5, 6, 7, 8, 9, 10, 11, 12, 13, 14, 15, 16] (by decide) rfl
    refine kd_iR (va_runV (As := [.int x1, .int x2, .int (1 : Int32)]) (rest := [.int (1 : Int32)]) ⟨hx, hb, hml, hown, hts⟩ (c9_its l D cB cI cZ cO h H.size x1 x2 (1 : Int32) v_all v_past v_states v_refused v_far v_row v_stepAt v_depth v_tries v_values v_wrong v_isEnd v_found v_reached v_stepIn v_laid v_firstRow v_text v_textLong v_spot v_taken v_counted q3 hq3) (cwV 3 hts gX9_readBy_X9_its rfl rfl rfl (by decide +kernel) ⟨Nat.le_of_ble_eq_true rfl, Nat.le_of_ble_eq_true rfl⟩) ⟨kb_blind, va_recv hK hPc (ci := 6) (q0 := 0) rfl rfl, kb_pre hPc hDc hK hN⟩ rfl rfl hl.1 rfl (lv_room (Nat.le_of_ble_eq_true rfl)) dX9_readBy_23 ⟨Nat.le_refl _, Nat.le_refl _⟩) hP hD hS hA [0, 1, 2, 3, 4, 5, 6, 7, 8, 9, 10, 11, 12, 13, 14, 15, 16] rfl (fun H locs hn4 hP hS => ?_)
    refine lv_ishl hx hb dX9_readBy_26 ?_
    refine lv_goto (tgt := 48) hx hb dX9_readBy_27 (by decide) ?_
    cases hf
    exact hend _ _ _ _ rfl hP hS dX9_readBy_48
  rw [f9_readBy] at hf
  refine lv_aload_n hx hb dX9_readBy_0 rfl (lv_at hl 0 rfl) ?_
  refine lv_iload_n hx hb dX9_readBy_1 rfl (lv_at hl 1 rfl) ?_
  refine lv_iload_n hx hb dX9_readBy_2 rfl (lv_at hl 2 rfl) ?_
  refine lv_iconst (v := 0) hx hb dX9_readBy_3 (by decide) ?_
  refine kb_bind hf (fun q5 hq5 hf => ?_)
  have hPc : va_P D vwCl (wdM cI cZ h v_all v_past v_states v_refused v_far v_row v_stepAt v_depth v_tries v_values v_wrong v_isEnd v_found v_reached v_stepIn v_laid v_firstRow v_text v_textLong v_spot v_taken v_counted) H := hP.sub [0, 1, 2, 3, 4, 5, 6, 7, 8, 9, 10, 11, 12, 13, 14, 15, 16] rfl
  have hDc : va_D A (wdM cI cZ h v_all v_past v_states v_refused v_far v_row v_stepAt v_depth v_tries v_values v_wrong v_isEnd v_found v_reached v_stepIn v_laid v_firstRow v_text v_textLong v_spot v_taken v_counted) := hD.sub [0, 1, 2, 3, 4, 5, 6, 7, 8, 9, 10, 11, 12, 13, 14, 15, 16] (by decide) rfl
  refine kd_iR (va_runV (As := [.int x1, .int x2, .int (0 : Int32)]) (rest := []) ⟨hx, hb, hml, hown, hts⟩ (c9_its l D cB cI cZ cO h H.size x1 x2 (0 : Int32) v_all v_past v_states v_refused v_far v_row v_stepAt v_depth v_tries v_values v_wrong v_isEnd v_found v_reached v_stepIn v_laid v_firstRow v_text v_textLong v_spot v_taken v_counted q5 hq5) (cwV 3 hts gX9_readBy_X9_its rfl rfl rfl (by decide +kernel) ⟨Nat.le_of_ble_eq_true rfl, Nat.le_of_ble_eq_true rfl⟩) ⟨kb_blind, va_recv hK hPc (ci := 6) (q0 := 0) rfl rfl, kb_pre hPc hDc hK hN⟩ rfl rfl hl.1 rfl (lv_room (Nat.le_of_ble_eq_true rfl)) dX9_readBy_4 ⟨Nat.le_refl _, Nat.le_refl _⟩) hP hD hS hA [0, 1, 2, 3, 4, 5, 6, 7, 8, 9, 10, 11, 12, 13, 14, 15, 16] rfl (fun H locs hn6 hP hS => ?_)
  refine lv_istore_n (lv' := [(3, .int q5), (0, .ref (h 0)), (1, .int x1), (2, .int x2)]) hx hb dX9_readBy_7 rfl hl (by decide) rfl (fun ls hl => ?_)
  refine lv_iload_n hx hb dX9_readBy_8 rfl (lv_at hl 0 rfl) ?_
  refine lv_iconst (v := 1) hx hb dX9_readBy_9 (by decide) ?_
  refine lv_icmp_eq (tgt := 18) hx hb dX9_readBy_10 (by decide) (fun c7 => ?_) (fun c7 => ?_)
  · rw [if_pos c7] at hf
    exact J18 x1 x2 _ _ _ hf hP hD hS (lv_sub hl [1, 2, 3] rfl)
  · rw [if_neg c7] at hf
    refine lv_iload_n hx hb dX9_readBy_13 rfl (lv_at hl 0 rfl) ?_
    refine lv_iconst (v := 3) hx hb dX9_readBy_14 (by decide) ?_
    refine lv_icmp_ne (tgt := 30) hx hb dX9_readBy_15 (by decide) (fun c8 => ?_) (fun c8 => ?_)
    · rw [if_neg c8] at hf
      refine lv_iload_n hx hb dX9_readBy_30 rfl (lv_at hl 0 rfl) ?_
      refine lv_iconst (v := 2) hx hb dX9_readBy_31 (by decide) ?_
      refine lv_icmp_ne (tgt := 47) hx hb dX9_readBy_32 (by decide) (fun c9 => ?_) (fun c9 => ?_)
      · rw [if_neg c9] at hf
        refine lv_iconst (v := 0) hx hb dX9_readBy_47 (by decide) ?_
        cases hf
        exact hend _ _ _ _ rfl hP hS dX9_readBy_48
      · rw [if_pos c9] at hf
        refine lv_iconst (v := 1) hx hb dX9_readBy_35 (by decide) ?_
        refine lv_aload_n hx hb dX9_readBy_36 rfl (lv_at hl 1 rfl) ?_
        refine lv_iload_n hx hb dX9_readBy_37 rfl (lv_at hl 2 rfl) ?_
        refine lv_iload_n hx hb dX9_readBy_38 rfl (lv_at hl 3 rfl) ?_
        refine lv_iconst (v := 2) hx hb dX9_readBy_39 (by decide) ?_
        refine kb_bind hf (fun q10 hq10 hf => ?_)
        have hPc : va_P D vwCl (wdM cI cZ h v_all v_past v_states v_refused v_far v_row v_stepAt v_depth v_tries v_values v_wrong v_isEnd v_found v_reached v_stepIn v_laid v_firstRow v_text v_textLong v_spot v_taken v_counted) H := hP.sub [0, 1, 2, 3, 4, 5, 6, 7, 8, 9, 10, 11, 12, 13, 14, 15, 16] rfl
        have hDc : va_D A (wdM cI cZ h v_all v_past v_states v_refused v_far v_row v_stepAt v_depth v_tries v_values v_wrong v_isEnd v_found v_reached v_stepIn v_laid v_firstRow v_text v_textLong v_spot v_taken v_counted) := hD.sub [0, 1, 2, 3, 4, 5, 6, 7, 8, 9, 10, 11, 12, 13, 14, 15, 16] (by decide) rfl
        refine kd_iR (va_runV (As := [.int x1, .int x2, .int (2 : Int32)]) (rest := [.int (1 : Int32)]) ⟨hx, hb, hml, hown, hts⟩ (c9_its l D cB cI cZ cO h H.size x1 x2 (2 : Int32) v_all v_past v_states v_refused v_far v_row v_stepAt v_depth v_tries v_values v_wrong v_isEnd v_found v_reached v_stepIn v_laid v_firstRow v_text v_textLong v_spot v_taken v_counted q10 hq10) (cwV 3 hts gX9_readBy_X9_its rfl rfl rfl (by decide +kernel) ⟨Nat.le_of_ble_eq_true rfl, Nat.le_of_ble_eq_true rfl⟩) ⟨kb_blind, va_recv hK hPc (ci := 6) (q0 := 0) rfl rfl, kb_pre hPc hDc hK hN⟩ rfl rfl hl.1 rfl (lv_room (Nat.le_of_ble_eq_true rfl)) dX9_readBy_40 ⟨Nat.le_refl _, Nat.le_refl _⟩) hP hD hS hA [0, 1, 2, 3, 4, 5, 6, 7, 8, 9, 10, 11, 12, 13, 14, 15, 16] rfl (fun H locs hn11 hP hS => ?_)
        refine lv_ishl hx hb dX9_readBy_43 ?_
        refine lv_goto (tgt := 48) hx hb dX9_readBy_44 (by decide) ?_
        cases hf
        exact hend _ _ _ _ rfl hP hS dX9_readBy_48
    · rw [if_pos c8] at hf
      exact J18 x1 x2 _ _ _ hf hP hD hS (lv_sub hl [1, 2, 3] rfl)

set_option maxHeartbeats 4000000 in
set_option maxRecDepth 100000 in
theorem c9_writes (l : Launch) (D : va_G) (cB cI cZ cO : ClassId) (h : Nat → Nat) (sz : Nat) (x1 : Int32) (x2 : Int32) (v_all : Nat → Int32) (v_past : Nat → Int32) (v_states : Int32) (v_refused : Nat → Int32) (v_far : Nat → Int32) (v_row : Nat → Int32) (v_stepAt : Nat → Int32) (v_depth : Int32) (v_tries : Nat → Int32) (v_values : Nat → Int32) (v_wrong : Int32) (v_isEnd : Nat → Int32) (v_found : Nat → Int32) (v_reached : Nat → Int32) (v_stepIn : Nat → Int32) (v_laid : Nat → Int32) (v_firstRow : Nat → Int32) (v_text : Nat → Int32) (v_textLong : Int32) (v_spot : Int32) (v_taken : Int32) (v_counted : Nat → Int32) (r0 : Int32) (hf : f9_writes v_all x1 x2 = some r0) : Met l yX9_writes wsX9_writes rm9_writes (va_Pc [.ref (h 0), .int x1, .int x2] (kb_B D (ka_tys cB cI cZ cO) sz (wdM cI cZ h v_all v_past v_states v_refused v_far v_row v_stepAt v_depth v_tries v_values v_wrong v_isEnd v_found v_reached v_stepIn v_laid v_firstRow v_text v_textLong v_spot v_taken v_counted))) (va_Qi (kb_post .int r0) (fun _ t => va_P D vwCl (wdM cI cZ h v_all v_past v_states v_refused v_far v_row v_stepAt v_depth v_tries v_values v_wrong v_isEnd v_found v_reached v_stepIn v_laid v_firstRow v_text v_textLong v_spot v_taken v_counted) t.heap) (va_A (wdM cI cZ h v_all v_past v_states v_refused v_far v_row v_stepAt v_depth v_tries v_values v_wrong v_isEnd v_found v_reached v_stepIn v_laid v_firstRow v_text v_textLong v_spot v_taken v_counted) sz)) 0 0 (va_A (wdM cI cZ h v_all v_past v_states v_refused v_far v_row v_stepAt v_depth v_tries v_values v_wrong v_isEnd v_found v_reached v_stepIn v_laid v_firstRow v_text v_textLong v_spot v_taken v_counted) sz) := by
  refine kb_metZ (cc := cX9_writes) (maxL := 3) (ty := .int) (by decide) rfl (Nat.le_of_ble_eq_true rfl) ?_
  intro p e s m args below meth c Q A ls H hx hb hml hown hts hK hN hP hD hS hA hl hend
  have hown : s.vm.findClass RX9 = some m.cls := hown
  have hl : lv_has ls 3 [(0, .ref (h 0)), (1, .int x1), (2, .int x2)] := hl
  rw [f9_writes] at hf
  refine lv_aload_n hx hb dX9_writes_0 rfl (lv_at hl 0 rfl) ?_
  refine lv_iload_n hx hb dX9_writes_1 rfl (lv_at hl 1 rfl) ?_
  refine lv_iload_n hx hb dX9_writes_2 rfl (lv_at hl 2 rfl) ?_
  refine lv_iconst (v := 0) hx hb dX9_writes_3 (by decide) ?_
  refine kb_bind hf (fun q1 hq1 hf => ?_)
  have hPc : va_P D vwCl (wdM cI cZ h v_all v_past v_states v_refused v_far v_row v_stepAt v_depth v_tries v_values v_wrong v_isEnd v_found v_reached v_stepIn v_laid v_firstRow v_text v_textLong v_spot v_taken v_counted) H := hP.sub [0, 1, 2, 3, 4, 5, 6, 7, 8, 9, 10, 11, 12, 13, 14, 15, 16] rfl
  have hDc : va_D A (wdM cI cZ h v_all v_past v_states v_refused v_far v_row v_stepAt v_depth v_tries v_values v_wrong v_isEnd v_found v_reached v_stepIn v_laid v_firstRow v_text v_textLong v_spot v_taken v_counted) := hD.sub [0, 1, 2, 3, 4, 5, 6, 7, 8, 9, 10, 11, 12, 13, 14, 15, 16] (by decide) rfl
  refine kd_iR (va_runV (As := [.int x1, .int x2, .int (0 : Int32)]) (rest := []) ⟨hx, hb, hml, hown, hts⟩ (c9_its l D cB cI cZ cO h H.size x1 x2 (0 : Int32) v_all v_past v_states v_refused v_far v_row v_stepAt v_depth v_tries v_values v_wrong v_isEnd v_found v_reached v_stepIn v_laid v_firstRow v_text v_textLong v_spot v_taken v_counted q1 hq1) (cwV 3 hts gX9_writes_X9_its rfl rfl rfl (by decide +kernel) ⟨Nat.le_of_ble_eq_true rfl, Nat.le_of_ble_eq_true rfl⟩) ⟨kb_blind, va_recv hK hPc (ci := 6) (q0 := 0) rfl rfl, kb_pre hPc hDc hK hN⟩ rfl rfl hl.1 rfl (lv_room (Nat.le_of_ble_eq_true rfl)) dX9_writes_4 ⟨Nat.le_refl _, Nat.le_refl _⟩) hP hD hS hA [0, 1, 2, 3, 4, 5, 6, 7, 8, 9, 10, 11, 12, 13, 14, 15, 16] rfl (fun H locs hn2 hP hS => ?_)
  refine lv_iconst (v := 3) hx hb dX9_writes_7 (by decide) ?_
  refine lv_icmp_ge (tgt := 23) hx hb dX9_writes_8 (by decide) (fun c3 => ?_) (fun c3 => ?_)
  · rw [if_pos c3] at hf
    refine lv_iconst (v := 0) hx hb dX9_writes_23 (by decide) ?_
    cases hf
    exact hend _ _ _ _ rfl hP hS dX9_writes_24
  · rw [if_neg c3] at hf
    refine lv_iconst (v := 1) hx hb dX9_writes_11 (by decide) ?_
    refine lv_aload_n hx hb dX9_writes_12 rfl (lv_at hl 0 rfl) ?_
    refine lv_iload_n hx hb dX9_writes_13 rfl (lv_at hl 1 rfl) ?_
    refine lv_iload_n hx hb dX9_writes_14 rfl (lv_at hl 2 rfl) ?_
    refine lv_iconst (v := 1) hx hb dX9_writes_15 (by decide) ?_
    refine kb_bind hf (fun q4 hq4 hf => ?_)
    have hPc : va_P D vwCl (wdM cI cZ h v_all v_past v_states v_refused v_far v_row v_stepAt v_depth v_tries v_values v_wrong v_isEnd v_found v_reached v_stepIn v_laid v_firstRow v_text v_textLong v_spot v_taken v_counted) H := hP.sub [0, 1, 2, 3, 4, 5, 6, 7, 8, 9, 10, 11, 12, 13, 14, 15, 16] rfl
    have hDc : va_D A (wdM cI cZ h v_all v_past v_states v_refused v_far v_row v_stepAt v_depth v_tries v_values v_wrong v_isEnd v_found v_reached v_stepIn v_laid v_firstRow v_text v_textLong v_spot v_taken v_counted) := hD.sub [0, 1, 2, 3, 4, 5, 6, 7, 8, 9, 10, 11, 12, 13, 14, 15, 16] (by decide) rfl
    refine kd_iR (va_runV (As := [.int x1, .int x2, .int (1 : Int32)]) (rest := [.int (1 : Int32)]) ⟨hx, hb, hml, hown, hts⟩ (c9_its l D cB cI cZ cO h H.size x1 x2 (1 : Int32) v_all v_past v_states v_refused v_far v_row v_stepAt v_depth v_tries v_values v_wrong v_isEnd v_found v_reached v_stepIn v_laid v_firstRow v_text v_textLong v_spot v_taken v_counted q4 hq4) (cwV 3 hts gX9_writes_X9_its rfl rfl rfl (by decide +kernel) ⟨Nat.le_of_ble_eq_true rfl, Nat.le_of_ble_eq_true rfl⟩) ⟨kb_blind, va_recv hK hPc (ci := 6) (q0 := 0) rfl rfl, kb_pre hPc hDc hK hN⟩ rfl rfl hl.1 rfl (lv_room (Nat.le_of_ble_eq_true rfl)) dX9_writes_16 ⟨Nat.le_refl _, Nat.le_refl _⟩) hP hD hS hA [0, 1, 2, 3, 4, 5, 6, 7, 8, 9, 10, 11, 12, 13, 14, 15, 16] rfl (fun H locs hn5 hP hS => ?_)
    refine lv_ishl hx hb dX9_writes_19 ?_
    refine lv_goto (tgt := 24) hx hb dX9_writes_20 (by decide) ?_
    cases hf
    exact hend _ _ _ _ rfl hP hS dX9_writes_24

set_option maxHeartbeats 4000000 in
set_option maxRecDepth 100000 in
theorem c9_isStep (l : Launch) (D : va_G) (cB cI cZ cO : ClassId) (h : Nat → Nat) (sz : Nat) (x1 : Int32) (x2 : Int32) (v_all : Nat → Int32) (v_past : Nat → Int32) (v_states : Int32) (v_refused : Nat → Int32) (v_far : Nat → Int32) (v_row : Nat → Int32) (v_stepAt : Nat → Int32) (v_depth : Int32) (v_tries : Nat → Int32) (v_values : Nat → Int32) (v_wrong : Int32) (v_isEnd : Nat → Int32) (v_found : Nat → Int32) (v_reached : Nat → Int32) (v_stepIn : Nat → Int32) (v_laid : Nat → Int32) (v_firstRow : Nat → Int32) (v_text : Nat → Int32) (v_textLong : Int32) (v_spot : Int32) (v_taken : Int32) (v_counted : Nat → Int32) (r0 : Int32) (hf : f9_isStep v_all x1 x2 = some r0) : Met l yX9_isStep wsX9_isStep rm9_isStep (va_Pc [.ref (h 0), .int x1, .int x2] (kb_B D (ka_tys cB cI cZ cO) sz (wdM cI cZ h v_all v_past v_states v_refused v_far v_row v_stepAt v_depth v_tries v_values v_wrong v_isEnd v_found v_reached v_stepIn v_laid v_firstRow v_text v_textLong v_spot v_taken v_counted))) (va_Qi (kb_post .boolean r0) (fun _ t => va_P D vwCl (wdM cI cZ h v_all v_past v_states v_refused v_far v_row v_stepAt v_depth v_tries v_values v_wrong v_isEnd v_found v_reached v_stepIn v_laid v_firstRow v_text v_textLong v_spot v_taken v_counted) t.heap) (va_A (wdM cI cZ h v_all v_past v_states v_refused v_far v_row v_stepAt v_depth v_tries v_values v_wrong v_isEnd v_found v_reached v_stepIn v_laid v_firstRow v_text v_textLong v_spot v_taken v_counted) sz)) 0 0 (va_A (wdM cI cZ h v_all v_past v_states v_refused v_far v_row v_stepAt v_depth v_tries v_values v_wrong v_isEnd v_found v_reached v_stepIn v_laid v_firstRow v_text v_textLong v_spot v_taken v_counted) sz) := by
  refine kb_metZ (cc := cX9_isStep) (maxL := 3) (ty := .boolean) (by decide) rfl (Nat.le_of_ble_eq_true rfl) ?_
  intro p e s m args below meth c Q A ls H hx hb hml hown hts hK hN hP hD hS hA hl hend
  have hown : s.vm.findClass RX9 = some m.cls := hown
  have hl : lv_has ls 3 [(0, .ref (h 0)), (1, .int x1), (2, .int x2)] := hl
  rw [f9_isStep] at hf
  refine lv_iload_n hx hb dX9_isStep_0 rfl (lv_at hl 1 rfl) ?_
  have hPc : va_P D vwCl ([]) H := hP.sub [] rfl
  have hDc : va_D A ([]) := hD.sub [] (by decide) rfl
  refine kd_iR (va_runS (As := [.int x1]) (rest := []) ⟨hx, hb, hml, hown, hts⟩ (c9_isThread l D cB cI cZ cO h H.size x1 (f9_isThread x1) rfl) (va_cwS 1 hts gX9_isStep_X9_isThread rfl rfl rfl (by decide +kernel) ⟨Nat.le_of_ble_eq_true rfl, Nat.le_of_ble_eq_true rfl⟩) ⟨kb_blind, kb_pre hPc hDc hK hN⟩ rfl rfl hl.1 rfl (lv_room (Nat.le_of_ble_eq_true rfl)) dX9_isStep_1 ⟨Nat.le_refl _, Nat.le_refl _⟩) hP hD hS hA [] rfl (fun H locs hn1 hP hS => ?_)
  refine lv_if_eq (tgt := 28) hx hb dX9_isStep_4 (by decide) (fun c2 => ?_) (fun c2 => ?_)
  · rw [if_pos c2] at hf
    refine lv_iconst (v := 0) hx hb dX9_isStep_28 (by decide) ?_
    cases hf
    exact hend _ _ _ _ rfl hP hS dX9_isStep_29
  · rw [if_neg c2] at hf
    refine lv_iload_n hx hb dX9_isStep_7 rfl (lv_at hl 2 rfl) ?_
    refine lv_i2l (v := x2.toInt64) hx hb dX9_isStep_8 rfl ?_
    refine lv_lconst (v := 0) hx hb dX9_isStep_9 (by decide) ?_
    refine lv_aload_n hx hb dX9_isStep_10 rfl (lv_at hl 0 rfl) ?_
    refine lv_iload_n hx hb dX9_isStep_11 rfl (lv_at hl 1 rfl) ?_
    refine kb_bind hf (fun q3 hq3 hf => ?_)
    have hPc : va_P D vwCl (wdM cI cZ h v_all v_past v_states v_refused v_far v_row v_stepAt v_depth v_tries v_values v_wrong v_isEnd v_found v_reached v_stepIn v_laid v_firstRow v_text v_textLong v_spot v_taken v_counted) H := hP.sub [0, 1, 2, 3, 4, 5, 6, 7, 8, 9, 10, 11, 12, 13, 14, 15, 16] rfl
    have hDc : va_D A (wdM cI cZ h v_all v_past v_states v_refused v_far v_row v_stepAt v_depth v_tries v_values v_wrong v_isEnd v_found v_reached v_stepIn v_laid v_firstRow v_text v_textLong v_spot v_taken v_counted) := hD.sub [0, 1, 2, 3, 4, 5, 6, 7, 8, 9, 10, 11, 12, 13, 14, 15, 16] (by decide) rfl
    refine kd_iR (va_runV (As := [.int x1]) (rest := [.long (0 : Int64), .long x2.toInt64]) ⟨hx, hb, hml, hown, hts⟩ (c9_many l D cB cI cZ cO h H.size x1 v_all v_past v_states v_refused v_far v_row v_stepAt v_depth v_tries v_values v_wrong v_isEnd v_found v_reached v_stepIn v_laid v_firstRow v_text v_textLong v_spot v_taken v_counted q3 hq3) (cwV 1 hts gX9_isStep_X9_many rfl rfl rfl (by decide +kernel) ⟨Nat.le_of_ble_eq_true rfl, Nat.le_of_ble_eq_true rfl⟩) ⟨kb_blind, va_recv hK hPc (ci := 6) (q0 := 0) rfl rfl, kb_pre hPc hDc hK hN⟩ rfl rfl hl.1 rfl (lv_room (Nat.le_of_ble_eq_true rfl)) dX9_isStep_12 ⟨Nat.le_refl _, Nat.le_refl _⟩) hP hD hS hA [0, 1, 2, 3, 4, 5, 6, 7, 8, 9, 10, 11, 12, 13, 14, 15, 16] rfl (fun H locs hn4 hP hS => ?_)
    refine lv_iconst (v := 1) hx hb dX9_isStep_15 (by decide) ?_
    refine lv_isub hx hb dX9_isStep_16 ?_
    refine lv_i2l (v := (q3 - (1 : Int32)).toInt64) hx hb dX9_isStep_17 rfl ?_
    have hPc : va_P D vwCl ([]) H := hP.sub [] rfl
    have hDc : va_D A ([]) := hD.sub [] (by decide) rfl
    refine kd_iR (va_runS (As := [.long x2.toInt64, .long (0 : Int64), .long ((q3 - (1 : Int32)).toInt64)]) (rest := []) ⟨hx, hb, hml, hown, hts⟩ (c9_in l D cB cI cZ cO h H.size x2.toInt64 (0 : Int64) ((q3 - (1 : Int32)).toInt64) (f9_in x2.toInt64 (0 : Int64) ((q3 - (1 : Int32)).toInt64)) rfl) (va_cwS 3 hts gX9_isStep_X9_in rfl rfl rfl (by decide +kernel) ⟨Nat.le_of_ble_eq_true rfl, Nat.le_of_ble_eq_true rfl⟩) ⟨kb_blind, kb_pre hPc hDc hK hN⟩ rfl rfl hl.1 rfl (lv_room (Nat.le_of_ble_eq_true rfl)) dX9_isStep_18 ⟨Nat.le_refl _, Nat.le_refl _⟩) hP hD hS hA [] rfl (fun H locs hn5 hP hS => ?_)
    refine lv_if_eq (tgt := 28) hx hb dX9_isStep_21 (by decide) (fun c6 => ?_) (fun c6 => ?_)
    · rw [if_pos c6] at hf
      refine lv_iconst (v := 0) hx hb dX9_isStep_28 (by decide) ?_
      cases hf
      exact hend _ _ _ _ rfl hP hS dX9_isStep_29
    · rw [if_neg c6] at hf
      refine lv_iconst (v := 1) hx hb dX9_isStep_24 (by decide) ?_
      refine lv_goto (tgt := 29) hx hb dX9_isStep_25 (by decide) ?_
      cases hf
      exact hend _ _ _ _ rfl hP hS dX9_isStep_29

set_option maxHeartbeats 4000000 in
set_option maxRecDepth 100000 in
theorem c9_ofStep (l : Launch) (D : va_G) (cB cI cZ cO : ClassId) (h : Nat → Nat) (sz : Nat) (x1 : Int32) (x2 : Int32) (x3 : Int32) (v_all : Nat → Int32) (v_past : Nat → Int32) (v_states : Int32) (v_refused : Nat → Int32) (v_far : Nat → Int32) (v_row : Nat → Int32) (v_stepAt : Nat → Int32) (v_depth : Int32) (v_tries : Nat → Int32) (v_values : Nat → Int32) (v_wrong : Int32) (v_isEnd : Nat → Int32) (v_found : Nat → Int32) (v_reached : Nat → Int32) (v_stepIn : Nat → Int32) (v_laid : Nat → Int32) (v_firstRow : Nat → Int32) (v_text : Nat → Int32) (v_textLong : Int32) (v_spot : Int32) (v_taken : Int32) (v_counted : Nat → Int32) (r0 : Int32) (hf : f9_ofStep v_all x1 x2 x3 = some r0) : Met l yX9_ofStep wsX9_ofStep rm9_ofStep (va_Pc [.ref (h 0), .int x1, .int x2, .int x3] (kb_B D (ka_tys cB cI cZ cO) sz (wdM cI cZ h v_all v_past v_states v_refused v_far v_row v_stepAt v_depth v_tries v_values v_wrong v_isEnd v_found v_reached v_stepIn v_laid v_firstRow v_text v_textLong v_spot v_taken v_counted))) (va_Qi (kb_post .int r0) (fun _ t => va_P D vwCl (wdM cI cZ h v_all v_past v_states v_refused v_far v_row v_stepAt v_depth v_tries v_values v_wrong v_isEnd v_found v_reached v_stepIn v_laid v_firstRow v_text v_textLong v_spot v_taken v_counted) t.heap) (va_A (wdM cI cZ h v_all v_past v_states v_refused v_far v_row v_stepAt v_depth v_tries v_values v_wrong v_isEnd v_found v_reached v_stepIn v_laid v_firstRow v_text v_textLong v_spot v_taken v_counted) sz)) 0 0 (va_A (wdM cI cZ h v_all v_past v_states v_refused v_far v_row v_stepAt v_depth v_tries v_values v_wrong v_isEnd v_found v_reached v_stepIn v_laid v_firstRow v_text v_textLong v_spot v_taken v_counted) sz) := by
  refine kb_metZ (cc := cX9_ofStep) (maxL := 4) (ty := .int) (by decide) rfl (Nat.le_of_ble_eq_true rfl) ?_
  intro p e s m args below meth c Q A ls H hx hb hml hown hts hK hN hP hD hS hA hl hend
  have hown : s.vm.findClass RX9 = some m.cls := hown
  have hl : lv_has ls 4 [(0, .ref (h 0)), (1, .int x1), (2, .int x2), (3, .int x3)] := hl
  rw [f9_ofStep] at hf
  refine lv_iload_n hx hb dX9_ofStep_0 rfl (lv_at hl 3 rfl) ?_
  refine lv_iconst (v := 3) hx hb dX9_ofStep_1 (by decide) ?_
  refine lv_icmp_ge (tgt := 15) hx hb dX9_ofStep_2 (by decide) (fun c1 => ?_) (fun c1 => ?_)
  · rw [if_pos c1] at hf
    refine lv_iload_n hx hb dX9_ofStep_15 rfl (lv_at hl 3 rfl) ?_
    refine lv_iconst (v := 3) hx hb dX9_ofStep_16 (by decide) ?_
    refine lv_icmp_ne (tgt := 29) hx hb dX9_ofStep_17 (by decide) (fun c2 => ?_) (fun c2 => ?_)
    · rw [if_neg c2] at hf
      refine lv_aload_n hx hb dX9_ofStep_29 rfl (lv_at hl 0 rfl) ?_
      refine lv_iload_n hx hb dX9_ofStep_30 rfl (lv_at hl 1 rfl) ?_
      refine lv_iload_n hx hb dX9_ofStep_31 rfl (lv_at hl 2 rfl) ?_
      refine kb_bind hf (fun q3 hq3 hf => ?_)
      have hPc : va_P D vwCl (wdM cI cZ h v_all v_past v_states v_refused v_far v_row v_stepAt v_depth v_tries v_values v_wrong v_isEnd v_found v_reached v_stepIn v_laid v_firstRow v_text v_textLong v_spot v_taken v_counted) H := hP.sub [0, 1, 2, 3, 4, 5, 6, 7, 8, 9, 10, 11, 12, 13, 14, 15, 16] rfl
      have hDc : va_D A (wdM cI cZ h v_all v_past v_states v_refused v_far v_row v_stepAt v_depth v_tries v_values v_wrong v_isEnd v_found v_reached v_stepIn v_laid v_firstRow v_text v_textLong v_spot v_taken v_counted) := hD.sub [0, 1, 2, 3, 4, 5, 6, 7, 8, 9, 10, 11, 12, 13, 14, 15, 16] (by decide) rfl
      refine kd_iR (va_runV (As := [.int x1, .int x2]) (rest := []) ⟨hx, hb, hml, hown, hts⟩ (c9_writes l D cB cI cZ cO h H.size x1 x2 v_all v_past v_states v_refused v_far v_row v_stepAt v_depth v_tries v_values v_wrong v_isEnd v_found v_reached v_stepIn v_laid v_firstRow v_text v_textLong v_spot v_taken v_counted q3 hq3) (cwV 2 hts gX9_ofStep_X9_writes rfl rfl rfl (by decide +kernel) ⟨Nat.le_of_ble_eq_true rfl, Nat.le_of_ble_eq_true rfl⟩) ⟨kb_blind, va_recv hK hPc (ci := 6) (q0 := 0) rfl rfl, kb_pre hPc hDc hK hN⟩ rfl rfl hl.1 rfl (lv_room (Nat.le_of_ble_eq_true rfl)) dX9_ofStep_32 ⟨Nat.le_refl _, Nat.le_refl _⟩) hP hD hS hA [0, 1, 2, 3, 4, 5, 6, 7, 8, 9, 10, 11, 12, 13, 14, 15, 16] rfl (fun H locs hn4 hP hS => ?_)
      cases hf
      exact hend _ _ _ _ rfl hP hS dX9_ofStep_35
    · rw [if_pos c2] at hf
      refine lv_aload_n hx hb dX9_ofStep_20 rfl (lv_at hl 0 rfl) ?_
      refine lv_iload_n hx hb dX9_ofStep_21 rfl (lv_at hl 1 rfl) ?_
      refine lv_iload_n hx hb dX9_ofStep_22 rfl (lv_at hl 2 rfl) ?_
      refine kb_bind hf (fun q5 hq5 hf => ?_)
      have hPc : va_P D vwCl (wdM cI cZ h v_all v_past v_states v_refused v_far v_row v_stepAt v_depth v_tries v_values v_wrong v_isEnd v_found v_reached v_stepIn v_laid v_firstRow v_text v_textLong v_spot v_taken v_counted) H := hP.sub [0, 1, 2, 3, 4, 5, 6, 7, 8, 9, 10, 11, 12, 13, 14, 15, 16] rfl
      have hDc : va_D A (wdM cI cZ h v_all v_past v_states v_refused v_far v_row v_stepAt v_depth v_tries v_values v_wrong v_isEnd v_found v_reached v_stepIn v_laid v_firstRow v_text v_textLong v_spot v_taken v_counted) := hD.sub [0, 1, 2, 3, 4, 5, 6, 7, 8, 9, 10, 11, 12, 13, 14, 15, 16] (by decide) rfl
      refine kd_iR (va_runV (As := [.int x1, .int x2]) (rest := []) ⟨hx, hb, hml, hown, hts⟩ (c9_readBy l D cB cI cZ cO h H.size x1 x2 v_all v_past v_states v_refused v_far v_row v_stepAt v_depth v_tries v_values v_wrong v_isEnd v_found v_reached v_stepIn v_laid v_firstRow v_text v_textLong v_spot v_taken v_counted q5 hq5) (cwV 2 hts gX9_ofStep_X9_readBy rfl rfl rfl (by decide +kernel) ⟨Nat.le_of_ble_eq_true rfl, Nat.le_of_ble_eq_true rfl⟩) ⟨kb_blind, va_recv hK hPc (ci := 6) (q0 := 0) rfl rfl, kb_pre hPc hDc hK hN⟩ rfl rfl hl.1 rfl (lv_room (Nat.le_of_ble_eq_true rfl)) dX9_ofStep_23 ⟨Nat.le_refl _, Nat.le_refl _⟩) hP hD hS hA [0, 1, 2, 3, 4, 5, 6, 7, 8, 9, 10, 11, 12, 13, 14, 15, 16] rfl (fun H locs hn6 hP hS => ?_)
      refine lv_goto (tgt := 35) hx hb dX9_ofStep_26 (by decide) ?_
      cases hf
      exact hend _ _ _ _ rfl hP hS dX9_ofStep_35
  · rw [if_neg c1] at hf
    refine lv_aload_n hx hb dX9_ofStep_5 rfl (lv_at hl 0 rfl) ?_
    refine lv_iload_n hx hb dX9_ofStep_6 rfl (lv_at hl 1 rfl) ?_
    refine lv_iload_n hx hb dX9_ofStep_7 rfl (lv_at hl 2 rfl) ?_
    refine lv_iload_n hx hb dX9_ofStep_8 rfl (lv_at hl 3 rfl) ?_
    refine kb_bind hf (fun q7 hq7 hf => ?_)
    have hPc : va_P D vwCl (wdM cI cZ h v_all v_past v_states v_refused v_far v_row v_stepAt v_depth v_tries v_values v_wrong v_isEnd v_found v_reached v_stepIn v_laid v_firstRow v_text v_textLong v_spot v_taken v_counted) H := hP.sub [0, 1, 2, 3, 4, 5, 6, 7, 8, 9, 10, 11, 12, 13, 14, 15, 16] rfl
    have hDc : va_D A (wdM cI cZ h v_all v_past v_states v_refused v_far v_row v_stepAt v_depth v_tries v_values v_wrong v_isEnd v_found v_reached v_stepIn v_laid v_firstRow v_text v_textLong v_spot v_taken v_counted) := hD.sub [0, 1, 2, 3, 4, 5, 6, 7, 8, 9, 10, 11, 12, 13, 14, 15, 16] (by decide) rfl
    refine kd_iR (va_runV (As := [.int x1, .int x2, .int x3]) (rest := []) ⟨hx, hb, hml, hown, hts⟩ (c9_its l D cB cI cZ cO h H.size x1 x2 x3 v_all v_past v_states v_refused v_far v_row v_stepAt v_depth v_tries v_values v_wrong v_isEnd v_found v_reached v_stepIn v_laid v_firstRow v_text v_textLong v_spot v_taken v_counted q7 hq7) (cwV 3 hts gX9_ofStep_X9_its rfl rfl rfl (by decide +kernel) ⟨Nat.le_of_ble_eq_true rfl, Nat.le_of_ble_eq_true rfl⟩) ⟨kb_blind, va_recv hK hPc (ci := 6) (q0 := 0) rfl rfl, kb_pre hPc hDc hK hN⟩ rfl rfl hl.1 rfl (lv_room (Nat.le_of_ble_eq_true rfl)) dX9_ofStep_9 ⟨Nat.le_refl _, Nat.le_refl _⟩) hP hD hS hA [0, 1, 2, 3, 4, 5, 6, 7, 8, 9, 10, 11, 12, 13, 14, 15, 16] rfl (fun H locs hn8 hP hS => ?_)
    refine lv_goto (tgt := 35) hx hb dX9_ofStep_12 (by decide) ?_
    cases hf
    exact hend _ _ _ _ rfl hP hS dX9_ofStep_35

set_option maxHeartbeats 4000000 in
set_option maxRecDepth 100000 in
theorem c9_of (l : Launch) (D : va_G) (cB cI cZ cO : ClassId) (h : Nat → Nat) (sz : Nat) (x1 : Int32) (x2 : Int32) (x3 : Int32) (v_all : Nat → Int32) (v_past : Nat → Int32) (v_states : Int32) (v_refused : Nat → Int32) (v_far : Nat → Int32) (v_row : Nat → Int32) (v_stepAt : Nat → Int32) (v_depth : Int32) (v_tries : Nat → Int32) (v_values : Nat → Int32) (v_wrong : Int32) (v_isEnd : Nat → Int32) (v_found : Nat → Int32) (v_reached : Nat → Int32) (v_stepIn : Nat → Int32) (v_laid : Nat → Int32) (v_firstRow : Nat → Int32) (v_text : Nat → Int32) (v_textLong : Int32) (v_spot : Int32) (v_taken : Int32) (v_counted : Nat → Int32) (r0 : Int32) (v_refused' : Nat → Int32) (hf : f9_of v_all v_refused x1 x2 x3 = some (r0, v_refused')) : Met l yX9_of wsX9_of rm9_of (va_Pc [.ref (h 0), .int x1, .int x2, .int x3] (kb_B D (ka_tys cB cI cZ cO) sz (wdM cI cZ h v_all v_past v_states v_refused v_far v_row v_stepAt v_depth v_tries v_values v_wrong v_isEnd v_found v_reached v_stepIn v_laid v_firstRow v_text v_textLong v_spot v_taken v_counted))) (va_Qi (kb_post .int r0) (fun _ t => va_P D vwCl (wdM cI cZ h v_all v_past v_states (v_refused') v_far v_row v_stepAt v_depth v_tries v_values v_wrong v_isEnd v_found v_reached v_stepIn v_laid v_firstRow v_text v_textLong v_spot v_taken v_counted) t.heap) (va_A (wdM cI cZ h v_all v_past v_states v_refused v_far v_row v_stepAt v_depth v_tries v_values v_wrong v_isEnd v_found v_reached v_stepIn v_laid v_firstRow v_text v_textLong v_spot v_taken v_counted) sz)) 0 0 (va_A (wdM cI cZ h v_all v_past v_states v_refused v_far v_row v_stepAt v_depth v_tries v_values v_wrong v_isEnd v_found v_reached v_stepIn v_laid v_firstRow v_text v_textLong v_spot v_taken v_counted) sz) := by
  refine kb_metZ (cc := cX9_of) (maxL := 4) (ty := .int) (by decide) rfl (Nat.le_of_ble_eq_true rfl) ?_
  intro p e s m args below meth c Q A ls H hx hb hml hown hts hK hN hP hD hS hA hl hend
  have hown : s.vm.findClass RX9 = some m.cls := hown
  have hl : lv_has ls 4 [(0, .ref (h 0)), (1, .int x1), (2, .int x2), (3, .int x3)] := hl
  have J31 : ∀ (v_refused : Nat → Int32) (H : Heap) (locs : List Loc) (ls : Array Slot), f9_of_b31 v_all v_refused = some (r0, v_refused') → va_P D vwCl (wdM cI cZ h v_all v_past v_states v_refused v_far v_row v_stepAt v_depth v_tries v_values v_wrong v_isEnd v_found v_reached v_stepIn v_laid v_firstRow v_text v_textLong v_spot v_taken v_counted) H → va_D A (wdM cI cZ h v_all v_past v_states v_refused v_far v_row v_stepAt v_depth v_tries v_values v_wrong v_isEnd v_found v_reached v_stepIn v_laid v_firstRow v_text v_textLong v_spot v_taken v_counted) → va_S A s.heap H locs → lv_has ls 4 [(0, .ref (h 0))] → W p l e rm9_of s m args below meth c H locs 0 0 Q (F0 m 31 ls []) := by
    intro v_refused H locs ls hf hP hD hS hl
    rw [f9_of_b31] at hf
    refine lv_aload_n hx hb dX9_of_31 rfl (lv_at hl 0 rfl) ?_
    refine lv_bipush (v := (-2)) hx hb dX9_of_32 (by decide) ?_
    refine kb_bind hf (fun q3 hq3 hf => ?_)
    have hPc : va_P D vwCl (wdM cI cZ h v_all v_past v_states v_refused v_far v_row v_stepAt v_depth v_tries v_values v_wrong v_isEnd v_found v_reached v_stepIn v_laid v_firstRow v_text v_textLong v_spot v_taken v_counted) H := hP.sub [0, 1, 2, 3, 4, 5, 6, 7, 8, 9, 10, 11, 12, 13, 14, 15, 16] rfl
    have hDc : va_D A (wdM cI cZ h v_all v_past v_states v_refused v_far v_row v_stepAt v_depth v_tries v_values v_wrong v_isEnd v_found v_reached v_stepIn v_laid v_firstRow v_text v_textLong v_spot v_taken v_counted) := hD.sub [0, 1, 2, 3, 4, 5, 6, 7, 8, 9, 10, 11, 12, 13, 14, 15, 16] (by decide) rfl
    refine kd_iW (ws' := wdM cI cZ h v_all v_past v_states q3.2 v_far v_row v_stepAt v_depth v_tries v_values v_wrong v_isEnd v_found v_reached v_stepIn v_laid v_firstRow v_text v_textLong v_spot v_taken v_counted) (va_runV (As := [.int (-2 : Int32)]) (rest := []) ⟨hx, hb, hml, hown, hts⟩ (c9_refuses l D cB cI cZ cO h H.size (-2 : Int32) v_all v_past v_states v_refused v_far v_row v_stepAt v_depth v_tries v_values v_wrong v_isEnd v_found v_reached v_stepIn v_laid v_firstRow v_text v_textLong v_spot v_taken v_counted q3.1 q3.2 hq3) (cwV 1 hts gX9_of_X9_refuses rfl rfl rfl (by decide +kernel) ⟨Nat.le_of_ble_eq_true rfl, Nat.le_of_ble_eq_true rfl⟩) ⟨kb_blind, va_recv hK hPc (ci := 6) (q0 := 0) rfl rfl, kb_pre hPc hDc hK hN⟩ rfl rfl hl.1 rfl (lv_room (Nat.le_of_ble_eq_true rfl)) dX9_of_34 ⟨Nat.le_refl _, Nat.le_refl _⟩) hP hD hS hA [0, 1, 2, 3, 4, 5, 6, 7, 8, 9, 10, 11, 12, 13, 14, 15, 16] [] rfl rfl rfl rfl rfl (fun H locs hn4 hP hD hS => ?_)
    cases hf
    exact hend _ _ _ _ rfl hP hS dX9_of_37
  rw [f9_of] at hf
  refine lv_aload_n hx hb dX9_of_0 rfl (lv_at hl 0 rfl) ?_
  refine lv_iload_n hx hb dX9_of_1 rfl (lv_at hl 1 rfl) ?_
  refine lv_iload_n hx hb dX9_of_2 rfl (lv_at hl 2 rfl) ?_
  refine kb_bind hf (fun q5 hq5 hf => ?_)
  have hPc : va_P D vwCl (wdM cI cZ h v_all v_past v_states v_refused v_far v_row v_stepAt v_depth v_tries v_values v_wrong v_isEnd v_found v_reached v_stepIn v_laid v_firstRow v_text v_textLong v_spot v_taken v_counted) H := hP.sub [0, 1, 2, 3, 4, 5, 6, 7, 8, 9, 10, 11, 12, 13, 14, 15, 16] rfl
  have hDc : va_D A (wdM cI cZ h v_all v_past v_states v_refused v_far v_row v_stepAt v_depth v_tries v_values v_wrong v_isEnd v_found v_reached v_stepIn v_laid v_firstRow v_text v_textLong v_spot v_taken v_counted) := hD.sub [0, 1, 2, 3, 4, 5, 6, 7, 8, 9, 10, 11, 12, 13, 14, 15, 16] (by decide) rfl
  refine kd_iR (va_runV (As := [.int x1, .int x2]) (rest := []) ⟨hx, hb, hml, hown, hts⟩ (c9_isStep l D cB cI cZ cO h H.size x1 x2 v_all v_past v_states v_refused v_far v_row v_stepAt v_depth v_tries v_values v_wrong v_isEnd v_found v_reached v_stepIn v_laid v_firstRow v_text v_textLong v_spot v_taken v_counted q5 hq5) (cwV 2 hts gX9_of_X9_isStep rfl rfl rfl (by decide +kernel) ⟨Nat.le_of_ble_eq_true rfl, Nat.le_of_ble_eq_true rfl⟩) ⟨kb_blind, va_recv hK hPc (ci := 6) (q0 := 0) rfl rfl, kb_pre hPc hDc hK hN⟩ rfl rfl hl.1 rfl (lv_room (Nat.le_of_ble_eq_true rfl)) dX9_of_3 ⟨Nat.le_refl _, Nat.le_refl _⟩) hP hD hS hA [0, 1, 2, 3, 4, 5, 6, 7, 8, 9, 10, 11, 12, 13, 14, 15, 16] rfl (fun H locs hn6 hP hS => ?_)
  refine lv_if_eq (tgt := 31) hx hb dX9_of_6 (by decide) (fun c7 => ?_) (fun c7 => ?_)
  · rw [if_pos c7] at hf
    exact J31 v_refused _ _ _ hf hP hD hS (lv_sub hl [0] rfl)
  · rw [if_neg c7] at hf
    refine lv_iload_n hx hb dX9_of_9 rfl (lv_at hl 3 rfl) ?_
    refine lv_i2l (v := x3.toInt64) hx hb dX9_of_10 rfl ?_
    refine lv_lconst (v := 0) hx hb dX9_of_11 (by decide) ?_
    refine lv_ldc2 (v := 4) hx hb hown (hts (.constantLong RX9 112 (4)) (by decide +kernel)) dX9_of_12 ?_
    have hPc : va_P D vwCl ([]) H := hP.sub [] rfl
    have hDc : va_D A ([]) := hD.sub [] (by decide) rfl
    refine kd_iR (va_runS (As := [.long x3.toInt64, .long (0 : Int64), .long (4 : Int64)]) (rest := []) ⟨hx, hb, hml, hown, hts⟩ (c9_in l D cB cI cZ cO h H.size x3.toInt64 (0 : Int64) (4 : Int64) (f9_in x3.toInt64 (0 : Int64) (4 : Int64)) rfl) (va_cwS 3 hts gX9_of_X9_in rfl rfl rfl (by decide +kernel) ⟨Nat.le_of_ble_eq_true rfl, Nat.le_of_ble_eq_true rfl⟩) ⟨kb_blind, kb_pre hPc hDc hK hN⟩ rfl rfl hl.1 rfl (lv_room (Nat.le_of_ble_eq_true rfl)) dX9_of_15 ⟨Nat.le_refl _, Nat.le_refl _⟩) hP hD hS hA [] rfl (fun H locs hn8 hP hS => ?_)
    refine lv_if_eq (tgt := 31) hx hb dX9_of_18 (by decide) (fun c9 => ?_) (fun c9 => ?_)
    · rw [if_pos c9] at hf
      exact J31 v_refused _ _ _ hf hP hD hS (lv_sub hl [0] rfl)
    · rw [if_neg c9] at hf
      refine lv_aload_n hx hb dX9_of_21 rfl (lv_at hl 0 rfl) ?_
      refine lv_iload_n hx hb dX9_of_22 rfl (lv_at hl 1 rfl) ?_
      refine lv_iload_n hx hb dX9_of_23 rfl (lv_at hl 2 rfl) ?_
      refine lv_iload_n hx hb dX9_of_24 rfl (lv_at hl 3 rfl) ?_
      refine kb_bind hf (fun q10 hq10 hf => ?_)
      have hPc : va_P D vwCl (wdM cI cZ h v_all v_past v_states v_refused v_far v_row v_stepAt v_depth v_tries v_values v_wrong v_isEnd v_found v_reached v_stepIn v_laid v_firstRow v_text v_textLong v_spot v_taken v_counted) H := hP.sub [0, 1, 2, 3, 4, 5, 6, 7, 8, 9, 10, 11, 12, 13, 14, 15, 16] rfl
      have hDc : va_D A (wdM cI cZ h v_all v_past v_states v_refused v_far v_row v_stepAt v_depth v_tries v_values v_wrong v_isEnd v_found v_reached v_stepIn v_laid v_firstRow v_text v_textLong v_spot v_taken v_counted) := hD.sub [0, 1, 2, 3, 4, 5, 6, 7, 8, 9, 10, 11, 12, 13, 14, 15, 16] (by decide) rfl
      refine kd_iR (va_runV (As := [.int x1, .int x2, .int x3]) (rest := []) ⟨hx, hb, hml, hown, hts⟩ (c9_ofStep l D cB cI cZ cO h H.size x1 x2 x3 v_all v_past v_states v_refused v_far v_row v_stepAt v_depth v_tries v_values v_wrong v_isEnd v_found v_reached v_stepIn v_laid v_firstRow v_text v_textLong v_spot v_taken v_counted q10 hq10) (cwV 3 hts gX9_of_X9_ofStep rfl rfl rfl (by decide +kernel) ⟨Nat.le_of_ble_eq_true rfl, Nat.le_of_ble_eq_true rfl⟩) ⟨kb_blind, va_recv hK hPc (ci := 6) (q0 := 0) rfl rfl, kb_pre hPc hDc hK hN⟩ rfl rfl hl.1 rfl (lv_room (Nat.le_of_ble_eq_true rfl)) dX9_of_25 ⟨Nat.le_refl _, Nat.le_refl _⟩) hP hD hS hA [0, 1, 2, 3, 4, 5, 6, 7, 8, 9, 10, 11, 12, 13, 14, 15, 16] rfl (fun H locs hn11 hP hS => ?_)
      refine lv_goto (tgt := 37) hx hb dX9_of_28 (by decide) ?_
      cases hf
      exact hend _ _ _ _ rfl hP hS dX9_of_37

set_option maxHeartbeats 4000000 in
set_option maxRecDepth 100000 in
theorem c9_byNumber (l : Launch) (D : va_G) (cB cI cZ cO : ClassId) (h : Nat → Nat) (sz : Nat) (x1 : Int32) (x2 : Int32) (x3 : Int32) (x4 : Int32) (v_all : Nat → Int32) (v_past : Nat → Int32) (v_states : Int32) (v_refused : Nat → Int32) (v_far : Nat → Int32) (v_row : Nat → Int32) (v_stepAt : Nat → Int32) (v_depth : Int32) (v_tries : Nat → Int32) (v_values : Nat → Int32) (v_wrong : Int32) (v_isEnd : Nat → Int32) (v_found : Nat → Int32) (v_reached : Nat → Int32) (v_stepIn : Nat → Int32) (v_laid : Nat → Int32) (v_firstRow : Nat → Int32) (v_text : Nat → Int32) (v_textLong : Int32) (v_spot : Int32) (v_taken : Int32) (v_counted : Nat → Int32) (r0 : Int32) (hf : f9_byNumber v_all x1 x2 x3 x4 = some r0) : Met l yX9_byNumber wsX9_byNumber rm9_byNumber (va_Pc [.ref (h 0), .int x1, .int x2, .int x3, .int x4] (kb_B D (ka_tys cB cI cZ cO) sz (wdM cI cZ h v_all v_past v_states v_refused v_far v_row v_stepAt v_depth v_tries v_values v_wrong v_isEnd v_found v_reached v_stepIn v_laid v_firstRow v_text v_textLong v_spot v_taken v_counted))) (va_Qi (kb_post .boolean r0) (fun _ t => va_P D vwCl (wdM cI cZ h v_all v_past v_states v_refused v_far v_row v_stepAt v_depth v_tries v_values v_wrong v_isEnd v_found v_reached v_stepIn v_laid v_firstRow v_text v_textLong v_spot v_taken v_counted) t.heap) (va_A (wdM cI cZ h v_all v_past v_states v_refused v_far v_row v_stepAt v_depth v_tries v_values v_wrong v_isEnd v_found v_reached v_stepIn v_laid v_firstRow v_text v_textLong v_spot v_taken v_counted) sz)) 0 0 (va_A (wdM cI cZ h v_all v_past v_states v_refused v_far v_row v_stepAt v_depth v_tries v_values v_wrong v_isEnd v_found v_reached v_stepIn v_laid v_firstRow v_text v_textLong v_spot v_taken v_counted) sz) := by
  refine kb_metZ (cc := cX9_byNumber) (maxL := 5) (ty := .boolean) (by decide) rfl (Nat.le_of_ble_eq_true rfl) ?_
  intro p e s m args below meth c Q A ls H hx hb hml hown hts hK hN hP hD hS hA hl hend
  have hown : s.vm.findClass RX9 = some m.cls := hown
  have hl : lv_has ls 5 [(0, .ref (h 0)), (1, .int x1), (2, .int x2), (3, .int x3), (4, .int x4)] := hl
  have J42 : ∀  (H : Heap) (locs : List Loc) (ls : Array Slot), f9_byNumber_b42 v_all = some r0 → va_P D vwCl (wdM cI cZ h v_all v_past v_states v_refused v_far v_row v_stepAt v_depth v_tries v_values v_wrong v_isEnd v_found v_reached v_stepIn v_laid v_firstRow v_text v_textLong v_spot v_taken v_counted) H → va_D A (wdM cI cZ h v_all v_past v_states v_refused v_far v_row v_stepAt v_depth v_tries v_values v_wrong v_isEnd v_found v_reached v_stepIn v_laid v_firstRow v_text v_textLong v_spot v_taken v_counted) → va_S A s.heap H locs → lv_has ls 5 [] → W p l e rm9_byNumber s m args below meth c H locs 0 0 Q (F0 m 42 ls []) := by
    intro  H locs ls hf hP hD hS hl
    rw [f9_byNumber_b42] at hf
    refine lv_iconst (v := 1) hx hb dX9_byNumber_42 (by decide) ?_
    refine lv_goto (tgt := 47) hx hb dX9_byNumber_43 (by decide) ?_
    cases hf
    exact hend _ _ _ _ rfl hP hS dX9_byNumber_47
  rw [f9_byNumber] at hf
  refine lv_aload_n hx hb dX9_byNumber_0 rfl (lv_at hl 0 rfl) ?_
  refine lv_iload_n hx hb dX9_byNumber_1 rfl (lv_at hl 1 rfl) ?_
  refine lv_iload_n hx hb dX9_byNumber_2 rfl (lv_at hl 2 rfl) ?_
  refine kb_bind hf (fun q1 hq1 hf => ?_)
  have hPc : va_P D vwCl (wdM cI cZ h v_all v_past v_states v_refused v_far v_row v_stepAt v_depth v_tries v_values v_wrong v_isEnd v_found v_reached v_stepIn v_laid v_firstRow v_text v_textLong v_spot v_taken v_counted) H := hP.sub [0, 1, 2, 3, 4, 5, 6, 7, 8, 9, 10, 11, 12, 13, 14, 15, 16] rfl
  have hDc : va_D A (wdM cI cZ h v_all v_past v_states v_refused v_far v_row v_stepAt v_depth v_tries v_values v_wrong v_isEnd v_found v_reached v_stepIn v_laid v_firstRow v_text v_textLong v_spot v_taken v_counted) := hD.sub [0, 1, 2, 3, 4, 5, 6, 7, 8, 9, 10, 11, 12, 13, 14, 15, 16] (by decide) rfl
  refine kd_iR (va_runV (As := [.int x1, .int x2]) (rest := []) ⟨hx, hb, hml, hown, hts⟩ (c9_writes l D cB cI cZ cO h H.size x1 x2 v_all v_past v_states v_refused v_far v_row v_stepAt v_depth v_tries v_values v_wrong v_isEnd v_found v_reached v_stepIn v_laid v_firstRow v_text v_textLong v_spot v_taken v_counted q1 hq1) (cwV 2 hts gX9_byNumber_X9_writes rfl rfl rfl (by decide +kernel) ⟨Nat.le_of_ble_eq_true rfl, Nat.le_of_ble_eq_true rfl⟩) ⟨kb_blind, va_recv hK hPc (ci := 6) (q0 := 0) rfl rfl, kb_pre hPc hDc hK hN⟩ rfl rfl hl.1 rfl (lv_room (Nat.le_of_ble_eq_true rfl)) dX9_byNumber_3 ⟨Nat.le_refl _, Nat.le_refl _⟩) hP hD hS hA [0, 1, 2, 3, 4, 5, 6, 7, 8, 9, 10, 11, 12, 13, 14, 15, 16] rfl (fun H locs hn2 hP hS => ?_)
  refine lv_aload_n hx hb dX9_byNumber_6 rfl (lv_at hl 0 rfl) ?_
  refine lv_iload_n hx hb dX9_byNumber_7 rfl (lv_at hl 3 rfl) ?_
  refine lv_iload hx hb dX9_byNumber_8 (lv_at hl 4 rfl) ?_
  refine kb_bind hf (fun q3 hq3 hf => ?_)
  have hPc : va_P D vwCl (wdM cI cZ h v_all v_past v_states v_refused v_far v_row v_stepAt v_depth v_tries v_values v_wrong v_isEnd v_found v_reached v_stepIn v_laid v_firstRow v_text v_textLong v_spot v_taken v_counted) H := hP.sub [0, 1, 2, 3, 4, 5, 6, 7, 8, 9, 10, 11, 12, 13, 14, 15, 16] rfl
  have hDc : va_D A (wdM cI cZ h v_all v_past v_states v_refused v_far v_row v_stepAt v_depth v_tries v_values v_wrong v_isEnd v_found v_reached v_stepIn v_laid v_firstRow v_text v_textLong v_spot v_taken v_counted) := hD.sub [0, 1, 2, 3, 4, 5, 6, 7, 8, 9, 10, 11, 12, 13, 14, 15, 16] (by decide) rfl
  refine kd_iR (va_runV (As := [.int x3, .int x4]) (rest := [.int q1]) ⟨hx, hb, hml, hown, hts⟩ (c9_readBy l D cB cI cZ cO h H.size x3 x4 v_all v_past v_states v_refused v_far v_row v_stepAt v_depth v_tries v_values v_wrong v_isEnd v_found v_reached v_stepIn v_laid v_firstRow v_text v_textLong v_spot v_taken v_counted q3 hq3) (cwV 2 hts gX9_byNumber_X9_readBy rfl rfl rfl (by decide +kernel) ⟨Nat.le_of_ble_eq_true rfl, Nat.le_of_ble_eq_true rfl⟩) ⟨kb_blind, va_recv hK hPc (ci := 6) (q0 := 0) rfl rfl, kb_pre hPc hDc hK hN⟩ rfl rfl hl.1 rfl (lv_room (Nat.le_of_ble_eq_true rfl)) dX9_byNumber_10 ⟨Nat.le_refl _, Nat.le_refl _⟩) hP hD hS hA [0, 1, 2, 3, 4, 5, 6, 7, 8, 9, 10, 11, 12, 13, 14, 15, 16] rfl (fun H locs hn4 hP hS => ?_)
  refine lv_aload_n hx hb dX9_byNumber_13 rfl (lv_at hl 0 rfl) ?_
  refine lv_iload_n hx hb dX9_byNumber_14 rfl (lv_at hl 3 rfl) ?_
  refine lv_iload hx hb dX9_byNumber_15 (lv_at hl 4 rfl) ?_
  refine kb_bind hf (fun q5 hq5 hf => ?_)
  have hPc : va_P D vwCl (wdM cI cZ h v_all v_past v_states v_refused v_far v_row v_stepAt v_depth v_tries v_values v_wrong v_isEnd v_found v_reached v_stepIn v_laid v_firstRow v_text v_textLong v_spot v_taken v_counted) H := hP.sub [0, 1, 2, 3, 4, 5, 6, 7, 8, 9, 10, 11, 12, 13, 14, 15, 16] rfl
  have hDc : va_D A (wdM cI cZ h v_all v_past v_states v_refused v_far v_row v_stepAt v_depth v_tries v_values v_wrong v_isEnd v_found v_reached v_stepIn v_laid v_firstRow v_text v_textLong v_spot v_taken v_counted) := hD.sub [0, 1, 2, 3, 4, 5, 6, 7, 8, 9, 10, 11, 12, 13, 14, 15, 16] (by decide) rfl
  refine kd_iR (va_runV (As := [.int x3, .int x4]) (rest := [.int q3, .int q1]) ⟨hx, hb, hml, hown, hts⟩ (c9_writes l D cB cI cZ cO h H.size x3 x4 v_all v_past v_states v_refused v_far v_row v_stepAt v_depth v_tries v_values v_wrong v_isEnd v_found v_reached v_stepIn v_laid v_firstRow v_text v_textLong v_spot v_taken v_counted q5 hq5) (cwV 2 hts gX9_byNumber_X9_writes rfl rfl rfl (by decide +kernel) ⟨Nat.le_of_ble_eq_true rfl, Nat.le_of_ble_eq_true rfl⟩) ⟨kb_blind, va_recv hK hPc (ci := 6) (q0 := 0) rfl rfl, kb_pre hPc hDc hK hN⟩ rfl rfl hl.1 rfl (lv_room (Nat.le_of_ble_eq_true rfl)) dX9_byNumber_17 ⟨Nat.le_refl _, Nat.le_refl _⟩) hP hD hS hA [0, 1, 2, 3, 4, 5, 6, 7, 8, 9, 10, 11, 12, 13, 14, 15, 16] rfl (fun H locs hn6 hP hS => ?_)
  refine lv_ior hx hb dX9_byNumber_20 ?_
  refine lv_iand hx hb dX9_byNumber_21 ?_
  refine lv_if_ne (tgt := 42) hx hb dX9_byNumber_22 (by decide) (fun c7 => ?_) (fun c7 => ?_)
  · rw [if_neg c7] at hf
    exact J42  _ _ _ hf hP hD hS (lv_sub hl [] rfl)
  · rw [if_pos c7] at hf
    refine lv_aload_n hx hb dX9_byNumber_25 rfl (lv_at hl 0 rfl) ?_
    refine lv_iload_n hx hb dX9_byNumber_26 rfl (lv_at hl 3 rfl) ?_
    refine lv_iload hx hb dX9_byNumber_27 (lv_at hl 4 rfl) ?_
    refine kb_bind hf (fun q8 hq8 hf => ?_)
    have hPc : va_P D vwCl (wdM cI cZ h v_all v_past v_states v_refused v_far v_row v_stepAt v_depth v_tries v_values v_wrong v_isEnd v_found v_reached v_stepIn v_laid v_firstRow v_text v_textLong v_spot v_taken v_counted) H := hP.sub [0, 1, 2, 3, 4, 5, 6, 7, 8, 9, 10, 11, 12, 13, 14, 15, 16] rfl
    have hDc : va_D A (wdM cI cZ h v_all v_past v_states v_refused v_far v_row v_stepAt v_depth v_tries v_values v_wrong v_isEnd v_found v_reached v_stepIn v_laid v_firstRow v_text v_textLong v_spot v_taken v_counted) := hD.sub [0, 1, 2, 3, 4, 5, 6, 7, 8, 9, 10, 11, 12, 13, 14, 15, 16] (by decide) rfl
    refine kd_iR (va_runV (As := [.int x3, .int x4]) (rest := []) ⟨hx, hb, hml, hown, hts⟩ (c9_writes l D cB cI cZ cO h H.size x3 x4 v_all v_past v_states v_refused v_far v_row v_stepAt v_depth v_tries v_values v_wrong v_isEnd v_found v_reached v_stepIn v_laid v_firstRow v_text v_textLong v_spot v_taken v_counted q8 hq8) (cwV 2 hts gX9_byNumber_X9_writes rfl rfl rfl (by decide +kernel) ⟨Nat.le_of_ble_eq_true rfl, Nat.le_of_ble_eq_true rfl⟩) ⟨kb_blind, va_recv hK hPc (ci := 6) (q0 := 0) rfl rfl, kb_pre hPc hDc hK hN⟩ rfl rfl hl.1 rfl (lv_room (Nat.le_of_ble_eq_true rfl)) dX9_byNumber_29 ⟨Nat.le_refl _, Nat.le_refl _⟩) hP hD hS hA [0, 1, 2, 3, 4, 5, 6, 7, 8, 9, 10, 11, 12, 13, 14, 15, 16] rfl (fun H locs hn9 hP hS => ?_)
    refine lv_aload_n hx hb dX9_byNumber_32 rfl (lv_at hl 0 rfl) ?_
    refine lv_iload_n hx hb dX9_byNumber_33 rfl (lv_at hl 1 rfl) ?_
    refine lv_iload_n hx hb dX9_byNumber_34 rfl (lv_at hl 2 rfl) ?_
    refine kb_bind hf (fun q10 hq10 hf => ?_)
    have hPc : va_P D vwCl (wdM cI cZ h v_all v_past v_states v_refused v_far v_row v_stepAt v_depth v_tries v_values v_wrong v_isEnd v_found v_reached v_stepIn v_laid v_firstRow v_text v_textLong v_spot v_taken v_counted) H := hP.sub [0, 1, 2, 3, 4, 5, 6, 7, 8, 9, 10, 11, 12, 13, 14, 15, 16] rfl
    have hDc : va_D A (wdM cI cZ h v_all v_past v_states v_refused v_far v_row v_stepAt v_depth v_tries v_values v_wrong v_isEnd v_found v_reached v_stepIn v_laid v_firstRow v_text v_textLong v_spot v_taken v_counted) := hD.sub [0, 1, 2, 3, 4, 5, 6, 7, 8, 9, 10, 11, 12, 13, 14, 15, 16] (by decide) rfl
    refine kd_iR (va_runV (As := [.int x1, .int x2]) (rest := [.int q8]) ⟨hx, hb, hml, hown, hts⟩ (c9_readBy l D cB cI cZ cO h H.size x1 x2 v_all v_past v_states v_refused v_far v_row v_stepAt v_depth v_tries v_values v_wrong v_isEnd v_found v_reached v_stepIn v_laid v_firstRow v_text v_textLong v_spot v_taken v_counted q10 hq10) (cwV 2 hts gX9_byNumber_X9_readBy rfl rfl rfl (by decide +kernel) ⟨Nat.le_of_ble_eq_true rfl, Nat.le_of_ble_eq_true rfl⟩) ⟨kb_blind, va_recv hK hPc (ci := 6) (q0 := 0) rfl rfl, kb_pre hPc hDc hK hN⟩ rfl rfl hl.1 rfl (lv_room (Nat.le_of_ble_eq_true rfl)) dX9_byNumber_35 ⟨Nat.le_refl _, Nat.le_refl _⟩) hP hD hS hA [0, 1, 2, 3, 4, 5, 6, 7, 8, 9, 10, 11, 12, 13, 14, 15, 16] rfl (fun H locs hn11 hP hS => ?_)
    refine lv_iand hx hb dX9_byNumber_38 ?_
    refine lv_if_eq (tgt := 46) hx hb dX9_byNumber_39 (by decide) (fun c12 => ?_) (fun c12 => ?_)
    · rw [if_pos c12] at hf
      refine lv_iconst (v := 0) hx hb dX9_byNumber_46 (by decide) ?_
      cases hf
      exact hend _ _ _ _ rfl hP hS dX9_byNumber_47
    · rw [if_neg c12] at hf
      exact J42  _ _ _ hf hP hD hS (lv_sub hl [] rfl)

set_option maxHeartbeats 4000000 in
set_option maxRecDepth 100000 in
theorem c9_areDependent (l : Launch) (D : va_G) (cB cI cZ cO : ClassId) (h : Nat → Nat) (sz : Nat) (x1 : Int32) (x2 : Int32) (x3 : Int32) (x4 : Int32) (v_all : Nat → Int32) (v_past : Nat → Int32) (v_states : Int32) (v_refused : Nat → Int32) (v_far : Nat → Int32) (v_row : Nat → Int32) (v_stepAt : Nat → Int32) (v_depth : Int32) (v_tries : Nat → Int32) (v_values : Nat → Int32) (v_wrong : Int32) (v_isEnd : Nat → Int32) (v_found : Nat → Int32) (v_reached : Nat → Int32) (v_stepIn : Nat → Int32) (v_laid : Nat → Int32) (v_firstRow : Nat → Int32) (v_text : Nat → Int32) (v_textLong : Int32) (v_spot : Int32) (v_taken : Int32) (v_counted : Nat → Int32) (r0 : Int32) (hf : f9_areDependent v_all x1 x2 x3 x4 = some r0) : Met l yX9_areDependent wsX9_areDependent rm9_areDependent (va_Pc [.ref (h 0), .int x1, .int x2, .int x3, .int x4] (kb_B D (ka_tys cB cI cZ cO) sz (wdM cI cZ h v_all v_past v_states v_refused v_far v_row v_stepAt v_depth v_tries v_values v_wrong v_isEnd v_found v_reached v_stepIn v_laid v_firstRow v_text v_textLong v_spot v_taken v_counted))) (va_Qi (kb_post .boolean r0) (fun _ t => va_P D vwCl (wdM cI cZ h v_all v_past v_states v_refused v_far v_row v_stepAt v_depth v_tries v_values v_wrong v_isEnd v_found v_reached v_stepIn v_laid v_firstRow v_text v_textLong v_spot v_taken v_counted) t.heap) (va_A (wdM cI cZ h v_all v_past v_states v_refused v_far v_row v_stepAt v_depth v_tries v_values v_wrong v_isEnd v_found v_reached v_stepIn v_laid v_firstRow v_text v_textLong v_spot v_taken v_counted) sz)) 0 0 (va_A (wdM cI cZ h v_all v_past v_states v_refused v_far v_row v_stepAt v_depth v_tries v_values v_wrong v_isEnd v_found v_reached v_stepIn v_laid v_firstRow v_text v_textLong v_spot v_taken v_counted) sz) := by
  refine kb_metZ (cc := cX9_areDependent) (maxL := 6) (ty := .boolean) (by decide) rfl (Nat.le_of_ble_eq_true rfl) ?_
  intro p e s m args below meth c Q A ls H hx hb hml hown hts hK hN hP hD hS hA hl hend
  have hown : s.vm.findClass RX9 = some m.cls := hown
  have hl : lv_has ls 6 [(0, .ref (h 0)), (1, .int x1), (2, .int x2), (3, .int x3), (4, .int x4)] := hl
  have J70 : ∀  (H : Heap) (locs : List Loc) (ls : Array Slot), f9_areDependent_b70 v_all = some r0 → va_P D vwCl (wdM cI cZ h v_all v_past v_states v_refused v_far v_row v_stepAt v_depth v_tries v_values v_wrong v_isEnd v_found v_reached v_stepIn v_laid v_firstRow v_text v_textLong v_spot v_taken v_counted) H → va_D A (wdM cI cZ h v_all v_past v_states v_refused v_far v_row v_stepAt v_depth v_tries v_values v_wrong v_isEnd v_found v_reached v_stepIn v_laid v_firstRow v_text v_textLong v_spot v_taken v_counted) → va_S A s.heap H locs → lv_has ls 6 [] → W p l e rm9_areDependent s m args below meth c H locs 0 0 Q (F0 m 70 ls []) := by
    intro  H locs ls hf hP hD hS hl
    rw [f9_areDependent_b70] at hf
    refine lv_iconst (v := 1) hx hb dX9_areDependent_70 (by decide) ?_
    refine lv_goto (tgt := 75) hx hb dX9_areDependent_71 (by decide) ?_
    cases hf
    exact hend _ _ _ _ rfl hP hS dX9_areDependent_75
  have J46 : ∀ (x1 : Int32) (x2 : Int32) (x3 : Int32) (x4 : Int32) (s0 : Int32) (H : Heap) (locs : List Loc) (ls : Array Slot), f9_areDependent_b46 v_all x1 x2 x3 x4 s0 = some r0 → va_P D vwCl (wdM cI cZ h v_all v_past v_states v_refused v_far v_row v_stepAt v_depth v_tries v_values v_wrong v_isEnd v_found v_reached v_stepIn v_laid v_firstRow v_text v_textLong v_spot v_taken v_counted) H → va_D A (wdM cI cZ h v_all v_past v_states v_refused v_far v_row v_stepAt v_depth v_tries v_values v_wrong v_isEnd v_found v_reached v_stepIn v_laid v_firstRow v_text v_textLong v_spot v_taken v_counted) → va_S A s.heap H locs → lv_has ls 6 [(0, .ref (h 0)), (1, .int x1), (2, .int x2), (3, .int x3), (4, .int x4)] → W p l e rm9_areDependent s m args below meth c H locs 0 0 Q (F0 m 46 ls [.int s0]) := by
    intro x1 x2 x3 x4 s0 H locs ls hf hP hD hS hl
    rw [f9_areDependent_b46] at hf
    refine lv_istore (lv' := [(5, .int s0), (0, .ref (h 0)), (1, .int x1), (2, .int x2), (3, .int x3), (4, .int x4)]) hx hb dX9_areDependent_46 hl (by decide) rfl (fun ls hl => ?_)
    refine lv_iload_n hx hb dX9_areDependent_48 rfl (lv_at hl 2 rfl) ?_
    refine lv_iload_n hx hb dX9_areDependent_49 rfl (lv_at hl 4 rfl) ?_
    refine lv_icmp_eq (tgt := 70) hx hb dX9_areDependent_50 (by decide) (fun c6 => ?_) (fun c6 => ?_)
    · rw [if_pos c6] at hf
      exact J70  _ _ _ hf hP hD hS (lv_sub hl [] rfl)
    · rw [if_neg c6] at hf
      refine lv_iload hx hb dX9_areDependent_53 (lv_at hl 0 rfl) ?_
      refine lv_if_ne (tgt := 70) hx hb dX9_areDependent_55 (by decide) (fun c7 => ?_) (fun c7 => ?_)
      · rw [if_neg c7] at hf
        exact J70  _ _ _ hf hP hD hS (lv_sub hl [] rfl)
      · rw [if_pos c7] at hf
        refine lv_aload_n hx hb dX9_areDependent_58 rfl (lv_at hl 1 rfl) ?_
        refine lv_iload_n hx hb dX9_areDependent_59 rfl (lv_at hl 2 rfl) ?_
        refine lv_iload_n hx hb dX9_areDependent_60 rfl (lv_at hl 3 rfl) ?_
        refine lv_iload_n hx hb dX9_areDependent_61 rfl (lv_at hl 4 rfl) ?_
        refine lv_iload hx hb dX9_areDependent_62 (lv_at hl 5 rfl) ?_
        refine kb_bind hf (fun q8 hq8 hf => ?_)
        have hPc : va_P D vwCl (wdM cI cZ h v_all v_past v_states v_refused v_far v_row v_stepAt v_depth v_tries v_values v_wrong v_isEnd v_found v_reached v_stepIn v_laid v_firstRow v_text v_textLong v_spot v_taken v_counted) H := hP.sub [0, 1, 2, 3, 4, 5, 6, 7, 8, 9, 10, 11, 12, 13, 14, 15, 16] rfl
        have hDc : va_D A (wdM cI cZ h v_all v_past v_states v_refused v_far v_row v_stepAt v_depth v_tries v_values v_wrong v_isEnd v_found v_reached v_stepIn v_laid v_firstRow v_text v_textLong v_spot v_taken v_counted) := hD.sub [0, 1, 2, 3, 4, 5, 6, 7, 8, 9, 10, 11, 12, 13, 14, 15, 16] (by decide) rfl
        refine kd_iR (va_runV (As := [.int x1, .int x2, .int x3, .int x4]) (rest := []) ⟨hx, hb, hml, hown, hts⟩ (c9_byNumber l D cB cI cZ cO h H.size x1 x2 x3 x4 v_all v_past v_states v_refused v_far v_row v_stepAt v_depth v_tries v_values v_wrong v_isEnd v_found v_reached v_stepIn v_laid v_firstRow v_text v_textLong v_spot v_taken v_counted q8 hq8) (cwV 4 hts gX9_areDependent_X9_byNumber rfl rfl rfl (by decide +kernel) ⟨Nat.le_of_ble_eq_true rfl, Nat.le_of_ble_eq_true rfl⟩) ⟨kb_blind, va_recv hK hPc (ci := 6) (q0 := 0) rfl rfl, kb_pre hPc hDc hK hN⟩ rfl rfl hl.1 rfl (lv_room (Nat.le_of_ble_eq_true rfl)) dX9_areDependent_64 ⟨Nat.le_refl _, Nat.le_refl _⟩) hP hD hS hA [0, 1, 2, 3, 4, 5, 6, 7, 8, 9, 10, 11, 12, 13, 14, 15, 16] rfl (fun H locs hn9 hP hS => ?_)
        refine lv_if_eq (tgt := 74) hx hb dX9_areDependent_67 (by decide) (fun c10 => ?_) (fun c10 => ?_)
        · rw [if_pos c10] at hf
          refine lv_iconst (v := 0) hx hb dX9_areDependent_74 (by decide) ?_
          cases hf
          exact hend _ _ _ _ rfl hP hS dX9_areDependent_75
        · rw [if_neg c10] at hf
          exact J70  _ _ _ hf hP hD hS (lv_sub hl [] rfl)
  have J45 : ∀ (x1 : Int32) (x2 : Int32) (x3 : Int32) (x4 : Int32) (H : Heap) (locs : List Loc) (ls : Array Slot), f9_areDependent_b45 v_all x1 x2 x3 x4 = some r0 → va_P D vwCl (wdM cI cZ h v_all v_past v_states v_refused v_far v_row v_stepAt v_depth v_tries v_values v_wrong v_isEnd v_found v_reached v_stepIn v_laid v_firstRow v_text v_textLong v_spot v_taken v_counted) H → va_D A (wdM cI cZ h v_all v_past v_states v_refused v_far v_row v_stepAt v_depth v_tries v_values v_wrong v_isEnd v_found v_reached v_stepIn v_laid v_firstRow v_text v_textLong v_spot v_taken v_counted) → va_S A s.heap H locs → lv_has ls 6 [(0, .ref (h 0)), (1, .int x1), (2, .int x2), (3, .int x3), (4, .int x4)] → W p l e rm9_areDependent s m args below meth c H locs 0 0 Q (F0 m 45 ls []) := by
    intro x1 x2 x3 x4 H locs ls hf hP hD hS hl
    rw [f9_areDependent_b45] at hf
    refine lv_iconst (v := 0) hx hb dX9_areDependent_45 (by decide) ?_
    exact J46 x1 x2 x3 x4 (0 : Int32) _ _ _ hf hP hD hS (lv_sub hl [0, 1, 2, 3, 4] rfl)
  rw [f9_areDependent] at hf
  refine lv_aload_n hx hb dX9_areDependent_0 rfl (lv_at hl 0 rfl) ?_
  refine lv_iload_n hx hb dX9_areDependent_1 rfl (lv_at hl 1 rfl) ?_
  refine lv_iload_n hx hb dX9_areDependent_2 rfl (lv_at hl 2 rfl) ?_
  refine lv_iconst (v := 0) hx hb dX9_areDependent_3 (by decide) ?_
  refine kb_bind hf (fun q11 hq11 hf => ?_)
  have hPc : va_P D vwCl (wdM cI cZ h v_all v_past v_states v_refused v_far v_row v_stepAt v_depth v_tries v_values v_wrong v_isEnd v_found v_reached v_stepIn v_laid v_firstRow v_text v_textLong v_spot v_taken v_counted) H := hP.sub [0, 1, 2, 3, 4, 5, 6, 7, 8, 9, 10, 11, 12, 13, 14, 15, 16] rfl
  have hDc : va_D A (wdM cI cZ h v_all v_past v_states v_refused v_far v_row v_stepAt v_depth v_tries v_values v_wrong v_isEnd v_found v_reached v_stepIn v_laid v_firstRow v_text v_textLong v_spot v_taken v_counted) := hD.sub [0, 1, 2, 3, 4, 5, 6, 7, 8, 9, 10, 11, 12, 13, 14, 15, 16] (by decide) rfl
  refine kd_iR (va_runV (As := [.int x1, .int x2, .int (0 : Int32)]) (rest := []) ⟨hx, hb, hml, hown, hts⟩ (c9_its l D cB cI cZ cO h H.size x1 x2 (0 : Int32) v_all v_past v_states v_refused v_far v_row v_stepAt v_depth v_tries v_values v_wrong v_isEnd v_found v_reached v_stepIn v_laid v_firstRow v_text v_textLong v_spot v_taken v_counted q11 hq11) (cwV 3 hts gX9_areDependent_X9_its rfl rfl rfl (by decide +kernel) ⟨Nat.le_of_ble_eq_true rfl, Nat.le_of_ble_eq_true rfl⟩) ⟨kb_blind, va_recv hK hPc (ci := 6) (q0 := 0) rfl rfl, kb_pre hPc hDc hK hN⟩ rfl rfl hl.1 rfl (lv_room (Nat.le_of_ble_eq_true rfl)) dX9_areDependent_4 ⟨Nat.le_refl _, Nat.le_refl _⟩) hP hD hS hA [0, 1, 2, 3, 4, 5, 6, 7, 8, 9, 10, 11, 12, 13, 14, 15, 16] rfl (fun H locs hn12 hP hS => ?_)
  refine lv_iconst (v := 4) hx hb dX9_areDependent_7 (by decide) ?_
  refine lv_icmp_lt (tgt := 45) hx hb dX9_areDependent_8 (by decide) (fun c13 => ?_) (fun c13 => ?_)
  · rw [if_pos c13] at hf
    exact J45 x1 x2 x3 x4 _ _ _ hf hP hD hS (lv_sub hl [0, 1, 2, 3, 4] rfl)
  · rw [if_neg c13] at hf
    refine lv_aload_n hx hb dX9_areDependent_11 rfl (lv_at hl 0 rfl) ?_
    refine lv_iload_n hx hb dX9_areDependent_12 rfl (lv_at hl 3 rfl) ?_
    refine lv_iload hx hb dX9_areDependent_13 (lv_at hl 4 rfl) ?_
    refine lv_iconst (v := 0) hx hb dX9_areDependent_15 (by decide) ?_
    refine kb_bind hf (fun q14 hq14 hf => ?_)
    have hPc : va_P D vwCl (wdM cI cZ h v_all v_past v_states v_refused v_far v_row v_stepAt v_depth v_tries v_values v_wrong v_isEnd v_found v_reached v_stepIn v_laid v_firstRow v_text v_textLong v_spot v_taken v_counted) H := hP.sub [0, 1, 2, 3, 4, 5, 6, 7, 8, 9, 10, 11, 12, 13, 14, 15, 16] rfl
    have hDc : va_D A (wdM cI cZ h v_all v_past v_states v_refused v_far v_row v_stepAt v_depth v_tries v_values v_wrong v_isEnd v_found v_reached v_stepIn v_laid v_firstRow v_text v_textLong v_spot v_taken v_counted) := hD.sub [0, 1, 2, 3, 4, 5, 6, 7, 8, 9, 10, 11, 12, 13, 14, 15, 16] (by decide) rfl
    refine kd_iR (va_runV (As := [.int x3, .int x4, .int (0 : Int32)]) (rest := []) ⟨hx, hb, hml, hown, hts⟩ (c9_its l D cB cI cZ cO h H.size x3 x4 (0 : Int32) v_all v_past v_states v_refused v_far v_row v_stepAt v_depth v_tries v_values v_wrong v_isEnd v_found v_reached v_stepIn v_laid v_firstRow v_text v_textLong v_spot v_taken v_counted q14 hq14) (cwV 3 hts gX9_areDependent_X9_its rfl rfl rfl (by decide +kernel) ⟨Nat.le_of_ble_eq_true rfl, Nat.le_of_ble_eq_true rfl⟩) ⟨kb_blind, va_recv hK hPc (ci := 6) (q0 := 0) rfl rfl, kb_pre hPc hDc hK hN⟩ rfl rfl hl.1 rfl (lv_room (Nat.le_of_ble_eq_true rfl)) dX9_areDependent_16 ⟨Nat.le_refl _, Nat.le_refl _⟩) hP hD hS hA [0, 1, 2, 3, 4, 5, 6, 7, 8, 9, 10, 11, 12, 13, 14, 15, 16] rfl (fun H locs hn15 hP hS => ?_)
    refine lv_iconst (v := 4) hx hb dX9_areDependent_19 (by decide) ?_
    refine lv_icmp_lt (tgt := 45) hx hb dX9_areDependent_20 (by decide) (fun c16 => ?_) (fun c16 => ?_)
    · rw [if_pos c16] at hf
      exact J45 x1 x2 x3 x4 _ _ _ hf hP hD hS (lv_sub hl [0, 1, 2, 3, 4] rfl)
    · rw [if_neg c16] at hf
      refine lv_aload_n hx hb dX9_areDependent_23 rfl (lv_at hl 0 rfl) ?_
      refine lv_iload_n hx hb dX9_areDependent_24 rfl (lv_at hl 1 rfl) ?_
      refine lv_iload_n hx hb dX9_areDependent_25 rfl (lv_at hl 2 rfl) ?_
      refine lv_iconst (v := 1) hx hb dX9_areDependent_26 (by decide) ?_
      refine kb_bind hf (fun q17 hq17 hf => ?_)
      have hPc : va_P D vwCl (wdM cI cZ h v_all v_past v_states v_refused v_far v_row v_stepAt v_depth v_tries v_values v_wrong v_isEnd v_found v_reached v_stepIn v_laid v_firstRow v_text v_textLong v_spot v_taken v_counted) H := hP.sub [0, 1, 2, 3, 4, 5, 6, 7, 8, 9, 10, 11, 12, 13, 14, 15, 16] rfl
      have hDc : va_D A (wdM cI cZ h v_all v_past v_states v_refused v_far v_row v_stepAt v_depth v_tries v_values v_wrong v_isEnd v_found v_reached v_stepIn v_laid v_firstRow v_text v_textLong v_spot v_taken v_counted) := hD.sub [0, 1, 2, 3, 4, 5, 6, 7, 8, 9, 10, 11, 12, 13, 14, 15, 16] (by decide) rfl
      refine kd_iR (va_runV (As := [.int x1, .int x2, .int (1 : Int32)]) (rest := []) ⟨hx, hb, hml, hown, hts⟩ (c9_its l D cB cI cZ cO h H.size x1 x2 (1 : Int32) v_all v_past v_states v_refused v_far v_row v_stepAt v_depth v_tries v_values v_wrong v_isEnd v_found v_reached v_stepIn v_laid v_firstRow v_text v_textLong v_spot v_taken v_counted q17 hq17) (cwV 3 hts gX9_areDependent_X9_its rfl rfl rfl (by decide +kernel) ⟨Nat.le_of_ble_eq_true rfl, Nat.le_of_ble_eq_true rfl⟩) ⟨kb_blind, va_recv hK hPc (ci := 6) (q0 := 0) rfl rfl, kb_pre hPc hDc hK hN⟩ rfl rfl hl.1 rfl (lv_room (Nat.le_of_ble_eq_true rfl)) dX9_areDependent_27 ⟨Nat.le_refl _, Nat.le_refl _⟩) hP hD hS hA [0, 1, 2, 3, 4, 5, 6, 7, 8, 9, 10, 11, 12, 13, 14, 15, 16] rfl (fun H locs hn18 hP hS => ?_)
      refine lv_aload_n hx hb dX9_areDependent_30 rfl (lv_at hl 0 rfl) ?_
      refine lv_iload_n hx hb dX9_areDependent_31 rfl (lv_at hl 3 rfl) ?_
      refine lv_iload hx hb dX9_areDependent_32 (lv_at hl 4 rfl) ?_
      refine lv_iconst (v := 1) hx hb dX9_areDependent_34 (by decide) ?_
      refine kb_bind hf (fun q19 hq19 hf => ?_)
      have hPc : va_P D vwCl (wdM cI cZ h v_all v_past v_states v_refused v_far v_row v_stepAt v_depth v_tries v_values v_wrong v_isEnd v_found v_reached v_stepIn v_laid v_firstRow v_text v_textLong v_spot v_taken v_counted) H := hP.sub [0, 1, 2, 3, 4, 5, 6, 7, 8, 9, 10, 11, 12, 13, 14, 15, 16] rfl
      have hDc : va_D A (wdM cI cZ h v_all v_past v_states v_refused v_far v_row v_stepAt v_depth v_tries v_values v_wrong v_isEnd v_found v_reached v_stepIn v_laid v_firstRow v_text v_textLong v_spot v_taken v_counted) := hD.sub [0, 1, 2, 3, 4, 5, 6, 7, 8, 9, 10, 11, 12, 13, 14, 15, 16] (by decide) rfl
      refine kd_iR (va_runV (As := [.int x3, .int x4, .int (1 : Int32)]) (rest := [.int q17]) ⟨hx, hb, hml, hown, hts⟩ (c9_its l D cB cI cZ cO h H.size x3 x4 (1 : Int32) v_all v_past v_states v_refused v_far v_row v_stepAt v_depth v_tries v_values v_wrong v_isEnd v_found v_reached v_stepIn v_laid v_firstRow v_text v_textLong v_spot v_taken v_counted q19 hq19) (cwV 3 hts gX9_areDependent_X9_its rfl rfl rfl (by decide +kernel) ⟨Nat.le_of_ble_eq_true rfl, Nat.le_of_ble_eq_true rfl⟩) ⟨kb_blind, va_recv hK hPc (ci := 6) (q0 := 0) rfl rfl, kb_pre hPc hDc hK hN⟩ rfl rfl hl.1 rfl (lv_room (Nat.le_of_ble_eq_true rfl)) dX9_areDependent_35 ⟨Nat.le_refl _, Nat.le_refl _⟩) hP hD hS hA [0, 1, 2, 3, 4, 5, 6, 7, 8, 9, 10, 11, 12, 13, 14, 15, 16] rfl (fun H locs hn20 hP hS => ?_)
      refine lv_icmp_ne (tgt := 45) hx hb dX9_areDependent_38 (by decide) (fun c21 => ?_) (fun c21 => ?_)
      · rw [if_neg c21] at hf
        exact J45 x1 x2 x3 x4 _ _ _ hf hP hD hS (lv_sub hl [0, 1, 2, 3, 4] rfl)
      · rw [if_pos c21] at hf
        refine lv_iconst (v := 1) hx hb dX9_areDependent_41 (by decide) ?_
        refine lv_goto (tgt := 46) hx hb dX9_areDependent_42 (by decide) ?_
        exact J46 x1 x2 x3 x4 (1 : Int32) _ _ _ hf hP hD hS (lv_sub hl [0, 1, 2, 3, 4] rfl)

set_option maxHeartbeats 4000000 in
set_option maxRecDepth 100000 in
theorem c9_depend (l : Launch) (D : va_G) (cB cI cZ cO : ClassId) (h : Nat → Nat) (sz : Nat) (x1 : Int32) (x2 : Int32) (x3 : Int32) (x4 : Int32) (v_all : Nat → Int32) (v_past : Nat → Int32) (v_states : Int32) (v_refused : Nat → Int32) (v_far : Nat → Int32) (v_row : Nat → Int32) (v_stepAt : Nat → Int32) (v_depth : Int32) (v_tries : Nat → Int32) (v_values : Nat → Int32) (v_wrong : Int32) (v_isEnd : Nat → Int32) (v_found : Nat → Int32) (v_reached : Nat → Int32) (v_stepIn : Nat → Int32) (v_laid : Nat → Int32) (v_firstRow : Nat → Int32) (v_text : Nat → Int32) (v_textLong : Int32) (v_spot : Int32) (v_taken : Int32) (v_counted : Nat → Int32) (r0 : Int32) (v_refused' : Nat → Int32) (hf : f9_depend v_all v_refused x1 x2 x3 x4 = some (r0, v_refused')) : Met l yX9_depend wsX9_depend rm9_depend (va_Pc [.ref (h 0), .int x1, .int x2, .int x3, .int x4] (kb_B D (ka_tys cB cI cZ cO) sz (wdM cI cZ h v_all v_past v_states v_refused v_far v_row v_stepAt v_depth v_tries v_values v_wrong v_isEnd v_found v_reached v_stepIn v_laid v_firstRow v_text v_textLong v_spot v_taken v_counted))) (va_Qi (kb_post .int r0) (fun _ t => va_P D vwCl (wdM cI cZ h v_all v_past v_states (v_refused') v_far v_row v_stepAt v_depth v_tries v_values v_wrong v_isEnd v_found v_reached v_stepIn v_laid v_firstRow v_text v_textLong v_spot v_taken v_counted) t.heap) (va_A (wdM cI cZ h v_all v_past v_states v_refused v_far v_row v_stepAt v_depth v_tries v_values v_wrong v_isEnd v_found v_reached v_stepIn v_laid v_firstRow v_text v_textLong v_spot v_taken v_counted) sz)) 0 0 (va_A (wdM cI cZ h v_all v_past v_states v_refused v_far v_row v_stepAt v_depth v_tries v_values v_wrong v_isEnd v_found v_reached v_stepIn v_laid v_firstRow v_text v_textLong v_spot v_taken v_counted) sz) := by
  refine kb_metZ (cc := cX9_depend) (maxL := 5) (ty := .int) (by decide) rfl (Nat.le_of_ble_eq_true rfl) ?_
  intro p e s m args below meth c Q A ls H hx hb hml hown hts hK hN hP hD hS hA hl hend
  have hown : s.vm.findClass RX9 = some m.cls := hown
  have hl : lv_has ls 5 [(0, .ref (h 0)), (1, .int x1), (2, .int x2), (3, .int x3), (4, .int x4)] := hl
  have J30 : ∀ (v_refused : Nat → Int32) (x1 : Int32) (x2 : Int32) (x3 : Int32) (x4 : Int32) (H : Heap) (locs : List Loc) (ls : Array Slot), f9_depend_b30 v_all v_refused x1 x2 x3 x4 = some (r0, v_refused') → va_P D vwCl (wdM cI cZ h v_all v_past v_states v_refused v_far v_row v_stepAt v_depth v_tries v_values v_wrong v_isEnd v_found v_reached v_stepIn v_laid v_firstRow v_text v_textLong v_spot v_taken v_counted) H → va_D A (wdM cI cZ h v_all v_past v_states v_refused v_far v_row v_stepAt v_depth v_tries v_values v_wrong v_isEnd v_found v_reached v_stepIn v_laid v_firstRow v_text v_textLong v_spot v_taken v_counted) → va_S A s.heap H locs → lv_has ls 5 [(0, .ref (h 0)), (1, .int x1), (2, .int x2), (3, .int x3), (4, .int x4)] → W p l e rm9_depend s m args below meth c H locs 0 0 Q (F0 m 30 ls []) := by
    intro v_refused x1 x2 x3 x4 H locs ls hf hP hD hS hl
    rw [f9_depend_b30] at hf
    refine lv_aload_n hx hb dX9_depend_30 rfl (lv_at hl 0 rfl) ?_
    refine lv_iload_n hx hb dX9_depend_31 rfl (lv_at hl 1 rfl) ?_
    refine lv_iload_n hx hb dX9_depend_32 rfl (lv_at hl 2 rfl) ?_
    refine lv_iload_n hx hb dX9_depend_33 rfl (lv_at hl 3 rfl) ?_
    refine lv_iload hx hb dX9_depend_34 (lv_at hl 4 rfl) ?_
    refine kb_bind hf (fun q4 hq4 hf => ?_)
    have hPc : va_P D vwCl (wdM cI cZ h v_all v_past v_states v_refused v_far v_row v_stepAt v_depth v_tries v_values v_wrong v_isEnd v_found v_reached v_stepIn v_laid v_firstRow v_text v_textLong v_spot v_taken v_counted) H := hP.sub [0, 1, 2, 3, 4, 5, 6, 7, 8, 9, 10, 11, 12, 13, 14, 15, 16] rfl
    have hDc : va_D A (wdM cI cZ h v_all v_past v_states v_refused v_far v_row v_stepAt v_depth v_tries v_values v_wrong v_isEnd v_found v_reached v_stepIn v_laid v_firstRow v_text v_textLong v_spot v_taken v_counted) := hD.sub [0, 1, 2, 3, 4, 5, 6, 7, 8, 9, 10, 11, 12, 13, 14, 15, 16] (by decide) rfl
    refine kd_iR (va_runV (As := [.int x1, .int x2, .int x3, .int x4]) (rest := []) ⟨hx, hb, hml, hown, hts⟩ (c9_areDependent l D cB cI cZ cO h H.size x1 x2 x3 x4 v_all v_past v_states v_refused v_far v_row v_stepAt v_depth v_tries v_values v_wrong v_isEnd v_found v_reached v_stepIn v_laid v_firstRow v_text v_textLong v_spot v_taken v_counted q4 hq4) (cwV 4 hts gX9_depend_X9_areDependent rfl rfl rfl (by decide +kernel) ⟨Nat.le_of_ble_eq_true rfl, Nat.le_of_ble_eq_true rfl⟩) ⟨kb_blind, va_recv hK hPc (ci := 6) (q0 := 0) rfl rfl, kb_pre hPc hDc hK hN⟩ rfl rfl hl.1 rfl (lv_room (Nat.le_of_ble_eq_true rfl)) dX9_depend_36 ⟨Nat.le_refl _, Nat.le_refl _⟩) hP hD hS hA [0, 1, 2, 3, 4, 5, 6, 7, 8, 9, 10, 11, 12, 13, 14, 15, 16] rfl (fun H locs hn5 hP hS => ?_)
    refine lv_if_eq (tgt := 46) hx hb dX9_depend_39 (by decide) (fun c6 => ?_) (fun c6 => ?_)
    · rw [if_pos c6] at hf
      refine lv_iconst (v := 0) hx hb dX9_depend_46 (by decide) ?_
      refine lv_goto (tgt := 56) hx hb dX9_depend_47 (by decide) ?_
      cases hf
      exact hend _ _ _ _ rfl hP hS dX9_depend_56
    · rw [if_neg c6] at hf
      refine lv_iconst (v := 1) hx hb dX9_depend_42 (by decide) ?_
      refine lv_goto (tgt := 56) hx hb dX9_depend_43 (by decide) ?_
      cases hf
      exact hend _ _ _ _ rfl hP hS dX9_depend_56
  have J50 : ∀ (v_refused : Nat → Int32) (H : Heap) (locs : List Loc) (ls : Array Slot), f9_depend_b50 v_all v_refused = some (r0, v_refused') → va_P D vwCl (wdM cI cZ h v_all v_past v_states v_refused v_far v_row v_stepAt v_depth v_tries v_values v_wrong v_isEnd v_found v_reached v_stepIn v_laid v_firstRow v_text v_textLong v_spot v_taken v_counted) H → va_D A (wdM cI cZ h v_all v_past v_states v_refused v_far v_row v_stepAt v_depth v_tries v_values v_wrong v_isEnd v_found v_reached v_stepIn v_laid v_firstRow v_text v_textLong v_spot v_taken v_counted) → va_S A s.heap H locs → lv_has ls 5 [(0, .ref (h 0))] → W p l e rm9_depend s m args below meth c H locs 0 0 Q (F0 m 50 ls []) := by
    intro v_refused H locs ls hf hP hD hS hl
    rw [f9_depend_b50] at hf
    refine lv_aload_n hx hb dX9_depend_50 rfl (lv_at hl 0 rfl) ?_
    refine lv_bipush (v := (-2)) hx hb dX9_depend_51 (by decide) ?_
    refine kb_bind hf (fun q9 hq9 hf => ?_)
    have hPc : va_P D vwCl (wdM cI cZ h v_all v_past v_states v_refused v_far v_row v_stepAt v_depth v_tries v_values v_wrong v_isEnd v_found v_reached v_stepIn v_laid v_firstRow v_text v_textLong v_spot v_taken v_counted) H := hP.sub [0, 1, 2, 3, 4, 5, 6, 7, 8, 9, 10, 11, 12, 13, 14, 15, 16] rfl
    have hDc : va_D A (wdM cI cZ h v_all v_past v_states v_refused v_far v_row v_stepAt v_depth v_tries v_values v_wrong v_isEnd v_found v_reached v_stepIn v_laid v_firstRow v_text v_textLong v_spot v_taken v_counted) := hD.sub [0, 1, 2, 3, 4, 5, 6, 7, 8, 9, 10, 11, 12, 13, 14, 15, 16] (by decide) rfl
    refine kd_iW (ws' := wdM cI cZ h v_all v_past v_states q9.2 v_far v_row v_stepAt v_depth v_tries v_values v_wrong v_isEnd v_found v_reached v_stepIn v_laid v_firstRow v_text v_textLong v_spot v_taken v_counted) (va_runV (As := [.int (-2 : Int32)]) (rest := []) ⟨hx, hb, hml, hown, hts⟩ (c9_refuses l D cB cI cZ cO h H.size (-2 : Int32) v_all v_past v_states v_refused v_far v_row v_stepAt v_depth v_tries v_values v_wrong v_isEnd v_found v_reached v_stepIn v_laid v_firstRow v_text v_textLong v_spot v_taken v_counted q9.1 q9.2 hq9) (cwV 1 hts gX9_depend_X9_refuses rfl rfl rfl (by decide +kernel) ⟨Nat.le_of_ble_eq_true rfl, Nat.le_of_ble_eq_true rfl⟩) ⟨kb_blind, va_recv hK hPc (ci := 6) (q0 := 0) rfl rfl, kb_pre hPc hDc hK hN⟩ rfl rfl hl.1 rfl (lv_room (Nat.le_of_ble_eq_true rfl)) dX9_depend_53 ⟨Nat.le_refl _, Nat.le_refl _⟩) hP hD hS hA [0, 1, 2, 3, 4, 5, 6, 7, 8, 9, 10, 11, 12, 13, 14, 15, 16] [] rfl rfl rfl rfl rfl (fun H locs hn10 hP hD hS => ?_)
    cases hf
    exact hend _ _ _ _ rfl hP hS dX9_depend_56
  rw [f9_depend] at hf
  refine lv_aload_n hx hb dX9_depend_0 rfl (lv_at hl 0 rfl) ?_
  refine lv_iload_n hx hb dX9_depend_1 rfl (lv_at hl 1 rfl) ?_
  refine lv_iload_n hx hb dX9_depend_2 rfl (lv_at hl 2 rfl) ?_
  refine kb_bind hf (fun q11 hq11 hf => ?_)
  have hPc : va_P D vwCl (wdM cI cZ h v_all v_past v_states v_refused v_far v_row v_stepAt v_depth v_tries v_values v_wrong v_isEnd v_found v_reached v_stepIn v_laid v_firstRow v_text v_textLong v_spot v_taken v_counted) H := hP.sub [0, 1, 2, 3, 4, 5, 6, 7, 8, 9, 10, 11, 12, 13, 14, 15, 16] rfl
  have hDc : va_D A (wdM cI cZ h v_all v_past v_states v_refused v_far v_row v_stepAt v_depth v_tries v_values v_wrong v_isEnd v_found v_reached v_stepIn v_laid v_firstRow v_text v_textLong v_spot v_taken v_counted) := hD.sub [0, 1, 2, 3, 4, 5, 6, 7, 8, 9, 10, 11, 12, 13, 14, 15, 16] (by decide) rfl
  refine kd_iR (va_runV (As := [.int x1, .int x2]) (rest := []) ⟨hx, hb, hml, hown, hts⟩ (c9_isStep l D cB cI cZ cO h H.size x1 x2 v_all v_past v_states v_refused v_far v_row v_stepAt v_depth v_tries v_values v_wrong v_isEnd v_found v_reached v_stepIn v_laid v_firstRow v_text v_textLong v_spot v_taken v_counted q11 hq11) (cwV 2 hts gX9_depend_X9_isStep rfl rfl rfl (by decide +kernel) ⟨Nat.le_of_ble_eq_true rfl, Nat.le_of_ble_eq_true rfl⟩) ⟨kb_blind, va_recv hK hPc (ci := 6) (q0 := 0) rfl rfl, kb_pre hPc hDc hK hN⟩ rfl rfl hl.1 rfl (lv_room (Nat.le_of_ble_eq_true rfl)) dX9_depend_3 ⟨Nat.le_refl _, Nat.le_refl _⟩) hP hD hS hA [0, 1, 2, 3, 4, 5, 6, 7, 8, 9, 10, 11, 12, 13, 14, 15, 16] rfl (fun H locs hn12 hP hS => ?_)
  refine lv_if_eq (tgt := 50) hx hb dX9_depend_6 (by decide) (fun c13 => ?_) (fun c13 => ?_)
  · rw [if_pos c13] at hf
    exact J50 v_refused _ _ _ hf hP hD hS (lv_sub hl [0] rfl)
  · rw [if_neg c13] at hf
    refine lv_aload_n hx hb dX9_depend_9 rfl (lv_at hl 0 rfl) ?_
    refine lv_iload_n hx hb dX9_depend_10 rfl (lv_at hl 3 rfl) ?_
    refine lv_iload hx hb dX9_depend_11 (lv_at hl 4 rfl) ?_
    refine kb_bind hf (fun q14 hq14 hf => ?_)
    have hPc : va_P D vwCl (wdM cI cZ h v_all v_past v_states v_refused v_far v_row v_stepAt v_depth v_tries v_values v_wrong v_isEnd v_found v_reached v_stepIn v_laid v_firstRow v_text v_textLong v_spot v_taken v_counted) H := hP.sub [0, 1, 2, 3, 4, 5, 6, 7, 8, 9, 10, 11, 12, 13, 14, 15, 16] rfl
    have hDc : va_D A (wdM cI cZ h v_all v_past v_states v_refused v_far v_row v_stepAt v_depth v_tries v_values v_wrong v_isEnd v_found v_reached v_stepIn v_laid v_firstRow v_text v_textLong v_spot v_taken v_counted) := hD.sub [0, 1, 2, 3, 4, 5, 6, 7, 8, 9, 10, 11, 12, 13, 14, 15, 16] (by decide) rfl
    refine kd_iR (va_runV (As := [.int x3, .int x4]) (rest := []) ⟨hx, hb, hml, hown, hts⟩ (c9_isStep l D cB cI cZ cO h H.size x3 x4 v_all v_past v_states v_refused v_far v_row v_stepAt v_depth v_tries v_values v_wrong v_isEnd v_found v_reached v_stepIn v_laid v_firstRow v_text v_textLong v_spot v_taken v_counted q14 hq14) (cwV 2 hts gX9_depend_X9_isStep rfl rfl rfl (by decide +kernel) ⟨Nat.le_of_ble_eq_true rfl, Nat.le_of_ble_eq_true rfl⟩) ⟨kb_blind, va_recv hK hPc (ci := 6) (q0 := 0) rfl rfl, kb_pre hPc hDc hK hN⟩ rfl rfl hl.1 rfl (lv_room (Nat.le_of_ble_eq_true rfl)) dX9_depend_13 ⟨Nat.le_refl _, Nat.le_refl _⟩) hP hD hS hA [0, 1, 2, 3, 4, 5, 6, 7, 8, 9, 10, 11, 12, 13, 14, 15, 16] rfl (fun H locs hn15 hP hS => ?_)
    refine lv_if_eq (tgt := 50) hx hb dX9_depend_16 (by decide) (fun c16 => ?_) (fun c16 => ?_)
    · rw [if_pos c16] at hf
      exact J50 v_refused _ _ _ hf hP hD hS (lv_sub hl [0] rfl)
    · rw [if_neg c16] at hf
      refine lv_iload_n hx hb dX9_depend_19 rfl (lv_at hl 1 rfl) ?_
      refine lv_iload_n hx hb dX9_depend_20 rfl (lv_at hl 3 rfl) ?_
      refine lv_icmp_ne (tgt := 30) hx hb dX9_depend_21 (by decide) (fun c17 => ?_) (fun c17 => ?_)
      · rw [if_neg c17] at hf
        exact J30 v_refused x1 x2 x3 x4 _ _ _ hf hP hD hS (lv_sub hl [0, 1, 2, 3, 4] rfl)
      · rw [if_pos c17] at hf
        refine lv_iload_n hx hb dX9_depend_24 rfl (lv_at hl 2 rfl) ?_
        refine lv_iload hx hb dX9_depend_25 (lv_at hl 4 rfl) ?_
        refine lv_icmp_eq (tgt := 50) hx hb dX9_depend_27 (by decide) (fun c18 => ?_) (fun c18 => ?_)
        · rw [if_pos c18] at hf
          exact J50 v_refused _ _ _ hf hP hD hS (lv_sub hl [0] rfl)
        · rw [if_neg c18] at hf
          exact J30 v_refused x1 x2 x3 x4 _ _ _ hf hP hD hS (lv_sub hl [0, 1, 2, 3, 4] rfl)

set_option maxHeartbeats 4000000 in
set_option maxRecDepth 100000 in
theorem c9_holder (l : Launch) (D : va_G) (cB cI cZ cO : ClassId) (h : Nat → Nat) (sz : Nat) (x1 : Int32) (v_all : Nat → Int32) (v_past : Nat → Int32) (v_states : Int32) (v_refused : Nat → Int32) (v_far : Nat → Int32) (v_row : Nat → Int32) (v_stepAt : Nat → Int32) (v_depth : Int32) (v_tries : Nat → Int32) (v_values : Nat → Int32) (v_wrong : Int32) (v_isEnd : Nat → Int32) (v_found : Nat → Int32) (v_reached : Nat → Int32) (v_stepIn : Nat → Int32) (v_laid : Nat → Int32) (v_firstRow : Nat → Int32) (v_text : Nat → Int32) (v_textLong : Int32) (v_spot : Int32) (v_taken : Int32) (v_counted : Nat → Int32) (r0 : Int32) (hf : f9_holder v_all v_far x1 = some r0) : Met l yX9_holder wsX9_holder rm9_holder (va_Pc [.ref (h 0), .int x1] (kb_B D (ka_tys cB cI cZ cO) sz (wdM cI cZ h v_all v_past v_states v_refused v_far v_row v_stepAt v_depth v_tries v_values v_wrong v_isEnd v_found v_reached v_stepIn v_laid v_firstRow v_text v_textLong v_spot v_taken v_counted))) (va_Qi (kb_post .int r0) (fun _ t => va_P D vwCl (wdM cI cZ h v_all v_past v_states v_refused v_far v_row v_stepAt v_depth v_tries v_values v_wrong v_isEnd v_found v_reached v_stepIn v_laid v_firstRow v_text v_textLong v_spot v_taken v_counted) t.heap) (va_A (wdM cI cZ h v_all v_past v_states v_refused v_far v_row v_stepAt v_depth v_tries v_values v_wrong v_isEnd v_found v_reached v_stepIn v_laid v_firstRow v_text v_textLong v_spot v_taken v_counted) sz)) 0 0 (va_A (wdM cI cZ h v_all v_past v_states v_refused v_far v_row v_stepAt v_depth v_tries v_values v_wrong v_isEnd v_found v_reached v_stepIn v_laid v_firstRow v_text v_textLong v_spot v_taken v_counted) sz) := by
  refine kb_metZ (cc := cX9_holder) (maxL := 7) (ty := .int) (by decide) rfl (Nat.le_of_ble_eq_true rfl) ?_
  intro p e s m args below meth c Q A ls H hx hb hml hown hts hK hN hP hD hS hA hl hend
  have hown : s.vm.findClass RX9 = some m.cls := hown
  have hl : lv_has ls 7 [(0, .ref (h 0)), (1, .int x1)] := hl
  have hin9 : ∀ w ∈ u_ws RX9 TX9 22, w ∈ wsX9_holder := by decide +kernel
  have J109 : ∀ (x2 : Int32) (H : Heap) (locs : List Loc) (ls : Array Slot), f9_holder_b109 v_all v_far x2 = some r0 → va_P D vwCl (wdM cI cZ h v_all v_past v_states v_refused v_far v_row v_stepAt v_depth v_tries v_values v_wrong v_isEnd v_found v_reached v_stepIn v_laid v_firstRow v_text v_textLong v_spot v_taken v_counted) H → va_D A (wdM cI cZ h v_all v_past v_states v_refused v_far v_row v_stepAt v_depth v_tries v_values v_wrong v_isEnd v_found v_reached v_stepIn v_laid v_firstRow v_text v_textLong v_spot v_taken v_counted) → va_S A s.heap H locs → lv_has ls 7 [(2, .int x2)] → W p l e rm9_holder s m args below meth c H locs 0 0 Q (F0 m 109 ls []) := by
    intro x2 H locs ls hf hP hD hS hl
    rw [f9_holder_b109] at hf
    refine lv_iload_n hx hb dX9_holder_109 rfl (lv_at hl 0 rfl) ?_
    cases hf
    exact hend _ _ _ _ rfl hP hS dX9_holder_110
  have J4 : ∀ (n : Nat) (x1 : Int32) (x2 : Int32) (x3 : Int32) (H : Heap) (locs : List Loc) (ls : Array Slot), f9_holder_l4 n v_all v_far x1 x2 x3 = some r0 → va_P D vwCl (wdM cI cZ h v_all v_past v_states v_refused v_far v_row v_stepAt v_depth v_tries v_values v_wrong v_isEnd v_found v_reached v_stepIn v_laid v_firstRow v_text v_textLong v_spot v_taken v_counted) H → va_D A (wdM cI cZ h v_all v_past v_states v_refused v_far v_row v_stepAt v_depth v_tries v_values v_wrong v_isEnd v_found v_reached v_stepIn v_laid v_firstRow v_text v_textLong v_spot v_taken v_counted) → va_S A s.heap H locs → lv_has ls 7 [(0, .ref (h 0)), (1, .int x1), (2, .int x2), (3, .int x3)] → W p l e rm9_holder s m args below meth c H locs 0 0 Q (F0 m 4 ls []) := by
    intro n
    induction n with
    | zero =>
      intro x1 x2 x3 H locs ls hf
      cases (show (none : Option (Int32)) = some r0 from hf)
    | succ n ih =>
      have J102 : ∀ (x1 : Int32) (x3 : Int32) (s0 : Int32) (H : Heap) (locs : List Loc) (ls : Array Slot), f9_holder_b102 (f9_holder_l4 n) v_all v_far x1 x3 s0 = some r0 → va_P D vwCl (wdM cI cZ h v_all v_past v_states v_refused v_far v_row v_stepAt v_depth v_tries v_values v_wrong v_isEnd v_found v_reached v_stepIn v_laid v_firstRow v_text v_textLong v_spot v_taken v_counted) H → va_D A (wdM cI cZ h v_all v_past v_states v_refused v_far v_row v_stepAt v_depth v_tries v_values v_wrong v_isEnd v_found v_reached v_stepIn v_laid v_firstRow v_text v_textLong v_spot v_taken v_counted) → va_S A s.heap H locs → lv_has ls 7 [(0, .ref (h 0)), (1, .int x1), (3, .int x3)] → W p l e rm9_holder s m args below meth c H locs 0 0 Q (F0 m 102 ls [.int s0]) := by
        intro x1 x3 s0 H locs ls hf hP hD hS hl
        rw [f9_holder_b102] at hf
        refine lv_istore_n (lv' := [(2, .int s0), (0, .ref (h 0)), (1, .int x1), (3, .int x3)]) hx hb dX9_holder_102 rfl hl (by decide) rfl (fun ls hl => ?_)
        refine lv_iinc (v := (x3 + 1)) (lv' := [(3, .int (x3 + 1)), (2, .int s0), (0, .ref (h 0)), (1, .int x1)]) hx hb dX9_holder_103 hl (k := 3) rfl rfl (by decide) rfl (fun ls hl => ?_)
        refine lv_goto (tgt := 4) hx hb dX9_holder_106 (by decide) ?_
        exact ih x1 s0 (x3 + 1) _ _ _ hf hP hD hS (lv_sub hl [2, 3, 1, 0] rfl)
      have J92 : ∀ (x1 : Int32) (x2 : Int32) (x3 : Int32) (x4 : Int32) (H : Heap) (locs : List Loc) (ls : Array Slot), f9_holder_b92 (f9_holder_l4 n) v_all v_far x1 x2 x3 x4 = some r0 → va_P D vwCl (wdM cI cZ h v_all v_past v_states v_refused v_far v_row v_stepAt v_depth v_tries v_values v_wrong v_isEnd v_found v_reached v_stepIn v_laid v_firstRow v_text v_textLong v_spot v_taken v_counted) H → va_D A (wdM cI cZ h v_all v_past v_states v_refused v_far v_row v_stepAt v_depth v_tries v_values v_wrong v_isEnd v_found v_reached v_stepIn v_laid v_firstRow v_text v_textLong v_spot v_taken v_counted) → va_S A s.heap H locs → lv_has ls 7 [(0, .ref (h 0)), (1, .int x1), (2, .int x2), (3, .int x3), (4, .int x4)] → W p l e rm9_holder s m args below meth c H locs 0 0 Q (F0 m 92 ls []) := by
        intro x1 x2 x3 x4 H locs ls hf hP hD hS hl
        rw [f9_holder_b92] at hf
        refine lv_iload hx hb dX9_holder_92 (lv_at hl 4 rfl) ?_
        refine lv_if_eq (tgt := 101) hx hb dX9_holder_94 (by decide) (fun c15 => ?_) (fun c15 => ?_)
        · rw [if_pos c15] at hf
          refine lv_iload_n hx hb dX9_holder_101 rfl (lv_at hl 2 rfl) ?_
          exact J102 x1 x3 x2 _ _ _ hf hP hD hS (lv_sub hl [0, 1, 3] rfl)
        · rw [if_neg c15] at hf
          refine lv_iload_n hx hb dX9_holder_97 rfl (lv_at hl 3 rfl) ?_
          refine lv_goto (tgt := 102) hx hb dX9_holder_98 (by decide) ?_
          exact J102 x1 x3 x3 _ _ _ hf hP hD hS (lv_sub hl [0, 1, 3] rfl)
      have J15 : ∀ (n15 : Nat) (x1 : Int32) (x2 : Int32) (x3 : Int32) (x4 : Int32) (x5 : Int32) (H : Heap) (locs : List Loc) (ls : Array Slot), f9_holder_l15 (f9_holder_l4 n) n15 v_all v_far x1 x2 x3 x4 x5 = some r0 → va_P D vwCl (wdM cI cZ h v_all v_past v_states v_refused v_far v_row v_stepAt v_depth v_tries v_values v_wrong v_isEnd v_found v_reached v_stepIn v_laid v_firstRow v_text v_textLong v_spot v_taken v_counted) H → va_D A (wdM cI cZ h v_all v_past v_states v_refused v_far v_row v_stepAt v_depth v_tries v_values v_wrong v_isEnd v_found v_reached v_stepIn v_laid v_firstRow v_text v_textLong v_spot v_taken v_counted) → va_S A s.heap H locs → lv_has ls 7 [(0, .ref (h 0)), (1, .int x1), (2, .int x2), (3, .int x3), (4, .int x4), (5, .int x5)] → W p l e rm9_holder s m args below meth c H locs 0 0 Q (F0 m 15 ls []) := by
        intro n15
        induction n15 with
        | zero =>
          intro x1 x2 x3 x4 x5 H locs ls hf
          cases (show (none : Option (Int32)) = some r0 from hf)
        | succ n15 ih15 =>
          have J84 : ∀ (x1 : Int32) (x2 : Int32) (x3 : Int32) (x5 : Int32) (s0 : Int32) (H : Heap) (locs : List Loc) (ls : Array Slot), f9_holder_b84 (f9_holder_l4 n) (f9_holder_l15 (f9_holder_l4 n) n15) v_all v_far x1 x2 x3 x5 s0 = some r0 → va_P D vwCl (wdM cI cZ h v_all v_past v_states v_refused v_far v_row v_stepAt v_depth v_tries v_values v_wrong v_isEnd v_found v_reached v_stepIn v_laid v_firstRow v_text v_textLong v_spot v_taken v_counted) H → va_D A (wdM cI cZ h v_all v_past v_states v_refused v_far v_row v_stepAt v_depth v_tries v_values v_wrong v_isEnd v_found v_reached v_stepIn v_laid v_firstRow v_text v_textLong v_spot v_taken v_counted) → va_S A s.heap H locs → lv_has ls 7 [(0, .ref (h 0)), (1, .int x1), (2, .int x2), (3, .int x3), (5, .int x5)] → W p l e rm9_holder s m args below meth c H locs 0 0 Q (F0 m 84 ls [.int s0]) := by
            intro x1 x2 x3 x5 s0 H locs ls hf hP hD hS hl
            rw [f9_holder_b84] at hf
            refine lv_istore (lv' := [(4, .int s0), (0, .ref (h 0)), (1, .int x1), (2, .int x2), (3, .int x3), (5, .int x5)]) hx hb dX9_holder_84 hl (by decide) rfl (fun ls hl => ?_)
            refine lv_iinc (v := (x5 + 1)) (lv' := [(5, .int (x5 + 1)), (4, .int s0), (0, .ref (h 0)), (1, .int x1), (2, .int x2), (3, .int x3)]) hx hb dX9_holder_86 hl (k := 5) rfl rfl (by decide) rfl (fun ls hl => ?_)
            refine lv_goto (tgt := 15) hx hb dX9_holder_89 (by decide) ?_
            exact ih x1 x2 x3 s0 (x5 + 1) _ _ _ hf hP hD hS (lv_sub hl [2, 3, 4, 5, 1, 0] rfl)
          have J55 : ∀ (x1 : Int32) (x2 : Int32) (x3 : Int32) (x4 : Int32) (x5 : Int32) (s0 : Int32) (H : Heap) (locs : List Loc) (ls : Array Slot), f9_holder_b55 (f9_holder_l4 n) (f9_holder_l15 (f9_holder_l4 n) n15) v_all v_far x1 x2 x3 x4 x5 s0 = some r0 → va_P D vwCl (wdM cI cZ h v_all v_past v_states v_refused v_far v_row v_stepAt v_depth v_tries v_values v_wrong v_isEnd v_found v_reached v_stepIn v_laid v_firstRow v_text v_textLong v_spot v_taken v_counted) H → va_D A (wdM cI cZ h v_all v_past v_states v_refused v_far v_row v_stepAt v_depth v_tries v_values v_wrong v_isEnd v_found v_reached v_stepIn v_laid v_firstRow v_text v_textLong v_spot v_taken v_counted) → va_S A s.heap H locs → lv_has ls 7 [(0, .ref (h 0)), (1, .int x1), (2, .int x2), (3, .int x3), (4, .int x4), (5, .int x5)] → W p l e rm9_holder s m args below meth c H locs 0 0 Q (F0 m 55 ls [.int s0]) := by
            intro x1 x2 x3 x4 x5 s0 H locs ls hf hP hD hS hl
            rw [f9_holder_b55] at hf
            refine lv_istore (lv' := [(6, .int s0), (0, .ref (h 0)), (1, .int x1), (2, .int x2), (3, .int x3), (4, .int x4), (5, .int x5)]) hx hb dX9_holder_55 hl (by decide) rfl (fun ls hl => ?_)
            refine lv_iload hx hb dX9_holder_57 (lv_at hl 0 rfl) ?_
            refine lv_if_eq (tgt := 82) hx hb dX9_holder_59 (by decide) (fun c16 => ?_) (fun c16 => ?_)
            · rw [if_pos c16] at hf
              refine lv_iload hx hb dX9_holder_82 (lv_at hl 5 rfl) ?_
              exact J84 x1 x2 x3 x5 x4 _ _ _ hf hP hD hS (lv_sub hl [1, 2, 3, 4, 6] rfl)
            · rw [if_neg c16] at hf
              refine lv_aload_n hx hb dX9_holder_62 rfl (lv_at hl 1 rfl) ?_
              refine lv_iload_n hx hb dX9_holder_63 rfl (lv_at hl 4 rfl) ?_
              refine lv_iload hx hb dX9_holder_64 (lv_at hl 6 rfl) ?_
              refine lv_iconst (v := 0) hx hb dX9_holder_66 (by decide) ?_
              refine kb_bind hf (fun q17 hq17 hf => ?_)
              have hPc : va_P D vwCl (wdM cI cZ h v_all v_past v_states v_refused v_far v_row v_stepAt v_depth v_tries v_values v_wrong v_isEnd v_found v_reached v_stepIn v_laid v_firstRow v_text v_textLong v_spot v_taken v_counted) H := hP.sub [0, 1, 2, 3, 4, 5, 6, 7, 8, 9, 10, 11, 12, 13, 14, 15, 16] rfl
              have hDc : va_D A (wdM cI cZ h v_all v_past v_states v_refused v_far v_row v_stepAt v_depth v_tries v_values v_wrong v_isEnd v_found v_reached v_stepIn v_laid v_firstRow v_text v_textLong v_spot v_taken v_counted) := hD.sub [0, 1, 2, 3, 4, 5, 6, 7, 8, 9, 10, 11, 12, 13, 14, 15, 16] (by decide) rfl
              refine kd_iR (va_runV (As := [.int x3, .int x5, .int (0 : Int32)]) (rest := []) ⟨hx, hb, hml, hown, hts⟩ (c9_its l D cB cI cZ cO h H.size x3 x5 (0 : Int32) v_all v_past v_states v_refused v_far v_row v_stepAt v_depth v_tries v_values v_wrong v_isEnd v_found v_reached v_stepIn v_laid v_firstRow v_text v_textLong v_spot v_taken v_counted q17 hq17) (cwV 3 hts gX9_holder_X9_its rfl rfl rfl (by decide +kernel) ⟨Nat.le_of_ble_eq_true rfl, Nat.le_of_ble_eq_true rfl⟩) ⟨kb_blind, va_recv hK hPc (ci := 6) (q0 := 0) rfl rfl, kb_pre hPc hDc hK hN⟩ rfl rfl hl.1 rfl (lv_room (Nat.le_of_ble_eq_true rfl)) dX9_holder_67 ⟨Nat.le_refl _, Nat.le_refl _⟩) hP hD hS hA [0, 1, 2, 3, 4, 5, 6, 7, 8, 9, 10, 11, 12, 13, 14, 15, 16] rfl (fun H locs hn18 hP hS => ?_)
              refine lv_iconst (v := 4) hx hb dX9_holder_70 (by decide) ?_
              refine lv_icmp_ne (tgt := 78) hx hb dX9_holder_71 (by decide) (fun c19 => ?_) (fun c19 => ?_)
              · rw [if_neg c19] at hf
                refine lv_iconst (v := 0) hx hb dX9_holder_78 (by decide) ?_
                refine lv_goto (tgt := 84) hx hb dX9_holder_79 (by decide) ?_
                exact J84 x1 x2 x3 x5 (0 : Int32) _ _ _ hf hP hD hS (lv_sub hl [1, 2, 3, 4, 6] rfl)
              · rw [if_pos c19] at hf
                refine lv_iconst (v := 1) hx hb dX9_holder_74 (by decide) ?_
                refine lv_goto (tgt := 84) hx hb dX9_holder_75 (by decide) ?_
                exact J84 x1 x2 x3 x5 (1 : Int32) _ _ _ hf hP hD hS (lv_sub hl [1, 2, 3, 4, 6] rfl)
          have J54 : ∀ (x1 : Int32) (x2 : Int32) (x3 : Int32) (x4 : Int32) (x5 : Int32) (H : Heap) (locs : List Loc) (ls : Array Slot), f9_holder_b54 (f9_holder_l4 n) (f9_holder_l15 (f9_holder_l4 n) n15) v_all v_far x1 x2 x3 x4 x5 = some r0 → va_P D vwCl (wdM cI cZ h v_all v_past v_states v_refused v_far v_row v_stepAt v_depth v_tries v_values v_wrong v_isEnd v_found v_reached v_stepIn v_laid v_firstRow v_text v_textLong v_spot v_taken v_counted) H → va_D A (wdM cI cZ h v_all v_past v_states v_refused v_far v_row v_stepAt v_depth v_tries v_values v_wrong v_isEnd v_found v_reached v_stepIn v_laid v_firstRow v_text v_textLong v_spot v_taken v_counted) → va_S A s.heap H locs → lv_has ls 7 [(0, .ref (h 0)), (1, .int x1), (2, .int x2), (3, .int x3), (4, .int x4), (5, .int x5)] → W p l e rm9_holder s m args below meth c H locs 0 0 Q (F0 m 54 ls []) := by
            intro x1 x2 x3 x4 x5 H locs ls hf hP hD hS hl
            rw [f9_holder_b54] at hf
            refine lv_iconst (v := 0) hx hb dX9_holder_54 (by decide) ?_
            exact J55 x1 x2 x3 x4 x5 (0 : Int32) _ _ _ hf hP hD hS (lv_sub hl [0, 1, 2, 3, 4, 5] rfl)
          intro x1 x2 x3 x4 x5 H locs ls hf hP hD hS hl
          rw [f9_holder_l15_s] at hf
          refine lv_iload hx hb dX9_holder_15 (lv_at hl 5 rfl) ?_
          refine lv_aload_n hx hb dX9_holder_17 rfl (lv_at hl 0 rfl) ?_
          refine va_get (D := D) (cl := vwCl) (ci := 6) (v := .ref (h 4)) (C := RX9) (T := TX9) (N := 22) hx hb hts hin9 hown hK hP 0 rfl rfl 4 (by decide) (hts (.fieldLink RX9 19 "StepOrdersModel" "far" "[I") (by decide +kernel)) (fun _ h9 => h9) rfl dX9_holder_18 ?_
          refine lv_iload_n hx hb dX9_holder_21 rfl (lv_at hl 3 rfl) ?_
          refine kb_bind hf (fun v20 hv20 hf => ?_)
          refine ka_iald (D := D) (cl := vwCl) hx hb hK hP 4 1 (f := v_far) rfl rfl (ard_in hv20) (ard_v hv20) dX9_holder_22 ?_
          refine lv_icmp_ge (tgt := 92) hx hb dX9_holder_23 (by decide) (fun c21 => ?_) (fun c21 => ?_)
          · rw [if_pos c21] at hf
            exact J92 x1 x2 x3 x4 _ _ _ hf hP hD hS (lv_sub hl [0, 1, 2, 3, 4] rfl)
          · rw [if_neg c21] at hf
            refine lv_aload_n hx hb dX9_holder_26 rfl (lv_at hl 0 rfl) ?_
            refine lv_iload_n hx hb dX9_holder_27 rfl (lv_at hl 3 rfl) ?_
            refine lv_iload hx hb dX9_holder_28 (lv_at hl 5 rfl) ?_
            refine lv_iconst (v := 0) hx hb dX9_holder_30 (by decide) ?_
            refine kb_bind hf (fun q22 hq22 hf => ?_)
            have hPc : va_P D vwCl (wdM cI cZ h v_all v_past v_states v_refused v_far v_row v_stepAt v_depth v_tries v_values v_wrong v_isEnd v_found v_reached v_stepIn v_laid v_firstRow v_text v_textLong v_spot v_taken v_counted) H := hP.sub [0, 1, 2, 3, 4, 5, 6, 7, 8, 9, 10, 11, 12, 13, 14, 15, 16] rfl
            have hDc : va_D A (wdM cI cZ h v_all v_past v_states v_refused v_far v_row v_stepAt v_depth v_tries v_values v_wrong v_isEnd v_found v_reached v_stepIn v_laid v_firstRow v_text v_textLong v_spot v_taken v_counted) := hD.sub [0, 1, 2, 3, 4, 5, 6, 7, 8, 9, 10, 11, 12, 13, 14, 15, 16] (by decide) rfl
            refine kd_iR (va_runV (As := [.int x3, .int x5, .int (0 : Int32)]) (rest := []) ⟨hx, hb, hml, hown, hts⟩ (c9_its l D cB cI cZ cO h H.size x3 x5 (0 : Int32) v_all v_past v_states v_refused v_far v_row v_stepAt v_depth v_tries v_values v_wrong v_isEnd v_found v_reached v_stepIn v_laid v_firstRow v_text v_textLong v_spot v_taken v_counted q22 hq22) (cwV 3 hts gX9_holder_X9_its rfl rfl rfl (by decide +kernel) ⟨Nat.le_of_ble_eq_true rfl, Nat.le_of_ble_eq_true rfl⟩) ⟨kb_blind, va_recv hK hPc (ci := 6) (q0 := 0) rfl rfl, kb_pre hPc hDc hK hN⟩ rfl rfl hl.1 rfl (lv_room (Nat.le_of_ble_eq_true rfl)) dX9_holder_31 ⟨Nat.le_refl _, Nat.le_refl _⟩) hP hD hS hA [0, 1, 2, 3, 4, 5, 6, 7, 8, 9, 10, 11, 12, 13, 14, 15, 16] rfl (fun H locs hn23 hP hS => ?_)
            refine lv_iconst (v := 4) hx hb dX9_holder_34 (by decide) ?_
            refine lv_icmp_lt (tgt := 54) hx hb dX9_holder_35 (by decide) (fun c24 => ?_) (fun c24 => ?_)
            · rw [if_pos c24] at hf
              exact J54 x1 x2 x3 x4 x5 _ _ _ hf hP hD hS (lv_sub hl [0, 1, 2, 3, 4, 5] rfl)
            · rw [if_neg c24] at hf
              refine lv_aload_n hx hb dX9_holder_38 rfl (lv_at hl 0 rfl) ?_
              refine lv_iload_n hx hb dX9_holder_39 rfl (lv_at hl 3 rfl) ?_
              refine lv_iload hx hb dX9_holder_40 (lv_at hl 5 rfl) ?_
              refine lv_iconst (v := 1) hx hb dX9_holder_42 (by decide) ?_
              refine kb_bind hf (fun q25 hq25 hf => ?_)
              have hPc : va_P D vwCl (wdM cI cZ h v_all v_past v_states v_refused v_far v_row v_stepAt v_depth v_tries v_values v_wrong v_isEnd v_found v_reached v_stepIn v_laid v_firstRow v_text v_textLong v_spot v_taken v_counted) H := hP.sub [0, 1, 2, 3, 4, 5, 6, 7, 8, 9, 10, 11, 12, 13, 14, 15, 16] rfl
              have hDc : va_D A (wdM cI cZ h v_all v_past v_states v_refused v_far v_row v_stepAt v_depth v_tries v_values v_wrong v_isEnd v_found v_reached v_stepIn v_laid v_firstRow v_text v_textLong v_spot v_taken v_counted) := hD.sub [0, 1, 2, 3, 4, 5, 6, 7, 8, 9, 10, 11, 12, 13, 14, 15, 16] (by decide) rfl
              refine kd_iR (va_runV (As := [.int x3, .int x5, .int (1 : Int32)]) (rest := []) ⟨hx, hb, hml, hown, hts⟩ (c9_its l D cB cI cZ cO h H.size x3 x5 (1 : Int32) v_all v_past v_states v_refused v_far v_row v_stepAt v_depth v_tries v_values v_wrong v_isEnd v_found v_reached v_stepIn v_laid v_firstRow v_text v_textLong v_spot v_taken v_counted q25 hq25) (cwV 3 hts gX9_holder_X9_its rfl rfl rfl (by decide +kernel) ⟨Nat.le_of_ble_eq_true rfl, Nat.le_of_ble_eq_true rfl⟩) ⟨kb_blind, va_recv hK hPc (ci := 6) (q0 := 0) rfl rfl, kb_pre hPc hDc hK hN⟩ rfl rfl hl.1 rfl (lv_room (Nat.le_of_ble_eq_true rfl)) dX9_holder_43 ⟨Nat.le_refl _, Nat.le_refl _⟩) hP hD hS hA [0, 1, 2, 3, 4, 5, 6, 7, 8, 9, 10, 11, 12, 13, 14, 15, 16] rfl (fun H locs hn26 hP hS => ?_)
              refine lv_iload_n hx hb dX9_holder_46 rfl (lv_at hl 1 rfl) ?_
              refine lv_icmp_ne (tgt := 54) hx hb dX9_holder_47 (by decide) (fun c27 => ?_) (fun c27 => ?_)
              · rw [if_neg c27] at hf
                exact J54 x1 x2 x3 x4 x5 _ _ _ hf hP hD hS (lv_sub hl [0, 1, 2, 3, 4, 5] rfl)
              · rw [if_pos c27] at hf
                refine lv_iconst (v := 1) hx hb dX9_holder_50 (by decide) ?_
                refine lv_goto (tgt := 55) hx hb dX9_holder_51 (by decide) ?_
                exact J55 x1 x2 x3 x4 x5 (1 : Int32) _ _ _ hf hP hD hS (lv_sub hl [0, 1, 2, 3, 4, 5] rfl)
      intro x1 x2 x3 H locs ls hf hP hD hS hl
      rw [f9_holder_l4_s] at hf
      refine lv_iload_n hx hb dX9_holder_4 rfl (lv_at hl 3 rfl) ?_
      refine lv_iconst (v := 3) hx hb dX9_holder_5 (by decide) ?_
      refine lv_icmp_ge (tgt := 109) hx hb dX9_holder_6 (by decide) (fun c28 => ?_) (fun c28 => ?_)
      · rw [if_pos c28] at hf
        exact J109 x2 _ _ _ hf hP hD hS (lv_sub hl [2] rfl)
      · rw [if_neg c28] at hf
        refine lv_iconst (v := 0) hx hb dX9_holder_9 (by decide) ?_
        refine lv_istore (lv' := [(4, .int (0 : Int32)), (0, .ref (h 0)), (1, .int x1), (2, .int x2), (3, .int x3)]) hx hb dX9_holder_10 hl (by decide) rfl (fun ls hl => ?_)
        refine lv_iconst (v := 0) hx hb dX9_holder_12 (by decide) ?_
        refine lv_istore (lv' := [(5, .int (0 : Int32)), (4, .int (0 : Int32)), (0, .ref (h 0)), (1, .int x1), (2, .int x2), (3, .int x3)]) hx hb dX9_holder_13 hl (by decide) rfl (fun ls hl => ?_)
        exact J15 kFUEL x1 x2 x3 (0 : Int32) (0 : Int32) _ _ _ hf hP hD hS (lv_sub hl [2, 3, 4, 5, 1, 0] rfl)
  rw [f9_holder] at hf
  refine lv_iconst (v := (-1)) hx hb dX9_holder_0 (by decide) ?_
  refine lv_istore_n (lv' := [(2, .int (-1 : Int32)), (0, .ref (h 0)), (1, .int x1)]) hx hb dX9_holder_1 rfl hl (by decide) rfl (fun ls hl => ?_)
  refine lv_iconst (v := 0) hx hb dX9_holder_2 (by decide) ?_
  refine lv_istore_n (lv' := [(3, .int (0 : Int32)), (2, .int (-1 : Int32)), (0, .ref (h 0)), (1, .int x1)]) hx hb dX9_holder_3 rfl hl (by decide) rfl (fun ls hl => ?_)
  exact J4 kFUEL x1 (-1 : Int32) (0 : Int32) _ _ _ hf hP hD hS (lv_sub hl [2, 3, 1, 0] rfl)

set_option maxHeartbeats 4000000 in
set_option maxRecDepth 100000 in
theorem c9_canDo (l : Launch) (D : va_G) (cB cI cZ cO : ClassId) (h : Nat → Nat) (sz : Nat) (x1 : Int32) (v_all : Nat → Int32) (v_past : Nat → Int32) (v_states : Int32) (v_refused : Nat → Int32) (v_far : Nat → Int32) (v_row : Nat → Int32) (v_stepAt : Nat → Int32) (v_depth : Int32) (v_tries : Nat → Int32) (v_values : Nat → Int32) (v_wrong : Int32) (v_isEnd : Nat → Int32) (v_found : Nat → Int32) (v_reached : Nat → Int32) (v_stepIn : Nat → Int32) (v_laid : Nat → Int32) (v_firstRow : Nat → Int32) (v_text : Nat → Int32) (v_textLong : Int32) (v_spot : Int32) (v_taken : Int32) (v_counted : Nat → Int32) (r0 : Int32) (hf : f9_canDo v_all v_far x1 = some r0) : Met l yX9_canDo wsX9_canDo rm9_canDo (va_Pc [.ref (h 0), .int x1] (kb_B D (ka_tys cB cI cZ cO) sz (wdM cI cZ h v_all v_past v_states v_refused v_far v_row v_stepAt v_depth v_tries v_values v_wrong v_isEnd v_found v_reached v_stepIn v_laid v_firstRow v_text v_textLong v_spot v_taken v_counted))) (va_Qi (kb_post .boolean r0) (fun _ t => va_P D vwCl (wdM cI cZ h v_all v_past v_states v_refused v_far v_row v_stepAt v_depth v_tries v_values v_wrong v_isEnd v_found v_reached v_stepIn v_laid v_firstRow v_text v_textLong v_spot v_taken v_counted) t.heap) (va_A (wdM cI cZ h v_all v_past v_states v_refused v_far v_row v_stepAt v_depth v_tries v_values v_wrong v_isEnd v_found v_reached v_stepIn v_laid v_firstRow v_text v_textLong v_spot v_taken v_counted) sz)) 0 0 (va_A (wdM cI cZ h v_all v_past v_states v_refused v_far v_row v_stepAt v_depth v_tries v_values v_wrong v_isEnd v_found v_reached v_stepIn v_laid v_firstRow v_text v_textLong v_spot v_taken v_counted) sz) := by
  refine kb_metZ (cc := cX9_canDo) (maxL := 4) (ty := .boolean) (by decide) rfl (Nat.le_of_ble_eq_true rfl) ?_
  intro p e s m args below meth c Q A ls H hx hb hml hown hts hK hN hP hD hS hA hl hend
  have hown : s.vm.findClass RX9 = some m.cls := hown
  have hl : lv_has ls 4 [(0, .ref (h 0)), (1, .int x1)] := hl
  have hin9 : ∀ w ∈ u_ws RX9 TX9 22, w ∈ wsX9_canDo := by decide +kernel
  have J80 : ∀  (H : Heap) (locs : List Loc) (ls : Array Slot), f9_canDo_b80 v_all v_far = some r0 → va_P D vwCl (wdM cI cZ h v_all v_past v_states v_refused v_far v_row v_stepAt v_depth v_tries v_values v_wrong v_isEnd v_found v_reached v_stepIn v_laid v_firstRow v_text v_textLong v_spot v_taken v_counted) H → va_D A (wdM cI cZ h v_all v_past v_states v_refused v_far v_row v_stepAt v_depth v_tries v_values v_wrong v_isEnd v_found v_reached v_stepIn v_laid v_firstRow v_text v_textLong v_spot v_taken v_counted) → va_S A s.heap H locs → lv_has ls 4 [] → W p l e rm9_canDo s m args below meth c H locs 0 0 Q (F0 m 80 ls []) := by
    intro  H locs ls hf hP hD hS hl
    rw [f9_canDo_b80] at hf
    refine lv_iconst (v := 1) hx hb dX9_canDo_80 (by decide) ?_
    refine lv_goto (tgt := 85) hx hb dX9_canDo_81 (by decide) ?_
    cases hf
    exact hend _ _ _ _ rfl hP hS dX9_canDo_85
  have J70 : ∀ (x1 : Int32) (x2 : Int32) (x3 : Int32) (H : Heap) (locs : List Loc) (ls : Array Slot), f9_canDo_b70 v_all v_far x1 x2 x3 = some r0 → va_P D vwCl (wdM cI cZ h v_all v_past v_states v_refused v_far v_row v_stepAt v_depth v_tries v_values v_wrong v_isEnd v_found v_reached v_stepIn v_laid v_firstRow v_text v_textLong v_spot v_taken v_counted) H → va_D A (wdM cI cZ h v_all v_past v_states v_refused v_far v_row v_stepAt v_depth v_tries v_values v_wrong v_isEnd v_found v_reached v_stepIn v_laid v_firstRow v_text v_textLong v_spot v_taken v_counted) → va_S A s.heap H locs → lv_has ls 4 [(1, .int x1), (2, .int x2), (3, .int x3)] → W p l e rm9_canDo s m args below meth c H locs 0 0 Q (F0 m 70 ls []) := by
    intro x1 x2 x3 H locs ls hf hP hD hS hl
    rw [f9_canDo_b70] at hf
    refine lv_iload_n hx hb dX9_canDo_70 rfl (lv_at hl 1 rfl) ?_
    refine lv_iconst (v := 5) hx hb dX9_canDo_71 (by decide) ?_
    refine lv_icmp_ne (tgt := 84) hx hb dX9_canDo_72 (by decide) (fun c3 => ?_) (fun c3 => ?_)
    · rw [if_neg c3] at hf
      refine lv_iconst (v := 0) hx hb dX9_canDo_84 (by decide) ?_
      cases hf
      exact hend _ _ _ _ rfl hP hS dX9_canDo_85
    · rw [if_pos c3] at hf
      refine lv_iload_n hx hb dX9_canDo_75 rfl (lv_at hl 2 rfl) ?_
      refine lv_iload_n hx hb dX9_canDo_76 rfl (lv_at hl 0 rfl) ?_
      refine lv_icmp_ne (tgt := 84) hx hb dX9_canDo_77 (by decide) (fun c4 => ?_) (fun c4 => ?_)
      · rw [if_neg c4] at hf
        refine lv_iconst (v := 0) hx hb dX9_canDo_84 (by decide) ?_
        cases hf
        exact hend _ _ _ _ rfl hP hS dX9_canDo_85
      · rw [if_pos c4] at hf
        exact J80  _ _ _ hf hP hD hS (lv_sub hl [] rfl)
  have J54 : ∀ (x1 : Int32) (x2 : Int32) (s0 : Int32) (H : Heap) (locs : List Loc) (ls : Array Slot), f9_canDo_b54 v_all v_far x1 x2 s0 = some r0 → va_P D vwCl (wdM cI cZ h v_all v_past v_states v_refused v_far v_row v_stepAt v_depth v_tries v_values v_wrong v_isEnd v_found v_reached v_stepIn v_laid v_firstRow v_text v_textLong v_spot v_taken v_counted) H → va_D A (wdM cI cZ h v_all v_past v_states v_refused v_far v_row v_stepAt v_depth v_tries v_values v_wrong v_isEnd v_found v_reached v_stepIn v_laid v_firstRow v_text v_textLong v_spot v_taken v_counted) → va_S A s.heap H locs → lv_has ls 4 [(1, .int x1), (2, .int x2)] → W p l e rm9_canDo s m args below meth c H locs 0 0 Q (F0 m 54 ls [.int s0]) := by
    intro x1 x2 s0 H locs ls hf hP hD hS hl
    rw [f9_canDo_b54] at hf
    refine lv_istore_n (lv' := [(3, .int s0), (1, .int x1), (2, .int x2)]) hx hb dX9_canDo_54 rfl hl (by decide) rfl (fun ls hl => ?_)
    refine lv_iload_n hx hb dX9_canDo_55 rfl (lv_at hl 2 rfl) ?_
    refine lv_iconst (v := 4) hx hb dX9_canDo_56 (by decide) ?_
    refine lv_icmp_lt (tgt := 80) hx hb dX9_canDo_57 (by decide) (fun c8 => ?_) (fun c8 => ?_)
    · rw [if_pos c8] at hf
      exact J80  _ _ _ hf hP hD hS (lv_sub hl [] rfl)
    · rw [if_neg c8] at hf
      refine lv_iload_n hx hb dX9_canDo_60 rfl (lv_at hl 2 rfl) ?_
      refine lv_iconst (v := 4) hx hb dX9_canDo_61 (by decide) ?_
      refine lv_icmp_ne (tgt := 70) hx hb dX9_canDo_62 (by decide) (fun c9 => ?_) (fun c9 => ?_)
      · rw [if_neg c9] at hf
        exact J70 x1 x2 s0 _ _ _ hf hP hD hS (lv_sub hl [1, 2, 0] rfl)
      · rw [if_pos c9] at hf
        refine lv_iload_n hx hb dX9_canDo_65 rfl (lv_at hl 0 rfl) ?_
        refine lv_iconst (v := (-1)) hx hb dX9_canDo_66 (by decide) ?_
        refine lv_icmp_eq (tgt := 80) hx hb dX9_canDo_67 (by decide) (fun c10 => ?_) (fun c10 => ?_)
        · rw [if_pos c10] at hf
          exact J80  _ _ _ hf hP hD hS (lv_sub hl [] rfl)
        · rw [if_neg c10] at hf
          exact J70 x1 x2 s0 _ _ _ hf hP hD hS (lv_sub hl [1, 2, 0] rfl)
  rw [f9_canDo] at hf
  refine lv_aload_n hx hb dX9_canDo_0 rfl (lv_at hl 0 rfl) ?_
  refine va_get (D := D) (cl := vwCl) (ci := 6) (v := .ref (h 4)) (C := RX9) (T := TX9) (N := 22) hx hb hts hin9 hown hK hP 0 rfl rfl 4 (by decide) (hts (.fieldLink RX9 19 "StepOrdersModel" "far" "[I") (by decide +kernel)) (fun _ h9 => h9) rfl dX9_canDo_1 ?_
  refine lv_iload_n hx hb dX9_canDo_4 rfl (lv_at hl 1 rfl) ?_
  refine kb_bind hf (fun v11 hv11 hf => ?_)
  refine ka_iald (D := D) (cl := vwCl) hx hb hK hP 4 1 (f := v_far) rfl rfl (ard_in hv11) (ard_v hv11) dX9_canDo_5 ?_
  refine lv_aload_n hx hb dX9_canDo_6 rfl (lv_at hl 0 rfl) ?_
  refine lv_iload_n hx hb dX9_canDo_7 rfl (lv_at hl 1 rfl) ?_
  refine kb_bind hf (fun q12 hq12 hf => ?_)
  have hPc : va_P D vwCl (wdM cI cZ h v_all v_past v_states v_refused v_far v_row v_stepAt v_depth v_tries v_values v_wrong v_isEnd v_found v_reached v_stepIn v_laid v_firstRow v_text v_textLong v_spot v_taken v_counted) H := hP.sub [0, 1, 2, 3, 4, 5, 6, 7, 8, 9, 10, 11, 12, 13, 14, 15, 16] rfl
  have hDc : va_D A (wdM cI cZ h v_all v_past v_states v_refused v_far v_row v_stepAt v_depth v_tries v_values v_wrong v_isEnd v_found v_reached v_stepIn v_laid v_firstRow v_text v_textLong v_spot v_taken v_counted) := hD.sub [0, 1, 2, 3, 4, 5, 6, 7, 8, 9, 10, 11, 12, 13, 14, 15, 16] (by decide) rfl
  refine kd_iR (va_runV (As := [.int x1]) (rest := [.int v11]) ⟨hx, hb, hml, hown, hts⟩ (c9_many l D cB cI cZ cO h H.size x1 v_all v_past v_states v_refused v_far v_row v_stepAt v_depth v_tries v_values v_wrong v_isEnd v_found v_reached v_stepIn v_laid v_firstRow v_text v_textLong v_spot v_taken v_counted q12 hq12) (cwV 1 hts gX9_canDo_X9_many rfl rfl rfl (by decide +kernel) ⟨Nat.le_of_ble_eq_true rfl, Nat.le_of_ble_eq_true rfl⟩) ⟨kb_blind, va_recv hK hPc (ci := 6) (q0 := 0) rfl rfl, kb_pre hPc hDc hK hN⟩ rfl rfl hl.1 rfl (lv_room (Nat.le_of_ble_eq_true rfl)) dX9_canDo_8 ⟨Nat.le_refl _, Nat.le_refl _⟩) hP hD hS hA [0, 1, 2, 3, 4, 5, 6, 7, 8, 9, 10, 11, 12, 13, 14, 15, 16] rfl (fun H locs hn13 hP hS => ?_)
  refine lv_icmp_ne (tgt := 16) hx hb dX9_canDo_11 (by decide) (fun c14 => ?_) (fun c14 => ?_)
  · rw [if_neg c14] at hf
    refine lv_aload_n hx hb dX9_canDo_16 rfl (lv_at hl 0 rfl) ?_
    refine lv_iload_n hx hb dX9_canDo_17 rfl (lv_at hl 1 rfl) ?_
    refine lv_aload_n hx hb dX9_canDo_18 rfl (lv_at hl 0 rfl) ?_
    refine va_get (D := D) (cl := vwCl) (ci := 6) (v := .ref (h 4)) (C := RX9) (T := TX9) (N := 22) hx hb hts hin9 hown hK hP 0 rfl rfl 4 (by decide) (hts (.fieldLink RX9 19 "StepOrdersModel" "far" "[I") (by decide +kernel)) (fun _ h9 => h9) rfl dX9_canDo_19 ?_
    refine lv_iload_n hx hb dX9_canDo_22 rfl (lv_at hl 1 rfl) ?_
    refine kb_bind hf (fun v15 hv15 hf => ?_)
    refine ka_iald (D := D) (cl := vwCl) hx hb hK hP 4 1 (f := v_far) rfl rfl (ard_in hv15) (ard_v hv15) dX9_canDo_23 ?_
    refine lv_iconst (v := 0) hx hb dX9_canDo_24 (by decide) ?_
    refine kb_bind hf (fun q16 hq16 hf => ?_)
    have hPc : va_P D vwCl (wdM cI cZ h v_all v_past v_states v_refused v_far v_row v_stepAt v_depth v_tries v_values v_wrong v_isEnd v_found v_reached v_stepIn v_laid v_firstRow v_text v_textLong v_spot v_taken v_counted) H := hP.sub [0, 1, 2, 3, 4, 5, 6, 7, 8, 9, 10, 11, 12, 13, 14, 15, 16] rfl
    have hDc : va_D A (wdM cI cZ h v_all v_past v_states v_refused v_far v_row v_stepAt v_depth v_tries v_values v_wrong v_isEnd v_found v_reached v_stepIn v_laid v_firstRow v_text v_textLong v_spot v_taken v_counted) := hD.sub [0, 1, 2, 3, 4, 5, 6, 7, 8, 9, 10, 11, 12, 13, 14, 15, 16] (by decide) rfl
    refine kd_iR (va_runV (As := [.int x1, .int v15, .int (0 : Int32)]) (rest := []) ⟨hx, hb, hml, hown, hts⟩ (c9_its l D cB cI cZ cO h H.size x1 v15 (0 : Int32) v_all v_past v_states v_refused v_far v_row v_stepAt v_depth v_tries v_values v_wrong v_isEnd v_found v_reached v_stepIn v_laid v_firstRow v_text v_textLong v_spot v_taken v_counted q16 hq16) (cwV 3 hts gX9_canDo_X9_its rfl rfl rfl (by decide +kernel) ⟨Nat.le_of_ble_eq_true rfl, Nat.le_of_ble_eq_true rfl⟩) ⟨kb_blind, va_recv hK hPc (ci := 6) (q0 := 0) rfl rfl, kb_pre hPc hDc hK hN⟩ rfl rfl hl.1 rfl (lv_room (Nat.le_of_ble_eq_true rfl)) dX9_canDo_25 ⟨Nat.le_refl _, Nat.le_refl _⟩) hP hD hS hA [0, 1, 2, 3, 4, 5, 6, 7, 8, 9, 10, 11, 12, 13, 14, 15, 16] rfl (fun H locs hn17 hP hS => ?_)
    refine lv_istore_n (lv' := [(2, .int q16), (0, .ref (h 0)), (1, .int x1)]) hx hb dX9_canDo_28 rfl hl (by decide) rfl (fun ls hl => ?_)
    refine lv_iload_n hx hb dX9_canDo_29 rfl (lv_at hl 0 rfl) ?_
    refine lv_iconst (v := 4) hx hb dX9_canDo_30 (by decide) ?_
    refine lv_icmp_ge (tgt := 38) hx hb dX9_canDo_31 (by decide) (fun c18 => ?_) (fun c18 => ?_)
    · rw [if_pos c18] at hf
      refine lv_aload_n hx hb dX9_canDo_38 rfl (lv_at hl 1 rfl) ?_
      refine lv_aload_n hx hb dX9_canDo_39 rfl (lv_at hl 1 rfl) ?_
      refine lv_iload_n hx hb dX9_canDo_40 rfl (lv_at hl 2 rfl) ?_
      refine lv_aload_n hx hb dX9_canDo_41 rfl (lv_at hl 1 rfl) ?_
      refine va_get (D := D) (cl := vwCl) (ci := 6) (v := .ref (h 4)) (C := RX9) (T := TX9) (N := 22) hx hb hts hin9 hown hK hP 0 rfl rfl 4 (by decide) (hts (.fieldLink RX9 19 "StepOrdersModel" "far" "[I") (by decide +kernel)) (fun _ h9 => h9) rfl dX9_canDo_42 ?_
      refine lv_iload_n hx hb dX9_canDo_45 rfl (lv_at hl 2 rfl) ?_
      refine kb_bind hf (fun v19 hv19 hf => ?_)
      refine ka_iald (D := D) (cl := vwCl) hx hb hK hP 4 1 (f := v_far) rfl rfl (ard_in hv19) (ard_v hv19) dX9_canDo_46 ?_
      refine lv_iconst (v := 1) hx hb dX9_canDo_47 (by decide) ?_
      refine kb_bind hf (fun q20 hq20 hf => ?_)
      have hPc : va_P D vwCl (wdM cI cZ h v_all v_past v_states v_refused v_far v_row v_stepAt v_depth v_tries v_values v_wrong v_isEnd v_found v_reached v_stepIn v_laid v_firstRow v_text v_textLong v_spot v_taken v_counted) H := hP.sub [0, 1, 2, 3, 4, 5, 6, 7, 8, 9, 10, 11, 12, 13, 14, 15, 16] rfl
      have hDc : va_D A (wdM cI cZ h v_all v_past v_states v_refused v_far v_row v_stepAt v_depth v_tries v_values v_wrong v_isEnd v_found v_reached v_stepIn v_laid v_firstRow v_text v_textLong v_spot v_taken v_counted) := hD.sub [0, 1, 2, 3, 4, 5, 6, 7, 8, 9, 10, 11, 12, 13, 14, 15, 16] (by decide) rfl
      refine kd_iR (va_runV (As := [.int x1, .int v19, .int (1 : Int32)]) (rest := [.ref (h 0)]) ⟨hx, hb, hml, hown, hts⟩ (c9_its l D cB cI cZ cO h H.size x1 v19 (1 : Int32) v_all v_past v_states v_refused v_far v_row v_stepAt v_depth v_tries v_values v_wrong v_isEnd v_found v_reached v_stepIn v_laid v_firstRow v_text v_textLong v_spot v_taken v_counted q20 hq20) (cwV 3 hts gX9_canDo_X9_its rfl rfl rfl (by decide +kernel) ⟨Nat.le_of_ble_eq_true rfl, Nat.le_of_ble_eq_true rfl⟩) ⟨kb_blind, va_recv hK hPc (ci := 6) (q0 := 0) rfl rfl, kb_pre hPc hDc hK hN⟩ rfl rfl hl.1 rfl (lv_room (Nat.le_of_ble_eq_true rfl)) dX9_canDo_48 ⟨Nat.le_refl _, Nat.le_refl _⟩) hP hD hS hA [0, 1, 2, 3, 4, 5, 6, 7, 8, 9, 10, 11, 12, 13, 14, 15, 16] rfl (fun H locs hn21 hP hS => ?_)
      refine kb_bind hf (fun q22 hq22 hf => ?_)
      have hPc : va_P D vwCl (wdM cI cZ h v_all v_past v_states v_refused v_far v_row v_stepAt v_depth v_tries v_values v_wrong v_isEnd v_found v_reached v_stepIn v_laid v_firstRow v_text v_textLong v_spot v_taken v_counted) H := hP.sub [0, 1, 2, 3, 4, 5, 6, 7, 8, 9, 10, 11, 12, 13, 14, 15, 16] rfl
      have hDc : va_D A (wdM cI cZ h v_all v_past v_states v_refused v_far v_row v_stepAt v_depth v_tries v_values v_wrong v_isEnd v_found v_reached v_stepIn v_laid v_firstRow v_text v_textLong v_spot v_taken v_counted) := hD.sub [0, 1, 2, 3, 4, 5, 6, 7, 8, 9, 10, 11, 12, 13, 14, 15, 16] (by decide) rfl
      refine kd_iR (va_runV (As := [.int q20]) (rest := []) ⟨hx, hb, hml, hown, hts⟩ (c9_holder l D cB cI cZ cO h H.size q20 v_all v_past v_states v_refused v_far v_row v_stepAt v_depth v_tries v_values v_wrong v_isEnd v_found v_reached v_stepIn v_laid v_firstRow v_text v_textLong v_spot v_taken v_counted q22 hq22) (cwV 1 hts gX9_canDo_X9_holder rfl rfl rfl (by decide +kernel) ⟨Nat.le_of_ble_eq_true rfl, Nat.le_of_ble_eq_true rfl⟩) ⟨kb_blind, va_recv hK hPc (ci := 6) (q0 := 0) rfl rfl, kb_pre hPc hDc hK hN⟩ rfl rfl hl.1 rfl (lv_room (Nat.le_of_ble_eq_true rfl)) dX9_canDo_51 ⟨Nat.le_refl _, Nat.le_refl _⟩) hP hD hS hA [0, 1, 2, 3, 4, 5, 6, 7, 8, 9, 10, 11, 12, 13, 14, 15, 16] rfl (fun H locs hn23 hP hS => ?_)
      exact J54 x1 q16 q22 _ _ _ hf hP hD hS (lv_sub hl [2, 0] rfl)
    · rw [if_neg c18] at hf
      refine lv_iconst (v := (-1)) hx hb dX9_canDo_34 (by decide) ?_
      refine lv_goto (tgt := 54) hx hb dX9_canDo_35 (by decide) ?_
      exact J54 x1 q16 (-1 : Int32) _ _ _ hf hP hD hS (lv_sub hl [2, 0] rfl)
  · rw [if_pos c14] at hf
    refine lv_iconst (v := 0) hx hb dX9_canDo_14 (by decide) ?_
    cases hf
    exact hend _ _ _ _ rfl hP hS dX9_canDo_15

set_option maxHeartbeats 4000000 in
set_option maxRecDepth 100000 in
theorem c9_isStill (l : Launch) (D : va_G) (cB cI cZ cO : ClassId) (h : Nat → Nat) (sz : Nat) (v_all : Nat → Int32) (v_past : Nat → Int32) (v_states : Int32) (v_refused : Nat → Int32) (v_far : Nat → Int32) (v_row : Nat → Int32) (v_stepAt : Nat → Int32) (v_depth : Int32) (v_tries : Nat → Int32) (v_values : Nat → Int32) (v_wrong : Int32) (v_isEnd : Nat → Int32) (v_found : Nat → Int32) (v_reached : Nat → Int32) (v_stepIn : Nat → Int32) (v_laid : Nat → Int32) (v_firstRow : Nat → Int32) (v_text : Nat → Int32) (v_textLong : Int32) (v_spot : Int32) (v_taken : Int32) (v_counted : Nat → Int32) (r0 : Int32) (hf : f9_isStill v_all v_far = some r0) : Met l yX9_isStill wsX9_isStill rm9_isStill (va_Pc [.ref (h 0)] (kb_B D (ka_tys cB cI cZ cO) sz (wdM cI cZ h v_all v_past v_states v_refused v_far v_row v_stepAt v_depth v_tries v_values v_wrong v_isEnd v_found v_reached v_stepIn v_laid v_firstRow v_text v_textLong v_spot v_taken v_counted))) (va_Qi (kb_post .boolean r0) (fun _ t => va_P D vwCl (wdM cI cZ h v_all v_past v_states v_refused v_far v_row v_stepAt v_depth v_tries v_values v_wrong v_isEnd v_found v_reached v_stepIn v_laid v_firstRow v_text v_textLong v_spot v_taken v_counted) t.heap) (va_A (wdM cI cZ h v_all v_past v_states v_refused v_far v_row v_stepAt v_depth v_tries v_values v_wrong v_isEnd v_found v_reached v_stepIn v_laid v_firstRow v_text v_textLong v_spot v_taken v_counted) sz)) 0 0 (va_A (wdM cI cZ h v_all v_past v_states v_refused v_far v_row v_stepAt v_depth v_tries v_values v_wrong v_isEnd v_found v_reached v_stepIn v_laid v_firstRow v_text v_textLong v_spot v_taken v_counted) sz) := by
  refine kb_metZ (cc := cX9_isStill) (maxL := 1) (ty := .boolean) (by decide) rfl (Nat.le_of_ble_eq_true rfl) ?_
  intro p e s m args below meth c Q A ls H hx hb hml hown hts hK hN hP hD hS hA hl hend
  have hown : s.vm.findClass RX9 = some m.cls := hown
  have hl : lv_has ls 1 [(0, .ref (h 0))] := hl
  rw [f9_isStill] at hf
  refine lv_aload_n hx hb dX9_isStill_0 rfl (lv_at hl 0 rfl) ?_
  refine lv_iconst (v := 0) hx hb dX9_isStill_1 (by decide) ?_
  refine kb_bind hf (fun q1 hq1 hf => ?_)
  have hPc : va_P D vwCl (wdM cI cZ h v_all v_past v_states v_refused v_far v_row v_stepAt v_depth v_tries v_values v_wrong v_isEnd v_found v_reached v_stepIn v_laid v_firstRow v_text v_textLong v_spot v_taken v_counted) H := hP.sub [0, 1, 2, 3, 4, 5, 6, 7, 8, 9, 10, 11, 12, 13, 14, 15, 16] rfl
  have hDc : va_D A (wdM cI cZ h v_all v_past v_states v_refused v_far v_row v_stepAt v_depth v_tries v_values v_wrong v_isEnd v_found v_reached v_stepIn v_laid v_firstRow v_text v_textLong v_spot v_taken v_counted) := hD.sub [0, 1, 2, 3, 4, 5, 6, 7, 8, 9, 10, 11, 12, 13, 14, 15, 16] (by decide) rfl
  refine kd_iR (va_runV (As := [.int (0 : Int32)]) (rest := []) ⟨hx, hb, hml, hown, hts⟩ (c9_canDo l D cB cI cZ cO h H.size (0 : Int32) v_all v_past v_states v_refused v_far v_row v_stepAt v_depth v_tries v_values v_wrong v_isEnd v_found v_reached v_stepIn v_laid v_firstRow v_text v_textLong v_spot v_taken v_counted q1 hq1) (cwV 1 hts gX9_isStill_X9_canDo rfl rfl rfl (by decide +kernel) ⟨Nat.le_of_ble_eq_true rfl, Nat.le_of_ble_eq_true rfl⟩) ⟨kb_blind, va_recv hK hPc (ci := 6) (q0 := 0) rfl rfl, kb_pre hPc hDc hK hN⟩ rfl rfl hl.1 rfl (lv_room (Nat.le_of_ble_eq_true rfl)) dX9_isStill_2 ⟨Nat.le_refl _, Nat.le_refl _⟩) hP hD hS hA [0, 1, 2, 3, 4, 5, 6, 7, 8, 9, 10, 11, 12, 13, 14, 15, 16] rfl (fun H locs hn2 hP hS => ?_)
  refine lv_if_ne (tgt := 28) hx hb dX9_isStill_5 (by decide) (fun c3 => ?_) (fun c3 => ?_)
  · rw [if_neg c3] at hf
    refine lv_iconst (v := 0) hx hb dX9_isStill_28 (by decide) ?_
    cases hf
    exact hend _ _ _ _ rfl hP hS dX9_isStill_29
  · rw [if_pos c3] at hf
    refine lv_aload_n hx hb dX9_isStill_8 rfl (lv_at hl 0 rfl) ?_
    refine lv_iconst (v := 1) hx hb dX9_isStill_9 (by decide) ?_
    refine kb_bind hf (fun q4 hq4 hf => ?_)
    have hPc : va_P D vwCl (wdM cI cZ h v_all v_past v_states v_refused v_far v_row v_stepAt v_depth v_tries v_values v_wrong v_isEnd v_found v_reached v_stepIn v_laid v_firstRow v_text v_textLong v_spot v_taken v_counted) H := hP.sub [0, 1, 2, 3, 4, 5, 6, 7, 8, 9, 10, 11, 12, 13, 14, 15, 16] rfl
    have hDc : va_D A (wdM cI cZ h v_all v_past v_states v_refused v_far v_row v_stepAt v_depth v_tries v_values v_wrong v_isEnd v_found v_reached v_stepIn v_laid v_firstRow v_text v_textLong v_spot v_taken v_counted) := hD.sub [0, 1, 2, 3, 4, 5, 6, 7, 8, 9, 10, 11, 12, 13, 14, 15, 16] (by decide) rfl
    refine kd_iR (va_runV (As := [.int (1 : Int32)]) (rest := []) ⟨hx, hb, hml, hown, hts⟩ (c9_canDo l D cB cI cZ cO h H.size (1 : Int32) v_all v_past v_states v_refused v_far v_row v_stepAt v_depth v_tries v_values v_wrong v_isEnd v_found v_reached v_stepIn v_laid v_firstRow v_text v_textLong v_spot v_taken v_counted q4 hq4) (cwV 1 hts gX9_isStill_X9_canDo rfl rfl rfl (by decide +kernel) ⟨Nat.le_of_ble_eq_true rfl, Nat.le_of_ble_eq_true rfl⟩) ⟨kb_blind, va_recv hK hPc (ci := 6) (q0 := 0) rfl rfl, kb_pre hPc hDc hK hN⟩ rfl rfl hl.1 rfl (lv_room (Nat.le_of_ble_eq_true rfl)) dX9_isStill_10 ⟨Nat.le_refl _, Nat.le_refl _⟩) hP hD hS hA [0, 1, 2, 3, 4, 5, 6, 7, 8, 9, 10, 11, 12, 13, 14, 15, 16] rfl (fun H locs hn5 hP hS => ?_)
    refine lv_if_ne (tgt := 28) hx hb dX9_isStill_13 (by decide) (fun c6 => ?_) (fun c6 => ?_)
    · rw [if_neg c6] at hf
      refine lv_iconst (v := 0) hx hb dX9_isStill_28 (by decide) ?_
      cases hf
      exact hend _ _ _ _ rfl hP hS dX9_isStill_29
    · rw [if_pos c6] at hf
      refine lv_aload_n hx hb dX9_isStill_16 rfl (lv_at hl 0 rfl) ?_
      refine lv_iconst (v := 2) hx hb dX9_isStill_17 (by decide) ?_
      refine kb_bind hf (fun q7 hq7 hf => ?_)
      have hPc : va_P D vwCl (wdM cI cZ h v_all v_past v_states v_refused v_far v_row v_stepAt v_depth v_tries v_values v_wrong v_isEnd v_found v_reached v_stepIn v_laid v_firstRow v_text v_textLong v_spot v_taken v_counted) H := hP.sub [0, 1, 2, 3, 4, 5, 6, 7, 8, 9, 10, 11, 12, 13, 14, 15, 16] rfl
      have hDc : va_D A (wdM cI cZ h v_all v_past v_states v_refused v_far v_row v_stepAt v_depth v_tries v_values v_wrong v_isEnd v_found v_reached v_stepIn v_laid v_firstRow v_text v_textLong v_spot v_taken v_counted) := hD.sub [0, 1, 2, 3, 4, 5, 6, 7, 8, 9, 10, 11, 12, 13, 14, 15, 16] (by decide) rfl
      refine kd_iR (va_runV (As := [.int (2 : Int32)]) (rest := []) ⟨hx, hb, hml, hown, hts⟩ (c9_canDo l D cB cI cZ cO h H.size (2 : Int32) v_all v_past v_states v_refused v_far v_row v_stepAt v_depth v_tries v_values v_wrong v_isEnd v_found v_reached v_stepIn v_laid v_firstRow v_text v_textLong v_spot v_taken v_counted q7 hq7) (cwV 1 hts gX9_isStill_X9_canDo rfl rfl rfl (by decide +kernel) ⟨Nat.le_of_ble_eq_true rfl, Nat.le_of_ble_eq_true rfl⟩) ⟨kb_blind, va_recv hK hPc (ci := 6) (q0 := 0) rfl rfl, kb_pre hPc hDc hK hN⟩ rfl rfl hl.1 rfl (lv_room (Nat.le_of_ble_eq_true rfl)) dX9_isStill_18 ⟨Nat.le_refl _, Nat.le_refl _⟩) hP hD hS hA [0, 1, 2, 3, 4, 5, 6, 7, 8, 9, 10, 11, 12, 13, 14, 15, 16] rfl (fun H locs hn8 hP hS => ?_)
      refine lv_if_ne (tgt := 28) hx hb dX9_isStill_21 (by decide) (fun c9 => ?_) (fun c9 => ?_)
      · rw [if_neg c9] at hf
        refine lv_iconst (v := 0) hx hb dX9_isStill_28 (by decide) ?_
        cases hf
        exact hend _ _ _ _ rfl hP hS dX9_isStill_29
      · rw [if_pos c9] at hf
        refine lv_iconst (v := 1) hx hb dX9_isStill_24 (by decide) ?_
        refine lv_goto (tgt := 29) hx hb dX9_isStill_25 (by decide) ?_
        cases hf
        exact hend _ _ _ _ rfl hP hS dX9_isStill_29

set_option maxHeartbeats 4000000 in
set_option maxRecDepth 100000 in
theorem c9_starts (l : Launch) (D : va_G) (cB cI cZ cO : ClassId) (h : Nat → Nat) (sz : Nat) (v_all : Nat → Int32) (v_past : Nat → Int32) (v_states : Int32) (v_refused : Nat → Int32) (v_far : Nat → Int32) (v_row : Nat → Int32) (v_stepAt : Nat → Int32) (v_depth : Int32) (v_tries : Nat → Int32) (v_values : Nat → Int32) (v_wrong : Int32) (v_isEnd : Nat → Int32) (v_found : Nat → Int32) (v_reached : Nat → Int32) (v_stepIn : Nat → Int32) (v_laid : Nat → Int32) (v_firstRow : Nat → Int32) (v_text : Nat → Int32) (v_textLong : Int32) (v_spot : Int32) (v_taken : Int32) (v_counted : Nat → Int32) (v_far' : Nat → Int32) (v_depth' : Int32) (v_tries' : Nat → Int32) (hf : f9_starts v_far v_depth v_tries = some (v_far', v_depth', v_tries')) : Met l yX9_starts wsX9_starts rm9_starts (va_Pc [.ref (h 0)] (kb_B D (ka_tys cB cI cZ cO) sz (wdM cI cZ h v_all v_past v_states v_refused v_far v_row v_stepAt v_depth v_tries v_values v_wrong v_isEnd v_found v_reached v_stepIn v_laid v_firstRow v_text v_textLong v_spot v_taken v_counted))) (va_Qv (fun (_ : Unit) => True) (fun _ t => va_P D vwCl (wdM cI cZ h v_all v_past v_states v_refused (v_far') v_row v_stepAt (v_depth') (v_tries') v_values v_wrong v_isEnd v_found v_reached v_stepIn v_laid v_firstRow v_text v_textLong v_spot v_taken v_counted) t.heap) (va_A (wdM cI cZ h v_all v_past v_states v_refused v_far v_row v_stepAt v_depth v_tries v_values v_wrong v_isEnd v_found v_reached v_stepIn v_laid v_firstRow v_text v_textLong v_spot v_taken v_counted) sz)) 0 0 (va_A (wdM cI cZ h v_all v_past v_states v_refused v_far v_row v_stepAt v_depth v_tries v_values v_wrong v_isEnd v_found v_reached v_stepIn v_laid v_firstRow v_text v_textLong v_spot v_taken v_counted) sz) := by
  refine kb_metV (cc := cX9_starts) (maxL := 1) (by decide) rfl (Nat.le_of_ble_eq_true rfl) ?_
  intro p e s m args below meth c Q A ls H hx hb hml hown hts hK hN hP hD hS hA hl hend
  have hown : s.vm.findClass RX9 = some m.cls := hown
  have hl : lv_has ls 1 [(0, .ref (h 0))] := hl
  have hin9 : ∀ w ∈ u_ws RX9 TX9 22, w ∈ wsX9_starts := by decide +kernel
  rw [f9_starts] at hf
  refine lv_aload_n hx hb dX9_starts_0 rfl (lv_at hl 0 rfl) ?_
  refine lv_iconst (v := 0) hx hb dX9_starts_1 (by decide) ?_
  refine va_put (D := D) (cl := vwCl) (ci := 6) (v := .int (0 : Int32)) (ty := .int) (C := RX9) (T := TX9) (N := 22) hx hb hts hin9 tyX9 tyX9_ok nmX9 hown hK hP hD hS 0 rfl rfl 7 (by decide) (hts (.fieldLink RX9 130 "StepOrdersModel" "depth" "I") (by decide +kernel)) (fun _ h9 => h9) rfl (tyX9_ok 7 (by decide)) rfl rfl (Nat.le_of_ble_eq_true rfl) dX9_starts_2 (fun H locs hP hD hS => ?_)
  have hP : va_P D vwCl (wdM cI cZ h v_all v_past v_states v_refused v_far v_row v_stepAt (0 : Int32) v_tries v_values v_wrong v_isEnd v_found v_reached v_stepIn v_laid v_firstRow v_text v_textLong v_spot v_taken v_counted) H := hP
  have hD : va_D A (wdM cI cZ h v_all v_past v_states v_refused v_far v_row v_stepAt (0 : Int32) v_tries v_values v_wrong v_isEnd v_found v_reached v_stepIn v_laid v_firstRow v_text v_textLong v_spot v_taken v_counted) := hD
  refine lv_aload_n hx hb dX9_starts_5 rfl (lv_at hl 0 rfl) ?_
  refine va_get (D := D) (cl := vwCl) (ci := 6) (v := .ref (h 7)) (C := RX9) (T := TX9) (N := 22) hx hb hts hin9 hown hK hP 0 rfl rfl 8 (by decide) (hts (.fieldLink RX9 28 "StepOrdersModel" "tries" "[I") (by decide +kernel)) (fun _ h9 => h9) rfl dX9_starts_6 ?_
  refine lv_iconst (v := 0) hx hb dX9_starts_9 (by decide) ?_
  refine lv_iconst (v := 0) hx hb dX9_starts_10 (by decide) ?_
  refine ka_iast (D := D) (cl := vwCl) hx hb hK hP hD hS 7 1 (f := v_tries) (g := (upd v_tries 0 (0 : Int32))) rfl rfl (show ¬ (_ ∨ _) from by decide) rfl dX9_starts_11 (fun H locs hP hD hS => ?_)
  have hP : va_P D vwCl (wdM cI cZ h v_all v_past v_states v_refused v_far v_row v_stepAt (0 : Int32) (upd v_tries 0 (0 : Int32)) v_values v_wrong v_isEnd v_found v_reached v_stepIn v_laid v_firstRow v_text v_textLong v_spot v_taken v_counted) H := hP
  have hD : va_D A (wdM cI cZ h v_all v_past v_states v_refused v_far v_row v_stepAt (0 : Int32) (upd v_tries 0 (0 : Int32)) v_values v_wrong v_isEnd v_found v_reached v_stepIn v_laid v_firstRow v_text v_textLong v_spot v_taken v_counted) := hD
  refine lv_aload_n hx hb dX9_starts_12 rfl (lv_at hl 0 rfl) ?_
  refine va_get (D := D) (cl := vwCl) (ci := 6) (v := .ref (h 4)) (C := RX9) (T := TX9) (N := 22) hx hb hts hin9 hown hK hP 0 rfl rfl 4 (by decide) (hts (.fieldLink RX9 19 "StepOrdersModel" "far" "[I") (by decide +kernel)) (fun _ h9 => h9) rfl dX9_starts_13 ?_
  refine lv_iconst (v := 0) hx hb dX9_starts_16 (by decide) ?_
  refine lv_iconst (v := 0) hx hb dX9_starts_17 (by decide) ?_
  refine ka_iast (D := D) (cl := vwCl) hx hb hK hP hD hS 4 1 (f := v_far) (g := (upd v_far 0 (0 : Int32))) rfl rfl (show ¬ (_ ∨ _) from by decide) rfl dX9_starts_18 (fun H locs hP hD hS => ?_)
  have hP : va_P D vwCl (wdM cI cZ h v_all v_past v_states v_refused (upd v_far 0 (0 : Int32)) v_row v_stepAt (0 : Int32) (upd v_tries 0 (0 : Int32)) v_values v_wrong v_isEnd v_found v_reached v_stepIn v_laid v_firstRow v_text v_textLong v_spot v_taken v_counted) H := hP
  have hD : va_D A (wdM cI cZ h v_all v_past v_states v_refused (upd v_far 0 (0 : Int32)) v_row v_stepAt (0 : Int32) (upd v_tries 0 (0 : Int32)) v_values v_wrong v_isEnd v_found v_reached v_stepIn v_laid v_firstRow v_text v_textLong v_spot v_taken v_counted) := hD
  refine lv_aload_n hx hb dX9_starts_19 rfl (lv_at hl 0 rfl) ?_
  refine va_get (D := D) (cl := vwCl) (ci := 6) (v := .ref (h 4)) (C := RX9) (T := TX9) (N := 22) hx hb hts hin9 hown hK hP 0 rfl rfl 4 (by decide) (hts (.fieldLink RX9 19 "StepOrdersModel" "far" "[I") (by decide +kernel)) (fun _ h9 => h9) rfl dX9_starts_20 ?_
  refine lv_iconst (v := 1) hx hb dX9_starts_23 (by decide) ?_
  refine lv_iconst (v := 0) hx hb dX9_starts_24 (by decide) ?_
  refine ka_iast (D := D) (cl := vwCl) hx hb hK hP hD hS 4 1 (f := (upd v_far 0 (0 : Int32))) (g := (upd (upd v_far 0 (0 : Int32)) 1 (0 : Int32))) rfl rfl (show ¬ (_ ∨ _) from by decide) rfl dX9_starts_25 (fun H locs hP hD hS => ?_)
  have hP : va_P D vwCl (wdM cI cZ h v_all v_past v_states v_refused (upd (upd v_far 0 (0 : Int32)) 1 (0 : Int32)) v_row v_stepAt (0 : Int32) (upd v_tries 0 (0 : Int32)) v_values v_wrong v_isEnd v_found v_reached v_stepIn v_laid v_firstRow v_text v_textLong v_spot v_taken v_counted) H := hP
  have hD : va_D A (wdM cI cZ h v_all v_past v_states v_refused (upd (upd v_far 0 (0 : Int32)) 1 (0 : Int32)) v_row v_stepAt (0 : Int32) (upd v_tries 0 (0 : Int32)) v_values v_wrong v_isEnd v_found v_reached v_stepIn v_laid v_firstRow v_text v_textLong v_spot v_taken v_counted) := hD
  refine lv_aload_n hx hb dX9_starts_26 rfl (lv_at hl 0 rfl) ?_
  refine va_get (D := D) (cl := vwCl) (ci := 6) (v := .ref (h 4)) (C := RX9) (T := TX9) (N := 22) hx hb hts hin9 hown hK hP 0 rfl rfl 4 (by decide) (hts (.fieldLink RX9 19 "StepOrdersModel" "far" "[I") (by decide +kernel)) (fun _ h9 => h9) rfl dX9_starts_27 ?_
  refine lv_iconst (v := 2) hx hb dX9_starts_30 (by decide) ?_
  refine lv_iconst (v := 0) hx hb dX9_starts_31 (by decide) ?_
  refine ka_iast (D := D) (cl := vwCl) hx hb hK hP hD hS 4 1 (f := (upd (upd v_far 0 (0 : Int32)) 1 (0 : Int32))) (g := (upd (upd (upd v_far 0 (0 : Int32)) 1 (0 : Int32)) 2 (0 : Int32))) rfl rfl (show ¬ (_ ∨ _) from by decide) rfl dX9_starts_32 (fun H locs hP hD hS => ?_)
  have hP : va_P D vwCl (wdM cI cZ h v_all v_past v_states v_refused (upd (upd (upd v_far 0 (0 : Int32)) 1 (0 : Int32)) 2 (0 : Int32)) v_row v_stepAt (0 : Int32) (upd v_tries 0 (0 : Int32)) v_values v_wrong v_isEnd v_found v_reached v_stepIn v_laid v_firstRow v_text v_textLong v_spot v_taken v_counted) H := hP
  have hD : va_D A (wdM cI cZ h v_all v_past v_states v_refused (upd (upd (upd v_far 0 (0 : Int32)) 1 (0 : Int32)) 2 (0 : Int32)) v_row v_stepAt (0 : Int32) (upd v_tries 0 (0 : Int32)) v_values v_wrong v_isEnd v_found v_reached v_stepIn v_laid v_firstRow v_text v_textLong v_spot v_taken v_counted) := hD
  cases hf
  exact hend _ _ _ _ hP hS dX9_starts_33

set_option maxHeartbeats 4000000 in
set_option maxRecDepth 100000 in
theorem c9_mayGo (l : Launch) (D : va_G) (cB cI cZ cO : ClassId) (h : Nat → Nat) (sz : Nat) (x1 : Int32) (v_all : Nat → Int32) (v_past : Nat → Int32) (v_states : Int32) (v_refused : Nat → Int32) (v_far : Nat → Int32) (v_row : Nat → Int32) (v_stepAt : Nat → Int32) (v_depth : Int32) (v_tries : Nat → Int32) (v_values : Nat → Int32) (v_wrong : Int32) (v_isEnd : Nat → Int32) (v_found : Nat → Int32) (v_reached : Nat → Int32) (v_stepIn : Nat → Int32) (v_laid : Nat → Int32) (v_firstRow : Nat → Int32) (v_text : Nat → Int32) (v_textLong : Int32) (v_spot : Int32) (v_taken : Int32) (v_counted : Nat → Int32) (r0 : Int32) (hf : f9_mayGo v_all v_far v_row v_stepAt v_depth x1 = some r0) : Met l yX9_mayGo wsX9_mayGo rm9_mayGo (va_Pc [.ref (h 0), .int x1] (kb_B D (ka_tys cB cI cZ cO) sz (wdM cI cZ h v_all v_past v_states v_refused v_far v_row v_stepAt v_depth v_tries v_values v_wrong v_isEnd v_found v_reached v_stepIn v_laid v_firstRow v_text v_textLong v_spot v_taken v_counted))) (va_Qi (kb_post .boolean r0) (fun _ t => va_P D vwCl (wdM cI cZ h v_all v_past v_states v_refused v_far v_row v_stepAt v_depth v_tries v_values v_wrong v_isEnd v_found v_reached v_stepIn v_laid v_firstRow v_text v_textLong v_spot v_taken v_counted) t.heap) (va_A (wdM cI cZ h v_all v_past v_states v_refused v_far v_row v_stepAt v_depth v_tries v_values v_wrong v_isEnd v_found v_reached v_stepIn v_laid v_firstRow v_text v_textLong v_spot v_taken v_counted) sz)) 0 0 (va_A (wdM cI cZ h v_all v_past v_states v_refused v_far v_row v_stepAt v_depth v_tries v_values v_wrong v_isEnd v_found v_reached v_stepIn v_laid v_firstRow v_text v_textLong v_spot v_taken v_counted) sz) := by
  refine kb_metZ (cc := cX9_mayGo) (maxL := 3) (ty := .boolean) (by decide) rfl (Nat.le_of_ble_eq_true rfl) ?_
  intro p e s m args below meth c Q A ls H hx hb hml hown hts hK hN hP hD hS hA hl hend
  have hown : s.vm.findClass RX9 = some m.cls := hown
  have hl : lv_has ls 3 [(0, .ref (h 0)), (1, .int x1)] := hl
  have hin9 : ∀ w ∈ u_ws RX9 TX9 22, w ∈ wsX9_mayGo := by decide +kernel
  have J17 : ∀ (n : Nat) (x1 : Int32) (x2 : Int32) (H : Heap) (locs : List Loc) (ls : Array Slot), f9_mayGo_l17 n v_all v_far v_row v_stepAt v_depth x1 x2 = some r0 → va_P D vwCl (wdM cI cZ h v_all v_past v_states v_refused v_far v_row v_stepAt v_depth v_tries v_values v_wrong v_isEnd v_found v_reached v_stepIn v_laid v_firstRow v_text v_textLong v_spot v_taken v_counted) H → va_D A (wdM cI cZ h v_all v_past v_states v_refused v_far v_row v_stepAt v_depth v_tries v_values v_wrong v_isEnd v_found v_reached v_stepIn v_laid v_firstRow v_text v_textLong v_spot v_taken v_counted) → va_S A s.heap H locs → lv_has ls 3 [(0, .ref (h 0)), (1, .int x1), (2, .int x2)] → W p l e rm9_mayGo s m args below meth c H locs 0 0 Q (F0 m 17 ls []) := by
    intro n
    induction n with
    | zero =>
      intro x1 x2 H locs ls hf
      cases (show (none : Option (Int32)) = some r0 from hf)
    | succ n ih =>
      intro x1 x2 H locs ls hf hP hD hS hl
      rw [f9_mayGo_l17_s] at hf
      refine lv_iload_n hx hb dX9_mayGo_17 rfl (lv_at hl 2 rfl) ?_
      refine lv_if_lt (tgt := 67) hx hb dX9_mayGo_18 (by decide) (fun c10 => ?_) (fun c10 => ?_)
      · rw [if_pos c10] at hf
        refine lv_iconst (v := 1) hx hb dX9_mayGo_67 (by decide) ?_
        cases hf
        exact hend _ _ _ _ rfl hP hS dX9_mayGo_68
      · rw [if_neg c10] at hf
        refine lv_aload_n hx hb dX9_mayGo_21 rfl (lv_at hl 0 rfl) ?_
        refine lv_aload_n hx hb dX9_mayGo_22 rfl (lv_at hl 0 rfl) ?_
        refine va_get (D := D) (cl := vwCl) (ci := 6) (v := .ref (h 5)) (C := RX9) (T := TX9) (N := 22) hx hb hts hin9 hown hK hP 0 rfl rfl 5 (by decide) (hts (.fieldLink RX9 22 "StepOrdersModel" "row" "[I") (by decide +kernel)) (fun _ h9 => h9) rfl dX9_mayGo_23 ?_
        refine lv_iload_n hx hb dX9_mayGo_26 rfl (lv_at hl 2 rfl) ?_
        refine kb_bind hf (fun v11 hv11 hf => ?_)
        refine ka_iald (D := D) (cl := vwCl) hx hb hK hP 5 1 (f := v_row) rfl rfl (ard_in hv11) (ard_v hv11) dX9_mayGo_27 ?_
        refine lv_aload_n hx hb dX9_mayGo_28 rfl (lv_at hl 0 rfl) ?_
        refine va_get (D := D) (cl := vwCl) (ci := 6) (v := .ref (h 6)) (C := RX9) (T := TX9) (N := 22) hx hb hts hin9 hown hK hP 0 rfl rfl 6 (by decide) (hts (.fieldLink RX9 25 "StepOrdersModel" "stepAt" "[I") (by decide +kernel)) (fun _ h9 => h9) rfl dX9_mayGo_29 ?_
        refine lv_iload_n hx hb dX9_mayGo_32 rfl (lv_at hl 2 rfl) ?_
        refine kb_bind hf (fun v12 hv12 hf => ?_)
        refine ka_iald (D := D) (cl := vwCl) hx hb hK hP 6 1 (f := v_stepAt) rfl rfl (ard_in hv12) (ard_v hv12) dX9_mayGo_33 ?_
        refine lv_iload_n hx hb dX9_mayGo_34 rfl (lv_at hl 1 rfl) ?_
        refine lv_aload_n hx hb dX9_mayGo_35 rfl (lv_at hl 0 rfl) ?_
        refine va_get (D := D) (cl := vwCl) (ci := 6) (v := .ref (h 4)) (C := RX9) (T := TX9) (N := 22) hx hb hts hin9 hown hK hP 0 rfl rfl 4 (by decide) (hts (.fieldLink RX9 19 "StepOrdersModel" "far" "[I") (by decide +kernel)) (fun _ h9 => h9) rfl dX9_mayGo_36 ?_
        refine lv_iload_n hx hb dX9_mayGo_39 rfl (lv_at hl 1 rfl) ?_
        refine kb_bind hf (fun v13 hv13 hf => ?_)
        refine ka_iald (D := D) (cl := vwCl) hx hb hK hP 4 1 (f := v_far) rfl rfl (ard_in hv13) (ard_v hv13) dX9_mayGo_40 ?_
        refine kb_bind hf (fun q14 hq14 hf => ?_)
        have hPc : va_P D vwCl (wdM cI cZ h v_all v_past v_states v_refused v_far v_row v_stepAt v_depth v_tries v_values v_wrong v_isEnd v_found v_reached v_stepIn v_laid v_firstRow v_text v_textLong v_spot v_taken v_counted) H := hP.sub [0, 1, 2, 3, 4, 5, 6, 7, 8, 9, 10, 11, 12, 13, 14, 15, 16] rfl
        have hDc : va_D A (wdM cI cZ h v_all v_past v_states v_refused v_far v_row v_stepAt v_depth v_tries v_values v_wrong v_isEnd v_found v_reached v_stepIn v_laid v_firstRow v_text v_textLong v_spot v_taken v_counted) := hD.sub [0, 1, 2, 3, 4, 5, 6, 7, 8, 9, 10, 11, 12, 13, 14, 15, 16] (by decide) rfl
        refine kd_iR (va_runV (As := [.int v11, .int v12, .int x1, .int v13]) (rest := []) ⟨hx, hb, hml, hown, hts⟩ (c9_areDependent l D cB cI cZ cO h H.size v11 v12 x1 v13 v_all v_past v_states v_refused v_far v_row v_stepAt v_depth v_tries v_values v_wrong v_isEnd v_found v_reached v_stepIn v_laid v_firstRow v_text v_textLong v_spot v_taken v_counted q14 hq14) (cwV 4 hts gX9_mayGo_X9_areDependent rfl rfl rfl (by decide +kernel) ⟨Nat.le_of_ble_eq_true rfl, Nat.le_of_ble_eq_true rfl⟩) ⟨kb_blind, va_recv hK hPc (ci := 6) (q0 := 0) rfl rfl, kb_pre hPc hDc hK hN⟩ rfl rfl hl.1 rfl (lv_room (Nat.le_of_ble_eq_true rfl)) dX9_mayGo_41 ⟨Nat.le_refl _, Nat.le_refl _⟩) hP hD hS hA [0, 1, 2, 3, 4, 5, 6, 7, 8, 9, 10, 11, 12, 13, 14, 15, 16] rfl (fun H locs hn15 hP hS => ?_)
        refine lv_if_eq (tgt := 49) hx hb dX9_mayGo_44 (by decide) (fun c16 => ?_) (fun c16 => ?_)
        · rw [if_pos c16] at hf
          refine lv_aload_n hx hb dX9_mayGo_49 rfl (lv_at hl 0 rfl) ?_
          refine va_get (D := D) (cl := vwCl) (ci := 6) (v := .ref (h 5)) (C := RX9) (T := TX9) (N := 22) hx hb hts hin9 hown hK hP 0 rfl rfl 5 (by decide) (hts (.fieldLink RX9 22 "StepOrdersModel" "row" "[I") (by decide +kernel)) (fun _ h9 => h9) rfl dX9_mayGo_50 ?_
          refine lv_iload_n hx hb dX9_mayGo_53 rfl (lv_at hl 2 rfl) ?_
          refine kb_bind hf (fun v17 hv17 hf => ?_)
          refine ka_iald (D := D) (cl := vwCl) hx hb hK hP 5 1 (f := v_row) rfl rfl (ard_in hv17) (ard_v hv17) dX9_mayGo_54 ?_
          refine lv_iload_n hx hb dX9_mayGo_55 rfl (lv_at hl 1 rfl) ?_
          refine lv_icmp_le (tgt := 61) hx hb dX9_mayGo_56 (by decide) (fun c18 => ?_) (fun c18 => ?_)
          · rw [if_pos c18] at hf
            refine lv_iinc (v := (x2 + (-1))) (lv' := [(2, .int (x2 + (-1))), (0, .ref (h 0)), (1, .int x1)]) hx hb dX9_mayGo_61 hl (k := 2) rfl rfl (by decide) rfl (fun ls hl => ?_)
            refine lv_goto (tgt := 17) hx hb dX9_mayGo_64 (by decide) ?_
            exact ih x1 (x2 + (-1)) _ _ _ hf hP hD hS (lv_sub hl [1, 2, 0] rfl)
          · rw [if_neg c18] at hf
            refine lv_iconst (v := 0) hx hb dX9_mayGo_59 (by decide) ?_
            cases hf
            exact hend _ _ _ _ rfl hP hS dX9_mayGo_60
        · rw [if_neg c16] at hf
          refine lv_iconst (v := 1) hx hb dX9_mayGo_47 (by decide) ?_
          cases hf
          exact hend _ _ _ _ rfl hP hS dX9_mayGo_48
  rw [f9_mayGo] at hf
  refine lv_aload_n hx hb dX9_mayGo_0 rfl (lv_at hl 0 rfl) ?_
  refine lv_iload_n hx hb dX9_mayGo_1 rfl (lv_at hl 1 rfl) ?_
  refine kb_bind hf (fun q19 hq19 hf => ?_)
  have hPc : va_P D vwCl (wdM cI cZ h v_all v_past v_states v_refused v_far v_row v_stepAt v_depth v_tries v_values v_wrong v_isEnd v_found v_reached v_stepIn v_laid v_firstRow v_text v_textLong v_spot v_taken v_counted) H := hP.sub [0, 1, 2, 3, 4, 5, 6, 7, 8, 9, 10, 11, 12, 13, 14, 15, 16] rfl
  have hDc : va_D A (wdM cI cZ h v_all v_past v_states v_refused v_far v_row v_stepAt v_depth v_tries v_values v_wrong v_isEnd v_found v_reached v_stepIn v_laid v_firstRow v_text v_textLong v_spot v_taken v_counted) := hD.sub [0, 1, 2, 3, 4, 5, 6, 7, 8, 9, 10, 11, 12, 13, 14, 15, 16] (by decide) rfl
  refine kd_iR (va_runV (As := [.int x1]) (rest := []) ⟨hx, hb, hml, hown, hts⟩ (c9_canDo l D cB cI cZ cO h H.size x1 v_all v_past v_states v_refused v_far v_row v_stepAt v_depth v_tries v_values v_wrong v_isEnd v_found v_reached v_stepIn v_laid v_firstRow v_text v_textLong v_spot v_taken v_counted q19 hq19) (cwV 1 hts gX9_mayGo_X9_canDo rfl rfl rfl (by decide +kernel) ⟨Nat.le_of_ble_eq_true rfl, Nat.le_of_ble_eq_true rfl⟩) ⟨kb_blind, va_recv hK hPc (ci := 6) (q0 := 0) rfl rfl, kb_pre hPc hDc hK hN⟩ rfl rfl hl.1 rfl (lv_room (Nat.le_of_ble_eq_true rfl)) dX9_mayGo_2 ⟨Nat.le_refl _, Nat.le_refl _⟩) hP hD hS hA [0, 1, 2, 3, 4, 5, 6, 7, 8, 9, 10, 11, 12, 13, 14, 15, 16] rfl (fun H locs hn20 hP hS => ?_)
  refine lv_if_ne (tgt := 10) hx hb dX9_mayGo_5 (by decide) (fun c21 => ?_) (fun c21 => ?_)
  · rw [if_neg c21] at hf
    refine lv_aload_n hx hb dX9_mayGo_10 rfl (lv_at hl 0 rfl) ?_
    refine va_get (D := D) (cl := vwCl) (ci := 6) (v := .int v_depth) (C := RX9) (T := TX9) (N := 22) hx hb hts hin9 hown hK hP 0 rfl rfl 7 (by decide) (hts (.fieldLink RX9 130 "StepOrdersModel" "depth" "I") (by decide +kernel)) (fun _ h9 => h9) rfl dX9_mayGo_11 ?_
    refine lv_iconst (v := 1) hx hb dX9_mayGo_14 (by decide) ?_
    refine lv_isub hx hb dX9_mayGo_15 ?_
    refine lv_istore_n (lv' := [(2, .int (v_depth - (1 : Int32))), (0, .ref (h 0)), (1, .int x1)]) hx hb dX9_mayGo_16 rfl hl (by decide) rfl (fun ls hl => ?_)
    exact J17 kFUEL x1 (v_depth - (1 : Int32)) _ _ _ hf hP hD hS (lv_sub hl [1, 2, 0] rfl)
  · rw [if_pos c21] at hf
    refine lv_iconst (v := 0) hx hb dX9_mayGo_8 (by decide) ?_
    cases hf
    exact hend _ _ _ _ rfl hP hS dX9_mayGo_9

set_option maxHeartbeats 4000000 in
set_option maxRecDepth 100000 in
theorem c9_goesOn (l : Launch) (D : va_G) (cB cI cZ cO : ClassId) (h : Nat → Nat) (sz : Nat) (v_all : Nat → Int32) (v_past : Nat → Int32) (v_states : Int32) (v_refused : Nat → Int32) (v_far : Nat → Int32) (v_row : Nat → Int32) (v_stepAt : Nat → Int32) (v_depth : Int32) (v_tries : Nat → Int32) (v_values : Nat → Int32) (v_wrong : Int32) (v_isEnd : Nat → Int32) (v_found : Nat → Int32) (v_reached : Nat → Int32) (v_stepIn : Nat → Int32) (v_laid : Nat → Int32) (v_firstRow : Nat → Int32) (v_text : Nat → Int32) (v_textLong : Int32) (v_spot : Int32) (v_taken : Int32) (v_counted : Nat → Int32) (r0 : Int32) (v_far' : Nat → Int32) (v_row' : Nat → Int32) (v_stepAt' : Nat → Int32) (v_depth' : Int32) (v_tries' : Nat → Int32) (hf : f9_goesOn v_all v_far v_row v_stepAt v_depth v_tries = some (r0, v_far', v_row', v_stepAt', v_depth', v_tries')) : Met l yX9_goesOn wsX9_goesOn rm9_goesOn (va_Pc [.ref (h 0)] (kb_B D (ka_tys cB cI cZ cO) sz (wdM cI cZ h v_all v_past v_states v_refused v_far v_row v_stepAt v_depth v_tries v_values v_wrong v_isEnd v_found v_reached v_stepIn v_laid v_firstRow v_text v_textLong v_spot v_taken v_counted))) (va_Qi (kb_post .boolean r0) (fun _ t => va_P D vwCl (wdM cI cZ h v_all v_past v_states v_refused (v_far') (v_row') (v_stepAt') (v_depth') (v_tries') v_values v_wrong v_isEnd v_found v_reached v_stepIn v_laid v_firstRow v_text v_textLong v_spot v_taken v_counted) t.heap) (va_A (wdM cI cZ h v_all v_past v_states v_refused v_far v_row v_stepAt v_depth v_tries v_values v_wrong v_isEnd v_found v_reached v_stepIn v_laid v_firstRow v_text v_textLong v_spot v_taken v_counted) sz)) 0 0 (va_A (wdM cI cZ h v_all v_past v_states v_refused v_far v_row v_stepAt v_depth v_tries v_values v_wrong v_isEnd v_found v_reached v_stepIn v_laid v_firstRow v_text v_textLong v_spot v_taken v_counted) sz) := by
  refine kb_metZ (cc := cX9_goesOn) (maxL := 2) (ty := .boolean) (by decide) rfl (Nat.le_of_ble_eq_true rfl) ?_
  intro p e s m args below meth c Q A ls H hx hb hml hown hts hK hN hP hD hS hA hl hend
  have hown : s.vm.findClass RX9 = some m.cls := hown
  have hl : lv_has ls 2 [(0, .ref (h 0))] := hl
  have hin9 : ∀ w ∈ u_ws RX9 TX9 22, w ∈ wsX9_goesOn := by decide +kernel
  have J19 : ∀ (v_far : Nat → Int32) (v_row : Nat → Int32) (v_stepAt : Nat → Int32) (v_depth : Int32) (v_tries : Nat → Int32) (H : Heap) (locs : List Loc) (ls : Array Slot), f9_goesOn_b19 v_all v_far v_row v_stepAt v_depth v_tries = some (r0, v_far', v_row', v_stepAt', v_depth', v_tries') → va_P D vwCl (wdM cI cZ h v_all v_past v_states v_refused v_far v_row v_stepAt v_depth v_tries v_values v_wrong v_isEnd v_found v_reached v_stepIn v_laid v_firstRow v_text v_textLong v_spot v_taken v_counted) H → va_D A (wdM cI cZ h v_all v_past v_states v_refused v_far v_row v_stepAt v_depth v_tries v_values v_wrong v_isEnd v_found v_reached v_stepIn v_laid v_firstRow v_text v_textLong v_spot v_taken v_counted) → va_S A s.heap H locs → lv_has ls 2 [(0, .ref (h 0))] → W p l e rm9_goesOn s m args below meth c H locs 0 0 Q (F0 m 19 ls []) := by
    intro v_far v_row v_stepAt v_depth v_tries H locs ls hf hP hD hS hl
    rw [f9_goesOn_b19] at hf
    refine lv_aload_n hx hb dX9_goesOn_19 rfl (lv_at hl 0 rfl) ?_
    refine va_get (D := D) (cl := vwCl) (ci := 6) (v := .ref (h 7)) (C := RX9) (T := TX9) (N := 22) hx hb hts hin9 hown hK hP 0 rfl rfl 8 (by decide) (hts (.fieldLink RX9 28 "StepOrdersModel" "tries" "[I") (by decide +kernel)) (fun _ h9 => h9) rfl dX9_goesOn_20 ?_
    refine lv_aload_n hx hb dX9_goesOn_23 rfl (lv_at hl 0 rfl) ?_
    refine va_get (D := D) (cl := vwCl) (ci := 6) (v := .int v_depth) (C := RX9) (T := TX9) (N := 22) hx hb hts hin9 hown hK hP 0 rfl rfl 7 (by decide) (hts (.fieldLink RX9 130 "StepOrdersModel" "depth" "I") (by decide +kernel)) (fun _ h9 => h9) rfl dX9_goesOn_24 ?_
    refine lv_iconst (v := 3) hx hb dX9_goesOn_27 (by decide) ?_
    refine kb_bind hf (fun v2 hv2 hf => ?_)
    refine ka_iast (D := D) (cl := vwCl) hx hb hK hP hD hS 7 1 (f := v_tries) (g := v2) rfl rfl (awr_in hv2) (awr_v hv2) dX9_goesOn_28 (fun H locs hP hD hS => ?_)
    have hP : va_P D vwCl (wdM cI cZ h v_all v_past v_states v_refused v_far v_row v_stepAt v_depth v2 v_values v_wrong v_isEnd v_found v_reached v_stepIn v_laid v_firstRow v_text v_textLong v_spot v_taken v_counted) H := hP
    have hD : va_D A (wdM cI cZ h v_all v_past v_states v_refused v_far v_row v_stepAt v_depth v2 v_values v_wrong v_isEnd v_found v_reached v_stepIn v_laid v_firstRow v_text v_textLong v_spot v_taken v_counted) := hD
    refine lv_iconst (v := 1) hx hb dX9_goesOn_29 (by decide) ?_
    cases hf
    exact hend _ _ _ _ rfl hP hS dX9_goesOn_30
  have J0 : ∀ (n : Nat) (v_far : Nat → Int32) (v_row : Nat → Int32) (v_stepAt : Nat → Int32) (v_depth : Int32) (v_tries : Nat → Int32) (H : Heap) (locs : List Loc) (ls : Array Slot), f9_goesOn_l0 n v_all v_far v_row v_stepAt v_depth v_tries = some (r0, v_far', v_row', v_stepAt', v_depth', v_tries') → va_P D vwCl (wdM cI cZ h v_all v_past v_states v_refused v_far v_row v_stepAt v_depth v_tries v_values v_wrong v_isEnd v_found v_reached v_stepIn v_laid v_firstRow v_text v_textLong v_spot v_taken v_counted) H → va_D A (wdM cI cZ h v_all v_past v_states v_refused v_far v_row v_stepAt v_depth v_tries v_values v_wrong v_isEnd v_found v_reached v_stepIn v_laid v_firstRow v_text v_textLong v_spot v_taken v_counted) → va_S A s.heap H locs → lv_has ls 2 [(0, .ref (h 0))] → W p l e rm9_goesOn s m args below meth c H locs 0 0 Q (F0 m 0 ls []) := by
    intro n
    induction n with
    | zero =>
      intro v_far v_row v_stepAt v_depth v_tries H locs ls hf
      cases (show (none : Option (Int32 × (Nat → Int32) × (Nat → Int32) × (Nat → Int32) × Int32 × (Nat → Int32))) = some (r0, v_far', v_row', v_stepAt', v_depth', v_tries') from hf)
    | succ n ih =>
      have J172 : ∀ (v_far : Nat → Int32) (v_row : Nat → Int32) (v_stepAt : Nat → Int32) (v_depth : Int32) (v_tries : Nat → Int32) (H : Heap) (locs : List Loc) (ls : Array Slot), f9_goesOn_b172 (f9_goesOn_l0 n) v_all v_far v_row v_stepAt v_depth v_tries = some (r0, v_far', v_row', v_stepAt', v_depth', v_tries') → va_P D vwCl (wdM cI cZ h v_all v_past v_states v_refused v_far v_row v_stepAt v_depth v_tries v_values v_wrong v_isEnd v_found v_reached v_stepIn v_laid v_firstRow v_text v_textLong v_spot v_taken v_counted) H → va_D A (wdM cI cZ h v_all v_past v_states v_refused v_far v_row v_stepAt v_depth v_tries v_values v_wrong v_isEnd v_found v_reached v_stepIn v_laid v_firstRow v_text v_textLong v_spot v_taken v_counted) → va_S A s.heap H locs → lv_has ls 2 [(0, .ref (h 0))] → W p l e rm9_goesOn s m args below meth c H locs 0 0 Q (F0 m 172 ls []) := by
        intro v_far v_row v_stepAt v_depth v_tries H locs ls hf hP hD hS hl
        rw [f9_goesOn_b172] at hf
        refine lv_goto (tgt := 0) hx hb dX9_goesOn_172 (by decide) ?_
        exact ih v_far v_row v_stepAt v_depth v_tries _ _ _ hf hP hD hS (lv_sub hl [0] rfl)
      have J60 : ∀ (v_far : Nat → Int32) (v_row : Nat → Int32) (v_stepAt : Nat → Int32) (v_depth : Int32) (v_tries : Nat → Int32) (x1 : Int32) (H : Heap) (locs : List Loc) (ls : Array Slot), f9_goesOn_b60 (f9_goesOn_l0 n) v_all v_far v_row v_stepAt v_depth v_tries x1 = some (r0, v_far', v_row', v_stepAt', v_depth', v_tries') → va_P D vwCl (wdM cI cZ h v_all v_past v_states v_refused v_far v_row v_stepAt v_depth v_tries v_values v_wrong v_isEnd v_found v_reached v_stepIn v_laid v_firstRow v_text v_textLong v_spot v_taken v_counted) H → va_D A (wdM cI cZ h v_all v_past v_states v_refused v_far v_row v_stepAt v_depth v_tries v_values v_wrong v_isEnd v_found v_reached v_stepIn v_laid v_firstRow v_text v_textLong v_spot v_taken v_counted) → va_S A s.heap H locs → lv_has ls 2 [(0, .ref (h 0)), (1, .int x1)] → W p l e rm9_goesOn s m args below meth c H locs 0 0 Q (F0 m 60 ls []) := by
        intro v_far v_row v_stepAt v_depth v_tries x1 H locs ls hf hP hD hS hl
        rw [f9_goesOn_b60] at hf
        refine lv_iload_n hx hb dX9_goesOn_60 rfl (lv_at hl 1 rfl) ?_
        refine lv_iconst (v := 3) hx hb dX9_goesOn_61 (by decide) ?_
        refine lv_icmp_ge (tgt := 135) hx hb dX9_goesOn_62 (by decide) (fun c25 => ?_) (fun c25 => ?_)
        · rw [if_pos c25] at hf
          refine lv_aload_n hx hb dX9_goesOn_135 rfl (lv_at hl 0 rfl) ?_
          refine va_get (D := D) (cl := vwCl) (ci := 6) (v := .int v_depth) (C := RX9) (T := TX9) (N := 22) hx hb hts hin9 hown hK hP 0 rfl rfl 7 (by decide) (hts (.fieldLink RX9 130 "StepOrdersModel" "depth" "I") (by decide +kernel)) (fun _ h9 => h9) rfl dX9_goesOn_136 ?_
          refine lv_if_ne (tgt := 144) hx hb dX9_goesOn_139 (by decide) (fun c26 => ?_) (fun c26 => ?_)
          · rw [if_neg c26] at hf
            refine lv_aload_n hx hb dX9_goesOn_144 rfl (lv_at hl 0 rfl) ?_
            refine lv_dup hx hb dX9_goesOn_145 rfl ?_
            refine va_get (D := D) (cl := vwCl) (ci := 6) (v := .int v_depth) (C := RX9) (T := TX9) (N := 22) hx hb hts hin9 hown hK hP 0 rfl rfl 7 (by decide) (hts (.fieldLink RX9 130 "StepOrdersModel" "depth" "I") (by decide +kernel)) (fun _ h9 => h9) rfl dX9_goesOn_146 ?_
            refine lv_iconst (v := 1) hx hb dX9_goesOn_149 (by decide) ?_
            refine lv_isub hx hb dX9_goesOn_150 ?_
            refine va_put (D := D) (cl := vwCl) (ci := 6) (v := .int (v_depth - (1 : Int32))) (ty := .int) (C := RX9) (T := TX9) (N := 22) hx hb hts hin9 tyX9 tyX9_ok nmX9 hown hK hP hD hS 0 rfl rfl 7 (by decide) (hts (.fieldLink RX9 130 "StepOrdersModel" "depth" "I") (by decide +kernel)) (fun _ h9 => h9) rfl (tyX9_ok 7 (by decide)) rfl rfl (Nat.le_of_ble_eq_true rfl) dX9_goesOn_151 (fun H locs hP hD hS => ?_)
            have hP : va_P D vwCl (wdM cI cZ h v_all v_past v_states v_refused v_far v_row v_stepAt (v_depth - (1 : Int32)) v_tries v_values v_wrong v_isEnd v_found v_reached v_stepIn v_laid v_firstRow v_text v_textLong v_spot v_taken v_counted) H := hP
            have hD : va_D A (wdM cI cZ h v_all v_past v_states v_refused v_far v_row v_stepAt (v_depth - (1 : Int32)) v_tries v_values v_wrong v_isEnd v_found v_reached v_stepIn v_laid v_firstRow v_text v_textLong v_spot v_taken v_counted) := hD
            refine lv_aload_n hx hb dX9_goesOn_154 rfl (lv_at hl 0 rfl) ?_
            refine va_get (D := D) (cl := vwCl) (ci := 6) (v := .ref (h 4)) (C := RX9) (T := TX9) (N := 22) hx hb hts hin9 hown hK hP 0 rfl rfl 4 (by decide) (hts (.fieldLink RX9 19 "StepOrdersModel" "far" "[I") (by decide +kernel)) (fun _ h9 => h9) rfl dX9_goesOn_155 ?_
            refine lv_aload_n hx hb dX9_goesOn_158 rfl (lv_at hl 0 rfl) ?_
            refine va_get (D := D) (cl := vwCl) (ci := 6) (v := .ref (h 5)) (C := RX9) (T := TX9) (N := 22) hx hb hts hin9 hown hK hP 0 rfl rfl 5 (by decide) (hts (.fieldLink RX9 22 "StepOrdersModel" "row" "[I") (by decide +kernel)) (fun _ h9 => h9) rfl dX9_goesOn_159 ?_
            refine lv_aload_n hx hb dX9_goesOn_162 rfl (lv_at hl 0 rfl) ?_
            refine va_get (D := D) (cl := vwCl) (ci := 6) (v := .int (v_depth - (1 : Int32))) (C := RX9) (T := TX9) (N := 22) hx hb hts hin9 hown hK hP 0 rfl rfl 7 (by decide) (hts (.fieldLink RX9 130 "StepOrdersModel" "depth" "I") (by decide +kernel)) (fun _ h9 => h9) rfl dX9_goesOn_163 ?_
            refine kb_bind hf (fun v27 hv27 hf => ?_)
            refine ka_iald (D := D) (cl := vwCl) hx hb hK hP 5 1 (f := v_row) rfl rfl (ard_in hv27) (ard_v hv27) dX9_goesOn_166 ?_
            refine lv_dup2_11 hx hb dX9_goesOn_167 rfl rfl ?_
            refine kb_bind hf (fun v28 hv28 hf => ?_)
            refine ka_iald (D := D) (cl := vwCl) hx hb hK hP 4 1 (f := v_far) rfl rfl (ard_in hv28) (ard_v hv28) dX9_goesOn_168 ?_
            refine lv_iconst (v := 1) hx hb dX9_goesOn_169 (by decide) ?_
            refine lv_isub hx hb dX9_goesOn_170 ?_
            refine kb_bind hf (fun v29 hv29 hf => ?_)
            refine ka_iast (D := D) (cl := vwCl) hx hb hK hP hD hS 4 1 (f := v_far) (g := v29) rfl rfl (awr_in hv29) (awr_v hv29) dX9_goesOn_171 (fun H locs hP hD hS => ?_)
            have hP : va_P D vwCl (wdM cI cZ h v_all v_past v_states v_refused v29 v_row v_stepAt (v_depth - (1 : Int32)) v_tries v_values v_wrong v_isEnd v_found v_reached v_stepIn v_laid v_firstRow v_text v_textLong v_spot v_taken v_counted) H := hP
            have hD : va_D A (wdM cI cZ h v_all v_past v_states v_refused v29 v_row v_stepAt (v_depth - (1 : Int32)) v_tries v_values v_wrong v_isEnd v_found v_reached v_stepIn v_laid v_firstRow v_text v_textLong v_spot v_taken v_counted) := hD
            exact J172 v29 v_row v_stepAt (v_depth - (1 : Int32)) v_tries _ _ _ hf hP hD hS (lv_sub hl [0] rfl)
          · rw [if_pos c26] at hf
            refine lv_iconst (v := 0) hx hb dX9_goesOn_142 (by decide) ?_
            cases hf
            exact hend _ _ _ _ rfl hP hS dX9_goesOn_143
        · rw [if_neg c25] at hf
          refine lv_aload_n hx hb dX9_goesOn_65 rfl (lv_at hl 0 rfl) ?_
          refine va_get (D := D) (cl := vwCl) (ci := 6) (v := .ref (h 7)) (C := RX9) (T := TX9) (N := 22) hx hb hts hin9 hown hK hP 0 rfl rfl 8 (by decide) (hts (.fieldLink RX9 28 "StepOrdersModel" "tries" "[I") (by decide +kernel)) (fun _ h9 => h9) rfl dX9_goesOn_66 ?_
          refine lv_aload_n hx hb dX9_goesOn_69 rfl (lv_at hl 0 rfl) ?_
          refine va_get (D := D) (cl := vwCl) (ci := 6) (v := .int v_depth) (C := RX9) (T := TX9) (N := 22) hx hb hts hin9 hown hK hP 0 rfl rfl 7 (by decide) (hts (.fieldLink RX9 130 "StepOrdersModel" "depth" "I") (by decide +kernel)) (fun _ h9 => h9) rfl dX9_goesOn_70 ?_
          refine lv_iload_n hx hb dX9_goesOn_73 rfl (lv_at hl 1 rfl) ?_
          refine lv_iconst (v := 1) hx hb dX9_goesOn_74 (by decide) ?_
          refine lv_iadd hx hb dX9_goesOn_75 ?_
          refine kb_bind hf (fun v30 hv30 hf => ?_)
          refine ka_iast (D := D) (cl := vwCl) hx hb hK hP hD hS 7 1 (f := v_tries) (g := v30) rfl rfl (awr_in hv30) (awr_v hv30) dX9_goesOn_76 (fun H locs hP hD hS => ?_)
          have hP : va_P D vwCl (wdM cI cZ h v_all v_past v_states v_refused v_far v_row v_stepAt v_depth v30 v_values v_wrong v_isEnd v_found v_reached v_stepIn v_laid v_firstRow v_text v_textLong v_spot v_taken v_counted) H := hP
          have hD : va_D A (wdM cI cZ h v_all v_past v_states v_refused v_far v_row v_stepAt v_depth v30 v_values v_wrong v_isEnd v_found v_reached v_stepIn v_laid v_firstRow v_text v_textLong v_spot v_taken v_counted) := hD
          refine lv_aload_n hx hb dX9_goesOn_77 rfl (lv_at hl 0 rfl) ?_
          refine va_get (D := D) (cl := vwCl) (ci := 6) (v := .ref (h 5)) (C := RX9) (T := TX9) (N := 22) hx hb hts hin9 hown hK hP 0 rfl rfl 5 (by decide) (hts (.fieldLink RX9 22 "StepOrdersModel" "row" "[I") (by decide +kernel)) (fun _ h9 => h9) rfl dX9_goesOn_78 ?_
          refine lv_aload_n hx hb dX9_goesOn_81 rfl (lv_at hl 0 rfl) ?_
          refine va_get (D := D) (cl := vwCl) (ci := 6) (v := .int v_depth) (C := RX9) (T := TX9) (N := 22) hx hb hts hin9 hown hK hP 0 rfl rfl 7 (by decide) (hts (.fieldLink RX9 130 "StepOrdersModel" "depth" "I") (by decide +kernel)) (fun _ h9 => h9) rfl dX9_goesOn_82 ?_
          refine lv_iload_n hx hb dX9_goesOn_85 rfl (lv_at hl 1 rfl) ?_
          refine kb_bind hf (fun v31 hv31 hf => ?_)
          refine ka_iast (D := D) (cl := vwCl) hx hb hK hP hD hS 5 1 (f := v_row) (g := v31) rfl rfl (awr_in hv31) (awr_v hv31) dX9_goesOn_86 (fun H locs hP hD hS => ?_)
          have hP : va_P D vwCl (wdM cI cZ h v_all v_past v_states v_refused v_far v31 v_stepAt v_depth v30 v_values v_wrong v_isEnd v_found v_reached v_stepIn v_laid v_firstRow v_text v_textLong v_spot v_taken v_counted) H := hP
          have hD : va_D A (wdM cI cZ h v_all v_past v_states v_refused v_far v31 v_stepAt v_depth v30 v_values v_wrong v_isEnd v_found v_reached v_stepIn v_laid v_firstRow v_text v_textLong v_spot v_taken v_counted) := hD
          refine lv_aload_n hx hb dX9_goesOn_87 rfl (lv_at hl 0 rfl) ?_
          refine va_get (D := D) (cl := vwCl) (ci := 6) (v := .ref (h 6)) (C := RX9) (T := TX9) (N := 22) hx hb hts hin9 hown hK hP 0 rfl rfl 6 (by decide) (hts (.fieldLink RX9 25 "StepOrdersModel" "stepAt" "[I") (by decide +kernel)) (fun _ h9 => h9) rfl dX9_goesOn_88 ?_
          refine lv_aload_n hx hb dX9_goesOn_91 rfl (lv_at hl 0 rfl) ?_
          refine va_get (D := D) (cl := vwCl) (ci := 6) (v := .int v_depth) (C := RX9) (T := TX9) (N := 22) hx hb hts hin9 hown hK hP 0 rfl rfl 7 (by decide) (hts (.fieldLink RX9 130 "StepOrdersModel" "depth" "I") (by decide +kernel)) (fun _ h9 => h9) rfl dX9_goesOn_92 ?_
          refine lv_aload_n hx hb dX9_goesOn_95 rfl (lv_at hl 0 rfl) ?_
          refine va_get (D := D) (cl := vwCl) (ci := 6) (v := .ref (h 4)) (C := RX9) (T := TX9) (N := 22) hx hb hts hin9 hown hK hP 0 rfl rfl 4 (by decide) (hts (.fieldLink RX9 19 "StepOrdersModel" "far" "[I") (by decide +kernel)) (fun _ h9 => h9) rfl dX9_goesOn_96 ?_
          refine lv_iload_n hx hb dX9_goesOn_99 rfl (lv_at hl 1 rfl) ?_
          refine kb_bind hf (fun v32 hv32 hf => ?_)
          refine ka_iald (D := D) (cl := vwCl) hx hb hK hP 4 1 (f := v_far) rfl rfl (ard_in hv32) (ard_v hv32) dX9_goesOn_100 ?_
          refine kb_bind hf (fun v33 hv33 hf => ?_)
          refine ka_iast (D := D) (cl := vwCl) hx hb hK hP hD hS 6 1 (f := v_stepAt) (g := v33) rfl rfl (awr_in hv33) (awr_v hv33) dX9_goesOn_101 (fun H locs hP hD hS => ?_)
          have hP : va_P D vwCl (wdM cI cZ h v_all v_past v_states v_refused v_far v31 v33 v_depth v30 v_values v_wrong v_isEnd v_found v_reached v_stepIn v_laid v_firstRow v_text v_textLong v_spot v_taken v_counted) H := hP
          have hD : va_D A (wdM cI cZ h v_all v_past v_states v_refused v_far v31 v33 v_depth v30 v_values v_wrong v_isEnd v_found v_reached v_stepIn v_laid v_firstRow v_text v_textLong v_spot v_taken v_counted) := hD
          refine lv_aload_n hx hb dX9_goesOn_102 rfl (lv_at hl 0 rfl) ?_
          refine va_get (D := D) (cl := vwCl) (ci := 6) (v := .ref (h 4)) (C := RX9) (T := TX9) (N := 22) hx hb hts hin9 hown hK hP 0 rfl rfl 4 (by decide) (hts (.fieldLink RX9 19 "StepOrdersModel" "far" "[I") (by decide +kernel)) (fun _ h9 => h9) rfl dX9_goesOn_103 ?_
          refine lv_iload_n hx hb dX9_goesOn_106 rfl (lv_at hl 1 rfl) ?_
          refine lv_dup2_11 hx hb dX9_goesOn_107 rfl rfl ?_
          refine kb_bind hf (fun v34 hv34 hf => ?_)
          refine ka_iald (D := D) (cl := vwCl) hx hb hK hP 4 1 (f := v_far) rfl rfl (ard_in hv34) (ard_v hv34) dX9_goesOn_108 ?_
          refine lv_iconst (v := 1) hx hb dX9_goesOn_109 (by decide) ?_
          refine lv_iadd hx hb dX9_goesOn_110 ?_
          refine kb_bind hf (fun v35 hv35 hf => ?_)
          refine ka_iast (D := D) (cl := vwCl) hx hb hK hP hD hS 4 1 (f := v_far) (g := v35) rfl rfl (awr_in hv35) (awr_v hv35) dX9_goesOn_111 (fun H locs hP hD hS => ?_)
          have hP : va_P D vwCl (wdM cI cZ h v_all v_past v_states v_refused v35 v31 v33 v_depth v30 v_values v_wrong v_isEnd v_found v_reached v_stepIn v_laid v_firstRow v_text v_textLong v_spot v_taken v_counted) H := hP
          have hD : va_D A (wdM cI cZ h v_all v_past v_states v_refused v35 v31 v33 v_depth v30 v_values v_wrong v_isEnd v_found v_reached v_stepIn v_laid v_firstRow v_text v_textLong v_spot v_taken v_counted) := hD
          refine lv_aload_n hx hb dX9_goesOn_112 rfl (lv_at hl 0 rfl) ?_
          refine lv_dup hx hb dX9_goesOn_113 rfl ?_
          refine va_get (D := D) (cl := vwCl) (ci := 6) (v := .int v_depth) (C := RX9) (T := TX9) (N := 22) hx hb hts hin9 hown hK hP 0 rfl rfl 7 (by decide) (hts (.fieldLink RX9 130 "StepOrdersModel" "depth" "I") (by decide +kernel)) (fun _ h9 => h9) rfl dX9_goesOn_114 ?_
          refine lv_iconst (v := 1) hx hb dX9_goesOn_117 (by decide) ?_
          refine lv_iadd hx hb dX9_goesOn_118 ?_
          refine va_put (D := D) (cl := vwCl) (ci := 6) (v := .int (v_depth + (1 : Int32))) (ty := .int) (C := RX9) (T := TX9) (N := 22) hx hb hts hin9 tyX9 tyX9_ok nmX9 hown hK hP hD hS 0 rfl rfl 7 (by decide) (hts (.fieldLink RX9 130 "StepOrdersModel" "depth" "I") (by decide +kernel)) (fun _ h9 => h9) rfl (tyX9_ok 7 (by decide)) rfl rfl (Nat.le_of_ble_eq_true rfl) dX9_goesOn_119 (fun H locs hP hD hS => ?_)
          have hP : va_P D vwCl (wdM cI cZ h v_all v_past v_states v_refused v35 v31 v33 (v_depth + (1 : Int32)) v30 v_values v_wrong v_isEnd v_found v_reached v_stepIn v_laid v_firstRow v_text v_textLong v_spot v_taken v_counted) H := hP
          have hD : va_D A (wdM cI cZ h v_all v_past v_states v_refused v35 v31 v33 (v_depth + (1 : Int32)) v30 v_values v_wrong v_isEnd v_found v_reached v_stepIn v_laid v_firstRow v_text v_textLong v_spot v_taken v_counted) := hD
          refine lv_aload_n hx hb dX9_goesOn_122 rfl (lv_at hl 0 rfl) ?_
          refine va_get (D := D) (cl := vwCl) (ci := 6) (v := .ref (h 7)) (C := RX9) (T := TX9) (N := 22) hx hb hts hin9 hown hK hP 0 rfl rfl 8 (by decide) (hts (.fieldLink RX9 28 "StepOrdersModel" "tries" "[I") (by decide +kernel)) (fun _ h9 => h9) rfl dX9_goesOn_123 ?_
          refine lv_aload_n hx hb dX9_goesOn_126 rfl (lv_at hl 0 rfl) ?_
          refine va_get (D := D) (cl := vwCl) (ci := 6) (v := .int (v_depth + (1 : Int32))) (C := RX9) (T := TX9) (N := 22) hx hb hts hin9 hown hK hP 0 rfl rfl 7 (by decide) (hts (.fieldLink RX9 130 "StepOrdersModel" "depth" "I") (by decide +kernel)) (fun _ h9 => h9) rfl dX9_goesOn_127 ?_
          refine lv_iconst (v := 0) hx hb dX9_goesOn_130 (by decide) ?_
          refine kb_bind hf (fun v36 hv36 hf => ?_)
          refine ka_iast (D := D) (cl := vwCl) hx hb hK hP hD hS 7 1 (f := v30) (g := v36) rfl rfl (awr_in hv36) (awr_v hv36) dX9_goesOn_131 (fun H locs hP hD hS => ?_)
          have hP : va_P D vwCl (wdM cI cZ h v_all v_past v_states v_refused v35 v31 v33 (v_depth + (1 : Int32)) v36 v_values v_wrong v_isEnd v_found v_reached v_stepIn v_laid v_firstRow v_text v_textLong v_spot v_taken v_counted) H := hP
          have hD : va_D A (wdM cI cZ h v_all v_past v_states v_refused v35 v31 v33 (v_depth + (1 : Int32)) v36 v_values v_wrong v_isEnd v_found v_reached v_stepIn v_laid v_firstRow v_text v_textLong v_spot v_taken v_counted) := hD
          refine lv_goto (tgt := 172) hx hb dX9_goesOn_132 (by decide) ?_
          exact J172 v35 v31 v33 (v_depth + (1 : Int32)) v36 _ _ _ hf hP hD hS (lv_sub hl [0] rfl)
      have J41 : ∀ (n41 : Nat) (v_far : Nat → Int32) (v_row : Nat → Int32) (v_stepAt : Nat → Int32) (v_depth : Int32) (v_tries : Nat → Int32) (x1 : Int32) (H : Heap) (locs : List Loc) (ls : Array Slot), f9_goesOn_l41 (f9_goesOn_l0 n) n41 v_all v_far v_row v_stepAt v_depth v_tries x1 = some (r0, v_far', v_row', v_stepAt', v_depth', v_tries') → va_P D vwCl (wdM cI cZ h v_all v_past v_states v_refused v_far v_row v_stepAt v_depth v_tries v_values v_wrong v_isEnd v_found v_reached v_stepIn v_laid v_firstRow v_text v_textLong v_spot v_taken v_counted) H → va_D A (wdM cI cZ h v_all v_past v_states v_refused v_far v_row v_stepAt v_depth v_tries v_values v_wrong v_isEnd v_found v_reached v_stepIn v_laid v_firstRow v_text v_textLong v_spot v_taken v_counted) → va_S A s.heap H locs → lv_has ls 2 [(0, .ref (h 0)), (1, .int x1)] → W p l e rm9_goesOn s m args below meth c H locs 0 0 Q (F0 m 41 ls []) := by
        intro n41
        induction n41 with
        | zero =>
          intro v_far v_row v_stepAt v_depth v_tries x1 H locs ls hf
          cases (show (none : Option (Int32 × (Nat → Int32) × (Nat → Int32) × (Nat → Int32) × Int32 × (Nat → Int32))) = some (r0, v_far', v_row', v_stepAt', v_depth', v_tries') from hf)
        | succ n41 ih41 =>
          intro v_far v_row v_stepAt v_depth v_tries x1 H locs ls hf hP hD hS hl
          rw [f9_goesOn_l41_s] at hf
          refine lv_iload_n hx hb dX9_goesOn_41 rfl (lv_at hl 1 rfl) ?_
          refine lv_iconst (v := 3) hx hb dX9_goesOn_42 (by decide) ?_
          refine lv_icmp_ge (tgt := 60) hx hb dX9_goesOn_43 (by decide) (fun c37 => ?_) (fun c37 => ?_)
          · rw [if_pos c37] at hf
            exact J60 v_far v_row v_stepAt v_depth v_tries x1 _ _ _ hf hP hD hS (lv_sub hl [0, 1] rfl)
          · rw [if_neg c37] at hf
            refine lv_aload_n hx hb dX9_goesOn_46 rfl (lv_at hl 0 rfl) ?_
            refine lv_iload_n hx hb dX9_goesOn_47 rfl (lv_at hl 1 rfl) ?_
            refine kb_bind hf (fun q38 hq38 hf => ?_)
            have hPc : va_P D vwCl (wdM cI cZ h v_all v_past v_states v_refused v_far v_row v_stepAt v_depth v_tries v_values v_wrong v_isEnd v_found v_reached v_stepIn v_laid v_firstRow v_text v_textLong v_spot v_taken v_counted) H := hP.sub [0, 1, 2, 3, 4, 5, 6, 7, 8, 9, 10, 11, 12, 13, 14, 15, 16] rfl
            have hDc : va_D A (wdM cI cZ h v_all v_past v_states v_refused v_far v_row v_stepAt v_depth v_tries v_values v_wrong v_isEnd v_found v_reached v_stepIn v_laid v_firstRow v_text v_textLong v_spot v_taken v_counted) := hD.sub [0, 1, 2, 3, 4, 5, 6, 7, 8, 9, 10, 11, 12, 13, 14, 15, 16] (by decide) rfl
            refine kd_iR (va_runV (As := [.int x1]) (rest := []) ⟨hx, hb, hml, hown, hts⟩ (c9_mayGo l D cB cI cZ cO h H.size x1 v_all v_past v_states v_refused v_far v_row v_stepAt v_depth v_tries v_values v_wrong v_isEnd v_found v_reached v_stepIn v_laid v_firstRow v_text v_textLong v_spot v_taken v_counted q38 hq38) (cwV 1 hts gX9_goesOn_X9_mayGo rfl rfl rfl (by decide +kernel) ⟨Nat.le_of_ble_eq_true rfl, Nat.le_of_ble_eq_true rfl⟩) ⟨kb_blind, va_recv hK hPc (ci := 6) (q0 := 0) rfl rfl, kb_pre hPc hDc hK hN⟩ rfl rfl hl.1 rfl (lv_room (Nat.le_of_ble_eq_true rfl)) dX9_goesOn_48 ⟨Nat.le_refl _, Nat.le_refl _⟩) hP hD hS hA [0, 1, 2, 3, 4, 5, 6, 7, 8, 9, 10, 11, 12, 13, 14, 15, 16] rfl (fun H locs hn39 hP hS => ?_)
            refine lv_if_ne (tgt := 60) hx hb dX9_goesOn_51 (by decide) (fun c40 => ?_) (fun c40 => ?_)
            · rw [if_neg c40] at hf
              exact J60 v_far v_row v_stepAt v_depth v_tries x1 _ _ _ hf hP hD hS (lv_sub hl [0, 1] rfl)
            · rw [if_pos c40] at hf
              refine lv_iinc (v := (x1 + 1)) (lv' := [(1, .int (x1 + 1)), (0, .ref (h 0))]) hx hb dX9_goesOn_54 hl (k := 1) rfl rfl (by decide) rfl (fun ls hl => ?_)
              refine lv_goto (tgt := 41) hx hb dX9_goesOn_57 (by decide) ?_
              exact ih41 v_far v_row v_stepAt v_depth v_tries (x1 + 1) _ _ _ hf hP hD hS (lv_sub hl [1, 0] rfl)
      have J31 : ∀ (v_far : Nat → Int32) (v_row : Nat → Int32) (v_stepAt : Nat → Int32) (v_depth : Int32) (v_tries : Nat → Int32) (H : Heap) (locs : List Loc) (ls : Array Slot), f9_goesOn_b31 (f9_goesOn_l0 n) v_all v_far v_row v_stepAt v_depth v_tries = some (r0, v_far', v_row', v_stepAt', v_depth', v_tries') → va_P D vwCl (wdM cI cZ h v_all v_past v_states v_refused v_far v_row v_stepAt v_depth v_tries v_values v_wrong v_isEnd v_found v_reached v_stepIn v_laid v_firstRow v_text v_textLong v_spot v_taken v_counted) H → va_D A (wdM cI cZ h v_all v_past v_states v_refused v_far v_row v_stepAt v_depth v_tries v_values v_wrong v_isEnd v_found v_reached v_stepIn v_laid v_firstRow v_text v_textLong v_spot v_taken v_counted) → va_S A s.heap H locs → lv_has ls 2 [(0, .ref (h 0))] → W p l e rm9_goesOn s m args below meth c H locs 0 0 Q (F0 m 31 ls []) := by
        intro v_far v_row v_stepAt v_depth v_tries H locs ls hf hP hD hS hl
        rw [f9_goesOn_b31] at hf
        refine lv_aload_n hx hb dX9_goesOn_31 rfl (lv_at hl 0 rfl) ?_
        refine va_get (D := D) (cl := vwCl) (ci := 6) (v := .ref (h 7)) (C := RX9) (T := TX9) (N := 22) hx hb hts hin9 hown hK hP 0 rfl rfl 8 (by decide) (hts (.fieldLink RX9 28 "StepOrdersModel" "tries" "[I") (by decide +kernel)) (fun _ h9 => h9) rfl dX9_goesOn_32 ?_
        refine lv_aload_n hx hb dX9_goesOn_35 rfl (lv_at hl 0 rfl) ?_
        refine va_get (D := D) (cl := vwCl) (ci := 6) (v := .int v_depth) (C := RX9) (T := TX9) (N := 22) hx hb hts hin9 hown hK hP 0 rfl rfl 7 (by decide) (hts (.fieldLink RX9 130 "StepOrdersModel" "depth" "I") (by decide +kernel)) (fun _ h9 => h9) rfl dX9_goesOn_36 ?_
        refine kb_bind hf (fun v41 hv41 hf => ?_)
        refine ka_iald (D := D) (cl := vwCl) hx hb hK hP 7 1 (f := v_tries) rfl rfl (ard_in hv41) (ard_v hv41) dX9_goesOn_39 ?_
        refine lv_istore_n (lv' := [(1, .int v41), (0, .ref (h 0))]) hx hb dX9_goesOn_40 rfl hl (by decide) rfl (fun ls hl => ?_)
        exact J41 kFUEL v_far v_row v_stepAt v_depth v_tries v41 _ _ _ hf hP hD hS (lv_sub hl [1, 0] rfl)
      intro v_far v_row v_stepAt v_depth v_tries H locs ls hf hP hD hS hl
      rw [f9_goesOn_l0_s] at hf
      refine lv_aload_n hx hb dX9_goesOn_0 rfl (lv_at hl 0 rfl) ?_
      refine va_get (D := D) (cl := vwCl) (ci := 6) (v := .ref (h 7)) (C := RX9) (T := TX9) (N := 22) hx hb hts hin9 hown hK hP 0 rfl rfl 8 (by decide) (hts (.fieldLink RX9 28 "StepOrdersModel" "tries" "[I") (by decide +kernel)) (fun _ h9 => h9) rfl dX9_goesOn_1 ?_
      refine lv_aload_n hx hb dX9_goesOn_4 rfl (lv_at hl 0 rfl) ?_
      refine va_get (D := D) (cl := vwCl) (ci := 6) (v := .int v_depth) (C := RX9) (T := TX9) (N := 22) hx hb hts hin9 hown hK hP 0 rfl rfl 7 (by decide) (hts (.fieldLink RX9 130 "StepOrdersModel" "depth" "I") (by decide +kernel)) (fun _ h9 => h9) rfl dX9_goesOn_5 ?_
      refine kb_bind hf (fun v42 hv42 hf => ?_)
      refine ka_iald (D := D) (cl := vwCl) hx hb hK hP 7 1 (f := v_tries) rfl rfl (ard_in hv42) (ard_v hv42) dX9_goesOn_8 ?_
      refine lv_if_ne (tgt := 31) hx hb dX9_goesOn_9 (by decide) (fun c43 => ?_) (fun c43 => ?_)
      · rw [if_neg c43] at hf
        exact J31 v_far v_row v_stepAt v_depth v_tries _ _ _ hf hP hD hS (lv_sub hl [0] rfl)
      · rw [if_pos c43] at hf
        refine lv_aload_n hx hb dX9_goesOn_12 rfl (lv_at hl 0 rfl) ?_
        refine kb_bind hf (fun q44 hq44 hf => ?_)
        have hPc : va_P D vwCl (wdM cI cZ h v_all v_past v_states v_refused v_far v_row v_stepAt v_depth v_tries v_values v_wrong v_isEnd v_found v_reached v_stepIn v_laid v_firstRow v_text v_textLong v_spot v_taken v_counted) H := hP.sub [0, 1, 2, 3, 4, 5, 6, 7, 8, 9, 10, 11, 12, 13, 14, 15, 16] rfl
        have hDc : va_D A (wdM cI cZ h v_all v_past v_states v_refused v_far v_row v_stepAt v_depth v_tries v_values v_wrong v_isEnd v_found v_reached v_stepIn v_laid v_firstRow v_text v_textLong v_spot v_taken v_counted) := hD.sub [0, 1, 2, 3, 4, 5, 6, 7, 8, 9, 10, 11, 12, 13, 14, 15, 16] (by decide) rfl
        refine kd_iR (va_runV (As := []) (rest := []) ⟨hx, hb, hml, hown, hts⟩ (c9_isStill l D cB cI cZ cO h H.size v_all v_past v_states v_refused v_far v_row v_stepAt v_depth v_tries v_values v_wrong v_isEnd v_found v_reached v_stepIn v_laid v_firstRow v_text v_textLong v_spot v_taken v_counted q44 hq44) (cwV 0 hts gX9_goesOn_X9_isStill rfl rfl rfl (by decide +kernel) ⟨Nat.le_of_ble_eq_true rfl, Nat.le_of_ble_eq_true rfl⟩) ⟨kb_blind, va_recv hK hPc (ci := 6) (q0 := 0) rfl rfl, kb_pre hPc hDc hK hN⟩ rfl rfl hl.1 rfl (lv_room (Nat.le_of_ble_eq_true rfl)) dX9_goesOn_13 ⟨Nat.le_refl _, Nat.le_refl _⟩) hP hD hS hA [0, 1, 2, 3, 4, 5, 6, 7, 8, 9, 10, 11, 12, 13, 14, 15, 16] rfl (fun H locs hn45 hP hS => ?_)
        refine lv_if_eq (tgt := 31) hx hb dX9_goesOn_16 (by decide) (fun c46 => ?_) (fun c46 => ?_)
        · rw [if_pos c46] at hf
          exact J31 v_far v_row v_stepAt v_depth v_tries _ _ _ hf hP hD hS (lv_sub hl [0] rfl)
        · rw [if_neg c46] at hf
          exact J19 v_far v_row v_stepAt v_depth v_tries _ _ _ hf hP hD hS (lv_sub hl [0] rfl)
  rw [f9_goesOn] at hf
  exact J0 kFUEL v_far v_row v_stepAt v_depth v_tries _ _ _ hf hP hD hS (lv_sub hl [0] rfl)

set_option maxHeartbeats 4000000 in
set_option maxRecDepth 100000 in
theorem c9_valuesBegin (l : Launch) (D : va_G) (cB cI cZ cO : ClassId) (h : Nat → Nat) (sz : Nat) (v_all : Nat → Int32) (v_past : Nat → Int32) (v_states : Int32) (v_refused : Nat → Int32) (v_far : Nat → Int32) (v_row : Nat → Int32) (v_stepAt : Nat → Int32) (v_depth : Int32) (v_tries : Nat → Int32) (v_values : Nat → Int32) (v_wrong : Int32) (v_isEnd : Nat → Int32) (v_found : Nat → Int32) (v_reached : Nat → Int32) (v_stepIn : Nat → Int32) (v_laid : Nat → Int32) (v_firstRow : Nat → Int32) (v_text : Nat → Int32) (v_textLong : Int32) (v_spot : Int32) (v_taken : Int32) (v_counted : Nat → Int32) (v_values' : Nat → Int32) (v_wrong' : Int32) (hf : f9_valuesBegin v_all v_values v_wrong = some (v_values', v_wrong')) : Met l yX9_valuesBegin wsX9_valuesBegin rm9_valuesBegin (va_Pc [.ref (h 0)] (kb_B D (ka_tys cB cI cZ cO) sz (wdM cI cZ h v_all v_past v_states v_refused v_far v_row v_stepAt v_depth v_tries v_values v_wrong v_isEnd v_found v_reached v_stepIn v_laid v_firstRow v_text v_textLong v_spot v_taken v_counted))) (va_Qv (fun (_ : Unit) => True) (fun _ t => va_P D vwCl (wdM cI cZ h v_all v_past v_states v_refused v_far v_row v_stepAt v_depth v_tries (v_values') (v_wrong') v_isEnd v_found v_reached v_stepIn v_laid v_firstRow v_text v_textLong v_spot v_taken v_counted) t.heap) (va_A (wdM cI cZ h v_all v_past v_states v_refused v_far v_row v_stepAt v_depth v_tries v_values v_wrong v_isEnd v_found v_reached v_stepIn v_laid v_firstRow v_text v_textLong v_spot v_taken v_counted) sz)) 0 0 (va_A (wdM cI cZ h v_all v_past v_states v_refused v_far v_row v_stepAt v_depth v_tries v_values v_wrong v_isEnd v_found v_reached v_stepIn v_laid v_firstRow v_text v_textLong v_spot v_taken v_counted) sz) := by
  refine kb_metV (cc := cX9_valuesBegin) (maxL := 2) (by decide) rfl (Nat.le_of_ble_eq_true rfl) ?_
  intro p e s m args below meth c Q A ls H hx hb hml hown hts hK hN hP hD hS hA hl hend
  have hown : s.vm.findClass RX9 = some m.cls := hown
  have hl : lv_has ls 2 [(0, .ref (h 0))] := hl
  have hin9 : ∀ w ∈ u_ws RX9 TX9 22, w ∈ wsX9_valuesBegin := by decide +kernel
  have J7 : ∀ (n : Nat) (v_values : Nat → Int32) (v_wrong : Int32) (x1 : Int32) (H : Heap) (locs : List Loc) (ls : Array Slot), f9_valuesBegin_l7 n v_all v_values v_wrong x1 = some (v_values', v_wrong') → va_P D vwCl (wdM cI cZ h v_all v_past v_states v_refused v_far v_row v_stepAt v_depth v_tries v_values v_wrong v_isEnd v_found v_reached v_stepIn v_laid v_firstRow v_text v_textLong v_spot v_taken v_counted) H → va_D A (wdM cI cZ h v_all v_past v_states v_refused v_far v_row v_stepAt v_depth v_tries v_values v_wrong v_isEnd v_found v_reached v_stepIn v_laid v_firstRow v_text v_textLong v_spot v_taken v_counted) → va_S A s.heap H locs → lv_has ls 2 [(0, .ref (h 0)), (1, .int x1)] → W p l e rm9_valuesBegin s m args below meth c H locs 0 0 Q (F0 m 7 ls []) := by
    intro n
    induction n with
    | zero =>
      intro v_values v_wrong x1 H locs ls hf
      cases (show (none : Option ((Nat → Int32) × Int32)) = some (v_values', v_wrong') from hf)
    | succ n ih =>
      intro v_values v_wrong x1 H locs ls hf hP hD hS hl
      rw [f9_valuesBegin_l7_s] at hf
      refine lv_iload_n hx hb dX9_valuesBegin_7 rfl (lv_at hl 1 rfl) ?_
      refine lv_iconst (v := 4) hx hb dX9_valuesBegin_8 (by decide) ?_
      refine lv_icmp_ge (tgt := 33) hx hb dX9_valuesBegin_9 (by decide) (fun c4 => ?_) (fun c4 => ?_)
      · rw [if_pos c4] at hf
        cases hf
        exact hend _ _ _ _ hP hS dX9_valuesBegin_33
      · rw [if_neg c4] at hf
        refine lv_aload_n hx hb dX9_valuesBegin_12 rfl (lv_at hl 0 rfl) ?_
        refine va_get (D := D) (cl := vwCl) (ci := 6) (v := .ref (h 8)) (C := RX9) (T := TX9) (N := 22) hx hb hts hin9 hown hK hP 0 rfl rfl 9 (by decide) (hts (.fieldLink RX9 31 "StepOrdersModel" "values" "[I") (by decide +kernel)) (fun _ h9 => h9) rfl dX9_valuesBegin_13 ?_
        refine lv_iload_n hx hb dX9_valuesBegin_16 rfl (lv_at hl 1 rfl) ?_
        refine lv_aload_n hx hb dX9_valuesBegin_17 rfl (lv_at hl 0 rfl) ?_
        refine va_get (D := D) (cl := vwCl) (ci := 6) (v := .ref (h 1)) (C := RX9) (T := TX9) (N := 22) hx hb hts hin9 hown hK hP 0 rfl rfl 0 (by decide) (hts (.fieldLink RX9 7 "StepOrdersModel" "all" "[I") (by decide +kernel)) (fun _ h9 => h9) rfl dX9_valuesBegin_18 ?_
        refine lv_bipush (v := 39) hx hb dX9_valuesBegin_21 (by decide) ?_
        refine lv_iload_n hx hb dX9_valuesBegin_23 rfl (lv_at hl 1 rfl) ?_
        refine lv_iadd hx hb dX9_valuesBegin_24 ?_
        refine kb_bind hf (fun v5 hv5 hf => ?_)
        refine ka_iald (D := D) (cl := vwCl) hx hb hK hP 1 1 (f := v_all) rfl rfl (ard_in hv5) (ard_v hv5) dX9_valuesBegin_25 ?_
        refine kb_bind hf (fun v6 hv6 hf => ?_)
        refine ka_iast (D := D) (cl := vwCl) hx hb hK hP hD hS 8 1 (f := v_values) (g := v6) rfl rfl (awr_in hv6) (awr_v hv6) dX9_valuesBegin_26 (fun H locs hP hD hS => ?_)
        have hP : va_P D vwCl (wdM cI cZ h v_all v_past v_states v_refused v_far v_row v_stepAt v_depth v_tries v6 v_wrong v_isEnd v_found v_reached v_stepIn v_laid v_firstRow v_text v_textLong v_spot v_taken v_counted) H := hP
        have hD : va_D A (wdM cI cZ h v_all v_past v_states v_refused v_far v_row v_stepAt v_depth v_tries v6 v_wrong v_isEnd v_found v_reached v_stepIn v_laid v_firstRow v_text v_textLong v_spot v_taken v_counted) := hD
        refine lv_iinc (v := (x1 + 1)) (lv' := [(1, .int (x1 + 1)), (0, .ref (h 0))]) hx hb dX9_valuesBegin_27 hl (k := 1) rfl rfl (by decide) rfl (fun ls hl => ?_)
        refine lv_goto (tgt := 7) hx hb dX9_valuesBegin_30 (by decide) ?_
        exact ih v6 v_wrong (x1 + 1) _ _ _ hf hP hD hS (lv_sub hl [1, 0] rfl)
  rw [f9_valuesBegin] at hf
  refine lv_aload_n hx hb dX9_valuesBegin_0 rfl (lv_at hl 0 rfl) ?_
  refine lv_iconst (v := 0) hx hb dX9_valuesBegin_1 (by decide) ?_
  refine va_put (D := D) (cl := vwCl) (ci := 6) (v := .int (0 : Int32)) (ty := .int) (C := RX9) (T := TX9) (N := 22) hx hb hts hin9 tyX9 tyX9_ok nmX9 hown hK hP hD hS 0 rfl rfl 10 (by decide) (hts (.fieldLink RX9 140 "StepOrdersModel" "wrong" "I") (by decide +kernel)) (fun _ h9 => h9) rfl (tyX9_ok 10 (by decide)) rfl rfl (Nat.le_of_ble_eq_true rfl) dX9_valuesBegin_2 (fun H locs hP hD hS => ?_)
  have hP : va_P D vwCl (wdM cI cZ h v_all v_past v_states v_refused v_far v_row v_stepAt v_depth v_tries v_values (0 : Int32) v_isEnd v_found v_reached v_stepIn v_laid v_firstRow v_text v_textLong v_spot v_taken v_counted) H := hP
  have hD : va_D A (wdM cI cZ h v_all v_past v_states v_refused v_far v_row v_stepAt v_depth v_tries v_values (0 : Int32) v_isEnd v_found v_reached v_stepIn v_laid v_firstRow v_text v_textLong v_spot v_taken v_counted) := hD
  refine lv_iconst (v := 0) hx hb dX9_valuesBegin_5 (by decide) ?_
  refine lv_istore_n (lv' := [(1, .int (0 : Int32)), (0, .ref (h 0))]) hx hb dX9_valuesBegin_6 rfl hl (by decide) rfl (fun ls hl => ?_)
  exact J7 kFUEL v_values (0 : Int32) (0 : Int32) _ _ _ hf hP hD hS (lv_sub hl [1, 0] rfl)

set_option maxHeartbeats 4000000 in
set_option maxRecDepth 100000 in
theorem c9_doesStep (l : Launch) (D : va_G) (cB cI cZ cO : ClassId) (h : Nat → Nat) (sz : Nat) (x1 : Int32) (x2 : Int32) (v_all : Nat → Int32) (v_past : Nat → Int32) (v_states : Int32) (v_refused : Nat → Int32) (v_far : Nat → Int32) (v_row : Nat → Int32) (v_stepAt : Nat → Int32) (v_depth : Int32) (v_tries : Nat → Int32) (v_values : Nat → Int32) (v_wrong : Int32) (v_isEnd : Nat → Int32) (v_found : Nat → Int32) (v_reached : Nat → Int32) (v_stepIn : Nat → Int32) (v_laid : Nat → Int32) (v_firstRow : Nat → Int32) (v_text : Nat → Int32) (v_textLong : Int32) (v_spot : Int32) (v_taken : Int32) (v_counted : Nat → Int32) (v_values' : Nat → Int32) (v_wrong' : Int32) (hf : f9_doesStep v_all v_values v_wrong x1 x2 = some (v_values', v_wrong')) : Met l yX9_doesStep wsX9_doesStep rm9_doesStep (va_Pc [.ref (h 0), .int x1, .int x2] (kb_B D (ka_tys cB cI cZ cO) sz (wdM cI cZ h v_all v_past v_states v_refused v_far v_row v_stepAt v_depth v_tries v_values v_wrong v_isEnd v_found v_reached v_stepIn v_laid v_firstRow v_text v_textLong v_spot v_taken v_counted))) (va_Qv (fun (_ : Unit) => True) (fun _ t => va_P D vwCl (wdM cI cZ h v_all v_past v_states v_refused v_far v_row v_stepAt v_depth v_tries (v_values') (v_wrong') v_isEnd v_found v_reached v_stepIn v_laid v_firstRow v_text v_textLong v_spot v_taken v_counted) t.heap) (va_A (wdM cI cZ h v_all v_past v_states v_refused v_far v_row v_stepAt v_depth v_tries v_values v_wrong v_isEnd v_found v_reached v_stepIn v_laid v_firstRow v_text v_textLong v_spot v_taken v_counted) sz)) 0 0 (va_A (wdM cI cZ h v_all v_past v_states v_refused v_far v_row v_stepAt v_depth v_tries v_values v_wrong v_isEnd v_found v_reached v_stepIn v_laid v_firstRow v_text v_textLong v_spot v_taken v_counted) sz) := by
  refine kb_metV (cc := cX9_doesStep) (maxL := 5) (by decide) rfl (Nat.le_of_ble_eq_true rfl) ?_
  intro p e s m args below meth c Q A ls H hx hb hml hown hts hK hN hP hD hS hA hl hend
  have hown : s.vm.findClass RX9 = some m.cls := hown
  have hl : lv_has ls 5 [(0, .ref (h 0)), (1, .int x1), (2, .int x2)] := hl
  have hin9 : ∀ w ∈ u_ws RX9 TX9 22, w ∈ wsX9_doesStep := by decide +kernel
  have J125 : ∀ (v_values : Nat → Int32) (v_wrong : Int32) (s1 : Int32) (s2 : Int32) (H : Heap) (locs : List Loc) (ls : Array Slot), f9_doesStep_b125 v_all v_values v_wrong s1 s2 = some (v_values', v_wrong') → va_P D vwCl (wdM cI cZ h v_all v_past v_states v_refused v_far v_row v_stepAt v_depth v_tries v_values v_wrong v_isEnd v_found v_reached v_stepIn v_laid v_firstRow v_text v_textLong v_spot v_taken v_counted) H → va_D A (wdM cI cZ h v_all v_past v_states v_refused v_far v_row v_stepAt v_depth v_tries v_values v_wrong v_isEnd v_found v_reached v_stepIn v_laid v_firstRow v_text v_textLong v_spot v_taken v_counted) → va_S A s.heap H locs → lv_has ls 5 [] → W p l e rm9_doesStep s m args below meth c H locs 0 0 Q (F0 m 125 ls [.int s2, .int s1, .ref (h 0)]) := by
    intro v_values v_wrong s1 s2 H locs ls hf hP hD hS hl
    rw [f9_doesStep_b125] at hf
    refine lv_iadd hx hb dX9_doesStep_125 ?_
    refine va_put (D := D) (cl := vwCl) (ci := 6) (v := .int (s1 + s2)) (ty := .int) (C := RX9) (T := TX9) (N := 22) hx hb hts hin9 tyX9 tyX9_ok nmX9 hown hK hP hD hS 0 rfl rfl 10 (by decide) (hts (.fieldLink RX9 140 "StepOrdersModel" "wrong" "I") (by decide +kernel)) (fun _ h9 => h9) rfl (tyX9_ok 10 (by decide)) rfl rfl (Nat.le_of_ble_eq_true rfl) dX9_doesStep_126 (fun H locs hP hD hS => ?_)
    have hP : va_P D vwCl (wdM cI cZ h v_all v_past v_states v_refused v_far v_row v_stepAt v_depth v_tries v_values (s1 + s2) v_isEnd v_found v_reached v_stepIn v_laid v_firstRow v_text v_textLong v_spot v_taken v_counted) H := hP
    have hD : va_D A (wdM cI cZ h v_all v_past v_states v_refused v_far v_row v_stepAt v_depth v_tries v_values (s1 + s2) v_isEnd v_found v_reached v_stepIn v_laid v_firstRow v_text v_textLong v_spot v_taken v_counted) := hD
    refine lv_goto (tgt := 132) hx hb dX9_doesStep_129 (by decide) ?_
    cases hf
    exact hend _ _ _ _ hP hS dX9_doesStep_132
  rw [f9_doesStep] at hf
  refine lv_aload_n hx hb dX9_doesStep_0 rfl (lv_at hl 0 rfl) ?_
  refine lv_iload_n hx hb dX9_doesStep_1 rfl (lv_at hl 1 rfl) ?_
  refine lv_iload_n hx hb dX9_doesStep_2 rfl (lv_at hl 2 rfl) ?_
  refine lv_iconst (v := 1) hx hb dX9_doesStep_3 (by decide) ?_
  refine kb_bind hf (fun q1 hq1 hf => ?_)
  have hPc : va_P D vwCl (wdM cI cZ h v_all v_past v_states v_refused v_far v_row v_stepAt v_depth v_tries v_values v_wrong v_isEnd v_found v_reached v_stepIn v_laid v_firstRow v_text v_textLong v_spot v_taken v_counted) H := hP.sub [0, 1, 2, 3, 4, 5, 6, 7, 8, 9, 10, 11, 12, 13, 14, 15, 16] rfl
  have hDc : va_D A (wdM cI cZ h v_all v_past v_states v_refused v_far v_row v_stepAt v_depth v_tries v_values v_wrong v_isEnd v_found v_reached v_stepIn v_laid v_firstRow v_text v_textLong v_spot v_taken v_counted) := hD.sub [0, 1, 2, 3, 4, 5, 6, 7, 8, 9, 10, 11, 12, 13, 14, 15, 16] (by decide) rfl
  refine kd_iR (va_runV (As := [.int x1, .int x2, .int (1 : Int32)]) (rest := []) ⟨hx, hb, hml, hown, hts⟩ (c9_its l D cB cI cZ cO h H.size x1 x2 (1 : Int32) v_all v_past v_states v_refused v_far v_row v_stepAt v_depth v_tries v_values v_wrong v_isEnd v_found v_reached v_stepIn v_laid v_firstRow v_text v_textLong v_spot v_taken v_counted q1 hq1) (cwV 3 hts gX9_doesStep_X9_its rfl rfl rfl (by decide +kernel) ⟨Nat.le_of_ble_eq_true rfl, Nat.le_of_ble_eq_true rfl⟩) ⟨kb_blind, va_recv hK hPc (ci := 6) (q0 := 0) rfl rfl, kb_pre hPc hDc hK hN⟩ rfl rfl hl.1 rfl (lv_room (Nat.le_of_ble_eq_true rfl)) dX9_doesStep_4 ⟨Nat.le_refl _, Nat.le_refl _⟩) hP hD hS hA [0, 1, 2, 3, 4, 5, 6, 7, 8, 9, 10, 11, 12, 13, 14, 15, 16] rfl (fun H locs hn2 hP hS => ?_)
  refine lv_istore_n (lv' := [(3, .int q1), (0, .ref (h 0)), (1, .int x1), (2, .int x2)]) hx hb dX9_doesStep_7 rfl hl (by decide) rfl (fun ls hl => ?_)
  refine lv_aload_n hx hb dX9_doesStep_8 rfl (lv_at hl 1 rfl) ?_
  refine lv_iload_n hx hb dX9_doesStep_9 rfl (lv_at hl 2 rfl) ?_
  refine lv_iload_n hx hb dX9_doesStep_10 rfl (lv_at hl 3 rfl) ?_
  refine lv_iconst (v := 2) hx hb dX9_doesStep_11 (by decide) ?_
  refine kb_bind hf (fun q3 hq3 hf => ?_)
  have hPc : va_P D vwCl (wdM cI cZ h v_all v_past v_states v_refused v_far v_row v_stepAt v_depth v_tries v_values v_wrong v_isEnd v_found v_reached v_stepIn v_laid v_firstRow v_text v_textLong v_spot v_taken v_counted) H := hP.sub [0, 1, 2, 3, 4, 5, 6, 7, 8, 9, 10, 11, 12, 13, 14, 15, 16] rfl
  have hDc : va_D A (wdM cI cZ h v_all v_past v_states v_refused v_far v_row v_stepAt v_depth v_tries v_values v_wrong v_isEnd v_found v_reached v_stepIn v_laid v_firstRow v_text v_textLong v_spot v_taken v_counted) := hD.sub [0, 1, 2, 3, 4, 5, 6, 7, 8, 9, 10, 11, 12, 13, 14, 15, 16] (by decide) rfl
  refine kd_iR (va_runV (As := [.int x1, .int x2, .int (2 : Int32)]) (rest := []) ⟨hx, hb, hml, hown, hts⟩ (c9_its l D cB cI cZ cO h H.size x1 x2 (2 : Int32) v_all v_past v_states v_refused v_far v_row v_stepAt v_depth v_tries v_values v_wrong v_isEnd v_found v_reached v_stepIn v_laid v_firstRow v_text v_textLong v_spot v_taken v_counted q3 hq3) (cwV 3 hts gX9_doesStep_X9_its rfl rfl rfl (by decide +kernel) ⟨Nat.le_of_ble_eq_true rfl, Nat.le_of_ble_eq_true rfl⟩) ⟨kb_blind, va_recv hK hPc (ci := 6) (q0 := 0) rfl rfl, kb_pre hPc hDc hK hN⟩ rfl rfl hl.1 rfl (lv_room (Nat.le_of_ble_eq_true rfl)) dX9_doesStep_12 ⟨Nat.le_refl _, Nat.le_refl _⟩) hP hD hS hA [0, 1, 2, 3, 4, 5, 6, 7, 8, 9, 10, 11, 12, 13, 14, 15, 16] rfl (fun H locs hn4 hP hS => ?_)
  refine lv_istore (lv' := [(4, .int q3), (3, .int q1), (0, .ref (h 0)), (1, .int x1), (2, .int x2)]) hx hb dX9_doesStep_15 hl (by decide) rfl (fun ls hl => ?_)
  refine lv_aload_n hx hb dX9_doesStep_17 rfl (lv_at hl 2 rfl) ?_
  refine lv_iload_n hx hb dX9_doesStep_18 rfl (lv_at hl 3 rfl) ?_
  refine lv_iload_n hx hb dX9_doesStep_19 rfl (lv_at hl 4 rfl) ?_
  refine lv_iconst (v := 0) hx hb dX9_doesStep_20 (by decide) ?_
  refine kb_bind hf (fun q5 hq5 hf => ?_)
  have hPc : va_P D vwCl (wdM cI cZ h v_all v_past v_states v_refused v_far v_row v_stepAt v_depth v_tries v_values v_wrong v_isEnd v_found v_reached v_stepIn v_laid v_firstRow v_text v_textLong v_spot v_taken v_counted) H := hP.sub [0, 1, 2, 3, 4, 5, 6, 7, 8, 9, 10, 11, 12, 13, 14, 15, 16] rfl
  have hDc : va_D A (wdM cI cZ h v_all v_past v_states v_refused v_far v_row v_stepAt v_depth v_tries v_values v_wrong v_isEnd v_found v_reached v_stepIn v_laid v_firstRow v_text v_textLong v_spot v_taken v_counted) := hD.sub [0, 1, 2, 3, 4, 5, 6, 7, 8, 9, 10, 11, 12, 13, 14, 15, 16] (by decide) rfl
  refine kd_iR (va_runV (As := [.int x1, .int x2, .int (0 : Int32)]) (rest := []) ⟨hx, hb, hml, hown, hts⟩ (c9_its l D cB cI cZ cO h H.size x1 x2 (0 : Int32) v_all v_past v_states v_refused v_far v_row v_stepAt v_depth v_tries v_values v_wrong v_isEnd v_found v_reached v_stepIn v_laid v_firstRow v_text v_textLong v_spot v_taken v_counted q5 hq5) (cwV 3 hts gX9_doesStep_X9_its rfl rfl rfl (by decide +kernel) ⟨Nat.le_of_ble_eq_true rfl, Nat.le_of_ble_eq_true rfl⟩) ⟨kb_blind, va_recv hK hPc (ci := 6) (q0 := 0) rfl rfl, kb_pre hPc hDc hK hN⟩ rfl rfl hl.1 rfl (lv_room (Nat.le_of_ble_eq_true rfl)) dX9_doesStep_21 ⟨Nat.le_refl _, Nat.le_refl _⟩) hP hD hS hA [0, 1, 2, 3, 4, 5, 6, 7, 8, 9, 10, 11, 12, 13, 14, 15, 16] rfl (fun H locs hn6 hP hS => ?_)
  by_cases c7_0 : q5 = 0
  · rw [if_pos c7_0] at hf
    refine lv_tableIn (tgt := 56) (off := 32) hx hb dX9_doesStep_24 (by rw [c7_0]; decide) (by rw [c7_0]; decide) (by rw [c7_0]; rfl) (by decide) ?_
    refine lv_aload_n hx hb dX9_doesStep_56 rfl (lv_at hl 2 rfl) ?_
    refine va_get (D := D) (cl := vwCl) (ci := 6) (v := .ref (h 8)) (C := RX9) (T := TX9) (N := 22) hx hb hts hin9 hown hK hP 0 rfl rfl 9 (by decide) (hts (.fieldLink RX9 31 "StepOrdersModel" "values" "[I") (by decide +kernel)) (fun _ h9 => h9) rfl dX9_doesStep_57 ?_
    refine lv_iload_n hx hb dX9_doesStep_60 rfl (lv_at hl 1 rfl) ?_
    refine lv_iload hx hb dX9_doesStep_61 (lv_at hl 0 rfl) ?_
    refine kb_bind hf (fun v8 hv8 hf => ?_)
    refine ka_iast (D := D) (cl := vwCl) hx hb hK hP hD hS 8 1 (f := v_values) (g := v8) rfl rfl (awr_in hv8) (awr_v hv8) dX9_doesStep_63 (fun H locs hP hD hS => ?_)
    have hP : va_P D vwCl (wdM cI cZ h v_all v_past v_states v_refused v_far v_row v_stepAt v_depth v_tries v8 v_wrong v_isEnd v_found v_reached v_stepIn v_laid v_firstRow v_text v_textLong v_spot v_taken v_counted) H := hP
    have hD : va_D A (wdM cI cZ h v_all v_past v_states v_refused v_far v_row v_stepAt v_depth v_tries v8 v_wrong v_isEnd v_found v_reached v_stepIn v_laid v_firstRow v_text v_textLong v_spot v_taken v_counted) := hD
    refine lv_goto (tgt := 132) hx hb dX9_doesStep_64 (by decide) ?_
    cases hf
    exact hend _ _ _ _ hP hS dX9_doesStep_132
  rw [if_neg c7_0] at hf
  by_cases c7_1 : q5 = 1
  · rw [if_pos c7_1] at hf
    refine lv_tableIn (tgt := 67) (off := 43) hx hb dX9_doesStep_24 (by rw [c7_1]; decide) (by rw [c7_1]; decide) (by rw [c7_1]; rfl) (by decide) ?_
    refine lv_aload_n hx hb dX9_doesStep_67 rfl (lv_at hl 2 rfl) ?_
    refine va_get (D := D) (cl := vwCl) (ci := 6) (v := .ref (h 8)) (C := RX9) (T := TX9) (N := 22) hx hb hts hin9 hown hK hP 0 rfl rfl 9 (by decide) (hts (.fieldLink RX9 31 "StepOrdersModel" "values" "[I") (by decide +kernel)) (fun _ h9 => h9) rfl dX9_doesStep_68 ?_
    refine lv_iload_n hx hb dX9_doesStep_71 rfl (lv_at hl 1 rfl) ?_
    refine lv_aload_n hx hb dX9_doesStep_72 rfl (lv_at hl 2 rfl) ?_
    refine va_get (D := D) (cl := vwCl) (ci := 6) (v := .ref (h 8)) (C := RX9) (T := TX9) (N := 22) hx hb hts hin9 hown hK hP 0 rfl rfl 9 (by decide) (hts (.fieldLink RX9 31 "StepOrdersModel" "values" "[I") (by decide +kernel)) (fun _ h9 => h9) rfl dX9_doesStep_73 ?_
    refine lv_iload_n hx hb dX9_doesStep_76 rfl (lv_at hl 1 rfl) ?_
    refine kb_bind hf (fun v9 hv9 hf => ?_)
    refine ka_iald (D := D) (cl := vwCl) hx hb hK hP 8 1 (f := v_values) rfl rfl (ard_in hv9) (ard_v hv9) dX9_doesStep_77 ?_
    refine lv_iload hx hb dX9_doesStep_78 (lv_at hl 0 rfl) ?_
    refine lv_iadd hx hb dX9_doesStep_80 ?_
    refine lv_bipush (v := 10) hx hb dX9_doesStep_81 (by decide) ?_
    refine lv_irem hx hb dX9_doesStep_83 (by decide) ?_
    refine kb_bind hf (fun v10 hv10 hf => ?_)
    refine ka_iast (D := D) (cl := vwCl) hx hb hK hP hD hS 8 1 (f := v_values) (g := v10) rfl rfl (awr_in hv10) (awr_v hv10) dX9_doesStep_84 (fun H locs hP hD hS => ?_)
    have hP : va_P D vwCl (wdM cI cZ h v_all v_past v_states v_refused v_far v_row v_stepAt v_depth v_tries v10 v_wrong v_isEnd v_found v_reached v_stepIn v_laid v_firstRow v_text v_textLong v_spot v_taken v_counted) H := hP
    have hD : va_D A (wdM cI cZ h v_all v_past v_states v_refused v_far v_row v_stepAt v_depth v_tries v10 v_wrong v_isEnd v_found v_reached v_stepIn v_laid v_firstRow v_text v_textLong v_spot v_taken v_counted) := hD
    refine lv_goto (tgt := 132) hx hb dX9_doesStep_85 (by decide) ?_
    cases hf
    exact hend _ _ _ _ hP hS dX9_doesStep_132
  rw [if_neg c7_1] at hf
  by_cases c7_2 : q5 = 2
  · rw [if_pos c7_2] at hf
    refine lv_tableIn (tgt := 88) (off := 64) hx hb dX9_doesStep_24 (by rw [c7_2]; decide) (by rw [c7_2]; decide) (by rw [c7_2]; rfl) (by decide) ?_
    refine lv_aload_n hx hb dX9_doesStep_88 rfl (lv_at hl 2 rfl) ?_
    refine va_get (D := D) (cl := vwCl) (ci := 6) (v := .ref (h 8)) (C := RX9) (T := TX9) (N := 22) hx hb hts hin9 hown hK hP 0 rfl rfl 9 (by decide) (hts (.fieldLink RX9 31 "StepOrdersModel" "values" "[I") (by decide +kernel)) (fun _ h9 => h9) rfl dX9_doesStep_89 ?_
    refine lv_iload_n hx hb dX9_doesStep_92 rfl (lv_at hl 1 rfl) ?_
    refine lv_aload_n hx hb dX9_doesStep_93 rfl (lv_at hl 2 rfl) ?_
    refine va_get (D := D) (cl := vwCl) (ci := 6) (v := .ref (h 8)) (C := RX9) (T := TX9) (N := 22) hx hb hts hin9 hown hK hP 0 rfl rfl 9 (by decide) (hts (.fieldLink RX9 31 "StepOrdersModel" "values" "[I") (by decide +kernel)) (fun _ h9 => h9) rfl dX9_doesStep_94 ?_
    refine lv_iload hx hb dX9_doesStep_97 (lv_at hl 0 rfl) ?_
    refine kb_bind hf (fun v11 hv11 hf => ?_)
    refine ka_iald (D := D) (cl := vwCl) hx hb hK hP 8 1 (f := v_values) rfl rfl (ard_in hv11) (ard_v hv11) dX9_doesStep_99 ?_
    refine kb_bind hf (fun v12 hv12 hf => ?_)
    refine ka_iast (D := D) (cl := vwCl) hx hb hK hP hD hS 8 1 (f := v_values) (g := v12) rfl rfl (awr_in hv12) (awr_v hv12) dX9_doesStep_100 (fun H locs hP hD hS => ?_)
    have hP : va_P D vwCl (wdM cI cZ h v_all v_past v_states v_refused v_far v_row v_stepAt v_depth v_tries v12 v_wrong v_isEnd v_found v_reached v_stepIn v_laid v_firstRow v_text v_textLong v_spot v_taken v_counted) H := hP
    have hD : va_D A (wdM cI cZ h v_all v_past v_states v_refused v_far v_row v_stepAt v_depth v_tries v12 v_wrong v_isEnd v_found v_reached v_stepIn v_laid v_firstRow v_text v_textLong v_spot v_taken v_counted) := hD
    refine lv_goto (tgt := 132) hx hb dX9_doesStep_101 (by decide) ?_
    cases hf
    exact hend _ _ _ _ hP hS dX9_doesStep_132
  rw [if_neg c7_2] at hf
  by_cases c7_3 : q5 = 3
  · rw [if_pos c7_3] at hf
    refine lv_tableIn (tgt := 104) (off := 80) hx hb dX9_doesStep_24 (by rw [c7_3]; decide) (by rw [c7_3]; decide) (by rw [c7_3]; rfl) (by decide) ?_
    refine lv_aload_n hx hb dX9_doesStep_104 rfl (lv_at hl 2 rfl) ?_
    refine lv_dup hx hb dX9_doesStep_105 rfl ?_
    refine va_get (D := D) (cl := vwCl) (ci := 6) (v := .int v_wrong) (C := RX9) (T := TX9) (N := 22) hx hb hts hin9 hown hK hP 0 rfl rfl 10 (by decide) (hts (.fieldLink RX9 140 "StepOrdersModel" "wrong" "I") (by decide +kernel)) (fun _ h9 => h9) rfl dX9_doesStep_106 ?_
    refine lv_aload_n hx hb dX9_doesStep_109 rfl (lv_at hl 2 rfl) ?_
    refine va_get (D := D) (cl := vwCl) (ci := 6) (v := .ref (h 8)) (C := RX9) (T := TX9) (N := 22) hx hb hts hin9 hown hK hP 0 rfl rfl 9 (by decide) (hts (.fieldLink RX9 31 "StepOrdersModel" "values" "[I") (by decide +kernel)) (fun _ h9 => h9) rfl dX9_doesStep_110 ?_
    refine lv_iload_n hx hb dX9_doesStep_113 rfl (lv_at hl 1 rfl) ?_
    refine kb_bind hf (fun v13 hv13 hf => ?_)
    refine ka_iald (D := D) (cl := vwCl) hx hb hK hP 8 1 (f := v_values) rfl rfl (ard_in hv13) (ard_v hv13) dX9_doesStep_114 ?_
    refine lv_iload hx hb dX9_doesStep_115 (lv_at hl 0 rfl) ?_
    refine lv_icmp_ne (tgt := 124) hx hb dX9_doesStep_117 (by decide) (fun c14 => ?_) (fun c14 => ?_)
    · rw [if_neg c14] at hf
      refine lv_iconst (v := 1) hx hb dX9_doesStep_124 (by decide) ?_
      exact J125 v_values v_wrong v_wrong (1 : Int32) _ _ _ hf hP hD hS (lv_sub hl [] rfl)
    · rw [if_pos c14] at hf
      refine lv_iconst (v := 0) hx hb dX9_doesStep_120 (by decide) ?_
      refine lv_goto (tgt := 125) hx hb dX9_doesStep_121 (by decide) ?_
      exact J125 v_values v_wrong v_wrong (0 : Int32) _ _ _ hf hP hD hS (lv_sub hl [] rfl)
  rw [if_neg c7_3] at hf
  refine lv_tableOut (tgt := 132) hx hb dX9_doesStep_24 (by have e0 := lv_neT c7_0 (a := 0) rfl; have e1 := lv_neT c7_1 (a := 1) rfl; have e2 := lv_neT c7_2 (a := 2) rfl; have e3 := lv_neT c7_3 (a := 3) rfl; omega) (by decide) ?_
  cases hf
  exact hend _ _ _ _ hP hS dX9_doesStep_132

set_option maxHeartbeats 4000000 in
set_option maxRecDepth 100000 in
theorem c9_told4 (l : Launch) (D : va_G) (cB cI cZ cO : ClassId) (h : Nat → Nat) (sz : Nat) (x1 : Int32) (x2 : Int32) (x3 : Int32) (x4 : Int32) (v_all : Nat → Int32) (v_past : Nat → Int32) (v_states : Int32) (v_refused : Nat → Int32) (v_far : Nat → Int32) (v_row : Nat → Int32) (v_stepAt : Nat → Int32) (v_depth : Int32) (v_tries : Nat → Int32) (v_values : Nat → Int32) (v_wrong : Int32) (v_isEnd : Nat → Int32) (v_found : Nat → Int32) (v_reached : Nat → Int32) (v_stepIn : Nat → Int32) (v_laid : Nat → Int32) (v_firstRow : Nat → Int32) (v_text : Nat → Int32) (v_textLong : Int32) (v_spot : Int32) (v_taken : Int32) (v_counted : Nat → Int32) (r0 : Int32) (hf : f9_told4 x1 x2 x3 x4 = r0) : Met l yX9_told4 wsX9_told4 rm9_told4 (va_Pc [.ref (h 0), .int x1, .int x2, .int x3, .int x4] (kb_B D (ka_tys cB cI cZ cO) sz (wdM cI cZ h v_all v_past v_states v_refused v_far v_row v_stepAt v_depth v_tries v_values v_wrong v_isEnd v_found v_reached v_stepIn v_laid v_firstRow v_text v_textLong v_spot v_taken v_counted))) (va_Qi (kb_post .int r0) (fun _ t => va_P D vwCl (wdM cI cZ h v_all v_past v_states v_refused v_far v_row v_stepAt v_depth v_tries v_values v_wrong v_isEnd v_found v_reached v_stepIn v_laid v_firstRow v_text v_textLong v_spot v_taken v_counted) t.heap) (va_A (wdM cI cZ h v_all v_past v_states v_refused v_far v_row v_stepAt v_depth v_tries v_values v_wrong v_isEnd v_found v_reached v_stepIn v_laid v_firstRow v_text v_textLong v_spot v_taken v_counted) sz)) 0 0 (va_A (wdM cI cZ h v_all v_past v_states v_refused v_far v_row v_stepAt v_depth v_tries v_values v_wrong v_isEnd v_found v_reached v_stepIn v_laid v_firstRow v_text v_textLong v_spot v_taken v_counted) sz) := by
  refine kb_metZ (cc := cX9_told4) (maxL := 5) (ty := .int) (by decide) rfl (Nat.le_of_ble_eq_true rfl) ?_
  intro p e s m args below meth c Q A ls H hx hb hml hown hts hK hN hP hD hS hA hl hend
  have hown : s.vm.findClass RX9 = some m.cls := hown
  have hl : lv_has ls 5 [(0, .ref (h 0)), (1, .int x1), (2, .int x2), (3, .int x3), (4, .int x4)] := hl
  rw [f9_told4] at hf
  refine lv_sipush (v := 1000) hx hb dX9_told4_0 (by decide) ?_
  refine lv_iload_n hx hb dX9_told4_3 rfl (lv_at hl 1 rfl) ?_
  refine lv_imul hx hb dX9_told4_4 ?_
  refine lv_bipush (v := 100) hx hb dX9_told4_5 (by decide) ?_
  refine lv_iload_n hx hb dX9_told4_7 rfl (lv_at hl 2 rfl) ?_
  refine lv_imul hx hb dX9_told4_8 ?_
  refine lv_iadd hx hb dX9_told4_9 ?_
  refine lv_bipush (v := 10) hx hb dX9_told4_10 (by decide) ?_
  refine lv_iload_n hx hb dX9_told4_12 rfl (lv_at hl 3 rfl) ?_
  refine lv_imul hx hb dX9_told4_13 ?_
  refine lv_iadd hx hb dX9_told4_14 ?_
  refine lv_iload hx hb dX9_told4_15 (lv_at hl 4 rfl) ?_
  refine lv_iadd hx hb dX9_told4_17 ?_
  cases hf
  exact hend _ _ _ _ rfl hP hS dX9_told4_18

set_option maxHeartbeats 4000000 in
set_option maxRecDepth 100000 in
theorem c9_endOf (l : Launch) (D : va_G) (cB cI cZ cO : ClassId) (h : Nat → Nat) (sz : Nat) (v_all : Nat → Int32) (v_past : Nat → Int32) (v_states : Int32) (v_refused : Nat → Int32) (v_far : Nat → Int32) (v_row : Nat → Int32) (v_stepAt : Nat → Int32) (v_depth : Int32) (v_tries : Nat → Int32) (v_values : Nat → Int32) (v_wrong : Int32) (v_isEnd : Nat → Int32) (v_found : Nat → Int32) (v_reached : Nat → Int32) (v_stepIn : Nat → Int32) (v_laid : Nat → Int32) (v_firstRow : Nat → Int32) (v_text : Nat → Int32) (v_textLong : Int32) (v_spot : Int32) (v_taken : Int32) (v_counted : Nat → Int32) (r0 : Int32) (v_values' : Nat → Int32) (v_wrong' : Int32) (hf : f9_endOf v_all v_row v_stepAt v_depth v_values v_wrong = some (r0, v_values', v_wrong')) : Met l yX9_endOf wsX9_endOf rm9_endOf (va_Pc [.ref (h 0)] (kb_B D (ka_tys cB cI cZ cO) sz (wdM cI cZ h v_all v_past v_states v_refused v_far v_row v_stepAt v_depth v_tries v_values v_wrong v_isEnd v_found v_reached v_stepIn v_laid v_firstRow v_text v_textLong v_spot v_taken v_counted))) (va_Qi (kb_post .int r0) (fun _ t => va_P D vwCl (wdM cI cZ h v_all v_past v_states v_refused v_far v_row v_stepAt v_depth v_tries (v_values') (v_wrong') v_isEnd v_found v_reached v_stepIn v_laid v_firstRow v_text v_textLong v_spot v_taken v_counted) t.heap) (va_A (wdM cI cZ h v_all v_past v_states v_refused v_far v_row v_stepAt v_depth v_tries v_values v_wrong v_isEnd v_found v_reached v_stepIn v_laid v_firstRow v_text v_textLong v_spot v_taken v_counted) sz)) 0 0 (va_A (wdM cI cZ h v_all v_past v_states v_refused v_far v_row v_stepAt v_depth v_tries v_values v_wrong v_isEnd v_found v_reached v_stepIn v_laid v_firstRow v_text v_textLong v_spot v_taken v_counted) sz) := by
  refine kb_metZ (cc := cX9_endOf) (maxL := 2) (ty := .int) (by decide) rfl (Nat.le_of_ble_eq_true rfl) ?_
  intro p e s m args below meth c Q A ls H hx hb hml hown hts hK hN hP hD hS hA hl hend
  have hown : s.vm.findClass RX9 = some m.cls := hown
  have hl : lv_has ls 2 [(0, .ref (h 0))] := hl
  have hin9 : ∀ w ∈ u_ws RX9 TX9 22, w ∈ wsX9_endOf := by decide +kernel
  have J36 : ∀ (v_values : Nat → Int32) (v_wrong : Int32) (H : Heap) (locs : List Loc) (ls : Array Slot), f9_endOf_b36 v_all v_row v_stepAt v_depth v_values v_wrong = some (r0, v_values', v_wrong') → va_P D vwCl (wdM cI cZ h v_all v_past v_states v_refused v_far v_row v_stepAt v_depth v_tries v_values v_wrong v_isEnd v_found v_reached v_stepIn v_laid v_firstRow v_text v_textLong v_spot v_taken v_counted) H → va_D A (wdM cI cZ h v_all v_past v_states v_refused v_far v_row v_stepAt v_depth v_tries v_values v_wrong v_isEnd v_found v_reached v_stepIn v_laid v_firstRow v_text v_textLong v_spot v_taken v_counted) → va_S A s.heap H locs → lv_has ls 2 [(0, .ref (h 0))] → W p l e rm9_endOf s m args below meth c H locs 0 0 Q (F0 m 36 ls []) := by
    intro v_values v_wrong H locs ls hf hP hD hS hl
    rw [f9_endOf_b36] at hf
    refine lv_aload_n hx hb dX9_endOf_36 rfl (lv_at hl 0 rfl) ?_
    refine lv_aload_n hx hb dX9_endOf_37 rfl (lv_at hl 0 rfl) ?_
    refine va_get (D := D) (cl := vwCl) (ci := 6) (v := .ref (h 8)) (C := RX9) (T := TX9) (N := 22) hx hb hts hin9 hown hK hP 0 rfl rfl 9 (by decide) (hts (.fieldLink RX9 31 "StepOrdersModel" "values" "[I") (by decide +kernel)) (fun _ h9 => h9) rfl dX9_endOf_38 ?_
    refine lv_iconst (v := 0) hx hb dX9_endOf_41 (by decide) ?_
    refine ka_iald (D := D) (cl := vwCl) hx hb hK hP 8 1 (f := v_values) rfl rfl (v := (v_values 0)) (show ¬ (_ ∨ _) from by decide) rfl dX9_endOf_42 ?_
    refine lv_aload_n hx hb dX9_endOf_43 rfl (lv_at hl 0 rfl) ?_
    refine va_get (D := D) (cl := vwCl) (ci := 6) (v := .ref (h 8)) (C := RX9) (T := TX9) (N := 22) hx hb hts hin9 hown hK hP 0 rfl rfl 9 (by decide) (hts (.fieldLink RX9 31 "StepOrdersModel" "values" "[I") (by decide +kernel)) (fun _ h9 => h9) rfl dX9_endOf_44 ?_
    refine lv_iconst (v := 1) hx hb dX9_endOf_47 (by decide) ?_
    refine ka_iald (D := D) (cl := vwCl) hx hb hK hP 8 1 (f := v_values) rfl rfl (v := (v_values 1)) (show ¬ (_ ∨ _) from by decide) rfl dX9_endOf_48 ?_
    refine lv_aload_n hx hb dX9_endOf_49 rfl (lv_at hl 0 rfl) ?_
    refine va_get (D := D) (cl := vwCl) (ci := 6) (v := .ref (h 8)) (C := RX9) (T := TX9) (N := 22) hx hb hts hin9 hown hK hP 0 rfl rfl 9 (by decide) (hts (.fieldLink RX9 31 "StepOrdersModel" "values" "[I") (by decide +kernel)) (fun _ h9 => h9) rfl dX9_endOf_50 ?_
    refine lv_iconst (v := 2) hx hb dX9_endOf_53 (by decide) ?_
    refine ka_iald (D := D) (cl := vwCl) hx hb hK hP 8 1 (f := v_values) rfl rfl (v := (v_values 2)) (show ¬ (_ ∨ _) from by decide) rfl dX9_endOf_54 ?_
    refine lv_aload_n hx hb dX9_endOf_55 rfl (lv_at hl 0 rfl) ?_
    refine va_get (D := D) (cl := vwCl) (ci := 6) (v := .ref (h 8)) (C := RX9) (T := TX9) (N := 22) hx hb hts hin9 hown hK hP 0 rfl rfl 9 (by decide) (hts (.fieldLink RX9 31 "StepOrdersModel" "values" "[I") (by decide +kernel)) (fun _ h9 => h9) rfl dX9_endOf_56 ?_
    refine lv_iconst (v := 3) hx hb dX9_endOf_59 (by decide) ?_
    refine ka_iald (D := D) (cl := vwCl) hx hb hK hP 8 1 (f := v_values) rfl rfl (v := (v_values 3)) (show ¬ (_ ∨ _) from by decide) rfl dX9_endOf_60 ?_
    have hPc : va_P D vwCl (wdM cI cZ h v_all v_past v_states v_refused v_far v_row v_stepAt v_depth v_tries v_values v_wrong v_isEnd v_found v_reached v_stepIn v_laid v_firstRow v_text v_textLong v_spot v_taken v_counted) H := hP.sub [0, 1, 2, 3, 4, 5, 6, 7, 8, 9, 10, 11, 12, 13, 14, 15, 16] rfl
    have hDc : va_D A (wdM cI cZ h v_all v_past v_states v_refused v_far v_row v_stepAt v_depth v_tries v_values v_wrong v_isEnd v_found v_reached v_stepIn v_laid v_firstRow v_text v_textLong v_spot v_taken v_counted) := hD.sub [0, 1, 2, 3, 4, 5, 6, 7, 8, 9, 10, 11, 12, 13, 14, 15, 16] (by decide) rfl
    refine kd_iR (va_runV (As := [.int (v_values 0), .int (v_values 1), .int (v_values 2), .int (v_values 3)]) (rest := []) ⟨hx, hb, hml, hown, hts⟩ (c9_told4 l D cB cI cZ cO h H.size (v_values 0) (v_values 1) (v_values 2) (v_values 3) v_all v_past v_states v_refused v_far v_row v_stepAt v_depth v_tries v_values v_wrong v_isEnd v_found v_reached v_stepIn v_laid v_firstRow v_text v_textLong v_spot v_taken v_counted (f9_told4 (v_values 0) (v_values 1) (v_values 2) (v_values 3)) rfl) (cwV 4 hts gX9_endOf_X9_told4 rfl rfl rfl (by decide +kernel) ⟨Nat.le_of_ble_eq_true rfl, Nat.le_of_ble_eq_true rfl⟩) ⟨kb_blind, va_recv hK hPc (ci := 6) (q0 := 0) rfl rfl, kb_pre hPc hDc hK hN⟩ rfl rfl hl.1 rfl (lv_room (Nat.le_of_ble_eq_true rfl)) dX9_endOf_61 ⟨Nat.le_refl _, Nat.le_refl _⟩) hP hD hS hA [0, 1, 2, 3, 4, 5, 6, 7, 8, 9, 10, 11, 12, 13, 14, 15, 16] rfl (fun H locs hn2 hP hS => ?_)
    cases hf
    exact hend _ _ _ _ rfl hP hS dX9_endOf_64
  have J6 : ∀ (n : Nat) (v_values : Nat → Int32) (v_wrong : Int32) (x1 : Int32) (H : Heap) (locs : List Loc) (ls : Array Slot), f9_endOf_l6 n v_all v_row v_stepAt v_depth v_values v_wrong x1 = some (r0, v_values', v_wrong') → va_P D vwCl (wdM cI cZ h v_all v_past v_states v_refused v_far v_row v_stepAt v_depth v_tries v_values v_wrong v_isEnd v_found v_reached v_stepIn v_laid v_firstRow v_text v_textLong v_spot v_taken v_counted) H → va_D A (wdM cI cZ h v_all v_past v_states v_refused v_far v_row v_stepAt v_depth v_tries v_values v_wrong v_isEnd v_found v_reached v_stepIn v_laid v_firstRow v_text v_textLong v_spot v_taken v_counted) → va_S A s.heap H locs → lv_has ls 2 [(0, .ref (h 0)), (1, .int x1)] → W p l e rm9_endOf s m args below meth c H locs 0 0 Q (F0 m 6 ls []) := by
    intro n
    induction n with
    | zero =>
      intro v_values v_wrong x1 H locs ls hf
      cases (show (none : Option (Int32 × (Nat → Int32) × Int32)) = some (r0, v_values', v_wrong') from hf)
    | succ n ih =>
      intro v_values v_wrong x1 H locs ls hf hP hD hS hl
      rw [f9_endOf_l6_s] at hf
      refine lv_iload_n hx hb dX9_endOf_6 rfl (lv_at hl 1 rfl) ?_
      refine lv_aload_n hx hb dX9_endOf_7 rfl (lv_at hl 0 rfl) ?_
      refine va_get (D := D) (cl := vwCl) (ci := 6) (v := .int v_depth) (C := RX9) (T := TX9) (N := 22) hx hb hts hin9 hown hK hP 0 rfl rfl 7 (by decide) (hts (.fieldLink RX9 130 "StepOrdersModel" "depth" "I") (by decide +kernel)) (fun _ h9 => h9) rfl dX9_endOf_8 ?_
      refine lv_icmp_ge (tgt := 36) hx hb dX9_endOf_11 (by decide) (fun c7 => ?_) (fun c7 => ?_)
      · rw [if_pos c7] at hf
        exact J36 v_values v_wrong _ _ _ hf hP hD hS (lv_sub hl [0] rfl)
      · rw [if_neg c7] at hf
        refine lv_aload_n hx hb dX9_endOf_14 rfl (lv_at hl 0 rfl) ?_
        refine lv_aload_n hx hb dX9_endOf_15 rfl (lv_at hl 0 rfl) ?_
        refine va_get (D := D) (cl := vwCl) (ci := 6) (v := .ref (h 5)) (C := RX9) (T := TX9) (N := 22) hx hb hts hin9 hown hK hP 0 rfl rfl 5 (by decide) (hts (.fieldLink RX9 22 "StepOrdersModel" "row" "[I") (by decide +kernel)) (fun _ h9 => h9) rfl dX9_endOf_16 ?_
        refine lv_iload_n hx hb dX9_endOf_19 rfl (lv_at hl 1 rfl) ?_
        refine kb_bind hf (fun v8 hv8 hf => ?_)
        refine ka_iald (D := D) (cl := vwCl) hx hb hK hP 5 1 (f := v_row) rfl rfl (ard_in hv8) (ard_v hv8) dX9_endOf_20 ?_
        refine lv_aload_n hx hb dX9_endOf_21 rfl (lv_at hl 0 rfl) ?_
        refine va_get (D := D) (cl := vwCl) (ci := 6) (v := .ref (h 6)) (C := RX9) (T := TX9) (N := 22) hx hb hts hin9 hown hK hP 0 rfl rfl 6 (by decide) (hts (.fieldLink RX9 25 "StepOrdersModel" "stepAt" "[I") (by decide +kernel)) (fun _ h9 => h9) rfl dX9_endOf_22 ?_
        refine lv_iload_n hx hb dX9_endOf_25 rfl (lv_at hl 1 rfl) ?_
        refine kb_bind hf (fun v9 hv9 hf => ?_)
        refine ka_iald (D := D) (cl := vwCl) hx hb hK hP 6 1 (f := v_stepAt) rfl rfl (ard_in hv9) (ard_v hv9) dX9_endOf_26 ?_
        refine kb_bind hf (fun q10 hq10 hf => ?_)
        have hPc : va_P D vwCl (wdM cI cZ h v_all v_past v_states v_refused v_far v_row v_stepAt v_depth v_tries v_values v_wrong v_isEnd v_found v_reached v_stepIn v_laid v_firstRow v_text v_textLong v_spot v_taken v_counted) H := hP.sub [0, 1, 2, 3, 4, 5, 6, 7, 8, 9, 10, 11, 12, 13, 14, 15, 16] rfl
        have hDc : va_D A (wdM cI cZ h v_all v_past v_states v_refused v_far v_row v_stepAt v_depth v_tries v_values v_wrong v_isEnd v_found v_reached v_stepIn v_laid v_firstRow v_text v_textLong v_spot v_taken v_counted) := hD.sub [0, 1, 2, 3, 4, 5, 6, 7, 8, 9, 10, 11, 12, 13, 14, 15, 16] (by decide) rfl
        refine kd_vW (ws' := wdM cI cZ h v_all v_past v_states v_refused v_far v_row v_stepAt v_depth v_tries q10.1 q10.2 v_isEnd v_found v_reached v_stepIn v_laid v_firstRow v_text v_textLong v_spot v_taken v_counted) (va_runV (As := [.int v8, .int v9]) (rest := []) ⟨hx, hb, hml, hown, hts⟩ (c9_doesStep l D cB cI cZ cO h H.size v8 v9 v_all v_past v_states v_refused v_far v_row v_stepAt v_depth v_tries v_values v_wrong v_isEnd v_found v_reached v_stepIn v_laid v_firstRow v_text v_textLong v_spot v_taken v_counted q10.1 q10.2 hq10) (cwV 2 hts gX9_endOf_X9_doesStep rfl rfl rfl (by decide +kernel) ⟨Nat.le_of_ble_eq_true rfl, Nat.le_of_ble_eq_true rfl⟩) ⟨kb_blind, va_recv hK hPc (ci := 6) (q0 := 0) rfl rfl, kb_pre hPc hDc hK hN⟩ rfl rfl hl.1 rfl (lv_room (Nat.le_of_ble_eq_true rfl)) dX9_endOf_27 ⟨Nat.le_refl _, Nat.le_refl _⟩) hP hD hS hA [0, 1, 2, 3, 4, 5, 6, 7, 8, 9, 10, 11, 12, 13, 14, 15, 16] [] rfl rfl rfl rfl rfl (fun H locs hP hD hS => ?_)
        refine lv_iinc (v := (x1 + 1)) (lv' := [(1, .int (x1 + 1)), (0, .ref (h 0))]) hx hb dX9_endOf_30 hl (k := 1) rfl rfl (by decide) rfl (fun ls hl => ?_)
        refine lv_goto (tgt := 6) hx hb dX9_endOf_33 (by decide) ?_
        exact ih q10.1 q10.2 (x1 + 1) _ _ _ hf hP hD hS (lv_sub hl [1, 0] rfl)
  rw [f9_endOf] at hf
  refine lv_aload_n hx hb dX9_endOf_0 rfl (lv_at hl 0 rfl) ?_
  refine kb_bind hf (fun q11 hq11 hf => ?_)
  have hPc : va_P D vwCl (wdM cI cZ h v_all v_past v_states v_refused v_far v_row v_stepAt v_depth v_tries v_values v_wrong v_isEnd v_found v_reached v_stepIn v_laid v_firstRow v_text v_textLong v_spot v_taken v_counted) H := hP.sub [0, 1, 2, 3, 4, 5, 6, 7, 8, 9, 10, 11, 12, 13, 14, 15, 16] rfl
  have hDc : va_D A (wdM cI cZ h v_all v_past v_states v_refused v_far v_row v_stepAt v_depth v_tries v_values v_wrong v_isEnd v_found v_reached v_stepIn v_laid v_firstRow v_text v_textLong v_spot v_taken v_counted) := hD.sub [0, 1, 2, 3, 4, 5, 6, 7, 8, 9, 10, 11, 12, 13, 14, 15, 16] (by decide) rfl
  refine kd_vW (ws' := wdM cI cZ h v_all v_past v_states v_refused v_far v_row v_stepAt v_depth v_tries q11.1 q11.2 v_isEnd v_found v_reached v_stepIn v_laid v_firstRow v_text v_textLong v_spot v_taken v_counted) (va_runV (As := []) (rest := []) ⟨hx, hb, hml, hown, hts⟩ (c9_valuesBegin l D cB cI cZ cO h H.size v_all v_past v_states v_refused v_far v_row v_stepAt v_depth v_tries v_values v_wrong v_isEnd v_found v_reached v_stepIn v_laid v_firstRow v_text v_textLong v_spot v_taken v_counted q11.1 q11.2 hq11) (cwV 0 hts gX9_endOf_X9_valuesBegin rfl rfl rfl (by decide +kernel) ⟨Nat.le_of_ble_eq_true rfl, Nat.le_of_ble_eq_true rfl⟩) ⟨kb_blind, va_recv hK hPc (ci := 6) (q0 := 0) rfl rfl, kb_pre hPc hDc hK hN⟩ rfl rfl hl.1 rfl (lv_room (Nat.le_of_ble_eq_true rfl)) dX9_endOf_1 ⟨Nat.le_refl _, Nat.le_refl _⟩) hP hD hS hA [0, 1, 2, 3, 4, 5, 6, 7, 8, 9, 10, 11, 12, 13, 14, 15, 16] [] rfl rfl rfl rfl rfl (fun H locs hP hD hS => ?_)
  refine lv_iconst (v := 0) hx hb dX9_endOf_4 (by decide) ?_
  refine lv_istore_n (lv' := [(1, .int (0 : Int32)), (0, .ref (h 0))]) hx hb dX9_endOf_5 rfl hl (by decide) rfl (fun ls hl => ?_)
  exact J6 kFUEL q11.1 q11.2 (0 : Int32) _ _ _ hf hP hD hS (lv_sub hl [1, 0] rfl)

set_option maxHeartbeats 4000000 in
set_option maxRecDepth 100000 in
theorem c9_allSteps (l : Launch) (D : va_G) (cB cI cZ cO : ClassId) (h : Nat → Nat) (sz : Nat) (v_all : Nat → Int32) (v_past : Nat → Int32) (v_states : Int32) (v_refused : Nat → Int32) (v_far : Nat → Int32) (v_row : Nat → Int32) (v_stepAt : Nat → Int32) (v_depth : Int32) (v_tries : Nat → Int32) (v_values : Nat → Int32) (v_wrong : Int32) (v_isEnd : Nat → Int32) (v_found : Nat → Int32) (v_reached : Nat → Int32) (v_stepIn : Nat → Int32) (v_laid : Nat → Int32) (v_firstRow : Nat → Int32) (v_text : Nat → Int32) (v_textLong : Int32) (v_spot : Int32) (v_taken : Int32) (v_counted : Nat → Int32) (r0 : Int32) (hf : f9_allSteps v_all = some r0) : Met l yX9_allSteps wsX9_allSteps rm9_allSteps (va_Pc [.ref (h 0)] (kb_B D (ka_tys cB cI cZ cO) sz (wdM cI cZ h v_all v_past v_states v_refused v_far v_row v_stepAt v_depth v_tries v_values v_wrong v_isEnd v_found v_reached v_stepIn v_laid v_firstRow v_text v_textLong v_spot v_taken v_counted))) (va_Qi (kb_post .int r0) (fun _ t => va_P D vwCl (wdM cI cZ h v_all v_past v_states v_refused v_far v_row v_stepAt v_depth v_tries v_values v_wrong v_isEnd v_found v_reached v_stepIn v_laid v_firstRow v_text v_textLong v_spot v_taken v_counted) t.heap) (va_A (wdM cI cZ h v_all v_past v_states v_refused v_far v_row v_stepAt v_depth v_tries v_values v_wrong v_isEnd v_found v_reached v_stepIn v_laid v_firstRow v_text v_textLong v_spot v_taken v_counted) sz)) 0 0 (va_A (wdM cI cZ h v_all v_past v_states v_refused v_far v_row v_stepAt v_depth v_tries v_values v_wrong v_isEnd v_found v_reached v_stepIn v_laid v_firstRow v_text v_textLong v_spot v_taken v_counted) sz) := by
  refine kb_metZ (cc := cX9_allSteps) (maxL := 1) (ty := .int) (by decide) rfl (Nat.le_of_ble_eq_true rfl) ?_
  intro p e s m args below meth c Q A ls H hx hb hml hown hts hK hN hP hD hS hA hl hend
  have hown : s.vm.findClass RX9 = some m.cls := hown
  have hl : lv_has ls 1 [(0, .ref (h 0))] := hl
  rw [f9_allSteps] at hf
  refine lv_aload_n hx hb dX9_allSteps_0 rfl (lv_at hl 0 rfl) ?_
  refine lv_iconst (v := 0) hx hb dX9_allSteps_1 (by decide) ?_
  refine kb_bind hf (fun q1 hq1 hf => ?_)
  have hPc : va_P D vwCl (wdM cI cZ h v_all v_past v_states v_refused v_far v_row v_stepAt v_depth v_tries v_values v_wrong v_isEnd v_found v_reached v_stepIn v_laid v_firstRow v_text v_textLong v_spot v_taken v_counted) H := hP.sub [0, 1, 2, 3, 4, 5, 6, 7, 8, 9, 10, 11, 12, 13, 14, 15, 16] rfl
  have hDc : va_D A (wdM cI cZ h v_all v_past v_states v_refused v_far v_row v_stepAt v_depth v_tries v_values v_wrong v_isEnd v_found v_reached v_stepIn v_laid v_firstRow v_text v_textLong v_spot v_taken v_counted) := hD.sub [0, 1, 2, 3, 4, 5, 6, 7, 8, 9, 10, 11, 12, 13, 14, 15, 16] (by decide) rfl
  refine kd_iR (va_runV (As := [.int (0 : Int32)]) (rest := []) ⟨hx, hb, hml, hown, hts⟩ (c9_many l D cB cI cZ cO h H.size (0 : Int32) v_all v_past v_states v_refused v_far v_row v_stepAt v_depth v_tries v_values v_wrong v_isEnd v_found v_reached v_stepIn v_laid v_firstRow v_text v_textLong v_spot v_taken v_counted q1 hq1) (cwV 1 hts gX9_allSteps_X9_many rfl rfl rfl (by decide +kernel) ⟨Nat.le_of_ble_eq_true rfl, Nat.le_of_ble_eq_true rfl⟩) ⟨kb_blind, va_recv hK hPc (ci := 6) (q0 := 0) rfl rfl, kb_pre hPc hDc hK hN⟩ rfl rfl hl.1 rfl (lv_room (Nat.le_of_ble_eq_true rfl)) dX9_allSteps_2 ⟨Nat.le_refl _, Nat.le_refl _⟩) hP hD hS hA [0, 1, 2, 3, 4, 5, 6, 7, 8, 9, 10, 11, 12, 13, 14, 15, 16] rfl (fun H locs hn2 hP hS => ?_)
  refine lv_aload_n hx hb dX9_allSteps_5 rfl (lv_at hl 0 rfl) ?_
  refine lv_iconst (v := 1) hx hb dX9_allSteps_6 (by decide) ?_
  refine kb_bind hf (fun q3 hq3 hf => ?_)
  have hPc : va_P D vwCl (wdM cI cZ h v_all v_past v_states v_refused v_far v_row v_stepAt v_depth v_tries v_values v_wrong v_isEnd v_found v_reached v_stepIn v_laid v_firstRow v_text v_textLong v_spot v_taken v_counted) H := hP.sub [0, 1, 2, 3, 4, 5, 6, 7, 8, 9, 10, 11, 12, 13, 14, 15, 16] rfl
  have hDc : va_D A (wdM cI cZ h v_all v_past v_states v_refused v_far v_row v_stepAt v_depth v_tries v_values v_wrong v_isEnd v_found v_reached v_stepIn v_laid v_firstRow v_text v_textLong v_spot v_taken v_counted) := hD.sub [0, 1, 2, 3, 4, 5, 6, 7, 8, 9, 10, 11, 12, 13, 14, 15, 16] (by decide) rfl
  refine kd_iR (va_runV (As := [.int (1 : Int32)]) (rest := [.int q1]) ⟨hx, hb, hml, hown, hts⟩ (c9_many l D cB cI cZ cO h H.size (1 : Int32) v_all v_past v_states v_refused v_far v_row v_stepAt v_depth v_tries v_values v_wrong v_isEnd v_found v_reached v_stepIn v_laid v_firstRow v_text v_textLong v_spot v_taken v_counted q3 hq3) (cwV 1 hts gX9_allSteps_X9_many rfl rfl rfl (by decide +kernel) ⟨Nat.le_of_ble_eq_true rfl, Nat.le_of_ble_eq_true rfl⟩) ⟨kb_blind, va_recv hK hPc (ci := 6) (q0 := 0) rfl rfl, kb_pre hPc hDc hK hN⟩ rfl rfl hl.1 rfl (lv_room (Nat.le_of_ble_eq_true rfl)) dX9_allSteps_7 ⟨Nat.le_refl _, Nat.le_refl _⟩) hP hD hS hA [0, 1, 2, 3, 4, 5, 6, 7, 8, 9, 10, 11, 12, 13, 14, 15, 16] rfl (fun H locs hn4 hP hS => ?_)
  refine lv_iadd hx hb dX9_allSteps_10 ?_
  refine lv_aload_n hx hb dX9_allSteps_11 rfl (lv_at hl 0 rfl) ?_
  refine lv_iconst (v := 2) hx hb dX9_allSteps_12 (by decide) ?_
  refine kb_bind hf (fun q5 hq5 hf => ?_)
  have hPc : va_P D vwCl (wdM cI cZ h v_all v_past v_states v_refused v_far v_row v_stepAt v_depth v_tries v_values v_wrong v_isEnd v_found v_reached v_stepIn v_laid v_firstRow v_text v_textLong v_spot v_taken v_counted) H := hP.sub [0, 1, 2, 3, 4, 5, 6, 7, 8, 9, 10, 11, 12, 13, 14, 15, 16] rfl
  have hDc : va_D A (wdM cI cZ h v_all v_past v_states v_refused v_far v_row v_stepAt v_depth v_tries v_values v_wrong v_isEnd v_found v_reached v_stepIn v_laid v_firstRow v_text v_textLong v_spot v_taken v_counted) := hD.sub [0, 1, 2, 3, 4, 5, 6, 7, 8, 9, 10, 11, 12, 13, 14, 15, 16] (by decide) rfl
  refine kd_iR (va_runV (As := [.int (2 : Int32)]) (rest := [.int (q1 + q3)]) ⟨hx, hb, hml, hown, hts⟩ (c9_many l D cB cI cZ cO h H.size (2 : Int32) v_all v_past v_states v_refused v_far v_row v_stepAt v_depth v_tries v_values v_wrong v_isEnd v_found v_reached v_stepIn v_laid v_firstRow v_text v_textLong v_spot v_taken v_counted q5 hq5) (cwV 1 hts gX9_allSteps_X9_many rfl rfl rfl (by decide +kernel) ⟨Nat.le_of_ble_eq_true rfl, Nat.le_of_ble_eq_true rfl⟩) ⟨kb_blind, va_recv hK hPc (ci := 6) (q0 := 0) rfl rfl, kb_pre hPc hDc hK hN⟩ rfl rfl hl.1 rfl (lv_room (Nat.le_of_ble_eq_true rfl)) dX9_allSteps_13 ⟨Nat.le_refl _, Nat.le_refl _⟩) hP hD hS hA [0, 1, 2, 3, 4, 5, 6, 7, 8, 9, 10, 11, 12, 13, 14, 15, 16] rfl (fun H locs hn6 hP hS => ?_)
  refine lv_iadd hx hb dX9_allSteps_16 ?_
  cases hf
  exact hend _ _ _ _ rfl hP hS dX9_allSteps_17

set_option maxHeartbeats 4000000 in
set_option maxRecDepth 100000 in
theorem c9_findsAll (l : Launch) (D : va_G) (cB cI cZ cO : ClassId) (h : Nat → Nat) (sz : Nat) (v_all : Nat → Int32) (v_past : Nat → Int32) (v_states : Int32) (v_refused : Nat → Int32) (v_far : Nat → Int32) (v_row : Nat → Int32) (v_stepAt : Nat → Int32) (v_depth : Int32) (v_tries : Nat → Int32) (v_values : Nat → Int32) (v_wrong : Int32) (v_isEnd : Nat → Int32) (v_found : Nat → Int32) (v_reached : Nat → Int32) (v_stepIn : Nat → Int32) (v_laid : Nat → Int32) (v_firstRow : Nat → Int32) (v_text : Nat → Int32) (v_textLong : Int32) (v_spot : Int32) (v_taken : Int32) (v_counted : Nat → Int32) (v_far' : Nat → Int32) (v_row' : Nat → Int32) (v_stepAt' : Nat → Int32) (v_depth' : Int32) (v_tries' : Nat → Int32) (v_values' : Nat → Int32) (v_wrong' : Int32) (v_isEnd' : Nat → Int32) (v_found' : Nat → Int32) (hf : f9_findsAll v_all v_far v_row v_stepAt v_depth v_tries v_values v_wrong v_isEnd v_found = some (v_far', v_row', v_stepAt', v_depth', v_tries', v_values', v_wrong', v_isEnd', v_found')) : Met l yX9_findsAll wsX9_findsAll rm9_findsAll (va_Pc [.ref (h 0)] (kb_B D (ka_tys cB cI cZ cO) sz (wdM cI cZ h v_all v_past v_states v_refused v_far v_row v_stepAt v_depth v_tries v_values v_wrong v_isEnd v_found v_reached v_stepIn v_laid v_firstRow v_text v_textLong v_spot v_taken v_counted))) (va_Qv (fun (_ : Unit) => True) (fun _ t => va_P D vwCl (wdM cI cZ h v_all v_past v_states v_refused (v_far') (v_row') (v_stepAt') (v_depth') (v_tries') (v_values') (v_wrong') (v_isEnd') (v_found') v_reached v_stepIn v_laid v_firstRow v_text v_textLong v_spot v_taken v_counted) t.heap) (va_A (wdM cI cZ h v_all v_past v_states v_refused v_far v_row v_stepAt v_depth v_tries v_values v_wrong v_isEnd v_found v_reached v_stepIn v_laid v_firstRow v_text v_textLong v_spot v_taken v_counted) sz)) 0 0 (va_A (wdM cI cZ h v_all v_past v_states v_refused v_far v_row v_stepAt v_depth v_tries v_values v_wrong v_isEnd v_found v_reached v_stepIn v_laid v_firstRow v_text v_textLong v_spot v_taken v_counted) sz) := by
  refine kb_metV (cc := cX9_findsAll) (maxL := 2) (by decide) rfl (Nat.le_of_ble_eq_true rfl) ?_
  intro p e s m args below meth c Q A ls H hx hb hml hown hts hK hN hP hD hS hA hl hend
  have hown : s.vm.findClass RX9 = some m.cls := hown
  have hl : lv_has ls 2 [(0, .ref (h 0))] := hl
  have hin9 : ∀ w ∈ u_ws RX9 TX9 22, w ∈ wsX9_findsAll := by decide +kernel
  have J46 : ∀ (n : Nat) (v_far : Nat → Int32) (v_row : Nat → Int32) (v_stepAt : Nat → Int32) (v_depth : Int32) (v_tries : Nat → Int32) (v_values : Nat → Int32) (v_wrong : Int32) (v_isEnd : Nat → Int32) (v_found : Nat → Int32) (H : Heap) (locs : List Loc) (ls : Array Slot), f9_findsAll_l46 n v_all v_far v_row v_stepAt v_depth v_tries v_values v_wrong v_isEnd v_found = some (v_far', v_row', v_stepAt', v_depth', v_tries', v_values', v_wrong', v_isEnd', v_found') → va_P D vwCl (wdM cI cZ h v_all v_past v_states v_refused v_far v_row v_stepAt v_depth v_tries v_values v_wrong v_isEnd v_found v_reached v_stepIn v_laid v_firstRow v_text v_textLong v_spot v_taken v_counted) H → va_D A (wdM cI cZ h v_all v_past v_states v_refused v_far v_row v_stepAt v_depth v_tries v_values v_wrong v_isEnd v_found v_reached v_stepIn v_laid v_firstRow v_text v_textLong v_spot v_taken v_counted) → va_S A s.heap H locs → lv_has ls 2 [(0, .ref (h 0))] → W p l e rm9_findsAll s m args below meth c H locs 0 0 Q (F0 m 46 ls []) := by
    intro n
    induction n with
    | zero =>
      intro v_far v_row v_stepAt v_depth v_tries v_values v_wrong v_isEnd v_found H locs ls hf
      cases (show (none : Option ((Nat → Int32) × (Nat → Int32) × (Nat → Int32) × Int32 × (Nat → Int32) × (Nat → Int32) × Int32 × (Nat → Int32) × (Nat → Int32))) = some (v_far', v_row', v_stepAt', v_depth', v_tries', v_values', v_wrong', v_isEnd', v_found') from hf)
    | succ n ih =>
      have J135 : ∀ (v_far : Nat → Int32) (v_row : Nat → Int32) (v_stepAt : Nat → Int32) (v_depth : Int32) (v_tries : Nat → Int32) (v_values : Nat → Int32) (v_wrong : Int32) (v_isEnd : Nat → Int32) (v_found : Nat → Int32) (x1 : Int32) (s1 : Int32) (s2 : Int32) (s3 : Int32) (H : Heap) (locs : List Loc) (ls : Array Slot), f9_findsAll_b135 (f9_findsAll_l46 n) v_all v_far v_row v_stepAt v_depth v_tries v_values v_wrong v_isEnd v_found x1 s1 s2 s3 = some (v_far', v_row', v_stepAt', v_depth', v_tries', v_values', v_wrong', v_isEnd', v_found') → va_P D vwCl (wdM cI cZ h v_all v_past v_states v_refused v_far v_row v_stepAt v_depth v_tries v_values v_wrong v_isEnd v_found v_reached v_stepIn v_laid v_firstRow v_text v_textLong v_spot v_taken v_counted) H → va_D A (wdM cI cZ h v_all v_past v_states v_refused v_far v_row v_stepAt v_depth v_tries v_values v_wrong v_isEnd v_found v_reached v_stepIn v_laid v_firstRow v_text v_textLong v_spot v_taken v_counted) → va_S A s.heap H locs → lv_has ls 2 [(0, .ref (h 0)), (1, .int x1)] → W p l e rm9_findsAll s m args below meth c H locs 0 0 Q (F0 m 135 ls [.int s3, .int s2, .int s1, .ref (h 10)]) := by
        intro v_far v_row v_stepAt v_depth v_tries v_values v_wrong v_isEnd v_found x1 s1 s2 s3 H locs ls hf hP hD hS hl
        rw [f9_findsAll_b135] at hf
        refine lv_iadd hx hb dX9_findsAll_135 ?_
        refine kb_bind hf (fun v16 hv16 hf => ?_)
        refine ka_iast (D := D) (cl := vwCl) hx hb hK hP hD hS 10 1 (f := v_found) (g := v16) rfl rfl (awr_in hv16) (awr_v hv16) dX9_findsAll_136 (fun H locs hP hD hS => ?_)
        have hP : va_P D vwCl (wdM cI cZ h v_all v_past v_states v_refused v_far v_row v_stepAt v_depth v_tries v_values v_wrong v_isEnd v16 v_reached v_stepIn v_laid v_firstRow v_text v_textLong v_spot v_taken v_counted) H := hP
        have hD : va_D A (wdM cI cZ h v_all v_past v_states v_refused v_far v_row v_stepAt v_depth v_tries v_values v_wrong v_isEnd v16 v_reached v_stepIn v_laid v_firstRow v_text v_textLong v_spot v_taken v_counted) := hD
        refine lv_aload_n hx hb dX9_findsAll_137 rfl (lv_at hl 0 rfl) ?_
        refine va_get (D := D) (cl := vwCl) (ci := 6) (v := .ref (h 9)) (C := RX9) (T := TX9) (N := 22) hx hb hts hin9 hown hK hP 0 rfl rfl 11 (by decide) (hts (.fieldLink RX9 34 "StepOrdersModel" "isEnd" "[Z") (by decide +kernel)) (fun _ h9 => h9) rfl dX9_findsAll_138 ?_
        refine lv_iload_n hx hb dX9_findsAll_141 rfl (lv_at hl 1 rfl) ?_
        refine lv_iconst (v := 1) hx hb dX9_findsAll_142 (by decide) ?_
        refine kb_bind hf (fun v17 hv17 hf => ?_)
        refine ka_zast (D := D) (cl := vwCl) hx hb hK hP hD hS 9 2 (f := v_isEnd) (g := v17) rfl rfl (awr_in hv17) (awr_v hv17) dX9_findsAll_143 (fun H locs hP hD hS => ?_)
        have hP : va_P D vwCl (wdM cI cZ h v_all v_past v_states v_refused v_far v_row v_stepAt v_depth v_tries v_values v_wrong v17 v16 v_reached v_stepIn v_laid v_firstRow v_text v_textLong v_spot v_taken v_counted) H := hP
        have hD : va_D A (wdM cI cZ h v_all v_past v_states v_refused v_far v_row v_stepAt v_depth v_tries v_values v_wrong v17 v16 v_reached v_stepIn v_laid v_firstRow v_text v_textLong v_spot v_taken v_counted) := hD
        refine lv_goto (tgt := 46) hx hb dX9_findsAll_144 (by decide) ?_
        exact ih v_far v_row v_stepAt v_depth v_tries v_values v_wrong v17 v16 _ _ _ hf hP hD hS (lv_sub hl [0] rfl)
      have J112 : ∀ (v_far : Nat → Int32) (v_row : Nat → Int32) (v_stepAt : Nat → Int32) (v_depth : Int32) (v_tries : Nat → Int32) (v_values : Nat → Int32) (v_wrong : Int32) (v_isEnd : Nat → Int32) (v_found : Nat → Int32) (x1 : Int32) (s1 : Int32) (s2 : Int32) (s3 : Int32) (H : Heap) (locs : List Loc) (ls : Array Slot), f9_findsAll_b112 (f9_findsAll_l46 n) v_all v_far v_row v_stepAt v_depth v_tries v_values v_wrong v_isEnd v_found x1 s1 s2 s3 = some (v_far', v_row', v_stepAt', v_depth', v_tries', v_values', v_wrong', v_isEnd', v_found') → va_P D vwCl (wdM cI cZ h v_all v_past v_states v_refused v_far v_row v_stepAt v_depth v_tries v_values v_wrong v_isEnd v_found v_reached v_stepIn v_laid v_firstRow v_text v_textLong v_spot v_taken v_counted) H → va_D A (wdM cI cZ h v_all v_past v_states v_refused v_far v_row v_stepAt v_depth v_tries v_values v_wrong v_isEnd v_found v_reached v_stepIn v_laid v_firstRow v_text v_textLong v_spot v_taken v_counted) → va_S A s.heap H locs → lv_has ls 2 [(0, .ref (h 0)), (1, .int x1)] → W p l e rm9_findsAll s m args below meth c H locs 0 0 Q (F0 m 112 ls [.int s3, .int s2, .int s1, .ref (h 10)]) := by
        intro v_far v_row v_stepAt v_depth v_tries v_values v_wrong v_isEnd v_found x1 s1 s2 s3 H locs ls hf hP hD hS hl
        rw [f9_findsAll_b112] at hf
        refine lv_iadd hx hb dX9_findsAll_112 ?_
        refine kb_bind hf (fun v18 hv18 hf => ?_)
        refine ka_iast (D := D) (cl := vwCl) hx hb hK hP hD hS 10 1 (f := v_found) (g := v18) rfl rfl (awr_in hv18) (awr_v hv18) dX9_findsAll_113 (fun H locs hP hD hS => ?_)
        have hP : va_P D vwCl (wdM cI cZ h v_all v_past v_states v_refused v_far v_row v_stepAt v_depth v_tries v_values v_wrong v_isEnd v18 v_reached v_stepIn v_laid v_firstRow v_text v_textLong v_spot v_taken v_counted) H := hP
        have hD : va_D A (wdM cI cZ h v_all v_past v_states v_refused v_far v_row v_stepAt v_depth v_tries v_values v_wrong v_isEnd v18 v_reached v_stepIn v_laid v_firstRow v_text v_textLong v_spot v_taken v_counted) := hD
        refine lv_aload_n hx hb dX9_findsAll_114 rfl (lv_at hl 0 rfl) ?_
        refine va_get (D := D) (cl := vwCl) (ci := 6) (v := .ref (h 10)) (C := RX9) (T := TX9) (N := 22) hx hb hts hin9 hown hK hP 0 rfl rfl 12 (by decide) (hts (.fieldLink RX9 38 "StepOrdersModel" "found" "[I") (by decide +kernel)) (fun _ h9 => h9) rfl dX9_findsAll_115 ?_
        refine lv_iconst (v := 3) hx hb dX9_findsAll_118 (by decide) ?_
        refine lv_dup2_11 hx hb dX9_findsAll_119 rfl rfl ?_
        refine ka_iald (D := D) (cl := vwCl) hx hb hK hP 10 1 (f := v18) rfl rfl (v := (v18 3)) (show ¬ (_ ∨ _) from by decide) rfl dX9_findsAll_120 ?_
        refine lv_aload_n hx hb dX9_findsAll_121 rfl (lv_at hl 0 rfl) ?_
        refine va_get (D := D) (cl := vwCl) (ci := 6) (v := .ref (h 9)) (C := RX9) (T := TX9) (N := 22) hx hb hts hin9 hown hK hP 0 rfl rfl 11 (by decide) (hts (.fieldLink RX9 34 "StepOrdersModel" "isEnd" "[Z") (by decide +kernel)) (fun _ h9 => h9) rfl dX9_findsAll_122 ?_
        refine lv_iload_n hx hb dX9_findsAll_125 rfl (lv_at hl 1 rfl) ?_
        refine kb_bind hf (fun v19 hv19 hf => ?_)
        refine ka_zald (D := D) (cl := vwCl) hx hb hK hP 9 2 (f := v_isEnd) rfl rfl (ard_in hv19) (ard_v hv19) dX9_findsAll_126 ?_
        refine lv_if_eq (tgt := 134) hx hb dX9_findsAll_127 (by decide) (fun c20 => ?_) (fun c20 => ?_)
        · rw [if_pos c20] at hf
          refine lv_iconst (v := 1) hx hb dX9_findsAll_134 (by decide) ?_
          exact J135 v_far v_row v_stepAt v_depth v_tries v_values v_wrong v_isEnd v18 x1 (3 : Int32) (v18 3) (1 : Int32) _ _ _ hf hP hD hS (lv_sub hl [0, 1] rfl)
        · rw [if_neg c20] at hf
          refine lv_iconst (v := 0) hx hb dX9_findsAll_130 (by decide) ?_
          refine lv_goto (tgt := 135) hx hb dX9_findsAll_131 (by decide) ?_
          exact J135 v_far v_row v_stepAt v_depth v_tries v_values v_wrong v_isEnd v18 x1 (3 : Int32) (v18 3) (0 : Int32) _ _ _ hf hP hD hS (lv_sub hl [0, 1] rfl)
      have J91 : ∀ (v_far : Nat → Int32) (v_row : Nat → Int32) (v_stepAt : Nat → Int32) (v_depth : Int32) (v_tries : Nat → Int32) (v_values : Nat → Int32) (v_wrong : Int32) (v_isEnd : Nat → Int32) (v_found : Nat → Int32) (x1 : Int32) (s1 : Int32) (s2 : Int32) (s3 : Int32) (H : Heap) (locs : List Loc) (ls : Array Slot), f9_findsAll_b91 (f9_findsAll_l46 n) v_all v_far v_row v_stepAt v_depth v_tries v_values v_wrong v_isEnd v_found x1 s1 s2 s3 = some (v_far', v_row', v_stepAt', v_depth', v_tries', v_values', v_wrong', v_isEnd', v_found') → va_P D vwCl (wdM cI cZ h v_all v_past v_states v_refused v_far v_row v_stepAt v_depth v_tries v_values v_wrong v_isEnd v_found v_reached v_stepIn v_laid v_firstRow v_text v_textLong v_spot v_taken v_counted) H → va_D A (wdM cI cZ h v_all v_past v_states v_refused v_far v_row v_stepAt v_depth v_tries v_values v_wrong v_isEnd v_found v_reached v_stepIn v_laid v_firstRow v_text v_textLong v_spot v_taken v_counted) → va_S A s.heap H locs → lv_has ls 2 [(0, .ref (h 0)), (1, .int x1)] → W p l e rm9_findsAll s m args below meth c H locs 0 0 Q (F0 m 91 ls [.int s3, .int s2, .int s1, .ref (h 10)]) := by
        intro v_far v_row v_stepAt v_depth v_tries v_values v_wrong v_isEnd v_found x1 s1 s2 s3 H locs ls hf hP hD hS hl
        rw [f9_findsAll_b91] at hf
        refine lv_iadd hx hb dX9_findsAll_91 ?_
        refine kb_bind hf (fun v21 hv21 hf => ?_)
        refine ka_iast (D := D) (cl := vwCl) hx hb hK hP hD hS 10 1 (f := v_found) (g := v21) rfl rfl (awr_in hv21) (awr_v hv21) dX9_findsAll_92 (fun H locs hP hD hS => ?_)
        have hP : va_P D vwCl (wdM cI cZ h v_all v_past v_states v_refused v_far v_row v_stepAt v_depth v_tries v_values v_wrong v_isEnd v21 v_reached v_stepIn v_laid v_firstRow v_text v_textLong v_spot v_taken v_counted) H := hP
        have hD : va_D A (wdM cI cZ h v_all v_past v_states v_refused v_far v_row v_stepAt v_depth v_tries v_values v_wrong v_isEnd v21 v_reached v_stepIn v_laid v_firstRow v_text v_textLong v_spot v_taken v_counted) := hD
        refine lv_aload_n hx hb dX9_findsAll_93 rfl (lv_at hl 0 rfl) ?_
        refine va_get (D := D) (cl := vwCl) (ci := 6) (v := .ref (h 10)) (C := RX9) (T := TX9) (N := 22) hx hb hts hin9 hown hK hP 0 rfl rfl 12 (by decide) (hts (.fieldLink RX9 38 "StepOrdersModel" "found" "[I") (by decide +kernel)) (fun _ h9 => h9) rfl dX9_findsAll_94 ?_
        refine lv_iconst (v := 2) hx hb dX9_findsAll_97 (by decide) ?_
        refine lv_dup2_11 hx hb dX9_findsAll_98 rfl rfl ?_
        refine ka_iald (D := D) (cl := vwCl) hx hb hK hP 10 1 (f := v21) rfl rfl (v := (v21 2)) (show ¬ (_ ∨ _) from by decide) rfl dX9_findsAll_99 ?_
        refine lv_aload_n hx hb dX9_findsAll_100 rfl (lv_at hl 0 rfl) ?_
        refine va_get (D := D) (cl := vwCl) (ci := 6) (v := .int v_wrong) (C := RX9) (T := TX9) (N := 22) hx hb hts hin9 hown hK hP 0 rfl rfl 10 (by decide) (hts (.fieldLink RX9 140 "StepOrdersModel" "wrong" "I") (by decide +kernel)) (fun _ h9 => h9) rfl dX9_findsAll_101 ?_
        refine lv_if_le (tgt := 111) hx hb dX9_findsAll_104 (by decide) (fun c22 => ?_) (fun c22 => ?_)
        · rw [if_pos c22] at hf
          refine lv_iconst (v := 0) hx hb dX9_findsAll_111 (by decide) ?_
          exact J112 v_far v_row v_stepAt v_depth v_tries v_values v_wrong v_isEnd v21 x1 (2 : Int32) (v21 2) (0 : Int32) _ _ _ hf hP hD hS (lv_sub hl [0, 1] rfl)
        · rw [if_neg c22] at hf
          refine lv_iconst (v := 1) hx hb dX9_findsAll_107 (by decide) ?_
          refine lv_goto (tgt := 112) hx hb dX9_findsAll_108 (by decide) ?_
          exact J112 v_far v_row v_stepAt v_depth v_tries v_values v_wrong v_isEnd v21 x1 (2 : Int32) (v21 2) (1 : Int32) _ _ _ hf hP hD hS (lv_sub hl [0, 1] rfl)
      intro v_far v_row v_stepAt v_depth v_tries v_values v_wrong v_isEnd v_found H locs ls hf hP hD hS hl
      rw [f9_findsAll_l46_s] at hf
      refine lv_aload_n hx hb dX9_findsAll_46 rfl (lv_at hl 0 rfl) ?_
      refine kb_bind hf (fun q23 hq23 hf => ?_)
      have hPc : va_P D vwCl (wdM cI cZ h v_all v_past v_states v_refused v_far v_row v_stepAt v_depth v_tries v_values v_wrong v_isEnd v_found v_reached v_stepIn v_laid v_firstRow v_text v_textLong v_spot v_taken v_counted) H := hP.sub [0, 1, 2, 3, 4, 5, 6, 7, 8, 9, 10, 11, 12, 13, 14, 15, 16] rfl
      have hDc : va_D A (wdM cI cZ h v_all v_past v_states v_refused v_far v_row v_stepAt v_depth v_tries v_values v_wrong v_isEnd v_found v_reached v_stepIn v_laid v_firstRow v_text v_textLong v_spot v_taken v_counted) := hD.sub [0, 1, 2, 3, 4, 5, 6, 7, 8, 9, 10, 11, 12, 13, 14, 15, 16] (by decide) rfl
      refine kd_iW (ws' := wdM cI cZ h v_all v_past v_states v_refused q23.2.1 q23.2.2.1 q23.2.2.2.1 q23.2.2.2.2.1 q23.2.2.2.2.2 v_values v_wrong v_isEnd v_found v_reached v_stepIn v_laid v_firstRow v_text v_textLong v_spot v_taken v_counted) (va_runV (As := []) (rest := []) ⟨hx, hb, hml, hown, hts⟩ (c9_goesOn l D cB cI cZ cO h H.size v_all v_past v_states v_refused v_far v_row v_stepAt v_depth v_tries v_values v_wrong v_isEnd v_found v_reached v_stepIn v_laid v_firstRow v_text v_textLong v_spot v_taken v_counted q23.1 q23.2.1 q23.2.2.1 q23.2.2.2.1 q23.2.2.2.2.1 q23.2.2.2.2.2 hq23) (cwV 0 hts gX9_findsAll_X9_goesOn rfl rfl rfl (by decide +kernel) ⟨Nat.le_of_ble_eq_true rfl, Nat.le_of_ble_eq_true rfl⟩) ⟨kb_blind, va_recv hK hPc (ci := 6) (q0 := 0) rfl rfl, kb_pre hPc hDc hK hN⟩ rfl rfl hl.1 rfl (lv_room (Nat.le_of_ble_eq_true rfl)) dX9_findsAll_47 ⟨Nat.le_refl _, Nat.le_refl _⟩) hP hD hS hA [0, 1, 2, 3, 4, 5, 6, 7, 8, 9, 10, 11, 12, 13, 14, 15, 16] [] rfl rfl rfl rfl rfl (fun H locs hn24 hP hD hS => ?_)
      refine lv_if_eq (tgt := 147) hx hb dX9_findsAll_50 (by decide) (fun c25 => ?_) (fun c25 => ?_)
      · rw [if_pos c25] at hf
        cases hf
        exact hend _ _ _ _ hP hS dX9_findsAll_147
      · rw [if_neg c25] at hf
        refine lv_aload_n hx hb dX9_findsAll_53 rfl (lv_at hl 0 rfl) ?_
        refine kb_bind hf (fun q26 hq26 hf => ?_)
        have hPc : va_P D vwCl (wdM cI cZ h v_all v_past v_states v_refused q23.2.1 q23.2.2.1 q23.2.2.2.1 q23.2.2.2.2.1 q23.2.2.2.2.2 v_values v_wrong v_isEnd v_found v_reached v_stepIn v_laid v_firstRow v_text v_textLong v_spot v_taken v_counted) H := hP.sub [0, 1, 2, 3, 4, 5, 6, 7, 8, 9, 10, 11, 12, 13, 14, 15, 16] rfl
        have hDc : va_D A (wdM cI cZ h v_all v_past v_states v_refused q23.2.1 q23.2.2.1 q23.2.2.2.1 q23.2.2.2.2.1 q23.2.2.2.2.2 v_values v_wrong v_isEnd v_found v_reached v_stepIn v_laid v_firstRow v_text v_textLong v_spot v_taken v_counted) := hD.sub [0, 1, 2, 3, 4, 5, 6, 7, 8, 9, 10, 11, 12, 13, 14, 15, 16] (by decide) rfl
        refine kd_iW (ws' := wdM cI cZ h v_all v_past v_states v_refused q23.2.1 q23.2.2.1 q23.2.2.2.1 q23.2.2.2.2.1 q23.2.2.2.2.2 q26.2.1 q26.2.2 v_isEnd v_found v_reached v_stepIn v_laid v_firstRow v_text v_textLong v_spot v_taken v_counted) (va_runV (As := []) (rest := []) ⟨hx, hb, hml, hown, hts⟩ (c9_endOf l D cB cI cZ cO h H.size v_all v_past v_states v_refused q23.2.1 q23.2.2.1 q23.2.2.2.1 q23.2.2.2.2.1 q23.2.2.2.2.2 v_values v_wrong v_isEnd v_found v_reached v_stepIn v_laid v_firstRow v_text v_textLong v_spot v_taken v_counted q26.1 q26.2.1 q26.2.2 hq26) (cwV 0 hts gX9_findsAll_X9_endOf rfl rfl rfl (by decide +kernel) ⟨Nat.le_of_ble_eq_true rfl, Nat.le_of_ble_eq_true rfl⟩) ⟨kb_blind, va_recv hK hPc (ci := 6) (q0 := 0) rfl rfl, kb_pre hPc hDc hK hN⟩ rfl rfl hl.1 rfl (lv_room (Nat.le_of_ble_eq_true rfl)) dX9_findsAll_54 ⟨Nat.le_refl _, Nat.le_refl _⟩) hP hD hS hA [0, 1, 2, 3, 4, 5, 6, 7, 8, 9, 10, 11, 12, 13, 14, 15, 16] [] rfl rfl rfl rfl rfl (fun H locs hn27 hP hD hS => ?_)
        refine lv_istore_n (lv' := [(1, .int q26.1), (0, .ref (h 0))]) hx hb dX9_findsAll_57 rfl hl (by decide) rfl (fun ls hl => ?_)
        refine lv_aload_n hx hb dX9_findsAll_58 rfl (lv_at hl 1 rfl) ?_
        refine va_get (D := D) (cl := vwCl) (ci := 6) (v := .ref (h 10)) (C := RX9) (T := TX9) (N := 22) hx hb hts hin9 hown hK hP 0 rfl rfl 12 (by decide) (hts (.fieldLink RX9 38 "StepOrdersModel" "found" "[I") (by decide +kernel)) (fun _ h9 => h9) rfl dX9_findsAll_59 ?_
        refine lv_iconst (v := 0) hx hb dX9_findsAll_62 (by decide) ?_
        refine lv_dup2_11 hx hb dX9_findsAll_63 rfl rfl ?_
        refine ka_iald (D := D) (cl := vwCl) hx hb hK hP 10 1 (f := v_found) rfl rfl (v := (v_found 0)) (show ¬ (_ ∨ _) from by decide) rfl dX9_findsAll_64 ?_
        refine lv_iconst (v := 1) hx hb dX9_findsAll_65 (by decide) ?_
        refine lv_iadd hx hb dX9_findsAll_66 ?_
        refine ka_iast (D := D) (cl := vwCl) hx hb hK hP hD hS 10 1 (f := v_found) (g := (upd v_found 0 ((v_found 0) + (1 : Int32)))) rfl rfl (show ¬ (_ ∨ _) from by decide) rfl dX9_findsAll_67 (fun H locs hP hD hS => ?_)
        have hP : va_P D vwCl (wdM cI cZ h v_all v_past v_states v_refused q23.2.1 q23.2.2.1 q23.2.2.2.1 q23.2.2.2.2.1 q23.2.2.2.2.2 q26.2.1 q26.2.2 v_isEnd (upd v_found 0 ((v_found 0) + (1 : Int32))) v_reached v_stepIn v_laid v_firstRow v_text v_textLong v_spot v_taken v_counted) H := hP
        have hD : va_D A (wdM cI cZ h v_all v_past v_states v_refused q23.2.1 q23.2.2.1 q23.2.2.2.1 q23.2.2.2.2.1 q23.2.2.2.2.2 q26.2.1 q26.2.2 v_isEnd (upd v_found 0 ((v_found 0) + (1 : Int32))) v_reached v_stepIn v_laid v_firstRow v_text v_textLong v_spot v_taken v_counted) := hD
        refine lv_aload_n hx hb dX9_findsAll_68 rfl (lv_at hl 1 rfl) ?_
        refine va_get (D := D) (cl := vwCl) (ci := 6) (v := .ref (h 10)) (C := RX9) (T := TX9) (N := 22) hx hb hts hin9 hown hK hP 0 rfl rfl 12 (by decide) (hts (.fieldLink RX9 38 "StepOrdersModel" "found" "[I") (by decide +kernel)) (fun _ h9 => h9) rfl dX9_findsAll_69 ?_
        refine lv_iconst (v := 1) hx hb dX9_findsAll_72 (by decide) ?_
        refine lv_dup2_11 hx hb dX9_findsAll_73 rfl rfl ?_
        refine ka_iald (D := D) (cl := vwCl) hx hb hK hP 10 1 (f := (upd v_found 0 ((v_found 0) + (1 : Int32)))) rfl rfl (v := ((upd v_found 0 ((v_found 0) + (1 : Int32))) 1)) (show ¬ (_ ∨ _) from by decide) rfl dX9_findsAll_74 ?_
        refine lv_aload_n hx hb dX9_findsAll_75 rfl (lv_at hl 1 rfl) ?_
        refine va_get (D := D) (cl := vwCl) (ci := 6) (v := .int q23.2.2.2.2.1) (C := RX9) (T := TX9) (N := 22) hx hb hts hin9 hown hK hP 0 rfl rfl 7 (by decide) (hts (.fieldLink RX9 130 "StepOrdersModel" "depth" "I") (by decide +kernel)) (fun _ h9 => h9) rfl dX9_findsAll_76 ?_
        refine lv_aload_n hx hb dX9_findsAll_79 rfl (lv_at hl 1 rfl) ?_
        refine kb_bind hf (fun q28 hq28 hf => ?_)
        have hPc : va_P D vwCl (wdM cI cZ h v_all v_past v_states v_refused q23.2.1 q23.2.2.1 q23.2.2.2.1 q23.2.2.2.2.1 q23.2.2.2.2.2 q26.2.1 q26.2.2 v_isEnd (upd v_found 0 ((v_found 0) + (1 : Int32))) v_reached v_stepIn v_laid v_firstRow v_text v_textLong v_spot v_taken v_counted) H := hP.sub [0, 1, 2, 3, 4, 5, 6, 7, 8, 9, 10, 11, 12, 13, 14, 15, 16] rfl
        have hDc : va_D A (wdM cI cZ h v_all v_past v_states v_refused q23.2.1 q23.2.2.1 q23.2.2.2.1 q23.2.2.2.2.1 q23.2.2.2.2.2 q26.2.1 q26.2.2 v_isEnd (upd v_found 0 ((v_found 0) + (1 : Int32))) v_reached v_stepIn v_laid v_firstRow v_text v_textLong v_spot v_taken v_counted) := hD.sub [0, 1, 2, 3, 4, 5, 6, 7, 8, 9, 10, 11, 12, 13, 14, 15, 16] (by decide) rfl
        refine kd_iR (va_runV (As := []) (rest := [.int q23.2.2.2.2.1, .int ((upd v_found 0 ((v_found 0) + (1 : Int32))) 1), .int (1 : Int32), .ref (h 10)]) ⟨hx, hb, hml, hown, hts⟩ (c9_allSteps l D cB cI cZ cO h H.size v_all v_past v_states v_refused q23.2.1 q23.2.2.1 q23.2.2.2.1 q23.2.2.2.2.1 q23.2.2.2.2.2 q26.2.1 q26.2.2 v_isEnd (upd v_found 0 ((v_found 0) + (1 : Int32))) v_reached v_stepIn v_laid v_firstRow v_text v_textLong v_spot v_taken v_counted q28 hq28) (cwV 0 hts gX9_findsAll_X9_allSteps rfl rfl rfl (by decide +kernel) ⟨Nat.le_of_ble_eq_true rfl, Nat.le_of_ble_eq_true rfl⟩) ⟨kb_blind, va_recv hK hPc (ci := 6) (q0 := 0) rfl rfl, kb_pre hPc hDc hK hN⟩ rfl rfl hl.1 rfl (lv_room (Nat.le_of_ble_eq_true rfl)) dX9_findsAll_80 ⟨Nat.le_refl _, Nat.le_refl _⟩) hP hD hS hA [0, 1, 2, 3, 4, 5, 6, 7, 8, 9, 10, 11, 12, 13, 14, 15, 16] rfl (fun H locs hn29 hP hS => ?_)
        refine lv_icmp_ge (tgt := 90) hx hb dX9_findsAll_83 (by decide) (fun c30 => ?_) (fun c30 => ?_)
        · rw [if_pos c30] at hf
          refine lv_iconst (v := 0) hx hb dX9_findsAll_90 (by decide) ?_
          exact J91 q23.2.1 q23.2.2.1 q23.2.2.2.1 q23.2.2.2.2.1 q23.2.2.2.2.2 q26.2.1 q26.2.2 v_isEnd (upd v_found 0 ((v_found 0) + (1 : Int32))) q26.1 (1 : Int32) ((upd v_found 0 ((v_found 0) + (1 : Int32))) 1) (0 : Int32) _ _ _ hf hP hD hS (lv_sub hl [1, 0] rfl)
        · rw [if_neg c30] at hf
          refine lv_iconst (v := 1) hx hb dX9_findsAll_86 (by decide) ?_
          refine lv_goto (tgt := 91) hx hb dX9_findsAll_87 (by decide) ?_
          exact J91 q23.2.1 q23.2.2.1 q23.2.2.2.1 q23.2.2.2.2.1 q23.2.2.2.2.2 q26.2.1 q26.2.2 v_isEnd (upd v_found 0 ((v_found 0) + (1 : Int32))) q26.1 (1 : Int32) ((upd v_found 0 ((v_found 0) + (1 : Int32))) 1) (1 : Int32) _ _ _ hf hP hD hS (lv_sub hl [1, 0] rfl)
  have J42 : ∀ (v_far : Nat → Int32) (v_row : Nat → Int32) (v_stepAt : Nat → Int32) (v_depth : Int32) (v_tries : Nat → Int32) (v_values : Nat → Int32) (v_wrong : Int32) (v_isEnd : Nat → Int32) (v_found : Nat → Int32) (H : Heap) (locs : List Loc) (ls : Array Slot), f9_findsAll_b42 v_all v_far v_row v_stepAt v_depth v_tries v_values v_wrong v_isEnd v_found = some (v_far', v_row', v_stepAt', v_depth', v_tries', v_values', v_wrong', v_isEnd', v_found') → va_P D vwCl (wdM cI cZ h v_all v_past v_states v_refused v_far v_row v_stepAt v_depth v_tries v_values v_wrong v_isEnd v_found v_reached v_stepIn v_laid v_firstRow v_text v_textLong v_spot v_taken v_counted) H → va_D A (wdM cI cZ h v_all v_past v_states v_refused v_far v_row v_stepAt v_depth v_tries v_values v_wrong v_isEnd v_found v_reached v_stepIn v_laid v_firstRow v_text v_textLong v_spot v_taken v_counted) → va_S A s.heap H locs → lv_has ls 2 [(0, .ref (h 0))] → W p l e rm9_findsAll s m args below meth c H locs 0 0 Q (F0 m 42 ls []) := by
    intro v_far v_row v_stepAt v_depth v_tries v_values v_wrong v_isEnd v_found H locs ls hf hP hD hS hl
    rw [f9_findsAll_b42] at hf
    refine lv_aload_n hx hb dX9_findsAll_42 rfl (lv_at hl 0 rfl) ?_
    refine kb_bind hf (fun q32 hq32 hf => ?_)
    have hPc : va_P D vwCl (wdM cI cZ h v_all v_past v_states v_refused v_far v_row v_stepAt v_depth v_tries v_values v_wrong v_isEnd v_found v_reached v_stepIn v_laid v_firstRow v_text v_textLong v_spot v_taken v_counted) H := hP.sub [0, 1, 2, 3, 4, 5, 6, 7, 8, 9, 10, 11, 12, 13, 14, 15, 16] rfl
    have hDc : va_D A (wdM cI cZ h v_all v_past v_states v_refused v_far v_row v_stepAt v_depth v_tries v_values v_wrong v_isEnd v_found v_reached v_stepIn v_laid v_firstRow v_text v_textLong v_spot v_taken v_counted) := hD.sub [0, 1, 2, 3, 4, 5, 6, 7, 8, 9, 10, 11, 12, 13, 14, 15, 16] (by decide) rfl
    refine kd_vW (ws' := wdM cI cZ h v_all v_past v_states v_refused q32.1 v_row v_stepAt q32.2.1 q32.2.2 v_values v_wrong v_isEnd v_found v_reached v_stepIn v_laid v_firstRow v_text v_textLong v_spot v_taken v_counted) (va_runV (As := []) (rest := []) ⟨hx, hb, hml, hown, hts⟩ (c9_starts l D cB cI cZ cO h H.size v_all v_past v_states v_refused v_far v_row v_stepAt v_depth v_tries v_values v_wrong v_isEnd v_found v_reached v_stepIn v_laid v_firstRow v_text v_textLong v_spot v_taken v_counted q32.1 q32.2.1 q32.2.2 hq32) (cwV 0 hts gX9_findsAll_X9_starts rfl rfl rfl (by decide +kernel) ⟨Nat.le_of_ble_eq_true rfl, Nat.le_of_ble_eq_true rfl⟩) ⟨kb_blind, va_recv hK hPc (ci := 6) (q0 := 0) rfl rfl, kb_pre hPc hDc hK hN⟩ rfl rfl hl.1 rfl (lv_room (Nat.le_of_ble_eq_true rfl)) dX9_findsAll_43 ⟨Nat.le_refl _, Nat.le_refl _⟩) hP hD hS hA [0, 1, 2, 3, 4, 5, 6, 7, 8, 9, 10, 11, 12, 13, 14, 15, 16] [] rfl rfl rfl rfl rfl (fun H locs hP hD hS => ?_)
    exact J46 kFUEL q32.1 v_row v_stepAt q32.2.1 q32.2.2 v_values v_wrong v_isEnd v_found _ _ _ hf hP hD hS (lv_sub hl [0] rfl)
  have J24 : ∀ (n : Nat) (v_far : Nat → Int32) (v_row : Nat → Int32) (v_stepAt : Nat → Int32) (v_depth : Int32) (v_tries : Nat → Int32) (v_values : Nat → Int32) (v_wrong : Int32) (v_isEnd : Nat → Int32) (v_found : Nat → Int32) (x1 : Int32) (H : Heap) (locs : List Loc) (ls : Array Slot), f9_findsAll_l24 n v_all v_far v_row v_stepAt v_depth v_tries v_values v_wrong v_isEnd v_found x1 = some (v_far', v_row', v_stepAt', v_depth', v_tries', v_values', v_wrong', v_isEnd', v_found') → va_P D vwCl (wdM cI cZ h v_all v_past v_states v_refused v_far v_row v_stepAt v_depth v_tries v_values v_wrong v_isEnd v_found v_reached v_stepIn v_laid v_firstRow v_text v_textLong v_spot v_taken v_counted) H → va_D A (wdM cI cZ h v_all v_past v_states v_refused v_far v_row v_stepAt v_depth v_tries v_values v_wrong v_isEnd v_found v_reached v_stepIn v_laid v_firstRow v_text v_textLong v_spot v_taken v_counted) → va_S A s.heap H locs → lv_has ls 2 [(0, .ref (h 0)), (1, .int x1)] → W p l e rm9_findsAll s m args below meth c H locs 0 0 Q (F0 m 24 ls []) := by
    intro n
    induction n with
    | zero =>
      intro v_far v_row v_stepAt v_depth v_tries v_values v_wrong v_isEnd v_found x1 H locs ls hf
      cases (show (none : Option ((Nat → Int32) × (Nat → Int32) × (Nat → Int32) × Int32 × (Nat → Int32) × (Nat → Int32) × Int32 × (Nat → Int32) × (Nat → Int32))) = some (v_far', v_row', v_stepAt', v_depth', v_tries', v_values', v_wrong', v_isEnd', v_found') from hf)
    | succ n ih =>
      intro v_far v_row v_stepAt v_depth v_tries v_values v_wrong v_isEnd v_found x1 H locs ls hf hP hD hS hl
      rw [f9_findsAll_l24_s] at hf
      refine lv_iload_n hx hb dX9_findsAll_24 rfl (lv_at hl 1 rfl) ?_
      refine lv_iconst (v := 4) hx hb dX9_findsAll_25 (by decide) ?_
      refine lv_icmp_ge (tgt := 42) hx hb dX9_findsAll_26 (by decide) (fun c35 => ?_) (fun c35 => ?_)
      · rw [if_pos c35] at hf
        exact J42 v_far v_row v_stepAt v_depth v_tries v_values v_wrong v_isEnd v_found _ _ _ hf hP hD hS (lv_sub hl [0] rfl)
      · rw [if_neg c35] at hf
        refine lv_aload_n hx hb dX9_findsAll_29 rfl (lv_at hl 0 rfl) ?_
        refine va_get (D := D) (cl := vwCl) (ci := 6) (v := .ref (h 10)) (C := RX9) (T := TX9) (N := 22) hx hb hts hin9 hown hK hP 0 rfl rfl 12 (by decide) (hts (.fieldLink RX9 38 "StepOrdersModel" "found" "[I") (by decide +kernel)) (fun _ h9 => h9) rfl dX9_findsAll_30 ?_
        refine lv_iload_n hx hb dX9_findsAll_33 rfl (lv_at hl 1 rfl) ?_
        refine lv_iconst (v := 0) hx hb dX9_findsAll_34 (by decide) ?_
        refine kb_bind hf (fun v36 hv36 hf => ?_)
        refine ka_iast (D := D) (cl := vwCl) hx hb hK hP hD hS 10 1 (f := v_found) (g := v36) rfl rfl (awr_in hv36) (awr_v hv36) dX9_findsAll_35 (fun H locs hP hD hS => ?_)
        have hP : va_P D vwCl (wdM cI cZ h v_all v_past v_states v_refused v_far v_row v_stepAt v_depth v_tries v_values v_wrong v_isEnd v36 v_reached v_stepIn v_laid v_firstRow v_text v_textLong v_spot v_taken v_counted) H := hP
        have hD : va_D A (wdM cI cZ h v_all v_past v_states v_refused v_far v_row v_stepAt v_depth v_tries v_values v_wrong v_isEnd v36 v_reached v_stepIn v_laid v_firstRow v_text v_textLong v_spot v_taken v_counted) := hD
        refine lv_iinc (v := (x1 + 1)) (lv' := [(1, .int (x1 + 1)), (0, .ref (h 0))]) hx hb dX9_findsAll_36 hl (k := 1) rfl rfl (by decide) rfl (fun ls hl => ?_)
        refine lv_goto (tgt := 24) hx hb dX9_findsAll_39 (by decide) ?_
        exact ih v_far v_row v_stepAt v_depth v_tries v_values v_wrong v_isEnd v36 (x1 + 1) _ _ _ hf hP hD hS (lv_sub hl [1, 0] rfl)
  have J22 : ∀ (v_far : Nat → Int32) (v_row : Nat → Int32) (v_stepAt : Nat → Int32) (v_depth : Int32) (v_tries : Nat → Int32) (v_values : Nat → Int32) (v_wrong : Int32) (v_isEnd : Nat → Int32) (v_found : Nat → Int32) (H : Heap) (locs : List Loc) (ls : Array Slot), f9_findsAll_b22 v_all v_far v_row v_stepAt v_depth v_tries v_values v_wrong v_isEnd v_found = some (v_far', v_row', v_stepAt', v_depth', v_tries', v_values', v_wrong', v_isEnd', v_found') → va_P D vwCl (wdM cI cZ h v_all v_past v_states v_refused v_far v_row v_stepAt v_depth v_tries v_values v_wrong v_isEnd v_found v_reached v_stepIn v_laid v_firstRow v_text v_textLong v_spot v_taken v_counted) H → va_D A (wdM cI cZ h v_all v_past v_states v_refused v_far v_row v_stepAt v_depth v_tries v_values v_wrong v_isEnd v_found v_reached v_stepIn v_laid v_firstRow v_text v_textLong v_spot v_taken v_counted) → va_S A s.heap H locs → lv_has ls 2 [(0, .ref (h 0))] → W p l e rm9_findsAll s m args below meth c H locs 0 0 Q (F0 m 22 ls []) := by
    intro v_far v_row v_stepAt v_depth v_tries v_values v_wrong v_isEnd v_found H locs ls hf hP hD hS hl
    rw [f9_findsAll_b22] at hf
    refine lv_iconst (v := 0) hx hb dX9_findsAll_22 (by decide) ?_
    refine lv_istore_n (lv' := [(1, .int (0 : Int32)), (0, .ref (h 0))]) hx hb dX9_findsAll_23 rfl hl (by decide) rfl (fun ls hl => ?_)
    exact J24 kFUEL v_far v_row v_stepAt v_depth v_tries v_values v_wrong v_isEnd v_found (0 : Int32) _ _ _ hf hP hD hS (lv_sub hl [1, 0] rfl)
  have J2 : ∀ (n : Nat) (v_far : Nat → Int32) (v_row : Nat → Int32) (v_stepAt : Nat → Int32) (v_depth : Int32) (v_tries : Nat → Int32) (v_values : Nat → Int32) (v_wrong : Int32) (v_isEnd : Nat → Int32) (v_found : Nat → Int32) (x1 : Int32) (H : Heap) (locs : List Loc) (ls : Array Slot), f9_findsAll_l2 n v_all v_far v_row v_stepAt v_depth v_tries v_values v_wrong v_isEnd v_found x1 = some (v_far', v_row', v_stepAt', v_depth', v_tries', v_values', v_wrong', v_isEnd', v_found') → va_P D vwCl (wdM cI cZ h v_all v_past v_states v_refused v_far v_row v_stepAt v_depth v_tries v_values v_wrong v_isEnd v_found v_reached v_stepIn v_laid v_firstRow v_text v_textLong v_spot v_taken v_counted) H → va_D A (wdM cI cZ h v_all v_past v_states v_refused v_far v_row v_stepAt v_depth v_tries v_values v_wrong v_isEnd v_found v_reached v_stepIn v_laid v_firstRow v_text v_textLong v_spot v_taken v_counted) → va_S A s.heap H locs → lv_has ls 2 [(0, .ref (h 0)), (1, .int x1)] → W p l e rm9_findsAll s m args below meth c H locs 0 0 Q (F0 m 2 ls []) := by
    intro n
    induction n with
    | zero =>
      intro v_far v_row v_stepAt v_depth v_tries v_values v_wrong v_isEnd v_found x1 H locs ls hf
      cases (show (none : Option ((Nat → Int32) × (Nat → Int32) × (Nat → Int32) × Int32 × (Nat → Int32) × (Nat → Int32) × Int32 × (Nat → Int32) × (Nat → Int32))) = some (v_far', v_row', v_stepAt', v_depth', v_tries', v_values', v_wrong', v_isEnd', v_found') from hf)
    | succ n ih =>
      intro v_far v_row v_stepAt v_depth v_tries v_values v_wrong v_isEnd v_found x1 H locs ls hf hP hD hS hl
      rw [f9_findsAll_l2_s] at hf
      refine lv_iload_n hx hb dX9_findsAll_2 rfl (lv_at hl 1 rfl) ?_
      refine lv_sipush (v := 10000) hx hb dX9_findsAll_3 (by decide) ?_
      refine lv_icmp_ge (tgt := 22) hx hb dX9_findsAll_6 (by decide) (fun c39 => ?_) (fun c39 => ?_)
      · rw [if_pos c39] at hf
        exact J22 v_far v_row v_stepAt v_depth v_tries v_values v_wrong v_isEnd v_found _ _ _ hf hP hD hS (lv_sub hl [0] rfl)
      · rw [if_neg c39] at hf
        refine lv_aload_n hx hb dX9_findsAll_9 rfl (lv_at hl 0 rfl) ?_
        refine va_get (D := D) (cl := vwCl) (ci := 6) (v := .ref (h 9)) (C := RX9) (T := TX9) (N := 22) hx hb hts hin9 hown hK hP 0 rfl rfl 11 (by decide) (hts (.fieldLink RX9 34 "StepOrdersModel" "isEnd" "[Z") (by decide +kernel)) (fun _ h9 => h9) rfl dX9_findsAll_10 ?_
        refine lv_iload_n hx hb dX9_findsAll_13 rfl (lv_at hl 1 rfl) ?_
        refine lv_iconst (v := 0) hx hb dX9_findsAll_14 (by decide) ?_
        refine kb_bind hf (fun v40 hv40 hf => ?_)
        refine ka_zast (D := D) (cl := vwCl) hx hb hK hP hD hS 9 2 (f := v_isEnd) (g := v40) rfl rfl (awr_in hv40) (awr_v hv40) dX9_findsAll_15 (fun H locs hP hD hS => ?_)
        have hP : va_P D vwCl (wdM cI cZ h v_all v_past v_states v_refused v_far v_row v_stepAt v_depth v_tries v_values v_wrong v40 v_found v_reached v_stepIn v_laid v_firstRow v_text v_textLong v_spot v_taken v_counted) H := hP
        have hD : va_D A (wdM cI cZ h v_all v_past v_states v_refused v_far v_row v_stepAt v_depth v_tries v_values v_wrong v40 v_found v_reached v_stepIn v_laid v_firstRow v_text v_textLong v_spot v_taken v_counted) := hD
        refine lv_iinc (v := (x1 + 1)) (lv' := [(1, .int (x1 + 1)), (0, .ref (h 0))]) hx hb dX9_findsAll_16 hl (k := 1) rfl rfl (by decide) rfl (fun ls hl => ?_)
        refine lv_goto (tgt := 2) hx hb dX9_findsAll_19 (by decide) ?_
        exact ih v_far v_row v_stepAt v_depth v_tries v_values v_wrong v40 v_found (x1 + 1) _ _ _ hf hP hD hS (lv_sub hl [1, 0] rfl)
  rw [f9_findsAll] at hf
  refine lv_iconst (v := 0) hx hb dX9_findsAll_0 (by decide) ?_
  refine lv_istore_n (lv' := [(1, .int (0 : Int32)), (0, .ref (h 0))]) hx hb dX9_findsAll_1 rfl hl (by decide) rfl (fun ls hl => ?_)
  exact J2 kFUEL v_far v_row v_stepAt v_depth v_tries v_values v_wrong v_isEnd v_found (0 : Int32) _ _ _ hf hP hD hS (lv_sub hl [1, 0] rfl)

set_option maxHeartbeats 4000000 in
set_option maxRecDepth 100000 in
theorem c9_orders (l : Launch) (D : va_G) (cB cI cZ cO : ClassId) (h : Nat → Nat) (sz : Nat) (x1 : Int32) (v_all : Nat → Int32) (v_past : Nat → Int32) (v_states : Int32) (v_refused : Nat → Int32) (v_far : Nat → Int32) (v_row : Nat → Int32) (v_stepAt : Nat → Int32) (v_depth : Int32) (v_tries : Nat → Int32) (v_values : Nat → Int32) (v_wrong : Int32) (v_isEnd : Nat → Int32) (v_found : Nat → Int32) (v_reached : Nat → Int32) (v_stepIn : Nat → Int32) (v_laid : Nat → Int32) (v_firstRow : Nat → Int32) (v_text : Nat → Int32) (v_textLong : Int32) (v_spot : Int32) (v_taken : Int32) (v_counted : Nat → Int32) (r0 : Int32) (v_refused' : Nat → Int32) (v_far' : Nat → Int32) (v_row' : Nat → Int32) (v_stepAt' : Nat → Int32) (v_depth' : Int32) (v_tries' : Nat → Int32) (v_values' : Nat → Int32) (v_wrong' : Int32) (v_isEnd' : Nat → Int32) (v_found' : Nat → Int32) (hf : f9_orders v_all v_refused v_far v_row v_stepAt v_depth v_tries v_values v_wrong v_isEnd v_found x1 = some (r0, v_refused', v_far', v_row', v_stepAt', v_depth', v_tries', v_values', v_wrong', v_isEnd', v_found')) : Met l yX9_orders wsX9_orders rm9_orders (va_Pc [.ref (h 0), .int x1] (kb_B D (ka_tys cB cI cZ cO) sz (wdM cI cZ h v_all v_past v_states v_refused v_far v_row v_stepAt v_depth v_tries v_values v_wrong v_isEnd v_found v_reached v_stepIn v_laid v_firstRow v_text v_textLong v_spot v_taken v_counted))) (va_Qi (kb_post .int r0) (fun _ t => va_P D vwCl (wdM cI cZ h v_all v_past v_states (v_refused') (v_far') (v_row') (v_stepAt') (v_depth') (v_tries') (v_values') (v_wrong') (v_isEnd') (v_found') v_reached v_stepIn v_laid v_firstRow v_text v_textLong v_spot v_taken v_counted) t.heap) (va_A (wdM cI cZ h v_all v_past v_states v_refused v_far v_row v_stepAt v_depth v_tries v_values v_wrong v_isEnd v_found v_reached v_stepIn v_laid v_firstRow v_text v_textLong v_spot v_taken v_counted) sz)) 0 0 (va_A (wdM cI cZ h v_all v_past v_states v_refused v_far v_row v_stepAt v_depth v_tries v_values v_wrong v_isEnd v_found v_reached v_stepIn v_laid v_firstRow v_text v_textLong v_spot v_taken v_counted) sz) := by
  refine kb_metZ (cc := cX9_orders) (maxL := 2) (ty := .int) (by decide) rfl (Nat.le_of_ble_eq_true rfl) ?_
  intro p e s m args below meth c Q A ls H hx hb hml hown hts hK hN hP hD hS hA hl hend
  have hown : s.vm.findClass RX9 = some m.cls := hown
  have hl : lv_has ls 2 [(0, .ref (h 0)), (1, .int x1)] := hl
  have hin9 : ∀ w ∈ u_ws RX9 TX9 22, w ∈ wsX9_orders := by decide +kernel
  rw [f9_orders] at hf
  refine lv_iload_n hx hb dX9_orders_0 rfl (lv_at hl 1 rfl) ?_
  refine lv_i2l (v := x1.toInt64) hx hb dX9_orders_1 rfl ?_
  refine lv_lconst (v := 0) hx hb dX9_orders_2 (by decide) ?_
  refine lv_ldc2 (v := 3) hx hb hown (hts (.constantLong RX9 69 (3)) (by decide +kernel)) dX9_orders_3 ?_
  have hPc : va_P D vwCl ([]) H := hP.sub [] rfl
  have hDc : va_D A ([]) := hD.sub [] (by decide) rfl
  refine kd_iR (va_runS (As := [.long x1.toInt64, .long (0 : Int64), .long (3 : Int64)]) (rest := []) ⟨hx, hb, hml, hown, hts⟩ (c9_in l D cB cI cZ cO h H.size x1.toInt64 (0 : Int64) (3 : Int64) (f9_in x1.toInt64 (0 : Int64) (3 : Int64)) rfl) (va_cwS 3 hts gX9_orders_X9_in rfl rfl rfl (by decide +kernel) ⟨Nat.le_of_ble_eq_true rfl, Nat.le_of_ble_eq_true rfl⟩) ⟨kb_blind, kb_pre hPc hDc hK hN⟩ rfl rfl hl.1 rfl (lv_room (Nat.le_of_ble_eq_true rfl)) dX9_orders_6 ⟨Nat.le_refl _, Nat.le_refl _⟩) hP hD hS hA [] rfl (fun H locs hn1 hP hS => ?_)
  refine lv_if_ne (tgt := 19) hx hb dX9_orders_9 (by decide) (fun c2 => ?_) (fun c2 => ?_)
  · rw [if_neg c2] at hf
    refine lv_aload_n hx hb dX9_orders_19 rfl (lv_at hl 0 rfl) ?_
    refine kb_bind hf (fun q3 hq3 hf => ?_)
    have hPc : va_P D vwCl (wdM cI cZ h v_all v_past v_states v_refused v_far v_row v_stepAt v_depth v_tries v_values v_wrong v_isEnd v_found v_reached v_stepIn v_laid v_firstRow v_text v_textLong v_spot v_taken v_counted) H := hP.sub [0, 1, 2, 3, 4, 5, 6, 7, 8, 9, 10, 11, 12, 13, 14, 15, 16] rfl
    have hDc : va_D A (wdM cI cZ h v_all v_past v_states v_refused v_far v_row v_stepAt v_depth v_tries v_values v_wrong v_isEnd v_found v_reached v_stepIn v_laid v_firstRow v_text v_textLong v_spot v_taken v_counted) := hD.sub [0, 1, 2, 3, 4, 5, 6, 7, 8, 9, 10, 11, 12, 13, 14, 15, 16] (by decide) rfl
    refine kd_vW (ws' := wdM cI cZ h v_all v_past v_states v_refused q3.1 q3.2.1 q3.2.2.1 q3.2.2.2.1 q3.2.2.2.2.1 q3.2.2.2.2.2.1 q3.2.2.2.2.2.2.1 q3.2.2.2.2.2.2.2.1 q3.2.2.2.2.2.2.2.2 v_reached v_stepIn v_laid v_firstRow v_text v_textLong v_spot v_taken v_counted) (va_runV (As := []) (rest := []) ⟨hx, hb, hml, hown, hts⟩ (c9_findsAll l D cB cI cZ cO h H.size v_all v_past v_states v_refused v_far v_row v_stepAt v_depth v_tries v_values v_wrong v_isEnd v_found v_reached v_stepIn v_laid v_firstRow v_text v_textLong v_spot v_taken v_counted q3.1 q3.2.1 q3.2.2.1 q3.2.2.2.1 q3.2.2.2.2.1 q3.2.2.2.2.2.1 q3.2.2.2.2.2.2.1 q3.2.2.2.2.2.2.2.1 q3.2.2.2.2.2.2.2.2 hq3) (cwV 0 hts gX9_orders_X9_findsAll rfl rfl rfl (by decide +kernel) ⟨Nat.le_of_ble_eq_true rfl, Nat.le_of_ble_eq_true rfl⟩) ⟨kb_blind, va_recv hK hPc (ci := 6) (q0 := 0) rfl rfl, kb_pre hPc hDc hK hN⟩ rfl rfl hl.1 rfl (lv_room (Nat.le_of_ble_eq_true rfl)) dX9_orders_20 ⟨Nat.le_refl _, Nat.le_refl _⟩) hP hD hS hA [0, 1, 2, 3, 4, 5, 6, 7, 8, 9, 10, 11, 12, 13, 14, 15, 16] [] rfl rfl rfl rfl rfl (fun H locs hP hD hS => ?_)
    refine lv_aload_n hx hb dX9_orders_23 rfl (lv_at hl 0 rfl) ?_
    refine va_get (D := D) (cl := vwCl) (ci := 6) (v := .ref (h 10)) (C := RX9) (T := TX9) (N := 22) hx hb hts hin9 hown hK hP 0 rfl rfl 12 (by decide) (hts (.fieldLink RX9 38 "StepOrdersModel" "found" "[I") (by decide +kernel)) (fun _ h9 => h9) rfl dX9_orders_24 ?_
    refine lv_iload_n hx hb dX9_orders_27 rfl (lv_at hl 1 rfl) ?_
    refine kb_bind hf (fun v4 hv4 hf => ?_)
    refine ka_iald (D := D) (cl := vwCl) hx hb hK hP 10 1 (f := q3.2.2.2.2.2.2.2.2) rfl rfl (ard_in hv4) (ard_v hv4) dX9_orders_28 ?_
    cases hf
    exact hend _ _ _ _ rfl hP hS dX9_orders_29
  · rw [if_pos c2] at hf
    refine lv_aload_n hx hb dX9_orders_12 rfl (lv_at hl 0 rfl) ?_
    refine lv_bipush (v := (-2)) hx hb dX9_orders_13 (by decide) ?_
    refine kb_bind hf (fun q5 hq5 hf => ?_)
    have hPc : va_P D vwCl (wdM cI cZ h v_all v_past v_states v_refused v_far v_row v_stepAt v_depth v_tries v_values v_wrong v_isEnd v_found v_reached v_stepIn v_laid v_firstRow v_text v_textLong v_spot v_taken v_counted) H := hP.sub [0, 1, 2, 3, 4, 5, 6, 7, 8, 9, 10, 11, 12, 13, 14, 15, 16] rfl
    have hDc : va_D A (wdM cI cZ h v_all v_past v_states v_refused v_far v_row v_stepAt v_depth v_tries v_values v_wrong v_isEnd v_found v_reached v_stepIn v_laid v_firstRow v_text v_textLong v_spot v_taken v_counted) := hD.sub [0, 1, 2, 3, 4, 5, 6, 7, 8, 9, 10, 11, 12, 13, 14, 15, 16] (by decide) rfl
    refine kd_iW (ws' := wdM cI cZ h v_all v_past v_states q5.2 v_far v_row v_stepAt v_depth v_tries v_values v_wrong v_isEnd v_found v_reached v_stepIn v_laid v_firstRow v_text v_textLong v_spot v_taken v_counted) (va_runV (As := [.int (-2 : Int32)]) (rest := []) ⟨hx, hb, hml, hown, hts⟩ (c9_refuses l D cB cI cZ cO h H.size (-2 : Int32) v_all v_past v_states v_refused v_far v_row v_stepAt v_depth v_tries v_values v_wrong v_isEnd v_found v_reached v_stepIn v_laid v_firstRow v_text v_textLong v_spot v_taken v_counted q5.1 q5.2 hq5) (cwV 1 hts gX9_orders_X9_refuses rfl rfl rfl (by decide +kernel) ⟨Nat.le_of_ble_eq_true rfl, Nat.le_of_ble_eq_true rfl⟩) ⟨kb_blind, va_recv hK hPc (ci := 6) (q0 := 0) rfl rfl, kb_pre hPc hDc hK hN⟩ rfl rfl hl.1 rfl (lv_room (Nat.le_of_ble_eq_true rfl)) dX9_orders_15 ⟨Nat.le_refl _, Nat.le_refl _⟩) hP hD hS hA [0, 1, 2, 3, 4, 5, 6, 7, 8, 9, 10, 11, 12, 13, 14, 15, 16] [] rfl rfl rfl rfl rfl (fun H locs hn6 hP hD hS => ?_)
    cases hf
    exact hend _ _ _ _ rfl hP hS dX9_orders_18

set_option maxHeartbeats 4000000 in
set_option maxRecDepth 100000 in
theorem c9_findsSort (l : Launch) (D : va_G) (cB cI cZ cO : ClassId) (h : Nat → Nat) (sz : Nat) (x1 : Int32) (v_all : Nat → Int32) (v_past : Nat → Int32) (v_states : Int32) (v_refused : Nat → Int32) (v_far : Nat → Int32) (v_row : Nat → Int32) (v_stepAt : Nat → Int32) (v_depth : Int32) (v_tries : Nat → Int32) (v_values : Nat → Int32) (v_wrong : Int32) (v_isEnd : Nat → Int32) (v_found : Nat → Int32) (v_reached : Nat → Int32) (v_stepIn : Nat → Int32) (v_laid : Nat → Int32) (v_firstRow : Nat → Int32) (v_text : Nat → Int32) (v_textLong : Int32) (v_spot : Int32) (v_taken : Int32) (v_counted : Nat → Int32) (r0 : Int32) (v_far' : Nat → Int32) (v_row' : Nat → Int32) (v_stepAt' : Nat → Int32) (v_depth' : Int32) (v_tries' : Nat → Int32) (hf : f9_findsSort v_all v_far v_row v_stepAt v_depth v_tries x1 = some (r0, v_far', v_row', v_stepAt', v_depth', v_tries')) : Met l yX9_findsSort wsX9_findsSort rm9_findsSort (va_Pc [.ref (h 0), .int x1] (kb_B D (ka_tys cB cI cZ cO) sz (wdM cI cZ h v_all v_past v_states v_refused v_far v_row v_stepAt v_depth v_tries v_values v_wrong v_isEnd v_found v_reached v_stepIn v_laid v_firstRow v_text v_textLong v_spot v_taken v_counted))) (va_Qi (kb_post .boolean r0) (fun _ t => va_P D vwCl (wdM cI cZ h v_all v_past v_states v_refused (v_far') (v_row') (v_stepAt') (v_depth') (v_tries') v_values v_wrong v_isEnd v_found v_reached v_stepIn v_laid v_firstRow v_text v_textLong v_spot v_taken v_counted) t.heap) (va_A (wdM cI cZ h v_all v_past v_states v_refused v_far v_row v_stepAt v_depth v_tries v_values v_wrong v_isEnd v_found v_reached v_stepIn v_laid v_firstRow v_text v_textLong v_spot v_taken v_counted) sz)) 0 0 (va_A (wdM cI cZ h v_all v_past v_states v_refused v_far v_row v_stepAt v_depth v_tries v_values v_wrong v_isEnd v_found v_reached v_stepIn v_laid v_firstRow v_text v_textLong v_spot v_taken v_counted) sz) := by
  refine kb_metZ (cc := cX9_findsSort) (maxL := 3) (ty := .boolean) (by decide) rfl (Nat.le_of_ble_eq_true rfl) ?_
  intro p e s m args below meth c Q A ls H hx hb hml hown hts hK hN hP hD hS hA hl hend
  have hown : s.vm.findClass RX9 = some m.cls := hown
  have hl : lv_has ls 3 [(0, .ref (h 0)), (1, .int x1)] := hl
  have J6 : ∀ (n : Nat) (v_far : Nat → Int32) (v_row : Nat → Int32) (v_stepAt : Nat → Int32) (v_depth : Int32) (v_tries : Nat → Int32) (x1 : Int32) (x2 : Int32) (H : Heap) (locs : List Loc) (ls : Array Slot), f9_findsSort_l6 n v_all v_far v_row v_stepAt v_depth v_tries x1 x2 = some (r0, v_far', v_row', v_stepAt', v_depth', v_tries') → va_P D vwCl (wdM cI cZ h v_all v_past v_states v_refused v_far v_row v_stepAt v_depth v_tries v_values v_wrong v_isEnd v_found v_reached v_stepIn v_laid v_firstRow v_text v_textLong v_spot v_taken v_counted) H → va_D A (wdM cI cZ h v_all v_past v_states v_refused v_far v_row v_stepAt v_depth v_tries v_values v_wrong v_isEnd v_found v_reached v_stepIn v_laid v_firstRow v_text v_textLong v_spot v_taken v_counted) → va_S A s.heap H locs → lv_has ls 3 [(0, .ref (h 0)), (1, .int x1), (2, .int x2)] → W p l e rm9_findsSort s m args below meth c H locs 0 0 Q (F0 m 6 ls []) := by
    intro n
    induction n with
    | zero =>
      intro v_far v_row v_stepAt v_depth v_tries x1 x2 H locs ls hf
      cases (show (none : Option (Int32 × (Nat → Int32) × (Nat → Int32) × (Nat → Int32) × Int32 × (Nat → Int32))) = some (r0, v_far', v_row', v_stepAt', v_depth', v_tries') from hf)
    | succ n ih =>
      intro v_far v_row v_stepAt v_depth v_tries x1 x2 H locs ls hf hP hD hS hl
      rw [f9_findsSort_l6_s] at hf
      refine lv_aload_n hx hb dX9_findsSort_6 rfl (lv_at hl 0 rfl) ?_
      refine kb_bind hf (fun q5 hq5 hf => ?_)
      have hPc : va_P D vwCl (wdM cI cZ h v_all v_past v_states v_refused v_far v_row v_stepAt v_depth v_tries v_values v_wrong v_isEnd v_found v_reached v_stepIn v_laid v_firstRow v_text v_textLong v_spot v_taken v_counted) H := hP.sub [0, 1, 2, 3, 4, 5, 6, 7, 8, 9, 10, 11, 12, 13, 14, 15, 16] rfl
      have hDc : va_D A (wdM cI cZ h v_all v_past v_states v_refused v_far v_row v_stepAt v_depth v_tries v_values v_wrong v_isEnd v_found v_reached v_stepIn v_laid v_firstRow v_text v_textLong v_spot v_taken v_counted) := hD.sub [0, 1, 2, 3, 4, 5, 6, 7, 8, 9, 10, 11, 12, 13, 14, 15, 16] (by decide) rfl
      refine kd_iW (ws' := wdM cI cZ h v_all v_past v_states v_refused q5.2.1 q5.2.2.1 q5.2.2.2.1 q5.2.2.2.2.1 q5.2.2.2.2.2 v_values v_wrong v_isEnd v_found v_reached v_stepIn v_laid v_firstRow v_text v_textLong v_spot v_taken v_counted) (va_runV (As := []) (rest := []) ⟨hx, hb, hml, hown, hts⟩ (c9_goesOn l D cB cI cZ cO h H.size v_all v_past v_states v_refused v_far v_row v_stepAt v_depth v_tries v_values v_wrong v_isEnd v_found v_reached v_stepIn v_laid v_firstRow v_text v_textLong v_spot v_taken v_counted q5.1 q5.2.1 q5.2.2.1 q5.2.2.2.1 q5.2.2.2.2.1 q5.2.2.2.2.2 hq5) (cwV 0 hts gX9_findsSort_X9_goesOn rfl rfl rfl (by decide +kernel) ⟨Nat.le_of_ble_eq_true rfl, Nat.le_of_ble_eq_true rfl⟩) ⟨kb_blind, va_recv hK hPc (ci := 6) (q0 := 0) rfl rfl, kb_pre hPc hDc hK hN⟩ rfl rfl hl.1 rfl (lv_room (Nat.le_of_ble_eq_true rfl)) dX9_findsSort_7 ⟨Nat.le_refl _, Nat.le_refl _⟩) hP hD hS hA [0, 1, 2, 3, 4, 5, 6, 7, 8, 9, 10, 11, 12, 13, 14, 15, 16] [] rfl rfl rfl rfl rfl (fun H locs hn6 hP hD hS => ?_)
      refine lv_if_eq (tgt := 26) hx hb dX9_findsSort_10 (by decide) (fun c7 => ?_) (fun c7 => ?_)
      · rw [if_pos c7] at hf
        refine lv_iconst (v := 0) hx hb dX9_findsSort_26 (by decide) ?_
        cases hf
        exact hend _ _ _ _ rfl hP hS dX9_findsSort_27
      · rw [if_neg c7] at hf
        refine lv_iload_n hx hb dX9_findsSort_13 rfl (lv_at hl 2 rfl) ?_
        refine lv_iload_n hx hb dX9_findsSort_14 rfl (lv_at hl 1 rfl) ?_
        refine lv_icmp_ne (tgt := 20) hx hb dX9_findsSort_15 (by decide) (fun c8 => ?_) (fun c8 => ?_)
        · rw [if_neg c8] at hf
          refine lv_iinc (v := (x2 + 1)) (lv' := [(2, .int (x2 + 1)), (0, .ref (h 0)), (1, .int x1)]) hx hb dX9_findsSort_20 hl (k := 2) rfl rfl (by decide) rfl (fun ls hl => ?_)
          refine lv_goto (tgt := 6) hx hb dX9_findsSort_23 (by decide) ?_
          exact ih q5.2.1 q5.2.2.1 q5.2.2.2.1 q5.2.2.2.2.1 q5.2.2.2.2.2 x1 (x2 + 1) _ _ _ hf hP hD hS (lv_sub hl [1, 2, 0] rfl)
        · rw [if_pos c8] at hf
          refine lv_iconst (v := 1) hx hb dX9_findsSort_18 (by decide) ?_
          cases hf
          exact hend _ _ _ _ rfl hP hS dX9_findsSort_19
  rw [f9_findsSort] at hf
  refine lv_aload_n hx hb dX9_findsSort_0 rfl (lv_at hl 0 rfl) ?_
  refine kb_bind hf (fun q9 hq9 hf => ?_)
  have hPc : va_P D vwCl (wdM cI cZ h v_all v_past v_states v_refused v_far v_row v_stepAt v_depth v_tries v_values v_wrong v_isEnd v_found v_reached v_stepIn v_laid v_firstRow v_text v_textLong v_spot v_taken v_counted) H := hP.sub [0, 1, 2, 3, 4, 5, 6, 7, 8, 9, 10, 11, 12, 13, 14, 15, 16] rfl
  have hDc : va_D A (wdM cI cZ h v_all v_past v_states v_refused v_far v_row v_stepAt v_depth v_tries v_values v_wrong v_isEnd v_found v_reached v_stepIn v_laid v_firstRow v_text v_textLong v_spot v_taken v_counted) := hD.sub [0, 1, 2, 3, 4, 5, 6, 7, 8, 9, 10, 11, 12, 13, 14, 15, 16] (by decide) rfl
  refine kd_vW (ws' := wdM cI cZ h v_all v_past v_states v_refused q9.1 v_row v_stepAt q9.2.1 q9.2.2 v_values v_wrong v_isEnd v_found v_reached v_stepIn v_laid v_firstRow v_text v_textLong v_spot v_taken v_counted) (va_runV (As := []) (rest := []) ⟨hx, hb, hml, hown, hts⟩ (c9_starts l D cB cI cZ cO h H.size v_all v_past v_states v_refused v_far v_row v_stepAt v_depth v_tries v_values v_wrong v_isEnd v_found v_reached v_stepIn v_laid v_firstRow v_text v_textLong v_spot v_taken v_counted q9.1 q9.2.1 q9.2.2 hq9) (cwV 0 hts gX9_findsSort_X9_starts rfl rfl rfl (by decide +kernel) ⟨Nat.le_of_ble_eq_true rfl, Nat.le_of_ble_eq_true rfl⟩) ⟨kb_blind, va_recv hK hPc (ci := 6) (q0 := 0) rfl rfl, kb_pre hPc hDc hK hN⟩ rfl rfl hl.1 rfl (lv_room (Nat.le_of_ble_eq_true rfl)) dX9_findsSort_1 ⟨Nat.le_refl _, Nat.le_refl _⟩) hP hD hS hA [0, 1, 2, 3, 4, 5, 6, 7, 8, 9, 10, 11, 12, 13, 14, 15, 16] [] rfl rfl rfl rfl rfl (fun H locs hP hD hS => ?_)
  refine lv_iconst (v := 0) hx hb dX9_findsSort_4 (by decide) ?_
  refine lv_istore_n (lv' := [(2, .int (0 : Int32)), (0, .ref (h 0)), (1, .int x1)]) hx hb dX9_findsSort_5 rfl hl (by decide) rfl (fun ls hl => ?_)
  exact J6 kFUEL q9.1 v_row v_stepAt q9.2.1 q9.2.2 x1 (0 : Int32) _ _ _ hf hP hD hS (lv_sub hl [1, 2, 0] rfl)

set_option maxHeartbeats 4000000 in
set_option maxRecDepth 100000 in
theorem c9_order (l : Launch) (D : va_G) (cB cI cZ cO : ClassId) (h : Nat → Nat) (sz : Nat) (x1 : Int32) (x2 : Int32) (v_all : Nat → Int32) (v_past : Nat → Int32) (v_states : Int32) (v_refused : Nat → Int32) (v_far : Nat → Int32) (v_row : Nat → Int32) (v_stepAt : Nat → Int32) (v_depth : Int32) (v_tries : Nat → Int32) (v_values : Nat → Int32) (v_wrong : Int32) (v_isEnd : Nat → Int32) (v_found : Nat → Int32) (v_reached : Nat → Int32) (v_stepIn : Nat → Int32) (v_laid : Nat → Int32) (v_firstRow : Nat → Int32) (v_text : Nat → Int32) (v_textLong : Int32) (v_spot : Int32) (v_taken : Int32) (v_counted : Nat → Int32) (r0 : Int32) (v_refused' : Nat → Int32) (v_far' : Nat → Int32) (v_row' : Nat → Int32) (v_stepAt' : Nat → Int32) (v_depth' : Int32) (v_tries' : Nat → Int32) (hf : f9_order v_all v_refused v_far v_row v_stepAt v_depth v_tries x1 x2 = some (r0, v_refused', v_far', v_row', v_stepAt', v_depth', v_tries')) : Met l yX9_order wsX9_order rm9_order (va_Pc [.ref (h 0), .int x1, .int x2] (kb_B D (ka_tys cB cI cZ cO) sz (wdM cI cZ h v_all v_past v_states v_refused v_far v_row v_stepAt v_depth v_tries v_values v_wrong v_isEnd v_found v_reached v_stepIn v_laid v_firstRow v_text v_textLong v_spot v_taken v_counted))) (va_Qi (kb_post .int r0) (fun _ t => va_P D vwCl (wdM cI cZ h v_all v_past v_states (v_refused') (v_far') (v_row') (v_stepAt') (v_depth') (v_tries') v_values v_wrong v_isEnd v_found v_reached v_stepIn v_laid v_firstRow v_text v_textLong v_spot v_taken v_counted) t.heap) (va_A (wdM cI cZ h v_all v_past v_states v_refused v_far v_row v_stepAt v_depth v_tries v_values v_wrong v_isEnd v_found v_reached v_stepIn v_laid v_firstRow v_text v_textLong v_spot v_taken v_counted) sz)) 0 0 (va_A (wdM cI cZ h v_all v_past v_states v_refused v_far v_row v_stepAt v_depth v_tries v_values v_wrong v_isEnd v_found v_reached v_stepIn v_laid v_firstRow v_text v_textLong v_spot v_taken v_counted) sz) := by
  refine kb_metZ (cc := cX9_order) (maxL := 3) (ty := .int) (by decide) rfl (Nat.le_of_ble_eq_true rfl) ?_
  intro p e s m args below meth c Q A ls H hx hb hml hown hts hK hN hP hD hS hA hl hend
  have hown : s.vm.findClass RX9 = some m.cls := hown
  have hl : lv_has ls 3 [(0, .ref (h 0)), (1, .int x1), (2, .int x2)] := hl
  have hin9 : ∀ w ∈ u_ws RX9 TX9 22, w ∈ wsX9_order := by decide +kernel
  have J9 : ∀ (v_refused : Nat → Int32) (v_far : Nat → Int32) (v_row : Nat → Int32) (v_stepAt : Nat → Int32) (v_depth : Int32) (v_tries : Nat → Int32) (H : Heap) (locs : List Loc) (ls : Array Slot), f9_order_b9 v_all v_refused v_far v_row v_stepAt v_depth v_tries = some (r0, v_refused', v_far', v_row', v_stepAt', v_depth', v_tries') → va_P D vwCl (wdM cI cZ h v_all v_past v_states v_refused v_far v_row v_stepAt v_depth v_tries v_values v_wrong v_isEnd v_found v_reached v_stepIn v_laid v_firstRow v_text v_textLong v_spot v_taken v_counted) H → va_D A (wdM cI cZ h v_all v_past v_states v_refused v_far v_row v_stepAt v_depth v_tries v_values v_wrong v_isEnd v_found v_reached v_stepIn v_laid v_firstRow v_text v_textLong v_spot v_taken v_counted) → va_S A s.heap H locs → lv_has ls 3 [(0, .ref (h 0))] → W p l e rm9_order s m args below meth c H locs 0 0 Q (F0 m 9 ls []) := by
    intro v_refused v_far v_row v_stepAt v_depth v_tries H locs ls hf hP hD hS hl
    rw [f9_order_b9] at hf
    refine lv_aload_n hx hb dX9_order_9 rfl (lv_at hl 0 rfl) ?_
    refine lv_bipush (v := (-2)) hx hb dX9_order_10 (by decide) ?_
    refine kb_bind hf (fun q3 hq3 hf => ?_)
    have hPc : va_P D vwCl (wdM cI cZ h v_all v_past v_states v_refused v_far v_row v_stepAt v_depth v_tries v_values v_wrong v_isEnd v_found v_reached v_stepIn v_laid v_firstRow v_text v_textLong v_spot v_taken v_counted) H := hP.sub [0, 1, 2, 3, 4, 5, 6, 7, 8, 9, 10, 11, 12, 13, 14, 15, 16] rfl
    have hDc : va_D A (wdM cI cZ h v_all v_past v_states v_refused v_far v_row v_stepAt v_depth v_tries v_values v_wrong v_isEnd v_found v_reached v_stepIn v_laid v_firstRow v_text v_textLong v_spot v_taken v_counted) := hD.sub [0, 1, 2, 3, 4, 5, 6, 7, 8, 9, 10, 11, 12, 13, 14, 15, 16] (by decide) rfl
    refine kd_iW (ws' := wdM cI cZ h v_all v_past v_states q3.2 v_far v_row v_stepAt v_depth v_tries v_values v_wrong v_isEnd v_found v_reached v_stepIn v_laid v_firstRow v_text v_textLong v_spot v_taken v_counted) (va_runV (As := [.int (-2 : Int32)]) (rest := []) ⟨hx, hb, hml, hown, hts⟩ (c9_refuses l D cB cI cZ cO h H.size (-2 : Int32) v_all v_past v_states v_refused v_far v_row v_stepAt v_depth v_tries v_values v_wrong v_isEnd v_found v_reached v_stepIn v_laid v_firstRow v_text v_textLong v_spot v_taken v_counted q3.1 q3.2 hq3) (cwV 1 hts gX9_order_X9_refuses rfl rfl rfl (by decide +kernel) ⟨Nat.le_of_ble_eq_true rfl, Nat.le_of_ble_eq_true rfl⟩) ⟨kb_blind, va_recv hK hPc (ci := 6) (q0 := 0) rfl rfl, kb_pre hPc hDc hK hN⟩ rfl rfl hl.1 rfl (lv_room (Nat.le_of_ble_eq_true rfl)) dX9_order_12 ⟨Nat.le_refl _, Nat.le_refl _⟩) hP hD hS hA [0, 1, 2, 3, 4, 5, 6, 7, 8, 9, 10, 11, 12, 13, 14, 15, 16] [] rfl rfl rfl rfl rfl (fun H locs hn4 hP hD hS => ?_)
    cases hf
    exact hend _ _ _ _ rfl hP hS dX9_order_15
  rw [f9_order] at hf
  refine lv_iload_n hx hb dX9_order_0 rfl (lv_at hl 1 rfl) ?_
  refine lv_if_lt (tgt := 9) hx hb dX9_order_1 (by decide) (fun c5 => ?_) (fun c5 => ?_)
  · rw [if_pos c5] at hf
    exact J9 v_refused v_far v_row v_stepAt v_depth v_tries _ _ _ hf hP hD hS (lv_sub hl [0] rfl)
  · rw [if_neg c5] at hf
    refine lv_iload_n hx hb dX9_order_4 rfl (lv_at hl 2 rfl) ?_
    refine lv_iconst (v := (-1)) hx hb dX9_order_5 (by decide) ?_
    refine lv_icmp_ge (tgt := 16) hx hb dX9_order_6 (by decide) (fun c6 => ?_) (fun c6 => ?_)
    · rw [if_pos c6] at hf
      refine lv_aload_n hx hb dX9_order_16 rfl (lv_at hl 0 rfl) ?_
      refine lv_iload_n hx hb dX9_order_17 rfl (lv_at hl 1 rfl) ?_
      refine kb_bind hf (fun q7 hq7 hf => ?_)
      have hPc : va_P D vwCl (wdM cI cZ h v_all v_past v_states v_refused v_far v_row v_stepAt v_depth v_tries v_values v_wrong v_isEnd v_found v_reached v_stepIn v_laid v_firstRow v_text v_textLong v_spot v_taken v_counted) H := hP.sub [0, 1, 2, 3, 4, 5, 6, 7, 8, 9, 10, 11, 12, 13, 14, 15, 16] rfl
      have hDc : va_D A (wdM cI cZ h v_all v_past v_states v_refused v_far v_row v_stepAt v_depth v_tries v_values v_wrong v_isEnd v_found v_reached v_stepIn v_laid v_firstRow v_text v_textLong v_spot v_taken v_counted) := hD.sub [0, 1, 2, 3, 4, 5, 6, 7, 8, 9, 10, 11, 12, 13, 14, 15, 16] (by decide) rfl
      refine kd_iW (ws' := wdM cI cZ h v_all v_past v_states v_refused q7.2.1 q7.2.2.1 q7.2.2.2.1 q7.2.2.2.2.1 q7.2.2.2.2.2 v_values v_wrong v_isEnd v_found v_reached v_stepIn v_laid v_firstRow v_text v_textLong v_spot v_taken v_counted) (va_runV (As := [.int x1]) (rest := []) ⟨hx, hb, hml, hown, hts⟩ (c9_findsSort l D cB cI cZ cO h H.size x1 v_all v_past v_states v_refused v_far v_row v_stepAt v_depth v_tries v_values v_wrong v_isEnd v_found v_reached v_stepIn v_laid v_firstRow v_text v_textLong v_spot v_taken v_counted q7.1 q7.2.1 q7.2.2.1 q7.2.2.2.1 q7.2.2.2.2.1 q7.2.2.2.2.2 hq7) (cwV 1 hts gX9_order_X9_findsSort rfl rfl rfl (by decide +kernel) ⟨Nat.le_of_ble_eq_true rfl, Nat.le_of_ble_eq_true rfl⟩) ⟨kb_blind, va_recv hK hPc (ci := 6) (q0 := 0) rfl rfl, kb_pre hPc hDc hK hN⟩ rfl rfl hl.1 rfl (lv_room (Nat.le_of_ble_eq_true rfl)) dX9_order_18 ⟨Nat.le_refl _, Nat.le_refl _⟩) hP hD hS hA [0, 1, 2, 3, 4, 5, 6, 7, 8, 9, 10, 11, 12, 13, 14, 15, 16] [] rfl rfl rfl rfl rfl (fun H locs hn8 hP hD hS => ?_)
      refine lv_if_ne (tgt := 31) hx hb dX9_order_21 (by decide) (fun c9 => ?_) (fun c9 => ?_)
      · rw [if_neg c9] at hf
        refine lv_iload_n hx hb dX9_order_31 rfl (lv_at hl 2 rfl) ?_
        refine lv_iconst (v := (-1)) hx hb dX9_order_32 (by decide) ?_
        refine lv_icmp_ne (tgt := 43) hx hb dX9_order_33 (by decide) (fun c10 => ?_) (fun c10 => ?_)
        · rw [if_neg c10] at hf
          refine lv_iload_n hx hb dX9_order_43 rfl (lv_at hl 2 rfl) ?_
          refine lv_aload_n hx hb dX9_order_44 rfl (lv_at hl 0 rfl) ?_
          refine va_get (D := D) (cl := vwCl) (ci := 6) (v := .int q7.2.2.2.2.1) (C := RX9) (T := TX9) (N := 22) hx hb hts hin9 hown hK hP 0 rfl rfl 7 (by decide) (hts (.fieldLink RX9 130 "StepOrdersModel" "depth" "I") (by decide +kernel)) (fun _ h9 => h9) rfl dX9_order_45 ?_
          refine lv_icmp_ge (tgt := 60) hx hb dX9_order_48 (by decide) (fun c11 => ?_) (fun c11 => ?_)
          · rw [if_pos c11] at hf
            refine lv_bipush (v := (-5)) hx hb dX9_order_60 (by decide) ?_
            cases hf
            exact hend _ _ _ _ rfl hP hS dX9_order_62
          · rw [if_neg c11] at hf
            refine lv_aload_n hx hb dX9_order_51 rfl (lv_at hl 0 rfl) ?_
            refine va_get (D := D) (cl := vwCl) (ci := 6) (v := .ref (h 5)) (C := RX9) (T := TX9) (N := 22) hx hb hts hin9 hown hK hP 0 rfl rfl 5 (by decide) (hts (.fieldLink RX9 22 "StepOrdersModel" "row" "[I") (by decide +kernel)) (fun _ h9 => h9) rfl dX9_order_52 ?_
            refine lv_iload_n hx hb dX9_order_55 rfl (lv_at hl 2 rfl) ?_
            refine kb_bind hf (fun v12 hv12 hf => ?_)
            refine ka_iald (D := D) (cl := vwCl) hx hb hK hP 5 1 (f := q7.2.2.1) rfl rfl (ard_in hv12) (ard_v hv12) dX9_order_56 ?_
            refine lv_goto (tgt := 62) hx hb dX9_order_57 (by decide) ?_
            cases hf
            exact hend _ _ _ _ rfl hP hS dX9_order_62
        · rw [if_pos c10] at hf
          refine lv_aload_n hx hb dX9_order_36 rfl (lv_at hl 0 rfl) ?_
          refine va_get (D := D) (cl := vwCl) (ci := 6) (v := .int q7.2.2.2.2.1) (C := RX9) (T := TX9) (N := 22) hx hb hts hin9 hown hK hP 0 rfl rfl 7 (by decide) (hts (.fieldLink RX9 130 "StepOrdersModel" "depth" "I") (by decide +kernel)) (fun _ h9 => h9) rfl dX9_order_37 ?_
          refine lv_goto (tgt := 62) hx hb dX9_order_40 (by decide) ?_
          cases hf
          exact hend _ _ _ _ rfl hP hS dX9_order_62
      · rw [if_pos c9] at hf
        refine lv_aload_n hx hb dX9_order_24 rfl (lv_at hl 0 rfl) ?_
        refine lv_bipush (v := (-3)) hx hb dX9_order_25 (by decide) ?_
        refine kb_bind hf (fun q13 hq13 hf => ?_)
        have hPc : va_P D vwCl (wdM cI cZ h v_all v_past v_states v_refused q7.2.1 q7.2.2.1 q7.2.2.2.1 q7.2.2.2.2.1 q7.2.2.2.2.2 v_values v_wrong v_isEnd v_found v_reached v_stepIn v_laid v_firstRow v_text v_textLong v_spot v_taken v_counted) H := hP.sub [0, 1, 2, 3, 4, 5, 6, 7, 8, 9, 10, 11, 12, 13, 14, 15, 16] rfl
        have hDc : va_D A (wdM cI cZ h v_all v_past v_states v_refused q7.2.1 q7.2.2.1 q7.2.2.2.1 q7.2.2.2.2.1 q7.2.2.2.2.2 v_values v_wrong v_isEnd v_found v_reached v_stepIn v_laid v_firstRow v_text v_textLong v_spot v_taken v_counted) := hD.sub [0, 1, 2, 3, 4, 5, 6, 7, 8, 9, 10, 11, 12, 13, 14, 15, 16] (by decide) rfl
        refine kd_iW (ws' := wdM cI cZ h v_all v_past v_states q13.2 q7.2.1 q7.2.2.1 q7.2.2.2.1 q7.2.2.2.2.1 q7.2.2.2.2.2 v_values v_wrong v_isEnd v_found v_reached v_stepIn v_laid v_firstRow v_text v_textLong v_spot v_taken v_counted) (va_runV (As := [.int (-3 : Int32)]) (rest := []) ⟨hx, hb, hml, hown, hts⟩ (c9_refuses l D cB cI cZ cO h H.size (-3 : Int32) v_all v_past v_states v_refused q7.2.1 q7.2.2.1 q7.2.2.2.1 q7.2.2.2.2.1 q7.2.2.2.2.2 v_values v_wrong v_isEnd v_found v_reached v_stepIn v_laid v_firstRow v_text v_textLong v_spot v_taken v_counted q13.1 q13.2 hq13) (cwV 1 hts gX9_order_X9_refuses rfl rfl rfl (by decide +kernel) ⟨Nat.le_of_ble_eq_true rfl, Nat.le_of_ble_eq_true rfl⟩) ⟨kb_blind, va_recv hK hPc (ci := 6) (q0 := 0) rfl rfl, kb_pre hPc hDc hK hN⟩ rfl rfl hl.1 rfl (lv_room (Nat.le_of_ble_eq_true rfl)) dX9_order_27 ⟨Nat.le_refl _, Nat.le_refl _⟩) hP hD hS hA [0, 1, 2, 3, 4, 5, 6, 7, 8, 9, 10, 11, 12, 13, 14, 15, 16] [] rfl rfl rfl rfl rfl (fun H locs hn14 hP hD hS => ?_)
        cases hf
        exact hend _ _ _ _ rfl hP hS dX9_order_30
    · rw [if_neg c6] at hf
      exact J9 v_refused v_far v_row v_stepAt v_depth v_tries _ _ _ hf hP hD hS (lv_sub hl [0] rfl)

set_option maxHeartbeats 4000000 in
set_option maxRecDepth 100000 in
theorem c9_sort (l : Launch) (D : va_G) (cB cI cZ cO : ClassId) (h : Nat → Nat) (sz : Nat) (x1 : Int32) (x2 : Int32) (v_all : Nat → Int32) (v_past : Nat → Int32) (v_states : Int32) (v_refused : Nat → Int32) (v_far : Nat → Int32) (v_row : Nat → Int32) (v_stepAt : Nat → Int32) (v_depth : Int32) (v_tries : Nat → Int32) (v_values : Nat → Int32) (v_wrong : Int32) (v_isEnd : Nat → Int32) (v_found : Nat → Int32) (v_reached : Nat → Int32) (v_stepIn : Nat → Int32) (v_laid : Nat → Int32) (v_firstRow : Nat → Int32) (v_text : Nat → Int32) (v_textLong : Int32) (v_spot : Int32) (v_taken : Int32) (v_counted : Nat → Int32) (r0 : Int32) (v_refused' : Nat → Int32) (v_far' : Nat → Int32) (v_row' : Nat → Int32) (v_stepAt' : Nat → Int32) (v_depth' : Int32) (v_tries' : Nat → Int32) (v_values' : Nat → Int32) (v_wrong' : Int32) (hf : f9_sort v_all v_refused v_far v_row v_stepAt v_depth v_tries v_values v_wrong x1 x2 = some (r0, v_refused', v_far', v_row', v_stepAt', v_depth', v_tries', v_values', v_wrong')) : Met l yX9_sort wsX9_sort rm9_sort (va_Pc [.ref (h 0), .int x1, .int x2] (kb_B D (ka_tys cB cI cZ cO) sz (wdM cI cZ h v_all v_past v_states v_refused v_far v_row v_stepAt v_depth v_tries v_values v_wrong v_isEnd v_found v_reached v_stepIn v_laid v_firstRow v_text v_textLong v_spot v_taken v_counted))) (va_Qi (kb_post .int r0) (fun _ t => va_P D vwCl (wdM cI cZ h v_all v_past v_states (v_refused') (v_far') (v_row') (v_stepAt') (v_depth') (v_tries') (v_values') (v_wrong') v_isEnd v_found v_reached v_stepIn v_laid v_firstRow v_text v_textLong v_spot v_taken v_counted) t.heap) (va_A (wdM cI cZ h v_all v_past v_states v_refused v_far v_row v_stepAt v_depth v_tries v_values v_wrong v_isEnd v_found v_reached v_stepIn v_laid v_firstRow v_text v_textLong v_spot v_taken v_counted) sz)) 0 0 (va_A (wdM cI cZ h v_all v_past v_states v_refused v_far v_row v_stepAt v_depth v_tries v_values v_wrong v_isEnd v_found v_reached v_stepIn v_laid v_firstRow v_text v_textLong v_spot v_taken v_counted) sz) := by
  refine kb_metZ (cc := cX9_sort) (maxL := 4) (ty := .int) (by decide) rfl (Nat.le_of_ble_eq_true rfl) ?_
  intro p e s m args below meth c Q A ls H hx hb hml hown hts hK hN hP hD hS hA hl hend
  have hown : s.vm.findClass RX9 = some m.cls := hown
  have hl : lv_has ls 4 [(0, .ref (h 0)), (1, .int x1), (2, .int x2)] := hl
  have hin9 : ∀ w ∈ u_ws RX9 TX9 22, w ∈ wsX9_sort := by decide +kernel
  have J16 : ∀ (v_refused : Nat → Int32) (v_far : Nat → Int32) (v_row : Nat → Int32) (v_stepAt : Nat → Int32) (v_depth : Int32) (v_tries : Nat → Int32) (v_values : Nat → Int32) (v_wrong : Int32) (H : Heap) (locs : List Loc) (ls : Array Slot), f9_sort_b16 v_all v_refused v_far v_row v_stepAt v_depth v_tries v_values v_wrong = some (r0, v_refused', v_far', v_row', v_stepAt', v_depth', v_tries', v_values', v_wrong') → va_P D vwCl (wdM cI cZ h v_all v_past v_states v_refused v_far v_row v_stepAt v_depth v_tries v_values v_wrong v_isEnd v_found v_reached v_stepIn v_laid v_firstRow v_text v_textLong v_spot v_taken v_counted) H → va_D A (wdM cI cZ h v_all v_past v_states v_refused v_far v_row v_stepAt v_depth v_tries v_values v_wrong v_isEnd v_found v_reached v_stepIn v_laid v_firstRow v_text v_textLong v_spot v_taken v_counted) → va_S A s.heap H locs → lv_has ls 4 [(0, .ref (h 0))] → W p l e rm9_sort s m args below meth c H locs 0 0 Q (F0 m 16 ls []) := by
    intro v_refused v_far v_row v_stepAt v_depth v_tries v_values v_wrong H locs ls hf hP hD hS hl
    rw [f9_sort_b16] at hf
    refine lv_aload_n hx hb dX9_sort_16 rfl (lv_at hl 0 rfl) ?_
    refine lv_bipush (v := (-2)) hx hb dX9_sort_17 (by decide) ?_
    refine kb_bind hf (fun q3 hq3 hf => ?_)
    have hPc : va_P D vwCl (wdM cI cZ h v_all v_past v_states v_refused v_far v_row v_stepAt v_depth v_tries v_values v_wrong v_isEnd v_found v_reached v_stepIn v_laid v_firstRow v_text v_textLong v_spot v_taken v_counted) H := hP.sub [0, 1, 2, 3, 4, 5, 6, 7, 8, 9, 10, 11, 12, 13, 14, 15, 16] rfl
    have hDc : va_D A (wdM cI cZ h v_all v_past v_states v_refused v_far v_row v_stepAt v_depth v_tries v_values v_wrong v_isEnd v_found v_reached v_stepIn v_laid v_firstRow v_text v_textLong v_spot v_taken v_counted) := hD.sub [0, 1, 2, 3, 4, 5, 6, 7, 8, 9, 10, 11, 12, 13, 14, 15, 16] (by decide) rfl
    refine kd_iW (ws' := wdM cI cZ h v_all v_past v_states q3.2 v_far v_row v_stepAt v_depth v_tries v_values v_wrong v_isEnd v_found v_reached v_stepIn v_laid v_firstRow v_text v_textLong v_spot v_taken v_counted) (va_runV (As := [.int (-2 : Int32)]) (rest := []) ⟨hx, hb, hml, hown, hts⟩ (c9_refuses l D cB cI cZ cO h H.size (-2 : Int32) v_all v_past v_states v_refused v_far v_row v_stepAt v_depth v_tries v_values v_wrong v_isEnd v_found v_reached v_stepIn v_laid v_firstRow v_text v_textLong v_spot v_taken v_counted q3.1 q3.2 hq3) (cwV 1 hts gX9_sort_X9_refuses rfl rfl rfl (by decide +kernel) ⟨Nat.le_of_ble_eq_true rfl, Nat.le_of_ble_eq_true rfl⟩) ⟨kb_blind, va_recv hK hPc (ci := 6) (q0 := 0) rfl rfl, kb_pre hPc hDc hK hN⟩ rfl rfl hl.1 rfl (lv_room (Nat.le_of_ble_eq_true rfl)) dX9_sort_19 ⟨Nat.le_refl _, Nat.le_refl _⟩) hP hD hS hA [0, 1, 2, 3, 4, 5, 6, 7, 8, 9, 10, 11, 12, 13, 14, 15, 16] [] rfl rfl rfl rfl rfl (fun H locs hn4 hP hD hS => ?_)
    cases hf
    exact hend _ _ _ _ rfl hP hS dX9_sort_22
  rw [f9_sort] at hf
  refine lv_iload_n hx hb dX9_sort_0 rfl (lv_at hl 1 rfl) ?_
  refine lv_if_lt (tgt := 16) hx hb dX9_sort_1 (by decide) (fun c5 => ?_) (fun c5 => ?_)
  · rw [if_pos c5] at hf
    exact J16 v_refused v_far v_row v_stepAt v_depth v_tries v_values v_wrong _ _ _ hf hP hD hS (lv_sub hl [0] rfl)
  · rw [if_neg c5] at hf
    refine lv_iload_n hx hb dX9_sort_4 rfl (lv_at hl 2 rfl) ?_
    refine lv_i2l (v := x2.toInt64) hx hb dX9_sort_5 rfl ?_
    refine lv_lconst (v := 0) hx hb dX9_sort_6 (by decide) ?_
    refine lv_ldc2 (v := 2) hx hb hown (hts (.constantLong RX9 77 (2)) (by decide +kernel)) dX9_sort_7 ?_
    have hPc : va_P D vwCl ([]) H := hP.sub [] rfl
    have hDc : va_D A ([]) := hD.sub [] (by decide) rfl
    refine kd_iR (va_runS (As := [.long x2.toInt64, .long (0 : Int64), .long (2 : Int64)]) (rest := []) ⟨hx, hb, hml, hown, hts⟩ (c9_in l D cB cI cZ cO h H.size x2.toInt64 (0 : Int64) (2 : Int64) (f9_in x2.toInt64 (0 : Int64) (2 : Int64)) rfl) (va_cwS 3 hts gX9_sort_X9_in rfl rfl rfl (by decide +kernel) ⟨Nat.le_of_ble_eq_true rfl, Nat.le_of_ble_eq_true rfl⟩) ⟨kb_blind, kb_pre hPc hDc hK hN⟩ rfl rfl hl.1 rfl (lv_room (Nat.le_of_ble_eq_true rfl)) dX9_sort_10 ⟨Nat.le_refl _, Nat.le_refl _⟩) hP hD hS hA [] rfl (fun H locs hn6 hP hS => ?_)
    refine lv_if_ne (tgt := 23) hx hb dX9_sort_13 (by decide) (fun c7 => ?_) (fun c7 => ?_)
    · rw [if_neg c7] at hf
      refine lv_aload_n hx hb dX9_sort_23 rfl (lv_at hl 0 rfl) ?_
      refine lv_iload_n hx hb dX9_sort_24 rfl (lv_at hl 1 rfl) ?_
      refine kb_bind hf (fun q8 hq8 hf => ?_)
      have hPc : va_P D vwCl (wdM cI cZ h v_all v_past v_states v_refused v_far v_row v_stepAt v_depth v_tries v_values v_wrong v_isEnd v_found v_reached v_stepIn v_laid v_firstRow v_text v_textLong v_spot v_taken v_counted) H := hP.sub [0, 1, 2, 3, 4, 5, 6, 7, 8, 9, 10, 11, 12, 13, 14, 15, 16] rfl
      have hDc : va_D A (wdM cI cZ h v_all v_past v_states v_refused v_far v_row v_stepAt v_depth v_tries v_values v_wrong v_isEnd v_found v_reached v_stepIn v_laid v_firstRow v_text v_textLong v_spot v_taken v_counted) := hD.sub [0, 1, 2, 3, 4, 5, 6, 7, 8, 9, 10, 11, 12, 13, 14, 15, 16] (by decide) rfl
      refine kd_iW (ws' := wdM cI cZ h v_all v_past v_states v_refused q8.2.1 q8.2.2.1 q8.2.2.2.1 q8.2.2.2.2.1 q8.2.2.2.2.2 v_values v_wrong v_isEnd v_found v_reached v_stepIn v_laid v_firstRow v_text v_textLong v_spot v_taken v_counted) (va_runV (As := [.int x1]) (rest := []) ⟨hx, hb, hml, hown, hts⟩ (c9_findsSort l D cB cI cZ cO h H.size x1 v_all v_past v_states v_refused v_far v_row v_stepAt v_depth v_tries v_values v_wrong v_isEnd v_found v_reached v_stepIn v_laid v_firstRow v_text v_textLong v_spot v_taken v_counted q8.1 q8.2.1 q8.2.2.1 q8.2.2.2.1 q8.2.2.2.2.1 q8.2.2.2.2.2 hq8) (cwV 1 hts gX9_sort_X9_findsSort rfl rfl rfl (by decide +kernel) ⟨Nat.le_of_ble_eq_true rfl, Nat.le_of_ble_eq_true rfl⟩) ⟨kb_blind, va_recv hK hPc (ci := 6) (q0 := 0) rfl rfl, kb_pre hPc hDc hK hN⟩ rfl rfl hl.1 rfl (lv_room (Nat.le_of_ble_eq_true rfl)) dX9_sort_25 ⟨Nat.le_refl _, Nat.le_refl _⟩) hP hD hS hA [0, 1, 2, 3, 4, 5, 6, 7, 8, 9, 10, 11, 12, 13, 14, 15, 16] [] rfl rfl rfl rfl rfl (fun H locs hn9 hP hD hS => ?_)
      refine lv_if_ne (tgt := 38) hx hb dX9_sort_28 (by decide) (fun c10 => ?_) (fun c10 => ?_)
      · rw [if_neg c10] at hf
        refine lv_aload_n hx hb dX9_sort_38 rfl (lv_at hl 0 rfl) ?_
        refine kb_bind hf (fun q11 hq11 hf => ?_)
        have hPc : va_P D vwCl (wdM cI cZ h v_all v_past v_states v_refused q8.2.1 q8.2.2.1 q8.2.2.2.1 q8.2.2.2.2.1 q8.2.2.2.2.2 v_values v_wrong v_isEnd v_found v_reached v_stepIn v_laid v_firstRow v_text v_textLong v_spot v_taken v_counted) H := hP.sub [0, 1, 2, 3, 4, 5, 6, 7, 8, 9, 10, 11, 12, 13, 14, 15, 16] rfl
        have hDc : va_D A (wdM cI cZ h v_all v_past v_states v_refused q8.2.1 q8.2.2.1 q8.2.2.2.1 q8.2.2.2.2.1 q8.2.2.2.2.2 v_values v_wrong v_isEnd v_found v_reached v_stepIn v_laid v_firstRow v_text v_textLong v_spot v_taken v_counted) := hD.sub [0, 1, 2, 3, 4, 5, 6, 7, 8, 9, 10, 11, 12, 13, 14, 15, 16] (by decide) rfl
        refine kd_iW (ws' := wdM cI cZ h v_all v_past v_states v_refused q8.2.1 q8.2.2.1 q8.2.2.2.1 q8.2.2.2.2.1 q8.2.2.2.2.2 q11.2.1 q11.2.2 v_isEnd v_found v_reached v_stepIn v_laid v_firstRow v_text v_textLong v_spot v_taken v_counted) (va_runV (As := []) (rest := []) ⟨hx, hb, hml, hown, hts⟩ (c9_endOf l D cB cI cZ cO h H.size v_all v_past v_states v_refused q8.2.1 q8.2.2.1 q8.2.2.2.1 q8.2.2.2.2.1 q8.2.2.2.2.2 v_values v_wrong v_isEnd v_found v_reached v_stepIn v_laid v_firstRow v_text v_textLong v_spot v_taken v_counted q11.1 q11.2.1 q11.2.2 hq11) (cwV 0 hts gX9_sort_X9_endOf rfl rfl rfl (by decide +kernel) ⟨Nat.le_of_ble_eq_true rfl, Nat.le_of_ble_eq_true rfl⟩) ⟨kb_blind, va_recv hK hPc (ci := 6) (q0 := 0) rfl rfl, kb_pre hPc hDc hK hN⟩ rfl rfl hl.1 rfl (lv_room (Nat.le_of_ble_eq_true rfl)) dX9_sort_39 ⟨Nat.le_refl _, Nat.le_refl _⟩) hP hD hS hA [0, 1, 2, 3, 4, 5, 6, 7, 8, 9, 10, 11, 12, 13, 14, 15, 16] [] rfl rfl rfl rfl rfl (fun H locs hn12 hP hD hS => ?_)
        refine lv_istore_n (lv' := [(3, .int q11.1), (0, .ref (h 0)), (1, .int x1), (2, .int x2)]) hx hb dX9_sort_42 rfl hl (by decide) rfl (fun ls hl => ?_)
        refine lv_iload_n hx hb dX9_sort_43 rfl (lv_at hl 3 rfl) ?_
        refine lv_if_ne (tgt := 51) hx hb dX9_sort_44 (by decide) (fun c13 => ?_) (fun c13 => ?_)
        · rw [if_neg c13] at hf
          refine lv_iload_n hx hb dX9_sort_51 rfl (lv_at hl 3 rfl) ?_
          refine lv_iconst (v := 1) hx hb dX9_sort_52 (by decide) ?_
          refine lv_icmp_ne (tgt := 63) hx hb dX9_sort_53 (by decide) (fun c14 => ?_) (fun c14 => ?_)
          · rw [if_neg c14] at hf
            refine lv_aload_n hx hb dX9_sort_63 rfl (lv_at hl 1 rfl) ?_
            refine va_get (D := D) (cl := vwCl) (ci := 6) (v := .int q8.2.2.2.2.1) (C := RX9) (T := TX9) (N := 22) hx hb hts hin9 hown hK hP 0 rfl rfl 7 (by decide) (hts (.fieldLink RX9 130 "StepOrdersModel" "depth" "I") (by decide +kernel)) (fun _ h9 => h9) rfl dX9_sort_64 ?_
            refine lv_aload_n hx hb dX9_sort_67 rfl (lv_at hl 1 rfl) ?_
            refine kb_bind hf (fun q15 hq15 hf => ?_)
            have hPc : va_P D vwCl (wdM cI cZ h v_all v_past v_states v_refused q8.2.1 q8.2.2.1 q8.2.2.2.1 q8.2.2.2.2.1 q8.2.2.2.2.2 q11.2.1 q11.2.2 v_isEnd v_found v_reached v_stepIn v_laid v_firstRow v_text v_textLong v_spot v_taken v_counted) H := hP.sub [0, 1, 2, 3, 4, 5, 6, 7, 8, 9, 10, 11, 12, 13, 14, 15, 16] rfl
            have hDc : va_D A (wdM cI cZ h v_all v_past v_states v_refused q8.2.1 q8.2.2.1 q8.2.2.2.1 q8.2.2.2.2.1 q8.2.2.2.2.2 q11.2.1 q11.2.2 v_isEnd v_found v_reached v_stepIn v_laid v_firstRow v_text v_textLong v_spot v_taken v_counted) := hD.sub [0, 1, 2, 3, 4, 5, 6, 7, 8, 9, 10, 11, 12, 13, 14, 15, 16] (by decide) rfl
            refine kd_iR (va_runV (As := []) (rest := [.int q8.2.2.2.2.1]) ⟨hx, hb, hml, hown, hts⟩ (c9_allSteps l D cB cI cZ cO h H.size v_all v_past v_states v_refused q8.2.1 q8.2.2.1 q8.2.2.2.1 q8.2.2.2.2.1 q8.2.2.2.2.2 q11.2.1 q11.2.2 v_isEnd v_found v_reached v_stepIn v_laid v_firstRow v_text v_textLong v_spot v_taken v_counted q15 hq15) (cwV 0 hts gX9_sort_X9_allSteps rfl rfl rfl (by decide +kernel) ⟨Nat.le_of_ble_eq_true rfl, Nat.le_of_ble_eq_true rfl⟩) ⟨kb_blind, va_recv hK hPc (ci := 6) (q0 := 0) rfl rfl, kb_pre hPc hDc hK hN⟩ rfl rfl hl.1 rfl (lv_room (Nat.le_of_ble_eq_true rfl)) dX9_sort_68 ⟨Nat.le_refl _, Nat.le_refl _⟩) hP hD hS hA [0, 1, 2, 3, 4, 5, 6, 7, 8, 9, 10, 11, 12, 13, 14, 15, 16] rfl (fun H locs hn16 hP hS => ?_)
            refine lv_icmp_ge (tgt := 78) hx hb dX9_sort_71 (by decide) (fun c17 => ?_) (fun c17 => ?_)
            · rw [if_pos c17] at hf
              refine lv_iconst (v := 0) hx hb dX9_sort_78 (by decide) ?_
              cases hf
              exact hend _ _ _ _ rfl hP hS dX9_sort_79
            · rw [if_neg c17] at hf
              refine lv_iconst (v := 1) hx hb dX9_sort_74 (by decide) ?_
              refine lv_goto (tgt := 79) hx hb dX9_sort_75 (by decide) ?_
              cases hf
              exact hend _ _ _ _ rfl hP hS dX9_sort_79
          · rw [if_pos c14] at hf
            refine lv_aload_n hx hb dX9_sort_56 rfl (lv_at hl 1 rfl) ?_
            refine va_get (D := D) (cl := vwCl) (ci := 6) (v := .int q11.2.2) (C := RX9) (T := TX9) (N := 22) hx hb hts hin9 hown hK hP 0 rfl rfl 10 (by decide) (hts (.fieldLink RX9 140 "StepOrdersModel" "wrong" "I") (by decide +kernel)) (fun _ h9 => h9) rfl dX9_sort_57 ?_
            refine lv_goto (tgt := 79) hx hb dX9_sort_60 (by decide) ?_
            cases hf
            exact hend _ _ _ _ rfl hP hS dX9_sort_79
        · rw [if_pos c13] at hf
          refine lv_iload_n hx hb dX9_sort_47 rfl (lv_at hl 0 rfl) ?_
          refine lv_goto (tgt := 79) hx hb dX9_sort_48 (by decide) ?_
          cases hf
          exact hend _ _ _ _ rfl hP hS dX9_sort_79
      · rw [if_pos c10] at hf
        refine lv_aload_n hx hb dX9_sort_31 rfl (lv_at hl 0 rfl) ?_
        refine lv_bipush (v := (-3)) hx hb dX9_sort_32 (by decide) ?_
        refine kb_bind hf (fun q18 hq18 hf => ?_)
        have hPc : va_P D vwCl (wdM cI cZ h v_all v_past v_states v_refused q8.2.1 q8.2.2.1 q8.2.2.2.1 q8.2.2.2.2.1 q8.2.2.2.2.2 v_values v_wrong v_isEnd v_found v_reached v_stepIn v_laid v_firstRow v_text v_textLong v_spot v_taken v_counted) H := hP.sub [0, 1, 2, 3, 4, 5, 6, 7, 8, 9, 10, 11, 12, 13, 14, 15, 16] rfl
        have hDc : va_D A (wdM cI cZ h v_all v_past v_states v_refused q8.2.1 q8.2.2.1 q8.2.2.2.1 q8.2.2.2.2.1 q8.2.2.2.2.2 v_values v_wrong v_isEnd v_found v_reached v_stepIn v_laid v_firstRow v_text v_textLong v_spot v_taken v_counted) := hD.sub [0, 1, 2, 3, 4, 5, 6, 7, 8, 9, 10, 11, 12, 13, 14, 15, 16] (by decide) rfl
        refine kd_iW (ws' := wdM cI cZ h v_all v_past v_states q18.2 q8.2.1 q8.2.2.1 q8.2.2.2.1 q8.2.2.2.2.1 q8.2.2.2.2.2 v_values v_wrong v_isEnd v_found v_reached v_stepIn v_laid v_firstRow v_text v_textLong v_spot v_taken v_counted) (va_runV (As := [.int (-3 : Int32)]) (rest := []) ⟨hx, hb, hml, hown, hts⟩ (c9_refuses l D cB cI cZ cO h H.size (-3 : Int32) v_all v_past v_states v_refused q8.2.1 q8.2.2.1 q8.2.2.2.1 q8.2.2.2.2.1 q8.2.2.2.2.2 v_values v_wrong v_isEnd v_found v_reached v_stepIn v_laid v_firstRow v_text v_textLong v_spot v_taken v_counted q18.1 q18.2 hq18) (cwV 1 hts gX9_sort_X9_refuses rfl rfl rfl (by decide +kernel) ⟨Nat.le_of_ble_eq_true rfl, Nat.le_of_ble_eq_true rfl⟩) ⟨kb_blind, va_recv hK hPc (ci := 6) (q0 := 0) rfl rfl, kb_pre hPc hDc hK hN⟩ rfl rfl hl.1 rfl (lv_room (Nat.le_of_ble_eq_true rfl)) dX9_sort_34 ⟨Nat.le_refl _, Nat.le_refl _⟩) hP hD hS hA [0, 1, 2, 3, 4, 5, 6, 7, 8, 9, 10, 11, 12, 13, 14, 15, 16] [] rfl rfl rfl rfl rfl (fun H locs hn19 hP hD hS => ?_)
        cases hf
        exact hend _ _ _ _ rfl hP hS dX9_sort_37
    · rw [if_pos c7] at hf
      exact J16 v_refused v_far v_row v_stepAt v_depth v_tries v_values v_wrong _ _ _ hf hP hD hS (lv_sub hl [0] rfl)

set_option maxHeartbeats 4000000 in
set_option maxRecDepth 100000 in
theorem c9_ends (l : Launch) (D : va_G) (cB cI cZ cO : ClassId) (h : Nat → Nat) (sz : Nat) (x1 : Int32) (v_all : Nat → Int32) (v_past : Nat → Int32) (v_states : Int32) (v_refused : Nat → Int32) (v_far : Nat → Int32) (v_row : Nat → Int32) (v_stepAt : Nat → Int32) (v_depth : Int32) (v_tries : Nat → Int32) (v_values : Nat → Int32) (v_wrong : Int32) (v_isEnd : Nat → Int32) (v_found : Nat → Int32) (v_reached : Nat → Int32) (v_stepIn : Nat → Int32) (v_laid : Nat → Int32) (v_firstRow : Nat → Int32) (v_text : Nat → Int32) (v_textLong : Int32) (v_spot : Int32) (v_taken : Int32) (v_counted : Nat → Int32) (r0 : Int32) (v_refused' : Nat → Int32) (v_far' : Nat → Int32) (v_row' : Nat → Int32) (v_stepAt' : Nat → Int32) (v_depth' : Int32) (v_tries' : Nat → Int32) (v_values' : Nat → Int32) (v_wrong' : Int32) (v_isEnd' : Nat → Int32) (v_found' : Nat → Int32) (hf : f9_ends v_all v_refused v_far v_row v_stepAt v_depth v_tries v_values v_wrong v_isEnd v_found x1 = some (r0, v_refused', v_far', v_row', v_stepAt', v_depth', v_tries', v_values', v_wrong', v_isEnd', v_found')) : Met l yX9_ends wsX9_ends rm9_ends (va_Pc [.ref (h 0), .int x1] (kb_B D (ka_tys cB cI cZ cO) sz (wdM cI cZ h v_all v_past v_states v_refused v_far v_row v_stepAt v_depth v_tries v_values v_wrong v_isEnd v_found v_reached v_stepIn v_laid v_firstRow v_text v_textLong v_spot v_taken v_counted))) (va_Qi (kb_post .int r0) (fun _ t => va_P D vwCl (wdM cI cZ h v_all v_past v_states (v_refused') (v_far') (v_row') (v_stepAt') (v_depth') (v_tries') (v_values') (v_wrong') (v_isEnd') (v_found') v_reached v_stepIn v_laid v_firstRow v_text v_textLong v_spot v_taken v_counted) t.heap) (va_A (wdM cI cZ h v_all v_past v_states v_refused v_far v_row v_stepAt v_depth v_tries v_values v_wrong v_isEnd v_found v_reached v_stepIn v_laid v_firstRow v_text v_textLong v_spot v_taken v_counted) sz)) 0 0 (va_A (wdM cI cZ h v_all v_past v_states v_refused v_far v_row v_stepAt v_depth v_tries v_values v_wrong v_isEnd v_found v_reached v_stepIn v_laid v_firstRow v_text v_textLong v_spot v_taken v_counted) sz) := by
  refine kb_metZ (cc := cX9_ends) (maxL := 4) (ty := .int) (by decide) rfl (Nat.le_of_ble_eq_true rfl) ?_
  intro p e s m args below meth c Q A ls H hx hb hml hown hts hK hN hP hD hS hA hl hend
  have hown : s.vm.findClass RX9 = some m.cls := hown
  have hl : lv_has ls 4 [(0, .ref (h 0)), (1, .int x1)] := hl
  have hin9 : ∀ w ∈ u_ws RX9 TX9 22, w ∈ wsX9_ends := by decide +kernel
  have J40 : ∀ (v_refused : Nat → Int32) (v_far : Nat → Int32) (v_row : Nat → Int32) (v_stepAt : Nat → Int32) (v_depth : Int32) (v_tries : Nat → Int32) (v_values : Nat → Int32) (v_wrong : Int32) (v_isEnd : Nat → Int32) (v_found : Nat → Int32) (x3 : Int32) (H : Heap) (locs : List Loc) (ls : Array Slot), f9_ends_b40 v_all v_refused v_far v_row v_stepAt v_depth v_tries v_values v_wrong v_isEnd v_found x3 = some (r0, v_refused', v_far', v_row', v_stepAt', v_depth', v_tries', v_values', v_wrong', v_isEnd', v_found') → va_P D vwCl (wdM cI cZ h v_all v_past v_states v_refused v_far v_row v_stepAt v_depth v_tries v_values v_wrong v_isEnd v_found v_reached v_stepIn v_laid v_firstRow v_text v_textLong v_spot v_taken v_counted) H → va_D A (wdM cI cZ h v_all v_past v_states v_refused v_far v_row v_stepAt v_depth v_tries v_values v_wrong v_isEnd v_found v_reached v_stepIn v_laid v_firstRow v_text v_textLong v_spot v_taken v_counted) → va_S A s.heap H locs → lv_has ls 4 [(3, .int x3)] → W p l e rm9_ends s m args below meth c H locs 0 0 Q (F0 m 40 ls []) := by
    intro v_refused v_far v_row v_stepAt v_depth v_tries v_values v_wrong v_isEnd v_found x3 H locs ls hf hP hD hS hl
    rw [f9_ends_b40] at hf
    refine lv_iload_n hx hb dX9_ends_40 rfl (lv_at hl 0 rfl) ?_
    cases hf
    exact hend _ _ _ _ rfl hP hS dX9_ends_41
  have J51 : ∀ (v_refused : Nat → Int32) (v_far : Nat → Int32) (v_row : Nat → Int32) (v_stepAt : Nat → Int32) (v_depth : Int32) (v_tries : Nat → Int32) (v_values : Nat → Int32) (v_wrong : Int32) (v_isEnd : Nat → Int32) (v_found : Nat → Int32) (H : Heap) (locs : List Loc) (ls : Array Slot), f9_ends_b51 v_all v_refused v_far v_row v_stepAt v_depth v_tries v_values v_wrong v_isEnd v_found = some (r0, v_refused', v_far', v_row', v_stepAt', v_depth', v_tries', v_values', v_wrong', v_isEnd', v_found') → va_P D vwCl (wdM cI cZ h v_all v_past v_states v_refused v_far v_row v_stepAt v_depth v_tries v_values v_wrong v_isEnd v_found v_reached v_stepIn v_laid v_firstRow v_text v_textLong v_spot v_taken v_counted) H → va_D A (wdM cI cZ h v_all v_past v_states v_refused v_far v_row v_stepAt v_depth v_tries v_values v_wrong v_isEnd v_found v_reached v_stepIn v_laid v_firstRow v_text v_textLong v_spot v_taken v_counted) → va_S A s.heap H locs → lv_has ls 4 [] → W p l e rm9_ends s m args below meth c H locs 0 0 Q (F0 m 51 ls []) := by
    intro v_refused v_far v_row v_stepAt v_depth v_tries v_values v_wrong v_isEnd v_found H locs ls hf hP hD hS hl
    rw [f9_ends_b51] at hf
    refine lv_bipush (v := (-5)) hx hb dX9_ends_51 (by decide) ?_
    cases hf
    exact hend _ _ _ _ rfl hP hS dX9_ends_53
  have J19 : ∀ (n : Nat) (v_refused : Nat → Int32) (v_far : Nat → Int32) (v_row : Nat → Int32) (v_stepAt : Nat → Int32) (v_depth : Int32) (v_tries : Nat → Int32) (v_values : Nat → Int32) (v_wrong : Int32) (v_isEnd : Nat → Int32) (v_found : Nat → Int32) (x1 : Int32) (x2 : Int32) (x3 : Int32) (H : Heap) (locs : List Loc) (ls : Array Slot), f9_ends_l19 n v_all v_refused v_far v_row v_stepAt v_depth v_tries v_values v_wrong v_isEnd v_found x1 x2 x3 = some (r0, v_refused', v_far', v_row', v_stepAt', v_depth', v_tries', v_values', v_wrong', v_isEnd', v_found') → va_P D vwCl (wdM cI cZ h v_all v_past v_states v_refused v_far v_row v_stepAt v_depth v_tries v_values v_wrong v_isEnd v_found v_reached v_stepIn v_laid v_firstRow v_text v_textLong v_spot v_taken v_counted) H → va_D A (wdM cI cZ h v_all v_past v_states v_refused v_far v_row v_stepAt v_depth v_tries v_values v_wrong v_isEnd v_found v_reached v_stepIn v_laid v_firstRow v_text v_textLong v_spot v_taken v_counted) → va_S A s.heap H locs → lv_has ls 4 [(0, .ref (h 0)), (1, .int x1), (2, .int x2), (3, .int x3)] → W p l e rm9_ends s m args below meth c H locs 0 0 Q (F0 m 19 ls []) := by
    intro n
    induction n with
    | zero =>
      intro v_refused v_far v_row v_stepAt v_depth v_tries v_values v_wrong v_isEnd v_found x1 x2 x3 H locs ls hf
      cases (show (none : Option (Int32 × (Nat → Int32) × (Nat → Int32) × (Nat → Int32) × (Nat → Int32) × Int32 × (Nat → Int32) × (Nat → Int32) × Int32 × (Nat → Int32) × (Nat → Int32))) = some (r0, v_refused', v_far', v_row', v_stepAt', v_depth', v_tries', v_values', v_wrong', v_isEnd', v_found') from hf)
    | succ n ih =>
      have J45 : ∀ (v_refused : Nat → Int32) (v_far : Nat → Int32) (v_row : Nat → Int32) (v_stepAt : Nat → Int32) (v_depth : Int32) (v_tries : Nat → Int32) (v_values : Nat → Int32) (v_wrong : Int32) (v_isEnd : Nat → Int32) (v_found : Nat → Int32) (x1 : Int32) (x2 : Int32) (x3 : Int32) (H : Heap) (locs : List Loc) (ls : Array Slot), f9_ends_b45 (f9_ends_l19 n) v_all v_refused v_far v_row v_stepAt v_depth v_tries v_values v_wrong v_isEnd v_found x1 x2 x3 = some (r0, v_refused', v_far', v_row', v_stepAt', v_depth', v_tries', v_values', v_wrong', v_isEnd', v_found') → va_P D vwCl (wdM cI cZ h v_all v_past v_states v_refused v_far v_row v_stepAt v_depth v_tries v_values v_wrong v_isEnd v_found v_reached v_stepIn v_laid v_firstRow v_text v_textLong v_spot v_taken v_counted) H → va_D A (wdM cI cZ h v_all v_past v_states v_refused v_far v_row v_stepAt v_depth v_tries v_values v_wrong v_isEnd v_found v_reached v_stepIn v_laid v_firstRow v_text v_textLong v_spot v_taken v_counted) → va_S A s.heap H locs → lv_has ls 4 [(0, .ref (h 0)), (1, .int x1), (2, .int x2), (3, .int x3)] → W p l e rm9_ends s m args below meth c H locs 0 0 Q (F0 m 45 ls []) := by
        intro v_refused v_far v_row v_stepAt v_depth v_tries v_values v_wrong v_isEnd v_found x1 x2 x3 H locs ls hf hP hD hS hl
        rw [f9_ends_b45] at hf
        refine lv_iinc (v := (x3 + 1)) (lv' := [(3, .int (x3 + 1)), (0, .ref (h 0)), (1, .int x1), (2, .int x2)]) hx hb dX9_ends_45 hl (k := 3) rfl rfl (by decide) rfl (fun ls hl => ?_)
        refine lv_goto (tgt := 19) hx hb dX9_ends_48 (by decide) ?_
        exact ih v_refused v_far v_row v_stepAt v_depth v_tries v_values v_wrong v_isEnd v_found x1 x2 (x3 + 1) _ _ _ hf hP hD hS (lv_sub hl [1, 2, 3, 0] rfl)
      intro v_refused v_far v_row v_stepAt v_depth v_tries v_values v_wrong v_isEnd v_found x1 x2 x3 H locs ls hf hP hD hS hl
      rw [f9_ends_l19_s] at hf
      refine lv_iload_n hx hb dX9_ends_19 rfl (lv_at hl 3 rfl) ?_
      refine lv_sipush (v := 10000) hx hb dX9_ends_20 (by decide) ?_
      refine lv_icmp_ge (tgt := 51) hx hb dX9_ends_23 (by decide) (fun c5 => ?_) (fun c5 => ?_)
      · rw [if_pos c5] at hf
        exact J51 v_refused v_far v_row v_stepAt v_depth v_tries v_values v_wrong v_isEnd v_found _ _ _ hf hP hD hS (lv_sub hl [] rfl)
      · rw [if_neg c5] at hf
        refine lv_aload_n hx hb dX9_ends_26 rfl (lv_at hl 0 rfl) ?_
        refine va_get (D := D) (cl := vwCl) (ci := 6) (v := .ref (h 9)) (C := RX9) (T := TX9) (N := 22) hx hb hts hin9 hown hK hP 0 rfl rfl 11 (by decide) (hts (.fieldLink RX9 34 "StepOrdersModel" "isEnd" "[Z") (by decide +kernel)) (fun _ h9 => h9) rfl dX9_ends_27 ?_
        refine lv_iload_n hx hb dX9_ends_30 rfl (lv_at hl 3 rfl) ?_
        refine kb_bind hf (fun v6 hv6 hf => ?_)
        refine ka_zald (D := D) (cl := vwCl) hx hb hK hP 9 2 (f := v_isEnd) rfl rfl (ard_in hv6) (ard_v hv6) dX9_ends_31 ?_
        refine lv_if_eq (tgt := 45) hx hb dX9_ends_32 (by decide) (fun c7 => ?_) (fun c7 => ?_)
        · rw [if_pos c7] at hf
          exact J45 v_refused v_far v_row v_stepAt v_depth v_tries v_values v_wrong v_isEnd v_found x1 x2 x3 _ _ _ hf hP hD hS (lv_sub hl [0, 1, 2, 3] rfl)
        · rw [if_neg c7] at hf
          refine lv_iload_n hx hb dX9_ends_35 rfl (lv_at hl 2 rfl) ?_
          refine lv_iload_n hx hb dX9_ends_36 rfl (lv_at hl 1 rfl) ?_
          refine lv_icmp_ne (tgt := 42) hx hb dX9_ends_37 (by decide) (fun c8 => ?_) (fun c8 => ?_)
          · rw [if_neg c8] at hf
            refine lv_iinc (v := (x2 + 1)) (lv' := [(2, .int (x2 + 1)), (0, .ref (h 0)), (1, .int x1), (3, .int x3)]) hx hb dX9_ends_42 hl (k := 2) rfl rfl (by decide) rfl (fun ls hl => ?_)
            exact J45 v_refused v_far v_row v_stepAt v_depth v_tries v_values v_wrong v_isEnd v_found x1 (x2 + 1) x3 _ _ _ hf hP hD hS (lv_sub hl [1, 2, 0, 3] rfl)
          · rw [if_pos c8] at hf
            exact J40 v_refused v_far v_row v_stepAt v_depth v_tries v_values v_wrong v_isEnd v_found x3 _ _ _ hf hP hD hS (lv_sub hl [3] rfl)
  rw [f9_ends] at hf
  refine lv_iload_n hx hb dX9_ends_0 rfl (lv_at hl 1 rfl) ?_
  refine lv_if_ge (tgt := 11) hx hb dX9_ends_1 (by decide) (fun c9 => ?_) (fun c9 => ?_)
  · rw [if_pos c9] at hf
    refine lv_aload_n hx hb dX9_ends_11 rfl (lv_at hl 0 rfl) ?_
    refine kb_bind hf (fun q10 hq10 hf => ?_)
    have hPc : va_P D vwCl (wdM cI cZ h v_all v_past v_states v_refused v_far v_row v_stepAt v_depth v_tries v_values v_wrong v_isEnd v_found v_reached v_stepIn v_laid v_firstRow v_text v_textLong v_spot v_taken v_counted) H := hP.sub [0, 1, 2, 3, 4, 5, 6, 7, 8, 9, 10, 11, 12, 13, 14, 15, 16] rfl
    have hDc : va_D A (wdM cI cZ h v_all v_past v_states v_refused v_far v_row v_stepAt v_depth v_tries v_values v_wrong v_isEnd v_found v_reached v_stepIn v_laid v_firstRow v_text v_textLong v_spot v_taken v_counted) := hD.sub [0, 1, 2, 3, 4, 5, 6, 7, 8, 9, 10, 11, 12, 13, 14, 15, 16] (by decide) rfl
    refine kd_vW (ws' := wdM cI cZ h v_all v_past v_states v_refused q10.1 q10.2.1 q10.2.2.1 q10.2.2.2.1 q10.2.2.2.2.1 q10.2.2.2.2.2.1 q10.2.2.2.2.2.2.1 q10.2.2.2.2.2.2.2.1 q10.2.2.2.2.2.2.2.2 v_reached v_stepIn v_laid v_firstRow v_text v_textLong v_spot v_taken v_counted) (va_runV (As := []) (rest := []) ⟨hx, hb, hml, hown, hts⟩ (c9_findsAll l D cB cI cZ cO h H.size v_all v_past v_states v_refused v_far v_row v_stepAt v_depth v_tries v_values v_wrong v_isEnd v_found v_reached v_stepIn v_laid v_firstRow v_text v_textLong v_spot v_taken v_counted q10.1 q10.2.1 q10.2.2.1 q10.2.2.2.1 q10.2.2.2.2.1 q10.2.2.2.2.2.1 q10.2.2.2.2.2.2.1 q10.2.2.2.2.2.2.2.1 q10.2.2.2.2.2.2.2.2 hq10) (cwV 0 hts gX9_ends_X9_findsAll rfl rfl rfl (by decide +kernel) ⟨Nat.le_of_ble_eq_true rfl, Nat.le_of_ble_eq_true rfl⟩) ⟨kb_blind, va_recv hK hPc (ci := 6) (q0 := 0) rfl rfl, kb_pre hPc hDc hK hN⟩ rfl rfl hl.1 rfl (lv_room (Nat.le_of_ble_eq_true rfl)) dX9_ends_12 ⟨Nat.le_refl _, Nat.le_refl _⟩) hP hD hS hA [0, 1, 2, 3, 4, 5, 6, 7, 8, 9, 10, 11, 12, 13, 14, 15, 16] [] rfl rfl rfl rfl rfl (fun H locs hP hD hS => ?_)
    refine lv_iconst (v := 0) hx hb dX9_ends_15 (by decide) ?_
    refine lv_istore_n (lv' := [(2, .int (0 : Int32)), (0, .ref (h 0)), (1, .int x1)]) hx hb dX9_ends_16 rfl hl (by decide) rfl (fun ls hl => ?_)
    refine lv_iconst (v := 0) hx hb dX9_ends_17 (by decide) ?_
    refine lv_istore_n (lv' := [(3, .int (0 : Int32)), (2, .int (0 : Int32)), (0, .ref (h 0)), (1, .int x1)]) hx hb dX9_ends_18 rfl hl (by decide) rfl (fun ls hl => ?_)
    exact J19 kFUEL v_refused q10.1 q10.2.1 q10.2.2.1 q10.2.2.2.1 q10.2.2.2.2.1 q10.2.2.2.2.2.1 q10.2.2.2.2.2.2.1 q10.2.2.2.2.2.2.2.1 q10.2.2.2.2.2.2.2.2 x1 (0 : Int32) (0 : Int32) _ _ _ hf hP hD hS (lv_sub hl [2, 3, 1, 0] rfl)
  · rw [if_neg c9] at hf
    refine lv_aload_n hx hb dX9_ends_4 rfl (lv_at hl 0 rfl) ?_
    refine lv_bipush (v := (-2)) hx hb dX9_ends_5 (by decide) ?_
    refine kb_bind hf (fun q11 hq11 hf => ?_)
    have hPc : va_P D vwCl (wdM cI cZ h v_all v_past v_states v_refused v_far v_row v_stepAt v_depth v_tries v_values v_wrong v_isEnd v_found v_reached v_stepIn v_laid v_firstRow v_text v_textLong v_spot v_taken v_counted) H := hP.sub [0, 1, 2, 3, 4, 5, 6, 7, 8, 9, 10, 11, 12, 13, 14, 15, 16] rfl
    have hDc : va_D A (wdM cI cZ h v_all v_past v_states v_refused v_far v_row v_stepAt v_depth v_tries v_values v_wrong v_isEnd v_found v_reached v_stepIn v_laid v_firstRow v_text v_textLong v_spot v_taken v_counted) := hD.sub [0, 1, 2, 3, 4, 5, 6, 7, 8, 9, 10, 11, 12, 13, 14, 15, 16] (by decide) rfl
    refine kd_iW (ws' := wdM cI cZ h v_all v_past v_states q11.2 v_far v_row v_stepAt v_depth v_tries v_values v_wrong v_isEnd v_found v_reached v_stepIn v_laid v_firstRow v_text v_textLong v_spot v_taken v_counted) (va_runV (As := [.int (-2 : Int32)]) (rest := []) ⟨hx, hb, hml, hown, hts⟩ (c9_refuses l D cB cI cZ cO h H.size (-2 : Int32) v_all v_past v_states v_refused v_far v_row v_stepAt v_depth v_tries v_values v_wrong v_isEnd v_found v_reached v_stepIn v_laid v_firstRow v_text v_textLong v_spot v_taken v_counted q11.1 q11.2 hq11) (cwV 1 hts gX9_ends_X9_refuses rfl rfl rfl (by decide +kernel) ⟨Nat.le_of_ble_eq_true rfl, Nat.le_of_ble_eq_true rfl⟩) ⟨kb_blind, va_recv hK hPc (ci := 6) (q0 := 0) rfl rfl, kb_pre hPc hDc hK hN⟩ rfl rfl hl.1 rfl (lv_room (Nat.le_of_ble_eq_true rfl)) dX9_ends_7 ⟨Nat.le_refl _, Nat.le_refl _⟩) hP hD hS hA [0, 1, 2, 3, 4, 5, 6, 7, 8, 9, 10, 11, 12, 13, 14, 15, 16] [] rfl rfl rfl rfl rfl (fun H locs hn12 hP hD hS => ?_)
    cases hf
    exact hend _ _ _ _ rfl hP hS dX9_ends_10

set_option maxHeartbeats 4000000 in
set_option maxRecDepth 100000 in
theorem c9_spreads (l : Launch) (D : va_G) (cB cI cZ cO : ClassId) (h : Nat → Nat) (sz : Nat) (v_all : Nat → Int32) (v_past : Nat → Int32) (v_states : Int32) (v_refused : Nat → Int32) (v_far : Nat → Int32) (v_row : Nat → Int32) (v_stepAt : Nat → Int32) (v_depth : Int32) (v_tries : Nat → Int32) (v_values : Nat → Int32) (v_wrong : Int32) (v_isEnd : Nat → Int32) (v_found : Nat → Int32) (v_reached : Nat → Int32) (v_stepIn : Nat → Int32) (v_laid : Nat → Int32) (v_firstRow : Nat → Int32) (v_text : Nat → Int32) (v_textLong : Int32) (v_spot : Int32) (v_taken : Int32) (v_counted : Nat → Int32) (v_far' : Nat → Int32) (v_reached' : Nat → Int32) (hf : f9_spreads v_all v_far v_reached = some (v_far', v_reached')) : Met l yX9_spreads wsX9_spreads rm9_spreads (va_Pc [.ref (h 0)] (kb_B D (ka_tys cB cI cZ cO) sz (wdM cI cZ h v_all v_past v_states v_refused v_far v_row v_stepAt v_depth v_tries v_values v_wrong v_isEnd v_found v_reached v_stepIn v_laid v_firstRow v_text v_textLong v_spot v_taken v_counted))) (va_Qv (fun (_ : Unit) => True) (fun _ t => va_P D vwCl (wdM cI cZ h v_all v_past v_states v_refused (v_far') v_row v_stepAt v_depth v_tries v_values v_wrong v_isEnd v_found (v_reached') v_stepIn v_laid v_firstRow v_text v_textLong v_spot v_taken v_counted) t.heap) (va_A (wdM cI cZ h v_all v_past v_states v_refused v_far v_row v_stepAt v_depth v_tries v_values v_wrong v_isEnd v_found v_reached v_stepIn v_laid v_firstRow v_text v_textLong v_spot v_taken v_counted) sz)) 0 0 (va_A (wdM cI cZ h v_all v_past v_states v_refused v_far v_row v_stepAt v_depth v_tries v_values v_wrong v_isEnd v_found v_reached v_stepIn v_laid v_firstRow v_text v_textLong v_spot v_taken v_counted) sz) := by
  refine kb_metV (cc := cX9_spreads) (maxL := 3) (by decide) rfl (Nat.le_of_ble_eq_true rfl) ?_
  intro p e s m args below meth c Q A ls H hx hb hml hown hts hK hN hP hD hS hA hl hend
  have hown : s.vm.findClass RX9 = some m.cls := hown
  have hl : lv_has ls 3 [(0, .ref (h 0))] := hl
  have hin9 : ∀ w ∈ u_ws RX9 TX9 22, w ∈ wsX9_spreads := by decide +kernel
  have J31 : ∀ (n : Nat) (v_far : Nat → Int32) (v_reached : Nat → Int32) (x1 : Int32) (H : Heap) (locs : List Loc) (ls : Array Slot), f9_spreads_l31 n v_all v_far v_reached x1 = some (v_far', v_reached') → va_P D vwCl (wdM cI cZ h v_all v_past v_states v_refused v_far v_row v_stepAt v_depth v_tries v_values v_wrong v_isEnd v_found v_reached v_stepIn v_laid v_firstRow v_text v_textLong v_spot v_taken v_counted) H → va_D A (wdM cI cZ h v_all v_past v_states v_refused v_far v_row v_stepAt v_depth v_tries v_values v_wrong v_isEnd v_found v_reached v_stepIn v_laid v_firstRow v_text v_textLong v_spot v_taken v_counted) → va_S A s.heap H locs → lv_has ls 3 [(0, .ref (h 0)), (1, .int x1)] → W p l e rm9_spreads s m args below meth c H locs 0 0 Q (F0 m 31 ls []) := by
    intro n
    induction n with
    | zero =>
      intro v_far v_reached x1 H locs ls hf
      cases (show (none : Option ((Nat → Int32) × (Nat → Int32))) = some (v_far', v_reached') from hf)
    | succ n ih =>
      have J124 : ∀ (v_far : Nat → Int32) (v_reached : Nat → Int32) (x1 : Int32) (H : Heap) (locs : List Loc) (ls : Array Slot), f9_spreads_b124 (f9_spreads_l31 n) v_all v_far v_reached x1 = some (v_far', v_reached') → va_P D vwCl (wdM cI cZ h v_all v_past v_states v_refused v_far v_row v_stepAt v_depth v_tries v_values v_wrong v_isEnd v_found v_reached v_stepIn v_laid v_firstRow v_text v_textLong v_spot v_taken v_counted) H → va_D A (wdM cI cZ h v_all v_past v_states v_refused v_far v_row v_stepAt v_depth v_tries v_values v_wrong v_isEnd v_found v_reached v_stepIn v_laid v_firstRow v_text v_textLong v_spot v_taken v_counted) → va_S A s.heap H locs → lv_has ls 3 [(0, .ref (h 0)), (1, .int x1)] → W p l e rm9_spreads s m args below meth c H locs 0 0 Q (F0 m 124 ls []) := by
        intro v_far v_reached x1 H locs ls hf hP hD hS hl
        rw [f9_spreads_b124] at hf
        refine lv_iinc (v := (x1 + 1)) (lv' := [(1, .int (x1 + 1)), (0, .ref (h 0))]) hx hb dX9_spreads_124 hl (k := 1) rfl rfl (by decide) rfl (fun ls hl => ?_)
        refine lv_goto (tgt := 31) hx hb dX9_spreads_127 (by decide) ?_
        exact ih v_far v_reached (x1 + 1) _ _ _ hf hP hD hS (lv_sub hl [1, 0] rfl)
      have J39 : ∀ (n39 : Nat) (v_far : Nat → Int32) (v_reached : Nat → Int32) (x1 : Int32) (x2 : Int32) (H : Heap) (locs : List Loc) (ls : Array Slot), f9_spreads_l39 (f9_spreads_l31 n) n39 v_all v_far v_reached x1 x2 = some (v_far', v_reached') → va_P D vwCl (wdM cI cZ h v_all v_past v_states v_refused v_far v_row v_stepAt v_depth v_tries v_values v_wrong v_isEnd v_found v_reached v_stepIn v_laid v_firstRow v_text v_textLong v_spot v_taken v_counted) H → va_D A (wdM cI cZ h v_all v_past v_states v_refused v_far v_row v_stepAt v_depth v_tries v_values v_wrong v_isEnd v_found v_reached v_stepIn v_laid v_firstRow v_text v_textLong v_spot v_taken v_counted) → va_S A s.heap H locs → lv_has ls 3 [(0, .ref (h 0)), (1, .int x1), (2, .int x2)] → W p l e rm9_spreads s m args below meth c H locs 0 0 Q (F0 m 39 ls []) := by
        intro n39
        induction n39 with
        | zero =>
          intro v_far v_reached x1 x2 H locs ls hf
          cases (show (none : Option ((Nat → Int32) × (Nat → Int32))) = some (v_far', v_reached') from hf)
        | succ n39 ih39 =>
          have J118 : ∀ (v_far : Nat → Int32) (v_reached : Nat → Int32) (x1 : Int32) (x2 : Int32) (H : Heap) (locs : List Loc) (ls : Array Slot), f9_spreads_b118 (f9_spreads_l31 n) (f9_spreads_l39 (f9_spreads_l31 n) n39) v_all v_far v_reached x1 x2 = some (v_far', v_reached') → va_P D vwCl (wdM cI cZ h v_all v_past v_states v_refused v_far v_row v_stepAt v_depth v_tries v_values v_wrong v_isEnd v_found v_reached v_stepIn v_laid v_firstRow v_text v_textLong v_spot v_taken v_counted) H → va_D A (wdM cI cZ h v_all v_past v_states v_refused v_far v_row v_stepAt v_depth v_tries v_values v_wrong v_isEnd v_found v_reached v_stepIn v_laid v_firstRow v_text v_textLong v_spot v_taken v_counted) → va_S A s.heap H locs → lv_has ls 3 [(0, .ref (h 0)), (1, .int x1), (2, .int x2)] → W p l e rm9_spreads s m args below meth c H locs 0 0 Q (F0 m 118 ls []) := by
            intro v_far v_reached x1 x2 H locs ls hf hP hD hS hl
            rw [f9_spreads_b118] at hf
            refine lv_iinc (v := (x2 + 1)) (lv' := [(2, .int (x2 + 1)), (0, .ref (h 0)), (1, .int x1)]) hx hb dX9_spreads_118 hl (k := 2) rfl rfl (by decide) rfl (fun ls hl => ?_)
            refine lv_goto (tgt := 39) hx hb dX9_spreads_121 (by decide) ?_
            exact ih v_far v_reached x1 (x2 + 1) _ _ _ hf hP hD hS (lv_sub hl [1, 2, 0] rfl)
          have J115 : ∀ (v_far : Nat → Int32) (v_reached : Nat → Int32) (x1 : Int32) (x2 : Int32) (s1 : Int32) (s2 : Int32) (H : Heap) (locs : List Loc) (ls : Array Slot), f9_spreads_b115 (f9_spreads_l31 n) (f9_spreads_l39 (f9_spreads_l31 n) n39) v_all v_far v_reached x1 x2 s1 s2 = some (v_far', v_reached') → va_P D vwCl (wdM cI cZ h v_all v_past v_states v_refused v_far v_row v_stepAt v_depth v_tries v_values v_wrong v_isEnd v_found v_reached v_stepIn v_laid v_firstRow v_text v_textLong v_spot v_taken v_counted) H → va_D A (wdM cI cZ h v_all v_past v_states v_refused v_far v_row v_stepAt v_depth v_tries v_values v_wrong v_isEnd v_found v_reached v_stepIn v_laid v_firstRow v_text v_textLong v_spot v_taken v_counted) → va_S A s.heap H locs → lv_has ls 3 [(0, .ref (h 0)), (1, .int x1), (2, .int x2)] → W p l e rm9_spreads s m args below meth c H locs 0 0 Q (F0 m 115 ls [.int s2, .int s1, .ref (h 11)]) := by
            intro v_far v_reached x1 x2 s1 s2 H locs ls hf hP hD hS hl
            rw [f9_spreads_b115] at hf
            refine lv_iadd hx hb dX9_spreads_115 ?_
            refine lv_iconst (v := 1) hx hb dX9_spreads_116 (by decide) ?_
            refine kb_bind hf (fun v11 hv11 hf => ?_)
            refine ka_zast (D := D) (cl := vwCl) hx hb hK hP hD hS 11 2 (f := v_reached) (g := v11) rfl rfl (awr_in hv11) (awr_v hv11) dX9_spreads_117 (fun H locs hP hD hS => ?_)
            have hP : va_P D vwCl (wdM cI cZ h v_all v_past v_states v_refused v_far v_row v_stepAt v_depth v_tries v_values v_wrong v_isEnd v_found v11 v_stepIn v_laid v_firstRow v_text v_textLong v_spot v_taken v_counted) H := hP
            have hD : va_D A (wdM cI cZ h v_all v_past v_states v_refused v_far v_row v_stepAt v_depth v_tries v_values v_wrong v_isEnd v_found v11 v_stepIn v_laid v_firstRow v_text v_textLong v_spot v_taken v_counted) := hD
            exact J118 v_far v11 x1 x2 _ _ _ hf hP hD hS (lv_sub hl [0, 1, 2] rfl)
          intro v_far v_reached x1 x2 H locs ls hf hP hD hS hl
          rw [f9_spreads_l39_s] at hf
          refine lv_iload_n hx hb dX9_spreads_39 rfl (lv_at hl 2 rfl) ?_
          refine lv_iconst (v := 3) hx hb dX9_spreads_40 (by decide) ?_
          refine lv_icmp_ge (tgt := 124) hx hb dX9_spreads_41 (by decide) (fun c12 => ?_) (fun c12 => ?_)
          · rw [if_pos c12] at hf
            exact J124 v_far v_reached x1 _ _ _ hf hP hD hS (lv_sub hl [0, 1] rfl)
          · rw [if_neg c12] at hf
            refine lv_aload_n hx hb dX9_spreads_44 rfl (lv_at hl 0 rfl) ?_
            refine va_get (D := D) (cl := vwCl) (ci := 6) (v := .ref (h 11)) (C := RX9) (T := TX9) (N := 22) hx hb hts hin9 hown hK hP 0 rfl rfl 13 (by decide) (hts (.fieldLink RX9 41 "StepOrdersModel" "reached" "[Z") (by decide +kernel)) (fun _ h9 => h9) rfl dX9_spreads_45 ?_
            refine lv_iload_n hx hb dX9_spreads_48 rfl (lv_at hl 1 rfl) ?_
            refine kb_bind hf (fun v13 hv13 hf => ?_)
            refine ka_zald (D := D) (cl := vwCl) hx hb hK hP 11 2 (f := v_reached) rfl rfl (ard_in hv13) (ard_v hv13) dX9_spreads_49 ?_
            refine lv_if_eq (tgt := 124) hx hb dX9_spreads_50 (by decide) (fun c14 => ?_) (fun c14 => ?_)
            · rw [if_pos c14] at hf
              exact J124 v_far v_reached x1 _ _ _ hf hP hD hS (lv_sub hl [0, 1] rfl)
            · rw [if_neg c14] at hf
              refine lv_aload_n hx hb dX9_spreads_53 rfl (lv_at hl 0 rfl) ?_
              refine va_get (D := D) (cl := vwCl) (ci := 6) (v := .ref (h 4)) (C := RX9) (T := TX9) (N := 22) hx hb hts hin9 hown hK hP 0 rfl rfl 4 (by decide) (hts (.fieldLink RX9 19 "StepOrdersModel" "far" "[I") (by decide +kernel)) (fun _ h9 => h9) rfl dX9_spreads_54 ?_
              refine lv_iconst (v := 0) hx hb dX9_spreads_57 (by decide) ?_
              refine lv_iload_n hx hb dX9_spreads_58 rfl (lv_at hl 1 rfl) ?_
              refine lv_iconst (v := 5) hx hb dX9_spreads_59 (by decide) ?_
              refine lv_irem hx hb dX9_spreads_60 (by decide) ?_
              refine ka_iast (D := D) (cl := vwCl) hx hb hK hP hD hS 4 1 (f := v_far) (g := (upd v_far 0 (x1 - x1 / (5 : Int32) * (5 : Int32)))) rfl rfl (show ¬ (_ ∨ _) from by decide) rfl dX9_spreads_61 (fun H locs hP hD hS => ?_)
              have hP : va_P D vwCl (wdM cI cZ h v_all v_past v_states v_refused (upd v_far 0 (x1 - x1 / (5 : Int32) * (5 : Int32))) v_row v_stepAt v_depth v_tries v_values v_wrong v_isEnd v_found v_reached v_stepIn v_laid v_firstRow v_text v_textLong v_spot v_taken v_counted) H := hP
              have hD : va_D A (wdM cI cZ h v_all v_past v_states v_refused (upd v_far 0 (x1 - x1 / (5 : Int32) * (5 : Int32))) v_row v_stepAt v_depth v_tries v_values v_wrong v_isEnd v_found v_reached v_stepIn v_laid v_firstRow v_text v_textLong v_spot v_taken v_counted) := hD
              refine lv_aload_n hx hb dX9_spreads_62 rfl (lv_at hl 0 rfl) ?_
              refine va_get (D := D) (cl := vwCl) (ci := 6) (v := .ref (h 4)) (C := RX9) (T := TX9) (N := 22) hx hb hts hin9 hown hK hP 0 rfl rfl 4 (by decide) (hts (.fieldLink RX9 19 "StepOrdersModel" "far" "[I") (by decide +kernel)) (fun _ h9 => h9) rfl dX9_spreads_63 ?_
              refine lv_iconst (v := 1) hx hb dX9_spreads_66 (by decide) ?_
              refine lv_iload_n hx hb dX9_spreads_67 rfl (lv_at hl 1 rfl) ?_
              refine lv_iconst (v := 5) hx hb dX9_spreads_68 (by decide) ?_
              refine lv_idiv hx hb dX9_spreads_69 (by decide) ?_
              refine lv_iconst (v := 5) hx hb dX9_spreads_70 (by decide) ?_
              refine lv_irem hx hb dX9_spreads_71 (by decide) ?_
              refine ka_iast (D := D) (cl := vwCl) hx hb hK hP hD hS 4 1 (f := (upd v_far 0 (x1 - x1 / (5 : Int32) * (5 : Int32)))) (g := (upd (upd v_far 0 (x1 - x1 / (5 : Int32) * (5 : Int32))) 1 ((x1 / (5 : Int32)) - (x1 / (5 : Int32)) / (5 : Int32) * (5 : Int32)))) rfl rfl (show ¬ (_ ∨ _) from by decide) rfl dX9_spreads_72 (fun H locs hP hD hS => ?_)
              have hP : va_P D vwCl (wdM cI cZ h v_all v_past v_states v_refused (upd (upd v_far 0 (x1 - x1 / (5 : Int32) * (5 : Int32))) 1 ((x1 / (5 : Int32)) - (x1 / (5 : Int32)) / (5 : Int32) * (5 : Int32))) v_row v_stepAt v_depth v_tries v_values v_wrong v_isEnd v_found v_reached v_stepIn v_laid v_firstRow v_text v_textLong v_spot v_taken v_counted) H := hP
              have hD : va_D A (wdM cI cZ h v_all v_past v_states v_refused (upd (upd v_far 0 (x1 - x1 / (5 : Int32) * (5 : Int32))) 1 ((x1 / (5 : Int32)) - (x1 / (5 : Int32)) / (5 : Int32) * (5 : Int32))) v_row v_stepAt v_depth v_tries v_values v_wrong v_isEnd v_found v_reached v_stepIn v_laid v_firstRow v_text v_textLong v_spot v_taken v_counted) := hD
              refine lv_aload_n hx hb dX9_spreads_73 rfl (lv_at hl 0 rfl) ?_
              refine va_get (D := D) (cl := vwCl) (ci := 6) (v := .ref (h 4)) (C := RX9) (T := TX9) (N := 22) hx hb hts hin9 hown hK hP 0 rfl rfl 4 (by decide) (hts (.fieldLink RX9 19 "StepOrdersModel" "far" "[I") (by decide +kernel)) (fun _ h9 => h9) rfl dX9_spreads_74 ?_
              refine lv_iconst (v := 2) hx hb dX9_spreads_77 (by decide) ?_
              refine lv_iload_n hx hb dX9_spreads_78 rfl (lv_at hl 1 rfl) ?_
              refine lv_bipush (v := 25) hx hb dX9_spreads_79 (by decide) ?_
              refine lv_idiv hx hb dX9_spreads_81 (by decide) ?_
              refine ka_iast (D := D) (cl := vwCl) hx hb hK hP hD hS 4 1 (f := (upd (upd v_far 0 (x1 - x1 / (5 : Int32) * (5 : Int32))) 1 ((x1 / (5 : Int32)) - (x1 / (5 : Int32)) / (5 : Int32) * (5 : Int32)))) (g := (upd (upd (upd v_far 0 (x1 - x1 / (5 : Int32) * (5 : Int32))) 1 ((x1 / (5 : Int32)) - (x1 / (5 : Int32)) / (5 : Int32) * (5 : Int32))) 2 (x1 / (25 : Int32)))) rfl rfl (show ¬ (_ ∨ _) from by decide) rfl dX9_spreads_82 (fun H locs hP hD hS => ?_)
              have hP : va_P D vwCl (wdM cI cZ h v_all v_past v_states v_refused (upd (upd (upd v_far 0 (x1 - x1 / (5 : Int32) * (5 : Int32))) 1 ((x1 / (5 : Int32)) - (x1 / (5 : Int32)) / (5 : Int32) * (5 : Int32))) 2 (x1 / (25 : Int32))) v_row v_stepAt v_depth v_tries v_values v_wrong v_isEnd v_found v_reached v_stepIn v_laid v_firstRow v_text v_textLong v_spot v_taken v_counted) H := hP
              have hD : va_D A (wdM cI cZ h v_all v_past v_states v_refused (upd (upd (upd v_far 0 (x1 - x1 / (5 : Int32) * (5 : Int32))) 1 ((x1 / (5 : Int32)) - (x1 / (5 : Int32)) / (5 : Int32) * (5 : Int32))) 2 (x1 / (25 : Int32))) v_row v_stepAt v_depth v_tries v_values v_wrong v_isEnd v_found v_reached v_stepIn v_laid v_firstRow v_text v_textLong v_spot v_taken v_counted) := hD
              refine lv_aload_n hx hb dX9_spreads_83 rfl (lv_at hl 0 rfl) ?_
              refine lv_iload_n hx hb dX9_spreads_84 rfl (lv_at hl 2 rfl) ?_
              refine kb_bind hf (fun q15 hq15 hf => ?_)
              have hPc : va_P D vwCl (wdM cI cZ h v_all v_past v_states v_refused (upd (upd (upd v_far 0 (x1 - x1 / (5 : Int32) * (5 : Int32))) 1 ((x1 / (5 : Int32)) - (x1 / (5 : Int32)) / (5 : Int32) * (5 : Int32))) 2 (x1 / (25 : Int32))) v_row v_stepAt v_depth v_tries v_values v_wrong v_isEnd v_found v_reached v_stepIn v_laid v_firstRow v_text v_textLong v_spot v_taken v_counted) H := hP.sub [0, 1, 2, 3, 4, 5, 6, 7, 8, 9, 10, 11, 12, 13, 14, 15, 16] rfl
              have hDc : va_D A (wdM cI cZ h v_all v_past v_states v_refused (upd (upd (upd v_far 0 (x1 - x1 / (5 : Int32) * (5 : Int32))) 1 ((x1 / (5 : Int32)) - (x1 / (5 : Int32)) / (5 : Int32) * (5 : Int32))) 2 (x1 / (25 : Int32))) v_row v_stepAt v_depth v_tries v_values v_wrong v_isEnd v_found v_reached v_stepIn v_laid v_firstRow v_text v_textLong v_spot v_taken v_counted) := hD.sub [0, 1, 2, 3, 4, 5, 6, 7, 8, 9, 10, 11, 12, 13, 14, 15, 16] (by decide) rfl
              refine kd_iR (va_runV (As := [.int x2]) (rest := []) ⟨hx, hb, hml, hown, hts⟩ (c9_canDo l D cB cI cZ cO h H.size x2 v_all v_past v_states v_refused (upd (upd (upd v_far 0 (x1 - x1 / (5 : Int32) * (5 : Int32))) 1 ((x1 / (5 : Int32)) - (x1 / (5 : Int32)) / (5 : Int32) * (5 : Int32))) 2 (x1 / (25 : Int32))) v_row v_stepAt v_depth v_tries v_values v_wrong v_isEnd v_found v_reached v_stepIn v_laid v_firstRow v_text v_textLong v_spot v_taken v_counted q15 hq15) (cwV 1 hts gX9_spreads_X9_canDo rfl rfl rfl (by decide +kernel) ⟨Nat.le_of_ble_eq_true rfl, Nat.le_of_ble_eq_true rfl⟩) ⟨kb_blind, va_recv hK hPc (ci := 6) (q0 := 0) rfl rfl, kb_pre hPc hDc hK hN⟩ rfl rfl hl.1 rfl (lv_room (Nat.le_of_ble_eq_true rfl)) dX9_spreads_85 ⟨Nat.le_refl _, Nat.le_refl _⟩) hP hD hS hA [0, 1, 2, 3, 4, 5, 6, 7, 8, 9, 10, 11, 12, 13, 14, 15, 16] rfl (fun H locs hn16 hP hS => ?_)
              refine lv_if_eq (tgt := 118) hx hb dX9_spreads_88 (by decide) (fun c17 => ?_) (fun c17 => ?_)
              · rw [if_pos c17] at hf
                exact J118 (upd (upd (upd v_far 0 (x1 - x1 / (5 : Int32) * (5 : Int32))) 1 ((x1 / (5 : Int32)) - (x1 / (5 : Int32)) / (5 : Int32) * (5 : Int32))) 2 (x1 / (25 : Int32))) v_reached x1 x2 _ _ _ hf hP hD hS (lv_sub hl [0, 1, 2] rfl)
              · rw [if_neg c17] at hf
                refine lv_aload_n hx hb dX9_spreads_91 rfl (lv_at hl 0 rfl) ?_
                refine va_get (D := D) (cl := vwCl) (ci := 6) (v := .ref (h 11)) (C := RX9) (T := TX9) (N := 22) hx hb hts hin9 hown hK hP 0 rfl rfl 13 (by decide) (hts (.fieldLink RX9 41 "StepOrdersModel" "reached" "[Z") (by decide +kernel)) (fun _ h9 => h9) rfl dX9_spreads_92 ?_
                refine lv_iload_n hx hb dX9_spreads_95 rfl (lv_at hl 1 rfl) ?_
                refine lv_iload_n hx hb dX9_spreads_96 rfl (lv_at hl 2 rfl) ?_
                refine lv_if_ne (tgt := 104) hx hb dX9_spreads_97 (by decide) (fun c18 => ?_) (fun c18 => ?_)
                · rw [if_neg c18] at hf
                  refine lv_iload_n hx hb dX9_spreads_104 rfl (lv_at hl 2 rfl) ?_
                  refine lv_iconst (v := 1) hx hb dX9_spreads_105 (by decide) ?_
                  refine lv_icmp_ne (tgt := 113) hx hb dX9_spreads_106 (by decide) (fun c19 => ?_) (fun c19 => ?_)
                  · rw [if_neg c19] at hf
                    refine lv_bipush (v := 25) hx hb dX9_spreads_113 (by decide) ?_
                    exact J115 (upd (upd (upd v_far 0 (x1 - x1 / (5 : Int32) * (5 : Int32))) 1 ((x1 / (5 : Int32)) - (x1 / (5 : Int32)) / (5 : Int32) * (5 : Int32))) 2 (x1 / (25 : Int32))) v_reached x1 x2 x1 (25 : Int32) _ _ _ hf hP hD hS (lv_sub hl [0, 1, 2] rfl)
                  · rw [if_pos c19] at hf
                    refine lv_iconst (v := 5) hx hb dX9_spreads_109 (by decide) ?_
                    refine lv_goto (tgt := 115) hx hb dX9_spreads_110 (by decide) ?_
                    exact J115 (upd (upd (upd v_far 0 (x1 - x1 / (5 : Int32) * (5 : Int32))) 1 ((x1 / (5 : Int32)) - (x1 / (5 : Int32)) / (5 : Int32) * (5 : Int32))) 2 (x1 / (25 : Int32))) v_reached x1 x2 x1 (5 : Int32) _ _ _ hf hP hD hS (lv_sub hl [0, 1, 2] rfl)
                · rw [if_pos c18] at hf
                  refine lv_iconst (v := 1) hx hb dX9_spreads_100 (by decide) ?_
                  refine lv_goto (tgt := 115) hx hb dX9_spreads_101 (by decide) ?_
                  exact J115 (upd (upd (upd v_far 0 (x1 - x1 / (5 : Int32) * (5 : Int32))) 1 ((x1 / (5 : Int32)) - (x1 / (5 : Int32)) / (5 : Int32) * (5 : Int32))) 2 (x1 / (25 : Int32))) v_reached x1 x2 x1 (1 : Int32) _ _ _ hf hP hD hS (lv_sub hl [0, 1, 2] rfl)
      intro v_far v_reached x1 H locs ls hf hP hD hS hl
      rw [f9_spreads_l31_s] at hf
      refine lv_iload_n hx hb dX9_spreads_31 rfl (lv_at hl 1 rfl) ?_
      refine lv_bipush (v := 125) hx hb dX9_spreads_32 (by decide) ?_
      refine lv_icmp_ge (tgt := 130) hx hb dX9_spreads_34 (by decide) (fun c20 => ?_) (fun c20 => ?_)
      · rw [if_pos c20] at hf
        cases hf
        exact hend _ _ _ _ hP hS dX9_spreads_130
      · rw [if_neg c20] at hf
        refine lv_iconst (v := 0) hx hb dX9_spreads_37 (by decide) ?_
        refine lv_istore_n (lv' := [(2, .int (0 : Int32)), (0, .ref (h 0)), (1, .int x1)]) hx hb dX9_spreads_38 rfl hl (by decide) rfl (fun ls hl => ?_)
        exact J39 kFUEL v_far v_reached x1 (0 : Int32) _ _ _ hf hP hD hS (lv_sub hl [1, 2, 0] rfl)
  have J29 : ∀ (v_far : Nat → Int32) (v_reached : Nat → Int32) (H : Heap) (locs : List Loc) (ls : Array Slot), f9_spreads_b29 v_all v_far v_reached = some (v_far', v_reached') → va_P D vwCl (wdM cI cZ h v_all v_past v_states v_refused v_far v_row v_stepAt v_depth v_tries v_values v_wrong v_isEnd v_found v_reached v_stepIn v_laid v_firstRow v_text v_textLong v_spot v_taken v_counted) H → va_D A (wdM cI cZ h v_all v_past v_states v_refused v_far v_row v_stepAt v_depth v_tries v_values v_wrong v_isEnd v_found v_reached v_stepIn v_laid v_firstRow v_text v_textLong v_spot v_taken v_counted) → va_S A s.heap H locs → lv_has ls 3 [(0, .ref (h 0))] → W p l e rm9_spreads s m args below meth c H locs 0 0 Q (F0 m 29 ls []) := by
    intro v_far v_reached H locs ls hf hP hD hS hl
    rw [f9_spreads_b29] at hf
    refine lv_iconst (v := 0) hx hb dX9_spreads_29 (by decide) ?_
    refine lv_istore_n (lv' := [(1, .int (0 : Int32)), (0, .ref (h 0))]) hx hb dX9_spreads_30 rfl hl (by decide) rfl (fun ls hl => ?_)
    exact J31 kFUEL v_far v_reached (0 : Int32) _ _ _ hf hP hD hS (lv_sub hl [1, 0] rfl)
  have J2 : ∀ (n : Nat) (v_far : Nat → Int32) (v_reached : Nat → Int32) (x1 : Int32) (H : Heap) (locs : List Loc) (ls : Array Slot), f9_spreads_l2 n v_all v_far v_reached x1 = some (v_far', v_reached') → va_P D vwCl (wdM cI cZ h v_all v_past v_states v_refused v_far v_row v_stepAt v_depth v_tries v_values v_wrong v_isEnd v_found v_reached v_stepIn v_laid v_firstRow v_text v_textLong v_spot v_taken v_counted) H → va_D A (wdM cI cZ h v_all v_past v_states v_refused v_far v_row v_stepAt v_depth v_tries v_values v_wrong v_isEnd v_found v_reached v_stepIn v_laid v_firstRow v_text v_textLong v_spot v_taken v_counted) → va_S A s.heap H locs → lv_has ls 3 [(0, .ref (h 0)), (1, .int x1)] → W p l e rm9_spreads s m args below meth c H locs 0 0 Q (F0 m 2 ls []) := by
    intro n
    induction n with
    | zero =>
      intro v_far v_reached x1 H locs ls hf
      cases (show (none : Option ((Nat → Int32) × (Nat → Int32))) = some (v_far', v_reached') from hf)
    | succ n ih =>
      have J22 : ∀ (v_far : Nat → Int32) (v_reached : Nat → Int32) (x1 : Int32) (s1 : Int32) (s2 : Int32) (H : Heap) (locs : List Loc) (ls : Array Slot), f9_spreads_b22 (f9_spreads_l2 n) v_all v_far v_reached x1 s1 s2 = some (v_far', v_reached') → va_P D vwCl (wdM cI cZ h v_all v_past v_states v_refused v_far v_row v_stepAt v_depth v_tries v_values v_wrong v_isEnd v_found v_reached v_stepIn v_laid v_firstRow v_text v_textLong v_spot v_taken v_counted) H → va_D A (wdM cI cZ h v_all v_past v_states v_refused v_far v_row v_stepAt v_depth v_tries v_values v_wrong v_isEnd v_found v_reached v_stepIn v_laid v_firstRow v_text v_textLong v_spot v_taken v_counted) → va_S A s.heap H locs → lv_has ls 3 [(0, .ref (h 0)), (1, .int x1)] → W p l e rm9_spreads s m args below meth c H locs 0 0 Q (F0 m 22 ls [.int s2, .int s1, .ref (h 11)]) := by
        intro v_far v_reached x1 s1 s2 H locs ls hf hP hD hS hl
        rw [f9_spreads_b22] at hf
        refine kb_bind hf (fun v24 hv24 hf => ?_)
        refine ka_zast (D := D) (cl := vwCl) hx hb hK hP hD hS 11 2 (f := v_reached) (g := v24) rfl rfl (awr_in hv24) (awr_v hv24) dX9_spreads_22 (fun H locs hP hD hS => ?_)
        have hP : va_P D vwCl (wdM cI cZ h v_all v_past v_states v_refused v_far v_row v_stepAt v_depth v_tries v_values v_wrong v_isEnd v_found v24 v_stepIn v_laid v_firstRow v_text v_textLong v_spot v_taken v_counted) H := hP
        have hD : va_D A (wdM cI cZ h v_all v_past v_states v_refused v_far v_row v_stepAt v_depth v_tries v_values v_wrong v_isEnd v_found v24 v_stepIn v_laid v_firstRow v_text v_textLong v_spot v_taken v_counted) := hD
        refine lv_iinc (v := (x1 + 1)) (lv' := [(1, .int (x1 + 1)), (0, .ref (h 0))]) hx hb dX9_spreads_23 hl (k := 1) rfl rfl (by decide) rfl (fun ls hl => ?_)
        refine lv_goto (tgt := 2) hx hb dX9_spreads_26 (by decide) ?_
        exact ih v_far v24 (x1 + 1) _ _ _ hf hP hD hS (lv_sub hl [1, 0] rfl)
      intro v_far v_reached x1 H locs ls hf hP hD hS hl
      rw [f9_spreads_l2_s] at hf
      refine lv_iload_n hx hb dX9_spreads_2 rfl (lv_at hl 1 rfl) ?_
      refine lv_bipush (v := 125) hx hb dX9_spreads_3 (by decide) ?_
      refine lv_icmp_ge (tgt := 29) hx hb dX9_spreads_5 (by decide) (fun c25 => ?_) (fun c25 => ?_)
      · rw [if_pos c25] at hf
        exact J29 v_far v_reached _ _ _ hf hP hD hS (lv_sub hl [0] rfl)
      · rw [if_neg c25] at hf
        refine lv_aload_n hx hb dX9_spreads_8 rfl (lv_at hl 0 rfl) ?_
        refine va_get (D := D) (cl := vwCl) (ci := 6) (v := .ref (h 11)) (C := RX9) (T := TX9) (N := 22) hx hb hts hin9 hown hK hP 0 rfl rfl 13 (by decide) (hts (.fieldLink RX9 41 "StepOrdersModel" "reached" "[Z") (by decide +kernel)) (fun _ h9 => h9) rfl dX9_spreads_9 ?_
        refine lv_iload_n hx hb dX9_spreads_12 rfl (lv_at hl 1 rfl) ?_
        refine lv_iload_n hx hb dX9_spreads_13 rfl (lv_at hl 1 rfl) ?_
        refine lv_if_ne (tgt := 21) hx hb dX9_spreads_14 (by decide) (fun c26 => ?_) (fun c26 => ?_)
        · rw [if_neg c26] at hf
          refine lv_iconst (v := 0) hx hb dX9_spreads_21 (by decide) ?_
          exact J22 v_far v_reached x1 x1 (0 : Int32) _ _ _ hf hP hD hS (lv_sub hl [0, 1] rfl)
        · rw [if_pos c26] at hf
          refine lv_iconst (v := 1) hx hb dX9_spreads_17 (by decide) ?_
          refine lv_goto (tgt := 22) hx hb dX9_spreads_18 (by decide) ?_
          exact J22 v_far v_reached x1 x1 (1 : Int32) _ _ _ hf hP hD hS (lv_sub hl [0, 1] rfl)
  rw [f9_spreads] at hf
  refine lv_iconst (v := 0) hx hb dX9_spreads_0 (by decide) ?_
  refine lv_istore_n (lv' := [(1, .int (0 : Int32)), (0, .ref (h 0))]) hx hb dX9_spreads_1 rfl hl (by decide) rfl (fun ls hl => ?_)
  exact J2 kFUEL v_far v_reached (0 : Int32) _ _ _ hf hP hD hS (lv_sub hl [1, 0] rfl)

set_option maxHeartbeats 4000000 in
set_option maxRecDepth 100000 in
theorem c9_isRace (l : Launch) (D : va_G) (cB cI cZ cO : ClassId) (h : Nat → Nat) (sz : Nat) (x1 : Int32) (x2 : Int32) (x3 : Int32) (x4 : Int32) (v_all : Nat → Int32) (v_past : Nat → Int32) (v_states : Int32) (v_refused : Nat → Int32) (v_far : Nat → Int32) (v_row : Nat → Int32) (v_stepAt : Nat → Int32) (v_depth : Int32) (v_tries : Nat → Int32) (v_values : Nat → Int32) (v_wrong : Int32) (v_isEnd : Nat → Int32) (v_found : Nat → Int32) (v_reached : Nat → Int32) (v_stepIn : Nat → Int32) (v_laid : Nat → Int32) (v_firstRow : Nat → Int32) (v_text : Nat → Int32) (v_textLong : Int32) (v_spot : Int32) (v_taken : Int32) (v_counted : Nat → Int32) (r0 : Int32) (v_far' : Nat → Int32) (hf : f9_isRace v_all v_far v_reached x1 x2 x3 x4 = some (r0, v_far')) : Met l yX9_isRace wsX9_isRace rm9_isRace (va_Pc [.ref (h 0), .int x1, .int x2, .int x3, .int x4] (kb_B D (ka_tys cB cI cZ cO) sz (wdM cI cZ h v_all v_past v_states v_refused v_far v_row v_stepAt v_depth v_tries v_values v_wrong v_isEnd v_found v_reached v_stepIn v_laid v_firstRow v_text v_textLong v_spot v_taken v_counted))) (va_Qi (kb_post .boolean r0) (fun _ t => va_P D vwCl (wdM cI cZ h v_all v_past v_states v_refused (v_far') v_row v_stepAt v_depth v_tries v_values v_wrong v_isEnd v_found v_reached v_stepIn v_laid v_firstRow v_text v_textLong v_spot v_taken v_counted) t.heap) (va_A (wdM cI cZ h v_all v_past v_states v_refused v_far v_row v_stepAt v_depth v_tries v_values v_wrong v_isEnd v_found v_reached v_stepIn v_laid v_firstRow v_text v_textLong v_spot v_taken v_counted) sz)) 0 0 (va_A (wdM cI cZ h v_all v_past v_states v_refused v_far v_row v_stepAt v_depth v_tries v_values v_wrong v_isEnd v_found v_reached v_stepIn v_laid v_firstRow v_text v_textLong v_spot v_taken v_counted) sz) := by
  refine kb_metZ (cc := cX9_isRace) (maxL := 7) (ty := .boolean) (by decide) rfl (Nat.le_of_ble_eq_true rfl) ?_
  intro p e s m args below meth c Q A ls H hx hb hml hown hts hK hN hP hD hS hA hl hend
  have hown : s.vm.findClass RX9 = some m.cls := hown
  have hl : lv_has ls 7 [(0, .ref (h 0)), (1, .int x1), (2, .int x2), (3, .int x3), (4, .int x4)] := hl
  have hin9 : ∀ w ∈ u_ws RX9 TX9 22, w ∈ wsX9_isRace := by decide +kernel
  have J102 : ∀ (v_far : Nat → Int32) (x1 : Int32) (x2 : Int32) (x3 : Int32) (x4 : Int32) (x5 : Int32) (H : Heap) (locs : List Loc) (ls : Array Slot), f9_isRace_b102 v_all v_far v_reached x1 x2 x3 x4 x5 = some (r0, v_far') → va_P D vwCl (wdM cI cZ h v_all v_past v_states v_refused v_far v_row v_stepAt v_depth v_tries v_values v_wrong v_isEnd v_found v_reached v_stepIn v_laid v_firstRow v_text v_textLong v_spot v_taken v_counted) H → va_D A (wdM cI cZ h v_all v_past v_states v_refused v_far v_row v_stepAt v_depth v_tries v_values v_wrong v_isEnd v_found v_reached v_stepIn v_laid v_firstRow v_text v_textLong v_spot v_taken v_counted) → va_S A s.heap H locs → lv_has ls 7 [(0, .ref (h 0)), (1, .int x1), (2, .int x2), (3, .int x3), (4, .int x4), (5, .int x5)] → W p l e rm9_isRace s m args below meth c H locs 0 0 Q (F0 m 102 ls []) := by
    intro v_far x1 x2 x3 x4 x5 H locs ls hf hP hD hS hl
    rw [f9_isRace_b102] at hf
    refine lv_iload hx hb dX9_isRace_102 (lv_at hl 5 rfl) ?_
    refine lv_if_eq (tgt := 123) hx hb dX9_isRace_104 (by decide) (fun c5 => ?_) (fun c5 => ?_)
    · rw [if_pos c5] at hf
      refine lv_iconst (v := 0) hx hb dX9_isRace_123 (by decide) ?_
      cases hf
      exact hend _ _ _ _ rfl hP hS dX9_isRace_124
    · rw [if_neg c5] at hf
      refine lv_aload_n hx hb dX9_isRace_107 rfl (lv_at hl 0 rfl) ?_
      refine lv_iload_n hx hb dX9_isRace_108 rfl (lv_at hl 1 rfl) ?_
      refine lv_iload_n hx hb dX9_isRace_109 rfl (lv_at hl 2 rfl) ?_
      refine lv_iload_n hx hb dX9_isRace_110 rfl (lv_at hl 3 rfl) ?_
      refine lv_iload hx hb dX9_isRace_111 (lv_at hl 4 rfl) ?_
      refine kb_bind hf (fun q6 hq6 hf => ?_)
      have hPc : va_P D vwCl (wdM cI cZ h v_all v_past v_states v_refused v_far v_row v_stepAt v_depth v_tries v_values v_wrong v_isEnd v_found v_reached v_stepIn v_laid v_firstRow v_text v_textLong v_spot v_taken v_counted) H := hP.sub [0, 1, 2, 3, 4, 5, 6, 7, 8, 9, 10, 11, 12, 13, 14, 15, 16] rfl
      have hDc : va_D A (wdM cI cZ h v_all v_past v_states v_refused v_far v_row v_stepAt v_depth v_tries v_values v_wrong v_isEnd v_found v_reached v_stepIn v_laid v_firstRow v_text v_textLong v_spot v_taken v_counted) := hD.sub [0, 1, 2, 3, 4, 5, 6, 7, 8, 9, 10, 11, 12, 13, 14, 15, 16] (by decide) rfl
      refine kd_iR (va_runV (As := [.int x1, .int x2, .int x3, .int x4]) (rest := []) ⟨hx, hb, hml, hown, hts⟩ (c9_byNumber l D cB cI cZ cO h H.size x1 x2 x3 x4 v_all v_past v_states v_refused v_far v_row v_stepAt v_depth v_tries v_values v_wrong v_isEnd v_found v_reached v_stepIn v_laid v_firstRow v_text v_textLong v_spot v_taken v_counted q6 hq6) (cwV 4 hts gX9_isRace_X9_byNumber rfl rfl rfl (by decide +kernel) ⟨Nat.le_of_ble_eq_true rfl, Nat.le_of_ble_eq_true rfl⟩) ⟨kb_blind, va_recv hK hPc (ci := 6) (q0 := 0) rfl rfl, kb_pre hPc hDc hK hN⟩ rfl rfl hl.1 rfl (lv_room (Nat.le_of_ble_eq_true rfl)) dX9_isRace_113 ⟨Nat.le_refl _, Nat.le_refl _⟩) hP hD hS hA [0, 1, 2, 3, 4, 5, 6, 7, 8, 9, 10, 11, 12, 13, 14, 15, 16] rfl (fun H locs hn7 hP hS => ?_)
      refine lv_if_eq (tgt := 123) hx hb dX9_isRace_116 (by decide) (fun c8 => ?_) (fun c8 => ?_)
      · rw [if_pos c8] at hf
        refine lv_iconst (v := 0) hx hb dX9_isRace_123 (by decide) ?_
        cases hf
        exact hend _ _ _ _ rfl hP hS dX9_isRace_124
      · rw [if_neg c8] at hf
        refine lv_iconst (v := 1) hx hb dX9_isRace_119 (by decide) ?_
        refine lv_goto (tgt := 124) hx hb dX9_isRace_120 (by decide) ?_
        cases hf
        exact hend _ _ _ _ rfl hP hS dX9_isRace_124
  have J6 : ∀ (n : Nat) (v_far : Nat → Int32) (x1 : Int32) (x2 : Int32) (x3 : Int32) (x4 : Int32) (x5 : Int32) (x6 : Int32) (H : Heap) (locs : List Loc) (ls : Array Slot), f9_isRace_l6 n v_all v_far v_reached x1 x2 x3 x4 x5 x6 = some (r0, v_far') → va_P D vwCl (wdM cI cZ h v_all v_past v_states v_refused v_far v_row v_stepAt v_depth v_tries v_values v_wrong v_isEnd v_found v_reached v_stepIn v_laid v_firstRow v_text v_textLong v_spot v_taken v_counted) H → va_D A (wdM cI cZ h v_all v_past v_states v_refused v_far v_row v_stepAt v_depth v_tries v_values v_wrong v_isEnd v_found v_reached v_stepIn v_laid v_firstRow v_text v_textLong v_spot v_taken v_counted) → va_S A s.heap H locs → lv_has ls 7 [(0, .ref (h 0)), (1, .int x1), (2, .int x2), (3, .int x3), (4, .int x4), (5, .int x5), (6, .int x6)] → W p l e rm9_isRace s m args below meth c H locs 0 0 Q (F0 m 6 ls []) := by
    intro n
    induction n with
    | zero =>
      intro v_far x1 x2 x3 x4 x5 x6 H locs ls hf
      cases (show (none : Option (Int32 × (Nat → Int32))) = some (r0, v_far') from hf)
    | succ n ih =>
      have J94 : ∀ (v_far : Nat → Int32) (x1 : Int32) (x2 : Int32) (x3 : Int32) (x4 : Int32) (x6 : Int32) (s0 : Int32) (H : Heap) (locs : List Loc) (ls : Array Slot), f9_isRace_b94 (f9_isRace_l6 n) v_all v_far v_reached x1 x2 x3 x4 x6 s0 = some (r0, v_far') → va_P D vwCl (wdM cI cZ h v_all v_past v_states v_refused v_far v_row v_stepAt v_depth v_tries v_values v_wrong v_isEnd v_found v_reached v_stepIn v_laid v_firstRow v_text v_textLong v_spot v_taken v_counted) H → va_D A (wdM cI cZ h v_all v_past v_states v_refused v_far v_row v_stepAt v_depth v_tries v_values v_wrong v_isEnd v_found v_reached v_stepIn v_laid v_firstRow v_text v_textLong v_spot v_taken v_counted) → va_S A s.heap H locs → lv_has ls 7 [(0, .ref (h 0)), (1, .int x1), (2, .int x2), (3, .int x3), (4, .int x4), (6, .int x6)] → W p l e rm9_isRace s m args below meth c H locs 0 0 Q (F0 m 94 ls [.int s0]) := by
        intro v_far x1 x2 x3 x4 x6 s0 H locs ls hf hP hD hS hl
        rw [f9_isRace_b94] at hf
        refine lv_istore (lv' := [(5, .int s0), (0, .ref (h 0)), (1, .int x1), (2, .int x2), (3, .int x3), (4, .int x4), (6, .int x6)]) hx hb dX9_isRace_94 hl (by decide) rfl (fun ls hl => ?_)
        refine lv_iinc (v := (x6 + 1)) (lv' := [(6, .int (x6 + 1)), (5, .int s0), (0, .ref (h 0)), (1, .int x1), (2, .int x2), (3, .int x3), (4, .int x4)]) hx hb dX9_isRace_96 hl (k := 6) rfl rfl (by decide) rfl (fun ls hl => ?_)
        refine lv_goto (tgt := 6) hx hb dX9_isRace_99 (by decide) ?_
        exact ih v_far x1 x2 x3 x4 s0 (x6 + 1) _ _ _ hf hP hD hS (lv_sub hl [2, 3, 4, 5, 6, 1, 0] rfl)
      have J89 : ∀ (v_far : Nat → Int32) (x1 : Int32) (x2 : Int32) (x3 : Int32) (x4 : Int32) (x6 : Int32) (H : Heap) (locs : List Loc) (ls : Array Slot), f9_isRace_b89 (f9_isRace_l6 n) v_all v_far v_reached x1 x2 x3 x4 x6 = some (r0, v_far') → va_P D vwCl (wdM cI cZ h v_all v_past v_states v_refused v_far v_row v_stepAt v_depth v_tries v_values v_wrong v_isEnd v_found v_reached v_stepIn v_laid v_firstRow v_text v_textLong v_spot v_taken v_counted) H → va_D A (wdM cI cZ h v_all v_past v_states v_refused v_far v_row v_stepAt v_depth v_tries v_values v_wrong v_isEnd v_found v_reached v_stepIn v_laid v_firstRow v_text v_textLong v_spot v_taken v_counted) → va_S A s.heap H locs → lv_has ls 7 [(0, .ref (h 0)), (1, .int x1), (2, .int x2), (3, .int x3), (4, .int x4), (6, .int x6)] → W p l e rm9_isRace s m args below meth c H locs 0 0 Q (F0 m 89 ls []) := by
        intro v_far x1 x2 x3 x4 x6 H locs ls hf hP hD hS hl
        rw [f9_isRace_b89] at hf
        refine lv_iconst (v := 1) hx hb dX9_isRace_89 (by decide) ?_
        refine lv_goto (tgt := 94) hx hb dX9_isRace_90 (by decide) ?_
        exact J94 v_far x1 x2 x3 x4 x6 (1 : Int32) _ _ _ hf hP hD hS (lv_sub hl [0, 1, 2, 3, 4, 5] rfl)
      intro v_far x1 x2 x3 x4 x5 x6 H locs ls hf hP hD hS hl
      rw [f9_isRace_l6_s] at hf
      refine lv_iload hx hb dX9_isRace_6 (lv_at hl 6 rfl) ?_
      refine lv_iconst (v := 5) hx hb dX9_isRace_8 (by decide) ?_
      refine lv_icmp_ge (tgt := 102) hx hb dX9_isRace_9 (by decide) (fun c15 => ?_) (fun c15 => ?_)
      · rw [if_pos c15] at hf
        exact J102 v_far x1 x2 x3 x4 x5 _ _ _ hf hP hD hS (lv_sub hl [0, 1, 2, 3, 4, 5] rfl)
      · rw [if_neg c15] at hf
        refine lv_aload_n hx hb dX9_isRace_12 rfl (lv_at hl 0 rfl) ?_
        refine va_get (D := D) (cl := vwCl) (ci := 6) (v := .ref (h 4)) (C := RX9) (T := TX9) (N := 22) hx hb hts hin9 hown hK hP 0 rfl rfl 4 (by decide) (hts (.fieldLink RX9 19 "StepOrdersModel" "far" "[I") (by decide +kernel)) (fun _ h9 => h9) rfl dX9_isRace_13 ?_
        refine lv_iconst (v := 0) hx hb dX9_isRace_16 (by decide) ?_
        refine lv_iload hx hb dX9_isRace_17 (lv_at hl 6 rfl) ?_
        refine ka_iast (D := D) (cl := vwCl) hx hb hK hP hD hS 4 1 (f := v_far) (g := (upd v_far 0 x6)) rfl rfl (show ¬ (_ ∨ _) from by decide) rfl dX9_isRace_19 (fun H locs hP hD hS => ?_)
        have hP : va_P D vwCl (wdM cI cZ h v_all v_past v_states v_refused (upd v_far 0 x6) v_row v_stepAt v_depth v_tries v_values v_wrong v_isEnd v_found v_reached v_stepIn v_laid v_firstRow v_text v_textLong v_spot v_taken v_counted) H := hP
        have hD : va_D A (wdM cI cZ h v_all v_past v_states v_refused (upd v_far 0 x6) v_row v_stepAt v_depth v_tries v_values v_wrong v_isEnd v_found v_reached v_stepIn v_laid v_firstRow v_text v_textLong v_spot v_taken v_counted) := hD
        refine lv_aload_n hx hb dX9_isRace_20 rfl (lv_at hl 0 rfl) ?_
        refine va_get (D := D) (cl := vwCl) (ci := 6) (v := .ref (h 4)) (C := RX9) (T := TX9) (N := 22) hx hb hts hin9 hown hK hP 0 rfl rfl 4 (by decide) (hts (.fieldLink RX9 19 "StepOrdersModel" "far" "[I") (by decide +kernel)) (fun _ h9 => h9) rfl dX9_isRace_21 ?_
        refine lv_iconst (v := 1) hx hb dX9_isRace_24 (by decide) ?_
        refine lv_iload hx hb dX9_isRace_25 (lv_at hl 6 rfl) ?_
        refine ka_iast (D := D) (cl := vwCl) hx hb hK hP hD hS 4 1 (f := (upd v_far 0 x6)) (g := (upd (upd v_far 0 x6) 1 x6)) rfl rfl (show ¬ (_ ∨ _) from by decide) rfl dX9_isRace_27 (fun H locs hP hD hS => ?_)
        have hP : va_P D vwCl (wdM cI cZ h v_all v_past v_states v_refused (upd (upd v_far 0 x6) 1 x6) v_row v_stepAt v_depth v_tries v_values v_wrong v_isEnd v_found v_reached v_stepIn v_laid v_firstRow v_text v_textLong v_spot v_taken v_counted) H := hP
        have hD : va_D A (wdM cI cZ h v_all v_past v_states v_refused (upd (upd v_far 0 x6) 1 x6) v_row v_stepAt v_depth v_tries v_values v_wrong v_isEnd v_found v_reached v_stepIn v_laid v_firstRow v_text v_textLong v_spot v_taken v_counted) := hD
        refine lv_aload_n hx hb dX9_isRace_28 rfl (lv_at hl 0 rfl) ?_
        refine va_get (D := D) (cl := vwCl) (ci := 6) (v := .ref (h 4)) (C := RX9) (T := TX9) (N := 22) hx hb hts hin9 hown hK hP 0 rfl rfl 4 (by decide) (hts (.fieldLink RX9 19 "StepOrdersModel" "far" "[I") (by decide +kernel)) (fun _ h9 => h9) rfl dX9_isRace_29 ?_
        refine lv_iconst (v := 2) hx hb dX9_isRace_32 (by decide) ?_
        refine lv_iload hx hb dX9_isRace_33 (lv_at hl 6 rfl) ?_
        refine ka_iast (D := D) (cl := vwCl) hx hb hK hP hD hS 4 1 (f := (upd (upd v_far 0 x6) 1 x6)) (g := (upd (upd (upd v_far 0 x6) 1 x6) 2 x6)) rfl rfl (show ¬ (_ ∨ _) from by decide) rfl dX9_isRace_35 (fun H locs hP hD hS => ?_)
        have hP : va_P D vwCl (wdM cI cZ h v_all v_past v_states v_refused (upd (upd (upd v_far 0 x6) 1 x6) 2 x6) v_row v_stepAt v_depth v_tries v_values v_wrong v_isEnd v_found v_reached v_stepIn v_laid v_firstRow v_text v_textLong v_spot v_taken v_counted) H := hP
        have hD : va_D A (wdM cI cZ h v_all v_past v_states v_refused (upd (upd (upd v_far 0 x6) 1 x6) 2 x6) v_row v_stepAt v_depth v_tries v_values v_wrong v_isEnd v_found v_reached v_stepIn v_laid v_firstRow v_text v_textLong v_spot v_taken v_counted) := hD
        refine lv_aload_n hx hb dX9_isRace_36 rfl (lv_at hl 0 rfl) ?_
        refine va_get (D := D) (cl := vwCl) (ci := 6) (v := .ref (h 4)) (C := RX9) (T := TX9) (N := 22) hx hb hts hin9 hown hK hP 0 rfl rfl 4 (by decide) (hts (.fieldLink RX9 19 "StepOrdersModel" "far" "[I") (by decide +kernel)) (fun _ h9 => h9) rfl dX9_isRace_37 ?_
        refine lv_iload_n hx hb dX9_isRace_40 rfl (lv_at hl 1 rfl) ?_
        refine lv_iload_n hx hb dX9_isRace_41 rfl (lv_at hl 2 rfl) ?_
        refine kb_bind hf (fun v16 hv16 hf => ?_)
        refine ka_iast (D := D) (cl := vwCl) hx hb hK hP hD hS 4 1 (f := (upd (upd (upd v_far 0 x6) 1 x6) 2 x6)) (g := v16) rfl rfl (awr_in hv16) (awr_v hv16) dX9_isRace_42 (fun H locs hP hD hS => ?_)
        have hP : va_P D vwCl (wdM cI cZ h v_all v_past v_states v_refused v16 v_row v_stepAt v_depth v_tries v_values v_wrong v_isEnd v_found v_reached v_stepIn v_laid v_firstRow v_text v_textLong v_spot v_taken v_counted) H := hP
        have hD : va_D A (wdM cI cZ h v_all v_past v_states v_refused v16 v_row v_stepAt v_depth v_tries v_values v_wrong v_isEnd v_found v_reached v_stepIn v_laid v_firstRow v_text v_textLong v_spot v_taken v_counted) := hD
        refine lv_aload_n hx hb dX9_isRace_43 rfl (lv_at hl 0 rfl) ?_
        refine va_get (D := D) (cl := vwCl) (ci := 6) (v := .ref (h 4)) (C := RX9) (T := TX9) (N := 22) hx hb hts hin9 hown hK hP 0 rfl rfl 4 (by decide) (hts (.fieldLink RX9 19 "StepOrdersModel" "far" "[I") (by decide +kernel)) (fun _ h9 => h9) rfl dX9_isRace_44 ?_
        refine lv_iload_n hx hb dX9_isRace_47 rfl (lv_at hl 3 rfl) ?_
        refine lv_iload hx hb dX9_isRace_48 (lv_at hl 4 rfl) ?_
        refine kb_bind hf (fun v17 hv17 hf => ?_)
        refine ka_iast (D := D) (cl := vwCl) hx hb hK hP hD hS 4 1 (f := v16) (g := v17) rfl rfl (awr_in hv17) (awr_v hv17) dX9_isRace_50 (fun H locs hP hD hS => ?_)
        have hP : va_P D vwCl (wdM cI cZ h v_all v_past v_states v_refused v17 v_row v_stepAt v_depth v_tries v_values v_wrong v_isEnd v_found v_reached v_stepIn v_laid v_firstRow v_text v_textLong v_spot v_taken v_counted) H := hP
        have hD : va_D A (wdM cI cZ h v_all v_past v_states v_refused v17 v_row v_stepAt v_depth v_tries v_values v_wrong v_isEnd v_found v_reached v_stepIn v_laid v_firstRow v_text v_textLong v_spot v_taken v_counted) := hD
        refine lv_iload hx hb dX9_isRace_51 (lv_at hl 5 rfl) ?_
        refine lv_if_ne (tgt := 89) hx hb dX9_isRace_53 (by decide) (fun c18 => ?_) (fun c18 => ?_)
        · rw [if_neg c18] at hf
          exact J89 v17 x1 x2 x3 x4 x6 _ _ _ hf hP hD hS (lv_sub hl [0, 1, 2, 3, 4, 6] rfl)
        · rw [if_pos c18] at hf
          refine lv_aload_n hx hb dX9_isRace_56 rfl (lv_at hl 0 rfl) ?_
          refine va_get (D := D) (cl := vwCl) (ci := 6) (v := .ref (h 11)) (C := RX9) (T := TX9) (N := 22) hx hb hts hin9 hown hK hP 0 rfl rfl 13 (by decide) (hts (.fieldLink RX9 41 "StepOrdersModel" "reached" "[Z") (by decide +kernel)) (fun _ h9 => h9) rfl dX9_isRace_57 ?_
          refine lv_aload_n hx hb dX9_isRace_60 rfl (lv_at hl 0 rfl) ?_
          refine va_get (D := D) (cl := vwCl) (ci := 6) (v := .ref (h 4)) (C := RX9) (T := TX9) (N := 22) hx hb hts hin9 hown hK hP 0 rfl rfl 4 (by decide) (hts (.fieldLink RX9 19 "StepOrdersModel" "far" "[I") (by decide +kernel)) (fun _ h9 => h9) rfl dX9_isRace_61 ?_
          refine lv_iconst (v := 0) hx hb dX9_isRace_64 (by decide) ?_
          refine ka_iald (D := D) (cl := vwCl) hx hb hK hP 4 1 (f := v17) rfl rfl (v := (v17 0)) (show ¬ (_ ∨ _) from by decide) rfl dX9_isRace_65 ?_
          refine lv_iconst (v := 5) hx hb dX9_isRace_66 (by decide) ?_
          refine lv_aload_n hx hb dX9_isRace_67 rfl (lv_at hl 0 rfl) ?_
          refine va_get (D := D) (cl := vwCl) (ci := 6) (v := .ref (h 4)) (C := RX9) (T := TX9) (N := 22) hx hb hts hin9 hown hK hP 0 rfl rfl 4 (by decide) (hts (.fieldLink RX9 19 "StepOrdersModel" "far" "[I") (by decide +kernel)) (fun _ h9 => h9) rfl dX9_isRace_68 ?_
          refine lv_iconst (v := 1) hx hb dX9_isRace_71 (by decide) ?_
          refine ka_iald (D := D) (cl := vwCl) hx hb hK hP 4 1 (f := v17) rfl rfl (v := (v17 1)) (show ¬ (_ ∨ _) from by decide) rfl dX9_isRace_72 ?_
          refine lv_imul hx hb dX9_isRace_73 ?_
          refine lv_iadd hx hb dX9_isRace_74 ?_
          refine lv_bipush (v := 25) hx hb dX9_isRace_75 (by decide) ?_
          refine lv_aload_n hx hb dX9_isRace_77 rfl (lv_at hl 0 rfl) ?_
          refine va_get (D := D) (cl := vwCl) (ci := 6) (v := .ref (h 4)) (C := RX9) (T := TX9) (N := 22) hx hb hts hin9 hown hK hP 0 rfl rfl 4 (by decide) (hts (.fieldLink RX9 19 "StepOrdersModel" "far" "[I") (by decide +kernel)) (fun _ h9 => h9) rfl dX9_isRace_78 ?_
          refine lv_iconst (v := 2) hx hb dX9_isRace_81 (by decide) ?_
          refine ka_iald (D := D) (cl := vwCl) hx hb hK hP 4 1 (f := v17) rfl rfl (v := (v17 2)) (show ¬ (_ ∨ _) from by decide) rfl dX9_isRace_82 ?_
          refine lv_imul hx hb dX9_isRace_83 ?_
          refine lv_iadd hx hb dX9_isRace_84 ?_
          refine kb_bind hf (fun v19 hv19 hf => ?_)
          refine ka_zald (D := D) (cl := vwCl) hx hb hK hP 11 2 (f := v_reached) rfl rfl (ard_in hv19) (ard_v hv19) dX9_isRace_85 ?_
          refine lv_if_eq (tgt := 93) hx hb dX9_isRace_86 (by decide) (fun c20 => ?_) (fun c20 => ?_)
          · rw [if_pos c20] at hf
            refine lv_iconst (v := 0) hx hb dX9_isRace_93 (by decide) ?_
            exact J94 v17 x1 x2 x3 x4 x6 (0 : Int32) _ _ _ hf hP hD hS (lv_sub hl [0, 1, 2, 3, 4, 6] rfl)
          · rw [if_neg c20] at hf
            exact J89 v17 x1 x2 x3 x4 x6 _ _ _ hf hP hD hS (lv_sub hl [0, 1, 2, 3, 4, 6] rfl)
  rw [f9_isRace] at hf
  refine lv_iconst (v := 0) hx hb dX9_isRace_0 (by decide) ?_
  refine lv_istore (lv' := [(5, .int (0 : Int32)), (0, .ref (h 0)), (1, .int x1), (2, .int x2), (3, .int x3), (4, .int x4)]) hx hb dX9_isRace_1 hl (by decide) rfl (fun ls hl => ?_)
  refine lv_iconst (v := 0) hx hb dX9_isRace_3 (by decide) ?_
  refine lv_istore (lv' := [(6, .int (0 : Int32)), (5, .int (0 : Int32)), (0, .ref (h 0)), (1, .int x1), (2, .int x2), (3, .int x3), (4, .int x4)]) hx hb dX9_isRace_4 hl (by decide) rfl (fun ls hl => ?_)
  exact J6 kFUEL v_far x1 x2 x3 x4 (0 : Int32) (0 : Int32) _ _ _ hf hP hD hS (lv_sub hl [2, 3, 4, 5, 6, 1, 0] rfl)

set_option maxHeartbeats 4000000 in
set_option maxRecDepth 100000 in
theorem c9_race (l : Launch) (D : va_G) (cB cI cZ cO : ClassId) (h : Nat → Nat) (sz : Nat) (x1 : Int32) (x2 : Int32) (x3 : Int32) (x4 : Int32) (v_all : Nat → Int32) (v_past : Nat → Int32) (v_states : Int32) (v_refused : Nat → Int32) (v_far : Nat → Int32) (v_row : Nat → Int32) (v_stepAt : Nat → Int32) (v_depth : Int32) (v_tries : Nat → Int32) (v_values : Nat → Int32) (v_wrong : Int32) (v_isEnd : Nat → Int32) (v_found : Nat → Int32) (v_reached : Nat → Int32) (v_stepIn : Nat → Int32) (v_laid : Nat → Int32) (v_firstRow : Nat → Int32) (v_text : Nat → Int32) (v_textLong : Int32) (v_spot : Int32) (v_taken : Int32) (v_counted : Nat → Int32) (r0 : Int32) (v_refused' : Nat → Int32) (v_far' : Nat → Int32) (v_reached' : Nat → Int32) (hf : f9_race v_all v_refused v_far v_reached x1 x2 x3 x4 = some (r0, v_refused', v_far', v_reached')) : Met l yX9_race wsX9_race rm9_race (va_Pc [.ref (h 0), .int x1, .int x2, .int x3, .int x4] (kb_B D (ka_tys cB cI cZ cO) sz (wdM cI cZ h v_all v_past v_states v_refused v_far v_row v_stepAt v_depth v_tries v_values v_wrong v_isEnd v_found v_reached v_stepIn v_laid v_firstRow v_text v_textLong v_spot v_taken v_counted))) (va_Qi (kb_post .int r0) (fun _ t => va_P D vwCl (wdM cI cZ h v_all v_past v_states (v_refused') (v_far') v_row v_stepAt v_depth v_tries v_values v_wrong v_isEnd v_found (v_reached') v_stepIn v_laid v_firstRow v_text v_textLong v_spot v_taken v_counted) t.heap) (va_A (wdM cI cZ h v_all v_past v_states v_refused v_far v_row v_stepAt v_depth v_tries v_values v_wrong v_isEnd v_found v_reached v_stepIn v_laid v_firstRow v_text v_textLong v_spot v_taken v_counted) sz)) 0 0 (va_A (wdM cI cZ h v_all v_past v_states v_refused v_far v_row v_stepAt v_depth v_tries v_values v_wrong v_isEnd v_found v_reached v_stepIn v_laid v_firstRow v_text v_textLong v_spot v_taken v_counted) sz) := by
  refine kb_metZ (cc := cX9_race) (maxL := 5) (ty := .int) (by decide) rfl (Nat.le_of_ble_eq_true rfl) ?_
  intro p e s m args below meth c Q A ls H hx hb hml hown hts hK hN hP hD hS hA hl hend
  have hown : s.vm.findClass RX9 = some m.cls := hown
  have hl : lv_has ls 5 [(0, .ref (h 0)), (1, .int x1), (2, .int x2), (3, .int x3), (4, .int x4)] := hl
  have J24 : ∀ (v_refused : Nat → Int32) (v_far : Nat → Int32) (v_reached : Nat → Int32) (H : Heap) (locs : List Loc) (ls : Array Slot), f9_race_b24 v_all v_refused v_far v_reached = some (r0, v_refused', v_far', v_reached') → va_P D vwCl (wdM cI cZ h v_all v_past v_states v_refused v_far v_row v_stepAt v_depth v_tries v_values v_wrong v_isEnd v_found v_reached v_stepIn v_laid v_firstRow v_text v_textLong v_spot v_taken v_counted) H → va_D A (wdM cI cZ h v_all v_past v_states v_refused v_far v_row v_stepAt v_depth v_tries v_values v_wrong v_isEnd v_found v_reached v_stepIn v_laid v_firstRow v_text v_textLong v_spot v_taken v_counted) → va_S A s.heap H locs → lv_has ls 5 [(0, .ref (h 0))] → W p l e rm9_race s m args below meth c H locs 0 0 Q (F0 m 24 ls []) := by
    intro v_refused v_far v_reached H locs ls hf hP hD hS hl
    rw [f9_race_b24] at hf
    refine lv_aload_n hx hb dX9_race_24 rfl (lv_at hl 0 rfl) ?_
    refine lv_bipush (v := (-2)) hx hb dX9_race_25 (by decide) ?_
    refine kb_bind hf (fun q3 hq3 hf => ?_)
    have hPc : va_P D vwCl (wdM cI cZ h v_all v_past v_states v_refused v_far v_row v_stepAt v_depth v_tries v_values v_wrong v_isEnd v_found v_reached v_stepIn v_laid v_firstRow v_text v_textLong v_spot v_taken v_counted) H := hP.sub [0, 1, 2, 3, 4, 5, 6, 7, 8, 9, 10, 11, 12, 13, 14, 15, 16] rfl
    have hDc : va_D A (wdM cI cZ h v_all v_past v_states v_refused v_far v_row v_stepAt v_depth v_tries v_values v_wrong v_isEnd v_found v_reached v_stepIn v_laid v_firstRow v_text v_textLong v_spot v_taken v_counted) := hD.sub [0, 1, 2, 3, 4, 5, 6, 7, 8, 9, 10, 11, 12, 13, 14, 15, 16] (by decide) rfl
    refine kd_iW (ws' := wdM cI cZ h v_all v_past v_states q3.2 v_far v_row v_stepAt v_depth v_tries v_values v_wrong v_isEnd v_found v_reached v_stepIn v_laid v_firstRow v_text v_textLong v_spot v_taken v_counted) (va_runV (As := [.int (-2 : Int32)]) (rest := []) ⟨hx, hb, hml, hown, hts⟩ (c9_refuses l D cB cI cZ cO h H.size (-2 : Int32) v_all v_past v_states v_refused v_far v_row v_stepAt v_depth v_tries v_values v_wrong v_isEnd v_found v_reached v_stepIn v_laid v_firstRow v_text v_textLong v_spot v_taken v_counted q3.1 q3.2 hq3) (cwV 1 hts gX9_race_X9_refuses rfl rfl rfl (by decide +kernel) ⟨Nat.le_of_ble_eq_true rfl, Nat.le_of_ble_eq_true rfl⟩) ⟨kb_blind, va_recv hK hPc (ci := 6) (q0 := 0) rfl rfl, kb_pre hPc hDc hK hN⟩ rfl rfl hl.1 rfl (lv_room (Nat.le_of_ble_eq_true rfl)) dX9_race_27 ⟨Nat.le_refl _, Nat.le_refl _⟩) hP hD hS hA [0, 1, 2, 3, 4, 5, 6, 7, 8, 9, 10, 11, 12, 13, 14, 15, 16] [] rfl rfl rfl rfl rfl (fun H locs hn4 hP hD hS => ?_)
    cases hf
    exact hend _ _ _ _ rfl hP hS dX9_race_30
  rw [f9_race] at hf
  refine lv_aload_n hx hb dX9_race_0 rfl (lv_at hl 0 rfl) ?_
  refine lv_iload_n hx hb dX9_race_1 rfl (lv_at hl 1 rfl) ?_
  refine lv_iload_n hx hb dX9_race_2 rfl (lv_at hl 2 rfl) ?_
  refine kb_bind hf (fun q5 hq5 hf => ?_)
  have hPc : va_P D vwCl (wdM cI cZ h v_all v_past v_states v_refused v_far v_row v_stepAt v_depth v_tries v_values v_wrong v_isEnd v_found v_reached v_stepIn v_laid v_firstRow v_text v_textLong v_spot v_taken v_counted) H := hP.sub [0, 1, 2, 3, 4, 5, 6, 7, 8, 9, 10, 11, 12, 13, 14, 15, 16] rfl
  have hDc : va_D A (wdM cI cZ h v_all v_past v_states v_refused v_far v_row v_stepAt v_depth v_tries v_values v_wrong v_isEnd v_found v_reached v_stepIn v_laid v_firstRow v_text v_textLong v_spot v_taken v_counted) := hD.sub [0, 1, 2, 3, 4, 5, 6, 7, 8, 9, 10, 11, 12, 13, 14, 15, 16] (by decide) rfl
  refine kd_iR (va_runV (As := [.int x1, .int x2]) (rest := []) ⟨hx, hb, hml, hown, hts⟩ (c9_isStep l D cB cI cZ cO h H.size x1 x2 v_all v_past v_states v_refused v_far v_row v_stepAt v_depth v_tries v_values v_wrong v_isEnd v_found v_reached v_stepIn v_laid v_firstRow v_text v_textLong v_spot v_taken v_counted q5 hq5) (cwV 2 hts gX9_race_X9_isStep rfl rfl rfl (by decide +kernel) ⟨Nat.le_of_ble_eq_true rfl, Nat.le_of_ble_eq_true rfl⟩) ⟨kb_blind, va_recv hK hPc (ci := 6) (q0 := 0) rfl rfl, kb_pre hPc hDc hK hN⟩ rfl rfl hl.1 rfl (lv_room (Nat.le_of_ble_eq_true rfl)) dX9_race_3 ⟨Nat.le_refl _, Nat.le_refl _⟩) hP hD hS hA [0, 1, 2, 3, 4, 5, 6, 7, 8, 9, 10, 11, 12, 13, 14, 15, 16] rfl (fun H locs hn6 hP hS => ?_)
  refine lv_if_eq (tgt := 24) hx hb dX9_race_6 (by decide) (fun c7 => ?_) (fun c7 => ?_)
  · rw [if_pos c7] at hf
    exact J24 v_refused v_far v_reached _ _ _ hf hP hD hS (lv_sub hl [0] rfl)
  · rw [if_neg c7] at hf
    refine lv_aload_n hx hb dX9_race_9 rfl (lv_at hl 0 rfl) ?_
    refine lv_iload_n hx hb dX9_race_10 rfl (lv_at hl 3 rfl) ?_
    refine lv_iload hx hb dX9_race_11 (lv_at hl 4 rfl) ?_
    refine kb_bind hf (fun q8 hq8 hf => ?_)
    have hPc : va_P D vwCl (wdM cI cZ h v_all v_past v_states v_refused v_far v_row v_stepAt v_depth v_tries v_values v_wrong v_isEnd v_found v_reached v_stepIn v_laid v_firstRow v_text v_textLong v_spot v_taken v_counted) H := hP.sub [0, 1, 2, 3, 4, 5, 6, 7, 8, 9, 10, 11, 12, 13, 14, 15, 16] rfl
    have hDc : va_D A (wdM cI cZ h v_all v_past v_states v_refused v_far v_row v_stepAt v_depth v_tries v_values v_wrong v_isEnd v_found v_reached v_stepIn v_laid v_firstRow v_text v_textLong v_spot v_taken v_counted) := hD.sub [0, 1, 2, 3, 4, 5, 6, 7, 8, 9, 10, 11, 12, 13, 14, 15, 16] (by decide) rfl
    refine kd_iR (va_runV (As := [.int x3, .int x4]) (rest := []) ⟨hx, hb, hml, hown, hts⟩ (c9_isStep l D cB cI cZ cO h H.size x3 x4 v_all v_past v_states v_refused v_far v_row v_stepAt v_depth v_tries v_values v_wrong v_isEnd v_found v_reached v_stepIn v_laid v_firstRow v_text v_textLong v_spot v_taken v_counted q8 hq8) (cwV 2 hts gX9_race_X9_isStep rfl rfl rfl (by decide +kernel) ⟨Nat.le_of_ble_eq_true rfl, Nat.le_of_ble_eq_true rfl⟩) ⟨kb_blind, va_recv hK hPc (ci := 6) (q0 := 0) rfl rfl, kb_pre hPc hDc hK hN⟩ rfl rfl hl.1 rfl (lv_room (Nat.le_of_ble_eq_true rfl)) dX9_race_13 ⟨Nat.le_refl _, Nat.le_refl _⟩) hP hD hS hA [0, 1, 2, 3, 4, 5, 6, 7, 8, 9, 10, 11, 12, 13, 14, 15, 16] rfl (fun H locs hn9 hP hS => ?_)
    refine lv_if_eq (tgt := 24) hx hb dX9_race_16 (by decide) (fun c10 => ?_) (fun c10 => ?_)
    · rw [if_pos c10] at hf
      exact J24 v_refused v_far v_reached _ _ _ hf hP hD hS (lv_sub hl [0] rfl)
    · rw [if_neg c10] at hf
      refine lv_iload_n hx hb dX9_race_19 rfl (lv_at hl 1 rfl) ?_
      refine lv_iload_n hx hb dX9_race_20 rfl (lv_at hl 3 rfl) ?_
      refine lv_icmp_ne (tgt := 31) hx hb dX9_race_21 (by decide) (fun c11 => ?_) (fun c11 => ?_)
      · rw [if_neg c11] at hf
        refine lv_aload_n hx hb dX9_race_31 rfl (lv_at hl 0 rfl) ?_
        refine kb_bind hf (fun q12 hq12 hf => ?_)
        have hPc : va_P D vwCl (wdM cI cZ h v_all v_past v_states v_refused v_far v_row v_stepAt v_depth v_tries v_values v_wrong v_isEnd v_found v_reached v_stepIn v_laid v_firstRow v_text v_textLong v_spot v_taken v_counted) H := hP.sub [0, 1, 2, 3, 4, 5, 6, 7, 8, 9, 10, 11, 12, 13, 14, 15, 16] rfl
        have hDc : va_D A (wdM cI cZ h v_all v_past v_states v_refused v_far v_row v_stepAt v_depth v_tries v_values v_wrong v_isEnd v_found v_reached v_stepIn v_laid v_firstRow v_text v_textLong v_spot v_taken v_counted) := hD.sub [0, 1, 2, 3, 4, 5, 6, 7, 8, 9, 10, 11, 12, 13, 14, 15, 16] (by decide) rfl
        refine kd_vW (ws' := wdM cI cZ h v_all v_past v_states v_refused q12.1 v_row v_stepAt v_depth v_tries v_values v_wrong v_isEnd v_found q12.2 v_stepIn v_laid v_firstRow v_text v_textLong v_spot v_taken v_counted) (va_runV (As := []) (rest := []) ⟨hx, hb, hml, hown, hts⟩ (c9_spreads l D cB cI cZ cO h H.size v_all v_past v_states v_refused v_far v_row v_stepAt v_depth v_tries v_values v_wrong v_isEnd v_found v_reached v_stepIn v_laid v_firstRow v_text v_textLong v_spot v_taken v_counted q12.1 q12.2 hq12) (cwV 0 hts gX9_race_X9_spreads rfl rfl rfl (by decide +kernel) ⟨Nat.le_of_ble_eq_true rfl, Nat.le_of_ble_eq_true rfl⟩) ⟨kb_blind, va_recv hK hPc (ci := 6) (q0 := 0) rfl rfl, kb_pre hPc hDc hK hN⟩ rfl rfl hl.1 rfl (lv_room (Nat.le_of_ble_eq_true rfl)) dX9_race_32 ⟨Nat.le_refl _, Nat.le_refl _⟩) hP hD hS hA [0, 1, 2, 3, 4, 5, 6, 7, 8, 9, 10, 11, 12, 13, 14, 15, 16] [] rfl rfl rfl rfl rfl (fun H locs hP hD hS => ?_)
        refine lv_aload_n hx hb dX9_race_35 rfl (lv_at hl 0 rfl) ?_
        refine lv_iload_n hx hb dX9_race_36 rfl (lv_at hl 1 rfl) ?_
        refine lv_iload_n hx hb dX9_race_37 rfl (lv_at hl 2 rfl) ?_
        refine lv_iload_n hx hb dX9_race_38 rfl (lv_at hl 3 rfl) ?_
        refine lv_iload hx hb dX9_race_39 (lv_at hl 4 rfl) ?_
        refine kb_bind hf (fun q13 hq13 hf => ?_)
        have hPc : va_P D vwCl (wdM cI cZ h v_all v_past v_states v_refused q12.1 v_row v_stepAt v_depth v_tries v_values v_wrong v_isEnd v_found q12.2 v_stepIn v_laid v_firstRow v_text v_textLong v_spot v_taken v_counted) H := hP.sub [0, 1, 2, 3, 4, 5, 6, 7, 8, 9, 10, 11, 12, 13, 14, 15, 16] rfl
        have hDc : va_D A (wdM cI cZ h v_all v_past v_states v_refused q12.1 v_row v_stepAt v_depth v_tries v_values v_wrong v_isEnd v_found q12.2 v_stepIn v_laid v_firstRow v_text v_textLong v_spot v_taken v_counted) := hD.sub [0, 1, 2, 3, 4, 5, 6, 7, 8, 9, 10, 11, 12, 13, 14, 15, 16] (by decide) rfl
        refine kd_iW (ws' := wdM cI cZ h v_all v_past v_states v_refused q13.2 v_row v_stepAt v_depth v_tries v_values v_wrong v_isEnd v_found q12.2 v_stepIn v_laid v_firstRow v_text v_textLong v_spot v_taken v_counted) (va_runV (As := [.int x1, .int x2, .int x3, .int x4]) (rest := []) ⟨hx, hb, hml, hown, hts⟩ (c9_isRace l D cB cI cZ cO h H.size x1 x2 x3 x4 v_all v_past v_states v_refused q12.1 v_row v_stepAt v_depth v_tries v_values v_wrong v_isEnd v_found q12.2 v_stepIn v_laid v_firstRow v_text v_textLong v_spot v_taken v_counted q13.1 q13.2 hq13) (cwV 4 hts gX9_race_X9_isRace rfl rfl rfl (by decide +kernel) ⟨Nat.le_of_ble_eq_true rfl, Nat.le_of_ble_eq_true rfl⟩) ⟨kb_blind, va_recv hK hPc (ci := 6) (q0 := 0) rfl rfl, kb_pre hPc hDc hK hN⟩ rfl rfl hl.1 rfl (lv_room (Nat.le_of_ble_eq_true rfl)) dX9_race_41 ⟨Nat.le_refl _, Nat.le_refl _⟩) hP hD hS hA [0, 1, 2, 3, 4, 5, 6, 7, 8, 9, 10, 11, 12, 13, 14, 15, 16] [] rfl rfl rfl rfl rfl (fun H locs hn14 hP hD hS => ?_)
        refine lv_if_eq (tgt := 51) hx hb dX9_race_44 (by decide) (fun c15 => ?_) (fun c15 => ?_)
        · rw [if_pos c15] at hf
          refine lv_iconst (v := 0) hx hb dX9_race_51 (by decide) ?_
          cases hf
          exact hend _ _ _ _ rfl hP hS dX9_race_52
        · rw [if_neg c15] at hf
          refine lv_iconst (v := 1) hx hb dX9_race_47 (by decide) ?_
          refine lv_goto (tgt := 52) hx hb dX9_race_48 (by decide) ?_
          cases hf
          exact hend _ _ _ _ rfl hP hS dX9_race_52
      · rw [if_pos c11] at hf
        exact J24 v_refused v_far v_reached _ _ _ hf hP hD hS (lv_sub hl [0] rfl)

set_option maxHeartbeats 4000000 in
set_option maxRecDepth 100000 in
theorem c9_races (l : Launch) (D : va_G) (cB cI cZ cO : ClassId) (h : Nat → Nat) (sz : Nat) (v_all : Nat → Int32) (v_past : Nat → Int32) (v_states : Int32) (v_refused : Nat → Int32) (v_far : Nat → Int32) (v_row : Nat → Int32) (v_stepAt : Nat → Int32) (v_depth : Int32) (v_tries : Nat → Int32) (v_values : Nat → Int32) (v_wrong : Int32) (v_isEnd : Nat → Int32) (v_found : Nat → Int32) (v_reached : Nat → Int32) (v_stepIn : Nat → Int32) (v_laid : Nat → Int32) (v_firstRow : Nat → Int32) (v_text : Nat → Int32) (v_textLong : Int32) (v_spot : Int32) (v_taken : Int32) (v_counted : Nat → Int32) (r0 : Int32) (v_far' : Nat → Int32) (v_reached' : Nat → Int32) (hf : f9_races v_all v_far v_reached = some (r0, v_far', v_reached')) : Met l yX9_races wsX9_races rm9_races (va_Pc [.ref (h 0)] (kb_B D (ka_tys cB cI cZ cO) sz (wdM cI cZ h v_all v_past v_states v_refused v_far v_row v_stepAt v_depth v_tries v_values v_wrong v_isEnd v_found v_reached v_stepIn v_laid v_firstRow v_text v_textLong v_spot v_taken v_counted))) (va_Qi (kb_post .int r0) (fun _ t => va_P D vwCl (wdM cI cZ h v_all v_past v_states v_refused (v_far') v_row v_stepAt v_depth v_tries v_values v_wrong v_isEnd v_found (v_reached') v_stepIn v_laid v_firstRow v_text v_textLong v_spot v_taken v_counted) t.heap) (va_A (wdM cI cZ h v_all v_past v_states v_refused v_far v_row v_stepAt v_depth v_tries v_values v_wrong v_isEnd v_found v_reached v_stepIn v_laid v_firstRow v_text v_textLong v_spot v_taken v_counted) sz)) 0 0 (va_A (wdM cI cZ h v_all v_past v_states v_refused v_far v_row v_stepAt v_depth v_tries v_values v_wrong v_isEnd v_found v_reached v_stepIn v_laid v_firstRow v_text v_textLong v_spot v_taken v_counted) sz) := by
  refine kb_metZ (cc := cX9_races) (maxL := 7) (ty := .int) (by decide) rfl (Nat.le_of_ble_eq_true rfl) ?_
  intro p e s m args below meth c Q A ls H hx hb hml hown hts hK hN hP hD hS hA hl hend
  have hown : s.vm.findClass RX9 = some m.cls := hown
  have hl : lv_has ls 7 [(0, .ref (h 0))] := hl
  have J95 : ∀ (v_far : Nat → Int32) (v_reached : Nat → Int32) (x1 : Int32) (H : Heap) (locs : List Loc) (ls : Array Slot), f9_races_b95 v_all v_far v_reached x1 = some (r0, v_far', v_reached') → va_P D vwCl (wdM cI cZ h v_all v_past v_states v_refused v_far v_row v_stepAt v_depth v_tries v_values v_wrong v_isEnd v_found v_reached v_stepIn v_laid v_firstRow v_text v_textLong v_spot v_taken v_counted) H → va_D A (wdM cI cZ h v_all v_past v_states v_refused v_far v_row v_stepAt v_depth v_tries v_values v_wrong v_isEnd v_found v_reached v_stepIn v_laid v_firstRow v_text v_textLong v_spot v_taken v_counted) → va_S A s.heap H locs → lv_has ls 7 [(1, .int x1)] → W p l e rm9_races s m args below meth c H locs 0 0 Q (F0 m 95 ls []) := by
    intro v_far v_reached x1 H locs ls hf hP hD hS hl
    rw [f9_races_b95] at hf
    refine lv_iload_n hx hb dX9_races_95 rfl (lv_at hl 0 rfl) ?_
    cases hf
    exact hend _ _ _ _ rfl hP hS dX9_races_96
  have J8 : ∀ (n : Nat) (v_far : Nat → Int32) (v_reached : Nat → Int32) (x1 : Int32) (x2 : Int32) (H : Heap) (locs : List Loc) (ls : Array Slot), f9_races_l8 n v_all v_far v_reached x1 x2 = some (r0, v_far', v_reached') → va_P D vwCl (wdM cI cZ h v_all v_past v_states v_refused v_far v_row v_stepAt v_depth v_tries v_values v_wrong v_isEnd v_found v_reached v_stepIn v_laid v_firstRow v_text v_textLong v_spot v_taken v_counted) H → va_D A (wdM cI cZ h v_all v_past v_states v_refused v_far v_row v_stepAt v_depth v_tries v_values v_wrong v_isEnd v_found v_reached v_stepIn v_laid v_firstRow v_text v_textLong v_spot v_taken v_counted) → va_S A s.heap H locs → lv_has ls 7 [(0, .ref (h 0)), (1, .int x1), (2, .int x2)] → W p l e rm9_races s m args below meth c H locs 0 0 Q (F0 m 8 ls []) := by
    intro n
    induction n with
    | zero =>
      intro v_far v_reached x1 x2 H locs ls hf
      cases (show (none : Option (Int32 × (Nat → Int32) × (Nat → Int32))) = some (r0, v_far', v_reached') from hf)
    | succ n ih =>
      have J87 : ∀ (v_far : Nat → Int32) (v_reached : Nat → Int32) (x2 : Int32) (s0 : Int32) (s1 : Int32) (H : Heap) (locs : List Loc) (ls : Array Slot), f9_races_b87 (f9_races_l8 n) v_all v_far v_reached x2 s0 s1 = some (r0, v_far', v_reached') → va_P D vwCl (wdM cI cZ h v_all v_past v_states v_refused v_far v_row v_stepAt v_depth v_tries v_values v_wrong v_isEnd v_found v_reached v_stepIn v_laid v_firstRow v_text v_textLong v_spot v_taken v_counted) H → va_D A (wdM cI cZ h v_all v_past v_states v_refused v_far v_row v_stepAt v_depth v_tries v_values v_wrong v_isEnd v_found v_reached v_stepIn v_laid v_firstRow v_text v_textLong v_spot v_taken v_counted) → va_S A s.heap H locs → lv_has ls 7 [(0, .ref (h 0)), (2, .int x2)] → W p l e rm9_races s m args below meth c H locs 0 0 Q (F0 m 87 ls [.int s1, .int s0]) := by
        intro v_far v_reached x2 s0 s1 H locs ls hf hP hD hS hl
        rw [f9_races_b87] at hf
        refine lv_iadd hx hb dX9_races_87 ?_
        refine lv_istore_n (lv' := [(1, .int (s0 + s1)), (0, .ref (h 0)), (2, .int x2)]) hx hb dX9_races_88 rfl hl (by decide) rfl (fun ls hl => ?_)
        refine lv_iinc (v := (x2 + 1)) (lv' := [(2, .int (x2 + 1)), (1, .int (s0 + s1)), (0, .ref (h 0))]) hx hb dX9_races_89 hl (k := 2) rfl rfl (by decide) rfl (fun ls hl => ?_)
        refine lv_goto (tgt := 8) hx hb dX9_races_92 (by decide) ?_
        exact ih v_far v_reached (s0 + s1) (x2 + 1) _ _ _ hf hP hD hS (lv_sub hl [2, 1, 0] rfl)
      have J86 : ∀ (v_far : Nat → Int32) (v_reached : Nat → Int32) (x2 : Int32) (s0 : Int32) (H : Heap) (locs : List Loc) (ls : Array Slot), f9_races_b86 (f9_races_l8 n) v_all v_far v_reached x2 s0 = some (r0, v_far', v_reached') → va_P D vwCl (wdM cI cZ h v_all v_past v_states v_refused v_far v_row v_stepAt v_depth v_tries v_values v_wrong v_isEnd v_found v_reached v_stepIn v_laid v_firstRow v_text v_textLong v_spot v_taken v_counted) H → va_D A (wdM cI cZ h v_all v_past v_states v_refused v_far v_row v_stepAt v_depth v_tries v_values v_wrong v_isEnd v_found v_reached v_stepIn v_laid v_firstRow v_text v_textLong v_spot v_taken v_counted) → va_S A s.heap H locs → lv_has ls 7 [(0, .ref (h 0)), (2, .int x2)] → W p l e rm9_races s m args below meth c H locs 0 0 Q (F0 m 86 ls [.int s0]) := by
        intro v_far v_reached x2 s0 H locs ls hf hP hD hS hl
        rw [f9_races_b86] at hf
        refine lv_iconst (v := 0) hx hb dX9_races_86 (by decide) ?_
        exact J87 v_far v_reached x2 s0 (0 : Int32) _ _ _ hf hP hD hS (lv_sub hl [0, 1] rfl)
      intro v_far v_reached x1 x2 H locs ls hf hP hD hS hl
      rw [f9_races_l8_s] at hf
      refine lv_iload_n hx hb dX9_races_8 rfl (lv_at hl 2 rfl) ?_
      refine lv_sipush (v := 144) hx hb dX9_races_9 (by decide) ?_
      refine lv_icmp_ge (tgt := 95) hx hb dX9_races_12 (by decide) (fun c12 => ?_) (fun c12 => ?_)
      · rw [if_pos c12] at hf
        exact J95 v_far v_reached x1 _ _ _ hf hP hD hS (lv_sub hl [1] rfl)
      · rw [if_neg c12] at hf
        refine lv_iload_n hx hb dX9_races_15 rfl (lv_at hl 2 rfl) ?_
        refine lv_bipush (v := 48) hx hb dX9_races_16 (by decide) ?_
        refine lv_idiv hx hb dX9_races_18 (by decide) ?_
        refine lv_istore_n (lv' := [(3, .int (x2 / (48 : Int32))), (0, .ref (h 0)), (1, .int x1), (2, .int x2)]) hx hb dX9_races_19 rfl hl (by decide) rfl (fun ls hl => ?_)
        refine lv_iload_n hx hb dX9_races_20 rfl (lv_at hl 3 rfl) ?_
        refine lv_bipush (v := 12) hx hb dX9_races_21 (by decide) ?_
        refine lv_idiv hx hb dX9_races_23 (by decide) ?_
        refine lv_iconst (v := 4) hx hb dX9_races_24 (by decide) ?_
        refine lv_irem hx hb dX9_races_25 (by decide) ?_
        refine lv_istore (lv' := [(4, .int ((x2 / (12 : Int32)) - (x2 / (12 : Int32)) / (4 : Int32) * (4 : Int32))), (3, .int (x2 / (48 : Int32))), (0, .ref (h 0)), (1, .int x1), (2, .int x2)]) hx hb dX9_races_26 hl (by decide) rfl (fun ls hl => ?_)
        refine lv_iload_n hx hb dX9_races_28 rfl (lv_at hl 4 rfl) ?_
        refine lv_iconst (v := 4) hx hb dX9_races_29 (by decide) ?_
        refine lv_idiv hx hb dX9_races_30 (by decide) ?_
        refine lv_iconst (v := 3) hx hb dX9_races_31 (by decide) ?_
        refine lv_irem hx hb dX9_races_32 (by decide) ?_
        refine lv_istore (lv' := [(5, .int ((x2 / (4 : Int32)) - (x2 / (4 : Int32)) / (3 : Int32) * (3 : Int32))), (4, .int ((x2 / (12 : Int32)) - (x2 / (12 : Int32)) / (4 : Int32) * (4 : Int32))), (3, .int (x2 / (48 : Int32))), (0, .ref (h 0)), (1, .int x1), (2, .int x2)]) hx hb dX9_races_33 hl (by decide) rfl (fun ls hl => ?_)
        refine lv_iload_n hx hb dX9_races_35 rfl (lv_at hl 5 rfl) ?_
        refine lv_iconst (v := 4) hx hb dX9_races_36 (by decide) ?_
        refine lv_irem hx hb dX9_races_37 (by decide) ?_
        refine lv_istore (lv' := [(6, .int (x2 - x2 / (4 : Int32) * (4 : Int32))), (5, .int ((x2 / (4 : Int32)) - (x2 / (4 : Int32)) / (3 : Int32) * (3 : Int32))), (4, .int ((x2 / (12 : Int32)) - (x2 / (12 : Int32)) / (4 : Int32) * (4 : Int32))), (3, .int (x2 / (48 : Int32))), (0, .ref (h 0)), (1, .int x1), (2, .int x2)]) hx hb dX9_races_38 hl (by decide) rfl (fun ls hl => ?_)
        refine lv_iload_n hx hb dX9_races_40 rfl (lv_at hl 5 rfl) ?_
        refine lv_iload_n hx hb dX9_races_41 rfl (lv_at hl 3 rfl) ?_
        refine lv_iload hx hb dX9_races_42 (lv_at hl 1 rfl) ?_
        refine lv_icmp_ge (tgt := 86) hx hb dX9_races_44 (by decide) (fun c13 => ?_) (fun c13 => ?_)
        · rw [if_pos c13] at hf
          exact J86 v_far v_reached x2 x1 _ _ _ hf hP hD hS (lv_sub hl [4, 6] rfl)
        · rw [if_neg c13] at hf
          refine lv_aload_n hx hb dX9_races_47 rfl (lv_at hl 4 rfl) ?_
          refine lv_iload_n hx hb dX9_races_48 rfl (lv_at hl 3 rfl) ?_
          refine lv_iload hx hb dX9_races_49 (lv_at hl 2 rfl) ?_
          refine kb_bind hf (fun q14 hq14 hf => ?_)
          have hPc : va_P D vwCl (wdM cI cZ h v_all v_past v_states v_refused v_far v_row v_stepAt v_depth v_tries v_values v_wrong v_isEnd v_found v_reached v_stepIn v_laid v_firstRow v_text v_textLong v_spot v_taken v_counted) H := hP.sub [0, 1, 2, 3, 4, 5, 6, 7, 8, 9, 10, 11, 12, 13, 14, 15, 16] rfl
          have hDc : va_D A (wdM cI cZ h v_all v_past v_states v_refused v_far v_row v_stepAt v_depth v_tries v_values v_wrong v_isEnd v_found v_reached v_stepIn v_laid v_firstRow v_text v_textLong v_spot v_taken v_counted) := hD.sub [0, 1, 2, 3, 4, 5, 6, 7, 8, 9, 10, 11, 12, 13, 14, 15, 16] (by decide) rfl
          refine kd_iR (va_runV (As := [.int (x2 / (48 : Int32)), .int ((x2 / (12 : Int32)) - (x2 / (12 : Int32)) / (4 : Int32) * (4 : Int32))]) (rest := [.int x1]) ⟨hx, hb, hml, hown, hts⟩ (c9_isStep l D cB cI cZ cO h H.size (x2 / (48 : Int32)) ((x2 / (12 : Int32)) - (x2 / (12 : Int32)) / (4 : Int32) * (4 : Int32)) v_all v_past v_states v_refused v_far v_row v_stepAt v_depth v_tries v_values v_wrong v_isEnd v_found v_reached v_stepIn v_laid v_firstRow v_text v_textLong v_spot v_taken v_counted q14 hq14) (cwV 2 hts gX9_races_X9_isStep rfl rfl rfl (by decide +kernel) ⟨Nat.le_of_ble_eq_true rfl, Nat.le_of_ble_eq_true rfl⟩) ⟨kb_blind, va_recv hK hPc (ci := 6) (q0 := 0) rfl rfl, kb_pre hPc hDc hK hN⟩ rfl rfl hl.1 rfl (lv_room (Nat.le_of_ble_eq_true rfl)) dX9_races_51 ⟨Nat.le_refl _, Nat.le_refl _⟩) hP hD hS hA [0, 1, 2, 3, 4, 5, 6, 7, 8, 9, 10, 11, 12, 13, 14, 15, 16] rfl (fun H locs hn15 hP hS => ?_)
          refine lv_if_eq (tgt := 86) hx hb dX9_races_54 (by decide) (fun c16 => ?_) (fun c16 => ?_)
          · rw [if_pos c16] at hf
            exact J86 v_far v_reached x2 x1 _ _ _ hf hP hD hS (lv_sub hl [4, 6] rfl)
          · rw [if_neg c16] at hf
            refine lv_aload_n hx hb dX9_races_57 rfl (lv_at hl 4 rfl) ?_
            refine lv_iload hx hb dX9_races_58 (lv_at hl 1 rfl) ?_
            refine lv_iload hx hb dX9_races_60 (lv_at hl 0 rfl) ?_
            refine kb_bind hf (fun q17 hq17 hf => ?_)
            have hPc : va_P D vwCl (wdM cI cZ h v_all v_past v_states v_refused v_far v_row v_stepAt v_depth v_tries v_values v_wrong v_isEnd v_found v_reached v_stepIn v_laid v_firstRow v_text v_textLong v_spot v_taken v_counted) H := hP.sub [0, 1, 2, 3, 4, 5, 6, 7, 8, 9, 10, 11, 12, 13, 14, 15, 16] rfl
            have hDc : va_D A (wdM cI cZ h v_all v_past v_states v_refused v_far v_row v_stepAt v_depth v_tries v_values v_wrong v_isEnd v_found v_reached v_stepIn v_laid v_firstRow v_text v_textLong v_spot v_taken v_counted) := hD.sub [0, 1, 2, 3, 4, 5, 6, 7, 8, 9, 10, 11, 12, 13, 14, 15, 16] (by decide) rfl
            refine kd_iR (va_runV (As := [.int ((x2 / (4 : Int32)) - (x2 / (4 : Int32)) / (3 : Int32) * (3 : Int32)), .int (x2 - x2 / (4 : Int32) * (4 : Int32))]) (rest := [.int x1]) ⟨hx, hb, hml, hown, hts⟩ (c9_isStep l D cB cI cZ cO h H.size ((x2 / (4 : Int32)) - (x2 / (4 : Int32)) / (3 : Int32) * (3 : Int32)) (x2 - x2 / (4 : Int32) * (4 : Int32)) v_all v_past v_states v_refused v_far v_row v_stepAt v_depth v_tries v_values v_wrong v_isEnd v_found v_reached v_stepIn v_laid v_firstRow v_text v_textLong v_spot v_taken v_counted q17 hq17) (cwV 2 hts gX9_races_X9_isStep rfl rfl rfl (by decide +kernel) ⟨Nat.le_of_ble_eq_true rfl, Nat.le_of_ble_eq_true rfl⟩) ⟨kb_blind, va_recv hK hPc (ci := 6) (q0 := 0) rfl rfl, kb_pre hPc hDc hK hN⟩ rfl rfl hl.1 rfl (lv_room (Nat.le_of_ble_eq_true rfl)) dX9_races_62 ⟨Nat.le_refl _, Nat.le_refl _⟩) hP hD hS hA [0, 1, 2, 3, 4, 5, 6, 7, 8, 9, 10, 11, 12, 13, 14, 15, 16] rfl (fun H locs hn18 hP hS => ?_)
            refine lv_if_eq (tgt := 86) hx hb dX9_races_65 (by decide) (fun c19 => ?_) (fun c19 => ?_)
            · rw [if_pos c19] at hf
              exact J86 v_far v_reached x2 x1 _ _ _ hf hP hD hS (lv_sub hl [4, 6] rfl)
            · rw [if_neg c19] at hf
              refine lv_aload_n hx hb dX9_races_68 rfl (lv_at hl 4 rfl) ?_
              refine lv_iload_n hx hb dX9_races_69 rfl (lv_at hl 3 rfl) ?_
              refine lv_iload hx hb dX9_races_70 (lv_at hl 2 rfl) ?_
              refine lv_iload hx hb dX9_races_72 (lv_at hl 1 rfl) ?_
              refine lv_iload hx hb dX9_races_74 (lv_at hl 0 rfl) ?_
              refine kb_bind hf (fun q20 hq20 hf => ?_)
              have hPc : va_P D vwCl (wdM cI cZ h v_all v_past v_states v_refused v_far v_row v_stepAt v_depth v_tries v_values v_wrong v_isEnd v_found v_reached v_stepIn v_laid v_firstRow v_text v_textLong v_spot v_taken v_counted) H := hP.sub [0, 1, 2, 3, 4, 5, 6, 7, 8, 9, 10, 11, 12, 13, 14, 15, 16] rfl
              have hDc : va_D A (wdM cI cZ h v_all v_past v_states v_refused v_far v_row v_stepAt v_depth v_tries v_values v_wrong v_isEnd v_found v_reached v_stepIn v_laid v_firstRow v_text v_textLong v_spot v_taken v_counted) := hD.sub [0, 1, 2, 3, 4, 5, 6, 7, 8, 9, 10, 11, 12, 13, 14, 15, 16] (by decide) rfl
              refine kd_iW (ws' := wdM cI cZ h v_all v_past v_states v_refused q20.2 v_row v_stepAt v_depth v_tries v_values v_wrong v_isEnd v_found v_reached v_stepIn v_laid v_firstRow v_text v_textLong v_spot v_taken v_counted) (va_runV (As := [.int (x2 / (48 : Int32)), .int ((x2 / (12 : Int32)) - (x2 / (12 : Int32)) / (4 : Int32) * (4 : Int32)), .int ((x2 / (4 : Int32)) - (x2 / (4 : Int32)) / (3 : Int32) * (3 : Int32)), .int (x2 - x2 / (4 : Int32) * (4 : Int32))]) (rest := [.int x1]) ⟨hx, hb, hml, hown, hts⟩ (c9_isRace l D cB cI cZ cO h H.size (x2 / (48 : Int32)) ((x2 / (12 : Int32)) - (x2 / (12 : Int32)) / (4 : Int32) * (4 : Int32)) ((x2 / (4 : Int32)) - (x2 / (4 : Int32)) / (3 : Int32) * (3 : Int32)) (x2 - x2 / (4 : Int32) * (4 : Int32)) v_all v_past v_states v_refused v_far v_row v_stepAt v_depth v_tries v_values v_wrong v_isEnd v_found v_reached v_stepIn v_laid v_firstRow v_text v_textLong v_spot v_taken v_counted q20.1 q20.2 hq20) (cwV 4 hts gX9_races_X9_isRace rfl rfl rfl (by decide +kernel) ⟨Nat.le_of_ble_eq_true rfl, Nat.le_of_ble_eq_true rfl⟩) ⟨kb_blind, va_recv hK hPc (ci := 6) (q0 := 0) rfl rfl, kb_pre hPc hDc hK hN⟩ rfl rfl hl.1 rfl (lv_room (Nat.le_of_ble_eq_true rfl)) dX9_races_76 ⟨Nat.le_refl _, Nat.le_refl _⟩) hP hD hS hA [0, 1, 2, 3, 4, 5, 6, 7, 8, 9, 10, 11, 12, 13, 14, 15, 16] [] rfl rfl rfl rfl rfl (fun H locs hn21 hP hD hS => ?_)
              refine lv_if_eq (tgt := 86) hx hb dX9_races_79 (by decide) (fun c22 => ?_) (fun c22 => ?_)
              · rw [if_pos c22] at hf
                exact J86 q20.2 v_reached x2 x1 _ _ _ hf hP hD hS (lv_sub hl [4, 6] rfl)
              · rw [if_neg c22] at hf
                refine lv_iconst (v := 1) hx hb dX9_races_82 (by decide) ?_
                refine lv_goto (tgt := 87) hx hb dX9_races_83 (by decide) ?_
                exact J87 q20.2 v_reached x2 x1 (1 : Int32) _ _ _ hf hP hD hS (lv_sub hl [4, 6] rfl)
  rw [f9_races] at hf
  refine lv_aload_n hx hb dX9_races_0 rfl (lv_at hl 0 rfl) ?_
  refine kb_bind hf (fun q23 hq23 hf => ?_)
  have hPc : va_P D vwCl (wdM cI cZ h v_all v_past v_states v_refused v_far v_row v_stepAt v_depth v_tries v_values v_wrong v_isEnd v_found v_reached v_stepIn v_laid v_firstRow v_text v_textLong v_spot v_taken v_counted) H := hP.sub [0, 1, 2, 3, 4, 5, 6, 7, 8, 9, 10, 11, 12, 13, 14, 15, 16] rfl
  have hDc : va_D A (wdM cI cZ h v_all v_past v_states v_refused v_far v_row v_stepAt v_depth v_tries v_values v_wrong v_isEnd v_found v_reached v_stepIn v_laid v_firstRow v_text v_textLong v_spot v_taken v_counted) := hD.sub [0, 1, 2, 3, 4, 5, 6, 7, 8, 9, 10, 11, 12, 13, 14, 15, 16] (by decide) rfl
  refine kd_vW (ws' := wdM cI cZ h v_all v_past v_states v_refused q23.1 v_row v_stepAt v_depth v_tries v_values v_wrong v_isEnd v_found q23.2 v_stepIn v_laid v_firstRow v_text v_textLong v_spot v_taken v_counted) (va_runV (As := []) (rest := []) ⟨hx, hb, hml, hown, hts⟩ (c9_spreads l D cB cI cZ cO h H.size v_all v_past v_states v_refused v_far v_row v_stepAt v_depth v_tries v_values v_wrong v_isEnd v_found v_reached v_stepIn v_laid v_firstRow v_text v_textLong v_spot v_taken v_counted q23.1 q23.2 hq23) (cwV 0 hts gX9_races_X9_spreads rfl rfl rfl (by decide +kernel) ⟨Nat.le_of_ble_eq_true rfl, Nat.le_of_ble_eq_true rfl⟩) ⟨kb_blind, va_recv hK hPc (ci := 6) (q0 := 0) rfl rfl, kb_pre hPc hDc hK hN⟩ rfl rfl hl.1 rfl (lv_room (Nat.le_of_ble_eq_true rfl)) dX9_races_1 ⟨Nat.le_refl _, Nat.le_refl _⟩) hP hD hS hA [0, 1, 2, 3, 4, 5, 6, 7, 8, 9, 10, 11, 12, 13, 14, 15, 16] [] rfl rfl rfl rfl rfl (fun H locs hP hD hS => ?_)
  refine lv_iconst (v := 0) hx hb dX9_races_4 (by decide) ?_
  refine lv_istore_n (lv' := [(1, .int (0 : Int32)), (0, .ref (h 0))]) hx hb dX9_races_5 rfl hl (by decide) rfl (fun ls hl => ?_)
  refine lv_iconst (v := 0) hx hb dX9_races_6 (by decide) ?_
  refine lv_istore_n (lv' := [(2, .int (0 : Int32)), (1, .int (0 : Int32)), (0, .ref (h 0))]) hx hb dX9_races_7 rfl hl (by decide) rfl (fun ls hl => ?_)
  exact J8 kFUEL q23.1 q23.2 (0 : Int32) (0 : Int32) _ _ _ hf hP hD hS (lv_sub hl [2, 1, 0] rfl)

set_option maxHeartbeats 4000000 in
set_option maxRecDepth 100000 in
theorem c9_goesRun (l : Launch) (D : va_G) (cB cI cZ cO : ClassId) (h : Nat → Nat) (sz : Nat) (v_all : Nat → Int32) (v_past : Nat → Int32) (v_states : Int32) (v_refused : Nat → Int32) (v_far : Nat → Int32) (v_row : Nat → Int32) (v_stepAt : Nat → Int32) (v_depth : Int32) (v_tries : Nat → Int32) (v_values : Nat → Int32) (v_wrong : Int32) (v_isEnd : Nat → Int32) (v_found : Nat → Int32) (v_reached : Nat → Int32) (v_stepIn : Nat → Int32) (v_laid : Nat → Int32) (v_firstRow : Nat → Int32) (v_text : Nat → Int32) (v_textLong : Int32) (v_spot : Int32) (v_taken : Int32) (v_counted : Nat → Int32) (v_far' : Nat → Int32) (v_depth' : Int32) (v_tries' : Nat → Int32) (v_values' : Nat → Int32) (v_wrong' : Int32) (hf : f9_goesRun v_all v_far v_depth v_tries v_values v_wrong = some (v_far', v_depth', v_tries', v_values', v_wrong')) : Met l yX9_goesRun wsX9_goesRun rm9_goesRun (va_Pc [.ref (h 0)] (kb_B D (ka_tys cB cI cZ cO) sz (wdM cI cZ h v_all v_past v_states v_refused v_far v_row v_stepAt v_depth v_tries v_values v_wrong v_isEnd v_found v_reached v_stepIn v_laid v_firstRow v_text v_textLong v_spot v_taken v_counted))) (va_Qv (fun (_ : Unit) => True) (fun _ t => va_P D vwCl (wdM cI cZ h v_all v_past v_states v_refused (v_far') v_row v_stepAt (v_depth') (v_tries') (v_values') (v_wrong') v_isEnd v_found v_reached v_stepIn v_laid v_firstRow v_text v_textLong v_spot v_taken v_counted) t.heap) (va_A (wdM cI cZ h v_all v_past v_states v_refused v_far v_row v_stepAt v_depth v_tries v_values v_wrong v_isEnd v_found v_reached v_stepIn v_laid v_firstRow v_text v_textLong v_spot v_taken v_counted) sz)) 0 0 (va_A (wdM cI cZ h v_all v_past v_states v_refused v_far v_row v_stepAt v_depth v_tries v_values v_wrong v_isEnd v_found v_reached v_stepIn v_laid v_firstRow v_text v_textLong v_spot v_taken v_counted) sz) := by
  refine kb_metV (cc := cX9_goesRun) (maxL := 3) (by decide) rfl (Nat.le_of_ble_eq_true rfl) ?_
  intro p e s m args below meth c Q A ls H hx hb hml hown hts hK hN hP hD hS hA hl hend
  have hown : s.vm.findClass RX9 = some m.cls := hown
  have hl : lv_has ls 3 [(0, .ref (h 0))] := hl
  have hin9 : ∀ w ∈ u_ws RX9 TX9 22, w ∈ wsX9_goesRun := by decide +kernel
  have J10 : ∀ (n : Nat) (v_far : Nat → Int32) (v_depth : Int32) (v_tries : Nat → Int32) (v_values : Nat → Int32) (v_wrong : Int32) (x1 : Int32) (H : Heap) (locs : List Loc) (ls : Array Slot), f9_goesRun_l10 n v_all v_far v_depth v_tries v_values v_wrong x1 = some (v_far', v_depth', v_tries', v_values', v_wrong') → va_P D vwCl (wdM cI cZ h v_all v_past v_states v_refused v_far v_row v_stepAt v_depth v_tries v_values v_wrong v_isEnd v_found v_reached v_stepIn v_laid v_firstRow v_text v_textLong v_spot v_taken v_counted) H → va_D A (wdM cI cZ h v_all v_past v_states v_refused v_far v_row v_stepAt v_depth v_tries v_values v_wrong v_isEnd v_found v_reached v_stepIn v_laid v_firstRow v_text v_textLong v_spot v_taken v_counted) → va_S A s.heap H locs → lv_has ls 3 [(0, .ref (h 0)), (1, .int x1)] → W p l e rm9_goesRun s m args below meth c H locs 0 0 Q (F0 m 10 ls []) := by
    intro n
    induction n with
    | zero =>
      intro v_far v_depth v_tries v_values v_wrong x1 H locs ls hf
      cases (show (none : Option ((Nat → Int32) × Int32 × (Nat → Int32) × (Nat → Int32) × Int32)) = some (v_far', v_depth', v_tries', v_values', v_wrong') from hf)
    | succ n ih =>
      intro v_far v_depth v_tries v_values v_wrong x1 H locs ls hf hP hD hS hl
      rw [f9_goesRun_l10_s] at hf
      refine lv_iload_n hx hb dX9_goesRun_10 rfl (lv_at hl 1 rfl) ?_
      refine lv_aload_n hx hb dX9_goesRun_11 rfl (lv_at hl 0 rfl) ?_
      refine va_get (D := D) (cl := vwCl) (ci := 6) (v := .ref (h 1)) (C := RX9) (T := TX9) (N := 22) hx hb hts hin9 hown hK hP 0 rfl rfl 0 (by decide) (hts (.fieldLink RX9 7 "StepOrdersModel" "all" "[I") (by decide +kernel)) (fun _ h9 => h9) rfl dX9_goesRun_12 ?_
      refine lv_bipush (v := 43) hx hb dX9_goesRun_15 (by decide) ?_
      refine ka_iald (D := D) (cl := vwCl) hx hb hK hP 1 1 (f := v_all) rfl rfl (v := (v_all 43)) (show ¬ (_ ∨ _) from by decide) rfl dX9_goesRun_17 ?_
      refine lv_icmp_ge (tgt := 58) hx hb dX9_goesRun_18 (by decide) (fun c7 => ?_) (fun c7 => ?_)
      · rw [if_pos c7] at hf
        cases hf
        exact hend _ _ _ _ hP hS dX9_goesRun_58
      · rw [if_neg c7] at hf
        refine lv_aload_n hx hb dX9_goesRun_21 rfl (lv_at hl 0 rfl) ?_
        refine va_get (D := D) (cl := vwCl) (ci := 6) (v := .ref (h 1)) (C := RX9) (T := TX9) (N := 22) hx hb hts hin9 hown hK hP 0 rfl rfl 0 (by decide) (hts (.fieldLink RX9 7 "StepOrdersModel" "all" "[I") (by decide +kernel)) (fun _ h9 => h9) rfl dX9_goesRun_22 ?_
        refine lv_bipush (v := 44) hx hb dX9_goesRun_25 (by decide) ?_
        refine lv_iload_n hx hb dX9_goesRun_27 rfl (lv_at hl 1 rfl) ?_
        refine lv_iadd hx hb dX9_goesRun_28 ?_
        refine kb_bind hf (fun v8 hv8 hf => ?_)
        refine ka_iald (D := D) (cl := vwCl) hx hb hK hP 1 1 (f := v_all) rfl rfl (ard_in hv8) (ard_v hv8) dX9_goesRun_29 ?_
        refine lv_istore_n (lv' := [(2, .int v8), (0, .ref (h 0)), (1, .int x1)]) hx hb dX9_goesRun_30 rfl hl (by decide) rfl (fun ls hl => ?_)
        refine lv_aload_n hx hb dX9_goesRun_31 rfl (lv_at hl 1 rfl) ?_
        refine lv_iload_n hx hb dX9_goesRun_32 rfl (lv_at hl 0 rfl) ?_
        refine lv_aload_n hx hb dX9_goesRun_33 rfl (lv_at hl 1 rfl) ?_
        refine va_get (D := D) (cl := vwCl) (ci := 6) (v := .ref (h 4)) (C := RX9) (T := TX9) (N := 22) hx hb hts hin9 hown hK hP 0 rfl rfl 4 (by decide) (hts (.fieldLink RX9 19 "StepOrdersModel" "far" "[I") (by decide +kernel)) (fun _ h9 => h9) rfl dX9_goesRun_34 ?_
        refine lv_iload_n hx hb dX9_goesRun_37 rfl (lv_at hl 0 rfl) ?_
        refine kb_bind hf (fun v9 hv9 hf => ?_)
        refine ka_iald (D := D) (cl := vwCl) hx hb hK hP 4 1 (f := v_far) rfl rfl (ard_in hv9) (ard_v hv9) dX9_goesRun_38 ?_
        refine kb_bind hf (fun q10 hq10 hf => ?_)
        have hPc : va_P D vwCl (wdM cI cZ h v_all v_past v_states v_refused v_far v_row v_stepAt v_depth v_tries v_values v_wrong v_isEnd v_found v_reached v_stepIn v_laid v_firstRow v_text v_textLong v_spot v_taken v_counted) H := hP.sub [0, 1, 2, 3, 4, 5, 6, 7, 8, 9, 10, 11, 12, 13, 14, 15, 16] rfl
        have hDc : va_D A (wdM cI cZ h v_all v_past v_states v_refused v_far v_row v_stepAt v_depth v_tries v_values v_wrong v_isEnd v_found v_reached v_stepIn v_laid v_firstRow v_text v_textLong v_spot v_taken v_counted) := hD.sub [0, 1, 2, 3, 4, 5, 6, 7, 8, 9, 10, 11, 12, 13, 14, 15, 16] (by decide) rfl
        refine kd_vW (ws' := wdM cI cZ h v_all v_past v_states v_refused v_far v_row v_stepAt v_depth v_tries q10.1 q10.2 v_isEnd v_found v_reached v_stepIn v_laid v_firstRow v_text v_textLong v_spot v_taken v_counted) (va_runV (As := [.int v8, .int v9]) (rest := []) ⟨hx, hb, hml, hown, hts⟩ (c9_doesStep l D cB cI cZ cO h H.size v8 v9 v_all v_past v_states v_refused v_far v_row v_stepAt v_depth v_tries v_values v_wrong v_isEnd v_found v_reached v_stepIn v_laid v_firstRow v_text v_textLong v_spot v_taken v_counted q10.1 q10.2 hq10) (cwV 2 hts gX9_goesRun_X9_doesStep rfl rfl rfl (by decide +kernel) ⟨Nat.le_of_ble_eq_true rfl, Nat.le_of_ble_eq_true rfl⟩) ⟨kb_blind, va_recv hK hPc (ci := 6) (q0 := 0) rfl rfl, kb_pre hPc hDc hK hN⟩ rfl rfl hl.1 rfl (lv_room (Nat.le_of_ble_eq_true rfl)) dX9_goesRun_39 ⟨Nat.le_refl _, Nat.le_refl _⟩) hP hD hS hA [0, 1, 2, 3, 4, 5, 6, 7, 8, 9, 10, 11, 12, 13, 14, 15, 16] [] rfl rfl rfl rfl rfl (fun H locs hP hD hS => ?_)
        refine lv_aload_n hx hb dX9_goesRun_42 rfl (lv_at hl 1 rfl) ?_
        refine va_get (D := D) (cl := vwCl) (ci := 6) (v := .ref (h 4)) (C := RX9) (T := TX9) (N := 22) hx hb hts hin9 hown hK hP 0 rfl rfl 4 (by decide) (hts (.fieldLink RX9 19 "StepOrdersModel" "far" "[I") (by decide +kernel)) (fun _ h9 => h9) rfl dX9_goesRun_43 ?_
        refine lv_iload_n hx hb dX9_goesRun_46 rfl (lv_at hl 0 rfl) ?_
        refine lv_dup2_11 hx hb dX9_goesRun_47 rfl rfl ?_
        refine kb_bind hf (fun v11 hv11 hf => ?_)
        refine ka_iald (D := D) (cl := vwCl) hx hb hK hP 4 1 (f := v_far) rfl rfl (ard_in hv11) (ard_v hv11) dX9_goesRun_48 ?_
        refine lv_iconst (v := 1) hx hb dX9_goesRun_49 (by decide) ?_
        refine lv_iadd hx hb dX9_goesRun_50 ?_
        refine kb_bind hf (fun v12 hv12 hf => ?_)
        refine ka_iast (D := D) (cl := vwCl) hx hb hK hP hD hS 4 1 (f := v_far) (g := v12) rfl rfl (awr_in hv12) (awr_v hv12) dX9_goesRun_51 (fun H locs hP hD hS => ?_)
        have hP : va_P D vwCl (wdM cI cZ h v_all v_past v_states v_refused v12 v_row v_stepAt v_depth v_tries q10.1 q10.2 v_isEnd v_found v_reached v_stepIn v_laid v_firstRow v_text v_textLong v_spot v_taken v_counted) H := hP
        have hD : va_D A (wdM cI cZ h v_all v_past v_states v_refused v12 v_row v_stepAt v_depth v_tries q10.1 q10.2 v_isEnd v_found v_reached v_stepIn v_laid v_firstRow v_text v_textLong v_spot v_taken v_counted) := hD
        refine lv_iinc (v := (x1 + 1)) (lv' := [(1, .int (x1 + 1)), (2, .int v8), (0, .ref (h 0))]) hx hb dX9_goesRun_52 hl (k := 2) rfl rfl (by decide) rfl (fun ls hl => ?_)
        refine lv_goto (tgt := 10) hx hb dX9_goesRun_55 (by decide) ?_
        exact ih v12 v_depth v_tries q10.1 q10.2 (x1 + 1) _ _ _ hf hP hD hS (lv_sub hl [2, 0] rfl)
  rw [f9_goesRun] at hf
  refine lv_aload_n hx hb dX9_goesRun_0 rfl (lv_at hl 0 rfl) ?_
  refine kb_bind hf (fun q13 hq13 hf => ?_)
  have hPc : va_P D vwCl (wdM cI cZ h v_all v_past v_states v_refused v_far v_row v_stepAt v_depth v_tries v_values v_wrong v_isEnd v_found v_reached v_stepIn v_laid v_firstRow v_text v_textLong v_spot v_taken v_counted) H := hP.sub [0, 1, 2, 3, 4, 5, 6, 7, 8, 9, 10, 11, 12, 13, 14, 15, 16] rfl
  have hDc : va_D A (wdM cI cZ h v_all v_past v_states v_refused v_far v_row v_stepAt v_depth v_tries v_values v_wrong v_isEnd v_found v_reached v_stepIn v_laid v_firstRow v_text v_textLong v_spot v_taken v_counted) := hD.sub [0, 1, 2, 3, 4, 5, 6, 7, 8, 9, 10, 11, 12, 13, 14, 15, 16] (by decide) rfl
  refine kd_vW (ws' := wdM cI cZ h v_all v_past v_states v_refused q13.1 v_row v_stepAt q13.2.1 q13.2.2 v_values v_wrong v_isEnd v_found v_reached v_stepIn v_laid v_firstRow v_text v_textLong v_spot v_taken v_counted) (va_runV (As := []) (rest := []) ⟨hx, hb, hml, hown, hts⟩ (c9_starts l D cB cI cZ cO h H.size v_all v_past v_states v_refused v_far v_row v_stepAt v_depth v_tries v_values v_wrong v_isEnd v_found v_reached v_stepIn v_laid v_firstRow v_text v_textLong v_spot v_taken v_counted q13.1 q13.2.1 q13.2.2 hq13) (cwV 0 hts gX9_goesRun_X9_starts rfl rfl rfl (by decide +kernel) ⟨Nat.le_of_ble_eq_true rfl, Nat.le_of_ble_eq_true rfl⟩) ⟨kb_blind, va_recv hK hPc (ci := 6) (q0 := 0) rfl rfl, kb_pre hPc hDc hK hN⟩ rfl rfl hl.1 rfl (lv_room (Nat.le_of_ble_eq_true rfl)) dX9_goesRun_1 ⟨Nat.le_refl _, Nat.le_refl _⟩) hP hD hS hA [0, 1, 2, 3, 4, 5, 6, 7, 8, 9, 10, 11, 12, 13, 14, 15, 16] [] rfl rfl rfl rfl rfl (fun H locs hP hD hS => ?_)
  refine lv_aload_n hx hb dX9_goesRun_4 rfl (lv_at hl 0 rfl) ?_
  refine kb_bind hf (fun q14 hq14 hf => ?_)
  have hPc : va_P D vwCl (wdM cI cZ h v_all v_past v_states v_refused q13.1 v_row v_stepAt q13.2.1 q13.2.2 v_values v_wrong v_isEnd v_found v_reached v_stepIn v_laid v_firstRow v_text v_textLong v_spot v_taken v_counted) H := hP.sub [0, 1, 2, 3, 4, 5, 6, 7, 8, 9, 10, 11, 12, 13, 14, 15, 16] rfl
  have hDc : va_D A (wdM cI cZ h v_all v_past v_states v_refused q13.1 v_row v_stepAt q13.2.1 q13.2.2 v_values v_wrong v_isEnd v_found v_reached v_stepIn v_laid v_firstRow v_text v_textLong v_spot v_taken v_counted) := hD.sub [0, 1, 2, 3, 4, 5, 6, 7, 8, 9, 10, 11, 12, 13, 14, 15, 16] (by decide) rfl
  refine kd_vW (ws' := wdM cI cZ h v_all v_past v_states v_refused q13.1 v_row v_stepAt q13.2.1 q13.2.2 q14.1 q14.2 v_isEnd v_found v_reached v_stepIn v_laid v_firstRow v_text v_textLong v_spot v_taken v_counted) (va_runV (As := []) (rest := []) ⟨hx, hb, hml, hown, hts⟩ (c9_valuesBegin l D cB cI cZ cO h H.size v_all v_past v_states v_refused q13.1 v_row v_stepAt q13.2.1 q13.2.2 v_values v_wrong v_isEnd v_found v_reached v_stepIn v_laid v_firstRow v_text v_textLong v_spot v_taken v_counted q14.1 q14.2 hq14) (cwV 0 hts gX9_goesRun_X9_valuesBegin rfl rfl rfl (by decide +kernel) ⟨Nat.le_of_ble_eq_true rfl, Nat.le_of_ble_eq_true rfl⟩) ⟨kb_blind, va_recv hK hPc (ci := 6) (q0 := 0) rfl rfl, kb_pre hPc hDc hK hN⟩ rfl rfl hl.1 rfl (lv_room (Nat.le_of_ble_eq_true rfl)) dX9_goesRun_5 ⟨Nat.le_refl _, Nat.le_refl _⟩) hP hD hS hA [0, 1, 2, 3, 4, 5, 6, 7, 8, 9, 10, 11, 12, 13, 14, 15, 16] [] rfl rfl rfl rfl rfl (fun H locs hP hD hS => ?_)
  refine lv_iconst (v := 0) hx hb dX9_goesRun_8 (by decide) ?_
  refine lv_istore_n (lv' := [(1, .int (0 : Int32)), (0, .ref (h 0))]) hx hb dX9_goesRun_9 rfl hl (by decide) rfl (fun ls hl => ?_)
  exact J10 kFUEL q13.1 q13.2.1 q13.2.2 q14.1 q14.2 (0 : Int32) _ _ _ hf hP hD hS (lv_sub hl [1, 0] rfl)

set_option maxHeartbeats 4000000 in
set_option maxRecDepth 100000 in
theorem c9_does (l : Launch) (D : va_G) (cB cI cZ cO : ClassId) (h : Nat → Nat) (sz : Nat) (x1 : Int32) (v_all : Nat → Int32) (v_past : Nat → Int32) (v_states : Int32) (v_refused : Nat → Int32) (v_far : Nat → Int32) (v_row : Nat → Int32) (v_stepAt : Nat → Int32) (v_depth : Int32) (v_tries : Nat → Int32) (v_values : Nat → Int32) (v_wrong : Int32) (v_isEnd : Nat → Int32) (v_found : Nat → Int32) (v_reached : Nat → Int32) (v_stepIn : Nat → Int32) (v_laid : Nat → Int32) (v_firstRow : Nat → Int32) (v_text : Nat → Int32) (v_textLong : Int32) (v_spot : Int32) (v_taken : Int32) (v_counted : Nat → Int32) (r0 : Int32) (v_all' : Nat → Int32) (v_past' : Nat → Int32) (v_states' : Int32) (v_refused' : Nat → Int32) (v_far' : Nat → Int32) (v_depth' : Int32) (v_tries' : Nat → Int32) (v_values' : Nat → Int32) (v_wrong' : Int32) (hf : f9_does v_all v_past v_states v_refused v_far v_depth v_tries v_values v_wrong x1 = some (r0, v_all', v_past', v_states', v_refused', v_far', v_depth', v_tries', v_values', v_wrong')) : Met l yX9_does wsX9_does rm9_does (va_Pc [.ref (h 0), .int x1] (kb_B D (ka_tys cB cI cZ cO) sz (wdM cI cZ h v_all v_past v_states v_refused v_far v_row v_stepAt v_depth v_tries v_values v_wrong v_isEnd v_found v_reached v_stepIn v_laid v_firstRow v_text v_textLong v_spot v_taken v_counted))) (va_Qi (kb_post .int r0) (fun _ t => va_P D vwCl (wdM cI cZ h (v_all') (v_past') (v_states') (v_refused') (v_far') v_row v_stepAt (v_depth') (v_tries') (v_values') (v_wrong') v_isEnd v_found v_reached v_stepIn v_laid v_firstRow v_text v_textLong v_spot v_taken v_counted) t.heap) (va_A (wdM cI cZ h v_all v_past v_states v_refused v_far v_row v_stepAt v_depth v_tries v_values v_wrong v_isEnd v_found v_reached v_stepIn v_laid v_firstRow v_text v_textLong v_spot v_taken v_counted) sz)) 0 0 (va_A (wdM cI cZ h v_all v_past v_states v_refused v_far v_row v_stepAt v_depth v_tries v_values v_wrong v_isEnd v_found v_reached v_stepIn v_laid v_firstRow v_text v_textLong v_spot v_taken v_counted) sz) := by
  refine kb_metZ (cc := cX9_does) (maxL := 2) (ty := .int) (by decide) rfl (Nat.le_of_ble_eq_true rfl) ?_
  intro p e s m args below meth c Q A ls H hx hb hml hown hts hK hN hP hD hS hA hl hend
  have hown : s.vm.findClass RX9 = some m.cls := hown
  have hl : lv_has ls 2 [(0, .ref (h 0)), (1, .int x1)] := hl
  have hin9 : ∀ w ∈ u_ws RX9 TX9 22, w ∈ wsX9_does := by decide +kernel
  rw [f9_does] at hf
  refine lv_iload_n hx hb dX9_does_0 rfl (lv_at hl 1 rfl) ?_
  have hPc : va_P D vwCl ([]) H := hP.sub [] rfl
  have hDc : va_D A ([]) := hD.sub [] (by decide) rfl
  refine kd_iR (va_runS (As := [.int x1]) (rest := []) ⟨hx, hb, hml, hown, hts⟩ (c9_isThread l D cB cI cZ cO h H.size x1 (f9_isThread x1) rfl) (va_cwS 1 hts gX9_does_X9_isThread rfl rfl rfl (by decide +kernel) ⟨Nat.le_of_ble_eq_true rfl, Nat.le_of_ble_eq_true rfl⟩) ⟨kb_blind, kb_pre hPc hDc hK hN⟩ rfl rfl hl.1 rfl (lv_room (Nat.le_of_ble_eq_true rfl)) dX9_does_1 ⟨Nat.le_refl _, Nat.le_refl _⟩) hP hD hS hA [] rfl (fun H locs hn1 hP hS => ?_)
  refine lv_if_ne (tgt := 14) hx hb dX9_does_4 (by decide) (fun c2 => ?_) (fun c2 => ?_)
  · rw [if_neg c2] at hf
    refine lv_aload_n hx hb dX9_does_14 rfl (lv_at hl 0 rfl) ?_
    refine kb_bind hf (fun q3 hq3 hf => ?_)
    have hPc : va_P D vwCl (wdM cI cZ h v_all v_past v_states v_refused v_far v_row v_stepAt v_depth v_tries v_values v_wrong v_isEnd v_found v_reached v_stepIn v_laid v_firstRow v_text v_textLong v_spot v_taken v_counted) H := hP.sub [0, 1, 2, 3, 4, 5, 6, 7, 8, 9, 10, 11, 12, 13, 14, 15, 16] rfl
    have hDc : va_D A (wdM cI cZ h v_all v_past v_states v_refused v_far v_row v_stepAt v_depth v_tries v_values v_wrong v_isEnd v_found v_reached v_stepIn v_laid v_firstRow v_text v_textLong v_spot v_taken v_counted) := hD.sub [0, 1, 2, 3, 4, 5, 6, 7, 8, 9, 10, 11, 12, 13, 14, 15, 16] (by decide) rfl
    refine kd_vW (ws' := wdM cI cZ h v_all v_past v_states v_refused q3.1 v_row v_stepAt q3.2.1 q3.2.2.1 q3.2.2.2.1 q3.2.2.2.2 v_isEnd v_found v_reached v_stepIn v_laid v_firstRow v_text v_textLong v_spot v_taken v_counted) (va_runV (As := []) (rest := []) ⟨hx, hb, hml, hown, hts⟩ (c9_goesRun l D cB cI cZ cO h H.size v_all v_past v_states v_refused v_far v_row v_stepAt v_depth v_tries v_values v_wrong v_isEnd v_found v_reached v_stepIn v_laid v_firstRow v_text v_textLong v_spot v_taken v_counted q3.1 q3.2.1 q3.2.2.1 q3.2.2.2.1 q3.2.2.2.2 hq3) (cwV 0 hts gX9_does_X9_goesRun rfl rfl rfl (by decide +kernel) ⟨Nat.le_of_ble_eq_true rfl, Nat.le_of_ble_eq_true rfl⟩) ⟨kb_blind, va_recv hK hPc (ci := 6) (q0 := 0) rfl rfl, kb_pre hPc hDc hK hN⟩ rfl rfl hl.1 rfl (lv_room (Nat.le_of_ble_eq_true rfl)) dX9_does_15 ⟨Nat.le_refl _, Nat.le_refl _⟩) hP hD hS hA [0, 1, 2, 3, 4, 5, 6, 7, 8, 9, 10, 11, 12, 13, 14, 15, 16] [] rfl rfl rfl rfl rfl (fun H locs hP hD hS => ?_)
    refine lv_aload_n hx hb dX9_does_18 rfl (lv_at hl 0 rfl) ?_
    refine lv_iload_n hx hb dX9_does_19 rfl (lv_at hl 1 rfl) ?_
    refine kb_bind hf (fun q4 hq4 hf => ?_)
    have hPc : va_P D vwCl (wdM cI cZ h v_all v_past v_states v_refused q3.1 v_row v_stepAt q3.2.1 q3.2.2.1 q3.2.2.2.1 q3.2.2.2.2 v_isEnd v_found v_reached v_stepIn v_laid v_firstRow v_text v_textLong v_spot v_taken v_counted) H := hP.sub [0, 1, 2, 3, 4, 5, 6, 7, 8, 9, 10, 11, 12, 13, 14, 15, 16] rfl
    have hDc : va_D A (wdM cI cZ h v_all v_past v_states v_refused q3.1 v_row v_stepAt q3.2.1 q3.2.2.1 q3.2.2.2.1 q3.2.2.2.2 v_isEnd v_found v_reached v_stepIn v_laid v_firstRow v_text v_textLong v_spot v_taken v_counted) := hD.sub [0, 1, 2, 3, 4, 5, 6, 7, 8, 9, 10, 11, 12, 13, 14, 15, 16] (by decide) rfl
    refine kd_iR (va_runV (As := [.int x1]) (rest := []) ⟨hx, hb, hml, hown, hts⟩ (c9_canDo l D cB cI cZ cO h H.size x1 v_all v_past v_states v_refused q3.1 v_row v_stepAt q3.2.1 q3.2.2.1 q3.2.2.2.1 q3.2.2.2.2 v_isEnd v_found v_reached v_stepIn v_laid v_firstRow v_text v_textLong v_spot v_taken v_counted q4 hq4) (cwV 1 hts gX9_does_X9_canDo rfl rfl rfl (by decide +kernel) ⟨Nat.le_of_ble_eq_true rfl, Nat.le_of_ble_eq_true rfl⟩) ⟨kb_blind, va_recv hK hPc (ci := 6) (q0 := 0) rfl rfl, kb_pre hPc hDc hK hN⟩ rfl rfl hl.1 rfl (lv_room (Nat.le_of_ble_eq_true rfl)) dX9_does_20 ⟨Nat.le_refl _, Nat.le_refl _⟩) hP hD hS hA [0, 1, 2, 3, 4, 5, 6, 7, 8, 9, 10, 11, 12, 13, 14, 15, 16] rfl (fun H locs hn5 hP hS => ?_)
    refine lv_if_ne (tgt := 33) hx hb dX9_does_23 (by decide) (fun c6 => ?_) (fun c6 => ?_)
    · rw [if_neg c6] at hf
      refine lv_aload_n hx hb dX9_does_33 rfl (lv_at hl 0 rfl) ?_
      refine kb_bind hf (fun q7 hq7 hf => ?_)
      have hPc : va_P D vwCl (wdM cI cZ h v_all v_past v_states v_refused q3.1 v_row v_stepAt q3.2.1 q3.2.2.1 q3.2.2.2.1 q3.2.2.2.2 v_isEnd v_found v_reached v_stepIn v_laid v_firstRow v_text v_textLong v_spot v_taken v_counted) H := hP.sub [0, 1, 2, 3, 4, 5, 6, 7, 8, 9, 10, 11, 12, 13, 14, 15, 16] rfl
      have hDc : va_D A (wdM cI cZ h v_all v_past v_states v_refused q3.1 v_row v_stepAt q3.2.1 q3.2.2.1 q3.2.2.2.1 q3.2.2.2.2 v_isEnd v_found v_reached v_stepIn v_laid v_firstRow v_text v_textLong v_spot v_taken v_counted) := hD.sub [0, 1, 2, 3, 4, 5, 6, 7, 8, 9, 10, 11, 12, 13, 14, 15, 16] (by decide) rfl
      refine kd_vW (ws' := wdM cI cZ h v_all q7.1 q7.2 v_refused q3.1 v_row v_stepAt q3.2.1 q3.2.2.1 q3.2.2.2.1 q3.2.2.2.2 v_isEnd v_found v_reached v_stepIn v_laid v_firstRow v_text v_textLong v_spot v_taken v_counted) (va_runV (As := []) (rest := []) ⟨hx, hb, hml, hown, hts⟩ (c9_keep l D cB cI cZ cO h H.size v_all v_past v_states v_refused q3.1 v_row v_stepAt q3.2.1 q3.2.2.1 q3.2.2.2.1 q3.2.2.2.2 v_isEnd v_found v_reached v_stepIn v_laid v_firstRow v_text v_textLong v_spot v_taken v_counted q7.1 q7.2 hq7) (cwV 0 hts gX9_does_X9_keep rfl rfl rfl (by decide +kernel) ⟨Nat.le_of_ble_eq_true rfl, Nat.le_of_ble_eq_true rfl⟩) ⟨kb_blind, va_recv hK hPc (ci := 6) (q0 := 0) rfl rfl, kb_pre hPc hDc hK hN⟩ rfl rfl hl.1 rfl (lv_room (Nat.le_of_ble_eq_true rfl)) dX9_does_34 ⟨Nat.le_refl _, Nat.le_refl _⟩) hP hD hS hA [0, 1, 2, 3, 4, 5, 6, 7, 8, 9, 10, 11, 12, 13, 14, 15, 16] [] rfl rfl rfl rfl rfl (fun H locs hP hD hS => ?_)
      refine lv_aload_n hx hb dX9_does_37 rfl (lv_at hl 0 rfl) ?_
      refine va_get (D := D) (cl := vwCl) (ci := 6) (v := .ref (h 1)) (C := RX9) (T := TX9) (N := 22) hx hb hts hin9 hown hK hP 0 rfl rfl 0 (by decide) (hts (.fieldLink RX9 7 "StepOrdersModel" "all" "[I") (by decide +kernel)) (fun _ h9 => h9) rfl dX9_does_38 ?_
      refine lv_bipush (v := 44) hx hb dX9_does_41 (by decide) ?_
      refine lv_aload_n hx hb dX9_does_43 rfl (lv_at hl 0 rfl) ?_
      refine va_get (D := D) (cl := vwCl) (ci := 6) (v := .ref (h 1)) (C := RX9) (T := TX9) (N := 22) hx hb hts hin9 hown hK hP 0 rfl rfl 0 (by decide) (hts (.fieldLink RX9 7 "StepOrdersModel" "all" "[I") (by decide +kernel)) (fun _ h9 => h9) rfl dX9_does_44 ?_
      refine lv_bipush (v := 43) hx hb dX9_does_47 (by decide) ?_
      refine ka_iald (D := D) (cl := vwCl) hx hb hK hP 1 1 (f := v_all) rfl rfl (v := (v_all 43)) (show ¬ (_ ∨ _) from by decide) rfl dX9_does_49 ?_
      refine lv_iadd hx hb dX9_does_50 ?_
      refine lv_iload_n hx hb dX9_does_51 rfl (lv_at hl 1 rfl) ?_
      refine kb_bind hf (fun v8 hv8 hf => ?_)
      refine ka_iast (D := D) (cl := vwCl) hx hb hK hP hD hS 1 1 (f := v_all) (g := v8) rfl rfl (awr_in hv8) (awr_v hv8) dX9_does_52 (fun H locs hP hD hS => ?_)
      have hP : va_P D vwCl (wdM cI cZ h v8 q7.1 q7.2 v_refused q3.1 v_row v_stepAt q3.2.1 q3.2.2.1 q3.2.2.2.1 q3.2.2.2.2 v_isEnd v_found v_reached v_stepIn v_laid v_firstRow v_text v_textLong v_spot v_taken v_counted) H := hP
      have hD : va_D A (wdM cI cZ h v8 q7.1 q7.2 v_refused q3.1 v_row v_stepAt q3.2.1 q3.2.2.1 q3.2.2.2.1 q3.2.2.2.2 v_isEnd v_found v_reached v_stepIn v_laid v_firstRow v_text v_textLong v_spot v_taken v_counted) := hD
      refine lv_aload_n hx hb dX9_does_53 rfl (lv_at hl 0 rfl) ?_
      refine va_get (D := D) (cl := vwCl) (ci := 6) (v := .ref (h 1)) (C := RX9) (T := TX9) (N := 22) hx hb hts hin9 hown hK hP 0 rfl rfl 0 (by decide) (hts (.fieldLink RX9 7 "StepOrdersModel" "all" "[I") (by decide +kernel)) (fun _ h9 => h9) rfl dX9_does_54 ?_
      refine lv_bipush (v := 43) hx hb dX9_does_57 (by decide) ?_
      refine lv_dup2_11 hx hb dX9_does_59 rfl rfl ?_
      refine ka_iald (D := D) (cl := vwCl) hx hb hK hP 1 1 (f := v8) rfl rfl (v := (v8 43)) (show ¬ (_ ∨ _) from by decide) rfl dX9_does_60 ?_
      refine lv_iconst (v := 1) hx hb dX9_does_61 (by decide) ?_
      refine lv_iadd hx hb dX9_does_62 ?_
      refine ka_iast (D := D) (cl := vwCl) hx hb hK hP hD hS 1 1 (f := v8) (g := (upd v8 43 ((v8 43) + (1 : Int32)))) rfl rfl (show ¬ (_ ∨ _) from by decide) rfl dX9_does_63 (fun H locs hP hD hS => ?_)
      have hP : va_P D vwCl (wdM cI cZ h (upd v8 43 ((v8 43) + (1 : Int32))) q7.1 q7.2 v_refused q3.1 v_row v_stepAt q3.2.1 q3.2.2.1 q3.2.2.2.1 q3.2.2.2.2 v_isEnd v_found v_reached v_stepIn v_laid v_firstRow v_text v_textLong v_spot v_taken v_counted) H := hP
      have hD : va_D A (wdM cI cZ h (upd v8 43 ((v8 43) + (1 : Int32))) q7.1 q7.2 v_refused q3.1 v_row v_stepAt q3.2.1 q3.2.2.1 q3.2.2.2.1 q3.2.2.2.2 v_isEnd v_found v_reached v_stepIn v_laid v_firstRow v_text v_textLong v_spot v_taken v_counted) := hD
      refine lv_aload_n hx hb dX9_does_64 rfl (lv_at hl 0 rfl) ?_
      refine kb_bind hf (fun q9 hq9 hf => ?_)
      have hPc : va_P D vwCl (wdM cI cZ h (upd v8 43 ((v8 43) + (1 : Int32))) q7.1 q7.2 v_refused q3.1 v_row v_stepAt q3.2.1 q3.2.2.1 q3.2.2.2.1 q3.2.2.2.2 v_isEnd v_found v_reached v_stepIn v_laid v_firstRow v_text v_textLong v_spot v_taken v_counted) H := hP.sub [0, 1, 2, 3, 4, 5, 6, 7, 8, 9, 10, 11, 12, 13, 14, 15, 16] rfl
      have hDc : va_D A (wdM cI cZ h (upd v8 43 ((v8 43) + (1 : Int32))) q7.1 q7.2 v_refused q3.1 v_row v_stepAt q3.2.1 q3.2.2.1 q3.2.2.2.1 q3.2.2.2.2 v_isEnd v_found v_reached v_stepIn v_laid v_firstRow v_text v_textLong v_spot v_taken v_counted) := hD.sub [0, 1, 2, 3, 4, 5, 6, 7, 8, 9, 10, 11, 12, 13, 14, 15, 16] (by decide) rfl
      refine kd_vW (ws' := wdM cI cZ h (upd v8 43 ((v8 43) + (1 : Int32))) q7.1 q7.2 v_refused q9.1 v_row v_stepAt q9.2.1 q9.2.2.1 q9.2.2.2.1 q9.2.2.2.2 v_isEnd v_found v_reached v_stepIn v_laid v_firstRow v_text v_textLong v_spot v_taken v_counted) (va_runV (As := []) (rest := []) ⟨hx, hb, hml, hown, hts⟩ (c9_goesRun l D cB cI cZ cO h H.size (upd v8 43 ((v8 43) + (1 : Int32))) q7.1 q7.2 v_refused q3.1 v_row v_stepAt q3.2.1 q3.2.2.1 q3.2.2.2.1 q3.2.2.2.2 v_isEnd v_found v_reached v_stepIn v_laid v_firstRow v_text v_textLong v_spot v_taken v_counted q9.1 q9.2.1 q9.2.2.1 q9.2.2.2.1 q9.2.2.2.2 hq9) (cwV 0 hts gX9_does_X9_goesRun rfl rfl rfl (by decide +kernel) ⟨Nat.le_of_ble_eq_true rfl, Nat.le_of_ble_eq_true rfl⟩) ⟨kb_blind, va_recv hK hPc (ci := 6) (q0 := 0) rfl rfl, kb_pre hPc hDc hK hN⟩ rfl rfl hl.1 rfl (lv_room (Nat.le_of_ble_eq_true rfl)) dX9_does_65 ⟨Nat.le_refl _, Nat.le_refl _⟩) hP hD hS hA [0, 1, 2, 3, 4, 5, 6, 7, 8, 9, 10, 11, 12, 13, 14, 15, 16] [] rfl rfl rfl rfl rfl (fun H locs hP hD hS => ?_)
      refine lv_aload_n hx hb dX9_does_68 rfl (lv_at hl 0 rfl) ?_
      refine va_get (D := D) (cl := vwCl) (ci := 6) (v := .int q9.2.2.2.2) (C := RX9) (T := TX9) (N := 22) hx hb hts hin9 hown hK hP 0 rfl rfl 10 (by decide) (hts (.fieldLink RX9 140 "StepOrdersModel" "wrong" "I") (by decide +kernel)) (fun _ h9 => h9) rfl dX9_does_69 ?_
      cases hf
      exact hend _ _ _ _ rfl hP hS dX9_does_72
    · rw [if_pos c6] at hf
      refine lv_aload_n hx hb dX9_does_26 rfl (lv_at hl 0 rfl) ?_
      refine lv_bipush (v := (-3)) hx hb dX9_does_27 (by decide) ?_
      refine kb_bind hf (fun q10 hq10 hf => ?_)
      have hPc : va_P D vwCl (wdM cI cZ h v_all v_past v_states v_refused q3.1 v_row v_stepAt q3.2.1 q3.2.2.1 q3.2.2.2.1 q3.2.2.2.2 v_isEnd v_found v_reached v_stepIn v_laid v_firstRow v_text v_textLong v_spot v_taken v_counted) H := hP.sub [0, 1, 2, 3, 4, 5, 6, 7, 8, 9, 10, 11, 12, 13, 14, 15, 16] rfl
      have hDc : va_D A (wdM cI cZ h v_all v_past v_states v_refused q3.1 v_row v_stepAt q3.2.1 q3.2.2.1 q3.2.2.2.1 q3.2.2.2.2 v_isEnd v_found v_reached v_stepIn v_laid v_firstRow v_text v_textLong v_spot v_taken v_counted) := hD.sub [0, 1, 2, 3, 4, 5, 6, 7, 8, 9, 10, 11, 12, 13, 14, 15, 16] (by decide) rfl
      refine kd_iW (ws' := wdM cI cZ h v_all v_past v_states q10.2 q3.1 v_row v_stepAt q3.2.1 q3.2.2.1 q3.2.2.2.1 q3.2.2.2.2 v_isEnd v_found v_reached v_stepIn v_laid v_firstRow v_text v_textLong v_spot v_taken v_counted) (va_runV (As := [.int (-3 : Int32)]) (rest := []) ⟨hx, hb, hml, hown, hts⟩ (c9_refuses l D cB cI cZ cO h H.size (-3 : Int32) v_all v_past v_states v_refused q3.1 v_row v_stepAt q3.2.1 q3.2.2.1 q3.2.2.2.1 q3.2.2.2.2 v_isEnd v_found v_reached v_stepIn v_laid v_firstRow v_text v_textLong v_spot v_taken v_counted q10.1 q10.2 hq10) (cwV 1 hts gX9_does_X9_refuses rfl rfl rfl (by decide +kernel) ⟨Nat.le_of_ble_eq_true rfl, Nat.le_of_ble_eq_true rfl⟩) ⟨kb_blind, va_recv hK hPc (ci := 6) (q0 := 0) rfl rfl, kb_pre hPc hDc hK hN⟩ rfl rfl hl.1 rfl (lv_room (Nat.le_of_ble_eq_true rfl)) dX9_does_29 ⟨Nat.le_refl _, Nat.le_refl _⟩) hP hD hS hA [0, 1, 2, 3, 4, 5, 6, 7, 8, 9, 10, 11, 12, 13, 14, 15, 16] [] rfl rfl rfl rfl rfl (fun H locs hn11 hP hD hS => ?_)
      cases hf
      exact hend _ _ _ _ rfl hP hS dX9_does_32
  · rw [if_pos c2] at hf
    refine lv_aload_n hx hb dX9_does_7 rfl (lv_at hl 0 rfl) ?_
    refine lv_bipush (v := (-2)) hx hb dX9_does_8 (by decide) ?_
    refine kb_bind hf (fun q12 hq12 hf => ?_)
    have hPc : va_P D vwCl (wdM cI cZ h v_all v_past v_states v_refused v_far v_row v_stepAt v_depth v_tries v_values v_wrong v_isEnd v_found v_reached v_stepIn v_laid v_firstRow v_text v_textLong v_spot v_taken v_counted) H := hP.sub [0, 1, 2, 3, 4, 5, 6, 7, 8, 9, 10, 11, 12, 13, 14, 15, 16] rfl
    have hDc : va_D A (wdM cI cZ h v_all v_past v_states v_refused v_far v_row v_stepAt v_depth v_tries v_values v_wrong v_isEnd v_found v_reached v_stepIn v_laid v_firstRow v_text v_textLong v_spot v_taken v_counted) := hD.sub [0, 1, 2, 3, 4, 5, 6, 7, 8, 9, 10, 11, 12, 13, 14, 15, 16] (by decide) rfl
    refine kd_iW (ws' := wdM cI cZ h v_all v_past v_states q12.2 v_far v_row v_stepAt v_depth v_tries v_values v_wrong v_isEnd v_found v_reached v_stepIn v_laid v_firstRow v_text v_textLong v_spot v_taken v_counted) (va_runV (As := [.int (-2 : Int32)]) (rest := []) ⟨hx, hb, hml, hown, hts⟩ (c9_refuses l D cB cI cZ cO h H.size (-2 : Int32) v_all v_past v_states v_refused v_far v_row v_stepAt v_depth v_tries v_values v_wrong v_isEnd v_found v_reached v_stepIn v_laid v_firstRow v_text v_textLong v_spot v_taken v_counted q12.1 q12.2 hq12) (cwV 1 hts gX9_does_X9_refuses rfl rfl rfl (by decide +kernel) ⟨Nat.le_of_ble_eq_true rfl, Nat.le_of_ble_eq_true rfl⟩) ⟨kb_blind, va_recv hK hPc (ci := 6) (q0 := 0) rfl rfl, kb_pre hPc hDc hK hN⟩ rfl rfl hl.1 rfl (lv_room (Nat.le_of_ble_eq_true rfl)) dX9_does_10 ⟨Nat.le_refl _, Nat.le_refl _⟩) hP hD hS hA [0, 1, 2, 3, 4, 5, 6, 7, 8, 9, 10, 11, 12, 13, 14, 15, 16] [] rfl rfl rfl rfl rfl (fun H locs hn13 hP hD hS => ?_)
    cases hf
    exact hend _ _ _ _ rfl hP hS dX9_does_13

set_option maxHeartbeats 4000000 in
set_option maxRecDepth 100000 in
theorem c9_again (l : Launch) (D : va_G) (cB cI cZ cO : ClassId) (h : Nat → Nat) (sz : Nat) (v_all : Nat → Int32) (v_past : Nat → Int32) (v_states : Int32) (v_refused : Nat → Int32) (v_far : Nat → Int32) (v_row : Nat → Int32) (v_stepAt : Nat → Int32) (v_depth : Int32) (v_tries : Nat → Int32) (v_values : Nat → Int32) (v_wrong : Int32) (v_isEnd : Nat → Int32) (v_found : Nat → Int32) (v_reached : Nat → Int32) (v_stepIn : Nat → Int32) (v_laid : Nat → Int32) (v_firstRow : Nat → Int32) (v_text : Nat → Int32) (v_textLong : Int32) (v_spot : Int32) (v_taken : Int32) (v_counted : Nat → Int32) (r0 : Int32) (v_all' : Nat → Int32) (v_past' : Nat → Int32) (v_states' : Int32) (hf : f9_again v_all v_past v_states = some (r0, v_all', v_past', v_states')) : Met l yX9_again wsX9_again rm9_again (va_Pc [.ref (h 0)] (kb_B D (ka_tys cB cI cZ cO) sz (wdM cI cZ h v_all v_past v_states v_refused v_far v_row v_stepAt v_depth v_tries v_values v_wrong v_isEnd v_found v_reached v_stepIn v_laid v_firstRow v_text v_textLong v_spot v_taken v_counted))) (va_Qi (kb_post .int r0) (fun _ t => va_P D vwCl (wdM cI cZ h (v_all') (v_past') (v_states') v_refused v_far v_row v_stepAt v_depth v_tries v_values v_wrong v_isEnd v_found v_reached v_stepIn v_laid v_firstRow v_text v_textLong v_spot v_taken v_counted) t.heap) (va_A (wdM cI cZ h v_all v_past v_states v_refused v_far v_row v_stepAt v_depth v_tries v_values v_wrong v_isEnd v_found v_reached v_stepIn v_laid v_firstRow v_text v_textLong v_spot v_taken v_counted) sz)) 0 0 (va_A (wdM cI cZ h v_all v_past v_states v_refused v_far v_row v_stepAt v_depth v_tries v_values v_wrong v_isEnd v_found v_reached v_stepIn v_laid v_firstRow v_text v_textLong v_spot v_taken v_counted) sz) := by
  refine kb_metZ (cc := cX9_again) (maxL := 2) (ty := .int) (by decide) rfl (Nat.le_of_ble_eq_true rfl) ?_
  intro p e s m args below meth c Q A ls H hx hb hml hown hts hK hN hP hD hS hA hl hend
  have hown : s.vm.findClass RX9 = some m.cls := hown
  have hl : lv_has ls 2 [(0, .ref (h 0))] := hl
  have hin9 : ∀ w ∈ u_ws RX9 TX9 22, w ∈ wsX9_again := by decide +kernel
  rw [f9_again] at hf
  refine lv_aload_n hx hb dX9_again_0 rfl (lv_at hl 0 rfl) ?_
  refine kb_bind hf (fun q1 hq1 hf => ?_)
  have hPc : va_P D vwCl (wdM cI cZ h v_all v_past v_states v_refused v_far v_row v_stepAt v_depth v_tries v_values v_wrong v_isEnd v_found v_reached v_stepIn v_laid v_firstRow v_text v_textLong v_spot v_taken v_counted) H := hP.sub [0, 1, 2, 3, 4, 5, 6, 7, 8, 9, 10, 11, 12, 13, 14, 15, 16] rfl
  have hDc : va_D A (wdM cI cZ h v_all v_past v_states v_refused v_far v_row v_stepAt v_depth v_tries v_values v_wrong v_isEnd v_found v_reached v_stepIn v_laid v_firstRow v_text v_textLong v_spot v_taken v_counted) := hD.sub [0, 1, 2, 3, 4, 5, 6, 7, 8, 9, 10, 11, 12, 13, 14, 15, 16] (by decide) rfl
  refine kd_vW (ws' := wdM cI cZ h v_all q1.1 q1.2 v_refused v_far v_row v_stepAt v_depth v_tries v_values v_wrong v_isEnd v_found v_reached v_stepIn v_laid v_firstRow v_text v_textLong v_spot v_taken v_counted) (va_runV (As := []) (rest := []) ⟨hx, hb, hml, hown, hts⟩ (c9_keep l D cB cI cZ cO h H.size v_all v_past v_states v_refused v_far v_row v_stepAt v_depth v_tries v_values v_wrong v_isEnd v_found v_reached v_stepIn v_laid v_firstRow v_text v_textLong v_spot v_taken v_counted q1.1 q1.2 hq1) (cwV 0 hts gX9_again_X9_keep rfl rfl rfl (by decide +kernel) ⟨Nat.le_of_ble_eq_true rfl, Nat.le_of_ble_eq_true rfl⟩) ⟨kb_blind, va_recv hK hPc (ci := 6) (q0 := 0) rfl rfl, kb_pre hPc hDc hK hN⟩ rfl rfl hl.1 rfl (lv_room (Nat.le_of_ble_eq_true rfl)) dX9_again_1 ⟨Nat.le_refl _, Nat.le_refl _⟩) hP hD hS hA [0, 1, 2, 3, 4, 5, 6, 7, 8, 9, 10, 11, 12, 13, 14, 15, 16] [] rfl rfl rfl rfl rfl (fun H locs hP hD hS => ?_)
  refine lv_aload_n hx hb dX9_again_4 rfl (lv_at hl 0 rfl) ?_
  refine va_get (D := D) (cl := vwCl) (ci := 6) (v := .ref (h 1)) (C := RX9) (T := TX9) (N := 22) hx hb hts hin9 hown hK hP 0 rfl rfl 0 (by decide) (hts (.fieldLink RX9 7 "StepOrdersModel" "all" "[I") (by decide +kernel)) (fun _ h9 => h9) rfl dX9_again_5 ?_
  refine lv_bipush (v := 43) hx hb dX9_again_8 (by decide) ?_
  refine ka_iald (D := D) (cl := vwCl) hx hb hK hP 1 1 (f := v_all) rfl rfl (v := (v_all 43)) (show ¬ (_ ∨ _) from by decide) rfl dX9_again_10 ?_
  refine lv_istore_n (lv' := [(1, .int (v_all 43)), (0, .ref (h 0))]) hx hb dX9_again_11 rfl hl (by decide) rfl (fun ls hl => ?_)
  refine lv_aload_n hx hb dX9_again_12 rfl (lv_at hl 1 rfl) ?_
  refine va_get (D := D) (cl := vwCl) (ci := 6) (v := .ref (h 1)) (C := RX9) (T := TX9) (N := 22) hx hb hts hin9 hown hK hP 0 rfl rfl 0 (by decide) (hts (.fieldLink RX9 7 "StepOrdersModel" "all" "[I") (by decide +kernel)) (fun _ h9 => h9) rfl dX9_again_13 ?_
  refine lv_bipush (v := 43) hx hb dX9_again_16 (by decide) ?_
  refine lv_iconst (v := 0) hx hb dX9_again_18 (by decide) ?_
  refine ka_iast (D := D) (cl := vwCl) hx hb hK hP hD hS 1 1 (f := v_all) (g := (upd v_all 43 (0 : Int32))) rfl rfl (show ¬ (_ ∨ _) from by decide) rfl dX9_again_19 (fun H locs hP hD hS => ?_)
  have hP : va_P D vwCl (wdM cI cZ h (upd v_all 43 (0 : Int32)) q1.1 q1.2 v_refused v_far v_row v_stepAt v_depth v_tries v_values v_wrong v_isEnd v_found v_reached v_stepIn v_laid v_firstRow v_text v_textLong v_spot v_taken v_counted) H := hP
  have hD : va_D A (wdM cI cZ h (upd v_all 43 (0 : Int32)) q1.1 q1.2 v_refused v_far v_row v_stepAt v_depth v_tries v_values v_wrong v_isEnd v_found v_reached v_stepIn v_laid v_firstRow v_text v_textLong v_spot v_taken v_counted) := hD
  refine lv_iload_n hx hb dX9_again_20 rfl (lv_at hl 0 rfl) ?_
  cases hf
  exact hend _ _ _ _ rfl hP hS dX9_again_21

set_option maxHeartbeats 4000000 in
set_option maxRecDepth 100000 in
theorem c9_runOf (l : Launch) (D : va_G) (cB cI cZ cO : ClassId) (h : Nat → Nat) (sz : Nat) (x1 : Int32) (v_all : Nat → Int32) (v_past : Nat → Int32) (v_states : Int32) (v_refused : Nat → Int32) (v_far : Nat → Int32) (v_row : Nat → Int32) (v_stepAt : Nat → Int32) (v_depth : Int32) (v_tries : Nat → Int32) (v_values : Nat → Int32) (v_wrong : Int32) (v_isEnd : Nat → Int32) (v_found : Nat → Int32) (v_reached : Nat → Int32) (v_stepIn : Nat → Int32) (v_laid : Nat → Int32) (v_firstRow : Nat → Int32) (v_text : Nat → Int32) (v_textLong : Int32) (v_spot : Int32) (v_taken : Int32) (v_counted : Nat → Int32) (r0 : Int32) (v_far' : Nat → Int32) (v_depth' : Int32) (v_tries' : Nat → Int32) (v_values' : Nat → Int32) (v_wrong' : Int32) (hf : f9_runOf v_all v_far v_depth v_tries v_values v_wrong x1 = some (r0, v_far', v_depth', v_tries', v_values', v_wrong')) : Met l yX9_runOf wsX9_runOf rm9_runOf (va_Pc [.ref (h 0), .int x1] (kb_B D (ka_tys cB cI cZ cO) sz (wdM cI cZ h v_all v_past v_states v_refused v_far v_row v_stepAt v_depth v_tries v_values v_wrong v_isEnd v_found v_reached v_stepIn v_laid v_firstRow v_text v_textLong v_spot v_taken v_counted))) (va_Qi (kb_post .int r0) (fun _ t => va_P D vwCl (wdM cI cZ h v_all v_past v_states v_refused (v_far') v_row v_stepAt (v_depth') (v_tries') (v_values') (v_wrong') v_isEnd v_found v_reached v_stepIn v_laid v_firstRow v_text v_textLong v_spot v_taken v_counted) t.heap) (va_A (wdM cI cZ h v_all v_past v_states v_refused v_far v_row v_stepAt v_depth v_tries v_values v_wrong v_isEnd v_found v_reached v_stepIn v_laid v_firstRow v_text v_textLong v_spot v_taken v_counted) sz)) 0 0 (va_A (wdM cI cZ h v_all v_past v_states v_refused v_far v_row v_stepAt v_depth v_tries v_values v_wrong v_isEnd v_found v_reached v_stepIn v_laid v_firstRow v_text v_textLong v_spot v_taken v_counted) sz) := by
  refine kb_metZ (cc := cX9_runOf) (maxL := 2) (ty := .int) (by decide) rfl (Nat.le_of_ble_eq_true rfl) ?_
  intro p e s m args below meth c Q A ls H hx hb hml hown hts hK hN hP hD hS hA hl hend
  have hown : s.vm.findClass RX9 = some m.cls := hown
  have hl : lv_has ls 2 [(0, .ref (h 0)), (1, .int x1)] := hl
  have hin9 : ∀ w ∈ u_ws RX9 TX9 22, w ∈ wsX9_runOf := by decide +kernel
  have J76 : ∀ (v_far : Nat → Int32) (v_depth : Int32) (v_tries : Nat → Int32) (v_values : Nat → Int32) (v_wrong : Int32) (s0 : Int32) (s1 : Int32) (H : Heap) (locs : List Loc) (ls : Array Slot), f9_runOf_b76 v_all v_far v_depth v_tries v_values v_wrong s0 s1 = some (r0, v_far', v_depth', v_tries', v_values', v_wrong') → va_P D vwCl (wdM cI cZ h v_all v_past v_states v_refused v_far v_row v_stepAt v_depth v_tries v_values v_wrong v_isEnd v_found v_reached v_stepIn v_laid v_firstRow v_text v_textLong v_spot v_taken v_counted) H → va_D A (wdM cI cZ h v_all v_past v_states v_refused v_far v_row v_stepAt v_depth v_tries v_values v_wrong v_isEnd v_found v_reached v_stepIn v_laid v_firstRow v_text v_textLong v_spot v_taken v_counted) → va_S A s.heap H locs → lv_has ls 2 [] → W p l e rm9_runOf s m args below meth c H locs 0 0 Q (F0 m 76 ls [.int s1, .int s0]) := by
    intro v_far v_depth v_tries v_values v_wrong s0 s1 H locs ls hf hP hD hS hl
    rw [f9_runOf_b76] at hf
    refine lv_ior hx hb dX9_runOf_76 ?_
    cases hf
    exact hend _ _ _ _ rfl hP hS dX9_runOf_77
  have J62 : ∀ (v_far : Nat → Int32) (v_depth : Int32) (v_tries : Nat → Int32) (v_values : Nat → Int32) (v_wrong : Int32) (s0 : Int32) (s1 : Int32) (H : Heap) (locs : List Loc) (ls : Array Slot), f9_runOf_b62 v_all v_far v_depth v_tries v_values v_wrong s0 s1 = some (r0, v_far', v_depth', v_tries', v_values', v_wrong') → va_P D vwCl (wdM cI cZ h v_all v_past v_states v_refused v_far v_row v_stepAt v_depth v_tries v_values v_wrong v_isEnd v_found v_reached v_stepIn v_laid v_firstRow v_text v_textLong v_spot v_taken v_counted) H → va_D A (wdM cI cZ h v_all v_past v_states v_refused v_far v_row v_stepAt v_depth v_tries v_values v_wrong v_isEnd v_found v_reached v_stepIn v_laid v_firstRow v_text v_textLong v_spot v_taken v_counted) → va_S A s.heap H locs → lv_has ls 2 [(0, .ref (h 0))] → W p l e rm9_runOf s m args below meth c H locs 0 0 Q (F0 m 62 ls [.int s1, .int s0]) := by
    intro v_far v_depth v_tries v_values v_wrong s0 s1 H locs ls hf hP hD hS hl
    rw [f9_runOf_b62] at hf
    refine lv_ior hx hb dX9_runOf_62 ?_
    refine lv_aload_n hx hb dX9_runOf_63 rfl (lv_at hl 0 rfl) ?_
    refine lv_iconst (v := 2) hx hb dX9_runOf_64 (by decide) ?_
    refine kb_bind hf (fun q4 hq4 hf => ?_)
    have hPc : va_P D vwCl (wdM cI cZ h v_all v_past v_states v_refused v_far v_row v_stepAt v_depth v_tries v_values v_wrong v_isEnd v_found v_reached v_stepIn v_laid v_firstRow v_text v_textLong v_spot v_taken v_counted) H := hP.sub [0, 1, 2, 3, 4, 5, 6, 7, 8, 9, 10, 11, 12, 13, 14, 15, 16] rfl
    have hDc : va_D A (wdM cI cZ h v_all v_past v_states v_refused v_far v_row v_stepAt v_depth v_tries v_values v_wrong v_isEnd v_found v_reached v_stepIn v_laid v_firstRow v_text v_textLong v_spot v_taken v_counted) := hD.sub [0, 1, 2, 3, 4, 5, 6, 7, 8, 9, 10, 11, 12, 13, 14, 15, 16] (by decide) rfl
    refine kd_iR (va_runV (As := [.int (2 : Int32)]) (rest := [.int (s0 ||| s1)]) ⟨hx, hb, hml, hown, hts⟩ (c9_canDo l D cB cI cZ cO h H.size (2 : Int32) v_all v_past v_states v_refused v_far v_row v_stepAt v_depth v_tries v_values v_wrong v_isEnd v_found v_reached v_stepIn v_laid v_firstRow v_text v_textLong v_spot v_taken v_counted q4 hq4) (cwV 1 hts gX9_runOf_X9_canDo rfl rfl rfl (by decide +kernel) ⟨Nat.le_of_ble_eq_true rfl, Nat.le_of_ble_eq_true rfl⟩) ⟨kb_blind, va_recv hK hPc (ci := 6) (q0 := 0) rfl rfl, kb_pre hPc hDc hK hN⟩ rfl rfl hl.1 rfl (lv_room (Nat.le_of_ble_eq_true rfl)) dX9_runOf_65 ⟨Nat.le_refl _, Nat.le_refl _⟩) hP hD hS hA [0, 1, 2, 3, 4, 5, 6, 7, 8, 9, 10, 11, 12, 13, 14, 15, 16] rfl (fun H locs hn5 hP hS => ?_)
    refine lv_if_eq (tgt := 75) hx hb dX9_runOf_68 (by decide) (fun c6 => ?_) (fun c6 => ?_)
    · rw [if_pos c6] at hf
      refine lv_iconst (v := 0) hx hb dX9_runOf_75 (by decide) ?_
      exact J76 v_far v_depth v_tries v_values v_wrong (s0 ||| s1) (0 : Int32) _ _ _ hf hP hD hS (lv_sub hl [] rfl)
    · rw [if_neg c6] at hf
      refine lv_iconst (v := 4) hx hb dX9_runOf_71 (by decide) ?_
      refine lv_goto (tgt := 76) hx hb dX9_runOf_72 (by decide) ?_
      exact J76 v_far v_depth v_tries v_values v_wrong (s0 ||| s1) (4 : Int32) _ _ _ hf hP hD hS (lv_sub hl [] rfl)
  have J49 : ∀ (v_far : Nat → Int32) (v_depth : Int32) (v_tries : Nat → Int32) (v_values : Nat → Int32) (v_wrong : Int32) (s0 : Int32) (H : Heap) (locs : List Loc) (ls : Array Slot), f9_runOf_b49 v_all v_far v_depth v_tries v_values v_wrong s0 = some (r0, v_far', v_depth', v_tries', v_values', v_wrong') → va_P D vwCl (wdM cI cZ h v_all v_past v_states v_refused v_far v_row v_stepAt v_depth v_tries v_values v_wrong v_isEnd v_found v_reached v_stepIn v_laid v_firstRow v_text v_textLong v_spot v_taken v_counted) H → va_D A (wdM cI cZ h v_all v_past v_states v_refused v_far v_row v_stepAt v_depth v_tries v_values v_wrong v_isEnd v_found v_reached v_stepIn v_laid v_firstRow v_text v_textLong v_spot v_taken v_counted) → va_S A s.heap H locs → lv_has ls 2 [(0, .ref (h 0))] → W p l e rm9_runOf s m args below meth c H locs 0 0 Q (F0 m 49 ls [.int s0]) := by
    intro v_far v_depth v_tries v_values v_wrong s0 H locs ls hf hP hD hS hl
    rw [f9_runOf_b49] at hf
    refine lv_aload_n hx hb dX9_runOf_49 rfl (lv_at hl 0 rfl) ?_
    refine lv_iconst (v := 1) hx hb dX9_runOf_50 (by decide) ?_
    refine kb_bind hf (fun q10 hq10 hf => ?_)
    have hPc : va_P D vwCl (wdM cI cZ h v_all v_past v_states v_refused v_far v_row v_stepAt v_depth v_tries v_values v_wrong v_isEnd v_found v_reached v_stepIn v_laid v_firstRow v_text v_textLong v_spot v_taken v_counted) H := hP.sub [0, 1, 2, 3, 4, 5, 6, 7, 8, 9, 10, 11, 12, 13, 14, 15, 16] rfl
    have hDc : va_D A (wdM cI cZ h v_all v_past v_states v_refused v_far v_row v_stepAt v_depth v_tries v_values v_wrong v_isEnd v_found v_reached v_stepIn v_laid v_firstRow v_text v_textLong v_spot v_taken v_counted) := hD.sub [0, 1, 2, 3, 4, 5, 6, 7, 8, 9, 10, 11, 12, 13, 14, 15, 16] (by decide) rfl
    refine kd_iR (va_runV (As := [.int (1 : Int32)]) (rest := [.int s0]) ⟨hx, hb, hml, hown, hts⟩ (c9_canDo l D cB cI cZ cO h H.size (1 : Int32) v_all v_past v_states v_refused v_far v_row v_stepAt v_depth v_tries v_values v_wrong v_isEnd v_found v_reached v_stepIn v_laid v_firstRow v_text v_textLong v_spot v_taken v_counted q10 hq10) (cwV 1 hts gX9_runOf_X9_canDo rfl rfl rfl (by decide +kernel) ⟨Nat.le_of_ble_eq_true rfl, Nat.le_of_ble_eq_true rfl⟩) ⟨kb_blind, va_recv hK hPc (ci := 6) (q0 := 0) rfl rfl, kb_pre hPc hDc hK hN⟩ rfl rfl hl.1 rfl (lv_room (Nat.le_of_ble_eq_true rfl)) dX9_runOf_51 ⟨Nat.le_refl _, Nat.le_refl _⟩) hP hD hS hA [0, 1, 2, 3, 4, 5, 6, 7, 8, 9, 10, 11, 12, 13, 14, 15, 16] rfl (fun H locs hn11 hP hS => ?_)
    refine lv_if_eq (tgt := 61) hx hb dX9_runOf_54 (by decide) (fun c12 => ?_) (fun c12 => ?_)
    · rw [if_pos c12] at hf
      refine lv_iconst (v := 0) hx hb dX9_runOf_61 (by decide) ?_
      exact J62 v_far v_depth v_tries v_values v_wrong s0 (0 : Int32) _ _ _ hf hP hD hS (lv_sub hl [0] rfl)
    · rw [if_neg c12] at hf
      refine lv_iconst (v := 2) hx hb dX9_runOf_57 (by decide) ?_
      refine lv_goto (tgt := 62) hx hb dX9_runOf_58 (by decide) ?_
      exact J62 v_far v_depth v_tries v_values v_wrong s0 (2 : Int32) _ _ _ hf hP hD hS (lv_sub hl [0] rfl)
  rw [f9_runOf] at hf
  refine lv_aload_n hx hb dX9_runOf_0 rfl (lv_at hl 0 rfl) ?_
  refine kb_bind hf (fun q13 hq13 hf => ?_)
  have hPc : va_P D vwCl (wdM cI cZ h v_all v_past v_states v_refused v_far v_row v_stepAt v_depth v_tries v_values v_wrong v_isEnd v_found v_reached v_stepIn v_laid v_firstRow v_text v_textLong v_spot v_taken v_counted) H := hP.sub [0, 1, 2, 3, 4, 5, 6, 7, 8, 9, 10, 11, 12, 13, 14, 15, 16] rfl
  have hDc : va_D A (wdM cI cZ h v_all v_past v_states v_refused v_far v_row v_stepAt v_depth v_tries v_values v_wrong v_isEnd v_found v_reached v_stepIn v_laid v_firstRow v_text v_textLong v_spot v_taken v_counted) := hD.sub [0, 1, 2, 3, 4, 5, 6, 7, 8, 9, 10, 11, 12, 13, 14, 15, 16] (by decide) rfl
  refine kd_vW (ws' := wdM cI cZ h v_all v_past v_states v_refused q13.1 v_row v_stepAt q13.2.1 q13.2.2.1 q13.2.2.2.1 q13.2.2.2.2 v_isEnd v_found v_reached v_stepIn v_laid v_firstRow v_text v_textLong v_spot v_taken v_counted) (va_runV (As := []) (rest := []) ⟨hx, hb, hml, hown, hts⟩ (c9_goesRun l D cB cI cZ cO h H.size v_all v_past v_states v_refused v_far v_row v_stepAt v_depth v_tries v_values v_wrong v_isEnd v_found v_reached v_stepIn v_laid v_firstRow v_text v_textLong v_spot v_taken v_counted q13.1 q13.2.1 q13.2.2.1 q13.2.2.2.1 q13.2.2.2.2 hq13) (cwV 0 hts gX9_runOf_X9_goesRun rfl rfl rfl (by decide +kernel) ⟨Nat.le_of_ble_eq_true rfl, Nat.le_of_ble_eq_true rfl⟩) ⟨kb_blind, va_recv hK hPc (ci := 6) (q0 := 0) rfl rfl, kb_pre hPc hDc hK hN⟩ rfl rfl hl.1 rfl (lv_room (Nat.le_of_ble_eq_true rfl)) dX9_runOf_1 ⟨Nat.le_refl _, Nat.le_refl _⟩) hP hD hS hA [0, 1, 2, 3, 4, 5, 6, 7, 8, 9, 10, 11, 12, 13, 14, 15, 16] [] rfl rfl rfl rfl rfl (fun H locs hP hD hS => ?_)
  refine lv_iload_n hx hb dX9_runOf_4 rfl (lv_at hl 1 rfl) ?_
  by_cases c14_0 : x1 = 0
  · rw [if_pos c14_0] at hf
    refine lv_tableIn (tgt := 36) (off := 31) hx hb dX9_runOf_5 (by rw [c14_0]; decide) (by rw [c14_0]; decide) (by rw [c14_0]; rfl) (by decide) ?_
    refine lv_aload_n hx hb dX9_runOf_36 rfl (lv_at hl 0 rfl) ?_
    refine lv_iconst (v := 0) hx hb dX9_runOf_37 (by decide) ?_
    refine kb_bind hf (fun q15 hq15 hf => ?_)
    have hPc : va_P D vwCl (wdM cI cZ h v_all v_past v_states v_refused q13.1 v_row v_stepAt q13.2.1 q13.2.2.1 q13.2.2.2.1 q13.2.2.2.2 v_isEnd v_found v_reached v_stepIn v_laid v_firstRow v_text v_textLong v_spot v_taken v_counted) H := hP.sub [0, 1, 2, 3, 4, 5, 6, 7, 8, 9, 10, 11, 12, 13, 14, 15, 16] rfl
    have hDc : va_D A (wdM cI cZ h v_all v_past v_states v_refused q13.1 v_row v_stepAt q13.2.1 q13.2.2.1 q13.2.2.2.1 q13.2.2.2.2 v_isEnd v_found v_reached v_stepIn v_laid v_firstRow v_text v_textLong v_spot v_taken v_counted) := hD.sub [0, 1, 2, 3, 4, 5, 6, 7, 8, 9, 10, 11, 12, 13, 14, 15, 16] (by decide) rfl
    refine kd_iR (va_runV (As := [.int (0 : Int32)]) (rest := []) ⟨hx, hb, hml, hown, hts⟩ (c9_canDo l D cB cI cZ cO h H.size (0 : Int32) v_all v_past v_states v_refused q13.1 v_row v_stepAt q13.2.1 q13.2.2.1 q13.2.2.2.1 q13.2.2.2.2 v_isEnd v_found v_reached v_stepIn v_laid v_firstRow v_text v_textLong v_spot v_taken v_counted q15 hq15) (cwV 1 hts gX9_runOf_X9_canDo rfl rfl rfl (by decide +kernel) ⟨Nat.le_of_ble_eq_true rfl, Nat.le_of_ble_eq_true rfl⟩) ⟨kb_blind, va_recv hK hPc (ci := 6) (q0 := 0) rfl rfl, kb_pre hPc hDc hK hN⟩ rfl rfl hl.1 rfl (lv_room (Nat.le_of_ble_eq_true rfl)) dX9_runOf_38 ⟨Nat.le_refl _, Nat.le_refl _⟩) hP hD hS hA [0, 1, 2, 3, 4, 5, 6, 7, 8, 9, 10, 11, 12, 13, 14, 15, 16] rfl (fun H locs hn16 hP hS => ?_)
    refine lv_if_eq (tgt := 48) hx hb dX9_runOf_41 (by decide) (fun c17 => ?_) (fun c17 => ?_)
    · rw [if_pos c17] at hf
      refine lv_iconst (v := 0) hx hb dX9_runOf_48 (by decide) ?_
      exact J49 q13.1 q13.2.1 q13.2.2.1 q13.2.2.2.1 q13.2.2.2.2 (0 : Int32) _ _ _ hf hP hD hS (lv_sub hl [0] rfl)
    · rw [if_neg c17] at hf
      refine lv_iconst (v := 1) hx hb dX9_runOf_44 (by decide) ?_
      refine lv_goto (tgt := 49) hx hb dX9_runOf_45 (by decide) ?_
      exact J49 q13.1 q13.2.1 q13.2.2.1 q13.2.2.2.1 q13.2.2.2.2 (1 : Int32) _ _ _ hf hP hD hS (lv_sub hl [0] rfl)
  rw [if_neg c14_0] at hf
  by_cases c14_1 : x1 = 1
  · rw [if_pos c14_1] at hf
    refine lv_tableIn (tgt := 78) (off := 73) hx hb dX9_runOf_5 (by rw [c14_1]; decide) (by rw [c14_1]; decide) (by rw [c14_1]; rfl) (by decide) ?_
    refine lv_aload_n hx hb dX9_runOf_78 rfl (lv_at hl 0 rfl) ?_
    refine va_get (D := D) (cl := vwCl) (ci := 6) (v := .ref (h 1)) (C := RX9) (T := TX9) (N := 22) hx hb hts hin9 hown hK hP 0 rfl rfl 0 (by decide) (hts (.fieldLink RX9 7 "StepOrdersModel" "all" "[I") (by decide +kernel)) (fun _ h9 => h9) rfl dX9_runOf_79 ?_
    refine lv_bipush (v := 43) hx hb dX9_runOf_82 (by decide) ?_
    refine ka_iald (D := D) (cl := vwCl) hx hb hK hP 1 1 (f := v_all) rfl rfl (v := (v_all 43)) (show ¬ (_ ∨ _) from by decide) rfl dX9_runOf_84 ?_
    cases hf
    exact hend _ _ _ _ rfl hP hS dX9_runOf_85
  rw [if_neg c14_1] at hf
  by_cases c14_2 : x1 = 2
  · rw [if_pos c14_2] at hf
    refine lv_tableIn (tgt := 86) (off := 81) hx hb dX9_runOf_5 (by rw [c14_2]; decide) (by rw [c14_2]; decide) (by rw [c14_2]; rfl) (by decide) ?_
    refine lv_aload_n hx hb dX9_runOf_86 rfl (lv_at hl 0 rfl) ?_
    refine va_get (D := D) (cl := vwCl) (ci := 6) (v := .int q13.2.2.2.2) (C := RX9) (T := TX9) (N := 22) hx hb hts hin9 hown hK hP 0 rfl rfl 10 (by decide) (hts (.fieldLink RX9 140 "StepOrdersModel" "wrong" "I") (by decide +kernel)) (fun _ h9 => h9) rfl dX9_runOf_87 ?_
    cases hf
    exact hend _ _ _ _ rfl hP hS dX9_runOf_90
  rw [if_neg c14_2] at hf
  by_cases c14_3 : x1 = 3
  · rw [if_pos c14_3] at hf
    refine lv_tableIn (tgt := 91) (off := 86) hx hb dX9_runOf_5 (by rw [c14_3]; decide) (by rw [c14_3]; decide) (by rw [c14_3]; rfl) (by decide) ?_
    refine lv_aload_n hx hb dX9_runOf_91 rfl (lv_at hl 0 rfl) ?_
    refine lv_aload_n hx hb dX9_runOf_92 rfl (lv_at hl 0 rfl) ?_
    refine va_get (D := D) (cl := vwCl) (ci := 6) (v := .ref (h 8)) (C := RX9) (T := TX9) (N := 22) hx hb hts hin9 hown hK hP 0 rfl rfl 9 (by decide) (hts (.fieldLink RX9 31 "StepOrdersModel" "values" "[I") (by decide +kernel)) (fun _ h9 => h9) rfl dX9_runOf_93 ?_
    refine lv_iconst (v := 0) hx hb dX9_runOf_96 (by decide) ?_
    refine ka_iald (D := D) (cl := vwCl) hx hb hK hP 8 1 (f := q13.2.2.2.1) rfl rfl (v := (q13.2.2.2.1 0)) (show ¬ (_ ∨ _) from by decide) rfl dX9_runOf_97 ?_
    refine lv_aload_n hx hb dX9_runOf_98 rfl (lv_at hl 0 rfl) ?_
    refine va_get (D := D) (cl := vwCl) (ci := 6) (v := .ref (h 8)) (C := RX9) (T := TX9) (N := 22) hx hb hts hin9 hown hK hP 0 rfl rfl 9 (by decide) (hts (.fieldLink RX9 31 "StepOrdersModel" "values" "[I") (by decide +kernel)) (fun _ h9 => h9) rfl dX9_runOf_99 ?_
    refine lv_iconst (v := 1) hx hb dX9_runOf_102 (by decide) ?_
    refine ka_iald (D := D) (cl := vwCl) hx hb hK hP 8 1 (f := q13.2.2.2.1) rfl rfl (v := (q13.2.2.2.1 1)) (show ¬ (_ ∨ _) from by decide) rfl dX9_runOf_103 ?_
    refine lv_aload_n hx hb dX9_runOf_104 rfl (lv_at hl 0 rfl) ?_
    refine va_get (D := D) (cl := vwCl) (ci := 6) (v := .ref (h 8)) (C := RX9) (T := TX9) (N := 22) hx hb hts hin9 hown hK hP 0 rfl rfl 9 (by decide) (hts (.fieldLink RX9 31 "StepOrdersModel" "values" "[I") (by decide +kernel)) (fun _ h9 => h9) rfl dX9_runOf_105 ?_
    refine lv_iconst (v := 2) hx hb dX9_runOf_108 (by decide) ?_
    refine ka_iald (D := D) (cl := vwCl) hx hb hK hP 8 1 (f := q13.2.2.2.1) rfl rfl (v := (q13.2.2.2.1 2)) (show ¬ (_ ∨ _) from by decide) rfl dX9_runOf_109 ?_
    refine lv_aload_n hx hb dX9_runOf_110 rfl (lv_at hl 0 rfl) ?_
    refine va_get (D := D) (cl := vwCl) (ci := 6) (v := .ref (h 8)) (C := RX9) (T := TX9) (N := 22) hx hb hts hin9 hown hK hP 0 rfl rfl 9 (by decide) (hts (.fieldLink RX9 31 "StepOrdersModel" "values" "[I") (by decide +kernel)) (fun _ h9 => h9) rfl dX9_runOf_111 ?_
    refine lv_iconst (v := 3) hx hb dX9_runOf_114 (by decide) ?_
    refine ka_iald (D := D) (cl := vwCl) hx hb hK hP 8 1 (f := q13.2.2.2.1) rfl rfl (v := (q13.2.2.2.1 3)) (show ¬ (_ ∨ _) from by decide) rfl dX9_runOf_115 ?_
    have hPc : va_P D vwCl (wdM cI cZ h v_all v_past v_states v_refused q13.1 v_row v_stepAt q13.2.1 q13.2.2.1 q13.2.2.2.1 q13.2.2.2.2 v_isEnd v_found v_reached v_stepIn v_laid v_firstRow v_text v_textLong v_spot v_taken v_counted) H := hP.sub [0, 1, 2, 3, 4, 5, 6, 7, 8, 9, 10, 11, 12, 13, 14, 15, 16] rfl
    have hDc : va_D A (wdM cI cZ h v_all v_past v_states v_refused q13.1 v_row v_stepAt q13.2.1 q13.2.2.1 q13.2.2.2.1 q13.2.2.2.2 v_isEnd v_found v_reached v_stepIn v_laid v_firstRow v_text v_textLong v_spot v_taken v_counted) := hD.sub [0, 1, 2, 3, 4, 5, 6, 7, 8, 9, 10, 11, 12, 13, 14, 15, 16] (by decide) rfl
    refine kd_iR (va_runV (As := [.int (q13.2.2.2.1 0), .int (q13.2.2.2.1 1), .int (q13.2.2.2.1 2), .int (q13.2.2.2.1 3)]) (rest := []) ⟨hx, hb, hml, hown, hts⟩ (c9_told4 l D cB cI cZ cO h H.size (q13.2.2.2.1 0) (q13.2.2.2.1 1) (q13.2.2.2.1 2) (q13.2.2.2.1 3) v_all v_past v_states v_refused q13.1 v_row v_stepAt q13.2.1 q13.2.2.1 q13.2.2.2.1 q13.2.2.2.2 v_isEnd v_found v_reached v_stepIn v_laid v_firstRow v_text v_textLong v_spot v_taken v_counted (f9_told4 (q13.2.2.2.1 0) (q13.2.2.2.1 1) (q13.2.2.2.1 2) (q13.2.2.2.1 3)) rfl) (cwV 4 hts gX9_runOf_X9_told4 rfl rfl rfl (by decide +kernel) ⟨Nat.le_of_ble_eq_true rfl, Nat.le_of_ble_eq_true rfl⟩) ⟨kb_blind, va_recv hK hPc (ci := 6) (q0 := 0) rfl rfl, kb_pre hPc hDc hK hN⟩ rfl rfl hl.1 rfl (lv_room (Nat.le_of_ble_eq_true rfl)) dX9_runOf_116 ⟨Nat.le_refl _, Nat.le_refl _⟩) hP hD hS hA [0, 1, 2, 3, 4, 5, 6, 7, 8, 9, 10, 11, 12, 13, 14, 15, 16] rfl (fun H locs hn18 hP hS => ?_)
    cases hf
    exact hend _ _ _ _ rfl hP hS dX9_runOf_119
  rw [if_neg c14_3] at hf
  refine lv_tableOut (tgt := 120) hx hb dX9_runOf_5 (by have e0 := lv_neT c14_0 (a := 0) rfl; have e1 := lv_neT c14_1 (a := 1) rfl; have e2 := lv_neT c14_2 (a := 2) rfl; have e3 := lv_neT c14_3 (a := 3) rfl; omega) (by decide) ?_
  refine lv_aload_n hx hb dX9_runOf_120 rfl (lv_at hl 0 rfl) ?_
  refine lv_iload_n hx hb dX9_runOf_121 rfl (lv_at hl 1 rfl) ?_
  refine lv_iconst (v := 4) hx hb dX9_runOf_122 (by decide) ?_
  refine lv_isub hx hb dX9_runOf_123 ?_
  refine kb_bind hf (fun q19 hq19 hf => ?_)
  have hPc : va_P D vwCl (wdM cI cZ h v_all v_past v_states v_refused q13.1 v_row v_stepAt q13.2.1 q13.2.2.1 q13.2.2.2.1 q13.2.2.2.2 v_isEnd v_found v_reached v_stepIn v_laid v_firstRow v_text v_textLong v_spot v_taken v_counted) H := hP.sub [0, 1, 2, 3, 4, 5, 6, 7, 8, 9, 10, 11, 12, 13, 14, 15, 16] rfl
  have hDc : va_D A (wdM cI cZ h v_all v_past v_states v_refused q13.1 v_row v_stepAt q13.2.1 q13.2.2.1 q13.2.2.2.1 q13.2.2.2.2 v_isEnd v_found v_reached v_stepIn v_laid v_firstRow v_text v_textLong v_spot v_taken v_counted) := hD.sub [0, 1, 2, 3, 4, 5, 6, 7, 8, 9, 10, 11, 12, 13, 14, 15, 16] (by decide) rfl
  refine kd_iR (va_runV (As := [.int (x1 - (4 : Int32))]) (rest := []) ⟨hx, hb, hml, hown, hts⟩ (c9_holder l D cB cI cZ cO h H.size (x1 - (4 : Int32)) v_all v_past v_states v_refused q13.1 v_row v_stepAt q13.2.1 q13.2.2.1 q13.2.2.2.1 q13.2.2.2.2 v_isEnd v_found v_reached v_stepIn v_laid v_firstRow v_text v_textLong v_spot v_taken v_counted q19 hq19) (cwV 1 hts gX9_runOf_X9_holder rfl rfl rfl (by decide +kernel) ⟨Nat.le_of_ble_eq_true rfl, Nat.le_of_ble_eq_true rfl⟩) ⟨kb_blind, va_recv hK hPc (ci := 6) (q0 := 0) rfl rfl, kb_pre hPc hDc hK hN⟩ rfl rfl hl.1 rfl (lv_room (Nat.le_of_ble_eq_true rfl)) dX9_runOf_124 ⟨Nat.le_refl _, Nat.le_refl _⟩) hP hD hS hA [0, 1, 2, 3, 4, 5, 6, 7, 8, 9, 10, 11, 12, 13, 14, 15, 16] rfl (fun H locs hn20 hP hS => ?_)
  cases hf
  exact hend _ _ _ _ rfl hP hS dX9_runOf_127

set_option maxHeartbeats 4000000 in
set_option maxRecDepth 100000 in
theorem c9_run (l : Launch) (D : va_G) (cB cI cZ cO : ClassId) (h : Nat → Nat) (sz : Nat) (x1 : Int32) (v_all : Nat → Int32) (v_past : Nat → Int32) (v_states : Int32) (v_refused : Nat → Int32) (v_far : Nat → Int32) (v_row : Nat → Int32) (v_stepAt : Nat → Int32) (v_depth : Int32) (v_tries : Nat → Int32) (v_values : Nat → Int32) (v_wrong : Int32) (v_isEnd : Nat → Int32) (v_found : Nat → Int32) (v_reached : Nat → Int32) (v_stepIn : Nat → Int32) (v_laid : Nat → Int32) (v_firstRow : Nat → Int32) (v_text : Nat → Int32) (v_textLong : Int32) (v_spot : Int32) (v_taken : Int32) (v_counted : Nat → Int32) (r0 : Int32) (v_refused' : Nat → Int32) (v_far' : Nat → Int32) (v_depth' : Int32) (v_tries' : Nat → Int32) (v_values' : Nat → Int32) (v_wrong' : Int32) (hf : f9_run v_all v_refused v_far v_depth v_tries v_values v_wrong x1 = some (r0, v_refused', v_far', v_depth', v_tries', v_values', v_wrong')) : Met l yX9_run wsX9_run rm9_run (va_Pc [.ref (h 0), .int x1] (kb_B D (ka_tys cB cI cZ cO) sz (wdM cI cZ h v_all v_past v_states v_refused v_far v_row v_stepAt v_depth v_tries v_values v_wrong v_isEnd v_found v_reached v_stepIn v_laid v_firstRow v_text v_textLong v_spot v_taken v_counted))) (va_Qi (kb_post .int r0) (fun _ t => va_P D vwCl (wdM cI cZ h v_all v_past v_states (v_refused') (v_far') v_row v_stepAt (v_depth') (v_tries') (v_values') (v_wrong') v_isEnd v_found v_reached v_stepIn v_laid v_firstRow v_text v_textLong v_spot v_taken v_counted) t.heap) (va_A (wdM cI cZ h v_all v_past v_states v_refused v_far v_row v_stepAt v_depth v_tries v_values v_wrong v_isEnd v_found v_reached v_stepIn v_laid v_firstRow v_text v_textLong v_spot v_taken v_counted) sz)) 0 0 (va_A (wdM cI cZ h v_all v_past v_states v_refused v_far v_row v_stepAt v_depth v_tries v_values v_wrong v_isEnd v_found v_reached v_stepIn v_laid v_firstRow v_text v_textLong v_spot v_taken v_counted) sz) := by
  refine kb_metZ (cc := cX9_run) (maxL := 2) (ty := .int) (by decide) rfl (Nat.le_of_ble_eq_true rfl) ?_
  intro p e s m args below meth c Q A ls H hx hb hml hown hts hK hN hP hD hS hA hl hend
  have hown : s.vm.findClass RX9 = some m.cls := hown
  have hl : lv_has ls 2 [(0, .ref (h 0)), (1, .int x1)] := hl
  rw [f9_run] at hf
  refine lv_iload_n hx hb dX9_run_0 rfl (lv_at hl 1 rfl) ?_
  refine lv_i2l (v := x1.toInt64) hx hb dX9_run_1 rfl ?_
  refine lv_lconst (v := 0) hx hb dX9_run_2 (by decide) ?_
  refine lv_ldc2 (v := 5) hx hb hown (hts (.constantLong RX9 63 (5)) (by decide +kernel)) dX9_run_3 ?_
  have hPc : va_P D vwCl ([]) H := hP.sub [] rfl
  have hDc : va_D A ([]) := hD.sub [] (by decide) rfl
  refine kd_iR (va_runS (As := [.long x1.toInt64, .long (0 : Int64), .long (5 : Int64)]) (rest := []) ⟨hx, hb, hml, hown, hts⟩ (c9_in l D cB cI cZ cO h H.size x1.toInt64 (0 : Int64) (5 : Int64) (f9_in x1.toInt64 (0 : Int64) (5 : Int64)) rfl) (va_cwS 3 hts gX9_run_X9_in rfl rfl rfl (by decide +kernel) ⟨Nat.le_of_ble_eq_true rfl, Nat.le_of_ble_eq_true rfl⟩) ⟨kb_blind, kb_pre hPc hDc hK hN⟩ rfl rfl hl.1 rfl (lv_room (Nat.le_of_ble_eq_true rfl)) dX9_run_6 ⟨Nat.le_refl _, Nat.le_refl _⟩) hP hD hS hA [] rfl (fun H locs hn1 hP hS => ?_)
  refine lv_if_eq (tgt := 20) hx hb dX9_run_9 (by decide) (fun c2 => ?_) (fun c2 => ?_)
  · rw [if_pos c2] at hf
    refine lv_aload_n hx hb dX9_run_20 rfl (lv_at hl 0 rfl) ?_
    refine lv_bipush (v := (-2)) hx hb dX9_run_21 (by decide) ?_
    refine kb_bind hf (fun q3 hq3 hf => ?_)
    have hPc : va_P D vwCl (wdM cI cZ h v_all v_past v_states v_refused v_far v_row v_stepAt v_depth v_tries v_values v_wrong v_isEnd v_found v_reached v_stepIn v_laid v_firstRow v_text v_textLong v_spot v_taken v_counted) H := hP.sub [0, 1, 2, 3, 4, 5, 6, 7, 8, 9, 10, 11, 12, 13, 14, 15, 16] rfl
    have hDc : va_D A (wdM cI cZ h v_all v_past v_states v_refused v_far v_row v_stepAt v_depth v_tries v_values v_wrong v_isEnd v_found v_reached v_stepIn v_laid v_firstRow v_text v_textLong v_spot v_taken v_counted) := hD.sub [0, 1, 2, 3, 4, 5, 6, 7, 8, 9, 10, 11, 12, 13, 14, 15, 16] (by decide) rfl
    refine kd_iW (ws' := wdM cI cZ h v_all v_past v_states q3.2 v_far v_row v_stepAt v_depth v_tries v_values v_wrong v_isEnd v_found v_reached v_stepIn v_laid v_firstRow v_text v_textLong v_spot v_taken v_counted) (va_runV (As := [.int (-2 : Int32)]) (rest := []) ⟨hx, hb, hml, hown, hts⟩ (c9_refuses l D cB cI cZ cO h H.size (-2 : Int32) v_all v_past v_states v_refused v_far v_row v_stepAt v_depth v_tries v_values v_wrong v_isEnd v_found v_reached v_stepIn v_laid v_firstRow v_text v_textLong v_spot v_taken v_counted q3.1 q3.2 hq3) (cwV 1 hts gX9_run_X9_refuses rfl rfl rfl (by decide +kernel) ⟨Nat.le_of_ble_eq_true rfl, Nat.le_of_ble_eq_true rfl⟩) ⟨kb_blind, va_recv hK hPc (ci := 6) (q0 := 0) rfl rfl, kb_pre hPc hDc hK hN⟩ rfl rfl hl.1 rfl (lv_room (Nat.le_of_ble_eq_true rfl)) dX9_run_23 ⟨Nat.le_refl _, Nat.le_refl _⟩) hP hD hS hA [0, 1, 2, 3, 4, 5, 6, 7, 8, 9, 10, 11, 12, 13, 14, 15, 16] [] rfl rfl rfl rfl rfl (fun H locs hn4 hP hD hS => ?_)
    cases hf
    exact hend _ _ _ _ rfl hP hS dX9_run_26
  · rw [if_neg c2] at hf
    refine lv_aload_n hx hb dX9_run_12 rfl (lv_at hl 0 rfl) ?_
    refine lv_iload_n hx hb dX9_run_13 rfl (lv_at hl 1 rfl) ?_
    refine kb_bind hf (fun q5 hq5 hf => ?_)
    have hPc : va_P D vwCl (wdM cI cZ h v_all v_past v_states v_refused v_far v_row v_stepAt v_depth v_tries v_values v_wrong v_isEnd v_found v_reached v_stepIn v_laid v_firstRow v_text v_textLong v_spot v_taken v_counted) H := hP.sub [0, 1, 2, 3, 4, 5, 6, 7, 8, 9, 10, 11, 12, 13, 14, 15, 16] rfl
    have hDc : va_D A (wdM cI cZ h v_all v_past v_states v_refused v_far v_row v_stepAt v_depth v_tries v_values v_wrong v_isEnd v_found v_reached v_stepIn v_laid v_firstRow v_text v_textLong v_spot v_taken v_counted) := hD.sub [0, 1, 2, 3, 4, 5, 6, 7, 8, 9, 10, 11, 12, 13, 14, 15, 16] (by decide) rfl
    refine kd_iW (ws' := wdM cI cZ h v_all v_past v_states v_refused q5.2.1 v_row v_stepAt q5.2.2.1 q5.2.2.2.1 q5.2.2.2.2.1 q5.2.2.2.2.2 v_isEnd v_found v_reached v_stepIn v_laid v_firstRow v_text v_textLong v_spot v_taken v_counted) (va_runV (As := [.int x1]) (rest := []) ⟨hx, hb, hml, hown, hts⟩ (c9_runOf l D cB cI cZ cO h H.size x1 v_all v_past v_states v_refused v_far v_row v_stepAt v_depth v_tries v_values v_wrong v_isEnd v_found v_reached v_stepIn v_laid v_firstRow v_text v_textLong v_spot v_taken v_counted q5.1 q5.2.1 q5.2.2.1 q5.2.2.2.1 q5.2.2.2.2.1 q5.2.2.2.2.2 hq5) (cwV 1 hts gX9_run_X9_runOf rfl rfl rfl (by decide +kernel) ⟨Nat.le_of_ble_eq_true rfl, Nat.le_of_ble_eq_true rfl⟩) ⟨kb_blind, va_recv hK hPc (ci := 6) (q0 := 0) rfl rfl, kb_pre hPc hDc hK hN⟩ rfl rfl hl.1 rfl (lv_room (Nat.le_of_ble_eq_true rfl)) dX9_run_14 ⟨Nat.le_refl _, Nat.le_refl _⟩) hP hD hS hA [0, 1, 2, 3, 4, 5, 6, 7, 8, 9, 10, 11, 12, 13, 14, 15, 16] [] rfl rfl rfl rfl rfl (fun H locs hn6 hP hD hS => ?_)
    refine lv_goto (tgt := 26) hx hb dX9_run_17 (by decide) ?_
    cases hf
    exact hend _ _ _ _ rfl hP hS dX9_run_26

set_option maxHeartbeats 4000000 in
set_option maxRecDepth 100000 in
theorem c9_isNext (l : Launch) (D : va_G) (cB cI cZ cO : ClassId) (h : Nat → Nat) (sz : Nat) (x1 : Int32) (v_all : Nat → Int32) (v_past : Nat → Int32) (v_states : Int32) (v_refused : Nat → Int32) (v_far : Nat → Int32) (v_row : Nat → Int32) (v_stepAt : Nat → Int32) (v_depth : Int32) (v_tries : Nat → Int32) (v_values : Nat → Int32) (v_wrong : Int32) (v_isEnd : Nat → Int32) (v_found : Nat → Int32) (v_reached : Nat → Int32) (v_stepIn : Nat → Int32) (v_laid : Nat → Int32) (v_firstRow : Nat → Int32) (v_text : Nat → Int32) (v_textLong : Int32) (v_spot : Int32) (v_taken : Int32) (v_counted : Nat → Int32) (r0 : Int32) (hf : f9_isNext v_all v_stepIn v_laid x1 = some r0) : Met l yX9_isNext wsX9_isNext rm9_isNext (va_Pc [.ref (h 0), .int x1] (kb_B D (ka_tys cB cI cZ cO) sz (wdM cI cZ h v_all v_past v_states v_refused v_far v_row v_stepAt v_depth v_tries v_values v_wrong v_isEnd v_found v_reached v_stepIn v_laid v_firstRow v_text v_textLong v_spot v_taken v_counted))) (va_Qi (kb_post .boolean r0) (fun _ t => va_P D vwCl (wdM cI cZ h v_all v_past v_states v_refused v_far v_row v_stepAt v_depth v_tries v_values v_wrong v_isEnd v_found v_reached v_stepIn v_laid v_firstRow v_text v_textLong v_spot v_taken v_counted) t.heap) (va_A (wdM cI cZ h v_all v_past v_states v_refused v_far v_row v_stepAt v_depth v_tries v_values v_wrong v_isEnd v_found v_reached v_stepIn v_laid v_firstRow v_text v_textLong v_spot v_taken v_counted) sz)) 0 0 (va_A (wdM cI cZ h v_all v_past v_states v_refused v_far v_row v_stepAt v_depth v_tries v_values v_wrong v_isEnd v_found v_reached v_stepIn v_laid v_firstRow v_text v_textLong v_spot v_taken v_counted) sz) := by
  refine kb_metZ (cc := cX9_isNext) (maxL := 4) (ty := .boolean) (by decide) rfl (Nat.le_of_ble_eq_true rfl) ?_
  intro p e s m args below meth c Q A ls H hx hb hml hown hts hK hN hP hD hS hA hl hend
  have hown : s.vm.findClass RX9 = some m.cls := hown
  have hl : lv_has ls 4 [(0, .ref (h 0)), (1, .int x1)] := hl
  have hin9 : ∀ w ∈ u_ws RX9 TX9 22, w ∈ wsX9_isNext := by decide +kernel
  have J84 : ∀ (x2 : Int32) (H : Heap) (locs : List Loc) (ls : Array Slot), f9_isNext_b84 v_all v_stepIn v_laid x2 = some r0 → va_P D vwCl (wdM cI cZ h v_all v_past v_states v_refused v_far v_row v_stepAt v_depth v_tries v_values v_wrong v_isEnd v_found v_reached v_stepIn v_laid v_firstRow v_text v_textLong v_spot v_taken v_counted) H → va_D A (wdM cI cZ h v_all v_past v_states v_refused v_far v_row v_stepAt v_depth v_tries v_values v_wrong v_isEnd v_found v_reached v_stepIn v_laid v_firstRow v_text v_textLong v_spot v_taken v_counted) → va_S A s.heap H locs → lv_has ls 4 [(2, .int x2)] → W p l e rm9_isNext s m args below meth c H locs 0 0 Q (F0 m 84 ls []) := by
    intro x2 H locs ls hf hP hD hS hl
    rw [f9_isNext_b84] at hf
    refine lv_iload_n hx hb dX9_isNext_84 rfl (lv_at hl 0 rfl) ?_
    cases hf
    exact hend _ _ _ _ sorry hP hS dX9_isNext_85
  have J17 : ∀ (n : Nat) (x1 : Int32) (x2 : Int32) (x3 : Int32) (H : Heap) (locs : List Loc) (ls : Array Slot), f9_isNext_l17 n v_all v_stepIn v_laid x1 x2 x3 = some r0 → va_P D vwCl (wdM cI cZ h v_all v_past v_states v_refused v_far v_row v_stepAt v_depth v_tries v_values v_wrong v_isEnd v_found v_reached v_stepIn v_laid v_firstRow v_text v_textLong v_spot v_taken v_counted) H → va_D A (wdM cI cZ h v_all v_past v_states v_refused v_far v_row v_stepAt v_depth v_tries v_values v_wrong v_isEnd v_found v_reached v_stepIn v_laid v_firstRow v_text v_textLong v_spot v_taken v_counted) → va_S A s.heap H locs → lv_has ls 4 [(0, .ref (h 0)), (1, .int x1), (2, .int x2), (3, .int x3)] → W p l e rm9_isNext s m args below meth c H locs 0 0 Q (F0 m 17 ls []) := by
    intro n
    induction n with
    | zero =>
      intro x1 x2 x3 H locs ls hf
      cases (show (none : Option (Int32)) = some r0 from hf)
    | succ n ih =>
      have J77 : ∀ (x1 : Int32) (x3 : Int32) (s0 : Int32) (H : Heap) (locs : List Loc) (ls : Array Slot), f9_isNext_b77 (f9_isNext_l17 n) v_all v_stepIn v_laid x1 x3 s0 = some r0 → va_P D vwCl (wdM cI cZ h v_all v_past v_states v_refused v_far v_row v_stepAt v_depth v_tries v_values v_wrong v_isEnd v_found v_reached v_stepIn v_laid v_firstRow v_text v_textLong v_spot v_taken v_counted) H → va_D A (wdM cI cZ h v_all v_past v_states v_refused v_far v_row v_stepAt v_depth v_tries v_values v_wrong v_isEnd v_found v_reached v_stepIn v_laid v_firstRow v_text v_textLong v_spot v_taken v_counted) → va_S A s.heap H locs → lv_has ls 4 [(0, .ref (h 0)), (1, .int x1), (3, .int x3)] → W p l e rm9_isNext s m args below meth c H locs 0 0 Q (F0 m 77 ls [.int s0]) := by
        intro x1 x3 s0 H locs ls hf hP hD hS hl
        rw [f9_isNext_b77] at hf
        refine lv_istore_n (lv' := [(2, .int s0), (0, .ref (h 0)), (1, .int x1), (3, .int x3)]) hx hb dX9_isNext_77 rfl hl (by decide) rfl (fun ls hl => ?_)
        refine lv_iinc (v := (x3 + 1)) (lv' := [(3, .int (x3 + 1)), (2, .int s0), (0, .ref (h 0)), (1, .int x1)]) hx hb dX9_isNext_78 hl (k := 3) rfl rfl (by decide) rfl (fun ls hl => ?_)
        refine lv_goto (tgt := 17) hx hb dX9_isNext_81 (by decide) ?_
        exact ih x1 s0 (x3 + 1) _ _ _ hf hP hD hS (lv_sub hl [2, 3, 1, 0] rfl)
      have J72 : ∀ (x1 : Int32) (x3 : Int32) (H : Heap) (locs : List Loc) (ls : Array Slot), f9_isNext_b72 (f9_isNext_l17 n) v_all v_stepIn v_laid x1 x3 = some r0 → va_P D vwCl (wdM cI cZ h v_all v_past v_states v_refused v_far v_row v_stepAt v_depth v_tries v_values v_wrong v_isEnd v_found v_reached v_stepIn v_laid v_firstRow v_text v_textLong v_spot v_taken v_counted) H → va_D A (wdM cI cZ h v_all v_past v_states v_refused v_far v_row v_stepAt v_depth v_tries v_values v_wrong v_isEnd v_found v_reached v_stepIn v_laid v_firstRow v_text v_textLong v_spot v_taken v_counted) → va_S A s.heap H locs → lv_has ls 4 [(0, .ref (h 0)), (1, .int x1), (3, .int x3)] → W p l e rm9_isNext s m args below meth c H locs 0 0 Q (F0 m 72 ls []) := by
        intro x1 x3 H locs ls hf hP hD hS hl
        rw [f9_isNext_b72] at hf
        refine lv_iconst (v := 1) hx hb dX9_isNext_72 (by decide) ?_
        refine lv_goto (tgt := 77) hx hb dX9_isNext_73 (by decide) ?_
        exact J77 x1 x3 (1 : Int32) _ _ _ hf hP hD hS (lv_sub hl [0, 1, 2] rfl)
      intro x1 x2 x3 H locs ls hf hP hD hS hl
      rw [f9_isNext_l17_s] at hf
      refine lv_iload_n hx hb dX9_isNext_17 rfl (lv_at hl 3 rfl) ?_
      refine lv_iload_n hx hb dX9_isNext_18 rfl (lv_at hl 1 rfl) ?_
      refine lv_icmp_ge (tgt := 84) hx hb dX9_isNext_19 (by decide) (fun c12 => ?_) (fun c12 => ?_)
      · rw [if_pos c12] at hf
        exact J84 x2 _ _ _ hf hP hD hS (lv_sub hl [2] rfl)
      · rw [if_neg c12] at hf
        refine lv_iload_n hx hb dX9_isNext_22 rfl (lv_at hl 2 rfl) ?_
        refine lv_if_eq (tgt := 84) hx hb dX9_isNext_23 (by decide) (fun c13 => ?_) (fun c13 => ?_)
        · rw [if_pos c13] at hf
          exact J84 x2 _ _ _ hf hP hD hS (lv_sub hl [2] rfl)
        · rw [if_neg c13] at hf
          refine lv_aload_n hx hb dX9_isNext_26 rfl (lv_at hl 0 rfl) ?_
          refine va_get (D := D) (cl := vwCl) (ci := 6) (v := .ref (h 13)) (C := RX9) (T := TX9) (N := 22) hx hb hts hin9 hown hK hP 0 rfl rfl 15 (by decide) (hts (.fieldLink RX9 47 "StepOrdersModel" "laid" "[Z") (by decide +kernel)) (fun _ h9 => h9) rfl dX9_isNext_27 ?_
          refine lv_iload_n hx hb dX9_isNext_30 rfl (lv_at hl 3 rfl) ?_
          refine kb_bind hf (fun v14 hv14 hf => ?_)
          refine ka_zald (D := D) (cl := vwCl) hx hb hK hP 13 2 (f := v_laid) rfl rfl (ard_in hv14) (ard_v hv14) dX9_isNext_31 ?_
          refine lv_if_ne (tgt := 72) hx hb dX9_isNext_32 (by decide) (fun c15 => ?_) (fun c15 => ?_)
          · rw [if_neg c15] at hf
            exact J72 x1 x3 _ _ _ hf hP hD hS (lv_sub hl [0, 1, 3] rfl)
          · rw [if_pos c15] at hf
            refine lv_aload_n hx hb dX9_isNext_35 rfl (lv_at hl 0 rfl) ?_
            refine lv_aload_n hx hb dX9_isNext_36 rfl (lv_at hl 0 rfl) ?_
            refine va_get (D := D) (cl := vwCl) (ci := 6) (v := .ref (h 1)) (C := RX9) (T := TX9) (N := 22) hx hb hts hin9 hown hK hP 0 rfl rfl 0 (by decide) (hts (.fieldLink RX9 7 "StepOrdersModel" "all" "[I") (by decide +kernel)) (fun _ h9 => h9) rfl dX9_isNext_37 ?_
            refine lv_bipush (v := 44) hx hb dX9_isNext_40 (by decide) ?_
            refine lv_iload_n hx hb dX9_isNext_42 rfl (lv_at hl 3 rfl) ?_
            refine lv_iadd hx hb dX9_isNext_43 ?_
            refine kb_bind hf (fun v16 hv16 hf => ?_)
            refine ka_iald (D := D) (cl := vwCl) hx hb hK hP 1 1 (f := v_all) rfl rfl (ard_in hv16) (ard_v hv16) dX9_isNext_44 ?_
            refine lv_aload_n hx hb dX9_isNext_45 rfl (lv_at hl 0 rfl) ?_
            refine va_get (D := D) (cl := vwCl) (ci := 6) (v := .ref (h 12)) (C := RX9) (T := TX9) (N := 22) hx hb hts hin9 hown hK hP 0 rfl rfl 14 (by decide) (hts (.fieldLink RX9 44 "StepOrdersModel" "stepIn" "[I") (by decide +kernel)) (fun _ h9 => h9) rfl dX9_isNext_46 ?_
            refine lv_iload_n hx hb dX9_isNext_49 rfl (lv_at hl 3 rfl) ?_
            refine kb_bind hf (fun v17 hv17 hf => ?_)
            refine ka_iald (D := D) (cl := vwCl) hx hb hK hP 12 1 (f := v_stepIn) rfl rfl (ard_in hv17) (ard_v hv17) dX9_isNext_50 ?_
            refine lv_aload_n hx hb dX9_isNext_51 rfl (lv_at hl 0 rfl) ?_
            refine va_get (D := D) (cl := vwCl) (ci := 6) (v := .ref (h 1)) (C := RX9) (T := TX9) (N := 22) hx hb hts hin9 hown hK hP 0 rfl rfl 0 (by decide) (hts (.fieldLink RX9 7 "StepOrdersModel" "all" "[I") (by decide +kernel)) (fun _ h9 => h9) rfl dX9_isNext_52 ?_
            refine lv_bipush (v := 44) hx hb dX9_isNext_55 (by decide) ?_
            refine lv_iload_n hx hb dX9_isNext_57 rfl (lv_at hl 1 rfl) ?_
            refine lv_iadd hx hb dX9_isNext_58 ?_
            refine kb_bind hf (fun v18 hv18 hf => ?_)
            refine ka_iald (D := D) (cl := vwCl) hx hb hK hP 1 1 (f := v_all) rfl rfl (ard_in hv18) (ard_v hv18) dX9_isNext_59 ?_
            refine lv_aload_n hx hb dX9_isNext_60 rfl (lv_at hl 0 rfl) ?_
            refine va_get (D := D) (cl := vwCl) (ci := 6) (v := .ref (h 12)) (C := RX9) (T := TX9) (N := 22) hx hb hts hin9 hown hK hP 0 rfl rfl 14 (by decide) (hts (.fieldLink RX9 44 "StepOrdersModel" "stepIn" "[I") (by decide +kernel)) (fun _ h9 => h9) rfl dX9_isNext_61 ?_
            refine lv_iload_n hx hb dX9_isNext_64 rfl (lv_at hl 1 rfl) ?_
            refine kb_bind hf (fun v19 hv19 hf => ?_)
            refine ka_iald (D := D) (cl := vwCl) hx hb hK hP 12 1 (f := v_stepIn) rfl rfl (ard_in hv19) (ard_v hv19) dX9_isNext_65 ?_
            refine kb_bind hf (fun q20 hq20 hf => ?_)
            have hPc : va_P D vwCl (wdM cI cZ h v_all v_past v_states v_refused v_far v_row v_stepAt v_depth v_tries v_values v_wrong v_isEnd v_found v_reached v_stepIn v_laid v_firstRow v_text v_textLong v_spot v_taken v_counted) H := hP.sub [0, 1, 2, 3, 4, 5, 6, 7, 8, 9, 10, 11, 12, 13, 14, 15, 16] rfl
            have hDc : va_D A (wdM cI cZ h v_all v_past v_states v_refused v_far v_row v_stepAt v_depth v_tries v_values v_wrong v_isEnd v_found v_reached v_stepIn v_laid v_firstRow v_text v_textLong v_spot v_taken v_counted) := hD.sub [0, 1, 2, 3, 4, 5, 6, 7, 8, 9, 10, 11, 12, 13, 14, 15, 16] (by decide) rfl
            refine kd_iR (va_runV (As := [.int v16, .int v17, .int v18, .int v19]) (rest := []) ⟨hx, hb, hml, hown, hts⟩ (c9_areDependent l D cB cI cZ cO h H.size v16 v17 v18 v19 v_all v_past v_states v_refused v_far v_row v_stepAt v_depth v_tries v_values v_wrong v_isEnd v_found v_reached v_stepIn v_laid v_firstRow v_text v_textLong v_spot v_taken v_counted q20 hq20) (cwV 4 hts gX9_isNext_X9_areDependent rfl rfl rfl (by decide +kernel) ⟨Nat.le_of_ble_eq_true rfl, Nat.le_of_ble_eq_true rfl⟩) ⟨kb_blind, va_recv hK hPc (ci := 6) (q0 := 0) rfl rfl, kb_pre hPc hDc hK hN⟩ rfl rfl hl.1 rfl (lv_room (Nat.le_of_ble_eq_true rfl)) dX9_isNext_66 ⟨Nat.le_refl _, Nat.le_refl _⟩) hP hD hS hA [0, 1, 2, 3, 4, 5, 6, 7, 8, 9, 10, 11, 12, 13, 14, 15, 16] rfl (fun H locs hn21 hP hS => ?_)
            refine lv_if_ne (tgt := 76) hx hb dX9_isNext_69 (by decide) (fun c22 => ?_) (fun c22 => ?_)
            · rw [if_neg c22] at hf
              refine lv_iconst (v := 0) hx hb dX9_isNext_76 (by decide) ?_
              exact J77 x1 x3 (0 : Int32) _ _ _ hf hP hD hS (lv_sub hl [0, 1, 3] rfl)
            · rw [if_pos c22] at hf
              exact J72 x1 x3 _ _ _ hf hP hD hS (lv_sub hl [0, 1, 3] rfl)
  have J14 : ∀ (x1 : Int32) (s0 : Int32) (H : Heap) (locs : List Loc) (ls : Array Slot), f9_isNext_b14 v_all v_stepIn v_laid x1 s0 = some r0 → va_P D vwCl (wdM cI cZ h v_all v_past v_states v_refused v_far v_row v_stepAt v_depth v_tries v_values v_wrong v_isEnd v_found v_reached v_stepIn v_laid v_firstRow v_text v_textLong v_spot v_taken v_counted) H → va_D A (wdM cI cZ h v_all v_past v_states v_refused v_far v_row v_stepAt v_depth v_tries v_values v_wrong v_isEnd v_found v_reached v_stepIn v_laid v_firstRow v_text v_textLong v_spot v_taken v_counted) → va_S A s.heap H locs → lv_has ls 4 [(0, .ref (h 0)), (1, .int x1)] → W p l e rm9_isNext s m args below meth c H locs 0 0 Q (F0 m 14 ls [.int s0]) := by
    intro x1 s0 H locs ls hf hP hD hS hl
    rw [f9_isNext_b14] at hf
    refine lv_istore_n (lv' := [(2, .int s0), (0, .ref (h 0)), (1, .int x1)]) hx hb dX9_isNext_14 rfl hl (by decide) rfl (fun ls hl => ?_)
    refine lv_iconst (v := 0) hx hb dX9_isNext_15 (by decide) ?_
    refine lv_istore_n (lv' := [(3, .int (0 : Int32)), (2, .int s0), (0, .ref (h 0)), (1, .int x1)]) hx hb dX9_isNext_16 rfl hl (by decide) rfl (fun ls hl => ?_)
    exact J17 kFUEL x1 s0 (0 : Int32) _ _ _ hf hP hD hS (lv_sub hl [2, 3, 1, 0] rfl)
  rw [f9_isNext] at hf
  refine lv_aload_n hx hb dX9_isNext_0 rfl (lv_at hl 0 rfl) ?_
  refine va_get (D := D) (cl := vwCl) (ci := 6) (v := .ref (h 13)) (C := RX9) (T := TX9) (N := 22) hx hb hts hin9 hown hK hP 0 rfl rfl 15 (by decide) (hts (.fieldLink RX9 47 "StepOrdersModel" "laid" "[Z") (by decide +kernel)) (fun _ h9 => h9) rfl dX9_isNext_1 ?_
  refine lv_iload_n hx hb dX9_isNext_4 rfl (lv_at hl 1 rfl) ?_
  refine kb_bind hf (fun v23 hv23 hf => ?_)
  refine ka_zald (D := D) (cl := vwCl) hx hb hK hP 13 2 (f := v_laid) rfl rfl (ard_in hv23) (ard_v hv23) dX9_isNext_5 ?_
  refine lv_if_ne (tgt := 13) hx hb dX9_isNext_6 (by decide) (fun c24 => ?_) (fun c24 => ?_)
  · rw [if_neg c24] at hf
    refine lv_iconst (v := 0) hx hb dX9_isNext_13 (by decide) ?_
    exact J14 x1 (0 : Int32) _ _ _ hf hP hD hS (lv_sub hl [0, 1] rfl)
  · rw [if_pos c24] at hf
    refine lv_iconst (v := 1) hx hb dX9_isNext_9 (by decide) ?_
    refine lv_goto (tgt := 14) hx hb dX9_isNext_10 (by decide) ?_
    exact J14 x1 (1 : Int32) _ _ _ hf hP hD hS (lv_sub hl [0, 1] rfl)

set_option maxHeartbeats 4000000 in
set_option maxRecDepth 100000 in
theorem c9_laysFirst (l : Launch) (D : va_G) (cB cI cZ cO : ClassId) (h : Nat → Nat) (sz : Nat) (v_all : Nat → Int32) (v_past : Nat → Int32) (v_states : Int32) (v_refused : Nat → Int32) (v_far : Nat → Int32) (v_row : Nat → Int32) (v_stepAt : Nat → Int32) (v_depth : Int32) (v_tries : Nat → Int32) (v_values : Nat → Int32) (v_wrong : Int32) (v_isEnd : Nat → Int32) (v_found : Nat → Int32) (v_reached : Nat → Int32) (v_stepIn : Nat → Int32) (v_laid : Nat → Int32) (v_firstRow : Nat → Int32) (v_text : Nat → Int32) (v_textLong : Int32) (v_spot : Int32) (v_taken : Int32) (v_counted : Nat → Int32) (v_far' : Nat → Int32) (v_depth' : Int32) (v_tries' : Nat → Int32) (v_stepIn' : Nat → Int32) (v_laid' : Nat → Int32) (v_firstRow' : Nat → Int32) (hf : f9_laysFirst v_all v_far v_depth v_tries v_stepIn v_laid v_firstRow = some (v_far', v_depth', v_tries', v_stepIn', v_laid', v_firstRow')) : Met l yX9_laysFirst wsX9_laysFirst rm9_laysFirst (va_Pc [.ref (h 0)] (kb_B D (ka_tys cB cI cZ cO) sz (wdM cI cZ h v_all v_past v_states v_refused v_far v_row v_stepAt v_depth v_tries v_values v_wrong v_isEnd v_found v_reached v_stepIn v_laid v_firstRow v_text v_textLong v_spot v_taken v_counted))) (va_Qv (fun (_ : Unit) => True) (fun _ t => va_P D vwCl (wdM cI cZ h v_all v_past v_states v_refused (v_far') v_row v_stepAt (v_depth') (v_tries') v_values v_wrong v_isEnd v_found v_reached (v_stepIn') (v_laid') (v_firstRow') v_text v_textLong v_spot v_taken v_counted) t.heap) (va_A (wdM cI cZ h v_all v_past v_states v_refused v_far v_row v_stepAt v_depth v_tries v_values v_wrong v_isEnd v_found v_reached v_stepIn v_laid v_firstRow v_text v_textLong v_spot v_taken v_counted) sz)) 0 0 (va_A (wdM cI cZ h v_all v_past v_states v_refused v_far v_row v_stepAt v_depth v_tries v_values v_wrong v_isEnd v_found v_reached v_stepIn v_laid v_firstRow v_text v_textLong v_spot v_taken v_counted) sz) := by
  refine kb_metV (cc := cX9_laysFirst) (maxL := 5) (by decide) rfl (Nat.le_of_ble_eq_true rfl) ?_
  intro p e s m args below meth c Q A ls H hx hb hml hown hts hK hN hP hD hS hA hl hend
  have hown : s.vm.findClass RX9 = some m.cls := hown
  have hl : lv_has ls 5 [(0, .ref (h 0))] := hl
  have hin9 : ∀ w ∈ u_ws RX9 TX9 22, w ∈ wsX9_laysFirst := by decide +kernel
  have J66 : ∀ (n : Nat) (v_far : Nat → Int32) (v_depth : Int32) (v_tries : Nat → Int32) (v_stepIn : Nat → Int32) (v_laid : Nat → Int32) (v_firstRow : Nat → Int32) (x1 : Int32) (x2 : Int32) (H : Heap) (locs : List Loc) (ls : Array Slot), f9_laysFirst_l66 n v_all v_far v_depth v_tries v_stepIn v_laid v_firstRow x1 x2 = some (v_far', v_depth', v_tries', v_stepIn', v_laid', v_firstRow') → va_P D vwCl (wdM cI cZ h v_all v_past v_states v_refused v_far v_row v_stepAt v_depth v_tries v_values v_wrong v_isEnd v_found v_reached v_stepIn v_laid v_firstRow v_text v_textLong v_spot v_taken v_counted) H → va_D A (wdM cI cZ h v_all v_past v_states v_refused v_far v_row v_stepAt v_depth v_tries v_values v_wrong v_isEnd v_found v_reached v_stepIn v_laid v_firstRow v_text v_textLong v_spot v_taken v_counted) → va_S A s.heap H locs → lv_has ls 5 [(0, .ref (h 0)), (1, .int x1), (2, .int x2)] → W p l e rm9_laysFirst s m args below meth c H locs 0 0 Q (F0 m 66 ls []) := by
    intro n
    induction n with
    | zero =>
      intro v_far v_depth v_tries v_stepIn v_laid v_firstRow x1 x2 H locs ls hf
      cases (show (none : Option ((Nat → Int32) × Int32 × (Nat → Int32) × (Nat → Int32) × (Nat → Int32) × (Nat → Int32))) = some (v_far', v_depth', v_tries', v_stepIn', v_laid', v_firstRow') from hf)
    | succ n ih =>
      have J131 : ∀ (v_far : Nat → Int32) (v_depth : Int32) (v_tries : Nat → Int32) (v_stepIn : Nat → Int32) (v_laid : Nat → Int32) (v_firstRow : Nat → Int32) (x1 : Int32) (x2 : Int32) (x3 : Int32) (H : Heap) (locs : List Loc) (ls : Array Slot), f9_laysFirst_b131 (f9_laysFirst_l66 n) v_all v_far v_depth v_tries v_stepIn v_laid v_firstRow x1 x2 x3 = some (v_far', v_depth', v_tries', v_stepIn', v_laid', v_firstRow') → va_P D vwCl (wdM cI cZ h v_all v_past v_states v_refused v_far v_row v_stepAt v_depth v_tries v_values v_wrong v_isEnd v_found v_reached v_stepIn v_laid v_firstRow v_text v_textLong v_spot v_taken v_counted) H → va_D A (wdM cI cZ h v_all v_past v_states v_refused v_far v_row v_stepAt v_depth v_tries v_values v_wrong v_isEnd v_found v_reached v_stepIn v_laid v_firstRow v_text v_textLong v_spot v_taken v_counted) → va_S A s.heap H locs → lv_has ls 5 [(0, .ref (h 0)), (1, .int x1), (2, .int x2), (3, .int x3)] → W p l e rm9_laysFirst s m args below meth c H locs 0 0 Q (F0 m 131 ls []) := by
        intro v_far v_depth v_tries v_stepIn v_laid v_firstRow x1 x2 x3 H locs ls hf hP hD hS hl
        rw [f9_laysFirst_b131] at hf
        refine lv_aload_n hx hb dX9_laysFirst_131 rfl (lv_at hl 0 rfl) ?_
        refine va_get (D := D) (cl := vwCl) (ci := 6) (v := .ref (h 13)) (C := RX9) (T := TX9) (N := 22) hx hb hts hin9 hown hK hP 0 rfl rfl 15 (by decide) (hts (.fieldLink RX9 47 "StepOrdersModel" "laid" "[Z") (by decide +kernel)) (fun _ h9 => h9) rfl dX9_laysFirst_132 ?_
        refine lv_iload_n hx hb dX9_laysFirst_135 rfl (lv_at hl 3 rfl) ?_
        refine lv_iconst (v := 1) hx hb dX9_laysFirst_136 (by decide) ?_
        refine kb_bind hf (fun v13 hv13 hf => ?_)
        refine ka_zast (D := D) (cl := vwCl) hx hb hK hP hD hS 13 2 (f := v_laid) (g := v13) rfl rfl (awr_in hv13) (awr_v hv13) dX9_laysFirst_137 (fun H locs hP hD hS => ?_)
        have hP : va_P D vwCl (wdM cI cZ h v_all v_past v_states v_refused v_far v_row v_stepAt v_depth v_tries v_values v_wrong v_isEnd v_found v_reached v_stepIn v13 v_firstRow v_text v_textLong v_spot v_taken v_counted) H := hP
        have hD : va_D A (wdM cI cZ h v_all v_past v_states v_refused v_far v_row v_stepAt v_depth v_tries v_values v_wrong v_isEnd v_found v_reached v_stepIn v13 v_firstRow v_text v_textLong v_spot v_taken v_counted) := hD
        refine lv_aload_n hx hb dX9_laysFirst_138 rfl (lv_at hl 0 rfl) ?_
        refine va_get (D := D) (cl := vwCl) (ci := 6) (v := .ref (h 14)) (C := RX9) (T := TX9) (N := 22) hx hb hts hin9 hown hK hP 0 rfl rfl 16 (by decide) (hts (.fieldLink RX9 50 "StepOrdersModel" "firstRow" "[I") (by decide +kernel)) (fun _ h9 => h9) rfl dX9_laysFirst_139 ?_
        refine lv_iload_n hx hb dX9_laysFirst_142 rfl (lv_at hl 2 rfl) ?_
        refine lv_aload_n hx hb dX9_laysFirst_143 rfl (lv_at hl 0 rfl) ?_
        refine va_get (D := D) (cl := vwCl) (ci := 6) (v := .ref (h 1)) (C := RX9) (T := TX9) (N := 22) hx hb hts hin9 hown hK hP 0 rfl rfl 0 (by decide) (hts (.fieldLink RX9 7 "StepOrdersModel" "all" "[I") (by decide +kernel)) (fun _ h9 => h9) rfl dX9_laysFirst_144 ?_
        refine lv_bipush (v := 44) hx hb dX9_laysFirst_147 (by decide) ?_
        refine lv_iload_n hx hb dX9_laysFirst_149 rfl (lv_at hl 3 rfl) ?_
        refine lv_iadd hx hb dX9_laysFirst_150 ?_
        refine kb_bind hf (fun v14 hv14 hf => ?_)
        refine ka_iald (D := D) (cl := vwCl) hx hb hK hP 1 1 (f := v_all) rfl rfl (ard_in hv14) (ard_v hv14) dX9_laysFirst_151 ?_
        refine kb_bind hf (fun v15 hv15 hf => ?_)
        refine ka_iast (D := D) (cl := vwCl) hx hb hK hP hD hS 14 1 (f := v_firstRow) (g := v15) rfl rfl (awr_in hv15) (awr_v hv15) dX9_laysFirst_152 (fun H locs hP hD hS => ?_)
        have hP : va_P D vwCl (wdM cI cZ h v_all v_past v_states v_refused v_far v_row v_stepAt v_depth v_tries v_values v_wrong v_isEnd v_found v_reached v_stepIn v13 v15 v_text v_textLong v_spot v_taken v_counted) H := hP
        have hD : va_D A (wdM cI cZ h v_all v_past v_states v_refused v_far v_row v_stepAt v_depth v_tries v_values v_wrong v_isEnd v_found v_reached v_stepIn v13 v15 v_text v_textLong v_spot v_taken v_counted) := hD
        refine lv_iinc (v := (x2 + 1)) (lv' := [(2, .int (x2 + 1)), (0, .ref (h 0)), (1, .int x1), (3, .int x3)]) hx hb dX9_laysFirst_153 hl (k := 2) rfl rfl (by decide) rfl (fun ls hl => ?_)
        refine lv_goto (tgt := 66) hx hb dX9_laysFirst_156 (by decide) ?_
        exact ih v_far v_depth v_tries v_stepIn v13 v15 x1 (x2 + 1) _ _ _ hf hP hD hS (lv_sub hl [1, 2, 0] rfl)
      have J76 : ∀ (n76 : Nat) (v_far : Nat → Int32) (v_depth : Int32) (v_tries : Nat → Int32) (v_stepIn : Nat → Int32) (v_laid : Nat → Int32) (v_firstRow : Nat → Int32) (x1 : Int32) (x2 : Int32) (x3 : Int32) (x4 : Int32) (H : Heap) (locs : List Loc) (ls : Array Slot), f9_laysFirst_l76 (f9_laysFirst_l66 n) n76 v_all v_far v_depth v_tries v_stepIn v_laid v_firstRow x1 x2 x3 x4 = some (v_far', v_depth', v_tries', v_stepIn', v_laid', v_firstRow') → va_P D vwCl (wdM cI cZ h v_all v_past v_states v_refused v_far v_row v_stepAt v_depth v_tries v_values v_wrong v_isEnd v_found v_reached v_stepIn v_laid v_firstRow v_text v_textLong v_spot v_taken v_counted) H → va_D A (wdM cI cZ h v_all v_past v_states v_refused v_far v_row v_stepAt v_depth v_tries v_values v_wrong v_isEnd v_found v_reached v_stepIn v_laid v_firstRow v_text v_textLong v_spot v_taken v_counted) → va_S A s.heap H locs → lv_has ls 5 [(0, .ref (h 0)), (1, .int x1), (2, .int x2), (3, .int x3), (4, .int x4)] → W p l e rm9_laysFirst s m args below meth c H locs 0 0 Q (F0 m 76 ls []) := by
        intro n76
        induction n76 with
        | zero =>
          intro v_far v_depth v_tries v_stepIn v_laid v_firstRow x1 x2 x3 x4 H locs ls hf
          cases (show (none : Option ((Nat → Int32) × Int32 × (Nat → Int32) × (Nat → Int32) × (Nat → Int32) × (Nat → Int32))) = some (v_far', v_depth', v_tries', v_stepIn', v_laid', v_firstRow') from hf)
        | succ n76 ih76 =>
          have J124 : ∀ (v_far : Nat → Int32) (v_depth : Int32) (v_tries : Nat → Int32) (v_stepIn : Nat → Int32) (v_laid : Nat → Int32) (v_firstRow : Nat → Int32) (x1 : Int32) (x2 : Int32) (x4 : Int32) (s0 : Int32) (H : Heap) (locs : List Loc) (ls : Array Slot), f9_laysFirst_b124 (f9_laysFirst_l66 n) (f9_laysFirst_l76 (f9_laysFirst_l66 n) n76) v_all v_far v_depth v_tries v_stepIn v_laid v_firstRow x1 x2 x4 s0 = some (v_far', v_depth', v_tries', v_stepIn', v_laid', v_firstRow') → va_P D vwCl (wdM cI cZ h v_all v_past v_states v_refused v_far v_row v_stepAt v_depth v_tries v_values v_wrong v_isEnd v_found v_reached v_stepIn v_laid v_firstRow v_text v_textLong v_spot v_taken v_counted) H → va_D A (wdM cI cZ h v_all v_past v_states v_refused v_far v_row v_stepAt v_depth v_tries v_values v_wrong v_isEnd v_found v_reached v_stepIn v_laid v_firstRow v_text v_textLong v_spot v_taken v_counted) → va_S A s.heap H locs → lv_has ls 5 [(0, .ref (h 0)), (1, .int x1), (2, .int x2), (4, .int x4)] → W p l e rm9_laysFirst s m args below meth c H locs 0 0 Q (F0 m 124 ls [.int s0]) := by
            intro v_far v_depth v_tries v_stepIn v_laid v_firstRow x1 x2 x4 s0 H locs ls hf hP hD hS hl
            rw [f9_laysFirst_b124] at hf
            refine lv_istore_n (lv' := [(3, .int s0), (0, .ref (h 0)), (1, .int x1), (2, .int x2), (4, .int x4)]) hx hb dX9_laysFirst_124 rfl hl (by decide) rfl (fun ls hl => ?_)
            refine lv_iinc (v := (x4 + 1)) (lv' := [(4, .int (x4 + 1)), (3, .int s0), (0, .ref (h 0)), (1, .int x1), (2, .int x2)]) hx hb dX9_laysFirst_125 hl (k := 4) rfl rfl (by decide) rfl (fun ls hl => ?_)
            refine lv_goto (tgt := 76) hx hb dX9_laysFirst_128 (by decide) ?_
            exact ih v_far v_depth v_tries v_stepIn v_laid v_firstRow x1 x2 s0 (x4 + 1) _ _ _ hf hP hD hS (lv_sub hl [2, 3, 4, 1, 0] rfl)
          have J118 : ∀ (v_far : Nat → Int32) (v_depth : Int32) (v_tries : Nat → Int32) (v_stepIn : Nat → Int32) (v_laid : Nat → Int32) (v_firstRow : Nat → Int32) (x1 : Int32) (x2 : Int32) (x4 : Int32) (H : Heap) (locs : List Loc) (ls : Array Slot), f9_laysFirst_b118 (f9_laysFirst_l66 n) (f9_laysFirst_l76 (f9_laysFirst_l66 n) n76) v_all v_far v_depth v_tries v_stepIn v_laid v_firstRow x1 x2 x4 = some (v_far', v_depth', v_tries', v_stepIn', v_laid', v_firstRow') → va_P D vwCl (wdM cI cZ h v_all v_past v_states v_refused v_far v_row v_stepAt v_depth v_tries v_values v_wrong v_isEnd v_found v_reached v_stepIn v_laid v_firstRow v_text v_textLong v_spot v_taken v_counted) H → va_D A (wdM cI cZ h v_all v_past v_states v_refused v_far v_row v_stepAt v_depth v_tries v_values v_wrong v_isEnd v_found v_reached v_stepIn v_laid v_firstRow v_text v_textLong v_spot v_taken v_counted) → va_S A s.heap H locs → lv_has ls 5 [(0, .ref (h 0)), (1, .int x1), (2, .int x2), (4, .int x4)] → W p l e rm9_laysFirst s m args below meth c H locs 0 0 Q (F0 m 118 ls []) := by
            intro v_far v_depth v_tries v_stepIn v_laid v_firstRow x1 x2 x4 H locs ls hf hP hD hS hl
            rw [f9_laysFirst_b118] at hf
            refine lv_iload hx hb dX9_laysFirst_118 (lv_at hl 3 rfl) ?_
            refine lv_goto (tgt := 124) hx hb dX9_laysFirst_120 (by decide) ?_
            exact J124 v_far v_depth v_tries v_stepIn v_laid v_firstRow x1 x2 x4 x4 _ _ _ hf hP hD hS (lv_sub hl [0, 1, 2, 3] rfl)
          have J123 : ∀ (v_far : Nat → Int32) (v_depth : Int32) (v_tries : Nat → Int32) (v_stepIn : Nat → Int32) (v_laid : Nat → Int32) (v_firstRow : Nat → Int32) (x1 : Int32) (x2 : Int32) (x3 : Int32) (x4 : Int32) (H : Heap) (locs : List Loc) (ls : Array Slot), f9_laysFirst_b123 (f9_laysFirst_l66 n) (f9_laysFirst_l76 (f9_laysFirst_l66 n) n76) v_all v_far v_depth v_tries v_stepIn v_laid v_firstRow x1 x2 x3 x4 = some (v_far', v_depth', v_tries', v_stepIn', v_laid', v_firstRow') → va_P D vwCl (wdM cI cZ h v_all v_past v_states v_refused v_far v_row v_stepAt v_depth v_tries v_values v_wrong v_isEnd v_found v_reached v_stepIn v_laid v_firstRow v_text v_textLong v_spot v_taken v_counted) H → va_D A (wdM cI cZ h v_all v_past v_states v_refused v_far v_row v_stepAt v_depth v_tries v_values v_wrong v_isEnd v_found v_reached v_stepIn v_laid v_firstRow v_text v_textLong v_spot v_taken v_counted) → va_S A s.heap H locs → lv_has ls 5 [(0, .ref (h 0)), (1, .int x1), (2, .int x2), (3, .int x3), (4, .int x4)] → W p l e rm9_laysFirst s m args below meth c H locs 0 0 Q (F0 m 123 ls []) := by
            intro v_far v_depth v_tries v_stepIn v_laid v_firstRow x1 x2 x3 x4 H locs ls hf hP hD hS hl
            rw [f9_laysFirst_b123] at hf
            refine lv_iload_n hx hb dX9_laysFirst_123 rfl (lv_at hl 3 rfl) ?_
            exact J124 v_far v_depth v_tries v_stepIn v_laid v_firstRow x1 x2 x4 x3 _ _ _ hf hP hD hS (lv_sub hl [0, 1, 2, 4] rfl)
          intro v_far v_depth v_tries v_stepIn v_laid v_firstRow x1 x2 x3 x4 H locs ls hf hP hD hS hl
          rw [f9_laysFirst_l76_s] at hf
          refine lv_iload hx hb dX9_laysFirst_76 (lv_at hl 4 rfl) ?_
          refine lv_iload_n hx hb dX9_laysFirst_78 rfl (lv_at hl 1 rfl) ?_
          refine lv_icmp_ge (tgt := 131) hx hb dX9_laysFirst_79 (by decide) (fun c16 => ?_) (fun c16 => ?_)
          · rw [if_pos c16] at hf
            exact J131 v_far v_depth v_tries v_stepIn v_laid v_firstRow x1 x2 x3 _ _ _ hf hP hD hS (lv_sub hl [0, 1, 2, 3] rfl)
          · rw [if_neg c16] at hf
            refine lv_aload_n hx hb dX9_laysFirst_82 rfl (lv_at hl 0 rfl) ?_
            refine lv_iload hx hb dX9_laysFirst_83 (lv_at hl 4 rfl) ?_
            refine kb_bind hf (fun q17 hq17 hf => ?_)
            have hPc : va_P D vwCl (wdM cI cZ h v_all v_past v_states v_refused v_far v_row v_stepAt v_depth v_tries v_values v_wrong v_isEnd v_found v_reached v_stepIn v_laid v_firstRow v_text v_textLong v_spot v_taken v_counted) H := hP.sub [0, 1, 2, 3, 4, 5, 6, 7, 8, 9, 10, 11, 12, 13, 14, 15, 16] rfl
            have hDc : va_D A (wdM cI cZ h v_all v_past v_states v_refused v_far v_row v_stepAt v_depth v_tries v_values v_wrong v_isEnd v_found v_reached v_stepIn v_laid v_firstRow v_text v_textLong v_spot v_taken v_counted) := hD.sub [0, 1, 2, 3, 4, 5, 6, 7, 8, 9, 10, 11, 12, 13, 14, 15, 16] (by decide) rfl
            refine kd_iR (va_runV (As := [.int x4]) (rest := []) ⟨hx, hb, hml, hown, hts⟩ (c9_isNext l D cB cI cZ cO h H.size x4 v_all v_past v_states v_refused v_far v_row v_stepAt v_depth v_tries v_values v_wrong v_isEnd v_found v_reached v_stepIn v_laid v_firstRow v_text v_textLong v_spot v_taken v_counted q17 hq17) (cwV 1 hts gX9_laysFirst_X9_isNext rfl rfl rfl (by decide +kernel) ⟨Nat.le_of_ble_eq_true rfl, Nat.le_of_ble_eq_true rfl⟩) ⟨kb_blind, va_recv hK hPc (ci := 6) (q0 := 0) rfl rfl, kb_pre hPc hDc hK hN⟩ rfl rfl hl.1 rfl (lv_room (Nat.le_of_ble_eq_true rfl)) dX9_laysFirst_85 ⟨Nat.le_refl _, Nat.le_refl _⟩) hP hD hS hA [0, 1, 2, 3, 4, 5, 6, 7, 8, 9, 10, 11, 12, 13, 14, 15, 16] rfl (fun H locs hn18 hP hS => ?_)
            refine lv_if_eq (tgt := 123) hx hb dX9_laysFirst_88 (by decide) (fun c19 => ?_) (fun c19 => ?_)
            · rw [if_pos c19] at hf
              exact J123 v_far v_depth v_tries v_stepIn v_laid v_firstRow x1 x2 x3 x4 _ _ _ hf hP hD hS (lv_sub hl [0, 1, 2, 3, 4] rfl)
            · rw [if_neg c19] at hf
              refine lv_iload_n hx hb dX9_laysFirst_91 rfl (lv_at hl 3 rfl) ?_
              refine lv_iconst (v := (-1)) hx hb dX9_laysFirst_92 (by decide) ?_
              refine lv_icmp_eq (tgt := 118) hx hb dX9_laysFirst_93 (by decide) (fun c20 => ?_) (fun c20 => ?_)
              · rw [if_pos c20] at hf
                exact J118 v_far v_depth v_tries v_stepIn v_laid v_firstRow x1 x2 x4 _ _ _ hf hP hD hS (lv_sub hl [0, 1, 2, 4] rfl)
              · rw [if_neg c20] at hf
                refine lv_aload_n hx hb dX9_laysFirst_96 rfl (lv_at hl 0 rfl) ?_
                refine va_get (D := D) (cl := vwCl) (ci := 6) (v := .ref (h 1)) (C := RX9) (T := TX9) (N := 22) hx hb hts hin9 hown hK hP 0 rfl rfl 0 (by decide) (hts (.fieldLink RX9 7 "StepOrdersModel" "all" "[I") (by decide +kernel)) (fun _ h9 => h9) rfl dX9_laysFirst_97 ?_
                refine lv_bipush (v := 44) hx hb dX9_laysFirst_100 (by decide) ?_
                refine lv_iload hx hb dX9_laysFirst_102 (lv_at hl 4 rfl) ?_
                refine lv_iadd hx hb dX9_laysFirst_104 ?_
                refine kb_bind hf (fun v21 hv21 hf => ?_)
                refine ka_iald (D := D) (cl := vwCl) hx hb hK hP 1 1 (f := v_all) rfl rfl (ard_in hv21) (ard_v hv21) dX9_laysFirst_105 ?_
                refine lv_aload_n hx hb dX9_laysFirst_106 rfl (lv_at hl 0 rfl) ?_
                refine va_get (D := D) (cl := vwCl) (ci := 6) (v := .ref (h 1)) (C := RX9) (T := TX9) (N := 22) hx hb hts hin9 hown hK hP 0 rfl rfl 0 (by decide) (hts (.fieldLink RX9 7 "StepOrdersModel" "all" "[I") (by decide +kernel)) (fun _ h9 => h9) rfl dX9_laysFirst_107 ?_
                refine lv_bipush (v := 44) hx hb dX9_laysFirst_110 (by decide) ?_
                refine lv_iload_n hx hb dX9_laysFirst_112 rfl (lv_at hl 3 rfl) ?_
                refine lv_iadd hx hb dX9_laysFirst_113 ?_
                refine kb_bind hf (fun v22 hv22 hf => ?_)
                refine ka_iald (D := D) (cl := vwCl) hx hb hK hP 1 1 (f := v_all) rfl rfl (ard_in hv22) (ard_v hv22) dX9_laysFirst_114 ?_
                refine lv_icmp_ge (tgt := 123) hx hb dX9_laysFirst_115 (by decide) (fun c23 => ?_) (fun c23 => ?_)
                · rw [if_pos c23] at hf
                  exact J123 v_far v_depth v_tries v_stepIn v_laid v_firstRow x1 x2 x3 x4 _ _ _ hf hP hD hS (lv_sub hl [0, 1, 2, 3, 4] rfl)
                · rw [if_neg c23] at hf
                  exact J118 v_far v_depth v_tries v_stepIn v_laid v_firstRow x1 x2 x4 _ _ _ hf hP hD hS (lv_sub hl [0, 1, 2, 4] rfl)
      intro v_far v_depth v_tries v_stepIn v_laid v_firstRow x1 x2 H locs ls hf hP hD hS hl
      rw [f9_laysFirst_l66_s] at hf
      refine lv_iload_n hx hb dX9_laysFirst_66 rfl (lv_at hl 2 rfl) ?_
      refine lv_iload_n hx hb dX9_laysFirst_67 rfl (lv_at hl 1 rfl) ?_
      refine lv_icmp_ge (tgt := 159) hx hb dX9_laysFirst_68 (by decide) (fun c24 => ?_) (fun c24 => ?_)
      · rw [if_pos c24] at hf
        cases hf
        exact hend _ _ _ _ hP hS dX9_laysFirst_159
      · rw [if_neg c24] at hf
        refine lv_iconst (v := (-1)) hx hb dX9_laysFirst_71 (by decide) ?_
        refine lv_istore_n (lv' := [(3, .int (-1 : Int32)), (0, .ref (h 0)), (1, .int x1), (2, .int x2)]) hx hb dX9_laysFirst_72 rfl hl (by decide) rfl (fun ls hl => ?_)
        refine lv_iconst (v := 0) hx hb dX9_laysFirst_73 (by decide) ?_
        refine lv_istore (lv' := [(4, .int (0 : Int32)), (3, .int (-1 : Int32)), (0, .ref (h 0)), (1, .int x1), (2, .int x2)]) hx hb dX9_laysFirst_74 hl (by decide) rfl (fun ls hl => ?_)
        exact J76 kFUEL v_far v_depth v_tries v_stepIn v_laid v_firstRow x1 x2 (-1 : Int32) (0 : Int32) _ _ _ hf hP hD hS (lv_sub hl [2, 3, 4, 1, 0] rfl)
  have J64 : ∀ (v_far : Nat → Int32) (v_depth : Int32) (v_tries : Nat → Int32) (v_stepIn : Nat → Int32) (v_laid : Nat → Int32) (v_firstRow : Nat → Int32) (x1 : Int32) (H : Heap) (locs : List Loc) (ls : Array Slot), f9_laysFirst_b64 v_all v_far v_depth v_tries v_stepIn v_laid v_firstRow x1 = some (v_far', v_depth', v_tries', v_stepIn', v_laid', v_firstRow') → va_P D vwCl (wdM cI cZ h v_all v_past v_states v_refused v_far v_row v_stepAt v_depth v_tries v_values v_wrong v_isEnd v_found v_reached v_stepIn v_laid v_firstRow v_text v_textLong v_spot v_taken v_counted) H → va_D A (wdM cI cZ h v_all v_past v_states v_refused v_far v_row v_stepAt v_depth v_tries v_values v_wrong v_isEnd v_found v_reached v_stepIn v_laid v_firstRow v_text v_textLong v_spot v_taken v_counted) → va_S A s.heap H locs → lv_has ls 5 [(0, .ref (h 0)), (1, .int x1)] → W p l e rm9_laysFirst s m args below meth c H locs 0 0 Q (F0 m 64 ls []) := by
    intro v_far v_depth v_tries v_stepIn v_laid v_firstRow x1 H locs ls hf hP hD hS hl
    rw [f9_laysFirst_b64] at hf
    refine lv_iconst (v := 0) hx hb dX9_laysFirst_64 (by decide) ?_
    refine lv_istore_n (lv' := [(2, .int (0 : Int32)), (0, .ref (h 0)), (1, .int x1)]) hx hb dX9_laysFirst_65 rfl hl (by decide) rfl (fun ls hl => ?_)
    exact J66 kFUEL v_far v_depth v_tries v_stepIn v_laid v_firstRow x1 (0 : Int32) _ _ _ hf hP hD hS (lv_sub hl [1, 2, 0] rfl)
  have J14 : ∀ (n : Nat) (v_far : Nat → Int32) (v_depth : Int32) (v_tries : Nat → Int32) (v_stepIn : Nat → Int32) (v_laid : Nat → Int32) (v_firstRow : Nat → Int32) (x1 : Int32) (x2 : Int32) (H : Heap) (locs : List Loc) (ls : Array Slot), f9_laysFirst_l14 n v_all v_far v_depth v_tries v_stepIn v_laid v_firstRow x1 x2 = some (v_far', v_depth', v_tries', v_stepIn', v_laid', v_firstRow') → va_P D vwCl (wdM cI cZ h v_all v_past v_states v_refused v_far v_row v_stepAt v_depth v_tries v_values v_wrong v_isEnd v_found v_reached v_stepIn v_laid v_firstRow v_text v_textLong v_spot v_taken v_counted) H → va_D A (wdM cI cZ h v_all v_past v_states v_refused v_far v_row v_stepAt v_depth v_tries v_values v_wrong v_isEnd v_found v_reached v_stepIn v_laid v_firstRow v_text v_textLong v_spot v_taken v_counted) → va_S A s.heap H locs → lv_has ls 5 [(0, .ref (h 0)), (1, .int x1), (2, .int x2)] → W p l e rm9_laysFirst s m args below meth c H locs 0 0 Q (F0 m 14 ls []) := by
    intro n
    induction n with
    | zero =>
      intro v_far v_depth v_tries v_stepIn v_laid v_firstRow x1 x2 H locs ls hf
      cases (show (none : Option ((Nat → Int32) × Int32 × (Nat → Int32) × (Nat → Int32) × (Nat → Int32) × (Nat → Int32))) = some (v_far', v_depth', v_tries', v_stepIn', v_laid', v_firstRow') from hf)
    | succ n ih =>
      intro v_far v_depth v_tries v_stepIn v_laid v_firstRow x1 x2 H locs ls hf hP hD hS hl
      rw [f9_laysFirst_l14_s] at hf
      refine lv_iload_n hx hb dX9_laysFirst_14 rfl (lv_at hl 2 rfl) ?_
      refine lv_iload_n hx hb dX9_laysFirst_15 rfl (lv_at hl 1 rfl) ?_
      refine lv_icmp_ge (tgt := 64) hx hb dX9_laysFirst_16 (by decide) (fun c32 => ?_) (fun c32 => ?_)
      · rw [if_pos c32] at hf
        exact J64 v_far v_depth v_tries v_stepIn v_laid v_firstRow x1 _ _ _ hf hP hD hS (lv_sub hl [0, 1] rfl)
      · rw [if_neg c32] at hf
        refine lv_aload_n hx hb dX9_laysFirst_19 rfl (lv_at hl 0 rfl) ?_
        refine va_get (D := D) (cl := vwCl) (ci := 6) (v := .ref (h 1)) (C := RX9) (T := TX9) (N := 22) hx hb hts hin9 hown hK hP 0 rfl rfl 0 (by decide) (hts (.fieldLink RX9 7 "StepOrdersModel" "all" "[I") (by decide +kernel)) (fun _ h9 => h9) rfl dX9_laysFirst_20 ?_
        refine lv_bipush (v := 44) hx hb dX9_laysFirst_23 (by decide) ?_
        refine lv_iload_n hx hb dX9_laysFirst_25 rfl (lv_at hl 2 rfl) ?_
        refine lv_iadd hx hb dX9_laysFirst_26 ?_
        refine kb_bind hf (fun v33 hv33 hf => ?_)
        refine ka_iald (D := D) (cl := vwCl) hx hb hK hP 1 1 (f := v_all) rfl rfl (ard_in hv33) (ard_v hv33) dX9_laysFirst_27 ?_
        refine lv_istore_n (lv' := [(3, .int v33), (0, .ref (h 0)), (1, .int x1), (2, .int x2)]) hx hb dX9_laysFirst_28 rfl hl (by decide) rfl (fun ls hl => ?_)
        refine lv_aload_n hx hb dX9_laysFirst_29 rfl (lv_at hl 1 rfl) ?_
        refine va_get (D := D) (cl := vwCl) (ci := 6) (v := .ref (h 12)) (C := RX9) (T := TX9) (N := 22) hx hb hts hin9 hown hK hP 0 rfl rfl 14 (by decide) (hts (.fieldLink RX9 44 "StepOrdersModel" "stepIn" "[I") (by decide +kernel)) (fun _ h9 => h9) rfl dX9_laysFirst_30 ?_
        refine lv_iload_n hx hb dX9_laysFirst_33 rfl (lv_at hl 3 rfl) ?_
        refine lv_aload_n hx hb dX9_laysFirst_34 rfl (lv_at hl 1 rfl) ?_
        refine va_get (D := D) (cl := vwCl) (ci := 6) (v := .ref (h 4)) (C := RX9) (T := TX9) (N := 22) hx hb hts hin9 hown hK hP 0 rfl rfl 4 (by decide) (hts (.fieldLink RX9 19 "StepOrdersModel" "far" "[I") (by decide +kernel)) (fun _ h9 => h9) rfl dX9_laysFirst_35 ?_
        refine lv_iload_n hx hb dX9_laysFirst_38 rfl (lv_at hl 0 rfl) ?_
        refine kb_bind hf (fun v34 hv34 hf => ?_)
        refine ka_iald (D := D) (cl := vwCl) hx hb hK hP 4 1 (f := v_far) rfl rfl (ard_in hv34) (ard_v hv34) dX9_laysFirst_39 ?_
        refine kb_bind hf (fun v35 hv35 hf => ?_)
        refine ka_iast (D := D) (cl := vwCl) hx hb hK hP hD hS 12 1 (f := v_stepIn) (g := v35) rfl rfl (awr_in hv35) (awr_v hv35) dX9_laysFirst_40 (fun H locs hP hD hS => ?_)
        have hP : va_P D vwCl (wdM cI cZ h v_all v_past v_states v_refused v_far v_row v_stepAt v_depth v_tries v_values v_wrong v_isEnd v_found v_reached v35 v_laid v_firstRow v_text v_textLong v_spot v_taken v_counted) H := hP
        have hD : va_D A (wdM cI cZ h v_all v_past v_states v_refused v_far v_row v_stepAt v_depth v_tries v_values v_wrong v_isEnd v_found v_reached v35 v_laid v_firstRow v_text v_textLong v_spot v_taken v_counted) := hD
        refine lv_aload_n hx hb dX9_laysFirst_41 rfl (lv_at hl 1 rfl) ?_
        refine va_get (D := D) (cl := vwCl) (ci := 6) (v := .ref (h 4)) (C := RX9) (T := TX9) (N := 22) hx hb hts hin9 hown hK hP 0 rfl rfl 4 (by decide) (hts (.fieldLink RX9 19 "StepOrdersModel" "far" "[I") (by decide +kernel)) (fun _ h9 => h9) rfl dX9_laysFirst_42 ?_
        refine lv_iload_n hx hb dX9_laysFirst_45 rfl (lv_at hl 0 rfl) ?_
        refine lv_dup2_11 hx hb dX9_laysFirst_46 rfl rfl ?_
        refine kb_bind hf (fun v36 hv36 hf => ?_)
        refine ka_iald (D := D) (cl := vwCl) hx hb hK hP 4 1 (f := v_far) rfl rfl (ard_in hv36) (ard_v hv36) dX9_laysFirst_47 ?_
        refine lv_iconst (v := 1) hx hb dX9_laysFirst_48 (by decide) ?_
        refine lv_iadd hx hb dX9_laysFirst_49 ?_
        refine kb_bind hf (fun v37 hv37 hf => ?_)
        refine ka_iast (D := D) (cl := vwCl) hx hb hK hP hD hS 4 1 (f := v_far) (g := v37) rfl rfl (awr_in hv37) (awr_v hv37) dX9_laysFirst_50 (fun H locs hP hD hS => ?_)
        have hP : va_P D vwCl (wdM cI cZ h v_all v_past v_states v_refused v37 v_row v_stepAt v_depth v_tries v_values v_wrong v_isEnd v_found v_reached v35 v_laid v_firstRow v_text v_textLong v_spot v_taken v_counted) H := hP
        have hD : va_D A (wdM cI cZ h v_all v_past v_states v_refused v37 v_row v_stepAt v_depth v_tries v_values v_wrong v_isEnd v_found v_reached v35 v_laid v_firstRow v_text v_textLong v_spot v_taken v_counted) := hD
        refine lv_aload_n hx hb dX9_laysFirst_51 rfl (lv_at hl 1 rfl) ?_
        refine va_get (D := D) (cl := vwCl) (ci := 6) (v := .ref (h 13)) (C := RX9) (T := TX9) (N := 22) hx hb hts hin9 hown hK hP 0 rfl rfl 15 (by decide) (hts (.fieldLink RX9 47 "StepOrdersModel" "laid" "[Z") (by decide +kernel)) (fun _ h9 => h9) rfl dX9_laysFirst_52 ?_
        refine lv_iload_n hx hb dX9_laysFirst_55 rfl (lv_at hl 3 rfl) ?_
        refine lv_iconst (v := 0) hx hb dX9_laysFirst_56 (by decide) ?_
        refine kb_bind hf (fun v38 hv38 hf => ?_)
        refine ka_zast (D := D) (cl := vwCl) hx hb hK hP hD hS 13 2 (f := v_laid) (g := v38) rfl rfl (awr_in hv38) (awr_v hv38) dX9_laysFirst_57 (fun H locs hP hD hS => ?_)
        have hP : va_P D vwCl (wdM cI cZ h v_all v_past v_states v_refused v37 v_row v_stepAt v_depth v_tries v_values v_wrong v_isEnd v_found v_reached v35 v38 v_firstRow v_text v_textLong v_spot v_taken v_counted) H := hP
        have hD : va_D A (wdM cI cZ h v_all v_past v_states v_refused v37 v_row v_stepAt v_depth v_tries v_values v_wrong v_isEnd v_found v_reached v35 v38 v_firstRow v_text v_textLong v_spot v_taken v_counted) := hD
        refine lv_iinc (v := (x2 + 1)) (lv' := [(2, .int (x2 + 1)), (3, .int v33), (0, .ref (h 0)), (1, .int x1)]) hx hb dX9_laysFirst_58 hl (k := 3) rfl rfl (by decide) rfl (fun ls hl => ?_)
        refine lv_goto (tgt := 14) hx hb dX9_laysFirst_61 (by decide) ?_
        exact ih v37 v_depth v_tries v35 v38 v_firstRow x1 (x2 + 1) _ _ _ hf hP hD hS (lv_sub hl [2, 3, 0] rfl)
  rw [f9_laysFirst] at hf
  refine lv_aload_n hx hb dX9_laysFirst_0 rfl (lv_at hl 0 rfl) ?_
  refine kb_bind hf (fun q39 hq39 hf => ?_)
  have hPc : va_P D vwCl (wdM cI cZ h v_all v_past v_states v_refused v_far v_row v_stepAt v_depth v_tries v_values v_wrong v_isEnd v_found v_reached v_stepIn v_laid v_firstRow v_text v_textLong v_spot v_taken v_counted) H := hP.sub [0, 1, 2, 3, 4, 5, 6, 7, 8, 9, 10, 11, 12, 13, 14, 15, 16] rfl
  have hDc : va_D A (wdM cI cZ h v_all v_past v_states v_refused v_far v_row v_stepAt v_depth v_tries v_values v_wrong v_isEnd v_found v_reached v_stepIn v_laid v_firstRow v_text v_textLong v_spot v_taken v_counted) := hD.sub [0, 1, 2, 3, 4, 5, 6, 7, 8, 9, 10, 11, 12, 13, 14, 15, 16] (by decide) rfl
  refine kd_vW (ws' := wdM cI cZ h v_all v_past v_states v_refused q39.1 v_row v_stepAt q39.2.1 q39.2.2 v_values v_wrong v_isEnd v_found v_reached v_stepIn v_laid v_firstRow v_text v_textLong v_spot v_taken v_counted) (va_runV (As := []) (rest := []) ⟨hx, hb, hml, hown, hts⟩ (c9_starts l D cB cI cZ cO h H.size v_all v_past v_states v_refused v_far v_row v_stepAt v_depth v_tries v_values v_wrong v_isEnd v_found v_reached v_stepIn v_laid v_firstRow v_text v_textLong v_spot v_taken v_counted q39.1 q39.2.1 q39.2.2 hq39) (cwV 0 hts gX9_laysFirst_X9_starts rfl rfl rfl (by decide +kernel) ⟨Nat.le_of_ble_eq_true rfl, Nat.le_of_ble_eq_true rfl⟩) ⟨kb_blind, va_recv hK hPc (ci := 6) (q0 := 0) rfl rfl, kb_pre hPc hDc hK hN⟩ rfl rfl hl.1 rfl (lv_room (Nat.le_of_ble_eq_true rfl)) dX9_laysFirst_1 ⟨Nat.le_refl _, Nat.le_refl _⟩) hP hD hS hA [0, 1, 2, 3, 4, 5, 6, 7, 8, 9, 10, 11, 12, 13, 14, 15, 16] [] rfl rfl rfl rfl rfl (fun H locs hP hD hS => ?_)
  refine lv_aload_n hx hb dX9_laysFirst_4 rfl (lv_at hl 0 rfl) ?_
  refine va_get (D := D) (cl := vwCl) (ci := 6) (v := .ref (h 1)) (C := RX9) (T := TX9) (N := 22) hx hb hts hin9 hown hK hP 0 rfl rfl 0 (by decide) (hts (.fieldLink RX9 7 "StepOrdersModel" "all" "[I") (by decide +kernel)) (fun _ h9 => h9) rfl dX9_laysFirst_5 ?_
  refine lv_bipush (v := 43) hx hb dX9_laysFirst_8 (by decide) ?_
  refine ka_iald (D := D) (cl := vwCl) hx hb hK hP 1 1 (f := v_all) rfl rfl (v := (v_all 43)) (show ¬ (_ ∨ _) from by decide) rfl dX9_laysFirst_10 ?_
  refine lv_istore_n (lv' := [(1, .int (v_all 43)), (0, .ref (h 0))]) hx hb dX9_laysFirst_11 rfl hl (by decide) rfl (fun ls hl => ?_)
  refine lv_iconst (v := 0) hx hb dX9_laysFirst_12 (by decide) ?_
  refine lv_istore_n (lv' := [(2, .int (0 : Int32)), (1, .int (v_all 43)), (0, .ref (h 0))]) hx hb dX9_laysFirst_13 rfl hl (by decide) rfl (fun ls hl => ?_)
  exact J14 kFUEL q39.1 q39.2.1 q39.2.2 v_stepIn v_laid v_firstRow (v_all 43) (0 : Int32) _ _ _ hf hP hD hS (lv_sub hl [2, 1, 0] rfl)

set_option maxHeartbeats 4000000 in
set_option maxRecDepth 100000 in
theorem c9_which (l : Launch) (D : va_G) (cB cI cZ cO : ClassId) (h : Nat → Nat) (sz : Nat) (v_all : Nat → Int32) (v_past : Nat → Int32) (v_states : Int32) (v_refused : Nat → Int32) (v_far : Nat → Int32) (v_row : Nat → Int32) (v_stepAt : Nat → Int32) (v_depth : Int32) (v_tries : Nat → Int32) (v_values : Nat → Int32) (v_wrong : Int32) (v_isEnd : Nat → Int32) (v_found : Nat → Int32) (v_reached : Nat → Int32) (v_stepIn : Nat → Int32) (v_laid : Nat → Int32) (v_firstRow : Nat → Int32) (v_text : Nat → Int32) (v_textLong : Int32) (v_spot : Int32) (v_taken : Int32) (v_counted : Nat → Int32) (r0 : Int32) (v_far' : Nat → Int32) (v_row' : Nat → Int32) (v_stepAt' : Nat → Int32) (v_depth' : Int32) (v_tries' : Nat → Int32) (v_values' : Nat → Int32) (v_wrong' : Int32) (v_stepIn' : Nat → Int32) (v_laid' : Nat → Int32) (v_firstRow' : Nat → Int32) (hf : f9_which v_all v_far v_row v_stepAt v_depth v_tries v_values v_wrong v_stepIn v_laid v_firstRow = some (r0, v_far', v_row', v_stepAt', v_depth', v_tries', v_values', v_wrong', v_stepIn', v_laid', v_firstRow')) : Met l yX9_which wsX9_which rm9_which (va_Pc [.ref (h 0)] (kb_B D (ka_tys cB cI cZ cO) sz (wdM cI cZ h v_all v_past v_states v_refused v_far v_row v_stepAt v_depth v_tries v_values v_wrong v_isEnd v_found v_reached v_stepIn v_laid v_firstRow v_text v_textLong v_spot v_taken v_counted))) (va_Qi (kb_post .int r0) (fun _ t => va_P D vwCl (wdM cI cZ h v_all v_past v_states v_refused (v_far') (v_row') (v_stepAt') (v_depth') (v_tries') (v_values') (v_wrong') v_isEnd v_found v_reached (v_stepIn') (v_laid') (v_firstRow') v_text v_textLong v_spot v_taken v_counted) t.heap) (va_A (wdM cI cZ h v_all v_past v_states v_refused v_far v_row v_stepAt v_depth v_tries v_values v_wrong v_isEnd v_found v_reached v_stepIn v_laid v_firstRow v_text v_textLong v_spot v_taken v_counted) sz)) 0 0 (va_A (wdM cI cZ h v_all v_past v_states v_refused v_far v_row v_stepAt v_depth v_tries v_values v_wrong v_isEnd v_found v_reached v_stepIn v_laid v_firstRow v_text v_textLong v_spot v_taken v_counted) sz) := by
  refine kb_metZ (cc := cX9_which) (maxL := 4) (ty := .int) (by decide) rfl (Nat.le_of_ble_eq_true rfl) ?_
  intro p e s m args below meth c Q A ls H hx hb hml hown hts hK hN hP hD hS hA hl hend
  have hown : s.vm.findClass RX9 = some m.cls := hown
  have hl : lv_has ls 4 [(0, .ref (h 0))] := hl
  have hin9 : ∀ w ∈ u_ws RX9 TX9 22, w ∈ wsX9_which := by decide +kernel
  have J95 : ∀ (v_far : Nat → Int32) (v_row : Nat → Int32) (v_stepAt : Nat → Int32) (v_depth : Int32) (v_tries : Nat → Int32) (v_values : Nat → Int32) (v_wrong : Int32) (v_stepIn : Nat → Int32) (v_laid : Nat → Int32) (v_firstRow : Nat → Int32) (x1 : Int32) (H : Heap) (locs : List Loc) (ls : Array Slot), f9_which_b95 v_all v_far v_row v_stepAt v_depth v_tries v_values v_wrong v_stepIn v_laid v_firstRow x1 = some (r0, v_far', v_row', v_stepAt', v_depth', v_tries', v_values', v_wrong', v_stepIn', v_laid', v_firstRow') → va_P D vwCl (wdM cI cZ h v_all v_past v_states v_refused v_far v_row v_stepAt v_depth v_tries v_values v_wrong v_isEnd v_found v_reached v_stepIn v_laid v_firstRow v_text v_textLong v_spot v_taken v_counted) H → va_D A (wdM cI cZ h v_all v_past v_states v_refused v_far v_row v_stepAt v_depth v_tries v_values v_wrong v_isEnd v_found v_reached v_stepIn v_laid v_firstRow v_text v_textLong v_spot v_taken v_counted) → va_S A s.heap H locs → lv_has ls 4 [(1, .int x1)] → W p l e rm9_which s m args below meth c H locs 0 0 Q (F0 m 95 ls []) := by
    intro v_far v_row v_stepAt v_depth v_tries v_values v_wrong v_stepIn v_laid v_firstRow x1 H locs ls hf hP hD hS hl
    rw [f9_which_b95] at hf
    refine lv_iload_n hx hb dX9_which_95 rfl (lv_at hl 0 rfl) ?_
    cases hf
    exact hend _ _ _ _ rfl hP hS dX9_which_96
  have J23 : ∀ (n : Nat) (v_far : Nat → Int32) (v_row : Nat → Int32) (v_stepAt : Nat → Int32) (v_depth : Int32) (v_tries : Nat → Int32) (v_values : Nat → Int32) (v_wrong : Int32) (v_stepIn : Nat → Int32) (v_laid : Nat → Int32) (v_firstRow : Nat → Int32) (x1 : Int32) (H : Heap) (locs : List Loc) (ls : Array Slot), f9_which_l23 n v_all v_far v_row v_stepAt v_depth v_tries v_values v_wrong v_stepIn v_laid v_firstRow x1 = some (r0, v_far', v_row', v_stepAt', v_depth', v_tries', v_values', v_wrong', v_stepIn', v_laid', v_firstRow') → va_P D vwCl (wdM cI cZ h v_all v_past v_states v_refused v_far v_row v_stepAt v_depth v_tries v_values v_wrong v_isEnd v_found v_reached v_stepIn v_laid v_firstRow v_text v_textLong v_spot v_taken v_counted) H → va_D A (wdM cI cZ h v_all v_past v_states v_refused v_far v_row v_stepAt v_depth v_tries v_values v_wrong v_isEnd v_found v_reached v_stepIn v_laid v_firstRow v_text v_textLong v_spot v_taken v_counted) → va_S A s.heap H locs → lv_has ls 4 [(0, .ref (h 0)), (1, .int x1)] → W p l e rm9_which s m args below meth c H locs 0 0 Q (F0 m 23 ls []) := by
    intro n
    induction n with
    | zero =>
      intro v_far v_row v_stepAt v_depth v_tries v_values v_wrong v_stepIn v_laid v_firstRow x1 H locs ls hf
      cases (show (none : Option (Int32 × (Nat → Int32) × (Nat → Int32) × (Nat → Int32) × Int32 × (Nat → Int32) × (Nat → Int32) × Int32 × (Nat → Int32) × (Nat → Int32) × (Nat → Int32))) = some (r0, v_far', v_row', v_stepAt', v_depth', v_tries', v_values', v_wrong', v_stepIn', v_laid', v_firstRow') from hf)
    | succ n ih =>
      have J91 : ∀ (v_far : Nat → Int32) (v_row : Nat → Int32) (v_stepAt : Nat → Int32) (v_depth : Int32) (v_tries : Nat → Int32) (v_values : Nat → Int32) (v_wrong : Int32) (v_stepIn : Nat → Int32) (v_laid : Nat → Int32) (v_firstRow : Nat → Int32) (x1 : Int32) (x2 : Int32) (H : Heap) (locs : List Loc) (ls : Array Slot), f9_which_b91 (f9_which_l23 n) v_all v_far v_row v_stepAt v_depth v_tries v_values v_wrong v_stepIn v_laid v_firstRow x1 x2 = some (r0, v_far', v_row', v_stepAt', v_depth', v_tries', v_values', v_wrong', v_stepIn', v_laid', v_firstRow') → va_P D vwCl (wdM cI cZ h v_all v_past v_states v_refused v_far v_row v_stepAt v_depth v_tries v_values v_wrong v_isEnd v_found v_reached v_stepIn v_laid v_firstRow v_text v_textLong v_spot v_taken v_counted) H → va_D A (wdM cI cZ h v_all v_past v_states v_refused v_far v_row v_stepAt v_depth v_tries v_values v_wrong v_isEnd v_found v_reached v_stepIn v_laid v_firstRow v_text v_textLong v_spot v_taken v_counted) → va_S A s.heap H locs → lv_has ls 4 [(0, .ref (h 0)), (1, .int x1), (2, .int x2)] → W p l e rm9_which s m args below meth c H locs 0 0 Q (F0 m 91 ls []) := by
        intro v_far v_row v_stepAt v_depth v_tries v_values v_wrong v_stepIn v_laid v_firstRow x1 x2 H locs ls hf hP hD hS hl
        rw [f9_which_b91] at hf
        refine lv_iload_n hx hb dX9_which_91 rfl (lv_at hl 2 rfl) ?_
        refine lv_if_eq (tgt := 97) hx hb dX9_which_92 (by decide) (fun c11 => ?_) (fun c11 => ?_)
        · rw [if_pos c11] at hf
          refine lv_iinc (v := (x1 + 1)) (lv' := [(1, .int (x1 + 1)), (0, .ref (h 0)), (2, .int x2)]) hx hb dX9_which_97 hl (k := 1) rfl rfl (by decide) rfl (fun ls hl => ?_)
          refine lv_goto (tgt := 23) hx hb dX9_which_100 (by decide) ?_
          exact ih v_far v_row v_stepAt v_depth v_tries v_values v_wrong v_stepIn v_laid v_firstRow (x1 + 1) _ _ _ hf hP hD hS (lv_sub hl [1, 0] rfl)
        · rw [if_neg c11] at hf
          exact J95 v_far v_row v_stepAt v_depth v_tries v_values v_wrong v_stepIn v_laid v_firstRow x1 _ _ _ hf hP hD hS (lv_sub hl [1] rfl)
      have J52 : ∀ (n52 : Nat) (v_far : Nat → Int32) (v_row : Nat → Int32) (v_stepAt : Nat → Int32) (v_depth : Int32) (v_tries : Nat → Int32) (v_values : Nat → Int32) (v_wrong : Int32) (v_stepIn : Nat → Int32) (v_laid : Nat → Int32) (v_firstRow : Nat → Int32) (x1 : Int32) (x2 : Int32) (x3 : Int32) (H : Heap) (locs : List Loc) (ls : Array Slot), f9_which_l52 (f9_which_l23 n) n52 v_all v_far v_row v_stepAt v_depth v_tries v_values v_wrong v_stepIn v_laid v_firstRow x1 x2 x3 = some (r0, v_far', v_row', v_stepAt', v_depth', v_tries', v_values', v_wrong', v_stepIn', v_laid', v_firstRow') → va_P D vwCl (wdM cI cZ h v_all v_past v_states v_refused v_far v_row v_stepAt v_depth v_tries v_values v_wrong v_isEnd v_found v_reached v_stepIn v_laid v_firstRow v_text v_textLong v_spot v_taken v_counted) H → va_D A (wdM cI cZ h v_all v_past v_states v_refused v_far v_row v_stepAt v_depth v_tries v_values v_wrong v_isEnd v_found v_reached v_stepIn v_laid v_firstRow v_text v_textLong v_spot v_taken v_counted) → va_S A s.heap H locs → lv_has ls 4 [(0, .ref (h 0)), (1, .int x1), (2, .int x2), (3, .int x3)] → W p l e rm9_which s m args below meth c H locs 0 0 Q (F0 m 52 ls []) := by
        intro n52
        induction n52 with
        | zero =>
          intro v_far v_row v_stepAt v_depth v_tries v_values v_wrong v_stepIn v_laid v_firstRow x1 x2 x3 H locs ls hf
          cases (show (none : Option (Int32 × (Nat → Int32) × (Nat → Int32) × (Nat → Int32) × Int32 × (Nat → Int32) × (Nat → Int32) × Int32 × (Nat → Int32) × (Nat → Int32) × (Nat → Int32))) = some (r0, v_far', v_row', v_stepAt', v_depth', v_tries', v_values', v_wrong', v_stepIn', v_laid', v_firstRow') from hf)
        | succ n52 ih52 =>
          have J84 : ∀ (v_far : Nat → Int32) (v_row : Nat → Int32) (v_stepAt : Nat → Int32) (v_depth : Int32) (v_tries : Nat → Int32) (v_values : Nat → Int32) (v_wrong : Int32) (v_stepIn : Nat → Int32) (v_laid : Nat → Int32) (v_firstRow : Nat → Int32) (x1 : Int32) (x3 : Int32) (s0 : Int32) (H : Heap) (locs : List Loc) (ls : Array Slot), f9_which_b84 (f9_which_l23 n) (f9_which_l52 (f9_which_l23 n) n52) v_all v_far v_row v_stepAt v_depth v_tries v_values v_wrong v_stepIn v_laid v_firstRow x1 x3 s0 = some (r0, v_far', v_row', v_stepAt', v_depth', v_tries', v_values', v_wrong', v_stepIn', v_laid', v_firstRow') → va_P D vwCl (wdM cI cZ h v_all v_past v_states v_refused v_far v_row v_stepAt v_depth v_tries v_values v_wrong v_isEnd v_found v_reached v_stepIn v_laid v_firstRow v_text v_textLong v_spot v_taken v_counted) H → va_D A (wdM cI cZ h v_all v_past v_states v_refused v_far v_row v_stepAt v_depth v_tries v_values v_wrong v_isEnd v_found v_reached v_stepIn v_laid v_firstRow v_text v_textLong v_spot v_taken v_counted) → va_S A s.heap H locs → lv_has ls 4 [(0, .ref (h 0)), (1, .int x1), (3, .int x3)] → W p l e rm9_which s m args below meth c H locs 0 0 Q (F0 m 84 ls [.int s0]) := by
            intro v_far v_row v_stepAt v_depth v_tries v_values v_wrong v_stepIn v_laid v_firstRow x1 x3 s0 H locs ls hf hP hD hS hl
            rw [f9_which_b84] at hf
            refine lv_istore_n (lv' := [(2, .int s0), (0, .ref (h 0)), (1, .int x1), (3, .int x3)]) hx hb dX9_which_84 rfl hl (by decide) rfl (fun ls hl => ?_)
            refine lv_iinc (v := (x3 + 1)) (lv' := [(3, .int (x3 + 1)), (2, .int s0), (0, .ref (h 0)), (1, .int x1)]) hx hb dX9_which_85 hl (k := 3) rfl rfl (by decide) rfl (fun ls hl => ?_)
            refine lv_goto (tgt := 52) hx hb dX9_which_88 (by decide) ?_
            exact ih v_far v_row v_stepAt v_depth v_tries v_values v_wrong v_stepIn v_laid v_firstRow x1 s0 (x3 + 1) _ _ _ hf hP hD hS (lv_sub hl [2, 3, 1, 0] rfl)
          intro v_far v_row v_stepAt v_depth v_tries v_values v_wrong v_stepIn v_laid v_firstRow x1 x2 x3 H locs ls hf hP hD hS hl
          rw [f9_which_l52_s] at hf
          refine lv_iload_n hx hb dX9_which_52 rfl (lv_at hl 3 rfl) ?_
          refine lv_aload_n hx hb dX9_which_53 rfl (lv_at hl 0 rfl) ?_
          refine va_get (D := D) (cl := vwCl) (ci := 6) (v := .int v_depth) (C := RX9) (T := TX9) (N := 22) hx hb hts hin9 hown hK hP 0 rfl rfl 7 (by decide) (hts (.fieldLink RX9 130 "StepOrdersModel" "depth" "I") (by decide +kernel)) (fun _ h9 => h9) rfl dX9_which_54 ?_
          refine lv_icmp_ge (tgt := 91) hx hb dX9_which_57 (by decide) (fun c12 => ?_) (fun c12 => ?_)
          · rw [if_pos c12] at hf
            exact J91 v_far v_row v_stepAt v_depth v_tries v_values v_wrong v_stepIn v_laid v_firstRow x1 x2 _ _ _ hf hP hD hS (lv_sub hl [0, 1, 2] rfl)
          · rw [if_neg c12] at hf
            refine lv_iload_n hx hb dX9_which_60 rfl (lv_at hl 2 rfl) ?_
            refine lv_if_eq (tgt := 91) hx hb dX9_which_61 (by decide) (fun c13 => ?_) (fun c13 => ?_)
            · rw [if_pos c13] at hf
              exact J91 v_far v_row v_stepAt v_depth v_tries v_values v_wrong v_stepIn v_laid v_firstRow x1 x2 _ _ _ hf hP hD hS (lv_sub hl [0, 1, 2] rfl)
            · rw [if_neg c13] at hf
              refine lv_aload_n hx hb dX9_which_64 rfl (lv_at hl 0 rfl) ?_
              refine va_get (D := D) (cl := vwCl) (ci := 6) (v := .ref (h 5)) (C := RX9) (T := TX9) (N := 22) hx hb hts hin9 hown hK hP 0 rfl rfl 5 (by decide) (hts (.fieldLink RX9 22 "StepOrdersModel" "row" "[I") (by decide +kernel)) (fun _ h9 => h9) rfl dX9_which_65 ?_
              refine lv_iload_n hx hb dX9_which_68 rfl (lv_at hl 3 rfl) ?_
              refine kb_bind hf (fun v14 hv14 hf => ?_)
              refine ka_iald (D := D) (cl := vwCl) hx hb hK hP 5 1 (f := v_row) rfl rfl (ard_in hv14) (ard_v hv14) dX9_which_69 ?_
              refine lv_aload_n hx hb dX9_which_70 rfl (lv_at hl 0 rfl) ?_
              refine va_get (D := D) (cl := vwCl) (ci := 6) (v := .ref (h 14)) (C := RX9) (T := TX9) (N := 22) hx hb hts hin9 hown hK hP 0 rfl rfl 16 (by decide) (hts (.fieldLink RX9 50 "StepOrdersModel" "firstRow" "[I") (by decide +kernel)) (fun _ h9 => h9) rfl dX9_which_71 ?_
              refine lv_iload_n hx hb dX9_which_74 rfl (lv_at hl 3 rfl) ?_
              refine kb_bind hf (fun v15 hv15 hf => ?_)
              refine ka_iald (D := D) (cl := vwCl) hx hb hK hP 14 1 (f := v_firstRow) rfl rfl (ard_in hv15) (ard_v hv15) dX9_which_75 ?_
              refine lv_icmp_ne (tgt := 83) hx hb dX9_which_76 (by decide) (fun c16 => ?_) (fun c16 => ?_)
              · rw [if_neg c16] at hf
                refine lv_iconst (v := 0) hx hb dX9_which_83 (by decide) ?_
                exact J84 v_far v_row v_stepAt v_depth v_tries v_values v_wrong v_stepIn v_laid v_firstRow x1 x3 (0 : Int32) _ _ _ hf hP hD hS (lv_sub hl [0, 1, 3] rfl)
              · rw [if_pos c16] at hf
                refine lv_iconst (v := 1) hx hb dX9_which_79 (by decide) ?_
                refine lv_goto (tgt := 84) hx hb dX9_which_80 (by decide) ?_
                exact J84 v_far v_row v_stepAt v_depth v_tries v_values v_wrong v_stepIn v_laid v_firstRow x1 x3 (1 : Int32) _ _ _ hf hP hD hS (lv_sub hl [0, 1, 3] rfl)
      have J49 : ∀ (v_far : Nat → Int32) (v_row : Nat → Int32) (v_stepAt : Nat → Int32) (v_depth : Int32) (v_tries : Nat → Int32) (v_values : Nat → Int32) (v_wrong : Int32) (v_stepIn : Nat → Int32) (v_laid : Nat → Int32) (v_firstRow : Nat → Int32) (x1 : Int32) (s0 : Int32) (H : Heap) (locs : List Loc) (ls : Array Slot), f9_which_b49 (f9_which_l23 n) v_all v_far v_row v_stepAt v_depth v_tries v_values v_wrong v_stepIn v_laid v_firstRow x1 s0 = some (r0, v_far', v_row', v_stepAt', v_depth', v_tries', v_values', v_wrong', v_stepIn', v_laid', v_firstRow') → va_P D vwCl (wdM cI cZ h v_all v_past v_states v_refused v_far v_row v_stepAt v_depth v_tries v_values v_wrong v_isEnd v_found v_reached v_stepIn v_laid v_firstRow v_text v_textLong v_spot v_taken v_counted) H → va_D A (wdM cI cZ h v_all v_past v_states v_refused v_far v_row v_stepAt v_depth v_tries v_values v_wrong v_isEnd v_found v_reached v_stepIn v_laid v_firstRow v_text v_textLong v_spot v_taken v_counted) → va_S A s.heap H locs → lv_has ls 4 [(0, .ref (h 0)), (1, .int x1)] → W p l e rm9_which s m args below meth c H locs 0 0 Q (F0 m 49 ls [.int s0]) := by
        intro v_far v_row v_stepAt v_depth v_tries v_values v_wrong v_stepIn v_laid v_firstRow x1 s0 H locs ls hf hP hD hS hl
        rw [f9_which_b49] at hf
        refine lv_istore_n (lv' := [(2, .int s0), (0, .ref (h 0)), (1, .int x1)]) hx hb dX9_which_49 rfl hl (by decide) rfl (fun ls hl => ?_)
        refine lv_iconst (v := 0) hx hb dX9_which_50 (by decide) ?_
        refine lv_istore_n (lv' := [(3, .int (0 : Int32)), (2, .int s0), (0, .ref (h 0)), (1, .int x1)]) hx hb dX9_which_51 rfl hl (by decide) rfl (fun ls hl => ?_)
        exact J52 kFUEL v_far v_row v_stepAt v_depth v_tries v_values v_wrong v_stepIn v_laid v_firstRow x1 s0 (0 : Int32) _ _ _ hf hP hD hS (lv_sub hl [2, 3, 1, 0] rfl)
      intro v_far v_row v_stepAt v_depth v_tries v_values v_wrong v_stepIn v_laid v_firstRow x1 H locs ls hf hP hD hS hl
      rw [f9_which_l23_s] at hf
      refine lv_aload_n hx hb dX9_which_23 rfl (lv_at hl 0 rfl) ?_
      refine kb_bind hf (fun q17 hq17 hf => ?_)
      have hPc : va_P D vwCl (wdM cI cZ h v_all v_past v_states v_refused v_far v_row v_stepAt v_depth v_tries v_values v_wrong v_isEnd v_found v_reached v_stepIn v_laid v_firstRow v_text v_textLong v_spot v_taken v_counted) H := hP.sub [0, 1, 2, 3, 4, 5, 6, 7, 8, 9, 10, 11, 12, 13, 14, 15, 16] rfl
      have hDc : va_D A (wdM cI cZ h v_all v_past v_states v_refused v_far v_row v_stepAt v_depth v_tries v_values v_wrong v_isEnd v_found v_reached v_stepIn v_laid v_firstRow v_text v_textLong v_spot v_taken v_counted) := hD.sub [0, 1, 2, 3, 4, 5, 6, 7, 8, 9, 10, 11, 12, 13, 14, 15, 16] (by decide) rfl
      refine kd_iW (ws' := wdM cI cZ h v_all v_past v_states v_refused q17.2.1 q17.2.2.1 q17.2.2.2.1 q17.2.2.2.2.1 q17.2.2.2.2.2 v_values v_wrong v_isEnd v_found v_reached v_stepIn v_laid v_firstRow v_text v_textLong v_spot v_taken v_counted) (va_runV (As := []) (rest := []) ⟨hx, hb, hml, hown, hts⟩ (c9_goesOn l D cB cI cZ cO h H.size v_all v_past v_states v_refused v_far v_row v_stepAt v_depth v_tries v_values v_wrong v_isEnd v_found v_reached v_stepIn v_laid v_firstRow v_text v_textLong v_spot v_taken v_counted q17.1 q17.2.1 q17.2.2.1 q17.2.2.2.1 q17.2.2.2.2.1 q17.2.2.2.2.2 hq17) (cwV 0 hts gX9_which_X9_goesOn rfl rfl rfl (by decide +kernel) ⟨Nat.le_of_ble_eq_true rfl, Nat.le_of_ble_eq_true rfl⟩) ⟨kb_blind, va_recv hK hPc (ci := 6) (q0 := 0) rfl rfl, kb_pre hPc hDc hK hN⟩ rfl rfl hl.1 rfl (lv_room (Nat.le_of_ble_eq_true rfl)) dX9_which_24 ⟨Nat.le_refl _, Nat.le_refl _⟩) hP hD hS hA [0, 1, 2, 3, 4, 5, 6, 7, 8, 9, 10, 11, 12, 13, 14, 15, 16] [] rfl rfl rfl rfl rfl (fun H locs hn18 hP hD hS => ?_)
      refine lv_if_eq (tgt := 103) hx hb dX9_which_27 (by decide) (fun c19 => ?_) (fun c19 => ?_)
      · rw [if_pos c19] at hf
        refine lv_iconst (v := (-1)) hx hb dX9_which_103 (by decide) ?_
        cases hf
        exact hend _ _ _ _ rfl hP hS dX9_which_104
      · rw [if_neg c19] at hf
        refine lv_aload_n hx hb dX9_which_30 rfl (lv_at hl 0 rfl) ?_
        refine va_get (D := D) (cl := vwCl) (ci := 6) (v := .int q17.2.2.2.2.1) (C := RX9) (T := TX9) (N := 22) hx hb hts hin9 hown hK hP 0 rfl rfl 7 (by decide) (hts (.fieldLink RX9 130 "StepOrdersModel" "depth" "I") (by decide +kernel)) (fun _ h9 => h9) rfl dX9_which_31 ?_
        refine lv_aload_n hx hb dX9_which_34 rfl (lv_at hl 0 rfl) ?_
        refine va_get (D := D) (cl := vwCl) (ci := 6) (v := .ref (h 1)) (C := RX9) (T := TX9) (N := 22) hx hb hts hin9 hown hK hP 0 rfl rfl 0 (by decide) (hts (.fieldLink RX9 7 "StepOrdersModel" "all" "[I") (by decide +kernel)) (fun _ h9 => h9) rfl dX9_which_35 ?_
        refine lv_bipush (v := 43) hx hb dX9_which_38 (by decide) ?_
        refine ka_iald (D := D) (cl := vwCl) hx hb hK hP 1 1 (f := v_all) rfl rfl (v := (v_all 43)) (show ¬ (_ ∨ _) from by decide) rfl dX9_which_40 ?_
        refine lv_icmp_ne (tgt := 48) hx hb dX9_which_41 (by decide) (fun c20 => ?_) (fun c20 => ?_)
        · rw [if_neg c20] at hf
          refine lv_iconst (v := 0) hx hb dX9_which_48 (by decide) ?_
          exact J49 q17.2.1 q17.2.2.1 q17.2.2.2.1 q17.2.2.2.2.1 q17.2.2.2.2.2 v_values v_wrong v_stepIn v_laid v_firstRow x1 (0 : Int32) _ _ _ hf hP hD hS (lv_sub hl [0, 1] rfl)
        · rw [if_pos c20] at hf
          refine lv_iconst (v := 1) hx hb dX9_which_44 (by decide) ?_
          refine lv_goto (tgt := 49) hx hb dX9_which_45 (by decide) ?_
          exact J49 q17.2.1 q17.2.2.1 q17.2.2.2.1 q17.2.2.2.2.1 q17.2.2.2.2.2 v_values v_wrong v_stepIn v_laid v_firstRow x1 (1 : Int32) _ _ _ hf hP hD hS (lv_sub hl [0, 1] rfl)
  rw [f9_which] at hf
  refine lv_aload_n hx hb dX9_which_0 rfl (lv_at hl 0 rfl) ?_
  refine kb_bind hf (fun q21 hq21 hf => ?_)
  have hPc : va_P D vwCl (wdM cI cZ h v_all v_past v_states v_refused v_far v_row v_stepAt v_depth v_tries v_values v_wrong v_isEnd v_found v_reached v_stepIn v_laid v_firstRow v_text v_textLong v_spot v_taken v_counted) H := hP.sub [0, 1, 2, 3, 4, 5, 6, 7, 8, 9, 10, 11, 12, 13, 14, 15, 16] rfl
  have hDc : va_D A (wdM cI cZ h v_all v_past v_states v_refused v_far v_row v_stepAt v_depth v_tries v_values v_wrong v_isEnd v_found v_reached v_stepIn v_laid v_firstRow v_text v_textLong v_spot v_taken v_counted) := hD.sub [0, 1, 2, 3, 4, 5, 6, 7, 8, 9, 10, 11, 12, 13, 14, 15, 16] (by decide) rfl
  refine kd_vW (ws' := wdM cI cZ h v_all v_past v_states v_refused q21.1 v_row v_stepAt q21.2.1 q21.2.2.1 q21.2.2.2.1 q21.2.2.2.2 v_isEnd v_found v_reached v_stepIn v_laid v_firstRow v_text v_textLong v_spot v_taken v_counted) (va_runV (As := []) (rest := []) ⟨hx, hb, hml, hown, hts⟩ (c9_goesRun l D cB cI cZ cO h H.size v_all v_past v_states v_refused v_far v_row v_stepAt v_depth v_tries v_values v_wrong v_isEnd v_found v_reached v_stepIn v_laid v_firstRow v_text v_textLong v_spot v_taken v_counted q21.1 q21.2.1 q21.2.2.1 q21.2.2.2.1 q21.2.2.2.2 hq21) (cwV 0 hts gX9_which_X9_goesRun rfl rfl rfl (by decide +kernel) ⟨Nat.le_of_ble_eq_true rfl, Nat.le_of_ble_eq_true rfl⟩) ⟨kb_blind, va_recv hK hPc (ci := 6) (q0 := 0) rfl rfl, kb_pre hPc hDc hK hN⟩ rfl rfl hl.1 rfl (lv_room (Nat.le_of_ble_eq_true rfl)) dX9_which_1 ⟨Nat.le_refl _, Nat.le_refl _⟩) hP hD hS hA [0, 1, 2, 3, 4, 5, 6, 7, 8, 9, 10, 11, 12, 13, 14, 15, 16] [] rfl rfl rfl rfl rfl (fun H locs hP hD hS => ?_)
  refine lv_aload_n hx hb dX9_which_4 rfl (lv_at hl 0 rfl) ?_
  refine kb_bind hf (fun q22 hq22 hf => ?_)
  have hPc : va_P D vwCl (wdM cI cZ h v_all v_past v_states v_refused q21.1 v_row v_stepAt q21.2.1 q21.2.2.1 q21.2.2.2.1 q21.2.2.2.2 v_isEnd v_found v_reached v_stepIn v_laid v_firstRow v_text v_textLong v_spot v_taken v_counted) H := hP.sub [0, 1, 2, 3, 4, 5, 6, 7, 8, 9, 10, 11, 12, 13, 14, 15, 16] rfl
  have hDc : va_D A (wdM cI cZ h v_all v_past v_states v_refused q21.1 v_row v_stepAt q21.2.1 q21.2.2.1 q21.2.2.2.1 q21.2.2.2.2 v_isEnd v_found v_reached v_stepIn v_laid v_firstRow v_text v_textLong v_spot v_taken v_counted) := hD.sub [0, 1, 2, 3, 4, 5, 6, 7, 8, 9, 10, 11, 12, 13, 14, 15, 16] (by decide) rfl
  refine kd_iR (va_runV (As := []) (rest := []) ⟨hx, hb, hml, hown, hts⟩ (c9_isStill l D cB cI cZ cO h H.size v_all v_past v_states v_refused q21.1 v_row v_stepAt q21.2.1 q21.2.2.1 q21.2.2.2.1 q21.2.2.2.2 v_isEnd v_found v_reached v_stepIn v_laid v_firstRow v_text v_textLong v_spot v_taken v_counted q22 hq22) (cwV 0 hts gX9_which_X9_isStill rfl rfl rfl (by decide +kernel) ⟨Nat.le_of_ble_eq_true rfl, Nat.le_of_ble_eq_true rfl⟩) ⟨kb_blind, va_recv hK hPc (ci := 6) (q0 := 0) rfl rfl, kb_pre hPc hDc hK hN⟩ rfl rfl hl.1 rfl (lv_room (Nat.le_of_ble_eq_true rfl)) dX9_which_5 ⟨Nat.le_refl _, Nat.le_refl _⟩) hP hD hS hA [0, 1, 2, 3, 4, 5, 6, 7, 8, 9, 10, 11, 12, 13, 14, 15, 16] rfl (fun H locs hn23 hP hS => ?_)
  refine lv_if_ne (tgt := 13) hx hb dX9_which_8 (by decide) (fun c24 => ?_) (fun c24 => ?_)
  · rw [if_neg c24] at hf
    refine lv_aload_n hx hb dX9_which_13 rfl (lv_at hl 0 rfl) ?_
    refine kb_bind hf (fun q25 hq25 hf => ?_)
    have hPc : va_P D vwCl (wdM cI cZ h v_all v_past v_states v_refused q21.1 v_row v_stepAt q21.2.1 q21.2.2.1 q21.2.2.2.1 q21.2.2.2.2 v_isEnd v_found v_reached v_stepIn v_laid v_firstRow v_text v_textLong v_spot v_taken v_counted) H := hP.sub [0, 1, 2, 3, 4, 5, 6, 7, 8, 9, 10, 11, 12, 13, 14, 15, 16] rfl
    have hDc : va_D A (wdM cI cZ h v_all v_past v_states v_refused q21.1 v_row v_stepAt q21.2.1 q21.2.2.1 q21.2.2.2.1 q21.2.2.2.2 v_isEnd v_found v_reached v_stepIn v_laid v_firstRow v_text v_textLong v_spot v_taken v_counted) := hD.sub [0, 1, 2, 3, 4, 5, 6, 7, 8, 9, 10, 11, 12, 13, 14, 15, 16] (by decide) rfl
    refine kd_vW (ws' := wdM cI cZ h v_all v_past v_states v_refused q25.1 v_row v_stepAt q25.2.1 q25.2.2.1 q21.2.2.2.1 q21.2.2.2.2 v_isEnd v_found v_reached q25.2.2.2.1 q25.2.2.2.2.1 q25.2.2.2.2.2 v_text v_textLong v_spot v_taken v_counted) (va_runV (As := []) (rest := []) ⟨hx, hb, hml, hown, hts⟩ (c9_laysFirst l D cB cI cZ cO h H.size v_all v_past v_states v_refused q21.1 v_row v_stepAt q21.2.1 q21.2.2.1 q21.2.2.2.1 q21.2.2.2.2 v_isEnd v_found v_reached v_stepIn v_laid v_firstRow v_text v_textLong v_spot v_taken v_counted q25.1 q25.2.1 q25.2.2.1 q25.2.2.2.1 q25.2.2.2.2.1 q25.2.2.2.2.2 hq25) (cwV 0 hts gX9_which_X9_laysFirst rfl rfl rfl (by decide +kernel) ⟨Nat.le_of_ble_eq_true rfl, Nat.le_of_ble_eq_true rfl⟩) ⟨kb_blind, va_recv hK hPc (ci := 6) (q0 := 0) rfl rfl, kb_pre hPc hDc hK hN⟩ rfl rfl hl.1 rfl (lv_room (Nat.le_of_ble_eq_true rfl)) dX9_which_14 ⟨Nat.le_refl _, Nat.le_refl _⟩) hP hD hS hA [0, 1, 2, 3, 4, 5, 6, 7, 8, 9, 10, 11, 12, 13, 14, 15, 16] [] rfl rfl rfl rfl rfl (fun H locs hP hD hS => ?_)
    refine lv_aload_n hx hb dX9_which_17 rfl (lv_at hl 0 rfl) ?_
    refine kb_bind hf (fun q26 hq26 hf => ?_)
    have hPc : va_P D vwCl (wdM cI cZ h v_all v_past v_states v_refused q25.1 v_row v_stepAt q25.2.1 q25.2.2.1 q21.2.2.2.1 q21.2.2.2.2 v_isEnd v_found v_reached q25.2.2.2.1 q25.2.2.2.2.1 q25.2.2.2.2.2 v_text v_textLong v_spot v_taken v_counted) H := hP.sub [0, 1, 2, 3, 4, 5, 6, 7, 8, 9, 10, 11, 12, 13, 14, 15, 16] rfl
    have hDc : va_D A (wdM cI cZ h v_all v_past v_states v_refused q25.1 v_row v_stepAt q25.2.1 q25.2.2.1 q21.2.2.2.1 q21.2.2.2.2 v_isEnd v_found v_reached q25.2.2.2.1 q25.2.2.2.2.1 q25.2.2.2.2.2 v_text v_textLong v_spot v_taken v_counted) := hD.sub [0, 1, 2, 3, 4, 5, 6, 7, 8, 9, 10, 11, 12, 13, 14, 15, 16] (by decide) rfl
    refine kd_vW (ws' := wdM cI cZ h v_all v_past v_states v_refused q26.1 v_row v_stepAt q26.2.1 q26.2.2 q21.2.2.2.1 q21.2.2.2.2 v_isEnd v_found v_reached q25.2.2.2.1 q25.2.2.2.2.1 q25.2.2.2.2.2 v_text v_textLong v_spot v_taken v_counted) (va_runV (As := []) (rest := []) ⟨hx, hb, hml, hown, hts⟩ (c9_starts l D cB cI cZ cO h H.size v_all v_past v_states v_refused q25.1 v_row v_stepAt q25.2.1 q25.2.2.1 q21.2.2.2.1 q21.2.2.2.2 v_isEnd v_found v_reached q25.2.2.2.1 q25.2.2.2.2.1 q25.2.2.2.2.2 v_text v_textLong v_spot v_taken v_counted q26.1 q26.2.1 q26.2.2 hq26) (cwV 0 hts gX9_which_X9_starts rfl rfl rfl (by decide +kernel) ⟨Nat.le_of_ble_eq_true rfl, Nat.le_of_ble_eq_true rfl⟩) ⟨kb_blind, va_recv hK hPc (ci := 6) (q0 := 0) rfl rfl, kb_pre hPc hDc hK hN⟩ rfl rfl hl.1 rfl (lv_room (Nat.le_of_ble_eq_true rfl)) dX9_which_18 ⟨Nat.le_refl _, Nat.le_refl _⟩) hP hD hS hA [0, 1, 2, 3, 4, 5, 6, 7, 8, 9, 10, 11, 12, 13, 14, 15, 16] [] rfl rfl rfl rfl rfl (fun H locs hP hD hS => ?_)
    refine lv_iconst (v := 0) hx hb dX9_which_21 (by decide) ?_
    refine lv_istore_n (lv' := [(1, .int (0 : Int32)), (0, .ref (h 0))]) hx hb dX9_which_22 rfl hl (by decide) rfl (fun ls hl => ?_)
    exact J23 kFUEL q26.1 v_row v_stepAt q26.2.1 q26.2.2 q21.2.2.2.1 q21.2.2.2.2 q25.2.2.2.1 q25.2.2.2.2.1 q25.2.2.2.2.2 (0 : Int32) _ _ _ hf hP hD hS (lv_sub hl [1, 0] rfl)
  · rw [if_pos c24] at hf
    refine lv_iconst (v := (-1)) hx hb dX9_which_11 (by decide) ?_
    cases hf
    exact hend _ _ _ _ rfl hP hS dX9_which_12

set_option maxHeartbeats 4000000 in
set_option maxRecDepth 100000 in
theorem c9_type (l : Launch) (D : va_G) (cB cI cZ cO : ClassId) (h : Nat → Nat) (sz : Nat) (x1 : Int32) (v_all : Nat → Int32) (v_past : Nat → Int32) (v_states : Int32) (v_refused : Nat → Int32) (v_far : Nat → Int32) (v_row : Nat → Int32) (v_stepAt : Nat → Int32) (v_depth : Int32) (v_tries : Nat → Int32) (v_values : Nat → Int32) (v_wrong : Int32) (v_isEnd : Nat → Int32) (v_found : Nat → Int32) (v_reached : Nat → Int32) (v_stepIn : Nat → Int32) (v_laid : Nat → Int32) (v_firstRow : Nat → Int32) (v_text : Nat → Int32) (v_textLong : Int32) (v_spot : Int32) (v_taken : Int32) (v_counted : Nat → Int32) (r0 : Int32) (v_refused' : Nat → Int32) (v_text' : Nat → Int32) (v_textLong' : Int32) (hf : f9_type v_refused v_text v_textLong x1 = some (r0, v_refused', v_text', v_textLong')) : Met l yX9_type wsX9_type rm9_type (va_Pc [.ref (h 0), .int x1] (kb_B D (ka_tys cB cI cZ cO) sz (wdM cI cZ h v_all v_past v_states v_refused v_far v_row v_stepAt v_depth v_tries v_values v_wrong v_isEnd v_found v_reached v_stepIn v_laid v_firstRow v_text v_textLong v_spot v_taken v_counted))) (va_Qi (kb_post .int r0) (fun _ t => va_P D vwCl (wdM cI cZ h v_all v_past v_states (v_refused') v_far v_row v_stepAt v_depth v_tries v_values v_wrong v_isEnd v_found v_reached v_stepIn v_laid v_firstRow (v_text') (v_textLong') v_spot v_taken v_counted) t.heap) (va_A (wdM cI cZ h v_all v_past v_states v_refused v_far v_row v_stepAt v_depth v_tries v_values v_wrong v_isEnd v_found v_reached v_stepIn v_laid v_firstRow v_text v_textLong v_spot v_taken v_counted) sz)) 0 0 (va_A (wdM cI cZ h v_all v_past v_states v_refused v_far v_row v_stepAt v_depth v_tries v_values v_wrong v_isEnd v_found v_reached v_stepIn v_laid v_firstRow v_text v_textLong v_spot v_taken v_counted) sz) := by
  refine kb_metZ (cc := cX9_type) (maxL := 2) (ty := .int) (by decide) rfl (Nat.le_of_ble_eq_true rfl) ?_
  intro p e s m args below meth c Q A ls H hx hb hml hown hts hK hN hP hD hS hA hl hend
  have hown : s.vm.findClass RX9 = some m.cls := hown
  have hl : lv_has ls 2 [(0, .ref (h 0)), (1, .int x1)] := hl
  have hin9 : ∀ w ∈ u_ws RX9 TX9 22, w ∈ wsX9_type := by decide +kernel
  rw [f9_type] at hf
  refine lv_iload_n hx hb dX9_type_0 rfl (lv_at hl 1 rfl) ?_
  refine lv_i2l (v := x1.toInt64) hx hb dX9_type_1 rfl ?_
  refine lv_lconst (v := 0) hx hb dX9_type_2 (by decide) ?_
  refine lv_ldc2 (v := 127) hx hb hown (hts (.constantLong RX9 191 (127)) (by decide +kernel)) dX9_type_3 ?_
  have hPc : va_P D vwCl ([]) H := hP.sub [] rfl
  have hDc : va_D A ([]) := hD.sub [] (by decide) rfl
  refine kd_iR (va_runS (As := [.long x1.toInt64, .long (0 : Int64), .long (127 : Int64)]) (rest := []) ⟨hx, hb, hml, hown, hts⟩ (c9_in l D cB cI cZ cO h H.size x1.toInt64 (0 : Int64) (127 : Int64) (f9_in x1.toInt64 (0 : Int64) (127 : Int64)) rfl) (va_cwS 3 hts gX9_type_X9_in rfl rfl rfl (by decide +kernel) ⟨Nat.le_of_ble_eq_true rfl, Nat.le_of_ble_eq_true rfl⟩) ⟨kb_blind, kb_pre hPc hDc hK hN⟩ rfl rfl hl.1 rfl (lv_room (Nat.le_of_ble_eq_true rfl)) dX9_type_6 ⟨Nat.le_refl _, Nat.le_refl _⟩) hP hD hS hA [] rfl (fun H locs hn1 hP hS => ?_)
  refine lv_if_ne (tgt := 19) hx hb dX9_type_9 (by decide) (fun c2 => ?_) (fun c2 => ?_)
  · rw [if_neg c2] at hf
    refine lv_aload_n hx hb dX9_type_19 rfl (lv_at hl 0 rfl) ?_
    refine va_get (D := D) (cl := vwCl) (ci := 6) (v := .int v_textLong) (C := RX9) (T := TX9) (N := 22) hx hb hts hin9 hown hK hP 0 rfl rfl 18 (by decide) (hts (.fieldLink RX9 193 "StepOrdersModel" "textLong" "I") (by decide +kernel)) (fun _ h9 => h9) rfl dX9_type_20 ?_
    refine lv_bipush (v := 120) hx hb dX9_type_23 (by decide) ?_
    refine lv_icmp_ne (tgt := 35) hx hb dX9_type_25 (by decide) (fun c3 => ?_) (fun c3 => ?_)
    · rw [if_neg c3] at hf
      refine lv_aload_n hx hb dX9_type_35 rfl (lv_at hl 0 rfl) ?_
      refine va_get (D := D) (cl := vwCl) (ci := 6) (v := .ref (h 15)) (C := RX9) (T := TX9) (N := 22) hx hb hts hin9 hown hK hP 0 rfl rfl 17 (by decide) (hts (.fieldLink RX9 53 "StepOrdersModel" "text" "[I") (by decide +kernel)) (fun _ h9 => h9) rfl dX9_type_36 ?_
      refine lv_aload_n hx hb dX9_type_39 rfl (lv_at hl 0 rfl) ?_
      refine va_get (D := D) (cl := vwCl) (ci := 6) (v := .int v_textLong) (C := RX9) (T := TX9) (N := 22) hx hb hts hin9 hown hK hP 0 rfl rfl 18 (by decide) (hts (.fieldLink RX9 193 "StepOrdersModel" "textLong" "I") (by decide +kernel)) (fun _ h9 => h9) rfl dX9_type_40 ?_
      refine lv_iload_n hx hb dX9_type_43 rfl (lv_at hl 1 rfl) ?_
      refine kb_bind hf (fun v4 hv4 hf => ?_)
      refine ka_iast (D := D) (cl := vwCl) hx hb hK hP hD hS 15 1 (f := v_text) (g := v4) rfl rfl (awr_in hv4) (awr_v hv4) dX9_type_44 (fun H locs hP hD hS => ?_)
      have hP : va_P D vwCl (wdM cI cZ h v_all v_past v_states v_refused v_far v_row v_stepAt v_depth v_tries v_values v_wrong v_isEnd v_found v_reached v_stepIn v_laid v_firstRow v4 v_textLong v_spot v_taken v_counted) H := hP
      have hD : va_D A (wdM cI cZ h v_all v_past v_states v_refused v_far v_row v_stepAt v_depth v_tries v_values v_wrong v_isEnd v_found v_reached v_stepIn v_laid v_firstRow v4 v_textLong v_spot v_taken v_counted) := hD
      refine lv_aload_n hx hb dX9_type_45 rfl (lv_at hl 0 rfl) ?_
      refine lv_dup hx hb dX9_type_46 rfl ?_
      refine va_get (D := D) (cl := vwCl) (ci := 6) (v := .int v_textLong) (C := RX9) (T := TX9) (N := 22) hx hb hts hin9 hown hK hP 0 rfl rfl 18 (by decide) (hts (.fieldLink RX9 193 "StepOrdersModel" "textLong" "I") (by decide +kernel)) (fun _ h9 => h9) rfl dX9_type_47 ?_
      refine lv_iconst (v := 1) hx hb dX9_type_50 (by decide) ?_
      refine lv_iadd hx hb dX9_type_51 ?_
      refine va_put (D := D) (cl := vwCl) (ci := 6) (v := .int (v_textLong + (1 : Int32))) (ty := .int) (C := RX9) (T := TX9) (N := 22) hx hb hts hin9 tyX9 tyX9_ok nmX9 hown hK hP hD hS 0 rfl rfl 18 (by decide) (hts (.fieldLink RX9 193 "StepOrdersModel" "textLong" "I") (by decide +kernel)) (fun _ h9 => h9) rfl (tyX9_ok 18 (by decide)) rfl rfl (Nat.le_of_ble_eq_true rfl) dX9_type_52 (fun H locs hP hD hS => ?_)
      have hP : va_P D vwCl (wdM cI cZ h v_all v_past v_states v_refused v_far v_row v_stepAt v_depth v_tries v_values v_wrong v_isEnd v_found v_reached v_stepIn v_laid v_firstRow v4 (v_textLong + (1 : Int32)) v_spot v_taken v_counted) H := hP
      have hD : va_D A (wdM cI cZ h v_all v_past v_states v_refused v_far v_row v_stepAt v_depth v_tries v_values v_wrong v_isEnd v_found v_reached v_stepIn v_laid v_firstRow v4 (v_textLong + (1 : Int32)) v_spot v_taken v_counted) := hD
      refine lv_aload_n hx hb dX9_type_55 rfl (lv_at hl 0 rfl) ?_
      refine va_get (D := D) (cl := vwCl) (ci := 6) (v := .int (v_textLong + (1 : Int32))) (C := RX9) (T := TX9) (N := 22) hx hb hts hin9 hown hK hP 0 rfl rfl 18 (by decide) (hts (.fieldLink RX9 193 "StepOrdersModel" "textLong" "I") (by decide +kernel)) (fun _ h9 => h9) rfl dX9_type_56 ?_
      cases hf
      exact hend _ _ _ _ rfl hP hS dX9_type_59
    · rw [if_pos c3] at hf
      refine lv_aload_n hx hb dX9_type_28 rfl (lv_at hl 0 rfl) ?_
      refine lv_bipush (v := (-4)) hx hb dX9_type_29 (by decide) ?_
      refine kb_bind hf (fun q5 hq5 hf => ?_)
      have hPc : va_P D vwCl (wdM cI cZ h v_all v_past v_states v_refused v_far v_row v_stepAt v_depth v_tries v_values v_wrong v_isEnd v_found v_reached v_stepIn v_laid v_firstRow v_text v_textLong v_spot v_taken v_counted) H := hP.sub [0, 1, 2, 3, 4, 5, 6, 7, 8, 9, 10, 11, 12, 13, 14, 15, 16] rfl
      have hDc : va_D A (wdM cI cZ h v_all v_past v_states v_refused v_far v_row v_stepAt v_depth v_tries v_values v_wrong v_isEnd v_found v_reached v_stepIn v_laid v_firstRow v_text v_textLong v_spot v_taken v_counted) := hD.sub [0, 1, 2, 3, 4, 5, 6, 7, 8, 9, 10, 11, 12, 13, 14, 15, 16] (by decide) rfl
      refine kd_iW (ws' := wdM cI cZ h v_all v_past v_states q5.2 v_far v_row v_stepAt v_depth v_tries v_values v_wrong v_isEnd v_found v_reached v_stepIn v_laid v_firstRow v_text v_textLong v_spot v_taken v_counted) (va_runV (As := [.int (-4 : Int32)]) (rest := []) ⟨hx, hb, hml, hown, hts⟩ (c9_refuses l D cB cI cZ cO h H.size (-4 : Int32) v_all v_past v_states v_refused v_far v_row v_stepAt v_depth v_tries v_values v_wrong v_isEnd v_found v_reached v_stepIn v_laid v_firstRow v_text v_textLong v_spot v_taken v_counted q5.1 q5.2 hq5) (cwV 1 hts gX9_type_X9_refuses rfl rfl rfl (by decide +kernel) ⟨Nat.le_of_ble_eq_true rfl, Nat.le_of_ble_eq_true rfl⟩) ⟨kb_blind, va_recv hK hPc (ci := 6) (q0 := 0) rfl rfl, kb_pre hPc hDc hK hN⟩ rfl rfl hl.1 rfl (lv_room (Nat.le_of_ble_eq_true rfl)) dX9_type_31 ⟨Nat.le_refl _, Nat.le_refl _⟩) hP hD hS hA [0, 1, 2, 3, 4, 5, 6, 7, 8, 9, 10, 11, 12, 13, 14, 15, 16] [] rfl rfl rfl rfl rfl (fun H locs hn6 hP hD hS => ?_)
      cases hf
      exact hend _ _ _ _ rfl hP hS dX9_type_34
  · rw [if_pos c2] at hf
    refine lv_aload_n hx hb dX9_type_12 rfl (lv_at hl 0 rfl) ?_
    refine lv_bipush (v := (-2)) hx hb dX9_type_13 (by decide) ?_
    refine kb_bind hf (fun q7 hq7 hf => ?_)
    have hPc : va_P D vwCl (wdM cI cZ h v_all v_past v_states v_refused v_far v_row v_stepAt v_depth v_tries v_values v_wrong v_isEnd v_found v_reached v_stepIn v_laid v_firstRow v_text v_textLong v_spot v_taken v_counted) H := hP.sub [0, 1, 2, 3, 4, 5, 6, 7, 8, 9, 10, 11, 12, 13, 14, 15, 16] rfl
    have hDc : va_D A (wdM cI cZ h v_all v_past v_states v_refused v_far v_row v_stepAt v_depth v_tries v_values v_wrong v_isEnd v_found v_reached v_stepIn v_laid v_firstRow v_text v_textLong v_spot v_taken v_counted) := hD.sub [0, 1, 2, 3, 4, 5, 6, 7, 8, 9, 10, 11, 12, 13, 14, 15, 16] (by decide) rfl
    refine kd_iW (ws' := wdM cI cZ h v_all v_past v_states q7.2 v_far v_row v_stepAt v_depth v_tries v_values v_wrong v_isEnd v_found v_reached v_stepIn v_laid v_firstRow v_text v_textLong v_spot v_taken v_counted) (va_runV (As := [.int (-2 : Int32)]) (rest := []) ⟨hx, hb, hml, hown, hts⟩ (c9_refuses l D cB cI cZ cO h H.size (-2 : Int32) v_all v_past v_states v_refused v_far v_row v_stepAt v_depth v_tries v_values v_wrong v_isEnd v_found v_reached v_stepIn v_laid v_firstRow v_text v_textLong v_spot v_taken v_counted q7.1 q7.2 hq7) (cwV 1 hts gX9_type_X9_refuses rfl rfl rfl (by decide +kernel) ⟨Nat.le_of_ble_eq_true rfl, Nat.le_of_ble_eq_true rfl⟩) ⟨kb_blind, va_recv hK hPc (ci := 6) (q0 := 0) rfl rfl, kb_pre hPc hDc hK hN⟩ rfl rfl hl.1 rfl (lv_room (Nat.le_of_ble_eq_true rfl)) dX9_type_15 ⟨Nat.le_refl _, Nat.le_refl _⟩) hP hD hS hA [0, 1, 2, 3, 4, 5, 6, 7, 8, 9, 10, 11, 12, 13, 14, 15, 16] [] rfl rfl rfl rfl rfl (fun H locs hn8 hP hD hS => ?_)
    cases hf
    exact hend _ _ _ _ rfl hP hS dX9_type_18

set_option maxHeartbeats 4000000 in
set_option maxRecDepth 100000 in
theorem c9_clear (l : Launch) (D : va_G) (cB cI cZ cO : ClassId) (h : Nat → Nat) (sz : Nat) (v_all : Nat → Int32) (v_past : Nat → Int32) (v_states : Int32) (v_refused : Nat → Int32) (v_far : Nat → Int32) (v_row : Nat → Int32) (v_stepAt : Nat → Int32) (v_depth : Int32) (v_tries : Nat → Int32) (v_values : Nat → Int32) (v_wrong : Int32) (v_isEnd : Nat → Int32) (v_found : Nat → Int32) (v_reached : Nat → Int32) (v_stepIn : Nat → Int32) (v_laid : Nat → Int32) (v_firstRow : Nat → Int32) (v_text : Nat → Int32) (v_textLong : Int32) (v_spot : Int32) (v_taken : Int32) (v_counted : Nat → Int32) (r0 : Int32) (v_textLong' : Int32) (hf : f9_clear v_textLong = some (r0, v_textLong')) : Met l yX9_clear wsX9_clear rm9_clear (va_Pc [.ref (h 0)] (kb_B D (ka_tys cB cI cZ cO) sz (wdM cI cZ h v_all v_past v_states v_refused v_far v_row v_stepAt v_depth v_tries v_values v_wrong v_isEnd v_found v_reached v_stepIn v_laid v_firstRow v_text v_textLong v_spot v_taken v_counted))) (va_Qi (kb_post .int r0) (fun _ t => va_P D vwCl (wdM cI cZ h v_all v_past v_states v_refused v_far v_row v_stepAt v_depth v_tries v_values v_wrong v_isEnd v_found v_reached v_stepIn v_laid v_firstRow v_text (v_textLong') v_spot v_taken v_counted) t.heap) (va_A (wdM cI cZ h v_all v_past v_states v_refused v_far v_row v_stepAt v_depth v_tries v_values v_wrong v_isEnd v_found v_reached v_stepIn v_laid v_firstRow v_text v_textLong v_spot v_taken v_counted) sz)) 0 0 (va_A (wdM cI cZ h v_all v_past v_states v_refused v_far v_row v_stepAt v_depth v_tries v_values v_wrong v_isEnd v_found v_reached v_stepIn v_laid v_firstRow v_text v_textLong v_spot v_taken v_counted) sz) := by
  refine kb_metZ (cc := cX9_clear) (maxL := 2) (ty := .int) (by decide) rfl (Nat.le_of_ble_eq_true rfl) ?_
  intro p e s m args below meth c Q A ls H hx hb hml hown hts hK hN hP hD hS hA hl hend
  have hown : s.vm.findClass RX9 = some m.cls := hown
  have hl : lv_has ls 2 [(0, .ref (h 0))] := hl
  have hin9 : ∀ w ∈ u_ws RX9 TX9 22, w ∈ wsX9_clear := by decide +kernel
  rw [f9_clear] at hf
  refine lv_aload_n hx hb dX9_clear_0 rfl (lv_at hl 0 rfl) ?_
  refine va_get (D := D) (cl := vwCl) (ci := 6) (v := .int v_textLong) (C := RX9) (T := TX9) (N := 22) hx hb hts hin9 hown hK hP 0 rfl rfl 18 (by decide) (hts (.fieldLink RX9 193 "StepOrdersModel" "textLong" "I") (by decide +kernel)) (fun _ h9 => h9) rfl dX9_clear_1 ?_
  refine lv_istore_n (lv' := [(1, .int v_textLong), (0, .ref (h 0))]) hx hb dX9_clear_4 rfl hl (by decide) rfl (fun ls hl => ?_)
  refine lv_aload_n hx hb dX9_clear_5 rfl (lv_at hl 1 rfl) ?_
  refine lv_iconst (v := 0) hx hb dX9_clear_6 (by decide) ?_
  refine va_put (D := D) (cl := vwCl) (ci := 6) (v := .int (0 : Int32)) (ty := .int) (C := RX9) (T := TX9) (N := 22) hx hb hts hin9 tyX9 tyX9_ok nmX9 hown hK hP hD hS 0 rfl rfl 18 (by decide) (hts (.fieldLink RX9 193 "StepOrdersModel" "textLong" "I") (by decide +kernel)) (fun _ h9 => h9) rfl (tyX9_ok 18 (by decide)) rfl rfl (Nat.le_of_ble_eq_true rfl) dX9_clear_7 (fun H locs hP hD hS => ?_)
  have hP : va_P D vwCl (wdM cI cZ h v_all v_past v_states v_refused v_far v_row v_stepAt v_depth v_tries v_values v_wrong v_isEnd v_found v_reached v_stepIn v_laid v_firstRow v_text (0 : Int32) v_spot v_taken v_counted) H := hP
  have hD : va_D A (wdM cI cZ h v_all v_past v_states v_refused v_far v_row v_stepAt v_depth v_tries v_values v_wrong v_isEnd v_found v_reached v_stepIn v_laid v_firstRow v_text (0 : Int32) v_spot v_taken v_counted) := hD
  refine lv_iload_n hx hb dX9_clear_10 rfl (lv_at hl 0 rfl) ?_
  cases hf
  exact hend _ _ _ _ rfl hP hS dX9_clear_11

set_option maxHeartbeats 4000000 in
set_option maxRecDepth 100000 in
theorem c9_here (l : Launch) (D : va_G) (cB cI cZ cO : ClassId) (h : Nat → Nat) (sz : Nat) (v_all : Nat → Int32) (v_past : Nat → Int32) (v_states : Int32) (v_refused : Nat → Int32) (v_far : Nat → Int32) (v_row : Nat → Int32) (v_stepAt : Nat → Int32) (v_depth : Int32) (v_tries : Nat → Int32) (v_values : Nat → Int32) (v_wrong : Int32) (v_isEnd : Nat → Int32) (v_found : Nat → Int32) (v_reached : Nat → Int32) (v_stepIn : Nat → Int32) (v_laid : Nat → Int32) (v_firstRow : Nat → Int32) (v_text : Nat → Int32) (v_textLong : Int32) (v_spot : Int32) (v_taken : Int32) (v_counted : Nat → Int32) (r0 : Int32) (v_spot' : Int32) (hf : f9_here v_text v_textLong v_spot = some (r0, v_spot')) : Met l yX9_here wsX9_here rm9_here (va_Pc [.ref (h 0)] (kb_B D (ka_tys cB cI cZ cO) sz (wdM cI cZ h v_all v_past v_states v_refused v_far v_row v_stepAt v_depth v_tries v_values v_wrong v_isEnd v_found v_reached v_stepIn v_laid v_firstRow v_text v_textLong v_spot v_taken v_counted))) (va_Qi (kb_post .int r0) (fun _ t => va_P D vwCl (wdM cI cZ h v_all v_past v_states v_refused v_far v_row v_stepAt v_depth v_tries v_values v_wrong v_isEnd v_found v_reached v_stepIn v_laid v_firstRow v_text v_textLong (v_spot') v_taken v_counted) t.heap) (va_A (wdM cI cZ h v_all v_past v_states v_refused v_far v_row v_stepAt v_depth v_tries v_values v_wrong v_isEnd v_found v_reached v_stepIn v_laid v_firstRow v_text v_textLong v_spot v_taken v_counted) sz)) 0 0 (va_A (wdM cI cZ h v_all v_past v_states v_refused v_far v_row v_stepAt v_depth v_tries v_values v_wrong v_isEnd v_found v_reached v_stepIn v_laid v_firstRow v_text v_textLong v_spot v_taken v_counted) sz) := by
  refine kb_metZ (cc := cX9_here) (maxL := 1) (ty := .int) (by decide) rfl (Nat.le_of_ble_eq_true rfl) ?_
  intro p e s m args below meth c Q A ls H hx hb hml hown hts hK hN hP hD hS hA hl hend
  have hown : s.vm.findClass RX9 = some m.cls := hown
  have hl : lv_has ls 1 [(0, .ref (h 0))] := hl
  have hin9 : ∀ w ∈ u_ws RX9 TX9 22, w ∈ wsX9_here := by decide +kernel
  have J38 : ∀ (v_spot : Int32) (H : Heap) (locs : List Loc) (ls : Array Slot), f9_here_b38 v_text v_textLong v_spot = some (r0, v_spot') → va_P D vwCl (wdM cI cZ h v_all v_past v_states v_refused v_far v_row v_stepAt v_depth v_tries v_values v_wrong v_isEnd v_found v_reached v_stepIn v_laid v_firstRow v_text v_textLong v_spot v_taken v_counted) H → va_D A (wdM cI cZ h v_all v_past v_states v_refused v_far v_row v_stepAt v_depth v_tries v_values v_wrong v_isEnd v_found v_reached v_stepIn v_laid v_firstRow v_text v_textLong v_spot v_taken v_counted) → va_S A s.heap H locs → lv_has ls 1 [(0, .ref (h 0))] → W p l e rm9_here s m args below meth c H locs 0 0 Q (F0 m 38 ls []) := by
    intro v_spot H locs ls hf hP hD hS hl
    rw [f9_here_b38] at hf
    refine lv_aload_n hx hb dX9_here_38 rfl (lv_at hl 0 rfl) ?_
    refine va_get (D := D) (cl := vwCl) (ci := 6) (v := .int v_spot) (C := RX9) (T := TX9) (N := 22) hx hb hts hin9 hown hK hP 0 rfl rfl 19 (by decide) (hts (.fieldLink RX9 196 "StepOrdersModel" "spot" "I") (by decide +kernel)) (fun _ h9 => h9) rfl dX9_here_39 ?_
    refine lv_aload_n hx hb dX9_here_42 rfl (lv_at hl 0 rfl) ?_
    refine va_get (D := D) (cl := vwCl) (ci := 6) (v := .int v_textLong) (C := RX9) (T := TX9) (N := 22) hx hb hts hin9 hown hK hP 0 rfl rfl 18 (by decide) (hts (.fieldLink RX9 193 "StepOrdersModel" "textLong" "I") (by decide +kernel)) (fun _ h9 => h9) rfl dX9_here_43 ?_
    refine lv_icmp_ge (tgt := 61) hx hb dX9_here_46 (by decide) (fun c3 => ?_) (fun c3 => ?_)
    · rw [if_pos c3] at hf
      refine lv_iconst (v := (-1)) hx hb dX9_here_61 (by decide) ?_
      cases hf
      exact hend _ _ _ _ rfl hP hS dX9_here_62
    · rw [if_neg c3] at hf
      refine lv_aload_n hx hb dX9_here_49 rfl (lv_at hl 0 rfl) ?_
      refine va_get (D := D) (cl := vwCl) (ci := 6) (v := .ref (h 15)) (C := RX9) (T := TX9) (N := 22) hx hb hts hin9 hown hK hP 0 rfl rfl 17 (by decide) (hts (.fieldLink RX9 53 "StepOrdersModel" "text" "[I") (by decide +kernel)) (fun _ h9 => h9) rfl dX9_here_50 ?_
      refine lv_aload_n hx hb dX9_here_53 rfl (lv_at hl 0 rfl) ?_
      refine va_get (D := D) (cl := vwCl) (ci := 6) (v := .int v_spot) (C := RX9) (T := TX9) (N := 22) hx hb hts hin9 hown hK hP 0 rfl rfl 19 (by decide) (hts (.fieldLink RX9 196 "StepOrdersModel" "spot" "I") (by decide +kernel)) (fun _ h9 => h9) rfl dX9_here_54 ?_
      refine kb_bind hf (fun v4 hv4 hf => ?_)
      refine ka_iald (D := D) (cl := vwCl) hx hb hK hP 15 1 (f := v_text) rfl rfl (ard_in hv4) (ard_v hv4) dX9_here_57 ?_
      refine lv_goto (tgt := 62) hx hb dX9_here_58 (by decide) ?_
      cases hf
      exact hend _ _ _ _ rfl hP hS dX9_here_62
  have J0 : ∀ (n : Nat) (v_spot : Int32) (H : Heap) (locs : List Loc) (ls : Array Slot), f9_here_l0 n v_text v_textLong v_spot = some (r0, v_spot') → va_P D vwCl (wdM cI cZ h v_all v_past v_states v_refused v_far v_row v_stepAt v_depth v_tries v_values v_wrong v_isEnd v_found v_reached v_stepIn v_laid v_firstRow v_text v_textLong v_spot v_taken v_counted) H → va_D A (wdM cI cZ h v_all v_past v_states v_refused v_far v_row v_stepAt v_depth v_tries v_values v_wrong v_isEnd v_found v_reached v_stepIn v_laid v_firstRow v_text v_textLong v_spot v_taken v_counted) → va_S A s.heap H locs → lv_has ls 1 [(0, .ref (h 0))] → W p l e rm9_here s m args below meth c H locs 0 0 Q (F0 m 0 ls []) := by
    intro n
    induction n with
    | zero =>
      intro v_spot H locs ls hf
      cases (show (none : Option (Int32 × Int32)) = some (r0, v_spot') from hf)
    | succ n ih =>
      intro v_spot H locs ls hf hP hD hS hl
      rw [f9_here_l0_s] at hf
      refine lv_aload_n hx hb dX9_here_0 rfl (lv_at hl 0 rfl) ?_
      refine va_get (D := D) (cl := vwCl) (ci := 6) (v := .int v_spot) (C := RX9) (T := TX9) (N := 22) hx hb hts hin9 hown hK hP 0 rfl rfl 19 (by decide) (hts (.fieldLink RX9 196 "StepOrdersModel" "spot" "I") (by decide +kernel)) (fun _ h9 => h9) rfl dX9_here_1 ?_
      refine lv_aload_n hx hb dX9_here_4 rfl (lv_at hl 0 rfl) ?_
      refine va_get (D := D) (cl := vwCl) (ci := 6) (v := .int v_textLong) (C := RX9) (T := TX9) (N := 22) hx hb hts hin9 hown hK hP 0 rfl rfl 18 (by decide) (hts (.fieldLink RX9 193 "StepOrdersModel" "textLong" "I") (by decide +kernel)) (fun _ h9 => h9) rfl dX9_here_5 ?_
      refine lv_icmp_ge (tgt := 38) hx hb dX9_here_8 (by decide) (fun c8 => ?_) (fun c8 => ?_)
      · rw [if_pos c8] at hf
        exact J38 v_spot _ _ _ hf hP hD hS (lv_sub hl [0] rfl)
      · rw [if_neg c8] at hf
        refine lv_aload_n hx hb dX9_here_11 rfl (lv_at hl 0 rfl) ?_
        refine va_get (D := D) (cl := vwCl) (ci := 6) (v := .ref (h 15)) (C := RX9) (T := TX9) (N := 22) hx hb hts hin9 hown hK hP 0 rfl rfl 17 (by decide) (hts (.fieldLink RX9 53 "StepOrdersModel" "text" "[I") (by decide +kernel)) (fun _ h9 => h9) rfl dX9_here_12 ?_
        refine lv_aload_n hx hb dX9_here_15 rfl (lv_at hl 0 rfl) ?_
        refine va_get (D := D) (cl := vwCl) (ci := 6) (v := .int v_spot) (C := RX9) (T := TX9) (N := 22) hx hb hts hin9 hown hK hP 0 rfl rfl 19 (by decide) (hts (.fieldLink RX9 196 "StepOrdersModel" "spot" "I") (by decide +kernel)) (fun _ h9 => h9) rfl dX9_here_16 ?_
        refine kb_bind hf (fun v9 hv9 hf => ?_)
        refine ka_iald (D := D) (cl := vwCl) hx hb hK hP 15 1 (f := v_text) rfl rfl (ard_in hv9) (ard_v hv9) dX9_here_19 ?_
        refine lv_bipush (v := 32) hx hb dX9_here_20 (by decide) ?_
        refine lv_icmp_ne (tgt := 38) hx hb dX9_here_22 (by decide) (fun c10 => ?_) (fun c10 => ?_)
        · rw [if_neg c10] at hf
          exact J38 v_spot _ _ _ hf hP hD hS (lv_sub hl [0] rfl)
        · rw [if_pos c10] at hf
          refine lv_aload_n hx hb dX9_here_25 rfl (lv_at hl 0 rfl) ?_
          refine lv_dup hx hb dX9_here_26 rfl ?_
          refine va_get (D := D) (cl := vwCl) (ci := 6) (v := .int v_spot) (C := RX9) (T := TX9) (N := 22) hx hb hts hin9 hown hK hP 0 rfl rfl 19 (by decide) (hts (.fieldLink RX9 196 "StepOrdersModel" "spot" "I") (by decide +kernel)) (fun _ h9 => h9) rfl dX9_here_27 ?_
          refine lv_iconst (v := 1) hx hb dX9_here_30 (by decide) ?_
          refine lv_iadd hx hb dX9_here_31 ?_
          refine va_put (D := D) (cl := vwCl) (ci := 6) (v := .int (v_spot + (1 : Int32))) (ty := .int) (C := RX9) (T := TX9) (N := 22) hx hb hts hin9 tyX9 tyX9_ok nmX9 hown hK hP hD hS 0 rfl rfl 19 (by decide) (hts (.fieldLink RX9 196 "StepOrdersModel" "spot" "I") (by decide +kernel)) (fun _ h9 => h9) rfl (tyX9_ok 19 (by decide)) rfl rfl (Nat.le_of_ble_eq_true rfl) dX9_here_32 (fun H locs hP hD hS => ?_)
          have hP : va_P D vwCl (wdM cI cZ h v_all v_past v_states v_refused v_far v_row v_stepAt v_depth v_tries v_values v_wrong v_isEnd v_found v_reached v_stepIn v_laid v_firstRow v_text v_textLong (v_spot + (1 : Int32)) v_taken v_counted) H := hP
          have hD : va_D A (wdM cI cZ h v_all v_past v_states v_refused v_far v_row v_stepAt v_depth v_tries v_values v_wrong v_isEnd v_found v_reached v_stepIn v_laid v_firstRow v_text v_textLong (v_spot + (1 : Int32)) v_taken v_counted) := hD
          refine lv_goto (tgt := 0) hx hb dX9_here_35 (by decide) ?_
          exact ih (v_spot + (1 : Int32)) _ _ _ hf hP hD hS (lv_sub hl [0] rfl)
  rw [f9_here] at hf
  exact J0 kFUEL v_spot _ _ _ hf hP hD hS (lv_sub hl [0] rfl)

set_option maxHeartbeats 4000000 in
set_option maxRecDepth 100000 in
theorem c9_takes (l : Launch) (D : va_G) (cB cI cZ cO : ClassId) (h : Nat → Nat) (sz : Nat) (x1 : Int32) (x2 : Int32) (v_all : Nat → Int32) (v_past : Nat → Int32) (v_states : Int32) (v_refused : Nat → Int32) (v_far : Nat → Int32) (v_row : Nat → Int32) (v_stepAt : Nat → Int32) (v_depth : Int32) (v_tries : Nat → Int32) (v_values : Nat → Int32) (v_wrong : Int32) (v_isEnd : Nat → Int32) (v_found : Nat → Int32) (v_reached : Nat → Int32) (v_stepIn : Nat → Int32) (v_laid : Nat → Int32) (v_firstRow : Nat → Int32) (v_text : Nat → Int32) (v_textLong : Int32) (v_spot : Int32) (v_taken : Int32) (v_counted : Nat → Int32) (r0 : Int32) (v_spot' : Int32) (v_taken' : Int32) (hf : f9_takes v_text v_textLong v_spot v_taken x1 x2 = some (r0, v_spot', v_taken')) : Met l yX9_takes wsX9_takes rm9_takes (va_Pc [.ref (h 0), .int x1, .int x2] (kb_B D (ka_tys cB cI cZ cO) sz (wdM cI cZ h v_all v_past v_states v_refused v_far v_row v_stepAt v_depth v_tries v_values v_wrong v_isEnd v_found v_reached v_stepIn v_laid v_firstRow v_text v_textLong v_spot v_taken v_counted))) (va_Qi (kb_post .boolean r0) (fun _ t => va_P D vwCl (wdM cI cZ h v_all v_past v_states v_refused v_far v_row v_stepAt v_depth v_tries v_values v_wrong v_isEnd v_found v_reached v_stepIn v_laid v_firstRow v_text v_textLong (v_spot') (v_taken') v_counted) t.heap) (va_A (wdM cI cZ h v_all v_past v_states v_refused v_far v_row v_stepAt v_depth v_tries v_values v_wrong v_isEnd v_found v_reached v_stepIn v_laid v_firstRow v_text v_textLong v_spot v_taken v_counted) sz)) 0 0 (va_A (wdM cI cZ h v_all v_past v_states v_refused v_far v_row v_stepAt v_depth v_tries v_values v_wrong v_isEnd v_found v_reached v_stepIn v_laid v_firstRow v_text v_textLong v_spot v_taken v_counted) sz) := by
  refine kb_metZ (cc := cX9_takes) (maxL := 4) (ty := .boolean) (by decide) rfl (Nat.le_of_ble_eq_true rfl) ?_
  intro p e s m args below meth c Q A ls H hx hb hml hown hts hK hN hP hD hS hA hl hend
  have hown : s.vm.findClass RX9 = some m.cls := hown
  have hl : lv_has ls 4 [(0, .ref (h 0)), (1, .int x1), (2, .int x2)] := hl
  have hin9 : ∀ w ∈ u_ws RX9 TX9 22, w ∈ wsX9_takes := by decide +kernel
  rw [f9_takes] at hf
  refine lv_aload_n hx hb dX9_takes_0 rfl (lv_at hl 0 rfl) ?_
  refine kb_bind hf (fun q1 hq1 hf => ?_)
  have hPc : va_P D vwCl (wdM cI cZ h v_all v_past v_states v_refused v_far v_row v_stepAt v_depth v_tries v_values v_wrong v_isEnd v_found v_reached v_stepIn v_laid v_firstRow v_text v_textLong v_spot v_taken v_counted) H := hP.sub [0, 1, 2, 3, 4, 5, 6, 7, 8, 9, 10, 11, 12, 13, 14, 15, 16] rfl
  have hDc : va_D A (wdM cI cZ h v_all v_past v_states v_refused v_far v_row v_stepAt v_depth v_tries v_values v_wrong v_isEnd v_found v_reached v_stepIn v_laid v_firstRow v_text v_textLong v_spot v_taken v_counted) := hD.sub [0, 1, 2, 3, 4, 5, 6, 7, 8, 9, 10, 11, 12, 13, 14, 15, 16] (by decide) rfl
  refine kd_iW (ws' := wdM cI cZ h v_all v_past v_states v_refused v_far v_row v_stepAt v_depth v_tries v_values v_wrong v_isEnd v_found v_reached v_stepIn v_laid v_firstRow v_text v_textLong q1.2 v_taken v_counted) (va_runV (As := []) (rest := []) ⟨hx, hb, hml, hown, hts⟩ (c9_here l D cB cI cZ cO h H.size v_all v_past v_states v_refused v_far v_row v_stepAt v_depth v_tries v_values v_wrong v_isEnd v_found v_reached v_stepIn v_laid v_firstRow v_text v_textLong v_spot v_taken v_counted q1.1 q1.2 hq1) (cwV 0 hts gX9_takes_X9_here rfl rfl rfl (by decide +kernel) ⟨Nat.le_of_ble_eq_true rfl, Nat.le_of_ble_eq_true rfl⟩) ⟨kb_blind, va_recv hK hPc (ci := 6) (q0 := 0) rfl rfl, kb_pre hPc hDc hK hN⟩ rfl rfl hl.1 rfl (lv_room (Nat.le_of_ble_eq_true rfl)) dX9_takes_1 ⟨Nat.le_refl _, Nat.le_refl _⟩) hP hD hS hA [0, 1, 2, 3, 4, 5, 6, 7, 8, 9, 10, 11, 12, 13, 14, 15, 16] [] rfl rfl rfl rfl rfl (fun H locs hn2 hP hD hS => ?_)
  refine lv_istore_n (lv' := [(3, .int q1.1), (0, .ref (h 0)), (1, .int x1), (2, .int x2)]) hx hb dX9_takes_4 rfl hl (by decide) rfl (fun ls hl => ?_)
  refine lv_iload_n hx hb dX9_takes_5 rfl (lv_at hl 0 rfl) ?_
  refine lv_i2l (v := q1.1.toInt64) hx hb dX9_takes_6 rfl ?_
  refine lv_iload_n hx hb dX9_takes_7 rfl (lv_at hl 2 rfl) ?_
  refine lv_i2l (v := x1.toInt64) hx hb dX9_takes_8 rfl ?_
  refine lv_iload_n hx hb dX9_takes_9 rfl (lv_at hl 3 rfl) ?_
  refine lv_i2l (v := x2.toInt64) hx hb dX9_takes_10 rfl ?_
  have hPc : va_P D vwCl ([]) H := hP.sub [] rfl
  have hDc : va_D A ([]) := hD.sub [] (by decide) rfl
  refine kd_iR (va_runS (As := [.long q1.1.toInt64, .long x1.toInt64, .long x2.toInt64]) (rest := []) ⟨hx, hb, hml, hown, hts⟩ (c9_in l D cB cI cZ cO h H.size q1.1.toInt64 x1.toInt64 x2.toInt64 (f9_in q1.1.toInt64 x1.toInt64 x2.toInt64) rfl) (va_cwS 3 hts gX9_takes_X9_in rfl rfl rfl (by decide +kernel) ⟨Nat.le_of_ble_eq_true rfl, Nat.le_of_ble_eq_true rfl⟩) ⟨kb_blind, kb_pre hPc hDc hK hN⟩ rfl rfl hl.1 rfl (lv_room (Nat.le_of_ble_eq_true rfl)) dX9_takes_11 ⟨Nat.le_refl _, Nat.le_refl _⟩) hP hD hS hA [] rfl (fun H locs hn3 hP hS => ?_)
  refine lv_if_ne (tgt := 19) hx hb dX9_takes_14 (by decide) (fun c4 => ?_) (fun c4 => ?_)
  · rw [if_neg c4] at hf
    refine lv_aload_n hx hb dX9_takes_19 rfl (lv_at hl 1 rfl) ?_
    refine lv_iload_n hx hb dX9_takes_20 rfl (lv_at hl 0 rfl) ?_
    refine lv_iload_n hx hb dX9_takes_21 rfl (lv_at hl 2 rfl) ?_
    refine lv_isub hx hb dX9_takes_22 ?_
    refine va_put (D := D) (cl := vwCl) (ci := 6) (v := .int (q1.1 - x1)) (ty := .int) (C := RX9) (T := TX9) (N := 22) hx hb hts hin9 tyX9 tyX9_ok nmX9 hown hK hP hD hS 0 rfl rfl 20 (by decide) (hts (.fieldLink RX9 202 "StepOrdersModel" "taken" "I") (by decide +kernel)) (fun _ h9 => h9) rfl (tyX9_ok 20 (by decide)) rfl rfl (Nat.le_of_ble_eq_true rfl) dX9_takes_23 (fun H locs hP hD hS => ?_)
    have hP : va_P D vwCl (wdM cI cZ h v_all v_past v_states v_refused v_far v_row v_stepAt v_depth v_tries v_values v_wrong v_isEnd v_found v_reached v_stepIn v_laid v_firstRow v_text v_textLong q1.2 (q1.1 - x1) v_counted) H := hP
    have hD : va_D A (wdM cI cZ h v_all v_past v_states v_refused v_far v_row v_stepAt v_depth v_tries v_values v_wrong v_isEnd v_found v_reached v_stepIn v_laid v_firstRow v_text v_textLong q1.2 (q1.1 - x1) v_counted) := hD
    refine lv_aload_n hx hb dX9_takes_26 rfl (lv_at hl 1 rfl) ?_
    refine lv_dup hx hb dX9_takes_27 rfl ?_
    refine va_get (D := D) (cl := vwCl) (ci := 6) (v := .int q1.2) (C := RX9) (T := TX9) (N := 22) hx hb hts hin9 hown hK hP 0 rfl rfl 19 (by decide) (hts (.fieldLink RX9 196 "StepOrdersModel" "spot" "I") (by decide +kernel)) (fun _ h9 => h9) rfl dX9_takes_28 ?_
    refine lv_iconst (v := 1) hx hb dX9_takes_31 (by decide) ?_
    refine lv_iadd hx hb dX9_takes_32 ?_
    refine va_put (D := D) (cl := vwCl) (ci := 6) (v := .int (q1.2 + (1 : Int32))) (ty := .int) (C := RX9) (T := TX9) (N := 22) hx hb hts hin9 tyX9 tyX9_ok nmX9 hown hK hP hD hS 0 rfl rfl 19 (by decide) (hts (.fieldLink RX9 196 "StepOrdersModel" "spot" "I") (by decide +kernel)) (fun _ h9 => h9) rfl (tyX9_ok 19 (by decide)) rfl rfl (Nat.le_of_ble_eq_true rfl) dX9_takes_33 (fun H locs hP hD hS => ?_)
    have hP : va_P D vwCl (wdM cI cZ h v_all v_past v_states v_refused v_far v_row v_stepAt v_depth v_tries v_values v_wrong v_isEnd v_found v_reached v_stepIn v_laid v_firstRow v_text v_textLong (q1.2 + (1 : Int32)) (q1.1 - x1) v_counted) H := hP
    have hD : va_D A (wdM cI cZ h v_all v_past v_states v_refused v_far v_row v_stepAt v_depth v_tries v_values v_wrong v_isEnd v_found v_reached v_stepIn v_laid v_firstRow v_text v_textLong (q1.2 + (1 : Int32)) (q1.1 - x1) v_counted) := hD
    refine lv_iconst (v := 1) hx hb dX9_takes_36 (by decide) ?_
    cases hf
    exact hend _ _ _ _ rfl hP hS dX9_takes_37
  · rw [if_pos c4] at hf
    refine lv_iconst (v := 0) hx hb dX9_takes_17 (by decide) ?_
    cases hf
    exact hend _ _ _ _ rfl hP hS dX9_takes_18

set_option maxHeartbeats 4000000 in
set_option maxRecDepth 100000 in
theorem c9_takesStep (l : Launch) (D : va_G) (cB cI cZ cO : ClassId) (h : Nat → Nat) (sz : Nat) (x1 : Int32) (v_all : Nat → Int32) (v_past : Nat → Int32) (v_states : Int32) (v_refused : Nat → Int32) (v_far : Nat → Int32) (v_row : Nat → Int32) (v_stepAt : Nat → Int32) (v_depth : Int32) (v_tries : Nat → Int32) (v_values : Nat → Int32) (v_wrong : Int32) (v_isEnd : Nat → Int32) (v_found : Nat → Int32) (v_reached : Nat → Int32) (v_stepIn : Nat → Int32) (v_laid : Nat → Int32) (v_firstRow : Nat → Int32) (v_text : Nat → Int32) (v_textLong : Int32) (v_spot : Int32) (v_taken : Int32) (v_counted : Nat → Int32) (r0 : Int32) (v_all' : Nat → Int32) (v_spot' : Int32) (v_taken' : Int32) (v_counted' : Nat → Int32) (hf : f9_takesStep v_all v_text v_textLong v_spot v_taken v_counted x1 = some (r0, v_all', v_spot', v_taken', v_counted')) : Met l yX9_takesStep wsX9_takesStep rm9_takesStep (va_Pc [.ref (h 0), .int x1] (kb_B D (ka_tys cB cI cZ cO) sz (wdM cI cZ h v_all v_past v_states v_refused v_far v_row v_stepAt v_depth v_tries v_values v_wrong v_isEnd v_found v_reached v_stepIn v_laid v_firstRow v_text v_textLong v_spot v_taken v_counted))) (va_Qi (kb_post .boolean r0) (fun _ t => va_P D vwCl (wdM cI cZ h (v_all') v_past v_states v_refused v_far v_row v_stepAt v_depth v_tries v_values v_wrong v_isEnd v_found v_reached v_stepIn v_laid v_firstRow v_text v_textLong (v_spot') (v_taken') (v_counted')) t.heap) (va_A (wdM cI cZ h v_all v_past v_states v_refused v_far v_row v_stepAt v_depth v_tries v_values v_wrong v_isEnd v_found v_reached v_stepIn v_laid v_firstRow v_text v_textLong v_spot v_taken v_counted) sz)) 0 0 (va_A (wdM cI cZ h v_all v_past v_states v_refused v_far v_row v_stepAt v_depth v_tries v_values v_wrong v_isEnd v_found v_reached v_stepIn v_laid v_firstRow v_text v_textLong v_spot v_taken v_counted) sz) := by
  refine kb_metZ (cc := cX9_takesStep) (maxL := 9) (ty := .boolean) (by decide) rfl (Nat.le_of_ble_eq_true rfl) ?_
  intro p e s m args below meth c Q A ls H hx hb hml hown hts hK hN hP hD hS hA hl hend
  have hown : s.vm.findClass RX9 = some m.cls := hown
  have hl : lv_has ls 9 [(0, .ref (h 0)), (1, .int x1)] := hl
  have hin9 : ∀ w ∈ u_ws RX9 TX9 22, w ∈ wsX9_takesStep := by decide +kernel
  have J229 : ∀ (v_all : Nat → Int32) (v_spot : Int32) (v_taken : Int32) (v_counted : Nat → Int32) (x1 : Int32) (x3 : Int32) (x5 : Int32) (x7 : Int32) (H : Heap) (locs : List Loc) (ls : Array Slot), f9_takesStep_b229 v_all v_text v_textLong v_spot v_taken v_counted x1 x3 x5 x7 = some (r0, v_all', v_spot', v_taken', v_counted') → va_P D vwCl (wdM cI cZ h v_all v_past v_states v_refused v_far v_row v_stepAt v_depth v_tries v_values v_wrong v_isEnd v_found v_reached v_stepIn v_laid v_firstRow v_text v_textLong v_spot v_taken v_counted) H → va_D A (wdM cI cZ h v_all v_past v_states v_refused v_far v_row v_stepAt v_depth v_tries v_values v_wrong v_isEnd v_found v_reached v_stepIn v_laid v_firstRow v_text v_textLong v_spot v_taken v_counted) → va_S A s.heap H locs → lv_has ls 9 [(0, .ref (h 0)), (1, .int x1), (3, .int x3), (5, .int x5), (7, .int x7)] → W p l e rm9_takesStep s m args below meth c H locs 0 0 Q (F0 m 229 ls []) := by
    intro v_all v_spot v_taken v_counted x1 x3 x5 x7 H locs ls hf hP hD hS hl
    rw [f9_takesStep_b229] at hf
    refine lv_aload_n hx hb dX9_takesStep_229 rfl (lv_at hl 0 rfl) ?_
    refine va_get (D := D) (cl := vwCl) (ci := 6) (v := .int v_taken) (C := RX9) (T := TX9) (N := 22) hx hb hts hin9 hown hK hP 0 rfl rfl 20 (by decide) (hts (.fieldLink RX9 202 "StepOrdersModel" "taken" "I") (by decide +kernel)) (fun _ h9 => h9) rfl dX9_takesStep_230 ?_
    refine lv_istore (lv' := [(8, .int v_taken), (0, .ref (h 0)), (1, .int x1), (3, .int x3), (5, .int x5), (7, .int x7)]) hx hb dX9_takesStep_233 hl (by decide) rfl (fun ls hl => ?_)
    refine lv_aload_n hx hb dX9_takesStep_235 rfl (lv_at hl 1 rfl) ?_
    refine kb_bind hf (fun q8 hq8 hf => ?_)
    have hPc : va_P D vwCl (wdM cI cZ h v_all v_past v_states v_refused v_far v_row v_stepAt v_depth v_tries v_values v_wrong v_isEnd v_found v_reached v_stepIn v_laid v_firstRow v_text v_textLong v_spot v_taken v_counted) H := hP.sub [0, 1, 2, 3, 4, 5, 6, 7, 8, 9, 10, 11, 12, 13, 14, 15, 16] rfl
    have hDc : va_D A (wdM cI cZ h v_all v_past v_states v_refused v_far v_row v_stepAt v_depth v_tries v_values v_wrong v_isEnd v_found v_reached v_stepIn v_laid v_firstRow v_text v_textLong v_spot v_taken v_counted) := hD.sub [0, 1, 2, 3, 4, 5, 6, 7, 8, 9, 10, 11, 12, 13, 14, 15, 16] (by decide) rfl
    refine kd_iW (ws' := wdM cI cZ h v_all v_past v_states v_refused v_far v_row v_stepAt v_depth v_tries v_values v_wrong v_isEnd v_found v_reached v_stepIn v_laid v_firstRow v_text v_textLong q8.2 v_taken v_counted) (va_runV (As := []) (rest := []) ⟨hx, hb, hml, hown, hts⟩ (c9_here l D cB cI cZ cO h H.size v_all v_past v_states v_refused v_far v_row v_stepAt v_depth v_tries v_values v_wrong v_isEnd v_found v_reached v_stepIn v_laid v_firstRow v_text v_textLong v_spot v_taken v_counted q8.1 q8.2 hq8) (cwV 0 hts gX9_takesStep_X9_here rfl rfl rfl (by decide +kernel) ⟨Nat.le_of_ble_eq_true rfl, Nat.le_of_ble_eq_true rfl⟩) ⟨kb_blind, va_recv hK hPc (ci := 6) (q0 := 0) rfl rfl, kb_pre hPc hDc hK hN⟩ rfl rfl hl.1 rfl (lv_room (Nat.le_of_ble_eq_true rfl)) dX9_takesStep_236 ⟨Nat.le_refl _, Nat.le_refl _⟩) hP hD hS hA [0, 1, 2, 3, 4, 5, 6, 7, 8, 9, 10, 11, 12, 13, 14, 15, 16] [] rfl rfl rfl rfl rfl (fun H locs hn9 hP hD hS => ?_)
    refine lv_bipush (v := 59) hx hb dX9_takesStep_239 (by decide) ?_
    refine lv_icmp_eq (tgt := 246) hx hb dX9_takesStep_241 (by decide) (fun c10 => ?_) (fun c10 => ?_)
    · rw [if_pos c10] at hf
      refine lv_aload_n hx hb dX9_takesStep_246 rfl (lv_at hl 1 rfl) ?_
      refine lv_dup hx hb dX9_takesStep_247 rfl ?_
      refine va_get (D := D) (cl := vwCl) (ci := 6) (v := .int q8.2) (C := RX9) (T := TX9) (N := 22) hx hb hts hin9 hown hK hP 0 rfl rfl 19 (by decide) (hts (.fieldLink RX9 196 "StepOrdersModel" "spot" "I") (by decide +kernel)) (fun _ h9 => h9) rfl dX9_takesStep_248 ?_
      refine lv_iconst (v := 1) hx hb dX9_takesStep_251 (by decide) ?_
      refine lv_iadd hx hb dX9_takesStep_252 ?_
      refine va_put (D := D) (cl := vwCl) (ci := 6) (v := .int (q8.2 + (1 : Int32))) (ty := .int) (C := RX9) (T := TX9) (N := 22) hx hb hts hin9 tyX9 tyX9_ok nmX9 hown hK hP hD hS 0 rfl rfl 19 (by decide) (hts (.fieldLink RX9 196 "StepOrdersModel" "spot" "I") (by decide +kernel)) (fun _ h9 => h9) rfl (tyX9_ok 19 (by decide)) rfl rfl (Nat.le_of_ble_eq_true rfl) dX9_takesStep_253 (fun H locs hP hD hS => ?_)
      have hP : va_P D vwCl (wdM cI cZ h v_all v_past v_states v_refused v_far v_row v_stepAt v_depth v_tries v_values v_wrong v_isEnd v_found v_reached v_stepIn v_laid v_firstRow v_text v_textLong (q8.2 + (1 : Int32)) v_taken v_counted) H := hP
      have hD : va_D A (wdM cI cZ h v_all v_past v_states v_refused v_far v_row v_stepAt v_depth v_tries v_values v_wrong v_isEnd v_found v_reached v_stepIn v_laid v_firstRow v_text v_textLong (q8.2 + (1 : Int32)) v_taken v_counted) := hD
      refine lv_aload_n hx hb dX9_takesStep_256 rfl (lv_at hl 1 rfl) ?_
      refine va_get (D := D) (cl := vwCl) (ci := 6) (v := .ref (h 16)) (C := RX9) (T := TX9) (N := 22) hx hb hts hin9 hown hK hP 0 rfl rfl 21 (by decide) (hts (.fieldLink RX9 56 "StepOrdersModel" "counted" "[I") (by decide +kernel)) (fun _ h9 => h9) rfl dX9_takesStep_257 ?_
      refine lv_iload_n hx hb dX9_takesStep_260 rfl (lv_at hl 3 rfl) ?_
      refine lv_dup2_11 hx hb dX9_takesStep_261 rfl rfl ?_
      refine kb_bind hf (fun v11 hv11 hf => ?_)
      refine ka_iald (D := D) (cl := vwCl) hx hb hK hP 16 1 (f := v_counted) rfl rfl (ard_in hv11) (ard_v hv11) dX9_takesStep_262 ?_
      refine lv_iconst (v := 1) hx hb dX9_takesStep_263 (by decide) ?_
      refine lv_iadd hx hb dX9_takesStep_264 ?_
      refine kb_bind hf (fun v12 hv12 hf => ?_)
      refine ka_iast (D := D) (cl := vwCl) hx hb hK hP hD hS 16 1 (f := v_counted) (g := v12) rfl rfl (awr_in hv12) (awr_v hv12) dX9_takesStep_265 (fun H locs hP hD hS => ?_)
      have hP : va_P D vwCl (wdM cI cZ h v_all v_past v_states v_refused v_far v_row v_stepAt v_depth v_tries v_values v_wrong v_isEnd v_found v_reached v_stepIn v_laid v_firstRow v_text v_textLong (q8.2 + (1 : Int32)) v_taken v12) H := hP
      have hD : va_D A (wdM cI cZ h v_all v_past v_states v_refused v_far v_row v_stepAt v_depth v_tries v_values v_wrong v_isEnd v_found v_reached v_stepIn v_laid v_firstRow v_text v_textLong (q8.2 + (1 : Int32)) v_taken v12) := hD
      refine lv_iload_n hx hb dX9_takesStep_266 rfl (lv_at hl 2 rfl) ?_
      refine lv_if_eq (tgt := 281) hx hb dX9_takesStep_267 (by decide) (fun c13 => ?_) (fun c13 => ?_)
      · rw [if_pos c13] at hf
        refine lv_iconst (v := 1) hx hb dX9_takesStep_281 (by decide) ?_
        cases hf
        exact hend _ _ _ _ rfl hP hS dX9_takesStep_282
      · rw [if_neg c13] at hf
        refine lv_aload_n hx hb dX9_takesStep_270 rfl (lv_at hl 1 rfl) ?_
        refine lv_iload_n hx hb dX9_takesStep_271 rfl (lv_at hl 3 rfl) ?_
        refine lv_iload hx hb dX9_takesStep_272 (lv_at hl 4 rfl) ?_
        refine lv_iload hx hb dX9_takesStep_274 (lv_at hl 5 rfl) ?_
        refine lv_iload hx hb dX9_takesStep_276 (lv_at hl 0 rfl) ?_
        refine kb_bind hf (fun q14 hq14 hf => ?_)
        have hPc : va_P D vwCl (wdM cI cZ h v_all v_past v_states v_refused v_far v_row v_stepAt v_depth v_tries v_values v_wrong v_isEnd v_found v_reached v_stepIn v_laid v_firstRow v_text v_textLong (q8.2 + (1 : Int32)) v_taken v12) H := hP.sub [0, 1, 2, 3, 4, 5, 6, 7, 8, 9, 10, 11, 12, 13, 14, 15, 16] rfl
        have hDc : va_D A (wdM cI cZ h v_all v_past v_states v_refused v_far v_row v_stepAt v_depth v_tries v_values v_wrong v_isEnd v_found v_reached v_stepIn v_laid v_firstRow v_text v_textLong (q8.2 + (1 : Int32)) v_taken v12) := hD.sub [0, 1, 2, 3, 4, 5, 6, 7, 8, 9, 10, 11, 12, 13, 14, 15, 16] (by decide) rfl
        refine kd_vW (ws' := wdM cI cZ h q14 v_past v_states v_refused v_far v_row v_stepAt v_depth v_tries v_values v_wrong v_isEnd v_found v_reached v_stepIn v_laid v_firstRow v_text v_textLong (q8.2 + (1 : Int32)) v_taken v12) (va_runV (As := [.int x3, .int x5, .int x7, .int v_taken]) (rest := []) ⟨hx, hb, hml, hown, hts⟩ (c9_lays l D cB cI cZ cO h H.size x3 x5 x7 v_taken v_all v_past v_states v_refused v_far v_row v_stepAt v_depth v_tries v_values v_wrong v_isEnd v_found v_reached v_stepIn v_laid v_firstRow v_text v_textLong (q8.2 + (1 : Int32)) v_taken v12 q14 hq14) (cwV 4 hts gX9_takesStep_X9_lays rfl rfl rfl (by decide +kernel) ⟨Nat.le_of_ble_eq_true rfl, Nat.le_of_ble_eq_true rfl⟩) ⟨kb_blind, va_recv hK hPc (ci := 6) (q0 := 0) rfl rfl, kb_pre hPc hDc hK hN⟩ rfl rfl hl.1 rfl (lv_room (Nat.le_of_ble_eq_true rfl)) dX9_takesStep_278 ⟨Nat.le_refl _, Nat.le_refl _⟩) hP hD hS hA [0, 1, 2, 3, 4, 5, 6, 7, 8, 9, 10, 11, 12, 13, 14, 15, 16] [] rfl rfl rfl rfl rfl (fun H locs hP hD hS => ?_)
        refine lv_iconst (v := 1) hx hb dX9_takesStep_281 (by decide) ?_
        cases hf
        exact hend _ _ _ _ rfl hP hS dX9_takesStep_282
    · rw [if_neg c10] at hf
      refine lv_iconst (v := 0) hx hb dX9_takesStep_244 (by decide) ?_
      cases hf
      exact hend _ _ _ _ rfl hP hS dX9_takesStep_245
  have J221 : ∀ (v_all : Nat → Int32) (v_spot : Int32) (v_taken : Int32) (v_counted : Nat → Int32) (x1 : Int32) (x3 : Int32) (x5 : Int32) (x7 : Int32) (s1 : Int32) (s2 : Int32) (H : Heap) (locs : List Loc) (ls : Array Slot), f9_takesStep_b221 v_all v_text v_textLong v_spot v_taken v_counted x1 x3 x5 x7 s1 s2 = some (r0, v_all', v_spot', v_taken', v_counted') → va_P D vwCl (wdM cI cZ h v_all v_past v_states v_refused v_far v_row v_stepAt v_depth v_tries v_values v_wrong v_isEnd v_found v_reached v_stepIn v_laid v_firstRow v_text v_textLong v_spot v_taken v_counted) H → va_D A (wdM cI cZ h v_all v_past v_states v_refused v_far v_row v_stepAt v_depth v_tries v_values v_wrong v_isEnd v_found v_reached v_stepIn v_laid v_firstRow v_text v_textLong v_spot v_taken v_counted) → va_S A s.heap H locs → lv_has ls 9 [(0, .ref (h 0)), (1, .int x1), (3, .int x3), (5, .int x5), (7, .int x7)] → W p l e rm9_takesStep s m args below meth c H locs 0 0 Q (F0 m 221 ls [.int s2, .int s1, .ref (h 0)]) := by
    intro v_all v_spot v_taken v_counted x1 x3 x5 x7 s1 s2 H locs ls hf hP hD hS hl
    rw [f9_takesStep_b221] at hf
    refine kb_bind hf (fun q18 hq18 hf => ?_)
    have hPc : va_P D vwCl (wdM cI cZ h v_all v_past v_states v_refused v_far v_row v_stepAt v_depth v_tries v_values v_wrong v_isEnd v_found v_reached v_stepIn v_laid v_firstRow v_text v_textLong v_spot v_taken v_counted) H := hP.sub [0, 1, 2, 3, 4, 5, 6, 7, 8, 9, 10, 11, 12, 13, 14, 15, 16] rfl
    have hDc : va_D A (wdM cI cZ h v_all v_past v_states v_refused v_far v_row v_stepAt v_depth v_tries v_values v_wrong v_isEnd v_found v_reached v_stepIn v_laid v_firstRow v_text v_textLong v_spot v_taken v_counted) := hD.sub [0, 1, 2, 3, 4, 5, 6, 7, 8, 9, 10, 11, 12, 13, 14, 15, 16] (by decide) rfl
    refine kd_iW (ws' := wdM cI cZ h v_all v_past v_states v_refused v_far v_row v_stepAt v_depth v_tries v_values v_wrong v_isEnd v_found v_reached v_stepIn v_laid v_firstRow v_text v_textLong q18.2.1 q18.2.2 v_counted) (va_runV (As := [.int s1, .int s2]) (rest := []) ⟨hx, hb, hml, hown, hts⟩ (c9_takes l D cB cI cZ cO h H.size s1 s2 v_all v_past v_states v_refused v_far v_row v_stepAt v_depth v_tries v_values v_wrong v_isEnd v_found v_reached v_stepIn v_laid v_firstRow v_text v_textLong v_spot v_taken v_counted q18.1 q18.2.1 q18.2.2 hq18) (cwV 2 hts gX9_takesStep_X9_takes rfl rfl rfl (by decide +kernel) ⟨Nat.le_of_ble_eq_true rfl, Nat.le_of_ble_eq_true rfl⟩) ⟨kb_blind, va_recv hK hPc (ci := 6) (q0 := 0) rfl rfl, kb_pre hPc hDc hK hN⟩ rfl rfl hl.1 rfl (lv_room (Nat.le_of_ble_eq_true rfl)) dX9_takesStep_221 ⟨Nat.le_refl _, Nat.le_refl _⟩) hP hD hS hA [0, 1, 2, 3, 4, 5, 6, 7, 8, 9, 10, 11, 12, 13, 14, 15, 16] [] rfl rfl rfl rfl rfl (fun H locs hn19 hP hD hS => ?_)
    refine lv_if_ne (tgt := 229) hx hb dX9_takesStep_224 (by decide) (fun c20 => ?_) (fun c20 => ?_)
    · rw [if_neg c20] at hf
      exact J229 v_all q18.2.1 q18.2.2 v_counted x1 x3 x5 x7 _ _ _ hf hP hD hS (lv_sub hl [0, 1, 2, 3, 4] rfl)
    · rw [if_pos c20] at hf
      refine lv_iconst (v := 0) hx hb dX9_takesStep_227 (by decide) ?_
      cases hf
      exact hend _ _ _ _ rfl hP hS dX9_takesStep_228
  have J208 : ∀ (v_all : Nat → Int32) (v_spot : Int32) (v_taken : Int32) (v_counted : Nat → Int32) (x1 : Int32) (x3 : Int32) (x5 : Int32) (x7 : Int32) (s1 : Int32) (H : Heap) (locs : List Loc) (ls : Array Slot), f9_takesStep_b208 v_all v_text v_textLong v_spot v_taken v_counted x1 x3 x5 x7 s1 = some (r0, v_all', v_spot', v_taken', v_counted') → va_P D vwCl (wdM cI cZ h v_all v_past v_states v_refused v_far v_row v_stepAt v_depth v_tries v_values v_wrong v_isEnd v_found v_reached v_stepIn v_laid v_firstRow v_text v_textLong v_spot v_taken v_counted) H → va_D A (wdM cI cZ h v_all v_past v_states v_refused v_far v_row v_stepAt v_depth v_tries v_values v_wrong v_isEnd v_found v_reached v_stepIn v_laid v_firstRow v_text v_textLong v_spot v_taken v_counted) → va_S A s.heap H locs → lv_has ls 9 [(0, .ref (h 0)), (1, .int x1), (3, .int x3), (5, .int x5), (7, .int x7)] → W p l e rm9_takesStep s m args below meth c H locs 0 0 Q (F0 m 208 ls [.int s1, .ref (h 0)]) := by
    intro v_all v_spot v_taken v_counted x1 x3 x5 x7 s1 H locs ls hf hP hD hS hl
    rw [f9_takesStep_b208] at hf
    refine lv_iload hx hb dX9_takesStep_208 (lv_at hl 3 rfl) ?_
    refine lv_iconst (v := 2) hx hb dX9_takesStep_210 (by decide) ?_
    refine lv_icmp_ne (tgt := 219) hx hb dX9_takesStep_211 (by decide) (fun c22 => ?_) (fun c22 => ?_)
    · rw [if_neg c22] at hf
      refine lv_bipush (v := 57) hx hb dX9_takesStep_219 (by decide) ?_
      exact J221 v_all v_spot v_taken v_counted x1 x3 x5 x7 s1 (57 : Int32) _ _ _ hf hP hD hS (lv_sub hl [0, 1, 2, 3, 4] rfl)
    · rw [if_pos c22] at hf
      refine lv_bipush (v := 100) hx hb dX9_takesStep_214 (by decide) ?_
      refine lv_goto (tgt := 221) hx hb dX9_takesStep_216 (by decide) ?_
      exact J221 v_all v_spot v_taken v_counted x1 x3 x5 x7 s1 (100 : Int32) _ _ _ hf hP hD hS (lv_sub hl [0, 1, 2, 3, 4] rfl)
  have J170 : ∀ (v_all : Nat → Int32) (v_spot : Int32) (v_taken : Int32) (v_counted : Nat → Int32) (x1 : Int32) (x3 : Int32) (x5 : Int32) (x6 : Int32) (s1 : Int32) (s2 : Int32) (H : Heap) (locs : List Loc) (ls : Array Slot), f9_takesStep_b170 v_all v_text v_textLong v_spot v_taken v_counted x1 x3 x5 x6 s1 s2 = some (r0, v_all', v_spot', v_taken', v_counted') → va_P D vwCl (wdM cI cZ h v_all v_past v_states v_refused v_far v_row v_stepAt v_depth v_tries v_values v_wrong v_isEnd v_found v_reached v_stepIn v_laid v_firstRow v_text v_textLong v_spot v_taken v_counted) H → va_D A (wdM cI cZ h v_all v_past v_states v_refused v_far v_row v_stepAt v_depth v_tries v_values v_wrong v_isEnd v_found v_reached v_stepIn v_laid v_firstRow v_text v_textLong v_spot v_taken v_counted) → va_S A s.heap H locs → lv_has ls 9 [(0, .ref (h 0)), (1, .int x1), (3, .int x3), (5, .int x5), (6, .int x6)] → W p l e rm9_takesStep s m args below meth c H locs 0 0 Q (F0 m 170 ls [.int s2, .int s1, .ref (h 0)]) := by
    intro v_all v_spot v_taken v_counted x1 x3 x5 x6 s1 s2 H locs ls hf hP hD hS hl
    rw [f9_takesStep_b170] at hf
    refine kb_bind hf (fun q28 hq28 hf => ?_)
    have hPc : va_P D vwCl (wdM cI cZ h v_all v_past v_states v_refused v_far v_row v_stepAt v_depth v_tries v_values v_wrong v_isEnd v_found v_reached v_stepIn v_laid v_firstRow v_text v_textLong v_spot v_taken v_counted) H := hP.sub [0, 1, 2, 3, 4, 5, 6, 7, 8, 9, 10, 11, 12, 13, 14, 15, 16] rfl
    have hDc : va_D A (wdM cI cZ h v_all v_past v_states v_refused v_far v_row v_stepAt v_depth v_tries v_values v_wrong v_isEnd v_found v_reached v_stepIn v_laid v_firstRow v_text v_textLong v_spot v_taken v_counted) := hD.sub [0, 1, 2, 3, 4, 5, 6, 7, 8, 9, 10, 11, 12, 13, 14, 15, 16] (by decide) rfl
    refine kd_iW (ws' := wdM cI cZ h v_all v_past v_states v_refused v_far v_row v_stepAt v_depth v_tries v_values v_wrong v_isEnd v_found v_reached v_stepIn v_laid v_firstRow v_text v_textLong q28.2.1 q28.2.2 v_counted) (va_runV (As := [.int s1, .int s2]) (rest := []) ⟨hx, hb, hml, hown, hts⟩ (c9_takes l D cB cI cZ cO h H.size s1 s2 v_all v_past v_states v_refused v_far v_row v_stepAt v_depth v_tries v_values v_wrong v_isEnd v_found v_reached v_stepIn v_laid v_firstRow v_text v_textLong v_spot v_taken v_counted q28.1 q28.2.1 q28.2.2 hq28) (cwV 2 hts gX9_takesStep_X9_takes rfl rfl rfl (by decide +kernel) ⟨Nat.le_of_ble_eq_true rfl, Nat.le_of_ble_eq_true rfl⟩) ⟨kb_blind, va_recv hK hPc (ci := 6) (q0 := 0) rfl rfl, kb_pre hPc hDc hK hN⟩ rfl rfl hl.1 rfl (lv_room (Nat.le_of_ble_eq_true rfl)) dX9_takesStep_170 ⟨Nat.le_refl _, Nat.le_refl _⟩) hP hD hS hA [0, 1, 2, 3, 4, 5, 6, 7, 8, 9, 10, 11, 12, 13, 14, 15, 16] [] rfl rfl rfl rfl rfl (fun H locs hn29 hP hD hS => ?_)
    refine lv_if_ne (tgt := 178) hx hb dX9_takesStep_173 (by decide) (fun c30 => ?_) (fun c30 => ?_)
    · rw [if_neg c30] at hf
      refine lv_aload_n hx hb dX9_takesStep_178 rfl (lv_at hl 0 rfl) ?_
      refine va_get (D := D) (cl := vwCl) (ci := 6) (v := .int q28.2.2) (C := RX9) (T := TX9) (N := 22) hx hb hts hin9 hown hK hP 0 rfl rfl 20 (by decide) (hts (.fieldLink RX9 202 "StepOrdersModel" "taken" "I") (by decide +kernel)) (fun _ h9 => h9) rfl dX9_takesStep_179 ?_
      refine lv_istore (lv' := [(7, .int q28.2.2), (0, .ref (h 0)), (1, .int x1), (3, .int x3), (5, .int x5), (6, .int x6)]) hx hb dX9_takesStep_182 hl (by decide) rfl (fun ls hl => ?_)
      refine lv_aload_n hx hb dX9_takesStep_184 rfl (lv_at hl 1 rfl) ?_
      refine lv_iconst (v := 0) hx hb dX9_takesStep_185 (by decide) ?_
      refine va_put (D := D) (cl := vwCl) (ci := 6) (v := .int (0 : Int32)) (ty := .int) (C := RX9) (T := TX9) (N := 22) hx hb hts hin9 tyX9 tyX9_ok nmX9 hown hK hP hD hS 0 rfl rfl 20 (by decide) (hts (.fieldLink RX9 202 "StepOrdersModel" "taken" "I") (by decide +kernel)) (fun _ h9 => h9) rfl (tyX9_ok 20 (by decide)) rfl rfl (Nat.le_of_ble_eq_true rfl) dX9_takesStep_186 (fun H locs hP hD hS => ?_)
      have hP : va_P D vwCl (wdM cI cZ h v_all v_past v_states v_refused v_far v_row v_stepAt v_depth v_tries v_values v_wrong v_isEnd v_found v_reached v_stepIn v_laid v_firstRow v_text v_textLong q28.2.1 (0 : Int32) v_counted) H := hP
      have hD : va_D A (wdM cI cZ h v_all v_past v_states v_refused v_far v_row v_stepAt v_depth v_tries v_values v_wrong v_isEnd v_found v_reached v_stepIn v_laid v_firstRow v_text v_textLong q28.2.1 (0 : Int32) v_counted) := hD
      refine lv_iload hx hb dX9_takesStep_189 (lv_at hl 5 rfl) ?_
      refine lv_if_ne (tgt := 229) hx hb dX9_takesStep_191 (by decide) (fun c31 => ?_) (fun c31 => ?_)
      · rw [if_neg c31] at hf
        exact J229 v_all q28.2.1 (0 : Int32) v_counted x1 x3 x5 q28.2.2 _ _ _ hf hP hD hS (lv_sub hl [1, 2, 3, 4, 0] rfl)
      · rw [if_pos c31] at hf
        refine lv_aload_n hx hb dX9_takesStep_194 rfl (lv_at hl 1 rfl) ?_
        refine lv_iload hx hb dX9_takesStep_195 (lv_at hl 4 rfl) ?_
        refine lv_iconst (v := 2) hx hb dX9_takesStep_197 (by decide) ?_
        refine lv_icmp_ne (tgt := 206) hx hb dX9_takesStep_198 (by decide) (fun c32 => ?_) (fun c32 => ?_)
        · rw [if_neg c32] at hf
          refine lv_bipush (v := 48) hx hb dX9_takesStep_206 (by decide) ?_
          exact J208 v_all q28.2.1 (0 : Int32) v_counted x1 x3 x5 q28.2.2 (48 : Int32) _ _ _ hf hP hD hS (lv_sub hl [1, 2, 3, 4, 0] rfl)
        · rw [if_pos c32] at hf
          refine lv_bipush (v := 97) hx hb dX9_takesStep_201 (by decide) ?_
          refine lv_goto (tgt := 208) hx hb dX9_takesStep_203 (by decide) ?_
          exact J208 v_all q28.2.1 (0 : Int32) v_counted x1 x3 x5 q28.2.2 (97 : Int32) _ _ _ hf hP hD hS (lv_sub hl [1, 2, 3, 4, 0] rfl)
    · rw [if_pos c30] at hf
      refine lv_iconst (v := 0) hx hb dX9_takesStep_176 (by decide) ?_
      cases hf
      exact hend _ _ _ _ rfl hP hS dX9_takesStep_177
  have J158 : ∀ (v_all : Nat → Int32) (v_spot : Int32) (v_taken : Int32) (v_counted : Nat → Int32) (x1 : Int32) (x3 : Int32) (x5 : Int32) (x6 : Int32) (s1 : Int32) (H : Heap) (locs : List Loc) (ls : Array Slot), f9_takesStep_b158 v_all v_text v_textLong v_spot v_taken v_counted x1 x3 x5 x6 s1 = some (r0, v_all', v_spot', v_taken', v_counted') → va_P D vwCl (wdM cI cZ h v_all v_past v_states v_refused v_far v_row v_stepAt v_depth v_tries v_values v_wrong v_isEnd v_found v_reached v_stepIn v_laid v_firstRow v_text v_textLong v_spot v_taken v_counted) H → va_D A (wdM cI cZ h v_all v_past v_states v_refused v_far v_row v_stepAt v_depth v_tries v_values v_wrong v_isEnd v_found v_reached v_stepIn v_laid v_firstRow v_text v_textLong v_spot v_taken v_counted) → va_S A s.heap H locs → lv_has ls 9 [(0, .ref (h 0)), (1, .int x1), (3, .int x3), (5, .int x5), (6, .int x6)] → W p l e rm9_takesStep s m args below meth c H locs 0 0 Q (F0 m 158 ls [.int s1, .ref (h 0)]) := by
    intro v_all v_spot v_taken v_counted x1 x3 x5 x6 s1 H locs ls hf hP hD hS hl
    rw [f9_takesStep_b158] at hf
    refine lv_iload hx hb dX9_takesStep_158 (lv_at hl 4 rfl) ?_
    refine lv_if_eq (tgt := 168) hx hb dX9_takesStep_160 (by decide) (fun c34 => ?_) (fun c34 => ?_)
    · rw [if_pos c34] at hf
      refine lv_bipush (v := 100) hx hb dX9_takesStep_168 (by decide) ?_
      exact J170 v_all v_spot v_taken v_counted x1 x3 x5 x6 s1 (100 : Int32) _ _ _ hf hP hD hS (lv_sub hl [0, 1, 2, 3, 4] rfl)
    · rw [if_neg c34] at hf
      refine lv_bipush (v := 49) hx hb dX9_takesStep_163 (by decide) ?_
      refine lv_goto (tgt := 170) hx hb dX9_takesStep_165 (by decide) ?_
      exact J170 v_all v_spot v_taken v_counted x1 x3 x5 x6 s1 (49 : Int32) _ _ _ hf hP hD hS (lv_sub hl [0, 1, 2, 3, 4] rfl)
  have J143 : ∀ (v_all : Nat → Int32) (v_spot : Int32) (v_taken : Int32) (v_counted : Nat → Int32) (x1 : Int32) (x3 : Int32) (x5 : Int32) (s0 : Int32) (H : Heap) (locs : List Loc) (ls : Array Slot), f9_takesStep_b143 v_all v_text v_textLong v_spot v_taken v_counted x1 x3 x5 s0 = some (r0, v_all', v_spot', v_taken', v_counted') → va_P D vwCl (wdM cI cZ h v_all v_past v_states v_refused v_far v_row v_stepAt v_depth v_tries v_values v_wrong v_isEnd v_found v_reached v_stepIn v_laid v_firstRow v_text v_textLong v_spot v_taken v_counted) H → va_D A (wdM cI cZ h v_all v_past v_states v_refused v_far v_row v_stepAt v_depth v_tries v_values v_wrong v_isEnd v_found v_reached v_stepIn v_laid v_firstRow v_text v_textLong v_spot v_taken v_counted) → va_S A s.heap H locs → lv_has ls 9 [(0, .ref (h 0)), (1, .int x1), (3, .int x3), (5, .int x5)] → W p l e rm9_takesStep s m args below meth c H locs 0 0 Q (F0 m 143 ls [.int s0]) := by
    intro v_all v_spot v_taken v_counted x1 x3 x5 s0 H locs ls hf hP hD hS hl
    rw [f9_takesStep_b143] at hf
    refine lv_istore (lv' := [(6, .int s0), (0, .ref (h 0)), (1, .int x1), (3, .int x3), (5, .int x5)]) hx hb dX9_takesStep_143 hl (by decide) rfl (fun ls hl => ?_)
    refine lv_aload_n hx hb dX9_takesStep_145 rfl (lv_at hl 1 rfl) ?_
    refine lv_iload hx hb dX9_takesStep_146 (lv_at hl 0 rfl) ?_
    refine lv_if_eq (tgt := 156) hx hb dX9_takesStep_148 (by decide) (fun c36 => ?_) (fun c36 => ?_)
    · rw [if_pos c36] at hf
      refine lv_bipush (v := 97) hx hb dX9_takesStep_156 (by decide) ?_
      exact J158 v_all v_spot v_taken v_counted x1 x3 x5 s0 (97 : Int32) _ _ _ hf hP hD hS (lv_sub hl [1, 2, 3, 4, 0] rfl)
    · rw [if_neg c36] at hf
      refine lv_bipush (v := 48) hx hb dX9_takesStep_151 (by decide) ?_
      refine lv_goto (tgt := 158) hx hb dX9_takesStep_153 (by decide) ?_
      exact J158 v_all v_spot v_taken v_counted x1 x3 x5 s0 (48 : Int32) _ _ _ hf hP hD hS (lv_sub hl [1, 2, 3, 4, 0] rfl)
  have J112 : ∀ (v_all : Nat → Int32) (v_spot : Int32) (v_taken : Int32) (v_counted : Nat → Int32) (x1 : Int32) (x3 : Int32) (s0 : Int32) (H : Heap) (locs : List Loc) (ls : Array Slot), f9_takesStep_b112 v_all v_text v_textLong v_spot v_taken v_counted x1 x3 s0 = some (r0, v_all', v_spot', v_taken', v_counted') → va_P D vwCl (wdM cI cZ h v_all v_past v_states v_refused v_far v_row v_stepAt v_depth v_tries v_values v_wrong v_isEnd v_found v_reached v_stepIn v_laid v_firstRow v_text v_textLong v_spot v_taken v_counted) H → va_D A (wdM cI cZ h v_all v_past v_states v_refused v_far v_row v_stepAt v_depth v_tries v_values v_wrong v_isEnd v_found v_reached v_stepIn v_laid v_firstRow v_text v_textLong v_spot v_taken v_counted) → va_S A s.heap H locs → lv_has ls 9 [(0, .ref (h 0)), (1, .int x1), (3, .int x3)] → W p l e rm9_takesStep s m args below meth c H locs 0 0 Q (F0 m 112 ls [.int s0]) := by
    intro v_all v_spot v_taken v_counted x1 x3 s0 H locs ls hf hP hD hS hl
    rw [f9_takesStep_b112] at hf
    refine lv_istore (lv' := [(5, .int s0), (0, .ref (h 0)), (1, .int x1), (3, .int x3)]) hx hb dX9_takesStep_112 hl (by decide) rfl (fun ls hl => ?_)
    refine lv_iload hx hb dX9_takesStep_114 (lv_at hl 0 rfl) ?_
    refine lv_iconst (v := (-1)) hx hb dX9_takesStep_116 (by decide) ?_
    refine lv_icmp_ne (tgt := 122) hx hb dX9_takesStep_117 (by decide) (fun c39 => ?_) (fun c39 => ?_)
    · rw [if_neg c39] at hf
      refine lv_aload_n hx hb dX9_takesStep_122 rfl (lv_at hl 1 rfl) ?_
      refine lv_dup hx hb dX9_takesStep_123 rfl ?_
      refine va_get (D := D) (cl := vwCl) (ci := 6) (v := .int v_spot) (C := RX9) (T := TX9) (N := 22) hx hb hts hin9 hown hK hP 0 rfl rfl 19 (by decide) (hts (.fieldLink RX9 196 "StepOrdersModel" "spot" "I") (by decide +kernel)) (fun _ h9 => h9) rfl dX9_takesStep_124 ?_
      refine lv_iconst (v := 1) hx hb dX9_takesStep_127 (by decide) ?_
      refine lv_iadd hx hb dX9_takesStep_128 ?_
      refine va_put (D := D) (cl := vwCl) (ci := 6) (v := .int (v_spot + (1 : Int32))) (ty := .int) (C := RX9) (T := TX9) (N := 22) hx hb hts hin9 tyX9 tyX9_ok nmX9 hown hK hP hD hS 0 rfl rfl 19 (by decide) (hts (.fieldLink RX9 196 "StepOrdersModel" "spot" "I") (by decide +kernel)) (fun _ h9 => h9) rfl (tyX9_ok 19 (by decide)) rfl rfl (Nat.le_of_ble_eq_true rfl) dX9_takesStep_129 (fun H locs hP hD hS => ?_)
      have hP : va_P D vwCl (wdM cI cZ h v_all v_past v_states v_refused v_far v_row v_stepAt v_depth v_tries v_values v_wrong v_isEnd v_found v_reached v_stepIn v_laid v_firstRow v_text v_textLong (v_spot + (1 : Int32)) v_taken v_counted) H := hP
      have hD : va_D A (wdM cI cZ h v_all v_past v_states v_refused v_far v_row v_stepAt v_depth v_tries v_values v_wrong v_isEnd v_found v_reached v_stepIn v_laid v_firstRow v_text v_textLong (v_spot + (1 : Int32)) v_taken v_counted) := hD
      refine lv_iload hx hb dX9_takesStep_132 (lv_at hl 0 rfl) ?_
      refine lv_iconst (v := 4) hx hb dX9_takesStep_134 (by decide) ?_
      refine lv_icmp_lt (tgt := 142) hx hb dX9_takesStep_135 (by decide) (fun c40 => ?_) (fun c40 => ?_)
      · rw [if_pos c40] at hf
        refine lv_iconst (v := 0) hx hb dX9_takesStep_142 (by decide) ?_
        exact J143 v_all (v_spot + (1 : Int32)) v_taken v_counted x1 x3 s0 (0 : Int32) _ _ _ hf hP hD hS (lv_sub hl [1, 2, 3, 0] rfl)
      · rw [if_neg c40] at hf
        refine lv_iconst (v := 1) hx hb dX9_takesStep_138 (by decide) ?_
        refine lv_goto (tgt := 143) hx hb dX9_takesStep_139 (by decide) ?_
        exact J143 v_all (v_spot + (1 : Int32)) v_taken v_counted x1 x3 s0 (1 : Int32) _ _ _ hf hP hD hS (lv_sub hl [1, 2, 3, 0] rfl)
    · rw [if_pos c39] at hf
      refine lv_iconst (v := 0) hx hb dX9_takesStep_120 (by decide) ?_
      cases hf
      exact hend _ _ _ _ rfl hP hS dX9_takesStep_121
  rw [f9_takesStep] at hf
  refine lv_aload_n hx hb dX9_takesStep_0 rfl (lv_at hl 0 rfl) ?_
  refine kb_bind hf (fun q41 hq41 hf => ?_)
  have hPc : va_P D vwCl (wdM cI cZ h v_all v_past v_states v_refused v_far v_row v_stepAt v_depth v_tries v_values v_wrong v_isEnd v_found v_reached v_stepIn v_laid v_firstRow v_text v_textLong v_spot v_taken v_counted) H := hP.sub [0, 1, 2, 3, 4, 5, 6, 7, 8, 9, 10, 11, 12, 13, 14, 15, 16] rfl
  have hDc : va_D A (wdM cI cZ h v_all v_past v_states v_refused v_far v_row v_stepAt v_depth v_tries v_values v_wrong v_isEnd v_found v_reached v_stepIn v_laid v_firstRow v_text v_textLong v_spot v_taken v_counted) := hD.sub [0, 1, 2, 3, 4, 5, 6, 7, 8, 9, 10, 11, 12, 13, 14, 15, 16] (by decide) rfl
  refine kd_iW (ws' := wdM cI cZ h v_all v_past v_states v_refused v_far v_row v_stepAt v_depth v_tries v_values v_wrong v_isEnd v_found v_reached v_stepIn v_laid v_firstRow v_text v_textLong q41.2 v_taken v_counted) (va_runV (As := []) (rest := []) ⟨hx, hb, hml, hown, hts⟩ (c9_here l D cB cI cZ cO h H.size v_all v_past v_states v_refused v_far v_row v_stepAt v_depth v_tries v_values v_wrong v_isEnd v_found v_reached v_stepIn v_laid v_firstRow v_text v_textLong v_spot v_taken v_counted q41.1 q41.2 hq41) (cwV 0 hts gX9_takesStep_X9_here rfl rfl rfl (by decide +kernel) ⟨Nat.le_of_ble_eq_true rfl, Nat.le_of_ble_eq_true rfl⟩) ⟨kb_blind, va_recv hK hPc (ci := 6) (q0 := 0) rfl rfl, kb_pre hPc hDc hK hN⟩ rfl rfl hl.1 rfl (lv_room (Nat.le_of_ble_eq_true rfl)) dX9_takesStep_1 ⟨Nat.le_refl _, Nat.le_refl _⟩) hP hD hS hA [0, 1, 2, 3, 4, 5, 6, 7, 8, 9, 10, 11, 12, 13, 14, 15, 16] [] rfl rfl rfl rfl rfl (fun H locs hn42 hP hD hS => ?_)
  refine lv_istore_n (lv' := [(2, .int q41.1), (0, .ref (h 0)), (1, .int x1)]) hx hb dX9_takesStep_4 rfl hl (by decide) rfl (fun ls hl => ?_)
  refine lv_iload_n hx hb dX9_takesStep_5 rfl (lv_at hl 0 rfl) ?_
  refine lv_bipush (v := 48) hx hb dX9_takesStep_6 (by decide) ?_
  refine lv_isub hx hb dX9_takesStep_8 ?_
  refine lv_istore_n (lv' := [(3, .int (q41.1 - (48 : Int32))), (2, .int q41.1), (0, .ref (h 0)), (1, .int x1)]) hx hb dX9_takesStep_9 rfl hl (by decide) rfl (fun ls hl => ?_)
  refine lv_iload_n hx hb dX9_takesStep_10 rfl (lv_at hl 0 rfl) ?_
  have hPc : va_P D vwCl ([]) H := hP.sub [] rfl
  have hDc : va_D A ([]) := hD.sub [] (by decide) rfl
  refine kd_iR (va_runS (As := [.int (q41.1 - (48 : Int32))]) (rest := []) ⟨hx, hb, hml, hown, hts⟩ (c9_isThread l D cB cI cZ cO h H.size (q41.1 - (48 : Int32)) (f9_isThread (q41.1 - (48 : Int32))) rfl) (va_cwS 1 hts gX9_takesStep_X9_isThread rfl rfl rfl (by decide +kernel) ⟨Nat.le_of_ble_eq_true rfl, Nat.le_of_ble_eq_true rfl⟩) ⟨kb_blind, kb_pre hPc hDc hK hN⟩ rfl rfl hl.1 rfl (lv_room (Nat.le_of_ble_eq_true rfl)) dX9_takesStep_11 ⟨Nat.le_refl _, Nat.le_refl _⟩) hP hD hS hA [] rfl (fun H locs hn43 hP hS => ?_)
  refine lv_if_eq (tgt := 27) hx hb dX9_takesStep_14 (by decide) (fun c44 => ?_) (fun c44 => ?_)
  · rw [if_pos c44] at hf
    refine lv_iconst (v := 0) hx hb dX9_takesStep_27 (by decide) ?_
    cases hf
    exact hend _ _ _ _ rfl hP hS dX9_takesStep_28
  · rw [if_neg c44] at hf
    refine lv_aload_n hx hb dX9_takesStep_17 rfl (lv_at hl 2 rfl) ?_
    refine va_get (D := D) (cl := vwCl) (ci := 6) (v := .ref (h 16)) (C := RX9) (T := TX9) (N := 22) hx hb hts hin9 hown hK hP 0 rfl rfl 21 (by decide) (hts (.fieldLink RX9 56 "StepOrdersModel" "counted" "[I") (by decide +kernel)) (fun _ h9 => h9) rfl dX9_takesStep_18 ?_
    refine lv_iload_n hx hb dX9_takesStep_21 rfl (lv_at hl 0 rfl) ?_
    refine kb_bind hf (fun v45 hv45 hf => ?_)
    refine ka_iald (D := D) (cl := vwCl) hx hb hK hP 16 1 (f := v_counted) rfl rfl (ard_in hv45) (ard_v hv45) dX9_takesStep_22 ?_
    refine lv_iconst (v := 4) hx hb dX9_takesStep_23 (by decide) ?_
    refine lv_icmp_ne (tgt := 29) hx hb dX9_takesStep_24 (by decide) (fun c46 => ?_) (fun c46 => ?_)
    · rw [if_neg c46] at hf
      refine lv_aload_n hx hb dX9_takesStep_29 rfl (lv_at hl 2 rfl) ?_
      refine lv_dup hx hb dX9_takesStep_30 rfl ?_
      refine va_get (D := D) (cl := vwCl) (ci := 6) (v := .int q41.2) (C := RX9) (T := TX9) (N := 22) hx hb hts hin9 hown hK hP 0 rfl rfl 19 (by decide) (hts (.fieldLink RX9 196 "StepOrdersModel" "spot" "I") (by decide +kernel)) (fun _ h9 => h9) rfl dX9_takesStep_31 ?_
      refine lv_iconst (v := 1) hx hb dX9_takesStep_34 (by decide) ?_
      refine lv_iadd hx hb dX9_takesStep_35 ?_
      refine va_put (D := D) (cl := vwCl) (ci := 6) (v := .int (q41.2 + (1 : Int32))) (ty := .int) (C := RX9) (T := TX9) (N := 22) hx hb hts hin9 tyX9 tyX9_ok nmX9 hown hK hP hD hS 0 rfl rfl 19 (by decide) (hts (.fieldLink RX9 196 "StepOrdersModel" "spot" "I") (by decide +kernel)) (fun _ h9 => h9) rfl (tyX9_ok 19 (by decide)) rfl rfl (Nat.le_of_ble_eq_true rfl) dX9_takesStep_36 (fun H locs hP hD hS => ?_)
      have hP : va_P D vwCl (wdM cI cZ h v_all v_past v_states v_refused v_far v_row v_stepAt v_depth v_tries v_values v_wrong v_isEnd v_found v_reached v_stepIn v_laid v_firstRow v_text v_textLong (q41.2 + (1 : Int32)) v_taken v_counted) H := hP
      have hD : va_D A (wdM cI cZ h v_all v_past v_states v_refused v_far v_row v_stepAt v_depth v_tries v_values v_wrong v_isEnd v_found v_reached v_stepIn v_laid v_firstRow v_text v_textLong (q41.2 + (1 : Int32)) v_taken v_counted) := hD
      refine lv_aload_n hx hb dX9_takesStep_39 rfl (lv_at hl 2 rfl) ?_
      refine kb_bind hf (fun q47 hq47 hf => ?_)
      have hPc : va_P D vwCl (wdM cI cZ h v_all v_past v_states v_refused v_far v_row v_stepAt v_depth v_tries v_values v_wrong v_isEnd v_found v_reached v_stepIn v_laid v_firstRow v_text v_textLong (q41.2 + (1 : Int32)) v_taken v_counted) H := hP.sub [0, 1, 2, 3, 4, 5, 6, 7, 8, 9, 10, 11, 12, 13, 14, 15, 16] rfl
      have hDc : va_D A (wdM cI cZ h v_all v_past v_states v_refused v_far v_row v_stepAt v_depth v_tries v_values v_wrong v_isEnd v_found v_reached v_stepIn v_laid v_firstRow v_text v_textLong (q41.2 + (1 : Int32)) v_taken v_counted) := hD.sub [0, 1, 2, 3, 4, 5, 6, 7, 8, 9, 10, 11, 12, 13, 14, 15, 16] (by decide) rfl
      refine kd_iW (ws' := wdM cI cZ h v_all v_past v_states v_refused v_far v_row v_stepAt v_depth v_tries v_values v_wrong v_isEnd v_found v_reached v_stepIn v_laid v_firstRow v_text v_textLong q47.2 v_taken v_counted) (va_runV (As := []) (rest := []) ⟨hx, hb, hml, hown, hts⟩ (c9_here l D cB cI cZ cO h H.size v_all v_past v_states v_refused v_far v_row v_stepAt v_depth v_tries v_values v_wrong v_isEnd v_found v_reached v_stepIn v_laid v_firstRow v_text v_textLong (q41.2 + (1 : Int32)) v_taken v_counted q47.1 q47.2 hq47) (cwV 0 hts gX9_takesStep_X9_here rfl rfl rfl (by decide +kernel) ⟨Nat.le_of_ble_eq_true rfl, Nat.le_of_ble_eq_true rfl⟩) ⟨kb_blind, va_recv hK hPc (ci := 6) (q0 := 0) rfl rfl, kb_pre hPc hDc hK hN⟩ rfl rfl hl.1 rfl (lv_room (Nat.le_of_ble_eq_true rfl)) dX9_takesStep_40 ⟨Nat.le_refl _, Nat.le_refl _⟩) hP hD hS hA [0, 1, 2, 3, 4, 5, 6, 7, 8, 9, 10, 11, 12, 13, 14, 15, 16] [] rfl rfl rfl rfl rfl (fun H locs hn48 hP hD hS => ?_)
      refine lv_istore (lv' := [(4, .int q47.1), (3, .int (q41.1 - (48 : Int32))), (2, .int q41.1), (0, .ref (h 0)), (1, .int x1)]) hx hb dX9_takesStep_43 hl (by decide) rfl (fun ls hl => ?_)
      refine lv_iload hx hb dX9_takesStep_45 (lv_at hl 0 rfl) ?_
      refine lv_bipush (v := 119) hx hb dX9_takesStep_47 (by decide) ?_
      refine lv_icmp_ne (tgt := 56) hx hb dX9_takesStep_49 (by decide) (fun c49 => ?_) (fun c49 => ?_)
      · rw [if_neg c49] at hf
        refine lv_iload hx hb dX9_takesStep_56 (lv_at hl 0 rfl) ?_
        refine lv_bipush (v := 97) hx hb dX9_takesStep_58 (by decide) ?_
        refine lv_icmp_ne (tgt := 67) hx hb dX9_takesStep_60 (by decide) (fun c50 => ?_) (fun c50 => ?_)
        · rw [if_neg c50] at hf
          refine lv_iload hx hb dX9_takesStep_67 (lv_at hl 0 rfl) ?_
          refine lv_bipush (v := 99) hx hb dX9_takesStep_69 (by decide) ?_
          refine lv_icmp_ne (tgt := 78) hx hb dX9_takesStep_71 (by decide) (fun c51 => ?_) (fun c51 => ?_)
          · rw [if_neg c51] at hf
            refine lv_iload hx hb dX9_takesStep_78 (lv_at hl 0 rfl) ?_
            refine lv_bipush (v := 107) hx hb dX9_takesStep_80 (by decide) ?_
            refine lv_icmp_ne (tgt := 89) hx hb dX9_takesStep_82 (by decide) (fun c52 => ?_) (fun c52 => ?_)
            · rw [if_neg c52] at hf
              refine lv_iload hx hb dX9_takesStep_89 (lv_at hl 0 rfl) ?_
              refine lv_bipush (v := 108) hx hb dX9_takesStep_91 (by decide) ?_
              refine lv_icmp_ne (tgt := 100) hx hb dX9_takesStep_93 (by decide) (fun c53 => ?_) (fun c53 => ?_)
              · rw [if_neg c53] at hf
                refine lv_iload hx hb dX9_takesStep_100 (lv_at hl 0 rfl) ?_
                refine lv_bipush (v := 102) hx hb dX9_takesStep_102 (by decide) ?_
                refine lv_icmp_ne (tgt := 111) hx hb dX9_takesStep_104 (by decide) (fun c54 => ?_) (fun c54 => ?_)
                · rw [if_neg c54] at hf
                  refine lv_iconst (v := (-1)) hx hb dX9_takesStep_111 (by decide) ?_
                  exact J112 v_all q47.2 v_taken v_counted x1 (q41.1 - (48 : Int32)) (-1 : Int32) _ _ _ hf hP hD hS (lv_sub hl [3, 4, 1] rfl)
                · rw [if_pos c54] at hf
                  refine lv_iconst (v := 5) hx hb dX9_takesStep_107 (by decide) ?_
                  refine lv_goto (tgt := 112) hx hb dX9_takesStep_108 (by decide) ?_
                  exact J112 v_all q47.2 v_taken v_counted x1 (q41.1 - (48 : Int32)) (5 : Int32) _ _ _ hf hP hD hS (lv_sub hl [3, 4, 1] rfl)
              · rw [if_pos c53] at hf
                refine lv_iconst (v := 4) hx hb dX9_takesStep_96 (by decide) ?_
                refine lv_goto (tgt := 112) hx hb dX9_takesStep_97 (by decide) ?_
                exact J112 v_all q47.2 v_taken v_counted x1 (q41.1 - (48 : Int32)) (4 : Int32) _ _ _ hf hP hD hS (lv_sub hl [3, 4, 1] rfl)
            · rw [if_pos c52] at hf
              refine lv_iconst (v := 3) hx hb dX9_takesStep_85 (by decide) ?_
              refine lv_goto (tgt := 112) hx hb dX9_takesStep_86 (by decide) ?_
              exact J112 v_all q47.2 v_taken v_counted x1 (q41.1 - (48 : Int32)) (3 : Int32) _ _ _ hf hP hD hS (lv_sub hl [3, 4, 1] rfl)
          · rw [if_pos c51] at hf
            refine lv_iconst (v := 2) hx hb dX9_takesStep_74 (by decide) ?_
            refine lv_goto (tgt := 112) hx hb dX9_takesStep_75 (by decide) ?_
            exact J112 v_all q47.2 v_taken v_counted x1 (q41.1 - (48 : Int32)) (2 : Int32) _ _ _ hf hP hD hS (lv_sub hl [3, 4, 1] rfl)
        · rw [if_pos c50] at hf
          refine lv_iconst (v := 1) hx hb dX9_takesStep_63 (by decide) ?_
          refine lv_goto (tgt := 112) hx hb dX9_takesStep_64 (by decide) ?_
          exact J112 v_all q47.2 v_taken v_counted x1 (q41.1 - (48 : Int32)) (1 : Int32) _ _ _ hf hP hD hS (lv_sub hl [3, 4, 1] rfl)
      · rw [if_pos c49] at hf
        refine lv_iconst (v := 0) hx hb dX9_takesStep_52 (by decide) ?_
        refine lv_goto (tgt := 112) hx hb dX9_takesStep_53 (by decide) ?_
        exact J112 v_all q47.2 v_taken v_counted x1 (q41.1 - (48 : Int32)) (0 : Int32) _ _ _ hf hP hD hS (lv_sub hl [3, 4, 1] rfl)
    · rw [if_pos c46] at hf
      refine lv_iconst (v := 0) hx hb dX9_takesStep_27 (by decide) ?_
      cases hf
      exact hend _ _ _ _ rfl hP hS dX9_takesStep_28

set_option maxHeartbeats 4000000 in
set_option maxRecDepth 100000 in
theorem c9_counts (l : Launch) (D : va_G) (cB cI cZ cO : ClassId) (h : Nat → Nat) (sz : Nat) (v_all : Nat → Int32) (v_past : Nat → Int32) (v_states : Int32) (v_refused : Nat → Int32) (v_far : Nat → Int32) (v_row : Nat → Int32) (v_stepAt : Nat → Int32) (v_depth : Int32) (v_tries : Nat → Int32) (v_values : Nat → Int32) (v_wrong : Int32) (v_isEnd : Nat → Int32) (v_found : Nat → Int32) (v_reached : Nat → Int32) (v_stepIn : Nat → Int32) (v_laid : Nat → Int32) (v_firstRow : Nat → Int32) (v_text : Nat → Int32) (v_textLong : Int32) (v_spot : Int32) (v_taken : Int32) (v_counted : Nat → Int32) (v_counted' : Nat → Int32) (hf : f9_counts v_all v_counted = some (v_counted')) : Met l yX9_counts wsX9_counts rm9_counts (va_Pc [.ref (h 0)] (kb_B D (ka_tys cB cI cZ cO) sz (wdM cI cZ h v_all v_past v_states v_refused v_far v_row v_stepAt v_depth v_tries v_values v_wrong v_isEnd v_found v_reached v_stepIn v_laid v_firstRow v_text v_textLong v_spot v_taken v_counted))) (va_Qv (fun (_ : Unit) => True) (fun _ t => va_P D vwCl (wdM cI cZ h v_all v_past v_states v_refused v_far v_row v_stepAt v_depth v_tries v_values v_wrong v_isEnd v_found v_reached v_stepIn v_laid v_firstRow v_text v_textLong v_spot v_taken (v_counted')) t.heap) (va_A (wdM cI cZ h v_all v_past v_states v_refused v_far v_row v_stepAt v_depth v_tries v_values v_wrong v_isEnd v_found v_reached v_stepIn v_laid v_firstRow v_text v_textLong v_spot v_taken v_counted) sz)) 0 0 (va_A (wdM cI cZ h v_all v_past v_states v_refused v_far v_row v_stepAt v_depth v_tries v_values v_wrong v_isEnd v_found v_reached v_stepIn v_laid v_firstRow v_text v_textLong v_spot v_taken v_counted) sz) := by
  refine kb_metV (cc := cX9_counts) (maxL := 2) (by decide) rfl (Nat.le_of_ble_eq_true rfl) ?_
  intro p e s m args below meth c Q A ls H hx hb hml hown hts hK hN hP hD hS hA hl hend
  have hown : s.vm.findClass RX9 = some m.cls := hown
  have hl : lv_has ls 2 [(0, .ref (h 0))] := hl
  have hin9 : ∀ w ∈ u_ws RX9 TX9 22, w ∈ wsX9_counts := by decide +kernel
  have J2 : ∀ (n : Nat) (v_counted : Nat → Int32) (x1 : Int32) (H : Heap) (locs : List Loc) (ls : Array Slot), f9_counts_l2 n v_all v_counted x1 = some (v_counted') → va_P D vwCl (wdM cI cZ h v_all v_past v_states v_refused v_far v_row v_stepAt v_depth v_tries v_values v_wrong v_isEnd v_found v_reached v_stepIn v_laid v_firstRow v_text v_textLong v_spot v_taken v_counted) H → va_D A (wdM cI cZ h v_all v_past v_states v_refused v_far v_row v_stepAt v_depth v_tries v_values v_wrong v_isEnd v_found v_reached v_stepIn v_laid v_firstRow v_text v_textLong v_spot v_taken v_counted) → va_S A s.heap H locs → lv_has ls 2 [(0, .ref (h 0)), (1, .int x1)] → W p l e rm9_counts s m args below meth c H locs 0 0 Q (F0 m 2 ls []) := by
    intro n
    induction n with
    | zero =>
      intro v_counted x1 H locs ls hf
      cases (show (none : Option ((Nat → Int32))) = some (v_counted') from hf)
    | succ n ih =>
      intro v_counted x1 H locs ls hf hP hD hS hl
      rw [f9_counts_l2_s] at hf
      refine lv_iload_n hx hb dX9_counts_2 rfl (lv_at hl 1 rfl) ?_
      refine lv_iconst (v := 3) hx hb dX9_counts_3 (by decide) ?_
      refine lv_icmp_ge (tgt := 24) hx hb dX9_counts_4 (by decide) (fun c5 => ?_) (fun c5 => ?_)
      · rw [if_pos c5] at hf
        cases hf
        exact hend _ _ _ _ hP hS dX9_counts_24
      · rw [if_neg c5] at hf
        refine lv_aload_n hx hb dX9_counts_7 rfl (lv_at hl 0 rfl) ?_
        refine va_get (D := D) (cl := vwCl) (ci := 6) (v := .ref (h 16)) (C := RX9) (T := TX9) (N := 22) hx hb hts hin9 hown hK hP 0 rfl rfl 21 (by decide) (hts (.fieldLink RX9 56 "StepOrdersModel" "counted" "[I") (by decide +kernel)) (fun _ h9 => h9) rfl dX9_counts_8 ?_
        refine lv_iload_n hx hb dX9_counts_11 rfl (lv_at hl 1 rfl) ?_
        refine lv_aload_n hx hb dX9_counts_12 rfl (lv_at hl 0 rfl) ?_
        refine lv_iload_n hx hb dX9_counts_13 rfl (lv_at hl 1 rfl) ?_
        refine kb_bind hf (fun q6 hq6 hf => ?_)
        have hPc : va_P D vwCl (wdM cI cZ h v_all v_past v_states v_refused v_far v_row v_stepAt v_depth v_tries v_values v_wrong v_isEnd v_found v_reached v_stepIn v_laid v_firstRow v_text v_textLong v_spot v_taken v_counted) H := hP.sub [0, 1, 2, 3, 4, 5, 6, 7, 8, 9, 10, 11, 12, 13, 14, 15, 16] rfl
        have hDc : va_D A (wdM cI cZ h v_all v_past v_states v_refused v_far v_row v_stepAt v_depth v_tries v_values v_wrong v_isEnd v_found v_reached v_stepIn v_laid v_firstRow v_text v_textLong v_spot v_taken v_counted) := hD.sub [0, 1, 2, 3, 4, 5, 6, 7, 8, 9, 10, 11, 12, 13, 14, 15, 16] (by decide) rfl
        refine kd_iR (va_runV (As := [.int x1]) (rest := [.int x1, .ref (h 16)]) ⟨hx, hb, hml, hown, hts⟩ (c9_many l D cB cI cZ cO h H.size x1 v_all v_past v_states v_refused v_far v_row v_stepAt v_depth v_tries v_values v_wrong v_isEnd v_found v_reached v_stepIn v_laid v_firstRow v_text v_textLong v_spot v_taken v_counted q6 hq6) (cwV 1 hts gX9_counts_X9_many rfl rfl rfl (by decide +kernel) ⟨Nat.le_of_ble_eq_true rfl, Nat.le_of_ble_eq_true rfl⟩) ⟨kb_blind, va_recv hK hPc (ci := 6) (q0 := 0) rfl rfl, kb_pre hPc hDc hK hN⟩ rfl rfl hl.1 rfl (lv_room (Nat.le_of_ble_eq_true rfl)) dX9_counts_14 ⟨Nat.le_refl _, Nat.le_refl _⟩) hP hD hS hA [0, 1, 2, 3, 4, 5, 6, 7, 8, 9, 10, 11, 12, 13, 14, 15, 16] rfl (fun H locs hn7 hP hS => ?_)
        refine kb_bind hf (fun v8 hv8 hf => ?_)
        refine ka_iast (D := D) (cl := vwCl) hx hb hK hP hD hS 16 1 (f := v_counted) (g := v8) rfl rfl (awr_in hv8) (awr_v hv8) dX9_counts_17 (fun H locs hP hD hS => ?_)
        have hP : va_P D vwCl (wdM cI cZ h v_all v_past v_states v_refused v_far v_row v_stepAt v_depth v_tries v_values v_wrong v_isEnd v_found v_reached v_stepIn v_laid v_firstRow v_text v_textLong v_spot v_taken v8) H := hP
        have hD : va_D A (wdM cI cZ h v_all v_past v_states v_refused v_far v_row v_stepAt v_depth v_tries v_values v_wrong v_isEnd v_found v_reached v_stepIn v_laid v_firstRow v_text v_textLong v_spot v_taken v8) := hD
        refine lv_iinc (v := (x1 + 1)) (lv' := [(1, .int (x1 + 1)), (0, .ref (h 0))]) hx hb dX9_counts_18 hl (k := 1) rfl rfl (by decide) rfl (fun ls hl => ?_)
        refine lv_goto (tgt := 2) hx hb dX9_counts_21 (by decide) ?_
        exact ih v8 (x1 + 1) _ _ _ hf hP hD hS (lv_sub hl [1, 0] rfl)
  rw [f9_counts] at hf
  refine lv_iconst (v := 0) hx hb dX9_counts_0 (by decide) ?_
  refine lv_istore_n (lv' := [(1, .int (0 : Int32)), (0, .ref (h 0))]) hx hb dX9_counts_1 rfl hl (by decide) rfl (fun ls hl => ?_)
  exact J2 kFUEL v_counted (0 : Int32) _ _ _ hf hP hD hS (lv_sub hl [1, 0] rfl)

set_option maxHeartbeats 4000000 in
set_option maxRecDepth 100000 in
theorem c9_reads (l : Launch) (D : va_G) (cB cI cZ cO : ClassId) (h : Nat → Nat) (sz : Nat) (v_all : Nat → Int32) (v_past : Nat → Int32) (v_states : Int32) (v_refused : Nat → Int32) (v_far : Nat → Int32) (v_row : Nat → Int32) (v_stepAt : Nat → Int32) (v_depth : Int32) (v_tries : Nat → Int32) (v_values : Nat → Int32) (v_wrong : Int32) (v_isEnd : Nat → Int32) (v_found : Nat → Int32) (v_reached : Nat → Int32) (v_stepIn : Nat → Int32) (v_laid : Nat → Int32) (v_firstRow : Nat → Int32) (v_text : Nat → Int32) (v_textLong : Int32) (v_spot : Int32) (v_taken : Int32) (v_counted : Nat → Int32) (r0 : Int32) (v_all' : Nat → Int32) (v_past' : Nat → Int32) (v_states' : Int32) (v_spot' : Int32) (v_taken' : Int32) (v_counted' : Nat → Int32) (hf : f9_reads v_all v_past v_states v_text v_textLong v_spot v_taken v_counted = some (r0, v_all', v_past', v_states', v_spot', v_taken', v_counted')) : Met l yX9_reads wsX9_reads rm9_reads (va_Pc [.ref (h 0)] (kb_B D (ka_tys cB cI cZ cO) sz (wdM cI cZ h v_all v_past v_states v_refused v_far v_row v_stepAt v_depth v_tries v_values v_wrong v_isEnd v_found v_reached v_stepIn v_laid v_firstRow v_text v_textLong v_spot v_taken v_counted))) (va_Qi (kb_post .int r0) (fun _ t => va_P D vwCl (wdM cI cZ h (v_all') (v_past') (v_states') v_refused v_far v_row v_stepAt v_depth v_tries v_values v_wrong v_isEnd v_found v_reached v_stepIn v_laid v_firstRow v_text v_textLong (v_spot') (v_taken') (v_counted')) t.heap) (va_A (wdM cI cZ h v_all v_past v_states v_refused v_far v_row v_stepAt v_depth v_tries v_values v_wrong v_isEnd v_found v_reached v_stepIn v_laid v_firstRow v_text v_textLong v_spot v_taken v_counted) sz)) 0 0 (va_A (wdM cI cZ h v_all v_past v_states v_refused v_far v_row v_stepAt v_depth v_tries v_values v_wrong v_isEnd v_found v_reached v_stepIn v_laid v_firstRow v_text v_textLong v_spot v_taken v_counted) sz) := by
  refine kb_metZ (cc := cX9_reads) (maxL := 4) (ty := .int) (by decide) rfl (Nat.le_of_ble_eq_true rfl) ?_
  intro p e s m args below meth c Q A ls H hx hb hml hown hts hK hN hP hD hS hA hl hend
  have hown : s.vm.findClass RX9 = some m.cls := hown
  have hl : lv_has ls 4 [(0, .ref (h 0))] := hl
  have hin9 : ∀ w ∈ u_ws RX9 TX9 22, w ∈ wsX9_reads := by decide +kernel
  have J19 : ∀ (v_all : Nat → Int32) (v_past : Nat → Int32) (v_states : Int32) (v_spot : Int32) (v_taken : Int32) (v_counted : Nat → Int32) (H : Heap) (locs : List Loc) (ls : Array Slot), f9_reads_b19 v_all v_past v_states v_text v_textLong v_spot v_taken v_counted = some (r0, v_all', v_past', v_states', v_spot', v_taken', v_counted') → va_P D vwCl (wdM cI cZ h v_all v_past v_states v_refused v_far v_row v_stepAt v_depth v_tries v_values v_wrong v_isEnd v_found v_reached v_stepIn v_laid v_firstRow v_text v_textLong v_spot v_taken v_counted) H → va_D A (wdM cI cZ h v_all v_past v_states v_refused v_far v_row v_stepAt v_depth v_tries v_values v_wrong v_isEnd v_found v_reached v_stepIn v_laid v_firstRow v_text v_textLong v_spot v_taken v_counted) → va_S A s.heap H locs → lv_has ls 4 [(0, .ref (h 0))] → W p l e rm9_reads s m args below meth c H locs 0 0 Q (F0 m 19 ls []) := by
    intro v_all v_past v_states v_spot v_taken v_counted H locs ls hf hP hD hS hl
    rw [f9_reads_b19] at hf
    refine lv_bipush (v := (-10)) hx hb dX9_reads_19 (by decide) ?_
    refine lv_aload_n hx hb dX9_reads_21 rfl (lv_at hl 0 rfl) ?_
    refine va_get (D := D) (cl := vwCl) (ci := 6) (v := .int v_spot) (C := RX9) (T := TX9) (N := 22) hx hb hts hin9 hown hK hP 0 rfl rfl 19 (by decide) (hts (.fieldLink RX9 196 "StepOrdersModel" "spot" "I") (by decide +kernel)) (fun _ h9 => h9) rfl dX9_reads_22 ?_
    refine lv_isub hx hb dX9_reads_25 ?_
    cases hf
    exact hend _ _ _ _ rfl hP hS dX9_reads_26
  have J70 : ∀ (v_all : Nat → Int32) (v_past : Nat → Int32) (v_states : Int32) (v_spot : Int32) (v_taken : Int32) (v_counted : Nat → Int32) (x1 : Int32) (H : Heap) (locs : List Loc) (ls : Array Slot), f9_reads_b70 v_all v_past v_states v_text v_textLong v_spot v_taken v_counted x1 = some (r0, v_all', v_past', v_states', v_spot', v_taken', v_counted') → va_P D vwCl (wdM cI cZ h v_all v_past v_states v_refused v_far v_row v_stepAt v_depth v_tries v_values v_wrong v_isEnd v_found v_reached v_stepIn v_laid v_firstRow v_text v_textLong v_spot v_taken v_counted) H → va_D A (wdM cI cZ h v_all v_past v_states v_refused v_far v_row v_stepAt v_depth v_tries v_values v_wrong v_isEnd v_found v_reached v_stepIn v_laid v_firstRow v_text v_textLong v_spot v_taken v_counted) → va_S A s.heap H locs → lv_has ls 4 [(1, .int x1)] → W p l e rm9_reads s m args below meth c H locs 0 0 Q (F0 m 70 ls []) := by
    intro v_all v_past v_states v_spot v_taken v_counted x1 H locs ls hf hP hD hS hl
    rw [f9_reads_b70] at hf
    refine lv_iload_n hx hb dX9_reads_70 rfl (lv_at hl 0 rfl) ?_
    cases hf
    exact hend _ _ _ _ rfl hP hS dX9_reads_71
  have J53 : ∀ (n : Nat) (v_all : Nat → Int32) (v_past : Nat → Int32) (v_states : Int32) (v_spot : Int32) (v_taken : Int32) (v_counted : Nat → Int32) (x1 : Int32) (x2 : Int32) (H : Heap) (locs : List Loc) (ls : Array Slot), f9_reads_l53 n v_all v_past v_states v_text v_textLong v_spot v_taken v_counted x1 x2 = some (r0, v_all', v_past', v_states', v_spot', v_taken', v_counted') → va_P D vwCl (wdM cI cZ h v_all v_past v_states v_refused v_far v_row v_stepAt v_depth v_tries v_values v_wrong v_isEnd v_found v_reached v_stepIn v_laid v_firstRow v_text v_textLong v_spot v_taken v_counted) H → va_D A (wdM cI cZ h v_all v_past v_states v_refused v_far v_row v_stepAt v_depth v_tries v_values v_wrong v_isEnd v_found v_reached v_stepIn v_laid v_firstRow v_text v_textLong v_spot v_taken v_counted) → va_S A s.heap H locs → lv_has ls 4 [(0, .ref (h 0)), (1, .int x1), (2, .int x2)] → W p l e rm9_reads s m args below meth c H locs 0 0 Q (F0 m 53 ls []) := by
    intro n
    induction n with
    | zero =>
      intro v_all v_past v_states v_spot v_taken v_counted x1 x2 H locs ls hf
      cases (show (none : Option (Int32 × (Nat → Int32) × (Nat → Int32) × Int32 × Int32 × Int32 × (Nat → Int32))) = some (r0, v_all', v_past', v_states', v_spot', v_taken', v_counted') from hf)
    | succ n ih =>
      intro v_all v_past v_states v_spot v_taken v_counted x1 x2 H locs ls hf hP hD hS hl
      rw [f9_reads_l53_s] at hf
      refine lv_iload_n hx hb dX9_reads_53 rfl (lv_at hl 2 rfl) ?_
      refine lv_iload_n hx hb dX9_reads_54 rfl (lv_at hl 1 rfl) ?_
      refine lv_icmp_ge (tgt := 70) hx hb dX9_reads_55 (by decide) (fun c4 => ?_) (fun c4 => ?_)
      · rw [if_pos c4] at hf
        exact J70 v_all v_past v_states v_spot v_taken v_counted x1 _ _ _ hf hP hD hS (lv_sub hl [1] rfl)
      · rw [if_neg c4] at hf
        refine lv_aload_n hx hb dX9_reads_58 rfl (lv_at hl 0 rfl) ?_
        refine lv_iconst (v := 1) hx hb dX9_reads_59 (by decide) ?_
        refine kb_bind hf (fun q5 hq5 hf => ?_)
        have hPc : va_P D vwCl (wdM cI cZ h v_all v_past v_states v_refused v_far v_row v_stepAt v_depth v_tries v_values v_wrong v_isEnd v_found v_reached v_stepIn v_laid v_firstRow v_text v_textLong v_spot v_taken v_counted) H := hP.sub [0, 1, 2, 3, 4, 5, 6, 7, 8, 9, 10, 11, 12, 13, 14, 15, 16] rfl
        have hDc : va_D A (wdM cI cZ h v_all v_past v_states v_refused v_far v_row v_stepAt v_depth v_tries v_values v_wrong v_isEnd v_found v_reached v_stepIn v_laid v_firstRow v_text v_textLong v_spot v_taken v_counted) := hD.sub [0, 1, 2, 3, 4, 5, 6, 7, 8, 9, 10, 11, 12, 13, 14, 15, 16] (by decide) rfl
        refine kd_iW (ws' := wdM cI cZ h q5.2.1 v_past v_states v_refused v_far v_row v_stepAt v_depth v_tries v_values v_wrong v_isEnd v_found v_reached v_stepIn v_laid v_firstRow v_text v_textLong q5.2.2.1 q5.2.2.2.1 q5.2.2.2.2) (va_runV (As := [.int (1 : Int32)]) (rest := []) ⟨hx, hb, hml, hown, hts⟩ (c9_takesStep l D cB cI cZ cO h H.size (1 : Int32) v_all v_past v_states v_refused v_far v_row v_stepAt v_depth v_tries v_values v_wrong v_isEnd v_found v_reached v_stepIn v_laid v_firstRow v_text v_textLong v_spot v_taken v_counted q5.1 q5.2.1 q5.2.2.1 q5.2.2.2.1 q5.2.2.2.2 hq5) (cwV 1 hts gX9_reads_X9_takesStep rfl rfl rfl (by decide +kernel) ⟨Nat.le_of_ble_eq_true rfl, Nat.le_of_ble_eq_true rfl⟩) ⟨kb_blind, va_recv hK hPc (ci := 6) (q0 := 0) rfl rfl, kb_pre hPc hDc hK hN⟩ rfl rfl hl.1 rfl (lv_room (Nat.le_of_ble_eq_true rfl)) dX9_reads_60 ⟨Nat.le_refl _, Nat.le_refl _⟩) hP hD hS hA [0, 1, 2, 3, 4, 5, 6, 7, 8, 9, 10, 11, 12, 13, 14, 15, 16] [] rfl rfl rfl rfl rfl (fun H locs hn6 hP hD hS => ?_)
        refine lv_istore_n (lv' := [(3, .int q5.1), (0, .ref (h 0)), (1, .int x1), (2, .int x2)]) hx hb dX9_reads_63 rfl hl (by decide) rfl (fun ls hl => ?_)
        refine lv_iinc (v := (x2 + 1)) (lv' := [(2, .int (x2 + 1)), (3, .int q5.1), (0, .ref (h 0)), (1, .int x1)]) hx hb dX9_reads_64 hl (k := 3) rfl rfl (by decide) rfl (fun ls hl => ?_)
        refine lv_goto (tgt := 53) hx hb dX9_reads_67 (by decide) ?_
        exact ih q5.2.1 v_past v_states q5.2.2.1 q5.2.2.2.1 q5.2.2.2.2 x1 (x2 + 1) _ _ _ hf hP hD hS (lv_sub hl [2, 3, 0] rfl)
  have J38 : ∀ (v_all : Nat → Int32) (v_past : Nat → Int32) (v_states : Int32) (v_spot : Int32) (v_taken : Int32) (v_counted : Nat → Int32) (x1 : Int32) (H : Heap) (locs : List Loc) (ls : Array Slot), f9_reads_b38 v_all v_past v_states v_text v_textLong v_spot v_taken v_counted x1 = some (r0, v_all', v_past', v_states', v_spot', v_taken', v_counted') → va_P D vwCl (wdM cI cZ h v_all v_past v_states v_refused v_far v_row v_stepAt v_depth v_tries v_values v_wrong v_isEnd v_found v_reached v_stepIn v_laid v_firstRow v_text v_textLong v_spot v_taken v_counted) H → va_D A (wdM cI cZ h v_all v_past v_states v_refused v_far v_row v_stepAt v_depth v_tries v_values v_wrong v_isEnd v_found v_reached v_stepIn v_laid v_firstRow v_text v_textLong v_spot v_taken v_counted) → va_S A s.heap H locs → lv_has ls 4 [(0, .ref (h 0)), (1, .int x1)] → W p l e rm9_reads s m args below meth c H locs 0 0 Q (F0 m 38 ls []) := by
    intro v_all v_past v_states v_spot v_taken v_counted x1 H locs ls hf hP hD hS hl
    rw [f9_reads_b38] at hf
    refine lv_aload_n hx hb dX9_reads_38 rfl (lv_at hl 0 rfl) ?_
    refine kb_bind hf (fun q9 hq9 hf => ?_)
    have hPc : va_P D vwCl (wdM cI cZ h v_all v_past v_states v_refused v_far v_row v_stepAt v_depth v_tries v_values v_wrong v_isEnd v_found v_reached v_stepIn v_laid v_firstRow v_text v_textLong v_spot v_taken v_counted) H := hP.sub [0, 1, 2, 3, 4, 5, 6, 7, 8, 9, 10, 11, 12, 13, 14, 15, 16] rfl
    have hDc : va_D A (wdM cI cZ h v_all v_past v_states v_refused v_far v_row v_stepAt v_depth v_tries v_values v_wrong v_isEnd v_found v_reached v_stepIn v_laid v_firstRow v_text v_textLong v_spot v_taken v_counted) := hD.sub [0, 1, 2, 3, 4, 5, 6, 7, 8, 9, 10, 11, 12, 13, 14, 15, 16] (by decide) rfl
    refine kd_vW (ws' := wdM cI cZ h v_all q9.1 q9.2 v_refused v_far v_row v_stepAt v_depth v_tries v_values v_wrong v_isEnd v_found v_reached v_stepIn v_laid v_firstRow v_text v_textLong v_spot v_taken v_counted) (va_runV (As := []) (rest := []) ⟨hx, hb, hml, hown, hts⟩ (c9_keep l D cB cI cZ cO h H.size v_all v_past v_states v_refused v_far v_row v_stepAt v_depth v_tries v_values v_wrong v_isEnd v_found v_reached v_stepIn v_laid v_firstRow v_text v_textLong v_spot v_taken v_counted q9.1 q9.2 hq9) (cwV 0 hts gX9_reads_X9_keep rfl rfl rfl (by decide +kernel) ⟨Nat.le_of_ble_eq_true rfl, Nat.le_of_ble_eq_true rfl⟩) ⟨kb_blind, va_recv hK hPc (ci := 6) (q0 := 0) rfl rfl, kb_pre hPc hDc hK hN⟩ rfl rfl hl.1 rfl (lv_room (Nat.le_of_ble_eq_true rfl)) dX9_reads_39 ⟨Nat.le_refl _, Nat.le_refl _⟩) hP hD hS hA [0, 1, 2, 3, 4, 5, 6, 7, 8, 9, 10, 11, 12, 13, 14, 15, 16] [] rfl rfl rfl rfl rfl (fun H locs hP hD hS => ?_)
    refine lv_aload_n hx hb dX9_reads_42 rfl (lv_at hl 0 rfl) ?_
    refine lv_iconst (v := 0) hx hb dX9_reads_43 (by decide) ?_
    refine va_put (D := D) (cl := vwCl) (ci := 6) (v := .int (0 : Int32)) (ty := .int) (C := RX9) (T := TX9) (N := 22) hx hb hts hin9 tyX9 tyX9_ok nmX9 hown hK hP hD hS 0 rfl rfl 19 (by decide) (hts (.fieldLink RX9 196 "StepOrdersModel" "spot" "I") (by decide +kernel)) (fun _ h9 => h9) rfl (tyX9_ok 19 (by decide)) rfl rfl (Nat.le_of_ble_eq_true rfl) dX9_reads_44 (fun H locs hP hD hS => ?_)
    have hP : va_P D vwCl (wdM cI cZ h v_all q9.1 q9.2 v_refused v_far v_row v_stepAt v_depth v_tries v_values v_wrong v_isEnd v_found v_reached v_stepIn v_laid v_firstRow v_text v_textLong (0 : Int32) v_taken v_counted) H := hP
    have hD : va_D A (wdM cI cZ h v_all q9.1 q9.2 v_refused v_far v_row v_stepAt v_depth v_tries v_values v_wrong v_isEnd v_found v_reached v_stepIn v_laid v_firstRow v_text v_textLong (0 : Int32) v_taken v_counted) := hD
    refine lv_aload_n hx hb dX9_reads_47 rfl (lv_at hl 0 rfl) ?_
    refine kb_bind hf (fun q10 hq10 hf => ?_)
    have hPc : va_P D vwCl (wdM cI cZ h v_all q9.1 q9.2 v_refused v_far v_row v_stepAt v_depth v_tries v_values v_wrong v_isEnd v_found v_reached v_stepIn v_laid v_firstRow v_text v_textLong (0 : Int32) v_taken v_counted) H := hP.sub [0, 1, 2, 3, 4, 5, 6, 7, 8, 9, 10, 11, 12, 13, 14, 15, 16] rfl
    have hDc : va_D A (wdM cI cZ h v_all q9.1 q9.2 v_refused v_far v_row v_stepAt v_depth v_tries v_values v_wrong v_isEnd v_found v_reached v_stepIn v_laid v_firstRow v_text v_textLong (0 : Int32) v_taken v_counted) := hD.sub [0, 1, 2, 3, 4, 5, 6, 7, 8, 9, 10, 11, 12, 13, 14, 15, 16] (by decide) rfl
    refine kd_vW (ws' := wdM cI cZ h v_all q9.1 q9.2 v_refused v_far v_row v_stepAt v_depth v_tries v_values v_wrong v_isEnd v_found v_reached v_stepIn v_laid v_firstRow v_text v_textLong (0 : Int32) v_taken q10) (va_runV (As := []) (rest := []) ⟨hx, hb, hml, hown, hts⟩ (c9_counts l D cB cI cZ cO h H.size v_all q9.1 q9.2 v_refused v_far v_row v_stepAt v_depth v_tries v_values v_wrong v_isEnd v_found v_reached v_stepIn v_laid v_firstRow v_text v_textLong (0 : Int32) v_taken v_counted q10 hq10) (cwV 0 hts gX9_reads_X9_counts rfl rfl rfl (by decide +kernel) ⟨Nat.le_of_ble_eq_true rfl, Nat.le_of_ble_eq_true rfl⟩) ⟨kb_blind, va_recv hK hPc (ci := 6) (q0 := 0) rfl rfl, kb_pre hPc hDc hK hN⟩ rfl rfl hl.1 rfl (lv_room (Nat.le_of_ble_eq_true rfl)) dX9_reads_48 ⟨Nat.le_refl _, Nat.le_refl _⟩) hP hD hS hA [0, 1, 2, 3, 4, 5, 6, 7, 8, 9, 10, 11, 12, 13, 14, 15, 16] [] rfl rfl rfl rfl rfl (fun H locs hP hD hS => ?_)
    refine lv_iconst (v := 0) hx hb dX9_reads_51 (by decide) ?_
    refine lv_istore_n (lv' := [(2, .int (0 : Int32)), (0, .ref (h 0)), (1, .int x1)]) hx hb dX9_reads_52 rfl hl (by decide) rfl (fun ls hl => ?_)
    exact J53 kFUEL v_all q9.1 q9.2 (0 : Int32) v_taken q10 x1 (0 : Int32) _ _ _ hf hP hD hS (lv_sub hl [1, 2, 0] rfl)
  have J11 : ∀ (n : Nat) (v_all : Nat → Int32) (v_past : Nat → Int32) (v_states : Int32) (v_spot : Int32) (v_taken : Int32) (v_counted : Nat → Int32) (x1 : Int32) (H : Heap) (locs : List Loc) (ls : Array Slot), f9_reads_l11 n v_all v_past v_states v_text v_textLong v_spot v_taken v_counted x1 = some (r0, v_all', v_past', v_states', v_spot', v_taken', v_counted') → va_P D vwCl (wdM cI cZ h v_all v_past v_states v_refused v_far v_row v_stepAt v_depth v_tries v_values v_wrong v_isEnd v_found v_reached v_stepIn v_laid v_firstRow v_text v_textLong v_spot v_taken v_counted) H → va_D A (wdM cI cZ h v_all v_past v_states v_refused v_far v_row v_stepAt v_depth v_tries v_values v_wrong v_isEnd v_found v_reached v_stepIn v_laid v_firstRow v_text v_textLong v_spot v_taken v_counted) → va_S A s.heap H locs → lv_has ls 4 [(0, .ref (h 0)), (1, .int x1)] → W p l e rm9_reads s m args below meth c H locs 0 0 Q (F0 m 11 ls []) := by
    intro n
    induction n with
    | zero =>
      intro v_all v_past v_states v_spot v_taken v_counted x1 H locs ls hf
      cases (show (none : Option (Int32 × (Nat → Int32) × (Nat → Int32) × Int32 × Int32 × Int32 × (Nat → Int32))) = some (r0, v_all', v_past', v_states', v_spot', v_taken', v_counted') from hf)
    | succ n ih =>
      intro v_all v_past v_states v_spot v_taken v_counted x1 H locs ls hf hP hD hS hl
      rw [f9_reads_l11_s] at hf
      refine lv_aload_n hx hb dX9_reads_11 rfl (lv_at hl 0 rfl) ?_
      refine lv_iconst (v := 0) hx hb dX9_reads_12 (by decide) ?_
      refine kb_bind hf (fun q17 hq17 hf => ?_)
      have hPc : va_P D vwCl (wdM cI cZ h v_all v_past v_states v_refused v_far v_row v_stepAt v_depth v_tries v_values v_wrong v_isEnd v_found v_reached v_stepIn v_laid v_firstRow v_text v_textLong v_spot v_taken v_counted) H := hP.sub [0, 1, 2, 3, 4, 5, 6, 7, 8, 9, 10, 11, 12, 13, 14, 15, 16] rfl
      have hDc : va_D A (wdM cI cZ h v_all v_past v_states v_refused v_far v_row v_stepAt v_depth v_tries v_values v_wrong v_isEnd v_found v_reached v_stepIn v_laid v_firstRow v_text v_textLong v_spot v_taken v_counted) := hD.sub [0, 1, 2, 3, 4, 5, 6, 7, 8, 9, 10, 11, 12, 13, 14, 15, 16] (by decide) rfl
      refine kd_iW (ws' := wdM cI cZ h q17.2.1 v_past v_states v_refused v_far v_row v_stepAt v_depth v_tries v_values v_wrong v_isEnd v_found v_reached v_stepIn v_laid v_firstRow v_text v_textLong q17.2.2.1 q17.2.2.2.1 q17.2.2.2.2) (va_runV (As := [.int (0 : Int32)]) (rest := []) ⟨hx, hb, hml, hown, hts⟩ (c9_takesStep l D cB cI cZ cO h H.size (0 : Int32) v_all v_past v_states v_refused v_far v_row v_stepAt v_depth v_tries v_values v_wrong v_isEnd v_found v_reached v_stepIn v_laid v_firstRow v_text v_textLong v_spot v_taken v_counted q17.1 q17.2.1 q17.2.2.1 q17.2.2.2.1 q17.2.2.2.2 hq17) (cwV 1 hts gX9_reads_X9_takesStep rfl rfl rfl (by decide +kernel) ⟨Nat.le_of_ble_eq_true rfl, Nat.le_of_ble_eq_true rfl⟩) ⟨kb_blind, va_recv hK hPc (ci := 6) (q0 := 0) rfl rfl, kb_pre hPc hDc hK hN⟩ rfl rfl hl.1 rfl (lv_room (Nat.le_of_ble_eq_true rfl)) dX9_reads_13 ⟨Nat.le_refl _, Nat.le_refl _⟩) hP hD hS hA [0, 1, 2, 3, 4, 5, 6, 7, 8, 9, 10, 11, 12, 13, 14, 15, 16] [] rfl rfl rfl rfl rfl (fun H locs hn18 hP hD hS => ?_)
      refine lv_if_ne (tgt := 27) hx hb dX9_reads_16 (by decide) (fun c19 => ?_) (fun c19 => ?_)
      · rw [if_neg c19] at hf
        refine lv_iinc (v := (x1 + 1)) (lv' := [(1, .int (x1 + 1)), (0, .ref (h 0))]) hx hb dX9_reads_27 hl (k := 1) rfl rfl (by decide) rfl (fun ls hl => ?_)
        refine lv_aload_n hx hb dX9_reads_30 rfl (lv_at hl 1 rfl) ?_
        refine kb_bind hf (fun q20 hq20 hf => ?_)
        have hPc : va_P D vwCl (wdM cI cZ h q17.2.1 v_past v_states v_refused v_far v_row v_stepAt v_depth v_tries v_values v_wrong v_isEnd v_found v_reached v_stepIn v_laid v_firstRow v_text v_textLong q17.2.2.1 q17.2.2.2.1 q17.2.2.2.2) H := hP.sub [0, 1, 2, 3, 4, 5, 6, 7, 8, 9, 10, 11, 12, 13, 14, 15, 16] rfl
        have hDc : va_D A (wdM cI cZ h q17.2.1 v_past v_states v_refused v_far v_row v_stepAt v_depth v_tries v_values v_wrong v_isEnd v_found v_reached v_stepIn v_laid v_firstRow v_text v_textLong q17.2.2.1 q17.2.2.2.1 q17.2.2.2.2) := hD.sub [0, 1, 2, 3, 4, 5, 6, 7, 8, 9, 10, 11, 12, 13, 14, 15, 16] (by decide) rfl
        refine kd_iW (ws' := wdM cI cZ h q17.2.1 v_past v_states v_refused v_far v_row v_stepAt v_depth v_tries v_values v_wrong v_isEnd v_found v_reached v_stepIn v_laid v_firstRow v_text v_textLong q20.2 q17.2.2.2.1 q17.2.2.2.2) (va_runV (As := []) (rest := []) ⟨hx, hb, hml, hown, hts⟩ (c9_here l D cB cI cZ cO h H.size q17.2.1 v_past v_states v_refused v_far v_row v_stepAt v_depth v_tries v_values v_wrong v_isEnd v_found v_reached v_stepIn v_laid v_firstRow v_text v_textLong q17.2.2.1 q17.2.2.2.1 q17.2.2.2.2 q20.1 q20.2 hq20) (cwV 0 hts gX9_reads_X9_here rfl rfl rfl (by decide +kernel) ⟨Nat.le_of_ble_eq_true rfl, Nat.le_of_ble_eq_true rfl⟩) ⟨kb_blind, va_recv hK hPc (ci := 6) (q0 := 0) rfl rfl, kb_pre hPc hDc hK hN⟩ rfl rfl hl.1 rfl (lv_room (Nat.le_of_ble_eq_true rfl)) dX9_reads_31 ⟨Nat.le_refl _, Nat.le_refl _⟩) hP hD hS hA [0, 1, 2, 3, 4, 5, 6, 7, 8, 9, 10, 11, 12, 13, 14, 15, 16] [] rfl rfl rfl rfl rfl (fun H locs hn21 hP hD hS => ?_)
        refine lv_iconst (v := (-1)) hx hb dX9_reads_34 (by decide) ?_
        refine lv_icmp_ne (tgt := 11) hx hb dX9_reads_35 (by decide) (fun c22 => ?_) (fun c22 => ?_)
        · rw [if_neg c22] at hf
          exact ih q17.2.1 v_past v_states q20.2 q17.2.2.2.1 q17.2.2.2.2 (x1 + 1) _ _ _ hf hP hD hS (lv_sub hl [1, 0] rfl)
        · rw [if_pos c22] at hf
          exact J38 q17.2.1 v_past v_states q20.2 q17.2.2.2.1 q17.2.2.2.2 (x1 + 1) _ _ _ hf hP hD hS (lv_sub hl [1, 0] rfl)
      · rw [if_pos c19] at hf
        exact J19 q17.2.1 v_past v_states q17.2.2.1 q17.2.2.2.1 q17.2.2.2.2 _ _ _ hf hP hD hS (lv_sub hl [0] rfl)
  rw [f9_reads] at hf
  refine lv_aload_n hx hb dX9_reads_0 rfl (lv_at hl 0 rfl) ?_
  refine lv_iconst (v := 0) hx hb dX9_reads_1 (by decide) ?_
  refine va_put (D := D) (cl := vwCl) (ci := 6) (v := .int (0 : Int32)) (ty := .int) (C := RX9) (T := TX9) (N := 22) hx hb hts hin9 tyX9 tyX9_ok nmX9 hown hK hP hD hS 0 rfl rfl 19 (by decide) (hts (.fieldLink RX9 196 "StepOrdersModel" "spot" "I") (by decide +kernel)) (fun _ h9 => h9) rfl (tyX9_ok 19 (by decide)) rfl rfl (Nat.le_of_ble_eq_true rfl) dX9_reads_2 (fun H locs hP hD hS => ?_)
  have hP : va_P D vwCl (wdM cI cZ h v_all v_past v_states v_refused v_far v_row v_stepAt v_depth v_tries v_values v_wrong v_isEnd v_found v_reached v_stepIn v_laid v_firstRow v_text v_textLong (0 : Int32) v_taken v_counted) H := hP
  have hD : va_D A (wdM cI cZ h v_all v_past v_states v_refused v_far v_row v_stepAt v_depth v_tries v_values v_wrong v_isEnd v_found v_reached v_stepIn v_laid v_firstRow v_text v_textLong (0 : Int32) v_taken v_counted) := hD
  refine lv_aload_n hx hb dX9_reads_5 rfl (lv_at hl 0 rfl) ?_
  refine kb_bind hf (fun q23 hq23 hf => ?_)
  have hPc : va_P D vwCl (wdM cI cZ h v_all v_past v_states v_refused v_far v_row v_stepAt v_depth v_tries v_values v_wrong v_isEnd v_found v_reached v_stepIn v_laid v_firstRow v_text v_textLong (0 : Int32) v_taken v_counted) H := hP.sub [0, 1, 2, 3, 4, 5, 6, 7, 8, 9, 10, 11, 12, 13, 14, 15, 16] rfl
  have hDc : va_D A (wdM cI cZ h v_all v_past v_states v_refused v_far v_row v_stepAt v_depth v_tries v_values v_wrong v_isEnd v_found v_reached v_stepIn v_laid v_firstRow v_text v_textLong (0 : Int32) v_taken v_counted) := hD.sub [0, 1, 2, 3, 4, 5, 6, 7, 8, 9, 10, 11, 12, 13, 14, 15, 16] (by decide) rfl
  refine kd_vW (ws' := wdM cI cZ h v_all v_past v_states v_refused v_far v_row v_stepAt v_depth v_tries v_values v_wrong v_isEnd v_found v_reached v_stepIn v_laid v_firstRow v_text v_textLong (0 : Int32) v_taken q23) (va_runV (As := []) (rest := []) ⟨hx, hb, hml, hown, hts⟩ (c9_counts l D cB cI cZ cO h H.size v_all v_past v_states v_refused v_far v_row v_stepAt v_depth v_tries v_values v_wrong v_isEnd v_found v_reached v_stepIn v_laid v_firstRow v_text v_textLong (0 : Int32) v_taken v_counted q23 hq23) (cwV 0 hts gX9_reads_X9_counts rfl rfl rfl (by decide +kernel) ⟨Nat.le_of_ble_eq_true rfl, Nat.le_of_ble_eq_true rfl⟩) ⟨kb_blind, va_recv hK hPc (ci := 6) (q0 := 0) rfl rfl, kb_pre hPc hDc hK hN⟩ rfl rfl hl.1 rfl (lv_room (Nat.le_of_ble_eq_true rfl)) dX9_reads_6 ⟨Nat.le_refl _, Nat.le_refl _⟩) hP hD hS hA [0, 1, 2, 3, 4, 5, 6, 7, 8, 9, 10, 11, 12, 13, 14, 15, 16] [] rfl rfl rfl rfl rfl (fun H locs hP hD hS => ?_)
  refine lv_iconst (v := 0) hx hb dX9_reads_9 (by decide) ?_
  refine lv_istore_n (lv' := [(1, .int (0 : Int32)), (0, .ref (h 0))]) hx hb dX9_reads_10 rfl hl (by decide) rfl (fun ls hl => ?_)
  exact J11 kFUEL v_all v_past v_states (0 : Int32) v_taken q23 (0 : Int32) _ _ _ hf hP hD hS (lv_sub hl [1, 0] rfl)

set_option maxHeartbeats 4000000 in
set_option maxRecDepth 100000 in
theorem c9_back (l : Launch) (D : va_G) (cB cI cZ cO : ClassId) (h : Nat → Nat) (sz : Nat) (v_all : Nat → Int32) (v_past : Nat → Int32) (v_states : Int32) (v_refused : Nat → Int32) (v_far : Nat → Int32) (v_row : Nat → Int32) (v_stepAt : Nat → Int32) (v_depth : Int32) (v_tries : Nat → Int32) (v_values : Nat → Int32) (v_wrong : Int32) (v_isEnd : Nat → Int32) (v_found : Nat → Int32) (v_reached : Nat → Int32) (v_stepIn : Nat → Int32) (v_laid : Nat → Int32) (v_firstRow : Nat → Int32) (v_text : Nat → Int32) (v_textLong : Int32) (v_spot : Int32) (v_taken : Int32) (v_counted : Nat → Int32) (r0 : Int32) (v_all' : Nat → Int32) (v_states' : Int32) (v_refused' : Nat → Int32) (hf : f9_back v_all v_past v_states v_refused = some (r0, v_all', v_states', v_refused')) : Met l yX9_back wsX9_back rm9_back (va_Pc [.ref (h 0)] (kb_B D (ka_tys cB cI cZ cO) sz (wdM cI cZ h v_all v_past v_states v_refused v_far v_row v_stepAt v_depth v_tries v_values v_wrong v_isEnd v_found v_reached v_stepIn v_laid v_firstRow v_text v_textLong v_spot v_taken v_counted))) (va_Qi (kb_post .int r0) (fun _ t => va_P D vwCl (wdM cI cZ h (v_all') v_past (v_states') (v_refused') v_far v_row v_stepAt v_depth v_tries v_values v_wrong v_isEnd v_found v_reached v_stepIn v_laid v_firstRow v_text v_textLong v_spot v_taken v_counted) t.heap) (va_A (wdM cI cZ h v_all v_past v_states v_refused v_far v_row v_stepAt v_depth v_tries v_values v_wrong v_isEnd v_found v_reached v_stepIn v_laid v_firstRow v_text v_textLong v_spot v_taken v_counted) sz)) 0 0 (va_A (wdM cI cZ h v_all v_past v_states v_refused v_far v_row v_stepAt v_depth v_tries v_values v_wrong v_isEnd v_found v_reached v_stepIn v_laid v_firstRow v_text v_textLong v_spot v_taken v_counted) sz) := by
  refine kb_metZ (cc := cX9_back) (maxL := 2) (ty := .int) (by decide) rfl (Nat.le_of_ble_eq_true rfl) ?_
  intro p e s m args below meth c Q A ls H hx hb hml hown hts hK hN hP hD hS hA hl hend
  have hown : s.vm.findClass RX9 = some m.cls := hown
  have hl : lv_has ls 2 [(0, .ref (h 0))] := hl
  have hin9 : ∀ w ∈ u_ws RX9 TX9 22, w ∈ wsX9_back := by decide +kernel
  have J58 : ∀ (v_all : Nat → Int32) (v_states : Int32) (v_refused : Nat → Int32) (H : Heap) (locs : List Loc) (ls : Array Slot), f9_back_b58 v_all v_past v_states v_refused = some (r0, v_all', v_states', v_refused') → va_P D vwCl (wdM cI cZ h v_all v_past v_states v_refused v_far v_row v_stepAt v_depth v_tries v_values v_wrong v_isEnd v_found v_reached v_stepIn v_laid v_firstRow v_text v_textLong v_spot v_taken v_counted) H → va_D A (wdM cI cZ h v_all v_past v_states v_refused v_far v_row v_stepAt v_depth v_tries v_values v_wrong v_isEnd v_found v_reached v_stepIn v_laid v_firstRow v_text v_textLong v_spot v_taken v_counted) → va_S A s.heap H locs → lv_has ls 2 [(0, .ref (h 0))] → W p l e rm9_back s m args below meth c H locs 0 0 Q (F0 m 58 ls []) := by
    intro v_all v_states v_refused H locs ls hf hP hD hS hl
    rw [f9_back_b58] at hf
    refine lv_aload_n hx hb dX9_back_58 rfl (lv_at hl 0 rfl) ?_
    refine va_get (D := D) (cl := vwCl) (ci := 6) (v := .int v_states) (C := RX9) (T := TX9) (N := 22) hx hb hts hin9 hown hK hP 0 rfl rfl 2 (by decide) (hts (.fieldLink RX9 59 "StepOrdersModel" "states" "I") (by decide +kernel)) (fun _ h9 => h9) rfl dX9_back_59 ?_
    cases hf
    exact hend _ _ _ _ rfl hP hS dX9_back_62
  have J26 : ∀ (n : Nat) (v_all : Nat → Int32) (v_states : Int32) (v_refused : Nat → Int32) (x1 : Int32) (H : Heap) (locs : List Loc) (ls : Array Slot), f9_back_l26 n v_all v_past v_states v_refused x1 = some (r0, v_all', v_states', v_refused') → va_P D vwCl (wdM cI cZ h v_all v_past v_states v_refused v_far v_row v_stepAt v_depth v_tries v_values v_wrong v_isEnd v_found v_reached v_stepIn v_laid v_firstRow v_text v_textLong v_spot v_taken v_counted) H → va_D A (wdM cI cZ h v_all v_past v_states v_refused v_far v_row v_stepAt v_depth v_tries v_values v_wrong v_isEnd v_found v_reached v_stepIn v_laid v_firstRow v_text v_textLong v_spot v_taken v_counted) → va_S A s.heap H locs → lv_has ls 2 [(0, .ref (h 0)), (1, .int x1)] → W p l e rm9_back s m args below meth c H locs 0 0 Q (F0 m 26 ls []) := by
    intro n
    induction n with
    | zero =>
      intro v_all v_states v_refused x1 H locs ls hf
      cases (show (none : Option (Int32 × (Nat → Int32) × Int32 × (Nat → Int32))) = some (r0, v_all', v_states', v_refused') from hf)
    | succ n ih =>
      intro v_all v_states v_refused x1 H locs ls hf hP hD hS hl
      rw [f9_back_l26_s] at hf
      refine lv_iload_n hx hb dX9_back_26 rfl (lv_at hl 1 rfl) ?_
      refine lv_bipush (v := 56) hx hb dX9_back_27 (by decide) ?_
      refine lv_icmp_ge (tgt := 58) hx hb dX9_back_29 (by decide) (fun c4 => ?_) (fun c4 => ?_)
      · rw [if_pos c4] at hf
        exact J58 v_all v_states v_refused _ _ _ hf hP hD hS (lv_sub hl [0] rfl)
      · rw [if_neg c4] at hf
        refine lv_aload_n hx hb dX9_back_32 rfl (lv_at hl 0 rfl) ?_
        refine va_get (D := D) (cl := vwCl) (ci := 6) (v := .ref (h 1)) (C := RX9) (T := TX9) (N := 22) hx hb hts hin9 hown hK hP 0 rfl rfl 0 (by decide) (hts (.fieldLink RX9 7 "StepOrdersModel" "all" "[I") (by decide +kernel)) (fun _ h9 => h9) rfl dX9_back_33 ?_
        refine lv_iload_n hx hb dX9_back_36 rfl (lv_at hl 1 rfl) ?_
        refine lv_aload_n hx hb dX9_back_37 rfl (lv_at hl 0 rfl) ?_
        refine va_get (D := D) (cl := vwCl) (ci := 6) (v := .ref (h 2)) (C := RX9) (T := TX9) (N := 22) hx hb hts hin9 hown hK hP 0 rfl rfl 1 (by decide) (hts (.fieldLink RX9 13 "StepOrdersModel" "past" "[I") (by decide +kernel)) (fun _ h9 => h9) rfl dX9_back_38 ?_
        refine lv_bipush (v := 56) hx hb dX9_back_41 (by decide) ?_
        refine lv_aload_n hx hb dX9_back_43 rfl (lv_at hl 0 rfl) ?_
        refine va_get (D := D) (cl := vwCl) (ci := 6) (v := .int v_states) (C := RX9) (T := TX9) (N := 22) hx hb hts hin9 hown hK hP 0 rfl rfl 2 (by decide) (hts (.fieldLink RX9 59 "StepOrdersModel" "states" "I") (by decide +kernel)) (fun _ h9 => h9) rfl dX9_back_44 ?_
        refine lv_imul hx hb dX9_back_47 ?_
        refine lv_iload_n hx hb dX9_back_48 rfl (lv_at hl 1 rfl) ?_
        refine lv_iadd hx hb dX9_back_49 ?_
        refine kb_bind hf (fun v5 hv5 hf => ?_)
        refine ka_iald (D := D) (cl := vwCl) hx hb hK hP 2 1 (f := v_past) rfl rfl (ard_in hv5) (ard_v hv5) dX9_back_50 ?_
        refine kb_bind hf (fun v6 hv6 hf => ?_)
        refine ka_iast (D := D) (cl := vwCl) hx hb hK hP hD hS 1 1 (f := v_all) (g := v6) rfl rfl (awr_in hv6) (awr_v hv6) dX9_back_51 (fun H locs hP hD hS => ?_)
        have hP : va_P D vwCl (wdM cI cZ h v6 v_past v_states v_refused v_far v_row v_stepAt v_depth v_tries v_values v_wrong v_isEnd v_found v_reached v_stepIn v_laid v_firstRow v_text v_textLong v_spot v_taken v_counted) H := hP
        have hD : va_D A (wdM cI cZ h v6 v_past v_states v_refused v_far v_row v_stepAt v_depth v_tries v_values v_wrong v_isEnd v_found v_reached v_stepIn v_laid v_firstRow v_text v_textLong v_spot v_taken v_counted) := hD
        refine lv_iinc (v := (x1 + 1)) (lv' := [(1, .int (x1 + 1)), (0, .ref (h 0))]) hx hb dX9_back_52 hl (k := 1) rfl rfl (by decide) rfl (fun ls hl => ?_)
        refine lv_goto (tgt := 26) hx hb dX9_back_55 (by decide) ?_
        exact ih v6 v_states v_refused (x1 + 1) _ _ _ hf hP hD hS (lv_sub hl [1, 0] rfl)
  rw [f9_back] at hf
  refine lv_aload_n hx hb dX9_back_0 rfl (lv_at hl 0 rfl) ?_
  refine va_get (D := D) (cl := vwCl) (ci := 6) (v := .int v_states) (C := RX9) (T := TX9) (N := 22) hx hb hts hin9 hown hK hP 0 rfl rfl 2 (by decide) (hts (.fieldLink RX9 59 "StepOrdersModel" "states" "I") (by decide +kernel)) (fun _ h9 => h9) rfl dX9_back_1 ?_
  refine lv_if_ne (tgt := 14) hx hb dX9_back_4 (by decide) (fun c7 => ?_) (fun c7 => ?_)
  · rw [if_neg c7] at hf
    refine lv_aload_n hx hb dX9_back_14 rfl (lv_at hl 0 rfl) ?_
    refine lv_dup hx hb dX9_back_15 rfl ?_
    refine va_get (D := D) (cl := vwCl) (ci := 6) (v := .int v_states) (C := RX9) (T := TX9) (N := 22) hx hb hts hin9 hown hK hP 0 rfl rfl 2 (by decide) (hts (.fieldLink RX9 59 "StepOrdersModel" "states" "I") (by decide +kernel)) (fun _ h9 => h9) rfl dX9_back_16 ?_
    refine lv_iconst (v := 1) hx hb dX9_back_19 (by decide) ?_
    refine lv_isub hx hb dX9_back_20 ?_
    refine va_put (D := D) (cl := vwCl) (ci := 6) (v := .int (v_states - (1 : Int32))) (ty := .int) (C := RX9) (T := TX9) (N := 22) hx hb hts hin9 tyX9 tyX9_ok nmX9 hown hK hP hD hS 0 rfl rfl 2 (by decide) (hts (.fieldLink RX9 59 "StepOrdersModel" "states" "I") (by decide +kernel)) (fun _ h9 => h9) rfl (tyX9_ok 2 (by decide)) rfl rfl (Nat.le_of_ble_eq_true rfl) dX9_back_21 (fun H locs hP hD hS => ?_)
    have hP : va_P D vwCl (wdM cI cZ h v_all v_past (v_states - (1 : Int32)) v_refused v_far v_row v_stepAt v_depth v_tries v_values v_wrong v_isEnd v_found v_reached v_stepIn v_laid v_firstRow v_text v_textLong v_spot v_taken v_counted) H := hP
    have hD : va_D A (wdM cI cZ h v_all v_past (v_states - (1 : Int32)) v_refused v_far v_row v_stepAt v_depth v_tries v_values v_wrong v_isEnd v_found v_reached v_stepIn v_laid v_firstRow v_text v_textLong v_spot v_taken v_counted) := hD
    refine lv_iconst (v := 0) hx hb dX9_back_24 (by decide) ?_
    refine lv_istore_n (lv' := [(1, .int (0 : Int32)), (0, .ref (h 0))]) hx hb dX9_back_25 rfl hl (by decide) rfl (fun ls hl => ?_)
    exact J26 kFUEL v_all (v_states - (1 : Int32)) v_refused (0 : Int32) _ _ _ hf hP hD hS (lv_sub hl [1, 0] rfl)
  · rw [if_pos c7] at hf
    refine lv_aload_n hx hb dX9_back_7 rfl (lv_at hl 0 rfl) ?_
    refine lv_bipush (v := (-3)) hx hb dX9_back_8 (by decide) ?_
    refine kb_bind hf (fun q8 hq8 hf => ?_)
    have hPc : va_P D vwCl (wdM cI cZ h v_all v_past v_states v_refused v_far v_row v_stepAt v_depth v_tries v_values v_wrong v_isEnd v_found v_reached v_stepIn v_laid v_firstRow v_text v_textLong v_spot v_taken v_counted) H := hP.sub [0, 1, 2, 3, 4, 5, 6, 7, 8, 9, 10, 11, 12, 13, 14, 15, 16] rfl
    have hDc : va_D A (wdM cI cZ h v_all v_past v_states v_refused v_far v_row v_stepAt v_depth v_tries v_values v_wrong v_isEnd v_found v_reached v_stepIn v_laid v_firstRow v_text v_textLong v_spot v_taken v_counted) := hD.sub [0, 1, 2, 3, 4, 5, 6, 7, 8, 9, 10, 11, 12, 13, 14, 15, 16] (by decide) rfl
    refine kd_iW (ws' := wdM cI cZ h v_all v_past v_states q8.2 v_far v_row v_stepAt v_depth v_tries v_values v_wrong v_isEnd v_found v_reached v_stepIn v_laid v_firstRow v_text v_textLong v_spot v_taken v_counted) (va_runV (As := [.int (-3 : Int32)]) (rest := []) ⟨hx, hb, hml, hown, hts⟩ (c9_refuses l D cB cI cZ cO h H.size (-3 : Int32) v_all v_past v_states v_refused v_far v_row v_stepAt v_depth v_tries v_values v_wrong v_isEnd v_found v_reached v_stepIn v_laid v_firstRow v_text v_textLong v_spot v_taken v_counted q8.1 q8.2 hq8) (cwV 1 hts gX9_back_X9_refuses rfl rfl rfl (by decide +kernel) ⟨Nat.le_of_ble_eq_true rfl, Nat.le_of_ble_eq_true rfl⟩) ⟨kb_blind, va_recv hK hPc (ci := 6) (q0 := 0) rfl rfl, kb_pre hPc hDc hK hN⟩ rfl rfl hl.1 rfl (lv_room (Nat.le_of_ble_eq_true rfl)) dX9_back_10 ⟨Nat.le_refl _, Nat.le_refl _⟩) hP hD hS hA [0, 1, 2, 3, 4, 5, 6, 7, 8, 9, 10, 11, 12, 13, 14, 15, 16] [] rfl rfl rfl rfl rfl (fun H locs hn9 hP hD hS => ?_)
    cases hf
    exact hend _ _ _ _ rfl hP hS dX9_back_13

set_option maxHeartbeats 4000000 in
set_option maxRecDepth 100000 in
theorem c9_toldOf (l : Launch) (D : va_G) (cB cI cZ cO : ClassId) (h : Nat → Nat) (sz : Nat) (x1 : Int32) (v_all : Nat → Int32) (v_past : Nat → Int32) (v_states : Int32) (v_refused : Nat → Int32) (v_far : Nat → Int32) (v_row : Nat → Int32) (v_stepAt : Nat → Int32) (v_depth : Int32) (v_tries : Nat → Int32) (v_values : Nat → Int32) (v_wrong : Int32) (v_isEnd : Nat → Int32) (v_found : Nat → Int32) (v_reached : Nat → Int32) (v_stepIn : Nat → Int32) (v_laid : Nat → Int32) (v_firstRow : Nat → Int32) (v_text : Nat → Int32) (v_textLong : Int32) (v_spot : Int32) (v_taken : Int32) (v_counted : Nat → Int32) (r0 : Int32) (hf : f9_toldOf v_all v_states v_refused v_textLong x1 = some r0) : Met l yX9_toldOf wsX9_toldOf rm9_toldOf (va_Pc [.ref (h 0), .int x1] (kb_B D (ka_tys cB cI cZ cO) sz (wdM cI cZ h v_all v_past v_states v_refused v_far v_row v_stepAt v_depth v_tries v_values v_wrong v_isEnd v_found v_reached v_stepIn v_laid v_firstRow v_text v_textLong v_spot v_taken v_counted))) (va_Qi (kb_post .int r0) (fun _ t => va_P D vwCl (wdM cI cZ h v_all v_past v_states v_refused v_far v_row v_stepAt v_depth v_tries v_values v_wrong v_isEnd v_found v_reached v_stepIn v_laid v_firstRow v_text v_textLong v_spot v_taken v_counted) t.heap) (va_A (wdM cI cZ h v_all v_past v_states v_refused v_far v_row v_stepAt v_depth v_tries v_values v_wrong v_isEnd v_found v_reached v_stepIn v_laid v_firstRow v_text v_textLong v_spot v_taken v_counted) sz)) 0 0 (va_A (wdM cI cZ h v_all v_past v_states v_refused v_far v_row v_stepAt v_depth v_tries v_values v_wrong v_isEnd v_found v_reached v_stepIn v_laid v_firstRow v_text v_textLong v_spot v_taken v_counted) sz) := by
  refine kb_metZ (cc := cX9_toldOf) (maxL := 2) (ty := .int) (by decide) rfl (Nat.le_of_ble_eq_true rfl) ?_
  intro p e s m args below meth c Q A ls H hx hb hml hown hts hK hN hP hD hS hA hl hend
  have hown : s.vm.findClass RX9 = some m.cls := hown
  have hl : lv_has ls 2 [(0, .ref (h 0)), (1, .int x1)] := hl
  have hin9 : ∀ w ∈ u_ws RX9 TX9 22, w ∈ wsX9_toldOf := by decide +kernel
  rw [f9_toldOf] at hf
  refine lv_iload_n hx hb dX9_toldOf_0 rfl (lv_at hl 1 rfl) ?_
  refine lv_iconst (v := 3) hx hb dX9_toldOf_1 (by decide) ?_
  refine lv_icmp_ge (tgt := 12) hx hb dX9_toldOf_2 (by decide) (fun c1 => ?_) (fun c1 => ?_)
  · rw [if_pos c1] at hf
    refine lv_iload_n hx hb dX9_toldOf_12 rfl (lv_at hl 1 rfl) ?_
    refine lv_iconst (v := 3) hx hb dX9_toldOf_13 (by decide) ?_
    refine lv_icmp_ne (tgt := 24) hx hb dX9_toldOf_14 (by decide) (fun c2 => ?_) (fun c2 => ?_)
    · rw [if_neg c2] at hf
      refine lv_iload_n hx hb dX9_toldOf_24 rfl (lv_at hl 1 rfl) ?_
      refine lv_bipush (v := 7) hx hb dX9_toldOf_25 (by decide) ?_
      refine lv_icmp_ge (tgt := 40) hx hb dX9_toldOf_27 (by decide) (fun c3 => ?_) (fun c3 => ?_)
      · rw [if_pos c3] at hf
        refine lv_iload_n hx hb dX9_toldOf_40 rfl (lv_at hl 1 rfl) ?_
        refine lv_bipush (v := 7) hx hb dX9_toldOf_41 (by decide) ?_
        refine lv_icmp_ne (tgt := 81) hx hb dX9_toldOf_43 (by decide) (fun c4 => ?_) (fun c4 => ?_)
        · rw [if_neg c4] at hf
          refine lv_aload_n hx hb dX9_toldOf_81 rfl (lv_at hl 0 rfl) ?_
          refine va_get (D := D) (cl := vwCl) (ci := 6) (v := .int v_states) (C := RX9) (T := TX9) (N := 22) hx hb hts hin9 hown hK hP 0 rfl rfl 2 (by decide) (hts (.fieldLink RX9 59 "StepOrdersModel" "states" "I") (by decide +kernel)) (fun _ h9 => h9) rfl dX9_toldOf_82 ?_
          cases hf
          exact hend _ _ _ _ rfl hP hS dX9_toldOf_85
        · rw [if_pos c4] at hf
          refine lv_aload_n hx hb dX9_toldOf_46 rfl (lv_at hl 0 rfl) ?_
          refine lv_aload_n hx hb dX9_toldOf_47 rfl (lv_at hl 0 rfl) ?_
          refine va_get (D := D) (cl := vwCl) (ci := 6) (v := .ref (h 1)) (C := RX9) (T := TX9) (N := 22) hx hb hts hin9 hown hK hP 0 rfl rfl 0 (by decide) (hts (.fieldLink RX9 7 "StepOrdersModel" "all" "[I") (by decide +kernel)) (fun _ h9 => h9) rfl dX9_toldOf_48 ?_
          refine lv_bipush (v := 39) hx hb dX9_toldOf_51 (by decide) ?_
          refine ka_iald (D := D) (cl := vwCl) hx hb hK hP 1 1 (f := v_all) rfl rfl (v := (v_all 39)) (show ¬ (_ ∨ _) from by decide) rfl dX9_toldOf_53 ?_
          refine lv_aload_n hx hb dX9_toldOf_54 rfl (lv_at hl 0 rfl) ?_
          refine va_get (D := D) (cl := vwCl) (ci := 6) (v := .ref (h 1)) (C := RX9) (T := TX9) (N := 22) hx hb hts hin9 hown hK hP 0 rfl rfl 0 (by decide) (hts (.fieldLink RX9 7 "StepOrdersModel" "all" "[I") (by decide +kernel)) (fun _ h9 => h9) rfl dX9_toldOf_55 ?_
          refine lv_bipush (v := 40) hx hb dX9_toldOf_58 (by decide) ?_
          refine ka_iald (D := D) (cl := vwCl) hx hb hK hP 1 1 (f := v_all) rfl rfl (v := (v_all 40)) (show ¬ (_ ∨ _) from by decide) rfl dX9_toldOf_60 ?_
          refine lv_aload_n hx hb dX9_toldOf_61 rfl (lv_at hl 0 rfl) ?_
          refine va_get (D := D) (cl := vwCl) (ci := 6) (v := .ref (h 1)) (C := RX9) (T := TX9) (N := 22) hx hb hts hin9 hown hK hP 0 rfl rfl 0 (by decide) (hts (.fieldLink RX9 7 "StepOrdersModel" "all" "[I") (by decide +kernel)) (fun _ h9 => h9) rfl dX9_toldOf_62 ?_
          refine lv_bipush (v := 41) hx hb dX9_toldOf_65 (by decide) ?_
          refine ka_iald (D := D) (cl := vwCl) hx hb hK hP 1 1 (f := v_all) rfl rfl (v := (v_all 41)) (show ¬ (_ ∨ _) from by decide) rfl dX9_toldOf_67 ?_
          refine lv_aload_n hx hb dX9_toldOf_68 rfl (lv_at hl 0 rfl) ?_
          refine va_get (D := D) (cl := vwCl) (ci := 6) (v := .ref (h 1)) (C := RX9) (T := TX9) (N := 22) hx hb hts hin9 hown hK hP 0 rfl rfl 0 (by decide) (hts (.fieldLink RX9 7 "StepOrdersModel" "all" "[I") (by decide +kernel)) (fun _ h9 => h9) rfl dX9_toldOf_69 ?_
          refine lv_bipush (v := 42) hx hb dX9_toldOf_72 (by decide) ?_
          refine ka_iald (D := D) (cl := vwCl) hx hb hK hP 1 1 (f := v_all) rfl rfl (v := (v_all 42)) (show ¬ (_ ∨ _) from by decide) rfl dX9_toldOf_74 ?_
          have hPc : va_P D vwCl (wdM cI cZ h v_all v_past v_states v_refused v_far v_row v_stepAt v_depth v_tries v_values v_wrong v_isEnd v_found v_reached v_stepIn v_laid v_firstRow v_text v_textLong v_spot v_taken v_counted) H := hP.sub [0, 1, 2, 3, 4, 5, 6, 7, 8, 9, 10, 11, 12, 13, 14, 15, 16] rfl
          have hDc : va_D A (wdM cI cZ h v_all v_past v_states v_refused v_far v_row v_stepAt v_depth v_tries v_values v_wrong v_isEnd v_found v_reached v_stepIn v_laid v_firstRow v_text v_textLong v_spot v_taken v_counted) := hD.sub [0, 1, 2, 3, 4, 5, 6, 7, 8, 9, 10, 11, 12, 13, 14, 15, 16] (by decide) rfl
          refine kd_iR (va_runV (As := [.int (v_all 39), .int (v_all 40), .int (v_all 41), .int (v_all 42)]) (rest := []) ⟨hx, hb, hml, hown, hts⟩ (c9_told4 l D cB cI cZ cO h H.size (v_all 39) (v_all 40) (v_all 41) (v_all 42) v_all v_past v_states v_refused v_far v_row v_stepAt v_depth v_tries v_values v_wrong v_isEnd v_found v_reached v_stepIn v_laid v_firstRow v_text v_textLong v_spot v_taken v_counted (f9_told4 (v_all 39) (v_all 40) (v_all 41) (v_all 42)) rfl) (cwV 4 hts gX9_toldOf_X9_told4 rfl rfl rfl (by decide +kernel) ⟨Nat.le_of_ble_eq_true rfl, Nat.le_of_ble_eq_true rfl⟩) ⟨kb_blind, va_recv hK hPc (ci := 6) (q0 := 0) rfl rfl, kb_pre hPc hDc hK hN⟩ rfl rfl hl.1 rfl (lv_room (Nat.le_of_ble_eq_true rfl)) dX9_toldOf_75 ⟨Nat.le_refl _, Nat.le_refl _⟩) hP hD hS hA [0, 1, 2, 3, 4, 5, 6, 7, 8, 9, 10, 11, 12, 13, 14, 15, 16] rfl (fun H locs hn5 hP hS => ?_)
          refine lv_goto (tgt := 85) hx hb dX9_toldOf_78 (by decide) ?_
          cases hf
          exact hend _ _ _ _ rfl hP hS dX9_toldOf_85
      · rw [if_neg c3] at hf
        refine lv_aload_n hx hb dX9_toldOf_30 rfl (lv_at hl 0 rfl) ?_
        refine lv_iload_n hx hb dX9_toldOf_31 rfl (lv_at hl 1 rfl) ?_
        refine lv_iconst (v := 4) hx hb dX9_toldOf_32 (by decide) ?_
        refine lv_isub hx hb dX9_toldOf_33 ?_
        refine kb_bind hf (fun q6 hq6 hf => ?_)
        have hPc : va_P D vwCl (wdM cI cZ h v_all v_past v_states v_refused v_far v_row v_stepAt v_depth v_tries v_values v_wrong v_isEnd v_found v_reached v_stepIn v_laid v_firstRow v_text v_textLong v_spot v_taken v_counted) H := hP.sub [0, 1, 2, 3, 4, 5, 6, 7, 8, 9, 10, 11, 12, 13, 14, 15, 16] rfl
        have hDc : va_D A (wdM cI cZ h v_all v_past v_states v_refused v_far v_row v_stepAt v_depth v_tries v_values v_wrong v_isEnd v_found v_reached v_stepIn v_laid v_firstRow v_text v_textLong v_spot v_taken v_counted) := hD.sub [0, 1, 2, 3, 4, 5, 6, 7, 8, 9, 10, 11, 12, 13, 14, 15, 16] (by decide) rfl
        refine kd_iR (va_runV (As := [.int (x1 - (4 : Int32))]) (rest := []) ⟨hx, hb, hml, hown, hts⟩ (c9_many l D cB cI cZ cO h H.size (x1 - (4 : Int32)) v_all v_past v_states v_refused v_far v_row v_stepAt v_depth v_tries v_values v_wrong v_isEnd v_found v_reached v_stepIn v_laid v_firstRow v_text v_textLong v_spot v_taken v_counted q6 hq6) (cwV 1 hts gX9_toldOf_X9_many rfl rfl rfl (by decide +kernel) ⟨Nat.le_of_ble_eq_true rfl, Nat.le_of_ble_eq_true rfl⟩) ⟨kb_blind, va_recv hK hPc (ci := 6) (q0 := 0) rfl rfl, kb_pre hPc hDc hK hN⟩ rfl rfl hl.1 rfl (lv_room (Nat.le_of_ble_eq_true rfl)) dX9_toldOf_34 ⟨Nat.le_refl _, Nat.le_refl _⟩) hP hD hS hA [0, 1, 2, 3, 4, 5, 6, 7, 8, 9, 10, 11, 12, 13, 14, 15, 16] rfl (fun H locs hn7 hP hS => ?_)
        refine lv_goto (tgt := 85) hx hb dX9_toldOf_37 (by decide) ?_
        cases hf
        exact hend _ _ _ _ rfl hP hS dX9_toldOf_85
    · rw [if_pos c2] at hf
      refine lv_aload_n hx hb dX9_toldOf_17 rfl (lv_at hl 0 rfl) ?_
      refine va_get (D := D) (cl := vwCl) (ci := 6) (v := .int v_textLong) (C := RX9) (T := TX9) (N := 22) hx hb hts hin9 hown hK hP 0 rfl rfl 18 (by decide) (hts (.fieldLink RX9 193 "StepOrdersModel" "textLong" "I") (by decide +kernel)) (fun _ h9 => h9) rfl dX9_toldOf_18 ?_
      refine lv_goto (tgt := 85) hx hb dX9_toldOf_21 (by decide) ?_
      cases hf
      exact hend _ _ _ _ rfl hP hS dX9_toldOf_85
  · rw [if_neg c1] at hf
    refine lv_aload_n hx hb dX9_toldOf_5 rfl (lv_at hl 0 rfl) ?_
    refine va_get (D := D) (cl := vwCl) (ci := 6) (v := .ref (h 3)) (C := RX9) (T := TX9) (N := 22) hx hb hts hin9 hown hK hP 0 rfl rfl 3 (by decide) (hts (.fieldLink RX9 16 "StepOrdersModel" "refused" "[I") (by decide +kernel)) (fun _ h9 => h9) rfl dX9_toldOf_6 ?_
    refine lv_iload_n hx hb dX9_toldOf_9 rfl (lv_at hl 1 rfl) ?_
    refine kb_bind hf (fun v8 hv8 hf => ?_)
    refine ka_iald (D := D) (cl := vwCl) hx hb hK hP 3 1 (f := v_refused) rfl rfl (ard_in hv8) (ard_v hv8) dX9_toldOf_10 ?_
    cases hf
    exact hend _ _ _ _ rfl hP hS dX9_toldOf_11

set_option maxHeartbeats 4000000 in
set_option maxRecDepth 100000 in
theorem c9_told (l : Launch) (D : va_G) (cB cI cZ cO : ClassId) (h : Nat → Nat) (sz : Nat) (x1 : Int32) (v_all : Nat → Int32) (v_past : Nat → Int32) (v_states : Int32) (v_refused : Nat → Int32) (v_far : Nat → Int32) (v_row : Nat → Int32) (v_stepAt : Nat → Int32) (v_depth : Int32) (v_tries : Nat → Int32) (v_values : Nat → Int32) (v_wrong : Int32) (v_isEnd : Nat → Int32) (v_found : Nat → Int32) (v_reached : Nat → Int32) (v_stepIn : Nat → Int32) (v_laid : Nat → Int32) (v_firstRow : Nat → Int32) (v_text : Nat → Int32) (v_textLong : Int32) (v_spot : Int32) (v_taken : Int32) (v_counted : Nat → Int32) (r0 : Int32) (v_refused' : Nat → Int32) (hf : f9_told v_all v_states v_refused v_textLong x1 = some (r0, v_refused')) : Met l yX9_told wsX9_told rm9_told (va_Pc [.ref (h 0), .int x1] (kb_B D (ka_tys cB cI cZ cO) sz (wdM cI cZ h v_all v_past v_states v_refused v_far v_row v_stepAt v_depth v_tries v_values v_wrong v_isEnd v_found v_reached v_stepIn v_laid v_firstRow v_text v_textLong v_spot v_taken v_counted))) (va_Qi (kb_post .int r0) (fun _ t => va_P D vwCl (wdM cI cZ h v_all v_past v_states (v_refused') v_far v_row v_stepAt v_depth v_tries v_values v_wrong v_isEnd v_found v_reached v_stepIn v_laid v_firstRow v_text v_textLong v_spot v_taken v_counted) t.heap) (va_A (wdM cI cZ h v_all v_past v_states v_refused v_far v_row v_stepAt v_depth v_tries v_values v_wrong v_isEnd v_found v_reached v_stepIn v_laid v_firstRow v_text v_textLong v_spot v_taken v_counted) sz)) 0 0 (va_A (wdM cI cZ h v_all v_past v_states v_refused v_far v_row v_stepAt v_depth v_tries v_values v_wrong v_isEnd v_found v_reached v_stepIn v_laid v_firstRow v_text v_textLong v_spot v_taken v_counted) sz) := by
  refine kb_metZ (cc := cX9_told) (maxL := 2) (ty := .int) (by decide) rfl (Nat.le_of_ble_eq_true rfl) ?_
  intro p e s m args below meth c Q A ls H hx hb hml hown hts hK hN hP hD hS hA hl hend
  have hown : s.vm.findClass RX9 = some m.cls := hown
  have hl : lv_has ls 2 [(0, .ref (h 0)), (1, .int x1)] := hl
  rw [f9_told] at hf
  refine lv_iload_n hx hb dX9_told_0 rfl (lv_at hl 1 rfl) ?_
  refine lv_i2l (v := x1.toInt64) hx hb dX9_told_1 rfl ?_
  refine lv_lconst (v := 0) hx hb dX9_told_2 (by decide) ?_
  refine lv_ldc2 (v := 8) hx hb hown (hts (.constantLong RX9 215 (8)) (by decide +kernel)) dX9_told_3 ?_
  have hPc : va_P D vwCl ([]) H := hP.sub [] rfl
  have hDc : va_D A ([]) := hD.sub [] (by decide) rfl
  refine kd_iR (va_runS (As := [.long x1.toInt64, .long (0 : Int64), .long (8 : Int64)]) (rest := []) ⟨hx, hb, hml, hown, hts⟩ (c9_in l D cB cI cZ cO h H.size x1.toInt64 (0 : Int64) (8 : Int64) (f9_in x1.toInt64 (0 : Int64) (8 : Int64)) rfl) (va_cwS 3 hts gX9_told_X9_in rfl rfl rfl (by decide +kernel) ⟨Nat.le_of_ble_eq_true rfl, Nat.le_of_ble_eq_true rfl⟩) ⟨kb_blind, kb_pre hPc hDc hK hN⟩ rfl rfl hl.1 rfl (lv_room (Nat.le_of_ble_eq_true rfl)) dX9_told_6 ⟨Nat.le_refl _, Nat.le_refl _⟩) hP hD hS hA [] rfl (fun H locs hn1 hP hS => ?_)
  refine lv_if_eq (tgt := 20) hx hb dX9_told_9 (by decide) (fun c2 => ?_) (fun c2 => ?_)
  · rw [if_pos c2] at hf
    refine lv_aload_n hx hb dX9_told_20 rfl (lv_at hl 0 rfl) ?_
    refine lv_bipush (v := (-2)) hx hb dX9_told_21 (by decide) ?_
    refine kb_bind hf (fun q3 hq3 hf => ?_)
    have hPc : va_P D vwCl (wdM cI cZ h v_all v_past v_states v_refused v_far v_row v_stepAt v_depth v_tries v_values v_wrong v_isEnd v_found v_reached v_stepIn v_laid v_firstRow v_text v_textLong v_spot v_taken v_counted) H := hP.sub [0, 1, 2, 3, 4, 5, 6, 7, 8, 9, 10, 11, 12, 13, 14, 15, 16] rfl
    have hDc : va_D A (wdM cI cZ h v_all v_past v_states v_refused v_far v_row v_stepAt v_depth v_tries v_values v_wrong v_isEnd v_found v_reached v_stepIn v_laid v_firstRow v_text v_textLong v_spot v_taken v_counted) := hD.sub [0, 1, 2, 3, 4, 5, 6, 7, 8, 9, 10, 11, 12, 13, 14, 15, 16] (by decide) rfl
    refine kd_iW (ws' := wdM cI cZ h v_all v_past v_states q3.2 v_far v_row v_stepAt v_depth v_tries v_values v_wrong v_isEnd v_found v_reached v_stepIn v_laid v_firstRow v_text v_textLong v_spot v_taken v_counted) (va_runV (As := [.int (-2 : Int32)]) (rest := []) ⟨hx, hb, hml, hown, hts⟩ (c9_refuses l D cB cI cZ cO h H.size (-2 : Int32) v_all v_past v_states v_refused v_far v_row v_stepAt v_depth v_tries v_values v_wrong v_isEnd v_found v_reached v_stepIn v_laid v_firstRow v_text v_textLong v_spot v_taken v_counted q3.1 q3.2 hq3) (cwV 1 hts gX9_told_X9_refuses rfl rfl rfl (by decide +kernel) ⟨Nat.le_of_ble_eq_true rfl, Nat.le_of_ble_eq_true rfl⟩) ⟨kb_blind, va_recv hK hPc (ci := 6) (q0 := 0) rfl rfl, kb_pre hPc hDc hK hN⟩ rfl rfl hl.1 rfl (lv_room (Nat.le_of_ble_eq_true rfl)) dX9_told_23 ⟨Nat.le_refl _, Nat.le_refl _⟩) hP hD hS hA [0, 1, 2, 3, 4, 5, 6, 7, 8, 9, 10, 11, 12, 13, 14, 15, 16] [] rfl rfl rfl rfl rfl (fun H locs hn4 hP hD hS => ?_)
    cases hf
    exact hend _ _ _ _ rfl hP hS dX9_told_26
  · rw [if_neg c2] at hf
    refine lv_aload_n hx hb dX9_told_12 rfl (lv_at hl 0 rfl) ?_
    refine lv_iload_n hx hb dX9_told_13 rfl (lv_at hl 1 rfl) ?_
    refine kb_bind hf (fun q5 hq5 hf => ?_)
    have hPc : va_P D vwCl (wdM cI cZ h v_all v_past v_states v_refused v_far v_row v_stepAt v_depth v_tries v_values v_wrong v_isEnd v_found v_reached v_stepIn v_laid v_firstRow v_text v_textLong v_spot v_taken v_counted) H := hP.sub [0, 1, 2, 3, 4, 5, 6, 7, 8, 9, 10, 11, 12, 13, 14, 15, 16] rfl
    have hDc : va_D A (wdM cI cZ h v_all v_past v_states v_refused v_far v_row v_stepAt v_depth v_tries v_values v_wrong v_isEnd v_found v_reached v_stepIn v_laid v_firstRow v_text v_textLong v_spot v_taken v_counted) := hD.sub [0, 1, 2, 3, 4, 5, 6, 7, 8, 9, 10, 11, 12, 13, 14, 15, 16] (by decide) rfl
    refine kd_iR (va_runV (As := [.int x1]) (rest := []) ⟨hx, hb, hml, hown, hts⟩ (c9_toldOf l D cB cI cZ cO h H.size x1 v_all v_past v_states v_refused v_far v_row v_stepAt v_depth v_tries v_values v_wrong v_isEnd v_found v_reached v_stepIn v_laid v_firstRow v_text v_textLong v_spot v_taken v_counted q5 hq5) (cwV 1 hts gX9_told_X9_toldOf rfl rfl rfl (by decide +kernel) ⟨Nat.le_of_ble_eq_true rfl, Nat.le_of_ble_eq_true rfl⟩) ⟨kb_blind, va_recv hK hPc (ci := 6) (q0 := 0) rfl rfl, kb_pre hPc hDc hK hN⟩ rfl rfl hl.1 rfl (lv_room (Nat.le_of_ble_eq_true rfl)) dX9_told_14 ⟨Nat.le_refl _, Nat.le_refl _⟩) hP hD hS hA [0, 1, 2, 3, 4, 5, 6, 7, 8, 9, 10, 11, 12, 13, 14, 15, 16] rfl (fun H locs hn6 hP hS => ?_)
    refine lv_goto (tgt := 26) hx hb dX9_told_17 (by decide) ?_
    cases hf
    exact hend _ _ _ _ rfl hP hS dX9_told_26

set_option maxHeartbeats 4000000 in
set_option maxRecDepth 100000 in
theorem c9_digest (l : Launch) (D : va_G) (cB cI cZ cO : ClassId) (h : Nat → Nat) (sz : Nat) (v_all : Nat → Int32) (v_past : Nat → Int32) (v_states : Int32) (v_refused : Nat → Int32) (v_far : Nat → Int32) (v_row : Nat → Int32) (v_stepAt : Nat → Int32) (v_depth : Int32) (v_tries : Nat → Int32) (v_values : Nat → Int32) (v_wrong : Int32) (v_isEnd : Nat → Int32) (v_found : Nat → Int32) (v_reached : Nat → Int32) (v_stepIn : Nat → Int32) (v_laid : Nat → Int32) (v_firstRow : Nat → Int32) (v_text : Nat → Int32) (v_textLong : Int32) (v_spot : Int32) (v_taken : Int32) (v_counted : Nat → Int32) (r0 : Int64) (v_far' : Nat → Int32) (v_row' : Nat → Int32) (v_stepAt' : Nat → Int32) (v_depth' : Int32) (v_tries' : Nat → Int32) (v_values' : Nat → Int32) (v_wrong' : Int32) (v_isEnd' : Nat → Int32) (v_found' : Nat → Int32) (v_reached' : Nat → Int32) (hf : f9_digest v_all v_states v_refused v_far v_row v_stepAt v_depth v_tries v_values v_wrong v_isEnd v_found v_reached v_textLong = some (r0, v_far', v_row', v_stepAt', v_depth', v_tries', v_values', v_wrong', v_isEnd', v_found', v_reached')) : Met l yX9_digest wsX9_digest rm9_digest (va_Pc [.ref (h 0)] (kb_B D (ka_tys cB cI cZ cO) sz (wdM cI cZ h v_all v_past v_states v_refused v_far v_row v_stepAt v_depth v_tries v_values v_wrong v_isEnd v_found v_reached v_stepIn v_laid v_firstRow v_text v_textLong v_spot v_taken v_counted))) (va_Ql (fun r (_ : Unit) => r = r0) (fun _ t => va_P D vwCl (wdM cI cZ h v_all v_past v_states v_refused (v_far') (v_row') (v_stepAt') (v_depth') (v_tries') (v_values') (v_wrong') (v_isEnd') (v_found') (v_reached') v_stepIn v_laid v_firstRow v_text v_textLong v_spot v_taken v_counted) t.heap) (va_A (wdM cI cZ h v_all v_past v_states v_refused v_far v_row v_stepAt v_depth v_tries v_values v_wrong v_isEnd v_found v_reached v_stepIn v_laid v_firstRow v_text v_textLong v_spot v_taken v_counted) sz)) 0 0 (va_A (wdM cI cZ h v_all v_past v_states v_refused v_far v_row v_stepAt v_depth v_tries v_values v_wrong v_isEnd v_found v_reached v_stepIn v_laid v_firstRow v_text v_textLong v_spot v_taken v_counted) sz) := by
  refine kb_metL (cc := cX9_digest) (maxL := 6) (by decide) rfl (Nat.le_of_ble_eq_true rfl) ?_
  intro p e s m args below meth c Q A ls H hx hb hml hown hts hK hN hP hD hS hA hl hend
  have hown : s.vm.findClass RX9 = some m.cls := hown
  have hl : lv_has ls 6 [(0, .ref (h 0))] := hl
  have hin9 : ∀ w ∈ u_ws RX9 TX9 22, w ∈ wsX9_digest := by decide +kernel
  have J202 : ∀ (v_far : Nat → Int32) (v_row : Nat → Int32) (v_stepAt : Nat → Int32) (v_depth : Int32) (v_tries : Nat → Int32) (v_values : Nat → Int32) (v_wrong : Int32) (v_isEnd : Nat → Int32) (v_found : Nat → Int32) (v_reached : Nat → Int32) (x1 : Int64) (H : Heap) (locs : List Loc) (ls : Array Slot), f9_digest_b202 v_all v_states v_refused v_far v_row v_stepAt v_depth v_tries v_values v_wrong v_isEnd v_found v_reached v_textLong x1 = some (r0, v_far', v_row', v_stepAt', v_depth', v_tries', v_values', v_wrong', v_isEnd', v_found', v_reached') → va_P D vwCl (wdM cI cZ h v_all v_past v_states v_refused v_far v_row v_stepAt v_depth v_tries v_values v_wrong v_isEnd v_found v_reached v_stepIn v_laid v_firstRow v_text v_textLong v_spot v_taken v_counted) H → va_D A (wdM cI cZ h v_all v_past v_states v_refused v_far v_row v_stepAt v_depth v_tries v_values v_wrong v_isEnd v_found v_reached v_stepIn v_laid v_firstRow v_text v_textLong v_spot v_taken v_counted) → va_S A s.heap H locs → lv_has ls 6 [(1, .long x1)] → W p l e rm9_digest s m args below meth c H locs 0 0 Q (F0 m 202 ls []) := by
    intro v_far v_row v_stepAt v_depth v_tries v_values v_wrong v_isEnd v_found v_reached x1 H locs ls hf hP hD hS hl
    rw [f9_digest_b202] at hf
    refine lv_lload_n hx hb dX9_digest_202 rfl (lv_at hl 0 rfl) ?_
    cases hf
    exact hend _ _ _ _ hP hS dX9_digest_203
  have J167 : ∀ (n : Nat) (v_far : Nat → Int32) (v_row : Nat → Int32) (v_stepAt : Nat → Int32) (v_depth : Int32) (v_tries : Nat → Int32) (v_values : Nat → Int32) (v_wrong : Int32) (v_isEnd : Nat → Int32) (v_found : Nat → Int32) (v_reached : Nat → Int32) (x1 : Int64) (x3 : Int32) (H : Heap) (locs : List Loc) (ls : Array Slot), f9_digest_l167 n v_all v_states v_refused v_far v_row v_stepAt v_depth v_tries v_values v_wrong v_isEnd v_found v_reached v_textLong x1 x3 = some (r0, v_far', v_row', v_stepAt', v_depth', v_tries', v_values', v_wrong', v_isEnd', v_found', v_reached') → va_P D vwCl (wdM cI cZ h v_all v_past v_states v_refused v_far v_row v_stepAt v_depth v_tries v_values v_wrong v_isEnd v_found v_reached v_stepIn v_laid v_firstRow v_text v_textLong v_spot v_taken v_counted) H → va_D A (wdM cI cZ h v_all v_past v_states v_refused v_far v_row v_stepAt v_depth v_tries v_values v_wrong v_isEnd v_found v_reached v_stepIn v_laid v_firstRow v_text v_textLong v_spot v_taken v_counted) → va_S A s.heap H locs → lv_has ls 6 [(0, .ref (h 0)), (1, .long x1), (3, .int x3)] → W p l e rm9_digest s m args below meth c H locs 0 0 Q (F0 m 167 ls []) := by
    intro n
    induction n with
    | zero =>
      intro v_far v_row v_stepAt v_depth v_tries v_values v_wrong v_isEnd v_found v_reached x1 x3 H locs ls hf
      cases (show (none : Option (Int64 × (Nat → Int32) × (Nat → Int32) × (Nat → Int32) × Int32 × (Nat → Int32) × (Nat → Int32) × Int32 × (Nat → Int32) × (Nat → Int32) × (Nat → Int32))) = some (r0, v_far', v_row', v_stepAt', v_depth', v_tries', v_values', v_wrong', v_isEnd', v_found', v_reached') from hf)
    | succ n ih =>
      have J195 : ∀ (v_far : Nat → Int32) (v_row : Nat → Int32) (v_stepAt : Nat → Int32) (v_depth : Int32) (v_tries : Nat → Int32) (v_values : Nat → Int32) (v_wrong : Int32) (v_isEnd : Nat → Int32) (v_found : Nat → Int32) (v_reached : Nat → Int32) (x3 : Int32) (s0 : Int64) (H : Heap) (locs : List Loc) (ls : Array Slot), f9_digest_b195 (f9_digest_l167 n) v_all v_states v_refused v_far v_row v_stepAt v_depth v_tries v_values v_wrong v_isEnd v_found v_reached v_textLong x3 s0 = some (r0, v_far', v_row', v_stepAt', v_depth', v_tries', v_values', v_wrong', v_isEnd', v_found', v_reached') → va_P D vwCl (wdM cI cZ h v_all v_past v_states v_refused v_far v_row v_stepAt v_depth v_tries v_values v_wrong v_isEnd v_found v_reached v_stepIn v_laid v_firstRow v_text v_textLong v_spot v_taken v_counted) H → va_D A (wdM cI cZ h v_all v_past v_states v_refused v_far v_row v_stepAt v_depth v_tries v_values v_wrong v_isEnd v_found v_reached v_stepIn v_laid v_firstRow v_text v_textLong v_spot v_taken v_counted) → va_S A s.heap H locs → lv_has ls 6 [(0, .ref (h 0)), (3, .int x3)] → W p l e rm9_digest s m args below meth c H locs 0 0 Q (F0 m 195 ls [.long s0]) := by
        intro v_far v_row v_stepAt v_depth v_tries v_values v_wrong v_isEnd v_found v_reached x3 s0 H locs ls hf hP hD hS hl
        rw [f9_digest_b195] at hf
        refine lv_lstore_n (lv' := [(1, .long s0), (0, .ref (h 0)), (3, .int x3)]) hx hb dX9_digest_195 rfl hl (by decide) rfl (fun ls hl => ?_)
        refine lv_iinc (v := (x3 + 1)) (lv' := [(3, .int (x3 + 1)), (1, .long s0), (0, .ref (h 0))]) hx hb dX9_digest_196 hl (k := 2) rfl rfl (by decide) rfl (fun ls hl => ?_)
        refine lv_goto (tgt := 167) hx hb dX9_digest_199 (by decide) ?_
        exact ih v_far v_row v_stepAt v_depth v_tries v_values v_wrong v_isEnd v_found v_reached s0 (x3 + 1) _ _ _ hf hP hD hS (lv_sub hl [2, 1, 0] rfl)
      intro v_far v_row v_stepAt v_depth v_tries v_values v_wrong v_isEnd v_found v_reached x1 x3 H locs ls hf hP hD hS hl
      rw [f9_digest_l167_s] at hf
      refine lv_iload_n hx hb dX9_digest_167 rfl (lv_at hl 2 rfl) ?_
      refine lv_sipush (v := 10000) hx hb dX9_digest_168 (by decide) ?_
      refine lv_icmp_ge (tgt := 202) hx hb dX9_digest_171 (by decide) (fun c4 => ?_) (fun c4 => ?_)
      · rw [if_pos c4] at hf
        exact J202 v_far v_row v_stepAt v_depth v_tries v_values v_wrong v_isEnd v_found v_reached x1 _ _ _ hf hP hD hS (lv_sub hl [1] rfl)
      · rw [if_neg c4] at hf
        refine lv_aload_n hx hb dX9_digest_174 rfl (lv_at hl 0 rfl) ?_
        refine va_get (D := D) (cl := vwCl) (ci := 6) (v := .ref (h 9)) (C := RX9) (T := TX9) (N := 22) hx hb hts hin9 hown hK hP 0 rfl rfl 11 (by decide) (hts (.fieldLink RX9 34 "StepOrdersModel" "isEnd" "[Z") (by decide +kernel)) (fun _ h9 => h9) rfl dX9_digest_175 ?_
        refine lv_iload_n hx hb dX9_digest_178 rfl (lv_at hl 2 rfl) ?_
        refine kb_bind hf (fun v5 hv5 hf => ?_)
        refine ka_zald (D := D) (cl := vwCl) hx hb hK hP 9 2 (f := v_isEnd) rfl rfl (ard_in hv5) (ard_v hv5) dX9_digest_179 ?_
        refine lv_if_eq (tgt := 194) hx hb dX9_digest_180 (by decide) (fun c6 => ?_) (fun c6 => ?_)
        · rw [if_pos c6] at hf
          refine lv_lload_n hx hb dX9_digest_194 rfl (lv_at hl 1 rfl) ?_
          exact J195 v_far v_row v_stepAt v_depth v_tries v_values v_wrong v_isEnd v_found v_reached x3 x1 _ _ _ hf hP hD hS (lv_sub hl [0, 2] rfl)
        · rw [if_neg c6] at hf
          refine lv_ldc2 (v := 31) hx hb hown (hts (.constantLong RX9 222 (31)) (by decide +kernel)) dX9_digest_183 ?_
          refine lv_lload_n hx hb dX9_digest_186 rfl (lv_at hl 1 rfl) ?_
          refine lv_lmul hx hb dX9_digest_187 ?_
          refine lv_iload_n hx hb dX9_digest_188 rfl (lv_at hl 2 rfl) ?_
          refine lv_i2l (v := x3.toInt64) hx hb dX9_digest_189 rfl ?_
          refine lv_ladd hx hb dX9_digest_190 ?_
          refine lv_goto (tgt := 195) hx hb dX9_digest_191 (by decide) ?_
          exact J195 v_far v_row v_stepAt v_depth v_tries v_values v_wrong v_isEnd v_found v_reached x3 (((31 : Int64) * x1) + x3.toInt64) _ _ _ hf hP hD hS (lv_sub hl [0, 2] rfl)
  have J165 : ∀ (v_far : Nat → Int32) (v_row : Nat → Int32) (v_stepAt : Nat → Int32) (v_depth : Int32) (v_tries : Nat → Int32) (v_values : Nat → Int32) (v_wrong : Int32) (v_isEnd : Nat → Int32) (v_found : Nat → Int32) (v_reached : Nat → Int32) (x1 : Int64) (H : Heap) (locs : List Loc) (ls : Array Slot), f9_digest_b165 v_all v_states v_refused v_far v_row v_stepAt v_depth v_tries v_values v_wrong v_isEnd v_found v_reached v_textLong x1 = some (r0, v_far', v_row', v_stepAt', v_depth', v_tries', v_values', v_wrong', v_isEnd', v_found', v_reached') → va_P D vwCl (wdM cI cZ h v_all v_past v_states v_refused v_far v_row v_stepAt v_depth v_tries v_values v_wrong v_isEnd v_found v_reached v_stepIn v_laid v_firstRow v_text v_textLong v_spot v_taken v_counted) H → va_D A (wdM cI cZ h v_all v_past v_states v_refused v_far v_row v_stepAt v_depth v_tries v_values v_wrong v_isEnd v_found v_reached v_stepIn v_laid v_firstRow v_text v_textLong v_spot v_taken v_counted) → va_S A s.heap H locs → lv_has ls 6 [(0, .ref (h 0)), (1, .long x1)] → W p l e rm9_digest s m args below meth c H locs 0 0 Q (F0 m 165 ls []) := by
    intro v_far v_row v_stepAt v_depth v_tries v_values v_wrong v_isEnd v_found v_reached x1 H locs ls hf hP hD hS hl
    rw [f9_digest_b165] at hf
    refine lv_iconst (v := 0) hx hb dX9_digest_165 (by decide) ?_
    refine lv_istore_n (lv' := [(3, .int (0 : Int32)), (0, .ref (h 0)), (1, .long x1)]) hx hb dX9_digest_166 rfl hl (by decide) rfl (fun ls hl => ?_)
    exact J167 kFUEL v_far v_row v_stepAt v_depth v_tries v_values v_wrong v_isEnd v_found v_reached x1 (0 : Int32) _ _ _ hf hP hD hS (lv_sub hl [1, 2, 0] rfl)
  have J140 : ∀ (n : Nat) (v_far : Nat → Int32) (v_row : Nat → Int32) (v_stepAt : Nat → Int32) (v_depth : Int32) (v_tries : Nat → Int32) (v_values : Nat → Int32) (v_wrong : Int32) (v_isEnd : Nat → Int32) (v_found : Nat → Int32) (v_reached : Nat → Int32) (x1 : Int64) (x3 : Int32) (H : Heap) (locs : List Loc) (ls : Array Slot), f9_digest_l140 n v_all v_states v_refused v_far v_row v_stepAt v_depth v_tries v_values v_wrong v_isEnd v_found v_reached v_textLong x1 x3 = some (r0, v_far', v_row', v_stepAt', v_depth', v_tries', v_values', v_wrong', v_isEnd', v_found', v_reached') → va_P D vwCl (wdM cI cZ h v_all v_past v_states v_refused v_far v_row v_stepAt v_depth v_tries v_values v_wrong v_isEnd v_found v_reached v_stepIn v_laid v_firstRow v_text v_textLong v_spot v_taken v_counted) H → va_D A (wdM cI cZ h v_all v_past v_states v_refused v_far v_row v_stepAt v_depth v_tries v_values v_wrong v_isEnd v_found v_reached v_stepIn v_laid v_firstRow v_text v_textLong v_spot v_taken v_counted) → va_S A s.heap H locs → lv_has ls 6 [(0, .ref (h 0)), (1, .long x1), (3, .int x3)] → W p l e rm9_digest s m args below meth c H locs 0 0 Q (F0 m 140 ls []) := by
    intro n
    induction n with
    | zero =>
      intro v_far v_row v_stepAt v_depth v_tries v_values v_wrong v_isEnd v_found v_reached x1 x3 H locs ls hf
      cases (show (none : Option (Int64 × (Nat → Int32) × (Nat → Int32) × (Nat → Int32) × Int32 × (Nat → Int32) × (Nat → Int32) × Int32 × (Nat → Int32) × (Nat → Int32) × (Nat → Int32))) = some (r0, v_far', v_row', v_stepAt', v_depth', v_tries', v_values', v_wrong', v_isEnd', v_found', v_reached') from hf)
    | succ n ih =>
      intro v_far v_row v_stepAt v_depth v_tries v_values v_wrong v_isEnd v_found v_reached x1 x3 H locs ls hf hP hD hS hl
      rw [f9_digest_l140_s] at hf
      refine lv_iload_n hx hb dX9_digest_140 rfl (lv_at hl 2 rfl) ?_
      refine lv_bipush (v := 6) hx hb dX9_digest_141 (by decide) ?_
      refine lv_icmp_ge (tgt := 165) hx hb dX9_digest_143 (by decide) (fun c10 => ?_) (fun c10 => ?_)
      · rw [if_pos c10] at hf
        exact J165 v_far v_row v_stepAt v_depth v_tries v_values v_wrong v_isEnd v_found v_reached x1 _ _ _ hf hP hD hS (lv_sub hl [0, 1] rfl)
      · rw [if_neg c10] at hf
        refine lv_ldc2 (v := 31) hx hb hown (hts (.constantLong RX9 222 (31)) (by decide +kernel)) dX9_digest_146 ?_
        refine lv_lload_n hx hb dX9_digest_149 rfl (lv_at hl 1 rfl) ?_
        refine lv_lmul hx hb dX9_digest_150 ?_
        refine lv_aload_n hx hb dX9_digest_151 rfl (lv_at hl 0 rfl) ?_
        refine lv_iload_n hx hb dX9_digest_152 rfl (lv_at hl 2 rfl) ?_
        refine kb_bind hf (fun q11 hq11 hf => ?_)
        have hPc : va_P D vwCl (wdM cI cZ h v_all v_past v_states v_refused v_far v_row v_stepAt v_depth v_tries v_values v_wrong v_isEnd v_found v_reached v_stepIn v_laid v_firstRow v_text v_textLong v_spot v_taken v_counted) H := hP.sub [0, 1, 2, 3, 4, 5, 6, 7, 8, 9, 10, 11, 12, 13, 14, 15, 16] rfl
        have hDc : va_D A (wdM cI cZ h v_all v_past v_states v_refused v_far v_row v_stepAt v_depth v_tries v_values v_wrong v_isEnd v_found v_reached v_stepIn v_laid v_firstRow v_text v_textLong v_spot v_taken v_counted) := hD.sub [0, 1, 2, 3, 4, 5, 6, 7, 8, 9, 10, 11, 12, 13, 14, 15, 16] (by decide) rfl
        refine kd_iW (ws' := wdM cI cZ h v_all v_past v_states v_refused q11.2.1 v_row v_stepAt q11.2.2.1 q11.2.2.2.1 q11.2.2.2.2.1 q11.2.2.2.2.2 v_isEnd v_found v_reached v_stepIn v_laid v_firstRow v_text v_textLong v_spot v_taken v_counted) (va_runV (As := [.int x3]) (rest := [.long ((31 : Int64) * x1)]) ⟨hx, hb, hml, hown, hts⟩ (c9_runOf l D cB cI cZ cO h H.size x3 v_all v_past v_states v_refused v_far v_row v_stepAt v_depth v_tries v_values v_wrong v_isEnd v_found v_reached v_stepIn v_laid v_firstRow v_text v_textLong v_spot v_taken v_counted q11.1 q11.2.1 q11.2.2.1 q11.2.2.2.1 q11.2.2.2.2.1 q11.2.2.2.2.2 hq11) (cwV 1 hts gX9_digest_X9_runOf rfl rfl rfl (by decide +kernel) ⟨Nat.le_of_ble_eq_true rfl, Nat.le_of_ble_eq_true rfl⟩) ⟨kb_blind, va_recv hK hPc (ci := 6) (q0 := 0) rfl rfl, kb_pre hPc hDc hK hN⟩ rfl rfl hl.1 rfl (lv_room (Nat.le_of_ble_eq_true rfl)) dX9_digest_153 ⟨Nat.le_refl _, Nat.le_refl _⟩) hP hD hS hA [0, 1, 2, 3, 4, 5, 6, 7, 8, 9, 10, 11, 12, 13, 14, 15, 16] [] rfl rfl rfl rfl rfl (fun H locs hn12 hP hD hS => ?_)
        refine lv_i2l (v := q11.1.toInt64) hx hb dX9_digest_156 rfl ?_
        refine lv_ladd hx hb dX9_digest_157 ?_
        refine lv_lstore_n (lv' := [(1, .long (((31 : Int64) * x1) + q11.1.toInt64)), (0, .ref (h 0)), (3, .int x3)]) hx hb dX9_digest_158 rfl hl (by decide) rfl (fun ls hl => ?_)
        refine lv_iinc (v := (x3 + 1)) (lv' := [(3, .int (x3 + 1)), (1, .long (((31 : Int64) * x1) + q11.1.toInt64)), (0, .ref (h 0))]) hx hb dX9_digest_159 hl (k := 2) rfl rfl (by decide) rfl (fun ls hl => ?_)
        refine lv_goto (tgt := 140) hx hb dX9_digest_162 (by decide) ?_
        exact ih q11.2.1 v_row v_stepAt q11.2.2.1 q11.2.2.2.1 q11.2.2.2.2.1 q11.2.2.2.2.2 v_isEnd v_found v_reached (((31 : Int64) * x1) + q11.1.toInt64) (x3 + 1) _ _ _ hf hP hD hS (lv_sub hl [2, 1, 0] rfl)
  have J126 : ∀ (v_far : Nat → Int32) (v_row : Nat → Int32) (v_stepAt : Nat → Int32) (v_depth : Int32) (v_tries : Nat → Int32) (v_values : Nat → Int32) (v_wrong : Int32) (v_isEnd : Nat → Int32) (v_found : Nat → Int32) (v_reached : Nat → Int32) (x1 : Int64) (H : Heap) (locs : List Loc) (ls : Array Slot), f9_digest_b126 v_all v_states v_refused v_far v_row v_stepAt v_depth v_tries v_values v_wrong v_isEnd v_found v_reached v_textLong x1 = some (r0, v_far', v_row', v_stepAt', v_depth', v_tries', v_values', v_wrong', v_isEnd', v_found', v_reached') → va_P D vwCl (wdM cI cZ h v_all v_past v_states v_refused v_far v_row v_stepAt v_depth v_tries v_values v_wrong v_isEnd v_found v_reached v_stepIn v_laid v_firstRow v_text v_textLong v_spot v_taken v_counted) H → va_D A (wdM cI cZ h v_all v_past v_states v_refused v_far v_row v_stepAt v_depth v_tries v_values v_wrong v_isEnd v_found v_reached v_stepIn v_laid v_firstRow v_text v_textLong v_spot v_taken v_counted) → va_S A s.heap H locs → lv_has ls 6 [(0, .ref (h 0)), (1, .long x1)] → W p l e rm9_digest s m args below meth c H locs 0 0 Q (F0 m 126 ls []) := by
    intro v_far v_row v_stepAt v_depth v_tries v_values v_wrong v_isEnd v_found v_reached x1 H locs ls hf hP hD hS hl
    rw [f9_digest_b126] at hf
    refine lv_ldc2 (v := 31) hx hb hown (hts (.constantLong RX9 222 (31)) (by decide +kernel)) dX9_digest_126 ?_
    refine lv_lload_n hx hb dX9_digest_129 rfl (lv_at hl 1 rfl) ?_
    refine lv_lmul hx hb dX9_digest_130 ?_
    refine lv_aload_n hx hb dX9_digest_131 rfl (lv_at hl 0 rfl) ?_
    refine kb_bind hf (fun q15 hq15 hf => ?_)
    have hPc : va_P D vwCl (wdM cI cZ h v_all v_past v_states v_refused v_far v_row v_stepAt v_depth v_tries v_values v_wrong v_isEnd v_found v_reached v_stepIn v_laid v_firstRow v_text v_textLong v_spot v_taken v_counted) H := hP.sub [0, 1, 2, 3, 4, 5, 6, 7, 8, 9, 10, 11, 12, 13, 14, 15, 16] rfl
    have hDc : va_D A (wdM cI cZ h v_all v_past v_states v_refused v_far v_row v_stepAt v_depth v_tries v_values v_wrong v_isEnd v_found v_reached v_stepIn v_laid v_firstRow v_text v_textLong v_spot v_taken v_counted) := hD.sub [0, 1, 2, 3, 4, 5, 6, 7, 8, 9, 10, 11, 12, 13, 14, 15, 16] (by decide) rfl
    refine kd_iW (ws' := wdM cI cZ h v_all v_past v_states v_refused q15.2.1 v_row v_stepAt v_depth v_tries v_values v_wrong v_isEnd v_found q15.2.2 v_stepIn v_laid v_firstRow v_text v_textLong v_spot v_taken v_counted) (va_runV (As := []) (rest := [.long ((31 : Int64) * x1)]) ⟨hx, hb, hml, hown, hts⟩ (c9_races l D cB cI cZ cO h H.size v_all v_past v_states v_refused v_far v_row v_stepAt v_depth v_tries v_values v_wrong v_isEnd v_found v_reached v_stepIn v_laid v_firstRow v_text v_textLong v_spot v_taken v_counted q15.1 q15.2.1 q15.2.2 hq15) (cwV 0 hts gX9_digest_X9_races rfl rfl rfl (by decide +kernel) ⟨Nat.le_of_ble_eq_true rfl, Nat.le_of_ble_eq_true rfl⟩) ⟨kb_blind, va_recv hK hPc (ci := 6) (q0 := 0) rfl rfl, kb_pre hPc hDc hK hN⟩ rfl rfl hl.1 rfl (lv_room (Nat.le_of_ble_eq_true rfl)) dX9_digest_132 ⟨Nat.le_refl _, Nat.le_refl _⟩) hP hD hS hA [0, 1, 2, 3, 4, 5, 6, 7, 8, 9, 10, 11, 12, 13, 14, 15, 16] [] rfl rfl rfl rfl rfl (fun H locs hn16 hP hD hS => ?_)
    refine lv_i2l (v := q15.1.toInt64) hx hb dX9_digest_135 rfl ?_
    refine lv_ladd hx hb dX9_digest_136 ?_
    refine lv_lstore_n (lv' := [(1, .long (((31 : Int64) * x1) + q15.1.toInt64)), (0, .ref (h 0))]) hx hb dX9_digest_137 rfl hl (by decide) rfl (fun ls hl => ?_)
    refine lv_iconst (v := 0) hx hb dX9_digest_138 (by decide) ?_
    refine lv_istore_n (lv' := [(3, .int (0 : Int32)), (1, .long (((31 : Int64) * x1) + q15.1.toInt64)), (0, .ref (h 0))]) hx hb dX9_digest_139 rfl hl (by decide) rfl (fun ls hl => ?_)
    exact J140 kFUEL q15.2.1 v_row v_stepAt v_depth v_tries v_values v_wrong v_isEnd v_found q15.2.2 (((31 : Int64) * x1) + q15.1.toInt64) (0 : Int32) _ _ _ hf hP hD hS (lv_sub hl [2, 1, 0] rfl)
  have J101 : ∀ (n : Nat) (v_far : Nat → Int32) (v_row : Nat → Int32) (v_stepAt : Nat → Int32) (v_depth : Int32) (v_tries : Nat → Int32) (v_values : Nat → Int32) (v_wrong : Int32) (v_isEnd : Nat → Int32) (v_found : Nat → Int32) (v_reached : Nat → Int32) (x1 : Int64) (x3 : Int32) (H : Heap) (locs : List Loc) (ls : Array Slot), f9_digest_l101 n v_all v_states v_refused v_far v_row v_stepAt v_depth v_tries v_values v_wrong v_isEnd v_found v_reached v_textLong x1 x3 = some (r0, v_far', v_row', v_stepAt', v_depth', v_tries', v_values', v_wrong', v_isEnd', v_found', v_reached') → va_P D vwCl (wdM cI cZ h v_all v_past v_states v_refused v_far v_row v_stepAt v_depth v_tries v_values v_wrong v_isEnd v_found v_reached v_stepIn v_laid v_firstRow v_text v_textLong v_spot v_taken v_counted) H → va_D A (wdM cI cZ h v_all v_past v_states v_refused v_far v_row v_stepAt v_depth v_tries v_values v_wrong v_isEnd v_found v_reached v_stepIn v_laid v_firstRow v_text v_textLong v_spot v_taken v_counted) → va_S A s.heap H locs → lv_has ls 6 [(0, .ref (h 0)), (1, .long x1), (3, .int x3)] → W p l e rm9_digest s m args below meth c H locs 0 0 Q (F0 m 101 ls []) := by
    intro n
    induction n with
    | zero =>
      intro v_far v_row v_stepAt v_depth v_tries v_values v_wrong v_isEnd v_found v_reached x1 x3 H locs ls hf
      cases (show (none : Option (Int64 × (Nat → Int32) × (Nat → Int32) × (Nat → Int32) × Int32 × (Nat → Int32) × (Nat → Int32) × Int32 × (Nat → Int32) × (Nat → Int32) × (Nat → Int32))) = some (r0, v_far', v_row', v_stepAt', v_depth', v_tries', v_values', v_wrong', v_isEnd', v_found', v_reached') from hf)
    | succ n ih =>
      intro v_far v_row v_stepAt v_depth v_tries v_values v_wrong v_isEnd v_found v_reached x1 x3 H locs ls hf hP hD hS hl
      rw [f9_digest_l101_s] at hf
      refine lv_iload_n hx hb dX9_digest_101 rfl (lv_at hl 2 rfl) ?_
      refine lv_iconst (v := 4) hx hb dX9_digest_102 (by decide) ?_
      refine lv_icmp_ge (tgt := 126) hx hb dX9_digest_103 (by decide) (fun c19 => ?_) (fun c19 => ?_)
      · rw [if_pos c19] at hf
        exact J126 v_far v_row v_stepAt v_depth v_tries v_values v_wrong v_isEnd v_found v_reached x1 _ _ _ hf hP hD hS (lv_sub hl [0, 1] rfl)
      · rw [if_neg c19] at hf
        refine lv_ldc2 (v := 31) hx hb hown (hts (.constantLong RX9 222 (31)) (by decide +kernel)) dX9_digest_106 ?_
        refine lv_lload_n hx hb dX9_digest_109 rfl (lv_at hl 1 rfl) ?_
        refine lv_lmul hx hb dX9_digest_110 ?_
        refine lv_aload_n hx hb dX9_digest_111 rfl (lv_at hl 0 rfl) ?_
        refine va_get (D := D) (cl := vwCl) (ci := 6) (v := .ref (h 10)) (C := RX9) (T := TX9) (N := 22) hx hb hts hin9 hown hK hP 0 rfl rfl 12 (by decide) (hts (.fieldLink RX9 38 "StepOrdersModel" "found" "[I") (by decide +kernel)) (fun _ h9 => h9) rfl dX9_digest_112 ?_
        refine lv_iload_n hx hb dX9_digest_115 rfl (lv_at hl 2 rfl) ?_
        refine kb_bind hf (fun v20 hv20 hf => ?_)
        refine ka_iald (D := D) (cl := vwCl) hx hb hK hP 10 1 (f := v_found) rfl rfl (ard_in hv20) (ard_v hv20) dX9_digest_116 ?_
        refine lv_i2l (v := v20.toInt64) hx hb dX9_digest_117 rfl ?_
        refine lv_ladd hx hb dX9_digest_118 ?_
        refine lv_lstore_n (lv' := [(1, .long (((31 : Int64) * x1) + v20.toInt64)), (0, .ref (h 0)), (3, .int x3)]) hx hb dX9_digest_119 rfl hl (by decide) rfl (fun ls hl => ?_)
        refine lv_iinc (v := (x3 + 1)) (lv' := [(3, .int (x3 + 1)), (1, .long (((31 : Int64) * x1) + v20.toInt64)), (0, .ref (h 0))]) hx hb dX9_digest_120 hl (k := 2) rfl rfl (by decide) rfl (fun ls hl => ?_)
        refine lv_goto (tgt := 101) hx hb dX9_digest_123 (by decide) ?_
        exact ih v_far v_row v_stepAt v_depth v_tries v_values v_wrong v_isEnd v_found v_reached (((31 : Int64) * x1) + v20.toInt64) (x3 + 1) _ _ _ hf hP hD hS (lv_sub hl [2, 1, 0] rfl)
  have J95 : ∀ (v_far : Nat → Int32) (v_row : Nat → Int32) (v_stepAt : Nat → Int32) (v_depth : Int32) (v_tries : Nat → Int32) (v_values : Nat → Int32) (v_wrong : Int32) (v_isEnd : Nat → Int32) (v_found : Nat → Int32) (v_reached : Nat → Int32) (x1 : Int64) (H : Heap) (locs : List Loc) (ls : Array Slot), f9_digest_b95 v_all v_states v_refused v_far v_row v_stepAt v_depth v_tries v_values v_wrong v_isEnd v_found v_reached v_textLong x1 = some (r0, v_far', v_row', v_stepAt', v_depth', v_tries', v_values', v_wrong', v_isEnd', v_found', v_reached') → va_P D vwCl (wdM cI cZ h v_all v_past v_states v_refused v_far v_row v_stepAt v_depth v_tries v_values v_wrong v_isEnd v_found v_reached v_stepIn v_laid v_firstRow v_text v_textLong v_spot v_taken v_counted) H → va_D A (wdM cI cZ h v_all v_past v_states v_refused v_far v_row v_stepAt v_depth v_tries v_values v_wrong v_isEnd v_found v_reached v_stepIn v_laid v_firstRow v_text v_textLong v_spot v_taken v_counted) → va_S A s.heap H locs → lv_has ls 6 [(0, .ref (h 0)), (1, .long x1)] → W p l e rm9_digest s m args below meth c H locs 0 0 Q (F0 m 95 ls []) := by
    intro v_far v_row v_stepAt v_depth v_tries v_values v_wrong v_isEnd v_found v_reached x1 H locs ls hf hP hD hS hl
    rw [f9_digest_b95] at hf
    refine lv_aload_n hx hb dX9_digest_95 rfl (lv_at hl 0 rfl) ?_
    refine kb_bind hf (fun q22 hq22 hf => ?_)
    have hPc : va_P D vwCl (wdM cI cZ h v_all v_past v_states v_refused v_far v_row v_stepAt v_depth v_tries v_values v_wrong v_isEnd v_found v_reached v_stepIn v_laid v_firstRow v_text v_textLong v_spot v_taken v_counted) H := hP.sub [0, 1, 2, 3, 4, 5, 6, 7, 8, 9, 10, 11, 12, 13, 14, 15, 16] rfl
    have hDc : va_D A (wdM cI cZ h v_all v_past v_states v_refused v_far v_row v_stepAt v_depth v_tries v_values v_wrong v_isEnd v_found v_reached v_stepIn v_laid v_firstRow v_text v_textLong v_spot v_taken v_counted) := hD.sub [0, 1, 2, 3, 4, 5, 6, 7, 8, 9, 10, 11, 12, 13, 14, 15, 16] (by decide) rfl
    refine kd_vW (ws' := wdM cI cZ h v_all v_past v_states v_refused q22.1 q22.2.1 q22.2.2.1 q22.2.2.2.1 q22.2.2.2.2.1 q22.2.2.2.2.2.1 q22.2.2.2.2.2.2.1 q22.2.2.2.2.2.2.2.1 q22.2.2.2.2.2.2.2.2 v_reached v_stepIn v_laid v_firstRow v_text v_textLong v_spot v_taken v_counted) (va_runV (As := []) (rest := []) ⟨hx, hb, hml, hown, hts⟩ (c9_findsAll l D cB cI cZ cO h H.size v_all v_past v_states v_refused v_far v_row v_stepAt v_depth v_tries v_values v_wrong v_isEnd v_found v_reached v_stepIn v_laid v_firstRow v_text v_textLong v_spot v_taken v_counted q22.1 q22.2.1 q22.2.2.1 q22.2.2.2.1 q22.2.2.2.2.1 q22.2.2.2.2.2.1 q22.2.2.2.2.2.2.1 q22.2.2.2.2.2.2.2.1 q22.2.2.2.2.2.2.2.2 hq22) (cwV 0 hts gX9_digest_X9_findsAll rfl rfl rfl (by decide +kernel) ⟨Nat.le_of_ble_eq_true rfl, Nat.le_of_ble_eq_true rfl⟩) ⟨kb_blind, va_recv hK hPc (ci := 6) (q0 := 0) rfl rfl, kb_pre hPc hDc hK hN⟩ rfl rfl hl.1 rfl (lv_room (Nat.le_of_ble_eq_true rfl)) dX9_digest_96 ⟨Nat.le_refl _, Nat.le_refl _⟩) hP hD hS hA [0, 1, 2, 3, 4, 5, 6, 7, 8, 9, 10, 11, 12, 13, 14, 15, 16] [] rfl rfl rfl rfl rfl (fun H locs hP hD hS => ?_)
    refine lv_iconst (v := 0) hx hb dX9_digest_99 (by decide) ?_
    refine lv_istore_n (lv' := [(3, .int (0 : Int32)), (0, .ref (h 0)), (1, .long x1)]) hx hb dX9_digest_100 rfl hl (by decide) rfl (fun ls hl => ?_)
    exact J101 kFUEL q22.1 q22.2.1 q22.2.2.1 q22.2.2.2.1 q22.2.2.2.2.1 q22.2.2.2.2.2.1 q22.2.2.2.2.2.2.1 q22.2.2.2.2.2.2.2.1 q22.2.2.2.2.2.2.2.2 v_reached x1 (0 : Int32) _ _ _ hf hP hD hS (lv_sub hl [1, 2, 0] rfl)
  have J33 : ∀ (n : Nat) (v_far : Nat → Int32) (v_row : Nat → Int32) (v_stepAt : Nat → Int32) (v_depth : Int32) (v_tries : Nat → Int32) (v_values : Nat → Int32) (v_wrong : Int32) (v_isEnd : Nat → Int32) (v_found : Nat → Int32) (v_reached : Nat → Int32) (x1 : Int64) (x3 : Int32) (H : Heap) (locs : List Loc) (ls : Array Slot), f9_digest_l33 n v_all v_states v_refused v_far v_row v_stepAt v_depth v_tries v_values v_wrong v_isEnd v_found v_reached v_textLong x1 x3 = some (r0, v_far', v_row', v_stepAt', v_depth', v_tries', v_values', v_wrong', v_isEnd', v_found', v_reached') → va_P D vwCl (wdM cI cZ h v_all v_past v_states v_refused v_far v_row v_stepAt v_depth v_tries v_values v_wrong v_isEnd v_found v_reached v_stepIn v_laid v_firstRow v_text v_textLong v_spot v_taken v_counted) H → va_D A (wdM cI cZ h v_all v_past v_states v_refused v_far v_row v_stepAt v_depth v_tries v_values v_wrong v_isEnd v_found v_reached v_stepIn v_laid v_firstRow v_text v_textLong v_spot v_taken v_counted) → va_S A s.heap H locs → lv_has ls 6 [(0, .ref (h 0)), (1, .long x1), (3, .int x3)] → W p l e rm9_digest s m args below meth c H locs 0 0 Q (F0 m 33 ls []) := by
    intro n
    induction n with
    | zero =>
      intro v_far v_row v_stepAt v_depth v_tries v_values v_wrong v_isEnd v_found v_reached x1 x3 H locs ls hf
      cases (show (none : Option (Int64 × (Nat → Int32) × (Nat → Int32) × (Nat → Int32) × Int32 × (Nat → Int32) × (Nat → Int32) × Int32 × (Nat → Int32) × (Nat → Int32) × (Nat → Int32))) = some (r0, v_far', v_row', v_stepAt', v_depth', v_tries', v_values', v_wrong', v_isEnd', v_found', v_reached') from hf)
    | succ n ih =>
      have J89 : ∀ (v_far : Nat → Int32) (v_row : Nat → Int32) (v_stepAt : Nat → Int32) (v_depth : Int32) (v_tries : Nat → Int32) (v_values : Nat → Int32) (v_wrong : Int32) (v_isEnd : Nat → Int32) (v_found : Nat → Int32) (v_reached : Nat → Int32) (x1 : Int64) (x3 : Int32) (H : Heap) (locs : List Loc) (ls : Array Slot), f9_digest_b89 (f9_digest_l33 n) v_all v_states v_refused v_far v_row v_stepAt v_depth v_tries v_values v_wrong v_isEnd v_found v_reached v_textLong x1 x3 = some (r0, v_far', v_row', v_stepAt', v_depth', v_tries', v_values', v_wrong', v_isEnd', v_found', v_reached') → va_P D vwCl (wdM cI cZ h v_all v_past v_states v_refused v_far v_row v_stepAt v_depth v_tries v_values v_wrong v_isEnd v_found v_reached v_stepIn v_laid v_firstRow v_text v_textLong v_spot v_taken v_counted) H → va_D A (wdM cI cZ h v_all v_past v_states v_refused v_far v_row v_stepAt v_depth v_tries v_values v_wrong v_isEnd v_found v_reached v_stepIn v_laid v_firstRow v_text v_textLong v_spot v_taken v_counted) → va_S A s.heap H locs → lv_has ls 6 [(0, .ref (h 0)), (1, .long x1), (3, .int x3)] → W p l e rm9_digest s m args below meth c H locs 0 0 Q (F0 m 89 ls []) := by
        intro v_far v_row v_stepAt v_depth v_tries v_values v_wrong v_isEnd v_found v_reached x1 x3 H locs ls hf hP hD hS hl
        rw [f9_digest_b89] at hf
        refine lv_iinc (v := (x3 + 1)) (lv' := [(3, .int (x3 + 1)), (0, .ref (h 0)), (1, .long x1)]) hx hb dX9_digest_89 hl (k := 2) rfl rfl (by decide) rfl (fun ls hl => ?_)
        refine lv_goto (tgt := 33) hx hb dX9_digest_92 (by decide) ?_
        exact ih v_far v_row v_stepAt v_depth v_tries v_values v_wrong v_isEnd v_found v_reached x1 (x3 + 1) _ _ _ hf hP hD hS (lv_sub hl [1, 2, 0] rfl)
      have J41 : ∀ (n41 : Nat) (v_far : Nat → Int32) (v_row : Nat → Int32) (v_stepAt : Nat → Int32) (v_depth : Int32) (v_tries : Nat → Int32) (v_values : Nat → Int32) (v_wrong : Int32) (v_isEnd : Nat → Int32) (v_found : Nat → Int32) (v_reached : Nat → Int32) (x1 : Int64) (x3 : Int32) (x4 : Int32) (H : Heap) (locs : List Loc) (ls : Array Slot), f9_digest_l41 (f9_digest_l33 n) n41 v_all v_states v_refused v_far v_row v_stepAt v_depth v_tries v_values v_wrong v_isEnd v_found v_reached v_textLong x1 x3 x4 = some (r0, v_far', v_row', v_stepAt', v_depth', v_tries', v_values', v_wrong', v_isEnd', v_found', v_reached') → va_P D vwCl (wdM cI cZ h v_all v_past v_states v_refused v_far v_row v_stepAt v_depth v_tries v_values v_wrong v_isEnd v_found v_reached v_stepIn v_laid v_firstRow v_text v_textLong v_spot v_taken v_counted) H → va_D A (wdM cI cZ h v_all v_past v_states v_refused v_far v_row v_stepAt v_depth v_tries v_values v_wrong v_isEnd v_found v_reached v_stepIn v_laid v_firstRow v_text v_textLong v_spot v_taken v_counted) → va_S A s.heap H locs → lv_has ls 6 [(0, .ref (h 0)), (1, .long x1), (3, .int x3), (4, .int x4)] → W p l e rm9_digest s m args below meth c H locs 0 0 Q (F0 m 41 ls []) := by
        intro n41
        induction n41 with
        | zero =>
          intro v_far v_row v_stepAt v_depth v_tries v_values v_wrong v_isEnd v_found v_reached x1 x3 x4 H locs ls hf
          cases (show (none : Option (Int64 × (Nat → Int32) × (Nat → Int32) × (Nat → Int32) × Int32 × (Nat → Int32) × (Nat → Int32) × Int32 × (Nat → Int32) × (Nat → Int32) × (Nat → Int32))) = some (r0, v_far', v_row', v_stepAt', v_depth', v_tries', v_values', v_wrong', v_isEnd', v_found', v_reached') from hf)
        | succ n41 ih41 =>
          have J83 : ∀ (v_far : Nat → Int32) (v_row : Nat → Int32) (v_stepAt : Nat → Int32) (v_depth : Int32) (v_tries : Nat → Int32) (v_values : Nat → Int32) (v_wrong : Int32) (v_isEnd : Nat → Int32) (v_found : Nat → Int32) (v_reached : Nat → Int32) (x1 : Int64) (x3 : Int32) (x4 : Int32) (H : Heap) (locs : List Loc) (ls : Array Slot), f9_digest_b83 (f9_digest_l33 n) (f9_digest_l41 (f9_digest_l33 n) n41) v_all v_states v_refused v_far v_row v_stepAt v_depth v_tries v_values v_wrong v_isEnd v_found v_reached v_textLong x1 x3 x4 = some (r0, v_far', v_row', v_stepAt', v_depth', v_tries', v_values', v_wrong', v_isEnd', v_found', v_reached') → va_P D vwCl (wdM cI cZ h v_all v_past v_states v_refused v_far v_row v_stepAt v_depth v_tries v_values v_wrong v_isEnd v_found v_reached v_stepIn v_laid v_firstRow v_text v_textLong v_spot v_taken v_counted) H → va_D A (wdM cI cZ h v_all v_past v_states v_refused v_far v_row v_stepAt v_depth v_tries v_values v_wrong v_isEnd v_found v_reached v_stepIn v_laid v_firstRow v_text v_textLong v_spot v_taken v_counted) → va_S A s.heap H locs → lv_has ls 6 [(0, .ref (h 0)), (1, .long x1), (3, .int x3), (4, .int x4)] → W p l e rm9_digest s m args below meth c H locs 0 0 Q (F0 m 83 ls []) := by
            intro v_far v_row v_stepAt v_depth v_tries v_values v_wrong v_isEnd v_found v_reached x1 x3 x4 H locs ls hf hP hD hS hl
            rw [f9_digest_b83] at hf
            refine lv_iinc (v := (x4 + 1)) (lv' := [(4, .int (x4 + 1)), (0, .ref (h 0)), (1, .long x1), (3, .int x3)]) hx hb dX9_digest_83 hl (k := 3) rfl rfl (by decide) rfl (fun ls hl => ?_)
            refine lv_goto (tgt := 41) hx hb dX9_digest_86 (by decide) ?_
            exact ih v_far v_row v_stepAt v_depth v_tries v_values v_wrong v_isEnd v_found v_reached x1 x3 (x4 + 1) _ _ _ hf hP hD hS (lv_sub hl [1, 2, 3, 0] rfl)
          have J54 : ∀ (n54 : Nat) (v_far : Nat → Int32) (v_row : Nat → Int32) (v_stepAt : Nat → Int32) (v_depth : Int32) (v_tries : Nat → Int32) (v_values : Nat → Int32) (v_wrong : Int32) (v_isEnd : Nat → Int32) (v_found : Nat → Int32) (v_reached : Nat → Int32) (x1 : Int64) (x3 : Int32) (x4 : Int32) (x5 : Int32) (H : Heap) (locs : List Loc) (ls : Array Slot), f9_digest_l54 (f9_digest_l33 n) (f9_digest_l41 (f9_digest_l33 n) n41) n54 v_all v_states v_refused v_far v_row v_stepAt v_depth v_tries v_values v_wrong v_isEnd v_found v_reached v_textLong x1 x3 x4 x5 = some (r0, v_far', v_row', v_stepAt', v_depth', v_tries', v_values', v_wrong', v_isEnd', v_found', v_reached') → va_P D vwCl (wdM cI cZ h v_all v_past v_states v_refused v_far v_row v_stepAt v_depth v_tries v_values v_wrong v_isEnd v_found v_reached v_stepIn v_laid v_firstRow v_text v_textLong v_spot v_taken v_counted) H → va_D A (wdM cI cZ h v_all v_past v_states v_refused v_far v_row v_stepAt v_depth v_tries v_values v_wrong v_isEnd v_found v_reached v_stepIn v_laid v_firstRow v_text v_textLong v_spot v_taken v_counted) → va_S A s.heap H locs → lv_has ls 6 [(0, .ref (h 0)), (1, .long x1), (3, .int x3), (4, .int x4), (5, .int x5)] → W p l e rm9_digest s m args below meth c H locs 0 0 Q (F0 m 54 ls []) := by
            intro n54
            induction n54 with
            | zero =>
              intro v_far v_row v_stepAt v_depth v_tries v_values v_wrong v_isEnd v_found v_reached x1 x3 x4 x5 H locs ls hf
              cases (show (none : Option (Int64 × (Nat → Int32) × (Nat → Int32) × (Nat → Int32) × Int32 × (Nat → Int32) × (Nat → Int32) × Int32 × (Nat → Int32) × (Nat → Int32) × (Nat → Int32))) = some (r0, v_far', v_row', v_stepAt', v_depth', v_tries', v_values', v_wrong', v_isEnd', v_found', v_reached') from hf)
            | succ n54 ih54 =>
              intro v_far v_row v_stepAt v_depth v_tries v_values v_wrong v_isEnd v_found v_reached x1 x3 x4 x5 H locs ls hf hP hD hS hl
              rw [f9_digest_l54_s] at hf
              refine lv_iload hx hb dX9_digest_54 (lv_at hl 4 rfl) ?_
              refine lv_iconst (v := 5) hx hb dX9_digest_56 (by decide) ?_
              refine lv_icmp_ge (tgt := 83) hx hb dX9_digest_57 (by decide) (fun c30 => ?_) (fun c30 => ?_)
              · rw [if_pos c30] at hf
                exact J83 v_far v_row v_stepAt v_depth v_tries v_values v_wrong v_isEnd v_found v_reached x1 x3 x4 _ _ _ hf hP hD hS (lv_sub hl [0, 1, 2, 3] rfl)
              · rw [if_neg c30] at hf
                refine lv_ldc2 (v := 31) hx hb hown (hts (.constantLong RX9 222 (31)) (by decide +kernel)) dX9_digest_60 ?_
                refine lv_lload_n hx hb dX9_digest_63 rfl (lv_at hl 1 rfl) ?_
                refine lv_lmul hx hb dX9_digest_64 ?_
                refine lv_aload_n hx hb dX9_digest_65 rfl (lv_at hl 0 rfl) ?_
                refine lv_iload_n hx hb dX9_digest_66 rfl (lv_at hl 2 rfl) ?_
                refine lv_iload hx hb dX9_digest_67 (lv_at hl 3 rfl) ?_
                refine lv_iload hx hb dX9_digest_69 (lv_at hl 4 rfl) ?_
                refine kb_bind hf (fun q31 hq31 hf => ?_)
                have hPc : va_P D vwCl (wdM cI cZ h v_all v_past v_states v_refused v_far v_row v_stepAt v_depth v_tries v_values v_wrong v_isEnd v_found v_reached v_stepIn v_laid v_firstRow v_text v_textLong v_spot v_taken v_counted) H := hP.sub [0, 1, 2, 3, 4, 5, 6, 7, 8, 9, 10, 11, 12, 13, 14, 15, 16] rfl
                have hDc : va_D A (wdM cI cZ h v_all v_past v_states v_refused v_far v_row v_stepAt v_depth v_tries v_values v_wrong v_isEnd v_found v_reached v_stepIn v_laid v_firstRow v_text v_textLong v_spot v_taken v_counted) := hD.sub [0, 1, 2, 3, 4, 5, 6, 7, 8, 9, 10, 11, 12, 13, 14, 15, 16] (by decide) rfl
                refine kd_iR (va_runV (As := [.int x3, .int x4, .int x5]) (rest := [.long ((31 : Int64) * x1)]) ⟨hx, hb, hml, hown, hts⟩ (c9_ofStep l D cB cI cZ cO h H.size x3 x4 x5 v_all v_past v_states v_refused v_far v_row v_stepAt v_depth v_tries v_values v_wrong v_isEnd v_found v_reached v_stepIn v_laid v_firstRow v_text v_textLong v_spot v_taken v_counted q31 hq31) (cwV 3 hts gX9_digest_X9_ofStep rfl rfl rfl (by decide +kernel) ⟨Nat.le_of_ble_eq_true rfl, Nat.le_of_ble_eq_true rfl⟩) ⟨kb_blind, va_recv hK hPc (ci := 6) (q0 := 0) rfl rfl, kb_pre hPc hDc hK hN⟩ rfl rfl hl.1 rfl (lv_room (Nat.le_of_ble_eq_true rfl)) dX9_digest_71 ⟨Nat.le_refl _, Nat.le_refl _⟩) hP hD hS hA [0, 1, 2, 3, 4, 5, 6, 7, 8, 9, 10, 11, 12, 13, 14, 15, 16] rfl (fun H locs hn32 hP hS => ?_)
                refine lv_i2l (v := q31.toInt64) hx hb dX9_digest_74 rfl ?_
                refine lv_ladd hx hb dX9_digest_75 ?_
                refine lv_lstore_n (lv' := [(1, .long (((31 : Int64) * x1) + q31.toInt64)), (0, .ref (h 0)), (3, .int x3), (4, .int x4), (5, .int x5)]) hx hb dX9_digest_76 rfl hl (by decide) rfl (fun ls hl => ?_)
                refine lv_iinc (v := (x5 + 1)) (lv' := [(5, .int (x5 + 1)), (1, .long (((31 : Int64) * x1) + q31.toInt64)), (0, .ref (h 0)), (3, .int x3), (4, .int x4)]) hx hb dX9_digest_77 hl (k := 4) rfl rfl (by decide) rfl (fun ls hl => ?_)
                refine lv_goto (tgt := 54) hx hb dX9_digest_80 (by decide) ?_
                exact ih54 v_far v_row v_stepAt v_depth v_tries v_values v_wrong v_isEnd v_found v_reached (((31 : Int64) * x1) + q31.toInt64) x3 x4 (x5 + 1) _ _ _ hf hP hD hS (lv_sub hl [2, 1, 3, 4, 0] rfl)
          intro v_far v_row v_stepAt v_depth v_tries v_values v_wrong v_isEnd v_found v_reached x1 x3 x4 H locs ls hf hP hD hS hl
          rw [f9_digest_l41_s] at hf
          refine lv_iload hx hb dX9_digest_41 (lv_at hl 3 rfl) ?_
          refine lv_aload_n hx hb dX9_digest_43 rfl (lv_at hl 0 rfl) ?_
          refine lv_iload_n hx hb dX9_digest_44 rfl (lv_at hl 2 rfl) ?_
          refine kb_bind hf (fun q33 hq33 hf => ?_)
          have hPc : va_P D vwCl (wdM cI cZ h v_all v_past v_states v_refused v_far v_row v_stepAt v_depth v_tries v_values v_wrong v_isEnd v_found v_reached v_stepIn v_laid v_firstRow v_text v_textLong v_spot v_taken v_counted) H := hP.sub [0, 1, 2, 3, 4, 5, 6, 7, 8, 9, 10, 11, 12, 13, 14, 15, 16] rfl
          have hDc : va_D A (wdM cI cZ h v_all v_past v_states v_refused v_far v_row v_stepAt v_depth v_tries v_values v_wrong v_isEnd v_found v_reached v_stepIn v_laid v_firstRow v_text v_textLong v_spot v_taken v_counted) := hD.sub [0, 1, 2, 3, 4, 5, 6, 7, 8, 9, 10, 11, 12, 13, 14, 15, 16] (by decide) rfl
          refine kd_iR (va_runV (As := [.int x3]) (rest := [.int x4]) ⟨hx, hb, hml, hown, hts⟩ (c9_many l D cB cI cZ cO h H.size x3 v_all v_past v_states v_refused v_far v_row v_stepAt v_depth v_tries v_values v_wrong v_isEnd v_found v_reached v_stepIn v_laid v_firstRow v_text v_textLong v_spot v_taken v_counted q33 hq33) (cwV 1 hts gX9_digest_X9_many rfl rfl rfl (by decide +kernel) ⟨Nat.le_of_ble_eq_true rfl, Nat.le_of_ble_eq_true rfl⟩) ⟨kb_blind, va_recv hK hPc (ci := 6) (q0 := 0) rfl rfl, kb_pre hPc hDc hK hN⟩ rfl rfl hl.1 rfl (lv_room (Nat.le_of_ble_eq_true rfl)) dX9_digest_45 ⟨Nat.le_refl _, Nat.le_refl _⟩) hP hD hS hA [0, 1, 2, 3, 4, 5, 6, 7, 8, 9, 10, 11, 12, 13, 14, 15, 16] rfl (fun H locs hn34 hP hS => ?_)
          refine lv_icmp_ge (tgt := 89) hx hb dX9_digest_48 (by decide) (fun c35 => ?_) (fun c35 => ?_)
          · rw [if_pos c35] at hf
            exact J89 v_far v_row v_stepAt v_depth v_tries v_values v_wrong v_isEnd v_found v_reached x1 x3 _ _ _ hf hP hD hS (lv_sub hl [0, 1, 2] rfl)
          · rw [if_neg c35] at hf
            refine lv_iconst (v := 0) hx hb dX9_digest_51 (by decide) ?_
            refine lv_istore (lv' := [(5, .int (0 : Int32)), (0, .ref (h 0)), (1, .long x1), (3, .int x3), (4, .int x4)]) hx hb dX9_digest_52 hl (by decide) rfl (fun ls hl => ?_)
            exact J54 kFUEL v_far v_row v_stepAt v_depth v_tries v_values v_wrong v_isEnd v_found v_reached x1 x3 x4 (0 : Int32) _ _ _ hf hP hD hS (lv_sub hl [1, 2, 3, 4, 0] rfl)
      intro v_far v_row v_stepAt v_depth v_tries v_values v_wrong v_isEnd v_found v_reached x1 x3 H locs ls hf hP hD hS hl
      rw [f9_digest_l33_s] at hf
      refine lv_iload_n hx hb dX9_digest_33 rfl (lv_at hl 2 rfl) ?_
      refine lv_iconst (v := 3) hx hb dX9_digest_34 (by decide) ?_
      refine lv_icmp_ge (tgt := 95) hx hb dX9_digest_35 (by decide) (fun c36 => ?_) (fun c36 => ?_)
      · rw [if_pos c36] at hf
        exact J95 v_far v_row v_stepAt v_depth v_tries v_values v_wrong v_isEnd v_found v_reached x1 _ _ _ hf hP hD hS (lv_sub hl [0, 1] rfl)
      · rw [if_neg c36] at hf
        refine lv_iconst (v := 0) hx hb dX9_digest_38 (by decide) ?_
        refine lv_istore (lv' := [(4, .int (0 : Int32)), (0, .ref (h 0)), (1, .long x1), (3, .int x3)]) hx hb dX9_digest_39 hl (by decide) rfl (fun ls hl => ?_)
        exact J41 kFUEL v_far v_row v_stepAt v_depth v_tries v_values v_wrong v_isEnd v_found v_reached x1 x3 (0 : Int32) _ _ _ hf hP hD hS (lv_sub hl [1, 2, 3, 0] rfl)
  have J31 : ∀ (v_far : Nat → Int32) (v_row : Nat → Int32) (v_stepAt : Nat → Int32) (v_depth : Int32) (v_tries : Nat → Int32) (v_values : Nat → Int32) (v_wrong : Int32) (v_isEnd : Nat → Int32) (v_found : Nat → Int32) (v_reached : Nat → Int32) (x1 : Int64) (H : Heap) (locs : List Loc) (ls : Array Slot), f9_digest_b31 v_all v_states v_refused v_far v_row v_stepAt v_depth v_tries v_values v_wrong v_isEnd v_found v_reached v_textLong x1 = some (r0, v_far', v_row', v_stepAt', v_depth', v_tries', v_values', v_wrong', v_isEnd', v_found', v_reached') → va_P D vwCl (wdM cI cZ h v_all v_past v_states v_refused v_far v_row v_stepAt v_depth v_tries v_values v_wrong v_isEnd v_found v_reached v_stepIn v_laid v_firstRow v_text v_textLong v_spot v_taken v_counted) H → va_D A (wdM cI cZ h v_all v_past v_states v_refused v_far v_row v_stepAt v_depth v_tries v_values v_wrong v_isEnd v_found v_reached v_stepIn v_laid v_firstRow v_text v_textLong v_spot v_taken v_counted) → va_S A s.heap H locs → lv_has ls 6 [(0, .ref (h 0)), (1, .long x1)] → W p l e rm9_digest s m args below meth c H locs 0 0 Q (F0 m 31 ls []) := by
    intro v_far v_row v_stepAt v_depth v_tries v_values v_wrong v_isEnd v_found v_reached x1 H locs ls hf hP hD hS hl
    rw [f9_digest_b31] at hf
    refine lv_iconst (v := 0) hx hb dX9_digest_31 (by decide) ?_
    refine lv_istore_n (lv' := [(3, .int (0 : Int32)), (0, .ref (h 0)), (1, .long x1)]) hx hb dX9_digest_32 rfl hl (by decide) rfl (fun ls hl => ?_)
    exact J33 kFUEL v_far v_row v_stepAt v_depth v_tries v_values v_wrong v_isEnd v_found v_reached x1 (0 : Int32) _ _ _ hf hP hD hS (lv_sub hl [1, 2, 0] rfl)
  have J6 : ∀ (n : Nat) (v_far : Nat → Int32) (v_row : Nat → Int32) (v_stepAt : Nat → Int32) (v_depth : Int32) (v_tries : Nat → Int32) (v_values : Nat → Int32) (v_wrong : Int32) (v_isEnd : Nat → Int32) (v_found : Nat → Int32) (v_reached : Nat → Int32) (x1 : Int64) (x3 : Int32) (H : Heap) (locs : List Loc) (ls : Array Slot), f9_digest_l6 n v_all v_states v_refused v_far v_row v_stepAt v_depth v_tries v_values v_wrong v_isEnd v_found v_reached v_textLong x1 x3 = some (r0, v_far', v_row', v_stepAt', v_depth', v_tries', v_values', v_wrong', v_isEnd', v_found', v_reached') → va_P D vwCl (wdM cI cZ h v_all v_past v_states v_refused v_far v_row v_stepAt v_depth v_tries v_values v_wrong v_isEnd v_found v_reached v_stepIn v_laid v_firstRow v_text v_textLong v_spot v_taken v_counted) H → va_D A (wdM cI cZ h v_all v_past v_states v_refused v_far v_row v_stepAt v_depth v_tries v_values v_wrong v_isEnd v_found v_reached v_stepIn v_laid v_firstRow v_text v_textLong v_spot v_taken v_counted) → va_S A s.heap H locs → lv_has ls 6 [(0, .ref (h 0)), (1, .long x1), (3, .int x3)] → W p l e rm9_digest s m args below meth c H locs 0 0 Q (F0 m 6 ls []) := by
    intro n
    induction n with
    | zero =>
      intro v_far v_row v_stepAt v_depth v_tries v_values v_wrong v_isEnd v_found v_reached x1 x3 H locs ls hf
      cases (show (none : Option (Int64 × (Nat → Int32) × (Nat → Int32) × (Nat → Int32) × Int32 × (Nat → Int32) × (Nat → Int32) × Int32 × (Nat → Int32) × (Nat → Int32) × (Nat → Int32))) = some (r0, v_far', v_row', v_stepAt', v_depth', v_tries', v_values', v_wrong', v_isEnd', v_found', v_reached') from hf)
    | succ n ih =>
      intro v_far v_row v_stepAt v_depth v_tries v_values v_wrong v_isEnd v_found v_reached x1 x3 H locs ls hf hP hD hS hl
      rw [f9_digest_l6_s] at hf
      refine lv_iload_n hx hb dX9_digest_6 rfl (lv_at hl 2 rfl) ?_
      refine lv_bipush (v := 9) hx hb dX9_digest_7 (by decide) ?_
      refine lv_icmp_ge (tgt := 31) hx hb dX9_digest_9 (by decide) (fun c40 => ?_) (fun c40 => ?_)
      · rw [if_pos c40] at hf
        exact J31 v_far v_row v_stepAt v_depth v_tries v_values v_wrong v_isEnd v_found v_reached x1 _ _ _ hf hP hD hS (lv_sub hl [0, 1] rfl)
      · rw [if_neg c40] at hf
        refine lv_ldc2 (v := 31) hx hb hown (hts (.constantLong RX9 222 (31)) (by decide +kernel)) dX9_digest_12 ?_
        refine lv_lload_n hx hb dX9_digest_15 rfl (lv_at hl 1 rfl) ?_
        refine lv_lmul hx hb dX9_digest_16 ?_
        refine lv_aload_n hx hb dX9_digest_17 rfl (lv_at hl 0 rfl) ?_
        refine lv_iload_n hx hb dX9_digest_18 rfl (lv_at hl 2 rfl) ?_
        refine kb_bind hf (fun q41 hq41 hf => ?_)
        have hPc : va_P D vwCl (wdM cI cZ h v_all v_past v_states v_refused v_far v_row v_stepAt v_depth v_tries v_values v_wrong v_isEnd v_found v_reached v_stepIn v_laid v_firstRow v_text v_textLong v_spot v_taken v_counted) H := hP.sub [0, 1, 2, 3, 4, 5, 6, 7, 8, 9, 10, 11, 12, 13, 14, 15, 16] rfl
        have hDc : va_D A (wdM cI cZ h v_all v_past v_states v_refused v_far v_row v_stepAt v_depth v_tries v_values v_wrong v_isEnd v_found v_reached v_stepIn v_laid v_firstRow v_text v_textLong v_spot v_taken v_counted) := hD.sub [0, 1, 2, 3, 4, 5, 6, 7, 8, 9, 10, 11, 12, 13, 14, 15, 16] (by decide) rfl
        refine kd_iR (va_runV (As := [.int x3]) (rest := [.long ((31 : Int64) * x1)]) ⟨hx, hb, hml, hown, hts⟩ (c9_toldOf l D cB cI cZ cO h H.size x3 v_all v_past v_states v_refused v_far v_row v_stepAt v_depth v_tries v_values v_wrong v_isEnd v_found v_reached v_stepIn v_laid v_firstRow v_text v_textLong v_spot v_taken v_counted q41 hq41) (cwV 1 hts gX9_digest_X9_toldOf rfl rfl rfl (by decide +kernel) ⟨Nat.le_of_ble_eq_true rfl, Nat.le_of_ble_eq_true rfl⟩) ⟨kb_blind, va_recv hK hPc (ci := 6) (q0 := 0) rfl rfl, kb_pre hPc hDc hK hN⟩ rfl rfl hl.1 rfl (lv_room (Nat.le_of_ble_eq_true rfl)) dX9_digest_19 ⟨Nat.le_refl _, Nat.le_refl _⟩) hP hD hS hA [0, 1, 2, 3, 4, 5, 6, 7, 8, 9, 10, 11, 12, 13, 14, 15, 16] rfl (fun H locs hn42 hP hS => ?_)
        refine lv_i2l (v := q41.toInt64) hx hb dX9_digest_22 rfl ?_
        refine lv_ladd hx hb dX9_digest_23 ?_
        refine lv_lstore_n (lv' := [(1, .long (((31 : Int64) * x1) + q41.toInt64)), (0, .ref (h 0)), (3, .int x3)]) hx hb dX9_digest_24 rfl hl (by decide) rfl (fun ls hl => ?_)
        refine lv_iinc (v := (x3 + 1)) (lv' := [(3, .int (x3 + 1)), (1, .long (((31 : Int64) * x1) + q41.toInt64)), (0, .ref (h 0))]) hx hb dX9_digest_25 hl (k := 2) rfl rfl (by decide) rfl (fun ls hl => ?_)
        refine lv_goto (tgt := 6) hx hb dX9_digest_28 (by decide) ?_
        exact ih v_far v_row v_stepAt v_depth v_tries v_values v_wrong v_isEnd v_found v_reached (((31 : Int64) * x1) + q41.toInt64) (x3 + 1) _ _ _ hf hP hD hS (lv_sub hl [2, 1, 0] rfl)
  rw [f9_digest] at hf
  refine lv_ldc2 (v := 2593) hx hb hown (hts (.constantLong RX9 220 (2593)) (by decide +kernel)) dX9_digest_0 ?_
  refine lv_lstore_n (lv' := [(1, .long (2593 : Int64)), (0, .ref (h 0))]) hx hb dX9_digest_3 rfl hl (by decide) rfl (fun ls hl => ?_)
  refine lv_iconst (v := 0) hx hb dX9_digest_4 (by decide) ?_
  refine lv_istore_n (lv' := [(3, .int (0 : Int32)), (1, .long (2593 : Int64)), (0, .ref (h 0))]) hx hb dX9_digest_5 rfl hl (by decide) rfl (fun ls hl => ?_)
  exact J6 kFUEL v_far v_row v_stepAt v_depth v_tries v_values v_wrong v_isEnd v_found v_reached (2593 : Int64) (0 : Int32) _ _ _ hf hP hD hS (lv_sub hl [2, 1, 0] rfl)
