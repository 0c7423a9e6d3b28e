set_option maxHeartbeats 4000000 in
set_option maxRecDepth 100000 in
theorem c9_takesStep (l : Launch) (D : va_G) (cB cI cZ cO : ClassId) (h : Nat → Nat) (sz : Nat) (x1 : Int32) (v_all : Nat → Int32) (v_past : Nat → Int32) (v_states : Int32) (v_refused : Nat → Int32) (v_far : Nat → Int32) (v_row : Nat → Int32) (v_stepAt : Nat → Int32) (v_depth : Int32) (v_tries : Nat → Int32) (v_values : Nat → Int32) (v_wrong : Int32) (v_isEnd : Nat → Int32) (v_found : Nat → Int32) (v_reached : Nat → Int32) (v_stepIn : Nat → Int32) (v_laid : Nat → Int32) (v_firstRow : Nat → Int32) (v_text : Nat → Int32) (v_textLong : Int32) (v_spot : Int32) (v_taken : Int32) (v_counted : Nat → Int32) (r0 : Int32) (v_all' : Nat → Int32) (v_spot' : Int32) (v_taken' : Int32) (v_counted' : Nat → Int32) (hf : f9_takesStep v_all v_text v_textLong v_spot v_taken v_counted x1 = some (r0, v_all', v_spot', v_taken', v_counted')) : Met l yX9_takesStep wsX9_takesStep rm9_takesStep (va_Pc [.ref (h 0), .int x1] (kb_B D (ka_tys cB cI cZ cO) sz (wdM cI cZ h v_all v_past v_states v_refused v_far v_row v_stepAt v_depth v_tries v_values v_wrong v_isEnd v_found v_reached v_stepIn v_laid v_firstRow v_text v_textLong v_spot v_taken v_counted))) (va_Qi (kb_post .boolean r0) (fun _ t => va_P D vwCl (wdM cI cZ h (v_all') v_past v_states v_refused v_far v_row v_stepAt v_depth v_tries v_values v_wrong v_isEnd v_found v_reached v_stepIn v_laid v_firstRow v_text v_textLong (v_spot') (v_taken') (v_counted')) t.heap) (va_A (wdM cI cZ h v_all v_past v_states v_refused v_far v_row v_stepAt v_depth v_tries v_values v_wrong v_isEnd v_found v_reached v_stepIn v_laid v_firstRow v_text v_textLong v_spot v_taken v_counted) sz)) 0 0 (va_A (wdM cI cZ h v_all v_past v_states v_refused v_far v_row v_stepAt v_depth v_tries v_values v_wrong v_isEnd v_found v_reached v_stepIn v_laid v_firstRow v_text v_textLong v_spot v_taken v_counted) sz) := by
  refine kb_metZ (cc := cX9_takesStep) (maxL := 9) (ty := .boolean) (by decide) rfl (Nat.le_of_ble_eq_true rfl) ?_
  intro p e s m args below meth c Q A ls H hx hb hml hown hts hK hN hP hD hS hA hl hend
  have hown : s.vm.findClass RX9 = some m.cls := hown
  have hl : lv_has ls 9 [(0, .ref (h 0)), (1, .int x1)] := hl
  have hin9 : ∀ w ∈ u_ws RX9 TX9 22, w ∈ wsX9_takesStep := by decide +kernel
  have J229 : ∀ (v_all : Nat → Int32) (v_spot : Int32) (v_taken : Int32) (v_counted : Nat → Int32) (x1 : Int32) (x3 : Int32) (x5 : Int32) (x7 : Int32) (H : Heap) (locs : List Loc) (ls : Array Slot), f9_takesStep_b229 v_all v_text v_textLong v_spot v_taken v_counted x1 x3 x5 x7 = some (r0, v_all', v_spot', v_taken', v_counted') → va_P D vwCl (wdM cI cZ h v_all v_past v_states v_refused v_far v_row v_stepAt v_depth v_tries v_values v_wrong v_isEnd v_found v_reached v_stepIn v_laid v_firstRow v_text v_textLong v_spot v_taken v_counted) H → va_D A (wdM cI cZ h v_all v_past v_states v_refused v_far v_row v_stepAt v_depth v_tries v_values v_wrong v_isEnd v_found v_reached v_stepIn v_laid v_firstRow v_text v_textLong v_spot v_taken v_counted) → va_S A s.heap H locs → lv_has ls 9 [(0, .ref (h 0)), (1, .int x1), (3, .int x3), (5, .int x5), (7, .int x7)] → W p l e rm9_takesStep s m args below meth c H locs 0 0 Q (F0 m 229 ls []) := by
    intro v_all v_spot v_taken v_counted x1 x3 x5 x7 H locs ls hf hP hD hS hl
    rw [f9_takesStep_b229] at hf
    refine lv_aload_n hx hb dX9_takesStep_229 rfl (lv_at hl 0 rfl) ?_
    refine va_get (D := D) (cl := vwCl) (ci := 6) (v := .int v_taken) (C := RX9) (T := TX9) (N := 22) hx hb hts hin9 hown hK hP 0 rfl rfl 20 (by decide) (hts (.fieldLink RX9 202 "StepOrdersModel" "taken" "I") (by decide +kernel)) (fun _ h9 => h9) rfl dX9_takesStep_230 ?_
    refine lv_istore (lv' := [(8, .int v_taken), (0, .ref (h 0)), (1, .int x1), (3, .int x3), (5, .int x5), (7, .int x7)]) hx hb dX9_takesStep_233 hl (by decide) rfl (fun ls hl => ?_)
    refine lv_aload_n hx hb dX9_takesStep_235 rfl (lv_at hl 1 rfl) ?_
    refine kb_bind hf (fun q8 hq8 hf => ?_)
    have hPc : va_P D vwCl (wdM cI cZ h v_all v_past v_states v_refused v_far v_row v_stepAt v_depth v_tries v_values v_wrong v_isEnd v_found v_reached v_stepIn v_laid v_firstRow v_text v_textLong v_spot v_taken v_counted) H := hP.sub [0, 1, 2, 3, 4, 5, 6, 7, 8, 9, 10, 11, 12, 13, 14, 15, 16] rfl
    have hDc : va_D A (wdM cI cZ h v_all v_past v_states v_refused v_far v_row v_stepAt v_depth v_tries v_values v_wrong v_isEnd v_found v_reached v_stepIn v_laid v_firstRow v_text v_textLong v_spot v_taken v_counted) := hD.sub [0, 1, 2, 3, 4, 5, 6, 7, 8, 9, 10, 11, 12, 13, 14, 15, 16] (by decide) rfl
    refine kd_iW (ws' := wdM cI cZ h v_all v_past v_states v_refused v_far v_row v_stepAt v_depth v_tries v_values v_wrong v_isEnd v_found v_reached v_stepIn v_laid v_firstRow v_text v_textLong q8.2 v_taken v_counted) (va_runV (As := []) (rest := []) ⟨hx, hb, hml, hown, hts⟩ (c9_here l D cB cI cZ cO h H.size v_all v_past v_states v_refused v_far v_row v_stepAt v_depth v_tries v_values v_wrong v_isEnd v_found v_reached v_stepIn v_laid v_firstRow v_text v_textLong v_spot v_taken v_counted q8.1 q8.2 hq8) (cwV 0 hts gX9_takesStep_X9_here rfl rfl rfl (by decide +kernel) ⟨Nat.le_of_ble_eq_true rfl, Nat.le_of_ble_eq_true rfl⟩) ⟨kb_blind, va_recv hK hPc (ci := 6) (q0 := 0) rfl rfl, kb_pre hPc hDc hK hN⟩ rfl rfl hl.1 rfl (lv_room (Nat.le_of_ble_eq_true rfl)) dX9_takesStep_236 ⟨Nat.le_refl _, Nat.le_refl _⟩) hP hD hS hA [0, 1, 2, 3, 4, 5, 6, 7, 8, 9, 10, 11, 12, 13, 14, 15, 16] [] rfl rfl (fun _ h9 => absurd h9 List.not_mem_nil) rfl rfl (fun H locs hn9 hP hD hS => ?_)
    refine lv_bipush (v := 59) hx hb dX9_takesStep_239 (by decide) ?_
    refine lv_icmp_eq (tgt := 246) hx hb dX9_takesStep_241 (by decide) (fun c10 => ?_) (fun c10 => ?_)
    · rw [if_pos c10] at hf
      refine lv_aload_n hx hb dX9_takesStep_246 rfl (lv_at hl 1 rfl) ?_
      refine lv_dup hx hb dX9_takesStep_247 rfl ?_
      refine va_get (D := D) (cl := vwCl) (ci := 6) (v := .int q8.2) (C := RX9) (T := TX9) (N := 22) hx hb hts hin9 hown hK hP 0 rfl rfl 19 (by decide) (hts (.fieldLink RX9 196 "StepOrdersModel" "spot" "I") (by decide +kernel)) (fun _ h9 => h9) rfl dX9_takesStep_248 ?_
      refine lv_iconst (v := 1) hx hb dX9_takesStep_251 (by decide) ?_
      refine lv_iadd hx hb dX9_takesStep_252 ?_
      refine va_put (D := D) (cl := vwCl) (ci := 6) (v := .int (q8.2 + (1 : Int32))) (ty := .int) (C := RX9) (T := TX9) (N := 22) hx hb hts hin9 tyX9 tyX9_ok nmX9 hown hK hP hD hS 0 rfl rfl 19 (by decide) (hts (.fieldLink RX9 196 "StepOrdersModel" "spot" "I") (by decide +kernel)) (fun _ h9 => h9) rfl (tyX9_ok 19 (by decide)) rfl rfl (Nat.le_of_ble_eq_true rfl) dX9_takesStep_253 (fun H locs hP hD hS => ?_)
      have hP : va_P D vwCl (wdM cI cZ h v_all v_past v_states v_refused v_far v_row v_stepAt v_depth v_tries v_values v_wrong v_isEnd v_found v_reached v_stepIn v_laid v_firstRow v_text v_textLong (q8.2 + (1 : Int32)) v_taken v_counted) H := hP
      have hD : va_D A (wdM cI cZ h v_all v_past v_states v_refused v_far v_row v_stepAt v_depth v_tries v_values v_wrong v_isEnd v_found v_reached v_stepIn v_laid v_firstRow v_text v_textLong (q8.2 + (1 : Int32)) v_taken v_counted) := hD
      refine lv_aload_n hx hb dX9_takesStep_256 rfl (lv_at hl 1 rfl) ?_
      refine va_get (D := D) (cl := vwCl) (ci := 6) (v := .ref (h 16)) (C := RX9) (T := TX9) (N := 22) hx hb hts hin9 hown hK hP 0 rfl rfl 21 (by decide) (hts (.fieldLink RX9 56 "StepOrdersModel" "counted" "[I") (by decide +kernel)) (fun _ h9 => h9) rfl dX9_takesStep_257 ?_
      refine lv_iload_n hx hb dX9_takesStep_260 rfl (lv_at hl 3 rfl) ?_
      refine lv_dup2_11 hx hb dX9_takesStep_261 rfl rfl ?_
      refine kb_bind hf (fun v11 hv11 hf => ?_)
      refine ka_iald (D := D) (cl := vwCl) hx hb hK hP 16 1 (f := v_counted) rfl rfl (ard_in hv11) (ard_v hv11) dX9_takesStep_262 ?_
      refine lv_iconst (v := 1) hx hb dX9_takesStep_263 (by decide) ?_
      refine lv_iadd hx hb dX9_takesStep_264 ?_
      refine kb_bind hf (fun v12 hv12 hf => ?_)
      refine ka_iast (D := D) (cl := vwCl) hx hb hK hP hD hS 16 1 (f := v_counted) (g := v12) rfl rfl (awr_in hv12) (awr_v hv12) dX9_takesStep_265 (fun H locs hP hD hS => ?_)
      have hP : va_P D vwCl (wdM cI cZ h v_all v_past v_states v_refused v_far v_row v_stepAt v_depth v_tries v_values v_wrong v_isEnd v_found v_reached v_stepIn v_laid v_firstRow v_text v_textLong (q8.2 + (1 : Int32)) v_taken v12) H := hP
      have hD : va_D A (wdM cI cZ h v_all v_past v_states v_refused v_far v_row v_stepAt v_depth v_tries v_values v_wrong v_isEnd v_found v_reached v_stepIn v_laid v_firstRow v_text v_textLong (q8.2 + (1 : Int32)) v_taken v12) := hD
      refine lv_iload_n hx hb dX9_takesStep_266 rfl (lv_at hl 2 rfl) ?_
      refine lv_if_eq (tgt := 281) hx hb dX9_takesStep_267 (by decide) (fun c13 => ?_) (fun c13 => ?_)
      · rw [if_pos c13] at hf
        refine lv_iconst (v := 1) hx hb dX9_takesStep_281 (by decide) ?_
        obtain ⟨z1, y1⟩ := Prod.mk.inj (Option.some.inj hf)
        obtain ⟨z2, y2⟩ := Prod.mk.inj y1
        obtain ⟨z3, y3⟩ := Prod.mk.inj y2
        obtain ⟨z4, y4⟩ := Prod.mk.inj y3
        subst z1 z2 z3 z4 y4
        exact hend _ _ _ _ rfl hP hS dX9_takesStep_282
      · rw [if_neg c13] at hf
        refine lv_aload_n hx hb dX9_takesStep_270 rfl (lv_at hl 1 rfl) ?_
        refine lv_iload_n hx hb dX9_takesStep_271 rfl (lv_at hl 3 rfl) ?_
        refine lv_iload hx hb dX9_takesStep_272 (lv_at hl 4 rfl) ?_
        refine lv_iload hx hb dX9_takesStep_274 (lv_at hl 5 rfl) ?_
        refine lv_iload hx hb dX9_takesStep_276 (lv_at hl 0 rfl) ?_
        refine kb_bind hf (fun q14 hq14 hf => ?_)
        have hPc : va_P D vwCl (wdM cI cZ h v_all v_past v_states v_refused v_far v_row v_stepAt v_depth v_tries v_values v_wrong v_isEnd v_found v_reached v_stepIn v_laid v_firstRow v_text v_textLong (q8.2 + (1 : Int32)) v_taken v12) H := hP.sub [0, 1, 2, 3, 4, 5, 6, 7, 8, 9, 10, 11, 12, 13, 14, 15, 16] rfl
        have hDc : va_D A (wdM cI cZ h v_all v_past v_states v_refused v_far v_row v_stepAt v_depth v_tries v_values v_wrong v_isEnd v_found v_reached v_stepIn v_laid v_firstRow v_text v_textLong (q8.2 + (1 : Int32)) v_taken v12) := hD.sub [0, 1, 2, 3, 4, 5, 6, 7, 8, 9, 10, 11, 12, 13, 14, 15, 16] (by decide) rfl
        refine kd_vW (ws' := wdM cI cZ h q14 v_past v_states v_refused v_far v_row v_stepAt v_depth v_tries v_values v_wrong v_isEnd v_found v_reached v_stepIn v_laid v_firstRow v_text v_textLong (q8.2 + (1 : Int32)) v_taken v12) (va_runV (As := [.int x3, .int x5, .int x7, .int v_taken]) (rest := []) ⟨hx, hb, hml, hown, hts⟩ (c9_lays l D cB cI cZ cO h H.size x3 x5 x7 v_taken v_all v_past v_states v_refused v_far v_row v_stepAt v_depth v_tries v_values v_wrong v_isEnd v_found v_reached v_stepIn v_laid v_firstRow v_text v_textLong (q8.2 + (1 : Int32)) v_taken v12 q14 hq14) (cwV 4 hts gX9_takesStep_X9_lays rfl rfl rfl (by decide +kernel) ⟨Nat.le_of_ble_eq_true rfl, Nat.le_of_ble_eq_true rfl⟩) ⟨kb_blind, va_recv hK hPc (ci := 6) (q0 := 0) rfl rfl, kb_pre hPc hDc hK hN⟩ rfl rfl hl.1 rfl (lv_room (Nat.le_of_ble_eq_true rfl)) dX9_takesStep_278 ⟨Nat.le_refl _, Nat.le_refl _⟩) hP hD hS hA [0, 1, 2, 3, 4, 5, 6, 7, 8, 9, 10, 11, 12, 13, 14, 15, 16] [] rfl rfl (fun _ h9 => absurd h9 List.not_mem_nil) rfl rfl (fun H locs hP hD hS => ?_)
        refine lv_iconst (v := 1) hx hb dX9_takesStep_281 (by decide) ?_
        obtain ⟨z1, y1⟩ := Prod.mk.inj (Option.some.inj hf)
        obtain ⟨z2, y2⟩ := Prod.mk.inj y1
        obtain ⟨z3, y3⟩ := Prod.mk.inj y2
        obtain ⟨z4, y4⟩ := Prod.mk.inj y3
        subst z1 z2 z3 z4 y4
        exact hend _ _ _ _ rfl hP hS dX9_takesStep_282
    · rw [if_neg c10] at hf
      refine lv_iconst (v := 0) hx hb dX9_takesStep_244 (by decide) ?_
      obtain ⟨z1, y1⟩ := Prod.mk.inj (Option.some.inj hf)
      obtain ⟨z2, y2⟩ := Prod.mk.inj y1
      obtain ⟨z3, y3⟩ := Prod.mk.inj y2
      obtain ⟨z4, y4⟩ := Prod.mk.inj y3
      subst z1 z2 z3 z4 y4
      exact hend _ _ _ _ rfl hP hS dX9_takesStep_245
  have J221 : ∀ (v_all : Nat → Int32) (v_spot : Int32) (v_taken : Int32) (v_counted : Nat → Int32) (x1 : Int32) (x3 : Int32) (x5 : Int32) (x7 : Int32) (s1 : Int32) (s2 : Int32) (H : Heap) (locs : List Loc) (ls : Array Slot), f9_takesStep_b221 v_all v_text v_textLong v_spot v_taken v_counted x1 x3 x5 x7 s1 s2 = some (r0, v_all', v_spot', v_taken', v_counted') → va_P D vwCl (wdM cI cZ h v_all v_past v_states v_refused v_far v_row v_stepAt v_depth v_tries v_values v_wrong v_isEnd v_found v_reached v_stepIn v_laid v_firstRow v_text v_textLong v_spot v_taken v_counted) H → va_D A (wdM cI cZ h v_all v_past v_states v_refused v_far v_row v_stepAt v_depth v_tries v_values v_wrong v_isEnd v_found v_reached v_stepIn v_laid v_firstRow v_text v_textLong v_spot v_taken v_counted) → va_S A s.heap H locs → lv_has ls 9 [(0, .ref (h 0)), (1, .int x1), (3, .int x3), (5, .int x5), (7, .int x7)] → W p l e rm9_takesStep s m args below meth c H locs 0 0 Q (F0 m 221 ls [.int s2, .int s1, .ref (h 0)]) := by
    intro v_all v_spot v_taken v_counted x1 x3 x5 x7 s1 s2 H locs ls hf hP hD hS hl
    rw [f9_takesStep_b221] at hf
    refine kb_bind hf (fun q18 hq18 hf => ?_)
    have hPc : va_P D vwCl (wdM cI cZ h v_all v_past v_states v_refused v_far v_row v_stepAt v_depth v_tries v_values v_wrong v_isEnd v_found v_reached v_stepIn v_laid v_firstRow v_text v_textLong v_spot v_taken v_counted) H := hP.sub [0, 1, 2, 3, 4, 5, 6, 7, 8, 9, 10, 11, 12, 13, 14, 15, 16] rfl
    have hDc : va_D A (wdM cI cZ h v_all v_past v_states v_refused v_far v_row v_stepAt v_depth v_tries v_values v_wrong v_isEnd v_found v_reached v_stepIn v_laid v_firstRow v_text v_textLong v_spot v_taken v_counted) := hD.sub [0, 1, 2, 3, 4, 5, 6, 7, 8, 9, 10, 11, 12, 13, 14, 15, 16] (by decide) rfl
    refine kd_iW (ws' := wdM cI cZ h v_all v_past v_states v_refused v_far v_row v_stepAt v_depth v_tries v_values v_wrong v_isEnd v_found v_reached v_stepIn v_laid v_firstRow v_text v_textLong q18.2.1 q18.2.2 v_counted) (va_runV (As := [.int s1, .int s2]) (rest := []) ⟨hx, hb, hml, hown, hts⟩ (c9_takes l D cB cI cZ cO h H.size s1 s2 v_all v_past v_states v_refused v_far v_row v_stepAt v_depth v_tries v_values v_wrong v_isEnd v_found v_reached v_stepIn v_laid v_firstRow v_text v_textLong v_spot v_taken v_counted q18.1 q18.2.1 q18.2.2 hq18) (cwV 2 hts gX9_takesStep_X9_takes rfl rfl rfl (by decide +kernel) ⟨Nat.le_of_ble_eq_true rfl, Nat.le_of_ble_eq_true rfl⟩) ⟨kb_blind, va_recv hK hPc (ci := 6) (q0 := 0) rfl rfl, kb_pre hPc hDc hK hN⟩ rfl rfl hl.1 rfl (lv_room (Nat.le_of_ble_eq_true rfl)) dX9_takesStep_221 ⟨Nat.le_refl _, Nat.le_refl _⟩) hP hD hS hA [0, 1, 2, 3, 4, 5, 6, 7, 8, 9, 10, 11, 12, 13, 14, 15, 16] [] rfl rfl (fun _ h9 => absurd h9 List.not_mem_nil) rfl rfl (fun H locs hn19 hP hD hS => ?_)
    refine lv_if_ne (tgt := 229) hx hb dX9_takesStep_224 (by decide) (fun c20 => ?_) (fun c20 => ?_)
    · rw [if_neg c20] at hf
      exact J229 v_all q18.2.1 q18.2.2 v_counted x1 x3 x5 x7 _ _ _ hf hP hD hS (lv_sub hl [0, 1, 2, 3, 4] rfl)
    · rw [if_pos c20] at hf
      refine lv_iconst (v := 0) hx hb dX9_takesStep_227 (by decide) ?_
      obtain ⟨z1, y1⟩ := Prod.mk.inj (Option.some.inj hf)
      obtain ⟨z2, y2⟩ := Prod.mk.inj y1
      obtain ⟨z3, y3⟩ := Prod.mk.inj y2
      obtain ⟨z4, y4⟩ := Prod.mk.inj y3
      subst z1 z2 z3 z4 y4
      exact hend _ _ _ _ rfl hP hS dX9_takesStep_228
  have J208 : ∀ (v_all : Nat → Int32) (v_spot : Int32) (v_taken : Int32) (v_counted : Nat → Int32) (x1 : Int32) (x3 : Int32) (x5 : Int32) (x7 : Int32) (s1 : Int32) (H : Heap) (locs : List Loc) (ls : Array Slot), f9_takesStep_b208 v_all v_text v_textLong v_spot v_taken v_counted x1 x3 x5 x7 s1 = some (r0, v_all', v_spot', v_taken', v_counted') → va_P D vwCl (wdM cI cZ h v_all v_past v_states v_refused v_far v_row v_stepAt v_depth v_tries v_values v_wrong v_isEnd v_found v_reached v_stepIn v_laid v_firstRow v_text v_textLong v_spot v_taken v_counted) H → va_D A (wdM cI cZ h v_all v_past v_states v_refused v_far v_row v_stepAt v_depth v_tries v_values v_wrong v_isEnd v_found v_reached v_stepIn v_laid v_firstRow v_text v_textLong v_spot v_taken v_counted) → va_S A s.heap H locs → lv_has ls 9 [(0, .ref (h 0)), (1, .int x1), (3, .int x3), (5, .int x5), (7, .int x7)] → W p l e rm9_takesStep s m args below meth c H locs 0 0 Q (F0 m 208 ls [.int s1, .ref (h 0)]) := by
    intro v_all v_spot v_taken v_counted x1 x3 x5 x7 s1 H locs ls hf hP hD hS hl
    rw [f9_takesStep_b208] at hf
    refine lv_iload hx hb dX9_takesStep_208 (lv_at hl 3 rfl) ?_
    refine lv_iconst (v := 2) hx hb dX9_takesStep_210 (by decide) ?_
    refine lv_icmp_ne (tgt := 219) hx hb dX9_takesStep_211 (by decide) (fun c22 => ?_) (fun c22 => ?_)
    · rw [if_neg c22] at hf
      refine lv_bipush (v := 57) hx hb dX9_takesStep_219 (by decide) ?_
      exact J221 v_all v_spot v_taken v_counted x1 x3 x5 x7 s1 (57 : Int32) _ _ _ hf hP hD hS (lv_sub hl [0, 1, 2, 3, 4] rfl)
    · rw [if_pos c22] at hf
      refine lv_bipush (v := 100) hx hb dX9_takesStep_214 (by decide) ?_
      refine lv_goto (tgt := 221) hx hb dX9_takesStep_216 (by decide) ?_
      exact J221 v_all v_spot v_taken v_counted x1 x3 x5 x7 s1 (100 : Int32) _ _ _ hf hP hD hS (lv_sub hl [0, 1, 2, 3, 4] rfl)
  have J170 : ∀ (v_all : Nat → Int32) (v_spot : Int32) (v_taken : Int32) (v_counted : Nat → Int32) (x1 : Int32) (x3 : Int32) (x5 : Int32) (x6 : Int32) (s1 : Int32) (s2 : Int32) (H : Heap) (locs : List Loc) (ls : Array Slot), f9_takesStep_b170 v_all v_text v_textLong v_spot v_taken v_counted x1 x3 x5 x6 s1 s2 = some (r0, v_all', v_spot', v_taken', v_counted') → va_P D vwCl (wdM cI cZ h v_all v_past v_states v_refused v_far v_row v_stepAt v_depth v_tries v_values v_wrong v_isEnd v_found v_reached v_stepIn v_laid v_firstRow v_text v_textLong v_spot v_taken v_counted) H → va_D A (wdM cI cZ h v_all v_past v_states v_refused v_far v_row v_stepAt v_depth v_tries v_values v_wrong v_isEnd v_found v_reached v_stepIn v_laid v_firstRow v_text v_textLong v_spot v_taken v_counted) → va_S A s.heap H locs → lv_has ls 9 [(0, .ref (h 0)), (1, .int x1), (3, .int x3), (5, .int x5), (6, .int x6)] → W p l e rm9_takesStep s m args below meth c H locs 0 0 Q (F0 m 170 ls [.int s2, .int s1, .ref (h 0)]) := by
    intro v_all v_spot v_taken v_counted x1 x3 x5 x6 s1 s2 H locs ls hf hP hD hS hl
    rw [f9_takesStep_b170] at hf
    refine kb_bind hf (fun q28 hq28 hf => ?_)
    have hPc : va_P D vwCl (wdM cI cZ h v_all v_past v_states v_refused v_far v_row v_stepAt v_depth v_tries v_values v_wrong v_isEnd v_found v_reached v_stepIn v_laid v_firstRow v_text v_textLong v_spot v_taken v_counted) H := hP.sub [0, 1, 2, 3, 4, 5, 6, 7, 8, 9, 10, 11, 12, 13, 14, 15, 16] rfl
    have hDc : va_D A (wdM cI cZ h v_all v_past v_states v_refused v_far v_row v_stepAt v_depth v_tries v_values v_wrong v_isEnd v_found v_reached v_stepIn v_laid v_firstRow v_text v_textLong v_spot v_taken v_counted) := hD.sub [0, 1, 2, 3, 4, 5, 6, 7, 8, 9, 10, 11, 12, 13, 14, 15, 16] (by decide) rfl
    refine kd_iW (ws' := wdM cI cZ h v_all v_past v_states v_refused v_far v_row v_stepAt v_depth v_tries v_values v_wrong v_isEnd v_found v_reached v_stepIn v_laid v_firstRow v_text v_textLong q28.2.1 q28.2.2 v_counted) (va_runV (As := [.int s1, .int s2]) (rest := []) ⟨hx, hb, hml, hown, hts⟩ (c9_takes l D cB cI cZ cO h H.size s1 s2 v_all v_past v_states v_refused v_far v_row v_stepAt v_depth v_tries v_values v_wrong v_isEnd v_found v_reached v_stepIn v_laid v_firstRow v_text v_textLong v_spot v_taken v_counted q28.1 q28.2.1 q28.2.2 hq28) (cwV 2 hts gX9_takesStep_X9_takes rfl rfl rfl (by decide +kernel) ⟨Nat.le_of_ble_eq_true rfl, Nat.le_of_ble_eq_true rfl⟩) ⟨kb_blind, va_recv hK hPc (ci := 6) (q0 := 0) rfl rfl, kb_pre hPc hDc hK hN⟩ rfl rfl hl.1 rfl (lv_room (Nat.le_of_ble_eq_true rfl)) dX9_takesStep_170 ⟨Nat.le_refl _, Nat.le_refl _⟩) hP hD hS hA [0, 1, 2, 3, 4, 5, 6, 7, 8, 9, 10, 11, 12, 13, 14, 15, 16] [] rfl rfl (fun _ h9 => absurd h9 List.not_mem_nil) rfl rfl (fun H locs hn29 hP hD hS => ?_)
    refine lv_if_ne (tgt := 178) hx hb dX9_takesStep_173 (by decide) (fun c30 => ?_) (fun c30 => ?_)
    · rw [if_neg c30] at hf
      refine lv_aload_n hx hb dX9_takesStep_178 rfl (lv_at hl 0 rfl) ?_
      refine va_get (D := D) (cl := vwCl) (ci := 6) (v := .int q28.2.2) (C := RX9) (T := TX9) (N := 22) hx hb hts hin9 hown hK hP 0 rfl rfl 20 (by decide) (hts (.fieldLink RX9 202 "StepOrdersModel" "taken" "I") (by decide +kernel)) (fun _ h9 => h9) rfl dX9_takesStep_179 ?_
      refine lv_istore (lv' := [(7, .int q28.2.2), (0, .ref (h 0)), (1, .int x1), (3, .int x3), (5, .int x5), (6, .int x6)]) hx hb dX9_takesStep_182 hl (by decide) rfl (fun ls hl => ?_)
      refine lv_aload_n hx hb dX9_takesStep_184 rfl (lv_at hl 1 rfl) ?_
      refine lv_iconst (v := 0) hx hb dX9_takesStep_185 (by decide) ?_
      refine va_put (D := D) (cl := vwCl) (ci := 6) (v := .int (0 : Int32)) (ty := .int) (C := RX9) (T := TX9) (N := 22) hx hb hts hin9 tyX9 tyX9_ok nmX9 hown hK hP hD hS 0 rfl rfl 20 (by decide) (hts (.fieldLink RX9 202 "StepOrdersModel" "taken" "I") (by decide +kernel)) (fun _ h9 => h9) rfl (tyX9_ok 20 (by decide)) rfl rfl (Nat.le_of_ble_eq_true rfl) dX9_takesStep_186 (fun H locs hP hD hS => ?_)
      have hP : va_P D vwCl (wdM cI cZ h v_all v_past v_states v_refused v_far v_row v_stepAt v_depth v_tries v_values v_wrong v_isEnd v_found v_reached v_stepIn v_laid v_firstRow v_text v_textLong q28.2.1 (0 : Int32) v_counted) H := hP
      have hD : va_D A (wdM cI cZ h v_all v_past v_states v_refused v_far v_row v_stepAt v_depth v_tries v_values v_wrong v_isEnd v_found v_reached v_stepIn v_laid v_firstRow v_text v_textLong q28.2.1 (0 : Int32) v_counted) := hD
      refine lv_iload hx hb dX9_takesStep_189 (lv_at hl 5 rfl) ?_
      refine lv_if_ne (tgt := 229) hx hb dX9_takesStep_191 (by decide) (fun c31 => ?_) (fun c31 => ?_)
      · rw [if_neg c31] at hf
        exact J229 v_all q28.2.1 (0 : Int32) v_counted x1 x3 x5 q28.2.2 _ _ _ hf hP hD hS (lv_sub hl [1, 2, 3, 4, 0] rfl)
      · rw [if_pos c31] at hf
        refine lv_aload_n hx hb dX9_takesStep_194 rfl (lv_at hl 1 rfl) ?_
        refine lv_iload hx hb dX9_takesStep_195 (lv_at hl 4 rfl) ?_
        refine lv_iconst (v := 2) hx hb dX9_takesStep_197 (by decide) ?_
        refine lv_icmp_ne (tgt := 206) hx hb dX9_takesStep_198 (by decide) (fun c32 => ?_) (fun c32 => ?_)
        · rw [if_neg c32] at hf
          refine lv_bipush (v := 48) hx hb dX9_takesStep_206 (by decide) ?_
          exact J208 v_all q28.2.1 (0 : Int32) v_counted x1 x3 x5 q28.2.2 (48 : Int32) _ _ _ hf hP hD hS (lv_sub hl [1, 2, 3, 4, 0] rfl)
        · rw [if_pos c32] at hf
          refine lv_bipush (v := 97) hx hb dX9_takesStep_201 (by decide) ?_
          refine lv_goto (tgt := 208) hx hb dX9_takesStep_203 (by decide) ?_
          exact J208 v_all q28.2.1 (0 : Int32) v_counted x1 x3 x5 q28.2.2 (97 : Int32) _ _ _ hf hP hD hS (lv_sub hl [1, 2, 3, 4, 0] rfl)
    · rw [if_pos c30] at hf
      refine lv_iconst (v := 0) hx hb dX9_takesStep_176 (by decide) ?_
      obtain ⟨z1, y1⟩ := Prod.mk.inj (Option.some.inj hf)
      obtain ⟨z2, y2⟩ := Prod.mk.inj y1
      obtain ⟨z3, y3⟩ := Prod.mk.inj y2
      obtain ⟨z4, y4⟩ := Prod.mk.inj y3
      subst z1 z2 z3 z4 y4
      exact hend _ _ _ _ rfl hP hS dX9_takesStep_177
  have J158 : ∀ (v_all : Nat → Int32) (v_spot : Int32) (v_taken : Int32) (v_counted : Nat → Int32) (x1 : Int32) (x3 : Int32) (x5 : Int32) (x6 : Int32) (s1 : Int32) (H : Heap) (locs : List Loc) (ls : Array Slot), f9_takesStep_b158 v_all v_text v_textLong v_spot v_taken v_counted x1 x3 x5 x6 s1 = some (r0, v_all', v_spot', v_taken', v_counted') → va_P D vwCl (wdM cI cZ h v_all v_past v_states v_refused v_far v_row v_stepAt v_depth v_tries v_values v_wrong v_isEnd v_found v_reached v_stepIn v_laid v_firstRow v_text v_textLong v_spot v_taken v_counted) H → va_D A (wdM cI cZ h v_all v_past v_states v_refused v_far v_row v_stepAt v_depth v_tries v_values v_wrong v_isEnd v_found v_reached v_stepIn v_laid v_firstRow v_text v_textLong v_spot v_taken v_counted) → va_S A s.heap H locs → lv_has ls 9 [(0, .ref (h 0)), (1, .int x1), (3, .int x3), (5, .int x5), (6, .int x6)] → W p l e rm9_takesStep s m args below meth c H locs 0 0 Q (F0 m 158 ls [.int s1, .ref (h 0)]) := by
    intro v_all v_spot v_taken v_counted x1 x3 x5 x6 s1 H locs ls hf hP hD hS hl
    rw [f9_takesStep_b158] at hf
    refine lv_iload hx hb dX9_takesStep_158 (lv_at hl 4 rfl) ?_
    refine lv_if_eq (tgt := 168) hx hb dX9_takesStep_160 (by decide) (fun c34 => ?_) (fun c34 => ?_)
    · rw [if_pos c34] at hf
      refine lv_bipush (v := 100) hx hb dX9_takesStep_168 (by decide) ?_
      exact J170 v_all v_spot v_taken v_counted x1 x3 x5 x6 s1 (100 : Int32) _ _ _ hf hP hD hS (lv_sub hl [0, 1, 2, 3, 4] rfl)
    · rw [if_neg c34] at hf
      refine lv_bipush (v := 49) hx hb dX9_takesStep_163 (by decide) ?_
      refine lv_goto (tgt := 170) hx hb dX9_takesStep_165 (by decide) ?_
      exact J170 v_all v_spot v_taken v_counted x1 x3 x5 x6 s1 (49 : Int32) _ _ _ hf hP hD hS (lv_sub hl [0, 1, 2, 3, 4] rfl)
  have J143 : ∀ (v_all : Nat → Int32) (v_spot : Int32) (v_taken : Int32) (v_counted : Nat → Int32) (x1 : Int32) (x3 : Int32) (x5 : Int32) (s0 : Int32) (H : Heap) (locs : List Loc) (ls : Array Slot), f9_takesStep_b143 v_all v_text v_textLong v_spot v_taken v_counted x1 x3 x5 s0 = some (r0, v_all', v_spot', v_taken', v_counted') → va_P D vwCl (wdM cI cZ h v_all v_past v_states v_refused v_far v_row v_stepAt v_depth v_tries v_values v_wrong v_isEnd v_found v_reached v_stepIn v_laid v_firstRow v_text v_textLong v_spot v_taken v_counted) H → va_D A (wdM cI cZ h v_all v_past v_states v_refused v_far v_row v_stepAt v_depth v_tries v_values v_wrong v_isEnd v_found v_reached v_stepIn v_laid v_firstRow v_text v_textLong v_spot v_taken v_counted) → va_S A s.heap H locs → lv_has ls 9 [(0, .ref (h 0)), (1, .int x1), (3, .int x3), (5, .int x5)] → W p l e rm9_takesStep s m args below meth c H locs 0 0 Q (F0 m 143 ls [.int s0]) := by
    intro v_all v_spot v_taken v_counted x1 x3 x5 s0 H locs ls hf hP hD hS hl
    rw [f9_takesStep_b143] at hf
    refine lv_istore (lv' := [(6, .int s0), (0, .ref (h 0)), (1, .int x1), (3, .int x3), (5, .int x5)]) hx hb dX9_takesStep_143 hl (by decide) rfl (fun ls hl => ?_)
    refine lv_aload_n hx hb dX9_takesStep_145 rfl (lv_at hl 1 rfl) ?_
    refine lv_iload hx hb dX9_takesStep_146 (lv_at hl 0 rfl) ?_
    refine lv_if_eq (tgt := 156) hx hb dX9_takesStep_148 (by decide) (fun c36 => ?_) (fun c36 => ?_)
    · rw [if_pos c36] at hf
      refine lv_bipush (v := 97) hx hb dX9_takesStep_156 (by decide) ?_
      exact J158 v_all v_spot v_taken v_counted x1 x3 x5 s0 (97 : Int32) _ _ _ hf hP hD hS (lv_sub hl [1, 2, 3, 4, 0] rfl)
    · rw [if_neg c36] at hf
      refine lv_bipush (v := 48) hx hb dX9_takesStep_151 (by decide) ?_
      refine lv_goto (tgt := 158) hx hb dX9_takesStep_153 (by decide) ?_
      exact J158 v_all v_spot v_taken v_counted x1 x3 x5 s0 (48 : Int32) _ _ _ hf hP hD hS (lv_sub hl [1, 2, 3, 4, 0] rfl)
  have J112 : ∀ (v_all : Nat → Int32) (v_spot : Int32) (v_taken : Int32) (v_counted : Nat → Int32) (x1 : Int32) (x3 : Int32) (s0 : Int32) (H : Heap) (locs : List Loc) (ls : Array Slot), f9_takesStep_b112 v_all v_text v_textLong v_spot v_taken v_counted x1 x3 s0 = some (r0, v_all', v_spot', v_taken', v_counted') → va_P D vwCl (wdM cI cZ h v_all v_past v_states v_refused v_far v_row v_stepAt v_depth v_tries v_values v_wrong v_isEnd v_found v_reached v_stepIn v_laid v_firstRow v_text v_textLong v_spot v_taken v_counted) H → va_D A (wdM cI cZ h v_all v_past v_states v_refused v_far v_row v_stepAt v_depth v_tries v_values v_wrong v_isEnd v_found v_reached v_stepIn v_laid v_firstRow v_text v_textLong v_spot v_taken v_counted) → va_S A s.heap H locs → lv_has ls 9 [(0, .ref (h 0)), (1, .int x1), (3, .int x3)] → W p l e rm9_takesStep s m args below meth c H locs 0 0 Q (F0 m 112 ls [.int s0]) := by
    intro v_all v_spot v_taken v_counted x1 x3 s0 H locs ls hf hP hD hS hl
    rw [f9_takesStep_b112] at hf
    refine lv_istore (lv' := [(5, .int s0), (0, .ref (h 0)), (1, .int x1), (3, .int x3)]) hx hb dX9_takesStep_112 hl (by decide) rfl (fun ls hl => ?_)
    refine lv_iload hx hb dX9_takesStep_114 (lv_at hl 0 rfl) ?_
    refine lv_iconst (v := (-1)) hx hb dX9_takesStep_116 (by decide) ?_
    refine lv_icmp_ne (tgt := 122) hx hb dX9_takesStep_117 (by decide) (fun c39 => ?_) (fun c39 => ?_)
    · rw [if_neg c39] at hf
      refine lv_aload_n hx hb dX9_takesStep_122 rfl (lv_at hl 1 rfl) ?_
      refine lv_dup hx hb dX9_takesStep_123 rfl ?_
      refine va_get (D := D) (cl := vwCl) (ci := 6) (v := .int v_spot) (C := RX9) (T := TX9) (N := 22) hx hb hts hin9 hown hK hP 0 rfl rfl 19 (by decide) (hts (.fieldLink RX9 196 "StepOrdersModel" "spot" "I") (by decide +kernel)) (fun _ h9 => h9) rfl dX9_takesStep_124 ?_
      refine lv_iconst (v := 1) hx hb dX9_takesStep_127 (by decide) ?_
      refine lv_iadd hx hb dX9_takesStep_128 ?_
      refine va_put (D := D) (cl := vwCl) (ci := 6) (v := .int (v_spot + (1 : Int32))) (ty := .int) (C := RX9) (T := TX9) (N := 22) hx hb hts hin9 tyX9 tyX9_ok nmX9 hown hK hP hD hS 0 rfl rfl 19 (by decide) (hts (.fieldLink RX9 196 "StepOrdersModel" "spot" "I") (by decide +kernel)) (fun _ h9 => h9) rfl (tyX9_ok 19 (by decide)) rfl rfl (Nat.le_of_ble_eq_true rfl) dX9_takesStep_129 (fun H locs hP hD hS => ?_)
      have hP : va_P D vwCl (wdM cI cZ h v_all v_past v_states v_refused v_far v_row v_stepAt v_depth v_tries v_values v_wrong v_isEnd v_found v_reached v_stepIn v_laid v_firstRow v_text v_textLong (v_spot + (1 : Int32)) v_taken v_counted) H := hP
      have hD : va_D A (wdM cI cZ h v_all v_past v_states v_refused v_far v_row v_stepAt v_depth v_tries v_values v_wrong v_isEnd v_found v_reached v_stepIn v_laid v_firstRow v_text v_textLong (v_spot + (1 : Int32)) v_taken v_counted) := hD
      refine lv_iload hx hb dX9_takesStep_132 (lv_at hl 0 rfl) ?_
      refine lv_iconst (v := 4) hx hb dX9_takesStep_134 (by decide) ?_
      refine lv_icmp_lt (tgt := 142) hx hb dX9_takesStep_135 (by decide) (fun c40 => ?_) (fun c40 => ?_)
      · rw [if_pos c40] at hf
        refine lv_iconst (v := 0) hx hb dX9_takesStep_142 (by decide) ?_
        exact J143 v_all (v_spot + (1 : Int32)) v_taken v_counted x1 x3 s0 (0 : Int32) _ _ _ hf hP hD hS (lv_sub hl [1, 2, 3, 0] rfl)
      · rw [if_neg c40] at hf
        refine lv_iconst (v := 1) hx hb dX9_takesStep_138 (by decide) ?_
        refine lv_goto (tgt := 143) hx hb dX9_takesStep_139 (by decide) ?_
        exact J143 v_all (v_spot + (1 : Int32)) v_taken v_counted x1 x3 s0 (1 : Int32) _ _ _ hf hP hD hS (lv_sub hl [1, 2, 3, 0] rfl)
    · rw [if_pos c39] at hf
      refine lv_iconst (v := 0) hx hb dX9_takesStep_120 (by decide) ?_
      obtain ⟨z1, y1⟩ := Prod.mk.inj (Option.some.inj hf)
      obtain ⟨z2, y2⟩ := Prod.mk.inj y1
      obtain ⟨z3, y3⟩ := Prod.mk.inj y2
      obtain ⟨z4, y4⟩ := Prod.mk.inj y3
      subst z1 z2 z3 z4 y4
      exact hend _ _ _ _ rfl hP hS dX9_takesStep_121
  rw [f9_takesStep] at hf
  refine lv_aload_n hx hb dX9_takesStep_0 rfl (lv_at hl 0 rfl) ?_
  refine kb_bind hf (fun q41 hq41 hf => ?_)
  have hPc : va_P D vwCl (wdM cI cZ h v_all v_past v_states v_refused v_far v_row v_stepAt v_depth v_tries v_values v_wrong v_isEnd v_found v_reached v_stepIn v_laid v_firstRow v_text v_textLong v_spot v_taken v_counted) H := hP.sub [0, 1, 2, 3, 4, 5, 6, 7, 8, 9, 10, 11, 12, 13, 14, 15, 16] rfl
  have hDc : va_D A (wdM cI cZ h v_all v_past v_states v_refused v_far v_row v_stepAt v_depth v_tries v_values v_wrong v_isEnd v_found v_reached v_stepIn v_laid v_firstRow v_text v_textLong v_spot v_taken v_counted) := hD.sub [0, 1, 2, 3, 4, 5, 6, 7, 8, 9, 10, 11, 12, 13, 14, 15, 16] (by decide) rfl
  refine kd_iW (ws' := wdM cI cZ h v_all v_past v_states v_refused v_far v_row v_stepAt v_depth v_tries v_values v_wrong v_isEnd v_found v_reached v_stepIn v_laid v_firstRow v_text v_textLong q41.2 v_taken v_counted) (va_runV (As := []) (rest := []) ⟨hx, hb, hml, hown, hts⟩ (c9_here l D cB cI cZ cO h H.size v_all v_past v_states v_refused v_far v_row v_stepAt v_depth v_tries v_values v_wrong v_isEnd v_found v_reached v_stepIn v_laid v_firstRow v_text v_textLong v_spot v_taken v_counted q41.1 q41.2 hq41) (cwV 0 hts gX9_takesStep_X9_here rfl rfl rfl (by decide +kernel) ⟨Nat.le_of_ble_eq_true rfl, Nat.le_of_ble_eq_true rfl⟩) ⟨kb_blind, va_recv hK hPc (ci := 6) (q0 := 0) rfl rfl, kb_pre hPc hDc hK hN⟩ rfl rfl hl.1 rfl (lv_room (Nat.le_of_ble_eq_true rfl)) dX9_takesStep_1 ⟨Nat.le_refl _, Nat.le_refl _⟩) hP hD hS hA [0, 1, 2, 3, 4, 5, 6, 7, 8, 9, 10, 11, 12, 13, 14, 15, 16] [] rfl rfl (fun _ h9 => absurd h9 List.not_mem_nil) rfl rfl (fun H locs hn42 hP hD hS => ?_)
  refine lv_istore_n (lv' := [(2, .int q41.1), (0, .ref (h 0)), (1, .int x1)]) hx hb dX9_takesStep_4 rfl hl (by decide) rfl (fun ls hl => ?_)
  refine lv_iload_n hx hb dX9_takesStep_5 rfl (lv_at hl 0 rfl) ?_
  refine lv_bipush (v := 48) hx hb dX9_takesStep_6 (by decide) ?_
  refine lv_isub hx hb dX9_takesStep_8 ?_
  refine lv_istore_n (lv' := [(3, .int (q41.1 - (48 : Int32))), (2, .int q41.1), (0, .ref (h 0)), (1, .int x1)]) hx hb dX9_takesStep_9 rfl hl (by decide) rfl (fun ls hl => ?_)
  refine lv_iload_n hx hb dX9_takesStep_10 rfl (lv_at hl 0 rfl) ?_
  have hPc : va_P D vwCl ([]) H := hP.sub [] rfl
  have hDc : va_D A ([]) := hD.sub [] (by decide) rfl
  refine kd_iR (va_runS (As := [.int (q41.1 - (48 : Int32))]) (rest := []) ⟨hx, hb, hml, hown, hts⟩ (c9_isThread l D cB cI cZ cO h H.size (q41.1 - (48 : Int32)) (f9_isThread (q41.1 - (48 : Int32))) rfl) (va_cwS 1 hts gX9_takesStep_X9_isThread rfl rfl rfl (by decide +kernel) ⟨Nat.le_of_ble_eq_true rfl, Nat.le_of_ble_eq_true rfl⟩) ⟨kb_blind, kb_pre hPc hDc hK hN⟩ rfl rfl hl.1 rfl (lv_room (Nat.le_of_ble_eq_true rfl)) dX9_takesStep_11 ⟨Nat.le_refl _, Nat.le_refl _⟩) hP hD hS hA [] rfl (fun H locs hn43 hP hS => ?_)
  refine lv_if_eq (tgt := 27) hx hb dX9_takesStep_14 (by decide) (fun c44 => ?_) (fun c44 => ?_)
  · rw [if_pos c44] at hf
    refine lv_iconst (v := 0) hx hb dX9_takesStep_27 (by decide) ?_
    obtain ⟨z1, y1⟩ := Prod.mk.inj (Option.some.inj hf)
    obtain ⟨z2, y2⟩ := Prod.mk.inj y1
    obtain ⟨z3, y3⟩ := Prod.mk.inj y2
    obtain ⟨z4, y4⟩ := Prod.mk.inj y3
    subst z1 z2 z3 z4 y4
    exact hend _ _ _ _ rfl hP hS dX9_takesStep_28
  · rw [if_neg c44] at hf
    refine lv_aload_n hx hb dX9_takesStep_17 rfl (lv_at hl 2 rfl) ?_
    refine va_get (D := D) (cl := vwCl) (ci := 6) (v := .ref (h 16)) (C := RX9) (T := TX9) (N := 22) hx hb hts hin9 hown hK hP 0 rfl rfl 21 (by decide) (hts (.fieldLink RX9 56 "StepOrdersModel" "counted" "[I") (by decide +kernel)) (fun _ h9 => h9) rfl dX9_takesStep_18 ?_
    refine lv_iload_n hx hb dX9_takesStep_21 rfl (lv_at hl 0 rfl) ?_
    refine kb_bind hf (fun v45 hv45 hf => ?_)
    refine ka_iald (D := D) (cl := vwCl) hx hb hK hP 16 1 (f := v_counted) rfl rfl (ard_in hv45) (ard_v hv45) dX9_takesStep_22 ?_
    refine lv_iconst (v := 4) hx hb dX9_takesStep_23 (by decide) ?_
    refine lv_icmp_ne (tgt := 29) hx hb dX9_takesStep_24 (by decide) (fun c46 => ?_) (fun c46 => ?_)
    · rw [if_neg c46] at hf
      refine lv_aload_n hx hb dX9_takesStep_29 rfl (lv_at hl 2 rfl) ?_
      refine lv_dup hx hb dX9_takesStep_30 rfl ?_
      refine va_get (D := D) (cl := vwCl) (ci := 6) (v := .int q41.2) (C := RX9) (T := TX9) (N := 22) hx hb hts hin9 hown hK hP 0 rfl rfl 19 (by decide) (hts (.fieldLink RX9 196 "StepOrdersModel" "spot" "I") (by decide +kernel)) (fun _ h9 => h9) rfl dX9_takesStep_31 ?_
      refine lv_iconst (v := 1) hx hb dX9_takesStep_34 (by decide) ?_
      refine lv_iadd hx hb dX9_takesStep_35 ?_
      refine va_put (D := D) (cl := vwCl) (ci := 6) (v := .int (q41.2 + (1 : Int32))) (ty := .int) (C := RX9) (T := TX9) (N := 22) hx hb hts hin9 tyX9 tyX9_ok nmX9 hown hK hP hD hS 0 rfl rfl 19 (by decide) (hts (.fieldLink RX9 196 "StepOrdersModel" "spot" "I") (by decide +kernel)) (fun _ h9 => h9) rfl (tyX9_ok 19 (by decide)) rfl rfl (Nat.le_of_ble_eq_true rfl) dX9_takesStep_36 (fun H locs hP hD hS => ?_)
      have hP : va_P D vwCl (wdM cI cZ h v_all v_past v_states v_refused v_far v_row v_stepAt v_depth v_tries v_values v_wrong v_isEnd v_found v_reached v_stepIn v_laid v_firstRow v_text v_textLong (q41.2 + (1 : Int32)) v_taken v_counted) H := hP
      have hD : va_D A (wdM cI cZ h v_all v_past v_states v_refused v_far v_row v_stepAt v_depth v_tries v_values v_wrong v_isEnd v_found v_reached v_stepIn v_laid v_firstRow v_text v_textLong (q41.2 + (1 : Int32)) v_taken v_counted) := hD
      refine lv_aload_n hx hb dX9_takesStep_39 rfl (lv_at hl 2 rfl) ?_
      refine kb_bind hf (fun q47 hq47 hf => ?_)
      have hPc : va_P D vwCl (wdM cI cZ h v_all v_past v_states v_refused v_far v_row v_stepAt v_depth v_tries v_values v_wrong v_isEnd v_found v_reached v_stepIn v_laid v_firstRow v_text v_textLong (q41.2 + (1 : Int32)) v_taken v_counted) H := hP.sub [0, 1, 2, 3, 4, 5, 6, 7, 8, 9, 10, 11, 12, 13, 14, 15, 16] rfl
      have hDc : va_D A (wdM cI cZ h v_all v_past v_states v_refused v_far v_row v_stepAt v_depth v_tries v_values v_wrong v_isEnd v_found v_reached v_stepIn v_laid v_firstRow v_text v_textLong (q41.2 + (1 : Int32)) v_taken v_counted) := hD.sub [0, 1, 2, 3, 4, 5, 6, 7, 8, 9, 10, 11, 12, 13, 14, 15, 16] (by decide) rfl
      refine kd_iW (ws' := wdM cI cZ h v_all v_past v_states v_refused v_far v_row v_stepAt v_depth v_tries v_values v_wrong v_isEnd v_found v_reached v_stepIn v_laid v_firstRow v_text v_textLong q47.2 v_taken v_counted) (va_runV (As := []) (rest := []) ⟨hx, hb, hml, hown, hts⟩ (c9_here l D cB cI cZ cO h H.size v_all v_past v_states v_refused v_far v_row v_stepAt v_depth v_tries v_values v_wrong v_isEnd v_found v_reached v_stepIn v_laid v_firstRow v_text v_textLong (q41.2 + (1 : Int32)) v_taken v_counted q47.1 q47.2 hq47) (cwV 0 hts gX9_takesStep_X9_here rfl rfl rfl (by decide +kernel) ⟨Nat.le_of_ble_eq_true rfl, Nat.le_of_ble_eq_true rfl⟩) ⟨kb_blind, va_recv hK hPc (ci := 6) (q0 := 0) rfl rfl, kb_pre hPc hDc hK hN⟩ rfl rfl hl.1 rfl (lv_room (Nat.le_of_ble_eq_true rfl)) dX9_takesStep_40 ⟨Nat.le_refl _, Nat.le_refl _⟩) hP hD hS hA [0, 1, 2, 3, 4, 5, 6, 7, 8, 9, 10, 11, 12, 13, 14, 15, 16] [] rfl rfl (fun _ h9 => absurd h9 List.not_mem_nil) rfl rfl (fun H locs hn48 hP hD hS => ?_)
      refine lv_istore (lv' := [(4, .int q47.1), (3, .int (q41.1 - (48 : Int32))), (2, .int q41.1), (0, .ref (h 0)), (1, .int x1)]) hx hb dX9_takesStep_43 hl (by decide) rfl (fun ls hl => ?_)
      refine lv_iload hx hb dX9_takesStep_45 (lv_at hl 0 rfl) ?_
      refine lv_bipush (v := 119) hx hb dX9_takesStep_47 (by decide) ?_
      refine lv_icmp_ne (tgt := 56) hx hb dX9_takesStep_49 (by decide) (fun c49 => ?_) (fun c49 => ?_)
      · rw [if_neg c49] at hf
        refine lv_iload hx hb dX9_takesStep_56 (lv_at hl 0 rfl) ?_
        refine lv_bipush (v := 97) hx hb dX9_takesStep_58 (by decide) ?_
        refine lv_icmp_ne (tgt := 67) hx hb dX9_takesStep_60 (by decide) (fun c50 => ?_) (fun c50 => ?_)
        · rw [if_neg c50] at hf
          refine lv_iload hx hb dX9_takesStep_67 (lv_at hl 0 rfl) ?_
          refine lv_bipush (v := 99) hx hb dX9_takesStep_69 (by decide) ?_
          refine lv_icmp_ne (tgt := 78) hx hb dX9_takesStep_71 (by decide) (fun c51 => ?_) (fun c51 => ?_)
          · rw [if_neg c51] at hf
            refine lv_iload hx hb dX9_takesStep_78 (lv_at hl 0 rfl) ?_
            refine lv_bipush (v := 107) hx hb dX9_takesStep_80 (by decide) ?_
            refine lv_icmp_ne (tgt := 89) hx hb dX9_takesStep_82 (by decide) (fun c52 => ?_) (fun c52 => ?_)
            · rw [if_neg c52] at hf
              refine lv_iload hx hb dX9_takesStep_89 (lv_at hl 0 rfl) ?_
              refine lv_bipush (v := 108) hx hb dX9_takesStep_91 (by decide) ?_
              refine lv_icmp_ne (tgt := 100) hx hb dX9_takesStep_93 (by decide) (fun c53 => ?_) (fun c53 => ?_)
              · rw [if_neg c53] at hf
                refine lv_iload hx hb dX9_takesStep_100 (lv_at hl 0 rfl) ?_
                refine lv_bipush (v := 102) hx hb dX9_takesStep_102 (by decide) ?_
                refine lv_icmp_ne (tgt := 111) hx hb dX9_takesStep_104 (by decide) (fun c54 => ?_) (fun c54 => ?_)
                · rw [if_neg c54] at hf
                  refine lv_iconst (v := (-1)) hx hb dX9_takesStep_111 (by decide) ?_
                  exact J112 v_all q47.2 v_taken v_counted x1 (q41.1 - (48 : Int32)) (-1 : Int32) _ _ _ hf hP hD hS (lv_sub hl [3, 4, 1] rfl)
                · rw [if_pos c54] at hf
                  refine lv_iconst (v := 5) hx hb dX9_takesStep_107 (by decide) ?_
                  refine lv_goto (tgt := 112) hx hb dX9_takesStep_108 (by decide) ?_
                  exact J112 v_all q47.2 v_taken v_counted x1 (q41.1 - (48 : Int32)) (5 : Int32) _ _ _ hf hP hD hS (lv_sub hl [3, 4, 1] rfl)
              · rw [if_pos c53] at hf
                refine lv_iconst (v := 4) hx hb dX9_takesStep_96 (by decide) ?_
                refine lv_goto (tgt := 112) hx hb dX9_takesStep_97 (by decide) ?_
                exact J112 v_all q47.2 v_taken v_counted x1 (q41.1 - (48 : Int32)) (4 : Int32) _ _ _ hf hP hD hS (lv_sub hl [3, 4, 1] rfl)
            · rw [if_pos c52] at hf
              refine lv_iconst (v := 3) hx hb dX9_takesStep_85 (by decide) ?_
              refine lv_goto (tgt := 112) hx hb dX9_takesStep_86 (by decide) ?_
              exact J112 v_all q47.2 v_taken v_counted x1 (q41.1 - (48 : Int32)) (3 : Int32) _ _ _ hf hP hD hS (lv_sub hl [3, 4, 1] rfl)
          · rw [if_pos c51] at hf
            refine lv_iconst (v := 2) hx hb dX9_takesStep_74 (by decide) ?_
            refine lv_goto (tgt := 112) hx hb dX9_takesStep_75 (by decide) ?_
            exact J112 v_all q47.2 v_taken v_counted x1 (q41.1 - (48 : Int32)) (2 : Int32) _ _ _ hf hP hD hS (lv_sub hl [3, 4, 1] rfl)
        · rw [if_pos c50] at hf
          refine lv_iconst (v := 1) hx hb dX9_takesStep_63 (by decide) ?_
          refine lv_goto (tgt := 112) hx hb dX9_takesStep_64 (by decide) ?_
          exact J112 v_all q47.2 v_taken v_counted x1 (q41.1 - (48 : Int32)) (1 : Int32) _ _ _ hf hP hD hS (lv_sub hl [3, 4, 1] rfl)
      · rw [if_pos c49] at hf
        refine lv_iconst (v := 0) hx hb dX9_takesStep_52 (by decide) ?_
        refine lv_goto (tgt := 112) hx hb dX9_takesStep_53 (by decide) ?_
        exact J112 v_all q47.2 v_taken v_counted x1 (q41.1 - (48 : Int32)) (0 : Int32) _ _ _ hf hP hD hS (lv_sub hl [3, 4, 1] rfl)
    · rw [if_pos c46] at hf
      refine lv_iconst (v := 0) hx hb dX9_takesStep_27 (by decide) ?_
      obtain ⟨z1, y1⟩ := Prod.mk.inj (Option.some.inj hf)
      obtain ⟨z2, y2⟩ := Prod.mk.inj y1
      obtain ⟨z3, y3⟩ := Prod.mk.inj y2
      obtain ⟨z4, y4⟩ := Prod.mk.inj y3
      subst z1 z2 z3 z4 y4
      exact hend _ _ _ _ rfl hP hS dX9_takesStep_28

set_option maxHeartbeats 4000000 in
set_option maxRecDepth 100000 in
theorem c9_counts (l : Launch) (D : va_G) (cB cI cZ cO : ClassId) (h : Nat → Nat) (sz : Nat) (v_all : Nat → Int32) (v_past : Nat → Int32) (v_states : Int32) (v_refused : Nat → Int32) (v_far : Nat → Int32) (v_row : Nat → Int32) (v_stepAt : Nat → Int32) (v_depth : Int32) (v_tries : Nat → Int32) (v_values : Nat → Int32) (v_wrong : Int32) (v_isEnd : Nat → Int32) (v_found : Nat → Int32) (v_reached : Nat → Int32) (v_stepIn : Nat → Int32) (v_laid : Nat → Int32) (v_firstRow : Nat → Int32) (v_text : Nat → Int32) (v_textLong : Int32) (v_spot : Int32) (v_taken : Int32) (v_counted : Nat → Int32) (v_counted' : Nat → Int32) (hf : f9_counts v_all v_counted = some (v_counted')) : Met l yX9_counts wsX9_counts rm9_counts (va_Pc [.ref (h 0)] (kb_B D (ka_tys cB cI cZ cO) sz (wdM cI cZ h v_all v_past v_states v_refused v_far v_row v_stepAt v_depth v_tries v_values v_wrong v_isEnd v_found v_reached v_stepIn v_laid v_firstRow v_text v_textLong v_spot v_taken v_counted))) (va_Qv (fun (_ : Unit) => True) (fun _ t => va_P D vwCl (wdM cI cZ h v_all v_past v_states v_refused v_far v_row v_stepAt v_depth v_tries v_values v_wrong v_isEnd v_found v_reached v_stepIn v_laid v_firstRow v_text v_textLong v_spot v_taken (v_counted')) t.heap) (va_A (wdM cI cZ h v_all v_past v_states v_refused v_far v_row v_stepAt v_depth v_tries v_values v_wrong v_isEnd v_found v_reached v_stepIn v_laid v_firstRow v_text v_textLong v_spot v_taken v_counted) sz)) 0 0 (va_A (wdM cI cZ h v_all v_past v_states v_refused v_far v_row v_stepAt v_depth v_tries v_values v_wrong v_isEnd v_found v_reached v_stepIn v_laid v_firstRow v_text v_textLong v_spot v_taken v_counted) sz) := by
  refine kb_metV (cc := cX9_counts) (maxL := 2) (by decide) rfl (Nat.le_of_ble_eq_true rfl) ?_
  intro p e s m args below meth c Q A ls H hx hb hml hown hts hK hN hP hD hS hA hl hend
  have hown : s.vm.findClass RX9 = some m.cls := hown
  have hl : lv_has ls 2 [(0, .ref (h 0))] := hl
  have hin9 : ∀ w ∈ u_ws RX9 TX9 22, w ∈ wsX9_counts := by decide +kernel
  have J2 : ∀ (n : Nat) (v_counted : Nat → Int32) (x1 : Int32) (H : Heap) (locs : List Loc) (ls : Array Slot), f9_counts_l2 n v_all v_counted x1 = some (v_counted') → va_P D vwCl (wdM cI cZ h v_all v_past v_states v_refused v_far v_row v_stepAt v_depth v_tries v_values v_wrong v_isEnd v_found v_reached v_stepIn v_laid v_firstRow v_text v_textLong v_spot v_taken v_counted) H → va_D A (wdM cI cZ h v_all v_past v_states v_refused v_far v_row v_stepAt v_depth v_tries v_values v_wrong v_isEnd v_found v_reached v_stepIn v_laid v_firstRow v_text v_textLong v_spot v_taken v_counted) → va_S A s.heap H locs → lv_has ls 2 [(0, .ref (h 0)), (1, .int x1)] → W p l e rm9_counts s m args below meth c H locs 0 0 Q (F0 m 2 ls []) := by
    intro n
    induction n with
    | zero =>
      intro v_counted x1 H locs ls hf
      cases (show (none : Option ((Nat → Int32))) = some (v_counted') from hf)
    | succ n ih =>
      intro v_counted x1 H locs ls hf hP hD hS hl
      rw [f9_counts_l2_s] at hf
      refine lv_iload_n hx hb dX9_counts_2 rfl (lv_at hl 1 rfl) ?_
      refine lv_iconst (v := 3) hx hb dX9_counts_3 (by decide) ?_
      refine lv_icmp_ge (tgt := 24) hx hb dX9_counts_4 (by decide) (fun c5 => ?_) (fun c5 => ?_)
      · rw [if_pos c5] at hf
        obtain rfl := Option.some.inj hf
        exact hend _ _ _ _ hP hS dX9_counts_24
      · rw [if_neg c5] at hf
        refine lv_aload_n hx hb dX9_counts_7 rfl (lv_at hl 0 rfl) ?_
        refine va_get (D := D) (cl := vwCl) (ci := 6) (v := .ref (h 16)) (C := RX9) (T := TX9) (N := 22) hx hb hts hin9 hown hK hP 0 rfl rfl 21 (by decide) (hts (.fieldLink RX9 56 "StepOrdersModel" "counted" "[I") (by decide +kernel)) (fun _ h9 => h9) rfl dX9_counts_8 ?_
        refine lv_iload_n hx hb dX9_counts_11 rfl (lv_at hl 1 rfl) ?_
        refine lv_aload_n hx hb dX9_counts_12 rfl (lv_at hl 0 rfl) ?_
        refine lv_iload_n hx hb dX9_counts_13 rfl (lv_at hl 1 rfl) ?_
        refine kb_bind hf (fun q6 hq6 hf => ?_)
        have hPc : va_P D vwCl (wdM cI cZ h v_all v_past v_states v_refused v_far v_row v_stepAt v_depth v_tries v_values v_wrong v_isEnd v_found v_reached v_stepIn v_laid v_firstRow v_text v_textLong v_spot v_taken v_counted) H := hP.sub [0, 1, 2, 3, 4, 5, 6, 7, 8, 9, 10, 11, 12, 13, 14, 15, 16] rfl
        have hDc : va_D A (wdM cI cZ h v_all v_past v_states v_refused v_far v_row v_stepAt v_depth v_tries v_values v_wrong v_isEnd v_found v_reached v_stepIn v_laid v_firstRow v_text v_textLong v_spot v_taken v_counted) := hD.sub [0, 1, 2, 3, 4, 5, 6, 7, 8, 9, 10, 11, 12, 13, 14, 15, 16] (by decide) rfl
        refine kd_iR (va_runV (As := [.int x1]) (rest := [.int x1, .ref (h 16)]) ⟨hx, hb, hml, hown, hts⟩ (c9_many l D cB cI cZ cO h H.size x1 v_all v_past v_states v_refused v_far v_row v_stepAt v_depth v_tries v_values v_wrong v_isEnd v_found v_reached v_stepIn v_laid v_firstRow v_text v_textLong v_spot v_taken v_counted q6 hq6) (cwV 1 hts gX9_counts_X9_many rfl rfl rfl (by decide +kernel) ⟨Nat.le_of_ble_eq_true rfl, Nat.le_of_ble_eq_true rfl⟩) ⟨kb_blind, va_recv hK hPc (ci := 6) (q0 := 0) rfl rfl, kb_pre hPc hDc hK hN⟩ rfl rfl hl.1 rfl (lv_room (Nat.le_of_ble_eq_true rfl)) dX9_counts_14 ⟨Nat.le_refl _, Nat.le_refl _⟩) hP hD hS hA [0, 1, 2, 3, 4, 5, 6, 7, 8, 9, 10, 11, 12, 13, 14, 15, 16] rfl (fun H locs hn7 hP hS => ?_)
        refine kb_bind hf (fun v8 hv8 hf => ?_)
        refine ka_iast (D := D) (cl := vwCl) hx hb hK hP hD hS 16 1 (f := v_counted) (g := v8) rfl rfl (awr_in hv8) (awr_v hv8) dX9_counts_17 (fun H locs hP hD hS => ?_)
        have hP : va_P D vwCl (wdM cI cZ h v_all v_past v_states v_refused v_far v_row v_stepAt v_depth v_tries v_values v_wrong v_isEnd v_found v_reached v_stepIn v_laid v_firstRow v_text v_textLong v_spot v_taken v8) H := hP
        have hD : va_D A (wdM cI cZ h v_all v_past v_states v_refused v_far v_row v_stepAt v_depth v_tries v_values v_wrong v_isEnd v_found v_reached v_stepIn v_laid v_firstRow v_text v_textLong v_spot v_taken v8) := hD
        refine lv_iinc (v := (x1 + 1)) (lv' := [(1, .int (x1 + 1)), (0, .ref (h 0))]) hx hb dX9_counts_18 hl (k := 1) rfl rfl (by decide) rfl (fun ls hl => ?_)
        refine lv_goto (tgt := 2) hx hb dX9_counts_21 (by decide) ?_
        exact ih v8 (x1 + 1) _ _ _ hf hP hD hS (lv_sub hl [1, 0] rfl)
  rw [f9_counts] at hf
  refine lv_iconst (v := 0) hx hb dX9_counts_0 (by decide) ?_
  refine lv_istore_n (lv' := [(1, .int (0 : Int32)), (0, .ref (h 0))]) hx hb dX9_counts_1 rfl hl (by decide) rfl (fun ls hl => ?_)
  exact J2 kFUEL v_counted (0 : Int32) _ _ _ hf hP hD hS (lv_sub hl [1, 0] rfl)

set_option maxHeartbeats 4000000 in
set_option maxRecDepth 100000 in
theorem c9_reads (l : Launch) (D : va_G) (cB cI cZ cO : ClassId) (h : Nat → Nat) (sz : Nat) (v_all : Nat → Int32) (v_past : Nat → Int32) (v_states : Int32) (v_refused : Nat → Int32) (v_far : Nat → Int32) (v_row : Nat → Int32) (v_stepAt : Nat → Int32) (v_depth : Int32) (v_tries : Nat → Int32) (v_values : Nat → Int32) (v_wrong : Int32) (v_isEnd : Nat → Int32) (v_found : Nat → Int32) (v_reached : Nat → Int32) (v_stepIn : Nat → Int32) (v_laid : Nat → Int32) (v_firstRow : Nat → Int32) (v_text : Nat → Int32) (v_textLong : Int32) (v_spot : Int32) (v_taken : Int32) (v_counted : Nat → Int32) (r0 : Int32) (v_all' : Nat → Int32) (v_past' : Nat → Int32) (v_states' : Int32) (v_spot' : Int32) (v_taken' : Int32) (v_counted' : Nat → Int32) (hf : f9_reads v_all v_past v_states v_text v_textLong v_spot v_taken v_counted = some (r0, v_all', v_past', v_states', v_spot', v_taken', v_counted')) : Met l yX9_reads wsX9_reads rm9_reads (va_Pc [.ref (h 0)] (kb_B D (ka_tys cB cI cZ cO) sz (wdM cI cZ h v_all v_past v_states v_refused v_far v_row v_stepAt v_depth v_tries v_values v_wrong v_isEnd v_found v_reached v_stepIn v_laid v_firstRow v_text v_textLong v_spot v_taken v_counted))) (va_Qi (kb_post .int r0) (fun _ t => va_P D vwCl (wdM cI cZ h (v_all') (v_past') (v_states') v_refused v_far v_row v_stepAt v_depth v_tries v_values v_wrong v_isEnd v_found v_reached v_stepIn v_laid v_firstRow v_text v_textLong (v_spot') (v_taken') (v_counted')) t.heap) (va_A (wdM cI cZ h v_all v_past v_states v_refused v_far v_row v_stepAt v_depth v_tries v_values v_wrong v_isEnd v_found v_reached v_stepIn v_laid v_firstRow v_text v_textLong v_spot v_taken v_counted) sz)) 0 0 (va_A (wdM cI cZ h v_all v_past v_states v_refused v_far v_row v_stepAt v_depth v_tries v_values v_wrong v_isEnd v_found v_reached v_stepIn v_laid v_firstRow v_text v_textLong v_spot v_taken v_counted) sz) := by
  refine kb_metZ (cc := cX9_reads) (maxL := 4) (ty := .int) (by decide) rfl (Nat.le_of_ble_eq_true rfl) ?_
  intro p e s m args below meth c Q A ls H hx hb hml hown hts hK hN hP hD hS hA hl hend
  have hown : s.vm.findClass RX9 = some m.cls := hown
  have hl : lv_has ls 4 [(0, .ref (h 0))] := hl
  have hin9 : ∀ w ∈ u_ws RX9 TX9 22, w ∈ wsX9_reads := by decide +kernel
  have J19 : ∀ (v_all : Nat → Int32) (v_past : Nat → Int32) (v_states : Int32) (v_spot : Int32) (v_taken : Int32) (v_counted : Nat → Int32) (H : Heap) (locs : List Loc) (ls : Array Slot), f9_reads_b19 v_all v_past v_states v_text v_textLong v_spot v_taken v_counted = some (r0, v_all', v_past', v_states', v_spot', v_taken', v_counted') → va_P D vwCl (wdM cI cZ h v_all v_past v_states v_refused v_far v_row v_stepAt v_depth v_tries v_values v_wrong v_isEnd v_found v_reached v_stepIn v_laid v_firstRow v_text v_textLong v_spot v_taken v_counted) H → va_D A (wdM cI cZ h v_all v_past v_states v_refused v_far v_row v_stepAt v_depth v_tries v_values v_wrong v_isEnd v_found v_reached v_stepIn v_laid v_firstRow v_text v_textLong v_spot v_taken v_counted) → va_S A s.heap H locs → lv_has ls 4 [(0, .ref (h 0))] → W p l e rm9_reads s m args below meth c H locs 0 0 Q (F0 m 19 ls []) := by
    intro v_all v_past v_states v_spot v_taken v_counted H locs ls hf hP hD hS hl
    rw [f9_reads_b19] at hf
    refine lv_bipush (v := (-10)) hx hb dX9_reads_19 (by decide) ?_
    refine lv_aload_n hx hb dX9_reads_21 rfl (lv_at hl 0 rfl) ?_
    refine va_get (D := D) (cl := vwCl) (ci := 6) (v := .int v_spot) (C := RX9) (T := TX9) (N := 22) hx hb hts hin9 hown hK hP 0 rfl rfl 19 (by decide) (hts (.fieldLink RX9 196 "StepOrdersModel" "spot" "I") (by decide +kernel)) (fun _ h9 => h9) rfl dX9_reads_22 ?_
    refine lv_isub hx hb dX9_reads_25 ?_
    obtain ⟨z1, y1⟩ := Prod.mk.inj (Option.some.inj hf)
    obtain ⟨z2, y2⟩ := Prod.mk.inj y1
    obtain ⟨z3, y3⟩ := Prod.mk.inj y2
    obtain ⟨z4, y4⟩ := Prod.mk.inj y3
    obtain ⟨z5, y5⟩ := Prod.mk.inj y4
    obtain ⟨z6, y6⟩ := Prod.mk.inj y5
    subst z1 z2 z3 z4 z5 z6 y6
    exact hend _ _ _ _ rfl hP hS dX9_reads_26
  have J70 : ∀ (v_all : Nat → Int32) (v_past : Nat → Int32) (v_states : Int32) (v_spot : Int32) (v_taken : Int32) (v_counted : Nat → Int32) (x1 : Int32) (H : Heap) (locs : List Loc) (ls : Array Slot), f9_reads_b70 v_all v_past v_states v_text v_textLong v_spot v_taken v_counted x1 = some (r0, v_all', v_past', v_states', v_spot', v_taken', v_counted') → va_P D vwCl (wdM cI cZ h v_all v_past v_states v_refused v_far v_row v_stepAt v_depth v_tries v_values v_wrong v_isEnd v_found v_reached v_stepIn v_laid v_firstRow v_text v_textLong v_spot v_taken v_counted) H → va_D A (wdM cI cZ h v_all v_past v_states v_refused v_far v_row v_stepAt v_depth v_tries v_values v_wrong v_isEnd v_found v_reached v_stepIn v_laid v_firstRow v_text v_textLong v_spot v_taken v_counted) → va_S A s.heap H locs → lv_has ls 4 [(1, .int x1)] → W p l e rm9_reads s m args below meth c H locs 0 0 Q (F0 m 70 ls []) := by
    intro v_all v_past v_states v_spot v_taken v_counted x1 H locs ls hf hP hD hS hl
    rw [f9_reads_b70] at hf
    refine lv_iload_n hx hb dX9_reads_70 rfl (lv_at hl 0 rfl) ?_
    obtain ⟨z1, y1⟩ := Prod.mk.inj (Option.some.inj hf)
    obtain ⟨z2, y2⟩ := Prod.mk.inj y1
    obtain ⟨z3, y3⟩ := Prod.mk.inj y2
    obtain ⟨z4, y4⟩ := Prod.mk.inj y3
    obtain ⟨z5, y5⟩ := Prod.mk.inj y4
    obtain ⟨z6, y6⟩ := Prod.mk.inj y5
    subst z1 z2 z3 z4 z5 z6 y6
    exact hend _ _ _ _ rfl hP hS dX9_reads_71
  have J53 : ∀ (n : Nat) (v_all : Nat → Int32) (v_past : Nat → Int32) (v_states : Int32) (v_spot : Int32) (v_taken : Int32) (v_counted : Nat → Int32) (x1 : Int32) (x2 : Int32) (H : Heap) (locs : List Loc) (ls : Array Slot), f9_reads_l53 n v_all v_past v_states v_text v_textLong v_spot v_taken v_counted x1 x2 = some (r0, v_all', v_past', v_states', v_spot', v_taken', v_counted') → va_P D vwCl (wdM cI cZ h v_all v_past v_states v_refused v_far v_row v_stepAt v_depth v_tries v_values v_wrong v_isEnd v_found v_reached v_stepIn v_laid v_firstRow v_text v_textLong v_spot v_taken v_counted) H → va_D A (wdM cI cZ h v_all v_past v_states v_refused v_far v_row v_stepAt v_depth v_tries v_values v_wrong v_isEnd v_found v_reached v_stepIn v_laid v_firstRow v_text v_textLong v_spot v_taken v_counted) → va_S A s.heap H locs → lv_has ls 4 [(0, .ref (h 0)), (1, .int x1), (2, .int x2)] → W p l e rm9_reads s m args below meth c H locs 0 0 Q (F0 m 53 ls []) := by
    intro n
    induction n with
    | zero =>
      intro v_all v_past v_states v_spot v_taken v_counted x1 x2 H locs ls hf
      cases (show (none : Option (Int32 × (Nat → Int32) × (Nat → Int32) × Int32 × Int32 × Int32 × (Nat → Int32))) = some (r0, v_all', v_past', v_states', v_spot', v_taken', v_counted') from hf)
    | succ n ih =>
      intro v_all v_past v_states v_spot v_taken v_counted x1 x2 H locs ls hf hP hD hS hl
      rw [f9_reads_l53_s] at hf
      refine lv_iload_n hx hb dX9_reads_53 rfl (lv_at hl 2 rfl) ?_
      refine lv_iload_n hx hb dX9_reads_54 rfl (lv_at hl 1 rfl) ?_
      refine lv_icmp_ge (tgt := 70) hx hb dX9_reads_55 (by decide) (fun c4 => ?_) (fun c4 => ?_)
      · rw [if_pos c4] at hf
        exact J70 v_all v_past v_states v_spot v_taken v_counted x1 _ _ _ hf hP hD hS (lv_sub hl [1] rfl)
      · rw [if_neg c4] at hf
        refine lv_aload_n hx hb dX9_reads_58 rfl (lv_at hl 0 rfl) ?_
        refine lv_iconst (v := 1) hx hb dX9_reads_59 (by decide) ?_
        refine kb_bind hf (fun q5 hq5 hf => ?_)
        have hPc : va_P D vwCl (wdM cI cZ h v_all v_past v_states v_refused v_far v_row v_stepAt v_depth v_tries v_values v_wrong v_isEnd v_found v_reached v_stepIn v_laid v_firstRow v_text v_textLong v_spot v_taken v_counted) H := hP.sub [0, 1, 2, 3, 4, 5, 6, 7, 8, 9, 10, 11, 12, 13, 14, 15, 16] rfl
        have hDc : va_D A (wdM cI cZ h v_all v_past v_states v_refused v_far v_row v_stepAt v_depth v_tries v_values v_wrong v_isEnd v_found v_reached v_stepIn v_laid v_firstRow v_text v_textLong v_spot v_taken v_counted) := hD.sub [0, 1, 2, 3, 4, 5, 6, 7, 8, 9, 10, 11, 12, 13, 14, 15, 16] (by decide) rfl
        refine kd_iW (ws' := wdM cI cZ h q5.2.1 v_past v_states v_refused v_far v_row v_stepAt v_depth v_tries v_values v_wrong v_isEnd v_found v_reached v_stepIn v_laid v_firstRow v_text v_textLong q5.2.2.1 q5.2.2.2.1 q5.2.2.2.2) (va_runV (As := [.int (1 : Int32)]) (rest := []) ⟨hx, hb, hml, hown, hts⟩ (c9_takesStep l D cB cI cZ cO h H.size (1 : Int32) v_all v_past v_states v_refused v_far v_row v_stepAt v_depth v_tries v_values v_wrong v_isEnd v_found v_reached v_stepIn v_laid v_firstRow v_text v_textLong v_spot v_taken v_counted q5.1 q5.2.1 q5.2.2.1 q5.2.2.2.1 q5.2.2.2.2 hq5) (cwV 1 hts gX9_reads_X9_takesStep rfl rfl rfl (by decide +kernel) ⟨Nat.le_of_ble_eq_true rfl, Nat.le_of_ble_eq_true rfl⟩) ⟨kb_blind, va_recv hK hPc (ci := 6) (q0 := 0) rfl rfl, kb_pre hPc hDc hK hN⟩ rfl rfl hl.1 rfl (lv_room (Nat.le_of_ble_eq_true rfl)) dX9_reads_60 ⟨Nat.le_refl _, Nat.le_refl _⟩) hP hD hS hA [0, 1, 2, 3, 4, 5, 6, 7, 8, 9, 10, 11, 12, 13, 14, 15, 16] [] rfl rfl (fun _ h9 => absurd h9 List.not_mem_nil) rfl rfl (fun H locs hn6 hP hD hS => ?_)
        refine lv_istore_n (lv' := [(3, .int q5.1), (0, .ref (h 0)), (1, .int x1), (2, .int x2)]) hx hb dX9_reads_63 rfl hl (by decide) rfl (fun ls hl => ?_)
        refine lv_iinc (v := (x2 + 1)) (lv' := [(2, .int (x2 + 1)), (3, .int q5.1), (0, .ref (h 0)), (1, .int x1)]) hx hb dX9_reads_64 hl (k := 3) rfl rfl (by decide) rfl (fun ls hl => ?_)
        refine lv_goto (tgt := 53) hx hb dX9_reads_67 (by decide) ?_
        exact ih q5.2.1 v_past v_states q5.2.2.1 q5.2.2.2.1 q5.2.2.2.2 x1 (x2 + 1) _ _ _ hf hP hD hS (lv_sub hl [2, 3, 0] rfl)
  have J38 : ∀ (v_all : Nat → Int32) (v_past : Nat → Int32) (v_states : Int32) (v_spot : Int32) (v_taken : Int32) (v_counted : Nat → Int32) (x1 : Int32) (H : Heap) (locs : List Loc) (ls : Array Slot), f9_reads_b38 v_all v_past v_states v_text v_textLong v_spot v_taken v_counted x1 = some (r0, v_all', v_past', v_states', v_spot', v_taken', v_counted') → va_P D vwCl (wdM cI cZ h v_all v_past v_states v_refused v_far v_row v_stepAt v_depth v_tries v_values v_wrong v_isEnd v_found v_reached v_stepIn v_laid v_firstRow v_text v_textLong v_spot v_taken v_counted) H → va_D A (wdM cI cZ h v_all v_past v_states v_refused v_far v_row v_stepAt v_depth v_tries v_values v_wrong v_isEnd v_found v_reached v_stepIn v_laid v_firstRow v_text v_textLong v_spot v_taken v_counted) → va_S A s.heap H locs → lv_has ls 4 [(0, .ref (h 0)), (1, .int x1)] → W p l e rm9_reads s m args below meth c H locs 0 0 Q (F0 m 38 ls []) := by
    intro v_all v_past v_states v_spot v_taken v_counted x1 H locs ls hf hP hD hS hl
    rw [f9_reads_b38] at hf
    refine lv_aload_n hx hb dX9_reads_38 rfl (lv_at hl 0 rfl) ?_
    refine kb_bind hf (fun q9 hq9 hf => ?_)
    have hPc : va_P D vwCl (wdM cI cZ h v_all v_past v_states v_refused v_far v_row v_stepAt v_depth v_tries v_values v_wrong v_isEnd v_found v_reached v_stepIn v_laid v_firstRow v_text v_textLong v_spot v_taken v_counted) H := hP.sub [0, 1, 2, 3, 4, 5, 6, 7, 8, 9, 10, 11, 12, 13, 14, 15, 16] rfl
    have hDc : va_D A (wdM cI cZ h v_all v_past v_states v_refused v_far v_row v_stepAt v_depth v_tries v_values v_wrong v_isEnd v_found v_reached v_stepIn v_laid v_firstRow v_text v_textLong v_spot v_taken v_counted) := hD.sub [0, 1, 2, 3, 4, 5, 6, 7, 8, 9, 10, 11, 12, 13, 14, 15, 16] (by decide) rfl
    refine kd_vW (ws' := wdM cI cZ h v_all q9.1 q9.2 v_refused v_far v_row v_stepAt v_depth v_tries v_values v_wrong v_isEnd v_found v_reached v_stepIn v_laid v_firstRow v_text v_textLong v_spot v_taken v_counted) (va_runV (As := []) (rest := []) ⟨hx, hb, hml, hown, hts⟩ (c9_keep l D cB cI cZ cO h H.size v_all v_past v_states v_refused v_far v_row v_stepAt v_depth v_tries v_values v_wrong v_isEnd v_found v_reached v_stepIn v_laid v_firstRow v_text v_textLong v_spot v_taken v_counted q9.1 q9.2 hq9) (cwV 0 hts gX9_reads_X9_keep rfl rfl rfl (by decide +kernel) ⟨Nat.le_of_ble_eq_true rfl, Nat.le_of_ble_eq_true rfl⟩) ⟨kb_blind, va_recv hK hPc (ci := 6) (q0 := 0) rfl rfl, kb_pre hPc hDc hK hN⟩ rfl rfl hl.1 rfl (lv_room (Nat.le_of_ble_eq_true rfl)) dX9_reads_39 ⟨Nat.le_refl _, Nat.le_refl _⟩) hP hD hS hA [0, 1, 2, 3, 4, 5, 6, 7, 8, 9, 10, 11, 12, 13, 14, 15, 16] [] rfl rfl (fun _ h9 => absurd h9 List.not_mem_nil) rfl rfl (fun H locs hP hD hS => ?_)
    refine lv_aload_n hx hb dX9_reads_42 rfl (lv_at hl 0 rfl) ?_
    refine lv_iconst (v := 0) hx hb dX9_reads_43 (by decide) ?_
    refine va_put (D := D) (cl := vwCl) (ci := 6) (v := .int (0 : Int32)) (ty := .int) (C := RX9) (T := TX9) (N := 22) hx hb hts hin9 tyX9 tyX9_ok nmX9 hown hK hP hD hS 0 rfl rfl 19 (by decide) (hts (.fieldLink RX9 196 "StepOrdersModel" "spot" "I") (by decide +kernel)) (fun _ h9 => h9) rfl (tyX9_ok 19 (by decide)) rfl rfl (Nat.le_of_ble_eq_true rfl) dX9_reads_44 (fun H locs hP hD hS => ?_)
    have hP : va_P D vwCl (wdM cI cZ h v_all q9.1 q9.2 v_refused v_far v_row v_stepAt v_depth v_tries v_values v_wrong v_isEnd v_found v_reached v_stepIn v_laid v_firstRow v_text v_textLong (0 : Int32) v_taken v_counted) H := hP
    have hD : va_D A (wdM cI cZ h v_all q9.1 q9.2 v_refused v_far v_row v_stepAt v_depth v_tries v_values v_wrong v_isEnd v_found v_reached v_stepIn v_laid v_firstRow v_text v_textLong (0 : Int32) v_taken v_counted) := hD
    refine lv_aload_n hx hb dX9_reads_47 rfl (lv_at hl 0 rfl) ?_
    refine kb_bind hf (fun q10 hq10 hf => ?_)
    have hPc : va_P D vwCl (wdM cI cZ h v_all q9.1 q9.2 v_refused v_far v_row v_stepAt v_depth v_tries v_values v_wrong v_isEnd v_found v_reached v_stepIn v_laid v_firstRow v_text v_textLong (0 : Int32) v_taken v_counted) H := hP.sub [0, 1, 2, 3, 4, 5, 6, 7, 8, 9, 10, 11, 12, 13, 14, 15, 16] rfl
    have hDc : va_D A (wdM cI cZ h v_all q9.1 q9.2 v_refused v_far v_row v_stepAt v_depth v_tries v_values v_wrong v_isEnd v_found v_reached v_stepIn v_laid v_firstRow v_text v_textLong (0 : Int32) v_taken v_counted) := hD.sub [0, 1, 2, 3, 4, 5, 6, 7, 8, 9, 10, 11, 12, 13, 14, 15, 16] (by decide) rfl
    refine kd_vW (ws' := wdM cI cZ h v_all q9.1 q9.2 v_refused v_far v_row v_stepAt v_depth v_tries v_values v_wrong v_isEnd v_found v_reached v_stepIn v_laid v_firstRow v_text v_textLong (0 : Int32) v_taken q10) (va_runV (As := []) (rest := []) ⟨hx, hb, hml, hown, hts⟩ (c9_counts l D cB cI cZ cO h H.size v_all q9.1 q9.2 v_refused v_far v_row v_stepAt v_depth v_tries v_values v_wrong v_isEnd v_found v_reached v_stepIn v_laid v_firstRow v_text v_textLong (0 : Int32) v_taken v_counted q10 hq10) (cwV 0 hts gX9_reads_X9_counts rfl rfl rfl (by decide +kernel) ⟨Nat.le_of_ble_eq_true rfl, Nat.le_of_ble_eq_true rfl⟩) ⟨kb_blind, va_recv hK hPc (ci := 6) (q0 := 0) rfl rfl, kb_pre hPc hDc hK hN⟩ rfl rfl hl.1 rfl (lv_room (Nat.le_of_ble_eq_true rfl)) dX9_reads_48 ⟨Nat.le_refl _, Nat.le_refl _⟩) hP hD hS hA [0, 1, 2, 3, 4, 5, 6, 7, 8, 9, 10, 11, 12, 13, 14, 15, 16] [] rfl rfl (fun _ h9 => absurd h9 List.not_mem_nil) rfl rfl (fun H locs hP hD hS => ?_)
    refine lv_iconst (v := 0) hx hb dX9_reads_51 (by decide) ?_
    refine lv_istore_n (lv' := [(2, .int (0 : Int32)), (0, .ref (h 0)), (1, .int x1)]) hx hb dX9_reads_52 rfl hl (by decide) rfl (fun ls hl => ?_)
    exact J53 kFUEL v_all q9.1 q9.2 (0 : Int32) v_taken q10 x1 (0 : Int32) _ _ _ hf hP hD hS (lv_sub hl [1, 2, 0] rfl)
  have J11 : ∀ (n : Nat) (v_all : Nat → Int32) (v_past : Nat → Int32) (v_states : Int32) (v_spot : Int32) (v_taken : Int32) (v_counted : Nat → Int32) (x1 : Int32) (H : Heap) (locs : List Loc) (ls : Array Slot), f9_reads_l11 n v_all v_past v_states v_text v_textLong v_spot v_taken v_counted x1 = some (r0, v_all', v_past', v_states', v_spot', v_taken', v_counted') → va_P D vwCl (wdM cI cZ h v_all v_past v_states v_refused v_far v_row v_stepAt v_depth v_tries v_values v_wrong v_isEnd v_found v_reached v_stepIn v_laid v_firstRow v_text v_textLong v_spot v_taken v_counted) H → va_D A (wdM cI cZ h v_all v_past v_states v_refused v_far v_row v_stepAt v_depth v_tries v_values v_wrong v_isEnd v_found v_reached v_stepIn v_laid v_firstRow v_text v_textLong v_spot v_taken v_counted) → va_S A s.heap H locs → lv_has ls 4 [(0, .ref (h 0)), (1, .int x1)] → W p l e rm9_reads s m args below meth c H locs 0 0 Q (F0 m 11 ls []) := by
    intro n
    induction n with
    | zero =>
      intro v_all v_past v_states v_spot v_taken v_counted x1 H locs ls hf
      cases (show (none : Option (Int32 × (Nat → Int32) × (Nat → Int32) × Int32 × Int32 × Int32 × (Nat → Int32))) = some (r0, v_all', v_past', v_states', v_spot', v_taken', v_counted') from hf)
    | succ n ih =>
      intro v_all v_past v_states v_spot v_taken v_counted x1 H locs ls hf hP hD hS hl
      rw [f9_reads_l11_s] at hf
      refine lv_aload_n hx hb dX9_reads_11 rfl (lv_at hl 0 rfl) ?_
      refine lv_iconst (v := 0) hx hb dX9_reads_12 (by decide) ?_
      refine kb_bind hf (fun q17 hq17 hf => ?_)
      have hPc : va_P D vwCl (wdM cI cZ h v_all v_past v_states v_refused v_far v_row v_stepAt v_depth v_tries v_values v_wrong v_isEnd v_found v_reached v_stepIn v_laid v_firstRow v_text v_textLong v_spot v_taken v_counted) H := hP.sub [0, 1, 2, 3, 4, 5, 6, 7, 8, 9, 10, 11, 12, 13, 14, 15, 16] rfl
      have hDc : va_D A (wdM cI cZ h v_all v_past v_states v_refused v_far v_row v_stepAt v_depth v_tries v_values v_wrong v_isEnd v_found v_reached v_stepIn v_laid v_firstRow v_text v_textLong v_spot v_taken v_counted) := hD.sub [0, 1, 2, 3, 4, 5, 6, 7, 8, 9, 10, 11, 12, 13, 14, 15, 16] (by decide) rfl
      refine kd_iW (ws' := wdM cI cZ h q17.2.1 v_past v_states v_refused v_far v_row v_stepAt v_depth v_tries v_values v_wrong v_isEnd v_found v_reached v_stepIn v_laid v_firstRow v_text v_textLong q17.2.2.1 q17.2.2.2.1 q17.2.2.2.2) (va_runV (As := [.int (0 : Int32)]) (rest := []) ⟨hx, hb, hml, hown, hts⟩ (c9_takesStep l D cB cI cZ cO h H.size (0 : Int32) v_all v_past v_states v_refused v_far v_row v_stepAt v_depth v_tries v_values v_wrong v_isEnd v_found v_reached v_stepIn v_laid v_firstRow v_text v_textLong v_spot v_taken v_counted q17.1 q17.2.1 q17.2.2.1 q17.2.2.2.1 q17.2.2.2.2 hq17) (cwV 1 hts gX9_reads_X9_takesStep rfl rfl rfl (by decide +kernel) ⟨Nat.le_of_ble_eq_true rfl, Nat.le_of_ble_eq_true rfl⟩) ⟨kb_blind, va_recv hK hPc (ci := 6) (q0 := 0) rfl rfl, kb_pre hPc hDc hK hN⟩ rfl rfl hl.1 rfl (lv_room (Nat.le_of_ble_eq_true rfl)) dX9_reads_13 ⟨Nat.le_refl _, Nat.le_refl _⟩) hP hD hS hA [0, 1, 2, 3, 4, 5, 6, 7, 8, 9, 10, 11, 12, 13, 14, 15, 16] [] rfl rfl (fun _ h9 => absurd h9 List.not_mem_nil) rfl rfl (fun H locs hn18 hP hD hS => ?_)
      refine lv_if_ne (tgt := 27) hx hb dX9_reads_16 (by decide) (fun c19 => ?_) (fun c19 => ?_)
      · rw [if_neg c19] at hf
        refine lv_iinc (v := (x1 + 1)) (lv' := [(1, .int (x1 + 1)), (0, .ref (h 0))]) hx hb dX9_reads_27 hl (k := 1) rfl rfl (by decide) rfl (fun ls hl => ?_)
        refine lv_aload_n hx hb dX9_reads_30 rfl (lv_at hl 1 rfl) ?_
        refine kb_bind hf (fun q20 hq20 hf => ?_)
        have hPc : va_P D vwCl (wdM cI cZ h q17.2.1 v_past v_states v_refused v_far v_row v_stepAt v_depth v_tries v_values v_wrong v_isEnd v_found v_reached v_stepIn v_laid v_firstRow v_text v_textLong q17.2.2.1 q17.2.2.2.1 q17.2.2.2.2) H := hP.sub [0, 1, 2, 3, 4, 5, 6, 7, 8, 9, 10, 11, 12, 13, 14, 15, 16] rfl
        have hDc : va_D A (wdM cI cZ h q17.2.1 v_past v_states v_refused v_far v_row v_stepAt v_depth v_tries v_values v_wrong v_isEnd v_found v_reached v_stepIn v_laid v_firstRow v_text v_textLong q17.2.2.1 q17.2.2.2.1 q17.2.2.2.2) := hD.sub [0, 1, 2, 3, 4, 5, 6, 7, 8, 9, 10, 11, 12, 13, 14, 15, 16] (by decide) rfl
        refine kd_iW (ws' := wdM cI cZ h q17.2.1 v_past v_states v_refused v_far v_row v_stepAt v_depth v_tries v_values v_wrong v_isEnd v_found v_reached v_stepIn v_laid v_firstRow v_text v_textLong q20.2 q17.2.2.2.1 q17.2.2.2.2) (va_runV (As := []) (rest := []) ⟨hx, hb, hml, hown, hts⟩ (c9_here l D cB cI cZ cO h H.size q17.2.1 v_past v_states v_refused v_far v_row v_stepAt v_depth v_tries v_values v_wrong v_isEnd v_found v_reached v_stepIn v_laid v_firstRow v_text v_textLong q17.2.2.1 q17.2.2.2.1 q17.2.2.2.2 q20.1 q20.2 hq20) (cwV 0 hts gX9_reads_X9_here rfl rfl rfl (by decide +kernel) ⟨Nat.le_of_ble_eq_true rfl, Nat.le_of_ble_eq_true rfl⟩) ⟨kb_blind, va_recv hK hPc (ci := 6) (q0 := 0) rfl rfl, kb_pre hPc hDc hK hN⟩ rfl rfl hl.1 rfl (lv_room (Nat.le_of_ble_eq_true rfl)) dX9_reads_31 ⟨Nat.le_refl _, Nat.le_refl _⟩) hP hD hS hA [0, 1, 2, 3, 4, 5, 6, 7, 8, 9, 10, 11, 12, 13, 14, 15, 16] [] rfl rfl (fun _ h9 => absurd h9 List.not_mem_nil) rfl rfl (fun H locs hn21 hP hD hS => ?_)
        refine lv_iconst (v := (-1)) hx hb dX9_reads_34 (by decide) ?_
        refine lv_icmp_ne (tgt := 11) hx hb dX9_reads_35 (by decide) (fun c22 => ?_) (fun c22 => ?_)
        · rw [if_neg c22] at hf
          exact ih q17.2.1 v_past v_states q20.2 q17.2.2.2.1 q17.2.2.2.2 (x1 + 1) _ _ _ hf hP hD hS (lv_sub hl [1, 0] rfl)
        · rw [if_pos c22] at hf
          exact J38 q17.2.1 v_past v_states q20.2 q17.2.2.2.1 q17.2.2.2.2 (x1 + 1) _ _ _ hf hP hD hS (lv_sub hl [1, 0] rfl)
      · rw [if_pos c19] at hf
        exact J19 q17.2.1 v_past v_states q17.2.2.1 q17.2.2.2.1 q17.2.2.2.2 _ _ _ hf hP hD hS (lv_sub hl [0] rfl)
  rw [f9_reads] at hf
  refine lv_aload_n hx hb dX9_reads_0 rfl (lv_at hl 0 rfl) ?_
  refine lv_iconst (v := 0) hx hb dX9_reads_1 (by decide) ?_
  refine va_put (D := D) (cl := vwCl) (ci := 6) (v := .int (0 : Int32)) (ty := .int) (C := RX9) (T := TX9) (N := 22) hx hb hts hin9 tyX9 tyX9_ok nmX9 hown hK hP hD hS 0 rfl rfl 19 (by decide) (hts (.fieldLink RX9 196 "StepOrdersModel" "spot" "I") (by decide +kernel)) (fun _ h9 => h9) rfl (tyX9_ok 19 (by decide)) rfl rfl (Nat.le_of_ble_eq_true rfl) dX9_reads_2 (fun H locs hP hD hS => ?_)
  have hP : va_P D vwCl (wdM cI cZ h v_all v_past v_states v_refused v_far v_row v_stepAt v_depth v_tries v_values v_wrong v_isEnd v_found v_reached v_stepIn v_laid v_firstRow v_text v_textLong (0 : Int32) v_taken v_counted) H := hP
  have hD : va_D A (wdM cI cZ h v_all v_past v_states v_refused v_far v_row v_stepAt v_depth v_tries v_values v_wrong v_isEnd v_found v_reached v_stepIn v_laid v_firstRow v_text v_textLong (0 : Int32) v_taken v_counted) := hD
  refine lv_aload_n hx hb dX9_reads_5 rfl (lv_at hl 0 rfl) ?_
  refine kb_bind hf (fun q23 hq23 hf => ?_)
  have hPc : va_P D vwCl (wdM cI cZ h v_all v_past v_states v_refused v_far v_row v_stepAt v_depth v_tries v_values v_wrong v_isEnd v_found v_reached v_stepIn v_laid v_firstRow v_text v_textLong (0 : Int32) v_taken v_counted) H := hP.sub [0, 1, 2, 3, 4, 5, 6, 7, 8, 9, 10, 11, 12, 13, 14, 15, 16] rfl
  have hDc : va_D A (wdM cI cZ h v_all v_past v_states v_refused v_far v_row v_stepAt v_depth v_tries v_values v_wrong v_isEnd v_found v_reached v_stepIn v_laid v_firstRow v_text v_textLong (0 : Int32) v_taken v_counted) := hD.sub [0, 1, 2, 3, 4, 5, 6, 7, 8, 9, 10, 11, 12, 13, 14, 15, 16] (by decide) rfl
  refine kd_vW (ws' := wdM cI cZ h v_all v_past v_states v_refused v_far v_row v_stepAt v_depth v_tries v_values v_wrong v_isEnd v_found v_reached v_stepIn v_laid v_firstRow v_text v_textLong (0 : Int32) v_taken q23) (va_runV (As := []) (rest := []) ⟨hx, hb, hml, hown, hts⟩ (c9_counts l D cB cI cZ cO h H.size v_all v_past v_states v_refused v_far v_row v_stepAt v_depth v_tries v_values v_wrong v_isEnd v_found v_reached v_stepIn v_laid v_firstRow v_text v_textLong (0 : Int32) v_taken v_counted q23 hq23) (cwV 0 hts gX9_reads_X9_counts rfl rfl rfl (by decide +kernel) ⟨Nat.le_of_ble_eq_true rfl, Nat.le_of_ble_eq_true rfl⟩) ⟨kb_blind, va_recv hK hPc (ci := 6) (q0 := 0) rfl rfl, kb_pre hPc hDc hK hN⟩ rfl rfl hl.1 rfl (lv_room (Nat.le_of_ble_eq_true rfl)) dX9_reads_6 ⟨Nat.le_refl _, Nat.le_refl _⟩) hP hD hS hA [0, 1, 2, 3, 4, 5, 6, 7, 8, 9, 10, 11, 12, 13, 14, 15, 16] [] rfl rfl (fun _ h9 => absurd h9 List.not_mem_nil) rfl rfl (fun H locs hP hD hS => ?_)
  refine lv_iconst (v := 0) hx hb dX9_reads_9 (by decide) ?_
  refine lv_istore_n (lv' := [(1, .int (0 : Int32)), (0, .ref (h 0))]) hx hb dX9_reads_10 rfl hl (by decide) rfl (fun ls hl => ?_)
  exact J11 kFUEL v_all v_past v_states (0 : Int32) v_taken q23 (0 : Int32) _ _ _ hf hP hD hS (lv_sub hl [1, 0] rfl)

set_option maxHeartbeats 4000000 in
set_option maxRecDepth 100000 in
theorem c9_back (l : Launch) (D : va_G) (cB cI cZ cO : ClassId) (h : Nat → Nat) (sz : Nat) (v_all : Nat → Int32) (v_past : Nat → Int32) (v_states : Int32) (v_refused : Nat → Int32) (v_far : Nat → Int32) (v_row : Nat → Int32) (v_stepAt : Nat → Int32) (v_depth : Int32) (v_tries : Nat → Int32) (v_values : Nat → Int32) (v_wrong : Int32) (v_isEnd : Nat → Int32) (v_found : Nat → Int32) (v_reached : Nat → Int32) (v_stepIn : Nat → Int32) (v_laid : Nat → Int32) (v_firstRow : Nat → Int32) (v_text : Nat → Int32) (v_textLong : Int32) (v_spot : Int32) (v_taken : Int32) (v_counted : Nat → Int32) (r0 : Int32) (v_all' : Nat → Int32) (v_states' : Int32) (v_refused' : Nat → Int32) (hf : f9_back v_all v_past v_states v_refused = some (r0, v_all', v_states', v_refused')) : Met l yX9_back wsX9_back rm9_back (va_Pc [.ref (h 0)] (kb_B D (ka_tys cB cI cZ cO) sz (wdM cI cZ h v_all v_past v_states v_refused v_far v_row v_stepAt v_depth v_tries v_values v_wrong v_isEnd v_found v_reached v_stepIn v_laid v_firstRow v_text v_textLong v_spot v_taken v_counted))) (va_Qi (kb_post .int r0) (fun _ t => va_P D vwCl (wdM cI cZ h (v_all') v_past (v_states') (v_refused') v_far v_row v_stepAt v_depth v_tries v_values v_wrong v_isEnd v_found v_reached v_stepIn v_laid v_firstRow v_text v_textLong v_spot v_taken v_counted) t.heap) (va_A (wdM cI cZ h v_all v_past v_states v_refused v_far v_row v_stepAt v_depth v_tries v_values v_wrong v_isEnd v_found v_reached v_stepIn v_laid v_firstRow v_text v_textLong v_spot v_taken v_counted) sz)) 0 0 (va_A (wdM cI cZ h v_all v_past v_states v_refused v_far v_row v_stepAt v_depth v_tries v_values v_wrong v_isEnd v_found v_reached v_stepIn v_laid v_firstRow v_text v_textLong v_spot v_taken v_counted) sz) := by
  refine kb_metZ (cc := cX9_back) (maxL := 2) (ty := .int) (by decide) rfl (Nat.le_of_ble_eq_true rfl) ?_
  intro p e s m args below meth c Q A ls H hx hb hml hown hts hK hN hP hD hS hA hl hend
  have hown : s.vm.findClass RX9 = some m.cls := hown
  have hl : lv_has ls 2 [(0, .ref (h 0))] := hl
  have hin9 : ∀ w ∈ u_ws RX9 TX9 22, w ∈ wsX9_back := by decide +kernel
  have J58 : ∀ (v_all : Nat → Int32) (v_states : Int32) (v_refused : Nat → Int32) (H : Heap) (locs : List Loc) (ls : Array Slot), f9_back_b58 v_all v_past v_states v_refused = some (r0, v_all', v_states', v_refused') → va_P D vwCl (wdM cI cZ h v_all v_past v_states v_refused v_far v_row v_stepAt v_depth v_tries v_values v_wrong v_isEnd v_found v_reached v_stepIn v_laid v_firstRow v_text v_textLong v_spot v_taken v_counted) H → va_D A (wdM cI cZ h v_all v_past v_states v_refused v_far v_row v_stepAt v_depth v_tries v_values v_wrong v_isEnd v_found v_reached v_stepIn v_laid v_firstRow v_text v_textLong v_spot v_taken v_counted) → va_S A s.heap H locs → lv_has ls 2 [(0, .ref (h 0))] → W p l e rm9_back s m args below meth c H locs 0 0 Q (F0 m 58 ls []) := by
    intro v_all v_states v_refused H locs ls hf hP hD hS hl
    rw [f9_back_b58] at hf
    refine lv_aload_n hx hb dX9_back_58 rfl (lv_at hl 0 rfl) ?_
    refine va_get (D := D) (cl := vwCl) (ci := 6) (v := .int v_states) (C := RX9) (T := TX9) (N := 22) hx hb hts hin9 hown hK hP 0 rfl rfl 2 (by decide) (hts (.fieldLink RX9 59 "StepOrdersModel" "states" "I") (by decide +kernel)) (fun _ h9 => h9) rfl dX9_back_59 ?_
    obtain ⟨z1, y1⟩ := Prod.mk.inj (Option.some.inj hf)
    obtain ⟨z2, y2⟩ := Prod.mk.inj y1
    obtain ⟨z3, y3⟩ := Prod.mk.inj y2
    subst z1 z2 z3 y3
    exact hend _ _ _ _ rfl hP hS dX9_back_62
  have J26 : ∀ (n : Nat) (v_all : Nat → Int32) (v_states : Int32) (v_refused : Nat → Int32) (x1 : Int32) (H : Heap) (locs : List Loc) (ls : Array Slot), f9_back_l26 n v_all v_past v_states v_refused x1 = some (r0, v_all', v_states', v_refused') → va_P D vwCl (wdM cI cZ h v_all v_past v_states v_refused v_far v_row v_stepAt v_depth v_tries v_values v_wrong v_isEnd v_found v_reached v_stepIn v_laid v_firstRow v_text v_textLong v_spot v_taken v_counted) H → va_D A (wdM cI cZ h v_all v_past v_states v_refused v_far v_row v_stepAt v_depth v_tries v_values v_wrong v_isEnd v_found v_reached v_stepIn v_laid v_firstRow v_text v_textLong v_spot v_taken v_counted) → va_S A s.heap H locs → lv_has ls 2 [(0, .ref (h 0)), (1, .int x1)] → W p l e rm9_back s m args below meth c H locs 0 0 Q (F0 m 26 ls []) := by
    intro n
    induction n with
    | zero =>
      intro v_all v_states v_refused x1 H locs ls hf
      cases (show (none : Option (Int32 × (Nat → Int32) × Int32 × (Nat → Int32))) = some (r0, v_all', v_states', v_refused') from hf)
    | succ n ih =>
      intro v_all v_states v_refused x1 H locs ls hf hP hD hS hl
      rw [f9_back_l26_s] at hf
      refine lv_iload_n hx hb dX9_back_26 rfl (lv_at hl 1 rfl) ?_
      refine lv_bipush (v := 56) hx hb dX9_back_27 (by decide) ?_
      refine lv_icmp_ge (tgt := 58) hx hb dX9_back_29 (by decide) (fun c4 => ?_) (fun c4 => ?_)
      · rw [if_pos c4] at hf
        exact J58 v_all v_states v_refused _ _ _ hf hP hD hS (lv_sub hl [0] rfl)
      · rw [if_neg c4] at hf
        refine lv_aload_n hx hb dX9_back_32 rfl (lv_at hl 0 rfl) ?_
        refine va_get (D := D) (cl := vwCl) (ci := 6) (v := .ref (h 1)) (C := RX9) (T := TX9) (N := 22) hx hb hts hin9 hown hK hP 0 rfl rfl 0 (by decide) (hts (.fieldLink RX9 7 "StepOrdersModel" "all" "[I") (by decide +kernel)) (fun _ h9 => h9) rfl dX9_back_33 ?_
        refine lv_iload_n hx hb dX9_back_36 rfl (lv_at hl 1 rfl) ?_
        refine lv_aload_n hx hb dX9_back_37 rfl (lv_at hl 0 rfl) ?_
        refine va_get (D := D) (cl := vwCl) (ci := 6) (v := .ref (h 2)) (C := RX9) (T := TX9) (N := 22) hx hb hts hin9 hown hK hP 0 rfl rfl 1 (by decide) (hts (.fieldLink RX9 13 "StepOrdersModel" "past" "[I") (by decide +kernel)) (fun _ h9 => h9) rfl dX9_back_38 ?_
        refine lv_bipush (v := 56) hx hb dX9_back_41 (by decide) ?_
        refine lv_aload_n hx hb dX9_back_43 rfl (lv_at hl 0 rfl) ?_
        refine va_get (D := D) (cl := vwCl) (ci := 6) (v := .int v_states) (C := RX9) (T := TX9) (N := 22) hx hb hts hin9 hown hK hP 0 rfl rfl 2 (by decide) (hts (.fieldLink RX9 59 "StepOrdersModel" "states" "I") (by decide +kernel)) (fun _ h9 => h9) rfl dX9_back_44 ?_
        refine lv_imul hx hb dX9_back_47 ?_
        refine lv_iload_n hx hb dX9_back_48 rfl (lv_at hl 1 rfl) ?_
        refine lv_iadd hx hb dX9_back_49 ?_
        refine kb_bind hf (fun v5 hv5 hf => ?_)
        refine ka_iald (D := D) (cl := vwCl) hx hb hK hP 2 1 (f := v_past) rfl rfl (ard_in hv5) (ard_v hv5) dX9_back_50 ?_
        refine kb_bind hf (fun v6 hv6 hf => ?_)
        refine ka_iast (D := D) (cl := vwCl) hx hb hK hP hD hS 1 1 (f := v_all) (g := v6) rfl rfl (awr_in hv6) (awr_v hv6) dX9_back_51 (fun H locs hP hD hS => ?_)
        have hP : va_P D vwCl (wdM cI cZ h v6 v_past v_states v_refused v_far v_row v_stepAt v_depth v_tries v_values v_wrong v_isEnd v_found v_reached v_stepIn v_laid v_firstRow v_text v_textLong v_spot v_taken v_counted) H := hP
        have hD : va_D A (wdM cI cZ h v6 v_past v_states v_refused v_far v_row v_stepAt v_depth v_tries v_values v_wrong v_isEnd v_found v_reached v_stepIn v_laid v_firstRow v_text v_textLong v_spot v_taken v_counted) := hD
        refine lv_iinc (v := (x1 + 1)) (lv' := [(1, .int (x1 + 1)), (0, .ref (h 0))]) hx hb dX9_back_52 hl (k := 1) rfl rfl (by decide) rfl (fun ls hl => ?_)
        refine lv_goto (tgt := 26) hx hb dX9_back_55 (by decide) ?_
        exact ih v6 v_states v_refused (x1 + 1) _ _ _ hf hP hD hS (lv_sub hl [1, 0] rfl)
  rw [f9_back] at hf
  refine lv_aload_n hx hb dX9_back_0 rfl (lv_at hl 0 rfl) ?_
  refine va_get (D := D) (cl := vwCl) (ci := 6) (v := .int v_states) (C := RX9) (T := TX9) (N := 22) hx hb hts hin9 hown hK hP 0 rfl rfl 2 (by decide) (hts (.fieldLink RX9 59 "StepOrdersModel" "states" "I") (by decide +kernel)) (fun _ h9 => h9) rfl dX9_back_1 ?_
  refine lv_if_ne (tgt := 14) hx hb dX9_back_4 (by decide) (fun c7 => ?_) (fun c7 => ?_)
  · rw [if_neg c7] at hf
    refine lv_aload_n hx hb dX9_back_14 rfl (lv_at hl 0 rfl) ?_
    refine lv_dup hx hb dX9_back_15 rfl ?_
    refine va_get (D := D) (cl := vwCl) (ci := 6) (v := .int v_states) (C := RX9) (T := TX9) (N := 22) hx hb hts hin9 hown hK hP 0 rfl rfl 2 (by decide) (hts (.fieldLink RX9 59 "StepOrdersModel" "states" "I") (by decide +kernel)) (fun _ h9 => h9) rfl dX9_back_16 ?_
    refine lv_iconst (v := 1) hx hb dX9_back_19 (by decide) ?_
    refine lv_isub hx hb dX9_back_20 ?_
    refine va_put (D := D) (cl := vwCl) (ci := 6) (v := .int (v_states - (1 : Int32))) (ty := .int) (C := RX9) (T := TX9) (N := 22) hx hb hts hin9 tyX9 tyX9_ok nmX9 hown hK hP hD hS 0 rfl rfl 2 (by decide) (hts (.fieldLink RX9 59 "StepOrdersModel" "states" "I") (by decide +kernel)) (fun _ h9 => h9) rfl (tyX9_ok 2 (by decide)) rfl rfl (Nat.le_of_ble_eq_true rfl) dX9_back_21 (fun H locs hP hD hS => ?_)
    have hP : va_P D vwCl (wdM cI cZ h v_all v_past (v_states - (1 : Int32)) v_refused v_far v_row v_stepAt v_depth v_tries v_values v_wrong v_isEnd v_found v_reached v_stepIn v_laid v_firstRow v_text v_textLong v_spot v_taken v_counted) H := hP
    have hD : va_D A (wdM cI cZ h v_all v_past (v_states - (1 : Int32)) v_refused v_far v_row v_stepAt v_depth v_tries v_values v_wrong v_isEnd v_found v_reached v_stepIn v_laid v_firstRow v_text v_textLong v_spot v_taken v_counted) := hD
    refine lv_iconst (v := 0) hx hb dX9_back_24 (by decide) ?_
    refine lv_istore_n (lv' := [(1, .int (0 : Int32)), (0, .ref (h 0))]) hx hb dX9_back_25 rfl hl (by decide) rfl (fun ls hl => ?_)
    exact J26 kFUEL v_all (v_states - (1 : Int32)) v_refused (0 : Int32) _ _ _ hf hP hD hS (lv_sub hl [1, 0] rfl)
  · rw [if_pos c7] at hf
    refine lv_aload_n hx hb dX9_back_7 rfl (lv_at hl 0 rfl) ?_
    refine lv_bipush (v := (-3)) hx hb dX9_back_8 (by decide) ?_
    refine kb_bind hf (fun q8 hq8 hf => ?_)
    have hPc : va_P D vwCl (wdM cI cZ h v_all v_past v_states v_refused v_far v_row v_stepAt v_depth v_tries v_values v_wrong v_isEnd v_found v_reached v_stepIn v_laid v_firstRow v_text v_textLong v_spot v_taken v_counted) H := hP.sub [0, 1, 2, 3, 4, 5, 6, 7, 8, 9, 10, 11, 12, 13, 14, 15, 16] rfl
    have hDc : va_D A (wdM cI cZ h v_all v_past v_states v_refused v_far v_row v_stepAt v_depth v_tries v_values v_wrong v_isEnd v_found v_reached v_stepIn v_laid v_firstRow v_text v_textLong v_spot v_taken v_counted) := hD.sub [0, 1, 2, 3, 4, 5, 6, 7, 8, 9, 10, 11, 12, 13, 14, 15, 16] (by decide) rfl
    refine kd_iW (ws' := wdM cI cZ h v_all v_past v_states q8.2 v_far v_row v_stepAt v_depth v_tries v_values v_wrong v_isEnd v_found v_reached v_stepIn v_laid v_firstRow v_text v_textLong v_spot v_taken v_counted) (va_runV (As := [.int (-3 : Int32)]) (rest := []) ⟨hx, hb, hml, hown, hts⟩ (c9_refuses l D cB cI cZ cO h H.size (-3 : Int32) v_all v_past v_states v_refused v_far v_row v_stepAt v_depth v_tries v_values v_wrong v_isEnd v_found v_reached v_stepIn v_laid v_firstRow v_text v_textLong v_spot v_taken v_counted q8.1 q8.2 hq8) (cwV 1 hts gX9_back_X9_refuses rfl rfl rfl (by decide +kernel) ⟨Nat.le_of_ble_eq_true rfl, Nat.le_of_ble_eq_true rfl⟩) ⟨kb_blind, va_recv hK hPc (ci := 6) (q0 := 0) rfl rfl, kb_pre hPc hDc hK hN⟩ rfl rfl hl.1 rfl (lv_room (Nat.le_of_ble_eq_true rfl)) dX9_back_10 ⟨Nat.le_refl _, Nat.le_refl _⟩) hP hD hS hA [0, 1, 2, 3, 4, 5, 6, 7, 8, 9, 10, 11, 12, 13, 14, 15, 16] [] rfl rfl (fun _ h9 => absurd h9 List.not_mem_nil) rfl rfl (fun H locs hn9 hP hD hS => ?_)
    obtain ⟨z1, y1⟩ := Prod.mk.inj (Option.some.inj hf)
    obtain ⟨z2, y2⟩ := Prod.mk.inj y1
    obtain ⟨z3, y3⟩ := Prod.mk.inj y2
    subst z1 z2 z3 y3
    exact hend _ _ _ _ rfl hP hS dX9_back_13

set_option maxHeartbeats 4000000 in
set_option maxRecDepth 100000 in
theorem c9_toldOf (l : Launch) (D : va_G) (cB cI cZ cO : ClassId) (h : Nat → Nat) (sz : Nat) (x1 : Int32) (v_all : Nat → Int32) (v_past : Nat → Int32) (v_states : Int32) (v_refused : Nat → Int32) (v_far : Nat → Int32) (v_row : Nat → Int32) (v_stepAt : Nat → Int32) (v_depth : Int32) (v_tries : Nat → Int32) (v_values : Nat → Int32) (v_wrong : Int32) (v_isEnd : Nat → Int32) (v_found : Nat → Int32) (v_reached : Nat → Int32) (v_stepIn : Nat → Int32) (v_laid : Nat → Int32) (v_firstRow : Nat → Int32) (v_text : Nat → Int32) (v_textLong : Int32) (v_spot : Int32) (v_taken : Int32) (v_counted : Nat → Int32) (r0 : Int32) (hf : f9_toldOf v_all v_states v_refused v_textLong x1 = some r0) : Met l yX9_toldOf wsX9_toldOf rm9_toldOf (va_Pc [.ref (h 0), .int x1] (kb_B D (ka_tys cB cI cZ cO) sz (wdM cI cZ h v_all v_past v_states v_refused v_far v_row v_stepAt v_depth v_tries v_values v_wrong v_isEnd v_found v_reached v_stepIn v_laid v_firstRow v_text v_textLong v_spot v_taken v_counted))) (va_Qi (kb_post .int r0) (fun _ t => va_P D vwCl (wdM cI cZ h v_all v_past v_states v_refused v_far v_row v_stepAt v_depth v_tries v_values v_wrong v_isEnd v_found v_reached v_stepIn v_laid v_firstRow v_text v_textLong v_spot v_taken v_counted) t.heap) (va_A (wdM cI cZ h v_all v_past v_states v_refused v_far v_row v_stepAt v_depth v_tries v_values v_wrong v_isEnd v_found v_reached v_stepIn v_laid v_firstRow v_text v_textLong v_spot v_taken v_counted) sz)) 0 0 (va_A (wdM cI cZ h v_all v_past v_states v_refused v_far v_row v_stepAt v_depth v_tries v_values v_wrong v_isEnd v_found v_reached v_stepIn v_laid v_firstRow v_text v_textLong v_spot v_taken v_counted) sz) := by
  refine kb_metZ (cc := cX9_toldOf) (maxL := 2) (ty := .int) (by decide) rfl (Nat.le_of_ble_eq_true rfl) ?_
  intro p e s m args below meth c Q A ls H hx hb hml hown hts hK hN hP hD hS hA hl hend
  have hown : s.vm.findClass RX9 = some m.cls := hown
  have hl : lv_has ls 2 [(0, .ref (h 0)), (1, .int x1)] := hl
  have hin9 : ∀ w ∈ u_ws RX9 TX9 22, w ∈ wsX9_toldOf := by decide +kernel
  rw [f9_toldOf] at hf
  refine lv_iload_n hx hb dX9_toldOf_0 rfl (lv_at hl 1 rfl) ?_
  refine lv_iconst (v := 3) hx hb dX9_toldOf_1 (by decide) ?_
  refine lv_icmp_ge (tgt := 12) hx hb dX9_toldOf_2 (by decide) (fun c1 => ?_) (fun c1 => ?_)
  · rw [if_pos c1] at hf
    refine lv_iload_n hx hb dX9_toldOf_12 rfl (lv_at hl 1 rfl) ?_
    refine lv_iconst (v := 3) hx hb dX9_toldOf_13 (by decide) ?_
    refine lv_icmp_ne (tgt := 24) hx hb dX9_toldOf_14 (by decide) (fun c2 => ?_) (fun c2 => ?_)
    · rw [if_neg c2] at hf
      refine lv_iload_n hx hb dX9_toldOf_24 rfl (lv_at hl 1 rfl) ?_
      refine lv_bipush (v := 7) hx hb dX9_toldOf_25 (by decide) ?_
      refine lv_icmp_ge (tgt := 40) hx hb dX9_toldOf_27 (by decide) (fun c3 => ?_) (fun c3 => ?_)
      · rw [if_pos c3] at hf
        refine lv_iload_n hx hb dX9_toldOf_40 rfl (lv_at hl 1 rfl) ?_
        refine lv_bipush (v := 7) hx hb dX9_toldOf_41 (by decide) ?_
        refine lv_icmp_ne (tgt := 81) hx hb dX9_toldOf_43 (by decide) (fun c4 => ?_) (fun c4 => ?_)
        · rw [if_neg c4] at hf
          refine lv_aload_n hx hb dX9_toldOf_81 rfl (lv_at hl 0 rfl) ?_
          refine va_get (D := D) (cl := vwCl) (ci := 6) (v := .int v_states) (C := RX9) (T := TX9) (N := 22) hx hb hts hin9 hown hK hP 0 rfl rfl 2 (by decide) (hts (.fieldLink RX9 59 "StepOrdersModel" "states" "I") (by decide +kernel)) (fun _ h9 => h9) rfl dX9_toldOf_82 ?_
          obtain rfl := Option.some.inj hf
          exact hend _ _ _ _ rfl hP hS dX9_toldOf_85
        · rw [if_pos c4] at hf
          refine lv_aload_n hx hb dX9_toldOf_46 rfl (lv_at hl 0 rfl) ?_
          refine lv_aload_n hx hb dX9_toldOf_47 rfl (lv_at hl 0 rfl) ?_
          refine va_get (D := D) (cl := vwCl) (ci := 6) (v := .ref (h 1)) (C := RX9) (T := TX9) (N := 22) hx hb hts hin9 hown hK hP 0 rfl rfl 0 (by decide) (hts (.fieldLink RX9 7 "StepOrdersModel" "all" "[I") (by decide +kernel)) (fun _ h9 => h9) rfl dX9_toldOf_48 ?_
          refine lv_bipush (v := 39) hx hb dX9_toldOf_51 (by decide) ?_
          refine ka_iald (D := D) (cl := vwCl) hx hb hK hP 1 1 (f := v_all) rfl rfl (v := (v_all 39)) (show ¬ (_ ∨ _) from by decide) rfl dX9_toldOf_53 ?_
          refine lv_aload_n hx hb dX9_toldOf_54 rfl (lv_at hl 0 rfl) ?_
          refine va_get (D := D) (cl := vwCl) (ci := 6) (v := .ref (h 1)) (C := RX9) (T := TX9) (N := 22) hx hb hts hin9 hown hK hP 0 rfl rfl 0 (by decide) (hts (.fieldLink RX9 7 "StepOrdersModel" "all" "[I") (by decide +kernel)) (fun _ h9 => h9) rfl dX9_toldOf_55 ?_
          refine lv_bipush (v := 40) hx hb dX9_toldOf_58 (by decide) ?_
          refine ka_iald (D := D) (cl := vwCl) hx hb hK hP 1 1 (f := v_all) rfl rfl (v := (v_all 40)) (show ¬ (_ ∨ _) from by decide) rfl dX9_toldOf_60 ?_
          refine lv_aload_n hx hb dX9_toldOf_61 rfl (lv_at hl 0 rfl) ?_
          refine va_get (D := D) (cl := vwCl) (ci := 6) (v := .ref (h 1)) (C := RX9) (T := TX9) (N := 22) hx hb hts hin9 hown hK hP 0 rfl rfl 0 (by decide) (hts (.fieldLink RX9 7 "StepOrdersModel" "all" "[I") (by decide +kernel)) (fun _ h9 => h9) rfl dX9_toldOf_62 ?_
          refine lv_bipush (v := 41) hx hb dX9_toldOf_65 (by decide) ?_
          refine ka_iald (D := D) (cl := vwCl) hx hb hK hP 1 1 (f := v_all) rfl rfl (v := (v_all 41)) (show ¬ (_ ∨ _) from by decide) rfl dX9_toldOf_67 ?_
          refine lv_aload_n hx hb dX9_toldOf_68 rfl (lv_at hl 0 rfl) ?_
          refine va_get (D := D) (cl := vwCl) (ci := 6) (v := .ref (h 1)) (C := RX9) (T := TX9) (N := 22) hx hb hts hin9 hown hK hP 0 rfl rfl 0 (by decide) (hts (.fieldLink RX9 7 "StepOrdersModel" "all" "[I") (by decide +kernel)) (fun _ h9 => h9) rfl dX9_toldOf_69 ?_
          refine lv_bipush (v := 42) hx hb dX9_toldOf_72 (by decide) ?_
          refine ka_iald (D := D) (cl := vwCl) hx hb hK hP 1 1 (f := v_all) rfl rfl (v := (v_all 42)) (show ¬ (_ ∨ _) from by decide) rfl dX9_toldOf_74 ?_
          have hPc : va_P D vwCl (wdM cI cZ h v_all v_past v_states v_refused v_far v_row v_stepAt v_depth v_tries v_values v_wrong v_isEnd v_found v_reached v_stepIn v_laid v_firstRow v_text v_textLong v_spot v_taken v_counted) H := hP.sub [0, 1, 2, 3, 4, 5, 6, 7, 8, 9, 10, 11, 12, 13, 14, 15, 16] rfl
          have hDc : va_D A (wdM cI cZ h v_all v_past v_states v_refused v_far v_row v_stepAt v_depth v_tries v_values v_wrong v_isEnd v_found v_reached v_stepIn v_laid v_firstRow v_text v_textLong v_spot v_taken v_counted) := hD.sub [0, 1, 2, 3, 4, 5, 6, 7, 8, 9, 10, 11, 12, 13, 14, 15, 16] (by decide) rfl
          refine kd_iR (va_runV (As := [.int (v_all 39), .int (v_all 40), .int (v_all 41), .int (v_all 42)]) (rest := []) ⟨hx, hb, hml, hown, hts⟩ (c9_told4 l D cB cI cZ cO h H.size (v_all 39) (v_all 40) (v_all 41) (v_all 42) v_all v_past v_states v_refused v_far v_row v_stepAt v_depth v_tries v_values v_wrong v_isEnd v_found v_reached v_stepIn v_laid v_firstRow v_text v_textLong v_spot v_taken v_counted (f9_told4 (v_all 39) (v_all 40) (v_all 41) (v_all 42)) rfl) (cwV 4 hts gX9_toldOf_X9_told4 rfl rfl rfl (by decide +kernel) ⟨Nat.le_of_ble_eq_true rfl, Nat.le_of_ble_eq_true rfl⟩) ⟨kb_blind, va_recv hK hPc (ci := 6) (q0 := 0) rfl rfl, kb_pre hPc hDc hK hN⟩ rfl rfl hl.1 rfl (lv_room (Nat.le_of_ble_eq_true rfl)) dX9_toldOf_75 ⟨Nat.le_refl _, Nat.le_refl _⟩) hP hD hS hA [0, 1, 2, 3, 4, 5, 6, 7, 8, 9, 10, 11, 12, 13, 14, 15, 16] rfl (fun H locs hn5 hP hS => ?_)
          refine lv_goto (tgt := 85) hx hb dX9_toldOf_78 (by decide) ?_
          obtain rfl := Option.some.inj hf
          exact hend _ _ _ _ rfl hP hS dX9_toldOf_85
      · rw [if_neg c3] at hf
        refine lv_aload_n hx hb dX9_toldOf_30 rfl (lv_at hl 0 rfl) ?_
        refine lv_iload_n hx hb dX9_toldOf_31 rfl (lv_at hl 1 rfl) ?_
        refine lv_iconst (v := 4) hx hb dX9_toldOf_32 (by decide) ?_
        refine lv_isub hx hb dX9_toldOf_33 ?_
        refine kb_bind hf (fun q6 hq6 hf => ?_)
        have hPc : va_P D vwCl (wdM cI cZ h v_all v_past v_states v_refused v_far v_row v_stepAt v_depth v_tries v_values v_wrong v_isEnd v_found v_reached v_stepIn v_laid v_firstRow v_text v_textLong v_spot v_taken v_counted) H := hP.sub [0, 1, 2, 3, 4, 5, 6, 7, 8, 9, 10, 11, 12, 13, 14, 15, 16] rfl
        have hDc : va_D A (wdM cI cZ h v_all v_past v_states v_refused v_far v_row v_stepAt v_depth v_tries v_values v_wrong v_isEnd v_found v_reached v_stepIn v_laid v_firstRow v_text v_textLong v_spot v_taken v_counted) := hD.sub [0, 1, 2, 3, 4, 5, 6, 7, 8, 9, 10, 11, 12, 13, 14, 15, 16] (by decide) rfl
        refine kd_iR (va_runV (As := [.int (x1 - (4 : Int32))]) (rest := []) ⟨hx, hb, hml, hown, hts⟩ (c9_many l D cB cI cZ cO h H.size (x1 - (4 : Int32)) v_all v_past v_states v_refused v_far v_row v_stepAt v_depth v_tries v_values v_wrong v_isEnd v_found v_reached v_stepIn v_laid v_firstRow v_text v_textLong v_spot v_taken v_counted q6 hq6) (cwV 1 hts gX9_toldOf_X9_many rfl rfl rfl (by decide +kernel) ⟨Nat.le_of_ble_eq_true rfl, Nat.le_of_ble_eq_true rfl⟩) ⟨kb_blind, va_recv hK hPc (ci := 6) (q0 := 0) rfl rfl, kb_pre hPc hDc hK hN⟩ rfl rfl hl.1 rfl (lv_room (Nat.le_of_ble_eq_true rfl)) dX9_toldOf_34 ⟨Nat.le_refl _, Nat.le_refl _⟩) hP hD hS hA [0, 1, 2, 3, 4, 5, 6, 7, 8, 9, 10, 11, 12, 13, 14, 15, 16] rfl (fun H locs hn7 hP hS => ?_)
        refine lv_goto (tgt := 85) hx hb dX9_toldOf_37 (by decide) ?_
        obtain rfl := Option.some.inj hf
        exact hend _ _ _ _ rfl hP hS dX9_toldOf_85
    · rw [if_pos c2] at hf
      refine lv_aload_n hx hb dX9_toldOf_17 rfl (lv_at hl 0 rfl) ?_
      refine va_get (D := D) (cl := vwCl) (ci := 6) (v := .int v_textLong) (C := RX9) (T := TX9) (N := 22) hx hb hts hin9 hown hK hP 0 rfl rfl 18 (by decide) (hts (.fieldLink RX9 193 "StepOrdersModel" "textLong" "I") (by decide +kernel)) (fun _ h9 => h9) rfl dX9_toldOf_18 ?_
      refine lv_goto (tgt := 85) hx hb dX9_toldOf_21 (by decide) ?_
      obtain rfl := Option.some.inj hf
      exact hend _ _ _ _ rfl hP hS dX9_toldOf_85
  · rw [if_neg c1] at hf
    refine lv_aload_n hx hb dX9_toldOf_5 rfl (lv_at hl 0 rfl) ?_
    refine va_get (D := D) (cl := vwCl) (ci := 6) (v := .ref (h 3)) (C := RX9) (T := TX9) (N := 22) hx hb hts hin9 hown hK hP 0 rfl rfl 3 (by decide) (hts (.fieldLink RX9 16 "StepOrdersModel" "refused" "[I") (by decide +kernel)) (fun _ h9 => h9) rfl dX9_toldOf_6 ?_
    refine lv_iload_n hx hb dX9_toldOf_9 rfl (lv_at hl 1 rfl) ?_
    refine kb_bind hf (fun v8 hv8 hf => ?_)
    refine ka_iald (D := D) (cl := vwCl) hx hb hK hP 3 1 (f := v_refused) rfl rfl (ard_in hv8) (ard_v hv8) dX9_toldOf_10 ?_
    obtain rfl := Option.some.inj hf
    exact hend _ _ _ _ rfl hP hS dX9_toldOf_11

set_option maxHeartbeats 4000000 in
set_option maxRecDepth 100000 in
theorem c9_told (l : Launch) (D : va_G) (cB cI cZ cO : ClassId) (h : Nat → Nat) (sz : Nat) (x1 : Int32) (v_all : Nat → Int32) (v_past : Nat → Int32) (v_states : Int32) (v_refused : Nat → Int32) (v_far : Nat → Int32) (v_row : Nat → Int32) (v_stepAt : Nat → Int32) (v_depth : Int32) (v_tries : Nat → Int32) (v_values : Nat → Int32) (v_wrong : Int32) (v_isEnd : Nat → Int32) (v_found : Nat → Int32) (v_reached : Nat → Int32) (v_stepIn : Nat → Int32) (v_laid : Nat → Int32) (v_firstRow : Nat → Int32) (v_text : Nat → Int32) (v_textLong : Int32) (v_spot : Int32) (v_taken : Int32) (v_counted : Nat → Int32) (r0 : Int32) (v_refused' : Nat → Int32) (hf : f9_told v_all v_states v_refused v_textLong x1 = some (r0, v_refused')) : Met l yX9_told wsX9_told rm9_told (va_Pc [.ref (h 0), .int x1] (kb_B D (ka_tys cB cI cZ cO) sz (wdM cI cZ h v_all v_past v_states v_refused v_far v_row v_stepAt v_depth v_tries v_values v_wrong v_isEnd v_found v_reached v_stepIn v_laid v_firstRow v_text v_textLong v_spot v_taken v_counted))) (va_Qi (kb_post .int r0) (fun _ t => va_P D vwCl (wdM cI cZ h v_all v_past v_states (v_refused') v_far v_row v_stepAt v_depth v_tries v_values v_wrong v_isEnd v_found v_reached v_stepIn v_laid v_firstRow v_text v_textLong v_spot v_taken v_counted) t.heap) (va_A (wdM cI cZ h v_all v_past v_states v_refused v_far v_row v_stepAt v_depth v_tries v_values v_wrong v_isEnd v_found v_reached v_stepIn v_laid v_firstRow v_text v_textLong v_spot v_taken v_counted) sz)) 0 0 (va_A (wdM cI cZ h v_all v_past v_states v_refused v_far v_row v_stepAt v_depth v_tries v_values v_wrong v_isEnd v_found v_reached v_stepIn v_laid v_firstRow v_text v_textLong v_spot v_taken v_counted) sz) := by
  refine kb_metZ (cc := cX9_told) (maxL := 2) (ty := .int) (by decide) rfl (Nat.le_of_ble_eq_true rfl) ?_
  intro p e s m args below meth c Q A ls H hx hb hml hown hts hK hN hP hD hS hA hl hend
  have hown : s.vm.findClass RX9 = some m.cls := hown
  have hl : lv_has ls 2 [(0, .ref (h 0)), (1, .int x1)] := hl
  rw [f9_told] at hf
  refine lv_iload_n hx hb dX9_told_0 rfl (lv_at hl 1 rfl) ?_
  refine lv_i2l (v := x1.toInt64) hx hb dX9_told_1 rfl ?_
  refine lv_lconst (v := 0) hx hb dX9_told_2 (by decide) ?_
  refine lv_ldc2 (v := 8) hx hb hown (hts (.constantLong RX9 215 (8)) (by decide +kernel)) dX9_told_3 ?_
  have hPc : va_P D vwCl ([]) H := hP.sub [] rfl
  have hDc : va_D A ([]) := hD.sub [] (by decide) rfl
  refine kd_iR (va_runS (As := [.long x1.toInt64, .long (0 : Int64), .long (8 : Int64)]) (rest := []) ⟨hx, hb, hml, hown, hts⟩ (c9_in l D cB cI cZ cO h H.size x1.toInt64 (0 : Int64) (8 : Int64) (f9_in x1.toInt64 (0 : Int64) (8 : Int64)) rfl) (va_cwS 3 hts gX9_told_X9_in rfl rfl rfl (by decide +kernel) ⟨Nat.le_of_ble_eq_true rfl, Nat.le_of_ble_eq_true rfl⟩) ⟨kb_blind, kb_pre hPc hDc hK hN⟩ rfl rfl hl.1 rfl (lv_room (Nat.le_of_ble_eq_true rfl)) dX9_told_6 ⟨Nat.le_refl _, Nat.le_refl _⟩) hP hD hS hA [] rfl (fun H locs hn1 hP hS => ?_)
  refine lv_if_eq (tgt := 20) hx hb dX9_told_9 (by decide) (fun c2 => ?_) (fun c2 => ?_)
  · rw [if_pos c2] at hf
    refine lv_aload_n hx hb dX9_told_20 rfl (lv_at hl 0 rfl) ?_
    refine lv_bipush (v := (-2)) hx hb dX9_told_21 (by decide) ?_
    refine kb_bind hf (fun q3 hq3 hf => ?_)
    have hPc : va_P D vwCl (wdM cI cZ h v_all v_past v_states v_refused v_far v_row v_stepAt v_depth v_tries v_values v_wrong v_isEnd v_found v_reached v_stepIn v_laid v_firstRow v_text v_textLong v_spot v_taken v_counted) H := hP.sub [0, 1, 2, 3, 4, 5, 6, 7, 8, 9, 10, 11, 12, 13, 14, 15, 16] rfl
    have hDc : va_D A (wdM cI cZ h v_all v_past v_states v_refused v_far v_row v_stepAt v_depth v_tries v_values v_wrong v_isEnd v_found v_reached v_stepIn v_laid v_firstRow v_text v_textLong v_spot v_taken v_counted) := hD.sub [0, 1, 2, 3, 4, 5, 6, 7, 8, 9, 10, 11, 12, 13, 14, 15, 16] (by decide) rfl
    refine kd_iW (ws' := wdM cI cZ h v_all v_past v_states q3.2 v_far v_row v_stepAt v_depth v_tries v_values v_wrong v_isEnd v_found v_reached v_stepIn v_laid v_firstRow v_text v_textLong v_spot v_taken v_counted) (va_runV (As := [.int (-2 : Int32)]) (rest := []) ⟨hx, hb, hml, hown, hts⟩ (c9_refuses l D cB cI cZ cO h H.size (-2 : Int32) v_all v_past v_states v_refused v_far v_row v_stepAt v_depth v_tries v_values v_wrong v_isEnd v_found v_reached v_stepIn v_laid v_firstRow v_text v_textLong v_spot v_taken v_counted q3.1 q3.2 hq3) (cwV 1 hts gX9_told_X9_refuses rfl rfl rfl (by decide +kernel) ⟨Nat.le_of_ble_eq_true rfl, Nat.le_of_ble_eq_true rfl⟩) ⟨kb_blind, va_recv hK hPc (ci := 6) (q0 := 0) rfl rfl, kb_pre hPc hDc hK hN⟩ rfl rfl hl.1 rfl (lv_room (Nat.le_of_ble_eq_true rfl)) dX9_told_23 ⟨Nat.le_refl _, Nat.le_refl _⟩) hP hD hS hA [0, 1, 2, 3, 4, 5, 6, 7, 8, 9, 10, 11, 12, 13, 14, 15, 16] [] rfl rfl (fun _ h9 => absurd h9 List.not_mem_nil) rfl rfl (fun H locs hn4 hP hD hS => ?_)
    obtain ⟨z1, y1⟩ := Prod.mk.inj (Option.some.inj hf)
    subst z1 y1
    exact hend _ _ _ _ rfl hP hS dX9_told_26
  · rw [if_neg c2] at hf
    refine lv_aload_n hx hb dX9_told_12 rfl (lv_at hl 0 rfl) ?_
    refine lv_iload_n hx hb dX9_told_13 rfl (lv_at hl 1 rfl) ?_
    refine kb_bind hf (fun q5 hq5 hf => ?_)
    have hPc : va_P D vwCl (wdM cI cZ h v_all v_past v_states v_refused v_far v_row v_stepAt v_depth v_tries v_values v_wrong v_isEnd v_found v_reached v_stepIn v_laid v_firstRow v_text v_textLong v_spot v_taken v_counted) H := hP.sub [0, 1, 2, 3, 4, 5, 6, 7, 8, 9, 10, 11, 12, 13, 14, 15, 16] rfl
    have hDc : va_D A (wdM cI cZ h v_all v_past v_states v_refused v_far v_row v_stepAt v_depth v_tries v_values v_wrong v_isEnd v_found v_reached v_stepIn v_laid v_firstRow v_text v_textLong v_spot v_taken v_counted) := hD.sub [0, 1, 2, 3, 4, 5, 6, 7, 8, 9, 10, 11, 12, 13, 14, 15, 16] (by decide) rfl
    refine kd_iR (va_runV (As := [.int x1]) (rest := []) ⟨hx, hb, hml, hown, hts⟩ (c9_toldOf l D cB cI cZ cO h H.size x1 v_all v_past v_states v_refused v_far v_row v_stepAt v_depth v_tries v_values v_wrong v_isEnd v_found v_reached v_stepIn v_laid v_firstRow v_text v_textLong v_spot v_taken v_counted q5 hq5) (cwV 1 hts gX9_told_X9_toldOf rfl rfl rfl (by decide +kernel) ⟨Nat.le_of_ble_eq_true rfl, Nat.le_of_ble_eq_true rfl⟩) ⟨kb_blind, va_recv hK hPc (ci := 6) (q0 := 0) rfl rfl, kb_pre hPc hDc hK hN⟩ rfl rfl hl.1 rfl (lv_room (Nat.le_of_ble_eq_true rfl)) dX9_told_14 ⟨Nat.le_refl _, Nat.le_refl _⟩) hP hD hS hA [0, 1, 2, 3, 4, 5, 6, 7, 8, 9, 10, 11, 12, 13, 14, 15, 16] rfl (fun H locs hn6 hP hS => ?_)
    refine lv_goto (tgt := 26) hx hb dX9_told_17 (by decide) ?_
    obtain ⟨z1, y1⟩ := Prod.mk.inj (Option.some.inj hf)
    subst z1 y1
    exact hend _ _ _ _ rfl hP hS dX9_told_26
