set_option maxHeartbeats 4000000 in
set_option maxRecDepth 100000 in
theorem c9_spreads (l : Launch) (D : va_G) (cB cI cZ cO : ClassId) (h : Nat → Nat) (sz : Nat) (v_all : Nat → Int32) (v_past : Nat → Int32) (v_states : Int32) (v_refused : Nat → Int32) (v_far : Nat → Int32) (v_row : Nat → Int32) (v_stepAt : Nat → Int32) (v_depth : Int32) (v_tries : Nat → Int32) (v_values : Nat → Int32) (v_wrong : Int32) (v_isEnd : Nat → Int32) (v_found : Nat → Int32) (v_reached : Nat → Int32) (v_stepIn : Nat → Int32) (v_laid : Nat → Int32) (v_firstRow : Nat → Int32) (v_text : Nat → Int32) (v_textLong : Int32) (v_spot : Int32) (v_taken : Int32) (v_counted : Nat → Int32) (v_far' : Nat → Int32) (v_reached' : Nat → Int32) (hf : f9_spreads v_all v_far v_reached = some (v_far', v_reached')) : Met l yX9_spreads wsX9_spreads rm9_spreads (va_Pc [.ref (h 0)] (kb_B D (ka_tys cB cI cZ cO) sz (wdM cI cZ h v_all v_past v_states v_refused v_far v_row v_stepAt v_depth v_tries v_values v_wrong v_isEnd v_found v_reached v_stepIn v_laid v_firstRow v_text v_textLong v_spot v_taken v_counted))) (va_Qv (fun (_ : Unit) => True) (fun _ t => va_P D vwCl (wdM cI cZ h v_all v_past v_states v_refused (v_far') v_row v_stepAt v_depth v_tries v_values v_wrong v_isEnd v_found (v_reached') v_stepIn v_laid v_firstRow v_text v_textLong v_spot v_taken v_counted) t.heap) (va_A (wdM cI cZ h v_all v_past v_states v_refused v_far v_row v_stepAt v_depth v_tries v_values v_wrong v_isEnd v_found v_reached v_stepIn v_laid v_firstRow v_text v_textLong v_spot v_taken v_counted) sz)) 0 0 (va_A (wdM cI cZ h v_all v_past v_states v_refused v_far v_row v_stepAt v_depth v_tries v_values v_wrong v_isEnd v_found v_reached v_stepIn v_laid v_firstRow v_text v_textLong v_spot v_taken v_counted) sz) := by
  refine kb_metV (cc := cX9_spreads) (maxL := 3) (by decide) rfl (Nat.le_of_ble_eq_true rfl) ?_
  intro p e s m args below meth c Q A ls H hx hb hml hown hts hK hN hP hD hS hA hl hend
  have hown : s.vm.findClass RX9 = some m.cls := hown
  have hl : lv_has ls 3 [(0, .ref (h 0))] := hl
  have hin9 : ∀ w ∈ u_ws RX9 TX9 22, w ∈ wsX9_spreads := by decide +kernel
  have J31 : ∀ (n : Nat) (v_far : Nat → Int32) (v_reached : Nat → Int32) (x1 : Int32) (H : Heap) (locs : List Loc) (ls : Array Slot), f9_spreads_l31 n v_all v_far v_reached x1 = some (v_far', v_reached') → va_P D vwCl (wdM cI cZ h v_all v_past v_states v_refused v_far v_row v_stepAt v_depth v_tries v_values v_wrong v_isEnd v_found v_reached v_stepIn v_laid v_firstRow v_text v_textLong v_spot v_taken v_counted) H → va_D A (wdM cI cZ h v_all v_past v_states v_refused v_far v_row v_stepAt v_depth v_tries v_values v_wrong v_isEnd v_found v_reached v_stepIn v_laid v_firstRow v_text v_textLong v_spot v_taken v_counted) → va_S A s.heap H locs → lv_has ls 3 [(0, .ref (h 0)), (1, .int x1)] → W p l e rm9_spreads s m args below meth c H locs 0 0 Q (F0 m 31 ls []) := by
    intro n
    induction n with
    | zero =>
      intro v_far v_reached x1 H locs ls hf
      cases (show (none : Option ((Nat → Int32) × (Nat → Int32))) = some (v_far', v_reached') from hf)
    | succ n ih =>
      have J124 : ∀ (v_far : Nat → Int32) (v_reached : Nat → Int32) (x1 : Int32) (H : Heap) (locs : List Loc) (ls : Array Slot), f9_spreads_b124 (f9_spreads_l31 n) v_all v_far v_reached x1 = some (v_far', v_reached') → va_P D vwCl (wdM cI cZ h v_all v_past v_states v_refused v_far v_row v_stepAt v_depth v_tries v_values v_wrong v_isEnd v_found v_reached v_stepIn v_laid v_firstRow v_text v_textLong v_spot v_taken v_counted) H → va_D A (wdM cI cZ h v_all v_past v_states v_refused v_far v_row v_stepAt v_depth v_tries v_values v_wrong v_isEnd v_found v_reached v_stepIn v_laid v_firstRow v_text v_textLong v_spot v_taken v_counted) → va_S A s.heap H locs → lv_has ls 3 [(0, .ref (h 0)), (1, .int x1)] → W p l e rm9_spreads s m args below meth c H locs 0 0 Q (F0 m 124 ls []) := by
        intro v_far v_reached x1 H locs ls hf hP hD hS hl
        rw [f9_spreads_b124] at hf
        refine lv_iinc (v := (x1 + 1)) (lv' := [(1, .int (x1 + 1)), (0, .ref (h 0))]) hx hb dX9_spreads_124 hl (k := 1) rfl rfl (by decide) rfl (fun ls hl => ?_)
        refine lv_goto (tgt := 31) hx hb dX9_spreads_127 (by decide) ?_
        exact ih v_far v_reached (x1 + 1) _ _ _ hf hP hD hS (lv_sub hl [1, 0] rfl)
      have J39 : ∀ (n39 : Nat) (v_far : Nat → Int32) (v_reached : Nat → Int32) (x1 : Int32) (x2 : Int32) (H : Heap) (locs : List Loc) (ls : Array Slot), f9_spreads_l39 (f9_spreads_l31 n) n39 v_all v_far v_reached x1 x2 = some (v_far', v_reached') → va_P D vwCl (wdM cI cZ h v_all v_past v_states v_refused v_far v_row v_stepAt v_depth v_tries v_values v_wrong v_isEnd v_found v_reached v_stepIn v_laid v_firstRow v_text v_textLong v_spot v_taken v_counted) H → va_D A (wdM cI cZ h v_all v_past v_states v_refused v_far v_row v_stepAt v_depth v_tries v_values v_wrong v_isEnd v_found v_reached v_stepIn v_laid v_firstRow v_text v_textLong v_spot v_taken v_counted) → va_S A s.heap H locs → lv_has ls 3 [(0, .ref (h 0)), (1, .int x1), (2, .int x2)] → W p l e rm9_spreads s m args below meth c H locs 0 0 Q (F0 m 39 ls []) := by
        intro n39
        induction n39 with
        | zero =>
          intro v_far v_reached x1 x2 H locs ls hf
          cases (show (none : Option ((Nat → Int32) × (Nat → Int32))) = some (v_far', v_reached') from hf)
        | succ n39 ih39 =>
          have J118 : ∀ (v_far : Nat → Int32) (v_reached : Nat → Int32) (x1 : Int32) (x2 : Int32) (H : Heap) (locs : List Loc) (ls : Array Slot), f9_spreads_b118 (f9_spreads_l31 n) (f9_spreads_l39 (f9_spreads_l31 n) n39) v_all v_far v_reached x1 x2 = some (v_far', v_reached') → va_P D vwCl (wdM cI cZ h v_all v_past v_states v_refused v_far v_row v_stepAt v_depth v_tries v_values v_wrong v_isEnd v_found v_reached v_stepIn v_laid v_firstRow v_text v_textLong v_spot v_taken v_counted) H → va_D A (wdM cI cZ h v_all v_past v_states v_refused v_far v_row v_stepAt v_depth v_tries v_values v_wrong v_isEnd v_found v_reached v_stepIn v_laid v_firstRow v_text v_textLong v_spot v_taken v_counted) → va_S A s.heap H locs → lv_has ls 3 [(0, .ref (h 0)), (1, .int x1), (2, .int x2)] → W p l e rm9_spreads s m args below meth c H locs 0 0 Q (F0 m 118 ls []) := by
            intro v_far v_reached x1 x2 H locs ls hf hP hD hS hl
            rw [f9_spreads_b118] at hf
            refine lv_iinc (v := (x2 + 1)) (lv' := [(2, .int (x2 + 1)), (0, .ref (h 0)), (1, .int x1)]) hx hb dX9_spreads_118 hl (k := 2) rfl rfl (by decide) rfl (fun ls hl => ?_)
            refine lv_goto (tgt := 39) hx hb dX9_spreads_121 (by decide) ?_
            exact ih39 v_far v_reached x1 (x2 + 1) _ _ _ hf hP hD hS (lv_sub hl [1, 2, 0] rfl)
          have J115 : ∀ (v_far : Nat → Int32) (v_reached : Nat → Int32) (x1 : Int32) (x2 : Int32) (s1 : Int32) (s2 : Int32) (H : Heap) (locs : List Loc) (ls : Array Slot), f9_spreads_b115 (f9_spreads_l31 n) (f9_spreads_l39 (f9_spreads_l31 n) n39) v_all v_far v_reached x1 x2 s1 s2 = some (v_far', v_reached') → va_P D vwCl (wdM cI cZ h v_all v_past v_states v_refused v_far v_row v_stepAt v_depth v_tries v_values v_wrong v_isEnd v_found v_reached v_stepIn v_laid v_firstRow v_text v_textLong v_spot v_taken v_counted) H → va_D A (wdM cI cZ h v_all v_past v_states v_refused v_far v_row v_stepAt v_depth v_tries v_values v_wrong v_isEnd v_found v_reached v_stepIn v_laid v_firstRow v_text v_textLong v_spot v_taken v_counted) → va_S A s.heap H locs → lv_has ls 3 [(0, .ref (h 0)), (1, .int x1), (2, .int x2)] → W p l e rm9_spreads s m args below meth c H locs 0 0 Q (F0 m 115 ls [.int s2, .int s1, .ref (h 11)]) := by
            intro v_far v_reached x1 x2 s1 s2 H locs ls hf hP hD hS hl
            rw [f9_spreads_b115] at hf
            refine lv_iadd hx hb dX9_spreads_115 ?_
            refine lv_iconst (v := 1) hx hb dX9_spreads_116 (by decide) ?_
            refine kb_bind hf (fun v11 hv11 hf => ?_)
            refine ka_zast (D := D) (cl := vwCl) hx hb hK hP hD hS 11 2 (f := v_reached) (g := v11) rfl rfl (awr_in hv11) (awr_v hv11) dX9_spreads_117 (fun H locs hP hD hS => ?_)
            have hP : va_P D vwCl (wdM cI cZ h v_all v_past v_states v_refused v_far v_row v_stepAt v_depth v_tries v_values v_wrong v_isEnd v_found v11 v_stepIn v_laid v_firstRow v_text v_textLong v_spot v_taken v_counted) H := hP
            have hD : va_D A (wdM cI cZ h v_all v_past v_states v_refused v_far v_row v_stepAt v_depth v_tries v_values v_wrong v_isEnd v_found v11 v_stepIn v_laid v_firstRow v_text v_textLong v_spot v_taken v_counted) := hD
            exact J118 v_far v11 x1 x2 _ _ _ hf hP hD hS (lv_sub hl [0, 1, 2] rfl)
          intro v_far v_reached x1 x2 H locs ls hf hP hD hS hl
          rw [f9_spreads_l39_s] at hf
          refine lv_iload_n hx hb dX9_spreads_39 rfl (lv_at hl 2 rfl) ?_
          refine lv_iconst (v := 3) hx hb dX9_spreads_40 (by decide) ?_
          refine lv_icmp_ge (tgt := 124) hx hb dX9_spreads_41 (by decide) (fun c12 => ?_) (fun c12 => ?_)
          · rw [if_pos c12] at hf
            exact J124 v_far v_reached x1 _ _ _ hf hP hD hS (lv_sub hl [0, 1] rfl)
          · rw [if_neg c12] at hf
            refine lv_aload_n hx hb dX9_spreads_44 rfl (lv_at hl 0 rfl) ?_
            refine va_get (D := D) (cl := vwCl) (ci := 6) (v := .ref (h 11)) (C := RX9) (T := TX9) (N := 22) hx hb hts hin9 hown hK hP 0 rfl rfl 13 (by decide) (hts (.fieldLink RX9 41 "StepOrdersModel" "reached" "[Z") (by decide +kernel)) (fun _ h9 => h9) rfl dX9_spreads_45 ?_
            refine lv_iload_n hx hb dX9_spreads_48 rfl (lv_at hl 1 rfl) ?_
            refine kb_bind hf (fun v13 hv13 hf => ?_)
            refine ka_zald (D := D) (cl := vwCl) hx hb hK hP 11 2 (f := v_reached) rfl rfl (ard_in hv13) (ard_v hv13) dX9_spreads_49 ?_
            refine lv_if_eq (tgt := 124) hx hb dX9_spreads_50 (by decide) (fun c14 => ?_) (fun c14 => ?_)
            · rw [if_pos c14] at hf
              exact J124 v_far v_reached x1 _ _ _ hf hP hD hS (lv_sub hl [0, 1] rfl)
            · rw [if_neg c14] at hf
              refine lv_aload_n hx hb dX9_spreads_53 rfl (lv_at hl 0 rfl) ?_
              refine va_get (D := D) (cl := vwCl) (ci := 6) (v := .ref (h 4)) (C := RX9) (T := TX9) (N := 22) hx hb hts hin9 hown hK hP 0 rfl rfl 4 (by decide) (hts (.fieldLink RX9 19 "StepOrdersModel" "far" "[I") (by decide +kernel)) (fun _ h9 => h9) rfl dX9_spreads_54 ?_
              refine lv_iconst (v := 0) hx hb dX9_spreads_57 (by decide) ?_
              refine lv_iload_n hx hb dX9_spreads_58 rfl (lv_at hl 1 rfl) ?_
              refine lv_iconst (v := 5) hx hb dX9_spreads_59 (by decide) ?_
              refine lv_irem hx hb dX9_spreads_60 (by decide) ?_
              refine ka_iast (D := D) (cl := vwCl) hx hb hK hP hD hS 4 1 (f := v_far) (g := (upd v_far 0 (x1 - x1 / (5 : Int32) * (5 : Int32)))) rfl rfl (show ¬ (_ ∨ _) from by decide) rfl dX9_spreads_61 (fun H locs hP hD hS => ?_)
              have hP : va_P D vwCl (wdM cI cZ h v_all v_past v_states v_refused (upd v_far 0 (x1 - x1 / (5 : Int32) * (5 : Int32))) v_row v_stepAt v_depth v_tries v_values v_wrong v_isEnd v_found v_reached v_stepIn v_laid v_firstRow v_text v_textLong v_spot v_taken v_counted) H := hP
              have hD : va_D A (wdM cI cZ h v_all v_past v_states v_refused (upd v_far 0 (x1 - x1 / (5 : Int32) * (5 : Int32))) v_row v_stepAt v_depth v_tries v_values v_wrong v_isEnd v_found v_reached v_stepIn v_laid v_firstRow v_text v_textLong v_spot v_taken v_counted) := hD
              refine lv_aload_n hx hb dX9_spreads_62 rfl (lv_at hl 0 rfl) ?_
              refine va_get (D := D) (cl := vwCl) (ci := 6) (v := .ref (h 4)) (C := RX9) (T := TX9) (N := 22) hx hb hts hin9 hown hK hP 0 rfl rfl 4 (by decide) (hts (.fieldLink RX9 19 "StepOrdersModel" "far" "[I") (by decide +kernel)) (fun _ h9 => h9) rfl dX9_spreads_63 ?_
              refine lv_iconst (v := 1) hx hb dX9_spreads_66 (by decide) ?_
              refine lv_iload_n hx hb dX9_spreads_67 rfl (lv_at hl 1 rfl) ?_
              refine lv_iconst (v := 5) hx hb dX9_spreads_68 (by decide) ?_
              refine lv_idiv hx hb dX9_spreads_69 (by decide) ?_
              refine lv_iconst (v := 5) hx hb dX9_spreads_70 (by decide) ?_
              refine lv_irem hx hb dX9_spreads_71 (by decide) ?_
              refine ka_iast (D := D) (cl := vwCl) hx hb hK hP hD hS 4 1 (f := (upd v_far 0 (x1 - x1 / (5 : Int32) * (5 : Int32)))) (g := (upd (upd v_far 0 (x1 - x1 / (5 : Int32) * (5 : Int32))) 1 ((x1 / (5 : Int32)) - (x1 / (5 : Int32)) / (5 : Int32) * (5 : Int32)))) rfl rfl (show ¬ (_ ∨ _) from by decide) rfl dX9_spreads_72 (fun H locs hP hD hS => ?_)
              have hP : va_P D vwCl (wdM cI cZ h v_all v_past v_states v_refused (upd (upd v_far 0 (x1 - x1 / (5 : Int32) * (5 : Int32))) 1 ((x1 / (5 : Int32)) - (x1 / (5 : Int32)) / (5 : Int32) * (5 : Int32))) v_row v_stepAt v_depth v_tries v_values v_wrong v_isEnd v_found v_reached v_stepIn v_laid v_firstRow v_text v_textLong v_spot v_taken v_counted) H := hP
              have hD : va_D A (wdM cI cZ h v_all v_past v_states v_refused (upd (upd v_far 0 (x1 - x1 / (5 : Int32) * (5 : Int32))) 1 ((x1 / (5 : Int32)) - (x1 / (5 : Int32)) / (5 : Int32) * (5 : Int32))) v_row v_stepAt v_depth v_tries v_values v_wrong v_isEnd v_found v_reached v_stepIn v_laid v_firstRow v_text v_textLong v_spot v_taken v_counted) := hD
              refine lv_aload_n hx hb dX9_spreads_73 rfl (lv_at hl 0 rfl) ?_
              refine va_get (D := D) (cl := vwCl) (ci := 6) (v := .ref (h 4)) (C := RX9) (T := TX9) (N := 22) hx hb hts hin9 hown hK hP 0 rfl rfl 4 (by decide) (hts (.fieldLink RX9 19 "StepOrdersModel" "far" "[I") (by decide +kernel)) (fun _ h9 => h9) rfl dX9_spreads_74 ?_
              refine lv_iconst (v := 2) hx hb dX9_spreads_77 (by decide) ?_
              refine lv_iload_n hx hb dX9_spreads_78 rfl (lv_at hl 1 rfl) ?_
              refine lv_bipush (v := 25) hx hb dX9_spreads_79 (by decide) ?_
              refine lv_idiv hx hb dX9_spreads_81 (by decide) ?_
              refine ka_iast (D := D) (cl := vwCl) hx hb hK hP hD hS 4 1 (f := (upd (upd v_far 0 (x1 - x1 / (5 : Int32) * (5 : Int32))) 1 ((x1 / (5 : Int32)) - (x1 / (5 : Int32)) / (5 : Int32) * (5 : Int32)))) (g := (upd (upd (upd v_far 0 (x1 - x1 / (5 : Int32) * (5 : Int32))) 1 ((x1 / (5 : Int32)) - (x1 / (5 : Int32)) / (5 : Int32) * (5 : Int32))) 2 (x1 / (25 : Int32)))) rfl rfl (show ¬ (_ ∨ _) from by decide) rfl dX9_spreads_82 (fun H locs hP hD hS => ?_)
              have hP : va_P D vwCl (wdM cI cZ h v_all v_past v_states v_refused (upd (upd (upd v_far 0 (x1 - x1 / (5 : Int32) * (5 : Int32))) 1 ((x1 / (5 : Int32)) - (x1 / (5 : Int32)) / (5 : Int32) * (5 : Int32))) 2 (x1 / (25 : Int32))) v_row v_stepAt v_depth v_tries v_values v_wrong v_isEnd v_found v_reached v_stepIn v_laid v_firstRow v_text v_textLong v_spot v_taken v_counted) H := hP
              have hD : va_D A (wdM cI cZ h v_all v_past v_states v_refused (upd (upd (upd v_far 0 (x1 - x1 / (5 : Int32) * (5 : Int32))) 1 ((x1 / (5 : Int32)) - (x1 / (5 : Int32)) / (5 : Int32) * (5 : Int32))) 2 (x1 / (25 : Int32))) v_row v_stepAt v_depth v_tries v_values v_wrong v_isEnd v_found v_reached v_stepIn v_laid v_firstRow v_text v_textLong v_spot v_taken v_counted) := hD
              refine lv_aload_n hx hb dX9_spreads_83 rfl (lv_at hl 0 rfl) ?_
              refine lv_iload_n hx hb dX9_spreads_84 rfl (lv_at hl 2 rfl) ?_
              refine kb_bind hf (fun q15 hq15 hf => ?_)
              have hPc : va_P D vwCl (wdM cI cZ h v_all v_past v_states v_refused (upd (upd (upd v_far 0 (x1 - x1 / (5 : Int32) * (5 : Int32))) 1 ((x1 / (5 : Int32)) - (x1 / (5 : Int32)) / (5 : Int32) * (5 : Int32))) 2 (x1 / (25 : Int32))) v_row v_stepAt v_depth v_tries v_values v_wrong v_isEnd v_found v_reached v_stepIn v_laid v_firstRow v_text v_textLong v_spot v_taken v_counted) H := hP.sub [0, 1, 2, 3, 4, 5, 6, 7, 8, 9, 10, 11, 12, 13, 14, 15, 16] rfl
              have hDc : va_D A (wdM cI cZ h v_all v_past v_states v_refused (upd (upd (upd v_far 0 (x1 - x1 / (5 : Int32) * (5 : Int32))) 1 ((x1 / (5 : Int32)) - (x1 / (5 : Int32)) / (5 : Int32) * (5 : Int32))) 2 (x1 / (25 : Int32))) v_row v_stepAt v_depth v_tries v_values v_wrong v_isEnd v_found v_reached v_stepIn v_laid v_firstRow v_text v_textLong v_spot v_taken v_counted) := hD.sub [0, 1, 2, 3, 4, 5, 6, 7, 8, 9, 10, 11, 12, 13, 14, 15, 16] (by decide) rfl
              refine kd_iR (va_runV (As := [.int x2]) (rest := []) ⟨hx, hb, hml, hown, hts⟩ (c9_canDo l D cB cI cZ cO h H.size x2 v_all v_past v_states v_refused (upd (upd (upd v_far 0 (x1 - x1 / (5 : Int32) * (5 : Int32))) 1 ((x1 / (5 : Int32)) - (x1 / (5 : Int32)) / (5 : Int32) * (5 : Int32))) 2 (x1 / (25 : Int32))) v_row v_stepAt v_depth v_tries v_values v_wrong v_isEnd v_found v_reached v_stepIn v_laid v_firstRow v_text v_textLong v_spot v_taken v_counted q15 hq15) (cwV 1 hts gX9_spreads_X9_canDo rfl rfl rfl (by decide +kernel) ⟨Nat.le_of_ble_eq_true rfl, Nat.le_of_ble_eq_true rfl⟩) ⟨kb_blind, va_recv hK hPc (ci := 6) (q0 := 0) rfl rfl, kb_pre hPc hDc hK hN⟩ rfl rfl hl.1 rfl (lv_room (Nat.le_of_ble_eq_true rfl)) dX9_spreads_85 ⟨Nat.le_refl _, Nat.le_refl _⟩) hP hD hS hA [0, 1, 2, 3, 4, 5, 6, 7, 8, 9, 10, 11, 12, 13, 14, 15, 16] rfl (fun H locs hn16 hP hS => ?_)
              refine lv_if_eq (tgt := 118) hx hb dX9_spreads_88 (by decide) (fun c17 => ?_) (fun c17 => ?_)
              · rw [if_pos c17] at hf
                exact J118 (upd (upd (upd v_far 0 (x1 - x1 / (5 : Int32) * (5 : Int32))) 1 ((x1 / (5 : Int32)) - (x1 / (5 : Int32)) / (5 : Int32) * (5 : Int32))) 2 (x1 / (25 : Int32))) v_reached x1 x2 _ _ _ hf hP hD hS (lv_sub hl [0, 1, 2] rfl)
              · rw [if_neg c17] at hf
                refine lv_aload_n hx hb dX9_spreads_91 rfl (lv_at hl 0 rfl) ?_
                refine va_get (D := D) (cl := vwCl) (ci := 6) (v := .ref (h 11)) (C := RX9) (T := TX9) (N := 22) hx hb hts hin9 hown hK hP 0 rfl rfl 13 (by decide) (hts (.fieldLink RX9 41 "StepOrdersModel" "reached" "[Z") (by decide +kernel)) (fun _ h9 => h9) rfl dX9_spreads_92 ?_
                refine lv_iload_n hx hb dX9_spreads_95 rfl (lv_at hl 1 rfl) ?_
                refine lv_iload_n hx hb dX9_spreads_96 rfl (lv_at hl 2 rfl) ?_
                refine lv_if_ne (tgt := 104) hx hb dX9_spreads_97 (by decide) (fun c18 => ?_) (fun c18 => ?_)
                · rw [if_neg c18] at hf
                  refine lv_iload_n hx hb dX9_spreads_104 rfl (lv_at hl 2 rfl) ?_
                  refine lv_iconst (v := 1) hx hb dX9_spreads_105 (by decide) ?_
                  refine lv_icmp_ne (tgt := 113) hx hb dX9_spreads_106 (by decide) (fun c19 => ?_) (fun c19 => ?_)
                  · rw [if_neg c19] at hf
                    refine lv_bipush (v := 25) hx hb dX9_spreads_113 (by decide) ?_
                    exact J115 (upd (upd (upd v_far 0 (x1 - x1 / (5 : Int32) * (5 : Int32))) 1 ((x1 / (5 : Int32)) - (x1 / (5 : Int32)) / (5 : Int32) * (5 : Int32))) 2 (x1 / (25 : Int32))) v_reached x1 x2 x1 (25 : Int32) _ _ _ hf hP hD hS (lv_sub hl [0, 1, 2] rfl)
                  · rw [if_pos c19] at hf
                    refine lv_iconst (v := 5) hx hb dX9_spreads_109 (by decide) ?_
                    refine lv_goto (tgt := 115) hx hb dX9_spreads_110 (by decide) ?_
                    exact J115 (upd (upd (upd v_far 0 (x1 - x1 / (5 : Int32) * (5 : Int32))) 1 ((x1 / (5 : Int32)) - (x1 / (5 : Int32)) / (5 : Int32) * (5 : Int32))) 2 (x1 / (25 : Int32))) v_reached x1 x2 x1 (5 : Int32) _ _ _ hf hP hD hS (lv_sub hl [0, 1, 2] rfl)
                · rw [if_pos c18] at hf
                  refine lv_iconst (v := 1) hx hb dX9_spreads_100 (by decide) ?_
                  refine lv_goto (tgt := 115) hx hb dX9_spreads_101 (by decide) ?_
                  exact J115 (upd (upd (upd v_far 0 (x1 - x1 / (5 : Int32) * (5 : Int32))) 1 ((x1 / (5 : Int32)) - (x1 / (5 : Int32)) / (5 : Int32) * (5 : Int32))) 2 (x1 / (25 : Int32))) v_reached x1 x2 x1 (1 : Int32) _ _ _ hf hP hD hS (lv_sub hl [0, 1, 2] rfl)
      intro v_far v_reached x1 H locs ls hf hP hD hS hl
      rw [f9_spreads_l31_s] at hf
      refine lv_iload_n hx hb dX9_spreads_31 rfl (lv_at hl 1 rfl) ?_
      refine lv_bipush (v := 125) hx hb dX9_spreads_32 (by decide) ?_
      refine lv_icmp_ge (tgt := 130) hx hb dX9_spreads_34 (by decide) (fun c20 => ?_) (fun c20 => ?_)
      · rw [if_pos c20] at hf
        obtain ⟨z1, y1⟩ := Prod.mk.inj (Option.some.inj hf)
        subst z1 y1
        exact hend _ _ _ _ hP hS dX9_spreads_130
      · rw [if_neg c20] at hf
        refine lv_iconst (v := 0) hx hb dX9_spreads_37 (by decide) ?_
        refine lv_istore_n (lv' := [(2, .int (0 : Int32)), (0, .ref (h 0)), (1, .int x1)]) hx hb dX9_spreads_38 rfl hl (by decide) rfl (fun ls hl => ?_)
        exact J39 kFUEL v_far v_reached x1 (0 : Int32) _ _ _ hf hP hD hS (lv_sub hl [1, 2, 0] rfl)
  have J29 : ∀ (v_far : Nat → Int32) (v_reached : Nat → Int32) (H : Heap) (locs : List Loc) (ls : Array Slot), f9_spreads_b29 v_all v_far v_reached = some (v_far', v_reached') → va_P D vwCl (wdM cI cZ h v_all v_past v_states v_refused v_far v_row v_stepAt v_depth v_tries v_values v_wrong v_isEnd v_found v_reached v_stepIn v_laid v_firstRow v_text v_textLong v_spot v_taken v_counted) H → va_D A (wdM cI cZ h v_all v_past v_states v_refused v_far v_row v_stepAt v_depth v_tries v_values v_wrong v_isEnd v_found v_reached v_stepIn v_laid v_firstRow v_text v_textLong v_spot v_taken v_counted) → va_S A s.heap H locs → lv_has ls 3 [(0, .ref (h 0))] → W p l e rm9_spreads s m args below meth c H locs 0 0 Q (F0 m 29 ls []) := by
    intro v_far v_reached H locs ls hf hP hD hS hl
    rw [f9_spreads_b29] at hf
    refine lv_iconst (v := 0) hx hb dX9_spreads_29 (by decide) ?_
    refine lv_istore_n (lv' := [(1, .int (0 : Int32)), (0, .ref (h 0))]) hx hb dX9_spreads_30 rfl hl (by decide) rfl (fun ls hl => ?_)
    exact J31 kFUEL v_far v_reached (0 : Int32) _ _ _ hf hP hD hS (lv_sub hl [1, 0] rfl)
  have J2 : ∀ (n : Nat) (v_far : Nat → Int32) (v_reached : Nat → Int32) (x1 : Int32) (H : Heap) (locs : List Loc) (ls : Array Slot), f9_spreads_l2 n v_all v_far v_reached x1 = some (v_far', v_reached') → va_P D vwCl (wdM cI cZ h v_all v_past v_states v_refused v_far v_row v_stepAt v_depth v_tries v_values v_wrong v_isEnd v_found v_reached v_stepIn v_laid v_firstRow v_text v_textLong v_spot v_taken v_counted) H → va_D A (wdM cI cZ h v_all v_past v_states v_refused v_far v_row v_stepAt v_depth v_tries v_values v_wrong v_isEnd v_found v_reached v_stepIn v_laid v_firstRow v_text v_textLong v_spot v_taken v_counted) → va_S A s.heap H locs → lv_has ls 3 [(0, .ref (h 0)), (1, .int x1)] → W p l e rm9_spreads s m args below meth c H locs 0 0 Q (F0 m 2 ls []) := by
    intro n
    induction n with
    | zero =>
      intro v_far v_reached x1 H locs ls hf
      cases (show (none : Option ((Nat → Int32) × (Nat → Int32))) = some (v_far', v_reached') from hf)
    | succ n ih =>
      have J22 : ∀ (v_far : Nat → Int32) (v_reached : Nat → Int32) (x1 : Int32) (s1 : Int32) (s2 : Int32) (H : Heap) (locs : List Loc) (ls : Array Slot), f9_spreads_b22 (f9_spreads_l2 n) v_all v_far v_reached x1 s1 s2 = some (v_far', v_reached') → va_P D vwCl (wdM cI cZ h v_all v_past v_states v_refused v_far v_row v_stepAt v_depth v_tries v_values v_wrong v_isEnd v_found v_reached v_stepIn v_laid v_firstRow v_text v_textLong v_spot v_taken v_counted) H → va_D A (wdM cI cZ h v_all v_past v_states v_refused v_far v_row v_stepAt v_depth v_tries v_values v_wrong v_isEnd v_found v_reached v_stepIn v_laid v_firstRow v_text v_textLong v_spot v_taken v_counted) → va_S A s.heap H locs → lv_has ls 3 [(0, .ref (h 0)), (1, .int x1)] → W p l e rm9_spreads s m args below meth c H locs 0 0 Q (F0 m 22 ls [.int s2, .int s1, .ref (h 11)]) := by
        intro v_far v_reached x1 s1 s2 H locs ls hf hP hD hS hl
        rw [f9_spreads_b22] at hf
        refine kb_bind hf (fun v24 hv24 hf => ?_)
        refine ka_zast (D := D) (cl := vwCl) hx hb hK hP hD hS 11 2 (f := v_reached) (g := v24) rfl rfl (awr_in hv24) (awr_v hv24) dX9_spreads_22 (fun H locs hP hD hS => ?_)
        have hP : va_P D vwCl (wdM cI cZ h v_all v_past v_states v_refused v_far v_row v_stepAt v_depth v_tries v_values v_wrong v_isEnd v_found v24 v_stepIn v_laid v_firstRow v_text v_textLong v_spot v_taken v_counted) H := hP
        have hD : va_D A (wdM cI cZ h v_all v_past v_states v_refused v_far v_row v_stepAt v_depth v_tries v_values v_wrong v_isEnd v_found v24 v_stepIn v_laid v_firstRow v_text v_textLong v_spot v_taken v_counted) := hD
        refine lv_iinc (v := (x1 + 1)) (lv' := [(1, .int (x1 + 1)), (0, .ref (h 0))]) hx hb dX9_spreads_23 hl (k := 1) rfl rfl (by decide) rfl (fun ls hl => ?_)
        refine lv_goto (tgt := 2) hx hb dX9_spreads_26 (by decide) ?_
        exact ih v_far v24 (x1 + 1) _ _ _ hf hP hD hS (lv_sub hl [1, 0] rfl)
      intro v_far v_reached x1 H locs ls hf hP hD hS hl
      rw [f9_spreads_l2_s] at hf
      refine lv_iload_n hx hb dX9_spreads_2 rfl (lv_at hl 1 rfl) ?_
      refine lv_bipush (v := 125) hx hb dX9_spreads_3 (by decide) ?_
      refine lv_icmp_ge (tgt := 29) hx hb dX9_spreads_5 (by decide) (fun c25 => ?_) (fun c25 => ?_)
      · rw [if_pos c25] at hf
        exact J29 v_far v_reached _ _ _ hf hP hD hS (lv_sub hl [0] rfl)
      · rw [if_neg c25] at hf
        refine lv_aload_n hx hb dX9_spreads_8 rfl (lv_at hl 0 rfl) ?_
        refine va_get (D := D) (cl := vwCl) (ci := 6) (v := .ref (h 11)) (C := RX9) (T := TX9) (N := 22) hx hb hts hin9 hown hK hP 0 rfl rfl 13 (by decide) (hts (.fieldLink RX9 41 "StepOrdersModel" "reached" "[Z") (by decide +kernel)) (fun _ h9 => h9) rfl dX9_spreads_9 ?_
        refine lv_iload_n hx hb dX9_spreads_12 rfl (lv_at hl 1 rfl) ?_
        refine lv_iload_n hx hb dX9_spreads_13 rfl (lv_at hl 1 rfl) ?_
        refine lv_if_ne (tgt := 21) hx hb dX9_spreads_14 (by decide) (fun c26 => ?_) (fun c26 => ?_)
        · rw [if_neg c26] at hf
          refine lv_iconst (v := 0) hx hb dX9_spreads_21 (by decide) ?_
          exact J22 v_far v_reached x1 x1 (0 : Int32) _ _ _ hf hP hD hS (lv_sub hl [0, 1] rfl)
        · rw [if_pos c26] at hf
          refine lv_iconst (v := 1) hx hb dX9_spreads_17 (by decide) ?_
          refine lv_goto (tgt := 22) hx hb dX9_spreads_18 (by decide) ?_
          exact J22 v_far v_reached x1 x1 (1 : Int32) _ _ _ hf hP hD hS (lv_sub hl [0, 1] rfl)
  rw [f9_spreads] at hf
  refine lv_iconst (v := 0) hx hb dX9_spreads_0 (by decide) ?_
  refine lv_istore_n (lv' := [(1, .int (0 : Int32)), (0, .ref (h 0))]) hx hb dX9_spreads_1 rfl hl (by decide) rfl (fun ls hl => ?_)
  exact J2 kFUEL v_far v_reached (0 : Int32) _ _ _ hf hP hD hS (lv_sub hl [1, 0] rfl)

set_option maxHeartbeats 4000000 in
set_option maxRecDepth 100000 in
theorem c9_isRace (l : Launch) (D : va_G) (cB cI cZ cO : ClassId) (h : Nat → Nat) (sz : Nat) (x1 : Int32) (x2 : Int32) (x3 : Int32) (x4 : Int32) (v_all : Nat → Int32) (v_past : Nat → Int32) (v_states : Int32) (v_refused : Nat → Int32) (v_far : Nat → Int32) (v_row : Nat → Int32) (v_stepAt : Nat → Int32) (v_depth : Int32) (v_tries : Nat → Int32) (v_values : Nat → Int32) (v_wrong : Int32) (v_isEnd : Nat → Int32) (v_found : Nat → Int32) (v_reached : Nat → Int32) (v_stepIn : Nat → Int32) (v_laid : Nat → Int32) (v_firstRow : Nat → Int32) (v_text : Nat → Int32) (v_textLong : Int32) (v_spot : Int32) (v_taken : Int32) (v_counted : Nat → Int32) (r0 : Int32) (v_far' : Nat → Int32) (hf : f9_isRace v_all v_far v_reached x1 x2 x3 x4 = some (r0, v_far')) : Met l yX9_isRace wsX9_isRace rm9_isRace (va_Pc [.ref (h 0), .int x1, .int x2, .int x3, .int x4] (kb_B D (ka_tys cB cI cZ cO) sz (wdM cI cZ h v_all v_past v_states v_refused v_far v_row v_stepAt v_depth v_tries v_values v_wrong v_isEnd v_found v_reached v_stepIn v_laid v_firstRow v_text v_textLong v_spot v_taken v_counted))) (va_Qi (kb_post .boolean r0) (fun _ t => va_P D vwCl (wdM cI cZ h v_all v_past v_states v_refused (v_far') v_row v_stepAt v_depth v_tries v_values v_wrong v_isEnd v_found v_reached v_stepIn v_laid v_firstRow v_text v_textLong v_spot v_taken v_counted) t.heap) (va_A (wdM cI cZ h v_all v_past v_states v_refused v_far v_row v_stepAt v_depth v_tries v_values v_wrong v_isEnd v_found v_reached v_stepIn v_laid v_firstRow v_text v_textLong v_spot v_taken v_counted) sz)) 0 0 (va_A (wdM cI cZ h v_all v_past v_states v_refused v_far v_row v_stepAt v_depth v_tries v_values v_wrong v_isEnd v_found v_reached v_stepIn v_laid v_firstRow v_text v_textLong v_spot v_taken v_counted) sz) := by
  refine kb_metZ (cc := cX9_isRace) (maxL := 7) (ty := .boolean) (by decide) rfl (Nat.le_of_ble_eq_true rfl) ?_
  intro p e s m args below meth c Q A ls H hx hb hml hown hts hK hN hP hD hS hA hl hend
  have hown : s.vm.findClass RX9 = some m.cls := hown
  have hl : lv_has ls 7 [(0, .ref (h 0)), (1, .int x1), (2, .int x2), (3, .int x3), (4, .int x4)] := hl
  have hin9 : ∀ w ∈ u_ws RX9 TX9 22, w ∈ wsX9_isRace := by decide +kernel
  have J102 : ∀ (v_far : Nat → Int32) (x1 : Int32) (x2 : Int32) (x3 : Int32) (x4 : Int32) (x5 : Int32) (H : Heap) (locs : List Loc) (ls : Array Slot), f9_isRace_b102 v_all v_far v_reached x1 x2 x3 x4 x5 = some (r0, v_far') → va_P D vwCl (wdM cI cZ h v_all v_past v_states v_refused v_far v_row v_stepAt v_depth v_tries v_values v_wrong v_isEnd v_found v_reached v_stepIn v_laid v_firstRow v_text v_textLong v_spot v_taken v_counted) H → va_D A (wdM cI cZ h v_all v_past v_states v_refused v_far v_row v_stepAt v_depth v_tries v_values v_wrong v_isEnd v_found v_reached v_stepIn v_laid v_firstRow v_text v_textLong v_spot v_taken v_counted) → va_S A s.heap H locs → lv_has ls 7 [(0, .ref (h 0)), (1, .int x1), (2, .int x2), (3, .int x3), (4, .int x4), (5, .int x5)] → W p l e rm9_isRace s m args below meth c H locs 0 0 Q (F0 m 102 ls []) := by
    intro v_far x1 x2 x3 x4 x5 H locs ls hf hP hD hS hl
    rw [f9_isRace_b102] at hf
    refine lv_iload hx hb dX9_isRace_102 (lv_at hl 5 rfl) ?_
    refine lv_if_eq (tgt := 123) hx hb dX9_isRace_104 (by decide) (fun c5 => ?_) (fun c5 => ?_)
    · rw [if_pos c5] at hf
      refine lv_iconst (v := 0) hx hb dX9_isRace_123 (by decide) ?_
      obtain ⟨z1, y1⟩ := Prod.mk.inj (Option.some.inj hf)
      subst z1 y1
      exact hend _ _ _ _ rfl hP hS dX9_isRace_124
    · rw [if_neg c5] at hf
      refine lv_aload_n hx hb dX9_isRace_107 rfl (lv_at hl 0 rfl) ?_
      refine lv_iload_n hx hb dX9_isRace_108 rfl (lv_at hl 1 rfl) ?_
      refine lv_iload_n hx hb dX9_isRace_109 rfl (lv_at hl 2 rfl) ?_
      refine lv_iload_n hx hb dX9_isRace_110 rfl (lv_at hl 3 rfl) ?_
      refine lv_iload hx hb dX9_isRace_111 (lv_at hl 4 rfl) ?_
      refine kb_bind hf (fun q6 hq6 hf => ?_)
      have hPc : va_P D vwCl (wdM cI cZ h v_all v_past v_states v_refused v_far v_row v_stepAt v_depth v_tries v_values v_wrong v_isEnd v_found v_reached v_stepIn v_laid v_firstRow v_text v_textLong v_spot v_taken v_counted) H := hP.sub [0, 1, 2, 3, 4, 5, 6, 7, 8, 9, 10, 11, 12, 13, 14, 15, 16] rfl
      have hDc : va_D A (wdM cI cZ h v_all v_past v_states v_refused v_far v_row v_stepAt v_depth v_tries v_values v_wrong v_isEnd v_found v_reached v_stepIn v_laid v_firstRow v_text v_textLong v_spot v_taken v_counted) := hD.sub [0, 1, 2, 3, 4, 5, 6, 7, 8, 9, 10, 11, 12, 13, 14, 15, 16] (by decide) rfl
      refine kd_iR (va_runV (As := [.int x1, .int x2, .int x3, .int x4]) (rest := []) ⟨hx, hb, hml, hown, hts⟩ (c9_byNumber l D cB cI cZ cO h H.size x1 x2 x3 x4 v_all v_past v_states v_refused v_far v_row v_stepAt v_depth v_tries v_values v_wrong v_isEnd v_found v_reached v_stepIn v_laid v_firstRow v_text v_textLong v_spot v_taken v_counted q6 hq6) (cwV 4 hts gX9_isRace_X9_byNumber rfl rfl rfl (by decide +kernel) ⟨Nat.le_of_ble_eq_true rfl, Nat.le_of_ble_eq_true rfl⟩) ⟨kb_blind, va_recv hK hPc (ci := 6) (q0 := 0) rfl rfl, kb_pre hPc hDc hK hN⟩ rfl rfl hl.1 rfl (lv_room (Nat.le_of_ble_eq_true rfl)) dX9_isRace_113 ⟨Nat.le_refl _, Nat.le_refl _⟩) hP hD hS hA [0, 1, 2, 3, 4, 5, 6, 7, 8, 9, 10, 11, 12, 13, 14, 15, 16] rfl (fun H locs hn7 hP hS => ?_)
      refine lv_if_eq (tgt := 123) hx hb dX9_isRace_116 (by decide) (fun c8 => ?_) (fun c8 => ?_)
      · rw [if_pos c8] at hf
        refine lv_iconst (v := 0) hx hb dX9_isRace_123 (by decide) ?_
        obtain ⟨z1, y1⟩ := Prod.mk.inj (Option.some.inj hf)
        subst z1 y1
        exact hend _ _ _ _ rfl hP hS dX9_isRace_124
      · rw [if_neg c8] at hf
        refine lv_iconst (v := 1) hx hb dX9_isRace_119 (by decide) ?_
        refine lv_goto (tgt := 124) hx hb dX9_isRace_120 (by decide) ?_
        obtain ⟨z1, y1⟩ := Prod.mk.inj (Option.some.inj hf)
        subst z1 y1
        exact hend _ _ _ _ rfl hP hS dX9_isRace_124
  have J6 : ∀ (n : Nat) (v_far : Nat → Int32) (x1 : Int32) (x2 : Int32) (x3 : Int32) (x4 : Int32) (x5 : Int32) (x6 : Int32) (H : Heap) (locs : List Loc) (ls : Array Slot), f9_isRace_l6 n v_all v_far v_reached x1 x2 x3 x4 x5 x6 = some (r0, v_far') → va_P D vwCl (wdM cI cZ h v_all v_past v_states v_refused v_far v_row v_stepAt v_depth v_tries v_values v_wrong v_isEnd v_found v_reached v_stepIn v_laid v_firstRow v_text v_textLong v_spot v_taken v_counted) H → va_D A (wdM cI cZ h v_all v_past v_states v_refused v_far v_row v_stepAt v_depth v_tries v_values v_wrong v_isEnd v_found v_reached v_stepIn v_laid v_firstRow v_text v_textLong v_spot v_taken v_counted) → va_S A s.heap H locs → lv_has ls 7 [(0, .ref (h 0)), (1, .int x1), (2, .int x2), (3, .int x3), (4, .int x4), (5, .int x5), (6, .int x6)] → W p l e rm9_isRace s m args below meth c H locs 0 0 Q (F0 m 6 ls []) := by
    intro n
    induction n with
    | zero =>
      intro v_far x1 x2 x3 x4 x5 x6 H locs ls hf
      cases (show (none : Option (Int32 × (Nat → Int32))) = some (r0, v_far') from hf)
    | succ n ih =>
      have J94 : ∀ (v_far : Nat → Int32) (x1 : Int32) (x2 : Int32) (x3 : Int32) (x4 : Int32) (x6 : Int32) (s0 : Int32) (H : Heap) (locs : List Loc) (ls : Array Slot), f9_isRace_b94 (f9_isRace_l6 n) v_all v_far v_reached x1 x2 x3 x4 x6 s0 = some (r0, v_far') → va_P D vwCl (wdM cI cZ h v_all v_past v_states v_refused v_far v_row v_stepAt v_depth v_tries v_values v_wrong v_isEnd v_found v_reached v_stepIn v_laid v_firstRow v_text v_textLong v_spot v_taken v_counted) H → va_D A (wdM cI cZ h v_all v_past v_states v_refused v_far v_row v_stepAt v_depth v_tries v_values v_wrong v_isEnd v_found v_reached v_stepIn v_laid v_firstRow v_text v_textLong v_spot v_taken v_counted) → va_S A s.heap H locs → lv_has ls 7 [(0, .ref (h 0)), (1, .int x1), (2, .int x2), (3, .int x3), (4, .int x4), (6, .int x6)] → W p l e rm9_isRace s m args below meth c H locs 0 0 Q (F0 m 94 ls [.int s0]) := by
        intro v_far x1 x2 x3 x4 x6 s0 H locs ls hf hP hD hS hl
        rw [f9_isRace_b94] at hf
        refine lv_istore (lv' := [(5, .int s0), (0, .ref (h 0)), (1, .int x1), (2, .int x2), (3, .int x3), (4, .int x4), (6, .int x6)]) hx hb dX9_isRace_94 hl (by decide) rfl (fun ls hl => ?_)
        refine lv_iinc (v := (x6 + 1)) (lv' := [(6, .int (x6 + 1)), (5, .int s0), (0, .ref (h 0)), (1, .int x1), (2, .int x2), (3, .int x3), (4, .int x4)]) hx hb dX9_isRace_96 hl (k := 6) rfl rfl (by decide) rfl (fun ls hl => ?_)
        refine lv_goto (tgt := 6) hx hb dX9_isRace_99 (by decide) ?_
        exact ih v_far x1 x2 x3 x4 s0 (x6 + 1) _ _ _ hf hP hD hS (lv_sub hl [2, 3, 4, 5, 6, 1, 0] rfl)
      have J89 : ∀ (v_far : Nat → Int32) (x1 : Int32) (x2 : Int32) (x3 : Int32) (x4 : Int32) (x6 : Int32) (H : Heap) (locs : List Loc) (ls : Array Slot), f9_isRace_b89 (f9_isRace_l6 n) v_all v_far v_reached x1 x2 x3 x4 x6 = some (r0, v_far') → va_P D vwCl (wdM cI cZ h v_all v_past v_states v_refused v_far v_row v_stepAt v_depth v_tries v_values v_wrong v_isEnd v_found v_reached v_stepIn v_laid v_firstRow v_text v_textLong v_spot v_taken v_counted) H → va_D A (wdM cI cZ h v_all v_past v_states v_refused v_far v_row v_stepAt v_depth v_tries v_values v_wrong v_isEnd v_found v_reached v_stepIn v_laid v_firstRow v_text v_textLong v_spot v_taken v_counted) → va_S A s.heap H locs → lv_has ls 7 [(0, .ref (h 0)), (1, .int x1), (2, .int x2), (3, .int x3), (4, .int x4), (6, .int x6)] → W p l e rm9_isRace s m args below meth c H locs 0 0 Q (F0 m 89 ls []) := by
        intro v_far x1 x2 x3 x4 x6 H locs ls hf hP hD hS hl
        rw [f9_isRace_b89] at hf
        refine lv_iconst (v := 1) hx hb dX9_isRace_89 (by decide) ?_
        refine lv_goto (tgt := 94) hx hb dX9_isRace_90 (by decide) ?_
        exact J94 v_far x1 x2 x3 x4 x6 (1 : Int32) _ _ _ hf hP hD hS (lv_sub hl [0, 1, 2, 3, 4, 5] rfl)
      intro v_far x1 x2 x3 x4 x5 x6 H locs ls hf hP hD hS hl
      rw [f9_isRace_l6_s] at hf
      refine lv_iload hx hb dX9_isRace_6 (lv_at hl 6 rfl) ?_
      refine lv_iconst (v := 5) hx hb dX9_isRace_8 (by decide) ?_
      refine lv_icmp_ge (tgt := 102) hx hb dX9_isRace_9 (by decide) (fun c15 => ?_) (fun c15 => ?_)
      · rw [if_pos c15] at hf
        exact J102 v_far x1 x2 x3 x4 x5 _ _ _ hf hP hD hS (lv_sub hl [0, 1, 2, 3, 4, 5] rfl)
      · rw [if_neg c15] at hf
        refine lv_aload_n hx hb dX9_isRace_12 rfl (lv_at hl 0 rfl) ?_
        refine va_get (D := D) (cl := vwCl) (ci := 6) (v := .ref (h 4)) (C := RX9) (T := TX9) (N := 22) hx hb hts hin9 hown hK hP 0 rfl rfl 4 (by decide) (hts (.fieldLink RX9 19 "StepOrdersModel" "far" "[I") (by decide +kernel)) (fun _ h9 => h9) rfl dX9_isRace_13 ?_
        refine lv_iconst (v := 0) hx hb dX9_isRace_16 (by decide) ?_
        refine lv_iload hx hb dX9_isRace_17 (lv_at hl 6 rfl) ?_
        refine ka_iast (D := D) (cl := vwCl) hx hb hK hP hD hS 4 1 (f := v_far) (g := (upd v_far 0 x6)) rfl rfl (show ¬ (_ ∨ _) from by decide) rfl dX9_isRace_19 (fun H locs hP hD hS => ?_)
        have hP : va_P D vwCl (wdM cI cZ h v_all v_past v_states v_refused (upd v_far 0 x6) v_row v_stepAt v_depth v_tries v_values v_wrong v_isEnd v_found v_reached v_stepIn v_laid v_firstRow v_text v_textLong v_spot v_taken v_counted) H := hP
        have hD : va_D A (wdM cI cZ h v_all v_past v_states v_refused (upd v_far 0 x6) v_row v_stepAt v_depth v_tries v_values v_wrong v_isEnd v_found v_reached v_stepIn v_laid v_firstRow v_text v_textLong v_spot v_taken v_counted) := hD
        refine lv_aload_n hx hb dX9_isRace_20 rfl (lv_at hl 0 rfl) ?_
        refine va_get (D := D) (cl := vwCl) (ci := 6) (v := .ref (h 4)) (C := RX9) (T := TX9) (N := 22) hx hb hts hin9 hown hK hP 0 rfl rfl 4 (by decide) (hts (.fieldLink RX9 19 "StepOrdersModel" "far" "[I") (by decide +kernel)) (fun _ h9 => h9) rfl dX9_isRace_21 ?_
        refine lv_iconst (v := 1) hx hb dX9_isRace_24 (by decide) ?_
        refine lv_iload hx hb dX9_isRace_25 (lv_at hl 6 rfl) ?_
        refine ka_iast (D := D) (cl := vwCl) hx hb hK hP hD hS 4 1 (f := (upd v_far 0 x6)) (g := (upd (upd v_far 0 x6) 1 x6)) rfl rfl (show ¬ (_ ∨ _) from by decide) rfl dX9_isRace_27 (fun H locs hP hD hS => ?_)
        have hP : va_P D vwCl (wdM cI cZ h v_all v_past v_states v_refused (upd (upd v_far 0 x6) 1 x6) v_row v_stepAt v_depth v_tries v_values v_wrong v_isEnd v_found v_reached v_stepIn v_laid v_firstRow v_text v_textLong v_spot v_taken v_counted) H := hP
        have hD : va_D A (wdM cI cZ h v_all v_past v_states v_refused (upd (upd v_far 0 x6) 1 x6) v_row v_stepAt v_depth v_tries v_values v_wrong v_isEnd v_found v_reached v_stepIn v_laid v_firstRow v_text v_textLong v_spot v_taken v_counted) := hD
        refine lv_aload_n hx hb dX9_isRace_28 rfl (lv_at hl 0 rfl) ?_
        refine va_get (D := D) (cl := vwCl) (ci := 6) (v := .ref (h 4)) (C := RX9) (T := TX9) (N := 22) hx hb hts hin9 hown hK hP 0 rfl rfl 4 (by decide) (hts (.fieldLink RX9 19 "StepOrdersModel" "far" "[I") (by decide +kernel)) (fun _ h9 => h9) rfl dX9_isRace_29 ?_
        refine lv_iconst (v := 2) hx hb dX9_isRace_32 (by decide) ?_
        refine lv_iload hx hb dX9_isRace_33 (lv_at hl 6 rfl) ?_
        refine ka_iast (D := D) (cl := vwCl) hx hb hK hP hD hS 4 1 (f := (upd (upd v_far 0 x6) 1 x6)) (g := (upd (upd (upd v_far 0 x6) 1 x6) 2 x6)) rfl rfl (show ¬ (_ ∨ _) from by decide) rfl dX9_isRace_35 (fun H locs hP hD hS => ?_)
        have hP : va_P D vwCl (wdM cI cZ h v_all v_past v_states v_refused (upd (upd (upd v_far 0 x6) 1 x6) 2 x6) v_row v_stepAt v_depth v_tries v_values v_wrong v_isEnd v_found v_reached v_stepIn v_laid v_firstRow v_text v_textLong v_spot v_taken v_counted) H := hP
        have hD : va_D A (wdM cI cZ h v_all v_past v_states v_refused (upd (upd (upd v_far 0 x6) 1 x6) 2 x6) v_row v_stepAt v_depth v_tries v_values v_wrong v_isEnd v_found v_reached v_stepIn v_laid v_firstRow v_text v_textLong v_spot v_taken v_counted) := hD
        refine lv_aload_n hx hb dX9_isRace_36 rfl (lv_at hl 0 rfl) ?_
        refine va_get (D := D) (cl := vwCl) (ci := 6) (v := .ref (h 4)) (C := RX9) (T := TX9) (N := 22) hx hb hts hin9 hown hK hP 0 rfl rfl 4 (by decide) (hts (.fieldLink RX9 19 "StepOrdersModel" "far" "[I") (by decide +kernel)) (fun _ h9 => h9) rfl dX9_isRace_37 ?_
        refine lv_iload_n hx hb dX9_isRace_40 rfl (lv_at hl 1 rfl) ?_
        refine lv_iload_n hx hb dX9_isRace_41 rfl (lv_at hl 2 rfl) ?_
        refine kb_bind hf (fun v16 hv16 hf => ?_)
        refine ka_iast (D := D) (cl := vwCl) hx hb hK hP hD hS 4 1 (f := (upd (upd (upd v_far 0 x6) 1 x6) 2 x6)) (g := v16) rfl rfl (awr_in hv16) (awr_v hv16) dX9_isRace_42 (fun H locs hP hD hS => ?_)
        have hP : va_P D vwCl (wdM cI cZ h v_all v_past v_states v_refused v16 v_row v_stepAt v_depth v_tries v_values v_wrong v_isEnd v_found v_reached v_stepIn v_laid v_firstRow v_text v_textLong v_spot v_taken v_counted) H := hP
        have hD : va_D A (wdM cI cZ h v_all v_past v_states v_refused v16 v_row v_stepAt v_depth v_tries v_values v_wrong v_isEnd v_found v_reached v_stepIn v_laid v_firstRow v_text v_textLong v_spot v_taken v_counted) := hD
        refine lv_aload_n hx hb dX9_isRace_43 rfl (lv_at hl 0 rfl) ?_
        refine va_get (D := D) (cl := vwCl) (ci := 6) (v := .ref (h 4)) (C := RX9) (T := TX9) (N := 22) hx hb hts hin9 hown hK hP 0 rfl rfl 4 (by decide) (hts (.fieldLink RX9 19 "StepOrdersModel" "far" "[I") (by decide +kernel)) (fun _ h9 => h9) rfl dX9_isRace_44 ?_
        refine lv_iload_n hx hb dX9_isRace_47 rfl (lv_at hl 3 rfl) ?_
        refine lv_iload hx hb dX9_isRace_48 (lv_at hl 4 rfl) ?_
        refine kb_bind hf (fun v17 hv17 hf => ?_)
        refine ka_iast (D := D) (cl := vwCl) hx hb hK hP hD hS 4 1 (f := v16) (g := v17) rfl rfl (awr_in hv17) (awr_v hv17) dX9_isRace_50 (fun H locs hP hD hS => ?_)
        have hP : va_P D vwCl (wdM cI cZ h v_all v_past v_states v_refused v17 v_row v_stepAt v_depth v_tries v_values v_wrong v_isEnd v_found v_reached v_stepIn v_laid v_firstRow v_text v_textLong v_spot v_taken v_counted) H := hP
        have hD : va_D A (wdM cI cZ h v_all v_past v_states v_refused v17 v_row v_stepAt v_depth v_tries v_values v_wrong v_isEnd v_found v_reached v_stepIn v_laid v_firstRow v_text v_textLong v_spot v_taken v_counted) := hD
        refine lv_iload hx hb dX9_isRace_51 (lv_at hl 5 rfl) ?_
        refine lv_if_ne (tgt := 89) hx hb dX9_isRace_53 (by decide) (fun c18 => ?_) (fun c18 => ?_)
        · rw [if_neg c18] at hf
          exact J89 v17 x1 x2 x3 x4 x6 _ _ _ hf hP hD hS (lv_sub hl [0, 1, 2, 3, 4, 6] rfl)
        · rw [if_pos c18] at hf
          refine lv_aload_n hx hb dX9_isRace_56 rfl (lv_at hl 0 rfl) ?_
          refine va_get (D := D) (cl := vwCl) (ci := 6) (v := .ref (h 11)) (C := RX9) (T := TX9) (N := 22) hx hb hts hin9 hown hK hP 0 rfl rfl 13 (by decide) (hts (.fieldLink RX9 41 "StepOrdersModel" "reached" "[Z") (by decide +kernel)) (fun _ h9 => h9) rfl dX9_isRace_57 ?_
          refine lv_aload_n hx hb dX9_isRace_60 rfl (lv_at hl 0 rfl) ?_
          refine va_get (D := D) (cl := vwCl) (ci := 6) (v := .ref (h 4)) (C := RX9) (T := TX9) (N := 22) hx hb hts hin9 hown hK hP 0 rfl rfl 4 (by decide) (hts (.fieldLink RX9 19 "StepOrdersModel" "far" "[I") (by decide +kernel)) (fun _ h9 => h9) rfl dX9_isRace_61 ?_
          refine lv_iconst (v := 0) hx hb dX9_isRace_64 (by decide) ?_
          refine ka_iald (D := D) (cl := vwCl) hx hb hK hP 4 1 (f := v17) rfl rfl (v := (v17 0)) (show ¬ (_ ∨ _) from by decide) rfl dX9_isRace_65 ?_
          refine lv_iconst (v := 5) hx hb dX9_isRace_66 (by decide) ?_
          refine lv_aload_n hx hb dX9_isRace_67 rfl (lv_at hl 0 rfl) ?_
          refine va_get (D := D) (cl := vwCl) (ci := 6) (v := .ref (h 4)) (C := RX9) (T := TX9) (N := 22) hx hb hts hin9 hown hK hP 0 rfl rfl 4 (by decide) (hts (.fieldLink RX9 19 "StepOrdersModel" "far" "[I") (by decide +kernel)) (fun _ h9 => h9) rfl dX9_isRace_68 ?_
          refine lv_iconst (v := 1) hx hb dX9_isRace_71 (by decide) ?_
          refine ka_iald (D := D) (cl := vwCl) hx hb hK hP 4 1 (f := v17) rfl rfl (v := (v17 1)) (show ¬ (_ ∨ _) from by decide) rfl dX9_isRace_72 ?_
          refine lv_imul hx hb dX9_isRace_73 ?_
          refine lv_iadd hx hb dX9_isRace_74 ?_
          refine lv_bipush (v := 25) hx hb dX9_isRace_75 (by decide) ?_
          refine lv_aload_n hx hb dX9_isRace_77 rfl (lv_at hl 0 rfl) ?_
          refine va_get (D := D) (cl := vwCl) (ci := 6) (v := .ref (h 4)) (C := RX9) (T := TX9) (N := 22) hx hb hts hin9 hown hK hP 0 rfl rfl 4 (by decide) (hts (.fieldLink RX9 19 "StepOrdersModel" "far" "[I") (by decide +kernel)) (fun _ h9 => h9) rfl dX9_isRace_78 ?_
          refine lv_iconst (v := 2) hx hb dX9_isRace_81 (by decide) ?_
          refine ka_iald (D := D) (cl := vwCl) hx hb hK hP 4 1 (f := v17) rfl rfl (v := (v17 2)) (show ¬ (_ ∨ _) from by decide) rfl dX9_isRace_82 ?_
          refine lv_imul hx hb dX9_isRace_83 ?_
          refine lv_iadd hx hb dX9_isRace_84 ?_
          refine kb_bind hf (fun v19 hv19 hf => ?_)
          refine ka_zald (D := D) (cl := vwCl) hx hb hK hP 11 2 (f := v_reached) rfl rfl (ard_in hv19) (ard_v hv19) dX9_isRace_85 ?_
          refine lv_if_eq (tgt := 93) hx hb dX9_isRace_86 (by decide) (fun c20 => ?_) (fun c20 => ?_)
          · rw [if_pos c20] at hf
            refine lv_iconst (v := 0) hx hb dX9_isRace_93 (by decide) ?_
            exact J94 v17 x1 x2 x3 x4 x6 (0 : Int32) _ _ _ hf hP hD hS (lv_sub hl [0, 1, 2, 3, 4, 6] rfl)
          · rw [if_neg c20] at hf
            exact J89 v17 x1 x2 x3 x4 x6 _ _ _ hf hP hD hS (lv_sub hl [0, 1, 2, 3, 4, 6] rfl)
  rw [f9_isRace] at hf
  refine lv_iconst (v := 0) hx hb dX9_isRace_0 (by decide) ?_
  refine lv_istore (lv' := [(5, .int (0 : Int32)), (0, .ref (h 0)), (1, .int x1), (2, .int x2), (3, .int x3), (4, .int x4)]) hx hb dX9_isRace_1 hl (by decide) rfl (fun ls hl => ?_)
  refine lv_iconst (v := 0) hx hb dX9_isRace_3 (by decide) ?_
  refine lv_istore (lv' := [(6, .int (0 : Int32)), (5, .int (0 : Int32)), (0, .ref (h 0)), (1, .int x1), (2, .int x2), (3, .int x3), (4, .int x4)]) hx hb dX9_isRace_4 hl (by decide) rfl (fun ls hl => ?_)
  exact J6 kFUEL v_far x1 x2 x3 x4 (0 : Int32) (0 : Int32) _ _ _ hf hP hD hS (lv_sub hl [2, 3, 4, 5, 6, 1, 0] rfl)

set_option maxHeartbeats 4000000 in
set_option maxRecDepth 100000 in
theorem c9_race (l : Launch) (D : va_G) (cB cI cZ cO : ClassId) (h : Nat → Nat) (sz : Nat) (x1 : Int32) (x2 : Int32) (x3 : Int32) (x4 : Int32) (v_all : Nat → Int32) (v_past : Nat → Int32) (v_states : Int32) (v_refused : Nat → Int32) (v_far : Nat → Int32) (v_row : Nat → Int32) (v_stepAt : Nat → Int32) (v_depth : Int32) (v_tries : Nat → Int32) (v_values : Nat → Int32) (v_wrong : Int32) (v_isEnd : Nat → Int32) (v_found : Nat → Int32) (v_reached : Nat → Int32) (v_stepIn : Nat → Int32) (v_laid : Nat → Int32) (v_firstRow : Nat → Int32) (v_text : Nat → Int32) (v_textLong : Int32) (v_spot : Int32) (v_taken : Int32) (v_counted : Nat → Int32) (r0 : Int32) (v_refused' : Nat → Int32) (v_far' : Nat → Int32) (v_reached' : Nat → Int32) (hf : f9_race v_all v_refused v_far v_reached x1 x2 x3 x4 = some (r0, v_refused', v_far', v_reached')) : Met l yX9_race wsX9_race rm9_race (va_Pc [.ref (h 0), .int x1, .int x2, .int x3, .int x4] (kb_B D (ka_tys cB cI cZ cO) sz (wdM cI cZ h v_all v_past v_states v_refused v_far v_row v_stepAt v_depth v_tries v_values v_wrong v_isEnd v_found v_reached v_stepIn v_laid v_firstRow v_text v_textLong v_spot v_taken v_counted))) (va_Qi (kb_post .int r0) (fun _ t => va_P D vwCl (wdM cI cZ h v_all v_past v_states (v_refused') (v_far') v_row v_stepAt v_depth v_tries v_values v_wrong v_isEnd v_found (v_reached') v_stepIn v_laid v_firstRow v_text v_textLong v_spot v_taken v_counted) t.heap) (va_A (wdM cI cZ h v_all v_past v_states v_refused v_far v_row v_stepAt v_depth v_tries v_values v_wrong v_isEnd v_found v_reached v_stepIn v_laid v_firstRow v_text v_textLong v_spot v_taken v_counted) sz)) 0 0 (va_A (wdM cI cZ h v_all v_past v_states v_refused v_far v_row v_stepAt v_depth v_tries v_values v_wrong v_isEnd v_found v_reached v_stepIn v_laid v_firstRow v_text v_textLong v_spot v_taken v_counted) sz) := by
  refine kb_metZ (cc := cX9_race) (maxL := 5) (ty := .int) (by decide) rfl (Nat.le_of_ble_eq_true rfl) ?_
  intro p e s m args below meth c Q A ls H hx hb hml hown hts hK hN hP hD hS hA hl hend
  have hown : s.vm.findClass RX9 = some m.cls := hown
  have hl : lv_has ls 5 [(0, .ref (h 0)), (1, .int x1), (2, .int x2), (3, .int x3), (4, .int x4)] := hl
  have J24 : ∀ (v_refused : Nat → Int32) (v_far : Nat → Int32) (v_reached : Nat → Int32) (H : Heap) (locs : List Loc) (ls : Array Slot), f9_race_b24 v_all v_refused v_far v_reached = some (r0, v_refused', v_far', v_reached') → va_P D vwCl (wdM cI cZ h v_all v_past v_states v_refused v_far v_row v_stepAt v_depth v_tries v_values v_wrong v_isEnd v_found v_reached v_stepIn v_laid v_firstRow v_text v_textLong v_spot v_taken v_counted) H → va_D A (wdM cI cZ h v_all v_past v_states v_refused v_far v_row v_stepAt v_depth v_tries v_values v_wrong v_isEnd v_found v_reached v_stepIn v_laid v_firstRow v_text v_textLong v_spot v_taken v_counted) → va_S A s.heap H locs → lv_has ls 5 [(0, .ref (h 0))] → W p l e rm9_race s m args below meth c H locs 0 0 Q (F0 m 24 ls []) := by
    intro v_refused v_far v_reached H locs ls hf hP hD hS hl
    rw [f9_race_b24] at hf
    refine lv_aload_n hx hb dX9_race_24 rfl (lv_at hl 0 rfl) ?_
    refine lv_bipush (v := (-2)) hx hb dX9_race_25 (by decide) ?_
    refine kb_bind hf (fun q3 hq3 hf => ?_)
    have hPc : va_P D vwCl (wdM cI cZ h v_all v_past v_states v_refused v_far v_row v_stepAt v_depth v_tries v_values v_wrong v_isEnd v_found v_reached v_stepIn v_laid v_firstRow v_text v_textLong v_spot v_taken v_counted) H := hP.sub [0, 1, 2, 3, 4, 5, 6, 7, 8, 9, 10, 11, 12, 13, 14, 15, 16] rfl
    have hDc : va_D A (wdM cI cZ h v_all v_past v_states v_refused v_far v_row v_stepAt v_depth v_tries v_values v_wrong v_isEnd v_found v_reached v_stepIn v_laid v_firstRow v_text v_textLong v_spot v_taken v_counted) := hD.sub [0, 1, 2, 3, 4, 5, 6, 7, 8, 9, 10, 11, 12, 13, 14, 15, 16] (by decide) rfl
    refine kd_iW (ws' := wdM cI cZ h v_all v_past v_states q3.2 v_far v_row v_stepAt v_depth v_tries v_values v_wrong v_isEnd v_found v_reached v_stepIn v_laid v_firstRow v_text v_textLong v_spot v_taken v_counted) (va_runV (As := [.int (-2 : Int32)]) (rest := []) ⟨hx, hb, hml, hown, hts⟩ (c9_refuses l D cB cI cZ cO h H.size (-2 : Int32) v_all v_past v_states v_refused v_far v_row v_stepAt v_depth v_tries v_values v_wrong v_isEnd v_found v_reached v_stepIn v_laid v_firstRow v_text v_textLong v_spot v_taken v_counted q3.1 q3.2 hq3) (cwV 1 hts gX9_race_X9_refuses rfl rfl rfl (by decide +kernel) ⟨Nat.le_of_ble_eq_true rfl, Nat.le_of_ble_eq_true rfl⟩) ⟨kb_blind, va_recv hK hPc (ci := 6) (q0 := 0) rfl rfl, kb_pre hPc hDc hK hN⟩ rfl rfl hl.1 rfl (lv_room (Nat.le_of_ble_eq_true rfl)) dX9_race_27 ⟨Nat.le_refl _, Nat.le_refl _⟩) hP hD hS hA [0, 1, 2, 3, 4, 5, 6, 7, 8, 9, 10, 11, 12, 13, 14, 15, 16] [] rfl rfl (fun _ h9 => absurd h9 List.not_mem_nil) rfl rfl (fun H locs hn4 hP hD hS => ?_)
    obtain ⟨z1, y1⟩ := Prod.mk.inj (Option.some.inj hf)
    obtain ⟨z2, y2⟩ := Prod.mk.inj y1
    obtain ⟨z3, y3⟩ := Prod.mk.inj y2
    subst z1 z2 z3 y3
    exact hend _ _ _ _ rfl hP hS dX9_race_30
  rw [f9_race] at hf
  refine lv_aload_n hx hb dX9_race_0 rfl (lv_at hl 0 rfl) ?_
  refine lv_iload_n hx hb dX9_race_1 rfl (lv_at hl 1 rfl) ?_
  refine lv_iload_n hx hb dX9_race_2 rfl (lv_at hl 2 rfl) ?_
  refine kb_bind hf (fun q5 hq5 hf => ?_)
  have hPc : va_P D vwCl (wdM cI cZ h v_all v_past v_states v_refused v_far v_row v_stepAt v_depth v_tries v_values v_wrong v_isEnd v_found v_reached v_stepIn v_laid v_firstRow v_text v_textLong v_spot v_taken v_counted) H := hP.sub [0, 1, 2, 3, 4, 5, 6, 7, 8, 9, 10, 11, 12, 13, 14, 15, 16] rfl
  have hDc : va_D A (wdM cI cZ h v_all v_past v_states v_refused v_far v_row v_stepAt v_depth v_tries v_values v_wrong v_isEnd v_found v_reached v_stepIn v_laid v_firstRow v_text v_textLong v_spot v_taken v_counted) := hD.sub [0, 1, 2, 3, 4, 5, 6, 7, 8, 9, 10, 11, 12, 13, 14, 15, 16] (by decide) rfl
  refine kd_iR (va_runV (As := [.int x1, .int x2]) (rest := []) ⟨hx, hb, hml, hown, hts⟩ (c9_isStep l D cB cI cZ cO h H.size x1 x2 v_all v_past v_states v_refused v_far v_row v_stepAt v_depth v_tries v_values v_wrong v_isEnd v_found v_reached v_stepIn v_laid v_firstRow v_text v_textLong v_spot v_taken v_counted q5 hq5) (cwV 2 hts gX9_race_X9_isStep rfl rfl rfl (by decide +kernel) ⟨Nat.le_of_ble_eq_true rfl, Nat.le_of_ble_eq_true rfl⟩) ⟨kb_blind, va_recv hK hPc (ci := 6) (q0 := 0) rfl rfl, kb_pre hPc hDc hK hN⟩ rfl rfl hl.1 rfl (lv_room (Nat.le_of_ble_eq_true rfl)) dX9_race_3 ⟨Nat.le_refl _, Nat.le_refl _⟩) hP hD hS hA [0, 1, 2, 3, 4, 5, 6, 7, 8, 9, 10, 11, 12, 13, 14, 15, 16] rfl (fun H locs hn6 hP hS => ?_)
  refine lv_if_eq (tgt := 24) hx hb dX9_race_6 (by decide) (fun c7 => ?_) (fun c7 => ?_)
  · rw [if_pos c7] at hf
    exact J24 v_refused v_far v_reached _ _ _ hf hP hD hS (lv_sub hl [0] rfl)
  · rw [if_neg c7] at hf
    refine lv_aload_n hx hb dX9_race_9 rfl (lv_at hl 0 rfl) ?_
    refine lv_iload_n hx hb dX9_race_10 rfl (lv_at hl 3 rfl) ?_
    refine lv_iload hx hb dX9_race_11 (lv_at hl 4 rfl) ?_
    refine kb_bind hf (fun q8 hq8 hf => ?_)
    have hPc : va_P D vwCl (wdM cI cZ h v_all v_past v_states v_refused v_far v_row v_stepAt v_depth v_tries v_values v_wrong v_isEnd v_found v_reached v_stepIn v_laid v_firstRow v_text v_textLong v_spot v_taken v_counted) H := hP.sub [0, 1, 2, 3, 4, 5, 6, 7, 8, 9, 10, 11, 12, 13, 14, 15, 16] rfl
    have hDc : va_D A (wdM cI cZ h v_all v_past v_states v_refused v_far v_row v_stepAt v_depth v_tries v_values v_wrong v_isEnd v_found v_reached v_stepIn v_laid v_firstRow v_text v_textLong v_spot v_taken v_counted) := hD.sub [0, 1, 2, 3, 4, 5, 6, 7, 8, 9, 10, 11, 12, 13, 14, 15, 16] (by decide) rfl
    refine kd_iR (va_runV (As := [.int x3, .int x4]) (rest := []) ⟨hx, hb, hml, hown, hts⟩ (c9_isStep l D cB cI cZ cO h H.size x3 x4 v_all v_past v_states v_refused v_far v_row v_stepAt v_depth v_tries v_values v_wrong v_isEnd v_found v_reached v_stepIn v_laid v_firstRow v_text v_textLong v_spot v_taken v_counted q8 hq8) (cwV 2 hts gX9_race_X9_isStep rfl rfl rfl (by decide +kernel) ⟨Nat.le_of_ble_eq_true rfl, Nat.le_of_ble_eq_true rfl⟩) ⟨kb_blind, va_recv hK hPc (ci := 6) (q0 := 0) rfl rfl, kb_pre hPc hDc hK hN⟩ rfl rfl hl.1 rfl (lv_room (Nat.le_of_ble_eq_true rfl)) dX9_race_13 ⟨Nat.le_refl _, Nat.le_refl _⟩) hP hD hS hA [0, 1, 2, 3, 4, 5, 6, 7, 8, 9, 10, 11, 12, 13, 14, 15, 16] rfl (fun H locs hn9 hP hS => ?_)
    refine lv_if_eq (tgt := 24) hx hb dX9_race_16 (by decide) (fun c10 => ?_) (fun c10 => ?_)
    · rw [if_pos c10] at hf
      exact J24 v_refused v_far v_reached _ _ _ hf hP hD hS (lv_sub hl [0] rfl)
    · rw [if_neg c10] at hf
      refine lv_iload_n hx hb dX9_race_19 rfl (lv_at hl 1 rfl) ?_
      refine lv_iload_n hx hb dX9_race_20 rfl (lv_at hl 3 rfl) ?_
      refine lv_icmp_ne (tgt := 31) hx hb dX9_race_21 (by decide) (fun c11 => ?_) (fun c11 => ?_)
      · rw [if_neg c11] at hf
        refine lv_aload_n hx hb dX9_race_31 rfl (lv_at hl 0 rfl) ?_
        refine kb_bind hf (fun q12 hq12 hf => ?_)
        have hPc : va_P D vwCl (wdM cI cZ h v_all v_past v_states v_refused v_far v_row v_stepAt v_depth v_tries v_values v_wrong v_isEnd v_found v_reached v_stepIn v_laid v_firstRow v_text v_textLong v_spot v_taken v_counted) H := hP.sub [0, 1, 2, 3, 4, 5, 6, 7, 8, 9, 10, 11, 12, 13, 14, 15, 16] rfl
        have hDc : va_D A (wdM cI cZ h v_all v_past v_states v_refused v_far v_row v_stepAt v_depth v_tries v_values v_wrong v_isEnd v_found v_reached v_stepIn v_laid v_firstRow v_text v_textLong v_spot v_taken v_counted) := hD.sub [0, 1, 2, 3, 4, 5, 6, 7, 8, 9, 10, 11, 12, 13, 14, 15, 16] (by decide) rfl
        refine kd_vW (ws' := wdM cI cZ h v_all v_past v_states v_refused q12.1 v_row v_stepAt v_depth v_tries v_values v_wrong v_isEnd v_found q12.2 v_stepIn v_laid v_firstRow v_text v_textLong v_spot v_taken v_counted) (va_runV (As := []) (rest := []) ⟨hx, hb, hml, hown, hts⟩ (c9_spreads l D cB cI cZ cO h H.size v_all v_past v_states v_refused v_far v_row v_stepAt v_depth v_tries v_values v_wrong v_isEnd v_found v_reached v_stepIn v_laid v_firstRow v_text v_textLong v_spot v_taken v_counted q12.1 q12.2 hq12) (cwV 0 hts gX9_race_X9_spreads rfl rfl rfl (by decide +kernel) ⟨Nat.le_of_ble_eq_true rfl, Nat.le_of_ble_eq_true rfl⟩) ⟨kb_blind, va_recv hK hPc (ci := 6) (q0 := 0) rfl rfl, kb_pre hPc hDc hK hN⟩ rfl rfl hl.1 rfl (lv_room (Nat.le_of_ble_eq_true rfl)) dX9_race_32 ⟨Nat.le_refl _, Nat.le_refl _⟩) hP hD hS hA [0, 1, 2, 3, 4, 5, 6, 7, 8, 9, 10, 11, 12, 13, 14, 15, 16] [] rfl rfl (fun _ h9 => absurd h9 List.not_mem_nil) rfl rfl (fun H locs hP hD hS => ?_)
        refine lv_aload_n hx hb dX9_race_35 rfl (lv_at hl 0 rfl) ?_
        refine lv_iload_n hx hb dX9_race_36 rfl (lv_at hl 1 rfl) ?_
        refine lv_iload_n hx hb dX9_race_37 rfl (lv_at hl 2 rfl) ?_
        refine lv_iload_n hx hb dX9_race_38 rfl (lv_at hl 3 rfl) ?_
        refine lv_iload hx hb dX9_race_39 (lv_at hl 4 rfl) ?_
        refine kb_bind hf (fun q13 hq13 hf => ?_)
        have hPc : va_P D vwCl (wdM cI cZ h v_all v_past v_states v_refused q12.1 v_row v_stepAt v_depth v_tries v_values v_wrong v_isEnd v_found q12.2 v_stepIn v_laid v_firstRow v_text v_textLong v_spot v_taken v_counted) H := hP.sub [0, 1, 2, 3, 4, 5, 6, 7, 8, 9, 10, 11, 12, 13, 14, 15, 16] rfl
        have hDc : va_D A (wdM cI cZ h v_all v_past v_states v_refused q12.1 v_row v_stepAt v_depth v_tries v_values v_wrong v_isEnd v_found q12.2 v_stepIn v_laid v_firstRow v_text v_textLong v_spot v_taken v_counted) := hD.sub [0, 1, 2, 3, 4, 5, 6, 7, 8, 9, 10, 11, 12, 13, 14, 15, 16] (by decide) rfl
        refine kd_iW (ws' := wdM cI cZ h v_all v_past v_states v_refused q13.2 v_row v_stepAt v_depth v_tries v_values v_wrong v_isEnd v_found q12.2 v_stepIn v_laid v_firstRow v_text v_textLong v_spot v_taken v_counted) (va_runV (As := [.int x1, .int x2, .int x3, .int x4]) (rest := []) ⟨hx, hb, hml, hown, hts⟩ (c9_isRace l D cB cI cZ cO h H.size x1 x2 x3 x4 v_all v_past v_states v_refused q12.1 v_row v_stepAt v_depth v_tries v_values v_wrong v_isEnd v_found q12.2 v_stepIn v_laid v_firstRow v_text v_textLong v_spot v_taken v_counted q13.1 q13.2 hq13) (cwV 4 hts gX9_race_X9_isRace rfl rfl rfl (by decide +kernel) ⟨Nat.le_of_ble_eq_true rfl, Nat.le_of_ble_eq_true rfl⟩) ⟨kb_blind, va_recv hK hPc (ci := 6) (q0 := 0) rfl rfl, kb_pre hPc hDc hK hN⟩ rfl rfl hl.1 rfl (lv_room (Nat.le_of_ble_eq_true rfl)) dX9_race_41 ⟨Nat.le_refl _, Nat.le_refl _⟩) hP hD hS hA [0, 1, 2, 3, 4, 5, 6, 7, 8, 9, 10, 11, 12, 13, 14, 15, 16] [] rfl rfl (fun _ h9 => absurd h9 List.not_mem_nil) rfl rfl (fun H locs hn14 hP hD hS => ?_)
        refine lv_if_eq (tgt := 51) hx hb dX9_race_44 (by decide) (fun c15 => ?_) (fun c15 => ?_)
        · rw [if_pos c15] at hf
          refine lv_iconst (v := 0) hx hb dX9_race_51 (by decide) ?_
          obtain ⟨z1, y1⟩ := Prod.mk.inj (Option.some.inj hf)
          obtain ⟨z2, y2⟩ := Prod.mk.inj y1
          obtain ⟨z3, y3⟩ := Prod.mk.inj y2
          subst z1 z2 z3 y3
          exact hend _ _ _ _ rfl hP hS dX9_race_52
        · rw [if_neg c15] at hf
          refine lv_iconst (v := 1) hx hb dX9_race_47 (by decide) ?_
          refine lv_goto (tgt := 52) hx hb dX9_race_48 (by decide) ?_
          obtain ⟨z1, y1⟩ := Prod.mk.inj (Option.some.inj hf)
          obtain ⟨z2, y2⟩ := Prod.mk.inj y1
          obtain ⟨z3, y3⟩ := Prod.mk.inj y2
          subst z1 z2 z3 y3
          exact hend _ _ _ _ rfl hP hS dX9_race_52
      · rw [if_pos c11] at hf
        exact J24 v_refused v_far v_reached _ _ _ hf hP hD hS (lv_sub hl [0] rfl)

set_option maxHeartbeats 4000000 in
set_option maxRecDepth 100000 in
theorem c9_races (l : Launch) (D : va_G) (cB cI cZ cO : ClassId) (h : Nat → Nat) (sz : Nat) (v_all : Nat → Int32) (v_past : Nat → Int32) (v_states : Int32) (v_refused : Nat → Int32) (v_far : Nat → Int32) (v_row : Nat → Int32) (v_stepAt : Nat → Int32) (v_depth : Int32) (v_tries : Nat → Int32) (v_values : Nat → Int32) (v_wrong : Int32) (v_isEnd : Nat → Int32) (v_found : Nat → Int32) (v_reached : Nat → Int32) (v_stepIn : Nat → Int32) (v_laid : Nat → Int32) (v_firstRow : Nat → Int32) (v_text : Nat → Int32) (v_textLong : Int32) (v_spot : Int32) (v_taken : Int32) (v_counted : Nat → Int32) (r0 : Int32) (v_far' : Nat → Int32) (v_reached' : Nat → Int32) (hf : f9_races v_all v_far v_reached = some (r0, v_far', v_reached')) : Met l yX9_races wsX9_races rm9_races (va_Pc [.ref (h 0)] (kb_B D (ka_tys cB cI cZ cO) sz (wdM cI cZ h v_all v_past v_states v_refused v_far v_row v_stepAt v_depth v_tries v_values v_wrong v_isEnd v_found v_reached v_stepIn v_laid v_firstRow v_text v_textLong v_spot v_taken v_counted))) (va_Qi (kb_post .int r0) (fun _ t => va_P D vwCl (wdM cI cZ h v_all v_past v_states v_refused (v_far') v_row v_stepAt v_depth v_tries v_values v_wrong v_isEnd v_found (v_reached') v_stepIn v_laid v_firstRow v_text v_textLong v_spot v_taken v_counted) t.heap) (va_A (wdM cI cZ h v_all v_past v_states v_refused v_far v_row v_stepAt v_depth v_tries v_values v_wrong v_isEnd v_found v_reached v_stepIn v_laid v_firstRow v_text v_textLong v_spot v_taken v_counted) sz)) 0 0 (va_A (wdM cI cZ h v_all v_past v_states v_refused v_far v_row v_stepAt v_depth v_tries v_values v_wrong v_isEnd v_found v_reached v_stepIn v_laid v_firstRow v_text v_textLong v_spot v_taken v_counted) sz) := by
  refine kb_metZ (cc := cX9_races) (maxL := 7) (ty := .int) (by decide) rfl (Nat.le_of_ble_eq_true rfl) ?_
  intro p e s m args below meth c Q A ls H hx hb hml hown hts hK hN hP hD hS hA hl hend
  have hown : s.vm.findClass RX9 = some m.cls := hown
  have hl : lv_has ls 7 [(0, .ref (h 0))] := hl
  have J95 : ∀ (v_far : Nat → Int32) (v_reached : Nat → Int32) (x1 : Int32) (H : Heap) (locs : List Loc) (ls : Array Slot), f9_races_b95 v_all v_far v_reached x1 = some (r0, v_far', v_reached') → va_P D vwCl (wdM cI cZ h v_all v_past v_states v_refused v_far v_row v_stepAt v_depth v_tries v_values v_wrong v_isEnd v_found v_reached v_stepIn v_laid v_firstRow v_text v_textLong v_spot v_taken v_counted) H → va_D A (wdM cI cZ h v_all v_past v_states v_refused v_far v_row v_stepAt v_depth v_tries v_values v_wrong v_isEnd v_found v_reached v_stepIn v_laid v_firstRow v_text v_textLong v_spot v_taken v_counted) → va_S A s.heap H locs → lv_has ls 7 [(1, .int x1)] → W p l e rm9_races s m args below meth c H locs 0 0 Q (F0 m 95 ls []) := by
    intro v_far v_reached x1 H locs ls hf hP hD hS hl
    rw [f9_races_b95] at hf
    refine lv_iload_n hx hb dX9_races_95 rfl (lv_at hl 0 rfl) ?_
    obtain ⟨z1, y1⟩ := Prod.mk.inj (Option.some.inj hf)
    obtain ⟨z2, y2⟩ := Prod.mk.inj y1
    subst z1 z2 y2
    exact hend _ _ _ _ rfl hP hS dX9_races_96
  have J8 : ∀ (n : Nat) (v_far : Nat → Int32) (v_reached : Nat → Int32) (x1 : Int32) (x2 : Int32) (H : Heap) (locs : List Loc) (ls : Array Slot), f9_races_l8 n v_all v_far v_reached x1 x2 = some (r0, v_far', v_reached') → va_P D vwCl (wdM cI cZ h v_all v_past v_states v_refused v_far v_row v_stepAt v_depth v_tries v_values v_wrong v_isEnd v_found v_reached v_stepIn v_laid v_firstRow v_text v_textLong v_spot v_taken v_counted) H → va_D A (wdM cI cZ h v_all v_past v_states v_refused v_far v_row v_stepAt v_depth v_tries v_values v_wrong v_isEnd v_found v_reached v_stepIn v_laid v_firstRow v_text v_textLong v_spot v_taken v_counted) → va_S A s.heap H locs → lv_has ls 7 [(0, .ref (h 0)), (1, .int x1), (2, .int x2)] → W p l e rm9_races s m args below meth c H locs 0 0 Q (F0 m 8 ls []) := by
    intro n
    induction n with
    | zero =>
      intro v_far v_reached x1 x2 H locs ls hf
      cases (show (none : Option (Int32 × (Nat → Int32) × (Nat → Int32))) = some (r0, v_far', v_reached') from hf)
    | succ n ih =>
      have J87 : ∀ (v_far : Nat → Int32) (v_reached : Nat → Int32) (x2 : Int32) (s0 : Int32) (s1 : Int32) (H : Heap) (locs : List Loc) (ls : Array Slot), f9_races_b87 (f9_races_l8 n) v_all v_far v_reached x2 s0 s1 = some (r0, v_far', v_reached') → va_P D vwCl (wdM cI cZ h v_all v_past v_states v_refused v_far v_row v_stepAt v_depth v_tries v_values v_wrong v_isEnd v_found v_reached v_stepIn v_laid v_firstRow v_text v_textLong v_spot v_taken v_counted) H → va_D A (wdM cI cZ h v_all v_past v_states v_refused v_far v_row v_stepAt v_depth v_tries v_values v_wrong v_isEnd v_found v_reached v_stepIn v_laid v_firstRow v_text v_textLong v_spot v_taken v_counted) → va_S A s.heap H locs → lv_has ls 7 [(0, .ref (h 0)), (2, .int x2)] → W p l e rm9_races s m args below meth c H locs 0 0 Q (F0 m 87 ls [.int s1, .int s0]) := by
        intro v_far v_reached x2 s0 s1 H locs ls hf hP hD hS hl
        rw [f9_races_b87] at hf
        refine lv_iadd hx hb dX9_races_87 ?_
        refine lv_istore_n (lv' := [(1, .int (s0 + s1)), (0, .ref (h 0)), (2, .int x2)]) hx hb dX9_races_88 rfl hl (by decide) rfl (fun ls hl => ?_)
        refine lv_iinc (v := (x2 + 1)) (lv' := [(2, .int (x2 + 1)), (1, .int (s0 + s1)), (0, .ref (h 0))]) hx hb dX9_races_89 hl (k := 2) rfl rfl (by decide) rfl (fun ls hl => ?_)
        refine lv_goto (tgt := 8) hx hb dX9_races_92 (by decide) ?_
        exact ih v_far v_reached (s0 + s1) (x2 + 1) _ _ _ hf hP hD hS (lv_sub hl [2, 1, 0] rfl)
      have J86 : ∀ (v_far : Nat → Int32) (v_reached : Nat → Int32) (x2 : Int32) (s0 : Int32) (H : Heap) (locs : List Loc) (ls : Array Slot), f9_races_b86 (f9_races_l8 n) v_all v_far v_reached x2 s0 = some (r0, v_far', v_reached') → va_P D vwCl (wdM cI cZ h v_all v_past v_states v_refused v_far v_row v_stepAt v_depth v_tries v_values v_wrong v_isEnd v_found v_reached v_stepIn v_laid v_firstRow v_text v_textLong v_spot v_taken v_counted) H → va_D A (wdM cI cZ h v_all v_past v_states v_refused v_far v_row v_stepAt v_depth v_tries v_values v_wrong v_isEnd v_found v_reached v_stepIn v_laid v_firstRow v_text v_textLong v_spot v_taken v_counted) → va_S A s.heap H locs → lv_has ls 7 [(0, .ref (h 0)), (2, .int x2)] → W p l e rm9_races s m args below meth c H locs 0 0 Q (F0 m 86 ls [.int s0]) := by
        intro v_far v_reached x2 s0 H locs ls hf hP hD hS hl
        rw [f9_races_b86] at hf
        refine lv_iconst (v := 0) hx hb dX9_races_86 (by decide) ?_
        exact J87 v_far v_reached x2 s0 (0 : Int32) _ _ _ hf hP hD hS (lv_sub hl [0, 1] rfl)
      intro v_far v_reached x1 x2 H locs ls hf hP hD hS hl
      rw [f9_races_l8_s] at hf
      refine lv_iload_n hx hb dX9_races_8 rfl (lv_at hl 2 rfl) ?_
      refine lv_sipush (v := 144) hx hb dX9_races_9 (by decide) ?_
      refine lv_icmp_ge (tgt := 95) hx hb dX9_races_12 (by decide) (fun c12 => ?_) (fun c12 => ?_)
      · rw [if_pos c12] at hf
        exact J95 v_far v_reached x1 _ _ _ hf hP hD hS (lv_sub hl [1] rfl)
      · rw [if_neg c12] at hf
        refine lv_iload_n hx hb dX9_races_15 rfl (lv_at hl 2 rfl) ?_
        refine lv_bipush (v := 48) hx hb dX9_races_16 (by decide) ?_
        refine lv_idiv hx hb dX9_races_18 (by decide) ?_
        refine lv_istore_n (lv' := [(3, .int (x2 / (48 : Int32))), (0, .ref (h 0)), (1, .int x1), (2, .int x2)]) hx hb dX9_races_19 rfl hl (by decide) rfl (fun ls hl => ?_)
        refine lv_iload_n hx hb dX9_races_20 rfl (lv_at hl 3 rfl) ?_
        refine lv_bipush (v := 12) hx hb dX9_races_21 (by decide) ?_
        refine lv_idiv hx hb dX9_races_23 (by decide) ?_
        refine lv_iconst (v := 4) hx hb dX9_races_24 (by decide) ?_
        refine lv_irem hx hb dX9_races_25 (by decide) ?_
        refine lv_istore (lv' := [(4, .int ((x2 / (12 : Int32)) - (x2 / (12 : Int32)) / (4 : Int32) * (4 : Int32))), (3, .int (x2 / (48 : Int32))), (0, .ref (h 0)), (1, .int x1), (2, .int x2)]) hx hb dX9_races_26 hl (by decide) rfl (fun ls hl => ?_)
        refine lv_iload_n hx hb dX9_races_28 rfl (lv_at hl 4 rfl) ?_
        refine lv_iconst (v := 4) hx hb dX9_races_29 (by decide) ?_
        refine lv_idiv hx hb dX9_races_30 (by decide) ?_
        refine lv_iconst (v := 3) hx hb dX9_races_31 (by decide) ?_
        refine lv_irem hx hb dX9_races_32 (by decide) ?_
        refine lv_istore (lv' := [(5, .int ((x2 / (4 : Int32)) - (x2 / (4 : Int32)) / (3 : Int32) * (3 : Int32))), (4, .int ((x2 / (12 : Int32)) - (x2 / (12 : Int32)) / (4 : Int32) * (4 : Int32))), (3, .int (x2 / (48 : Int32))), (0, .ref (h 0)), (1, .int x1), (2, .int x2)]) hx hb dX9_races_33 hl (by decide) rfl (fun ls hl => ?_)
        refine lv_iload_n hx hb dX9_races_35 rfl (lv_at hl 5 rfl) ?_
        refine lv_iconst (v := 4) hx hb dX9_races_36 (by decide) ?_
        refine lv_irem hx hb dX9_races_37 (by decide) ?_
        refine lv_istore (lv' := [(6, .int (x2 - x2 / (4 : Int32) * (4 : Int32))), (5, .int ((x2 / (4 : Int32)) - (x2 / (4 : Int32)) / (3 : Int32) * (3 : Int32))), (4, .int ((x2 / (12 : Int32)) - (x2 / (12 : Int32)) / (4 : Int32) * (4 : Int32))), (3, .int (x2 / (48 : Int32))), (0, .ref (h 0)), (1, .int x1), (2, .int x2)]) hx hb dX9_races_38 hl (by decide) rfl (fun ls hl => ?_)
        refine lv_iload_n hx hb dX9_races_40 rfl (lv_at hl 5 rfl) ?_
        refine lv_iload_n hx hb dX9_races_41 rfl (lv_at hl 3 rfl) ?_
        refine lv_iload hx hb dX9_races_42 (lv_at hl 1 rfl) ?_
        refine lv_icmp_ge (tgt := 86) hx hb dX9_races_44 (by decide) (fun c13 => ?_) (fun c13 => ?_)
        · rw [if_pos c13] at hf
          exact J86 v_far v_reached x2 x1 _ _ _ hf hP hD hS (lv_sub hl [4, 6] rfl)
        · rw [if_neg c13] at hf
          refine lv_aload_n hx hb dX9_races_47 rfl (lv_at hl 4 rfl) ?_
          refine lv_iload_n hx hb dX9_races_48 rfl (lv_at hl 3 rfl) ?_
          refine lv_iload hx hb dX9_races_49 (lv_at hl 2 rfl) ?_
          refine kb_bind hf (fun q14 hq14 hf => ?_)
          have hPc : va_P D vwCl (wdM cI cZ h v_all v_past v_states v_refused v_far v_row v_stepAt v_depth v_tries v_values v_wrong v_isEnd v_found v_reached v_stepIn v_laid v_firstRow v_text v_textLong v_spot v_taken v_counted) H := hP.sub [0, 1, 2, 3, 4, 5, 6, 7, 8, 9, 10, 11, 12, 13, 14, 15, 16] rfl
          have hDc : va_D A (wdM cI cZ h v_all v_past v_states v_refused v_far v_row v_stepAt v_depth v_tries v_values v_wrong v_isEnd v_found v_reached v_stepIn v_laid v_firstRow v_text v_textLong v_spot v_taken v_counted) := hD.sub [0, 1, 2, 3, 4, 5, 6, 7, 8, 9, 10, 11, 12, 13, 14, 15, 16] (by decide) rfl
          refine kd_iR (va_runV (As := [.int (x2 / (48 : Int32)), .int ((x2 / (12 : Int32)) - (x2 / (12 : Int32)) / (4 : Int32) * (4 : Int32))]) (rest := [.int x1]) ⟨hx, hb, hml, hown, hts⟩ (c9_isStep l D cB cI cZ cO h H.size (x2 / (48 : Int32)) ((x2 / (12 : Int32)) - (x2 / (12 : Int32)) / (4 : Int32) * (4 : Int32)) v_all v_past v_states v_refused v_far v_row v_stepAt v_depth v_tries v_values v_wrong v_isEnd v_found v_reached v_stepIn v_laid v_firstRow v_text v_textLong v_spot v_taken v_counted q14 hq14) (cwV 2 hts gX9_races_X9_isStep rfl rfl rfl (by decide +kernel) ⟨Nat.le_of_ble_eq_true rfl, Nat.le_of_ble_eq_true rfl⟩) ⟨kb_blind, va_recv hK hPc (ci := 6) (q0 := 0) rfl rfl, kb_pre hPc hDc hK hN⟩ rfl rfl hl.1 rfl (lv_room (Nat.le_of_ble_eq_true rfl)) dX9_races_51 ⟨Nat.le_refl _, Nat.le_refl _⟩) hP hD hS hA [0, 1, 2, 3, 4, 5, 6, 7, 8, 9, 10, 11, 12, 13, 14, 15, 16] rfl (fun H locs hn15 hP hS => ?_)
          refine lv_if_eq (tgt := 86) hx hb dX9_races_54 (by decide) (fun c16 => ?_) (fun c16 => ?_)
          · rw [if_pos c16] at hf
            exact J86 v_far v_reached x2 x1 _ _ _ hf hP hD hS (lv_sub hl [4, 6] rfl)
          · rw [if_neg c16] at hf
            refine lv_aload_n hx hb dX9_races_57 rfl (lv_at hl 4 rfl) ?_
            refine lv_iload hx hb dX9_races_58 (lv_at hl 1 rfl) ?_
            refine lv_iload hx hb dX9_races_60 (lv_at hl 0 rfl) ?_
            refine kb_bind hf (fun q17 hq17 hf => ?_)
            have hPc : va_P D vwCl (wdM cI cZ h v_all v_past v_states v_refused v_far v_row v_stepAt v_depth v_tries v_values v_wrong v_isEnd v_found v_reached v_stepIn v_laid v_firstRow v_text v_textLong v_spot v_taken v_counted) H := hP.sub [0, 1, 2, 3, 4, 5, 6, 7, 8, 9, 10, 11, 12, 13, 14, 15, 16] rfl
            have hDc : va_D A (wdM cI cZ h v_all v_past v_states v_refused v_far v_row v_stepAt v_depth v_tries v_values v_wrong v_isEnd v_found v_reached v_stepIn v_laid v_firstRow v_text v_textLong v_spot v_taken v_counted) := hD.sub [0, 1, 2, 3, 4, 5, 6, 7, 8, 9, 10, 11, 12, 13, 14, 15, 16] (by decide) rfl
            refine kd_iR (va_runV (As := [.int ((x2 / (4 : Int32)) - (x2 / (4 : Int32)) / (3 : Int32) * (3 : Int32)), .int (x2 - x2 / (4 : Int32) * (4 : Int32))]) (rest := [.int x1]) ⟨hx, hb, hml, hown, hts⟩ (c9_isStep l D cB cI cZ cO h H.size ((x2 / (4 : Int32)) - (x2 / (4 : Int32)) / (3 : Int32) * (3 : Int32)) (x2 - x2 / (4 : Int32) * (4 : Int32)) v_all v_past v_states v_refused v_far v_row v_stepAt v_depth v_tries v_values v_wrong v_isEnd v_found v_reached v_stepIn v_laid v_firstRow v_text v_textLong v_spot v_taken v_counted q17 hq17) (cwV 2 hts gX9_races_X9_isStep rfl rfl rfl (by decide +kernel) ⟨Nat.le_of_ble_eq_true rfl, Nat.le_of_ble_eq_true rfl⟩) ⟨kb_blind, va_recv hK hPc (ci := 6) (q0 := 0) rfl rfl, kb_pre hPc hDc hK hN⟩ rfl rfl hl.1 rfl (lv_room (Nat.le_of_ble_eq_true rfl)) dX9_races_62 ⟨Nat.le_refl _, Nat.le_refl _⟩) hP hD hS hA [0, 1, 2, 3, 4, 5, 6, 7, 8, 9, 10, 11, 12, 13, 14, 15, 16] rfl (fun H locs hn18 hP hS => ?_)
            refine lv_if_eq (tgt := 86) hx hb dX9_races_65 (by decide) (fun c19 => ?_) (fun c19 => ?_)
            · rw [if_pos c19] at hf
              exact J86 v_far v_reached x2 x1 _ _ _ hf hP hD hS (lv_sub hl [4, 6] rfl)
            · rw [if_neg c19] at hf
              refine lv_aload_n hx hb dX9_races_68 rfl (lv_at hl 4 rfl) ?_
              refine lv_iload_n hx hb dX9_races_69 rfl (lv_at hl 3 rfl) ?_
              refine lv_iload hx hb dX9_races_70 (lv_at hl 2 rfl) ?_
              refine lv_iload hx hb dX9_races_72 (lv_at hl 1 rfl) ?_
              refine lv_iload hx hb dX9_races_74 (lv_at hl 0 rfl) ?_
              refine kb_bind hf (fun q20 hq20 hf => ?_)
              have hPc : va_P D vwCl (wdM cI cZ h v_all v_past v_states v_refused v_far v_row v_stepAt v_depth v_tries v_values v_wrong v_isEnd v_found v_reached v_stepIn v_laid v_firstRow v_text v_textLong v_spot v_taken v_counted) H := hP.sub [0, 1, 2, 3, 4, 5, 6, 7, 8, 9, 10, 11, 12, 13, 14, 15, 16] rfl
              have hDc : va_D A (wdM cI cZ h v_all v_past v_states v_refused v_far v_row v_stepAt v_depth v_tries v_values v_wrong v_isEnd v_found v_reached v_stepIn v_laid v_firstRow v_text v_textLong v_spot v_taken v_counted) := hD.sub [0, 1, 2, 3, 4, 5, 6, 7, 8, 9, 10, 11, 12, 13, 14, 15, 16] (by decide) rfl
              refine kd_iW (ws' := wdM cI cZ h v_all v_past v_states v_refused q20.2 v_row v_stepAt v_depth v_tries v_values v_wrong v_isEnd v_found v_reached v_stepIn v_laid v_firstRow v_text v_textLong v_spot v_taken v_counted) (va_runV (As := [.int (x2 / (48 : Int32)), .int ((x2 / (12 : Int32)) - (x2 / (12 : Int32)) / (4 : Int32) * (4 : Int32)), .int ((x2 / (4 : Int32)) - (x2 / (4 : Int32)) / (3 : Int32) * (3 : Int32)), .int (x2 - x2 / (4 : Int32) * (4 : Int32))]) (rest := [.int x1]) ⟨hx, hb, hml, hown, hts⟩ (c9_isRace l D cB cI cZ cO h H.size (x2 / (48 : Int32)) ((x2 / (12 : Int32)) - (x2 / (12 : Int32)) / (4 : Int32) * (4 : Int32)) ((x2 / (4 : Int32)) - (x2 / (4 : Int32)) / (3 : Int32) * (3 : Int32)) (x2 - x2 / (4 : Int32) * (4 : Int32)) v_all v_past v_states v_refused v_far v_row v_stepAt v_depth v_tries v_values v_wrong v_isEnd v_found v_reached v_stepIn v_laid v_firstRow v_text v_textLong v_spot v_taken v_counted q20.1 q20.2 hq20) (cwV 4 hts gX9_races_X9_isRace rfl rfl rfl (by decide +kernel) ⟨Nat.le_of_ble_eq_true rfl, Nat.le_of_ble_eq_true rfl⟩) ⟨kb_blind, va_recv hK hPc (ci := 6) (q0 := 0) rfl rfl, kb_pre hPc hDc hK hN⟩ rfl rfl hl.1 rfl (lv_room (Nat.le_of_ble_eq_true rfl)) dX9_races_76 ⟨Nat.le_refl _, Nat.le_refl _⟩) hP hD hS hA [0, 1, 2, 3, 4, 5, 6, 7, 8, 9, 10, 11, 12, 13, 14, 15, 16] [] rfl rfl (fun _ h9 => absurd h9 List.not_mem_nil) rfl rfl (fun H locs hn21 hP hD hS => ?_)
              refine lv_if_eq (tgt := 86) hx hb dX9_races_79 (by decide) (fun c22 => ?_) (fun c22 => ?_)
              · rw [if_pos c22] at hf
                exact J86 q20.2 v_reached x2 x1 _ _ _ hf hP hD hS (lv_sub hl [4, 6] rfl)
              · rw [if_neg c22] at hf
                refine lv_iconst (v := 1) hx hb dX9_races_82 (by decide) ?_
                refine lv_goto (tgt := 87) hx hb dX9_races_83 (by decide) ?_
                exact J87 q20.2 v_reached x2 x1 (1 : Int32) _ _ _ hf hP hD hS (lv_sub hl [4, 6] rfl)
  rw [f9_races] at hf
  refine lv_aload_n hx hb dX9_races_0 rfl (lv_at hl 0 rfl) ?_
  refine kb_bind hf (fun q23 hq23 hf => ?_)
  have hPc : va_P D vwCl (wdM cI cZ h v_all v_past v_states v_refused v_far v_row v_stepAt v_depth v_tries v_values v_wrong v_isEnd v_found v_reached v_stepIn v_laid v_firstRow v_text v_textLong v_spot v_taken v_counted) H := hP.sub [0, 1, 2, 3, 4, 5, 6, 7, 8, 9, 10, 11, 12, 13, 14, 15, 16] rfl
  have hDc : va_D A (wdM cI cZ h v_all v_past v_states v_refused v_far v_row v_stepAt v_depth v_tries v_values v_wrong v_isEnd v_found v_reached v_stepIn v_laid v_firstRow v_text v_textLong v_spot v_taken v_counted) := hD.sub [0, 1, 2, 3, 4, 5, 6, 7, 8, 9, 10, 11, 12, 13, 14, 15, 16] (by decide) rfl
  refine kd_vW (ws' := wdM cI cZ h v_all v_past v_states v_refused q23.1 v_row v_stepAt v_depth v_tries v_values v_wrong v_isEnd v_found q23.2 v_stepIn v_laid v_firstRow v_text v_textLong v_spot v_taken v_counted) (va_runV (As := []) (rest := []) ⟨hx, hb, hml, hown, hts⟩ (c9_spreads l D cB cI cZ cO h H.size v_all v_past v_states v_refused v_far v_row v_stepAt v_depth v_tries v_values v_wrong v_isEnd v_found v_reached v_stepIn v_laid v_firstRow v_text v_textLong v_spot v_taken v_counted q23.1 q23.2 hq23) (cwV 0 hts gX9_races_X9_spreads rfl rfl rfl (by decide +kernel) ⟨Nat.le_of_ble_eq_true rfl, Nat.le_of_ble_eq_true rfl⟩) ⟨kb_blind, va_recv hK hPc (ci := 6) (q0 := 0) rfl rfl, kb_pre hPc hDc hK hN⟩ rfl rfl hl.1 rfl (lv_room (Nat.le_of_ble_eq_true rfl)) dX9_races_1 ⟨Nat.le_refl _, Nat.le_refl _⟩) hP hD hS hA [0, 1, 2, 3, 4, 5, 6, 7, 8, 9, 10, 11, 12, 13, 14, 15, 16] [] rfl rfl (fun _ h9 => absurd h9 List.not_mem_nil) rfl rfl (fun H locs hP hD hS => ?_)
  refine lv_iconst (v := 0) hx hb dX9_races_4 (by decide) ?_
  refine lv_istore_n (lv' := [(1, .int (0 : Int32)), (0, .ref (h 0))]) hx hb dX9_races_5 rfl hl (by decide) rfl (fun ls hl => ?_)
  refine lv_iconst (v := 0) hx hb dX9_races_6 (by decide) ?_
  refine lv_istore_n (lv' := [(2, .int (0 : Int32)), (1, .int (0 : Int32)), (0, .ref (h 0))]) hx hb dX9_races_7 rfl hl (by decide) rfl (fun ls hl => ?_)
  exact J8 kFUEL q23.1 q23.2 (0 : Int32) (0 : Int32) _ _ _ hf hP hD hS (lv_sub hl [2, 1, 0] rfl)

set_option maxHeartbeats 4000000 in
set_option maxRecDepth 100000 in
theorem c9_goesRun (l : Launch) (D : va_G) (cB cI cZ cO : ClassId) (h : Nat → Nat) (sz : Nat) (v_all : Nat → Int32) (v_past : Nat → Int32) (v_states : Int32) (v_refused : Nat → Int32) (v_far : Nat → Int32) (v_row : Nat → Int32) (v_stepAt : Nat → Int32) (v_depth : Int32) (v_tries : Nat → Int32) (v_values : Nat → Int32) (v_wrong : Int32) (v_isEnd : Nat → Int32) (v_found : Nat → Int32) (v_reached : Nat → Int32) (v_stepIn : Nat → Int32) (v_laid : Nat → Int32) (v_firstRow : Nat → Int32) (v_text : Nat → Int32) (v_textLong : Int32) (v_spot : Int32) (v_taken : Int32) (v_counted : Nat → Int32) (v_far' : Nat → Int32) (v_depth' : Int32) (v_tries' : Nat → Int32) (v_values' : Nat → Int32) (v_wrong' : Int32) (hf : f9_goesRun v_all v_far v_depth v_tries v_values v_wrong = some (v_far', v_depth', v_tries', v_values', v_wrong')) : Met l yX9_goesRun wsX9_goesRun rm9_goesRun (va_Pc [.ref (h 0)] (kb_B D (ka_tys cB cI cZ cO) sz (wdM cI cZ h v_all v_past v_states v_refused v_far v_row v_stepAt v_depth v_tries v_values v_wrong v_isEnd v_found v_reached v_stepIn v_laid v_firstRow v_text v_textLong v_spot v_taken v_counted))) (va_Qv (fun (_ : Unit) => True) (fun _ t => va_P D vwCl (wdM cI cZ h v_all v_past v_states v_refused (v_far') v_row v_stepAt (v_depth') (v_tries') (v_values') (v_wrong') v_isEnd v_found v_reached v_stepIn v_laid v_firstRow v_text v_textLong v_spot v_taken v_counted) t.heap) (va_A (wdM cI cZ h v_all v_past v_states v_refused v_far v_row v_stepAt v_depth v_tries v_values v_wrong v_isEnd v_found v_reached v_stepIn v_laid v_firstRow v_text v_textLong v_spot v_taken v_counted) sz)) 0 0 (va_A (wdM cI cZ h v_all v_past v_states v_refused v_far v_row v_stepAt v_depth v_tries v_values v_wrong v_isEnd v_found v_reached v_stepIn v_laid v_firstRow v_text v_textLong v_spot v_taken v_counted) sz) := by
  refine kb_metV (cc := cX9_goesRun) (maxL := 3) (by decide) rfl (Nat.le_of_ble_eq_true rfl) ?_
  intro p e s m args below meth c Q A ls H hx hb hml hown hts hK hN hP hD hS hA hl hend
  have hown : s.vm.findClass RX9 = some m.cls := hown
  have hl : lv_has ls 3 [(0, .ref (h 0))] := hl
  have hin9 : ∀ w ∈ u_ws RX9 TX9 22, w ∈ wsX9_goesRun := by decide +kernel
  have J10 : ∀ (n : Nat) (v_far : Nat → Int32) (v_depth : Int32) (v_tries : Nat → Int32) (v_values : Nat → Int32) (v_wrong : Int32) (x1 : Int32) (H : Heap) (locs : List Loc) (ls : Array Slot), f9_goesRun_l10 n v_all v_far v_depth v_tries v_values v_wrong x1 = some (v_far', v_depth', v_tries', v_values', v_wrong') → va_P D vwCl (wdM cI cZ h v_all v_past v_states v_refused v_far v_row v_stepAt v_depth v_tries v_values v_wrong v_isEnd v_found v_reached v_stepIn v_laid v_firstRow v_text v_textLong v_spot v_taken v_counted) H → va_D A (wdM cI cZ h v_all v_past v_states v_refused v_far v_row v_stepAt v_depth v_tries v_values v_wrong v_isEnd v_found v_reached v_stepIn v_laid v_firstRow v_text v_textLong v_spot v_taken v_counted) → va_S A s.heap H locs → lv_has ls 3 [(0, .ref (h 0)), (1, .int x1)] → W p l e rm9_goesRun s m args below meth c H locs 0 0 Q (F0 m 10 ls []) := by
    intro n
    induction n with
    | zero =>
      intro v_far v_depth v_tries v_values v_wrong x1 H locs ls hf
      cases (show (none : Option ((Nat → Int32) × Int32 × (Nat → Int32) × (Nat → Int32) × Int32)) = some (v_far', v_depth', v_tries', v_values', v_wrong') from hf)
    | succ n ih =>
      intro v_far v_depth v_tries v_values v_wrong x1 H locs ls hf hP hD hS hl
      rw [f9_goesRun_l10_s] at hf
      refine lv_iload_n hx hb dX9_goesRun_10 rfl (lv_at hl 1 rfl) ?_
      refine lv_aload_n hx hb dX9_goesRun_11 rfl (lv_at hl 0 rfl) ?_
      refine va_get (D := D) (cl := vwCl) (ci := 6) (v := .ref (h 1)) (C := RX9) (T := TX9) (N := 22) hx hb hts hin9 hown hK hP 0 rfl rfl 0 (by decide) (hts (.fieldLink RX9 7 "StepOrdersModel" "all" "[I") (by decide +kernel)) (fun _ h9 => h9) rfl dX9_goesRun_12 ?_
      refine lv_bipush (v := 43) hx hb dX9_goesRun_15 (by decide) ?_
      refine ka_iald (D := D) (cl := vwCl) hx hb hK hP 1 1 (f := v_all) rfl rfl (v := (v_all 43)) (show ¬ (_ ∨ _) from by decide) rfl dX9_goesRun_17 ?_
      refine lv_icmp_ge (tgt := 58) hx hb dX9_goesRun_18 (by decide) (fun c7 => ?_) (fun c7 => ?_)
      · rw [if_pos c7] at hf
        obtain ⟨z1, y1⟩ := Prod.mk.inj (Option.some.inj hf)
        obtain ⟨z2, y2⟩ := Prod.mk.inj y1
        obtain ⟨z3, y3⟩ := Prod.mk.inj y2
        obtain ⟨z4, y4⟩ := Prod.mk.inj y3
        subst z1 z2 z3 z4 y4
        exact hend _ _ _ _ hP hS dX9_goesRun_58
      · rw [if_neg c7] at hf
        refine lv_aload_n hx hb dX9_goesRun_21 rfl (lv_at hl 0 rfl) ?_
        refine va_get (D := D) (cl := vwCl) (ci := 6) (v := .ref (h 1)) (C := RX9) (T := TX9) (N := 22) hx hb hts hin9 hown hK hP 0 rfl rfl 0 (by decide) (hts (.fieldLink RX9 7 "StepOrdersModel" "all" "[I") (by decide +kernel)) (fun _ h9 => h9) rfl dX9_goesRun_22 ?_
        refine lv_bipush (v := 44) hx hb dX9_goesRun_25 (by decide) ?_
        refine lv_iload_n hx hb dX9_goesRun_27 rfl (lv_at hl 1 rfl) ?_
        refine lv_iadd hx hb dX9_goesRun_28 ?_
        refine kb_bind hf (fun v8 hv8 hf => ?_)
        refine ka_iald (D := D) (cl := vwCl) hx hb hK hP 1 1 (f := v_all) rfl rfl (ard_in hv8) (ard_v hv8) dX9_goesRun_29 ?_
        refine lv_istore_n (lv' := [(2, .int v8), (0, .ref (h 0)), (1, .int x1)]) hx hb dX9_goesRun_30 rfl hl (by decide) rfl (fun ls hl => ?_)
        refine lv_aload_n hx hb dX9_goesRun_31 rfl (lv_at hl 1 rfl) ?_
        refine lv_iload_n hx hb dX9_goesRun_32 rfl (lv_at hl 0 rfl) ?_
        refine lv_aload_n hx hb dX9_goesRun_33 rfl (lv_at hl 1 rfl) ?_
        refine va_get (D := D) (cl := vwCl) (ci := 6) (v := .ref (h 4)) (C := RX9) (T := TX9) (N := 22) hx hb hts hin9 hown hK hP 0 rfl rfl 4 (by decide) (hts (.fieldLink RX9 19 "StepOrdersModel" "far" "[I") (by decide +kernel)) (fun _ h9 => h9) rfl dX9_goesRun_34 ?_
        refine lv_iload_n hx hb dX9_goesRun_37 rfl (lv_at hl 0 rfl) ?_
        refine kb_bind hf (fun v9 hv9 hf => ?_)
        refine ka_iald (D := D) (cl := vwCl) hx hb hK hP 4 1 (f := v_far) rfl rfl (ard_in hv9) (ard_v hv9) dX9_goesRun_38 ?_
        refine kb_bind hf (fun q10 hq10 hf => ?_)
        have hPc : va_P D vwCl (wdM cI cZ h v_all v_past v_states v_refused v_far v_row v_stepAt v_depth v_tries v_values v_wrong v_isEnd v_found v_reached v_stepIn v_laid v_firstRow v_text v_textLong v_spot v_taken v_counted) H := hP.sub [0, 1, 2, 3, 4, 5, 6, 7, 8, 9, 10, 11, 12, 13, 14, 15, 16] rfl
        have hDc : va_D A (wdM cI cZ h v_all v_past v_states v_refused v_far v_row v_stepAt v_depth v_tries v_values v_wrong v_isEnd v_found v_reached v_stepIn v_laid v_firstRow v_text v_textLong v_spot v_taken v_counted) := hD.sub [0, 1, 2, 3, 4, 5, 6, 7, 8, 9, 10, 11, 12, 13, 14, 15, 16] (by decide) rfl
        refine kd_vW (ws' := wdM cI cZ h v_all v_past v_states v_refused v_far v_row v_stepAt v_depth v_tries q10.1 q10.2 v_isEnd v_found v_reached v_stepIn v_laid v_firstRow v_text v_textLong v_spot v_taken v_counted) (va_runV (As := [.int v8, .int v9]) (rest := []) ⟨hx, hb, hml, hown, hts⟩ (c9_doesStep l D cB cI cZ cO h H.size v8 v9 v_all v_past v_states v_refused v_far v_row v_stepAt v_depth v_tries v_values v_wrong v_isEnd v_found v_reached v_stepIn v_laid v_firstRow v_text v_textLong v_spot v_taken v_counted q10.1 q10.2 hq10) (cwV 2 hts gX9_goesRun_X9_doesStep rfl rfl rfl (by decide +kernel) ⟨Nat.le_of_ble_eq_true rfl, Nat.le_of_ble_eq_true rfl⟩) ⟨kb_blind, va_recv hK hPc (ci := 6) (q0 := 0) rfl rfl, kb_pre hPc hDc hK hN⟩ rfl rfl hl.1 rfl (lv_room (Nat.le_of_ble_eq_true rfl)) dX9_goesRun_39 ⟨Nat.le_refl _, Nat.le_refl _⟩) hP hD hS hA [0, 1, 2, 3, 4, 5, 6, 7, 8, 9, 10, 11, 12, 13, 14, 15, 16] [] rfl rfl (fun _ h9 => absurd h9 List.not_mem_nil) rfl rfl (fun H locs hP hD hS => ?_)
        refine lv_aload_n hx hb dX9_goesRun_42 rfl (lv_at hl 1 rfl) ?_
        refine va_get (D := D) (cl := vwCl) (ci := 6) (v := .ref (h 4)) (C := RX9) (T := TX9) (N := 22) hx hb hts hin9 hown hK hP 0 rfl rfl 4 (by decide) (hts (.fieldLink RX9 19 "StepOrdersModel" "far" "[I") (by decide +kernel)) (fun _ h9 => h9) rfl dX9_goesRun_43 ?_
        refine lv_iload_n hx hb dX9_goesRun_46 rfl (lv_at hl 0 rfl) ?_
        refine lv_dup2_11 hx hb dX9_goesRun_47 rfl rfl ?_
        refine kb_bind hf (fun v11 hv11 hf => ?_)
        refine ka_iald (D := D) (cl := vwCl) hx hb hK hP 4 1 (f := v_far) rfl rfl (ard_in hv11) (ard_v hv11) dX9_goesRun_48 ?_
        refine lv_iconst (v := 1) hx hb dX9_goesRun_49 (by decide) ?_
        refine lv_iadd hx hb dX9_goesRun_50 ?_
        refine kb_bind hf (fun v12 hv12 hf => ?_)
        refine ka_iast (D := D) (cl := vwCl) hx hb hK hP hD hS 4 1 (f := v_far) (g := v12) rfl rfl (awr_in hv12) (awr_v hv12) dX9_goesRun_51 (fun H locs hP hD hS => ?_)
        have hP : va_P D vwCl (wdM cI cZ h v_all v_past v_states v_refused v12 v_row v_stepAt v_depth v_tries q10.1 q10.2 v_isEnd v_found v_reached v_stepIn v_laid v_firstRow v_text v_textLong v_spot v_taken v_counted) H := hP
        have hD : va_D A (wdM cI cZ h v_all v_past v_states v_refused v12 v_row v_stepAt v_depth v_tries q10.1 q10.2 v_isEnd v_found v_reached v_stepIn v_laid v_firstRow v_text v_textLong v_spot v_taken v_counted) := hD
        refine lv_iinc (v := (x1 + 1)) (lv' := [(1, .int (x1 + 1)), (2, .int v8), (0, .ref (h 0))]) hx hb dX9_goesRun_52 hl (k := 2) rfl rfl (by decide) rfl (fun ls hl => ?_)
        refine lv_goto (tgt := 10) hx hb dX9_goesRun_55 (by decide) ?_
        exact ih v12 v_depth v_tries q10.1 q10.2 (x1 + 1) _ _ _ hf hP hD hS (lv_sub hl [2, 0] rfl)
  rw [f9_goesRun] at hf
  refine lv_aload_n hx hb dX9_goesRun_0 rfl (lv_at hl 0 rfl) ?_
  refine kb_bind hf (fun q13 hq13 hf => ?_)
  have hPc : va_P D vwCl (wdM cI cZ h v_all v_past v_states v_refused v_far v_row v_stepAt v_depth v_tries v_values v_wrong v_isEnd v_found v_reached v_stepIn v_laid v_firstRow v_text v_textLong v_spot v_taken v_counted) H := hP.sub [0, 1, 2, 3, 4, 5, 6, 7, 8, 9, 10, 11, 12, 13, 14, 15, 16] rfl
  have hDc : va_D A (wdM cI cZ h v_all v_past v_states v_refused v_far v_row v_stepAt v_depth v_tries v_values v_wrong v_isEnd v_found v_reached v_stepIn v_laid v_firstRow v_text v_textLong v_spot v_taken v_counted) := hD.sub [0, 1, 2, 3, 4, 5, 6, 7, 8, 9, 10, 11, 12, 13, 14, 15, 16] (by decide) rfl
  refine kd_vW (ws' := wdM cI cZ h v_all v_past v_states v_refused q13.1 v_row v_stepAt q13.2.1 q13.2.2 v_values v_wrong v_isEnd v_found v_reached v_stepIn v_laid v_firstRow v_text v_textLong v_spot v_taken v_counted) (va_runV (As := []) (rest := []) ⟨hx, hb, hml, hown, hts⟩ (c9_starts l D cB cI cZ cO h H.size v_all v_past v_states v_refused v_far v_row v_stepAt v_depth v_tries v_values v_wrong v_isEnd v_found v_reached v_stepIn v_laid v_firstRow v_text v_textLong v_spot v_taken v_counted q13.1 q13.2.1 q13.2.2 hq13) (cwV 0 hts gX9_goesRun_X9_starts rfl rfl rfl (by decide +kernel) ⟨Nat.le_of_ble_eq_true rfl, Nat.le_of_ble_eq_true rfl⟩) ⟨kb_blind, va_recv hK hPc (ci := 6) (q0 := 0) rfl rfl, kb_pre hPc hDc hK hN⟩ rfl rfl hl.1 rfl (lv_room (Nat.le_of_ble_eq_true rfl)) dX9_goesRun_1 ⟨Nat.le_refl _, Nat.le_refl _⟩) hP hD hS hA [0, 1, 2, 3, 4, 5, 6, 7, 8, 9, 10, 11, 12, 13, 14, 15, 16] [] rfl rfl (fun _ h9 => absurd h9 List.not_mem_nil) rfl rfl (fun H locs hP hD hS => ?_)
  refine lv_aload_n hx hb dX9_goesRun_4 rfl (lv_at hl 0 rfl) ?_
  refine kb_bind hf (fun q14 hq14 hf => ?_)
  have hPc : va_P D vwCl (wdM cI cZ h v_all v_past v_states v_refused q13.1 v_row v_stepAt q13.2.1 q13.2.2 v_values v_wrong v_isEnd v_found v_reached v_stepIn v_laid v_firstRow v_text v_textLong v_spot v_taken v_counted) H := hP.sub [0, 1, 2, 3, 4, 5, 6, 7, 8, 9, 10, 11, 12, 13, 14, 15, 16] rfl
  have hDc : va_D A (wdM cI cZ h v_all v_past v_states v_refused q13.1 v_row v_stepAt q13.2.1 q13.2.2 v_values v_wrong v_isEnd v_found v_reached v_stepIn v_laid v_firstRow v_text v_textLong v_spot v_taken v_counted) := hD.sub [0, 1, 2, 3, 4, 5, 6, 7, 8, 9, 10, 11, 12, 13, 14, 15, 16] (by decide) rfl
  refine kd_vW (ws' := wdM cI cZ h v_all v_past v_states v_refused q13.1 v_row v_stepAt q13.2.1 q13.2.2 q14.1 q14.2 v_isEnd v_found v_reached v_stepIn v_laid v_firstRow v_text v_textLong v_spot v_taken v_counted) (va_runV (As := []) (rest := []) ⟨hx, hb, hml, hown, hts⟩ (c9_valuesBegin l D cB cI cZ cO h H.size v_all v_past v_states v_refused q13.1 v_row v_stepAt q13.2.1 q13.2.2 v_values v_wrong v_isEnd v_found v_reached v_stepIn v_laid v_firstRow v_text v_textLong v_spot v_taken v_counted q14.1 q14.2 hq14) (cwV 0 hts gX9_goesRun_X9_valuesBegin rfl rfl rfl (by decide +kernel) ⟨Nat.le_of_ble_eq_true rfl, Nat.le_of_ble_eq_true rfl⟩) ⟨kb_blind, va_recv hK hPc (ci := 6) (q0 := 0) rfl rfl, kb_pre hPc hDc hK hN⟩ rfl rfl hl.1 rfl (lv_room (Nat.le_of_ble_eq_true rfl)) dX9_goesRun_5 ⟨Nat.le_refl _, Nat.le_refl _⟩) hP hD hS hA [0, 1, 2, 3, 4, 5, 6, 7, 8, 9, 10, 11, 12, 13, 14, 15, 16] [] rfl rfl (fun _ h9 => absurd h9 List.not_mem_nil) rfl rfl (fun H locs hP hD hS => ?_)
  refine lv_iconst (v := 0) hx hb dX9_goesRun_8 (by decide) ?_
  refine lv_istore_n (lv' := [(1, .int (0 : Int32)), (0, .ref (h 0))]) hx hb dX9_goesRun_9 rfl hl (by decide) rfl (fun ls hl => ?_)
  exact J10 kFUEL q13.1 q13.2.1 q13.2.2 q14.1 q14.2 (0 : Int32) _ _ _ hf hP hD hS (lv_sub hl [1, 0] rfl)

set_option maxHeartbeats 4000000 in
set_option maxRecDepth 100000 in
theorem c9_does (l : Launch) (D : va_G) (cB cI cZ cO : ClassId) (h : Nat → Nat) (sz : Nat) (x1 : Int32) (v_all : Nat → Int32) (v_past : Nat → Int32) (v_states : Int32) (v_refused : Nat → Int32) (v_far : Nat → Int32) (v_row : Nat → Int32) (v_stepAt : Nat → Int32) (v_depth : Int32) (v_tries : Nat → Int32) (v_values : Nat → Int32) (v_wrong : Int32) (v_isEnd : Nat → Int32) (v_found : Nat → Int32) (v_reached : Nat → Int32) (v_stepIn : Nat → Int32) (v_laid : Nat → Int32) (v_firstRow : Nat → Int32) (v_text : Nat → Int32) (v_textLong : Int32) (v_spot : Int32) (v_taken : Int32) (v_counted : Nat → Int32) (r0 : Int32) (v_all' : Nat → Int32) (v_past' : Nat → Int32) (v_states' : Int32) (v_refused' : Nat → Int32) (v_far' : Nat → Int32) (v_depth' : Int32) (v_tries' : Nat → Int32) (v_values' : Nat → Int32) (v_wrong' : Int32) (hf : f9_does v_all v_past v_states v_refused v_far v_depth v_tries v_values v_wrong x1 = some (r0, v_all', v_past', v_states', v_refused', v_far', v_depth', v_tries', v_values', v_wrong')) : Met l yX9_does wsX9_does rm9_does (va_Pc [.ref (h 0), .int x1] (kb_B D (ka_tys cB cI cZ cO) sz (wdM cI cZ h v_all v_past v_states v_refused v_far v_row v_stepAt v_depth v_tries v_values v_wrong v_isEnd v_found v_reached v_stepIn v_laid v_firstRow v_text v_textLong v_spot v_taken v_counted))) (va_Qi (kb_post .int r0) (fun _ t => va_P D vwCl (wdM cI cZ h (v_all') (v_past') (v_states') (v_refused') (v_far') v_row v_stepAt (v_depth') (v_tries') (v_values') (v_wrong') v_isEnd v_found v_reached v_stepIn v_laid v_firstRow v_text v_textLong v_spot v_taken v_counted) t.heap) (va_A (wdM cI cZ h v_all v_past v_states v_refused v_far v_row v_stepAt v_depth v_tries v_values v_wrong v_isEnd v_found v_reached v_stepIn v_laid v_firstRow v_text v_textLong v_spot v_taken v_counted) sz)) 0 0 (va_A (wdM cI cZ h v_all v_past v_states v_refused v_far v_row v_stepAt v_depth v_tries v_values v_wrong v_isEnd v_found v_reached v_stepIn v_laid v_firstRow v_text v_textLong v_spot v_taken v_counted) sz) := by
  refine kb_metZ (cc := cX9_does) (maxL := 2) (ty := .int) (by decide) rfl (Nat.le_of_ble_eq_true rfl) ?_
  intro p e s m args below meth c Q A ls H hx hb hml hown hts hK hN hP hD hS hA hl hend
  have hown : s.vm.findClass RX9 = some m.cls := hown
  have hl : lv_has ls 2 [(0, .ref (h 0)), (1, .int x1)] := hl
  have hin9 : ∀ w ∈ u_ws RX9 TX9 22, w ∈ wsX9_does := by decide +kernel
  rw [f9_does] at hf
  refine lv_iload_n hx hb dX9_does_0 rfl (lv_at hl 1 rfl) ?_
  have hPc : va_P D vwCl ([]) H := hP.sub [] rfl
  have hDc : va_D A ([]) := hD.sub [] (by decide) rfl
  refine kd_iR (va_runS (As := [.int x1]) (rest := []) ⟨hx, hb, hml, hown, hts⟩ (c9_isThread l D cB cI cZ cO h H.size x1 (f9_isThread x1) rfl) (va_cwS 1 hts gX9_does_X9_isThread rfl rfl rfl (by decide +kernel) ⟨Nat.le_of_ble_eq_true rfl, Nat.le_of_ble_eq_true rfl⟩) ⟨kb_blind, kb_pre hPc hDc hK hN⟩ rfl rfl hl.1 rfl (lv_room (Nat.le_of_ble_eq_true rfl)) dX9_does_1 ⟨Nat.le_refl _, Nat.le_refl _⟩) hP hD hS hA [] rfl (fun H locs hn1 hP hS => ?_)
  refine lv_if_ne (tgt := 14) hx hb dX9_does_4 (by decide) (fun c2 => ?_) (fun c2 => ?_)
  · rw [if_neg c2] at hf
    refine lv_aload_n hx hb dX9_does_14 rfl (lv_at hl 0 rfl) ?_
    refine kb_bind hf (fun q3 hq3 hf => ?_)
    have hPc : va_P D vwCl (wdM cI cZ h v_all v_past v_states v_refused v_far v_row v_stepAt v_depth v_tries v_values v_wrong v_isEnd v_found v_reached v_stepIn v_laid v_firstRow v_text v_textLong v_spot v_taken v_counted) H := hP.sub [0, 1, 2, 3, 4, 5, 6, 7, 8, 9, 10, 11, 12, 13, 14, 15, 16] rfl
    have hDc : va_D A (wdM cI cZ h v_all v_past v_states v_refused v_far v_row v_stepAt v_depth v_tries v_values v_wrong v_isEnd v_found v_reached v_stepIn v_laid v_firstRow v_text v_textLong v_spot v_taken v_counted) := hD.sub [0, 1, 2, 3, 4, 5, 6, 7, 8, 9, 10, 11, 12, 13, 14, 15, 16] (by decide) rfl
    refine kd_vW (ws' := wdM cI cZ h v_all v_past v_states v_refused q3.1 v_row v_stepAt q3.2.1 q3.2.2.1 q3.2.2.2.1 q3.2.2.2.2 v_isEnd v_found v_reached v_stepIn v_laid v_firstRow v_text v_textLong v_spot v_taken v_counted) (va_runV (As := []) (rest := []) ⟨hx, hb, hml, hown, hts⟩ (c9_goesRun l D cB cI cZ cO h H.size v_all v_past v_states v_refused v_far v_row v_stepAt v_depth v_tries v_values v_wrong v_isEnd v_found v_reached v_stepIn v_laid v_firstRow v_text v_textLong v_spot v_taken v_counted q3.1 q3.2.1 q3.2.2.1 q3.2.2.2.1 q3.2.2.2.2 hq3) (cwV 0 hts gX9_does_X9_goesRun rfl rfl rfl (by decide +kernel) ⟨Nat.le_of_ble_eq_true rfl, Nat.le_of_ble_eq_true rfl⟩) ⟨kb_blind, va_recv hK hPc (ci := 6) (q0 := 0) rfl rfl, kb_pre hPc hDc hK hN⟩ rfl rfl hl.1 rfl (lv_room (Nat.le_of_ble_eq_true rfl)) dX9_does_15 ⟨Nat.le_refl _, Nat.le_refl _⟩) hP hD hS hA [0, 1, 2, 3, 4, 5, 6, 7, 8, 9, 10, 11, 12, 13, 14, 15, 16] [] rfl rfl (fun _ h9 => absurd h9 List.not_mem_nil) rfl rfl (fun H locs hP hD hS => ?_)
    refine lv_aload_n hx hb dX9_does_18 rfl (lv_at hl 0 rfl) ?_
    refine lv_iload_n hx hb dX9_does_19 rfl (lv_at hl 1 rfl) ?_
    refine kb_bind hf (fun q4 hq4 hf => ?_)
    have hPc : va_P D vwCl (wdM cI cZ h v_all v_past v_states v_refused q3.1 v_row v_stepAt q3.2.1 q3.2.2.1 q3.2.2.2.1 q3.2.2.2.2 v_isEnd v_found v_reached v_stepIn v_laid v_firstRow v_text v_textLong v_spot v_taken v_counted) H := hP.sub [0, 1, 2, 3, 4, 5, 6, 7, 8, 9, 10, 11, 12, 13, 14, 15, 16] rfl
    have hDc : va_D A (wdM cI cZ h v_all v_past v_states v_refused q3.1 v_row v_stepAt q3.2.1 q3.2.2.1 q3.2.2.2.1 q3.2.2.2.2 v_isEnd v_found v_reached v_stepIn v_laid v_firstRow v_text v_textLong v_spot v_taken v_counted) := hD.sub [0, 1, 2, 3, 4, 5, 6, 7, 8, 9, 10, 11, 12, 13, 14, 15, 16] (by decide) rfl
    refine kd_iR (va_runV (As := [.int x1]) (rest := []) ⟨hx, hb, hml, hown, hts⟩ (c9_canDo l D cB cI cZ cO h H.size x1 v_all v_past v_states v_refused q3.1 v_row v_stepAt q3.2.1 q3.2.2.1 q3.2.2.2.1 q3.2.2.2.2 v_isEnd v_found v_reached v_stepIn v_laid v_firstRow v_text v_textLong v_spot v_taken v_counted q4 hq4) (cwV 1 hts gX9_does_X9_canDo rfl rfl rfl (by decide +kernel) ⟨Nat.le_of_ble_eq_true rfl, Nat.le_of_ble_eq_true rfl⟩) ⟨kb_blind, va_recv hK hPc (ci := 6) (q0 := 0) rfl rfl, kb_pre hPc hDc hK hN⟩ rfl rfl hl.1 rfl (lv_room (Nat.le_of_ble_eq_true rfl)) dX9_does_20 ⟨Nat.le_refl _, Nat.le_refl _⟩) hP hD hS hA [0, 1, 2, 3, 4, 5, 6, 7, 8, 9, 10, 11, 12, 13, 14, 15, 16] rfl (fun H locs hn5 hP hS => ?_)
    refine lv_if_ne (tgt := 33) hx hb dX9_does_23 (by decide) (fun c6 => ?_) (fun c6 => ?_)
    · rw [if_neg c6] at hf
      refine lv_aload_n hx hb dX9_does_33 rfl (lv_at hl 0 rfl) ?_
      refine kb_bind hf (fun q7 hq7 hf => ?_)
      have hPc : va_P D vwCl (wdM cI cZ h v_all v_past v_states v_refused q3.1 v_row v_stepAt q3.2.1 q3.2.2.1 q3.2.2.2.1 q3.2.2.2.2 v_isEnd v_found v_reached v_stepIn v_laid v_firstRow v_text v_textLong v_spot v_taken v_counted) H := hP.sub [0, 1, 2, 3, 4, 5, 6, 7, 8, 9, 10, 11, 12, 13, 14, 15, 16] rfl
      have hDc : va_D A (wdM cI cZ h v_all v_past v_states v_refused q3.1 v_row v_stepAt q3.2.1 q3.2.2.1 q3.2.2.2.1 q3.2.2.2.2 v_isEnd v_found v_reached v_stepIn v_laid v_firstRow v_text v_textLong v_spot v_taken v_counted) := hD.sub [0, 1, 2, 3, 4, 5, 6, 7, 8, 9, 10, 11, 12, 13, 14, 15, 16] (by decide) rfl
      refine kd_vW (ws' := wdM cI cZ h v_all q7.1 q7.2 v_refused q3.1 v_row v_stepAt q3.2.1 q3.2.2.1 q3.2.2.2.1 q3.2.2.2.2 v_isEnd v_found v_reached v_stepIn v_laid v_firstRow v_text v_textLong v_spot v_taken v_counted) (va_runV (As := []) (rest := []) ⟨hx, hb, hml, hown, hts⟩ (c9_keep l D cB cI cZ cO h H.size v_all v_past v_states v_refused q3.1 v_row v_stepAt q3.2.1 q3.2.2.1 q3.2.2.2.1 q3.2.2.2.2 v_isEnd v_found v_reached v_stepIn v_laid v_firstRow v_text v_textLong v_spot v_taken v_counted q7.1 q7.2 hq7) (cwV 0 hts gX9_does_X9_keep rfl rfl rfl (by decide +kernel) ⟨Nat.le_of_ble_eq_true rfl, Nat.le_of_ble_eq_true rfl⟩) ⟨kb_blind, va_recv hK hPc (ci := 6) (q0 := 0) rfl rfl, kb_pre hPc hDc hK hN⟩ rfl rfl hl.1 rfl (lv_room (Nat.le_of_ble_eq_true rfl)) dX9_does_34 ⟨Nat.le_refl _, Nat.le_refl _⟩) hP hD hS hA [0, 1, 2, 3, 4, 5, 6, 7, 8, 9, 10, 11, 12, 13, 14, 15, 16] [] rfl rfl (fun _ h9 => absurd h9 List.not_mem_nil) rfl rfl (fun H locs hP hD hS => ?_)
      refine lv_aload_n hx hb dX9_does_37 rfl (lv_at hl 0 rfl) ?_
      refine va_get (D := D) (cl := vwCl) (ci := 6) (v := .ref (h 1)) (C := RX9) (T := TX9) (N := 22) hx hb hts hin9 hown hK hP 0 rfl rfl 0 (by decide) (hts (.fieldLink RX9 7 "StepOrdersModel" "all" "[I") (by decide +kernel)) (fun _ h9 => h9) rfl dX9_does_38 ?_
      refine lv_bipush (v := 44) hx hb dX9_does_41 (by decide) ?_
      refine lv_aload_n hx hb dX9_does_43 rfl (lv_at hl 0 rfl) ?_
      refine va_get (D := D) (cl := vwCl) (ci := 6) (v := .ref (h 1)) (C := RX9) (T := TX9) (N := 22) hx hb hts hin9 hown hK hP 0 rfl rfl 0 (by decide) (hts (.fieldLink RX9 7 "StepOrdersModel" "all" "[I") (by decide +kernel)) (fun _ h9 => h9) rfl dX9_does_44 ?_
      refine lv_bipush (v := 43) hx hb dX9_does_47 (by decide) ?_
      refine ka_iald (D := D) (cl := vwCl) hx hb hK hP 1 1 (f := v_all) rfl rfl (v := (v_all 43)) (show ¬ (_ ∨ _) from by decide) rfl dX9_does_49 ?_
      refine lv_iadd hx hb dX9_does_50 ?_
      refine lv_iload_n hx hb dX9_does_51 rfl (lv_at hl 1 rfl) ?_
      refine kb_bind hf (fun v8 hv8 hf => ?_)
      refine ka_iast (D := D) (cl := vwCl) hx hb hK hP hD hS 1 1 (f := v_all) (g := v8) rfl rfl (awr_in hv8) (awr_v hv8) dX9_does_52 (fun H locs hP hD hS => ?_)
      have hP : va_P D vwCl (wdM cI cZ h v8 q7.1 q7.2 v_refused q3.1 v_row v_stepAt q3.2.1 q3.2.2.1 q3.2.2.2.1 q3.2.2.2.2 v_isEnd v_found v_reached v_stepIn v_laid v_firstRow v_text v_textLong v_spot v_taken v_counted) H := hP
      have hD : va_D A (wdM cI cZ h v8 q7.1 q7.2 v_refused q3.1 v_row v_stepAt q3.2.1 q3.2.2.1 q3.2.2.2.1 q3.2.2.2.2 v_isEnd v_found v_reached v_stepIn v_laid v_firstRow v_text v_textLong v_spot v_taken v_counted) := hD
      refine lv_aload_n hx hb dX9_does_53 rfl (lv_at hl 0 rfl) ?_
      refine va_get (D := D) (cl := vwCl) (ci := 6) (v := .ref (h 1)) (C := RX9) (T := TX9) (N := 22) hx hb hts hin9 hown hK hP 0 rfl rfl 0 (by decide) (hts (.fieldLink RX9 7 "StepOrdersModel" "all" "[I") (by decide +kernel)) (fun _ h9 => h9) rfl dX9_does_54 ?_
      refine lv_bipush (v := 43) hx hb dX9_does_57 (by decide) ?_
      refine lv_dup2_11 hx hb dX9_does_59 rfl rfl ?_
      refine ka_iald (D := D) (cl := vwCl) hx hb hK hP 1 1 (f := v8) rfl rfl (v := (v8 43)) (show ¬ (_ ∨ _) from by decide) rfl dX9_does_60 ?_
      refine lv_iconst (v := 1) hx hb dX9_does_61 (by decide) ?_
      refine lv_iadd hx hb dX9_does_62 ?_
      refine ka_iast (D := D) (cl := vwCl) hx hb hK hP hD hS 1 1 (f := v8) (g := (upd v8 43 ((v8 43) + (1 : Int32)))) rfl rfl (show ¬ (_ ∨ _) from by decide) rfl dX9_does_63 (fun H locs hP hD hS => ?_)
      have hP : va_P D vwCl (wdM cI cZ h (upd v8 43 ((v8 43) + (1 : Int32))) q7.1 q7.2 v_refused q3.1 v_row v_stepAt q3.2.1 q3.2.2.1 q3.2.2.2.1 q3.2.2.2.2 v_isEnd v_found v_reached v_stepIn v_laid v_firstRow v_text v_textLong v_spot v_taken v_counted) H := hP
      have hD : va_D A (wdM cI cZ h (upd v8 43 ((v8 43) + (1 : Int32))) q7.1 q7.2 v_refused q3.1 v_row v_stepAt q3.2.1 q3.2.2.1 q3.2.2.2.1 q3.2.2.2.2 v_isEnd v_found v_reached v_stepIn v_laid v_firstRow v_text v_textLong v_spot v_taken v_counted) := hD
      refine lv_aload_n hx hb dX9_does_64 rfl (lv_at hl 0 rfl) ?_
      refine kb_bind hf (fun q9 hq9 hf => ?_)
      have hPc : va_P D vwCl (wdM cI cZ h (upd v8 43 ((v8 43) + (1 : Int32))) q7.1 q7.2 v_refused q3.1 v_row v_stepAt q3.2.1 q3.2.2.1 q3.2.2.2.1 q3.2.2.2.2 v_isEnd v_found v_reached v_stepIn v_laid v_firstRow v_text v_textLong v_spot v_taken v_counted) H := hP.sub [0, 1, 2, 3, 4, 5, 6, 7, 8, 9, 10, 11, 12, 13, 14, 15, 16] rfl
      have hDc : va_D A (wdM cI cZ h (upd v8 43 ((v8 43) + (1 : Int32))) q7.1 q7.2 v_refused q3.1 v_row v_stepAt q3.2.1 q3.2.2.1 q3.2.2.2.1 q3.2.2.2.2 v_isEnd v_found v_reached v_stepIn v_laid v_firstRow v_text v_textLong v_spot v_taken v_counted) := hD.sub [0, 1, 2, 3, 4, 5, 6, 7, 8, 9, 10, 11, 12, 13, 14, 15, 16] (by decide) rfl
      refine kd_vW (ws' := wdM cI cZ h (upd v8 43 ((v8 43) + (1 : Int32))) q7.1 q7.2 v_refused q9.1 v_row v_stepAt q9.2.1 q9.2.2.1 q9.2.2.2.1 q9.2.2.2.2 v_isEnd v_found v_reached v_stepIn v_laid v_firstRow v_text v_textLong v_spot v_taken v_counted) (va_runV (As := []) (rest := []) ⟨hx, hb, hml, hown, hts⟩ (c9_goesRun l D cB cI cZ cO h H.size (upd v8 43 ((v8 43) + (1 : Int32))) q7.1 q7.2 v_refused q3.1 v_row v_stepAt q3.2.1 q3.2.2.1 q3.2.2.2.1 q3.2.2.2.2 v_isEnd v_found v_reached v_stepIn v_laid v_firstRow v_text v_textLong v_spot v_taken v_counted q9.1 q9.2.1 q9.2.2.1 q9.2.2.2.1 q9.2.2.2.2 hq9) (cwV 0 hts gX9_does_X9_goesRun rfl rfl rfl (by decide +kernel) ⟨Nat.le_of_ble_eq_true rfl, Nat.le_of_ble_eq_true rfl⟩) ⟨kb_blind, va_recv hK hPc (ci := 6) (q0 := 0) rfl rfl, kb_pre hPc hDc hK hN⟩ rfl rfl hl.1 rfl (lv_room (Nat.le_of_ble_eq_true rfl)) dX9_does_65 ⟨Nat.le_refl _, Nat.le_refl _⟩) hP hD hS hA [0, 1, 2, 3, 4, 5, 6, 7, 8, 9, 10, 11, 12, 13, 14, 15, 16] [] rfl rfl (fun _ h9 => absurd h9 List.not_mem_nil) rfl rfl (fun H locs hP hD hS => ?_)
      refine lv_aload_n hx hb dX9_does_68 rfl (lv_at hl 0 rfl) ?_
      refine va_get (D := D) (cl := vwCl) (ci := 6) (v := .int q9.2.2.2.2) (C := RX9) (T := TX9) (N := 22) hx hb hts hin9 hown hK hP 0 rfl rfl 10 (by decide) (hts (.fieldLink RX9 140 "StepOrdersModel" "wrong" "I") (by decide +kernel)) (fun _ h9 => h9) rfl dX9_does_69 ?_
      obtain ⟨z1, y1⟩ := Prod.mk.inj (Option.some.inj hf)
      obtain ⟨z2, y2⟩ := Prod.mk.inj y1
      obtain ⟨z3, y3⟩ := Prod.mk.inj y2
      obtain ⟨z4, y4⟩ := Prod.mk.inj y3
      obtain ⟨z5, y5⟩ := Prod.mk.inj y4
      obtain ⟨z6, y6⟩ := Prod.mk.inj y5
      obtain ⟨z7, y7⟩ := Prod.mk.inj y6
      obtain ⟨z8, y8⟩ := Prod.mk.inj y7
      obtain ⟨z9, y9⟩ := Prod.mk.inj y8
      subst z1 z2 z3 z4 z5 z6 z7 z8 z9 y9
      exact hend _ _ _ _ rfl hP hS dX9_does_72
    · rw [if_pos c6] at hf
      refine lv_aload_n hx hb dX9_does_26 rfl (lv_at hl 0 rfl) ?_
      refine lv_bipush (v := (-3)) hx hb dX9_does_27 (by decide) ?_
      refine kb_bind hf (fun q10 hq10 hf => ?_)
      have hPc : va_P D vwCl (wdM cI cZ h v_all v_past v_states v_refused q3.1 v_row v_stepAt q3.2.1 q3.2.2.1 q3.2.2.2.1 q3.2.2.2.2 v_isEnd v_found v_reached v_stepIn v_laid v_firstRow v_text v_textLong v_spot v_taken v_counted) H := hP.sub [0, 1, 2, 3, 4, 5, 6, 7, 8, 9, 10, 11, 12, 13, 14, 15, 16] rfl
      have hDc : va_D A (wdM cI cZ h v_all v_past v_states v_refused q3.1 v_row v_stepAt q3.2.1 q3.2.2.1 q3.2.2.2.1 q3.2.2.2.2 v_isEnd v_found v_reached v_stepIn v_laid v_firstRow v_text v_textLong v_spot v_taken v_counted) := hD.sub [0, 1, 2, 3, 4, 5, 6, 7, 8, 9, 10, 11, 12, 13, 14, 15, 16] (by decide) rfl
      refine kd_iW (ws' := wdM cI cZ h v_all v_past v_states q10.2 q3.1 v_row v_stepAt q3.2.1 q3.2.2.1 q3.2.2.2.1 q3.2.2.2.2 v_isEnd v_found v_reached v_stepIn v_laid v_firstRow v_text v_textLong v_spot v_taken v_counted) (va_runV (As := [.int (-3 : Int32)]) (rest := []) ⟨hx, hb, hml, hown, hts⟩ (c9_refuses l D cB cI cZ cO h H.size (-3 : Int32) v_all v_past v_states v_refused q3.1 v_row v_stepAt q3.2.1 q3.2.2.1 q3.2.2.2.1 q3.2.2.2.2 v_isEnd v_found v_reached v_stepIn v_laid v_firstRow v_text v_textLong v_spot v_taken v_counted q10.1 q10.2 hq10) (cwV 1 hts gX9_does_X9_refuses rfl rfl rfl (by decide +kernel) ⟨Nat.le_of_ble_eq_true rfl, Nat.le_of_ble_eq_true rfl⟩) ⟨kb_blind, va_recv hK hPc (ci := 6) (q0 := 0) rfl rfl, kb_pre hPc hDc hK hN⟩ rfl rfl hl.1 rfl (lv_room (Nat.le_of_ble_eq_true rfl)) dX9_does_29 ⟨Nat.le_refl _, Nat.le_refl _⟩) hP hD hS hA [0, 1, 2, 3, 4, 5, 6, 7, 8, 9, 10, 11, 12, 13, 14, 15, 16] [] rfl rfl (fun _ h9 => absurd h9 List.not_mem_nil) rfl rfl (fun H locs hn11 hP hD hS => ?_)
      obtain ⟨z1, y1⟩ := Prod.mk.inj (Option.some.inj hf)
      obtain ⟨z2, y2⟩ := Prod.mk.inj y1
      obtain ⟨z3, y3⟩ := Prod.mk.inj y2
      obtain ⟨z4, y4⟩ := Prod.mk.inj y3
      obtain ⟨z5, y5⟩ := Prod.mk.inj y4
      obtain ⟨z6, y6⟩ := Prod.mk.inj y5
      obtain ⟨z7, y7⟩ := Prod.mk.inj y6
      obtain ⟨z8, y8⟩ := Prod.mk.inj y7
      obtain ⟨z9, y9⟩ := Prod.mk.inj y8
      subst z1 z2 z3 z4 z5 z6 z7 z8 z9 y9
      exact hend _ _ _ _ rfl hP hS dX9_does_32
  · rw [if_pos c2] at hf
    refine lv_aload_n hx hb dX9_does_7 rfl (lv_at hl 0 rfl) ?_
    refine lv_bipush (v := (-2)) hx hb dX9_does_8 (by decide) ?_
    refine kb_bind hf (fun q12 hq12 hf => ?_)
    have hPc : va_P D vwCl (wdM cI cZ h v_all v_past v_states v_refused v_far v_row v_stepAt v_depth v_tries v_values v_wrong v_isEnd v_found v_reached v_stepIn v_laid v_firstRow v_text v_textLong v_spot v_taken v_counted) H := hP.sub [0, 1, 2, 3, 4, 5, 6, 7, 8, 9, 10, 11, 12, 13, 14, 15, 16] rfl
    have hDc : va_D A (wdM cI cZ h v_all v_past v_states v_refused v_far v_row v_stepAt v_depth v_tries v_values v_wrong v_isEnd v_found v_reached v_stepIn v_laid v_firstRow v_text v_textLong v_spot v_taken v_counted) := hD.sub [0, 1, 2, 3, 4, 5, 6, 7, 8, 9, 10, 11, 12, 13, 14, 15, 16] (by decide) rfl
    refine kd_iW (ws' := wdM cI cZ h v_all v_past v_states q12.2 v_far v_row v_stepAt v_depth v_tries v_values v_wrong v_isEnd v_found v_reached v_stepIn v_laid v_firstRow v_text v_textLong v_spot v_taken v_counted) (va_runV (As := [.int (-2 : Int32)]) (rest := []) ⟨hx, hb, hml, hown, hts⟩ (c9_refuses l D cB cI cZ cO h H.size (-2 : Int32) v_all v_past v_states v_refused v_far v_row v_stepAt v_depth v_tries v_values v_wrong v_isEnd v_found v_reached v_stepIn v_laid v_firstRow v_text v_textLong v_spot v_taken v_counted q12.1 q12.2 hq12) (cwV 1 hts gX9_does_X9_refuses rfl rfl rfl (by decide +kernel) ⟨Nat.le_of_ble_eq_true rfl, Nat.le_of_ble_eq_true rfl⟩) ⟨kb_blind, va_recv hK hPc (ci := 6) (q0 := 0) rfl rfl, kb_pre hPc hDc hK hN⟩ rfl rfl hl.1 rfl (lv_room (Nat.le_of_ble_eq_true rfl)) dX9_does_10 ⟨Nat.le_refl _, Nat.le_refl _⟩) hP hD hS hA [0, 1, 2, 3, 4, 5, 6, 7, 8, 9, 10, 11, 12, 13, 14, 15, 16] [] rfl rfl (fun _ h9 => absurd h9 List.not_mem_nil) rfl rfl (fun H locs hn13 hP hD hS => ?_)
    obtain ⟨z1, y1⟩ := Prod.mk.inj (Option.some.inj hf)
    obtain ⟨z2, y2⟩ := Prod.mk.inj y1
    obtain ⟨z3, y3⟩ := Prod.mk.inj y2
    obtain ⟨z4, y4⟩ := Prod.mk.inj y3
    obtain ⟨z5, y5⟩ := Prod.mk.inj y4
    obtain ⟨z6, y6⟩ := Prod.mk.inj y5
    obtain ⟨z7, y7⟩ := Prod.mk.inj y6
    obtain ⟨z8, y8⟩ := Prod.mk.inj y7
    obtain ⟨z9, y9⟩ := Prod.mk.inj y8
    subst z1 z2 z3 z4 z5 z6 z7 z8 z9 y9
    exact hend _ _ _ _ rfl hP hS dX9_does_13

set_option maxHeartbeats 4000000 in
set_option maxRecDepth 100000 in
theorem c9_again (l : Launch) (D : va_G) (cB cI cZ cO : ClassId) (h : Nat → Nat) (sz : Nat) (v_all : Nat → Int32) (v_past : Nat → Int32) (v_states : Int32) (v_refused : Nat → Int32) (v_far : Nat → Int32) (v_row : Nat → Int32) (v_stepAt : Nat → Int32) (v_depth : Int32) (v_tries : Nat → Int32) (v_values : Nat → Int32) (v_wrong : Int32) (v_isEnd : Nat → Int32) (v_found : Nat → Int32) (v_reached : Nat → Int32) (v_stepIn : Nat → Int32) (v_laid : Nat → Int32) (v_firstRow : Nat → Int32) (v_text : Nat → Int32) (v_textLong : Int32) (v_spot : Int32) (v_taken : Int32) (v_counted : Nat → Int32) (r0 : Int32) (v_all' : Nat → Int32) (v_past' : Nat → Int32) (v_states' : Int32) (hf : f9_again v_all v_past v_states = some (r0, v_all', v_past', v_states')) : Met l yX9_again wsX9_again rm9_again (va_Pc [.ref (h 0)] (kb_B D (ka_tys cB cI cZ cO) sz (wdM cI cZ h v_all v_past v_states v_refused v_far v_row v_stepAt v_depth v_tries v_values v_wrong v_isEnd v_found v_reached v_stepIn v_laid v_firstRow v_text v_textLong v_spot v_taken v_counted))) (va_Qi (kb_post .int r0) (fun _ t => va_P D vwCl (wdM cI cZ h (v_all') (v_past') (v_states') v_refused v_far v_row v_stepAt v_depth v_tries v_values v_wrong v_isEnd v_found v_reached v_stepIn v_laid v_firstRow v_text v_textLong v_spot v_taken v_counted) t.heap) (va_A (wdM cI cZ h v_all v_past v_states v_refused v_far v_row v_stepAt v_depth v_tries v_values v_wrong v_isEnd v_found v_reached v_stepIn v_laid v_firstRow v_text v_textLong v_spot v_taken v_counted) sz)) 0 0 (va_A (wdM cI cZ h v_all v_past v_states v_refused v_far v_row v_stepAt v_depth v_tries v_values v_wrong v_isEnd v_found v_reached v_stepIn v_laid v_firstRow v_text v_textLong v_spot v_taken v_counted) sz) := by
  refine kb_metZ (cc := cX9_again) (maxL := 2) (ty := .int) (by decide) rfl (Nat.le_of_ble_eq_true rfl) ?_
  intro p e s m args below meth c Q A ls H hx hb hml hown hts hK hN hP hD hS hA hl hend
  have hown : s.vm.findClass RX9 = some m.cls := hown
  have hl : lv_has ls 2 [(0, .ref (h 0))] := hl
  have hin9 : ∀ w ∈ u_ws RX9 TX9 22, w ∈ wsX9_again := by decide +kernel
  rw [f9_again] at hf
  refine lv_aload_n hx hb dX9_again_0 rfl (lv_at hl 0 rfl) ?_
  refine kb_bind hf (fun q1 hq1 hf => ?_)
  have hPc : va_P D vwCl (wdM cI cZ h v_all v_past v_states v_refused v_far v_row v_stepAt v_depth v_tries v_values v_wrong v_isEnd v_found v_reached v_stepIn v_laid v_firstRow v_text v_textLong v_spot v_taken v_counted) H := hP.sub [0, 1, 2, 3, 4, 5, 6, 7, 8, 9, 10, 11, 12, 13, 14, 15, 16] rfl
  have hDc : va_D A (wdM cI cZ h v_all v_past v_states v_refused v_far v_row v_stepAt v_depth v_tries v_values v_wrong v_isEnd v_found v_reached v_stepIn v_laid v_firstRow v_text v_textLong v_spot v_taken v_counted) := hD.sub [0, 1, 2, 3, 4, 5, 6, 7, 8, 9, 10, 11, 12, 13, 14, 15, 16] (by decide) rfl
  refine kd_vW (ws' := wdM cI cZ h v_all q1.1 q1.2 v_refused v_far v_row v_stepAt v_depth v_tries v_values v_wrong v_isEnd v_found v_reached v_stepIn v_laid v_firstRow v_text v_textLong v_spot v_taken v_counted) (va_runV (As := []) (rest := []) ⟨hx, hb, hml, hown, hts⟩ (c9_keep l D cB cI cZ cO h H.size v_all v_past v_states v_refused v_far v_row v_stepAt v_depth v_tries v_values v_wrong v_isEnd v_found v_reached v_stepIn v_laid v_firstRow v_text v_textLong v_spot v_taken v_counted q1.1 q1.2 hq1) (cwV 0 hts gX9_again_X9_keep rfl rfl rfl (by decide +kernel) ⟨Nat.le_of_ble_eq_true rfl, Nat.le_of_ble_eq_true rfl⟩) ⟨kb_blind, va_recv hK hPc (ci := 6) (q0 := 0) rfl rfl, kb_pre hPc hDc hK hN⟩ rfl rfl hl.1 rfl (lv_room (Nat.le_of_ble_eq_true rfl)) dX9_again_1 ⟨Nat.le_refl _, Nat.le_refl _⟩) hP hD hS hA [0, 1, 2, 3, 4, 5, 6, 7, 8, 9, 10, 11, 12, 13, 14, 15, 16] [] rfl rfl (fun _ h9 => absurd h9 List.not_mem_nil) rfl rfl (fun H locs hP hD hS => ?_)
  refine lv_aload_n hx hb dX9_again_4 rfl (lv_at hl 0 rfl) ?_
  refine va_get (D := D) (cl := vwCl) (ci := 6) (v := .ref (h 1)) (C := RX9) (T := TX9) (N := 22) hx hb hts hin9 hown hK hP 0 rfl rfl 0 (by decide) (hts (.fieldLink RX9 7 "StepOrdersModel" "all" "[I") (by decide +kernel)) (fun _ h9 => h9) rfl dX9_again_5 ?_
  refine lv_bipush (v := 43) hx hb dX9_again_8 (by decide) ?_
  refine ka_iald (D := D) (cl := vwCl) hx hb hK hP 1 1 (f := v_all) rfl rfl (v := (v_all 43)) (show ¬ (_ ∨ _) from by decide) rfl dX9_again_10 ?_
  refine lv_istore_n (lv' := [(1, .int (v_all 43)), (0, .ref (h 0))]) hx hb dX9_again_11 rfl hl (by decide) rfl (fun ls hl => ?_)
  refine lv_aload_n hx hb dX9_again_12 rfl (lv_at hl 1 rfl) ?_
  refine va_get (D := D) (cl := vwCl) (ci := 6) (v := .ref (h 1)) (C := RX9) (T := TX9) (N := 22) hx hb hts hin9 hown hK hP 0 rfl rfl 0 (by decide) (hts (.fieldLink RX9 7 "StepOrdersModel" "all" "[I") (by decide +kernel)) (fun _ h9 => h9) rfl dX9_again_13 ?_
  refine lv_bipush (v := 43) hx hb dX9_again_16 (by decide) ?_
  refine lv_iconst (v := 0) hx hb dX9_again_18 (by decide) ?_
  refine ka_iast (D := D) (cl := vwCl) hx hb hK hP hD hS 1 1 (f := v_all) (g := (upd v_all 43 (0 : Int32))) rfl rfl (show ¬ (_ ∨ _) from by decide) rfl dX9_again_19 (fun H locs hP hD hS => ?_)
  have hP : va_P D vwCl (wdM cI cZ h (upd v_all 43 (0 : Int32)) q1.1 q1.2 v_refused v_far v_row v_stepAt v_depth v_tries v_values v_wrong v_isEnd v_found v_reached v_stepIn v_laid v_firstRow v_text v_textLong v_spot v_taken v_counted) H := hP
  have hD : va_D A (wdM cI cZ h (upd v_all 43 (0 : Int32)) q1.1 q1.2 v_refused v_far v_row v_stepAt v_depth v_tries v_values v_wrong v_isEnd v_found v_reached v_stepIn v_laid v_firstRow v_text v_textLong v_spot v_taken v_counted) := hD
  refine lv_iload_n hx hb dX9_again_20 rfl (lv_at hl 0 rfl) ?_
  obtain ⟨z1, y1⟩ := Prod.mk.inj (Option.some.inj hf)
  obtain ⟨z2, y2⟩ := Prod.mk.inj y1
  obtain ⟨z3, y3⟩ := Prod.mk.inj y2
  subst z1 z2 z3 y3
  exact hend _ _ _ _ rfl hP hS dX9_again_21

set_option maxHeartbeats 4000000 in
set_option maxRecDepth 100000 in
theorem c9_runOf (l : Launch) (D : va_G) (cB cI cZ cO : ClassId) (h : Nat → Nat) (sz : Nat) (x1 : Int32) (v_all : Nat → Int32) (v_past : Nat → Int32) (v_states : Int32) (v_refused : Nat → Int32) (v_far : Nat → Int32) (v_row : Nat → Int32) (v_stepAt : Nat → Int32) (v_depth : Int32) (v_tries : Nat → Int32) (v_values : Nat → Int32) (v_wrong : Int32) (v_isEnd : Nat → Int32) (v_found : Nat → Int32) (v_reached : Nat → Int32) (v_stepIn : Nat → Int32) (v_laid : Nat → Int32) (v_firstRow : Nat → Int32) (v_text : Nat → Int32) (v_textLong : Int32) (v_spot : Int32) (v_taken : Int32) (v_counted : Nat → Int32) (r0 : Int32) (v_far' : Nat → Int32) (v_depth' : Int32) (v_tries' : Nat → Int32) (v_values' : Nat → Int32) (v_wrong' : Int32) (hf : f9_runOf v_all v_far v_depth v_tries v_values v_wrong x1 = some (r0, v_far', v_depth', v_tries', v_values', v_wrong')) : Met l yX9_runOf wsX9_runOf rm9_runOf (va_Pc [.ref (h 0), .int x1] (kb_B D (ka_tys cB cI cZ cO) sz (wdM cI cZ h v_all v_past v_states v_refused v_far v_row v_stepAt v_depth v_tries v_values v_wrong v_isEnd v_found v_reached v_stepIn v_laid v_firstRow v_text v_textLong v_spot v_taken v_counted))) (va_Qi (kb_post .int r0) (fun _ t => va_P D vwCl (wdM cI cZ h v_all v_past v_states v_refused (v_far') v_row v_stepAt (v_depth') (v_tries') (v_values') (v_wrong') v_isEnd v_found v_reached v_stepIn v_laid v_firstRow v_text v_textLong v_spot v_taken v_counted) t.heap) (va_A (wdM cI cZ h v_all v_past v_states v_refused v_far v_row v_stepAt v_depth v_tries v_values v_wrong v_isEnd v_found v_reached v_stepIn v_laid v_firstRow v_text v_textLong v_spot v_taken v_counted) sz)) 0 0 (va_A (wdM cI cZ h v_all v_past v_states v_refused v_far v_row v_stepAt v_depth v_tries v_values v_wrong v_isEnd v_found v_reached v_stepIn v_laid v_firstRow v_text v_textLong v_spot v_taken v_counted) sz) := by
  refine kb_metZ (cc := cX9_runOf) (maxL := 2) (ty := .int) (by decide) rfl (Nat.le_of_ble_eq_true rfl) ?_
  intro p e s m args below meth c Q A ls H hx hb hml hown hts hK hN hP hD hS hA hl hend
  have hown : s.vm.findClass RX9 = some m.cls := hown
  have hl : lv_has ls 2 [(0, .ref (h 0)), (1, .int x1)] := hl
  have hin9 : ∀ w ∈ u_ws RX9 TX9 22, w ∈ wsX9_runOf := by decide +kernel
  have J76 : ∀ (v_far : Nat → Int32) (v_depth : Int32) (v_tries : Nat → Int32) (v_values : Nat → Int32) (v_wrong : Int32) (s0 : Int32) (s1 : Int32) (H : Heap) (locs : List Loc) (ls : Array Slot), f9_runOf_b76 v_all v_far v_depth v_tries v_values v_wrong s0 s1 = some (r0, v_far', v_depth', v_tries', v_values', v_wrong') → va_P D vwCl (wdM cI cZ h v_all v_past v_states v_refused v_far v_row v_stepAt v_depth v_tries v_values v_wrong v_isEnd v_found v_reached v_stepIn v_laid v_firstRow v_text v_textLong v_spot v_taken v_counted) H → va_D A (wdM cI cZ h v_all v_past v_states v_refused v_far v_row v_stepAt v_depth v_tries v_values v_wrong v_isEnd v_found v_reached v_stepIn v_laid v_firstRow v_text v_textLong v_spot v_taken v_counted) → va_S A s.heap H locs → lv_has ls 2 [] → W p l e rm9_runOf s m args below meth c H locs 0 0 Q (F0 m 76 ls [.int s1, .int s0]) := by
    intro v_far v_depth v_tries v_values v_wrong s0 s1 H locs ls hf hP hD hS hl
    rw [f9_runOf_b76] at hf
    refine lv_ior hx hb dX9_runOf_76 ?_
    obtain ⟨z1, y1⟩ := Prod.mk.inj (Option.some.inj hf)
    obtain ⟨z2, y2⟩ := Prod.mk.inj y1
    obtain ⟨z3, y3⟩ := Prod.mk.inj y2
    obtain ⟨z4, y4⟩ := Prod.mk.inj y3
    obtain ⟨z5, y5⟩ := Prod.mk.inj y4
    subst z1 z2 z3 z4 z5 y5
    exact hend _ _ _ _ rfl hP hS dX9_runOf_77
  have J62 : ∀ (v_far : Nat → Int32) (v_depth : Int32) (v_tries : Nat → Int32) (v_values : Nat → Int32) (v_wrong : Int32) (s0 : Int32) (s1 : Int32) (H : Heap) (locs : List Loc) (ls : Array Slot), f9_runOf_b62 v_all v_far v_depth v_tries v_values v_wrong s0 s1 = some (r0, v_far', v_depth', v_tries', v_values', v_wrong') → va_P D vwCl (wdM cI cZ h v_all v_past v_states v_refused v_far v_row v_stepAt v_depth v_tries v_values v_wrong v_isEnd v_found v_reached v_stepIn v_laid v_firstRow v_text v_textLong v_spot v_taken v_counted) H → va_D A (wdM cI cZ h v_all v_past v_states v_refused v_far v_row v_stepAt v_depth v_tries v_values v_wrong v_isEnd v_found v_reached v_stepIn v_laid v_firstRow v_text v_textLong v_spot v_taken v_counted) → va_S A s.heap H locs → lv_has ls 2 [(0, .ref (h 0))] → W p l e rm9_runOf s m args below meth c H locs 0 0 Q (F0 m 62 ls [.int s1, .int s0]) := by
    intro v_far v_depth v_tries v_values v_wrong s0 s1 H locs ls hf hP hD hS hl
    rw [f9_runOf_b62] at hf
    refine lv_ior hx hb dX9_runOf_62 ?_
    refine lv_aload_n hx hb dX9_runOf_63 rfl (lv_at hl 0 rfl) ?_
    refine lv_iconst (v := 2) hx hb dX9_runOf_64 (by decide) ?_
    refine kb_bind hf (fun q4 hq4 hf => ?_)
    have hPc : va_P D vwCl (wdM cI cZ h v_all v_past v_states v_refused v_far v_row v_stepAt v_depth v_tries v_values v_wrong v_isEnd v_found v_reached v_stepIn v_laid v_firstRow v_text v_textLong v_spot v_taken v_counted) H := hP.sub [0, 1, 2, 3, 4, 5, 6, 7, 8, 9, 10, 11, 12, 13, 14, 15, 16] rfl
    have hDc : va_D A (wdM cI cZ h v_all v_past v_states v_refused v_far v_row v_stepAt v_depth v_tries v_values v_wrong v_isEnd v_found v_reached v_stepIn v_laid v_firstRow v_text v_textLong v_spot v_taken v_counted) := hD.sub [0, 1, 2, 3, 4, 5, 6, 7, 8, 9, 10, 11, 12, 13, 14, 15, 16] (by decide) rfl
    refine kd_iR (va_runV (As := [.int (2 : Int32)]) (rest := [.int (s0 ||| s1)]) ⟨hx, hb, hml, hown, hts⟩ (c9_canDo l D cB cI cZ cO h H.size (2 : Int32) v_all v_past v_states v_refused v_far v_row v_stepAt v_depth v_tries v_values v_wrong v_isEnd v_found v_reached v_stepIn v_laid v_firstRow v_text v_textLong v_spot v_taken v_counted q4 hq4) (cwV 1 hts gX9_runOf_X9_canDo rfl rfl rfl (by decide +kernel) ⟨Nat.le_of_ble_eq_true rfl, Nat.le_of_ble_eq_true rfl⟩) ⟨kb_blind, va_recv hK hPc (ci := 6) (q0 := 0) rfl rfl, kb_pre hPc hDc hK hN⟩ rfl rfl hl.1 rfl (lv_room (Nat.le_of_ble_eq_true rfl)) dX9_runOf_65 ⟨Nat.le_refl _, Nat.le_refl _⟩) hP hD hS hA [0, 1, 2, 3, 4, 5, 6, 7, 8, 9, 10, 11, 12, 13, 14, 15, 16] rfl (fun H locs hn5 hP hS => ?_)
    refine lv_if_eq (tgt := 75) hx hb dX9_runOf_68 (by decide) (fun c6 => ?_) (fun c6 => ?_)
    · rw [if_pos c6] at hf
      refine lv_iconst (v := 0) hx hb dX9_runOf_75 (by decide) ?_
      exact J76 v_far v_depth v_tries v_values v_wrong (s0 ||| s1) (0 : Int32) _ _ _ hf hP hD hS (lv_sub hl [] rfl)
    · rw [if_neg c6] at hf
      refine lv_iconst (v := 4) hx hb dX9_runOf_71 (by decide) ?_
      refine lv_goto (tgt := 76) hx hb dX9_runOf_72 (by decide) ?_
      exact J76 v_far v_depth v_tries v_values v_wrong (s0 ||| s1) (4 : Int32) _ _ _ hf hP hD hS (lv_sub hl [] rfl)
  have J49 : ∀ (v_far : Nat → Int32) (v_depth : Int32) (v_tries : Nat → Int32) (v_values : Nat → Int32) (v_wrong : Int32) (s0 : Int32) (H : Heap) (locs : List Loc) (ls : Array Slot), f9_runOf_b49 v_all v_far v_depth v_tries v_values v_wrong s0 = some (r0, v_far', v_depth', v_tries', v_values', v_wrong') → va_P D vwCl (wdM cI cZ h v_all v_past v_states v_refused v_far v_row v_stepAt v_depth v_tries v_values v_wrong v_isEnd v_found v_reached v_stepIn v_laid v_firstRow v_text v_textLong v_spot v_taken v_counted) H → va_D A (wdM cI cZ h v_all v_past v_states v_refused v_far v_row v_stepAt v_depth v_tries v_values v_wrong v_isEnd v_found v_reached v_stepIn v_laid v_firstRow v_text v_textLong v_spot v_taken v_counted) → va_S A s.heap H locs → lv_has ls 2 [(0, .ref (h 0))] → W p l e rm9_runOf s m args below meth c H locs 0 0 Q (F0 m 49 ls [.int s0]) := by
    intro v_far v_depth v_tries v_values v_wrong s0 H locs ls hf hP hD hS hl
    rw [f9_runOf_b49] at hf
    refine lv_aload_n hx hb dX9_runOf_49 rfl (lv_at hl 0 rfl) ?_
    refine lv_iconst (v := 1) hx hb dX9_runOf_50 (by decide) ?_
    refine kb_bind hf (fun q10 hq10 hf => ?_)
    have hPc : va_P D vwCl (wdM cI cZ h v_all v_past v_states v_refused v_far v_row v_stepAt v_depth v_tries v_values v_wrong v_isEnd v_found v_reached v_stepIn v_laid v_firstRow v_text v_textLong v_spot v_taken v_counted) H := hP.sub [0, 1, 2, 3, 4, 5, 6, 7, 8, 9, 10, 11, 12, 13, 14, 15, 16] rfl
    have hDc : va_D A (wdM cI cZ h v_all v_past v_states v_refused v_far v_row v_stepAt v_depth v_tries v_values v_wrong v_isEnd v_found v_reached v_stepIn v_laid v_firstRow v_text v_textLong v_spot v_taken v_counted) := hD.sub [0, 1, 2, 3, 4, 5, 6, 7, 8, 9, 10, 11, 12, 13, 14, 15, 16] (by decide) rfl
    refine kd_iR (va_runV (As := [.int (1 : Int32)]) (rest := [.int s0]) ⟨hx, hb, hml, hown, hts⟩ (c9_canDo l D cB cI cZ cO h H.size (1 : Int32) v_all v_past v_states v_refused v_far v_row v_stepAt v_depth v_tries v_values v_wrong v_isEnd v_found v_reached v_stepIn v_laid v_firstRow v_text v_textLong v_spot v_taken v_counted q10 hq10) (cwV 1 hts gX9_runOf_X9_canDo rfl rfl rfl (by decide +kernel) ⟨Nat.le_of_ble_eq_true rfl, Nat.le_of_ble_eq_true rfl⟩) ⟨kb_blind, va_recv hK hPc (ci := 6) (q0 := 0) rfl rfl, kb_pre hPc hDc hK hN⟩ rfl rfl hl.1 rfl (lv_room (Nat.le_of_ble_eq_true rfl)) dX9_runOf_51 ⟨Nat.le_refl _, Nat.le_refl _⟩) hP hD hS hA [0, 1, 2, 3, 4, 5, 6, 7, 8, 9, 10, 11, 12, 13, 14, 15, 16] rfl (fun H locs hn11 hP hS => ?_)
    refine lv_if_eq (tgt := 61) hx hb dX9_runOf_54 (by decide) (fun c12 => ?_) (fun c12 => ?_)
    · rw [if_pos c12] at hf
      refine lv_iconst (v := 0) hx hb dX9_runOf_61 (by decide) ?_
      exact J62 v_far v_depth v_tries v_values v_wrong s0 (0 : Int32) _ _ _ hf hP hD hS (lv_sub hl [0] rfl)
    · rw [if_neg c12] at hf
      refine lv_iconst (v := 2) hx hb dX9_runOf_57 (by decide) ?_
      refine lv_goto (tgt := 62) hx hb dX9_runOf_58 (by decide) ?_
      exact J62 v_far v_depth v_tries v_values v_wrong s0 (2 : Int32) _ _ _ hf hP hD hS (lv_sub hl [0] rfl)
  rw [f9_runOf] at hf
  refine lv_aload_n hx hb dX9_runOf_0 rfl (lv_at hl 0 rfl) ?_
  refine kb_bind hf (fun q13 hq13 hf => ?_)
  have hPc : va_P D vwCl (wdM cI cZ h v_all v_past v_states v_refused v_far v_row v_stepAt v_depth v_tries v_values v_wrong v_isEnd v_found v_reached v_stepIn v_laid v_firstRow v_text v_textLong v_spot v_taken v_counted) H := hP.sub [0, 1, 2, 3, 4, 5, 6, 7, 8, 9, 10, 11, 12, 13, 14, 15, 16] rfl
  have hDc : va_D A (wdM cI cZ h v_all v_past v_states v_refused v_far v_row v_stepAt v_depth v_tries v_values v_wrong v_isEnd v_found v_reached v_stepIn v_laid v_firstRow v_text v_textLong v_spot v_taken v_counted) := hD.sub [0, 1, 2, 3, 4, 5, 6, 7, 8, 9, 10, 11, 12, 13, 14, 15, 16] (by decide) rfl
  refine kd_vW (ws' := wdM cI cZ h v_all v_past v_states v_refused q13.1 v_row v_stepAt q13.2.1 q13.2.2.1 q13.2.2.2.1 q13.2.2.2.2 v_isEnd v_found v_reached v_stepIn v_laid v_firstRow v_text v_textLong v_spot v_taken v_counted) (va_runV (As := []) (rest := []) ⟨hx, hb, hml, hown, hts⟩ (c9_goesRun l D cB cI cZ cO h H.size v_all v_past v_states v_refused v_far v_row v_stepAt v_depth v_tries v_values v_wrong v_isEnd v_found v_reached v_stepIn v_laid v_firstRow v_text v_textLong v_spot v_taken v_counted q13.1 q13.2.1 q13.2.2.1 q13.2.2.2.1 q13.2.2.2.2 hq13) (cwV 0 hts gX9_runOf_X9_goesRun rfl rfl rfl (by decide +kernel) ⟨Nat.le_of_ble_eq_true rfl, Nat.le_of_ble_eq_true rfl⟩) ⟨kb_blind, va_recv hK hPc (ci := 6) (q0 := 0) rfl rfl, kb_pre hPc hDc hK hN⟩ rfl rfl hl.1 rfl (lv_room (Nat.le_of_ble_eq_true rfl)) dX9_runOf_1 ⟨Nat.le_refl _, Nat.le_refl _⟩) hP hD hS hA [0, 1, 2, 3, 4, 5, 6, 7, 8, 9, 10, 11, 12, 13, 14, 15, 16] [] rfl rfl (fun _ h9 => absurd h9 List.not_mem_nil) rfl rfl (fun H locs hP hD hS => ?_)
  refine lv_iload_n hx hb dX9_runOf_4 rfl (lv_at hl 1 rfl) ?_
  by_cases c14_0 : x1 = 0
  · rw [if_pos c14_0] at hf
    refine lv_tableIn (tgt := 36) (off := 31) hx hb dX9_runOf_5 (by rw [c14_0]; decide) (by rw [c14_0]; decide) (by rw [c14_0]; rfl) (by decide) ?_
    refine lv_aload_n hx hb dX9_runOf_36 rfl (lv_at hl 0 rfl) ?_
    refine lv_iconst (v := 0) hx hb dX9_runOf_37 (by decide) ?_
    refine kb_bind hf (fun q15 hq15 hf => ?_)
    have hPc : va_P D vwCl (wdM cI cZ h v_all v_past v_states v_refused q13.1 v_row v_stepAt q13.2.1 q13.2.2.1 q13.2.2.2.1 q13.2.2.2.2 v_isEnd v_found v_reached v_stepIn v_laid v_firstRow v_text v_textLong v_spot v_taken v_counted) H := hP.sub [0, 1, 2, 3, 4, 5, 6, 7, 8, 9, 10, 11, 12, 13, 14, 15, 16] rfl
    have hDc : va_D A (wdM cI cZ h v_all v_past v_states v_refused q13.1 v_row v_stepAt q13.2.1 q13.2.2.1 q13.2.2.2.1 q13.2.2.2.2 v_isEnd v_found v_reached v_stepIn v_laid v_firstRow v_text v_textLong v_spot v_taken v_counted) := hD.sub [0, 1, 2, 3, 4, 5, 6, 7, 8, 9, 10, 11, 12, 13, 14, 15, 16] (by decide) rfl
    refine kd_iR (va_runV (As := [.int (0 : Int32)]) (rest := []) ⟨hx, hb, hml, hown, hts⟩ (c9_canDo l D cB cI cZ cO h H.size (0 : Int32) v_all v_past v_states v_refused q13.1 v_row v_stepAt q13.2.1 q13.2.2.1 q13.2.2.2.1 q13.2.2.2.2 v_isEnd v_found v_reached v_stepIn v_laid v_firstRow v_text v_textLong v_spot v_taken v_counted q15 hq15) (cwV 1 hts gX9_runOf_X9_canDo rfl rfl rfl (by decide +kernel) ⟨Nat.le_of_ble_eq_true rfl, Nat.le_of_ble_eq_true rfl⟩) ⟨kb_blind, va_recv hK hPc (ci := 6) (q0 := 0) rfl rfl, kb_pre hPc hDc hK hN⟩ rfl rfl hl.1 rfl (lv_room (Nat.le_of_ble_eq_true rfl)) dX9_runOf_38 ⟨Nat.le_refl _, Nat.le_refl _⟩) hP hD hS hA [0, 1, 2, 3, 4, 5, 6, 7, 8, 9, 10, 11, 12, 13, 14, 15, 16] rfl (fun H locs hn16 hP hS => ?_)
    refine lv_if_eq (tgt := 48) hx hb dX9_runOf_41 (by decide) (fun c17 => ?_) (fun c17 => ?_)
    · rw [if_pos c17] at hf
      refine lv_iconst (v := 0) hx hb dX9_runOf_48 (by decide) ?_
      exact J49 q13.1 q13.2.1 q13.2.2.1 q13.2.2.2.1 q13.2.2.2.2 (0 : Int32) _ _ _ hf hP hD hS (lv_sub hl [0] rfl)
    · rw [if_neg c17] at hf
      refine lv_iconst (v := 1) hx hb dX9_runOf_44 (by decide) ?_
      refine lv_goto (tgt := 49) hx hb dX9_runOf_45 (by decide) ?_
      exact J49 q13.1 q13.2.1 q13.2.2.1 q13.2.2.2.1 q13.2.2.2.2 (1 : Int32) _ _ _ hf hP hD hS (lv_sub hl [0] rfl)
  rw [if_neg c14_0] at hf
  by_cases c14_1 : x1 = 1
  · rw [if_pos c14_1] at hf
    refine lv_tableIn (tgt := 78) (off := 73) hx hb dX9_runOf_5 (by rw [c14_1]; decide) (by rw [c14_1]; decide) (by rw [c14_1]; rfl) (by decide) ?_
    refine lv_aload_n hx hb dX9_runOf_78 rfl (lv_at hl 0 rfl) ?_
    refine va_get (D := D) (cl := vwCl) (ci := 6) (v := .ref (h 1)) (C := RX9) (T := TX9) (N := 22) hx hb hts hin9 hown hK hP 0 rfl rfl 0 (by decide) (hts (.fieldLink RX9 7 "StepOrdersModel" "all" "[I") (by decide +kernel)) (fun _ h9 => h9) rfl dX9_runOf_79 ?_
    refine lv_bipush (v := 43) hx hb dX9_runOf_82 (by decide) ?_
    refine ka_iald (D := D) (cl := vwCl) hx hb hK hP 1 1 (f := v_all) rfl rfl (v := (v_all 43)) (show ¬ (_ ∨ _) from by decide) rfl dX9_runOf_84 ?_
    obtain ⟨z1, y1⟩ := Prod.mk.inj (Option.some.inj hf)
    obtain ⟨z2, y2⟩ := Prod.mk.inj y1
    obtain ⟨z3, y3⟩ := Prod.mk.inj y2
    obtain ⟨z4, y4⟩ := Prod.mk.inj y3
    obtain ⟨z5, y5⟩ := Prod.mk.inj y4
    subst z1 z2 z3 z4 z5 y5
    exact hend _ _ _ _ rfl hP hS dX9_runOf_85
  rw [if_neg c14_1] at hf
  by_cases c14_2 : x1 = 2
  · rw [if_pos c14_2] at hf
    refine lv_tableIn (tgt := 86) (off := 81) hx hb dX9_runOf_5 (by rw [c14_2]; decide) (by rw [c14_2]; decide) (by rw [c14_2]; rfl) (by decide) ?_
    refine lv_aload_n hx hb dX9_runOf_86 rfl (lv_at hl 0 rfl) ?_
    refine va_get (D := D) (cl := vwCl) (ci := 6) (v := .int q13.2.2.2.2) (C := RX9) (T := TX9) (N := 22) hx hb hts hin9 hown hK hP 0 rfl rfl 10 (by decide) (hts (.fieldLink RX9 140 "StepOrdersModel" "wrong" "I") (by decide +kernel)) (fun _ h9 => h9) rfl dX9_runOf_87 ?_
    obtain ⟨z1, y1⟩ := Prod.mk.inj (Option.some.inj hf)
    obtain ⟨z2, y2⟩ := Prod.mk.inj y1
    obtain ⟨z3, y3⟩ := Prod.mk.inj y2
    obtain ⟨z4, y4⟩ := Prod.mk.inj y3
    obtain ⟨z5, y5⟩ := Prod.mk.inj y4
    subst z1 z2 z3 z4 z5 y5
    exact hend _ _ _ _ rfl hP hS dX9_runOf_90
  rw [if_neg c14_2] at hf
  by_cases c14_3 : x1 = 3
  · rw [if_pos c14_3] at hf
    refine lv_tableIn (tgt := 91) (off := 86) hx hb dX9_runOf_5 (by rw [c14_3]; decide) (by rw [c14_3]; decide) (by rw [c14_3]; rfl) (by decide) ?_
    refine lv_aload_n hx hb dX9_runOf_91 rfl (lv_at hl 0 rfl) ?_
    refine lv_aload_n hx hb dX9_runOf_92 rfl (lv_at hl 0 rfl) ?_
    refine va_get (D := D) (cl := vwCl) (ci := 6) (v := .ref (h 8)) (C := RX9) (T := TX9) (N := 22) hx hb hts hin9 hown hK hP 0 rfl rfl 9 (by decide) (hts (.fieldLink RX9 31 "StepOrdersModel" "values" "[I") (by decide +kernel)) (fun _ h9 => h9) rfl dX9_runOf_93 ?_
    refine lv_iconst (v := 0) hx hb dX9_runOf_96 (by decide) ?_
    refine ka_iald (D := D) (cl := vwCl) hx hb hK hP 8 1 (f := q13.2.2.2.1) rfl rfl (v := (q13.2.2.2.1 0)) (show ¬ (_ ∨ _) from by decide) rfl dX9_runOf_97 ?_
    refine lv_aload_n hx hb dX9_runOf_98 rfl (lv_at hl 0 rfl) ?_
    refine va_get (D := D) (cl := vwCl) (ci := 6) (v := .ref (h 8)) (C := RX9) (T := TX9) (N := 22) hx hb hts hin9 hown hK hP 0 rfl rfl 9 (by decide) (hts (.fieldLink RX9 31 "StepOrdersModel" "values" "[I") (by decide +kernel)) (fun _ h9 => h9) rfl dX9_runOf_99 ?_
    refine lv_iconst (v := 1) hx hb dX9_runOf_102 (by decide) ?_
    refine ka_iald (D := D) (cl := vwCl) hx hb hK hP 8 1 (f := q13.2.2.2.1) rfl rfl (v := (q13.2.2.2.1 1)) (show ¬ (_ ∨ _) from by decide) rfl dX9_runOf_103 ?_
    refine lv_aload_n hx hb dX9_runOf_104 rfl (lv_at hl 0 rfl) ?_
    refine va_get (D := D) (cl := vwCl) (ci := 6) (v := .ref (h 8)) (C := RX9) (T := TX9) (N := 22) hx hb hts hin9 hown hK hP 0 rfl rfl 9 (by decide) (hts (.fieldLink RX9 31 "StepOrdersModel" "values" "[I") (by decide +kernel)) (fun _ h9 => h9) rfl dX9_runOf_105 ?_
    refine lv_iconst (v := 2) hx hb dX9_runOf_108 (by decide) ?_
    refine ka_iald (D := D) (cl := vwCl) hx hb hK hP 8 1 (f := q13.2.2.2.1) rfl rfl (v := (q13.2.2.2.1 2)) (show ¬ (_ ∨ _) from by decide) rfl dX9_runOf_109 ?_
    refine lv_aload_n hx hb dX9_runOf_110 rfl (lv_at hl 0 rfl) ?_
    refine va_get (D := D) (cl := vwCl) (ci := 6) (v := .ref (h 8)) (C := RX9) (T := TX9) (N := 22) hx hb hts hin9 hown hK hP 0 rfl rfl 9 (by decide) (hts (.fieldLink RX9 31 "StepOrdersModel" "values" "[I") (by decide +kernel)) (fun _ h9 => h9) rfl dX9_runOf_111 ?_
    refine lv_iconst (v := 3) hx hb dX9_runOf_114 (by decide) ?_
    refine ka_iald (D := D) (cl := vwCl) hx hb hK hP 8 1 (f := q13.2.2.2.1) rfl rfl (v := (q13.2.2.2.1 3)) (show ¬ (_ ∨ _) from by decide) rfl dX9_runOf_115 ?_
    have hPc : va_P D vwCl (wdM cI cZ h v_all v_past v_states v_refused q13.1 v_row v_stepAt q13.2.1 q13.2.2.1 q13.2.2.2.1 q13.2.2.2.2 v_isEnd v_found v_reached v_stepIn v_laid v_firstRow v_text v_textLong v_spot v_taken v_counted) H := hP.sub [0, 1, 2, 3, 4, 5, 6, 7, 8, 9, 10, 11, 12, 13, 14, 15, 16] rfl
    have hDc : va_D A (wdM cI cZ h v_all v_past v_states v_refused q13.1 v_row v_stepAt q13.2.1 q13.2.2.1 q13.2.2.2.1 q13.2.2.2.2 v_isEnd v_found v_reached v_stepIn v_laid v_firstRow v_text v_textLong v_spot v_taken v_counted) := hD.sub [0, 1, 2, 3, 4, 5, 6, 7, 8, 9, 10, 11, 12, 13, 14, 15, 16] (by decide) rfl
    refine kd_iR (va_runV (As := [.int (q13.2.2.2.1 0), .int (q13.2.2.2.1 1), .int (q13.2.2.2.1 2), .int (q13.2.2.2.1 3)]) (rest := []) ⟨hx, hb, hml, hown, hts⟩ (c9_told4 l D cB cI cZ cO h H.size (q13.2.2.2.1 0) (q13.2.2.2.1 1) (q13.2.2.2.1 2) (q13.2.2.2.1 3) v_all v_past v_states v_refused q13.1 v_row v_stepAt q13.2.1 q13.2.2.1 q13.2.2.2.1 q13.2.2.2.2 v_isEnd v_found v_reached v_stepIn v_laid v_firstRow v_text v_textLong v_spot v_taken v_counted (f9_told4 (q13.2.2.2.1 0) (q13.2.2.2.1 1) (q13.2.2.2.1 2) (q13.2.2.2.1 3)) rfl) (cwV 4 hts gX9_runOf_X9_told4 rfl rfl rfl (by decide +kernel) ⟨Nat.le_of_ble_eq_true rfl, Nat.le_of_ble_eq_true rfl⟩) ⟨kb_blind, va_recv hK hPc (ci := 6) (q0 := 0) rfl rfl, kb_pre hPc hDc hK hN⟩ rfl rfl hl.1 rfl (lv_room (Nat.le_of_ble_eq_true rfl)) dX9_runOf_116 ⟨Nat.le_refl _, Nat.le_refl _⟩) hP hD hS hA [0, 1, 2, 3, 4, 5, 6, 7, 8, 9, 10, 11, 12, 13, 14, 15, 16] rfl (fun H locs hn18 hP hS => ?_)
    obtain ⟨z1, y1⟩ := Prod.mk.inj (Option.some.inj hf)
    obtain ⟨z2, y2⟩ := Prod.mk.inj y1
    obtain ⟨z3, y3⟩ := Prod.mk.inj y2
    obtain ⟨z4, y4⟩ := Prod.mk.inj y3
    obtain ⟨z5, y5⟩ := Prod.mk.inj y4
    subst z1 z2 z3 z4 z5 y5
    exact hend _ _ _ _ rfl hP hS dX9_runOf_119
  rw [if_neg c14_3] at hf
  refine lv_tableOut (tgt := 120) hx hb dX9_runOf_5 (by have e0 := lv_neT c14_0 (a := 0) rfl; have e1 := lv_neT c14_1 (a := 1) rfl; have e2 := lv_neT c14_2 (a := 2) rfl; have e3 := lv_neT c14_3 (a := 3) rfl; omega) (by decide) ?_
  refine lv_aload_n hx hb dX9_runOf_120 rfl (lv_at hl 0 rfl) ?_
  refine lv_iload_n hx hb dX9_runOf_121 rfl (lv_at hl 1 rfl) ?_
  refine lv_iconst (v := 4) hx hb dX9_runOf_122 (by decide) ?_
  refine lv_isub hx hb dX9_runOf_123 ?_
  refine kb_bind hf (fun q19 hq19 hf => ?_)
  have hPc : va_P D vwCl (wdM cI cZ h v_all v_past v_states v_refused q13.1 v_row v_stepAt q13.2.1 q13.2.2.1 q13.2.2.2.1 q13.2.2.2.2 v_isEnd v_found v_reached v_stepIn v_laid v_firstRow v_text v_textLong v_spot v_taken v_counted) H := hP.sub [0, 1, 2, 3, 4, 5, 6, 7, 8, 9, 10, 11, 12, 13, 14, 15, 16] rfl
  have hDc : va_D A (wdM cI cZ h v_all v_past v_states v_refused q13.1 v_row v_stepAt q13.2.1 q13.2.2.1 q13.2.2.2.1 q13.2.2.2.2 v_isEnd v_found v_reached v_stepIn v_laid v_firstRow v_text v_textLong v_spot v_taken v_counted) := hD.sub [0, 1, 2, 3, 4, 5, 6, 7, 8, 9, 10, 11, 12, 13, 14, 15, 16] (by decide) rfl
  refine kd_iR (va_runV (As := [.int (x1 - (4 : Int32))]) (rest := []) ⟨hx, hb, hml, hown, hts⟩ (c9_holder l D cB cI cZ cO h H.size (x1 - (4 : Int32)) v_all v_past v_states v_refused q13.1 v_row v_stepAt q13.2.1 q13.2.2.1 q13.2.2.2.1 q13.2.2.2.2 v_isEnd v_found v_reached v_stepIn v_laid v_firstRow v_text v_textLong v_spot v_taken v_counted q19 hq19) (cwV 1 hts gX9_runOf_X9_holder rfl rfl rfl (by decide +kernel) ⟨Nat.le_of_ble_eq_true rfl, Nat.le_of_ble_eq_true rfl⟩) ⟨kb_blind, va_recv hK hPc (ci := 6) (q0 := 0) rfl rfl, kb_pre hPc hDc hK hN⟩ rfl rfl hl.1 rfl (lv_room (Nat.le_of_ble_eq_true rfl)) dX9_runOf_124 ⟨Nat.le_refl _, Nat.le_refl _⟩) hP hD hS hA [0, 1, 2, 3, 4, 5, 6, 7, 8, 9, 10, 11, 12, 13, 14, 15, 16] rfl (fun H locs hn20 hP hS => ?_)
  obtain ⟨z1, y1⟩ := Prod.mk.inj (Option.some.inj hf)
  obtain ⟨z2, y2⟩ := Prod.mk.inj y1
  obtain ⟨z3, y3⟩ := Prod.mk.inj y2
  obtain ⟨z4, y4⟩ := Prod.mk.inj y3
  obtain ⟨z5, y5⟩ := Prod.mk.inj y4
  subst z1 z2 z3 z4 z5 y5
  exact hend _ _ _ _ rfl hP hS dX9_runOf_127

set_option maxHeartbeats 4000000 in
set_option maxRecDepth 100000 in
theorem c9_run (l : Launch) (D : va_G) (cB cI cZ cO : ClassId) (h : Nat → Nat) (sz : Nat) (x1 : Int32) (v_all : Nat → Int32) (v_past : Nat → Int32) (v_states : Int32) (v_refused : Nat → Int32) (v_far : Nat → Int32) (v_row : Nat → Int32) (v_stepAt : Nat → Int32) (v_depth : Int32) (v_tries : Nat → Int32) (v_values : Nat → Int32) (v_wrong : Int32) (v_isEnd : Nat → Int32) (v_found : Nat → Int32) (v_reached : Nat → Int32) (v_stepIn : Nat → Int32) (v_laid : Nat → Int32) (v_firstRow : Nat → Int32) (v_text : Nat → Int32) (v_textLong : Int32) (v_spot : Int32) (v_taken : Int32) (v_counted : Nat → Int32) (r0 : Int32) (v_refused' : Nat → Int32) (v_far' : Nat → Int32) (v_depth' : Int32) (v_tries' : Nat → Int32) (v_values' : Nat → Int32) (v_wrong' : Int32) (hf : f9_run v_all v_refused v_far v_depth v_tries v_values v_wrong x1 = some (r0, v_refused', v_far', v_depth', v_tries', v_values', v_wrong')) : Met l yX9_run wsX9_run rm9_run (va_Pc [.ref (h 0), .int x1] (kb_B D (ka_tys cB cI cZ cO) sz (wdM cI cZ h v_all v_past v_states v_refused v_far v_row v_stepAt v_depth v_tries v_values v_wrong v_isEnd v_found v_reached v_stepIn v_laid v_firstRow v_text v_textLong v_spot v_taken v_counted))) (va_Qi (kb_post .int r0) (fun _ t => va_P D vwCl (wdM cI cZ h v_all v_past v_states (v_refused') (v_far') v_row v_stepAt (v_depth') (v_tries') (v_values') (v_wrong') v_isEnd v_found v_reached v_stepIn v_laid v_firstRow v_text v_textLong v_spot v_taken v_counted) t.heap) (va_A (wdM cI cZ h v_all v_past v_states v_refused v_far v_row v_stepAt v_depth v_tries v_values v_wrong v_isEnd v_found v_reached v_stepIn v_laid v_firstRow v_text v_textLong v_spot v_taken v_counted) sz)) 0 0 (va_A (wdM cI cZ h v_all v_past v_states v_refused v_far v_row v_stepAt v_depth v_tries v_values v_wrong v_isEnd v_found v_reached v_stepIn v_laid v_firstRow v_text v_textLong v_spot v_taken v_counted) sz) := by
  refine kb_metZ (cc := cX9_run) (maxL := 2) (ty := .int) (by decide) rfl (Nat.le_of_ble_eq_true rfl) ?_
  intro p e s m args below meth c Q A ls H hx hb hml hown hts hK hN hP hD hS hA hl hend
  have hown : s.vm.findClass RX9 = some m.cls := hown
  have hl : lv_has ls 2 [(0, .ref (h 0)), (1, .int x1)] := hl
  rw [f9_run] at hf
  refine lv_iload_n hx hb dX9_run_0 rfl (lv_at hl 1 rfl) ?_
  refine lv_i2l (v := x1.toInt64) hx hb dX9_run_1 rfl ?_
  refine lv_lconst (v := 0) hx hb dX9_run_2 (by decide) ?_
  refine lv_ldc2 (v := 5) hx hb hown (hts (.constantLong RX9 63 (5)) (by decide +kernel)) dX9_run_3 ?_
  have hPc : va_P D vwCl ([]) H := hP.sub [] rfl
  have hDc : va_D A ([]) := hD.sub [] (by decide) rfl
  refine kd_iR (va_runS (As := [.long x1.toInt64, .long (0 : Int64), .long (5 : Int64)]) (rest := []) ⟨hx, hb, hml, hown, hts⟩ (c9_in l D cB cI cZ cO h H.size x1.toInt64 (0 : Int64) (5 : Int64) (f9_in x1.toInt64 (0 : Int64) (5 : Int64)) rfl) (va_cwS 3 hts gX9_run_X9_in rfl rfl rfl (by decide +kernel) ⟨Nat.le_of_ble_eq_true rfl, Nat.le_of_ble_eq_true rfl⟩) ⟨kb_blind, kb_pre hPc hDc hK hN⟩ rfl rfl hl.1 rfl (lv_room (Nat.le_of_ble_eq_true rfl)) dX9_run_6 ⟨Nat.le_refl _, Nat.le_refl _⟩) hP hD hS hA [] rfl (fun H locs hn1 hP hS => ?_)
  refine lv_if_eq (tgt := 20) hx hb dX9_run_9 (by decide) (fun c2 => ?_) (fun c2 => ?_)
  · rw [if_pos c2] at hf
    refine lv_aload_n hx hb dX9_run_20 rfl (lv_at hl 0 rfl) ?_
    refine lv_bipush (v := (-2)) hx hb dX9_run_21 (by decide) ?_
    refine kb_bind hf (fun q3 hq3 hf => ?_)
    have hPc : va_P D vwCl (wdM cI cZ h v_all v_past v_states v_refused v_far v_row v_stepAt v_depth v_tries v_values v_wrong v_isEnd v_found v_reached v_stepIn v_laid v_firstRow v_text v_textLong v_spot v_taken v_counted) H := hP.sub [0, 1, 2, 3, 4, 5, 6, 7, 8, 9, 10, 11, 12, 13, 14, 15, 16] rfl
    have hDc : va_D A (wdM cI cZ h v_all v_past v_states v_refused v_far v_row v_stepAt v_depth v_tries v_values v_wrong v_isEnd v_found v_reached v_stepIn v_laid v_firstRow v_text v_textLong v_spot v_taken v_counted) := hD.sub [0, 1, 2, 3, 4, 5, 6, 7, 8, 9, 10, 11, 12, 13, 14, 15, 16] (by decide) rfl
    refine kd_iW (ws' := wdM cI cZ h v_all v_past v_states q3.2 v_far v_row v_stepAt v_depth v_tries v_values v_wrong v_isEnd v_found v_reached v_stepIn v_laid v_firstRow v_text v_textLong v_spot v_taken v_counted) (va_runV (As := [.int (-2 : Int32)]) (rest := []) ⟨hx, hb, hml, hown, hts⟩ (c9_refuses l D cB cI cZ cO h H.size (-2 : Int32) v_all v_past v_states v_refused v_far v_row v_stepAt v_depth v_tries v_values v_wrong v_isEnd v_found v_reached v_stepIn v_laid v_firstRow v_text v_textLong v_spot v_taken v_counted q3.1 q3.2 hq3) (cwV 1 hts gX9_run_X9_refuses rfl rfl rfl (by decide +kernel) ⟨Nat.le_of_ble_eq_true rfl, Nat.le_of_ble_eq_true rfl⟩) ⟨kb_blind, va_recv hK hPc (ci := 6) (q0 := 0) rfl rfl, kb_pre hPc hDc hK hN⟩ rfl rfl hl.1 rfl (lv_room (Nat.le_of_ble_eq_true rfl)) dX9_run_23 ⟨Nat.le_refl _, Nat.le_refl _⟩) hP hD hS hA [0, 1, 2, 3, 4, 5, 6, 7, 8, 9, 10, 11, 12, 13, 14, 15, 16] [] rfl rfl (fun _ h9 => absurd h9 List.not_mem_nil) rfl rfl (fun H locs hn4 hP hD hS => ?_)
    obtain ⟨z1, y1⟩ := Prod.mk.inj (Option.some.inj hf)
    obtain ⟨z2, y2⟩ := Prod.mk.inj y1
    obtain ⟨z3, y3⟩ := Prod.mk.inj y2
    obtain ⟨z4, y4⟩ := Prod.mk.inj y3
    obtain ⟨z5, y5⟩ := Prod.mk.inj y4
    obtain ⟨z6, y6⟩ := Prod.mk.inj y5
    subst z1 z2 z3 z4 z5 z6 y6
    exact hend _ _ _ _ rfl hP hS dX9_run_26
  · rw [if_neg c2] at hf
    refine lv_aload_n hx hb dX9_run_12 rfl (lv_at hl 0 rfl) ?_
    refine lv_iload_n hx hb dX9_run_13 rfl (lv_at hl 1 rfl) ?_
    refine kb_bind hf (fun q5 hq5 hf => ?_)
    have hPc : va_P D vwCl (wdM cI cZ h v_all v_past v_states v_refused v_far v_row v_stepAt v_depth v_tries v_values v_wrong v_isEnd v_found v_reached v_stepIn v_laid v_firstRow v_text v_textLong v_spot v_taken v_counted) H := hP.sub [0, 1, 2, 3, 4, 5, 6, 7, 8, 9, 10, 11, 12, 13, 14, 15, 16] rfl
    have hDc : va_D A (wdM cI cZ h v_all v_past v_states v_refused v_far v_row v_stepAt v_depth v_tries v_values v_wrong v_isEnd v_found v_reached v_stepIn v_laid v_firstRow v_text v_textLong v_spot v_taken v_counted) := hD.sub [0, 1, 2, 3, 4, 5, 6, 7, 8, 9, 10, 11, 12, 13, 14, 15, 16] (by decide) rfl
    refine kd_iW (ws' := wdM cI cZ h v_all v_past v_states v_refused q5.2.1 v_row v_stepAt q5.2.2.1 q5.2.2.2.1 q5.2.2.2.2.1 q5.2.2.2.2.2 v_isEnd v_found v_reached v_stepIn v_laid v_firstRow v_text v_textLong v_spot v_taken v_counted) (va_runV (As := [.int x1]) (rest := []) ⟨hx, hb, hml, hown, hts⟩ (c9_runOf l D cB cI cZ cO h H.size x1 v_all v_past v_states v_refused v_far v_row v_stepAt v_depth v_tries v_values v_wrong v_isEnd v_found v_reached v_stepIn v_laid v_firstRow v_text v_textLong v_spot v_taken v_counted q5.1 q5.2.1 q5.2.2.1 q5.2.2.2.1 q5.2.2.2.2.1 q5.2.2.2.2.2 hq5) (cwV 1 hts gX9_run_X9_runOf rfl rfl rfl (by decide +kernel) ⟨Nat.le_of_ble_eq_true rfl, Nat.le_of_ble_eq_true rfl⟩) ⟨kb_blind, va_recv hK hPc (ci := 6) (q0 := 0) rfl rfl, kb_pre hPc hDc hK hN⟩ rfl rfl hl.1 rfl (lv_room (Nat.le_of_ble_eq_true rfl)) dX9_run_14 ⟨Nat.le_refl _, Nat.le_refl _⟩) hP hD hS hA [0, 1, 2, 3, 4, 5, 6, 7, 8, 9, 10, 11, 12, 13, 14, 15, 16] [] rfl rfl (fun _ h9 => absurd h9 List.not_mem_nil) rfl rfl (fun H locs hn6 hP hD hS => ?_)
    refine lv_goto (tgt := 26) hx hb dX9_run_17 (by decide) ?_
    obtain ⟨z1, y1⟩ := Prod.mk.inj (Option.some.inj hf)
    obtain ⟨z2, y2⟩ := Prod.mk.inj y1
    obtain ⟨z3, y3⟩ := Prod.mk.inj y2
    obtain ⟨z4, y4⟩ := Prod.mk.inj y3
    obtain ⟨z5, y5⟩ := Prod.mk.inj y4
    obtain ⟨z6, y6⟩ := Prod.mk.inj y5
    subst z1 z2 z3 z4 z5 z6 y6
    exact hend _ _ _ _ rfl hP hS dX9_run_26
