set_option maxHeartbeats 4000000 in
set_option maxRecDepth 100000 in
theorem c9_areDependent (l : Launch) (D : va_G) (cB cI cZ cO : ClassId) (h : Nat → Nat) (sz : Nat) (x1 : Int32) (x2 : Int32) (x3 : Int32) (x4 : Int32) (v_all : Nat → Int32) (v_past : Nat → Int32) (v_states : Int32) (v_refused : Nat → Int32) (v_far : Nat → Int32) (v_row : Nat → Int32) (v_stepAt : Nat → Int32) (v_depth : Int32) (v_tries : Nat → Int32) (v_values : Nat → Int32) (v_wrong : Int32) (v_isEnd : Nat → Int32) (v_found : Nat → Int32) (v_reached : Nat → Int32) (v_stepIn : Nat → Int32) (v_laid : Nat → Int32) (v_firstRow : Nat → Int32) (v_text : Nat → Int32) (v_textLong : Int32) (v_spot : Int32) (v_taken : Int32) (v_counted : Nat → Int32) (r0 : Int32) (hf : f9_areDependent v_all x1 x2 x3 x4 = some r0) : Met l yX9_areDependent wsX9_areDependent rm9_areDependent (va_Pc [.ref (h 0), .int x1, .int x2, .int x3, .int x4] (kb_B D (ka_tys cB cI cZ cO) sz (wdM cI cZ h v_all v_past v_states v_refused v_far v_row v_stepAt v_depth v_tries v_values v_wrong v_isEnd v_found v_reached v_stepIn v_laid v_firstRow v_text v_textLong v_spot v_taken v_counted))) (va_Qi (kb_post .boolean r0) (fun _ t => va_P D vwCl (wdM cI cZ h v_all v_past v_states v_refused v_far v_row v_stepAt v_depth v_tries v_values v_wrong v_isEnd v_found v_reached v_stepIn v_laid v_firstRow v_text v_textLong v_spot v_taken v_counted) t.heap) (va_A (wdM cI cZ h v_all v_past v_states v_refused v_far v_row v_stepAt v_depth v_tries v_values v_wrong v_isEnd v_found v_reached v_stepIn v_laid v_firstRow v_text v_textLong v_spot v_taken v_counted) sz)) 0 0 (va_A (wdM cI cZ h v_all v_past v_states v_refused v_far v_row v_stepAt v_depth v_tries v_values v_wrong v_isEnd v_found v_reached v_stepIn v_laid v_firstRow v_text v_textLong v_spot v_taken v_counted) sz) := by
  refine kb_metZ (cc := cX9_areDependent) (maxL := 6) (ty := .boolean) (by decide) rfl (Nat.le_of_ble_eq_true rfl) ?_
  intro p e s m args below meth c Q A ls H hx hb hml hown hts hK hN hP hD hS hA hl hend
  have hown : s.vm.findClass RX9 = some m.cls := hown
  have hl : lv_has ls 6 [(0, .ref (h 0)), (1, .int x1), (2, .int x2), (3, .int x3), (4, .int x4)] := hl
  have J70 : ∀  (H : Heap) (locs : List Loc) (ls : Array Slot), f9_areDependent_b70 v_all = some r0 → va_P D vwCl (wdM cI cZ h v_all v_past v_states v_refused v_far v_row v_stepAt v_depth v_tries v_values v_wrong v_isEnd v_found v_reached v_stepIn v_laid v_firstRow v_text v_textLong v_spot v_taken v_counted) H → va_D A (wdM cI cZ h v_all v_past v_states v_refused v_far v_row v_stepAt v_depth v_tries v_values v_wrong v_isEnd v_found v_reached v_stepIn v_laid v_firstRow v_text v_textLong v_spot v_taken v_counted) → va_S A s.heap H locs → lv_has ls 6 [] → W p l e rm9_areDependent s m args below meth c H locs 0 0 Q (F0 m 70 ls []) := by
    intro  H locs ls hf hP hD hS hl
    rw [f9_areDependent_b70] at hf
    refine lv_iconst (v := 1) hx hb dX9_areDependent_70 (by decide) ?_
    refine lv_goto (tgt := 75) hx hb dX9_areDependent_71 (by decide) ?_
    obtain rfl := Option.some.inj hf
    exact hend _ _ _ _ rfl hP hS dX9_areDependent_75
  have J46 : ∀ (x1 : Int32) (x2 : Int32) (x3 : Int32) (x4 : Int32) (s0 : Int32) (H : Heap) (locs : List Loc) (ls : Array Slot), f9_areDependent_b46 v_all x1 x2 x3 x4 s0 = some r0 → va_P D vwCl (wdM cI cZ h v_all v_past v_states v_refused v_far v_row v_stepAt v_depth v_tries v_values v_wrong v_isEnd v_found v_reached v_stepIn v_laid v_firstRow v_text v_textLong v_spot v_taken v_counted) H → va_D A (wdM cI cZ h v_all v_past v_states v_refused v_far v_row v_stepAt v_depth v_tries v_values v_wrong v_isEnd v_found v_reached v_stepIn v_laid v_firstRow v_text v_textLong v_spot v_taken v_counted) → va_S A s.heap H locs → lv_has ls 6 [(0, .ref (h 0)), (1, .int x1), (2, .int x2), (3, .int x3), (4, .int x4)] → W p l e rm9_areDependent s m args below meth c H locs 0 0 Q (F0 m 46 ls [.int s0]) := by
    intro x1 x2 x3 x4 s0 H locs ls hf hP hD hS hl
    rw [f9_areDependent_b46] at hf
    refine lv_istore (lv' := [(5, .int s0), (0, .ref (h 0)), (1, .int x1), (2, .int x2), (3, .int x3), (4, .int x4)]) hx hb dX9_areDependent_46 hl (by decide) rfl (fun ls hl => ?_)
    refine lv_iload_n hx hb dX9_areDependent_48 rfl (lv_at hl 2 rfl) ?_
    refine lv_iload_n hx hb dX9_areDependent_49 rfl (lv_at hl 4 rfl) ?_
    refine lv_icmp_eq (tgt := 70) hx hb dX9_areDependent_50 (by decide) (fun c6 => ?_) (fun c6 => ?_)
    · rw [if_pos c6] at hf
      exact J70  _ _ _ hf hP hD hS (lv_sub hl [] rfl)
    · rw [if_neg c6] at hf
      refine lv_iload hx hb dX9_areDependent_53 (lv_at hl 0 rfl) ?_
      refine lv_if_ne (tgt := 70) hx hb dX9_areDependent_55 (by decide) (fun c7 => ?_) (fun c7 => ?_)
      · rw [if_neg c7] at hf
        exact J70  _ _ _ hf hP hD hS (lv_sub hl [] rfl)
      · rw [if_pos c7] at hf
        refine lv_aload_n hx hb dX9_areDependent_58 rfl (lv_at hl 1 rfl) ?_
        refine lv_iload_n hx hb dX9_areDependent_59 rfl (lv_at hl 2 rfl) ?_
        refine lv_iload_n hx hb dX9_areDependent_60 rfl (lv_at hl 3 rfl) ?_
        refine lv_iload_n hx hb dX9_areDependent_61 rfl (lv_at hl 4 rfl) ?_
        refine lv_iload hx hb dX9_areDependent_62 (lv_at hl 5 rfl) ?_
        refine kb_bind hf (fun q8 hq8 hf => ?_)
        have hPc : va_P D vwCl (wdM cI cZ h v_all v_past v_states v_refused v_far v_row v_stepAt v_depth v_tries v_values v_wrong v_isEnd v_found v_reached v_stepIn v_laid v_firstRow v_text v_textLong v_spot v_taken v_counted) H := hP.sub [0, 1, 2, 3, 4, 5, 6, 7, 8, 9, 10, 11, 12, 13, 14, 15, 16] rfl
        have hDc : va_D A (wdM cI cZ h v_all v_past v_states v_refused v_far v_row v_stepAt v_depth v_tries v_values v_wrong v_isEnd v_found v_reached v_stepIn v_laid v_firstRow v_text v_textLong v_spot v_taken v_counted) := hD.sub [0, 1, 2, 3, 4, 5, 6, 7, 8, 9, 10, 11, 12, 13, 14, 15, 16] (by decide) rfl
        refine kd_iR (va_runV (As := [.int x1, .int x2, .int x3, .int x4]) (rest := []) ⟨hx, hb, hml, hown, hts⟩ (c9_byNumber l D cB cI cZ cO h H.size x1 x2 x3 x4 v_all v_past v_states v_refused v_far v_row v_stepAt v_depth v_tries v_values v_wrong v_isEnd v_found v_reached v_stepIn v_laid v_firstRow v_text v_textLong v_spot v_taken v_counted q8 hq8) (cwV 4 hts gX9_areDependent_X9_byNumber rfl rfl rfl (by decide +kernel) ⟨Nat.le_of_ble_eq_true rfl, Nat.le_of_ble_eq_true rfl⟩) ⟨kb_blind, va_recv hK hPc (ci := 6) (q0 := 0) rfl rfl, kb_pre hPc hDc hK hN⟩ rfl rfl hl.1 rfl (lv_room (Nat.le_of_ble_eq_true rfl)) dX9_areDependent_64 ⟨Nat.le_refl _, Nat.le_refl _⟩) hP hD hS hA [0, 1, 2, 3, 4, 5, 6, 7, 8, 9, 10, 11, 12, 13, 14, 15, 16] rfl (fun H locs hn9 hP hS => ?_)
        refine lv_if_eq (tgt := 74) hx hb dX9_areDependent_67 (by decide) (fun c10 => ?_) (fun c10 => ?_)
        · rw [if_pos c10] at hf
          refine lv_iconst (v := 0) hx hb dX9_areDependent_74 (by decide) ?_
          obtain rfl := Option.some.inj hf
          exact hend _ _ _ _ rfl hP hS dX9_areDependent_75
        · rw [if_neg c10] at hf
          exact J70  _ _ _ hf hP hD hS (lv_sub hl [] rfl)
  have J45 : ∀ (x1 : Int32) (x2 : Int32) (x3 : Int32) (x4 : Int32) (H : Heap) (locs : List Loc) (ls : Array Slot), f9_areDependent_b45 v_all x1 x2 x3 x4 = some r0 → va_P D vwCl (wdM cI cZ h v_all v_past v_states v_refused v_far v_row v_stepAt v_depth v_tries v_values v_wrong v_isEnd v_found v_reached v_stepIn v_laid v_firstRow v_text v_textLong v_spot v_taken v_counted) H → va_D A (wdM cI cZ h v_all v_past v_states v_refused v_far v_row v_stepAt v_depth v_tries v_values v_wrong v_isEnd v_found v_reached v_stepIn v_laid v_firstRow v_text v_textLong v_spot v_taken v_counted) → va_S A s.heap H locs → lv_has ls 6 [(0, .ref (h 0)), (1, .int x1), (2, .int x2), (3, .int x3), (4, .int x4)] → W p l e rm9_areDependent s m args below meth c H locs 0 0 Q (F0 m 45 ls []) := by
    intro x1 x2 x3 x4 H locs ls hf hP hD hS hl
    rw [f9_areDependent_b45] at hf
    refine lv_iconst (v := 0) hx hb dX9_areDependent_45 (by decide) ?_
    exact J46 x1 x2 x3 x4 (0 : Int32) _ _ _ hf hP hD hS (lv_sub hl [0, 1, 2, 3, 4] rfl)
  rw [f9_areDependent] at hf
  refine lv_aload_n hx hb dX9_areDependent_0 rfl (lv_at hl 0 rfl) ?_
  refine lv_iload_n hx hb dX9_areDependent_1 rfl (lv_at hl 1 rfl) ?_
  refine lv_iload_n hx hb dX9_areDependent_2 rfl (lv_at hl 2 rfl) ?_
  refine lv_iconst (v := 0) hx hb dX9_areDependent_3 (by decide) ?_
  refine kb_bind hf (fun q11 hq11 hf => ?_)
  have hPc : va_P D vwCl (wdM cI cZ h v_all v_past v_states v_refused v_far v_row v_stepAt v_depth v_tries v_values v_wrong v_isEnd v_found v_reached v_stepIn v_laid v_firstRow v_text v_textLong v_spot v_taken v_counted) H := hP.sub [0, 1, 2, 3, 4, 5, 6, 7, 8, 9, 10, 11, 12, 13, 14, 15, 16] rfl
  have hDc : va_D A (wdM cI cZ h v_all v_past v_states v_refused v_far v_row v_stepAt v_depth v_tries v_values v_wrong v_isEnd v_found v_reached v_stepIn v_laid v_firstRow v_text v_textLong v_spot v_taken v_counted) := hD.sub [0, 1, 2, 3, 4, 5, 6, 7, 8, 9, 10, 11, 12, 13, 14, 15, 16] (by decide) rfl
  refine kd_iR (va_runV (As := [.int x1, .int x2, .int (0 : Int32)]) (rest := []) ⟨hx, hb, hml, hown, hts⟩ (c9_its l D cB cI cZ cO h H.size x1 x2 (0 : Int32) v_all v_past v_states v_refused v_far v_row v_stepAt v_depth v_tries v_values v_wrong v_isEnd v_found v_reached v_stepIn v_laid v_firstRow v_text v_textLong v_spot v_taken v_counted q11 hq11) (cwV 3 hts gX9_areDependent_X9_its rfl rfl rfl (by decide +kernel) ⟨Nat.le_of_ble_eq_true rfl, Nat.le_of_ble_eq_true rfl⟩) ⟨kb_blind, va_recv hK hPc (ci := 6) (q0 := 0) rfl rfl, kb_pre hPc hDc hK hN⟩ rfl rfl hl.1 rfl (lv_room (Nat.le_of_ble_eq_true rfl)) dX9_areDependent_4 ⟨Nat.le_refl _, Nat.le_refl _⟩) hP hD hS hA [0, 1, 2, 3, 4, 5, 6, 7, 8, 9, 10, 11, 12, 13, 14, 15, 16] rfl (fun H locs hn12 hP hS => ?_)
  refine lv_iconst (v := 4) hx hb dX9_areDependent_7 (by decide) ?_
  refine lv_icmp_lt (tgt := 45) hx hb dX9_areDependent_8 (by decide) (fun c13 => ?_) (fun c13 => ?_)
  · rw [if_pos c13] at hf
    exact J45 x1 x2 x3 x4 _ _ _ hf hP hD hS (lv_sub hl [0, 1, 2, 3, 4] rfl)
  · rw [if_neg c13] at hf
    refine lv_aload_n hx hb dX9_areDependent_11 rfl (lv_at hl 0 rfl) ?_
    refine lv_iload_n hx hb dX9_areDependent_12 rfl (lv_at hl 3 rfl) ?_
    refine lv_iload hx hb dX9_areDependent_13 (lv_at hl 4 rfl) ?_
    refine lv_iconst (v := 0) hx hb dX9_areDependent_15 (by decide) ?_
    refine kb_bind hf (fun q14 hq14 hf => ?_)
    have hPc : va_P D vwCl (wdM cI cZ h v_all v_past v_states v_refused v_far v_row v_stepAt v_depth v_tries v_values v_wrong v_isEnd v_found v_reached v_stepIn v_laid v_firstRow v_text v_textLong v_spot v_taken v_counted) H := hP.sub [0, 1, 2, 3, 4, 5, 6, 7, 8, 9, 10, 11, 12, 13, 14, 15, 16] rfl
    have hDc : va_D A (wdM cI cZ h v_all v_past v_states v_refused v_far v_row v_stepAt v_depth v_tries v_values v_wrong v_isEnd v_found v_reached v_stepIn v_laid v_firstRow v_text v_textLong v_spot v_taken v_counted) := hD.sub [0, 1, 2, 3, 4, 5, 6, 7, 8, 9, 10, 11, 12, 13, 14, 15, 16] (by decide) rfl
    refine kd_iR (va_runV (As := [.int x3, .int x4, .int (0 : Int32)]) (rest := []) ⟨hx, hb, hml, hown, hts⟩ (c9_its l D cB cI cZ cO h H.size x3 x4 (0 : Int32) v_all v_past v_states v_refused v_far v_row v_stepAt v_depth v_tries v_values v_wrong v_isEnd v_found v_reached v_stepIn v_laid v_firstRow v_text v_textLong v_spot v_taken v_counted q14 hq14) (cwV 3 hts gX9_areDependent_X9_its rfl rfl rfl (by decide +kernel) ⟨Nat.le_of_ble_eq_true rfl, Nat.le_of_ble_eq_true rfl⟩) ⟨kb_blind, va_recv hK hPc (ci := 6) (q0 := 0) rfl rfl, kb_pre hPc hDc hK hN⟩ rfl rfl hl.1 rfl (lv_room (Nat.le_of_ble_eq_true rfl)) dX9_areDependent_16 ⟨Nat.le_refl _, Nat.le_refl _⟩) hP hD hS hA [0, 1, 2, 3, 4, 5, 6, 7, 8, 9, 10, 11, 12, 13, 14, 15, 16] rfl (fun H locs hn15 hP hS => ?_)
    refine lv_iconst (v := 4) hx hb dX9_areDependent_19 (by decide) ?_
    refine lv_icmp_lt (tgt := 45) hx hb dX9_areDependent_20 (by decide) (fun c16 => ?_) (fun c16 => ?_)
    · rw [if_pos c16] at hf
      exact J45 x1 x2 x3 x4 _ _ _ hf hP hD hS (lv_sub hl [0, 1, 2, 3, 4] rfl)
    · rw [if_neg c16] at hf
      refine lv_aload_n hx hb dX9_areDependent_23 rfl (lv_at hl 0 rfl) ?_
      refine lv_iload_n hx hb dX9_areDependent_24 rfl (lv_at hl 1 rfl) ?_
      refine lv_iload_n hx hb dX9_areDependent_25 rfl (lv_at hl 2 rfl) ?_
      refine lv_iconst (v := 1) hx hb dX9_areDependent_26 (by decide) ?_
      refine kb_bind hf (fun q17 hq17 hf => ?_)
      have hPc : va_P D vwCl (wdM cI cZ h v_all v_past v_states v_refused v_far v_row v_stepAt v_depth v_tries v_values v_wrong v_isEnd v_found v_reached v_stepIn v_laid v_firstRow v_text v_textLong v_spot v_taken v_counted) H := hP.sub [0, 1, 2, 3, 4, 5, 6, 7, 8, 9, 10, 11, 12, 13, 14, 15, 16] rfl
      have hDc : va_D A (wdM cI cZ h v_all v_past v_states v_refused v_far v_row v_stepAt v_depth v_tries v_values v_wrong v_isEnd v_found v_reached v_stepIn v_laid v_firstRow v_text v_textLong v_spot v_taken v_counted) := hD.sub [0, 1, 2, 3, 4, 5, 6, 7, 8, 9, 10, 11, 12, 13, 14, 15, 16] (by decide) rfl
      refine kd_iR (va_runV (As := [.int x1, .int x2, .int (1 : Int32)]) (rest := []) ⟨hx, hb, hml, hown, hts⟩ (c9_its l D cB cI cZ cO h H.size x1 x2 (1 : Int32) v_all v_past v_states v_refused v_far v_row v_stepAt v_depth v_tries v_values v_wrong v_isEnd v_found v_reached v_stepIn v_laid v_firstRow v_text v_textLong v_spot v_taken v_counted q17 hq17) (cwV 3 hts gX9_areDependent_X9_its rfl rfl rfl (by decide +kernel) ⟨Nat.le_of_ble_eq_true rfl, Nat.le_of_ble_eq_true rfl⟩) ⟨kb_blind, va_recv hK hPc (ci := 6) (q0 := 0) rfl rfl, kb_pre hPc hDc hK hN⟩ rfl rfl hl.1 rfl (lv_room (Nat.le_of_ble_eq_true rfl)) dX9_areDependent_27 ⟨Nat.le_refl _, Nat.le_refl _⟩) hP hD hS hA [0, 1, 2, 3, 4, 5, 6, 7, 8, 9, 10, 11, 12, 13, 14, 15, 16] rfl (fun H locs hn18 hP hS => ?_)
      refine lv_aload_n hx hb dX9_areDependent_30 rfl (lv_at hl 0 rfl) ?_
      refine lv_iload_n hx hb dX9_areDependent_31 rfl (lv_at hl 3 rfl) ?_
      refine lv_iload hx hb dX9_areDependent_32 (lv_at hl 4 rfl) ?_
      refine lv_iconst (v := 1) hx hb dX9_areDependent_34 (by decide) ?_
      refine kb_bind hf (fun q19 hq19 hf => ?_)
      have hPc : va_P D vwCl (wdM cI cZ h v_all v_past v_states v_refused v_far v_row v_stepAt v_depth v_tries v_values v_wrong v_isEnd v_found v_reached v_stepIn v_laid v_firstRow v_text v_textLong v_spot v_taken v_counted) H := hP.sub [0, 1, 2, 3, 4, 5, 6, 7, 8, 9, 10, 11, 12, 13, 14, 15, 16] rfl
      have hDc : va_D A (wdM cI cZ h v_all v_past v_states v_refused v_far v_row v_stepAt v_depth v_tries v_values v_wrong v_isEnd v_found v_reached v_stepIn v_laid v_firstRow v_text v_textLong v_spot v_taken v_counted) := hD.sub [0, 1, 2, 3, 4, 5, 6, 7, 8, 9, 10, 11, 12, 13, 14, 15, 16] (by decide) rfl
      refine kd_iR (va_runV (As := [.int x3, .int x4, .int (1 : Int32)]) (rest := [.int q17]) ⟨hx, hb, hml, hown, hts⟩ (c9_its l D cB cI cZ cO h H.size x3 x4 (1 : Int32) v_all v_past v_states v_refused v_far v_row v_stepAt v_depth v_tries v_values v_wrong v_isEnd v_found v_reached v_stepIn v_laid v_firstRow v_text v_textLong v_spot v_taken v_counted q19 hq19) (cwV 3 hts gX9_areDependent_X9_its rfl rfl rfl (by decide +kernel) ⟨Nat.le_of_ble_eq_true rfl, Nat.le_of_ble_eq_true rfl⟩) ⟨kb_blind, va_recv hK hPc (ci := 6) (q0 := 0) rfl rfl, kb_pre hPc hDc hK hN⟩ rfl rfl hl.1 rfl (lv_room (Nat.le_of_ble_eq_true rfl)) dX9_areDependent_35 ⟨Nat.le_refl _, Nat.le_refl _⟩) hP hD hS hA [0, 1, 2, 3, 4, 5, 6, 7, 8, 9, 10, 11, 12, 13, 14, 15, 16] rfl (fun H locs hn20 hP hS => ?_)
      refine lv_icmp_ne (tgt := 45) hx hb dX9_areDependent_38 (by decide) (fun c21 => ?_) (fun c21 => ?_)
      · rw [if_neg c21] at hf
        exact J45 x1 x2 x3 x4 _ _ _ hf hP hD hS (lv_sub hl [0, 1, 2, 3, 4] rfl)
      · rw [if_pos c21] at hf
        refine lv_iconst (v := 1) hx hb dX9_areDependent_41 (by decide) ?_
        refine lv_goto (tgt := 46) hx hb dX9_areDependent_42 (by decide) ?_
        exact J46 x1 x2 x3 x4 (1 : Int32) _ _ _ hf hP hD hS (lv_sub hl [0, 1, 2, 3, 4] rfl)

set_option maxHeartbeats 4000000 in
set_option maxRecDepth 100000 in
theorem c9_depend (l : Launch) (D : va_G) (cB cI cZ cO : ClassId) (h : Nat → Nat) (sz : Nat) (x1 : Int32) (x2 : Int32) (x3 : Int32) (x4 : Int32) (v_all : Nat → Int32) (v_past : Nat → Int32) (v_states : Int32) (v_refused : Nat → Int32) (v_far : Nat → Int32) (v_row : Nat → Int32) (v_stepAt : Nat → Int32) (v_depth : Int32) (v_tries : Nat → Int32) (v_values : Nat → Int32) (v_wrong : Int32) (v_isEnd : Nat → Int32) (v_found : Nat → Int32) (v_reached : Nat → Int32) (v_stepIn : Nat → Int32) (v_laid : Nat → Int32) (v_firstRow : Nat → Int32) (v_text : Nat → Int32) (v_textLong : Int32) (v_spot : Int32) (v_taken : Int32) (v_counted : Nat → Int32) (r0 : Int32) (v_refused' : Nat → Int32) (hf : f9_depend v_all v_refused x1 x2 x3 x4 = some (r0, v_refused')) : Met l yX9_depend wsX9_depend rm9_depend (va_Pc [.ref (h 0), .int x1, .int x2, .int x3, .int x4] (kb_B D (ka_tys cB cI cZ cO) sz (wdM cI cZ h v_all v_past v_states v_refused v_far v_row v_stepAt v_depth v_tries v_values v_wrong v_isEnd v_found v_reached v_stepIn v_laid v_firstRow v_text v_textLong v_spot v_taken v_counted))) (va_Qi (kb_post .int r0) (fun _ t => va_P D vwCl (wdM cI cZ h v_all v_past v_states (v_refused') v_far v_row v_stepAt v_depth v_tries v_values v_wrong v_isEnd v_found v_reached v_stepIn v_laid v_firstRow v_text v_textLong v_spot v_taken v_counted) t.heap) (va_A (wdM cI cZ h v_all v_past v_states v_refused v_far v_row v_stepAt v_depth v_tries v_values v_wrong v_isEnd v_found v_reached v_stepIn v_laid v_firstRow v_text v_textLong v_spot v_taken v_counted) sz)) 0 0 (va_A (wdM cI cZ h v_all v_past v_states v_refused v_far v_row v_stepAt v_depth v_tries v_values v_wrong v_isEnd v_found v_reached v_stepIn v_laid v_firstRow v_text v_textLong v_spot v_taken v_counted) sz) := by
  refine kb_metZ (cc := cX9_depend) (maxL := 5) (ty := .int) (by decide) rfl (Nat.le_of_ble_eq_true rfl) ?_
  intro p e s m args below meth c Q A ls H hx hb hml hown hts hK hN hP hD hS hA hl hend
  have hown : s.vm.findClass RX9 = some m.cls := hown
  have hl : lv_has ls 5 [(0, .ref (h 0)), (1, .int x1), (2, .int x2), (3, .int x3), (4, .int x4)] := hl
  have J30 : ∀ (v_refused : Nat → Int32) (x1 : Int32) (x2 : Int32) (x3 : Int32) (x4 : Int32) (H : Heap) (locs : List Loc) (ls : Array Slot), f9_depend_b30 v_all v_refused x1 x2 x3 x4 = some (r0, v_refused') → va_P D vwCl (wdM cI cZ h v_all v_past v_states v_refused v_far v_row v_stepAt v_depth v_tries v_values v_wrong v_isEnd v_found v_reached v_stepIn v_laid v_firstRow v_text v_textLong v_spot v_taken v_counted) H → va_D A (wdM cI cZ h v_all v_past v_states v_refused v_far v_row v_stepAt v_depth v_tries v_values v_wrong v_isEnd v_found v_reached v_stepIn v_laid v_firstRow v_text v_textLong v_spot v_taken v_counted) → va_S A s.heap H locs → lv_has ls 5 [(0, .ref (h 0)), (1, .int x1), (2, .int x2), (3, .int x3), (4, .int x4)] → W p l e rm9_depend s m args below meth c H locs 0 0 Q (F0 m 30 ls []) := by
    intro v_refused x1 x2 x3 x4 H locs ls hf hP hD hS hl
    rw [f9_depend_b30] at hf
    refine lv_aload_n hx hb dX9_depend_30 rfl (lv_at hl 0 rfl) ?_
    refine lv_iload_n hx hb dX9_depend_31 rfl (lv_at hl 1 rfl) ?_
    refine lv_iload_n hx hb dX9_depend_32 rfl (lv_at hl 2 rfl) ?_
    refine lv_iload_n hx hb dX9_depend_33 rfl (lv_at hl 3 rfl) ?_
    refine lv_iload hx hb dX9_depend_34 (lv_at hl 4 rfl) ?_
    refine kb_bind hf (fun q4 hq4 hf => ?_)
    have hPc : va_P D vwCl (wdM cI cZ h v_all v_past v_states v_refused v_far v_row v_stepAt v_depth v_tries v_values v_wrong v_isEnd v_found v_reached v_stepIn v_laid v_firstRow v_text v_textLong v_spot v_taken v_counted) H := hP.sub [0, 1, 2, 3, 4, 5, 6, 7, 8, 9, 10, 11, 12, 13, 14, 15, 16] rfl
    have hDc : va_D A (wdM cI cZ h v_all v_past v_states v_refused v_far v_row v_stepAt v_depth v_tries v_values v_wrong v_isEnd v_found v_reached v_stepIn v_laid v_firstRow v_text v_textLong v_spot v_taken v_counted) := hD.sub [0, 1, 2, 3, 4, 5, 6, 7, 8, 9, 10, 11, 12, 13, 14, 15, 16] (by decide) rfl
    refine kd_iR (va_runV (As := [.int x1, .int x2, .int x3, .int x4]) (rest := []) ⟨hx, hb, hml, hown, hts⟩ (c9_areDependent l D cB cI cZ cO h H.size x1 x2 x3 x4 v_all v_past v_states v_refused v_far v_row v_stepAt v_depth v_tries v_values v_wrong v_isEnd v_found v_reached v_stepIn v_laid v_firstRow v_text v_textLong v_spot v_taken v_counted q4 hq4) (cwV 4 hts gX9_depend_X9_areDependent rfl rfl rfl (by decide +kernel) ⟨Nat.le_of_ble_eq_true rfl, Nat.le_of_ble_eq_true rfl⟩) ⟨kb_blind, va_recv hK hPc (ci := 6) (q0 := 0) rfl rfl, kb_pre hPc hDc hK hN⟩ rfl rfl hl.1 rfl (lv_room (Nat.le_of_ble_eq_true rfl)) dX9_depend_36 ⟨Nat.le_refl _, Nat.le_refl _⟩) hP hD hS hA [0, 1, 2, 3, 4, 5, 6, 7, 8, 9, 10, 11, 12, 13, 14, 15, 16] rfl (fun H locs hn5 hP hS => ?_)
    refine lv_if_eq (tgt := 46) hx hb dX9_depend_39 (by decide) (fun c6 => ?_) (fun c6 => ?_)
    · rw [if_pos c6] at hf
      refine lv_iconst (v := 0) hx hb dX9_depend_46 (by decide) ?_
      refine lv_goto (tgt := 56) hx hb dX9_depend_47 (by decide) ?_
      obtain ⟨z1, y1⟩ := Prod.mk.inj (Option.some.inj hf)
      subst z1 y1
      exact hend _ _ _ _ rfl hP hS dX9_depend_56
    · rw [if_neg c6] at hf
      refine lv_iconst (v := 1) hx hb dX9_depend_42 (by decide) ?_
      refine lv_goto (tgt := 56) hx hb dX9_depend_43 (by decide) ?_
      obtain ⟨z1, y1⟩ := Prod.mk.inj (Option.some.inj hf)
      subst z1 y1
      exact hend _ _ _ _ rfl hP hS dX9_depend_56
  have J50 : ∀ (v_refused : Nat → Int32) (H : Heap) (locs : List Loc) (ls : Array Slot), f9_depend_b50 v_all v_refused = some (r0, v_refused') → va_P D vwCl (wdM cI cZ h v_all v_past v_states v_refused v_far v_row v_stepAt v_depth v_tries v_values v_wrong v_isEnd v_found v_reached v_stepIn v_laid v_firstRow v_text v_textLong v_spot v_taken v_counted) H → va_D A (wdM cI cZ h v_all v_past v_states v_refused v_far v_row v_stepAt v_depth v_tries v_values v_wrong v_isEnd v_found v_reached v_stepIn v_laid v_firstRow v_text v_textLong v_spot v_taken v_counted) → va_S A s.heap H locs → lv_has ls 5 [(0, .ref (h 0))] → W p l e rm9_depend s m args below meth c H locs 0 0 Q (F0 m 50 ls []) := by
    intro v_refused H locs ls hf hP hD hS hl
    rw [f9_depend_b50] at hf
    refine lv_aload_n hx hb dX9_depend_50 rfl (lv_at hl 0 rfl) ?_
    refine lv_bipush (v := (-2)) hx hb dX9_depend_51 (by decide) ?_
    refine kb_bind hf (fun q9 hq9 hf => ?_)
    have hPc : va_P D vwCl (wdM cI cZ h v_all v_past v_states v_refused v_far v_row v_stepAt v_depth v_tries v_values v_wrong v_isEnd v_found v_reached v_stepIn v_laid v_firstRow v_text v_textLong v_spot v_taken v_counted) H := hP.sub [0, 1, 2, 3, 4, 5, 6, 7, 8, 9, 10, 11, 12, 13, 14, 15, 16] rfl
    have hDc : va_D A (wdM cI cZ h v_all v_past v_states v_refused v_far v_row v_stepAt v_depth v_tries v_values v_wrong v_isEnd v_found v_reached v_stepIn v_laid v_firstRow v_text v_textLong v_spot v_taken v_counted) := hD.sub [0, 1, 2, 3, 4, 5, 6, 7, 8, 9, 10, 11, 12, 13, 14, 15, 16] (by decide) rfl
    refine kd_iW (ws' := wdM cI cZ h v_all v_past v_states q9.2 v_far v_row v_stepAt v_depth v_tries v_values v_wrong v_isEnd v_found v_reached v_stepIn v_laid v_firstRow v_text v_textLong v_spot v_taken v_counted) (va_runV (As := [.int (-2 : Int32)]) (rest := []) ⟨hx, hb, hml, hown, hts⟩ (c9_refuses l D cB cI cZ cO h H.size (-2 : Int32) v_all v_past v_states v_refused v_far v_row v_stepAt v_depth v_tries v_values v_wrong v_isEnd v_found v_reached v_stepIn v_laid v_firstRow v_text v_textLong v_spot v_taken v_counted q9.1 q9.2 hq9) (cwV 1 hts gX9_depend_X9_refuses rfl rfl rfl (by decide +kernel) ⟨Nat.le_of_ble_eq_true rfl, Nat.le_of_ble_eq_true rfl⟩) ⟨kb_blind, va_recv hK hPc (ci := 6) (q0 := 0) rfl rfl, kb_pre hPc hDc hK hN⟩ rfl rfl hl.1 rfl (lv_room (Nat.le_of_ble_eq_true rfl)) dX9_depend_53 ⟨Nat.le_refl _, Nat.le_refl _⟩) hP hD hS hA [0, 1, 2, 3, 4, 5, 6, 7, 8, 9, 10, 11, 12, 13, 14, 15, 16] [] rfl rfl (fun _ h9 => absurd h9 List.not_mem_nil) rfl rfl (fun H locs hn10 hP hD hS => ?_)
    obtain ⟨z1, y1⟩ := Prod.mk.inj (Option.some.inj hf)
    subst z1 y1
    exact hend _ _ _ _ rfl hP hS dX9_depend_56
  rw [f9_depend] at hf
  refine lv_aload_n hx hb dX9_depend_0 rfl (lv_at hl 0 rfl) ?_
  refine lv_iload_n hx hb dX9_depend_1 rfl (lv_at hl 1 rfl) ?_
  refine lv_iload_n hx hb dX9_depend_2 rfl (lv_at hl 2 rfl) ?_
  refine kb_bind hf (fun q11 hq11 hf => ?_)
  have hPc : va_P D vwCl (wdM cI cZ h v_all v_past v_states v_refused v_far v_row v_stepAt v_depth v_tries v_values v_wrong v_isEnd v_found v_reached v_stepIn v_laid v_firstRow v_text v_textLong v_spot v_taken v_counted) H := hP.sub [0, 1, 2, 3, 4, 5, 6, 7, 8, 9, 10, 11, 12, 13, 14, 15, 16] rfl
  have hDc : va_D A (wdM cI cZ h v_all v_past v_states v_refused v_far v_row v_stepAt v_depth v_tries v_values v_wrong v_isEnd v_found v_reached v_stepIn v_laid v_firstRow v_text v_textLong v_spot v_taken v_counted) := hD.sub [0, 1, 2, 3, 4, 5, 6, 7, 8, 9, 10, 11, 12, 13, 14, 15, 16] (by decide) rfl
  refine kd_iR (va_runV (As := [.int x1, .int x2]) (rest := []) ⟨hx, hb, hml, hown, hts⟩ (c9_isStep l D cB cI cZ cO h H.size x1 x2 v_all v_past v_states v_refused v_far v_row v_stepAt v_depth v_tries v_values v_wrong v_isEnd v_found v_reached v_stepIn v_laid v_firstRow v_text v_textLong v_spot v_taken v_counted q11 hq11) (cwV 2 hts gX9_depend_X9_isStep rfl rfl rfl (by decide +kernel) ⟨Nat.le_of_ble_eq_true rfl, Nat.le_of_ble_eq_true rfl⟩) ⟨kb_blind, va_recv hK hPc (ci := 6) (q0 := 0) rfl rfl, kb_pre hPc hDc hK hN⟩ rfl rfl hl.1 rfl (lv_room (Nat.le_of_ble_eq_true rfl)) dX9_depend_3 ⟨Nat.le_refl _, Nat.le_refl _⟩) hP hD hS hA [0, 1, 2, 3, 4, 5, 6, 7, 8, 9, 10, 11, 12, 13, 14, 15, 16] rfl (fun H locs hn12 hP hS => ?_)
  refine lv_if_eq (tgt := 50) hx hb dX9_depend_6 (by decide) (fun c13 => ?_) (fun c13 => ?_)
  · rw [if_pos c13] at hf
    exact J50 v_refused _ _ _ hf hP hD hS (lv_sub hl [0] rfl)
  · rw [if_neg c13] at hf
    refine lv_aload_n hx hb dX9_depend_9 rfl (lv_at hl 0 rfl) ?_
    refine lv_iload_n hx hb dX9_depend_10 rfl (lv_at hl 3 rfl) ?_
    refine lv_iload hx hb dX9_depend_11 (lv_at hl 4 rfl) ?_
    refine kb_bind hf (fun q14 hq14 hf => ?_)
    have hPc : va_P D vwCl (wdM cI cZ h v_all v_past v_states v_refused v_far v_row v_stepAt v_depth v_tries v_values v_wrong v_isEnd v_found v_reached v_stepIn v_laid v_firstRow v_text v_textLong v_spot v_taken v_counted) H := hP.sub [0, 1, 2, 3, 4, 5, 6, 7, 8, 9, 10, 11, 12, 13, 14, 15, 16] rfl
    have hDc : va_D A (wdM cI cZ h v_all v_past v_states v_refused v_far v_row v_stepAt v_depth v_tries v_values v_wrong v_isEnd v_found v_reached v_stepIn v_laid v_firstRow v_text v_textLong v_spot v_taken v_counted) := hD.sub [0, 1, 2, 3, 4, 5, 6, 7, 8, 9, 10, 11, 12, 13, 14, 15, 16] (by decide) rfl
    refine kd_iR (va_runV (As := [.int x3, .int x4]) (rest := []) ⟨hx, hb, hml, hown, hts⟩ (c9_isStep l D cB cI cZ cO h H.size x3 x4 v_all v_past v_states v_refused v_far v_row v_stepAt v_depth v_tries v_values v_wrong v_isEnd v_found v_reached v_stepIn v_laid v_firstRow v_text v_textLong v_spot v_taken v_counted q14 hq14) (cwV 2 hts gX9_depend_X9_isStep rfl rfl rfl (by decide +kernel) ⟨Nat.le_of_ble_eq_true rfl, Nat.le_of_ble_eq_true rfl⟩) ⟨kb_blind, va_recv hK hPc (ci := 6) (q0 := 0) rfl rfl, kb_pre hPc hDc hK hN⟩ rfl rfl hl.1 rfl (lv_room (Nat.le_of_ble_eq_true rfl)) dX9_depend_13 ⟨Nat.le_refl _, Nat.le_refl _⟩) hP hD hS hA [0, 1, 2, 3, 4, 5, 6, 7, 8, 9, 10, 11, 12, 13, 14, 15, 16] rfl (fun H locs hn15 hP hS => ?_)
    refine lv_if_eq (tgt := 50) hx hb dX9_depend_16 (by decide) (fun c16 => ?_) (fun c16 => ?_)
    · rw [if_pos c16] at hf
      exact J50 v_refused _ _ _ hf hP hD hS (lv_sub hl [0] rfl)
    · rw [if_neg c16] at hf
      refine lv_iload_n hx hb dX9_depend_19 rfl (lv_at hl 1 rfl) ?_
      refine lv_iload_n hx hb dX9_depend_20 rfl (lv_at hl 3 rfl) ?_
      refine lv_icmp_ne (tgt := 30) hx hb dX9_depend_21 (by decide) (fun c17 => ?_) (fun c17 => ?_)
      · rw [if_neg c17] at hf
        exact J30 v_refused x1 x2 x3 x4 _ _ _ hf hP hD hS (lv_sub hl [0, 1, 2, 3, 4] rfl)
      · rw [if_pos c17] at hf
        refine lv_iload_n hx hb dX9_depend_24 rfl (lv_at hl 2 rfl) ?_
        refine lv_iload hx hb dX9_depend_25 (lv_at hl 4 rfl) ?_
        refine lv_icmp_eq (tgt := 50) hx hb dX9_depend_27 (by decide) (fun c18 => ?_) (fun c18 => ?_)
        · rw [if_pos c18] at hf
          exact J50 v_refused _ _ _ hf hP hD hS (lv_sub hl [0] rfl)
        · rw [if_neg c18] at hf
          exact J30 v_refused x1 x2 x3 x4 _ _ _ hf hP hD hS (lv_sub hl [0, 1, 2, 3, 4] rfl)

set_option maxHeartbeats 4000000 in
set_option maxRecDepth 100000 in
theorem c9_holder (l : Launch) (D : va_G) (cB cI cZ cO : ClassId) (h : Nat → Nat) (sz : Nat) (x1 : Int32) (v_all : Nat → Int32) (v_past : Nat → Int32) (v_states : Int32) (v_refused : Nat → Int32) (v_far : Nat → Int32) (v_row : Nat → Int32) (v_stepAt : Nat → Int32) (v_depth : Int32) (v_tries : Nat → Int32) (v_values : Nat → Int32) (v_wrong : Int32) (v_isEnd : Nat → Int32) (v_found : Nat → Int32) (v_reached : Nat → Int32) (v_stepIn : Nat → Int32) (v_laid : Nat → Int32) (v_firstRow : Nat → Int32) (v_text : Nat → Int32) (v_textLong : Int32) (v_spot : Int32) (v_taken : Int32) (v_counted : Nat → Int32) (r0 : Int32) (hf : f9_holder v_all v_far x1 = some r0) : Met l yX9_holder wsX9_holder rm9_holder (va_Pc [.ref (h 0), .int x1] (kb_B D (ka_tys cB cI cZ cO) sz (wdM cI cZ h v_all v_past v_states v_refused v_far v_row v_stepAt v_depth v_tries v_values v_wrong v_isEnd v_found v_reached v_stepIn v_laid v_firstRow v_text v_textLong v_spot v_taken v_counted))) (va_Qi (kb_post .int r0) (fun _ t => va_P D vwCl (wdM cI cZ h v_all v_past v_states v_refused v_far v_row v_stepAt v_depth v_tries v_values v_wrong v_isEnd v_found v_reached v_stepIn v_laid v_firstRow v_text v_textLong v_spot v_taken v_counted) t.heap) (va_A (wdM cI cZ h v_all v_past v_states v_refused v_far v_row v_stepAt v_depth v_tries v_values v_wrong v_isEnd v_found v_reached v_stepIn v_laid v_firstRow v_text v_textLong v_spot v_taken v_counted) sz)) 0 0 (va_A (wdM cI cZ h v_all v_past v_states v_refused v_far v_row v_stepAt v_depth v_tries v_values v_wrong v_isEnd v_found v_reached v_stepIn v_laid v_firstRow v_text v_textLong v_spot v_taken v_counted) sz) := by
  refine kb_metZ (cc := cX9_holder) (maxL := 7) (ty := .int) (by decide) rfl (Nat.le_of_ble_eq_true rfl) ?_
  intro p e s m args below meth c Q A ls H hx hb hml hown hts hK hN hP hD hS hA hl hend
  have hown : s.vm.findClass RX9 = some m.cls := hown
  have hl : lv_has ls 7 [(0, .ref (h 0)), (1, .int x1)] := hl
  have hin9 : ∀ w ∈ u_ws RX9 TX9 22, w ∈ wsX9_holder := by decide +kernel
  have J109 : ∀ (x2 : Int32) (H : Heap) (locs : List Loc) (ls : Array Slot), f9_holder_b109 v_all v_far x2 = some r0 → va_P D vwCl (wdM cI cZ h v_all v_past v_states v_refused v_far v_row v_stepAt v_depth v_tries v_values v_wrong v_isEnd v_found v_reached v_stepIn v_laid v_firstRow v_text v_textLong v_spot v_taken v_counted) H → va_D A (wdM cI cZ h v_all v_past v_states v_refused v_far v_row v_stepAt v_depth v_tries v_values v_wrong v_isEnd v_found v_reached v_stepIn v_laid v_firstRow v_text v_textLong v_spot v_taken v_counted) → va_S A s.heap H locs → lv_has ls 7 [(2, .int x2)] → W p l e rm9_holder s m args below meth c H locs 0 0 Q (F0 m 109 ls []) := by
    intro x2 H locs ls hf hP hD hS hl
    rw [f9_holder_b109] at hf
    refine lv_iload_n hx hb dX9_holder_109 rfl (lv_at hl 0 rfl) ?_
    obtain rfl := Option.some.inj hf
    exact hend _ _ _ _ rfl hP hS dX9_holder_110
  have J4 : ∀ (n : Nat) (x1 : Int32) (x2 : Int32) (x3 : Int32) (H : Heap) (locs : List Loc) (ls : Array Slot), f9_holder_l4 n v_all v_far x1 x2 x3 = some r0 → va_P D vwCl (wdM cI cZ h v_all v_past v_states v_refused v_far v_row v_stepAt v_depth v_tries v_values v_wrong v_isEnd v_found v_reached v_stepIn v_laid v_firstRow v_text v_textLong v_spot v_taken v_counted) H → va_D A (wdM cI cZ h v_all v_past v_states v_refused v_far v_row v_stepAt v_depth v_tries v_values v_wrong v_isEnd v_found v_reached v_stepIn v_laid v_firstRow v_text v_textLong v_spot v_taken v_counted) → va_S A s.heap H locs → lv_has ls 7 [(0, .ref (h 0)), (1, .int x1), (2, .int x2), (3, .int x3)] → W p l e rm9_holder s m args below meth c H locs 0 0 Q (F0 m 4 ls []) := by
    intro n
    induction n with
    | zero =>
      intro x1 x2 x3 H locs ls hf
      cases (show (none : Option (Int32)) = some r0 from hf)
    | succ n ih =>
      have J102 : ∀ (x1 : Int32) (x3 : Int32) (s0 : Int32) (H : Heap) (locs : List Loc) (ls : Array Slot), f9_holder_b102 (f9_holder_l4 n) v_all v_far x1 x3 s0 = some r0 → va_P D vwCl (wdM cI cZ h v_all v_past v_states v_refused v_far v_row v_stepAt v_depth v_tries v_values v_wrong v_isEnd v_found v_reached v_stepIn v_laid v_firstRow v_text v_textLong v_spot v_taken v_counted) H → va_D A (wdM cI cZ h v_all v_past v_states v_refused v_far v_row v_stepAt v_depth v_tries v_values v_wrong v_isEnd v_found v_reached v_stepIn v_laid v_firstRow v_text v_textLong v_spot v_taken v_counted) → va_S A s.heap H locs → lv_has ls 7 [(0, .ref (h 0)), (1, .int x1), (3, .int x3)] → W p l e rm9_holder s m args below meth c H locs 0 0 Q (F0 m 102 ls [.int s0]) := by
        intro x1 x3 s0 H locs ls hf hP hD hS hl
        rw [f9_holder_b102] at hf
        refine lv_istore_n (lv' := [(2, .int s0), (0, .ref (h 0)), (1, .int x1), (3, .int x3)]) hx hb dX9_holder_102 rfl hl (by decide) rfl (fun ls hl => ?_)
        refine lv_iinc (v := (x3 + 1)) (lv' := [(3, .int (x3 + 1)), (2, .int s0), (0, .ref (h 0)), (1, .int x1)]) hx hb dX9_holder_103 hl (k := 3) rfl rfl (by decide) rfl (fun ls hl => ?_)
        refine lv_goto (tgt := 4) hx hb dX9_holder_106 (by decide) ?_
        exact ih x1 s0 (x3 + 1) _ _ _ hf hP hD hS (lv_sub hl [2, 3, 1, 0] rfl)
      have J92 : ∀ (x1 : Int32) (x2 : Int32) (x3 : Int32) (x4 : Int32) (H : Heap) (locs : List Loc) (ls : Array Slot), f9_holder_b92 (f9_holder_l4 n) v_all v_far x1 x2 x3 x4 = some r0 → va_P D vwCl (wdM cI cZ h v_all v_past v_states v_refused v_far v_row v_stepAt v_depth v_tries v_values v_wrong v_isEnd v_found v_reached v_stepIn v_laid v_firstRow v_text v_textLong v_spot v_taken v_counted) H → va_D A (wdM cI cZ h v_all v_past v_states v_refused v_far v_row v_stepAt v_depth v_tries v_values v_wrong v_isEnd v_found v_reached v_stepIn v_laid v_firstRow v_text v_textLong v_spot v_taken v_counted) → va_S A s.heap H locs → lv_has ls 7 [(0, .ref (h 0)), (1, .int x1), (2, .int x2), (3, .int x3), (4, .int x4)] → W p l e rm9_holder s m args below meth c H locs 0 0 Q (F0 m 92 ls []) := by
        intro x1 x2 x3 x4 H locs ls hf hP hD hS hl
        rw [f9_holder_b92] at hf
        refine lv_iload hx hb dX9_holder_92 (lv_at hl 4 rfl) ?_
        refine lv_if_eq (tgt := 101) hx hb dX9_holder_94 (by decide) (fun c15 => ?_) (fun c15 => ?_)
        · rw [if_pos c15] at hf
          refine lv_iload_n hx hb dX9_holder_101 rfl (lv_at hl 2 rfl) ?_
          exact J102 x1 x3 x2 _ _ _ hf hP hD hS (lv_sub hl [0, 1, 3] rfl)
        · rw [if_neg c15] at hf
          refine lv_iload_n hx hb dX9_holder_97 rfl (lv_at hl 3 rfl) ?_
          refine lv_goto (tgt := 102) hx hb dX9_holder_98 (by decide) ?_
          exact J102 x1 x3 x3 _ _ _ hf hP hD hS (lv_sub hl [0, 1, 3] rfl)
      have J15 : ∀ (n15 : Nat) (x1 : Int32) (x2 : Int32) (x3 : Int32) (x4 : Int32) (x5 : Int32) (H : Heap) (locs : List Loc) (ls : Array Slot), f9_holder_l15 (f9_holder_l4 n) n15 v_all v_far x1 x2 x3 x4 x5 = some r0 → va_P D vwCl (wdM cI cZ h v_all v_past v_states v_refused v_far v_row v_stepAt v_depth v_tries v_values v_wrong v_isEnd v_found v_reached v_stepIn v_laid v_firstRow v_text v_textLong v_spot v_taken v_counted) H → va_D A (wdM cI cZ h v_all v_past v_states v_refused v_far v_row v_stepAt v_depth v_tries v_values v_wrong v_isEnd v_found v_reached v_stepIn v_laid v_firstRow v_text v_textLong v_spot v_taken v_counted) → va_S A s.heap H locs → lv_has ls 7 [(0, .ref (h 0)), (1, .int x1), (2, .int x2), (3, .int x3), (4, .int x4), (5, .int x5)] → W p l e rm9_holder s m args below meth c H locs 0 0 Q (F0 m 15 ls []) := by
        intro n15
        induction n15 with
        | zero =>
          intro x1 x2 x3 x4 x5 H locs ls hf
          cases (show (none : Option (Int32)) = some r0 from hf)
        | succ n15 ih15 =>
          have J84 : ∀ (x1 : Int32) (x2 : Int32) (x3 : Int32) (x5 : Int32) (s0 : Int32) (H : Heap) (locs : List Loc) (ls : Array Slot), f9_holder_b84 (f9_holder_l4 n) (f9_holder_l15 (f9_holder_l4 n) n15) v_all v_far x1 x2 x3 x5 s0 = some r0 → va_P D vwCl (wdM cI cZ h v_all v_past v_states v_refused v_far v_row v_stepAt v_depth v_tries v_values v_wrong v_isEnd v_found v_reached v_stepIn v_laid v_firstRow v_text v_textLong v_spot v_taken v_counted) H → va_D A (wdM cI cZ h v_all v_past v_states v_refused v_far v_row v_stepAt v_depth v_tries v_values v_wrong v_isEnd v_found v_reached v_stepIn v_laid v_firstRow v_text v_textLong v_spot v_taken v_counted) → va_S A s.heap H locs → lv_has ls 7 [(0, .ref (h 0)), (1, .int x1), (2, .int x2), (3, .int x3), (5, .int x5)] → W p l e rm9_holder s m args below meth c H locs 0 0 Q (F0 m 84 ls [.int s0]) := by
            intro x1 x2 x3 x5 s0 H locs ls hf hP hD hS hl
            rw [f9_holder_b84] at hf
            refine lv_istore (lv' := [(4, .int s0), (0, .ref (h 0)), (1, .int x1), (2, .int x2), (3, .int x3), (5, .int x5)]) hx hb dX9_holder_84 hl (by decide) rfl (fun ls hl => ?_)
            refine lv_iinc (v := (x5 + 1)) (lv' := [(5, .int (x5 + 1)), (4, .int s0), (0, .ref (h 0)), (1, .int x1), (2, .int x2), (3, .int x3)]) hx hb dX9_holder_86 hl (k := 5) rfl rfl (by decide) rfl (fun ls hl => ?_)
            refine lv_goto (tgt := 15) hx hb dX9_holder_89 (by decide) ?_
            exact ih15 x1 x2 x3 s0 (x5 + 1) _ _ _ hf hP hD hS (lv_sub hl [2, 3, 4, 5, 1, 0] rfl)
          have J55 : ∀ (x1 : Int32) (x2 : Int32) (x3 : Int32) (x4 : Int32) (x5 : Int32) (s0 : Int32) (H : Heap) (locs : List Loc) (ls : Array Slot), f9_holder_b55 (f9_holder_l4 n) (f9_holder_l15 (f9_holder_l4 n) n15) v_all v_far x1 x2 x3 x4 x5 s0 = some r0 → va_P D vwCl (wdM cI cZ h v_all v_past v_states v_refused v_far v_row v_stepAt v_depth v_tries v_values v_wrong v_isEnd v_found v_reached v_stepIn v_laid v_firstRow v_text v_textLong v_spot v_taken v_counted) H → va_D A (wdM cI cZ h v_all v_past v_states v_refused v_far v_row v_stepAt v_depth v_tries v_values v_wrong v_isEnd v_found v_reached v_stepIn v_laid v_firstRow v_text v_textLong v_spot v_taken v_counted) → va_S A s.heap H locs → lv_has ls 7 [(0, .ref (h 0)), (1, .int x1), (2, .int x2), (3, .int x3), (4, .int x4), (5, .int x5)] → W p l e rm9_holder s m args below meth c H locs 0 0 Q (F0 m 55 ls [.int s0]) := by
            intro x1 x2 x3 x4 x5 s0 H locs ls hf hP hD hS hl
            rw [f9_holder_b55] at hf
            refine lv_istore (lv' := [(6, .int s0), (0, .ref (h 0)), (1, .int x1), (2, .int x2), (3, .int x3), (4, .int x4), (5, .int x5)]) hx hb dX9_holder_55 hl (by decide) rfl (fun ls hl => ?_)
            refine lv_iload hx hb dX9_holder_57 (lv_at hl 0 rfl) ?_
            refine lv_if_eq (tgt := 82) hx hb dX9_holder_59 (by decide) (fun c16 => ?_) (fun c16 => ?_)
            · rw [if_pos c16] at hf
              refine lv_iload hx hb dX9_holder_82 (lv_at hl 5 rfl) ?_
              exact J84 x1 x2 x3 x5 x4 _ _ _ hf hP hD hS (lv_sub hl [1, 2, 3, 4, 6] rfl)
            · rw [if_neg c16] at hf
              refine lv_aload_n hx hb dX9_holder_62 rfl (lv_at hl 1 rfl) ?_
              refine lv_iload_n hx hb dX9_holder_63 rfl (lv_at hl 4 rfl) ?_
              refine lv_iload hx hb dX9_holder_64 (lv_at hl 6 rfl) ?_
              refine lv_iconst (v := 0) hx hb dX9_holder_66 (by decide) ?_
              refine kb_bind hf (fun q17 hq17 hf => ?_)
              have hPc : va_P D vwCl (wdM cI cZ h v_all v_past v_states v_refused v_far v_row v_stepAt v_depth v_tries v_values v_wrong v_isEnd v_found v_reached v_stepIn v_laid v_firstRow v_text v_textLong v_spot v_taken v_counted) H := hP.sub [0, 1, 2, 3, 4, 5, 6, 7, 8, 9, 10, 11, 12, 13, 14, 15, 16] rfl
              have hDc : va_D A (wdM cI cZ h v_all v_past v_states v_refused v_far v_row v_stepAt v_depth v_tries v_values v_wrong v_isEnd v_found v_reached v_stepIn v_laid v_firstRow v_text v_textLong v_spot v_taken v_counted) := hD.sub [0, 1, 2, 3, 4, 5, 6, 7, 8, 9, 10, 11, 12, 13, 14, 15, 16] (by decide) rfl
              refine kd_iR (va_runV (As := [.int x3, .int x5, .int (0 : Int32)]) (rest := []) ⟨hx, hb, hml, hown, hts⟩ (c9_its l D cB cI cZ cO h H.size x3 x5 (0 : Int32) v_all v_past v_states v_refused v_far v_row v_stepAt v_depth v_tries v_values v_wrong v_isEnd v_found v_reached v_stepIn v_laid v_firstRow v_text v_textLong v_spot v_taken v_counted q17 hq17) (cwV 3 hts gX9_holder_X9_its rfl rfl rfl (by decide +kernel) ⟨Nat.le_of_ble_eq_true rfl, Nat.le_of_ble_eq_true rfl⟩) ⟨kb_blind, va_recv hK hPc (ci := 6) (q0 := 0) rfl rfl, kb_pre hPc hDc hK hN⟩ rfl rfl hl.1 rfl (lv_room (Nat.le_of_ble_eq_true rfl)) dX9_holder_67 ⟨Nat.le_refl _, Nat.le_refl _⟩) hP hD hS hA [0, 1, 2, 3, 4, 5, 6, 7, 8, 9, 10, 11, 12, 13, 14, 15, 16] rfl (fun H locs hn18 hP hS => ?_)
              refine lv_iconst (v := 4) hx hb dX9_holder_70 (by decide) ?_
              refine lv_icmp_ne (tgt := 78) hx hb dX9_holder_71 (by decide) (fun c19 => ?_) (fun c19 => ?_)
              · rw [if_neg c19] at hf
                refine lv_iconst (v := 0) hx hb dX9_holder_78 (by decide) ?_
                refine lv_goto (tgt := 84) hx hb dX9_holder_79 (by decide) ?_
                exact J84 x1 x2 x3 x5 (0 : Int32) _ _ _ hf hP hD hS (lv_sub hl [1, 2, 3, 4, 6] rfl)
              · rw [if_pos c19] at hf
                refine lv_iconst (v := 1) hx hb dX9_holder_74 (by decide) ?_
                refine lv_goto (tgt := 84) hx hb dX9_holder_75 (by decide) ?_
                exact J84 x1 x2 x3 x5 (1 : Int32) _ _ _ hf hP hD hS (lv_sub hl [1, 2, 3, 4, 6] rfl)
          have J54 : ∀ (x1 : Int32) (x2 : Int32) (x3 : Int32) (x4 : Int32) (x5 : Int32) (H : Heap) (locs : List Loc) (ls : Array Slot), f9_holder_b54 (f9_holder_l4 n) (f9_holder_l15 (f9_holder_l4 n) n15) v_all v_far x1 x2 x3 x4 x5 = some r0 → va_P D vwCl (wdM cI cZ h v_all v_past v_states v_refused v_far v_row v_stepAt v_depth v_tries v_values v_wrong v_isEnd v_found v_reached v_stepIn v_laid v_firstRow v_text v_textLong v_spot v_taken v_counted) H → va_D A (wdM cI cZ h v_all v_past v_states v_refused v_far v_row v_stepAt v_depth v_tries v_values v_wrong v_isEnd v_found v_reached v_stepIn v_laid v_firstRow v_text v_textLong v_spot v_taken v_counted) → va_S A s.heap H locs → lv_has ls 7 [(0, .ref (h 0)), (1, .int x1), (2, .int x2), (3, .int x3), (4, .int x4), (5, .int x5)] → W p l e rm9_holder s m args below meth c H locs 0 0 Q (F0 m 54 ls []) := by
            intro x1 x2 x3 x4 x5 H locs ls hf hP hD hS hl
            rw [f9_holder_b54] at hf
            refine lv_iconst (v := 0) hx hb dX9_holder_54 (by decide) ?_
            exact J55 x1 x2 x3 x4 x5 (0 : Int32) _ _ _ hf hP hD hS (lv_sub hl [0, 1, 2, 3, 4, 5] rfl)
          intro x1 x2 x3 x4 x5 H locs ls hf hP hD hS hl
          rw [f9_holder_l15_s] at hf
          refine lv_iload hx hb dX9_holder_15 (lv_at hl 5 rfl) ?_
          refine lv_aload_n hx hb dX9_holder_17 rfl (lv_at hl 0 rfl) ?_
          refine va_get (D := D) (cl := vwCl) (ci := 6) (v := .ref (h 4)) (C := RX9) (T := TX9) (N := 22) hx hb hts hin9 hown hK hP 0 rfl rfl 4 (by decide) (hts (.fieldLink RX9 19 "StepOrdersModel" "far" "[I") (by decide +kernel)) (fun _ h9 => h9) rfl dX9_holder_18 ?_
          refine lv_iload_n hx hb dX9_holder_21 rfl (lv_at hl 3 rfl) ?_
          refine kb_bind hf (fun v20 hv20 hf => ?_)
          refine ka_iald (D := D) (cl := vwCl) hx hb hK hP 4 1 (f := v_far) rfl rfl (ard_in hv20) (ard_v hv20) dX9_holder_22 ?_
          refine lv_icmp_ge (tgt := 92) hx hb dX9_holder_23 (by decide) (fun c21 => ?_) (fun c21 => ?_)
          · rw [if_pos c21] at hf
            exact J92 x1 x2 x3 x4 _ _ _ hf hP hD hS (lv_sub hl [0, 1, 2, 3, 4] rfl)
          · rw [if_neg c21] at hf
            refine lv_aload_n hx hb dX9_holder_26 rfl (lv_at hl 0 rfl) ?_
            refine lv_iload_n hx hb dX9_holder_27 rfl (lv_at hl 3 rfl) ?_
            refine lv_iload hx hb dX9_holder_28 (lv_at hl 5 rfl) ?_
            refine lv_iconst (v := 0) hx hb dX9_holder_30 (by decide) ?_
            refine kb_bind hf (fun q22 hq22 hf => ?_)
            have hPc : va_P D vwCl (wdM cI cZ h v_all v_past v_states v_refused v_far v_row v_stepAt v_depth v_tries v_values v_wrong v_isEnd v_found v_reached v_stepIn v_laid v_firstRow v_text v_textLong v_spot v_taken v_counted) H := hP.sub [0, 1, 2, 3, 4, 5, 6, 7, 8, 9, 10, 11, 12, 13, 14, 15, 16] rfl
            have hDc : va_D A (wdM cI cZ h v_all v_past v_states v_refused v_far v_row v_stepAt v_depth v_tries v_values v_wrong v_isEnd v_found v_reached v_stepIn v_laid v_firstRow v_text v_textLong v_spot v_taken v_counted) := hD.sub [0, 1, 2, 3, 4, 5, 6, 7, 8, 9, 10, 11, 12, 13, 14, 15, 16] (by decide) rfl
            refine kd_iR (va_runV (As := [.int x3, .int x5, .int (0 : Int32)]) (rest := []) ⟨hx, hb, hml, hown, hts⟩ (c9_its l D cB cI cZ cO h H.size x3 x5 (0 : Int32) v_all v_past v_states v_refused v_far v_row v_stepAt v_depth v_tries v_values v_wrong v_isEnd v_found v_reached v_stepIn v_laid v_firstRow v_text v_textLong v_spot v_taken v_counted q22 hq22) (cwV 3 hts gX9_holder_X9_its rfl rfl rfl (by decide +kernel) ⟨Nat.le_of_ble_eq_true rfl, Nat.le_of_ble_eq_true rfl⟩) ⟨kb_blind, va_recv hK hPc (ci := 6) (q0 := 0) rfl rfl, kb_pre hPc hDc hK hN⟩ rfl rfl hl.1 rfl (lv_room (Nat.le_of_ble_eq_true rfl)) dX9_holder_31 ⟨Nat.le_refl _, Nat.le_refl _⟩) hP hD hS hA [0, 1, 2, 3, 4, 5, 6, 7, 8, 9, 10, 11, 12, 13, 14, 15, 16] rfl (fun H locs hn23 hP hS => ?_)
            refine lv_iconst (v := 4) hx hb dX9_holder_34 (by decide) ?_
            refine lv_icmp_lt (tgt := 54) hx hb dX9_holder_35 (by decide) (fun c24 => ?_) (fun c24 => ?_)
            · rw [if_pos c24] at hf
              exact J54 x1 x2 x3 x4 x5 _ _ _ hf hP hD hS (lv_sub hl [0, 1, 2, 3, 4, 5] rfl)
            · rw [if_neg c24] at hf
              refine lv_aload_n hx hb dX9_holder_38 rfl (lv_at hl 0 rfl) ?_
              refine lv_iload_n hx hb dX9_holder_39 rfl (lv_at hl 3 rfl) ?_
              refine lv_iload hx hb dX9_holder_40 (lv_at hl 5 rfl) ?_
              refine lv_iconst (v := 1) hx hb dX9_holder_42 (by decide) ?_
              refine kb_bind hf (fun q25 hq25 hf => ?_)
              have hPc : va_P D vwCl (wdM cI cZ h v_all v_past v_states v_refused v_far v_row v_stepAt v_depth v_tries v_values v_wrong v_isEnd v_found v_reached v_stepIn v_laid v_firstRow v_text v_textLong v_spot v_taken v_counted) H := hP.sub [0, 1, 2, 3, 4, 5, 6, 7, 8, 9, 10, 11, 12, 13, 14, 15, 16] rfl
              have hDc : va_D A (wdM cI cZ h v_all v_past v_states v_refused v_far v_row v_stepAt v_depth v_tries v_values v_wrong v_isEnd v_found v_reached v_stepIn v_laid v_firstRow v_text v_textLong v_spot v_taken v_counted) := hD.sub [0, 1, 2, 3, 4, 5, 6, 7, 8, 9, 10, 11, 12, 13, 14, 15, 16] (by decide) rfl
              refine kd_iR (va_runV (As := [.int x3, .int x5, .int (1 : Int32)]) (rest := []) ⟨hx, hb, hml, hown, hts⟩ (c9_its l D cB cI cZ cO h H.size x3 x5 (1 : Int32) v_all v_past v_states v_refused v_far v_row v_stepAt v_depth v_tries v_values v_wrong v_isEnd v_found v_reached v_stepIn v_laid v_firstRow v_text v_textLong v_spot v_taken v_counted q25 hq25) (cwV 3 hts gX9_holder_X9_its rfl rfl rfl (by decide +kernel) ⟨Nat.le_of_ble_eq_true rfl, Nat.le_of_ble_eq_true rfl⟩) ⟨kb_blind, va_recv hK hPc (ci := 6) (q0 := 0) rfl rfl, kb_pre hPc hDc hK hN⟩ rfl rfl hl.1 rfl (lv_room (Nat.le_of_ble_eq_true rfl)) dX9_holder_43 ⟨Nat.le_refl _, Nat.le_refl _⟩) hP hD hS hA [0, 1, 2, 3, 4, 5, 6, 7, 8, 9, 10, 11, 12, 13, 14, 15, 16] rfl (fun H locs hn26 hP hS => ?_)
              refine lv_iload_n hx hb dX9_holder_46 rfl (lv_at hl 1 rfl) ?_
              refine lv_icmp_ne (tgt := 54) hx hb dX9_holder_47 (by decide) (fun c27 => ?_) (fun c27 => ?_)
              · rw [if_neg c27] at hf
                exact J54 x1 x2 x3 x4 x5 _ _ _ hf hP hD hS (lv_sub hl [0, 1, 2, 3, 4, 5] rfl)
              · rw [if_pos c27] at hf
                refine lv_iconst (v := 1) hx hb dX9_holder_50 (by decide) ?_
                refine lv_goto (tgt := 55) hx hb dX9_holder_51 (by decide) ?_
                exact J55 x1 x2 x3 x4 x5 (1 : Int32) _ _ _ hf hP hD hS (lv_sub hl [0, 1, 2, 3, 4, 5] rfl)
      intro x1 x2 x3 H locs ls hf hP hD hS hl
      rw [f9_holder_l4_s] at hf
      refine lv_iload_n hx hb dX9_holder_4 rfl (lv_at hl 3 rfl) ?_
      refine lv_iconst (v := 3) hx hb dX9_holder_5 (by decide) ?_
      refine lv_icmp_ge (tgt := 109) hx hb dX9_holder_6 (by decide) (fun c28 => ?_) (fun c28 => ?_)
      · rw [if_pos c28] at hf
        exact J109 x2 _ _ _ hf hP hD hS (lv_sub hl [2] rfl)
      · rw [if_neg c28] at hf
        refine lv_iconst (v := 0) hx hb dX9_holder_9 (by decide) ?_
        refine lv_istore (lv' := [(4, .int (0 : Int32)), (0, .ref (h 0)), (1, .int x1), (2, .int x2), (3, .int x3)]) hx hb dX9_holder_10 hl (by decide) rfl (fun ls hl => ?_)
        refine lv_iconst (v := 0) hx hb dX9_holder_12 (by decide) ?_
        refine lv_istore (lv' := [(5, .int (0 : Int32)), (4, .int (0 : Int32)), (0, .ref (h 0)), (1, .int x1), (2, .int x2), (3, .int x3)]) hx hb dX9_holder_13 hl (by decide) rfl (fun ls hl => ?_)
        exact J15 kFUEL x1 x2 x3 (0 : Int32) (0 : Int32) _ _ _ hf hP hD hS (lv_sub hl [2, 3, 4, 5, 1, 0] rfl)
  rw [f9_holder] at hf
  refine lv_iconst (v := (-1)) hx hb dX9_holder_0 (by decide) ?_
  refine lv_istore_n (lv' := [(2, .int (-1 : Int32)), (0, .ref (h 0)), (1, .int x1)]) hx hb dX9_holder_1 rfl hl (by decide) rfl (fun ls hl => ?_)
  refine lv_iconst (v := 0) hx hb dX9_holder_2 (by decide) ?_
  refine lv_istore_n (lv' := [(3, .int (0 : Int32)), (2, .int (-1 : Int32)), (0, .ref (h 0)), (1, .int x1)]) hx hb dX9_holder_3 rfl hl (by decide) rfl (fun ls hl => ?_)
  exact J4 kFUEL x1 (-1 : Int32) (0 : Int32) _ _ _ hf hP hD hS (lv_sub hl [2, 3, 1, 0] rfl)

set_option maxHeartbeats 4000000 in
set_option maxRecDepth 100000 in
theorem c9_canDo (l : Launch) (D : va_G) (cB cI cZ cO : ClassId) (h : Nat → Nat) (sz : Nat) (x1 : Int32) (v_all : Nat → Int32) (v_past : Nat → Int32) (v_states : Int32) (v_refused : Nat → Int32) (v_far : Nat → Int32) (v_row : Nat → Int32) (v_stepAt : Nat → Int32) (v_depth : Int32) (v_tries : Nat → Int32) (v_values : Nat → Int32) (v_wrong : Int32) (v_isEnd : Nat → Int32) (v_found : Nat → Int32) (v_reached : Nat → Int32) (v_stepIn : Nat → Int32) (v_laid : Nat → Int32) (v_firstRow : Nat → Int32) (v_text : Nat → Int32) (v_textLong : Int32) (v_spot : Int32) (v_taken : Int32) (v_counted : Nat → Int32) (r0 : Int32) (hf : f9_canDo v_all v_far x1 = some r0) : Met l yX9_canDo wsX9_canDo rm9_canDo (va_Pc [.ref (h 0), .int x1] (kb_B D (ka_tys cB cI cZ cO) sz (wdM cI cZ h v_all v_past v_states v_refused v_far v_row v_stepAt v_depth v_tries v_values v_wrong v_isEnd v_found v_reached v_stepIn v_laid v_firstRow v_text v_textLong v_spot v_taken v_counted))) (va_Qi (kb_post .boolean r0) (fun _ t => va_P D vwCl (wdM cI cZ h v_all v_past v_states v_refused v_far v_row v_stepAt v_depth v_tries v_values v_wrong v_isEnd v_found v_reached v_stepIn v_laid v_firstRow v_text v_textLong v_spot v_taken v_counted) t.heap) (va_A (wdM cI cZ h v_all v_past v_states v_refused v_far v_row v_stepAt v_depth v_tries v_values v_wrong v_isEnd v_found v_reached v_stepIn v_laid v_firstRow v_text v_textLong v_spot v_taken v_counted) sz)) 0 0 (va_A (wdM cI cZ h v_all v_past v_states v_refused v_far v_row v_stepAt v_depth v_tries v_values v_wrong v_isEnd v_found v_reached v_stepIn v_laid v_firstRow v_text v_textLong v_spot v_taken v_counted) sz) := by
  refine kb_metZ (cc := cX9_canDo) (maxL := 4) (ty := .boolean) (by decide) rfl (Nat.le_of_ble_eq_true rfl) ?_
  intro p e s m args below meth c Q A ls H hx hb hml hown hts hK hN hP hD hS hA hl hend
  have hown : s.vm.findClass RX9 = some m.cls := hown
  have hl : lv_has ls 4 [(0, .ref (h 0)), (1, .int x1)] := hl
  have hin9 : ∀ w ∈ u_ws RX9 TX9 22, w ∈ wsX9_canDo := by decide +kernel
  have J80 : ∀  (H : Heap) (locs : List Loc) (ls : Array Slot), f9_canDo_b80 v_all v_far = some r0 → va_P D vwCl (wdM cI cZ h v_all v_past v_states v_refused v_far v_row v_stepAt v_depth v_tries v_values v_wrong v_isEnd v_found v_reached v_stepIn v_laid v_firstRow v_text v_textLong v_spot v_taken v_counted) H → va_D A (wdM cI cZ h v_all v_past v_states v_refused v_far v_row v_stepAt v_depth v_tries v_values v_wrong v_isEnd v_found v_reached v_stepIn v_laid v_firstRow v_text v_textLong v_spot v_taken v_counted) → va_S A s.heap H locs → lv_has ls 4 [] → W p l e rm9_canDo s m args below meth c H locs 0 0 Q (F0 m 80 ls []) := by
    intro  H locs ls hf hP hD hS hl
    rw [f9_canDo_b80] at hf
    refine lv_iconst (v := 1) hx hb dX9_canDo_80 (by decide) ?_
    refine lv_goto (tgt := 85) hx hb dX9_canDo_81 (by decide) ?_
    obtain rfl := Option.some.inj hf
    exact hend _ _ _ _ rfl hP hS dX9_canDo_85
  have J70 : ∀ (x1 : Int32) (x2 : Int32) (x3 : Int32) (H : Heap) (locs : List Loc) (ls : Array Slot), f9_canDo_b70 v_all v_far x1 x2 x3 = some r0 → va_P D vwCl (wdM cI cZ h v_all v_past v_states v_refused v_far v_row v_stepAt v_depth v_tries v_values v_wrong v_isEnd v_found v_reached v_stepIn v_laid v_firstRow v_text v_textLong v_spot v_taken v_counted) H → va_D A (wdM cI cZ h v_all v_past v_states v_refused v_far v_row v_stepAt v_depth v_tries v_values v_wrong v_isEnd v_found v_reached v_stepIn v_laid v_firstRow v_text v_textLong v_spot v_taken v_counted) → va_S A s.heap H locs → lv_has ls 4 [(1, .int x1), (2, .int x2), (3, .int x3)] → W p l e rm9_canDo s m args below meth c H locs 0 0 Q (F0 m 70 ls []) := by
    intro x1 x2 x3 H locs ls hf hP hD hS hl
    rw [f9_canDo_b70] at hf
    refine lv_iload_n hx hb dX9_canDo_70 rfl (lv_at hl 1 rfl) ?_
    refine lv_iconst (v := 5) hx hb dX9_canDo_71 (by decide) ?_
    refine lv_icmp_ne (tgt := 84) hx hb dX9_canDo_72 (by decide) (fun c3 => ?_) (fun c3 => ?_)
    · rw [if_neg c3] at hf
      refine lv_iconst (v := 0) hx hb dX9_canDo_84 (by decide) ?_
      obtain rfl := Option.some.inj hf
      exact hend _ _ _ _ rfl hP hS dX9_canDo_85
    · rw [if_pos c3] at hf
      refine lv_iload_n hx hb dX9_canDo_75 rfl (lv_at hl 2 rfl) ?_
      refine lv_iload_n hx hb dX9_canDo_76 rfl (lv_at hl 0 rfl) ?_
      refine lv_icmp_ne (tgt := 84) hx hb dX9_canDo_77 (by decide) (fun c4 => ?_) (fun c4 => ?_)
      · rw [if_neg c4] at hf
        refine lv_iconst (v := 0) hx hb dX9_canDo_84 (by decide) ?_
        obtain rfl := Option.some.inj hf
        exact hend _ _ _ _ rfl hP hS dX9_canDo_85
      · rw [if_pos c4] at hf
        exact J80  _ _ _ hf hP hD hS (lv_sub hl [] rfl)
  have J54 : ∀ (x1 : Int32) (x2 : Int32) (s0 : Int32) (H : Heap) (locs : List Loc) (ls : Array Slot), f9_canDo_b54 v_all v_far x1 x2 s0 = some r0 → va_P D vwCl (wdM cI cZ h v_all v_past v_states v_refused v_far v_row v_stepAt v_depth v_tries v_values v_wrong v_isEnd v_found v_reached v_stepIn v_laid v_firstRow v_text v_textLong v_spot v_taken v_counted) H → va_D A (wdM cI cZ h v_all v_past v_states v_refused v_far v_row v_stepAt v_depth v_tries v_values v_wrong v_isEnd v_found v_reached v_stepIn v_laid v_firstRow v_text v_textLong v_spot v_taken v_counted) → va_S A s.heap H locs → lv_has ls 4 [(1, .int x1), (2, .int x2)] → W p l e rm9_canDo s m args below meth c H locs 0 0 Q (F0 m 54 ls [.int s0]) := by
    intro x1 x2 s0 H locs ls hf hP hD hS hl
    rw [f9_canDo_b54] at hf
    refine lv_istore_n (lv' := [(3, .int s0), (1, .int x1), (2, .int x2)]) hx hb dX9_canDo_54 rfl hl (by decide) rfl (fun ls hl => ?_)
    refine lv_iload_n hx hb dX9_canDo_55 rfl (lv_at hl 2 rfl) ?_
    refine lv_iconst (v := 4) hx hb dX9_canDo_56 (by decide) ?_
    refine lv_icmp_lt (tgt := 80) hx hb dX9_canDo_57 (by decide) (fun c8 => ?_) (fun c8 => ?_)
    · rw [if_pos c8] at hf
      exact J80  _ _ _ hf hP hD hS (lv_sub hl [] rfl)
    · rw [if_neg c8] at hf
      refine lv_iload_n hx hb dX9_canDo_60 rfl (lv_at hl 2 rfl) ?_
      refine lv_iconst (v := 4) hx hb dX9_canDo_61 (by decide) ?_
      refine lv_icmp_ne (tgt := 70) hx hb dX9_canDo_62 (by decide) (fun c9 => ?_) (fun c9 => ?_)
      · rw [if_neg c9] at hf
        exact J70 x1 x2 s0 _ _ _ hf hP hD hS (lv_sub hl [1, 2, 0] rfl)
      · rw [if_pos c9] at hf
        refine lv_iload_n hx hb dX9_canDo_65 rfl (lv_at hl 0 rfl) ?_
        refine lv_iconst (v := (-1)) hx hb dX9_canDo_66 (by decide) ?_
        refine lv_icmp_eq (tgt := 80) hx hb dX9_canDo_67 (by decide) (fun c10 => ?_) (fun c10 => ?_)
        · rw [if_pos c10] at hf
          exact J80  _ _ _ hf hP hD hS (lv_sub hl [] rfl)
        · rw [if_neg c10] at hf
          exact J70 x1 x2 s0 _ _ _ hf hP hD hS (lv_sub hl [1, 2, 0] rfl)
  rw [f9_canDo] at hf
  refine lv_aload_n hx hb dX9_canDo_0 rfl (lv_at hl 0 rfl) ?_
  refine va_get (D := D) (cl := vwCl) (ci := 6) (v := .ref (h 4)) (C := RX9) (T := TX9) (N := 22) hx hb hts hin9 hown hK hP 0 rfl rfl 4 (by decide) (hts (.fieldLink RX9 19 "StepOrdersModel" "far" "[I") (by decide +kernel)) (fun _ h9 => h9) rfl dX9_canDo_1 ?_
  refine lv_iload_n hx hb dX9_canDo_4 rfl (lv_at hl 1 rfl) ?_
  refine kb_bind hf (fun v11 hv11 hf => ?_)
  refine ka_iald (D := D) (cl := vwCl) hx hb hK hP 4 1 (f := v_far) rfl rfl (ard_in hv11) (ard_v hv11) dX9_canDo_5 ?_
  refine lv_aload_n hx hb dX9_canDo_6 rfl (lv_at hl 0 rfl) ?_
  refine lv_iload_n hx hb dX9_canDo_7 rfl (lv_at hl 1 rfl) ?_
  refine kb_bind hf (fun q12 hq12 hf => ?_)
  have hPc : va_P D vwCl (wdM cI cZ h v_all v_past v_states v_refused v_far v_row v_stepAt v_depth v_tries v_values v_wrong v_isEnd v_found v_reached v_stepIn v_laid v_firstRow v_text v_textLong v_spot v_taken v_counted) H := hP.sub [0, 1, 2, 3, 4, 5, 6, 7, 8, 9, 10, 11, 12, 13, 14, 15, 16] rfl
  have hDc : va_D A (wdM cI cZ h v_all v_past v_states v_refused v_far v_row v_stepAt v_depth v_tries v_values v_wrong v_isEnd v_found v_reached v_stepIn v_laid v_firstRow v_text v_textLong v_spot v_taken v_counted) := hD.sub [0, 1, 2, 3, 4, 5, 6, 7, 8, 9, 10, 11, 12, 13, 14, 15, 16] (by decide) rfl
  refine kd_iR (va_runV (As := [.int x1]) (rest := [.int v11]) ⟨hx, hb, hml, hown, hts⟩ (c9_many l D cB cI cZ cO h H.size x1 v_all v_past v_states v_refused v_far v_row v_stepAt v_depth v_tries v_values v_wrong v_isEnd v_found v_reached v_stepIn v_laid v_firstRow v_text v_textLong v_spot v_taken v_counted q12 hq12) (cwV 1 hts gX9_canDo_X9_many rfl rfl rfl (by decide +kernel) ⟨Nat.le_of_ble_eq_true rfl, Nat.le_of_ble_eq_true rfl⟩) ⟨kb_blind, va_recv hK hPc (ci := 6) (q0 := 0) rfl rfl, kb_pre hPc hDc hK hN⟩ rfl rfl hl.1 rfl (lv_room (Nat.le_of_ble_eq_true rfl)) dX9_canDo_8 ⟨Nat.le_refl _, Nat.le_refl _⟩) hP hD hS hA [0, 1, 2, 3, 4, 5, 6, 7, 8, 9, 10, 11, 12, 13, 14, 15, 16] rfl (fun H locs hn13 hP hS => ?_)
  refine lv_icmp_ne (tgt := 16) hx hb dX9_canDo_11 (by decide) (fun c14 => ?_) (fun c14 => ?_)
  · rw [if_neg c14] at hf
    refine lv_aload_n hx hb dX9_canDo_16 rfl (lv_at hl 0 rfl) ?_
    refine lv_iload_n hx hb dX9_canDo_17 rfl (lv_at hl 1 rfl) ?_
    refine lv_aload_n hx hb dX9_canDo_18 rfl (lv_at hl 0 rfl) ?_
    refine va_get (D := D) (cl := vwCl) (ci := 6) (v := .ref (h 4)) (C := RX9) (T := TX9) (N := 22) hx hb hts hin9 hown hK hP 0 rfl rfl 4 (by decide) (hts (.fieldLink RX9 19 "StepOrdersModel" "far" "[I") (by decide +kernel)) (fun _ h9 => h9) rfl dX9_canDo_19 ?_
    refine lv_iload_n hx hb dX9_canDo_22 rfl (lv_at hl 1 rfl) ?_
    refine kb_bind hf (fun v15 hv15 hf => ?_)
    refine ka_iald (D := D) (cl := vwCl) hx hb hK hP 4 1 (f := v_far) rfl rfl (ard_in hv15) (ard_v hv15) dX9_canDo_23 ?_
    refine lv_iconst (v := 0) hx hb dX9_canDo_24 (by decide) ?_
    refine kb_bind hf (fun q16 hq16 hf => ?_)
    have hPc : va_P D vwCl (wdM cI cZ h v_all v_past v_states v_refused v_far v_row v_stepAt v_depth v_tries v_values v_wrong v_isEnd v_found v_reached v_stepIn v_laid v_firstRow v_text v_textLong v_spot v_taken v_counted) H := hP.sub [0, 1, 2, 3, 4, 5, 6, 7, 8, 9, 10, 11, 12, 13, 14, 15, 16] rfl
    have hDc : va_D A (wdM cI cZ h v_all v_past v_states v_refused v_far v_row v_stepAt v_depth v_tries v_values v_wrong v_isEnd v_found v_reached v_stepIn v_laid v_firstRow v_text v_textLong v_spot v_taken v_counted) := hD.sub [0, 1, 2, 3, 4, 5, 6, 7, 8, 9, 10, 11, 12, 13, 14, 15, 16] (by decide) rfl
    refine kd_iR (va_runV (As := [.int x1, .int v15, .int (0 : Int32)]) (rest := []) ⟨hx, hb, hml, hown, hts⟩ (c9_its l D cB cI cZ cO h H.size x1 v15 (0 : Int32) v_all v_past v_states v_refused v_far v_row v_stepAt v_depth v_tries v_values v_wrong v_isEnd v_found v_reached v_stepIn v_laid v_firstRow v_text v_textLong v_spot v_taken v_counted q16 hq16) (cwV 3 hts gX9_canDo_X9_its rfl rfl rfl (by decide +kernel) ⟨Nat.le_of_ble_eq_true rfl, Nat.le_of_ble_eq_true rfl⟩) ⟨kb_blind, va_recv hK hPc (ci := 6) (q0 := 0) rfl rfl, kb_pre hPc hDc hK hN⟩ rfl rfl hl.1 rfl (lv_room (Nat.le_of_ble_eq_true rfl)) dX9_canDo_25 ⟨Nat.le_refl _, Nat.le_refl _⟩) hP hD hS hA [0, 1, 2, 3, 4, 5, 6, 7, 8, 9, 10, 11, 12, 13, 14, 15, 16] rfl (fun H locs hn17 hP hS => ?_)
    refine lv_istore_n (lv' := [(2, .int q16), (0, .ref (h 0)), (1, .int x1)]) hx hb dX9_canDo_28 rfl hl (by decide) rfl (fun ls hl => ?_)
    refine lv_iload_n hx hb dX9_canDo_29 rfl (lv_at hl 0 rfl) ?_
    refine lv_iconst (v := 4) hx hb dX9_canDo_30 (by decide) ?_
    refine lv_icmp_ge (tgt := 38) hx hb dX9_canDo_31 (by decide) (fun c18 => ?_) (fun c18 => ?_)
    · rw [if_pos c18] at hf
      refine lv_aload_n hx hb dX9_canDo_38 rfl (lv_at hl 1 rfl) ?_
      refine lv_aload_n hx hb dX9_canDo_39 rfl (lv_at hl 1 rfl) ?_
      refine lv_iload_n hx hb dX9_canDo_40 rfl (lv_at hl 2 rfl) ?_
      refine lv_aload_n hx hb dX9_canDo_41 rfl (lv_at hl 1 rfl) ?_
      refine va_get (D := D) (cl := vwCl) (ci := 6) (v := .ref (h 4)) (C := RX9) (T := TX9) (N := 22) hx hb hts hin9 hown hK hP 0 rfl rfl 4 (by decide) (hts (.fieldLink RX9 19 "StepOrdersModel" "far" "[I") (by decide +kernel)) (fun _ h9 => h9) rfl dX9_canDo_42 ?_
      refine lv_iload_n hx hb dX9_canDo_45 rfl (lv_at hl 2 rfl) ?_
      refine kb_bind hf (fun v19 hv19 hf => ?_)
      refine ka_iald (D := D) (cl := vwCl) hx hb hK hP 4 1 (f := v_far) rfl rfl (ard_in hv19) (ard_v hv19) dX9_canDo_46 ?_
      refine lv_iconst (v := 1) hx hb dX9_canDo_47 (by decide) ?_
      refine kb_bind hf (fun q20 hq20 hf => ?_)
      have hPc : va_P D vwCl (wdM cI cZ h v_all v_past v_states v_refused v_far v_row v_stepAt v_depth v_tries v_values v_wrong v_isEnd v_found v_reached v_stepIn v_laid v_firstRow v_text v_textLong v_spot v_taken v_counted) H := hP.sub [0, 1, 2, 3, 4, 5, 6, 7, 8, 9, 10, 11, 12, 13, 14, 15, 16] rfl
      have hDc : va_D A (wdM cI cZ h v_all v_past v_states v_refused v_far v_row v_stepAt v_depth v_tries v_values v_wrong v_isEnd v_found v_reached v_stepIn v_laid v_firstRow v_text v_textLong v_spot v_taken v_counted) := hD.sub [0, 1, 2, 3, 4, 5, 6, 7, 8, 9, 10, 11, 12, 13, 14, 15, 16] (by decide) rfl
      refine kd_iR (va_runV (As := [.int x1, .int v19, .int (1 : Int32)]) (rest := [.ref (h 0)]) ⟨hx, hb, hml, hown, hts⟩ (c9_its l D cB cI cZ cO h H.size x1 v19 (1 : Int32) v_all v_past v_states v_refused v_far v_row v_stepAt v_depth v_tries v_values v_wrong v_isEnd v_found v_reached v_stepIn v_laid v_firstRow v_text v_textLong v_spot v_taken v_counted q20 hq20) (cwV 3 hts gX9_canDo_X9_its rfl rfl rfl (by decide +kernel) ⟨Nat.le_of_ble_eq_true rfl, Nat.le_of_ble_eq_true rfl⟩) ⟨kb_blind, va_recv hK hPc (ci := 6) (q0 := 0) rfl rfl, kb_pre hPc hDc hK hN⟩ rfl rfl hl.1 rfl (lv_room (Nat.le_of_ble_eq_true rfl)) dX9_canDo_48 ⟨Nat.le_refl _, Nat.le_refl _⟩) hP hD hS hA [0, 1, 2, 3, 4, 5, 6, 7, 8, 9, 10, 11, 12, 13, 14, 15, 16] rfl (fun H locs hn21 hP hS => ?_)
      refine kb_bind hf (fun q22 hq22 hf => ?_)
      have hPc : va_P D vwCl (wdM cI cZ h v_all v_past v_states v_refused v_far v_row v_stepAt v_depth v_tries v_values v_wrong v_isEnd v_found v_reached v_stepIn v_laid v_firstRow v_text v_textLong v_spot v_taken v_counted) H := hP.sub [0, 1, 2, 3, 4, 5, 6, 7, 8, 9, 10, 11, 12, 13, 14, 15, 16] rfl
      have hDc : va_D A (wdM cI cZ h v_all v_past v_states v_refused v_far v_row v_stepAt v_depth v_tries v_values v_wrong v_isEnd v_found v_reached v_stepIn v_laid v_firstRow v_text v_textLong v_spot v_taken v_counted) := hD.sub [0, 1, 2, 3, 4, 5, 6, 7, 8, 9, 10, 11, 12, 13, 14, 15, 16] (by decide) rfl
      refine kd_iR (va_runV (As := [.int q20]) (rest := []) ⟨hx, hb, hml, hown, hts⟩ (c9_holder l D cB cI cZ cO h H.size q20 v_all v_past v_states v_refused v_far v_row v_stepAt v_depth v_tries v_values v_wrong v_isEnd v_found v_reached v_stepIn v_laid v_firstRow v_text v_textLong v_spot v_taken v_counted q22 hq22) (cwV 1 hts gX9_canDo_X9_holder rfl rfl rfl (by decide +kernel) ⟨Nat.le_of_ble_eq_true rfl, Nat.le_of_ble_eq_true rfl⟩) ⟨kb_blind, va_recv hK hPc (ci := 6) (q0 := 0) rfl rfl, kb_pre hPc hDc hK hN⟩ rfl rfl hl.1 rfl (lv_room (Nat.le_of_ble_eq_true rfl)) dX9_canDo_51 ⟨Nat.le_refl _, Nat.le_refl _⟩) hP hD hS hA [0, 1, 2, 3, 4, 5, 6, 7, 8, 9, 10, 11, 12, 13, 14, 15, 16] rfl (fun H locs hn23 hP hS => ?_)
      exact J54 x1 q16 q22 _ _ _ hf hP hD hS (lv_sub hl [2, 0] rfl)
    · rw [if_neg c18] at hf
      refine lv_iconst (v := (-1)) hx hb dX9_canDo_34 (by decide) ?_
      refine lv_goto (tgt := 54) hx hb dX9_canDo_35 (by decide) ?_
      exact J54 x1 q16 (-1 : Int32) _ _ _ hf hP hD hS (lv_sub hl [2, 0] rfl)
  · rw [if_pos c14] at hf
    refine lv_iconst (v := 0) hx hb dX9_canDo_14 (by decide) ?_
    obtain rfl := Option.some.inj hf
    exact hend _ _ _ _ rfl hP hS dX9_canDo_15

set_option maxHeartbeats 4000000 in
set_option maxRecDepth 100000 in
theorem c9_isStill (l : Launch) (D : va_G) (cB cI cZ cO : ClassId) (h : Nat → Nat) (sz : Nat) (v_all : Nat → Int32) (v_past : Nat → Int32) (v_states : Int32) (v_refused : Nat → Int32) (v_far : Nat → Int32) (v_row : Nat → Int32) (v_stepAt : Nat → Int32) (v_depth : Int32) (v_tries : Nat → Int32) (v_values : Nat → Int32) (v_wrong : Int32) (v_isEnd : Nat → Int32) (v_found : Nat → Int32) (v_reached : Nat → Int32) (v_stepIn : Nat → Int32) (v_laid : Nat → Int32) (v_firstRow : Nat → Int32) (v_text : Nat → Int32) (v_textLong : Int32) (v_spot : Int32) (v_taken : Int32) (v_counted : Nat → Int32) (r0 : Int32) (hf : f9_isStill v_all v_far = some r0) : Met l yX9_isStill wsX9_isStill rm9_isStill (va_Pc [.ref (h 0)] (kb_B D (ka_tys cB cI cZ cO) sz (wdM cI cZ h v_all v_past v_states v_refused v_far v_row v_stepAt v_depth v_tries v_values v_wrong v_isEnd v_found v_reached v_stepIn v_laid v_firstRow v_text v_textLong v_spot v_taken v_counted))) (va_Qi (kb_post .boolean r0) (fun _ t => va_P D vwCl (wdM cI cZ h v_all v_past v_states v_refused v_far v_row v_stepAt v_depth v_tries v_values v_wrong v_isEnd v_found v_reached v_stepIn v_laid v_firstRow v_text v_textLong v_spot v_taken v_counted) t.heap) (va_A (wdM cI cZ h v_all v_past v_states v_refused v_far v_row v_stepAt v_depth v_tries v_values v_wrong v_isEnd v_found v_reached v_stepIn v_laid v_firstRow v_text v_textLong v_spot v_taken v_counted) sz)) 0 0 (va_A (wdM cI cZ h v_all v_past v_states v_refused v_far v_row v_stepAt v_depth v_tries v_values v_wrong v_isEnd v_found v_reached v_stepIn v_laid v_firstRow v_text v_textLong v_spot v_taken v_counted) sz) := by
  refine kb_metZ (cc := cX9_isStill) (maxL := 1) (ty := .boolean) (by decide) rfl (Nat.le_of_ble_eq_true rfl) ?_
  intro p e s m args below meth c Q A ls H hx hb hml hown hts hK hN hP hD hS hA hl hend
  have hown : s.vm.findClass RX9 = some m.cls := hown
  have hl : lv_has ls 1 [(0, .ref (h 0))] := hl
  rw [f9_isStill] at hf
  refine lv_aload_n hx hb dX9_isStill_0 rfl (lv_at hl 0 rfl) ?_
  refine lv_iconst (v := 0) hx hb dX9_isStill_1 (by decide) ?_
  refine kb_bind hf (fun q1 hq1 hf => ?_)
  have hPc : va_P D vwCl (wdM cI cZ h v_all v_past v_states v_refused v_far v_row v_stepAt v_depth v_tries v_values v_wrong v_isEnd v_found v_reached v_stepIn v_laid v_firstRow v_text v_textLong v_spot v_taken v_counted) H := hP.sub [0, 1, 2, 3, 4, 5, 6, 7, 8, 9, 10, 11, 12, 13, 14, 15, 16] rfl
  have hDc : va_D A (wdM cI cZ h v_all v_past v_states v_refused v_far v_row v_stepAt v_depth v_tries v_values v_wrong v_isEnd v_found v_reached v_stepIn v_laid v_firstRow v_text v_textLong v_spot v_taken v_counted) := hD.sub [0, 1, 2, 3, 4, 5, 6, 7, 8, 9, 10, 11, 12, 13, 14, 15, 16] (by decide) rfl
  refine kd_iR (va_runV (As := [.int (0 : Int32)]) (rest := []) ⟨hx, hb, hml, hown, hts⟩ (c9_canDo l D cB cI cZ cO h H.size (0 : Int32) v_all v_past v_states v_refused v_far v_row v_stepAt v_depth v_tries v_values v_wrong v_isEnd v_found v_reached v_stepIn v_laid v_firstRow v_text v_textLong v_spot v_taken v_counted q1 hq1) (cwV 1 hts gX9_isStill_X9_canDo rfl rfl rfl (by decide +kernel) ⟨Nat.le_of_ble_eq_true rfl, Nat.le_of_ble_eq_true rfl⟩) ⟨kb_blind, va_recv hK hPc (ci := 6) (q0 := 0) rfl rfl, kb_pre hPc hDc hK hN⟩ rfl rfl hl.1 rfl (lv_room (Nat.le_of_ble_eq_true rfl)) dX9_isStill_2 ⟨Nat.le_refl _, Nat.le_refl _⟩) hP hD hS hA [0, 1, 2, 3, 4, 5, 6, 7, 8, 9, 10, 11, 12, 13, 14, 15, 16] rfl (fun H locs hn2 hP hS => ?_)
  refine lv_if_ne (tgt := 28) hx hb dX9_isStill_5 (by decide) (fun c3 => ?_) (fun c3 => ?_)
  · rw [if_neg c3] at hf
    refine lv_iconst (v := 0) hx hb dX9_isStill_28 (by decide) ?_
    obtain rfl := Option.some.inj hf
    exact hend _ _ _ _ rfl hP hS dX9_isStill_29
  · rw [if_pos c3] at hf
    refine lv_aload_n hx hb dX9_isStill_8 rfl (lv_at hl 0 rfl) ?_
    refine lv_iconst (v := 1) hx hb dX9_isStill_9 (by decide) ?_
    refine kb_bind hf (fun q4 hq4 hf => ?_)
    have hPc : va_P D vwCl (wdM cI cZ h v_all v_past v_states v_refused v_far v_row v_stepAt v_depth v_tries v_values v_wrong v_isEnd v_found v_reached v_stepIn v_laid v_firstRow v_text v_textLong v_spot v_taken v_counted) H := hP.sub [0, 1, 2, 3, 4, 5, 6, 7, 8, 9, 10, 11, 12, 13, 14, 15, 16] rfl
    have hDc : va_D A (wdM cI cZ h v_all v_past v_states v_refused v_far v_row v_stepAt v_depth v_tries v_values v_wrong v_isEnd v_found v_reached v_stepIn v_laid v_firstRow v_text v_textLong v_spot v_taken v_counted) := hD.sub [0, 1, 2, 3, 4, 5, 6, 7, 8, 9, 10, 11, 12, 13, 14, 15, 16] (by decide) rfl
    refine kd_iR (va_runV (As := [.int (1 : Int32)]) (rest := []) ⟨hx, hb, hml, hown, hts⟩ (c9_canDo l D cB cI cZ cO h H.size (1 : Int32) v_all v_past v_states v_refused v_far v_row v_stepAt v_depth v_tries v_values v_wrong v_isEnd v_found v_reached v_stepIn v_laid v_firstRow v_text v_textLong v_spot v_taken v_counted q4 hq4) (cwV 1 hts gX9_isStill_X9_canDo rfl rfl rfl (by decide +kernel) ⟨Nat.le_of_ble_eq_true rfl, Nat.le_of_ble_eq_true rfl⟩) ⟨kb_blind, va_recv hK hPc (ci := 6) (q0 := 0) rfl rfl, kb_pre hPc hDc hK hN⟩ rfl rfl hl.1 rfl (lv_room (Nat.le_of_ble_eq_true rfl)) dX9_isStill_10 ⟨Nat.le_refl _, Nat.le_refl _⟩) hP hD hS hA [0, 1, 2, 3, 4, 5, 6, 7, 8, 9, 10, 11, 12, 13, 14, 15, 16] rfl (fun H locs hn5 hP hS => ?_)
    refine lv_if_ne (tgt := 28) hx hb dX9_isStill_13 (by decide) (fun c6 => ?_) (fun c6 => ?_)
    · rw [if_neg c6] at hf
      refine lv_iconst (v := 0) hx hb dX9_isStill_28 (by decide) ?_
      obtain rfl := Option.some.inj hf
      exact hend _ _ _ _ rfl hP hS dX9_isStill_29
    · rw [if_pos c6] at hf
      refine lv_aload_n hx hb dX9_isStill_16 rfl (lv_at hl 0 rfl) ?_
      refine lv_iconst (v := 2) hx hb dX9_isStill_17 (by decide) ?_
      refine kb_bind hf (fun q7 hq7 hf => ?_)
      have hPc : va_P D vwCl (wdM cI cZ h v_all v_past v_states v_refused v_far v_row v_stepAt v_depth v_tries v_values v_wrong v_isEnd v_found v_reached v_stepIn v_laid v_firstRow v_text v_textLong v_spot v_taken v_counted) H := hP.sub [0, 1, 2, 3, 4, 5, 6, 7, 8, 9, 10, 11, 12, 13, 14, 15, 16] rfl
      have hDc : va_D A (wdM cI cZ h v_all v_past v_states v_refused v_far v_row v_stepAt v_depth v_tries v_values v_wrong v_isEnd v_found v_reached v_stepIn v_laid v_firstRow v_text v_textLong v_spot v_taken v_counted) := hD.sub [0, 1, 2, 3, 4, 5, 6, 7, 8, 9, 10, 11, 12, 13, 14, 15, 16] (by decide) rfl
      refine kd_iR (va_runV (As := [.int (2 : Int32)]) (rest := []) ⟨hx, hb, hml, hown, hts⟩ (c9_canDo l D cB cI cZ cO h H.size (2 : Int32) v_all v_past v_states v_refused v_far v_row v_stepAt v_depth v_tries v_values v_wrong v_isEnd v_found v_reached v_stepIn v_laid v_firstRow v_text v_textLong v_spot v_taken v_counted q7 hq7) (cwV 1 hts gX9_isStill_X9_canDo rfl rfl rfl (by decide +kernel) ⟨Nat.le_of_ble_eq_true rfl, Nat.le_of_ble_eq_true rfl⟩) ⟨kb_blind, va_recv hK hPc (ci := 6) (q0 := 0) rfl rfl, kb_pre hPc hDc hK hN⟩ rfl rfl hl.1 rfl (lv_room (Nat.le_of_ble_eq_true rfl)) dX9_isStill_18 ⟨Nat.le_refl _, Nat.le_refl _⟩) hP hD hS hA [0, 1, 2, 3, 4, 5, 6, 7, 8, 9, 10, 11, 12, 13, 14, 15, 16] rfl (fun H locs hn8 hP hS => ?_)
      refine lv_if_ne (tgt := 28) hx hb dX9_isStill_21 (by decide) (fun c9 => ?_) (fun c9 => ?_)
      · rw [if_neg c9] at hf
        refine lv_iconst (v := 0) hx hb dX9_isStill_28 (by decide) ?_
        obtain rfl := Option.some.inj hf
        exact hend _ _ _ _ rfl hP hS dX9_isStill_29
      · rw [if_pos c9] at hf
        refine lv_iconst (v := 1) hx hb dX9_isStill_24 (by decide) ?_
        refine lv_goto (tgt := 29) hx hb dX9_isStill_25 (by decide) ?_
        obtain rfl := Option.some.inj hf
        exact hend _ _ _ _ rfl hP hS dX9_isStill_29

set_option maxHeartbeats 4000000 in
set_option maxRecDepth 100000 in
theorem c9_starts (l : Launch) (D : va_G) (cB cI cZ cO : ClassId) (h : Nat → Nat) (sz : Nat) (v_all : Nat → Int32) (v_past : Nat → Int32) (v_states : Int32) (v_refused : Nat → Int32) (v_far : Nat → Int32) (v_row : Nat → Int32) (v_stepAt : Nat → Int32) (v_depth : Int32) (v_tries : Nat → Int32) (v_values : Nat → Int32) (v_wrong : Int32) (v_isEnd : Nat → Int32) (v_found : Nat → Int32) (v_reached : Nat → Int32) (v_stepIn : Nat → Int32) (v_laid : Nat → Int32) (v_firstRow : Nat → Int32) (v_text : Nat → Int32) (v_textLong : Int32) (v_spot : Int32) (v_taken : Int32) (v_counted : Nat → Int32) (v_far' : Nat → Int32) (v_depth' : Int32) (v_tries' : Nat → Int32) (hf : f9_starts v_far v_depth v_tries = some (v_far', v_depth', v_tries')) : Met l yX9_starts wsX9_starts rm9_starts (va_Pc [.ref (h 0)] (kb_B D (ka_tys cB cI cZ cO) sz (wdM cI cZ h v_all v_past v_states v_refused v_far v_row v_stepAt v_depth v_tries v_values v_wrong v_isEnd v_found v_reached v_stepIn v_laid v_firstRow v_text v_textLong v_spot v_taken v_counted))) (va_Qv (fun (_ : Unit) => True) (fun _ t => va_P D vwCl (wdM cI cZ h v_all v_past v_states v_refused (v_far') v_row v_stepAt (v_depth') (v_tries') v_values v_wrong v_isEnd v_found v_reached v_stepIn v_laid v_firstRow v_text v_textLong v_spot v_taken v_counted) t.heap) (va_A (wdM cI cZ h v_all v_past v_states v_refused v_far v_row v_stepAt v_depth v_tries v_values v_wrong v_isEnd v_found v_reached v_stepIn v_laid v_firstRow v_text v_textLong v_spot v_taken v_counted) sz)) 0 0 (va_A (wdM cI cZ h v_all v_past v_states v_refused v_far v_row v_stepAt v_depth v_tries v_values v_wrong v_isEnd v_found v_reached v_stepIn v_laid v_firstRow v_text v_textLong v_spot v_taken v_counted) sz) := by
  refine kb_metV (cc := cX9_starts) (maxL := 1) (by decide) rfl (Nat.le_of_ble_eq_true rfl) ?_
  intro p e s m args below meth c Q A ls H hx hb hml hown hts hK hN hP hD hS hA hl hend
  have hown : s.vm.findClass RX9 = some m.cls := hown
  have hl : lv_has ls 1 [(0, .ref (h 0))] := hl
  have hin9 : ∀ w ∈ u_ws RX9 TX9 22, w ∈ wsX9_starts := by decide +kernel
  rw [f9_starts] at hf
  refine lv_aload_n hx hb dX9_starts_0 rfl (lv_at hl 0 rfl) ?_
  refine lv_iconst (v := 0) hx hb dX9_starts_1 (by decide) ?_
  refine va_put (D := D) (cl := vwCl) (ci := 6) (v := .int (0 : Int32)) (ty := .int) (C := RX9) (T := TX9) (N := 22) hx hb hts hin9 tyX9 tyX9_ok nmX9 hown hK hP hD hS 0 rfl rfl 7 (by decide) (hts (.fieldLink RX9 130 "StepOrdersModel" "depth" "I") (by decide +kernel)) (fun _ h9 => h9) rfl (tyX9_ok 7 (by decide)) rfl rfl (Nat.le_of_ble_eq_true rfl) dX9_starts_2 (fun H locs hP hD hS => ?_)
  have hP : va_P D vwCl (wdM cI cZ h v_all v_past v_states v_refused v_far v_row v_stepAt (0 : Int32) v_tries v_values v_wrong v_isEnd v_found v_reached v_stepIn v_laid v_firstRow v_text v_textLong v_spot v_taken v_counted) H := hP
  have hD : va_D A (wdM cI cZ h v_all v_past v_states v_refused v_far v_row v_stepAt (0 : Int32) v_tries v_values v_wrong v_isEnd v_found v_reached v_stepIn v_laid v_firstRow v_text v_textLong v_spot v_taken v_counted) := hD
  refine lv_aload_n hx hb dX9_starts_5 rfl (lv_at hl 0 rfl) ?_
  refine va_get (D := D) (cl := vwCl) (ci := 6) (v := .ref (h 7)) (C := RX9) (T := TX9) (N := 22) hx hb hts hin9 hown hK hP 0 rfl rfl 8 (by decide) (hts (.fieldLink RX9 28 "StepOrdersModel" "tries" "[I") (by decide +kernel)) (fun _ h9 => h9) rfl dX9_starts_6 ?_
  refine lv_iconst (v := 0) hx hb dX9_starts_9 (by decide) ?_
  refine lv_iconst (v := 0) hx hb dX9_starts_10 (by decide) ?_
  refine ka_iast (D := D) (cl := vwCl) hx hb hK hP hD hS 7 1 (f := v_tries) (g := (upd v_tries 0 (0 : Int32))) rfl rfl (show ¬ (_ ∨ _) from by decide) rfl dX9_starts_11 (fun H locs hP hD hS => ?_)
  have hP : va_P D vwCl (wdM cI cZ h v_all v_past v_states v_refused v_far v_row v_stepAt (0 : Int32) (upd v_tries 0 (0 : Int32)) v_values v_wrong v_isEnd v_found v_reached v_stepIn v_laid v_firstRow v_text v_textLong v_spot v_taken v_counted) H := hP
  have hD : va_D A (wdM cI cZ h v_all v_past v_states v_refused v_far v_row v_stepAt (0 : Int32) (upd v_tries 0 (0 : Int32)) v_values v_wrong v_isEnd v_found v_reached v_stepIn v_laid v_firstRow v_text v_textLong v_spot v_taken v_counted) := hD
  refine lv_aload_n hx hb dX9_starts_12 rfl (lv_at hl 0 rfl) ?_
  refine va_get (D := D) (cl := vwCl) (ci := 6) (v := .ref (h 4)) (C := RX9) (T := TX9) (N := 22) hx hb hts hin9 hown hK hP 0 rfl rfl 4 (by decide) (hts (.fieldLink RX9 19 "StepOrdersModel" "far" "[I") (by decide +kernel)) (fun _ h9 => h9) rfl dX9_starts_13 ?_
  refine lv_iconst (v := 0) hx hb dX9_starts_16 (by decide) ?_
  refine lv_iconst (v := 0) hx hb dX9_starts_17 (by decide) ?_
  refine ka_iast (D := D) (cl := vwCl) hx hb hK hP hD hS 4 1 (f := v_far) (g := (upd v_far 0 (0 : Int32))) rfl rfl (show ¬ (_ ∨ _) from by decide) rfl dX9_starts_18 (fun H locs hP hD hS => ?_)
  have hP : va_P D vwCl (wdM cI cZ h v_all v_past v_states v_refused (upd v_far 0 (0 : Int32)) v_row v_stepAt (0 : Int32) (upd v_tries 0 (0 : Int32)) v_values v_wrong v_isEnd v_found v_reached v_stepIn v_laid v_firstRow v_text v_textLong v_spot v_taken v_counted) H := hP
  have hD : va_D A (wdM cI cZ h v_all v_past v_states v_refused (upd v_far 0 (0 : Int32)) v_row v_stepAt (0 : Int32) (upd v_tries 0 (0 : Int32)) v_values v_wrong v_isEnd v_found v_reached v_stepIn v_laid v_firstRow v_text v_textLong v_spot v_taken v_counted) := hD
  refine lv_aload_n hx hb dX9_starts_19 rfl (lv_at hl 0 rfl) ?_
  refine va_get (D := D) (cl := vwCl) (ci := 6) (v := .ref (h 4)) (C := RX9) (T := TX9) (N := 22) hx hb hts hin9 hown hK hP 0 rfl rfl 4 (by decide) (hts (.fieldLink RX9 19 "StepOrdersModel" "far" "[I") (by decide +kernel)) (fun _ h9 => h9) rfl dX9_starts_20 ?_
  refine lv_iconst (v := 1) hx hb dX9_starts_23 (by decide) ?_
  refine lv_iconst (v := 0) hx hb dX9_starts_24 (by decide) ?_
  refine ka_iast (D := D) (cl := vwCl) hx hb hK hP hD hS 4 1 (f := (upd v_far 0 (0 : Int32))) (g := (upd (upd v_far 0 (0 : Int32)) 1 (0 : Int32))) rfl rfl (show ¬ (_ ∨ _) from by decide) rfl dX9_starts_25 (fun H locs hP hD hS => ?_)
  have hP : va_P D vwCl (wdM cI cZ h v_all v_past v_states v_refused (upd (upd v_far 0 (0 : Int32)) 1 (0 : Int32)) v_row v_stepAt (0 : Int32) (upd v_tries 0 (0 : Int32)) v_values v_wrong v_isEnd v_found v_reached v_stepIn v_laid v_firstRow v_text v_textLong v_spot v_taken v_counted) H := hP
  have hD : va_D A (wdM cI cZ h v_all v_past v_states v_refused (upd (upd v_far 0 (0 : Int32)) 1 (0 : Int32)) v_row v_stepAt (0 : Int32) (upd v_tries 0 (0 : Int32)) v_values v_wrong v_isEnd v_found v_reached v_stepIn v_laid v_firstRow v_text v_textLong v_spot v_taken v_counted) := hD
  refine lv_aload_n hx hb dX9_starts_26 rfl (lv_at hl 0 rfl) ?_
  refine va_get (D := D) (cl := vwCl) (ci := 6) (v := .ref (h 4)) (C := RX9) (T := TX9) (N := 22) hx hb hts hin9 hown hK hP 0 rfl rfl 4 (by decide) (hts (.fieldLink RX9 19 "StepOrdersModel" "far" "[I") (by decide +kernel)) (fun _ h9 => h9) rfl dX9_starts_27 ?_
  refine lv_iconst (v := 2) hx hb dX9_starts_30 (by decide) ?_
  refine lv_iconst (v := 0) hx hb dX9_starts_31 (by decide) ?_
  refine ka_iast (D := D) (cl := vwCl) hx hb hK hP hD hS 4 1 (f := (upd (upd v_far 0 (0 : Int32)) 1 (0 : Int32))) (g := (upd (upd (upd v_far 0 (0 : Int32)) 1 (0 : Int32)) 2 (0 : Int32))) rfl rfl (show ¬ (_ ∨ _) from by decide) rfl dX9_starts_32 (fun H locs hP hD hS => ?_)
  have hP : va_P D vwCl (wdM cI cZ h v_all v_past v_states v_refused (upd (upd (upd v_far 0 (0 : Int32)) 1 (0 : Int32)) 2 (0 : Int32)) v_row v_stepAt (0 : Int32) (upd v_tries 0 (0 : Int32)) v_values v_wrong v_isEnd v_found v_reached v_stepIn v_laid v_firstRow v_text v_textLong v_spot v_taken v_counted) H := hP
  have hD : va_D A (wdM cI cZ h v_all v_past v_states v_refused (upd (upd (upd v_far 0 (0 : Int32)) 1 (0 : Int32)) 2 (0 : Int32)) v_row v_stepAt (0 : Int32) (upd v_tries 0 (0 : Int32)) v_values v_wrong v_isEnd v_found v_reached v_stepIn v_laid v_firstRow v_text v_textLong v_spot v_taken v_counted) := hD
  obtain ⟨z1, y1⟩ := Prod.mk.inj (Option.some.inj hf)
  obtain ⟨z2, y2⟩ := Prod.mk.inj y1
  subst z1 z2 y2
  exact hend _ _ _ _ hP hS dX9_starts_33

set_option maxHeartbeats 4000000 in
set_option maxRecDepth 100000 in
theorem c9_mayGo (l : Launch) (D : va_G) (cB cI cZ cO : ClassId) (h : Nat → Nat) (sz : Nat) (x1 : Int32) (v_all : Nat → Int32) (v_past : Nat → Int32) (v_states : Int32) (v_refused : Nat → Int32) (v_far : Nat → Int32) (v_row : Nat → Int32) (v_stepAt : Nat → Int32) (v_depth : Int32) (v_tries : Nat → Int32) (v_values : Nat → Int32) (v_wrong : Int32) (v_isEnd : Nat → Int32) (v_found : Nat → Int32) (v_reached : Nat → Int32) (v_stepIn : Nat → Int32) (v_laid : Nat → Int32) (v_firstRow : Nat → Int32) (v_text : Nat → Int32) (v_textLong : Int32) (v_spot : Int32) (v_taken : Int32) (v_counted : Nat → Int32) (r0 : Int32) (hf : f9_mayGo v_all v_far v_row v_stepAt v_depth x1 = some r0) : Met l yX9_mayGo wsX9_mayGo rm9_mayGo (va_Pc [.ref (h 0), .int x1] (kb_B D (ka_tys cB cI cZ cO) sz (wdM cI cZ h v_all v_past v_states v_refused v_far v_row v_stepAt v_depth v_tries v_values v_wrong v_isEnd v_found v_reached v_stepIn v_laid v_firstRow v_text v_textLong v_spot v_taken v_counted))) (va_Qi (kb_post .boolean r0) (fun _ t => va_P D vwCl (wdM cI cZ h v_all v_past v_states v_refused v_far v_row v_stepAt v_depth v_tries v_values v_wrong v_isEnd v_found v_reached v_stepIn v_laid v_firstRow v_text v_textLong v_spot v_taken v_counted) t.heap) (va_A (wdM cI cZ h v_all v_past v_states v_refused v_far v_row v_stepAt v_depth v_tries v_values v_wrong v_isEnd v_found v_reached v_stepIn v_laid v_firstRow v_text v_textLong v_spot v_taken v_counted) sz)) 0 0 (va_A (wdM cI cZ h v_all v_past v_states v_refused v_far v_row v_stepAt v_depth v_tries v_values v_wrong v_isEnd v_found v_reached v_stepIn v_laid v_firstRow v_text v_textLong v_spot v_taken v_counted) sz) := by
  refine kb_metZ (cc := cX9_mayGo) (maxL := 3) (ty := .boolean) (by decide) rfl (Nat.le_of_ble_eq_true rfl) ?_
  intro p e s m args below meth c Q A ls H hx hb hml hown hts hK hN hP hD hS hA hl hend
  have hown : s.vm.findClass RX9 = some m.cls := hown
  have hl : lv_has ls 3 [(0, .ref (h 0)), (1, .int x1)] := hl
  have hin9 : ∀ w ∈ u_ws RX9 TX9 22, w ∈ wsX9_mayGo := by decide +kernel
  have J17 : ∀ (n : Nat) (x1 : Int32) (x2 : Int32) (H : Heap) (locs : List Loc) (ls : Array Slot), f9_mayGo_l17 n v_all v_far v_row v_stepAt v_depth x1 x2 = some r0 → va_P D vwCl (wdM cI cZ h v_all v_past v_states v_refused v_far v_row v_stepAt v_depth v_tries v_values v_wrong v_isEnd v_found v_reached v_stepIn v_laid v_firstRow v_text v_textLong v_spot v_taken v_counted) H → va_D A (wdM cI cZ h v_all v_past v_states v_refused v_far v_row v_stepAt v_depth v_tries v_values v_wrong v_isEnd v_found v_reached v_stepIn v_laid v_firstRow v_text v_textLong v_spot v_taken v_counted) → va_S A s.heap H locs → lv_has ls 3 [(0, .ref (h 0)), (1, .int x1), (2, .int x2)] → W p l e rm9_mayGo s m args below meth c H locs 0 0 Q (F0 m 17 ls []) := by
    intro n
    induction n with
    | zero =>
      intro x1 x2 H locs ls hf
      cases (show (none : Option (Int32)) = some r0 from hf)
    | succ n ih =>
      intro x1 x2 H locs ls hf hP hD hS hl
      rw [f9_mayGo_l17_s] at hf
      refine lv_iload_n hx hb dX9_mayGo_17 rfl (lv_at hl 2 rfl) ?_
      refine lv_if_lt (tgt := 67) hx hb dX9_mayGo_18 (by decide) (fun c10 => ?_) (fun c10 => ?_)
      · rw [if_pos c10] at hf
        refine lv_iconst (v := 1) hx hb dX9_mayGo_67 (by decide) ?_
        obtain rfl := Option.some.inj hf
        exact hend _ _ _ _ rfl hP hS dX9_mayGo_68
      · rw [if_neg c10] at hf
        refine lv_aload_n hx hb dX9_mayGo_21 rfl (lv_at hl 0 rfl) ?_
        refine lv_aload_n hx hb dX9_mayGo_22 rfl (lv_at hl 0 rfl) ?_
        refine va_get (D := D) (cl := vwCl) (ci := 6) (v := .ref (h 5)) (C := RX9) (T := TX9) (N := 22) hx hb hts hin9 hown hK hP 0 rfl rfl 5 (by decide) (hts (.fieldLink RX9 22 "StepOrdersModel" "row" "[I") (by decide +kernel)) (fun _ h9 => h9) rfl dX9_mayGo_23 ?_
        refine lv_iload_n hx hb dX9_mayGo_26 rfl (lv_at hl 2 rfl) ?_
        refine kb_bind hf (fun v11 hv11 hf => ?_)
        refine ka_iald (D := D) (cl := vwCl) hx hb hK hP 5 1 (f := v_row) rfl rfl (ard_in hv11) (ard_v hv11) dX9_mayGo_27 ?_
        refine lv_aload_n hx hb dX9_mayGo_28 rfl (lv_at hl 0 rfl) ?_
        refine va_get (D := D) (cl := vwCl) (ci := 6) (v := .ref (h 6)) (C := RX9) (T := TX9) (N := 22) hx hb hts hin9 hown hK hP 0 rfl rfl 6 (by decide) (hts (.fieldLink RX9 25 "StepOrdersModel" "stepAt" "[I") (by decide +kernel)) (fun _ h9 => h9) rfl dX9_mayGo_29 ?_
        refine lv_iload_n hx hb dX9_mayGo_32 rfl (lv_at hl 2 rfl) ?_
        refine kb_bind hf (fun v12 hv12 hf => ?_)
        refine ka_iald (D := D) (cl := vwCl) hx hb hK hP 6 1 (f := v_stepAt) rfl rfl (ard_in hv12) (ard_v hv12) dX9_mayGo_33 ?_
        refine lv_iload_n hx hb dX9_mayGo_34 rfl (lv_at hl 1 rfl) ?_
        refine lv_aload_n hx hb dX9_mayGo_35 rfl (lv_at hl 0 rfl) ?_
        refine va_get (D := D) (cl := vwCl) (ci := 6) (v := .ref (h 4)) (C := RX9) (T := TX9) (N := 22) hx hb hts hin9 hown hK hP 0 rfl rfl 4 (by decide) (hts (.fieldLink RX9 19 "StepOrdersModel" "far" "[I") (by decide +kernel)) (fun _ h9 => h9) rfl dX9_mayGo_36 ?_
        refine lv_iload_n hx hb dX9_mayGo_39 rfl (lv_at hl 1 rfl) ?_
        refine kb_bind hf (fun v13 hv13 hf => ?_)
        refine ka_iald (D := D) (cl := vwCl) hx hb hK hP 4 1 (f := v_far) rfl rfl (ard_in hv13) (ard_v hv13) dX9_mayGo_40 ?_
        refine kb_bind hf (fun q14 hq14 hf => ?_)
        have hPc : va_P D vwCl (wdM cI cZ h v_all v_past v_states v_refused v_far v_row v_stepAt v_depth v_tries v_values v_wrong v_isEnd v_found v_reached v_stepIn v_laid v_firstRow v_text v_textLong v_spot v_taken v_counted) H := hP.sub [0, 1, 2, 3, 4, 5, 6, 7, 8, 9, 10, 11, 12, 13, 14, 15, 16] rfl
        have hDc : va_D A (wdM cI cZ h v_all v_past v_states v_refused v_far v_row v_stepAt v_depth v_tries v_values v_wrong v_isEnd v_found v_reached v_stepIn v_laid v_firstRow v_text v_textLong v_spot v_taken v_counted) := hD.sub [0, 1, 2, 3, 4, 5, 6, 7, 8, 9, 10, 11, 12, 13, 14, 15, 16] (by decide) rfl
        refine kd_iR (va_runV (As := [.int v11, .int v12, .int x1, .int v13]) (rest := []) ⟨hx, hb, hml, hown, hts⟩ (c9_areDependent l D cB cI cZ cO h H.size v11 v12 x1 v13 v_all v_past v_states v_refused v_far v_row v_stepAt v_depth v_tries v_values v_wrong v_isEnd v_found v_reached v_stepIn v_laid v_firstRow v_text v_textLong v_spot v_taken v_counted q14 hq14) (cwV 4 hts gX9_mayGo_X9_areDependent rfl rfl rfl (by decide +kernel) ⟨Nat.le_of_ble_eq_true rfl, Nat.le_of_ble_eq_true rfl⟩) ⟨kb_blind, va_recv hK hPc (ci := 6) (q0 := 0) rfl rfl, kb_pre hPc hDc hK hN⟩ rfl rfl hl.1 rfl (lv_room (Nat.le_of_ble_eq_true rfl)) dX9_mayGo_41 ⟨Nat.le_refl _, Nat.le_refl _⟩) hP hD hS hA [0, 1, 2, 3, 4, 5, 6, 7, 8, 9, 10, 11, 12, 13, 14, 15, 16] rfl (fun H locs hn15 hP hS => ?_)
        refine lv_if_eq (tgt := 49) hx hb dX9_mayGo_44 (by decide) (fun c16 => ?_) (fun c16 => ?_)
        · rw [if_pos c16] at hf
          refine lv_aload_n hx hb dX9_mayGo_49 rfl (lv_at hl 0 rfl) ?_
          refine va_get (D := D) (cl := vwCl) (ci := 6) (v := .ref (h 5)) (C := RX9) (T := TX9) (N := 22) hx hb hts hin9 hown hK hP 0 rfl rfl 5 (by decide) (hts (.fieldLink RX9 22 "StepOrdersModel" "row" "[I") (by decide +kernel)) (fun _ h9 => h9) rfl dX9_mayGo_50 ?_
          refine lv_iload_n hx hb dX9_mayGo_53 rfl (lv_at hl 2 rfl) ?_
          refine kb_bind hf (fun v17 hv17 hf => ?_)
          refine ka_iald (D := D) (cl := vwCl) hx hb hK hP 5 1 (f := v_row) rfl rfl (ard_in hv17) (ard_v hv17) dX9_mayGo_54 ?_
          refine lv_iload_n hx hb dX9_mayGo_55 rfl (lv_at hl 1 rfl) ?_
          refine lv_icmp_le (tgt := 61) hx hb dX9_mayGo_56 (by decide) (fun c18 => ?_) (fun c18 => ?_)
          · rw [if_pos c18] at hf
            refine lv_iinc (v := (x2 + (-1))) (lv' := [(2, .int (x2 + (-1))), (0, .ref (h 0)), (1, .int x1)]) hx hb dX9_mayGo_61 hl (k := 2) rfl rfl (by decide) rfl (fun ls hl => ?_)
            refine lv_goto (tgt := 17) hx hb dX9_mayGo_64 (by decide) ?_
            exact ih x1 (x2 + (-1)) _ _ _ hf hP hD hS (lv_sub hl [1, 2, 0] rfl)
          · rw [if_neg c18] at hf
            refine lv_iconst (v := 0) hx hb dX9_mayGo_59 (by decide) ?_
            obtain rfl := Option.some.inj hf
            exact hend _ _ _ _ rfl hP hS dX9_mayGo_60
        · rw [if_neg c16] at hf
          refine lv_iconst (v := 1) hx hb dX9_mayGo_47 (by decide) ?_
          obtain rfl := Option.some.inj hf
          exact hend _ _ _ _ rfl hP hS dX9_mayGo_48
  rw [f9_mayGo] at hf
  refine lv_aload_n hx hb dX9_mayGo_0 rfl (lv_at hl 0 rfl) ?_
  refine lv_iload_n hx hb dX9_mayGo_1 rfl (lv_at hl 1 rfl) ?_
  refine kb_bind hf (fun q19 hq19 hf => ?_)
  have hPc : va_P D vwCl (wdM cI cZ h v_all v_past v_states v_refused v_far v_row v_stepAt v_depth v_tries v_values v_wrong v_isEnd v_found v_reached v_stepIn v_laid v_firstRow v_text v_textLong v_spot v_taken v_counted) H := hP.sub [0, 1, 2, 3, 4, 5, 6, 7, 8, 9, 10, 11, 12, 13, 14, 15, 16] rfl
  have hDc : va_D A (wdM cI cZ h v_all v_past v_states v_refused v_far v_row v_stepAt v_depth v_tries v_values v_wrong v_isEnd v_found v_reached v_stepIn v_laid v_firstRow v_text v_textLong v_spot v_taken v_counted) := hD.sub [0, 1, 2, 3, 4, 5, 6, 7, 8, 9, 10, 11, 12, 13, 14, 15, 16] (by decide) rfl
  refine kd_iR (va_runV (As := [.int x1]) (rest := []) ⟨hx, hb, hml, hown, hts⟩ (c9_canDo l D cB cI cZ cO h H.size x1 v_all v_past v_states v_refused v_far v_row v_stepAt v_depth v_tries v_values v_wrong v_isEnd v_found v_reached v_stepIn v_laid v_firstRow v_text v_textLong v_spot v_taken v_counted q19 hq19) (cwV 1 hts gX9_mayGo_X9_canDo rfl rfl rfl (by decide +kernel) ⟨Nat.le_of_ble_eq_true rfl, Nat.le_of_ble_eq_true rfl⟩) ⟨kb_blind, va_recv hK hPc (ci := 6) (q0 := 0) rfl rfl, kb_pre hPc hDc hK hN⟩ rfl rfl hl.1 rfl (lv_room (Nat.le_of_ble_eq_true rfl)) dX9_mayGo_2 ⟨Nat.le_refl _, Nat.le_refl _⟩) hP hD hS hA [0, 1, 2, 3, 4, 5, 6, 7, 8, 9, 10, 11, 12, 13, 14, 15, 16] rfl (fun H locs hn20 hP hS => ?_)
  refine lv_if_ne (tgt := 10) hx hb dX9_mayGo_5 (by decide) (fun c21 => ?_) (fun c21 => ?_)
  · rw [if_neg c21] at hf
    refine lv_aload_n hx hb dX9_mayGo_10 rfl (lv_at hl 0 rfl) ?_
    refine va_get (D := D) (cl := vwCl) (ci := 6) (v := .int v_depth) (C := RX9) (T := TX9) (N := 22) hx hb hts hin9 hown hK hP 0 rfl rfl 7 (by decide) (hts (.fieldLink RX9 130 "StepOrdersModel" "depth" "I") (by decide +kernel)) (fun _ h9 => h9) rfl dX9_mayGo_11 ?_
    refine lv_iconst (v := 1) hx hb dX9_mayGo_14 (by decide) ?_
    refine lv_isub hx hb dX9_mayGo_15 ?_
    refine lv_istore_n (lv' := [(2, .int (v_depth - (1 : Int32))), (0, .ref (h 0)), (1, .int x1)]) hx hb dX9_mayGo_16 rfl hl (by decide) rfl (fun ls hl => ?_)
    exact J17 kFUEL x1 (v_depth - (1 : Int32)) _ _ _ hf hP hD hS (lv_sub hl [1, 2, 0] rfl)
  · rw [if_pos c21] at hf
    refine lv_iconst (v := 0) hx hb dX9_mayGo_8 (by decide) ?_
    obtain rfl := Option.some.inj hf
    exact hend _ _ _ _ rfl hP hS dX9_mayGo_9

set_option maxHeartbeats 4000000 in
set_option maxRecDepth 100000 in
theorem c9_goesOn (l : Launch) (D : va_G) (cB cI cZ cO : ClassId) (h : Nat → Nat) (sz : Nat) (v_all : Nat → Int32) (v_past : Nat → Int32) (v_states : Int32) (v_refused : Nat → Int32) (v_far : Nat → Int32) (v_row : Nat → Int32) (v_stepAt : Nat → Int32) (v_depth : Int32) (v_tries : Nat → Int32) (v_values : Nat → Int32) (v_wrong : Int32) (v_isEnd : Nat → Int32) (v_found : Nat → Int32) (v_reached : Nat → Int32) (v_stepIn : Nat → Int32) (v_laid : Nat → Int32) (v_firstRow : Nat → Int32) (v_text : Nat → Int32) (v_textLong : Int32) (v_spot : Int32) (v_taken : Int32) (v_counted : Nat → Int32) (r0 : Int32) (v_far' : Nat → Int32) (v_row' : Nat → Int32) (v_stepAt' : Nat → Int32) (v_depth' : Int32) (v_tries' : Nat → Int32) (hf : f9_goesOn v_all v_far v_row v_stepAt v_depth v_tries = some (r0, v_far', v_row', v_stepAt', v_depth', v_tries')) : Met l yX9_goesOn wsX9_goesOn rm9_goesOn (va_Pc [.ref (h 0)] (kb_B D (ka_tys cB cI cZ cO) sz (wdM cI cZ h v_all v_past v_states v_refused v_far v_row v_stepAt v_depth v_tries v_values v_wrong v_isEnd v_found v_reached v_stepIn v_laid v_firstRow v_text v_textLong v_spot v_taken v_counted))) (va_Qi (kb_post .boolean r0) (fun _ t => va_P D vwCl (wdM cI cZ h v_all v_past v_states v_refused (v_far') (v_row') (v_stepAt') (v_depth') (v_tries') v_values v_wrong v_isEnd v_found v_reached v_stepIn v_laid v_firstRow v_text v_textLong v_spot v_taken v_counted) t.heap) (va_A (wdM cI cZ h v_all v_past v_states v_refused v_far v_row v_stepAt v_depth v_tries v_values v_wrong v_isEnd v_found v_reached v_stepIn v_laid v_firstRow v_text v_textLong v_spot v_taken v_counted) sz)) 0 0 (va_A (wdM cI cZ h v_all v_past v_states v_refused v_far v_row v_stepAt v_depth v_tries v_values v_wrong v_isEnd v_found v_reached v_stepIn v_laid v_firstRow v_text v_textLong v_spot v_taken v_counted) sz) := by
  refine kb_metZ (cc := cX9_goesOn) (maxL := 2) (ty := .boolean) (by decide) rfl (Nat.le_of_ble_eq_true rfl) ?_
  intro p e s m args below meth c Q A ls H hx hb hml hown hts hK hN hP hD hS hA hl hend
  have hown : s.vm.findClass RX9 = some m.cls := hown
  have hl : lv_has ls 2 [(0, .ref (h 0))] := hl
  have hin9 : ∀ w ∈ u_ws RX9 TX9 22, w ∈ wsX9_goesOn := by decide +kernel
  have J19 : ∀ (v_far : Nat → Int32) (v_row : Nat → Int32) (v_stepAt : Nat → Int32) (v_depth : Int32) (v_tries : Nat → Int32) (H : Heap) (locs : List Loc) (ls : Array Slot), f9_goesOn_b19 v_all v_far v_row v_stepAt v_depth v_tries = some (r0, v_far', v_row', v_stepAt', v_depth', v_tries') → va_P D vwCl (wdM cI cZ h v_all v_past v_states v_refused v_far v_row v_stepAt v_depth v_tries v_values v_wrong v_isEnd v_found v_reached v_stepIn v_laid v_firstRow v_text v_textLong v_spot v_taken v_counted) H → va_D A (wdM cI cZ h v_all v_past v_states v_refused v_far v_row v_stepAt v_depth v_tries v_values v_wrong v_isEnd v_found v_reached v_stepIn v_laid v_firstRow v_text v_textLong v_spot v_taken v_counted) → va_S A s.heap H locs → lv_has ls 2 [(0, .ref (h 0))] → W p l e rm9_goesOn s m args below meth c H locs 0 0 Q (F0 m 19 ls []) := by
    intro v_far v_row v_stepAt v_depth v_tries H locs ls hf hP hD hS hl
    rw [f9_goesOn_b19] at hf
    refine lv_aload_n hx hb dX9_goesOn_19 rfl (lv_at hl 0 rfl) ?_
    refine va_get (D := D) (cl := vwCl) (ci := 6) (v := .ref (h 7)) (C := RX9) (T := TX9) (N := 22) hx hb hts hin9 hown hK hP 0 rfl rfl 8 (by decide) (hts (.fieldLink RX9 28 "StepOrdersModel" "tries" "[I") (by decide +kernel)) (fun _ h9 => h9) rfl dX9_goesOn_20 ?_
    refine lv_aload_n hx hb dX9_goesOn_23 rfl (lv_at hl 0 rfl) ?_
    refine va_get (D := D) (cl := vwCl) (ci := 6) (v := .int v_depth) (C := RX9) (T := TX9) (N := 22) hx hb hts hin9 hown hK hP 0 rfl rfl 7 (by decide) (hts (.fieldLink RX9 130 "StepOrdersModel" "depth" "I") (by decide +kernel)) (fun _ h9 => h9) rfl dX9_goesOn_24 ?_
    refine lv_iconst (v := 3) hx hb dX9_goesOn_27 (by decide) ?_
    refine kb_bind hf (fun v2 hv2 hf => ?_)
    refine ka_iast (D := D) (cl := vwCl) hx hb hK hP hD hS 7 1 (f := v_tries) (g := v2) rfl rfl (awr_in hv2) (awr_v hv2) dX9_goesOn_28 (fun H locs hP hD hS => ?_)
    have hP : va_P D vwCl (wdM cI cZ h v_all v_past v_states v_refused v_far v_row v_stepAt v_depth v2 v_values v_wrong v_isEnd v_found v_reached v_stepIn v_laid v_firstRow v_text v_textLong v_spot v_taken v_counted) H := hP
    have hD : va_D A (wdM cI cZ h v_all v_past v_states v_refused v_far v_row v_stepAt v_depth v2 v_values v_wrong v_isEnd v_found v_reached v_stepIn v_laid v_firstRow v_text v_textLong v_spot v_taken v_counted) := hD
    refine lv_iconst (v := 1) hx hb dX9_goesOn_29 (by decide) ?_
    obtain ⟨z1, y1⟩ := Prod.mk.inj (Option.some.inj hf)
    obtain ⟨z2, y2⟩ := Prod.mk.inj y1
    obtain ⟨z3, y3⟩ := Prod.mk.inj y2
    obtain ⟨z4, y4⟩ := Prod.mk.inj y3
    obtain ⟨z5, y5⟩ := Prod.mk.inj y4
    subst z1 z2 z3 z4 z5 y5
    exact hend _ _ _ _ rfl hP hS dX9_goesOn_30
  have J0 : ∀ (n : Nat) (v_far : Nat → Int32) (v_row : Nat → Int32) (v_stepAt : Nat → Int32) (v_depth : Int32) (v_tries : Nat → Int32) (H : Heap) (locs : List Loc) (ls : Array Slot), f9_goesOn_l0 n v_all v_far v_row v_stepAt v_depth v_tries = some (r0, v_far', v_row', v_stepAt', v_depth', v_tries') → va_P D vwCl (wdM cI cZ h v_all v_past v_states v_refused v_far v_row v_stepAt v_depth v_tries v_values v_wrong v_isEnd v_found v_reached v_stepIn v_laid v_firstRow v_text v_textLong v_spot v_taken v_counted) H → va_D A (wdM cI cZ h v_all v_past v_states v_refused v_far v_row v_stepAt v_depth v_tries v_values v_wrong v_isEnd v_found v_reached v_stepIn v_laid v_firstRow v_text v_textLong v_spot v_taken v_counted) → va_S A s.heap H locs → lv_has ls 2 [(0, .ref (h 0))] → W p l e rm9_goesOn s m args below meth c H locs 0 0 Q (F0 m 0 ls []) := by
    intro n
    induction n with
    | zero =>
      intro v_far v_row v_stepAt v_depth v_tries H locs ls hf
      cases (show (none : Option (Int32 × (Nat → Int32) × (Nat → Int32) × (Nat → Int32) × Int32 × (Nat → Int32))) = some (r0, v_far', v_row', v_stepAt', v_depth', v_tries') from hf)
    | succ n ih =>
      have J172 : ∀ (v_far : Nat → Int32) (v_row : Nat → Int32) (v_stepAt : Nat → Int32) (v_depth : Int32) (v_tries : Nat → Int32) (H : Heap) (locs : List Loc) (ls : Array Slot), f9_goesOn_b172 (f9_goesOn_l0 n) v_all v_far v_row v_stepAt v_depth v_tries = some (r0, v_far', v_row', v_stepAt', v_depth', v_tries') → va_P D vwCl (wdM cI cZ h v_all v_past v_states v_refused v_far v_row v_stepAt v_depth v_tries v_values v_wrong v_isEnd v_found v_reached v_stepIn v_laid v_firstRow v_text v_textLong v_spot v_taken v_counted) H → va_D A (wdM cI cZ h v_all v_past v_states v_refused v_far v_row v_stepAt v_depth v_tries v_values v_wrong v_isEnd v_found v_reached v_stepIn v_laid v_firstRow v_text v_textLong v_spot v_taken v_counted) → va_S A s.heap H locs → lv_has ls 2 [(0, .ref (h 0))] → W p l e rm9_goesOn s m args below meth c H locs 0 0 Q (F0 m 172 ls []) := by
        intro v_far v_row v_stepAt v_depth v_tries H locs ls hf hP hD hS hl
        rw [f9_goesOn_b172] at hf
        refine lv_goto (tgt := 0) hx hb dX9_goesOn_172 (by decide) ?_
        exact ih v_far v_row v_stepAt v_depth v_tries _ _ _ hf hP hD hS (lv_sub hl [0] rfl)
      have J60 : ∀ (v_far : Nat → Int32) (v_row : Nat → Int32) (v_stepAt : Nat → Int32) (v_depth : Int32) (v_tries : Nat → Int32) (x1 : Int32) (H : Heap) (locs : List Loc) (ls : Array Slot), f9_goesOn_b60 (f9_goesOn_l0 n) v_all v_far v_row v_stepAt v_depth v_tries x1 = some (r0, v_far', v_row', v_stepAt', v_depth', v_tries') → va_P D vwCl (wdM cI cZ h v_all v_past v_states v_refused v_far v_row v_stepAt v_depth v_tries v_values v_wrong v_isEnd v_found v_reached v_stepIn v_laid v_firstRow v_text v_textLong v_spot v_taken v_counted) H → va_D A (wdM cI cZ h v_all v_past v_states v_refused v_far v_row v_stepAt v_depth v_tries v_values v_wrong v_isEnd v_found v_reached v_stepIn v_laid v_firstRow v_text v_textLong v_spot v_taken v_counted) → va_S A s.heap H locs → lv_has ls 2 [(0, .ref (h 0)), (1, .int x1)] → W p l e rm9_goesOn s m args below meth c H locs 0 0 Q (F0 m 60 ls []) := by
        intro v_far v_row v_stepAt v_depth v_tries x1 H locs ls hf hP hD hS hl
        rw [f9_goesOn_b60] at hf
        refine lv_iload_n hx hb dX9_goesOn_60 rfl (lv_at hl 1 rfl) ?_
        refine lv_iconst (v := 3) hx hb dX9_goesOn_61 (by decide) ?_
        refine lv_icmp_ge (tgt := 135) hx hb dX9_goesOn_62 (by decide) (fun c25 => ?_) (fun c25 => ?_)
        · rw [if_pos c25] at hf
          refine lv_aload_n hx hb dX9_goesOn_135 rfl (lv_at hl 0 rfl) ?_
          refine va_get (D := D) (cl := vwCl) (ci := 6) (v := .int v_depth) (C := RX9) (T := TX9) (N := 22) hx hb hts hin9 hown hK hP 0 rfl rfl 7 (by decide) (hts (.fieldLink RX9 130 "StepOrdersModel" "depth" "I") (by decide +kernel)) (fun _ h9 => h9) rfl dX9_goesOn_136 ?_
          refine lv_if_ne (tgt := 144) hx hb dX9_goesOn_139 (by decide) (fun c26 => ?_) (fun c26 => ?_)
          · rw [if_neg c26] at hf
            refine lv_aload_n hx hb dX9_goesOn_144 rfl (lv_at hl 0 rfl) ?_
            refine lv_dup hx hb dX9_goesOn_145 rfl ?_
            refine va_get (D := D) (cl := vwCl) (ci := 6) (v := .int v_depth) (C := RX9) (T := TX9) (N := 22) hx hb hts hin9 hown hK hP 0 rfl rfl 7 (by decide) (hts (.fieldLink RX9 130 "StepOrdersModel" "depth" "I") (by decide +kernel)) (fun _ h9 => h9) rfl dX9_goesOn_146 ?_
            refine lv_iconst (v := 1) hx hb dX9_goesOn_149 (by decide) ?_
            refine lv_isub hx hb dX9_goesOn_150 ?_
            refine va_put (D := D) (cl := vwCl) (ci := 6) (v := .int (v_depth - (1 : Int32))) (ty := .int) (C := RX9) (T := TX9) (N := 22) hx hb hts hin9 tyX9 tyX9_ok nmX9 hown hK hP hD hS 0 rfl rfl 7 (by decide) (hts (.fieldLink RX9 130 "StepOrdersModel" "depth" "I") (by decide +kernel)) (fun _ h9 => h9) rfl (tyX9_ok 7 (by decide)) rfl rfl (Nat.le_of_ble_eq_true rfl) dX9_goesOn_151 (fun H locs hP hD hS => ?_)
            have hP : va_P D vwCl (wdM cI cZ h v_all v_past v_states v_refused v_far v_row v_stepAt (v_depth - (1 : Int32)) v_tries v_values v_wrong v_isEnd v_found v_reached v_stepIn v_laid v_firstRow v_text v_textLong v_spot v_taken v_counted) H := hP
            have hD : va_D A (wdM cI cZ h v_all v_past v_states v_refused v_far v_row v_stepAt (v_depth - (1 : Int32)) v_tries v_values v_wrong v_isEnd v_found v_reached v_stepIn v_laid v_firstRow v_text v_textLong v_spot v_taken v_counted) := hD
            refine lv_aload_n hx hb dX9_goesOn_154 rfl (lv_at hl 0 rfl) ?_
            refine va_get (D := D) (cl := vwCl) (ci := 6) (v := .ref (h 4)) (C := RX9) (T := TX9) (N := 22) hx hb hts hin9 hown hK hP 0 rfl rfl 4 (by decide) (hts (.fieldLink RX9 19 "StepOrdersModel" "far" "[I") (by decide +kernel)) (fun _ h9 => h9) rfl dX9_goesOn_155 ?_
            refine lv_aload_n hx hb dX9_goesOn_158 rfl (lv_at hl 0 rfl) ?_
            refine va_get (D := D) (cl := vwCl) (ci := 6) (v := .ref (h 5)) (C := RX9) (T := TX9) (N := 22) hx hb hts hin9 hown hK hP 0 rfl rfl 5 (by decide) (hts (.fieldLink RX9 22 "StepOrdersModel" "row" "[I") (by decide +kernel)) (fun _ h9 => h9) rfl dX9_goesOn_159 ?_
            refine lv_aload_n hx hb dX9_goesOn_162 rfl (lv_at hl 0 rfl) ?_
            refine va_get (D := D) (cl := vwCl) (ci := 6) (v := .int (v_depth - (1 : Int32))) (C := RX9) (T := TX9) (N := 22) hx hb hts hin9 hown hK hP 0 rfl rfl 7 (by decide) (hts (.fieldLink RX9 130 "StepOrdersModel" "depth" "I") (by decide +kernel)) (fun _ h9 => h9) rfl dX9_goesOn_163 ?_
            refine kb_bind hf (fun v27 hv27 hf => ?_)
            refine ka_iald (D := D) (cl := vwCl) hx hb hK hP 5 1 (f := v_row) rfl rfl (ard_in hv27) (ard_v hv27) dX9_goesOn_166 ?_
            refine lv_dup2_11 hx hb dX9_goesOn_167 rfl rfl ?_
            refine kb_bind hf (fun v28 hv28 hf => ?_)
            refine ka_iald (D := D) (cl := vwCl) hx hb hK hP 4 1 (f := v_far) rfl rfl (ard_in hv28) (ard_v hv28) dX9_goesOn_168 ?_
            refine lv_iconst (v := 1) hx hb dX9_goesOn_169 (by decide) ?_
            refine lv_isub hx hb dX9_goesOn_170 ?_
            refine kb_bind hf (fun v29 hv29 hf => ?_)
            refine ka_iast (D := D) (cl := vwCl) hx hb hK hP hD hS 4 1 (f := v_far) (g := v29) rfl rfl (awr_in hv29) (awr_v hv29) dX9_goesOn_171 (fun H locs hP hD hS => ?_)
            have hP : va_P D vwCl (wdM cI cZ h v_all v_past v_states v_refused v29 v_row v_stepAt (v_depth - (1 : Int32)) v_tries v_values v_wrong v_isEnd v_found v_reached v_stepIn v_laid v_firstRow v_text v_textLong v_spot v_taken v_counted) H := hP
            have hD : va_D A (wdM cI cZ h v_all v_past v_states v_refused v29 v_row v_stepAt (v_depth - (1 : Int32)) v_tries v_values v_wrong v_isEnd v_found v_reached v_stepIn v_laid v_firstRow v_text v_textLong v_spot v_taken v_counted) := hD
            exact J172 v29 v_row v_stepAt (v_depth - (1 : Int32)) v_tries _ _ _ hf hP hD hS (lv_sub hl [0] rfl)
          · rw [if_pos c26] at hf
            refine lv_iconst (v := 0) hx hb dX9_goesOn_142 (by decide) ?_
            obtain ⟨z1, y1⟩ := Prod.mk.inj (Option.some.inj hf)
            obtain ⟨z2, y2⟩ := Prod.mk.inj y1
            obtain ⟨z3, y3⟩ := Prod.mk.inj y2
            obtain ⟨z4, y4⟩ := Prod.mk.inj y3
            obtain ⟨z5, y5⟩ := Prod.mk.inj y4
            subst z1 z2 z3 z4 z5 y5
            exact hend _ _ _ _ rfl hP hS dX9_goesOn_143
        · rw [if_neg c25] at hf
          refine lv_aload_n hx hb dX9_goesOn_65 rfl (lv_at hl 0 rfl) ?_
          refine va_get (D := D) (cl := vwCl) (ci := 6) (v := .ref (h 7)) (C := RX9) (T := TX9) (N := 22) hx hb hts hin9 hown hK hP 0 rfl rfl 8 (by decide) (hts (.fieldLink RX9 28 "StepOrdersModel" "tries" "[I") (by decide +kernel)) (fun _ h9 => h9) rfl dX9_goesOn_66 ?_
          refine lv_aload_n hx hb dX9_goesOn_69 rfl (lv_at hl 0 rfl) ?_
          refine va_get (D := D) (cl := vwCl) (ci := 6) (v := .int v_depth) (C := RX9) (T := TX9) (N := 22) hx hb hts hin9 hown hK hP 0 rfl rfl 7 (by decide) (hts (.fieldLink RX9 130 "StepOrdersModel" "depth" "I") (by decide +kernel)) (fun _ h9 => h9) rfl dX9_goesOn_70 ?_
          refine lv_iload_n hx hb dX9_goesOn_73 rfl (lv_at hl 1 rfl) ?_
          refine lv_iconst (v := 1) hx hb dX9_goesOn_74 (by decide) ?_
          refine lv_iadd hx hb dX9_goesOn_75 ?_
          refine kb_bind hf (fun v30 hv30 hf => ?_)
          refine ka_iast (D := D) (cl := vwCl) hx hb hK hP hD hS 7 1 (f := v_tries) (g := v30) rfl rfl (awr_in hv30) (awr_v hv30) dX9_goesOn_76 (fun H locs hP hD hS => ?_)
          have hP : va_P D vwCl (wdM cI cZ h v_all v_past v_states v_refused v_far v_row v_stepAt v_depth v30 v_values v_wrong v_isEnd v_found v_reached v_stepIn v_laid v_firstRow v_text v_textLong v_spot v_taken v_counted) H := hP
          have hD : va_D A (wdM cI cZ h v_all v_past v_states v_refused v_far v_row v_stepAt v_depth v30 v_values v_wrong v_isEnd v_found v_reached v_stepIn v_laid v_firstRow v_text v_textLong v_spot v_taken v_counted) := hD
          refine lv_aload_n hx hb dX9_goesOn_77 rfl (lv_at hl 0 rfl) ?_
          refine va_get (D := D) (cl := vwCl) (ci := 6) (v := .ref (h 5)) (C := RX9) (T := TX9) (N := 22) hx hb hts hin9 hown hK hP 0 rfl rfl 5 (by decide) (hts (.fieldLink RX9 22 "StepOrdersModel" "row" "[I") (by decide +kernel)) (fun _ h9 => h9) rfl dX9_goesOn_78 ?_
          refine lv_aload_n hx hb dX9_goesOn_81 rfl (lv_at hl 0 rfl) ?_
          refine va_get (D := D) (cl := vwCl) (ci := 6) (v := .int v_depth) (C := RX9) (T := TX9) (N := 22) hx hb hts hin9 hown hK hP 0 rfl rfl 7 (by decide) (hts (.fieldLink RX9 130 "StepOrdersModel" "depth" "I") (by decide +kernel)) (fun _ h9 => h9) rfl dX9_goesOn_82 ?_
          refine lv_iload_n hx hb dX9_goesOn_85 rfl (lv_at hl 1 rfl) ?_
          refine kb_bind hf (fun v31 hv31 hf => ?_)
          refine ka_iast (D := D) (cl := vwCl) hx hb hK hP hD hS 5 1 (f := v_row) (g := v31) rfl rfl (awr_in hv31) (awr_v hv31) dX9_goesOn_86 (fun H locs hP hD hS => ?_)
          have hP : va_P D vwCl (wdM cI cZ h v_all v_past v_states v_refused v_far v31 v_stepAt v_depth v30 v_values v_wrong v_isEnd v_found v_reached v_stepIn v_laid v_firstRow v_text v_textLong v_spot v_taken v_counted) H := hP
          have hD : va_D A (wdM cI cZ h v_all v_past v_states v_refused v_far v31 v_stepAt v_depth v30 v_values v_wrong v_isEnd v_found v_reached v_stepIn v_laid v_firstRow v_text v_textLong v_spot v_taken v_counted) := hD
          refine lv_aload_n hx hb dX9_goesOn_87 rfl (lv_at hl 0 rfl) ?_
          refine va_get (D := D) (cl := vwCl) (ci := 6) (v := .ref (h 6)) (C := RX9) (T := TX9) (N := 22) hx hb hts hin9 hown hK hP 0 rfl rfl 6 (by decide) (hts (.fieldLink RX9 25 "StepOrdersModel" "stepAt" "[I") (by decide +kernel)) (fun _ h9 => h9) rfl dX9_goesOn_88 ?_
          refine lv_aload_n hx hb dX9_goesOn_91 rfl (lv_at hl 0 rfl) ?_
          refine va_get (D := D) (cl := vwCl) (ci := 6) (v := .int v_depth) (C := RX9) (T := TX9) (N := 22) hx hb hts hin9 hown hK hP 0 rfl rfl 7 (by decide) (hts (.fieldLink RX9 130 "StepOrdersModel" "depth" "I") (by decide +kernel)) (fun _ h9 => h9) rfl dX9_goesOn_92 ?_
          refine lv_aload_n hx hb dX9_goesOn_95 rfl (lv_at hl 0 rfl) ?_
          refine va_get (D := D) (cl := vwCl) (ci := 6) (v := .ref (h 4)) (C := RX9) (T := TX9) (N := 22) hx hb hts hin9 hown hK hP 0 rfl rfl 4 (by decide) (hts (.fieldLink RX9 19 "StepOrdersModel" "far" "[I") (by decide +kernel)) (fun _ h9 => h9) rfl dX9_goesOn_96 ?_
          refine lv_iload_n hx hb dX9_goesOn_99 rfl (lv_at hl 1 rfl) ?_
          refine kb_bind hf (fun v32 hv32 hf => ?_)
          refine ka_iald (D := D) (cl := vwCl) hx hb hK hP 4 1 (f := v_far) rfl rfl (ard_in hv32) (ard_v hv32) dX9_goesOn_100 ?_
          refine kb_bind hf (fun v33 hv33 hf => ?_)
          refine ka_iast (D := D) (cl := vwCl) hx hb hK hP hD hS 6 1 (f := v_stepAt) (g := v33) rfl rfl (awr_in hv33) (awr_v hv33) dX9_goesOn_101 (fun H locs hP hD hS => ?_)
          have hP : va_P D vwCl (wdM cI cZ h v_all v_past v_states v_refused v_far v31 v33 v_depth v30 v_values v_wrong v_isEnd v_found v_reached v_stepIn v_laid v_firstRow v_text v_textLong v_spot v_taken v_counted) H := hP
          have hD : va_D A (wdM cI cZ h v_all v_past v_states v_refused v_far v31 v33 v_depth v30 v_values v_wrong v_isEnd v_found v_reached v_stepIn v_laid v_firstRow v_text v_textLong v_spot v_taken v_counted) := hD
          refine lv_aload_n hx hb dX9_goesOn_102 rfl (lv_at hl 0 rfl) ?_
          refine va_get (D := D) (cl := vwCl) (ci := 6) (v := .ref (h 4)) (C := RX9) (T := TX9) (N := 22) hx hb hts hin9 hown hK hP 0 rfl rfl 4 (by decide) (hts (.fieldLink RX9 19 "StepOrdersModel" "far" "[I") (by decide +kernel)) (fun _ h9 => h9) rfl dX9_goesOn_103 ?_
          refine lv_iload_n hx hb dX9_goesOn_106 rfl (lv_at hl 1 rfl) ?_
          refine lv_dup2_11 hx hb dX9_goesOn_107 rfl rfl ?_
          refine kb_bind hf (fun v34 hv34 hf => ?_)
          refine ka_iald (D := D) (cl := vwCl) hx hb hK hP 4 1 (f := v_far) rfl rfl (ard_in hv34) (ard_v hv34) dX9_goesOn_108 ?_
          refine lv_iconst (v := 1) hx hb dX9_goesOn_109 (by decide) ?_
          refine lv_iadd hx hb dX9_goesOn_110 ?_
          refine kb_bind hf (fun v35 hv35 hf => ?_)
          refine ka_iast (D := D) (cl := vwCl) hx hb hK hP hD hS 4 1 (f := v_far) (g := v35) rfl rfl (awr_in hv35) (awr_v hv35) dX9_goesOn_111 (fun H locs hP hD hS => ?_)
          have hP : va_P D vwCl (wdM cI cZ h v_all v_past v_states v_refused v35 v31 v33 v_depth v30 v_values v_wrong v_isEnd v_found v_reached v_stepIn v_laid v_firstRow v_text v_textLong v_spot v_taken v_counted) H := hP
          have hD : va_D A (wdM cI cZ h v_all v_past v_states v_refused v35 v31 v33 v_depth v30 v_values v_wrong v_isEnd v_found v_reached v_stepIn v_laid v_firstRow v_text v_textLong v_spot v_taken v_counted) := hD
          refine lv_aload_n hx hb dX9_goesOn_112 rfl (lv_at hl 0 rfl) ?_
          refine lv_dup hx hb dX9_goesOn_113 rfl ?_
          refine va_get (D := D) (cl := vwCl) (ci := 6) (v := .int v_depth) (C := RX9) (T := TX9) (N := 22) hx hb hts hin9 hown hK hP 0 rfl rfl 7 (by decide) (hts (.fieldLink RX9 130 "StepOrdersModel" "depth" "I") (by decide +kernel)) (fun _ h9 => h9) rfl dX9_goesOn_114 ?_
          refine lv_iconst (v := 1) hx hb dX9_goesOn_117 (by decide) ?_
          refine lv_iadd hx hb dX9_goesOn_118 ?_
          refine va_put (D := D) (cl := vwCl) (ci := 6) (v := .int (v_depth + (1 : Int32))) (ty := .int) (C := RX9) (T := TX9) (N := 22) hx hb hts hin9 tyX9 tyX9_ok nmX9 hown hK hP hD hS 0 rfl rfl 7 (by decide) (hts (.fieldLink RX9 130 "StepOrdersModel" "depth" "I") (by decide +kernel)) (fun _ h9 => h9) rfl (tyX9_ok 7 (by decide)) rfl rfl (Nat.le_of_ble_eq_true rfl) dX9_goesOn_119 (fun H locs hP hD hS => ?_)
          have hP : va_P D vwCl (wdM cI cZ h v_all v_past v_states v_refused v35 v31 v33 (v_depth + (1 : Int32)) v30 v_values v_wrong v_isEnd v_found v_reached v_stepIn v_laid v_firstRow v_text v_textLong v_spot v_taken v_counted) H := hP
          have hD : va_D A (wdM cI cZ h v_all v_past v_states v_refused v35 v31 v33 (v_depth + (1 : Int32)) v30 v_values v_wrong v_isEnd v_found v_reached v_stepIn v_laid v_firstRow v_text v_textLong v_spot v_taken v_counted) := hD
          refine lv_aload_n hx hb dX9_goesOn_122 rfl (lv_at hl 0 rfl) ?_
          refine va_get (D := D) (cl := vwCl) (ci := 6) (v := .ref (h 7)) (C := RX9) (T := TX9) (N := 22) hx hb hts hin9 hown hK hP 0 rfl rfl 8 (by decide) (hts (.fieldLink RX9 28 "StepOrdersModel" "tries" "[I") (by decide +kernel)) (fun _ h9 => h9) rfl dX9_goesOn_123 ?_
          refine lv_aload_n hx hb dX9_goesOn_126 rfl (lv_at hl 0 rfl) ?_
          refine va_get (D := D) (cl := vwCl) (ci := 6) (v := .int (v_depth + (1 : Int32))) (C := RX9) (T := TX9) (N := 22) hx hb hts hin9 hown hK hP 0 rfl rfl 7 (by decide) (hts (.fieldLink RX9 130 "StepOrdersModel" "depth" "I") (by decide +kernel)) (fun _ h9 => h9) rfl dX9_goesOn_127 ?_
          refine lv_iconst (v := 0) hx hb dX9_goesOn_130 (by decide) ?_
          refine kb_bind hf (fun v36 hv36 hf => ?_)
          refine ka_iast (D := D) (cl := vwCl) hx hb hK hP hD hS 7 1 (f := v30) (g := v36) rfl rfl (awr_in hv36) (awr_v hv36) dX9_goesOn_131 (fun H locs hP hD hS => ?_)
          have hP : va_P D vwCl (wdM cI cZ h v_all v_past v_states v_refused v35 v31 v33 (v_depth + (1 : Int32)) v36 v_values v_wrong v_isEnd v_found v_reached v_stepIn v_laid v_firstRow v_text v_textLong v_spot v_taken v_counted) H := hP
          have hD : va_D A (wdM cI cZ h v_all v_past v_states v_refused v35 v31 v33 (v_depth + (1 : Int32)) v36 v_values v_wrong v_isEnd v_found v_reached v_stepIn v_laid v_firstRow v_text v_textLong v_spot v_taken v_counted) := hD
          refine lv_goto (tgt := 172) hx hb dX9_goesOn_132 (by decide) ?_
          exact J172 v35 v31 v33 (v_depth + (1 : Int32)) v36 _ _ _ hf hP hD hS (lv_sub hl [0] rfl)
      have J41 : ∀ (n41 : Nat) (v_far : Nat → Int32) (v_row : Nat → Int32) (v_stepAt : Nat → Int32) (v_depth : Int32) (v_tries : Nat → Int32) (x1 : Int32) (H : Heap) (locs : List Loc) (ls : Array Slot), f9_goesOn_l41 (f9_goesOn_l0 n) n41 v_all v_far v_row v_stepAt v_depth v_tries x1 = some (r0, v_far', v_row', v_stepAt', v_depth', v_tries') → va_P D vwCl (wdM cI cZ h v_all v_past v_states v_refused v_far v_row v_stepAt v_depth v_tries v_values v_wrong v_isEnd v_found v_reached v_stepIn v_laid v_firstRow v_text v_textLong v_spot v_taken v_counted) H → va_D A (wdM cI cZ h v_all v_past v_states v_refused v_far v_row v_stepAt v_depth v_tries v_values v_wrong v_isEnd v_found v_reached v_stepIn v_laid v_firstRow v_text v_textLong v_spot v_taken v_counted) → va_S A s.heap H locs → lv_has ls 2 [(0, .ref (h 0)), (1, .int x1)] → W p l e rm9_goesOn s m args below meth c H locs 0 0 Q (F0 m 41 ls []) := by
        intro n41
        induction n41 with
        | zero =>
          intro v_far v_row v_stepAt v_depth v_tries x1 H locs ls hf
          cases (show (none : Option (Int32 × (Nat → Int32) × (Nat → Int32) × (Nat → Int32) × Int32 × (Nat → Int32))) = some (r0, v_far', v_row', v_stepAt', v_depth', v_tries') from hf)
        | succ n41 ih41 =>
          intro v_far v_row v_stepAt v_depth v_tries x1 H locs ls hf hP hD hS hl
          rw [f9_goesOn_l41_s] at hf
          refine lv_iload_n hx hb dX9_goesOn_41 rfl (lv_at hl 1 rfl) ?_
          refine lv_iconst (v := 3) hx hb dX9_goesOn_42 (by decide) ?_
          refine lv_icmp_ge (tgt := 60) hx hb dX9_goesOn_43 (by decide) (fun c37 => ?_) (fun c37 => ?_)
          · rw [if_pos c37] at hf
            exact J60 v_far v_row v_stepAt v_depth v_tries x1 _ _ _ hf hP hD hS (lv_sub hl [0, 1] rfl)
          · rw [if_neg c37] at hf
            refine lv_aload_n hx hb dX9_goesOn_46 rfl (lv_at hl 0 rfl) ?_
            refine lv_iload_n hx hb dX9_goesOn_47 rfl (lv_at hl 1 rfl) ?_
            refine kb_bind hf (fun q38 hq38 hf => ?_)
            have hPc : va_P D vwCl (wdM cI cZ h v_all v_past v_states v_refused v_far v_row v_stepAt v_depth v_tries v_values v_wrong v_isEnd v_found v_reached v_stepIn v_laid v_firstRow v_text v_textLong v_spot v_taken v_counted) H := hP.sub [0, 1, 2, 3, 4, 5, 6, 7, 8, 9, 10, 11, 12, 13, 14, 15, 16] rfl
            have hDc : va_D A (wdM cI cZ h v_all v_past v_states v_refused v_far v_row v_stepAt v_depth v_tries v_values v_wrong v_isEnd v_found v_reached v_stepIn v_laid v_firstRow v_text v_textLong v_spot v_taken v_counted) := hD.sub [0, 1, 2, 3, 4, 5, 6, 7, 8, 9, 10, 11, 12, 13, 14, 15, 16] (by decide) rfl
            refine kd_iR (va_runV (As := [.int x1]) (rest := []) ⟨hx, hb, hml, hown, hts⟩ (c9_mayGo l D cB cI cZ cO h H.size x1 v_all v_past v_states v_refused v_far v_row v_stepAt v_depth v_tries v_values v_wrong v_isEnd v_found v_reached v_stepIn v_laid v_firstRow v_text v_textLong v_spot v_taken v_counted q38 hq38) (cwV 1 hts gX9_goesOn_X9_mayGo rfl rfl rfl (by decide +kernel) ⟨Nat.le_of_ble_eq_true rfl, Nat.le_of_ble_eq_true rfl⟩) ⟨kb_blind, va_recv hK hPc (ci := 6) (q0 := 0) rfl rfl, kb_pre hPc hDc hK hN⟩ rfl rfl hl.1 rfl (lv_room (Nat.le_of_ble_eq_true rfl)) dX9_goesOn_48 ⟨Nat.le_refl _, Nat.le_refl _⟩) hP hD hS hA [0, 1, 2, 3, 4, 5, 6, 7, 8, 9, 10, 11, 12, 13, 14, 15, 16] rfl (fun H locs hn39 hP hS => ?_)
            refine lv_if_ne (tgt := 60) hx hb dX9_goesOn_51 (by decide) (fun c40 => ?_) (fun c40 => ?_)
            · rw [if_neg c40] at hf
              exact J60 v_far v_row v_stepAt v_depth v_tries x1 _ _ _ hf hP hD hS (lv_sub hl [0, 1] rfl)
            · rw [if_pos c40] at hf
              refine lv_iinc (v := (x1 + 1)) (lv' := [(1, .int (x1 + 1)), (0, .ref (h 0))]) hx hb dX9_goesOn_54 hl (k := 1) rfl rfl (by decide) rfl (fun ls hl => ?_)
              refine lv_goto (tgt := 41) hx hb dX9_goesOn_57 (by decide) ?_
              exact ih41 v_far v_row v_stepAt v_depth v_tries (x1 + 1) _ _ _ hf hP hD hS (lv_sub hl [1, 0] rfl)
      have J31 : ∀ (v_far : Nat → Int32) (v_row : Nat → Int32) (v_stepAt : Nat → Int32) (v_depth : Int32) (v_tries : Nat → Int32) (H : Heap) (locs : List Loc) (ls : Array Slot), f9_goesOn_b31 (f9_goesOn_l0 n) v_all v_far v_row v_stepAt v_depth v_tries = some (r0, v_far', v_row', v_stepAt', v_depth', v_tries') → va_P D vwCl (wdM cI cZ h v_all v_past v_states v_refused v_far v_row v_stepAt v_depth v_tries v_values v_wrong v_isEnd v_found v_reached v_stepIn v_laid v_firstRow v_text v_textLong v_spot v_taken v_counted) H → va_D A (wdM cI cZ h v_all v_past v_states v_refused v_far v_row v_stepAt v_depth v_tries v_values v_wrong v_isEnd v_found v_reached v_stepIn v_laid v_firstRow v_text v_textLong v_spot v_taken v_counted) → va_S A s.heap H locs → lv_has ls 2 [(0, .ref (h 0))] → W p l e rm9_goesOn s m args below meth c H locs 0 0 Q (F0 m 31 ls []) := by
        intro v_far v_row v_stepAt v_depth v_tries H locs ls hf hP hD hS hl
        rw [f9_goesOn_b31] at hf
        refine lv_aload_n hx hb dX9_goesOn_31 rfl (lv_at hl 0 rfl) ?_
        refine va_get (D := D) (cl := vwCl) (ci := 6) (v := .ref (h 7)) (C := RX9) (T := TX9) (N := 22) hx hb hts hin9 hown hK hP 0 rfl rfl 8 (by decide) (hts (.fieldLink RX9 28 "StepOrdersModel" "tries" "[I") (by decide +kernel)) (fun _ h9 => h9) rfl dX9_goesOn_32 ?_
        refine lv_aload_n hx hb dX9_goesOn_35 rfl (lv_at hl 0 rfl) ?_
        refine va_get (D := D) (cl := vwCl) (ci := 6) (v := .int v_depth) (C := RX9) (T := TX9) (N := 22) hx hb hts hin9 hown hK hP 0 rfl rfl 7 (by decide) (hts (.fieldLink RX9 130 "StepOrdersModel" "depth" "I") (by decide +kernel)) (fun _ h9 => h9) rfl dX9_goesOn_36 ?_
        refine kb_bind hf (fun v41 hv41 hf => ?_)
        refine ka_iald (D := D) (cl := vwCl) hx hb hK hP 7 1 (f := v_tries) rfl rfl (ard_in hv41) (ard_v hv41) dX9_goesOn_39 ?_
        refine lv_istore_n (lv' := [(1, .int v41), (0, .ref (h 0))]) hx hb dX9_goesOn_40 rfl hl (by decide) rfl (fun ls hl => ?_)
        exact J41 kFUEL v_far v_row v_stepAt v_depth v_tries v41 _ _ _ hf hP hD hS (lv_sub hl [1, 0] rfl)
      intro v_far v_row v_stepAt v_depth v_tries H locs ls hf hP hD hS hl
      rw [f9_goesOn_l0_s] at hf
      refine lv_aload_n hx hb dX9_goesOn_0 rfl (lv_at hl 0 rfl) ?_
      refine va_get (D := D) (cl := vwCl) (ci := 6) (v := .ref (h 7)) (C := RX9) (T := TX9) (N := 22) hx hb hts hin9 hown hK hP 0 rfl rfl 8 (by decide) (hts (.fieldLink RX9 28 "StepOrdersModel" "tries" "[I") (by decide +kernel)) (fun _ h9 => h9) rfl dX9_goesOn_1 ?_
      refine lv_aload_n hx hb dX9_goesOn_4 rfl (lv_at hl 0 rfl) ?_
      refine va_get (D := D) (cl := vwCl) (ci := 6) (v := .int v_depth) (C := RX9) (T := TX9) (N := 22) hx hb hts hin9 hown hK hP 0 rfl rfl 7 (by decide) (hts (.fieldLink RX9 130 "StepOrdersModel" "depth" "I") (by decide +kernel)) (fun _ h9 => h9) rfl dX9_goesOn_5 ?_
      refine kb_bind hf (fun v42 hv42 hf => ?_)
      refine ka_iald (D := D) (cl := vwCl) hx hb hK hP 7 1 (f := v_tries) rfl rfl (ard_in hv42) (ard_v hv42) dX9_goesOn_8 ?_
      refine lv_if_ne (tgt := 31) hx hb dX9_goesOn_9 (by decide) (fun c43 => ?_) (fun c43 => ?_)
      · rw [if_neg c43] at hf
        exact J31 v_far v_row v_stepAt v_depth v_tries _ _ _ hf hP hD hS (lv_sub hl [0] rfl)
      · rw [if_pos c43] at hf
        refine lv_aload_n hx hb dX9_goesOn_12 rfl (lv_at hl 0 rfl) ?_
        refine kb_bind hf (fun q44 hq44 hf => ?_)
        have hPc : va_P D vwCl (wdM cI cZ h v_all v_past v_states v_refused v_far v_row v_stepAt v_depth v_tries v_values v_wrong v_isEnd v_found v_reached v_stepIn v_laid v_firstRow v_text v_textLong v_spot v_taken v_counted) H := hP.sub [0, 1, 2, 3, 4, 5, 6, 7, 8, 9, 10, 11, 12, 13, 14, 15, 16] rfl
        have hDc : va_D A (wdM cI cZ h v_all v_past v_states v_refused v_far v_row v_stepAt v_depth v_tries v_values v_wrong v_isEnd v_found v_reached v_stepIn v_laid v_firstRow v_text v_textLong v_spot v_taken v_counted) := hD.sub [0, 1, 2, 3, 4, 5, 6, 7, 8, 9, 10, 11, 12, 13, 14, 15, 16] (by decide) rfl
        refine kd_iR (va_runV (As := []) (rest := []) ⟨hx, hb, hml, hown, hts⟩ (c9_isStill l D cB cI cZ cO h H.size v_all v_past v_states v_refused v_far v_row v_stepAt v_depth v_tries v_values v_wrong v_isEnd v_found v_reached v_stepIn v_laid v_firstRow v_text v_textLong v_spot v_taken v_counted q44 hq44) (cwV 0 hts gX9_goesOn_X9_isStill rfl rfl rfl (by decide +kernel) ⟨Nat.le_of_ble_eq_true rfl, Nat.le_of_ble_eq_true rfl⟩) ⟨kb_blind, va_recv hK hPc (ci := 6) (q0 := 0) rfl rfl, kb_pre hPc hDc hK hN⟩ rfl rfl hl.1 rfl (lv_room (Nat.le_of_ble_eq_true rfl)) dX9_goesOn_13 ⟨Nat.le_refl _, Nat.le_refl _⟩) hP hD hS hA [0, 1, 2, 3, 4, 5, 6, 7, 8, 9, 10, 11, 12, 13, 14, 15, 16] rfl (fun H locs hn45 hP hS => ?_)
        refine lv_if_eq (tgt := 31) hx hb dX9_goesOn_16 (by decide) (fun c46 => ?_) (fun c46 => ?_)
        · rw [if_pos c46] at hf
          exact J31 v_far v_row v_stepAt v_depth v_tries _ _ _ hf hP hD hS (lv_sub hl [0] rfl)
        · rw [if_neg c46] at hf
          exact J19 v_far v_row v_stepAt v_depth v_tries _ _ _ hf hP hD hS (lv_sub hl [0] rfl)
  rw [f9_goesOn] at hf
  exact J0 kFUEL v_far v_row v_stepAt v_depth v_tries _ _ _ hf hP hD hS (lv_sub hl [0] rfl)

set_option maxHeartbeats 4000000 in
set_option maxRecDepth 100000 in
theorem c9_valuesBegin (l : Launch) (D : va_G) (cB cI cZ cO : ClassId) (h : Nat → Nat) (sz : Nat) (v_all : Nat → Int32) (v_past : Nat → Int32) (v_states : Int32) (v_refused : Nat → Int32) (v_far : Nat → Int32) (v_row : Nat → Int32) (v_stepAt : Nat → Int32) (v_depth : Int32) (v_tries : Nat → Int32) (v_values : Nat → Int32) (v_wrong : Int32) (v_isEnd : Nat → Int32) (v_found : Nat → Int32) (v_reached : Nat → Int32) (v_stepIn : Nat → Int32) (v_laid : Nat → Int32) (v_firstRow : Nat → Int32) (v_text : Nat → Int32) (v_textLong : Int32) (v_spot : Int32) (v_taken : Int32) (v_counted : Nat → Int32) (v_values' : Nat → Int32) (v_wrong' : Int32) (hf : f9_valuesBegin v_all v_values v_wrong = some (v_values', v_wrong')) : Met l yX9_valuesBegin wsX9_valuesBegin rm9_valuesBegin (va_Pc [.ref (h 0)] (kb_B D (ka_tys cB cI cZ cO) sz (wdM cI cZ h v_all v_past v_states v_refused v_far v_row v_stepAt v_depth v_tries v_values v_wrong v_isEnd v_found v_reached v_stepIn v_laid v_firstRow v_text v_textLong v_spot v_taken v_counted))) (va_Qv (fun (_ : Unit) => True) (fun _ t => va_P D vwCl (wdM cI cZ h v_all v_past v_states v_refused v_far v_row v_stepAt v_depth v_tries (v_values') (v_wrong') v_isEnd v_found v_reached v_stepIn v_laid v_firstRow v_text v_textLong v_spot v_taken v_counted) t.heap) (va_A (wdM cI cZ h v_all v_past v_states v_refused v_far v_row v_stepAt v_depth v_tries v_values v_wrong v_isEnd v_found v_reached v_stepIn v_laid v_firstRow v_text v_textLong v_spot v_taken v_counted) sz)) 0 0 (va_A (wdM cI cZ h v_all v_past v_states v_refused v_far v_row v_stepAt v_depth v_tries v_values v_wrong v_isEnd v_found v_reached v_stepIn v_laid v_firstRow v_text v_textLong v_spot v_taken v_counted) sz) := by
  refine kb_metV (cc := cX9_valuesBegin) (maxL := 2) (by decide) rfl (Nat.le_of_ble_eq_true rfl) ?_
  intro p e s m args below meth c Q A ls H hx hb hml hown hts hK hN hP hD hS hA hl hend
  have hown : s.vm.findClass RX9 = some m.cls := hown
  have hl : lv_has ls 2 [(0, .ref (h 0))] := hl
  have hin9 : ∀ w ∈ u_ws RX9 TX9 22, w ∈ wsX9_valuesBegin := by decide +kernel
  have J7 : ∀ (n : Nat) (v_values : Nat → Int32) (v_wrong : Int32) (x1 : Int32) (H : Heap) (locs : List Loc) (ls : Array Slot), f9_valuesBegin_l7 n v_all v_values v_wrong x1 = some (v_values', v_wrong') → va_P D vwCl (wdM cI cZ h v_all v_past v_states v_refused v_far v_row v_stepAt v_depth v_tries v_values v_wrong v_isEnd v_found v_reached v_stepIn v_laid v_firstRow v_text v_textLong v_spot v_taken v_counted) H → va_D A (wdM cI cZ h v_all v_past v_states v_refused v_far v_row v_stepAt v_depth v_tries v_values v_wrong v_isEnd v_found v_reached v_stepIn v_laid v_firstRow v_text v_textLong v_spot v_taken v_counted) → va_S A s.heap H locs → lv_has ls 2 [(0, .ref (h 0)), (1, .int x1)] → W p l e rm9_valuesBegin s m args below meth c H locs 0 0 Q (F0 m 7 ls []) := by
    intro n
    induction n with
    | zero =>
      intro v_values v_wrong x1 H locs ls hf
      cases (show (none : Option ((Nat → Int32) × Int32)) = some (v_values', v_wrong') from hf)
    | succ n ih =>
      intro v_values v_wrong x1 H locs ls hf hP hD hS hl
      rw [f9_valuesBegin_l7_s] at hf
      refine lv_iload_n hx hb dX9_valuesBegin_7 rfl (lv_at hl 1 rfl) ?_
      refine lv_iconst (v := 4) hx hb dX9_valuesBegin_8 (by decide) ?_
      refine lv_icmp_ge (tgt := 33) hx hb dX9_valuesBegin_9 (by decide) (fun c4 => ?_) (fun c4 => ?_)
      · rw [if_pos c4] at hf
        obtain ⟨z1, y1⟩ := Prod.mk.inj (Option.some.inj hf)
        subst z1 y1
        exact hend _ _ _ _ hP hS dX9_valuesBegin_33
      · rw [if_neg c4] at hf
        refine lv_aload_n hx hb dX9_valuesBegin_12 rfl (lv_at hl 0 rfl) ?_
        refine va_get (D := D) (cl := vwCl) (ci := 6) (v := .ref (h 8)) (C := RX9) (T := TX9) (N := 22) hx hb hts hin9 hown hK hP 0 rfl rfl 9 (by decide) (hts (.fieldLink RX9 31 "StepOrdersModel" "values" "[I") (by decide +kernel)) (fun _ h9 => h9) rfl dX9_valuesBegin_13 ?_
        refine lv_iload_n hx hb dX9_valuesBegin_16 rfl (lv_at hl 1 rfl) ?_
        refine lv_aload_n hx hb dX9_valuesBegin_17 rfl (lv_at hl 0 rfl) ?_
        refine va_get (D := D) (cl := vwCl) (ci := 6) (v := .ref (h 1)) (C := RX9) (T := TX9) (N := 22) hx hb hts hin9 hown hK hP 0 rfl rfl 0 (by decide) (hts (.fieldLink RX9 7 "StepOrdersModel" "all" "[I") (by decide +kernel)) (fun _ h9 => h9) rfl dX9_valuesBegin_18 ?_
        refine lv_bipush (v := 39) hx hb dX9_valuesBegin_21 (by decide) ?_
        refine lv_iload_n hx hb dX9_valuesBegin_23 rfl (lv_at hl 1 rfl) ?_
        refine lv_iadd hx hb dX9_valuesBegin_24 ?_
        refine kb_bind hf (fun v5 hv5 hf => ?_)
        refine ka_iald (D := D) (cl := vwCl) hx hb hK hP 1 1 (f := v_all) rfl rfl (ard_in hv5) (ard_v hv5) dX9_valuesBegin_25 ?_
        refine kb_bind hf (fun v6 hv6 hf => ?_)
        refine ka_iast (D := D) (cl := vwCl) hx hb hK hP hD hS 8 1 (f := v_values) (g := v6) rfl rfl (awr_in hv6) (awr_v hv6) dX9_valuesBegin_26 (fun H locs hP hD hS => ?_)
        have hP : va_P D vwCl (wdM cI cZ h v_all v_past v_states v_refused v_far v_row v_stepAt v_depth v_tries v6 v_wrong v_isEnd v_found v_reached v_stepIn v_laid v_firstRow v_text v_textLong v_spot v_taken v_counted) H := hP
        have hD : va_D A (wdM cI cZ h v_all v_past v_states v_refused v_far v_row v_stepAt v_depth v_tries v6 v_wrong v_isEnd v_found v_reached v_stepIn v_laid v_firstRow v_text v_textLong v_spot v_taken v_counted) := hD
        refine lv_iinc (v := (x1 + 1)) (lv' := [(1, .int (x1 + 1)), (0, .ref (h 0))]) hx hb dX9_valuesBegin_27 hl (k := 1) rfl rfl (by decide) rfl (fun ls hl => ?_)
        refine lv_goto (tgt := 7) hx hb dX9_valuesBegin_30 (by decide) ?_
        exact ih v6 v_wrong (x1 + 1) _ _ _ hf hP hD hS (lv_sub hl [1, 0] rfl)
  rw [f9_valuesBegin] at hf
  refine lv_aload_n hx hb dX9_valuesBegin_0 rfl (lv_at hl 0 rfl) ?_
  refine lv_iconst (v := 0) hx hb dX9_valuesBegin_1 (by decide) ?_
  refine va_put (D := D) (cl := vwCl) (ci := 6) (v := .int (0 : Int32)) (ty := .int) (C := RX9) (T := TX9) (N := 22) hx hb hts hin9 tyX9 tyX9_ok nmX9 hown hK hP hD hS 0 rfl rfl 10 (by decide) (hts (.fieldLink RX9 140 "StepOrdersModel" "wrong" "I") (by decide +kernel)) (fun _ h9 => h9) rfl (tyX9_ok 10 (by decide)) rfl rfl (Nat.le_of_ble_eq_true rfl) dX9_valuesBegin_2 (fun H locs hP hD hS => ?_)
  have hP : va_P D vwCl (wdM cI cZ h v_all v_past v_states v_refused v_far v_row v_stepAt v_depth v_tries v_values (0 : Int32) v_isEnd v_found v_reached v_stepIn v_laid v_firstRow v_text v_textLong v_spot v_taken v_counted) H := hP
  have hD : va_D A (wdM cI cZ h v_all v_past v_states v_refused v_far v_row v_stepAt v_depth v_tries v_values (0 : Int32) v_isEnd v_found v_reached v_stepIn v_laid v_firstRow v_text v_textLong v_spot v_taken v_counted) := hD
  refine lv_iconst (v := 0) hx hb dX9_valuesBegin_5 (by decide) ?_
  refine lv_istore_n (lv' := [(1, .int (0 : Int32)), (0, .ref (h 0))]) hx hb dX9_valuesBegin_6 rfl hl (by decide) rfl (fun ls hl => ?_)
  exact J7 kFUEL v_values (0 : Int32) (0 : Int32) _ _ _ hf hP hD hS (lv_sub hl [1, 0] rfl)

set_option maxHeartbeats 4000000 in
set_option maxRecDepth 100000 in
theorem c9_doesStep (l : Launch) (D : va_G) (cB cI cZ cO : ClassId) (h : Nat → Nat) (sz : Nat) (x1 : Int32) (x2 : Int32) (v_all : Nat → Int32) (v_past : Nat → Int32) (v_states : Int32) (v_refused : Nat → Int32) (v_far : Nat → Int32) (v_row : Nat → Int32) (v_stepAt : Nat → Int32) (v_depth : Int32) (v_tries : Nat → Int32) (v_values : Nat → Int32) (v_wrong : Int32) (v_isEnd : Nat → Int32) (v_found : Nat → Int32) (v_reached : Nat → Int32) (v_stepIn : Nat → Int32) (v_laid : Nat → Int32) (v_firstRow : Nat → Int32) (v_text : Nat → Int32) (v_textLong : Int32) (v_spot : Int32) (v_taken : Int32) (v_counted : Nat → Int32) (v_values' : Nat → Int32) (v_wrong' : Int32) (hf : f9_doesStep v_all v_values v_wrong x1 x2 = some (v_values', v_wrong')) : Met l yX9_doesStep wsX9_doesStep rm9_doesStep (va_Pc [.ref (h 0), .int x1, .int x2] (kb_B D (ka_tys cB cI cZ cO) sz (wdM cI cZ h v_all v_past v_states v_refused v_far v_row v_stepAt v_depth v_tries v_values v_wrong v_isEnd v_found v_reached v_stepIn v_laid v_firstRow v_text v_textLong v_spot v_taken v_counted))) (va_Qv (fun (_ : Unit) => True) (fun _ t => va_P D vwCl (wdM cI cZ h v_all v_past v_states v_refused v_far v_row v_stepAt v_depth v_tries (v_values') (v_wrong') v_isEnd v_found v_reached v_stepIn v_laid v_firstRow v_text v_textLong v_spot v_taken v_counted) t.heap) (va_A (wdM cI cZ h v_all v_past v_states v_refused v_far v_row v_stepAt v_depth v_tries v_values v_wrong v_isEnd v_found v_reached v_stepIn v_laid v_firstRow v_text v_textLong v_spot v_taken v_counted) sz)) 0 0 (va_A (wdM cI cZ h v_all v_past v_states v_refused v_far v_row v_stepAt v_depth v_tries v_values v_wrong v_isEnd v_found v_reached v_stepIn v_laid v_firstRow v_text v_textLong v_spot v_taken v_counted) sz) := by
  refine kb_metV (cc := cX9_doesStep) (maxL := 5) (by decide) rfl (Nat.le_of_ble_eq_true rfl) ?_
  intro p e s m args below meth c Q A ls H hx hb hml hown hts hK hN hP hD hS hA hl hend
  have hown : s.vm.findClass RX9 = some m.cls := hown
  have hl : lv_has ls 5 [(0, .ref (h 0)), (1, .int x1), (2, .int x2)] := hl
  have hin9 : ∀ w ∈ u_ws RX9 TX9 22, w ∈ wsX9_doesStep := by decide +kernel
  have J125 : ∀ (v_values : Nat → Int32) (v_wrong : Int32) (s1 : Int32) (s2 : Int32) (H : Heap) (locs : List Loc) (ls : Array Slot), f9_doesStep_b125 v_all v_values v_wrong s1 s2 = some (v_values', v_wrong') → va_P D vwCl (wdM cI cZ h v_all v_past v_states v_refused v_far v_row v_stepAt v_depth v_tries v_values v_wrong v_isEnd v_found v_reached v_stepIn v_laid v_firstRow v_text v_textLong v_spot v_taken v_counted) H → va_D A (wdM cI cZ h v_all v_past v_states v_refused v_far v_row v_stepAt v_depth v_tries v_values v_wrong v_isEnd v_found v_reached v_stepIn v_laid v_firstRow v_text v_textLong v_spot v_taken v_counted) → va_S A s.heap H locs → lv_has ls 5 [] → W p l e rm9_doesStep s m args below meth c H locs 0 0 Q (F0 m 125 ls [.int s2, .int s1, .ref (h 0)]) := by
    intro v_values v_wrong s1 s2 H locs ls hf hP hD hS hl
    rw [f9_doesStep_b125] at hf
    refine lv_iadd hx hb dX9_doesStep_125 ?_
    refine va_put (D := D) (cl := vwCl) (ci := 6) (v := .int (s1 + s2)) (ty := .int) (C := RX9) (T := TX9) (N := 22) hx hb hts hin9 tyX9 tyX9_ok nmX9 hown hK hP hD hS 0 rfl rfl 10 (by decide) (hts (.fieldLink RX9 140 "StepOrdersModel" "wrong" "I") (by decide +kernel)) (fun _ h9 => h9) rfl (tyX9_ok 10 (by decide)) rfl rfl (Nat.le_of_ble_eq_true rfl) dX9_doesStep_126 (fun H locs hP hD hS => ?_)
    have hP : va_P D vwCl (wdM cI cZ h v_all v_past v_states v_refused v_far v_row v_stepAt v_depth v_tries v_values (s1 + s2) v_isEnd v_found v_reached v_stepIn v_laid v_firstRow v_text v_textLong v_spot v_taken v_counted) H := hP
    have hD : va_D A (wdM cI cZ h v_all v_past v_states v_refused v_far v_row v_stepAt v_depth v_tries v_values (s1 + s2) v_isEnd v_found v_reached v_stepIn v_laid v_firstRow v_text v_textLong v_spot v_taken v_counted) := hD
    refine lv_goto (tgt := 132) hx hb dX9_doesStep_129 (by decide) ?_
    obtain ⟨z1, y1⟩ := Prod.mk.inj (Option.some.inj hf)
    subst z1 y1
    exact hend _ _ _ _ hP hS dX9_doesStep_132
  rw [f9_doesStep] at hf
  refine lv_aload_n hx hb dX9_doesStep_0 rfl (lv_at hl 0 rfl) ?_
  refine lv_iload_n hx hb dX9_doesStep_1 rfl (lv_at hl 1 rfl) ?_
  refine lv_iload_n hx hb dX9_doesStep_2 rfl (lv_at hl 2 rfl) ?_
  refine lv_iconst (v := 1) hx hb dX9_doesStep_3 (by decide) ?_
  refine kb_bind hf (fun q1 hq1 hf => ?_)
  have hPc : va_P D vwCl (wdM cI cZ h v_all v_past v_states v_refused v_far v_row v_stepAt v_depth v_tries v_values v_wrong v_isEnd v_found v_reached v_stepIn v_laid v_firstRow v_text v_textLong v_spot v_taken v_counted) H := hP.sub [0, 1, 2, 3, 4, 5, 6, 7, 8, 9, 10, 11, 12, 13, 14, 15, 16] rfl
  have hDc : va_D A (wdM cI cZ h v_all v_past v_states v_refused v_far v_row v_stepAt v_depth v_tries v_values v_wrong v_isEnd v_found v_reached v_stepIn v_laid v_firstRow v_text v_textLong v_spot v_taken v_counted) := hD.sub [0, 1, 2, 3, 4, 5, 6, 7, 8, 9, 10, 11, 12, 13, 14, 15, 16] (by decide) rfl
  refine kd_iR (va_runV (As := [.int x1, .int x2, .int (1 : Int32)]) (rest := []) ⟨hx, hb, hml, hown, hts⟩ (c9_its l D cB cI cZ cO h H.size x1 x2 (1 : Int32) v_all v_past v_states v_refused v_far v_row v_stepAt v_depth v_tries v_values v_wrong v_isEnd v_found v_reached v_stepIn v_laid v_firstRow v_text v_textLong v_spot v_taken v_counted q1 hq1) (cwV 3 hts gX9_doesStep_X9_its rfl rfl rfl (by decide +kernel) ⟨Nat.le_of_ble_eq_true rfl, Nat.le_of_ble_eq_true rfl⟩) ⟨kb_blind, va_recv hK hPc (ci := 6) (q0 := 0) rfl rfl, kb_pre hPc hDc hK hN⟩ rfl rfl hl.1 rfl (lv_room (Nat.le_of_ble_eq_true rfl)) dX9_doesStep_4 ⟨Nat.le_refl _, Nat.le_refl _⟩) hP hD hS hA [0, 1, 2, 3, 4, 5, 6, 7, 8, 9, 10, 11, 12, 13, 14, 15, 16] rfl (fun H locs hn2 hP hS => ?_)
  refine lv_istore_n (lv' := [(3, .int q1), (0, .ref (h 0)), (1, .int x1), (2, .int x2)]) hx hb dX9_doesStep_7 rfl hl (by decide) rfl (fun ls hl => ?_)
  refine lv_aload_n hx hb dX9_doesStep_8 rfl (lv_at hl 1 rfl) ?_
  refine lv_iload_n hx hb dX9_doesStep_9 rfl (lv_at hl 2 rfl) ?_
  refine lv_iload_n hx hb dX9_doesStep_10 rfl (lv_at hl 3 rfl) ?_
  refine lv_iconst (v := 2) hx hb dX9_doesStep_11 (by decide) ?_
  refine kb_bind hf (fun q3 hq3 hf => ?_)
  have hPc : va_P D vwCl (wdM cI cZ h v_all v_past v_states v_refused v_far v_row v_stepAt v_depth v_tries v_values v_wrong v_isEnd v_found v_reached v_stepIn v_laid v_firstRow v_text v_textLong v_spot v_taken v_counted) H := hP.sub [0, 1, 2, 3, 4, 5, 6, 7, 8, 9, 10, 11, 12, 13, 14, 15, 16] rfl
  have hDc : va_D A (wdM cI cZ h v_all v_past v_states v_refused v_far v_row v_stepAt v_depth v_tries v_values v_wrong v_isEnd v_found v_reached v_stepIn v_laid v_firstRow v_text v_textLong v_spot v_taken v_counted) := hD.sub [0, 1, 2, 3, 4, 5, 6, 7, 8, 9, 10, 11, 12, 13, 14, 15, 16] (by decide) rfl
  refine kd_iR (va_runV (As := [.int x1, .int x2, .int (2 : Int32)]) (rest := []) ⟨hx, hb, hml, hown, hts⟩ (c9_its l D cB cI cZ cO h H.size x1 x2 (2 : Int32) v_all v_past v_states v_refused v_far v_row v_stepAt v_depth v_tries v_values v_wrong v_isEnd v_found v_reached v_stepIn v_laid v_firstRow v_text v_textLong v_spot v_taken v_counted q3 hq3) (cwV 3 hts gX9_doesStep_X9_its rfl rfl rfl (by decide +kernel) ⟨Nat.le_of_ble_eq_true rfl, Nat.le_of_ble_eq_true rfl⟩) ⟨kb_blind, va_recv hK hPc (ci := 6) (q0 := 0) rfl rfl, kb_pre hPc hDc hK hN⟩ rfl rfl hl.1 rfl (lv_room (Nat.le_of_ble_eq_true rfl)) dX9_doesStep_12 ⟨Nat.le_refl _, Nat.le_refl _⟩) hP hD hS hA [0, 1, 2, 3, 4, 5, 6, 7, 8, 9, 10, 11, 12, 13, 14, 15, 16] rfl (fun H locs hn4 hP hS => ?_)
  refine lv_istore (lv' := [(4, .int q3), (3, .int q1), (0, .ref (h 0)), (1, .int x1), (2, .int x2)]) hx hb dX9_doesStep_15 hl (by decide) rfl (fun ls hl => ?_)
  refine lv_aload_n hx hb dX9_doesStep_17 rfl (lv_at hl 2 rfl) ?_
  refine lv_iload_n hx hb dX9_doesStep_18 rfl (lv_at hl 3 rfl) ?_
  refine lv_iload_n hx hb dX9_doesStep_19 rfl (lv_at hl 4 rfl) ?_
  refine lv_iconst (v := 0) hx hb dX9_doesStep_20 (by decide) ?_
  refine kb_bind hf (fun q5 hq5 hf => ?_)
  have hPc : va_P D vwCl (wdM cI cZ h v_all v_past v_states v_refused v_far v_row v_stepAt v_depth v_tries v_values v_wrong v_isEnd v_found v_reached v_stepIn v_laid v_firstRow v_text v_textLong v_spot v_taken v_counted) H := hP.sub [0, 1, 2, 3, 4, 5, 6, 7, 8, 9, 10, 11, 12, 13, 14, 15, 16] rfl
  have hDc : va_D A (wdM cI cZ h v_all v_past v_states v_refused v_far v_row v_stepAt v_depth v_tries v_values v_wrong v_isEnd v_found v_reached v_stepIn v_laid v_firstRow v_text v_textLong v_spot v_taken v_counted) := hD.sub [0, 1, 2, 3, 4, 5, 6, 7, 8, 9, 10, 11, 12, 13, 14, 15, 16] (by decide) rfl
  refine kd_iR (va_runV (As := [.int x1, .int x2, .int (0 : Int32)]) (rest := []) ⟨hx, hb, hml, hown, hts⟩ (c9_its l D cB cI cZ cO h H.size x1 x2 (0 : Int32) v_all v_past v_states v_refused v_far v_row v_stepAt v_depth v_tries v_values v_wrong v_isEnd v_found v_reached v_stepIn v_laid v_firstRow v_text v_textLong v_spot v_taken v_counted q5 hq5) (cwV 3 hts gX9_doesStep_X9_its rfl rfl rfl (by decide +kernel) ⟨Nat.le_of_ble_eq_true rfl, Nat.le_of_ble_eq_true rfl⟩) ⟨kb_blind, va_recv hK hPc (ci := 6) (q0 := 0) rfl rfl, kb_pre hPc hDc hK hN⟩ rfl rfl hl.1 rfl (lv_room (Nat.le_of_ble_eq_true rfl)) dX9_doesStep_21 ⟨Nat.le_refl _, Nat.le_refl _⟩) hP hD hS hA [0, 1, 2, 3, 4, 5, 6, 7, 8, 9, 10, 11, 12, 13, 14, 15, 16] rfl (fun H locs hn6 hP hS => ?_)
  by_cases c7_0 : q5 = 0
  · rw [if_pos c7_0] at hf
    refine lv_tableIn (tgt := 56) (off := 32) hx hb dX9_doesStep_24 (by rw [c7_0]; decide) (by rw [c7_0]; decide) (by rw [c7_0]; rfl) (by decide) ?_
    refine lv_aload_n hx hb dX9_doesStep_56 rfl (lv_at hl 2 rfl) ?_
    refine va_get (D := D) (cl := vwCl) (ci := 6) (v := .ref (h 8)) (C := RX9) (T := TX9) (N := 22) hx hb hts hin9 hown hK hP 0 rfl rfl 9 (by decide) (hts (.fieldLink RX9 31 "StepOrdersModel" "values" "[I") (by decide +kernel)) (fun _ h9 => h9) rfl dX9_doesStep_57 ?_
    refine lv_iload_n hx hb dX9_doesStep_60 rfl (lv_at hl 1 rfl) ?_
    refine lv_iload hx hb dX9_doesStep_61 (lv_at hl 0 rfl) ?_
    refine kb_bind hf (fun v8 hv8 hf => ?_)
    refine ka_iast (D := D) (cl := vwCl) hx hb hK hP hD hS 8 1 (f := v_values) (g := v8) rfl rfl (awr_in hv8) (awr_v hv8) dX9_doesStep_63 (fun H locs hP hD hS => ?_)
    have hP : va_P D vwCl (wdM cI cZ h v_all v_past v_states v_refused v_far v_row v_stepAt v_depth v_tries v8 v_wrong v_isEnd v_found v_reached v_stepIn v_laid v_firstRow v_text v_textLong v_spot v_taken v_counted) H := hP
    have hD : va_D A (wdM cI cZ h v_all v_past v_states v_refused v_far v_row v_stepAt v_depth v_tries v8 v_wrong v_isEnd v_found v_reached v_stepIn v_laid v_firstRow v_text v_textLong v_spot v_taken v_counted) := hD
    refine lv_goto (tgt := 132) hx hb dX9_doesStep_64 (by decide) ?_
    obtain ⟨z1, y1⟩ := Prod.mk.inj (Option.some.inj hf)
    subst z1 y1
    exact hend _ _ _ _ hP hS dX9_doesStep_132
  rw [if_neg c7_0] at hf
  by_cases c7_1 : q5 = 1
  · rw [if_pos c7_1] at hf
    refine lv_tableIn (tgt := 67) (off := 43) hx hb dX9_doesStep_24 (by rw [c7_1]; decide) (by rw [c7_1]; decide) (by rw [c7_1]; rfl) (by decide) ?_
    refine lv_aload_n hx hb dX9_doesStep_67 rfl (lv_at hl 2 rfl) ?_
    refine va_get (D := D) (cl := vwCl) (ci := 6) (v := .ref (h 8)) (C := RX9) (T := TX9) (N := 22) hx hb hts hin9 hown hK hP 0 rfl rfl 9 (by decide) (hts (.fieldLink RX9 31 "StepOrdersModel" "values" "[I") (by decide +kernel)) (fun _ h9 => h9) rfl dX9_doesStep_68 ?_
    refine lv_iload_n hx hb dX9_doesStep_71 rfl (lv_at hl 1 rfl) ?_
    refine lv_aload_n hx hb dX9_doesStep_72 rfl (lv_at hl 2 rfl) ?_
    refine va_get (D := D) (cl := vwCl) (ci := 6) (v := .ref (h 8)) (C := RX9) (T := TX9) (N := 22) hx hb hts hin9 hown hK hP 0 rfl rfl 9 (by decide) (hts (.fieldLink RX9 31 "StepOrdersModel" "values" "[I") (by decide +kernel)) (fun _ h9 => h9) rfl dX9_doesStep_73 ?_
    refine lv_iload_n hx hb dX9_doesStep_76 rfl (lv_at hl 1 rfl) ?_
    refine kb_bind hf (fun v9 hv9 hf => ?_)
    refine ka_iald (D := D) (cl := vwCl) hx hb hK hP 8 1 (f := v_values) rfl rfl (ard_in hv9) (ard_v hv9) dX9_doesStep_77 ?_
    refine lv_iload hx hb dX9_doesStep_78 (lv_at hl 0 rfl) ?_
    refine lv_iadd hx hb dX9_doesStep_80 ?_
    refine lv_bipush (v := 10) hx hb dX9_doesStep_81 (by decide) ?_
    refine lv_irem hx hb dX9_doesStep_83 (by decide) ?_
    refine kb_bind hf (fun v10 hv10 hf => ?_)
    refine ka_iast (D := D) (cl := vwCl) hx hb hK hP hD hS 8 1 (f := v_values) (g := v10) rfl rfl (awr_in hv10) (awr_v hv10) dX9_doesStep_84 (fun H locs hP hD hS => ?_)
    have hP : va_P D vwCl (wdM cI cZ h v_all v_past v_states v_refused v_far v_row v_stepAt v_depth v_tries v10 v_wrong v_isEnd v_found v_reached v_stepIn v_laid v_firstRow v_text v_textLong v_spot v_taken v_counted) H := hP
    have hD : va_D A (wdM cI cZ h v_all v_past v_states v_refused v_far v_row v_stepAt v_depth v_tries v10 v_wrong v_isEnd v_found v_reached v_stepIn v_laid v_firstRow v_text v_textLong v_spot v_taken v_counted) := hD
    refine lv_goto (tgt := 132) hx hb dX9_doesStep_85 (by decide) ?_
    obtain ⟨z1, y1⟩ := Prod.mk.inj (Option.some.inj hf)
    subst z1 y1
    exact hend _ _ _ _ hP hS dX9_doesStep_132
  rw [if_neg c7_1] at hf
  by_cases c7_2 : q5 = 2
  · rw [if_pos c7_2] at hf
    refine lv_tableIn (tgt := 88) (off := 64) hx hb dX9_doesStep_24 (by rw [c7_2]; decide) (by rw [c7_2]; decide) (by rw [c7_2]; rfl) (by decide) ?_
    refine lv_aload_n hx hb dX9_doesStep_88 rfl (lv_at hl 2 rfl) ?_
    refine va_get (D := D) (cl := vwCl) (ci := 6) (v := .ref (h 8)) (C := RX9) (T := TX9) (N := 22) hx hb hts hin9 hown hK hP 0 rfl rfl 9 (by decide) (hts (.fieldLink RX9 31 "StepOrdersModel" "values" "[I") (by decide +kernel)) (fun _ h9 => h9) rfl dX9_doesStep_89 ?_
    refine lv_iload_n hx hb dX9_doesStep_92 rfl (lv_at hl 1 rfl) ?_
    refine lv_aload_n hx hb dX9_doesStep_93 rfl (lv_at hl 2 rfl) ?_
    refine va_get (D := D) (cl := vwCl) (ci := 6) (v := .ref (h 8)) (C := RX9) (T := TX9) (N := 22) hx hb hts hin9 hown hK hP 0 rfl rfl 9 (by decide) (hts (.fieldLink RX9 31 "StepOrdersModel" "values" "[I") (by decide +kernel)) (fun _ h9 => h9) rfl dX9_doesStep_94 ?_
    refine lv_iload hx hb dX9_doesStep_97 (lv_at hl 0 rfl) ?_
    refine kb_bind hf (fun v11 hv11 hf => ?_)
    refine ka_iald (D := D) (cl := vwCl) hx hb hK hP 8 1 (f := v_values) rfl rfl (ard_in hv11) (ard_v hv11) dX9_doesStep_99 ?_
    refine kb_bind hf (fun v12 hv12 hf => ?_)
    refine ka_iast (D := D) (cl := vwCl) hx hb hK hP hD hS 8 1 (f := v_values) (g := v12) rfl rfl (awr_in hv12) (awr_v hv12) dX9_doesStep_100 (fun H locs hP hD hS => ?_)
    have hP : va_P D vwCl (wdM cI cZ h v_all v_past v_states v_refused v_far v_row v_stepAt v_depth v_tries v12 v_wrong v_isEnd v_found v_reached v_stepIn v_laid v_firstRow v_text v_textLong v_spot v_taken v_counted) H := hP
    have hD : va_D A (wdM cI cZ h v_all v_past v_states v_refused v_far v_row v_stepAt v_depth v_tries v12 v_wrong v_isEnd v_found v_reached v_stepIn v_laid v_firstRow v_text v_textLong v_spot v_taken v_counted) := hD
    refine lv_goto (tgt := 132) hx hb dX9_doesStep_101 (by decide) ?_
    obtain ⟨z1, y1⟩ := Prod.mk.inj (Option.some.inj hf)
    subst z1 y1
    exact hend _ _ _ _ hP hS dX9_doesStep_132
  rw [if_neg c7_2] at hf
  by_cases c7_3 : q5 = 3
  · rw [if_pos c7_3] at hf
    refine lv_tableIn (tgt := 104) (off := 80) hx hb dX9_doesStep_24 (by rw [c7_3]; decide) (by rw [c7_3]; decide) (by rw [c7_3]; rfl) (by decide) ?_
    refine lv_aload_n hx hb dX9_doesStep_104 rfl (lv_at hl 2 rfl) ?_
    refine lv_dup hx hb dX9_doesStep_105 rfl ?_
    refine va_get (D := D) (cl := vwCl) (ci := 6) (v := .int v_wrong) (C := RX9) (T := TX9) (N := 22) hx hb hts hin9 hown hK hP 0 rfl rfl 10 (by decide) (hts (.fieldLink RX9 140 "StepOrdersModel" "wrong" "I") (by decide +kernel)) (fun _ h9 => h9) rfl dX9_doesStep_106 ?_
    refine lv_aload_n hx hb dX9_doesStep_109 rfl (lv_at hl 2 rfl) ?_
    refine va_get (D := D) (cl := vwCl) (ci := 6) (v := .ref (h 8)) (C := RX9) (T := TX9) (N := 22) hx hb hts hin9 hown hK hP 0 rfl rfl 9 (by decide) (hts (.fieldLink RX9 31 "StepOrdersModel" "values" "[I") (by decide +kernel)) (fun _ h9 => h9) rfl dX9_doesStep_110 ?_
    refine lv_iload_n hx hb dX9_doesStep_113 rfl (lv_at hl 1 rfl) ?_
    refine kb_bind hf (fun v13 hv13 hf => ?_)
    refine ka_iald (D := D) (cl := vwCl) hx hb hK hP 8 1 (f := v_values) rfl rfl (ard_in hv13) (ard_v hv13) dX9_doesStep_114 ?_
    refine lv_iload hx hb dX9_doesStep_115 (lv_at hl 0 rfl) ?_
    refine lv_icmp_ne (tgt := 124) hx hb dX9_doesStep_117 (by decide) (fun c14 => ?_) (fun c14 => ?_)
    · rw [if_neg c14] at hf
      refine lv_iconst (v := 1) hx hb dX9_doesStep_124 (by decide) ?_
      exact J125 v_values v_wrong v_wrong (1 : Int32) _ _ _ hf hP hD hS (lv_sub hl [] rfl)
    · rw [if_pos c14] at hf
      refine lv_iconst (v := 0) hx hb dX9_doesStep_120 (by decide) ?_
      refine lv_goto (tgt := 125) hx hb dX9_doesStep_121 (by decide) ?_
      exact J125 v_values v_wrong v_wrong (0 : Int32) _ _ _ hf hP hD hS (lv_sub hl [] rfl)
  rw [if_neg c7_3] at hf
  refine lv_tableOut (tgt := 132) hx hb dX9_doesStep_24 (by have e0 := lv_neT c7_0 (a := 0) rfl; have e1 := lv_neT c7_1 (a := 1) rfl; have e2 := lv_neT c7_2 (a := 2) rfl; have e3 := lv_neT c7_3 (a := 3) rfl; omega) (by decide) ?_
  obtain ⟨z1, y1⟩ := Prod.mk.inj (Option.some.inj hf)
  subst z1 y1
  exact hend _ _ _ _ hP hS dX9_doesStep_132
