set_option maxHeartbeats 4000000 in
set_option maxRecDepth 100000 in
theorem c8_below (l : Launch) (D : va_G) (cB cI cZ cO : ClassId) (h : Nat → Nat) (sz : Nat) (x0 : Int32) (x1 : Int32) (r0 : Int32) (hf : f8_below x0 x1 = r0) : Met l yX8_below wsX8_below rm8_below (va_Pc [.int x0, .int x1] (kb_B D (ka_tys cB cI cZ cO) sz ([]))) (va_Qi (kb_post .boolean r0) (fun _ t => va_P D vwCl ([]) t.heap) (va_A ([]) sz)) 0 0 (va_A ([]) sz) := by
  refine kb_metZ (cc := cX8_below) (maxL := 2) (ty := .boolean) (by decide) rfl (Nat.le_of_ble_eq_true rfl) ?_
  intro p e s m args below meth c Q A ls H hx hb hml hown hts hK hN hP hD hS hA hl hend
  have hown : s.vm.findClass RX8 = some m.cls := hown
  have hl : lv_has ls 2 [(0, .int x0), (1, .int x1)] := hl
  rw [f8_below] at hf
  refine lv_iload_n hx hb dX8_below_0 rfl (lv_at hl 0 rfl) ?_
  refine lv_if_lt (tgt := 13) hx hb dX8_below_1 (by decide) (fun c1 => ?_) (fun c1 => ?_)
  · rw [if_pos c1] at hf
    refine lv_iconst (v := 0) hx hb dX8_below_13 (by decide) ?_
    subst hf
    exact hend _ _ _ _ rfl hP hS dX8_below_14
  · rw [if_neg c1] at hf
    refine lv_iload_n hx hb dX8_below_4 rfl (lv_at hl 0 rfl) ?_
    refine lv_iload_n hx hb dX8_below_5 rfl (lv_at hl 1 rfl) ?_
    refine lv_icmp_ge (tgt := 13) hx hb dX8_below_6 (by decide) (fun c2 => ?_) (fun c2 => ?_)
    · rw [if_pos c2] at hf
      refine lv_iconst (v := 0) hx hb dX8_below_13 (by decide) ?_
      subst hf
      exact hend _ _ _ _ rfl hP hS dX8_below_14
    · rw [if_neg c2] at hf
      refine lv_iconst (v := 1) hx hb dX8_below_9 (by decide) ?_
      refine lv_goto (tgt := 14) hx hb dX8_below_10 (by decide) ?_
      subst hf
      exact hend _ _ _ _ rfl hP hS dX8_below_14

set_option maxHeartbeats 4000000 in
set_option maxRecDepth 100000 in
theorem c2_at (l : Launch) (D : va_G) (cB cI cZ cO : ClassId) (h : Nat → Nat) (sz : Nat) (x0 : Int64) (x2 : Int32) (r0 : Int32) (hf : f2_at x0 x2 = r0) : Met l yX2_at wsX2_at rm2_at (va_Pc [.long x0, .int x2] (kb_B D (ka_tys cB cI cZ cO) sz ([]))) (va_Qi (kb_post .int r0) (fun _ t => va_P D vwCl ([]) t.heap) (va_A ([]) sz)) 0 0 (va_A ([]) sz) := by
  refine kb_metZ (cc := cX2_at) (maxL := 3) (ty := .int) (by decide) rfl (Nat.le_of_ble_eq_true rfl) ?_
  intro p e s m args below meth c Q A ls H hx hb hml hown hts hK hN hP hD hS hA hl hend
  have hown : s.vm.findClass RX2 = some m.cls := hown
  have hl : lv_has ls 3 [(0, .long x0), (2, .int x2)] := hl
  rw [f2_at] at hf
  refine lv_lload_n hx hb dX2_at_0 rfl (lv_at hl 0 rfl) ?_
  refine lv_iconst (v := 4) hx hb dX2_at_1 (by decide) ?_
  refine lv_iload_n hx hb dX2_at_2 rfl (lv_at hl 1 rfl) ?_
  refine lv_imul hx hb dX2_at_3 ?_
  refine lv_lushr (v := (ku_lshr x0 ((4 : Int32) * x2))) hx hb dX2_at_4 rfl ?_
  refine lv_l2i (v := (ku_lshr x0 ((4 : Int32) * x2)).toInt32) hx hb dX2_at_5 rfl ?_
  refine lv_bipush (v := 15) hx hb dX2_at_6 (by decide) ?_
  refine lv_iand hx hb dX2_at_8 ?_
  subst hf
  exact hend _ _ _ _ rfl hP hS dX2_at_9

set_option maxHeartbeats 4000000 in
set_option maxRecDepth 100000 in
theorem c2_with (l : Launch) (D : va_G) (cB cI cZ cO : ClassId) (h : Nat → Nat) (sz : Nat) (x0 : Int64) (x2 : Int32) (x3 : Int32) (r0 : Int64) (hf : f2_with x0 x2 x3 = r0) : Met l yX2_with wsX2_with rm2_with (va_Pc [.long x0, .int x2, .int x3] (kb_B D (ka_tys cB cI cZ cO) sz ([]))) (va_Ql (fun r (_ : Unit) => r = r0) (fun _ t => va_P D vwCl ([]) t.heap) (va_A ([]) sz)) 0 0 (va_A ([]) sz) := by
  refine kb_metL (cc := cX2_with) (maxL := 5) (by decide) rfl (Nat.le_of_ble_eq_true rfl) ?_
  intro p e s m args below meth c Q A ls H hx hb hml hown hts hK hN hP hD hS hA hl hend
  have hown : s.vm.findClass RX2 = some m.cls := hown
  have hl : lv_has ls 5 [(0, .long x0), (2, .int x2), (3, .int x3)] := hl
  rw [f2_with] at hf
  refine lv_iconst (v := 4) hx hb dX2_with_0 (by decide) ?_
  refine lv_iload_n hx hb dX2_with_1 rfl (lv_at hl 1 rfl) ?_
  refine lv_imul hx hb dX2_with_2 ?_
  refine lv_istore (lv' := [(4, .int ((4 : Int32) * x2)), (0, .long x0), (2, .int x2), (3, .int x3)]) hx hb dX2_with_3 hl (by decide) rfl (fun ls hl => ?_)
  refine lv_lload_n hx hb dX2_with_5 rfl (lv_at hl 1 rfl) ?_
  refine lv_ldc2 (v := 15) hx hb hown (hts (.constantLong RX2 11 (15)) (by decide +kernel)) dX2_with_6 ?_
  refine lv_iload hx hb dX2_with_9 (lv_at hl 0 rfl) ?_
  refine lv_lshl (v := ((15 : Int64) <<< (((4 : Int32) * x2).toInt64 &&& 63))) hx hb dX2_with_11 rfl ?_
  refine lv_ldc2 (v := (-1)) hx hb hown (hts (.constantLong RX2 13 (-1)) (by decide +kernel)) dX2_with_12 ?_
  refine lv_lxor hx hb dX2_with_15 ?_
  refine lv_land hx hb dX2_with_16 ?_
  refine lv_iload_n hx hb dX2_with_17 rfl (lv_at hl 3 rfl) ?_
  refine lv_i2l (v := x3.toInt64) hx hb dX2_with_18 rfl ?_
  refine lv_iload hx hb dX2_with_19 (lv_at hl 0 rfl) ?_
  refine lv_lshl (v := (x3.toInt64 <<< (((4 : Int32) * x2).toInt64 &&& 63))) hx hb dX2_with_21 rfl ?_
  refine lv_lor hx hb dX2_with_22 ?_
  subst hf
  exact hend _ _ _ _ hP hS dX2_with_23

set_option maxHeartbeats 4000000 in
set_option maxRecDepth 100000 in
theorem c2_doneOf (l : Launch) (D : va_G) (cB cI cZ cO : ClassId) (h : Nat → Nat) (sz : Nat) (x0 : Int64) (x2 : Int32) (r0 : Int32) (hf : f2_doneOf x0 x2 = r0) : Met l yX2_doneOf wsX2_doneOf rm2_doneOf (va_Pc [.long x0, .int x2] (kb_B D (ka_tys cB cI cZ cO) sz ([]))) (va_Qi (kb_post .int r0) (fun _ t => va_P D vwCl ([]) t.heap) (va_A ([]) sz)) 0 0 (va_A ([]) sz) := by
  refine kb_metZ (cc := cX2_doneOf) (maxL := 3) (ty := .int) (by decide) rfl (Nat.le_of_ble_eq_true rfl) ?_
  intro p e s m args below meth c Q A ls H hx hb hml hown hts hK hN hP hD hS hA hl hend
  have hown : s.vm.findClass RX2 = some m.cls := hown
  have hl : lv_has ls 3 [(0, .long x0), (2, .int x2)] := hl
  rw [f2_doneOf] at hf
  refine lv_lload_n hx hb dX2_doneOf_0 rfl (lv_at hl 0 rfl) ?_
  refine lv_iload_n hx hb dX2_doneOf_1 rfl (lv_at hl 1 rfl) ?_
  have hPc : va_P D vwCl ([]) H := hP.sub [] rfl
  have hDc : va_D A ([]) := hD.sub [] (by decide) rfl
  refine kd_iR (va_runS (As := [.long x0, .int x2]) (rest := []) ⟨hx, hb, hml, hown, hts⟩ (c2_at l D cB cI cZ cO h H.size x0 x2 (f2_at x0 x2) rfl) (va_cwS 2 hts gX2_doneOf_X2_at rfl rfl rfl (by decide +kernel) ⟨Nat.le_of_ble_eq_true rfl, Nat.le_of_ble_eq_true rfl⟩) ⟨kb_blind, kb_pre hPc hDc hK hN⟩ rfl rfl hl.1 rfl (lv_room (Nat.le_of_ble_eq_true rfl)) dX2_doneOf_2 ⟨Nat.le_refl _, Nat.le_refl _⟩) hP hD hS hA [] rfl (fun H locs hn1 hP hS => ?_)
  subst hf
  exact hend _ _ _ _ rfl hP hS dX2_doneOf_5

set_option maxHeartbeats 4000000 in
set_option maxRecDepth 100000 in
theorem c2_withDone (l : Launch) (D : va_G) (cB cI cZ cO : ClassId) (h : Nat → Nat) (sz : Nat) (x0 : Int64) (x2 : Int32) (x3 : Int32) (r0 : Int64) (hf : f2_withDone x0 x2 x3 = r0) : Met l yX2_withDone wsX2_withDone rm2_withDone (va_Pc [.long x0, .int x2, .int x3] (kb_B D (ka_tys cB cI cZ cO) sz ([]))) (va_Ql (fun r (_ : Unit) => r = r0) (fun _ t => va_P D vwCl ([]) t.heap) (va_A ([]) sz)) 0 0 (va_A ([]) sz) := by
  refine kb_metL (cc := cX2_withDone) (maxL := 4) (by decide) rfl (Nat.le_of_ble_eq_true rfl) ?_
  intro p e s m args below meth c Q A ls H hx hb hml hown hts hK hN hP hD hS hA hl hend
  have hown : s.vm.findClass RX2 = some m.cls := hown
  have hl : lv_has ls 4 [(0, .long x0), (2, .int x2), (3, .int x3)] := hl
  rw [f2_withDone] at hf
  refine lv_lload_n hx hb dX2_withDone_0 rfl (lv_at hl 0 rfl) ?_
  refine lv_iload_n hx hb dX2_withDone_1 rfl (lv_at hl 1 rfl) ?_
  refine lv_iload_n hx hb dX2_withDone_2 rfl (lv_at hl 2 rfl) ?_
  have hPc : va_P D vwCl ([]) H := hP.sub [] rfl
  have hDc : va_D A ([]) := hD.sub [] (by decide) rfl
  refine kd_lR (va_runS (As := [.long x0, .int x2, .int x3]) (rest := []) ⟨hx, hb, hml, hown, hts⟩ (c2_with l D cB cI cZ cO h H.size x0 x2 x3 (f2_with x0 x2 x3) rfl) (va_cwS 3 hts gX2_withDone_X2_with rfl rfl rfl (by decide +kernel) ⟨Nat.le_of_ble_eq_true rfl, Nat.le_of_ble_eq_true rfl⟩) ⟨kb_blind, kb_pre hPc hDc hK hN⟩ rfl rfl hl.1 rfl (lv_room (Nat.le_of_ble_eq_true rfl)) dX2_withDone_3 ⟨Nat.le_refl _, Nat.le_refl _⟩) hP hD hS hA [] rfl (fun H locs hP hS => ?_)
  subst hf
  exact hend _ _ _ _ hP hS dX2_withDone_6

set_option maxHeartbeats 4000000 in
set_option maxRecDepth 100000 in
theorem c2_wrongOnes (l : Launch) (D : va_G) (cB cI cZ cO : ClassId) (h : Nat → Nat) (sz : Nat) (x0 : Int64) (r0 : Int32) (hf : f2_wrongOnes x0 = r0) : Met l yX2_wrongOnes wsX2_wrongOnes rm2_wrongOnes (va_Pc [.long x0] (kb_B D (ka_tys cB cI cZ cO) sz ([]))) (va_Qi (kb_post .int r0) (fun _ t => va_P D vwCl ([]) t.heap) (va_A ([]) sz)) 0 0 (va_A ([]) sz) := by
  refine kb_metZ (cc := cX2_wrongOnes) (maxL := 2) (ty := .int) (by decide) rfl (Nat.le_of_ble_eq_true rfl) ?_
  intro p e s m args below meth c Q A ls H hx hb hml hown hts hK hN hP hD hS hA hl hend
  have hown : s.vm.findClass RX2 = some m.cls := hown
  have hl : lv_has ls 2 [(0, .long x0)] := hl
  rw [f2_wrongOnes] at hf
  refine lv_lload_n hx hb dX2_wrongOnes_0 rfl (lv_at hl 0 rfl) ?_
  refine lv_iconst (v := 3) hx hb dX2_wrongOnes_1 (by decide) ?_
  have hPc : va_P D vwCl ([]) H := hP.sub [] rfl
  have hDc : va_D A ([]) := hD.sub [] (by decide) rfl
  refine kd_iR (va_runS (As := [.long x0, .int (3 : Int32)]) (rest := []) ⟨hx, hb, hml, hown, hts⟩ (c2_at l D cB cI cZ cO h H.size x0 (3 : Int32) (f2_at x0 (3 : Int32)) rfl) (va_cwS 2 hts gX2_wrongOnes_X2_at rfl rfl rfl (by decide +kernel) ⟨Nat.le_of_ble_eq_true rfl, Nat.le_of_ble_eq_true rfl⟩) ⟨kb_blind, kb_pre hPc hDc hK hN⟩ rfl rfl hl.1 rfl (lv_room (Nat.le_of_ble_eq_true rfl)) dX2_wrongOnes_2 ⟨Nat.le_refl _, Nat.le_refl _⟩) hP hD hS hA [] rfl (fun H locs hn1 hP hS => ?_)
  subst hf
  exact hend _ _ _ _ rfl hP hS dX2_wrongOnes_5

set_option maxHeartbeats 4000000 in
set_option maxRecDepth 100000 in
theorem c2_withOneWrongMore (l : Launch) (D : va_G) (cB cI cZ cO : ClassId) (h : Nat → Nat) (sz : Nat) (x0 : Int64) (r0 : Int64) (hf : f2_withOneWrongMore x0 = r0) : Met l yX2_withOneWrongMore wsX2_withOneWrongMore rm2_withOneWrongMore (va_Pc [.long x0] (kb_B D (ka_tys cB cI cZ cO) sz ([]))) (va_Ql (fun r (_ : Unit) => r = r0) (fun _ t => va_P D vwCl ([]) t.heap) (va_A ([]) sz)) 0 0 (va_A ([]) sz) := by
  refine kb_metL (cc := cX2_withOneWrongMore) (maxL := 2) (by decide) rfl (Nat.le_of_ble_eq_true rfl) ?_
  intro p e s m args below meth c Q A ls H hx hb hml hown hts hK hN hP hD hS hA hl hend
  have hown : s.vm.findClass RX2 = some m.cls := hown
  have hl : lv_has ls 2 [(0, .long x0)] := hl
  rw [f2_withOneWrongMore] at hf
  refine lv_lload_n hx hb dX2_withOneWrongMore_0 rfl (lv_at hl 0 rfl) ?_
  refine lv_iconst (v := 3) hx hb dX2_withOneWrongMore_1 (by decide) ?_
  refine lv_lload_n hx hb dX2_withOneWrongMore_2 rfl (lv_at hl 0 rfl) ?_
  have hPc : va_P D vwCl ([]) H := hP.sub [] rfl
  have hDc : va_D A ([]) := hD.sub [] (by decide) rfl
  refine kd_iR (va_runS (As := [.long x0]) (rest := [.int (3 : Int32), .long x0]) ⟨hx, hb, hml, hown, hts⟩ (c2_wrongOnes l D cB cI cZ cO h H.size x0 (f2_wrongOnes x0) rfl) (va_cwS 1 hts gX2_withOneWrongMore_X2_wrongOnes rfl rfl rfl (by decide +kernel) ⟨Nat.le_of_ble_eq_true rfl, Nat.le_of_ble_eq_true rfl⟩) ⟨kb_blind, kb_pre hPc hDc hK hN⟩ rfl rfl hl.1 rfl (lv_room (Nat.le_of_ble_eq_true rfl)) dX2_withOneWrongMore_3 ⟨Nat.le_refl _, Nat.le_refl _⟩) hP hD hS hA [] rfl (fun H locs hn1 hP hS => ?_)
  refine lv_iconst (v := 1) hx hb dX2_withOneWrongMore_6 (by decide) ?_
  refine lv_iadd hx hb dX2_withOneWrongMore_7 ?_
  have hPc : va_P D vwCl ([]) H := hP.sub [] rfl
  have hDc : va_D A ([]) := hD.sub [] (by decide) rfl
  refine kd_lR (va_runS (As := [.long x0, .int (3 : Int32), .int ((f2_wrongOnes x0) + (1 : Int32))]) (rest := []) ⟨hx, hb, hml, hown, hts⟩ (c2_with l D cB cI cZ cO h H.size x0 (3 : Int32) ((f2_wrongOnes x0) + (1 : Int32)) (f2_with x0 (3 : Int32) ((f2_wrongOnes x0) + (1 : Int32))) rfl) (va_cwS 3 hts gX2_withOneWrongMore_X2_with rfl rfl rfl (by decide +kernel) ⟨Nat.le_of_ble_eq_true rfl, Nat.le_of_ble_eq_true rfl⟩) ⟨kb_blind, kb_pre hPc hDc hK hN⟩ rfl rfl hl.1 rfl (lv_room (Nat.le_of_ble_eq_true rfl)) dX2_withOneWrongMore_8 ⟨Nat.le_refl _, Nat.le_refl _⟩) hP hD hS hA [] rfl (fun H locs hP hS => ?_)
  subst hf
  exact hend _ _ _ _ hP hS dX2_withOneWrongMore_11

set_option maxHeartbeats 4000000 in
set_option maxRecDepth 100000 in
theorem c2_valueOf (l : Launch) (D : va_G) (cB cI cZ cO : ClassId) (h : Nat → Nat) (sz : Nat) (x0 : Int64) (x2 : Int32) (r0 : Int32) (hf : f2_valueOf x0 x2 = r0) : Met l yX2_valueOf wsX2_valueOf rm2_valueOf (va_Pc [.long x0, .int x2] (kb_B D (ka_tys cB cI cZ cO) sz ([]))) (va_Qi (kb_post .int r0) (fun _ t => va_P D vwCl ([]) t.heap) (va_A ([]) sz)) 0 0 (va_A ([]) sz) := by
  refine kb_metZ (cc := cX2_valueOf) (maxL := 3) (ty := .int) (by decide) rfl (Nat.le_of_ble_eq_true rfl) ?_
  intro p e s m args below meth c Q A ls H hx hb hml hown hts hK hN hP hD hS hA hl hend
  have hown : s.vm.findClass RX2 = some m.cls := hown
  have hl : lv_has ls 3 [(0, .long x0), (2, .int x2)] := hl
  rw [f2_valueOf] at hf
  refine lv_lload_n hx hb dX2_valueOf_0 rfl (lv_at hl 0 rfl) ?_
  refine lv_iconst (v := 4) hx hb dX2_valueOf_1 (by decide) ?_
  refine lv_iload_n hx hb dX2_valueOf_2 rfl (lv_at hl 1 rfl) ?_
  refine lv_iadd hx hb dX2_valueOf_3 ?_
  have hPc : va_P D vwCl ([]) H := hP.sub [] rfl
  have hDc : va_D A ([]) := hD.sub [] (by decide) rfl
  refine kd_iR (va_runS (As := [.long x0, .int ((4 : Int32) + x2)]) (rest := []) ⟨hx, hb, hml, hown, hts⟩ (c2_at l D cB cI cZ cO h H.size x0 ((4 : Int32) + x2) (f2_at x0 ((4 : Int32) + x2)) rfl) (va_cwS 2 hts gX2_valueOf_X2_at rfl rfl rfl (by decide +kernel) ⟨Nat.le_of_ble_eq_true rfl, Nat.le_of_ble_eq_true rfl⟩) ⟨kb_blind, kb_pre hPc hDc hK hN⟩ rfl rfl hl.1 rfl (lv_room (Nat.le_of_ble_eq_true rfl)) dX2_valueOf_4 ⟨Nat.le_refl _, Nat.le_refl _⟩) hP hD hS hA [] rfl (fun H locs hn1 hP hS => ?_)
  subst hf
  exact hend _ _ _ _ rfl hP hS dX2_valueOf_7

set_option maxHeartbeats 4000000 in
set_option maxRecDepth 100000 in
theorem c2_withValue (l : Launch) (D : va_G) (cB cI cZ cO : ClassId) (h : Nat → Nat) (sz : Nat) (x0 : Int64) (x2 : Int32) (x3 : Int32) (r0 : Int64) (hf : f2_withValue x0 x2 x3 = r0) : Met l yX2_withValue wsX2_withValue rm2_withValue (va_Pc [.long x0, .int x2, .int x3] (kb_B D (ka_tys cB cI cZ cO) sz ([]))) (va_Ql (fun r (_ : Unit) => r = r0) (fun _ t => va_P D vwCl ([]) t.heap) (va_A ([]) sz)) 0 0 (va_A ([]) sz) := by
  refine kb_metL (cc := cX2_withValue) (maxL := 4) (by decide) rfl (Nat.le_of_ble_eq_true rfl) ?_
  intro p e s m args below meth c Q A ls H hx hb hml hown hts hK hN hP hD hS hA hl hend
  have hown : s.vm.findClass RX2 = some m.cls := hown
  have hl : lv_has ls 4 [(0, .long x0), (2, .int x2), (3, .int x3)] := hl
  rw [f2_withValue] at hf
  refine lv_lload_n hx hb dX2_withValue_0 rfl (lv_at hl 0 rfl) ?_
  refine lv_iconst (v := 4) hx hb dX2_withValue_1 (by decide) ?_
  refine lv_iload_n hx hb dX2_withValue_2 rfl (lv_at hl 1 rfl) ?_
  refine lv_iadd hx hb dX2_withValue_3 ?_
  refine lv_iload_n hx hb dX2_withValue_4 rfl (lv_at hl 2 rfl) ?_
  have hPc : va_P D vwCl ([]) H := hP.sub [] rfl
  have hDc : va_D A ([]) := hD.sub [] (by decide) rfl
  refine kd_lR (va_runS (As := [.long x0, .int ((4 : Int32) + x2), .int x3]) (rest := []) ⟨hx, hb, hml, hown, hts⟩ (c2_with l D cB cI cZ cO h H.size x0 ((4 : Int32) + x2) x3 (f2_with x0 ((4 : Int32) + x2) x3) rfl) (va_cwS 3 hts gX2_withValue_X2_with rfl rfl rfl (by decide +kernel) ⟨Nat.le_of_ble_eq_true rfl, Nat.le_of_ble_eq_true rfl⟩) ⟨kb_blind, kb_pre hPc hDc hK hN⟩ rfl rfl hl.1 rfl (lv_room (Nat.le_of_ble_eq_true rfl)) dX2_withValue_5 ⟨Nat.le_refl _, Nat.le_refl _⟩) hP hD hS hA [] rfl (fun H locs hP hS => ?_)
  subst hf
  exact hend _ _ _ _ hP hS dX2_withValue_8

set_option maxHeartbeats 4000000 in
set_option maxRecDepth 100000 in
theorem c2_holderOf (l : Launch) (D : va_G) (cB cI cZ cO : ClassId) (h : Nat → Nat) (sz : Nat) (x0 : Int64) (x2 : Int32) (r0 : Int32) (hf : f2_holderOf x0 x2 = r0) : Met l yX2_holderOf wsX2_holderOf rm2_holderOf (va_Pc [.long x0, .int x2] (kb_B D (ka_tys cB cI cZ cO) sz ([]))) (va_Qi (kb_post .int r0) (fun _ t => va_P D vwCl ([]) t.heap) (va_A ([]) sz)) 0 0 (va_A ([]) sz) := by
  refine kb_metZ (cc := cX2_holderOf) (maxL := 3) (ty := .int) (by decide) rfl (Nat.le_of_ble_eq_true rfl) ?_
  intro p e s m args below meth c Q A ls H hx hb hml hown hts hK hN hP hD hS hA hl hend
  have hown : s.vm.findClass RX2 = some m.cls := hown
  have hl : lv_has ls 3 [(0, .long x0), (2, .int x2)] := hl
  rw [f2_holderOf] at hf
  refine lv_lload_n hx hb dX2_holderOf_0 rfl (lv_at hl 0 rfl) ?_
  refine lv_bipush (v := 8) hx hb dX2_holderOf_1 (by decide) ?_
  refine lv_iload_n hx hb dX2_holderOf_3 rfl (lv_at hl 1 rfl) ?_
  refine lv_iadd hx hb dX2_holderOf_4 ?_
  have hPc : va_P D vwCl ([]) H := hP.sub [] rfl
  have hDc : va_D A ([]) := hD.sub [] (by decide) rfl
  refine kd_iR (va_runS (As := [.long x0, .int ((8 : Int32) + x2)]) (rest := []) ⟨hx, hb, hml, hown, hts⟩ (c2_at l D cB cI cZ cO h H.size x0 ((8 : Int32) + x2) (f2_at x0 ((8 : Int32) + x2)) rfl) (va_cwS 2 hts gX2_holderOf_X2_at rfl rfl rfl (by decide +kernel) ⟨Nat.le_of_ble_eq_true rfl, Nat.le_of_ble_eq_true rfl⟩) ⟨kb_blind, kb_pre hPc hDc hK hN⟩ rfl rfl hl.1 rfl (lv_room (Nat.le_of_ble_eq_true rfl)) dX2_holderOf_5 ⟨Nat.le_refl _, Nat.le_refl _⟩) hP hD hS hA [] rfl (fun H locs hn1 hP hS => ?_)
  refine lv_iconst (v := 1) hx hb dX2_holderOf_8 (by decide) ?_
  refine lv_isub hx hb dX2_holderOf_9 ?_
  subst hf
  exact hend _ _ _ _ rfl hP hS dX2_holderOf_10

set_option maxHeartbeats 4000000 in
set_option maxRecDepth 100000 in
theorem c2_withHolder (l : Launch) (D : va_G) (cB cI cZ cO : ClassId) (h : Nat → Nat) (sz : Nat) (x0 : Int64) (x2 : Int32) (x3 : Int32) (r0 : Int64) (hf : f2_withHolder x0 x2 x3 = r0) : Met l yX2_withHolder wsX2_withHolder rm2_withHolder (va_Pc [.long x0, .int x2, .int x3] (kb_B D (ka_tys cB cI cZ cO) sz ([]))) (va_Ql (fun r (_ : Unit) => r = r0) (fun _ t => va_P D vwCl ([]) t.heap) (va_A ([]) sz)) 0 0 (va_A ([]) sz) := by
  refine kb_metL (cc := cX2_withHolder) (maxL := 4) (by decide) rfl (Nat.le_of_ble_eq_true rfl) ?_
  intro p e s m args below meth c Q A ls H hx hb hml hown hts hK hN hP hD hS hA hl hend
  have hown : s.vm.findClass RX2 = some m.cls := hown
  have hl : lv_has ls 4 [(0, .long x0), (2, .int x2), (3, .int x3)] := hl
  rw [f2_withHolder] at hf
  refine lv_lload_n hx hb dX2_withHolder_0 rfl (lv_at hl 0 rfl) ?_
  refine lv_bipush (v := 8) hx hb dX2_withHolder_1 (by decide) ?_
  refine lv_iload_n hx hb dX2_withHolder_3 rfl (lv_at hl 1 rfl) ?_
  refine lv_iadd hx hb dX2_withHolder_4 ?_
  refine lv_iload_n hx hb dX2_withHolder_5 rfl (lv_at hl 2 rfl) ?_
  refine lv_iconst (v := 1) hx hb dX2_withHolder_6 (by decide) ?_
  refine lv_iadd hx hb dX2_withHolder_7 ?_
  have hPc : va_P D vwCl ([]) H := hP.sub [] rfl
  have hDc : va_D A ([]) := hD.sub [] (by decide) rfl
  refine kd_lR (va_runS (As := [.long x0, .int ((8 : Int32) + x2), .int (x3 + (1 : Int32))]) (rest := []) ⟨hx, hb, hml, hown, hts⟩ (c2_with l D cB cI cZ cO h H.size x0 ((8 : Int32) + x2) (x3 + (1 : Int32)) (f2_with x0 ((8 : Int32) + x2) (x3 + (1 : Int32))) rfl) (va_cwS 3 hts gX2_withHolder_X2_with rfl rfl rfl (by decide +kernel) ⟨Nat.le_of_ble_eq_true rfl, Nat.le_of_ble_eq_true rfl⟩) ⟨kb_blind, kb_pre hPc hDc hK hN⟩ rfl rfl hl.1 rfl (lv_room (Nat.le_of_ble_eq_true rfl)) dX2_withHolder_8 ⟨Nat.le_refl _, Nat.le_refl _⟩) hP hD hS hA [] rfl (fun H locs hP hS => ?_)
  subst hf
  exact hend _ _ _ _ hP hS dX2_withHolder_11

set_option maxHeartbeats 4000000 in
set_option maxRecDepth 100000 in
theorem c2_ending (l : Launch) (D : va_G) (cB cI cZ cO : ClassId) (h : Nat → Nat) (sz : Nat) (x0 : Int64) (r0 : Int32) (hf : f2_ending x0 = some r0) : Met l yX2_ending wsX2_ending rm2_ending (va_Pc [.long x0] (kb_B D (ka_tys cB cI cZ cO) sz ([]))) (va_Qi (kb_post .int r0) (fun _ t => va_P D vwCl ([]) t.heap) (va_A ([]) sz)) 0 0 (va_A ([]) sz) := by
  refine kb_metZ (cc := cX2_ending) (maxL := 4) (ty := .int) (by decide) rfl (Nat.le_of_ble_eq_true rfl) ?_
  intro p e s m args below meth c Q A ls H hx hb hml hown hts hK hN hP hD hS hA hl hend
  have hown : s.vm.findClass RX2 = some m.cls := hown
  have hl : lv_has ls 4 [(0, .long x0)] := hl
  have J26 : ∀ (x2 : Int32) (H : Heap) (locs : List Loc) (ls : Array Slot), f2_ending_b26 x2 = some r0 → va_P D vwCl ([]) H → va_D A ([]) → va_S A s.heap H locs → lv_has ls 4 [(2, .int x2)] → W p l e rm2_ending s m args below meth c H locs 0 0 Q (F0 m 26 ls []) := by
    intro x2 H locs ls hf hP hD hS hl
    rw [f2_ending_b26] at hf
    refine lv_iload_n hx hb dX2_ending_26 rfl (lv_at hl 0 rfl) ?_
    obtain rfl := Option.some.inj hf
    exact hend _ _ _ _ rfl hP hS dX2_ending_27
  have J4 : ∀ (n : Nat) (x0 : Int64) (x2 : Int32) (x3 : Int32) (H : Heap) (locs : List Loc) (ls : Array Slot), f2_ending_l4 n x0 x2 x3 = some r0 → va_P D vwCl ([]) H → va_D A ([]) → va_S A s.heap H locs → lv_has ls 4 [(0, .long x0), (2, .int x2), (3, .int x3)] → W p l e rm2_ending s m args below meth c H locs 0 0 Q (F0 m 4 ls []) := by
    intro n
    induction n with
    | zero =>
      intro x0 x2 x3 H locs ls hf
      cases (show (none : Option (Int32)) = some r0 from hf)
    | succ n ih =>
      intro x0 x2 x3 H locs ls hf hP hD hS hl
      rw [f2_ending_l4_s] at hf
      refine lv_iload_n hx hb dX2_ending_4 rfl (lv_at hl 2 rfl) ?_
      refine lv_iconst (v := 4) hx hb dX2_ending_5 (by decide) ?_
      refine lv_icmp_ge (tgt := 26) hx hb dX2_ending_6 (by decide) (fun c3 => ?_) (fun c3 => ?_)
      · rw [if_pos c3] at hf
        exact J26 x2 _ _ _ hf hP hD hS (lv_sub hl [1] rfl)
      · rw [if_neg c3] at hf
        refine lv_iload_n hx hb dX2_ending_9 rfl (lv_at hl 1 rfl) ?_
        refine lv_bipush (v := 10) hx hb dX2_ending_10 (by decide) ?_
        refine lv_imul hx hb dX2_ending_12 ?_
        refine lv_lload_n hx hb dX2_ending_13 rfl (lv_at hl 0 rfl) ?_
        refine lv_iload_n hx hb dX2_ending_14 rfl (lv_at hl 2 rfl) ?_
        have hPc : va_P D vwCl ([]) H := hP.sub [] rfl
        have hDc : va_D A ([]) := hD.sub [] (by decide) rfl
        refine kd_iR (va_runS (As := [.long x0, .int x3]) (rest := [.int (x2 * (10 : Int32))]) ⟨hx, hb, hml, hown, hts⟩ (c2_valueOf l D cB cI cZ cO h H.size x0 x3 (f2_valueOf x0 x3) rfl) (va_cwS 2 hts gX2_ending_X2_valueOf rfl rfl rfl (by decide +kernel) ⟨Nat.le_of_ble_eq_true rfl, Nat.le_of_ble_eq_true rfl⟩) ⟨kb_blind, kb_pre hPc hDc hK hN⟩ rfl rfl hl.1 rfl (lv_room (Nat.le_of_ble_eq_true rfl)) dX2_ending_15 ⟨Nat.le_refl _, Nat.le_refl _⟩) hP hD hS hA [] rfl (fun H locs hn4 hP hS => ?_)
        refine lv_iadd hx hb dX2_ending_18 ?_
        refine lv_istore_n (lv' := [(2, .int ((x2 * (10 : Int32)) + (f2_valueOf x0 x3))), (0, .long x0), (3, .int x3)]) hx hb dX2_ending_19 rfl hl (by decide) rfl (fun ls hl => ?_)
        refine lv_iinc (v := (x3 + 1)) (lv' := [(3, .int (x3 + 1)), (2, .int ((x2 * (10 : Int32)) + (f2_valueOf x0 x3))), (0, .long x0)]) hx hb dX2_ending_20 hl (k := 2) rfl rfl (by decide) rfl (fun ls hl => ?_)
        refine lv_goto (tgt := 4) hx hb dX2_ending_23 (by decide) ?_
        exact ih x0 ((x2 * (10 : Int32)) + (f2_valueOf x0 x3)) (x3 + 1) _ _ _ hf hP hD hS (lv_sub hl [2, 1, 0] rfl)
  rw [f2_ending] at hf
  refine lv_iconst (v := 0) hx hb dX2_ending_0 (by decide) ?_
  refine lv_istore_n (lv' := [(2, .int (0 : Int32)), (0, .long x0)]) hx hb dX2_ending_1 rfl hl (by decide) rfl (fun ls hl => ?_)
  refine lv_iconst (v := 0) hx hb dX2_ending_2 (by decide) ?_
  refine lv_istore_n (lv' := [(3, .int (0 : Int32)), (2, .int (0 : Int32)), (0, .long x0)]) hx hb dX2_ending_3 rfl hl (by decide) rfl (fun ls hl => ?_)
  exact J4 kFUEL x0 (0 : Int32) (0 : Int32) _ _ _ hf hP hD hS (lv_sub hl [2, 1, 0] rfl)

set_option maxHeartbeats 4000000 in
set_option maxRecDepth 100000 in
theorem c4_length (l : Launch) (D : va_G) (cB cI cZ cO : ClassId) (h : Nat → Nat) (sz : Nat) (x0 : Int32) (r0 : Int32) (hf : f4_length x0 = r0) : Met l yX4_length wsX4_length rm4_length (va_Pc [.int x0] (kb_B D (ka_tys cB cI cZ cO) sz ([]))) (va_Qi (kb_post .int r0) (fun _ t => va_P D vwCl ([]) t.heap) (va_A ([]) sz)) 0 0 (va_A ([]) sz) := by
  refine kb_metZ (cc := cX4_length) (maxL := 1) (ty := .int) (by decide) rfl (Nat.le_of_ble_eq_true rfl) ?_
  intro p e s m args below meth c Q A ls H hx hb hml hown hts hK hN hP hD hS hA hl hend
  have hown : s.vm.findClass RX4 = some m.cls := hown
  have hl : lv_has ls 1 [(0, .int x0)] := hl
  rw [f4_length] at hf
  refine lv_iload_n hx hb dX4_length_0 rfl (lv_at hl 0 rfl) ?_
  refine lv_bipush (v := 15) hx hb dX4_length_1 (by decide) ?_
  refine lv_iand hx hb dX4_length_3 ?_
  subst hf
  exact hend _ _ _ _ rfl hP hS dX4_length_4

set_option maxHeartbeats 4000000 in
set_option maxRecDepth 100000 in
theorem c4_threadAt (l : Launch) (D : va_G) (cB cI cZ cO : ClassId) (h : Nat → Nat) (sz : Nat) (x0 : Int32) (x1 : Int32) (r0 : Int32) (hf : f4_threadAt x0 x1 = r0) : Met l yX4_threadAt wsX4_threadAt rm4_threadAt (va_Pc [.int x0, .int x1] (kb_B D (ka_tys cB cI cZ cO) sz ([]))) (va_Qi (kb_post .int r0) (fun _ t => va_P D vwCl ([]) t.heap) (va_A ([]) sz)) 0 0 (va_A ([]) sz) := by
  refine kb_metZ (cc := cX4_threadAt) (maxL := 2) (ty := .int) (by decide) rfl (Nat.le_of_ble_eq_true rfl) ?_
  intro p e s m args below meth c Q A ls H hx hb hml hown hts hK hN hP hD hS hA hl hend
  have hown : s.vm.findClass RX4 = some m.cls := hown
  have hl : lv_has ls 2 [(0, .int x0), (1, .int x1)] := hl
  rw [f4_threadAt] at hf
  refine lv_iload_n hx hb dX4_threadAt_0 rfl (lv_at hl 0 rfl) ?_
  refine lv_iconst (v := 4) hx hb dX4_threadAt_1 (by decide) ?_
  refine lv_iconst (v := 2) hx hb dX4_threadAt_2 (by decide) ?_
  refine lv_bipush (v := 11) hx hb dX4_threadAt_3 (by decide) ?_
  refine lv_iload_n hx hb dX4_threadAt_5 rfl (lv_at hl 1 rfl) ?_
  refine lv_isub hx hb dX4_threadAt_6 ?_
  refine lv_imul hx hb dX4_threadAt_7 ?_
  refine lv_iadd hx hb dX4_threadAt_8 ?_
  refine lv_iushr (v := (ku_ishr x0 ((4 : Int32) + ((2 : Int32) * ((11 : Int32) - x1))))) hx hb dX4_threadAt_9 rfl ?_
  refine lv_iconst (v := 3) hx hb dX4_threadAt_10 (by decide) ?_
  refine lv_iand hx hb dX4_threadAt_11 ?_
  subst hf
  exact hend _ _ _ _ rfl hP hS dX4_threadAt_12

set_option maxHeartbeats 4000000 in
set_option maxRecDepth 100000 in
theorem c4_withThreadAt (l : Launch) (D : va_G) (cB cI cZ cO : ClassId) (h : Nat → Nat) (sz : Nat) (x0 : Int32) (x1 : Int32) (x2 : Int32) (r0 : Int32) (hf : f4_withThreadAt x0 x1 x2 = r0) : Met l yX4_withThreadAt wsX4_withThreadAt rm4_withThreadAt (va_Pc [.int x0, .int x1, .int x2] (kb_B D (ka_tys cB cI cZ cO) sz ([]))) (va_Qi (kb_post .int r0) (fun _ t => va_P D vwCl ([]) t.heap) (va_A ([]) sz)) 0 0 (va_A ([]) sz) := by
  refine kb_metZ (cc := cX4_withThreadAt) (maxL := 8) (ty := .int) (by decide) rfl (Nat.le_of_ble_eq_true rfl) ?_
  intro p e s m args below meth c Q A ls H hx hb hml hown hts hK hN hP hD hS hA hl hend
  have hown : s.vm.findClass RX4 = some m.cls := hown
  have hl : lv_has ls 8 [(0, .int x0), (1, .int x1), (2, .int x2)] := hl
  have J21 : ∀ (x0 : Int32) (H : Heap) (locs : List Loc) (ls : Array Slot), f4_withThreadAt_b21 x0 = r0 → va_P D vwCl ([]) H → va_D A ([]) → va_S A s.heap H locs → lv_has ls 8 [(0, .int x0)] → W p l e rm4_withThreadAt s m args below meth c H locs 0 0 Q (F0 m 21 ls []) := by
    intro x0 H locs ls hf hP hD hS hl
    rw [f4_withThreadAt_b21] at hf
    refine lv_iload_n hx hb dX4_withThreadAt_21 rfl (lv_at hl 0 rfl) ?_
    subst hf
    exact hend _ _ _ _ rfl hP hS dX4_withThreadAt_22
  rw [f4_withThreadAt] at hf
  refine lv_iload_n hx hb dX4_withThreadAt_0 rfl (lv_at hl 0 rfl) ?_
  have hPc : va_P D vwCl ([]) H := hP.sub [] rfl
  have hDc : va_D A ([]) := hD.sub [] (by decide) rfl
  refine kd_iR (va_runS (As := [.int x0]) (rest := []) ⟨hx, hb, hml, hown, hts⟩ (c4_length l D cB cI cZ cO h H.size x0 (f4_length x0) rfl) (va_cwS 1 hts gX4_withThreadAt_X4_length rfl rfl rfl (by decide +kernel) ⟨Nat.le_of_ble_eq_true rfl, Nat.le_of_ble_eq_true rfl⟩) ⟨kb_blind, kb_pre hPc hDc hK hN⟩ rfl rfl hl.1 rfl (lv_room (Nat.le_of_ble_eq_true rfl)) dX4_withThreadAt_1 ⟨Nat.le_refl _, Nat.le_refl _⟩) hP hD hS hA [] rfl (fun H locs hn1 hP hS => ?_)
  refine lv_bipush (v := 12) hx hb dX4_withThreadAt_4 (by decide) ?_
  refine lv_icmp_ge (tgt := 21) hx hb dX4_withThreadAt_6 (by decide) (fun c2 => ?_) (fun c2 => ?_)
  · rw [if_pos c2] at hf
    exact J21 x0 _ _ _ hf hP hD hS (lv_sub hl [0] rfl)
  · rw [if_neg c2] at hf
    refine lv_iload_n hx hb dX4_withThreadAt_9 rfl (lv_at hl 1 rfl) ?_
    refine lv_if_lt (tgt := 21) hx hb dX4_withThreadAt_10 (by decide) (fun c3 => ?_) (fun c3 => ?_)
    · rw [if_pos c3] at hf
      exact J21 x0 _ _ _ hf hP hD hS (lv_sub hl [0] rfl)
    · rw [if_neg c3] at hf
      refine lv_iload_n hx hb dX4_withThreadAt_13 rfl (lv_at hl 1 rfl) ?_
      refine lv_iload_n hx hb dX4_withThreadAt_14 rfl (lv_at hl 0 rfl) ?_
      have hPc : va_P D vwCl ([]) H := hP.sub [] rfl
      have hDc : va_D A ([]) := hD.sub [] (by decide) rfl
      refine kd_iR (va_runS (As := [.int x0]) (rest := [.int x1]) ⟨hx, hb, hml, hown, hts⟩ (c4_length l D cB cI cZ cO h H.size x0 (f4_length x0) rfl) (va_cwS 1 hts gX4_withThreadAt_X4_length rfl rfl rfl (by decide +kernel) ⟨Nat.le_of_ble_eq_true rfl, Nat.le_of_ble_eq_true rfl⟩) ⟨kb_blind, kb_pre hPc hDc hK hN⟩ rfl rfl hl.1 rfl (lv_room (Nat.le_of_ble_eq_true rfl)) dX4_withThreadAt_15 ⟨Nat.le_refl _, Nat.le_refl _⟩) hP hD hS hA [] rfl (fun H locs hn4 hP hS => ?_)
      refine lv_icmp_le (tgt := 23) hx hb dX4_withThreadAt_18 (by decide) (fun c5 => ?_) (fun c5 => ?_)
      · rw [if_pos c5] at hf
        refine lv_iconst (v := 2) hx hb dX4_withThreadAt_23 (by decide) ?_
        refine lv_bipush (v := 12) hx hb dX4_withThreadAt_24 (by decide) ?_
        refine lv_iload_n hx hb dX4_withThreadAt_26 rfl (lv_at hl 1 rfl) ?_
        refine lv_isub hx hb dX4_withThreadAt_27 ?_
        refine lv_imul hx hb dX4_withThreadAt_28 ?_
        refine lv_istore_n (lv' := [(3, .int ((2 : Int32) * ((12 : Int32) - x1))), (0, .int x0), (1, .int x1), (2, .int x2)]) hx hb dX4_withThreadAt_29 rfl hl (by decide) rfl (fun ls hl => ?_)
        refine lv_iload_n hx hb dX4_withThreadAt_30 rfl (lv_at hl 1 rfl) ?_
        refine lv_iconst (v := 4) hx hb dX4_withThreadAt_31 (by decide) ?_
        refine lv_iushr (v := (ku_ishr x0 (4 : Int32))) hx hb dX4_withThreadAt_32 rfl ?_
        refine lv_istore (lv' := [(4, .int (ku_ishr x0 (4 : Int32))), (3, .int ((2 : Int32) * ((12 : Int32) - x1))), (0, .int x0), (1, .int x1), (2, .int x2)]) hx hb dX4_withThreadAt_33 hl (by decide) rfl (fun ls hl => ?_)
        refine lv_iload hx hb dX4_withThreadAt_35 (lv_at hl 0 rfl) ?_
        refine lv_iload_n hx hb dX4_withThreadAt_37 rfl (lv_at hl 1 rfl) ?_
        refine lv_iushr (v := (ku_ishr (ku_ishr x0 (4 : Int32)) ((2 : Int32) * ((12 : Int32) - x1)))) hx hb dX4_withThreadAt_38 rfl ?_
        refine lv_iload_n hx hb dX4_withThreadAt_39 rfl (lv_at hl 1 rfl) ?_
        refine lv_ishl hx hb dX4_withThreadAt_40 ?_
        refine lv_istore (lv' := [(5, .int ((ku_ishr (ku_ishr x0 (4 : Int32)) ((2 : Int32) * ((12 : Int32) - x1))) <<< (((2 : Int32) * ((12 : Int32) - x1)) &&& 31))), (4, .int (ku_ishr x0 (4 : Int32))), (3, .int ((2 : Int32) * ((12 : Int32) - x1))), (0, .int x0), (1, .int x1), (2, .int x2)]) hx hb dX4_withThreadAt_41 hl (by decide) rfl (fun ls hl => ?_)
        refine lv_iload hx hb dX4_withThreadAt_43 (lv_at hl 1 rfl) ?_
        refine lv_iconst (v := 1) hx hb dX4_withThreadAt_45 (by decide) ?_
        refine lv_iload_n hx hb dX4_withThreadAt_46 rfl (lv_at hl 2 rfl) ?_
        refine lv_ishl hx hb dX4_withThreadAt_47 ?_
        refine lv_iconst (v := 1) hx hb dX4_withThreadAt_48 (by decide) ?_
        refine lv_isub hx hb dX4_withThreadAt_49 ?_
        refine lv_iand hx hb dX4_withThreadAt_50 ?_
        refine lv_istore (lv' := [(6, .int ((ku_ishr x0 (4 : Int32)) &&& (((1 : Int32) <<< (((2 : Int32) * ((12 : Int32) - x1)) &&& 31)) - (1 : Int32)))), (5, .int ((ku_ishr (ku_ishr x0 (4 : Int32)) ((2 : Int32) * ((12 : Int32) - x1))) <<< (((2 : Int32) * ((12 : Int32) - x1)) &&& 31))), (4, .int (ku_ishr x0 (4 : Int32))), (3, .int ((2 : Int32) * ((12 : Int32) - x1))), (0, .int x0), (1, .int x1), (2, .int x2)]) hx hb dX4_withThreadAt_51 hl (by decide) rfl (fun ls hl => ?_)
        refine lv_iload hx hb dX4_withThreadAt_53 (lv_at hl 1 rfl) ?_
        refine lv_iload_n hx hb dX4_withThreadAt_55 rfl (lv_at hl 6 rfl) ?_
        refine lv_iload_n hx hb dX4_withThreadAt_56 rfl (lv_at hl 3 rfl) ?_
        refine lv_iconst (v := 2) hx hb dX4_withThreadAt_57 (by decide) ?_
        refine lv_isub hx hb dX4_withThreadAt_58 ?_
        refine lv_ishl hx hb dX4_withThreadAt_59 ?_
        refine lv_ior hx hb dX4_withThreadAt_60 ?_
        refine lv_iload hx hb dX4_withThreadAt_61 (lv_at hl 0 rfl) ?_
        refine lv_iconst (v := 2) hx hb dX4_withThreadAt_63 (by decide) ?_
        refine lv_iushr (v := (ku_ishr ((ku_ishr x0 (4 : Int32)) &&& (((1 : Int32) <<< (((2 : Int32) * ((12 : Int32) - x1)) &&& 31)) - (1 : Int32))) (2 : Int32))) hx hb dX4_withThreadAt_64 rfl ?_
        refine lv_ior hx hb dX4_withThreadAt_65 ?_
        refine lv_istore (lv' := [(7, .int ((((ku_ishr (ku_ishr x0 (4 : Int32)) ((2 : Int32) * ((12 : Int32) - x1))) <<< (((2 : Int32) * ((12 : Int32) - x1)) &&& 31)) ||| (x2 <<< ((((2 : Int32) * ((12 : Int32) - x1)) - (2 : Int32)) &&& 31))) ||| (ku_ishr ((ku_ishr x0 (4 : Int32)) &&& (((1 : Int32) <<< (((2 : Int32) * ((12 : Int32) - x1)) &&& 31)) - (1 : Int32))) (2 : Int32)))), (6, .int ((ku_ishr x0 (4 : Int32)) &&& (((1 : Int32) <<< (((2 : Int32) * ((12 : Int32) - x1)) &&& 31)) - (1 : Int32)))), (5, .int ((ku_ishr (ku_ishr x0 (4 : Int32)) ((2 : Int32) * ((12 : Int32) - x1))) <<< (((2 : Int32) * ((12 : Int32) - x1)) &&& 31))), (4, .int (ku_ishr x0 (4 : Int32))), (3, .int ((2 : Int32) * ((12 : Int32) - x1))), (0, .int x0), (1, .int x1), (2, .int x2)]) hx hb dX4_withThreadAt_66 hl (by decide) rfl (fun ls hl => ?_)
        refine lv_iload hx hb dX4_withThreadAt_68 (lv_at hl 0 rfl) ?_
        refine lv_iconst (v := 4) hx hb dX4_withThreadAt_70 (by decide) ?_
        refine lv_ishl hx hb dX4_withThreadAt_71 ?_
        refine lv_iload_n hx hb dX4_withThreadAt_72 rfl (lv_at hl 5 rfl) ?_
        have hPc : va_P D vwCl ([]) H := hP.sub [] rfl
        have hDc : va_D A ([]) := hD.sub [] (by decide) rfl
        refine kd_iR (va_runS (As := [.int x0]) (rest := [.int (((((ku_ishr (ku_ishr x0 (4 : Int32)) ((2 : Int32) * ((12 : Int32) - x1))) <<< (((2 : Int32) * ((12 : Int32) - x1)) &&& 31)) ||| (x2 <<< ((((2 : Int32) * ((12 : Int32) - x1)) - (2 : Int32)) &&& 31))) ||| (ku_ishr ((ku_ishr x0 (4 : Int32)) &&& (((1 : Int32) <<< (((2 : Int32) * ((12 : Int32) - x1)) &&& 31)) - (1 : Int32))) (2 : Int32))) <<< ((4 : Int32) &&& 31))]) ⟨hx, hb, hml, hown, hts⟩ (c4_length l D cB cI cZ cO h H.size x0 (f4_length x0) rfl) (va_cwS 1 hts gX4_withThreadAt_X4_length rfl rfl rfl (by decide +kernel) ⟨Nat.le_of_ble_eq_true rfl, Nat.le_of_ble_eq_true rfl⟩) ⟨kb_blind, kb_pre hPc hDc hK hN⟩ rfl rfl hl.1 rfl (lv_room (Nat.le_of_ble_eq_true rfl)) dX4_withThreadAt_73 ⟨Nat.le_refl _, Nat.le_refl _⟩) hP hD hS hA [] rfl (fun H locs hn6 hP hS => ?_)
        refine lv_iconst (v := 1) hx hb dX4_withThreadAt_76 (by decide) ?_
        refine lv_iadd hx hb dX4_withThreadAt_77 ?_
        refine lv_ior hx hb dX4_withThreadAt_78 ?_
        subst hf
        exact hend _ _ _ _ rfl hP hS dX4_withThreadAt_79
      · rw [if_neg c5] at hf
        exact J21 x0 _ _ _ hf hP hD hS (lv_sub hl [0] rfl)

set_option maxHeartbeats 4000000 in
set_option maxRecDepth 100000 in
theorem c6_isLocking (l : Launch) (D : va_G) (cB cI cZ cO : ClassId) (h : Nat → Nat) (sz : Nat) (x0 : Int32) (r0 : Int32) (hf : f6_isLocking x0 = r0) : Met l yX6_isLocking wsX6_isLocking rm6_isLocking (va_Pc [.int x0] (kb_B D (ka_tys cB cI cZ cO) sz ([]))) (va_Qi (kb_post .boolean r0) (fun _ t => va_P D vwCl ([]) t.heap) (va_A ([]) sz)) 0 0 (va_A ([]) sz) := by
  refine kb_metZ (cc := cX6_isLocking) (maxL := 1) (ty := .boolean) (by decide) rfl (Nat.le_of_ble_eq_true rfl) ?_
  intro p e s m args below meth c Q A ls H hx hb hml hown hts hK hN hP hD hS hA hl hend
  have hown : s.vm.findClass RX6 = some m.cls := hown
  have hl : lv_has ls 1 [(0, .int x0)] := hl
  have J10 : ∀  (H : Heap) (locs : List Loc) (ls : Array Slot), f6_isLocking_b10  = r0 → va_P D vwCl ([]) H → va_D A ([]) → va_S A s.heap H locs → lv_has ls 1 [] → W p l e rm6_isLocking s m args below meth c H locs 0 0 Q (F0 m 10 ls []) := by
    intro  H locs ls hf hP hD hS hl
    rw [f6_isLocking_b10] at hf
    refine lv_iconst (v := 1) hx hb dX6_isLocking_10 (by decide) ?_
    refine lv_goto (tgt := 15) hx hb dX6_isLocking_11 (by decide) ?_
    subst hf
    exact hend _ _ _ _ rfl hP hS dX6_isLocking_15
  rw [f6_isLocking] at hf
  refine lv_iload_n hx hb dX6_isLocking_0 rfl (lv_at hl 0 rfl) ?_
  refine lv_iconst (v := 4) hx hb dX6_isLocking_1 (by decide) ?_
  refine lv_icmp_eq (tgt := 10) hx hb dX6_isLocking_2 (by decide) (fun c1 => ?_) (fun c1 => ?_)
  · rw [if_pos c1] at hf
    exact J10  _ _ _ hf hP hD hS (lv_sub hl [] rfl)
  · rw [if_neg c1] at hf
    refine lv_iload_n hx hb dX6_isLocking_5 rfl (lv_at hl 0 rfl) ?_
    refine lv_iconst (v := 5) hx hb dX6_isLocking_6 (by decide) ?_
    refine lv_icmp_ne (tgt := 14) hx hb dX6_isLocking_7 (by decide) (fun c2 => ?_) (fun c2 => ?_)
    · rw [if_neg c2] at hf
      refine lv_iconst (v := 0) hx hb dX6_isLocking_14 (by decide) ?_
      subst hf
      exact hend _ _ _ _ rfl hP hS dX6_isLocking_15
    · rw [if_pos c2] at hf
      exact J10  _ _ _ hf hP hD hS (lv_sub hl [] rfl)

set_option maxHeartbeats 4000000 in
set_option maxRecDepth 100000 in
theorem c6_isOne (l : Launch) (D : va_G) (cB cI cZ cO : ClassId) (h : Nat → Nat) (sz : Nat) (x0 : Int32) (x1 : Int32) (x2 : Int32) (r0 : Int32) (hf : f6_isOne x0 x1 x2 = r0) : Met l yX6_isOne wsX6_isOne rm6_isOne (va_Pc [.int x0, .int x1, .int x2] (kb_B D (ka_tys cB cI cZ cO) sz ([]))) (va_Qi (kb_post .boolean r0) (fun _ t => va_P D vwCl ([]) t.heap) (va_A ([]) sz)) 0 0 (va_A ([]) sz) := by
  refine kb_metZ (cc := cX6_isOne) (maxL := 3) (ty := .boolean) (by decide) rfl (Nat.le_of_ble_eq_true rfl) ?_
  intro p e s m args below meth c Q A ls H hx hb hml hown hts hK hN hP hD hS hA hl hend
  have hown : s.vm.findClass RX6 = some m.cls := hown
  have hl : lv_has ls 3 [(0, .int x0), (1, .int x1), (2, .int x2)] := hl
  have J56 : ∀ (s0 : Int32) (s1 : Int32) (H : Heap) (locs : List Loc) (ls : Array Slot), f6_isOne_b56 s0 s1 = r0 → va_P D vwCl ([]) H → va_D A ([]) → va_S A s.heap H locs → lv_has ls 3 [] → W p l e rm6_isOne s m args below meth c H locs 0 0 Q (F0 m 56 ls [.int s1, .int s0]) := by
    intro s0 s1 H locs ls hf hP hD hS hl
    rw [f6_isOne_b56] at hf
    have hPc : va_P D vwCl ([]) H := hP.sub [] rfl
    have hDc : va_D A ([]) := hD.sub [] (by decide) rfl
    refine kd_iR (va_runSN (As := [.int s0, .int s1]) (rest := []) ⟨hx, hb, hml, hown, hts⟩ (c8_below l D cB cI cZ cO h H.size s0 s1 (f8_below s0 s1) rfl) ⟨va_cnB 2 hts gX6_isOne_X8_below_n9 rfl rfl rfl hN.2.2.2.1 (hts (.initialized RX8) (by decide +kernel)) (by decide +kernel) ⟨Nat.le_of_ble_eq_true rfl, Nat.le_of_ble_eq_true rfl⟩, hts (.static yX8_below) (by decide +kernel), trivial⟩ ⟨kb_blind, kb_pre hPc hDc hK hN⟩ rfl rfl hl.1 rfl (lv_room (Nat.le_of_ble_eq_true rfl)) dX6_isOne_56 ⟨Nat.le_refl _, Nat.le_refl _⟩) hP hD hS hA [] rfl (fun H locs hn3 hP hS => ?_)
    refine lv_if_eq (tgt := 66) hx hb dX6_isOne_59 (by decide) (fun c4 => ?_) (fun c4 => ?_)
    · rw [if_pos c4] at hf
      refine lv_iconst (v := 0) hx hb dX6_isOne_66 (by decide) ?_
      subst hf
      exact hend _ _ _ _ rfl hP hS dX6_isOne_67
    · rw [if_neg c4] at hf
      refine lv_iconst (v := 1) hx hb dX6_isOne_62 (by decide) ?_
      refine lv_goto (tgt := 67) hx hb dX6_isOne_63 (by decide) ?_
      subst hf
      exact hend _ _ _ _ rfl hP hS dX6_isOne_67
  rw [f6_isOne] at hf
  refine lv_iload_n hx hb dX6_isOne_0 rfl (lv_at hl 0 rfl) ?_
  refine lv_bipush (v := 6) hx hb dX6_isOne_1 (by decide) ?_
  have hPc : va_P D vwCl ([]) H := hP.sub [] rfl
  have hDc : va_D A ([]) := hD.sub [] (by decide) rfl
  refine kd_iR (va_runSN (As := [.int x0, .int (6 : Int32)]) (rest := []) ⟨hx, hb, hml, hown, hts⟩ (c8_below l D cB cI cZ cO h H.size x0 (6 : Int32) (f8_below x0 (6 : Int32)) rfl) ⟨va_cnB 2 hts gX6_isOne_X8_below_n9 rfl rfl rfl hN.2.2.2.1 (hts (.initialized RX8) (by decide +kernel)) (by decide +kernel) ⟨Nat.le_of_ble_eq_true rfl, Nat.le_of_ble_eq_true rfl⟩, hts (.static yX8_below) (by decide +kernel), trivial⟩ ⟨kb_blind, kb_pre hPc hDc hK hN⟩ rfl rfl hl.1 rfl (lv_room (Nat.le_of_ble_eq_true rfl)) dX6_isOne_3 ⟨Nat.le_refl _, Nat.le_refl _⟩) hP hD hS hA [] rfl (fun H locs hn5 hP hS => ?_)
  refine lv_if_ne (tgt := 11) hx hb dX6_isOne_6 (by decide) (fun c6 => ?_) (fun c6 => ?_)
  · rw [if_neg c6] at hf
    refine lv_iload_n hx hb dX6_isOne_11 rfl (lv_at hl 0 rfl) ?_
    have hPc : va_P D vwCl ([]) H := hP.sub [] rfl
    have hDc : va_D A ([]) := hD.sub [] (by decide) rfl
    refine kd_iR (va_runS (As := [.int x0]) (rest := []) ⟨hx, hb, hml, hown, hts⟩ (c6_isLocking l D cB cI cZ cO h H.size x0 (f6_isLocking x0) rfl) (va_cwS 1 hts gX6_isOne_X6_isLocking rfl rfl rfl (by decide +kernel) ⟨Nat.le_of_ble_eq_true rfl, Nat.le_of_ble_eq_true rfl⟩) ⟨kb_blind, kb_pre hPc hDc hK hN⟩ rfl rfl hl.1 rfl (lv_room (Nat.le_of_ble_eq_true rfl)) dX6_isOne_12 ⟨Nat.le_refl _, Nat.le_refl _⟩) hP hD hS hA [] rfl (fun H locs hn7 hP hS => ?_)
    refine lv_if_eq (tgt := 36) hx hb dX6_isOne_15 (by decide) (fun c8 => ?_) (fun c8 => ?_)
    · rw [if_pos c8] at hf
      refine lv_iload_n hx hb dX6_isOne_36 rfl (lv_at hl 1 rfl) ?_
      refine lv_iconst (v := 4) hx hb dX6_isOne_37 (by decide) ?_
      have hPc : va_P D vwCl ([]) H := hP.sub [] rfl
      have hDc : va_D A ([]) := hD.sub [] (by decide) rfl
      refine kd_iR (va_runSN (As := [.int x1, .int (4 : Int32)]) (rest := []) ⟨hx, hb, hml, hown, hts⟩ (c8_below l D cB cI cZ cO h H.size x1 (4 : Int32) (f8_below x1 (4 : Int32)) rfl) ⟨va_cnB 2 hts gX6_isOne_X8_below_n9 rfl rfl rfl hN.2.2.2.1 (hts (.initialized RX8) (by decide +kernel)) (by decide +kernel) ⟨Nat.le_of_ble_eq_true rfl, Nat.le_of_ble_eq_true rfl⟩, hts (.static yX8_below) (by decide +kernel), trivial⟩ ⟨kb_blind, kb_pre hPc hDc hK hN⟩ rfl rfl hl.1 rfl (lv_room (Nat.le_of_ble_eq_true rfl)) dX6_isOne_38 ⟨Nat.le_refl _, Nat.le_refl _⟩) hP hD hS hA [] rfl (fun H locs hn9 hP hS => ?_)
      refine lv_if_eq (tgt := 66) hx hb dX6_isOne_41 (by decide) (fun c10 => ?_) (fun c10 => ?_)
      · rw [if_pos c10] at hf
        refine lv_iconst (v := 0) hx hb dX6_isOne_66 (by decide) ?_
        subst hf
        exact hend _ _ _ _ rfl hP hS dX6_isOne_67
      · rw [if_neg c10] at hf
        refine lv_iload_n hx hb dX6_isOne_44 rfl (lv_at hl 2 rfl) ?_
        refine lv_iload_n hx hb dX6_isOne_45 rfl (lv_at hl 0 rfl) ?_
        refine lv_iconst (v := 2) hx hb dX6_isOne_46 (by decide) ?_
        refine lv_icmp_ne (tgt := 54) hx hb dX6_isOne_47 (by decide) (fun c11 => ?_) (fun c11 => ?_)
        · rw [if_neg c11] at hf
          refine lv_bipush (v := 10) hx hb dX6_isOne_54 (by decide) ?_
          exact J56 x2 (10 : Int32) _ _ _ hf hP hD hS (lv_sub hl [] rfl)
        · rw [if_pos c11] at hf
          refine lv_iconst (v := 4) hx hb dX6_isOne_50 (by decide) ?_
          refine lv_goto (tgt := 56) hx hb dX6_isOne_51 (by decide) ?_
          exact J56 x2 (4 : Int32) _ _ _ hf hP hD hS (lv_sub hl [] rfl)
    · rw [if_neg c8] at hf
      refine lv_iload_n hx hb dX6_isOne_18 rfl (lv_at hl 1 rfl) ?_
      refine lv_iconst (v := 2) hx hb dX6_isOne_19 (by decide) ?_
      have hPc : va_P D vwCl ([]) H := hP.sub [] rfl
      have hDc : va_D A ([]) := hD.sub [] (by decide) rfl
      refine kd_iR (va_runSN (As := [.int x1, .int (2 : Int32)]) (rest := []) ⟨hx, hb, hml, hown, hts⟩ (c8_below l D cB cI cZ cO h H.size x1 (2 : Int32) (f8_below x1 (2 : Int32)) rfl) ⟨va_cnB 2 hts gX6_isOne_X8_below_n9 rfl rfl rfl hN.2.2.2.1 (hts (.initialized RX8) (by decide +kernel)) (by decide +kernel) ⟨Nat.le_of_ble_eq_true rfl, Nat.le_of_ble_eq_true rfl⟩, hts (.static yX8_below) (by decide +kernel), trivial⟩ ⟨kb_blind, kb_pre hPc hDc hK hN⟩ rfl rfl hl.1 rfl (lv_room (Nat.le_of_ble_eq_true rfl)) dX6_isOne_20 ⟨Nat.le_refl _, Nat.le_refl _⟩) hP hD hS hA [] rfl (fun H locs hn12 hP hS => ?_)
      refine lv_if_eq (tgt := 34) hx hb dX6_isOne_23 (by decide) (fun c13 => ?_) (fun c13 => ?_)
      · rw [if_pos c13] at hf
        refine lv_iconst (v := 0) hx hb dX6_isOne_34 (by decide) ?_
        subst hf
        exact hend _ _ _ _ rfl hP hS dX6_isOne_35
      · rw [if_neg c13] at hf
        refine lv_iload_n hx hb dX6_isOne_26 rfl (lv_at hl 2 rfl) ?_
        refine lv_if_ne (tgt := 34) hx hb dX6_isOne_27 (by decide) (fun c14 => ?_) (fun c14 => ?_)
        · rw [if_neg c14] at hf
          refine lv_iconst (v := 0) hx hb dX6_isOne_34 (by decide) ?_
          subst hf
          exact hend _ _ _ _ rfl hP hS dX6_isOne_35
        · rw [if_pos c14] at hf
          refine lv_iconst (v := 1) hx hb dX6_isOne_30 (by decide) ?_
          refine lv_goto (tgt := 35) hx hb dX6_isOne_31 (by decide) ?_
          subst hf
          exact hend _ _ _ _ rfl hP hS dX6_isOne_35
  · rw [if_pos c6] at hf
    refine lv_iconst (v := 0) hx hb dX6_isOne_9 (by decide) ?_
    subst hf
    exact hend _ _ _ _ rfl hP hS dX6_isOne_10

set_option maxHeartbeats 4000000 in
set_option maxRecDepth 100000 in
theorem c6_packed (l : Launch) (D : va_G) (cB cI cZ cO : ClassId) (h : Nat → Nat) (sz : Nat) (x0 : Int32) (x1 : Int32) (x2 : Int32) (r0 : Int32) (hf : f6_packed x0 x1 x2 = r0) : Met l yX6_packed wsX6_packed rm6_packed (va_Pc [.int x0, .int x1, .int x2] (kb_B D (ka_tys cB cI cZ cO) sz ([]))) (va_Qi (kb_post .int r0) (fun _ t => va_P D vwCl ([]) t.heap) (va_A ([]) sz)) 0 0 (va_A ([]) sz) := by
  refine kb_metZ (cc := cX6_packed) (maxL := 3) (ty := .int) (by decide) rfl (Nat.le_of_ble_eq_true rfl) ?_
  intro p e s m args below meth c Q A ls H hx hb hml hown hts hK hN hP hD hS hA hl hend
  have hown : s.vm.findClass RX6 = some m.cls := hown
  have hl : lv_has ls 3 [(0, .int x0), (1, .int x1), (2, .int x2)] := hl
  rw [f6_packed] at hf
  refine lv_iload_n hx hb dX6_packed_0 rfl (lv_at hl 0 rfl) ?_
  refine lv_iload_n hx hb dX6_packed_1 rfl (lv_at hl 1 rfl) ?_
  refine lv_iconst (v := 3) hx hb dX6_packed_2 (by decide) ?_
  refine lv_ishl hx hb dX6_packed_3 ?_
  refine lv_ior hx hb dX6_packed_4 ?_
  refine lv_iload_n hx hb dX6_packed_5 rfl (lv_at hl 2 rfl) ?_
  refine lv_iconst (v := 5) hx hb dX6_packed_6 (by decide) ?_
  refine lv_ishl hx hb dX6_packed_7 ?_
  refine lv_ior hx hb dX6_packed_8 ?_
  subst hf
  exact hend _ _ _ _ rfl hP hS dX6_packed_9

set_option maxHeartbeats 4000000 in
set_option maxRecDepth 100000 in
theorem c6_kind (l : Launch) (D : va_G) (cB cI cZ cO : ClassId) (h : Nat → Nat) (sz : Nat) (x0 : Int32) (r0 : Int32) (hf : f6_kind x0 = r0) : Met l yX6_kind wsX6_kind rm6_kind (va_Pc [.int x0] (kb_B D (ka_tys cB cI cZ cO) sz ([]))) (va_Qi (kb_post .int r0) (fun _ t => va_P D vwCl ([]) t.heap) (va_A ([]) sz)) 0 0 (va_A ([]) sz) := by
  refine kb_metZ (cc := cX6_kind) (maxL := 1) (ty := .int) (by decide) rfl (Nat.le_of_ble_eq_true rfl) ?_
  intro p e s m args below meth c Q A ls H hx hb hml hown hts hK hN hP hD hS hA hl hend
  have hown : s.vm.findClass RX6 = some m.cls := hown
  have hl : lv_has ls 1 [(0, .int x0)] := hl
  rw [f6_kind] at hf
  refine lv_iload_n hx hb dX6_kind_0 rfl (lv_at hl 0 rfl) ?_
  refine lv_bipush (v := 7) hx hb dX6_kind_1 (by decide) ?_
  refine lv_iand hx hb dX6_kind_3 ?_
  subst hf
  exact hend _ _ _ _ rfl hP hS dX6_kind_4

set_option maxHeartbeats 4000000 in
set_option maxRecDepth 100000 in
theorem c6_target (l : Launch) (D : va_G) (cB cI cZ cO : ClassId) (h : Nat → Nat) (sz : Nat) (x0 : Int32) (r0 : Int32) (hf : f6_target x0 = r0) : Met l yX6_target wsX6_target rm6_target (va_Pc [.int x0] (kb_B D (ka_tys cB cI cZ cO) sz ([]))) (va_Qi (kb_post .int r0) (fun _ t => va_P D vwCl ([]) t.heap) (va_A ([]) sz)) 0 0 (va_A ([]) sz) := by
  refine kb_metZ (cc := cX6_target) (maxL := 1) (ty := .int) (by decide) rfl (Nat.le_of_ble_eq_true rfl) ?_
  intro p e s m args below meth c Q A ls H hx hb hml hown hts hK hN hP hD hS hA hl hend
  have hown : s.vm.findClass RX6 = some m.cls := hown
  have hl : lv_has ls 1 [(0, .int x0)] := hl
  rw [f6_target] at hf
  refine lv_iload_n hx hb dX6_target_0 rfl (lv_at hl 0 rfl) ?_
  refine lv_iconst (v := 3) hx hb dX6_target_1 (by decide) ?_
  refine lv_ishr hx hb dX6_target_2 ?_
  refine lv_iconst (v := 3) hx hb dX6_target_3 (by decide) ?_
  refine lv_iand hx hb dX6_target_4 ?_
  subst hf
  exact hend _ _ _ _ rfl hP hS dX6_target_5

set_option maxHeartbeats 4000000 in
set_option maxRecDepth 100000 in
theorem c6_value (l : Launch) (D : va_G) (cB cI cZ cO : ClassId) (h : Nat → Nat) (sz : Nat) (x0 : Int32) (r0 : Int32) (hf : f6_value x0 = r0) : Met l yX6_value wsX6_value rm6_value (va_Pc [.int x0] (kb_B D (ka_tys cB cI cZ cO) sz ([]))) (va_Qi (kb_post .int r0) (fun _ t => va_P D vwCl ([]) t.heap) (va_A ([]) sz)) 0 0 (va_A ([]) sz) := by
  refine kb_metZ (cc := cX6_value) (maxL := 1) (ty := .int) (by decide) rfl (Nat.le_of_ble_eq_true rfl) ?_
  intro p e s m args below meth c Q A ls H hx hb hml hown hts hK hN hP hD hS hA hl hend
  have hown : s.vm.findClass RX6 = some m.cls := hown
  have hl : lv_has ls 1 [(0, .int x0)] := hl
  rw [f6_value] at hf
  refine lv_iload_n hx hb dX6_value_0 rfl (lv_at hl 0 rfl) ?_
  refine lv_iconst (v := 5) hx hb dX6_value_1 (by decide) ?_
  refine lv_ishr hx hb dX6_value_2 ?_
  refine lv_bipush (v := 15) hx hb dX6_value_3 (by decide) ?_
  refine lv_iand hx hb dX6_value_5 ?_
  subst hf
  exact hend _ _ _ _ rfl hP hS dX6_value_6

set_option maxHeartbeats 4000000 in
set_option maxRecDepth 100000 in
theorem c6_readBits (l : Launch) (D : va_G) (cB cI cZ cO : ClassId) (h : Nat → Nat) (sz : Nat) (x0 : Int32) (r0 : Int32) (hf : f6_readBits x0 = r0) : Met l yX6_readBits wsX6_readBits rm6_readBits (va_Pc [.int x0] (kb_B D (ka_tys cB cI cZ cO) sz ([]))) (va_Qi (kb_post .int r0) (fun _ t => va_P D vwCl ([]) t.heap) (va_A ([]) sz)) 0 0 (va_A ([]) sz) := by
  refine kb_metZ (cc := cX6_readBits) (maxL := 1) (ty := .int) (by decide) rfl (Nat.le_of_ble_eq_true rfl) ?_
  intro p e s m args below meth c Q A ls H hx hb hml hown hts hK hN hP hD hS hA hl hend
  have hown : s.vm.findClass RX6 = some m.cls := hown
  have hl : lv_has ls 1 [(0, .int x0)] := hl
  have J32 : ∀ (x0 : Int32) (H : Heap) (locs : List Loc) (ls : Array Slot), f6_readBits_b32 x0 = r0 → va_P D vwCl ([]) H → va_D A ([]) → va_S A s.heap H locs → lv_has ls 1 [(0, .int x0)] → W p l e rm6_readBits s m args below meth c H locs 0 0 Q (F0 m 32 ls []) := by
    intro x0 H locs ls hf hP hD hS hl
    rw [f6_readBits_b32] at hf
    refine lv_iconst (v := 1) hx hb dX6_readBits_32 (by decide) ?_
    refine lv_iload_n hx hb dX6_readBits_33 rfl (lv_at hl 0 rfl) ?_
    have hPc : va_P D vwCl ([]) H := hP.sub [] rfl
    have hDc : va_D A ([]) := hD.sub [] (by decide) rfl
    refine kd_iR (va_runS (As := [.int x0]) (rest := [.int (1 : Int32)]) ⟨hx, hb, hml, hown, hts⟩ (c6_target l D cB cI cZ cO h H.size x0 (f6_target x0) rfl) (va_cwS 1 hts gX6_readBits_X6_target rfl rfl rfl (by decide +kernel) ⟨Nat.le_of_ble_eq_true rfl, Nat.le_of_ble_eq_true rfl⟩) ⟨kb_blind, kb_pre hPc hDc hK hN⟩ rfl rfl hl.1 rfl (lv_room (Nat.le_of_ble_eq_true rfl)) dX6_readBits_34 ⟨Nat.le_refl _, Nat.le_refl _⟩) hP hD hS hA [] rfl (fun H locs hn2 hP hS => ?_)
    refine lv_ishl hx hb dX6_readBits_37 ?_
    subst hf
    exact hend _ _ _ _ rfl hP hS dX6_readBits_38
  rw [f6_readBits] at hf
  refine lv_iload_n hx hb dX6_readBits_0 rfl (lv_at hl 0 rfl) ?_
  have hPc : va_P D vwCl ([]) H := hP.sub [] rfl
  have hDc : va_D A ([]) := hD.sub [] (by decide) rfl
  refine kd_iR (va_runS (As := [.int x0]) (rest := []) ⟨hx, hb, hml, hown, hts⟩ (c6_kind l D cB cI cZ cO h H.size x0 (f6_kind x0) rfl) (va_cwS 1 hts gX6_readBits_X6_kind rfl rfl rfl (by decide +kernel) ⟨Nat.le_of_ble_eq_true rfl, Nat.le_of_ble_eq_true rfl⟩) ⟨kb_blind, kb_pre hPc hDc hK hN⟩ rfl rfl hl.1 rfl (lv_room (Nat.le_of_ble_eq_true rfl)) dX6_readBits_1 ⟨Nat.le_refl _, Nat.le_refl _⟩) hP hD hS hA [] rfl (fun H locs hn3 hP hS => ?_)
  by_cases c4_0 : (f6_kind x0) = 1
  · rw [if_pos c4_0] at hf
    refine lv_tableIn (tgt := 32) (off := 28) hx hb dX6_readBits_4 (by rw [c4_0]; decide) (by rw [c4_0]; decide) (by rw [c4_0]; rfl) (by decide) ?_
    exact J32 x0 _ _ _ hf hP hD hS (lv_sub hl [0] rfl)
  rw [if_neg c4_0] at hf
  by_cases c4_1 : (f6_kind x0) = 2
  · rw [if_pos c4_1] at hf
    refine lv_tableIn (tgt := 39) (off := 35) hx hb dX6_readBits_4 (by rw [c4_1]; decide) (by rw [c4_1]; decide) (by rw [c4_1]; rfl) (by decide) ?_
    refine lv_iconst (v := 1) hx hb dX6_readBits_39 (by decide) ?_
    refine lv_iload_n hx hb dX6_readBits_40 rfl (lv_at hl 0 rfl) ?_
    have hPc : va_P D vwCl ([]) H := hP.sub [] rfl
    have hDc : va_D A ([]) := hD.sub [] (by decide) rfl
    refine kd_iR (va_runS (As := [.int x0]) (rest := [.int (1 : Int32)]) ⟨hx, hb, hml, hown, hts⟩ (c6_value l D cB cI cZ cO h H.size x0 (f6_value x0) rfl) (va_cwS 1 hts gX6_readBits_X6_value rfl rfl rfl (by decide +kernel) ⟨Nat.le_of_ble_eq_true rfl, Nat.le_of_ble_eq_true rfl⟩) ⟨kb_blind, kb_pre hPc hDc hK hN⟩ rfl rfl hl.1 rfl (lv_room (Nat.le_of_ble_eq_true rfl)) dX6_readBits_41 ⟨Nat.le_refl _, Nat.le_refl _⟩) hP hD hS hA [] rfl (fun H locs hn5 hP hS => ?_)
    refine lv_ishl hx hb dX6_readBits_44 ?_
    subst hf
    exact hend _ _ _ _ rfl hP hS dX6_readBits_45
  rw [if_neg c4_1] at hf
  by_cases c4_2 : (f6_kind x0) = 3
  · rw [if_pos c4_2] at hf
    refine lv_tableIn (tgt := 32) (off := 28) hx hb dX6_readBits_4 (by rw [c4_2]; decide) (by rw [c4_2]; decide) (by rw [c4_2]; rfl) (by decide) ?_
    exact J32 x0 _ _ _ hf hP hD hS (lv_sub hl [0] rfl)
  rw [if_neg c4_2] at hf
  refine lv_tableOut (tgt := 46) hx hb dX6_readBits_4 (by have e0 := lv_neT c4_0 (a := 1) rfl; have e1 := lv_neT c4_1 (a := 2) rfl; have e2 := lv_neT c4_2 (a := 3) rfl; omega) (by decide) ?_
  refine lv_iconst (v := 0) hx hb dX6_readBits_46 (by decide) ?_
  subst hf
  exact hend _ _ _ _ rfl hP hS dX6_readBits_47

set_option maxHeartbeats 4000000 in
set_option maxRecDepth 100000 in
theorem c6_writeBits (l : Launch) (D : va_G) (cB cI cZ cO : ClassId) (h : Nat → Nat) (sz : Nat) (x0 : Int32) (r0 : Int32) (hf : f6_writeBits x0 = r0) : Met l yX6_writeBits wsX6_writeBits rm6_writeBits (va_Pc [.int x0] (kb_B D (ka_tys cB cI cZ cO) sz ([]))) (va_Qi (kb_post .int r0) (fun _ t => va_P D vwCl ([]) t.heap) (va_A ([]) sz)) 0 0 (va_A ([]) sz) := by
  refine kb_metZ (cc := cX6_writeBits) (maxL := 1) (ty := .int) (by decide) rfl (Nat.le_of_ble_eq_true rfl) ?_
  intro p e s m args below meth c Q A ls H hx hb hml hown hts hK hN hP hD hS hA hl hend
  have hown : s.vm.findClass RX6 = some m.cls := hown
  have hl : lv_has ls 1 [(0, .int x0)] := hl
  have J32 : ∀ (x0 : Int32) (H : Heap) (locs : List Loc) (ls : Array Slot), f6_writeBits_b32 x0 = r0 → va_P D vwCl ([]) H → va_D A ([]) → va_S A s.heap H locs → lv_has ls 1 [(0, .int x0)] → W p l e rm6_writeBits s m args below meth c H locs 0 0 Q (F0 m 32 ls []) := by
    intro x0 H locs ls hf hP hD hS hl
    rw [f6_writeBits_b32] at hf
    refine lv_iconst (v := 1) hx hb dX6_writeBits_32 (by decide) ?_
    refine lv_iload_n hx hb dX6_writeBits_33 rfl (lv_at hl 0 rfl) ?_
    have hPc : va_P D vwCl ([]) H := hP.sub [] rfl
    have hDc : va_D A ([]) := hD.sub [] (by decide) rfl
    refine kd_iR (va_runS (As := [.int x0]) (rest := [.int (1 : Int32)]) ⟨hx, hb, hml, hown, hts⟩ (c6_target l D cB cI cZ cO h H.size x0 (f6_target x0) rfl) (va_cwS 1 hts gX6_writeBits_X6_target rfl rfl rfl (by decide +kernel) ⟨Nat.le_of_ble_eq_true rfl, Nat.le_of_ble_eq_true rfl⟩) ⟨kb_blind, kb_pre hPc hDc hK hN⟩ rfl rfl hl.1 rfl (lv_room (Nat.le_of_ble_eq_true rfl)) dX6_writeBits_34 ⟨Nat.le_refl _, Nat.le_refl _⟩) hP hD hS hA [] rfl (fun H locs hn2 hP hS => ?_)
    refine lv_ishl hx hb dX6_writeBits_37 ?_
    subst hf
    exact hend _ _ _ _ rfl hP hS dX6_writeBits_38
  rw [f6_writeBits] at hf
  refine lv_iload_n hx hb dX6_writeBits_0 rfl (lv_at hl 0 rfl) ?_
  have hPc : va_P D vwCl ([]) H := hP.sub [] rfl
  have hDc : va_D A ([]) := hD.sub [] (by decide) rfl
  refine kd_iR (va_runS (As := [.int x0]) (rest := []) ⟨hx, hb, hml, hown, hts⟩ (c6_kind l D cB cI cZ cO h H.size x0 (f6_kind x0) rfl) (va_cwS 1 hts gX6_writeBits_X6_kind rfl rfl rfl (by decide +kernel) ⟨Nat.le_of_ble_eq_true rfl, Nat.le_of_ble_eq_true rfl⟩) ⟨kb_blind, kb_pre hPc hDc hK hN⟩ rfl rfl hl.1 rfl (lv_room (Nat.le_of_ble_eq_true rfl)) dX6_writeBits_1 ⟨Nat.le_refl _, Nat.le_refl _⟩) hP hD hS hA [] rfl (fun H locs hn3 hP hS => ?_)
  by_cases c4_0 : (f6_kind x0) = 0
  · rw [if_pos c4_0] at hf
    refine lv_tableIn (tgt := 32) (off := 28) hx hb dX6_writeBits_4 (by rw [c4_0]; decide) (by rw [c4_0]; decide) (by rw [c4_0]; rfl) (by decide) ?_
    exact J32 x0 _ _ _ hf hP hD hS (lv_sub hl [0] rfl)
  rw [if_neg c4_0] at hf
  by_cases c4_1 : (f6_kind x0) = 1
  · rw [if_pos c4_1] at hf
    refine lv_tableIn (tgt := 32) (off := 28) hx hb dX6_writeBits_4 (by rw [c4_1]; decide) (by rw [c4_1]; decide) (by rw [c4_1]; rfl) (by decide) ?_
    exact J32 x0 _ _ _ hf hP hD hS (lv_sub hl [0] rfl)
  rw [if_neg c4_1] at hf
  by_cases c4_2 : (f6_kind x0) = 2
  · rw [if_pos c4_2] at hf
    refine lv_tableIn (tgt := 32) (off := 28) hx hb dX6_writeBits_4 (by rw [c4_2]; decide) (by rw [c4_2]; decide) (by rw [c4_2]; rfl) (by decide) ?_
    exact J32 x0 _ _ _ hf hP hD hS (lv_sub hl [0] rfl)
  rw [if_neg c4_2] at hf
  refine lv_tableOut (tgt := 39) hx hb dX6_writeBits_4 (by have e0 := lv_neT c4_0 (a := 0) rfl; have e1 := lv_neT c4_1 (a := 1) rfl; have e2 := lv_neT c4_2 (a := 2) rfl; omega) (by decide) ?_
  refine lv_iconst (v := 0) hx hb dX6_writeBits_39 (by decide) ?_
  subst hf
  exact hend _ _ _ _ rfl hP hS dX6_writeBits_40

set_option maxHeartbeats 4000000 in
set_option maxRecDepth 100000 in
theorem c6_tiedByNumber (l : Launch) (D : va_G) (cB cI cZ cO : ClassId) (h : Nat → Nat) (sz : Nat) (x0 : Int32) (x1 : Int32) (r0 : Int32) (hf : f6_tiedByNumber x0 x1 = r0) : Met l yX6_tiedByNumber wsX6_tiedByNumber rm6_tiedByNumber (va_Pc [.int x0, .int x1] (kb_B D (ka_tys cB cI cZ cO) sz ([]))) (va_Qi (kb_post .boolean r0) (fun _ t => va_P D vwCl ([]) t.heap) (va_A ([]) sz)) 0 0 (va_A ([]) sz) := by
  refine kb_metZ (cc := cX6_tiedByNumber) (maxL := 4) (ty := .boolean) (by decide) rfl (Nat.le_of_ble_eq_true rfl) ?_
  intro p e s m args below meth c Q A ls H hx hb hml hown hts hK hN hP hD hS hA hl hend
  have hown : s.vm.findClass RX6 = some m.cls := hown
  have hl : lv_has ls 4 [(0, .int x0), (1, .int x1)] := hl
  have J30 : ∀  (H : Heap) (locs : List Loc) (ls : Array Slot), f6_tiedByNumber_b30  = r0 → va_P D vwCl ([]) H → va_D A ([]) → va_S A s.heap H locs → lv_has ls 4 [] → W p l e rm6_tiedByNumber s m args below meth c H locs 0 0 Q (F0 m 30 ls []) := by
    intro  H locs ls hf hP hD hS hl
    rw [f6_tiedByNumber_b30] at hf
    refine lv_iconst (v := 1) hx hb dX6_tiedByNumber_30 (by decide) ?_
    refine lv_goto (tgt := 35) hx hb dX6_tiedByNumber_31 (by decide) ?_
    subst hf
    exact hend _ _ _ _ rfl hP hS dX6_tiedByNumber_35
  rw [f6_tiedByNumber] at hf
  refine lv_iload_n hx hb dX6_tiedByNumber_0 rfl (lv_at hl 0 rfl) ?_
  have hPc : va_P D vwCl ([]) H := hP.sub [] rfl
  have hDc : va_D A ([]) := hD.sub [] (by decide) rfl
  refine kd_iR (va_runS (As := [.int x0]) (rest := []) ⟨hx, hb, hml, hown, hts⟩ (c6_writeBits l D cB cI cZ cO h H.size x0 (f6_writeBits x0) rfl) (va_cwS 1 hts gX6_tiedByNumber_X6_writeBits rfl rfl rfl (by decide +kernel) ⟨Nat.le_of_ble_eq_true rfl, Nat.le_of_ble_eq_true rfl⟩) ⟨kb_blind, kb_pre hPc hDc hK hN⟩ rfl rfl hl.1 rfl (lv_room (Nat.le_of_ble_eq_true rfl)) dX6_tiedByNumber_1 ⟨Nat.le_refl _, Nat.le_refl _⟩) hP hD hS hA [] rfl (fun H locs hn1 hP hS => ?_)
  refine lv_istore_n (lv' := [(2, .int (f6_writeBits x0)), (0, .int x0), (1, .int x1)]) hx hb dX6_tiedByNumber_4 rfl hl (by decide) rfl (fun ls hl => ?_)
  refine lv_iload_n hx hb dX6_tiedByNumber_5 rfl (lv_at hl 2 rfl) ?_
  have hPc : va_P D vwCl ([]) H := hP.sub [] rfl
  have hDc : va_D A ([]) := hD.sub [] (by decide) rfl
  refine kd_iR (va_runS (As := [.int x1]) (rest := []) ⟨hx, hb, hml, hown, hts⟩ (c6_writeBits l D cB cI cZ cO h H.size x1 (f6_writeBits x1) rfl) (va_cwS 1 hts gX6_tiedByNumber_X6_writeBits rfl rfl rfl (by decide +kernel) ⟨Nat.le_of_ble_eq_true rfl, Nat.le_of_ble_eq_true rfl⟩) ⟨kb_blind, kb_pre hPc hDc hK hN⟩ rfl rfl hl.1 rfl (lv_room (Nat.le_of_ble_eq_true rfl)) dX6_tiedByNumber_6 ⟨Nat.le_refl _, Nat.le_refl _⟩) hP hD hS hA [] rfl (fun H locs hn2 hP hS => ?_)
  refine lv_istore_n (lv' := [(3, .int (f6_writeBits x1)), (2, .int (f6_writeBits x0)), (0, .int x0), (1, .int x1)]) hx hb dX6_tiedByNumber_9 rfl hl (by decide) rfl (fun ls hl => ?_)
  refine lv_iload_n hx hb dX6_tiedByNumber_10 rfl (lv_at hl 1 rfl) ?_
  refine lv_iload_n hx hb dX6_tiedByNumber_11 rfl (lv_at hl 0 rfl) ?_
  refine lv_iload_n hx hb dX6_tiedByNumber_12 rfl (lv_at hl 3 rfl) ?_
  have hPc : va_P D vwCl ([]) H := hP.sub [] rfl
  have hDc : va_D A ([]) := hD.sub [] (by decide) rfl
  refine kd_iR (va_runS (As := [.int x1]) (rest := [.int (f6_writeBits x1), .int (f6_writeBits x0)]) ⟨hx, hb, hml, hown, hts⟩ (c6_readBits l D cB cI cZ cO h H.size x1 (f6_readBits x1) rfl) (va_cwS 1 hts gX6_tiedByNumber_X6_readBits rfl rfl rfl (by decide +kernel) ⟨Nat.le_of_ble_eq_true rfl, Nat.le_of_ble_eq_true rfl⟩) ⟨kb_blind, kb_pre hPc hDc hK hN⟩ rfl rfl hl.1 rfl (lv_room (Nat.le_of_ble_eq_true rfl)) dX6_tiedByNumber_13 ⟨Nat.le_refl _, Nat.le_refl _⟩) hP hD hS hA [] rfl (fun H locs hn3 hP hS => ?_)
  refine lv_ior hx hb dX6_tiedByNumber_16 ?_
  refine lv_iand hx hb dX6_tiedByNumber_17 ?_
  refine lv_if_ne (tgt := 30) hx hb dX6_tiedByNumber_18 (by decide) (fun c4 => ?_) (fun c4 => ?_)
  · rw [if_neg c4] at hf
    exact J30  _ _ _ hf hP hD hS (lv_sub hl [] rfl)
  · rw [if_pos c4] at hf
    refine lv_iload_n hx hb dX6_tiedByNumber_21 rfl (lv_at hl 0 rfl) ?_
    refine lv_iload_n hx hb dX6_tiedByNumber_22 rfl (lv_at hl 2 rfl) ?_
    have hPc : va_P D vwCl ([]) H := hP.sub [] rfl
    have hDc : va_D A ([]) := hD.sub [] (by decide) rfl
    refine kd_iR (va_runS (As := [.int x0]) (rest := [.int (f6_writeBits x1)]) ⟨hx, hb, hml, hown, hts⟩ (c6_readBits l D cB cI cZ cO h H.size x0 (f6_readBits x0) rfl) (va_cwS 1 hts gX6_tiedByNumber_X6_readBits rfl rfl rfl (by decide +kernel) ⟨Nat.le_of_ble_eq_true rfl, Nat.le_of_ble_eq_true rfl⟩) ⟨kb_blind, kb_pre hPc hDc hK hN⟩ rfl rfl hl.1 rfl (lv_room (Nat.le_of_ble_eq_true rfl)) dX6_tiedByNumber_23 ⟨Nat.le_refl _, Nat.le_refl _⟩) hP hD hS hA [] rfl (fun H locs hn5 hP hS => ?_)
    refine lv_iand hx hb dX6_tiedByNumber_26 ?_
    refine lv_if_eq (tgt := 34) hx hb dX6_tiedByNumber_27 (by decide) (fun c6 => ?_) (fun c6 => ?_)
    · rw [if_pos c6] at hf
      refine lv_iconst (v := 0) hx hb dX6_tiedByNumber_34 (by decide) ?_
      subst hf
      exact hend _ _ _ _ rfl hP hS dX6_tiedByNumber_35
    · rw [if_neg c6] at hf
      exact J30  _ _ _ hf hP hD hS (lv_sub hl [] rfl)

set_option maxHeartbeats 4000000 in
set_option maxRecDepth 100000 in
theorem c6_tiedByLock (l : Launch) (D : va_G) (cB cI cZ cO : ClassId) (h : Nat → Nat) (sz : Nat) (x0 : Int32) (x1 : Int32) (r0 : Int32) (hf : f6_tiedByLock x0 x1 = r0) : Met l yX6_tiedByLock wsX6_tiedByLock rm6_tiedByLock (va_Pc [.int x0, .int x1] (kb_B D (ka_tys cB cI cZ cO) sz ([]))) (va_Qi (kb_post .boolean r0) (fun _ t => va_P D vwCl ([]) t.heap) (va_A ([]) sz)) 0 0 (va_A ([]) sz) := by
  refine kb_metZ (cc := cX6_tiedByLock) (maxL := 2) (ty := .boolean) (by decide) rfl (Nat.le_of_ble_eq_true rfl) ?_
  intro p e s m args below meth c Q A ls H hx hb hml hown hts hK hN hP hD hS hA hl hend
  have hown : s.vm.findClass RX6 = some m.cls := hown
  have hl : lv_has ls 2 [(0, .int x0), (1, .int x1)] := hl
  rw [f6_tiedByLock] at hf
  refine lv_iload_n hx hb dX6_tiedByLock_0 rfl (lv_at hl 0 rfl) ?_
  have hPc : va_P D vwCl ([]) H := hP.sub [] rfl
  have hDc : va_D A ([]) := hD.sub [] (by decide) rfl
  refine kd_iR (va_runS (As := [.int x0]) (rest := []) ⟨hx, hb, hml, hown, hts⟩ (c6_kind l D cB cI cZ cO h H.size x0 (f6_kind x0) rfl) (va_cwS 1 hts gX6_tiedByLock_X6_kind rfl rfl rfl (by decide +kernel) ⟨Nat.le_of_ble_eq_true rfl, Nat.le_of_ble_eq_true rfl⟩) ⟨kb_blind, kb_pre hPc hDc hK hN⟩ rfl rfl hl.1 rfl (lv_room (Nat.le_of_ble_eq_true rfl)) dX6_tiedByLock_1 ⟨Nat.le_refl _, Nat.le_refl _⟩) hP hD hS hA [] rfl (fun H locs hn1 hP hS => ?_)
  have hPc : va_P D vwCl ([]) H := hP.sub [] rfl
  have hDc : va_D A ([]) := hD.sub [] (by decide) rfl
  refine kd_iR (va_runS (As := [.int (f6_kind x0)]) (rest := []) ⟨hx, hb, hml, hown, hts⟩ (c6_isLocking l D cB cI cZ cO h H.size (f6_kind x0) (f6_isLocking (f6_kind x0)) rfl) (va_cwS 1 hts gX6_tiedByLock_X6_isLocking rfl rfl rfl (by decide +kernel) ⟨Nat.le_of_ble_eq_true rfl, Nat.le_of_ble_eq_true rfl⟩) ⟨kb_blind, kb_pre hPc hDc hK hN⟩ rfl rfl hl.1 rfl (lv_room (Nat.le_of_ble_eq_true rfl)) dX6_tiedByLock_4 ⟨Nat.le_refl _, Nat.le_refl _⟩) hP hD hS hA [] rfl (fun H locs hn2 hP hS => ?_)
  refine lv_if_eq (tgt := 35) hx hb dX6_tiedByLock_7 (by decide) (fun c3 => ?_) (fun c3 => ?_)
  · rw [if_pos c3] at hf
    refine lv_iconst (v := 0) hx hb dX6_tiedByLock_35 (by decide) ?_
    subst hf
    exact hend _ _ _ _ rfl hP hS dX6_tiedByLock_36
  · rw [if_neg c3] at hf
    refine lv_iload_n hx hb dX6_tiedByLock_10 rfl (lv_at hl 1 rfl) ?_
    have hPc : va_P D vwCl ([]) H := hP.sub [] rfl
    have hDc : va_D A ([]) := hD.sub [] (by decide) rfl
    refine kd_iR (va_runS (As := [.int x1]) (rest := []) ⟨hx, hb, hml, hown, hts⟩ (c6_kind l D cB cI cZ cO h H.size x1 (f6_kind x1) rfl) (va_cwS 1 hts gX6_tiedByLock_X6_kind rfl rfl rfl (by decide +kernel) ⟨Nat.le_of_ble_eq_true rfl, Nat.le_of_ble_eq_true rfl⟩) ⟨kb_blind, kb_pre hPc hDc hK hN⟩ rfl rfl hl.1 rfl (lv_room (Nat.le_of_ble_eq_true rfl)) dX6_tiedByLock_11 ⟨Nat.le_refl _, Nat.le_refl _⟩) hP hD hS hA [] rfl (fun H locs hn4 hP hS => ?_)
    have hPc : va_P D vwCl ([]) H := hP.sub [] rfl
    have hDc : va_D A ([]) := hD.sub [] (by decide) rfl
    refine kd_iR (va_runS (As := [.int (f6_kind x1)]) (rest := []) ⟨hx, hb, hml, hown, hts⟩ (c6_isLocking l D cB cI cZ cO h H.size (f6_kind x1) (f6_isLocking (f6_kind x1)) rfl) (va_cwS 1 hts gX6_tiedByLock_X6_isLocking rfl rfl rfl (by decide +kernel) ⟨Nat.le_of_ble_eq_true rfl, Nat.le_of_ble_eq_true rfl⟩) ⟨kb_blind, kb_pre hPc hDc hK hN⟩ rfl rfl hl.1 rfl (lv_room (Nat.le_of_ble_eq_true rfl)) dX6_tiedByLock_14 ⟨Nat.le_refl _, Nat.le_refl _⟩) hP hD hS hA [] rfl (fun H locs hn5 hP hS => ?_)
    refine lv_if_eq (tgt := 35) hx hb dX6_tiedByLock_17 (by decide) (fun c6 => ?_) (fun c6 => ?_)
    · rw [if_pos c6] at hf
      refine lv_iconst (v := 0) hx hb dX6_tiedByLock_35 (by decide) ?_
      subst hf
      exact hend _ _ _ _ rfl hP hS dX6_tiedByLock_36
    · rw [if_neg c6] at hf
      refine lv_iload_n hx hb dX6_tiedByLock_20 rfl (lv_at hl 0 rfl) ?_
      have hPc : va_P D vwCl ([]) H := hP.sub [] rfl
      have hDc : va_D A ([]) := hD.sub [] (by decide) rfl
      refine kd_iR (va_runS (As := [.int x0]) (rest := []) ⟨hx, hb, hml, hown, hts⟩ (c6_target l D cB cI cZ cO h H.size x0 (f6_target x0) rfl) (va_cwS 1 hts gX6_tiedByLock_X6_target rfl rfl rfl (by decide +kernel) ⟨Nat.le_of_ble_eq_true rfl, Nat.le_of_ble_eq_true rfl⟩) ⟨kb_blind, kb_pre hPc hDc hK hN⟩ rfl rfl hl.1 rfl (lv_room (Nat.le_of_ble_eq_true rfl)) dX6_tiedByLock_21 ⟨Nat.le_refl _, Nat.le_refl _⟩) hP hD hS hA [] rfl (fun H locs hn7 hP hS => ?_)
      refine lv_iload_n hx hb dX6_tiedByLock_24 rfl (lv_at hl 1 rfl) ?_
      have hPc : va_P D vwCl ([]) H := hP.sub [] rfl
      have hDc : va_D A ([]) := hD.sub [] (by decide) rfl
      refine kd_iR (va_runS (As := [.int x1]) (rest := [.int (f6_target x0)]) ⟨hx, hb, hml, hown, hts⟩ (c6_target l D cB cI cZ cO h H.size x1 (f6_target x1) rfl) (va_cwS 1 hts gX6_tiedByLock_X6_target rfl rfl rfl (by decide +kernel) ⟨Nat.le_of_ble_eq_true rfl, Nat.le_of_ble_eq_true rfl⟩) ⟨kb_blind, kb_pre hPc hDc hK hN⟩ rfl rfl hl.1 rfl (lv_room (Nat.le_of_ble_eq_true rfl)) dX6_tiedByLock_25 ⟨Nat.le_refl _, Nat.le_refl _⟩) hP hD hS hA [] rfl (fun H locs hn8 hP hS => ?_)
      refine lv_icmp_ne (tgt := 35) hx hb dX6_tiedByLock_28 (by decide) (fun c9 => ?_) (fun c9 => ?_)
      · rw [if_neg c9] at hf
        refine lv_iconst (v := 0) hx hb dX6_tiedByLock_35 (by decide) ?_
        subst hf
        exact hend _ _ _ _ rfl hP hS dX6_tiedByLock_36
      · rw [if_pos c9] at hf
        refine lv_iconst (v := 1) hx hb dX6_tiedByLock_31 (by decide) ?_
        refine lv_goto (tgt := 36) hx hb dX6_tiedByLock_32 (by decide) ?_
        subst hf
        exact hend _ _ _ _ rfl hP hS dX6_tiedByLock_36

set_option maxHeartbeats 4000000 in
set_option maxRecDepth 100000 in
theorem c6_tied (l : Launch) (D : va_G) (cB cI cZ cO : ClassId) (h : Nat → Nat) (sz : Nat) (x0 : Int32) (x1 : Int32) (r0 : Int32) (hf : f6_tied x0 x1 = r0) : Met l yX6_tied wsX6_tied rm6_tied (va_Pc [.int x0, .int x1] (kb_B D (ka_tys cB cI cZ cO) sz ([]))) (va_Qi (kb_post .boolean r0) (fun _ t => va_P D vwCl ([]) t.heap) (va_A ([]) sz)) 0 0 (va_A ([]) sz) := by
  refine kb_metZ (cc := cX6_tied) (maxL := 2) (ty := .boolean) (by decide) rfl (Nat.le_of_ble_eq_true rfl) ?_
  intro p e s m args below meth c Q A ls H hx hb hml hown hts hK hN hP hD hS hA hl hend
  have hown : s.vm.findClass RX6 = some m.cls := hown
  have hl : lv_has ls 2 [(0, .int x0), (1, .int x1)] := hl
  have J16 : ∀  (H : Heap) (locs : List Loc) (ls : Array Slot), f6_tied_b16  = r0 → va_P D vwCl ([]) H → va_D A ([]) → va_S A s.heap H locs → lv_has ls 2 [] → W p l e rm6_tied s m args below meth c H locs 0 0 Q (F0 m 16 ls []) := by
    intro  H locs ls hf hP hD hS hl
    rw [f6_tied_b16] at hf
    refine lv_iconst (v := 1) hx hb dX6_tied_16 (by decide) ?_
    refine lv_goto (tgt := 21) hx hb dX6_tied_17 (by decide) ?_
    subst hf
    exact hend _ _ _ _ rfl hP hS dX6_tied_21
  rw [f6_tied] at hf
  refine lv_iload_n hx hb dX6_tied_0 rfl (lv_at hl 0 rfl) ?_
  refine lv_iload_n hx hb dX6_tied_1 rfl (lv_at hl 1 rfl) ?_
  have hPc : va_P D vwCl ([]) H := hP.sub [] rfl
  have hDc : va_D A ([]) := hD.sub [] (by decide) rfl
  refine kd_iR (va_runS (As := [.int x0, .int x1]) (rest := []) ⟨hx, hb, hml, hown, hts⟩ (c6_tiedByNumber l D cB cI cZ cO h H.size x0 x1 (f6_tiedByNumber x0 x1) rfl) (va_cwS 2 hts gX6_tied_X6_tiedByNumber rfl rfl rfl (by decide +kernel) ⟨Nat.le_of_ble_eq_true rfl, Nat.le_of_ble_eq_true rfl⟩) ⟨kb_blind, kb_pre hPc hDc hK hN⟩ rfl rfl hl.1 rfl (lv_room (Nat.le_of_ble_eq_true rfl)) dX6_tied_2 ⟨Nat.le_refl _, Nat.le_refl _⟩) hP hD hS hA [] rfl (fun H locs hn1 hP hS => ?_)
  refine lv_if_ne (tgt := 16) hx hb dX6_tied_5 (by decide) (fun c2 => ?_) (fun c2 => ?_)
  · rw [if_neg c2] at hf
    exact J16  _ _ _ hf hP hD hS (lv_sub hl [] rfl)
  · rw [if_pos c2] at hf
    refine lv_iload_n hx hb dX6_tied_8 rfl (lv_at hl 0 rfl) ?_
    refine lv_iload_n hx hb dX6_tied_9 rfl (lv_at hl 1 rfl) ?_
    have hPc : va_P D vwCl ([]) H := hP.sub [] rfl
    have hDc : va_D A ([]) := hD.sub [] (by decide) rfl
    refine kd_iR (va_runS (As := [.int x0, .int x1]) (rest := []) ⟨hx, hb, hml, hown, hts⟩ (c6_tiedByLock l D cB cI cZ cO h H.size x0 x1 (f6_tiedByLock x0 x1) rfl) (va_cwS 2 hts gX6_tied_X6_tiedByLock rfl rfl rfl (by decide +kernel) ⟨Nat.le_of_ble_eq_true rfl, Nat.le_of_ble_eq_true rfl⟩) ⟨kb_blind, kb_pre hPc hDc hK hN⟩ rfl rfl hl.1 rfl (lv_room (Nat.le_of_ble_eq_true rfl)) dX6_tied_10 ⟨Nat.le_refl _, Nat.le_refl _⟩) hP hD hS hA [] rfl (fun H locs hn3 hP hS => ?_)
    refine lv_if_eq (tgt := 20) hx hb dX6_tied_13 (by decide) (fun c4 => ?_) (fun c4 => ?_)
    · rw [if_pos c4] at hf
      refine lv_iconst (v := 0) hx hb dX6_tied_20 (by decide) ?_
      subst hf
      exact hend _ _ _ _ rfl hP hS dX6_tied_21
    · rw [if_neg c4] at hf
      exact J16  _ _ _ hf hP hD hS (lv_sub hl [] rfl)
