set_option maxHeartbeats 4000000 in
set_option maxRecDepth 100000 in
theorem c0_count (l : Launch) (D : va_G) (cB cI cZ cO : ClassId) (h : Nat → Nat) (o : Nat) (sz : Nat) (v_threads : sT) (v_rows : Nat → Int32) (v_ended : Nat → Int32) (v_known : Int32) (v_stepsInAll : Int32) (v_count : Int32) (v_standstills : Int32) (v_wrongOnes : Int32) (v_unlikeEnds : Int32) (r0 : Int32) (hf : f0_count v_count = r0) : Met l yX0_count wsX0_count rm0_count (va_Pc [.ref (h o)] (kb_B D (ka_tys cB cI cZ cO) sz (wdA cI cZ h o v_threads v_rows v_ended v_known v_stepsInAll v_count v_standstills v_wrongOnes v_unlikeEnds))) (va_Qi (kb_post .int r0) (fun _ t => va_P D vwCl (wdA cI cZ h o v_threads v_rows v_ended v_known v_stepsInAll v_count v_standstills v_wrongOnes v_unlikeEnds) t.heap) (va_A (wdA cI cZ h o v_threads v_rows v_ended v_known v_stepsInAll v_count v_standstills v_wrongOnes v_unlikeEnds) sz)) 0 0 (va_A (wdA cI cZ h o v_threads v_rows v_ended v_known v_stepsInAll v_count v_standstills v_wrongOnes v_unlikeEnds) sz) := by
  refine kb_metZ (cc := cX0_count) (maxL := 1) (ty := .int) (by decide) rfl (Nat.le_of_ble_eq_true rfl) ?_
  intro p e s m args below meth c Q A ls H hx hb hml hown hts hK hN hP hD hS hA hl hend
  have hown : s.vm.findClass RX0 = some m.cls := hown
  have hl : lv_has ls 1 [(0, .ref (h o))] := hl
  have hin0 : ∀ w ∈ u_ws RX0 TX0 9, w ∈ wsX0_count := by decide +kernel
  rw [f0_count] at hf
  refine lv_aload_n hx hb dX0_count_0 rfl (lv_at hl 0 rfl) ?_
  refine va_get (D := D) (cl := vwCl) (ci := 0) (v := .int v_count) (C := RX0) (T := TX0) (N := 9) hx hb hts hin0 hown hK hP 0 rfl rfl 5 (by decide) (hts (.fieldLink RX0 27 "StepOrders$AllOrders" "count" "I") (by decide +kernel)) (fun _ h9 => h9) rfl dX0_count_1 ?_
  subst hf
  exact hend _ _ _ _ rfl hP hS dX0_count_4

set_option maxHeartbeats 4000000 in
set_option maxRecDepth 100000 in
theorem c0_howMany (l : Launch) (D : va_G) (cB cI cZ cO : ClassId) (h : Nat → Nat) (o : Nat) (sz : Nat) (x1 : Int32) (v_threads : sT) (v_rows : Nat → Int32) (v_ended : Nat → Int32) (v_known : Int32) (v_stepsInAll : Int32) (v_count : Int32) (v_standstills : Int32) (v_wrongOnes : Int32) (v_unlikeEnds : Int32) (r0 : Int32) (hf : f0_howMany v_count v_standstills v_wrongOnes v_unlikeEnds x1 = r0) : Met l yX0_howMany wsX0_howMany rm0_howMany (va_Pc [.ref (h o), .int x1] (kb_B D (ka_tys cB cI cZ cO) sz (wdA cI cZ h o v_threads v_rows v_ended v_known v_stepsInAll v_count v_standstills v_wrongOnes v_unlikeEnds))) (va_Qi (kb_post .int r0) (fun _ t => va_P D vwCl (wdA cI cZ h o v_threads v_rows v_ended v_known v_stepsInAll v_count v_standstills v_wrongOnes v_unlikeEnds) t.heap) (va_A (wdA cI cZ h o v_threads v_rows v_ended v_known v_stepsInAll v_count v_standstills v_wrongOnes v_unlikeEnds) sz)) 0 0 (va_A (wdA cI cZ h o v_threads v_rows v_ended v_known v_stepsInAll v_count v_standstills v_wrongOnes v_unlikeEnds) sz) := by
  refine kb_metZ (cc := cX0_howMany) (maxL := 2) (ty := .int) (by decide) rfl (Nat.le_of_ble_eq_true rfl) ?_
  intro p e s m args below meth c Q A ls H hx hb hml hown hts hK hN hP hD hS hA hl hend
  have hown : s.vm.findClass RX0 = some m.cls := hown
  have hl : lv_has ls 2 [(0, .ref (h o)), (1, .int x1)] := hl
  have hin0 : ∀ w ∈ u_ws RX0 TX0 9, w ∈ wsX0_howMany := by decide +kernel
  rw [f0_howMany] at hf
  refine lv_iload_n hx hb dX0_howMany_0 rfl (lv_at hl 1 rfl) ?_
  by_cases c1_0 : x1 = 0
  · rw [if_pos c1_0] at hf
    refine lv_tableIn (tgt := 28) (off := 27) hx hb dX0_howMany_1 (by rw [c1_0]; decide) (by rw [c1_0]; decide) (by rw [c1_0]; rfl) (by decide) ?_
    refine lv_aload_n hx hb dX0_howMany_28 rfl (lv_at hl 0 rfl) ?_
    refine va_get (D := D) (cl := vwCl) (ci := 0) (v := .int v_count) (C := RX0) (T := TX0) (N := 9) hx hb hts hin0 hown hK hP 0 rfl rfl 5 (by decide) (hts (.fieldLink RX0 27 "StepOrders$AllOrders" "count" "I") (by decide +kernel)) (fun _ h9 => h9) rfl dX0_howMany_29 ?_
    subst hf
    exact hend _ _ _ _ rfl hP hS dX0_howMany_32
  rw [if_neg c1_0] at hf
  by_cases c1_1 : x1 = 1
  · rw [if_pos c1_1] at hf
    refine lv_tableIn (tgt := 33) (off := 32) hx hb dX0_howMany_1 (by rw [c1_1]; decide) (by rw [c1_1]; decide) (by rw [c1_1]; rfl) (by decide) ?_
    refine lv_aload_n hx hb dX0_howMany_33 rfl (lv_at hl 0 rfl) ?_
    refine va_get (D := D) (cl := vwCl) (ci := 0) (v := .int v_standstills) (C := RX0) (T := TX0) (N := 9) hx hb hts hin0 hown hK hP 0 rfl rfl 6 (by decide) (hts (.fieldLink RX0 31 "StepOrders$AllOrders" "standstills" "I") (by decide +kernel)) (fun _ h9 => h9) rfl dX0_howMany_34 ?_
    subst hf
    exact hend _ _ _ _ rfl hP hS dX0_howMany_37
  rw [if_neg c1_1] at hf
  by_cases c1_2 : x1 = 2
  · rw [if_pos c1_2] at hf
    refine lv_tableIn (tgt := 38) (off := 37) hx hb dX0_howMany_1 (by rw [c1_2]; decide) (by rw [c1_2]; decide) (by rw [c1_2]; rfl) (by decide) ?_
    refine lv_aload_n hx hb dX0_howMany_38 rfl (lv_at hl 0 rfl) ?_
    refine va_get (D := D) (cl := vwCl) (ci := 0) (v := .int v_wrongOnes) (C := RX0) (T := TX0) (N := 9) hx hb hts hin0 hown hK hP 0 rfl rfl 7 (by decide) (hts (.fieldLink RX0 34 "StepOrders$AllOrders" "wrongOnes" "I") (by decide +kernel)) (fun _ h9 => h9) rfl dX0_howMany_39 ?_
    subst hf
    exact hend _ _ _ _ rfl hP hS dX0_howMany_42
  rw [if_neg c1_2] at hf
  refine lv_tableOut (tgt := 43) hx hb dX0_howMany_1 (by have e0 := lv_neT c1_0 (a := 0) rfl; have e1 := lv_neT c1_1 (a := 1) rfl; have e2 := lv_neT c1_2 (a := 2) rfl; omega) (by decide) ?_
  refine lv_aload_n hx hb dX0_howMany_43 rfl (lv_at hl 0 rfl) ?_
  refine va_get (D := D) (cl := vwCl) (ci := 0) (v := .int v_unlikeEnds) (C := RX0) (T := TX0) (N := 9) hx hb hts hin0 hown hK hP 0 rfl rfl 8 (by decide) (hts (.fieldLink RX0 37 "StepOrders$AllOrders" "unlikeEnds" "I") (by decide +kernel)) (fun _ h9 => h9) rfl dX0_howMany_44 ?_
  subst hf
  exact hend _ _ _ _ rfl hP hS dX0_howMany_47

set_option maxHeartbeats 4000000 in
set_option maxRecDepth 100000 in
theorem c0_rowAt (l : Launch) (D : va_G) (cB cI cZ cO : ClassId) (h : Nat → Nat) (o : Nat) (sz : Nat) (x1 : Int32) (v_threads : sT) (v_rows : Nat → Int32) (v_ended : Nat → Int32) (v_known : Int32) (v_stepsInAll : Int32) (v_count : Int32) (v_standstills : Int32) (v_wrongOnes : Int32) (v_unlikeEnds : Int32) (r0 : Int32) (hf : f0_rowAt v_rows v_count x1 = some r0) : Met l yX0_rowAt wsX0_rowAt rm0_rowAt (va_Pc [.ref (h o), .int x1] (kb_B D (ka_tys cB cI cZ cO) sz (wdA cI cZ h o v_threads v_rows v_ended v_known v_stepsInAll v_count v_standstills v_wrongOnes v_unlikeEnds))) (va_Qi (kb_post .int r0) (fun _ t => va_P D vwCl (wdA cI cZ h o v_threads v_rows v_ended v_known v_stepsInAll v_count v_standstills v_wrongOnes v_unlikeEnds) t.heap) (va_A (wdA cI cZ h o v_threads v_rows v_ended v_known v_stepsInAll v_count v_standstills v_wrongOnes v_unlikeEnds) sz)) 0 0 (va_A (wdA cI cZ h o v_threads v_rows v_ended v_known v_stepsInAll v_count v_standstills v_wrongOnes v_unlikeEnds) sz) := by
  refine kb_metZ (cc := cX0_rowAt) (maxL := 2) (ty := .int) (by decide) rfl (Nat.le_of_ble_eq_true rfl) ?_
  intro p e s m args below meth c Q A ls H hx hb hml hown hts hK hN hP hD hS hA hl hend
  have hown : s.vm.findClass RX0 = some m.cls := hown
  have hl : lv_has ls 2 [(0, .ref (h o)), (1, .int x1)] := hl
  have hin0 : ∀ w ∈ u_ws RX0 TX0 9, w ∈ wsX0_rowAt := by decide +kernel
  rw [f0_rowAt] at hf
  refine lv_iload_n hx hb dX0_rowAt_0 rfl (lv_at hl 1 rfl) ?_
  refine lv_if_lt (tgt := 21) hx hb dX0_rowAt_1 (by decide) (fun c1 => ?_) (fun c1 => ?_)
  · rw [if_pos c1] at hf
    refine lv_iconst (v := 0) hx hb dX0_rowAt_21 (by decide) ?_
    obtain rfl := Option.some.inj hf
    exact hend _ _ _ _ rfl hP hS dX0_rowAt_22
  · rw [if_neg c1] at hf
    refine lv_iload_n hx hb dX0_rowAt_4 rfl (lv_at hl 1 rfl) ?_
    refine lv_aload_n hx hb dX0_rowAt_5 rfl (lv_at hl 0 rfl) ?_
    refine va_get (D := D) (cl := vwCl) (ci := 0) (v := .int v_count) (C := RX0) (T := TX0) (N := 9) hx hb hts hin0 hown hK hP 0 rfl rfl 5 (by decide) (hts (.fieldLink RX0 27 "StepOrders$AllOrders" "count" "I") (by decide +kernel)) (fun _ h9 => h9) rfl dX0_rowAt_6 ?_
    refine lv_icmp_ge (tgt := 21) hx hb dX0_rowAt_9 (by decide) (fun c2 => ?_) (fun c2 => ?_)
    · rw [if_pos c2] at hf
      refine lv_iconst (v := 0) hx hb dX0_rowAt_21 (by decide) ?_
      obtain rfl := Option.some.inj hf
      exact hend _ _ _ _ rfl hP hS dX0_rowAt_22
    · rw [if_neg c2] at hf
      refine lv_aload_n hx hb dX0_rowAt_12 rfl (lv_at hl 0 rfl) ?_
      refine va_get (D := D) (cl := vwCl) (ci := 0) (v := .ref (h (o + 1))) (C := RX0) (T := TX0) (N := 9) hx hb hts hin0 hown hK hP 0 rfl rfl 1 (by decide) (hts (.fieldLink RX0 19 "StepOrders$AllOrders" "rows" "[I") (by decide +kernel)) (fun _ h9 => h9) rfl dX0_rowAt_13 ?_
      refine lv_iload_n hx hb dX0_rowAt_16 rfl (lv_at hl 1 rfl) ?_
      refine kb_bind hf (fun v3 hv3 hf => ?_)
      refine ka_iald (D := D) (cl := vwCl) hx hb hK hP 1 1 (f := v_rows) rfl rfl (ard_in hv3) (ard_v hv3) dX0_rowAt_17 ?_
      refine lv_goto (tgt := 22) hx hb dX0_rowAt_18 (by decide) ?_
      obtain rfl := Option.some.inj hf
      exact hend _ _ _ _ rfl hP hS dX0_rowAt_22

set_option maxHeartbeats 4000000 in
set_option maxRecDepth 100000 in
theorem c0_endsAt (l : Launch) (D : va_G) (cB cI cZ cO : ClassId) (h : Nat → Nat) (o : Nat) (sz : Nat) (x1 : Int32) (v_threads : sT) (v_rows : Nat → Int32) (v_ended : Nat → Int32) (v_known : Int32) (v_stepsInAll : Int32) (v_count : Int32) (v_standstills : Int32) (v_wrongOnes : Int32) (v_unlikeEnds : Int32) (r0 : Int32) (hf : f0_endsAt v_ended x1 = some r0) : Met l yX0_endsAt wsX0_endsAt rm0_endsAt (va_Pc [.ref (h o), .int x1] (kb_B D (ka_tys cB cI cZ cO) sz (wdA cI cZ h o v_threads v_rows v_ended v_known v_stepsInAll v_count v_standstills v_wrongOnes v_unlikeEnds))) (va_Qi (kb_post .boolean r0) (fun _ t => va_P D vwCl (wdA cI cZ h o v_threads v_rows v_ended v_known v_stepsInAll v_count v_standstills v_wrongOnes v_unlikeEnds) t.heap) (va_A (wdA cI cZ h o v_threads v_rows v_ended v_known v_stepsInAll v_count v_standstills v_wrongOnes v_unlikeEnds) sz)) 0 0 (va_A (wdA cI cZ h o v_threads v_rows v_ended v_known v_stepsInAll v_count v_standstills v_wrongOnes v_unlikeEnds) sz) := by
  refine kb_metZ (cc := cX0_endsAt) (maxL := 2) (ty := .boolean) (by decide) rfl (Nat.le_of_ble_eq_true rfl) ?_
  intro p e s m args below meth c Q A ls H hx hb hml hown hts hK hN hP hD hS hA hl hend
  have hown : s.vm.findClass RX0 = some m.cls := hown
  have hl : lv_has ls 2 [(0, .ref (h o)), (1, .int x1)] := hl
  have hin0 : ∀ w ∈ u_ws RX0 TX0 9, w ∈ wsX0_endsAt := by decide +kernel
  rw [f0_endsAt] at hf
  refine lv_iload_n hx hb dX0_endsAt_0 rfl (lv_at hl 1 rfl) ?_
  refine lv_sipush (v := 10000) hx hb dX0_endsAt_1 (by decide) ?_
  have hPc : va_P D vwCl ([]) H := hP.sub [] rfl
  have hDc : va_D A ([]) := hD.sub [] (by decide) rfl
  refine kd_iR (va_runSN (As := [.int x1, .int (10000 : Int32)]) (rest := []) ⟨hx, hb, hml, hown, hts⟩ (c8_below l D cB cI cZ cO h H.size x1 (10000 : Int32) (f8_below x1 (10000 : Int32)) rfl) ⟨va_cnB 2 hts gX0_endsAt_X8_below_n40 rfl rfl rfl hN.1 (hts (.initialized RX8) (by decide +kernel)) (by decide +kernel) ⟨Nat.le_of_ble_eq_true rfl, Nat.le_of_ble_eq_true rfl⟩, hts (.static yX8_below) (by decide +kernel), trivial⟩ ⟨kb_blind, kb_pre hPc hDc hK hN⟩ rfl rfl hl.1 rfl (lv_room (Nat.le_of_ble_eq_true rfl)) dX0_endsAt_4 ⟨Nat.le_refl _, Nat.le_refl _⟩) hP hD hS hA [] rfl (fun H locs hn1 hP hS => ?_)
  refine lv_if_eq (tgt := 23) hx hb dX0_endsAt_7 (by decide) (fun c2 => ?_) (fun c2 => ?_)
  · rw [if_pos c2] at hf
    refine lv_iconst (v := 0) hx hb dX0_endsAt_23 (by decide) ?_
    obtain rfl := Option.some.inj hf
    exact hend _ _ _ _ rfl hP hS dX0_endsAt_24
  · rw [if_neg c2] at hf
    refine lv_aload_n hx hb dX0_endsAt_10 rfl (lv_at hl 0 rfl) ?_
    refine va_get (D := D) (cl := vwCl) (ci := 0) (v := .ref (h (o + 2))) (C := RX0) (T := TX0) (N := 9) hx hb hts hin0 hown hK hP 0 rfl rfl 2 (by decide) (hts (.fieldLink RX0 23 "StepOrders$AllOrders" "ended" "[Z") (by decide +kernel)) (fun _ h9 => h9) rfl dX0_endsAt_11 ?_
    refine lv_iload_n hx hb dX0_endsAt_14 rfl (lv_at hl 1 rfl) ?_
    refine kb_bind hf (fun v3 hv3 hf => ?_)
    refine ka_zald (D := D) (cl := vwCl) hx hb hK hP 2 2 (f := v_ended) rfl rfl (ard_in hv3) (ard_v hv3) dX0_endsAt_15 ?_
    refine lv_if_eq (tgt := 23) hx hb dX0_endsAt_16 (by decide) (fun c4 => ?_) (fun c4 => ?_)
    · rw [if_pos c4] at hf
      refine lv_iconst (v := 0) hx hb dX0_endsAt_23 (by decide) ?_
      obtain rfl := Option.some.inj hf
      exact hend _ _ _ _ rfl hP hS dX0_endsAt_24
    · rw [if_neg c4] at hf
      refine lv_iconst (v := 1) hx hb dX0_endsAt_19 (by decide) ?_
      refine lv_goto (tgt := 24) hx hb dX0_endsAt_20 (by decide) ?_
      obtain rfl := Option.some.inj hf
      exact hend _ _ _ _ rfl hP hS dX0_endsAt_24

set_option maxHeartbeats 4000000 in
set_option maxRecDepth 100000 in
theorem c0_notWoken (l : Launch) (D : va_G) (cB cI cZ cO : ClassId) (h : Nat → Nat) (o : Nat) (sz : Nat) (x1 : Int64) (x3 : Int32) (x4 : Int32) (v_threads : sT) (v_rows : Nat → Int32) (v_ended : Nat → Int32) (v_known : Int32) (v_stepsInAll : Int32) (v_count : Int32) (v_standstills : Int32) (v_wrongOnes : Int32) (v_unlikeEnds : Int32) (r0 : Int32) (hf : f0_notWoken v_threads x1 x3 x4 = some r0) : Met l yX0_notWoken wsX0_notWoken rm0_notWoken (va_Pc [.ref (h o), .long x1, .int x3, .int x4] (kb_B D (ka_tys cB cI cZ cO) sz (wdA cI cZ h o v_threads v_rows v_ended v_known v_stepsInAll v_count v_standstills v_wrongOnes v_unlikeEnds))) (va_Qi (kb_post .int r0) (fun _ t => va_P D vwCl (wdA cI cZ h o v_threads v_rows v_ended v_known v_stepsInAll v_count v_standstills v_wrongOnes v_unlikeEnds) t.heap) (va_A (wdA cI cZ h o v_threads v_rows v_ended v_known v_stepsInAll v_count v_standstills v_wrongOnes v_unlikeEnds) sz)) 0 0 (va_A (wdA cI cZ h o v_threads v_rows v_ended v_known v_stepsInAll v_count v_standstills v_wrongOnes v_unlikeEnds) sz) := by
  refine kb_metZ (cc := cX0_notWoken) (maxL := 8) (ty := .int) (by decide) rfl (Nat.le_of_ble_eq_true rfl) ?_
  intro p e s m args below meth c Q A ls H hx hb hml hown hts hK hN hP hD hS hA hl hend
  have hown : s.vm.findClass RX0 = some m.cls := hown
  have hl : lv_has ls 8 [(0, .ref (h o)), (1, .long x1), (3, .int x3), (4, .int x4)] := hl
  have hin0 : ∀ w ∈ u_ws RX0 TX0 9, w ∈ wsX0_notWoken := by decide +kernel
  have J66 : ∀ (x6 : Int32) (H : Heap) (locs : List Loc) (ls : Array Slot), f0_notWoken_b66 v_threads x6 = some r0 → va_P D vwCl (wdA cI cZ h o v_threads v_rows v_ended v_known v_stepsInAll v_count v_standstills v_wrongOnes v_unlikeEnds) H → va_D A (wdA cI cZ h o v_threads v_rows v_ended v_known v_stepsInAll v_count v_standstills v_wrongOnes v_unlikeEnds) → va_S A s.heap H locs → lv_has ls 8 [(6, .int x6)] → W p l e rm0_notWoken s m args below meth c H locs 0 0 Q (F0 m 66 ls []) := by
    intro x6 H locs ls hf hP hD hS hl
    rw [f0_notWoken_b66] at hf
    refine lv_iload hx hb dX0_notWoken_66 (lv_at hl 0 rfl) ?_
    obtain rfl := Option.some.inj hf
    exact hend _ _ _ _ rfl hP hS dX0_notWoken_68
  have J17 : ∀ (n : Nat) (x1 : Int64) (x4 : Int32) (x5 : Int32) (x6 : Int32) (x7 : Int32) (H : Heap) (locs : List Loc) (ls : Array Slot), f0_notWoken_l17 n v_threads x1 x4 x5 x6 x7 = some r0 → va_P D vwCl (wdA cI cZ h o v_threads v_rows v_ended v_known v_stepsInAll v_count v_standstills v_wrongOnes v_unlikeEnds) H → va_D A (wdA cI cZ h o v_threads v_rows v_ended v_known v_stepsInAll v_count v_standstills v_wrongOnes v_unlikeEnds) → va_S A s.heap H locs → lv_has ls 8 [(0, .ref (h o)), (1, .long x1), (4, .int x4), (5, .int x5), (6, .int x6), (7, .int x7)] → W p l e rm0_notWoken s m args below meth c H locs 0 0 Q (F0 m 17 ls []) := by
    intro n
    induction n with
    | zero =>
      intro x1 x4 x5 x6 x7 H locs ls hf
      cases (show (none : Option (Int32)) = some r0 from hf)
    | succ n ih =>
      have J60 : ∀ (x1 : Int64) (x4 : Int32) (x5 : Int32) (x6 : Int32) (x7 : Int32) (H : Heap) (locs : List Loc) (ls : Array Slot), f0_notWoken_b60 (f0_notWoken_l17 n) v_threads x1 x4 x5 x6 x7 = some r0 → va_P D vwCl (wdA cI cZ h o v_threads v_rows v_ended v_known v_stepsInAll v_count v_standstills v_wrongOnes v_unlikeEnds) H → va_D A (wdA cI cZ h o v_threads v_rows v_ended v_known v_stepsInAll v_count v_standstills v_wrongOnes v_unlikeEnds) → va_S A s.heap H locs → lv_has ls 8 [(0, .ref (h o)), (1, .long x1), (4, .int x4), (5, .int x5), (6, .int x6), (7, .int x7)] → W p l e rm0_notWoken s m args below meth c H locs 0 0 Q (F0 m 60 ls []) := by
        intro x1 x4 x5 x6 x7 H locs ls hf hP hD hS hl
        rw [f0_notWoken_b60] at hf
        refine lv_iinc (v := (x7 + 1)) (lv' := [(7, .int (x7 + 1)), (0, .ref (h o)), (1, .long x1), (4, .int x4), (5, .int x5), (6, .int x6)]) hx hb dX0_notWoken_60 hl (k := 5) rfl rfl (by decide) rfl (fun ls hl => ?_)
        refine lv_goto (tgt := 17) hx hb dX0_notWoken_63 (by decide) ?_
        exact ih x1 x4 x5 x6 (x7 + 1) _ _ _ hf hP hD hS (lv_sub hl [1, 2, 3, 4, 5, 0] rfl)
      intro x1 x4 x5 x6 x7 H locs ls hf hP hD hS hl
      rw [f0_notWoken_l17_s] at hf
      refine lv_iload hx hb dX0_notWoken_17 (lv_at hl 5 rfl) ?_
      refine lv_iconst (v := 3) hx hb dX0_notWoken_19 (by decide) ?_
      refine lv_icmp_ge (tgt := 66) hx hb dX0_notWoken_20 (by decide) (fun c7 => ?_) (fun c7 => ?_)
      · rw [if_pos c7] at hf
        exact J66 x6 _ _ _ hf hP hD hS (lv_sub hl [4] rfl)
      · rw [if_neg c7] at hf
        refine lv_iload hx hb dX0_notWoken_23 (lv_at hl 2 rfl) ?_
        refine lv_iconst (v := 1) hx hb dX0_notWoken_25 (by decide) ?_
        refine lv_iload hx hb dX0_notWoken_26 (lv_at hl 5 rfl) ?_
        refine lv_ishl hx hb dX0_notWoken_28 ?_
        refine lv_iand hx hb dX0_notWoken_29 ?_
        refine lv_if_eq (tgt := 60) hx hb dX0_notWoken_30 (by decide) (fun c8 => ?_) (fun c8 => ?_)
        · rw [if_pos c8] at hf
          exact J60 x1 x4 x5 x6 x7 _ _ _ hf hP hD hS (lv_sub hl [0, 1, 2, 3, 4, 5] rfl)
        · rw [if_neg c8] at hf
          refine lv_iload hx hb dX0_notWoken_33 (lv_at hl 3 rfl) ?_
          refine lv_aload_n hx hb dX0_notWoken_35 rfl (lv_at hl 0 rfl) ?_
          refine va_get (D := D) (cl := vwCl) (ci := 0) (v := .ref (h (o + 3))) (C := RX0) (T := TX0) (N := 9) hx hb hts hin0 hown hK hP 0 rfl rfl 0 (by decide) (hts (.fieldLink RX0 12 "StepOrders$AllOrders" "threads" "LStepOrders$State;") (by decide +kernel)) (fun _ h9 => h9) rfl dX0_notWoken_36 ?_
          refine lv_lload_n hx hb dX0_notWoken_39 rfl (lv_at hl 1 rfl) ?_
          refine lv_iload hx hb dX0_notWoken_40 (lv_at hl 5 rfl) ?_
          refine kb_bind hf (fun q9 hq9 hf => ?_)
          have hPc : va_P D vwCl (wdS cI h (o + 3) v_threads) H := hP.sub [3, 4, 5] rfl
          have hDc : va_D A (wdS cI h (o + 3) v_threads) := hD.sub [3, 4, 5] (by decide) rfl
          refine kd_iR (va_runV (As := [.long x1, .int x7]) (rest := [.int x5]) ⟨hx, hb, hml, hown, hts⟩ (c5_nextStep l D cB cI cZ cO h (o + 3) H.size x1 x7 v_threads q9 hq9) (cwV 2 hts gX0_notWoken_X5_nextStep rfl rfl rfl (by decide +kernel) ⟨Nat.le_of_ble_eq_true rfl, Nat.le_of_ble_eq_true rfl⟩) ⟨kb_blind, va_recv hK hPc (ci := 3) (q0 := 0) rfl rfl, kb_pre hPc hDc hK hN⟩ rfl rfl hl.1 rfl (lv_room (Nat.le_of_ble_eq_true rfl)) dX0_notWoken_42 ⟨Nat.le_refl _, Nat.le_refl _⟩) hP hD hS hA [3, 4, 5] rfl (fun H locs hn10 hP hS => ?_)
          have hPc : va_P D vwCl ([]) H := hP.sub [] rfl
          have hDc : va_D A ([]) := hD.sub [] (by decide) rfl
          refine kd_iR (va_runS (As := [.int x5, .int q9]) (rest := []) ⟨hx, hb, hml, hown, hts⟩ (c6_tied l D cB cI cZ cO h H.size x5 q9 (f6_tied x5 q9) rfl) (va_cwS 2 hts gX0_notWoken_X6_tied rfl rfl rfl (by decide +kernel) ⟨Nat.le_of_ble_eq_true rfl, Nat.le_of_ble_eq_true rfl⟩) ⟨kb_blind, kb_pre hPc hDc hK hN⟩ rfl rfl hl.1 rfl (lv_room (Nat.le_of_ble_eq_true rfl)) dX0_notWoken_45 ⟨Nat.le_refl _, Nat.le_refl _⟩) hP hD hS hA [] rfl (fun H locs hn11 hP hS => ?_)
          refine lv_if_ne (tgt := 60) hx hb dX0_notWoken_48 (by decide) (fun c12 => ?_) (fun c12 => ?_)
          · rw [if_neg c12] at hf
            exact J60 x1 x4 x5 x6 x7 _ _ _ hf hP hD hS (lv_sub hl [0, 1, 2, 3, 4, 5] rfl)
          · rw [if_pos c12] at hf
            refine lv_iload hx hb dX0_notWoken_51 (lv_at hl 4 rfl) ?_
            refine lv_iconst (v := 1) hx hb dX0_notWoken_53 (by decide) ?_
            refine lv_iload hx hb dX0_notWoken_54 (lv_at hl 5 rfl) ?_
            refine lv_ishl hx hb dX0_notWoken_56 ?_
            refine lv_ior hx hb dX0_notWoken_57 ?_
            refine lv_istore (lv' := [(6, .int (x6 ||| ((1 : Int32) <<< (x7 &&& 31)))), (0, .ref (h o)), (1, .long x1), (4, .int x4), (5, .int x5), (7, .int x7)]) hx hb dX0_notWoken_58 hl (by decide) rfl (fun ls hl => ?_)
            exact J60 x1 x4 x5 (x6 ||| ((1 : Int32) <<< (x7 &&& 31))) x7 _ _ _ hf hP hD hS (lv_sub hl [1, 2, 3, 4, 0, 5] rfl)
  rw [f0_notWoken] at hf
  refine lv_aload_n hx hb dX0_notWoken_0 rfl (lv_at hl 0 rfl) ?_
  refine va_get (D := D) (cl := vwCl) (ci := 0) (v := .ref (h (o + 3))) (C := RX0) (T := TX0) (N := 9) hx hb hts hin0 hown hK hP 0 rfl rfl 0 (by decide) (hts (.fieldLink RX0 12 "StepOrders$AllOrders" "threads" "LStepOrders$State;") (by decide +kernel)) (fun _ h9 => h9) rfl dX0_notWoken_1 ?_
  refine lv_lload_n hx hb dX0_notWoken_4 rfl (lv_at hl 1 rfl) ?_
  refine lv_iload_n hx hb dX0_notWoken_5 rfl (lv_at hl 2 rfl) ?_
  refine kb_bind hf (fun q13 hq13 hf => ?_)
  have hPc : va_P D vwCl (wdS cI h (o + 3) v_threads) H := hP.sub [3, 4, 5] rfl
  have hDc : va_D A (wdS cI h (o + 3) v_threads) := hD.sub [3, 4, 5] (by decide) rfl
  refine kd_iR (va_runV (As := [.long x1, .int x3]) (rest := []) ⟨hx, hb, hml, hown, hts⟩ (c5_nextStep l D cB cI cZ cO h (o + 3) H.size x1 x3 v_threads q13 hq13) (cwV 2 hts gX0_notWoken_X5_nextStep rfl rfl rfl (by decide +kernel) ⟨Nat.le_of_ble_eq_true rfl, Nat.le_of_ble_eq_true rfl⟩) ⟨kb_blind, va_recv hK hPc (ci := 3) (q0 := 0) rfl rfl, kb_pre hPc hDc hK hN⟩ rfl rfl hl.1 rfl (lv_room (Nat.le_of_ble_eq_true rfl)) dX0_notWoken_6 ⟨Nat.le_refl _, Nat.le_refl _⟩) hP hD hS hA [3, 4, 5] rfl (fun H locs hn14 hP hS => ?_)
  refine lv_istore (lv' := [(5, .int q13), (0, .ref (h o)), (1, .long x1), (3, .int x3), (4, .int x4)]) hx hb dX0_notWoken_9 hl (by decide) rfl (fun ls hl => ?_)
  refine lv_iconst (v := 0) hx hb dX0_notWoken_11 (by decide) ?_
  refine lv_istore (lv' := [(6, .int (0 : Int32)), (5, .int q13), (0, .ref (h o)), (1, .long x1), (3, .int x3), (4, .int x4)]) hx hb dX0_notWoken_12 hl (by decide) rfl (fun ls hl => ?_)
  refine lv_iconst (v := 0) hx hb dX0_notWoken_14 (by decide) ?_
  refine lv_istore (lv' := [(7, .int (0 : Int32)), (6, .int (0 : Int32)), (5, .int q13), (0, .ref (h o)), (1, .long x1), (3, .int x3), (4, .int x4)]) hx hb dX0_notWoken_15 hl (by decide) rfl (fun ls hl => ?_)
  exact J17 kFUEL x1 x4 q13 (0 : Int32) (0 : Int32) _ _ _ hf hP hD hS (lv_sub hl [3, 4, 6, 2, 1, 0] rfl)

set_option maxHeartbeats 4000000 in
set_option maxRecDepth 100000 in
theorem c0_keep (l : Launch) (D : va_G) (cB cI cZ cO : ClassId) (h : Nat → Nat) (o : Nat) (sz : Nat) (x1 : Int64) (x3 : Int32) (v_threads : sT) (v_rows : Nat → Int32) (v_ended : Nat → Int32) (v_known : Int32) (v_stepsInAll : Int32) (v_count : Int32) (v_standstills : Int32) (v_wrongOnes : Int32) (v_unlikeEnds : Int32) (v_rows' : Nat → Int32) (v_ended' : Nat → Int32) (v_count' : Int32) (v_standstills' : Int32) (v_wrongOnes' : Int32) (v_unlikeEnds' : Int32) (hf : f0_keep v_rows v_ended v_stepsInAll v_count v_standstills v_wrongOnes v_unlikeEnds x1 x3 = some (v_rows', v_ended', v_count', v_standstills', v_wrongOnes', v_unlikeEnds')) : Met l yX0_keep wsX0_keep rm0_keep (va_Pc [.ref (h o), .long x1, .int x3] (kb_B D (ka_tys cB cI cZ cO) sz (wdA cI cZ h o v_threads v_rows v_ended v_known v_stepsInAll v_count v_standstills v_wrongOnes v_unlikeEnds))) (va_Qv (fun (_ : Unit) => True) (fun _ t => va_P D vwCl (wdA cI cZ h o v_threads (v_rows') (v_ended') v_known v_stepsInAll (v_count') (v_standstills') (v_wrongOnes') (v_unlikeEnds')) t.heap) (va_A (wdA cI cZ h o v_threads v_rows v_ended v_known v_stepsInAll v_count v_standstills v_wrongOnes v_unlikeEnds) sz)) 0 0 (va_A (wdA cI cZ h o v_threads v_rows v_ended v_known v_stepsInAll v_count v_standstills v_wrongOnes v_unlikeEnds) sz) := by
  refine kb_metV (cc := cX0_keep) (maxL := 5) (by decide) rfl (Nat.le_of_ble_eq_true rfl) ?_
  intro p e s m args below meth c Q A ls H hx hb hml hown hts hK hN hP hD hS hA hl hend
  have hown : s.vm.findClass RX0 = some m.cls := hown
  have hl : lv_has ls 5 [(0, .ref (h o)), (1, .long x1), (3, .int x3)] := hl
  have hin0 : ∀ w ∈ u_ws RX0 TX0 9, w ∈ wsX0_keep := by decide +kernel
  have J68 : ∀ (v_rows : Nat → Int32) (v_ended : Nat → Int32) (v_count : Int32) (v_standstills : Int32) (v_wrongOnes : Int32) (v_unlikeEnds : Int32) (x1 : Int64) (H : Heap) (locs : List Loc) (ls : Array Slot), f0_keep_b68 v_rows v_ended v_stepsInAll v_count v_standstills v_wrongOnes v_unlikeEnds x1 = some (v_rows', v_ended', v_count', v_standstills', v_wrongOnes', v_unlikeEnds') → va_P D vwCl (wdA cI cZ h o v_threads v_rows v_ended v_known v_stepsInAll v_count v_standstills v_wrongOnes v_unlikeEnds) H → va_D A (wdA cI cZ h o v_threads v_rows v_ended v_known v_stepsInAll v_count v_standstills v_wrongOnes v_unlikeEnds) → va_S A s.heap H locs → lv_has ls 5 [(0, .ref (h o)), (1, .long x1)] → W p l e rm0_keep s m args below meth c H locs 0 0 Q (F0 m 68 ls []) := by
    intro v_rows v_ended v_count v_standstills v_wrongOnes v_unlikeEnds x1 H locs ls hf hP hD hS hl
    rw [f0_keep_b68] at hf
    refine lv_lload_n hx hb dX0_keep_68 rfl (lv_at hl 1 rfl) ?_
    refine kb_bind hf (fun q8 hq8 hf => ?_)
    have hPc : va_P D vwCl ([]) H := hP.sub [] rfl
    have hDc : va_D A ([]) := hD.sub [] (by decide) rfl
    refine kd_iR (va_runS (As := [.long x1]) (rest := []) ⟨hx, hb, hml, hown, hts⟩ (c2_ending l D cB cI cZ cO h H.size x1 q8 hq8) (va_cwS 1 hts gX0_keep_X2_ending rfl rfl rfl (by decide +kernel) ⟨Nat.le_of_ble_eq_true rfl, Nat.le_of_ble_eq_true rfl⟩) ⟨kb_blind, kb_pre hPc hDc hK hN⟩ rfl rfl hl.1 rfl (lv_room (Nat.le_of_ble_eq_true rfl)) dX0_keep_69 ⟨Nat.le_refl _, Nat.le_refl _⟩) hP hD hS hA [] rfl (fun H locs hn9 hP hS => ?_)
    refine lv_istore (lv' := [(4, .int q8), (0, .ref (h o)), (1, .long x1)]) hx hb dX0_keep_72 hl (by decide) rfl (fun ls hl => ?_)
    refine lv_iload hx hb dX0_keep_74 (lv_at hl 0 rfl) ?_
    refine lv_sipush (v := 10000) hx hb dX0_keep_76 (by decide) ?_
    have hPc : va_P D vwCl ([]) H := hP.sub [] rfl
    have hDc : va_D A ([]) := hD.sub [] (by decide) rfl
    refine kd_iR (va_runSN (As := [.int q8, .int (10000 : Int32)]) (rest := []) ⟨hx, hb, hml, hown, hts⟩ (c8_below l D cB cI cZ cO h H.size q8 (10000 : Int32) (f8_below q8 (10000 : Int32)) rfl) ⟨va_cnB 2 hts gX0_keep_X8_below_n40 rfl rfl rfl hN.1 (hts (.initialized RX8) (by decide +kernel)) (by decide +kernel) ⟨Nat.le_of_ble_eq_true rfl, Nat.le_of_ble_eq_true rfl⟩, hts (.static yX8_below) (by decide +kernel), trivial⟩ ⟨kb_blind, kb_pre hPc hDc hK hN⟩ rfl rfl hl.1 rfl (lv_room (Nat.le_of_ble_eq_true rfl)) dX0_keep_79 ⟨Nat.le_refl _, Nat.le_refl _⟩) hP hD hS hA [] rfl (fun H locs hn10 hP hS => ?_)
    refine lv_if_eq (tgt := 113) hx hb dX0_keep_82 (by decide) (fun c11 => ?_) (fun c11 => ?_)
    · rw [if_pos c11] at hf
      obtain ⟨z1, y1⟩ := Prod.mk.inj (Option.some.inj hf)
      obtain ⟨z2, y2⟩ := Prod.mk.inj y1
      obtain ⟨z3, y3⟩ := Prod.mk.inj y2
      obtain ⟨z4, y4⟩ := Prod.mk.inj y3
      obtain ⟨z5, y5⟩ := Prod.mk.inj y4
      subst z1 z2 z3 z4 z5 y5
      exact hend _ _ _ _ hP hS dX0_keep_113
    · rw [if_neg c11] at hf
      refine lv_aload_n hx hb dX0_keep_85 rfl (lv_at hl 1 rfl) ?_
      refine va_get (D := D) (cl := vwCl) (ci := 0) (v := .ref (h (o + 2))) (C := RX0) (T := TX0) (N := 9) hx hb hts hin0 hown hK hP 0 rfl rfl 2 (by decide) (hts (.fieldLink RX0 23 "StepOrders$AllOrders" "ended" "[Z") (by decide +kernel)) (fun _ h9 => h9) rfl dX0_keep_86 ?_
      refine lv_iload hx hb dX0_keep_89 (lv_at hl 0 rfl) ?_
      refine kb_bind hf (fun v12 hv12 hf => ?_)
      refine ka_zald (D := D) (cl := vwCl) hx hb hK hP 2 2 (f := v_ended) rfl rfl (ard_in hv12) (ard_v hv12) dX0_keep_91 ?_
      refine lv_if_ne (tgt := 113) hx hb dX0_keep_92 (by decide) (fun c13 => ?_) (fun c13 => ?_)
      · rw [if_neg c13] at hf
        obtain ⟨z1, y1⟩ := Prod.mk.inj (Option.some.inj hf)
        obtain ⟨z2, y2⟩ := Prod.mk.inj y1
        obtain ⟨z3, y3⟩ := Prod.mk.inj y2
        obtain ⟨z4, y4⟩ := Prod.mk.inj y3
        obtain ⟨z5, y5⟩ := Prod.mk.inj y4
        subst z1 z2 z3 z4 z5 y5
        exact hend _ _ _ _ hP hS dX0_keep_113
      · rw [if_pos c13] at hf
        refine lv_aload_n hx hb dX0_keep_95 rfl (lv_at hl 1 rfl) ?_
        refine va_get (D := D) (cl := vwCl) (ci := 0) (v := .ref (h (o + 2))) (C := RX0) (T := TX0) (N := 9) hx hb hts hin0 hown hK hP 0 rfl rfl 2 (by decide) (hts (.fieldLink RX0 23 "StepOrders$AllOrders" "ended" "[Z") (by decide +kernel)) (fun _ h9 => h9) rfl dX0_keep_96 ?_
        refine lv_iload hx hb dX0_keep_99 (lv_at hl 0 rfl) ?_
        refine lv_iconst (v := 1) hx hb dX0_keep_101 (by decide) ?_
        refine kb_bind hf (fun v14 hv14 hf => ?_)
        refine ka_zast (D := D) (cl := vwCl) hx hb hK hP hD hS 2 2 (f := v_ended) (g := v14) rfl rfl (awr_in hv14) (awr_v hv14) dX0_keep_102 (fun H locs hP hD hS => ?_)
        have hP : va_P D vwCl (wdA cI cZ h o v_threads v_rows v14 v_known v_stepsInAll v_count v_standstills v_wrongOnes v_unlikeEnds) H := hP
        have hD : va_D A (wdA cI cZ h o v_threads v_rows v14 v_known v_stepsInAll v_count v_standstills v_wrongOnes v_unlikeEnds) := hD
        refine lv_aload_n hx hb dX0_keep_103 rfl (lv_at hl 1 rfl) ?_
        refine lv_dup hx hb dX0_keep_104 rfl ?_
        refine va_get (D := D) (cl := vwCl) (ci := 0) (v := .int v_unlikeEnds) (C := RX0) (T := TX0) (N := 9) hx hb hts hin0 hown hK hP 0 rfl rfl 8 (by decide) (hts (.fieldLink RX0 37 "StepOrders$AllOrders" "unlikeEnds" "I") (by decide +kernel)) (fun _ h9 => h9) rfl dX0_keep_105 ?_
        refine lv_iconst (v := 1) hx hb dX0_keep_108 (by decide) ?_
        refine lv_iadd hx hb dX0_keep_109 ?_
        refine va_put (D := D) (cl := vwCl) (ci := 0) (v := .int (v_unlikeEnds + (1 : Int32))) (ty := .int) (C := RX0) (T := TX0) (N := 9) hx hb hts hin0 tyX0 tyX0_ok nmX0 hown hK hP hD hS 0 rfl rfl 8 (by decide) (hts (.fieldLink RX0 37 "StepOrders$AllOrders" "unlikeEnds" "I") (by decide +kernel)) (fun _ h9 => h9) rfl (tyX0_ok 8 (by decide)) rfl rfl (Nat.le_of_ble_eq_true rfl) dX0_keep_110 (fun H locs hP hD hS => ?_)
        have hP : va_P D vwCl (wdA cI cZ h o v_threads v_rows v14 v_known v_stepsInAll v_count v_standstills v_wrongOnes (v_unlikeEnds + (1 : Int32))) H := hP
        have hD : va_D A (wdA cI cZ h o v_threads v_rows v14 v_known v_stepsInAll v_count v_standstills v_wrongOnes (v_unlikeEnds + (1 : Int32))) := hD
        obtain ⟨z1, y1⟩ := Prod.mk.inj (Option.some.inj hf)
        obtain ⟨z2, y2⟩ := Prod.mk.inj y1
        obtain ⟨z3, y3⟩ := Prod.mk.inj y2
        obtain ⟨z4, y4⟩ := Prod.mk.inj y3
        obtain ⟨z5, y5⟩ := Prod.mk.inj y4
        subst z1 z2 z3 z4 z5 y5
        exact hend _ _ _ _ hP hS dX0_keep_113
  have J51 : ∀ (v_rows : Nat → Int32) (v_ended : Nat → Int32) (v_count : Int32) (v_standstills : Int32) (v_wrongOnes : Int32) (v_unlikeEnds : Int32) (x1 : Int64) (H : Heap) (locs : List Loc) (ls : Array Slot), f0_keep_b51 v_rows v_ended v_stepsInAll v_count v_standstills v_wrongOnes v_unlikeEnds x1 = some (v_rows', v_ended', v_count', v_standstills', v_wrongOnes', v_unlikeEnds') → va_P D vwCl (wdA cI cZ h o v_threads v_rows v_ended v_known v_stepsInAll v_count v_standstills v_wrongOnes v_unlikeEnds) H → va_D A (wdA cI cZ h o v_threads v_rows v_ended v_known v_stepsInAll v_count v_standstills v_wrongOnes v_unlikeEnds) → va_S A s.heap H locs → lv_has ls 5 [(0, .ref (h o)), (1, .long x1)] → W p l e rm0_keep s m args below meth c H locs 0 0 Q (F0 m 51 ls []) := by
    intro v_rows v_ended v_count v_standstills v_wrongOnes v_unlikeEnds x1 H locs ls hf hP hD hS hl
    rw [f0_keep_b51] at hf
    refine lv_lload_n hx hb dX0_keep_51 rfl (lv_at hl 1 rfl) ?_
    have hPc : va_P D vwCl ([]) H := hP.sub [] rfl
    have hDc : va_D A ([]) := hD.sub [] (by decide) rfl
    refine kd_iR (va_runS (As := [.long x1]) (rest := []) ⟨hx, hb, hml, hown, hts⟩ (c2_wrongOnes l D cB cI cZ cO h H.size x1 (f2_wrongOnes x1) rfl) (va_cwS 1 hts gX0_keep_X2_wrongOnes rfl rfl rfl (by decide +kernel) ⟨Nat.le_of_ble_eq_true rfl, Nat.le_of_ble_eq_true rfl⟩) ⟨kb_blind, kb_pre hPc hDc hK hN⟩ rfl rfl hl.1 rfl (lv_room (Nat.le_of_ble_eq_true rfl)) dX0_keep_52 ⟨Nat.le_refl _, Nat.le_refl _⟩) hP hD hS hA [] rfl (fun H locs hn17 hP hS => ?_)
    refine lv_if_le (tgt := 68) hx hb dX0_keep_55 (by decide) (fun c18 => ?_) (fun c18 => ?_)
    · rw [if_pos c18] at hf
      exact J68 v_rows v_ended v_count v_standstills v_wrongOnes v_unlikeEnds x1 _ _ _ hf hP hD hS (lv_sub hl [0, 1] rfl)
    · rw [if_neg c18] at hf
      refine lv_aload_n hx hb dX0_keep_58 rfl (lv_at hl 0 rfl) ?_
      refine lv_dup hx hb dX0_keep_59 rfl ?_
      refine va_get (D := D) (cl := vwCl) (ci := 0) (v := .int v_wrongOnes) (C := RX0) (T := TX0) (N := 9) hx hb hts hin0 hown hK hP 0 rfl rfl 7 (by decide) (hts (.fieldLink RX0 34 "StepOrders$AllOrders" "wrongOnes" "I") (by decide +kernel)) (fun _ h9 => h9) rfl dX0_keep_60 ?_
      refine lv_iconst (v := 1) hx hb dX0_keep_63 (by decide) ?_
      refine lv_iadd hx hb dX0_keep_64 ?_
      refine va_put (D := D) (cl := vwCl) (ci := 0) (v := .int (v_wrongOnes + (1 : Int32))) (ty := .int) (C := RX0) (T := TX0) (N := 9) hx hb hts hin0 tyX0 tyX0_ok nmX0 hown hK hP hD hS 0 rfl rfl 7 (by decide) (hts (.fieldLink RX0 34 "StepOrders$AllOrders" "wrongOnes" "I") (by decide +kernel)) (fun _ h9 => h9) rfl (tyX0_ok 7 (by decide)) rfl rfl (Nat.le_of_ble_eq_true rfl) dX0_keep_65 (fun H locs hP hD hS => ?_)
      have hP : va_P D vwCl (wdA cI cZ h o v_threads v_rows v_ended v_known v_stepsInAll v_count v_standstills (v_wrongOnes + (1 : Int32)) v_unlikeEnds) H := hP
      have hD : va_D A (wdA cI cZ h o v_threads v_rows v_ended v_known v_stepsInAll v_count v_standstills (v_wrongOnes + (1 : Int32)) v_unlikeEnds) := hD
      exact J68 v_rows v_ended v_count v_standstills (v_wrongOnes + (1 : Int32)) v_unlikeEnds x1 _ _ _ hf hP hD hS (lv_sub hl [0, 1] rfl)
  rw [f0_keep] at hf
  refine lv_aload_n hx hb dX0_keep_0 rfl (lv_at hl 0 rfl) ?_
  refine va_get (D := D) (cl := vwCl) (ci := 0) (v := .int v_count) (C := RX0) (T := TX0) (N := 9) hx hb hts hin0 hown hK hP 0 rfl rfl 5 (by decide) (hts (.fieldLink RX0 27 "StepOrders$AllOrders" "count" "I") (by decide +kernel)) (fun _ h9 => h9) rfl dX0_keep_1 ?_
  refine lv_ldc (v := 34650) hx hb hown (hts (.constant RX0 18 (34650)) (by decide +kernel)) dX0_keep_4 ?_
  refine lv_icmp_lt (tgt := 10) hx hb dX0_keep_6 (by decide) (fun c19 => ?_) (fun c19 => ?_)
  · rw [if_pos c19] at hf
    refine lv_aload_n hx hb dX0_keep_10 rfl (lv_at hl 0 rfl) ?_
    refine va_get (D := D) (cl := vwCl) (ci := 0) (v := .ref (h (o + 1))) (C := RX0) (T := TX0) (N := 9) hx hb hts hin0 hown hK hP 0 rfl rfl 1 (by decide) (hts (.fieldLink RX0 19 "StepOrders$AllOrders" "rows" "[I") (by decide +kernel)) (fun _ h9 => h9) rfl dX0_keep_11 ?_
    refine lv_aload_n hx hb dX0_keep_14 rfl (lv_at hl 0 rfl) ?_
    refine va_get (D := D) (cl := vwCl) (ci := 0) (v := .int v_count) (C := RX0) (T := TX0) (N := 9) hx hb hts hin0 hown hK hP 0 rfl rfl 5 (by decide) (hts (.fieldLink RX0 27 "StepOrders$AllOrders" "count" "I") (by decide +kernel)) (fun _ h9 => h9) rfl dX0_keep_15 ?_
    refine lv_iload_n hx hb dX0_keep_18 rfl (lv_at hl 2 rfl) ?_
    refine kb_bind hf (fun v20 hv20 hf => ?_)
    refine ka_iast (D := D) (cl := vwCl) hx hb hK hP hD hS 1 1 (f := v_rows) (g := v20) rfl rfl (awr_in hv20) (awr_v hv20) dX0_keep_19 (fun H locs hP hD hS => ?_)
    have hP : va_P D vwCl (wdA cI cZ h o v_threads v20 v_ended v_known v_stepsInAll v_count v_standstills v_wrongOnes v_unlikeEnds) H := hP
    have hD : va_D A (wdA cI cZ h o v_threads v20 v_ended v_known v_stepsInAll v_count v_standstills v_wrongOnes v_unlikeEnds) := hD
    refine lv_aload_n hx hb dX0_keep_20 rfl (lv_at hl 0 rfl) ?_
    refine lv_dup hx hb dX0_keep_21 rfl ?_
    refine va_get (D := D) (cl := vwCl) (ci := 0) (v := .int v_count) (C := RX0) (T := TX0) (N := 9) hx hb hts hin0 hown hK hP 0 rfl rfl 5 (by decide) (hts (.fieldLink RX0 27 "StepOrders$AllOrders" "count" "I") (by decide +kernel)) (fun _ h9 => h9) rfl dX0_keep_22 ?_
    refine lv_iconst (v := 1) hx hb dX0_keep_25 (by decide) ?_
    refine lv_iadd hx hb dX0_keep_26 ?_
    refine va_put (D := D) (cl := vwCl) (ci := 0) (v := .int (v_count + (1 : Int32))) (ty := .int) (C := RX0) (T := TX0) (N := 9) hx hb hts hin0 tyX0 tyX0_ok nmX0 hown hK hP hD hS 0 rfl rfl 5 (by decide) (hts (.fieldLink RX0 27 "StepOrders$AllOrders" "count" "I") (by decide +kernel)) (fun _ h9 => h9) rfl (tyX0_ok 5 (by decide)) rfl rfl (Nat.le_of_ble_eq_true rfl) dX0_keep_27 (fun H locs hP hD hS => ?_)
    have hP : va_P D vwCl (wdA cI cZ h o v_threads v20 v_ended v_known v_stepsInAll (v_count + (1 : Int32)) v_standstills v_wrongOnes v_unlikeEnds) H := hP
    have hD : va_D A (wdA cI cZ h o v_threads v20 v_ended v_known v_stepsInAll (v_count + (1 : Int32)) v_standstills v_wrongOnes v_unlikeEnds) := hD
    refine lv_iload_n hx hb dX0_keep_30 rfl (lv_at hl 2 rfl) ?_
    have hPc : va_P D vwCl ([]) H := hP.sub [] rfl
    have hDc : va_D A ([]) := hD.sub [] (by decide) rfl
    refine kd_iR (va_runS (As := [.int x3]) (rest := []) ⟨hx, hb, hml, hown, hts⟩ (c4_length l D cB cI cZ cO h H.size x3 (f4_length x3) rfl) (va_cwS 1 hts gX0_keep_X4_length rfl rfl rfl (by decide +kernel) ⟨Nat.le_of_ble_eq_true rfl, Nat.le_of_ble_eq_true rfl⟩) ⟨kb_blind, kb_pre hPc hDc hK hN⟩ rfl rfl hl.1 rfl (lv_room (Nat.le_of_ble_eq_true rfl)) dX0_keep_31 ⟨Nat.le_refl _, Nat.le_refl _⟩) hP hD hS hA [] rfl (fun H locs hn21 hP hS => ?_)
    refine lv_aload_n hx hb dX0_keep_34 rfl (lv_at hl 0 rfl) ?_
    refine va_get (D := D) (cl := vwCl) (ci := 0) (v := .int v_stepsInAll) (C := RX0) (T := TX0) (N := 9) hx hb hts hin0 hown hK hP 0 rfl rfl 4 (by decide) (hts (.fieldLink RX0 60 "StepOrders$AllOrders" "stepsInAll" "I") (by decide +kernel)) (fun _ h9 => h9) rfl dX0_keep_35 ?_
    refine lv_icmp_ge (tgt := 51) hx hb dX0_keep_38 (by decide) (fun c22 => ?_) (fun c22 => ?_)
    · rw [if_pos c22] at hf
      exact J51 v20 v_ended (v_count + (1 : Int32)) v_standstills v_wrongOnes v_unlikeEnds x1 _ _ _ hf hP hD hS (lv_sub hl [0, 1] rfl)
    · rw [if_neg c22] at hf
      refine lv_aload_n hx hb dX0_keep_41 rfl (lv_at hl 0 rfl) ?_
      refine lv_dup hx hb dX0_keep_42 rfl ?_
      refine va_get (D := D) (cl := vwCl) (ci := 0) (v := .int v_standstills) (C := RX0) (T := TX0) (N := 9) hx hb hts hin0 hown hK hP 0 rfl rfl 6 (by decide) (hts (.fieldLink RX0 31 "StepOrders$AllOrders" "standstills" "I") (by decide +kernel)) (fun _ h9 => h9) rfl dX0_keep_43 ?_
      refine lv_iconst (v := 1) hx hb dX0_keep_46 (by decide) ?_
      refine lv_iadd hx hb dX0_keep_47 ?_
      refine va_put (D := D) (cl := vwCl) (ci := 0) (v := .int (v_standstills + (1 : Int32))) (ty := .int) (C := RX0) (T := TX0) (N := 9) hx hb hts hin0 tyX0 tyX0_ok nmX0 hown hK hP hD hS 0 rfl rfl 6 (by decide) (hts (.fieldLink RX0 31 "StepOrders$AllOrders" "standstills" "I") (by decide +kernel)) (fun _ h9 => h9) rfl (tyX0_ok 6 (by decide)) rfl rfl (Nat.le_of_ble_eq_true rfl) dX0_keep_48 (fun H locs hP hD hS => ?_)
      have hP : va_P D vwCl (wdA cI cZ h o v_threads v20 v_ended v_known v_stepsInAll (v_count + (1 : Int32)) (v_standstills + (1 : Int32)) v_wrongOnes v_unlikeEnds) H := hP
      have hD : va_D A (wdA cI cZ h o v_threads v20 v_ended v_known v_stepsInAll (v_count + (1 : Int32)) (v_standstills + (1 : Int32)) v_wrongOnes v_unlikeEnds) := hD
      exact J51 v20 v_ended (v_count + (1 : Int32)) (v_standstills + (1 : Int32)) v_wrongOnes v_unlikeEnds x1 _ _ _ hf hP hD hS (lv_sub hl [0, 1] rfl)
  · rw [if_neg c19] at hf
    obtain ⟨z1, y1⟩ := Prod.mk.inj (Option.some.inj hf)
    obtain ⟨z2, y2⟩ := Prod.mk.inj y1
    obtain ⟨z3, y3⟩ := Prod.mk.inj y2
    obtain ⟨z4, y4⟩ := Prod.mk.inj y3
    obtain ⟨z5, y5⟩ := Prod.mk.inj y4
    subst z1 z2 z3 z4 z5 y5
    exact hend _ _ _ _ hP hS dX0_keep_9

set_option maxHeartbeats 4000000 in
set_option maxRecDepth 100000 in
theorem c0_goOn (l : Launch) (D : va_G) (cB cI cZ cO : ClassId) : ∀ (nR : Nat) (h : Nat → Nat) (o : Nat) (sz : Nat) (x1 : Int64) (x3 : Int32) (x4 : Int32) (v_threads : sT) (v_rows : Nat → Int32) (v_ended : Nat → Int32) (v_known : Int32) (v_stepsInAll : Int32) (v_count : Int32) (v_standstills : Int32) (v_wrongOnes : Int32) (v_unlikeEnds : Int32) (v_rows' : Nat → Int32) (v_ended' : Nat → Int32) (v_count' : Int32) (v_standstills' : Int32) (v_wrongOnes' : Int32) (v_unlikeEnds' : Int32) (hf : f0_goOn nR v_threads v_rows v_ended v_stepsInAll v_count v_standstills v_wrongOnes v_unlikeEnds x1 x3 x4 = some (v_rows', v_ended', v_count', v_standstills', v_wrongOnes', v_unlikeEnds')), Met l yX0_goOn wsX0_goOn (rm0_goOn nR) (va_Pc [.ref (h o), .long x1, .int x3, .int x4] (kb_B D (ka_tys cB cI cZ cO) sz (wdA cI cZ h o v_threads v_rows v_ended v_known v_stepsInAll v_count v_standstills v_wrongOnes v_unlikeEnds))) (va_Qv (fun (_ : Unit) => True) (fun _ t => va_P D vwCl (wdA cI cZ h o v_threads (v_rows') (v_ended') v_known v_stepsInAll (v_count') (v_standstills') (v_wrongOnes') (v_unlikeEnds')) t.heap) (va_A (wdA cI cZ h o v_threads v_rows v_ended v_known v_stepsInAll v_count v_standstills v_wrongOnes v_unlikeEnds) sz)) 0 0 (va_A (wdA cI cZ h o v_threads v_rows v_ended v_known v_stepsInAll v_count v_standstills v_wrongOnes v_unlikeEnds) sz) := by
  intro nR
  induction nR with
  | zero =>
    intro h o sz x1 x3 x4 v_threads v_rows v_ended v_known v_stepsInAll v_count v_standstills v_wrongOnes v_unlikeEnds v_rows' v_ended' v_count' v_standstills' v_wrongOnes' v_unlikeEnds' hf
    cases (show (none : Option ((Nat → Int32) × (Nat → Int32) × Int32 × Int32 × Int32 × Int32)) = some (v_rows', v_ended', v_count', v_standstills', v_wrongOnes', v_unlikeEnds') from hf)
  | succ nR ihR =>
  intro h o sz x1 x3 x4 v_threads v_rows v_ended v_known v_stepsInAll v_count v_standstills v_wrongOnes v_unlikeEnds v_rows' v_ended' v_count' v_standstills' v_wrongOnes' v_unlikeEnds' hf
  refine kb_metV (cc := cX0_goOn) (maxL := 10) (by decide) rfl (Nat.le_of_ble_eq_true rfl) ?_
  intro p e s m args below meth c Q A ls H hx hb hml hown hts hK hN hP hD hS hA hl hend
  have hown : s.vm.findClass RX0 = some m.cls := hown
  have hl : lv_has ls 10 [(0, .ref (h o)), (1, .long x1), (3, .int x3), (4, .int x4)] := hl
  have hin0 : ∀ w ∈ u_ws RX0 TX0 9, w ∈ wsX0_goOn := by decide +kernel
  have J24 : ∀ (v_rows : Nat → Int32) (v_ended : Nat → Int32) (v_count : Int32) (v_standstills : Int32) (v_wrongOnes : Int32) (v_unlikeEnds : Int32) (x1 : Int64) (x3 : Int32) (H : Heap) (locs : List Loc) (ls : Array Slot), f0_goOn_b24 (f0_goOn nR) v_threads v_rows v_ended v_stepsInAll v_count v_standstills v_wrongOnes v_unlikeEnds x1 x3 = some (v_rows', v_ended', v_count', v_standstills', v_wrongOnes', v_unlikeEnds') → va_P D vwCl (wdA cI cZ h o v_threads v_rows v_ended v_known v_stepsInAll v_count v_standstills v_wrongOnes v_unlikeEnds) H → va_D A (wdA cI cZ h o v_threads v_rows v_ended v_known v_stepsInAll v_count v_standstills v_wrongOnes v_unlikeEnds) → va_S A s.heap H locs → lv_has ls 10 [(0, .ref (h o)), (1, .long x1), (3, .int x3)] → W p l e (rm0_goOn (nR + 1)) s m args below meth c H locs 0 0 Q (F0 m 24 ls []) := by
    intro v_rows v_ended v_count v_standstills v_wrongOnes v_unlikeEnds x1 x3 H locs ls hf hP hD hS hl
    rw [f0_goOn_b24] at hf
    refine lv_aload_n hx hb dX0_goOn_24 rfl (lv_at hl 0 rfl) ?_
    refine lv_lload_n hx hb dX0_goOn_25 rfl (lv_at hl 1 rfl) ?_
    refine lv_iload_n hx hb dX0_goOn_26 rfl (lv_at hl 2 rfl) ?_
    refine kb_bind hf (fun q2 hq2 hf => ?_)
    have hPc : va_P D vwCl (wdA cI cZ h o v_threads v_rows v_ended v_known v_stepsInAll v_count v_standstills v_wrongOnes v_unlikeEnds) H := hP.sub [0, 1, 2, 3, 4, 5] rfl
    have hDc : va_D A (wdA cI cZ h o v_threads v_rows v_ended v_known v_stepsInAll v_count v_standstills v_wrongOnes v_unlikeEnds) := hD.sub [0, 1, 2, 3, 4, 5] (by decide) rfl
    refine kd_vW (ws' := wdA cI cZ h o v_threads q2.1 q2.2.1 v_known v_stepsInAll q2.2.2.1 q2.2.2.2.1 q2.2.2.2.2.1 q2.2.2.2.2.2) (va_runV (As := [.long x1, .int x3]) (rest := []) ⟨hx, hb, hml, hown, hts⟩ (c0_keep l D cB cI cZ cO h o H.size x1 x3 v_threads v_rows v_ended v_known v_stepsInAll v_count v_standstills v_wrongOnes v_unlikeEnds q2.1 q2.2.1 q2.2.2.1 q2.2.2.2.1 q2.2.2.2.2.1 q2.2.2.2.2.2 hq2) (cwV 2 hts gX0_goOn_X0_keep rfl rfl rfl (by decide +kernel) ⟨by simp only [rm0_goOn, rm0_keep]; omega, by simp only [rm0_goOn, rm0_keep]; omega⟩) ⟨kb_blind, va_recv hK hPc (ci := 0) (q0 := 0) rfl rfl, kb_pre hPc hDc hK hN⟩ rfl rfl hl.1 rfl (lv_room (Nat.le_of_ble_eq_true rfl)) dX0_goOn_27 ⟨Nat.le_refl _, Nat.le_refl _⟩) hP hD hS hA [0, 1, 2, 3, 4, 5] [] rfl rfl (fun _ h9 => absurd h9 List.not_mem_nil) rfl rfl (fun H locs hP hD hS => ?_)
    obtain ⟨z1, y1⟩ := Prod.mk.inj (Option.some.inj hf)
    obtain ⟨z2, y2⟩ := Prod.mk.inj y1
    obtain ⟨z3, y3⟩ := Prod.mk.inj y2
    obtain ⟨z4, y4⟩ := Prod.mk.inj y3
    obtain ⟨z5, y5⟩ := Prod.mk.inj y4
    subst z1 z2 z3 z4 z5 y5
    exact hend _ _ _ _ hP hS dX0_goOn_30
  have J38 : ∀ (n : Nat) (v_rows : Nat → Int32) (v_ended : Nat → Int32) (v_count : Int32) (v_standstills : Int32) (v_wrongOnes : Int32) (v_unlikeEnds : Int32) (x1 : Int64) (x3 : Int32) (x5 : Int32) (x6 : Int32) (x7 : Int32) (H : Heap) (locs : List Loc) (ls : Array Slot), f0_goOn_l38 (f0_goOn nR) n v_threads v_rows v_ended v_stepsInAll v_count v_standstills v_wrongOnes v_unlikeEnds x1 x3 x5 x6 x7 = some (v_rows', v_ended', v_count', v_standstills', v_wrongOnes', v_unlikeEnds') → va_P D vwCl (wdA cI cZ h o v_threads v_rows v_ended v_known v_stepsInAll v_count v_standstills v_wrongOnes v_unlikeEnds) H → va_D A (wdA cI cZ h o v_threads v_rows v_ended v_known v_stepsInAll v_count v_standstills v_wrongOnes v_unlikeEnds) → va_S A s.heap H locs → lv_has ls 10 [(0, .ref (h o)), (1, .long x1), (3, .int x3), (5, .int x5), (6, .int x6), (7, .int x7)] → W p l e (rm0_goOn (nR + 1)) s m args below meth c H locs 0 0 Q (F0 m 38 ls []) := by
    intro n
    induction n with
    | zero =>
      intro v_rows v_ended v_count v_standstills v_wrongOnes v_unlikeEnds x1 x3 x5 x6 x7 H locs ls hf
      cases (show (none : Option ((Nat → Int32) × (Nat → Int32) × Int32 × Int32 × Int32 × Int32)) = some (v_rows', v_ended', v_count', v_standstills', v_wrongOnes', v_unlikeEnds') from hf)
    | succ n ih =>
      have J109 : ∀ (v_rows : Nat → Int32) (v_ended : Nat → Int32) (v_count : Int32) (v_standstills : Int32) (v_wrongOnes : Int32) (v_unlikeEnds : Int32) (x1 : Int64) (x3 : Int32) (x5 : Int32) (x6 : Int32) (x7 : Int32) (H : Heap) (locs : List Loc) (ls : Array Slot), f0_goOn_b109 (f0_goOn nR) (f0_goOn_l38 (f0_goOn nR) n) v_threads v_rows v_ended v_stepsInAll v_count v_standstills v_wrongOnes v_unlikeEnds x1 x3 x5 x6 x7 = some (v_rows', v_ended', v_count', v_standstills', v_wrongOnes', v_unlikeEnds') → va_P D vwCl (wdA cI cZ h o v_threads v_rows v_ended v_known v_stepsInAll v_count v_standstills v_wrongOnes v_unlikeEnds) H → va_D A (wdA cI cZ h o v_threads v_rows v_ended v_known v_stepsInAll v_count v_standstills v_wrongOnes v_unlikeEnds) → va_S A s.heap H locs → lv_has ls 10 [(0, .ref (h o)), (1, .long x1), (3, .int x3), (5, .int x5), (6, .int x6), (7, .int x7)] → W p l e (rm0_goOn (nR + 1)) s m args below meth c H locs 0 0 Q (F0 m 109 ls []) := by
        intro v_rows v_ended v_count v_standstills v_wrongOnes v_unlikeEnds x1 x3 x5 x6 x7 H locs ls hf hP hD hS hl
        rw [f0_goOn_b109] at hf
        refine lv_iinc (v := (x7 + 1)) (lv' := [(7, .int (x7 + 1)), (0, .ref (h o)), (1, .long x1), (3, .int x3), (5, .int x5), (6, .int x6)]) hx hb dX0_goOn_109 hl (k := 5) rfl rfl (by decide) rfl (fun ls hl => ?_)
        refine lv_goto (tgt := 38) hx hb dX0_goOn_112 (by decide) ?_
        exact ih v_rows v_ended v_count v_standstills v_wrongOnes v_unlikeEnds x1 x3 x5 x6 (x7 + 1) _ _ _ hf hP hD hS (lv_sub hl [1, 2, 3, 4, 5, 0] rfl)
      intro v_rows v_ended v_count v_standstills v_wrongOnes v_unlikeEnds x1 x3 x5 x6 x7 H locs ls hf hP hD hS hl
      rw [f0_goOn_l38_s] at hf
      refine lv_iload hx hb dX0_goOn_38 (lv_at hl 5 rfl) ?_
      refine lv_iconst (v := 3) hx hb dX0_goOn_40 (by decide) ?_
      refine lv_icmp_ge (tgt := 115) hx hb dX0_goOn_41 (by decide) (fun c11 => ?_) (fun c11 => ?_)
      · rw [if_pos c11] at hf
        obtain ⟨z1, y1⟩ := Prod.mk.inj (Option.some.inj hf)
        obtain ⟨z2, y2⟩ := Prod.mk.inj y1
        obtain ⟨z3, y3⟩ := Prod.mk.inj y2
        obtain ⟨z4, y4⟩ := Prod.mk.inj y3
        obtain ⟨z5, y5⟩ := Prod.mk.inj y4
        subst z1 z2 z3 z4 z5 y5
        exact hend _ _ _ _ hP hS dX0_goOn_115
      · rw [if_neg c11] at hf
        refine lv_iload hx hb dX0_goOn_44 (lv_at hl 3 rfl) ?_
        refine lv_iload hx hb dX0_goOn_46 (lv_at hl 4 rfl) ?_
        refine lv_iconst (v := (-1)) hx hb dX0_goOn_48 (by decide) ?_
        refine lv_ixor hx hb dX0_goOn_49 ?_
        refine lv_iand hx hb dX0_goOn_50 ?_
        refine lv_iconst (v := 1) hx hb dX0_goOn_51 (by decide) ?_
        refine lv_iload hx hb dX0_goOn_52 (lv_at hl 5 rfl) ?_
        refine lv_ishl hx hb dX0_goOn_54 ?_
        refine lv_iand hx hb dX0_goOn_55 ?_
        refine lv_if_eq (tgt := 109) hx hb dX0_goOn_56 (by decide) (fun c12 => ?_) (fun c12 => ?_)
        · rw [if_pos c12] at hf
          exact J109 v_rows v_ended v_count v_standstills v_wrongOnes v_unlikeEnds x1 x3 x5 x6 x7 _ _ _ hf hP hD hS (lv_sub hl [0, 1, 2, 3, 4, 5] rfl)
        · rw [if_neg c12] at hf
          refine lv_iload_n hx hb dX0_goOn_59 rfl (lv_at hl 2 rfl) ?_
          refine lv_iload_n hx hb dX0_goOn_60 rfl (lv_at hl 2 rfl) ?_
          have hPc : va_P D vwCl ([]) H := hP.sub [] rfl
          have hDc : va_D A ([]) := hD.sub [] (by decide) rfl
          refine kd_iR (va_runS (As := [.int x3]) (rest := [.int x3]) ⟨hx, hb, hml, hown, hts⟩ (c4_length l D cB cI cZ cO h H.size x3 (f4_length x3) rfl) (va_cwS 1 hts gX0_goOn_X4_length rfl rfl rfl (by decide +kernel) ⟨by simp only [rm0_goOn, rm4_length]; omega, by simp only [rm0_goOn, rm4_length]; omega⟩) ⟨kb_blind, kb_pre hPc hDc hK hN⟩ rfl rfl hl.1 rfl (lv_room (Nat.le_of_ble_eq_true rfl)) dX0_goOn_61 ⟨Nat.le_refl _, Nat.le_refl _⟩) hP hD hS hA [] rfl (fun H locs hn13 hP hS => ?_)
          refine lv_iload hx hb dX0_goOn_64 (lv_at hl 5 rfl) ?_
          have hPc : va_P D vwCl ([]) H := hP.sub [] rfl
          have hDc : va_D A ([]) := hD.sub [] (by decide) rfl
          refine kd_iR (va_runS (As := [.int x3, .int (f4_length x3), .int x7]) (rest := []) ⟨hx, hb, hml, hown, hts⟩ (c4_withThreadAt l D cB cI cZ cO h H.size x3 (f4_length x3) x7 (f4_withThreadAt x3 (f4_length x3) x7) rfl) (va_cwS 3 hts gX0_goOn_X4_withThreadAt rfl rfl rfl (by decide +kernel) ⟨by simp only [rm0_goOn, rm4_withThreadAt]; omega, by simp only [rm0_goOn, rm4_withThreadAt]; omega⟩) ⟨kb_blind, kb_pre hPc hDc hK hN⟩ rfl rfl hl.1 rfl (lv_room (Nat.le_of_ble_eq_true rfl)) dX0_goOn_66 ⟨Nat.le_refl _, Nat.le_refl _⟩) hP hD hS hA [] rfl (fun H locs hn14 hP hS => ?_)
          refine lv_istore (lv' := [(8, .int (f4_withThreadAt x3 (f4_length x3) x7)), (0, .ref (h o)), (1, .long x1), (3, .int x3), (5, .int x5), (6, .int x6), (7, .int x7)]) hx hb dX0_goOn_69 hl (by decide) rfl (fun ls hl => ?_)
          refine lv_aload_n hx hb dX0_goOn_71 rfl (lv_at hl 1 rfl) ?_
          refine lv_lload_n hx hb dX0_goOn_72 rfl (lv_at hl 2 rfl) ?_
          refine lv_iload hx hb dX0_goOn_73 (lv_at hl 6 rfl) ?_
          refine lv_iload hx hb dX0_goOn_75 (lv_at hl 5 rfl) ?_
          refine kb_bind hf (fun q15 hq15 hf => ?_)
          have hPc : va_P D vwCl (wdA cI cZ h o v_threads v_rows v_ended v_known v_stepsInAll v_count v_standstills v_wrongOnes v_unlikeEnds) H := hP.sub [0, 1, 2, 3, 4, 5] rfl
          have hDc : va_D A (wdA cI cZ h o v_threads v_rows v_ended v_known v_stepsInAll v_count v_standstills v_wrongOnes v_unlikeEnds) := hD.sub [0, 1, 2, 3, 4, 5] (by decide) rfl
          refine kd_iR (va_runV (As := [.long x1, .int x7, .int x6]) (rest := []) ⟨hx, hb, hml, hown, hts⟩ (c0_notWoken l D cB cI cZ cO h o H.size x1 x7 x6 v_threads v_rows v_ended v_known v_stepsInAll v_count v_standstills v_wrongOnes v_unlikeEnds q15 hq15) (cwV 3 hts gX0_goOn_X0_notWoken rfl rfl rfl (by decide +kernel) ⟨by simp only [rm0_goOn, rm0_notWoken]; omega, by simp only [rm0_goOn, rm0_notWoken]; omega⟩) ⟨kb_blind, va_recv hK hPc (ci := 0) (q0 := 0) rfl rfl, kb_pre hPc hDc hK hN⟩ rfl rfl hl.1 rfl (lv_room (Nat.le_of_ble_eq_true rfl)) dX0_goOn_77 ⟨Nat.le_refl _, Nat.le_refl _⟩) hP hD hS hA [0, 1, 2, 3, 4, 5] rfl (fun H locs hn16 hP hS => ?_)
          refine lv_istore (lv' := [(9, .int q15), (8, .int (f4_withThreadAt x3 (f4_length x3) x7)), (0, .ref (h o)), (1, .long x1), (3, .int x3), (5, .int x5), (6, .int x6), (7, .int x7)]) hx hb dX0_goOn_80 hl (by decide) rfl (fun ls hl => ?_)
          refine lv_aload_n hx hb dX0_goOn_82 rfl (lv_at hl 2 rfl) ?_
          refine lv_aload_n hx hb dX0_goOn_83 rfl (lv_at hl 2 rfl) ?_
          refine va_get (D := D) (cl := vwCl) (ci := 0) (v := .ref (h (o + 3))) (C := RX0) (T := TX0) (N := 9) hx hb hts hin0 hown hK hP 0 rfl rfl 0 (by decide) (hts (.fieldLink RX0 12 "StepOrders$AllOrders" "threads" "LStepOrders$State;") (by decide +kernel)) (fun _ h9 => h9) rfl dX0_goOn_84 ?_
          refine lv_lload_n hx hb dX0_goOn_87 rfl (lv_at hl 3 rfl) ?_
          refine lv_iload hx hb dX0_goOn_88 (lv_at hl 7 rfl) ?_
          refine kb_bind hf (fun q17 hq17 hf => ?_)
          have hPc : va_P D vwCl (wdS cI h (o + 3) v_threads) H := hP.sub [3, 4, 5] rfl
          have hDc : va_D A (wdS cI h (o + 3) v_threads) := hD.sub [3, 4, 5] (by decide) rfl
          refine kd_lR (va_runV (As := [.long x1, .int x7]) (rest := [.ref (h o)]) ⟨hx, hb, hml, hown, hts⟩ (c5_stepDone l D cB cI cZ cO h (o + 3) H.size x1 x7 v_threads q17 hq17) (cwV 2 hts gX0_goOn_X5_stepDone rfl rfl rfl (by decide +kernel) ⟨by simp only [rm0_goOn, rm5_stepDone]; omega, by simp only [rm0_goOn, rm5_stepDone]; omega⟩) ⟨kb_blind, va_recv hK hPc (ci := 3) (q0 := 0) rfl rfl, kb_pre hPc hDc hK hN⟩ rfl rfl hl.1 rfl (lv_room (Nat.le_of_ble_eq_true rfl)) dX0_goOn_90 ⟨Nat.le_refl _, Nat.le_refl _⟩) hP hD hS hA [3, 4, 5] rfl (fun H locs hP hS => ?_)
          refine lv_iload hx hb dX0_goOn_93 (lv_at hl 1 rfl) ?_
          refine lv_iload hx hb dX0_goOn_95 (lv_at hl 0 rfl) ?_
          refine kb_bind hf (fun q18 hq18 hf => ?_)
          have hPc : va_P D vwCl (wdA cI cZ h o v_threads v_rows v_ended v_known v_stepsInAll v_count v_standstills v_wrongOnes v_unlikeEnds) H := hP.sub [0, 1, 2, 3, 4, 5] rfl
          have hDc : va_D A (wdA cI cZ h o v_threads v_rows v_ended v_known v_stepsInAll v_count v_standstills v_wrongOnes v_unlikeEnds) := hD.sub [0, 1, 2, 3, 4, 5] (by decide) rfl
          refine kd_vW (ws' := wdA cI cZ h o v_threads q18.1 q18.2.1 v_known v_stepsInAll q18.2.2.1 q18.2.2.2.1 q18.2.2.2.2.1 q18.2.2.2.2.2) (va_runS (As := [.ref (h o), .long q17, .int (f4_withThreadAt x3 (f4_length x3) x7), .int q15]) (rest := []) ⟨hx, hb, hml, hown, hts⟩ (ihR h o H.size q17 (f4_withThreadAt x3 (f4_length x3) x7) q15 v_threads v_rows v_ended v_known v_stepsInAll v_count v_standstills v_wrongOnes v_unlikeEnds q18.1 q18.2.1 q18.2.2.1 q18.2.2.2.1 q18.2.2.2.2.1 q18.2.2.2.2.2 hq18) (va_cwS 4 hts gX0_goOn_X0_goOn rfl rfl rfl (by decide +kernel) ⟨by simp only [rm0_goOn, rm0_goOn]; omega, by simp only [rm0_goOn, rm0_goOn]; omega⟩) ⟨kb_blind, kb_pre hPc hDc hK hN⟩ rfl rfl hl.1 rfl (lv_room (Nat.le_of_ble_eq_true rfl)) dX0_goOn_97 ⟨Nat.le_refl _, Nat.le_refl _⟩) hP hD hS hA [0, 1, 2, 3, 4, 5] [] rfl rfl (fun _ h9 => absurd h9 List.not_mem_nil) rfl rfl (fun H locs hP hD hS => ?_)
          refine lv_iload hx hb dX0_goOn_100 (lv_at hl 6 rfl) ?_
          refine lv_iconst (v := 1) hx hb dX0_goOn_102 (by decide) ?_
          refine lv_iload hx hb dX0_goOn_103 (lv_at hl 7 rfl) ?_
          refine lv_ishl hx hb dX0_goOn_105 ?_
          refine lv_ior hx hb dX0_goOn_106 ?_
          refine lv_istore (lv' := [(6, .int (x6 ||| ((1 : Int32) <<< (x7 &&& 31)))), (9, .int q15), (8, .int (f4_withThreadAt x3 (f4_length x3) x7)), (0, .ref (h o)), (1, .long x1), (3, .int x3), (5, .int x5), (7, .int x7)]) hx hb dX0_goOn_107 hl (by decide) rfl (fun ls hl => ?_)
          exact J109 q18.1 q18.2.1 q18.2.2.1 q18.2.2.2.1 q18.2.2.2.2.1 q18.2.2.2.2.2 x1 x3 x5 (x6 ||| ((1 : Int32) <<< (x7 &&& 31))) x7 _ _ _ hf hP hD hS (lv_sub hl [3, 4, 5, 6, 0, 7] rfl)
  rw [f0_goOn_s] at hf
  refine lv_aload_n hx hb dX0_goOn_0 rfl (lv_at hl 0 rfl) ?_
  refine va_get (D := D) (cl := vwCl) (ci := 0) (v := .ref (h (o + 3))) (C := RX0) (T := TX0) (N := 9) hx hb hts hin0 hown hK hP 0 rfl rfl 0 (by decide) (hts (.fieldLink RX0 12 "StepOrders$AllOrders" "threads" "LStepOrders$State;") (by decide +kernel)) (fun _ h9 => h9) rfl dX0_goOn_1 ?_
  refine lv_lload_n hx hb dX0_goOn_4 rfl (lv_at hl 1 rfl) ?_
  refine kb_bind hf (fun q19 hq19 hf => ?_)
  have hPc : va_P D vwCl (wdS cI h (o + 3) v_threads) H := hP.sub [3, 4, 5] rfl
  have hDc : va_D A (wdS cI h (o + 3) v_threads) := hD.sub [3, 4, 5] (by decide) rfl
  refine kd_iR (va_runV (As := [.long x1]) (rest := []) ⟨hx, hb, hml, hown, hts⟩ (c5_ableBits l D cB cI cZ cO h (o + 3) H.size x1 v_threads q19 hq19) (cwV 1 hts gX0_goOn_X5_ableBits rfl rfl rfl (by decide +kernel) ⟨by simp only [rm0_goOn, rm5_ableBits]; omega, by simp only [rm0_goOn, rm5_ableBits]; omega⟩) ⟨kb_blind, va_recv hK hPc (ci := 3) (q0 := 0) rfl rfl, kb_pre hPc hDc hK hN⟩ rfl rfl hl.1 rfl (lv_room (Nat.le_of_ble_eq_true rfl)) dX0_goOn_5 ⟨Nat.le_refl _, Nat.le_refl _⟩) hP hD hS hA [3, 4, 5] rfl (fun H locs hn20 hP hS => ?_)
  refine lv_istore (lv' := [(5, .int q19), (0, .ref (h o)), (1, .long x1), (3, .int x3), (4, .int x4)]) hx hb dX0_goOn_8 hl (by decide) rfl (fun ls hl => ?_)
  refine lv_iload hx hb dX0_goOn_10 (lv_at hl 0 rfl) ?_
  refine lv_if_eq (tgt := 24) hx hb dX0_goOn_12 (by decide) (fun c21 => ?_) (fun c21 => ?_)
  · rw [if_pos c21] at hf
    exact J24 v_rows v_ended v_count v_standstills v_wrongOnes v_unlikeEnds x1 x3 _ _ _ hf hP hD hS (lv_sub hl [1, 2, 3] rfl)
  · rw [if_neg c21] at hf
    refine lv_iload_n hx hb dX0_goOn_15 rfl (lv_at hl 3 rfl) ?_
    have hPc : va_P D vwCl ([]) H := hP.sub [] rfl
    have hDc : va_D A ([]) := hD.sub [] (by decide) rfl
    refine kd_iR (va_runS (As := [.int x3]) (rest := []) ⟨hx, hb, hml, hown, hts⟩ (c4_length l D cB cI cZ cO h H.size x3 (f4_length x3) rfl) (va_cwS 1 hts gX0_goOn_X4_length rfl rfl rfl (by decide +kernel) ⟨by simp only [rm0_goOn, rm4_length]; omega, by simp only [rm0_goOn, rm4_length]; omega⟩) ⟨kb_blind, kb_pre hPc hDc hK hN⟩ rfl rfl hl.1 rfl (lv_room (Nat.le_of_ble_eq_true rfl)) dX0_goOn_16 ⟨Nat.le_refl _, Nat.le_refl _⟩) hP hD hS hA [] rfl (fun H locs hn22 hP hS => ?_)
    refine lv_bipush (v := 12) hx hb dX0_goOn_19 (by decide) ?_
    refine lv_icmp_lt (tgt := 31) hx hb dX0_goOn_21 (by decide) (fun c23 => ?_) (fun c23 => ?_)
    · rw [if_pos c23] at hf
      refine lv_iload hx hb dX0_goOn_31 (lv_at hl 4 rfl) ?_
      refine lv_istore (lv' := [(6, .int x4), (5, .int q19), (0, .ref (h o)), (1, .long x1), (3, .int x3), (4, .int x4)]) hx hb dX0_goOn_33 hl (by decide) rfl (fun ls hl => ?_)
      refine lv_iconst (v := 0) hx hb dX0_goOn_35 (by decide) ?_
      refine lv_istore (lv' := [(7, .int (0 : Int32)), (6, .int x4), (5, .int q19), (0, .ref (h o)), (1, .long x1), (3, .int x3), (4, .int x4)]) hx hb dX0_goOn_36 hl (by decide) rfl (fun ls hl => ?_)
      exact J38 kFUEL v_rows v_ended v_count v_standstills v_wrongOnes v_unlikeEnds x1 x3 q19 x4 (0 : Int32) _ _ _ hf hP hD hS (lv_sub hl [3, 4, 5, 2, 1, 0] rfl)
    · rw [if_neg c23] at hf
      exact J24 v_rows v_ended v_count v_standstills v_wrongOnes v_unlikeEnds x1 x3 _ _ _ hf hP hD hS (lv_sub hl [1, 2, 3] rfl)

set_option maxHeartbeats 4000000 in
set_option maxRecDepth 100000 in
theorem c0_goThrough (l : Launch) (D : va_G) (cB cI cZ cO : ClassId) (h : Nat → Nat) (o : Nat) (o2 : Nat) (sz : Nat) (v_threads : sT) (v_rows : Nat → Int32) (v_ended : Nat → Int32) (v_known : Int32) (v_stepsInAll : Int32) (v_count : Int32) (v_standstills : Int32) (v_wrongOnes : Int32) (v_unlikeEnds : Int32) (w_u : sT) (v_threads' : sT) (v_rows' : Nat → Int32) (v_ended' : Nat → Int32) (v_known' : Int32) (v_stepsInAll' : Int32) (v_count' : Int32) (v_standstills' : Int32) (v_wrongOnes' : Int32) (v_unlikeEnds' : Int32) (hf : f0_goThrough v_threads v_rows v_ended v_known v_stepsInAll v_count v_standstills v_wrongOnes v_unlikeEnds w_u = some (v_threads', v_rows', v_ended', v_known', v_stepsInAll', v_count', v_standstills', v_wrongOnes', v_unlikeEnds')) : Met l yX0_goThrough wsX0_goThrough rm0_goThrough (va_Pc [.ref (h o), .ref (h o2)] (kb_B D (ka_tys cB cI cZ cO) sz (wdA cI cZ h o v_threads v_rows v_ended v_known v_stepsInAll v_count v_standstills v_wrongOnes v_unlikeEnds ++ wdS cI h o2 w_u))) (va_Qv (fun (_ : Unit) => True) (fun _ t => va_P D vwCl (wdA cI cZ h o (v_threads') (v_rows') (v_ended') (v_known') (v_stepsInAll') (v_count') (v_standstills') (v_wrongOnes') (v_unlikeEnds') ++ wdS cI h o2 w_u) t.heap) (va_A (wdA cI cZ h o v_threads v_rows v_ended v_known v_stepsInAll v_count v_standstills v_wrongOnes v_unlikeEnds ++ wdS cI h o2 w_u) sz)) 0 0 (va_A (wdA cI cZ h o v_threads v_rows v_ended v_known v_stepsInAll v_count v_standstills v_wrongOnes v_unlikeEnds ++ wdS cI h o2 w_u) sz) := by
  refine kb_metV (cc := cX0_goThrough) (maxL := 3) (by decide) rfl (Nat.le_of_ble_eq_true rfl) ?_
  intro p e s m args below meth c Q A ls H hx hb hml hown hts hK hN hP hD hS hA hl hend
  have hown : s.vm.findClass RX0 = some m.cls := hown
  have hl : lv_has ls 3 [(0, .ref (h o)), (1, .ref (h o2))] := hl
  have hin0 : ∀ w ∈ u_ws RX0 TX0 9, w ∈ wsX0_goThrough := by decide +kernel
  have J85 : ∀ (v_threads : sT) (v_rows : Nat → Int32) (v_ended : Nat → Int32) (v_known : Int32) (v_stepsInAll : Int32) (v_count : Int32) (v_standstills : Int32) (v_wrongOnes : Int32) (v_unlikeEnds : Int32) (H : Heap) (locs : List Loc) (ls : Array Slot), f0_goThrough_b85 v_threads v_rows v_ended v_known v_stepsInAll v_count v_standstills v_wrongOnes v_unlikeEnds w_u = some (v_threads', v_rows', v_ended', v_known', v_stepsInAll', v_count', v_standstills', v_wrongOnes', v_unlikeEnds') → va_P D vwCl (wdA cI cZ h o v_threads v_rows v_ended v_known v_stepsInAll v_count v_standstills v_wrongOnes v_unlikeEnds ++ wdS cI h o2 w_u) H → va_D A (wdA cI cZ h o v_threads v_rows v_ended v_known v_stepsInAll v_count v_standstills v_wrongOnes v_unlikeEnds ++ wdS cI h o2 w_u) → va_S A s.heap H locs → lv_has ls 3 [(0, .ref (h o))] → W p l e rm0_goThrough s m args below meth c H locs 0 0 Q (F0 m 85 ls []) := by
    intro v_threads v_rows v_ended v_known v_stepsInAll v_count v_standstills v_wrongOnes v_unlikeEnds H locs ls hf hP hD hS hl
    rw [f0_goThrough_b85] at hf
    refine lv_aload_n hx hb dX0_goThrough_85 rfl (lv_at hl 0 rfl) ?_
    refine lv_aload_n hx hb dX0_goThrough_86 rfl (lv_at hl 0 rfl) ?_
    refine va_get (D := D) (cl := vwCl) (ci := 0) (v := .ref (h (o + 3))) (C := RX0) (T := TX0) (N := 9) hx hb hts hin0 hown hK hP 0 rfl rfl 0 (by decide) (hts (.fieldLink RX0 12 "StepOrders$AllOrders" "threads" "LStepOrders$State;") (by decide +kernel)) (fun _ h9 => h9) rfl dX0_goThrough_87 ?_
    have hPc : va_P D vwCl (wdS cI h (o + 3) v_threads) H := hP.sub [3, 4, 5] rfl
    have hDc : va_D A (wdS cI h (o + 3) v_threads) := hD.sub [3, 4, 5] (by decide) rfl
    refine kd_lR (va_runV (As := []) (rest := [.ref (h o)]) ⟨hx, hb, hml, hown, hts⟩ (c5_beginning l D cB cI cZ cO h (o + 3) H.size v_threads (f5_beginning v_threads) rfl) (cwV 0 hts gX0_goThrough_X5_beginning rfl rfl rfl (by decide +kernel) ⟨Nat.le_of_ble_eq_true rfl, Nat.le_of_ble_eq_true rfl⟩) ⟨kb_blind, va_recv hK hPc (ci := 3) (q0 := 0) rfl rfl, kb_pre hPc hDc hK hN⟩ rfl rfl hl.1 rfl (lv_room (Nat.le_of_ble_eq_true rfl)) dX0_goThrough_90 ⟨Nat.le_refl _, Nat.le_refl _⟩) hP hD hS hA [3, 4, 5] rfl (fun H locs hP hS => ?_)
    refine lv_iconst (v := 0) hx hb dX0_goThrough_93 (by decide) ?_
    refine lv_iconst (v := 0) hx hb dX0_goThrough_94 (by decide) ?_
    refine kb_bind hf (fun q2 hq2 hf => ?_)
    have hPc : va_P D vwCl (wdA cI cZ h o v_threads v_rows v_ended v_known v_stepsInAll v_count v_standstills v_wrongOnes v_unlikeEnds) H := hP.sub [0, 1, 2, 3, 4, 5] rfl
    have hDc : va_D A (wdA cI cZ h o v_threads v_rows v_ended v_known v_stepsInAll v_count v_standstills v_wrongOnes v_unlikeEnds) := hD.sub [0, 1, 2, 3, 4, 5] (by decide) rfl
    refine kd_vW (ws' := wdA cI cZ h o v_threads q2.1 q2.2.1 v_known v_stepsInAll q2.2.2.1 q2.2.2.2.1 q2.2.2.2.2.1 q2.2.2.2.2.2 ++ wdS cI h o2 w_u) (va_runS (As := [.ref (h o), .long (f5_beginning v_threads), .int (0 : Int32), .int (0 : Int32)]) (rest := []) ⟨hx, hb, hml, hown, hts⟩ (c0_goOn l D cB cI cZ cO kDEEP h o H.size (f5_beginning v_threads) (0 : Int32) (0 : Int32) v_threads v_rows v_ended v_known v_stepsInAll v_count v_standstills v_wrongOnes v_unlikeEnds q2.1 q2.2.1 q2.2.2.1 q2.2.2.2.1 q2.2.2.2.2.1 q2.2.2.2.2.2 hq2) (va_cwS 4 hts gX0_goThrough_X0_goOn rfl rfl rfl (by decide +kernel) ⟨Nat.le_of_ble_eq_true rfl, Nat.le_of_ble_eq_true rfl⟩) ⟨kb_blind, kb_pre hPc hDc hK hN⟩ rfl rfl hl.1 rfl (lv_room (Nat.le_of_ble_eq_true rfl)) dX0_goThrough_95 ⟨Nat.le_refl _, Nat.le_refl _⟩) hP hD hS hA [0, 1, 2, 3, 4, 5] [6, 7, 8] rfl rfl (List.forall_mem_cons.mpr ⟨rfl, (List.forall_mem_cons.mpr ⟨rfl, (List.forall_mem_cons.mpr ⟨rfl, (fun _ h9 => absurd h9 List.not_mem_nil)⟩)⟩)⟩) rfl rfl (fun H locs hP hD hS => ?_)
    obtain ⟨z1, y1⟩ := Prod.mk.inj (Option.some.inj hf)
    obtain ⟨z2, y2⟩ := Prod.mk.inj y1
    obtain ⟨z3, y3⟩ := Prod.mk.inj y2
    obtain ⟨z4, y4⟩ := Prod.mk.inj y3
    obtain ⟨z5, y5⟩ := Prod.mk.inj y4
    obtain ⟨z6, y6⟩ := Prod.mk.inj y5
    obtain ⟨z7, y7⟩ := Prod.mk.inj y6
    obtain ⟨z8, y8⟩ := Prod.mk.inj y7
    subst z1 z2 z3 z4 z5 z6 z7 z8 y8
    exact hend _ _ _ _ hP hS dX0_goThrough_98
  have J65 : ∀ (n : Nat) (v_threads : sT) (v_rows : Nat → Int32) (v_ended : Nat → Int32) (v_known : Int32) (v_stepsInAll : Int32) (v_count : Int32) (v_standstills : Int32) (v_wrongOnes : Int32) (v_unlikeEnds : Int32) (x2 : Int32) (H : Heap) (locs : List Loc) (ls : Array Slot), f0_goThrough_l65 n v_threads v_rows v_ended v_known v_stepsInAll v_count v_standstills v_wrongOnes v_unlikeEnds w_u x2 = some (v_threads', v_rows', v_ended', v_known', v_stepsInAll', v_count', v_standstills', v_wrongOnes', v_unlikeEnds') → va_P D vwCl (wdA cI cZ h o v_threads v_rows v_ended v_known v_stepsInAll v_count v_standstills v_wrongOnes v_unlikeEnds ++ wdS cI h o2 w_u) H → va_D A (wdA cI cZ h o v_threads v_rows v_ended v_known v_stepsInAll v_count v_standstills v_wrongOnes v_unlikeEnds ++ wdS cI h o2 w_u) → va_S A s.heap H locs → lv_has ls 3 [(0, .ref (h o)), (2, .int x2)] → W p l e rm0_goThrough s m args below meth c H locs 0 0 Q (F0 m 65 ls []) := by
    intro n
    induction n with
    | zero =>
      intro v_threads v_rows v_ended v_known v_stepsInAll v_count v_standstills v_wrongOnes v_unlikeEnds x2 H locs ls hf
      cases (show (none : Option (sT × (Nat → Int32) × (Nat → Int32) × Int32 × Int32 × Int32 × Int32 × Int32 × Int32)) = some (v_threads', v_rows', v_ended', v_known', v_stepsInAll', v_count', v_standstills', v_wrongOnes', v_unlikeEnds') from hf)
    | succ n ih =>
      intro v_threads v_rows v_ended v_known v_stepsInAll v_count v_standstills v_wrongOnes v_unlikeEnds x2 H locs ls hf hP hD hS hl
      rw [f0_goThrough_l65_s] at hf
      refine lv_iload_n hx hb dX0_goThrough_65 rfl (lv_at hl 1 rfl) ?_
      refine lv_sipush (v := 10000) hx hb dX0_goThrough_66 (by decide) ?_
      refine lv_icmp_ge (tgt := 85) hx hb dX0_goThrough_69 (by decide) (fun c5 => ?_) (fun c5 => ?_)
      · rw [if_pos c5] at hf
        exact J85 v_threads v_rows v_ended v_known v_stepsInAll v_count v_standstills v_wrongOnes v_unlikeEnds _ _ _ hf hP hD hS (lv_sub hl [0] rfl)
      · rw [if_neg c5] at hf
        refine lv_aload_n hx hb dX0_goThrough_72 rfl (lv_at hl 0 rfl) ?_
        refine va_get (D := D) (cl := vwCl) (ci := 0) (v := .ref (h (o + 2))) (C := RX0) (T := TX0) (N := 9) hx hb hts hin0 hown hK hP 0 rfl rfl 2 (by decide) (hts (.fieldLink RX0 23 "StepOrders$AllOrders" "ended" "[Z") (by decide +kernel)) (fun _ h9 => h9) rfl dX0_goThrough_73 ?_
        refine lv_iload_n hx hb dX0_goThrough_76 rfl (lv_at hl 1 rfl) ?_
        refine lv_iconst (v := 0) hx hb dX0_goThrough_77 (by decide) ?_
        refine kb_bind hf (fun v6 hv6 hf => ?_)
        refine ka_zast (D := D) (cl := vwCl) hx hb hK hP hD hS 2 2 (f := v_ended) (g := v6) rfl rfl (awr_in hv6) (awr_v hv6) dX0_goThrough_78 (fun H locs hP hD hS => ?_)
        have hP : va_P D vwCl (wdA cI cZ h o v_threads v_rows v6 v_known v_stepsInAll v_count v_standstills v_wrongOnes v_unlikeEnds ++ wdS cI h o2 w_u) H := hP
        have hD : va_D A (wdA cI cZ h o v_threads v_rows v6 v_known v_stepsInAll v_count v_standstills v_wrongOnes v_unlikeEnds ++ wdS cI h o2 w_u) := hD
        refine lv_iinc (v := (x2 + 1)) (lv' := [(2, .int (x2 + 1)), (0, .ref (h o))]) hx hb dX0_goThrough_79 hl (k := 1) rfl rfl (by decide) rfl (fun ls hl => ?_)
        refine lv_goto (tgt := 65) hx hb dX0_goThrough_82 (by decide) ?_
        exact ih v_threads v_rows v6 v_known v_stepsInAll v_count v_standstills v_wrongOnes v_unlikeEnds (x2 + 1) _ _ _ hf hP hD hS (lv_sub hl [1, 0] rfl)
  have J19 : ∀ (v_threads : sT) (v_rows : Nat → Int32) (v_ended : Nat → Int32) (v_known : Int32) (v_stepsInAll : Int32) (v_count : Int32) (v_standstills : Int32) (v_wrongOnes : Int32) (v_unlikeEnds : Int32) (H : Heap) (locs : List Loc) (ls : Array Slot), f0_goThrough_b19 v_threads v_rows v_ended v_known v_stepsInAll v_count v_standstills v_wrongOnes v_unlikeEnds w_u = some (v_threads', v_rows', v_ended', v_known', v_stepsInAll', v_count', v_standstills', v_wrongOnes', v_unlikeEnds') → va_P D vwCl (wdA cI cZ h o v_threads v_rows v_ended v_known v_stepsInAll v_count v_standstills v_wrongOnes v_unlikeEnds ++ wdS cI h o2 w_u) H → va_D A (wdA cI cZ h o v_threads v_rows v_ended v_known v_stepsInAll v_count v_standstills v_wrongOnes v_unlikeEnds ++ wdS cI h o2 w_u) → va_S A s.heap H locs → lv_has ls 3 [(0, .ref (h o)), (1, .ref (h o2))] → W p l e rm0_goThrough s m args below meth c H locs 0 0 Q (F0 m 19 ls []) := by
    intro v_threads v_rows v_ended v_known v_stepsInAll v_count v_standstills v_wrongOnes v_unlikeEnds H locs ls hf hP hD hS hl
    rw [f0_goThrough_b19] at hf
    refine lv_aload_n hx hb dX0_goThrough_19 rfl (lv_at hl 0 rfl) ?_
    refine va_get (D := D) (cl := vwCl) (ci := 0) (v := .ref (h (o + 3))) (C := RX0) (T := TX0) (N := 9) hx hb hts hin0 hown hK hP 0 rfl rfl 0 (by decide) (hts (.fieldLink RX0 12 "StepOrders$AllOrders" "threads" "LStepOrders$State;") (by decide +kernel)) (fun _ h9 => h9) rfl dX0_goThrough_20 ?_
    refine lv_aload_n hx hb dX0_goThrough_23 rfl (lv_at hl 1 rfl) ?_
    refine kb_bind hf (fun q10 hq10 hf => ?_)
    have hPc : va_P D vwCl (wdS cI h (o + 3) v_threads ++ wdS cI h o2 w_u) H := hP.sub [3, 4, 5, 6, 7, 8] rfl
    have hDc : va_D A (wdS cI h (o + 3) v_threads ++ wdS cI h o2 w_u) := hD.sub [3, 4, 5, 6, 7, 8] (by decide) rfl
    refine kd_vW (ws' := wdA cI cZ h o q10 v_rows v_ended v_known v_stepsInAll v_count v_standstills v_wrongOnes v_unlikeEnds ++ wdS cI h o2 w_u) (va_runV (As := [.ref (h o2)]) (rest := []) ⟨hx, hb, hml, hown, hts⟩ (c5_takeFrom l D cB cI cZ cO h (o + 3) o2 H.size v_threads w_u q10 hq10) (cwV 1 hts gX0_goThrough_X5_takeFrom rfl rfl rfl (by decide +kernel) ⟨Nat.le_of_ble_eq_true rfl, Nat.le_of_ble_eq_true rfl⟩) ⟨kb_blind, va_recv hK hPc (ci := 3) (q0 := 0) rfl rfl, kb_pre hPc hDc hK hN⟩ rfl rfl hl.1 rfl (lv_room (Nat.le_of_ble_eq_true rfl)) dX0_goThrough_24 ⟨Nat.le_refl _, Nat.le_refl _⟩) hP hD hS hA [3, 4, 5, 6, 7, 8] [0, 1, 2] rfl rfl (List.forall_mem_cons.mpr ⟨rfl, (List.forall_mem_cons.mpr ⟨rfl, (List.forall_mem_cons.mpr ⟨rfl, (fun _ h9 => absurd h9 List.not_mem_nil)⟩)⟩)⟩) rfl rfl (fun H locs hP hD hS => ?_)
    refine lv_aload_n hx hb dX0_goThrough_27 rfl (lv_at hl 0 rfl) ?_
    refine lv_iconst (v := 1) hx hb dX0_goThrough_28 (by decide) ?_
    refine va_put (D := D) (cl := vwCl) (ci := 0) (v := .int (1 : Int32)) (ty := .boolean) (C := RX0) (T := TX0) (N := 9) hx hb hts hin0 tyX0 tyX0_ok nmX0 hown hK hP hD hS 0 rfl rfl 3 (by decide) (hts (.fieldLink RX0 44 "StepOrders$AllOrders" "known" "Z") (by decide +kernel)) (fun _ h9 => h9) rfl (tyX0_ok 3 (by decide)) rfl rfl (Nat.le_of_ble_eq_true rfl) dX0_goThrough_29 (fun H locs hP hD hS => ?_)
    have hP : va_P D vwCl (wdA cI cZ h o q10 v_rows v_ended (1 : Int32) v_stepsInAll v_count v_standstills v_wrongOnes v_unlikeEnds ++ wdS cI h o2 w_u) H := hP
    have hD : va_D A (wdA cI cZ h o q10 v_rows v_ended (1 : Int32) v_stepsInAll v_count v_standstills v_wrongOnes v_unlikeEnds ++ wdS cI h o2 w_u) := hD
    refine lv_aload_n hx hb dX0_goThrough_32 rfl (lv_at hl 0 rfl) ?_
    refine lv_aload_n hx hb dX0_goThrough_33 rfl (lv_at hl 0 rfl) ?_
    refine va_get (D := D) (cl := vwCl) (ci := 0) (v := .ref (h (o + 3))) (C := RX0) (T := TX0) (N := 9) hx hb hts hin0 hown hK hP 0 rfl rfl 0 (by decide) (hts (.fieldLink RX0 12 "StepOrders$AllOrders" "threads" "LStepOrders$State;") (by decide +kernel)) (fun _ h9 => h9) rfl dX0_goThrough_34 ?_
    refine kb_bind hf (fun q11 hq11 hf => ?_)
    have hPc : va_P D vwCl (wdS cI h (o + 3) q10) H := hP.sub [3, 4, 5] rfl
    have hDc : va_D A (wdS cI h (o + 3) q10) := hD.sub [3, 4, 5] (by decide) rfl
    refine kd_iR (va_runV (As := []) (rest := [.ref (h o)]) ⟨hx, hb, hml, hown, hts⟩ (c5_stepsInAll l D cB cI cZ cO h (o + 3) H.size q10 q11 hq11) (cwV 0 hts gX0_goThrough_X5_stepsInAll rfl rfl rfl (by decide +kernel) ⟨Nat.le_of_ble_eq_true rfl, Nat.le_of_ble_eq_true rfl⟩) ⟨kb_blind, va_recv hK hPc (ci := 3) (q0 := 0) rfl rfl, kb_pre hPc hDc hK hN⟩ rfl rfl hl.1 rfl (lv_room (Nat.le_of_ble_eq_true rfl)) dX0_goThrough_37 ⟨Nat.le_refl _, Nat.le_refl _⟩) hP hD hS hA [3, 4, 5] rfl (fun H locs hn12 hP hS => ?_)
    refine va_put (D := D) (cl := vwCl) (ci := 0) (v := .int q11) (ty := .int) (C := RX0) (T := TX0) (N := 9) hx hb hts hin0 tyX0 tyX0_ok nmX0 hown hK hP hD hS 0 rfl rfl 4 (by decide) (hts (.fieldLink RX0 60 "StepOrders$AllOrders" "stepsInAll" "I") (by decide +kernel)) (fun _ h9 => h9) rfl (tyX0_ok 4 (by decide)) rfl rfl (Nat.le_of_ble_eq_true rfl) dX0_goThrough_40 (fun H locs hP hD hS => ?_)
    have hP : va_P D vwCl (wdA cI cZ h o q10 v_rows v_ended (1 : Int32) q11 v_count v_standstills v_wrongOnes v_unlikeEnds ++ wdS cI h o2 w_u) H := hP
    have hD : va_D A (wdA cI cZ h o q10 v_rows v_ended (1 : Int32) q11 v_count v_standstills v_wrongOnes v_unlikeEnds ++ wdS cI h o2 w_u) := hD
    refine lv_aload_n hx hb dX0_goThrough_43 rfl (lv_at hl 0 rfl) ?_
    refine lv_iconst (v := 0) hx hb dX0_goThrough_44 (by decide) ?_
    refine va_put (D := D) (cl := vwCl) (ci := 0) (v := .int (0 : Int32)) (ty := .int) (C := RX0) (T := TX0) (N := 9) hx hb hts hin0 tyX0 tyX0_ok nmX0 hown hK hP hD hS 0 rfl rfl 5 (by decide) (hts (.fieldLink RX0 27 "StepOrders$AllOrders" "count" "I") (by decide +kernel)) (fun _ h9 => h9) rfl (tyX0_ok 5 (by decide)) rfl rfl (Nat.le_of_ble_eq_true rfl) dX0_goThrough_45 (fun H locs hP hD hS => ?_)
    have hP : va_P D vwCl (wdA cI cZ h o q10 v_rows v_ended (1 : Int32) q11 (0 : Int32) v_standstills v_wrongOnes v_unlikeEnds ++ wdS cI h o2 w_u) H := hP
    have hD : va_D A (wdA cI cZ h o q10 v_rows v_ended (1 : Int32) q11 (0 : Int32) v_standstills v_wrongOnes v_unlikeEnds ++ wdS cI h o2 w_u) := hD
    refine lv_aload_n hx hb dX0_goThrough_48 rfl (lv_at hl 0 rfl) ?_
    refine lv_iconst (v := 0) hx hb dX0_goThrough_49 (by decide) ?_
    refine va_put (D := D) (cl := vwCl) (ci := 0) (v := .int (0 : Int32)) (ty := .int) (C := RX0) (T := TX0) (N := 9) hx hb hts hin0 tyX0 tyX0_ok nmX0 hown hK hP hD hS 0 rfl rfl 6 (by decide) (hts (.fieldLink RX0 31 "StepOrders$AllOrders" "standstills" "I") (by decide +kernel)) (fun _ h9 => h9) rfl (tyX0_ok 6 (by decide)) rfl rfl (Nat.le_of_ble_eq_true rfl) dX0_goThrough_50 (fun H locs hP hD hS => ?_)
    have hP : va_P D vwCl (wdA cI cZ h o q10 v_rows v_ended (1 : Int32) q11 (0 : Int32) (0 : Int32) v_wrongOnes v_unlikeEnds ++ wdS cI h o2 w_u) H := hP
    have hD : va_D A (wdA cI cZ h o q10 v_rows v_ended (1 : Int32) q11 (0 : Int32) (0 : Int32) v_wrongOnes v_unlikeEnds ++ wdS cI h o2 w_u) := hD
    refine lv_aload_n hx hb dX0_goThrough_53 rfl (lv_at hl 0 rfl) ?_
    refine lv_iconst (v := 0) hx hb dX0_goThrough_54 (by decide) ?_
    refine va_put (D := D) (cl := vwCl) (ci := 0) (v := .int (0 : Int32)) (ty := .int) (C := RX0) (T := TX0) (N := 9) hx hb hts hin0 tyX0 tyX0_ok nmX0 hown hK hP hD hS 0 rfl rfl 7 (by decide) (hts (.fieldLink RX0 34 "StepOrders$AllOrders" "wrongOnes" "I") (by decide +kernel)) (fun _ h9 => h9) rfl (tyX0_ok 7 (by decide)) rfl rfl (Nat.le_of_ble_eq_true rfl) dX0_goThrough_55 (fun H locs hP hD hS => ?_)
    have hP : va_P D vwCl (wdA cI cZ h o q10 v_rows v_ended (1 : Int32) q11 (0 : Int32) (0 : Int32) (0 : Int32) v_unlikeEnds ++ wdS cI h o2 w_u) H := hP
    have hD : va_D A (wdA cI cZ h o q10 v_rows v_ended (1 : Int32) q11 (0 : Int32) (0 : Int32) (0 : Int32) v_unlikeEnds ++ wdS cI h o2 w_u) := hD
    refine lv_aload_n hx hb dX0_goThrough_58 rfl (lv_at hl 0 rfl) ?_
    refine lv_iconst (v := 0) hx hb dX0_goThrough_59 (by decide) ?_
    refine va_put (D := D) (cl := vwCl) (ci := 0) (v := .int (0 : Int32)) (ty := .int) (C := RX0) (T := TX0) (N := 9) hx hb hts hin0 tyX0 tyX0_ok nmX0 hown hK hP hD hS 0 rfl rfl 8 (by decide) (hts (.fieldLink RX0 37 "StepOrders$AllOrders" "unlikeEnds" "I") (by decide +kernel)) (fun _ h9 => h9) rfl (tyX0_ok 8 (by decide)) rfl rfl (Nat.le_of_ble_eq_true rfl) dX0_goThrough_60 (fun H locs hP hD hS => ?_)
    have hP : va_P D vwCl (wdA cI cZ h o q10 v_rows v_ended (1 : Int32) q11 (0 : Int32) (0 : Int32) (0 : Int32) (0 : Int32) ++ wdS cI h o2 w_u) H := hP
    have hD : va_D A (wdA cI cZ h o q10 v_rows v_ended (1 : Int32) q11 (0 : Int32) (0 : Int32) (0 : Int32) (0 : Int32) ++ wdS cI h o2 w_u) := hD
    refine lv_iconst (v := 0) hx hb dX0_goThrough_63 (by decide) ?_
    refine lv_istore_n (lv' := [(2, .int (0 : Int32)), (0, .ref (h o)), (1, .ref (h o2))]) hx hb dX0_goThrough_64 rfl hl (by decide) rfl (fun ls hl => ?_)
    exact J65 kFUEL q10 v_rows v_ended (1 : Int32) q11 (0 : Int32) (0 : Int32) (0 : Int32) (0 : Int32) (0 : Int32) _ _ _ hf hP hD hS (lv_sub hl [1, 0] rfl)
  rw [f0_goThrough] at hf
  refine lv_aload_n hx hb dX0_goThrough_0 rfl (lv_at hl 0 rfl) ?_
  refine va_get (D := D) (cl := vwCl) (ci := 0) (v := .int v_known) (C := RX0) (T := TX0) (N := 9) hx hb hts hin0 hown hK hP 0 rfl rfl 3 (by decide) (hts (.fieldLink RX0 44 "StepOrders$AllOrders" "known" "Z") (by decide +kernel)) (fun _ h9 => h9) rfl dX0_goThrough_1 ?_
  refine lv_if_eq (tgt := 19) hx hb dX0_goThrough_4 (by decide) (fun c13 => ?_) (fun c13 => ?_)
  · rw [if_pos c13] at hf
    exact J19 v_threads v_rows v_ended v_known v_stepsInAll v_count v_standstills v_wrongOnes v_unlikeEnds _ _ _ hf hP hD hS (lv_sub hl [0, 1] rfl)
  · rw [if_neg c13] at hf
    refine lv_aload_n hx hb dX0_goThrough_7 rfl (lv_at hl 0 rfl) ?_
    refine va_get (D := D) (cl := vwCl) (ci := 0) (v := .ref (h (o + 3))) (C := RX0) (T := TX0) (N := 9) hx hb hts hin0 hown hK hP 0 rfl rfl 0 (by decide) (hts (.fieldLink RX0 12 "StepOrders$AllOrders" "threads" "LStepOrders$State;") (by decide +kernel)) (fun _ h9 => h9) rfl dX0_goThrough_8 ?_
    refine lv_aload_n hx hb dX0_goThrough_11 rfl (lv_at hl 1 rfl) ?_
    refine kb_bind hf (fun q14 hq14 hf => ?_)
    have hPc : va_P D vwCl (wdS cI h (o + 3) v_threads ++ wdS cI h o2 w_u) H := hP.sub [3, 4, 5, 6, 7, 8] rfl
    have hDc : va_D A (wdS cI h (o + 3) v_threads ++ wdS cI h o2 w_u) := hD.sub [3, 4, 5, 6, 7, 8] (by decide) rfl
    refine kd_iR (va_runV (As := [.ref (h o2)]) (rest := []) ⟨hx, hb, hml, hown, hts⟩ (c5_hasSameThreads l D cB cI cZ cO h (o + 3) o2 H.size v_threads w_u q14 hq14) (cwV 1 hts gX0_goThrough_X5_hasSameThreads rfl rfl rfl (by decide +kernel) ⟨Nat.le_of_ble_eq_true rfl, Nat.le_of_ble_eq_true rfl⟩) ⟨kb_blind, va_recv hK hPc (ci := 3) (q0 := 0) rfl rfl, kb_pre hPc hDc hK hN⟩ rfl rfl hl.1 rfl (lv_room (Nat.le_of_ble_eq_true rfl)) dX0_goThrough_12 ⟨Nat.le_refl _, Nat.le_refl _⟩) hP hD hS hA [3, 4, 5, 6, 7, 8] rfl (fun H locs hn15 hP hS => ?_)
    refine lv_if_eq (tgt := 19) hx hb dX0_goThrough_15 (by decide) (fun c16 => ?_) (fun c16 => ?_)
    · rw [if_pos c16] at hf
      exact J19 v_threads v_rows v_ended v_known v_stepsInAll v_count v_standstills v_wrongOnes v_unlikeEnds _ _ _ hf hP hD hS (lv_sub hl [0, 1] rfl)
    · rw [if_neg c16] at hf
      obtain ⟨z1, y1⟩ := Prod.mk.inj (Option.some.inj hf)
      obtain ⟨z2, y2⟩ := Prod.mk.inj y1
      obtain ⟨z3, y3⟩ := Prod.mk.inj y2
      obtain ⟨z4, y4⟩ := Prod.mk.inj y3
      obtain ⟨z5, y5⟩ := Prod.mk.inj y4
      obtain ⟨z6, y6⟩ := Prod.mk.inj y5
      obtain ⟨z7, y7⟩ := Prod.mk.inj y6
      obtain ⟨z8, y8⟩ := Prod.mk.inj y7
      subst z1 z2 z3 z4 z5 z6 z7 z8 y8
      exact hend _ _ _ _ hP hS dX0_goThrough_18

set_option maxHeartbeats 4000000 in
set_option maxRecDepth 100000 in
theorem c0_find (l : Launch) (D : va_G) (cB cI cZ cO : ClassId) (h : Nat → Nat) (o : Nat) (sz : Nat) (x1 : Int32) (v_threads : sT) (v_rows : Nat → Int32) (v_ended : Nat → Int32) (v_known : Int32) (v_stepsInAll : Int32) (v_count : Int32) (v_standstills : Int32) (v_wrongOnes : Int32) (v_unlikeEnds : Int32) (r0 : Int32) (hf : f0_find v_rows v_count x1 = some r0) : Met l yX0_find wsX0_find rm0_find (va_Pc [.ref (h o), .int x1] (kb_B D (ka_tys cB cI cZ cO) sz (wdA cI cZ h o v_threads v_rows v_ended v_known v_stepsInAll v_count v_standstills v_wrongOnes v_unlikeEnds))) (va_Qi (kb_post .int r0) (fun _ t => va_P D vwCl (wdA cI cZ h o v_threads v_rows v_ended v_known v_stepsInAll v_count v_standstills v_wrongOnes v_unlikeEnds) t.heap) (va_A (wdA cI cZ h o v_threads v_rows v_ended v_known v_stepsInAll v_count v_standstills v_wrongOnes v_unlikeEnds) sz)) 0 0 (va_A (wdA cI cZ h o v_threads v_rows v_ended v_known v_stepsInAll v_count v_standstills v_wrongOnes v_unlikeEnds) sz) := by
  refine kb_metZ (cc := cX0_find) (maxL := 6) (ty := .int) (by decide) rfl (Nat.le_of_ble_eq_true rfl) ?_
  intro p e s m args below meth c Q A ls H hx hb hml hown hts hK hN hP hD hS hA hl hend
  have hown : s.vm.findClass RX0 = some m.cls := hown
  have hl : lv_has ls 6 [(0, .ref (h o)), (1, .int x1)] := hl
  have hin0 : ∀ w ∈ u_ws RX0 TX0 9, w ∈ wsX0_find := by decide +kernel
  have J57 : ∀ (x1 : Int32) (x2 : Int32) (H : Heap) (locs : List Loc) (ls : Array Slot), f0_find_b57 v_rows v_count x1 x2 = some r0 → va_P D vwCl (wdA cI cZ h o v_threads v_rows v_ended v_known v_stepsInAll v_count v_standstills v_wrongOnes v_unlikeEnds) H → va_D A (wdA cI cZ h o v_threads v_rows v_ended v_known v_stepsInAll v_count v_standstills v_wrongOnes v_unlikeEnds) → va_S A s.heap H locs → lv_has ls 6 [(0, .ref (h o)), (1, .int x1), (2, .int x2)] → W p l e rm0_find s m args below meth c H locs 0 0 Q (F0 m 57 ls []) := by
    intro x1 x2 H locs ls hf hP hD hS hl
    rw [f0_find_b57] at hf
    refine lv_iload_n hx hb dX0_find_57 rfl (lv_at hl 2 rfl) ?_
    refine lv_aload_n hx hb dX0_find_58 rfl (lv_at hl 0 rfl) ?_
    refine va_get (D := D) (cl := vwCl) (ci := 0) (v := .int v_count) (C := RX0) (T := TX0) (N := 9) hx hb hts hin0 hown hK hP 0 rfl rfl 5 (by decide) (hts (.fieldLink RX0 27 "StepOrders$AllOrders" "count" "I") (by decide +kernel)) (fun _ h9 => h9) rfl dX0_find_59 ?_
    refine lv_icmp_ge (tgt := 79) hx hb dX0_find_62 (by decide) (fun c4 => ?_) (fun c4 => ?_)
    · rw [if_pos c4] at hf
      refine lv_iconst (v := (-1)) hx hb dX0_find_79 (by decide) ?_
      obtain rfl := Option.some.inj hf
      exact hend _ _ _ _ rfl hP hS dX0_find_80
    · rw [if_neg c4] at hf
      refine lv_aload_n hx hb dX0_find_65 rfl (lv_at hl 0 rfl) ?_
      refine va_get (D := D) (cl := vwCl) (ci := 0) (v := .ref (h (o + 1))) (C := RX0) (T := TX0) (N := 9) hx hb hts hin0 hown hK hP 0 rfl rfl 1 (by decide) (hts (.fieldLink RX0 19 "StepOrders$AllOrders" "rows" "[I") (by decide +kernel)) (fun _ h9 => h9) rfl dX0_find_66 ?_
      refine lv_iload_n hx hb dX0_find_69 rfl (lv_at hl 2 rfl) ?_
      refine kb_bind hf (fun v5 hv5 hf => ?_)
      refine ka_iald (D := D) (cl := vwCl) hx hb hK hP 1 1 (f := v_rows) rfl rfl (ard_in hv5) (ard_v hv5) dX0_find_70 ?_
      refine lv_iload_n hx hb dX0_find_71 rfl (lv_at hl 1 rfl) ?_
      refine lv_icmp_ne (tgt := 79) hx hb dX0_find_72 (by decide) (fun c6 => ?_) (fun c6 => ?_)
      · rw [if_neg c6] at hf
        refine lv_iconst (v := (-1)) hx hb dX0_find_79 (by decide) ?_
        obtain rfl := Option.some.inj hf
        exact hend _ _ _ _ rfl hP hS dX0_find_80
      · rw [if_pos c6] at hf
        refine lv_iload_n hx hb dX0_find_75 rfl (lv_at hl 2 rfl) ?_
        refine lv_goto (tgt := 80) hx hb dX0_find_76 (by decide) ?_
        obtain rfl := Option.some.inj hf
        exact hend _ _ _ _ rfl hP hS dX0_find_80
  have J10 : ∀ (n : Nat) (x1 : Int32) (x2 : Int32) (x3 : Int32) (x4 : Int32) (H : Heap) (locs : List Loc) (ls : Array Slot), f0_find_l10 n v_rows v_count x1 x2 x3 x4 = some r0 → va_P D vwCl (wdA cI cZ h o v_threads v_rows v_ended v_known v_stepsInAll v_count v_standstills v_wrongOnes v_unlikeEnds) H → va_D A (wdA cI cZ h o v_threads v_rows v_ended v_known v_stepsInAll v_count v_standstills v_wrongOnes v_unlikeEnds) → va_S A s.heap H locs → lv_has ls 6 [(0, .ref (h o)), (1, .int x1), (2, .int x2), (3, .int x3), (4, .int x4)] → W p l e rm0_find s m args below meth c H locs 0 0 Q (F0 m 10 ls []) := by
    intro n
    induction n with
    | zero =>
      intro x1 x2 x3 x4 H locs ls hf
      cases (show (none : Option (Int32)) = some r0 from hf)
    | succ n ih =>
      have J51 : ∀ (x1 : Int32) (x2 : Int32) (x3 : Int32) (x4 : Int32) (H : Heap) (locs : List Loc) (ls : Array Slot), f0_find_b51 (f0_find_l10 n) v_rows v_count x1 x2 x3 x4 = some r0 → va_P D vwCl (wdA cI cZ h o v_threads v_rows v_ended v_known v_stepsInAll v_count v_standstills v_wrongOnes v_unlikeEnds) H → va_D A (wdA cI cZ h o v_threads v_rows v_ended v_known v_stepsInAll v_count v_standstills v_wrongOnes v_unlikeEnds) → va_S A s.heap H locs → lv_has ls 6 [(0, .ref (h o)), (1, .int x1), (2, .int x2), (3, .int x3), (4, .int x4)] → W p l e rm0_find s m args below meth c H locs 0 0 Q (F0 m 51 ls []) := by
        intro x1 x2 x3 x4 H locs ls hf hP hD hS hl
        rw [f0_find_b51] at hf
        refine lv_iinc (v := (x4 + 1)) (lv' := [(4, .int (x4 + 1)), (0, .ref (h o)), (1, .int x1), (2, .int x2), (3, .int x3)]) hx hb dX0_find_51 hl (k := 4) rfl rfl (by decide) rfl (fun ls hl => ?_)
        refine lv_goto (tgt := 10) hx hb dX0_find_54 (by decide) ?_
        exact ih x1 x2 x3 (x4 + 1) _ _ _ hf hP hD hS (lv_sub hl [1, 2, 3, 4, 0] rfl)
      intro x1 x2 x3 x4 H locs ls hf hP hD hS hl
      rw [f0_find_l10_s] at hf
      refine lv_iload hx hb dX0_find_10 (lv_at hl 4 rfl) ?_
      refine lv_bipush (v := 32) hx hb dX0_find_12 (by decide) ?_
      refine lv_icmp_ge (tgt := 57) hx hb dX0_find_14 (by decide) (fun c11 => ?_) (fun c11 => ?_)
      · rw [if_pos c11] at hf
        exact J57 x1 x2 _ _ _ hf hP hD hS (lv_sub hl [0, 1, 2] rfl)
      · rw [if_neg c11] at hf
        refine lv_iload_n hx hb dX0_find_17 rfl (lv_at hl 2 rfl) ?_
        refine lv_iload_n hx hb dX0_find_18 rfl (lv_at hl 3 rfl) ?_
        refine lv_icmp_ge (tgt := 57) hx hb dX0_find_19 (by decide) (fun c12 => ?_) (fun c12 => ?_)
        · rw [if_pos c12] at hf
          exact J57 x1 x2 _ _ _ hf hP hD hS (lv_sub hl [0, 1, 2] rfl)
        · rw [if_neg c12] at hf
          refine lv_iload_n hx hb dX0_find_22 rfl (lv_at hl 2 rfl) ?_
          refine lv_iload_n hx hb dX0_find_23 rfl (lv_at hl 3 rfl) ?_
          refine lv_iadd hx hb dX0_find_24 ?_
          refine lv_iconst (v := 2) hx hb dX0_find_25 (by decide) ?_
          refine lv_idiv hx hb dX0_find_26 (by decide) ?_
          refine lv_istore (lv' := [(5, .int ((x2 + x3) / (2 : Int32))), (0, .ref (h o)), (1, .int x1), (2, .int x2), (3, .int x3), (4, .int x4)]) hx hb dX0_find_27 hl (by decide) rfl (fun ls hl => ?_)
          refine lv_aload_n hx hb dX0_find_29 rfl (lv_at hl 1 rfl) ?_
          refine va_get (D := D) (cl := vwCl) (ci := 0) (v := .ref (h (o + 1))) (C := RX0) (T := TX0) (N := 9) hx hb hts hin0 hown hK hP 0 rfl rfl 1 (by decide) (hts (.fieldLink RX0 19 "StepOrders$AllOrders" "rows" "[I") (by decide +kernel)) (fun _ h9 => h9) rfl dX0_find_30 ?_
          refine lv_iload hx hb dX0_find_33 (lv_at hl 0 rfl) ?_
          refine kb_bind hf (fun v13 hv13 hf => ?_)
          refine ka_iald (D := D) (cl := vwCl) hx hb hK hP 1 1 (f := v_rows) rfl rfl (ard_in hv13) (ard_v hv13) dX0_find_35 ?_
          refine lv_iload_n hx hb dX0_find_36 rfl (lv_at hl 2 rfl) ?_
          refine lv_icmp_ge (tgt := 48) hx hb dX0_find_37 (by decide) (fun c14 => ?_) (fun c14 => ?_)
          · rw [if_pos c14] at hf
            refine lv_iload hx hb dX0_find_48 (lv_at hl 0 rfl) ?_
            refine lv_istore_n (lv' := [(3, .int ((x2 + x3) / (2 : Int32))), (5, .int ((x2 + x3) / (2 : Int32))), (0, .ref (h o)), (1, .int x1), (2, .int x2), (4, .int x4)]) hx hb dX0_find_50 rfl hl (by decide) rfl (fun ls hl => ?_)
            exact J51 x1 x2 ((x2 + x3) / (2 : Int32)) x4 _ _ _ hf hP hD hS (lv_sub hl [2, 3, 4, 0, 5] rfl)
          · rw [if_neg c14] at hf
            refine lv_iload hx hb dX0_find_40 (lv_at hl 0 rfl) ?_
            refine lv_iconst (v := 1) hx hb dX0_find_42 (by decide) ?_
            refine lv_iadd hx hb dX0_find_43 ?_
            refine lv_istore_n (lv' := [(2, .int (((x2 + x3) / (2 : Int32)) + (1 : Int32))), (5, .int ((x2 + x3) / (2 : Int32))), (0, .ref (h o)), (1, .int x1), (3, .int x3), (4, .int x4)]) hx hb dX0_find_44 rfl hl (by decide) rfl (fun ls hl => ?_)
            refine lv_goto (tgt := 51) hx hb dX0_find_45 (by decide) ?_
            exact J51 x1 (((x2 + x3) / (2 : Int32)) + (1 : Int32)) x3 x4 _ _ _ hf hP hD hS (lv_sub hl [2, 3, 0, 4, 5] rfl)
  rw [f0_find] at hf
  refine lv_iconst (v := 0) hx hb dX0_find_0 (by decide) ?_
  refine lv_istore_n (lv' := [(2, .int (0 : Int32)), (0, .ref (h o)), (1, .int x1)]) hx hb dX0_find_1 rfl hl (by decide) rfl (fun ls hl => ?_)
  refine lv_aload_n hx hb dX0_find_2 rfl (lv_at hl 1 rfl) ?_
  refine va_get (D := D) (cl := vwCl) (ci := 0) (v := .int v_count) (C := RX0) (T := TX0) (N := 9) hx hb hts hin0 hown hK hP 0 rfl rfl 5 (by decide) (hts (.fieldLink RX0 27 "StepOrders$AllOrders" "count" "I") (by decide +kernel)) (fun _ h9 => h9) rfl dX0_find_3 ?_
  refine lv_istore_n (lv' := [(3, .int v_count), (2, .int (0 : Int32)), (0, .ref (h o)), (1, .int x1)]) hx hb dX0_find_6 rfl hl (by decide) rfl (fun ls hl => ?_)
  refine lv_iconst (v := 0) hx hb dX0_find_7 (by decide) ?_
  refine lv_istore (lv' := [(4, .int (0 : Int32)), (3, .int v_count), (2, .int (0 : Int32)), (0, .ref (h o)), (1, .int x1)]) hx hb dX0_find_8 hl (by decide) rfl (fun ls hl => ?_)
  exact J10 kFUEL x1 (0 : Int32) v_count (0 : Int32) _ _ _ hf hP hD hS (lv_sub hl [3, 4, 2, 1, 0] rfl)
