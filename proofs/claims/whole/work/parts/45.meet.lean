set_option maxHeartbeats 4000000 in
set_option maxRecDepth 100000 in
theorem c1_placeOf (l : Launch) (D : va_G) (cB cI cZ cO : ClassId) (h : Nat → Nat) (sz : Nat) (x0 : Int64) (r0 : Int32) (hf : f1_placeOf x0 = some r0) : Met l yX1_placeOf wsX1_placeOf rm1_placeOf (va_Pc [.long x0] (kb_B D (ka_tys cB cI cZ cO) sz ([]))) (va_Qi (kb_post .int r0) (fun _ t => va_P D vwCl ([]) t.heap) (va_A ([]) sz)) 0 0 (va_A ([]) sz) := by
  refine kb_metZ (cc := cX1_placeOf) (maxL := 4) (ty := .int) (by decide) rfl (Nat.le_of_ble_eq_true rfl) ?_
  intro p e s m args below meth c Q A ls H hx hb hml hown hts hK hN hP hD hS hA hl hend
  have hown : s.vm.findClass RX1 = some m.cls := hown
  have hl : lv_has ls 4 [(0, .long x0)] := hl
  have J25 : ∀ (x2 : Int32) (H : Heap) (locs : List Loc) (ls : Array Slot), f1_placeOf_b25 x2 = some r0 → va_P D vwCl ([]) H → va_D A ([]) → va_S A s.heap H locs → lv_has ls 4 [(2, .int x2)] → W p l e rm1_placeOf s m args below meth c H locs 0 0 Q (F0 m 25 ls []) := by
    intro x2 H locs ls hf hP hD hS hl
    rw [f1_placeOf_b25] at hf
    refine lv_iload_n hx hb dX1_placeOf_25 rfl (lv_at hl 0 rfl) ?_
    obtain rfl := Option.some.inj hf
    exact hend _ _ _ _ rfl hP hS dX1_placeOf_26
  have J4 : ∀ (n : Nat) (x0 : Int64) (x2 : Int32) (x3 : Int32) (H : Heap) (locs : List Loc) (ls : Array Slot), f1_placeOf_l4 n x0 x2 x3 = some r0 → va_P D vwCl ([]) H → va_D A ([]) → va_S A s.heap H locs → lv_has ls 4 [(0, .long x0), (2, .int x2), (3, .int x3)] → W p l e rm1_placeOf s m args below meth c H locs 0 0 Q (F0 m 4 ls []) := by
    intro n
    induction n with
    | zero =>
      intro x0 x2 x3 H locs ls hf
      cases (show (none : Option (Int32)) = some r0 from hf)
    | succ n ih =>
      intro x0 x2 x3 H locs ls hf hP hD hS hl
      rw [f1_placeOf_l4_s] at hf
      refine lv_iload_n hx hb dX1_placeOf_4 rfl (lv_at hl 2 rfl) ?_
      refine lv_iconst (v := 3) hx hb dX1_placeOf_5 (by decide) ?_
      refine lv_icmp_ge (tgt := 25) hx hb dX1_placeOf_6 (by decide) (fun c3 => ?_) (fun c3 => ?_)
      · rw [if_pos c3] at hf
        exact J25 x2 _ _ _ hf hP hD hS (lv_sub hl [1] rfl)
      · rw [if_neg c3] at hf
        refine lv_iload_n hx hb dX1_placeOf_9 rfl (lv_at hl 1 rfl) ?_
        refine lv_iconst (v := 5) hx hb dX1_placeOf_10 (by decide) ?_
        refine lv_imul hx hb dX1_placeOf_11 ?_
        refine lv_lload_n hx hb dX1_placeOf_12 rfl (lv_at hl 0 rfl) ?_
        refine lv_iload_n hx hb dX1_placeOf_13 rfl (lv_at hl 2 rfl) ?_
        have hPc : va_P D vwCl ([]) H := hP.sub [] rfl
        have hDc : va_D A ([]) := hD.sub [] (by decide) rfl
        refine kd_iR (va_runS (As := [.long x0, .int x3]) (rest := [.int (x2 * (5 : Int32))]) ⟨hx, hb, hml, hown, hts⟩ (c2_doneOf l D cB cI cZ cO h H.size x0 x3 (f2_doneOf x0 x3) rfl) (va_cwS 2 hts gX1_placeOf_X2_doneOf rfl rfl rfl (by decide +kernel) ⟨Nat.le_of_ble_eq_true rfl, Nat.le_of_ble_eq_true rfl⟩) ⟨kb_blind, kb_pre hPc hDc hK hN⟩ rfl rfl hl.1 rfl (lv_room (Nat.le_of_ble_eq_true rfl)) dX1_placeOf_14 ⟨Nat.le_refl _, Nat.le_refl _⟩) hP hD hS hA [] rfl (fun H locs hn4 hP hS => ?_)
        refine lv_iadd hx hb dX1_placeOf_17 ?_
        refine lv_istore_n (lv' := [(2, .int ((x2 * (5 : Int32)) + (f2_doneOf x0 x3))), (0, .long x0), (3, .int x3)]) hx hb dX1_placeOf_18 rfl hl (by decide) rfl (fun ls hl => ?_)
        refine lv_iinc (v := (x3 + 1)) (lv' := [(3, .int (x3 + 1)), (2, .int ((x2 * (5 : Int32)) + (f2_doneOf x0 x3))), (0, .long x0)]) hx hb dX1_placeOf_19 hl (k := 2) rfl rfl (by decide) rfl (fun ls hl => ?_)
        refine lv_goto (tgt := 4) hx hb dX1_placeOf_22 (by decide) ?_
        exact ih x0 ((x2 * (5 : Int32)) + (f2_doneOf x0 x3)) (x3 + 1) _ _ _ hf hP hD hS (lv_sub hl [2, 1, 0] rfl)
  rw [f1_placeOf] at hf
  refine lv_iconst (v := 0) hx hb dX1_placeOf_0 (by decide) ?_
  refine lv_istore_n (lv' := [(2, .int (0 : Int32)), (0, .long x0)]) hx hb dX1_placeOf_1 rfl hl (by decide) rfl (fun ls hl => ?_)
  refine lv_iconst (v := 0) hx hb dX1_placeOf_2 (by decide) ?_
  refine lv_istore_n (lv' := [(3, .int (0 : Int32)), (2, .int (0 : Int32)), (0, .long x0)]) hx hb dX1_placeOf_3 rfl hl (by decide) rfl (fun ls hl => ?_)
  exact J4 kFUEL x0 (0 : Int32) (0 : Int32) _ _ _ hf hP hD hS (lv_sub hl [2, 1, 0] rfl)

set_option maxHeartbeats 4000000 in
set_option maxRecDepth 100000 in
theorem c1_reach (l : Launch) (D : va_G) (cB cI cZ cO : ClassId) : ∀ (nR : Nat) (h : Nat → Nat) (o : Nat) (o2 : Nat) (sz : Nat) (x2 : Int64) (x4 : Int32) (v_reached : Nat → Int32) (w_u : sT) (v_reached' : Nat → Int32) (hf : f1_reach nR v_reached w_u x2 x4 = some (v_reached')), Met l yX1_reach wsX1_reach (rm1_reach nR) (va_Pc [.ref (h o), .ref (h o2), .long x2, .int x4] (kb_B D (ka_tys cB cI cZ cO) sz (wdG cZ h o v_reached ++ wdS cI h o2 w_u))) (va_Qv (fun (_ : Unit) => True) (fun _ t => va_P D vwCl (wdG cZ h o (v_reached') ++ wdS cI h o2 w_u) t.heap) (va_A (wdG cZ h o v_reached ++ wdS cI h o2 w_u) sz)) 0 0 (va_A (wdG cZ h o v_reached ++ wdS cI h o2 w_u) sz) := by
  intro nR
  induction nR with
  | zero =>
    intro h o o2 sz x2 x4 v_reached w_u v_reached' hf
    cases (show (none : Option ((Nat → Int32))) = some (v_reached') from hf)
  | succ nR ihR =>
  intro h o o2 sz x2 x4 v_reached w_u v_reached' hf
  refine kb_metV (cc := cX1_reach) (maxL := 7) (by decide) rfl (Nat.le_of_ble_eq_true rfl) ?_
  intro p e s m args below meth c Q A ls H hx hb hml hown hts hK hN hP hD hS hA hl hend
  have hown : s.vm.findClass RX1 = some m.cls := hown
  have hl : lv_has ls 7 [(0, .ref (h o)), (1, .ref (h o2)), (2, .long x2), (4, .int x4)] := hl
  have hin1 : ∀ w ∈ u_ws RX1 TX1 1, w ∈ wsX1_reach := by decide +kernel
  have J45 : ∀ (n : Nat) (v_reached : Nat → Int32) (x2 : Int64) (x4 : Int32) (x6 : Int32) (H : Heap) (locs : List Loc) (ls : Array Slot), f1_reach_l45 (f1_reach nR) n v_reached w_u x2 x4 x6 = some (v_reached') → va_P D vwCl (wdG cZ h o v_reached ++ wdS cI h o2 w_u) H → va_D A (wdG cZ h o v_reached ++ wdS cI h o2 w_u) → va_S A s.heap H locs → lv_has ls 7 [(0, .ref (h o)), (1, .ref (h o2)), (2, .long x2), (4, .int x4), (6, .int x6)] → W p l e (rm1_reach (nR + 1)) s m args below meth c H locs 0 0 Q (F0 m 45 ls []) := by
    intro n
    induction n with
    | zero =>
      intro v_reached x2 x4 x6 H locs ls hf
      cases (show (none : Option ((Nat → Int32))) = some (v_reached') from hf)
    | succ n ih =>
      have J77 : ∀ (v_reached : Nat → Int32) (x2 : Int64) (x4 : Int32) (x6 : Int32) (H : Heap) (locs : List Loc) (ls : Array Slot), f1_reach_b77 (f1_reach nR) (f1_reach_l45 (f1_reach nR) n) v_reached w_u x2 x4 x6 = some (v_reached') → va_P D vwCl (wdG cZ h o v_reached ++ wdS cI h o2 w_u) H → va_D A (wdG cZ h o v_reached ++ wdS cI h o2 w_u) → va_S A s.heap H locs → lv_has ls 7 [(0, .ref (h o)), (1, .ref (h o2)), (2, .long x2), (4, .int x4), (6, .int x6)] → W p l e (rm1_reach (nR + 1)) s m args below meth c H locs 0 0 Q (F0 m 77 ls []) := by
        intro v_reached x2 x4 x6 H locs ls hf hP hD hS hl
        rw [f1_reach_b77] at hf
        refine lv_iinc (v := (x6 + 1)) (lv' := [(6, .int (x6 + 1)), (0, .ref (h o)), (1, .ref (h o2)), (2, .long x2), (4, .int x4)]) hx hb dX1_reach_77 hl (k := 4) rfl rfl (by decide) rfl (fun ls hl => ?_)
        refine lv_goto (tgt := 45) hx hb dX1_reach_80 (by decide) ?_
        exact ih v_reached x2 x4 (x6 + 1) _ _ _ hf hP hD hS (lv_sub hl [1, 2, 3, 4, 0] rfl)
      intro v_reached x2 x4 x6 H locs ls hf hP hD hS hl
      rw [f1_reach_l45_s] at hf
      refine lv_iload hx hb dX1_reach_45 (lv_at hl 4 rfl) ?_
      refine lv_iconst (v := 3) hx hb dX1_reach_47 (by decide) ?_
      refine lv_icmp_ge (tgt := 83) hx hb dX1_reach_48 (by decide) (fun c7 => ?_) (fun c7 => ?_)
      · rw [if_pos c7] at hf
        obtain rfl := Option.some.inj hf
        exact hend _ _ _ _ hP hS dX1_reach_83
      · rw [if_neg c7] at hf
        refine lv_aload_n hx hb dX1_reach_51 rfl (lv_at hl 1 rfl) ?_
        refine lv_lload_n hx hb dX1_reach_52 rfl (lv_at hl 2 rfl) ?_
        refine lv_iload hx hb dX1_reach_53 (lv_at hl 4 rfl) ?_
        refine kb_bind hf (fun q8 hq8 hf => ?_)
        have hPc : va_P D vwCl (wdS cI h o2 w_u) H := hP.sub [2, 3, 4] rfl
        have hDc : va_D A (wdS cI h o2 w_u) := hD.sub [2, 3, 4] (by decide) rfl
        refine kd_iR (va_runV (As := [.long x2, .int x6]) (rest := []) ⟨hx, hb, hml, hown, hts⟩ (c5_canDo l D cB cI cZ cO h o2 H.size x2 x6 w_u q8 hq8) (cwV 2 hts gX1_reach_X5_canDo rfl rfl rfl (by decide +kernel) ⟨by simp only [rm1_reach, rm5_canDo]; omega, by simp only [rm1_reach, rm5_canDo]; omega⟩) ⟨kb_blind, va_recv hK hPc (ci := 3) (q0 := 0) rfl rfl, kb_pre hPc hDc hK hN⟩ rfl rfl hl.1 rfl (lv_room (Nat.le_of_ble_eq_true rfl)) dX1_reach_55 ⟨Nat.le_refl _, Nat.le_refl _⟩) hP hD hS hA [2, 3, 4] rfl (fun H locs hn9 hP hS => ?_)
        refine lv_if_eq (tgt := 77) hx hb dX1_reach_58 (by decide) (fun c10 => ?_) (fun c10 => ?_)
        · rw [if_pos c10] at hf
          exact J77 v_reached x2 x4 x6 _ _ _ hf hP hD hS (lv_sub hl [0, 1, 2, 3, 4] rfl)
        · rw [if_neg c10] at hf
          refine lv_aload_n hx hb dX1_reach_61 rfl (lv_at hl 0 rfl) ?_
          refine lv_aload_n hx hb dX1_reach_62 rfl (lv_at hl 1 rfl) ?_
          refine lv_aload_n hx hb dX1_reach_63 rfl (lv_at hl 1 rfl) ?_
          refine lv_lload_n hx hb dX1_reach_64 rfl (lv_at hl 2 rfl) ?_
          refine lv_iload hx hb dX1_reach_65 (lv_at hl 4 rfl) ?_
          refine kb_bind hf (fun q11 hq11 hf => ?_)
          have hPc : va_P D vwCl (wdS cI h o2 w_u) H := hP.sub [2, 3, 4] rfl
          have hDc : va_D A (wdS cI h o2 w_u) := hD.sub [2, 3, 4] (by decide) rfl
          refine kd_lR (va_runV (As := [.long x2, .int x6]) (rest := [.ref (h o2), .ref (h o)]) ⟨hx, hb, hml, hown, hts⟩ (c5_stepDone l D cB cI cZ cO h o2 H.size x2 x6 w_u q11 hq11) (cwV 2 hts gX1_reach_X5_stepDone rfl rfl rfl (by decide +kernel) ⟨by simp only [rm1_reach, rm5_stepDone]; omega, by simp only [rm1_reach, rm5_stepDone]; omega⟩) ⟨kb_blind, va_recv hK hPc (ci := 3) (q0 := 0) rfl rfl, kb_pre hPc hDc hK hN⟩ rfl rfl hl.1 rfl (lv_room (Nat.le_of_ble_eq_true rfl)) dX1_reach_67 ⟨Nat.le_refl _, Nat.le_refl _⟩) hP hD hS hA [2, 3, 4] rfl (fun H locs hP hS => ?_)
          refine lv_iload hx hb dX1_reach_70 (lv_at hl 3 rfl) ?_
          refine lv_iconst (v := 1) hx hb dX1_reach_72 (by decide) ?_
          refine lv_iadd hx hb dX1_reach_73 ?_
          refine kb_bind hf (fun q12 hq12 hf => ?_)
          have hPc : va_P D vwCl (wdG cZ h o v_reached ++ wdS cI h o2 w_u) H := hP.sub [0, 1, 2, 3, 4] rfl
          have hDc : va_D A (wdG cZ h o v_reached ++ wdS cI h o2 w_u) := hD.sub [0, 1, 2, 3, 4] (by decide) rfl
          refine kd_vW (ws' := wdG cZ h o q12 ++ wdS cI h o2 w_u) (va_runS (As := [.ref (h o), .ref (h o2), .long q11, .int (x4 + (1 : Int32))]) (rest := []) ⟨hx, hb, hml, hown, hts⟩ (ihR h o o2 H.size q11 (x4 + (1 : Int32)) v_reached w_u q12 hq12) (va_cwS 4 hts gX1_reach_X1_reach rfl rfl rfl (by decide +kernel) ⟨by simp only [rm1_reach, rm1_reach]; omega, by simp only [rm1_reach, rm1_reach]; omega⟩) ⟨kb_blind, kb_pre hPc hDc hK hN⟩ rfl rfl hl.1 rfl (lv_room (Nat.le_of_ble_eq_true rfl)) dX1_reach_74 ⟨Nat.le_refl _, Nat.le_refl _⟩) hP hD hS hA [0, 1, 2, 3, 4] [] rfl rfl (fun _ h9 => absurd h9 List.not_mem_nil) rfl rfl (fun H locs hP hD hS => ?_)
          exact J77 q12 x2 x4 x6 _ _ _ hf hP hD hS (lv_sub hl [0, 1, 2, 3, 4] rfl)
  rw [f1_reach_s] at hf
  refine lv_lload_n hx hb dX1_reach_0 rfl (lv_at hl 2 rfl) ?_
  refine kb_bind hf (fun q13 hq13 hf => ?_)
  have hPc : va_P D vwCl ([]) H := hP.sub [] rfl
  have hDc : va_D A ([]) := hD.sub [] (by decide) rfl
  refine kd_iR (va_runS (As := [.long x2]) (rest := []) ⟨hx, hb, hml, hown, hts⟩ (c1_placeOf l D cB cI cZ cO h H.size x2 q13 hq13) (va_cwS 1 hts gX1_reach_X1_placeOf rfl rfl rfl (by decide +kernel) ⟨by simp only [rm1_reach, rm1_placeOf]; omega, by simp only [rm1_reach, rm1_placeOf]; omega⟩) ⟨kb_blind, kb_pre hPc hDc hK hN⟩ rfl rfl hl.1 rfl (lv_room (Nat.le_of_ble_eq_true rfl)) dX1_reach_1 ⟨Nat.le_refl _, Nat.le_refl _⟩) hP hD hS hA [] rfl (fun H locs hn14 hP hS => ?_)
  refine lv_istore (lv' := [(5, .int q13), (0, .ref (h o)), (1, .ref (h o2)), (2, .long x2), (4, .int x4)]) hx hb dX1_reach_4 hl (by decide) rfl (fun ls hl => ?_)
  refine lv_iload hx hb dX1_reach_6 (lv_at hl 4 rfl) ?_
  refine lv_bipush (v := 12) hx hb dX1_reach_8 (by decide) ?_
  refine lv_icmp_gt (tgt := 33) hx hb dX1_reach_10 (by decide) (fun c15 => ?_) (fun c15 => ?_)
  · rw [if_pos c15] at hf
    obtain rfl := Option.some.inj hf
    exact hend _ _ _ _ hP hS dX1_reach_33
  · rw [if_neg c15] at hf
    refine lv_iload hx hb dX1_reach_13 (lv_at hl 0 rfl) ?_
    refine lv_bipush (v := 125) hx hb dX1_reach_15 (by decide) ?_
    have hPc : va_P D vwCl ([]) H := hP.sub [] rfl
    have hDc : va_D A ([]) := hD.sub [] (by decide) rfl
    refine kd_iR (va_runSN (As := [.int q13, .int (125 : Int32)]) (rest := []) ⟨hx, hb, hml, hown, hts⟩ (c8_below l D cB cI cZ cO h H.size q13 (125 : Int32) (f8_below q13 (125 : Int32)) rfl) ⟨va_cnB 2 hts gX1_reach_X8_below_n29 rfl rfl rfl hN.2.1 (hts (.initialized RX8) (by decide +kernel)) (by decide +kernel) ⟨by simp only [rm1_reach, rm8_below]; omega, by simp only [rm1_reach, rm8_below]; omega⟩, hts (.static yX8_below) (by decide +kernel), trivial⟩ ⟨kb_blind, kb_pre hPc hDc hK hN⟩ rfl rfl hl.1 rfl (lv_room (Nat.le_of_ble_eq_true rfl)) dX1_reach_17 ⟨Nat.le_refl _, Nat.le_refl _⟩) hP hD hS hA [] rfl (fun H locs hn16 hP hS => ?_)
    refine lv_if_eq (tgt := 33) hx hb dX1_reach_20 (by decide) (fun c17 => ?_) (fun c17 => ?_)
    · rw [if_pos c17] at hf
      obtain rfl := Option.some.inj hf
      exact hend _ _ _ _ hP hS dX1_reach_33
    · rw [if_neg c17] at hf
      refine lv_aload_n hx hb dX1_reach_23 rfl (lv_at hl 1 rfl) ?_
      refine va_get (D := D) (cl := vwCl) (ci := 1) (v := .ref (h (o + 1))) (C := RX1) (T := TX1) (N := 1) hx hb hts hin1 hown hK hP 0 rfl rfl 0 (by decide) (hts (.fieldLink RX1 11 "StepOrders$Meetings" "reached" "[Z") (by decide +kernel)) (fun _ h9 => h9) rfl dX1_reach_24 ?_
      refine lv_iload hx hb dX1_reach_27 (lv_at hl 0 rfl) ?_
      refine kb_bind hf (fun v18 hv18 hf => ?_)
      refine ka_zald (D := D) (cl := vwCl) hx hb hK hP 1 2 (f := v_reached) rfl rfl (ard_in hv18) (ard_v hv18) dX1_reach_29 ?_
      refine lv_if_eq (tgt := 34) hx hb dX1_reach_30 (by decide) (fun c19 => ?_) (fun c19 => ?_)
      · rw [if_pos c19] at hf
        refine lv_aload_n hx hb dX1_reach_34 rfl (lv_at hl 1 rfl) ?_
        refine va_get (D := D) (cl := vwCl) (ci := 1) (v := .ref (h (o + 1))) (C := RX1) (T := TX1) (N := 1) hx hb hts hin1 hown hK hP 0 rfl rfl 0 (by decide) (hts (.fieldLink RX1 11 "StepOrders$Meetings" "reached" "[Z") (by decide +kernel)) (fun _ h9 => h9) rfl dX1_reach_35 ?_
        refine lv_iload hx hb dX1_reach_38 (lv_at hl 0 rfl) ?_
        refine lv_iconst (v := 1) hx hb dX1_reach_40 (by decide) ?_
        refine kb_bind hf (fun v20 hv20 hf => ?_)
        refine ka_zast (D := D) (cl := vwCl) hx hb hK hP hD hS 1 2 (f := v_reached) (g := v20) rfl rfl (awr_in hv20) (awr_v hv20) dX1_reach_41 (fun H locs hP hD hS => ?_)
        have hP : va_P D vwCl (wdG cZ h o v20 ++ wdS cI h o2 w_u) H := hP
        have hD : va_D A (wdG cZ h o v20 ++ wdS cI h o2 w_u) := hD
        refine lv_iconst (v := 0) hx hb dX1_reach_42 (by decide) ?_
        refine lv_istore (lv' := [(6, .int (0 : Int32)), (5, .int q13), (0, .ref (h o)), (1, .ref (h o2)), (2, .long x2), (4, .int x4)]) hx hb dX1_reach_43 hl (by decide) rfl (fun ls hl => ?_)
        exact J45 kFUEL v20 x2 x4 (0 : Int32) _ _ _ hf hP hD hS (lv_sub hl [2, 3, 4, 5, 0] rfl)
      · rw [if_neg c19] at hf
        obtain rfl := Option.some.inj hf
        exact hend _ _ _ _ hP hS dX1_reach_33

set_option maxHeartbeats 4000000 in
set_option maxRecDepth 100000 in
theorem c1_goThrough (l : Launch) (D : va_G) (cB cI cZ cO : ClassId) (h : Nat → Nat) (o : Nat) (o2 : Nat) (sz : Nat) (v_reached : Nat → Int32) (w_u : sT) (v_reached' : Nat → Int32) (hf : f1_goThrough v_reached w_u = some (v_reached')) : Met l yX1_goThrough wsX1_goThrough rm1_goThrough (va_Pc [.ref (h o), .ref (h o2)] (kb_B D (ka_tys cB cI cZ cO) sz (wdG cZ h o v_reached ++ wdS cI h o2 w_u))) (va_Qv (fun (_ : Unit) => True) (fun _ t => va_P D vwCl (wdG cZ h o (v_reached') ++ wdS cI h o2 w_u) t.heap) (va_A (wdG cZ h o v_reached ++ wdS cI h o2 w_u) sz)) 0 0 (va_A (wdG cZ h o v_reached ++ wdS cI h o2 w_u) sz) := by
  refine kb_metV (cc := cX1_goThrough) (maxL := 3) (by decide) rfl (Nat.le_of_ble_eq_true rfl) ?_
  intro p e s m args below meth c Q A ls H hx hb hml hown hts hK hN hP hD hS hA hl hend
  have hown : s.vm.findClass RX1 = some m.cls := hown
  have hl : lv_has ls 3 [(0, .ref (h o)), (1, .ref (h o2))] := hl
  have hin1 : ∀ w ∈ u_ws RX1 TX1 1, w ∈ wsX1_goThrough := by decide +kernel
  have J21 : ∀ (v_reached : Nat → Int32) (H : Heap) (locs : List Loc) (ls : Array Slot), f1_goThrough_b21 v_reached w_u = some (v_reached') → va_P D vwCl (wdG cZ h o v_reached ++ wdS cI h o2 w_u) H → va_D A (wdG cZ h o v_reached ++ wdS cI h o2 w_u) → va_S A s.heap H locs → lv_has ls 3 [(0, .ref (h o)), (1, .ref (h o2))] → W p l e rm1_goThrough s m args below meth c H locs 0 0 Q (F0 m 21 ls []) := by
    intro v_reached H locs ls hf hP hD hS hl
    rw [f1_goThrough_b21] at hf
    refine lv_aload_n hx hb dX1_goThrough_21 rfl (lv_at hl 0 rfl) ?_
    refine lv_aload_n hx hb dX1_goThrough_22 rfl (lv_at hl 1 rfl) ?_
    refine lv_aload_n hx hb dX1_goThrough_23 rfl (lv_at hl 1 rfl) ?_
    have hPc : va_P D vwCl (wdS cI h o2 w_u) H := hP.sub [2, 3, 4] rfl
    have hDc : va_D A (wdS cI h o2 w_u) := hD.sub [2, 3, 4] (by decide) rfl
    refine kd_lR (va_runV (As := []) (rest := [.ref (h o2), .ref (h o)]) ⟨hx, hb, hml, hown, hts⟩ (c5_beginning l D cB cI cZ cO h o2 H.size w_u (f5_beginning w_u) rfl) (cwV 0 hts gX1_goThrough_X5_beginning rfl rfl rfl (by decide +kernel) ⟨Nat.le_of_ble_eq_true rfl, Nat.le_of_ble_eq_true rfl⟩) ⟨kb_blind, va_recv hK hPc (ci := 3) (q0 := 0) rfl rfl, kb_pre hPc hDc hK hN⟩ rfl rfl hl.1 rfl (lv_room (Nat.le_of_ble_eq_true rfl)) dX1_goThrough_24 ⟨Nat.le_refl _, Nat.le_refl _⟩) hP hD hS hA [2, 3, 4] rfl (fun H locs hP hS => ?_)
    refine lv_iconst (v := 0) hx hb dX1_goThrough_27 (by decide) ?_
    refine kb_bind hf (fun q2 hq2 hf => ?_)
    have hPc : va_P D vwCl (wdG cZ h o v_reached ++ wdS cI h o2 w_u) H := hP.sub [0, 1, 2, 3, 4] rfl
    have hDc : va_D A (wdG cZ h o v_reached ++ wdS cI h o2 w_u) := hD.sub [0, 1, 2, 3, 4] (by decide) rfl
    refine kd_vW (ws' := wdG cZ h o q2 ++ wdS cI h o2 w_u) (va_runS (As := [.ref (h o), .ref (h o2), .long (f5_beginning w_u), .int (0 : Int32)]) (rest := []) ⟨hx, hb, hml, hown, hts⟩ (c1_reach l D cB cI cZ cO kDEEP h o o2 H.size (f5_beginning w_u) (0 : Int32) v_reached w_u q2 hq2) (va_cwS 4 hts gX1_goThrough_X1_reach rfl rfl rfl (by decide +kernel) ⟨Nat.le_of_ble_eq_true rfl, Nat.le_of_ble_eq_true rfl⟩) ⟨kb_blind, kb_pre hPc hDc hK hN⟩ rfl rfl hl.1 rfl (lv_room (Nat.le_of_ble_eq_true rfl)) dX1_goThrough_28 ⟨Nat.le_refl _, Nat.le_refl _⟩) hP hD hS hA [0, 1, 2, 3, 4] [] rfl rfl (fun _ h9 => absurd h9 List.not_mem_nil) rfl rfl (fun H locs hP hD hS => ?_)
    obtain rfl := Option.some.inj hf
    exact hend _ _ _ _ hP hS dX1_goThrough_31
  have J2 : ∀ (n : Nat) (v_reached : Nat → Int32) (x2 : Int32) (H : Heap) (locs : List Loc) (ls : Array Slot), f1_goThrough_l2 n v_reached w_u x2 = some (v_reached') → va_P D vwCl (wdG cZ h o v_reached ++ wdS cI h o2 w_u) H → va_D A (wdG cZ h o v_reached ++ wdS cI h o2 w_u) → va_S A s.heap H locs → lv_has ls 3 [(0, .ref (h o)), (1, .ref (h o2)), (2, .int x2)] → W p l e rm1_goThrough s m args below meth c H locs 0 0 Q (F0 m 2 ls []) := by
    intro n
    induction n with
    | zero =>
      intro v_reached x2 H locs ls hf
      cases (show (none : Option ((Nat → Int32))) = some (v_reached') from hf)
    | succ n ih =>
      intro v_reached x2 H locs ls hf hP hD hS hl
      rw [f1_goThrough_l2_s] at hf
      refine lv_iload_n hx hb dX1_goThrough_2 rfl (lv_at hl 2 rfl) ?_
      refine lv_bipush (v := 125) hx hb dX1_goThrough_3 (by decide) ?_
      refine lv_icmp_ge (tgt := 21) hx hb dX1_goThrough_5 (by decide) (fun c5 => ?_) (fun c5 => ?_)
      · rw [if_pos c5] at hf
        exact J21 v_reached _ _ _ hf hP hD hS (lv_sub hl [0, 1] rfl)
      · rw [if_neg c5] at hf
        refine lv_aload_n hx hb dX1_goThrough_8 rfl (lv_at hl 0 rfl) ?_
        refine va_get (D := D) (cl := vwCl) (ci := 1) (v := .ref (h (o + 1))) (C := RX1) (T := TX1) (N := 1) hx hb hts hin1 hown hK hP 0 rfl rfl 0 (by decide) (hts (.fieldLink RX1 11 "StepOrders$Meetings" "reached" "[Z") (by decide +kernel)) (fun _ h9 => h9) rfl dX1_goThrough_9 ?_
        refine lv_iload_n hx hb dX1_goThrough_12 rfl (lv_at hl 2 rfl) ?_
        refine lv_iconst (v := 0) hx hb dX1_goThrough_13 (by decide) ?_
        refine kb_bind hf (fun v6 hv6 hf => ?_)
        refine ka_zast (D := D) (cl := vwCl) hx hb hK hP hD hS 1 2 (f := v_reached) (g := v6) rfl rfl (awr_in hv6) (awr_v hv6) dX1_goThrough_14 (fun H locs hP hD hS => ?_)
        have hP : va_P D vwCl (wdG cZ h o v6 ++ wdS cI h o2 w_u) H := hP
        have hD : va_D A (wdG cZ h o v6 ++ wdS cI h o2 w_u) := hD
        refine lv_iinc (v := (x2 + 1)) (lv' := [(2, .int (x2 + 1)), (0, .ref (h o)), (1, .ref (h o2))]) hx hb dX1_goThrough_15 hl (k := 2) rfl rfl (by decide) rfl (fun ls hl => ?_)
        refine lv_goto (tgt := 2) hx hb dX1_goThrough_18 (by decide) ?_
        exact ih v6 (x2 + 1) _ _ _ hf hP hD hS (lv_sub hl [1, 2, 0] rfl)
  rw [f1_goThrough] at hf
  refine lv_iconst (v := 0) hx hb dX1_goThrough_0 (by decide) ?_
  refine lv_istore_n (lv' := [(2, .int (0 : Int32)), (0, .ref (h o)), (1, .ref (h o2))]) hx hb dX1_goThrough_1 rfl hl (by decide) rfl (fun ls hl => ?_)
  exact J2 kFUEL v_reached (0 : Int32) _ _ _ hf hP hD hS (lv_sub hl [1, 2, 0] rfl)

set_option maxHeartbeats 4000000 in
set_option maxRecDepth 100000 in
theorem c1_isRace (l : Launch) (D : va_G) (cB cI cZ cO : ClassId) (h : Nat → Nat) (o : Nat) (o2 : Nat) (sz : Nat) (x2 : Int32) (x3 : Int32) (x4 : Int32) (x5 : Int32) (v_reached : Nat → Int32) (w_u : sT) (r0 : Int32) (hf : f1_isRace v_reached w_u x2 x3 x4 x5 = some r0) : Met l yX1_isRace wsX1_isRace rm1_isRace (va_Pc [.ref (h o), .ref (h o2), .int x2, .int x3, .int x4, .int x5] (kb_B D (ka_tys cB cI cZ cO) sz (wdG cZ h o v_reached ++ wdS cI h o2 w_u))) (va_Qi (kb_post .boolean r0) (fun _ t => va_P D vwCl (wdG cZ h o v_reached ++ wdS cI h o2 w_u) t.heap) (va_A (wdG cZ h o v_reached ++ wdS cI h o2 w_u) sz)) 0 0 (va_A (wdG cZ h o v_reached ++ wdS cI h o2 w_u) sz) := by
  refine kb_metZ (cc := cX1_isRace) (maxL := 11) (ty := .boolean) (by decide) rfl (Nat.le_of_ble_eq_true rfl) ?_
  intro p e s m args below meth c Q A ls H hx hb hml hown hts hK hN hP hD hS hA hl hend
  have hown : s.vm.findClass RX1 = some m.cls := hown
  have hl : lv_has ls 11 [(0, .ref (h o)), (1, .ref (h o2)), (2, .int x2), (3, .int x3), (4, .int x4), (5, .int x5)] := hl
  have hin1 : ∀ w ∈ u_ws RX1 TX1 1, w ∈ wsX1_isRace := by decide +kernel
  have J48 : ∀ (n : Nat) (x6 : Int32) (x7 : Int64) (x9 : Int32) (H : Heap) (locs : List Loc) (ls : Array Slot), f1_isRace_l48 n v_reached w_u x6 x7 x9 = some r0 → va_P D vwCl (wdG cZ h o v_reached ++ wdS cI h o2 w_u) H → va_D A (wdG cZ h o v_reached ++ wdS cI h o2 w_u) → va_S A s.heap H locs → lv_has ls 11 [(0, .ref (h o)), (6, .int x6), (7, .long x7), (9, .int x9)] → W p l e rm1_isRace s m args below meth c H locs 0 0 Q (F0 m 48 ls []) := by
    intro n
    induction n with
    | zero =>
      intro x6 x7 x9 H locs ls hf
      cases (show (none : Option (Int32)) = some r0 from hf)
    | succ n ih =>
      have J90 : ∀ (x6 : Int32) (x7 : Int64) (x9 : Int32) (H : Heap) (locs : List Loc) (ls : Array Slot), f1_isRace_b90 (f1_isRace_l48 n) v_reached w_u x6 x7 x9 = some r0 → va_P D vwCl (wdG cZ h o v_reached ++ wdS cI h o2 w_u) H → va_D A (wdG cZ h o v_reached ++ wdS cI h o2 w_u) → va_S A s.heap H locs → lv_has ls 11 [(0, .ref (h o)), (6, .int x6), (7, .long x7), (9, .int x9)] → W p l e rm1_isRace s m args below meth c H locs 0 0 Q (F0 m 90 ls []) := by
        intro x6 x7 x9 H locs ls hf hP hD hS hl
        rw [f1_isRace_b90] at hf
        refine lv_iinc (v := (x9 + 1)) (lv' := [(9, .int (x9 + 1)), (0, .ref (h o)), (6, .int x6), (7, .long x7)]) hx hb dX1_isRace_90 hl (k := 3) rfl rfl (by decide) rfl (fun ls hl => ?_)
        refine lv_goto (tgt := 48) hx hb dX1_isRace_93 (by decide) ?_
        exact ih x6 x7 (x9 + 1) _ _ _ hf hP hD hS (lv_sub hl [1, 2, 3, 0] rfl)
      intro x6 x7 x9 H locs ls hf hP hD hS hl
      rw [f1_isRace_l48_s] at hf
      refine lv_iload hx hb dX1_isRace_48 (lv_at hl 3 rfl) ?_
      refine lv_iconst (v := 4) hx hb dX1_isRace_50 (by decide) ?_
      refine lv_icmp_gt (tgt := 96) hx hb dX1_isRace_51 (by decide) (fun c8 => ?_) (fun c8 => ?_)
      · rw [if_pos c8] at hf
        refine lv_iconst (v := 0) hx hb dX1_isRace_96 (by decide) ?_
        obtain rfl := Option.some.inj hf
        exact hend _ _ _ _ rfl hP hS dX1_isRace_97
      · rw [if_neg c8] at hf
        refine lv_lload hx hb dX1_isRace_54 (lv_at hl 2 rfl) ?_
        refine lv_iload hx hb dX1_isRace_56 (lv_at hl 1 rfl) ?_
        refine lv_iload hx hb dX1_isRace_58 (lv_at hl 3 rfl) ?_
        have hPc : va_P D vwCl ([]) H := hP.sub [] rfl
        have hDc : va_D A ([]) := hD.sub [] (by decide) rfl
        refine kd_lR (va_runS (As := [.long x7, .int x6, .int x9]) (rest := []) ⟨hx, hb, hml, hown, hts⟩ (c2_withDone l D cB cI cZ cO h H.size x7 x6 x9 (f2_withDone x7 x6 x9) rfl) (va_cwS 3 hts gX1_isRace_X2_withDone rfl rfl rfl (by decide +kernel) ⟨Nat.le_of_ble_eq_true rfl, Nat.le_of_ble_eq_true rfl⟩) ⟨kb_blind, kb_pre hPc hDc hK hN⟩ rfl rfl hl.1 rfl (lv_room (Nat.le_of_ble_eq_true rfl)) dX1_isRace_60 ⟨Nat.le_refl _, Nat.le_refl _⟩) hP hD hS hA [] rfl (fun H locs hP hS => ?_)
        refine kb_bind hf (fun q9 hq9 hf => ?_)
        have hPc : va_P D vwCl ([]) H := hP.sub [] rfl
        have hDc : va_D A ([]) := hD.sub [] (by decide) rfl
        refine kd_iR (va_runS (As := [.long (f2_withDone x7 x6 x9)]) (rest := []) ⟨hx, hb, hml, hown, hts⟩ (c1_placeOf l D cB cI cZ cO h H.size (f2_withDone x7 x6 x9) q9 hq9) (va_cwS 1 hts gX1_isRace_X1_placeOf rfl rfl rfl (by decide +kernel) ⟨Nat.le_of_ble_eq_true rfl, Nat.le_of_ble_eq_true rfl⟩) ⟨kb_blind, kb_pre hPc hDc hK hN⟩ rfl rfl hl.1 rfl (lv_room (Nat.le_of_ble_eq_true rfl)) dX1_isRace_63 ⟨Nat.le_refl _, Nat.le_refl _⟩) hP hD hS hA [] rfl (fun H locs hn10 hP hS => ?_)
        refine lv_istore (lv' := [(10, .int q9), (0, .ref (h o)), (6, .int x6), (7, .long x7), (9, .int x9)]) hx hb dX1_isRace_66 hl (by decide) rfl (fun ls hl => ?_)
        refine lv_iload hx hb dX1_isRace_68 (lv_at hl 0 rfl) ?_
        refine lv_bipush (v := 125) hx hb dX1_isRace_70 (by decide) ?_
        have hPc : va_P D vwCl ([]) H := hP.sub [] rfl
        have hDc : va_D A ([]) := hD.sub [] (by decide) rfl
        refine kd_iR (va_runSN (As := [.int q9, .int (125 : Int32)]) (rest := []) ⟨hx, hb, hml, hown, hts⟩ (c8_below l D cB cI cZ cO h H.size q9 (125 : Int32) (f8_below q9 (125 : Int32)) rfl) ⟨va_cnB 2 hts gX1_isRace_X8_below_n29 rfl rfl rfl hN.2.1 (hts (.initialized RX8) (by decide +kernel)) (by decide +kernel) ⟨Nat.le_of_ble_eq_true rfl, Nat.le_of_ble_eq_true rfl⟩, hts (.static yX8_below) (by decide +kernel), trivial⟩ ⟨kb_blind, kb_pre hPc hDc hK hN⟩ rfl rfl hl.1 rfl (lv_room (Nat.le_of_ble_eq_true rfl)) dX1_isRace_72 ⟨Nat.le_refl _, Nat.le_refl _⟩) hP hD hS hA [] rfl (fun H locs hn11 hP hS => ?_)
        refine lv_if_eq (tgt := 90) hx hb dX1_isRace_75 (by decide) (fun c12 => ?_) (fun c12 => ?_)
        · rw [if_pos c12] at hf
          exact J90 x6 x7 x9 _ _ _ hf hP hD hS (lv_sub hl [1, 2, 3, 4] rfl)
        · rw [if_neg c12] at hf
          refine lv_aload_n hx hb dX1_isRace_78 rfl (lv_at hl 1 rfl) ?_
          refine va_get (D := D) (cl := vwCl) (ci := 1) (v := .ref (h (o + 1))) (C := RX1) (T := TX1) (N := 1) hx hb hts hin1 hown hK hP 0 rfl rfl 0 (by decide) (hts (.fieldLink RX1 11 "StepOrders$Meetings" "reached" "[Z") (by decide +kernel)) (fun _ h9 => h9) rfl dX1_isRace_79 ?_
          refine lv_iload hx hb dX1_isRace_82 (lv_at hl 0 rfl) ?_
          refine kb_bind hf (fun v13 hv13 hf => ?_)
          refine ka_zald (D := D) (cl := vwCl) hx hb hK hP 1 2 (f := v_reached) rfl rfl (ard_in hv13) (ard_v hv13) dX1_isRace_84 ?_
          refine lv_if_eq (tgt := 90) hx hb dX1_isRace_85 (by decide) (fun c14 => ?_) (fun c14 => ?_)
          · rw [if_pos c14] at hf
            exact J90 x6 x7 x9 _ _ _ hf hP hD hS (lv_sub hl [1, 2, 3, 4] rfl)
          · rw [if_neg c14] at hf
            refine lv_iconst (v := 1) hx hb dX1_isRace_88 (by decide) ?_
            obtain rfl := Option.some.inj hf
            exact hend _ _ _ _ rfl hP hS dX1_isRace_89
  rw [f1_isRace] at hf
  refine lv_aload_n hx hb dX1_isRace_0 rfl (lv_at hl 1 rfl) ?_
  refine lv_iload_n hx hb dX1_isRace_1 rfl (lv_at hl 2 rfl) ?_
  refine lv_iload_n hx hb dX1_isRace_2 rfl (lv_at hl 3 rfl) ?_
  refine kb_bind hf (fun q15 hq15 hf => ?_)
  have hPc : va_P D vwCl (wdS cI h o2 w_u) H := hP.sub [2, 3, 4] rfl
  have hDc : va_D A (wdS cI h o2 w_u) := hD.sub [2, 3, 4] (by decide) rfl
  refine kd_iR (va_runV (As := [.int x2, .int x3]) (rest := []) ⟨hx, hb, hml, hown, hts⟩ (c5_stepAt l D cB cI cZ cO h o2 H.size x2 x3 w_u q15 hq15) (cwV 2 hts gX1_isRace_X5_stepAt rfl rfl rfl (by decide +kernel) ⟨Nat.le_of_ble_eq_true rfl, Nat.le_of_ble_eq_true rfl⟩) ⟨kb_blind, va_recv hK hPc (ci := 3) (q0 := 0) rfl rfl, kb_pre hPc hDc hK hN⟩ rfl rfl hl.1 rfl (lv_room (Nat.le_of_ble_eq_true rfl)) dX1_isRace_3 ⟨Nat.le_refl _, Nat.le_refl _⟩) hP hD hS hA [2, 3, 4] rfl (fun H locs hn16 hP hS => ?_)
  refine lv_aload_n hx hb dX1_isRace_6 rfl (lv_at hl 1 rfl) ?_
  refine lv_iload hx hb dX1_isRace_7 (lv_at hl 4 rfl) ?_
  refine lv_iload hx hb dX1_isRace_9 (lv_at hl 5 rfl) ?_
  refine kb_bind hf (fun q17 hq17 hf => ?_)
  have hPc : va_P D vwCl (wdS cI h o2 w_u) H := hP.sub [2, 3, 4] rfl
  have hDc : va_D A (wdS cI h o2 w_u) := hD.sub [2, 3, 4] (by decide) rfl
  refine kd_iR (va_runV (As := [.int x4, .int x5]) (rest := [.int q15]) ⟨hx, hb, hml, hown, hts⟩ (c5_stepAt l D cB cI cZ cO h o2 H.size x4 x5 w_u q17 hq17) (cwV 2 hts gX1_isRace_X5_stepAt rfl rfl rfl (by decide +kernel) ⟨Nat.le_of_ble_eq_true rfl, Nat.le_of_ble_eq_true rfl⟩) ⟨kb_blind, va_recv hK hPc (ci := 3) (q0 := 0) rfl rfl, kb_pre hPc hDc hK hN⟩ rfl rfl hl.1 rfl (lv_room (Nat.le_of_ble_eq_true rfl)) dX1_isRace_11 ⟨Nat.le_refl _, Nat.le_refl _⟩) hP hD hS hA [2, 3, 4] rfl (fun H locs hn18 hP hS => ?_)
  have hPc : va_P D vwCl ([]) H := hP.sub [] rfl
  have hDc : va_D A ([]) := hD.sub [] (by decide) rfl
  refine kd_iR (va_runS (As := [.int q15, .int q17]) (rest := []) ⟨hx, hb, hml, hown, hts⟩ (c6_tiedByNumber l D cB cI cZ cO h H.size q15 q17 (f6_tiedByNumber q15 q17) rfl) (va_cwS 2 hts gX1_isRace_X6_tiedByNumber rfl rfl rfl (by decide +kernel) ⟨Nat.le_of_ble_eq_true rfl, Nat.le_of_ble_eq_true rfl⟩) ⟨kb_blind, kb_pre hPc hDc hK hN⟩ rfl rfl hl.1 rfl (lv_room (Nat.le_of_ble_eq_true rfl)) dX1_isRace_14 ⟨Nat.le_refl _, Nat.le_refl _⟩) hP hD hS hA [] rfl (fun H locs hn19 hP hS => ?_)
  refine lv_if_ne (tgt := 22) hx hb dX1_isRace_17 (by decide) (fun c20 => ?_) (fun c20 => ?_)
  · rw [if_neg c20] at hf
    refine lv_iconst (v := 3) hx hb dX1_isRace_22 (by decide) ?_
    refine lv_iload_n hx hb dX1_isRace_23 rfl (lv_at hl 2 rfl) ?_
    refine lv_isub hx hb dX1_isRace_24 ?_
    refine lv_iload hx hb dX1_isRace_25 (lv_at hl 4 rfl) ?_
    refine lv_isub hx hb dX1_isRace_27 ?_
    refine lv_istore (lv' := [(6, .int (((3 : Int32) - x2) - x4)), (0, .ref (h o)), (1, .ref (h o2)), (2, .int x2), (3, .int x3), (4, .int x4), (5, .int x5)]) hx hb dX1_isRace_28 hl (by decide) rfl (fun ls hl => ?_)
    refine lv_lconst (v := 0) hx hb dX1_isRace_30 (by decide) ?_
    refine lv_iload_n hx hb dX1_isRace_31 rfl (lv_at hl 3 rfl) ?_
    refine lv_iload_n hx hb dX1_isRace_32 rfl (lv_at hl 4 rfl) ?_
    have hPc : va_P D vwCl ([]) H := hP.sub [] rfl
    have hDc : va_D A ([]) := hD.sub [] (by decide) rfl
    refine kd_lR (va_runS (As := [.long (0 : Int64), .int x2, .int x3]) (rest := []) ⟨hx, hb, hml, hown, hts⟩ (c2_withDone l D cB cI cZ cO h H.size (0 : Int64) x2 x3 (f2_withDone (0 : Int64) x2 x3) rfl) (va_cwS 3 hts gX1_isRace_X2_withDone rfl rfl rfl (by decide +kernel) ⟨Nat.le_of_ble_eq_true rfl, Nat.le_of_ble_eq_true rfl⟩) ⟨kb_blind, kb_pre hPc hDc hK hN⟩ rfl rfl hl.1 rfl (lv_room (Nat.le_of_ble_eq_true rfl)) dX1_isRace_33 ⟨Nat.le_refl _, Nat.le_refl _⟩) hP hD hS hA [] rfl (fun H locs hP hS => ?_)
    refine lv_iload hx hb dX1_isRace_36 (lv_at hl 5 rfl) ?_
    refine lv_iload hx hb dX1_isRace_38 (lv_at hl 6 rfl) ?_
    have hPc : va_P D vwCl ([]) H := hP.sub [] rfl
    have hDc : va_D A ([]) := hD.sub [] (by decide) rfl
    refine kd_lR (va_runS (As := [.long (f2_withDone (0 : Int64) x2 x3), .int x4, .int x5]) (rest := []) ⟨hx, hb, hml, hown, hts⟩ (c2_withDone l D cB cI cZ cO h H.size (f2_withDone (0 : Int64) x2 x3) x4 x5 (f2_withDone (f2_withDone (0 : Int64) x2 x3) x4 x5) rfl) (va_cwS 3 hts gX1_isRace_X2_withDone rfl rfl rfl (by decide +kernel) ⟨Nat.le_of_ble_eq_true rfl, Nat.le_of_ble_eq_true rfl⟩) ⟨kb_blind, kb_pre hPc hDc hK hN⟩ rfl rfl hl.1 rfl (lv_room (Nat.le_of_ble_eq_true rfl)) dX1_isRace_40 ⟨Nat.le_refl _, Nat.le_refl _⟩) hP hD hS hA [] rfl (fun H locs hP hS => ?_)
    refine lv_lstore (lv' := [(7, .long (f2_withDone (f2_withDone (0 : Int64) x2 x3) x4 x5)), (6, .int (((3 : Int32) - x2) - x4)), (0, .ref (h o)), (1, .ref (h o2)), (2, .int x2), (3, .int x3), (4, .int x4), (5, .int x5)]) hx hb dX1_isRace_43 hl (by decide) rfl (fun ls hl => ?_)
    refine lv_iconst (v := 0) hx hb dX1_isRace_45 (by decide) ?_
    refine lv_istore (lv' := [(9, .int (0 : Int32)), (7, .long (f2_withDone (f2_withDone (0 : Int64) x2 x3) x4 x5)), (6, .int (((3 : Int32) - x2) - x4)), (0, .ref (h o)), (1, .ref (h o2)), (2, .int x2), (3, .int x3), (4, .int x4), (5, .int x5)]) hx hb dX1_isRace_46 hl (by decide) rfl (fun ls hl => ?_)
    exact J48 kFUEL (((3 : Int32) - x2) - x4) (f2_withDone (f2_withDone (0 : Int64) x2 x3) x4 x5) (0 : Int32) _ _ _ hf hP hD hS (lv_sub hl [3, 2, 1, 0] rfl)
  · rw [if_pos c20] at hf
    refine lv_iconst (v := 0) hx hb dX1_isRace_20 (by decide) ?_
    obtain rfl := Option.some.inj hf
    exact hend _ _ _ _ rfl hP hS dX1_isRace_21
