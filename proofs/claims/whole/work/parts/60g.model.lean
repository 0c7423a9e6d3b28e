set_option maxHeartbeats 4000000 in
set_option maxRecDepth 100000 in
theorem c9_digest (l : Launch) (D : va_G) (cB cI cZ cO : ClassId) (h : Nat → Nat) (sz : Nat) (v_all : Nat → Int32) (v_past : Nat → Int32) (v_states : Int32) (v_refused : Nat → Int32) (v_far : Nat → Int32) (v_row : Nat → Int32) (v_stepAt : Nat → Int32) (v_depth : Int32) (v_tries : Nat → Int32) (v_values : Nat → Int32) (v_wrong : Int32) (v_isEnd : Nat → Int32) (v_found : Nat → Int32) (v_reached : Nat → Int32) (v_stepIn : Nat → Int32) (v_laid : Nat → Int32) (v_firstRow : Nat → Int32) (v_text : Nat → Int32) (v_textLong : Int32) (v_spot : Int32) (v_taken : Int32) (v_counted : Nat → Int32) (r0 : Int64) (v_far' : Nat → Int32) (v_row' : Nat → Int32) (v_stepAt' : Nat → Int32) (v_depth' : Int32) (v_tries' : Nat → Int32) (v_values' : Nat → Int32) (v_wrong' : Int32) (v_isEnd' : Nat → Int32) (v_found' : Nat → Int32) (v_reached' : Nat → Int32) (hf : f9_digest v_all v_states v_refused v_far v_row v_stepAt v_depth v_tries v_values v_wrong v_isEnd v_found v_reached v_textLong = some (r0, v_far', v_row', v_stepAt', v_depth', v_tries', v_values', v_wrong', v_isEnd', v_found', v_reached')) : Met l yX9_digest wsX9_digest rm9_digest (va_Pc [.ref (h 0)] (kb_B D (ka_tys cB cI cZ cO) sz (wdM cI cZ h v_all v_past v_states v_refused v_far v_row v_stepAt v_depth v_tries v_values v_wrong v_isEnd v_found v_reached v_stepIn v_laid v_firstRow v_text v_textLong v_spot v_taken v_counted))) (va_Ql (fun r (_ : Unit) => r = r0) (fun _ t => va_P D vwCl (wdM cI cZ h v_all v_past v_states v_refused (v_far') (v_row') (v_stepAt') (v_depth') (v_tries') (v_values') (v_wrong') (v_isEnd') (v_found') (v_reached') v_stepIn v_laid v_firstRow v_text v_textLong v_spot v_taken v_counted) t.heap) (va_A (wdM cI cZ h v_all v_past v_states v_refused v_far v_row v_stepAt v_depth v_tries v_values v_wrong v_isEnd v_found v_reached v_stepIn v_laid v_firstRow v_text v_textLong v_spot v_taken v_counted) sz)) 0 0 (va_A (wdM cI cZ h v_all v_past v_states v_refused v_far v_row v_stepAt v_depth v_tries v_values v_wrong v_isEnd v_found v_reached v_stepIn v_laid v_firstRow v_text v_textLong v_spot v_taken v_counted) sz) := by
  refine kb_metL (cc := cX9_digest) (maxL := 6) (by decide) rfl (Nat.le_of_ble_eq_true rfl) ?_
  intro p e s m args below meth c Q A ls H hx hb hml hown hts hK hN hP hD hS hA hl hend
  have hown : s.vm.findClass RX9 = some m.cls := hown
  have hl : lv_has ls 6 [(0, .ref (h 0))] := hl
  have hin9 : ∀ w ∈ u_ws RX9 TX9 22, w ∈ wsX9_digest := by decide +kernel
  have J202 : ∀ (v_far : Nat → Int32) (v_row : Nat → Int32) (v_stepAt : Nat → Int32) (v_depth : Int32) (v_tries : Nat → Int32) (v_values : Nat → Int32) (v_wrong : Int32) (v_isEnd : Nat → Int32) (v_found : Nat → Int32) (v_reached : Nat → Int32) (x1 : Int64) (H : Heap) (locs : List Loc) (ls : Array Slot), f9_digest_b202 v_all v_states v_refused v_far v_row v_stepAt v_depth v_tries v_values v_wrong v_isEnd v_found v_reached v_textLong x1 = some (r0, v_far', v_row', v_stepAt', v_depth', v_tries', v_values', v_wrong', v_isEnd', v_found', v_reached') → va_P D vwCl (wdM cI cZ h v_all v_past v_states v_refused v_far v_row v_stepAt v_depth v_tries v_values v_wrong v_isEnd v_found v_reached v_stepIn v_laid v_firstRow v_text v_textLong v_spot v_taken v_counted) H → va_D A (wdM cI cZ h v_all v_past v_states v_refused v_far v_row v_stepAt v_depth v_tries v_values v_wrong v_isEnd v_found v_reached v_stepIn v_laid v_firstRow v_text v_textLong v_spot v_taken v_counted) → va_S A s.heap H locs → lv_has ls 6 [(1, .long x1)] → W p l e rm9_digest s m args below meth c H locs 0 0 Q (F0 m 202 ls []) := by
    intro v_far v_row v_stepAt v_depth v_tries v_values v_wrong v_isEnd v_found v_reached x1 H locs ls hf hP hD hS hl
    rw [f9_digest_b202] at hf
    refine lv_lload_n hx hb dX9_digest_202 rfl (lv_at hl 0 rfl) ?_
    obtain ⟨z1, y1⟩ := Prod.mk.inj (Option.some.inj hf)
    obtain ⟨z2, y2⟩ := Prod.mk.inj y1
    obtain ⟨z3, y3⟩ := Prod.mk.inj y2
    obtain ⟨z4, y4⟩ := Prod.mk.inj y3
    obtain ⟨z5, y5⟩ := Prod.mk.inj y4
    obtain ⟨z6, y6⟩ := Prod.mk.inj y5
    obtain ⟨z7, y7⟩ := Prod.mk.inj y6
    obtain ⟨z8, y8⟩ := Prod.mk.inj y7
    obtain ⟨z9, y9⟩ := Prod.mk.inj y8
    obtain ⟨z10, y10⟩ := Prod.mk.inj y9
    subst z1 z2 z3 z4 z5 z6 z7 z8 z9 z10 y10
    exact hend _ _ _ _ hP hS dX9_digest_203
  have J167 : ∀ (n : Nat) (v_far : Nat → Int32) (v_row : Nat → Int32) (v_stepAt : Nat → Int32) (v_depth : Int32) (v_tries : Nat → Int32) (v_values : Nat → Int32) (v_wrong : Int32) (v_isEnd : Nat → Int32) (v_found : Nat → Int32) (v_reached : Nat → Int32) (x1 : Int64) (x3 : Int32) (H : Heap) (locs : List Loc) (ls : Array Slot), f9_digest_l167 n v_all v_states v_refused v_far v_row v_stepAt v_depth v_tries v_values v_wrong v_isEnd v_found v_reached v_textLong x1 x3 = some (r0, v_far', v_row', v_stepAt', v_depth', v_tries', v_values', v_wrong', v_isEnd', v_found', v_reached') → va_P D vwCl (wdM cI cZ h v_all v_past v_states v_refused v_far v_row v_stepAt v_depth v_tries v_values v_wrong v_isEnd v_found v_reached v_stepIn v_laid v_firstRow v_text v_textLong v_spot v_taken v_counted) H → va_D A (wdM cI cZ h v_all v_past v_states v_refused v_far v_row v_stepAt v_depth v_tries v_values v_wrong v_isEnd v_found v_reached v_stepIn v_laid v_firstRow v_text v_textLong v_spot v_taken v_counted) → va_S A s.heap H locs → lv_has ls 6 [(0, .ref (h 0)), (1, .long x1), (3, .int x3)] → W p l e rm9_digest s m args below meth c H locs 0 0 Q (F0 m 167 ls []) := by
    intro n
    induction n with
    | zero =>
      intro v_far v_row v_stepAt v_depth v_tries v_values v_wrong v_isEnd v_found v_reached x1 x3 H locs ls hf
      cases (show (none : Option (Int64 × (Nat → Int32) × (Nat → Int32) × (Nat → Int32) × Int32 × (Nat → Int32) × (Nat → Int32) × Int32 × (Nat → Int32) × (Nat → Int32) × (Nat → Int32))) = some (r0, v_far', v_row', v_stepAt', v_depth', v_tries', v_values', v_wrong', v_isEnd', v_found', v_reached') from hf)
    | succ n ih =>
      have J195 : ∀ (v_far : Nat → Int32) (v_row : Nat → Int32) (v_stepAt : Nat → Int32) (v_depth : Int32) (v_tries : Nat → Int32) (v_values : Nat → Int32) (v_wrong : Int32) (v_isEnd : Nat → Int32) (v_found : Nat → Int32) (v_reached : Nat → Int32) (x3 : Int32) (s0 : Int64) (H : Heap) (locs : List Loc) (ls : Array Slot), f9_digest_b195 (f9_digest_l167 n) v_all v_states v_refused v_far v_row v_stepAt v_depth v_tries v_values v_wrong v_isEnd v_found v_reached v_textLong x3 s0 = some (r0, v_far', v_row', v_stepAt', v_depth', v_tries', v_values', v_wrong', v_isEnd', v_found', v_reached') → va_P D vwCl (wdM cI cZ h v_all v_past v_states v_refused v_far v_row v_stepAt v_depth v_tries v_values v_wrong v_isEnd v_found v_reached v_stepIn v_laid v_firstRow v_text v_textLong v_spot v_taken v_counted) H → va_D A (wdM cI cZ h v_all v_past v_states v_refused v_far v_row v_stepAt v_depth v_tries v_values v_wrong v_isEnd v_found v_reached v_stepIn v_laid v_firstRow v_text v_textLong v_spot v_taken v_counted) → va_S A s.heap H locs → lv_has ls 6 [(0, .ref (h 0)), (3, .int x3)] → W p l e rm9_digest s m args below meth c H locs 0 0 Q (F0 m 195 ls [.long s0]) := by
        intro v_far v_row v_stepAt v_depth v_tries v_values v_wrong v_isEnd v_found v_reached x3 s0 H locs ls hf hP hD hS hl
        rw [f9_digest_b195] at hf
        refine lv_lstore_n (lv' := [(1, .long s0), (0, .ref (h 0)), (3, .int x3)]) hx hb dX9_digest_195 rfl hl (by decide) rfl (fun ls hl => ?_)
        refine lv_iinc (v := (x3 + 1)) (lv' := [(3, .int (x3 + 1)), (1, .long s0), (0, .ref (h 0))]) hx hb dX9_digest_196 hl (k := 2) rfl rfl (by decide) rfl (fun ls hl => ?_)
        refine lv_goto (tgt := 167) hx hb dX9_digest_199 (by decide) ?_
        exact ih v_far v_row v_stepAt v_depth v_tries v_values v_wrong v_isEnd v_found v_reached s0 (x3 + 1) _ _ _ hf hP hD hS (lv_sub hl [2, 1, 0] rfl)
      intro v_far v_row v_stepAt v_depth v_tries v_values v_wrong v_isEnd v_found v_reached x1 x3 H locs ls hf hP hD hS hl
      rw [f9_digest_l167_s] at hf
      refine lv_iload_n hx hb dX9_digest_167 rfl (lv_at hl 2 rfl) ?_
      refine lv_sipush (v := 10000) hx hb dX9_digest_168 (by decide) ?_
      refine lv_icmp_ge (tgt := 202) hx hb dX9_digest_171 (by decide) (fun c4 => ?_) (fun c4 => ?_)
      · rw [if_pos c4] at hf
        exact J202 v_far v_row v_stepAt v_depth v_tries v_values v_wrong v_isEnd v_found v_reached x1 _ _ _ hf hP hD hS (lv_sub hl [1] rfl)
      · rw [if_neg c4] at hf
        refine lv_aload_n hx hb dX9_digest_174 rfl (lv_at hl 0 rfl) ?_
        refine va_get (D := D) (cl := vwCl) (ci := 6) (v := .ref (h 9)) (C := RX9) (T := TX9) (N := 22) hx hb hts hin9 hown hK hP 0 rfl rfl 11 (by decide) (hts (.fieldLink RX9 34 "StepOrdersModel" "isEnd" "[Z") (by decide +kernel)) (fun _ h9 => h9) rfl dX9_digest_175 ?_
        refine lv_iload_n hx hb dX9_digest_178 rfl (lv_at hl 2 rfl) ?_
        refine kb_bind hf (fun v5 hv5 hf => ?_)
        refine ka_zald (D := D) (cl := vwCl) hx hb hK hP 9 2 (f := v_isEnd) rfl rfl (ard_in hv5) (ard_v hv5) dX9_digest_179 ?_
        refine lv_if_eq (tgt := 194) hx hb dX9_digest_180 (by decide) (fun c6 => ?_) (fun c6 => ?_)
        · rw [if_pos c6] at hf
          refine lv_lload_n hx hb dX9_digest_194 rfl (lv_at hl 1 rfl) ?_
          exact J195 v_far v_row v_stepAt v_depth v_tries v_values v_wrong v_isEnd v_found v_reached x3 x1 _ _ _ hf hP hD hS (lv_sub hl [0, 2] rfl)
        · rw [if_neg c6] at hf
          refine lv_ldc2 (v := 31) hx hb hown (hts (.constantLong RX9 222 (31)) (by decide +kernel)) dX9_digest_183 ?_
          refine lv_lload_n hx hb dX9_digest_186 rfl (lv_at hl 1 rfl) ?_
          refine lv_lmul hx hb dX9_digest_187 ?_
          refine lv_iload_n hx hb dX9_digest_188 rfl (lv_at hl 2 rfl) ?_
          refine lv_i2l (v := x3.toInt64) hx hb dX9_digest_189 rfl ?_
          refine lv_ladd hx hb dX9_digest_190 ?_
          refine lv_goto (tgt := 195) hx hb dX9_digest_191 (by decide) ?_
          exact J195 v_far v_row v_stepAt v_depth v_tries v_values v_wrong v_isEnd v_found v_reached x3 (((31 : Int64) * x1) + x3.toInt64) _ _ _ hf hP hD hS (lv_sub hl [0, 2] rfl)
  have J165 : ∀ (v_far : Nat → Int32) (v_row : Nat → Int32) (v_stepAt : Nat → Int32) (v_depth : Int32) (v_tries : Nat → Int32) (v_values : Nat → Int32) (v_wrong : Int32) (v_isEnd : Nat → Int32) (v_found : Nat → Int32) (v_reached : Nat → Int32) (x1 : Int64) (H : Heap) (locs : List Loc) (ls : Array Slot), f9_digest_b165 v_all v_states v_refused v_far v_row v_stepAt v_depth v_tries v_values v_wrong v_isEnd v_found v_reached v_textLong x1 = some (r0, v_far', v_row', v_stepAt', v_depth', v_tries', v_values', v_wrong', v_isEnd', v_found', v_reached') → va_P D vwCl (wdM cI cZ h v_all v_past v_states v_refused v_far v_row v_stepAt v_depth v_tries v_values v_wrong v_isEnd v_found v_reached v_stepIn v_laid v_firstRow v_text v_textLong v_spot v_taken v_counted) H → va_D A (wdM cI cZ h v_all v_past v_states v_refused v_far v_row v_stepAt v_depth v_tries v_values v_wrong v_isEnd v_found v_reached v_stepIn v_laid v_firstRow v_text v_textLong v_spot v_taken v_counted) → va_S A s.heap H locs → lv_has ls 6 [(0, .ref (h 0)), (1, .long x1)] → W p l e rm9_digest s m args below meth c H locs 0 0 Q (F0 m 165 ls []) := by
    intro v_far v_row v_stepAt v_depth v_tries v_values v_wrong v_isEnd v_found v_reached x1 H locs ls hf hP hD hS hl
    rw [f9_digest_b165] at hf
    refine lv_iconst (v := 0) hx hb dX9_digest_165 (by decide) ?_
    refine lv_istore_n (lv' := [(3, .int (0 : Int32)), (0, .ref (h 0)), (1, .long x1)]) hx hb dX9_digest_166 rfl hl (by decide) rfl (fun ls hl => ?_)
    exact J167 kFUEL v_far v_row v_stepAt v_depth v_tries v_values v_wrong v_isEnd v_found v_reached x1 (0 : Int32) _ _ _ hf hP hD hS (lv_sub hl [1, 2, 0] rfl)
  have J140 : ∀ (n : Nat) (v_far : Nat → Int32) (v_row : Nat → Int32) (v_stepAt : Nat → Int32) (v_depth : Int32) (v_tries : Nat → Int32) (v_values : Nat → Int32) (v_wrong : Int32) (v_isEnd : Nat → Int32) (v_found : Nat → Int32) (v_reached : Nat → Int32) (x1 : Int64) (x3 : Int32) (H : Heap) (locs : List Loc) (ls : Array Slot), f9_digest_l140 n v_all v_states v_refused v_far v_row v_stepAt v_depth v_tries v_values v_wrong v_isEnd v_found v_reached v_textLong x1 x3 = some (r0, v_far', v_row', v_stepAt', v_depth', v_tries', v_values', v_wrong', v_isEnd', v_found', v_reached') → va_P D vwCl (wdM cI cZ h v_all v_past v_states v_refused v_far v_row v_stepAt v_depth v_tries v_values v_wrong v_isEnd v_found v_reached v_stepIn v_laid v_firstRow v_text v_textLong v_spot v_taken v_counted) H → va_D A (wdM cI cZ h v_all v_past v_states v_refused v_far v_row v_stepAt v_depth v_tries v_values v_wrong v_isEnd v_found v_reached v_stepIn v_laid v_firstRow v_text v_textLong v_spot v_taken v_counted) → va_S A s.heap H locs → lv_has ls 6 [(0, .ref (h 0)), (1, .long x1), (3, .int x3)] → W p l e rm9_digest s m args below meth c H locs 0 0 Q (F0 m 140 ls []) := by
    intro n
    induction n with
    | zero =>
      intro v_far v_row v_stepAt v_depth v_tries v_values v_wrong v_isEnd v_found v_reached x1 x3 H locs ls hf
      cases (show (none : Option (Int64 × (Nat → Int32) × (Nat → Int32) × (Nat → Int32) × Int32 × (Nat → Int32) × (Nat → Int32) × Int32 × (Nat → Int32) × (Nat → Int32) × (Nat → Int32))) = some (r0, v_far', v_row', v_stepAt', v_depth', v_tries', v_values', v_wrong', v_isEnd', v_found', v_reached') from hf)
    | succ n ih =>
      intro v_far v_row v_stepAt v_depth v_tries v_values v_wrong v_isEnd v_found v_reached x1 x3 H locs ls hf hP hD hS hl
      rw [f9_digest_l140_s] at hf
      refine lv_iload_n hx hb dX9_digest_140 rfl (lv_at hl 2 rfl) ?_
      refine lv_bipush (v := 6) hx hb dX9_digest_141 (by decide) ?_
      refine lv_icmp_ge (tgt := 165) hx hb dX9_digest_143 (by decide) (fun c10 => ?_) (fun c10 => ?_)
      · rw [if_pos c10] at hf
        exact J165 v_far v_row v_stepAt v_depth v_tries v_values v_wrong v_isEnd v_found v_reached x1 _ _ _ hf hP hD hS (lv_sub hl [0, 1] rfl)
      · rw [if_neg c10] at hf
        refine lv_ldc2 (v := 31) hx hb hown (hts (.constantLong RX9 222 (31)) (by decide +kernel)) dX9_digest_146 ?_
        refine lv_lload_n hx hb dX9_digest_149 rfl (lv_at hl 1 rfl) ?_
        refine lv_lmul hx hb dX9_digest_150 ?_
        refine lv_aload_n hx hb dX9_digest_151 rfl (lv_at hl 0 rfl) ?_
        refine lv_iload_n hx hb dX9_digest_152 rfl (lv_at hl 2 rfl) ?_
        refine kb_bind hf (fun q11 hq11 hf => ?_)
        have hPc : va_P D vwCl (wdM cI cZ h v_all v_past v_states v_refused v_far v_row v_stepAt v_depth v_tries v_values v_wrong v_isEnd v_found v_reached v_stepIn v_laid v_firstRow v_text v_textLong v_spot v_taken v_counted) H := hP.sub [0, 1, 2, 3, 4, 5, 6, 7, 8, 9, 10, 11, 12, 13, 14, 15, 16] rfl
        have hDc : va_D A (wdM cI cZ h v_all v_past v_states v_refused v_far v_row v_stepAt v_depth v_tries v_values v_wrong v_isEnd v_found v_reached v_stepIn v_laid v_firstRow v_text v_textLong v_spot v_taken v_counted) := hD.sub [0, 1, 2, 3, 4, 5, 6, 7, 8, 9, 10, 11, 12, 13, 14, 15, 16] (by decide) rfl
        refine kd_iW (ws' := wdM cI cZ h v_all v_past v_states v_refused q11.2.1 v_row v_stepAt q11.2.2.1 q11.2.2.2.1 q11.2.2.2.2.1 q11.2.2.2.2.2 v_isEnd v_found v_reached v_stepIn v_laid v_firstRow v_text v_textLong v_spot v_taken v_counted) (va_runV (As := [.int x3]) (rest := [.long ((31 : Int64) * x1)]) ⟨hx, hb, hml, hown, hts⟩ (c9_runOf l D cB cI cZ cO h H.size x3 v_all v_past v_states v_refused v_far v_row v_stepAt v_depth v_tries v_values v_wrong v_isEnd v_found v_reached v_stepIn v_laid v_firstRow v_text v_textLong v_spot v_taken v_counted q11.1 q11.2.1 q11.2.2.1 q11.2.2.2.1 q11.2.2.2.2.1 q11.2.2.2.2.2 hq11) (cwV 1 hts gX9_digest_X9_runOf rfl rfl rfl (by decide +kernel) ⟨Nat.le_of_ble_eq_true rfl, Nat.le_of_ble_eq_true rfl⟩) ⟨kb_blind, va_recv hK hPc (ci := 6) (q0 := 0) rfl rfl, kb_pre hPc hDc hK hN⟩ rfl rfl hl.1 rfl (lv_room (Nat.le_of_ble_eq_true rfl)) dX9_digest_153 ⟨Nat.le_refl _, Nat.le_refl _⟩) hP hD hS hA [0, 1, 2, 3, 4, 5, 6, 7, 8, 9, 10, 11, 12, 13, 14, 15, 16] [] rfl rfl (fun _ h9 => absurd h9 List.not_mem_nil) rfl rfl (fun H locs hn12 hP hD hS => ?_)
        refine lv_i2l (v := q11.1.toInt64) hx hb dX9_digest_156 rfl ?_
        refine lv_ladd hx hb dX9_digest_157 ?_
        refine lv_lstore_n (lv' := [(1, .long (((31 : Int64) * x1) + q11.1.toInt64)), (0, .ref (h 0)), (3, .int x3)]) hx hb dX9_digest_158 rfl hl (by decide) rfl (fun ls hl => ?_)
        refine lv_iinc (v := (x3 + 1)) (lv' := [(3, .int (x3 + 1)), (1, .long (((31 : Int64) * x1) + q11.1.toInt64)), (0, .ref (h 0))]) hx hb dX9_digest_159 hl (k := 2) rfl rfl (by decide) rfl (fun ls hl => ?_)
        refine lv_goto (tgt := 140) hx hb dX9_digest_162 (by decide) ?_
        exact ih q11.2.1 v_row v_stepAt q11.2.2.1 q11.2.2.2.1 q11.2.2.2.2.1 q11.2.2.2.2.2 v_isEnd v_found v_reached (((31 : Int64) * x1) + q11.1.toInt64) (x3 + 1) _ _ _ hf hP hD hS (lv_sub hl [2, 1, 0] rfl)
  have J126 : ∀ (v_far : Nat → Int32) (v_row : Nat → Int32) (v_stepAt : Nat → Int32) (v_depth : Int32) (v_tries : Nat → Int32) (v_values : Nat → Int32) (v_wrong : Int32) (v_isEnd : Nat → Int32) (v_found : Nat → Int32) (v_reached : Nat → Int32) (x1 : Int64) (H : Heap) (locs : List Loc) (ls : Array Slot), f9_digest_b126 v_all v_states v_refused v_far v_row v_stepAt v_depth v_tries v_values v_wrong v_isEnd v_found v_reached v_textLong x1 = some (r0, v_far', v_row', v_stepAt', v_depth', v_tries', v_values', v_wrong', v_isEnd', v_found', v_reached') → va_P D vwCl (wdM cI cZ h v_all v_past v_states v_refused v_far v_row v_stepAt v_depth v_tries v_values v_wrong v_isEnd v_found v_reached v_stepIn v_laid v_firstRow v_text v_textLong v_spot v_taken v_counted) H → va_D A (wdM cI cZ h v_all v_past v_states v_refused v_far v_row v_stepAt v_depth v_tries v_values v_wrong v_isEnd v_found v_reached v_stepIn v_laid v_firstRow v_text v_textLong v_spot v_taken v_counted) → va_S A s.heap H locs → lv_has ls 6 [(0, .ref (h 0)), (1, .long x1)] → W p l e rm9_digest s m args below meth c H locs 0 0 Q (F0 m 126 ls []) := by
    intro v_far v_row v_stepAt v_depth v_tries v_values v_wrong v_isEnd v_found v_reached x1 H locs ls hf hP hD hS hl
    rw [f9_digest_b126] at hf
    refine lv_ldc2 (v := 31) hx hb hown (hts (.constantLong RX9 222 (31)) (by decide +kernel)) dX9_digest_126 ?_
    refine lv_lload_n hx hb dX9_digest_129 rfl (lv_at hl 1 rfl) ?_
    refine lv_lmul hx hb dX9_digest_130 ?_
    refine lv_aload_n hx hb dX9_digest_131 rfl (lv_at hl 0 rfl) ?_
    refine kb_bind hf (fun q15 hq15 hf => ?_)
    have hPc : va_P D vwCl (wdM cI cZ h v_all v_past v_states v_refused v_far v_row v_stepAt v_depth v_tries v_values v_wrong v_isEnd v_found v_reached v_stepIn v_laid v_firstRow v_text v_textLong v_spot v_taken v_counted) H := hP.sub [0, 1, 2, 3, 4, 5, 6, 7, 8, 9, 10, 11, 12, 13, 14, 15, 16] rfl
    have hDc : va_D A (wdM cI cZ h v_all v_past v_states v_refused v_far v_row v_stepAt v_depth v_tries v_values v_wrong v_isEnd v_found v_reached v_stepIn v_laid v_firstRow v_text v_textLong v_spot v_taken v_counted) := hD.sub [0, 1, 2, 3, 4, 5, 6, 7, 8, 9, 10, 11, 12, 13, 14, 15, 16] (by decide) rfl
    refine kd_iW (ws' := wdM cI cZ h v_all v_past v_states v_refused q15.2.1 v_row v_stepAt v_depth v_tries v_values v_wrong v_isEnd v_found q15.2.2 v_stepIn v_laid v_firstRow v_text v_textLong v_spot v_taken v_counted) (va_runV (As := []) (rest := [.long ((31 : Int64) * x1)]) ⟨hx, hb, hml, hown, hts⟩ (c9_races l D cB cI cZ cO h H.size v_all v_past v_states v_refused v_far v_row v_stepAt v_depth v_tries v_values v_wrong v_isEnd v_found v_reached v_stepIn v_laid v_firstRow v_text v_textLong v_spot v_taken v_counted q15.1 q15.2.1 q15.2.2 hq15) (cwV 0 hts gX9_digest_X9_races rfl rfl rfl (by decide +kernel) ⟨Nat.le_of_ble_eq_true rfl, Nat.le_of_ble_eq_true rfl⟩) ⟨kb_blind, va_recv hK hPc (ci := 6) (q0 := 0) rfl rfl, kb_pre hPc hDc hK hN⟩ rfl rfl hl.1 rfl (lv_room (Nat.le_of_ble_eq_true rfl)) dX9_digest_132 ⟨Nat.le_refl _, Nat.le_refl _⟩) hP hD hS hA [0, 1, 2, 3, 4, 5, 6, 7, 8, 9, 10, 11, 12, 13, 14, 15, 16] [] rfl rfl (fun _ h9 => absurd h9 List.not_mem_nil) rfl rfl (fun H locs hn16 hP hD hS => ?_)
    refine lv_i2l (v := q15.1.toInt64) hx hb dX9_digest_135 rfl ?_
    refine lv_ladd hx hb dX9_digest_136 ?_
    refine lv_lstore_n (lv' := [(1, .long (((31 : Int64) * x1) + q15.1.toInt64)), (0, .ref (h 0))]) hx hb dX9_digest_137 rfl hl (by decide) rfl (fun ls hl => ?_)
    refine lv_iconst (v := 0) hx hb dX9_digest_138 (by decide) ?_
    refine lv_istore_n (lv' := [(3, .int (0 : Int32)), (1, .long (((31 : Int64) * x1) + q15.1.toInt64)), (0, .ref (h 0))]) hx hb dX9_digest_139 rfl hl (by decide) rfl (fun ls hl => ?_)
    exact J140 kFUEL q15.2.1 v_row v_stepAt v_depth v_tries v_values v_wrong v_isEnd v_found q15.2.2 (((31 : Int64) * x1) + q15.1.toInt64) (0 : Int32) _ _ _ hf hP hD hS (lv_sub hl [2, 1, 0] rfl)
  have J101 : ∀ (n : Nat) (v_far : Nat → Int32) (v_row : Nat → Int32) (v_stepAt : Nat → Int32) (v_depth : Int32) (v_tries : Nat → Int32) (v_values : Nat → Int32) (v_wrong : Int32) (v_isEnd : Nat → Int32) (v_found : Nat → Int32) (v_reached : Nat → Int32) (x1 : Int64) (x3 : Int32) (H : Heap) (locs : List Loc) (ls : Array Slot), f9_digest_l101 n v_all v_states v_refused v_far v_row v_stepAt v_depth v_tries v_values v_wrong v_isEnd v_found v_reached v_textLong x1 x3 = some (r0, v_far', v_row', v_stepAt', v_depth', v_tries', v_values', v_wrong', v_isEnd', v_found', v_reached') → va_P D vwCl (wdM cI cZ h v_all v_past v_states v_refused v_far v_row v_stepAt v_depth v_tries v_values v_wrong v_isEnd v_found v_reached v_stepIn v_laid v_firstRow v_text v_textLong v_spot v_taken v_counted) H → va_D A (wdM cI cZ h v_all v_past v_states v_refused v_far v_row v_stepAt v_depth v_tries v_values v_wrong v_isEnd v_found v_reached v_stepIn v_laid v_firstRow v_text v_textLong v_spot v_taken v_counted) → va_S A s.heap H locs → lv_has ls 6 [(0, .ref (h 0)), (1, .long x1), (3, .int x3)] → W p l e rm9_digest s m args below meth c H locs 0 0 Q (F0 m 101 ls []) := by
    intro n
    induction n with
    | zero =>
      intro v_far v_row v_stepAt v_depth v_tries v_values v_wrong v_isEnd v_found v_reached x1 x3 H locs ls hf
      cases (show (none : Option (Int64 × (Nat → Int32) × (Nat → Int32) × (Nat → Int32) × Int32 × (Nat → Int32) × (Nat → Int32) × Int32 × (Nat → Int32) × (Nat → Int32) × (Nat → Int32))) = some (r0, v_far', v_row', v_stepAt', v_depth', v_tries', v_values', v_wrong', v_isEnd', v_found', v_reached') from hf)
    | succ n ih =>
      intro v_far v_row v_stepAt v_depth v_tries v_values v_wrong v_isEnd v_found v_reached x1 x3 H locs ls hf hP hD hS hl
      rw [f9_digest_l101_s] at hf
      refine lv_iload_n hx hb dX9_digest_101 rfl (lv_at hl 2 rfl) ?_
      refine lv_iconst (v := 4) hx hb dX9_digest_102 (by decide) ?_
      refine lv_icmp_ge (tgt := 126) hx hb dX9_digest_103 (by decide) (fun c19 => ?_) (fun c19 => ?_)
      · rw [if_pos c19] at hf
        exact J126 v_far v_row v_stepAt v_depth v_tries v_values v_wrong v_isEnd v_found v_reached x1 _ _ _ hf hP hD hS (lv_sub hl [0, 1] rfl)
      · rw [if_neg c19] at hf
        refine lv_ldc2 (v := 31) hx hb hown (hts (.constantLong RX9 222 (31)) (by decide +kernel)) dX9_digest_106 ?_
        refine lv_lload_n hx hb dX9_digest_109 rfl (lv_at hl 1 rfl) ?_
        refine lv_lmul hx hb dX9_digest_110 ?_
        refine lv_aload_n hx hb dX9_digest_111 rfl (lv_at hl 0 rfl) ?_
        refine va_get (D := D) (cl := vwCl) (ci := 6) (v := .ref (h 10)) (C := RX9) (T := TX9) (N := 22) hx hb hts hin9 hown hK hP 0 rfl rfl 12 (by decide) (hts (.fieldLink RX9 38 "StepOrdersModel" "found" "[I") (by decide +kernel)) (fun _ h9 => h9) rfl dX9_digest_112 ?_
        refine lv_iload_n hx hb dX9_digest_115 rfl (lv_at hl 2 rfl) ?_
        refine kb_bind hf (fun v20 hv20 hf => ?_)
        refine ka_iald (D := D) (cl := vwCl) hx hb hK hP 10 1 (f := v_found) rfl rfl (ard_in hv20) (ard_v hv20) dX9_digest_116 ?_
        refine lv_i2l (v := v20.toInt64) hx hb dX9_digest_117 rfl ?_
        refine lv_ladd hx hb dX9_digest_118 ?_
        refine lv_lstore_n (lv' := [(1, .long (((31 : Int64) * x1) + v20.toInt64)), (0, .ref (h 0)), (3, .int x3)]) hx hb dX9_digest_119 rfl hl (by decide) rfl (fun ls hl => ?_)
        refine lv_iinc (v := (x3 + 1)) (lv' := [(3, .int (x3 + 1)), (1, .long (((31 : Int64) * x1) + v20.toInt64)), (0, .ref (h 0))]) hx hb dX9_digest_120 hl (k := 2) rfl rfl (by decide) rfl (fun ls hl => ?_)
        refine lv_goto (tgt := 101) hx hb dX9_digest_123 (by decide) ?_
        exact ih v_far v_row v_stepAt v_depth v_tries v_values v_wrong v_isEnd v_found v_reached (((31 : Int64) * x1) + v20.toInt64) (x3 + 1) _ _ _ hf hP hD hS (lv_sub hl [2, 1, 0] rfl)
  have J95 : ∀ (v_far : Nat → Int32) (v_row : Nat → Int32) (v_stepAt : Nat → Int32) (v_depth : Int32) (v_tries : Nat → Int32) (v_values : Nat → Int32) (v_wrong : Int32) (v_isEnd : Nat → Int32) (v_found : Nat → Int32) (v_reached : Nat → Int32) (x1 : Int64) (H : Heap) (locs : List Loc) (ls : Array Slot), f9_digest_b95 v_all v_states v_refused v_far v_row v_stepAt v_depth v_tries v_values v_wrong v_isEnd v_found v_reached v_textLong x1 = some (r0, v_far', v_row', v_stepAt', v_depth', v_tries', v_values', v_wrong', v_isEnd', v_found', v_reached') → va_P D vwCl (wdM cI cZ h v_all v_past v_states v_refused v_far v_row v_stepAt v_depth v_tries v_values v_wrong v_isEnd v_found v_reached v_stepIn v_laid v_firstRow v_text v_textLong v_spot v_taken v_counted) H → va_D A (wdM cI cZ h v_all v_past v_states v_refused v_far v_row v_stepAt v_depth v_tries v_values v_wrong v_isEnd v_found v_reached v_stepIn v_laid v_firstRow v_text v_textLong v_spot v_taken v_counted) → va_S A s.heap H locs → lv_has ls 6 [(0, .ref (h 0)), (1, .long x1)] → W p l e rm9_digest s m args below meth c H locs 0 0 Q (F0 m 95 ls []) := by
    intro v_far v_row v_stepAt v_depth v_tries v_values v_wrong v_isEnd v_found v_reached x1 H locs ls hf hP hD hS hl
    rw [f9_digest_b95] at hf
    refine lv_aload_n hx hb dX9_digest_95 rfl (lv_at hl 0 rfl) ?_
    refine kb_bind hf (fun q22 hq22 hf => ?_)
    have hPc : va_P D vwCl (wdM cI cZ h v_all v_past v_states v_refused v_far v_row v_stepAt v_depth v_tries v_values v_wrong v_isEnd v_found v_reached v_stepIn v_laid v_firstRow v_text v_textLong v_spot v_taken v_counted) H := hP.sub [0, 1, 2, 3, 4, 5, 6, 7, 8, 9, 10, 11, 12, 13, 14, 15, 16] rfl
    have hDc : va_D A (wdM cI cZ h v_all v_past v_states v_refused v_far v_row v_stepAt v_depth v_tries v_values v_wrong v_isEnd v_found v_reached v_stepIn v_laid v_firstRow v_text v_textLong v_spot v_taken v_counted) := hD.sub [0, 1, 2, 3, 4, 5, 6, 7, 8, 9, 10, 11, 12, 13, 14, 15, 16] (by decide) rfl
    refine kd_vW (ws' := wdM cI cZ h v_all v_past v_states v_refused q22.1 q22.2.1 q22.2.2.1 q22.2.2.2.1 q22.2.2.2.2.1 q22.2.2.2.2.2.1 q22.2.2.2.2.2.2.1 q22.2.2.2.2.2.2.2.1 q22.2.2.2.2.2.2.2.2 v_reached v_stepIn v_laid v_firstRow v_text v_textLong v_spot v_taken v_counted) (va_runV (As := []) (rest := []) ⟨hx, hb, hml, hown, hts⟩ (c9_findsAll l D cB cI cZ cO h H.size v_all v_past v_states v_refused v_far v_row v_stepAt v_depth v_tries v_values v_wrong v_isEnd v_found v_reached v_stepIn v_laid v_firstRow v_text v_textLong v_spot v_taken v_counted q22.1 q22.2.1 q22.2.2.1 q22.2.2.2.1 q22.2.2.2.2.1 q22.2.2.2.2.2.1 q22.2.2.2.2.2.2.1 q22.2.2.2.2.2.2.2.1 q22.2.2.2.2.2.2.2.2 hq22) (cwV 0 hts gX9_digest_X9_findsAll rfl rfl rfl (by decide +kernel) ⟨Nat.le_of_ble_eq_true rfl, Nat.le_of_ble_eq_true rfl⟩) ⟨kb_blind, va_recv hK hPc (ci := 6) (q0 := 0) rfl rfl, kb_pre hPc hDc hK hN⟩ rfl rfl hl.1 rfl (lv_room (Nat.le_of_ble_eq_true rfl)) dX9_digest_96 ⟨Nat.le_refl _, Nat.le_refl _⟩) hP hD hS hA [0, 1, 2, 3, 4, 5, 6, 7, 8, 9, 10, 11, 12, 13, 14, 15, 16] [] rfl rfl (fun _ h9 => absurd h9 List.not_mem_nil) rfl rfl (fun H locs hP hD hS => ?_)
    refine lv_iconst (v := 0) hx hb dX9_digest_99 (by decide) ?_
    refine lv_istore_n (lv' := [(3, .int (0 : Int32)), (0, .ref (h 0)), (1, .long x1)]) hx hb dX9_digest_100 rfl hl (by decide) rfl (fun ls hl => ?_)
    exact J101 kFUEL q22.1 q22.2.1 q22.2.2.1 q22.2.2.2.1 q22.2.2.2.2.1 q22.2.2.2.2.2.1 q22.2.2.2.2.2.2.1 q22.2.2.2.2.2.2.2.1 q22.2.2.2.2.2.2.2.2 v_reached x1 (0 : Int32) _ _ _ hf hP hD hS (lv_sub hl [1, 2, 0] rfl)
  have J33 : ∀ (n : Nat) (v_far : Nat → Int32) (v_row : Nat → Int32) (v_stepAt : Nat → Int32) (v_depth : Int32) (v_tries : Nat → Int32) (v_values : Nat → Int32) (v_wrong : Int32) (v_isEnd : Nat → Int32) (v_found : Nat → Int32) (v_reached : Nat → Int32) (x1 : Int64) (x3 : Int32) (H : Heap) (locs : List Loc) (ls : Array Slot), f9_digest_l33 n v_all v_states v_refused v_far v_row v_stepAt v_depth v_tries v_values v_wrong v_isEnd v_found v_reached v_textLong x1 x3 = some (r0, v_far', v_row', v_stepAt', v_depth', v_tries', v_values', v_wrong', v_isEnd', v_found', v_reached') → va_P D vwCl (wdM cI cZ h v_all v_past v_states v_refused v_far v_row v_stepAt v_depth v_tries v_values v_wrong v_isEnd v_found v_reached v_stepIn v_laid v_firstRow v_text v_textLong v_spot v_taken v_counted) H → va_D A (wdM cI cZ h v_all v_past v_states v_refused v_far v_row v_stepAt v_depth v_tries v_values v_wrong v_isEnd v_found v_reached v_stepIn v_laid v_firstRow v_text v_textLong v_spot v_taken v_counted) → va_S A s.heap H locs → lv_has ls 6 [(0, .ref (h 0)), (1, .long x1), (3, .int x3)] → W p l e rm9_digest s m args below meth c H locs 0 0 Q (F0 m 33 ls []) := by
    intro n
    induction n with
    | zero =>
      intro v_far v_row v_stepAt v_depth v_tries v_values v_wrong v_isEnd v_found v_reached x1 x3 H locs ls hf
      cases (show (none : Option (Int64 × (Nat → Int32) × (Nat → Int32) × (Nat → Int32) × Int32 × (Nat → Int32) × (Nat → Int32) × Int32 × (Nat → Int32) × (Nat → Int32) × (Nat → Int32))) = some (r0, v_far', v_row', v_stepAt', v_depth', v_tries', v_values', v_wrong', v_isEnd', v_found', v_reached') from hf)
    | succ n ih =>
      have J89 : ∀ (v_far : Nat → Int32) (v_row : Nat → Int32) (v_stepAt : Nat → Int32) (v_depth : Int32) (v_tries : Nat → Int32) (v_values : Nat → Int32) (v_wrong : Int32) (v_isEnd : Nat → Int32) (v_found : Nat → Int32) (v_reached : Nat → Int32) (x1 : Int64) (x3 : Int32) (H : Heap) (locs : List Loc) (ls : Array Slot), f9_digest_b89 (f9_digest_l33 n) v_all v_states v_refused v_far v_row v_stepAt v_depth v_tries v_values v_wrong v_isEnd v_found v_reached v_textLong x1 x3 = some (r0, v_far', v_row', v_stepAt', v_depth', v_tries', v_values', v_wrong', v_isEnd', v_found', v_reached') → va_P D vwCl (wdM cI cZ h v_all v_past v_states v_refused v_far v_row v_stepAt v_depth v_tries v_values v_wrong v_isEnd v_found v_reached v_stepIn v_laid v_firstRow v_text v_textLong v_spot v_taken v_counted) H → va_D A (wdM cI cZ h v_all v_past v_states v_refused v_far v_row v_stepAt v_depth v_tries v_values v_wrong v_isEnd v_found v_reached v_stepIn v_laid v_firstRow v_text v_textLong v_spot v_taken v_counted) → va_S A s.heap H locs → lv_has ls 6 [(0, .ref (h 0)), (1, .long x1), (3, .int x3)] → W p l e rm9_digest s m args below meth c H locs 0 0 Q (F0 m 89 ls []) := by
        intro v_far v_row v_stepAt v_depth v_tries v_values v_wrong v_isEnd v_found v_reached x1 x3 H locs ls hf hP hD hS hl
        rw [f9_digest_b89] at hf
        refine lv_iinc (v := (x3 + 1)) (lv' := [(3, .int (x3 + 1)), (0, .ref (h 0)), (1, .long x1)]) hx hb dX9_digest_89 hl (k := 2) rfl rfl (by decide) rfl (fun ls hl => ?_)
        refine lv_goto (tgt := 33) hx hb dX9_digest_92 (by decide) ?_
        exact ih v_far v_row v_stepAt v_depth v_tries v_values v_wrong v_isEnd v_found v_reached x1 (x3 + 1) _ _ _ hf hP hD hS (lv_sub hl [1, 2, 0] rfl)
      have J41 : ∀ (n41 : Nat) (v_far : Nat → Int32) (v_row : Nat → Int32) (v_stepAt : Nat → Int32) (v_depth : Int32) (v_tries : Nat → Int32) (v_values : Nat → Int32) (v_wrong : Int32) (v_isEnd : Nat → Int32) (v_found : Nat → Int32) (v_reached : Nat → Int32) (x1 : Int64) (x3 : Int32) (x4 : Int32) (H : Heap) (locs : List Loc) (ls : Array Slot), f9_digest_l41 (f9_digest_l33 n) n41 v_all v_states v_refused v_far v_row v_stepAt v_depth v_tries v_values v_wrong v_isEnd v_found v_reached v_textLong x1 x3 x4 = some (r0, v_far', v_row', v_stepAt', v_depth', v_tries', v_values', v_wrong', v_isEnd', v_found', v_reached') → va_P D vwCl (wdM cI cZ h v_all v_past v_states v_refused v_far v_row v_stepAt v_depth v_tries v_values v_wrong v_isEnd v_found v_reached v_stepIn v_laid v_firstRow v_text v_textLong v_spot v_taken v_counted) H → va_D A (wdM cI cZ h v_all v_past v_states v_refused v_far v_row v_stepAt v_depth v_tries v_values v_wrong v_isEnd v_found v_reached v_stepIn v_laid v_firstRow v_text v_textLong v_spot v_taken v_counted) → va_S A s.heap H locs → lv_has ls 6 [(0, .ref (h 0)), (1, .long x1), (3, .int x3), (4, .int x4)] → W p l e rm9_digest s m args below meth c H locs 0 0 Q (F0 m 41 ls []) := by
        intro n41
        induction n41 with
        | zero =>
          intro v_far v_row v_stepAt v_depth v_tries v_values v_wrong v_isEnd v_found v_reached x1 x3 x4 H locs ls hf
          cases (show (none : Option (Int64 × (Nat → Int32) × (Nat → Int32) × (Nat → Int32) × Int32 × (Nat → Int32) × (Nat → Int32) × Int32 × (Nat → Int32) × (Nat → Int32) × (Nat → Int32))) = some (r0, v_far', v_row', v_stepAt', v_depth', v_tries', v_values', v_wrong', v_isEnd', v_found', v_reached') from hf)
        | succ n41 ih41 =>
          have J83 : ∀ (v_far : Nat → Int32) (v_row : Nat → Int32) (v_stepAt : Nat → Int32) (v_depth : Int32) (v_tries : Nat → Int32) (v_values : Nat → Int32) (v_wrong : Int32) (v_isEnd : Nat → Int32) (v_found : Nat → Int32) (v_reached : Nat → Int32) (x1 : Int64) (x3 : Int32) (x4 : Int32) (H : Heap) (locs : List Loc) (ls : Array Slot), f9_digest_b83 (f9_digest_l33 n) (f9_digest_l41 (f9_digest_l33 n) n41) v_all v_states v_refused v_far v_row v_stepAt v_depth v_tries v_values v_wrong v_isEnd v_found v_reached v_textLong x1 x3 x4 = some (r0, v_far', v_row', v_stepAt', v_depth', v_tries', v_values', v_wrong', v_isEnd', v_found', v_reached') → va_P D vwCl (wdM cI cZ h v_all v_past v_states v_refused v_far v_row v_stepAt v_depth v_tries v_values v_wrong v_isEnd v_found v_reached v_stepIn v_laid v_firstRow v_text v_textLong v_spot v_taken v_counted) H → va_D A (wdM cI cZ h v_all v_past v_states v_refused v_far v_row v_stepAt v_depth v_tries v_values v_wrong v_isEnd v_found v_reached v_stepIn v_laid v_firstRow v_text v_textLong v_spot v_taken v_counted) → va_S A s.heap H locs → lv_has ls 6 [(0, .ref (h 0)), (1, .long x1), (3, .int x3), (4, .int x4)] → W p l e rm9_digest s m args below meth c H locs 0 0 Q (F0 m 83 ls []) := by
            intro v_far v_row v_stepAt v_depth v_tries v_values v_wrong v_isEnd v_found v_reached x1 x3 x4 H locs ls hf hP hD hS hl
            rw [f9_digest_b83] at hf
            refine lv_iinc (v := (x4 + 1)) (lv' := [(4, .int (x4 + 1)), (0, .ref (h 0)), (1, .long x1), (3, .int x3)]) hx hb dX9_digest_83 hl (k := 3) rfl rfl (by decide) rfl (fun ls hl => ?_)
            refine lv_goto (tgt := 41) hx hb dX9_digest_86 (by decide) ?_
            exact ih41 v_far v_row v_stepAt v_depth v_tries v_values v_wrong v_isEnd v_found v_reached x1 x3 (x4 + 1) _ _ _ hf hP hD hS (lv_sub hl [1, 2, 3, 0] rfl)
          have J54 : ∀ (n54 : Nat) (v_far : Nat → Int32) (v_row : Nat → Int32) (v_stepAt : Nat → Int32) (v_depth : Int32) (v_tries : Nat → Int32) (v_values : Nat → Int32) (v_wrong : Int32) (v_isEnd : Nat → Int32) (v_found : Nat → Int32) (v_reached : Nat → Int32) (x1 : Int64) (x3 : Int32) (x4 : Int32) (x5 : Int32) (H : Heap) (locs : List Loc) (ls : Array Slot), f9_digest_l54 (f9_digest_l33 n) (f9_digest_l41 (f9_digest_l33 n) n41) n54 v_all v_states v_refused v_far v_row v_stepAt v_depth v_tries v_values v_wrong v_isEnd v_found v_reached v_textLong x1 x3 x4 x5 = some (r0, v_far', v_row', v_stepAt', v_depth', v_tries', v_values', v_wrong', v_isEnd', v_found', v_reached') → va_P D vwCl (wdM cI cZ h v_all v_past v_states v_refused v_far v_row v_stepAt v_depth v_tries v_values v_wrong v_isEnd v_found v_reached v_stepIn v_laid v_firstRow v_text v_textLong v_spot v_taken v_counted) H → va_D A (wdM cI cZ h v_all v_past v_states v_refused v_far v_row v_stepAt v_depth v_tries v_values v_wrong v_isEnd v_found v_reached v_stepIn v_laid v_firstRow v_text v_textLong v_spot v_taken v_counted) → va_S A s.heap H locs → lv_has ls 6 [(0, .ref (h 0)), (1, .long x1), (3, .int x3), (4, .int x4), (5, .int x5)] → W p l e rm9_digest s m args below meth c H locs 0 0 Q (F0 m 54 ls []) := by
            intro n54
            induction n54 with
            | zero =>
              intro v_far v_row v_stepAt v_depth v_tries v_values v_wrong v_isEnd v_found v_reached x1 x3 x4 x5 H locs ls hf
              cases (show (none : Option (Int64 × (Nat → Int32) × (Nat → Int32) × (Nat → Int32) × Int32 × (Nat → Int32) × (Nat → Int32) × Int32 × (Nat → Int32) × (Nat → Int32) × (Nat → Int32))) = some (r0, v_far', v_row', v_stepAt', v_depth', v_tries', v_values', v_wrong', v_isEnd', v_found', v_reached') from hf)
            | succ n54 ih54 =>
              intro v_far v_row v_stepAt v_depth v_tries v_values v_wrong v_isEnd v_found v_reached x1 x3 x4 x5 H locs ls hf hP hD hS hl
              rw [f9_digest_l54_s] at hf
              refine lv_iload hx hb dX9_digest_54 (lv_at hl 4 rfl) ?_
              refine lv_iconst (v := 5) hx hb dX9_digest_56 (by decide) ?_
              refine lv_icmp_ge (tgt := 83) hx hb dX9_digest_57 (by decide) (fun c30 => ?_) (fun c30 => ?_)
              · rw [if_pos c30] at hf
                exact J83 v_far v_row v_stepAt v_depth v_tries v_values v_wrong v_isEnd v_found v_reached x1 x3 x4 _ _ _ hf hP hD hS (lv_sub hl [0, 1, 2, 3] rfl)
              · rw [if_neg c30] at hf
                refine lv_ldc2 (v := 31) hx hb hown (hts (.constantLong RX9 222 (31)) (by decide +kernel)) dX9_digest_60 ?_
                refine lv_lload_n hx hb dX9_digest_63 rfl (lv_at hl 1 rfl) ?_
                refine lv_lmul hx hb dX9_digest_64 ?_
                refine lv_aload_n hx hb dX9_digest_65 rfl (lv_at hl 0 rfl) ?_
                refine lv_iload_n hx hb dX9_digest_66 rfl (lv_at hl 2 rfl) ?_
                refine lv_iload hx hb dX9_digest_67 (lv_at hl 3 rfl) ?_
                refine lv_iload hx hb dX9_digest_69 (lv_at hl 4 rfl) ?_
                refine kb_bind hf (fun q31 hq31 hf => ?_)
                have hPc : va_P D vwCl (wdM cI cZ h v_all v_past v_states v_refused v_far v_row v_stepAt v_depth v_tries v_values v_wrong v_isEnd v_found v_reached v_stepIn v_laid v_firstRow v_text v_textLong v_spot v_taken v_counted) H := hP.sub [0, 1, 2, 3, 4, 5, 6, 7, 8, 9, 10, 11, 12, 13, 14, 15, 16] rfl
                have hDc : va_D A (wdM cI cZ h v_all v_past v_states v_refused v_far v_row v_stepAt v_depth v_tries v_values v_wrong v_isEnd v_found v_reached v_stepIn v_laid v_firstRow v_text v_textLong v_spot v_taken v_counted) := hD.sub [0, 1, 2, 3, 4, 5, 6, 7, 8, 9, 10, 11, 12, 13, 14, 15, 16] (by decide) rfl
                refine kd_iR (va_runV (As := [.int x3, .int x4, .int x5]) (rest := [.long ((31 : Int64) * x1)]) ⟨hx, hb, hml, hown, hts⟩ (c9_ofStep l D cB cI cZ cO h H.size x3 x4 x5 v_all v_past v_states v_refused v_far v_row v_stepAt v_depth v_tries v_values v_wrong v_isEnd v_found v_reached v_stepIn v_laid v_firstRow v_text v_textLong v_spot v_taken v_counted q31 hq31) (cwV 3 hts gX9_digest_X9_ofStep rfl rfl rfl (by decide +kernel) ⟨Nat.le_of_ble_eq_true rfl, Nat.le_of_ble_eq_true rfl⟩) ⟨kb_blind, va_recv hK hPc (ci := 6) (q0 := 0) rfl rfl, kb_pre hPc hDc hK hN⟩ rfl rfl hl.1 rfl (lv_room (Nat.le_of_ble_eq_true rfl)) dX9_digest_71 ⟨Nat.le_refl _, Nat.le_refl _⟩) hP hD hS hA [0, 1, 2, 3, 4, 5, 6, 7, 8, 9, 10, 11, 12, 13, 14, 15, 16] rfl (fun H locs hn32 hP hS => ?_)
                refine lv_i2l (v := q31.toInt64) hx hb dX9_digest_74 rfl ?_
                refine lv_ladd hx hb dX9_digest_75 ?_
                refine lv_lstore_n (lv' := [(1, .long (((31 : Int64) * x1) + q31.toInt64)), (0, .ref (h 0)), (3, .int x3), (4, .int x4), (5, .int x5)]) hx hb dX9_digest_76 rfl hl (by decide) rfl (fun ls hl => ?_)
                refine lv_iinc (v := (x5 + 1)) (lv' := [(5, .int (x5 + 1)), (1, .long (((31 : Int64) * x1) + q31.toInt64)), (0, .ref (h 0)), (3, .int x3), (4, .int x4)]) hx hb dX9_digest_77 hl (k := 4) rfl rfl (by decide) rfl (fun ls hl => ?_)
                refine lv_goto (tgt := 54) hx hb dX9_digest_80 (by decide) ?_
                exact ih54 v_far v_row v_stepAt v_depth v_tries v_values v_wrong v_isEnd v_found v_reached (((31 : Int64) * x1) + q31.toInt64) x3 x4 (x5 + 1) _ _ _ hf hP hD hS (lv_sub hl [2, 1, 3, 4, 0] rfl)
          intro v_far v_row v_stepAt v_depth v_tries v_values v_wrong v_isEnd v_found v_reached x1 x3 x4 H locs ls hf hP hD hS hl
          rw [f9_digest_l41_s] at hf
          refine lv_iload hx hb dX9_digest_41 (lv_at hl 3 rfl) ?_
          refine lv_aload_n hx hb dX9_digest_43 rfl (lv_at hl 0 rfl) ?_
          refine lv_iload_n hx hb dX9_digest_44 rfl (lv_at hl 2 rfl) ?_
          refine kb_bind hf (fun q33 hq33 hf => ?_)
          have hPc : va_P D vwCl (wdM cI cZ h v_all v_past v_states v_refused v_far v_row v_stepAt v_depth v_tries v_values v_wrong v_isEnd v_found v_reached v_stepIn v_laid v_firstRow v_text v_textLong v_spot v_taken v_counted) H := hP.sub [0, 1, 2, 3, 4, 5, 6, 7, 8, 9, 10, 11, 12, 13, 14, 15, 16] rfl
          have hDc : va_D A (wdM cI cZ h v_all v_past v_states v_refused v_far v_row v_stepAt v_depth v_tries v_values v_wrong v_isEnd v_found v_reached v_stepIn v_laid v_firstRow v_text v_textLong v_spot v_taken v_counted) := hD.sub [0, 1, 2, 3, 4, 5, 6, 7, 8, 9, 10, 11, 12, 13, 14, 15, 16] (by decide) rfl
          refine kd_iR (va_runV (As := [.int x3]) (rest := [.int x4]) ⟨hx, hb, hml, hown, hts⟩ (c9_many l D cB cI cZ cO h H.size x3 v_all v_past v_states v_refused v_far v_row v_stepAt v_depth v_tries v_values v_wrong v_isEnd v_found v_reached v_stepIn v_laid v_firstRow v_text v_textLong v_spot v_taken v_counted q33 hq33) (cwV 1 hts gX9_digest_X9_many rfl rfl rfl (by decide +kernel) ⟨Nat.le_of_ble_eq_true rfl, Nat.le_of_ble_eq_true rfl⟩) ⟨kb_blind, va_recv hK hPc (ci := 6) (q0 := 0) rfl rfl, kb_pre hPc hDc hK hN⟩ rfl rfl hl.1 rfl (lv_room (Nat.le_of_ble_eq_true rfl)) dX9_digest_45 ⟨Nat.le_refl _, Nat.le_refl _⟩) hP hD hS hA [0, 1, 2, 3, 4, 5, 6, 7, 8, 9, 10, 11, 12, 13, 14, 15, 16] rfl (fun H locs hn34 hP hS => ?_)
          refine lv_icmp_ge (tgt := 89) hx hb dX9_digest_48 (by decide) (fun c35 => ?_) (fun c35 => ?_)
          · rw [if_pos c35] at hf
            exact J89 v_far v_row v_stepAt v_depth v_tries v_values v_wrong v_isEnd v_found v_reached x1 x3 _ _ _ hf hP hD hS (lv_sub hl [0, 1, 2] rfl)
          · rw [if_neg c35] at hf
            refine lv_iconst (v := 0) hx hb dX9_digest_51 (by decide) ?_
            refine lv_istore (lv' := [(5, .int (0 : Int32)), (0, .ref (h 0)), (1, .long x1), (3, .int x3), (4, .int x4)]) hx hb dX9_digest_52 hl (by decide) rfl (fun ls hl => ?_)
            exact J54 kFUEL v_far v_row v_stepAt v_depth v_tries v_values v_wrong v_isEnd v_found v_reached x1 x3 x4 (0 : Int32) _ _ _ hf hP hD hS (lv_sub hl [1, 2, 3, 4, 0] rfl)
      intro v_far v_row v_stepAt v_depth v_tries v_values v_wrong v_isEnd v_found v_reached x1 x3 H locs ls hf hP hD hS hl
      rw [f9_digest_l33_s] at hf
      refine lv_iload_n hx hb dX9_digest_33 rfl (lv_at hl 2 rfl) ?_
      refine lv_iconst (v := 3) hx hb dX9_digest_34 (by decide) ?_
      refine lv_icmp_ge (tgt := 95) hx hb dX9_digest_35 (by decide) (fun c36 => ?_) (fun c36 => ?_)
      · rw [if_pos c36] at hf
        exact J95 v_far v_row v_stepAt v_depth v_tries v_values v_wrong v_isEnd v_found v_reached x1 _ _ _ hf hP hD hS (lv_sub hl [0, 1] rfl)
      · rw [if_neg c36] at hf
        refine lv_iconst (v := 0) hx hb dX9_digest_38 (by decide) ?_
        refine lv_istore (lv' := [(4, .int (0 : Int32)), (0, .ref (h 0)), (1, .long x1), (3, .int x3)]) hx hb dX9_digest_39 hl (by decide) rfl (fun ls hl => ?_)
        exact J41 kFUEL v_far v_row v_stepAt v_depth v_tries v_values v_wrong v_isEnd v_found v_reached x1 x3 (0 : Int32) _ _ _ hf hP hD hS (lv_sub hl [1, 2, 3, 0] rfl)
  have J31 : ∀ (v_far : Nat → Int32) (v_row : Nat → Int32) (v_stepAt : Nat → Int32) (v_depth : Int32) (v_tries : Nat → Int32) (v_values : Nat → Int32) (v_wrong : Int32) (v_isEnd : Nat → Int32) (v_found : Nat → Int32) (v_reached : Nat → Int32) (x1 : Int64) (H : Heap) (locs : List Loc) (ls : Array Slot), f9_digest_b31 v_all v_states v_refused v_far v_row v_stepAt v_depth v_tries v_values v_wrong v_isEnd v_found v_reached v_textLong x1 = some (r0, v_far', v_row', v_stepAt', v_depth', v_tries', v_values', v_wrong', v_isEnd', v_found', v_reached') → va_P D vwCl (wdM cI cZ h v_all v_past v_states v_refused v_far v_row v_stepAt v_depth v_tries v_values v_wrong v_isEnd v_found v_reached v_stepIn v_laid v_firstRow v_text v_textLong v_spot v_taken v_counted) H → va_D A (wdM cI cZ h v_all v_past v_states v_refused v_far v_row v_stepAt v_depth v_tries v_values v_wrong v_isEnd v_found v_reached v_stepIn v_laid v_firstRow v_text v_textLong v_spot v_taken v_counted) → va_S A s.heap H locs → lv_has ls 6 [(0, .ref (h 0)), (1, .long x1)] → W p l e rm9_digest s m args below meth c H locs 0 0 Q (F0 m 31 ls []) := by
    intro v_far v_row v_stepAt v_depth v_tries v_values v_wrong v_isEnd v_found v_reached x1 H locs ls hf hP hD hS hl
    rw [f9_digest_b31] at hf
    refine lv_iconst (v := 0) hx hb dX9_digest_31 (by decide) ?_
    refine lv_istore_n (lv' := [(3, .int (0 : Int32)), (0, .ref (h 0)), (1, .long x1)]) hx hb dX9_digest_32 rfl hl (by decide) rfl (fun ls hl => ?_)
    exact J33 kFUEL v_far v_row v_stepAt v_depth v_tries v_values v_wrong v_isEnd v_found v_reached x1 (0 : Int32) _ _ _ hf hP hD hS (lv_sub hl [1, 2, 0] rfl)
  have J6 : ∀ (n : Nat) (v_far : Nat → Int32) (v_row : Nat → Int32) (v_stepAt : Nat → Int32) (v_depth : Int32) (v_tries : Nat → Int32) (v_values : Nat → Int32) (v_wrong : Int32) (v_isEnd : Nat → Int32) (v_found : Nat → Int32) (v_reached : Nat → Int32) (x1 : Int64) (x3 : Int32) (H : Heap) (locs : List Loc) (ls : Array Slot), f9_digest_l6 n v_all v_states v_refused v_far v_row v_stepAt v_depth v_tries v_values v_wrong v_isEnd v_found v_reached v_textLong x1 x3 = some (r0, v_far', v_row', v_stepAt', v_depth', v_tries', v_values', v_wrong', v_isEnd', v_found', v_reached') → va_P D vwCl (wdM cI cZ h v_all v_past v_states v_refused v_far v_row v_stepAt v_depth v_tries v_values v_wrong v_isEnd v_found v_reached v_stepIn v_laid v_firstRow v_text v_textLong v_spot v_taken v_counted) H → va_D A (wdM cI cZ h v_all v_past v_states v_refused v_far v_row v_stepAt v_depth v_tries v_values v_wrong v_isEnd v_found v_reached v_stepIn v_laid v_firstRow v_text v_textLong v_spot v_taken v_counted) → va_S A s.heap H locs → lv_has ls 6 [(0, .ref (h 0)), (1, .long x1), (3, .int x3)] → W p l e rm9_digest s m args below meth c H locs 0 0 Q (F0 m 6 ls []) := by
    intro n
    induction n with
    | zero =>
      intro v_far v_row v_stepAt v_depth v_tries v_values v_wrong v_isEnd v_found v_reached x1 x3 H locs ls hf
      cases (show (none : Option (Int64 × (Nat → Int32) × (Nat → Int32) × (Nat → Int32) × Int32 × (Nat → Int32) × (Nat → Int32) × Int32 × (Nat → Int32) × (Nat → Int32) × (Nat → Int32))) = some (r0, v_far', v_row', v_stepAt', v_depth', v_tries', v_values', v_wrong', v_isEnd', v_found', v_reached') from hf)
    | succ n ih =>
      intro v_far v_row v_stepAt v_depth v_tries v_values v_wrong v_isEnd v_found v_reached x1 x3 H locs ls hf hP hD hS hl
      rw [f9_digest_l6_s] at hf
      refine lv_iload_n hx hb dX9_digest_6 rfl (lv_at hl 2 rfl) ?_
      refine lv_bipush (v := 9) hx hb dX9_digest_7 (by decide) ?_
      refine lv_icmp_ge (tgt := 31) hx hb dX9_digest_9 (by decide) (fun c40 => ?_) (fun c40 => ?_)
      · rw [if_pos c40] at hf
        exact J31 v_far v_row v_stepAt v_depth v_tries v_values v_wrong v_isEnd v_found v_reached x1 _ _ _ hf hP hD hS (lv_sub hl [0, 1] rfl)
      · rw [if_neg c40] at hf
        refine lv_ldc2 (v := 31) hx hb hown (hts (.constantLong RX9 222 (31)) (by decide +kernel)) dX9_digest_12 ?_
        refine lv_lload_n hx hb dX9_digest_15 rfl (lv_at hl 1 rfl) ?_
        refine lv_lmul hx hb dX9_digest_16 ?_
        refine lv_aload_n hx hb dX9_digest_17 rfl (lv_at hl 0 rfl) ?_
        refine lv_iload_n hx hb dX9_digest_18 rfl (lv_at hl 2 rfl) ?_
        refine kb_bind hf (fun q41 hq41 hf => ?_)
        have hPc : va_P D vwCl (wdM cI cZ h v_all v_past v_states v_refused v_far v_row v_stepAt v_depth v_tries v_values v_wrong v_isEnd v_found v_reached v_stepIn v_laid v_firstRow v_text v_textLong v_spot v_taken v_counted) H := hP.sub [0, 1, 2, 3, 4, 5, 6, 7, 8, 9, 10, 11, 12, 13, 14, 15, 16] rfl
        have hDc : va_D A (wdM cI cZ h v_all v_past v_states v_refused v_far v_row v_stepAt v_depth v_tries v_values v_wrong v_isEnd v_found v_reached v_stepIn v_laid v_firstRow v_text v_textLong v_spot v_taken v_counted) := hD.sub [0, 1, 2, 3, 4, 5, 6, 7, 8, 9, 10, 11, 12, 13, 14, 15, 16] (by decide) rfl
        refine kd_iR (va_runV (As := [.int x3]) (rest := [.long ((31 : Int64) * x1)]) ⟨hx, hb, hml, hown, hts⟩ (c9_toldOf l D cB cI cZ cO h H.size x3 v_all v_past v_states v_refused v_far v_row v_stepAt v_depth v_tries v_values v_wrong v_isEnd v_found v_reached v_stepIn v_laid v_firstRow v_text v_textLong v_spot v_taken v_counted q41 hq41) (cwV 1 hts gX9_digest_X9_toldOf rfl rfl rfl (by decide +kernel) ⟨Nat.le_of_ble_eq_true rfl, Nat.le_of_ble_eq_true rfl⟩) ⟨kb_blind, va_recv hK hPc (ci := 6) (q0 := 0) rfl rfl, kb_pre hPc hDc hK hN⟩ rfl rfl hl.1 rfl (lv_room (Nat.le_of_ble_eq_true rfl)) dX9_digest_19 ⟨Nat.le_refl _, Nat.le_refl _⟩) hP hD hS hA [0, 1, 2, 3, 4, 5, 6, 7, 8, 9, 10, 11, 12, 13, 14, 15, 16] rfl (fun H locs hn42 hP hS => ?_)
        refine lv_i2l (v := q41.toInt64) hx hb dX9_digest_22 rfl ?_
        refine lv_ladd hx hb dX9_digest_23 ?_
        refine lv_lstore_n (lv' := [(1, .long (((31 : Int64) * x1) + q41.toInt64)), (0, .ref (h 0)), (3, .int x3)]) hx hb dX9_digest_24 rfl hl (by decide) rfl (fun ls hl => ?_)
        refine lv_iinc (v := (x3 + 1)) (lv' := [(3, .int (x3 + 1)), (1, .long (((31 : Int64) * x1) + q41.toInt64)), (0, .ref (h 0))]) hx hb dX9_digest_25 hl (k := 2) rfl rfl (by decide) rfl (fun ls hl => ?_)
        refine lv_goto (tgt := 6) hx hb dX9_digest_28 (by decide) ?_
        exact ih v_far v_row v_stepAt v_depth v_tries v_values v_wrong v_isEnd v_found v_reached (((31 : Int64) * x1) + q41.toInt64) (x3 + 1) _ _ _ hf hP hD hS (lv_sub hl [2, 1, 0] rfl)
  rw [f9_digest] at hf
  refine lv_ldc2 (v := 2593) hx hb hown (hts (.constantLong RX9 220 (2593)) (by decide +kernel)) dX9_digest_0 ?_
  refine lv_lstore_n (lv' := [(1, .long (2593 : Int64)), (0, .ref (h 0))]) hx hb dX9_digest_3 rfl hl (by decide) rfl (fun ls hl => ?_)
  refine lv_iconst (v := 0) hx hb dX9_digest_4 (by decide) ?_
  refine lv_istore_n (lv' := [(3, .int (0 : Int32)), (1, .long (2593 : Int64)), (0, .ref (h 0))]) hx hb dX9_digest_5 rfl hl (by decide) rfl (fun ls hl => ?_)
  exact J6 kFUEL v_far v_row v_stepAt v_depth v_tries v_values v_wrong v_isEnd v_found v_reached (2593 : Int64) (0 : Int32) _ _ _ hf hP hD hS (lv_sub hl [2, 1, 0] rfl)
