/-! THE CLAIM OUT OF ONE WALK OF THE LAW'S BODY. Your part is whole_start (and what it stands on); all else here is the same for every law, but numbers. -/
def R_law : String := "StepOrdersLaw"
def lw_P (b : Addr) (xs : List Int32) (args : Array Value) (s : State) : Prop := args = #[.ref b] ∧ s.IntsAt b xs ∧ xs.length ≤ 2560 ∧ (Jvm.Cond.and given_1 narrow_1).before args s = true
def lw_Q (_ : Array Value) (s : State) (o : Outcome) (t : State) : Prop := o = .returned (some (.int 1)) ∧ Framed s o t [] 600000 7302250
def lw_Z (below : List Frame) (a : Array Value) (s : State) : State → Prop := fun t => ∃ o, t.status = .running ∧ Ended t below o ∧ lw_Q a s o t
/-- the law's own end, with 1 on the stack, nothing written that was there before, its room as the claim has it -/
theorem lw_ret {p : Program} {l : Launch} {e : Env} {s : State} {m : MethodId} {below : List Frame} {meth : Method} {c : Code} {b : Nat} (hx : p.tables.exec = Jvm.exec) (hb : c.code = code) (hr : meth.sig.returnType = ret) (hlocks : meth.locks = false) {pc : Nat} {H : Heap} {ls : Array Slot} (hdg : decode code pc = .ok (.ireturn, 1)) : W p l e room_1 s m #[Value.ref b] below meth c H [] 600000 7302250 (lw_Z below #[Value.ref b] s) (F0 m pc ls [.int 1]) := by
  intro T hT X
  obtain ⟨fs, hret, hrun, hended, hW, hframe⟩ := X.leave (v := some (.int 1)) (hlocks := hlocks) (fun h => by rw [hr] at h; cases h)
  have hmeth' : T.vm.method? m = some meth := X.method'
  refine ⟨T.setFrames fs, ?_, .returned (some (.int 1)), hrun, hended, rfl, ⟨_, rfl⟩, hW, hframe⟩
  jvm_step X.here [X.here.top, hx, hb, hdg, hmeth', hr, ret, narrow_b1]
  (try refine ⟨rfl, ?_⟩); (try refine ⟨rfl, ?_⟩)
  first | (intro acts; rw [hret _ acts rfl rfl rfl]) | rw [hret _ _ rfl rfl rfl]
  exact Steps.refl _
/-- what holds at the law's entry: the machine, the code, the tables' words (any of lw_tbl by 'hts w (by decide +kernel)'), the script of L ints xs at the cell b, what the Statement gives of the start (any of its parts by flat_of_before) -/
def lw_At (p : Program) (s : State) (m : MethodId) (meth : Method) (c : Code) (b L : Nat) (xs : Nat → Int32) : Prop :=
  p.tables.exec = Jvm.exec ∧ c.code = code ∧ meth.sig.returnType = ret ∧ c.maxLocals = 4 ∧ s.vm.findClass R_law = some m.cls ∧ (∀ w ∈ lw_tbl, w.before #[Value.ref b] s = true) ∧ va_X b L xs s s.heap ∧ b < s.heap.size ∧ meth.locks = false ∧ (Jvm.Cond.and given_1 narrow_1).before #[Value.ref b] s = true
theorem sub5_toInt {L : Nat} (h : L < 2 ^ 30) : (nI L - nI 5).toInt = (L : Int) - 5 := pk_sub_toInt h (by decide)
set_option maxHeartbeats 4000000 in
set_option maxRecDepth 100000 in
/-- THE LAW'S LOOP: at its head, class and reference are alike -/
theorem law_loop {p : Program} {l : Launch} {e : Env} {s : State} {m : MethodId} {below : List Frame} {meth : Method} {c : Code} {D : va_G} {cB cI cZ cO : ClassId} {h k : Nat → Nat} {b L : Nat} {xs : Nat → Int32} (hL : L ≤ 2560) (C0 : lw_At p s m meth c b L xs) (htsL : ∀ w ∈ wsL_law, w.before #[Value.ref b] s = true) (hK : va_K D vwCl (ka_tys cB cI cZ cO) s) (hN : kb_N s) :
    ∀ (n i : Nat), i ≤ L → L + 1 ≤ i + n → ∀ (H : Heap) (locs : List Loc) (ls : Array Slot), zHP D cB cI cZ cO h k (fun q => s.heap.size ≤ q) H → va_S (fun q => s.heap.size ≤ q) s.heap H locs → lv_has ls 4 [(0, .ref b), (1, .ref (h 0)), (2, .ref (k 0)), (3, .int (nI i))] →
      W p l e room_1 s m #[Value.ref b] below meth c H locs 51 55782 (lw_Z below #[Value.ref b] s) (F0 m 18 ls []) := by
  obtain ⟨hx, hb, hr, hml, hown, hts, hX, hbl, hlocks, hgv⟩ := C0
  have hb : c.code = cL_law := hb
  have hown : s.vm.findClass RL = some m.cls := hown
  have hbA : ¬ (fun q : Nat => s.heap.size ≤ q) b := Nat.not_le.mpr hbl
  have hcs : 51 ≤ 600000 ∧ 55782 ≤ 7302250 := ⟨Nat.le_of_ble_eq_true rfl, Nat.le_of_ble_eq_true rfl⟩
  intro n
  induction n with
  | zero =>
    intro i h1 h2
    exact absurd h2 (by omega)
  | succ n ih =>
    intro i hi hin H locs ls hW hS hl
    refine lv_iload_n hx hb dL_law_18 rfl (lv_at hl 3 rfl) ?_
    refine lv_aload_n hx hb dL_law_19 rfl (lv_at hl 0 rfl) ?_
    refine va_slen hx hb hX hbl hbA hS dL_law_20 ?_
    refine lv_iconst (v := 5) hx hb dL_law_21 (by decide) ?_
    refine lv_isub hx hb dL_law_22 ?_
    refine lv_icmp_gt (tgt := 692) hx hb dL_law_23 (by decide) (fun c1 => ?_) (fun c1 => ?_)
    · refine lv_iconst (v := 1) hx hb dL_law_692 (by decide) ?_
      refine va_forget (fun q hq => hS.2.2 q hq) ?_
      refine W.widen (k := 600000) (n := 7302250) (Nat.le_of_ble_eq_true rfl) (Nat.le_of_ble_eq_true rfl) ?_
      exact lw_ret hx hb hr hlocks dL_law_693
    · have hlt : i + 5 ≤ L := by
        have c2 : ¬ (nI L - nI 5) < nI i := c1
        rw [fa_lt, sub5_toInt (by omega), nI_toInt (by omega)] at c2
        omega
      have v0 : vp_in (nI i) L := vp_in_nI (by omega) (by omega)
      have v1 : vp_in (nI i + 1) L := by rw [nI_1]; exact vp_in_nI (by omega) (by omega)
      have v2 : vp_in (nI i + 2) L := by rw [l_2, nI_add]; exact vp_in_nI (by omega) (by omega)
      have v3 : vp_in (nI i + 3) L := by rw [l_3, nI_add]; exact vp_in_nI (by omega) (by omega)
      have v4 : vp_in (nI i + 4) L := by rw [l_4, nI_add]; exact vp_in_nI (by omega) (by omega)
      have next : ∀ (H1 : Heap) (locs1 : List Loc), zHP D cB cI cZ cO h k (fun q => s.heap.size ≤ q) H1 → va_S (fun q => s.heap.size ≤ q) s.heap H1 locs1 → W p l e room_1 s m #[Value.ref b] below meth c H1 locs1 51 55782 (lw_Z below #[Value.ref b] s) (F0 m 686 ls []) := by
        intro H1 locs1 hW1 hS1
        refine lv_iinc (v := nI (i + 5)) (lv' := [(3, .int (nI (i + 5))), (0, .ref b), (1, .ref (h 0)), (2, .ref (k 0))]) hx hb dL_law_686 hl (k := 3) rfl (by rw [← nI_add]; rfl) (by decide) rfl (fun ls hl => ?_)
        refine lv_goto (tgt := 18) hx hb dL_law_689 (by decide) ?_
        exact ih (i + 5) hlt (by omega) H1 locs1 ls hW1 hS1 (lv_sub hl [1, 2, 3, 0] rfl)
      refine lv_aload_n hx hb dL_law_26 rfl (lv_at hl 0 rfl) ?_
      refine lv_iload_n hx hb dL_law_27 rfl (lv_at hl 3 rfl) ?_
      refine va_sld hx hb hX hbl hbA hS v0 dL_law_28 ?_
      refine lv_bipush (v := 31) hx hb dL_law_29 (by decide) ?_
      refine lv_iand hx hb dL_law_31 ?_
      obtain ⟨j, hj, ej⟩ := pk_andE (xs (nI i).toNatClampNeg) (m := 31) 5 (by decide)
      rw [ej]
      have hj32 : j < 32 := hj
      have cases21 : j = 0 ∨ j = 1 ∨ j = 2 ∨ j = 3 ∨ j = 4 ∨ j = 5 ∨ j = 6 ∨ j = 7 ∨ j = 8 ∨ j = 9 ∨ j = 10 ∨ j = 11 ∨ j = 12 ∨ j = 13 ∨ j = 14 ∨ j = 15 ∨ j = 16 ∨ j = 17 ∨ j = 18 ∨ j = 19 ∨ j = 20 ∨ 21 ≤ j := by omega
      rcases cases21 with rfl | rfl | rfl | rfl | rfl | rfl | rfl | rfl | rfl | rfl | rfl | rfl | rfl | rfl | rfl | rfl | rfl | rfl | rfl | rfl | rfl | hj2
      · exact lv_tableIn (off := 100) (tgt := 132) hx hb dL_law_32 (by decide) (by decide) (by decide) (by decide) (law_step hcs hx hb hml hown htsL hX hbl hK hN v1 v2 v3 v4 hl hW hS next)
      · exact lv_tableIn (off := 153) (tgt := 185) hx hb dL_law_32 (by decide) (by decide) (by decide) (by decide) (law_drops hcs hx hb hml hown htsL hX hbl hK hN v1 v2 v3 v4 hl hW hS next)
      · exact lv_tableIn (off := 176) (tgt := 208) hx hb dL_law_32 (by decide) (by decide) (by decide) (by decide) (law_number hcs hx hb hml hown htsL hX hbl hK hN v1 v2 v3 v4 hl hW hS next)
      · exact lv_tableIn (off := 209) (tgt := 241) hx hb dL_law_32 (by decide) (by decide) (by decide) (by decide) (law_of hcs hx hb hml hown htsL hX hbl hK hN v1 v2 v3 v4 hl hW hS next)
      · exact lv_tableIn (off := 252) (tgt := 284) hx hb dL_law_32 (by decide) (by decide) (by decide) (by decide) (law_depend hcs hx hb hml hown htsL hX hbl hK hN v1 v2 v3 v4 hl hW hS next)
      · exact lv_tableIn (off := 305) (tgt := 337) hx hb dL_law_32 (by decide) (by decide) (by decide) (by decide) (law_orders hcs hx hb hml hown htsL hX hbl hK hN v1 v2 v3 v4 hl hW hS next)
      · exact lv_tableIn (off := 328) (tgt := 360) hx hb dL_law_32 (by decide) (by decide) (by decide) (by decide) (law_order hcs hx hb hml hown htsL hX hbl hK hN v1 v2 v3 v4 hl hW hS next)
      · exact lv_tableIn (off := 361) (tgt := 393) hx hb dL_law_32 (by decide) (by decide) (by decide) (by decide) (law_sort hcs hx hb hml hown htsL hX hbl hK hN v1 v2 v3 v4 hl hW hS next)
      · exact lv_tableIn (off := 394) (tgt := 426) hx hb dL_law_32 (by decide) (by decide) (by decide) (by decide) (law_ends hcs hx hb hml hown htsL hX hbl hK hN v1 v2 v3 v4 hl hW hS next)
      · exact lv_tableIn (off := 417) (tgt := 449) hx hb dL_law_32 (by decide) (by decide) (by decide) (by decide) (law_race hcs hx hb hml hown htsL hX hbl hK hN v1 v2 v3 v4 hl hW hS next)
      · exact lv_tableIn (off := 470) (tgt := 502) hx hb dL_law_32 (by decide) (by decide) (by decide) (by decide) (law_races hcs hx hb hml hown htsL hX hbl hK hN v1 v2 v3 v4 hl hW hS next)
      · exact lv_tableIn (off := 483) (tgt := 515) hx hb dL_law_32 (by decide) (by decide) (by decide) (by decide) (law_does hcs hx hb hml hown htsL hX hbl hK hN v1 v2 v3 v4 hl hW hS next)
      · exact lv_tableIn (off := 506) (tgt := 538) hx hb dL_law_32 (by decide) (by decide) (by decide) (by decide) (law_again hcs hx hb hml hown htsL hX hbl hK hN v1 v2 v3 v4 hl hW hS next)
      · exact lv_tableIn (off := 519) (tgt := 551) hx hb dL_law_32 (by decide) (by decide) (by decide) (by decide) (law_run hcs hx hb hml hown htsL hX hbl hK hN v1 v2 v3 v4 hl hW hS next)
      · exact lv_tableIn (off := 542) (tgt := 574) hx hb dL_law_32 (by decide) (by decide) (by decide) (by decide) (law_which hcs hx hb hml hown htsL hX hbl hK hN v1 v2 v3 v4 hl hW hS next)
      · exact lv_tableIn (off := 555) (tgt := 587) hx hb dL_law_32 (by decide) (by decide) (by decide) (by decide) (law_type hcs hx hb hml hown htsL hX hbl hK hN v1 v2 v3 v4 hl hW hS next)
      · exact lv_tableIn (off := 578) (tgt := 610) hx hb dL_law_32 (by decide) (by decide) (by decide) (by decide) (law_clear hcs hx hb hml hown htsL hX hbl hK hN v1 v2 v3 v4 hl hW hS next)
      · exact lv_tableIn (off := 591) (tgt := 623) hx hb dL_law_32 (by decide) (by decide) (by decide) (by decide) (law_reads hcs hx hb hml hown htsL hX hbl hK hN v1 v2 v3 v4 hl hW hS next)
      · exact lv_tableIn (off := 604) (tgt := 636) hx hb dL_law_32 (by decide) (by decide) (by decide) (by decide) (law_back hcs hx hb hml hown htsL hX hbl hK hN v1 v2 v3 v4 hl hW hS next)
      · exact lv_tableIn (off := 617) (tgt := 649) hx hb dL_law_32 (by decide) (by decide) (by decide) (by decide) (law_told hcs hx hb hml hown htsL hX hbl hK hN v1 v2 v3 v4 hl hW hS next)
      · exact lv_tableIn (off := 640) (tgt := 672) hx hb dL_law_32 (by decide) (by decide) (by decide) (by decide) (law_digest hcs hx hb hml hown htsL hX hbl hK hN v1 v2 v3 v4 hl hW hS next)
      · exact lv_tableOut (tgt := 686) hx hb dL_law_32 (Or.inr (by rw [nI_toInt (by omega)]; omega)) (by decide) (next H locs hW hS)
