/-! constructors -/
def kb_X (U : State) : Prop := kb_N U ∧ va_AO RX5 U
theorem kb_X_warm {u U : State} (hW : u.WarmedH U.vm) (h : kb_X u) : kb_X U := ⟨kb_N_warm hW h.1, va_AO.moved hW.alike h.2⟩
theorem kb_X_vm {u U : State} (hv : u.vm = U.vm) (h : kb_X u) : kb_X U := ⟨kb_N_vm hv h.1, va_AO.moved (by rw [hv]; exact Vm.Alike.refl _) h.2⟩
def kb_C (D : va_G) (tys : List (ClassId × FieldType)) (sz : Nat) (w : va_W) (U : State) : Prop := U.heap.size = sz ∧ va_P D vwCl w U.heap ∧ va_K D vwCl tys U ∧ kb_X U ∧ va_D (fun _ => True) w
theorem kb_blindC {D : va_G} {tys : List (ClassId × FieldType)} {sz : Nat} {w : va_W} {av : List Value} : FrameBlind (va_Pc av (kb_C D tys sz w)) := fun a U g mk q => by
  obtain ⟨q0, q1, qP, qK, qN, qD⟩ := q
  exact ⟨q0, q1, qP, va_K.moved (u := U) (U := U.calling g mk a) (Vm.Alike.refl U.vm) qK, kb_X_vm (u := U) (U := U.calling g mk a) rfl qN, qD⟩
theorem kb_preC {D : va_G} {tys : List (ClassId × FieldType)} {A : Nat → Prop} {w : va_W} {H : Heap} {s : State} {av : List Value} (hP : va_P D vwCl w H) (hD : va_D A w) (hK : va_K D vwCl tys s) (hN : kb_X s) : ∀ U : State, U.heap = H → s.WarmedH U.vm → va_Pc av (kb_C D tys H.size w) av.toArray U :=
  fun U hU hW => ⟨rfl, by rw [hU], by rw [hU]; exact hP, va_K.moved hW.alike hK, kb_X_warm hW hN, hD.weaken (fun _ _ _ _ => trivial)⟩
/-- behind a constructor: the new world, its first cell where the object was -/
def kb_at (D : va_G) (a : Nat) (A : Nat → Prop) (w1 : (Nat → Nat) → va_W) : Unit → State → Prop := fun _ t => ∃ q : Nat → Nat, q 0 = a ∧ va_P D vwCl (w1 q) t.heap ∧ va_D A (w1 q)
theorem ka_same {D : va_G} {cl : List vw_C} {cB cI cZ cO cA : ClassId} {ty : FieldType} {s : State} (k : Nat) {cX : ClassId} (hk : (ka_tys cB cI cZ cO)[k]? = some (cX, ty)) (hp : ∀ c, va_RA s c ty → s.vm.findClass ("[" ++ ty.toString) = some c) (h : va_K D cl (ka_tys cB cI cZ cO ++ [(cA, ty)]) s) : cA = cX := by
  have hlt : k < (ka_tys cB cI cZ cO).length := (List.getElem?_eq_some_iff.mp hk).1
  have h1 := hp _ (h.2 k _ (by rw [List.getElem?_append_left hlt]; exact hk)).2
  have h2 := hp _ (h.2 4 (cA, ty) rfl).2
  exact Option.some.inj (h2.symm.trans h1)
theorem kb_metC {l : Launch} {y : MethodName} {ws ws' : List Cond} {rm : Room} {cc : ByteArray} {maxL : Nat} {D : va_G} {tys : List (ClassId × FieldType)} {sz a mc ms : Nat} {w : va_W} {w1 : (Nat → Nat) → va_W} {av : List Value} (hy : plainName y.cls = true) (hw : ws = Cond.code y cc maxL none :: ws') (hlen : (lg_sl av).length ≤ maxL)
    (body : ∀ (p : Program) (e : Env) (s : State) (m : MethodId) (args : Array Value) (below : List Frame) (meth : Method) (c : Code) (Q : State → Prop) (A : Nat → Prop) (ls : Array Slot) (H : Heap), p.tables.exec = Jvm.exec → c.code = cc → c.maxLocals = maxL → s.vm.findClass y.cls = some m.cls → (∀ w ∈ ws, w.before args s = true) → va_K D vwCl tys s → kb_X s → meth.name = y.name → va_P D vwCl w H → va_D A w → va_S A s.heap H [] → (∀ q, s.heap.size ≤ q → A q) → lv_has ls maxL (lv_args 0 av) →
      (∀ (q : Nat → Nat) (H : Heap) (locs : List Loc) (ls : Array Slot) (pc : Nat), q 0 = a → va_P D vwCl (w1 q) H → va_D A (w1 q) → va_S A s.heap H locs → decode cc pc = .ok (.return_, 1) → W p l e rm s m args below meth c H locs mc ms Q (F0 m pc ls [])) → W p l e rm s m args below meth c H [] 0 0 Q (F0 m 0 ls [])) :
    Met l y ws rm (va_Pc av (kb_C D tys sz w)) (va_Qv (fun (_ : Unit) => True) (kb_at D a (va_A w sz) w1) (va_A w sz)) mc ms (va_A w sz) := by
  refine Met.ofW (cc := cc) (maxL := maxL) (ret := none) hy hw ?_
  intro p e s m args below meth c s₁ B hml hv
  obtain ⟨rfl, hsz, hP, hK, hN, hD0⟩ := hv
  have hlocks := B.notSynchronized
  have hr := B.returns
  subst hsz
  have hl := lv_entry av (n := maxL) hlen
  rw [lg_entry_eq]
  refine body p e s m _ below meth c _ (va_A w s.heap.size) _ s.heap B.exec B.bytes hml (findClass_of_methodNamed B.named) (atoms_spec (ws := ws) B.pre) hK hN (name_of_methodNamed B.named B.method).1 hP hD0.self va_S.rf (fun q h => Or.inr h) hl ?_
  intro q H locs ls pc hq hP1 hD1 hS hdg
  exact W.vret B.exec B.bytes hr (fun t ht hW => ⟨⟨(), rfl, trivial, q, hq, by rw [ht]; exact hP1, hD1⟩, hS.F ht⟩) hS.2.2 hdg
section KCTOR
variable {p : Program} {l : Launch} {e : Env} {R : Room} {s : State} {m : MethodId} {args : Array Value} {below : List Frame} {meth : Method} {c : Code} {H : Heap} {locs : List Loc} {cells slots : Nat} {Q : State → Prop}
variable {pc : Nat} {ls : Array Slot} {rest st0 : List Value} {a : Array Value} {A : Nat → Prop} {H0 : Heap} {D : va_G} {ws wc wr : va_W}
theorem kd_C {w1 : (Nat → Nat) → va_W} {a0 mc ms : Nat} (hr : va_Run p l e R s m args below meth c H locs cells slots mc ms (F0 m pc ls st0) rest (va_Qv (fun (_ : Unit) => True) (kb_at D a0 (va_A wc H.size) w1) (va_A wc H.size) a) (va_A wc H.size)) (hP : va_P D vwCl ws H) (hD : va_D A ws) (hS : va_S A H0 H locs) (hA : ∀ q, H0.size ≤ q → A q) (isC isR : List Nat) (hC : isC.map (fun i => ws[i]?) = wc.map some) (hR : isR.map (fun i => ws[i]?) = wr.map some) (hn : va_nd isR = true) (hdis : ∀ i ∈ isR, i ∉ isC)
    (kk : ∀ (q : Nat → Nat) (H1 : Heap) (locs1 : List Loc), q 0 = a0 → va_P D vwCl (wr ++ w1 q) H1 → va_D A (wr ++ w1 q) → va_S A H0 H1 locs1 → W p l e R s m args below meth c H1 locs1 (cells + mc) (slots + ms) Q (F0 m (pc + 3) ls rest)) : W p l e R s m args below meth c H locs cells slots Q (F0 m pc ls st0) := by
  have hF := va_free hD hS hA isC hC
  refine va_callv hr hS (fun q _ h => hF q h) hF (fun u t H1 locs1 ht hvm hw hB hz hk hS1 => ?_)
  obtain ⟨q, hq, hP1, hD1⟩ := hB
  rw [ht] at hP1
  have hj := va_join (wr := wr) (w1 := w1 q) hP hD isC isR hC hR hn hdis hk hF hP1 hD1
  exact kk q H1 locs1 hq hj.1 hj.2 hS1
end KCTOR
theorem ka_cq {cA : ClassId} {n : Nat} {f g : Nat → Option Nat} (h : ∀ j, j < n → f j = g j) : vp_cell cA (n, .inr (.inr (.inr (.inr f)))) = vp_cell cA (n, .inr (.inr (.inr (.inr g)))) := by
  rw [vp_cell_q, vp_cell_q]
  have e : (fun j : Fin n => va_rf (f j.val)) = (fun j : Fin n => va_rf (g j.val)) := funext fun j => by rw [h j.val j.isLt]
  exact congrArg (fun F : Fin n → Value => ({ cls := cA, slots := Array.ofFn F, vm := .none } : Cell)) e
theorem ka_setP {D : va_G} {cl : List vw_C} {ws : va_W} {H : Heap} {p a : Nat} {e e' : va_E} (hP : va_P D cl ws H) (hp : ws[p]? = some (a, e)) (he : va_at D cl (a, e) H → va_at D cl (a, e') H) : va_P D cl (ws.set p (a, e')) H := by
  intro k q hk
  by_cases hkp : p = k
  · subst hkp
    rw [List.getElem?_set_self (List.getElem?_eq_some_iff.mp hp).1] at hk
    cases hk
    exact he (hP p _ hp)
  · rw [List.getElem?_set_ne hkp] at hk
    exact hP k q hk
def sT0 : sT := (fun _ => 0, fun _ => 0, 0, 0, 0)

def rm5_init : Room := { frames := 1, cells := 2, slots := 15, locals := 20 }
set_option maxHeartbeats 4000000 in
set_option maxRecDepth 100000 in
theorem c5_init (l : Launch) (D : va_G) (cB cI cZ cO : ClassId) (a sz : Nat) : Met l yX5_init wsX5_init rm5_init (va_Pc [.ref a] (kb_C D (ka_tys cB cI cZ cO) sz [(a, .inr (3, [.null, .null, .long 0, .long 0, .int 0]))])) (va_Qv (fun (_ : Unit) => True) (kb_at D a (va_A [(a, .inr (3, [.null, .null, .long 0, .long 0, .int 0]))] sz) (fun q => wdS cI q 0 sT0)) (va_A [(a, .inr (3, [.null, .null, .long 0, .long 0, .int 0]))] sz)) 2 15 (va_A [(a, .inr (3, [.null, .null, .long 0, .long 0, .int 0]))] sz) := by
  refine kb_metC (cc := cX5_init) (maxL := 1) (by decide) rfl (Nat.le_of_ble_eq_true rfl) ?_
  intro p e s m args below meth c Q A ls H hx hb hml hown hts hK hN hin hP hD hS hA hl hend
  have hown : s.vm.findClass RX5 = some m.cls := hown
  have hin : meth.name = "<init>" := hin
  have hl : lv_has ls 1 [(0, .ref a)] := hl
  have hin5 : ∀ w ∈ u_ws RX5 TX5 5, w ∈ wsX5_init := by decide +kernel
  refine lv_aload_n hx hb dX5_init_0 rfl (lv_at hl 0 rfl) ?_
  refine W.objInit hx hb hown (hts (.methodLink RX5 3 objectInit) (by decide +kernel)) (hts (.instanceMethod objectInit) (by decide +kernel)) (hts (.code objectInit ⟨#[0xb1]⟩ 1 none) (by decide +kernel)) rfl (by rw [hml]; exact hl.1) rfl dX5_init_1 (Nat.le_of_ble_eq_true rfl) (Nat.le_of_ble_eq_true rfl) ?_
  refine W.eq (g2 := F0 m 4 ls []) rfl ?_
  refine lv_aload_n hx hb dX5_init_4 rfl (lv_at hl 0 rfl) ?_
  refine lv_bipush (v := 12) hx hb dX5_init_5 (by decide) ?_
  refine va_newa (atype := .int) (ty := .int) (a0 := (12, .inl (fun _ => 0))) (N' := 12) hx hb (hts (.arrayClass .int) (by decide +kernel)) rfl hK hP hD hS hA (fun _ => rfl) (by decide) (by decide) (by decide) (Nat.le_of_ble_eq_true rfl) (Nat.le_of_ble_eq_true rfl) dX5_init_7 (fun q1 cA H hK2 hP hD hS => ?_)
  obtain rfl : cI = cA := (ka_same 1 rfl (fun _ h => h) hK2).symm
  have hP : va_P D vwCl ([(a, .inr (3, [.null, .null, .long 0, .long 0, .int 0])), (q1, .inl (cI, 12, .inl (fun _ => 0)))]) H := hP
  have hD : va_D A ([(a, .inr (3, [.null, .null, .long 0, .long 0, .int 0])), (q1, .inl (cI, 12, .inl (fun _ => 0)))]) := hD
  refine W.widen (k := 1) (n := 12) (Nat.le_of_ble_eq_true rfl) (Nat.le_of_ble_eq_true rfl) ?_
  refine va_putF (D := D) (cl := vwCl) (ci := 3) (v := .ref q1) (ty := tyX5 0) (C := RX5) (T := TX5) (N := 5) hx hb hts hin5 tyX5 tyX5_ok nmX5 hown hK hP hD hS 0 rfl rfl 0 (by decide) (hts (.fieldLink RX5 9 "StepOrders$State" "steps" "[I") (by decide +kernel)) (fun _ h9 => h9) rfl hin rfl (tyX5_ok 0 (by decide)) rfl rfl (Nat.le_of_ble_eq_true rfl) dX5_init_9 (fun H locs hP hD hS => ?_)
  have hP : va_P D vwCl ([(a, .inr (3, [.ref q1, .null, .long 0, .long 0, .int 0])), (q1, .inl (cI, 12, .inl (fun _ => 0)))]) H := hP
  have hD : va_D A ([(a, .inr (3, [.ref q1, .null, .long 0, .long 0, .int 0])), (q1, .inl (cI, 12, .inl (fun _ => 0)))]) := hD
  refine lv_aload_n hx hb dX5_init_12 rfl (lv_at hl 0 rfl) ?_
  refine lv_iconst (v := 3) hx hb dX5_init_13 (by decide) ?_
  refine va_newa (atype := .int) (ty := .int) (a0 := (3, .inl (fun _ => 0))) (N' := 3) hx hb (hts (.arrayClass .int) (by decide +kernel)) rfl hK hP hD hS hA (fun _ => rfl) (by decide) (by decide) (by decide) (Nat.le_of_ble_eq_true rfl) (Nat.le_of_ble_eq_true rfl) dX5_init_14 (fun q2 cA H hK2 hP hD hS => ?_)
  obtain rfl : cI = cA := (ka_same 1 rfl (fun _ h => h) hK2).symm
  have hP : va_P D vwCl ([(a, .inr (3, [.ref q1, .null, .long 0, .long 0, .int 0])), (q1, .inl (cI, 12, .inl (fun _ => 0))), (q2, .inl (cI, 3, .inl (fun _ => 0)))]) H := hP
  have hD : va_D A ([(a, .inr (3, [.ref q1, .null, .long 0, .long 0, .int 0])), (q1, .inl (cI, 12, .inl (fun _ => 0))), (q2, .inl (cI, 3, .inl (fun _ => 0)))]) := hD
  refine W.widen (k := 2) (n := 15) (Nat.le_of_ble_eq_true rfl) (Nat.le_of_ble_eq_true rfl) ?_
  refine va_putF (D := D) (cl := vwCl) (ci := 3) (v := .ref q2) (ty := tyX5 1) (C := RX5) (T := TX5) (N := 5) hx hb hts hin5 tyX5 tyX5_ok nmX5 hown hK hP hD hS 0 rfl rfl 1 (by decide) (hts (.fieldLink RX5 15 "StepOrders$State" "counts" "[I") (by decide +kernel)) (fun _ h9 => h9) rfl hin rfl (tyX5_ok 1 (by decide)) rfl rfl (Nat.le_of_ble_eq_true rfl) dX5_init_16 (fun H locs hP hD hS => ?_)
  have hP : va_P D vwCl ([(a, .inr (3, [.ref q1, .ref q2, .long 0, .long 0, .int 0])), (q1, .inl (cI, 12, .inl (fun _ => 0))), (q2, .inl (cI, 3, .inl (fun _ => 0)))]) H := hP
  have hD : va_D A ([(a, .inr (3, [.ref q1, .ref q2, .long 0, .long 0, .int 0])), (q1, .inl (cI, 12, .inl (fun _ => 0))), (q2, .inl (cI, 3, .inl (fun _ => 0)))]) := hD
  refine hend (fun k => match k with
    | 0 => a
    | 1 => q1
    | _ => q2) H _ ls 19 rfl (hP.sub [0, 1, 2] rfl) (hD.sub [0, 1, 2] (by decide) rfl) hS dX5_init_19

def rm0_init : Room := { frames := 2, cells := 5, slots := 44670, locals := 40 }
set_option maxHeartbeats 4000000 in
set_option maxRecDepth 100000 in
theorem c0_init (l : Launch) (D : va_G) (cB cI cZ cO : ClassId) (a sz : Nat) : Met l yX0_init wsX0_init rm0_init (va_Pc [.ref a] (kb_C D (ka_tys cB cI cZ cO) sz [(a, .inr (0, [.null, .null, .null, .int 0, .int 0, .int 0, .int 0, .int 0, .int 0]))])) (va_Qv (fun (_ : Unit) => True) (kb_at D a (va_A [(a, .inr (0, [.null, .null, .null, .int 0, .int 0, .int 0, .int 0, .int 0, .int 0]))] sz) (fun q => wdA cI cZ q 0 sT0 (fun _ => 0) (fun _ => 0) 0 0 0 0 0 0)) (va_A [(a, .inr (0, [.null, .null, .null, .int 0, .int 0, .int 0, .int 0, .int 0, .int 0]))] sz)) 5 44670 (va_A [(a, .inr (0, [.null, .null, .null, .int 0, .int 0, .int 0, .int 0, .int 0, .int 0]))] sz) := by
  refine kb_metC (cc := cX0_init) (maxL := 1) (by decide) rfl (Nat.le_of_ble_eq_true rfl) ?_
  intro p e s m args below meth c Q A ls H hx hb hml hown hts hK hN hin hP hD hS hA hl hend
  have hown : s.vm.findClass RX0 = some m.cls := hown
  have hin : meth.name = "<init>" := hin
  have hl : lv_has ls 1 [(0, .ref a)] := hl
  have hin0 : ∀ w ∈ u_ws RX0 TX0 9, w ∈ wsX0_init := by decide +kernel
  have hin5 : ∀ w ∈ u_ws RX5 TX5 5, w ∈ wsX0_init := by decide +kernel
  refine lv_aload_n hx hb dX0_init_0 rfl (lv_at hl 0 rfl) ?_
  refine W.objInit hx hb hown (hts (.methodLink RX0 3 objectInit) (by decide +kernel)) (hts (.instanceMethod objectInit) (by decide +kernel)) (hts (.code objectInit ⟨#[0xb1]⟩ 1 none) (by decide +kernel)) rfl (by rw [hml]; exact hl.1) rfl dX0_init_1 (Nat.le_of_ble_eq_true rfl) (Nat.le_of_ble_eq_true rfl) ?_
  refine W.eq (g2 := F0 m 4 ls []) rfl ?_
  refine lv_aload_n hx hb dX0_init_4 rfl (lv_at hl 0 rfl) ?_
  refine va_new (ci := 3) (fs := [.null, .null, .long 0, .long 0, .int 0]) (C := RX5) (T := TX5) (N := 5) hx hb hts hin5 tyX5 tyX5_ok hown (hts (.classLink RX0 9 RX5) (by decide +kernel)) (hts (.instantiable RX5 5) (by decide +kernel)) (hts (.initialized RX5) (by decide +kernel)) hK hP hD hS hA rfl (by decide +kernel) (Nat.le_of_ble_eq_true rfl) (Nat.le_of_ble_eq_true rfl) dX0_init_5 (fun q1 H hP hD hS => ?_)
  have hP : va_P D vwCl ([(a, .inr (0, [.null, .null, .null, .int 0, .int 0, .int 0, .int 0, .int 0, .int 0])), (q1, .inr (3, [.null, .null, .long 0, .long 0, .int 0]))]) H := hP
  have hD : va_D A ([(a, .inr (0, [.null, .null, .null, .int 0, .int 0, .int 0, .int 0, .int 0, .int 0])), (q1, .inr (3, [.null, .null, .long 0, .long 0, .int 0]))]) := hD
  refine W.widen (k := 1) (n := 5) (Nat.le_of_ble_eq_true rfl) (Nat.le_of_ble_eq_true rfl) ?_
  refine lv_dup hx hb dX0_init_8 rfl ?_
  have hPc : va_P D vwCl [(q1, .inr (3, [.null, .null, .long 0, .long 0, .int 0]))] H := hP.sub [1] rfl
  have hDc : va_D A [(q1, .inr (3, [.null, .null, .long 0, .long 0, .int 0]))] := hD.sub [1] (by decide) rfl
  refine kd_C (wr := [(a, .inr (0, [.null, .null, .null, .int 0, .int 0, .int 0, .int 0, .int 0, .int 0]))]) (va_runIN (As := []) (rest := [.ref q1, .ref a]) ⟨hx, hb, hml, hown, hts⟩ (c5_init l D cB cI cZ cO q1 H.size) ⟨va_cnB 0 hts gX0_init_X5_init_n11 rfl rfl rfl hN.1.2.2.2.2.2.2.2.2.2.1 (hts (.initialized RX5) (by decide +kernel)) (by decide +kernel) ⟨Nat.le_of_ble_eq_true rfl, Nat.le_of_ble_eq_true rfl⟩, rfl, hts (.instanceMethod yX5_init) (by decide +kernel)⟩ ⟨kb_blindC, kb_preC hPc hDc hK hN⟩ rfl rfl hl.1 rfl (lv_room (Nat.le_of_ble_eq_true rfl)) dX0_init_9 ⟨Nat.le_of_ble_eq_true rfl, Nat.le_of_ble_eq_true rfl⟩) hP hD hS hA [1] [0] rfl rfl rfl (by decide) (fun q2 H2 locs hq2 hP2 hD2 hS2 => ?_)
  subst hq2
  generalize H2 = H at hP2 hS2 ⊢
  have hS := hS2
  have hP : va_P D vwCl ([(a, .inr (0, [.null, .null, .null, .int 0, .int 0, .int 0, .int 0, .int 0, .int 0]))] ++ wdS cI q2 0 sT0) H := hP2
  have hD : va_D A ([(a, .inr (0, [.null, .null, .null, .int 0, .int 0, .int 0, .int 0, .int 0, .int 0]))] ++ wdS cI q2 0 sT0) := hD2
  refine W.widen (k := 3) (n := 20) (Nat.le_of_ble_eq_true rfl) (Nat.le_of_ble_eq_true rfl) ?_
  refine va_putF (D := D) (cl := vwCl) (ci := 0) (v := .ref (q2 0)) (ty := tyX0 0) (C := RX0) (T := TX0) (N := 9) hx hb hts hin0 tyX0 tyX0_ok nmX0 hown hK hP hD hS 0 rfl rfl 0 (by decide) (hts (.fieldLink RX0 12 "StepOrders$AllOrders" "threads" "LStepOrders$State;") (by decide +kernel)) (fun _ h9 => h9) rfl hin rfl (tyX0_ok 0 (by decide)) rfl rfl (Nat.le_of_ble_eq_true rfl) dX0_init_12 (fun H locs hP hD hS => ?_)
  have hP : va_P D vwCl ([(a, .inr (0, [.ref (q2 0), .null, .null, .int 0, .int 0, .int 0, .int 0, .int 0, .int 0]))] ++ wdS cI q2 0 sT0) H := hP
  have hD : va_D A ([(a, .inr (0, [.ref (q2 0), .null, .null, .int 0, .int 0, .int 0, .int 0, .int 0, .int 0]))] ++ wdS cI q2 0 sT0) := hD
  refine lv_aload_n hx hb dX0_init_15 rfl (lv_at hl 0 rfl) ?_
  refine lv_ldc (v := 34650) hx hb hown (hts (.constant RX0 18 (34650)) (by decide +kernel)) dX0_init_16 ?_
  refine va_newa (atype := .int) (ty := .int) (a0 := (34650, .inl (fun _ => 0))) (N' := 34650) hx hb (hts (.arrayClass .int) (by decide +kernel)) rfl hK hP hD hS hA (fun _ => rfl) (by decide) (by decide) (by decide) (Nat.le_of_ble_eq_true rfl) (Nat.le_of_ble_eq_true rfl) dX0_init_18 (fun q3 cA H hK2 hP hD hS => ?_)
  obtain rfl : cI = cA := (ka_same 1 rfl (fun _ h => h) hK2).symm
  have hP : va_P D vwCl ([(a, .inr (0, [.ref (q2 0), .null, .null, .int 0, .int 0, .int 0, .int 0, .int 0, .int 0]))] ++ wdS cI q2 0 sT0 ++ [(q3, .inl (cI, 34650, .inl (fun _ => 0)))]) H := hP
  have hD : va_D A ([(a, .inr (0, [.ref (q2 0), .null, .null, .int 0, .int 0, .int 0, .int 0, .int 0, .int 0]))] ++ wdS cI q2 0 sT0 ++ [(q3, .inl (cI, 34650, .inl (fun _ => 0)))]) := hD
  refine W.widen (k := 4) (n := 34670) (Nat.le_of_ble_eq_true rfl) (Nat.le_of_ble_eq_true rfl) ?_
  refine va_putF (D := D) (cl := vwCl) (ci := 0) (v := .ref q3) (ty := tyX0 1) (C := RX0) (T := TX0) (N := 9) hx hb hts hin0 tyX0 tyX0_ok nmX0 hown hK hP hD hS 0 rfl rfl 1 (by decide) (hts (.fieldLink RX0 19 "StepOrders$AllOrders" "rows" "[I") (by decide +kernel)) (fun _ h9 => h9) rfl hin rfl (tyX0_ok 1 (by decide)) rfl rfl (Nat.le_of_ble_eq_true rfl) dX0_init_20 (fun H locs hP hD hS => ?_)
  have hP : va_P D vwCl ([(a, .inr (0, [.ref (q2 0), .ref q3, .null, .int 0, .int 0, .int 0, .int 0, .int 0, .int 0]))] ++ wdS cI q2 0 sT0 ++ [(q3, .inl (cI, 34650, .inl (fun _ => 0)))]) H := hP
  have hD : va_D A ([(a, .inr (0, [.ref (q2 0), .ref q3, .null, .int 0, .int 0, .int 0, .int 0, .int 0, .int 0]))] ++ wdS cI q2 0 sT0 ++ [(q3, .inl (cI, 34650, .inl (fun _ => 0)))]) := hD
  refine lv_aload_n hx hb dX0_init_23 rfl (lv_at hl 0 rfl) ?_
  refine lv_sipush (v := 10000) hx hb dX0_init_24 (by decide) ?_
  refine va_newa (atype := .boolean) (ty := .boolean) (a0 := (10000, .inl (fun _ => 0))) (N' := 10000) hx hb (hts (.arrayClass .boolean) (by decide +kernel)) rfl hK hP hD hS hA (fun _ => rfl) (by decide) (by decide) (by decide) (Nat.le_of_ble_eq_true rfl) (Nat.le_of_ble_eq_true rfl) dX0_init_27 (fun q4 cA H hK2 hP hD hS => ?_)
  obtain rfl : cZ = cA := (ka_same 2 rfl (fun _ h => h) hK2).symm
  have hP : va_P D vwCl ([(a, .inr (0, [.ref (q2 0), .ref q3, .null, .int 0, .int 0, .int 0, .int 0, .int 0, .int 0]))] ++ wdS cI q2 0 sT0 ++ [(q3, .inl (cI, 34650, .inl (fun _ => 0))), (q4, .inl (cZ, 10000, .inl (fun _ => 0)))]) H := hP
  have hD : va_D A ([(a, .inr (0, [.ref (q2 0), .ref q3, .null, .int 0, .int 0, .int 0, .int 0, .int 0, .int 0]))] ++ wdS cI q2 0 sT0 ++ [(q3, .inl (cI, 34650, .inl (fun _ => 0))), (q4, .inl (cZ, 10000, .inl (fun _ => 0)))]) := hD
  refine W.widen (k := 5) (n := 44670) (Nat.le_of_ble_eq_true rfl) (Nat.le_of_ble_eq_true rfl) ?_
  refine va_putF (D := D) (cl := vwCl) (ci := 0) (v := .ref q4) (ty := tyX0 2) (C := RX0) (T := TX0) (N := 9) hx hb hts hin0 tyX0 tyX0_ok nmX0 hown hK hP hD hS 0 rfl rfl 2 (by decide) (hts (.fieldLink RX0 23 "StepOrders$AllOrders" "ended" "[Z") (by decide +kernel)) (fun _ h9 => h9) rfl hin rfl (tyX0_ok 2 (by decide)) rfl rfl (Nat.le_of_ble_eq_true rfl) dX0_init_29 (fun H locs hP hD hS => ?_)
  have hP : va_P D vwCl ([(a, .inr (0, [.ref (q2 0), .ref q3, .ref q4, .int 0, .int 0, .int 0, .int 0, .int 0, .int 0]))] ++ wdS cI q2 0 sT0 ++ [(q3, .inl (cI, 34650, .inl (fun _ => 0))), (q4, .inl (cZ, 10000, .inl (fun _ => 0)))]) H := hP
  have hD : va_D A ([(a, .inr (0, [.ref (q2 0), .ref q3, .ref q4, .int 0, .int 0, .int 0, .int 0, .int 0, .int 0]))] ++ wdS cI q2 0 sT0 ++ [(q3, .inl (cI, 34650, .inl (fun _ => 0))), (q4, .inl (cZ, 10000, .inl (fun _ => 0)))]) := hD
  refine hend (fun k => match k with
    | 0 => a
    | 1 => q3
    | 2 => q4
    | 3 => q2 0
    | 4 => q2 1
    | _ => q2 2) H _ ls 32 rfl (hP.sub [0, 4, 5, 1, 2, 3] rfl) (hD.sub [0, 4, 5, 1, 2, 3] (by decide) rfl) hS dX0_init_32

def rm1_init : Room := { frames := 1, cells := 1, slots := 125, locals := 20 }
set_option maxHeartbeats 4000000 in
set_option maxRecDepth 100000 in
theorem c1_init (l : Launch) (D : va_G) (cB cI cZ cO : ClassId) (a sz : Nat) : Met l yX1_init wsX1_init rm1_init (va_Pc [.ref a] (kb_C D (ka_tys cB cI cZ cO) sz [(a, .inr (1, [.null]))])) (va_Qv (fun (_ : Unit) => True) (kb_at D a (va_A [(a, .inr (1, [.null]))] sz) (fun q => wdG cZ q 0 (fun _ => 0))) (va_A [(a, .inr (1, [.null]))] sz)) 1 125 (va_A [(a, .inr (1, [.null]))] sz) := by
  refine kb_metC (cc := cX1_init) (maxL := 1) (by decide) rfl (Nat.le_of_ble_eq_true rfl) ?_
  intro p e s m args below meth c Q A ls H hx hb hml hown hts hK hN hin hP hD hS hA hl hend
  have hown : s.vm.findClass RX1 = some m.cls := hown
  have hin : meth.name = "<init>" := hin
  have hl : lv_has ls 1 [(0, .ref a)] := hl
  have hin1 : ∀ w ∈ u_ws RX1 TX1 1, w ∈ wsX1_init := by decide +kernel
  refine lv_aload_n hx hb dX1_init_0 rfl (lv_at hl 0 rfl) ?_
  refine W.objInit hx hb hown (hts (.methodLink RX1 5 objectInit) (by decide +kernel)) (hts (.instanceMethod objectInit) (by decide +kernel)) (hts (.code objectInit ⟨#[0xb1]⟩ 1 none) (by decide +kernel)) rfl (by rw [hml]; exact hl.1) rfl dX1_init_1 (Nat.le_of_ble_eq_true rfl) (Nat.le_of_ble_eq_true rfl) ?_
  refine W.eq (g2 := F0 m 4 ls []) rfl ?_
  refine lv_aload_n hx hb dX1_init_4 rfl (lv_at hl 0 rfl) ?_
  refine lv_bipush (v := 125) hx hb dX1_init_5 (by decide) ?_
  refine va_newa (atype := .boolean) (ty := .boolean) (a0 := (125, .inl (fun _ => 0))) (N' := 125) hx hb (hts (.arrayClass .boolean) (by decide +kernel)) rfl hK hP hD hS hA (fun _ => rfl) (by decide) (by decide) (by decide) (Nat.le_of_ble_eq_true rfl) (Nat.le_of_ble_eq_true rfl) dX1_init_7 (fun q1 cA H hK2 hP hD hS => ?_)
  obtain rfl : cZ = cA := (ka_same 2 rfl (fun _ h => h) hK2).symm
  have hP : va_P D vwCl ([(a, .inr (1, [.null])), (q1, .inl (cZ, 125, .inl (fun _ => 0)))]) H := hP
  have hD : va_D A ([(a, .inr (1, [.null])), (q1, .inl (cZ, 125, .inl (fun _ => 0)))]) := hD
  refine W.widen (k := 1) (n := 125) (Nat.le_of_ble_eq_true rfl) (Nat.le_of_ble_eq_true rfl) ?_
  refine va_putF (D := D) (cl := vwCl) (ci := 1) (v := .ref q1) (ty := tyX1 0) (C := RX1) (T := TX1) (N := 1) hx hb hts hin1 tyX1 tyX1_ok nmX1 hown hK hP hD hS 0 rfl rfl 0 (by decide) (hts (.fieldLink RX1 11 "StepOrders$Meetings" "reached" "[Z") (by decide +kernel)) (fun _ h9 => h9) rfl hin rfl (tyX1_ok 0 (by decide)) rfl rfl (Nat.le_of_ble_eq_true rfl) dX1_init_9 (fun H locs hP hD hS => ?_)
  have hP : va_P D vwCl ([(a, .inr (1, [.ref q1])), (q1, .inl (cZ, 125, .inl (fun _ => 0)))]) H := hP
  have hD : va_D A ([(a, .inr (1, [.ref q1])), (q1, .inl (cZ, 125, .inl (fun _ => 0)))]) := hD
  refine hend (fun k => match k with
    | 0 => a
    | _ => q1) H _ ls 12 rfl (hP.sub [0, 1] rfl) (hD.sub [0, 1] (by decide) rfl) hS dX1_init_12

def rm7_init : Room := { frames := 1, cells := 1, slots := 120, locals := 20 }
set_option maxHeartbeats 4000000 in
set_option maxRecDepth 100000 in
theorem c7_init (l : Launch) (D : va_G) (cB cI cZ cO : ClassId) (a sz : Nat) : Met l yX7_init wsX7_init rm7_init (va_Pc [.ref a] (kb_C D (ka_tys cB cI cZ cO) sz [(a, .inr (4, [.null, .int 0, .int 0, .int 0, .int 0, .int 0, .int 0]))])) (va_Qv (fun (_ : Unit) => True) (kb_at D a (va_A [(a, .inr (4, [.null, .int 0, .int 0, .int 0, .int 0, .int 0, .int 0]))] sz) (fun q => wdT cB q 0 (fun _ => 0) 0 0 0 0 0 0)) (va_A [(a, .inr (4, [.null, .int 0, .int 0, .int 0, .int 0, .int 0, .int 0]))] sz)) 1 120 (va_A [(a, .inr (4, [.null, .int 0, .int 0, .int 0, .int 0, .int 0, .int 0]))] sz) := by
  refine kb_metC (cc := cX7_init) (maxL := 1) (by decide) rfl (Nat.le_of_ble_eq_true rfl) ?_
  intro p e s m args below meth c Q A ls H hx hb hml hown hts hK hN hin hP hD hS hA hl hend
  have hown : s.vm.findClass RX7 = some m.cls := hown
  have hin : meth.name = "<init>" := hin
  have hl : lv_has ls 1 [(0, .ref a)] := hl
  have hin7 : ∀ w ∈ u_ws RX7 TX7 7, w ∈ wsX7_init := by decide +kernel
  refine lv_aload_n hx hb dX7_init_0 rfl (lv_at hl 0 rfl) ?_
  refine W.objInit hx hb hown (hts (.methodLink RX7 3 objectInit) (by decide +kernel)) (hts (.instanceMethod objectInit) (by decide +kernel)) (hts (.code objectInit ⟨#[0xb1]⟩ 1 none) (by decide +kernel)) rfl (by rw [hml]; exact hl.1) rfl dX7_init_1 (Nat.le_of_ble_eq_true rfl) (Nat.le_of_ble_eq_true rfl) ?_
  refine W.eq (g2 := F0 m 4 ls []) rfl ?_
  refine lv_aload_n hx hb dX7_init_4 rfl (lv_at hl 0 rfl) ?_
  refine lv_bipush (v := 120) hx hb dX7_init_5 (by decide) ?_
  refine va_newa (atype := .byte) (ty := .byte) (a0 := (120, .inl (fun _ => 0))) (N' := 120) hx hb (hts (.arrayClass .byte) (by decide +kernel)) rfl hK hP hD hS hA (fun _ => rfl) (by decide) (by decide) (by decide) (Nat.le_of_ble_eq_true rfl) (Nat.le_of_ble_eq_true rfl) dX7_init_7 (fun q1 cA H hK2 hP hD hS => ?_)
  obtain rfl : cB = cA := (ka_same 0 rfl (fun _ h => h) hK2).symm
  have hP : va_P D vwCl ([(a, .inr (4, [.null, .int 0, .int 0, .int 0, .int 0, .int 0, .int 0])), (q1, .inl (cB, 120, .inl (fun _ => 0)))]) H := hP
  have hD : va_D A ([(a, .inr (4, [.null, .int 0, .int 0, .int 0, .int 0, .int 0, .int 0])), (q1, .inl (cB, 120, .inl (fun _ => 0)))]) := hD
  refine W.widen (k := 1) (n := 120) (Nat.le_of_ble_eq_true rfl) (Nat.le_of_ble_eq_true rfl) ?_
  refine va_putF (D := D) (cl := vwCl) (ci := 4) (v := .ref q1) (ty := tyX7 0) (C := RX7) (T := TX7) (N := 7) hx hb hts hin7 tyX7 tyX7_ok nmX7 hown hK hP hD hS 0 rfl rfl 0 (by decide) (hts (.fieldLink RX7 9 "StepOrders$Text" "bytes" "[B") (by decide +kernel)) (fun _ h9 => h9) rfl hin rfl (tyX7_ok 0 (by decide)) rfl rfl (Nat.le_of_ble_eq_true rfl) dX7_init_9 (fun H locs hP hD hS => ?_)
  have hP : va_P D vwCl ([(a, .inr (4, [.ref q1, .int 0, .int 0, .int 0, .int 0, .int 0, .int 0])), (q1, .inl (cB, 120, .inl (fun _ => 0)))]) H := hP
  have hD : va_D A ([(a, .inr (4, [.ref q1, .int 0, .int 0, .int 0, .int 0, .int 0, .int 0])), (q1, .inl (cB, 120, .inl (fun _ => 0)))]) := hD
  refine hend (fun k => match k with
    | 0 => a
    | _ => q1) H _ ls 12 rfl (hP.sub [0, 1] rfl) (hD.sub [0, 1] (by decide) rfl) hS dX7_init_12

def rm3_init : Room := { frames := 2, cells := 16, slots := 105, locals := 40 }
set_option maxHeartbeats 4000000 in
set_option maxRecDepth 100000 in
theorem c3_init (l : Launch) (D : va_G) (cB cI cZ cO : ClassId) (a sz : Nat) : Met l yX3_init wsX3_init rm3_init (va_Pc [.ref a] (kb_C D (ka_tys cB cI cZ cO) sz [(a, .inr (2, [.null, .int 0, .int 0]))])) (va_Qv (fun (_ : Unit) => True) (kb_at D a (va_A [(a, .inr (2, [.null, .int 0, .int 0]))] sz) (fun q => wdP cI cO q 0 (fun _ => sT0) 0 0)) (va_A [(a, .inr (2, [.null, .int 0, .int 0]))] sz)) 16 105 (va_A [(a, .inr (2, [.null, .int 0, .int 0]))] sz) := by
  refine kb_metC (cc := cX3_init) (maxL := 2) (by decide) rfl (Nat.le_of_ble_eq_true rfl) ?_
  intro p e s m args below meth c Q A ls H hx hb hml hown hts hK hN hin hP hD hS hA hl hend
  have hown : s.vm.findClass RX3 = some m.cls := hown
  have hin : meth.name = "<init>" := hin
  have hl : lv_has ls 2 [(0, .ref a)] := hl
  have hin3 : ∀ w ∈ u_ws RX3 TX3 3, w ∈ wsX3_init := by decide +kernel
  have hin5 : ∀ w ∈ u_ws RX5 TX5 5, w ∈ wsX3_init := by decide +kernel
  refine lv_aload_n hx hb dX3_init_0 rfl (lv_at hl 0 rfl) ?_
  refine W.objInit hx hb hown (hts (.methodLink RX3 3 objectInit) (by decide +kernel)) (hts (.instanceMethod objectInit) (by decide +kernel)) (hts (.code objectInit ⟨#[0xb1]⟩ 1 none) (by decide +kernel)) rfl (by rw [hml]; exact hl.1) rfl dX3_init_1 (Nat.le_of_ble_eq_true rfl) (Nat.le_of_ble_eq_true rfl) ?_
  refine W.eq (g2 := F0 m 4 ls []) rfl ?_
  refine lv_aload_n hx hb dX3_init_4 rfl (lv_at hl 0 rfl) ?_
  refine lv_iconst (v := 5) hx hb dX3_init_5 (by decide) ?_
  refine va_newq (C := RX5) (N' := 5) hx hb hown (hts (.classLink RX3 9 RX5) (by decide +kernel)) hN.2 hK hP hD hS hA (by decide) (by decide) (by decide) (Nat.le_of_ble_eq_true rfl) (Nat.le_of_ble_eq_true rfl) dX3_init_6 (fun q1 cA H hK2 hP hD hS => ?_)
  obtain rfl : cO = cA := (ka_same 3 rfl (fun _ h => by obtain ⟨_, _, _, _, _, h⟩ := h; exact h) hK2).symm
  have hP : va_P D vwCl ([(a, .inr (2, [.null, .int 0, .int 0])), (q1, .inl (cO, 5, .inr (.inr (.inr (.inr (fun _ => none))))))]) H := hP
  have hD : va_D A ([(a, .inr (2, [.null, .int 0, .int 0])), (q1, .inl (cO, 5, .inr (.inr (.inr (.inr (fun _ => none))))))]) := hD
  refine W.widen (k := 1) (n := 5) (Nat.le_of_ble_eq_true rfl) (Nat.le_of_ble_eq_true rfl) ?_
  refine va_putF (D := D) (cl := vwCl) (ci := 2) (v := .ref q1) (ty := tyX3 0) (C := RX3) (T := TX3) (N := 3) hx hb hts hin3 tyX3 tyX3_ok nmX3 hown hK hP hD hS 0 rfl rfl 0 (by decide) (hts (.fieldLink RX3 11 "StepOrders$Past" "kept" "[LStepOrders$State;") (by decide +kernel)) (fun _ h9 => h9) rfl hin rfl (tyX3_ok 0 (by decide)) rfl rfl (Nat.le_of_ble_eq_true rfl) dX3_init_9 (fun H locs hP hD hS => ?_)
  have hP : va_P D vwCl ([(a, .inr (2, [.ref q1, .int 0, .int 0])), (q1, .inl (cO, 5, .inr (.inr (.inr (.inr (fun _ => none))))))]) H := hP
  have hD : va_D A ([(a, .inr (2, [.ref q1, .int 0, .int 0])), (q1, .inl (cO, 5, .inr (.inr (.inr (.inr (fun _ => none))))))]) := hD
  refine lv_iconst (v := 0) hx hb dX3_init_12 (by decide) ?_
  refine lv_istore_n (lv' := [(1, .int 0), (0, .ref a)]) hx hb dX3_init_13 rfl hl (by decide) rfl (fun ls hl => ?_)
  refine lv_iload_n hx hb dX3_init_14 rfl (lv_at hl 0 rfl) ?_
  refine lv_iconst (v := 5) hx hb dX3_init_15 (by decide) ?_
  refine lv_icmp_ge (tgt := 38) hx hb dX3_init_16 (by decide) (fun c2 => absurd c2 (by decide)) (fun c2 => ?_)
  refine lv_aload_n hx hb dX3_init_19 rfl (lv_at hl 1 rfl) ?_
  refine va_get (D := D) (cl := vwCl) (ci := 2) (v := .ref q1) (C := RX3) (T := TX3) (N := 3) hx hb hts hin3 hown hK hP 0 rfl rfl 0 (by decide) (hts (.fieldLink RX3 11 "StepOrders$Past" "kept" "[LStepOrders$State;") (by decide +kernel)) (fun _ h9 => h9) rfl dX3_init_20 ?_
  refine lv_iload_n hx hb dX3_init_23 rfl (lv_at hl 0 rfl) ?_
  refine va_new (ci := 3) (fs := [.null, .null, .long 0, .long 0, .int 0]) (C := RX5) (T := TX5) (N := 5) hx hb hts hin5 tyX5 tyX5_ok hown (hts (.classLink RX3 9 RX5) (by decide +kernel)) (hts (.instantiable RX5 5) (by decide +kernel)) (hts (.initialized RX5) (by decide +kernel)) hK hP hD hS hA rfl (by decide +kernel) (Nat.le_of_ble_eq_true rfl) (Nat.le_of_ble_eq_true rfl) dX3_init_24 (fun q3 H hP hD hS => ?_)
  have hP : va_P D vwCl ([(a, .inr (2, [.ref q1, .int 0, .int 0])), (q1, .inl (cO, 5, .inr (.inr (.inr (.inr (fun _ => none)))))), (q3, .inr (3, [.null, .null, .long 0, .long 0, .int 0]))]) H := hP
  have hD : va_D A ([(a, .inr (2, [.ref q1, .int 0, .int 0])), (q1, .inl (cO, 5, .inr (.inr (.inr (.inr (fun _ => none)))))), (q3, .inr (3, [.null, .null, .long 0, .long 0, .int 0]))]) := hD
  refine W.widen (k := 2) (n := 10) (Nat.le_of_ble_eq_true rfl) (Nat.le_of_ble_eq_true rfl) ?_
  refine lv_dup hx hb dX3_init_27 rfl ?_
  have hPc : va_P D vwCl [(q3, .inr (3, [.null, .null, .long 0, .long 0, .int 0]))] H := hP.sub [2] rfl
  have hDc : va_D A [(q3, .inr (3, [.null, .null, .long 0, .long 0, .int 0]))] := hD.sub [2] (by decide) rfl
  refine kd_C (wr := [(a, .inr (2, [.ref q1, .int 0, .int 0])), (q1, .inl (cO, 5, .inr (.inr (.inr (.inr (fun _ => none))))))]) (va_runIN (As := []) (rest := [.ref q3, .int 0, .ref q1]) ⟨hx, hb, hml, hown, hts⟩ (c5_init l D cB cI cZ cO q3 H.size) ⟨va_cnB 0 hts gX3_init_X5_init_n17 rfl rfl rfl hN.1.2.2.2.2.2.2.2.2.2.2 (hts (.initialized RX5) (by decide +kernel)) (by decide +kernel) ⟨Nat.le_of_ble_eq_true rfl, Nat.le_of_ble_eq_true rfl⟩, rfl, hts (.instanceMethod yX5_init) (by decide +kernel)⟩ ⟨kb_blindC, kb_preC hPc hDc hK hN⟩ rfl rfl hl.1 rfl (lv_room (Nat.le_of_ble_eq_true rfl)) dX3_init_28 ⟨Nat.le_of_ble_eq_true rfl, Nat.le_of_ble_eq_true rfl⟩) hP hD hS hA [2] [0, 1] rfl rfl rfl (by decide) (fun q4 H4 locs hq4 hP4 hD4 hS4 => ?_)
  subst hq4
  generalize H4 = H at hP4 hS4 ⊢
  have hS := hS4
  have hP : va_P D vwCl ([(a, .inr (2, [.ref q1, .int 0, .int 0])), (q1, .inl (cO, 5, .inr (.inr (.inr (.inr (fun _ => none))))))] ++ wdS cI q4 0 sT0) H := hP4
  have hD : va_D A ([(a, .inr (2, [.ref q1, .int 0, .int 0])), (q1, .inl (cO, 5, .inr (.inr (.inr (.inr (fun _ => none))))))] ++ wdS cI q4 0 sT0) := hD4
  refine W.widen (k := 4) (n := 25) (Nat.le_of_ble_eq_true rfl) (Nat.le_of_ble_eq_true rfl) ?_
  refine va_astq (D := D) (cl := vwCl) hx hb hK hP hD hS 1 3 2 3 (r := (RX5, TX5, 5)) rfl rfl rfl rfl (show ¬ (_ ∨ _) from by decide) dX3_init_31 (fun H locs hP hD hS => ?_)
  have hP : va_P D vwCl ([(a, .inr (2, [.ref q1, .int 0, .int 0])), (q1, .inl (cO, 5, .inr (.inr (.inr (.inr (va_up (fun _ => none) 0 (some (q4 0))))))))] ++ wdS cI q4 0 sT0) H := hP
  have hD : va_D A ([(a, .inr (2, [.ref q1, .int 0, .int 0])), (q1, .inl (cO, 5, .inr (.inr (.inr (.inr (va_up (fun _ => none) 0 (some (q4 0))))))))] ++ wdS cI q4 0 sT0) := hD
  refine lv_iinc (v := 1) (lv' := [(1, .int 1), (0, .ref a)]) hx hb dX3_init_32 hl (k := 0) rfl (by decide) (by decide) rfl (fun ls hl => ?_)
  refine lv_goto (tgt := 14) hx hb dX3_init_35 (by decide) ?_
  refine lv_iload_n hx hb dX3_init_14 rfl (lv_at hl 0 rfl) ?_
  refine lv_iconst (v := 5) hx hb dX3_init_15 (by decide) ?_
  refine lv_icmp_ge (tgt := 38) hx hb dX3_init_16 (by decide) (fun c5 => absurd c5 (by decide)) (fun c5 => ?_)
  refine lv_aload_n hx hb dX3_init_19 rfl (lv_at hl 1 rfl) ?_
  refine va_get (D := D) (cl := vwCl) (ci := 2) (v := .ref q1) (C := RX3) (T := TX3) (N := 3) hx hb hts hin3 hown hK hP 0 rfl rfl 0 (by decide) (hts (.fieldLink RX3 11 "StepOrders$Past" "kept" "[LStepOrders$State;") (by decide +kernel)) (fun _ h9 => h9) rfl dX3_init_20 ?_
  refine lv_iload_n hx hb dX3_init_23 rfl (lv_at hl 0 rfl) ?_
  refine va_new (ci := 3) (fs := [.null, .null, .long 0, .long 0, .int 0]) (C := RX5) (T := TX5) (N := 5) hx hb hts hin5 tyX5 tyX5_ok hown (hts (.classLink RX3 9 RX5) (by decide +kernel)) (hts (.instantiable RX5 5) (by decide +kernel)) (hts (.initialized RX5) (by decide +kernel)) hK hP hD hS hA rfl (by decide +kernel) (Nat.le_of_ble_eq_true rfl) (Nat.le_of_ble_eq_true rfl) dX3_init_24 (fun q6 H hP hD hS => ?_)
  have hP : va_P D vwCl ([(a, .inr (2, [.ref q1, .int 0, .int 0])), (q1, .inl (cO, 5, .inr (.inr (.inr (.inr (va_up (fun _ => none) 0 (some (q4 0))))))))] ++ wdS cI q4 0 sT0 ++ [(q6, .inr (3, [.null, .null, .long 0, .long 0, .int 0]))]) H := hP
  have hD : va_D A ([(a, .inr (2, [.ref q1, .int 0, .int 0])), (q1, .inl (cO, 5, .inr (.inr (.inr (.inr (va_up (fun _ => none) 0 (some (q4 0))))))))] ++ wdS cI q4 0 sT0 ++ [(q6, .inr (3, [.null, .null, .long 0, .long 0, .int 0]))]) := hD
  refine W.widen (k := 5) (n := 30) (Nat.le_of_ble_eq_true rfl) (Nat.le_of_ble_eq_true rfl) ?_
  refine lv_dup hx hb dX3_init_27 rfl ?_
  have hPc : va_P D vwCl [(q6, .inr (3, [.null, .null, .long 0, .long 0, .int 0]))] H := hP.sub [5] rfl
  have hDc : va_D A [(q6, .inr (3, [.null, .null, .long 0, .long 0, .int 0]))] := hD.sub [5] (by decide) rfl
  refine kd_C (wr := [(a, .inr (2, [.ref q1, .int 0, .int 0])), (q1, .inl (cO, 5, .inr (.inr (.inr (.inr (va_up (fun _ => none) 0 (some (q4 0))))))))] ++ wdS cI q4 0 sT0) (va_runIN (As := []) (rest := [.ref q6, .int 1, .ref q1]) ⟨hx, hb, hml, hown, hts⟩ (c5_init l D cB cI cZ cO q6 H.size) ⟨va_cnB 0 hts gX3_init_X5_init_n17 rfl rfl rfl hN.1.2.2.2.2.2.2.2.2.2.2 (hts (.initialized RX5) (by decide +kernel)) (by decide +kernel) ⟨Nat.le_of_ble_eq_true rfl, Nat.le_of_ble_eq_true rfl⟩, rfl, hts (.instanceMethod yX5_init) (by decide +kernel)⟩ ⟨kb_blindC, kb_preC hPc hDc hK hN⟩ rfl rfl hl.1 rfl (lv_room (Nat.le_of_ble_eq_true rfl)) dX3_init_28 ⟨Nat.le_of_ble_eq_true rfl, Nat.le_of_ble_eq_true rfl⟩) hP hD hS hA [5] [0, 1, 2, 3, 4] rfl rfl rfl (by decide) (fun q7 H7 locs hq7 hP7 hD7 hS7 => ?_)
  subst hq7
  generalize H7 = H at hP7 hS7 ⊢
  have hS := hS7
  have hP : va_P D vwCl ([(a, .inr (2, [.ref q1, .int 0, .int 0])), (q1, .inl (cO, 5, .inr (.inr (.inr (.inr (va_up (fun _ => none) 0 (some (q4 0))))))))] ++ wdS cI q4 0 sT0 ++ wdS cI q7 0 sT0) H := hP7
  have hD : va_D A ([(a, .inr (2, [.ref q1, .int 0, .int 0])), (q1, .inl (cO, 5, .inr (.inr (.inr (.inr (va_up (fun _ => none) 0 (some (q4 0))))))))] ++ wdS cI q4 0 sT0 ++ wdS cI q7 0 sT0) := hD7
  refine W.widen (k := 7) (n := 45) (Nat.le_of_ble_eq_true rfl) (Nat.le_of_ble_eq_true rfl) ?_
  refine va_astq (D := D) (cl := vwCl) hx hb hK hP hD hS 1 3 5 3 (r := (RX5, TX5, 5)) rfl rfl rfl rfl (show ¬ (_ ∨ _) from by decide) dX3_init_31 (fun H locs hP hD hS => ?_)
  have hP : va_P D vwCl ([(a, .inr (2, [.ref q1, .int 0, .int 0])), (q1, .inl (cO, 5, .inr (.inr (.inr (.inr (va_up (va_up (fun _ => none) 0 (some (q4 0))) 1 (some (q7 0))))))))] ++ wdS cI q4 0 sT0 ++ wdS cI q7 0 sT0) H := hP
  have hD : va_D A ([(a, .inr (2, [.ref q1, .int 0, .int 0])), (q1, .inl (cO, 5, .inr (.inr (.inr (.inr (va_up (va_up (fun _ => none) 0 (some (q4 0))) 1 (some (q7 0))))))))] ++ wdS cI q4 0 sT0 ++ wdS cI q7 0 sT0) := hD
  refine lv_iinc (v := 2) (lv' := [(1, .int 2), (0, .ref a)]) hx hb dX3_init_32 hl (k := 0) rfl (by decide) (by decide) rfl (fun ls hl => ?_)
  refine lv_goto (tgt := 14) hx hb dX3_init_35 (by decide) ?_
  refine lv_iload_n hx hb dX3_init_14 rfl (lv_at hl 0 rfl) ?_
  refine lv_iconst (v := 5) hx hb dX3_init_15 (by decide) ?_
  refine lv_icmp_ge (tgt := 38) hx hb dX3_init_16 (by decide) (fun c8 => absurd c8 (by decide)) (fun c8 => ?_)
  refine lv_aload_n hx hb dX3_init_19 rfl (lv_at hl 1 rfl) ?_
  refine va_get (D := D) (cl := vwCl) (ci := 2) (v := .ref q1) (C := RX3) (T := TX3) (N := 3) hx hb hts hin3 hown hK hP 0 rfl rfl 0 (by decide) (hts (.fieldLink RX3 11 "StepOrders$Past" "kept" "[LStepOrders$State;") (by decide +kernel)) (fun _ h9 => h9) rfl dX3_init_20 ?_
  refine lv_iload_n hx hb dX3_init_23 rfl (lv_at hl 0 rfl) ?_
  refine va_new (ci := 3) (fs := [.null, .null, .long 0, .long 0, .int 0]) (C := RX5) (T := TX5) (N := 5) hx hb hts hin5 tyX5 tyX5_ok hown (hts (.classLink RX3 9 RX5) (by decide +kernel)) (hts (.instantiable RX5 5) (by decide +kernel)) (hts (.initialized RX5) (by decide +kernel)) hK hP hD hS hA rfl (by decide +kernel) (Nat.le_of_ble_eq_true rfl) (Nat.le_of_ble_eq_true rfl) dX3_init_24 (fun q9 H hP hD hS => ?_)
  have hP : va_P D vwCl ([(a, .inr (2, [.ref q1, .int 0, .int 0])), (q1, .inl (cO, 5, .inr (.inr (.inr (.inr (va_up (va_up (fun _ => none) 0 (some (q4 0))) 1 (some (q7 0))))))))] ++ wdS cI q4 0 sT0 ++ wdS cI q7 0 sT0 ++ [(q9, .inr (3, [.null, .null, .long 0, .long 0, .int 0]))]) H := hP
  have hD : va_D A ([(a, .inr (2, [.ref q1, .int 0, .int 0])), (q1, .inl (cO, 5, .inr (.inr (.inr (.inr (va_up (va_up (fun _ => none) 0 (some (q4 0))) 1 (some (q7 0))))))))] ++ wdS cI q4 0 sT0 ++ wdS cI q7 0 sT0 ++ [(q9, .inr (3, [.null, .null, .long 0, .long 0, .int 0]))]) := hD
  refine W.widen (k := 8) (n := 50) (Nat.le_of_ble_eq_true rfl) (Nat.le_of_ble_eq_true rfl) ?_
  refine lv_dup hx hb dX3_init_27 rfl ?_
  have hPc : va_P D vwCl [(q9, .inr (3, [.null, .null, .long 0, .long 0, .int 0]))] H := hP.sub [8] rfl
  have hDc : va_D A [(q9, .inr (3, [.null, .null, .long 0, .long 0, .int 0]))] := hD.sub [8] (by decide) rfl
  refine kd_C (wr := [(a, .inr (2, [.ref q1, .int 0, .int 0])), (q1, .inl (cO, 5, .inr (.inr (.inr (.inr (va_up (va_up (fun _ => none) 0 (some (q4 0))) 1 (some (q7 0))))))))] ++ wdS cI q4 0 sT0 ++ wdS cI q7 0 sT0) (va_runIN (As := []) (rest := [.ref q9, .int 2, .ref q1]) ⟨hx, hb, hml, hown, hts⟩ (c5_init l D cB cI cZ cO q9 H.size) ⟨va_cnB 0 hts gX3_init_X5_init_n17 rfl rfl rfl hN.1.2.2.2.2.2.2.2.2.2.2 (hts (.initialized RX5) (by decide +kernel)) (by decide +kernel) ⟨Nat.le_of_ble_eq_true rfl, Nat.le_of_ble_eq_true rfl⟩, rfl, hts (.instanceMethod yX5_init) (by decide +kernel)⟩ ⟨kb_blindC, kb_preC hPc hDc hK hN⟩ rfl rfl hl.1 rfl (lv_room (Nat.le_of_ble_eq_true rfl)) dX3_init_28 ⟨Nat.le_of_ble_eq_true rfl, Nat.le_of_ble_eq_true rfl⟩) hP hD hS hA [8] [0, 1, 2, 3, 4, 5, 6, 7] rfl rfl rfl (by decide) (fun q10 H10 locs hq10 hP10 hD10 hS10 => ?_)
  subst hq10
  generalize H10 = H at hP10 hS10 ⊢
  have hS := hS10
  have hP : va_P D vwCl ([(a, .inr (2, [.ref q1, .int 0, .int 0])), (q1, .inl (cO, 5, .inr (.inr (.inr (.inr (va_up (va_up (fun _ => none) 0 (some (q4 0))) 1 (some (q7 0))))))))] ++ wdS cI q4 0 sT0 ++ wdS cI q7 0 sT0 ++ wdS cI q10 0 sT0) H := hP10
  have hD : va_D A ([(a, .inr (2, [.ref q1, .int 0, .int 0])), (q1, .inl (cO, 5, .inr (.inr (.inr (.inr (va_up (va_up (fun _ => none) 0 (some (q4 0))) 1 (some (q7 0))))))))] ++ wdS cI q4 0 sT0 ++ wdS cI q7 0 sT0 ++ wdS cI q10 0 sT0) := hD10
  refine W.widen (k := 10) (n := 65) (Nat.le_of_ble_eq_true rfl) (Nat.le_of_ble_eq_true rfl) ?_
  refine va_astq (D := D) (cl := vwCl) hx hb hK hP hD hS 1 3 8 3 (r := (RX5, TX5, 5)) rfl rfl rfl rfl (show ¬ (_ ∨ _) from by decide) dX3_init_31 (fun H locs hP hD hS => ?_)
  have hP : va_P D vwCl ([(a, .inr (2, [.ref q1, .int 0, .int 0])), (q1, .inl (cO, 5, .inr (.inr (.inr (.inr (va_up (va_up (va_up (fun _ => none) 0 (some (q4 0))) 1 (some (q7 0))) 2 (some (q10 0))))))))] ++ wdS cI q4 0 sT0 ++ wdS cI q7 0 sT0 ++ wdS cI q10 0 sT0) H := hP
  have hD : va_D A ([(a, .inr (2, [.ref q1, .int 0, .int 0])), (q1, .inl (cO, 5, .inr (.inr (.inr (.inr (va_up (va_up (va_up (fun _ => none) 0 (some (q4 0))) 1 (some (q7 0))) 2 (some (q10 0))))))))] ++ wdS cI q4 0 sT0 ++ wdS cI q7 0 sT0 ++ wdS cI q10 0 sT0) := hD
  refine lv_iinc (v := 3) (lv' := [(1, .int 3), (0, .ref a)]) hx hb dX3_init_32 hl (k := 0) rfl (by decide) (by decide) rfl (fun ls hl => ?_)
  refine lv_goto (tgt := 14) hx hb dX3_init_35 (by decide) ?_
  refine lv_iload_n hx hb dX3_init_14 rfl (lv_at hl 0 rfl) ?_
  refine lv_iconst (v := 5) hx hb dX3_init_15 (by decide) ?_
  refine lv_icmp_ge (tgt := 38) hx hb dX3_init_16 (by decide) (fun c11 => absurd c11 (by decide)) (fun c11 => ?_)
  refine lv_aload_n hx hb dX3_init_19 rfl (lv_at hl 1 rfl) ?_
  refine va_get (D := D) (cl := vwCl) (ci := 2) (v := .ref q1) (C := RX3) (T := TX3) (N := 3) hx hb hts hin3 hown hK hP 0 rfl rfl 0 (by decide) (hts (.fieldLink RX3 11 "StepOrders$Past" "kept" "[LStepOrders$State;") (by decide +kernel)) (fun _ h9 => h9) rfl dX3_init_20 ?_
  refine lv_iload_n hx hb dX3_init_23 rfl (lv_at hl 0 rfl) ?_
  refine va_new (ci := 3) (fs := [.null, .null, .long 0, .long 0, .int 0]) (C := RX5) (T := TX5) (N := 5) hx hb hts hin5 tyX5 tyX5_ok hown (hts (.classLink RX3 9 RX5) (by decide +kernel)) (hts (.instantiable RX5 5) (by decide +kernel)) (hts (.initialized RX5) (by decide +kernel)) hK hP hD hS hA rfl (by decide +kernel) (Nat.le_of_ble_eq_true rfl) (Nat.le_of_ble_eq_true rfl) dX3_init_24 (fun q12 H hP hD hS => ?_)
  have hP : va_P D vwCl ([(a, .inr (2, [.ref q1, .int 0, .int 0])), (q1, .inl (cO, 5, .inr (.inr (.inr (.inr (va_up (va_up (va_up (fun _ => none) 0 (some (q4 0))) 1 (some (q7 0))) 2 (some (q10 0))))))))] ++ wdS cI q4 0 sT0 ++ wdS cI q7 0 sT0 ++ wdS cI q10 0 sT0 ++ [(q12, .inr (3, [.null, .null, .long 0, .long 0, .int 0]))]) H := hP
  have hD : va_D A ([(a, .inr (2, [.ref q1, .int 0, .int 0])), (q1, .inl (cO, 5, .inr (.inr (.inr (.inr (va_up (va_up (va_up (fun _ => none) 0 (some (q4 0))) 1 (some (q7 0))) 2 (some (q10 0))))))))] ++ wdS cI q4 0 sT0 ++ wdS cI q7 0 sT0 ++ wdS cI q10 0 sT0 ++ [(q12, .inr (3, [.null, .null, .long 0, .long 0, .int 0]))]) := hD
  refine W.widen (k := 11) (n := 70) (Nat.le_of_ble_eq_true rfl) (Nat.le_of_ble_eq_true rfl) ?_
  refine lv_dup hx hb dX3_init_27 rfl ?_
  have hPc : va_P D vwCl [(q12, .inr (3, [.null, .null, .long 0, .long 0, .int 0]))] H := hP.sub [11] rfl
  have hDc : va_D A [(q12, .inr (3, [.null, .null, .long 0, .long 0, .int 0]))] := hD.sub [11] (by decide) rfl
  refine kd_C (wr := [(a, .inr (2, [.ref q1, .int 0, .int 0])), (q1, .inl (cO, 5, .inr (.inr (.inr (.inr (va_up (va_up (va_up (fun _ => none) 0 (some (q4 0))) 1 (some (q7 0))) 2 (some (q10 0))))))))] ++ wdS cI q4 0 sT0 ++ wdS cI q7 0 sT0 ++ wdS cI q10 0 sT0) (va_runIN (As := []) (rest := [.ref q12, .int 3, .ref q1]) ⟨hx, hb, hml, hown, hts⟩ (c5_init l D cB cI cZ cO q12 H.size) ⟨va_cnB 0 hts gX3_init_X5_init_n17 rfl rfl rfl hN.1.2.2.2.2.2.2.2.2.2.2 (hts (.initialized RX5) (by decide +kernel)) (by decide +kernel) ⟨Nat.le_of_ble_eq_true rfl, Nat.le_of_ble_eq_true rfl⟩, rfl, hts (.instanceMethod yX5_init) (by decide +kernel)⟩ ⟨kb_blindC, kb_preC hPc hDc hK hN⟩ rfl rfl hl.1 rfl (lv_room (Nat.le_of_ble_eq_true rfl)) dX3_init_28 ⟨Nat.le_of_ble_eq_true rfl, Nat.le_of_ble_eq_true rfl⟩) hP hD hS hA [11] [0, 1, 2, 3, 4, 5, 6, 7, 8, 9, 10] rfl rfl rfl (by decide) (fun q13 H13 locs hq13 hP13 hD13 hS13 => ?_)
  subst hq13
  generalize H13 = H at hP13 hS13 ⊢
  have hS := hS13
  have hP : va_P D vwCl ([(a, .inr (2, [.ref q1, .int 0, .int 0])), (q1, .inl (cO, 5, .inr (.inr (.inr (.inr (va_up (va_up (va_up (fun _ => none) 0 (some (q4 0))) 1 (some (q7 0))) 2 (some (q10 0))))))))] ++ wdS cI q4 0 sT0 ++ wdS cI q7 0 sT0 ++ wdS cI q10 0 sT0 ++ wdS cI q13 0 sT0) H := hP13
  have hD : va_D A ([(a, .inr (2, [.ref q1, .int 0, .int 0])), (q1, .inl (cO, 5, .inr (.inr (.inr (.inr (va_up (va_up (va_up (fun _ => none) 0 (some (q4 0))) 1 (some (q7 0))) 2 (some (q10 0))))))))] ++ wdS cI q4 0 sT0 ++ wdS cI q7 0 sT0 ++ wdS cI q10 0 sT0 ++ wdS cI q13 0 sT0) := hD13
  refine W.widen (k := 13) (n := 85) (Nat.le_of_ble_eq_true rfl) (Nat.le_of_ble_eq_true rfl) ?_
  refine va_astq (D := D) (cl := vwCl) hx hb hK hP hD hS 1 3 11 3 (r := (RX5, TX5, 5)) rfl rfl rfl rfl (show ¬ (_ ∨ _) from by decide) dX3_init_31 (fun H locs hP hD hS => ?_)
  have hP : va_P D vwCl ([(a, .inr (2, [.ref q1, .int 0, .int 0])), (q1, .inl (cO, 5, .inr (.inr (.inr (.inr (va_up (va_up (va_up (va_up (fun _ => none) 0 (some (q4 0))) 1 (some (q7 0))) 2 (some (q10 0))) 3 (some (q13 0))))))))] ++ wdS cI q4 0 sT0 ++ wdS cI q7 0 sT0 ++ wdS cI q10 0 sT0 ++ wdS cI q13 0 sT0) H := hP
  have hD : va_D A ([(a, .inr (2, [.ref q1, .int 0, .int 0])), (q1, .inl (cO, 5, .inr (.inr (.inr (.inr (va_up (va_up (va_up (va_up (fun _ => none) 0 (some (q4 0))) 1 (some (q7 0))) 2 (some (q10 0))) 3 (some (q13 0))))))))] ++ wdS cI q4 0 sT0 ++ wdS cI q7 0 sT0 ++ wdS cI q10 0 sT0 ++ wdS cI q13 0 sT0) := hD
  refine lv_iinc (v := 4) (lv' := [(1, .int 4), (0, .ref a)]) hx hb dX3_init_32 hl (k := 0) rfl (by decide) (by decide) rfl (fun ls hl => ?_)
  refine lv_goto (tgt := 14) hx hb dX3_init_35 (by decide) ?_
  refine lv_iload_n hx hb dX3_init_14 rfl (lv_at hl 0 rfl) ?_
  refine lv_iconst (v := 5) hx hb dX3_init_15 (by decide) ?_
  refine lv_icmp_ge (tgt := 38) hx hb dX3_init_16 (by decide) (fun c14 => absurd c14 (by decide)) (fun c14 => ?_)
  refine lv_aload_n hx hb dX3_init_19 rfl (lv_at hl 1 rfl) ?_
  refine va_get (D := D) (cl := vwCl) (ci := 2) (v := .ref q1) (C := RX3) (T := TX3) (N := 3) hx hb hts hin3 hown hK hP 0 rfl rfl 0 (by decide) (hts (.fieldLink RX3 11 "StepOrders$Past" "kept" "[LStepOrders$State;") (by decide +kernel)) (fun _ h9 => h9) rfl dX3_init_20 ?_
  refine lv_iload_n hx hb dX3_init_23 rfl (lv_at hl 0 rfl) ?_
  refine va_new (ci := 3) (fs := [.null, .null, .long 0, .long 0, .int 0]) (C := RX5) (T := TX5) (N := 5) hx hb hts hin5 tyX5 tyX5_ok hown (hts (.classLink RX3 9 RX5) (by decide +kernel)) (hts (.instantiable RX5 5) (by decide +kernel)) (hts (.initialized RX5) (by decide +kernel)) hK hP hD hS hA rfl (by decide +kernel) (Nat.le_of_ble_eq_true rfl) (Nat.le_of_ble_eq_true rfl) dX3_init_24 (fun q15 H hP hD hS => ?_)
  have hP : va_P D vwCl ([(a, .inr (2, [.ref q1, .int 0, .int 0])), (q1, .inl (cO, 5, .inr (.inr (.inr (.inr (va_up (va_up (va_up (va_up (fun _ => none) 0 (some (q4 0))) 1 (some (q7 0))) 2 (some (q10 0))) 3 (some (q13 0))))))))] ++ wdS cI q4 0 sT0 ++ wdS cI q7 0 sT0 ++ wdS cI q10 0 sT0 ++ wdS cI q13 0 sT0 ++ [(q15, .inr (3, [.null, .null, .long 0, .long 0, .int 0]))]) H := hP
  have hD : va_D A ([(a, .inr (2, [.ref q1, .int 0, .int 0])), (q1, .inl (cO, 5, .inr (.inr (.inr (.inr (va_up (va_up (va_up (va_up (fun _ => none) 0 (some (q4 0))) 1 (some (q7 0))) 2 (some (q10 0))) 3 (some (q13 0))))))))] ++ wdS cI q4 0 sT0 ++ wdS cI q7 0 sT0 ++ wdS cI q10 0 sT0 ++ wdS cI q13 0 sT0 ++ [(q15, .inr (3, [.null, .null, .long 0, .long 0, .int 0]))]) := hD
  refine W.widen (k := 14) (n := 90) (Nat.le_of_ble_eq_true rfl) (Nat.le_of_ble_eq_true rfl) ?_
  refine lv_dup hx hb dX3_init_27 rfl ?_
  have hPc : va_P D vwCl [(q15, .inr (3, [.null, .null, .long 0, .long 0, .int 0]))] H := hP.sub [14] rfl
  have hDc : va_D A [(q15, .inr (3, [.null, .null, .long 0, .long 0, .int 0]))] := hD.sub [14] (by decide) rfl
  refine kd_C (wr := [(a, .inr (2, [.ref q1, .int 0, .int 0])), (q1, .inl (cO, 5, .inr (.inr (.inr (.inr (va_up (va_up (va_up (va_up (fun _ => none) 0 (some (q4 0))) 1 (some (q7 0))) 2 (some (q10 0))) 3 (some (q13 0))))))))] ++ wdS cI q4 0 sT0 ++ wdS cI q7 0 sT0 ++ wdS cI q10 0 sT0 ++ wdS cI q13 0 sT0) (va_runIN (As := []) (rest := [.ref q15, .int 4, .ref q1]) ⟨hx, hb, hml, hown, hts⟩ (c5_init l D cB cI cZ cO q15 H.size) ⟨va_cnB 0 hts gX3_init_X5_init_n17 rfl rfl rfl hN.1.2.2.2.2.2.2.2.2.2.2 (hts (.initialized RX5) (by decide +kernel)) (by decide +kernel) ⟨Nat.le_of_ble_eq_true rfl, Nat.le_of_ble_eq_true rfl⟩, rfl, hts (.instanceMethod yX5_init) (by decide +kernel)⟩ ⟨kb_blindC, kb_preC hPc hDc hK hN⟩ rfl rfl hl.1 rfl (lv_room (Nat.le_of_ble_eq_true rfl)) dX3_init_28 ⟨Nat.le_of_ble_eq_true rfl, Nat.le_of_ble_eq_true rfl⟩) hP hD hS hA [14] [0, 1, 2, 3, 4, 5, 6, 7, 8, 9, 10, 11, 12, 13] rfl rfl rfl (by decide) (fun q16 H16 locs hq16 hP16 hD16 hS16 => ?_)
  subst hq16
  generalize H16 = H at hP16 hS16 ⊢
  have hS := hS16
  have hP : va_P D vwCl ([(a, .inr (2, [.ref q1, .int 0, .int 0])), (q1, .inl (cO, 5, .inr (.inr (.inr (.inr (va_up (va_up (va_up (va_up (fun _ => none) 0 (some (q4 0))) 1 (some (q7 0))) 2 (some (q10 0))) 3 (some (q13 0))))))))] ++ wdS cI q4 0 sT0 ++ wdS cI q7 0 sT0 ++ wdS cI q10 0 sT0 ++ wdS cI q13 0 sT0 ++ wdS cI q16 0 sT0) H := hP16
  have hD : va_D A ([(a, .inr (2, [.ref q1, .int 0, .int 0])), (q1, .inl (cO, 5, .inr (.inr (.inr (.inr (va_up (va_up (va_up (va_up (fun _ => none) 0 (some (q4 0))) 1 (some (q7 0))) 2 (some (q10 0))) 3 (some (q13 0))))))))] ++ wdS cI q4 0 sT0 ++ wdS cI q7 0 sT0 ++ wdS cI q10 0 sT0 ++ wdS cI q13 0 sT0 ++ wdS cI q16 0 sT0) := hD16
  refine W.widen (k := 16) (n := 105) (Nat.le_of_ble_eq_true rfl) (Nat.le_of_ble_eq_true rfl) ?_
  refine va_astq (D := D) (cl := vwCl) hx hb hK hP hD hS 1 3 14 3 (r := (RX5, TX5, 5)) rfl rfl rfl rfl (show ¬ (_ ∨ _) from by decide) dX3_init_31 (fun H locs hP hD hS => ?_)
  have hP : va_P D vwCl ([(a, .inr (2, [.ref q1, .int 0, .int 0])), (q1, .inl (cO, 5, .inr (.inr (.inr (.inr (va_up (va_up (va_up (va_up (va_up (fun _ => none) 0 (some (q4 0))) 1 (some (q7 0))) 2 (some (q10 0))) 3 (some (q13 0))) 4 (some (q16 0))))))))] ++ wdS cI q4 0 sT0 ++ wdS cI q7 0 sT0 ++ wdS cI q10 0 sT0 ++ wdS cI q13 0 sT0 ++ wdS cI q16 0 sT0) H := hP
  have hD : va_D A ([(a, .inr (2, [.ref q1, .int 0, .int 0])), (q1, .inl (cO, 5, .inr (.inr (.inr (.inr (va_up (va_up (va_up (va_up (va_up (fun _ => none) 0 (some (q4 0))) 1 (some (q7 0))) 2 (some (q10 0))) 3 (some (q13 0))) 4 (some (q16 0))))))))] ++ wdS cI q4 0 sT0 ++ wdS cI q7 0 sT0 ++ wdS cI q10 0 sT0 ++ wdS cI q13 0 sT0 ++ wdS cI q16 0 sT0) := hD
  refine lv_iinc (v := 5) (lv' := [(1, .int 5), (0, .ref a)]) hx hb dX3_init_32 hl (k := 0) rfl (by decide) (by decide) rfl (fun ls hl => ?_)
  refine lv_goto (tgt := 14) hx hb dX3_init_35 (by decide) ?_
  refine lv_iload_n hx hb dX3_init_14 rfl (lv_at hl 0 rfl) ?_
  refine lv_iconst (v := 5) hx hb dX3_init_15 (by decide) ?_
  refine lv_icmp_ge (tgt := 38) hx hb dX3_init_16 (by decide) (fun c17 => ?_) (fun c17 => absurd (by decide) c17)
  have hsub : ∀ j, j < 5 → (va_up (va_up (va_up (va_up (va_up (fun _ => none) 0 (some (q4 0))) 1 (some (q7 0))) 2 (some (q10 0))) 3 (some (q13 0))) 4 (some (q16 0))) j = ka_kept (fun k => match k with
    | 0 => a
    | 1 => q1
    | 2 => q4 0
    | 3 => q4 1
    | 4 => q4 2
    | 5 => q7 0
    | 6 => q7 1
    | 7 => q7 2
    | 8 => q10 0
    | 9 => q10 1
    | 10 => q10 2
    | 11 => q13 0
    | 12 => q13 1
    | 13 => q13 2
    | 14 => q16 0
    | 15 => q16 1
    | _ => q16 2) 0 j := fun j hj => by
    match j, hj with
    | 0, _ => rfl
    | 1, _ => rfl
    | 2, _ => rfl
    | 3, _ => rfl
    | 4, _ => rfl
  have hP := ka_setP (e' := .inl (cO, 5, .inr (.inr (.inr (.inr (ka_kept (fun k => match k with
    | 0 => a
    | 1 => q1
    | 2 => q4 0
    | 3 => q4 1
    | 4 => q4 2
    | 5 => q7 0
    | 6 => q7 1
    | 7 => q7 2
    | 8 => q10 0
    | 9 => q10 1
    | 10 => q10 2
    | 11 => q13 0
    | 12 => q13 1
    | 13 => q13 2
    | 14 => q16 0
    | 15 => q16 1
    | _ => q16 2) 0)))))) (p := 1) hP rfl (fun hq9 => hq9.trans (congrArg some (ka_cq hsub)))
  have hD := hD.set (e := .inl (cO, 5, .inr (.inr (.inr (.inr (ka_kept (fun k => match k with
    | 0 => a
    | 1 => q1
    | 2 => q4 0
    | 3 => q4 1
    | 4 => q4 2
    | 5 => q7 0
    | 6 => q7 1
    | 7 => q7 2
    | 8 => q10 0
    | 9 => q10 1
    | 10 => q10 2
    | 11 => q13 0
    | 12 => q13 1
    | 13 => q13 2
    | 14 => q16 0
    | 15 => q16 1
    | _ => q16 2) 0)))))) (p := 1) (a := q1) (e0 := .inl (cO, 5, .inr (.inr (.inr (.inr (va_up (va_up (va_up (va_up (va_up (fun _ => none) 0 (some (q4 0))) 1 (some (q7 0))) 2 (some (q10 0))) 3 (some (q13 0))) 4 (some (q16 0)))))))) rfl
  refine hend (fun k => match k with
    | 0 => a
    | 1 => q1
    | 2 => q4 0
    | 3 => q4 1
    | 4 => q4 2
    | 5 => q7 0
    | 6 => q7 1
    | 7 => q7 2
    | 8 => q10 0
    | 9 => q10 1
    | 10 => q10 2
    | 11 => q13 0
    | 12 => q13 1
    | 13 => q13 2
    | 14 => q16 0
    | 15 => q16 1
    | _ => q16 2) H _ ls 38 rfl (hP.sub [0, 1, 2, 3, 4, 5, 6, 7, 8, 9, 10, 11, 12, 13, 14, 15, 16] rfl) (hD.sub [0, 1, 2, 3, 4, 5, 6, 7, 8, 9, 10, 11, 12, 13, 14, 15, 16] (by decide) rfl) hS dX3_init_38

def rm8_init : Room := { frames := 3, cells := 33, slots := 45080, locals := 61 }
set_option maxHeartbeats 4000000 in
set_option maxRecDepth 100000 in
theorem c8_init (l : Launch) (D : va_G) (cB cI cZ cO : ClassId) (a sz : Nat) : Met l yX8_init wsX8_init rm8_init (va_Pc [.ref a] (kb_C D (ka_tys cB cI cZ cO) sz [(a, .inr (5, [.null, .null, .null, .null, .null, .null, .int 0, .int 0, .int 0]))])) (va_Qv (fun (_ : Unit) => True) (kb_at D a (va_A [(a, .inr (5, [.null, .null, .null, .null, .null, .null, .int 0, .int 0, .int 0]))] sz) (fun q => wdO cB cI cZ cO q sT0 sT0 (fun _ => sT0) 0 0 sT0 (fun _ => 0) (fun _ => 0) 0 0 0 0 0 0 (fun _ => 0) (fun _ => 0) 0 0 0 0 0 0 0 0 0)) (va_A [(a, .inr (5, [.null, .null, .null, .null, .null, .null, .int 0, .int 0, .int 0]))] sz)) 33 45080 (va_A [(a, .inr (5, [.null, .null, .null, .null, .null, .null, .int 0, .int 0, .int 0]))] sz) := by
  refine kb_metC (cc := cX8_init) (maxL := 1) (by decide) rfl (Nat.le_of_ble_eq_true rfl) ?_
  intro p e s m args below meth c Q A ls H hx hb hml hown hts hK hN hin hP hD hS hA hl hend
  have hown : s.vm.findClass RX8 = some m.cls := hown
  have hin : meth.name = "<init>" := hin
  have hl : lv_has ls 1 [(0, .ref a)] := hl
  have hin0 : ∀ w ∈ u_ws RX0 TX0 9, w ∈ wsX8_init := by decide +kernel
  have hin1 : ∀ w ∈ u_ws RX1 TX1 1, w ∈ wsX8_init := by decide +kernel
  have hin3 : ∀ w ∈ u_ws RX3 TX3 3, w ∈ wsX8_init := by decide +kernel
  have hin5 : ∀ w ∈ u_ws RX5 TX5 5, w ∈ wsX8_init := by decide +kernel
  have hin7 : ∀ w ∈ u_ws RX7 TX7 7, w ∈ wsX8_init := by decide +kernel
  have hin8 : ∀ w ∈ u_ws RX8 TX8 9, w ∈ wsX8_init := by decide +kernel
  refine lv_aload_n hx hb dX8_init_0 rfl (lv_at hl 0 rfl) ?_
  refine W.objInit hx hb hown (hts (.methodLink RX8 3 objectInit) (by decide +kernel)) (hts (.instanceMethod objectInit) (by decide +kernel)) (hts (.code objectInit ⟨#[0xb1]⟩ 1 none) (by decide +kernel)) rfl (by rw [hml]; exact hl.1) rfl dX8_init_1 (Nat.le_of_ble_eq_true rfl) (Nat.le_of_ble_eq_true rfl) ?_
  refine W.eq (g2 := F0 m 4 ls []) rfl ?_
  refine lv_aload_n hx hb dX8_init_4 rfl (lv_at hl 0 rfl) ?_
  refine va_new (ci := 3) (fs := [.null, .null, .long 0, .long 0, .int 0]) (C := RX5) (T := TX5) (N := 5) hx hb hts hin5 tyX5 tyX5_ok hown (hts (.classLink RX8 9 RX5) (by decide +kernel)) (hts (.instantiable RX5 5) (by decide +kernel)) (hts (.initialized RX5) (by decide +kernel)) hK hP hD hS hA rfl (by decide +kernel) (Nat.le_of_ble_eq_true rfl) (Nat.le_of_ble_eq_true rfl) dX8_init_5 (fun q1 H hP hD hS => ?_)
  have hP : va_P D vwCl ([(a, .inr (5, [.null, .null, .null, .null, .null, .null, .int 0, .int 0, .int 0])), (q1, .inr (3, [.null, .null, .long 0, .long 0, .int 0]))]) H := hP
  have hD : va_D A ([(a, .inr (5, [.null, .null, .null, .null, .null, .null, .int 0, .int 0, .int 0])), (q1, .inr (3, [.null, .null, .long 0, .long 0, .int 0]))]) := hD
  refine W.widen (k := 1) (n := 5) (Nat.le_of_ble_eq_true rfl) (Nat.le_of_ble_eq_true rfl) ?_
  refine lv_dup hx hb dX8_init_8 rfl ?_
  have hPc : va_P D vwCl [(q1, .inr (3, [.null, .null, .long 0, .long 0, .int 0]))] H := hP.sub [1] rfl
  have hDc : va_D A [(q1, .inr (3, [.null, .null, .long 0, .long 0, .int 0]))] := hD.sub [1] (by decide) rfl
  refine kd_C (wr := [(a, .inr (5, [.null, .null, .null, .null, .null, .null, .int 0, .int 0, .int 0]))]) (va_runIN (As := []) (rest := [.ref q1, .ref a]) ⟨hx, hb, hml, hown, hts⟩ (c5_init l D cB cI cZ cO q1 H.size) ⟨va_cnB 0 hts gX8_init_X5_init_n11 rfl rfl rfl hN.1.2.2.2.2.2.1 (hts (.initialized RX5) (by decide +kernel)) (by decide +kernel) ⟨Nat.le_of_ble_eq_true rfl, Nat.le_of_ble_eq_true rfl⟩, rfl, hts (.instanceMethod yX5_init) (by decide +kernel)⟩ ⟨kb_blindC, kb_preC hPc hDc hK hN⟩ rfl rfl hl.1 rfl (lv_room (Nat.le_of_ble_eq_true rfl)) dX8_init_9 ⟨Nat.le_of_ble_eq_true rfl, Nat.le_of_ble_eq_true rfl⟩) hP hD hS hA [1] [0] rfl rfl rfl (by decide) (fun q2 H2 locs hq2 hP2 hD2 hS2 => ?_)
  subst hq2
  generalize H2 = H at hP2 hS2 ⊢
  have hS := hS2
  have hP : va_P D vwCl ([(a, .inr (5, [.null, .null, .null, .null, .null, .null, .int 0, .int 0, .int 0]))] ++ wdS cI q2 0 sT0) H := hP2
  have hD : va_D A ([(a, .inr (5, [.null, .null, .null, .null, .null, .null, .int 0, .int 0, .int 0]))] ++ wdS cI q2 0 sT0) := hD2
  refine W.widen (k := 3) (n := 20) (Nat.le_of_ble_eq_true rfl) (Nat.le_of_ble_eq_true rfl) ?_
  refine va_putF (D := D) (cl := vwCl) (ci := 5) (v := .ref (q2 0)) (ty := tyX8 0) (C := RX8) (T := TX8) (N := 9) hx hb hts hin8 tyX8 tyX8_ok nmX8 hown hK hP hD hS 0 rfl rfl 0 (by decide) (hts (.fieldLink RX8 12 "StepOrders" "now" "LStepOrders$State;") (by decide +kernel)) (fun _ h9 => h9) rfl hin rfl (tyX8_ok 0 (by decide)) rfl rfl (Nat.le_of_ble_eq_true rfl) dX8_init_12 (fun H locs hP hD hS => ?_)
  have hP : va_P D vwCl ([(a, .inr (5, [.ref (q2 0), .null, .null, .null, .null, .null, .int 0, .int 0, .int 0]))] ++ wdS cI q2 0 sT0) H := hP
  have hD : va_D A ([(a, .inr (5, [.ref (q2 0), .null, .null, .null, .null, .null, .int 0, .int 0, .int 0]))] ++ wdS cI q2 0 sT0) := hD
  refine lv_aload_n hx hb dX8_init_15 rfl (lv_at hl 0 rfl) ?_
  refine va_new (ci := 3) (fs := [.null, .null, .long 0, .long 0, .int 0]) (C := RX5) (T := TX5) (N := 5) hx hb hts hin5 tyX5 tyX5_ok hown (hts (.classLink RX8 9 RX5) (by decide +kernel)) (hts (.instantiable RX5 5) (by decide +kernel)) (hts (.initialized RX5) (by decide +kernel)) hK hP hD hS hA rfl (by decide +kernel) (Nat.le_of_ble_eq_true rfl) (Nat.le_of_ble_eq_true rfl) dX8_init_16 (fun q3 H hP hD hS => ?_)
  have hP : va_P D vwCl ([(a, .inr (5, [.ref (q2 0), .null, .null, .null, .null, .null, .int 0, .int 0, .int 0]))] ++ wdS cI q2 0 sT0 ++ [(q3, .inr (3, [.null, .null, .long 0, .long 0, .int 0]))]) H := hP
  have hD : va_D A ([(a, .inr (5, [.ref (q2 0), .null, .null, .null, .null, .null, .int 0, .int 0, .int 0]))] ++ wdS cI q2 0 sT0 ++ [(q3, .inr (3, [.null, .null, .long 0, .long 0, .int 0]))]) := hD
  refine W.widen (k := 4) (n := 25) (Nat.le_of_ble_eq_true rfl) (Nat.le_of_ble_eq_true rfl) ?_
  refine lv_dup hx hb dX8_init_19 rfl ?_
  have hPc : va_P D vwCl [(q3, .inr (3, [.null, .null, .long 0, .long 0, .int 0]))] H := hP.sub [4] rfl
  have hDc : va_D A [(q3, .inr (3, [.null, .null, .long 0, .long 0, .int 0]))] := hD.sub [4] (by decide) rfl
  refine kd_C (wr := [(a, .inr (5, [.ref (q2 0), .null, .null, .null, .null, .null, .int 0, .int 0, .int 0]))] ++ wdS cI q2 0 sT0) (va_runIN (As := []) (rest := [.ref q3, .ref a]) ⟨hx, hb, hml, hown, hts⟩ (c5_init l D cB cI cZ cO q3 H.size) ⟨va_cnB 0 hts gX8_init_X5_init_n11 rfl rfl rfl hN.1.2.2.2.2.2.1 (hts (.initialized RX5) (by decide +kernel)) (by decide +kernel) ⟨Nat.le_of_ble_eq_true rfl, Nat.le_of_ble_eq_true rfl⟩, rfl, hts (.instanceMethod yX5_init) (by decide +kernel)⟩ ⟨kb_blindC, kb_preC hPc hDc hK hN⟩ rfl rfl hl.1 rfl (lv_room (Nat.le_of_ble_eq_true rfl)) dX8_init_20 ⟨Nat.le_of_ble_eq_true rfl, Nat.le_of_ble_eq_true rfl⟩) hP hD hS hA [4] [0, 1, 2, 3] rfl rfl rfl (by decide) (fun q4 H4 locs hq4 hP4 hD4 hS4 => ?_)
  subst hq4
  generalize H4 = H at hP4 hS4 ⊢
  have hS := hS4
  have hP : va_P D vwCl ([(a, .inr (5, [.ref (q2 0), .null, .null, .null, .null, .null, .int 0, .int 0, .int 0]))] ++ wdS cI q2 0 sT0 ++ wdS cI q4 0 sT0) H := hP4
  have hD : va_D A ([(a, .inr (5, [.ref (q2 0), .null, .null, .null, .null, .null, .int 0, .int 0, .int 0]))] ++ wdS cI q2 0 sT0 ++ wdS cI q4 0 sT0) := hD4
  refine W.widen (k := 6) (n := 40) (Nat.le_of_ble_eq_true rfl) (Nat.le_of_ble_eq_true rfl) ?_
  refine va_putF (D := D) (cl := vwCl) (ci := 5) (v := .ref (q4 0)) (ty := tyX8 1) (C := RX8) (T := TX8) (N := 9) hx hb hts hin8 tyX8 tyX8_ok nmX8 hown hK hP hD hS 0 rfl rfl 1 (by decide) (hts (.fieldLink RX8 16 "StepOrders" "tried" "LStepOrders$State;") (by decide +kernel)) (fun _ h9 => h9) rfl hin rfl (tyX8_ok 1 (by decide)) rfl rfl (Nat.le_of_ble_eq_true rfl) dX8_init_23 (fun H locs hP hD hS => ?_)
  have hP : va_P D vwCl ([(a, .inr (5, [.ref (q2 0), .ref (q4 0), .null, .null, .null, .null, .int 0, .int 0, .int 0]))] ++ wdS cI q2 0 sT0 ++ wdS cI q4 0 sT0) H := hP
  have hD : va_D A ([(a, .inr (5, [.ref (q2 0), .ref (q4 0), .null, .null, .null, .null, .int 0, .int 0, .int 0]))] ++ wdS cI q2 0 sT0 ++ wdS cI q4 0 sT0) := hD
  refine lv_aload_n hx hb dX8_init_26 rfl (lv_at hl 0 rfl) ?_
  refine va_new (ci := 2) (fs := [.null, .int 0, .int 0]) (C := RX3) (T := TX3) (N := 3) hx hb hts hin3 tyX3 tyX3_ok hown (hts (.classLink RX8 19 RX3) (by decide +kernel)) (hts (.instantiable RX3 3) (by decide +kernel)) (hts (.initialized RX3) (by decide +kernel)) hK hP hD hS hA rfl (by decide +kernel) (Nat.le_of_ble_eq_true rfl) (Nat.le_of_ble_eq_true rfl) dX8_init_27 (fun q5 H hP hD hS => ?_)
  have hP : va_P D vwCl ([(a, .inr (5, [.ref (q2 0), .ref (q4 0), .null, .null, .null, .null, .int 0, .int 0, .int 0]))] ++ wdS cI q2 0 sT0 ++ wdS cI q4 0 sT0 ++ [(q5, .inr (2, [.null, .int 0, .int 0]))]) H := hP
  have hD : va_D A ([(a, .inr (5, [.ref (q2 0), .ref (q4 0), .null, .null, .null, .null, .int 0, .int 0, .int 0]))] ++ wdS cI q2 0 sT0 ++ wdS cI q4 0 sT0 ++ [(q5, .inr (2, [.null, .int 0, .int 0]))]) := hD
  refine W.widen (k := 7) (n := 43) (Nat.le_of_ble_eq_true rfl) (Nat.le_of_ble_eq_true rfl) ?_
  refine lv_dup hx hb dX8_init_30 rfl ?_
  have hPc : va_P D vwCl [(q5, .inr (2, [.null, .int 0, .int 0]))] H := hP.sub [7] rfl
  have hDc : va_D A [(q5, .inr (2, [.null, .int 0, .int 0]))] := hD.sub [7] (by decide) rfl
  refine kd_C (wr := [(a, .inr (5, [.ref (q2 0), .ref (q4 0), .null, .null, .null, .null, .int 0, .int 0, .int 0]))] ++ wdS cI q2 0 sT0 ++ wdS cI q4 0 sT0) (va_runI (As := []) (rest := [.ref q5, .ref a]) ⟨hx, hb, hml, hown, hts⟩ (c3_init l D cB cI cZ cO q5 H.size) (cwI 0 hts gX8_init_X3_init rfl rfl rfl (hts (.initialized RX3) (by decide +kernel)) (hts (.methodLink RX8 21 yX3_init) (by decide +kernel)) (hts (.instanceMethod yX3_init) (by decide +kernel)) rfl (by decide +kernel) ⟨Nat.le_of_ble_eq_true rfl, Nat.le_of_ble_eq_true rfl⟩) ⟨kb_blindC, kb_preC hPc hDc hK hN⟩ rfl rfl hl.1 rfl (lv_room (Nat.le_of_ble_eq_true rfl)) dX8_init_31 ⟨Nat.le_of_ble_eq_true rfl, Nat.le_of_ble_eq_true rfl⟩) hP hD hS hA [7] [0, 1, 2, 3, 4, 5, 6] rfl rfl rfl (by decide) (fun q6 H6 locs hq6 hP6 hD6 hS6 => ?_)
  subst hq6
  generalize H6 = H at hP6 hS6 ⊢
  have hS := hS6
  have hP : va_P D vwCl ([(a, .inr (5, [.ref (q2 0), .ref (q4 0), .null, .null, .null, .null, .int 0, .int 0, .int 0]))] ++ wdS cI q2 0 sT0 ++ wdS cI q4 0 sT0 ++ wdP cI cO q6 0 (fun _ => sT0) 0 0) H := hP6
  have hD : va_D A ([(a, .inr (5, [.ref (q2 0), .ref (q4 0), .null, .null, .null, .null, .int 0, .int 0, .int 0]))] ++ wdS cI q2 0 sT0 ++ wdS cI q4 0 sT0 ++ wdP cI cO q6 0 (fun _ => sT0) 0 0) := hD6
  refine W.widen (k := 23) (n := 148) (Nat.le_of_ble_eq_true rfl) (Nat.le_of_ble_eq_true rfl) ?_
  refine va_putF (D := D) (cl := vwCl) (ci := 5) (v := .ref (q6 0)) (ty := tyX8 2) (C := RX8) (T := TX8) (N := 9) hx hb hts hin8 tyX8 tyX8_ok nmX8 hown hK hP hD hS 0 rfl rfl 2 (by decide) (hts (.fieldLink RX8 22 "StepOrders" "past" "LStepOrders$Past;") (by decide +kernel)) (fun _ h9 => h9) rfl hin rfl (tyX8_ok 2 (by decide)) rfl rfl (Nat.le_of_ble_eq_true rfl) dX8_init_34 (fun H locs hP hD hS => ?_)
  have hP : va_P D vwCl ([(a, .inr (5, [.ref (q2 0), .ref (q4 0), .ref (q6 0), .null, .null, .null, .int 0, .int 0, .int 0]))] ++ wdS cI q2 0 sT0 ++ wdS cI q4 0 sT0 ++ wdP cI cO q6 0 (fun _ => sT0) 0 0) H := hP
  have hD : va_D A ([(a, .inr (5, [.ref (q2 0), .ref (q4 0), .ref (q6 0), .null, .null, .null, .int 0, .int 0, .int 0]))] ++ wdS cI q2 0 sT0 ++ wdS cI q4 0 sT0 ++ wdP cI cO q6 0 (fun _ => sT0) 0 0) := hD
  refine lv_aload_n hx hb dX8_init_37 rfl (lv_at hl 0 rfl) ?_
  refine va_new (ci := 0) (fs := [.null, .null, .null, .int 0, .int 0, .int 0, .int 0, .int 0, .int 0]) (C := RX0) (T := TX0) (N := 9) hx hb hts hin0 tyX0 tyX0_ok hown (hts (.classLink RX8 26 RX0) (by decide +kernel)) (hts (.instantiable RX0 9) (by decide +kernel)) (hts (.initialized RX0) (by decide +kernel)) hK hP hD hS hA rfl (by decide +kernel) (Nat.le_of_ble_eq_true rfl) (Nat.le_of_ble_eq_true rfl) dX8_init_38 (fun q7 H hP hD hS => ?_)
  have hP : va_P D vwCl ([(a, .inr (5, [.ref (q2 0), .ref (q4 0), .ref (q6 0), .null, .null, .null, .int 0, .int 0, .int 0]))] ++ wdS cI q2 0 sT0 ++ wdS cI q4 0 sT0 ++ wdP cI cO q6 0 (fun _ => sT0) 0 0 ++ [(q7, .inr (0, [.null, .null, .null, .int 0, .int 0, .int 0, .int 0, .int 0, .int 0]))]) H := hP
  have hD : va_D A ([(a, .inr (5, [.ref (q2 0), .ref (q4 0), .ref (q6 0), .null, .null, .null, .int 0, .int 0, .int 0]))] ++ wdS cI q2 0 sT0 ++ wdS cI q4 0 sT0 ++ wdP cI cO q6 0 (fun _ => sT0) 0 0 ++ [(q7, .inr (0, [.null, .null, .null, .int 0, .int 0, .int 0, .int 0, .int 0, .int 0]))]) := hD
  refine W.widen (k := 24) (n := 157) (Nat.le_of_ble_eq_true rfl) (Nat.le_of_ble_eq_true rfl) ?_
  refine lv_dup hx hb dX8_init_41 rfl ?_
  have hPc : va_P D vwCl [(q7, .inr (0, [.null, .null, .null, .int 0, .int 0, .int 0, .int 0, .int 0, .int 0]))] H := hP.sub [24] rfl
  have hDc : va_D A [(q7, .inr (0, [.null, .null, .null, .int 0, .int 0, .int 0, .int 0, .int 0, .int 0]))] := hD.sub [24] (by decide) rfl
  refine kd_C (wr := [(a, .inr (5, [.ref (q2 0), .ref (q4 0), .ref (q6 0), .null, .null, .null, .int 0, .int 0, .int 0]))] ++ wdS cI q2 0 sT0 ++ wdS cI q4 0 sT0 ++ wdP cI cO q6 0 (fun _ => sT0) 0 0) (va_runIN (As := []) (rest := [.ref q7, .ref a]) ⟨hx, hb, hml, hown, hts⟩ (c0_init l D cB cI cZ cO q7 H.size) ⟨va_cnB 0 hts gX8_init_X0_init_n28 rfl rfl rfl hN.1.2.2.2.2.2.2.1 (hts (.initialized RX0) (by decide +kernel)) (by decide +kernel) ⟨Nat.le_of_ble_eq_true rfl, Nat.le_of_ble_eq_true rfl⟩, rfl, hts (.instanceMethod yX0_init) (by decide +kernel)⟩ ⟨kb_blindC, kb_preC hPc hDc hK hN⟩ rfl rfl hl.1 rfl (lv_room (Nat.le_of_ble_eq_true rfl)) dX8_init_42 ⟨Nat.le_of_ble_eq_true rfl, Nat.le_of_ble_eq_true rfl⟩) hP hD hS hA [24] [0, 1, 2, 3, 4, 5, 6, 7, 8, 9, 10, 11, 12, 13, 14, 15, 16, 17, 18, 19, 20, 21, 22, 23] rfl rfl rfl (by decide) (fun q8 H8 locs hq8 hP8 hD8 hS8 => ?_)
  subst hq8
  generalize H8 = H at hP8 hS8 ⊢
  have hS := hS8
  have hP : va_P D vwCl ([(a, .inr (5, [.ref (q2 0), .ref (q4 0), .ref (q6 0), .null, .null, .null, .int 0, .int 0, .int 0]))] ++ wdS cI q2 0 sT0 ++ wdS cI q4 0 sT0 ++ wdP cI cO q6 0 (fun _ => sT0) 0 0 ++ wdA cI cZ q8 0 sT0 (fun _ => 0) (fun _ => 0) 0 0 0 0 0 0) H := hP8
  have hD : va_D A ([(a, .inr (5, [.ref (q2 0), .ref (q4 0), .ref (q6 0), .null, .null, .null, .int 0, .int 0, .int 0]))] ++ wdS cI q2 0 sT0 ++ wdS cI q4 0 sT0 ++ wdP cI cO q6 0 (fun _ => sT0) 0 0 ++ wdA cI cZ q8 0 sT0 (fun _ => 0) (fun _ => 0) 0 0 0 0 0 0) := hD8
  refine W.widen (k := 29) (n := 44827) (Nat.le_of_ble_eq_true rfl) (Nat.le_of_ble_eq_true rfl) ?_
  refine va_putF (D := D) (cl := vwCl) (ci := 5) (v := .ref (q8 0)) (ty := tyX8 3) (C := RX8) (T := TX8) (N := 9) hx hb hts hin8 tyX8 tyX8_ok nmX8 hown hK hP hD hS 0 rfl rfl 3 (by decide) (hts (.fieldLink RX8 29 "StepOrders" "all" "LStepOrders$AllOrders;") (by decide +kernel)) (fun _ h9 => h9) rfl hin rfl (tyX8_ok 3 (by decide)) rfl rfl (Nat.le_of_ble_eq_true rfl) dX8_init_45 (fun H locs hP hD hS => ?_)
  have hP : va_P D vwCl ([(a, .inr (5, [.ref (q2 0), .ref (q4 0), .ref (q6 0), .ref (q8 0), .null, .null, .int 0, .int 0, .int 0]))] ++ wdS cI q2 0 sT0 ++ wdS cI q4 0 sT0 ++ wdP cI cO q6 0 (fun _ => sT0) 0 0 ++ wdA cI cZ q8 0 sT0 (fun _ => 0) (fun _ => 0) 0 0 0 0 0 0) H := hP
  have hD : va_D A ([(a, .inr (5, [.ref (q2 0), .ref (q4 0), .ref (q6 0), .ref (q8 0), .null, .null, .int 0, .int 0, .int 0]))] ++ wdS cI q2 0 sT0 ++ wdS cI q4 0 sT0 ++ wdP cI cO q6 0 (fun _ => sT0) 0 0 ++ wdA cI cZ q8 0 sT0 (fun _ => 0) (fun _ => 0) 0 0 0 0 0 0) := hD
  refine lv_aload_n hx hb dX8_init_48 rfl (lv_at hl 0 rfl) ?_
  refine va_new (ci := 1) (fs := [.null]) (C := RX1) (T := TX1) (N := 1) hx hb hts hin1 tyX1 tyX1_ok hown (hts (.classLink RX8 33 RX1) (by decide +kernel)) (hts (.instantiable RX1 1) (by decide +kernel)) (hts (.initialized RX1) (by decide +kernel)) hK hP hD hS hA rfl (by decide +kernel) (Nat.le_of_ble_eq_true rfl) (Nat.le_of_ble_eq_true rfl) dX8_init_49 (fun q9 H hP hD hS => ?_)
  have hP : va_P D vwCl ([(a, .inr (5, [.ref (q2 0), .ref (q4 0), .ref (q6 0), .ref (q8 0), .null, .null, .int 0, .int 0, .int 0]))] ++ wdS cI q2 0 sT0 ++ wdS cI q4 0 sT0 ++ wdP cI cO q6 0 (fun _ => sT0) 0 0 ++ wdA cI cZ q8 0 sT0 (fun _ => 0) (fun _ => 0) 0 0 0 0 0 0 ++ [(q9, .inr (1, [.null]))]) H := hP
  have hD : va_D A ([(a, .inr (5, [.ref (q2 0), .ref (q4 0), .ref (q6 0), .ref (q8 0), .null, .null, .int 0, .int 0, .int 0]))] ++ wdS cI q2 0 sT0 ++ wdS cI q4 0 sT0 ++ wdP cI cO q6 0 (fun _ => sT0) 0 0 ++ wdA cI cZ q8 0 sT0 (fun _ => 0) (fun _ => 0) 0 0 0 0 0 0 ++ [(q9, .inr (1, [.null]))]) := hD
  refine W.widen (k := 30) (n := 44828) (Nat.le_of_ble_eq_true rfl) (Nat.le_of_ble_eq_true rfl) ?_
  refine lv_dup hx hb dX8_init_52 rfl ?_
  have hPc : va_P D vwCl [(q9, .inr (1, [.null]))] H := hP.sub [30] rfl
  have hDc : va_D A [(q9, .inr (1, [.null]))] := hD.sub [30] (by decide) rfl
  refine kd_C (wr := [(a, .inr (5, [.ref (q2 0), .ref (q4 0), .ref (q6 0), .ref (q8 0), .null, .null, .int 0, .int 0, .int 0]))] ++ wdS cI q2 0 sT0 ++ wdS cI q4 0 sT0 ++ wdP cI cO q6 0 (fun _ => sT0) 0 0 ++ wdA cI cZ q8 0 sT0 (fun _ => 0) (fun _ => 0) 0 0 0 0 0 0) (va_runIN (As := []) (rest := [.ref q9, .ref a]) ⟨hx, hb, hml, hown, hts⟩ (c1_init l D cB cI cZ cO q9 H.size) ⟨va_cnB 0 hts gX8_init_X1_init_n35 rfl rfl rfl hN.1.2.2.2.2.2.2.2.1 (hts (.initialized RX1) (by decide +kernel)) (by decide +kernel) ⟨Nat.le_of_ble_eq_true rfl, Nat.le_of_ble_eq_true rfl⟩, rfl, hts (.instanceMethod yX1_init) (by decide +kernel)⟩ ⟨kb_blindC, kb_preC hPc hDc hK hN⟩ rfl rfl hl.1 rfl (lv_room (Nat.le_of_ble_eq_true rfl)) dX8_init_53 ⟨Nat.le_of_ble_eq_true rfl, Nat.le_of_ble_eq_true rfl⟩) hP hD hS hA [30] [0, 1, 2, 3, 4, 5, 6, 7, 8, 9, 10, 11, 12, 13, 14, 15, 16, 17, 18, 19, 20, 21, 22, 23, 24, 25, 26, 27, 28, 29] rfl rfl rfl (by decide) (fun q10 H10 locs hq10 hP10 hD10 hS10 => ?_)
  subst hq10
  generalize H10 = H at hP10 hS10 ⊢
  have hS := hS10
  have hP : va_P D vwCl ([(a, .inr (5, [.ref (q2 0), .ref (q4 0), .ref (q6 0), .ref (q8 0), .null, .null, .int 0, .int 0, .int 0]))] ++ wdS cI q2 0 sT0 ++ wdS cI q4 0 sT0 ++ wdP cI cO q6 0 (fun _ => sT0) 0 0 ++ wdA cI cZ q8 0 sT0 (fun _ => 0) (fun _ => 0) 0 0 0 0 0 0 ++ wdG cZ q10 0 (fun _ => 0)) H := hP10
  have hD : va_D A ([(a, .inr (5, [.ref (q2 0), .ref (q4 0), .ref (q6 0), .ref (q8 0), .null, .null, .int 0, .int 0, .int 0]))] ++ wdS cI q2 0 sT0 ++ wdS cI q4 0 sT0 ++ wdP cI cO q6 0 (fun _ => sT0) 0 0 ++ wdA cI cZ q8 0 sT0 (fun _ => 0) (fun _ => 0) 0 0 0 0 0 0 ++ wdG cZ q10 0 (fun _ => 0)) := hD10
  refine W.widen (k := 31) (n := 44953) (Nat.le_of_ble_eq_true rfl) (Nat.le_of_ble_eq_true rfl) ?_
  refine va_putF (D := D) (cl := vwCl) (ci := 5) (v := .ref (q10 0)) (ty := tyX8 4) (C := RX8) (T := TX8) (N := 9) hx hb hts hin8 tyX8 tyX8_ok nmX8 hown hK hP hD hS 0 rfl rfl 4 (by decide) (hts (.fieldLink RX8 36 "StepOrders" "meetings" "LStepOrders$Meetings;") (by decide +kernel)) (fun _ h9 => h9) rfl hin rfl (tyX8_ok 4 (by decide)) rfl rfl (Nat.le_of_ble_eq_true rfl) dX8_init_56 (fun H locs hP hD hS => ?_)
  have hP : va_P D vwCl ([(a, .inr (5, [.ref (q2 0), .ref (q4 0), .ref (q6 0), .ref (q8 0), .ref (q10 0), .null, .int 0, .int 0, .int 0]))] ++ wdS cI q2 0 sT0 ++ wdS cI q4 0 sT0 ++ wdP cI cO q6 0 (fun _ => sT0) 0 0 ++ wdA cI cZ q8 0 sT0 (fun _ => 0) (fun _ => 0) 0 0 0 0 0 0 ++ wdG cZ q10 0 (fun _ => 0)) H := hP
  have hD : va_D A ([(a, .inr (5, [.ref (q2 0), .ref (q4 0), .ref (q6 0), .ref (q8 0), .ref (q10 0), .null, .int 0, .int 0, .int 0]))] ++ wdS cI q2 0 sT0 ++ wdS cI q4 0 sT0 ++ wdP cI cO q6 0 (fun _ => sT0) 0 0 ++ wdA cI cZ q8 0 sT0 (fun _ => 0) (fun _ => 0) 0 0 0 0 0 0 ++ wdG cZ q10 0 (fun _ => 0)) := hD
  refine lv_aload_n hx hb dX8_init_59 rfl (lv_at hl 0 rfl) ?_
  refine va_new (ci := 4) (fs := [.null, .int 0, .int 0, .int 0, .int 0, .int 0, .int 0]) (C := RX7) (T := TX7) (N := 7) hx hb hts hin7 tyX7 tyX7_ok hown (hts (.classLink RX8 40 RX7) (by decide +kernel)) (hts (.instantiable RX7 7) (by decide +kernel)) (hts (.initialized RX7) (by decide +kernel)) hK hP hD hS hA rfl (by decide +kernel) (Nat.le_of_ble_eq_true rfl) (Nat.le_of_ble_eq_true rfl) dX8_init_60 (fun q11 H hP hD hS => ?_)
  have hP : va_P D vwCl ([(a, .inr (5, [.ref (q2 0), .ref (q4 0), .ref (q6 0), .ref (q8 0), .ref (q10 0), .null, .int 0, .int 0, .int 0]))] ++ wdS cI q2 0 sT0 ++ wdS cI q4 0 sT0 ++ wdP cI cO q6 0 (fun _ => sT0) 0 0 ++ wdA cI cZ q8 0 sT0 (fun _ => 0) (fun _ => 0) 0 0 0 0 0 0 ++ wdG cZ q10 0 (fun _ => 0) ++ [(q11, .inr (4, [.null, .int 0, .int 0, .int 0, .int 0, .int 0, .int 0]))]) H := hP
  have hD : va_D A ([(a, .inr (5, [.ref (q2 0), .ref (q4 0), .ref (q6 0), .ref (q8 0), .ref (q10 0), .null, .int 0, .int 0, .int 0]))] ++ wdS cI q2 0 sT0 ++ wdS cI q4 0 sT0 ++ wdP cI cO q6 0 (fun _ => sT0) 0 0 ++ wdA cI cZ q8 0 sT0 (fun _ => 0) (fun _ => 0) 0 0 0 0 0 0 ++ wdG cZ q10 0 (fun _ => 0) ++ [(q11, .inr (4, [.null, .int 0, .int 0, .int 0, .int 0, .int 0, .int 0]))]) := hD
  refine W.widen (k := 32) (n := 44960) (Nat.le_of_ble_eq_true rfl) (Nat.le_of_ble_eq_true rfl) ?_
  refine lv_dup hx hb dX8_init_63 rfl ?_
  have hPc : va_P D vwCl [(q11, .inr (4, [.null, .int 0, .int 0, .int 0, .int 0, .int 0, .int 0]))] H := hP.sub [32] rfl
  have hDc : va_D A [(q11, .inr (4, [.null, .int 0, .int 0, .int 0, .int 0, .int 0, .int 0]))] := hD.sub [32] (by decide) rfl
  refine kd_C (wr := [(a, .inr (5, [.ref (q2 0), .ref (q4 0), .ref (q6 0), .ref (q8 0), .ref (q10 0), .null, .int 0, .int 0, .int 0]))] ++ wdS cI q2 0 sT0 ++ wdS cI q4 0 sT0 ++ wdP cI cO q6 0 (fun _ => sT0) 0 0 ++ wdA cI cZ q8 0 sT0 (fun _ => 0) (fun _ => 0) 0 0 0 0 0 0 ++ wdG cZ q10 0 (fun _ => 0)) (va_runIN (As := []) (rest := [.ref q11, .ref a]) ⟨hx, hb, hml, hown, hts⟩ (c7_init l D cB cI cZ cO q11 H.size) ⟨va_cnB 0 hts gX8_init_X7_init_n42 rfl rfl rfl hN.1.2.2.2.2.2.2.2.2.1 (hts (.initialized RX7) (by decide +kernel)) (by decide +kernel) ⟨Nat.le_of_ble_eq_true rfl, Nat.le_of_ble_eq_true rfl⟩, rfl, hts (.instanceMethod yX7_init) (by decide +kernel)⟩ ⟨kb_blindC, kb_preC hPc hDc hK hN⟩ rfl rfl hl.1 rfl (lv_room (Nat.le_of_ble_eq_true rfl)) dX8_init_64 ⟨Nat.le_of_ble_eq_true rfl, Nat.le_of_ble_eq_true rfl⟩) hP hD hS hA [32] [0, 1, 2, 3, 4, 5, 6, 7, 8, 9, 10, 11, 12, 13, 14, 15, 16, 17, 18, 19, 20, 21, 22, 23, 24, 25, 26, 27, 28, 29, 30, 31] rfl rfl rfl (by decide) (fun q12 H12 locs hq12 hP12 hD12 hS12 => ?_)
  subst hq12
  generalize H12 = H at hP12 hS12 ⊢
  have hS := hS12
  have hP : va_P D vwCl ([(a, .inr (5, [.ref (q2 0), .ref (q4 0), .ref (q6 0), .ref (q8 0), .ref (q10 0), .null, .int 0, .int 0, .int 0]))] ++ wdS cI q2 0 sT0 ++ wdS cI q4 0 sT0 ++ wdP cI cO q6 0 (fun _ => sT0) 0 0 ++ wdA cI cZ q8 0 sT0 (fun _ => 0) (fun _ => 0) 0 0 0 0 0 0 ++ wdG cZ q10 0 (fun _ => 0) ++ wdT cB q12 0 (fun _ => 0) 0 0 0 0 0 0) H := hP12
  have hD : va_D A ([(a, .inr (5, [.ref (q2 0), .ref (q4 0), .ref (q6 0), .ref (q8 0), .ref (q10 0), .null, .int 0, .int 0, .int 0]))] ++ wdS cI q2 0 sT0 ++ wdS cI q4 0 sT0 ++ wdP cI cO q6 0 (fun _ => sT0) 0 0 ++ wdA cI cZ q8 0 sT0 (fun _ => 0) (fun _ => 0) 0 0 0 0 0 0 ++ wdG cZ q10 0 (fun _ => 0) ++ wdT cB q12 0 (fun _ => 0) 0 0 0 0 0 0) := hD12
  refine W.widen (k := 33) (n := 45080) (Nat.le_of_ble_eq_true rfl) (Nat.le_of_ble_eq_true rfl) ?_
  refine va_putF (D := D) (cl := vwCl) (ci := 5) (v := .ref (q12 0)) (ty := tyX8 5) (C := RX8) (T := TX8) (N := 9) hx hb hts hin8 tyX8 tyX8_ok nmX8 hown hK hP hD hS 0 rfl rfl 5 (by decide) (hts (.fieldLink RX8 43 "StepOrders" "text" "LStepOrders$Text;") (by decide +kernel)) (fun _ h9 => h9) rfl hin rfl (tyX8_ok 5 (by decide)) rfl rfl (Nat.le_of_ble_eq_true rfl) dX8_init_67 (fun H locs hP hD hS => ?_)
  have hP : va_P D vwCl ([(a, .inr (5, [.ref (q2 0), .ref (q4 0), .ref (q6 0), .ref (q8 0), .ref (q10 0), .ref (q12 0), .int 0, .int 0, .int 0]))] ++ wdS cI q2 0 sT0 ++ wdS cI q4 0 sT0 ++ wdP cI cO q6 0 (fun _ => sT0) 0 0 ++ wdA cI cZ q8 0 sT0 (fun _ => 0) (fun _ => 0) 0 0 0 0 0 0 ++ wdG cZ q10 0 (fun _ => 0) ++ wdT cB q12 0 (fun _ => 0) 0 0 0 0 0 0) H := hP
  have hD : va_D A ([(a, .inr (5, [.ref (q2 0), .ref (q4 0), .ref (q6 0), .ref (q8 0), .ref (q10 0), .ref (q12 0), .int 0, .int 0, .int 0]))] ++ wdS cI q2 0 sT0 ++ wdS cI q4 0 sT0 ++ wdP cI cO q6 0 (fun _ => sT0) 0 0 ++ wdA cI cZ q8 0 sT0 (fun _ => 0) (fun _ => 0) 0 0 0 0 0 0 ++ wdG cZ q10 0 (fun _ => 0) ++ wdT cB q12 0 (fun _ => 0) 0 0 0 0 0 0) := hD
  refine hend (fun k => match k with
    | 0 => a
    | 1 => q2 0
    | 2 => q2 1
    | 3 => q2 2
    | 4 => q4 0
    | 5 => q4 1
    | 6 => q4 2
    | 7 => q6 0
    | 8 => q6 1
    | 9 => q6 2
    | 10 => q6 3
    | 11 => q6 4
    | 12 => q6 5
    | 13 => q6 6
    | 14 => q6 7
    | 15 => q6 8
    | 16 => q6 9
    | 17 => q6 10
    | 18 => q6 11
    | 19 => q6 12
    | 20 => q6 13
    | 21 => q6 14
    | 22 => q6 15
    | 23 => q6 16
    | 24 => q8 0
    | 25 => q8 1
    | 26 => q8 2
    | 27 => q8 3
    | 28 => q8 4
    | 29 => q8 5
    | 30 => q10 0
    | 31 => q10 1
    | 32 => q12 0
    | _ => q12 1) H _ ls 70 rfl (hP.sub [0, 1, 2, 3, 4, 5, 6, 7, 8, 9, 10, 11, 12, 13, 14, 15, 16, 17, 18, 19, 20, 21, 22, 23, 24, 25, 26, 27, 28, 29, 30, 31, 32, 33] rfl) (hD.sub [0, 1, 2, 3, 4, 5, 6, 7, 8, 9, 10, 11, 12, 13, 14, 15, 16, 17, 18, 19, 20, 21, 22, 23, 24, 25, 26, 27, 28, 29, 30, 31, 32, 33] (by decide) rfl) hS dX8_init_70

def rm9_init : Room := { frames := 1, cells := 16, slots := 10671, locals := 20 }
set_option maxHeartbeats 4000000 in
set_option maxRecDepth 100000 in
theorem c9_init (l : Launch) (D : va_G) (cB cI cZ cO : ClassId) (a sz : Nat) : Met l yX9_init wsX9_init rm9_init (va_Pc [.ref a] (kb_C D (ka_tys cB cI cZ cO) sz [(a, .inr (6, [.null, .null, .int 0, .null, .null, .null, .null, .int 0, .null, .null, .int 0, .null, .null, .null, .null, .null, .null, .null, .int 0, .int 0, .int 0, .null]))])) (va_Qv (fun (_ : Unit) => True) (kb_at D a (va_A [(a, .inr (6, [.null, .null, .int 0, .null, .null, .null, .null, .int 0, .null, .null, .int 0, .null, .null, .null, .null, .null, .null, .null, .int 0, .int 0, .int 0, .null]))] sz) (fun q => wdM cI cZ q (upd (fun _ => 0) 43 0) (fun _ => 0) 0 (fun _ => 0) (fun _ => 0) (fun _ => 0) (fun _ => 0) 0 (fun _ => 0) (fun _ => 0) 0 (fun _ => 0) (fun _ => 0) (fun _ => 0) (fun _ => 0) (fun _ => 0) (fun _ => 0) (fun _ => 0) 0 0 0 (fun _ => 0))) (va_A [(a, .inr (6, [.null, .null, .int 0, .null, .null, .null, .null, .int 0, .null, .null, .int 0, .null, .null, .null, .null, .null, .null, .null, .int 0, .int 0, .int 0, .null]))] sz)) 16 10671 (va_A [(a, .inr (6, [.null, .null, .int 0, .null, .null, .null, .null, .int 0, .null, .null, .int 0, .null, .null, .null, .null, .null, .null, .null, .int 0, .int 0, .int 0, .null]))] sz) := by
  refine kb_metC (cc := cX9_init) (maxL := 1) (by decide) rfl (Nat.le_of_ble_eq_true rfl) ?_
  intro p e s m args below meth c Q A ls H hx hb hml hown hts hK hN hin hP hD hS hA hl hend
  have hown : s.vm.findClass RX9 = some m.cls := hown
  have hin : meth.name = "<init>" := hin
  have hl : lv_has ls 1 [(0, .ref a)] := hl
  have hin9 : ∀ w ∈ u_ws RX9 TX9 22, w ∈ wsX9_init := by decide +kernel
  refine lv_aload_n hx hb dX9_init_0 rfl (lv_at hl 0 rfl) ?_
  refine W.objInit hx hb hown (hts (.methodLink RX9 1 objectInit) (by decide +kernel)) (hts (.instanceMethod objectInit) (by decide +kernel)) (hts (.code objectInit ⟨#[0xb1]⟩ 1 none) (by decide +kernel)) rfl (by rw [hml]; exact hl.1) rfl dX9_init_1 (Nat.le_of_ble_eq_true rfl) (Nat.le_of_ble_eq_true rfl) ?_
  refine W.eq (g2 := F0 m 4 ls []) rfl ?_
  refine lv_aload_n hx hb dX9_init_4 rfl (lv_at hl 0 rfl) ?_
  refine lv_bipush (v := 56) hx hb dX9_init_5 (by decide) ?_
  refine va_newa (atype := .int) (ty := .int) (a0 := (56, .inl (fun _ => 0))) (N' := 56) hx hb (hts (.arrayClass .int) (by decide +kernel)) rfl hK hP hD hS hA (fun _ => rfl) (by decide) (by decide) (by decide) (Nat.le_of_ble_eq_true rfl) (Nat.le_of_ble_eq_true rfl) dX9_init_7 (fun q1 cA H hK2 hP hD hS => ?_)
  obtain rfl : cI = cA := (ka_same 1 rfl (fun _ h => h) hK2).symm
  have hP : va_P D vwCl ([(a, .inr (6, [.null, .null, .int 0, .null, .null, .null, .null, .int 0, .null, .null, .int 0, .null, .null, .null, .null, .null, .null, .null, .int 0, .int 0, .int 0, .null])), (q1, .inl (cI, 56, .inl (fun _ => 0)))]) H := hP
  have hD : va_D A ([(a, .inr (6, [.null, .null, .int 0, .null, .null, .null, .null, .int 0, .null, .null, .int 0, .null, .null, .null, .null, .null, .null, .null, .int 0, .int 0, .int 0, .null])), (q1, .inl (cI, 56, .inl (fun _ => 0)))]) := hD
  refine W.widen (k := 1) (n := 56) (Nat.le_of_ble_eq_true rfl) (Nat.le_of_ble_eq_true rfl) ?_
  refine va_putF (D := D) (cl := vwCl) (ci := 6) (v := .ref q1) (ty := tyX9 0) (C := RX9) (T := TX9) (N := 22) hx hb hts hin9 tyX9 tyX9_ok nmX9 hown hK hP hD hS 0 rfl rfl 0 (by decide) (hts (.fieldLink RX9 7 "StepOrdersModel" "all" "[I") (by decide +kernel)) (fun _ h9 => h9) rfl hin rfl (tyX9_ok 0 (by decide)) rfl rfl (Nat.le_of_ble_eq_true rfl) dX9_init_9 (fun H locs hP hD hS => ?_)
  have hP : va_P D vwCl ([(a, .inr (6, [.ref q1, .null, .int 0, .null, .null, .null, .null, .int 0, .null, .null, .int 0, .null, .null, .null, .null, .null, .null, .null, .int 0, .int 0, .int 0, .null])), (q1, .inl (cI, 56, .inl (fun _ => 0)))]) H := hP
  have hD : va_D A ([(a, .inr (6, [.ref q1, .null, .int 0, .null, .null, .null, .null, .int 0, .null, .null, .int 0, .null, .null, .null, .null, .null, .null, .null, .int 0, .int 0, .int 0, .null])), (q1, .inl (cI, 56, .inl (fun _ => 0)))]) := hD
  refine lv_aload_n hx hb dX9_init_12 rfl (lv_at hl 0 rfl) ?_
  refine lv_sipush (v := 280) hx hb dX9_init_13 (by decide) ?_
  refine va_newa (atype := .int) (ty := .int) (a0 := (280, .inl (fun _ => 0))) (N' := 280) hx hb (hts (.arrayClass .int) (by decide +kernel)) rfl hK hP hD hS hA (fun _ => rfl) (by decide) (by decide) (by decide) (Nat.le_of_ble_eq_true rfl) (Nat.le_of_ble_eq_true rfl) dX9_init_16 (fun q2 cA H hK2 hP hD hS => ?_)
  obtain rfl : cI = cA := (ka_same 1 rfl (fun _ h => h) hK2).symm
  have hP : va_P D vwCl ([(a, .inr (6, [.ref q1, .null, .int 0, .null, .null, .null, .null, .int 0, .null, .null, .int 0, .null, .null, .null, .null, .null, .null, .null, .int 0, .int 0, .int 0, .null])), (q1, .inl (cI, 56, .inl (fun _ => 0))), (q2, .inl (cI, 280, .inl (fun _ => 0)))]) H := hP
  have hD : va_D A ([(a, .inr (6, [.ref q1, .null, .int 0, .null, .null, .null, .null, .int 0, .null, .null, .int 0, .null, .null, .null, .null, .null, .null, .null, .int 0, .int 0, .int 0, .null])), (q1, .inl (cI, 56, .inl (fun _ => 0))), (q2, .inl (cI, 280, .inl (fun _ => 0)))]) := hD
  refine W.widen (k := 2) (n := 336) (Nat.le_of_ble_eq_true rfl) (Nat.le_of_ble_eq_true rfl) ?_
  refine va_putF (D := D) (cl := vwCl) (ci := 6) (v := .ref q2) (ty := tyX9 1) (C := RX9) (T := TX9) (N := 22) hx hb hts hin9 tyX9 tyX9_ok nmX9 hown hK hP hD hS 0 rfl rfl 1 (by decide) (hts (.fieldLink RX9 13 "StepOrdersModel" "past" "[I") (by decide +kernel)) (fun _ h9 => h9) rfl hin rfl (tyX9_ok 1 (by decide)) rfl rfl (Nat.le_of_ble_eq_true rfl) dX9_init_18 (fun H locs hP hD hS => ?_)
  have hP : va_P D vwCl ([(a, .inr (6, [.ref q1, .ref q2, .int 0, .null, .null, .null, .null, .int 0, .null, .null, .int 0, .null, .null, .null, .null, .null, .null, .null, .int 0, .int 0, .int 0, .null])), (q1, .inl (cI, 56, .inl (fun _ => 0))), (q2, .inl (cI, 280, .inl (fun _ => 0)))]) H := hP
  have hD : va_D A ([(a, .inr (6, [.ref q1, .ref q2, .int 0, .null, .null, .null, .null, .int 0, .null, .null, .int 0, .null, .null, .null, .null, .null, .null, .null, .int 0, .int 0, .int 0, .null])), (q1, .inl (cI, 56, .inl (fun _ => 0))), (q2, .inl (cI, 280, .inl (fun _ => 0)))]) := hD
  refine lv_aload_n hx hb dX9_init_21 rfl (lv_at hl 0 rfl) ?_
  refine lv_iconst (v := 3) hx hb dX9_init_22 (by decide) ?_
  refine va_newa (atype := .int) (ty := .int) (a0 := (3, .inl (fun _ => 0))) (N' := 3) hx hb (hts (.arrayClass .int) (by decide +kernel)) rfl hK hP hD hS hA (fun _ => rfl) (by decide) (by decide) (by decide) (Nat.le_of_ble_eq_true rfl) (Nat.le_of_ble_eq_true rfl) dX9_init_23 (fun q3 cA H hK2 hP hD hS => ?_)
  obtain rfl : cI = cA := (ka_same 1 rfl (fun _ h => h) hK2).symm
  have hP : va_P D vwCl ([(a, .inr (6, [.ref q1, .ref q2, .int 0, .null, .null, .null, .null, .int 0, .null, .null, .int 0, .null, .null, .null, .null, .null, .null, .null, .int 0, .int 0, .int 0, .null])), (q1, .inl (cI, 56, .inl (fun _ => 0))), (q2, .inl (cI, 280, .inl (fun _ => 0))), (q3, .inl (cI, 3, .inl (fun _ => 0)))]) H := hP
  have hD : va_D A ([(a, .inr (6, [.ref q1, .ref q2, .int 0, .null, .null, .null, .null, .int 0, .null, .null, .int 0, .null, .null, .null, .null, .null, .null, .null, .int 0, .int 0, .int 0, .null])), (q1, .inl (cI, 56, .inl (fun _ => 0))), (q2, .inl (cI, 280, .inl (fun _ => 0))), (q3, .inl (cI, 3, .inl (fun _ => 0)))]) := hD
  refine W.widen (k := 3) (n := 339) (Nat.le_of_ble_eq_true rfl) (Nat.le_of_ble_eq_true rfl) ?_
  refine va_putF (D := D) (cl := vwCl) (ci := 6) (v := .ref q3) (ty := tyX9 3) (C := RX9) (T := TX9) (N := 22) hx hb hts hin9 tyX9 tyX9_ok nmX9 hown hK hP hD hS 0 rfl rfl 3 (by decide) (hts (.fieldLink RX9 16 "StepOrdersModel" "refused" "[I") (by decide +kernel)) (fun _ h9 => h9) rfl hin rfl (tyX9_ok 3 (by decide)) rfl rfl (Nat.le_of_ble_eq_true rfl) dX9_init_25 (fun H locs hP hD hS => ?_)
  have hP : va_P D vwCl ([(a, .inr (6, [.ref q1, .ref q2, .int 0, .ref q3, .null, .null, .null, .int 0, .null, .null, .int 0, .null, .null, .null, .null, .null, .null, .null, .int 0, .int 0, .int 0, .null])), (q1, .inl (cI, 56, .inl (fun _ => 0))), (q2, .inl (cI, 280, .inl (fun _ => 0))), (q3, .inl (cI, 3, .inl (fun _ => 0)))]) H := hP
  have hD : va_D A ([(a, .inr (6, [.ref q1, .ref q2, .int 0, .ref q3, .null, .null, .null, .int 0, .null, .null, .int 0, .null, .null, .null, .null, .null, .null, .null, .int 0, .int 0, .int 0, .null])), (q1, .inl (cI, 56, .inl (fun _ => 0))), (q2, .inl (cI, 280, .inl (fun _ => 0))), (q3, .inl (cI, 3, .inl (fun _ => 0)))]) := hD
  refine lv_aload_n hx hb dX9_init_28 rfl (lv_at hl 0 rfl) ?_
  refine lv_iconst (v := 3) hx hb dX9_init_29 (by decide) ?_
  refine va_newa (atype := .int) (ty := .int) (a0 := (3, .inl (fun _ => 0))) (N' := 3) hx hb (hts (.arrayClass .int) (by decide +kernel)) rfl hK hP hD hS hA (fun _ => rfl) (by decide) (by decide) (by decide) (Nat.le_of_ble_eq_true rfl) (Nat.le_of_ble_eq_true rfl) dX9_init_30 (fun q4 cA H hK2 hP hD hS => ?_)
  obtain rfl : cI = cA := (ka_same 1 rfl (fun _ h => h) hK2).symm
  have hP : va_P D vwCl ([(a, .inr (6, [.ref q1, .ref q2, .int 0, .ref q3, .null, .null, .null, .int 0, .null, .null, .int 0, .null, .null, .null, .null, .null, .null, .null, .int 0, .int 0, .int 0, .null])), (q1, .inl (cI, 56, .inl (fun _ => 0))), (q2, .inl (cI, 280, .inl (fun _ => 0))), (q3, .inl (cI, 3, .inl (fun _ => 0))), (q4, .inl (cI, 3, .inl (fun _ => 0)))]) H := hP
  have hD : va_D A ([(a, .inr (6, [.ref q1, .ref q2, .int 0, .ref q3, .null, .null, .null, .int 0, .null, .null, .int 0, .null, .null, .null, .null, .null, .null, .null, .int 0, .int 0, .int 0, .null])), (q1, .inl (cI, 56, .inl (fun _ => 0))), (q2, .inl (cI, 280, .inl (fun _ => 0))), (q3, .inl (cI, 3, .inl (fun _ => 0))), (q4, .inl (cI, 3, .inl (fun _ => 0)))]) := hD
  refine W.widen (k := 4) (n := 342) (Nat.le_of_ble_eq_true rfl) (Nat.le_of_ble_eq_true rfl) ?_
  refine va_putF (D := D) (cl := vwCl) (ci := 6) (v := .ref q4) (ty := tyX9 4) (C := RX9) (T := TX9) (N := 22) hx hb hts hin9 tyX9 tyX9_ok nmX9 hown hK hP hD hS 0 rfl rfl 4 (by decide) (hts (.fieldLink RX9 19 "StepOrdersModel" "far" "[I") (by decide +kernel)) (fun _ h9 => h9) rfl hin rfl (tyX9_ok 4 (by decide)) rfl rfl (Nat.le_of_ble_eq_true rfl) dX9_init_32 (fun H locs hP hD hS => ?_)
  have hP : va_P D vwCl ([(a, .inr (6, [.ref q1, .ref q2, .int 0, .ref q3, .ref q4, .null, .null, .int 0, .null, .null, .int 0, .null, .null, .null, .null, .null, .null, .null, .int 0, .int 0, .int 0, .null])), (q1, .inl (cI, 56, .inl (fun _ => 0))), (q2, .inl (cI, 280, .inl (fun _ => 0))), (q3, .inl (cI, 3, .inl (fun _ => 0))), (q4, .inl (cI, 3, .inl (fun _ => 0)))]) H := hP
  have hD : va_D A ([(a, .inr (6, [.ref q1, .ref q2, .int 0, .ref q3, .ref q4, .null, .null, .int 0, .null, .null, .int 0, .null, .null, .null, .null, .null, .null, .null, .int 0, .int 0, .int 0, .null])), (q1, .inl (cI, 56, .inl (fun _ => 0))), (q2, .inl (cI, 280, .inl (fun _ => 0))), (q3, .inl (cI, 3, .inl (fun _ => 0))), (q4, .inl (cI, 3, .inl (fun _ => 0)))]) := hD
  refine lv_aload_n hx hb dX9_init_35 rfl (lv_at hl 0 rfl) ?_
  refine lv_bipush (v := 12) hx hb dX9_init_36 (by decide) ?_
  refine va_newa (atype := .int) (ty := .int) (a0 := (12, .inl (fun _ => 0))) (N' := 12) hx hb (hts (.arrayClass .int) (by decide +kernel)) rfl hK hP hD hS hA (fun _ => rfl) (by decide) (by decide) (by decide) (Nat.le_of_ble_eq_true rfl) (Nat.le_of_ble_eq_true rfl) dX9_init_38 (fun q5 cA H hK2 hP hD hS => ?_)
  obtain rfl : cI = cA := (ka_same 1 rfl (fun _ h => h) hK2).symm
  have hP : va_P D vwCl ([(a, .inr (6, [.ref q1, .ref q2, .int 0, .ref q3, .ref q4, .null, .null, .int 0, .null, .null, .int 0, .null, .null, .null, .null, .null, .null, .null, .int 0, .int 0, .int 0, .null])), (q1, .inl (cI, 56, .inl (fun _ => 0))), (q2, .inl (cI, 280, .inl (fun _ => 0))), (q3, .inl (cI, 3, .inl (fun _ => 0))), (q4, .inl (cI, 3, .inl (fun _ => 0))), (q5, .inl (cI, 12, .inl (fun _ => 0)))]) H := hP
  have hD : va_D A ([(a, .inr (6, [.ref q1, .ref q2, .int 0, .ref q3, .ref q4, .null, .null, .int 0, .null, .null, .int 0, .null, .null, .null, .null, .null, .null, .null, .int 0, .int 0, .int 0, .null])), (q1, .inl (cI, 56, .inl (fun _ => 0))), (q2, .inl (cI, 280, .inl (fun _ => 0))), (q3, .inl (cI, 3, .inl (fun _ => 0))), (q4, .inl (cI, 3, .inl (fun _ => 0))), (q5, .inl (cI, 12, .inl (fun _ => 0)))]) := hD
  refine W.widen (k := 5) (n := 354) (Nat.le_of_ble_eq_true rfl) (Nat.le_of_ble_eq_true rfl) ?_
  refine va_putF (D := D) (cl := vwCl) (ci := 6) (v := .ref q5) (ty := tyX9 5) (C := RX9) (T := TX9) (N := 22) hx hb hts hin9 tyX9 tyX9_ok nmX9 hown hK hP hD hS 0 rfl rfl 5 (by decide) (hts (.fieldLink RX9 22 "StepOrdersModel" "row" "[I") (by decide +kernel)) (fun _ h9 => h9) rfl hin rfl (tyX9_ok 5 (by decide)) rfl rfl (Nat.le_of_ble_eq_true rfl) dX9_init_40 (fun H locs hP hD hS => ?_)
  have hP : va_P D vwCl ([(a, .inr (6, [.ref q1, .ref q2, .int 0, .ref q3, .ref q4, .ref q5, .null, .int 0, .null, .null, .int 0, .null, .null, .null, .null, .null, .null, .null, .int 0, .int 0, .int 0, .null])), (q1, .inl (cI, 56, .inl (fun _ => 0))), (q2, .inl (cI, 280, .inl (fun _ => 0))), (q3, .inl (cI, 3, .inl (fun _ => 0))), (q4, .inl (cI, 3, .inl (fun _ => 0))), (q5, .inl (cI, 12, .inl (fun _ => 0)))]) H := hP
  have hD : va_D A ([(a, .inr (6, [.ref q1, .ref q2, .int 0, .ref q3, .ref q4, .ref q5, .null, .int 0, .null, .null, .int 0, .null, .null, .null, .null, .null, .null, .null, .int 0, .int 0, .int 0, .null])), (q1, .inl (cI, 56, .inl (fun _ => 0))), (q2, .inl (cI, 280, .inl (fun _ => 0))), (q3, .inl (cI, 3, .inl (fun _ => 0))), (q4, .inl (cI, 3, .inl (fun _ => 0))), (q5, .inl (cI, 12, .inl (fun _ => 0)))]) := hD
  refine lv_aload_n hx hb dX9_init_43 rfl (lv_at hl 0 rfl) ?_
  refine lv_bipush (v := 12) hx hb dX9_init_44 (by decide) ?_
  refine va_newa (atype := .int) (ty := .int) (a0 := (12, .inl (fun _ => 0))) (N' := 12) hx hb (hts (.arrayClass .int) (by decide +kernel)) rfl hK hP hD hS hA (fun _ => rfl) (by decide) (by decide) (by decide) (Nat.le_of_ble_eq_true rfl) (Nat.le_of_ble_eq_true rfl) dX9_init_46 (fun q6 cA H hK2 hP hD hS => ?_)
  obtain rfl : cI = cA := (ka_same 1 rfl (fun _ h => h) hK2).symm
  have hP : va_P D vwCl ([(a, .inr (6, [.ref q1, .ref q2, .int 0, .ref q3, .ref q4, .ref q5, .null, .int 0, .null, .null, .int 0, .null, .null, .null, .null, .null, .null, .null, .int 0, .int 0, .int 0, .null])), (q1, .inl (cI, 56, .inl (fun _ => 0))), (q2, .inl (cI, 280, .inl (fun _ => 0))), (q3, .inl (cI, 3, .inl (fun _ => 0))), (q4, .inl (cI, 3, .inl (fun _ => 0))), (q5, .inl (cI, 12, .inl (fun _ => 0))), (q6, .inl (cI, 12, .inl (fun _ => 0)))]) H := hP
  have hD : va_D A ([(a, .inr (6, [.ref q1, .ref q2, .int 0, .ref q3, .ref q4, .ref q5, .null, .int 0, .null, .null, .int 0, .null, .null, .null, .null, .null, .null, .null, .int 0, .int 0, .int 0, .null])), (q1, .inl (cI, 56, .inl (fun _ => 0))), (q2, .inl (cI, 280, .inl (fun _ => 0))), (q3, .inl (cI, 3, .inl (fun _ => 0))), (q4, .inl (cI, 3, .inl (fun _ => 0))), (q5, .inl (cI, 12, .inl (fun _ => 0))), (q6, .inl (cI, 12, .inl (fun _ => 0)))]) := hD
  refine W.widen (k := 6) (n := 366) (Nat.le_of_ble_eq_true rfl) (Nat.le_of_ble_eq_true rfl) ?_
  refine va_putF (D := D) (cl := vwCl) (ci := 6) (v := .ref q6) (ty := tyX9 6) (C := RX9) (T := TX9) (N := 22) hx hb hts hin9 tyX9 tyX9_ok nmX9 hown hK hP hD hS 0 rfl rfl 6 (by decide) (hts (.fieldLink RX9 25 "StepOrdersModel" "stepAt" "[I") (by decide +kernel)) (fun _ h9 => h9) rfl hin rfl (tyX9_ok 6 (by decide)) rfl rfl (Nat.le_of_ble_eq_true rfl) dX9_init_48 (fun H locs hP hD hS => ?_)
  have hP : va_P D vwCl ([(a, .inr (6, [.ref q1, .ref q2, .int 0, .ref q3, .ref q4, .ref q5, .ref q6, .int 0, .null, .null, .int 0, .null, .null, .null, .null, .null, .null, .null, .int 0, .int 0, .int 0, .null])), (q1, .inl (cI, 56, .inl (fun _ => 0))), (q2, .inl (cI, 280, .inl (fun _ => 0))), (q3, .inl (cI, 3, .inl (fun _ => 0))), (q4, .inl (cI, 3, .inl (fun _ => 0))), (q5, .inl (cI, 12, .inl (fun _ => 0))), (q6, .inl (cI, 12, .inl (fun _ => 0)))]) H := hP
  have hD : va_D A ([(a, .inr (6, [.ref q1, .ref q2, .int 0, .ref q3, .ref q4, .ref q5, .ref q6, .int 0, .null, .null, .int 0, .null, .null, .null, .null, .null, .null, .null, .int 0, .int 0, .int 0, .null])), (q1, .inl (cI, 56, .inl (fun _ => 0))), (q2, .inl (cI, 280, .inl (fun _ => 0))), (q3, .inl (cI, 3, .inl (fun _ => 0))), (q4, .inl (cI, 3, .inl (fun _ => 0))), (q5, .inl (cI, 12, .inl (fun _ => 0))), (q6, .inl (cI, 12, .inl (fun _ => 0)))]) := hD
  refine lv_aload_n hx hb dX9_init_51 rfl (lv_at hl 0 rfl) ?_
  refine lv_bipush (v := 13) hx hb dX9_init_52 (by decide) ?_
  refine va_newa (atype := .int) (ty := .int) (a0 := (13, .inl (fun _ => 0))) (N' := 13) hx hb (hts (.arrayClass .int) (by decide +kernel)) rfl hK hP hD hS hA (fun _ => rfl) (by decide) (by decide) (by decide) (Nat.le_of_ble_eq_true rfl) (Nat.le_of_ble_eq_true rfl) dX9_init_54 (fun q7 cA H hK2 hP hD hS => ?_)
  obtain rfl : cI = cA := (ka_same 1 rfl (fun _ h => h) hK2).symm
  have hP : va_P D vwCl ([(a, .inr (6, [.ref q1, .ref q2, .int 0, .ref q3, .ref q4, .ref q5, .ref q6, .int 0, .null, .null, .int 0, .null, .null, .null, .null, .null, .null, .null, .int 0, .int 0, .int 0, .null])), (q1, .inl (cI, 56, .inl (fun _ => 0))), (q2, .inl (cI, 280, .inl (fun _ => 0))), (q3, .inl (cI, 3, .inl (fun _ => 0))), (q4, .inl (cI, 3, .inl (fun _ => 0))), (q5, .inl (cI, 12, .inl (fun _ => 0))), (q6, .inl (cI, 12, .inl (fun _ => 0))), (q7, .inl (cI, 13, .inl (fun _ => 0)))]) H := hP
  have hD : va_D A ([(a, .inr (6, [.ref q1, .ref q2, .int 0, .ref q3, .ref q4, .ref q5, .ref q6, .int 0, .null, .null, .int 0, .null, .null, .null, .null, .null, .null, .null, .int 0, .int 0, .int 0, .null])), (q1, .inl (cI, 56, .inl (fun _ => 0))), (q2, .inl (cI, 280, .inl (fun _ => 0))), (q3, .inl (cI, 3, .inl (fun _ => 0))), (q4, .inl (cI, 3, .inl (fun _ => 0))), (q5, .inl (cI, 12, .inl (fun _ => 0))), (q6, .inl (cI, 12, .inl (fun _ => 0))), (q7, .inl (cI, 13, .inl (fun _ => 0)))]) := hD
  refine W.widen (k := 7) (n := 379) (Nat.le_of_ble_eq_true rfl) (Nat.le_of_ble_eq_true rfl) ?_
  refine va_putF (D := D) (cl := vwCl) (ci := 6) (v := .ref q7) (ty := tyX9 8) (C := RX9) (T := TX9) (N := 22) hx hb hts hin9 tyX9 tyX9_ok nmX9 hown hK hP hD hS 0 rfl rfl 8 (by decide) (hts (.fieldLink RX9 28 "StepOrdersModel" "tries" "[I") (by decide +kernel)) (fun _ h9 => h9) rfl hin rfl (tyX9_ok 8 (by decide)) rfl rfl (Nat.le_of_ble_eq_true rfl) dX9_init_56 (fun H locs hP hD hS => ?_)
  have hP : va_P D vwCl ([(a, .inr (6, [.ref q1, .ref q2, .int 0, .ref q3, .ref q4, .ref q5, .ref q6, .int 0, .ref q7, .null, .int 0, .null, .null, .null, .null, .null, .null, .null, .int 0, .int 0, .int 0, .null])), (q1, .inl (cI, 56, .inl (fun _ => 0))), (q2, .inl (cI, 280, .inl (fun _ => 0))), (q3, .inl (cI, 3, .inl (fun _ => 0))), (q4, .inl (cI, 3, .inl (fun _ => 0))), (q5, .inl (cI, 12, .inl (fun _ => 0))), (q6, .inl (cI, 12, .inl (fun _ => 0))), (q7, .inl (cI, 13, .inl (fun _ => 0)))]) H := hP
  have hD : va_D A ([(a, .inr (6, [.ref q1, .ref q2, .int 0, .ref q3, .ref q4, .ref q5, .ref q6, .int 0, .ref q7, .null, .int 0, .null, .null, .null, .null, .null, .null, .null, .int 0, .int 0, .int 0, .null])), (q1, .inl (cI, 56, .inl (fun _ => 0))), (q2, .inl (cI, 280, .inl (fun _ => 0))), (q3, .inl (cI, 3, .inl (fun _ => 0))), (q4, .inl (cI, 3, .inl (fun _ => 0))), (q5, .inl (cI, 12, .inl (fun _ => 0))), (q6, .inl (cI, 12, .inl (fun _ => 0))), (q7, .inl (cI, 13, .inl (fun _ => 0)))]) := hD
  refine lv_aload_n hx hb dX9_init_59 rfl (lv_at hl 0 rfl) ?_
  refine lv_iconst (v := 4) hx hb dX9_init_60 (by decide) ?_
  refine va_newa (atype := .int) (ty := .int) (a0 := (4, .inl (fun _ => 0))) (N' := 4) hx hb (hts (.arrayClass .int) (by decide +kernel)) rfl hK hP hD hS hA (fun _ => rfl) (by decide) (by decide) (by decide) (Nat.le_of_ble_eq_true rfl) (Nat.le_of_ble_eq_true rfl) dX9_init_61 (fun q8 cA H hK2 hP hD hS => ?_)
  obtain rfl : cI = cA := (ka_same 1 rfl (fun _ h => h) hK2).symm
  have hP : va_P D vwCl ([(a, .inr (6, [.ref q1, .ref q2, .int 0, .ref q3, .ref q4, .ref q5, .ref q6, .int 0, .ref q7, .null, .int 0, .null, .null, .null, .null, .null, .null, .null, .int 0, .int 0, .int 0, .null])), (q1, .inl (cI, 56, .inl (fun _ => 0))), (q2, .inl (cI, 280, .inl (fun _ => 0))), (q3, .inl (cI, 3, .inl (fun _ => 0))), (q4, .inl (cI, 3, .inl (fun _ => 0))), (q5, .inl (cI, 12, .inl (fun _ => 0))), (q6, .inl (cI, 12, .inl (fun _ => 0))), (q7, .inl (cI, 13, .inl (fun _ => 0))), (q8, .inl (cI, 4, .inl (fun _ => 0)))]) H := hP
  have hD : va_D A ([(a, .inr (6, [.ref q1, .ref q2, .int 0, .ref q3, .ref q4, .ref q5, .ref q6, .int 0, .ref q7, .null, .int 0, .null, .null, .null, .null, .null, .null, .null, .int 0, .int 0, .int 0, .null])), (q1, .inl (cI, 56, .inl (fun _ => 0))), (q2, .inl (cI, 280, .inl (fun _ => 0))), (q3, .inl (cI, 3, .inl (fun _ => 0))), (q4, .inl (cI, 3, .inl (fun _ => 0))), (q5, .inl (cI, 12, .inl (fun _ => 0))), (q6, .inl (cI, 12, .inl (fun _ => 0))), (q7, .inl (cI, 13, .inl (fun _ => 0))), (q8, .inl (cI, 4, .inl (fun _ => 0)))]) := hD
  refine W.widen (k := 8) (n := 383) (Nat.le_of_ble_eq_true rfl) (Nat.le_of_ble_eq_true rfl) ?_
  refine va_putF (D := D) (cl := vwCl) (ci := 6) (v := .ref q8) (ty := tyX9 9) (C := RX9) (T := TX9) (N := 22) hx hb hts hin9 tyX9 tyX9_ok nmX9 hown hK hP hD hS 0 rfl rfl 9 (by decide) (hts (.fieldLink RX9 31 "StepOrdersModel" "values" "[I") (by decide +kernel)) (fun _ h9 => h9) rfl hin rfl (tyX9_ok 9 (by decide)) rfl rfl (Nat.le_of_ble_eq_true rfl) dX9_init_63 (fun H locs hP hD hS => ?_)
  have hP : va_P D vwCl ([(a, .inr (6, [.ref q1, .ref q2, .int 0, .ref q3, .ref q4, .ref q5, .ref q6, .int 0, .ref q7, .ref q8, .int 0, .null, .null, .null, .null, .null, .null, .null, .int 0, .int 0, .int 0, .null])), (q1, .inl (cI, 56, .inl (fun _ => 0))), (q2, .inl (cI, 280, .inl (fun _ => 0))), (q3, .inl (cI, 3, .inl (fun _ => 0))), (q4, .inl (cI, 3, .inl (fun _ => 0))), (q5, .inl (cI, 12, .inl (fun _ => 0))), (q6, .inl (cI, 12, .inl (fun _ => 0))), (q7, .inl (cI, 13, .inl (fun _ => 0))), (q8, .inl (cI, 4, .inl (fun _ => 0)))]) H := hP
  have hD : va_D A ([(a, .inr (6, [.ref q1, .ref q2, .int 0, .ref q3, .ref q4, .ref q5, .ref q6, .int 0, .ref q7, .ref q8, .int 0, .null, .null, .null, .null, .null, .null, .null, .int 0, .int 0, .int 0, .null])), (q1, .inl (cI, 56, .inl (fun _ => 0))), (q2, .inl (cI, 280, .inl (fun _ => 0))), (q3, .inl (cI, 3, .inl (fun _ => 0))), (q4, .inl (cI, 3, .inl (fun _ => 0))), (q5, .inl (cI, 12, .inl (fun _ => 0))), (q6, .inl (cI, 12, .inl (fun _ => 0))), (q7, .inl (cI, 13, .inl (fun _ => 0))), (q8, .inl (cI, 4, .inl (fun _ => 0)))]) := hD
  refine lv_aload_n hx hb dX9_init_66 rfl (lv_at hl 0 rfl) ?_
  refine lv_sipush (v := 10000) hx hb dX9_init_67 (by decide) ?_
  refine va_newa (atype := .boolean) (ty := .boolean) (a0 := (10000, .inl (fun _ => 0))) (N' := 10000) hx hb (hts (.arrayClass .boolean) (by decide +kernel)) rfl hK hP hD hS hA (fun _ => rfl) (by decide) (by decide) (by decide) (Nat.le_of_ble_eq_true rfl) (Nat.le_of_ble_eq_true rfl) dX9_init_70 (fun q9 cA H hK2 hP hD hS => ?_)
  obtain rfl : cZ = cA := (ka_same 2 rfl (fun _ h => h) hK2).symm
  have hP : va_P D vwCl ([(a, .inr (6, [.ref q1, .ref q2, .int 0, .ref q3, .ref q4, .ref q5, .ref q6, .int 0, .ref q7, .ref q8, .int 0, .null, .null, .null, .null, .null, .null, .null, .int 0, .int 0, .int 0, .null])), (q1, .inl (cI, 56, .inl (fun _ => 0))), (q2, .inl (cI, 280, .inl (fun _ => 0))), (q3, .inl (cI, 3, .inl (fun _ => 0))), (q4, .inl (cI, 3, .inl (fun _ => 0))), (q5, .inl (cI, 12, .inl (fun _ => 0))), (q6, .inl (cI, 12, .inl (fun _ => 0))), (q7, .inl (cI, 13, .inl (fun _ => 0))), (q8, .inl (cI, 4, .inl (fun _ => 0))), (q9, .inl (cZ, 10000, .inl (fun _ => 0)))]) H := hP
  have hD : va_D A ([(a, .inr (6, [.ref q1, .ref q2, .int 0, .ref q3, .ref q4, .ref q5, .ref q6, .int 0, .ref q7, .ref q8, .int 0, .null, .null, .null, .null, .null, .null, .null, .int 0, .int 0, .int 0, .null])), (q1, .inl (cI, 56, .inl (fun _ => 0))), (q2, .inl (cI, 280, .inl (fun _ => 0))), (q3, .inl (cI, 3, .inl (fun _ => 0))), (q4, .inl (cI, 3, .inl (fun _ => 0))), (q5, .inl (cI, 12, .inl (fun _ => 0))), (q6, .inl (cI, 12, .inl (fun _ => 0))), (q7, .inl (cI, 13, .inl (fun _ => 0))), (q8, .inl (cI, 4, .inl (fun _ => 0))), (q9, .inl (cZ, 10000, .inl (fun _ => 0)))]) := hD
  refine W.widen (k := 9) (n := 10383) (Nat.le_of_ble_eq_true rfl) (Nat.le_of_ble_eq_true rfl) ?_
  refine va_putF (D := D) (cl := vwCl) (ci := 6) (v := .ref q9) (ty := tyX9 11) (C := RX9) (T := TX9) (N := 22) hx hb hts hin9 tyX9 tyX9_ok nmX9 hown hK hP hD hS 0 rfl rfl 11 (by decide) (hts (.fieldLink RX9 34 "StepOrdersModel" "isEnd" "[Z") (by decide +kernel)) (fun _ h9 => h9) rfl hin rfl (tyX9_ok 11 (by decide)) rfl rfl (Nat.le_of_ble_eq_true rfl) dX9_init_72 (fun H locs hP hD hS => ?_)
  have hP : va_P D vwCl ([(a, .inr (6, [.ref q1, .ref q2, .int 0, .ref q3, .ref q4, .ref q5, .ref q6, .int 0, .ref q7, .ref q8, .int 0, .ref q9, .null, .null, .null, .null, .null, .null, .int 0, .int 0, .int 0, .null])), (q1, .inl (cI, 56, .inl (fun _ => 0))), (q2, .inl (cI, 280, .inl (fun _ => 0))), (q3, .inl (cI, 3, .inl (fun _ => 0))), (q4, .inl (cI, 3, .inl (fun _ => 0))), (q5, .inl (cI, 12, .inl (fun _ => 0))), (q6, .inl (cI, 12, .inl (fun _ => 0))), (q7, .inl (cI, 13, .inl (fun _ => 0))), (q8, .inl (cI, 4, .inl (fun _ => 0))), (q9, .inl (cZ, 10000, .inl (fun _ => 0)))]) H := hP
  have hD : va_D A ([(a, .inr (6, [.ref q1, .ref q2, .int 0, .ref q3, .ref q4, .ref q5, .ref q6, .int 0, .ref q7, .ref q8, .int 0, .ref q9, .null, .null, .null, .null, .null, .null, .int 0, .int 0, .int 0, .null])), (q1, .inl (cI, 56, .inl (fun _ => 0))), (q2, .inl (cI, 280, .inl (fun _ => 0))), (q3, .inl (cI, 3, .inl (fun _ => 0))), (q4, .inl (cI, 3, .inl (fun _ => 0))), (q5, .inl (cI, 12, .inl (fun _ => 0))), (q6, .inl (cI, 12, .inl (fun _ => 0))), (q7, .inl (cI, 13, .inl (fun _ => 0))), (q8, .inl (cI, 4, .inl (fun _ => 0))), (q9, .inl (cZ, 10000, .inl (fun _ => 0)))]) := hD
  refine lv_aload_n hx hb dX9_init_75 rfl (lv_at hl 0 rfl) ?_
  refine lv_iconst (v := 4) hx hb dX9_init_76 (by decide) ?_
  refine va_newa (atype := .int) (ty := .int) (a0 := (4, .inl (fun _ => 0))) (N' := 4) hx hb (hts (.arrayClass .int) (by decide +kernel)) rfl hK hP hD hS hA (fun _ => rfl) (by decide) (by decide) (by decide) (Nat.le_of_ble_eq_true rfl) (Nat.le_of_ble_eq_true rfl) dX9_init_77 (fun q10 cA H hK2 hP hD hS => ?_)
  obtain rfl : cI = cA := (ka_same 1 rfl (fun _ h => h) hK2).symm
  have hP : va_P D vwCl ([(a, .inr (6, [.ref q1, .ref q2, .int 0, .ref q3, .ref q4, .ref q5, .ref q6, .int 0, .ref q7, .ref q8, .int 0, .ref q9, .null, .null, .null, .null, .null, .null, .int 0, .int 0, .int 0, .null])), (q1, .inl (cI, 56, .inl (fun _ => 0))), (q2, .inl (cI, 280, .inl (fun _ => 0))), (q3, .inl (cI, 3, .inl (fun _ => 0))), (q4, .inl (cI, 3, .inl (fun _ => 0))), (q5, .inl (cI, 12, .inl (fun _ => 0))), (q6, .inl (cI, 12, .inl (fun _ => 0))), (q7, .inl (cI, 13, .inl (fun _ => 0))), (q8, .inl (cI, 4, .inl (fun _ => 0))), (q9, .inl (cZ, 10000, .inl (fun _ => 0))), (q10, .inl (cI, 4, .inl (fun _ => 0)))]) H := hP
  have hD : va_D A ([(a, .inr (6, [.ref q1, .ref q2, .int 0, .ref q3, .ref q4, .ref q5, .ref q6, .int 0, .ref q7, .ref q8, .int 0, .ref q9, .null, .null, .null, .null, .null, .null, .int 0, .int 0, .int 0, .null])), (q1, .inl (cI, 56, .inl (fun _ => 0))), (q2, .inl (cI, 280, .inl (fun _ => 0))), (q3, .inl (cI, 3, .inl (fun _ => 0))), (q4, .inl (cI, 3, .inl (fun _ => 0))), (q5, .inl (cI, 12, .inl (fun _ => 0))), (q6, .inl (cI, 12, .inl (fun _ => 0))), (q7, .inl (cI, 13, .inl (fun _ => 0))), (q8, .inl (cI, 4, .inl (fun _ => 0))), (q9, .inl (cZ, 10000, .inl (fun _ => 0))), (q10, .inl (cI, 4, .inl (fun _ => 0)))]) := hD
  refine W.widen (k := 10) (n := 10387) (Nat.le_of_ble_eq_true rfl) (Nat.le_of_ble_eq_true rfl) ?_
  refine va_putF (D := D) (cl := vwCl) (ci := 6) (v := .ref q10) (ty := tyX9 12) (C := RX9) (T := TX9) (N := 22) hx hb hts hin9 tyX9 tyX9_ok nmX9 hown hK hP hD hS 0 rfl rfl 12 (by decide) (hts (.fieldLink RX9 38 "StepOrdersModel" "found" "[I") (by decide +kernel)) (fun _ h9 => h9) rfl hin rfl (tyX9_ok 12 (by decide)) rfl rfl (Nat.le_of_ble_eq_true rfl) dX9_init_79 (fun H locs hP hD hS => ?_)
  have hP : va_P D vwCl ([(a, .inr (6, [.ref q1, .ref q2, .int 0, .ref q3, .ref q4, .ref q5, .ref q6, .int 0, .ref q7, .ref q8, .int 0, .ref q9, .ref q10, .null, .null, .null, .null, .null, .int 0, .int 0, .int 0, .null])), (q1, .inl (cI, 56, .inl (fun _ => 0))), (q2, .inl (cI, 280, .inl (fun _ => 0))), (q3, .inl (cI, 3, .inl (fun _ => 0))), (q4, .inl (cI, 3, .inl (fun _ => 0))), (q5, .inl (cI, 12, .inl (fun _ => 0))), (q6, .inl (cI, 12, .inl (fun _ => 0))), (q7, .inl (cI, 13, .inl (fun _ => 0))), (q8, .inl (cI, 4, .inl (fun _ => 0))), (q9, .inl (cZ, 10000, .inl (fun _ => 0))), (q10, .inl (cI, 4, .inl (fun _ => 0)))]) H := hP
  have hD : va_D A ([(a, .inr (6, [.ref q1, .ref q2, .int 0, .ref q3, .ref q4, .ref q5, .ref q6, .int 0, .ref q7, .ref q8, .int 0, .ref q9, .ref q10, .null, .null, .null, .null, .null, .int 0, .int 0, .int 0, .null])), (q1, .inl (cI, 56, .inl (fun _ => 0))), (q2, .inl (cI, 280, .inl (fun _ => 0))), (q3, .inl (cI, 3, .inl (fun _ => 0))), (q4, .inl (cI, 3, .inl (fun _ => 0))), (q5, .inl (cI, 12, .inl (fun _ => 0))), (q6, .inl (cI, 12, .inl (fun _ => 0))), (q7, .inl (cI, 13, .inl (fun _ => 0))), (q8, .inl (cI, 4, .inl (fun _ => 0))), (q9, .inl (cZ, 10000, .inl (fun _ => 0))), (q10, .inl (cI, 4, .inl (fun _ => 0)))]) := hD
  refine lv_aload_n hx hb dX9_init_82 rfl (lv_at hl 0 rfl) ?_
  refine lv_bipush (v := 125) hx hb dX9_init_83 (by decide) ?_
  refine va_newa (atype := .boolean) (ty := .boolean) (a0 := (125, .inl (fun _ => 0))) (N' := 125) hx hb (hts (.arrayClass .boolean) (by decide +kernel)) rfl hK hP hD hS hA (fun _ => rfl) (by decide) (by decide) (by decide) (Nat.le_of_ble_eq_true rfl) (Nat.le_of_ble_eq_true rfl) dX9_init_85 (fun q11 cA H hK2 hP hD hS => ?_)
  obtain rfl : cZ = cA := (ka_same 2 rfl (fun _ h => h) hK2).symm
  have hP : va_P D vwCl ([(a, .inr (6, [.ref q1, .ref q2, .int 0, .ref q3, .ref q4, .ref q5, .ref q6, .int 0, .ref q7, .ref q8, .int 0, .ref q9, .ref q10, .null, .null, .null, .null, .null, .int 0, .int 0, .int 0, .null])), (q1, .inl (cI, 56, .inl (fun _ => 0))), (q2, .inl (cI, 280, .inl (fun _ => 0))), (q3, .inl (cI, 3, .inl (fun _ => 0))), (q4, .inl (cI, 3, .inl (fun _ => 0))), (q5, .inl (cI, 12, .inl (fun _ => 0))), (q6, .inl (cI, 12, .inl (fun _ => 0))), (q7, .inl (cI, 13, .inl (fun _ => 0))), (q8, .inl (cI, 4, .inl (fun _ => 0))), (q9, .inl (cZ, 10000, .inl (fun _ => 0))), (q10, .inl (cI, 4, .inl (fun _ => 0))), (q11, .inl (cZ, 125, .inl (fun _ => 0)))]) H := hP
  have hD : va_D A ([(a, .inr (6, [.ref q1, .ref q2, .int 0, .ref q3, .ref q4, .ref q5, .ref q6, .int 0, .ref q7, .ref q8, .int 0, .ref q9, .ref q10, .null, .null, .null, .null, .null, .int 0, .int 0, .int 0, .null])), (q1, .inl (cI, 56, .inl (fun _ => 0))), (q2, .inl (cI, 280, .inl (fun _ => 0))), (q3, .inl (cI, 3, .inl (fun _ => 0))), (q4, .inl (cI, 3, .inl (fun _ => 0))), (q5, .inl (cI, 12, .inl (fun _ => 0))), (q6, .inl (cI, 12, .inl (fun _ => 0))), (q7, .inl (cI, 13, .inl (fun _ => 0))), (q8, .inl (cI, 4, .inl (fun _ => 0))), (q9, .inl (cZ, 10000, .inl (fun _ => 0))), (q10, .inl (cI, 4, .inl (fun _ => 0))), (q11, .inl (cZ, 125, .inl (fun _ => 0)))]) := hD
  refine W.widen (k := 11) (n := 10512) (Nat.le_of_ble_eq_true rfl) (Nat.le_of_ble_eq_true rfl) ?_
  refine va_putF (D := D) (cl := vwCl) (ci := 6) (v := .ref q11) (ty := tyX9 13) (C := RX9) (T := TX9) (N := 22) hx hb hts hin9 tyX9 tyX9_ok nmX9 hown hK hP hD hS 0 rfl rfl 13 (by decide) (hts (.fieldLink RX9 41 "StepOrdersModel" "reached" "[Z") (by decide +kernel)) (fun _ h9 => h9) rfl hin rfl (tyX9_ok 13 (by decide)) rfl rfl (Nat.le_of_ble_eq_true rfl) dX9_init_87 (fun H locs hP hD hS => ?_)
  have hP : va_P D vwCl ([(a, .inr (6, [.ref q1, .ref q2, .int 0, .ref q3, .ref q4, .ref q5, .ref q6, .int 0, .ref q7, .ref q8, .int 0, .ref q9, .ref q10, .ref q11, .null, .null, .null, .null, .int 0, .int 0, .int 0, .null])), (q1, .inl (cI, 56, .inl (fun _ => 0))), (q2, .inl (cI, 280, .inl (fun _ => 0))), (q3, .inl (cI, 3, .inl (fun _ => 0))), (q4, .inl (cI, 3, .inl (fun _ => 0))), (q5, .inl (cI, 12, .inl (fun _ => 0))), (q6, .inl (cI, 12, .inl (fun _ => 0))), (q7, .inl (cI, 13, .inl (fun _ => 0))), (q8, .inl (cI, 4, .inl (fun _ => 0))), (q9, .inl (cZ, 10000, .inl (fun _ => 0))), (q10, .inl (cI, 4, .inl (fun _ => 0))), (q11, .inl (cZ, 125, .inl (fun _ => 0)))]) H := hP
  have hD : va_D A ([(a, .inr (6, [.ref q1, .ref q2, .int 0, .ref q3, .ref q4, .ref q5, .ref q6, .int 0, .ref q7, .ref q8, .int 0, .ref q9, .ref q10, .ref q11, .null, .null, .null, .null, .int 0, .int 0, .int 0, .null])), (q1, .inl (cI, 56, .inl (fun _ => 0))), (q2, .inl (cI, 280, .inl (fun _ => 0))), (q3, .inl (cI, 3, .inl (fun _ => 0))), (q4, .inl (cI, 3, .inl (fun _ => 0))), (q5, .inl (cI, 12, .inl (fun _ => 0))), (q6, .inl (cI, 12, .inl (fun _ => 0))), (q7, .inl (cI, 13, .inl (fun _ => 0))), (q8, .inl (cI, 4, .inl (fun _ => 0))), (q9, .inl (cZ, 10000, .inl (fun _ => 0))), (q10, .inl (cI, 4, .inl (fun _ => 0))), (q11, .inl (cZ, 125, .inl (fun _ => 0)))]) := hD
  refine lv_aload_n hx hb dX9_init_90 rfl (lv_at hl 0 rfl) ?_
  refine lv_bipush (v := 12) hx hb dX9_init_91 (by decide) ?_
  refine va_newa (atype := .int) (ty := .int) (a0 := (12, .inl (fun _ => 0))) (N' := 12) hx hb (hts (.arrayClass .int) (by decide +kernel)) rfl hK hP hD hS hA (fun _ => rfl) (by decide) (by decide) (by decide) (Nat.le_of_ble_eq_true rfl) (Nat.le_of_ble_eq_true rfl) dX9_init_93 (fun q12 cA H hK2 hP hD hS => ?_)
  obtain rfl : cI = cA := (ka_same 1 rfl (fun _ h => h) hK2).symm
  have hP : va_P D vwCl ([(a, .inr (6, [.ref q1, .ref q2, .int 0, .ref q3, .ref q4, .ref q5, .ref q6, .int 0, .ref q7, .ref q8, .int 0, .ref q9, .ref q10, .ref q11, .null, .null, .null, .null, .int 0, .int 0, .int 0, .null])), (q1, .inl (cI, 56, .inl (fun _ => 0))), (q2, .inl (cI, 280, .inl (fun _ => 0))), (q3, .inl (cI, 3, .inl (fun _ => 0))), (q4, .inl (cI, 3, .inl (fun _ => 0))), (q5, .inl (cI, 12, .inl (fun _ => 0))), (q6, .inl (cI, 12, .inl (fun _ => 0))), (q7, .inl (cI, 13, .inl (fun _ => 0))), (q8, .inl (cI, 4, .inl (fun _ => 0))), (q9, .inl (cZ, 10000, .inl (fun _ => 0))), (q10, .inl (cI, 4, .inl (fun _ => 0))), (q11, .inl (cZ, 125, .inl (fun _ => 0))), (q12, .inl (cI, 12, .inl (fun _ => 0)))]) H := hP
  have hD : va_D A ([(a, .inr (6, [.ref q1, .ref q2, .int 0, .ref q3, .ref q4, .ref q5, .ref q6, .int 0, .ref q7, .ref q8, .int 0, .ref q9, .ref q10, .ref q11, .null, .null, .null, .null, .int 0, .int 0, .int 0, .null])), (q1, .inl (cI, 56, .inl (fun _ => 0))), (q2, .inl (cI, 280, .inl (fun _ => 0))), (q3, .inl (cI, 3, .inl (fun _ => 0))), (q4, .inl (cI, 3, .inl (fun _ => 0))), (q5, .inl (cI, 12, .inl (fun _ => 0))), (q6, .inl (cI, 12, .inl (fun _ => 0))), (q7, .inl (cI, 13, .inl (fun _ => 0))), (q8, .inl (cI, 4, .inl (fun _ => 0))), (q9, .inl (cZ, 10000, .inl (fun _ => 0))), (q10, .inl (cI, 4, .inl (fun _ => 0))), (q11, .inl (cZ, 125, .inl (fun _ => 0))), (q12, .inl (cI, 12, .inl (fun _ => 0)))]) := hD
  refine W.widen (k := 12) (n := 10524) (Nat.le_of_ble_eq_true rfl) (Nat.le_of_ble_eq_true rfl) ?_
  refine va_putF (D := D) (cl := vwCl) (ci := 6) (v := .ref q12) (ty := tyX9 14) (C := RX9) (T := TX9) (N := 22) hx hb hts hin9 tyX9 tyX9_ok nmX9 hown hK hP hD hS 0 rfl rfl 14 (by decide) (hts (.fieldLink RX9 44 "StepOrdersModel" "stepIn" "[I") (by decide +kernel)) (fun _ h9 => h9) rfl hin rfl (tyX9_ok 14 (by decide)) rfl rfl (Nat.le_of_ble_eq_true rfl) dX9_init_95 (fun H locs hP hD hS => ?_)
  have hP : va_P D vwCl ([(a, .inr (6, [.ref q1, .ref q2, .int 0, .ref q3, .ref q4, .ref q5, .ref q6, .int 0, .ref q7, .ref q8, .int 0, .ref q9, .ref q10, .ref q11, .ref q12, .null, .null, .null, .int 0, .int 0, .int 0, .null])), (q1, .inl (cI, 56, .inl (fun _ => 0))), (q2, .inl (cI, 280, .inl (fun _ => 0))), (q3, .inl (cI, 3, .inl (fun _ => 0))), (q4, .inl (cI, 3, .inl (fun _ => 0))), (q5, .inl (cI, 12, .inl (fun _ => 0))), (q6, .inl (cI, 12, .inl (fun _ => 0))), (q7, .inl (cI, 13, .inl (fun _ => 0))), (q8, .inl (cI, 4, .inl (fun _ => 0))), (q9, .inl (cZ, 10000, .inl (fun _ => 0))), (q10, .inl (cI, 4, .inl (fun _ => 0))), (q11, .inl (cZ, 125, .inl (fun _ => 0))), (q12, .inl (cI, 12, .inl (fun _ => 0)))]) H := hP
  have hD : va_D A ([(a, .inr (6, [.ref q1, .ref q2, .int 0, .ref q3, .ref q4, .ref q5, .ref q6, .int 0, .ref q7, .ref q8, .int 0, .ref q9, .ref q10, .ref q11, .ref q12, .null, .null, .null, .int 0, .int 0, .int 0, .null])), (q1, .inl (cI, 56, .inl (fun _ => 0))), (q2, .inl (cI, 280, .inl (fun _ => 0))), (q3, .inl (cI, 3, .inl (fun _ => 0))), (q4, .inl (cI, 3, .inl (fun _ => 0))), (q5, .inl (cI, 12, .inl (fun _ => 0))), (q6, .inl (cI, 12, .inl (fun _ => 0))), (q7, .inl (cI, 13, .inl (fun _ => 0))), (q8, .inl (cI, 4, .inl (fun _ => 0))), (q9, .inl (cZ, 10000, .inl (fun _ => 0))), (q10, .inl (cI, 4, .inl (fun _ => 0))), (q11, .inl (cZ, 125, .inl (fun _ => 0))), (q12, .inl (cI, 12, .inl (fun _ => 0)))]) := hD
  refine lv_aload_n hx hb dX9_init_98 rfl (lv_at hl 0 rfl) ?_
  refine lv_bipush (v := 12) hx hb dX9_init_99 (by decide) ?_
  refine va_newa (atype := .boolean) (ty := .boolean) (a0 := (12, .inl (fun _ => 0))) (N' := 12) hx hb (hts (.arrayClass .boolean) (by decide +kernel)) rfl hK hP hD hS hA (fun _ => rfl) (by decide) (by decide) (by decide) (Nat.le_of_ble_eq_true rfl) (Nat.le_of_ble_eq_true rfl) dX9_init_101 (fun q13 cA H hK2 hP hD hS => ?_)
  obtain rfl : cZ = cA := (ka_same 2 rfl (fun _ h => h) hK2).symm
  have hP : va_P D vwCl ([(a, .inr (6, [.ref q1, .ref q2, .int 0, .ref q3, .ref q4, .ref q5, .ref q6, .int 0, .ref q7, .ref q8, .int 0, .ref q9, .ref q10, .ref q11, .ref q12, .null, .null, .null, .int 0, .int 0, .int 0, .null])), (q1, .inl (cI, 56, .inl (fun _ => 0))), (q2, .inl (cI, 280, .inl (fun _ => 0))), (q3, .inl (cI, 3, .inl (fun _ => 0))), (q4, .inl (cI, 3, .inl (fun _ => 0))), (q5, .inl (cI, 12, .inl (fun _ => 0))), (q6, .inl (cI, 12, .inl (fun _ => 0))), (q7, .inl (cI, 13, .inl (fun _ => 0))), (q8, .inl (cI, 4, .inl (fun _ => 0))), (q9, .inl (cZ, 10000, .inl (fun _ => 0))), (q10, .inl (cI, 4, .inl (fun _ => 0))), (q11, .inl (cZ, 125, .inl (fun _ => 0))), (q12, .inl (cI, 12, .inl (fun _ => 0))), (q13, .inl (cZ, 12, .inl (fun _ => 0)))]) H := hP
  have hD : va_D A ([(a, .inr (6, [.ref q1, .ref q2, .int 0, .ref q3, .ref q4, .ref q5, .ref q6, .int 0, .ref q7, .ref q8, .int 0, .ref q9, .ref q10, .ref q11, .ref q12, .null, .null, .null, .int 0, .int 0, .int 0, .null])), (q1, .inl (cI, 56, .inl (fun _ => 0))), (q2, .inl (cI, 280, .inl (fun _ => 0))), (q3, .inl (cI, 3, .inl (fun _ => 0))), (q4, .inl (cI, 3, .inl (fun _ => 0))), (q5, .inl (cI, 12, .inl (fun _ => 0))), (q6, .inl (cI, 12, .inl (fun _ => 0))), (q7, .inl (cI, 13, .inl (fun _ => 0))), (q8, .inl (cI, 4, .inl (fun _ => 0))), (q9, .inl (cZ, 10000, .inl (fun _ => 0))), (q10, .inl (cI, 4, .inl (fun _ => 0))), (q11, .inl (cZ, 125, .inl (fun _ => 0))), (q12, .inl (cI, 12, .inl (fun _ => 0))), (q13, .inl (cZ, 12, .inl (fun _ => 0)))]) := hD
  refine W.widen (k := 13) (n := 10536) (Nat.le_of_ble_eq_true rfl) (Nat.le_of_ble_eq_true rfl) ?_
  refine va_putF (D := D) (cl := vwCl) (ci := 6) (v := .ref q13) (ty := tyX9 15) (C := RX9) (T := TX9) (N := 22) hx hb hts hin9 tyX9 tyX9_ok nmX9 hown hK hP hD hS 0 rfl rfl 15 (by decide) (hts (.fieldLink RX9 47 "StepOrdersModel" "laid" "[Z") (by decide +kernel)) (fun _ h9 => h9) rfl hin rfl (tyX9_ok 15 (by decide)) rfl rfl (Nat.le_of_ble_eq_true rfl) dX9_init_103 (fun H locs hP hD hS => ?_)
  have hP : va_P D vwCl ([(a, .inr (6, [.ref q1, .ref q2, .int 0, .ref q3, .ref q4, .ref q5, .ref q6, .int 0, .ref q7, .ref q8, .int 0, .ref q9, .ref q10, .ref q11, .ref q12, .ref q13, .null, .null, .int 0, .int 0, .int 0, .null])), (q1, .inl (cI, 56, .inl (fun _ => 0))), (q2, .inl (cI, 280, .inl (fun _ => 0))), (q3, .inl (cI, 3, .inl (fun _ => 0))), (q4, .inl (cI, 3, .inl (fun _ => 0))), (q5, .inl (cI, 12, .inl (fun _ => 0))), (q6, .inl (cI, 12, .inl (fun _ => 0))), (q7, .inl (cI, 13, .inl (fun _ => 0))), (q8, .inl (cI, 4, .inl (fun _ => 0))), (q9, .inl (cZ, 10000, .inl (fun _ => 0))), (q10, .inl (cI, 4, .inl (fun _ => 0))), (q11, .inl (cZ, 125, .inl (fun _ => 0))), (q12, .inl (cI, 12, .inl (fun _ => 0))), (q13, .inl (cZ, 12, .inl (fun _ => 0)))]) H := hP
  have hD : va_D A ([(a, .inr (6, [.ref q1, .ref q2, .int 0, .ref q3, .ref q4, .ref q5, .ref q6, .int 0, .ref q7, .ref q8, .int 0, .ref q9, .ref q10, .ref q11, .ref q12, .ref q13, .null, .null, .int 0, .int 0, .int 0, .null])), (q1, .inl (cI, 56, .inl (fun _ => 0))), (q2, .inl (cI, 280, .inl (fun _ => 0))), (q3, .inl (cI, 3, .inl (fun _ => 0))), (q4, .inl (cI, 3, .inl (fun _ => 0))), (q5, .inl (cI, 12, .inl (fun _ => 0))), (q6, .inl (cI, 12, .inl (fun _ => 0))), (q7, .inl (cI, 13, .inl (fun _ => 0))), (q8, .inl (cI, 4, .inl (fun _ => 0))), (q9, .inl (cZ, 10000, .inl (fun _ => 0))), (q10, .inl (cI, 4, .inl (fun _ => 0))), (q11, .inl (cZ, 125, .inl (fun _ => 0))), (q12, .inl (cI, 12, .inl (fun _ => 0))), (q13, .inl (cZ, 12, .inl (fun _ => 0)))]) := hD
  refine lv_aload_n hx hb dX9_init_106 rfl (lv_at hl 0 rfl) ?_
  refine lv_bipush (v := 12) hx hb dX9_init_107 (by decide) ?_
  refine va_newa (atype := .int) (ty := .int) (a0 := (12, .inl (fun _ => 0))) (N' := 12) hx hb (hts (.arrayClass .int) (by decide +kernel)) rfl hK hP hD hS hA (fun _ => rfl) (by decide) (by decide) (by decide) (Nat.le_of_ble_eq_true rfl) (Nat.le_of_ble_eq_true rfl) dX9_init_109 (fun q14 cA H hK2 hP hD hS => ?_)
  obtain rfl : cI = cA := (ka_same 1 rfl (fun _ h => h) hK2).symm
  have hP : va_P D vwCl ([(a, .inr (6, [.ref q1, .ref q2, .int 0, .ref q3, .ref q4, .ref q5, .ref q6, .int 0, .ref q7, .ref q8, .int 0, .ref q9, .ref q10, .ref q11, .ref q12, .ref q13, .null, .null, .int 0, .int 0, .int 0, .null])), (q1, .inl (cI, 56, .inl (fun _ => 0))), (q2, .inl (cI, 280, .inl (fun _ => 0))), (q3, .inl (cI, 3, .inl (fun _ => 0))), (q4, .inl (cI, 3, .inl (fun _ => 0))), (q5, .inl (cI, 12, .inl (fun _ => 0))), (q6, .inl (cI, 12, .inl (fun _ => 0))), (q7, .inl (cI, 13, .inl (fun _ => 0))), (q8, .inl (cI, 4, .inl (fun _ => 0))), (q9, .inl (cZ, 10000, .inl (fun _ => 0))), (q10, .inl (cI, 4, .inl (fun _ => 0))), (q11, .inl (cZ, 125, .inl (fun _ => 0))), (q12, .inl (cI, 12, .inl (fun _ => 0))), (q13, .inl (cZ, 12, .inl (fun _ => 0))), (q14, .inl (cI, 12, .inl (fun _ => 0)))]) H := hP
  have hD : va_D A ([(a, .inr (6, [.ref q1, .ref q2, .int 0, .ref q3, .ref q4, .ref q5, .ref q6, .int 0, .ref q7, .ref q8, .int 0, .ref q9, .ref q10, .ref q11, .ref q12, .ref q13, .null, .null, .int 0, .int 0, .int 0, .null])), (q1, .inl (cI, 56, .inl (fun _ => 0))), (q2, .inl (cI, 280, .inl (fun _ => 0))), (q3, .inl (cI, 3, .inl (fun _ => 0))), (q4, .inl (cI, 3, .inl (fun _ => 0))), (q5, .inl (cI, 12, .inl (fun _ => 0))), (q6, .inl (cI, 12, .inl (fun _ => 0))), (q7, .inl (cI, 13, .inl (fun _ => 0))), (q8, .inl (cI, 4, .inl (fun _ => 0))), (q9, .inl (cZ, 10000, .inl (fun _ => 0))), (q10, .inl (cI, 4, .inl (fun _ => 0))), (q11, .inl (cZ, 125, .inl (fun _ => 0))), (q12, .inl (cI, 12, .inl (fun _ => 0))), (q13, .inl (cZ, 12, .inl (fun _ => 0))), (q14, .inl (cI, 12, .inl (fun _ => 0)))]) := hD
  refine W.widen (k := 14) (n := 10548) (Nat.le_of_ble_eq_true rfl) (Nat.le_of_ble_eq_true rfl) ?_
  refine va_putF (D := D) (cl := vwCl) (ci := 6) (v := .ref q14) (ty := tyX9 16) (C := RX9) (T := TX9) (N := 22) hx hb hts hin9 tyX9 tyX9_ok nmX9 hown hK hP hD hS 0 rfl rfl 16 (by decide) (hts (.fieldLink RX9 50 "StepOrdersModel" "firstRow" "[I") (by decide +kernel)) (fun _ h9 => h9) rfl hin rfl (tyX9_ok 16 (by decide)) rfl rfl (Nat.le_of_ble_eq_true rfl) dX9_init_111 (fun H locs hP hD hS => ?_)
  have hP : va_P D vwCl ([(a, .inr (6, [.ref q1, .ref q2, .int 0, .ref q3, .ref q4, .ref q5, .ref q6, .int 0, .ref q7, .ref q8, .int 0, .ref q9, .ref q10, .ref q11, .ref q12, .ref q13, .ref q14, .null, .int 0, .int 0, .int 0, .null])), (q1, .inl (cI, 56, .inl (fun _ => 0))), (q2, .inl (cI, 280, .inl (fun _ => 0))), (q3, .inl (cI, 3, .inl (fun _ => 0))), (q4, .inl (cI, 3, .inl (fun _ => 0))), (q5, .inl (cI, 12, .inl (fun _ => 0))), (q6, .inl (cI, 12, .inl (fun _ => 0))), (q7, .inl (cI, 13, .inl (fun _ => 0))), (q8, .inl (cI, 4, .inl (fun _ => 0))), (q9, .inl (cZ, 10000, .inl (fun _ => 0))), (q10, .inl (cI, 4, .inl (fun _ => 0))), (q11, .inl (cZ, 125, .inl (fun _ => 0))), (q12, .inl (cI, 12, .inl (fun _ => 0))), (q13, .inl (cZ, 12, .inl (fun _ => 0))), (q14, .inl (cI, 12, .inl (fun _ => 0)))]) H := hP
  have hD : va_D A ([(a, .inr (6, [.ref q1, .ref q2, .int 0, .ref q3, .ref q4, .ref q5, .ref q6, .int 0, .ref q7, .ref q8, .int 0, .ref q9, .ref q10, .ref q11, .ref q12, .ref q13, .ref q14, .null, .int 0, .int 0, .int 0, .null])), (q1, .inl (cI, 56, .inl (fun _ => 0))), (q2, .inl (cI, 280, .inl (fun _ => 0))), (q3, .inl (cI, 3, .inl (fun _ => 0))), (q4, .inl (cI, 3, .inl (fun _ => 0))), (q5, .inl (cI, 12, .inl (fun _ => 0))), (q6, .inl (cI, 12, .inl (fun _ => 0))), (q7, .inl (cI, 13, .inl (fun _ => 0))), (q8, .inl (cI, 4, .inl (fun _ => 0))), (q9, .inl (cZ, 10000, .inl (fun _ => 0))), (q10, .inl (cI, 4, .inl (fun _ => 0))), (q11, .inl (cZ, 125, .inl (fun _ => 0))), (q12, .inl (cI, 12, .inl (fun _ => 0))), (q13, .inl (cZ, 12, .inl (fun _ => 0))), (q14, .inl (cI, 12, .inl (fun _ => 0)))]) := hD
  refine lv_aload_n hx hb dX9_init_114 rfl (lv_at hl 0 rfl) ?_
  refine lv_bipush (v := 120) hx hb dX9_init_115 (by decide) ?_
  refine va_newa (atype := .int) (ty := .int) (a0 := (120, .inl (fun _ => 0))) (N' := 120) hx hb (hts (.arrayClass .int) (by decide +kernel)) rfl hK hP hD hS hA (fun _ => rfl) (by decide) (by decide) (by decide) (Nat.le_of_ble_eq_true rfl) (Nat.le_of_ble_eq_true rfl) dX9_init_117 (fun q15 cA H hK2 hP hD hS => ?_)
  obtain rfl : cI = cA := (ka_same 1 rfl (fun _ h => h) hK2).symm
  have hP : va_P D vwCl ([(a, .inr (6, [.ref q1, .ref q2, .int 0, .ref q3, .ref q4, .ref q5, .ref q6, .int 0, .ref q7, .ref q8, .int 0, .ref q9, .ref q10, .ref q11, .ref q12, .ref q13, .ref q14, .null, .int 0, .int 0, .int 0, .null])), (q1, .inl (cI, 56, .inl (fun _ => 0))), (q2, .inl (cI, 280, .inl (fun _ => 0))), (q3, .inl (cI, 3, .inl (fun _ => 0))), (q4, .inl (cI, 3, .inl (fun _ => 0))), (q5, .inl (cI, 12, .inl (fun _ => 0))), (q6, .inl (cI, 12, .inl (fun _ => 0))), (q7, .inl (cI, 13, .inl (fun _ => 0))), (q8, .inl (cI, 4, .inl (fun _ => 0))), (q9, .inl (cZ, 10000, .inl (fun _ => 0))), (q10, .inl (cI, 4, .inl (fun _ => 0))), (q11, .inl (cZ, 125, .inl (fun _ => 0))), (q12, .inl (cI, 12, .inl (fun _ => 0))), (q13, .inl (cZ, 12, .inl (fun _ => 0))), (q14, .inl (cI, 12, .inl (fun _ => 0))), (q15, .inl (cI, 120, .inl (fun _ => 0)))]) H := hP
  have hD : va_D A ([(a, .inr (6, [.ref q1, .ref q2, .int 0, .ref q3, .ref q4, .ref q5, .ref q6, .int 0, .ref q7, .ref q8, .int 0, .ref q9, .ref q10, .ref q11, .ref q12, .ref q13, .ref q14, .null, .int 0, .int 0, .int 0, .null])), (q1, .inl (cI, 56, .inl (fun _ => 0))), (q2, .inl (cI, 280, .inl (fun _ => 0))), (q3, .inl (cI, 3, .inl (fun _ => 0))), (q4, .inl (cI, 3, .inl (fun _ => 0))), (q5, .inl (cI, 12, .inl (fun _ => 0))), (q6, .inl (cI, 12, .inl (fun _ => 0))), (q7, .inl (cI, 13, .inl (fun _ => 0))), (q8, .inl (cI, 4, .inl (fun _ => 0))), (q9, .inl (cZ, 10000, .inl (fun _ => 0))), (q10, .inl (cI, 4, .inl (fun _ => 0))), (q11, .inl (cZ, 125, .inl (fun _ => 0))), (q12, .inl (cI, 12, .inl (fun _ => 0))), (q13, .inl (cZ, 12, .inl (fun _ => 0))), (q14, .inl (cI, 12, .inl (fun _ => 0))), (q15, .inl (cI, 120, .inl (fun _ => 0)))]) := hD
  refine W.widen (k := 15) (n := 10668) (Nat.le_of_ble_eq_true rfl) (Nat.le_of_ble_eq_true rfl) ?_
  refine va_putF (D := D) (cl := vwCl) (ci := 6) (v := .ref q15) (ty := tyX9 17) (C := RX9) (T := TX9) (N := 22) hx hb hts hin9 tyX9 tyX9_ok nmX9 hown hK hP hD hS 0 rfl rfl 17 (by decide) (hts (.fieldLink RX9 53 "StepOrdersModel" "text" "[I") (by decide +kernel)) (fun _ h9 => h9) rfl hin rfl (tyX9_ok 17 (by decide)) rfl rfl (Nat.le_of_ble_eq_true rfl) dX9_init_119 (fun H locs hP hD hS => ?_)
  have hP : va_P D vwCl ([(a, .inr (6, [.ref q1, .ref q2, .int 0, .ref q3, .ref q4, .ref q5, .ref q6, .int 0, .ref q7, .ref q8, .int 0, .ref q9, .ref q10, .ref q11, .ref q12, .ref q13, .ref q14, .ref q15, .int 0, .int 0, .int 0, .null])), (q1, .inl (cI, 56, .inl (fun _ => 0))), (q2, .inl (cI, 280, .inl (fun _ => 0))), (q3, .inl (cI, 3, .inl (fun _ => 0))), (q4, .inl (cI, 3, .inl (fun _ => 0))), (q5, .inl (cI, 12, .inl (fun _ => 0))), (q6, .inl (cI, 12, .inl (fun _ => 0))), (q7, .inl (cI, 13, .inl (fun _ => 0))), (q8, .inl (cI, 4, .inl (fun _ => 0))), (q9, .inl (cZ, 10000, .inl (fun _ => 0))), (q10, .inl (cI, 4, .inl (fun _ => 0))), (q11, .inl (cZ, 125, .inl (fun _ => 0))), (q12, .inl (cI, 12, .inl (fun _ => 0))), (q13, .inl (cZ, 12, .inl (fun _ => 0))), (q14, .inl (cI, 12, .inl (fun _ => 0))), (q15, .inl (cI, 120, .inl (fun _ => 0)))]) H := hP
  have hD : va_D A ([(a, .inr (6, [.ref q1, .ref q2, .int 0, .ref q3, .ref q4, .ref q5, .ref q6, .int 0, .ref q7, .ref q8, .int 0, .ref q9, .ref q10, .ref q11, .ref q12, .ref q13, .ref q14, .ref q15, .int 0, .int 0, .int 0, .null])), (q1, .inl (cI, 56, .inl (fun _ => 0))), (q2, .inl (cI, 280, .inl (fun _ => 0))), (q3, .inl (cI, 3, .inl (fun _ => 0))), (q4, .inl (cI, 3, .inl (fun _ => 0))), (q5, .inl (cI, 12, .inl (fun _ => 0))), (q6, .inl (cI, 12, .inl (fun _ => 0))), (q7, .inl (cI, 13, .inl (fun _ => 0))), (q8, .inl (cI, 4, .inl (fun _ => 0))), (q9, .inl (cZ, 10000, .inl (fun _ => 0))), (q10, .inl (cI, 4, .inl (fun _ => 0))), (q11, .inl (cZ, 125, .inl (fun _ => 0))), (q12, .inl (cI, 12, .inl (fun _ => 0))), (q13, .inl (cZ, 12, .inl (fun _ => 0))), (q14, .inl (cI, 12, .inl (fun _ => 0))), (q15, .inl (cI, 120, .inl (fun _ => 0)))]) := hD
  refine lv_aload_n hx hb dX9_init_122 rfl (lv_at hl 0 rfl) ?_
  refine lv_iconst (v := 3) hx hb dX9_init_123 (by decide) ?_
  refine va_newa (atype := .int) (ty := .int) (a0 := (3, .inl (fun _ => 0))) (N' := 3) hx hb (hts (.arrayClass .int) (by decide +kernel)) rfl hK hP hD hS hA (fun _ => rfl) (by decide) (by decide) (by decide) (Nat.le_of_ble_eq_true rfl) (Nat.le_of_ble_eq_true rfl) dX9_init_124 (fun q16 cA H hK2 hP hD hS => ?_)
  obtain rfl : cI = cA := (ka_same 1 rfl (fun _ h => h) hK2).symm
  have hP : va_P D vwCl ([(a, .inr (6, [.ref q1, .ref q2, .int 0, .ref q3, .ref q4, .ref q5, .ref q6, .int 0, .ref q7, .ref q8, .int 0, .ref q9, .ref q10, .ref q11, .ref q12, .ref q13, .ref q14, .ref q15, .int 0, .int 0, .int 0, .null])), (q1, .inl (cI, 56, .inl (fun _ => 0))), (q2, .inl (cI, 280, .inl (fun _ => 0))), (q3, .inl (cI, 3, .inl (fun _ => 0))), (q4, .inl (cI, 3, .inl (fun _ => 0))), (q5, .inl (cI, 12, .inl (fun _ => 0))), (q6, .inl (cI, 12, .inl (fun _ => 0))), (q7, .inl (cI, 13, .inl (fun _ => 0))), (q8, .inl (cI, 4, .inl (fun _ => 0))), (q9, .inl (cZ, 10000, .inl (fun _ => 0))), (q10, .inl (cI, 4, .inl (fun _ => 0))), (q11, .inl (cZ, 125, .inl (fun _ => 0))), (q12, .inl (cI, 12, .inl (fun _ => 0))), (q13, .inl (cZ, 12, .inl (fun _ => 0))), (q14, .inl (cI, 12, .inl (fun _ => 0))), (q15, .inl (cI, 120, .inl (fun _ => 0))), (q16, .inl (cI, 3, .inl (fun _ => 0)))]) H := hP
  have hD : va_D A ([(a, .inr (6, [.ref q1, .ref q2, .int 0, .ref q3, .ref q4, .ref q5, .ref q6, .int 0, .ref q7, .ref q8, .int 0, .ref q9, .ref q10, .ref q11, .ref q12, .ref q13, .ref q14, .ref q15, .int 0, .int 0, .int 0, .null])), (q1, .inl (cI, 56, .inl (fun _ => 0))), (q2, .inl (cI, 280, .inl (fun _ => 0))), (q3, .inl (cI, 3, .inl (fun _ => 0))), (q4, .inl (cI, 3, .inl (fun _ => 0))), (q5, .inl (cI, 12, .inl (fun _ => 0))), (q6, .inl (cI, 12, .inl (fun _ => 0))), (q7, .inl (cI, 13, .inl (fun _ => 0))), (q8, .inl (cI, 4, .inl (fun _ => 0))), (q9, .inl (cZ, 10000, .inl (fun _ => 0))), (q10, .inl (cI, 4, .inl (fun _ => 0))), (q11, .inl (cZ, 125, .inl (fun _ => 0))), (q12, .inl (cI, 12, .inl (fun _ => 0))), (q13, .inl (cZ, 12, .inl (fun _ => 0))), (q14, .inl (cI, 12, .inl (fun _ => 0))), (q15, .inl (cI, 120, .inl (fun _ => 0))), (q16, .inl (cI, 3, .inl (fun _ => 0)))]) := hD
  refine W.widen (k := 16) (n := 10671) (Nat.le_of_ble_eq_true rfl) (Nat.le_of_ble_eq_true rfl) ?_
  refine va_putF (D := D) (cl := vwCl) (ci := 6) (v := .ref q16) (ty := tyX9 21) (C := RX9) (T := TX9) (N := 22) hx hb hts hin9 tyX9 tyX9_ok nmX9 hown hK hP hD hS 0 rfl rfl 21 (by decide) (hts (.fieldLink RX9 56 "StepOrdersModel" "counted" "[I") (by decide +kernel)) (fun _ h9 => h9) rfl hin rfl (tyX9_ok 21 (by decide)) rfl rfl (Nat.le_of_ble_eq_true rfl) dX9_init_126 (fun H locs hP hD hS => ?_)
  have hP : va_P D vwCl ([(a, .inr (6, [.ref q1, .ref q2, .int 0, .ref q3, .ref q4, .ref q5, .ref q6, .int 0, .ref q7, .ref q8, .int 0, .ref q9, .ref q10, .ref q11, .ref q12, .ref q13, .ref q14, .ref q15, .int 0, .int 0, .int 0, .ref q16])), (q1, .inl (cI, 56, .inl (fun _ => 0))), (q2, .inl (cI, 280, .inl (fun _ => 0))), (q3, .inl (cI, 3, .inl (fun _ => 0))), (q4, .inl (cI, 3, .inl (fun _ => 0))), (q5, .inl (cI, 12, .inl (fun _ => 0))), (q6, .inl (cI, 12, .inl (fun _ => 0))), (q7, .inl (cI, 13, .inl (fun _ => 0))), (q8, .inl (cI, 4, .inl (fun _ => 0))), (q9, .inl (cZ, 10000, .inl (fun _ => 0))), (q10, .inl (cI, 4, .inl (fun _ => 0))), (q11, .inl (cZ, 125, .inl (fun _ => 0))), (q12, .inl (cI, 12, .inl (fun _ => 0))), (q13, .inl (cZ, 12, .inl (fun _ => 0))), (q14, .inl (cI, 12, .inl (fun _ => 0))), (q15, .inl (cI, 120, .inl (fun _ => 0))), (q16, .inl (cI, 3, .inl (fun _ => 0)))]) H := hP
  have hD : va_D A ([(a, .inr (6, [.ref q1, .ref q2, .int 0, .ref q3, .ref q4, .ref q5, .ref q6, .int 0, .ref q7, .ref q8, .int 0, .ref q9, .ref q10, .ref q11, .ref q12, .ref q13, .ref q14, .ref q15, .int 0, .int 0, .int 0, .ref q16])), (q1, .inl (cI, 56, .inl (fun _ => 0))), (q2, .inl (cI, 280, .inl (fun _ => 0))), (q3, .inl (cI, 3, .inl (fun _ => 0))), (q4, .inl (cI, 3, .inl (fun _ => 0))), (q5, .inl (cI, 12, .inl (fun _ => 0))), (q6, .inl (cI, 12, .inl (fun _ => 0))), (q7, .inl (cI, 13, .inl (fun _ => 0))), (q8, .inl (cI, 4, .inl (fun _ => 0))), (q9, .inl (cZ, 10000, .inl (fun _ => 0))), (q10, .inl (cI, 4, .inl (fun _ => 0))), (q11, .inl (cZ, 125, .inl (fun _ => 0))), (q12, .inl (cI, 12, .inl (fun _ => 0))), (q13, .inl (cZ, 12, .inl (fun _ => 0))), (q14, .inl (cI, 12, .inl (fun _ => 0))), (q15, .inl (cI, 120, .inl (fun _ => 0))), (q16, .inl (cI, 3, .inl (fun _ => 0)))]) := hD
  refine lv_aload_n hx hb dX9_init_129 rfl (lv_at hl 0 rfl) ?_
  refine va_get (D := D) (cl := vwCl) (ci := 6) (v := .ref q1) (C := RX9) (T := TX9) (N := 22) hx hb hts hin9 hown hK hP 0 rfl rfl 0 (by decide) (hts (.fieldLink RX9 7 "StepOrdersModel" "all" "[I") (by decide +kernel)) (fun _ h9 => h9) rfl dX9_init_130 ?_
  refine lv_bipush (v := 43) hx hb dX9_init_133 (by decide) ?_
  refine lv_iconst (v := 0) hx hb dX9_init_135 (by decide) ?_
  refine va_iast (D := D) (cl := vwCl) hx hb hK hP hD hS 1 1 rfl rfl (show ¬ (_ ∨ _) from by decide) dX9_init_136 (fun H locs hP hD hS => ?_)
  have hP : va_P D vwCl ([(a, .inr (6, [.ref q1, .ref q2, .int 0, .ref q3, .ref q4, .ref q5, .ref q6, .int 0, .ref q7, .ref q8, .int 0, .ref q9, .ref q10, .ref q11, .ref q12, .ref q13, .ref q14, .ref q15, .int 0, .int 0, .int 0, .ref q16])), (q1, .inl (cI, 56, .inl (upd (fun _ => 0) 43 0))), (q2, .inl (cI, 280, .inl (fun _ => 0))), (q3, .inl (cI, 3, .inl (fun _ => 0))), (q4, .inl (cI, 3, .inl (fun _ => 0))), (q5, .inl (cI, 12, .inl (fun _ => 0))), (q6, .inl (cI, 12, .inl (fun _ => 0))), (q7, .inl (cI, 13, .inl (fun _ => 0))), (q8, .inl (cI, 4, .inl (fun _ => 0))), (q9, .inl (cZ, 10000, .inl (fun _ => 0))), (q10, .inl (cI, 4, .inl (fun _ => 0))), (q11, .inl (cZ, 125, .inl (fun _ => 0))), (q12, .inl (cI, 12, .inl (fun _ => 0))), (q13, .inl (cZ, 12, .inl (fun _ => 0))), (q14, .inl (cI, 12, .inl (fun _ => 0))), (q15, .inl (cI, 120, .inl (fun _ => 0))), (q16, .inl (cI, 3, .inl (fun _ => 0)))]) H := hP
  have hD : va_D A ([(a, .inr (6, [.ref q1, .ref q2, .int 0, .ref q3, .ref q4, .ref q5, .ref q6, .int 0, .ref q7, .ref q8, .int 0, .ref q9, .ref q10, .ref q11, .ref q12, .ref q13, .ref q14, .ref q15, .int 0, .int 0, .int 0, .ref q16])), (q1, .inl (cI, 56, .inl (upd (fun _ => 0) 43 0))), (q2, .inl (cI, 280, .inl (fun _ => 0))), (q3, .inl (cI, 3, .inl (fun _ => 0))), (q4, .inl (cI, 3, .inl (fun _ => 0))), (q5, .inl (cI, 12, .inl (fun _ => 0))), (q6, .inl (cI, 12, .inl (fun _ => 0))), (q7, .inl (cI, 13, .inl (fun _ => 0))), (q8, .inl (cI, 4, .inl (fun _ => 0))), (q9, .inl (cZ, 10000, .inl (fun _ => 0))), (q10, .inl (cI, 4, .inl (fun _ => 0))), (q11, .inl (cZ, 125, .inl (fun _ => 0))), (q12, .inl (cI, 12, .inl (fun _ => 0))), (q13, .inl (cZ, 12, .inl (fun _ => 0))), (q14, .inl (cI, 12, .inl (fun _ => 0))), (q15, .inl (cI, 120, .inl (fun _ => 0))), (q16, .inl (cI, 3, .inl (fun _ => 0)))]) := hD
  refine hend (fun k => match k with
    | 0 => a
    | 1 => q1
    | 2 => q2
    | 3 => q3
    | 4 => q4
    | 5 => q5
    | 6 => q6
    | 7 => q7
    | 8 => q8
    | 9 => q9
    | 10 => q10
    | 11 => q11
    | 12 => q12
    | 13 => q13
    | 14 => q14
    | 15 => q15
    | _ => q16) H _ ls 137 rfl (hP.sub [0, 1, 2, 3, 4, 5, 6, 7, 8, 9, 10, 11, 12, 13, 14, 15, 16] rfl) (hD.sub [0, 1, 2, 3, 4, 5, 6, 7, 8, 9, 10, 11, 12, 13, 14, 15, 16] (by decide) rfl) hS dX9_init_137
