/-! worlds of the classes, and the glue between the kit's rows and the pure functions -/
abbrev sT : Type := (Nat → Int32) × (Nat → Int32) × Int64 × Int64 × Int32
def ka_tys (cB cI cZ cO : ClassId) : List (ClassId × FieldType) := [(cB, .byte), (cI, .int), (cZ, .boolean), (cO, .object RX5)]
def wdS (cI : ClassId) (h : Nat → Nat) (o : Nat) (u : sT) : va_W := [(h o, .inr (3, [.ref (h (o + 1)), .ref (h (o + 2)), .long u.2.2.1, .long u.2.2.2.1, .int u.2.2.2.2])), (h (o + 1), .inl (cI, 12, .inl u.1)), (h (o + 2), .inl (cI, 3, .inl u.2.1))]
def wdA (cI cZ : ClassId) (h : Nat → Nat) (o : Nat) (threads : sT) (rows ended : Nat → Int32) (known inAll count still wrong unlike : Int32) : va_W := [(h o, .inr (0, [.ref (h (o + 3)), .ref (h (o + 1)), .ref (h (o + 2)), .int known, .int inAll, .int count, .int still, .int wrong, .int unlike])), (h (o + 1), .inl (cI, 34650, .inl rows)), (h (o + 2), .inl (cZ, 10000, .inl ended))] ++ wdS cI h (o + 3) threads
def wdG (cZ : ClassId) (h : Nat → Nat) (o : Nat) (reached : Nat → Int32) : va_W := [(h o, .inr (1, [.ref (h (o + 1))])), (h (o + 1), .inl (cZ, 125, .inl reached))]
def wdT (cB : ClassId) (h : Nat → Nat) (o : Nat) (bytes : Nat → Int32) (len place thread kind target value : Int32) : va_W := [(h o, .inr (4, [.ref (h (o + 1)), .int len, .int place, .int thread, .int kind, .int target, .int value])), (h (o + 1), .inl (cB, 120, .inl bytes))]
def ka_kept (h : Nat → Nat) (o : Nat) : Nat → Option Nat := fun k => match k with
  | 0 => some (h (o + 2))
  | 1 => some (h (o + 5))
  | 2 => some (h (o + 8))
  | 3 => some (h (o + 11))
  | _ => some (h (o + 14))
def wdP (cI cO : ClassId) (h : Nat → Nat) (o : Nat) (kept : Nat → sT) (oldest size : Int32) : va_W := [(h o, .inr (2, [.ref (h (o + 1)), .int oldest, .int size])), (h (o + 1), .inl (cO, 5, .inr (.inr (.inr (.inr (ka_kept h o))))))] ++ (wdS cI h (o + 2) (kept 0) ++ (wdS cI h (o + 5) (kept 1) ++ (wdS cI h (o + 8) (kept 2) ++ (wdS cI h (o + 11) (kept 3) ++ wdS cI h (o + 14) (kept 4)))))
def wdO (cB cI cZ cO : ClassId) (h : Nat → Nat) (now tried : sT) (kept : Nat → sT) (oldest size : Int32) (threads : sT) (rows ended : Nat → Int32) (known inAll count still wrong unlike : Int32) (reached bytes : Nat → Int32) (len place thread kind target value rb rn rf : Int32) : va_W := [(h 0, .inr (5, [.ref (h 1), .ref (h 4), .ref (h 7), .ref (h 24), .ref (h 30), .ref (h 32), .int rb, .int rn, .int rf]))] ++ (wdS cI h 1 now ++ (wdS cI h 4 tried ++ (wdP cI cO h 7 kept oldest size ++ (wdA cI cZ h 24 threads rows ended known inAll count still wrong unlike ++ (wdG cZ h 30 reached ++ wdT cB h 32 bytes len place thread kind target value)))))
def wdM (cI cZ : ClassId) (h : Nat → Nat) (all past : Nat → Int32) (states : Int32) (refused far row stepAt : Nat → Int32) (depth : Int32) (tries values : Nat → Int32) (wrong : Int32) (isEnd found reached stepIn laid firstRow text : Nat → Int32) (textLong spot taken : Int32) (counted : Nat → Int32) : va_W := [(h 0, .inr (6, [.ref (h 1), .ref (h 2), .int states, .ref (h 3), .ref (h 4), .ref (h 5), .ref (h 6), .int depth, .ref (h 7), .ref (h 8), .int wrong, .ref (h 9), .ref (h 10), .ref (h 11), .ref (h 12), .ref (h 13), .ref (h 14), .ref (h 15), .int textLong, .int spot, .int taken, .ref (h 16)])), (h 1, .inl (cI, 56, .inl all)), (h 2, .inl (cI, 280, .inl past)), (h 3, .inl (cI, 3, .inl refused)), (h 4, .inl (cI, 3, .inl far)), (h 5, .inl (cI, 12, .inl row)), (h 6, .inl (cI, 12, .inl stepAt)), (h 7, .inl (cI, 13, .inl tries)), (h 8, .inl (cI, 4, .inl values)), (h 9, .inl (cZ, 10000, .inl isEnd)), (h 10, .inl (cI, 4, .inl found)), (h 11, .inl (cZ, 125, .inl reached)), (h 12, .inl (cI, 12, .inl stepIn)), (h 13, .inl (cZ, 12, .inl laid)), (h 14, .inl (cI, 12, .inl firstRow)), (h 15, .inl (cI, 120, .inl text)), (h 16, .inl (cI, 3, .inl counted))]
/-! nest links: private methods of the outer class, private constructors -/
def kb_N (U : State) : Prop := va_Nw (.methodLinkNest RX0 40 yX8_below RX8) U ∧ va_Nw (.methodLinkNest RX1 29 yX8_below RX8) U ∧ va_Nw (.methodLinkNest RX5 39 yX8_below RX8) U ∧ va_Nw (.methodLinkNest RX6 9 yX8_below RX8) U ∧ va_Nw (.methodLinkNest RX7 48 yX8_below RX8) U ∧ va_Nw (.methodLinkNest RX8 11 yX5_init RX8) U ∧ va_Nw (.methodLinkNest RX8 28 yX0_init RX8) U ∧ va_Nw (.methodLinkNest RX8 35 yX1_init RX8) U ∧ va_Nw (.methodLinkNest RX8 42 yX7_init RX8) U ∧ va_Nw (.methodLinkNest RX0 11 yX5_init RX8) U ∧ va_Nw (.methodLinkNest RX3 17 yX5_init RX8) U
theorem kb_N_warm {u U : State} (hW : u.WarmedH U.vm) (h : kb_N u) : kb_N U := by
  obtain ⟨h0, h1, h2, h3, h4, h5, h6, h7, h8, h9, h10⟩ := h
  exact ⟨h0.warmM hW, h1.warmM hW, h2.warmM hW, h3.warmM hW, h4.warmM hW, h5.warmM hW, h6.warmM hW, h7.warmM hW, h8.warmM hW, h9.warmM hW, h10.warmM hW⟩
theorem kb_N_vm {u U : State} (hv : u.vm = U.vm) (h : kb_N u) : kb_N U := by
  obtain ⟨h0, h1, h2, h3, h4, h5, h6, h7, h8, h9, h10⟩ := h
  exact ⟨h0.same rfl hv, h1.same rfl hv, h2.same rfl hv, h3.same rfl hv, h4.same rfl hv, h5.same rfl hv, h6.same rfl hv, h7.same rfl hv, h8.same rfl hv, h9.same rfl hv, h10.same rfl hv⟩
/-! a method's start -/
def kb_B (D : va_G) (tys : List (ClassId × FieldType)) (sz : Nat) (w : va_W) (U : State) : Prop := U.heap.size = sz ∧ va_P D vwCl w U.heap ∧ va_K D vwCl tys U ∧ kb_N U ∧ va_D (fun _ => True) w
theorem kb_blind {D : va_G} {tys : List (ClassId × FieldType)} {sz : Nat} {w : va_W} {av : List Value} : FrameBlind (va_Pc av (kb_B D tys sz w)) := fun a U g mk q => by
  obtain ⟨q0, q1, qP, qK, qN, qD⟩ := q
  exact ⟨q0, q1, qP, va_K.moved (u := U) (U := U.calling g mk a) (Vm.Alike.refl U.vm) qK, kb_N_vm (u := U) (U := U.calling g mk a) rfl qN, qD⟩
theorem kb_pre {D : va_G} {tys : List (ClassId × FieldType)} {A : Nat → Prop} {w : va_W} {H : Heap} {s : State} {av : List Value} (hP : va_P D vwCl w H) (hD : va_D A w) (hK : va_K D vwCl tys s) (hN : kb_N s) : ∀ U : State, U.heap = H → s.WarmedH U.vm → va_Pc av (kb_B D tys H.size w) av.toArray U :=
  fun U hU hW => ⟨rfl, by rw [hU], by rw [hU]; exact hP, va_K.moved hW.alike hK, kb_N_warm hW hN, hD.weaken (fun _ _ _ _ => trivial)⟩
/-! the pure side's partial operations -/
def kFUEL : Nat := 1000000000
def ku_ishr (x y : Int32) : Int32 := (x.toUInt32 >>> (y.toUInt32 &&& Int32.toUInt32 31)).toInt32
def ku_lshr (x : Int64) (y : Int32) : Int64 := (x.toUInt64 >>> (y.toInt64.toUInt64 &&& Int64.toUInt64 63)).toInt64
def ard (f : Nat → Int32) (n : Nat) (i : Int32) : Option Int32 := if i < 0 ∨ n ≤ i.toNatClampNeg then none else some (f i.toNatClampNeg)
def awr (f : Nat → Int32) (n : Nat) (i x : Int32) : Option (Nat → Int32) := if i < 0 ∨ n ≤ i.toNatClampNeg then none else some (upd f i.toNatClampNeg x)
theorem ard_in {f : Nat → Int32} {n : Nat} {i v : Int32} (h : ard f n i = some v) : vp_in i n := by
  intro hc
  unfold ard at h
  rw [if_pos hc] at h
  cases h
theorem ard_v {f : Nat → Int32} {n : Nat} {i v : Int32} (h : ard f n i = some v) : f i.toNatClampNeg = v := by
  unfold ard at h
  rw [if_neg (ard_in h)] at h
  exact Option.some.inj h
theorem awr_in {f g : Nat → Int32} {n : Nat} {i x : Int32} (h : awr f n i x = some g) : vp_in i n := by
  intro hc
  unfold awr at h
  rw [if_pos hc] at h
  cases h
theorem awr_v {f g : Nat → Int32} {n : Nat} {i x : Int32} (h : awr f n i x = some g) : upd f i.toNatClampNeg x = g := by
  unfold awr at h
  rw [if_neg (awr_in h)] at h
  exact Option.some.inj h
def kDEEP : Nat := 16
def updS (f : Nat → sT) (k : Nat) (x : sT) : Nat → sT := fun j => if j = k then x else f j
def aidx (n : Nat) (i : Int32) : Option Nat := if i < 0 ∨ n ≤ i.toNatClampNeg then none else some i.toNatClampNeg
theorem aidx_in {n j : Nat} {i : Int32} (h : aidx n i = some j) : vp_in i n := by
  intro hc
  unfold aidx at h
  rw [if_pos hc] at h
  cases h
theorem aidx_v {n j : Nat} {i : Int32} (h : aidx n i = some j) : i.toNatClampNeg = j := by
  unfold aidx at h
  rw [if_neg (aidx_in h)] at h
  exact Option.some.inj h
theorem aidx_lt {n j : Nat} {i : Int32} (h : aidx n i = some j) : j < n := by
  have h1 := aidx_in h
  have h2 := aidx_v h
  subst h2
  exact Nat.not_le.mp fun q => h1 (Or.inr q)
theorem kb_bind {α β : Type} {P : Prop} {o : Option α} {f : α → Option β} {b : β} (h : o.bind f = some b) (k : ∀ a : α, o = some a → f a = some b → P) : P := by
  cases o with
  | none => cases h
  | some a => exact k a rfl h
section KROWS
variable {p : Program} {l : Launch} {e : Env} {R : Room} {s : State} {m : MethodId} {args : Array Value} {below : List Frame} {meth : Method} {c : Code} {H : Heap} {locs : List Loc} {cells slots : Nat} {Q : State → Prop}
variable {cc : ByteArray} {pc : Nat} {ls : Array Slot} {rest : List Value} {D : va_G} {cl : List vw_C} {A : Nat → Prop} {a : Nat} {tys : List (ClassId × FieldType)} {ws : va_W} {H0 : Heap}
theorem ka_iald (hexec : p.tables.exec = Jvm.exec) (hb : c.code = cc) (hK : va_K D cl tys s) (hP : va_P D cl ws H) (q0 t0 : Nat) {cA : ClassId} {n : Nat} {f : Nat → Int32} (ha : ws[q0]? = some (a, .inl (cA, n, .inl f))) (ht : tys[t0]? = some (cA, .int)) {i v : Int32} (hin : vp_in i n) (hv : f i.toNatClampNeg = v) (hdg : decode cc pc = .ok (.iaload, 1))
    (kk : W p l e R s m args below meth c H locs cells slots Q (F0 m (pc + 1) ls (.int v :: rest))) : W p l e R s m args below meth c H locs cells slots Q (F0 m pc ls (.int i :: .ref a :: rest)) := by
  subst hv
  exact va_iald hexec hb hK hP q0 t0 ha ht hin hdg kk
theorem ka_zald (hexec : p.tables.exec = Jvm.exec) (hb : c.code = cc) (hK : va_K D cl tys s) (hP : va_P D cl ws H) (q0 t0 : Nat) {cA : ClassId} {n : Nat} {f : Nat → Int32} (ha : ws[q0]? = some (a, .inl (cA, n, .inl f))) (ht : tys[t0]? = some (cA, .boolean)) {i v : Int32} (hin : vp_in i n) (hv : f i.toNatClampNeg = v) (hdg : decode cc pc = .ok (.baload, 1))
    (kk : W p l e R s m args below meth c H locs cells slots Q (F0 m (pc + 1) ls (.int v :: rest))) : W p l e R s m args below meth c H locs cells slots Q (F0 m pc ls (.int i :: .ref a :: rest)) := by
  subst hv
  exact va_zald hexec hb hK hP q0 t0 ha ht hin hdg kk
theorem ka_bald (hexec : p.tables.exec = Jvm.exec) (hb : c.code = cc) (hK : va_K D cl tys s) (hP : va_P D cl ws H) (q0 t0 : Nat) {cA : ClassId} {n : Nat} {f : Nat → Int32} (ha : ws[q0]? = some (a, .inl (cA, n, .inl f))) (ht : tys[t0]? = some (cA, .byte)) {i v : Int32} (hin : vp_in i n) (hv : f i.toNatClampNeg = v) (hdg : decode cc pc = .ok (.baload, 1))
    (kk : W p l e R s m args below meth c H locs cells slots Q (F0 m (pc + 1) ls (.int v :: rest))) : W p l e R s m args below meth c H locs cells slots Q (F0 m pc ls (.int i :: .ref a :: rest)) := by
  subst hv
  exact va_bald hexec hb hK hP q0 t0 ha ht hin hdg kk
theorem ka_iast (hexec : p.tables.exec = Jvm.exec) (hb : c.code = cc) (hK : va_K D cl tys s) (hP : va_P D cl ws H) (hD : va_D A ws) (hS : va_S A H0 H locs) (q0 t0 : Nat) {cA : ClassId} {n : Nat} {f g : Nat → Int32} (ha : ws[q0]? = some (a, .inl (cA, n, .inl f))) (ht : tys[t0]? = some (cA, .int)) {i x : Int32} (hin : vp_in i n) (hg : upd f i.toNatClampNeg x = g) (hdg : decode cc pc = .ok (.iastore, 1))
    (kk : ∀ (H1 : Heap) (locs1 : List Loc), va_P D cl (ws.set q0 (a, .inl (cA, n, .inl g))) H1 → va_D A (ws.set q0 (a, .inl (cA, n, .inl g))) → va_S A H0 H1 locs1 → W p l e R s m args below meth c H1 locs1 cells slots Q (F0 m (pc + 1) ls rest)) : W p l e R s m args below meth c H locs cells slots Q (F0 m pc ls (.int x :: .int i :: .ref a :: rest)) := by
  subst hg
  exact va_iast hexec hb hK hP hD hS q0 t0 ha ht hin hdg kk
theorem ka_zast (hexec : p.tables.exec = Jvm.exec) (hb : c.code = cc) (hK : va_K D cl tys s) (hP : va_P D cl ws H) (hD : va_D A ws) (hS : va_S A H0 H locs) (q0 t0 : Nat) {cA : ClassId} {n : Nat} {f g : Nat → Int32} (ha : ws[q0]? = some (a, .inl (cA, n, .inl f))) (ht : tys[t0]? = some (cA, .boolean)) {i x : Int32} (hin : vp_in i n) (hg : upd f i.toNatClampNeg (vp_nar .boolean x) = g) (hdg : decode cc pc = .ok (.bastore, 1))
    (kk : ∀ (H1 : Heap) (locs1 : List Loc), va_P D cl (ws.set q0 (a, .inl (cA, n, .inl g))) H1 → va_D A (ws.set q0 (a, .inl (cA, n, .inl g))) → va_S A H0 H1 locs1 → W p l e R s m args below meth c H1 locs1 cells slots Q (F0 m (pc + 1) ls rest)) : W p l e R s m args below meth c H locs cells slots Q (F0 m pc ls (.int x :: .int i :: .ref a :: rest)) := by
  subst hg
  exact va_zast hexec hb hK hP hD hS q0 t0 ha ht hin hdg kk
theorem ka_bast (hexec : p.tables.exec = Jvm.exec) (hb : c.code = cc) (hK : va_K D cl tys s) (hP : va_P D cl ws H) (hD : va_D A ws) (hS : va_S A H0 H locs) (q0 t0 : Nat) {cA : ClassId} {n : Nat} {f g : Nat → Int32} (ha : ws[q0]? = some (a, .inl (cA, n, .inl f))) (ht : tys[t0]? = some (cA, .byte)) {i x : Int32} (hin : vp_in i n) (hg : upd f i.toNatClampNeg (vp_nar .byte x) = g) (hdg : decode cc pc = .ok (.bastore, 1))
    (kk : ∀ (H1 : Heap) (locs1 : List Loc), va_P D cl (ws.set q0 (a, .inl (cA, n, .inl g))) H1 → va_D A (ws.set q0 (a, .inl (cA, n, .inl g))) → va_S A H0 H1 locs1 → W p l e R s m args below meth c H1 locs1 cells slots Q (F0 m (pc + 1) ls rest)) : W p l e R s m args below meth c H locs cells slots Q (F0 m pc ls (.int x :: .int i :: .ref a :: rest)) := by
  subst hg
  exact va_bast hexec hb hK hP hD hS q0 t0 ha ht hin hdg kk
end KROWS
/-! behind a call -/
theorem kd_same {D : va_G} {cl : List vw_C} {A : Nat → Prop} {ws wc : va_W} {H H1 : Heap} (hP : va_P D cl ws H) (hD : va_D A ws) (isC : List Nat) (hC : isC.map (fun i => ws[i]?) = wc.map some) (hk : ∀ q : Nat, q < H.size → ¬ va_A wc H.size q → H1[q]? = H[q]?) (hP1 : va_P D cl wc H1) : va_P D cl ws H1 := by
  intro k q hq
  have hl := (hP k q hq).lt
  by_cases hv : va_A wc H.size q.1
  · rcases hv with ⟨k2, e, h⟩ | h
    · have h1 : (isC.map (fun i => ws[i]?))[k2]? = some (some (q.1, e)) := by rw [hC, List.getElem?_map, h]; rfl
      rw [List.getElem?_map] at h1
      cases hi : isC[k2]? with
      | none => rw [hi] at h1; cases h1
      | some i =>
        rw [hi] at h1
        have h2 : ws[i]? = some (q.1, e) := Option.some.inj h1
        have hkk := hD.1 k i q (q.1, e) hq h2 rfl
        subst hkk
        rw [hq] at h2
        have h3 := Option.some.inj h2
        rw [h3]
        exact hP1 k2 _ h
    · omega
  · exact (hP k q hq).kept (hk q.1 hl hv)
theorem kd_set {D : va_G} {cl : List vw_C} {A : Nat → Prop} {ws ws' wc w1 : va_W} {H H1 : Heap} (hP : va_P D cl ws H) (hD : va_D A ws) (isC isR : List Nat) (hC : isC.map (fun i => ws[i]?) = wc.map some) (hC1 : isC.map (fun i => ws'[i]?) = w1.map some) (hR : ∀ i ∈ isR, ws'[i]? = ws[i]?) (ha : ws'.map Prod.fst = ws.map Prod.fst) (hcov : (List.range ws.length).all (fun i => isC.contains i || isR.contains i) = true) (hk : ∀ q : Nat, q < H.size → ¬ va_A wc H.size q → H1[q]? = H[q]?) (hP1 : va_P D cl w1 H1) : va_P D cl ws' H1 ∧ va_D A ws' := by
  have hlen : ws'.length = ws.length := by have := congrArg List.length ha; simpa using this
  have haddr : ∀ (k : Nat) (q : Nat × va_E), ws'[k]? = some q → ∃ q0, ws[k]? = some q0 ∧ q0.1 = q.1 := by
    intro k q hq
    have h1 : (ws'.map Prod.fst)[k]? = some q.1 := by rw [List.getElem?_map, hq]; rfl
    rw [ha, List.getElem?_map] at h1
    cases h2 : ws[k]? with
    | none => rw [h2] at h1; cases h1
    | some q0 => rw [h2] at h1; exact ⟨q0, rfl, Option.some.inj h1⟩
  refine ⟨fun k q hq => ?_, fun i j x y hx hy hxy => ?_, fun k q hq => ?_⟩
  · by_cases hkC : k ∈ isC
    · obtain ⟨j, hj⟩ := List.getElem?_of_mem hkC
      have h1 : (isC.map (fun i => ws'[i]?))[j]? = some (some q) := by rw [List.getElem?_map, hj]; exact congrArg some hq
      rw [hC1, List.getElem?_map] at h1
      cases h2 : w1[j]? with
      | none => rw [h2] at h1; cases h1
      | some q1 =>
        rw [h2] at h1
        have h3 : q1 = q := Option.some.inj (Option.some.inj h1)
        subst h3
        exact hP1 j _ h2
    · have hkl : k < ws.length := by rw [← hlen]; exact (List.getElem?_eq_some_iff.mp hq).1
      have h0 := List.all_eq_true.mp hcov k (List.mem_range.mpr hkl)
      have hkR : k ∈ isR := by
        rcases Bool.or_eq_true_iff.mp h0 with h | h
        · exact absurd (List.contains_iff_mem.mp h) hkC
        · exact List.contains_iff_mem.mp h
      have h2 : ws[k]? = some q := (hR k hkR).symm.trans hq
      have hl := (hP k q h2).lt
      refine (hP k q h2).kept (hk q.1 hl ?_)
      rintro (⟨k2, e, h⟩ | h)
      · have h3 : (isC.map (fun i => ws[i]?))[k2]? = some (some (q.1, e)) := by rw [hC, List.getElem?_map, h]; rfl
        rw [List.getElem?_map] at h3
        cases hi : isC[k2]? with
        | none => rw [hi] at h3; cases h3
        | some i =>
          rw [hi] at h3
          have h4 : ws[i]? = some (q.1, e) := Option.some.inj h3
          have hkk := hD.1 k i q (q.1, e) h2 h4 rfl
          subst hkk
          exact hkC (List.mem_of_getElem? hi)
      · omega
  · obtain ⟨x0, h1, h2⟩ := haddr i x hx
    obtain ⟨y0, h3, h4⟩ := haddr j y hy
    exact hD.1 i j x0 y0 h1 h3 (by rw [h2, h4, hxy])
  · obtain ⟨q0, h1, h2⟩ := haddr k q hq
    rw [← h2]
    exact hD.2 k q0 h1
/-- an answer of an int or a boolean -/
def kb_post (ty : FieldType) (r0 : Int32) : Int32 → Unit → Prop := fun r _ => r = r0 ∧ narrow ty (.int r0) = .int r0
section KCALL
variable {p : Program} {l : Launch} {e : Env} {R : Room} {s : State} {m : MethodId} {args : Array Value} {below : List Frame} {meth : Method} {c : Code} {H : Heap} {locs : List Loc} {cells slots : Nat} {Q : State → Prop}
variable {pc : Nat} {ls : Array Slot} {rest st0 : List Value} {a : Array Value} {A : Nat → Prop} {H0 : Heap} {D : va_G} {ws wc : va_W}
theorem kd_iR {r0 : Int32} {ty : FieldType} (hr : va_Run p l e R s m args below meth c H locs cells slots 0 0 (F0 m pc ls st0) rest (va_Qi (kb_post ty r0) (fun _ t => va_P D vwCl wc t.heap) (va_A wc H.size) a) (va_A wc H.size)) (hP : va_P D vwCl ws H) (hD : va_D A ws) (hS : va_S A H0 H locs) (hA : ∀ q, H0.size ≤ q → A q) (isC : List Nat) (hC : isC.map (fun i => ws[i]?) = wc.map some)
    (kk : ∀ (H1 : Heap) (locs1 : List Loc), narrow ty (.int r0) = .int r0 → va_P D vwCl ws H1 → va_S A H0 H1 locs1 → W p l e R s m args below meth c H1 locs1 cells slots Q (F0 m (pc + 3) ls (.int r0 :: rest))) : W p l e R s m args below meth c H locs cells slots Q (F0 m pc ls st0) := by
  have hF := va_free hD hS hA isC hC
  refine va_calli hr hS (fun q _ h => hF q h) hF (fun r u t H1 locs1 ht hvm hw hB hz hk hS1 => ?_)
  obtain ⟨rfl, hn⟩ := hw
  exact kk H1 locs1 hn (kd_same hP hD isC hC hk (by rw [← ht]; exact hB)) hS1
theorem kd_lR {r0 : Int64} (hr : va_Run p l e R s m args below meth c H locs cells slots 0 0 (F0 m pc ls st0) rest (va_Ql (fun r (_ : Unit) => r = r0) (fun _ t => va_P D vwCl wc t.heap) (va_A wc H.size) a) (va_A wc H.size)) (hP : va_P D vwCl ws H) (hD : va_D A ws) (hS : va_S A H0 H locs) (hA : ∀ q, H0.size ≤ q → A q) (isC : List Nat) (hC : isC.map (fun i => ws[i]?) = wc.map some)
    (kk : ∀ (H1 : Heap) (locs1 : List Loc), va_P D vwCl ws H1 → va_S A H0 H1 locs1 → W p l e R s m args below meth c H1 locs1 cells slots Q (F0 m (pc + 3) ls (.long r0 :: rest))) : W p l e R s m args below meth c H locs cells slots Q (F0 m pc ls st0) := by
  have hF := va_free hD hS hA isC hC
  refine va_calll hr hS (fun q _ h => hF q h) hF (fun r u t H1 locs1 ht hvm hw hB hz hk hS1 => ?_)
  subst hw
  exact kk H1 locs1 (kd_same hP hD isC hC hk (by rw [← ht]; exact hB)) hS1
theorem kd_iW {r0 : Int32} {ty : FieldType} {ws' w1 : va_W} (hr : va_Run p l e R s m args below meth c H locs cells slots 0 0 (F0 m pc ls st0) rest (va_Qi (kb_post ty r0) (fun _ t => va_P D vwCl w1 t.heap) (va_A wc H.size) a) (va_A wc H.size)) (hP : va_P D vwCl ws H) (hD : va_D A ws) (hS : va_S A H0 H locs) (hA : ∀ q, H0.size ≤ q → A q) (isC isR : List Nat) (hC : isC.map (fun i => ws[i]?) = wc.map some) (hC1 : isC.map (fun i => ws'[i]?) = w1.map some) (hR : ∀ i ∈ isR, ws'[i]? = ws[i]?) (ha : ws'.map Prod.fst = ws.map Prod.fst) (hcov : (List.range ws.length).all (fun i => isC.contains i || isR.contains i) = true)
    (kk : ∀ (H1 : Heap) (locs1 : List Loc), narrow ty (.int r0) = .int r0 → va_P D vwCl ws' H1 → va_D A ws' → va_S A H0 H1 locs1 → W p l e R s m args below meth c H1 locs1 cells slots Q (F0 m (pc + 3) ls (.int r0 :: rest))) : W p l e R s m args below meth c H locs cells slots Q (F0 m pc ls st0) := by
  have hF := va_free hD hS hA isC hC
  refine va_calli hr hS (fun q _ h => hF q h) hF (fun r u t H1 locs1 ht hvm hw hB hz hk hS1 => ?_)
  obtain ⟨rfl, hn⟩ := hw
  have hj := kd_set hP hD isC isR hC hC1 hR ha hcov hk (by rw [← ht]; exact hB)
  exact kk H1 locs1 hn hj.1 hj.2 hS1
theorem kd_lW {r0 : Int64} {ws' w1 : va_W} (hr : va_Run p l e R s m args below meth c H locs cells slots 0 0 (F0 m pc ls st0) rest (va_Ql (fun r (_ : Unit) => r = r0) (fun _ t => va_P D vwCl w1 t.heap) (va_A wc H.size) a) (va_A wc H.size)) (hP : va_P D vwCl ws H) (hD : va_D A ws) (hS : va_S A H0 H locs) (hA : ∀ q, H0.size ≤ q → A q) (isC isR : List Nat) (hC : isC.map (fun i => ws[i]?) = wc.map some) (hC1 : isC.map (fun i => ws'[i]?) = w1.map some) (hR : ∀ i ∈ isR, ws'[i]? = ws[i]?) (ha : ws'.map Prod.fst = ws.map Prod.fst) (hcov : (List.range ws.length).all (fun i => isC.contains i || isR.contains i) = true)
    (kk : ∀ (H1 : Heap) (locs1 : List Loc), va_P D vwCl ws' H1 → va_D A ws' → va_S A H0 H1 locs1 → W p l e R s m args below meth c H1 locs1 cells slots Q (F0 m (pc + 3) ls (.long r0 :: rest))) : W p l e R s m args below meth c H locs cells slots Q (F0 m pc ls st0) := by
  have hF := va_free hD hS hA isC hC
  refine va_calll hr hS (fun q _ h => hF q h) hF (fun r u t H1 locs1 ht hvm hw hB hz hk hS1 => ?_)
  subst hw
  have hj := kd_set hP hD isC isR hC hC1 hR ha hcov hk (by rw [← ht]; exact hB)
  exact kk H1 locs1 hj.1 hj.2 hS1
theorem kd_vW {ws' w1 : va_W} (hr : va_Run p l e R s m args below meth c H locs cells slots 0 0 (F0 m pc ls st0) rest (va_Qv (fun (_ : Unit) => True) (fun _ t => va_P D vwCl w1 t.heap) (va_A wc H.size) a) (va_A wc H.size)) (hP : va_P D vwCl ws H) (hD : va_D A ws) (hS : va_S A H0 H locs) (hA : ∀ q, H0.size ≤ q → A q) (isC isR : List Nat) (hC : isC.map (fun i => ws[i]?) = wc.map some) (hC1 : isC.map (fun i => ws'[i]?) = w1.map some) (hR : ∀ i ∈ isR, ws'[i]? = ws[i]?) (ha : ws'.map Prod.fst = ws.map Prod.fst) (hcov : (List.range ws.length).all (fun i => isC.contains i || isR.contains i) = true)
    (kk : ∀ (H1 : Heap) (locs1 : List Loc), va_P D vwCl ws' H1 → va_D A ws' → va_S A H0 H1 locs1 → W p l e R s m args below meth c H1 locs1 cells slots Q (F0 m (pc + 3) ls rest)) : W p l e R s m args below meth c H locs cells slots Q (F0 m pc ls st0) := by
  have hF := va_free hD hS hA isC hC
  refine va_callv hr hS (fun q _ h => hF q h) hF (fun u t H1 locs1 ht hvm hw hB hz hk hS1 => ?_)
  have hj := kd_set hP hD isC isR hC hC1 hR ha hcov hk (by rw [← ht]; exact hB)
  exact kk H1 locs1 hj.1 hj.2 hS1
end KCALL
/-! a method's contract out of the walk of its body -/
theorem kb_metZ {l : Launch} {y : MethodName} {ws ws' : List Cond} {rm : Room} {cc : ByteArray} {maxL : Nat} {ty : FieldType} {r0 : Int32} {D : va_G} {tys : List (ClassId × FieldType)} {sz : Nat} {w w1 : va_W} {av : List Value} (hy : plainName y.cls = true) (hw : ws = Cond.code y cc maxL (some ty) :: ws') (hlen : (lg_sl av).length ≤ maxL)
    (body : ∀ (p : Program) (e : Env) (s : State) (m : MethodId) (args : Array Value) (below : List Frame) (meth : Method) (c : Code) (Q : State → Prop) (A : Nat → Prop) (ls : Array Slot) (H : Heap), p.tables.exec = Jvm.exec → c.code = cc → c.maxLocals = maxL → s.vm.findClass y.cls = some m.cls → (∀ w ∈ ws, w.before args s = true) → va_K D vwCl tys s → kb_N s → va_P D vwCl w H → va_D A w → va_S A s.heap H [] → (∀ q, s.heap.size ≤ q → A q) → lv_has ls maxL (lv_args 0 av) →
      (∀ (H : Heap) (locs : List Loc) (ls : Array Slot) (pc : Nat), narrow ty (.int r0) = .int r0 → va_P D vwCl w1 H → va_S A s.heap H locs → decode cc pc = .ok (.ireturn, 1) → W p l e rm s m args below meth c H locs 0 0 Q (F0 m pc ls [.int r0])) → W p l e rm s m args below meth c H [] 0 0 Q (F0 m 0 ls [])) :
    Met l y ws rm (va_Pc av (kb_B D tys sz w)) (va_Qi (kb_post ty r0) (fun _ t => va_P D vwCl w1 t.heap) (va_A w sz)) 0 0 (va_A w sz) := by
  refine Met.ofW (cc := cc) (maxL := maxL) (ret := some ty) hy hw ?_
  intro p e s m args below meth c s₁ B hml hv
  obtain ⟨rfl, hsz, hP, hK, hN, hD0⟩ := hv
  have hlocks := B.notSynchronized
  have hr := B.returns
  subst hsz
  have hl := lv_entry av (n := maxL) hlen
  rw [lg_entry_eq]
  refine body p e s m _ below meth c _ (va_A w s.heap.size) _ s.heap B.exec B.bytes hml (findClass_of_methodNamed B.named) (atoms_spec (ws := ws) B.pre) hK hN hP hD0.self va_S.rf (fun q h => Or.inr h) hl ?_
  intro H locs ls pc hn hP1 hS hdg
  exact W.zret (ty := ty) B.exec B.bytes hr hn (fun t ht hW => ⟨⟨r0, (), rfl, ⟨rfl, hn⟩, by show va_P D vwCl w1 t.heap; rw [ht]; exact hP1⟩, hS.F ht⟩) hS.2.2 hdg
theorem kb_metL {l : Launch} {y : MethodName} {ws ws' : List Cond} {rm : Room} {cc : ByteArray} {maxL : Nat} {r0 : Int64} {D : va_G} {tys : List (ClassId × FieldType)} {sz : Nat} {w w1 : va_W} {av : List Value} (hy : plainName y.cls = true) (hw : ws = Cond.code y cc maxL (some .long) :: ws') (hlen : (lg_sl av).length ≤ maxL)
    (body : ∀ (p : Program) (e : Env) (s : State) (m : MethodId) (args : Array Value) (below : List Frame) (meth : Method) (c : Code) (Q : State → Prop) (A : Nat → Prop) (ls : Array Slot) (H : Heap), p.tables.exec = Jvm.exec → c.code = cc → c.maxLocals = maxL → s.vm.findClass y.cls = some m.cls → (∀ w ∈ ws, w.before args s = true) → va_K D vwCl tys s → kb_N s → va_P D vwCl w H → va_D A w → va_S A s.heap H [] → (∀ q, s.heap.size ≤ q → A q) → lv_has ls maxL (lv_args 0 av) →
      (∀ (H : Heap) (locs : List Loc) (ls : Array Slot) (pc : Nat), va_P D vwCl w1 H → va_S A s.heap H locs → decode cc pc = .ok (.lreturn, 1) → W p l e rm s m args below meth c H locs 0 0 Q (F0 m pc ls [.long r0])) → W p l e rm s m args below meth c H [] 0 0 Q (F0 m 0 ls [])) :
    Met l y ws rm (va_Pc av (kb_B D tys sz w)) (va_Ql (fun r (_ : Unit) => r = r0) (fun _ t => va_P D vwCl w1 t.heap) (va_A w sz)) 0 0 (va_A w sz) := by
  refine Met.ofW (cc := cc) (maxL := maxL) (ret := some .long) hy hw ?_
  intro p e s m args below meth c s₁ B hml hv
  obtain ⟨rfl, hsz, hP, hK, hN, hD0⟩ := hv
  have hlocks := B.notSynchronized
  have hr := B.returns
  subst hsz
  have hl := lv_entry av (n := maxL) hlen
  rw [lg_entry_eq]
  refine body p e s m _ below meth c _ (va_A w s.heap.size) _ s.heap B.exec B.bytes hml (findClass_of_methodNamed B.named) (atoms_spec (ws := ws) B.pre) hK hN hP hD0.self va_S.rf (fun q h => Or.inr h) hl ?_
  intro H locs ls pc hP1 hS hdg
  exact W.lret B.exec B.bytes hr (fun t ht hW => ⟨⟨r0, (), rfl, rfl, by show va_P D vwCl w1 t.heap; rw [ht]; exact hP1⟩, hS.F ht⟩) hS.2.2 hdg
theorem kb_metV {l : Launch} {y : MethodName} {ws ws' : List Cond} {rm : Room} {cc : ByteArray} {maxL : Nat} {D : va_G} {tys : List (ClassId × FieldType)} {sz : Nat} {w w1 : va_W} {av : List Value} (hy : plainName y.cls = true) (hw : ws = Cond.code y cc maxL none :: ws') (hlen : (lg_sl av).length ≤ maxL)
    (body : ∀ (p : Program) (e : Env) (s : State) (m : MethodId) (args : Array Value) (below : List Frame) (meth : Method) (c : Code) (Q : State → Prop) (A : Nat → Prop) (ls : Array Slot) (H : Heap), p.tables.exec = Jvm.exec → c.code = cc → c.maxLocals = maxL → s.vm.findClass y.cls = some m.cls → (∀ w ∈ ws, w.before args s = true) → va_K D vwCl tys s → kb_N s → va_P D vwCl w H → va_D A w → va_S A s.heap H [] → (∀ q, s.heap.size ≤ q → A q) → lv_has ls maxL (lv_args 0 av) →
      (∀ (H : Heap) (locs : List Loc) (ls : Array Slot) (pc : Nat), va_P D vwCl w1 H → va_S A s.heap H locs → decode cc pc = .ok (.return_, 1) → W p l e rm s m args below meth c H locs 0 0 Q (F0 m pc ls [])) → W p l e rm s m args below meth c H [] 0 0 Q (F0 m 0 ls [])) :
    Met l y ws rm (va_Pc av (kb_B D tys sz w)) (va_Qv (fun (_ : Unit) => True) (fun _ t => va_P D vwCl w1 t.heap) (va_A w sz)) 0 0 (va_A w sz) := by
  refine Met.ofW (cc := cc) (maxL := maxL) (ret := none) hy hw ?_
  intro p e s m args below meth c s₁ B hml hv
  obtain ⟨rfl, hsz, hP, hK, hN, hD0⟩ := hv
  have hlocks := B.notSynchronized
  have hr := B.returns
  subst hsz
  have hl := lv_entry av (n := maxL) hlen
  rw [lg_entry_eq]
  refine body p e s m _ below meth c _ (va_A w s.heap.size) _ s.heap B.exec B.bytes hml (findClass_of_methodNamed B.named) (atoms_spec (ws := ws) B.pre) hK hN hP hD0.self va_S.rf (fun q h => Or.inr h) hl ?_
  intro H locs ls pc hP1 hS hdg
  exact W.vret B.exec B.bytes hr (fun t ht hW => ⟨⟨(), rfl, trivial, by show va_P D vwCl w1 t.heap; rw [ht]; exact hP1⟩, hS.F ht⟩) hS.2.2 hdg
