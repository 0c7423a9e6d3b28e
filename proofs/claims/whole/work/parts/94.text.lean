/-! THE TEXT -/
def zTX (A : Nat → Int32) (tx : Nat → Nat) (len : Nat) : Prop := len ≤ 120 ∧ ∀ k, k < len → A k = nI (tx k) ∧ tx k < 128
def zhe (tx : Nat → Nat) : Nat → Nat → Nat
  | 0, k => k
  | d + 1, k => if tx k = 32 then zhe tx d (k + 1) else k
def zho (tx : Nat → Nat) (len k : Nat) : Nat := zhe tx (len - k) k
theorem zhe_ok {tx : Nat → Nat} {len : Nat} : ∀ (d k : Nat), k + d = len → k ≤ zhe tx d k ∧ zhe tx d k ≤ len ∧ (zhe tx d k < len → tx (zhe tx d k) ≠ 32)
  | 0, k, h => ⟨Nat.le_refl _, by show k ≤ len; omega, fun h2 => by have : k < len := h2; omega⟩
  | d + 1, k, h => by
    show k ≤ (if tx k = 32 then zhe tx d (k + 1) else k) ∧ (if tx k = 32 then zhe tx d (k + 1) else k) ≤ len ∧ ((if tx k = 32 then zhe tx d (k + 1) else k) < len → tx (if tx k = 32 then zhe tx d (k + 1) else k) ≠ 32)
    by_cases e : tx k = 32
    · rw [if_pos e]
      obtain ⟨a, b, c⟩ := zhe_ok (tx := tx) (len := len) d (k + 1) (by omega)
      exact ⟨by omega, b, c⟩
    · rw [if_neg e]
      exact ⟨Nat.le_refl _, by omega, fun _ => e⟩
theorem zho_ok {tx : Nat → Nat} {len k : Nat} (h : k ≤ len) : k ≤ zho tx len k ∧ zho tx len k ≤ len ∧ (zho tx len k < len → tx (zho tx len k) ≠ 32) := zhe_ok (len - k) k (by omega)
theorem zho_idem {tx : Nat → Nat} {len k : Nat} (h : k ≤ len) : zho tx len (zho tx len k) = zho tx len k := by
  obtain ⟨a, b, c⟩ := zho_ok (tx := tx) h
  generalize zho tx len k = m at *
  unfold zho
  by_cases e : m < len
  · rw [show len - m = (len - m - 1) + 1 by omega]
    show (if tx m = 32 then _ else m) = m
    rw [if_neg (c e)]
  · rw [show len - m = 0 by omega]
    rfl
def zhv (tx : Nat → Nat) (len h : Nat) : Int32 := if h < len then nI (tx h) else -1
theorem here_ok {A : Nat → Int32} {tx : Nat → Nat} {len : Nat} (hT : zTX A tx len) {k : Nat} (hk : k ≤ len) : f9_here A (nI len) (nI k) = some (zhv tx len (zho tx len k), nI (zho tx len k)) := by
  have hl := hT.1
  have b38 : ∀ h, h ≤ len → f9_here_b38 A (nI len) (nI h) = some (zhv tx len h, nI h) := by
    intro h hh
    unfold f9_here_b38 zhv
    by_cases e : h < len
    · rw [if_neg (nI_ge e (by omega)), if_pos e, ard_ok (by omega) (by omega), ab_bind, (hT.2 h e).1]
    · rw [if_pos (nI_le (by omega) (by omega)), if_neg e]
  have loop : ∀ (d k fuel : Nat), k + d = len → f9_here_l0 (d + fuel + 1) A (nI len) (nI k) = some (zhv tx len (zhe tx d k), nI (zhe tx d k)) := by
    intro d
    induction d with
    | zero =>
      intro k fuel h
      rw [show 0 + fuel + 1 = fuel + 1 by omega, f9_here_l0_s, if_pos (nI_le (by omega) (by omega))]
      exact b38 k (by omega)
    | succ d ih =>
      intro k fuel h
      have hk := hT.2 k (by omega)
      rw [show d + 1 + fuel + 1 = (d + fuel + 1) + 1 by omega, f9_here_l0_s, if_neg (nI_ge (by omega) (by omega)), ard_ok (by omega) (by omega), ab_bind, hk.1, l_32]
      show _ = some (zhv tx len (if tx k = 32 then zhe tx d (k + 1) else k), nI (if tx k = 32 then zhe tx d (k + 1) else k))
      by_cases e : tx k = 32
      · rw [if_pos (by rw [e]), if_pos e, nI_1]
        exact ih (k + 1) fuel (by omega)
      · rw [if_neg (fun q => e ((nI_eq (by omega) (by decide)).mp q)), if_neg e]
        exact b38 k (by omega)
  unfold f9_here
  obtain ⟨fu, hf⟩ := kF (len - k + 1) (by omega)
  have hf2 : kFUEL = (len - k) + fu + 1 := by omega
  rw [hf2]
  exact loop (len - k) k fu (by omega)
/-! the class's loop over the bytes -/
def zCL (A : Nat → Int32) (len F k : Nat) (pl th kd tg vl : Int32) (w : sT) (B : Int32) : Option (Int32 × Int32 × Int32 × Int32 × Int32 × Int32 × sT) := f7_readInto_l12 (len - k + F + 1) A (nI len) pl th kd tg vl w B (nI k)
theorem cls_skip {A : Nat → Int32} {tx : Nat → Nat} {len : Nat} (hT : zTX A tx len) {k : Nat} (hk : k ≤ len) (F : Nat) (pl th kd tg vl : Int32) (w : sT) (B : Int32) : zCL A len F k pl th kd tg vl w B = zCL A len F (zho tx len k) pl th kd tg vl w B := by
  have hl := hT.1
  have loop : ∀ (d k : Nat), k + d = len → zCL A len F k pl th kd tg vl w B = zCL A len F (zhe tx d k) pl th kd tg vl w B := by
    intro d
    induction d with
    | zero => intro k _; rfl
    | succ d ih =>
      intro k h
      have hk := hT.2 k (by omega)
      show _ = zCL A len F (if tx k = 32 then zhe tx d (k + 1) else k) pl th kd tg vl w B
      by_cases e : tx k = 32
      · rw [if_pos e, ← ih (k + 1) (by omega)]
        unfold zCL
        rw [show len - k + F + 1 = (len - (k + 1) + F + 1) + 1 by omega, f7_readInto_l12_s, if_neg (nI_ge (by omega) (by omega)), ard_ok (by omega) (by omega), ab_bind, hk.1, l_32, if_pos (by rw [e])]
        unfold f7_readInto_b47
        rw [nI_1]
      · rw [if_neg e]
  exact loop (len - k) k (by omega)
theorem cls_take {A : Nat → Int32} {tx : Nat → Nat} {len : Nat} (hT : zTX A tx len) {h : Nat} (hh : h < len) (hb : tx h ≠ 32) (F : Nat) (pl th kd tg vl : Int32) (w : sT) (B : Int32) : zCL A len F h pl th kd tg vl w B = (f7_takes pl th kd tg vl w (nI (tx h))).bind fun q => if q.1 = 0 then some (nI h, q.2.1, q.2.2.1, q.2.2.2.1, q.2.2.2.2.1, q.2.2.2.2.2.1, q.2.2.2.2.2.2) else zCL A len F (h + 1) q.2.1 q.2.2.1 q.2.2.2.1 q.2.2.2.2.1 q.2.2.2.2.2.1 q.2.2.2.2.2.2 B := by
  have hl := hT.1
  have hk := hT.2 h hh
  unfold zCL
  rw [show len - h + F + 1 = (len - (h + 1) + F + 1) + 1 by omega, f7_readInto_l12_s, if_neg (nI_ge hh (by omega)), ard_ok (by omega) (by omega), ab_bind, hk.1, l_32, if_neg (fun q => hb ((nI_eq (by omega) (by decide)).mp q)), ab_bind]
  unfold f7_readInto_b45 f7_readInto_b47
  rw [nI_1]
theorem cls_end {A : Nat → Int32} {len : Nat} {pl : Int32} (hp : ¬ pl = 0) (hl : len ≤ 120) (F : Nat) (th kd tg vl : Int32) (w : sT) (B : Int32) : zCL A len F len pl th kd tg vl w B = some (nI len, pl, th, kd, tg, vl, w) := by
  unfold zCL
  rw [f7_readInto_l12_s, if_pos (nI_le (Nat.le_refl _) (by omega))]
  unfold f7_readInto_b53 f7_readInto_b72
  rw [if_neg hp]
/-! what comes of one step of THE TEXT: a step and the place behind it, or the FAULT -/
def zM (r : Option (Int32 × (Nat → Int32) × Int32 × Int32 × (Nat → Int32))) (o : Option (Nat × Nat × Nat × Nat)) (e : Nat) (c : Nat → Nat) (all counted : Nat → Int32) (flag : Int32) : Prop :=
  match o with
  | none => ∃ z, r = some z ∧ z.1 = 0 ∧ z.2.1 = all ∧ z.2.2.1 = nI e
  | some (t, s, x, v) => ∃ tk, r = if flag = 0 then some (1, all, nI e, tk, upd counted t (nI (c t + 1))) else (f9_lays all (nI t) (nI s) (nI x) (nI v)).bind fun q => some (1, q, nI e, tk, upd counted t (nI (c t + 1)))
def zC (r : Option (Int32 × Int32 × Int32 × Int32 × Int32 × Int32 × sT)) (o : Option (Nat × Nat × Nat × Nat)) (e : Nat) (A : Nat → Int32) (len F : Nat) (w : sT) (B : Int32) : Prop :=
  match o with
  | none => ∃ z, r = some z ∧ z.1 = nI e
  | some (t, s, x, v) => ∃ th kd tg vl, r = (f5_addStep w (nI t) (nI (pkS s x v))).bind fun w' => zCL A len F e 0 th kd tg vl w' B
def zG (o : Option (Nat × Nat × Nat × Nat)) (c : Nat → Nat) : Prop :=
  match o with
  | none => True
  | some (t, s, x, v) => t < 3 ∧ c t < 4 ∧ okS s x v
theorem takes_end {A : Nat → Int32} {tx : Nat → Nat} {len : Nat} {c : Nat → Nat} (hA : zTX A tx len) {D : Nat → Int32} (hD : zTX D tx len) {t s x v : Nat} (ht : t < 3) (hc : c t < 4) (ho : okS s x v) {k : Nat} (hk : k ≤ len) :
    ∃ o e, e ≤ len ∧ k ≤ e ∧ (o ≠ none → k < e) ∧ zG o c ∧ (∀ all counted flag, counted t = nI (c t) → zM (f9_takesStep_b229 all D (nI len) (nI k) (nI v) counted flag (nI t) (nI s) (nI x)) o e c all counted flag) ∧ ∀ F w B, zC (zCL A len F k 4 (nI t) (nI s) (nI x) (nI v) w B) o e A len F w B := by
  obtain ⟨h1, h2, h3⟩ := zho_ok (tx := tx) hk
  have hl := hA.1
  by_cases e : zho tx len k < len
  · have hb := (hA.2 _ e).2
    by_cases e59 : tx (zho tx len k) = 59
    · refine ⟨some (t, s, x, v), zho tx len k + 1, by omega, by omega, fun _ => by omega, ⟨ht, hc, ho⟩, fun all counted flag hcn => ⟨nI v, ?_⟩, fun F w B => ⟨nI t, nI s, nI x, nI v, ?_⟩⟩
      · unfold f9_takesStep_b229
        rw [here_ok hD hk, ab_bind]
        unfold zhv
        rw [if_pos e, e59, if_pos (show nI 59 = 59 from rfl), ard_ok ht (by omega), ab_bind, hcn, nI_1, awr_ok ht (by omega), ab_bind, nI_1]
      · rw [cls_skip hA hk, cls_take hA e (h3 e)]
        unfold f7_takes f7_takesEnd
        rw [if_neg (by decide), if_neg (by decide), if_neg (by decide), if_neg (by decide), e59, if_pos (show nI 59 = 59 from rfl), packed_ok ho.1 ho.2.1 ho.2.2.1]
        cases f5_addStep w (nI t) (nI (pkS s x v)) with
        | none => rfl
        | some w' => rfl
    · refine ⟨none, zho tx len k, h2, h1, fun h => absurd rfl h, trivial, fun all counted flag hcn => ?_, fun F w B => ?_⟩
      · unfold f9_takesStep_b229
        rw [here_ok hD hk, ab_bind]
        unfold zhv
        rw [if_pos e, l_59, if_neg (fun q => e59 ((nI_eq (by omega) (by decide)).mp q))]
        exact ⟨_, rfl, rfl, rfl, rfl⟩
      · rw [cls_skip hA hk, cls_take hA e (h3 e)]
        unfold f7_takes f7_takesEnd
        rw [if_neg (by decide), if_neg (by decide), if_neg (by decide), if_neg (by decide), l_59, if_neg (fun q => e59 ((nI_eq (by omega) (by decide)).mp q))]
        exact ⟨_, rfl, rfl⟩
  · have e2 : zho tx len k = len := by omega
    refine ⟨none, len, Nat.le_refl _, by omega, fun h => absurd rfl h, trivial, fun all counted flag hcn => ?_, fun F w B => ?_⟩
    · unfold f9_takesStep_b229
      rw [here_ok hD hk, ab_bind, e2]
      unfold zhv
      rw [if_neg (show ¬ len < len by omega), if_neg (show ¬ (-1 : Int32) = 59 by decide)]
      exact ⟨_, rfl, rfl, rfl, rfl⟩
    · rw [cls_skip hA hk, e2, cls_end (by decide) hl]
      exact ⟨_, rfl, rfl⟩
/-- a byte in a stretch, in both ways -/
theorem in_stretch : ∀ b, b < 128 → f9_in (nI b).toInt64 (97 : Int32).toInt64 (100 : Int32).toInt64 = f8_below (nI b - 97) 4 ∧ f9_in (nI b).toInt64 (48 : Int32).toInt64 (49 : Int32).toInt64 = f8_below (nI b - 48) 2 ∧ f9_in (nI b).toInt64 (48 : Int32).toInt64 (57 : Int32).toInt64 = f8_below (nI b - 48) 10 := by decide +kernel
theorem takes_value {A : Nat → Int32} {tx : Nat → Nat} {len : Nat} {c : Nat → Nat} (hA : zTX A tx len) {D : Nat → Int32} (hD : zTX D tx len) {t s x : Nat} (ht : t < 3) (hc : c t < 4) (hs : s < 4) (hx : x < 4) {k : Nat} (hk : k ≤ len) :
    ∃ o e, e ≤ len ∧ k ≤ e ∧ (o ≠ none → k < e) ∧ zG o c ∧ (∀ all counted flag, counted t = nI (c t) → zM (if nI s = 2 then f9_takesStep_b208 all D (nI len) (nI k) 0 counted flag (nI t) (nI s) (nI x) 97 else f9_takesStep_b208 all D (nI len) (nI k) 0 counted flag (nI t) (nI s) (nI x) 48) o e c all counted flag) ∧ ∀ F vl w B, zC (zCL A len F k 3 (nI t) (nI s) (nI x) vl w B) o e A len F w B := by
  obtain ⟨h1, h2, h3⟩ := zho_ok (tx := tx) hk
  have hl := hA.1
  have c2 : nI s = 2 ↔ s = 2 := nI_eq (b := 2) (by omega) (by decide)
  by_cases e : zho tx len k < len
  · have hb := (hA.2 _ e).2
    have hst := in_stretch _ hb
    have hcls : ∀ (vl : Int32) (w : sT), f7_takes 3 (nI t) (nI s) (nI x) vl w (nI (tx (zho tx len k))) = if s = 2 then some (f8_below (nI (tx (zho tx len k)) - 97) 4, 4, nI t, nI s, nI x, nI (tx (zho tx len k)) - 97, w) else some (f8_below (nI (tx (zho tx len k)) - 48) 10, 4, nI t, nI s, nI x, nI (tx (zho tx len k)) - 48, w) := by
      intro vl w
      unfold f7_takes f7_takesValue f7_takesValue_b17 f7_takesValue_b44
      rw [if_neg (by decide), if_neg (by decide), if_neg (by decide), if_pos (by decide)]
      by_cases d : s = 2
      · rw [if_pos (c2.mpr d), if_pos (c2.mpr d), if_pos d]; rfl
      · rw [if_neg (fun q => d (c2.mp q)), if_neg (fun q => d (c2.mp q)), if_neg d]; rfl
    have hmod : ∀ (all counted : Nat → Int32) (flag : Int32), (if nI s = 2 then f9_takesStep_b208 all D (nI len) (nI k) 0 counted flag (nI t) (nI s) (nI x) 97 else f9_takesStep_b208 all D (nI len) (nI k) 0 counted flag (nI t) (nI s) (nI x) 48) = if (if s = 2 then f8_below (nI (tx (zho tx len k)) - 97) 4 else f8_below (nI (tx (zho tx len k)) - 48) 10) = 0 then some (0, all, nI (zho tx len k), 0, counted) else f9_takesStep_b229 all D (nI len) (nI (zho tx len k + 1)) (if s = 2 then nI (tx (zho tx len k)) - 97 else nI (tx (zho tx len k)) - 48) counted flag (nI t) (nI s) (nI x) := by
      intro all counted flag
      unfold f9_takesStep_b208 f9_takesStep_b221 f9_takes
      rw [here_ok hD hk, ab_bind]
      unfold zhv
      rw [if_pos e]
      by_cases d : s = 2
      · rw [if_pos (c2.mpr d), if_pos (c2.mpr d), hst.1, if_pos d, if_pos d]
        by_cases z : f8_below (nI (tx (zho tx len k)) - 97) 4 = 0
        · rw [if_pos z, ab_bind, if_pos rfl, if_pos z]
        · rw [if_neg z, ab_bind, if_neg i_1ne0, if_neg z, nI_1]
      · rw [if_neg (fun q => d (c2.mp q)), if_neg (fun q => d (c2.mp q)), ab_bind, hst.2.2, if_neg d, if_neg d]
        by_cases z : f8_below (nI (tx (zho tx len k)) - 48) 10 = 0
        · rw [if_pos z, ab_bind, if_pos rfl, if_pos z]
        · rw [if_neg z, ab_bind, if_neg i_1ne0, if_neg z, nI_1]
    have hbel : (∃ j, (okS s x j) ∧ (if s = 2 then nI (tx (zho tx len k)) - 97 else nI (tx (zho tx len k)) - 48) = nI j ∧ (if s = 2 then f8_below (nI (tx (zho tx len k)) - 97) 4 else f8_below (nI (tx (zho tx len k)) - 48) 10) = 1) ∨ (if s = 2 then f8_below (nI (tx (zho tx len k)) - 97) 4 else f8_below (nI (tx (zho tx len k)) - 48) 10) = 0 := by
      by_cases d : s = 2
      · rw [if_pos d, if_pos d]
        rcases ab_below (nI (tx (zho tx len k)) - 97) 4 (by decide) with ⟨j, j1, j2, j3⟩ | j
        · exact Or.inl ⟨j, ⟨by omega, hx, by omega, fun _ => j1, fun q => by omega⟩, j2, j3⟩
        · exact Or.inr j
      · rw [if_neg d, if_neg d]
        rcases ab_below (nI (tx (zho tx len k)) - 48) 10 (by decide) with ⟨j, j1, j2, j3⟩ | j
        · exact Or.inl ⟨j, ⟨by omega, hx, j1, fun q => absurd q d, fun q => by omega⟩, j2, j3⟩
        · exact Or.inr j
    rcases hbel with ⟨j, j1, j2, j3⟩ | j
    · obtain ⟨o, ee, a1, a2, a3, a4, a5, a6⟩ := takes_end (c := c) hA hD ht hc j1 (show zho tx len k + 1 ≤ len by omega)
      refine ⟨o, ee, a1, by omega, fun h => by have := a3 h; omega, a4, fun all counted flag hcn => ?_, fun F vl w B => ?_⟩
      · rw [hmod, j3, if_neg i_1ne0, j2]
        exact a5 all counted flag hcn
      · rw [cls_skip hA hk, cls_take hA e (h3 e), hcls]
        by_cases d : s = 2
        · rw [if_pos d] at j2 j3 ⊢
          rw [ab_bind, j3, if_neg i_1ne0, j2]
          exact a6 F w B
        · rw [if_neg d] at j2 j3 ⊢
          rw [ab_bind, j3, if_neg i_1ne0, j2]
          exact a6 F w B
    · refine ⟨none, zho tx len k, h2, h1, fun h => absurd rfl h, trivial, fun all counted flag hcn => ?_, fun F vl w B => ?_⟩
      · rw [hmod, j, if_pos rfl]
        exact ⟨_, rfl, rfl, rfl, rfl⟩
      · rw [cls_skip hA hk, cls_take hA e (h3 e), hcls]
        by_cases d : s = 2
        · rw [if_pos d] at j ⊢
          rw [ab_bind, j, if_pos rfl]
          exact ⟨_, rfl, rfl⟩
        · rw [if_neg d] at j ⊢
          rw [ab_bind, j, if_pos rfl]
          exact ⟨_, rfl, rfl⟩
  · have e2 : zho tx len k = len := by omega
    refine ⟨none, len, Nat.le_refl _, by omega, fun h => absurd rfl h, trivial, fun all counted flag hcn => ?_, fun F vl w B => ?_⟩
    · have z1 : f9_in (-1 : Int32).toInt64 (97 : Int32).toInt64 (100 : Int32).toInt64 = 0 := by decide
      have z2 : f9_in (-1 : Int32).toInt64 (48 : Int32).toInt64 (57 : Int32).toInt64 = 0 := by decide
      unfold f9_takesStep_b208 f9_takesStep_b221 f9_takes
      rw [here_ok hD hk, ab_bind, e2]
      unfold zhv
      rw [if_neg (show ¬ len < len by omega)]
      by_cases d : s = 2
      · rw [if_pos (c2.mpr d), if_pos (c2.mpr d), z1, if_pos rfl, ab_bind, if_pos rfl]
        exact ⟨_, rfl, rfl, rfl, rfl⟩
      · rw [if_neg (fun q => d (c2.mp q)), if_neg (fun q => d (c2.mp q)), ab_bind, z2, if_pos rfl, ab_bind, if_pos rfl]
        exact ⟨_, rfl, rfl, rfl, rfl⟩
    · rw [cls_skip hA hk, e2, cls_end (by decide) hl]
      exact ⟨_, rfl, rfl⟩
theorem takes_target {A : Nat → Int32} {tx : Nat → Nat} {len : Nat} {c : Nat → Nat} (hA : zTX A tx len) {D : Nat → Int32} (hD : zTX D tx len) {t s : Nat} (ht : t < 3) (hc : c t < 4) (hs : s < 6) {k : Nat} (hk : k ≤ len) :
    ∃ o e, e ≤ len ∧ k ≤ e ∧ (o ≠ none → k < e) ∧ zG o c ∧ (∀ all taken counted flag, counted t = nI (c t) → zM (if nI s < 4 then f9_takesStep_b143 all D (nI len) (nI k) taken counted flag (nI t) (nI s) 0 else f9_takesStep_b143 all D (nI len) (nI k) taken counted flag (nI t) (nI s) 1) o e c all counted flag) ∧ ∀ F tg vl w B, zC (zCL A len F k 2 (nI t) (nI s) tg vl w B) o e A len F w B := by
  obtain ⟨h1, h2, h3⟩ := zho_ok (tx := tx) hk
  have hl := hA.1
  have c4 : nI s < 4 ↔ s < 4 := nI_ltI (b := 4) (by omega) (by decide)
  by_cases e : zho tx len k < len
  · have hb := (hA.2 _ e).2
    have hst := in_stretch _ hb
    have hcls : ∀ (tg vl : Int32) (w : sT), f7_takes 2 (nI t) (nI s) tg vl w (nI (tx (zho tx len k))) = if s < 4 then some (f8_below (nI (tx (zho tx len k)) - 97) 4, 3, nI t, nI s, nI (tx (zho tx len k)) - 97, 0, w) else some (f8_below (nI (tx (zho tx len k)) - 48) 2, 4, nI t, nI s, nI (tx (zho tx len k)) - 48, 0, w) := by
      intro tg vl w
      unfold f7_takes f7_takesTarget f7_takesTarget_b21 f7_takesTarget_b40 f7_takesTarget_b56
      rw [if_neg (by decide), if_neg (by decide), if_pos (by decide), isLocking_ok hs]
      by_cases d : s < 4
      · rw [decide_eq_false (show ¬ 4 ≤ s by omega), bI_f, if_pos rfl, if_pos rfl, if_pos rfl, if_pos d]; rfl
      · rw [decide_eq_true (show 4 ≤ s by omega), bI_t, if_neg i_1ne0, if_neg i_1ne0, if_neg i_1ne0, if_neg d]; rfl
    by_cases d : s < 4
    · have hmod : ∀ (all counted : Nat → Int32) (taken flag : Int32), (if nI s < 4 then f9_takesStep_b143 all D (nI len) (nI k) taken counted flag (nI t) (nI s) 0 else f9_takesStep_b143 all D (nI len) (nI k) taken counted flag (nI t) (nI s) 1) = if f8_below (nI (tx (zho tx len k)) - 97) 4 = 0 then some (0, all, nI (zho tx len k), taken, counted) else (if nI s = 2 then f9_takesStep_b208 all D (nI len) (nI (zho tx len k + 1)) 0 counted flag (nI t) (nI s) (nI (tx (zho tx len k)) - 97) 97 else f9_takesStep_b208 all D (nI len) (nI (zho tx len k + 1)) 0 counted flag (nI t) (nI s) (nI (tx (zho tx len k)) - 97) 48) := by
        intro all counted taken flag
        unfold f9_takesStep_b143 f9_takesStep_b158 f9_takesStep_b170 f9_takes
        rw [if_pos (c4.mpr d), if_pos rfl, if_pos rfl, here_ok hD hk, ab_bind]
        unfold zhv
        rw [if_pos e, hst.1]
        by_cases z : f8_below (nI (tx (zho tx len k)) - 97) 4 = 0
        · rw [if_pos z, ab_bind, if_pos rfl, if_pos z]
        · rw [if_neg z, ab_bind, if_neg i_1ne0, if_pos rfl, if_neg z, nI_1]
      rcases ab_below (nI (tx (zho tx len k)) - 97) 4 (by decide) with ⟨j, j1, j2, j3⟩ | j
      · have j3' : f8_below (nI (tx (zho tx len k)) - 97) 4 = 1 := j3
        obtain ⟨o, ee, a1, a2, a3, a4, a5, a6⟩ := takes_value (c := c) hA hD ht hc d j1 (show zho tx len k + 1 ≤ len by omega)
        refine ⟨o, ee, a1, by omega, fun h => by have := a3 h; omega, a4, fun all taken counted flag hcn => ?_, fun F tg vl w B => ?_⟩
        · rw [hmod, j3', if_neg i_1ne0, j2]
          exact a5 all counted flag hcn
        · rw [cls_skip hA hk, cls_take hA e (h3 e), hcls, if_pos d, ab_bind, j3', if_neg i_1ne0, j2]
          exact a6 F 0 w B
      · have j' : f8_below (nI (tx (zho tx len k)) - 97) 4 = 0 := j
        refine ⟨none, zho tx len k, h2, h1, fun h => absurd rfl h, trivial, fun all taken counted flag hcn => ?_, fun F tg vl w B => ?_⟩
        · rw [hmod, j', if_pos rfl]
          exact ⟨_, rfl, rfl, rfl, rfl⟩
        · rw [cls_skip hA hk, cls_take hA e (h3 e), hcls, if_pos d, ab_bind, j', if_pos rfl]
          exact ⟨_, rfl, rfl⟩
    · have hmod : ∀ (all counted : Nat → Int32) (taken flag : Int32), (if nI s < 4 then f9_takesStep_b143 all D (nI len) (nI k) taken counted flag (nI t) (nI s) 0 else f9_takesStep_b143 all D (nI len) (nI k) taken counted flag (nI t) (nI s) 1) = if f8_below (nI (tx (zho tx len k)) - 48) 2 = 0 then some (0, all, nI (zho tx len k), taken, counted) else f9_takesStep_b229 all D (nI len) (nI (zho tx len k + 1)) 0 counted flag (nI t) (nI s) (nI (tx (zho tx len k)) - 48) := by
        intro all counted taken flag
        unfold f9_takesStep_b143 f9_takesStep_b158 f9_takesStep_b170 f9_takes
        rw [if_neg (fun q => d (c4.mp q)), if_neg i_1ne0, if_neg i_1ne0, here_ok hD hk, ab_bind]
        unfold zhv
        rw [if_pos e, hst.2.1]
        by_cases z : f8_below (nI (tx (zho tx len k)) - 48) 2 = 0
        · rw [if_pos z, ab_bind, if_pos rfl, if_pos z]
        · rw [if_neg z, ab_bind, if_neg i_1ne0, if_neg i_1ne0, if_neg z, nI_1]
      rcases ab_below (nI (tx (zho tx len k)) - 48) 2 (by decide) with ⟨j, j1, j2, j3⟩ | j
      · have j3' : f8_below (nI (tx (zho tx len k)) - 48) 2 = 1 := j3
        have ho : okS s j 0 := ⟨hs, by omega, by omega, fun q => by omega, fun _ => j1⟩
        obtain ⟨o, ee, a1, a2, a3, a4, a5, a6⟩ := takes_end (c := c) hA hD ht hc ho (show zho tx len k + 1 ≤ len by omega)
        refine ⟨o, ee, a1, by omega, fun h => by have := a3 h; omega, a4, fun all taken counted flag hcn => ?_, fun F tg vl w B => ?_⟩
        · rw [hmod, j3', if_neg i_1ne0, j2]
          exact a5 all counted flag hcn
        · rw [cls_skip hA hk, cls_take hA e (h3 e), hcls, if_neg d, ab_bind, j3', if_neg i_1ne0, j2]
          exact a6 F w B
      · have j' : f8_below (nI (tx (zho tx len k)) - 48) 2 = 0 := j
        refine ⟨none, zho tx len k, h2, h1, fun h => absurd rfl h, trivial, fun all taken counted flag hcn => ?_, fun F tg vl w B => ?_⟩
        · rw [hmod, j', if_pos rfl]
          exact ⟨_, rfl, rfl, rfl, rfl⟩
        · rw [cls_skip hA hk, cls_take hA e (h3 e), hcls, if_neg d, ab_bind, j', if_pos rfl]
          exact ⟨_, rfl, rfl⟩
  · have e2 : zho tx len k = len := by omega
    refine ⟨none, len, Nat.le_refl _, by omega, fun h => absurd rfl h, trivial, fun all taken counted flag hcn => ?_, fun F tg vl w B => ?_⟩
    · have z1 : f9_in (-1 : Int32).toInt64 (97 : Int32).toInt64 (100 : Int32).toInt64 = 0 := by decide
      have z2 : f9_in (-1 : Int32).toInt64 (48 : Int32).toInt64 (49 : Int32).toInt64 = 0 := by decide
      unfold f9_takesStep_b143 f9_takesStep_b158 f9_takesStep_b170 f9_takes
      rw [here_ok hD hk, ab_bind, ab_bind, ab_bind, ab_bind, e2]
      unfold zhv
      rw [if_neg (show ¬ len < len by omega)]
      by_cases d : s < 4
      · rw [if_pos (c4.mpr d), if_pos rfl, if_pos rfl, z1, if_pos rfl, ab_bind, if_pos rfl]
        exact ⟨_, rfl, rfl, rfl, rfl⟩
      · rw [if_neg (fun q => d (c4.mp q)), if_neg i_1ne0, if_neg i_1ne0, z2, if_pos rfl, ab_bind, if_pos rfl]
        exact ⟨_, rfl, rfl, rfl, rfl⟩
    · rw [cls_skip hA hk, e2, cls_end (by decide) hl]
      exact ⟨_, rfl, rfl⟩
