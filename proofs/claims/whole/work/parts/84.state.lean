/-! the class's state against a program -/
def bI (b : Bool) : Int32 := if b = true then 1 else 0
theorem bI_t : bI true = 1 := rfl
theorem bI_f : bI false = 0 := rfl
theorem bI_0 (b : Bool) : bI b = 0 ↔ b = false := by cases b <;> decide
theorem i_1ne0 : ¬ (1 : Int32) = 0 := by decide
def zCS (u : sT) (c : Nat → Nat) (g : Nat → Nat → Nat → Nat) : Prop := (∀ t, t < 3 → u.2.1 t = nI (c t)) ∧ ∀ t, t < 3 → ∀ i, i < c t → u.1 (4 * t + i) = nI (pkS (g t i 0) (g t i 1) (g t i 2))
def zpk (g : Nat → Nat → Nat → Nat) (t i : Nat) : Nat := pkS (g t i 0) (g t i 1) (g t i 2)
theorem zpk_lt {s x v : Nat} (h : okS s x v) : pkS s x v < 400 := pkS_lt h.1 h.2.1 h.2.2.1
theorem stepAt_in {u : sT} {c : Nat → Nat} {g : Nat → Nat → Nat → Nat} (hs : zst c g) (hC : zCS u c g) {t i : Nat} (ht : t < 3) (hi : i < c t) : f5_stepAt u (nI t) (nI i) = some (nI (zpk g t i)) := by
  have h4 := (hs t ht).1
  have hc := hC.1 t ht
  have hv := hC.2 t ht i hi
  unfold f5_stepAt f5_stepAt_b28
  rw [if_neg (nI_pos (by omega)), l_3, if_neg (nI_ge ht (by decide)), if_neg (nI_pos (by omega)), ard_ok ht (by omega), ab_bind, hc, if_neg (nI_ge hi (by omega)), if_neg i_1ne0, l_4, pk_mul, nI_add, ard_ok (by omega) (by omega), ab_bind, Nat.mul_comm, hv]
  rfl
theorem stepAt_out {u : sT} {c : Nat → Nat} {g : Nat → Nat → Nat → Nat} (hC : zCS u c g) {t i : Nat} (ht : t < 3) (hi : c t ≤ i) (hi2 : i < 2 ^ 31) : f5_stepAt u (nI t) (nI i) = some (-1) := by
  have hc := hC.1 t ht
  unfold f5_stepAt f5_stepAt_b27 f5_stepAt_b28
  rw [if_neg (nI_pos (by omega)), l_3, if_neg (nI_ge ht (by decide)), if_neg (nI_pos (by omega)), ard_ok ht (by omega), ab_bind, hc, if_pos (nI_le hi hi2), if_pos rfl]
theorem nextStep_in {u : sT} {c : Nat → Nat} {g : Nat → Nat → Nat → Nat} (hs : zst c g) (hC : zCS u c g) {m : Int64} {t i : Nat} (ht : t < 3) (hm : nib m t = i) (hi : i < c t) : f5_nextStep u m (nI t) = some (nI (zpk g t i)) := by
  unfold f5_nextStep
  rw [doneOf_nib ht, hm, stepAt_in hs hC ht hi]
  rfl
theorem nextStep_out {u : sT} {c : Nat → Nat} {g : Nat → Nat → Nat → Nat} (hC : zCS u c g) {m : Int64} {t i : Nat} (ht : t < 3) (hm : nib m t = i) (hi : c t ≤ i) : f5_nextStep u m (nI t) = some (-1) := by
  unfold f5_nextStep
  have := nib_lt m t
  rw [doneOf_nib ht, hm, stepAt_out hC ht hi (by omega)]
  rfl
theorem tied_m1 (x : Int32) : f6_tied x (-1) = 0 := by
  have h1 : f6_writeBits (-1) = 0 := by decide
  have h2 : f6_readBits (-1) = 0 := by decide
  have h3 : f6_isLocking (f6_kind (-1)) = 0 := by decide
  have h0 : ∀ y : Int32, y &&& 0 = 0 := fun y => by simp
  have h0' : ∀ y : Int32, 0 &&& y = 0 := fun y => by simp
  have h4 : f6_tiedByNumber x (-1) = 0 := by
    unfold f6_tiedByNumber
    rw [h1, h2]
    have : (0 : Int32) ||| 0 = 0 := by decide
    rw [this, h0, if_pos rfl, h0', if_pos rfl]
  have h5 : f6_tiedByLock x (-1) = 0 := by
    unfold f6_tiedByLock
    rw [h3]
    by_cases a : f6_isLocking (f6_kind x) = 0
    · rw [if_pos a]
    · rw [if_neg a, if_pos rfl]
  unfold f6_tied
  rw [h4, h5, if_pos rfl, if_pos rfl]
theorem ab_and0 {a b : Nat} (ha : a < 2 ^ 31) : nI a &&& nI b = 0 ↔ a &&& b = 0 := by
  rw [fa_and]
  have : a &&& b < 2 ^ 31 := Nat.lt_of_le_of_lt Nat.and_le_left ha
  rw [l_0, nI_eq this (by decide)]
theorem tiedByNumber_ok {g : Nat → Nat → Nat → Nat} {t i u j : Nat} (h1 : okS (g t i 0) (g t i 1) (g t i 2)) (h2 : okS (g u j 0) (g u j 1) (g u j 2)) : f6_tiedByNumber (nI (zpk g t i)) (nI (zpk g u j)) = bI (zby g t i u j) := by
  unfold f6_tiedByNumber f6_tiedByNumber_b30 zpk zby
  have w1 := wbS_lt h1
  have w2 := wbS_lt h2
  rw [writeBits_ok h1, writeBits_ok h2, readBits_ok h1, readBits_ok h2, fa_or, Nat.or_comm]
  by_cases a : wbS (g t i 0) (g t i 1) &&& (rbS (g u j 0) (g u j 1) (g u j 2) ||| wbS (g u j 0) (g u j 1)) = 0
  · rw [if_pos ((ab_and0 (by omega)).mpr a)]
    by_cases b : wbS (g u j 0) (g u j 1) &&& rbS (g t i 0) (g t i 1) (g t i 2) = 0
    · rw [if_pos ((ab_and0 (by omega)).mpr b), decide_eq_false (not_not_intro a), decide_eq_false (not_not_intro b)]; rfl
    · rw [if_neg (fun k => b ((ab_and0 (by omega)).mp k)), decide_eq_false (not_not_intro a), decide_eq_true b]; rfl
  · rw [if_neg (fun k => a ((ab_and0 (by omega)).mp k)), decide_eq_true a]; rfl
theorem isLocking_ok {s : Nat} (h : s < 6) : f6_isLocking (nI s) = bI (decide (4 ≤ s)) := by
  have : ∀ s, s < 6 → f6_isLocking (nI s) = bI (decide (4 ≤ s)) := by decide +kernel
  exact this s h
theorem tied_ok {g : Nat → Nat → Nat → Nat} {t i u j : Nat} (h1 : okS (g t i 0) (g t i 1) (g t i 2)) (h2 : okS (g u j 0) (g u j 1) (g u j 2)) (hne : t ≠ u) : f6_tied (nI (zpk g t i)) (nI (zpk g u j)) = bI (zdp g t i u j) := by
  have hl : f6_tiedByLock (nI (zpk g t i)) (nI (zpk g u j)) = bI (zlk g t i u j) := by
    unfold f6_tiedByLock zpk zlk
    rw [kind_ok h1.1 h1.2.1 h1.2.2.1, kind_ok h2.1 h2.2.1 h2.2.2.1, target_ok h1.1 h1.2.1 h1.2.2.1, target_ok h2.1 h2.2.1 h2.2.2.1, isLocking_ok h1.1, isLocking_ok h2.1]
    have x1 := h1.2.1
    have x2 := h2.2.1
    by_cases a : 4 ≤ g t i 0
    · rw [decide_eq_true a, bI_t, if_neg i_1ne0]
      by_cases b : 4 ≤ g u j 0
      · rw [decide_eq_true b, bI_t, if_neg i_1ne0]
        by_cases d : g t i 1 = g u j 1
        · rw [d, if_pos rfl, decide_eq_true rfl]; rfl
        · rw [if_neg (fun k => d ((nI_eq (by omega) (by omega)).mp k)), decide_eq_false d]; rfl
      · rw [decide_eq_false b, bI_f, if_pos rfl]; rfl
    · rw [decide_eq_false a, bI_f, if_pos rfl]; rfl
  unfold f6_tied f6_tied_b16 zdp
  rw [tiedByNumber_ok h1 h2, hl, decide_eq_false hne, Bool.false_or]
  cases zby g t i u j with
  | true => rw [bI_t, if_neg i_1ne0, Bool.or_true]; rfl
  | false =>
    rw [bI_f, if_pos rfl, Bool.or_false]
    cases zlk g t i u j with
    | true => rw [bI_t, if_neg i_1ne0]
    | false => rw [bI_f, if_pos rfl]
/-! moments -/
def zMO (m : Int64) (g : Nat → Nat → Nat → Nat) (num : Nat → Nat) (q : List Nat) : Prop := (∀ t, t < 3 → nib m t = zfr q t) ∧ nib m 3 = (zex num g q).2 ∧ (∀ x, x < 4 → nib m (4 + x) = (zex num g q).1 x) ∧ ∀ l, l < 2 → nib m (8 + l) = zhd g (zfr q) l
theorem hold_m1 {h : Nat} (hh : h < 16) : nI h - 1 = -1 ↔ h = 0 := by
  cases h with
  | zero => exact ⟨fun _ => rfl, fun _ => ab_dec0⟩
  | succ h =>
    rw [ab_dec]
    exact ⟨fun k => absurd k (ab_ne_m1 (by omega)), fun k => by omega⟩
theorem hold_t {h t : Nat} (hh : h < 16) (ht : t < 3) : nI h - 1 = nI t ↔ h = t + 1 := by
  cases h with
  | zero =>
    rw [ab_dec0]
    exact ⟨fun k => absurd k.symm (ab_ne_m1 (by omega)), fun k => by omega⟩
  | succ h =>
    rw [ab_dec, nI_eq (by omega) (by omega)]
    omega
theorem canDo_ok {u : sT} {c : Nat → Nat} {g : Nat → Nat → Nat → Nat} {num : Nat → Nat} {m : Int64} {q : List Nat} (hs : zst c g) (hC : zCS u c g) (hM : zMO m g num q) {t : Nat} (ht : t < 3) : f5_canDo u m (nI t) = some (bI (zable c g (zfr q) t)) := by
  unfold f5_canDo
  by_cases hl : zfr q t < c t
  · have hok := (hs t ht).2 _ hl
    have hpk := zpk_lt hok
    rw [nextStep_in hs hC ht (hM.1 t ht) hl, ab_bind, if_neg (ab_ne_m1 (show zpk g t (zfr q t) < 2 ^ 31 from Nat.lt_trans hpk (by decide)))]
    show (if f6_kind (nI (pkS _ _ _)) = 4 then _ else _) = _
    unfold zpk
    rw [kind_ok hok.1 hok.2.1 hok.2.2.1, target_ok hok.1 hok.2.1 hok.2.2.1]
    have h6 := hok.1
    by_cases h4 : g t (zfr q t) 0 = 4
    · have hx := hok.2.2.2.2 (by omega)
      rw [h4, l_4, if_pos rfl, holder_nib hx, hM.2.2.2 _ hx]
      have hb := zhd_le g (zfr q) (g t (zfr q t) 1)
      by_cases hz : zhd g (zfr q) (g t (zfr q t) 1) = 0
      · rw [if_pos ((hold_m1 (by omega)).mpr hz), zable_iff.mpr ⟨hl, Or.inr (Or.inl ⟨h4, hz⟩)⟩]; rfl
      · rw [if_neg (fun k => hz ((hold_m1 (by omega)).mp k))]
        cases ha : zable c g (zfr q) t with
        | false => rfl
        | true => rcases (zable_iff.mp ha).2 with k | k | k <;> omega
    · rw [l_4, if_neg (fun k => h4 ((nI_eq (by omega) (by decide)).mp k))]
      by_cases h5 : g t (zfr q t) 0 = 5
      · have hx := hok.2.2.2.2 (by omega)
        rw [h5, l_5, if_pos rfl, holder_nib hx, hM.2.2.2 _ hx]
        have hb := zhd_le g (zfr q) (g t (zfr q t) 1)
        by_cases hz : zhd g (zfr q) (g t (zfr q t) 1) = t + 1
        · rw [if_pos ((hold_t (by omega) ht).mpr hz), zable_iff.mpr ⟨hl, Or.inr (Or.inr ⟨h5, hz⟩)⟩]; rfl
        · rw [if_neg (fun k => hz ((hold_t (by omega) ht).mp k))]
          cases ha : zable c g (zfr q) t with
          | false => rfl
          | true => rcases (zable_iff.mp ha).2 with k | k | k <;> omega
      · rw [l_5, if_neg (fun k => h5 ((nI_eq (by omega) (by decide)).mp k)), zable_iff.mpr ⟨hl, Or.inl (by omega)⟩]; rfl
  · rw [nextStep_out hC ht (hM.1 t ht) (Nat.not_lt.mp hl), ab_bind, if_pos rfl]
    cases ha : zable c g (zfr q) t with
    | false => rfl
    | true => exact absurd (zable_lt ha) hl
theorem shl1 {t : Nat} (ht : t < 3) : (1 : Int32) <<< (nI t &&& 31) = nI (2 ^ t) := by
  have : ∀ t, t < 3 → (1 : Int32) <<< (nI t &&& 31) = nI (2 ^ t) := by decide +kernel
  exact this t ht
/-- three answers as bits -/
def zbt (b : Bool) (t : Nat) : Nat := if b = true then 2 ^ t else 0
def zbits (f : Nat → Bool) : Nat := ((0 ||| zbt (f 0) 0) ||| zbt (f 1) 1) ||| zbt (f 2) 2
theorem zbits_0 (f : Nat → Bool) : zbits f = 0 ↔ f 0 = false ∧ f 1 = false ∧ f 2 = false := by
  unfold zbits zbt
  cases f 0 <;> cases f 1 <;> cases f 2 <;> decide
theorem zbits_lt (f : Nat → Bool) : zbits f < 8 := by
  unfold zbits zbt
  cases f 0 <;> cases f 1 <;> cases f 2 <;> decide
theorem zbits_t (f : Nat → Bool) {t : Nat} (ht : t < 3) : nI (zbits f) &&& nI (2 ^ t) = 0 ↔ f t = false := by
  have : t = 0 ∨ t = 1 ∨ t = 2 := by omega
  unfold zbits zbt
  rcases this with rfl | rfl | rfl <;> cases f 0 <;> cases f 1 <;> cases f 2 <;> decide
theorem ableBits_ok {u : sT} {c : Nat → Nat} {g : Nat → Nat → Nat → Nat} {num : Nat → Nat} {m : Int64} {q : List Nat} (hs : zst c g) (hC : zCS u c g) (hM : zMO m g num q) : f5_ableBits u m = some (nI (zbits (zable c g (zfr q)))) := by
  have one : ∀ (n b t : Nat), t < 3 → f5_ableBits_l5 (n + 1) u m (nI b) (nI t) = f5_ableBits_l5 n u m (nI (b ||| zbt (zable c g (zfr q) t) t)) (nI (t + 1)) := by
    intro n b t ht
    rw [f5_ableBits_l5_s, l_3, if_neg (nI_ge ht (by decide)), canDo_ok hs hC hM ht, ab_bind]
    unfold f5_ableBits_b28 zbt
    cases zable c g (zfr q) t with
    | true => rw [bI_t, if_neg i_1ne0, shl1 ht, fa_or, if_pos rfl, nI_1]
    | false => rw [bI_f, if_pos rfl, nI_1]; simp
  unfold f5_ableBits
  rw [kF4]
  show f5_ableBits_l5 _ u m (nI 0) (nI 0) = _
  rw [one _ _ 0 (by decide), one _ _ 1 (by decide), one _ _ 2 (by decide), f5_ableBits_l5_s, l_3, if_pos (nI_le (by decide) (by decide))]
  rfl
theorem zMO_step {m m' : Int64} {c : Nat → Nat} {g : Nat → Nat → Nat → Nat} {num : Nat → Nat} {q : List Nat} {t : Nat} (hM : zMO m g num q) (h : zok c g (t :: q)) (hd : ∀ u, u < 3 → nib m' u = if u = t then zfr q t + 1 else nib m u) (hw : nib m' 3 = (zdo (zex num g q) (g t (zfr q t) 0) (g t (zfr q t) 1) (g t (zfr q t) 2)).2) (hv : ∀ y, y < 4 → nib m' (4 + y) = (zdo (zex num g q) (g t (zfr q t) 0) (g t (zfr q t) 1) (g t (zfr q t) 2)).1 y)
    (hh : ∀ l, l < 2 → nib m' (8 + l) = if 4 ≤ g t (zfr q t) 0 ∧ g t (zfr q t) 1 = l then (if g t (zfr q t) 0 = 4 then t + 1 else 0) else nib m (8 + l)) : zMO m' g num (t :: q) := by
  refine ⟨fun u hu => ?_, ?_, fun y hy => ?_, fun l hl => ?_⟩
  · rw [hd u hu]
    by_cases e : u = t
    · rw [if_pos e, e, zfr_same]
    · rw [if_neg e, zfr_other q e, hM.1 u hu]
  · rw [hw, zex_c]
  · rw [hv y hy, zex_c]
  · rw [hh l hl, zhd_step h l, hM.2.2.2 l hl]
theorem stepDone_ok {u : sT} {c : Nat → Nat} {g : Nat → Nat → Nat → Nat} {num : Nat → Nat} {m : Int64} {q : List Nat} {t : Nat} (hs : zst c g) (hn : ∀ y, y < 4 → num y < 10) (hC : zCS u c g) (hM : zMO m g num q) (h : zok c g (t :: q)) : ∃ m', f5_stepDone u m (nI t) = some m' ∧ zMO m' g num (t :: q) := by
  have ht := h.2.1
  have hl := zable_lt h.2.2
  have hok := (hs t ht).2 _ hl
  have h4 := (hs t ht).1
  have hpk := zpk_lt hok
  have hex := zex_lt hs hn h.1
  have hlen := zlen_le hs h.1
  have hdn := hM.1 t ht
  have hD : ∀ p, p < 16 → nib (f2_withDone m (nI t) (nI (zfr q t + 1))) p = if p = t then zfr q t + 1 else nib m p := fun p hp => withDone_nib ht (by omega) hp
  unfold f5_stepDone
  rw [nextStep_in hs hC ht hdn hl, ab_bind, if_neg (ab_ne_m1 (show zpk g t (zfr q t) < 2 ^ 31 from Nat.lt_trans hpk (by decide)))]
  have ek : f6_kind (nI (zpk g t (zfr q t))) = nI (g t (zfr q t) 0) := kind_ok hok.1 hok.2.1 hok.2.2.1
  have et : f6_target (nI (zpk g t (zfr q t))) = nI (g t (zfr q t) 1) := target_ok hok.1 hok.2.1 hok.2.2.1
  have ev : f6_value (nI (zpk g t (zfr q t))) = nI (g t (zfr q t) 2) := value_ok hok.1 hok.2.1 hok.2.2.1
  rw [ek, et, ev, doneOf_nib ht, hdn, nI_1]
  have h6 := hok.1
  have hx := hok.2.1
  have hvv := hok.2.2.1
  generalize hS : g t (zfr q t) 0 = s at *
  generalize hX : g t (zfr q t) 1 = x at *
  generalize hV : g t (zfr q t) 2 = v at *
  have hw15 : nib m 3 < 15 := by rw [hM.2.1]; omega
  have hDt : ∀ p, p < 16 → 3 ≤ p → nib (f2_withDone m (nI t) (nI (zfr q t + 1))) p = nib m p := fun p hp hp3 => by rw [hD p hp, if_neg (by omega)]
  have cs : s = 0 ∨ s = 1 ∨ s = 2 ∨ s = 3 ∨ s = 4 ∨ s = 5 := by omega
  /- a value is written -/
  have hwrite : ∀ z : Nat, z < 10 → s < 4 → (zdo (zex num g q) s x v) = (zup (zex num g q).1 x z, (zex num g q).2) → zMO (f2_withValue (f2_withDone m (nI t) (nI (zfr q t + 1))) (nI x) (nI z)) g num (t :: q) := by
    intro z hz hs4 hz2
    refine zMO_step hM h (fun p hp => ?_) ?_ (fun y hy => ?_) (fun l hl => ?_)
    · rw [withValue_nib hx (by omega) (by omega), if_neg (by omega), hD p (by omega)]
    · rw [hS, hX, hV, hz2, withValue_nib hx (by omega) (by omega), if_neg (by omega), hDt 3 (by omega) (by omega), hM.2.1]
    · rw [hS, hX, hV, hz2, withValue_nib hx (by omega) (by omega)]
      show _ = zup _ _ _ y
      unfold zup
      by_cases e : y = x
      · rw [if_pos (by omega), if_pos e]
      · rw [if_neg (by omega), if_neg e, hDt _ (by omega) (by omega), hM.2.2.1 y hy]
    · rw [hS, hX, if_neg (by omega), withValue_nib hx (by omega) (by omega), if_neg (by omega), hDt _ (by omega) (by omega)]
  rcases cs with rfl | rfl | rfl | rfl | rfl | rfl
  · rw [l_0, if_pos rfl]
    exact ⟨_, rfl, hwrite v hvv (by omega) rfl⟩
  · rw [if_neg (by decide), l_1, if_pos rfl, valueOf_nib hx, hM.2.2.1 x hx, nI_add, l_10, pk_rem (by have := hex.1 x hx; omega) (by decide) (by decide)]
    exact ⟨_, rfl, hwrite _ (Nat.mod_lt _ (by decide)) (by omega) rfl⟩
  · have hv4 := hok.2.2.2.1 rfl
    rw [if_neg (by decide), if_neg (by decide), l_2, if_pos rfl, valueOf_nib hv4, hM.2.2.1 v hv4]
    exact ⟨_, rfl, hwrite _ (hex.1 v hv4) (by omega) rfl⟩
  · rw [if_neg (by decide), if_neg (by decide), if_neg (by decide), l_3, if_pos rfl, valueOf_nib hx, hM.2.2.1 x hx]
    have hxx := hex.1 x hx
    have e3 : zdo (zex num g q) 3 x v = ((zex num g q).1, (zex num g q).2 + if (zex num g q).1 x = v then 0 else 1) := rfl
    by_cases e : (zex num g q).1 x = v
    · rw [if_pos ((nI_eq (by omega) (by omega)).mpr e)]
      refine ⟨_, rfl, zMO_step hM h (fun p hp => hD p (by omega)) ?_ (fun y hy => ?_) (fun l hl => ?_)⟩
      · rw [hS, hX, hV, e3, if_pos e, hDt 3 (by omega) (by omega), hM.2.1]; rfl
      · rw [hS, hX, hV, e3, hDt _ (by omega) (by omega), hM.2.2.1 y hy]
      · rw [hS, if_neg (by omega), hDt _ (by omega) (by omega)]
    · rw [if_neg (fun k => e ((nI_eq (by omega) (by omega)).mp k))]
      have hw3 : nib (f2_withDone m (nI t) (nI (zfr q t + 1))) 3 < 15 := by rw [hDt 3 (by omega) (by omega)]; exact hw15
      refine ⟨_, rfl, zMO_step hM h (fun p hp => ?_) ?_ (fun y hy => ?_) (fun l hl => ?_)⟩
      · rw [withWrong_nib hw3 (by omega), if_neg (by omega)]; exact hD p (by omega)
      · rw [hS, hX, hV, e3, if_neg e, withWrong_nib hw3 (by omega), if_pos rfl, hDt 3 (by omega) (by omega), hM.2.1]
      · rw [hS, hX, hV, e3, withWrong_nib hw3 (by omega), if_neg (by omega), hDt _ (by omega) (by omega), hM.2.2.1 y hy]
      · rw [hS, if_neg (by omega), withWrong_nib hw3 (by omega), if_neg (by omega), hDt _ (by omega) (by omega)]
  · have hx2 := hok.2.2.2.2 (by omega)
    rw [if_neg (by decide), if_neg (by decide), if_neg (by decide), if_neg (by decide), l_4, if_pos rfl]
    have e4 : zdo (zex num g q) 4 x v = zex num g q := rfl
    refine ⟨_, rfl, zMO_step hM h (fun p hp => ?_) ?_ (fun y hy => ?_) (fun l hl => ?_)⟩
    · rw [withHolder_nib hx2 (by omega) (by omega), if_neg (by omega)]; exact hD p (by omega)
    · rw [hS, hX, hV, e4, withHolder_nib hx2 (by omega) (by omega), if_neg (by omega), hDt 3 (by omega) (by omega), hM.2.1]
    · rw [hS, hX, hV, e4, withHolder_nib hx2 (by omega) (by omega), if_neg (by omega), hDt _ (by omega) (by omega), hM.2.2.1 y hy]
    · rw [hS, hX, withHolder_nib hx2 (by omega) (by omega)]
      by_cases e : x = l
      · rw [if_pos (by omega), if_pos ⟨by omega, e⟩, if_pos rfl]
      · rw [if_neg (by omega), if_neg (fun k => e k.2), hDt _ (by omega) (by omega)]
  · have hx2 := hok.2.2.2.2 (by omega)
    rw [if_neg (by decide), if_neg (by decide), if_neg (by decide), if_neg (by decide), if_neg (by decide)]
    have e5 : zdo (zex num g q) 5 x v = zex num g q := rfl
    refine ⟨_, rfl, zMO_step hM h (fun p hp => ?_) ?_ (fun y hy => ?_) (fun l hl => ?_)⟩
    · rw [withFree_nib hx2 (by omega), if_neg (by omega)]; exact hD p (by omega)
    · rw [hS, hX, hV, e5, withFree_nib hx2 (by omega), if_neg (by omega), hDt 3 (by omega) (by omega), hM.2.1]
    · rw [hS, hX, hV, e5, withFree_nib hx2 (by omega), if_neg (by omega), hDt _ (by omega) (by omega), hM.2.2.1 y hy]
    · rw [hS, hX, withFree_nib hx2 (by omega)]
      by_cases e : x = l
      · rw [if_pos (by omega), if_pos ⟨by omega, e⟩, if_neg (by omega)]
      · rw [if_neg (by omega), if_neg (fun k => e k.2), hDt _ (by omega) (by omega)]
