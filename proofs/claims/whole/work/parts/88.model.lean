/-! the reference's row of numbers against a program -/
def zRM (all : Nat → Int32) (c : Nat → Nat) (g : Nat → Nat → Nat → Nat) (num : Nat → Nat) (q : List Nat) : Prop :=
  (∀ t, t < 3 → all (36 + t) = nI (c t)) ∧ (∀ t, t < 3 → ∀ i, i < c t → ∀ w, w < 3 → all (12 * t + 3 * i + w) = nI (g t i w)) ∧ (∀ x, x < 4 → all (39 + x) = nI (num x)) ∧ all 43 = nI q.length ∧ ∀ p t y, q = p ++ t :: y → all (44 + y.length) = nI t
theorem many_ok {all : Nat → Int32} {c : Nat → Nat} {g : Nat → Nat → Nat → Nat} {num : Nat → Nat} {q : List Nat} (hR : zRM all c g num q) {t : Nat} (ht : t < 3) : f9_many all (nI t) = some (nI (c t)) := by
  unfold f9_many
  rw [l_36, nI_add, ard_ok (by omega) (by omega), ab_bind, hR.1 t ht]
theorem its_ok {all : Nat → Int32} {c : Nat → Nat} {g : Nat → Nat → Nat → Nat} {num : Nat → Nat} {q : List Nat} (hs : zst c g) (hR : zRM all c g num q) {t i w : Nat} (ht : t < 3) (hi : i < c t) (hw : w < 3) : f9_its all (nI t) (nI i) (nI w) = some (nI (g t i w)) := by
  have h4 := (hs t ht).1
  unfold f9_its
  rw [l_12, l_3, pk_mul, pk_mul, nI_add, nI_add, ard_ok (by omega) (by omega), ab_bind, hR.2.1 t ht i hi w hw]
theorem its0 {all : Nat → Int32} {c : Nat → Nat} {g : Nat → Nat → Nat → Nat} {num : Nat → Nat} {q : List Nat} (hs : zst c g) (hR : zRM all c g num q) {t i : Nat} (ht : t < 3) (hi : i < c t) : f9_its all (nI t) (nI i) 0 = some (nI (g t i 0)) := its_ok (w := 0) hs hR ht hi (by omega)
theorem its1 {all : Nat → Int32} {c : Nat → Nat} {g : Nat → Nat → Nat → Nat} {num : Nat → Nat} {q : List Nat} (hs : zst c g) (hR : zRM all c g num q) {t i : Nat} (ht : t < 3) (hi : i < c t) : f9_its all (nI t) (nI i) 1 = some (nI (g t i 1)) := its_ok (w := 1) hs hR ht hi (by omega)
theorem its2 {all : Nat → Int32} {c : Nat → Nat} {g : Nat → Nat → Nat → Nat} {num : Nat → Nat} {q : List Nat} (hs : zst c g) (hR : zRM all c g num q) {t i : Nat} (ht : t < 3) (hi : i < c t) : f9_its all (nI t) (nI i) 2 = some (nI (g t i 2)) := its_ok (w := 2) hs hR ht hi (by omega)
theorem one_shl {x : Nat} (h : x < 10) : (1 : Int32) <<< (nI x &&& 31) = nI (2 ^ x) := by
  have : ∀ x, x < 10 → (1 : Int32) <<< (nI x &&& 31) = nI (2 ^ x) := by decide +kernel
  exact this x h
theorem readBy_ok {all : Nat → Int32} {c : Nat → Nat} {g : Nat → Nat → Nat → Nat} {num : Nat → Nat} {q : List Nat} (hs : zst c g) (hR : zRM all c g num q) {t i : Nat} (ht : t < 3) (hi : i < c t) : f9_readBy all (nI t) (nI i) = some (nI (rbS (g t i 0) (g t i 1) (g t i 2))) := by
  have hok := (hs t ht).2 i hi
  have h6 := hok.1
  have hx := hok.2.1
  have hv := hok.2.2.1
  unfold f9_readBy f9_readBy_b18 rbS
  rw [its0 hs hR ht hi, ab_bind, its1 hs hR ht hi, its2 hs hR ht hi, ab_bind, ab_bind, one_shl (by omega), one_shl (by omega), l_1, l_3, l_2]
  by_cases s1 : g t i 0 = 1
  · rw [if_pos (by rw [s1]), if_pos (Or.inl s1)]
  · rw [if_neg (fun k => s1 ((nI_eq (by omega) (by decide)).mp k))]
    by_cases s3 : g t i 0 = 3
    · rw [if_pos (by rw [s3]), if_pos (Or.inr s3)]
    · rw [if_neg (fun k => s3 ((nI_eq (by omega) (by decide)).mp k)), if_neg (show ¬ (g t i 0 = 1 ∨ g t i 0 = 3) from fun k => k.elim s1 s3)]
      by_cases s2 : g t i 0 = 2
      · rw [if_pos (by rw [s2]), if_pos s2]
      · rw [if_neg (fun k => s2 ((nI_eq (by omega) (by decide)).mp k)), if_neg s2]; rfl
theorem writes_ok {all : Nat → Int32} {c : Nat → Nat} {g : Nat → Nat → Nat → Nat} {num : Nat → Nat} {q : List Nat} (hs : zst c g) (hR : zRM all c g num q) {t i : Nat} (ht : t < 3) (hi : i < c t) : f9_writes all (nI t) (nI i) = some (nI (wbS (g t i 0) (g t i 1))) := by
  have hok := (hs t ht).2 i hi
  have h6 := hok.1
  have hx := hok.2.1
  unfold f9_writes wbS
  rw [its0 hs hR ht hi, ab_bind, its1 hs hR ht hi, ab_bind, one_shl (by omega), l_3]
  by_cases s3 : g t i 0 < 3
  · rw [if_neg (nI_ge s3 (by decide)), if_pos s3]
  · rw [if_pos (nI_le (by omega) (by omega)), if_neg s3]; rfl
theorem byNumber_ok {all : Nat → Int32} {c : Nat → Nat} {g : Nat → Nat → Nat → Nat} {num : Nat → Nat} {q : List Nat} (hs : zst c g) (hR : zRM all c g num q) {t i u j : Nat} (ht : t < 3) (hi : i < c t) (hu : u < 3) (hj : j < c u) : f9_byNumber all (nI t) (nI i) (nI u) (nI j) = some (bI (zby g t i u j)) := by
  have w1 := wbS_lt ((hs t ht).2 i hi)
  have w2 := wbS_lt ((hs u hu).2 j hj)
  unfold f9_byNumber f9_byNumber_b42 zby
  rw [writes_ok hs hR ht hi, ab_bind, readBy_ok hs hR hu hj, ab_bind, writes_ok hs hR hu hj, ab_bind, ab_bind, readBy_ok hs hR ht hi, ab_bind, fa_or]
  by_cases a : wbS (g t i 0) (g t i 1) &&& (rbS (g u j 0) (g u j 1) (g u j 2) ||| wbS (g u j 0) (g u j 1)) = 0
  · rw [if_pos ((ab_and0 (by omega)).mpr a)]
    by_cases b : wbS (g u j 0) (g u j 1) &&& rbS (g t i 0) (g t i 1) (g t i 2) = 0
    · rw [if_pos ((ab_and0 (by omega)).mpr b), decide_eq_false (not_not_intro a), decide_eq_false (not_not_intro b)]; rfl
    · rw [if_neg (fun k => b ((ab_and0 (by omega)).mp k)), decide_eq_false (not_not_intro a), decide_eq_true b]; rfl
  · rw [if_neg (fun k => a ((ab_and0 (by omega)).mp k)), decide_eq_true a]; rfl
theorem areDependent_ok {all : Nat → Int32} {c : Nat → Nat} {g : Nat → Nat → Nat → Nat} {num : Nat → Nat} {q : List Nat} (hs : zst c g) (hR : zRM all c g num q) {t i u j : Nat} (ht : t < 3) (hi : i < c t) (hu : u < 3) (hj : j < c u) : f9_areDependent all (nI t) (nI i) (nI u) (nI j) = some (bI (zdp g t i u j)) := by
  have o1 := (hs t ht).2 i hi
  have o2 := (hs u hu).2 j hj
  have x1 := o1.2.1
  have x2 := o2.2.1
  have s1 := o1.1
  have s2 := o2.1
  have hb : ∀ b : Bool, f9_areDependent_b46 all (nI t) (nI i) (nI u) (nI j) (bI b) = some (bI (decide (t = u) || (b || zby g t i u j))) := by
    intro b
    unfold f9_areDependent_b46 f9_areDependent_b70
    by_cases e : t = u
    · rw [if_pos (by rw [e]), decide_eq_true e]; rfl
    · rw [if_neg (fun k => e ((nI_eq (by omega) (by omega)).mp k)), decide_eq_false e, Bool.false_or]
      cases b with
      | true => rw [bI_t, if_neg i_1ne0]; rfl
      | false =>
        rw [bI_f, if_pos rfl, byNumber_ok hs hR ht hi hu hj, ab_bind, Bool.false_or]
        cases zby g t i u j with
        | true => rw [bI_t, if_neg i_1ne0]
        | false => rw [bI_f, if_pos rfl]
  have hb0 : f9_areDependent_b45 all (nI t) (nI i) (nI u) (nI j) = some (bI (decide (t = u) || (false || zby g t i u j))) := hb false
  have hb1 : f9_areDependent_b46 all (nI t) (nI i) (nI u) (nI j) 1 = some (bI (decide (t = u) || (true || zby g t i u j))) := hb true
  unfold f9_areDependent zdp zlk
  rw [its0 hs hR ht hi, ab_bind, its0 hs hR hu hj, ab_bind, its1 hs hR ht hi, ab_bind, its1 hs hR hu hj, ab_bind, l_4, hb0, hb1]
  by_cases a : 4 ≤ g t i 0
  · rw [if_neg (nI_nlt a (by omega)), decide_eq_true a, Bool.true_and]
    by_cases b : 4 ≤ g u j 0
    · rw [if_neg (nI_nlt b (by omega)), decide_eq_true b, Bool.true_and]
      by_cases d : g t i 1 = g u j 1
      · rw [if_pos (by rw [d]), decide_eq_true d]
      · rw [if_neg (fun k => d ((nI_eq (by omega) (by omega)).mp k)), decide_eq_false d]
    · rw [if_pos (nI_lt (by omega) (by decide)), decide_eq_false b, Bool.false_and]
  · rw [if_pos (nI_lt (by omega) (by decide)), decide_eq_false a, Bool.false_and]
/-! who holds a lock, what can be done, for any 'how far' -/
def zFA (far : Nat → Int32) (c F : Nat → Nat) : Prop := ∀ t, t < 3 → far t = nI (F t) ∧ F t ≤ c t
theorem holderI {all far : Nat → Int32} {c F : Nat → Nat} {g : Nat → Nat → Nat → Nat} {num : Nat → Nat} {q : List Nat} (hs : zst c g) (hR : zRM all c g num q) (hF : zFA far c F) (kk : (Nat → Int32) → (Nat → Int32) → Int32 → Int32 → Int32 → Option Int32) {t l : Nat} (ht : t < 3) (hl : l < 4) (who : Int32) :
    ∀ (d i fuel : Nat), i + d = F t → f9_holder_l15 kk (d + fuel + 1) all far (nI l) who (nI t) (bI (zhld g t l i)) (nI i) = kk all far (nI l) (if zhld g t l (F t) = true then nI t else who) (nI (t + 1)) := by
  intro d
  have hFt := hF t ht
  have h4 := (hs t ht).1
  induction d with
  | zero =>
    intro i fuel hi
    have e : i = F t := by omega
    subst e
    rw [show 0 + fuel + 1 = fuel + 1 by omega, f9_holder_l15_s, ard_ok ht (by omega), ab_bind, hFt.1, if_pos (nI_le (Nat.le_refl _) (by omega))]
    unfold f9_holder_b92 f9_holder_b102
    cases zhld g t l (F t) with
    | true => rw [bI_t, if_neg i_1ne0, if_pos rfl, nI_1]
    | false => rw [bI_f, if_pos rfl, if_neg (by decide), nI_1]
  | succ d ih =>
    intro i fuel hi
    have hic : i < c t := by omega
    have ok := (hs t ht).2 i hic
    have s6 := ok.1
    have x4 := ok.2.1
    rw [show d + 1 + fuel + 1 = (d + fuel + 1) + 1 by omega, f9_holder_l15_s, ard_ok ht (by omega), ab_bind, hFt.1, if_neg (nI_ge (by omega) (by omega)), its0 hs hR ht hic, ab_bind, its1 hs hR ht hic, ab_bind, l_4]
    have hn := ih (i + 1) fuel (by omega)
    rw [zhld_s] at hn
    unfold f9_holder_b54 f9_holder_b55 f9_holder_b84
    rw [its0 hs hR ht hic, ab_bind, nI_1, l_4]
    by_cases a : 4 ≤ g t i 0
    · rw [if_neg (nI_nlt a (by omega))]
      by_cases b : g t i 1 = l
      · rw [if_pos (by rw [b]), if_neg i_1ne0]
        rw [if_pos ⟨a, b⟩] at hn
        by_cases e : g t i 0 = 4
        · rw [if_pos (by rw [e])]
          rw [decide_eq_true e] at hn
          exact hn
        · rw [if_neg (fun k => e ((nI_eq (by omega) (by decide)).mp k))]
          rw [decide_eq_false e] at hn
          exact hn
      · rw [if_neg (fun k => b ((nI_eq (by omega) (by omega)).mp k)), if_pos (show (0 : Int32) = 0 from rfl)]
        rw [if_neg (fun k => b k.2)] at hn
        exact hn
    · rw [if_pos (nI_lt (by omega) (by decide)), if_pos (show (0 : Int32) = 0 from rfl)]
      rw [if_neg (fun k => a k.1)] at hn
      exact hn
theorem holder_ok {all far : Nat → Int32} {c F : Nat → Nat} {g : Nat → Nat → Nat → Nat} {num : Nat → Nat} {q : List Nat} (hs : zst c g) (hR : zRM all c g num q) (hF : zFA far c F) {l : Nat} (hl : l < 4) : f9_holder all far (nI l) = some (nI (zhd g F l) - 1) := by
  have one : ∀ (n t : Nat) (who : Int32), t < 3 → f9_holder_l4 (n + 1) all far (nI l) who (nI t) = f9_holder_l4 n all far (nI l) (if zhld g t l (F t) = true then nI t else who) (nI (t + 1)) := by
    intro n t who ht
    have hFt := hF t ht
    have h4 := (hs t ht).1
    obtain ⟨fu, hf⟩ := kF (F t + 1) (by omega)
    have hf2 : kFUEL = F t + fu + 1 := by omega
    rw [f9_holder_l4_s, l_3, if_neg (nI_ge ht (by decide)), hf2]
    exact holderI hs hR hF (f9_holder_l4 n) ht hl who (F t) 0 fu (by omega)
  unfold f9_holder
  rw [kF4]
  show f9_holder_l4 _ all far (nI l) (-1) (nI 0) = _
  rw [one _ 0 _ (by decide), one _ 1 _ (by decide), one _ 2 _ (by decide), f9_holder_l4_s, l_3, if_pos (nI_le (by decide) (by decide))]
  unfold f9_holder_b109 zhd
  have h : ∀ a b d : Bool, (if a = true then nI 2 else if b = true then nI 1 else if d = true then nI 0 else (-1 : Int32)) = nI (if a = true then 3 else if b = true then 2 else if d = true then 1 else 0) - 1 := by decide +kernel
  exact congrArg some (h _ _ _)
theorem canDoM {all far : Nat → Int32} {c F : Nat → Nat} {g : Nat → Nat → Nat → Nat} {num : Nat → Nat} {q : List Nat} (hs : zst c g) (hR : zRM all c g num q) (hF : zFA far c F) {t : Nat} (ht : t < 3) : f9_canDo all far (nI t) = some (bI (zable c g F t)) := by
  have hFt := hF t ht
  have h4 := (hs t ht).1
  unfold f9_canDo
  rw [ard_ok ht (by omega), ab_bind, many_ok hR ht, ab_bind, hFt.1]
  by_cases e : F t = c t
  · rw [if_pos (by rw [e])]
    cases ha : zable c g F t with
    | false => rfl
    | true => have := zable_lt ha; omega
  · rw [if_neg (fun k => e ((nI_eq (by omega) (by omega)).mp k))]
    have hl : F t < c t := by omega
    have ok := (hs t ht).2 _ hl
    have s6 := ok.1
    rw [ab_bind, its0 hs hR ht hl, ab_bind, l_4]
    unfold f9_canDo_b54 f9_canDo_b70 f9_canDo_b80
    by_cases a : g t (F t) 0 < 4
    · rw [if_neg (nI_ge a (by decide)), l_4, if_pos (nI_lt a (by decide)), zable_iff.mpr ⟨hl, Or.inl a⟩]; rfl
    · have hx := ok.2.2.2.2 (by omega)
      have hb := zhd_le g F (g t (F t) 1)
      rw [if_pos (nI_le (by omega) (by omega)), ab_bind, its1 hs hR ht hl, ab_bind, holder_ok hs hR hF (by omega), ab_bind, l_4, if_neg (nI_nlt (by omega) (by omega))]
      by_cases s4 : g t (F t) 0 = 4
      · rw [if_pos (by rw [s4])]
        by_cases z : zhd g F (g t (F t) 1) = 0
        · rw [if_pos ((hold_m1 (by omega)).mpr z), zable_iff.mpr ⟨hl, Or.inr (Or.inl ⟨s4, z⟩)⟩]; rfl
        · rw [if_neg (fun k => z ((hold_m1 (by omega)).mp k)), l_5, if_neg (fun k => by have := (nI_eq (by omega) (by decide)).mp k; omega)]
          cases ha : zable c g F t with
          | false => rfl
          | true => rcases (zable_iff.mp ha).2 with k | k | k <;> omega
      · have s5 : g t (F t) 0 = 5 := by omega
        rw [if_neg (fun k => s4 ((nI_eq (by omega) (by decide)).mp k)), l_5, if_pos (by rw [s5])]
        by_cases z : zhd g F (g t (F t) 1) = t + 1
        · rw [if_pos ((hold_t (by omega) ht).mpr z), zable_iff.mpr ⟨hl, Or.inr (Or.inr ⟨s5, z⟩)⟩]; rfl
        · rw [if_neg (fun k => z ((hold_t (by omega) ht).mp k))]
          cases ha : zable c g F t with
          | false => rfl
          | true => rcases (zable_iff.mp ha).2 with k | k | k <;> omega
theorem isStill_ok {all far : Nat → Int32} {c F : Nat → Nat} {g : Nat → Nat → Nat → Nat} {num : Nat → Nat} {q : List Nat} (hs : zst c g) (hR : zRM all c g num q) (hF : zFA far c F) : f9_isStill all far = some (bI (!zable c g F 0 && (!zable c g F 1 && !zable c g F 2))) := by
  have h0 : f9_canDo all far 0 = some (bI (zable c g F 0)) := canDoM (t := 0) hs hR hF (by omega)
  have h1 : f9_canDo all far 1 = some (bI (zable c g F 1)) := canDoM (t := 1) hs hR hF (by omega)
  have h2 : f9_canDo all far 2 = some (bI (zable c g F 2)) := canDoM (t := 2) hs hR hF (by omega)
  unfold f9_isStill
  rw [h0, ab_bind, h1, ab_bind, h2, ab_bind]
  cases zable c g F 0 <;> cases zable c g F 1 <;> cases zable c g F 2 <;> rfl
/-! values -/
def zVE (values : Nat → Int32) (wrong : Int32) (e : (Nat → Nat) × Nat) : Prop := (∀ x, x < 4 → values x = nI (e.1 x)) ∧ wrong = nI e.2
theorem valuesBegin_ok {all : Nat → Int32} {c : Nat → Nat} {g : Nat → Nat → Nat → Nat} {num : Nat → Nat} {q : List Nat} (hR : zRM all c g num q) (values : Nat → Int32) (wrong : Int32) : ∃ z, f9_valuesBegin all values wrong = some z ∧ zVE z.1 z.2 (num, 0) := by
  have one : ∀ (n x : Nat) (vs : Nat → Int32), x < 4 → f9_valuesBegin_l7 (n + 1) all vs 0 (nI x) = f9_valuesBegin_l7 n all (upd vs x (nI (num x))) 0 (nI (x + 1)) := by
    intro n x vs hx
    rw [f9_valuesBegin_l7_s, l_4, if_neg (nI_ge hx (by decide)), l_39, nI_add, ard_ok (by omega) (by omega), ab_bind, hR.2.2.1 x hx, awr_ok hx (by omega), ab_bind, nI_1]
  unfold f9_valuesBegin
  rw [show kFUEL = 999999995 + 1 + 1 + 1 + 1 + 1 from rfl]
  have e0 : (0 : Int32) = nI 0 := rfl
  refine ⟨(upd (upd (upd (upd values 0 (nI (num 0))) 1 (nI (num 1))) 2 (nI (num 2))) 3 (nI (num 3)), 0), ?_, fun x hx => ?_, rfl⟩
  · show f9_valuesBegin_l7 _ all values 0 (nI 0) = _
    rw [one _ 0 _ (by decide), one _ 1 _ (by decide), one _ 2 _ (by decide), one _ 3 _ (by decide), f9_valuesBegin_l7_s, l_4, if_pos (nI_le (by decide) (by decide))]
  · have : x = 0 ∨ x = 1 ∨ x = 2 ∨ x = 3 := by omega
    rcases this with rfl | rfl | rfl | rfl <;> rfl
theorem doesStep_ok {all values : Nat → Int32} {wrong : Int32} {c : Nat → Nat} {g : Nat → Nat → Nat → Nat} {num : Nat → Nat} {q : List Nat} (hs : zst c g) (hR : zRM all c g num q) {e : (Nat → Nat) × Nat} (hV : zVE values wrong e) (he : ∀ y, y < 4 → e.1 y < 10) {t i : Nat} (ht : t < 3) (hi : i < c t) : ∃ z, f9_doesStep all values wrong (nI t) (nI i) = some z ∧ zVE z.1 z.2 (zdo e (g t i 0) (g t i 1) (g t i 2)) := by
  have ok := (hs t ht).2 i hi
  unfold f9_doesStep f9_doesStep_b125
  rw [its1 hs hR ht hi, ab_bind, its2 hs hR ht hi, ab_bind, its0 hs hR ht hi, ab_bind]
  have h6 := ok.1
  have hx := ok.2.1
  have hv := ok.2.2.1
  have h2v := ok.2.2.2.1
  generalize g t i 0 = s at *
  generalize g t i 1 = x at *
  generalize g t i 2 = v at *
  have wr : ∀ z : Nat, zVE (upd values x (nI z)) wrong (zup e.1 x z, e.2) := by
    intro z
    refine ⟨fun y hy => ?_, hV.2⟩
    show upd values x (nI z) y = nI (zup e.1 x z y)
    rw [ab_upd]
    unfold zup
    by_cases ey : y = x
    · rw [if_pos ey, if_pos ey]
    · rw [if_neg ey, if_neg ey, hV.1 y hy]
  have cs : s = 0 ∨ s = 1 ∨ s = 2 ∨ s = 3 ∨ s = 4 ∨ s = 5 := by omega
  rcases cs with rfl | rfl | rfl | rfl | rfl | rfl
  · rw [l_0, if_pos rfl, awr_ok hx (by omega), ab_bind]
    exact ⟨_, rfl, wr v⟩
  · rw [if_neg (by decide), l_1, if_pos rfl, ard_ok hx (by omega), ab_bind, hV.1 x hx, nI_add, l_10, pk_rem (by have := he x hx; omega) (by decide) (by decide), awr_ok hx (by omega), ab_bind]
    exact ⟨_, rfl, wr _⟩
  · rw [if_neg (by decide), if_neg (by decide), l_2, if_pos rfl, ard_ok (h2v rfl) (by omega), ab_bind, hV.1 v (h2v rfl), awr_ok hx (by omega), ab_bind]
    exact ⟨_, rfl, wr _⟩
  · have hxx := he x hx
    rw [if_neg (by decide), if_neg (by decide), if_neg (by decide), l_3, if_pos rfl, ard_ok hx (by omega), ab_bind, hV.1 x hx, hV.2]
    have e3 : zdo e 3 x v = (e.1, e.2 + if e.1 x = v then 0 else 1) := rfl
    rw [e3]
    by_cases ex : e.1 x = v
    · rw [if_pos (by rw [ex]), if_pos ex, l_0, nI_add]
      exact ⟨_, rfl, hV.1, rfl⟩
    · rw [if_neg (fun k => ex ((nI_eq (by omega) (by omega)).mp k)), if_neg ex, l_1, nI_add]
      exact ⟨_, rfl, hV.1, rfl⟩
  · rw [if_neg (by decide), if_neg (by decide), if_neg (by decide), if_neg (by decide)]
    exact ⟨_, rfl, hV⟩
  · rw [if_neg (by decide), if_neg (by decide), if_neg (by decide), if_neg (by decide)]
    exact ⟨_, rfl, hV⟩
theorem told4_ok {values : Nat → Int32} {f : Nat → Nat} (h : ∀ x, x < 4 → values x = nI (f x)) : f9_told4 (values 0) (values 1) (values 2) (values 3) = nI (zen f) := by
  unfold f9_told4 zen
  rw [h 0 (by omega), h 1 (by omega), h 2 (by omega), h 3 (by omega), l_1000, l_100, l_10, pk_mul, pk_mul, pk_mul, nI_add, nI_add, nI_add]
/-! the run at hand -/
theorem goesRun_ok {all : Nat → Int32} {c : Nat → Nat} {g : Nat → Nat → Nat → Nat} {num : Nat → Nat} {q : List Nat} (hP : zPG c g num) (hR : zRM all c g num q) (hq : zok c g q) (far : Nat → Int32) (depth : Int32) (tries values : Nat → Int32) (wrong : Int32) :
    ∃ z, f9_goesRun all far depth tries values wrong = some z ∧ (∀ t, t < 3 → z.1 t = nI (zfr q t)) ∧ zVE z.2.2.2.1 z.2.2.2.2 (zex num g q) := by
  obtain ⟨hs, hn, -⟩ := hP
  have hl := zlen_le hs hq
  have loop : ∀ (r y : List Nat) (fuel : Nat) (far : Nat → Int32) (depth : Int32) (tries values : Nat → Int32) (wrong : Int32), q = r.reverse ++ y → (∀ t, t < 3 → far t = nI (zfr y t)) → zVE values wrong (zex num g y) →
      ∃ z, f9_goesRun_l10 (r.length + fuel + 1) all far depth tries values wrong (nI y.length) = some z ∧ (∀ t, t < 3 → z.1 t = nI (zfr q t)) ∧ zVE z.2.2.2.1 z.2.2.2.2 (zex num g q) := by
    intro r
    induction r with
    | nil =>
      intro y fuel far depth tries values wrong e hf hV
      have e' : q = y := e
      subst e'
      rw [show ([] : List Nat).length + fuel + 1 = fuel + 1 by simp, f9_goesRun_l10_s, hR.2.2.2.1, if_pos (nI_le (Nat.le_refl _) (by omega))]
      exact ⟨_, rfl, hf, hV⟩
    | cons t r ih =>
      intro y fuel far depth tries values wrong e hf hV
      have e' : q = r.reverse ++ t :: y := by rw [e, List.reverse_cons, List.append_assoc]; rfl
      have hlen : q.length = r.length + (y.length + 1) := by rw [e', List.length_append, List.length_reverse, List.length_cons]
      have hok : zok c g (t :: y) := by
        have := hq
        rw [e'] at this
        exact zok_drop this
      have ht := hok.2.1
      have hlt := zable_lt hok.2.2
      have h4 := (hs t ht).1
      obtain ⟨z, z1, z2⟩ := doesStep_ok hs hR hV (zex_lt hs hn hok.1).1 ht hlt
      rw [show (t :: r).length + fuel + 1 = (r.length + fuel + 1) + 1 by rw [List.length_cons]; omega, f9_goesRun_l10_s, hR.2.2.2.1, if_neg (nI_ge (by omega) (by omega)), l_44, nI_add, ard_ok (by omega) (by omega), ab_bind, hR.2.2.2.2 _ t y e', ard_ok ht (by omega), ab_bind, hf t ht, z1, ab_bind, ab_bind, nI_1, awr_ok ht (by omega), ab_bind, nI_1]
      refine ih (t :: y) fuel _ depth tries z.1 z.2 e' (fun u hu => ?_) z2
      rw [ab_upd]
      by_cases eu : u = t
      · rw [if_pos eu, eu, zfr_same]
      · rw [if_neg eu, hf u hu, zfr_other y eu]
  unfold f9_goesRun f9_starts
  rw [ab_bind]
  obtain ⟨v, v1, v2⟩ := valuesBegin_ok hR values wrong
  rw [v1, ab_bind]
  obtain ⟨fu, hf⟩ := kF (q.length + 1) (by omega)
  have hf2 : kFUEL = q.reverse.length + fu + 1 := by rw [List.length_reverse]; omega
  rw [hf2]
  refine loop q.reverse [] fu _ _ _ _ _ (by simp) (fun t ht => ?_) v2
  have : t = 0 ∨ t = 1 ∨ t = 2 := by omega
  rcases this with rfl | rfl | rfl <;> rfl
