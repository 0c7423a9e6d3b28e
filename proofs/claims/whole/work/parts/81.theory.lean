/-! programs over Nat: c t how many steps a thread has, g t i w the three numbers of a step (sort, x, v); rows of threads with the latest ahead -/
def zfr : List Nat → Nat → Nat
  | [], _ => 0
  | u :: q, t => if u = t then zfr q t + 1 else zfr q t
def zhld (g : Nat → Nat → Nat → Nat) (t l : Nat) : Nat → Bool
  | 0 => false
  | n + 1 => if 4 ≤ g t n 0 ∧ g t n 1 = l then decide (g t n 0 = 4) else zhld g t l n
def zhd (g : Nat → Nat → Nat → Nat) (far : Nat → Nat) (l : Nat) : Nat :=
  if zhld g 2 l (far 2) = true then 3 else if zhld g 1 l (far 1) = true then 2 else if zhld g 0 l (far 0) = true then 1 else 0
def zable (c : Nat → Nat) (g : Nat → Nat → Nat → Nat) (far : Nat → Nat) (t : Nat) : Bool :=
  decide (far t < c t) && (decide (g t (far t) 0 < 4) || ((decide (g t (far t) 0 = 4) && decide (zhd g far (g t (far t) 1) = 0)) || (decide (g t (far t) 0 = 5) && decide (zhd g far (g t (far t) 1) = t + 1))))
def zok (c : Nat → Nat) (g : Nat → Nat → Nat → Nat) : List Nat → Prop
  | [] => True
  | t :: q => zok c g q ∧ t < 3 ∧ zable c g (zfr q) t = true
def zst (c : Nat → Nat) (g : Nat → Nat → Nat → Nat) : Prop := ∀ t, t < 3 → c t ≤ 4 ∧ ∀ i, i < c t → okS (g t i 0) (g t i 1) (g t i 2)
def zun (g : Nat → Nat → Nat → Nat) (far : Nat → Nat) : Prop := ∀ l t u, t < 3 → u < 3 → zhld g t l (far t) = true → zhld g u l (far u) = true → t = u
theorem zfr_c (t u : Nat) (q : List Nat) : zfr (t :: q) u = if t = u then zfr q u + 1 else zfr q u := rfl
theorem zfr_same (t : Nat) (q : List Nat) : zfr (t :: q) t = zfr q t + 1 := by rw [zfr_c, if_pos rfl]
theorem zfr_other {t u : Nat} (q : List Nat) (h : u ≠ t) : zfr (t :: q) u = zfr q u := by rw [zfr_c, if_neg (fun e => h e.symm)]
theorem zhld_s (g : Nat → Nat → Nat → Nat) (t l n : Nat) : zhld g t l (n + 1) = if 4 ≤ g t n 0 ∧ g t n 1 = l then decide (g t n 0 = 4) else zhld g t l n := rfl
theorem zhd_0 {g : Nat → Nat → Nat → Nat} {far : Nat → Nat} {l : Nat} : zhd g far l = 0 ↔ ∀ t, t < 3 → zhld g t l (far t) = false := by
  unfold zhd
  constructor
  · intro h t ht
    by_cases h2 : zhld g 2 l (far 2) = true
    · rw [if_pos h2] at h; omega
    · rw [if_neg h2] at h
      by_cases h1 : zhld g 1 l (far 1) = true
      · rw [if_pos h1] at h; omega
      · rw [if_neg h1] at h
        by_cases h0 : zhld g 0 l (far 0) = true
        · rw [if_pos h0] at h; omega
        · have : t = 0 ∨ t = 1 ∨ t = 2 := by omega
          rcases this with rfl | rfl | rfl
          · exact Bool.not_eq_true _ ▸ h0
          · exact Bool.not_eq_true _ ▸ h1
          · exact Bool.not_eq_true _ ▸ h2
  · intro h
    rw [h 0 (by omega), h 1 (by omega), h 2 (by omega)]
    rfl
theorem zhd_t {g : Nat → Nat → Nat → Nat} {far : Nat → Nat} {l t : Nat} (hu : zun g far) (ht : t < 3) : zhd g far l = t + 1 ↔ zhld g t l (far t) = true := by
  unfold zhd
  have e : t = 0 ∨ t = 1 ∨ t = 2 := by omega
  by_cases h2 : zhld g 2 l (far 2) = true
  · rw [if_pos h2]
    constructor
    · intro h; have : t = 2 := by omega
      subst this; exact h2
    · intro h; have := hu l t 2 ht (by omega) h h2; omega
  · rw [if_neg h2]
    by_cases h1 : zhld g 1 l (far 1) = true
    · rw [if_pos h1]
      constructor
      · intro h; have : t = 1 := by omega
        subst this; exact h1
      · intro h; have := hu l t 1 ht (by omega) h h1; omega
    · rw [if_neg h1]
      by_cases h0 : zhld g 0 l (far 0) = true
      · rw [if_pos h0]
        constructor
        · intro h; have : t = 0 := by omega
          subst this; exact h0
        · intro h; have := hu l t 0 ht (by omega) h h0; omega
      · rw [if_neg h0]
        constructor
        · intro h; omega
        · intro h
          rcases e with rfl | rfl | rfl
          · exact absurd h h0
          · exact absurd h h1
          · exact absurd h h2
theorem zhd_le (g : Nat → Nat → Nat → Nat) (far : Nat → Nat) (l : Nat) : zhd g far l ≤ 3 := by
  unfold zhd
  split
  · omega
  · split
    · omega
    · split <;> omega
theorem zhd_cong {g : Nat → Nat → Nat → Nat} {far far' : Nat → Nat} {l : Nat} (h : ∀ t, t < 3 → zhld g t l (far t) = zhld g t l (far' t)) : zhd g far l = zhd g far' l := by
  unfold zhd
  rw [h 0 (by omega), h 1 (by omega), h 2 (by omega)]
/-- what a step does to who holds -/
theorem zhld_step (g : Nat → Nat → Nat → Nat) (t : Nat) (q : List Nat) (u l : Nat) : zhld g u l (zfr (t :: q) u) = if u = t ∧ 4 ≤ g t (zfr q t) 0 ∧ g t (zfr q t) 1 = l then decide (g t (zfr q t) 0 = 4) else zhld g u l (zfr q u) := by
  by_cases e : u = t
  · subst e
    rw [zfr_same, zhld_s]
    by_cases h : 4 ≤ g u (zfr q u) 0 ∧ g u (zfr q u) 1 = l
    · rw [if_pos h, if_pos ⟨rfl, h⟩]
    · rw [if_neg h, if_neg (fun k => h k.2)]
  · rw [zfr_other q e, if_neg (fun k => e k.1)]
theorem zable_lt {c : Nat → Nat} {g : Nat → Nat → Nat → Nat} {far : Nat → Nat} {t : Nat} (h : zable c g far t = true) : far t < c t := by
  unfold zable at h
  rw [Bool.and_eq_true, decide_eq_true_eq] at h
  exact h.1
theorem zable_iff {c : Nat → Nat} {g : Nat → Nat → Nat → Nat} {far : Nat → Nat} {t : Nat} : zable c g far t = true ↔ far t < c t ∧ (g t (far t) 0 < 4 ∨ (g t (far t) 0 = 4 ∧ zhd g far (g t (far t) 1) = 0) ∨ (g t (far t) 0 = 5 ∧ zhd g far (g t (far t) 1) = t + 1)) := by
  unfold zable
  simp only [Bool.and_eq_true, Bool.or_eq_true, decide_eq_true_eq]
theorem zhd_stepU {c : Nat → Nat} {g : Nat → Nat → Nat → Nat} {t : Nat} {q : List Nat} (hu : zun g (zfr q)) (ht : t < 3) (ha : zable c g (zfr q) t = true) :
    zun g (zfr (t :: q)) ∧ ∀ l, zhd g (zfr (t :: q)) l = if 4 ≤ g t (zfr q t) 0 ∧ g t (zfr q t) 1 = l then (if g t (zfr q t) 0 = 4 then t + 1 else 0) else zhd g (zfr q) l := by
  have hA := (zable_iff.mp ha).2
  have hU : zun g (zfr (t :: q)) := by
    intro l a b hla hlb h1 h2
    rw [zhld_step] at h1 h2
    by_cases hl : 4 ≤ g t (zfr q t) 0 ∧ g t (zfr q t) 1 = l
    · obtain ⟨h4, hx⟩ := hl
      subst hx
      rcases hA with hA | ⟨hA, hz⟩ | ⟨hA, hz⟩
      · omega
      · have hz' := zhd_0.mp hz
        by_cases ea : a = t
        · by_cases eb : b = t
          · omega
          · rw [if_neg (fun k => eb k.1), hz' b hlb] at h2; cases h2
        · rw [if_neg (fun k => ea k.1), hz' a hla] at h1; cases h1
      · have hz' := (zhd_t hu ht).mp hz
        have n4 : g t (zfr q t) 0 ≠ 4 := by omega
        by_cases ea : a = t
        · subst ea
          rw [if_pos ⟨rfl, h4, rfl⟩] at h1
          exact absurd (of_decide_eq_true h1) n4
        · rw [if_neg (fun k => ea k.1)] at h1
          exact absurd (hu _ a t hla ht h1 hz') ea
    · rw [if_neg (fun k => hl k.2)] at h1 h2
      exact hu l a b hla hlb h1 h2
  refine ⟨hU, fun l => ?_⟩
  by_cases hl : 4 ≤ g t (zfr q t) 0 ∧ g t (zfr q t) 1 = l
  · rw [if_pos hl]
    obtain ⟨h4, hx⟩ := hl
    by_cases e4 : g t (zfr q t) 0 = 4
    · rw [if_pos e4]
      refine (zhd_t hU ht).mpr ?_
      rw [zhld_step, if_pos ⟨rfl, h4, hx⟩]
      exact decide_eq_true e4
    · rw [if_neg e4]
      refine zhd_0.mpr (fun u hu3 => ?_)
      rw [zhld_step]
      by_cases eu : u = t
      · rw [if_pos ⟨eu, h4, hx⟩]
        exact decide_eq_false e4
      · rw [if_neg (fun k => eu k.1)]
        rcases hA with hA | ⟨hA, hz⟩ | ⟨hA, hz⟩
        · omega
        · omega
        · have hz' := (zhd_t hu ht).mp hz
          cases hh : zhld g u l (zfr q u) with
          | false => rfl
          | true => rw [hx] at hz'; exact absurd (hu l u t hu3 ht hh hz') eu
  · rw [if_neg hl]
    refine zhd_cong (fun u _ => ?_)
    rw [zhld_step, if_neg (fun k => hl k.2)]
theorem zun_ok {c : Nat → Nat} {g : Nat → Nat → Nat → Nat} : ∀ {q : List Nat}, zok c g q → zun g (zfr q)
  | [], _ => fun l t u _ _ h _ => by cases h
  | t :: q, h => (zhd_stepU (zun_ok h.1) h.2.1 h.2.2).1
theorem zhd_step {c : Nat → Nat} {g : Nat → Nat → Nat → Nat} {t : Nat} {q : List Nat} (h : zok c g (t :: q)) (l : Nat) : zhd g (zfr (t :: q)) l = if 4 ≤ g t (zfr q t) 0 ∧ g t (zfr q t) 1 = l then (if g t (zfr q t) 0 = 4 then t + 1 else 0) else zhd g (zfr q) l :=
  (zhd_stepU (zun_ok h.1) h.2.1 h.2.2).2 l
theorem zfr_le {c : Nat → Nat} {g : Nat → Nat → Nat → Nat} : ∀ {q : List Nat}, zok c g q → ∀ u, zfr q u ≤ c u
  | [], _, u => Nat.zero_le _
  | t :: q, h, u => by
    have h1 := zable_lt h.2.2
    have h2 := zfr_le h.1 u
    by_cases e : u = t
    · subst e; rw [zfr_same]; omega
    · rw [zfr_other q e]; exact h2
theorem zlen {c : Nat → Nat} {g : Nat → Nat → Nat → Nat} : ∀ {q : List Nat}, zok c g q → q.length = zfr q 0 + zfr q 1 + zfr q 2
  | [], _ => rfl
  | t :: q, h => by
    have h2 := zlen h.1
    have ht := h.2.1
    have e : t = 0 ∨ t = 1 ∨ t = 2 := by omega
    rw [List.length_cons, zfr_c, zfr_c, zfr_c]
    rcases e with rfl | rfl | rfl
    · simp; omega
    · simp; omega
    · simp; omega
theorem zlen_le {c : Nat → Nat} {g : Nat → Nat → Nat → Nat} {q : List Nat} (hs : zst c g) (h : zok c g q) : q.length ≤ 12 := by
  have h1 := zlen h
  have a := zfr_le h 0
  have b := zfr_le h 1
  have d := zfr_le h 2
  have a4 := (hs 0 (by omega)).1
  have b4 := (hs 1 (by omega)).1
  have d4 := (hs 2 (by omega)).1
  omega
theorem zlen_tot {c : Nat → Nat} {g : Nat → Nat → Nat → Nat} {q : List Nat} (h : zok c g q) : q.length ≤ c 0 + c 1 + c 2 := by
  have h1 := zlen h
  have a := zfr_le h 0
  have b := zfr_le h 1
  have d := zfr_le h 2
  omega
theorem zmem {c : Nat → Nat} {g : Nat → Nat → Nat → Nat} : ∀ {q : List Nat}, zok c g q → ∀ u, u ∈ q → u < 3
  | [], _, u, hu => by cases hu
  | t :: q, h, u, hu => by
    rcases List.mem_cons.mp hu with e | e
    · rw [e]; exact h.2.1
    · exact zmem h.1 u e
theorem zstep_ok {c : Nat → Nat} {g : Nat → Nat → Nat → Nat} {q : List Nat} {t : Nat} (hs : zst c g) (h : zok c g (t :: q)) : okS (g t (zfr q t) 0) (g t (zfr q t) 1) (g t (zfr q t) 2) := (hs t h.2.1).2 _ (zable_lt h.2.2)
/-! which steps depend on one another -/
def zby (g : Nat → Nat → Nat → Nat) (t i u j : Nat) : Bool :=
  decide (wbS (g t i 0) (g t i 1) &&& (rbS (g u j 0) (g u j 1) (g u j 2) ||| wbS (g u j 0) (g u j 1)) ≠ 0) || decide (wbS (g u j 0) (g u j 1) &&& rbS (g t i 0) (g t i 1) (g t i 2) ≠ 0)
def zlk (g : Nat → Nat → Nat → Nat) (t i u j : Nat) : Bool := decide (4 ≤ g t i 0) && (decide (4 ≤ g u j 0) && decide (g t i 1 = g u j 1))
def zdp (g : Nat → Nat → Nat → Nat) (t i u j : Nat) : Bool := decide (t = u) || (zlk g t i u j || zby g t i u j)
theorem zor0 (a b : Nat) : a ||| b = 0 ↔ a = 0 ∧ b = 0 := by
  constructor
  · intro h
    constructor
    · apply Nat.eq_of_testBit_eq
      intro i
      have := congrArg (fun n => Nat.testBit n i) h
      simp only [Nat.testBit_or, Nat.zero_testBit, Bool.or_eq_false_iff] at this
      rw [this.1, Nat.zero_testBit]
    · apply Nat.eq_of_testBit_eq
      intro i
      have := congrArg (fun n => Nat.testBit n i) h
      simp only [Nat.testBit_or, Nat.zero_testBit, Bool.or_eq_false_iff] at this
      rw [this.2, Nat.zero_testBit]
  · rintro ⟨rfl, rfl⟩; rfl
theorem zby_iff {g : Nat → Nat → Nat → Nat} {t i u j : Nat} : zby g t i u j = false ↔ wbS (g t i 0) (g t i 1) &&& rbS (g u j 0) (g u j 1) (g u j 2) = 0 ∧ wbS (g t i 0) (g t i 1) &&& wbS (g u j 0) (g u j 1) = 0 ∧ wbS (g u j 0) (g u j 1) &&& rbS (g t i 0) (g t i 1) (g t i 2) = 0 := by
  unfold zby
  rw [Bool.or_eq_false_iff, decide_eq_false_iff_not, decide_eq_false_iff_not, Decidable.not_not, Decidable.not_not, Nat.and_or_distrib_left, zor0]
  constructor
  · rintro ⟨⟨a, b⟩, d⟩; exact ⟨a, b, d⟩
  · rintro ⟨a, b, d⟩; exact ⟨⟨a, b⟩, d⟩
theorem zby_symm (g : Nat → Nat → Nat → Nat) (t i u j : Nat) : zby g t i u j = zby g u j t i := by
  have h : ∀ t i u j, zby g t i u j = false → zby g u j t i = false := by
    intro t i u j h
    rw [zby_iff] at h ⊢
    obtain ⟨a, b, d⟩ := h
    exact ⟨d, by rw [Nat.and_comm]; exact b, a⟩
  cases h1 : zby g t i u j with
  | false => rw [h _ _ _ _ h1]
  | true =>
    cases h2 : zby g u j t i with
    | false => rw [h _ _ _ _ h2] at h1; exact h1.symm
    | true => rfl
theorem zlk_symm (g : Nat → Nat → Nat → Nat) (t i u j : Nat) : zlk g t i u j = zlk g u j t i := by
  unfold zlk
  by_cases a : 4 ≤ g t i 0 <;> by_cases b : 4 ≤ g u j 0 <;> by_cases d : g t i 1 = g u j 1
  · simp [a, b, d]
  · have d' : ¬ g u j 1 = g t i 1 := fun e => d e.symm
    simp [a, b, d, d']
  all_goals simp [a, b]
theorem zdp_symm (g : Nat → Nat → Nat → Nat) (t i u j : Nat) : zdp g t i u j = zdp g u j t i := by
  unfold zdp
  rw [zlk_symm, zby_symm]
  by_cases e : t = u
  · simp [e]
  · have e' : ¬ u = t := fun h => e h.symm
    simp [e, e']
theorem zdp_self (g : Nat → Nat → Nat → Nat) (t i j : Nat) : zdp g t i t j = true := by
  unfold zdp
  simp
theorem zdp_ne {g : Nat → Nat → Nat → Nat} {t i u j : Nat} (h : zdp g t i u j = false) : t ≠ u := by
  intro e
  subst e
  rw [zdp_self] at h
  cases h
theorem zdp_lk {g : Nat → Nat → Nat → Nat} {t i u j : Nat} (h : zdp g t i u j = false) : ¬ (4 ≤ g t i 0 ∧ 4 ≤ g u j 0 ∧ g t i 1 = g u j 1) := by
  rintro ⟨a, b, d⟩
  unfold zdp zlk at h
  simp [a, b, d] at h
theorem zable_indep {c : Nat → Nat} {g : Nat → Nat → Nat → Nat} {q : List Nat} {t u : Nat} (h : zok c g (t :: q)) (hd : zdp g t (zfr q t) u (zfr q u) = false) : zable c g (zfr (t :: q)) u = zable c g (zfr q) u := by
  have hne : u ≠ t := fun e => zdp_ne hd e.symm
  have hf := zfr_other q hne
  have hk := zdp_lk hd
  unfold zable
  rw [hf]
  by_cases h4 : g u (zfr q u) 0 < 4
  · have a : decide (g u (zfr q u) 0 < 4) = true := decide_eq_true h4
    rw [a, Bool.true_or, Bool.true_or]
  · have e := zhd_step h (g u (zfr q u) 1)
    rw [if_neg (fun k => hk ⟨k.1, by omega, k.2⟩)] at e
    rw [e]
/-! sorts of orders: may a thread go next so that the row stays a first one -/
def zmg (g : Nat → Nat → Nat → Nat) (u j : Nat) : List Nat → Bool
  | [] => true
  | t :: q => if zdp g t (zfr q t) u j = true then true else if u < t then false else zmg g u j q
def zmay (c : Nat → Nat) (g : Nat → Nat → Nat → Nat) (q : List Nat) (u : Nat) : Bool := zable c g (zfr q) u && zmg g u (zfr q u) q
def zsl (c : Nat → Nat) (g : Nat → Nat → Nat → Nat) (q : List Nat) (u : Nat) : Bool := zable c g (zfr q) u && !zmg g u (zfr q u) q
theorem zmg_c (g : Nat → Nat → Nat → Nat) (u j t : Nat) (q : List Nat) : zmg g u j (t :: q) = if zdp g t (zfr q t) u j = true then true else if u < t then false else zmg g u j q := rfl
theorem zsl_step {c : Nat → Nat} {g : Nat → Nat → Nat → Nat} {q : List Nat} {t u : Nat} (h : zok c g (t :: q)) : zsl c g (t :: q) u = ((zsl c g q u || (decide (u < t) && zable c g (zfr q) u)) && !zdp g t (zfr q t) u (zfr q u)) := by
  unfold zsl
  by_cases e : u = t
  · subst e
    rw [zmg_c, if_pos (zdp_self g u _ _), zdp_self]
    simp
  · rw [zmg_c, zfr_other q e]
    cases hd : zdp g t (zfr q t) u (zfr q u) with
    | true => simp
    | false =>
      rw [zable_indep h hd]
      by_cases hl : u < t
      · simp [hl]
        cases zable c g (zfr q) u <;> simp
      · simp [hl]
def zstill (c : Nat → Nat) (g : Nat → Nat → Nat → Nat) (q : List Nat) : Bool := !zable c g (zfr q) 0 && (!zable c g (zfr q) 1 && !zable c g (zfr q) 2)
def zsub (c : Nat → Nat) (g : Nat → Nat → Nat → Nat) : Nat → List Nat → List (List Nat)
  | 0, q => [q]
  | n + 1, q => if zstill c g q = true then [q] else (if zmay c g q 0 = true then zsub c g n (0 :: q) else []) ++ ((if zmay c g q 1 = true then zsub c g n (1 :: q) else []) ++ (if zmay c g q 2 = true then zsub c g n (2 :: q) else []))
def zkid (c : Nat → Nat) (g : Nat → Nat → Nat → Nat) (n : Nat) (q : List Nat) (t : Nat) : List (List Nat) := if zmay c g q t = true then zsub c g n (t :: q) else []
theorem zsub_s (c : Nat → Nat) (g : Nat → Nat → Nat → Nat) (n : Nat) (q : List Nat) : zsub c g (n + 1) q = if zstill c g q = true then [q] else zkid c g n q 0 ++ (zkid c g n q 1 ++ zkid c g n q 2) := rfl
theorem zmay_ok {c : Nat → Nat} {g : Nat → Nat → Nat → Nat} {q : List Nat} {t : Nat} (h : zok c g q) (ht : t < 3) (hm : zmay c g q t = true) : zok c g (t :: q) := by
  unfold zmay at hm
  rw [Bool.and_eq_true] at hm
  exact ⟨h, ht, hm.1⟩
theorem zstill_iff {c : Nat → Nat} {g : Nat → Nat → Nat → Nat} {q : List Nat} : zstill c g q = true ↔ ∀ t, t < 3 → zable c g (zfr q) t = false := by
  unfold zstill
  constructor
  · intro h t ht
    rw [Bool.and_eq_true, Bool.and_eq_true] at h
    obtain ⟨a, b, d⟩ := h
    have : t = 0 ∨ t = 1 ∨ t = 2 := by omega
    rcases this with rfl | rfl | rfl
    · simpa using a
    · simpa using b
    · simpa using d
  · intro h
    rw [h 0 (by omega), h 1 (by omega), h 2 (by omega)]
    rfl
theorem zfull {c : Nat → Nat} {g : Nat → Nat → Nat → Nat} {q : List Nat} (h : zok c g q) (hn : q.length = c 0 + c 1 + c 2) : zstill c g q = true := by
  have h1 := zlen h
  have a := zfr_le h 0
  have b := zfr_le h 1
  have d := zfr_le h 2
  refine zstill_iff.mpr (fun t ht => ?_)
  cases hh : zable c g (zfr q) t with
  | false => rfl
  | true =>
    have := zable_lt hh
    have e : t = 0 ∨ t = 1 ∨ t = 2 := by omega
    rcases e with rfl | rfl | rfl <;> omega
theorem zsub_still {c : Nat → Nat} {g : Nat → Nat → Nat → Nat} {q : List Nat} (n : Nat) (h : zstill c g q = true) : zsub c g n q = [q] := by
  cases n with
  | zero => rfl
  | succ n => rw [zsub_s, if_pos h]
theorem zkid_still {c : Nat → Nat} {g : Nat → Nat → Nat → Nat} {q : List Nat} {t : Nat} (n : Nat) (ht : t < 3) (h : zstill c g q = true) : zkid c g n q t = [] := by
  unfold zkid zmay
  rw [zstill_iff.mp h t ht]
  rfl
/-- all leaves are orders that begin so -/
theorem zsub_mem {c : Nat → Nat} {g : Nat → Nat → Nat → Nat} : ∀ (n : Nat) (q : List Nat), zok c g q → q.length + n = c 0 + c 1 + c 2 → ∀ x, x ∈ zsub c g n q → zok c g x ∧ zstill c g x = true ∧ ∃ p, x = p ++ q := by
  intro n
  induction n with
  | zero =>
    intro q hq hn x hx
    have : x = q := by simpa [zsub] using hx
    subst this
    exact ⟨hq, zfull hq (by omega), [], rfl⟩
  | succ n ih =>
    intro q hq hn x hx
    rw [zsub_s] at hx
    by_cases hs : zstill c g q = true
    · rw [if_pos hs] at hx
      have : x = q := by simpa using hx
      subst this
      exact ⟨hq, hs, [], rfl⟩
    · rw [if_neg hs] at hx
      have key : ∀ t, t < 3 → x ∈ zkid c g n q t → zok c g x ∧ zstill c g x = true ∧ ∃ p, x = p ++ q := by
        intro t ht hk
        unfold zkid at hk
        by_cases hm : zmay c g q t = true
        · rw [if_pos hm] at hk
          obtain ⟨a, b, p, e⟩ := ih (t :: q) (zmay_ok hq ht hm) (by rw [List.length_cons]; omega) x hk
          exact ⟨a, b, p ++ [t], by rw [e]; simp⟩
        · rw [if_neg hm] at hk; cases hk
      rcases List.mem_append.mp hx with h | h
      · exact key 0 (by omega) h
      · rcases List.mem_append.mp h with h | h
        · exact key 1 (by omega) h
        · exact key 2 (by omega) h
