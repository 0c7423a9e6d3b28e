/-! how many leaves there can be -/
def zfac : Nat → Nat
  | 0 => 1
  | n + 1 => (n + 1) * zfac n
def zT (a b d : Nat) : Nat := zfac (a + b + d) / (zfac a * zfac b * zfac d)
theorem zT_sum : ∀ a, a < 5 → ∀ b, b < 5 → ∀ d, d < 5 → (if a = 0 then 0 else zT (a - 1) b d) + ((if b = 0 then 0 else zT a (b - 1) d) + (if d = 0 then 0 else zT a b (d - 1))) ≤ zT a b d ∧ 1 ≤ zT a b d ∧ zT a b d ≤ 34650 := by decide +kernel
theorem zkid_len {c : Nat → Nat} {g : Nat → Nat → Nat → Nat} {n : Nat} {q : List Nat} {t K : Nat} (hq : zok c g q) (ht : t < 3)
    (h : zfr q t < c t → zok c g (t :: q) → (zsub c g n (t :: q)).length ≤ K) : (zkid c g n q t).length ≤ if c t - zfr q t = 0 then 0 else K := by
  unfold zkid
  by_cases hm : zmay c g q t = true
  · rw [if_pos hm]
    have h1 := zmay_ok hq ht hm
    have h2 := zable_lt h1.2.2
    rw [if_neg (by omega)]
    exact h h2 h1
  · rw [if_neg hm]; simp
theorem zsub_len {c : Nat → Nat} {g : Nat → Nat → Nat → Nat} (hc : ∀ t, t < 3 → c t ≤ 4) : ∀ (n : Nat) (q : List Nat), zok c g q → q.length + n = c 0 + c 1 + c 2 → (zsub c g n q).length ≤ zT (c 0 - zfr q 0) (c 1 - zfr q 1) (c 2 - zfr q 2) := by
  intro n
  have h0 := hc 0 (by omega)
  have h1 := hc 1 (by omega)
  have h2 := hc 2 (by omega)
  have hT : ∀ q : List Nat, _ := fun q => zT_sum (c 0 - zfr q 0) (by omega) (c 1 - zfr q 1) (by omega) (c 2 - zfr q 2) (by omega)
  induction n with
  | zero =>
    intro q hq hn
    exact (hT q).2.1
  | succ n ih =>
    intro q hq hn
    rw [zsub_s]
    by_cases hs : zstill c g q = true
    · rw [if_pos hs]; exact (hT q).2.1
    · rw [if_neg hs, List.length_append, List.length_append]
      have k0 := zkid_len (n := n) (t := 0) (K := zT (c 0 - zfr q 0 - 1) (c 1 - zfr q 1) (c 2 - zfr q 2)) hq (by omega) (fun hl hk => by
        have := ih (0 :: q) hk (by rw [List.length_cons]; omega)
        rw [zfr_same, zfr_other q (by omega : (1 : Nat) ≠ 0), zfr_other q (by omega : (2 : Nat) ≠ 0)] at this
        rw [Nat.sub_sub]; exact this)
      have k1 := zkid_len (n := n) (t := 1) (K := zT (c 0 - zfr q 0) (c 1 - zfr q 1 - 1) (c 2 - zfr q 2)) hq (by omega) (fun hl hk => by
        have := ih (1 :: q) hk (by rw [List.length_cons]; omega)
        rw [zfr_same, zfr_other q (by omega : (0 : Nat) ≠ 1), zfr_other q (by omega : (2 : Nat) ≠ 1)] at this
        rw [Nat.sub_sub]; exact this)
      have k2 := zkid_len (n := n) (t := 2) (K := zT (c 0 - zfr q 0) (c 1 - zfr q 1) (c 2 - zfr q 2 - 1)) hq (by omega) (fun hl hk => by
        have := ih (2 :: q) hk (by rw [List.length_cons]; omega)
        rw [zfr_same, zfr_other q (by omega : (0 : Nat) ≠ 2), zfr_other q (by omega : (1 : Nat) ≠ 2)] at this
        rw [Nat.sub_sub]; exact this)
      have := (hT q).1
      omega
theorem zall_len {c : Nat → Nat} {g : Nat → Nat → Nat → Nat} (hc : ∀ t, t < 3 → c t ≤ 4) : (zsub c g (c 0 + c 1 + c 2) []).length ≤ 34650 := by
  have h0 := hc 0 (by omega)
  have h1 := hc 1 (by omega)
  have h2 := hc 2 (by omega)
  have a := zsub_len (g := g) hc (c 0 + c 1 + c 2) [] trivial (by simp)
  have b := (zT_sum (c 0) (by omega) (c 1) (by omega) (c 2) (by omega)).2.2
  exact Nat.le_trans a b
/-! a row of threads as a number: forward, from a place on; and of a row with the latest ahead -/
def zcf : Nat → List Nat → Nat
  | _, [] => 0
  | k, t :: w => t * 4 ^ (11 - k) + zcf (k + 1) w
def zco : List Nat → Nat
  | [] => 0
  | t :: q => zco q + t * 4 ^ (11 - q.length)
def zrc (q : List Nat) : Nat := zco q * 16 + q.length
theorem zco_c (t : Nat) (q : List Nat) : zco (t :: q) = zco q + t * 4 ^ (11 - q.length) := rfl
theorem zcf_app : ∀ (a b : List Nat) (k : Nat), zcf k (a ++ b) = zcf k a + zcf (k + a.length) b
  | [], b, k => by show zcf k b = 0 + zcf (k + 0) b; simp
  | t :: a, b, k => by
    show t * 4 ^ (11 - k) + zcf (k + 1) (a ++ b) = t * 4 ^ (11 - k) + zcf (k + 1) a + zcf (k + (a.length + 1)) b
    rw [zcf_app a b (k + 1), ← Nat.add_assoc, show k + 1 + a.length = k + (a.length + 1) by omega]
theorem zco_cf : ∀ q : List Nat, zco q = zcf 0 q.reverse
  | [] => rfl
  | t :: q => by
    rw [zco_c, zco_cf q, List.reverse_cons, zcf_app, List.length_reverse, Nat.zero_add]
    show _ = _ + (t * 4 ^ (11 - q.length) + 0)
    omega
theorem zpow (k : Nat) (h : k < 12) : 4 ^ (12 - k) = 4 * 4 ^ (11 - k) := by
  rw [show 12 - k = (11 - k) + 1 by omega, Nat.pow_succ, Nat.mul_comm]
theorem zcf_lt : ∀ (w : List Nat) (k : Nat), (∀ u, u ∈ w → u < 4) → k + w.length ≤ 12 → zcf k w < 4 ^ (12 - k)
  | [], k, _, _ => Nat.pow_pos (by decide)
  | t :: w, k, h, hl => by
    rw [List.length_cons] at hl
    have h1 := zcf_lt w (k + 1) (fun u hu => h u (List.mem_cons_of_mem _ hu)) (by omega)
    have ht := h t List.mem_cons_self
    show t * 4 ^ (11 - k) + zcf (k + 1) w < _
    rw [zpow k (by omega)]
    rw [show 12 - (k + 1) = 11 - k by omega] at h1
    have : t * 4 ^ (11 - k) ≤ 3 * 4 ^ (11 - k) := Nat.mul_le_mul_right _ (by omega)
    omega
theorem zcf_dvd : ∀ (w : List Nat) (k e : Nat), k + w.length + e ≤ 12 → 4 ^ e ∣ zcf k w
  | [], k, e, _ => Nat.dvd_zero _
  | t :: w, k, e, h => by
    rw [List.length_cons] at h
    have h1 := zcf_dvd w (k + 1) e (by omega)
    have h2 : (4 : Nat) ^ e ∣ 4 ^ (11 - k) := Nat.pow_dvd_pow 4 (by omega)
    exact Nat.dvd_add (Nat.dvd_trans h2 (Nat.dvd_mul_left _ _)) h1
theorem zco_lt (q : List Nat) (h : ∀ u, u ∈ q → u < 4) (hl : q.length ≤ 12) : zco q < 4 ^ 12 := by
  rw [zco_cf]
  exact zcf_lt q.reverse 0 (fun u hu => h u (List.mem_reverse.mp hu)) (by rw [List.length_reverse]; omega)
theorem zco_dvd (q : List Nat) (e : Nat) (h : q.length + e ≤ 12) : 4 ^ e ∣ zco q := by
  rw [zco_cf]
  exact zcf_dvd q.reverse 0 e (by rw [List.length_reverse]; omega)
theorem zco_inj : ∀ (a b : List Nat), (∀ u, u ∈ a → u < 4) → (∀ u, u ∈ b → u < 4) → a.length = b.length → a.length ≤ 12 → zco a = zco b → a = b
  | [], [], _, _, _, _, _ => rfl
  | [], _ :: _, _, _, h, _, _ => by cases h
  | _ :: _, [], _, _, h, _, _ => by cases h
  | t :: a, u :: b, ha, hb, hl, h12, e => by
    rw [List.length_cons, List.length_cons] at hl
    rw [List.length_cons] at h12
    have hl' : a.length = b.length := by omega
    rw [zco_c, zco_c, ← hl'] at e
    obtain ⟨x, hx⟩ := zco_dvd a (12 - a.length) (by omega)
    obtain ⟨y, hy⟩ := zco_dvd b (12 - a.length) (by omega)
    rw [zpow a.length (by omega)] at hx hy
    have ht := ha t List.mem_cons_self
    have hu := hb u List.mem_cons_self
    have hp : 0 < 4 ^ (11 - a.length) := Nat.pow_pos (by decide)
    have e2 : 4 ^ (11 - a.length) * (4 * x + t) = 4 ^ (11 - a.length) * (4 * y + u) := by
      rw [Nat.mul_add, Nat.mul_add, ← Nat.mul_assoc, ← Nat.mul_assoc, Nat.mul_comm _ 4, ← hx, ← hy, Nat.mul_comm _ t, Nat.mul_comm _ u]
      exact e
    have e3 := Nat.eq_of_mul_eq_mul_left hp e2
    have et : t = u := by omega
    have exy : x = y := by omega
    have eab : zco a = zco b := by rw [hx, hy, exy]
    rw [et, zco_inj a b (fun v hv => ha v (List.mem_cons_of_mem _ hv)) (fun v hv => hb v (List.mem_cons_of_mem _ hv)) hl' (by omega) eab]
theorem zrc_inj {a b : List Nat} (ha : ∀ u, u ∈ a → u < 4) (hb : ∀ u, u ∈ b → u < 4) (la : a.length ≤ 12) (lb : b.length ≤ 12) (e : zrc a = zrc b) : a = b := by
  unfold zrc at e
  exact zco_inj a b ha hb (by omega) la (by omega)
theorem zrc_lt {q : List Nat} (h : ∀ u, u ∈ q → u < 4) (hl : q.length ≤ 12) : zrc q < 268435456 := by
  have := zco_lt q h hl
  have e : (4 : Nat) ^ 12 = 16777216 := by decide
  unfold zrc
  omega
/-! the leaves come in rising order -/
theorem zsub_bound {c : Nat → Nat} {g : Nat → Nat → Nat → Nat} (hc : ∀ t, t < 3 → c t ≤ 4) : ∀ (n : Nat) (q : List Nat), zok c g q → q.length + n = c 0 + c 1 + c 2 → ∀ x, x ∈ zsub c g n q → zco q ≤ zco x ∧ zco x < zco q + 4 ^ (12 - q.length) := by
  intro n
  have h0 := hc 0 (by omega)
  have h1 := hc 1 (by omega)
  have h2 := hc 2 (by omega)
  induction n with
  | zero =>
    intro q hq hn x hx
    have : x = q := by simpa [zsub] using hx
    subst this
    exact ⟨Nat.le_refl _, Nat.lt_add_of_pos_right (Nat.pow_pos (by decide))⟩
  | succ n ih =>
    intro q hq hn x hx
    rw [zsub_s] at hx
    by_cases hs : zstill c g q = true
    · rw [if_pos hs] at hx
      have : x = q := by simpa using hx
      subst this
      exact ⟨Nat.le_refl _, Nat.lt_add_of_pos_right (Nat.pow_pos (by decide))⟩
    · rw [if_neg hs] at hx
      have key : ∀ t, t < 3 → x ∈ zkid c g n q t → zco q ≤ zco x ∧ zco x < zco q + 4 ^ (12 - q.length) := by
        intro t ht hk
        unfold zkid at hk
        by_cases hm : zmay c g q t = true
        · rw [if_pos hm] at hk
          obtain ⟨a, b⟩ := ih (t :: q) (zmay_ok hq ht hm) (by rw [List.length_cons]; omega) x hk
          rw [zco_c] at a b
          rw [List.length_cons] at b
          rw [zpow q.length (by omega)]
          rw [show 12 - (q.length + 1) = 11 - q.length by omega] at b
          have : t * 4 ^ (11 - q.length) ≤ 2 * 4 ^ (11 - q.length) := Nat.mul_le_mul_right _ (by omega)
          omega
        · rw [if_neg hm] at hk; cases hk
      rcases List.mem_append.mp hx with h | h
      · exact key 0 (by omega) h
      · rcases List.mem_append.mp h with h | h
        · exact key 1 (by omega) h
        · exact key 2 (by omega) h
theorem zkid_bound {c : Nat → Nat} {g : Nat → Nat → Nat → Nat} (hc : ∀ t, t < 3 → c t ≤ 4) {n : Nat} {q : List Nat} (hq : zok c g q) (hn : q.length + (n + 1) = c 0 + c 1 + c 2) {t : Nat} (ht : t < 3) {x : List Nat} (hx : x ∈ zkid c g n q t) : zco q + t * 4 ^ (11 - q.length) ≤ zco x ∧ zco x < zco q + (t + 1) * 4 ^ (11 - q.length) := by
  have h0 := hc 0 (by omega)
  have h1 := hc 1 (by omega)
  have h2 := hc 2 (by omega)
  unfold zkid at hx
  by_cases hm : zmay c g q t = true
  · rw [if_pos hm] at hx
    obtain ⟨a, b⟩ := zsub_bound hc n (t :: q) (zmay_ok hq ht hm) (by rw [List.length_cons]; omega) x hx
    rw [zco_c] at a b
    rw [List.length_cons] at b
    rw [show 12 - (q.length + 1) = 11 - q.length by omega] at b
    rw [Nat.succ_mul]
    omega
  · rw [if_neg hm] at hx; cases hx
theorem zsub_sorted {c : Nat → Nat} {g : Nat → Nat → Nat → Nat} (hc : ∀ t, t < 3 → c t ≤ 4) : ∀ (n : Nat) (q : List Nat), zok c g q → q.length + n = c 0 + c 1 + c 2 → (zsub c g n q).Pairwise (fun a b => zco a < zco b) := by
  intro n
  induction n with
  | zero => intro q hq hn; exact List.pairwise_singleton _ _
  | succ n ih =>
    intro q hq hn
    rw [zsub_s]
    by_cases hs : zstill c g q = true
    · rw [if_pos hs]; exact List.pairwise_singleton _ _
    · rw [if_neg hs]
      have key : ∀ t, t < 3 → (zkid c g n q t).Pairwise (fun a b => zco a < zco b) := by
        intro t ht
        unfold zkid
        by_cases hm : zmay c g q t = true
        · rw [if_pos hm]
          exact ih (t :: q) (zmay_ok hq ht hm) (by rw [List.length_cons]; omega)
        · rw [if_neg hm]; exact List.Pairwise.nil
      have bd : ∀ t u, t < u → u < 3 → ∀ a, a ∈ zkid c g n q t → ∀ b, b ∈ zkid c g n q u → zco a < zco b := by
        intro t u htu hu a ha b hb
        have h1 := (zkid_bound hc hq hn (by omega) ha).2
        have h2 := (zkid_bound hc hq hn hu hb).1
        have : (t + 1) * 4 ^ (11 - q.length) ≤ u * 4 ^ (11 - q.length) := Nat.mul_le_mul_right _ (by omega)
        omega
      refine List.pairwise_append.mpr ⟨key 0 (by omega), List.pairwise_append.mpr ⟨key 1 (by omega), key 2 (by omega), fun a ha b hb => bd 1 2 (by omega) (by omega) a ha b hb⟩, fun a ha b hb => ?_⟩
      rcases List.mem_append.mp hb with h | h
      · exact bd 0 1 (by omega) (by omega) a ha b h
      · exact bd 0 2 (by omega) (by omega) a ha b h
/-! what an order ends at -/
def zup (f : Nat → Nat) (k x : Nat) : Nat → Nat := fun j => if j = k then x else f j
def zdo (e : (Nat → Nat) × Nat) (s x v : Nat) : (Nat → Nat) × Nat :=
  if s = 0 then (zup e.1 x v, e.2) else if s = 1 then (zup e.1 x ((e.1 x + v) % 10), e.2) else if s = 2 then (zup e.1 x (e.1 v), e.2) else if s = 3 then (e.1, e.2 + if e.1 x = v then 0 else 1) else e
def zex (num : Nat → Nat) (g : Nat → Nat → Nat → Nat) : List Nat → (Nat → Nat) × Nat
  | [] => (num, 0)
  | t :: q => zdo (zex num g q) (g t (zfr q t) 0) (g t (zfr q t) 1) (g t (zfr q t) 2)
def zen (f : Nat → Nat) : Nat := 1000 * f 0 + 100 * f 1 + 10 * f 2 + f 3
theorem zex_c (num : Nat → Nat) (g : Nat → Nat → Nat → Nat) (t : Nat) (q : List Nat) : zex num g (t :: q) = zdo (zex num g q) (g t (zfr q t) 0) (g t (zfr q t) 1) (g t (zfr q t) 2) := rfl
theorem zdo_lt {e : (Nat → Nat) × Nat} {s x v : Nat} (h : okS s x v) (he : ∀ y, y < 4 → e.1 y < 10) : (∀ y, y < 4 → (zdo e s x v).1 y < 10) ∧ (zdo e s x v).2 ≤ e.2 + 1 := by
  obtain ⟨h1, h2, h3, h4, h5⟩ := h
  unfold zdo
  by_cases s0 : s = 0
  · rw [if_pos s0]
    refine ⟨fun y hy => ?_, Nat.le_succ _⟩
    show zup e.1 x v y < 10
    unfold zup
    by_cases c : y = x
    · rw [if_pos c]; exact h3
    · rw [if_neg c]; exact he y hy
  · rw [if_neg s0]
    by_cases s1 : s = 1
    · rw [if_pos s1]
      refine ⟨fun y hy => ?_, Nat.le_succ _⟩
      show zup e.1 x _ y < 10
      unfold zup
      by_cases c : y = x
      · rw [if_pos c]; exact Nat.mod_lt _ (by decide)
      · rw [if_neg c]; exact he y hy
    · rw [if_neg s1]
      by_cases s2 : s = 2
      · rw [if_pos s2]
        refine ⟨fun y hy => ?_, Nat.le_succ _⟩
        show zup e.1 x _ y < 10
        unfold zup
        by_cases c : y = x
        · rw [if_pos c]; exact he v (h4 s2)
        · rw [if_neg c]; exact he y hy
      · rw [if_neg s2]
        by_cases s3 : s = 3
        · rw [if_pos s3]
          refine ⟨he, ?_⟩
          show e.2 + (if e.1 x = v then 0 else 1) ≤ e.2 + 1
          by_cases c : e.1 x = v
          · rw [if_pos c]; omega
          · rw [if_neg c]; omega
        · rw [if_neg s3]
          exact ⟨he, Nat.le_succ _⟩
theorem zex_lt {c : Nat → Nat} {g : Nat → Nat → Nat → Nat} {num : Nat → Nat} (hs : zst c g) (hn : ∀ y, y < 4 → num y < 10) : ∀ {q : List Nat}, zok c g q → (∀ y, y < 4 → (zex num g q).1 y < 10) ∧ (zex num g q).2 ≤ q.length
  | [], _ => ⟨hn, Nat.le_refl _⟩
  | t :: q, h => by
    have a := zex_lt hs hn h.1
    have b := zdo_lt (zstep_ok hs h) a.1
    exact ⟨b.1, by rw [List.length_cons]; exact Nat.le_trans b.2 (Nat.succ_le_succ a.2)⟩
theorem zen_lt {f : Nat → Nat} (h : ∀ y, y < 4 → f y < 10) : zen f < 10000 := by
  have a := h 0 (by omega)
  have b := h 1 (by omega)
  have d := h 2 (by omega)
  have e := h 3 (by omega)
  unfold zen
  omega
