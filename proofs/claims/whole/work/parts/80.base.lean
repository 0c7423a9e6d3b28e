/-! numbers: what the pure side's machine arithmetic says over Nat -/
theorem fa_lt (a b : Int32) : a < b ↔ a.toInt < b.toInt := Int32.lt_iff_toInt_lt
theorem fa_le (a b : Int32) : a ≤ b ↔ a.toInt ≤ b.toInt := Int32.le_iff_toInt_le
theorem fa_eq (a b : Int32) : a = b ↔ a.toInt = b.toInt := Int32.toInt_inj.symm
theorem fa_lt64 (a b : Int64) : a < b ↔ a.toInt < b.toInt := Int64.lt_iff_toInt_lt
theorem fa_and (a b : Nat) : nI a &&& nI b = nI (a &&& b) := by
  apply Int32.toBitVec_inj.1
  show BitVec.ofNat 32 a &&& BitVec.ofNat 32 b = BitVec.ofNat 32 (a &&& b)
  apply BitVec.eq_of_getLsbD_eq
  intro i hi
  simp [hi]
theorem fa_or (a b : Nat) : nI a ||| nI b = nI (a ||| b) := by
  apply Int32.toBitVec_inj.1
  show BitVec.ofNat 32 a ||| BitVec.ofNat 32 b = BitVec.ofNat 32 (a ||| b)
  apply BitVec.eq_of_getLsbD_eq
  intro i hi
  simp [hi]
/-! literals -/
theorem l_0 : (0 : Int32) = nI 0 := rfl
theorem l_1 : (1 : Int32) = nI 1 := rfl
theorem l_2 : (2 : Int32) = nI 2 := rfl
theorem l_3 : (3 : Int32) = nI 3 := rfl
theorem l_4 : (4 : Int32) = nI 4 := rfl
theorem l_5 : (5 : Int32) = nI 5 := rfl
theorem l_6 : (6 : Int32) = nI 6 := rfl
theorem l_7 : (7 : Int32) = nI 7 := rfl
theorem l_8 : (8 : Int32) = nI 8 := rfl
theorem l_9 : (9 : Int32) = nI 9 := rfl
theorem l_10 : (10 : Int32) = nI 10 := rfl
theorem l_11 : (11 : Int32) = nI 11 := rfl
theorem l_12 : (12 : Int32) = nI 12 := rfl
theorem l_15 : (15 : Int32) = nI 15 := rfl
theorem l_25 : (25 : Int32) = nI 25 := rfl
theorem l_31 : (31 : Int32) = nI 31 := rfl
theorem l_32 : (32 : Int32) = nI 32 := rfl
theorem l_36 : (36 : Int32) = nI 36 := rfl
theorem l_39 : (39 : Int32) = nI 39 := rfl
theorem l_44 : (44 : Int32) = nI 44 := rfl
theorem l_48 : (48 : Int32) = nI 48 := rfl
theorem l_49 : (49 : Int32) = nI 49 := rfl
theorem l_56 : (56 : Int32) = nI 56 := rfl
theorem l_57 : (57 : Int32) = nI 57 := rfl
theorem l_59 : (59 : Int32) = nI 59 := rfl
theorem l_97 : (97 : Int32) = nI 97 := rfl
theorem l_99 : (99 : Int32) = nI 99 := rfl
theorem l_100 : (100 : Int32) = nI 100 := rfl
theorem l_102 : (102 : Int32) = nI 102 := rfl
theorem l_107 : (107 : Int32) = nI 107 := rfl
theorem l_108 : (108 : Int32) = nI 108 := rfl
theorem l_119 : (119 : Int32) = nI 119 := rfl
theorem l_120 : (120 : Int32) = nI 120 := rfl
theorem l_125 : (125 : Int32) = nI 125 := rfl
theorem l_128 : (128 : Int32) = nI 128 := rfl
theorem l_144 : (144 : Int32) = nI 144 := rfl
theorem l_224 : (224 : Int32) = nI 224 := rfl
theorem l_1000 : (1000 : Int32) = nI 1000 := rfl
theorem l_10000 : (10000 : Int32) = nI 10000 := rfl
theorem l_34650 : (34650 : Int32) = nI 34650 := rfl
/-! reading and writing in range -/
theorem ard_ok {f : Nat → Int32} {n i : Nat} (h : i < n) (hn : i < 2 ^ 31) : ard f n (nI i) = some (f i) := by
  unfold ard
  have h1 : ¬ (nI i < 0 ∨ n ≤ (nI i).toNatClampNeg) := by
    intro q
    rcases q with q | q
    · exact nI_pos hn q
    · rw [nI_clamp hn] at q; omega
  rw [if_neg h1, nI_clamp hn]
theorem awr_ok {f : Nat → Int32} {n i : Nat} {x : Int32} (h : i < n) (hn : i < 2 ^ 31) : awr f n (nI i) x = some (upd f i x) := by
  unfold awr
  have h1 : ¬ (nI i < 0 ∨ n ≤ (nI i).toNatClampNeg) := by
    intro q
    rcases q with q | q
    · exact nI_pos hn q
    · rw [nI_clamp hn] at q; omega
  rw [if_neg h1, nI_clamp hn]
theorem aidx_ok {n i : Nat} (h : i < n) (hn : i < 2 ^ 31) : aidx n (nI i) = some i := by
  unfold aidx
  have h1 : ¬ (nI i < 0 ∨ n ≤ (nI i).toNatClampNeg) := by
    intro q
    rcases q with q | q
    · exact nI_pos hn q
    · rw [nI_clamp hn] at q; omega
  rw [if_neg h1, nI_clamp hn]
theorem ab_bind {α β : Type} (a : α) (f : α → Option β) : (some a).bind f = f a := rfl
theorem ab_upd (f : Nat → Int32) (k j : Nat) (x : Int32) : upd f k x j = if j = k then x else f j := rfl
/-! negative ones -/
theorem ab_m1 : (-1 : Int32).toInt = -1 := by decide
theorem ab_m2 : (-2 : Int32).toInt = -2 := by decide
theorem ab_ne_m1 {n : Nat} (h : n < 2 ^ 31) : nI n ≠ -1 := by
  intro e
  rw [fa_eq, nI_toInt h, ab_m1] at e
  omega
theorem ab_m1_lt {n : Nat} (h : n < 2 ^ 31) : (-1 : Int32) < nI n := by
  rw [fa_lt, nI_toInt h, ab_m1]
  omega
theorem ab_dec (n : Nat) : nI (n + 1) - 1 = nI n := nI_pred n
theorem ab_decm (n : Nat) : nI (n + 1) + (-1) = nI n := pk_m1 n
theorem ab_dec0 : nI 0 - 1 = -1 := by decide
theorem ab_decm0 : nI 0 + (-1) = -1 := by decide
theorem ab_m1neg : (-1 : Int32) < 0 := by decide
/-! below, in -/
theorem ab_below_in {j b : Nat} (hj : j < b) (hb : b < 2 ^ 31) : f8_below (nI j) (nI b) = 1 := by
  unfold f8_below
  rw [if_neg (nI_pos (by omega)), if_neg (nI_ge hj hb)]
theorem ab_below (x : Int32) (b : Nat) (hb : b < 2 ^ 31) : (∃ j, j < b ∧ x = nI j ∧ f8_below x (nI b) = 1) ∨ f8_below x (nI b) = 0 := by
  unfold f8_below
  by_cases h : x < 0
  · rw [if_pos h]; exact Or.inr rfl
  · rw [if_neg h]
    by_cases h2 : nI b ≤ x
    · rw [if_pos h2]; exact Or.inr rfl
    · rw [if_neg h2]
      obtain ⟨j, hj, rfl⟩ := nI_of h
      refine Or.inl ⟨j, ?_, rfl, rfl⟩
      rw [nI_leI hb hj] at h2
      omega
theorem ab_in (x : Int32) (h : Nat) (hh : h + 1 < 2 ^ 31) : f9_in x.toInt64 (0 : Int64) (nI h).toInt64 = f8_below x (nI (h + 1)) := by
  unfold f9_in f8_below
  have e1 : (lg_cmp x.toInt64 0 < 0) ↔ x < 0 := by
    rw [lg_cmp_lt, fa_lt64, fa_lt, Int32.toInt_toInt64]
    rfl
  have e2 : (0 < lg_cmp x.toInt64 (nI h).toInt64) ↔ nI (h + 1) ≤ x := by
    rw [lg_cmp_gt, fa_lt64, fa_le, Int32.toInt_toInt64, Int32.toInt_toInt64, nI_toInt (by omega), nI_toInt hh]
    omega
  by_cases h1 : x < 0
  · rw [if_pos (e1.mpr h1), if_pos h1]
  · rw [if_neg (fun q => h1 (e1.mp q)), if_neg h1]
    by_cases h2 : nI (h + 1) ≤ x
    · rw [if_pos (e2.mpr h2), if_pos h2]
    · rw [if_neg (fun q => h2 (e2.mp q)), if_neg h2]
theorem ab_inM (x : Int32) : f9_in x.toInt64 (0 : Int64) (-1 : Int32).toInt64 = 0 := by
  unfold f9_in
  by_cases h1 : lg_cmp x.toInt64 0 < 0
  · rw [if_pos h1]
  · rw [if_neg h1, if_pos]
    rw [lg_cmp_lt, fa_lt64, Int32.toInt_toInt64] at h1
    rw [lg_cmp_gt, fa_lt64, Int32.toInt_toInt64, Int32.toInt_toInt64, ab_m1]
    have : (0 : Int64).toInt = 0 := by decide
    omega
/-! fuel -/
theorem kF (n : Nat) (h : n ≤ 1000000000) : ∃ m, kFUEL = n + m := ⟨1000000000 - n, by unfold kFUEL; omega⟩
theorem kF4 : kFUEL = 999999996 + 1 + 1 + 1 + 1 := rfl
/-! a moment's places of four bits -/
theorem ab_lN (x : Int64) : x = lN x.toBitVec.toNat := by
  apply Int64.toBitVec_inj.1
  show x.toBitVec = BitVec.ofNat 64 x.toBitVec.toNat
  simp
def nib (m : Int64) (p : Nat) : Nat := (m.toBitVec.toNat >>> (4 * p)) % 16
theorem nib_lt (m : Int64) (p : Nat) : nib m p < 16 := Nat.mod_lt _ (by decide)
theorem ab_sh : ∀ p, p < 16 → ((((4 : Int32) * nI p).toInt64 &&& 63).toBitVec.smod 64).toNat = 4 * p := by decide +kernel
theorem ab_sh2 : ∀ p, p < 16 → ((((4 : Int32) * nI p).toInt64.toUInt64 &&& Int64.toUInt64 63).toBitVec % 64).toNat = 4 * p := by decide +kernel
theorem at_nib {m : Int64} {p : Nat} (hp : p < 16) : f2_at m (nI p) = nI (nib m p) := by
  unfold f2_at ku_lshr
  have h1 := ab_sh2 p hp
  have e : ((m.toUInt64 >>> (((4 : Int32) * nI p).toInt64.toUInt64 &&& Int64.toUInt64 63)).toInt64).toBitVec = m.toBitVec >>> (4 * p) := by
    rw [← h1]
    exact UInt64.toBitVec_shiftRight _ _
  rw [ab_lN ((m.toUInt64 >>> (((4 : Int32) * nI p).toInt64.toUInt64 &&& Int64.toUInt64 63)).toInt64), lN_i, e, l_15, fa_and, BitVec.toNat_ushiftRight]
  have : (15 : Nat) = 2 ^ 4 - 1 := by decide
  rw [this, Nat.and_two_pow_sub_one_eq_mod]
  rfl
theorem with_bit {m : Int64} {p v i : Nat} (hp : p < 16) (hv : v < 16) (hi : i < 64) : (f2_with m (nI p) (nI v)).toBitVec.getLsbD i = if 4 * p ≤ i ∧ i < 4 * p + 4 then v.testBit (i - 4 * p) else m.toBitVec.getLsbD i := by
  have h1 := ab_sh p hp
  have e : (f2_with m (nI p) (nI v)).toBitVec = (m.toBitVec &&& ((15#64 <<< (4 * p)) ^^^ BitVec.allOnes 64)) ||| (BitVec.ofNat 64 v <<< (4 * p)) := by
    unfold f2_with
    rw [nI_l (show v < 2 ^ 31 by omega), ← h1]
    rfl
  rw [e, BitVec.getLsbD_or, BitVec.getLsbD_and, BitVec.getLsbD_xor, BitVec.getLsbD_shiftLeft, BitVec.getLsbD_shiftLeft, BitVec.getLsbD_allOnes, BitVec.getLsbD_ofNat, BitVec.getLsbD_ofNat]
  have h15 : ∀ k, Nat.testBit 15 k = decide (k < 4) := by
    intro k
    have e : (15 : Nat) = 2 ^ 4 - 1 := by decide
    rw [e, Nat.testBit_two_pow_sub_one]
  rw [h15]
  have hvb : ∀ k, 4 ≤ k → v.testBit k = false := fun k hk => Nat.testBit_lt_two_pow (Nat.lt_of_lt_of_le hv (Nat.pow_le_pow_right (by decide) hk : (2 : Nat) ^ 4 ≤ 2 ^ k))
  by_cases a : 4 * p ≤ i
  · by_cases b : i < 4 * p + 4
    · rw [if_pos ⟨a, b⟩]
      have c : ¬ i < 4 * p := by omega
      have d : i - 4 * p < 4 := by omega
      have d2 : i - 4 * p < 64 := by omega
      simp [hi, c, d, d2]
    · rw [if_neg (fun q => b q.2)]
      have c : ¬ i < 4 * p := by omega
      have d : ¬ i - 4 * p < 4 := by omega
      simp [hi, c, d, hvb _ (Nat.not_lt.mp d)]
  · rw [if_neg (fun q => a q.1)]
    have c : i < 4 * p := by omega
    simp [hi, c]
theorem nib_bit {m : Int64} {p j : Nat} : (nib m p).testBit j = (decide (j < 4) && m.toBitVec.getLsbD (4 * p + j)) := by
  unfold nib
  have h16 : (16 : Nat) = 2 ^ 4 := by decide
  rw [h16, Nat.testBit_mod_two_pow, Nat.testBit_shiftRight]
  rfl
theorem nib_with {m : Int64} {p v q : Nat} (hp : p < 16) (hv : v < 16) (hq : q < 16) : nib (f2_with m (nI p) (nI v)) q = if q = p then v else nib m q := by
  apply Nat.eq_of_testBit_eq
  intro j
  rw [nib_bit]
  by_cases hj : j < 4
  · rw [with_bit hp hv (by omega)]
    by_cases e : q = p
    · subst e
      rw [if_pos rfl, if_pos (by omega)]
      simp [hj]
    · rw [if_neg e, if_neg (by omega), nib_bit]
  · have hvb : ∀ w : Nat, w < 16 → w.testBit j = false := fun w hw => Nat.testBit_lt_two_pow (Nat.lt_of_lt_of_le hw (Nat.pow_le_pow_right (by decide) (Nat.not_lt.mp hj) : (2 : Nat) ^ 4 ≤ 2 ^ j))
    rw [hvb (if q = p then v else nib m q) (by split; exact hv; exact nib_lt m q)]
    simp [hj]
theorem nib_0 (p : Nat) : nib 0 p = 0 := by
  unfold nib
  show ((0 : Int64).toBitVec.toNat >>> (4 * p)) % 16 = 0
  have : (0 : Int64).toBitVec.toNat = 0 := by decide
  rw [this]
  simp
/-! the class's words for the places of a moment -/
theorem doneOf_nib {m : Int64} {t : Nat} (h : t < 3) : f2_doneOf m (nI t) = nI (nib m t) := at_nib (by omega)
theorem wrong_nib {m : Int64} : f2_wrongOnes m = nI (nib m 3) := at_nib (p := 3) (by decide)
theorem valueOf_nib {m : Int64} {x : Nat} (h : x < 4) : f2_valueOf m (nI x) = nI (nib m (4 + x)) := by
  unfold f2_valueOf
  rw [l_4, nI_add]
  exact at_nib (by omega)
theorem holder_nib {m : Int64} {x : Nat} (h : x < 2) : f2_holderOf m (nI x) = nI (nib m (8 + x)) - 1 := by
  unfold f2_holderOf
  rw [l_8, nI_add, at_nib (by omega)]
theorem withDone_nib {m : Int64} {t v q : Nat} (h : t < 3) (hv : v < 16) (hq : q < 16) : nib (f2_withDone m (nI t) (nI v)) q = if q = t then v else nib m q := nib_with (by omega) hv hq
theorem withValue_nib {m : Int64} {x v q : Nat} (h : x < 4) (hv : v < 16) (hq : q < 16) : nib (f2_withValue m (nI x) (nI v)) q = if q = 4 + x then v else nib m q := by
  unfold f2_withValue
  rw [l_4, nI_add]
  exact nib_with (by omega) hv hq
theorem withWrong_nib {m : Int64} {q : Nat} (hv : nib m 3 < 15) (hq : q < 16) : nib (f2_withOneWrongMore m) q = if q = 3 then nib m 3 + 1 else nib m q := by
  unfold f2_withOneWrongMore
  rw [wrong_nib, nI_1]
  exact nib_with (p := 3) (by decide) (by omega) hq
theorem withHolder_nib {m : Int64} {x t q : Nat} (h : x < 2) (ht : t < 15) (hq : q < 16) : nib (f2_withHolder m (nI x) (nI t)) q = if q = 8 + x then t + 1 else nib m q := by
  unfold f2_withHolder
  rw [l_8, nI_add, nI_1]
  exact nib_with (by omega) (by omega) hq
theorem withFree_nib {m : Int64} {x q : Nat} (h : x < 2) (hq : q < 16) : nib (f2_withHolder m (nI x) (-1)) q = if q = 8 + x then 0 else nib m q := by
  unfold f2_withHolder
  have e : (-1 : Int32) + 1 = nI 0 := by decide
  rw [l_8, nI_add, e]
  exact nib_with (by omega) (by decide) hq
/-! a step as an int -/
def pkS (s x v : Nat) : Nat := s + 8 * x + 32 * v
theorem packed_ok {s x v : Nat} (hs : s < 6) (hx : x < 4) (hv : v < 10) : f6_packed (nI s) (nI x) (nI v) = nI (pkS s x v) := by
  have h : ∀ s, s < 6 → ∀ x, x < 4 → ∀ v, v < 10 → f6_packed (nI s) (nI x) (nI v) = nI (pkS s x v) := by decide +kernel
  exact h s hs x hx v hv
theorem kind_ok {s x v : Nat} (hs : s < 6) (hx : x < 4) (hv : v < 10) : f6_kind (nI (pkS s x v)) = nI s := by
  have h : ∀ s, s < 6 → ∀ x, x < 4 → ∀ v, v < 10 → f6_kind (nI (pkS s x v)) = nI s := by decide +kernel
  exact h s hs x hx v hv
theorem target_ok {s x v : Nat} (hs : s < 6) (hx : x < 4) (hv : v < 10) : f6_target (nI (pkS s x v)) = nI x := by
  have h : ∀ s, s < 6 → ∀ x, x < 4 → ∀ v, v < 10 → f6_target (nI (pkS s x v)) = nI x := by decide +kernel
  exact h s hs x hx v hv
theorem value_ok {s x v : Nat} (hs : s < 6) (hx : x < 4) (hv : v < 10) : f6_value (nI (pkS s x v)) = nI v := by
  have h : ∀ s, s < 6 → ∀ x, x < 4 → ∀ v, v < 10 → f6_value (nI (pkS s x v)) = nI v := by decide +kernel
  exact h s hs x hx v hv
theorem pkS_lt {s x v : Nat} (hs : s < 6) (hx : x < 4) (hv : v < 10) : pkS s x v < 400 := by unfold pkS; omega
def okS (s x v : Nat) : Prop := s < 6 ∧ x < 4 ∧ v < 10 ∧ (s = 2 → v < 4) ∧ (4 ≤ s → x < 2)
def rbS (s x v : Nat) : Nat := if s = 1 ∨ s = 3 then 2 ^ x else if s = 2 then 2 ^ v else 0
def wbS (s x : Nat) : Nat := if s < 3 then 2 ^ x else 0
theorem readBits_ok {s x v : Nat} (h : okS s x v) : f6_readBits (nI (pkS s x v)) = nI (rbS s x v) := by
  have g : ∀ s, s < 6 → ∀ x, x < 4 → ∀ v, v < 10 → f6_readBits (nI (pkS s x v)) = nI (rbS s x v) := by decide +kernel
  exact g s h.1 x h.2.1 v h.2.2.1
theorem writeBits_ok {s x v : Nat} (h : okS s x v) : f6_writeBits (nI (pkS s x v)) = nI (wbS s x) := by
  have g : ∀ s, s < 6 → ∀ x, x < 4 → ∀ v, v < 10 → f6_writeBits (nI (pkS s x v)) = nI (wbS s x) := by decide +kernel
  exact g s h.1 x h.2.1 v h.2.2.1
theorem rbS_lt {s x v : Nat} (h : okS s x v) : rbS s x v < 1024 := by
  have g : ∀ s, s < 6 → ∀ x, x < 4 → ∀ v, v < 10 → rbS s x v < 1024 := by decide +kernel
  exact g s h.1 x h.2.1 v h.2.2.1
theorem wbS_lt {s x v : Nat} (h : okS s x v) : wbS s x < 16 := by
  have g : ∀ s, s < 6 → ∀ x, x < 4 → wbS s x < 16 := by decide +kernel
  exact g s h.1 x h.2.1
