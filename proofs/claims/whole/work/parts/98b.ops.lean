section OPS3
variable {now : sT} {kept : Nat → sT} {oldest size : Int32} {threads : sT} {rows ended : Nat → Int32} {known inAll count still wrong unlike : Int32} {bytes : Nat → Int32} {len rb rn rf : Int32} {all past : Nat → Int32} {states : Int32} {refused text : Nat → Int32} {textLong : Int32}
theorem o_reads (h : zREL now kept oldest size threads rows ended known inAll count still wrong unlike bytes len rb rn rf all past states refused text textLong) (tried : sT) (pl th kd tg vl sp tk : Int32) (counted : Nat → Int32) :
    ∃ z y, f8_reads now tried kept oldest size bytes len pl th kd tg vl = some z ∧ f9_reads all past states text textLong sp tk counted = some y ∧ z.1 = y.1 ∧ zREL z.2.1 z.2.2.2.1 z.2.2.2.2.1 z.2.2.2.2.2.1 threads rows ended known inAll count still wrong unlike bytes len rb rn rf y.2.1 y.2.2.1 y.2.2.2.1 refused text textLong := by
  obtain ⟨hS, hA, hO, hF, hT⟩ := h
  have hT' := hT
  have hS' := hS
  obtain ⟨tx, n, rfl, rfl, hX, hY⟩ := hT
  obtain ⟨c, g, num, q, p1, p2, p3, p4⟩ := hS
  have hn := hX.1
  obtain ⟨u, u1, u2⟩ := takeFrom_ok (v := tried) p1.1 p3
  obtain ⟨cn, cn1, cn2⟩ := counts_ok p4 counted
  have h0 := (p1.1 0 (by omega)).1
  have h1 := (p1.1 1 (by omega)).1
  have h2 := (p1.1 2 (by omega)).1
  have hsi : f5_stepsInAll u = some (nI (zSum c)) := stepsInAll_ok u2.1
  have hsn : f5_stepsInAll now = some (nI (zSum c)) := stepsInAll_ok p3.1
  have hsum12 : zSum c ≤ 12 := by unfold zSum; omega
  obtain ⟨fu, hfu⟩ := kF (n + 1) (by omega)
  have hf2 : kFUEL = n - 0 + fu + 1 := by omega
  have hri : f7_readInto bytes (nI n) pl th kd tg vl u = zCL bytes n fu 0 0 th kd tg vl u (nI (zSum c)) := by
    unfold f7_readInto zCL
    rw [hsi, ab_bind, hf2]
    rfl
  unfold f8_reads f9_reads
  rw [u1, ab_bind, hri, cn1, ab_bind]
  by_cases hlt : zho tx n 0 < n
  · rcases parse_ok hX hY (zSum c) hsum12 n 0 c g q u 0 (by omega) (Nat.zero_le _) hlt p1 u2 rfl with ⟨f, f1, f2, f3⟩ | ⟨m, c', g', m1, m2, m3, m4, m5, m6⟩
    · obtain ⟨z, z1, z2⟩ := f2 fu th kd tg vl
      obtain ⟨y, y1, y2, y3, y4, y5⟩ := f3 0 all past states tk cn kFUEL (Nat.zero_le _) rfl cn2 (by unfold kFUEL; omega)
      have y1' : f9_reads_l11 kFUEL all past states text (nI n) 0 tk cn 0 = some y := y1
      have hne : ¬ z.1 = -1 := by rw [z2]; exact ab_ne_m1 (by omega)
      rw [z1, ab_bind, if_neg hne, y1']
      refine ⟨_, _, rfl, rfl, ?_, ?_⟩
      · show -10 - z.1 = y.1
        rw [z2, y2]
      · show zREL now kept oldest size threads rows ended known inAll count still wrong unlike bytes (nI n) rb rn rf y.2.1 y.2.2.1 y.2.2.2.1 refused text (nI n)
        rw [y3, y4, y5]
        exact ⟨hS', hA, hO, hF, hT'⟩
    · obtain ⟨z, z1, z2, z3⟩ := m4 fu th kd tg vl
      obtain ⟨sp', tk', cn', e1⟩ := m5 0 all past states tk cn kFUEL (Nat.zero_le _) rfl cn2 (by unfold kFUEL; omega)
      have e1' : f9_reads_l11 kFUEL all past states text (nI n) 0 tk cn 0 = f9_reads_b38 all past states text (nI n) sp' tk' cn' (nI (0 + m)) := e1
      obtain ⟨kz, ky, k1, k2, k3⟩ := keep_both hA hS'
      obtain ⟨cm, cm1, cm2⟩ := counts_ok p4 cn'
      have hm12 : m ≤ 12 := by
        have a0 := (m2.1 0 (by omega)).1
        have a1 := (m2.1 1 (by omega)).1
        have a2 := (m2.1 2 (by omega)).1
        unfold zSum at m3
        omega
      obtain ⟨y, y1, y2, y3, y4, y5⟩ := m6 0 all ky.1 ky.2 tk' cm kFUEL q (Nat.zero_le _) rfl cm2 p4 (by unfold kFUEL; omega)
      have y1' : f9_reads_l53 kFUEL all ky.1 ky.2 text (nI n) 0 tk' cm (nI (0 + m)) 0 = some y := y1
      have hs' : f5_stepsInAll z.2.2.2.2.2.2 = some (nI (zSum c')) := stepsInAll_ok z3.1
      obtain ⟨w, w1, w2⟩ := takeFrom_ok (v := now) m2.1 z3
      unfold f9_reads_b38 at e1'
      rw [k2, ab_bind, cm1, ab_bind, y1'] at e1'
      rw [z1, ab_bind, if_pos z2, k1, ab_bind, hs', ab_bind, hsn, ab_bind, w1, ab_bind, e1', pk_sub (show zSum c ≤ zSum c' by omega)]
      refine ⟨_, _, rfl, rfl, ?_, ?_⟩
      · show nI (zSum c' - zSum c) = y.1
        rw [y2, show zSum c' - zSum c = 0 + m by omega]
      · show zREL w kz.1 kz.2.1 kz.2.2 threads rows ended known inAll count still wrong unlike bytes (nI n) rb rn rf y.2.1 y.2.2.1 y.2.2.2.1 refused text (nI n)
        rw [y4, y5]
        exact ⟨⟨c', g', num, [], m2, trivial, w2, y3⟩, k3, hO, hF, hT'⟩
  · have hz := (zho_ok (tx := tx) (len := n) (Nat.zero_le n)).2.1
    have e2 : zho tx n 0 = n := by omega
    have hcl : zCL bytes n fu 0 0 th kd tg vl u (nI (zSum c)) = some (nI n, 0, th, kd, tg, vl, u) := by
      rw [cls_skip hX (Nat.zero_le _), e2]
      unfold zCL
      rw [f7_readInto_l12_s, if_pos (nI_le (Nat.le_refl _) (by omega))]
      unfold f7_readInto_b53 f7_readInto_b72
      rw [if_pos rfl, hsi, ab_bind, if_pos (nI_le (Nat.le_refl _) (by omega))]
    have hml : f9_reads_l11 kFUEL all past states text (nI n) 0 tk cn 0 = some (-10 - nI n, all, past, states, nI n, tk, cn) := by
      rw [show kFUEL = 999999999 + 1 from rfl, f9_reads_l11_s]
      unfold f9_takesStep
      rw [show f9_here text (nI n) 0 = f9_here text (nI n) (nI 0) from rfl, here_ok hY (Nat.zero_le _), ab_bind, e2]
      unfold zhv
      have ht : f9_isThread ((-1 : Int32) - 48) = 0 := by decide
      rw [if_neg (show ¬ n < n by omega), ht, if_pos rfl, ab_bind, if_pos rfl]
      rfl
    have hne : ¬ nI n = -1 := ab_ne_m1 (by omega)
    rw [hcl, ab_bind, if_neg hne, hml]
    exact ⟨_, _, rfl, rfl, rfl, hS', hA, hO, hF, hT'⟩
/-! what is told -/
theorem told_both {c : Nat → Nat} {g : Nat → Nat → Nat → Nat} {num : Nat → Nat} {q : List Nat} (p1 : zPG c g num) (p3 : zRS now c g num q) (p4 : zRM all c g num q) (hz : size = states) (hF : zRF rb rn rf refused) (hL : len = textLong) {j : Nat} (hj : j < 9) : ∃ v, f8_told now size len rb rn rf (nI j) = some (v, rb, rn, rf) ∧ f9_toldOf all states refused textLong (nI j) = some v := by
  have hex : f2_ending (f5_beginning now) = some (nI (zen num)) := ending_ok p3.2.1.2.2.1 p1.2.1
  have ht4 : f9_told4 (all 39) (all 40) (all 41) (all 42) = nI (zen num) := told4_ok (values := fun k => all (39 + k)) p4.2.2.1
  have m4 : nI 4 - 4 = nI 0 := by decide
  have m5 : nI 5 - 4 = nI 1 := by decide
  have m6 : nI 6 - 4 = nI 2 := by decide
  unfold f8_told f9_toldOf f8_told_b75 f7_length f3_size
  have : j = 0 ∨ j = 1 ∨ j = 2 ∨ j = 3 ∨ j = 4 ∨ j = 5 ∨ j = 6 ∨ j = 7 ∨ j = 8 := by omega
  rcases this with rfl | rfl | rfl | rfl | rfl | rfl | rfl | rfl | rfl
  · rw [if_pos (show nI 0 = 0 from rfl), if_neg (show ¬ (3 : Int32) ≤ nI 0 by decide), ard_ok (by omega) (by omega), ab_bind, hF.1]
    exact ⟨_, rfl, rfl⟩
  · rw [if_neg (show ¬ nI 1 = 0 by decide), if_pos (show nI 1 = 1 from rfl), if_neg (show ¬ (3 : Int32) ≤ nI 1 by decide), ard_ok (by omega) (by omega), ab_bind, hF.2.1]
    exact ⟨_, rfl, rfl⟩
  · rw [if_neg (show ¬ nI 2 = 0 by decide), if_neg (show ¬ nI 2 = 1 by decide), if_pos (show nI 2 = 2 from rfl), if_neg (show ¬ (3 : Int32) ≤ nI 2 by decide), ard_ok (by omega) (by omega), ab_bind, hF.2.2]
    exact ⟨_, rfl, rfl⟩
  · rw [if_neg (show ¬ nI 3 = 0 by decide), if_neg (show ¬ nI 3 = 1 by decide), if_neg (show ¬ nI 3 = 2 by decide), if_pos (show nI 3 = 3 from rfl), if_pos (show (3 : Int32) ≤ nI 3 by decide), if_pos (show nI 3 = 3 from rfl), hL]
    exact ⟨_, rfl, rfl⟩
  · rw [if_neg (show ¬ nI 4 = 0 by decide), if_neg (show ¬ nI 4 = 1 by decide), if_neg (show ¬ nI 4 = 2 by decide), if_neg (show ¬ nI 4 = 3 by decide), if_pos (show nI 4 = 4 from rfl), if_pos (show (3 : Int32) ≤ nI 4 by decide), if_neg (show ¬ nI 4 = 3 by decide), if_neg (show ¬ (7 : Int32) ≤ nI 4 by decide), m4, stepsOf_ok p3.1 (by omega), ab_bind, many_ok p4 (by omega), ab_bind]
    exact ⟨_, rfl, rfl⟩
  · rw [if_neg (show ¬ nI 5 = 0 by decide), if_neg (show ¬ nI 5 = 1 by decide), if_neg (show ¬ nI 5 = 2 by decide), if_neg (show ¬ nI 5 = 3 by decide), if_neg (show ¬ nI 5 = 4 by decide), if_pos (show nI 5 = 5 from rfl), if_pos (show (3 : Int32) ≤ nI 5 by decide), if_neg (show ¬ nI 5 = 3 by decide), if_neg (show ¬ (7 : Int32) ≤ nI 5 by decide), m5, stepsOf_ok p3.1 (by omega), ab_bind, many_ok p4 (by omega), ab_bind]
    exact ⟨_, rfl, rfl⟩
  · rw [if_neg (show ¬ nI 6 = 0 by decide), if_neg (show ¬ nI 6 = 1 by decide), if_neg (show ¬ nI 6 = 2 by decide), if_neg (show ¬ nI 6 = 3 by decide), if_neg (show ¬ nI 6 = 4 by decide), if_neg (show ¬ nI 6 = 5 by decide), if_pos (show nI 6 = 6 from rfl), if_pos (show (3 : Int32) ≤ nI 6 by decide), if_neg (show ¬ nI 6 = 3 by decide), if_neg (show ¬ (7 : Int32) ≤ nI 6 by decide), m6, stepsOf_ok p3.1 (by omega), ab_bind, many_ok p4 (by omega), ab_bind]
    exact ⟨_, rfl, rfl⟩
  · rw [if_neg (show ¬ nI 7 = 0 by decide), if_neg (show ¬ nI 7 = 1 by decide), if_neg (show ¬ nI 7 = 2 by decide), if_neg (show ¬ nI 7 = 3 by decide), if_neg (show ¬ nI 7 = 4 by decide), if_neg (show ¬ nI 7 = 5 by decide), if_neg (show ¬ nI 7 = 6 by decide), if_pos (show nI 7 = 7 from rfl), if_pos (show (3 : Int32) ≤ nI 7 by decide), if_neg (show ¬ nI 7 = 3 by decide), if_pos (show (7 : Int32) ≤ nI 7 by decide), if_pos (show nI 7 = 7 from rfl), hex, ab_bind, ht4]
    exact ⟨_, rfl, rfl⟩
  · rw [if_neg (show ¬ nI 8 = 0 by decide), if_neg (show ¬ nI 8 = 1 by decide), if_neg (show ¬ nI 8 = 2 by decide), if_neg (show ¬ nI 8 = 3 by decide), if_neg (show ¬ nI 8 = 4 by decide), if_neg (show ¬ nI 8 = 5 by decide), if_neg (show ¬ nI 8 = 6 by decide), if_neg (show ¬ nI 8 = 7 by decide), if_pos (show nI 8 = 8 from rfl), if_pos (show (3 : Int32) ≤ nI 8 by decide), if_neg (show ¬ nI 8 = 3 by decide), if_pos (show (7 : Int32) ≤ nI 8 by decide), if_neg (show ¬ nI 8 = 7 by decide), hz]
    exact ⟨_, rfl, rfl⟩
theorem o_told (h : zREL now kept oldest size threads rows ended known inAll count still wrong unlike bytes len rb rn rf all past states refused text textLong) (x1 : Int32) :
    ∃ z y, f8_told now size len rb rn rf x1 = some z ∧ f9_told all states refused textLong x1 = some y ∧ z.1 = y.1 ∧ zREL now kept oldest size threads rows ended known inAll count still wrong unlike bytes len z.2.1 z.2.2.1 z.2.2.2 all past states y.2 text textLong := by
  obtain ⟨hS, hA, hO, hF, hT⟩ := h
  obtain ⟨rB, b1, b2, b3⟩ := refB hF
  have i8 : f9_in x1.toInt64 (0 : Int64) (8 : Int64) = f8_below x1 9 := ab_in x1 8 (by decide)
  rcases ab_below x1 9 (by decide) with ⟨j, j1, rfl, j3⟩ | k
  · have j3' : f8_below (nI j) 9 = 1 := j3
    have hz : size = states := by obtain ⟨o, n, _, _, _, e1, e2, _⟩ := hA; rw [e1, e2]
    have hL : len = textLong := by obtain ⟨tx, n, e1, e2, _⟩ := hT; rw [e1, e2]
    obtain ⟨c, g, num, q, p1, p2, p3, p4⟩ := hS
    obtain ⟨v, v1, v2⟩ := told_both p1 p3 p4 hz hF hL j1
    unfold f9_told
    rw [i8, j3', if_neg i_1ne0, v1, v2, ab_bind]
    exact ⟨_, _, rfl, rfl, rfl, ⟨c, g, num, q, p1, p2, p3, p4⟩, hA, hO, hF, hT⟩
  · have k' : f8_below x1 9 = 0 := k
    have hn : ∀ j, j < 9 → ¬ x1 = nI j := by
      intro j hj e
      rw [e] at k
      rw [ab_below_in hj (by decide)] at k
      exact i_1ne0 k
    unfold f8_told f9_told
    rw [b1, b2, ab_bind, ab_bind, i8, k', if_pos rfl, if_neg (show ¬ x1 = 0 from hn 0 (by omega)), if_neg (show ¬ x1 = 1 from hn 1 (by omega)), if_neg (show ¬ x1 = 2 from hn 2 (by omega)), if_neg (show ¬ x1 = 3 from hn 3 (by omega)), if_neg (show ¬ x1 = 4 from hn 4 (by omega)), if_neg (show ¬ x1 = 5 from hn 5 (by omega)), if_neg (show ¬ x1 = 6 from hn 6 (by omega)), if_neg (show ¬ x1 = 7 from hn 7 (by omega)), if_neg (show ¬ x1 = 8 from hn 8 (by omega))]
    exact ⟨_, _, rfl, rfl, rfl, hS, hA, hO, b3, hT⟩
/-! the digest: numbers folded one behind another -/
def zHF (f : Nat → Int32) (h : Int64) : Nat → Int64
  | 0 => h
  | n + 1 => 31 * zHF f h n + (f n).toInt64
theorem zHF_s (f : Nat → Int32) (h : Int64) (n : Nat) : zHF f h (n + 1) = 31 * zHF f h n + (f n).toInt64 := rfl
def zHG (f : Nat → Int64 → Int64) (h : Int64) : Nat → Int64
  | 0 => h
  | n + 1 => f n (zHG f h n)
theorem zHG_s (f : Nat → Int64 → Int64) (h : Int64) (n : Nat) : zHG f h (n + 1) = f n (zHG f h n) := rfl
theorem pick {P : Nat → Int32 → Prop} {n : Nat} (h : ∀ j, j < n → ∃ v, P j v) : ∃ f : Nat → Int32, ∀ j, j < n → P j (f j) := by
  refine ⟨fun j => if hj : j < n then Classical.choose (h j hj) else 0, fun j hj => ?_⟩
  show P j (if hj : j < n then Classical.choose (h j hj) else 0)
  rw [dif_pos hj]
  exact Classical.choose_spec (h j hj)
/-- a step's five numbers -/
def zov (g : Nat → Nat → Nat → Nat) (t i w : Nat) : Int32 := if w < 3 then nI (g t i w) else if w = 3 then nI (rbS (g t i 0) (g t i 1) (g t i 2)) else nI (wbS (g t i 0) (g t i 1))
theorem of_both {c : Nat → Nat} {g : Nat → Nat → Nat → Nat} {num : Nat → Nat} {q : List Nat} (p1 : zPG c g num) (p3 : zCS now c g) (p4 : zRM all c g num q) {t i w : Nat} (ht : t < 3) (hi : i < c t) (hw : w < 5) : f8_of now rb rn rf (nI t) (nI i) (nI w) = some (zov g t i w, rb, rn, rf) ∧ f9_ofStep all (nI t) (nI i) (nI w) = some (zov g t i w) := by
  have ho := (p1.1 t ht).2 i hi
  have hc4 := (p1.1 t ht).1
  have hh : f5_hasStep now (nI t) (nI i) = some 1 := by
    unfold f5_hasStep
    rw [if_neg (nI_pos (by omega)), stepsOf_ok p3 ht, ab_bind, if_neg (nI_ge hi (by omega))]
  have ek : f6_kind (nI (zpk g t i)) = nI (g t i 0) := kind_ok ho.1 ho.2.1 ho.2.2.1
  have et : f6_target (nI (zpk g t i)) = nI (g t i 1) := target_ok ho.1 ho.2.1 ho.2.2.1
  have ev : f6_value (nI (zpk g t i)) = nI (g t i 2) := value_ok ho.1 ho.2.1 ho.2.2.1
  have er : f6_readBits (nI (zpk g t i)) = nI (rbS (g t i 0) (g t i 1) (g t i 2)) := readBits_ok ho
  have ew : f6_writeBits (nI (zpk g t i)) = nI (wbS (g t i 0) (g t i 1)) := writeBits_ok ho
  unfold f8_of f9_ofStep
  rw [hh, ab_bind, if_neg i_1ne0, stepAt_in p1.1 p3 ht hi, ab_bind, ek, et, ev, er, ew, readBy_ok p1.1 p4 ht hi, ab_bind, writes_ok p1.1 p4 ht hi, ab_bind]
  have : w = 0 ∨ w = 1 ∨ w = 2 ∨ w = 3 ∨ w = 4 := by omega
  rcases this with rfl | rfl | rfl | rfl | rfl
  · rw [if_pos (show nI 0 = 0 from rfl), if_neg (show ¬ (3 : Int32) ≤ nI 0 by decide), its_ok p1.1 p4 ht hi (by omega), ab_bind]
    exact ⟨rfl, rfl⟩
  · rw [if_neg (show ¬ nI 1 = 0 by decide), if_pos (show nI 1 = 1 from rfl), if_neg (show ¬ (3 : Int32) ≤ nI 1 by decide), its_ok p1.1 p4 ht hi (by omega), ab_bind]
    exact ⟨rfl, rfl⟩
  · rw [if_neg (show ¬ nI 2 = 0 by decide), if_neg (show ¬ nI 2 = 1 by decide), if_pos (show nI 2 = 2 from rfl), if_neg (show ¬ (3 : Int32) ≤ nI 2 by decide), its_ok p1.1 p4 ht hi (by omega), ab_bind]
    exact ⟨rfl, rfl⟩
  · rw [if_neg (show ¬ nI 3 = 0 by decide), if_neg (show ¬ nI 3 = 1 by decide), if_neg (show ¬ nI 3 = 2 by decide), if_pos (show nI 3 = 3 from rfl), if_pos (show (3 : Int32) ≤ nI 3 by decide), if_pos (show nI 3 = 3 from rfl)]
    exact ⟨rfl, rfl⟩
  · rw [if_neg (show ¬ nI 4 = 0 by decide), if_neg (show ¬ nI 4 = 1 by decide), if_neg (show ¬ nI 4 = 2 by decide), if_neg (show ¬ nI 4 = 3 by decide), if_pos (show nI 4 = 4 from rfl), if_pos (show (3 : Int32) ≤ nI 4 by decide), if_neg (show ¬ nI 4 = 3 by decide)]
    exact ⟨rfl, rfl⟩
def zHi (g : Nat → Nat → Nat → Nat) (t : Nat) : Nat → Int64 → Int64 := fun i h => zHF (zov g t i) h 5
def zHt (c : Nat → Nat) (g : Nat → Nat → Nat → Nat) : Nat → Int64 → Int64 := fun t h => zHG (zHi g t) h (c t)
def zHs (c : Nat → Nat) (g : Nat → Nat → Nat → Nat) (h : Int64) : Int64 := zHG (zHt c g) h 3
theorem digestSteps_ok {c : Nat → Nat} {g : Nat → Nat → Nat → Nat} {num : Nat → Nat} {q : List Nat} (p1 : zPG c g num) (p3 : zCS now c g) (p4 : zRM all c g num q) (h : Int64) : f8_digestSteps now rb rn rf h = some (zHs c g h, rb, rn, rf) := by
  have inner : ∀ (k5 : sT → Int32 → Int32 → Int32 → Int64 → Int32 → Option (Int64 × Int32 × Int32 × Int32)) (k14 : sT → Int32 → Int32 → Int32 → Int64 → Int32 → Int32 → Option (Int64 × Int32 × Int32 × Int32)) (t i : Nat) (h : Int64), t < 3 → i < c t → ∀ (d w F : Nat), w + d = 5 → f8_digestSteps_l31 k5 k14 (d + F + 1) now rb rn rf (zHF (zov g t i) h w) (nI t) (nI i) (nI w) = k14 now rb rn rf (zHF (zov g t i) h 5) (nI t) (nI (i + 1)) := by
    intro k5 k14 t i h ht hi d
    induction d with
    | zero =>
      intro w F hw
      have e : w = 5 := by omega
      subst e
      rw [show 0 + F + 1 = F + 1 by omega, f8_digestSteps_l31_s, l_4, if_pos (nI_lt (by omega) (by decide))]
      unfold f8_digestSteps_b61
      rw [nI_1]
    | succ d ih =>
      intro w F hw
      rw [show d + 1 + F + 1 = (d + F + 1) + 1 by omega, f8_digestSteps_l31_s, l_4, if_neg (nI_nlt (by omega) (by omega)), (of_both p1 p3 p4 ht hi (show w < 5 by omega)).1, ab_bind, nI_1]
      exact ih (w + 1) F (by omega)
  have mid : ∀ (k5 : sT → Int32 → Int32 → Int32 → Int64 → Int32 → Option (Int64 × Int32 × Int32 × Int32)) (t : Nat) (h : Int64), t < 3 → ∀ (d i F : Nat), i + d = c t → f8_digestSteps_l14 k5 (d + F + 1) now rb rn rf (zHG (zHi g t) h i) (nI t) (nI i) = k5 now rb rn rf (zHG (zHi g t) h (c t)) (nI (t + 1)) := by
    intro k5 t h ht d
    have hc4 := (p1.1 t ht).1
    induction d with
    | zero =>
      intro i F hi
      have e : i = c t := by omega
      subst e
      rw [show 0 + F + 1 = F + 1 by omega, f8_digestSteps_l14_s, stepsOf_ok p3 ht, ab_bind, if_pos (nI_le (Nat.le_refl _) (by omega))]
      unfold f8_digestSteps_b67
      rw [nI_1]
    | succ d ih =>
      intro i F hi
      obtain ⟨fu, hf⟩ := kF 6 (by omega)
      have hf2 : kFUEL = 5 + fu + 1 := by omega
      rw [show d + 1 + F + 1 = (d + F + 1) + 1 by omega, f8_digestSteps_l14_s, stepsOf_ok p3 ht, ab_bind, if_neg (nI_ge (by omega) (by omega)), hf2]
      have := inner k5 (f8_digestSteps_l14 k5 (d + F + 1)) t i (zHG (zHi g t) h i) ht (by omega) 5 0 fu (by omega)
      exact Eq.trans this (ih (i + 1) F (by omega))
  have one : ∀ (F t : Nat) (h : Int64), t < 3 → f8_digestSteps_l5 (F + 1) now rb rn rf h (nI t) = f8_digestSteps_l5 F now rb rn rf (zHt c g t h) (nI (t + 1)) := by
    intro F t h ht
    have hc4 := (p1.1 t ht).1
    obtain ⟨fu, hf⟩ := kF (c t + 1) (by omega)
    have hf2 : kFUEL = c t + fu + 1 := by omega
    rw [f8_digestSteps_l5_s, l_3, if_neg (nI_ge ht (by decide)), hf2]
    exact mid (f8_digestSteps_l5 F) t h ht (c t) 0 fu (by omega)
  unfold f8_digestSteps
  rw [kF4]
  show f8_digestSteps_l5 _ now rb rn rf h (nI 0) = _
  rw [one _ 0 _ (by decide), one _ 1 _ (by decide), one _ 2 _ (by decide), f8_digestSteps_l5_s, l_3, if_pos (nI_le (by decide) (by decide))]
  rfl
def zHe (num : Nat → Nat) (g : Nat → Nat → Nat → Nat) (R : List (List Nat)) : Nat → Int64 → Int64 := fun e h => if zisE num g R e = true then 31 * h + (nI e).toInt64 else h
theorem digestEnds_ok {c : Nat → Nat} {g : Nat → Nat → Nat → Nat} {num : Nat → Nat} {R : List (List Nat)} {rows ended : Nat → Int32} {count still wrong unlike : Int32} (hK : zKR c g num R rows ended count still wrong unlike) (h : Int64) : f8_digestEnds ended h = some (zHG (zHe num g R) h 10000) := by
  have loop : ∀ (d e F : Nat), e + d = 10000 → f8_digestEnds_l5 (d + F + 1) ended (zHG (zHe num g R) h e) (nI e) = some (zHG (zHe num g R) h 10000) := by
    intro d
    induction d with
    | zero =>
      intro e F he
      have e1 : e = 10000 := by omega
      subst e1
      rw [show 0 + F + 1 = F + 1 by omega, f8_digestEnds_l5_s, l_10000, if_pos (nI_le (Nat.le_refl _) (by decide))]
      rfl
    | succ d ih =>
      intro e F he
      have hn := ih (e + 1) F (by omega)
      rw [zHG_s] at hn
      rw [show d + 1 + F + 1 = (d + F + 1) + 1 by omega, f8_digestEnds_l5_s, l_10000, if_neg (nI_ge (by omega) (by decide)), endsAt_ok hK (by omega), ab_bind]
      unfold f8_digestEnds_b35
      rw [nI_1]
      have hz : zHe num g R e (zHG (zHe num g R) h e) = if zisE num g R e = true then 31 * zHG (zHe num g R) h e + (nI e).toInt64 else zHG (zHe num g R) h e := rfl
      rw [hz] at hn
      cases hb : zisE num g R e with
      | true =>
        rw [hb, if_pos rfl] at hn
        rw [bI_t, if_neg i_1ne0]
        exact hn
      | false =>
        rw [hb, if_neg (by decide)] at hn
        rw [bI_f, if_pos rfl]
        exact hn
  unfold f8_digestEnds
  obtain ⟨fu, hf⟩ := kF 10001 (by omega)
  have hf2 : kFUEL = 10000 + fu + 1 := by omega
  rw [hf2]
  exact loop 10000 0 fu (by omega)
end OPS3
