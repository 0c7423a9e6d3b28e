section DIG
variable {now : sT} {kept : Nat → sT} {oldest size : Int32} {threads : sT} {rows ended : Nat → Int32} {known inAll count still wrong unlike : Int32} {bytes : Nat → Int32} {len rb rn rf : Int32} {all past : Nat → Int32} {states : Int32} {refused text : Nat → Int32} {textLong : Int32}
theorem o_digest (h : zREL now kept oldest size threads rows ended known inAll count still wrong unlike bytes len rb rn rf all past states refused text textLong) (V : Nat → Int32) (far row stepAt : Nat → Int32) (depth : Int32) (tries values : Nat → Int32) (wr : Int32) (isEnd found Vm : Nat → Int32) :
    ∃ z y, f8_digest now size threads rows ended known inAll count still wrong unlike V len rb rn rf = some z ∧ f9_digest all states refused far row stepAt depth tries values wr isEnd found Vm textLong = some y ∧ z.1 = y.1 ∧ zREL now kept oldest size z.2.1 z.2.2.1 z.2.2.2.1 z.2.2.2.2.1 z.2.2.2.2.2.1 z.2.2.2.2.2.2.1 z.2.2.2.2.2.2.2.1 z.2.2.2.2.2.2.2.2.1 z.2.2.2.2.2.2.2.2.2.1 bytes len z.2.2.2.2.2.2.2.2.2.2.2.1 z.2.2.2.2.2.2.2.2.2.2.2.2.1 z.2.2.2.2.2.2.2.2.2.2.2.2.2 all past states refused text textLong := by
  obtain ⟨hS, hA, hO, hF, hT⟩ := h
  have hz : size = states := by obtain ⟨o, n, _, _, _, e1, e2, _⟩ := hA; rw [e1, e2]
  have hL : len = textLong := by obtain ⟨tx, n, e1, e2, _⟩ := hT; rw [e1, e2]
  obtain ⟨c, g, num, q, p1, p2, p3, p4⟩ := hS
  obtain ⟨z, z1, z2⟩ := goThrough_ok p1 hO p3
  obtain ⟨tv, htv⟩ := pick (n := 9) (P := fun j v => f8_told now size len rb rn rf (nI j) = some (v, rb, rn, rf) ∧ f9_toldOf all states refused textLong (nI j) = some v) (fun j hj => told_both p1 p3 p4 hz hF hL hj)
  obtain ⟨rv, hrv⟩ := pick (n := 6) (P := fun j v => f8_run now rb rn rf (nI j) = some (v, rb, rn, rf) ∧ ∀ far depth tries values wr, ∃ z, f9_runOf all far depth tries values wr (nI j) = some z ∧ z.1 = v) (fun j hj => run_both p1 p2 p3 p4 hj)
  obtain ⟨fv, hfv⟩ : ∃ fv : Nat → Int32, ∀ j, j < 4 → f0_howMany z.2.2.2.2.2.1 z.2.2.2.2.2.2.1 z.2.2.2.2.2.2.2.1 z.2.2.2.2.2.2.2.2 (nI j) = fv j := ⟨fun j => f0_howMany z.2.2.2.2.2.1 z.2.2.2.2.2.2.1 z.2.2.2.2.2.2.2.1 z.2.2.2.2.2.2.2.2 (nI j), fun j _ => rfl⟩
  have hA1 : zHF tv 2593 0 = 2593 := rfl
  /- the class's -/
  have cls : ∃ V', f8_digest now size threads rows ended known inAll count still wrong unlike V len rb rn rf = some (zHG (zHe num g (zAll c g).reverse) (zHF rv (31 * zHF fv (zHs c g (zHF tv 2593 9)) 4 + (nI (zraces c g)).toInt64) 6) 10000, z.1, z.2.1, z.2.2.1, z.2.2.2.1, z.2.2.2.2.1, z.2.2.2.2.2.1, z.2.2.2.2.2.2.1, z.2.2.2.2.2.2.2.1, z.2.2.2.2.2.2.2.2, V', rb, rn, rf) := by
    obtain ⟨V', v1⟩ := races_ok p1 p3.1 p3.2.1 V
    have l91 : ∀ (hh : Int64) (d j F : Nat), j + d = 6 → f8_digest_l91 (d + F + 1) now size z.1 z.2.1 z.2.2.1 z.2.2.2.1 z.2.2.2.2.1 z.2.2.2.2.2.1 z.2.2.2.2.2.2.1 z.2.2.2.2.2.2.2.1 z.2.2.2.2.2.2.2.2 V' len rb rn rf (zHF rv hh j) (nI j) = some (zHG (zHe num g (zAll c g).reverse) (zHF rv hh 6) 10000, z.1, z.2.1, z.2.2.1, z.2.2.2.1, z.2.2.2.2.1, z.2.2.2.2.2.1, z.2.2.2.2.2.2.1, z.2.2.2.2.2.2.2.1, z.2.2.2.2.2.2.2.2, V', rb, rn, rf) := by
      intro hh d
      induction d with
      | zero =>
        intro j F hj
        have e : j = 6 := by omega
        subst e
        rw [show 0 + F + 1 = F + 1 by omega, f8_digest_l91_s, l_5, if_pos (nI_lt (by omega) (by decide))]
        unfold f8_digest_b115
        rw [digestEnds_ok z2.2.2.2, ab_bind]
      | succ d ih =>
        intro j F hj
        rw [show d + 1 + F + 1 = (d + F + 1) + 1 by omega, f8_digest_l91_s, l_5, if_neg (nI_nlt (by omega) (by omega)), (hrv j (by omega)).1, ab_bind, nI_1]
        exact ih (j + 1) F (by omega)
    have l50 : ∀ (hh : Int64) (d j F : Nat), j + d = 4 → f8_digest_l50 (d + F + 1) now size z.1 z.2.1 z.2.2.1 z.2.2.2.1 z.2.2.2.2.1 z.2.2.2.2.2.1 z.2.2.2.2.2.2.1 z.2.2.2.2.2.2.2.1 z.2.2.2.2.2.2.2.2 V len rb rn rf (zHF fv hh j) (nI j) = f8_digest_b77 now size z.1 z.2.1 z.2.2.1 z.2.2.2.1 z.2.2.2.2.1 z.2.2.2.2.2.1 z.2.2.2.2.2.2.1 z.2.2.2.2.2.2.2.1 z.2.2.2.2.2.2.2.2 V len rb rn rf (zHF fv hh 4) := by
      intro hh d
      induction d with
      | zero =>
        intro j F hj
        have e : j = 4 := by omega
        subst e
        rw [show 0 + F + 1 = F + 1 by omega, f8_digest_l50_s, l_3, if_pos (nI_lt (by omega) (by decide))]
      | succ d ih =>
        intro j F hj
        rw [show d + 1 + F + 1 = (d + F + 1) + 1 by omega, f8_digest_l50_s, l_3, if_neg (nI_nlt (by omega) (by omega)), hfv j (by omega), nI_1]
        exact ih (j + 1) F (by omega)
    have l17 : ∀ (d j F : Nat), j + d = 9 → f8_digest_l17 (d + F + 1) now size z.1 z.2.1 z.2.2.1 z.2.2.2.1 z.2.2.2.2.1 z.2.2.2.2.2.1 z.2.2.2.2.2.2.1 z.2.2.2.2.2.2.2.1 z.2.2.2.2.2.2.2.2 V len rb rn rf (zHF tv 2593 j) (nI j) = f8_digest_b42 now size z.1 z.2.1 z.2.2.1 z.2.2.2.1 z.2.2.2.2.1 z.2.2.2.2.2.1 z.2.2.2.2.2.2.1 z.2.2.2.2.2.2.2.1 z.2.2.2.2.2.2.2.2 V len rb rn rf (zHF tv 2593 9) := by
      intro d
      induction d with
      | zero =>
        intro j F hj
        have e : j = 9 := by omega
        subst e
        rw [show 0 + F + 1 = F + 1 by omega, f8_digest_l17_s, l_8, if_pos (nI_lt (by omega) (by decide))]
      | succ d ih =>
        intro j F hj
        rw [show d + 1 + F + 1 = (d + F + 1) + 1 by omega, f8_digest_l17_s, l_8, if_neg (nI_nlt (by omega) (by omega)), (htv j (by omega)).1, ab_bind, nI_1]
        exact ih (j + 1) F (by omega)
    refine ⟨V', ?_⟩
    unfold f8_digest
    rw [z1, ab_bind]
    obtain ⟨f1, h1⟩ := kF 10 (by omega)
    obtain ⟨f2, h2⟩ := kF 5 (by omega)
    obtain ⟨f3, h3⟩ := kF 7 (by omega)
    have e1 : kFUEL = 9 + f1 + 1 := by omega
    have e2 : kFUEL = 4 + f2 + 1 := by omega
    have e3 : kFUEL = 6 + f3 + 1 := by omega
    have a17 := l17 9 0 f1 (by omega)
    rw [← e1] at a17
    refine Eq.trans a17 ?_
    unfold f8_digest_b42
    rw [digestSteps_ok p1 p3.1 p4, ab_bind]
    have a50 := l50 (zHs c g (zHF tv 2593 9)) 4 0 f2 (by omega)
    rw [← e2] at a50
    refine Eq.trans a50 ?_
    unfold f8_digest_b77
    rw [v1, ab_bind]
    have a91 := l91 (31 * zHF fv (zHs c g (zHF tv 2593 9)) 4 + (nI (zraces c g)).toInt64) 6 0 f3 (by omega)
    rw [← e3] at a91
    exact a91
  /- the reference's -/
  have ref : ∃ y, f9_digest all states refused far row stepAt depth tries values wr isEnd found Vm textLong = some y ∧ y.1 = zHG (zHe num g (zAll c g).reverse) (zHF rv (31 * zHF fv (zHs c g (zHF tv 2593 9)) 4 + (nI (zraces c g)).toInt64) 6) 10000 := by
    have l167 : ∀ (far row stepAt : Nat → Int32) (depth : Int32) (tries values : Nat → Int32) (wr : Int32) (isEnd found Vm : Nat → Int32) (hh : Int64), (∀ e, e < 10000 → isEnd e = bI (zisE num g (zAll c g).reverse e)) → ∀ (d e F : Nat), e + d = 10000 → ∃ y, f9_digest_l167 (d + F + 1) all states refused far row stepAt depth tries values wr isEnd found Vm textLong (zHG (zHe num g (zAll c g).reverse) hh e) (nI e) = some y ∧ y.1 = zHG (zHe num g (zAll c g).reverse) hh 10000 := by
      intro far row stepAt depth tries values wr isEnd found Vm hh hE d
      induction d with
      | zero =>
        intro e F he
        have e1 : e = 10000 := by omega
        subst e1
        rw [show 0 + F + 1 = F + 1 by omega, f9_digest_l167_s, l_10000, if_pos (nI_le (Nat.le_refl _) (by decide))]
        exact ⟨_, rfl, rfl⟩
      | succ d ih =>
        intro e F he
        have hn := ih (e + 1) F (by omega)
        rw [zHG_s] at hn
        rw [show d + 1 + F + 1 = (d + F + 1) + 1 by omega, f9_digest_l167_s, l_10000, if_neg (nI_ge (by omega) (by decide)), ard_ok (by omega) (by omega), ab_bind, hE e (by omega)]
        unfold f9_digest_b195
        rw [nI_1]
        have hze : zHe num g (zAll c g).reverse e (zHG (zHe num g (zAll c g).reverse) hh e) = if zisE num g (zAll c g).reverse e = true then 31 * zHG (zHe num g (zAll c g).reverse) hh e + (nI e).toInt64 else zHG (zHe num g (zAll c g).reverse) hh e := rfl
        rw [hze] at hn
        cases hb : zisE num g (zAll c g).reverse e with
        | true =>
          rw [hb, if_pos rfl] at hn
          rw [bI_t, if_neg i_1ne0]
          exact hn
        | false =>
          rw [hb, if_neg (by decide)] at hn
          rw [bI_f, if_pos rfl]
          exact hn
    have l140 : ∀ (row stepAt isEnd found Vm : Nat → Int32) (hh : Int64), (∀ e, e < 10000 → isEnd e = bI (zisE num g (zAll c g).reverse e)) → ∀ (d j F : Nat) (far : Nat → Int32) (depth : Int32) (tries values : Nat → Int32) (wr : Int32), j + d = 6 → ∃ y, f9_digest_l140 (d + F + 1) all states refused far row stepAt depth tries values wr isEnd found Vm textLong (zHF rv hh j) (nI j) = some y ∧ y.1 = zHG (zHe num g (zAll c g).reverse) (zHF rv hh 6) 10000 := by
      intro row stepAt isEnd found Vm hh hE d
      induction d with
      | zero =>
        intro j F far depth tries values wr hj
        have e : j = 6 := by omega
        subst e
        rw [show 0 + F + 1 = F + 1 by omega, f9_digest_l140_s, l_6, if_pos (nI_le (Nat.le_refl _) (by decide))]
        unfold f9_digest_b165
        obtain ⟨f1, h1⟩ := kF 10001 (by omega)
        have e1 : kFUEL = 10000 + f1 + 1 := by omega
        rw [e1]
        exact l167 far row stepAt depth tries values wr isEnd found Vm (zHF rv hh 6) hE 10000 0 f1 (by omega)
      | succ d ih =>
        intro j F far depth tries values wr hj
        obtain ⟨y, y1, y2⟩ := (hrv j (by omega)).2 far depth tries values wr
        rw [show d + 1 + F + 1 = (d + F + 1) + 1 by omega, f9_digest_l140_s, l_6, if_neg (nI_ge (by omega) (by decide)), y1, ab_bind, nI_1, y2]
        exact ih (j + 1) F _ _ _ _ _ (by omega)
    have l101 : ∀ (far row stepAt : Nat → Int32) (depth : Int32) (tries values : Nat → Int32) (wr : Int32) (isEnd found Vm : Nat → Int32) (hh : Int64), (∀ j, j < 4 → found j = fv j) → ∀ (d j F : Nat), j + d = 4 → f9_digest_l101 (d + F + 1) all states refused far row stepAt depth tries values wr isEnd found Vm textLong (zHF fv hh j) (nI j) = f9_digest_b126 all states refused far row stepAt depth tries values wr isEnd found Vm textLong (zHF fv hh 4) := by
      intro far row stepAt depth tries values wr isEnd found Vm hh hf d
      induction d with
      | zero =>
        intro j F hj
        have e : j = 4 := by omega
        subst e
        rw [show 0 + F + 1 = F + 1 by omega, f9_digest_l101_s, l_4, if_pos (nI_le (Nat.le_refl _) (by decide))]
      | succ d ih =>
        intro j F hj
        rw [show d + 1 + F + 1 = (d + F + 1) + 1 by omega, f9_digest_l101_s, l_4, if_neg (nI_ge (by omega) (by decide)), ard_ok (by omega) (by omega), ab_bind, hf j (by omega), nI_1]
        exact ih (j + 1) F (by omega)
    have b95 : ∀ (hh : Int64), ∃ y, f9_digest_b95 all states refused far row stepAt depth tries values wr isEnd found Vm textLong hh = some y ∧ y.1 = zHG (zHe num g (zAll c g).reverse) (zHF rv (31 * zHF fv hh 4 + (nI (zraces c g)).toInt64) 6) 10000 := by
      intro hh
      obtain ⟨w, w1, w2⟩ := findsAll_ok p1 p4 far row stepAt depth tries values wr isEnd found
      unfold f9_digest_b95
      rw [w1, ab_bind]
      obtain ⟨f1, h1⟩ := kF 5 (by omega)
      have e1 : kFUEL = 4 + f1 + 1 := by omega
      have a := l101 w.1 w.2.1 w.2.2.1 w.2.2.2.1 w.2.2.2.2.1 w.2.2.2.2.2.1 w.2.2.2.2.2.2.1 w.2.2.2.2.2.2.2.1 w.2.2.2.2.2.2.2.2 Vm hh (fun j hj => by rw [← hfv j hj]; exact (found_same z2.2.2.2 w2 hj).symm) 4 0 f1 (by omega)
      rw [← e1] at a
      have a' : f9_digest_l101 kFUEL all states refused w.1 w.2.1 w.2.2.1 w.2.2.2.1 w.2.2.2.2.1 w.2.2.2.2.2.1 w.2.2.2.2.2.2.1 w.2.2.2.2.2.2.2.1 w.2.2.2.2.2.2.2.2 Vm textLong hh 0 = _ := a
      rw [a']
      unfold f9_digest_b126
      obtain ⟨r, r1, r2⟩ := racesM_ok p1.1 p4 w.1 Vm
      rw [r1, ab_bind, r2]
      obtain ⟨f2, h2⟩ := kF 7 (by omega)
      have e2 : kFUEL = 6 + f2 + 1 := by omega
      rw [e2]
      exact l140 w.2.1 w.2.2.1 w.2.2.2.2.2.2.2.1 w.2.2.2.2.2.2.2.2 r.2.2 (31 * zHF fv hh 4 + (nI (zraces c g)).toInt64) w2.2.2.2.2 6 0 f2 r.2.1 w.2.2.2.1 w.2.2.2.2.1 w.2.2.2.2.2.1 w.2.2.2.2.2.2.1 (by omega)
    have inner : ∀ (k33 : (Nat → Int32) → Int32 → (Nat → Int32) → (Nat → Int32) → (Nat → Int32) → (Nat → Int32) → Int32 → (Nat → Int32) → (Nat → Int32) → Int32 → (Nat → Int32) → (Nat → Int32) → (Nat → Int32) → Int32 → Int64 → Int32 → Option (Int64 × (Nat → Int32) × (Nat → Int32) × (Nat → Int32) × Int32 × (Nat → Int32) × (Nat → Int32) × Int32 × (Nat → Int32) × (Nat → Int32) × (Nat → Int32))) (k41 : (Nat → Int32) → Int32 → (Nat → Int32) → (Nat → Int32) → (Nat → Int32) → (Nat → Int32) → Int32 → (Nat → Int32) → (Nat → Int32) → Int32 → (Nat → Int32) → (Nat → Int32) → (Nat → Int32) → Int32 → Int64 → Int32 → Int32 → Option (Int64 × (Nat → Int32) × (Nat → Int32) × (Nat → Int32) × Int32 × (Nat → Int32) × (Nat → Int32) × Int32 × (Nat → Int32) × (Nat → Int32) × (Nat → Int32))) (t i : Nat) (hh : Int64), t < 3 → i < c t → ∀ (d w F : Nat), w + d = 5 →
        f9_digest_l54 k33 k41 (d + F + 1) all states refused far row stepAt depth tries values wr isEnd found Vm textLong (zHF (zov g t i) hh w) (nI t) (nI i) (nI w) = k41 all states refused far row stepAt depth tries values wr isEnd found Vm textLong (zHF (zov g t i) hh 5) (nI t) (nI (i + 1)) := by
      intro k33 k41 t i hh ht hi d
      induction d with
      | zero =>
        intro w F hw
        have e : w = 5 := by omega
        subst e
        rw [show 0 + F + 1 = F + 1 by omega, f9_digest_l54_s, l_5, if_pos (nI_le (Nat.le_refl _) (by decide))]
        unfold f9_digest_b83
        rw [nI_1]
      | succ d ih =>
        intro w F hw
        rw [show d + 1 + F + 1 = (d + F + 1) + 1 by omega, f9_digest_l54_s, l_5, if_neg (nI_ge (by omega) (by decide)), (of_both (rb := rb) (rn := rn) (rf := rf) p1 p3.1 p4 ht hi (show w < 5 by omega)).2, ab_bind, nI_1]
        exact ih (w + 1) F (by omega)
    have mid : ∀ (k33 : (Nat → Int32) → Int32 → (Nat → Int32) → (Nat → Int32) → (Nat → Int32) → (Nat → Int32) → Int32 → (Nat → Int32) → (Nat → Int32) → Int32 → (Nat → Int32) → (Nat → Int32) → (Nat → Int32) → Int32 → Int64 → Int32 → Option (Int64 × (Nat → Int32) × (Nat → Int32) × (Nat → Int32) × Int32 × (Nat → Int32) × (Nat → Int32) × Int32 × (Nat → Int32) × (Nat → Int32) × (Nat → Int32))) (t : Nat) (hh : Int64), t < 3 → ∀ (d i F : Nat), i + d = c t →
        f9_digest_l41 k33 (d + F + 1) all states refused far row stepAt depth tries values wr isEnd found Vm textLong (zHG (zHi g t) hh i) (nI t) (nI i) = k33 all states refused far row stepAt depth tries values wr isEnd found Vm textLong (zHG (zHi g t) hh (c t)) (nI (t + 1)) := by
      intro k33 t hh ht d
      have hc4 := (p1.1 t ht).1
      induction d with
      | zero =>
        intro i F hi
        have e : i = c t := by omega
        subst e
        rw [show 0 + F + 1 = F + 1 by omega, f9_digest_l41_s, many_ok p4 ht, ab_bind, if_pos (nI_le (Nat.le_refl _) (by omega))]
        unfold f9_digest_b89
        rw [nI_1]
      | succ d ih =>
        intro i F hi
        obtain ⟨fu, hf⟩ := kF 6 (by omega)
        have hf2 : kFUEL = 5 + fu + 1 := by omega
        rw [show d + 1 + F + 1 = (d + F + 1) + 1 by omega, f9_digest_l41_s, many_ok p4 ht, ab_bind, if_neg (nI_ge (by omega) (by omega)), hf2]
        have := inner k33 (f9_digest_l41 k33 (d + F + 1)) t i (zHG (zHi g t) hh i) ht (by omega) 5 0 fu (by omega)
        exact Eq.trans this (ih (i + 1) F (by omega))
    have one : ∀ (F t : Nat) (hh : Int64), t < 3 → f9_digest_l33 (F + 1) all states refused far row stepAt depth tries values wr isEnd found Vm textLong hh (nI t) = f9_digest_l33 F all states refused far row stepAt depth tries values wr isEnd found Vm textLong (zHt c g t hh) (nI (t + 1)) := by
      intro F t hh ht
      have hc4 := (p1.1 t ht).1
      obtain ⟨fu, hf⟩ := kF (c t + 1) (by omega)
      have hf2 : kFUEL = c t + fu + 1 := by omega
      rw [f9_digest_l33_s, l_3, if_neg (nI_ge ht (by decide)), hf2]
      exact mid (f9_digest_l33 F) t hh ht (c t) 0 fu (by omega)
    have l6 : ∀ (d j F : Nat), j + d = 9 → f9_digest_l6 (d + F + 1) all states refused far row stepAt depth tries values wr isEnd found Vm textLong (zHF tv 2593 j) (nI j) = f9_digest_b31 all states refused far row stepAt depth tries values wr isEnd found Vm textLong (zHF tv 2593 9) := by
      intro d
      induction d with
      | zero =>
        intro j F hj
        have e : j = 9 := by omega
        subst e
        rw [show 0 + F + 1 = F + 1 by omega, f9_digest_l6_s, l_9, if_pos (nI_le (Nat.le_refl _) (by decide))]
      | succ d ih =>
        intro j F hj
        rw [show d + 1 + F + 1 = (d + F + 1) + 1 by omega, f9_digest_l6_s, l_9, if_neg (nI_ge (by omega) (by decide)), (htv j (by omega)).2, ab_bind, nI_1]
        exact ih (j + 1) F (by omega)
    obtain ⟨f1, h1⟩ := kF 10 (by omega)
    have e1 : kFUEL = 9 + f1 + 1 := by omega
    have a6 := l6 9 0 f1 (by omega)
    rw [← e1] at a6
    have a6' : f9_digest all states refused far row stepAt depth tries values wr isEnd found Vm textLong = f9_digest_b31 all states refused far row stepAt depth tries values wr isEnd found Vm textLong (zHF tv 2593 9) := a6
    rw [a6']
    unfold f9_digest_b31
    rw [kF4]
    show ∃ y, f9_digest_l33 _ all states refused far row stepAt depth tries values wr isEnd found Vm textLong (zHF tv 2593 9) (nI 0) = some y ∧ _
    rw [one _ 0 _ (by decide), one _ 1 _ (by decide), one _ 2 _ (by decide), f9_digest_l33_s, l_3, if_pos (nI_le (by decide) (by decide))]
    exact b95 (zHs c g (zHF tv 2593 9))
  obtain ⟨V', c1⟩ := cls
  obtain ⟨y, y1, y2⟩ := ref
  exact ⟨_, y, c1, y1, y2.symm, ⟨c, g, num, q, p1, p2, p3, p4⟩, hA, zAOf_AO z2, hF, hT⟩
end DIG
