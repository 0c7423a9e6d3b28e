/-! at what an order ends, in the reference -/
theorem endOf_ok {all : Nat → Int32} {c : Nat → Nat} {g : Nat → Nat → Nat → Nat} {num : Nat → Nat} {rn q : List Nat} (hP : zPG c g num) (hR : zRM all c g num rn) (hq : zok c g q) {far row stepAt : Nat → Int32} {depth : Int32} (hQ : zFQ far row stepAt depth q) (values : Nat → Int32) (wrong : Int32) :
    ∃ z, f9_endOf all row stepAt depth values wrong = some z ∧ z.1 = nI (zen (zex num g q).1) ∧ zVE z.2.1 z.2.2 (zex num g q) := by
  obtain ⟨hs, hn, -⟩ := hP
  have hl := zlen_le hs hq
  have loop : ∀ (r y : List Nat) (fuel : Nat) (values : Nat → Int32) (wrong : Int32), q = r.reverse ++ y → zVE values wrong (zex num g y) →
      ∃ z, f9_endOf_l6 (r.length + fuel + 1) all row stepAt depth values wrong (nI y.length) = some z ∧ z.1 = nI (zen (zex num g q).1) ∧ zVE z.2.1 z.2.2 (zex num g q) := by
    intro r
    induction r with
    | nil =>
      intro y fuel values wrong e hV
      have e' : q = y := e
      subst e'
      rw [show ([] : List Nat).length + fuel + 1 = fuel + 1 by simp, f9_endOf_l6_s, hQ.2.1, if_pos (nI_le (Nat.le_refl _) (by omega))]
      exact ⟨_, rfl, told4_ok hV.1, hV⟩
    | cons t r ih =>
      intro y fuel values wrong e hV
      have e' : q = r.reverse ++ t :: y := by rw [e, List.reverse_cons, List.append_assoc]; rfl
      have hlen : q.length = r.length + (y.length + 1) := by rw [e', List.length_append, List.length_reverse, List.length_cons]
      have hok : zok c g (t :: y) := by
        have := hq
        rw [e'] at this
        exact zok_drop this
      have ht := hok.2.1
      have hlt := zable_lt hok.2.2
      have hrow := hQ.2.2 _ t y e'
      obtain ⟨z, z1, z2⟩ := doesStep_ok hs hR hV (zex_lt hs hn hok.1).1 ht hlt
      rw [show (t :: r).length + fuel + 1 = (r.length + fuel + 1) + 1 by rw [List.length_cons]; omega, f9_endOf_l6_s, hQ.2.1, if_neg (nI_ge (by omega) (by omega)), ard_ok (by omega) (by omega), ab_bind, ard_ok (by omega) (by omega), ab_bind, hrow.1, hrow.2, z1, ab_bind, nI_1]
      rw [← hQ.2.1]
      exact ih (t :: y) fuel z.1 z.2 e' z2
  unfold f9_endOf
  obtain ⟨v, v1, v2⟩ := valuesBegin_ok hR values wrong
  rw [v1, ab_bind]
  obtain ⟨fu, hf⟩ := kF (q.length + 1) (by omega)
  have hf2 : kFUEL = q.reverse.length + fu + 1 := by rw [List.length_reverse]; omega
  rw [hf2]
  exact loop q.reverse [] fu _ _ (by simp) v2
theorem allSteps_ok {all : Nat → Int32} {c : Nat → Nat} {g : Nat → Nat → Nat → Nat} {num : Nat → Nat} {q : List Nat} (hR : zRM all c g num q) : f9_allSteps all = some (nI (c 0 + c 1 + c 2)) := by
  have h0 : f9_many all 0 = some (nI (c 0)) := many_ok (t := 0) hR (by omega)
  have h1 : f9_many all 1 = some (nI (c 1)) := many_ok (t := 1) hR (by omega)
  have h2 : f9_many all 2 = some (nI (c 2)) := many_ok (t := 2) hR (by omega)
  unfold f9_allSteps
  rw [h0, ab_bind, h1, ab_bind, h2, ab_bind, nI_add, nI_add]
/-! what is found of all orders -/
def zFR (c : Nat → Nat) (g : Nat → Nat → Nat → Nat) (num : Nat → Nat) (R : List (List Nat)) (isEnd found : Nat → Int32) : Prop :=
  found 0 = nI R.length ∧ found 1 = nI (zss c R) ∧ found 2 = nI (zww num g R) ∧ found 3 = nI (zue num g R) ∧ ∀ e, e < 10000 → isEnd e = bI (zisE num g R e)
theorem found_one {all far row stepAt tries values : Nat → Int32} {depth wrong : Int32} {c : Nat → Nat} {g : Nat → Nat → Nat → Nat} {num : Nat → Nat} {x : List Nat} {R : List (List Nat)} {isEnd found : Nat → Int32} (hP : zPG c g num) (hx : zok c g x) (hF : zFR c g num R isEnd found) (hV : zVE values wrong (zex num g x))
    (kk : (Nat → Int32) → (Nat → Int32) → (Nat → Int32) → (Nat → Int32) → Int32 → (Nat → Int32) → (Nat → Int32) → Int32 → (Nat → Int32) → (Nat → Int32) → Option ((Nat → Int32) × (Nat → Int32) × (Nat → Int32) × Int32 × (Nat → Int32) × (Nat → Int32) × Int32 × (Nat → Int32) × (Nat → Int32))) :
    ∃ isEnd' found', (if nI (c 0 + c 1 + c 2) ≤ nI x.length then f9_findsAll_b91 kk all far row stepAt depth tries values wrong isEnd (upd found 0 (found 0 + 1)) (nI (zen (zex num g x).1)) 1 ((upd found 0 (found 0 + 1)) 1) 0 else f9_findsAll_b91 kk all far row stepAt depth tries values wrong isEnd (upd found 0 (found 0 + 1)) (nI (zen (zex num g x).1)) 1 ((upd found 0 (found 0 + 1)) 1) 1) = kk all far row stepAt depth tries values wrong isEnd' found' ∧ zFR c g num (x :: R) isEnd' found' := by
  obtain ⟨hs, hn, -⟩ := hP
  have hl := zlen_le hs hx
  have h0 := (hs 0 (by omega)).1
  have h1 := (hs 1 (by omega)).1
  have h2 := (hs 2 (by omega)).1
  have hex := zex_lt hs hn hx
  have hen := zen_lt hex.1
  obtain ⟨f0, f1, f2, f3, f4⟩ := hF
  have b135 : ∀ (fd : Nat → Int32) (d : Nat), fd 3 = nI (zue num g R) → ∃ isEnd', f9_findsAll_b135 kk all far row stepAt depth tries values wrong isEnd fd (nI (zen (zex num g x).1)) 3 (fd 3) (nI d) = kk all far row stepAt depth tries values wrong isEnd' (upd fd 3 (nI (zue num g R + d))) ∧ ∀ e, e < 10000 → isEnd' e = bI (zisE num g (x :: R) e) := by
    intro fd d hd
    refine ⟨upd isEnd (zen (zex num g x).1) 1, ?_, fun e he => ?_⟩
    · unfold f9_findsAll_b135
      rw [hd, nI_add, l_3, awr_ok (by omega) (by omega), ab_bind, awr_ok hen (by omega), ab_bind]
    · rw [ab_upd, zisE_c]
      by_cases d : e = zen (zex num g x).1
      · rw [if_pos d, decide_eq_true d.symm]; rfl
      · rw [if_neg d, decide_eq_false (fun k => d k.symm), Bool.false_or, f4 e he]
  have b112 : ∀ (fd : Nat → Int32) (d : Nat), fd 0 = nI (R.length + 1) → fd 1 = nI (zss c (x :: R)) → fd 2 = nI (zww num g R) → fd 3 = nI (zue num g R) → zww num g R + d = zww num g (x :: R) → ∃ isEnd' found', f9_findsAll_b112 kk all far row stepAt depth tries values wrong isEnd fd (nI (zen (zex num g x).1)) 2 (fd 2) (nI d) = kk all far row stepAt depth tries values wrong isEnd' found' ∧ zFR c g num (x :: R) isEnd' found' := by
    intro fd d e0 e1 e2 e3 ed
    unfold f9_findsAll_b112
    rw [e2, nI_add, ed, l_2, awr_ok (by omega) (by omega), ab_bind, ard_ok hen (by omega), ab_bind, f4 _ hen]
    have hfd3 : upd fd 2 (nI (zww num g (x :: R))) 3 = nI (zue num g R) := by rw [ab_upd, if_neg (by decide)]; exact e3
    cases hz : zisE num g R (zen (zex num g x).1) with
    | true =>
      obtain ⟨ie, a, b⟩ := b135 (upd fd 2 (nI (zww num g (x :: R)))) 0 hfd3
      rw [bI_t, if_neg i_1ne0]
      refine ⟨ie, _, a, ?_, ?_, ?_, ?_, b⟩
      · rw [ab_upd, if_neg (by decide), ab_upd, if_neg (by decide)]; exact e0
      · rw [ab_upd, if_neg (by decide), ab_upd, if_neg (by decide)]; exact e1
      · rw [ab_upd, if_neg (by decide), ab_upd, if_pos rfl]
      · rw [ab_upd, if_pos rfl]
        show _ = nI (zue num g R + if zisE num g R (zen (zex num g x).1) = true then 0 else 1)
        rw [hz]; rfl
    | false =>
      obtain ⟨ie, a, b⟩ := b135 (upd fd 2 (nI (zww num g (x :: R)))) 1 hfd3
      rw [bI_f, if_pos rfl]
      refine ⟨ie, _, a, ?_, ?_, ?_, ?_, b⟩
      · rw [ab_upd, if_neg (by decide), ab_upd, if_neg (by decide)]; exact e0
      · rw [ab_upd, if_neg (by decide), ab_upd, if_neg (by decide)]; exact e1
      · rw [ab_upd, if_neg (by decide), ab_upd, if_pos rfl]
      · rw [ab_upd, if_pos rfl]
        show _ = nI (zue num g R + if zisE num g R (zen (zex num g x).1) = true then 0 else 1)
        rw [hz]; rfl
  have b91 : ∀ (d : Nat), zss c R + d = zss c (x :: R) → ∃ isEnd' found', f9_findsAll_b91 kk all far row stepAt depth tries values wrong isEnd (upd found 0 (found 0 + 1)) (nI (zen (zex num g x).1)) 1 ((upd found 0 (found 0 + 1)) 1) (nI d) = kk all far row stepAt depth tries values wrong isEnd' found' ∧ zFR c g num (x :: R) isEnd' found' := by
    intro d ed
    unfold f9_findsAll_b91
    have e1 : upd found 0 (found 0 + 1) 1 = nI (zss c R) := by rw [ab_upd, if_neg (by decide)]; exact f1
    rw [e1, nI_add, ed, show (1 : Int32) = nI 1 from rfl, awr_ok (i := 1) (by omega) (by omega), ab_bind]
    have g0 : upd (upd found 0 (found 0 + nI 1)) 1 (nI (zss c (x :: R))) 0 = nI (R.length + 1) := by rw [ab_upd, if_neg (by decide), ab_upd, if_pos rfl, f0, nI_add]
    have g1 : upd (upd found 0 (found 0 + nI 1)) 1 (nI (zss c (x :: R))) 1 = nI (zss c (x :: R)) := by rw [ab_upd, if_pos rfl]
    have g2 : upd (upd found 0 (found 0 + nI 1)) 1 (nI (zss c (x :: R))) 2 = nI (zww num g R) := by rw [ab_upd, if_neg (by decide), ab_upd, if_neg (by decide)]; exact f2
    have g3 : upd (upd found 0 (found 0 + nI 1)) 1 (nI (zss c (x :: R))) 3 = nI (zue num g R) := by rw [ab_upd, if_neg (by decide), ab_upd, if_neg (by decide)]; exact f3
    by_cases e : 0 < (zex num g x).2
    · rw [l_0, if_neg (show ¬ wrong ≤ nI 0 by rw [hV.2]; exact nI_ge e (by omega))]
      exact b112 _ 1 g0 g1 g2 g3 (by rw [zww_c, if_pos e])
    · rw [l_0, if_pos (show wrong ≤ nI 0 by rw [hV.2]; exact nI_le (by omega) (by decide))]
      exact b112 _ 0 g0 g1 g2 g3 (by rw [zww_c, if_neg e])
  by_cases e : x.length < c 0 + c 1 + c 2
  · rw [if_neg (nI_ge e (by omega))]
    exact b91 1 (by rw [zss_c, if_pos e])
  · rw [if_pos (nI_le (by omega) (by omega))]
    exact b91 0 (by rw [zss_c, if_neg e])
theorem findsAll_ok {all : Nat → Int32} {c : Nat → Nat} {g : Nat → Nat → Nat → Nat} {num : Nat → Nat} {rn : List Nat} (hP : zPG c g num) (hR : zRM all c g num rn) (far row stepAt : Nat → Int32) (depth : Int32) (tries values : Nat → Int32) (wrong : Int32) (isEnd found : Nat → Int32) :
    ∃ z, f9_findsAll all far row stepAt depth tries values wrong isEnd found = some z ∧ zFR c g num (zAll c g).reverse z.2.2.2.2.2.2.2.1 z.2.2.2.2.2.2.2.2 := by
  have hs := hP.1
  have hN := zAll_len hP
  have h0 := (hs 0 (by omega)).1
  have h1 := (hs 1 (by omega)).1
  have h2 := (hs 2 (by omega)).1
  have loop : ∀ (xs : List (List Nat)) (R : List (List Nat)) (q : List Nat) (tr : Nat → Nat) (fuel : Nat) (far row stepAt : Nat → Int32) (depth : Int32) (tries values : Nat → Int32) (wrong : Int32) (isEnd found : Nat → Int32),
      zGS c g far row stepAt depth tries q tr → zrest c g (c 0 + c 1 + c 2) tr q = xs → zph (c 0 + c 1 + c 2) tr q < kFUEL → zFR c g num R isEnd found →
        ∃ z, f9_findsAll_l46 (xs.length + fuel + 1) all far row stepAt depth tries values wrong isEnd found = some z ∧ zFR c g num (xs.reverse ++ R) z.2.2.2.2.2.2.2.1 z.2.2.2.2.2.2.2.2 := by
    intro xs
    induction xs with
    | nil =>
      intro R q tr fuel far row stepAt depth tries values wrong isEnd found hG hr hph hF
      obtain ⟨z, z1, z2⟩ := goesOn_ok hs hR kFUEL far row stepAt depth tries q tr hG hph
      rw [show ([] : List (List Nat)).length + fuel + 1 = fuel + 1 by simp, f9_findsAll_l46_s]
      unfold f9_goesOn
      rw [z1, ab_bind]
      rcases z2 with ⟨_, z2⟩ | ⟨x, xs, tr', a1, _⟩
      · rw [if_pos z2]
        exact ⟨_, rfl, hF⟩
      · rw [hr] at a1; cases a1
    | cons x xs ih =>
      intro R q tr fuel far row stepAt depth tries values wrong isEnd found hG hr hph hF
      obtain ⟨z, z1, z2⟩ := goesOn_ok hs hR kFUEL far row stepAt depth tries q tr hG hph
      rw [show (x :: xs).length + fuel + 1 = (xs.length + fuel + 1) + 1 by rw [List.length_cons]; omega, f9_findsAll_l46_s]
      unfold f9_goesOn
      rw [z1, ab_bind]
      rcases z2 with ⟨a1, _⟩ | ⟨x', xs', tr', a1, a2, a3, a4, a5⟩
      · rw [hr] at a1; cases a1
      · rw [hr] at a1
        injection a1 with e1 e2
        subst e1
        subst e2
        obtain ⟨v, v1, v2, v3⟩ := endOf_ok hP hR a3.1 a3.2.1 values wrong
        have hdep := a3.2.1.2.1
        rw [a2, if_neg i_1ne0, v1, ab_bind, allSteps_ok hR, ab_bind, hdep, v2]
        obtain ⟨ie, fd, b1, b2⟩ := found_one (all := all) (far := z.2.1) (row := z.2.2.1) (stepAt := z.2.2.2.1) (tries := z.2.2.2.2.2) (depth := nI x.length) hP a3.1 hF v3 (f9_findsAll_l46 (xs.length + fuel + 1))
        rw [b1]
        obtain ⟨w, w1, w2⟩ := ih (x :: R) x tr' fuel _ _ _ _ _ v.2.1 v.2.2 ie fd a3 a4 (by omega) b2
        rw [hdep] at w1
        refine ⟨w, w1, ?_⟩
        rw [List.reverse_cons, List.append_assoc]
        exact w2
  /- all is cleared first -/
  have b42 : ∀ (isEnd found : Nat → Int32), (∀ e, e < 10000 → isEnd e = 0) → (∀ k, k < 4 → found k = 0) → ∃ z, f9_findsAll_b42 all far row stepAt depth tries values wrong isEnd found = some z ∧ zFR c g num (zAll c g).reverse z.2.2.2.2.2.2.2.1 z.2.2.2.2.2.2.2.2 := by
    intro isEnd found he hf
    obtain ⟨s, s1, tr, s2, s3, s4⟩ := starts_ok hs far row stepAt depth tries
    unfold f9_findsAll_b42
    rw [s1, ab_bind]
    obtain ⟨fu, hfu⟩ := kF ((zAll c g).length + 1) (by omega)
    have hf2 : kFUEL = (zAll c g).length + fu + 1 := by omega
    obtain ⟨z, z1, z2⟩ := loop (zAll c g) [] [] tr fu _ _ _ _ _ values wrong isEnd found s2 s3 s4 ⟨hf 0 (by omega), hf 1 (by omega), hf 2 (by omega), hf 3 (by omega), fun e h => by rw [he e h]; rfl⟩
    rw [← hf2] at z1
    rw [List.append_nil] at z2
    exact ⟨z, z1, z2⟩
  have l24 : ∀ (isEnd found : Nat → Int32), (∀ e, e < 10000 → isEnd e = 0) → ∃ z, f9_findsAll_b22 all far row stepAt depth tries values wrong isEnd found = some z ∧ zFR c g num (zAll c g).reverse z.2.2.2.2.2.2.2.1 z.2.2.2.2.2.2.2.2 := by
    intro isEnd found he
    have one : ∀ (n x : Nat) (fd : Nat → Int32), x < 4 → f9_findsAll_l24 (n + 1) all far row stepAt depth tries values wrong isEnd fd (nI x) = f9_findsAll_l24 n all far row stepAt depth tries values wrong isEnd (upd fd x 0) (nI (x + 1)) := by
      intro n x fd hx
      rw [f9_findsAll_l24_s, l_4, if_neg (nI_ge hx (by decide)), awr_ok hx (by omega), ab_bind, nI_1]
    unfold f9_findsAll_b22
    rw [show kFUEL = 999999995 + 1 + 1 + 1 + 1 + 1 from rfl]
    show ∃ z, f9_findsAll_l24 _ all far row stepAt depth tries values wrong isEnd found (nI 0) = some z ∧ _
    rw [one _ 0 _ (by decide), one _ 1 _ (by decide), one _ 2 _ (by decide), one _ 3 _ (by decide), f9_findsAll_l24_s, l_4, if_pos (nI_le (by decide) (by decide))]
    refine b42 isEnd _ he (fun k hk => ?_)
    have : k = 0 ∨ k = 1 ∨ k = 2 ∨ k = 3 := by omega
    rcases this with rfl | rfl | rfl | rfl <;> rfl
  have l2 : ∀ (d i fuel : Nat) (isEnd : Nat → Int32), i + d = 10000 → (∀ e, e < i → isEnd e = 0) → ∃ z, f9_findsAll_l2 (d + fuel + 1) all far row stepAt depth tries values wrong isEnd found (nI i) = some z ∧ zFR c g num (zAll c g).reverse z.2.2.2.2.2.2.2.1 z.2.2.2.2.2.2.2.2 := by
    intro d
    induction d with
    | zero =>
      intro i fuel isEnd hi he
      have e : i = 10000 := by omega
      subst e
      rw [show 0 + fuel + 1 = fuel + 1 by omega, f9_findsAll_l2_s, l_10000, if_pos (nI_le (Nat.le_refl _) (by decide))]
      exact l24 isEnd found he
    | succ d ih =>
      intro i fuel isEnd hi he
      rw [show d + 1 + fuel + 1 = (d + fuel + 1) + 1 by omega, f9_findsAll_l2_s, l_10000, if_neg (nI_ge (by omega) (by decide)), awr_ok (by omega) (by omega), ab_bind, nI_1]
      refine ih (i + 1) fuel _ (by omega) (fun e he2 => ?_)
      rw [ab_upd]
      by_cases ee : e = i
      · rw [if_pos ee]
      · rw [if_neg ee]; exact he e (by omega)
  unfold f9_findsAll
  obtain ⟨fu, hf⟩ := kF 10001 (by omega)
  have hf2 : kFUEL = 10000 + fu + 1 := by omega
  rw [hf2]
  exact l2 10000 0 fu isEnd (by omega) (fun e he => by omega)
/-! one sort, by its number -/
theorem findsSort_ok {all : Nat → Int32} {c : Nat → Nat} {g : Nat → Nat → Nat → Nat} {num : Nat → Nat} {rn : List Nat} (hP : zPG c g num) (hR : zRM all c g num rn) (far row stepAt : Nat → Int32) (depth : Int32) (tries : Nat → Int32) {k : Nat} (hk : k < 2 ^ 31) :
    ∃ z, f9_findsSort all far row stepAt depth tries (nI k) = some z ∧ ((z.1 = 0 ∧ (zAll c g).length ≤ k) ∨ ∃ x, z.1 = 1 ∧ (zAll c g)[k]? = some x ∧ zok c g x ∧ zFQ z.2.1 z.2.2.1 z.2.2.2.1 z.2.2.2.2.1 x) := by
  have hs := hP.1
  have hN := zAll_len hP
  have loop : ∀ (xs : List (List Nat)) (n : Nat) (q : List Nat) (tr : Nat → Nat) (fuel : Nat) (far row stepAt : Nat → Int32) (depth : Int32) (tries : Nat → Int32),
      zGS c g far row stepAt depth tries q tr → zrest c g (c 0 + c 1 + c 2) tr q = xs → zph (c 0 + c 1 + c 2) tr q < kFUEL → n ≤ k → n + xs.length < 2 ^ 31 →
        ∃ z, f9_findsSort_l6 (xs.length + fuel + 1) all far row stepAt depth tries (nI k) (nI n) = some z ∧ ((z.1 = 0 ∧ xs.length ≤ k - n) ∨ ∃ x, z.1 = 1 ∧ xs[k - n]? = some x ∧ zok c g x ∧ zFQ z.2.1 z.2.2.1 z.2.2.2.1 z.2.2.2.2.1 x) := by
    intro xs
    induction xs with
    | nil =>
      intro n q tr fuel far row stepAt depth tries hG hr hph hn hb
      obtain ⟨z, z1, z2⟩ := goesOn_ok hs hR kFUEL far row stepAt depth tries q tr hG hph
      rw [show ([] : List (List Nat)).length + fuel + 1 = fuel + 1 by simp, f9_findsSort_l6_s]
      unfold f9_goesOn
      rw [z1, ab_bind]
      rcases z2 with ⟨_, z2⟩ | ⟨x, xs, tr', a1, _⟩
      · rw [if_pos z2]
        exact ⟨_, rfl, Or.inl ⟨rfl, Nat.zero_le _⟩⟩
      · rw [hr] at a1; cases a1
    | cons x xs ih =>
      intro n q tr fuel far row stepAt depth tries hG hr hph hn hb
      rw [List.length_cons] at hb
      obtain ⟨z, z1, z2⟩ := goesOn_ok hs hR kFUEL far row stepAt depth tries q tr hG hph
      rw [show (x :: xs).length + fuel + 1 = (xs.length + fuel + 1) + 1 by rw [List.length_cons]; omega, f9_findsSort_l6_s]
      unfold f9_goesOn
      rw [z1, ab_bind]
      rcases z2 with ⟨a1, _⟩ | ⟨x', xs', tr', a1, a2, a3, a4, a5⟩
      · rw [hr] at a1; cases a1
      · rw [hr] at a1
        injection a1 with e1 e2
        subst e1
        subst e2
        rw [a2, if_neg i_1ne0]
        by_cases e : n = k
        · rw [if_pos (by rw [e])]
          refine ⟨_, rfl, Or.inr ⟨x, rfl, ?_, a3.1, a3.2.1⟩⟩
          rw [e, Nat.sub_self]
          rfl
        · rw [if_neg (fun h => e ((nI_eq (by omega) (by omega)).mp h)), nI_1]
          obtain ⟨w, w1, w2⟩ := ih (n + 1) x tr' fuel _ _ _ _ _ a3 a4 (by omega) (by omega) (by omega)
          refine ⟨w, w1, ?_⟩
          rw [show k - n = (k - (n + 1)) + 1 by omega]
          rcases w2 with ⟨w2, w3⟩ | ⟨y, w2, w3, w4, w5⟩
          · exact Or.inl ⟨w2, by rw [List.length_cons]; omega⟩
          · exact Or.inr ⟨y, w2, by rw [List.getElem?_cons_succ]; exact w3, w4, w5⟩
  obtain ⟨s, s1, tr, s2, s3, s4⟩ := starts_ok hs far row stepAt depth tries
  unfold f9_findsSort
  rw [s1, ab_bind]
  obtain ⟨fu, hfu⟩ := kF ((zAll c g).length + 1) (by omega)
  have hf2 : kFUEL = (zAll c g).length + fu + 1 := by omega
  obtain ⟨z, z1, z2⟩ := loop (zAll c g) 0 [] tr fu _ _ _ _ _ s2 s3 s4 (Nat.zero_le _) (by omega)
  rw [← hf2] at z1
  rw [Nat.sub_zero] at z2
  exact ⟨z, z1, z2⟩
