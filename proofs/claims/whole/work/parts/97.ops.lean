/-! class and reference side by side -/
def zRF (rb rn rf : Int32) (refused : Nat → Int32) : Prop := refused 0 = rb ∧ refused 1 = rn ∧ refused 2 = rf
def zTT (bytes : Nat → Int32) (len : Int32) (text : Nat → Int32) (textLong : Int32) : Prop := ∃ tx n, len = nI n ∧ textLong = nI n ∧ zTX bytes tx n ∧ zTX text tx n
def zREL (now : sT) (kept : Nat → sT) (oldest size : Int32) (threads : sT) (rows ended : Nat → Int32) (known inAll count still wrong unlike : Int32) (bytes : Nat → Int32) (len rb rn rf : Int32) (all past : Nat → Int32) (states : Int32) (refused text : Nat → Int32) (textLong : Int32) : Prop :=
  zST now all ∧ zPA kept oldest size past states ∧ zAO threads rows ended known inAll count still wrong unlike ∧ zRF rb rn rf refused ∧ zTT bytes len text textLong
theorem refB {rb rn rf : Int32} {refused : Nat → Int32} (h : zRF rb rn rf refused) : ∃ r', f8_refused rb rn rf (-2) = some (-2, rb + 1, rn, rf) ∧ f9_refuses refused (-2) = some (-2, r') ∧ zRF (rb + 1) rn rf r' := by
  have e : (-2 : Int32) - (-2) = nI 0 := by decide
  refine ⟨upd refused 0 (rb + 1), rfl, ?_, ?_, ?_, ?_⟩
  · unfold f9_refuses
    rw [e, ard_ok (by omega) (by omega), ab_bind, awr_ok (by omega) (by omega), ab_bind, h.1]
  · rw [ab_upd, if_pos rfl]
  · rw [ab_upd, if_neg (by decide)]; exact h.2.1
  · rw [ab_upd, if_neg (by decide)]; exact h.2.2
theorem refN {rb rn rf : Int32} {refused : Nat → Int32} (h : zRF rb rn rf refused) : ∃ r', f8_refused rb rn rf (-3) = some (-3, rb, rn + 1, rf) ∧ f9_refuses refused (-3) = some (-3, r') ∧ zRF rb (rn + 1) rf r' := by
  have e : (-2 : Int32) - (-3) = nI 1 := by decide
  refine ⟨upd refused 1 (rn + 1), ?_, ?_, ?_, ?_, ?_⟩
  · unfold f8_refused
    rw [if_neg (by decide), if_pos rfl]; rfl
  · unfold f9_refuses
    rw [e, ard_ok (by omega) (by omega), ab_bind, awr_ok (by omega) (by omega), ab_bind, h.2.1]
  · rw [ab_upd, if_neg (by decide)]; exact h.1
  · rw [ab_upd, if_pos rfl]
  · rw [ab_upd, if_neg (by decide)]; exact h.2.2
theorem refF {rb rn rf : Int32} {refused : Nat → Int32} (h : zRF rb rn rf refused) : ∃ r', f8_refused rb rn rf (-4) = some (-4, rb, rn, rf + 1) ∧ f9_refuses refused (-4) = some (-4, r') ∧ zRF rb rn (rf + 1) r' := by
  have e : (-2 : Int32) - (-4) = nI 2 := by decide
  refine ⟨upd refused 2 (rf + 1), ?_, ?_, ?_, ?_, ?_⟩
  · unfold f8_refused
    rw [if_neg (by decide), if_neg (by decide)]; rfl
  · unfold f9_refuses
    rw [e, ard_ok (by omega) (by omega), ab_bind, awr_ok (by omega) (by omega), ab_bind, h.2.2]
  · rw [ab_upd, if_neg (by decide)]; exact h.1
  · rw [ab_upd, if_neg (by decide)]; exact h.2.1
  · rw [ab_upd, if_pos rfl]
/-! what a call's numbers tell -/
theorem isTold_ok (a b d : Int32) : f9_isTold a b d = f6_isOne a b d := by
  have i5 : ∀ x : Int32, f9_in x.toInt64 (0 : Int64) (5 : Int64) = f8_below x 6 := fun x => ab_in x 5 (by decide)
  have i3 : ∀ x : Int32, f9_in x.toInt64 (0 : Int64) (3 : Int64) = f8_below x 4 := fun x => ab_in x 3 (by decide)
  have i1 : ∀ x : Int32, f9_in x.toInt64 (0 : Int64) (1 : Int64) = f8_below x 2 := fun x => ab_in x 1 (by decide)
  have i9 : ∀ x : Int32, f9_in x.toInt64 (0 : Int64) (9 : Int64) = f8_below x 10 := fun x => ab_in x 9 (by decide)
  have i0 : ∀ x : Int32, f9_in x.toInt64 (0 : Int64) (0 : Int64) = if x = 0 then 1 else 0 := by
    intro x
    have h : f9_in x.toInt64 (0 : Int64) (0 : Int64) = f8_below x 1 := ab_in x 0 (by decide)
    rw [h]
    rcases ab_below x 1 (by decide) with ⟨j, j1, j2, j3⟩ | j
    · have : j = 0 := by omega
      subst this
      rw [if_pos (show x = 0 from j2)]; exact j3
    · rw [if_neg]
      · exact j
      · intro e
        subst e
        have : f8_below (0 : Int32) (nI 1) = 1 := by decide
        rw [this] at j
        exact absurd j (by decide)
  have bb : ∀ x y : Int32, (if f8_below x y = 0 then (0 : Int32) else 1) = f8_below x y := by
    intro x y
    unfold f8_below
    by_cases h1 : x < 0
    · rw [if_pos h1, if_pos rfl]
    · rw [if_neg h1]
      by_cases h2 : y ≤ x
      · rw [if_pos h2, if_pos rfl]
      · rw [if_neg h2, if_neg i_1ne0]
  unfold f9_isTold f9_isTold_b10 f9_isTold_b15 f9_isTold_b42 f9_isTold_b73 f6_isOne f6_isOne_b56 f6_isLocking f6_isLocking_b10
  rw [i5, i3, i1, i0, i3, i9, bb, bb]
  by_cases a4 : a = 4
  · rw [if_pos a4, if_pos a4, if_neg i_1ne0, if_neg i_1ne0]
    by_cases k1 : f8_below a 6 = 0
    · rw [if_pos k1, if_pos k1]
    · rw [if_neg k1, if_neg k1]
      by_cases k2 : f8_below b 2 = 0
      · rw [if_pos k2, if_pos k2, if_neg i_1ne0]
      · rw [if_neg k2, if_neg k2]
        by_cases k3 : d = 0
        · rw [if_pos k3, if_neg i_1ne0, if_neg i_1ne0]
        · rw [if_neg k3, if_pos rfl, if_neg i_1ne0]
  · rw [if_neg a4, if_neg a4]
    by_cases a5 : a = 5
    · rw [if_pos a5, if_pos a5, if_neg i_1ne0, if_neg i_1ne0]
      by_cases k1 : f8_below a 6 = 0
      · rw [if_pos k1, if_pos k1]
      · rw [if_neg k1, if_neg k1]
        by_cases k2 : f8_below b 2 = 0
        · rw [if_pos k2, if_pos k2, if_neg i_1ne0]
        · rw [if_neg k2, if_neg k2]
          by_cases k3 : d = 0
          · rw [if_pos k3, if_neg i_1ne0, if_neg i_1ne0]
          · rw [if_neg k3, if_pos rfl, if_neg i_1ne0]
    · rw [if_neg a5, if_neg a5, if_pos rfl, if_pos rfl]
      by_cases k1 : f8_below a 6 = 0
      · rw [if_pos k1, if_pos k1]
      · rw [if_neg k1, if_neg k1]
        by_cases k2 : f8_below b 4 = 0
        · rw [if_pos k2, if_pos rfl]
        · rw [if_neg k2, if_pos rfl]
theorem isOne_ok (a b d : Int32) : f6_isOne a b d = 0 ∨ ∃ s x v, a = nI s ∧ b = nI x ∧ d = nI v ∧ okS s x v ∧ f6_isOne a b d = 1 := by
  unfold f6_isOne f6_isOne_b56
  rcases ab_below a 6 (by decide) with ⟨s, s1, rfl, s3⟩ | k
  · have s3' : f8_below (nI s) 6 = 1 := s3
    rw [s3', if_neg i_1ne0, isLocking_ok s1]
    by_cases h4 : 4 ≤ s
    · rw [decide_eq_true h4, bI_t, if_neg i_1ne0]
      rcases ab_below b 2 (by decide) with ⟨x, x1, rfl, x3⟩ | k
      · have x3' : f8_below (nI x) 2 = 1 := x3
        rw [x3', if_neg i_1ne0]
        by_cases e : d = 0
        · rw [if_pos e]
          exact Or.inr ⟨s, x, 0, rfl, rfl, e, ⟨s1, by omega, by omega, fun _ => by omega, fun _ => x1⟩, rfl⟩
        · rw [if_neg e]; exact Or.inl rfl
      · have k' : f8_below b 2 = 0 := k
        rw [k', if_pos rfl]; exact Or.inl rfl
    · rw [decide_eq_false h4, bI_f, if_pos rfl]
      rcases ab_below b 4 (by decide) with ⟨x, x1, rfl, x3⟩ | k
      · have x3' : f8_below (nI x) 4 = 1 := x3
        rw [x3', if_neg i_1ne0]
        by_cases e : s = 2
        · rw [if_pos (show nI s = 2 by rw [e]; rfl)]
          rcases ab_below d 4 (by decide) with ⟨v, v1, rfl, v3⟩ | k
          · have v3' : f8_below (nI v) 4 = 1 := v3
            rw [v3', if_neg i_1ne0]
            exact Or.inr ⟨s, x, v, rfl, rfl, rfl, ⟨s1, x1, by omega, fun _ => v1, fun _ => by omega⟩, rfl⟩
          · have k' : f8_below d 4 = 0 := k
            rw [k', if_pos rfl]; exact Or.inl rfl
        · rw [if_neg (show ¬ nI s = 2 from fun q => e ((nI_eq (b := 2) (by omega) (by decide)).mp q))]
          rcases ab_below d 10 (by decide) with ⟨v, v1, rfl, v3⟩ | k
          · have v3' : f8_below (nI v) 10 = 1 := v3
            rw [v3', if_neg i_1ne0]
            exact Or.inr ⟨s, x, v, rfl, rfl, rfl, ⟨s1, x1, v1, fun q => absurd q e, fun _ => by omega⟩, rfl⟩
          · have k' : f8_below d 10 = 0 := k
            rw [k', if_pos rfl]; exact Or.inl rfl
      · have k' : f8_below b 4 = 0 := k
        rw [k', if_pos rfl]; exact Or.inl rfl
  · have k' : f8_below a 6 = 0 := k
    rw [k', if_pos rfl]; exact Or.inl rfl
section OPS
variable {now : sT} {kept : Nat → sT} {oldest size : Int32} {threads : sT} {rows ended : Nat → Int32} {known inAll count still wrong unlike : Int32} {bytes : Nat → Int32} {len rb rn rf : Int32} {all past : Nat → Int32} {states : Int32} {refused text : Nat → Int32} {textLong : Int32}
/-- a thread's number -/
theorem thread3 (x : Int32) : (∃ t, t < 3 ∧ x = nI t ∧ f8_below x 3 = 1 ∧ f9_isThread x = 1) ∨ (f8_below x 3 = 0 ∧ f9_isThread x = 0) := by
  rw [isThread_ok]
  rcases ab_below x 3 (by decide) with ⟨t, t1, t2, t3⟩ | t
  · exact Or.inl ⟨t, t1, t2, t3, t3⟩
  · exact Or.inr ⟨t, t⟩
theorem o_step (h : zREL now kept oldest size threads rows ended known inAll count still wrong unlike bytes len rb rn rf all past states refused text textLong) (x1 x2 x3 x4 : Int32) :
    ∃ z y, f8_step now kept oldest size rb rn rf x1 x2 x3 x4 = some z ∧ f9_step all past states refused x1 x2 x3 x4 = some y ∧ z.1 = y.1 ∧ zREL z.2.1 z.2.2.1 z.2.2.2.1 z.2.2.2.2.1 threads rows ended known inAll count still wrong unlike bytes len z.2.2.2.2.2.1 z.2.2.2.2.2.2.1 z.2.2.2.2.2.2.2 y.2.1 y.2.2.1 y.2.2.2.1 y.2.2.2.2 text textLong := by
  obtain ⟨hS, hA, hO, hF, hT⟩ := h
  obtain ⟨rB, b1, b2, b3⟩ := refB hF
  unfold f8_step f9_step f8_step_b18 f9_step_b17
  rw [b1, b2, ab_bind, ab_bind, isTold_ok]
  rcases thread3 x1 with ⟨t, t1, rfl, t3, t4⟩ | ⟨t3, t4⟩
  · rw [t3, t4, if_neg i_1ne0, if_neg i_1ne0]
    rcases isOne_ok x2 x3 x4 with k | ⟨s, x, v, rfl, rfl, rfl, ho, k⟩
    · rw [k, if_pos rfl, if_pos rfl]
      exact ⟨_, _, rfl, rfl, rfl, hS, hA, hO, b3, hT⟩
    · rw [k, if_neg i_1ne0, if_neg i_1ne0]
      obtain ⟨c, g, num, q, p1, p2, p3, p4⟩ := hS
      have hc4 := (p1.1 t t1).1
      rw [stepsOf_ok p3.1 t1, ab_bind, many_ok p4 t1, ab_bind]
      by_cases e : c t = 4
      · obtain ⟨rF, f1, f2, f3⟩ := refF hF
        rw [e, if_neg (show ¬ nI 4 < 4 by decide), if_pos (show nI 4 = 4 from rfl), f1, f2, ab_bind, ab_bind]
        exact ⟨_, _, rfl, rfl, rfl, ⟨c, g, num, q, p1, p2, p3, p4⟩, hA, hO, f3, hT⟩
      · obtain ⟨z, y, k1, k2, k3⟩ := keep_both hA ⟨c, g, num, q, p1, p2, p3, p4⟩
        obtain ⟨w', w1, w2⟩ := addStep_ok (s := s) (x := x) (v := v) p1 p3.1 p3.2.1 t1 (by omega)
        obtain ⟨all', a1, a2⟩ := lays_ok (s := s) (x := x) (v := v) p1 p4 t1 (by omega)
        rw [if_pos (show nI (c t) < 4 from nI_lt (b := 4) (by omega) (by decide)), if_neg (show ¬ nI (c t) = 4 from fun k => e ((nI_eq (b := 4) (by omega) (by decide)).mp k)), k1, k2, ab_bind, ab_bind, packed_ok ho.1 ho.2.1 ho.2.2.1, w1, a1, ab_bind, ab_bind, stepsOf_ok w2.1 t1, many_ok a2 t1, ab_bind, ab_bind]
        exact ⟨_, _, rfl, rfl, rfl, ⟨_, _, _, [], zPG_put p1 t1 (by omega) ho, trivial, w2, a2⟩, k3, hO, hF, hT⟩
  · rw [t3, t4, if_pos rfl, if_pos rfl]
    exact ⟨_, _, rfl, rfl, rfl, hS, hA, hO, b3, hT⟩
/-! a step less -/
theorem drop_PG {c : Nat → Nat} {g : Nat → Nat → Nat → Nat} {num : Nat → Nat} {t : Nat} (hP : zPG c g num) (hc : 0 < c t) : zPG (fun u => if u = t then c t - 1 else c u) (fun u i k => if u = t ∧ i = c t - 1 then 0 else g u i k) num := by
  obtain ⟨h1, h2, h3, h4, h5⟩ := hP
  refine ⟨fun u hu => ⟨?_, fun i hi => ?_⟩, h2, fun u hu => ?_, fun u i w h => ?_, h5⟩
  · show (if u = t then c t - 1 else c u) ≤ 4
    have := (h1 u hu).1
    by_cases e : u = t
    · rw [if_pos e]; rw [e] at this; omega
    · rw [if_neg e]; exact this
  · have hi' : i < if u = t then c t - 1 else c u := hi
    have hic : i < c u ∧ ¬ (u = t ∧ i = c t - 1) := by
      by_cases e : u = t
      · rw [if_pos e] at hi'; rw [e]; exact ⟨by omega, fun q => by omega⟩
      · rw [if_neg e] at hi'; exact ⟨hi', fun q => e q.1⟩
    show okS (if u = t ∧ i = c t - 1 then 0 else g u i 0) (if u = t ∧ i = c t - 1 then 0 else g u i 1) (if u = t ∧ i = c t - 1 then 0 else g u i 2)
    rw [if_neg hic.2, if_neg hic.2, if_neg hic.2]
    exact (h1 u hu).2 i hic.1
  · show (if u = t then c t - 1 else c u) = 0
    have := h3 u hu
    by_cases e : u = t
    · rw [if_pos e]; rw [e] at this; omega
    · rw [if_neg e]; exact this
  · show (if u = t ∧ i = c t - 1 then 0 else g u i w) = 0
    by_cases e : u = t ∧ i = c t - 1
    · rw [if_pos e]
    · rw [if_neg e]
      refine h4 u i w (fun q => h ⟨q.1, ?_, q.2.2⟩)
      show i < if u = t then c t - 1 else c u
      by_cases e1 : u = t
      · rw [if_pos e1]
        have : i ≠ c t - 1 := fun k => e ⟨e1, k⟩
        rw [e1] at q
        omega
      · rw [if_neg e1]; exact q.2.1
theorem drop_g {c : Nat → Nat} {g : Nat → Nat → Nat → Nat} {t u i : Nat} (hi : i < if u = t then c t - 1 else c u) : i < c u ∧ ∀ k, (if u = t ∧ i = c t - 1 then 0 else g u i k) = g u i k := by
  by_cases e : u = t
  · rw [if_pos e] at hi
    exact ⟨by rw [e]; omega, fun k => if_neg (fun q => by omega)⟩
  · rw [if_neg e] at hi
    exact ⟨hi, fun k => if_neg (fun q => e q.1)⟩
theorem o_drops (h : zREL now kept oldest size threads rows ended known inAll count still wrong unlike bytes len rb rn rf all past states refused text textLong) (x1 : Int32) :
    ∃ z y, f8_drops now kept oldest size rb rn rf x1 = some z ∧ f9_drops all past states refused x1 = some y ∧ z.1 = y.1 ∧ zREL z.2.1 z.2.2.1 z.2.2.2.1 z.2.2.2.2.1 threads rows ended known inAll count still wrong unlike bytes len z.2.2.2.2.2.1 z.2.2.2.2.2.2.1 z.2.2.2.2.2.2.2 y.2.1 y.2.2.1 y.2.2.2.1 y.2.2.2.2 text textLong := by
  obtain ⟨hS, hA, hO, hF, hT⟩ := h
  obtain ⟨rB, b1, b2, b3⟩ := refB hF
  unfold f8_drops f9_drops
  rw [b1, b2, ab_bind, ab_bind]
  rcases thread3 x1 with ⟨t, t1, rfl, t3, t4⟩ | ⟨t3, t4⟩
  · rw [t3, t4, if_neg i_1ne0, if_neg i_1ne0]
    obtain ⟨c, g, num, q, p1, p2, p3, p4⟩ := hS
    have hc4 := (p1.1 t t1).1
    rw [stepsOf_ok p3.1 t1, ab_bind, many_ok p4 t1, ab_bind]
    by_cases e : c t = 0
    · obtain ⟨rN, f1, f2, f3⟩ := refN hF
      rw [e, if_pos (show nI 0 = 0 from rfl), if_pos (show nI 0 = 0 from rfl), f1, f2, ab_bind, ab_bind]
      exact ⟨_, _, rfl, rfl, rfl, ⟨c, g, num, q, p1, p2, p3, p4⟩, hA, hO, f3, hT⟩
    · obtain ⟨z, y, k1, k2, k3⟩ := keep_both hA ⟨c, g, num, q, p1, p2, p3, p4⟩
      have hpos : 0 < c t := Nat.pos_of_ne_zero e
      have hne0 : ¬ nI (c t) = 0 := nI_ne0 hpos (by omega)
      have hC' : zRS (now.1, upd now.2.1 t (nI (c t - 1)), now.2.2.1, now.2.2.1, 0) (fun u => if u = t then c t - 1 else c u) (fun u i k => if u = t ∧ i = c t - 1 then 0 else g u i k) num [] := by
        refine ⟨⟨fun u hu => ?_, fun u hu i hi => ?_⟩, zMO_nil p3.2.1, zMO_nil p3.2.1, rfl⟩
        · show upd now.2.1 t (nI (c t - 1)) u = nI (if u = t then c t - 1 else c u)
          rw [ab_upd]
          by_cases eu : u = t
          · rw [if_pos eu, if_pos eu]
          · rw [if_neg eu, if_neg eu]; exact p3.1.1 u hu
        · obtain ⟨d1, d2⟩ := drop_g (g := g) (show i < if u = t then c t - 1 else c u from hi)
          show now.1 (4 * u + i) = nI (pkS (if u = t ∧ i = c t - 1 then 0 else g u i 0) (if u = t ∧ i = c t - 1 then 0 else g u i 1) (if u = t ∧ i = c t - 1 then 0 else g u i 2))
          rw [d2, d2, d2]
          exact p3.1.2 u hu i d1
      have hd : f5_dropStep now (nI t) = some (now.1, upd now.2.1 t (nI (c t - 1)), now.2.2.1, now.2.2.1, 0) := by
        unfold f5_dropStep f5_beginRun
        rw [t3, if_neg i_1ne0, ard_ok t1 (by omega), ab_bind, p3.1.1 t t1, l_0, if_neg (nI_ge hpos (by omega)), ab_bind, l_1, pk_sub hpos, awr_ok t1 (by omega), ab_bind, ab_bind]
      have hM' : zRM (upd (upd all (36 + t) (nI (c t - 1))) 43 0) (fun u => if u = t then c t - 1 else c u) (fun u i k => if u = t ∧ i = c t - 1 then 0 else g u i k) num [] := by
        refine ⟨fun u hu => ?_, fun u hu i hi k hk => ?_, fun y hy => ?_, rfl, fun p u y e => ?_⟩
        · show upd (upd all (36 + t) (nI (c t - 1))) 43 0 (36 + u) = nI (if u = t then c t - 1 else c u)
          rw [ab_upd, if_neg (by omega), ab_upd]
          by_cases eu : u = t
          · rw [if_pos (by omega), if_pos eu]
          · rw [if_neg (by omega), if_neg eu]; exact p4.1 u hu
        · obtain ⟨d1, d2⟩ := drop_g (g := g) (show i < if u = t then c t - 1 else c u from hi)
          have hcu := (p1.1 u hu).1
          show upd (upd all (36 + t) (nI (c t - 1))) 43 0 (12 * u + 3 * i + k) = nI (if u = t ∧ i = c t - 1 then 0 else g u i k)
          rw [d2, ab_upd, if_neg (by omega), ab_upd, if_neg (by omega)]
          exact p4.2.1 u hu i d1 k hk
        · rw [ab_upd, if_neg (by omega), ab_upd, if_neg (by omega)]
          exact p4.2.2.1 y hy
        · have := congrArg List.length e
          rw [List.length_append, List.length_cons] at this
          simp at this
      have hmany : f9_many (upd (upd all (36 + t) (nI (c t - 1))) 43 0) (nI t) = some (nI (c t - 1)) := by
        have := many_ok hM' t1
        rw [if_pos rfl] at this
        exact this
      have hsteps : f5_stepsOf (now.1, upd now.2.1 t (nI (c t - 1)), now.2.2.1, now.2.2.1, 0) (nI t) = some (nI (c t - 1)) := by
        have := stepsOf_ok hC'.1 t1
        rw [if_pos rfl] at this
        exact this
      rw [if_neg hne0, if_neg hne0, k1, k2, ab_bind, ab_bind, hd, ab_bind, hsteps, ab_bind, l_36, nI_add, ard_ok (by omega) (by omega), ab_bind, p4.1 t t1, l_1, pk_sub hpos, awr_ok (by omega) (by omega), ab_bind, hmany, ab_bind]
      exact ⟨_, _, rfl, rfl, rfl, ⟨_, _, _, [], drop_PG p1 hpos, trivial, hC', hM'⟩, k3, hO, hF, hT⟩
  · rw [t3, t4, if_pos rfl, if_pos rfl]
    exact ⟨_, _, rfl, rfl, rfl, hS, hA, hO, b3, hT⟩
theorem o_number (h : zREL now kept oldest size threads rows ended known inAll count still wrong unlike bytes len rb rn rf all past states refused text textLong) (x1 x2 : Int32) :
    ∃ z y, f8_number now kept oldest size rb rn rf x1 x2 = some z ∧ f9_number all past states refused x1 x2 = some y ∧ z.1 = y.1 ∧ zREL z.2.1 z.2.2.1 z.2.2.2.1 z.2.2.2.2.1 threads rows ended known inAll count still wrong unlike bytes len z.2.2.2.2.2.1 z.2.2.2.2.2.2.1 z.2.2.2.2.2.2.2 y.2.1 y.2.2.1 y.2.2.2.1 y.2.2.2.2 text textLong := by
  obtain ⟨hS, hA, hO, hF, hT⟩ := h
  obtain ⟨rB, b1, b2, b3⟩ := refB hF
  have i3 : f9_in x1.toInt64 (0 : Int64) (3 : Int64) = f8_below x1 4 := ab_in x1 3 (by decide)
  have i9 : f9_in x2.toInt64 (0 : Int64) (9 : Int64) = f8_below x2 10 := ab_in x2 9 (by decide)
  unfold f8_number f9_number f8_number_b17 f9_number_b24
  rw [b1, b2, ab_bind, ab_bind, i3, i9]
  rcases ab_below x1 4 (by decide) with ⟨x, x1', rfl, x3⟩ | k
  · have x3' : f8_below (nI x) 4 = 1 := x3
    rw [x3', if_neg i_1ne0, if_neg i_1ne0]
    rcases ab_below x2 10 (by decide) with ⟨v, v1, rfl, v3⟩ | k
    · have v3' : f8_below (nI v) 10 = 1 := v3
      rw [v3', if_neg i_1ne0, if_neg i_1ne0]
      obtain ⟨c, g, num, q, p1, p2, p3, p4⟩ := hS
      obtain ⟨z, y, k1, k2, k3⟩ := keep_both hA ⟨c, g, num, q, p1, p2, p3, p4⟩
      have hB := p3.2.1
      have hB' : zMO (f2_withValue now.2.2.1 (nI x) (nI v)) g (zup num x v) [] := by
        refine ⟨fun t ht => ?_, ?_, fun y hy => ?_, fun l hl => ?_⟩
        · rw [withValue_nib x1' (by omega) (by omega), if_neg (by omega)]; exact hB.1 t ht
        · rw [withValue_nib x1' (by omega) (by omega), if_neg (by omega)]; exact hB.2.1
        · rw [withValue_nib x1' (by omega) (by omega)]
          show _ = zup num x v y
          unfold zup
          by_cases e : y = x
          · rw [if_pos (by omega), if_pos e]
          · rw [if_neg (by omega), if_neg e]; exact hB.2.2.1 y hy
        · rw [withValue_nib x1' (by omega) (by omega), if_neg (by omega)]; exact hB.2.2.2 l hl
      have hP' : zPG c g (zup num x v) := by
        refine ⟨p1.1, fun y hy => ?_, p1.2.2.1, p1.2.2.2.1, fun y hy => ?_⟩
        · show zup num x v y < 10
          unfold zup
          by_cases e : y = x
          · rw [if_pos e]; exact v1
          · rw [if_neg e]; exact p1.2.1 y hy
        · show zup num x v y = 0
          unfold zup
          rw [if_neg (by omega)]; exact p1.2.2.2.2 y hy
      have hM' : zRM (upd (upd all (39 + x) (nI v)) 43 0) c g (zup num x v) [] := by
        refine ⟨fun u hu => ?_, fun u hu i hi k hk => ?_, fun y hy => ?_, rfl, fun p u y e => ?_⟩
        · rw [ab_upd, if_neg (by omega), ab_upd, if_neg (by omega)]; exact p4.1 u hu
        · have hcu := (p1.1 u hu).1
          rw [ab_upd, if_neg (by omega), ab_upd, if_neg (by omega)]; exact p4.2.1 u hu i hi k hk
        · rw [ab_upd, if_neg (by omega), ab_upd]
          unfold zup
          by_cases e : y = x
          · rw [if_pos (by omega), if_pos e]
          · rw [if_neg (by omega), if_neg e]; exact p4.2.2.1 y hy
        · have := congrArg List.length e
          rw [List.length_append, List.length_cons] at this
          simp at this
      have hv : f2_valueOf (f5_beginning now) (nI x) = nI (num x) := by
        unfold f5_beginning
        rw [valueOf_nib x1', hB.2.2.1 x x1']
        rfl
      unfold f5_setBeginning f5_beginRun
      rw [k1, k2, ab_bind, ab_bind, ab_bind, ab_bind, hv, l_39, nI_add, ard_ok (by omega) (by omega), ab_bind, p4.2.2.1 x x1', awr_ok (by omega) (by omega), ab_bind]
      exact ⟨_, _, rfl, rfl, rfl, ⟨_, _, _, [], hP', trivial, ⟨p3.1, hB', hB', rfl⟩, hM'⟩, k3, hO, hF, hT⟩
    · have k' : f8_below x2 10 = 0 := k
      rw [k', if_pos rfl, if_pos rfl]
      exact ⟨_, _, rfl, rfl, rfl, hS, hA, hO, b3, hT⟩
  · have k' : f8_below x1 4 = 0 := k
    rw [k', if_pos rfl, if_pos rfl]
    exact ⟨_, _, rfl, rfl, rfl, hS, hA, hO, b3, hT⟩
/-- whether there is such a step -/
theorem has_both {c : Nat → Nat} {g : Nat → Nat → Nat → Nat} {num : Nat → Nat} {q : List Nat} (p1 : zPG c g num) (p3 : zCS now c g) (p4 : zRM all c g num q) (x1 x2 : Int32) : (∃ t i, t < 3 ∧ i < c t ∧ x1 = nI t ∧ x2 = nI i ∧ f5_hasStep now x1 x2 = some 1 ∧ f9_isStep all x1 x2 = some 1) ∨ (f5_hasStep now x1 x2 = some 0 ∧ f9_isStep all x1 x2 = some 0) := by
  rcases thread3 x1 with ⟨t, t1, rfl, t3, t4⟩ | ⟨t3, t4⟩
  · have hc4 := (p1.1 t t1).1
    rw [isStep_x p1.1 p4 t1]
    unfold f5_hasStep
    rw [stepsOf_ok p3 t1]
    rcases ab_below x2 (c t) (by omega) with ⟨i, i1, rfl, i3⟩ | k
    · rw [i3, if_neg (nI_pos (by omega)), ab_bind, if_neg (nI_ge i1 (by omega))]
      exact Or.inl ⟨t, i, t1, i1, rfl, rfl, rfl, rfl⟩
    · rw [k]
      right
      refine ⟨?_, rfl⟩
      unfold f8_below at k
      by_cases a : x2 < 0
      · rw [if_pos a]
      · rw [if_neg a] at k ⊢
        rw [ab_bind]
        by_cases b : nI (c t) ≤ x2
        · rw [if_pos b]
        · rw [if_neg b] at k; exact absurd k i_1ne0
  · right
    unfold f5_hasStep f5_stepsOf f9_isStep
    rw [t3, t4, if_pos rfl, if_pos rfl, ab_bind]
    refine ⟨?_, rfl⟩
    by_cases a : x2 < 0
    · rw [if_pos a]
    · rw [if_neg a, if_pos]
      rw [fa_lt] at a
      rw [fa_le]
      omega
theorem o_of (h : zREL now kept oldest size threads rows ended known inAll count still wrong unlike bytes len rb rn rf all past states refused text textLong) (x1 x2 x3 : Int32) :
    ∃ z y, f8_of now rb rn rf x1 x2 x3 = some z ∧ f9_of all refused x1 x2 x3 = some y ∧ z.1 = y.1 ∧ zREL now kept oldest size threads rows ended known inAll count still wrong unlike bytes len z.2.1 z.2.2.1 z.2.2.2 all past states y.2 text textLong := by
  obtain ⟨hS, hA, hO, hF, hT⟩ := h
  obtain ⟨rB, b1, b2, b3⟩ := refB hF
  obtain ⟨c, g, num, q, p1, p2, p3, p4⟩ := hS
  have i4 : f9_in x3.toInt64 (0 : Int64) (4 : Int64) = f8_below x3 5 := ab_in x3 4 (by decide)
  unfold f8_of f9_of f9_of_b31
  rw [b1, b2, ab_bind, ab_bind, i4]
  rcases has_both p1 p3.1 p4 x1 x2 with ⟨t, i, t1, i1, rfl, rfl, e1, e2⟩ | ⟨e1, e2⟩
  · have ho := (p1.1 t t1).2 i i1
    have hc4 := (p1.1 t t1).1
    rw [e1, e2, ab_bind, ab_bind, if_neg i_1ne0, if_neg i_1ne0, stepAt_in p1.1 p3.1 t1 i1, ab_bind]
    have ek : f6_kind (nI (zpk g t i)) = nI (g t i 0) := kind_ok ho.1 ho.2.1 ho.2.2.1
    have et : f6_target (nI (zpk g t i)) = nI (g t i 1) := target_ok ho.1 ho.2.1 ho.2.2.1
    have ev : f6_value (nI (zpk g t i)) = nI (g t i 2) := value_ok ho.1 ho.2.1 ho.2.2.1
    have er : f6_readBits (nI (zpk g t i)) = nI (rbS (g t i 0) (g t i 1) (g t i 2)) := readBits_ok ho
    have ew : f6_writeBits (nI (zpk g t i)) = nI (wbS (g t i 0) (g t i 1)) := writeBits_ok ho
    rw [ek, et, ev, er, ew]
    rcases ab_below x3 5 (by decide) with ⟨w, w1, rfl, w3⟩ | k
    · have w3' : f8_below (nI w) 5 = 1 := w3
      rw [w3', if_neg i_1ne0]
      unfold f9_ofStep
      have : w = 0 ∨ w = 1 ∨ w = 2 ∨ w = 3 ∨ w = 4 := by omega
      rcases this with rfl | rfl | rfl | rfl | rfl
      · rw [if_pos (show nI 0 = 0 from rfl), if_neg (show ¬ (3 : Int32) ≤ nI 0 by decide), its_ok p1.1 p4 t1 i1 (by omega), ab_bind, ab_bind]
        exact ⟨_, _, rfl, rfl, rfl, ⟨c, g, num, q, p1, p2, p3, p4⟩, hA, hO, hF, hT⟩
      · rw [if_neg (show ¬ nI 1 = 0 by decide), if_pos (show nI 1 = 1 from rfl), if_neg (show ¬ (3 : Int32) ≤ nI 1 by decide), its_ok p1.1 p4 t1 i1 (by omega), ab_bind, ab_bind]
        exact ⟨_, _, rfl, rfl, rfl, ⟨c, g, num, q, p1, p2, p3, p4⟩, hA, hO, hF, hT⟩
      · rw [if_neg (show ¬ nI 2 = 0 by decide), if_neg (show ¬ nI 2 = 1 by decide), if_pos (show nI 2 = 2 from rfl), if_neg (show ¬ (3 : Int32) ≤ nI 2 by decide), its_ok p1.1 p4 t1 i1 (by omega), ab_bind, ab_bind]
        exact ⟨_, _, rfl, rfl, rfl, ⟨c, g, num, q, p1, p2, p3, p4⟩, hA, hO, hF, hT⟩
      · rw [if_neg (show ¬ nI 3 = 0 by decide), if_neg (show ¬ nI 3 = 1 by decide), if_neg (show ¬ nI 3 = 2 by decide), if_pos (show nI 3 = 3 from rfl), if_pos (show (3 : Int32) ≤ nI 3 by decide), if_pos (show nI 3 = 3 from rfl), readBy_ok p1.1 p4 t1 i1, ab_bind, ab_bind]
        exact ⟨_, _, rfl, rfl, rfl, ⟨c, g, num, q, p1, p2, p3, p4⟩, hA, hO, hF, hT⟩
      · rw [if_neg (show ¬ nI 4 = 0 by decide), if_neg (show ¬ nI 4 = 1 by decide), if_neg (show ¬ nI 4 = 2 by decide), if_neg (show ¬ nI 4 = 3 by decide), if_pos (show nI 4 = 4 from rfl), if_pos (show (3 : Int32) ≤ nI 4 by decide), if_neg (show ¬ nI 4 = 3 by decide), writes_ok p1.1 p4 t1 i1, ab_bind, ab_bind]
        exact ⟨_, _, rfl, rfl, rfl, ⟨c, g, num, q, p1, p2, p3, p4⟩, hA, hO, hF, hT⟩
    · have k' : f8_below x3 5 = 0 := k
      have hn : ∀ j, j < 5 → ¬ x3 = nI j := by
        intro j hj e
        rw [e] at k
        rw [ab_below_in hj (by decide)] at k
        exact i_1ne0 k
      rw [k', if_pos rfl, if_neg (show ¬ x3 = 0 from hn 0 (by omega)), if_neg (show ¬ x3 = 1 from hn 1 (by omega)), if_neg (show ¬ x3 = 2 from hn 2 (by omega)), if_neg (show ¬ x3 = 3 from hn 3 (by omega)), if_neg (show ¬ x3 = 4 from hn 4 (by omega))]
      exact ⟨_, _, rfl, rfl, rfl, ⟨c, g, num, q, p1, p2, p3, p4⟩, hA, hO, b3, hT⟩
  · rw [e1, e2, ab_bind, ab_bind, if_pos rfl, if_pos rfl]
    exact ⟨_, _, rfl, rfl, rfl, ⟨c, g, num, q, p1, p2, p3, p4⟩, hA, hO, b3, hT⟩
theorem o_depend (h : zREL now kept oldest size threads rows ended known inAll count still wrong unlike bytes len rb rn rf all past states refused text textLong) (x1 x2 x3 x4 : Int32) :
    ∃ z y, f8_depend now rb rn rf x1 x2 x3 x4 = some z ∧ f9_depend all refused x1 x2 x3 x4 = some y ∧ z.1 = y.1 ∧ zREL now kept oldest size threads rows ended known inAll count still wrong unlike bytes len z.2.1 z.2.2.1 z.2.2.2 all past states y.2 text textLong := by
  obtain ⟨hS, hA, hO, hF, hT⟩ := h
  obtain ⟨rB, b1, b2, b3⟩ := refB hF
  obtain ⟨c, g, num, q, p1, p2, p3, p4⟩ := hS
  unfold f8_depend f9_depend f8_depend_b36 f9_depend_b50 f8_depend_b43 f9_depend_b30 f8_depend_b73
  rw [b1, b2, ab_bind, ab_bind]
  rcases has_both p1 p3.1 p4 x1 x2 with ⟨t, i, t1, i1, rfl, rfl, e1, e2⟩ | ⟨e1, e2⟩
  · rw [e1, e2, ab_bind, ab_bind, if_neg i_1ne0, if_neg i_1ne0]
    rcases has_both p1 p3.1 p4 x3 x4 with ⟨u, j, u1, j1, rfl, rfl, d1, d2⟩ | ⟨d1, d2⟩
    · have hc4 := (p1.1 t t1).1
      have hc4' := (p1.1 u u1).1
      rw [d1, d2, ab_bind, ab_bind, if_neg i_1ne0, if_neg i_1ne0, areDependent_ok p1.1 p4 t1 i1 u1 j1, ab_bind]
      by_cases e : t = u
      · subst e
        rw [if_pos rfl, if_pos rfl, if_pos rfl]
        by_cases ei : i = j
        · subst ei
          rw [if_pos rfl, if_pos rfl]
          exact ⟨_, _, rfl, rfl, rfl, ⟨c, g, num, q, p1, p2, p3, p4⟩, hA, hO, b3, hT⟩
        · have hij : ¬ nI i = nI j := fun k => ei ((nI_eq (by omega) (by omega)).mp k)
          rw [if_neg hij, if_neg hij, zdp_self, bI_t, if_neg i_1ne0]
          exact ⟨_, _, rfl, rfl, rfl, ⟨c, g, num, q, p1, p2, p3, p4⟩, hA, hO, hF, hT⟩
      · have htu : ¬ nI t = nI u := fun k => e ((nI_eq (by omega) (by omega)).mp k)
        rw [if_neg htu, if_neg htu, if_neg htu, stepAt_in p1.1 p3.1 t1 i1, ab_bind, stepAt_in p1.1 p3.1 u1 j1, ab_bind, tied_ok ((p1.1 t t1).2 i i1) ((p1.1 u u1).2 j j1) e]
        cases zdp g t i u j with
        | true =>
          rw [bI_t, if_neg i_1ne0, if_neg i_1ne0]
          exact ⟨_, _, rfl, rfl, rfl, ⟨c, g, num, q, p1, p2, p3, p4⟩, hA, hO, hF, hT⟩
        | false =>
          rw [bI_f, if_pos rfl, if_pos rfl]
          exact ⟨_, _, rfl, rfl, rfl, ⟨c, g, num, q, p1, p2, p3, p4⟩, hA, hO, hF, hT⟩
    · rw [d1, d2, ab_bind, ab_bind, if_pos rfl, if_pos rfl]
      exact ⟨_, _, rfl, rfl, rfl, ⟨c, g, num, q, p1, p2, p3, p4⟩, hA, hO, b3, hT⟩
  · rw [e1, e2, ab_bind, ab_bind, if_pos rfl, if_pos rfl]
    exact ⟨_, _, rfl, rfl, rfl, ⟨c, g, num, q, p1, p2, p3, p4⟩, hA, hO, b3, hT⟩
theorem o_race (h : zREL now kept oldest size threads rows ended known inAll count still wrong unlike bytes len rb rn rf all past states refused text textLong) (V far Vm : Nat → Int32) (x1 x2 x3 x4 : Int32) :
    ∃ z y, f8_race now V rb rn rf x1 x2 x3 x4 = some z ∧ f9_race all refused far Vm x1 x2 x3 x4 = some y ∧ z.1 = y.1 ∧ zREL now kept oldest size threads rows ended known inAll count still wrong unlike bytes len z.2.2.1 z.2.2.2.1 z.2.2.2.2 all past states y.2.1 text textLong := by
  obtain ⟨hS, hA, hO, hF, hT⟩ := h
  obtain ⟨rB, b1, b2, b3⟩ := refB hF
  obtain ⟨c, g, num, q, p1, p2, p3, p4⟩ := hS
  unfold f8_race f9_race f8_race_b30 f9_race_b24
  rw [b1, b2, ab_bind, ab_bind]
  rcases has_both p1 p3.1 p4 x1 x2 with ⟨t, i, t1, i1, rfl, rfl, e1, e2⟩ | ⟨e1, e2⟩
  · rw [e1, e2, ab_bind, ab_bind, if_neg i_1ne0, if_neg i_1ne0]
    rcases has_both p1 p3.1 p4 x3 x4 with ⟨u, j, u1, j1, rfl, rfl, d1, d2⟩ | ⟨d1, d2⟩
    · rw [d1, d2, ab_bind, ab_bind, if_neg i_1ne0, if_neg i_1ne0]
      by_cases e : t = u
      · subst e
        rw [if_pos rfl, if_pos rfl]
        exact ⟨_, _, rfl, rfl, rfl, ⟨c, g, num, q, p1, p2, p3, p4⟩, hA, hO, b3, hT⟩
      · have htu : ¬ nI t = nI u := fun k => e ((nI_eq (by omega) (by omega)).mp k)
        obtain ⟨V', v1, v2⟩ := meet_ok p1 p3.1 p3.2.1 V
        obtain ⟨s, s1, s2⟩ := spreads_ok p1.1 p4 far Vm
        obtain ⟨z, z1, z2⟩ := isRaceM p1.1 p4 s2 s.1 t1 i1 u1 j1 e
        rw [if_neg htu, if_neg htu, v1, ab_bind, isRace_n p1.1 p3.1 v2 t1 i1 u1 j1 e, ab_bind, s1, ab_bind, z1, ab_bind, z2]
        by_cases k : nI (zrh c g t i u j) = 0
        · rw [if_pos k, if_pos k]
          exact ⟨_, _, rfl, rfl, rfl, ⟨c, g, num, q, p1, p2, p3, p4⟩, hA, hO, hF, hT⟩
        · rw [if_neg k, if_neg k]
          exact ⟨_, _, rfl, rfl, rfl, ⟨c, g, num, q, p1, p2, p3, p4⟩, hA, hO, hF, hT⟩
    · rw [d1, d2, ab_bind, ab_bind, if_pos rfl, if_pos rfl]
      exact ⟨_, _, rfl, rfl, rfl, ⟨c, g, num, q, p1, p2, p3, p4⟩, hA, hO, b3, hT⟩
  · rw [e1, e2, ab_bind, ab_bind, if_pos rfl, if_pos rfl]
    exact ⟨_, _, rfl, rfl, rfl, ⟨c, g, num, q, p1, p2, p3, p4⟩, hA, hO, b3, hT⟩
theorem o_races (h : zREL now kept oldest size threads rows ended known inAll count still wrong unlike bytes len rb rn rf all past states refused text textLong) (V far Vm : Nat → Int32) :
    ∃ z y, f8_races now V = some z ∧ f9_races all far Vm = some y ∧ z.1 = y.1 := by
  obtain ⟨⟨c, g, num, q, p1, p2, p3, p4⟩, -⟩ := h
  obtain ⟨V', v⟩ := races_ok p1 p3.1 p3.2.1 V
  obtain ⟨y, y1, y2⟩ := racesM_ok p1.1 p4 far Vm
  exact ⟨_, y, v, y1, y2.symm⟩
theorem o_does (h : zREL now kept oldest size threads rows ended known inAll count still wrong unlike bytes len rb rn rf all past states refused text textLong) (far : Nat → Int32) (depth : Int32) (tries values : Nat → Int32) (wr x1 : Int32) :
    ∃ z y, f8_does now kept oldest size rb rn rf x1 = some z ∧ f9_does all past states refused far depth tries values wr x1 = some y ∧ z.1 = y.1 ∧ zREL z.2.1 z.2.2.1 z.2.2.2.1 z.2.2.2.2.1 threads rows ended known inAll count still wrong unlike bytes len z.2.2.2.2.2.1 z.2.2.2.2.2.2.1 z.2.2.2.2.2.2.2 y.2.1 y.2.2.1 y.2.2.2.1 y.2.2.2.2.1 text textLong := by
  obtain ⟨hS, hA, hO, hF, hT⟩ := h
  obtain ⟨rB, b1, b2, b3⟩ := refB hF
  unfold f8_does f9_does
  rw [b1, b2, ab_bind, ab_bind]
  rcases thread3 x1 with ⟨t, t1, rfl, t3, t4⟩ | ⟨t3, t4⟩
  · rw [t3, t4, if_neg i_1ne0, if_neg i_1ne0]
    obtain ⟨c, g, num, q, p1, p2, p3, p4⟩ := hS
    obtain ⟨r, r1, r2, r3⟩ := goesRun_ok p1 p4 p2 far depth tries values wr
    have hFA : zFA r.1 c (zfr q) := fun u hu => ⟨r2 u hu, zfr_le p2 u⟩
    have hl := zlen_le p1.1 p2
    unfold f5_runMoment
    rw [canDo_ok p1.1 p3.1 p3.2.2.1 t1, ab_bind, r1, ab_bind, canDoM p1.1 p4 hFA t1, ab_bind]
    cases ha : zable c g (zfr q) t with
    | false =>
      obtain ⟨rN, f1, f2, f3⟩ := refN hF
      rw [bI_f, if_pos rfl, if_pos rfl, f1, f2, ab_bind, ab_bind]
      exact ⟨_, _, rfl, rfl, rfl, ⟨c, g, num, q, p1, p2, p3, p4⟩, hA, hO, f3, hT⟩
    | true =>
      have hok : zok c g (t :: q) := ⟨p2, t1, ha⟩
      have hl2 := zlen_le p1.1 hok
      rw [List.length_cons] at hl2
      obtain ⟨z, y, k1, k2, k3⟩ := keep_both hA ⟨c, g, num, q, p1, p2, p3, p4⟩
      obtain ⟨u', u1, u2⟩ := runOn_ok p1 p3 hok
      have hM' : zRM (upd (upd all (44 + q.length) (nI t)) 43 (upd all (44 + q.length) (nI t) 43 + 1)) c g num (t :: q) := by
        refine ⟨fun u hu => ?_, fun u hu i hi k hk => ?_, fun y hy => ?_, ?_, fun p u y e => ?_⟩
        · rw [ab_upd, if_neg (by omega), ab_upd, if_neg (by omega)]; exact p4.1 u hu
        · have hcu := (p1.1 u hu).1
          rw [ab_upd, if_neg (by omega), ab_upd, if_neg (by omega)]; exact p4.2.1 u hu i hi k hk
        · rw [ab_upd, if_neg (by omega), ab_upd, if_neg (by omega)]; exact p4.2.2.1 y hy
        · rw [ab_upd, if_pos rfl, ab_upd, if_neg (by omega), p4.2.2.2.1, nI_1]; rfl
        · cases p with
          | nil =>
            rw [List.nil_append] at e
            injection e with e1 e2
            subst e1
            subst e2
            rw [ab_upd, if_neg (by omega), ab_upd, if_pos rfl]
          | cons v p =>
            rw [List.cons_append] at e
            injection e with e1 e2
            have hyl : y.length < q.length := by rw [e2, List.length_append, List.length_cons]; omega
            rw [ab_upd, if_neg (by omega), ab_upd, if_neg (by omega)]
            exact p4.2.2.2.2 p u y e2
      obtain ⟨r', r1', r2', r3'⟩ := goesRun_ok p1 hM' hok r.1 r.2.1 r.2.2.1 r.2.2.2.1 r.2.2.2.2
      rw [bI_t, if_neg i_1ne0, if_neg i_1ne0, k1, k2, ab_bind, ab_bind, u1, ab_bind, l_44, p4.2.2.2.1, nI_add, awr_ok (by omega) (by omega), ab_bind, r1', ab_bind]
      refine ⟨_, _, rfl, rfl, ?_, ⟨c, g, num, t :: q, p1, hok, u2, hM'⟩, k3, hO, hF, hT⟩
      show f2_wrongOnes u'.2.2.2.1 = r'.2.2.2.2
      rw [wrong_nib, u2.2.2.1.2.1, r3'.2]
  · rw [t3, t4, if_pos rfl, if_pos rfl]
    exact ⟨_, _, rfl, rfl, rfl, hS, hA, hO, b3, hT⟩
theorem o_again (h : zREL now kept oldest size threads rows ended known inAll count still wrong unlike bytes len rb rn rf all past states refused text textLong) :
    ∃ z y, f8_again now kept oldest size = some z ∧ f9_again all past states = some y ∧ z.1 = y.1 ∧ zREL z.2.1 z.2.2.1 z.2.2.2.1 z.2.2.2.2 threads rows ended known inAll count still wrong unlike bytes len rb rn rf y.2.1 y.2.2.1 y.2.2.2 refused text textLong := by
  obtain ⟨hS, hA, hO, hF, hT⟩ := h
  obtain ⟨z, y, k1, k2, k3⟩ := keep_both hA hS
  obtain ⟨c, g, num, q, p1, p2, p3, p4⟩ := hS
  have hl := zlen_le p1.1 p2
  unfold f8_again f9_again f5_beginRun f5_runRow
  rw [k1, k2, ab_bind, ab_bind, ab_bind]
  refine ⟨_, _, rfl, rfl, ?_, ⟨c, g, num, [], p1, trivial, ⟨p3.1, p3.2.1, p3.2.1, rfl⟩, ?_⟩, k3, hO, hF, hT⟩
  · show f4_length now.2.2.2.2 = all 43
    rw [p3.2.2.2, zrf_len (by rw [zF_len]; exact hl), zF_len, p4.2.2.2.1]
  · refine ⟨fun u hu => ?_, fun u hu i hi k hk => ?_, fun y hy => ?_, rfl, fun p u y e => ?_⟩
    · show upd all 43 0 (36 + u) = _
      rw [ab_upd, if_neg (by omega)]; exact p4.1 u hu
    · have hcu := (p1.1 u hu).1
      show upd all 43 0 (12 * u + 3 * i + k) = _
      rw [ab_upd, if_neg (by omega)]; exact p4.2.1 u hu i hi k hk
    · show upd all 43 0 (39 + y) = _
      rw [ab_upd, if_neg (by omega)]; exact p4.2.2.1 y hy
    · have := congrArg List.length e
      rw [List.length_append, List.length_cons] at this
      simp at this
theorem o_type (h : zREL now kept oldest size threads rows ended known inAll count still wrong unlike bytes len rb rn rf all past states refused text textLong) (x1 : Int32) :
    ∃ z y, f8_type bytes len rb rn rf x1 = some z ∧ f9_type refused text textLong x1 = some y ∧ z.1 = y.1 ∧ zREL now kept oldest size threads rows ended known inAll count still wrong unlike z.2.1 z.2.2.1 z.2.2.2.1 z.2.2.2.2.1 z.2.2.2.2.2 all past states y.2.1 y.2.2.1 y.2.2.2 := by
  obtain ⟨hS, hA, hO, hF, hT⟩ := h
  obtain ⟨rB, b1, b2, b3⟩ := refB hF
  have i127 : f9_in x1.toInt64 (0 : Int64) (127 : Int64) = f8_below x1 128 := ab_in x1 127 (by decide)
  unfold f8_type f9_type f7_length
  rw [b1, b2, ab_bind, ab_bind, i127]
  rcases ab_below x1 128 (by decide) with ⟨b, c1, rfl, c3⟩ | k
  · have c3' : f8_below (nI b) 128 = 1 := c3
    obtain ⟨tx, n, rfl, rfl, hX, hY⟩ := hT
    have hn := hX.1
    rw [c3', if_neg i_1ne0, if_neg i_1ne0]
    by_cases e : n = 120
    · obtain ⟨rF, f1, f2, f3⟩ := refF hF
      subst e
      rw [if_neg (show ¬ nI 120 < 120 by decide), if_pos (show nI 120 = 120 from rfl), f1, f2, ab_bind, ab_bind]
      exact ⟨_, _, rfl, rfl, rfl, hS, hA, hO, f3, ⟨tx, 120, rfl, rfl, hX, hY⟩⟩
    · have hlt : n < 120 := by omega
      have hby : vp_nar .byte (nI b).toInt8.toInt32 = nI b := by
        have : ∀ b, b < 128 → vp_nar .byte (nI b).toInt8.toInt32 = nI b := by decide +kernel
        exact this b c1
      unfold f7_append
      rw [l_120, if_pos (nI_lt hlt (by decide)), if_neg (fun k => e ((nI_eq (by omega) (by decide)).mp k)), if_neg (nI_ge hlt (by decide)), hby, awr_ok hlt (by omega), ab_bind, ab_bind, awr_ok hlt (by omega), ab_bind]
      refine ⟨_, _, rfl, rfl, rfl, hS, hA, hO, hF, ⟨fun k => if k = n then b else tx k, n + 1, nI_1 n, nI_1 n, ⟨by omega, fun k hk => ?_⟩, ⟨by omega, fun k hk => ?_⟩⟩⟩
      · show upd bytes n (nI b) k = nI (if k = n then b else tx k) ∧ (if k = n then b else tx k) < 128
        rw [ab_upd]
        by_cases ek : k = n
        · rw [if_pos ek, if_pos ek]; exact ⟨rfl, c1⟩
        · rw [if_neg ek, if_neg ek]; exact hX.2 k (by omega)
      · show upd text n (nI b) k = nI (if k = n then b else tx k) ∧ (if k = n then b else tx k) < 128
        rw [ab_upd]
        by_cases ek : k = n
        · rw [if_pos ek, if_pos ek]; exact ⟨rfl, c1⟩
        · rw [if_neg ek, if_neg ek]; exact hY.2 k (by omega)
  · have k' : f8_below x1 128 = 0 := k
    rw [k', if_pos rfl, if_pos rfl]
    exact ⟨_, _, rfl, rfl, rfl, hS, hA, hO, b3, hT⟩
theorem o_clear (h : zREL now kept oldest size threads rows ended known inAll count still wrong unlike bytes len rb rn rf all past states refused text textLong) :
    ∃ z y, f8_clear len = some z ∧ f9_clear textLong = some y ∧ z.1 = y.1 ∧ zREL now kept oldest size threads rows ended known inAll count still wrong unlike bytes z.2 rb rn rf all past states refused text y.2 := by
  obtain ⟨hS, hA, hO, hF, tx, n, rfl, rfl, hX, hY⟩ := h
  refine ⟨_, _, rfl, rfl, rfl, hS, hA, hO, hF, tx, 0, rfl, rfl, ⟨by omega, fun k hk => absurd hk (Nat.not_lt_zero _)⟩, ⟨by omega, fun k hk => absurd hk (Nat.not_lt_zero _)⟩⟩
theorem o_back (h : zREL now kept oldest size threads rows ended known inAll count still wrong unlike bytes len rb rn rf all past states refused text textLong) :
    ∃ z y, f8_back now kept oldest size rb rn rf = some z ∧ f9_back all past states refused = some y ∧ z.1 = y.1 ∧ zREL z.2.1 kept oldest z.2.2.1 threads rows ended known inAll count still wrong unlike bytes len z.2.2.2.1 z.2.2.2.2.1 z.2.2.2.2.2 y.2.1 past y.2.2.1 y.2.2.2 text textLong := by
  obtain ⟨hS, hA, hO, hF, hT⟩ := h
  have hA' := hA
  obtain ⟨o, n, ho, hn, rfl, rfl, rfl, hK⟩ := hA
  unfold f8_back f9_back f3_size
  cases n with
  | zero =>
    obtain ⟨rN, f1, f2, f3⟩ := refN hF
    rw [if_pos (show nI 0 = 0 from rfl), if_pos (show nI 0 = 0 from rfl), f1, f2, ab_bind, ab_bind]
    exact ⟨_, _, rfl, rfl, rfl, hS, hA', hO, f3, hT⟩
  | succ n =>
    obtain ⟨u, all', u1, u2, u3, u4⟩ := back_both (refused := refused) hA' hS (by omega)
    have hne : ¬ nI (n + 1) = 0 := nI_ne0 (by omega) (by omega)
    rw [if_neg hne, if_neg hne, u1, ab_bind, u2]
    exact ⟨_, _, rfl, rfl, rfl, u3, u4, hO, hF, hT⟩
end OPS
