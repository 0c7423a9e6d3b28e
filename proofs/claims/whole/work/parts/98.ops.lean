section OPS2
variable {now : sT} {kept : Nat → sT} {oldest size : Int32} {threads : sT} {rows ended : Nat → Int32} {known inAll count still wrong unlike : Int32} {bytes : Nat → Int32} {len rb rn rf : Int32} {all past : Nat → Int32} {states : Int32} {refused text : Nat → Int32} {textLong : Int32}
theorem found_same {c : Nat → Nat} {g : Nat → Nat → Nat → Nat} {num : Nat → Nat} {R : List (List Nat)} {rows ended isEnd found : Nat → Int32} {count still wrong unlike : Int32} (hK : zKR c g num R rows ended count still wrong unlike) (hF : zFR c g num R isEnd found) {j : Nat} (hj : j < 4) : f0_howMany count still wrong unlike (nI j) = found j := by
  unfold f0_howMany
  have : j = 0 ∨ j = 1 ∨ j = 2 ∨ j = 3 := by omega
  rcases this with rfl | rfl | rfl | rfl
  · rw [if_pos (show nI 0 = 0 from rfl), hK.1, hF.1]
  · rw [if_neg (show ¬ nI 1 = 0 by decide), if_pos (show nI 1 = 1 from rfl), hK.2.2.1, hF.2.1]
  · rw [if_neg (show ¬ nI 2 = 0 by decide), if_neg (show ¬ nI 2 = 1 by decide), if_pos (show nI 2 = 2 from rfl), hK.2.2.2.1, hF.2.2.1]
  · rw [if_neg (show ¬ nI 3 = 0 by decide), if_neg (show ¬ nI 3 = 1 by decide), if_neg (show ¬ nI 3 = 2 by decide), hK.2.2.2.2.1, hF.2.2.2.1]
theorem o_orders (h : zREL now kept oldest size threads rows ended known inAll count still wrong unlike bytes len rb rn rf all past states refused text textLong) (far row stepAt : Nat → Int32) (depth : Int32) (tries values : Nat → Int32) (wr : Int32) (isEnd found : Nat → Int32) (x1 : Int32) :
    ∃ z y, f8_orders now threads rows ended known inAll count still wrong unlike rb rn rf x1 = some z ∧ f9_orders all refused far row stepAt depth tries values wr isEnd found x1 = some y ∧ z.1 = y.1 ∧ zREL now kept oldest size z.2.1 z.2.2.1 z.2.2.2.1 z.2.2.2.2.1 z.2.2.2.2.2.1 z.2.2.2.2.2.2.1 z.2.2.2.2.2.2.2.1 z.2.2.2.2.2.2.2.2.1 z.2.2.2.2.2.2.2.2.2.1 bytes len z.2.2.2.2.2.2.2.2.2.2.1 z.2.2.2.2.2.2.2.2.2.2.2.1 z.2.2.2.2.2.2.2.2.2.2.2.2 all past states y.2.1 text textLong := by
  obtain ⟨hS, hA, hO, hF, hT⟩ := h
  obtain ⟨rB, b1, b2, b3⟩ := refB hF
  have i3 : f9_in x1.toInt64 (0 : Int64) (3 : Int64) = f8_below x1 4 := ab_in x1 3 (by decide)
  unfold f8_orders f9_orders
  rw [b1, b2, ab_bind, ab_bind, i3]
  rcases ab_below x1 4 (by decide) with ⟨j, j1, rfl, j3⟩ | k
  · have j3' : f8_below (nI j) 4 = 1 := j3
    obtain ⟨c, g, num, q, p1, p2, p3, p4⟩ := hS
    obtain ⟨z, z1, z2⟩ := goThrough_ok p1 hO p3
    obtain ⟨y, y1, y2⟩ := findsAll_ok p1 p4 far row stepAt depth tries values wr isEnd found
    rw [j3', if_neg i_1ne0, if_neg i_1ne0, z1, ab_bind, y1, ab_bind, ard_ok j1 (by omega), ab_bind]
    exact ⟨_, _, rfl, rfl, found_same z2.2.2.2 y2 j1, ⟨c, g, num, q, p1, p2, p3, p4⟩, hA, zAOf_AO z2, hF, hT⟩
  · have k' : f8_below x1 4 = 0 := k
    rw [k', if_pos rfl, if_pos rfl]
    exact ⟨_, _, rfl, rfl, rfl, hS, hA, hO, b3, hT⟩
theorem rowAt_ok {c : Nat → Nat} {g : Nat → Nat → Nat → Nat} {num : Nat → Nat} {rows ended : Nat → Int32} {count still wrong unlike : Int32} (hP : zPG c g num) (hK : zKR c g num (zAll c g).reverse rows ended count still wrong unlike) {k : Nat} {x : List Nat} (hx : (zAll c g)[k]? = some x) (hk : k < (zAll c g).length) : f0_rowAt rows count (nI k) = some (nI (zrc x)) := by
  have hN := zAll_len hP
  unfold f0_rowAt
  rw [if_neg (nI_pos (by omega)), hK.1, List.length_reverse, if_neg (nI_ge hk (by omega)), ard_ok (by omega) (by omega), ab_bind, hK.2.1 k x (by rw [List.reverse_reverse]; exact hx)]
theorem zAll_lt {c : Nat → Nat} {g : Nat → Nat → Nat → Nat} {k : Nat} {x : List Nat} (hx : (zAll c g)[k]? = some x) : k < (zAll c g).length := (List.getElem?_eq_some_iff.mp hx).1
theorem o_order (h : zREL now kept oldest size threads rows ended known inAll count still wrong unlike bytes len rb rn rf all past states refused text textLong) (far row stepAt : Nat → Int32) (depth : Int32) (tries : Nat → Int32) (x1 x2 : Int32) :
    ∃ z y, f8_order now threads rows ended known inAll count still wrong unlike rb rn rf x1 x2 = some z ∧ f9_order all refused far row stepAt depth tries x1 x2 = some y ∧ z.1 = y.1 ∧ zREL now kept oldest size z.2.1 z.2.2.1 z.2.2.2.1 z.2.2.2.2.1 z.2.2.2.2.2.1 z.2.2.2.2.2.2.1 z.2.2.2.2.2.2.2.1 z.2.2.2.2.2.2.2.2.1 z.2.2.2.2.2.2.2.2.2.1 bytes len z.2.2.2.2.2.2.2.2.2.2.1 z.2.2.2.2.2.2.2.2.2.2.2.1 z.2.2.2.2.2.2.2.2.2.2.2.2 all past states y.2.1 text textLong := by
  obtain ⟨hS, hA, hO, hF, hT⟩ := h
  obtain ⟨rB, b1, b2, b3⟩ := refB hF
  unfold f8_order f9_order f8_order_b9 f9_order_b9
  rw [b1, b2, ab_bind, ab_bind]
  by_cases n1 : x1 < 0
  · rw [if_pos n1, if_pos n1]
    exact ⟨_, _, rfl, rfl, rfl, hS, hA, hO, b3, hT⟩
  · rw [if_neg n1, if_neg n1]
    obtain ⟨k, k1, rfl⟩ := nI_of n1
    by_cases n2 : -1 ≤ x2
    · obtain ⟨c, g, num, q, p1, p2, p3, p4⟩ := hS
      obtain ⟨z, z1, z2⟩ := goThrough_ok p1 hO p3
      have hN := zAll_len p1
      have hcount : f0_count z.2.2.2.2.2.1 = nI (zAll c g).length := by
        unfold f0_count
        rw [z2.2.2.2.1, List.length_reverse]
      obtain ⟨y, y1, y2⟩ := findsSort_ok p1 p4 far row stepAt depth tries k1
      rw [if_pos n2, if_pos n2, z1, ab_bind, y1, ab_bind, hcount]
      rcases y2 with ⟨y2, y3⟩ | ⟨x, y2, y3, y4, y5⟩
      · obtain ⟨rN, f1, f2, f3⟩ := refN hF
        rw [if_neg (nI_nlt y3 (by omega)), if_pos y2, f1, f2, ab_bind, ab_bind]
        exact ⟨_, _, rfl, rfl, rfl, ⟨c, g, num, q, p1, p2, p3, p4⟩, hA, zAOf_AO z2, f3, hT⟩
      · have hk := zAll_lt y3
        have hxl := zlen_le p1.1 y4
        rw [if_pos (nI_lt hk (by omega)), y2, if_neg i_1ne0, rowAt_ok p1 z2.2.2.2 y3 hk, ab_bind, zrc_len hxl, y5.2.1]
        by_cases e : x2 = -1
        · rw [if_pos e, if_pos e]
          exact ⟨_, _, rfl, rfl, rfl, ⟨c, g, num, q, p1, p2, p3, p4⟩, hA, zAOf_AO z2, hF, hT⟩
        · rw [if_neg e, if_neg e]
          have n3 : ¬ x2 < 0 := by
            intro hlt
            rw [fa_lt] at hlt
            rw [fa_le, ab_m1] at n2
            have e' : ¬ x2.toInt = -1 := fun q => e (by rw [fa_eq, ab_m1]; exact q)
            have : (0 : Int32).toInt = 0 := by decide
            omega
          obtain ⟨j, j1, rfl⟩ := nI_of n3
          by_cases e2 : j < x.length
          · obtain ⟨pp, t, yy, h1, h2⟩ := zsplit e2
            have hr := (y5.2.2 pp t yy h1).1
            rw [h2] at hr
            have ht := threadAtR h1 (zmem y4) hxl
            rw [h2] at ht
            rw [if_neg (nI_ge e2 (by omega)), if_neg (nI_ge e2 (by omega)), ht, ard_ok (by omega) (by omega), ab_bind, hr]
            exact ⟨_, _, rfl, rfl, rfl, ⟨c, g, num, q, p1, p2, p3, p4⟩, hA, zAOf_AO z2, hF, hT⟩
          · rw [if_pos (nI_le (by omega) j1), if_pos (nI_le (by omega) j1)]
            exact ⟨_, _, rfl, rfl, rfl, ⟨c, g, num, q, p1, p2, p3, p4⟩, hA, zAOf_AO z2, hF, hT⟩
    · rw [if_neg n2, if_neg n2]
      exact ⟨_, _, rfl, rfl, rfl, hS, hA, hO, b3, hT⟩
theorem o_sort (h : zREL now kept oldest size threads rows ended known inAll count still wrong unlike bytes len rb rn rf all past states refused text textLong) (far row stepAt : Nat → Int32) (depth : Int32) (tries values : Nat → Int32) (wr x1 x2 : Int32) :
    ∃ z y, f8_sort now threads rows ended known inAll count still wrong unlike rb rn rf x1 x2 = some z ∧ f9_sort all refused far row stepAt depth tries values wr x1 x2 = some y ∧ z.1 = y.1 ∧ zREL now kept oldest size z.2.1 z.2.2.1 z.2.2.2.1 z.2.2.2.2.1 z.2.2.2.2.2.1 z.2.2.2.2.2.2.1 z.2.2.2.2.2.2.2.1 z.2.2.2.2.2.2.2.2.1 z.2.2.2.2.2.2.2.2.2.1 bytes len z.2.2.2.2.2.2.2.2.2.2.1 z.2.2.2.2.2.2.2.2.2.2.2.1 z.2.2.2.2.2.2.2.2.2.2.2.2 all past states y.2.1 text textLong := by
  obtain ⟨hS, hA, hO, hF, hT⟩ := h
  obtain ⟨rB, b1, b2, b3⟩ := refB hF
  have i2 : f9_in x2.toInt64 (0 : Int64) (2 : Int64) = f8_below x2 3 := ab_in x2 2 (by decide)
  unfold f8_sort f9_sort f8_sort_b12 f9_sort_b16
  rw [b1, b2, ab_bind, ab_bind, i2]
  by_cases n1 : x1 < 0
  · rw [if_pos n1, if_pos n1]
    exact ⟨_, _, rfl, rfl, rfl, hS, hA, hO, b3, hT⟩
  · rw [if_neg n1, if_neg n1]
    obtain ⟨k, k1, rfl⟩ := nI_of n1
    rcases ab_below x2 3 (by decide) with ⟨j, j1, rfl, j3⟩ | kk
    · have j3' : f8_below (nI j) 3 = 1 := j3
      obtain ⟨c, g, num, q, p1, p2, p3, p4⟩ := hS
      obtain ⟨z, z1, z2⟩ := goThrough_ok p1 hO p3
      have hN := zAll_len p1
      have h0 := (p1.1 0 (by omega)).1
      have h1 := (p1.1 1 (by omega)).1
      have h2 := (p1.1 2 (by omega)).1
      have hcount : f0_count z.2.2.2.2.2.1 = nI (zAll c g).length := by
        unfold f0_count
        rw [z2.2.2.2.1, List.length_reverse]
      obtain ⟨y, y1, y2⟩ := findsSort_ok p1 p4 far row stepAt depth tries k1
      rw [j3', if_neg i_1ne0, if_neg i_1ne0, z1, ab_bind, y1, ab_bind, hcount]
      rcases y2 with ⟨y2, y3⟩ | ⟨x, y2, y3, y4, y5⟩
      · obtain ⟨rN, f1, f2, f3⟩ := refN hF
        rw [if_neg (nI_nlt y3 (by omega)), if_pos y2, f1, f2, ab_bind, ab_bind]
        exact ⟨_, _, rfl, rfl, rfl, ⟨c, g, num, q, p1, p2, p3, p4⟩, hA, zAOf_AO z2, f3, hT⟩
      · have hk := zAll_lt y3
        have hxl := zlen_le p1.1 y4
        obtain ⟨v, v1, v2, v3⟩ := endOf_ok p1 p4 y4 y5 values wr
        obtain ⟨m, m1, m2⟩ := momentBehind_ok p1.1 p1.2.1 p3.1 p3.2.1 y4
        have hex := zex_lt p1.1 p1.2.1 y4
        rw [if_pos (nI_lt hk (by omega)), y2, if_neg i_1ne0, rowAt_ok p1 z2.2.2.2 y3 hk, ab_bind, v1, ab_bind, m1, ab_bind, ab_bind, ending_ok m2.2.2.1 hex.1, ab_bind, stepsInAll_ok p3.1, ab_bind, allSteps_ok p4, ab_bind, zrc_len hxl, wrong_nib, m2.2.1, y5.2.1]
        have : j = 0 ∨ j = 1 ∨ j = 2 := by omega
        rcases this with rfl | rfl | rfl
        · rw [if_pos (show nI 0 = 0 from rfl), if_pos (show nI 0 = 0 from rfl)]
          exact ⟨_, _, rfl, rfl, v2.symm, ⟨c, g, num, q, p1, p2, p3, p4⟩, hA, zAOf_AO z2, hF, hT⟩
        · rw [if_neg (show ¬ nI 1 = 0 by decide), if_neg (show ¬ nI 1 = 0 by decide), if_pos (show nI 1 = 1 from rfl), if_pos (show nI 1 = 1 from rfl)]
          exact ⟨_, _, rfl, rfl, v3.2.symm, ⟨c, g, num, q, p1, p2, p3, p4⟩, hA, zAOf_AO z2, hF, hT⟩
        · rw [if_neg (show ¬ nI 2 = 0 by decide), if_neg (show ¬ nI 2 = 0 by decide), if_neg (show ¬ nI 2 = 1 by decide), if_neg (show ¬ nI 2 = 1 by decide)]
          by_cases e : nI (c 0 + c 1 + c 2) ≤ nI x.length
          · rw [if_pos e, if_pos e]
            exact ⟨_, _, rfl, rfl, rfl, ⟨c, g, num, q, p1, p2, p3, p4⟩, hA, zAOf_AO z2, hF, hT⟩
          · rw [if_neg e, if_neg e]
            exact ⟨_, _, rfl, rfl, rfl, ⟨c, g, num, q, p1, p2, p3, p4⟩, hA, zAOf_AO z2, hF, hT⟩
    · have k' : f8_below x2 3 = 0 := kk
      rw [k', if_pos rfl, if_pos rfl]
      exact ⟨_, _, rfl, rfl, rfl, hS, hA, hO, b3, hT⟩
theorem endsAt_ok {c : Nat → Nat} {g : Nat → Nat → Nat → Nat} {num : Nat → Nat} {R : List (List Nat)} {rows ended : Nat → Int32} {count still wrong unlike : Int32} (hK : zKR c g num R rows ended count still wrong unlike) {e : Nat} (he : e < 10000) : f0_endsAt ended (nI e) = some (bI (zisE num g R e)) := by
  unfold f0_endsAt
  rw [l_10000, ab_below_in he (by decide), if_neg i_1ne0, ard_ok he (by omega), ab_bind, hK.2.2.2.2.2 e he]
  cases zisE num g R e with
  | true => rw [bI_t, if_neg i_1ne0]
  | false => rw [bI_f, if_pos rfl]
theorem o_ends (h : zREL now kept oldest size threads rows ended known inAll count still wrong unlike bytes len rb rn rf all past states refused text textLong) (far row stepAt : Nat → Int32) (depth : Int32) (tries values : Nat → Int32) (wr : Int32) (isEnd found : Nat → Int32) (x1 : Int32) :
    ∃ z y, f8_ends now threads rows ended known inAll count still wrong unlike rb rn rf x1 = some z ∧ f9_ends all refused far row stepAt depth tries values wr isEnd found x1 = some y ∧ z.1 = y.1 ∧ zREL now kept oldest size z.2.1 z.2.2.1 z.2.2.2.1 z.2.2.2.2.1 z.2.2.2.2.2.1 z.2.2.2.2.2.2.1 z.2.2.2.2.2.2.2.1 z.2.2.2.2.2.2.2.2.1 z.2.2.2.2.2.2.2.2.2.1 bytes len z.2.2.2.2.2.2.2.2.2.2.1 z.2.2.2.2.2.2.2.2.2.2.2.1 z.2.2.2.2.2.2.2.2.2.2.2.2 all past states y.2.1 text textLong := by
  obtain ⟨hS, hA, hO, hF, hT⟩ := h
  obtain ⟨rB, b1, b2, b3⟩ := refB hF
  unfold f8_ends f9_ends
  rw [b1, b2, ab_bind, ab_bind]
  by_cases n1 : 0 ≤ x1
  · have n0 : ¬ x1 < 0 := by
      rw [fa_le] at n1
      rw [fa_lt]
      omega
    obtain ⟨k, k1, rfl⟩ := nI_of n0
    obtain ⟨c, g, num, q, p1, p2, p3, p4⟩ := hS
    obtain ⟨z, z1, z2⟩ := goThrough_ok p1 hO p3
    obtain ⟨y, y1, y2⟩ := findsAll_ok p1 p4 far row stepAt depth tries values wr isEnd found
    rw [if_pos n1, if_pos n1, z1, ab_bind, y1, ab_bind]
    have loop : ∀ (d e n F F' : Nat), e + d = 10000 → n ≤ k → n ≤ e →
        ∃ r, f8_ends_l26 (d + F + 1) now z.1 z.2.1 z.2.2.1 z.2.2.2.1 z.2.2.2.2.1 z.2.2.2.2.2.1 z.2.2.2.2.2.2.1 z.2.2.2.2.2.2.2.1 z.2.2.2.2.2.2.2.2 rb rn rf (nI (k - n)) (nI e) = some (r, z.1, z.2.1, z.2.2.1, z.2.2.2.1, z.2.2.2.2.1, z.2.2.2.2.2.1, z.2.2.2.2.2.2.1, z.2.2.2.2.2.2.2.1, z.2.2.2.2.2.2.2.2, rb, rn, rf) ∧ f9_ends_l19 (d + F' + 1) all refused y.1 y.2.1 y.2.2.1 y.2.2.2.1 y.2.2.2.2.1 y.2.2.2.2.2.1 y.2.2.2.2.2.2.1 y.2.2.2.2.2.2.2.1 y.2.2.2.2.2.2.2.2 (nI k) (nI n) (nI e) = some (r, refused, y.1, y.2.1, y.2.2.1, y.2.2.2.1, y.2.2.2.2.1, y.2.2.2.2.2.1, y.2.2.2.2.2.2.1, y.2.2.2.2.2.2.2.1, y.2.2.2.2.2.2.2.2) := by
      intro d
      induction d with
      | zero =>
        intro e n F F' he hn hne
        have e1 : e = 10000 := by omega
        subst e1
        rw [show 0 + F + 1 = F + 1 by omega, show 0 + F' + 1 = F' + 1 by omega, f8_ends_l26_s, f9_ends_l19_s, l_10000, if_pos (nI_le (Nat.le_refl _) (by decide)), if_pos (nI_le (Nat.le_refl _) (by decide))]
        exact ⟨_, rfl, rfl⟩
      | succ d ih =>
        intro e n F F' he hn hne
        have he2 : e < 10000 := by omega
        rw [show d + 1 + F + 1 = (d + F + 1) + 1 by omega, show d + 1 + F' + 1 = (d + F' + 1) + 1 by omega, f8_ends_l26_s, f9_ends_l19_s, l_10000, if_neg (nI_ge he2 (by decide)), if_neg (nI_ge he2 (by decide)), endsAt_ok z2.2.2.2 he2, ab_bind, ard_ok he2 (by omega), ab_bind, y2.2.2.2.2 e he2]
        unfold f8_ends_b53 f9_ends_b45
        rw [nI_1]
        cases zisE num g (zAll c g).reverse e with
        | false =>
          rw [bI_f, if_pos rfl, if_pos rfl]
          exact ih (e + 1) n F F' (by omega) hn (by omega)
        | true =>
          rw [bI_t, if_neg i_1ne0, if_neg i_1ne0]
          by_cases en : n = k
          · subst en
            rw [Nat.sub_self, if_pos (show nI 0 = 0 from rfl), if_pos rfl]
            exact ⟨_, rfl, rfl⟩
          · rw [if_neg (nI_ne0 (show 0 < k - n by omega) (by omega)), if_neg (fun q => en ((nI_eq (by omega) k1).mp q)), show k - n = (k - (n + 1)) + 1 by omega, ab_decm, nI_1]
            exact ih (e + 1) (n + 1) F F' (by omega) (by omega) (by omega)
    obtain ⟨fu, hf⟩ := kF 10001 (by omega)
    have hf2 : kFUEL = 10000 + fu + 1 := by omega
    obtain ⟨r, r1, r2⟩ := loop 10000 0 0 fu fu (by omega) (Nat.zero_le _) (Nat.zero_le _)
    rw [Nat.sub_zero] at r1
    rw [hf2]
    exact ⟨_, _, r1, r2, rfl, ⟨c, g, num, q, p1, p2, p3, p4⟩, hA, zAOf_AO z2, hF, hT⟩
  · rw [if_neg n1, if_neg n1]
    exact ⟨_, _, rfl, rfl, rfl, hS, hA, hO, b3, hT⟩
/-! a run's answers -/
theorem run_both {c : Nat → Nat} {g : Nat → Nat → Nat → Nat} {num : Nat → Nat} {q : List Nat} (p1 : zPG c g num) (p2 : zok c g q) (p3 : zRS now c g num q) (p4 : zRM all c g num q) {j : Nat} (hj : j < 6) : ∃ v, f8_run now rb rn rf (nI j) = some (v, rb, rn, rf) ∧ ∀ far depth tries values wr, ∃ z, f9_runOf all far depth tries values wr (nI j) = some z ∧ z.1 = v := by
  have hl := zlen_le p1.1 p2
  have hex := zex_lt p1.1 p1.2.1 p2
  have hM := p3.2.2.1
  have e4 : nI 4 - 4 = nI 0 := by decide
  have e5 : nI 5 - 4 = nI 1 := by decide
  unfold f8_run f9_runOf f5_runMoment f5_runRow
  have hcls : f2_ending now.2.2.2.1 = some (nI (zen (zex num g q).1)) := ending_ok hM.2.2.1 hex.1
  have h0 : f2_holderOf now.2.2.2.1 0 = nI (zhd g (zfr q) 0) - 1 := by
    rw [show f2_holderOf now.2.2.2.1 0 = f2_holderOf now.2.2.2.1 (nI 0) from rfl, holder_nib (by omega), hM.2.2.2 0 (by omega)]
  have h1 : f2_holderOf now.2.2.2.1 1 = nI (zhd g (zfr q) 1) - 1 := by
    rw [show f2_holderOf now.2.2.2.1 1 = f2_holderOf now.2.2.2.1 (nI 1) from rfl, holder_nib (by omega), hM.2.2.2 1 (by omega)]
  have hlen : f4_length now.2.2.2.2 = nI q.length := by rw [p3.2.2.2, zrf_len (by rw [zF_len]; exact hl), zF_len]
  rw [ableBits_ok p1.1 p3.1 hM, ab_bind, hcls, ab_bind, h0, h1, hlen, wrong_nib, hM.2.1]
  have : j = 0 ∨ j = 1 ∨ j = 2 ∨ j = 3 ∨ j = 4 ∨ j = 5 := by omega
  have gr : ∀ far depth tries values wr, ∃ z, f9_goesRun all far depth tries values wr = some z ∧ (∀ t, t < 3 → z.1 t = nI (zfr q t)) ∧ zVE z.2.2.2.1 z.2.2.2.2 (zex num g q) := fun far depth tries values wr => goesRun_ok p1 p4 p2 far depth tries values wr
  rcases this with rfl | rfl | rfl | rfl | rfl | rfl
  · rw [if_pos (show nI 0 = 0 from rfl)]
    refine ⟨_, rfl, fun far depth tries values wr => ?_⟩
    obtain ⟨r, r1, r2, r3⟩ := gr far depth tries values wr
    have hFA : zFA r.1 c (zfr q) := fun u hu => ⟨r2 u hu, zfr_le p2 u⟩
    have c0 : f9_canDo all r.1 0 = some (bI (zable c g (zfr q) 0)) := canDoM (t := 0) p1.1 p4 hFA (by omega)
    have c1 : f9_canDo all r.1 1 = some (bI (zable c g (zfr q) 1)) := canDoM (t := 1) p1.1 p4 hFA (by omega)
    have c2 : f9_canDo all r.1 2 = some (bI (zable c g (zfr q) 2)) := canDoM (t := 2) p1.1 p4 hFA (by omega)
    unfold f9_runOf_b49 f9_runOf_b62 f9_runOf_b76 zbits zbt
    rw [r1, ab_bind, if_pos (show nI 0 = 0 from rfl), c0, ab_bind, c1, ab_bind, ab_bind, c2, ab_bind, ab_bind, ab_bind, ab_bind]
    cases zable c g (zfr q) 0 <;> cases zable c g (zfr q) 1 <;> cases zable c g (zfr q) 2 <;> exact ⟨_, rfl, by show (_ ||| _ : Int32) = _; decide⟩
  · rw [if_neg (show ¬ nI 1 = 0 by decide), if_pos (show nI 1 = 1 from rfl)]
    refine ⟨_, rfl, fun far depth tries values wr => ?_⟩
    obtain ⟨r, r1, r2, r3⟩ := gr far depth tries values wr
    rw [r1, ab_bind, if_neg (show ¬ nI 1 = 0 by decide), if_pos (show nI 1 = 1 from rfl)]
    exact ⟨_, rfl, p4.2.2.2.1⟩
  · rw [if_neg (show ¬ nI 2 = 0 by decide), if_neg (show ¬ nI 2 = 1 by decide), if_pos (show nI 2 = 2 from rfl)]
    refine ⟨_, rfl, fun far depth tries values wr => ?_⟩
    obtain ⟨r, r1, r2, r3⟩ := gr far depth tries values wr
    rw [r1, ab_bind, if_neg (show ¬ nI 2 = 0 by decide), if_neg (show ¬ nI 2 = 1 by decide), if_pos (show nI 2 = 2 from rfl)]
    exact ⟨_, rfl, r3.2⟩
  · rw [if_neg (show ¬ nI 3 = 0 by decide), if_neg (show ¬ nI 3 = 1 by decide), if_neg (show ¬ nI 3 = 2 by decide), if_pos (show nI 3 = 3 from rfl)]
    refine ⟨_, rfl, fun far depth tries values wr => ?_⟩
    obtain ⟨r, r1, r2, r3⟩ := gr far depth tries values wr
    rw [r1, ab_bind, if_neg (show ¬ nI 3 = 0 by decide), if_neg (show ¬ nI 3 = 1 by decide), if_neg (show ¬ nI 3 = 2 by decide), if_pos (show nI 3 = 3 from rfl)]
    exact ⟨_, rfl, told4_ok r3.1⟩
  · rw [if_neg (show ¬ nI 4 = 0 by decide), if_neg (show ¬ nI 4 = 1 by decide), if_neg (show ¬ nI 4 = 2 by decide), if_neg (show ¬ nI 4 = 3 by decide), if_pos (show nI 4 = 4 from rfl)]
    refine ⟨_, rfl, fun far depth tries values wr => ?_⟩
    obtain ⟨r, r1, r2, r3⟩ := gr far depth tries values wr
    have hFA : zFA r.1 c (zfr q) := fun u hu => ⟨r2 u hu, zfr_le p2 u⟩
    rw [r1, ab_bind, if_neg (show ¬ nI 4 = 0 by decide), if_neg (show ¬ nI 4 = 1 by decide), if_neg (show ¬ nI 4 = 2 by decide), if_neg (show ¬ nI 4 = 3 by decide), e4, holder_ok p1.1 p4 hFA (by omega), ab_bind]
    exact ⟨_, rfl, rfl⟩
  · rw [if_neg (show ¬ nI 5 = 0 by decide), if_neg (show ¬ nI 5 = 1 by decide), if_neg (show ¬ nI 5 = 2 by decide), if_neg (show ¬ nI 5 = 3 by decide), if_neg (show ¬ nI 5 = 4 by decide), if_pos (show nI 5 = 5 from rfl)]
    refine ⟨_, rfl, fun far depth tries values wr => ?_⟩
    obtain ⟨r, r1, r2, r3⟩ := gr far depth tries values wr
    have hFA : zFA r.1 c (zfr q) := fun u hu => ⟨r2 u hu, zfr_le p2 u⟩
    rw [r1, ab_bind, if_neg (show ¬ nI 5 = 0 by decide), if_neg (show ¬ nI 5 = 1 by decide), if_neg (show ¬ nI 5 = 2 by decide), if_neg (show ¬ nI 5 = 3 by decide), e5, holder_ok p1.1 p4 hFA (by omega), ab_bind]
    exact ⟨_, rfl, rfl⟩
theorem o_run (h : zREL now kept oldest size threads rows ended known inAll count still wrong unlike bytes len rb rn rf all past states refused text textLong) (far : Nat → Int32) (depth : Int32) (tries values : Nat → Int32) (wr x1 : Int32) :
    ∃ z y, f8_run now rb rn rf x1 = some z ∧ f9_run all refused far depth tries values wr x1 = some y ∧ z.1 = y.1 ∧ zREL now kept oldest size threads rows ended known inAll count still wrong unlike bytes len z.2.1 z.2.2.1 z.2.2.2 all past states y.2.1 text textLong := by
  obtain ⟨hS, hA, hO, hF, hT⟩ := h
  obtain ⟨rB, b1, b2, b3⟩ := refB hF
  have i5 : f9_in x1.toInt64 (0 : Int64) (5 : Int64) = f8_below x1 6 := ab_in x1 5 (by decide)
  rcases ab_below x1 6 (by decide) with ⟨j, j1, rfl, j3⟩ | k
  · have j3' : f8_below (nI j) 6 = 1 := j3
    obtain ⟨c, g, num, q, p1, p2, p3, p4⟩ := hS
    obtain ⟨v, v1, v2⟩ := run_both (rb := rb) (rn := rn) (rf := rf) p1 p2 p3 p4 j1
    obtain ⟨z, z1, z2⟩ := v2 far depth tries values wr
    unfold f9_run
    rw [i5, j3', if_neg i_1ne0, v1, z1, ab_bind]
    exact ⟨_, _, rfl, rfl, z2.symm, ⟨c, g, num, q, p1, p2, p3, p4⟩, hA, hO, hF, hT⟩
  · have k' : f8_below x1 6 = 0 := k
    have hn : ∀ j, j < 6 → ¬ x1 = nI j := by
      intro j hj e
      rw [e] at k
      rw [ab_below_in hj (by decide)] at k
      exact i_1ne0 k
    unfold f8_run f9_run
    rw [b1, b2, ab_bind, ab_bind, i5, k', if_pos rfl, if_neg (show ¬ x1 = 0 from hn 0 (by omega)), if_neg (show ¬ x1 = 1 from hn 1 (by omega)), if_neg (show ¬ x1 = 2 from hn 2 (by omega)), if_neg (show ¬ x1 = 3 from hn 3 (by omega)), if_neg (show ¬ x1 = 4 from hn 4 (by omega)), if_neg (show ¬ x1 = 5 from hn 5 (by omega))]
    exact ⟨_, _, rfl, rfl, rfl, hS, hA, hO, b3, hT⟩
/-! which sort -/
theorem zAll_inj {c : Nat → Nat} {g : Nat → Nat → Nat → Nat} {num : Nat → Nat} (hP : zPG c g num) {i j : Nat} {x : List Nat} (hi : (zAll c g)[i]? = some x) (hj : (zAll c g)[j]? = some x) : i = j := by
  have hp := zsub_sorted (g := g) (fun t ht => (hP.1 t ht).1) (c 0 + c 1 + c 2) [] trivial (by simp)
  have hp2 : (zAll c g).Pairwise (fun a b => zco a < zco b) := hp
  obtain ⟨i1, i2⟩ := List.getElem?_eq_some_iff.mp hi
  obtain ⟨j1, j2⟩ := List.getElem?_eq_some_iff.mp hj
  rcases Nat.lt_trichotomy i j with h | h | h
  · have := List.pairwise_iff_getElem.mp hp2 i j i1 j1 h
    rw [i2, j2] at this
    omega
  · exact h
  · have := List.pairwise_iff_getElem.mp hp2 j i j1 i1 h
    rw [i2, j2] at this
    omega
theorem o_which (h : zREL now kept oldest size threads rows ended known inAll count still wrong unlike bytes len rb rn rf all past states refused text textLong) (far row stepAt : Nat → Int32) (depth : Int32) (tries values : Nat → Int32) (wr : Int32) (stepIn laid firstRow : Nat → Int32) :
    ∃ z y, f8_which now threads rows ended known inAll count still wrong unlike = some z ∧ f9_which all far row stepAt depth tries values wr stepIn laid firstRow = some y ∧ z.1 = y.1 ∧ zREL now kept oldest size z.2.1 z.2.2.1 z.2.2.2.1 z.2.2.2.2.1 z.2.2.2.2.2.1 z.2.2.2.2.2.2.1 z.2.2.2.2.2.2.2.1 z.2.2.2.2.2.2.2.2.1 z.2.2.2.2.2.2.2.2.2 bytes len rb rn rf all past states refused text textLong := by
  obtain ⟨hS, hA, hO, hF, hT⟩ := h
  obtain ⟨c, g, num, q, p1, p2, p3, p4⟩ := hS
  have hl := zlen_le p1.1 p2
  obtain ⟨y, y1, y2⟩ := whichM_ok p1 p4 p2 far row stepAt depth tries values wr stepIn laid firstRow
  have hz := zbits_0 (zable c g (zfr q))
  unfold f8_which f5_runMoment f5_runRow
  rw [ableBits_ok p1.1 p3.1 p3.2.2.1, ab_bind]
  rcases y2 with ⟨s1, s2⟩ | ⟨s1, s2⟩
  · have hnz : zbits (zable c g (zfr q)) ≠ 0 := by
      intro e
      obtain ⟨a, b, d⟩ := hz.mp e
      have : zstill c g q = true := zstill_iff.mpr (fun t ht => by
        have : t = 0 ∨ t = 1 ∨ t = 2 := by omega
        rcases this with rfl | rfl | rfl
        · exact a
        · exact b
        · exact d)
      rw [this] at s1
      cases s1
    have := zbits_lt (zable c g (zfr q))
    rw [if_neg (nI_ne0 (Nat.pos_of_ne_zero hnz) (by omega))]
    exact ⟨_, _, rfl, y1, s2.symm, ⟨c, g, num, q, p1, p2, p3, p4⟩, hA, hO, hF, hT⟩
  · have hst := zstill_iff.mp s1
    obtain ⟨z, z1, z2⟩ := goThrough_ok p1 hO p3
    obtain ⟨r, r1, r2⟩ := find_ok p1 z2.2.2.2 (v := (zF g q).reverse) (fun u hu => zmem p2 u ((zF_mem g u q).mp (List.mem_reverse.mp hu))) (by rw [List.length_reverse, zF_len]; exact hl)
    rw [hz.mpr ⟨hst 0 (by omega), hst 1 (by omega), hst 2 (by omega)⟩, if_pos (show nI 0 = 0 from rfl), z1, ab_bind, p3.2.2.2, zrf_rc, r1, ab_bind]
    refine ⟨_, _, rfl, y1, ?_, ⟨c, g, num, q, p1, p2, p3, p4⟩, hA, zAOf_AO z2, hF, hT⟩
    show r = y.1
    rcases r2 with ⟨k, k1, k2, _⟩ | ⟨k1, k2⟩
    · rcases s2 with ⟨k', k1', k2'⟩ | ⟨_, k2'⟩
      · rw [k1, k1', zAll_inj p1 k2 k2']
      · exact absurd (List.mem_of_getElem? k2) k2'
    · rcases s2 with ⟨k', k1', k2'⟩ | ⟨k1', _⟩
      · exact absurd (List.mem_of_getElem? k2') k2
      · rw [k1, k1']
end OPS2
