/-! THE TEXT read whole, in both ways -/
def zSum (c : Nat → Nat) : Nat := c 0 + c 1 + c 2
theorem parse_ok {A : Nat → Int32} {tx : Nat → Nat} {len : Nat} {num : Nat → Nat} (hA : zTX A tx len) {D : Nat → Int32} (hD : zTX D tx len) (b : Nat) (hb : b ≤ 12) : ∀ (d k : Nat) (c : Nat → Nat) (g : Nat → Nat → Nat → Nat) (q : List Nat) (w : sT) (n : Nat),
    len - k ≤ d → k ≤ len → zho tx len k < len → zPG c g num → zRS w c g num q → zSum c = b + n →
      (∃ f, f ≤ len ∧ (∀ F th kd tg vl, ∃ z, zCL A len F k 0 th kd tg vl w (nI b) = some z ∧ z.1 = nI f) ∧
        ∀ ka all past states taken counted fuel, ka ≤ len → zho tx len ka = zho tx len k → (∀ t, t < 3 → counted t = nI (c t)) → d < fuel → ∃ z, f9_reads_l11 fuel all past states D (nI len) (nI ka) taken counted (nI n) = some z ∧ z.1 = -10 - nI f ∧ z.2.1 = all ∧ z.2.2.1 = past ∧ z.2.2.2.1 = states) ∨
      (∃ m c' g', 1 ≤ m ∧ zPG c' g' num ∧ zSum c' = b + n + m ∧ (∀ F th kd tg vl, ∃ z, zCL A len F k 0 th kd tg vl w (nI b) = some z ∧ z.1 = -1 ∧ zRS z.2.2.2.2.2.2 c' g' num []) ∧
        (∀ ka all past states taken counted fuel, ka ≤ len → zho tx len ka = zho tx len k → (∀ t, t < 3 → counted t = nI (c t)) → d < fuel → ∃ sp tk cn, f9_reads_l11 fuel all past states D (nI len) (nI ka) taken counted (nI n) = f9_reads_b38 all past states D (nI len) sp tk cn (nI (n + m))) ∧
        ∀ ka all past states taken counted fuel q2, ka ≤ len → zho tx len ka = zho tx len k → (∀ t, t < 3 → counted t = nI (c t)) → zRM all c g num q2 → m < fuel → ∃ z, f9_reads_l53 fuel all past states D (nI len) (nI ka) taken counted (nI (n + m)) (nI n) = some z ∧ z.1 = nI (n + m) ∧ zRM z.2.1 c' g' num [] ∧ z.2.2.1 = past ∧ z.2.2.2.1 = states) := by
  have hl := hA.1
  intro d
  induction d with
  | zero =>
    intro k c g q w n hd hk hlt _ _ _
    have := (zho_ok (tx := tx) hk).1
    omega
  | succ d ih =>
    intro k c g q w n hd hk hlt hP hR hsum
    have hc4 : ∀ t, t < 3 → c t ≤ 4 := fun t ht => (hP.1 t ht).1
    obtain ⟨o, e, a1, a2, a3, a4, a5, a6⟩ := takes_step (c := c) (g := g) hA hD hc4 hk hlt
    cases o with
    | none =>
      left
      refine ⟨e, a1, fun F th kd tg vl => a6 F th kd tg vl w (nI b) hR.1, fun ka all past states taken counted fuel hka hz hcn hfu => ?_⟩
      obtain ⟨fu, rfl⟩ : ∃ fu, fuel = fu + 1 := ⟨fuel - 1, by omega⟩
      obtain ⟨z, z1, z2, z3, z4⟩ := a5 ka all taken counted 0 hka hz hcn
      rw [f9_reads_l11_s, z1, ab_bind, if_pos z2]
      unfold f9_reads_b19
      exact ⟨_, rfl, by rw [z4], z3, rfl, rfl⟩
    | some o =>
      obtain ⟨t, s, x, v⟩ := o
      have a3' := a3 (by intro h; cases h)
      obtain ⟨ht, hct, ho⟩ := a4
      obtain ⟨w', w1, w2⟩ := addStep_ok (s := s) (x := x) (v := v) hP hR.1 hR.2.1 ht hct
      have hP' := zPG_put hP ht hct ho
      have hsum' : zSum (zpc c t) = b + (n + 1) := by
        have := zpc_sum (c := c) ht
        unfold zSum at *
        omega
      have hs12 : zSum (zpc c t) ≤ 12 := by
        have h0 := (hP'.1 0 (by omega)).1
        have h1 := (hP'.1 1 (by omega)).1
        have h2 := (hP'.1 2 (by omega)).1
        unfold zSum
        omega
      have hcls : ∀ F th kd tg vl, ∃ th' kd' tg' vl', zCL A len F k 0 th kd tg vl w (nI b) = zCL A len F e 0 th' kd' tg' vl' w' (nI b) := by
        intro F th kd tg vl
        obtain ⟨th', kd', tg', vl', h⟩ := a6 F th kd tg vl w (nI b) hR.1
        rw [w1] at h
        exact ⟨th', kd', tg', vl', h⟩
      have hcn' : ∀ counted : Nat → Int32, (∀ u, u < 3 → counted u = nI (c u)) → ∀ u, u < 3 → upd counted t (nI (c t + 1)) u = nI (zpc c t u) := by
        intro counted hcn u hu
        rw [ab_upd]
        unfold zpc
        by_cases eu : u = t
        · rw [if_pos eu, if_pos eu]
        · rw [if_neg eu, if_neg eu]; exact hcn u hu
      have hmod1 : ∀ ka all taken counted, ka ≤ len → zho tx len ka = zho tx len k → (∀ t, t < 3 → counted t = nI (c t)) → ∃ tk, f9_takesStep all D (nI len) (nI ka) taken counted 0 = some (1, all, nI e, tk, upd counted t (nI (c t + 1))) := by
        intro ka all taken counted hka hz hcn
        obtain ⟨tk, h⟩ := a5 ka all taken counted 0 hka hz hcn
        rw [if_pos rfl] at h
        exact ⟨tk, h⟩
      have hmod2 : ∀ ka all taken counted q2, ka ≤ len → zho tx len ka = zho tx len k → (∀ t, t < 3 → counted t = nI (c t)) → zRM all c g num q2 → ∃ tk all', f9_takesStep all D (nI len) (nI ka) taken counted 1 = some (1, all', nI e, tk, upd counted t (nI (c t + 1))) ∧ zRM all' (zpc c t) (zpg c g t s x v) num [] := by
        intro ka all taken counted q2 hka hz hcn hRM
        obtain ⟨tk, h⟩ := a5 ka all taken counted 1 hka hz hcn
        obtain ⟨all', l1, l2⟩ := lays_ok (s := s) (x := x) (v := v) hP hRM ht hct
        rw [if_neg i_1ne0, l1, ab_bind] at h
        exact ⟨tk, all', h, l2⟩
      obtain ⟨p1, p2, p3⟩ := zho_ok (tx := tx) a1
      by_cases hmore : zho tx len e < len
      · rcases ih e (zpc c t) (zpg c g t s x v) [] w' (n + 1) (by omega) a1 hmore hP' w2 hsum' with ⟨f, f1, f2, f3⟩ | ⟨m, c', g', m1, m2, m3, m4, m5, m6⟩
        · left
          refine ⟨f, f1, fun F th kd tg vl => ?_, fun ka all past states taken counted fuel hka hz hcn hfu => ?_⟩
          · obtain ⟨th', kd', tg', vl', h⟩ := hcls F th kd tg vl
            rw [h]
            exact f2 F th' kd' tg' vl'
          · obtain ⟨fu, rfl⟩ : ∃ fu, fuel = fu + 1 := ⟨fuel - 1, by omega⟩
            obtain ⟨tk, h⟩ := hmod1 ka all taken counted hka hz hcn
            rw [f9_reads_l11_s, h, ab_bind, if_neg i_1ne0, here_ok hD a1, ab_bind]
            have hv : ¬ zhv tx len (zho tx len e) = -1 := by
              unfold zhv
              rw [if_pos hmore]
              have := (hA.2 _ hmore).2
              exact ab_ne_m1 (by omega)
            rw [if_neg hv, nI_1]
            exact f3 (zho tx len e) all past states tk _ fu p2 (zho_idem a1) (hcn' counted hcn) (by omega)
        · right
          refine ⟨m + 1, c', g', by omega, m2, by omega, fun F th kd tg vl => ?_, fun ka all past states taken counted fuel hka hz hcn hfu => ?_, fun ka all past states taken counted fuel q2 hka hz hcn hRM hfu => ?_⟩
          · obtain ⟨th', kd', tg', vl', h⟩ := hcls F th kd tg vl
            rw [h]
            exact m4 F th' kd' tg' vl'
          · obtain ⟨fu, rfl⟩ : ∃ fu, fuel = fu + 1 := ⟨fuel - 1, by omega⟩
            obtain ⟨tk, h⟩ := hmod1 ka all taken counted hka hz hcn
            rw [f9_reads_l11_s, h, ab_bind, if_neg i_1ne0, here_ok hD a1, ab_bind]
            have hv : ¬ zhv tx len (zho tx len e) = -1 := by
              unfold zhv
              rw [if_pos hmore]
              have := (hA.2 _ hmore).2
              exact ab_ne_m1 (by omega)
            rw [if_neg hv, nI_1, show n + (m + 1) = n + 1 + m by omega]
            exact m5 (zho tx len e) all past states tk _ fu p2 (zho_idem a1) (hcn' counted hcn) (by omega)
          · obtain ⟨fu, rfl⟩ : ∃ fu, fuel = fu + 1 := ⟨fuel - 1, by omega⟩
            obtain ⟨tk, all', h, hRM'⟩ := hmod2 ka all taken counted q2 hka hz hcn hRM
            have hm12 : b + (n + 1) + m ≤ 12 := by
              have h0 := (m2.1 0 (by omega)).1
              have h1 := (m2.1 1 (by omega)).1
              have h2 := (m2.1 2 (by omega)).1
              unfold zSum at m3
              omega
            rw [f9_reads_l53_s, if_neg (nI_ge (by omega) (by omega)), h, ab_bind, nI_1, show n + (m + 1) = n + 1 + m by omega]
            exact m6 e all' past states tk _ fu [] a1 rfl (hcn' counted hcn) hRM' (by omega)
      · have e2 : zho tx len e = len := by omega
        right
        refine ⟨1, zpc c t, zpg c g t s x v, by omega, hP', by omega, fun F th kd tg vl => ?_, fun ka all past states taken counted fuel hka hz hcn hfu => ?_, fun ka all past states taken counted fuel q2 hka hz hcn hRM hfu => ?_⟩
        · obtain ⟨th', kd', tg', vl', h⟩ := hcls F th kd tg vl
          rw [h, cls_skip hA a1, e2]
          unfold zCL
          rw [f7_readInto_l12_s, if_pos (nI_le (Nat.le_refl _) (by omega))]
          unfold f7_readInto_b53
          have hsi : f5_stepsInAll w' = some (nI (zSum (zpc c t))) := stepsInAll_ok w2.1
          rw [if_pos rfl, hsi, ab_bind, if_neg (nI_ge (by omega) (by omega))]
          exact ⟨_, rfl, rfl, w2⟩
        · obtain ⟨fu, rfl⟩ : ∃ fu, fuel = fu + 1 := ⟨fuel - 1, by omega⟩
          obtain ⟨tk, h⟩ := hmod1 ka all taken counted hka hz hcn
          rw [f9_reads_l11_s, h, ab_bind, if_neg i_1ne0, here_ok hD a1, ab_bind, e2]
          have hv : zhv tx len len = -1 := by unfold zhv; rw [if_neg (by omega)]
          rw [hv, if_pos rfl, nI_1]
          exact ⟨_, _, _, rfl⟩
        · obtain ⟨fu, rfl⟩ : ∃ fu, fuel = fu + 1 + 1 := ⟨fuel - 2, by omega⟩
          obtain ⟨tk, all', h, hRM'⟩ := hmod2 ka all taken counted q2 hka hz hcn hRM
          rw [f9_reads_l53_s, if_neg (nI_ge (by omega) (by omega)), h, ab_bind, nI_1, f9_reads_l53_s, if_pos (nI_le (Nat.le_refl _) (by omega))]
          unfold f9_reads_b70
          exact ⟨_, rfl, rfl, hRM', rfl, rfl⟩
theorem counts_ok {all : Nat → Int32} {c : Nat → Nat} {g : Nat → Nat → Nat → Nat} {num : Nat → Nat} {q : List Nat} (hR : zRM all c g num q) (counted : Nat → Int32) : ∃ z, f9_counts all counted = some z ∧ ∀ t, t < 3 → z t = nI (c t) := by
  have one : ∀ (n t : Nat) (cn : Nat → Int32), t < 3 → f9_counts_l2 (n + 1) all cn (nI t) = f9_counts_l2 n all (upd cn t (nI (c t))) (nI (t + 1)) := by
    intro n t cn ht
    rw [f9_counts_l2_s, l_3, if_neg (nI_ge ht (by decide)), many_ok hR ht, ab_bind, awr_ok ht (by omega), ab_bind, nI_1]
  refine ⟨upd (upd (upd counted 0 (nI (c 0))) 1 (nI (c 1))) 2 (nI (c 2)), ?_, fun t ht => ?_⟩
  · unfold f9_counts
    rw [kF4]
    show f9_counts_l2 _ all counted (nI 0) = _
    rw [one _ 0 _ (by decide), one _ 1 _ (by decide), one _ 2 _ (by decide), f9_counts_l2_s, l_3, if_pos (nI_le (by decide) (by decide))]
  · have : t = 0 ∨ t = 1 ∨ t = 2 := by omega
    rcases this with rfl | rfl | rfl <;> rfl
/-! STATES to go back to -/
def zST (u : sT) (all : Nat → Int32) : Prop := ∃ c g num q, zPG c g num ∧ zok c g q ∧ zRS u c g num q ∧ zRM all c g num q
def zPA (kept : Nat → sT) (oldest size : Int32) (past : Nat → Int32) (states : Int32) : Prop := ∃ o n, o < 5 ∧ n ≤ 5 ∧ oldest = nI o ∧ size = nI n ∧ states = nI n ∧ ∀ k, k < n → zST (kept ((o + k) % 5)) (fun j => past (56 * k + j))
theorem zRM_cong {all all' : Nat → Int32} {c : Nat → Nat} {g : Nat → Nat → Nat → Nat} {num : Nat → Nat} {q : List Nat} (hP : zPG c g num) (hq : q.length ≤ 12) (h : ∀ j, j < 56 → all' j = all j) (hR : zRM all c g num q) : zRM all' c g num q := by
  refine ⟨fun t ht => ?_, fun t ht i hi w hw => ?_, fun x hx => ?_, ?_, fun p t y e => ?_⟩
  · rw [h _ (by omega)]; exact hR.1 t ht
  · have := (hP.1 t ht).1
    rw [h _ (by omega)]; exact hR.2.1 t ht i hi w hw
  · rw [h _ (by omega)]; exact hR.2.2.1 x hx
  · rw [h _ (by omega)]; exact hR.2.2.2.1
  · have := congrArg List.length e
    rw [List.length_append, List.length_cons] at this
    rw [h _ (by omega)]; exact hR.2.2.2.2 p t y e
theorem zST_cong {u : sT} {all all' : Nat → Int32} (h : ∀ j, j < 56 → all' j = all j) (hS : zST u all) : zST u all' := by
  obtain ⟨c, g, num, q, h1, h2, h3, h4⟩ := hS
  exact ⟨c, g, num, q, h1, h2, h3, zRM_cong h1 (zlen_le h1.1 h2) h h4⟩
theorem keepM_ok {all past : Nat → Int32} : ∀ (n : Nat), n < 5 → ∃ past', f9_keep_b48 all past (nI n) = some (past', nI (n + 1)) ∧ (∀ j, j < 56 → past' (56 * n + j) = all j) ∧ ∀ j, j < 56 * n → past' j = past j := by
  intro n hn
  have loop : ∀ (d i fuel : Nat) (P : Nat → Int32), i + d = 56 → (∀ j, j < i → P (56 * n + j) = all j) → (∀ j, j < 56 * n → P j = past j) →
      ∃ past', f9_keep_l50 (d + fuel + 1) all P (nI n) (nI i) = some (past', nI (n + 1)) ∧ (∀ j, j < 56 → past' (56 * n + j) = all j) ∧ ∀ j, j < 56 * n → past' j = past j := by
    intro d
    induction d with
    | zero =>
      intro i fuel P hi h1 h2
      have e : i = 56 := by omega
      subst e
      rw [show 0 + fuel + 1 = fuel + 1 by omega, f9_keep_l50_s, l_56, if_pos (nI_le (Nat.le_refl _) (by decide))]
      unfold f9_keep_b82
      rw [nI_1]
      exact ⟨P, rfl, h1, h2⟩
    | succ d ih =>
      intro i fuel P hi h1 h2
      rw [show d + 1 + fuel + 1 = (d + fuel + 1) + 1 by omega, f9_keep_l50_s, l_56, if_neg (nI_ge (by omega) (by decide)), ard_ok (by omega) (by omega), ab_bind, pk_mul, nI_add, awr_ok (by omega) (by omega), ab_bind, nI_1]
      refine ih (i + 1) fuel _ (by omega) (fun j hj => ?_) (fun j hj => ?_)
      · rw [ab_upd]
        by_cases e : j = i
        · rw [if_pos (by omega), e]
        · rw [if_neg (by omega)]; exact h1 j (by omega)
      · rw [ab_upd, if_neg (by omega)]; exact h2 j hj
  unfold f9_keep_b48
  obtain ⟨fu, hf⟩ := kF 57 (by omega)
  have hf2 : kFUEL = 56 + fu + 1 := by omega
  rw [hf2]
  exact loop 56 0 fu past (by omega) (fun j hj => absurd hj (Nat.not_lt_zero _)) (fun j _ => rfl)
theorem keep_both {kept : Nat → sT} {oldest size : Int32} {past : Nat → Int32} {states : Int32} {now : sT} {all : Nat → Int32} (hA : zPA kept oldest size past states) (hS : zST now all) :
    ∃ z y, f3_keep kept oldest size now = some z ∧ f9_keep all past states = some y ∧ zPA z.1 z.2.1 z.2.2 y.1 y.2 := by
  obtain ⟨o, n, ho, hn, rfl, rfl, rfl, hK⟩ := hA
  obtain ⟨c, g, num, q, h1, h2, h3, h4⟩ := hS
  obtain ⟨u', u1, u2⟩ := takeFrom_ok (v := kept ((o + n) % 5)) h1.1 h3
  have hkeep : f3_keep kept (nI o) (nI n) now = (if nI 5 ≤ nI n then some (updS kept ((o + n) % 5) u', nI ((o + 1) % 5), nI n) else some (updS kept ((o + n) % 5) u', nI o, nI (n + 1))) := by
    unfold f3_keep
    rw [nI_add, l_5, pk_rem (by omega) (by decide) (by decide), aidx_ok (by omega) (by omega), ab_bind, u1, ab_bind, nI_1, nI_1, pk_rem (by omega) (by decide) (by decide)]
  rw [hkeep]
  by_cases e : n = 5
  · subst e
    rw [if_pos (nI_le (Nat.le_refl _) (by decide))]
    have shift : ∀ (d i fuel : Nat) (P : Nat → Int32), i + d = 224 → (∀ j, j < i → P j = past (j + 56)) → (∀ j, i ≤ j → P j = past j) →
        ∃ P', f9_keep_l10 (d + fuel + 1) all P (nI 5) (nI i) = f9_keep_b48 all P' (nI 4) ∧ ∀ j, j < 224 → P' j = past (j + 56) := by
      intro d
      induction d with
      | zero =>
        intro i fuel P hi h1 h2
        have e : i = 224 := by omega
        subst e
        rw [show 0 + fuel + 1 = fuel + 1 by omega, f9_keep_l10_s, l_224, if_pos (nI_le (Nat.le_refl _) (by decide))]
        unfold f9_keep_b38
        rw [ab_dec]
        exact ⟨P, rfl, h1⟩
      | succ d ih =>
        intro i fuel P hi h1 h2
        rw [show d + 1 + fuel + 1 = (d + fuel + 1) + 1 by omega, f9_keep_l10_s, l_224, if_neg (nI_ge (by omega) (by decide)), l_56, nI_add, ard_ok (by omega) (by omega), ab_bind, awr_ok (by omega) (by omega), ab_bind, nI_1]
        refine ih (i + 1) fuel _ (by omega) (fun j hj => ?_) (fun j hj => ?_)
        · rw [ab_upd]
          by_cases e : j = i
          · rw [if_pos e, e]; exact h2 _ (by omega)
          · rw [if_neg e]; exact h1 j (by omega)
        · rw [ab_upd, if_neg (by omega)]; exact h2 j (by omega)
    obtain ⟨fu, hf⟩ := kF 225 (by omega)
    have hf2 : kFUEL = 224 + fu + 1 := by omega
    obtain ⟨P', p1, p2⟩ := shift 224 0 fu past (by omega) (fun j hj => absurd hj (Nat.not_lt_zero _)) (fun j _ => rfl)
    obtain ⟨Q, q1, q2, q3⟩ := keepM_ok (all := all) (past := P') 4 (by omega)
    refine ⟨_, (Q, nI 5), rfl, ?_, ⟨(o + 1) % 5, 5, by omega, by omega, rfl, rfl, rfl, fun k hk => ?_⟩⟩
    · unfold f9_keep
      rw [if_pos (show nI 5 = 5 from rfl), hf2]
      exact Eq.trans p1 q1
    · show zST (updS kept ((o + 5) % 5) u' (((o + 1) % 5 + k) % 5)) _
      by_cases ek : k = 4
      · subst ek
        have : updS kept ((o + 5) % 5) u' (((o + 1) % 5 + 4) % 5) = u' := by
          unfold updS
          rw [if_pos (by omega)]
        rw [this]
        exact zST_cong (fun j hj => q2 j hj) ⟨c, g, num, q, h1, h2, u2, h4⟩
      · have : updS kept ((o + 5) % 5) u' (((o + 1) % 5 + k) % 5) = kept ((o + (k + 1)) % 5) := by
          unfold updS
          rw [if_neg (by omega), show ((o + 1) % 5 + k) % 5 = (o + (k + 1)) % 5 by omega]
        rw [this]
        refine zST_cong (fun j hj => ?_) (hK (k + 1) (by omega))
        show Q (56 * k + j) = past (56 * (k + 1) + j)
        rw [q3 _ (by omega), p2 _ (by omega), show 56 * k + j + 56 = 56 * (k + 1) + j by omega]
  · rw [if_neg (nI_ge (by omega) (by decide))]
    obtain ⟨Q, q1, q2, q3⟩ := keepM_ok (all := all) (past := past) n (by omega)
    refine ⟨_, (Q, nI (n + 1)), rfl, ?_, ⟨o, n + 1, ho, by omega, rfl, rfl, rfl, fun k hk => ?_⟩⟩
    · unfold f9_keep
      rw [if_neg (show ¬ nI n = 5 from fun h => e ((nI_eq (b := 5) (by omega) (by decide)).mp h))]
      exact q1
    · show zST (updS kept ((o + n) % 5) u' ((o + k) % 5)) _
      by_cases ek : k = n
      · subst ek
        have : updS kept ((o + k) % 5) u' ((o + k) % 5) = u' := by unfold updS; rw [if_pos rfl]
        rw [this]
        exact zST_cong (fun j hj => q2 j hj) ⟨c, g, num, q, h1, h2, u2, h4⟩
      · have : updS kept ((o + n) % 5) u' ((o + k) % 5) = kept ((o + k) % 5) := by
          unfold updS
          rw [if_neg (by omega)]
        rw [this]
        refine zST_cong (fun j hj => ?_) (hK k (by omega))
        exact q3 _ (by omega)
theorem back_both {kept : Nat → sT} {oldest : Int32} {past : Nat → Int32} {now : sT} {all refused : Nat → Int32} {n : Nat} (hA : zPA kept oldest (nI (n + 1)) past (nI (n + 1))) (hS : zST now all) (hn : n < 5) :
    ∃ u all', f3_bringBack kept oldest (nI (n + 1)) now = some (nI n, u) ∧ f9_back_l26 kFUEL all past (nI (n + 1) - 1) refused 0 = some (nI n, all', nI n, refused) ∧ zST u all' ∧ zPA kept oldest (nI n) past (nI n) := by
  obtain ⟨o, n', ho, hn', rfl, e1, _, hK⟩ := hA
  have e : n' = n + 1 := ((nI_eq (by omega) (by omega)).mp e1).symm
  subst e
  obtain ⟨c, g, num, q, h1, h2, h3, h4⟩ := hK n (by omega)
  obtain ⟨u', u1, u2⟩ := takeFrom_ok (v := now) h1.1 h3
  have loop : ∀ (d i fuel : Nat) (P : Nat → Int32), i + d = 56 → (∀ j, j < i → P j = past (56 * n + j)) → ∃ all', f9_back_l26 (d + fuel + 1) P past (nI n) refused (nI i) = some (nI n, all', nI n, refused) ∧ ∀ j, j < 56 → all' j = past (56 * n + j) := by
    intro d
    induction d with
    | zero =>
      intro i fuel P hi h1
      have e : i = 56 := by omega
      subst e
      rw [show 0 + fuel + 1 = fuel + 1 by omega, f9_back_l26_s, l_56, if_pos (nI_le (Nat.le_refl _) (by decide))]
      exact ⟨P, rfl, h1⟩
    | succ d ih =>
      intro i fuel P hi h1
      rw [show d + 1 + fuel + 1 = (d + fuel + 1) + 1 by omega, f9_back_l26_s, l_56, if_neg (nI_ge (by omega) (by decide)), pk_mul, nI_add, ard_ok (by omega) (by omega), ab_bind, awr_ok (by omega) (by omega), ab_bind, nI_1]
      refine ih (i + 1) fuel _ (by omega) (fun j hj => ?_)
      rw [ab_upd]
      by_cases e : j = i
      · rw [if_pos e, e]
      · rw [if_neg e]; exact h1 j (by omega)
  obtain ⟨fu, hf⟩ := kF 57 (by omega)
  have hf2 : kFUEL = 56 + fu + 1 := by omega
  obtain ⟨all', a1, a2⟩ := loop 56 0 fu all (by omega) (fun j hj => absurd hj (Nat.not_lt_zero _))
  refine ⟨u', all', ?_, ?_, ⟨c, g, num, q, h1, h2, u2, zRM_cong h1 (zlen_le h1.1 h2) a2 h4⟩, ⟨o, n, ho, by omega, rfl, rfl, rfl, fun k hk => hK k (by omega)⟩⟩
  · unfold f3_bringBack
    rw [l_0, if_neg (nI_ge (by omega) (by omega)), ab_dec, nI_add, l_5, pk_rem (by omega) (by decide) (by decide), aidx_ok (by omega) (by omega), ab_bind, u1, ab_bind]
  · rw [ab_dec, hf2]
    exact a1
