/-! races, counted -/
noncomputable def zrh (c : Nat → Nat) (g : Nat → Nat → Nat → Nat) (t i u j : Nat) : Nat := @ite Nat (zRA c g t i u j) (Classical.propDecidable _) 1 0
theorem zrh_of {c : Nat → Nat} {g : Nat → Nat → Nat → Nat} {t i u j : Nat} {r : Int32} (h : r = 0 ∨ r = 1) (h2 : r = 1 ↔ zRA c g t i u j) : r = nI (zrh c g t i u j) := by
  unfold zrh
  by_cases k : zRA c g t i u j
  · rw [@if_pos _ (Classical.propDecidable _) k]
    exact h2.mpr k
  · rw [@if_neg _ (Classical.propDecidable _) k]
    rcases h with h | h
    · exact h
    · exact absurd (h2.mp h) k
theorem zrh_le (c : Nat → Nat) (g : Nat → Nat → Nat → Nat) (t i u j : Nat) : zrh c g t i u j ≤ 1 := by
  unfold zrh
  by_cases k : zRA c g t i u j
  · rw [@if_pos _ (Classical.propDecidable _) k]; exact Nat.le_refl _
  · rw [@if_neg _ (Classical.propDecidable _) k]; exact Nat.zero_le _
def zS : Nat → (Nat → Nat) → Nat
  | 0, _ => 0
  | n + 1, f => zS n f + f n
theorem zS_s (n : Nat) (f : Nat → Nat) : zS (n + 1) f = zS n f + f n := rfl
theorem zS_cong {f h : Nat → Nat} : ∀ {n : Nat}, (∀ i, i < n → f i = h i) → zS n f = zS n h
  | 0, _ => rfl
  | n + 1, e => by rw [zS_s, zS_s, zS_cong (fun i hi => e i (by omega)), e n (by omega)]
theorem zS_le {f : Nat → Nat} {b : Nat} : ∀ {n : Nat}, (∀ i, i < n → f i ≤ b) → zS n f ≤ n * b
  | 0, _ => by rw [Nat.zero_mul]; exact Nat.le_refl _
  | n + 1, e => by
    have a := zS_le (n := n) (f := f) (b := b) (fun i hi => e i (by omega))
    have d := e n (by omega)
    rw [zS_s, Nat.succ_mul]
    omega
theorem zS_plus (f : Nat → Nat) (a : Nat) : ∀ b, zS (a + b) f = zS a f + zS b (fun j => f (a + j))
  | 0 => rfl
  | b + 1 => by
    show zS (a + b) f + f (a + b) = zS a f + (zS b (fun j => f (a + j)) + f (a + b))
    rw [zS_plus f a b]
    omega
theorem zS_mul (f : Nat → Nat) (b : Nat) : ∀ a, zS (a * b) f = zS a (fun i => zS b (fun j => f (i * b + j)))
  | 0 => by rw [Nat.zero_mul]; rfl
  | a + 1 => by
    rw [Nat.succ_mul, zS_plus, zS_mul f b a]
    rfl
theorem zS_guard {f : Nat → Nat} {n m : Nat} (h : n ≤ m) : zS n f = zS m (fun i => if i < n then f i else 0) := by
  obtain ⟨d, rfl⟩ := Nat.exists_eq_add_of_le h
  induction d with
  | zero => exact zS_cong (fun i hi => by rw [if_pos hi])
  | succ d ih =>
    show _ = zS (n + d) _ + (if n + d < n then f (n + d) else 0)
    rw [← ih (by omega), if_neg (by omega)]
    omega
/-! the class's count -/
theorem stepsOf_ok {u : sT} {c : Nat → Nat} {g : Nat → Nat → Nat → Nat} (hC : zCS u c g) {t : Nat} (ht : t < 3) : f5_stepsOf u (nI t) = some (nI (c t)) := by
  unfold f5_stepsOf
  rw [l_3, ab_below_in ht (by decide), if_neg i_1ne0, ard_ok ht (by omega), ab_bind, hC.1 t ht]
theorem isRace_n {w : sT} {c : Nat → Nat} {g : Nat → Nat → Nat → Nat} (hs : zst c g) (hC : zCS w c g) {V : Nat → Int32} (hV : zMT c g V) {t i u j : Nat} (ht : t < 3) (hi : i < c t) (hu : u < 3) (hj : j < c u) (hne : t ≠ u) : f1_isRace V w (nI t) (nI i) (nI u) (nI j) = some (nI (zrh c g t i u j)) := by
  obtain ⟨r, r1, r2, r3⟩ := isRace_ok hs hC hV ht hi hu hj hne
  rw [r1, zrh_of r2 r3]
theorem between_ok {w : sT} {c : Nat → Nat} {g : Nat → Nat → Nat → Nat} (hs : zst c g) (hC : zCS w c g) {V : Nat → Int32} (hV : zMT c g V) {t u : Nat} (ht : t < 3) (hu : u < 3) (hne : t ≠ u) : f8_racesBetween w V (nI t) (nI u) = some (nI (zS (c t) (fun i => zS (c u) (fun j => zrh c g t i u j)))) := by
  have h4 := (hs t ht).1
  have h4' := (hs u hu).1
  have inner : ∀ (kk : sT → (Nat → Int32) → Int32 → Int32 → Int32 → Int32 → Option Int32) (A i : Nat), i < c t → ∀ (d j fuel : Nat), j + d = c u → f8_racesBetween_l21 kk (d + fuel + 1) w V (nI t) (nI u) (nI (A + zS j (fun j => zrh c g t i u j))) (nI i) (nI j) = kk w V (nI t) (nI u) (nI (A + zS (c u) (fun j => zrh c g t i u j))) (nI (i + 1)) := by
    intro kk A i hi d
    induction d with
    | zero =>
      intro j fuel hj
      have e : j = c u := by omega
      subst e
      rw [show 0 + fuel + 1 = fuel + 1 by omega, f8_racesBetween_l21_s, stepsOf_ok hC hu, ab_bind, if_pos (nI_le (Nat.le_refl _) (by omega))]
      unfold f8_racesBetween_b63
      rw [nI_1]
    | succ d ih =>
      intro j fuel hj
      have hjc : j < c u := by omega
      have hr := zrh_le c g t i u j
      have hn := ih (j + 1) fuel (by omega)
      rw [show d + 1 + fuel + 1 = (d + fuel + 1) + 1 by omega, f8_racesBetween_l21_s, stepsOf_ok hC hu, ab_bind, if_neg (nI_ge hjc (by omega)), isRace_n hs hC hV ht hi hu hjc hne, ab_bind]
      unfold f8_racesBetween_b57
      rw [zS_s] at hn
      by_cases e : zrh c g t i u j = 0
      · rw [e, if_pos (show nI 0 = 0 from rfl), nI_1]
        rw [e, Nat.add_zero] at hn
        exact hn
      · have e1 : zrh c g t i u j = 1 := by omega
        rw [e1, if_neg (show ¬ nI 1 = 0 by decide), nI_1, l_1, nI_add, Nat.add_assoc]
        rw [e1] at hn
        exact hn
  have outer : ∀ (d i fuel : Nat), i + d = c t → f8_racesBetween_l5 (d + fuel + 1) w V (nI t) (nI u) (nI (zS i (fun i => zS (c u) (fun j => zrh c g t i u j)))) (nI i) = some (nI (zS (c t) (fun i => zS (c u) (fun j => zrh c g t i u j)))) := by
    intro d
    induction d with
    | zero =>
      intro i fuel hi
      have e : i = c t := by omega
      subst e
      rw [show 0 + fuel + 1 = fuel + 1 by omega, f8_racesBetween_l5_s, stepsOf_ok hC ht, ab_bind, if_pos (nI_le (Nat.le_refl _) (by omega))]
      rfl
    | succ d ih =>
      intro i fuel hi
      have hic : i < c t := by omega
      obtain ⟨fu, hf⟩ := kF (c u + 1) (by omega)
      have hf2 : kFUEL = c u + fu + 1 := by omega
      rw [show d + 1 + fuel + 1 = (d + fuel + 1) + 1 by omega, f8_racesBetween_l5_s, stepsOf_ok hC ht, ab_bind, if_neg (nI_ge hic (by omega)), hf2]
      have hin := inner (f8_racesBetween_l5 (d + fuel + 1)) (zS i (fun i => zS (c u) (fun j => zrh c g t i u j))) i hic (c u) 0 fu (by omega)
      exact Eq.trans hin (ih (i + 1) fuel (by omega))
  unfold f8_racesBetween
  obtain ⟨fu, hf⟩ := kF (c t + 1) (by omega)
  have hf2 : kFUEL = c t + fu + 1 := by omega
  rw [hf2]
  exact outer (c t) 0 fu (by omega)
noncomputable def zrs (c : Nat → Nat) (g : Nat → Nat → Nat → Nat) (t u : Nat) : Nat := zS (c t) (fun i => zS (c u) (fun j => zrh c g t i u j))
noncomputable def zraces (c : Nat → Nat) (g : Nat → Nat → Nat → Nat) : Nat := zrs c g 0 1 + zrs c g 0 2 + zrs c g 1 2
theorem races_ok {w : sT} {c : Nat → Nat} {g : Nat → Nat → Nat → Nat} {num : Nat → Nat} (hP : zPG c g num) (hC : zCS w c g) (hB : zMO w.2.2.1 g num []) (V : Nat → Int32) : ∃ V', f8_races w V = some (nI (zraces c g), V') := by
  have hs := hP.1
  obtain ⟨V', v1, v2⟩ := meet_ok hP hC hB V
  refine ⟨V', ?_⟩
  unfold f8_races
  rw [v1, ab_bind]
  have bt : ∀ (kk : sT → (Nat → Int32) → Int32 → Int32 → Option (Int32 × (Nat → Int32))) (F A t u : Nat), t < 3 → u < 3 → t ≠ u → f8_races_l24 kk (F + 1) w V' (nI A) (nI t) (nI u) = f8_races_l24 kk F w V' (nI (A + zrs c g t u)) (nI t) (nI (u + 1)) := by
    intro kk F A t u ht hu hne
    rw [f8_races_l24_s, l_3, if_neg (nI_ge hu (by decide)), between_ok hs hC v2 ht hu hne, ab_bind, nI_add, nI_1]
    rfl
  have en : ∀ (kk : sT → (Nat → Int32) → Int32 → Int32 → Option (Int32 × (Nat → Int32))) (F A t : Nat), f8_races_l24 kk (F + 1) w V' (nI A) (nI t) (nI 3) = kk w V' (nI A) (nI (t + 1)) := by
    intro kk F A t
    rw [f8_races_l24_s, l_3, if_pos (nI_le (Nat.le_refl _) (by decide))]
    unfold f8_races_b44
    rw [nI_1]
  have k0 : kFUEL = 999999995 + 1 + 1 + 1 + 1 + 1 := rfl
  show f8_races_l15 kFUEL w V' (nI 0) (nI 0) = _
  have o0 : ∀ (F A t : Nat), t < 3 → f8_races_l15 (F + 1) w V' (nI A) (nI t) = f8_races_l24 (f8_races_l15 F) kFUEL w V' (nI A) (nI t) (nI (t + 1)) := by
    intro F A t ht
    rw [f8_races_l15_s, l_3, if_neg (nI_ge ht (by decide)), nI_1]
  rw [show f8_races_l15 kFUEL = f8_races_l15 (999999995 + 1 + 1 + 1 + 1 + 1) from rfl]
  rw [o0 _ 0 0 (by omega), k0, bt _ _ 0 0 1 (by omega) (by omega) (by omega), bt _ _ _ 0 2 (by omega) (by omega) (by omega), en]
  rw [o0 _ _ 1 (by omega), k0, bt _ _ _ 1 2 (by omega) (by omega) (by omega), en]
  rw [o0 _ _ 2 (by omega), k0, en]
  rw [f8_races_l15_s, l_3, if_pos (nI_le (Nat.le_refl _) (by decide))]
  unfold f8_races_b50 zraces
  rw [Nat.zero_add]
/-! the reference's count -/
theorem in_lt (x : Int32) (n : Nat) (hn : n < 2 ^ 31) : f9_in x.toInt64 (0 : Int64) (nI n - 1).toInt64 = f8_below x (nI n) := by
  cases n with
  | zero =>
    rw [ab_dec0, ab_inM]
    unfold f8_below
    by_cases h : x < 0
    · rw [if_pos h]
    · rw [if_neg h, if_pos]
      show (0 : Int32) ≤ x
      rw [fa_lt] at h
      rw [fa_le]
      omega
  | succ n => rw [ab_dec, ab_in x n hn]
theorem isThread_ok (x : Int32) : f9_isThread x = f8_below x 3 := ab_in x 2 (by decide)
theorem isStep_x {all : Nat → Int32} {c : Nat → Nat} {g : Nat → Nat → Nat → Nat} {num : Nat → Nat} {q : List Nat} (hs : zst c g) (hR : zRM all c g num q) {t : Nat} (ht : t < 3) (x : Int32) : f9_isStep all (nI t) x = some (f8_below x (nI (c t))) := by
  have h4 := (hs t ht).1
  unfold f9_isStep
  rw [isThread_ok, l_3, ab_below_in ht (by decide), if_neg i_1ne0, many_ok hR ht, ab_bind, in_lt x _ (by omega)]
  rcases ab_below x (c t) (by omega) with ⟨j, _, _, h⟩ | h
  · rw [h, if_neg i_1ne0]
  · rw [h, if_pos rfl]
theorem isStep_n {all : Nat → Int32} {c : Nat → Nat} {g : Nat → Nat → Nat → Nat} {num : Nat → Nat} {q : List Nat} (hs : zst c g) (hR : zRM all c g num q) {t i : Nat} (ht : t < 3) (hi : i < 2 ^ 31) : f9_isStep all (nI t) (nI i) = some (bI (decide (i < c t))) := by
  have h4 := (hs t ht).1
  rw [isStep_x hs hR ht]
  unfold f8_below
  rw [if_neg (nI_pos hi)]
  by_cases h : i < c t
  · rw [if_neg (nI_ge h (by omega)), decide_eq_true h]; rfl
  · rw [if_pos (nI_le (by omega) hi), decide_eq_false h]; rfl
theorem isRaceM {all : Nat → Int32} {c : Nat → Nat} {g : Nat → Nat → Nat → Nat} {num : Nat → Nat} {rn : List Nat} (hs : zst c g) (hR : zRM all c g num rn) {V : Nat → Int32} (hV : zMTm c g V) (far : Nat → Int32) {t i u j : Nat} (ht : t < 3) (hi : i < c t) (hu : u < 3) (hj : j < c u) (hne : t ≠ u) :
    ∃ z, f9_isRace all far V (nI t) (nI i) (nI u) (nI j) = some z ∧ z.1 = nI (zrh c g t i u j) := by
  have h4 := (hs t ht).1
  have h4' := (hs u hu).1
  have hb := byNumber_ok hs hR ht hi hu hj
  have loop : ∀ (d n fuel : Nat) (far : Nat → Int32) (b : Bool), n + d = 5 → (b = true ↔ ∃ k, k < n ∧ zRe c g (zF3 t i u j k 0) (zF3 t i u j k 1) (zF3 t i u j k 2)) →
      ∃ z, f9_isRace_l6 (d + fuel + 1) all far V (nI t) (nI i) (nI u) (nI j) (bI b) (nI n) = some z ∧ z.1 = nI (zrh c g t i u j) := by
    intro d
    induction d with
    | zero =>
      intro n fuel far b hn hk
      have e : n = 5 := by omega
      subst e
      rw [show 0 + fuel + 1 = fuel + 1 by omega, f9_isRace_l6_s, l_5, if_pos (nI_le (Nat.le_refl _) (by decide))]
      unfold f9_isRace_b102
      cases b with
      | false =>
        rw [bI_f, if_pos rfl]
        refine ⟨_, rfl, zrh_of (Or.inl rfl) ⟨fun h => absurd (show (0 : Int32) = 1 from h) (by decide), fun h => ?_⟩⟩
        have := hk.mpr h.2
        cases this
      | true =>
        rw [bI_t, if_neg i_1ne0, hb, ab_bind]
        cases hz : zby g t i u j with
        | false =>
          rw [bI_f, if_pos rfl]
          refine ⟨_, rfl, zrh_of (Or.inl rfl) ⟨fun h => absurd (show (0 : Int32) = 1 from h) (by decide), fun h => ?_⟩⟩
          have := h.1
          rw [hz] at this
          cases this
        | true =>
          rw [bI_t, if_neg i_1ne0]
          exact ⟨_, rfl, zrh_of (Or.inr rfl) ⟨fun _ => ⟨hz, hk.mp rfl⟩, fun _ => rfl⟩⟩
    | succ d ih =>
      intro n fuel far b hn hk
      have hn5 : n < 5 := by omega
      have l0 := zF3_lt (t := t) (u := u) (show i < 5 by omega) (show j < 5 by omega) hn5 0
      have l1 := zF3_lt (t := t) (u := u) (show i < 5 by omega) (show j < 5 by omega) hn5 1
      have l2 := zF3_lt (t := t) (u := u) (show i < 5 by omega) (show j < 5 by omega) hn5 2
      rw [show d + 1 + fuel + 1 = (d + fuel + 1) + 1 by omega, f9_isRace_l6_s, l_5, if_neg (nI_ge hn5 (by decide)), awr_ok ht (by omega), ab_bind, awr_ok hu (by omega), ab_bind]
      have hF : ∀ v, v < 3 → upd (upd (upd (upd (upd far 0 (nI n)) 1 (nI n)) 2 (nI n)) t (nI i)) u (nI j) v = nI (zF3 t i u j n v) := by
        intro v hv
        unfold zF3
        rw [ab_upd]
        by_cases a : v = u
        · rw [if_pos a, if_pos a]
        · rw [if_neg a, if_neg a, ab_upd]
          by_cases b : v = t
          · rw [if_pos b, if_pos b]
          · rw [if_neg b, if_neg b]
            have e : v = 0 ∨ v = 1 ∨ v = 2 := by omega
            rcases e with rfl | rfl | rfl <;> rfl
      have hiff := hV _ _ _ l0 l1 l2
      have hstep : ∀ b', (b' = true ↔ (b = true ∨ zRe c g (zF3 t i u j n 0) (zF3 t i u j n 1) (zF3 t i u j n 2))) → (b' = true ↔ ∃ k, k < n + 1 ∧ zRe c g (zF3 t i u j k 0) (zF3 t i u j k 1) (zF3 t i u j k 2)) := by
        intro b' h
        rw [h, hk]
        constructor
        · rintro (⟨k, k1, k2⟩ | h)
          · exact ⟨k, by omega, k2⟩
          · exact ⟨n, by omega, h⟩
        · rintro ⟨k, k1, k2⟩
          by_cases e : k = n
          · rw [e] at k2; exact Or.inr k2
          · exact Or.inl ⟨k, by omega, k2⟩
      unfold f9_isRace_b89 f9_isRace_b94
      rw [nI_1]
      cases b with
      | true =>
        rw [bI_t, if_neg i_1ne0]
        exact ih (n + 1) fuel _ true (by omega) (hstep true ⟨fun _ => Or.inl rfl, fun _ => rfl⟩)
      | false =>
        rw [bI_f, if_pos rfl, hF 0 (by omega), hF 1 (by omega), hF 2 (by omega), pk_mul, l_25, pk_mul, nI_add, nI_add, ard_ok (by omega) (by omega), ab_bind]
        by_cases hv : V (zF3 t i u j n 0 + 5 * zF3 t i u j n 1 + 25 * zF3 t i u j n 2) = 0
        · rw [if_pos hv]
          exact ih (n + 1) fuel _ false (by omega) (hstep false ⟨fun h => (by cases h), fun h => by
            rcases h with h | h
            · exact h
            · exact absurd hv (hiff.mpr h)⟩)
        · rw [if_neg hv]
          exact ih (n + 1) fuel _ true (by omega) (hstep true ⟨fun _ => Or.inr (hiff.mp hv), fun _ => rfl⟩)
  unfold f9_isRace
  obtain ⟨fu, hf⟩ := kF 6 (by omega)
  have hf2 : kFUEL = 5 + fu + 1 := by omega
  rw [hf2]
  exact loop 5 0 fu far false (by omega) ⟨fun h => (by cases h), fun ⟨k, k1, _⟩ => absurd k1 (Nat.not_lt_zero _)⟩
noncomputable def zrE (c : Nat → Nat) (g : Nat → Nat → Nat → Nat) (t i u j : Nat) : Nat := if i < c t then (if j < c u then zrh c g t i u j else 0) else 0
noncomputable def zrK (c : Nat → Nat) (g : Nat → Nat → Nat → Nat) (k : Nat) : Nat := if k / 48 < k / 4 % 3 then zrE c g (k / 48) (k / 12 % 4) (k / 4 % 3) (k % 4) else 0
theorem zrs_E {c : Nat → Nat} {g : Nat → Nat → Nat → Nat} (hs : zst c g) {t u : Nat} (ht : t < 3) (hu : u < 3) : zrs c g t u = zS 4 (fun i => zS 4 (fun j => zrE c g t i u j)) := by
  unfold zrs
  rw [zS_guard (hs t ht).1]
  refine zS_cong (fun i _ => ?_)
  by_cases h : i < c t
  · rw [if_pos h, zS_guard (hs u hu).1]
    refine zS_cong (fun j _ => ?_)
    unfold zrE
    rw [if_pos h]
  · rw [if_neg h]
    have : ∀ n, zS n (fun j => zrE c g t i u j) = 0 := by
      intro n
      induction n with
      | zero => rfl
      | succ n ih =>
        rw [zS_s, ih]
        unfold zrE
        rw [if_neg h]
    exact (this 4).symm
theorem zrK_sum {c : Nat → Nat} {g : Nat → Nat → Nat → Nat} (hs : zst c g) : zS 144 (zrK c g) = zraces c g := by
  have e1 : zS 144 (zrK c g) = zS 3 (fun t => zS 4 (fun i => zS 3 (fun u => zS 4 (fun j => if t < u then zrE c g t i u j else 0)))) := by
    rw [show 144 = 3 * 48 from rfl, zS_mul]
    refine zS_cong (fun t ht => ?_)
    rw [show 48 = 4 * 12 from rfl, zS_mul]
    refine zS_cong (fun i hi => ?_)
    rw [show 12 = 3 * 4 from rfl, zS_mul]
    refine zS_cong (fun u hu => zS_cong (fun j hj => ?_))
    unfold zrK
    rw [show (t * (4 * (3 * 4)) + (i * (3 * 4) + (u * 4 + j))) / 48 = t by omega, show (t * (4 * (3 * 4)) + (i * (3 * 4) + (u * 4 + j))) / 12 % 4 = i by omega, show (t * (4 * (3 * 4)) + (i * (3 * 4) + (u * 4 + j))) / 4 % 3 = u by omega, show (t * (4 * (3 * 4)) + (i * (3 * 4) + (u * 4 + j))) % 4 = j by omega]
  rw [e1]
  unfold zraces
  rw [zrs_E hs (by omega) (by omega), zrs_E hs (by omega) (by omega), zrs_E hs (by omega) (by omega)]
  generalize zrE c g = E
  simp [zS]
  omega
theorem racesM_ok {all : Nat → Int32} {c : Nat → Nat} {g : Nat → Nat → Nat → Nat} {num : Nat → Nat} {rn : List Nat} (hs : zst c g) (hR : zRM all c g num rn) (far V : Nat → Int32) : ∃ z, f9_races all far V = some z ∧ z.1 = nI (zraces c g) := by
  obtain ⟨s, s1, s2⟩ := spreads_ok hs hR far V
  have hle : ∀ k, zrK c g k ≤ 1 := by
    intro k
    unfold zrK zrE
    by_cases a : k / 48 < k / 4 % 3
    · rw [if_pos a]
      by_cases b : k / 12 % 4 < c (k / 48)
      · rw [if_pos b]
        by_cases d : k % 4 < c (k / 4 % 3)
        · rw [if_pos d]; exact zrh_le _ _ _ _ _ _
        · rw [if_neg d]; omega
      · rw [if_neg b]; omega
    · rw [if_neg a]; omega
  have loop : ∀ (d k fuel : Nat) (far : Nat → Int32), k + d = 144 → ∃ z, f9_races_l8 (d + fuel + 1) all far s.2 (nI (zS k (zrK c g))) (nI k) = some z ∧ z.1 = nI (zS 144 (zrK c g)) := by
    intro d
    induction d with
    | zero =>
      intro k fuel far hk
      have e : k = 144 := by omega
      subst e
      rw [show 0 + fuel + 1 = fuel + 1 by omega, f9_races_l8_s, l_144, if_pos (nI_le (Nat.le_refl _) (by decide))]
      exact ⟨_, rfl, rfl⟩
    | succ d ih =>
      intro k fuel far hk
      have hk144 : k < 144 := by omega
      have c48 : (48 : Int32) = nI 48 := rfl
      have q48 : nI k / nI 48 = nI (k / 48) := pk_div (by omega) (by decide) (by decide)
      have q12 : nI k / nI 12 = nI (k / 12) := pk_div (by omega) (by decide) (by decide)
      have q4 : nI k / nI 4 = nI (k / 4) := pk_div (by omega) (by decide) (by decide)
      have e12 : nI (k / 12) - nI (k / 12) / nI 4 * nI 4 = nI (k / 12 % 4) := pk_rem (by omega) (by decide) (by decide)
      have e43 : nI (k / 4) - nI (k / 4) / nI 3 * nI 3 = nI (k / 4 % 3) := pk_rem (by omega) (by decide) (by decide)
      have e4 : nI k - nI (k / 4) * nI 4 = nI (k % 4) := by
        rw [← q4]
        exact pk_rem (by omega) (by decide) (by decide)
      rw [show d + 1 + fuel + 1 = (d + fuel + 1) + 1 by omega, f9_races_l8_s, l_144, if_neg (nI_ge hk144 (by decide)), l_4, l_3, c48, l_12, q48, q12, q4, e12, e43, e4]
      unfold f9_races_b86 f9_races_b87
      rw [nI_1, l_0, l_1, nI_add, nI_add, Nat.add_zero]
      have ht : k / 48 < 3 := by omega
      have hu : k / 4 % 3 < 3 := by omega
      have skip : zrK c g k = 0 → ∀ far, ∃ z, f9_races_l8 (d + fuel + 1) all far s.2 (nI (zS k (zrK c g))) (nI (k + 1)) = some z ∧ z.1 = nI (zS 144 (zrK c g)) := by
        intro h far
        have := ih (k + 1) fuel far (by omega)
        rw [zS_s, h, Nat.add_zero] at this
        exact this
      by_cases a : k / 48 < k / 4 % 3
      · rw [if_neg (nI_ge a (by omega)), isStep_n hs hR ht (by omega), ab_bind]
        by_cases b : k / 12 % 4 < c (k / 48)
        · rw [decide_eq_true b, bI_t, if_neg (show ¬ (1 : Int32) = nI 0 by decide), isStep_n hs hR hu (by omega), ab_bind]
          by_cases d2 : k % 4 < c (k / 4 % 3)
          · rw [decide_eq_true d2, bI_t, if_neg (show ¬ (1 : Int32) = nI 0 by decide)]
            obtain ⟨z, z1, z2⟩ := isRaceM hs hR s2 far ht b hu d2 (by omega)
            rw [z1, ab_bind, z2]
            have hK : zrK c g k = zrh c g (k / 48) (k / 12 % 4) (k / 4 % 3) (k % 4) := by
              unfold zrK zrE
              rw [if_pos a, if_pos b, if_pos d2]
            by_cases e : zrh c g (k / 48) (k / 12 % 4) (k / 4 % 3) (k % 4) = 0
            · rw [e, if_pos rfl]
              exact skip (by rw [hK, e]) _
            · have := zrh_le c g (k / 48) (k / 12 % 4) (k / 4 % 3) (k % 4)
              have e1 : zrh c g (k / 48) (k / 12 % 4) (k / 4 % 3) (k % 4) = 1 := by omega
              rw [e1, if_neg (show ¬ nI 1 = nI 0 by decide)]
              have hn := ih (k + 1) fuel z.2 (by omega)
              rw [zS_s, hK, e1] at hn
              exact hn
          · rw [decide_eq_false d2, bI_f, if_pos (show (0 : Int32) = nI 0 from rfl)]
            refine skip ?_ _
            unfold zrK zrE
            rw [if_pos a, if_pos b, if_neg d2]
        · rw [decide_eq_false b, bI_f, if_pos (show (0 : Int32) = nI 0 from rfl)]
          refine skip ?_ _
          unfold zrK zrE
          rw [if_pos a, if_neg b]
      · rw [if_pos (nI_le (by omega) (by omega))]
        refine skip ?_ _
        unfold zrK
        rw [if_neg a]
  unfold f9_races
  rw [s1, ab_bind]
  obtain ⟨fu, hf⟩ := kF 145 (by omega)
  have hf2 : kFUEL = 144 + fu + 1 := by omega
  rw [hf2]
  obtain ⟨z, z1, z2⟩ := loop 144 0 fu s.1 (by omega)
  exact ⟨z, z1, by rw [z2, zrK_sum hs]⟩
