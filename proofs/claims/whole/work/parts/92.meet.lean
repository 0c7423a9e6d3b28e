/-! how far the threads can be at once -/
def zRe (c : Nat → Nat) (g : Nat → Nat → Nat → Nat) (a b d : Nat) : Prop := ∃ q, zok c g q ∧ zfr q 0 = a ∧ zfr q 1 = b ∧ zfr q 2 = d
theorem zable_cong {c : Nat → Nat} {g : Nat → Nat → Nat → Nat} {F F' : Nat → Nat} (h : ∀ t, t < 3 → F t = F' t) {t : Nat} (ht : t < 3) : zable c g F t = zable c g F' t := by
  unfold zable
  rw [h t ht, zhd_cong (far := F) (far' := F') (fun u hu => by rw [h u hu])]
def zpl (q : List Nat) : Nat := (zfr q 0 * 5 + zfr q 1) * 5 + zfr q 2
theorem zpl_eq {c : Nat → Nat} {g : Nat → Nat → Nat → Nat} (hs : zst c g) {q x : List Nat} (hq : zok c g q) (hx : zok c g x) (h : zpl x = zpl q) : ∀ t, t < 3 → zfr x t = zfr q t := by
  have a0 := zfr_le hq 0
  have a1 := zfr_le hq 1
  have a2 := zfr_le hq 2
  have b0 := zfr_le hx 0
  have b1 := zfr_le hx 1
  have b2 := zfr_le hx 2
  have c0 := (hs 0 (by omega)).1
  have c1 := (hs 1 (by omega)).1
  have c2 := (hs 2 (by omega)).1
  unfold zpl at h
  intro t ht
  have : t = 0 ∨ t = 1 ∨ t = 2 := by omega
  rcases this with rfl | rfl | rfl <;> omega
theorem zpl_lt {c : Nat → Nat} {g : Nat → Nat → Nat → Nat} (hs : zst c g) {q : List Nat} (hq : zok c g q) : zpl q < 125 := by
  have a0 := zfr_le hq 0
  have a1 := zfr_le hq 1
  have a2 := zfr_le hq 2
  have c0 := (hs 0 (by omega)).1
  have c1 := (hs 1 (by omega)).1
  have c2 := (hs 2 (by omega)).1
  unfold zpl
  omega
theorem zpl_next {c : Nat → Nat} {g : Nat → Nat → Nat → Nat} (hs : zst c g) {q x : List Nat} (hq : zok c g q) (hx : zok c g x) (h : zpl x = zpl q) {t : Nat} (hn : zok c g (t :: x)) : zok c g (t :: q) ∧ zpl (t :: q) = zpl (t :: x) := by
  have e := zpl_eq hs hq hx h
  have ht := hn.2.1
  refine ⟨⟨hq, ht, ?_⟩, ?_⟩
  · rw [← zable_cong e ht]; exact hn.2.2
  · unfold zpl
    rw [zfr_c, zfr_c, zfr_c, zfr_c, zfr_c, zfr_c, e 0 (by omega), e 1 (by omega), e 2 (by omega)]
theorem placeOf_ok {m : Int64} {F : Nat → Nat} (h : ∀ t, t < 3 → nib m t = F t) : f1_placeOf m = some (nI ((F 0 * 5 + F 1) * 5 + F 2)) := by
  have one : ∀ (n b t : Nat), t < 3 → f1_placeOf_l4 (n + 1) m (nI b) (nI t) = f1_placeOf_l4 n m (nI (b * 5 + F t)) (nI (t + 1)) := by
    intro n b t ht
    rw [f1_placeOf_l4_s, l_3, if_neg (nI_ge ht (by decide)), l_5, pk_mul, doneOf_nib ht, h t ht, nI_add, nI_1]
  unfold f1_placeOf
  rw [kF4]
  show f1_placeOf_l4 _ m (nI 0) (nI 0) = _
  rw [one _ _ 0 (by decide), one _ _ 1 (by decide), one _ _ 2 (by decide), f1_placeOf_l4_s, l_3, if_pos (nI_le (by decide) (by decide))]
  unfold f1_placeOf_b25
  congr 2
  omega
/-- what is next of a place is in V, for every way there -/
def zcl (c : Nat → Nat) (g : Nat → Nat → Nat → Nat) (V : Nat → Int32) (p : Nat) : Prop := ∀ x t, zok c g (t :: x) → zpl x = p → V (zpl (t :: x)) ≠ 0
theorem reach_ok {u : sT} {c : Nat → Nat} {g : Nat → Nat → Nat → Nat} {num : Nat → Nat} (hP : zPG c g num) (hC : zCS u c g) : ∀ (n : Nat) (q : List Nat) (V : Nat → Int32) (m : Int64) (k : Nat), zok c g q → q.length + n = c 0 + c 1 + c 2 → zMO m g num q →
    ∃ V', f1_reach (n + k + 1) V u m (nI q.length) = some V' ∧ (∀ p, V p ≠ 0 → V' p ≠ 0) ∧ V' (zpl q) ≠ 0 ∧ (∀ p, p < 125 → V' p ≠ 0 → V p ≠ 0 ∨ ∃ x, zok c g x ∧ zpl x = p) ∧ ∀ p, p < 125 → V' p ≠ 0 → V p = 0 → zcl c g V' p := by
  have hs := hP.1
  have hn := hP.2.1
  intro n
  induction n with
  | zero =>
    intro q V m k hq hlen hM
    have hl := zlen_le hs hq
    have hp := zpl_lt hs hq
    have hst := zstill_iff.mp (zfull hq (by omega))
    have hpo : f1_placeOf m = some (nI (zpl q)) := placeOf_ok hM.1
    rw [f1_reach_s, hpo, ab_bind, l_12, if_neg (nI_nlt (by omega) (by decide)), l_125, ab_below_in hp (by decide), if_neg i_1ne0, ard_ok hp (by omega), ab_bind]
    by_cases hv : V (zpl q) = 0
    · rw [if_pos hv, awr_ok hp (by omega), ab_bind, kF4]
      have one : ∀ (F t : Nat), t < 3 → f1_reach_l45 (f1_reach k) (F + 1) (upd V (zpl q) 1) u m (nI q.length) (nI t) = f1_reach_l45 (f1_reach k) F (upd V (zpl q) 1) u m (nI q.length) (nI (t + 1)) := by
        intro F t ht
        rw [f1_reach_l45_s, l_3, if_neg (nI_ge ht (by decide)), canDo_ok hs hC hM ht, ab_bind, hst t ht, bI_f, if_pos rfl]
        unfold f1_reach_b77
        rw [nI_1]
      refine ⟨upd V (zpl q) 1, ?_, fun p h => ?_, ?_, fun p _ h => ?_, fun p _ h h0 => ?_⟩
      · show f1_reach_l45 (f1_reach (0 + k)) _ _ u m _ (nI 0) = _
        rw [show 0 + k = k by omega, one _ 0 (by decide), one _ 1 (by decide), one _ 2 (by decide), f1_reach_l45_s, l_3, if_pos (nI_le (by decide) (by decide))]
      · rw [ab_upd]
        by_cases e : p = zpl q
        · rw [if_pos e]; decide
        · rw [if_neg e]; exact h
      · rw [ab_upd, if_pos rfl]; decide
      · rw [ab_upd] at h
        by_cases e : p = zpl q
        · exact Or.inr ⟨q, hq, e.symm⟩
        · rw [if_neg e] at h; exact Or.inl h
      · rw [ab_upd] at h
        by_cases e : p = zpl q
        · intro x t hx hxp
          have h1 := (zpl_next hs hq hx.1 (by rw [hxp, e]) hx).1
          have h2 := hst t h1.2.1
          rw [h1.2.2] at h2
          cases h2
        · rw [if_neg e] at h; exact absurd h0 h
    · rw [if_neg hv]
      exact ⟨V, rfl, fun p h => h, hv, fun p _ h => Or.inl h, fun p _ h h0 => absurd h0 h⟩
  | succ n ih =>
    intro q V m k hq hlen hM
    have hl := zlen_le hs hq
    have hp := zpl_lt hs hq
    have hpo : f1_placeOf m = some (nI (zpl q)) := placeOf_ok hM.1
    rw [f1_reach_s, hpo, ab_bind, l_12, if_neg (nI_nlt (by omega) (by decide)), l_125, ab_below_in hp (by decide), if_neg i_1ne0, ard_ok hp (by omega), ab_bind]
    by_cases hv : V (zpl q) = 0
    · rw [if_pos hv, awr_ok hp (by omega), ab_bind, kF4]
      /- one thread: what was so stays so, and its next place is reached -/
      have one : ∀ (F t : Nat) (W : Nat → Int32), t < 3 → ∃ W', f1_reach_l45 (f1_reach (n + k + 1)) (F + 1) W u m (nI q.length) (nI t) = f1_reach_l45 (f1_reach (n + k + 1)) F W' u m (nI q.length) (nI (t + 1)) ∧ (∀ p, W p ≠ 0 → W' p ≠ 0) ∧ (∀ p, p < 125 → W' p ≠ 0 → W p ≠ 0 ∨ ∃ x, zok c g x ∧ zpl x = p) ∧ (∀ p, p < 125 → W' p ≠ 0 → W p = 0 → zcl c g W' p) ∧ (zok c g (t :: q) → W' (zpl (t :: q)) ≠ 0) := by
        intro F t W ht
        rw [f1_reach_l45_s, l_3, if_neg (nI_ge ht (by decide)), canDo_ok hs hC hM ht, ab_bind]
        unfold f1_reach_b77
        cases ha : zable c g (zfr q) t with
        | false =>
          rw [bI_f, if_pos rfl, nI_1]
          refine ⟨W, rfl, fun p h => h, fun p _ h => Or.inl h, fun p _ h h0 => absurd h0 h, fun h => ?_⟩
          rw [h.2.2] at ha
          cases ha
        | true =>
          have hok : zok c g (t :: q) := ⟨hq, ht, ha⟩
          obtain ⟨m', m1, m2⟩ := stepDone_ok hs hn hC hM hok
          obtain ⟨W', w1, w2, w3, w4, w5⟩ := ih (t :: q) W m' k hok (by rw [List.length_cons]; omega) m2
          rw [bI_t, if_neg i_1ne0, m1, ab_bind, nI_1]
          rw [List.length_cons] at w1
          rw [w1, ab_bind, nI_1]
          exact ⟨W', rfl, w2, w4, w5, fun _ => w3⟩
      have clm : ∀ {W W' : Nat → Int32} {p : Nat}, (∀ p, W p ≠ 0 → W' p ≠ 0) → zcl c g W p → zcl c g W' p := fun hm h x t hx hxp => hm _ (h x t hx hxp)
      obtain ⟨W0, a1, a2, a3, a4, a5⟩ := one (999999996 + 1 + 1 + 1) 0 (upd V (zpl q) 1) (by omega)
      obtain ⟨W1, b1, b2, b3, b4, b5⟩ := one (999999996 + 1 + 1) 1 W0 (by omega)
      obtain ⟨W2, d1, d2, d3, d4, d5⟩ := one (999999996 + 1) 2 W1 (by omega)
      have hup : ∀ p, V p ≠ 0 → upd V (zpl q) 1 p ≠ 0 := by
        intro p h
        rw [ab_upd]
        by_cases e : p = zpl q
        · rw [if_pos e]; decide
        · rw [if_neg e]; exact h
      have hup2 : ∀ p, upd V (zpl q) 1 p ≠ 0 → V p ≠ 0 ∨ p = zpl q := by
        intro p h
        rw [ab_upd] at h
        by_cases e : p = zpl q
        · exact Or.inr e
        · rw [if_neg e] at h; exact Or.inl h
      refine ⟨W2, ?_, fun p h => d2 p (b2 p (a2 p (hup p h))), ?_, fun p hp2 h => ?_, fun p hp2 h h0 => ?_⟩
      · rw [show n + 1 + k = n + k + 1 by omega]
        refine Eq.trans a1 (Eq.trans b1 (Eq.trans d1 ?_))
        rw [f1_reach_l45_s, l_3, if_pos (nI_le (by decide) (by decide))]
      · refine d2 _ (b2 _ (a2 _ ?_))
        rw [ab_upd, if_pos rfl]
        decide
      · rcases d3 p hp2 h with h | h
        · rcases b3 p hp2 h with h | h
          · rcases a3 p hp2 h with h | h
            · rcases hup2 p h with h | h
              · exact Or.inl h
              · exact Or.inr ⟨q, hq, h.symm⟩
            · exact Or.inr h
          · exact Or.inr h
        · exact Or.inr h
      · by_cases h1 : W1 p = 0
        · exact d4 p hp2 h h1
        · by_cases h2 : W0 p = 0
          · exact clm d2 (b4 p hp2 h1 h2)
          · by_cases h3 : upd V (zpl q) 1 p = 0
            · exact clm d2 (clm b2 (a4 p hp2 h2 h3))
            · rcases hup2 p h3 with h4 | h4
              · exact absurd h0 h4
              · intro x t hx hxp
                obtain ⟨k1, k2⟩ := zpl_next hs hq hx.1 (by rw [hxp, h4]) hx
                rw [← k2]
                have ht := hx.2.1
                have e : t = 0 ∨ t = 1 ∨ t = 2 := by omega
                rcases e with rfl | rfl | rfl
                · exact d2 _ (b2 _ (a5 k1))
                · exact d2 _ (b5 k1)
                · exact d5 k1
    · rw [if_neg hv]
      exact ⟨V, rfl, fun p h => h, hv, fun p _ h => Or.inl h, fun p _ h h0 => absurd h0 h⟩
/-- the class's table of meetings -/
def zMT (c : Nat → Nat) (g : Nat → Nat → Nat → Nat) (V : Nat → Int32) : Prop := ∀ a b d, a < 5 → b < 5 → d < 5 → (V ((a * 5 + b) * 5 + d) ≠ 0 ↔ zRe c g a b d)
theorem meet_ok {u : sT} {c : Nat → Nat} {g : Nat → Nat → Nat → Nat} {num : Nat → Nat} (hP : zPG c g num) (hC : zCS u c g) (hB : zMO u.2.2.1 g num []) (V : Nat → Int32) : ∃ V', f1_goThrough V u = some V' ∧ zMT c g V' := by
  have hs := hP.1
  have h0 := (hs 0 (by omega)).1
  have h1 := (hs 1 (by omega)).1
  have h2 := (hs 2 (by omega)).1
  have loop : ∀ (d i fuel : Nat) (V : Nat → Int32), i + d = 125 → (∀ p, p < i → V p = 0) → ∃ V', f1_goThrough_l2 (d + fuel + 1) V u (nI i) = some V' ∧ zMT c g V' := by
    intro d
    induction d with
    | zero =>
      intro i fuel V hi hV
      have e : i = 125 := by omega
      subst e
      rw [show 0 + fuel + 1 = fuel + 1 by omega, f1_goThrough_l2_s, l_125, if_pos (nI_le (Nat.le_refl _) (by decide))]
      unfold f1_goThrough_b21 f5_beginning
      have hD : kDEEP = (c 0 + c 1 + c 2) + (15 - (c 0 + c 1 + c 2)) + 1 := by unfold kDEEP; omega
      obtain ⟨V', v1, v2, v3, v4, v5⟩ := reach_ok hP hC (c 0 + c 1 + c 2) [] V u.2.2.1 (15 - (c 0 + c 1 + c 2)) trivial (by simp) hB
      have v1' : f1_reach ((c 0 + c 1 + c 2) + (15 - (c 0 + c 1 + c 2)) + 1) V u u.2.2.1 0 = some V' := v1
      rw [hD, v1', ab_bind]
      refine ⟨V', rfl, fun a b d ha hb hd => ⟨fun h => ?_, fun h => ?_⟩⟩
      · have hlt : (a * 5 + b) * 5 + d < 125 := by omega
        rcases v4 _ hlt h with h | ⟨x, x1, x2⟩
        · exact absurd (hV _ hlt) h
        · have a0 := zfr_le x1 0
          have a1 := zfr_le x1 1
          have a2 := zfr_le x1 2
          unfold zpl at x2
          exact ⟨x, x1, by omega, by omega, by omega⟩
      · obtain ⟨q, q1, q2, q3, q4⟩ := h
        have all : ∀ q, zok c g q → V' (zpl q) ≠ 0 := by
          intro q
          induction q with
          | nil => intro _; exact v3
          | cons t x ihx =>
            intro hx
            have hlt := zpl_lt hs hx.1
            exact v5 (zpl x) hlt (ihx hx.1) (hV _ hlt) x t hx rfl
        have := all q q1
        unfold zpl at this
        rw [q2, q3, q4] at this
        exact this
    | succ d ih =>
      intro i fuel V hi hV
      rw [show d + 1 + fuel + 1 = (d + fuel + 1) + 1 by omega, f1_goThrough_l2_s, l_125, if_neg (nI_ge (by omega) (by decide)), awr_ok (by omega) (by omega), ab_bind, nI_1]
      refine ih (i + 1) fuel _ (by omega) (fun p hp => ?_)
      rw [ab_upd]
      by_cases e : p = i
      · rw [if_pos e]
      · rw [if_neg e]; exact hV p (by omega)
  obtain ⟨fu, hf⟩ := kF 126 (by omega)
  have hf2 : kFUEL = 125 + fu + 1 := by omega
  unfold f1_goThrough
  rw [hf2]
  exact loop 125 0 fu V (by omega) (fun p hp => by omega)
/-- a race: the third thread stands anywhere -/
def zF3 (t i u j n : Nat) : Nat → Nat := fun v => if v = u then j else if v = t then i else n
def zRA (c : Nat → Nat) (g : Nat → Nat → Nat → Nat) (t i u j : Nat) : Prop := zby g t i u j = true ∧ ∃ n, n < 5 ∧ zRe c g (zF3 t i u j n 0) (zF3 t i u j n 1) (zF3 t i u j n 2)
theorem zF3_lt {t i u j n : Nat} (hi : i < 5) (hj : j < 5) (hn : n < 5) (v : Nat) : zF3 t i u j n v < 5 := by
  unfold zF3
  by_cases a : v = u
  · rw [if_pos a]; exact hj
  · rw [if_neg a]
    by_cases b : v = t
    · rw [if_pos b]; exact hi
    · rw [if_neg b]; exact hn
theorem isRace_ok {w : sT} {c : Nat → Nat} {g : Nat → Nat → Nat → Nat} (hs : zst c g) (hC : zCS w c g) {V : Nat → Int32} (hV : zMT c g V) {t i u j : Nat} (ht : t < 3) (hi : i < c t) (hu : u < 3) (hj : j < c u) (hne : t ≠ u) :
    ∃ r, f1_isRace V w (nI t) (nI i) (nI u) (nI j) = some r ∧ (r = 0 ∨ r = 1) ∧ (r = 1 ↔ zRA c g t i u j) := by
  have h4 := (hs t ht).1
  have h4' := (hs u hu).1
  unfold f1_isRace
  rw [stepAt_in hs hC ht hi, ab_bind, stepAt_in hs hC hu hj, ab_bind, tiedByNumber_ok ((hs t ht).2 i hi) ((hs u hu).2 j hj)]
  cases hb : zby g t i u j with
  | false =>
    rw [bI_f, if_pos rfl]
    refine ⟨0, rfl, Or.inl rfl, fun h => absurd h (by decide), fun h => ?_⟩
    have := h.1
    rw [hb] at this
    cases this
  | true =>
    rw [bI_t, if_neg i_1ne0, l_3, pk_sub (by omega), pk_sub (by omega)]
    have hm : ∀ n, n < 5 → ∀ v, v < 3 → nib (f2_withDone (f2_withDone (f2_withDone 0 (nI t) (nI i)) (nI u) (nI j)) (nI (3 - t - u)) (nI n)) v = zF3 t i u j n v := by
      intro n hn v hv
      rw [withDone_nib (by omega) (by omega) (by omega), withDone_nib hu (by omega) (by omega), withDone_nib ht (by omega) (by omega), nib_0]
      unfold zF3
      by_cases a : v = u
      · rw [if_neg (by omega), if_pos a, if_pos a]
      · by_cases b : v = t
        · rw [if_neg (by omega), if_neg a, if_pos b, if_neg a, if_pos b]
        · rw [if_pos (by omega), if_neg a, if_neg b]
    have loop : ∀ (d n fuel : Nat), n + d = 5 → (∀ k, k < n → ¬ zRe c g (zF3 t i u j k 0) (zF3 t i u j k 1) (zF3 t i u j k 2)) →
        ∃ r, f1_isRace_l48 (d + fuel + 1) V w (nI (3 - t - u)) (f2_withDone (f2_withDone 0 (nI t) (nI i)) (nI u) (nI j)) (nI n) = some r ∧ (r = 0 ∨ r = 1) ∧ (r = 1 ↔ zRA c g t i u j) := by
      intro d
      induction d with
      | zero =>
        intro n fuel hn hk
        have e : n = 5 := by omega
        subst e
        rw [show 0 + fuel + 1 = fuel + 1 by omega, f1_isRace_l48_s, l_4, if_pos (nI_lt (by decide) (by decide))]
        refine ⟨0, rfl, Or.inl rfl, fun h => absurd h (by decide), fun h => ?_⟩
        obtain ⟨_, n, n1, n2⟩ := h
        exact absurd n2 (hk n n1)
      | succ d ih =>
        intro n fuel hn hk
        have hn5 : n < 5 := by omega
        have hlt : (zF3 t i u j n 0 * 5 + zF3 t i u j n 1) * 5 + zF3 t i u j n 2 < 125 := by
          have a := zF3_lt (t := t) (u := u) (show i < 5 by omega) (show j < 5 by omega) hn5 0
          have b := zF3_lt (t := t) (u := u) (show i < 5 by omega) (show j < 5 by omega) hn5 1
          have d := zF3_lt (t := t) (u := u) (show i < 5 by omega) (show j < 5 by omega) hn5 2
          omega
        have hiff := hV _ _ _ (zF3_lt (t := t) (u := u) (show i < 5 by omega) (show j < 5 by omega) hn5 0) (zF3_lt (t := t) (u := u) (show i < 5 by omega) (show j < 5 by omega) hn5 1) (zF3_lt (t := t) (u := u) (show i < 5 by omega) (show j < 5 by omega) hn5 2)
        rw [show d + 1 + fuel + 1 = (d + fuel + 1) + 1 by omega, f1_isRace_l48_s, l_4, if_neg (nI_nlt (by omega) (by decide)), placeOf_ok (hm n hn5), ab_bind, l_125, ab_below_in hlt (by decide), if_neg i_1ne0, ard_ok hlt (by omega), ab_bind]
        unfold f1_isRace_b90
        by_cases hv : V ((zF3 t i u j n 0 * 5 + zF3 t i u j n 1) * 5 + zF3 t i u j n 2) = 0
        · rw [if_pos hv, nI_1]
          refine ih (n + 1) fuel (by omega) (fun k hk2 => ?_)
          by_cases e : k = n
          · rw [e]; exact fun h => hiff.mpr h hv
          · exact hk k (by omega)
        · rw [if_neg hv]
          exact ⟨1, rfl, Or.inr rfl, fun _ => ⟨hb, n, hn5, hiff.mp hv⟩, fun _ => rfl⟩
    obtain ⟨fu, hf⟩ := kF 6 (by omega)
    have hf2 : kFUEL = 5 + fu + 1 := by omega
    rw [hf2]
    exact loop 5 0 fu (by omega) (fun k hk => absurd hk (Nat.not_lt_zero _))
/-! the same in the reference -/
def zmp (q : List Nat) : Nat := zfr q 0 + 5 * zfr q 1 + 25 * zfr q 2
def zMTm (c : Nat → Nat) (g : Nat → Nat → Nat → Nat) (V : Nat → Int32) : Prop := ∀ a b d, a < 5 → b < 5 → d < 5 → (V (a + 5 * b + 25 * d) ≠ 0 ↔ zRe c g a b d)
def zdg (k : Nat) : Nat → Nat := fun t => if t = 0 then k % 5 else if t = 1 then k / 5 % 5 else k / 25
theorem zmp_lt {c : Nat → Nat} {g : Nat → Nat → Nat → Nat} (hs : zst c g) {q : List Nat} (hq : zok c g q) : zmp q < 125 ∧ ∀ t, t < 3 → zdg (zmp q) t = zfr q t := by
  have a0 := zfr_le hq 0
  have a1 := zfr_le hq 1
  have a2 := zfr_le hq 2
  have c0 := (hs 0 (by omega)).1
  have c1 := (hs 1 (by omega)).1
  have c2 := (hs 2 (by omega)).1
  unfold zmp
  refine ⟨by omega, fun t ht => ?_⟩
  have e : t = 0 ∨ t = 1 ∨ t = 2 := by omega
  unfold zdg
  rcases e with rfl | rfl | rfl
  · rw [if_pos rfl]; omega
  · rw [if_neg (by omega), if_pos rfl]; omega
  · rw [if_neg (by omega), if_neg (by omega)]; omega
theorem spreads_ok {all : Nat → Int32} {c : Nat → Nat} {g : Nat → Nat → Nat → Nat} {num : Nat → Nat} {rn : List Nat} (hs : zst c g) (hR : zRM all c g num rn) (far V : Nat → Int32) : ∃ z, f9_spreads all far V = some z ∧ zMTm c g z.2 := by
  have h0 := (hs 0 (by omega)).1
  have h1 := (hs 1 (by omega)).1
  have h2 := (hs 2 (by omega)).1
  have hw : ∀ t, t < 3 → (if t = 0 then 1 else if t = 1 then 5 else 25) = 5 ^ t := by
    intro t ht
    have e : t = 0 ∨ t = 1 ∨ t = 2 := by omega
    rcases e with rfl | rfl | rfl <;> rfl
  /- what is reached can be reached; below i all that comes next is reached -/
  have fin : ∀ W : Nat → Int32, W 0 ≠ 0 → (∀ p, p < 125 → W p ≠ 0 → ∃ x, zok c g x ∧ zmp x = p) → (∀ p, p < 125 → W p ≠ 0 → ∀ x t, zok c g (t :: x) → zmp x = p → W (zmp (t :: x)) ≠ 0) → zMTm c g W := by
    intro W w0 ws wc a b d ha hb hd
    constructor
    · intro h
      obtain ⟨x, x1, x2⟩ := ws _ (by omega) h
      have a0 := zfr_le x1 0
      have a1 := zfr_le x1 1
      have a2 := zfr_le x1 2
      unfold zmp at x2
      exact ⟨x, x1, by omega, by omega, by omega⟩
    · rintro ⟨q, q1, q2, q3, q4⟩
      have all : ∀ q, zok c g q → W (zmp q) ≠ 0 := by
        intro q
        induction q with
        | nil => intro _; exact w0
        | cons t x ihx =>
          intro hx
          exact wc (zmp x) (zmp_lt hs hx.1).1 (ihx hx.1) x t hx rfl
      have := all q q1
      unfold zmp at this
      rw [q2, q3, q4] at this
      exact this
  have main : ∀ (d i fuel : Nat) (far W : Nat → Int32), i + d = 125 → W 0 ≠ 0 → (∀ p, p < 125 → W p ≠ 0 → ∃ x, zok c g x ∧ zmp x = p) → (∀ p, p < i → W p ≠ 0 → ∀ x t, zok c g (t :: x) → zmp x = p → W (zmp (t :: x)) ≠ 0) →
      ∃ z, f9_spreads_l31 (d + fuel + 1) all far W (nI i) = some z ∧ zMTm c g z.2 := by
    intro d
    induction d with
    | zero =>
      intro i fuel far W hi w0 ws wc
      have e : i = 125 := by omega
      subst e
      rw [show 0 + fuel + 1 = fuel + 1 by omega, f9_spreads_l31_s, l_125, if_pos (nI_le (Nat.le_refl _) (by decide))]
      exact ⟨_, rfl, fin W w0 ws wc⟩
    | succ d ih =>
      intro i fuel far W hi w0 ws wc
      have hi125 : i < 125 := by omega
      rw [show d + 1 + fuel + 1 = (d + fuel + 1) + 1 by omega, f9_spreads_l31_s, l_125, if_neg (nI_ge hi125 (by decide))]
      by_cases hv : W i = 0
      · rw [show kFUEL = 999999999 + 1 from rfl]
        show ∃ z, f9_spreads_l39 _ _ all far W (nI i) (nI 0) = some z ∧ _
        rw [f9_spreads_l39_s, l_3, if_neg (nI_ge (by decide) (by decide)), ard_ok hi125 (by omega), ab_bind, if_pos hv]
        unfold f9_spreads_b124
        rw [nI_1]
        refine ih (i + 1) fuel far W (by omega) w0 ws (fun p hp h => ?_)
        by_cases e : p = i
        · rw [e] at h; exact absurd hv h
        · exact wc p (by omega) h
      · obtain ⟨y, y1, y2⟩ := ws i hi125 hv
        have hdig := (zmp_lt hs y1).2
        rw [y2] at hdig
        /- one thread -/
        have one : ∀ (F t : Nat) (far W : Nat → Int32), t < 3 → W i ≠ 0 → (∀ p, p < 125 → W p ≠ 0 → ∃ x, zok c g x ∧ zmp x = p) →
            ∃ far' W', f9_spreads_l39 (f9_spreads_l31 (d + fuel + 1)) (F + 1) all far W (nI i) (nI t) = f9_spreads_l39 (f9_spreads_l31 (d + fuel + 1)) F all far' W' (nI i) (nI (t + 1)) ∧ (∀ p, W p ≠ 0 → W' p ≠ 0) ∧ (∀ p, p < 125 → W' p ≠ 0 → ∃ x, zok c g x ∧ zmp x = p) ∧ (∀ p, p ≤ i → W' p = W p) ∧ (zok c g (t :: y) → W' (zmp (t :: y)) ≠ 0) := by
          intro F t far W ht hv ws
          rw [f9_spreads_l39_s, l_3, if_neg (nI_ge ht (by decide)), ard_ok hi125 (by omega), ab_bind, if_neg hv, l_5, pk_rem (by omega) (by decide) (by decide), pk_div (by omega) (by decide) (by decide), pk_rem (by omega) (by decide) (by decide), l_25, pk_div (by omega) (by decide) (by decide)]
          have hFA : zFA (upd (upd (upd far 0 (nI (i % 5))) 1 (nI (i / 5 % 5))) 2 (nI (i / 25))) c (zdg i) := by
            intro v hv3
            rw [hdig v hv3]
            refine ⟨?_, zfr_le y1 v⟩
            rw [← hdig v hv3]
            have e : v = 0 ∨ v = 1 ∨ v = 2 := by omega
            rcases e with rfl | rfl | rfl <;> rfl
          rw [canDoM hs hR hFA ht, ab_bind, zable_cong hdig ht]
          unfold f9_spreads_b118 f9_spreads_b115 f9_spreads_b118
          cases ha : zable c g (zfr y) t with
          | false =>
            rw [bI_f, if_pos rfl, nI_1]
            refine ⟨_, W, rfl, fun p h => h, ws, fun p _ => rfl, fun h => ?_⟩
            rw [h.2.2] at ha
            cases ha
          | true =>
            have hok : zok c g (t :: y) := ⟨y1, ht, ha⟩
            have hmp : zmp (t :: y) = i + 5 ^ t := by
              rw [← y2]
              unfold zmp
              rw [zfr_c, zfr_c, zfr_c]
              have e : t = 0 ∨ t = 1 ∨ t = 2 := by omega
              rcases e with rfl | rfl | rfl
              · simp; omega
              · simp; omega
              · simp; omega
            have hlt := (zmp_lt hs hok).1
            rw [hmp] at hlt
            have key : ∃ far' W', ((awr W 125 (nI i + nI (5 ^ t)) 1).bind fun v1 => f9_spreads_l39 (f9_spreads_l31 (d + fuel + 1)) F all (upd (upd (upd far 0 (nI (i % 5))) 1 (nI (i / 5 % 5))) 2 (nI (i / 25))) v1 (nI i) (nI t + 1)) = f9_spreads_l39 (f9_spreads_l31 (d + fuel + 1)) F all far' W' (nI i) (nI (t + 1)) ∧ (∀ p, W p ≠ 0 → W' p ≠ 0) ∧ (∀ p, p < 125 → W' p ≠ 0 → ∃ x, zok c g x ∧ zmp x = p) ∧ (∀ p, p ≤ i → W' p = W p) ∧ (zok c g (t :: y) → W' (zmp (t :: y)) ≠ 0) := by
              have h5 : 0 < 5 ^ t := Nat.pow_pos (by decide)
              rw [nI_add, awr_ok hlt (by omega), ab_bind, nI_1]
              refine ⟨_, upd W (i + 5 ^ t) 1, rfl, fun p h => ?_, fun p hp h => ?_, fun p hp => ?_, fun _ => ?_⟩
              · rw [ab_upd]
                by_cases e : p = i + 5 ^ t
                · rw [if_pos e]; decide
                · rw [if_neg e]; exact h
              · rw [ab_upd] at h
                by_cases e : p = i + 5 ^ t
                · exact ⟨t :: y, hok, by rw [hmp, e]⟩
                · rw [if_neg e] at h; exact ws p hp h
              · rw [ab_upd, if_neg (by omega)]
              · rw [hmp, ab_upd, if_pos rfl]; decide
            rw [bI_t, if_neg i_1ne0]
            have e : t = 0 ∨ t = 1 ∨ t = 2 := by omega
            rcases e with rfl | rfl | rfl
            · rw [if_pos (show nI 0 = 0 from rfl)]; exact key
            · rw [if_neg (show ¬ nI 1 = 0 by decide), if_pos (show nI 1 = 1 from rfl)]; exact key
            · rw [if_neg (show ¬ nI 2 = 0 by decide), if_neg (show ¬ nI 2 = 1 by decide)]; exact key
        obtain ⟨f0, W0, a1, a2, a3, a4, a5⟩ := one (999999996 + 1 + 1 + 1) 0 far W (by omega) hv ws
        obtain ⟨f1, W1, b1, b2, b3, b4, b5⟩ := one (999999996 + 1 + 1) 1 f0 W0 (by omega) (by rw [a4 i (Nat.le_refl _)]; exact hv) a3
        obtain ⟨f2, W2, d1, d2, d3, d4, d5⟩ := one (999999996 + 1) 2 f1 W1 (by omega) (by rw [b4 i (Nat.le_refl _), a4 i (Nat.le_refl _)]; exact hv) b3
        obtain ⟨z, z1, z2⟩ := ih (i + 1) fuel f2 W2 (by omega) (d2 _ (b2 _ (a2 _ w0))) d3 (fun p hp h x t hx hxp => by
          by_cases e : p = i
          · subst e
            have hfr : ∀ v, v < 3 → zfr x v = zfr y v := by
              intro v hv3
              have e1 := (zmp_lt hs hx.1).2 v hv3
              rw [hxp] at e1
              rw [← e1, hdig v hv3]
            have ht := hx.2.1
            have hok : zok c g (t :: y) := ⟨y1, ht, by rw [← zable_cong hfr ht]; exact hx.2.2⟩
            have em : zmp (t :: x) = zmp (t :: y) := by
              unfold zmp
              rw [zfr_c, zfr_c, zfr_c, zfr_c, zfr_c, zfr_c, hfr 0 (by omega), hfr 1 (by omega), hfr 2 (by omega)]
            rw [em]
            have e3 : t = 0 ∨ t = 1 ∨ t = 2 := by omega
            rcases e3 with rfl | rfl | rfl
            · exact d2 _ (b2 _ (a5 hok))
            · exact d2 _ (b5 hok)
            · exact d5 hok
          · refine d2 _ (b2 _ (a2 _ (wc p (by omega) ?_ x t hx hxp)))
            rw [d4 p (by omega), b4 p (by omega), a4 p (by omega)] at h
            exact h)
        refine ⟨z, ?_, z2⟩
        rw [kF4]
        refine Eq.trans a1 (Eq.trans b1 (Eq.trans d1 ?_))
        rw [f9_spreads_l39_s, l_3, if_pos (nI_le (by decide) (by decide))]
        unfold f9_spreads_b124
        rw [nI_1]
        exact z1
  have init : ∀ (d i fuel : Nat) (W : Nat → Int32), i + d = 125 → (0 < i → W 0 ≠ 0) → (∀ p, p < i → p ≠ 0 → W p = 0) → ∃ z, f9_spreads_l2 (d + fuel + 1) all far W (nI i) = some z ∧ zMTm c g z.2 := by
    intro d
    induction d with
    | zero =>
      intro i fuel W hi w0 wn
      have e : i = 125 := by omega
      subst e
      rw [show 0 + fuel + 1 = fuel + 1 by omega, f9_spreads_l2_s, l_125, if_pos (nI_le (Nat.le_refl _) (by decide))]
      unfold f9_spreads_b29
      obtain ⟨fu, hf⟩ := kF 126 (by omega)
      have hf2 : kFUEL = 125 + fu + 1 := by omega
      rw [hf2]
      refine main 125 0 fu far W (by omega) (w0 (by omega)) (fun p hp h => ?_) (fun p hp => absurd hp (Nat.not_lt_zero _))
      by_cases e : p = 0
      · exact ⟨[], trivial, e.symm⟩
      · exact absurd (wn p hp e) h
    | succ d ih =>
      intro i fuel W hi w0 wn
      rw [show d + 1 + fuel + 1 = (d + fuel + 1) + 1 by omega, f9_spreads_l2_s, l_125, if_neg (nI_ge (by omega) (by decide))]
      unfold f9_spreads_b22
      have n1 : vp_nar .boolean 1 = 1 := by decide
      have n0 : vp_nar .boolean 0 = 0 := by decide
      rw [n1, n0, awr_ok (by omega) (by omega), ab_bind, awr_ok (by omega) (by omega), ab_bind, nI_1]
      by_cases e : i = 0
      · subst e
        rw [if_pos (show nI 0 = 0 from rfl)]
        exact ih 1 fuel _ (by omega) (fun _ => by rw [ab_upd, if_pos rfl]; decide) (fun p hp h => by omega)
      · rw [if_neg (nI_ne0 (by omega) (by omega))]
        refine ih (i + 1) fuel _ (by omega) (fun _ => by rw [ab_upd, if_neg (by omega)]; exact w0 (by omega)) (fun p hp h => ?_)
        rw [ab_upd]
        by_cases e2 : p = i
        · rw [if_pos e2]
        · rw [if_neg e2]; exact wn p (by omega) h
  unfold f9_spreads
  obtain ⟨fu, hf⟩ := kF 126 (by omega)
  have hf2 : kFUEL = 125 + fu + 1 := by omega
  rw [hf2]
  exact init 125 0 fu V (by omega) (fun h => by omega) (fun p hp => by omega)
