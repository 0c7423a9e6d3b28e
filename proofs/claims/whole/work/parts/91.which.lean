/-! the reference's first order of the run's sort -/
def zth (q : List Nat) (k : Nat) : Nat := (q.reverse[k]?).getD 0
def zixr (q : List Nat) (k : Nat) : Nat := zfr (q.drop (q.length - k)) (zth q k)
theorem zth_ok {q a b : List Nat} {t : Nat} (h : q = a ++ t :: b) : zth q b.length = t ∧ zixr q b.length = zfr b t := by
  have h1 : zth q b.length = t := by
    unfold zth
    rw [h, List.reverse_append, List.reverse_cons, List.append_assoc, List.getElem?_append_right (by rw [List.length_reverse]; exact Nat.le_refl _), List.length_reverse, Nat.sub_self]
    rfl
  refine ⟨h1, ?_⟩
  unfold zixr
  rw [h1]
  have : q.drop (q.length - b.length) = b := by
    rw [h, show (a ++ t :: b).length - b.length = (a ++ [t]).length by rw [List.length_append, List.length_append, List.length_cons]; simp; omega, show a ++ t :: b = (a ++ [t]) ++ b by rw [List.append_assoc]; rfl, List.drop_left]
  rw [this]
theorem zsplit {q : List Nat} {k : Nat} (hk : k < q.length) : ∃ a t b, q = a ++ t :: b ∧ b.length = k := by
  refine ⟨q.take (q.length - k - 1), q[q.length - k - 1], q.drop (q.length - k - 1 + 1), ?_, ?_⟩
  · rw [List.getElem_cons_drop, List.take_append_drop]
  · rw [List.length_drop]; omega
theorem zth_split {c : Nat → Nat} {g : Nat → Nat → Nat → Nat} {q : List Nat} {k : Nat} (hq : zok c g q) (hk : k < q.length) : zth q k < 3 ∧ zixr q k < c (zth q k) := by
  obtain ⟨a, t, b, h1, h2⟩ := zsplit hk
  obtain ⟨h3, h4⟩ := zth_ok h1
  subst h2
  rw [h3, h4]
  have : zok c g (t :: b) := by rw [h1] at hq; exact zok_drop hq
  exact ⟨this.2.1, zable_lt this.2.2⟩
def zdq (g : Nat → Nat → Nat → Nat) (q : List Nat) (j k : Nat) : Bool := zdp g (zth q j) (zixr q j) (zth q k) (zixr q k)
theorem zIsN_mono {dp : Nat → Nat → Bool} {laid : Nat → Bool} {k j : Nat} (h : zIsN dp laid k j = false) : ∀ d, zIsN dp laid k (j + d) = false
  | 0 => h
  | d + 1 => by
    show (zIsN dp laid k (j + d) && _) = false
    rw [zIsN_mono h d]
    rfl
/-- the events' arrays -/
def zEA (all stepIn : Nat → Int32) (q : List Nat) : Prop := all 43 = nI q.length ∧ ∀ k, k < q.length → all (44 + k) = nI (zth q k) ∧ stepIn k = nI (zixr q k)
theorem isNext_ok {all stepIn laidA : Nat → Int32} {c : Nat → Nat} {g : Nat → Nat → Nat → Nat} {num : Nat → Nat} {q : List Nat} (hs : zst c g) (hR : zRM all c g num q) (hq : zok c g q) (hE : zEA all stepIn q) {laid : Nat → Bool} (hL : ∀ k, k < q.length → laidA k = bI (laid k)) {k : Nat} (hk : k < q.length) : f9_isNext all stepIn laidA (nI k) = some (bI (zIsN (zdq g q) laid k k)) := by
  have hl := zlen_le hs hq
  have loop : ∀ (d j fuel : Nat), j + d = k → f9_isNext_l17 (d + fuel + 1) all stepIn laidA (nI k) (bI (zIsN (zdq g q) laid k j)) (nI j) = some (bI (zIsN (zdq g q) laid k k)) := by
    intro d
    induction d with
    | zero =>
      intro j fuel hj
      have e : j = k := by omega
      subst e
      rw [show 0 + fuel + 1 = fuel + 1 by omega, f9_isNext_l17_s, if_pos (nI_le (Nat.le_refl _) (by omega))]
      rfl
    | succ d ih =>
      intro j fuel hj
      have hjk : j < k := by omega
      have hn := ih (j + 1) fuel (by omega)
      rw [show d + 1 + fuel + 1 = (d + fuel + 1) + 1 by omega, f9_isNext_l17_s, if_neg (nI_ge hjk (by omega))]
      cases hz : zIsN (zdq g q) laid k j with
      | false =>
        rw [bI_f, if_pos rfl]
        have := zIsN_mono hz (k - j)
        rw [show j + (k - j) = k by omega] at this
        rw [this]
        rfl
      | true =>
        have hz2 : zIsN (zdq g q) laid k (j + 1) = (laid j || !zdq g q j k) := by
          show (zIsN (zdq g q) laid k j && _) = _
          rw [hz, Bool.true_and]
        rw [hz2] at hn
        rw [bI_t, if_neg i_1ne0, ard_ok (by omega) (by omega), ab_bind, hL j (by omega)]
        unfold f9_isNext_b72 f9_isNext_b77
        cases hlj : laid j with
        | true =>
          rw [hlj, Bool.true_or] at hn
          rw [bI_t, if_neg i_1ne0, nI_1]
          exact hn
        | false =>
          rw [hlj, Bool.false_or] at hn
          have ej := hE.2 j (by omega)
          have ek := hE.2 k hk
          have sj := zth_split hq (show j < q.length by omega)
          have sk := zth_split hq hk
          rw [bI_f, if_pos rfl, l_44, nI_add, ard_ok (by omega) (by omega), ab_bind, ard_ok (by omega) (by omega), ab_bind, nI_add, ard_ok (by omega) (by omega), ab_bind, ard_ok (by omega) (by omega), ab_bind, ej.1, ej.2, ek.1, ek.2, areDependent_ok hs hR sj.1 sj.2 sk.1 sk.2, ab_bind]
          have hd : zdp g (zth q j) (zixr q j) (zth q k) (zixr q k) = zdq g q j k := rfl
          rw [hd]
          cases hdq : zdq g q j k with
          | true =>
            rw [hdq] at hn
            rw [bI_t, if_neg i_1ne0, nI_1]
            exact hn
          | false =>
            rw [hdq] at hn
            rw [bI_f, if_pos rfl, nI_1]
            exact hn
  unfold f9_isNext f9_isNext_b14
  obtain ⟨fu, hf⟩ := kF (k + 1) (by omega)
  have hf2 : kFUEL = k + fu + 1 := by omega
  rw [ard_ok (by omega) (by omega), ab_bind, hL k hk, hf2]
  have h0 := loop k 0 fu (by omega)
  have e0 : zIsN (zdq g q) laid k 0 = !laid k := rfl
  rw [e0] at h0
  cases hlk : laid k with
  | true =>
    rw [hlk] at h0
    rw [bI_t, if_neg i_1ne0]
    exact h0
  | false =>
    rw [hlk] at h0
    rw [bI_f, if_pos rfl]
    exact h0
def zbo (o : Option Nat) : Int32 := match o with
  | none => -1
  | some b => nI b
theorem pick_ok {all stepIn laidA far tries firstRow : Nat → Int32} {depth : Int32} {c : Nat → Nat} {g : Nat → Nat → Nat → Nat} {num : Nat → Nat} {q : List Nat} (hs : zst c g) (hR : zRM all c g num q) (hq : zok c g q) (hE : zEA all stepIn q) {laid : Nat → Bool} (hL : ∀ k, k < q.length → laidA k = bI (laid k))
    (kk : (Nat → Int32) → (Nat → Int32) → Int32 → (Nat → Int32) → (Nat → Int32) → (Nat → Int32) → (Nat → Int32) → Int32 → Int32 → Option ((Nat → Int32) × Int32 × (Nat → Int32) × (Nat → Int32) × (Nat → Int32) × (Nat → Int32))) (at1 : Int32) :
    ∀ (d k fuel : Nat), k + d = q.length → f9_laysFirst_l76 kk (d + fuel + 1) all far depth tries stepIn laidA firstRow (nI q.length) at1 (zbo (zbest (zth q) (zdq g q) laid k)) (nI k) = f9_laysFirst_b131 kk all far depth tries stepIn laidA firstRow (nI q.length) at1 (zbo (zbest (zth q) (zdq g q) laid q.length)) := by
  have hl := zlen_le hs hq
  intro d
  induction d with
  | zero =>
    intro k fuel hk
    have e : k = q.length := by omega
    subst e
    rw [show 0 + fuel + 1 = fuel + 1 by omega, f9_laysFirst_l76_s, if_pos (nI_le (Nat.le_refl _) (by omega))]
  | succ d ih =>
    intro k fuel hk
    have hkl : k < q.length := by omega
    have hn := ih (k + 1) fuel (by omega)
    rw [show d + 1 + fuel + 1 = (d + fuel + 1) + 1 by omega, f9_laysFirst_l76_s, if_neg (nI_ge hkl (by omega)), isNext_ok hs hR hq hE hL hkl, ab_bind]
    have hz : zbest (zth q) (zdq g q) laid (k + 1) = if zIsN (zdq g q) laid k k = true ∧ (∀ b, zbest (zth q) (zdq g q) laid k = some b → zth q k < zth q b) then some k else zbest (zth q) (zdq g q) laid k := rfl
    rw [hz] at hn
    unfold f9_laysFirst_b123 f9_laysFirst_b118 f9_laysFirst_b124
    cases hi : zIsN (zdq g q) laid k k with
    | false =>
      rw [if_neg (fun h => by rw [hi] at h; cases h.1)] at hn
      rw [bI_f, if_pos rfl, nI_1]
      exact hn
    | true =>
      rw [bI_t, if_neg i_1ne0]
      cases hb : zbest (zth q) (zdq g q) laid k with
      | none =>
        rw [if_pos ⟨hi, fun b h => by rw [hb] at h; cases h⟩] at hn
        rw [if_pos (show zbo none = -1 from rfl), nI_1]
        exact hn
      | some b =>
        have hbk := zbest_some hb
        have t1 := (zth_split hq hkl).1
        have t2 := (zth_split hq (show b < q.length by omega)).1
        have hne : ¬ zbo (some b) = -1 := ab_ne_m1 (show b < 2 ^ 31 by omega)
        rw [if_neg hne]
        show ((ard all 56 (44 + nI k)).bind fun v9 => (ard all 56 (44 + nI b)).bind fun v10 => _) = _
        rw [l_44, nI_add, ard_ok (by omega) (by omega), ab_bind, nI_add, ard_ok (by omega) (by omega), ab_bind, (hE.2 k hkl).1, (hE.2 b (by omega)).1, nI_1]
        by_cases hlt : zth q k < zth q b
        · rw [if_pos ⟨hi, fun b' h => by rw [hb] at h; have := Option.some.inj h; rw [← this]; exact hlt⟩] at hn
          rw [if_neg (nI_ge hlt (by omega))]
          exact hn
        · rw [if_neg (fun h => hlt (h.2 b hb)), hb] at hn
          rw [if_pos (nI_le (by omega) (by omega))]
          exact hn
theorem rounds_ok {all stepIn far tries : Nat → Int32} {depth : Int32} {c : Nat → Nat} {g : Nat → Nat → Nat → Nat} {num : Nat → Nat} {q : List Nat} (hs : zst c g) (hR : zRM all c g num q) (hq : zok c g q) (hE : zEA all stepIn q) : ∀ (ks pre : List Nat) (laid : Nat → Bool) (laidA firstRow : Nat → Int32) (fuel : Nat),
    pre.length + ks.length = q.length → zGR (zth q) (zdq g q) q.length laid ks → (∀ k, k < q.length → laidA k = bI (laid k)) → (∀ i t, pre[i]? = some t → firstRow i = nI t) →
      ∃ z, f9_laysFirst_l66 (ks.length + fuel + 1) all far depth tries stepIn laidA firstRow (nI q.length) (nI pre.length) = some z ∧ ∀ i t, (pre ++ ks.map (zth q))[i]? = some t → z.2.2.2.2.2 i = nI t := by
  have hl := zlen_le hs hq
  intro ks
  induction ks with
  | nil =>
    intro pre laid laidA firstRow fuel hlen _ _ hpre
    have e : pre.length = q.length := by simpa using hlen
    rw [show ([] : List Nat).length + fuel + 1 = fuel + 1 by simp, f9_laysFirst_l66_s, e, if_pos (nI_le (Nat.le_refl _) (by omega))]
    exact ⟨_, rfl, fun i t h => hpre i t (by simpa using h)⟩
  | cons k ks ih =>
    intro pre laid laidA firstRow fuel hlen hg hL hpre
    rw [List.length_cons] at hlen
    have hkq := zbest_some hg.1
    obtain ⟨fu, hf⟩ := kF (q.length + 1) (by omega)
    have hf2 : kFUEL = q.length + fu + 1 := by omega
    rw [show (k :: ks).length + fuel + 1 = (ks.length + fuel + 1) + 1 by rw [List.length_cons]; omega, f9_laysFirst_l66_s, if_neg (nI_ge (by omega) (by omega)), hf2]
    have hp := pick_ok (far := far) (tries := tries) (firstRow := firstRow) (depth := depth) hs hR hq hE hL (f9_laysFirst_l66 (ks.length + fuel + 1)) (nI pre.length) q.length 0 fu (by omega)
    have hp' : f9_laysFirst_l76 (f9_laysFirst_l66 (ks.length + fuel + 1)) (q.length + fu + 1) all far depth tries stepIn laidA firstRow (nI q.length) (nI pre.length) (-1) 0 = _ := hp
    rw [hp', hg.1]
    unfold f9_laysFirst_b131
    show ∃ z, ((awr laidA 12 (nI k) 1).bind fun v1 => (ard all 56 (44 + nI k)).bind fun v2 => _) = some z ∧ _
    rw [awr_ok (by omega) (by omega), ab_bind, l_44, nI_add, ard_ok (by omega) (by omega), ab_bind, (hE.2 k hkq.1).1, awr_ok (by omega) (by omega), ab_bind, nI_1]
    obtain ⟨z, z1, z2⟩ := ih (pre ++ [zth q k]) (zlay laid k) (upd laidA k 1) (upd firstRow pre.length (nI (zth q k))) fuel (by rw [List.length_append]; simp; omega) hg.2 (fun j hj => by
      rw [ab_upd]
      unfold zlay
      by_cases e : j = k
      · rw [if_pos e, if_pos e]; rfl
      · rw [if_neg e, if_neg e]; exact hL j hj) (fun i t h => by
      rw [ab_upd]
      by_cases e : i < pre.length
      · rw [if_neg (by omega)]
        rw [List.getElem?_append_left e] at h
        exact hpre i t h
      · rw [List.getElem?_append_right (by omega)] at h
        by_cases e2 : i = pre.length
        · rw [e2, Nat.sub_self] at h
          have : zth q k = t := by simpa using h
          rw [if_pos e2, this]
        · rw [List.getElem?_eq_none (by simp; omega)] at h
          cases h)
    rw [List.length_append] at z1
    refine ⟨z, z1, fun i t h => z2 i t ?_⟩
    rw [List.append_assoc]
    exact h
theorem laysFirst_ok {all : Nat → Int32} {c : Nat → Nat} {g : Nat → Nat → Nat → Nat} {num : Nat → Nat} {q : List Nat} (hs : zst c g) (hR : zRM all c g num q) (hq : zok c g q) (far : Nat → Int32) (depth : Int32) (tries stepIn laidA firstRow : Nat → Int32) :
    ∃ z, f9_laysFirst all far depth tries stepIn laidA firstRow = some z ∧ ∀ i t, (zF g q)[i]? = some t → z.2.2.2.2.2 i = nI t := by
  have hl := zlen_le hs hq
  have h43 := hR.2.2.2.1
  have h44 : ∀ k, k < q.length → all (44 + k) = nI (zth q k) := by
    intro k hk
    obtain ⟨a, t, b, h1, h2⟩ := zsplit hk
    have := hR.2.2.2.2 a t b h1
    rw [h2] at this
    rw [this]
    have := (zth_ok h1).1
    rw [h2] at this
    rw [this]
  obtain ⟨ks, g1, g2, g3⟩ := zGR_F (g := g) (th := zth q) (ix := zixr q) (dp := zdq g q) q (fun k hk => by
    obtain ⟨a, t, b, h1, h2⟩ := zsplit hk
    have := zth_ok h1
    rw [h2] at this
    exact ⟨a, t, b, h1, h2, this.1, this.2⟩) (fun j k _ _ => rfl)
  have hks : ks.length = q.length := by
    have := congrArg List.length g3
    rw [List.length_map, zF_len] at this
    exact this
  have loop : ∀ (r y : List Nat) (fuel : Nat) (far : Nat → Int32) (depth : Int32) (tries stepIn laidA : Nat → Int32), q = r.reverse ++ y → (∀ t, t < 3 → far t = nI (zfr y t)) → (∀ k, k < y.length → stepIn k = nI (zixr q k) ∧ laidA k = 0) →
      ∃ z, f9_laysFirst_l14 (r.length + fuel + 1) all far depth tries stepIn laidA firstRow (nI q.length) (nI y.length) = some z ∧ ∀ i t, (zF g q)[i]? = some t → z.2.2.2.2.2 i = nI t := by
    intro r
    induction r with
    | nil =>
      intro y fuel far depth tries stepIn laidA e hf hk
      have e' : q = y := e
      subst e'
      rw [show ([] : List Nat).length + fuel + 1 = fuel + 1 by simp, f9_laysFirst_l14_s, if_pos (nI_le (Nat.le_refl _) (by omega))]
      unfold f9_laysFirst_b64
      obtain ⟨fu, hfu⟩ := kF (q.length + 1) (by omega)
      have hf2 : kFUEL = ks.length + fu + 1 := by omega
      rw [hf2]
      obtain ⟨z, z1, z2⟩ := rounds_ok (far := far) (tries := tries) (depth := depth) hs hR hq ⟨h43, fun k hk2 => ⟨h44 k hk2, (hk k hk2).1⟩⟩ ks [] (fun _ => false) laidA firstRow fu (by simpa using hks) g1 (fun k hk2 => (hk k hk2).2) (fun i t h => by simp at h)
      refine ⟨z, z1, fun i t h => z2 i t ?_⟩
      rw [List.nil_append, g3]
      exact h
    | cons t r ih =>
      intro y fuel far depth tries stepIn laidA e hf hk
      have e' : q = r.reverse ++ t :: y := by rw [e, List.reverse_cons, List.append_assoc]; rfl
      have hlen : q.length = r.length + (y.length + 1) := by rw [e', List.length_append, List.length_reverse, List.length_cons]
      have hok : zok c g (t :: y) := by
        have := hq
        rw [e'] at this
        exact zok_drop this
      have ht := hok.2.1
      have hth := zth_ok e'
      have hlt := zable_lt hok.2.2
      have h4 := (hs t ht).1
      rw [show (t :: r).length + fuel + 1 = (r.length + fuel + 1) + 1 by rw [List.length_cons]; omega, f9_laysFirst_l14_s, if_neg (nI_ge (by omega) (by omega)), l_44, nI_add, ard_ok (by omega) (by omega), ab_bind, h44 _ (by omega), hth.1, ard_ok ht (by omega), ab_bind, hf t ht, awr_ok (by omega) (by omega), ab_bind, ab_bind, nI_1, awr_ok ht (by omega), ab_bind, awr_ok (by omega) (by omega), ab_bind, nI_1]
      refine ih (t :: y) fuel _ depth tries _ _ e' (fun u hu => ?_) (fun k hk2 => ?_)
      · rw [ab_upd]
        by_cases eu : u = t
        · rw [if_pos eu, eu, zfr_same]
        · rw [if_neg eu, hf u hu, zfr_other y eu]
      · rw [List.length_cons] at hk2
        rw [ab_upd, ab_upd]
        by_cases ek : k = y.length
        · rw [if_pos ek, if_pos ek, ek, hth.2]
          exact ⟨rfl, rfl⟩
        · rw [if_neg ek, if_neg ek]
          exact hk k (by omega)
  unfold f9_laysFirst f9_starts
  rw [ab_bind, h43]
  obtain ⟨fu, hf⟩ := kF (q.length + 1) (by omega)
  have hf2 : kFUEL = q.reverse.length + fu + 1 := by rw [List.length_reverse]; omega
  rw [hf2]
  refine loop q.reverse [] fu _ _ _ _ _ (by simp) (fun t ht => ?_) (fun k hk => by simp at hk)
  have : t = 0 ∨ t = 1 ∨ t = 2 := by omega
  rcases this with rfl | rfl | rfl <;> rfl
/-! which sort the run is of -/
theorem like_ok {all far row stepAt tries values stepIn laid firstRow : Nat → Int32} {depth wrong : Int32} {x w : List Nat} (hQ : zFQ far row stepAt depth x) (hl : x.length ≤ 12) (h3 : ∀ u, u ∈ x → u < 3) (hw3 : ∀ u, u ∈ w → u < 3) (hw : w.length = x.length) (hF : ∀ i t, w[i]? = some t → firstRow i = nI t)
    (kk : (Nat → Int32) → (Nat → Int32) → (Nat → Int32) → (Nat → Int32) → Int32 → (Nat → Int32) → (Nat → Int32) → Int32 → (Nat → Int32) → (Nat → Int32) → (Nat → Int32) → Int32 → Option (Int32 × (Nat → Int32) × (Nat → Int32) × (Nat → Int32) × Int32 × (Nat → Int32) × (Nat → Int32) × Int32 × (Nat → Int32) × (Nat → Int32) × (Nat → Int32))) (n : Nat) :
    ∀ (d i fuel : Nat) (b : Bool), i + d = x.length → (b = true ↔ x.reverse.take i = w.take i) →
      f9_which_l52 kk (d + fuel + 1) all far row stepAt depth tries values wrong stepIn laid firstRow (nI n) (bI b) (nI i) = if x.reverse = w then f9_which_b95 all far row stepAt depth tries values wrong stepIn laid firstRow (nI n) else kk all far row stepAt depth tries values wrong stepIn laid firstRow (nI (n + 1)) := by
  have b91 : ∀ b : Bool, f9_which_b91 kk all far row stepAt depth tries values wrong stepIn laid firstRow (nI n) (bI b) = if b = true then f9_which_b95 all far row stepAt depth tries values wrong stepIn laid firstRow (nI n) else kk all far row stepAt depth tries values wrong stepIn laid firstRow (nI (n + 1)) := by
    intro b
    unfold f9_which_b91
    cases b with
    | true => rw [bI_t, if_neg i_1ne0, if_pos rfl]
    | false => rw [bI_f, if_pos rfl, if_neg (by decide), nI_1]
  intro d
  induction d with
  | zero =>
    intro i fuel b hi hb
    have e : i = x.length := by omega
    rw [show 0 + fuel + 1 = fuel + 1 by omega, f9_which_l52_s, hQ.2.1, e, if_pos (nI_le (Nat.le_refl _) (by omega)), ← hQ.2.1, b91]
    have e1 : x.reverse.take i = x.reverse := List.take_of_length_le (by rw [List.length_reverse]; omega)
    have e2 : w.take i = w := List.take_of_length_le (by omega)
    rw [e1, e2] at hb
    by_cases h : x.reverse = w
    · rw [if_pos h, if_pos (hb.mpr h)]
    · rw [if_neg h, if_neg (fun k => h (hb.mp k))]
  | succ d ih =>
    intro i fuel b hi hb
    have hix : i < x.length := by omega
    rw [show d + 1 + fuel + 1 = (d + fuel + 1) + 1 by omega, f9_which_l52_s, hQ.2.1, if_neg (nI_ge hix (by omega)), ← hQ.2.1]
    cases b with
    | false =>
      rw [bI_f, if_pos rfl]
      have := b91 false
      rw [bI_f] at this
      rw [this, if_neg (by decide), if_neg]
      intro h
      rw [h] at hb
      exact absurd (hb.mpr rfl) (by decide)
    | true =>
      have hb' := hb.mp rfl
      obtain ⟨p, t, y, h1, h2⟩ := zsplit hix
      have hrow := (hQ.2.2 p t y h1).1
      rw [h2] at hrow
      have hxi : x.reverse[i]? = some t := by
        rw [h1, List.reverse_append, List.reverse_cons, List.append_assoc, List.getElem?_append_right (by rw [List.length_reverse]; omega), List.length_reverse, h2, Nat.sub_self]
        rfl
      have hwi : w[i]? = some w[i] := List.getElem?_eq_getElem (by omega)
      have ht3 : t < 3 := h3 t (by rw [h1]; exact List.mem_append_right _ List.mem_cons_self)
      have hw3' : w[i] < 3 := hw3 _ (List.getElem_mem _)
      have tk : x.reverse.take (i + 1) = w.take (i + 1) ↔ t = w[i] := by
        rw [List.take_add_one, List.take_add_one, hxi, hwi, hb']
        constructor
        · intro h
          have := List.append_cancel_left h
          simpa using this
        · intro h
          rw [h]
      rw [bI_t, if_neg i_1ne0, ard_ok (by omega) (by omega), ab_bind, ard_ok (by omega) (by omega), ab_bind, hrow, hF i _ hwi]
      unfold f9_which_b84
      by_cases e : t = w[i]
      · rw [if_pos (by rw [← e]), nI_1]
        exact ih (i + 1) fuel true (by omega) ⟨fun _ => tk.mpr e, fun _ => rfl⟩
      · rw [if_neg (fun k => e ((nI_eq (by omega) (by omega)).mp k)), nI_1]
        exact ih (i + 1) fuel false (by omega) ⟨fun h => (by cases h), fun h => absurd (tk.mp h) e⟩
theorem whichM_ok {all : Nat → Int32} {c : Nat → Nat} {g : Nat → Nat → Nat → Nat} {num : Nat → Nat} {q : List Nat} (hP : zPG c g num) (hR : zRM all c g num q) (hq : zok c g q) (far row stepAt : Nat → Int32) (depth : Int32) (tries values : Nat → Int32) (wrong : Int32) (stepIn laid firstRow : Nat → Int32) :
    ∃ z, f9_which all far row stepAt depth tries values wrong stepIn laid firstRow = some z ∧ ((zstill c g q = false ∧ z.1 = -1) ∨ (zstill c g q = true ∧ ((∃ k, z.1 = nI k ∧ (zAll c g)[k]? = some (zF g q).reverse) ∨ (z.1 = -1 ∧ (zF g q).reverse ∉ zAll c g)))) := by
  have hs := hP.1
  have hN := zAll_len hP
  have hl := zlen_le hs hq
  obtain ⟨r, r1, r2, r3⟩ := goesRun_ok hP hR hq far depth tries values wrong
  have hFA : zFA r.1 c (zfr q) := fun t ht => ⟨r2 t ht, zfr_le hq t⟩
  unfold f9_which
  rw [r1, ab_bind, isStill_ok hs hR hFA, ab_bind]
  have hst : zstill c g q = (!zable c g (zfr q) 0 && (!zable c g (zfr q) 1 && !zable c g (zfr q) 2)) := rfl
  rw [← hst]
  cases hz : zstill c g q with
  | false =>
    rw [bI_f, if_pos rfl]
    exact ⟨_, rfl, Or.inl ⟨rfl, rfl⟩⟩
  | true =>
    rw [bI_t, if_neg i_1ne0]
    obtain ⟨w, w1, w2⟩ := laysFirst_ok hs hR hq r.1 r.2.1 r.2.2.1 stepIn laid firstRow
    rw [w1, ab_bind]
    obtain ⟨s, s1, tr, s2, s3, s4⟩ := starts_ok hs w.1 row stepAt w.2.1 w.2.2.1
    rw [s1, ab_bind]
    have hFlen : (zF g q).length = q.length := zF_len g q
    have hF3 : ∀ u, u ∈ zF g q → u < 3 := fun u hu => zmem hq u ((zF_mem g u q).mp hu)
    have loop : ∀ (xs : List (List Nat)) (n : Nat) (y : List Nat) (tr : Nat → Nat) (fuel : Nat) (far row stepAt : Nat → Int32) (depth : Int32) (tries : Nat → Int32),
        zGS c g far row stepAt depth tries y tr → zrest c g (c 0 + c 1 + c 2) tr y = xs → zph (c 0 + c 1 + c 2) tr y < kFUEL → n + xs.length < 2 ^ 31 → (∀ x, x ∈ xs → zok c g x) →
          ∃ z, f9_which_l23 (xs.length + fuel + 1) all far row stepAt depth tries r.2.2.2.1 r.2.2.2.2 w.2.2.2.1 w.2.2.2.2.1 w.2.2.2.2.2 (nI n) = some z ∧ ((∃ k, z.1 = nI (n + k) ∧ xs[k]? = some (zF g q).reverse) ∨ (z.1 = -1 ∧ (zF g q).reverse ∉ xs)) := by
      intro xs
      induction xs with
      | nil =>
        intro n y tr fuel far row stepAt depth tries hG hr hph hb hm
        obtain ⟨z, z1, z2⟩ := goesOn_ok hs hR kFUEL far row stepAt depth tries y tr hG hph
        rw [show ([] : List (List Nat)).length + fuel + 1 = fuel + 1 by simp, f9_which_l23_s]
        unfold f9_goesOn
        rw [z1, ab_bind]
        rcases z2 with ⟨_, z2⟩ | ⟨x, xs, tr', a1, _⟩
        · rw [if_pos z2]
          exact ⟨_, rfl, Or.inr ⟨rfl, fun h => by cases h⟩⟩
        · rw [hr] at a1; cases a1
      | cons x xs ih =>
        intro n y tr fuel far row stepAt depth tries hG hr hph hb hm
        rw [List.length_cons] at hb
        obtain ⟨z, z1, z2⟩ := goesOn_ok hs hR kFUEL far row stepAt depth tries y tr hG hph
        rw [show (x :: xs).length + fuel + 1 = (xs.length + fuel + 1) + 1 by rw [List.length_cons]; omega, f9_which_l23_s]
        unfold f9_goesOn
        rw [z1, ab_bind]
        rcases z2 with ⟨a1, _⟩ | ⟨x', xs', tr', a1, a2, a3, a4, a5⟩
        · rw [hr] at a1; cases a1
        · rw [hr] at a1
          injection a1 with e1 e2
          subst e1
          subst e2
          have hxl := zlen_le hs a3.1
          have hx3 := zmem a3.1
          have hdep := a3.2.1.2.1
          rw [a2, if_neg i_1ne0, hR.2.2.2.1, hdep]
          have next : ∃ z', f9_which_l23 (xs.length + fuel + 1) all z.2.1 z.2.2.1 z.2.2.2.1 z.2.2.2.2.1 z.2.2.2.2.2 r.2.2.2.1 r.2.2.2.2 w.2.2.2.1 w.2.2.2.2.1 w.2.2.2.2.2 (nI (n + 1)) = some z' ∧ ((∃ k, z'.1 = nI (n + 1 + k) ∧ xs[k]? = some (zF g q).reverse) ∨ (z'.1 = -1 ∧ (zF g q).reverse ∉ xs)) := ih (n + 1) x tr' fuel _ _ _ _ _ a3 a4 (by omega) (by omega) (fun v hv => hm v (List.mem_cons_of_mem _ hv))
          have skip : x ≠ (zF g q).reverse → ∀ z' : Int32 × (Nat → Int32) × (Nat → Int32) × (Nat → Int32) × Int32 × (Nat → Int32) × (Nat → Int32) × Int32 × (Nat → Int32) × (Nat → Int32) × (Nat → Int32), ((∃ k, z'.1 = nI (n + 1 + k) ∧ xs[k]? = some (zF g q).reverse) ∨ (z'.1 = -1 ∧ (zF g q).reverse ∉ xs)) → ((∃ k, z'.1 = nI (n + k) ∧ (x :: xs)[k]? = some (zF g q).reverse) ∨ (z'.1 = -1 ∧ (zF g q).reverse ∉ x :: xs)) := by
            intro hne z' h
            rcases h with ⟨k, k1, k2⟩ | ⟨k1, k2⟩
            · exact Or.inl ⟨k + 1, by rw [k1]; congr 1; omega, by rw [List.getElem?_cons_succ]; exact k2⟩
            · refine Or.inr ⟨k1, fun h => ?_⟩
              rcases List.mem_cons.mp h with e | e
              · exact hne e.symm
              · exact k2 e
          unfold f9_which_b49
          obtain ⟨fu, hfu⟩ := kF (x.length + 1) (by omega)
          have hf2 : kFUEL = x.length + fu + 1 := by omega
          by_cases el : x.length = q.length
          · rw [if_pos (by rw [el]), hf2, ← hdep]
            have hlk := like_ok (all := all) (tries := z.2.2.2.2.2) (values := r.2.2.2.1) (wrong := r.2.2.2.2) (stepIn := w.2.2.2.1) (laid := w.2.2.2.2.1) a3.2.1 hxl hx3 hF3 (by omega) w2 (f9_which_l23 (xs.length + fuel + 1)) n x.length 0 fu true (by omega) ⟨fun _ => rfl, fun _ => rfl⟩
            have hlk' : f9_which_l52 (f9_which_l23 (xs.length + fuel + 1)) (x.length + fu + 1) all z.2.1 z.2.2.1 z.2.2.2.1 z.2.2.2.2.1 z.2.2.2.2.2 r.2.2.2.1 r.2.2.2.2 w.2.2.2.1 w.2.2.2.2.1 w.2.2.2.2.2 (nI n) 1 0 = _ := hlk
            rw [hlk']
            by_cases ex : x.reverse = zF g q
            · rw [if_pos ex]
              refine ⟨_, rfl, Or.inl ⟨0, rfl, ?_⟩⟩
              rw [← ex, List.reverse_reverse]
              rfl
            · rw [if_neg ex]
              obtain ⟨z', n1, n2⟩ := next
              exact ⟨z', n1, skip (fun h => ex (by rw [h, List.reverse_reverse])) z' n2⟩
          · have hq12 : q.length ≤ 12 := hl
            rw [if_neg (fun k => el ((nI_eq (by omega) (by omega)).mp k)), hf2]
            obtain ⟨z', n1, n2⟩ := next
            refine ⟨z', ?_, skip (fun h => el (by rw [h, List.length_reverse]; exact hFlen)) z' n2⟩
            rw [show x.length + fu + 1 = (x.length + fu) + 1 by omega, f9_which_l52_s]
            have : f9_which_b91 (f9_which_l23 (xs.length + fuel + 1)) all z.2.1 z.2.2.1 z.2.2.2.1 (nI x.length) z.2.2.2.2.2 r.2.2.2.1 r.2.2.2.2 w.2.2.2.1 w.2.2.2.2.1 w.2.2.2.2.2 (nI n) 0 = some z' := by
              unfold f9_which_b91
              rw [if_pos rfl, nI_1, ← hdep]
              exact n1
            by_cases c0 : nI x.length ≤ 0
            · rw [if_pos c0]; exact this
            · rw [if_neg c0, if_pos rfl]; exact this
    obtain ⟨fu, hfu⟩ := kF ((zAll c g).length + 1) (by omega)
    have hf2 : kFUEL = (zAll c g).length + fu + 1 := by omega
    obtain ⟨z, z1, z2⟩ := loop (zAll c g) 0 [] tr fu _ _ _ _ _ s2 s3 s4 (by omega) (fun x hx => (zAll_mem hx).1)
    rw [← hf2] at z1
    refine ⟨z, z1, Or.inr ⟨rfl, ?_⟩⟩
    rcases z2 with ⟨k, k1, k2⟩ | h
    · exact Or.inl ⟨k, by rw [k1, Nat.zero_add], k2⟩
    · exact Or.inr h
