/-! whether two states have the same threads -/
theorem pkS_inj {s x v s' x' v' : Nat} (h : okS s x v) (h' : okS s' x' v') (e : pkS s x v = pkS s' x' v') : s = s' ∧ x = x' ∧ v = v' := by
  obtain ⟨a, b, d, -⟩ := h
  obtain ⟨a', b', d', -⟩ := h'
  unfold pkS at e
  omega
theorem sameL40 {a b : sT} {c c' : Nat → Nat} {g g' : Nat → Nat → Nat → Nat} (hs : zst c g) (hs' : zst c' g') (hA : zCS a c' g') (hB : zCS b c g) {t : Nat} (ht : t < 3) (hc : c' t = c t) (kk : sT → sT → Int32 → Option Int32) : ∀ (d i fuel : Nat), i + d = c t →
    (f5_hasSameThreads_l40 kk (d + fuel + 1) a b (nI t) (nI i) = some 0) ∨ (f5_hasSameThreads_l40 kk (d + fuel + 1) a b (nI t) (nI i) = kk a b (nI (t + 1)) ∧ ∀ j, i ≤ j → j < c t → zpk g' t j = zpk g t j) := by
  intro d
  have h4 := (hs t ht).1
  induction d with
  | zero =>
    intro i fuel hi
    right
    rw [show 0 + fuel + 1 = fuel + 1 by omega, f5_hasSameThreads_l40_s, ard_ok ht (by omega), ab_bind, hA.1 t ht, if_pos (nI_le (by omega) (by omega))]
    unfold f5_hasSameThreads_b73
    rw [nI_1]
    exact ⟨rfl, fun j h1 h2 => by omega⟩
  | succ d ih =>
    intro i fuel hi
    rw [show d + 1 + fuel + 1 = (d + fuel + 1) + 1 by omega, f5_hasSameThreads_l40_s, ard_ok ht (by omega), ab_bind, hA.1 t ht, if_neg (nI_ge (by omega) (by omega)), stepAt_in hs' hA ht (by omega), ab_bind, stepAt_in hs hB ht (by omega), ab_bind]
    have p1 := zpk_lt ((hs' t ht).2 i (by omega))
    have p2 := zpk_lt ((hs t ht).2 i (by omega))
    have q1 : zpk g' t i < 400 := p1
    have q2 : zpk g t i < 400 := p2
    by_cases e : zpk g' t i = zpk g t i
    · rw [if_pos (by rw [e]), nI_1]
      rcases ih (i + 1) fuel (by omega) with h | ⟨h, h2⟩
      · exact Or.inl h
      · refine Or.inr ⟨h, fun j h1 h3 => ?_⟩
        by_cases ej : j = i
        · rw [ej]; exact e
        · exact h2 j (by omega) h3
    · rw [if_neg (fun k => e ((nI_eq (by omega) (by omega)).mp k))]
      exact Or.inl rfl
theorem sameL16 {a b : sT} {c c' : Nat → Nat} {g g' : Nat → Nat → Nat → Nat} (hs : zst c g) (hs' : zst c' g') (hA : zCS a c' g') (hB : zCS b c g) : ∀ (d t fuel : Nat), t + d = 3 →
    ∃ r, f5_hasSameThreads_l16 (d + fuel + 1) a b (nI t) = some r ∧ (r = 0 ∨ ∀ v, t ≤ v → v < 3 → c' v = c v ∧ ∀ j, j < c v → zpk g' v j = zpk g v j) := by
  intro d
  induction d with
  | zero =>
    intro t fuel ht
    have e : t = 3 := by omega
    subst e
    rw [show 0 + fuel + 1 = fuel + 1 by omega, f5_hasSameThreads_l16_s, l_3, if_pos (nI_le (by decide) (by decide))]
    exact ⟨1, rfl, Or.inr (fun v h1 h2 => by omega)⟩
  | succ d ih =>
    intro t fuel ht
    have ht3 : t < 3 := by omega
    have h4 := (hs t ht3).1
    have h4' := (hs' t ht3).1
    rw [show d + 1 + fuel + 1 = (d + fuel + 1) + 1 by omega, f5_hasSameThreads_l16_s, l_3, if_neg (nI_ge ht3 (by decide)), ard_ok ht3 (by omega), ab_bind, ard_ok ht3 (by omega), ab_bind, hA.1 t ht3, hB.1 t ht3]
    by_cases e : c' t = c t
    · rw [if_pos (by rw [e])]
      obtain ⟨fu, hf⟩ := kF (c t + 1) (by omega)
      have hf2 : kFUEL = c t + fu + 1 := by omega
      rw [hf2]
      rcases sameL40 hs hs' hA hB ht3 e (f5_hasSameThreads_l16 (d + fuel + 1)) (c t) 0 fu (by omega) with h | ⟨h, h2⟩
      · exact ⟨0, h, Or.inl rfl⟩
      · obtain ⟨r, r1, r2⟩ := ih (t + 1) fuel (by omega)
        refine ⟨r, Eq.trans h r1, ?_⟩
        rcases r2 with r2 | r2
        · exact Or.inl r2
        · refine Or.inr (fun v h3 h5 => ?_)
          by_cases ev : v = t
          · rw [ev]; exact ⟨e, fun j hj => h2 j (Nat.zero_le _) hj⟩
          · exact r2 v (by omega) h5
    · rw [if_neg (fun k => e ((nI_eq (by omega) (by omega)).mp k))]
      exact ⟨0, rfl, Or.inl rfl⟩
theorem same_ok {a b : sT} {c c' : Nat → Nat} {g g' : Nat → Nat → Nat → Nat} {num num' : Nat → Nat} (hP : zPG c g num) (hP' : zPG c' g' num') (hA : zCS a c' g') (hB : zCS b c g) (hnA : zMO a.2.2.1 g' num' []) (hnB : zMO b.2.2.1 g num []) : ∃ r, f5_hasSameThreads a b = some r ∧ (r = 0 ∨ (c' = c ∧ g' = g ∧ num' = num)) := by
  unfold f5_hasSameThreads
  by_cases e : a.2.2.1 = b.2.2.1
  · rw [if_pos ((lg_cmp_eq _ _).mpr e)]
    obtain ⟨fu, hf⟩ := kF 4 (by omega)
    have hf2 : kFUEL = 3 + fu + 1 := by omega
    rw [hf2]
    obtain ⟨r, r1, r2⟩ := sameL16 hP.1 hP'.1 hA hB 3 0 fu (by omega)
    refine ⟨r, r1, ?_⟩
    rcases r2 with r2 | r2
    · exact Or.inl r2
    · right
      have ec : c' = c := by
        funext t
        by_cases ht : t < 3
        · exact (r2 t (Nat.zero_le _) ht).1
        · rw [hP.2.2.1 t (by omega), hP'.2.2.1 t (by omega)]
      subst ec
      refine ⟨rfl, ?_, ?_⟩
      · funext t i w
        by_cases hv : t < 3 ∧ i < c' t ∧ w < 3
        · have hj := (r2 t (Nat.zero_le _) hv.1).2 i hv.2.1
          obtain ⟨h1, h2, h3⟩ := pkS_inj ((hP'.1 t hv.1).2 i hv.2.1) ((hP.1 t hv.1).2 i hv.2.1) hj
          have : w = 0 ∨ w = 1 ∨ w = 2 := by omega
          rcases this with rfl | rfl | rfl
          · exact h1
          · exact h2
          · exact h3
        · rw [hP.2.2.2.1 t i w hv, hP'.2.2.2.1 t i w hv]
      · funext y
        by_cases hy : y < 4
        · have h1 := hnA.2.2.1 y hy
          have h2 := hnB.2.2.1 y hy
          rw [e] at h1
          exact h1.symm.trans h2
        · rw [hP.2.2.2.2 y (by omega), hP'.2.2.2.2 y (by omega)]
  · rw [if_neg (fun k => e ((lg_cmp_eq _ _).mp k))]
    exact ⟨0, rfl, Or.inl rfl⟩
/-! all orders of a program -/
def zAll (c : Nat → Nat) (g : Nat → Nat → Nat → Nat) : List (List Nat) := zsub c g (c 0 + c 1 + c 2) []
/-- what the class keeps of all orders belongs to some program, if it keeps anything -/
def zAO (threads : sT) (rows ended : Nat → Int32) (known inAll count still wrong unlike : Int32) : Prop :=
  known = 0 ∨ ∃ c g num, zPG c g num ∧ zCS threads c g ∧ zMO threads.2.2.1 g num [] ∧ zKR c g num (zAll c g).reverse rows ended count still wrong unlike
def zAOf (c : Nat → Nat) (g : Nat → Nat → Nat → Nat) (num : Nat → Nat) (threads : sT) (rows ended : Nat → Int32) (known count still wrong unlike : Int32) : Prop :=
  zPG c g num ∧ zCS threads c g ∧ zMO threads.2.2.1 g num [] ∧ zKR c g num (zAll c g).reverse rows ended count still wrong unlike
theorem clear_ended {c : Nat → Nat} {g : Nat → Nat → Nat → Nat} {num : Nat → Nat} (hP : zPG c g num) {u w : sT} (hC : zCS u c g) (hB : zMO u.2.2.1 g num []) {rows : Nat → Int32} : ∀ (d i fuel : Nat) (ended : Nat → Int32), i + d = 10000 → (∀ e, e < i → ended e = 0) →
    ∃ z, f0_goThrough_l65 (d + fuel + 1) u rows ended 1 (nI (c 0 + c 1 + c 2)) 0 0 0 0 w (nI i) = some z ∧ zAOf c g num z.1 z.2.1 z.2.2.1 z.2.2.2.1 z.2.2.2.2.2.1 z.2.2.2.2.2.2.1 z.2.2.2.2.2.2.2.1 z.2.2.2.2.2.2.2.2 := by
  intro d
  have hs := hP.1
  have h0 := (hs 0 (by omega)).1
  have h1 := (hs 1 (by omega)).1
  have h2 := (hs 2 (by omega)).1
  induction d with
  | zero =>
    intro i fuel ended hi he
    have e : i = 10000 := by omega
    subst e
    rw [show 0 + fuel + 1 = fuel + 1 by omega, f0_goThrough_l65_s, l_10000, if_pos (nI_le (Nat.le_refl _) (by decide))]
    have hK0 : zKR c g num [] rows ended 0 0 0 0 := ⟨rfl, fun k x hx => by simp at hx, rfl, rfl, rfl, fun e he2 => by rw [he e he2]; rfl⟩
    have hD : kDEEP = (c 0 + c 1 + c 2) + (15 - (c 0 + c 1 + c 2)) + 1 := by unfold kDEEP; omega
    obtain ⟨z, z1, z2⟩ := goOn_ok hP hC (c 0 + c 1 + c 2) [] [] rows ended 0 0 0 0 u.2.2.1 (15 - (c 0 + c 1 + c 2)) trivial (by simp) hB hK0 (by
      have := zall_len (g := g) (fun t ht => (hs t ht).1)
      simpa using this)
    have hsl0 : zbits (zsl c g []) = 0 := by
      refine (zbits_0 _).mpr ⟨?_, ?_, ?_⟩ <;> (unfold zsl zmg; simp)
    rw [hsl0] at z1
    unfold f0_goThrough_b85 f5_beginning
    rw [hD]
    have z1' : f0_goOn (c 0 + c 1 + c 2 + (15 - (c 0 + c 1 + c 2)) + 1) u rows ended (nI (c 0 + c 1 + c 2)) 0 0 0 0 u.2.2.1 0 0 = some z := z1
    rw [z1', ab_bind]
    refine ⟨_, rfl, hP, hC, hB, ?_⟩
    rw [List.append_nil] at z2
    exact z2
  | succ d ih =>
    intro i fuel ended hi he
    rw [show d + 1 + fuel + 1 = (d + fuel + 1) + 1 by omega, f0_goThrough_l65_s, l_10000, if_neg (nI_ge (by omega) (by decide)), awr_ok (by omega) (by omega), ab_bind, nI_1]
    refine ih (i + 1) fuel _ (by omega) (fun e he2 => ?_)
    rw [ab_upd]
    by_cases ee : e = i
    · rw [if_pos ee]
    · rw [if_neg ee]; exact he e (by omega)
theorem goThrough_ok {c : Nat → Nat} {g : Nat → Nat → Nat → Nat} {num : Nat → Nat} {q : List Nat} (hP : zPG c g num) {threads w : sT} {rows ended : Nat → Int32} {known inAll count still wrong unlike : Int32} (hA : zAO threads rows ended known inAll count still wrong unlike) (hR : zRS w c g num q) :
    ∃ z, f0_goThrough threads rows ended known inAll count still wrong unlike w = some z ∧ zAOf c g num z.1 z.2.1 z.2.2.1 z.2.2.2.1 z.2.2.2.2.2.1 z.2.2.2.2.2.2.1 z.2.2.2.2.2.2.2.1 z.2.2.2.2.2.2.2.2 := by
  have anew : ∃ z, f0_goThrough_b19 threads rows ended known inAll count still wrong unlike w = some z ∧ zAOf c g num z.1 z.2.1 z.2.2.1 z.2.2.2.1 z.2.2.2.2.2.1 z.2.2.2.2.2.2.1 z.2.2.2.2.2.2.2.1 z.2.2.2.2.2.2.2.2 := by
    obtain ⟨u, u1, u2⟩ := takeFrom_ok (v := threads) hP.1 hR
    unfold f0_goThrough_b19
    rw [u1, ab_bind, stepsInAll_ok u2.1, ab_bind]
    obtain ⟨fu, hf⟩ := kF 10001 (by omega)
    have hf2 : kFUEL = 10000 + fu + 1 := by omega
    rw [hf2]
    exact clear_ended hP u2.1 u2.2.1 10000 0 fu ended (by omega) (fun e he => by omega)
  unfold f0_goThrough
  rcases hA with h | ⟨c', g', num', h1, h2, h3, h4⟩
  · rw [if_pos h]; exact anew
  · by_cases hk : known = 0
    · rw [if_pos hk]; exact anew
    · rw [if_neg hk]
      obtain ⟨r, r1, r2⟩ := same_ok hP h1 h2 hR.1 h3 hR.2.1
      rw [r1, ab_bind]
      by_cases hr : r = 0
      · rw [if_pos hr]; exact anew
      · rw [if_neg hr]
        rcases r2 with r2 | ⟨rfl, rfl, rfl⟩
        · exact absurd r2 hr
        · exact ⟨_, rfl, h1, h2, h3, h4⟩
theorem zAOf_AO {c : Nat → Nat} {g : Nat → Nat → Nat → Nat} {num : Nat → Nat} {threads : sT} {rows ended : Nat → Int32} {known inAll count still wrong unlike : Int32} (h : zAOf c g num threads rows ended known count still wrong unlike) : zAO threads rows ended known inAll count still wrong unlike := Or.inr ⟨c, g, num, h⟩
theorem zAll_len {c : Nat → Nat} {g : Nat → Nat → Nat → Nat} {num : Nat → Nat} (hP : zPG c g num) : (zAll c g).length ≤ 34650 := zall_len (fun t ht => (hP.1 t ht).1)
theorem zAll_mem {c : Nat → Nat} {g : Nat → Nat → Nat → Nat} {x : List Nat} (h : x ∈ zAll c g) : zok c g x ∧ zstill c g x = true := by
  have := zsub_mem (c 0 + c 1 + c 2) [] trivial (by simp) x h
  exact ⟨this.1, this.2.1⟩
/-! the row that is looked for -/
def zix (L : List (List Nat)) (v : List Nat) : Option Nat := L.findIdx? (fun x => decide (x = v))
theorem find_ok {c : Nat → Nat} {g : Nat → Nat → Nat → Nat} {num : Nat → Nat} (hP : zPG c g num) {rows ended : Nat → Int32} {count still wrong unlike : Int32} (hK : zKR c g num (zAll c g).reverse rows ended count still wrong unlike) {v : List Nat} (h3 : ∀ u, u ∈ v → u < 3) (hl : v.length ≤ 12) :
    ∃ r, f0_find rows count (nI (zrc v)) = some r ∧ ((∃ k, r = nI k ∧ (zAll c g)[k]? = some v ∧ k < (zAll c g).length) ∨ (r = -1 ∧ v ∉ zAll c g)) := by
  have hN := zAll_len hP
  generalize hL : zAll c g = L at *
  have hcount : count = nI L.length := by rw [hK.1, List.length_reverse]
  have hrow : ∀ k, (hk : k < L.length) → rows k = nI (zrc L[k]) := fun k hk => hK.2.1 k _ (by rw [List.reverse_reverse]; exact List.getElem?_eq_getElem hk)
  have hmem : ∀ x, x ∈ L → (∀ u, u ∈ x → u < 4) ∧ x.length ≤ 12 := by
    intro x hx
    rw [← hL] at hx
    have := zAll_mem hx
    exact ⟨fun u hu => by have := zmem this.1 u hu; omega, zlen_le hP.1 this.1⟩
  have hv4 : ∀ u, u ∈ v → u < 4 := fun u hu => by have := h3 u hu; omega
  have hvlt := zrc_lt hv4 hl
  have hlt : ∀ k, (hk : k < L.length) → zrc L[k] < 268435456 := fun k hk => zrc_lt (hmem _ (List.getElem_mem hk)).1 (hmem _ (List.getElem_mem hk)).2
  have hsort : ∀ i j, (hij : i < j) → (hj : j < L.length) → zrc (L[i]'(by omega)) < zrc L[j] := by
    intro i j hij hj
    have hp := zsub_sorted (g := g) (fun t ht => (hP.1 t ht).1) (c 0 + c 1 + c 2) [] trivial (by simp)
    have hp2 : L.Pairwise (fun a b => zco a < zco b) := by rw [← hL]; exact hp
    have h1 := List.pairwise_iff_getElem.mp hp2 i j (by omega) hj hij
    have h2 := (hmem _ (List.getElem_mem (show i < L.length by omega))).2
    unfold zrc
    omega
  /- at the end -/
  have fin : ∀ (low : Nat), low ≤ L.length → (∀ i, (hi : i < L.length) → i < low → zrc L[i] < zrc v) → (∀ i, (hi : i < L.length) → low ≤ i → zrc v ≤ zrc L[i]) →
      ∃ r, f0_find_b57 rows count (nI (zrc v)) (nI low) = some r ∧ ((∃ k, r = nI k ∧ L[k]? = some v ∧ k < L.length) ∨ (r = -1 ∧ v ∉ L)) := by
    intro low hlow hA hB
    unfold f0_find_b57
    rw [hcount]
    have notin : (∀ i, (hi : i < L.length) → i = low → zrc L[i] ≠ zrc v) → v ∉ L := by
      intro hne hv
      obtain ⟨i, hi, he⟩ := List.getElem_of_mem hv
      by_cases e1 : i < low
      · have := hA i hi e1; rw [he] at this; omega
      · by_cases e2 : i = low
        · exact hne i hi e2 (by rw [he])
        · have h5 := hsort low i (by omega) hi
          have h6 := hB low (by omega) (Nat.le_refl _)
          rw [he] at h5
          omega
    by_cases hl2 : low < L.length
    · rw [if_neg (nI_ge hl2 (by omega)), ard_ok (by omega) (by omega), ab_bind, hrow low hl2]
      by_cases e : zrc L[low] = zrc v
      · rw [if_pos (by rw [e])]
        refine ⟨_, rfl, Or.inl ⟨low, rfl, ?_, hl2⟩⟩
        rw [List.getElem?_eq_getElem hl2]
        have hm := hmem _ (List.getElem_mem hl2)
        rw [zrc_inj hm.1 hv4 hm.2 hl e]
      · have := hlt low hl2
        rw [if_neg (fun k => e ((nI_eq (by omega) (by omega)).mp k))]
        exact ⟨_, rfl, Or.inr ⟨rfl, notin (fun i hi ei => by subst ei; exact e)⟩⟩
    · rw [if_pos (nI_le (by omega) (by omega))]
      exact ⟨_, rfl, Or.inr ⟨rfl, notin (fun i hi ei => by omega)⟩⟩
  have loop : ∀ (d low high x4 fuel : Nat), x4 + d = 32 → low ≤ high → high ≤ L.length → high - low < 2 ^ d → (∀ i, (hi : i < L.length) → i < low → zrc L[i] < zrc v) → (∀ i, (hi : i < L.length) → high ≤ i → zrc v ≤ zrc L[i]) →
      ∃ r, f0_find_l10 (d + fuel + 1) rows count (nI (zrc v)) (nI low) (nI high) (nI x4) = some r ∧ ((∃ k, r = nI k ∧ L[k]? = some v ∧ k < L.length) ∨ (r = -1 ∧ v ∉ L)) := by
    intro d
    induction d with
    | zero =>
      intro low high x4 fuel hx hlh hh hd hA hB
      have e : low = high := by have : (2 : Nat) ^ 0 = 1 := rfl; omega
      subst e
      rw [show 0 + fuel + 1 = fuel + 1 by omega, f0_find_l10_s, l_32, if_pos (nI_le (by omega) (by omega))]
      exact fin low hh hA hB
    | succ d ih =>
      intro low high x4 fuel hx hlh hh hd hA hB
      rw [show d + 1 + fuel + 1 = (d + fuel + 1) + 1 by omega, f0_find_l10_s, l_32, if_neg (nI_ge (by omega) (by decide))]
      by_cases e : high ≤ low
      · rw [if_pos (nI_le e (by omega))]
        have e2 : low = high := by omega
        subst e2
        exact fin low hh hA hB
      · have hmid : (low + high) / 2 < L.length := by omega
        have hp : 2 ^ (d + 1) = 2 * 2 ^ d := by rw [Nat.pow_succ, Nat.mul_comm]
        rw [if_neg (nI_ge (by omega) (by omega)), nI_add, l_2, pk_div (by omega) (by decide) (by decide), ard_ok (by omega) (by omega), ab_bind, hrow _ hmid]
        have hml := hlt _ hmid
        unfold f0_find_b51
        by_cases hc : zrc v ≤ zrc L[(low + high) / 2]
        · rw [if_pos (nI_le hc (by omega)), nI_1]
          refine ih low ((low + high) / 2) (x4 + 1) fuel (by omega) (by omega) (by omega) (by omega) hA (fun i hi hle => ?_)
          by_cases ei : i = (low + high) / 2
          · subst ei; exact hc
          · have := hsort ((low + high) / 2) i (by omega) hi
            omega
        · rw [if_neg (nI_ge (by omega) (by omega)), nI_1, l_1, nI_add]
          refine ih ((low + high) / 2 + 1) high (x4 + 1) fuel (by omega) (by omega) hh (by omega) (fun i hi hle => ?_) hB
          by_cases ei : i = (low + high) / 2
          · subst ei; omega
          · have := hsort i ((low + high) / 2) (by omega) hmid
            omega
  obtain ⟨fu, hf⟩ := kF 33 (by omega)
  have hf2 : kFUEL = 32 + fu + 1 := by omega
  unfold f0_find
  rw [hf2, hcount]
  have e32 : L.length - 0 < 2 ^ 32 := by omega
  have hres := loop 32 0 L.length 0 fu (by omega) (by omega) (Nat.le_refl _) e32 (fun i _ h => absurd h (Nat.not_lt_zero _)) (fun i hi h => absurd hi (Nat.not_lt.mpr h))
  rw [hcount] at hres
  exact hres
