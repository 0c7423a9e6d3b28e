/-! the first order of a run's sort: a step put into a row that is told forward; 'pre' is what stands ahead, the latest first -/
def znd (g : Nat → Nat → Nat → Nat) (t j : Nat) : List Nat → List Nat → Bool
  | _, [] => true
  | pre, u :: w => !zdp g u (zfr pre u) t j && znd g t j (u :: pre) w
def zins (g : Nat → Nat → Nat → Nat) (t j : Nat) : List Nat → List Nat → List Nat
  | _, [] => [t]
  | pre, u :: w => if znd g t j pre (u :: w) = true ∧ t < u then t :: u :: w else u :: zins g t j (u :: pre) w
/-- the first order of a run (the run with the latest ahead, the answer forward) -/
def zF (g : Nat → Nat → Nat → Nat) : List Nat → List Nat
  | [] => []
  | t :: q => zins g t (zfr q t) [] (zF g q)
theorem znd_c (g : Nat → Nat → Nat → Nat) (t j u : Nat) (pre w : List Nat) : znd g t j pre (u :: w) = (!zdp g u (zfr pre u) t j && znd g t j (u :: pre) w) := rfl
theorem zins_c (g : Nat → Nat → Nat → Nat) (t j u : Nat) (pre w : List Nat) : zins g t j pre (u :: w) = if znd g t j pre (u :: w) = true ∧ t < u then t :: u :: w else u :: zins g t j (u :: pre) w := rfl
/-- how far the first greater one stands -/
def zfp (t : Nat) : List Nat → Nat
  | [] => 0
  | u :: w => if t < u then 0 else zfp t w + 1
theorem zfp_le (t : Nat) : ∀ w, zfp t w ≤ w.length
  | [] => Nat.le_refl _
  | u :: w => by
    show (if t < u then 0 else zfp t w + 1) ≤ w.length + 1
    have := zfp_le t w
    by_cases h : t < u
    · rw [if_pos h]; omega
    · rw [if_neg h]; omega
theorem zins_free {g : Nat → Nat → Nat → Nat} {t j : Nat} : ∀ (w pre : List Nat), znd g t j pre w = true → zins g t j pre w = w.take (zfp t w) ++ t :: w.drop (zfp t w)
  | [], pre, _ => rfl
  | u :: w, pre, h => by
    rw [zins_c]
    show _ = (u :: w).take (if t < u then 0 else zfp t w + 1) ++ t :: (u :: w).drop (if t < u then 0 else zfp t w + 1)
    by_cases hl : t < u
    · rw [if_pos ⟨h, hl⟩, if_pos hl]; rfl
    · rw [if_neg (fun k => hl k.2), if_neg hl]
      rw [znd_c, Bool.and_eq_true] at h
      rw [zins_free w (u :: pre) h.2]
      rfl
theorem znd_app {g : Nat → Nat → Nat → Nat} {t j : Nat} : ∀ (a b pre : List Nat), znd g t j pre (a ++ b) = true → znd g t j (a.reverse ++ pre) b = true
  | [], b, pre, h => h
  | u :: a, b, pre, h => by
    rw [List.cons_append, znd_c, Bool.and_eq_true] at h
    have := znd_app a b (u :: pre) h.2
    rw [List.reverse_cons, List.append_assoc]
    exact this
/-- what stands ahead of one that it depends on stays -/
theorem zins_stop {g : Nat → Nat → Nat → Nat} {t j u : Nat} {b : List Nat} : ∀ (a pre : List Nat), zdp g u (zfr (a.reverse ++ pre) u) t j = true → zins g t j pre (a ++ u :: b) = a ++ u :: zins g t j (u :: (a.reverse ++ pre)) b
  | [], pre, h => by
    rw [List.nil_append, zins_c, if_neg]
    · rfl
    · rintro ⟨h1, _⟩
      rw [znd_c, Bool.and_eq_true] at h1
      have h2 := h1.1
      have h' : zdp g u (zfr pre u) t j = true := h
      rw [h'] at h2
      cases h2
  | v :: a, pre, h => by
    have h' : zdp g u (zfr (a.reverse ++ (v :: pre)) u) t j = true := by
      rw [List.reverse_cons, List.append_assoc] at h
      exact h
    rw [List.cons_append, zins_c, if_neg]
    · rw [zins_stop a (v :: pre) h', List.cons_append, List.reverse_cons, List.append_assoc]
      rfl
    · rintro ⟨h1, _⟩
      have h2 := znd_app (v :: a) (u :: b) pre h1
      rw [znd_c, Bool.and_eq_true] at h2
      rw [h] at h2
      cases h2.1
theorem zins_len {g : Nat → Nat → Nat → Nat} {t j : Nat} : ∀ (w pre : List Nat), (zins g t j pre w).length = w.length + 1
  | [], pre => rfl
  | u :: w, pre => by
    rw [zins_c]
    by_cases h : znd g t j pre (u :: w) = true ∧ t < u
    · rw [if_pos h]; rfl
    · rw [if_neg h, List.length_cons, zins_len w (u :: pre)]; rfl
theorem zins_mem {g : Nat → Nat → Nat → Nat} {t j v : Nat} : ∀ (w pre : List Nat), v ∈ zins g t j pre w ↔ v = t ∨ v ∈ w
  | [], pre => by show v ∈ [t] ↔ _; simp
  | u :: w, pre => by
    rw [zins_c]
    by_cases h : znd g t j pre (u :: w) = true ∧ t < u
    · rw [if_pos h, List.mem_cons]
    · rw [if_neg h, List.mem_cons, zins_mem w (u :: pre), List.mem_cons]
      constructor
      · rintro (a | a | a)
        · exact Or.inr (Or.inl a)
        · exact Or.inl a
        · exact Or.inr (Or.inr a)
      · rintro (a | a | a)
        · exact Or.inr (Or.inl a)
        · exact Or.inl a
        · exact Or.inr (Or.inr a)
theorem zF_len (g : Nat → Nat → Nat → Nat) : ∀ q, (zF g q).length = q.length
  | [] => rfl
  | t :: q => by show (zins g t _ [] (zF g q)).length = _; rw [zins_len, zF_len g q]; rfl
theorem zF_mem (g : Nat → Nat → Nat → Nat) (v : Nat) : ∀ q, v ∈ zF g q ↔ v ∈ q
  | [] => Iff.rfl
  | t :: q => by
    show v ∈ zins g t _ [] (zF g q) ↔ _
    rw [zins_mem, zF_mem g v q, List.mem_cons]
theorem zfr_app : ∀ (a b : List Nat) (u : Nat), zfr (a ++ b) u = zfr a u + zfr b u
  | [], b, u => by rw [List.nil_append]; show zfr b u = 0 + _; omega
  | v :: a, b, u => by
    rw [List.cons_append, zfr_c, zfr_c, zfr_app a b u]
    by_cases h : v = u
    · rw [if_pos h, if_pos h]; omega
    · rw [if_neg h, if_neg h]
theorem zfr_rev : ∀ (a : List Nat) (u : Nat), zfr a.reverse u = zfr a u
  | [], u => rfl
  | v :: a, u => by
    rw [List.reverse_cons, zfr_app, zfr_rev a u, zfr_c]
    show zfr a u + zfr [v] u = _
    rw [zfr_c, zfr_c]
    by_cases h : v = u
    · rw [if_pos h, if_pos h]; rfl
    · rw [if_neg h, if_neg h]; rfl
theorem zins_fr {g : Nat → Nat → Nat → Nat} {t j : Nat} : ∀ (w pre : List Nat) (v : Nat), zfr (zins g t j pre w) v = zfr (t :: w) v
  | [], pre, v => rfl
  | u :: w, pre, v => by
    rw [zins_c]
    by_cases h : znd g t j pre (u :: w) = true ∧ t < u
    · rw [if_pos h]
    · rw [if_neg h, zfr_c, zins_fr w (u :: pre) v, zfr_c, zfr_c, zfr_c]
      by_cases a : u = v <;> by_cases b : t = v <;> simp [a, b]
theorem zF_fr (g : Nat → Nat → Nat → Nat) (v : Nat) : ∀ q, zfr (zF g q) v = zfr q v
  | [] => rfl
  | t :: q => by
    show zfr (zins g t _ [] (zF g q)) v = _
    rw [zins_fr, zfr_c, zfr_c, zF_fr g v q]
/-! the reference's way: of the events 0 .. n-1 (thread th k, its place in the thread ix k) the next one each time -/
def zIsN (dp : Nat → Nat → Bool) (laid : Nat → Bool) (k : Nat) : Nat → Bool
  | 0 => !laid k
  | j + 1 => zIsN dp laid k j && (laid j || !dp j k)
def zbest (th : Nat → Nat) (dp : Nat → Nat → Bool) (laid : Nat → Bool) : Nat → Option Nat
  | 0 => none
  | k + 1 => if zIsN dp laid k k = true ∧ (∀ b, zbest th dp laid k = some b → th k < th b) then some k else zbest th dp laid k
def zlay (laid : Nat → Bool) (k : Nat) : Nat → Bool := fun j => if j = k then true else laid j
/-- ks: the picks from here on till all are laid -/
def zGR (th : Nat → Nat) (dp : Nat → Nat → Bool) (n : Nat) : (Nat → Bool) → List Nat → Prop
  | laid, [] => ∀ j, j < n → laid j = true
  | laid, k :: ks => zbest th dp laid n = some k ∧ zGR th dp n (zlay laid k) ks
theorem zIsN_iff {dp : Nat → Nat → Bool} {laid : Nat → Bool} {k : Nat} : ∀ {m : Nat}, zIsN dp laid k m = true ↔ laid k = false ∧ ∀ j, j < m → laid j = true ∨ dp j k = false
  | 0 => by
    show (!laid k) = true ↔ _
    constructor
    · intro h; exact ⟨by simpa using h, fun j hj => absurd hj (Nat.not_lt_zero _)⟩
    · rintro ⟨h, _⟩; rw [h]; rfl
  | m + 1 => by
    show (zIsN dp laid k m && (laid m || !dp m k)) = true ↔ _
    rw [Bool.and_eq_true, zIsN_iff, Bool.or_eq_true]
    constructor
    · rintro ⟨⟨a, b⟩, d⟩
      refine ⟨a, fun j hj => ?_⟩
      rcases Nat.lt_succ_iff_lt_or_eq.mp hj with h | h
      · exact b j h
      · subst h
        rcases d with d | d
        · exact Or.inl d
        · exact Or.inr (by simpa using d)
    · rintro ⟨a, b⟩
      refine ⟨⟨a, fun j hj => b j (by omega)⟩, ?_⟩
      rcases b m (by omega) with h | h
      · exact Or.inl h
      · exact Or.inr (by rw [h]; rfl)
theorem zIsN_cong {dp : Nat → Nat → Bool} {la lb : Nat → Bool} {k m : Nat} (hk : la k = lb k) (h : ∀ j, j < m → la j = lb j) : zIsN dp la k m = zIsN dp lb k m := by
  induction m with
  | zero => show (!la k) = !lb k; rw [hk]
  | succ m ih =>
    show (zIsN dp la k m && (la m || !dp m k)) = (zIsN dp lb k m && (lb m || !dp m k))
    rw [ih (fun j hj => h j (by omega)), h m (by omega)]
theorem zbest_cong {th : Nat → Nat} {dp : Nat → Nat → Bool} {la lb : Nat → Bool} : ∀ {n : Nat}, (∀ j, j < n → la j = lb j) → zbest th dp la n = zbest th dp lb n
  | 0, _ => rfl
  | n + 1, h => by
    show (if zIsN dp la n n = true ∧ (∀ b, zbest th dp la n = some b → th n < th b) then some n else zbest th dp la n) = (if zIsN dp lb n n = true ∧ (∀ b, zbest th dp lb n = some b → th n < th b) then some n else zbest th dp lb n)
    rw [zbest_cong (fun j hj => h j (by omega)), zIsN_cong (h n (by omega)) (fun j hj => h j (by omega))]
theorem zbest_some {th : Nat → Nat} {dp : Nat → Nat → Bool} {laid : Nat → Bool} : ∀ {n k : Nat}, zbest th dp laid n = some k → k < n ∧ laid k = false
  | 0, k, h => by cases h
  | n + 1, k, h => by
    have h' : (if zIsN dp laid n n = true ∧ (∀ b, zbest th dp laid n = some b → th n < th b) then some n else zbest th dp laid n) = some k := h
    by_cases c : zIsN dp laid n n = true ∧ (∀ b, zbest th dp laid n = some b → th n < th b)
    · rw [if_pos c] at h'
      have e := Option.some.inj h'
      subst e
      exact ⟨by omega, (zIsN_iff.mp c.1).1⟩
    · rw [if_neg c] at h'
      have := zbest_some h'
      exact ⟨by omega, this.2⟩
theorem zbest_none {th : Nat → Nat} {dp : Nat → Nat → Bool} {laid : Nat → Bool} : ∀ {n : Nat}, (∀ j, j < n → laid j = true) → zbest th dp laid n = none
  | 0, _ => rfl
  | n + 1, h => by
    show (if zIsN dp laid n n = true ∧ (∀ b, zbest th dp laid n = some b → th n < th b) then some n else zbest th dp laid n) = none
    rw [if_neg, zbest_none (fun j hj => h j (by omega))]
    rintro ⟨c, _⟩
    have := (zIsN_iff.mp c).1
    rw [h n (by omega)] at this
    cases this
theorem zGR_cong {th : Nat → Nat} {dp : Nat → Nat → Bool} {n : Nat} : ∀ {ks : List Nat} {la lb : Nat → Bool}, (∀ j, j < n → la j = lb j) → zGR th dp n la ks → zGR th dp n lb ks
  | [], la, lb, h, hg => fun j hj => by rw [← h j hj]; exact hg j hj
  | k :: ks, la, lb, h, hg => by
    refine ⟨by rw [← zbest_cong h]; exact hg.1, zGR_cong (fun j hj => ?_) hg.2⟩
    unfold zlay
    by_cases e : j = k
    · rw [if_pos e, if_pos e]
    · rw [if_neg e, if_neg e]; exact h j hj
theorem zGR_mem {th : Nat → Nat} {dp : Nat → Nat → Bool} {n : Nat} : ∀ {ks : List Nat} {laid : Nat → Bool}, zGR th dp n laid ks → (∀ j, j < n → laid j = true ∨ j ∈ ks) ∧ ∀ j, j ∈ ks → j < n ∧ laid j = false
  | [], laid, h => ⟨fun j hj => Or.inl (h j hj), fun j hj => by cases hj⟩
  | k :: ks, laid, h => by
    obtain ⟨a, b⟩ := zGR_mem h.2
    have c := zbest_some h.1
    refine ⟨fun j hj => ?_, fun j hj => ?_⟩
    · by_cases e : j = k
      · exact Or.inr (by rw [e]; exact List.mem_cons_self)
      · rcases a j hj with d | d
        · unfold zlay at d; rw [if_neg e] at d; exact Or.inl d
        · exact Or.inr (List.mem_cons_of_mem _ d)
    · rcases List.mem_cons.mp hj with e | e
      · rw [e]; exact c
      · obtain ⟨d1, d2⟩ := b j e
        unfold zlay at d2
        by_cases e2 : j = k
        · rw [if_pos e2] at d2; cases d2
        · rw [if_neg e2] at d2; exact ⟨d1, d2⟩
/-- one event more, laid already -/
theorem zGR_laid {th : Nat → Nat} {dp : Nat → Nat → Bool} {n : Nat} : ∀ {ks : List Nat} {laid : Nat → Bool}, laid n = true → zGR th dp n laid ks → zGR th dp (n + 1) laid ks
  | [], laid, hn, h => fun j hj => by
    rcases Nat.lt_succ_iff_lt_or_eq.mp hj with e | e
    · exact h j e
    · rw [e]; exact hn
  | k :: ks, laid, hn, h => by
    refine ⟨?_, zGR_laid ?_ h.2⟩
    · show (if zIsN dp laid n n = true ∧ (∀ b, zbest th dp laid n = some b → th n < th b) then some n else zbest th dp laid n) = some k
      rw [if_neg]
      · exact h.1
      · rintro ⟨c, _⟩
        have := (zIsN_iff.mp c).1
        rw [hn] at this
        cases this
    · unfold zlay
      by_cases e : n = k
      · rw [if_pos e]
      · rw [if_neg e]; exact hn
/-- the picks tell the threads of a row, and each event's place is how many of its thread stand ahead -/
def zEV (th ix : Nat → Nat) : List Nat → List Nat → Prop
  | _, [] => True
  | pre, k :: ks => ix k = zfr pre (th k) ∧ zEV th ix (th k :: pre) ks
/-- the same with one event more: where it is put -/
theorem zGR_ins {g : Nat → Nat → Nat → Nat} {th ix : Nat → Nat} {dp : Nat → Nat → Bool} {n : Nat} (hdp : ∀ j k, j < k → k ≤ n → dp j k = zdp g (th j) (ix j) (th k) (ix k)) :
    ∀ (ks pre : List Nat) (laid : Nat → Bool), laid n = false → zGR th dp n laid ks → zEV th ix pre ks → ix n = zfr pre (th n) + zfr (ks.map th) (th n) →
      ∃ ks', zGR th dp (n + 1) laid ks' ∧ zEV th ix pre ks' ∧ ks'.map th = zins g (th n) (ix n) pre (ks.map th) := by
  intro ks
  induction ks with
  | nil =>
    intro pre laid hn hg he hx
    refine ⟨[n], ⟨?_, fun j hj => ?_⟩, ⟨?_, trivial⟩, rfl⟩
    · show (if zIsN dp laid n n = true ∧ (∀ b, zbest th dp laid n = some b → th n < th b) then some n else zbest th dp laid n) = some n
      rw [if_pos]
      refine ⟨zIsN_iff.mpr ⟨hn, fun j hj => Or.inl (hg j hj)⟩, fun b hb => ?_⟩
      rw [zbest_none hg] at hb
      cases hb
    · unfold zlay
      rcases Nat.lt_succ_iff_lt_or_eq.mp hj with e | e
      · rw [if_neg (by omega)]; exact hg j e
      · rw [if_pos e]
    · rw [hx]; rfl
  | cons k ks ih =>
    intro pre laid hn hg he hx
    have hm := zGR_mem hg
    have hkn := (hm.2 k List.mem_cons_self).1
    /- the event can be next just where nothing behind depends on it -/
    have hnd : ∀ (xs pre : List Nat), zEV th ix pre xs → (∀ j, j ∈ xs → j < n) → (znd g (th n) (ix n) pre (xs.map th) = true ↔ ∀ j, j ∈ xs → dp j n = false) := by
      intro xs
      induction xs with
      | nil => intro pre _ _; exact ⟨fun _ j hj => absurd hj List.not_mem_nil, fun _ => rfl⟩
      | cons x xs ihx =>
        intro pre hev hlt
        rw [List.map_cons, znd_c, Bool.and_eq_true, ihx _ hev.2 (fun j hj => hlt j (List.mem_cons_of_mem _ hj)), ← hev.1, ← hdp x n (hlt x List.mem_cons_self) (Nat.le_refl _)]
        constructor
        · rintro ⟨a, b⟩ j hj
          rcases List.mem_cons.mp hj with e | e
          · rw [e]; simpa using a
          · exact b j e
        · intro h
          refine ⟨by rw [h x List.mem_cons_self]; rfl, fun j hj => h j (List.mem_cons_of_mem _ hj)⟩
    have hisn : zIsN dp laid n n = true ↔ znd g (th n) (ix n) pre ((k :: ks).map th) = true := by
      rw [hnd (k :: ks) pre he (fun j hj => (hm.2 j hj).1), zIsN_iff]
      constructor
      · rintro ⟨_, h⟩ j hj
        rcases h j (hm.2 j hj).1 with e | e
        · rw [(hm.2 j hj).2] at e; cases e
        · exact e
      · intro h
        refine ⟨hn, fun j hj => ?_⟩
        rcases hm.1 j hj with e | e
        · exact Or.inl e
        · exact Or.inr (h j e)
    rw [List.map_cons, zins_c]
    rw [List.map_cons] at hisn
    by_cases c : znd g (th n) (ix n) pre (th k :: ks.map th) = true ∧ th n < th k
    · rw [if_pos c]
      have hz : zfr (th k :: ks.map th) (th n) = 0 := by
        have : ∀ (xs pre : List Nat), znd g (th n) (ix n) pre xs = true → zfr xs (th n) = 0 := by
          intro xs
          induction xs with
          | nil => intro pre _; rfl
          | cons x xs ihx =>
            intro pre h
            rw [znd_c, Bool.and_eq_true] at h
            have h1 : zdp g x (zfr pre x) (th n) (ix n) = false := by simpa using h.1
            rw [zfr_c, if_neg (zdp_ne h1)]
            exact ihx _ h.2
        exact this _ pre c.1
      rw [List.map_cons, hz] at hx
      refine ⟨n :: k :: ks, ⟨?_, ?_⟩, ⟨by rw [hx, Nat.add_zero], ?_⟩, rfl⟩
      · show (if zIsN dp laid n n = true ∧ (∀ b, zbest th dp laid n = some b → th n < th b) then some n else zbest th dp laid n) = some n
        rw [if_pos]
        refine ⟨hisn.mpr c.1, fun b hb => ?_⟩
        rw [hg.1] at hb
        have := Option.some.inj hb
        subst this
        exact c.2
      · refine zGR_laid (by unfold zlay; rw [if_pos rfl]) ?_
        refine zGR_cong (fun j hj => ?_) hg
        unfold zlay
        rw [if_neg (by omega)]
      · /- ahead of all that follow stands one more, of another thread than theirs -/
        have : ∀ (xs pre : List Nat), zEV th ix pre xs → zfr (xs.map th) (th n) = 0 → ∀ pre2, (∀ v, v ≠ th n → zfr pre2 v = zfr pre v) → zEV th ix pre2 xs := by
          intro xs
          induction xs with
          | nil => intro _ _ _ _ _; trivial
          | cons x xs ihx =>
            intro pre hev h0 pre2 hp
            rw [List.map_cons, zfr_c] at h0
            have hne : ¬ th x = th n := by
              intro e; rw [if_pos e] at h0; omega
            rw [if_neg hne] at h0
            refine ⟨by rw [hp _ hne]; exact hev.1, ihx (th x :: pre) hev.2 h0 _ (fun v hv => ?_)⟩
            rw [zfr_c, zfr_c, hp v hv]
        refine this (k :: ks) pre he (by rw [List.map_cons]; exact hz) (th n :: pre) (fun v hv => ?_)
        exact zfr_other pre hv
    · rw [if_neg c]
      have hx2 : ix n = zfr (th k :: pre) (th n) + zfr (ks.map th) (th n) := by
        rw [hx, List.map_cons, zfr_c, zfr_c]
        by_cases e : th k = th n
        · rw [if_pos e, if_pos e]; omega
        · rw [if_neg e, if_neg e]
      obtain ⟨ks', g1, g2, g3⟩ := ih (th k :: pre) (zlay laid k) (by unfold zlay; rw [if_neg (by omega)]; exact hn) hg.2 he.2 hx2
      refine ⟨k :: ks', ⟨?_, g1⟩, ⟨he.1, g2⟩, by rw [List.map_cons, g3]⟩
      show (if zIsN dp laid n n = true ∧ (∀ b, zbest th dp laid n = some b → th n < th b) then some n else zbest th dp laid n) = some k
      rw [if_neg]
      · exact hg.1
      · rintro ⟨h1, h2⟩
        exact c ⟨hisn.mp h1, h2 k hg.1⟩
/-- a run's events: thread and place -/
theorem zGR_F {g : Nat → Nat → Nat → Nat} {th ix : Nat → Nat} {dp : Nat → Nat → Bool} : ∀ (q : List Nat), (∀ k, k < q.length → ∃ a t b, q = a ++ t :: b ∧ b.length = k ∧ th k = t ∧ ix k = zfr b t) → (∀ j k, j < k → k < q.length → dp j k = zdp g (th j) (ix j) (th k) (ix k)) →
    ∃ ks, zGR th dp q.length (fun _ => false) ks ∧ zEV th ix [] ks ∧ ks.map th = zF g q
  | [], _, _ => ⟨[], fun j hj => absurd hj (Nat.not_lt_zero _), trivial, rfl⟩
  | t :: q, h, hdp => by
    obtain ⟨ks, h1, h2, h3⟩ := zGR_F (g := g) (th := th) (ix := ix) (dp := dp) q (fun k hk => by
      obtain ⟨a, t', b, e1, e2, e3, e4⟩ := h k (by rw [List.length_cons]; omega)
      cases a with
      | nil =>
        rw [List.nil_append] at e1
        injection e1 with _ e1
        rw [← e1] at e2
        omega
      | cons v a =>
        rw [List.cons_append] at e1
        injection e1 with _ e1
        exact ⟨a, t', b, e1, e2, e3, e4⟩) (fun j k hj hk => hdp j k hj (by rw [List.length_cons]; omega))
    have hl : th q.length = t ∧ ix q.length = zfr q t := by
      obtain ⟨a, t', b, e1, e2, e3, e4⟩ := h q.length (by rw [List.length_cons]; omega)
      cases a with
      | nil =>
        rw [List.nil_append] at e1
        injection e1 with e0 e1
        subst e0
        subst e1
        exact ⟨e3, e4⟩
      | cons v a =>
        rw [List.cons_append] at e1
        injection e1 with _ e1
        rw [e1, List.length_append, List.length_cons] at e2
        omega
    have hx : ix q.length = zfr [] (th q.length) + zfr (ks.map th) (th q.length) := by
      rw [h3, zF_fr, hl.2, hl.1]
      show _ = 0 + _
      omega
    obtain ⟨ks', a1, a2, a3⟩ := zGR_ins (g := g) (th := th) (ix := ix) (dp := dp) (n := q.length) (fun j k hj hk => hdp j k hj (by rw [List.length_cons]; omega)) ks [] (fun _ => false) rfl h1 h2 hx
    refine ⟨ks', a1, a2, ?_⟩
    rw [a3, h3, hl.1, hl.2]
    rfl
