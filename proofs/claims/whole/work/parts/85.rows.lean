/-! rows of threads as ints -/
theorem ishr_ok {n s : Nat} (hn : n < 2 ^ 32) (hs : s < 32) : ku_ishr (nI n) (nI s) = nI (n / 2 ^ s) := by
  have h : ∀ s, s < 32 → (((nI s).toUInt32 &&& Int32.toUInt32 31).toBitVec % 32).toNat = s := by decide +kernel
  exact pk_ushrN hn (nI s) s (h s hs)
theorem shl_ok {n s : Nat} (hs : s < 32) (h : n * 2 ^ s < 2 ^ 32) : nI n <<< (nI s &&& 31) = nI (n * 2 ^ s) := by
  have h2 : ∀ s, s < 32 → ((nI s &&& 31).toBitVec.smod 32).toNat = s := by decide +kernel
  exact pk_shlN _ s (h2 s hs) h
theorem zrc_len {q : List Nat} (hl : q.length ≤ 12) : f4_length (nI (zrc q)) = nI q.length := by
  unfold f4_length zrc
  have : (15 : Nat) = 2 ^ 4 - 1 := by decide
  rw [l_15, fa_and, this, Nat.and_two_pow_sub_one_eq_mod]
  congr 1
  omega
theorem zcf_mid {a b : List Nat} {t : Nat} (h : ∀ u, u ∈ b → u < 4) (ht : t < 4) (hl : a.length + (b.length + 1) ≤ 12) : zcf 0 (a ++ t :: b) / 4 ^ (11 - a.length) % 4 = t := by
  rw [zcf_app, Nat.zero_add]
  have h1 := zcf_lt b (a.length + 1) h (by omega)
  rw [show 12 - (a.length + 1) = 11 - a.length by omega] at h1
  obtain ⟨x, hx⟩ := zcf_dvd a 0 (12 - a.length) (by omega)
  rw [zpow a.length (by omega)] at hx
  have e : zcf 0 a + zcf a.length (t :: b) = zcf (a.length + 1) b + 4 ^ (11 - a.length) * (4 * x + t) := by
    show zcf 0 a + (t * 4 ^ (11 - a.length) + zcf (a.length + 1) b) = _
    rw [hx, Nat.mul_add, Nat.mul_comm t, ← Nat.mul_assoc, Nat.mul_comm _ 4]
    omega
  rw [e, Nat.add_mul_div_left _ _ (Nat.pow_pos (by decide)), Nat.div_eq_of_lt h1]
  omega
theorem threadAt_ok {w a b : List Nat} {t : Nat} (hw : w = a ++ t :: b) (h4 : ∀ u, u ∈ w → u < 4) (hl : w.length ≤ 12) : f4_threadAt (nI (zcf 0 w * 16 + w.length)) (nI a.length) = nI t := by
  subst hw
  rw [List.length_append, List.length_cons] at hl
  have hlt := zcf_lt (a ++ t :: b) 0 h4 (by rw [List.length_append, List.length_cons]; omega)
  have e12 : (4 : Nat) ^ (12 - 0) = 16777216 := by decide
  have hm := zcf_mid (a := a) (b := b) (t := t) (fun u hu => h4 u (List.mem_append_right _ (List.mem_cons_of_mem _ hu))) (h4 t (List.mem_append_right _ List.mem_cons_self)) (by omega)
  unfold f4_threadAt
  rw [l_11, pk_sub (by omega), l_2, pk_mul, l_4, nI_add, ishr_ok (by rw [List.length_append, List.length_cons]; omega) (by omega), l_3, fa_and]
  have : (3 : Nat) = 2 ^ 2 - 1 := by decide
  rw [this, Nat.and_two_pow_sub_one_eq_mod]
  congr 1
  have e : (2 : Nat) ^ (4 + 2 * (11 - a.length)) = 16 * 4 ^ (11 - a.length) := by
    rw [Nat.pow_add, Nat.pow_mul]
  rw [e, ← Nat.div_div_eq_div_mul]
  have e2 : (zcf 0 (a ++ t :: b) * 16 + (a ++ t :: b).length) / 16 = zcf 0 (a ++ t :: b) := by
    rw [List.length_append, List.length_cons]
    omega
  rw [e2]
  exact hm
theorem zcf_quarter : ∀ (b : List Nat) (k : Nat), k + b.length ≤ 11 → zcf k b = 4 * zcf (k + 1) b
  | [], _, _ => rfl
  | t :: b, k, h => by
    rw [List.length_cons] at h
    show t * 4 ^ (11 - k) + zcf (k + 1) b = 4 * (t * 4 ^ (11 - (k + 1)) + zcf (k + 1 + 1) b)
    rw [zcf_quarter b (k + 1) (by omega), show 11 - k = (11 - (k + 1)) + 1 by omega, Nat.pow_succ, Nat.mul_add, ← Nat.mul_assoc, Nat.mul_comm _ 4]
theorem withThreadAt_ok {w a b : List Nat} {t : Nat} (hw : w = a ++ b) (h4 : ∀ u, u ∈ w → u < 4) (hl : w.length < 12) (ht : t < 4) : f4_withThreadAt (nI (zcf 0 w * 16 + w.length)) (nI a.length) (nI t) = nI (zcf 0 (a ++ t :: b) * 16 + (w.length + 1)) := by
  have hlen : a.length + b.length = w.length := by rw [hw, List.length_append]
  have hlt := zcf_lt w 0 h4 (by omega)
  have e12 : (4 : Nat) ^ (12 - 0) = 16777216 := by decide
  rw [e12] at hlt
  have hlen15 : f4_length (nI (zcf 0 w * 16 + w.length)) = nI w.length := by
    unfold f4_length
    have : (15 : Nat) = 2 ^ 4 - 1 := by decide
    rw [l_15, fa_and, this, Nat.and_two_pow_sub_one_eq_mod]
    congr 1
    omega
  have hb := zcf_lt b a.length (fun u hu => h4 u (by rw [hw]; exact List.mem_append_right _ hu)) (by omega)
  obtain ⟨x, hx⟩ := zcf_dvd a 0 (12 - a.length) (by omega)
  have hcode : zcf 0 w = 4 ^ (12 - a.length) * x + zcf a.length b := by rw [hw, zcf_app, Nat.zero_add, hx]
  have hq := zcf_quarter b a.length (by omega)
  have e4p : (2 : Nat) ^ (2 * (12 - a.length)) = 4 ^ (12 - a.length) := by rw [Nat.pow_mul]
  have hp0 : 0 < 4 ^ (12 - a.length) := Nat.pow_pos (by decide)
  have hz := zpow a.length (by omega)
  have hbound : 4 ^ (12 - a.length) * x ≤ zcf 0 w := by omega
  unfold f4_withThreadAt
  rw [hlen15, l_12, if_neg (nI_ge hl (by decide)), if_neg (nI_pos (by omega)), if_pos (nI_le (by omega) (by omega))]
  rw [pk_sub (show a.length ≤ 12 by omega), l_2, pk_mul, l_4, ishr_ok (by omega) (by decide)]
  have ediv : (zcf 0 w * 16 + w.length) / 2 ^ 4 = zcf 0 w := by omega
  rw [ediv, ishr_ok (by omega) (by omega), e4p]
  have eah : zcf 0 w / 4 ^ (12 - a.length) = x := by
    rw [hcode, Nat.mul_add_div hp0, Nat.div_eq_of_lt hb]; rfl
  have emod : zcf 0 w % 4 ^ (12 - a.length) = zcf a.length b := by
    rw [hcode, Nat.mul_add_mod, Nat.mod_eq_of_lt hb]
  rw [eah, shl_ok (by omega) (by rw [e4p, Nat.mul_comm]; omega), e4p, pk_sub (show 2 ≤ 2 * (12 - a.length) by omega)]
  have e4q : (2 : Nat) ^ (2 * (12 - a.length) - 2) = 4 ^ (11 - a.length) := by
    rw [show 2 * (12 - a.length) - 2 = 2 * (11 - a.length) by omega, Nat.pow_mul]
  have hq11 : 4 ^ (11 - a.length) ≤ 4 ^ 11 := Nat.pow_le_pow_right (by decide) (by omega)
  have e11 : (4 : Nat) ^ 11 = 4194304 := by decide
  have ht4 : t * 4 ^ (11 - a.length) ≤ 3 * 4 ^ (11 - a.length) := Nat.mul_le_mul_right _ (by omega)
  rw [shl_ok (n := t) (by omega) (by rw [e4q]; omega), e4q]
  have h12 : 4 ^ (12 - a.length) ≤ 4 ^ 12 := Nat.pow_le_pow_right (by decide) (by omega)
  have e12' : (4 : Nat) ^ 12 = 16777216 := by decide
  rw [l_1, shl_ok (n := 1) (by omega) (by rw [e4p]; omega), e4p, Nat.one_mul, pk_sub (show 1 ≤ 4 ^ (12 - a.length) by omega), fa_and, ← e4p, Nat.and_two_pow_sub_one_eq_mod, e4p, emod, ishr_ok (by omega) (by decide)]
  have eq4 : zcf a.length b / 2 ^ 2 = zcf (a.length + 1) b := by omega
  rw [eq4, fa_or, fa_or]
  have hb2 : zcf (a.length + 1) b < 4 ^ (11 - a.length) := by omega
  have eor1 : x * 4 ^ (12 - a.length) ||| t * 4 ^ (11 - a.length) = 4 ^ (11 - a.length) * (4 * x + t) := by
    rw [hz, ← Nat.mul_assoc, ← e4q, Nat.mul_comm _ (2 ^ _), Nat.mul_comm t]
    have : 2 ^ (2 * (12 - a.length) - 2) * (x * 4) = 2 ^ (2 * (12 - a.length) - 2 + 2) * x := by
      rw [Nat.pow_add, Nat.mul_comm x 4, Nat.mul_assoc]
    rw [this, ← Nat.two_pow_add_eq_or_of_lt (show 2 ^ (2 * (12 - a.length) - 2) * t < 2 ^ (2 * (12 - a.length) - 2 + 2) by
      rw [Nat.pow_add]; exact Nat.mul_lt_mul_of_pos_left ht (Nat.two_pow_pos _)), Nat.pow_add, Nat.mul_add, Nat.mul_assoc]
  rw [eor1, ← e4q, ← Nat.two_pow_add_eq_or_of_lt (by rw [e4q]; exact hb2), e4q, shl_ok (by decide) (by
    have : 4 ^ (11 - a.length) * (4 * x + t) + zcf (a.length + 1) b < 2 * 16777216 := by
      rw [Nat.mul_add, ← Nat.mul_assoc, Nat.mul_comm _ 4, ← hz, Nat.mul_comm _ t]; omega
    omega), nI_add, fa_or]
  congr 1
  rw [Nat.mul_comm _ (2 ^ 4), ← Nat.two_pow_add_eq_or_of_lt (by omega), Nat.mul_comm (2 ^ 4), zcf_app, Nat.zero_add, hx]
  show _ = (4 ^ (12 - a.length) * x + (t * 4 ^ (11 - a.length) + zcf (a.length + 1) b)) * 16 + _
  have : 4 ^ (11 - a.length) * (4 * x + t) = 4 ^ (12 - a.length) * x + t * 4 ^ (11 - a.length) := by
    rw [Nat.mul_add, ← Nat.mul_assoc, Nat.mul_comm _ 4, ← hz, Nat.mul_comm _ t]
  rw [this, Nat.add_assoc]
theorem zrc_cf (q : List Nat) : zrc q = zcf 0 q.reverse * 16 + q.reverse.length := by
  unfold zrc
  rw [zco_cf, List.length_reverse]
/-- a row that is told forward -/
def zrf (w : List Nat) : Nat := zcf 0 w * 16 + w.length
theorem zrf_rc (w : List Nat) : zrf w = zrc w.reverse := by rw [zrc_cf, List.reverse_reverse]; rfl
theorem zrc_rf (q : List Nat) : zrc q = zrf q.reverse := zrc_cf q
theorem zrf_lt {w : List Nat} (h : ∀ u, u ∈ w → u < 4) (hl : w.length ≤ 12) : zrf w < 268435456 := by
  rw [zrf_rc]
  exact zrc_lt (fun u hu => h u (List.mem_reverse.mp hu)) (by rw [List.length_reverse]; exact hl)
theorem zrf_len {w : List Nat} (hl : w.length ≤ 12) : f4_length (nI (zrf w)) = nI w.length := by
  rw [zrf_rc, zrc_len (by rw [List.length_reverse]; exact hl), List.length_reverse]
/-- one thread more at the end of a row -/
theorem longer_ok {q : List Nat} {t : Nat} (h3 : ∀ u, u ∈ q → u < 3) (hl : q.length < 12) (ht : t < 3) : f4_withThreadAt (nI (zrc q)) (nI q.length) (nI t) = nI (zrc (t :: q)) := by
  have h := withThreadAt_ok (w := q.reverse) (a := q.reverse) (b := []) (t := t) (by simp) (fun u hu => by have := h3 u (List.mem_reverse.mp hu); omega) (by rw [List.length_reverse]; exact hl) (by omega)
  rw [List.length_reverse] at h
  rw [zrc_cf, List.length_reverse, h, zrc_cf, List.reverse_cons, List.length_append, List.length_reverse]
  rfl
theorem threadAtR {x p y : List Nat} {t : Nat} (hx : x = p ++ t :: y) (h3 : ∀ u, u ∈ x → u < 3) (hl : x.length ≤ 12) : f4_threadAt (nI (zrc x)) (nI y.length) = nI t := by
  have h := threadAt_ok (w := x.reverse) (a := y.reverse) (b := p.reverse) (t := t) (by rw [hx]; simp) (fun u hu => by have := h3 u (List.mem_reverse.mp hu); omega) (by rw [List.length_reverse]; exact hl)
  rw [List.length_reverse (as := y)] at h
  rw [zrc_cf]
  exact h
theorem zok_drop {c : Nat → Nat} {g : Nat → Nat → Nat → Nat} : ∀ {p q : List Nat}, zok c g (p ++ q) → zok c g q
  | [], _, h => h
  | _ :: _, _, h => zok_drop h.1
/-- the moment behind a row -/
theorem momentBehind_ok {u : sT} {c : Nat → Nat} {g : Nat → Nat → Nat → Nat} {num : Nat → Nat} (hs : zst c g) (hn : ∀ y, y < 4 → num y < 10) (hC : zCS u c g) (hB : zMO u.2.2.1 g num []) {x : List Nat} (hx : zok c g x) : ∃ m, f5_momentBehind u (nI (zrc x)) = some m ∧ zMO m g num x := by
  have hl := zlen_le hs hx
  have loop : ∀ (r y : List Nat) (fuel : Nat) (m : Int64), x = r.reverse ++ y → zMO m g num y → ∃ m', f5_momentBehind_l8 (r.length + fuel + 1) u (nI (zrc x)) m (nI y.length) = some m' ∧ zMO m' g num x := by
    intro r
    induction r with
    | nil =>
      intro y fuel m e hM
      have e' : x = y := e
      subst e'
      rw [f5_momentBehind_l8_s, zrc_len hl, if_pos (nI_le (Nat.le_refl _) (by omega))]
      exact ⟨m, rfl, hM⟩
    | cons t r ih =>
      intro y fuel m e hM
      have e' : x = r.reverse ++ t :: y := by rw [e, List.reverse_cons, List.append_assoc]; rfl
      have hlen : x.length = r.length + (y.length + 1) := by rw [e', List.length_append, List.length_reverse, List.length_cons]
      have hok : zok c g (t :: y) := by
        have := hx
        rw [e'] at this
        exact zok_drop this
      obtain ⟨m', h1, h2⟩ := stepDone_ok hs hn hC hM hok
      obtain ⟨m'', h3, h4⟩ := ih (t :: y) fuel m' e' h2
      rw [show (t :: r).length + fuel + 1 = (r.length + fuel + 1) + 1 by rw [List.length_cons]; omega, f5_momentBehind_l8_s, zrc_len hl, if_neg (nI_ge (by omega) (by omega)), threadAtR e' (zmem hx) hl, h1, ab_bind, nI_1]
      exact ⟨m'', h3, h4⟩
  obtain ⟨fu, hf⟩ := kF (x.length + 1) (by omega)
  have := loop x.reverse [] fu u.2.2.1 (by simp) hB
  rw [List.length_reverse] at this
  unfold f5_momentBehind
  rw [hf, show x.length + 1 + fu = x.length + fu + 1 by omega]
  exact this
/-- numbers as a number -/
theorem ending_ok {m : Int64} {f : Nat → Nat} (h : ∀ x, x < 4 → nib m (4 + x) = f x) (hf : ∀ x, x < 4 → f x < 10) : f2_ending m = some (nI (zen f)) := by
  have one : ∀ (n b x : Nat), x < 4 → f2_ending_l4 (n + 1) m (nI b) (nI x) = f2_ending_l4 n m (nI (b * 10 + f x)) (nI (x + 1)) := by
    intro n b x hx
    rw [f2_ending_l4_s, l_4, if_neg (nI_ge hx (by decide)), l_10, pk_mul, valueOf_nib hx, h x hx, nI_add, nI_1]
  unfold f2_ending
  rw [show kFUEL = 999999995 + 1 + 1 + 1 + 1 + 1 from rfl]
  show f2_ending_l4 _ m (nI 0) (nI 0) = _
  rw [one _ _ 0 (by decide), one _ _ 1 (by decide), one _ _ 2 (by decide), one _ _ 3 (by decide), f2_ending_l4_s, l_4, if_pos (nI_le (by decide) (by decide))]
  unfold f2_ending_b26 zen
  congr 2
  omega
/-! the run's row -/
theorem take_split (w : List Nat) (k : Nat) (hk : k < w.length) : w = w.take k ++ w[k] :: w.drop (k + 1) := by
  rw [List.getElem_cons_drop hk, List.take_append_drop]
/-- where the next step of a thread goes -/
theorem firstPlace_ok {u : sT} {c : Nat → Nat} {g : Nat → Nat → Nat → Nat} (hs : zst c g) (hC : zCS u c g) {t j : Nat} (ht : t < 3) (hj : j < c t) {w : List Nat} (h3 : ∀ v, v ∈ w → v < 3) (hl : w.length ≤ 12) (hc : ∀ v, v < 3 → zfr w v ≤ c v) (hrow : u.2.2.2.2 = nI (zrf w)) :
    ∀ (pre s : List Nat) (m : Int64) (fuel : Nat), w = pre.reverse ++ s → (∀ v, v < 3 → nib m v = zfr pre v) → znd g t j pre s = true →
      ∃ p, p ≤ w.length ∧ f5_firstPlace_l35 (pre.length + fuel + 1) u (nI t) (nI (zpk g t j)) m (nI (pre.length + zfp t s)) (nI pre.length - 1) = some (nI p) ∧ zins g t j [] w = w.take p ++ t :: w.drop p := by
  intro pre
  have hokt := (hs t ht).2 _ hj
  induction pre with
  | nil =>
    intro s m fuel e hm hnd
    have e' : w = s := e
    subst e'
    refine ⟨zfp t w, zfp_le t w, ?_, zins_free w [] hnd⟩
    show f5_firstPlace_l35 (0 + fuel + 1) u _ _ m _ (nI 0 - 1) = _
    rw [f5_firstPlace_l35_s, ab_dec0, if_pos ab_m1neg]
    show some (nI (0 + zfp t w)) = _
    rw [Nat.zero_add]
  | cons v pre ih =>
    intro s m fuel e hm hnd
    have e' : w = pre.reverse ++ v :: s := by rw [e, List.reverse_cons, List.append_assoc]; rfl
    have hv3 : v < 3 := h3 v (by rw [e']; exact List.mem_append_right _ List.mem_cons_self)
    have hlen : w.length = pre.length + (s.length + 1) := by rw [e', List.length_append, List.length_reverse, List.length_cons]
    have hfp := zfp_le t s
    have hth : f4_threadAt u.2.2.2.2 (nI pre.length) = nI v := by
      have := threadAt_ok (w := w) (a := pre.reverse) (b := s) (t := v) e' (fun x hx => by have := h3 x hx; omega) hl
      rw [List.length_reverse] at this
      rw [hrow]
      exact this
    rw [show (v :: pre).length + fuel + 1 = (pre.length + fuel + 1) + 1 by rw [List.length_cons]; omega, f5_firstPlace_l35_s, List.length_cons, ab_dec, if_neg (nI_pos (by omega)), hth]
    have hstop : zdp g v (zfr pre v) t j = true → zins g t j [] w = w.take (pre.length + 1 + zfp t s) ++ t :: w.drop (pre.length + 1 + zfp t s) := by
      intro hd
      have h1 := zins_stop (g := g) (t := t) (j := j) (u := v) (b := s) pre.reverse [] (by rw [List.reverse_reverse, List.append_nil]; exact hd)
      rw [← e', List.reverse_reverse, List.append_nil, zins_free s (v :: pre) hnd] at h1
      rw [h1]
      have hp : (pre.reverse ++ [v]).length = pre.length + 1 := by rw [List.length_append, List.length_reverse]; rfl
      have ew : w = (pre.reverse ++ [v]) ++ s := by rw [e', List.append_assoc]; rfl
      rw [ew, ← hp, List.take_length_add_append, List.drop_length_add_append, List.append_assoc, List.append_assoc]
      rfl
    by_cases evt : v = t
    · subst evt
      rw [if_pos rfl]
      refine ⟨pre.length + 1 + zfp v s, by omega, rfl, hstop (zdp_self g v _ _)⟩
    · rw [if_neg (fun k => evt ((nI_eq (by omega) (by omega)).mp k))]
      have hfv : nib m v = zfr pre v + 1 := by rw [hm v hv3, zfr_same]
      have hfc : zfr pre v < c v := by
        have := hc v hv3
        rw [e', zfr_app, zfr_rev, zfr_same] at this
        omega
      have h4 := (hs v hv3).1
      rw [doneOf_nib hv3, hfv, ab_dec]
      have hm2 : ∀ x, x < 3 → nib (f2_withDone m (nI v) (nI (zfr pre v))) x = zfr pre x := by
        intro x hx
        rw [withDone_nib hv3 (by omega) (by omega)]
        by_cases exv : x = v
        · rw [if_pos exv, exv]
        · rw [if_neg exv, hm x hx, zfr_other pre exv]
      rw [nextStep_in hs hC hv3 (hm2 v hv3) hfc, ab_bind]
      have hokv := (hs v hv3).2 _ hfc
      rw [tied_ok hokt hokv (fun k => evt k.symm), zdp_symm]
      cases hd : zdp g v (zfr pre v) t j with
      | true =>
        rw [bI_t, if_neg i_1ne0]
        exact ⟨pre.length + 1 + zfp t s, by omega, rfl, hstop hd⟩
      | false =>
        rw [bI_f, if_pos rfl]
        have hnd2 : znd g t j pre (v :: s) = true := by rw [znd_c, hd, hnd]; rfl
        obtain ⟨p, p1, p2, p3⟩ := ih (v :: s) (f2_withDone m (nI v) (nI (zfr pre v))) fuel e' hm2 hnd2
        refine ⟨p, p1, ?_, p3⟩
        rw [← p2]
        have edec : nI pre.length + (-1) = nI pre.length - 1 := by
          cases pre.length with
          | zero => rw [ab_decm0, ab_dec0]
          | succ n => rw [ab_decm, ab_dec]
        unfold f5_firstPlace_b99
        rw [edec]
        show _ = f5_firstPlace_l35 _ u _ _ _ (nI (pre.length + if t < v then 0 else zfp t s + 1)) _
        by_cases hvt : t < v
        · rw [if_neg (nI_ge hvt (by omega)), if_pos hvt]; rfl
        · rw [if_pos (nI_le (by omega) (by omega)), if_neg hvt, show pre.length + 1 + zfp t s = pre.length + (zfp t s + 1) by omega]
