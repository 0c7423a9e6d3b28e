/-! the class's states as a whole -/
def zRS (u : sT) (c : Nat → Nat) (g : Nat → Nat → Nat → Nat) (num : Nat → Nat) (q : List Nat) : Prop := zCS u c g ∧ zMO u.2.2.1 g num [] ∧ zMO u.2.2.2.1 g num q ∧ u.2.2.2.2 = nI (zrf (zF g q))
/-- what holds of every program: steps as told, numbers, nothing beyond -/
def zPG (c : Nat → Nat) (g : Nat → Nat → Nat → Nat) (num : Nat → Nat) : Prop := zst c g ∧ (∀ y, y < 4 → num y < 10) ∧ (∀ t, 3 ≤ t → c t = 0) ∧ (∀ t i w, ¬ (t < 3 ∧ i < c t ∧ w < 3) → g t i w = 0) ∧ ∀ y, 4 ≤ y → num y = 0
theorem runOn_ok {u : sT} {c : Nat → Nat} {g : Nat → Nat → Nat → Nat} {num : Nat → Nat} {q : List Nat} {t : Nat} (hP : zPG c g num) (hR : zRS u c g num q) (h : zok c g (t :: q)) : ∃ u', f5_runOn u (nI t) = some u' ∧ zRS u' c g num (t :: q) := by
  obtain ⟨hs, hn, -⟩ := hP
  obtain ⟨hC, hB, hM, hrow⟩ := hR
  have ht := h.2.1
  have hl := zable_lt h.2.2
  have hlen := zlen_le hs h
  rw [List.length_cons] at hlen
  have hw3 : ∀ v, v ∈ zF g q → v < 3 := fun v hv => zmem h.1 v ((zF_mem g v q).mp hv)
  have hwl : (zF g q).length = q.length := zF_len g q
  obtain ⟨fu, hf⟩ := kF ((zF g q).reverse.length + 1) (by rw [List.length_reverse]; omega)
  obtain ⟨p, p1, p2, p3⟩ := firstPlace_ok hs hC ht hl hw3 (by omega) (fun v _ => by rw [zF_fr]; exact zfr_le h.1 v) hrow (zF g q).reverse [] u.2.2.2.1 fu (by simp) (fun v hv => by rw [zfr_rev, zF_fr]; exact hM.1 v hv) rfl
  obtain ⟨m', h1, h2⟩ := stepDone_ok (u := (u.1, u.2.1, u.2.2.1, u.2.2.2.1, f4_withThreadAt u.2.2.2.2 (nI p) (nI t))) hs hn (by exact hC) hM h
  refine ⟨(u.1, u.2.1, u.2.2.1, m', f4_withThreadAt u.2.2.2.2 (nI p) (nI t)), ?_, hC, hB, h2, ?_⟩
  · unfold f5_runOn f5_firstPlace
    rw [nextStep_in hs hC ht (hM.1 t ht) hl, ab_bind, hrow, zrf_len (by omega), hf]
    rw [List.length_reverse] at p2 ⊢
    rw [show (zF g q).length + 1 + fu = (zF g q).length + fu + 1 by omega]
    have p2' : f5_firstPlace_l35 ((zF g q).length + fu + 1) u (nI t) (nI (zpk g t (zfr q t))) u.2.2.2.1 (nI (zF g q).length) (nI (zF g q).length - 1) = some (nI p) := p2
    rw [p2', ab_bind]
    rw [hrow] at h1
    rw [h1, ab_bind]
  · show f4_withThreadAt u.2.2.2.2 (nI p) (nI t) = _
    have hw := withThreadAt_ok (w := zF g q) (a := (zF g q).take p) (b := (zF g q).drop p) (t := t) (List.take_append_drop p _).symm (fun v hv => by have := hw3 v hv; omega) (by omega) (by omega)
    rw [List.length_take, Nat.min_eq_left p1] at hw
    rw [hrow]
    show f4_withThreadAt (nI (zcf 0 (zF g q) * 16 + (zF g q).length)) (nI p) (nI t) = _
    rw [hw]
    show _ = nI (zrf (zins g t (zfr q t) [] (zF g q)))
    rw [p3]
    unfold zrf
    rw [List.length_append, List.length_cons, List.length_take, List.length_drop, Nat.min_eq_left p1, show p + ((zF g q).length - p + 1) = (zF g q).length + 1 by omega]
theorem takeFrom_ok {v w : sT} {c : Nat → Nat} {g : Nat → Nat → Nat → Nat} {num : Nat → Nat} {q : List Nat} (hs : zst c g) (hR : zRS w c g num q) : ∃ u, f5_takeFrom v w = some u ∧ zRS u c g num q := by
  refine ⟨_, rfl, ⟨fun t ht => ?_, fun t ht i hi => ?_⟩, hR.2.1, hR.2.2.1, hR.2.2.2⟩
  · show va_cpy w.2.1 v.2.1 0 0 3 t = _
    rw [pk_cpy_in (Nat.zero_le _) (by omega)]
    rw [show 0 + (t - 0) = t by omega]
    exact hR.1.1 t ht
  · show va_cpy w.1 v.1 0 0 12 (4 * t + i) = _
    have := (hs t ht).1
    rw [pk_cpy_in (Nat.zero_le _) (by omega)]
    rw [show 0 + (4 * t + i - 0) = 4 * t + i by omega]
    exact hR.1.2 t ht i hi
theorem stepsInAll_ok {u : sT} {c : Nat → Nat} {g : Nat → Nat → Nat → Nat} (hC : zCS u c g) : f5_stepsInAll u = some (nI (c 0 + c 1 + c 2)) := by
  have one : ∀ (n b t : Nat), t < 3 → f5_stepsInAll_l4 (n + 1) u (nI b) (nI t) = f5_stepsInAll_l4 n u (nI (b + c t)) (nI (t + 1)) := by
    intro n b t ht
    rw [f5_stepsInAll_l4_s, l_3, if_neg (nI_ge ht (by decide)), ard_ok ht (by omega), ab_bind, hC.1 t ht, nI_add, nI_1]
  unfold f5_stepsInAll
  rw [kF4]
  show f5_stepsInAll_l4 _ u (nI 0) (nI 0) = _
  rw [one _ _ 0 (by decide), one _ _ 1 (by decide), one _ _ 2 (by decide), f5_stepsInAll_l4_s, l_3, if_pos (nI_le (by decide) (by decide))]
  unfold f5_stepsInAll_b24
  rw [Nat.zero_add]
/-! what is kept of the leaves met so far (the latest ahead) -/
def zisE (num : Nat → Nat) (g : Nat → Nat → Nat → Nat) (R : List (List Nat)) (e : Nat) : Bool := R.any (fun x => decide (zen (zex num g x).1 = e))
def zue (num : Nat → Nat) (g : Nat → Nat → Nat → Nat) : List (List Nat) → Nat
  | [] => 0
  | x :: R => zue num g R + if zisE num g R (zen (zex num g x).1) = true then 0 else 1
def zss (c : Nat → Nat) (R : List (List Nat)) : Nat := R.countP (fun x => decide (x.length < c 0 + c 1 + c 2))
def zww (num : Nat → Nat) (g : Nat → Nat → Nat → Nat) (R : List (List Nat)) : Nat := R.countP (fun x => decide (0 < (zex num g x).2))
def zKR (c : Nat → Nat) (g : Nat → Nat → Nat → Nat) (num : Nat → Nat) (R : List (List Nat)) (rows ended : Nat → Int32) (count still wrong unlike : Int32) : Prop :=
  count = nI R.length ∧ (∀ k x, R.reverse[k]? = some x → rows k = nI (zrc x)) ∧ still = nI (zss c R) ∧ wrong = nI (zww num g R) ∧ unlike = nI (zue num g R) ∧ ∀ e, e < 10000 → ended e = bI (zisE num g R e)
theorem zisE_c (num : Nat → Nat) (g : Nat → Nat → Nat → Nat) (x : List Nat) (R : List (List Nat)) (e : Nat) : zisE num g (x :: R) e = (decide (zen (zex num g x).1 = e) || zisE num g R e) := rfl
theorem zss_c (c : Nat → Nat) (x : List Nat) (R : List (List Nat)) : zss c (x :: R) = zss c R + if x.length < c 0 + c 1 + c 2 then 1 else 0 := by
  unfold zss
  rw [List.countP_cons]
  by_cases h : x.length < c 0 + c 1 + c 2 <;> simp [h]
theorem zww_c (num : Nat → Nat) (g : Nat → Nat → Nat → Nat) (x : List Nat) (R : List (List Nat)) : zww num g (x :: R) = zww num g R + if 0 < (zex num g x).2 then 1 else 0 := by
  unfold zww
  rw [List.countP_cons]
  by_cases h : 0 < (zex num g x).2 <;> simp [h]
theorem keep_ok {c : Nat → Nat} {g : Nat → Nat → Nat → Nat} {num : Nat → Nat} (hP : zPG c g num) {R : List (List Nat)} {rows ended : Nat → Int32} {count still wrong unlike : Int32} (hK : zKR c g num R rows ended count still wrong unlike) {x : List Nat} {m : Int64} (hx : zok c g x) (hM : zMO m g num x) (hR : R.length < 34650) :
    ∃ z, f0_keep rows ended (nI (c 0 + c 1 + c 2)) count still wrong unlike m (nI (zrc x)) = some z ∧ zKR c g num (x :: R) z.1 z.2.1 z.2.2.1 z.2.2.2.1 z.2.2.2.2.1 z.2.2.2.2.2 := by
  obtain ⟨hs, hn, -⟩ := hP
  obtain ⟨k1, k2, k3, k4, k5, k6⟩ := hK
  have hl := zlen_le hs hx
  have hex := zex_lt hs hn hx
  have hen := zen_lt hex.1
  have h0 := (hs 0 (by omega)).1
  have h1 := (hs 1 (by omega)).1
  have h2 := (hs 2 (by omega)).1
  have hrow : ∀ (k : Nat) (y : List Nat), (x :: R).reverse[k]? = some y → upd rows R.length (nI (zrc x)) k = nI (zrc y) := by
    intro k y hy
    rw [List.reverse_cons] at hy
    rw [ab_upd]
    by_cases e : k < R.length
    · rw [if_neg (by omega)]
      rw [List.getElem?_append_left (by rw [List.length_reverse]; exact e)] at hy
      exact k2 k y hy
    · rw [List.getElem?_append_right (by rw [List.length_reverse]; omega), List.length_reverse] at hy
      by_cases e2 : k = R.length
      · rw [if_pos e2]
        rw [e2, Nat.sub_self] at hy
        have : x = y := by simpa using hy
        rw [this]
      · rw [List.getElem?_eq_none (by simp; omega)] at hy
        cases hy
  have hend : ∀ (b : Bool), zisE num g R (zen (zex num g x).1) = b → ∀ e, e < 10000 → (if b = true then ended else upd ended (zen (zex num g x).1) 1) e = bI (zisE num g (x :: R) e) := by
    intro b hb e he
    rw [zisE_c]
    cases b with
    | true =>
      rw [if_pos rfl, k6 e he]
      by_cases d : zen (zex num g x).1 = e
      · rw [decide_eq_true d, ← d, hb]; rfl
      · rw [decide_eq_false d, Bool.false_or]
    | false =>
      rw [if_neg (by decide), ab_upd]
      by_cases d : zen (zex num g x).1 = e
      · rw [if_pos d.symm, decide_eq_true d]; rfl
      · rw [if_neg (fun k => d k.symm), decide_eq_false d, Bool.false_or, k6 e he]
  have b68 : ∀ (st wr : Nat), f0_keep_b68 (upd rows R.length (nI (zrc x))) ended (nI (c 0 + c 1 + c 2)) (nI (R.length + 1)) (nI st) (nI wr) unlike m = some (upd rows R.length (nI (zrc x)), (if zisE num g R (zen (zex num g x).1) = true then ended else upd ended (zen (zex num g x).1) 1), nI (R.length + 1), nI st, nI wr, nI (zue num g (x :: R))) := by
    intro st wr
    unfold f0_keep_b68
    rw [ending_ok hM.2.2.1 hex.1, ab_bind, l_10000, ab_below_in hen (by decide), if_neg i_1ne0, ard_ok hen (by omega), ab_bind, k6 _ hen, k5]
    show _ = some (_, _, _, _, _, nI (zue num g R + if zisE num g R (zen (zex num g x).1) = true then 0 else 1))
    cases zisE num g R (zen (zex num g x).1) with
    | true => rw [bI_t, if_neg i_1ne0]; rfl
    | false => rw [bI_f, if_pos rfl, awr_ok hen (by omega), ab_bind, nI_1]; rfl
  have b51 : ∀ (st : Nat), f0_keep_b51 (upd rows R.length (nI (zrc x))) ended (nI (c 0 + c 1 + c 2)) (nI (R.length + 1)) (nI st) wrong unlike m = some (upd rows R.length (nI (zrc x)), (if zisE num g R (zen (zex num g x).1) = true then ended else upd ended (zen (zex num g x).1) 1), nI (R.length + 1), nI st, nI (zww num g (x :: R)), nI (zue num g (x :: R))) := by
    intro st
    unfold f0_keep_b51
    rw [wrong_nib, hM.2.1, k4, zww_c]
    by_cases e : 0 < (zex num g x).2
    · rw [if_neg (nI_nle e (by omega)), nI_1, if_pos e]
      exact b68 st _
    · rw [if_pos (show nI (zex num g x).2 ≤ 0 from nI_le (b := 0) (by omega) (by decide)), if_neg e]
      exact b68 st _
  refine ⟨(upd rows R.length (nI (zrc x)), (if zisE num g R (zen (zex num g x).1) = true then ended else upd ended (zen (zex num g x).1) 1), nI (R.length + 1), nI (zss c (x :: R)), nI (zww num g (x :: R)), nI (zue num g (x :: R))), ?_, ?_⟩
  · unfold f0_keep
    rw [k1, l_34650, if_pos (nI_lt hR (by decide)), awr_ok hR (by omega), ab_bind, zrc_len hl, nI_1, k3, zss_c]
    by_cases e : x.length < c 0 + c 1 + c 2
    · rw [if_neg (nI_ge e (by omega)), nI_1, if_pos e]
      exact b51 _
    · rw [if_pos (nI_le (by omega) (by omega)), if_neg e]
      exact b51 _
  · exact ⟨rfl, hrow, rfl, rfl, rfl, hend _ rfl⟩
/-! sleeping threads -/
theorem zbits_cong {f h : Nat → Bool} (e : ∀ t, t < 3 → f t = h t) : zbits f = zbits h := by
  unfold zbits
  rw [e 0 (by omega), e 1 (by omega), e 2 (by omega)]
theorem zbits_or (f : Nat → Bool) {t : Nat} (ht : t < 3) : zbits f ||| 2 ^ t = zbits (fun u => f u || decide (u = t)) := by
  have h : ∀ a b d : Bool, ∀ t, t < 3 → (((0 ||| zbt a 0) ||| zbt b 1) ||| zbt d 2) ||| 2 ^ t = ((0 ||| zbt (a || decide (0 = t)) 0) ||| zbt (b || decide (1 = t)) 1) ||| zbt (d || decide (2 = t)) 2 := by decide +kernel
  exact h (f 0) (f 1) (f 2) t ht
theorem zbits_awake (A S : Nat → Bool) {t : Nat} (ht : t < 3) : ((nI (zbits A) &&& (nI (zbits S) ^^^ (-1 : Int32))) &&& nI (2 ^ t)) = 0 ↔ (A t = false ∨ S t = true) := by
  have hb : ∀ a0 a1 a2 s0 s1 s2 : Bool, ∀ t, t < 3 → (((nI (((0 ||| zbt a0 0) ||| zbt a1 1) ||| zbt a2 2) &&& (nI (((0 ||| zbt s0 0) ||| zbt s1 1) ||| zbt s2 2) ^^^ (-1 : Int32))) &&& nI (2 ^ t)) = 0 ↔ ((if t = 0 then a0 else if t = 1 then a1 else a2) = false ∨ (if t = 0 then s0 else if t = 1 then s1 else s2) = true)) := by decide +kernel
  have := hb (A 0) (A 1) (A 2) (S 0) (S 1) (S 2) t ht
  have e : t = 0 ∨ t = 1 ∨ t = 2 := by omega
  unfold zbits
  rcases e with rfl | rfl | rfl
  · exact this
  · exact this
  · exact this
theorem notWoken_ok {u : sT} {c : Nat → Nat} {g : Nat → Nat → Nat → Nat} {num : Nat → Nat} {m : Int64} {q : List Nat} {t : Nat} (hs : zst c g) (hC : zCS u c g) (hM : zMO m g num q) (h : zok c g (t :: q)) {S : Nat → Bool} (hS : ∀ v, v < 3 → S v = true → zable c g (zfr q) v = true) (hSt : S t = false) : f0_notWoken u m (nI t) (nI (zbits S)) = some (nI (zbits (fun v => S v && !zdp g t (zfr q t) v (zfr q v)))) := by
  have ht := h.2.1
  have hl := zable_lt h.2.2
  have hok := (hs t ht).2 _ hl
  have one : ∀ (n b v : Nat), v < 3 → f0_notWoken_l17 (n + 1) u m (nI (zbits S)) (nI (zpk g t (zfr q t))) (nI b) (nI v) = f0_notWoken_l17 n u m (nI (zbits S)) (nI (zpk g t (zfr q t))) (nI (b ||| zbt (S v && !zdp g t (zfr q t) v (zfr q v)) v)) (nI (v + 1)) := by
    intro n b v hv
    rw [f0_notWoken_l17_s, l_3, if_neg (nI_ge hv (by decide)), shl1 hv]
    unfold f0_notWoken_b60
    cases hSv : S v with
    | false =>
      rw [if_pos ((zbits_t S hv).mpr hSv), nI_1]
      show _ = f0_notWoken_l17 n u m _ _ (nI (b ||| zbt false v)) _
      rw [show b ||| zbt false v = b by unfold zbt; simp]
    | true =>
      have hne : t ≠ v := by
        intro e; rw [e] at hSt; rw [hSt] at hSv; cases hSv
      have hlv := zable_lt (hS v hv hSv)
      rw [if_neg (fun k => by rw [(zbits_t S hv).mp k] at hSv; cases hSv), nextStep_in hs hC hv (hM.1 v hv) hlv, ab_bind, tied_ok hok ((hs v hv).2 _ hlv) hne]
      cases hd : zdp g t (zfr q t) v (zfr q v) with
      | true =>
        rw [bI_t, if_neg i_1ne0, nI_1]
        show _ = f0_notWoken_l17 n u m _ _ (nI (b ||| zbt false v)) _
        rw [show b ||| zbt false v = b by unfold zbt; simp]
      | false =>
        rw [bI_f, if_pos rfl, fa_or, nI_1]
        rfl
  unfold f0_notWoken
  rw [nextStep_in hs hC ht (hM.1 t ht) hl, ab_bind, kF4]
  show f0_notWoken_l17 _ u m _ _ (nI 0) (nI 0) = _
  rw [one _ _ 0 (by decide), one _ _ 1 (by decide), one _ _ 2 (by decide), f0_notWoken_l17_s, l_3, if_pos (nI_le (by decide) (by decide))]
  rfl
/-! all orders, as the class goes through them -/
theorem goOn_ok {u : sT} {c : Nat → Nat} {g : Nat → Nat → Nat → Nat} {num : Nat → Nat} (hP : zPG c g num) (hC : zCS u c g) : ∀ (n : Nat) (q : List Nat) (R : List (List Nat)) (rows ended : Nat → Int32) (count still wrong unlike : Int32) (m : Int64) (k : Nat),
    zok c g q → q.length + n = c 0 + c 1 + c 2 → zMO m g num q → zKR c g num R rows ended count still wrong unlike → R.length + (zsub c g n q).length ≤ 34650 →
      ∃ z, f0_goOn (n + k + 1) u rows ended (nI (c 0 + c 1 + c 2)) count still wrong unlike m (nI (zrc q)) (nI (zbits (zsl c g q))) = some z ∧ zKR c g num ((zsub c g n q).reverse ++ R) z.1 z.2.1 z.2.2.1 z.2.2.2.1 z.2.2.2.2.1 z.2.2.2.2.2 := by
  have hs := hP.1
  have hn := hP.2.1
  have h0 := (hs 0 (by omega)).1
  have h1 := (hs 1 (by omega)).1
  have h2 := (hs 2 (by omega)).1
  intro n
  induction n with
  | zero =>
    intro q R rows ended count still wrong unlike m k hq hlen hM hK hR
    have hst := zfull hq (by omega)
    have hz := zbits_0 (zable c g (zfr q))
    have hst' := zstill_iff.mp hst
    obtain ⟨z, z1, z2⟩ := keep_ok hP hK hq hM (by have : (zsub c g 0 q).length = 1 := rfl; omega)
    refine ⟨z, ?_, z2⟩
    show ((f5_ableBits u m).bind _) = _
    rw [ableBits_ok hs hC hM, ab_bind, hz.mpr ⟨hst' 0 (by omega), hst' 1 (by omega), hst' 2 (by omega)⟩, if_pos (show nI 0 = 0 from rfl)]
    unfold f0_goOn_b24
    rw [z1, ab_bind]
  | succ n ih =>
    intro q R rows ended count still wrong unlike m k hq hlen hM hK hR
    have hz := zbits_0 (zable c g (zfr q))
    by_cases hst : zstill c g q = true
    · have hst' := zstill_iff.mp hst
      rw [zsub_still _ hst] at hR ⊢
      obtain ⟨z, z1, z2⟩ := keep_ok hP hK hq hM (by have : [q].length = 1 := rfl; omega)
      refine ⟨z, ?_, z2⟩
      show ((f5_ableBits u m).bind _) = _
      rw [ableBits_ok hs hC hM, ab_bind, hz.mpr ⟨hst' 0 (by omega), hst' 1 (by omega), hst' 2 (by omega)⟩, if_pos (show nI 0 = 0 from rfl)]
      unfold f0_goOn_b24
      rw [z1, ab_bind]
    · have hnz : zbits (zable c g (zfr q)) ≠ 0 := by
        intro e
        obtain ⟨a, b, d⟩ := hz.mp e
        refine hst (zstill_iff.mpr (fun t ht => ?_))
        have : t = 0 ∨ t = 1 ∨ t = 2 := by omega
        rcases this with rfl | rfl | rfl
        · exact a
        · exact b
        · exact d
      have hb8 := zbits_lt (zable c g (zfr q))
      have hq3 := zmem hq
      rw [zsub_s, if_neg hst] at hR ⊢
      rw [List.length_append, List.length_append] at hR
      /- one thread of the loop -/
      have one : ∀ (t : Nat) (F : Nat) (R : List (List Nat)) (rows ended : Nat → Int32) (count still wrong unlike : Int32), t < 3 → zKR c g num R rows ended count still wrong unlike → R.length + (zkid c g n q t).length ≤ 34650 →
          ∃ z : (Nat → Int32) × (Nat → Int32) × Int32 × Int32 × Int32 × Int32, f0_goOn_l38 (f0_goOn (n + k + 1)) (F + 1) u rows ended (nI (c 0 + c 1 + c 2)) count still wrong unlike m (nI (zrc q)) (nI (zbits (zable c g (zfr q)))) (nI (zbits (fun v => zsl c g q v || (decide (v < t) && zable c g (zfr q) v)))) (nI t) = f0_goOn_l38 (f0_goOn (n + k + 1)) F u z.1 z.2.1 (nI (c 0 + c 1 + c 2)) z.2.2.1 z.2.2.2.1 z.2.2.2.2.1 z.2.2.2.2.2 m (nI (zrc q)) (nI (zbits (zable c g (zfr q)))) (nI (zbits (fun v => zsl c g q v || (decide (v < t + 1) && zable c g (zfr q) v)))) (nI (t + 1)) ∧ zKR c g num ((zkid c g n q t).reverse ++ R) z.1 z.2.1 z.2.2.1 z.2.2.2.1 z.2.2.2.2.1 z.2.2.2.2.2 := by
        intro t F R rows ended count still wrong unlike ht hK hR
        rw [f0_goOn_l38_s, l_3, if_neg (nI_ge ht (by decide)), shl1 ht]
        unfold f0_goOn_b109
        by_cases hm : zmay c g q t = true
        · have hokt := zmay_ok hq ht hm
          have hmm := hm
          unfold zmay at hmm
          rw [Bool.and_eq_true] at hmm
          have hslt : zsl c g q t = false := by unfold zsl; rw [hmm.2]; simp
          have hcond : ¬ ((nI (zbits (zable c g (zfr q))) &&& (nI (zbits (fun v => zsl c g q v || (decide (v < t) && zable c g (zfr q) v))) ^^^ (-1 : Int32))) &&& nI (2 ^ t)) = 0 := by
            rw [zbits_awake _ _ ht, hmm.1, hslt]
            simp
          rw [if_neg hcond, notWoken_ok hs hC hM hokt (S := fun v => zsl c g q v || (decide (v < t) && zable c g (zfr q) v)) (fun v _ hv => by
            rw [Bool.or_eq_true] at hv
            rcases hv with hv | hv
            · unfold zsl at hv; rw [Bool.and_eq_true] at hv; exact hv.1
            · rw [Bool.and_eq_true] at hv; exact hv.2) (by show (zsl c g q t || (decide (t < t) && zable c g (zfr q) t)) = false; rw [hslt]; simp), ab_bind]
          obtain ⟨m', m1, m2⟩ := stepDone_ok hs hn hC hM hokt
          rw [m1, ab_bind]
          have hlen12 : q.length < 12 := by omega
          rw [zrc_len (by omega), longer_ok hq3 hlen12 ht]
          have hzk : zkid c g n q t = zsub c g n (t :: q) := by unfold zkid; rw [if_pos hm]
          rw [hzk] at hR ⊢
          have hbb : zbits (fun v => (zsl c g q v || (decide (v < t) && zable c g (zfr q) v)) && !zdp g t (zfr q t) v (zfr q v)) = zbits (zsl c g (t :: q)) := zbits_cong (fun v _ => (zsl_step hokt).symm)
          rw [hbb]
          obtain ⟨z, z1, z2⟩ := ih (t :: q) R rows ended count still wrong unlike m' k hokt (by rw [List.length_cons]; omega) m2 hK hR
          rw [z1, ab_bind, fa_or, zbits_or _ ht, nI_1]
          refine ⟨z, ?_, z2⟩
          have e2 : zbits (fun u => (zsl c g q u || (decide (u < t) && zable c g (zfr q) u)) || decide (u = t)) = zbits (fun v => zsl c g q v || (decide (v < t + 1) && zable c g (zfr q) v)) := zbits_cong (fun v _ => by
            by_cases e : v = t
            · subst e; rw [hmm.1]; simp
            · by_cases e2 : v < t
              · have : v < t + 1 := by omega
                simp [e, e2, this]
              · have : ¬ v < t + 1 := by omega
                simp [e, e2, this])
          rw [e2]
        · have hzk : zkid c g n q t = [] := by unfold zkid; rw [if_neg hm]
          rw [hzk]
          have hmf : zable c g (zfr q) t = false ∨ zsl c g q t = true := by
            unfold zmay at hm
            unfold zsl
            cases ha : zable c g (zfr q) t with
            | false => exact Or.inl rfl
            | true =>
              rw [ha, Bool.true_and] at hm
              right
              have : zmg g t (zfr q t) q = false := by simpa using hm
              rw [this]; rfl
          have hcond : ((nI (zbits (zable c g (zfr q))) &&& (nI (zbits (fun v => zsl c g q v || (decide (v < t) && zable c g (zfr q) v))) ^^^ (-1 : Int32))) &&& nI (2 ^ t)) = 0 := by
            rw [zbits_awake _ _ ht]
            rcases hmf with e | e
            · exact Or.inl e
            · exact Or.inr (by rw [e]; rfl)
          rw [if_pos hcond, nI_1]
          refine ⟨(rows, ended, count, still, wrong, unlike), ?_, hK⟩
          have e2 : zbits (fun v => zsl c g q v || (decide (v < t) && zable c g (zfr q) v)) = zbits (fun v => zsl c g q v || (decide (v < t + 1) && zable c g (zfr q) v)) := zbits_cong (fun v _ => by
            by_cases e : v = t
            · subst e
              rcases hmf with e3 | e3
              · rw [e3]; simp
              · rw [e3]; simp
            · by_cases e2 : v < t
              · have : v < t + 1 := by omega
                simp [e2, this]
              · have : ¬ v < t + 1 := by omega
                simp [e2, this])
          rw [e2]
      have s0 : zbits (zsl c g q) = zbits (fun v => zsl c g q v || (decide (v < 0) && zable c g (zfr q) v)) := zbits_cong (fun v _ => by simp)
      obtain ⟨y0, a0, b0⟩ := one 0 (999999996 + 1 + 1 + 1) R rows ended count still wrong unlike (by omega) hK (by omega)
      obtain ⟨y1, a1, b1⟩ := one 1 (999999996 + 1 + 1) _ _ _ _ _ _ _ (by omega) b0 (by rw [List.length_append, List.length_reverse]; omega)
      obtain ⟨y2, a2, b2⟩ := one 2 (999999996 + 1) _ _ _ _ _ _ _ (by omega) b1 (by rw [List.length_append, List.length_append, List.length_reverse, List.length_reverse]; omega)
      refine ⟨y2, ?_, ?_⟩
      · show ((f5_ableBits u m).bind _) = _
        rw [ableBits_ok hs hC hM, ab_bind, if_neg (nI_ne0 (Nat.pos_of_ne_zero hnz) (by omega)), zrc_len (by omega), l_12, if_pos (nI_lt (by omega) (by decide)), kF4, s0]
        rw [show n + 1 + k = n + k + 1 by omega]
        refine Eq.trans a0 (Eq.trans a1 (Eq.trans a2 ?_))
        rw [f0_goOn_l38_s, l_3, if_pos (nI_le (by decide) (by decide))]
      · rw [List.reverse_append, List.reverse_append, List.append_assoc, List.append_assoc]
        exact b2
