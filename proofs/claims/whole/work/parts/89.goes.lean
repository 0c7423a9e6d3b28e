/-! the reference's way through all orders -/
def zFQ (far row stepAt : Nat → Int32) (depth : Int32) (q : List Nat) : Prop :=
  (∀ t, t < 3 → far t = nI (zfr q t)) ∧ depth = nI q.length ∧ ∀ p t y, q = p ++ t :: y → row y.length = nI t ∧ stepAt y.length = nI (zfr y t)
theorem zFQ_FA {far row stepAt : Nat → Int32} {depth : Int32} {c : Nat → Nat} {g : Nat → Nat → Nat → Nat} {q : List Nat} (h : zFQ far row stepAt depth q) (hq : zok c g q) : zFA far c (zfr q) := fun t ht => ⟨h.1 t ht, zfr_le hq t⟩
theorem mayGo_ok {all far row stepAt : Nat → Int32} {depth : Int32} {c : Nat → Nat} {g : Nat → Nat → Nat → Nat} {num : Nat → Nat} {rn q : List Nat} (hs : zst c g) (hR : zRM all c g num rn) (hq : zok c g q) (hQ : zFQ far row stepAt depth q) {u : Nat} (hu : u < 3) : f9_mayGo all far row stepAt depth (nI u) = some (bI (zmay c g q u)) := by
  have hl := zlen_le hs hq
  have hc4 := (hs u hu).1
  unfold f9_mayGo zmay
  rw [canDoM hs hR (zFQ_FA hQ hq) hu, ab_bind]
  cases ha : zable c g (zfr q) u with
  | false => rw [bI_f, if_pos rfl]; rfl
  | true =>
    have hlt := zable_lt ha
    rw [bI_t, if_neg i_1ne0, Bool.true_and]
    have loop : ∀ (y p : List Nat) (fuel : Nat), q = p ++ y → f9_mayGo_l17 (y.length + fuel + 1) all far row stepAt depth (nI u) (nI y.length - 1) = some (bI (zmg g u (zfr q u) y)) := by
      intro y
      induction y with
      | nil =>
        intro p fuel e
        rw [show ([] : List Nat).length + fuel + 1 = fuel + 1 by simp, f9_mayGo_l17_s]
        show (if nI 0 - 1 < 0 then _ else _) = _
        rw [ab_dec0, if_pos ab_m1neg]
        rfl
      | cons t y ih =>
        intro p fuel e
        have hlen : q.length = p.length + (y.length + 1) := by rw [e, List.length_append, List.length_cons]
        have hok : zok c g (t :: y) := by
          have := hq
          rw [e] at this
          exact zok_drop this
        have ht := hok.2.1
        have hrow := hQ.2.2 p t y e
        rw [show (t :: y).length + fuel + 1 = (y.length + fuel + 1) + 1 by rw [List.length_cons]; omega, f9_mayGo_l17_s, List.length_cons, ab_dec, if_neg (nI_pos (by omega)), ard_ok (by omega) (by omega), ab_bind, ard_ok (by omega) (by omega), ab_bind, ard_ok hu (by omega), ab_bind, hrow.1, hrow.2, hQ.1 u hu, areDependent_ok hs hR ht (zable_lt hok.2.2) hu hlt, ab_bind, ab_bind]
        have hc4t := (hs t ht).1
        rw [zmg_c]
        cases hd : zdp g t (zfr y t) u (zfr q u) with
        | true => rw [bI_t, if_neg i_1ne0, if_pos rfl]; rfl
        | false =>
          rw [bI_f, if_pos rfl, if_neg (show ¬ false = true from by decide)]
          by_cases e2 : u < t
          · rw [if_neg (nI_ge e2 (by omega)), if_pos e2]; rfl
          · rw [if_pos (nI_le (by omega) (by omega)), if_neg e2]
            have edec : nI y.length + (-1) = nI y.length - 1 := by
              cases y.length with
              | zero => rw [ab_decm0, ab_dec0]
              | succ n => rw [ab_decm, ab_dec]
            rw [edec]
            exact ih (p ++ [t]) fuel (by rw [e, List.append_assoc]; rfl)
    obtain ⟨fu, hf⟩ := kF (q.length + 1) (by omega)
    have hf2 : kFUEL = q.length + fu + 1 := by omega
    have h := loop q [] fu rfl
    rw [hQ.2.1] at h
    rw [hf2, hQ.2.1]
    exact h
/-! what is left to go through -/
def zfrom (c : Nat → Nat) (g : Nat → Nat → Nat → Nat) (n : Nat) (q : List Nat) (a : Nat) : List (List Nat) :=
  (if a ≤ 0 then zkid c g n q 0 else []) ++ ((if a ≤ 1 then zkid c g n q 1 else []) ++ (if a ≤ 2 then zkid c g n q 2 else []))
def zanc (c : Nat → Nat) (g : Nat → Nat → Nat → Nat) (T : Nat) (tr : Nat → Nat) : List Nat → List (List Nat)
  | [] => []
  | _ :: q => zfrom c g (T - q.length - 1) q (tr q.length) ++ zanc c g T tr q
def zrest (c : Nat → Nat) (g : Nat → Nat → Nat → Nat) (T : Nat) (tr : Nat → Nat) (q : List Nat) : List (List Nat) :=
  (if tr q.length = 0 then zsub c g (T - q.length) q else zfrom c g (T - q.length - 1) q (tr q.length)) ++ zanc c g T tr q
def zpa (T : Nat) (tr : Nat → Nat) : List Nat → Nat
  | [] => 0
  | _ :: q => (3 - tr q.length) * (2 * 4 ^ (T - q.length)) + zpa T tr q
def zph (T : Nat) (tr : Nat → Nat) (q : List Nat) : Nat := (3 - tr q.length) * (2 * 4 ^ (T - q.length)) + zpa T tr q + q.length
theorem zfrom_3 (c : Nat → Nat) (g : Nat → Nat → Nat → Nat) (n : Nat) (q : List Nat) : zfrom c g n q 3 = [] := rfl
theorem zfrom_s {c : Nat → Nat} {g : Nat → Nat → Nat → Nat} {n : Nat} {q : List Nat} {a : Nat} (h : a < 3) : zfrom c g n q a = zkid c g n q a ++ zfrom c g n q (a + 1) := by
  have : a = 0 ∨ a = 1 ∨ a = 2 := by omega
  rcases this with rfl | rfl | rfl
  · rfl
  · rfl
  · show [] ++ ([] ++ zkid c g n q 2) = zkid c g n q 2 ++ ([] ++ ([] ++ []))
    simp
theorem zfrom_skip {c : Nat → Nat} {g : Nat → Nat → Nat → Nat} {n : Nat} {q : List Nat} {a : Nat} (h : a < 3) (hm : zmay c g q a = false) : zfrom c g n q a = zfrom c g n q (a + 1) := by
  rw [zfrom_s h]
  unfold zkid
  rw [hm]
  rfl
theorem zfrom_still {c : Nat → Nat} {g : Nat → Nat → Nat → Nat} {n : Nat} {q : List Nat} (hst : zstill c g q = true) (a : Nat) : zfrom c g n q a = [] := by
  unfold zfrom
  rw [zkid_still n (by omega) hst, zkid_still n (by omega) hst, zkid_still n (by omega) hst]
  by_cases h0 : a ≤ 0 <;> by_cases h1 : a ≤ 1 <;> by_cases h2 : a ≤ 2 <;> simp [h0, h1, h2]
theorem zanc_cong {c : Nat → Nat} {g : Nat → Nat → Nat → Nat} {T : Nat} {tr tr' : Nat → Nat} : ∀ {q : List Nat}, (∀ k, k < q.length → tr k = tr' k) → zanc c g T tr q = zanc c g T tr' q
  | [], _ => rfl
  | _ :: q, h => by
    show zfrom c g _ q (tr q.length) ++ zanc c g T tr q = zfrom c g _ q (tr' q.length) ++ zanc c g T tr' q
    rw [h q.length (by rw [List.length_cons]; omega), zanc_cong (fun k hk => h k (by rw [List.length_cons]; omega))]
theorem zpa_cong {T : Nat} {tr tr' : Nat → Nat} : ∀ {q : List Nat}, (∀ k, k < q.length → tr k = tr' k) → zpa T tr q = zpa T tr' q
  | [], _ => rfl
  | _ :: q, h => by
    show (3 - tr q.length) * _ + zpa T tr q = (3 - tr' q.length) * _ + zpa T tr' q
    rw [h q.length (by rw [List.length_cons]; omega), zpa_cong (fun k hk => h k (by rw [List.length_cons]; omega))]
/-- a state of the reference on its way -/
def zGS (c : Nat → Nat) (g : Nat → Nat → Nat → Nat) (far row stepAt : Nat → Int32) (depth : Int32) (tries : Nat → Int32) (q : List Nat) (tr : Nat → Nat) : Prop :=
  zok c g q ∧ zFQ far row stepAt depth q ∧ ∀ k, k ≤ q.length → tries k = nI (tr k) ∧ tr k ≤ 3
theorem triesI {all far row stepAt tries : Nat → Int32} {depth : Int32} {c : Nat → Nat} {g : Nat → Nat → Nat → Nat} {num : Nat → Nat} {rn q : List Nat} (hs : zst c g) (hR : zRM all c g num rn) (hq : zok c g q) (hQ : zFQ far row stepAt depth q) (kk : (Nat → Int32) → (Nat → Int32) → (Nat → Int32) → (Nat → Int32) → Int32 → (Nat → Int32) → Option (Int32 × (Nat → Int32) × (Nat → Int32) × (Nat → Int32) × Int32 × (Nat → Int32))) (n : Nat) :
    ∀ (d a fuel : Nat), a + d = 3 → ∃ b, a ≤ b ∧ b ≤ 3 ∧ f9_goesOn_l41 kk (d + fuel + 1) all far row stepAt depth tries (nI a) = f9_goesOn_b60 kk all far row stepAt depth tries (nI b) ∧ zfrom c g n q a = zfrom c g n q b ∧ (b < 3 → zmay c g q b = true) := by
  intro d
  induction d with
  | zero =>
    intro a fuel ha
    have e : a = 3 := by omega
    subst e
    refine ⟨3, Nat.le_refl _, Nat.le_refl _, ?_, rfl, fun h => absurd h (by omega)⟩
    rw [show 0 + fuel + 1 = fuel + 1 by omega, f9_goesOn_l41_s, l_3, if_pos (nI_le (Nat.le_refl _) (by decide))]
  | succ d ih =>
    intro a fuel ha
    have ha3 : a < 3 := by omega
    rw [show d + 1 + fuel + 1 = (d + fuel + 1) + 1 by omega, f9_goesOn_l41_s, l_3, if_neg (nI_ge ha3 (by decide)), mayGo_ok hs hR hq hQ ha3, ab_bind]
    cases hm : zmay c g q a with
    | true =>
      rw [bI_t, if_neg i_1ne0]
      exact ⟨a, Nat.le_refl _, by omega, rfl, rfl, fun _ => hm⟩
    | false =>
      rw [bI_f, if_pos rfl, nI_1]
      obtain ⟨b, b1, b2, b3, b4, b5⟩ := ih (a + 1) fuel (by omega)
      exact ⟨b, by omega, b2, b3, by rw [zfrom_skip ha3 hm]; exact b4, b5⟩
theorem goesOn_ok {all : Nat → Int32} {c : Nat → Nat} {g : Nat → Nat → Nat → Nat} {num : Nat → Nat} {rn : List Nat} (hs : zst c g) (hR : zRM all c g num rn) : ∀ (fuel : Nat) (far row stepAt : Nat → Int32) (depth : Int32) (tries : Nat → Int32) (q : List Nat) (tr : Nat → Nat),
    zGS c g far row stepAt depth tries q tr → zph (c 0 + c 1 + c 2) tr q < fuel →
      ∃ z, f9_goesOn_l0 fuel all far row stepAt depth tries = some z ∧ ((zrest c g (c 0 + c 1 + c 2) tr q = [] ∧ z.1 = 0) ∨ ∃ x xs tr', zrest c g (c 0 + c 1 + c 2) tr q = x :: xs ∧ z.1 = 1 ∧ zGS c g z.2.1 z.2.2.1 z.2.2.2.1 z.2.2.2.2.1 z.2.2.2.2.2 x tr' ∧ zrest c g (c 0 + c 1 + c 2) tr' x = xs ∧ zph (c 0 + c 1 + c 2) tr' x ≤ zph (c 0 + c 1 + c 2) tr q) := by
  intro fuel
  generalize hT : c 0 + c 1 + c 2 = T
  have hT12 : T ≤ 12 := by
    have := (hs 0 (by omega)).1
    have := (hs 1 (by omega)).1
    have := (hs 2 (by omega)).1
    omega
  induction fuel with
  | zero => intro far row stepAt depth tries q tr _ h; exact absurd h (Nat.not_lt_zero _)
  | succ fuel ih =>
    intro far row stepAt depth tries q tr hG hph
    obtain ⟨hq, hQ, hTr⟩ := hG
    have hl := zlen_le hs hq
    have hlT := zlen_tot hq
    rw [hT] at hlT
    have htr := hTr q.length (Nat.le_refl _)
    have hdep := hQ.2.1
    rw [f9_goesOn_l0_s, hdep, ard_ok (by omega) (by omega), ab_bind, htr.1]
    /- the loop over the threads that are left -/
    have go : (tr q.length = 0 → zstill c g q = false) → ∃ z, f9_goesOn_b31 (f9_goesOn_l0 fuel) all far row stepAt (nI q.length) tries = some z ∧ ((zrest c g T tr q = [] ∧ z.1 = 0) ∨ ∃ x xs tr', zrest c g T tr q = x :: xs ∧ z.1 = 1 ∧ zGS c g z.2.1 z.2.2.1 z.2.2.2.1 z.2.2.2.2.1 z.2.2.2.2.2 x tr' ∧ zrest c g T tr' x = xs ∧ zph T tr' x ≤ zph T tr q) := by
      intro hns
      unfold f9_goesOn_b31
      rw [ard_ok (by omega) (by omega), ab_bind, htr.1]
      obtain ⟨fu, hf⟩ := kF 4 (by omega)
      have hf2 : kFUEL = (3 - tr q.length) + (fu + tr q.length) + 1 := by omega
      rw [hf2]
      have hQ' : zFQ far row stepAt (nI q.length) q := by
        rw [hdep] at hQ
        exact hQ
      obtain ⟨b, b1, b2, b3, b4, b5⟩ := triesI (tries := tries) hs hR hq hQ' (f9_goesOn_l0 fuel) (T - q.length - 1) (3 - tr q.length) (tr q.length) (fu + tr q.length) (by omega)
      rw [b3]
      /- what is left, told from here -/
      have hrest : zrest c g T tr q = zfrom c g (T - q.length - 1) q b ++ zanc c g T tr q := by
        unfold zrest
        by_cases e0 : tr q.length = 0
        · rw [if_pos e0]
          have hst := hns e0
          have hlt : q.length < T := by
            by_cases e : q.length < T
            · exact e
            · have := zfull hq (by omega)
              rw [this] at hst
              cases hst
          rw [show T - q.length = (T - q.length - 1) + 1 by omega, zsub_s, hst, if_neg (by decide), show T - q.length - 1 + 1 - 1 = T - q.length - 1 by omega, ← b4, e0]
          rfl
        · rw [if_neg e0, b4]
      unfold f9_goesOn_b60 f9_goesOn_b172
      by_cases hb3 : b = 3
      · subst hb3
        rw [l_3, if_pos (nI_le (Nat.le_refl _) (by decide))]
        rw [zfrom_3, List.nil_append] at hrest
        cases q with
        | nil =>
          rw [if_pos (show nI ([] : List Nat).length = 0 from rfl)]
          exact ⟨_, rfl, Or.inl ⟨hrest, rfl⟩⟩
        | cons t y =>
          have hrow := hQ.2.2 [] t y rfl
          have ht := hq.2.1
          rw [List.length_cons] at hl hlT hdep
          have hc4 := (hs t ht).1
          have hfl := zfr_le hq t
          rw [List.length_cons, if_neg (nI_ne0 (by omega) (by omega)), ab_dec, ard_ok (by omega) (by omega), ab_bind, hrow.1, ard_ok ht (by omega), ab_bind, hQ.1 t ht, zfr_same, ab_dec, awr_ok ht (by omega), ab_bind]
          have hG' : zGS c g (upd far t (nI (zfr y t))) row stepAt (nI y.length) tries y tr := by
            refine ⟨hq.1, ⟨fun u hu => ?_, rfl, fun p u w e => hQ.2.2 (t :: p) u w (by rw [e]; rfl)⟩, fun k hk => hTr k (by rw [List.length_cons]; omega)⟩
            rw [ab_upd]
            by_cases eu : u = t
            · rw [if_pos eu, eu]
            · rw [if_neg eu, hQ.1 u hu, zfr_other y eu]
          have hph' : zph T tr y + 1 ≤ zph T tr (t :: y) := by
            unfold zph
            show _ ≤ _ + ((3 - tr y.length) * (2 * 4 ^ (T - y.length)) + zpa T tr y) + (y.length + 1)
            omega
          obtain ⟨z, z1, z2⟩ := ih _ _ _ _ _ y tr hG' (by omega)
          /- the ancestor's rest is what is left there: it has tries behind it, or none may go there -/
          have hr2 : zrest c g T tr (t :: y) = zrest c g T tr y ∨ tr y.length = 0 := by
            by_cases e0 : tr y.length = 0
            · exact Or.inr e0
            · left
              rw [hrest]
              unfold zrest
              rw [if_neg e0]
              rfl
          have hr3 : zrest c g T tr (t :: y) = zrest c g T tr y := by
            rcases hr2 with h | e0
            · exact h
            · rw [hrest]
              unfold zrest
              rw [if_pos e0]
              show zfrom c g (T - y.length - 1) y (tr y.length) ++ zanc c g T tr y = _
              have hns2 : zstill c g y = false := by
                cases hh : zstill c g y with
                | false => rfl
                | true =>
                  have := zstill_iff.mp hh t ht
                  rw [hq.2.2] at this
                  cases this
              have hlt : y.length < T := by
                have := zlen_tot hq
                rw [List.length_cons, hT] at this
                omega
              rw [e0]
              conv => rhs; rw [show T - y.length = (T - y.length - 1) + 1 by omega, zsub_s, hns2]
              rfl
          refine ⟨z, z1, ?_⟩
          rw [hr3]
          rcases z2 with z2 | ⟨x, xs, tr', a1, a2, a3, a4, a5⟩
          · exact Or.inl z2
          · exact Or.inr ⟨x, xs, tr', a1, a2, a3, a4, by omega⟩
      · have hb : b < 3 := by omega
        have hm := b5 hb
        have hokb := zmay_ok hq hb hm
        have hlt : q.length < T := by
          have := zlen_tot hokb
          rw [List.length_cons, hT] at this
          omega
        have hc4 := (hs b hb).1
        have hfl := zable_lt hokb.2.2
        rw [l_3, if_neg (nI_ge hb (by decide)), nI_1, awr_ok (by omega) (by omega), ab_bind, awr_ok (by omega) (by omega), ab_bind, ard_ok hb (by omega), ab_bind, awr_ok (by omega) (by omega), ab_bind, ab_bind, hQ.1 b hb, l_1, nI_add, nI_add, awr_ok hb (by omega), ab_bind, awr_ok (by omega) (by omega), ab_bind]
        let tr' : Nat → Nat := fun k => if k = q.length + 1 then 0 else if k = q.length then b + 1 else tr k
        have tr1 : tr' (q.length + 1) = 0 := if_pos rfl
        have tr2 : tr' q.length = b + 1 := by show (if q.length = q.length + 1 then _ else _) = _; rw [if_neg (by omega), if_pos rfl]
        have tr3 : ∀ k, k < q.length → tr' k = tr k := fun k hk => by show (if k = q.length + 1 then _ else _) = _; rw [if_neg (by omega), if_neg (by omega)]
        have hG' : zGS c g (upd far b (nI (zfr q b + 1))) (upd row q.length (nI b)) (upd stepAt q.length (nI (zfr q b))) (nI (q.length + 1)) (upd (upd tries q.length (nI (b + 1))) (q.length + 1) 0) (b :: q) tr' := by
          refine ⟨hokb, ⟨fun u hu => ?_, rfl, fun p u w e => ?_⟩, fun k hk => ?_⟩
          · rw [ab_upd]
            by_cases eu : u = b
            · rw [if_pos eu, eu, zfr_same]
            · rw [if_neg eu, hQ.1 u hu, zfr_other q eu]
          · cases p with
            | nil =>
              rw [List.nil_append] at e
              injection e with e1 e2
              subst e1
              subst e2
              exact ⟨by rw [ab_upd, if_pos rfl], by rw [ab_upd, if_pos rfl]⟩
            | cons v p =>
              rw [List.cons_append] at e
              injection e with e1 e2
              have hwl : w.length < q.length := by rw [e2, List.length_append, List.length_cons]; omega
              rw [ab_upd, if_neg (by omega), ab_upd, if_neg (by omega)]
              exact hQ.2.2 p u w e2
          · rw [List.length_cons] at hk
            rw [ab_upd, ab_upd]
            by_cases k1 : k = q.length + 1
            · rw [if_pos k1, k1, tr1]; exact ⟨rfl, by omega⟩
            · rw [if_neg k1]
              by_cases k2 : k = q.length
              · rw [if_pos k2, k2, tr2]; exact ⟨rfl, by omega⟩
              · rw [if_neg k2, tr3 k (by omega)]
                exact hTr k (by omega)
        have hph' : zph T tr' (b :: q) < zph T tr q := by
          unfold zph
          show (3 - tr' (q.length + 1)) * (2 * 4 ^ (T - (q.length + 1))) + ((3 - tr' q.length) * (2 * 4 ^ (T - q.length)) + zpa T tr' q) + (q.length + 1) < _
          rw [tr1, tr2, zpa_cong (tr' := tr) tr3]
          have e4 : 4 ^ (T - q.length) = 4 * 4 ^ (T - (q.length + 1)) := by rw [show T - q.length = (T - (q.length + 1)) + 1 by omega, Nat.pow_succ, Nat.mul_comm]
          have hp : 0 < 4 ^ (T - (q.length + 1)) := Nat.pow_pos (by decide)
          rw [e4]
          have hmono : (3 - b) * (2 * (4 * 4 ^ (T - (q.length + 1)))) ≤ (3 - tr q.length) * (2 * (4 * 4 ^ (T - (q.length + 1)))) := Nat.mul_le_mul_right _ (by omega)
          have hsp : (3 - b) * (2 * (4 * 4 ^ (T - (q.length + 1)))) = (3 - (b + 1)) * (2 * (4 * 4 ^ (T - (q.length + 1)))) + 2 * (4 * 4 ^ (T - (q.length + 1))) := by
            rw [show 3 - b = (3 - (b + 1)) + 1 by omega, Nat.succ_mul]
          omega
        obtain ⟨z, z1, z2⟩ := ih _ _ _ _ _ (b :: q) tr' hG' (by omega)
        have hr : zrest c g T tr q = zrest c g T tr' (b :: q) := by
          rw [hrest, zfrom_s hb]
          unfold zrest
          rw [List.length_cons, if_pos tr1]
          show _ = zsub c g (T - (q.length + 1)) (b :: q) ++ (zfrom c g (T - q.length - 1) q (tr' q.length) ++ zanc c g T tr' q)
          rw [tr2, zanc_cong (tr' := tr) tr3, List.append_assoc, show T - (q.length + 1) = T - q.length - 1 by omega]
          congr 1
          unfold zkid
          rw [if_pos hm]
        refine ⟨z, z1, ?_⟩
        rw [hr]
        rcases z2 with z2 | ⟨x, xs, tr'', a1, a2, a3, a4, a5⟩
        · exact Or.inl z2
        · exact Or.inr ⟨x, xs, tr'', a1, a2, a3, a4, by omega⟩
    by_cases e0 : tr q.length = 0
    · rw [if_pos (by rw [e0]; rfl), isStill_ok hs hR (zFQ_FA hQ hq), ab_bind]
      cases hst : (!zable c g (zfr q) 0 && (!zable c g (zfr q) 1 && !zable c g (zfr q) 2)) with
      | false =>
        rw [bI_f, if_pos rfl]
        exact go (fun _ => hst)
      | true =>
        rw [bI_t, if_neg i_1ne0]
        have hst' : zstill c g q = true := hst
        unfold f9_goesOn_b19
        rw [awr_ok (by omega) (by omega), ab_bind]
        let tr' : Nat → Nat := fun k => if k = q.length then 3 else tr k
        have tr2 : tr' q.length = 3 := if_pos rfl
        have tr3 : ∀ k, k < q.length → tr' k = tr k := fun k hk => if_neg (by omega)
        refine ⟨_, rfl, Or.inr ⟨q, zanc c g T tr q, tr', ?_, rfl, ⟨hq, ⟨hQ.1, rfl, hQ.2.2⟩, fun k hk => ?_⟩, ?_, ?_⟩⟩
        · unfold zrest
          rw [if_pos e0, zsub_still _ hst']
          rfl
        · show upd tries q.length 3 k = nI (tr' k) ∧ tr' k ≤ 3
          rw [ab_upd]
          by_cases k2 : k = q.length
          · rw [if_pos k2, k2, tr2]; exact ⟨rfl, by omega⟩
          · rw [if_neg k2, tr3 k (by omega)]
            exact hTr k (by omega)
        · unfold zrest
          rw [tr2, if_neg (by decide), zfrom_3, zanc_cong (tr' := tr) tr3]
          rfl
        · unfold zph
          rw [tr2, zpa_cong (tr' := tr) tr3]
          omega
    · rw [if_neg (nI_ne0 (Nat.pos_of_ne_zero e0) (by omega))]
      exact go (fun h => absurd h e0)
/-- the start of the way -/
theorem starts_ok {c : Nat → Nat} {g : Nat → Nat → Nat → Nat} (hs : zst c g) (far row stepAt : Nat → Int32) (depth : Int32) (tries : Nat → Int32) : ∃ z, f9_starts far depth tries = some z ∧ ∃ tr, zGS c g z.1 row stepAt z.2.1 z.2.2 [] tr ∧ zrest c g (c 0 + c 1 + c 2) tr [] = zAll c g ∧ zph (c 0 + c 1 + c 2) tr [] < kFUEL := by
  have h0 := (hs 0 (by omega)).1
  have h1 := (hs 1 (by omega)).1
  have h2 := (hs 2 (by omega)).1
  refine ⟨_, rfl, fun _ => 0, ⟨trivial, ⟨fun t ht => ?_, rfl, fun p t y e => ?_⟩, fun k hk => ?_⟩, ?_, ?_⟩
  · have : t = 0 ∨ t = 1 ∨ t = 2 := by omega
    rcases this with rfl | rfl | rfl <;> rfl
  · have := congrArg List.length e
    rw [List.length_append, List.length_cons] at this
    simp at this
  · have : k = 0 := by simpa using hk
    subst this
    exact ⟨rfl, Nat.zero_le _⟩
  · show zsub c g (c 0 + c 1 + c 2 - 0) [] ++ [] = zsub c g (c 0 + c 1 + c 2) []
    rw [List.append_nil]
    rfl
  · show (3 - 0) * (2 * 4 ^ (c 0 + c 1 + c 2 - 0)) + 0 + 0 < kFUEL
    have hp : 4 ^ (c 0 + c 1 + c 2 - 0) ≤ 4 ^ 12 := Nat.pow_le_pow_right (by decide) (by omega)
    have e12 : (4 : Nat) ^ 12 = 16777216 := by decide
    unfold kFUEL
    omega
