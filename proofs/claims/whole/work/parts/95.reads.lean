theorem takes_kind {A : Nat → Int32} {tx : Nat → Nat} {len : Nat} {c : Nat → Nat} (hA : zTX A tx len) {D : Nat → Int32} (hD : zTX D tx len) {t : Nat} (ht : t < 3) (hc : c t < 4) {k : Nat} (hk : k ≤ len) :
    ∃ o e, e ≤ len ∧ k ≤ e ∧ (o ≠ none → k < e) ∧ zG o c ∧ (∀ all taken counted flag, counted t = nI (c t) → zM ((f9_here D (nI len) (nI k)).bind fun q47 => if q47.1 = 119 then (f9_takesStep_b112 all D (nI len) q47.2 taken counted flag (nI t) 0) else (if q47.1 = 97 then (f9_takesStep_b112 all D (nI len) q47.2 taken counted flag (nI t) 1) else (if q47.1 = 99 then (f9_takesStep_b112 all D (nI len) q47.2 taken counted flag (nI t) 2) else (if q47.1 = 107 then (f9_takesStep_b112 all D (nI len) q47.2 taken counted flag (nI t) 3) else (if q47.1 = 108 then (f9_takesStep_b112 all D (nI len) q47.2 taken counted flag (nI t) 4) else (if q47.1 = 102 then (f9_takesStep_b112 all D (nI len) q47.2 taken counted flag (nI t) 5) else (f9_takesStep_b112 all D (nI len) q47.2 taken counted flag (nI t) (-1)))))))) o e c all counted flag) ∧ ∀ F kd tg vl w B, zC (zCL A len F k 1 (nI t) kd tg vl w B) o e A len F w B := by
  obtain ⟨h1, h2, h3⟩ := zho_ok (tx := tx) hk
  have hl := hA.1
  have chain : ∀ (all taken counted flag : _) (v sp : Int32), (if v = 119 then (f9_takesStep_b112 all D (nI len) sp taken counted flag (nI t) 0) else (if v = 97 then (f9_takesStep_b112 all D (nI len) sp taken counted flag (nI t) 1) else (if v = 99 then (f9_takesStep_b112 all D (nI len) sp taken counted flag (nI t) 2) else (if v = 107 then (f9_takesStep_b112 all D (nI len) sp taken counted flag (nI t) 3) else (if v = 108 then (f9_takesStep_b112 all D (nI len) sp taken counted flag (nI t) 4) else (if v = 102 then (f9_takesStep_b112 all D (nI len) sp taken counted flag (nI t) 5) else (f9_takesStep_b112 all D (nI len) sp taken counted flag (nI t) (-1)))))))) = f9_takesStep_b112 all D (nI len) sp taken counted flag (nI t) (if v = 119 then 0 else if v = 97 then 1 else if v = 99 then 2 else if v = 107 then 3 else if v = 108 then 4 else if v = 102 then 5 else -1) := by
    intro all taken counted flag v sp
    by_cases a1 : v = 119
    · rw [if_pos a1, if_pos a1]
    · rw [if_neg a1, if_neg a1]
      by_cases a2 : v = 97
      · rw [if_pos a2, if_pos a2]
      · rw [if_neg a2, if_neg a2]
        by_cases a3 : v = 99
        · rw [if_pos a3, if_pos a3]
        · rw [if_neg a3, if_neg a3]
          by_cases a4 : v = 107
          · rw [if_pos a4, if_pos a4]
          · rw [if_neg a4, if_neg a4]
            by_cases a5 : v = 108
            · rw [if_pos a5, if_pos a5]
            · rw [if_neg a5, if_neg a5]
              by_cases a6 : v = 102
              · rw [if_pos a6, if_pos a6]
              · rw [if_neg a6, if_neg a6]
  by_cases e : zho tx len k < len
  · have hb := (hA.2 _ e).2
    have hkind : ∀ b, b < 128 → (if nI b = 119 then (0 : Int32) else if nI b = 97 then 1 else if nI b = 99 then 2 else if nI b = 107 then 3 else if nI b = 108 then 4 else if nI b = 102 then 5 else -1) = f7_kindOf (nI b) ∧ (f7_kindOf (nI b) = -1 ∨ ∃ s, s < 6 ∧ f7_kindOf (nI b) = nI s) := by decide +kernel
    obtain ⟨k1, k2⟩ := hkind _ hb
    have hcls : ∀ (kd tg vl : Int32) (w : sT), f7_takes 1 (nI t) kd tg vl w (nI (tx (zho tx len k))) = if f7_kindOf (nI (tx (zho tx len k))) = -1 then some (0, 2, nI t, f7_kindOf (nI (tx (zho tx len k))), tg, vl, w) else some (1, 2, nI t, f7_kindOf (nI (tx (zho tx len k))), tg, vl, w) := by
      intro kd tg vl w
      unfold f7_takes f7_takesKind
      rw [if_neg (by decide), if_pos (by decide)]
      by_cases d : f7_kindOf (nI (tx (zho tx len k))) = -1
      · rw [if_pos d, if_pos d]; rfl
      · rw [if_neg d, if_neg d]; rfl
    have hmod : ∀ (all taken counted flag : _), ((f9_here D (nI len) (nI k)).bind fun q47 => if q47.1 = 119 then (f9_takesStep_b112 all D (nI len) q47.2 taken counted flag (nI t) 0) else (if q47.1 = 97 then (f9_takesStep_b112 all D (nI len) q47.2 taken counted flag (nI t) 1) else (if q47.1 = 99 then (f9_takesStep_b112 all D (nI len) q47.2 taken counted flag (nI t) 2) else (if q47.1 = 107 then (f9_takesStep_b112 all D (nI len) q47.2 taken counted flag (nI t) 3) else (if q47.1 = 108 then (f9_takesStep_b112 all D (nI len) q47.2 taken counted flag (nI t) 4) else (if q47.1 = 102 then (f9_takesStep_b112 all D (nI len) q47.2 taken counted flag (nI t) 5) else (f9_takesStep_b112 all D (nI len) q47.2 taken counted flag (nI t) (-1)))))))) = f9_takesStep_b112 all D (nI len) (nI (zho tx len k)) taken counted flag (nI t) (f7_kindOf (nI (tx (zho tx len k)))) := by
      intro all taken counted flag
      rw [here_ok hD hk, ab_bind]
      unfold zhv
      rw [if_pos e]
      refine Eq.trans (chain all taken counted flag _ _) ?_
      rw [k1]
    rcases k2 with k2 | ⟨s, s1, s2⟩
    · refine ⟨none, zho tx len k, h2, h1, fun h => absurd rfl h, trivial, fun all taken counted flag hcn => ?_, fun F kd tg vl w B => ?_⟩
      · rw [hmod, k2]
        unfold f9_takesStep_b112
        rw [if_pos rfl]
        exact ⟨_, rfl, rfl, rfl, rfl⟩
      · rw [cls_skip hA hk, cls_take hA e (h3 e), hcls, if_pos k2, ab_bind, if_pos rfl]
        exact ⟨_, rfl, rfl⟩
    · have hne : ¬ nI s = -1 := ab_ne_m1 (by omega)
      obtain ⟨o, ee, a1, a2, a3, a4, a5, a6⟩ := takes_target (c := c) hA hD ht hc s1 (show zho tx len k + 1 ≤ len by omega)
      refine ⟨o, ee, a1, by omega, fun h => by have := a3 h; omega, a4, fun all taken counted flag hcn => ?_, fun F kd tg vl w B => ?_⟩
      · rw [hmod, s2]
        unfold f9_takesStep_b112
        rw [if_neg hne, nI_1]
        exact a5 all taken counted flag hcn
      · rw [cls_skip hA hk, cls_take hA e (h3 e), hcls, s2, if_neg hne, ab_bind, if_neg i_1ne0]
        exact a6 F tg vl w B
  · have e2 : zho tx len k = len := by omega
    refine ⟨none, len, Nat.le_refl _, by omega, fun h => absurd rfl h, trivial, fun all taken counted flag hcn => ?_, fun F kd tg vl w B => ?_⟩
    · rw [here_ok hD hk, ab_bind, e2]
      unfold zhv
      rw [if_neg (show ¬ len < len by omega)]
      have := chain all taken counted flag (-1) (nI len)
      have hm : (if (-1 : Int32) = 119 then (0 : Int32) else if (-1 : Int32) = 97 then 1 else if (-1 : Int32) = 99 then 2 else if (-1 : Int32) = 107 then 3 else if (-1 : Int32) = 108 then 4 else if (-1 : Int32) = 102 then 5 else -1) = -1 := by decide
      rw [hm] at this
      have b : f9_takesStep_b112 all D (nI len) (nI len) taken counted flag (nI t) (-1) = some (0, all, nI len, taken, counted) := by
        unfold f9_takesStep_b112
        rw [if_pos rfl]
      exact ⟨_, Eq.trans this b, rfl, rfl, rfl⟩
    · rw [cls_skip hA hk, e2, cls_end (by decide) hl]
      exact ⟨_, rfl, rfl⟩
/-- a whole step of THE TEXT, told behind a place where something stands -/
theorem takes_step {A : Nat → Int32} {tx : Nat → Nat} {len : Nat} {c : Nat → Nat} {g : Nat → Nat → Nat → Nat} (hA : zTX A tx len) {D : Nat → Int32} (hD : zTX D tx len) (hc4 : ∀ t, t < 3 → c t ≤ 4) {k : Nat} (hk : k ≤ len) (hlt : zho tx len k < len) :
    ∃ o e, e ≤ len ∧ k ≤ e ∧ (o ≠ none → k < e) ∧ zG o c ∧ (∀ ka all taken counted flag, ka ≤ len → zho tx len ka = zho tx len k → (∀ t, t < 3 → counted t = nI (c t)) → zM (f9_takesStep all D (nI len) (nI ka) taken counted flag) o e c all counted flag) ∧ ∀ F th kd tg vl w B, zCS w c g → zC (zCL A len F k 0 th kd tg vl w B) o e A len F w B := by
  obtain ⟨h1, h2, h3⟩ := zho_ok (tx := tx) hk
  have hl := hA.1
  have hb := (hA.2 _ hlt).2
  rcases ab_below (nI (tx (zho tx len k)) - 48) 3 (by decide) with ⟨j, j1, j2, j3⟩ | j
  · have j3' : f8_below (nI (tx (zho tx len k)) - 48) 3 = 1 := j3
    have hcj := hc4 j j1
    by_cases hf : c j = 4
    · refine ⟨none, zho tx len k, h2, h1, fun h => absurd rfl h, trivial, fun ka all taken counted flag hka hz hcn => ?_, fun F th kd tg vl w B hw => ?_⟩
      · unfold f9_takesStep
        rw [here_ok hD hka, ab_bind, hz]
        unfold zhv
        rw [if_pos hlt, isThread_ok, j3', if_neg i_1ne0, j2, ard_ok j1 (by omega), ab_bind, hcn j j1, hf, if_pos (show nI 4 = 4 from rfl)]
        exact ⟨_, rfl, rfl, rfl, rfl⟩
      · rw [cls_skip hA hk, cls_take hA hlt (h3 hlt)]
        unfold f7_takes f7_takesThread
        rw [if_pos rfl, j3', if_neg i_1ne0, j2, stepsOf_ok hw j1, ab_bind, l_4, if_neg (nI_nlt (by omega) (by omega)), ab_bind, ab_bind, if_pos rfl]
        exact ⟨_, rfl, rfl⟩
    · have hcl : c j < 4 := by omega
      obtain ⟨o, ee, a1, a2, a3, a4, a5, a6⟩ := takes_kind (c := c) hA hD j1 hcl (show zho tx len k + 1 ≤ len by omega)
      refine ⟨o, ee, a1, by omega, fun h => by have := a3 h; omega, a4, fun ka all taken counted flag hka hz hcn => ?_, fun F th kd tg vl w B hw => ?_⟩
      · unfold f9_takesStep
        rw [here_ok hD hka, ab_bind, hz]
        unfold zhv
        rw [if_pos hlt, isThread_ok, j3', if_neg i_1ne0, j2, ard_ok j1 (by omega), ab_bind, hcn j j1, if_neg (show ¬ nI (c j) = 4 from fun q => hf ((nI_eq (b := 4) (by omega) (by decide)).mp q))]
        dsimp only
        rw [nI_1]
        exact a5 all taken counted flag (hcn j j1)
      · rw [cls_skip hA hk, cls_take hA hlt (h3 hlt)]
        unfold f7_takes f7_takesThread
        rw [if_pos rfl, j3', if_neg i_1ne0, j2, stepsOf_ok hw j1, ab_bind, l_4, if_pos (nI_lt hcl (by decide)), ab_bind, ab_bind, if_neg i_1ne0]
        exact a6 F kd tg vl w B
  · have j' : f8_below (nI (tx (zho tx len k)) - 48) 3 = 0 := j
    refine ⟨none, zho tx len k, h2, h1, fun h => absurd rfl h, trivial, fun ka all taken counted flag hka hz hcn => ?_, fun F th kd tg vl w B hw => ?_⟩
    · unfold f9_takesStep
      rw [here_ok hD hka, ab_bind, hz]
      unfold zhv
      rw [if_pos hlt, isThread_ok, j', if_pos rfl]
      exact ⟨_, rfl, rfl, rfl, rfl⟩
    · rw [cls_skip hA hk, cls_take hA hlt (h3 hlt)]
      unfold f7_takes f7_takesThread
      rw [if_pos rfl, j', if_pos rfl, ab_bind, ab_bind, if_pos rfl]
      exact ⟨_, rfl, rfl⟩
/-! a step more of a program -/
def zpc (c : Nat → Nat) (t : Nat) : Nat → Nat := fun u => if u = t then c t + 1 else c u
def zpg (c : Nat → Nat) (g : Nat → Nat → Nat → Nat) (t s x v : Nat) : Nat → Nat → Nat → Nat := fun u i k => if u = t ∧ i = c t then (if k = 0 then s else if k = 1 then x else if k = 2 then v else 0) else g u i k
theorem zpg_in (c : Nat → Nat) (g : Nat → Nat → Nat → Nat) (t s x v : Nat) : zpg c g t s x v t (c t) 0 = s ∧ zpg c g t s x v t (c t) 1 = x ∧ zpg c g t s x v t (c t) 2 = v := by
  unfold zpg
  exact ⟨by rw [if_pos ⟨rfl, rfl⟩]; rfl, by rw [if_pos ⟨rfl, rfl⟩]; rfl, by rw [if_pos ⟨rfl, rfl⟩]; rfl⟩
theorem zpg_out {c : Nat → Nat} {g : Nat → Nat → Nat → Nat} {t s x v u i : Nat} (h : ¬ (u = t ∧ i = c t)) (k : Nat) : zpg c g t s x v u i k = g u i k := by
  unfold zpg
  rw [if_neg h]
theorem zPG_put {c : Nat → Nat} {g : Nat → Nat → Nat → Nat} {num : Nat → Nat} {t s x v : Nat} (hP : zPG c g num) (ht : t < 3) (hc : c t < 4) (ho : okS s x v) : zPG (zpc c t) (zpg c g t s x v) num := by
  obtain ⟨h1, h2, h3, h4, h5⟩ := hP
  refine ⟨fun u hu => ⟨?_, fun i hi => ?_⟩, h2, fun u hu => ?_, fun u i w h => ?_, h5⟩
  · unfold zpc
    by_cases e : u = t
    · rw [if_pos e]; omega
    · rw [if_neg e]; exact (h1 u hu).1
  · by_cases e : u = t ∧ i = c t
    · obtain ⟨e1, e2⟩ := e
      rw [e1, e2, (zpg_in c g t s x v).1, (zpg_in c g t s x v).2.1, (zpg_in c g t s x v).2.2]
      exact ho
    · rw [zpg_out e, zpg_out e, zpg_out e]
      refine (h1 u hu).2 i ?_
      unfold zpc at hi
      by_cases e1 : u = t
      · rw [if_pos e1] at hi
        have : i ≠ c t := fun q => e ⟨e1, q⟩
        rw [e1]; omega
      · rw [if_neg e1] at hi; exact hi
  · unfold zpc
    rw [if_neg (by omega)]
    exact h3 u hu
  · by_cases e : u = t ∧ i = c t
    · obtain ⟨e1, e2⟩ := e
      unfold zpg
      rw [if_pos ⟨e1, e2⟩]
      have hw : ¬ w < 3 := by
        intro hw
        refine h ⟨by omega, ?_, hw⟩
        unfold zpc
        rw [if_pos e1]; omega
      rw [if_neg (by omega), if_neg (by omega), if_neg (by omega)]
    · rw [zpg_out e]
      refine h4 u i w (fun q => h ⟨q.1, ?_, q.2.2⟩)
      unfold zpc
      by_cases e1 : u = t
      · rw [if_pos e1]; rw [e1] at q; omega
      · rw [if_neg e1]; exact q.2.1
theorem zpc_sum {c : Nat → Nat} {t : Nat} (ht : t < 3) : zpc c t 0 + zpc c t 1 + zpc c t 2 = c 0 + c 1 + c 2 + 1 := by
  have e : t = 0 ∨ t = 1 ∨ t = 2 := by omega
  unfold zpc
  rcases e with rfl | rfl | rfl
  · rw [if_pos rfl, if_neg (by decide), if_neg (by decide)]; omega
  · rw [if_neg (by decide), if_pos rfl, if_neg (by decide)]; omega
  · rw [if_neg (by decide), if_neg (by decide), if_pos rfl]; omega
theorem zMO_nil {m : Int64} {g g' : Nat → Nat → Nat → Nat} {num : Nat → Nat} (h : zMO m g num []) : zMO m g' num [] := h
theorem addStep_ok {w : sT} {c : Nat → Nat} {g : Nat → Nat → Nat → Nat} {num : Nat → Nat} {t s x v : Nat} (hP : zPG c g num) (hC : zCS w c g) (hB : zMO w.2.2.1 g num []) (ht : t < 3) (hc : c t < 4) : ∃ w', f5_addStep w (nI t) (nI (pkS s x v)) = some w' ∧ zRS w' (zpc c t) (zpg c g t s x v) num [] := by
  have h1 := hC.1 t ht
  unfold f5_addStep f5_beginRun
  rw [l_3, ab_below_in ht (by decide), if_neg i_1ne0, ard_ok ht (by omega), ab_bind, h1, l_4, if_neg (nI_ge hc (by decide)), ab_bind, pk_mul, nI_add, awr_ok (by omega) (by omega), ab_bind, ab_bind, nI_1, awr_ok ht (by omega), ab_bind, ab_bind]
  refine ⟨_, rfl, ⟨fun u hu => ?_, fun u hu i hi => ?_⟩, zMO_nil hB, zMO_nil hB, rfl⟩
  · show upd w.2.1 t (nI (c t + 1)) u = _
    rw [ab_upd]
    unfold zpc
    by_cases e : u = t
    · rw [if_pos e, if_pos e]
    · rw [if_neg e, if_neg e]; exact hC.1 u hu
  · show upd w.1 (t * 4 + c t) (nI (pkS s x v)) (4 * u + i) = _
    have hi4 : i < 4 := by
      unfold zpc at hi
      by_cases e : u = t
      · rw [if_pos e] at hi; omega
      · rw [if_neg e] at hi
        have := (hP.1 u hu).1
        omega
    rw [ab_upd]
    by_cases e : u = t ∧ i = c t
    · obtain ⟨e1, e2⟩ := e
      rw [if_pos (by omega), e1, e2, (zpg_in c g t s x v).1, (zpg_in c g t s x v).2.1, (zpg_in c g t s x v).2.2]
    · rw [if_neg (by omega), zpg_out e, zpg_out e, zpg_out e]
      refine hC.2 u hu i ?_
      unfold zpc at hi
      by_cases e1 : u = t
      · rw [if_pos e1] at hi
        have : i ≠ c t := fun q => e ⟨e1, q⟩
        rw [e1]; omega
      · rw [if_neg e1] at hi; exact hi
theorem lays_ok {all : Nat → Int32} {c : Nat → Nat} {g : Nat → Nat → Nat → Nat} {num : Nat → Nat} {q : List Nat} {t s x v : Nat} (hP : zPG c g num) (hR : zRM all c g num q) (ht : t < 3) (hc : c t < 4) : ∃ all', f9_lays all (nI t) (nI s) (nI x) (nI v) = some all' ∧ zRM all' (zpc c t) (zpg c g t s x v) num [] := by
  unfold f9_lays
  have l43 : (43 : Nat) = 43 := rfl
  rw [many_ok hR ht, ab_bind, l_12, pk_mul, l_3, pk_mul, nI_add, awr_ok (by omega) (by omega), ab_bind, nI_1, awr_ok (by omega) (by omega), ab_bind, l_2, nI_add, awr_ok (by omega) (by omega), ab_bind, l_36, nI_add, ard_ok (by omega) (by omega), ab_bind, awr_ok (by omega) (by omega), ab_bind]
  have hcv : upd (upd (upd all (12 * t + 3 * c t) (nI s)) (12 * t + 3 * c t + 1) (nI x)) (12 * t + 3 * c t + 2) (nI v) (36 + t) = nI (c t) := by
    rw [ab_upd, if_neg (by omega), ab_upd, if_neg (by omega), ab_upd, if_neg (by omega)]
    exact hR.1 t ht
  rw [hcv, nI_1]
  refine ⟨_, rfl, fun u hu => ?_, fun u hu i hi k hk => ?_, fun y hy => ?_, rfl, fun p u y e => ?_⟩
  · rw [ab_upd, if_neg (by omega), ab_upd]
    unfold zpc
    by_cases e : u = t
    · rw [if_pos (by omega), if_pos e]
    · rw [if_neg (by omega), if_neg e, ab_upd, if_neg (by omega), ab_upd, if_neg (by omega), ab_upd, if_neg (by omega)]
      exact hR.1 u hu
  · have hi4 : i < 4 := by
      unfold zpc at hi
      by_cases e : u = t
      · rw [if_pos e] at hi; omega
      · rw [if_neg e] at hi
        have := (hP.1 u hu).1
        omega
    rw [ab_upd, if_neg (by omega), ab_upd, if_neg (by omega), ab_upd, ab_upd, ab_upd]
    by_cases e : u = t ∧ i = c t
    · obtain ⟨e1, e2⟩ := e
      rw [e1, e2]
      obtain ⟨z0, z1, z2⟩ := zpg_in c g t s x v
      have : k = 0 ∨ k = 1 ∨ k = 2 := by omega
      rcases this with rfl | rfl | rfl
      · rw [if_neg (by omega), if_neg (by omega), if_pos (by omega), z0]
      · rw [if_neg (by omega), if_pos rfl, z1]
      · rw [if_pos rfl, z2]
    · rw [if_neg (by omega), if_neg (by omega), if_neg (by omega), zpg_out e]
      refine hR.2.1 u hu i ?_ k hk
      unfold zpc at hi
      by_cases e1 : u = t
      · rw [if_pos e1] at hi
        have : i ≠ c t := fun q => e ⟨e1, q⟩
        rw [e1]; omega
      · rw [if_neg e1] at hi; exact hi
  · rw [ab_upd, if_neg (by omega), ab_upd, if_neg (by omega), ab_upd, if_neg (by omega), ab_upd, if_neg (by omega), ab_upd, if_neg (by omega)]
    exact hR.2.2.1 y hy
  · have := congrArg List.length e
    rw [List.length_append, List.length_cons] at this
    simp at this
