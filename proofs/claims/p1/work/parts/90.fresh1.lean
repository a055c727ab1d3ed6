/-! A fresh object: no row is held. The class's side -/
theorem k4 {k : Nat} (h : k < 4) : k = 0 ∨ k = 1 ∨ k = 2 ∨ k = 3 := by omega
theorem z4_at0 {t : Nat → Int64} (h : z4 t = z0) {k : Nat} (hk : k < 4) : t k = 0 := by
  unfold z4 z0 at h
  simp only [Prod.mk.injEq] at h
  obtain ⟨h0, h1, h2, h3⟩ := h
  apply Int64.toInt_inj.mp
  rcases k4 hk with rfl | rfl | rfl | rfl
  · exact h0
  · exact h1
  · exact h2
  · exact h3
theorem z4_inj {a b : Nat → Int64} (h : z4 a = z4 b) {k : Nat} (hk : k < 4) : a k = b k := by
  unfold z4 at h
  simp only [Prod.mk.injEq] at h
  obtain ⟨h0, h1, h2, h3⟩ := h
  apply Int64.toInt_inj.mp
  rcases k4 hk with rfl | rfl | rfl | rfl
  · exact h0
  · exact h1
  · exact h2
  · exact h3
theorem dot4_congr {a b : Nat → Int64} (h : z4 a = z4 b) : dot4 a a = dot4 b b := by
  unfold dot4
  rw [z4_inj h (show 0 < 4 by decide), z4_inj h (show 1 < 4 by decide), z4_inj h (show 2 < 4 by decide), z4_inj h (show 3 < 4 by decide)]
theorem zlt_irr (u : Z4) : ¬ zlt u u := by
  unfold zlt
  omega
theorem cpy_at {a b : Nat → Int64} {k : Nat} (hk : k < 4) : va_cpy a b 0 0 4 k = a k := by
  rcases k4 hk with rfl | rfl | rfl | rfl <;> rfl
theorem t63_0 {F n : Nat} {R bD : Nat → Nat → Int64} {bQ bW : Nat → Int64} : lB_take_63 F R 0 (n + 1) 0 bD bQ bW = some (bD, bQ, bW) := by
  rw [lB_take_63, if_pos (by decide)]
theorem vol2_0 {F n : Nat} {R M : Nat → Nat → Int64} : lB_volumeSquared_2 F R 0 (n + 1) 0 M = some M := by
  rw [lB_volumeSquared_2, if_pos (by decide)]
theorem vol59_0 {F n : Nat} {M : Nat → Nat → Int64} {v : Int64} : lB_volumeSquared_59 F 0 (n + 1) v 0 M = some (v, M) := by
  rw [lB_volumeSquared_59, if_pos (by decide)]
theorem out9_0 {F n : Nat} {bD : Nat → Nat → Int64} {bQ tg : Nat → Int64} {v : Int64} : lB_squareOutside_9 F bD bQ 0 tg (n + 1) v 0 = some v := by
  rw [lB_squareOutside_9, if_pos (by decide)]
def e00 : Nat → Nat → Int64 := fun _ _ => 0
theorem take_0 (bR bD : Nat → Nat → Int64) (bQ bW bT : Nat → Int64) (bn : Int32) : ∃ R' T', B_take 1000002 e00 bR bD bQ bW bT bn = some (R', bD, bQ, bW, T', 0) := by
  obtain ⟨R1, h1, -⟩ := take7 (F := 1000002) (E := e00) 4 1000002 0 bR rfl (by decide) ⟨fun i hi => absurd hi (Nat.not_lt_zero _), fun q hq => absurd hq (Nat.not_lt_zero _)⟩
  have h1 : lB_take_7 1000002 e00 1000002 0 bR 0 = some (R1, 0) := h1
  obtain ⟨R2, T2, h2, -, -⟩ := B_reduce_small (F := 1000002) (m := 0) (W := 0) (R := R1) (T := bT) (by decide) (by decide) (by decide) (fun i hi => absurd hi (Nat.not_lt_zero _)) (show (0 : Int) < 1000000 by decide)
  have h2 : B_reduce 1000002 R1 bT 0 = some (R2, T2) := h2
  obtain ⟨R3, T3, h3, -, -⟩ := B_sort_eq (F := 1000002) (m := 0) (W := 0) (R := R2) (T := T2) (by decide) (by decide) (by decide) (fun i hi => absurd hi (Nat.not_lt_zero _))
  have h3 : B_sort 1000002 R2 T2 0 = some (R3, T3) := h3
  refine ⟨R3, T3, ?_⟩
  unfold B_take
  rw [h1, Option.bind_some, h2, Option.bind_some, h3, Option.bind_some, t63_0, Option.bind_some]
theorem ready_0 (bR bD : Nat → Nat → Int64) (bQ bW bT : Nat → Int64) (bn : Int32) : ∃ R' T', V_readyBasis 1000002 e00 bR bD bQ bW bT bn 0 = some (R', bD, bQ, bW, T', 0, 1) := by
  obtain ⟨R', T', h⟩ := take_0 bR bD bQ bW bT bn
  refine ⟨R', T', ?_⟩
  unfold V_readyBasis
  rw [if_pos rfl, h, Option.bind_some]
theorem vvol_0 (bR bD bM : Nat → Nat → Int64) (bQ bW bT : Nat → Int64) (bn : Int32) : ∃ R' T', V_volume 1000002 e00 bR bD bQ bW bM bT bn 0 = some (1, R', bD, bQ, bW, bM, T', 0, 1) := by
  obtain ⟨R', T', h⟩ := ready_0 bR bD bQ bW bT bn
  refine ⟨R', T', ?_⟩
  unfold V_volume
  rw [h, Option.bind_some]
  dsimp only
  unfold B_volumeSquared
  rw [vol2_0, Option.bind_some, vol59_0, Option.bind_some, Option.bind_some]
theorem vmin_0 (bR bD : Nat → Nat → Int64) (bQ bW bT : Nat → Int64) (bn v : Int32) : V_minimum 1000002 e00 bR bD bQ bW bT bn 0 v = some (-1, bR, bD, bQ, bW, bT, bn, 0) := by
  unfold V_minimum
  by_cases h : v < 1
  · rw [if_pos h]
  · rw [if_neg h, E_size_eq (by decide), Option.bind_some]
    rw [if_neg (show ¬ v ≤ nI (hN e00 0 + hN e00 1 + hN e00 2 + hN e00 3) from fun h2 => h (by
      have h2 : v ≤ 0 := h2
      rw [Int32.le_iff_toInt_le] at h2
      rw [Int32.lt_iff_toInt_lt]
      have e0 : (0 : Int32).toInt = 0 := by decide
      have e1 : (1 : Int32).toInt = 1 := by decide
      omega))]
/-- the search of a lattice without rows meets one vector: minus the goal -/
theorem searchT_0 {F : Nat} (hF : 5 ≤ F) (R bD bS : Nat → Nat → Int64) (bQ bW tg : Nat → Int64) (tb : Int64) (ts : Nat → Int32) : ∃ S' s, z4 (S' 0) = z4 (add4 (zer (bS 0)) tg (-1)) ∧ s = dot4 (S' 0) (S' 0) ∧ B_search_T F R bD bQ bW bS 0 tg tb ts = (T_meet F tb ts s).bind (fun r => some (S', r)) := by
  refine ⟨va_up (va_up bS 0 (zer (bS 0))) 0 (add4 (zer (bS 0)) tg (-1)), _, rfl, rfl, ?_⟩
  obtain ⟨n, rfl⟩ : ∃ n, F = n + 1 := ⟨F - 1, by omega⟩
  unfold B_search_T
  rw [gd_t (by unfold vp_in; decide), show ((0 : Int32).toNatClampNeg) = 0 from rfl, JA_fillJ_eq hF, Option.bind_some, gd_t (by unfold vp_in; decide)]
  unfold K_goal
  rw [Option.bind_some, va_up_self, V_addMultiple_eq hF, Option.bind_some, Option.bind_some]
  unfold B_squareOutside
  rw [V_product_eq hF, Option.bind_some, out9_0, Option.bind_some, Option.bind_some, gd_t (by unfold vp_in; decide)]
  unfold B_rec_T B_desc_T
  rw [if_neg (by decide), gd_t (by unfold vp_in; decide), gd_t (by unfold vp_in; decide), gd_t (by unfold vp_in; decide)]
  rw [show ((0 : Int32).toNatClampNeg) = 0 from rfl, V_product_eq hF, Option.bind_some]
  cases T_meet (n + 1) tb ts _ <;> rfl
theorem searchF_0 {F : Nat} (hF : 5 ≤ F) (R bD bS : Nat → Nat → Int64) (bQ bW tg : Nat → Int64) (tb : Int64) (fV : Nat → Nat → Int64) (fS : Nat → Int64) (fn : Int32) : ∃ S' s, z4 (S' 0) = z4 (add4 (zer (bS 0)) tg (-1)) ∧ s = dot4 (S' 0) (S' 0) ∧ B_search_F F R bD bQ bW bS 0 tg tb fV fS fn = (F_meet F S' tb fV fS fn s).bind (fun r => some (S', r.1, r.2.1, r.2.2.1, r.2.2.2)) := by
  refine ⟨va_up (va_up bS 0 (zer (bS 0))) 0 (add4 (zer (bS 0)) tg (-1)), _, rfl, rfl, ?_⟩
  obtain ⟨n, rfl⟩ : ∃ n, F = n + 1 := ⟨F - 1, by omega⟩
  unfold B_search_F
  rw [gd_t (by unfold vp_in; decide), show ((0 : Int32).toNatClampNeg) = 0 from rfl, JA_fillJ_eq hF, Option.bind_some, gd_t (by unfold vp_in; decide)]
  unfold K_goal
  rw [Option.bind_some, va_up_self, V_addMultiple_eq hF, Option.bind_some, Option.bind_some]
  unfold B_squareOutside
  rw [V_product_eq hF, Option.bind_some, out9_0, Option.bind_some, Option.bind_some, gd_t (by unfold vp_in; decide)]
  unfold B_rec_F B_desc_F
  rw [if_neg (by decide), gd_t (by unfold vp_in; decide), gd_t (by unfold vp_in; decide), gd_t (by unfold vp_in; decide)]
  rw [show ((0 : Int32).toNatClampNeg) = 0 from rfl, V_product_eq hF, Option.bind_some]
  cases F_meet (n + 1) _ tb fV fS fn _ <;> rfl
theorem searchC_0 {F : Nat} (hF : 5 ≤ F) (R bD bS : Nat → Nat → Int64) (bQ bW tg : Nat → Int64) (tb : Int64) (cB : Nat → Int64) (cq : Int64) : ∃ S' s, z4 (S' 0) = z4 (add4 (zer (bS 0)) tg (-1)) ∧ s = dot4 (S' 0) (S' 0) ∧ B_search_C F R bD bQ bW bS 0 tg tb cB cq = (C_meet F S' tb cB cq s).bind (fun r => some (S', r.1, r.2.1, r.2.2)) := by
  refine ⟨va_up (va_up bS 0 (zer (bS 0))) 0 (add4 (zer (bS 0)) tg (-1)), _, rfl, rfl, ?_⟩
  obtain ⟨n, rfl⟩ : ∃ n, F = n + 1 := ⟨F - 1, by omega⟩
  unfold B_search_C
  rw [gd_t (by unfold vp_in; decide), show ((0 : Int32).toNatClampNeg) = 0 from rfl, JA_fillJ_eq hF, Option.bind_some, gd_t (by unfold vp_in; decide)]
  unfold K_goal
  rw [Option.bind_some, va_up_self, V_addMultiple_eq hF, Option.bind_some, Option.bind_some]
  unfold B_squareOutside
  rw [V_product_eq hF, Option.bind_some, out9_0, Option.bind_some, Option.bind_some, gd_t (by unfold vp_in; decide)]
  unfold B_rec_C B_desc_C
  rw [if_neg (by decide), gd_t (by unfold vp_in; decide), gd_t (by unfold vp_in; decide), gd_t (by unfold vp_in; decide)]
  rw [show ((0 : Int32).toNatClampNeg) = 0 from rfl, V_product_eq hF, Option.bind_some]
  cases C_meet (n + 1) _ tb cB cq _ <;> rfl
theorem neg_z0 {a g : Nat → Int64} (h : z4 g = z0) : z4 (add4 (zer a) g (-1)) = z0 := by
  rw [z4_add4 (by rw [z4_zer, h]; unfold in4 inR; decide), z4_zer, h]; decide
theorem dot_z0 {a : Nat → Int64} (h : z4 a = z0) : dot4 a a = 0 := by
  have e : (dot4 a a).toInt = 0 := by
    rw [dot4_toInt (by rw [h]; unfold inR; decide), h]; decide
  exact Int64.toInt_inj.mp e
theorem fillI41 {F : Nat} {v : Int32} : ∀ (d n m : Nat) (a : Nat → Int32), m + d = 41 → d < n → (∀ j, j < m → a j = v) → ∃ a', lJA_fillI_5 F v (nI 41) n (nI m) a = some a' ∧ ∀ j, j < 41 → a' j = v := by
  intro d
  induction d with
  | zero =>
    intro n m a h1 h2 h3
    obtain ⟨n, rfl⟩ : ∃ q, n = q + 1 := ⟨n - 1, by omega⟩
    have e : m = 41 := by omega
    subst e
    exact ⟨a, by rw [lJA_fillI_5, if_pos (by decide)], h3⟩
  | succ d ih =>
    intro n m a h1 h2 h3
    obtain ⟨n, rfl⟩ : ∃ q, n = q + 1 := ⟨n - 1, by omega⟩
    rw [lJA_fillI_5, if_neg (nI_ge (by omega) (by omega)), gd_t (vp_in_nI (by omega) (by omega)), nI_clamp (by omega), nI_1]
    refine ih n (m + 1) _ (by omega) (by omega) (fun j hj => ?_)
    by_cases e : j = m
    · rw [e]; exact pk_us
    · rw [pk_un e]; exact h3 j (by omega)
theorem fill22 {F : Nat} : ∀ (d n m : Nat) (ts : Nat → Int32), m + 1 + d = 41 → d < n → (∀ j, j ≤ m → ts j = 1) → (∀ j, m < j → j < 41 → ts j = 0) → ∃ ts', lT_fill_22 F n (nI (m + 1)) ts = some ts' ∧ ∀ j, j < 41 → ts' j = 1 := by
  intro d
  induction d with
  | zero =>
    intro n m ts h1 h2 h4 h5
    obtain ⟨n, rfl⟩ : ∃ q, n = q + 1 := ⟨n - 1, by omega⟩
    have e : m = 40 := by omega
    subst e
    exact ⟨ts, by rw [lT_fill_22, if_pos (by decide)], fun j hj => h4 j (by omega)⟩
  | succ d ih =>
    intro n m ts h1 h2 h4 h5
    obtain ⟨n, rfl⟩ : ∃ q, n = q + 1 := ⟨n - 1, by omega⟩
    have e1 : nI (m + 1) - 1 = nI m := nI_pred m
    rw [lT_fill_22, if_neg (show ¬ ((40 : Int32) < nI (m + 1)) from nI_nlt (a := 40) (by omega) (by decide)), gd_t (vp_in_nI (by omega) (by omega)), e1, gd_t (vp_in_nI (by omega) (by omega)), gd_t (vp_in_nI (by omega) (by omega)), nI_clamp (by omega), nI_clamp (by omega), nI_1]
    refine ih n (m + 1) _ (by omega) (by omega) (fun j hj => ?_) (fun j h6 h7 => ?_)
    · by_cases e : j = m + 1
      · rw [e, pk_us, h4 m (Nat.le_refl _), h5 (m + 1) (by omega) (by omega)]; decide
      · rw [pk_un e]; exact h4 j (by omega)
    · rw [pk_un (by omega)]; exact h5 j (by omega) h7
theorem vcount_0 (bR bD bS : Nat → Nat → Int64) (bQ bW bT tg : Nat → Int64) (bn : Int32) (tb : Int64) (ts : Nat → Int32) (htg : z4 tg = z0) (v : Int32) : ∃ bR' bS' bT' bn' tb' ts' rd tl, V_count 1000002 e00 bR bD bQ bW bS bT bn tg tb ts 0 0 v = some (if v < 0 then -1 else if v ≤ 40 then 1 else -1, bR', bD, bQ, bW, bS', bT', bn', tb', ts', rd, tl) := by
  unfold V_count
  by_cases h : v < 0
  · rw [if_pos h, if_pos h]; exact ⟨_, _, _, _, _, _, _, _, rfl⟩
  · rw [if_neg h, if_neg h]
    by_cases h4 : v ≤ 40
    · rw [if_pos h4, if_pos h4, if_pos rfl]
      obtain ⟨R', T', h1⟩ := ready_0 bR bD bQ bW bT bn
      rw [h1, Option.bind_some]
      dsimp only
      unfold T_fill JA_fillI
      obtain ⟨a, h2, h3⟩ := fillI41 (F := 1000002) (v := 0) 41 1000002 0 ts rfl (by decide) (fun j hj => absurd hj (Nat.not_lt_zero _))
      have h2 : lJA_fillI_5 1000002 0 (nI 41) 1000002 0 ts = some a := h2
      rw [h2, Option.bind_some, Option.bind_some]
      unfold K_setBudget
      rw [Option.bind_some]
      obtain ⟨S', s, hS, hs, h5⟩ := searchT_0 (F := 1000002) (by decide) R' bD bS bQ bW tg 40 a
      rw [neg_z0 htg] at hS
      rw [dot_z0 hS] at hs
      subst hs
      have h6 : T_meet 1000002 40 a 0 = some (upd a 0 (a 0 + 1)) := by
        unfold T_meet K_wants
        rw [if_neg (show ¬ (40 : Int64) < 0 by decide), Option.bind_some, if_neg (show ¬ (1 : Int32) = 0 by decide), gd_t (by unfold vp_in; decide), gd_t (by unfold vp_in; decide)]
        rfl
      rw [h5, h6, Option.bind_some, Option.bind_some]
      dsimp only
      obtain ⟨t2, h7, h8⟩ := fill22 (F := 1000002) 40 1000002 0 (upd a 0 (a 0 + 1)) rfl (by decide) (fun j hj => by
        rw [show j = 0 by omega, pk_us, h3 0 (by decide)]; decide) (fun j h9 h10 => by rw [pk_un (by omega)]; exact h3 j h10)
      have h7 : lT_fill_22 1000002 1000002 1 (upd a 0 (a 0 + 1)) = some t2 := h7
      rw [h7, Option.bind_some, Option.bind_some]
      dsimp only
      unfold T_upTo
      obtain ⟨k, hk2, hk⟩ := nI_of2 (n := 40) (by decide) h h4
      rw [hk, gd_t (vp_in_nI (by omega) (by decide)), nI_clamp (by omega), h8 k (by omega), Option.bind_some]
      exact ⟨_, _, _, _, _, _, _, _, rfl⟩
    · rw [if_neg h4, if_neg h4]; exact ⟨_, _, _, _, _, _, _, _, rfl⟩
theorem vvector_0 (bR bD bS fV : Nat → Nat → Int64) (bQ bW bT fg fS : Nat → Int64) (bn fn : Int32) (fb : Int64) (hfg : z4 fg = z0) (v x : Int32) : ∃ bR' bS' bT' bn' fb' fV' fS' fn' rd li, V_vector 1000002 e00 bR bD bQ bW bS bT bn fg fb fV fS fn 0 0 v x = some (if x < 0 then 1000 else if 3 < x then 1000 else if v < 0 then 1000 else if v ≤ 0 then 0 else 1000, bR', bD, bQ, bW, bS', bT', bn', fb', fV', fS', fn', rd, li) := by
  unfold V_vector V_isAxis
  by_cases h : x < 0
  · rw [if_pos h, if_pos h, Option.bind_some, if_pos rfl]; exact ⟨_, _, _, _, _, _, _, _, _, _, rfl⟩
  rw [if_neg h, if_neg h]
  by_cases h2 : 3 < x
  · rw [if_pos h2, if_pos (show (4 : Int32) ≤ x from by
      rw [Int32.lt_iff_toInt_lt] at h2
      rw [Int32.le_iff_toInt_le]
      have e3 : (3 : Int32).toInt = 3 := by decide
      have e4 : (4 : Int32).toInt = 4 := by decide
      omega), Option.bind_some, if_pos rfl]; exact ⟨_, _, _, _, _, _, _, _, _, _, rfl⟩
  rw [if_neg h2, if_neg (show ¬ (4 : Int32) ≤ x from by
      rw [Int32.lt_iff_toInt_lt] at h2
      rw [Int32.le_iff_toInt_le]
      have e3 : (3 : Int32).toInt = 3 := by decide
      have e4 : (4 : Int32).toInt = 4 := by decide
      omega), Option.bind_some, if_neg (show ¬ (1 : Int32) = 0 by decide)]
  by_cases h3 : v < 0
  · rw [if_pos h3, if_pos h3]; exact ⟨_, _, _, _, _, _, _, _, _, _, rfl⟩
  rw [if_neg h3, if_neg h3]
  by_cases h4 : v < 41
  · rw [if_pos h4, if_pos rfl]
    obtain ⟨R', T', h1⟩ := ready_0 bR bD bQ bW bT bn
    rw [h1, Option.bind_some]
    dsimp only
    unfold F_fill B_leastSquare K_setBudget
    rw [if_pos rfl, Option.bind_some, Option.bind_some]
    obtain ⟨S', s, hS, hs, h5⟩ := searchF_0 (F := 1000002) (by decide) R' bD bS bQ bW fg ((20 : Int64) * 20 * 0) fV fS 0
    rw [neg_z0 hfg] at hS
    have hs : s = 0 := by rw [hs]; exact dot_z0 hS
    subst hs
    have h6 : F_meet 1000002 S' ((20 : Int64) * 20 * 0) fV fS 0 0 = some ((20 : Int64) * 20 * 0, va_up fV 0 (va_cpy (S' 0) (fV 0) 0 0 4), vp_updL fS 0 0, 1) := by
      unfold F_meet K_wants
      rw [if_neg (show ¬ ((20 : Int64) * 20 * 0) < 0 by decide), Option.bind_some, if_neg (show ¬ (1 : Int32) = 0 by decide)]
      rw [show lF_meet_15 1000002 S' fV fS 0 1000002 0 = some 0 from by rw [lF_meet_15, if_pos (by decide)]]
      rw [Option.bind_some, if_neg (show ¬ (41 : Int32) ≤ 0 by decide)]
      unfold F_insert
      rw [show lF_insert_23 1000002 0 0 1000002 ((if (41 : Int32) < ((0 : Int32) + (1 : Int32)) then (41 : Int32) else ((0 : Int32) + (1 : Int32))) - (1 : Int32)) fV fS = some (fV, fS) from by rw [lF_insert_23, if_pos (by decide)]]
      rw [Option.bind_some, gd_t (by unfold vp_in; decide), V_copy_eq, Option.bind_some, gd_t (by unfold vp_in; decide), Option.bind_some]
      dsimp only
      rw [if_neg (by decide)]
      rfl
    rw [h5, h6, Option.bind_some, Option.bind_some, Option.bind_some]
    dsimp only
    unfold F_coordinate
    obtain ⟨k, hk2, hk⟩ := nI_of2 (n := 3) (by decide) h (Int32.not_lt.mp h2)
    by_cases h7 : v ≤ 0
    · have hv : v = 0 := Int32.le_antisymm h7 (Int32.not_lt.mp h3)
      subst hv
      rw [if_neg (show ¬ (1 : Int32) ≤ 0 by decide), gd_t (by unfold vp_in; decide), hk, gd_t (vp_in_nI (by omega) (by decide)), nI_clamp (by omega), Option.bind_some, if_pos h7]
      have e : (va_up fV 0 (va_cpy (S' 0) (fV 0) 0 0 4) ((0 : Int32).toNatClampNeg) k).toInt32 = 0 := by
        show (va_up fV 0 (va_cpy (S' 0) (fV 0) 0 0 4) 0 k).toInt32 = 0
        rw [va_up_self]
        have e2 : va_cpy (S' 0) (fV 0) 0 0 4 k = 0 := by
          have e3 := z4_cpy (S' 0) (fV 0)
          rw [hS] at e3
          exact z4_at0 e3 (by omega)
        rw [e2]; decide
      rw [e]
      exact ⟨_, _, _, _, _, _, _, _, _, _, rfl⟩
    · rw [if_pos (show (1 : Int32) ≤ v from by
        rw [Int32.le_iff_toInt_le] at h7 ⊢
        have e0 : (0 : Int32).toInt = 0 := by decide
        have e1 : (1 : Int32).toInt = 1 := by decide
        omega), Option.bind_some, if_neg h7]
      exact ⟨_, _, _, _, _, _, _, _, _, _, rfl⟩
  · rw [if_neg h4, if_neg (show ¬ v ≤ 0 from fun h7 => h4 (by
      rw [Int32.le_iff_toInt_le] at h7
      rw [Int32.lt_iff_toInt_lt]
      have e0 : (0 : Int32).toInt = 0 := by decide
      have e1 : (41 : Int32).toInt = 41 := by decide
      omega))]
    exact ⟨_, _, _, _, _, _, _, _, _, _, rfl⟩
/-- Closest over a lattice without rows: the vector 0 stays the best -/
theorem approach_0 (p bQ bW cg cB : Nat → Int64) (R bD bS : Nat → Nat → Int64) (cb cq : Int64) : ∃ S' cg' cB', C_approach 1000002 p R bD bQ bW bS 0 cg cb cB cq = some (S', cg', dot4 p p, cB', dot4 p p) ∧ ∀ k, k < 4 → cg' k + cB' k = 0 := by
  have hd : dot4 (add4 (zer cB) p (-1)) (add4 (zer cB) p (-1)) = dot4 p p := by
    unfold dot4 add4 zer
    simp only [show (0 : Nat) < 4 by decide, show (1 : Nat) < 4 by decide, show (2 : Nat) < 4 by decide, show (3 : Nat) < 4 by decide, if_true]
    grind
  unfold C_approach K_goal K_setBudget
  rw [Option.bind_some, V_copy_eq, Option.bind_some, JA_fillJ_eq (by decide), Option.bind_some, V_addMultiple_eq (by decide), Option.bind_some, V_product_eq (by decide), Option.bind_some, Option.bind_some, hd]
  obtain ⟨S', s, hS, hs, h5⟩ := searchC_0 (F := 1000002) (by decide) R bD bS bQ bW (va_cpy p cg 0 0 4) (dot4 p p) (add4 (zer cB) p (-1)) (dot4 p p)
  have hz : z4 (S' 0) = z4 (add4 (zer cB) p (-1)) := hS
  have hs : s = dot4 p p := by
    rw [hs, ← hd]
    exact dot4_congr hz
  subst hs
  have h6 : C_meet 1000002 S' (dot4 p p) (add4 (zer cB) p (-1)) (dot4 p p) (dot4 p p) = some (dot4 p p, add4 (zer cB) p (-1), dot4 p p) := by
    unfold C_meet
    rw [if_neg (Int64.lt_irrefl), if_pos rfl, show ((0 : Int32).toNatClampNeg) = 0 from rfl]
    rcases V_comesBefore_eq (F := 1000002) (by decide) (S' 0) (add4 (zer cB) p (-1)) with ⟨h7, h8⟩ | ⟨h7, -⟩
    · rw [hz] at h8
      exact absurd h8 (zlt_irr _)
    · rw [h7, Option.bind_some, if_pos rfl]
  rw [h5, h6, Option.bind_some, Option.bind_some]
  refine ⟨_, _, _, rfl, fun k hk => ?_⟩
  show va_cpy p cg 0 0 4 k + add4 (zer cB) p (-1) k = 0
  rw [show va_cpy p cg 0 0 4 k = p k from cpy_at hk]
  unfold add4 zer
  rw [if_pos hk, if_pos hk]
  grind
theorem vdist_0 (asked bQ bW bT cg cB : Nat → Int64) (bR bD bS : Nat → Nat → Int64) (bn : Int32) (cb cq : Int64) (a b c d : Int32) : ∃ as' bR' bS' bT' bn' cg' cb' cB' cq' rd, V_distance 1000002 asked e00 bR bD bQ bW bS bT bn cg cb cB cq 0 a b c d = some (@ite _ (le4 30 (i4 a b c d)) (Classical.propDecidable _) (dot4 (set4 asked a b c d) (set4 asked a b c d)).toInt32 (-1), as', bR', bD, bQ, bW, bS', bT', bn', cg', cb', cB', cq', rd) := by
  unfold V_distance
  rcases V_ask_eq (F := 1000002) (E := 30) (by decide) (by decide) asked a b c d with ⟨h1, h2⟩ | ⟨h1, h2⟩
  · have h2 : V_ask 1000002 asked a b c d 30 = some (1, set4 asked a b c d) := h2
    rw [h2, Option.bind_some, if_neg (show ¬ (1 : Int32) = 0 by decide), if_pos h1]
    obtain ⟨R', T', h3⟩ := ready_0 bR bD bQ bW bT bn
    rw [h3, Option.bind_some]
    dsimp only
    obtain ⟨S', cg', cB', h4, -⟩ := approach_0 (set4 asked a b c d) bQ bW cg cB R' bD bS cb cq
    rw [h4, Option.bind_some]
    exact ⟨_, _, _, _, _, _, _, _, _, _, rfl⟩
  · have h2 : V_ask 1000002 asked a b c d 30 = some (0, set4 asked a b c d) := h2
    rw [h2, Option.bind_some, if_pos rfl, if_neg h1]
    exact ⟨_, _, _, _, _, _, _, _, _, _, rfl⟩
theorem vnear_0 (asked bQ bW bT cg cB : Nat → Int64) (bR bD bS : Nat → Nat → Int64) (bn : Int32) (cb cq : Int64) (a b c d x : Int32) : ∃ as' bR' bS' bT' bn' cg' cb' cB' cq' rd, V_nearest 1000002 asked e00 bR bD bQ bW bS bT bn cg cb cB cq 0 a b c d x = some (@ite _ (le4 30 (i4 a b c d)) (Classical.propDecidable _) (if x < 0 then 1000 else if x ≤ 3 then 0 else 1000) 1000, as', bR', bD, bQ, bW, bS', bT', bn', cg', cb', cB', cq', rd) := by
  unfold V_nearest V_isAxis
  by_cases h : x < 0
  · rw [if_pos h, if_pos h, Option.bind_some, if_pos rfl, ite_self]; exact ⟨_, _, _, _, _, _, _, _, _, _, rfl⟩
  rw [if_neg h, if_neg h]
  by_cases hx : x ≤ 3
  · rw [if_neg (show ¬ (4 : Int32) ≤ x from by
      rw [Int32.le_iff_toInt_le] at hx ⊢
      have e3 : (3 : Int32).toInt = 3 := by decide
      have e4 : (4 : Int32).toInt = 4 := by decide
      omega), Option.bind_some, if_neg (show ¬ (1 : Int32) = 0 by decide), if_pos hx]
    rcases V_ask_eq (F := 1000002) (E := 30) (by decide) (by decide) asked a b c d with ⟨h1, h2⟩ | ⟨h1, h2⟩
    · have h2 : V_ask 1000002 asked a b c d 30 = some (1, set4 asked a b c d) := h2
      rw [h2, Option.bind_some, if_neg (show ¬ (1 : Int32) = 0 by decide), if_pos h1]
      obtain ⟨R', T', h3⟩ := ready_0 bR bD bQ bW bT bn
      rw [h3, Option.bind_some]
      dsimp only
      obtain ⟨S', cg', cB', h4, h5⟩ := approach_0 (set4 asked a b c d) bQ bW cg cB R' bD bS cb cq
      rw [h4, Option.bind_some]
      dsimp only
      unfold C_coordinate K_goal
      obtain ⟨k, hk2, hk⟩ := nI_of2 (n := 3) (by decide) h hx
      rw [Option.bind_some, hk, gd_t (vp_in_nI (by omega) (by decide)), gd_t (vp_in_nI (by omega) (by decide)), nI_clamp (by omega), h5 k (by omega), Option.bind_some]
      exact ⟨_, _, _, _, _, _, _, _, _, _, rfl⟩
    · have h2 : V_ask 1000002 asked a b c d 30 = some (0, set4 asked a b c d) := h2
      rw [h2, Option.bind_some, if_pos rfl, if_neg h1]
      exact ⟨_, _, _, _, _, _, _, _, _, _, rfl⟩
  · rw [if_pos (show (4 : Int32) ≤ x from by
      rw [Int32.le_iff_toInt_le] at hx ⊢
      have e3 : (3 : Int32).toInt = 3 := by decide
      have e4 : (4 : Int32).toInt = 4 := by decide
      omega), Option.bind_some, if_pos rfl, if_neg hx, ite_self]
    exact ⟨_, _, _, _, _, _, _, _, _, _, rfl⟩
