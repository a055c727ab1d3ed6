/-! Layer B: insert -/
theorem rep_lt4 {nr a : Nat} {c : Nat → Nat} (hn : nr ≤ 4) (hc : ∀ i, i < nr → c i < 4) (hs : ∀ i j, i < j → j < nr → c i < c j) (ha : a < 4) (hno : ∀ i, i < nr → c i ≠ a) : nr < 4 := by
  rcases Nat.lt_or_ge nr 4 with h | h
  · exact h
  · have e : nr = 4 := by omega
    subst e
    have a1 := hs 0 1 (by decide) (by decide)
    have a2 := hs 1 2 (by decide) (by decide)
    have a3 := hs 2 3 (by decide) (by decide)
    have b3 := hc 3 (by decide)
    have n0 := hno 0 (by decide)
    have n1 := hno 1 (by decide)
    have n2 := hno 2 (by decide)
    have n3 := hno 3 (by decide)
    omega
theorem ixm {t j : Nat} (h1 : 1 ≤ t) (h2 : t ≤ 3) (hj : j < 4) : (4 : Int32) * nI t - 4 + nI j = nI (4 * (t - 1) + j) := by
  have h : (4 : Int32) * nI t - 4 = nI (4 * (t - 1)) := by
    rcases (show t = 1 ∨ t = 2 ∨ t = 3 by omega) with rfl | rfl | rfl <;> decide
  rw [h]
  exact nI_add _ _
def cpr (t j : Nat) (row : Nat → Int64) : Nat → Int64 := fun x => if 4 * t + j ≤ x ∧ x < 4 * t + 4 then row (x - 4) else row x
theorem ins23 {F t : Nat} {v1 : Int32} (h1 : 1 ≤ t) (h2 : t ≤ 3) : ∀ (d n j : Nat) (row : Nat → Int64), j + d = 4 → d < n → lM_insert_23 F v1 (nI t) n (nI j) row = some (cpr t j row) := by
  intro d
  induction d with
  | zero =>
    intro n j row hj hn
    obtain ⟨n, rfl⟩ : ∃ q, n = q + 1 := ⟨n - 1, by omega⟩
    have e : j = 4 := by omega
    subst e
    have e1 : cpr t 4 row = row := funext fun x => if_neg (by omega)
    rw [lM_insert_23, if_pos (show (4 : Int32) ≤ nI 4 by decide), e1]
  | succ d ih =>
    intro n j row hj hn
    obtain ⟨n, rfl⟩ : ∃ q, n = q + 1 := ⟨n - 1, by omega⟩
    have h4 : ¬ (4 : Int32) ≤ nI j := nI_ge (b := 4) (by omega) (by decide)
    rw [lM_insert_23, if_neg h4, ixm h1 h2 (by omega), ix4 (by omega) (by omega), gd_t (vp_in_nI (by omega) (by decide)), gd_t (vp_in_nI (by omega) (by decide)), nI_clamp (by omega), nI_clamp (by omega), nI_1, ih n (j + 1) _ (by omega) (by omega)]
    congr 1
    funext x
    unfold cpr vp_updL
    by_cases e : x = 4 * t + j
    · subst e
      rw [if_neg (by omega), if_pos rfl, if_pos (by omega)]
      congr 1
      omega
    · by_cases h : 4 * t + (j + 1) ≤ x ∧ x < 4 * t + 4
      · rw [if_pos h, if_neg (by omega), if_pos (by omega)]
      · rw [if_neg h, if_neg e, if_neg (by omega)]
/-- rows up to t in their places, those from t on one place further: the place t is free -/
def Gap (nr t : Nat) (c : Nat → Nat) (row : Nat → Int64) (piv : Nat → Int32) (R : Nat → Nat → Int64) : Prop := (∀ m, m < t → piv m = nI (c m) ∧ ∀ j, j < 4 → row (4 * m + j) = R (c m) j) ∧ ∀ m, t ≤ m → m < nr → piv (m + 1) = nI (c m) ∧ ∀ j, j < 4 → row (4 * (m + 1) + j) = R (c m) j
theorem ins5 {F nr a : Nat} {c : Nat → Nat} {R : Nat → Nat → Int64} (hF : 5 ≤ F) (hn : nr < 4) (ha : a < 4) (hc : ∀ i, i < nr → c i < 4) (hno : ∀ i, i < nr → c i ≠ a) : ∀ (t n : Nat) (row : Nat → Int64) (piv : Nat → Int32), t ≤ nr → t < n → Gap nr t c row piv R → (∀ m, t ≤ m → m < nr → a < c m) → ∃ t' row' piv', lM_insert_5 F (nI a) n (nI t) row piv = some (nI t', row', piv') ∧ t' ≤ nr ∧ Gap nr t' c row' piv' R ∧ (∀ m, t' ≤ m → m < nr → a < c m) ∧ (1 ≤ t' → c (t' - 1) < a) := by
  intro t
  induction t with
  | zero =>
    intro n row piv h1 h2 hG hA
    obtain ⟨n, rfl⟩ : ∃ q, n = q + 1 := ⟨n - 1, by omega⟩
    refine ⟨0, row, piv, ?_, h1, hG, hA, fun h => absurd h (by omega)⟩
    rw [lM_insert_5, if_pos (by decide)]
  | succ t ih =>
    intro n row piv h1 h2 hG hA
    obtain ⟨n, rfl⟩ : ∃ q, n = q + 1 := ⟨n - 1, by omega⟩
    have ht : t < nr := by omega
    have hp := (hG.1 t (by omega)).1
    have hct := hc t ht
    rw [lM_insert_5, if_neg (nI_nle (by omega) (by omega)), nI_pred, gd_t (vp_in_nI (by omega) (by decide)), nI_clamp (by omega), hp]
    by_cases hle : c t ≤ a
    · rw [if_pos (nI_le hle (by omega))]
      have := hno t ht
      exact ⟨t + 1, row, piv, rfl, h1, hG, hA, fun _ => by show c t < a; omega⟩
    · rw [if_neg (nI_ge (by omega) (by omega)), show (0 : Int32) = nI 0 from rfl, ins23 (by omega) (by omega) 4 F 0 row rfl (by omega), Option.bind_some, gd_t (vp_in_nI (by omega) (by decide)), gd_t (vp_in_nI (by omega) (by decide)), nI_clamp (by omega)]
      have e1 : nI (t + 1) + (-1) = nI t := by
        rw [← nI_pred t, Int32.sub_eq_add_neg]
      rw [e1]
      refine ih n _ _ (by omega) (by omega) ⟨fun m hm => ?_, fun m p q => ?_⟩ (fun m p q => ?_)
      · obtain ⟨g1, g2⟩ := hG.1 m (by omega)
        refine ⟨by rw [pk_un (by omega)]; exact g1, fun j hj => ?_⟩
        show (if 4 * (t + 1) + 0 ≤ 4 * m + j ∧ 4 * m + j < 4 * (t + 1) + 4 then row (4 * m + j - 4) else row (4 * m + j)) = _
        rw [if_neg (by omega)]; exact g2 j hj
      · by_cases e : m = t
        · subst e
          refine ⟨by rw [pk_us], fun j hj => ?_⟩
          show (if 4 * (m + 1) + 0 ≤ 4 * (m + 1) + j ∧ 4 * (m + 1) + j < 4 * (m + 1) + 4 then row (4 * (m + 1) + j - 4) else row (4 * (m + 1) + j)) = _
          rw [if_pos (by omega), show 4 * (m + 1) + j - 4 = 4 * m + j by omega]
          exact (hG.1 m (by omega)).2 j hj
        · obtain ⟨g1, g2⟩ := hG.2 m (by omega) q
          refine ⟨by rw [pk_un (by omega)]; exact g1, fun j hj => ?_⟩
          show (if 4 * (t + 1) + 0 ≤ 4 * (m + 1) + j ∧ 4 * (m + 1) + j < 4 * (t + 1) + 4 then row (4 * (m + 1) + j - 4) else row (4 * (m + 1) + j)) = _
          rw [if_neg (by omega)]; exact g2 j hj
      · by_cases e : m = t
        · subst e; omega
        · exact hA m (by omega) q
/-- fresh, its sign such that it is not below 0 on axis a -/
def sgn (a : Nat) (f : Nat → Int64) : Nat → Int64 := fun j => if 0 ≤ (f a).toInt then f j else -(f j)
def rw95 (t j : Nat) (row g : Nat → Int64) : Nat → Int64 := fun x => if 4 * t + j ≤ x ∧ x < 4 * t + 4 then g (x - 4 * t) else row x
theorem ins95 {F t a : Nat} {f : Nat → Int64} (ht : t < 4) (ha : a < 4) : ∀ (d n j : Nat) (row : Nat → Int64), j + d = 4 → d < n → lM_insert_95 F f (nI a) (nI t) n (nI j) row = some (rw95 t j row (sgn a f)) := by
  intro d
  induction d with
  | zero =>
    intro n j row hj hn
    obtain ⟨n, rfl⟩ : ∃ q, n = q + 1 := ⟨n - 1, by omega⟩
    have e : j = 4 := by omega
    subst e
    have e1 : rw95 t 4 row (sgn a f) = row := funext fun x => if_neg (by omega)
    rw [lM_insert_95, if_pos (show (4 : Int32) ≤ nI 4 by decide), e1]
  | succ d ih =>
    intro n j row hj hn
    obtain ⟨n, rfl⟩ : ∃ q, n = q + 1 := ⟨n - 1, by omega⟩
    have h4 : ¬ (4 : Int32) ≤ nI j := nI_ge (b := 4) (by omega) (by decide)
    have hv : vp_in (nI j) 4 := vp_in_nI (by omega) (by decide)
    have hw : vp_in (nI (4 * t + j)) 16 := vp_in_nI (by omega) (by decide)
    have key : ∀ y : Int64, y = sgn a f j → rw95 t (j + 1) (vp_updL row (4 * t + j) y) (sgn a f) = rw95 t j row (sgn a f) := fun y hy => funext fun x => by
      unfold rw95 vp_updL
      by_cases e : x = 4 * t + j
      · subst e
        rw [if_neg (by omega), if_pos rfl, if_pos (by omega), Nat.add_sub_cancel_left, hy]
      · by_cases h : 4 * t + (j + 1) ≤ x ∧ x < 4 * t + 4
        · rw [if_pos h, if_pos (by omega)]
        · rw [if_neg h, if_neg e, if_neg (by omega)]
    rw [lM_insert_95, if_neg h4, gd_t (vp_in_nI ha (by decide)), nI_clamp (by omega)]
    by_cases hp : (0 : Int64) ≤ f a
    · rw [if_pos hp, gd_t hv, ix4 ht (by omega), gd_t hw, nI_clamp (by omega), nI_clamp (by omega), nI_1, ih n (j + 1) _ (by omega) (by omega), key _ (if_pos (ti_le.mp hp)).symm]
    · rw [if_neg hp, gd_t hv, ix4 ht (by omega), gd_t hw, nI_clamp (by omega), nI_clamp (by omega), nI_1, ih n (j + 1) _ (by omega) (by omega), key _ (if_neg (fun q => hp (ti_le.mpr q))).symm]
theorem M_insert_eq {F nr a : Nat} {c : Nat → Nat} {row f : Nat → Int64} {piv : Nat → Int32} {R : Nat → Nat → Int64} (hF : 6 ≤ F) (hR : Rep nr c row piv R) (ha : a < 4) (hno : ∀ i, i < nr → c i ≠ a) : ∃ c' row' piv', M_insert F (nI nr) row piv f (nI a) = some (nI (nr + 1), row', piv') ∧ Rep (nr + 1) c' row' piv' (va_up R a (sgn a f)) ∧ (∃ i, i < nr + 1 ∧ c' i = a) ∧ (∀ i, i < nr + 1 → c' i = a ∨ ∃ m, m < nr ∧ c' i = c m) ∧ ∀ m, m < nr → ∃ i, i < nr + 1 ∧ c' i = c m := by
  obtain ⟨hn, hc, hs⟩ := hR
  have hn4 := rep_lt4 hn (fun i hi => (hc i hi).1) hs ha hno
  obtain ⟨t, row1, piv1, g1, g2, g3, g4, g5⟩ := ins5 (F := F) (R := R) (by omega) hn4 ha (fun i hi => (hc i hi).1) hno nr F row piv (Nat.le_refl _) (by omega) ⟨fun m hm => (hc m hm).2, fun m p q => by omega⟩ (fun m p q => by omega)
  have hlow : ∀ m, m < t → c m < a := fun m hm => by
    have h1 := g5 (by omega)
    by_cases e : m = t - 1
    · rw [e]; exact h1
    · have := hs m (t - 1) (by omega) (by omega)
      omega
  obtain ⟨c', k1, k2, k3⟩ : ∃ c' : Nat → Nat, (∀ m, m < t → c' m = c m) ∧ c' t = a ∧ ∀ m, t < m → c' m = c (m - 1) := by
    refine ⟨fun m => if m < t then c m else if m = t then a else c (m - 1), fun m hm => if_pos hm, ?_, fun m hm => ?_⟩
    · show (if t < t then c t else if t = t then a else c (t - 1)) = a
      rw [if_neg (by omega), if_pos rfl]
    · show (if m < t then c m else if m = t then a else c (m - 1)) = c (m - 1)
      rw [if_neg (by omega), if_neg (by omega)]
  refine ⟨c', rw95 t 0 row1 (sgn a f), upd piv1 t (nI a), ?_, ⟨by omega, fun m hm => ?_, fun i j hij hj => ?_⟩, ⟨t, by omega, k2⟩, fun i hi => ?_, fun m hm => ?_⟩
  · unfold M_insert
    rw [g1, Option.bind_some]
    dsimp only
    rw [gd_t (vp_in_nI (by omega) (by decide)), show (0 : Int32) = nI 0 from rfl, ins95 (by omega) ha 4 F 0 row1 rfl (by omega), Option.bind_some, nI_1, nI_clamp (by omega)]
  · by_cases e1 : m < t
    · rw [k1 m e1]
      obtain ⟨q1, q2⟩ := g3.1 m e1
      refine ⟨(hc m (by omega)).1, by rw [pk_un (by omega)]; exact q1, fun j hj => ?_⟩
      show (if 4 * t + 0 ≤ 4 * m + j ∧ 4 * m + j < 4 * t + 4 then _ else row1 (4 * m + j)) = _
      rw [if_neg (by omega), va_up_ne _ _ (hno m (by omega))]
      exact q2 j hj
    · by_cases e2 : m = t
      · subst e2
        rw [k2]
        refine ⟨ha, by rw [pk_us], fun j hj => ?_⟩
        show (if 4 * m + 0 ≤ 4 * m + j ∧ 4 * m + j < 4 * m + 4 then sgn a f (4 * m + j - 4 * m) else _) = _
        rw [if_pos (by omega), Nat.add_sub_cancel_left, va_up_self]
      · rw [k3 m (by omega)]
        obtain ⟨q1, q2⟩ := g3.2 (m - 1) (by omega) (by omega)
        rw [show m - 1 + 1 = m by omega] at q1 q2
        refine ⟨(hc (m - 1) (by omega)).1, by rw [pk_un (by omega)]; exact q1, fun j hj => ?_⟩
        show (if 4 * t + 0 ≤ 4 * m + j ∧ 4 * m + j < 4 * t + 4 then _ else row1 (4 * m + j)) = _
        rw [if_neg (by omega), va_up_ne _ _ (hno (m - 1) (by omega))]
        exact q2 j hj
  · by_cases e1 : j < t
    · rw [k1 i (by omega), k1 j e1]; exact hs i j hij (by omega)
    · by_cases e2 : j = t
      · rw [e2, k2, k1 i (by omega)]; exact hlow i (by omega)
      · rw [k3 j (by omega)]
        have hj1 : a < c (j - 1) := g4 (j - 1) (by omega) (by omega)
        by_cases e3 : i < t
        · rw [k1 i e3]; have := hlow i e3; omega
        · by_cases e4 : i = t
          · rw [e4, k2]; exact hj1
          · rw [k3 i (by omega)]; exact hs (i - 1) (j - 1) (by omega) (by omega)
  · by_cases e1 : i < t
    · exact Or.inr ⟨i, by omega, k1 i e1⟩
    · by_cases e2 : i = t
      · exact Or.inl (by rw [e2]; exact k2)
      · exact Or.inr ⟨i - 1, by omega, k3 i (by omega)⟩
  · by_cases e1 : m < t
    · exact ⟨m, by omega, k1 m e1⟩
    · exact ⟨m + 1, by omega, k3 (m + 1) (by omega)⟩
