/-! Layer B: a sweep of sums -/
theorem chz_sp {R : Nat → Nat → Int64} {k m : Nat} {X : List Z4} (hX : ∀ i, i < m → i ≠ k → sp X (z4 (R i))) : ∀ (d o D : Nat) (t : Z4), o + d = m → sp X (zsub (chz R k d o D t) t)
  | 0, o, D, t, _ => by
    show sp X (zsub t t)
    rw [zsub_self]; exact sp_zero X
  | d + 1, o, D, t, h => by
    unfold chz
    by_cases e : o = k
    · rw [if_pos e]; exact chz_sp hX d (o + 1) D t (by omega)
    · rw [if_neg e]
      refine sp_eq (sp_add (chz_sp hX d (o + 1) (D / 5) (zadd t (zmul (((D % 5 : Nat) : Int) - 2) (z4 (R o)))) (by omega)) (sp_mul (((D % 5 : Nat) : Int) - 2) (hX o (by omega) e))) (zc_ext fun i hi => ?_)
      simp only [zc_add, zc_sub, zc_mul]
      omega
/-- a row becomes itself and a vector of the others: the lattice stays -/
theorem usl_rep {m k : Nat} {R : Nat → Nat → Int64} (hk : k < m) {r : Nat → Int64} (h : ∀ X : List Z4, (∀ i, i < m → i ≠ k → sp X (z4 (R i))) → sp X (zsub (z4 r) (z4 (R k)))) (v : Z4) : sp (usl m (va_up R k r)) v ↔ sp (usl m R) v := by
  refine sp_same (fun g hg => ?_) (fun g hg => ?_) v
  · obtain ⟨i, hi, rfl⟩ := usl_mem.mp hg
    by_cases e : i = k
    · subst e
      rw [va_up_self]
      refine sp_eq (sp_add (h (usl m R) (fun j hj _ => sp_mem (usl_mem.mpr ⟨j, hj, rfl⟩))) (sp_mem (usl_mem.mpr ⟨i, hi, rfl⟩))) (zc_ext fun q hq => ?_)
      simp only [zc_add, zc_sub]; omega
    · rw [va_up_ne _ _ e]; exact sp_mem (usl_mem.mpr ⟨i, hi, rfl⟩)
  · obtain ⟨i, hi, rfl⟩ := usl_mem.mp hg
    by_cases e : i = k
    · subst e
      have h1 : sp (usl m (va_up R i r)) (z4 r) := sp_mem (usl_mem.mpr ⟨i, hi, by rw [va_up_self]⟩)
      have h2 := h (usl m (va_up R i r)) (fun j hj q => sp_mem (usl_mem.mpr ⟨j, hj, by rw [va_up_ne _ _ q]⟩))
      refine sp_eq (sp_sub h1 h2) (zc_ext fun q hq => ?_)
      simp only [zc_sub]; omega
    · exact sp_mem (usl_mem.mpr ⟨i, hi, by rw [va_up_ne _ _ e]⟩)
theorem B_choice_eq {F m k D : Nat} {W : Int} {R : Nat → Nat → Int64} {T : Nat → Int64} (hF : 5 ≤ F) (hm : m ≤ 4) (hk : k < m) (hW : W ≤ 1000000000000) (hD : D < 1000000) (hR : ∀ i, i < m → zsq (z4 (R i)) ≤ W) :
    ∃ T', (zsq (z4 (R k)) ≤ zsq (chz R k m 0 D (z4 (R k))) ∧ B_shortenByChoice F R T (nI m) (nI k) (nI D) = some (0, R, T')) ∨ ∃ r, B_shortenByChoice F R T (nI m) (nI k) (nI D) = some (1, va_up R k r, T') ∧ (∀ v, sp (usl m (va_up R k r)) v ↔ sp (usl m R) v) ∧ zsq (z4 r) < zsq (z4 (R k)) := by
  have hW0 : 0 ≤ W := Int.le_trans (zsq_nonneg _) (hR k hk)
  have hp : (2 : Int) ^ m ≤ 16 := by
    rcases (show m = 0 ∨ m = 1 ∨ m = 2 ∨ m = 3 ∨ m = 4 by omega) with rfl | rfl | rfl | rfl | rfl <;> decide
  obtain ⟨t, g1, g2, g3⟩ := choice18 (F := F) hF hm hk hW0 hR m F 0 D (va_cpy (R k) T 0 0 4) W (by omega) (by omega) hD (by rw [z4_cpy]; exact hR k hk) (by
    have : (2 : Int) ^ m * (W + 8 * W) ≤ 16 * (W + 8 * W) := Int.mul_le_mul_of_nonneg_right hp (by omega)
    omega)
  rw [z4_cpy] at g2
  have hvk : vp_in (nI k) 4 := vp_in_nI (by omega) (by decide)
  have hck : (nI k).toNatClampNeg = k := nI_clamp (by omega)
  have n1 := zsq_nonneg (z4 t)
  have n2 := zsq_nonneg (z4 (R k))
  have hkW := hR k hk
  have hd1 : (dot4 t t).toInt = zsq (z4 t) := dot4_toInt (inR_of (show (zsq (z4 t)).natAbs < _ by omega))
  have hd2 : (dot4 (R k) (R k)).toInt = zsq (z4 (R k)) := dot4_toInt (inR_of (show (zsq (z4 (R k))).natAbs < _ by omega))
  refine ⟨t, ?_⟩
  unfold B_shortenByChoice
  rw [gd_t hvk, hck, V_copy_eq, Option.bind_some, show (0 : Int32) = nI 0 from rfl, g1, Option.bind_some, V_product_eq hF, Option.bind_some, gd_t hvk, gd_t hvk, V_product_eq hF, Option.bind_some]
  by_cases c : dot4 t t < dot4 (R k) (R k)
  · right
    rw [if_pos c, gd_t hvk, V_copy_eq, Option.bind_some]
    rw [ti_lt, hd1, hd2] at c
    refine ⟨va_cpy t (R k) 0 0 4, rfl, fun v => usl_rep hk (fun X hX => ?_) v, by rw [z4_cpy]; exact c⟩
    rw [z4_cpy, g2]
    exact chz_sp hX m 0 D _ (by omega)
  · left
    rw [if_neg c]
    rw [ti_lt, hd1, hd2, g2] at c
    exact ⟨by omega, rfl⟩
/-- no choice of factors makes row k shorter -/
def nc (m N : Nat) (R : Nat → Nat → Int64) (k D0 : Nat) : Prop := ∀ D, D0 ≤ D → D < N → zsq (z4 (R k)) ≤ zsq (chz R k m 0 D (z4 (R k)))
theorem sums37 {F m k N : Nat} {W : Int} (hF : 5 ≤ F) (hm : m ≤ 4) (hk : k < m) (hW : W ≤ 1000000000000) (hN : N ≤ 125) : ∀ (d n D : Nat) (v : Int32) (R : Nat → Nat → Int64) (T : Nat → Int64), D + d = N → d < n → (∀ i, i < m → zsq (z4 (R i)) ≤ W) → ∃ v' R' T', lB_shortenBySums_37 F (nI m) (nI N) (nI k) n v (nI D) R T = some (v', R', T') ∧ Rl m W R R' ∧ ((R' = R ∧ v' = v ∧ nc m N R k D) ∨ (v' = 1 ∧ SQ R' m < SQ R m)) := by
  intro d
  induction d with
  | zero =>
    intro n D v R T h1 h2 hR
    obtain ⟨n, rfl⟩ : ∃ q, n = q + 1 := ⟨n - 1, by omega⟩
    have e : D = N := by omega
    subst e
    exact ⟨v, R, T, by rw [lB_shortenBySums_37, if_pos (nI_le (Nat.le_refl _) (by omega))], ⟨fun _ => Iff.rfl, hR, Int.le_refl _⟩, Or.inl ⟨rfl, rfl, fun x p q => by omega⟩⟩
  | succ d ih =>
    intro n D v R T h1 h2 hR
    obtain ⟨n, rfl⟩ : ∃ q, n = q + 1 := ⟨n - 1, by omega⟩
    rw [lB_shortenBySums_37, if_neg (nI_ge (show D < N by omega) (by omega))]
    obtain ⟨T1, ⟨c1, c2⟩ | ⟨r, c2, c3, c4⟩⟩ := B_choice_eq (F := F) (T := T) (D := D) hF hm hk hW (by omega) hR
    · rw [c2, Option.bind_some, if_pos rfl, nI_1]
      obtain ⟨v', R', T', g1, g2, g3⟩ := ih n (D + 1) v R T1 (by omega) (by omega) hR
      refine ⟨v', R', T', g1, g2, ?_⟩
      rcases g3 with ⟨a, b, c⟩ | g3
      · refine Or.inl ⟨a, b, fun x p q => ?_⟩
        by_cases ex : x = D
        · rw [ex]; exact c1
        · exact c x (by omega) q
      · exact Or.inr g3
    · rw [c2, Option.bind_some, if_neg (show ¬ (1 : Int32) = 0 by decide), nI_1]
      have hR2 : ∀ i, i < m → zsq (z4 (va_up R k r i)) ≤ W := fun i hi => by
        by_cases ei : i = k
        · rw [ei, va_up_self]; have := hR k hk; omega
        · rw [va_up_ne _ _ ei]; exact hR i hi
      have hS : SQ (va_up R k r) m < SQ R m := by rw [SQ_up hk]; omega
      obtain ⟨v', R', T', g1, g2, g3⟩ := ih n (D + 1) 1 (va_up R k r) T1 (by omega) (by omega) hR2
      refine ⟨v', R', T', g1, Rl.trans ⟨c3, hR2, Int.le_of_lt hS⟩ g2, Or.inr ⟨?_, Int.lt_of_le_of_lt g2.2.2 hS⟩⟩
      rcases g3 with ⟨_, b, _⟩ | ⟨b, _⟩
      · exact b
      · exact b
theorem sums26 {F m N : Nat} {W : Int} (hF : 130 ≤ F) (hm : m ≤ 4) (hW : W ≤ 1000000000000) (hN : N ≤ 125) : ∀ (d n k : Nat) (v : Int32) (R : Nat → Nat → Int64) (T : Nat → Int64), k + d = m → d < n → (∀ i, i < m → zsq (z4 (R i)) ≤ W) → ∃ v' R' T', lB_shortenBySums_26 F (nI m) (nI N) n v (nI k) R T = some (v', R', T') ∧ Rl m W R R' ∧ ((R' = R ∧ v' = v ∧ ∀ y, k ≤ y → y < m → nc m N R y 0) ∨ (v' = 1 ∧ SQ R' m < SQ R m)) := by
  intro d
  induction d with
  | zero =>
    intro n k v R T h1 h2 hR
    obtain ⟨n, rfl⟩ : ∃ q, n = q + 1 := ⟨n - 1, by omega⟩
    have e : k = m := by omega
    subst e
    exact ⟨v, R, T, by rw [lB_shortenBySums_26, if_pos (nI_le (Nat.le_refl _) (by omega))], ⟨fun _ => Iff.rfl, hR, Int.le_refl _⟩, Or.inl ⟨rfl, rfl, fun y p q => by omega⟩⟩
  | succ d ih =>
    intro n k v R T h1 h2 hR
    obtain ⟨n, rfl⟩ : ∃ q, n = q + 1 := ⟨n - 1, by omega⟩
    have hk : k < m := by omega
    obtain ⟨v1, R1, T1, a1, a2, a3⟩ := sums37 (F := F) (by omega) hm hk hW hN N F 0 v R T (by omega) (by omega) hR
    rw [lB_shortenBySums_26, if_neg (nI_ge hk (by omega)), show (0 : Int32) = nI 0 from rfl, a1, Option.bind_some, nI_1]
    obtain ⟨v', R', T', g1, g2, g3⟩ := ih n (k + 1) v1 R1 T1 (by omega) (by omega) a2.2.1
    refine ⟨v', R', T', g1, a2.trans g2, ?_⟩
    rcases a3 with ⟨rfl, rfl, b3⟩ | ⟨b1, b2⟩
    · rcases g3 with ⟨c1, c2, c3⟩ | g3
      · refine Or.inl ⟨c1, c2, fun y p q => ?_⟩
        by_cases e : y = k
        · rw [e]; exact b3
        · exact c3 y (by omega) q
      · exact Or.inr g3
    · refine Or.inr ⟨?_, Int.lt_of_le_of_lt g2.2.2 b2⟩
      rcases g3 with ⟨_, c2, _⟩ | ⟨c2, _⟩
      · rw [c2]; exact b1
      · exact c2
