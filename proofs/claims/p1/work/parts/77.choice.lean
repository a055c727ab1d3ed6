/-! Layer B: a choice of factors -/
theorem nI_div5 {D : Nat} (h : D < 1000000) : nI D / (5 : Int32) = nI (D / 5) := by
  apply Int32.toInt_inj.mp
  rw [Int32.toInt_div, nI_toInt (by omega), nI_toInt (by omega), show (5 : Int32).toInt = 5 from rfl]
  have e : (D : Int).tdiv 5 = ((D / 5 : Nat) : Int) := by
    rw [Int.tdiv_eq_ediv_of_nonneg (by omega)]; omega
  rw [e]
  exact Int.bmod_eq_of_le (by omega) (by omega)
theorem dig5 {D : Nat} (h : D < 1000000) : ((nI D - nI D / (5 : Int32) * (5 : Int32)) - (2 : Int32)).toInt64.toInt = ((D % 5 : Nat) : Int) - 2 := by
  have e : nI D - nI D / (5 : Int32) * (5 : Int32) = nI (D % 5) := by
    rw [nI_div5 h]
    apply Int32.toInt_inj.mp
    rw [Int32.toInt_sub, Int32.toInt_mul, nI_toInt (by omega), nI_toInt (by omega), nI_toInt (by omega), show (5 : Int32).toInt = 5 from rfl, Int.sub_bmod_bmod]
    have e2 : (D : Int) - ((D / 5 : Nat) : Int) * 5 = ((D % 5 : Nat) : Int) := by omega
    rw [e2]
    exact Int.bmod_eq_of_le (by omega) (by omega)
  rw [e, Int32.toInt_toInt64, Int32.toInt_sub, nI_toInt (by omega), show (2 : Int32).toInt = 2 from rfl]
  exact Int.bmod_eq_of_le (by omega) (by omega)
theorem zsq_two (u b : Z4) (c : Int) : zsq (zadd u (zmul c b)) ≤ 2 * zsq u + 2 * (c * c * zsq b) := by
  have h1 := zsq_add u b c
  have h2 := zsq_add u b (-c)
  have h3 := zsq_nonneg (zadd u (zmul (-c) b))
  have e : -c * -c * zsq b = c * c * zsq b := by grind
  have e2 : 2 * -c * zdot u b = -(2 * c * zdot u b) := by grind
  rw [e, e2] at h2
  omega
/-- the trial: the factors of the choice D for the rows from o on, but row k -/
def chz (R : Nat → Nat → Int64) (k : Nat) : Nat → Nat → Nat → Z4 → Z4
  | 0, _, _, t => t
  | d + 1, o, D, t => if o = k then chz R k d (o + 1) D t else chz R k d (o + 1) (D / 5) (zadd t (zmul (((D % 5 : Nat) : Int) - 2) (z4 (R o))))
theorem choice18 {F m k : Nat} {W : Int} {R : Nat → Nat → Int64} (hF : 5 ≤ F) (hm : m ≤ 4) (hk : k < m) (hW0 : 0 ≤ W) (hR : ∀ i, i < m → zsq (z4 (R i)) ≤ W) : ∀ (d n o D : Nat) (t : Nat → Int64) (B : Int), o + d = m → d < n → D < 1000000 → zsq (z4 t) ≤ B → 2 ^ d * (B + 8 * W) ≤ 1152921504606846976 → ∃ r, lB_shortenByChoice_18 F R (nI m) (nI k) n (nI D) (nI o) t = some r ∧ z4 r = chz R k d o D (z4 t) ∧ zsq (z4 r) ≤ 1152921504606846976 := by
  intro d
  induction d with
  | zero =>
    intro n o D t B h1 h2 h3 h4 h5
    obtain ⟨n, rfl⟩ : ∃ q, n = q + 1 := ⟨n - 1, by omega⟩
    have e : o = m := by omega
    subst e
    exact ⟨t, by rw [lB_shortenByChoice_18, if_pos (nI_le (Nat.le_refl _) (by omega))], rfl, by omega⟩
  | succ d ih =>
    intro n o D t B h1 h2 h3 h4 h5
    obtain ⟨n, rfl⟩ : ∃ q, n = q + 1 := ⟨n - 1, by omega⟩
    have ho : o < m := by omega
    have hB0 : 0 ≤ B := Int.le_trans (zsq_nonneg _) h4
    have hp : (1 : Int) ≤ 2 ^ d := by
      have : 0 < (2 : Int) ^ d := Int.pow_pos (by decide)
      omega
    have e2 : (2 : Int) ^ (d + 1) * (B + 8 * W) = 2 ^ d * ((2 * B + 8 * W) + 8 * W) := by rw [Int.pow_succ]; grind
    rw [lB_shortenByChoice_18, if_neg (nI_ge ho (by omega))]
    by_cases e : o = k
    · rw [if_pos (by rw [e]), nI_1]
      obtain ⟨r, g1, g2, g3⟩ := ih n (o + 1) D t B (by omega) (by omega) h3 h4 (by
        have : 2 ^ d * (B + 8 * W) ≤ 2 ^ d * ((2 * B + 8 * W) + 8 * W) := Int.mul_le_mul_of_nonneg_left (by omega) (by omega)
        omega)
      refine ⟨r, g1, ?_, g3⟩
      rw [g2]
      exact (if_pos e).symm
    · rw [if_neg (fun q => e ((nI_eq (by omega) (by omega)).mp q)), gd_t (vp_in_nI (by omega) (by decide)), nI_clamp (by omega), V_addMultiple_eq hF, Option.bind_some, nI_1, nI_div5 h3]
      have hd := dig5 h3
      have hc : (((D % 5 : Nat) : Int) - 2) * (((D % 5 : Nat) : Int) - 2) ≤ 4 := by
        have : D % 5 < 5 := Nat.mod_lt _ (by decide)
        rcases (show D % 5 = 0 ∨ D % 5 = 1 ∨ D % 5 = 2 ∨ D % 5 = 3 ∨ D % 5 = 4 by omega) with q | q | q | q | q <;> rw [q] <;> decide
      have hnew : zsq (zadd (z4 t) (zmul (((D % 5 : Nat) : Int) - 2) (z4 (R o)))) ≤ 2 * B + 8 * W := by
        have q1 := zsq_two (z4 t) (z4 (R o)) (((D % 5 : Nat) : Int) - 2)
        have q2 : (((D % 5 : Nat) : Int) - 2) * (((D % 5 : Nat) : Int) - 2) * zsq (z4 (R o)) ≤ 4 * W := Int.mul_le_mul hc (hR o ho) (zsq_nonneg _) (by decide)
        omega
      have hle : 1 * ((2 * B + 8 * W) + 8 * W) ≤ 2 ^ d * ((2 * B + 8 * W) + 8 * W) := Int.mul_le_mul_of_nonneg_right hp (by omega)
      have hz : z4 (add4 t (R o) ((nI D - nI D / (5 : Int32) * (5 : Int32)) - (2 : Int32)).toInt64) = zadd (z4 t) (zmul (((D % 5 : Nat) : Int) - 2) (z4 (R o))) := by
        have q3 := z4_add4 (a := t) (b := R o) (v := ((nI D - nI D / (5 : Int32) * (5 : Int32)) - (2 : Int32)).toInt64) (by rw [hd]; exact zsq_in4 (W := 2 * B + 8 * W) (by omega) hnew)
        rw [hd] at q3
        exact q3
      rw [nI_div5 h3] at hz
      obtain ⟨r, g1, g2, g3⟩ := ih n (o + 1) (D / 5) _ (2 * B + 8 * W) (by omega) (by omega) (by omega) (by rw [hz]; exact hnew) (by omega)
      refine ⟨r, g1, ?_, g3⟩
      rw [g2, hz]
      exact (if_neg e).symm
