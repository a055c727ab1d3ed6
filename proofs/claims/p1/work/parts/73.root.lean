/-! Layer B: the reference's root and origin -/
def hb (j : Nat) : Nat := if j = 0 then 0 else 2 ^ (j - 1)
theorem lN_half {a : Nat} (h : a < 9223372036854775808) : lN a / (2 : Int64) = lN (a / 2) := by
  refine ti_eq.mpr ?_
  have h2 : (2 : Int64).toInt = 2 := rfl
  have e : ((a : Int).tdiv 2) = ((a / 2 : Nat) : Int) := by
    rw [Int.tdiv_eq_ediv_of_nonneg (by omega)]
    omega
  rw [ti_div (by rw [lN_ti h, h2, e]; exact inR_of (by omega)), lN_ti h, h2, e, lN_ti (by omega)]
theorem hb_half (j : Nat) : hb (j + 1) / 2 = hb j := by
  unfold hb
  rw [if_neg (by omega), Nat.add_sub_cancel]
  by_cases e : j = 0
  · subst e; rfl
  · rw [if_neg e]
    obtain ⟨i, rfl⟩ : ∃ i, j = i + 1 := ⟨j - 1, by omega⟩
    rw [Nat.pow_succ, Nat.add_sub_cancel, Nat.mul_div_cancel _ (by decide)]
theorem root_loop {F v : Nat} (hv : v < 17179869184) : ∀ (j n r : Nat), j ≤ 17 → r ≤ 131072 → r * r ≤ v → v < (r + 2 ^ j) * (r + 2 ^ j) → j < n → ∃ s, lM_root_7 F (lN v) n (lN r) (lN (hb j)) = some (lN s) ∧ s * s ≤ v ∧ v < (s + 1) * (s + 1) := by
  intro j
  induction j with
  | zero =>
    intro n r h1 h2 h3 h4 h5
    obtain ⟨n, rfl⟩ : ∃ q, n = q + 1 := ⟨n - 1, by omega⟩
    refine ⟨r, ?_, h3, h4⟩
    rw [lM_root_7, if_pos (show lN (hb 0) ≤ (0 : Int64) by decide)]
  | succ j ih =>
    intro n r h1 h2 h3 h4 h5
    obtain ⟨n, rfl⟩ : ∃ q, n = q + 1 := ⟨n - 1, by omega⟩
    have e : hb (j + 1) = 2 ^ j := by unfold hb; rw [if_neg (by omega), Nat.add_sub_cancel]
    have hp : 1 ≤ 2 ^ j := Nat.pow_pos (by decide)
    have hp2 : 2 ^ j ≤ 2 ^ 17 := Nat.pow_le_pow_right (by decide) (by omega)
    have hp3 : (2 : Nat) ^ 17 = 131072 := by decide
    have hpos : ¬ lN (hb (j + 1)) ≤ (0 : Int64) := fun q => by
      rw [ti_le, lN_ti (by omega), show (0 : Int64).toInt = 0 from rfl] at q
      omega
    have hsq : (r + 2 ^ j) * (r + 2 ^ j) ≤ 262144 * 262144 := Nat.mul_le_mul (by omega) (by omega)
    rw [lM_root_7, if_neg hpos, lN_half (by omega), hb_half, lN_add, lN_mul, e]
    have hc : (lN v < lN ((r + 2 ^ j) * (r + 2 ^ j))) ↔ v < (r + 2 ^ j) * (r + 2 ^ j) := by
      rw [ti_lt, lN_ti (by omega), lN_ti (by omega)]
      omega
    by_cases q : v < (r + 2 ^ j) * (r + 2 ^ j)
    · rw [if_pos (hc.mpr q)]
      exact ih n r (by omega) h2 h3 q (by omega)
    · rw [if_neg (fun z => q (hc.mp z))]
      have hr : r + 2 ^ j ≤ 131072 := by
        rcases Nat.lt_or_ge 131072 (r + 2 ^ j) with z | z
        · have := Nat.mul_le_mul (show 131072 ≤ r + 2 ^ j by omega) (show 131072 ≤ r + 2 ^ j by omega)
          omega
        · exact z
      refine ih n (r + 2 ^ j) (by omega) hr (by omega) ?_ (by omega)
      have e2 : r + 2 ^ j + 2 ^ j = r + 2 ^ (j + 1) := by rw [Nat.pow_succ]; omega
      rw [e2]; exact h4
theorem M_root_eq {F v : Nat} (hF : 20 ≤ F) (hv : v < 17179869184) : ∃ s, M_root F (lN v) = some (lN s) ∧ s * s ≤ v ∧ v < (s + 1) * (s + 1) := by
  obtain ⟨s, h1, h2, h3⟩ := root_loop (F := F) hv 17 F 0 (by decide) (by decide) (by omega) (by rw [show 0 + 2 ^ 17 = 131072 by decide]; omega) (by omega)
  refine ⟨s, ?_, h2, h3⟩
  unfold M_root
  have e : lM_root_7 F (lN v) F 0 65536 = some (lN s) := h1
  rw [e]
  rfl
def org (j : Nat) (p : Nat → Int64) : Nat → Int64 := fun x => if j ≤ x ∧ x < 4 then 0 else p x
theorem org_loop {F : Nat} : ∀ (d n j : Nat) (p : Nat → Int64), j + d = 4 → d < n → lM_origin_2 F n (nI j) p = some (org j p) := by
  intro d
  induction d with
  | zero =>
    intro n j p hj hn
    obtain ⟨n, rfl⟩ : ∃ q, n = q + 1 := ⟨n - 1, by omega⟩
    have e : j = 4 := by omega
    subst e
    have e1 : org 4 p = p := funext fun x => if_neg (by omega)
    rw [lM_origin_2, if_pos (show (4 : Int32) ≤ nI 4 by decide), e1]
  | succ d ih =>
    intro n j p hj hn
    obtain ⟨n, rfl⟩ : ∃ q, n = q + 1 := ⟨n - 1, by omega⟩
    have h4 : ¬ (4 : Int32) ≤ nI j := nI_ge (b := 4) (by omega) (by decide)
    rw [lM_origin_2, if_neg h4, gd_t (vp_in_nI (by omega) (by decide)), nI_clamp (by omega), nI_1, ih n (j + 1) _ (by omega) (by omega)]
    congr 1
    funext x
    unfold org vp_updL
    by_cases e : x = j
    · subst e
      rw [if_neg (by omega), if_pos rfl, if_pos (by omega)]
    · by_cases h : j + 1 ≤ x ∧ x < 4
      · rw [if_pos h, if_pos (by omega)]
      · rw [if_neg h, if_neg e, if_neg (by omega)]
theorem M_origin_eq {F : Nat} (hF : 5 ≤ F) (p : Nat → Int64) : M_origin F p = some (org 0 p) := by
  unfold M_origin
  rw [show (0 : Int32) = nI 0 from rfl, org_loop 4 F 0 p rfl (by omega)]
  rfl
theorem z4_org (p : Nat → Int64) : z4 (org 0 p) = z0 := z4_of0 (fun j hj => if_pos ⟨Nat.zero_le _, hj⟩)
