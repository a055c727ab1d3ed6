/-! Layer B: floor division in both classes (divisors above 0) -/
theorem ediv_of {x y q : Int} (hy : 0 < y) (h1 : q * y ≤ x) (h2 : x < (q + 1) * y) : x / y = q := by
  have a := Int.le_ediv_of_mul_le hy h1
  have b := Int.ediv_lt_of_lt_mul hy h2
  omega
theorem tdiv_facts {x y : Int} (hy : 0 < y) : x.tdiv y * y + x.tmod y = x ∧ (0 ≤ x → 0 ≤ x.tmod y ∧ x.tmod y < y) ∧ (x ≤ 0 → -y < x.tmod y ∧ x.tmod y ≤ 0) := by
  have h := Int.tmod_add_mul_tdiv x y
  rw [Int.mul_comm] at h
  refine ⟨by omega, fun h0 => ⟨Int.tmod_nonneg y h0, Int.tmod_lt_of_pos x hy⟩, fun h0 => ?_⟩
  have e : x.tmod y = -((-x).tmod y) := by rw [Int.neg_tmod, Int.neg_neg]
  have h1 := Int.tmod_nonneg y (show 0 ≤ -x by omega)
  have h2 := Int.tmod_lt_of_pos (-x) hy
  omega
theorem tdiv_in {x y : Int} (hx : inR x) (hy : 0 < y) : inR (x.tdiv y) := by
  obtain ⟨h1, h2⟩ := hx
  have h3 : (x.tdiv y).natAbs ≤ x.natAbs := by
    rw [Int.natAbs_tdiv]
    exact Nat.div_le_self _ _
  rcases Int.le_total 0 x with h0 | h0
  · have := Int.tdiv_nonneg h0 (Int.le_of_lt hy)
    exact ⟨by omega, by omega⟩
  · have e : x.tdiv y = -((-x).tdiv y) := by rw [Int.neg_tdiv, Int.neg_neg]
    have := Int.tdiv_nonneg (show 0 ≤ -x by omega) (Int.le_of_lt hy)
    exact ⟨by omega, by omega⟩
theorem floor_of_tdiv {x y : Int} (hy : 0 < y) : x / y = if x < 0 ∧ x.tmod y ≠ 0 then x.tdiv y - 1 else x.tdiv y := by
  obtain ⟨h1, h2, h3⟩ := tdiv_facts (x := x) hy
  by_cases hc : x < 0 ∧ x.tmod y ≠ 0
  · rw [if_pos hc]
    obtain ⟨a, b⟩ := h3 (by omega)
    have e1 : (x.tdiv y - 1) * y = x.tdiv y * y - y := by rw [Int.sub_mul]; omega
    have e2 : (x.tdiv y - 1 + 1) * y = x.tdiv y * y := by rw [Int.sub_add_cancel]
    exact ediv_of hy (by omega) (by omega)
  · rw [if_neg hc]
    have e2 : (x.tdiv y + 1) * y = x.tdiv y * y + y := by rw [Int.add_mul]; omega
    by_cases hx : x < 0
    · have hz : x.tmod y = 0 := Decidable.byContradiction fun q => hc ⟨hx, q⟩
      exact ediv_of hy (by omega) (by omega)
    · obtain ⟨a, b⟩ := h2 (by omega)
      exact ediv_of hy (by omega) (by omega)
theorem neg_msb (x : Int64) : x.toInt < 0 ↔ x.toBitVec.msb = true := by
  rw [BitVec.msb_eq_toInt]
  simp
theorem xor_sign (x y : Int64) : (0 : Int64) ≤ (x ^^^ y) ↔ (x.toInt < 0 ↔ y.toInt < 0) := by
  have e0 : (0 : Int64).toInt = 0 := by decide
  rw [ti_le, e0, neg_msb x, neg_msb y]
  have h : (x ^^^ y).toInt < 0 ↔ (x.toBitVec ^^^ y.toBitVec).msb = true := by
    rw [neg_msb, Int64.toBitVec_xor]
  rw [BitVec.msb_xor] at h
  constructor
  · intro q
    have : ¬ (x ^^^ y).toInt < 0 := by omega
    rw [h] at this
    cases hx : x.toBitVec.msb <;> cases hy : y.toBitVec.msb <;> simp_all
  · intro q
    have : ¬ (x ^^^ y).toInt < 0 := by
      rw [h]
      cases hx : x.toBitVec.msb <;> cases hy : y.toBitVec.msb <;> simp_all
    omega
theorem pos_ne {y : Int64} (hy : 0 < y.toInt) : ¬ y = 0 := fun q => by
  rw [q] at hy
  exact absurd hy (by decide)
theorem sub1 {z : Int64} (h : inR (z.toInt - 1)) : (z - (1 : Int64)).toInt = z.toInt - 1 := by
  have e1 : (1 : Int64).toInt = 1 := by decide
  have := ti_sub (x := z) (y := 1) (by rw [e1]; exact h)
  rw [e1] at this
  exact this
theorem floor_in {x y : Int} (hx : inR x) (hy : 0 < y) : inR (x / y) := by
  obtain ⟨h1, h2⟩ := hx
  rcases Int.le_total 0 x with h0 | h0
  · have a := Int.ediv_nonneg h0 (Int.le_of_lt hy)
    have b := Int.ediv_le_self y h0
    exact ⟨by omega, by omega⟩
  · have a : x / y ≤ 0 := by
      have := Int.ediv_lt_of_lt_mul (a := x) (b := 1) (c := y) hy (by omega)
      omega
    have b : x ≤ x / y := by
      refine Int.le_ediv_of_mul_le hy ?_
      have : x * y ≤ x * 1 := Int.mul_le_mul_of_nonpos_left h0 (by omega)
      omega
    exact ⟨by omega, by omega⟩
/-- Math.floorDiv -/
theorem JM_floorDiv_eq {F : Nat} {x y : Int64} (hy : 0 < y.toInt) : ∃ z : Int64, JM_floorDiv F x y = some z ∧ z.toInt = x.toInt / y.toInt := by
  have hx := ti_in x
  have hd := ti_div (x := x) (y := y) (tdiv_in hx hy)
  have hfl := floor_of_tdiv (x := x.toInt) hy
  have hin := floor_in hx hy
  obtain ⟨h1, h2, h3⟩ := tdiv_facts (x := x.toInt) hy
  unfold JM_floorDiv
  rw [gd_t (pos_ne hy)]
  by_cases h0 : (0 : Int64) ≤ (x ^^^ y)
  · rw [if_pos h0]
    refine ⟨_, rfl, ?_⟩
    have := (xor_sign x y).mp h0
    rw [hd, hfl, if_neg (by omega)]
  · rw [if_neg h0]
    have hneg : x.toInt < 0 := by
      refine Decidable.byContradiction fun q => h0 ((xor_sign x y).mpr ?_)
      omega
    have hnp : x.toInt.tdiv y.toInt * y.toInt ≤ 0 := by
      have a := Int.mul_nonneg (Int.tdiv_nonneg (show 0 ≤ -x.toInt by omega) (Int.le_of_lt hy)) (Int.le_of_lt hy)
      have e : x.toInt.tdiv y.toInt = -((-x.toInt).tdiv y.toInt) := by rw [Int.neg_tdiv, Int.neg_neg]
      rw [e, Int.neg_mul]
      omega
    have hm : (x / y * y).toInt = x.toInt.tdiv y.toInt * y.toInt := by
      rw [ti_mul (by rw [hd]; exact ⟨by have := hx.1; have := h3 (by omega); omega, by omega⟩), hd]
    by_cases he : x / y * y = x
    · rw [if_pos he]
      refine ⟨_, rfl, ?_⟩
      have : x.toInt.tdiv y.toInt * y.toInt = x.toInt := by rw [← hm, he]
      rw [hd, hfl, if_neg (by omega)]
    · rw [if_neg he]
      refine ⟨_, rfl, ?_⟩
      have : ¬ x.toInt.tdiv y.toInt * y.toInt = x.toInt := fun q => he (Int64.toInt_inj.mp (by rw [hm, q]))
      rw [if_pos (by omega)] at hfl
      rw [sub1 (by rw [hd, ← hfl]; exact hin), hd, hfl]
/-- the reference's under -/
theorem M_under_eq {F : Nat} {x y : Int64} (hy : 0 < y.toInt) : ∃ z : Int64, M_under F x y = some z ∧ z.toInt = x.toInt / y.toInt := by
  have hx := ti_in x
  have hd := ti_div (x := x) (y := y) (tdiv_in hx hy)
  have hfl := floor_of_tdiv (x := x.toInt) hy
  have hin := floor_in hx hy
  have e0 : (0 : Int64).toInt = 0 := by decide
  have hmod : (x - x / y * y) = (0 : Int64) ↔ x.toInt.tmod y.toInt = 0 := by
    rw [lrem_mod, ti_eq, Int64.toInt_mod, e0]
  have hyp : (0 : Int64) ≤ y := ti_le.mpr (by rw [e0]; omega)
  unfold M_under
  rw [gd_t (pos_ne hy), gd_t (pos_ne hy)]
  by_cases h1 : (x - x / y * y) = (0 : Int64)
  · rw [if_pos h1]
    refine ⟨_, rfl, ?_⟩
    have := hmod.mp h1
    rw [hd, hfl, if_neg (by omega)]
  · rw [if_neg h1]
    have hm : ¬ x.toInt.tmod y.toInt = 0 := fun q => h1 (hmod.mpr q)
    by_cases h2 : (0 : Int64) ≤ x
    · rw [if_pos h2, if_pos hyp]
      refine ⟨_, rfl, ?_⟩
      have := ti_le.mp h2
      rw [hd, hfl, if_neg (by omega)]
    · rw [if_neg h2, if_pos hyp]
      refine ⟨_, rfl, ?_⟩
      have hneg : x.toInt < 0 := by
        refine Decidable.byContradiction fun q => h2 (ti_le.mpr ?_)
        omega
      rw [if_pos ⟨hneg, hm⟩] at hfl
      rw [sub1 (by rw [hd, ← hfl]; exact hin), hd, hfl]
/-- the class's nearest quotient: floor((2 a + b) / (2 b)) -/
theorem V_nearestQuotient_eq {F : Nat} {x y : Int64} (hy : 0 < y.toInt) (h1 : inR (2 * x.toInt + y.toInt)) (h2 : inR (2 * x.toInt)) (h3 : inR (2 * y.toInt)) : ∃ z : Int64, V_nearestQuotient F x y = some z ∧ z.toInt = (2 * x.toInt + y.toInt) / (2 * y.toInt) := by
  have e0 : (0 : Int64).toInt = 0 := by decide
  have e2 : (2 : Int64).toInt = 2 := by decide
  have hyp : (0 : Int64) < y := ti_lt.mpr (by rw [e0]; exact hy)
  have a1 : ((2 : Int64) * x).toInt = 2 * x.toInt := by
    rw [ti_mul (by rw [e2]; exact h2), e2]
  have a2 : ((2 : Int64) * y).toInt = 2 * y.toInt := by
    rw [ti_mul (by rw [e2]; exact h3), e2]
  have a3 : ((2 : Int64) * x + y).toInt = 2 * x.toInt + y.toInt := by
    rw [ti_add (by rw [a1]; exact h1), a1]
  obtain ⟨z, hz, ez⟩ := JM_floorDiv_eq (F := F) (x := (2 : Int64) * x + y) (y := (2 : Int64) * y) (by rw [a2]; omega)
  unfold V_nearestQuotient
  rw [if_pos hyp, hz]
  exact ⟨z, rfl, by rw [ez, a3, a2]⟩
