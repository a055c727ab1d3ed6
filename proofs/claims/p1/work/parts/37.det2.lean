/-! Layer B: the size of a determinant; rows that repeat -/
theorem prod_le {a b A B : Nat} {x y : Int} (hx : x.natAbs ≤ A) (hy : y.natAbs ≤ B) : (x * y).natAbs ≤ A * B := by
  rw [Int.natAbs_mul]
  exact Nat.mul_le_mul hx hy
theorem minor_le {a b c d : Int} {M : Nat} (ha : a.natAbs ≤ M) (hb : b.natAbs ≤ M) (hc : c.natAbs ≤ M) (hd : d.natAbs ≤ M) : (a * d - b * c).natAbs ≤ 2 * (M * M) := by
  have h1 := prod_le (a := 0) (b := 0) ha hd
  have h2 := prod_le (a := 0) (b := 0) hb hc
  omega
def le4 (M : Nat) (v : Z4) : Prop := v.1.natAbs ≤ M ∧ v.2.1.natAbs ≤ M ∧ v.2.2.1.natAbs ≤ M ∧ v.2.2.2.natAbs ≤ M
theorem det_le {a b c d : Z4} {M : Nat} (ha : le4 M a) (hb : le4 M b) (hc : le4 M c) (hd : le4 M d) : (det4 a b c d).natAbs ≤ 6 * ((2 * (M * M)) * (2 * (M * M))) := by
  obtain ⟨a0, a1, a2, a3⟩ := ha
  obtain ⟨b0, b1, b2, b3⟩ := hb
  obtain ⟨c0, c1, c2, c3⟩ := hc
  obtain ⟨d0, d1, d2, d3⟩ := hd
  have h1 := prod_le (a := 0) (b := 0) (minor_le a0 a1 b0 b1) (minor_le c2 c3 d2 d3)
  have h2 := prod_le (a := 0) (b := 0) (minor_le a0 a2 b0 b2) (minor_le c1 c3 d1 d3)
  have h3 := prod_le (a := 0) (b := 0) (minor_le a0 a3 b0 b3) (minor_le c1 c2 d1 d2)
  have h4 := prod_le (a := 0) (b := 0) (minor_le a1 a2 b1 b2) (minor_le c0 c3 d0 d3)
  have h5 := prod_le (a := 0) (b := 0) (minor_le a1 a3 b1 b3) (minor_le c0 c2 d0 d2)
  have h6 := prod_le (a := 0) (b := 0) (minor_le a2 a3 b2 b3) (minor_le c0 c1 d0 d1)
  unfold det4
  omega
theorem det_9 {a b c d : Z4} (ha : le4 9 a) (hb : le4 9 b) (hc : le4 9 c) (hd : le4 9 d) : (det4 a b c d).natAbs ≤ 157464 := det_le ha hb hc hd
theorem det_ab (a c d : Z4) : det4 a a c d = 0 := by unfold det4; grind
theorem det_ac (a b d : Z4) : det4 a b a d = 0 := by unfold det4; grind
theorem det_ad (a b c : Z4) : det4 a b c a = 0 := by unfold det4; grind
theorem det_bc (a b d : Z4) : det4 a b b d = 0 := by unfold det4; grind
theorem det_bd (a b c : Z4) : det4 a b c b = 0 := by unfold det4; grind
theorem det_cd (a b c : Z4) : det4 a b c c = 0 := by unfold det4; grind
theorem det_sab (a b c d : Z4) : det4 b a c d = -det4 a b c d := by unfold det4; grind
theorem det_sbc (a b c d : Z4) : det4 a c b d = -det4 a b c d := by unfold det4; grind
theorem det_scd (a b c d : Z4) : det4 a b d c = -det4 a b c d := by unfold det4; grind
/-- Cramer's rule in four dimensions -/
theorem cramer (a b c d v : Z4) : zmul (det4 a b c d) v = zadd (zadd (zadd (zmul (det4 v b c d) a) (zmul (det4 a v c d) b)) (zmul (det4 a b v d) c)) (zmul (det4 a b c v) d) := by
  refine zext ?_ ?_ ?_ ?_ <;> unfold det4 zmul zadd <;> grind
