/-! Layer B: a determinant of four vectors with squares of at most 324 is at most 104976 -/
theorem amgm (x y : Int) : 2 * (x * y) ≤ x * x + y * y ∧ -(x * x + y * y) ≤ 2 * (x * y) := by
  have h1 := sqnn (x - y)
  have h2 := sqnn (x + y)
  have e1 : (x - y) * (x - y) = x * x + y * y - 2 * (x * y) := by grind
  have e2 : (x + y) * (x + y) = x * x + y * y + 2 * (x * y) := by grind
  omega
theorem minors_le (a b : Z4) : (a.1 * b.2.1 - a.2.1 * b.1) * (a.1 * b.2.1 - a.2.1 * b.1) + (a.1 * b.2.2.1 - a.2.2.1 * b.1) * (a.1 * b.2.2.1 - a.2.2.1 * b.1) + (a.1 * b.2.2.2 - a.2.2.2 * b.1) * (a.1 * b.2.2.2 - a.2.2.2 * b.1) + (a.2.1 * b.2.2.1 - a.2.2.1 * b.2.1) * (a.2.1 * b.2.2.1 - a.2.2.1 * b.2.1) + (a.2.1 * b.2.2.2 - a.2.2.2 * b.2.1) * (a.2.1 * b.2.2.2 - a.2.2.2 * b.2.1) + (a.2.2.1 * b.2.2.2 - a.2.2.2 * b.2.2.1) * (a.2.2.1 * b.2.2.2 - a.2.2.2 * b.2.2.1) ≤ zdot a a * zdot b b := by
  have h := sqnn (zdot a b)
  have e : zdot a a * zdot b b = zdot a b * zdot a b + ((a.1 * b.2.1 - a.2.1 * b.1) * (a.1 * b.2.1 - a.2.1 * b.1) + (a.1 * b.2.2.1 - a.2.2.1 * b.1) * (a.1 * b.2.2.1 - a.2.2.1 * b.1) + (a.1 * b.2.2.2 - a.2.2.2 * b.1) * (a.1 * b.2.2.2 - a.2.2.2 * b.1) + (a.2.1 * b.2.2.1 - a.2.2.1 * b.2.1) * (a.2.1 * b.2.2.1 - a.2.2.1 * b.2.1) + (a.2.1 * b.2.2.2 - a.2.2.2 * b.2.1) * (a.2.1 * b.2.2.2 - a.2.2.2 * b.2.1) + (a.2.2.1 * b.2.2.2 - a.2.2.2 * b.2.2.1) * (a.2.2.1 * b.2.2.2 - a.2.2.2 * b.2.2.1)) := by
    unfold zdot; grind
  omega
theorem sq_le9 {x : Int} (h : x.natAbs ≤ 9) : x * x ≤ 81 := by
  have h1 : x.natAbs * x.natAbs ≤ 9 * 9 := Nat.mul_le_mul h h
  have h2 : ((x.natAbs * x.natAbs : Nat) : Int) = x * x := by rw [Int.natCast_mul]; exact Int.natAbs_mul_self' x
  omega
theorem dot_le {a : Z4} (h : le4 9 a) : zdot a a ≤ 324 ∧ 0 ≤ zdot a a := by
  obtain ⟨h0, h1, h2, h3⟩ := h
  have a0 := sq_le9 h0
  have a1 := sq_le9 h1
  have a2 := sq_le9 h2
  have a3 := sq_le9 h3
  have b0 := sqnn a.1
  have b1 := sqnn a.2.1
  have b2 := sqnn a.2.2.1
  have b3 := sqnn a.2.2.2
  unfold zdot
  omega
theorem six {m1 m2 m3 m4 m5 m6 n1 n2 n3 n4 n5 n6 K L : Int} (hm : m1 * m1 + m2 * m2 + m3 * m3 + m4 * m4 + m5 * m5 + m6 * m6 ≤ K) (hn : n6 * n6 + n5 * n5 + n4 * n4 + n3 * n3 + n2 * n2 + n1 * n1 ≤ L) (hK : K ≤ 104976) (hL : L ≤ 104976) : (m1 * n1 - m2 * n2 + m3 * n3 + m4 * n4 - m5 * n5 + m6 * n6).natAbs ≤ 104976 := by
  have up : 2 * (m1 * n1 - m2 * n2 + m3 * n3 + m4 * n4 - m5 * n5 + m6 * n6) ≤ 209952 := by
    have q1 := (amgm m1 n1).1
    have q2 := (amgm m2 n2).2
    have q3 := (amgm m3 n3).1
    have q4 := (amgm m4 n4).1
    have q5 := (amgm m5 n5).2
    have q6 := (amgm m6 n6).1
    generalize m1 * n1 = x1 at *
    generalize m2 * n2 = x2 at *
    generalize m3 * n3 = x3 at *
    generalize m4 * n4 = x4 at *
    generalize m5 * n5 = x5 at *
    generalize m6 * n6 = x6 at *
    omega
  have lo : -209952 ≤ 2 * (m1 * n1 - m2 * n2 + m3 * n3 + m4 * n4 - m5 * n5 + m6 * n6) := by
    have q1 := (amgm m1 n1).2
    have q2 := (amgm m2 n2).1
    have q3 := (amgm m3 n3).2
    have q4 := (amgm m4 n4).2
    have q5 := (amgm m5 n5).1
    have q6 := (amgm m6 n6).2
    generalize m1 * n1 = x1 at *
    generalize m2 * n2 = x2 at *
    generalize m3 * n3 = x3 at *
    generalize m4 * n4 = x4 at *
    generalize m5 * n5 = x5 at *
    generalize m6 * n6 = x6 at *
    omega
  generalize m1 * n1 - m2 * n2 + m3 * n3 + m4 * n4 - m5 * n5 + m6 * n6 = s at *
  clear hm hn
  omega
theorem det_h {a b c d : Z4} (ha : le4 9 a) (hb : le4 9 b) (hc : le4 9 c) (hd : le4 9 d) : (det4 a b c d).natAbs ≤ 104976 := by
  have k1 : zdot a a * zdot b b ≤ 324 * 324 := Int.mul_le_mul (dot_le ha).1 (dot_le hb).1 (dot_le hb).2 (by decide)
  have k2 : zdot c c * zdot d d ≤ 324 * 324 := Int.mul_le_mul (dot_le hc).1 (dot_le hd).1 (dot_le hd).2 (by decide)
  exact six (minors_le a b) (minors_le c d) k1 k2
theorem det_bound_h {A : List Z4} {r0 r1 r2 r3 : Z4} (h1 : ∀ g ∈ A, sp [r0, r1, r2, r3] g) (h2 : ∀ g ∈ [r0, r1, r2, r3], sp A g) (h9 : ∀ g ∈ A, le4 9 g) : (det4 r0 r1 r2 r3).natAbs ≤ 104976 := by
  by_cases hD : det4 r0 r1 r2 r3 = 0
  · rw [hD]; decide
  · obtain ⟨a, ha, b, hb, c, hc, d, hd, hne, hdv⟩ := det_some h1 h2 hD
    have h3 := Nat.le_of_dvd (by omega) (Int.natAbs_dvd_natAbs.mpr hdv)
    have h4 := det_h (h9 a ha) (h9 b hb) (h9 c hc) (h9 d hd)
    omega
