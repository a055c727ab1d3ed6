/-! Layer B: in four dimensions a vector with a part of b4 isn't shorter than b4 -/
theorem sqnn (x : Int) : 0 ≤ x * x := by
  rcases Int.le_total 0 x with h | h
  · exact Int.mul_nonneg h h
  · have : 0 ≤ (-x) * (-x) := Int.mul_nonneg (by omega) (by omega)
    rw [Int.neg_mul_neg] at this
    exact this
def zsq (v : Z4) : Int := zdot v v
theorem zsq_nonneg (v : Z4) : 0 ≤ zsq v := by
  unfold zsq zdot
  have h1 := sqnn v.1
  have h2 := sqnn v.2.1
  have h3 := sqnn v.2.2.1
  have h4 := sqnn v.2.2.2
  omega
theorem zsq_add (u b : Z4) (z : Int) : zsq (zadd u (zmul z b)) = zsq u + 2 * z * zdot u b + z * z * zsq b := by
  unfold zsq zdot zadd zmul
  grind
theorem round1 {a d Nb K m : Int} (hm : 0 < m) (hN : 0 ≤ Nb) (h : ∀ y : Int, K ≤ 4 * (a + 2 * (m * y) * d + (m * y) * (m * y) * Nb)) (x : Int) : K ≤ 4 * (a + 2 * x * d + x * x * Nb) + m * m * Nb := by
  have hx : m * (x / m) + x % m = x := Int.mul_ediv_add_emod x m
  have s0 : 0 ≤ x % m := Int.emod_nonneg x (by omega)
  have s1 : x % m < m := Int.emod_lt_of_pos x hm
  generalize x / m = q at hx
  generalize x % m = s at hx s0 s1
  subst hx
  have h0 := h q
  have h1 := h (q + 1)
  have a0 := Int.mul_le_mul_of_nonneg_left h0 (show 0 ≤ m - s by omega)
  have a1 := Int.mul_le_mul_of_nonneg_left h1 s0
  have id : (m - s) * (4 * (a + 2 * (m * q) * d + (m * q) * (m * q) * Nb)) + s * (4 * (a + 2 * (m * (q + 1)) * d + (m * (q + 1)) * (m * (q + 1)) * Nb)) = m * (4 * (a + 2 * (m * q + s) * d + (m * q + s) * (m * q + s) * Nb) + (4 * (s * (m - s))) * Nb) := by grind
  have ek : (m - s) * K + s * K = m * K := by grind
  have hk : m * K ≤ m * (4 * (a + 2 * (m * q + s) * d + (m * q + s) * (m * q + s) * Nb) + (4 * (s * (m - s))) * Nb) := by omega
  have hk2 := Int.le_of_mul_le_mul_left hk hm
  have hs : 4 * (s * (m - s)) ≤ m * m := by
    have := sqnn (m - 2 * s)
    have e : (m - 2 * s) * (m - 2 * s) = m * m - 4 * (s * (m - s)) := by grind
    omega
  have hn := Int.mul_le_mul_of_nonneg_right hs hN
  omega
/-- a combination -/
def comb (x1 x2 x3 x4 : Int) (b1 b2 b3 b4 : Z4) : Z4 := zadd (zadd (zadd (zmul x4 b4) (zmul x1 b1)) (zmul x2 b2)) (zmul x3 b3)
/-- what the reduction of the class gives of b4 and of those before it -/
def near4 (b1 b2 b3 b4 : Z4) : Prop := ∀ c1 c2 c3 : Int, -1 ≤ c1 → c1 ≤ 1 → -1 ≤ c2 → c2 ≤ 1 → -1 ≤ c3 → c3 ≤ 1 → zsq b4 ≤ zsq (comb c1 c2 c3 1 b1 b2 b3 b4)
def pairs (b c : Z4) : Prop := 2 * zdot b c ≤ zsq b ∧ -(2 * zdot b c) ≤ zsq b ∧ 2 * zdot b c ≤ zsq c ∧ -(2 * zdot b c) ≤ zsq c
theorem comb_Qf (b1 b2 b3 b4 : Z4) (c1 c2 c3 : Int) : zsq (comb c1 c2 c3 1 b1 b2 b3 b4) = zsq b4 + Qf (zsq b1) (zsq b2) (zsq b3) (zdot b1 b2) (zdot b1 b3) (zdot b2 b3) (zdot b4 b1) (zdot b4 b2) (zdot b4 b3) c1 c2 c3 := by
  unfold comb
  rw [zsq_add, zsq_add, zsq_add]
  unfold Qf zsq zdot zadd zmul
  grind
theorem near_all {b1 b2 b3 b4 : Z4} (h12 : pairs b1 b2) (h13 : pairs b1 b3) (h23 : pairs b2 b3) (hn : near4 b1 b2 b3 b4) (c1 c2 c3 : Int) : zsq b4 ≤ zsq (comb c1 c2 c3 1 b1 b2 b3 b4) := by
  have h := selling (A := zsq b1) (B := zsq b2) (C := zsq b3) (p := zdot b1 b2) (q := zdot b1 b3) (r := zdot b2 b3) (t1 := zdot b4 b1) (t2 := zdot b4 b2) (t3 := zdot b4 b3) h12.1 h12.2.1 h12.2.2.1 h12.2.2.2 h13.1 h13.2.1 h13.2.2.1 h13.2.2.2 h23.1 h23.2.1 h23.2.2.1 h23.2.2.2 (fun c1 c2 c3 a b c d e f => by
    have := hn c1 c2 c3 a b c d e f
    rw [comb_Qf] at this
    omega) c1 c2 c3
  rw [comb_Qf]
  omega
theorem comb_scale (m y1 y2 y3 : Int) (b1 b2 b3 b4 : Z4) : zsq (comb (m * y1) (m * y2) (m * y3) m b1 b2 b3 b4) = m * m * zsq (comb y1 y2 y3 1 b1 b2 b3 b4) := by
  unfold comb zsq zdot zadd zmul
  grind
theorem comb_1 (x1 x2 x3 x4 : Int) (b1 b2 b3 b4 : Z4) : zsq (comb x1 x2 x3 x4 b1 b2 b3 b4) = zsq (comb 0 x2 x3 x4 b1 b2 b3 b4) + 2 * x1 * zdot (comb 0 x2 x3 x4 b1 b2 b3 b4) b1 + x1 * x1 * zsq b1 := by
  rw [← zsq_add]
  unfold comb zsq zdot zadd zmul
  grind
theorem comb_2 (x1 x2 x3 x4 : Int) (b1 b2 b3 b4 : Z4) : zsq (comb x1 x2 x3 x4 b1 b2 b3 b4) = zsq (comb x1 0 x3 x4 b1 b2 b3 b4) + 2 * x2 * zdot (comb x1 0 x3 x4 b1 b2 b3 b4) b2 + x2 * x2 * zsq b2 := by
  rw [← zsq_add]
  unfold comb zsq zdot zadd zmul
  grind
theorem comb_3 (x1 x2 x3 x4 : Int) (b1 b2 b3 b4 : Z4) : zsq (comb x1 x2 x3 x4 b1 b2 b3 b4) = zsq (comb x1 x2 0 x4 b1 b2 b3 b4) + 2 * x3 * zdot (comb x1 x2 0 x4 b1 b2 b3 b4) b3 + x3 * x3 * zsq b3 := by
  rw [← zsq_add]
  unfold comb zsq zdot zadd zmul
  grind
theorem top_pos {b1 b2 b3 b4 : Z4} (h12 : pairs b1 b2) (h13 : pairs b1 b3) (h23 : pairs b2 b3) (hn : near4 b1 b2 b3 b4) (l1 : zsq b1 ≤ zsq b4) (l2 : zsq b2 ≤ zsq b4) (l3 : zsq b3 ≤ zsq b4) {m : Int} (hm : 0 < m) (x1 x2 x3 : Int) : zsq b4 ≤ zsq (comb x1 x2 x3 m b1 b2 b3 b4) := by
  by_cases h1 : m = 1
  · subst h1; exact near_all h12 h13 h23 hn x1 x2 x3
  · have s0 : ∀ y1 y2 y3 : Int, 4 * (m * m * zsq b4) ≤ 4 * zsq (comb (m * y1) (m * y2) (m * y3) m b1 b2 b3 b4) := by
      intro y1 y2 y3
      rw [comb_scale]
      have a := near_all h12 h13 h23 hn y1 y2 y3
      have b := Int.mul_le_mul_of_nonneg_left a (show 0 ≤ m * m from sqnn m)
      omega
    have s1 : ∀ x1 y2 y3 : Int, 4 * (m * m * zsq b4) ≤ 4 * zsq (comb x1 (m * y2) (m * y3) m b1 b2 b3 b4) + m * m * zsq b1 := by
      intro x1 y2 y3
      rw [comb_1]
      exact round1 hm (zsq_nonneg b1) (fun y => by have := s0 y y2 y3; rw [comb_1] at this; exact this) x1
    have s2 : ∀ x1 x2 y3 : Int, 4 * (m * m * zsq b4) - m * m * zsq b1 ≤ 4 * zsq (comb x1 x2 (m * y3) m b1 b2 b3 b4) + m * m * zsq b2 := by
      intro x1 x2 y3
      rw [comb_2]
      exact round1 hm (zsq_nonneg b2) (fun y => by have := s1 x1 y y3; rw [comb_2] at this; omega) x2
    have s3 : 4 * (m * m * zsq b4) - m * m * zsq b1 - m * m * zsq b2 ≤ 4 * zsq (comb x1 x2 x3 m b1 b2 b3 b4) + m * m * zsq b3 := by
      rw [comb_3]
      exact round1 hm (zsq_nonneg b3) (fun y => by have := s2 x1 x2 y; rw [comb_3] at this; omega) x3
    have mm : 0 ≤ m * m := sqnn m
    have k1 := Int.mul_le_mul_of_nonneg_left l1 mm
    have k2 := Int.mul_le_mul_of_nonneg_left l2 mm
    have k3 := Int.mul_le_mul_of_nonneg_left l3 mm
    have m4 : 4 ≤ m * m := by
      have : 2 * 2 ≤ m * m := Int.mul_le_mul (show (2 : Int) ≤ m by omega) (show (2 : Int) ≤ m by omega) (by omega) (by omega)
      omega
    have k4 := Int.mul_le_mul_of_nonneg_right m4 (zsq_nonneg b4)
    omega
theorem comb_neg (x1 x2 x3 x4 : Int) (b1 b2 b3 b4 : Z4) : zsq (comb (-x1) (-x2) (-x3) (-x4) b1 b2 b3 b4) = zsq (comb x1 x2 x3 x4 b1 b2 b3 b4) := by
  unfold comb zsq zdot zadd zmul
  grind
/-- MINKOWSKI: a vector with a part of b4 that isn't 0 is at least as long as b4 -/
theorem top_ne {b1 b2 b3 b4 : Z4} (h12 : pairs b1 b2) (h13 : pairs b1 b3) (h23 : pairs b2 b3) (hn : near4 b1 b2 b3 b4) (l1 : zsq b1 ≤ zsq b4) (l2 : zsq b2 ≤ zsq b4) (l3 : zsq b3 ≤ zsq b4) {m : Int} (hm : m ≠ 0) (x1 x2 x3 : Int) : zsq b4 ≤ zsq (comb x1 x2 x3 m b1 b2 b3 b4) := by
  rcases Int.lt_or_gt_of_ne hm with h | h
  · rw [← comb_neg]
    exact top_pos h12 h13 h23 hn l1 l2 l3 (by omega) _ _ _
  · exact top_pos h12 h13 h23 hn l1 l2 l3 h x1 x2 x3
