/-! Layer B: the form 2 t.c + Q(c) over three vectors: not negative on small c, so on all -/
def Qf (A B C p q r t1 t2 t3 c1 c2 c3 : Int) : Int := 2 * (c1 * t1 + c2 * t2 + c3 * t3) + c1 * c1 * A + c2 * c2 * B + c3 * c3 * C + 2 * (c1 * c2) * p + 2 * (c1 * c3) * q + 2 * (c2 * c3) * r
def locQ (A B C p q r t1 t2 t3 : Int) : Prop := ∀ c1 c2 c3 : Int, -1 ≤ c1 → c1 ≤ 1 → -1 ≤ c2 → c2 ≤ 1 → -1 ≤ c3 → c3 ≤ 1 → 0 ≤ Qf A B C p q r t1 t2 t3 c1 c2 c3
theorem sell_minus {A B C p q r t1 t2 t3 : Int} (hp : p ≤ 0) (hq : q ≤ 0) (hr : r ≤ 0) (h1 : 0 ≤ A + p + q) (h2 : 0 ≤ B + p + r) (h3 : 0 ≤ C + q + r) (hl : locQ A B C p q r t1 t2 t3) (c1 c2 c3 : Int) : 0 ≤ Qf A B C p q r t1 t2 t3 c1 c2 c3 := by
  have key : ∀ n0 n1 n2 n3 : Int, sbf (A + p + q) (B + p + r) (C + q + r) (-p) (-q) (-r) (-(t1 + t2 + t3)) t1 t2 t3 n0 n1 n2 n3 = Qf A B C p q r t1 t2 t3 (n1 - n0) (n2 - n0) (n3 - n0) := by
    intro n0 n1 n2 n3
    unfold sbf Qf
    grind
  have hall := sbf_all h1 h2 h3 (show 0 ≤ -p by omega) (show 0 ≤ -q by omega) (show 0 ≤ -r by omega) (-(t1 + t2 + t3)) t1 t2 t3 (fun e0 e1 e2 e3 a0 a1 a2 a3 => by
    rw [key]
    exact hl _ _ _ (by omega) (by omega) (by omega) (by omega) (by omega) (by omega))
  have k : ∃ k : Int, 0 ≤ k ∧ 0 ≤ c1 + k ∧ 0 ≤ c2 + k ∧ 0 ≤ c3 + k := ⟨c1.natAbs + c2.natAbs + c3.natAbs, by omega, by omega, by omega, by omega⟩
  obtain ⟨k, k0, k1, k2, k3⟩ := k
  have h := hall (k + (c1 + k) + (c2 + k) + (c3 + k)).toNat k (c1 + k) (c2 + k) (c3 + k) k0 k1 k2 k3 (by omega)
  rw [key] at h
  have e1 : c1 + k - k = c1 := by omega
  have e2 : c2 + k - k = c2 := by omega
  have e3 : c3 + k - k = c3 := by omega
  rw [e1, e2, e3] at h
  exact h
theorem sell_plus {A B C p q r t1 t2 t3 : Int} (hq : 0 ≤ q) (hqp : q ≤ p) (hqr : q ≤ r) (h1 : 2 * p ≤ A) (h2 : 2 * p ≤ B) (h3 : 2 * r ≤ B) (h4 : 2 * r ≤ C) (hl : locQ A B C p q r t1 t2 t3) (c1 c2 c3 : Int) : 0 ≤ Qf A B C p q r t1 t2 t3 c1 c2 c3 := by
  have key : ∀ n0 n1 n2 n3 : Int, sbf (p - q) (B + q - r - p) (C - r) (A - p) q (r - q) (t3 - t2) t1 (t2 - t1) (-t3) n0 n1 n2 n3 = Qf A B C p q r t1 t2 t3 (n1 - n2) (n2 - n0) (n0 - n3) := by
    intro n0 n1 n2 n3
    unfold sbf Qf
    grind
  have hall := sbf_all (show 0 ≤ p - q by omega) (show 0 ≤ B + q - r - p by omega) (show 0 ≤ C - r by omega) (show 0 ≤ A - p by omega) hq (show 0 ≤ r - q by omega) (t3 - t2) t1 (t2 - t1) (-t3) (fun e0 e1 e2 e3 a0 a1 a2 a3 => by
    rw [key]
    exact hl _ _ _ (by omega) (by omega) (by omega) (by omega) (by omega) (by omega))
  have k : ∃ k : Int, 0 ≤ k ∧ 0 ≤ c1 + c2 + k ∧ 0 ≤ c2 + k ∧ 0 ≤ k - c3 := ⟨c1.natAbs + c2.natAbs + c3.natAbs, by omega, by omega, by omega, by omega⟩
  obtain ⟨k, k0, k1, k2, k3⟩ := k
  have h := hall (k + (c1 + c2 + k) + (c2 + k) + (k - c3)).toNat k (c1 + c2 + k) (c2 + k) (k - c3) k0 k1 k2 k3 (by omega)
  rw [key] at h
  have e1 : c1 + c2 + k - (c2 + k) = c1 := by omega
  have e2 : c2 + k - k = c2 := by omega
  have e3 : k - (k - c3) = c3 := by omega
  rw [e1, e2, e3] at h
  exact h
theorem Qf_12 (A B C p q r t1 t2 t3 c1 c2 c3 : Int) : Qf B A C p r q t2 t1 t3 c2 c1 c3 = Qf A B C p q r t1 t2 t3 c1 c2 c3 := by unfold Qf; grind
theorem Qf_23 (A B C p q r t1 t2 t3 c1 c2 c3 : Int) : Qf A C B q p r t1 t3 t2 c1 c3 c2 = Qf A B C p q r t1 t2 t3 c1 c2 c3 := by unfold Qf; grind
theorem Qf_f1 (A B C p q r t1 t2 t3 c1 c2 c3 : Int) : Qf A B C (-p) (-q) r (-t1) t2 t3 (-c1) c2 c3 = Qf A B C p q r t1 t2 t3 c1 c2 c3 := by unfold Qf; grind
theorem Qf_f2 (A B C p q r t1 t2 t3 c1 c2 c3 : Int) : Qf A B C (-p) q (-r) t1 (-t2) t3 c1 (-c2) c3 = Qf A B C p q r t1 t2 t3 c1 c2 c3 := by unfold Qf; grind
theorem Qf_f3 (A B C p q r t1 t2 t3 c1 c2 c3 : Int) : Qf A B C p (-q) (-r) t1 t2 (-t3) c1 c2 (-c3) = Qf A B C p q r t1 t2 t3 c1 c2 c3 := by unfold Qf; grind
theorem loc_12 {A B C p q r t1 t2 t3 : Int} (h : locQ A B C p q r t1 t2 t3) : locQ B A C p r q t2 t1 t3 := fun c1 c2 c3 a b c d e f => by rw [Qf_12]; exact h _ _ _ c d a b e f
theorem loc_23 {A B C p q r t1 t2 t3 : Int} (h : locQ A B C p q r t1 t2 t3) : locQ A C B q p r t1 t3 t2 := fun c1 c2 c3 a b c d e f => by rw [Qf_23]; exact h _ _ _ a b e f c d
theorem loc_f1 {A B C p q r t1 t2 t3 : Int} (h : locQ A B C p q r t1 t2 t3) : locQ A B C (-p) (-q) r (-t1) t2 t3 := fun c1 c2 c3 a b c d e f => by
  have := Qf_f1 A B C p q r t1 t2 t3 (-c1) c2 c3
  rw [Int.neg_neg] at this
  rw [this]
  exact h _ _ _ (by omega) (by omega) c d e f
theorem loc_f2 {A B C p q r t1 t2 t3 : Int} (h : locQ A B C p q r t1 t2 t3) : locQ A B C (-p) q (-r) t1 (-t2) t3 := fun c1 c2 c3 a b c d e f => by
  have := Qf_f2 A B C p q r t1 t2 t3 c1 (-c2) c3
  rw [Int.neg_neg] at this
  rw [this]
  exact h _ _ _ a b (by omega) (by omega) e f
theorem loc_f3 {A B C p q r t1 t2 t3 : Int} (h : locQ A B C p q r t1 t2 t3) : locQ A B C p (-q) (-r) t1 t2 (-t3) := fun c1 c2 c3 a b c d e f => by
  have := Qf_f3 A B C p q r t1 t2 t3 c1 c2 (-c3)
  rw [Int.neg_neg] at this
  rw [this]
  exact h _ _ _ a b c d (by omega) (by omega)
theorem sell_pos {A B C p q r t1 t2 t3 : Int} (hp : 0 ≤ p) (hq : 0 ≤ q) (hr : 0 ≤ r) (p1 : 2 * p ≤ A) (p2 : 2 * p ≤ B) (q1 : 2 * q ≤ A) (q3 : 2 * q ≤ C) (r2 : 2 * r ≤ B) (r3 : 2 * r ≤ C) (hl : locQ A B C p q r t1 t2 t3) (c1 c2 c3 : Int) : 0 ≤ Qf A B C p q r t1 t2 t3 c1 c2 c3 := by
  by_cases a : q ≤ p ∧ q ≤ r
  · exact sell_plus hq a.1 a.2 p1 p2 r2 r3 hl c1 c2 c3
  · by_cases b : p ≤ q ∧ p ≤ r
    · rw [← Qf_23]
      exact sell_plus hp b.1 b.2 q1 q3 r3 r2 (loc_23 hl) c1 c3 c2
    · rw [← Qf_12]
      exact sell_plus hr (by omega) (by omega) p2 p1 q1 q3 (loc_12 hl) c2 c1 c3
/-- three vectors with squares A B C and products p q r, each product at most half of either square: what holds for -1 .. 1 holds for all -/
theorem selling {A B C p q r t1 t2 t3 : Int} (p1 : 2 * p ≤ A) (p1' : -(2 * p) ≤ A) (p2 : 2 * p ≤ B) (p2' : -(2 * p) ≤ B) (q1 : 2 * q ≤ A) (q1' : -(2 * q) ≤ A) (q3 : 2 * q ≤ C) (q3' : -(2 * q) ≤ C) (r2 : 2 * r ≤ B) (r2' : -(2 * r) ≤ B) (r3 : 2 * r ≤ C) (r3' : -(2 * r) ≤ C)
    (hl : locQ A B C p q r t1 t2 t3) (c1 c2 c3 : Int) : 0 ≤ Qf A B C p q r t1 t2 t3 c1 c2 c3 := by
  rcases Int.le_total 0 p with hp | hp <;> rcases Int.le_total 0 q with hq | hq <;> rcases Int.le_total 0 r with hr | hr
  · exact sell_pos hp hq hr p1 p2 q1 q3 r2 r3 hl c1 c2 c3
  · rw [← Qf_f1]
    exact sell_minus (by omega) (by omega) hr (by omega) (by omega) (by omega) (loc_f1 hl) _ _ _
  · rw [← Qf_f2]
    exact sell_minus (by omega) hq (by omega) (by omega) (by omega) (by omega) (loc_f2 hl) _ _ _
  · rw [← Qf_f3]
    exact sell_pos hp (by omega) (by omega) p1 p2 (by omega) (by omega) (by omega) (by omega) (loc_f3 hl) _ _ _
  · rw [← Qf_f3]
    exact sell_minus hp (by omega) (by omega) (by omega) (by omega) (by omega) (loc_f3 hl) _ _ _
  · rw [← Qf_f2]
    exact sell_pos (by omega) hq (by omega) (by omega) (by omega) q1 q3 (by omega) (by omega) (loc_f2 hl) _ _ _
  · rw [← Qf_f1]
    exact sell_pos (by omega) (by omega) hr (by omega) (by omega) (by omega) (by omega) r2 r3 (loc_f1 hl) _ _ _
  · exact sell_minus hp hq hr (by omega) (by omega) (by omega) hl c1 c2 c3
