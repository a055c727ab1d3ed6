/-! Layer B: the reference's volume, as sums of squared minors -/
def tw (row : Nat → Int64) (i j a b : Nat) : Int64 := row (4 * i + a) * row (4 * j + b) - row (4 * i + b) * row (4 * j + a)
def th (row : Nat → Int64) (a b c : Nat) : Int64 := row a * tw row 1 2 b c - row b * tw row 1 2 a c + row c * tw row 1 2 a b
theorem M_two_eq {F i j a b : Nat} (row : Nat → Int64) (hi : i < 4) (hj : j < 4) (ha : a < 4) (hb : b < 4) : M_two F row (nI i) (nI j) (nI a) (nI b) = some (tw row i j a b) := by
  unfold M_two tw
  rw [ix4 hi ha, ix4 hj hb, ix4 hi hb, ix4 hj ha, gd_t (vp_in_nI (by omega) (by decide)), gd_t (vp_in_nI (by omega) (by decide)), gd_t (vp_in_nI (by omega) (by decide)), gd_t (vp_in_nI (by omega) (by decide)), nI_clamp (by omega), nI_clamp (by omega), nI_clamp (by omega), nI_clamp (by omega)]
theorem M_three_eq {F a b c : Nat} (row : Nat → Int64) (ha : a < 4) (hb : b < 4) (hc : c < 4) : M_three F row (nI a) (nI b) (nI c) = some (th row a b c) := by
  unfold M_three th
  rw [gd_t (vp_in_nI (by omega) (by decide)), show (1 : Int32) = nI 1 from rfl, show (2 : Int32) = nI 2 from rfl, M_two_eq row (by decide) (by decide) hb hc, Option.bind_some, gd_t (vp_in_nI (by omega) (by decide)), M_two_eq row (by decide) (by decide) ha hc, Option.bind_some, gd_t (vp_in_nI (by omega) (by decide)), M_two_eq row (by decide) (by decide) ha hb, Option.bind_some, nI_clamp (by omega), nI_clamp (by omega), nI_clamp (by omega)]
def A3 (nr : Nat) (row : Nat → Int64) (a b c : Nat) : Int64 := if nr = 3 then th row a b c * th row a b c else 0
def A2 (nr : Nat) (row : Nat → Int64) (a b : Nat) : Int64 := if nr = 2 then tw row 0 1 a b * tw row 0 1 a b else 0
def A1 (nr : Nat) (row : Nat → Int64) (a : Nat) : Int64 := if nr = 1 then row a * row a else 0
def s3 (nr : Nat) (row : Nat → Int64) (a b : Nat) : Nat → Nat → Int64
  | _, 0 => 0
  | k, d + 1 => A3 nr row a b k + s3 nr row a b (k + 1) d
def s2 (nr : Nat) (row : Nat → Int64) (a : Nat) : Nat → Nat → Int64
  | _, 0 => 0
  | k, d + 1 => A2 nr row a k + s3 nr row a k (k + 1) d + s2 nr row a (k + 1) d
def s1 (nr : Nat) (row : Nat → Int64) : Nat → Nat → Int64
  | _, 0 => 0
  | k, d + 1 => A1 nr row k + s2 nr row k (k + 1) d + s1 nr row (k + 1) d
theorem nr_eq {nr m : Nat} (h : nr ≤ 4) (hm : m ≤ 4) : (nI nr = nI m) ↔ nr = m := nI_eq (by omega) (by omega)
theorem vol146 {F nr a b : Nat} {row : Nat → Int64} (hn : nr ≤ 4) (ha : a < 4) (hb : b < 4) : ∀ (d n k : Nat) (v : Int64), k + d = 4 → d < n → lM_volume_146 F (nI nr) row (nI a) (nI b) n v (nI k) = some (v + s3 nr row a b k d) := by
  intro d
  induction d with
  | zero =>
    intro n k v h1 h2
    obtain ⟨n, rfl⟩ : ∃ q, n = q + 1 := ⟨n - 1, by omega⟩
    have e : k = 4 := by omega
    subst e
    rw [lM_volume_146, if_pos (show (4 : Int32) ≤ nI 4 by decide)]
    show some v = some (v + 0)
    rw [Int64.add_zero]
  | succ d ih =>
    intro n k v h1 h2
    obtain ⟨n, rfl⟩ : ∃ q, n = q + 1 := ⟨n - 1, by omega⟩
    have h4 : ¬ (4 : Int32) ≤ nI k := nI_ge (b := 4) (by omega) (by decide)
    rw [lM_volume_146, if_neg h4]
    show _ = some (v + (A3 nr row a b k + s3 nr row a b (k + 1) d))
    rw [← Int64.add_assoc]
    unfold A3
    by_cases e : nr = 3
    · rw [if_pos (show nI nr = (3 : Int32) from (nr_eq (m := 3) hn (by decide)).mpr e), if_pos e, M_three_eq row ha hb (by omega), Option.bind_some, Option.bind_some, nI_1, ih n (k + 1) _ (by omega) (by omega)]
    · rw [if_neg (show ¬ nI nr = (3 : Int32) from fun q => e ((nr_eq (m := 3) hn (by decide)).mp q)), if_neg e, nI_1, ih n (k + 1) _ (by omega) (by omega)]
theorem vol100 {F nr a : Nat} {row : Nat → Int64} (hF : 5 ≤ F) (hn : nr ≤ 4) (ha : a < 4) : ∀ (d n k : Nat) (v : Int64), k + d = 4 → d < n → lM_volume_100 F (nI nr) row (nI a) n v (nI k) = some (v + s2 nr row a k d) := by
  intro d
  induction d with
  | zero =>
    intro n k v h1 h2
    obtain ⟨n, rfl⟩ : ∃ q, n = q + 1 := ⟨n - 1, by omega⟩
    have e : k = 4 := by omega
    subst e
    rw [lM_volume_100, if_pos (show (4 : Int32) ≤ nI 4 by decide)]
    show some v = some (v + 0)
    rw [Int64.add_zero]
  | succ d ih =>
    intro n k v h1 h2
    obtain ⟨n, rfl⟩ : ∃ q, n = q + 1 := ⟨n - 1, by omega⟩
    have h4 : ¬ (4 : Int32) ≤ nI k := nI_ge (b := 4) (by omega) (by decide)
    rw [lM_volume_100, if_neg h4]
    show _ = some (v + (A2 nr row a k + s3 nr row a k (k + 1) d + s2 nr row a (k + 1) d))
    rw [← Int64.add_assoc, ← Int64.add_assoc]
    unfold A2
    by_cases e : nr = 2
    · rw [if_pos (show nI nr = (2 : Int32) from (nr_eq (m := 2) hn (by decide)).mpr e), if_pos e, show M_two F row (0 : Int32) (1 : Int32) (nI a) (nI k) = _ from M_two_eq (i := 0) (j := 1) row (by decide) (by decide) ha (by omega), Option.bind_some, Option.bind_some, nI_1, vol146 hn ha (by omega) d F (k + 1) _ (by omega) (by omega), Option.bind_some, ih n (k + 1) _ (by omega) (by omega)]
    · rw [if_neg (show ¬ nI nr = (2 : Int32) from fun q => e ((nr_eq (m := 2) hn (by decide)).mp q)), if_neg e, nI_1, vol146 hn ha (by omega) d F (k + 1) _ (by omega) (by omega), Option.bind_some, ih n (k + 1) _ (by omega) (by omega)]
theorem vol62 {F nr : Nat} {row : Nat → Int64} (hF : 5 ≤ F) (hn : nr ≤ 4) : ∀ (d n k : Nat) (v : Int64), k + d = 4 → d < n → lM_volume_62 F (nI nr) row n v (nI k) = some (v + s1 nr row k d) := by
  intro d
  induction d with
  | zero =>
    intro n k v h1 h2
    obtain ⟨n, rfl⟩ : ∃ q, n = q + 1 := ⟨n - 1, by omega⟩
    have e : k = 4 := by omega
    subst e
    rw [lM_volume_62, if_pos (show (4 : Int32) ≤ nI 4 by decide)]
    show some v = some (v + 0)
    rw [Int64.add_zero]
  | succ d ih =>
    intro n k v h1 h2
    obtain ⟨n, rfl⟩ : ∃ q, n = q + 1 := ⟨n - 1, by omega⟩
    have h4 : ¬ (4 : Int32) ≤ nI k := nI_ge (b := 4) (by omega) (by decide)
    rw [lM_volume_62, if_neg h4]
    show _ = some (v + (A1 nr row k + s2 nr row k (k + 1) d + s1 nr row (k + 1) d))
    rw [← Int64.add_assoc, ← Int64.add_assoc]
    unfold A1
    by_cases e : nr = 1
    · rw [if_pos (show nI nr = (1 : Int32) from (nr_eq (m := 1) hn (by decide)).mpr e), if_pos e, gd_t (vp_in_nI (by omega) (by decide)), gd_t (vp_in_nI (by omega) (by decide)), nI_1, nI_clamp (by omega), vol100 hF hn (by omega) d F (k + 1) _ (by omega) (by omega), Option.bind_some, ih n (k + 1) _ (by omega) (by omega)]
    · rw [if_neg (show ¬ nI nr = (1 : Int32) from fun q => e ((nr_eq (m := 1) hn (by decide)).mp q)), if_neg e, nI_1, vol100 hF hn (by omega) d F (k + 1) _ (by omega) (by omega), Option.bind_some, ih n (k + 1) _ (by omega) (by omega)]
/-- a whole number as a long -/
def L (z : Int) : Int64 := Int64.ofInt z
theorem L_ti (x : Int64) : L x.toInt = x := Int64.ofInt_toInt x
theorem L_add (x y : Int) : L x + L y = L (x + y) := (Int64.ofInt_add x y).symm
theorem L_mul (x y : Int) : L x * L y = L (x * y) := (Int64.ofInt_mul x y).symm
theorem L_sub (x y : Int) : L x - L y = L (x - y) := (Int64.ofInt_sub x y).symm
theorem ti_L {z : Int} (h : inR z) : (L z).toInt = z := by
  unfold L
  rw [Int64.toInt_ofInt]
  exact bmod_in h
def ru (row : Nat → Int64) (i : Nat) : Z4 := z4 (fun j => row (4 * i + j))
theorem row_L (row : Nat → Int64) (i : Nat) {j : Nat} (hj : j < 4) : row (4 * i + j) = L (zc (ru row i) j) := by
  unfold ru
  rw [zc_z4 _ hj, L_ti]
def gramL : List Z4 → Int
  | [] => 1
  | [a] => zdot a a
  | [a, b] => gram2 a b
  | [a, b, c] => gram3 a b c
  | a :: b :: c :: d :: _ => det4 a b c d * det4 a b c d
theorem tot0 (row : Nat → Int64) : 1 + s1 0 row 0 4 = L 1 := by
  simp (config := { decide := true }) only [s1, s2, s3, A1, A2, A3, if_true, if_false, reduceIte, Int64.add_zero, Int64.zero_add]
theorem tot1 (row : Nat → Int64) : 0 + s1 1 row 0 4 = L (zdot (ru row 0) (ru row 0)) := by
  have e0 : row 0 = L (ru row 0).1 := row_L row 0 (j := 0) (by decide)
  have e1 : row 1 = L (ru row 0).2.1 := row_L row 0 (j := 1) (by decide)
  have e2 : row 2 = L (ru row 0).2.2.1 := row_L row 0 (j := 2) (by decide)
  have e3 : row 3 = L (ru row 0).2.2.2 := row_L row 0 (j := 3) (by decide)
  simp (config := { decide := true }) only [s1, s2, s3, A1, A2, A3, if_true, if_false, reduceIte, Int64.add_zero, Int64.zero_add]
  rw [e0, e1, e2, e3]
  simp only [L_mul, L_add]
  congr 1
  unfold zdot
  grind
theorem tot2 (row : Nat → Int64) : 0 + s1 2 row 0 4 = L (gram2 (ru row 0) (ru row 1)) := by
  have e0 : row 0 = L (ru row 0).1 := row_L row 0 (j := 0) (by decide)
  have e1 : row 1 = L (ru row 0).2.1 := row_L row 0 (j := 1) (by decide)
  have e2 : row 2 = L (ru row 0).2.2.1 := row_L row 0 (j := 2) (by decide)
  have e3 : row 3 = L (ru row 0).2.2.2 := row_L row 0 (j := 3) (by decide)
  have e4 : row 4 = L (ru row 1).1 := row_L row 1 (j := 0) (by decide)
  have e5 : row 5 = L (ru row 1).2.1 := row_L row 1 (j := 1) (by decide)
  have e6 : row 6 = L (ru row 1).2.2.1 := row_L row 1 (j := 2) (by decide)
  have e7 : row 7 = L (ru row 1).2.2.2 := row_L row 1 (j := 3) (by decide)
  simp (config := { decide := true }) only [s1, s2, s3, A1, A2, A3, if_true, if_false, reduceIte, Int64.add_zero, Int64.zero_add]
  unfold tw
  simp only [Nat.reduceMul, Nat.reduceAdd]
  rw [e0, e1, e2, e3, e4, e5, e6, e7]
  simp only [L_mul, L_add, L_sub]
  congr 1
  unfold gram2 zdot
  grind
theorem tot3 (row : Nat → Int64) : 0 + s1 3 row 0 4 = L (gram3 (ru row 0) (ru row 1) (ru row 2)) := by
  have e0 : row 0 = L (ru row 0).1 := row_L row 0 (j := 0) (by decide)
  have e1 : row 1 = L (ru row 0).2.1 := row_L row 0 (j := 1) (by decide)
  have e2 : row 2 = L (ru row 0).2.2.1 := row_L row 0 (j := 2) (by decide)
  have e3 : row 3 = L (ru row 0).2.2.2 := row_L row 0 (j := 3) (by decide)
  have e4 : row 4 = L (ru row 1).1 := row_L row 1 (j := 0) (by decide)
  have e5 : row 5 = L (ru row 1).2.1 := row_L row 1 (j := 1) (by decide)
  have e6 : row 6 = L (ru row 1).2.2.1 := row_L row 1 (j := 2) (by decide)
  have e7 : row 7 = L (ru row 1).2.2.2 := row_L row 1 (j := 3) (by decide)
  have e8 : row 8 = L (ru row 2).1 := row_L row 2 (j := 0) (by decide)
  have e9 : row 9 = L (ru row 2).2.1 := row_L row 2 (j := 1) (by decide)
  have e10 : row 10 = L (ru row 2).2.2.1 := row_L row 2 (j := 2) (by decide)
  have e11 : row 11 = L (ru row 2).2.2.2 := row_L row 2 (j := 3) (by decide)
  simp (config := { decide := true }) only [s1, s2, s3, A1, A2, A3, if_true, if_false, reduceIte, Int64.add_zero, Int64.zero_add]
  unfold th tw
  simp only [Nat.reduceMul, Nat.reduceAdd]
  rw [e0, e1, e2, e3, e4, e5, e6, e7, e8, e9, e10, e11]
  simp only [L_mul, L_add, L_sub]
  congr 1
  unfold gram3 zdot
  grind
