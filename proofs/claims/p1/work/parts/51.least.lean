/-! Layer B: leastMultiplier -/
theorem TriZ_of {R : Nat → Nat → Int64} (hT : Tri R) : TriZ (fun k => z4 (R k)) := by
  intro k hk
  show (∀ j, j < k → zc (z4 (R k)) j = 0) ∧ 0 ≤ zc (z4 (R k)) k ∧ (zc (z4 (R k)) k = 0 → z4 (R k) = z0)
  rw [zc_z4 _ hk]
  refine ⟨fun j hj => by rw [zc_z4 _ (by omega), (hT k hk).1 j hj]; rfl, (hT k hk).2.1, fun e => row_z0 hT hk (ti_eq.mpr e)⟩
theorem lN_ti {g : Nat} (h : g < 9223372036854775808) : (lN g).toInt = (g : Int) := by
  have h1 : (lN g).toInt = (g : Int).bmod (2 ^ 64) := by
    unfold lN
    exact Int64.toInt_ofNat'
  rw [h1]
  exact bmod_in ⟨by omega, by omega⟩
theorem ti_fm2 {x u y w : Int64} {f s : Int} (hu : u.toInt = f - 1) (hw : w.toInt = -s) (h : inR (f * x.toInt - s * y.toInt)) : (x + u * x + w * y).toInt = f * x.toInt - s * y.toInt := by
  rw [Int64.toInt_add, Int64.toInt_add, Int64.toInt_mul, Int64.toInt_mul, hu, hw]
  simp only [Int.add_bmod_bmod, Int.bmod_add_bmod]
  have e : x.toInt + (f - 1) * x.toInt + -s * y.toInt = f * x.toInt - s * y.toInt := by grind
  rw [e]
  exact bmod_in h
theorem ti_fm1 {x u : Int64} {f : Int} (hu : u.toInt = f - 1) (h : inR (f * x.toInt)) : (x + u * x).toInt = f * x.toInt := by
  have e : x.toInt + u.toInt * x.toInt = f * x.toInt := by rw [hu]; grind
  rw [ti_fma (by rw [e]; exact h), e]
/-- the step on an axis with a pivot p: the factor, and what is left -/
theorem lm_step {F W : Nat} (hF : 200 ≤ F) {p x : Int64} (hp : 0 < p.toInt) (hp2 : p.toInt ≤ 157464) (hx : x.toInt.natAbs ≤ W) (hW : 157464 * W < 9223372036854775808 ∨ W < 9223372036854775808) :
    ∃ (g : Int64) (f s : Int), V_commonDivisor F p x = some g ∧ ¬ g = 0 ∧ (p / g).toInt = f ∧ 0 < f ∧ f ≤ p.toInt ∧ f * x.toInt = s * p.toInt ∧ s.natAbs ≤ W ∧ ∀ c : Int, p.toInt ∣ c * x.toInt → f ∣ c := by
  have hW' : W < 9223372036854775808 := by omega
  have h1 := V_commonDivisor_eq (F := F) hF (x := p) (y := x) (inR_of (by omega)) (inR_of (by omega))
  obtain ⟨f, s, f1, f2, f3, f4, f5, f6⟩ := gcd_split (x := x.toInt) hp
  have hfle : f ≤ p.toInt := by
    have h2 : f * 1 ≤ f * (Int.gcd p.toInt x.toInt : Int) := Int.mul_le_mul_of_nonneg_left (by omega) (by omega)
    omega
  have hgle : (Int.gcd p.toInt x.toInt : Int) ≤ p.toInt := by
    have h2 : 1 * (Int.gcd p.toInt x.toInt : Int) ≤ f * (Int.gcd p.toInt x.toInt : Int) := Int.mul_le_mul_of_nonneg_right (by omega) (by omega)
    omega
  have hgi : (lN (Int.gcd p.toInt x.toInt)).toInt = (Int.gcd p.toInt x.toInt : Int) := lN_ti (by omega)
  refine ⟨lN (Int.gcd p.toInt x.toInt), f, s, h1, fun e => ?_, ?_, f1, hfle, ?_, ?_, f6⟩
  · rw [e, show (0 : Int64).toInt = 0 from rfl] at hgi; omega
  · have h3 : p.toInt.tdiv (Int.gcd p.toInt x.toInt : Int) = f := by
      rw [Int.tdiv_eq_ediv_of_nonneg (by omega)]; exact f4.symm
    rw [ti_div (by rw [hgi, h3]; exact inR_of (by omega)), hgi, h3]
  · calc f * x.toInt = f * (s * (Int.gcd p.toInt x.toInt : Int)) := by rw [← f3]
      _ = s * (f * (Int.gcd p.toInt x.toInt : Int)) := by grind
      _ = s * p.toInt := by rw [← f2]
  · have h4 : x.toInt.natAbs = s.natAbs * (Int.gcd p.toInt x.toInt : Int).natAbs := by
      conv => lhs; rw [f3]
      rw [Int.natAbs_mul]
    have h5 : s.natAbs * 1 ≤ s.natAbs * (Int.gcd p.toInt x.toInt : Int).natAbs := Nat.mul_le_mul_left _ (by omega)
    omega
noncomputable def PN (R : Nat → Nat → Int64) (k : Nat) : Nat := (pv R k).natAbs
noncomputable def tp (R : Nat → Nat → Int64) : Nat → Nat
  | 0 => 1
  | d + 1 => PN R (3 - d) * tp R d
noncomputable def wt (R : Nat → Nat → Int64) : Nat → Nat
  | 0 => 1
  | 1 => 1
  | d + 2 => (PN R (2 - d) + 157464) * wt R (d + 1)
theorem PN_pos {R : Nat → Nat → Int64} (hT : Tri R) {k : Nat} (hk : k < 4) : 1 ≤ PN R k := by
  have := pv_pos hT hk
  unfold PN
  omega
theorem tp_4 {R : Nat → Nat → Int64} (hT : Tri R) : tp R 4 = (detf (hat R)).natAbs := by
  rw [detf_hat hT, Int.natAbs_mul, Int.natAbs_mul, Int.natAbs_mul]
  show PN R 0 * (PN R 1 * (PN R 2 * (PN R 3 * 1))) = PN R 0 * (PN R 1 * (PN R 2 * PN R 3))
  rw [Nat.mul_one]
theorem prod3 {a b c B : Nat} (ha : 1 ≤ a) (hb : 1 ≤ b) (hc : 1 ≤ c) (h : a * (b * c) ≤ B) : (a + B) * ((b + B) * (c + B)) ≤ 2 * (B * (B * B)) + 5 * (B * B) + B := by
  have bc1 : b ≤ b * c := Nat.le_mul_of_pos_right b hc
  have bc2 : c ≤ b * c := Nat.le_mul_of_pos_left c hb
  have abc : b * c ≤ a * (b * c) := Nat.le_mul_of_pos_left _ ha
  have ab : a * b ≤ a * (b * c) := Nat.mul_le_mul_left a bc1
  have ac : a * c ≤ a * (b * c) := Nat.mul_le_mul_left a bc2
  obtain ⟨a', rfl⟩ : ∃ q, a = q + 1 := ⟨a - 1, by omega⟩
  obtain ⟨b', rfl⟩ : ∃ q, b = q + 1 := ⟨b - 1, by omega⟩
  obtain ⟨c', rfl⟩ : ∃ q, c = q + 1 := ⟨c - 1, by omega⟩
  have s1 : b' + c' + 1 ≤ (b' + 1) * (c' + 1) := by
    have e : (b' + 1) * (c' + 1) = b' * c' + b' + c' + 1 := by grind
    omega
  have s2 : a' + (b' + 1) * (c' + 1) ≤ (a' + 1) * ((b' + 1) * (c' + 1)) := by
    have e : (a' + 1) * ((b' + 1) * (c' + 1)) = a' * ((b' + 1) * (c' + 1)) + (b' + 1) * (c' + 1) := by grind
    have : a' * 1 ≤ a' * ((b' + 1) * (c' + 1)) := Nat.mul_le_mul_left a' (by omega)
    omega
  have hsum : (a' + 1) + (b' + 1) + (c' + 1) ≤ B + 2 := by omega
  generalize a' + 1 = a at *
  generalize b' + 1 = b at *
  generalize c' + 1 = c at *
  have e : (a + B) * ((b + B) * (c + B)) = a * (b * c) + B * (a * b) + B * (a * c) + B * (b * c) + B * B * (a + b + c) + B * (B * B) := by grind
  rw [e]
  have h1 : B * (a * b) ≤ B * B := Nat.mul_le_mul_left B (by omega)
  have h2 : B * (a * c) ≤ B * B := Nat.mul_le_mul_left B (by omega)
  have h3 : B * (b * c) ≤ B * B := Nat.mul_le_mul_left B (by omega)
  have h4 : B * B * (a + b + c) ≤ B * B * (B + 2) := Nat.mul_le_mul_left _ hsum
  have h5 : B * B * (B + 2) = B * (B * B) + 2 * (B * B) := by grind
  omega
theorem wt_4 {R : Nat → Nat → Int64} (hT : Tri R) (h : (detf (hat R)).natAbs ≤ 157464) : 1000 * wt R 4 < 9223372036854775808 := by
  have h1 : PN R 0 * (PN R 1 * PN R 2) ≤ 157464 := by
    rw [← tp_4 hT] at h
    have h2 : tp R 4 = PN R 0 * (PN R 1 * (PN R 2 * (PN R 3 * 1))) := rfl
    have h3 : PN R 2 ≤ PN R 2 * (PN R 3 * 1) := Nat.le_mul_of_pos_right _ (by have := PN_pos hT (k := 3) (by decide); omega)
    have h4 := Nat.mul_le_mul_left (PN R 0) (Nat.mul_le_mul_left (PN R 1) h3)
    omega
  have h5 := prod3 (PN_pos hT (by decide)) (PN_pos hT (by decide)) (PN_pos hT (by decide)) h1
  have h6 : wt R 4 = (PN R 0 + 157464) * ((PN R 1 + 157464) * ((PN R 2 + 157464) * 1)) := rfl
  rw [Nat.mul_one] at h6
  rw [h6]
  have h7 : 2 * (157464 * (157464 * 157464)) + 5 * (157464 * 157464) + 157464 ≤ 7808852000000000 + 900000000000 := by decide
  omega
