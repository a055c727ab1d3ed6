/-! Layer B: how large the rows of a staircase can be -/
def un : Nat → Z4
  | 0 => (1, 0, 0, 0)
  | 1 => (0, 1, 0, 0)
  | 2 => (0, 0, 1, 0)
  | _ => (0, 0, 0, 1)
def zc (v : Z4) : Nat → Int
  | 0 => v.1
  | 1 => v.2.1
  | 2 => v.2.2.1
  | _ => v.2.2.2
theorem zc_z4 (a : Nat → Int64) {j : Nat} (hj : j < 4) : zc (z4 a) j = (a j).toInt := by
  rcases (show j = 0 ∨ j = 1 ∨ j = 2 ∨ j = 3 by omega) with rfl | rfl | rfl | rfl <;> rfl
def detf (r : Nat → Z4) : Int := det4 (r 0) (r 1) (r 2) (r 3)
set_option maxHeartbeats 4000000 in
theorem detf_exp (r : Nat → Z4) {j : Nat} (hj : j < 4) (w : Z4) : detf (va_up r j w) = zc w 0 * detf (va_up r j (un 0)) + zc w 1 * detf (va_up r j (un 1)) + zc w 2 * detf (va_up r j (un 2)) + zc w 3 * detf (va_up r j (un 3)) := by
  rcases (show j = 0 ∨ j = 1 ∨ j = 2 ∨ j = 3 by omega) with rfl | rfl | rfl | rfl <;> (unfold detf; simp only [va_up, zc, un]; simp (config := { decide := true }) only [if_true, if_false]; unfold det4; grind)
theorem detf_dup (r : Nat → Z4) {i j : Nat} (hi : i < 4) (hj : j < 4) (h : i ≠ j) : detf (va_up r j (r i)) = 0 := by
  match i, hi, j, hj with
  | 0, _, 0, _ => exact absurd rfl h
  | 0, _, 1, _ => show det4 (r 0) (r 0) (r 2) (r 3) = 0; exact det_ab (r 0) (r 2) (r 3)
  | 0, _, 2, _ => show det4 (r 0) (r 1) (r 0) (r 3) = 0; exact det_ac (r 0) (r 1) (r 3)
  | 0, _, 3, _ => show det4 (r 0) (r 1) (r 2) (r 0) = 0; exact det_ad (r 0) (r 1) (r 2)
  | 1, _, 0, _ => show det4 (r 1) (r 1) (r 2) (r 3) = 0; exact det_ab (r 1) (r 2) (r 3)
  | 1, _, 1, _ => exact absurd rfl h
  | 1, _, 2, _ => show det4 (r 0) (r 1) (r 1) (r 3) = 0; exact det_bc (r 0) (r 1) (r 3)
  | 1, _, 3, _ => show det4 (r 0) (r 1) (r 2) (r 1) = 0; exact det_bd (r 0) (r 1) (r 2)
  | 2, _, 0, _ => show det4 (r 2) (r 1) (r 2) (r 3) = 0; exact det_ac (r 2) (r 1) (r 3)
  | 2, _, 1, _ => show det4 (r 0) (r 2) (r 2) (r 3) = 0; exact det_bc (r 0) (r 2) (r 3)
  | 2, _, 2, _ => exact absurd rfl h
  | 2, _, 3, _ => show det4 (r 0) (r 1) (r 2) (r 2) = 0; exact det_cd (r 0) (r 1) (r 2)
  | 3, _, 0, _ => show det4 (r 3) (r 1) (r 2) (r 3) = 0; exact det_ad (r 3) (r 1) (r 2)
  | 3, _, 1, _ => show det4 (r 0) (r 3) (r 2) (r 3) = 0; exact det_bd (r 0) (r 3) (r 2)
  | 3, _, 2, _ => show det4 (r 0) (r 1) (r 3) (r 3) = 0; exact det_cd (r 0) (r 1) (r 3)
  | 3, _, 3, _ => exact absurd rfl h
  | k + 4, hk, _, _ => omega
  | _, _, k + 4, hk => omega
theorem m3_le {x y z a b c d e f : Int} (hx : x.natAbs ≤ 9) (hy : y.natAbs ≤ 9) (hz : z.natAbs ≤ 9) (ha : a.natAbs ≤ 9) (hb : b.natAbs ≤ 9) (hc : c.natAbs ≤ 9) (hd : d.natAbs ≤ 9) (he : e.natAbs ≤ 9) (hf : f.natAbs ≤ 9) : (x * (b * f - c * e) - y * (a * f - c * d) + z * (a * e - b * d)).natAbs ≤ 4374 := by
  have h1 := prod_le (a := 0) (b := 0) hx (minor_le hb hc he hf)
  have h2 := prod_le (a := 0) (b := 0) hy (minor_le ha hc hd hf)
  have h3 := prod_le (a := 0) (b := 0) hz (minor_le ha hb hd he)
  omega
theorem det_un (k : Nat) {b c d : Z4} (hb : le4 9 b) (hc : le4 9 c) (hd : le4 9 d) : (det4 (un k) b c d).natAbs ≤ 4374 := by
  obtain ⟨b0, b1, b2, b3⟩ := hb
  obtain ⟨c0, c1, c2, c3⟩ := hc
  obtain ⟨d0, d1, d2, d3⟩ := hd
  match k with
  | 0 =>
    have e : det4 (un 0) b c d = b.2.1 * (c.2.2.1 * d.2.2.2 - c.2.2.2 * d.2.2.1) - b.2.2.1 * (c.2.1 * d.2.2.2 - c.2.2.2 * d.2.1) + b.2.2.2 * (c.2.1 * d.2.2.1 - c.2.2.1 * d.2.1) := by unfold det4 un; grind
    rw [e]; exact m3_le b1 b2 b3 c1 c2 c3 d1 d2 d3
  | 1 =>
    have e : det4 (un 1) b c d = -(b.1 * (c.2.2.1 * d.2.2.2 - c.2.2.2 * d.2.2.1) - b.2.2.1 * (c.1 * d.2.2.2 - c.2.2.2 * d.1) + b.2.2.2 * (c.1 * d.2.2.1 - c.2.2.1 * d.1)) := by unfold det4 un; grind
    rw [e, Int.natAbs_neg]; exact m3_le b0 b2 b3 c0 c2 c3 d0 d2 d3
  | 2 =>
    have e : det4 (un 2) b c d = b.1 * (c.2.1 * d.2.2.2 - c.2.2.2 * d.2.1) - b.2.1 * (c.1 * d.2.2.2 - c.2.2.2 * d.1) + b.2.2.2 * (c.1 * d.2.1 - c.2.1 * d.1) := by unfold det4 un; grind
    rw [e]; exact m3_le b0 b1 b3 c0 c1 c3 d0 d1 d3
  | k + 3 =>
    have e : det4 (un (k + 3)) b c d = -(b.1 * (c.2.1 * d.2.2.1 - c.2.2.1 * d.2.1) - b.2.1 * (c.1 * d.2.2.1 - c.2.2.1 * d.1) + b.2.2.1 * (c.1 * d.2.1 - c.2.1 * d.1)) := by unfold det4 un; grind
    rw [e, Int.natAbs_neg]; exact m3_le b0 b1 b2 c0 c1 c2 d0 d1 d2
theorem un_le (k : Nat) : le4 9 (un k) := by
  match k with
  | 0 => unfold le4 un; decide
  | 1 => unfold le4 un; decide
  | 2 => unfold le4 un; decide
  | k + 3 => show le4 9 (0, 0, 0, 1); unfold le4; decide
theorem z0_le : le4 9 z0 := by unfold le4 z0; decide
/-- a lattice of A, of rank less than four, with units: the rows' determinant is that of three at most -/
theorem det_bound_u {A U : List Z4} {r0 r1 r2 r3 : Z4} (h1 : ∀ g ∈ A ++ U, sp [r0, r1, r2, r3] g) (h2 : ∀ g ∈ [r0, r1, r2, r3], sp (A ++ U) g) (h9 : ∀ g ∈ A, le4 9 g) (hU : ∀ g ∈ U, g = z0 ∨ ∃ k, g = un k) (hA : ∀ a ∈ A, ∀ b ∈ A, ∀ c ∈ A, ∀ d ∈ A, det4 a b c d = 0) : (det4 r0 r1 r2 r3).natAbs ≤ 4374 := by
  by_cases hD : det4 r0 r1 r2 r3 = 0
  · rw [hD]; decide
  · obtain ⟨a, ha, b, hb, c, hc, d, hd, hne, hdv⟩ := det_some h1 h2 hD
    have h3 := Nat.le_of_dvd (by omega) (Int.natAbs_dvd_natAbs.mpr hdv)
    have hle : ∀ g ∈ A ++ U, le4 9 g := fun g hg => by
      rcases List.mem_append.mp hg with h | h
      · exact h9 g h
      · rcases hU g h with rfl | ⟨k, rfl⟩
        · exact z0_le
        · exact un_le k
    have h4 : (det4 a b c d).natAbs ≤ 4374 := by
      rcases List.mem_append.mp ha with ha' | ha'
      · rcases List.mem_append.mp hb with hb' | hb'
        · rcases List.mem_append.mp hc with hc' | hc'
          · rcases List.mem_append.mp hd with hd' | hd'
            · exact absurd (hA a ha' b hb' c hc' d hd') hne
            · rcases hU d hd' with rfl | ⟨k, rfl⟩
              · exact absurd (det_d0 a b c) hne
              · rw [det_scd a b (un k) c, Int.natAbs_neg, det_sbc a (un k) b c, Int.natAbs_neg, det_sab (un k) a b c, Int.natAbs_neg]
                exact det_un k (hle a ha) (hle b hb) (hle c hc)
          · rcases hU c hc' with rfl | ⟨k, rfl⟩
            · exact absurd (det_c0 a b d) hne
            · rw [det_sbc a (un k) b d, Int.natAbs_neg, det_sab (un k) a b d, Int.natAbs_neg]
              exact det_un k (hle a ha) (hle b hb) (hle d hd)
        · rcases hU b hb' with rfl | ⟨k, rfl⟩
          · exact absurd (det_b0 a c d) hne
          · rw [det_sab (un k) a c d, Int.natAbs_neg]
            exact det_un k (hle a ha) (hle c hc) (hle d hd)
      · rcases hU a ha' with rfl | ⟨k, rfl⟩
        · exact absurd (det_a0 b c d) hne
        · exact det_un k (hle b hb) (hle c hc) (hle d hd)
    omega
