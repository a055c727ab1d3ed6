/-! Layer B: the volume of a lattice: the determinant of the products, and that it is the same for every basis -/
def cmb (x t0 t1 t2 t3 : Z4) : Z4 := zadd (zmul x.1 t0) (zadd (zmul x.2.1 t1) (zadd (zmul x.2.2.1 t2) (zmul x.2.2.2 t3)))
theorem det_cmb_cd (A B t0 t1 t2 t3 z w : Z4) : det4 A B (cmb z t0 t1 t2 t3) (cmb w t0 t1 t2 t3) = (z.1 * w.2.1 - z.2.1 * w.1) * det4 A B t0 t1 + (z.1 * w.2.2.1 - z.2.2.1 * w.1) * det4 A B t0 t2 + (z.1 * w.2.2.2 - z.2.2.2 * w.1) * det4 A B t0 t3 + (z.2.1 * w.2.2.1 - z.2.2.1 * w.2.1) * det4 A B t1 t2 + (z.2.1 * w.2.2.2 - z.2.2.2 * w.2.1) * det4 A B t1 t3 + (z.2.2.1 * w.2.2.2 - z.2.2.2 * w.2.2.1) * det4 A B t2 t3 := by
  unfold cmb
  simp only [det_c, det_d, det_cm, det_dm, det_cd]
  rw [det_scd A B t0 t1, det_scd A B t0 t2, det_scd A B t0 t3, det_scd A B t1 t2, det_scd A B t1 t3, det_scd A B t2 t3]
  grind
theorem det_cmb_ab (C D t0 t1 t2 t3 x y : Z4) : det4 (cmb x t0 t1 t2 t3) (cmb y t0 t1 t2 t3) C D = (x.1 * y.2.1 - x.2.1 * y.1) * det4 t0 t1 C D + (x.1 * y.2.2.1 - x.2.2.1 * y.1) * det4 t0 t2 C D + (x.1 * y.2.2.2 - x.2.2.2 * y.1) * det4 t0 t3 C D + (x.2.1 * y.2.2.1 - x.2.2.1 * y.2.1) * det4 t1 t2 C D + (x.2.1 * y.2.2.2 - x.2.2.2 * y.2.1) * det4 t1 t3 C D + (x.2.2.1 * y.2.2.2 - x.2.2.2 * y.2.2.1) * det4 t2 t3 C D := by
  unfold cmb
  simp only [det_a, det_b, det_am, det_bm, det_ab]
  rw [det_sab t0 t1 C D, det_sab t0 t2 C D, det_sab t0 t3 C D, det_sab t1 t2 C D, det_sab t1 t3 C D, det_sab t2 t3 C D]
  grind
theorem det_mul (x y z w t0 t1 t2 t3 : Z4) : det4 (cmb x t0 t1 t2 t3) (cmb y t0 t1 t2 t3) (cmb z t0 t1 t2 t3) (cmb w t0 t1 t2 t3) = det4 x y z w * det4 t0 t1 t2 t3 := by
  rw [det_cmb_ab]
  simp only [det_cmb_cd]
  have p0213 : det4 t0 t2 t1 t3 = -det4 t0 t1 t2 t3 := det_sbc t0 t1 t2 t3
  have p0312 : det4 t0 t3 t1 t2 = det4 t0 t1 t2 t3 := by unfold det4; grind
  have p1203 : det4 t1 t2 t0 t3 = det4 t0 t1 t2 t3 := by unfold det4; grind
  have p1302 : det4 t1 t3 t0 t2 = -det4 t0 t1 t2 t3 := by unfold det4; grind
  have p2301 : det4 t2 t3 t0 t1 = det4 t0 t1 t2 t3 := by unfold det4; grind
  simp only [det_ac, det_ad, det_bc, det_bd, p0213, p0312, p1203, p1302, p2301]
  generalize det4 t0 t1 t2 t3 = Δ
  unfold det4
  grind
/-- the determinant of a symmetrical matrix with these numbers -/
def symdet (a b c d e f g h i j : Int) : Int := a * (e * (h * j - i * i) - f * (f * j - i * g) + g * (f * i - h * g)) - b * (b * (h * j - i * i) - f * (c * j - i * d) + g * (c * i - h * d)) + c * (b * (f * j - i * g) - e * (c * j - i * d) + g * (c * g - f * d)) - d * (b * (f * i - h * g) - e * (c * i - h * d) + f * (c * g - f * d))
theorem symdet_det4 (a b c d e f g h i j : Int) : symdet a b c d e f g h i j = det4 (a, b, c, d) (b, e, f, g) (c, f, h, i) (d, g, i, j) := by
  unfold symdet det4
  grind
theorem gram4_eq (a b c d : Z4) : symdet (zdot a a) (zdot a b) (zdot a c) (zdot a d) (zdot b b) (zdot b c) (zdot b d) (zdot c c) (zdot c d) (zdot d d) = det4 a b c d * det4 a b c d := by
  have key : ∀ x : Z4, (zdot x a, zdot x b, zdot x c, zdot x d) = cmb x (a.1, b.1, c.1, d.1) (a.2.1, b.2.1, c.2.1, d.2.1) (a.2.2.1, b.2.2.1, c.2.2.1, d.2.2.1) (a.2.2.2, b.2.2.2, c.2.2.2, d.2.2.2) := fun x => by
    unfold zdot cmb zadd zmul
    refine zext ?_ ?_ ?_ ?_ <;> dsimp only <;> omega
  have tr : det4 (a.1, b.1, c.1, d.1) (a.2.1, b.2.1, c.2.1, d.2.1) (a.2.2.1, b.2.2.1, c.2.2.1, d.2.2.1) (a.2.2.2, b.2.2.2, c.2.2.2, d.2.2.2) = det4 a b c d := by
    unfold det4; grind
  have cm : ∀ x y : Z4, zdot x y = zdot y x := fun x y => by unfold zdot; grind
  rw [symdet_det4]
  have ka := key a
  have kb := key b
  have kc := key c
  have kd := key d
  rw [cm b a] at kb
  rw [cm c a, cm c b] at kc
  rw [cm d a, cm d b, cm d c] at kd
  rw [ka, kb, kc, kd, det_mul, tr]
theorem syl (a b c d e f g h i j : Int) : ((a * e - b * b) * (a * h - c * c) - (a * f - b * c) * (a * f - b * c)) * ((a * e - b * b) * (a * j - d * d) - (a * g - b * d) * (a * g - b * d)) - ((a * e - b * b) * (a * i - c * d) - (a * f - b * c) * (a * g - b * d)) * ((a * e - b * b) * (a * i - c * d) - (a * f - b * c) * (a * g - b * d)) = a * a * ((a * e - b * b) * symdet a b c d e f g h i j) := by
  unfold symdet
  grind
def gram2 (a b : Z4) : Int := zdot a a * zdot b b - zdot a b * zdot a b
def gram3 (a b c : Z4) : Int := zdot a a * (zdot b b * zdot c c - zdot b c * zdot b c) - zdot a b * (zdot a b * zdot c c - zdot b c * zdot a c) + zdot a c * (zdot a b * zdot b c - zdot b b * zdot a c)
theorem gram3_eq (a b c : Z4) : gram3 a b c = det4 a b c (un 0) * det4 a b c (un 0) + det4 a b c (un 1) * det4 a b c (un 1) + det4 a b c (un 2) * det4 a b c (un 2) + det4 a b c (un 3) * det4 a b c (un 3) := by
  unfold gram3 det4 zdot un
  grind
theorem gram2_eq (a b : Z4) : gram2 a b = det4 a b (un 0) (un 1) * det4 a b (un 0) (un 1) + det4 a b (un 0) (un 2) * det4 a b (un 0) (un 2) + det4 a b (un 0) (un 3) * det4 a b (un 0) (un 3) + det4 a b (un 1) (un 2) * det4 a b (un 1) (un 2) + det4 a b (un 1) (un 3) * det4 a b (un 1) (un 3) + det4 a b (un 2) (un 3) * det4 a b (un 2) (un 3) := by
  unfold gram2 det4 zdot un
  grind
theorem gram1_eq (a : Z4) : zdot a a = det4 a (un 1) (un 2) (un 3) * det4 a (un 1) (un 2) (un 3) + det4 a (un 0) (un 2) (un 3) * det4 a (un 0) (un 2) (un 3) + det4 a (un 0) (un 1) (un 3) * det4 a (un 0) (un 1) (un 3) + det4 a (un 0) (un 1) (un 2) * det4 a (un 0) (un 1) (un 2) := by
  unfold det4 zdot un
  grind
theorem sq_eq {x y : Int} (h1 : x ∣ y) (h2 : y ∣ x) : x * x = y * y := by
  have h := Nat.dvd_antisymm (Int.natAbs_dvd_natAbs.mpr h1) (Int.natAbs_dvd_natAbs.mpr h2)
  rw [← Int.natAbs_mul_self' x, ← Int.natAbs_mul_self' y, h]
/-- four vectors that span the same: the squares of the determinants are equal -/
theorem det_sq {a b c d p q r s : Z4} (h1 : ∀ g ∈ [a, b, c, d], sp [p, q, r, s] g) (h2 : ∀ g ∈ [p, q, r, s], sp [a, b, c, d] g) : det4 a b c d * det4 a b c d = det4 p q r s * det4 p q r s :=
  sq_eq (det_lat a b c d (h2 p (by simp)) (h2 q (by simp)) (h2 r (by simp)) (h2 s (by simp))) (det_lat p q r s (h1 a (by simp)) (h1 b (by simp)) (h1 c (by simp)) (h1 d (by simp)))
theorem sp_mono {X Y : List Z4} (h : ∀ g ∈ X, g ∈ Y) {v : Z4} (hv : sp X v) : sp Y v := sp_sub_of (fun g hg => sp_mem (h g hg)) v hv
theorem gram3_inv {a b c p q r : Z4} (h : ∀ v, sp [a, b, c] v ↔ sp [p, q, r] v) : gram3 a b c = gram3 p q r := by
  have key : ∀ e : Z4, det4 a b c e * det4 a b c e = det4 p q r e * det4 p q r e := fun e => by
    refine det_sq (fun g hg => ?_) (fun g hg => ?_)
    · simp only [List.mem_cons, List.not_mem_nil, or_false] at hg
      rcases hg with rfl | rfl | rfl | rfl
      · exact sp_mono (by simp) ((h g).mp (sp_mem (by simp)))
      · exact sp_mono (by simp) ((h g).mp (sp_mem (by simp)))
      · exact sp_mono (by simp) ((h g).mp (sp_mem (by simp)))
      · exact sp_mem (by simp)
    · simp only [List.mem_cons, List.not_mem_nil, or_false] at hg
      rcases hg with rfl | rfl | rfl | rfl
      · exact sp_mono (by simp) ((h g).mpr (sp_mem (by simp)))
      · exact sp_mono (by simp) ((h g).mpr (sp_mem (by simp)))
      · exact sp_mono (by simp) ((h g).mpr (sp_mem (by simp)))
      · exact sp_mem (by simp)
  rw [gram3_eq, gram3_eq, key, key, key, key]
theorem gram2_inv {a b p q : Z4} (h : ∀ v, sp [a, b] v ↔ sp [p, q] v) : gram2 a b = gram2 p q := by
  have key : ∀ e0 e1 : Z4, det4 a b e0 e1 * det4 a b e0 e1 = det4 p q e0 e1 * det4 p q e0 e1 := fun e0 e1 => by
    refine det_sq (fun g hg => ?_) (fun g hg => ?_)
    · simp only [List.mem_cons, List.not_mem_nil, or_false] at hg
      rcases hg with rfl | rfl | rfl | rfl
      · exact sp_mono (by simp) ((h g).mp (sp_mem (by simp)))
      · exact sp_mono (by simp) ((h g).mp (sp_mem (by simp)))
      · exact sp_mem (by simp)
      · exact sp_mem (by simp)
    · simp only [List.mem_cons, List.not_mem_nil, or_false] at hg
      rcases hg with rfl | rfl | rfl | rfl
      · exact sp_mono (by simp) ((h g).mpr (sp_mem (by simp)))
      · exact sp_mono (by simp) ((h g).mpr (sp_mem (by simp)))
      · exact sp_mem (by simp)
      · exact sp_mem (by simp)
  rw [gram2_eq, gram2_eq, key, key, key, key, key, key]
theorem gram1_inv {a p : Z4} (h : ∀ v, sp [a] v ↔ sp [p] v) : zdot a a = zdot p p := by
  have key : ∀ e0 e1 e2 : Z4, det4 a e0 e1 e2 * det4 a e0 e1 e2 = det4 p e0 e1 e2 * det4 p e0 e1 e2 := fun e0 e1 e2 => by
    refine det_sq (fun g hg => ?_) (fun g hg => ?_)
    · simp only [List.mem_cons, List.not_mem_nil, or_false] at hg
      rcases hg with rfl | rfl | rfl | rfl
      · exact sp_mono (by simp) ((h g).mp (sp_mem (by simp)))
      · exact sp_mem (by simp)
      · exact sp_mem (by simp)
      · exact sp_mem (by simp)
    · simp only [List.mem_cons, List.not_mem_nil, or_false] at hg
      rcases hg with rfl | rfl | rfl | rfl
      · exact sp_mono (by simp) ((h g).mpr (sp_mem (by simp)))
      · exact sp_mem (by simp)
      · exact sp_mem (by simp)
      · exact sp_mem (by simp)
  rw [gram1_eq a, gram1_eq p, key, key, key, key]
