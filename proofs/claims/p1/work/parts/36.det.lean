/-! Layer B: determinants of four vectors -/
def det4 (a b c d : Z4) : Int :=
  (a.1 * b.2.1 - a.2.1 * b.1) * (c.2.2.1 * d.2.2.2 - c.2.2.2 * d.2.2.1) - (a.1 * b.2.2.1 - a.2.2.1 * b.1) * (c.2.1 * d.2.2.2 - c.2.2.2 * d.2.1) + (a.1 * b.2.2.2 - a.2.2.2 * b.1) * (c.2.1 * d.2.2.1 - c.2.2.1 * d.2.1) + (a.2.1 * b.2.2.1 - a.2.2.1 * b.2.1) * (c.1 * d.2.2.2 - c.2.2.2 * d.1) - (a.2.1 * b.2.2.2 - a.2.2.2 * b.2.1) * (c.1 * d.2.2.1 - c.2.2.1 * d.1) + (a.2.2.1 * b.2.2.2 - a.2.2.2 * b.2.2.1) * (c.1 * d.2.1 - c.2.1 * d.1)
theorem det_a0 (b c d : Z4) : det4 z0 b c d = 0 := by unfold det4 z0; grind
theorem det_b0 (a c d : Z4) : det4 a z0 c d = 0 := by unfold det4 z0; grind
theorem det_c0 (a b d : Z4) : det4 a b z0 d = 0 := by unfold det4 z0; grind
theorem det_d0 (a b c : Z4) : det4 a b c z0 = 0 := by unfold det4 z0; grind
theorem det_a (u v b c d : Z4) : det4 (zadd u v) b c d = det4 u b c d + det4 v b c d := by unfold det4 zadd; grind
theorem det_b (u v a c d : Z4) : det4 a (zadd u v) c d = det4 a u c d + det4 a v c d := by unfold det4 zadd; grind
theorem det_c (u v a b d : Z4) : det4 a b (zadd u v) d = det4 a b u d + det4 a b v d := by unfold det4 zadd; grind
theorem det_d (u v a b c : Z4) : det4 a b c (zadd u v) = det4 a b c u + det4 a b c v := by unfold det4 zadd; grind
theorem det_am (k : Int) (u b c d : Z4) : det4 (zmul k u) b c d = k * det4 u b c d := by unfold det4 zmul; grind
theorem det_bm (k : Int) (u a c d : Z4) : det4 a (zmul k u) c d = k * det4 a u c d := by unfold det4 zmul; grind
theorem det_cm (k : Int) (u a b d : Z4) : det4 a b (zmul k u) d = k * det4 a b u d := by unfold det4 zmul; grind
theorem det_dm (k : Int) (u a b c : Z4) : det4 a b c (zmul k u) = k * det4 a b c u := by unfold det4 zmul; grind
theorem det_tri (a b c d : Z4) (b0 : b.1 = 0) (c0 : c.1 = 0) (c1 : c.2.1 = 0) (d0 : d.1 = 0) (d1 : d.2.1 = 0) (d2 : d.2.2.1 = 0) : det4 a b c d = a.1 * (b.2.1 * (c.2.2.1 * d.2.2.2)) := by
  unfold det4
  rw [b0, c0, c1, d0, d1, d2]
  grind
/-- a determinant that vanishes on all choices out of A vanishes on the lattice of A -/
theorem det_van {A : List Z4} (h : ∀ a ∈ A, ∀ b ∈ A, ∀ c ∈ A, ∀ d ∈ A, det4 a b c d = 0) {a b c d : Z4} (ha : sp A a) (hb : sp A b) (hc : sp A c) (hd : sp A d) : det4 a b c d = 0 := by
  have s1 : ∀ b ∈ A, ∀ c ∈ A, ∀ d ∈ A, ∀ a, sp A a → det4 a b c d = 0 := fun b hb c hc d hd => sp_ind (P := fun a => det4 a b c d = 0) (det_a0 b c d) (fun u v hu hv => by show det4 _ b c d = 0; rw [det_a, hu, hv]; rfl) (fun k u hu => by show det4 _ b c d = 0; rw [det_am, hu, Int.mul_zero]) (fun g hg => h g hg b hb c hc d hd)
  have s2 : ∀ c ∈ A, ∀ d ∈ A, ∀ b, sp A b → ∀ a, sp A a → det4 a b c d = 0 := fun c hc d hd b hb a ha => sp_ind (P := fun b => det4 a b c d = 0) (det_b0 a c d) (fun u v hu hv => by show det4 a _ c d = 0; rw [det_b, hu, hv]; rfl) (fun k u hu => by show det4 a _ c d = 0; rw [det_bm, hu, Int.mul_zero]) (fun g hg => s1 g hg c hc d hd a ha) b hb
  have s3 : ∀ d ∈ A, ∀ c, sp A c → ∀ b, sp A b → ∀ a, sp A a → det4 a b c d = 0 := fun d hd c hc b hb a ha => sp_ind (P := fun c => det4 a b c d = 0) (det_c0 a b d) (fun u v hu hv => by show det4 a b _ d = 0; rw [det_c, hu, hv]; rfl) (fun k u hu => by show det4 a b _ d = 0; rw [det_cm, hu, Int.mul_zero]) (fun g hg => s2 g hg d hd b hb a ha) c hc
  exact sp_ind (P := fun d => det4 a b c d = 0) (det_d0 a b c) (fun u v hu hv => by show det4 a b c _ = 0; rw [det_d, hu, hv]; rfl) (fun k u hu => by show det4 a b c _ = 0; rw [det_dm, hu, Int.mul_zero]) (fun g hg => s3 g hg c hc b hb a ha) d hd
/-- what divides all choices out of A divides all of the lattice's -/
theorem det_dvd {A : List Z4} {P : Int} (h : ∀ a ∈ A, ∀ b ∈ A, ∀ c ∈ A, ∀ d ∈ A, P ∣ det4 a b c d) {a b c d : Z4} (ha : sp A a) (hb : sp A b) (hc : sp A c) (hd : sp A d) : P ∣ det4 a b c d := by
  have s1 : ∀ b ∈ A, ∀ c ∈ A, ∀ d ∈ A, ∀ a, sp A a → P ∣ det4 a b c d := fun b hb c hc d hd => sp_ind (P := fun a => P ∣ det4 a b c d) (by show P ∣ det4 z0 b c d; rw [det_a0]; exact Int.dvd_zero P) (fun u v hu hv => by show P ∣ det4 _ b c d; rw [det_a]; exact Int.dvd_add hu hv) (fun k u hu => by show P ∣ det4 _ b c d; rw [det_am]; exact Int.dvd_mul_of_dvd_right hu) (fun g hg => h g hg b hb c hc d hd)
  have s2 : ∀ c ∈ A, ∀ d ∈ A, ∀ b, sp A b → ∀ a, sp A a → P ∣ det4 a b c d := fun c hc d hd b hb a ha => sp_ind (P := fun b => P ∣ det4 a b c d) (by show P ∣ det4 a z0 c d; rw [det_b0]; exact Int.dvd_zero P) (fun u v hu hv => by show P ∣ det4 a _ c d; rw [det_b]; exact Int.dvd_add hu hv) (fun k u hu => by show P ∣ det4 a _ c d; rw [det_bm]; exact Int.dvd_mul_of_dvd_right hu) (fun g hg => s1 g hg c hc d hd a ha) b hb
  have s3 : ∀ d ∈ A, ∀ c, sp A c → ∀ b, sp A b → ∀ a, sp A a → P ∣ det4 a b c d := fun d hd c hc b hb a ha => sp_ind (P := fun c => P ∣ det4 a b c d) (by show P ∣ det4 a b z0 d; rw [det_c0]; exact Int.dvd_zero P) (fun u v hu hv => by show P ∣ det4 a b _ d; rw [det_c]; exact Int.dvd_add hu hv) (fun k u hu => by show P ∣ det4 a b _ d; rw [det_cm]; exact Int.dvd_mul_of_dvd_right hu) (fun g hg => s2 g hg d hd b hb a ha) c hc
  exact sp_ind (P := fun d => P ∣ det4 a b c d) (by show P ∣ det4 a b c z0; rw [det_d0]; exact Int.dvd_zero P) (fun u v hu hv => by show P ∣ det4 a b c _; rw [det_d]; exact Int.dvd_add hu hv) (fun k u hu => by show P ∣ det4 a b c _; rw [det_dm]; exact Int.dvd_mul_of_dvd_right hu) (fun g hg => s3 g hg c hc b hb a ha) d hd
