/-! Layer B: the least multiple of a vector that is in the lattice, by a staircase -/
def TriZ (r : Nat → Z4) : Prop := ∀ k, k < 4 → (∀ j, j < k → zc (r k) j = 0) ∧ 0 ≤ zc (r k) k ∧ (zc (r k) k = 0 → r k = z0)
theorem zc_sub (u v : Z4) (i : Nat) : zc (zsub u v) i = zc u i - zc v i := by
  match i with
  | 0 => rfl
  | 1 => rfl
  | 2 => rfl
  | _ + 3 => rfl
theorem zc_ext {u v : Z4} (h : ∀ i, i < 4 → zc u i = zc v i) : u = v := zext (h 0 (by decide)) (h 1 (by decide)) (h 2 (by decide)) (h 3 (by decide))
theorem sp_fl4 {r : Nat → Z4} {u : Z4} (h : sp (fl4 r) u) : ∃ c : Nat → Int, ∀ i, i < 4 → zc u i = c 0 * zc (r 0) i + c 1 * zc (r 1) i + c 2 * zc (r 2) i + c 3 * zc (r 3) i := by
  obtain ⟨c0, c1, c2, c3, h⟩ := h
  have h : zsub (zsub (zsub (zsub u (zmul c0 (r 0))) (zmul c1 (r 1))) (zmul c2 (r 2))) (zmul c3 (r 3)) = z0 := h
  refine ⟨fun i => if i = 0 then c0 else if i = 1 then c1 else if i = 2 then c2 else c3, fun i hi => ?_⟩
  have h1 := congrArg (fun w => zc w i) h
  simp only [zc_sub, zc_mul, zc_0] at h1
  show _ = c0 * _ + c1 * _ + c2 * _ + c3 * _
  omega
/-- the first coordinate of a lattice vector that isn't 0 is a multiple of that axis's pivot -/
theorem tri_lead {r : Nat → Z4} (hT : TriZ r) {u : Z4} (h : sp (fl4 r) u) {k : Nat} (hk : k < 4) (hz : ∀ j, j < k → zc u j = 0) : zc (r k) k ∣ zc u k := by
  obtain ⟨c, hc⟩ := sp_fl4 h
  have hlo : ∀ m i, m < 4 → i < m → c m * zc (r m) i = 0 := fun m i hm hi => by rw [(hT m hm).1 i hi, Int.mul_zero]
  have step : ∀ m, m < 4 → c m * zc (r m) m = 0 → ∀ i, i < 4 → c m * zc (r m) i = 0 := by
    intro m hm h1 i hi
    rcases Int.mul_eq_zero.mp h1 with h2 | h2
    · rw [h2, Int.zero_mul]
    · rw [(hT m hm).2.2 h2, zc_0, Int.mul_zero]
  have e0 := hc 0 (by decide)
  have e1 := hc 1 (by decide)
  have e2 := hc 2 (by decide)
  have e3 := hc 3 (by decide)
  rw [hlo 1 0 (by decide) (by decide), hlo 2 0 (by decide) (by decide), hlo 3 0 (by decide) (by decide)] at e0
  rw [hlo 2 1 (by decide) (by decide), hlo 3 1 (by decide) (by decide)] at e1
  rw [hlo 3 2 (by decide) (by decide)] at e2
  rcases (show k = 0 ∨ k = 1 ∨ k = 2 ∨ k = 3 by omega) with rfl | rfl | rfl | rfl
  · exact ⟨c 0, by rw [Int.mul_comm]; omega⟩
  · have f0 := step 0 (by decide) (by have := hz 0 (by decide); omega)
    exact ⟨c 1, by rw [Int.mul_comm]; have := f0 1 (by decide); omega⟩
  · have f0 := step 0 (by decide) (by have := hz 0 (by decide); omega)
    have f1 := step 1 (by decide) (by have := hz 1 (by decide); have := f0 1 (by decide); omega)
    exact ⟨c 2, by rw [Int.mul_comm]; have := f0 2 (by decide); have := f1 2 (by decide); omega⟩
  · have f0 := step 0 (by decide) (by have := hz 0 (by decide); omega)
    have f1 := step 1 (by decide) (by have := hz 1 (by decide); have := f0 1 (by decide); omega)
    have f2 := step 2 (by decide) (by have := hz 2 (by decide); have := f0 2 (by decide); have := f1 2 (by decide); omega)
    exact ⟨c 3, by rw [Int.mul_comm]; have := f0 3 (by decide); have := f1 3 (by decide); have := f2 3 (by decide); omega⟩
/-- n v is w, but for a vector of the lattice; n divides what takes v into the lattice -/
def Sg (A : List Z4) (v : Z4) (k : Nat) (n : Int) (w : Z4) : Prop := 1 ≤ n ∧ sp A (zsub (zmul n v) w) ∧ (∀ j, j < k → zc w j = 0) ∧ ∀ m : Int, 1 ≤ m → sp A (zmul m v) → n ∣ m
/-- the least n of 1, 2, .. with n v in the lattice; 0 if there is none -/
def OrdIs (A : List Z4) (v : Z4) (n : Int) : Prop := (n = 0 ∧ ∀ m : Int, 1 ≤ m → ¬ sp A (zmul m v)) ∨ (1 ≤ n ∧ sp A (zmul n v) ∧ ∀ m : Int, 1 ≤ m → sp A (zmul m v) → n ≤ m)
theorem OrdIs.uniq {A : List Z4} {v : Z4} {a b : Int} (h1 : OrdIs A v a) (h2 : OrdIs A v b) : a = b := by
  rcases h1 with ⟨p1, p2⟩ | ⟨p1, p2, p3⟩ <;> rcases h2 with ⟨q1, q2⟩ | ⟨q1, q2, q3⟩
  · omega
  · exact absurd q2 (p2 b q1)
  · exact absurd p2 (q2 a p1)
  · have := p3 b q1 q2
    have := q3 a p1 p2
    omega
theorem Sg.start (A : List Z4) (v : Z4) : Sg A v 0 1 v := by
  refine ⟨by decide, sp_eq (sp_zero A) (zc_ext fun i hi => ?_), fun j hj => absurd hj (by omega), fun m _ _ => ⟨m, by omega⟩⟩
  rw [zc_0, zc_sub, zc_mul]; omega
theorem Sg.skip {A : List Z4} {v w : Z4} {k : Nat} {n : Int} (h : Sg A v k n w) (h0 : zc w k = 0) : Sg A v (k + 1) n w := by
  refine ⟨h.1, h.2.1, fun j hj => ?_, h.2.2.2⟩
  by_cases e : j = k
  · rw [e]; exact h0
  · exact h.2.2.1 j (by omega)
theorem Sg.mult {A : List Z4} {v w : Z4} {k : Nat} {n : Int} (h : Sg A v k n w) {m : Int} (hm : 1 ≤ m) (hs : sp A (zmul m v)) : ∃ c : Int, m = n * c ∧ sp A (zmul c w) := by
  obtain ⟨c, hc⟩ := h.2.2.2 m hm hs
  refine ⟨c, hc, sp_eq (sp_sub hs (sp_mul c h.2.1)) (zc_ext fun i hi => ?_)⟩
  rw [zc_sub, zc_mul, zc_mul, zc_sub, zc_mul, zc_mul, hc]
  grind
theorem Sg.lead {A : List Z4} {r : Nat → Z4} (hT : TriZ r) (hs : ∀ v, sp (fl4 r) v ↔ sp A v) {v w : Z4} {k : Nat} (hk : k < 4) {n : Int} (h : Sg A v k n w) {c : Int} (hc : sp A (zmul c w)) : zc (r k) k ∣ c * zc w k := by
  have h1 := tri_lead hT ((hs _).mpr hc) hk (fun j hj => by rw [zc_mul, h.2.2.1 j hj, Int.mul_zero])
  rw [zc_mul] at h1
  exact h1
theorem Sg.fail {A : List Z4} {r : Nat → Z4} (hT : TriZ r) (hs : ∀ v, sp (fl4 r) v ↔ sp A v) {v w : Z4} {k : Nat} (hk : k < 4) {n : Int} (h : Sg A v k n w) (h0 : zc w k ≠ 0) (hp : zc (r k) k = 0) : OrdIs A v 0 := by
  refine Or.inl ⟨rfl, fun m hm hmv => ?_⟩
  obtain ⟨c, hc, hcw⟩ := h.mult hm hmv
  have h1 := h.lead hT hs hk hcw
  rw [hp] at h1
  rcases Int.mul_eq_zero.mp (Int.zero_dvd.mp h1) with h2 | h2
  · rw [h2, Int.mul_zero] at hc; omega
  · exact h0 h2
theorem gcd_split {p x : Int} (hp : 0 < p) : ∃ f t : Int, 0 < f ∧ p = f * (Int.gcd p x : Int) ∧ x = t * (Int.gcd p x : Int) ∧ f = p / (Int.gcd p x : Int) ∧ (0 : Int) < (Int.gcd p x : Int) ∧ ∀ c : Int, p ∣ c * x → f ∣ c := by
  have hg : (0 : Int) < (Int.gcd p x : Int) := by
    have h1 : Int.gcd p x ≠ 0 := fun e => by
      have := Int.eq_zero_of_gcd_eq_zero_left e
      omega
    omega
  obtain ⟨f, hf⟩ := Int.gcd_dvd_left (a := p) (b := x)
  obtain ⟨t, ht⟩ := Int.gcd_dvd_right (a := p) (b := x)
  have hfp : 0 < f := by
    rcases Int.lt_or_le 0 f with h | h
    · exact h
    · have h2 : (Int.gcd p x : Int) * f ≤ 0 := Int.mul_nonpos_of_nonneg_of_nonpos (Int.le_of_lt hg) h
      omega
  refine ⟨f, t, hfp, by rw [Int.mul_comm]; exact hf, by rw [Int.mul_comm]; exact ht, ?_, hg, fun c hc => ?_⟩
  · exact (Int.ediv_eq_of_eq_mul_right (Int.ne_of_gt hg) hf).symm
  · have h1 : p.natAbs ∣ c.natAbs * x.natAbs := by rw [← Int.natAbs_mul]; exact Int.natAbs_dvd_natAbs.mpr hc
    have h2 : Nat.Coprime (p.natAbs / Nat.gcd p.natAbs x.natAbs) (x.natAbs / Nat.gcd p.natAbs x.natAbs) := Nat.coprime_div_gcd_div_gcd (by have : Int.gcd p x = Nat.gcd p.natAbs x.natAbs := rfl; omega)
    have hG : 0 < Nat.gcd p.natAbs x.natAbs := by have : Int.gcd p x = Nat.gcd p.natAbs x.natAbs := rfl; omega
    have h3 : p.natAbs / Nat.gcd p.natAbs x.natAbs = f.natAbs := by
      have e : p.natAbs = Nat.gcd p.natAbs x.natAbs * f.natAbs := by
        conv => lhs; rw [hf]
        rw [Int.natAbs_mul]; rfl
      exact Nat.div_eq_of_eq_mul_right hG e
    have h4 : p.natAbs / Nat.gcd p.natAbs x.natAbs ∣ c.natAbs := by
      refine Nat.Coprime.dvd_of_dvd_mul_right h2 ?_
      refine Nat.dvd_of_mul_dvd_mul_right hG ?_
      rw [Nat.mul_assoc, Nat.div_mul_cancel (Nat.gcd_dvd_left _ _), Nat.div_mul_cancel (Nat.gcd_dvd_right _ _)]
      exact h1
    rw [h3] at h4
    exact Int.natAbs_dvd_natAbs.mp h4
theorem Sg.step {A : List Z4} {r : Nat → Z4} (hT : TriZ r) (hs : ∀ v, sp (fl4 r) v ↔ sp A v) {v w : Z4} {k : Nat} (hk : k < 4) {n : Int} (h : Sg A v k n w) {f t : Int} (hf : 0 < f) (ht : f * zc w k = t * zc (r k) k) (hd : ∀ c : Int, zc (r k) k ∣ c * zc w k → f ∣ c) : Sg A v (k + 1) (n * f) (zsub (zmul f w) (zmul t (r k))) := by
  refine ⟨?_, ?_, fun j hj => ?_, fun m hm hmv => ?_⟩
  · exact Int.mul_pos (by have := h.1; omega) hf
  · refine sp_eq (sp_add (sp_mul f h.2.1) (sp_mul t ((hs _).mp (sp_mem (fl4_mem.mpr ⟨k, hk, rfl⟩))))) (zc_ext fun i hi => ?_)
    rw [zc_add, zc_mul, zc_sub, zc_mul, zc_mul, zc_sub, zc_mul, zc_sub, zc_mul, zc_mul]
    grind
  · rw [zc_sub, zc_mul, zc_mul]
    by_cases e : j = k
    · subst e; omega
    · rw [h.2.2.1 j (by omega), (hT k hk).1 j (by omega)]; omega
  · obtain ⟨c, hc, hcw⟩ := h.mult hm hmv
    obtain ⟨q, hq⟩ := hd c (h.lead hT hs hk hcw)
    exact ⟨q, by rw [hc, hq, Int.mul_assoc]⟩
theorem Sg.done {A : List Z4} {v w : Z4} {n : Int} (h : Sg A v 4 n w) : OrdIs A v n := by
  have hw : w = z0 := zc_ext fun i hi => by rw [zc_0]; exact h.2.2.1 i hi
  refine Or.inr ⟨h.1, sp_eq h.2.1 (zc_ext fun i hi => ?_), fun m hm hmv => ?_⟩
  · rw [hw, zc_sub, zc_0]; omega
  · exact Int.le_of_dvd (by omega) (h.2.2.2 m hm hmv)
