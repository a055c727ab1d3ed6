/-! Layer B: bounds while the reference takes a generator in -/
noncomputable def DD (R : Nat → Nat → Int64) (j : Nat) (v : Z4) : Int := detf (va_up (hat R) j v)
theorem DD_sub {R : Nat → Nat → Int64} {j : Nat} (hj : j < 4) (u v : Z4) (q : Int) : DD R j (zsub u (zmul q v)) = DD R j u - q * DD R j v := by
  unfold DD
  rw [detf_exp _ hj (zsub u (zmul q v)), detf_exp _ hj u, detf_exp _ hj v]
  simp only [zc_sub, zc_mul]
  grind
theorem DD_add {R : Nat → Nat → Int64} {j : Nat} (hj : j < 4) (u v : Z4) : DD R j (zsub u v) = DD R j u - DD R j v := by
  unfold DD
  rw [detf_exp _ hj (zsub u v), detf_exp _ hj u, detf_exp _ hj v]
  simp only [zc_sub]
  grind
theorem DD_neg {R : Nat → Nat → Int64} {j : Nat} (hj : j < 4) (u : Z4) : DD R j (zmul (-1) u) = -DD R j u := by
  unfold DD
  rw [detf_exp _ hj (zmul (-1) u), detf_exp _ hj u]
  simp only [zc_mul]
  grind
theorem d_le {A : List Z4} {R : Nat → Nat → Int64} (hT : Tri R) (hs : ∀ v, sp (rl R) v ↔ sp A v) (h9 : ∀ g ∈ A, le4 9 g) {j : Nat} (hj : j < 4) (h0 : R j j = 0) {i : Nat} (hi : i < 4) (hij : i ≠ j) : (DD R j (un i)).natAbs ≤ 4374 ∧ (R i i = 0 → DD R j (un i) = 0) := by
  have hz : R i i = 0 → DD R j (un i) = 0 := by
    intro e
    have h1 : un i = hat R i := (if_pos e).symm
    unfold DD
    rw [h1]
    exact detf_dup _ hi hj hij
  refine ⟨?_, hz⟩
  obtain ⟨s1, s2⟩ := hat_sp (U := un i :: fl4 (va_up (hu R) j z0)) (r := va_up (hat R) j (un i)) hT hs (fun m hm h => ⟨m, hm, by
    rw [va_up_ne _ _ (fun q => h (by rw [q]; exact h0))]; exact if_neg h⟩) (fun g hg => by
    rcases List.mem_cons.mp hg with rfl | hg
    · exact Or.inr ⟨j, hj, va_up_self _ _ _⟩
    · obtain ⟨k, hk, rfl⟩ := fl4_mem.mp hg
      by_cases q : k = j
      · subst q; exact Or.inl (va_up_self _ _ _)
      · rw [va_up_ne _ _ q]
        by_cases h : R k k = 0
        · exact Or.inr ⟨k, hk, by rw [va_up_ne _ _ q]; unfold hat hu; rw [if_pos h, if_pos h]⟩
        · exact Or.inl (if_neg h)) (fun n hn => by
    by_cases q : n = j
    · subst q; rw [va_up_self]; exact Or.inr List.mem_cons_self
    · rw [va_up_ne _ _ q]
      by_cases h : R n n = 0
      · refine Or.inr (List.mem_cons_of_mem _ (fl4_mem.mpr ⟨n, hn, ?_⟩))
        rw [va_up_ne _ _ q]; unfold hat hu; rw [if_pos h, if_pos h]
      · exact Or.inl ⟨n, hn, if_neg h⟩)
  refine det_bound_u s1 s2 h9 (fun g hg => ?_) (rl_det0 hT hs hj h0)
  rcases List.mem_cons.mp hg with rfl | hg
  · exact Or.inr ⟨i, rfl⟩
  · obtain ⟨k, hk, rfl⟩ := fl4_mem.mp hg
    by_cases q : k = j
    · subst q; exact Or.inl (va_up_self _ _ _)
    · rw [va_up_ne _ _ q]; exact hu_z0 R k
theorem dg_le {A : List Z4} {R : Nat → Nat → Int64} (hT : Tri R) (hs : ∀ v, sp (rl R) v ↔ sp A v) (h9 : ∀ g ∈ A, le4 9 g) {g : Z4} (hg : le4 9 g) {j : Nat} (hj : j < 4) (h0 : R j j = 0) : (DD R j g).natAbs ≤ 104976 := by
  obtain ⟨s1, s2⟩ := hat_sp (U := g :: fl4 (va_up (hu R) j z0)) (r := va_up (hat R) j g) hT hs (fun m hm h => ⟨m, hm, by
    rw [va_up_ne _ _ (fun q => h (by rw [q]; exact h0))]; exact if_neg h⟩) (fun x hx => by
    rcases List.mem_cons.mp hx with rfl | hx
    · exact Or.inr ⟨j, hj, va_up_self _ _ _⟩
    · obtain ⟨k, hk, rfl⟩ := fl4_mem.mp hx
      by_cases q : k = j
      · subst q; exact Or.inl (va_up_self _ _ _)
      · rw [va_up_ne _ _ q]
        by_cases h : R k k = 0
        · exact Or.inr ⟨k, hk, by rw [va_up_ne _ _ q]; unfold hat hu; rw [if_pos h, if_pos h]⟩
        · exact Or.inl (if_neg h)) (fun n hn => by
    by_cases q : n = j
    · subst q; rw [va_up_self]; exact Or.inr List.mem_cons_self
    · rw [va_up_ne _ _ q]
      by_cases h : R n n = 0
      · refine Or.inr (List.mem_cons_of_mem _ (fl4_mem.mpr ⟨n, hn, ?_⟩))
        rw [va_up_ne _ _ q]; unfold hat hu; rw [if_pos h, if_pos h]
      · exact Or.inl ⟨n, hn, if_neg h⟩)
  refine det_bound_h s1 s2 (fun x hx => ?_)
  rcases List.mem_append.mp hx with h | h
  · exact h9 x h
  · rcases List.mem_cons.mp h with rfl | h
    · exact hg
    · obtain ⟨k, hk, rfl⟩ := fl4_mem.mp h
      by_cases q : k = j
      · subst q; rw [va_up_self]; exact z0_le
      · rw [va_up_ne _ _ q]
        rcases hu_z0 R k with e | ⟨m, e⟩
        · rw [e]; exact z0_le
        · rw [e]; exact un_le m
theorem hat_pos {R : Nat → Nat → Int64} (hT : Tri R) : 1 ≤ (detf (hat R)).natAbs := by
  rw [detf_hat hT]
  have a0 := pv_pos hT (k := 0) (by decide)
  have a1 := pv_pos hT (k := 1) (by decide)
  have a2 := pv_pos hT (k := 2) (by decide)
  have a3 := pv_pos hT (k := 3) (by decide)
  rw [Int.natAbs_mul, Int.natAbs_mul, Int.natAbs_mul]
  exact Nat.mul_pos (by omega) (Nat.mul_pos (by omega) (Nat.mul_pos (by omega) (by omega)))
/-- on an axis without a pivot a vector is bounded by its determinants and by what it is on the axes with pivots -/
theorem ent2 {A : List Z4} {R : Nat → Nat → Int64} (hT : Tri R) (hs : ∀ v, sp (rl R) v ↔ sp A v) (h9 : ∀ g ∈ A, le4 9 g) {v : Z4} {j a : Nat} (hj : j < 4) (h0 : R j j = 0) (hD : (DD R j v).natAbs ≤ 104976 * (detf (hat R)).natAbs) (hp : ∀ i, i < 4 → i ≠ a → R i i ≠ 0 → (zc v i).natAbs ≤ (detf (hat R)).natAbs) (hpa : R a a ≠ 0 → (zc v a).natAbs ≤ 9 * (detf (hat R)).natAbs) : (zc v j).natAbs ≤ 153090 := by
  have hP := hat_pos hT
  have hb : ∀ i, i < 4 → i ≠ j → (zc v i * DD R j (un i)).natAbs ≤ (if i = a then 39366 else 4374) * (detf (hat R)).natAbs := by
    intro i hi hij
    obtain ⟨d1, d2⟩ := d_le hT hs h9 hj h0 hi hij
    by_cases e : R i i = 0
    · rw [d2 e, Int.mul_zero]; exact Nat.zero_le _
    · rw [Int.natAbs_mul, Nat.mul_comm]
      by_cases q : i = a
      · rw [if_pos q]
        have h1 := Nat.mul_le_mul d1 (show (zc v i).natAbs ≤ _ by rw [q]; exact hpa (by rw [← q]; exact e))
        omega
      · rw [if_neg q]
        exact Nat.mul_le_mul d1 (hp i hi q e)
  have hj1 : DD R j (un j) = detf (hat R) := by
    have h1 : un j = hat R j := (if_pos h0).symm
    unfold DD
    rw [h1, up_same]
  have hx : DD R j v = zc v 0 * DD R j (un 0) + zc v 1 * DD R j (un 1) + zc v 2 * DD R j (un 2) + zc v 3 * DD R j (un 3) := detf_exp _ hj v
  have key : (zc v j * detf (hat R)).natAbs ≤ 153090 * (detf (hat R)).natAbs := by
    rcases (show j = 0 ∨ j = 1 ∨ j = 2 ∨ j = 3 by omega) with rfl | rfl | rfl | rfl
    · have b1 := hb 1 (by decide) (by decide)
      have b2 := hb 2 (by decide) (by decide)
      have b3 := hb 3 (by decide) (by decide)
      rw [hj1] at hx
      split at b1 <;> split at b2 <;> split at b3 <;> omega
    · have b1 := hb 0 (by decide) (by decide)
      have b2 := hb 2 (by decide) (by decide)
      have b3 := hb 3 (by decide) (by decide)
      rw [hj1] at hx
      split at b1 <;> split at b2 <;> split at b3 <;> omega
    · have b1 := hb 0 (by decide) (by decide)
      have b2 := hb 1 (by decide) (by decide)
      have b3 := hb 3 (by decide) (by decide)
      rw [hj1] at hx
      split at b1 <;> split at b2 <;> split at b3 <;> omega
    · have b1 := hb 0 (by decide) (by decide)
      have b2 := hb 1 (by decide) (by decide)
      have b3 := hb 2 (by decide) (by decide)
      rw [hj1] at hx
      split at b1 <;> split at b2 <;> split at b3 <;> omega
  rw [Int.natAbs_mul] at key
  exact Nat.le_of_mul_le_mul_right key (by omega)
