/-! Layer B: the bounds of a staircase's pivots and entries -/
def fl4 (r : Nat → Z4) : List Z4 := [r 0, r 1, r 2, r 3]
theorem fl4_mem {r : Nat → Z4} {g : Z4} : g ∈ fl4 r ↔ ∃ i, i < 4 ∧ g = r i := by
  unfold fl4
  constructor
  · intro h
    simp only [List.mem_cons, List.not_mem_nil, or_false] at h
    rcases h with h | h | h | h
    · exact ⟨0, by decide, h⟩
    · exact ⟨1, by decide, h⟩
    · exact ⟨2, by decide, h⟩
    · exact ⟨3, by decide, h⟩
  · rintro ⟨i, hi, rfl⟩
    rcases (show i = 0 ∨ i = 1 ∨ i = 2 ∨ i = 3 by omega) with rfl | rfl | rfl | rfl <;> simp
theorem row_z0 {R : Nat → Nat → Int64} (hT : Tri R) {m : Nat} (hm : m < 4) (h : R m m = 0) : z4 (R m) = z0 := z4_of0 (fun j hj => (hT m hm).2.2 h j hj)
theorem hat_sp {A U : List Z4} {R : Nat → Nat → Int64} {r : Nat → Z4} (hT : Tri R) (hs : ∀ v, sp (rl R) v ↔ sp A v) (c1 : ∀ m, m < 4 → R m m ≠ 0 → ∃ n, n < 4 ∧ r n = z4 (R m)) (c2 : ∀ g ∈ U, g = z0 ∨ ∃ n, n < 4 ∧ r n = g) (c3 : ∀ n, n < 4 → (∃ m, m < 4 ∧ r n = z4 (R m)) ∨ r n ∈ U) :
    (∀ g ∈ A ++ U, sp (fl4 r) g) ∧ ∀ g ∈ fl4 r, sp (A ++ U) g := by
  constructor
  · intro g hg
    rcases List.mem_append.mp hg with h | h
    · refine sp_sub_of (A := rl R) (fun x hx => ?_) g ((hs g).mpr (sp_mem h))
      obtain ⟨m, hm, rfl⟩ := rl_mem.mp hx
      by_cases e : R m m = 0
      · rw [row_z0 hT hm e]; exact sp_zero _
      · obtain ⟨n, hn, e2⟩ := c1 m hm e
        exact sp_mem (fl4_mem.mpr ⟨n, hn, e2.symm⟩)
    · rcases c2 g h with rfl | ⟨n, hn, rfl⟩
      · exact sp_zero _
      · exact sp_mem (fl4_mem.mpr ⟨n, hn, rfl⟩)
  · intro g hg
    obtain ⟨n, hn, rfl⟩ := fl4_mem.mp hg
    rcases c3 n hn with ⟨m, hm, e⟩ | h
    · rw [e]
      exact sp_sub_of (A := A) (fun x hx => sp_mem (List.mem_append_left _ hx)) _ ((hs _).mp (sp_mem (rl_mem.mpr ⟨m, hm, rfl⟩)))
    · exact sp_mem (List.mem_append_right _ h)
noncomputable def hat (R : Nat → Nat → Int64) (k : Nat) : Z4 := if R k k = 0 then un k else z4 (R k)
noncomputable def hu (R : Nat → Nat → Int64) (k : Nat) : Z4 := if R k k = 0 then un k else z0
noncomputable def pv (R : Nat → Nat → Int64) (k : Nat) : Int := if R k k = 0 then 1 else (R k k).toInt
theorem zc_un {k i : Nat} (hk : k < 4) (hi : i < 4) : zc (un k) i = if i = k then 1 else 0 := by
  rcases (show k = 0 ∨ k = 1 ∨ k = 2 ∨ k = 3 by omega) with rfl | rfl | rfl | rfl <;> rcases (show i = 0 ∨ i = 1 ∨ i = 2 ∨ i = 3 by omega) with rfl | rfl | rfl | rfl <;> rfl
theorem hat_lo {R : Nat → Nat → Int64} (hT : Tri R) {k i : Nat} (hk : k < 4) (hi : i < k) : zc (hat R k) i = 0 := by
  unfold hat
  by_cases h : R k k = 0
  · rw [if_pos h, zc_un hk (by omega), if_neg (by omega)]
  · rw [if_neg h, zc_z4 _ (by omega), (hT k hk).1 i hi]; rfl
theorem hat_di {R : Nat → Nat → Int64} {k : Nat} (hk : k < 4) : zc (hat R k) k = pv R k := by
  unfold hat pv
  by_cases h : R k k = 0
  · rw [if_pos h, if_pos h, zc_un hk hk, if_pos rfl]
  · rw [if_neg h, if_neg h, zc_z4 _ hk]
theorem pv_pos {R : Nat → Nat → Int64} (hT : Tri R) {k : Nat} (hk : k < 4) : 1 ≤ pv R k := by
  unfold pv
  by_cases h : R k k = 0
  · rw [if_pos h]; decide
  · rw [if_neg h]
    have h1 := (hT k hk).2.1
    have h2 : (R k k).toInt ≠ 0 := fun e => h (ti_eq.mpr e)
    omega
theorem detf_hat {R : Nat → Nat → Int64} (hT : Tri R) : detf (hat R) = pv R 0 * (pv R 1 * (pv R 2 * pv R 3)) := by
  unfold detf
  rw [det_tri _ _ _ _ (hat_lo hT (k := 1) (i := 0) (by decide) (by decide)) (hat_lo hT (k := 2) (i := 0) (by decide) (by decide)) (hat_lo hT (k := 2) (i := 1) (by decide) (by decide)) (hat_lo hT (k := 3) (i := 0) (by decide) (by decide)) (hat_lo hT (k := 3) (i := 1) (by decide) (by decide)) (hat_lo hT (k := 3) (i := 2) (by decide) (by decide))]
  rw [← hat_di (R := R) (k := 0) (by decide), ← hat_di (R := R) (k := 1) (by decide), ← hat_di (R := R) (k := 2) (by decide), ← hat_di (R := R) (k := 3) (by decide)]
  rfl
theorem rl_det0 {A : List Z4} {R : Nat → Nat → Int64} (hT : Tri R) (hs : ∀ v, sp (rl R) v ↔ sp A v) {j : Nat} (hj : j < 4) (h0 : R j j = 0) : ∀ a ∈ A, ∀ b ∈ A, ∀ c ∈ A, ∀ d ∈ A, det4 a b c d = 0 := by
  have hz := row_z0 hT hj h0
  have e : det4 (z4 (R 0)) (z4 (R 1)) (z4 (R 2)) (z4 (R 3)) = 0 := by
    rcases (show j = 0 ∨ j = 1 ∨ j = 2 ∨ j = 3 by omega) with rfl | rfl | rfl | rfl
    · rw [hz]; exact det_a0 _ _ _
    · rw [hz]; exact det_b0 _ _ _
    · rw [hz]; exact det_c0 _ _ _
    · rw [hz]; exact det_d0 _ _ _
  intro a ha b hb c hc d hd
  have h := det_lat (z4 (R 0)) (z4 (R 1)) (z4 (R 2)) (z4 (R 3)) ((hs a).mpr (sp_mem ha)) ((hs b).mpr (sp_mem hb)) ((hs c).mpr (sp_mem hc)) ((hs d).mpr (sp_mem hd))
  rw [e] at h
  exact Int.zero_dvd.mp h
theorem hu_z0 (R : Nat → Nat → Int64) (k : Nat) : hu R k = z0 ∨ ∃ q, hu R k = un q := by
  unfold hu
  by_cases h : R k k = 0
  · exact Or.inr ⟨k, if_pos h⟩
  · exact Or.inl (if_neg h)
theorem piv_bound {A : List Z4} {R : Nat → Nat → Int64} (hT : Tri R) (hs : ∀ v, sp (rl R) v ↔ sp A v) (h9 : ∀ g ∈ A, le4 9 g) : (detf (hat R)).natAbs ≤ 157464 ∧ ∀ j, j < 4 → R j j = 0 → (detf (hat R)).natAbs ≤ 4374 := by
  obtain ⟨s1, s2⟩ := hat_sp (U := fl4 (hu R)) (r := hat R) hT hs (fun m hm h => ⟨m, hm, if_neg h⟩) (fun g hg => by
    obtain ⟨i, hi, rfl⟩ := fl4_mem.mp hg
    by_cases h : R i i = 0
    · exact Or.inr ⟨i, hi, by unfold hat hu; rw [if_pos h, if_pos h]⟩
    · exact Or.inl (if_neg h)) (fun n hn => by
    by_cases h : R n n = 0
    · exact Or.inr (fl4_mem.mpr ⟨n, hn, by unfold hat hu; rw [if_pos h, if_pos h]⟩)
    · exact Or.inl ⟨n, hn, if_neg h⟩)
  have hU : ∀ g ∈ fl4 (hu R), g = z0 ∨ ∃ k, g = un k := fun g hg => by
    obtain ⟨i, hi, rfl⟩ := fl4_mem.mp hg
    exact hu_z0 R i
  refine ⟨det_bound s1 s2 (fun g hg => ?_), fun j hj h0 => det_bound_u s1 s2 h9 hU (rl_det0 hT hs hj h0)⟩
  rcases List.mem_append.mp hg with h | h
  · exact h9 g h
  · rcases hU g h with rfl | ⟨k, rfl⟩
    · exact z0_le
    · exact un_le k
theorem zc_add (u v : Z4) (i : Nat) : zc (zadd u v) i = zc u i + zc v i := by
  match i with
  | 0 => rfl
  | 1 => rfl
  | 2 => rfl
  | _ + 3 => rfl
theorem zc_mul (c : Int) (v : Z4) (i : Nat) : zc (zmul c v) i = c * zc v i := by
  match i with
  | 0 => rfl
  | 1 => rfl
  | 2 => rfl
  | _ + 3 => rfl
theorem zc_0 (i : Nat) : zc z0 i = 0 := by
  match i with
  | 0 => rfl
  | 1 => rfl
  | 2 => rfl
  | _ + 3 => rfl
theorem detf_van {R : Nat → Nat → Int64} (hT : Tri R) {j : Nat} (hj : j < 4) (h0 : R j j = 0) {v : Z4} (hv : sp (rl R) v) : detf (va_up (hat R) j v) = 0 := by
  refine sp_ind (P := fun v => detf (va_up (hat R) j v) = 0) ?_ ?_ ?_ ?_ v hv
  · show detf _ = 0
    rw [detf_exp _ hj, zc_0, zc_0, zc_0, zc_0]; omega
  · intro u w hu hw
    show detf _ = 0
    have hu : detf (va_up (hat R) j u) = 0 := hu
    have hw : detf (va_up (hat R) j w) = 0 := hw
    rw [detf_exp _ hj] at hu hw ⊢
    rw [zc_add, zc_add, zc_add, zc_add]
    grind
  · intro c u hu
    show detf _ = 0
    have hu : detf (va_up (hat R) j u) = 0 := hu
    rw [detf_exp _ hj] at hu ⊢
    rw [zc_mul, zc_mul, zc_mul, zc_mul]
    grind
  · intro g hg
    show detf _ = 0
    obtain ⟨i, hi, rfl⟩ := rl_mem.mp hg
    by_cases e : R i i = 0
    · rw [row_z0 hT hi e, detf_exp _ hj, zc_0, zc_0, zc_0, zc_0]; omega
    · have h1 : hat R i = z4 (R i) := if_neg e
      rw [← h1]
      exact detf_dup _ hi hj (fun q => e (by rw [q]; exact h0))
/-- a vector of the lattice that is at most the pivots' product on the axes with pivots is small on the others -/
theorem ent {A : List Z4} {R : Nat → Nat → Int64} (hT : Tri R) (hs : ∀ v, sp (rl R) v ↔ sp A v) (h9 : ∀ g ∈ A, le4 9 g) {v : Z4} (hv : sp A v) {j : Nat} (hj : j < 4) (h0 : R j j = 0) (hp : ∀ i, i < 4 → R i i ≠ 0 → (zc v i).natAbs ≤ (detf (hat R)).natAbs) : (zc v j).natAbs ≤ 13122 := by
  have hP : 1 ≤ (detf (hat R)).natAbs := by
    rw [detf_hat hT]
    have a0 := pv_pos hT (k := 0) (by decide)
    have a1 := pv_pos hT (k := 1) (by decide)
    have a2 := pv_pos hT (k := 2) (by decide)
    have a3 := pv_pos hT (k := 3) (by decide)
    rw [Int.natAbs_mul, Int.natAbs_mul, Int.natAbs_mul]
    exact Nat.mul_pos (by omega) (Nat.mul_pos (by omega) (Nat.mul_pos (by omega) (by omega)))
  have hD : ∀ i, i < 4 → i ≠ j → (zc v i * detf (va_up (hat R) j (un i))).natAbs ≤ 4374 * (detf (hat R)).natAbs := by
    intro i hi hij
    by_cases e : R i i = 0
    · have h1 : un i = hat R i := (if_pos e).symm
      rw [h1, detf_dup _ hi hj hij, Int.mul_zero]
      exact Nat.zero_le _
    · have hb : (detf (va_up (hat R) j (un i))).natAbs ≤ 4374 := by
        obtain ⟨s1, s2⟩ := hat_sp (U := un i :: fl4 (va_up (hu R) j z0)) (r := va_up (hat R) j (un i)) hT hs (fun m hm h => ⟨m, hm, by
          rw [va_up_ne _ _ (fun q => h (by rw [q]; exact h0))]; exact if_neg h⟩) (fun g hg => by
          rcases List.mem_cons.mp hg with rfl | hg
          · exact Or.inr ⟨j, hj, va_up_self _ _ _⟩
          · obtain ⟨k, hk, rfl⟩ := fl4_mem.mp hg
            by_cases q : k = j
            · subst q; exact Or.inl (va_up_self _ _ _)
            · rw [va_up_ne _ _ q]
              by_cases h : R k k = 0
              · exact Or.inr ⟨k, hk, by rw [va_up_ne _ _ q]; unfold hat hu; rw [if_pos h, if_pos h]⟩
              · exact Or.inl (if_neg h)) (fun n hn => by
          by_cases q : n = j
          · subst q; rw [va_up_self]; exact Or.inr List.mem_cons_self
          · rw [va_up_ne _ _ q]
            by_cases h : R n n = 0
            · refine Or.inr (List.mem_cons_of_mem _ (fl4_mem.mpr ⟨n, hn, ?_⟩))
              rw [va_up_ne _ _ q]; unfold hat hu; rw [if_pos h, if_pos h]
            · exact Or.inl ⟨n, hn, if_neg h⟩)
        refine det_bound_u s1 s2 h9 (fun g hg => ?_) (rl_det0 hT hs hj h0)
        rcases List.mem_cons.mp hg with rfl | hg
        · exact Or.inr ⟨i, rfl⟩
        · obtain ⟨k, hk, rfl⟩ := fl4_mem.mp hg
          by_cases q : k = j
          · subst q; exact Or.inl (va_up_self _ _ _)
          · rw [va_up_ne _ _ q]; exact hu_z0 R k
      rw [Int.natAbs_mul, Nat.mul_comm]
      exact Nat.mul_le_mul hb (hp i hi e)
  have hj1 : detf (va_up (hat R) j (un j)) = detf (hat R) := by
    have h1 : un j = hat R j := (if_pos h0).symm
    rw [h1, up_same]
  have h1 := detf_van hT hj h0 ((hs v).mpr hv)
  rw [detf_exp _ hj] at h1
  have h2 : (zc v j * detf (hat R)).natAbs ≤ 13122 * (detf (hat R)).natAbs := by
    rcases (show j = 0 ∨ j = 1 ∨ j = 2 ∨ j = 3 by omega) with rfl | rfl | rfl | rfl
    · have b1 := hD 1 (by decide) (by decide)
      have b2 := hD 2 (by decide) (by decide)
      have b3 := hD 3 (by decide) (by decide)
      rw [hj1] at h1
      omega
    · have b1 := hD 0 (by decide) (by decide)
      have b2 := hD 2 (by decide) (by decide)
      have b3 := hD 3 (by decide) (by decide)
      rw [hj1] at h1
      omega
    · have b1 := hD 0 (by decide) (by decide)
      have b2 := hD 1 (by decide) (by decide)
      have b3 := hD 3 (by decide) (by decide)
      rw [hj1] at h1
      omega
    · have b1 := hD 0 (by decide) (by decide)
      have b2 := hD 1 (by decide) (by decide)
      have b3 := hD 2 (by decide) (by decide)
      rw [hj1] at h1
      omega
  rw [Int.natAbs_mul] at h2
  exact Nat.le_of_mul_le_mul_right h2 (by omega)
theorem pv_le {R : Nat → Nat → Int64} (hT : Tri R) {k : Nat} (hk : k < 4) : (pv R k).natAbs ≤ (detf (hat R)).natAbs := by
  rw [detf_hat hT, Int.natAbs_mul, Int.natAbs_mul, Int.natAbs_mul]
  have a0 := pv_pos hT (k := 0) (by decide)
  have a1 := pv_pos hT (k := 1) (by decide)
  have a2 := pv_pos hT (k := 2) (by decide)
  have a3 := pv_pos hT (k := 3) (by decide)
  have b0 : 1 ≤ (pv R 0).natAbs := by omega
  have b1 : 1 ≤ (pv R 1).natAbs := by omega
  have b2 : 1 ≤ (pv R 2).natAbs := by omega
  have b3 : 1 ≤ (pv R 3).natAbs := by omega
  have p23 : 1 ≤ (pv R 2).natAbs * (pv R 3).natAbs := Nat.mul_pos b2 b3
  have p123 : 1 ≤ (pv R 1).natAbs * ((pv R 2).natAbs * (pv R 3).natAbs) := Nat.mul_pos b1 p23
  have q1 := Nat.le_mul_of_pos_left ((pv R 1).natAbs * ((pv R 2).natAbs * (pv R 3).natAbs)) b0
  have q2 := Nat.le_mul_of_pos_left ((pv R 2).natAbs * (pv R 3).natAbs) b1
  rcases (show k = 0 ∨ k = 1 ∨ k = 2 ∨ k = 3 by omega) with rfl | rfl | rfl | rfl
  · exact Nat.le_mul_of_pos_right _ p123
  · exact Nat.le_trans (Nat.le_mul_of_pos_right _ p23) q1
  · exact Nat.le_trans (Nat.le_mul_of_pos_right _ b3) (Nat.le_trans q2 q1)
  · exact Nat.le_trans (Nat.le_mul_of_pos_left _ b2) (Nat.le_trans q2 q1)
/-- row k is less than the pivots behind it -/
def RedR (R : Nat → Nat → Int64) (k : Nat) : Prop := ∀ j, k < j → j < 4 → R j j ≠ 0 → 0 ≤ (R k j).toInt ∧ (R k j).toInt < (R j j).toInt
theorem row_le {A : List Z4} {R : Nat → Nat → Int64} (hT : Tri R) (hs : ∀ v, sp (rl R) v ↔ sp A v) (h9 : ∀ g ∈ A, le4 9 g) {k : Nat} (hk : k < 4) (hr : RedR R k) : rle 157464 (R k) := by
  have hb := (piv_bound hT hs h9).1
  have hh : ∀ i, i < 4 → R i i ≠ 0 → (R k i).toInt.natAbs ≤ (detf (hat R)).natAbs := by
    intro i hi e
    have h1 := pv_le hT hi
    have h2 : pv R i = (R i i).toInt := if_neg e
    rw [h2] at h1
    by_cases l : i < k
    · rw [(hT k hk).1 i l]; exact Nat.zero_le _
    · by_cases q : i = k
      · rw [q] at h1 ⊢; exact h1
      · have := hr i (by omega) hi e
        omega
  intro j hj
  by_cases e : R j j = 0
  · have h3 := ent hT hs h9 (v := z4 (R k)) ((hs _).mp (sp_mem (rl_mem.mpr ⟨k, hk, rfl⟩))) hj e (fun i hi q => by rw [zc_z4 _ hi]; exact hh i hi q)
    rw [zc_z4 _ hj] at h3
    omega
  · have := hh j hj e
    omega
