/-! Layer B: the reference's rows: rowAt, tidy -/
/-- nr rows, row i with its pivot on axis c i: they are the rows of R that aren't 0 -/
def Rep (nr : Nat) (c : Nat → Nat) (row : Nat → Int64) (piv : Nat → Int32) (R : Nat → Nat → Int64) : Prop :=
  nr ≤ 4 ∧ (∀ i, i < nr → c i < 4 ∧ piv i = nI (c i) ∧ ∀ j, j < 4 → row (4 * i + j) = R (c i) j) ∧ (∀ i j, i < j → j < nr → c i < c j)
theorem rowAt_loop {F nr k : Nat} {c : Nat → Nat} {piv : Nat → Int32} (hn : nr ≤ 4) (hc : ∀ i, i < nr → c i < 4 ∧ piv i = nI (c i)) (hk : k < 4) : ∀ (d n i : Nat) (found : Int32), i + d = nr → d < n → ∃ r, lM_rowAt_4 F (nI nr) piv (nI k) n found (nI i) = some r ∧ ((∃ m, i ≤ m ∧ m < nr ∧ c m = k ∧ r = nI m) ∨ ((∀ m, i ≤ m → m < nr → c m ≠ k) ∧ r = found)) := by
  intro d
  induction d with
  | zero =>
    intro n i found h1 h2
    obtain ⟨n, rfl⟩ : ∃ q, n = q + 1 := ⟨n - 1, by omega⟩
    have e : i = nr := by omega
    subst e
    rw [lM_rowAt_4, if_pos (nI_le (Nat.le_refl _) (by omega))]
    exact ⟨found, rfl, Or.inr ⟨fun m p q => by omega, rfl⟩⟩
  | succ d ih =>
    intro n i found h1 h2
    obtain ⟨n, rfl⟩ : ∃ q, n = q + 1 := ⟨n - 1, by omega⟩
    have hi : i < nr := by omega
    rw [lM_rowAt_4, if_neg (nI_ge hi (by omega)), gd_t (vp_in_nI (by omega) (by decide)), nI_clamp (by omega), (hc i hi).2, nI_1]
    by_cases e : c i = k
    · rw [if_pos (by rw [e])]
      obtain ⟨r, r1, r2⟩ := ih n (i + 1) (nI i) (by omega) (by omega)
      refine ⟨r, r1, ?_⟩
      rcases r2 with ⟨m, a1, a2, a3, a4⟩ | ⟨a1, a2⟩
      · exact Or.inl ⟨m, by omega, a2, a3, a4⟩
      · exact Or.inl ⟨i, Nat.le_refl _, hi, e, a2⟩
    · rw [if_neg (fun q => e ((nI_eq (by have := (hc i hi).1; omega) (by omega)).mp q))]
      obtain ⟨r, r1, r2⟩ := ih n (i + 1) found (by omega) (by omega)
      refine ⟨r, r1, ?_⟩
      rcases r2 with ⟨m, a1, a2, a3, a4⟩ | ⟨a1, a2⟩
      · exact Or.inl ⟨m, by omega, a2, a3, a4⟩
      · refine Or.inr ⟨fun m p q => ?_, a2⟩
        by_cases em : m = i
        · rw [em]; exact e
        · exact a1 m (by omega) q
theorem M_rowAt_eq {F nr k : Nat} {c : Nat → Nat} {piv : Nat → Int32} (hF : 5 ≤ F) (hn : nr ≤ 4) (hc : ∀ i, i < nr → c i < 4 ∧ piv i = nI (c i)) (hk : k < 4) : (∃ i, i < nr ∧ c i = k ∧ M_rowAt F (nI nr) piv (nI k) = some (nI i)) ∨ ((∀ i, i < nr → c i ≠ k) ∧ M_rowAt F (nI nr) piv (nI k) = some (-1)) := by
  obtain ⟨r, r1, r2⟩ := rowAt_loop (F := F) hn hc hk nr F 0 (-1) (by omega) (by omega)
  have e : M_rowAt F (nI nr) piv (nI k) = some r := by
    unfold M_rowAt
    rw [show (0 : Int32) = nI 0 from rfl, r1]
    rfl
  rcases r2 with ⟨m, a1, a2, a3, a4⟩ | ⟨a1, a2⟩
  · exact Or.inl ⟨m, a2, a3, by rw [e, a4]⟩
  · exact Or.inr ⟨fun i hi => a1 i (Nat.zero_le _) hi, by rw [e, a2]⟩
theorem ix4 {i j : Nat} (hi : i < 4) (hj : j < 4) : (4 : Int32) * nI i + nI j = nI (4 * i + j) := by
  have h : (4 : Int32) * nI i = nI (4 * i) := by
    rcases (show i = 0 ∨ i = 1 ∨ i = 2 ∨ i = 3 by omega) with rfl | rfl | rfl | rfl <;> decide
  rw [h]
  exact nI_add _ _
/-- a less q times b, from axis l on -/
def tid (l : Nat) (a b : Nat → Int64) (q : Int64) : Nat → Int64 := fun j => if l ≤ j ∧ j < 4 then a j - q * b j else a j
theorem tidy_43 {F i : Nat} {row : Nat → Int64} {v2 : Int32} {q : Int64} (hi : i < 4) : ∀ (d n l : Nat) (f : Nat → Int64), l + d = 4 → d < n → lM_tidy_43 F row v2 (nI i) q n (nI l) f = some (tid l f (fun j => row (4 * i + j)) q) := by
  intro d
  induction d with
  | zero =>
    intro n l f h1 h2
    obtain ⟨n, rfl⟩ : ∃ q, n = q + 1 := ⟨n - 1, by omega⟩
    have e : l = 4 := by omega
    subst e
    rw [lM_tidy_43, if_pos (show (4 : Int32) ≤ nI 4 by decide)]
    congr 1
    funext j
    exact (if_neg (by omega)).symm
  | succ d ih =>
    intro n l f h1 h2
    obtain ⟨n, rfl⟩ : ∃ q, n = q + 1 := ⟨n - 1, by omega⟩
    have h4 : ¬ (4 : Int32) ≤ nI l := nI_ge (b := 4) (by omega) (by decide)
    have hv : vp_in (nI l) 4 := vp_in_nI (by omega) (by decide)
    rw [lM_tidy_43, if_neg h4, gd_t hv, ix4 hi (by omega), gd_t (vp_in_nI (by omega) (by decide)), gd_t hv, nI_clamp (by omega), nI_clamp (by omega), nI_1, ih n (l + 1) _ (by omega) (by omega)]
    congr 1
    funext j
    unfold tid vp_updL
    by_cases e : j = l
    · subst e
      rw [if_neg (by omega), if_pos rfl, if_pos (by omega)]
    · by_cases h : l + 1 ≤ j ∧ j < 4
      · rw [if_pos h, if_neg e, if_pos (by omega)]
      · rw [if_neg h, if_neg e, if_neg (by omega)]
/-- one axis of tidy -/
theorem tstep {l Y Yl : Nat} {f b : Nat → Int64} {z : Int64} (hl : l < 4) (hb : zbe l b) (hp : 0 < (b l).toInt) (hz : z.toInt = (f l).toInt / (b l).toInt) (hB : rle 157464 b) (hYl : (f l).toInt.natAbs ≤ Yl) (hYl2 : Yl < 9223372036854775808) (hY : ∀ j, l < j → j < 4 → (f j).toInt.natAbs ≤ Y) (hY3 : l < 3 → Y + Yl * 157464 < 9223372036854775808) :
    (∀ j, j < l → tid l f b z j = f j) ∧ 0 ≤ (tid l f b z l).toInt ∧ (tid l f b z l).toInt < (b l).toInt ∧ (∀ j, l < j → j < 4 → (tid l f b z j).toInt.natAbs ≤ Y + Yl * 157464) ∧ z4 (tid l f b z) = zsub (z4 f) (zmul z.toInt (z4 b)) := by
  have hq : z.toInt.natAbs ≤ Yl := by
    rw [hz]
    exact Nat.le_trans (Int.natAbs_ediv_le_natAbs _ _) hYl
  have hlow : ∀ j, j < l → tid l f b z j = f j := fun j hj => if_neg (by omega)
  have hmod : (f l).toInt - z.toInt * (b l).toInt = (f l).toInt % (b l).toInt := by
    rw [Int.emod_def, hz, Int.mul_comm (b l).toInt]
  have hval : ∀ j, j < 4 → l ≤ j → (tid l f b z j).toInt = (f j).toInt - z.toInt * (b j).toInt ∧ (l < j → ((f j).toInt - z.toInt * (b j).toInt).natAbs ≤ Y + Yl * 157464) := by
    intro j hj hlj
    have e : tid l f b z j = f j - z * b j := if_pos ⟨hlj, hj⟩
    have hbd : l < j → ((f j).toInt - z.toInt * (b j).toInt).natAbs ≤ Y + Yl * 157464 := by
      intro h9
      have a1 := Int.natAbs_sub_le (f j).toInt (z.toInt * (b j).toInt)
      rw [Int.natAbs_mul] at a1
      have a2 := Nat.mul_le_mul hq (hB j hj)
      have a3 := hY j h9 hj
      omega
    refine ⟨?_, hbd⟩
    rw [e]
    refine ti_fms ?_
    by_cases q : j = l
    · subst q
      rw [hmod]
      have h1 := Int.emod_nonneg (f j).toInt (Int.ne_of_gt hp)
      have h2 := Int.emod_lt_of_pos (f j).toInt hp
      have h3 := (ti_in (b j)).2
      exact ⟨by omega, by omega⟩
    · have h4 := hbd (by omega)
      have h5 := hY3 (by omega)
      exact inR_of (by omega)
  have hvl := (hval l hl (Nat.le_refl _)).1
  refine ⟨hlow, ?_, ?_, fun j h1 h2 => ?_, ?_⟩
  · rw [hvl, hmod]; exact Int.emod_nonneg _ (Int.ne_of_gt hp)
  · rw [hvl, hmod]; exact Int.emod_lt_of_pos _ hp
  · rw [(hval j h2 (by omega)).1]; exact (hval j h2 (by omega)).2 h1
  · have hc : ∀ j, j < 4 → (tid l f b z j).toInt = (f j).toInt - z.toInt * (b j).toInt := by
      intro j hj
      by_cases q : l ≤ j
      · exact (hval j hj q).1
      · rw [hlow j (by omega), hb j (by omega), show (0 : Int64).toInt = 0 from rfl]; omega
    exact zext (hc 0 (by decide)) (hc 1 (by decide)) (hc 2 (by decide)) (hc 3 (by decide))
/-- what tidy makes of f: less than the pivots behind axis a, f but for rows behind a -/
def Tdy (R : Nat → Nat → Int64) (a l : Nat) (f f' : Nat → Int64) : Prop := (∀ j, j < l → f' j = f j) ∧ (∀ j, l ≤ j → j < 4 → R j j ≠ 0 → 0 ≤ (f' j).toInt ∧ (f' j).toInt < (R j j).toInt) ∧ ∀ X : List Z4, (∀ m, a < m → m < 4 → sp X (z4 (R m))) → sp X (zsub (z4 f') (z4 f))
/-- R is a staircase behind axis a, its rows bounded -/
def TriB (R : Nat → Nat → Int64) (a : Nat) : Prop := ∀ m, a < m → m < 4 → zbe m (R m) ∧ 0 ≤ (R m m).toInt ∧ rle 157464 (R m)
theorem zsub_self (v : Z4) : zsub v v = z0 := zc_ext fun i hi => by rw [zc_sub, zc_0]; omega
theorem tid_eqrow {l i : Nat} {f : Nat → Int64} {q : Int64} {row b : Nat → Int64} (h : ∀ j, j < 4 → row (4 * i + j) = b j) : tid l f (fun j => row (4 * i + j)) q = tid l f b q := funext fun j => by
  unfold tid
  by_cases hj : l ≤ j ∧ j < 4
  · rw [if_pos hj, if_pos hj]
    show f j - q * row (4 * i + j) = _
    rw [h j hj.2]
  · rw [if_neg hj, if_neg hj]
/-- tidy's step at axis l, with or without a row there -/
theorem td_go {F nr l n : Nat} {c : Nat → Nat} {row : Nat → Int64} {piv : Nat → Int32} {R : Nat → Nat → Int64} {f : Nat → Int64} (hF : 5 ≤ F) (hl : l < 4) (hR : Rep nr c row piv R) (hh : ∀ i, i < nr → c i = l → R l l ≠ 0) (hz : (∀ i, i < nr → c i ≠ l) → R l l = 0) (hp : 0 ≤ (R l l).toInt) :
    (R l l = 0 ∧ lM_tidy_4 F (nI nr) row piv (n + 1) (nI l) f = lM_tidy_4 F (nI nr) row piv n (nI (l + 1)) f) ∨ (R l l ≠ 0 ∧ ∃ z : Int64, z.toInt = (f l).toInt / (R l l).toInt ∧ lM_tidy_4 F (nI nr) row piv (n + 1) (nI l) f = lM_tidy_4 F (nI nr) row piv n (nI (l + 1)) (tid l f (R l) z)) := by
  obtain ⟨hn, hc, hs⟩ := hR
  have h4 : ¬ (4 : Int32) ≤ nI l := nI_ge (b := 4) hl (by decide)
  rcases M_rowAt_eq (F := F) hF hn (fun i hi => ⟨(hc i hi).1, (hc i hi).2.1⟩) hl with ⟨i, hi, e, hr⟩ | ⟨hno, hr⟩
  · right
    have hne : R l l ≠ 0 := hh i hi e
    have hpos : 0 < (R l l).toInt := by
      have h6 : (R l l).toInt ≠ 0 := fun q => hne (ti_eq.mpr q)
      omega
    have hrow : ∀ j, j < 4 → row (4 * i + j) = R l j := fun j hj => by rw [← e]; exact (hc i hi).2.2 j hj
    obtain ⟨z, z1, z2⟩ := M_under_eq (F := F) (x := f l) (y := R l l) hpos
    refine ⟨hne, z, z2, ?_⟩
    rw [lM_tidy_4, if_neg h4, hr, Option.bind_some, if_neg (nI_pos (by omega)), gd_t (vp_in_nI hl (by decide)), ix4 (by omega) hl, gd_t (vp_in_nI (by omega) (by decide)), nI_clamp (by omega), nI_clamp (by omega), hrow l hl, z1, Option.bind_some, tidy_43 (by omega) (4 - l) F l f (by omega) (by omega), Option.bind_some, nI_1, tid_eqrow hrow]
  · left
    refine ⟨hz hno, ?_⟩
    rw [lM_tidy_4, if_neg h4, hr, Option.bind_some, if_pos (by decide), nI_1]
