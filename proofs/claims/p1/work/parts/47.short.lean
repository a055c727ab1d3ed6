/-! Layer B: shorten -/
theorem sp_addrow {R : Nat → Nat → Int64} {k l : Nat} (hk : k < 4) (hl : l < 4) (hkl : l ≠ k) (c : Int) {r' : Nat → Int64} (h : z4 r' = zadd (z4 (R k)) (zmul c (z4 (R l)))) (v : Z4) : sp (rl (va_up R k r')) v ↔ sp (rl R) v := by
  refine sp_same (fun g hg => ?_) (fun g hg => ?_) v
  · obtain ⟨i, hi, rfl⟩ := rl_mem.mp hg
    by_cases e : i = k
    · subst e
      rw [va_up_self, h]
      exact sp_add (sp_mem (rl_mem.mpr ⟨i, hi, rfl⟩)) (sp_mul c (sp_mem (rl_mem.mpr ⟨l, hl, rfl⟩)))
    · rw [va_up_ne _ _ e]; exact sp_mem (rl_mem.mpr ⟨i, hi, rfl⟩)
  · obtain ⟨i, hi, rfl⟩ := rl_mem.mp hg
    by_cases e : i = k
    · subst e
      have h1 : sp (rl (va_up R i r')) (z4 r') := sp_mem (rl_mem.mpr ⟨i, hi, by rw [va_up_self]⟩)
      have h2 : sp (rl (va_up R i r')) (z4 (R l)) := sp_mem (rl_mem.mpr ⟨l, hl, by rw [va_up_ne _ _ hkl]⟩)
      refine sp_eq (sp_sub h1 (sp_mul c h2)) ?_
      rw [h]
      refine zext ?_ ?_ ?_ ?_ <;> simp only [zsub, zadd, zmul] <;> omega
    · exact sp_mem (rl_mem.mpr ⟨i, hi, by rw [va_up_ne _ _ e]⟩)
theorem shstep {k l Y : Nat} {R : Nat → Nat → Int64} {z : Int64} (hkl : k < l) (hl : l < 4) (hT : Tri R) (hp : R l l ≠ 0) (hz : z.toInt = (R k l).toInt / (R l l).toInt) (hB : rle 157464 (R l)) (hY : ∀ j, l ≤ j → j < 4 → (R k j).toInt.natAbs ≤ Y) (hY2 : Y < 9223372036854775808) (hY3 : l < 3 → Y * 157465 < 9223372036854775808) :
    (∀ j, j < l → add4 (R k) (R l) (-z) j = R k j) ∧ 0 ≤ (add4 (R k) (R l) (-z) l).toInt ∧ (add4 (R k) (R l) (-z) l).toInt < (R l l).toInt ∧ (∀ j, l < j → j < 4 → (add4 (R k) (R l) (-z) j).toInt.natAbs ≤ Y * 157465) ∧ z4 (add4 (R k) (R l) (-z)) = zadd (z4 (R k)) (zmul (-z.toInt) (z4 (R l))) := by
  have hpos : 0 < (R l l).toInt := by
    have h1 := (hT l hl).2.1
    have h2 : (R l l).toInt ≠ 0 := fun e => hp (ti_eq.mpr e)
    omega
  have hq : z.toInt.natAbs ≤ Y := by
    rw [hz]
    exact Nat.le_trans (Int.natAbs_ediv_le_natAbs _ _) (hY l (Nat.le_refl _) hl)
  have hn : (-z).toInt = -z.toInt := ti_neg (inR_of (by rw [Int.natAbs_neg]; omega))
  have hlow : ∀ j, j < l → add4 (R k) (R l) (-z) j = R k j := by
    intro j hj
    show (if j < 4 then R k j + -z * R l j else R k j) = _
    rw [if_pos (by omega), (hT l hl).1 j hj]
    simp
  have hmod : (R k l).toInt + -z.toInt * (R l l).toInt = (R k l).toInt % (R l l).toInt := by
    rw [Int.emod_def, hz, Int.mul_comm (R l l).toInt, Int.neg_mul]
    omega
  have hval : ∀ j, j < 4 → l ≤ j → (add4 (R k) (R l) (-z) j).toInt = (R k j).toInt + -z.toInt * (R l j).toInt ∧ (l < j → ((R k j).toInt + -z.toInt * (R l j).toInt).natAbs ≤ Y * 157465) := by
    intro j hj hlj
    have e : add4 (R k) (R l) (-z) j = R k j + -z * R l j := if_pos hj
    have hbd : l < j → ((R k j).toInt + -z.toInt * (R l j).toInt).natAbs ≤ Y * 157465 := by
      intro _
      have a1 := Int.natAbs_add_le (R k j).toInt (-z.toInt * (R l j).toInt)
      rw [Int.natAbs_mul, Int.natAbs_neg] at a1
      have a2 := Nat.mul_le_mul hq (hB j hj)
      have a3 := hY j hlj hj
      omega
    refine ⟨?_, hbd⟩
    rw [e, ti_fma, hn]
    rw [hn]
    by_cases q : j = l
    · subst q
      rw [hmod]
      have h1 := Int.emod_nonneg (R k j).toInt (Int.ne_of_gt hpos)
      have h2 := Int.emod_lt_of_pos (R k j).toInt hpos
      have h3 := (ti_in (R j j)).2
      exact ⟨by omega, by omega⟩
    · have h4 := hbd (by omega)
      have h5 := hY3 (by omega)
      exact inR_of (by omega)
  have hvl := (hval l hl (Nat.le_refl _)).1
  refine ⟨hlow, ?_, ?_, fun j h1 h2 => ?_, ?_⟩
  · rw [hvl, hmod]; exact Int.emod_nonneg _ (Int.ne_of_gt hpos)
  · rw [hvl, hmod]; exact Int.emod_lt_of_pos _ hpos
  · rw [(hval j h2 (by omega)).1]; exact (hval j h2 (by omega)).2 h1
  · have hc : ∀ j, j < 4 → (add4 (R k) (R l) (-z) j).toInt = (R k j).toInt + -z.toInt * (R l j).toInt := by
      intro j hj
      by_cases q : l ≤ j
      · exact (hval j hj q).1
      · rw [hlow j (by omega), (hT l hl).1 j (by omega), show (0 : Int64).toInt = 0 from rfl]; omega
    exact zext (hc 0 (by decide)) (hc 1 (by decide)) (hc 2 (by decide)) (hc 3 (by decide))
theorem tri_up {R : Nat → Nat → Int64} {k : Nat} {r' : Nat → Int64} (hT : Tri R) (hk : k < 4) (h : ∀ j, j ≤ k → r' j = R k j) (h0 : R k k ≠ 0 ∨ ∀ j, j < 4 → r' j = R k j) : Tri (va_up R k r') := by
  intro i hi
  by_cases e : i = k
  · subst e
    rw [va_up_self]
    refine ⟨fun j hj => by rw [h j (by omega)]; exact (hT i hi).1 j hj, by rw [h i (Nat.le_refl _)]; exact (hT i hi).2.1, fun e2 j hj => ?_⟩
    rw [h i (Nat.le_refl _)] at e2
    rcases h0 with h0 | h0
    · exact absurd e2 h0
    · rw [h0 j hj]; exact (hT i hi).2.2 e2 j hj
  · rw [va_up_ne _ _ e]; exact hT i hi
theorem shloop {F k : Nat} (hF : 5 ≤ F) (hk : k < 4) : ∀ (d l n Y : Nat) (R : Nat → Nat → Int64), l + d = 4 → k < l → d < n → Tri R → (∀ i, k < i → i < 4 → rle 157464 (R i)) → (∀ j, l ≤ j → j < 4 → (R k j).toInt.natAbs ≤ Y) → (d = 0 ∨ Y * 157465 ^ (3 - l) < 9223372036854775808) → (∀ j, k < j → j < l → R j j ≠ 0 → 0 ≤ (R k j).toInt ∧ (R k j).toInt < (R j j).toInt) →
    ∃ r', lE_shorten_4 F (nI k) n (nI l) R = some (va_up R k r') ∧ Tri (va_up R k r') ∧ RedR (va_up R k r') k ∧ r' k = R k k ∧ ∀ v, sp (rl (va_up R k r')) v ↔ sp (rl R) v := by
  intro d
  induction d with
  | zero =>
    intro l n Y R h1 h2 h3 hT hB hY hY2 hR
    obtain ⟨n, rfl⟩ : ∃ m, n = m + 1 := ⟨n - 1, by omega⟩
    have e : l = 4 := by omega
    subst e
    refine ⟨R k, ?_, by rw [up_same]; exact hT, ?_, rfl, fun v => by rw [up_same]⟩
    · rw [lE_shorten_4, if_pos (show (4 : Int32) ≤ nI 4 by decide), up_same]
    · rw [up_same]; exact hR
  | succ d ih =>
    intro l n Y R h1 h2 h3 hT hB hY hY2 hR
    obtain ⟨n, rfl⟩ : ∃ m, n = m + 1 := ⟨n - 1, by omega⟩
    have h4 : ¬ (4 : Int32) ≤ nI l := nI_ge (b := 4) (by omega) (by decide)
    have hl : l < 4 := by omega
    have hv : vp_in (nI l) 4 := vp_in_nI hl (by decide)
    have hvk : vp_in (nI k) 4 := vp_in_nI hk (by decide)
    have hc : (nI l).toNatClampNeg = l := nI_clamp (by omega)
    have hck : (nI k).toNatClampNeg = k := nI_clamp (by omega)
    have hY2' : Y * 157465 ^ (3 - l) < 9223372036854775808 := by
      rcases hY2 with h | h
      · omega
      · exact h
    have hY0 : Y < 9223372036854775808 := Nat.lt_of_le_of_lt (Nat.le_mul_of_pos_right Y (Nat.pow_pos (by decide))) hY2'
    have hheld : E_isHeld F R (nI l) = some (hldI R l) := by
      unfold E_isHeld hldI
      rw [gd_t hv, gd_t hv, hc]
      by_cases h : R l l = 0
      · rw [if_pos h, if_pos h]
      · rw [if_neg h, if_neg h]
    rw [lE_shorten_4, if_neg h4, hheld, Option.bind_some]
    by_cases hp : R l l = 0
    · rw [show hldI R l = 0 from if_pos hp, if_pos rfl, nI_1]
      refine ih (l + 1) n Y R (by omega) (by omega) (by omega) hT hB (fun j a b => hY j (by omega) b) ?_ (fun j a b e => ?_)
      · by_cases e : d = 0
        · exact Or.inl e
        · refine Or.inr (Nat.lt_of_le_of_lt (Nat.mul_le_mul_left Y (Nat.pow_le_pow_right (by decide) (by omega))) hY2')
      · by_cases q : j = l
        · rw [q] at e; exact absurd hp e
        · exact hR j a (by omega) e
    · rw [show hldI R l = 1 from if_neg hp, if_neg (by decide), gd_t hvk, gd_t hv, gd_t hvk, gd_t hv, gd_t hv, gd_t hv, hc, hck]
      have hpos : 0 < (R l l).toInt := by
        have h5 := (hT l hl).2.1
        have h6 : (R l l).toInt ≠ 0 := fun e => hp (ti_eq.mpr e)
        omega
      obtain ⟨z, hz1, hz2⟩ := JM_floorDiv_eq (F := F) (x := R k l) (y := R l l) hpos
      have hkl : ¬ l = k := by omega
      rw [hz1, Option.bind_some, gd_t hkl, V_addMultiple_eq hF, Option.bind_some, nI_1]
      have hY3 : l < 3 → Y * 157465 < 9223372036854775808 := by
        intro h
        refine Nat.lt_of_le_of_lt (Nat.mul_le_mul_left Y ?_) hY2'
        calc 157465 = 157465 ^ 1 := rfl
          _ ≤ 157465 ^ (3 - l) := Nat.pow_le_pow_right (by decide) (by omega)
      obtain ⟨s1, s2, s3, s4, s5⟩ := shstep (Y := Y) h2 hl hT hp hz2 (hB l h2 hl) hY hY0 hY3
      by_cases hk0 : R k k = 0
      · -- a row that is 0: nothing changes
        have hrow := (hT k hk).2.2 hk0
        have hz0 : z = 0 := ti_eq.mpr (by rw [hz2, hrow l hl]; simp)
        have hsame : ∀ j, j < 4 → add4 (R k) (R l) (-z) j = R k j := by
          intro j hj
          show (if j < 4 then R k j + -z * R l j else R k j) = _
          rw [if_pos hj, hz0]; simp
        have hfun : add4 (R k) (R l) (-z) = R k := funext fun j => by
          by_cases hj : j < 4
          · exact hsame j hj
          · exact if_neg hj
        rw [hfun, up_same]
        refine ih (l + 1) n Y R (by omega) (by omega) (by omega) hT hB (fun j a b => hY j (by omega) b) ?_ (fun j a b e => ?_)
        · by_cases e : d = 0
          · exact Or.inl e
          · refine Or.inr (Nat.lt_of_le_of_lt (Nat.mul_le_mul_left Y (Nat.pow_le_pow_right (by decide) (by omega))) hY2')
        · by_cases q : j = l
          · subst q
            rw [hfun] at s2 s3
            exact ⟨s2, s3⟩
          · exact hR j a (by omega) e
      · have hT2 : Tri (va_up R k (add4 (R k) (R l) (-z))) := tri_up hT hk (fun j hj => s1 j (by omega)) (Or.inl hk0)
        obtain ⟨r', g1, g2, g3, g4, g5⟩ := ih (l + 1) n (Y * 157465) (va_up R k (add4 (R k) (R l) (-z))) (by omega) (by omega) (by omega) hT2 (fun i a b => by rw [va_up_ne _ _ (by omega)]; exact hB i a b) (fun j a b => by rw [va_up_self]; exact s4 j (by omega) b) (by
          by_cases e : d = 0
          · exact Or.inl e
          · refine Or.inr ?_
            have e2 : 3 - l = (3 - (l + 1)) + 1 := by omega
            rw [e2, Nat.pow_succ] at hY2'
            rw [Nat.mul_assoc, Nat.mul_comm 157465]
            exact hY2') (fun j a b e => by
          have hj9 : va_up R k (add4 (R k) (R l) (-z)) j = R j := va_up_ne _ _ (by omega)
          rw [hj9] at e ⊢
          rw [va_up_self]
          by_cases q : j = l
          · subst q; exact ⟨s2, s3⟩
          · rw [s1 j (by omega)]; exact hR j a (by omega) e)
        refine ⟨r', ?_, ?_, ?_, ?_, fun v => ?_⟩
        · rw [g1, up_up]
        · rw [up_up] at g2; exact g2
        · rw [up_up] at g3; exact g3
        · rw [g4, va_up_self, s1 k h2]
        · have h7 := g5 v
          rw [up_up] at h7
          rw [h7]
          exact sp_addrow hk hl (by omega) (-z.toInt) s5 v
