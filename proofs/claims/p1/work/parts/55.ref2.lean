/-! Layer B: the whole of tidy -/
/-- the state of the reference's rows, and R, which they hold -/
def RepR (nr : Nat) (c : Nat → Nat) (row : Nat → Int64) (piv : Nat → Int32) (R : Nat → Nat → Int64) (a : Nat) : Prop := Rep nr c row piv R ∧ (∀ i, i < nr → a < c i → R (c i) (c i) ≠ 0) ∧ ∀ k, a < k → k < 4 → (∀ i, i < nr → c i ≠ k) → R k k = 0
theorem tdloop {F nr a : Nat} {c : Nat → Nat} {row : Nat → Int64} {piv : Nat → Int32} {R : Nat → Nat → Int64} (hF : 5 ≤ F) (hR : RepR nr c row piv R a) (hB : TriB R a) : ∀ (d l n Y : Nat) (f : Nat → Int64), l + d = 4 → a < l → d < n → (∀ j, l ≤ j → j < 4 → (f j).toInt.natAbs ≤ Y) → (d = 0 ∨ Y * 157465 ^ (3 - l) < 9223372036854775808) → ∃ f', lM_tidy_4 F (nI nr) row piv n (nI l) f = some f' ∧ Tdy R a l f f' := by
  intro d
  induction d with
  | zero =>
    intro l n Y f h1 h2 h3 hY hY2
    obtain ⟨n, rfl⟩ : ∃ q, n = q + 1 := ⟨n - 1, by omega⟩
    have e : l = 4 := by omega
    subst e
    refine ⟨f, by rw [lM_tidy_4, if_pos (show (4 : Int32) ≤ nI 4 by decide)], fun j hj => rfl, fun j p q => by omega, fun X hX => ?_⟩
    rw [zsub_self]; exact sp_zero X
  | succ d ih =>
    intro l n Y f h1 h2 h3 hY hY2
    obtain ⟨n, rfl⟩ : ∃ q, n = q + 1 := ⟨n - 1, by omega⟩
    have hl : l < 4 := by omega
    obtain ⟨hb1, hb2, hb3⟩ := hB l h2 hl
    have hY2' : Y * 157465 ^ (3 - l) < 9223372036854775808 := by
      rcases hY2 with h | h
      · omega
      · exact h
    have hY0 : Y < 9223372036854775808 := Nat.lt_of_le_of_lt (Nat.le_mul_of_pos_right Y (Nat.pow_pos (by decide))) hY2'
    rcases td_go (n := n) (f := f) hF hl hR.1 (fun i hi e => by rw [← e]; exact hR.2.1 i hi (by omega)) (hR.2.2 l h2 hl) hb2 with ⟨e0, e1⟩ | ⟨e0, z, e1, e2⟩
    · rw [e1]
      obtain ⟨f', g1, g2, g3, g4⟩ := ih (l + 1) n Y f (by omega) (by omega) (by omega) (fun j p q => hY j (by omega) q) (by
        by_cases e : d = 0
        · exact Or.inl e
        · exact Or.inr (Nat.lt_of_le_of_lt (Nat.mul_le_mul_left Y (Nat.pow_le_pow_right (by decide) (by omega))) hY2'))
      refine ⟨f', g1, fun j hj => g2 j (by omega), fun j p q r => ?_, g4⟩
      by_cases e : j = l
      · rw [e] at r; exact absurd e0 r
      · exact g3 j (by omega) q r
    · rw [e2]
      have hpos : 0 < (R l l).toInt := by
        have h6 : (R l l).toInt ≠ 0 := fun q => e0 (ti_eq.mpr q)
        omega
      have hY3 : l < 3 → Y + Y * 157464 < 9223372036854775808 := by
        intro h
        have h9 : Y * 157465 ≤ Y * 157465 ^ (3 - l) := Nat.mul_le_mul_left Y (by
          calc 157465 = 157465 ^ 1 := rfl
            _ ≤ 157465 ^ (3 - l) := Nat.pow_le_pow_right (by decide) (by omega))
        omega
      obtain ⟨s1, s2, s3, s4, s5⟩ := tstep (Y := Y) (Yl := Y) hl hb1 hpos e1 hb3 (hY l (Nat.le_refl _) hl) hY0 (fun j p q => hY j (by omega) q) hY3
      obtain ⟨f', g1, g2, g3, g4⟩ := ih (l + 1) n (Y * 157465) (tid l f (R l) z) (by omega) (by omega) (by omega) (fun j p q => by have := s4 j (by omega) q; omega) (by
        by_cases e : d = 0
        · exact Or.inl e
        · refine Or.inr ?_
          have e2 : 3 - l = (3 - (l + 1)) + 1 := by omega
          rw [e2, Nat.pow_succ] at hY2'
          rw [Nat.mul_assoc, Nat.mul_comm 157465]
          exact hY2')
      refine ⟨f', g1, fun j hj => by rw [g2 j (by omega), s1 j hj], fun j p q r => ?_, fun X hX => ?_⟩
      · by_cases e : j = l
        · subst e; rw [g2 j (by omega)]; exact ⟨s2, s3⟩
        · exact g3 j (by omega) q r
      · refine sp_eq (sp_sub (g4 X hX) (sp_mul z.toInt (hX l h2 hl))) (zc_ext fun i hi => ?_)
        rw [s5]
        simp only [zc_sub, zc_mul]
        omega
/-- tidy behind axis a -/
theorem M_tidy_eq {F nr a : Nat} {c : Nat → Nat} {row : Nat → Int64} {piv : Nat → Int32} {R : Nat → Nat → Int64} (hF : 10 ≤ F) (ha : a < 4) (hR : RepR nr c row piv R a) (hB : TriB R a) {f : Nat → Int64} (h1 : a = 0 → R 1 1 ≠ 0 → (f 1).toInt.natAbs ≤ 2000000) (h2 : ∀ j, a < j → j < 4 → (f j).toInt.natAbs ≤ 30000000000) : ∃ f', M_tidy F (nI nr) row piv f (nI a) = some f' ∧ Tdy R a (a + 1) f f' := by
  have unf : ∀ o, lM_tidy_4 F (nI nr) row piv F (nI (a + 1)) f = some o → M_tidy F (nI nr) row piv f (nI a) = some o := by
    intro o ho
    unfold M_tidy
    rw [nI_1, ho]
    rfl
  by_cases e : a = 0
  · subst e
    obtain ⟨n, rfl⟩ : ∃ q, F = q + 1 := ⟨F - 1, by omega⟩
    obtain ⟨hb1, hb2, hb3⟩ := hB 1 (by decide) (by decide)
    rcases td_go (F := n + 1) (l := 1) (n := n) (f := f) (by omega) (by decide) hR.1 (fun i hi e => by rw [← e]; exact hR.2.1 i hi (by omega)) (hR.2.2 1 (by decide) (by decide)) hb2 with ⟨e0, e1⟩ | ⟨e0, z, e1, e2⟩
    · obtain ⟨f', g1, g2, g3, g4⟩ := tdloop (F := n + 1) (by omega) hR hB 2 2 n 344928000000 f rfl (by decide) (by omega) (fun j p q => Nat.le_trans (h2 j (by omega) q) (by decide)) (Or.inr (by decide))
      refine ⟨f', unf f' (by rw [show 0 + 1 = 1 from rfl, e1]; exact g1), fun j hj => g2 j (by omega), fun j p q r => ?_, g4⟩
      by_cases e : j = 1
      · rw [e] at r; exact absurd e0 r
      · exact g3 j (by omega) q r
    · have hpos : 0 < (R 1 1).toInt := by
        have h6 : (R 1 1).toInt ≠ 0 := fun q => e0 (ti_eq.mpr q)
        omega
      obtain ⟨s1, s2, s3, s4, s5⟩ := tstep (l := 1) (Y := 30000000000) (Yl := 2000000) (by decide) hb1 hpos e1 hb3 (h1 rfl e0) (by decide) (fun j p q => h2 j (by omega) q) (fun _ => by decide)
      obtain ⟨f', g1, g2, g3, g4⟩ := tdloop (F := n + 1) (by omega) hR hB 2 2 n 344928000000 (tid 1 f (R 1) z) rfl (by decide) (by omega) (fun j p q => Nat.le_trans (s4 j (by omega) q) (by decide)) (Or.inr (by decide))
      refine ⟨f', unf f' (by rw [show 0 + 1 = 1 from rfl, e2]; exact g1), fun j hj => by rw [g2 j (by omega), s1 j (by omega)], fun j p q r => ?_, fun X hX => ?_⟩
      · by_cases e : j = 1
        · subst e; rw [g2 1 (by omega)]; exact ⟨s2, s3⟩
        · exact g3 j (by omega) q r
      · refine sp_eq (sp_sub (g4 X hX) (sp_mul z.toInt (hX 1 (by decide) (by decide)))) (zc_ext fun i hi => ?_)
        rw [s5]
        simp only [zc_sub, zc_mul]
        omega
  · obtain ⟨f', g1, g2⟩ := tdloop (F := F) (by omega) hR hB (4 - (a + 1)) (a + 1) F 30000000000 f (by omega) (by omega) (by omega) (fun j p q => h2 j (by omega) q) (by
      rcases (show a = 1 ∨ a = 2 ∨ a = 3 by omega) with rfl | rfl | rfl
      · exact Or.inr (by decide)
      · exact Or.inr (by decide)
      · exact Or.inl rfl)
    exact ⟨f', unf f' g1, g2⟩
