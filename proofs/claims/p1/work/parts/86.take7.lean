/-! Layer B: take's first loop: the rows of the staircase that aren't 0 -/
/-- the first m rows of R are the rows of E before k that aren't 0 -/
def Tk (E : Nat → Nat → Int64) (k m : Nat) (R : Nat → Nat → Int64) : Prop := (∀ i, i < m → ∃ q, q < k ∧ E q q ≠ 0 ∧ z4 (R i) = z4 (E q)) ∧ ∀ q, q < k → E q q ≠ 0 → ∃ i, i < m ∧ z4 (R i) = z4 (E q)
def hsum (E : Nat → Nat → Int64) : Nat → Nat
  | 0 => 0
  | k + 1 => hsum E k + hN E k
theorem hN_le (E : Nat → Nat → Int64) (k : Nat) : hN E k ≤ 1 := by
  unfold hN
  split <;> omega
theorem hsum_le (E : Nat → Nat → Int64) : ∀ k, hsum E k ≤ k
  | 0 => Nat.le_refl _
  | k + 1 => by
    have := hsum_le E k
    have := hN_le E k
    show hsum E k + hN E k ≤ k + 1
    omega
theorem take7 {F : Nat} {E : Nat → Nat → Int64} : ∀ (d n k : Nat) (R : Nat → Nat → Int64), k + d = 4 → d < n → Tk E k (hsum E k) R → ∃ R', lB_take_7 F E n (nI k) R (nI (hsum E k)) = some (R', nI (hsum E 4)) ∧ Tk E 4 (hsum E 4) R' := by
  intro d
  induction d with
  | zero =>
    intro n k R h1 h2 hT
    obtain ⟨n, rfl⟩ : ∃ q, n = q + 1 := ⟨n - 1, by omega⟩
    have e : k = 4 := by omega
    subst e
    exact ⟨R, by rw [lB_take_7, if_pos (show (4 : Int32) ≤ nI 4 by decide)], hT⟩
  | succ d ih =>
    intro n k R h1 h2 hT
    obtain ⟨n, rfl⟩ : ∃ q, n = q + 1 := ⟨n - 1, by omega⟩
    have hk : k < 4 := by omega
    have h4 : ¬ (4 : Int32) ≤ nI k := nI_ge (b := 4) hk (by decide)
    have hle := hsum_le E k
    rw [lB_take_7, if_neg h4, isHeld_at hk, Option.bind_some]
    by_cases e : E k k = 0
    · rw [show hldI E k = 0 from if_pos e, if_pos rfl, nI_1]
      have es : hsum E (k + 1) = hsum E k := by
        show hsum E k + hN E k = _
        rw [show hN E k = 0 from if_pos e, Nat.add_zero]
      rw [← es]
      refine ih n (k + 1) R (by omega) (by omega) ?_
      rw [es]
      refine ⟨fun i hi => ?_, fun q hq hne => ?_⟩
      · obtain ⟨q, a, b, c⟩ := hT.1 i hi
        exact ⟨q, by omega, b, c⟩
      · by_cases eq : q = k
        · rw [eq] at hne; exact absurd e hne
        · exact hT.2 q (by omega) hne
    · have es : hsum E (k + 1) = hsum E k + 1 := by
        show hsum E k + hN E k = _
        rw [show hN E k = 1 from if_neg e]
      rw [show hldI E k = 1 from if_neg e, if_neg (show ¬ (1 : Int32) = 0 by decide)]
      have hvk : vp_in (nI k) 4 := vp_in_nI hk (by decide)
      have hvm : vp_in (nI (hsum E k)) 4 := vp_in_nI (by omega) (by decide)
      have hck : (nI k).toNatClampNeg = k := nI_clamp (by omega)
      have hcm : (nI (hsum E k)).toNatClampNeg = hsum E k := nI_clamp (by omega)
      have hrow : ∀ F' : Nat, E_row F' (nI k) = some () := fun F' => by unfold E_row; rw [gd_t hvk]
      simp only [hrow, Option.bind_some, hck, hcm, V_copy_eq, gd_t hvm, gd_t hvk, nI_1]
      rw [← es]
      refine ih n (k + 1) _ (by omega) (by omega) ?_
      rw [es]
      refine ⟨fun i hi => ?_, fun q hq hne => ?_⟩
      · by_cases ei : i = hsum E k
        · exact ⟨k, by omega, e, by rw [ei, va_up_self, z4_cpy]⟩
        · obtain ⟨q, a, b, c⟩ := hT.1 i (by omega)
          exact ⟨q, by omega, b, by rw [va_up_ne _ _ ei]; exact c⟩
      · by_cases eq : q = k
        · exact ⟨hsum E k, by omega, by rw [va_up_self, z4_cpy, eq]⟩
        · obtain ⟨i, a, b⟩ := hT.2 q (by omega) hne
          exact ⟨i, by omega, by rw [va_up_ne _ _ (by omega)]; exact b⟩
theorem Tk_span {A : List Z4} {E R : Nat → Nat → Int64} (hE : Ech A E) (hT : Tk E 4 (hsum E 4) R) (v : Z4) : sp (usl (hsum E 4) R) v ↔ sp A v := by
  rw [← hE.2.2 v]
  refine sp_same (fun g hg => ?_) (fun g hg => ?_) v
  · obtain ⟨i, hi, rfl⟩ := usl_mem.mp hg
    obtain ⟨q, a, _, c⟩ := hT.1 i hi
    rw [c]; exact sp_mem (rl_mem.mpr ⟨q, a, rfl⟩)
  · obtain ⟨q, hq, rfl⟩ := rl_mem.mp hg
    by_cases e : E q q = 0
    · rw [row_z0 hE.1 hq e]; exact sp_zero _
    · obtain ⟨i, a, b⟩ := hT.2 q hq e
      rw [← b]; exact sp_mem (usl_mem.mpr ⟨i, a, rfl⟩)
