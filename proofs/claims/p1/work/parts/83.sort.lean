/-! Layer B: sort -/
def zeq (R R' : Nat → Nat → Int64) : Prop := ∀ x, z4 (R' x) = z4 (R x)
/-- what changes of places keep -/
def Kp (m : Nat) (P : (Nat → Nat → Int64) → Prop) : Prop := (∀ R i, i + 1 < m → P R → P (sw R i)) ∧ ∀ R R', zeq R R' → P R → P R'
theorem sq_at {F k : Nat} {R : Nat → Nat → Int64} {W : Int} (hF : 5 ≤ F) (hk : k < 4) (hW : W ≤ 1000000000000) (h : zsq (z4 (R k)) ≤ W) : ∃ s, B_squareOf F R (nI k) = some s ∧ s.toInt = zsq (z4 (R k)) := by
  have hv : vp_in (nI k) 4 := vp_in_nI hk (by decide)
  have n := zsq_nonneg (z4 (R k))
  refine ⟨dot4 (R k) (R k), ?_, dot4_toInt (inR_of (show (zsq (z4 (R k))).natAbs < _ by omega))⟩
  unfold B_squareOf
  rw [gd_t hv, gd_t hv, nI_clamp (by omega), V_product_eq hF]
  rfl
theorem sort13 {F m e : Nat} {W : Int} (hF : 5 ≤ F) (hm : m ≤ 4) (he : e < m) (hW : W ≤ 1000000000000) : ∀ (d n k : Nat) (R : Nat → Nat → Int64) (T : Nat → Int64), k + d = e → d < n → (∀ x, x < m → zsq (z4 (R x)) ≤ W) → (∀ x, x ≤ k → zsq (z4 (R x)) ≤ zsq (z4 (R k))) → ∃ R' T', lB_sort_13 F (nI e) n (nI k) R T = some (R', T') ∧ (∀ P, Kp m P → P R → P R') ∧ (∀ x, x ≤ e → zsq (z4 (R' x)) ≤ zsq (z4 (R' e))) ∧ (∀ x, e < x → R' x = R x) ∧ ∀ B : Int, (∀ x, x ≤ e → zsq (z4 (R x)) ≤ B) → ∀ x, x ≤ e → zsq (z4 (R' x)) ≤ B := by
  intro d
  induction d with
  | zero =>
    intro n k R T h1 h2 hR hM
    obtain ⟨n, rfl⟩ : ∃ q, n = q + 1 := ⟨n - 1, by omega⟩
    have ek : k = e := by omega
    subst ek
    exact ⟨R, T, by rw [lB_sort_13, if_pos (nI_le (Nat.le_refl _) (by omega))], fun P _ h => h, hM, fun _ _ => rfl, fun B h => h⟩
  | succ d ih =>
    intro n k R T h1 h2 hR hM
    obtain ⟨n, rfl⟩ : ∃ q, n = q + 1 := ⟨n - 1, by omega⟩
    obtain ⟨s1, a1, a2⟩ := sq_at (F := F) (k := k + 1) hF (by omega) hW (hR (k + 1) (by omega))
    obtain ⟨s0, b1, b2⟩ := sq_at (F := F) (k := k) hF (by omega) hW (hR k (by omega))
    rw [lB_sort_13, if_neg (nI_ge (show k < e by omega) (by omega)), nI_1, a1, Option.bind_some, b1, Option.bind_some]
    by_cases c : s0 ≤ s1
    · rw [if_pos c]
      rw [ti_le, a2, b2] at c
      refine ih n (k + 1) R T (by omega) (by omega) hR (fun x hx => ?_)
      by_cases ex : x = k + 1
      · rw [ex]; exact Int.le_refl _
      · exact Int.le_trans (hM x (by omega)) c
    · rw [if_neg c, gd_t (vp_in_nI (by omega) (by decide)), V_copy_eq, Option.bind_some, gd_t (vp_in_nI (by omega) (by decide)), gd_t (vp_in_nI (by omega) (by decide)), nI_clamp (by omega), nI_clamp (by omega), gd_t (show ¬ k + 1 = k by omega), V_copy_eq, Option.bind_some, gd_t (vp_in_nI (by omega) (by decide)), V_copy_eq, Option.bind_some]
      rw [ti_le, a2, b2] at c
      obtain ⟨R1, hR1⟩ : ∃ R1, R1 = va_up (va_up R k (va_cpy (R (k + 1)) (R k) 0 0 4)) (k + 1) (va_cpy (va_cpy (R k) T 0 0 4) (va_up R k (va_cpy (R (k + 1)) (R k) 0 0 4) (k + 1)) 0 0 4) := ⟨_, rfl⟩
      rw [← hR1]
      have hz : zeq (sw R k) R1 := fun x => by
        rw [hR1]
        by_cases e1 : x = k + 1
        · rw [e1, va_up_self, z4_cpy, z4_cpy]
          unfold sw
          rw [if_neg (by omega), if_pos rfl]
        · rw [va_up_ne _ _ e1]
          by_cases e2 : x = k
          · rw [e2, va_up_self, z4_cpy]
            unfold sw
            rw [if_pos rfl]
          · rw [va_up_ne _ _ e2]
            unfold sw
            rw [if_neg e2, if_neg e1]
      have z1 : z4 (R1 (k + 1)) = z4 (R k) := by rw [hz, show sw R k (k + 1) = R k by unfold sw; rw [if_neg (by omega), if_pos rfl]]
      have z0' : z4 (R1 k) = z4 (R (k + 1)) := by rw [hz, show sw R k k = R (k + 1) by unfold sw; rw [if_pos rfl]]
      have zx : ∀ x, x ≠ k → x ≠ k + 1 → R1 x = R x := fun x p q => by rw [hR1, va_up_ne _ _ q, va_up_ne _ _ p]
      have hb : ∀ (B : Int) (q : Nat), k + 1 ≤ q → (∀ x, x ≤ q → zsq (z4 (R x)) ≤ B) → ∀ x, x ≤ q → zsq (z4 (R1 x)) ≤ B := fun B q hq h x hx => by
        by_cases e1 : x = k + 1
        · rw [e1, z1]; exact h k (by omega)
        · by_cases e2 : x = k
          · rw [e2, z0']; exact h (k + 1) hq
          · rw [zx x e2 e1]; exact h x hx
      obtain ⟨R', T', g1, g2, g3, g4, g5⟩ := ih n (k + 1) R1 (va_cpy (R k) T 0 0 4) (by omega) (by omega) (fun x hx => hb W (m - 1) (by omega) (fun y hy => hR y (by omega)) x (by omega)) (fun x hx => by
        rw [z1]
        exact hb (zsq (z4 (R k))) (k + 1) (Nat.le_refl _) (fun y hy => by
          by_cases ey : y = k + 1
          · rw [ey]; omega
          · exact hM y (by omega)) x hx)
      refine ⟨R', T', g1, fun P hP h => g2 P hP (hP.2 _ _ hz (hP.1 R k (by omega) h)), g3, fun x hx => by rw [g4 x hx, zx x (by omega) (by omega)], fun B h => g5 B (hb B e (by omega) h)⟩
