/-! Layer B: leastMultiplier's loop -/
theorem isHeld_at {F l : Nat} (hl : l < 4) (R : Nat → Nat → Int64) : E_isHeld F R (nI l) = some (hldI R l) := by
  have hv : vp_in (nI l) 4 := vp_in_nI hl (by decide)
  have hc : (nI l).toNatClampNeg = l := nI_clamp (by omega)
  unfold E_isHeld hldI
  rw [gd_t hv, gd_t hv, hc]
  by_cases h : R l l = 0
  · rw [if_pos h, if_pos h]
  · rw [if_neg h, if_neg h]
theorem wt_mono {R : Nat → Nat → Int64} (d : Nat) : wt R d ≤ wt R (d + 1) := by
  match d with
  | 0 => exact Nat.le_refl _
  | d + 1 => exact Nat.le_mul_of_pos_left _ (by omega)
theorem tp_mono {R : Nat → Nat → Int64} (hT : Tri R) {d : Nat} : tp R d ≤ tp R (d + 1) := Nat.le_mul_of_pos_left _ (PN_pos hT (by omega))
/-- the answer: what the loop hands over, by whichever way it ends -/
def lmOut (o : (Int64 × (Nat → Int64)) ⊕ (Int64 × (Nat → Int64))) : Int64 := match o with
  | .inl a => a.1
  | .inr a => a.1
theorem lm_loop {F : Nat} (hF : 200 ≤ F) {A : List Z4} {R : Nat → Nat → Int64} {y v : Nat → Int64} (hT : Tri R) (hs : ∀ v, sp (rl R) v ↔ sp A v) (hR : ∀ k, k < 4 → rle 157464 (R k)) :
    ∀ (d k n W : Nat) (N : Int64) (t : Nat → Int64), k + d = 4 → d < n → rle W t → W * wt R d < 9223372036854775808 → N.toInt.natAbs * tp R d ≤ 157464 → Sg A (z4 v) k N.toInt (z4 t) →
    ∃ o, lE_leastMultiplier_13 F R y n N (nI k) t = some o ∧ OrdIs A (z4 v) (lmOut o).toInt := by
  intro d
  induction d with
  | zero =>
    intro k n W N t h1 h2 hW hW2 hN hS
    obtain ⟨n, rfl⟩ : ∃ q, n = q + 1 := ⟨n - 1, by omega⟩
    have e : k = 4 := by omega
    subst e
    rw [lE_leastMultiplier_13, if_pos (show (4 : Int32) ≤ nI 4 by decide)]
    exact ⟨_, rfl, hS.done⟩
  | succ d ih =>
    intro k n W N t h1 h2 hW hW2 hN hS
    obtain ⟨n, rfl⟩ : ∃ q, n = q + 1 := ⟨n - 1, by omega⟩
    have hk : k < 4 := by omega
    have h4 : ¬ (4 : Int32) ≤ nI k := nI_ge (b := 4) hk (by decide)
    have hv : vp_in (nI k) 4 := vp_in_nI hk (by decide)
    have hc : (nI k).toNatClampNeg = k := nI_clamp (by omega)
    rw [lE_leastMultiplier_13, if_neg h4, gd_t hv, hc]
    by_cases h0 : t k = 0
    · rw [if_pos h0, nI_1]
      exact ih (k + 1) n W N t (by omega) (by omega) hW (Nat.lt_of_le_of_lt (Nat.mul_le_mul_left W (wt_mono d)) hW2) (Nat.le_trans (Nat.mul_le_mul_left _ (tp_mono hT)) hN) (hS.skip (by rw [zc_z4 _ hk, h0]; rfl))
    · rw [if_neg h0, isHeld_at hk, Option.bind_some]
      by_cases hp : R k k = 0
      · rw [show hldI R k = 0 from if_pos hp, if_pos rfl]
        refine ⟨_, rfl, ?_⟩
        exact hS.fail (TriZ_of hT) hs hk (by rw [zc_z4 _ hk]; exact fun e => h0 (ti_eq.mpr e)) (by show zc (z4 (R k)) k = 0; rw [zc_z4 _ hk, hp]; rfl)
      · rw [show hldI R k = 1 from if_neg hp, if_neg (by decide), gd_t hv, gd_t hv, gd_t hv]
        have hpos : 0 < (R k k).toInt := by
          have h5 := (hT k hk).2.1
          have h6 : (R k k).toInt ≠ 0 := fun e => hp (ti_eq.mpr e)
          omega
        have hple := hR k hk k hk
        have hW0 : W < 9223372036854775808 := Nat.lt_of_le_of_lt (Nat.le_mul_of_pos_right W (by
          have : ∀ q, 1 ≤ wt R q := by
            intro q
            induction q with
            | zero => exact Nat.le_refl _
            | succ q ihq => exact Nat.le_trans ihq (wt_mono q)
          exact this _)) hW2
        obtain ⟨g, f, s, g1, g2, g3, g4, g5, g6, g7, g8⟩ := lm_step hF hpos (by omega) (hW k hk) (Or.inr hW0)
        rw [g1, Option.bind_some, gd_t g2, V_addMultipleA_eq (by omega), Option.bind_some, gd_t hv, gd_t hv, gd_t hp, V_addMultiple_eq (by omega), Option.bind_some, nI_1]
        have hPN : PN R k = (R k k).toInt.natAbs := by unfold PN pv; rw [if_neg hp]
        have hNf : (N * (R k k / g)).toInt = N.toInt * f := by
          rw [ti_mul, g3]
          rw [g3]
          refine inR_of ?_
          rw [Int.natAbs_mul]
          have a1 : N.toInt.natAbs * f.natAbs ≤ N.toInt.natAbs * PN R k := Nat.mul_le_mul_left _ (by rw [hPN]; omega)
          have a2 : tp R (d + 1) = PN R k * tp R d := by
            show PN R (3 - d) * tp R d = _
            rw [show 3 - d = k by omega]
          rw [a2] at hN
          have a3 : PN R k ≤ PN R k * tp R d := Nat.le_mul_of_pos_right _ (by
            have : ∀ q, q ≤ 4 → 1 ≤ tp R q := by
              intro q
              induction q with
              | zero => intro _; exact Nat.le_refl _
              | succ q ihq => intro hq; exact Nat.le_trans (ihq (by omega)) (tp_mono hT)
            exact this d (by omega))
          have a4 := Nat.mul_le_mul_left N.toInt.natAbs a3
          omega
        have hN' : (N * (R k k / g)).toInt.natAbs * tp R d ≤ 157464 := by
          rw [hNf, Int.natAbs_mul]
          have a2 : tp R (d + 1) = PN R k * tp R d := by
            show PN R (3 - d) * tp R d = _
            rw [show 3 - d = k by omega]
          rw [a2] at hN
          have a1 : f.natAbs * tp R d ≤ PN R k * tp R d := Nat.mul_le_mul_right _ (by rw [hPN]; omega)
          have a3 := Nat.mul_le_mul_left N.toInt.natAbs a1
          rw [Nat.mul_assoc]
          omega
        have hS' := hS.step (r := fun k => z4 (R k)) (f := f) (t := s) (TriZ_of hT) hs hk g4 (by
          show f * zc (z4 t) k = s * zc (z4 (R k)) k
          rw [zc_z4 _ hk, zc_z4 _ hk]; exact g6) (fun c hc9 => by
          refine g8 c ?_
          have hc9 : zc (z4 (R k)) k ∣ c * zc (z4 t) k := hc9
          rw [zc_z4 _ hk, zc_z4 _ hk] at hc9
          exact hc9)
        rw [← hNf] at hS'
        by_cases hk3 : k = 3
        · -- the last axis: what is left is not looked at
          subst hk3
          have hd : d = 0 := by omega
          subst hd
          obtain ⟨n, rfl⟩ : ∃ q, n = q + 1 := ⟨n - 1, by omega⟩
          rw [lE_leastMultiplier_13, if_pos (show (4 : Int32) ≤ nI (3 + 1) by decide)]
          exact ⟨_, rfl, hS'.done⟩
        · obtain ⟨e, rfl⟩ : ∃ e, d = e + 1 := ⟨d - 1, by omega⟩
          have hwt : wt R (e + 1 + 1) = (PN R k + 157464) * wt R (e + 1) := by
            show (PN R (2 - e) + 157464) * wt R (e + 1) = _
            rw [show 2 - e = k by omega]
          rw [hwt, ← Nat.mul_assoc] at hW2
          have hWn : W * (PN R k + 157464) < 9223372036854775808 := Nat.lt_of_le_of_lt (Nat.le_mul_of_pos_right _ (by
            have : ∀ q, 1 ≤ wt R q := by
              intro q
              induction q with
              | zero => exact Nat.le_refl _
              | succ q ihq => exact Nat.le_trans ihq (wt_mono q)
            exact this _)) hW2
          have hu : ((R k k / g) - (1 : Int64)).toInt = f - 1 := by
            rw [ti_sub, g3, show (1 : Int64).toInt = 1 from rfl]
            rw [g3, show (1 : Int64).toInt = 1 from rfl]
            exact inR_of (by omega)
          have hexp : W * (PN R k + 157464) = W * PN R k + W * 157464 := Nat.mul_add _ _ _
          have hfx : (f * (t k).toInt).natAbs ≤ W * PN R k := by
            rw [Int.natAbs_mul, Nat.mul_comm]
            exact Nat.mul_le_mul (hW k hk) (by rw [hPN]; omega)
          have hrk : (add4 t t ((R k k / g) - 1) k).toInt = f * (t k).toInt := by
            have e1 : add4 t t ((R k k / g) - 1) k = t k + ((R k k / g) - 1) * t k := if_pos hk
            rw [e1]
            exact ti_fm1 hu (inR_of (by omega))
          have hq : (add4 t t ((R k k / g) - 1) k / R k k).toInt = s := by
            have e2 : (f * (t k).toInt).tdiv (R k k).toInt = s := by
              rw [g6, Int.mul_tdiv_cancel _ (Int.ne_of_gt hpos)]
            rw [ti_div, hrk, e2]
            rw [hrk, e2]
            exact inR_of (by omega)
          have hnq : (-(add4 t t ((R k k / g) - 1) k / R k k)).toInt = -s := by
            rw [ti_neg, hq]
            rw [hq]
            exact inR_of (by omega)
          have hval : ∀ j, j < 4 → (add4 (add4 t t ((R k k / g) - 1)) (R k) (-(add4 t t ((R k k / g) - 1) k / R k k)) j).toInt = f * (t j).toInt - s * (R k j).toInt ∧ (f * (t j).toInt - s * (R k j).toInt).natAbs ≤ W * (PN R k + 157464) := by
            intro j hj
            have b1 : (f * (t j).toInt).natAbs ≤ W * PN R k := by
              rw [Int.natAbs_mul, Nat.mul_comm]
              exact Nat.mul_le_mul (hW j hj) (by rw [hPN]; omega)
            have b2 : (s * (R k j).toInt).natAbs ≤ W * 157464 := by
              rw [Int.natAbs_mul]
              exact Nat.mul_le_mul g7 (hR k hk j hj)
            have b3 := Int.natAbs_sub_le (f * (t j).toInt) (s * (R k j).toInt)
            have b4 : (f * (t j).toInt - s * (R k j).toInt).natAbs ≤ W * (PN R k + 157464) := by omega
            refine ⟨?_, b4⟩
            have e1 : add4 (add4 t t ((R k k / g) - 1)) (R k) (-(add4 t t ((R k k / g) - 1) k / R k k)) j = add4 t t ((R k k / g) - 1) j + -(add4 t t ((R k k / g) - 1) k / R k k) * R k j := if_pos hj
            have e2 : add4 t t ((R k k / g) - 1) j = t j + ((R k k / g) - 1) * t j := if_pos hj
            rw [e1, e2]
            exact ti_fm2 hu hnq (inR_of (by omega))
          have hz : z4 (add4 (add4 t t ((R k k / g) - 1)) (R k) (-(add4 t t ((R k k / g) - 1) k / R k k))) = zsub (zmul f (z4 t)) (zmul s (z4 (R k))) := zext (hval 0 (by decide)).1 (hval 1 (by decide)).1 (hval 2 (by decide)).1 (hval 3 (by decide)).1
          refine ih (k + 1) n (W * (PN R k + 157464)) _ _ (by omega) (by omega) (fun j hj => ?_) hW2 hN' (by rw [hz]; exact hS')
          rw [(hval j hj).1]
          exact (hval j hj).2
/-- leastMultiplier answers the order of the vector -/
theorem E_least_eq {F : Nat} (hF : 200 ≤ F) {A : List Z4} {R : Nat → Nat → Int64} {t v : Nat → Int64} (h9 : ∀ x ∈ A, le4 9 x) (h : Ech A R) (hv : rle 1000 v) : ∃ (n : Int64) (t' : Nat → Int64), E_leastMultiplier F R t v = some (n, t') ∧ OrdIs A (z4 v) n.toInt := by
  obtain ⟨hT, hRd, hs⟩ := h
  have hb := (piv_bound hT hs h9).1
  have h1 : (1 : Int64).toInt = 1 := rfl
  have hv' : rle 1000 (va_cpy v t 0 0 4) := fun j hj => by
    have e : va_cpy v t 0 0 4 j = v j := by
      rcases (show j = 0 ∨ j = 1 ∨ j = 2 ∨ j = 3 by omega) with rfl | rfl | rfl | rfl <;> rfl
    rw [e]; exact hv j hj
  obtain ⟨o, o1, o2⟩ := lm_loop hF (y := v) (v := v) hT hs (fun k hk => row_le hT hs h9 hk (hRd k hk)) 4 0 F 1000 1 (va_cpy v t 0 0 4) rfl (by omega) hv' (wt_4 hT hb) (by rw [tp_4 hT, h1, show (1 : Int).natAbs = 1 from rfl, Nat.one_mul]; exact hb) (by rw [h1, z4_cpy]; exact Sg.start A (z4 v))
  unfold E_leastMultiplier
  rw [V_copy_eq, Option.bind_some, show (0 : Int32) = nI 0 from rfl, o1, Option.bind_some]
  cases o with
  | inl a => exact ⟨a.1, a.2, rfl, o2⟩
  | inr a => exact ⟨a.1, a.2, rfl, o2⟩
