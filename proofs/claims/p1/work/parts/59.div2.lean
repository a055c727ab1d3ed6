/-! Layer B: divide's loop, and its sign -/
theorem dloop {A : List Z4} {R0 Rb : Nat → Nat → Int64} {F nr i a Ψ : Nat} {c : Nat → Nat} {piv : Nat → Int32} (hF : 10 ≤ F) (hC : Cx A R0 nr c) (ha : a < 4) (hi : i < nr) (hca : c i = a) (hΨ : Ψ ≤ 104976 * (detf (hat R0)).natAbs) (hRb : ∀ m, a < m → m < 4 → Rb m = R0 m) :
    ∀ (m n : Nat) (row u w : Nat → Int64), (w a).toInt.natAbs ≤ (u a).toInt.natAbs → (u a).toInt.natAbs * (w a).toInt.natAbs < 2 ^ m → m + 1 ≤ n → Rep nr c row piv (va_up Rb a u) → DI R0 a Ψ u w → Tdd R0 a u → Tdd R0 a w → u a ≠ 0 →
    ∃ row' u' w', lM_divide_7 F (nI nr) piv (nI i) (nI a) n row w = some (row', w') ∧ Rep nr c row' piv (va_up Rb a u') ∧ DI R0 a Ψ u' w' ∧ Tdd R0 a u' ∧ Tdd R0 a w' ∧ u' a ≠ 0 ∧ w' a = 0 ∧ ∀ X, (∀ m, a < m → m < 4 → sp X (z4 (R0 m))) → ∀ v, sp (z4 u' :: z4 w' :: X) v ↔ sp (z4 u :: z4 w :: X) v := by
  have hv : vp_in (nI a) 4 := vp_in_nI ha (by decide)
  intro m
  induction m with
  | zero =>
    intro n row u w h1 h2 h3 hR hI t1 t2 hu
    obtain ⟨n, rfl⟩ : ∃ q, n = q + 1 := ⟨n - 1, by omega⟩
    have h0 : w a = 0 := ti_eq.mpr (by
      rw [show (0 : Int64).toInt = 0 from rfl]
      have h6 : (u a).toInt.natAbs * (w a).toInt.natAbs = 0 := by omega
      rcases Nat.mul_eq_zero.mp h6 with h7 | h7 <;> omega)
    exact ⟨row, u, w, by rw [lM_divide_7, gd_t hv, nI_clamp (by omega), if_pos h0], hR, hI, t1, t2, hu, h0, fun X _ v => Iff.rfl⟩
  | succ m ih =>
    intro n row u w h1 h2 h3 hR hI t1 t2 hu
    obtain ⟨n, rfl⟩ : ∃ q, n = q + 1 := ⟨n - 1, by omega⟩
    by_cases h0 : w a = 0
    · exact ⟨row, u, w, by rw [lM_divide_7, gd_t hv, nI_clamp (by omega), if_pos h0], hR, hI, t1, t2, hu, h0, fun X _ v => Iff.rfl⟩
    · have hb : 0 < (w a).toInt.natAbs := Nat.pos_of_ne_zero fun e => h0 (ti_eq.mpr (by rw [show (0 : Int64).toInt = 0 from rfl]; omega))
      obtain ⟨row1, u1, w1, g1, g2, g3, g4, g5, g6, g7, g8⟩ := dstep (n := n) hF hC ha hi hca hΨ hRb hR hI h0
      have hlt := Nat.mod_lt (u a).toInt.natAbs hb
      have hhalf : 2 * ((w a).toInt.natAbs * ((u a).toInt.natAbs % (w a).toInt.natAbs)) ≤ (u a).toInt.natAbs * (w a).toInt.natAbs := by
        have h6 := Nat.div_add_mod (u a).toInt.natAbs (w a).toInt.natAbs
        have h7 : 1 ≤ (u a).toInt.natAbs / (w a).toInt.natAbs := (Nat.one_le_div_iff hb).mpr h1
        have h8 : (w a).toInt.natAbs * 1 ≤ (w a).toInt.natAbs * ((u a).toInt.natAbs / (w a).toInt.natAbs) := Nat.mul_le_mul_left _ h7
        have h9 : 2 * ((u a).toInt.natAbs % (w a).toInt.natAbs) ≤ (u a).toInt.natAbs := by omega
        have h10 := Nat.mul_le_mul_left (w a).toInt.natAbs h9
        rw [Nat.mul_comm (u a).toInt.natAbs, ← Nat.mul_assoc, Nat.mul_comm 2, Nat.mul_assoc]
        exact h10
      obtain ⟨row', u', w', k1, k2, k3, k4, k5, k6, k7, k8⟩ := ih n row1 u1 w1 (by rw [g6, g7]; omega) (by
        rw [g6, g7]
        have : 2 ^ (m + 1) = 2 * 2 ^ m := by rw [Nat.pow_succ, Nat.mul_comm]
        omega) (by omega) g2 g3 g4 g5 (fun e => h0 (ti_eq.mpr (by rw [← g6, e])))
      exact ⟨row', u', w', by rw [g1, k1], k2, k3, k4, k5, k6, k7, fun X hX v => (k8 X hX v).trans (g8 X hX v)⟩
set_option maxHeartbeats 4000000 in
/-- divide: what is left in fresh is 0 on the axis, the row keeps a pivot above 0 -/
theorem M_divide_eq {A : List Z4} {R0 Rb : Nat → Nat → Int64} {F nr i a Ψ : Nat} {c : Nat → Nat} {row u w : Nat → Int64} {piv : Nat → Int32} (hF : 200 ≤ F) (hC : Cx A R0 nr c) (ha : a < 4) (hi : i < nr) (hca : c i = a) (hΨ : Ψ ≤ 104976 * (detf (hat R0)).natAbs) (hRb : ∀ m, a < m → m < 4 → Rb m = R0 m) (hR : Rep nr c row piv (va_up Rb a u)) (hI : DI R0 a Ψ u w) (h0 : w a ≠ 0) :
    ∃ row' u' w', M_divide F (nI nr) row piv w (nI i) = some (row', w') ∧ Rep nr c row' piv (va_up Rb a u') ∧ zbe a u' ∧ zbe (a + 1) w' ∧ rle 157464 u' ∧ rle 157464 w' ∧ 0 < (u' a).toInt ∧ (u' a).toInt ≤ 9 * (R0 a a).toInt ∧ Tdd R0 a w' ∧ (∀ j, j < 4 → R0 j j = 0 → (DD R0 j (z4 w')).natAbs ≤ Ψ) ∧ ∀ X, (∀ m, a < m → m < 4 → sp X (z4 (R0 m))) → ∀ v, sp (z4 u' :: z4 w' :: X) v ↔ sp (z4 u :: z4 w :: X) v := by
  have hn4 : nr ≤ 4 := hR.1
  have hi4 : i < 4 := by omega
  have hpiv : piv i = nI a := by rw [(hR.2.1 i hi).2.1, hca]
  obtain ⟨n, hn⟩ : ∃ n, F = n + 1 := ⟨F - 1, by omega⟩
  obtain ⟨row1, u1, w1, g1, g2, g3, g4, g5, g6, g7, g8⟩ := dstep (n := n) (F := F) (by omega) hC ha hi hca hΨ hRb hR hI h0
  have hb : 0 < (w a).toInt.natAbs := Nat.pos_of_ne_zero fun e => h0 (ti_eq.mpr (by rw [show (0 : Int64).toInt = 0 from rfl]; omega))
  have hlt := Nat.mod_lt (u a).toInt.natAbs hb
  have hwa := hI.2.2.2.1 a ha
  obtain ⟨row2, u2, w2, k1, k2, k3, k4, k5, k6, k7, k8⟩ := dloop (F := F) (by omega) hC ha hi hca hΨ hRb 40 n row1 u1 w1 (by rw [g6, g7]; omega) (by
    rw [g6, g7]
    have h5 : (w a).toInt.natAbs * ((u a).toInt.natAbs % (w a).toInt.natAbs) ≤ 157464 * 157464 := Nat.mul_le_mul (by omega) (by omega)
    have h6 : 157464 * 157464 < 2 ^ 40 := by decide
    omega) (by omega) g2 g3 g4 g5 (fun e => h0 (ti_eq.mpr (by rw [← g6, e])))
  have hloop : lM_divide_7 F (nI nr) piv (nI i) (nI a) F row w = some (row2, w2) := by
    conv => lhs; rw [hn]
    have h1 := g1
    have h2 := k1
    rw [hn] at h1 h2
    rw [h1, h2]
  obtain ⟨y1, y2, y3, y4, y5, y6, y7, y8⟩ := k3
  have hw2 : zbe (a + 1) w2 := fun j hj => by
    by_cases e : j = a
    · rw [e]; exact k7
    · exact y2 j (by omega)
  have hrow : row2 (4 * i + a) = u2 a := by
    have := (k2.2.1 i hi).2.2 a ha
    rw [hca, va_up_self] at this
    exact this
  have hD2 : ∀ j, j < 4 → R0 j j = 0 → (DD R0 j (z4 w2)).natAbs ≤ Ψ := fun j hj e => (y6 j hj e).2.2
  have hspan : ∀ X, (∀ m, a < m → m < 4 → sp X (z4 (R0 m))) → ∀ v, sp (z4 u2 :: z4 w2 :: X) v ↔ sp (z4 u :: z4 w :: X) v := fun X hX v => (k8 X hX v).trans (g8 X hX v)
  unfold M_divide
  rw [gd_t (vp_in_nI (by omega) (by decide)), nI_clamp (by omega), hpiv, hloop, Option.bind_some, ix4 hi4 ha, gd_t (vp_in_nI (by omega) (by decide)), nI_clamp (by omega)]
  by_cases hp : (0 : Int64) ≤ u2 a
  · have hp' : (0 : Int64) ≤ (row2, w2).1 (4 * i + a) := by show (0 : Int64) ≤ row2 (4 * i + a); rw [hrow]; exact hp
    rw [if_pos hp']
    have h5 := ti_le.mp hp
    rw [show (0 : Int64).toInt = 0 from rfl] at h5
    have h6 : (u2 a).toInt ≠ 0 := fun e => k6 (ti_eq.mpr e)
    have h7 := (hC.1 a ha).2.1
    exact ⟨row2, u2, w2, rfl, k2, y1, hw2, y3, y4, by omega, by omega, k5, hD2, hspan⟩
  · have hp' : ¬ (0 : Int64) ≤ (row2, w2).1 (4 * i + a) := by show ¬ (0 : Int64) ≤ row2 (4 * i + a); rw [hrow]; exact hp
    rw [if_neg hp']
    have hneg : (u2 a).toInt < 0 := by
      have := mt ti_le.mpr hp
      rw [show (0 : Int64).toInt = 0 from rfl] at this
      omega
    have hC' := hC
    obtain ⟨hT, hs, h9, hB, hh, hz⟩ := hC
    have hpa : R0 a a ≠ 0 := by have := hh i hi; rw [hca] at this; exact this
    obtain ⟨row3, f3, r3, R3, e3⟩ := M_swap_eq (F := F) (f := w2) (by omega) k2 hi
    rw [hca, up_up] at R3
    rw [hca, va_up_self] at e3
    have hng : ∀ j, j < 4 → (ng 0 f3 j).toInt = -(u2 j).toInt := fun j hj => by
      have e : ng 0 f3 j = -(f3 j) := if_pos ⟨Nat.zero_le _, hj⟩
      rw [e, e3 j hj, ti_neg (inR_of (by have := y3 j hj; omega))]
    have hdiag : ∀ x m, a < m → m < 4 → va_up Rb a x m = R0 m := fun x m h1 h2 => by rw [va_up_ne _ _ (by omega), hRb m h1 h2]
    obtain ⟨f4, r4, t1, t2, t3⟩ := M_tidy_eq (F := F) (a := a) (by omega) ha (R := va_up Rb a w2) ⟨R3, fun m hm l => by
      rw [hdiag _ (c m) l (R3.2.1 m hm).1]; exact hh m hm, fun k l1 l2 hno => by
      rw [hdiag _ k l1 l2]; exact hz k l2 hno⟩ (fun m h1 h2 => by
      rw [hdiag _ m h1 h2]
      exact ⟨(hT m h2).1, (hT m h2).2.1, hB m h2⟩) (f := ng 0 f3) (fun ea _ => by
      rw [hng 1 (by decide)]
      have := y3 1 (by decide)
      omega) (fun j p q => by
      rw [hng j q]
      have := y3 j q
      omega)
    obtain ⟨row5, f5, r5, R5, e5⟩ := M_swap_eq (F := F) (f := f4) (by omega) R3 hi
    rw [hca, up_up] at R5
    rw [hca, va_up_self] at e5
    have hz3 : z4 (ng 0 f3) = zmul (-1) (z4 u2) := zext (by show (ng 0 f3 0).toInt = -1 * (u2 0).toInt; rw [hng 0 (by decide)]; omega) (by show (ng 0 f3 1).toInt = -1 * (u2 1).toInt; rw [hng 1 (by decide)]; omega) (by show (ng 0 f3 2).toInt = -1 * (u2 2).toInt; rw [hng 2 (by decide)]; omega) (by show (ng 0 f3 3).toInt = -1 * (u2 3).toInt; rw [hng 3 (by decide)]; omega)
    have hz5 : z4 f5 = z4 w2 := z4_cong e5
    have h4a : (f4 a).toInt = -(u2 a).toInt := by rw [t1 a (by omega)]; exact hng a ha
    have z4f : zbe a f4 := fun j hj => by
      rw [t1 j (by omega)]
      exact ti_eq.mpr (by rw [hng j (by omega), y1 j hj]; rfl)
    have rows : ∀ (X : List Z4), (∀ m, a < m → m < 4 → sp X (z4 (R0 m))) → ∀ m, a < m → m < 4 → sp X (z4 (va_up Rb a w2 m)) := fun X hX m p q => by rw [hdiag _ m p q]; exact hX m p q
    have td4 : Tdd R0 a f4 := fun l p q r => by
      have := t2 l (by omega) q (by rw [hdiag _ l p q]; exact r)
      rw [hdiag _ l p q] at this
      exact this
    have D4 : ∀ j, j < 4 → R0 j j = 0 → (DD R0 j (z4 f4)).natAbs ≤ Ψ := fun j hj e => by
      have h1 := detf_van hT hj e (t3 (rl R0) (rows _ (fun m _ q => sp_mem (rl_mem.mpr ⟨m, q, rfl⟩))))
      have h2 := DD_add (R := R0) hj (z4 f4) (z4 (ng 0 f3))
      have h3 : DD R0 j (zsub (z4 f4) (z4 (ng 0 f3))) = 0 := h1
      have h4 := DD_neg (R := R0) hj (z4 u2)
      rw [hz3] at h2 h3
      have h5 := (y6 j hj e).2.1
      omega
    have rl4 : rle 157464 f4 := tdd_le hC' ha hpa hΨ z4f (Or.inr (by have := y3 a ha; omega)) (by omega) td4 D4
    refine ⟨row5, f4, f5, ?_, R5, z4f, fun j hj => ?_, rl4, fun j hj => ?_, by omega, by have := (hT a ha).2.1; omega, fun l p q r => ?_, fun j hj e => ?_, fun X hX v => ?_⟩
    · dsimp only
      rw [r3, Option.bind_some]
      dsimp only
      rw [show (0 : Int32) = nI 0 from rfl, div124_loop 4 F 0 f3 rfl (by omega), Option.bind_some, r4, Option.bind_some, r5, Option.bind_some]
    · rw [e5 j (by omega)]; exact hw2 j hj
    · rw [e5 j hj]; exact y4 j hj
    · rw [e5 l q]; exact k5 l p q r
    · rw [hz5]; exact hD2 j hj e
    · refine Iff.trans ?_ (hspan X hX v)
      have x1 := t3 X (rows X hX)
      rw [hz3] at x1
      rw [hz5]
      refine sp_same (fun g hg => ?_) (fun g hg => ?_) v
      · rcases List.mem_cons.mp hg with rfl | hg
        · refine sp_eq (sp_add (sp_tail (sp_tail x1)) (sp_mul (-1) (sp_head (g := z4 u2) (r := z4 w2 :: X)))) (zc_ext fun i hi => ?_)
          simp only [zc_add, zc_sub]; omega
        · exact sp_tail (sp_mem hg)
      · rcases List.mem_cons.mp hg with rfl | hg
        · refine sp_eq (sp_mul (-1) (sp_sub (sp_head (g := z4 f4) (r := z4 w2 :: X)) (sp_tail (sp_tail x1)))) (zc_ext fun i hi => ?_)
          simp only [zc_mul, zc_sub]; omega
        · exact sp_tail (sp_mem hg)
