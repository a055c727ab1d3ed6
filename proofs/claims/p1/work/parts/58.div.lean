/-! Layer B: divide -/
theorem pv2_le {R : Nat → Nat → Int64} (hT : Tri R) {a l : Nat} (ha : a < 4) (hl : l < 4) (h : a ≠ l) : (pv R a).natAbs * (pv R l).natAbs ≤ (detf (hat R)).natAbs := by
  rw [detf_hat hT, Int.natAbs_mul, Int.natAbs_mul, Int.natAbs_mul]
  have a0 := pv_pos hT (k := 0) (by decide)
  have a1 := pv_pos hT (k := 1) (by decide)
  have a2 := pv_pos hT (k := 2) (by decide)
  have a3 := pv_pos hT (k := 3) (by decide)
  have b0 : 1 ≤ (pv R 0).natAbs := by omega
  have b1 : 1 ≤ (pv R 1).natAbs := by omega
  have b2 : 1 ≤ (pv R 2).natAbs := by omega
  have b3 : 1 ≤ (pv R 3).natAbs := by omega
  have key : ∀ x y z w : Nat, 1 ≤ z → 1 ≤ w → x * y ≤ x * y * (z * w) := fun x y z w hz hw => Nat.le_mul_of_pos_right _ (Nat.mul_pos hz hw)
  rcases (show (a = 0 ∧ l = 1) ∨ (a = 0 ∧ l = 2) ∨ (a = 0 ∧ l = 3) ∨ (a = 1 ∧ l = 0) ∨ (a = 1 ∧ l = 2) ∨ (a = 1 ∧ l = 3) ∨ (a = 2 ∧ l = 0) ∨ (a = 2 ∧ l = 1) ∨ (a = 2 ∧ l = 3) ∨ (a = 3 ∧ l = 0) ∨ (a = 3 ∧ l = 1) ∨ (a = 3 ∧ l = 2) by omega) with h | h | h | h | h | h | h | h | h | h | h | h <;> obtain ⟨rfl, rfl⟩ := h
  · have := key (pv R 0).natAbs (pv R 1).natAbs _ _ b2 b3; grind
  · have := key (pv R 0).natAbs (pv R 2).natAbs _ _ b1 b3; grind
  · have := key (pv R 0).natAbs (pv R 3).natAbs _ _ b1 b2; grind
  · have := key (pv R 1).natAbs (pv R 0).natAbs _ _ b2 b3; grind
  · have := key (pv R 1).natAbs (pv R 2).natAbs _ _ b0 b3; grind
  · have := key (pv R 1).natAbs (pv R 3).natAbs _ _ b0 b2; grind
  · have := key (pv R 2).natAbs (pv R 0).natAbs _ _ b1 b3; grind
  · have := key (pv R 2).natAbs (pv R 1).natAbs _ _ b0 b3; grind
  · have := key (pv R 2).natAbs (pv R 3).natAbs _ _ b0 b1; grind
  · have := key (pv R 3).natAbs (pv R 0).natAbs _ _ b1 b2; grind
  · have := key (pv R 3).natAbs (pv R 1).natAbs _ _ b0 b2; grind
  · have := key (pv R 3).natAbs (pv R 2).natAbs _ _ b0 b1; grind
/-- the old staircase R0 of A, while a generator is taken in: rows behind axis a are its own -/
def Cx (A : List Z4) (R0 : Nat → Nat → Int64) (nr : Nat) (c : Nat → Nat) : Prop := Tri R0 ∧ (∀ v, sp (rl R0) v ↔ sp A v) ∧ (∀ g ∈ A, le4 9 g) ∧ (∀ m, m < 4 → rle 157464 (R0 m)) ∧ (∀ i, i < nr → R0 (c i) (c i) ≠ 0) ∧ ∀ k, k < 4 → (∀ i, i < nr → c i ≠ k) → R0 k k = 0
/-- what divide keeps of row (u) and fresh (w) on axis a -/
def DI (R0 : Nat → Nat → Int64) (a Ψ : Nat) (u w : Nat → Int64) : Prop := zbe a u ∧ zbe a w ∧ rle 157464 u ∧ rle 157464 w ∧ (∀ l, a < l → l < 4 → R0 l l ≠ 0 → (u a).toInt.natAbs * (w l).toInt.natAbs ≤ 1417176) ∧ (∀ j, j < 4 → R0 j j = 0 → (u a).toInt.natAbs * (DD R0 j (z4 w)).natAbs + (w a).toInt.natAbs * (DD R0 j (z4 u)).natAbs ≤ Ψ ∧ (DD R0 j (z4 u)).natAbs ≤ Ψ ∧ (DD R0 j (z4 w)).natAbs ≤ Ψ) ∧ (u a).toInt.natAbs ≤ 9 * (R0 a a).toInt.natAbs ∧ (w a).toInt.natAbs ≤ 9 * (R0 a a).toInt.natAbs
/-- less than the pivots behind axis a -/
def Tdd (R0 : Nat → Nat → Int64) (a : Nat) (f : Nat → Int64) : Prop := ∀ l, a < l → l < 4 → R0 l l ≠ 0 → 0 ≤ (f l).toInt ∧ (f l).toInt < (R0 l l).toInt
/-- a tidied vector is small -/
theorem tdd_le {A : List Z4} {R0 : Nat → Nat → Int64} {nr a Ψ : Nat} {c : Nat → Nat} (hC : Cx A R0 nr c) (ha : a < 4) (hpa : R0 a a ≠ 0) (hΨ : Ψ ≤ 104976 * (detf (hat R0)).natAbs) {f : Nat → Int64} (h0 : zbe a f) (h1 : rle 157464 f ∨ (f a).toInt.natAbs ≤ 157464) (h2 : (f a).toInt.natAbs ≤ 9 * (R0 a a).toInt.natAbs) (h3 : Tdd R0 a f) (h4 : ∀ j, j < 4 → R0 j j = 0 → (DD R0 j (z4 f)).natAbs ≤ Ψ) : rle 157464 f := by
  obtain ⟨hT, hs, h9, hB, -, -⟩ := hC
  have hpv : ∀ k, k < 4 → R0 k k ≠ 0 → (R0 k k).toInt.natAbs ≤ (detf (hat R0)).natAbs := fun k hk e => by
    have h := pv_le hT hk
    rw [show pv R0 k = (R0 k k).toInt from if_neg e] at h
    exact h
  intro j hj
  by_cases e1 : j = a
  · subst e1
    rcases h1 with h1 | h1
    · exact h1 j hj
    · exact h1
  · by_cases e2 : j < a
    · rw [h0 j e2]; exact Nat.zero_le _
    · by_cases e3 : R0 j j = 0
      · have h5 := ent2 hT hs h9 (v := z4 f) (a := a) hj e3 (Nat.le_trans (h4 j hj e3) hΨ) (fun i hi q r => ?_) ?_
        · rw [zc_z4 _ hj] at h5; omega
        · rw [zc_z4 _ hi]
          have h6 := hpv i hi r
          by_cases l : i < a
          · rw [h0 i l]; exact Nat.zero_le _
          · have := h3 i (by omega) hi r
            omega
        · intro _
          rw [zc_z4 _ ha]
          have h6 := hpv a ha hpa
          omega
      · have h7 := h3 j (by omega) hj e3
        have h8 := hB j hj j hj
        omega
theorem dsp {u w u' w' : Z4} {q : Int} {X : List Z4} (h1 : sp X (zsub u' w)) (h2 : sp X (zsub w' (zsub u (zmul q w)))) (v : Z4) : sp (u' :: w' :: X) v ↔ sp (u :: w :: X) v := by
  have lift : ∀ (a b x : Z4), sp X x → sp (a :: b :: X) x := fun a b x hx => sp_tail (sp_tail hx)
  refine sp_same (fun g hg => ?_) (fun g hg => ?_) v
  · rcases List.mem_cons.mp hg with rfl | hg
    · refine sp_eq (sp_add (lift u w _ h1) (sp_tail sp_head)) (zc_ext fun i hi => ?_)
      simp only [zc_add, zc_sub]; omega
    · rcases List.mem_cons.mp hg with rfl | hg
      · refine sp_eq (sp_add (lift u w _ h2) (sp_sub sp_head (sp_mul q (sp_tail sp_head)))) (zc_ext fun i hi => ?_)
        simp only [zc_add, zc_sub, zc_mul]; omega
      · exact lift u w g (sp_mem hg)
  · have hw : sp (u' :: w' :: X) w := by
      refine sp_eq (sp_sub sp_head (lift u' w' _ h1)) (zc_ext fun i hi => ?_)
      simp only [zc_sub]; omega
    rcases List.mem_cons.mp hg with rfl | hg
    · refine sp_eq (sp_add (sp_sub (sp_tail (sp_head (g := w') (r := X))) (lift u' w' _ h2)) (sp_mul q hw)) (zc_ext fun i hi => ?_)
      simp only [zc_add, zc_sub, zc_mul]; omega
    · rcases List.mem_cons.mp hg with rfl | hg
      · exact hw
      · exact lift u' w' g (sp_mem hg)
theorem z4_cong {f g : Nat → Int64} (h : ∀ j, j < 4 → f j = g j) : z4 f = z4 g := by
  unfold z4
  rw [h 0 (by decide), h 1 (by decide), h 2 (by decide), h 3 (by decide)]
set_option maxHeartbeats 4000000 in
theorem dstep {A : List Z4} {R0 Rb : Nat → Nat → Int64} {F nr i a Ψ n : Nat} {c : Nat → Nat} {row u w : Nat → Int64} {piv : Nat → Int32} (hF : 10 ≤ F) (hC : Cx A R0 nr c) (ha : a < 4) (hi : i < nr) (hca : c i = a) (hΨ : Ψ ≤ 104976 * (detf (hat R0)).natAbs) (hRb : ∀ m, a < m → m < 4 → Rb m = R0 m) (hR : Rep nr c row piv (va_up Rb a u)) (hI : DI R0 a Ψ u w) (h0 : w a ≠ 0) :
    ∃ row' u' w', lM_divide_7 F (nI nr) piv (nI i) (nI a) (n + 1) row w = lM_divide_7 F (nI nr) piv (nI i) (nI a) n row' w' ∧ Rep nr c row' piv (va_up Rb a u') ∧ DI R0 a Ψ u' w' ∧ Tdd R0 a u' ∧ Tdd R0 a w' ∧ (u' a).toInt = (w a).toInt ∧ (w' a).toInt.natAbs = (u a).toInt.natAbs % (w a).toInt.natAbs ∧ ∀ X, (∀ m, a < m → m < 4 → sp X (z4 (R0 m))) → ∀ v, sp (z4 u' :: z4 w' :: X) v ↔ sp (z4 u :: z4 w :: X) v := by
  have hC' := hC
  obtain ⟨hT, hs, h9, hB, hh, hz⟩ := hC
  obtain ⟨z1, z2, b1, b2, i3, i4, i5, i6⟩ := hI
  have hpa : R0 a a ≠ 0 := by have := hh i hi; rw [hca] at this; exact this
  have hn4 : nr ≤ 4 := hR.1
  have hwne : (w a).toInt.natAbs ≠ 0 := fun e => h0 (ti_eq.mpr (by rw [show (0 : Int64).toInt = 0 from rfl]; omega))
  have hua := b1 a ha
  have hq : (u a / w a).toInt = (u a).toInt.tdiv (w a).toInt := ti_div (inR_of (by
    rw [Int.natAbs_tdiv]
    exact Nat.lt_of_le_of_lt (Nat.div_le_self _ _) (by omega)))
  have hqn : (u a / w a).toInt.natAbs ≤ (u a).toInt.natAbs := by
    rw [hq, Int.natAbs_tdiv]
    exact Nat.div_le_self _ _
  -- u less q w
  have hcv : ∀ j, j < 4 → (tid a u w (u a / w a) j).toInt = (u j).toInt - (u a / w a).toInt * (w j).toInt ∧ ((u j).toInt - (u a / w a).toInt * (w j).toInt).natAbs ≤ 157464 + (u a).toInt.natAbs * (w j).toInt.natAbs := by
    intro j hj
    have hbd : ((u j).toInt - (u a / w a).toInt * (w j).toInt).natAbs ≤ 157464 + (u a).toInt.natAbs * (w j).toInt.natAbs := by
      have a1 := Int.natAbs_sub_le (u j).toInt ((u a / w a).toInt * (w j).toInt)
      rw [Int.natAbs_mul] at a1
      have a2 := Nat.mul_le_mul_right (w j).toInt.natAbs hqn
      have a3 := b1 j hj
      omega
    refine ⟨?_, hbd⟩
    by_cases l : a ≤ j
    · have e : tid a u w (u a / w a) j = u j - u a / w a * w j := if_pos ⟨l, hj⟩
      rw [e]
      refine ti_fms (inR_of ?_)
      have a4 := Nat.mul_le_mul hua (b2 j hj)
      omega
    · have e : tid a u w (u a / w a) j = u j := if_neg (by omega)
      rw [e, z1 j (by omega), z2 j (by omega), show (0 : Int64).toInt = 0 from rfl]; omega
  have hz4c : z4 (tid a u w (u a / w a)) = zsub (z4 u) (zmul (u a / w a).toInt (z4 w)) := zext (hcv 0 (by decide)).1 (hcv 1 (by decide)).1 (hcv 2 (by decide)).1 (hcv 3 (by decide)).1
  have hca2 : (tid a u w (u a / w a) a).toInt.natAbs = (u a).toInt.natAbs % (w a).toInt.natAbs := by
    rw [(hcv a ha).1, hq, tmod_e, Int.natAbs_tmod]
  have hTB : ∀ x, TriB (va_up Rb a x) a := fun x m h1 h2 => by
    have e : va_up Rb a x m = R0 m := by rw [va_up_ne _ _ (by omega), hRb m h1 h2]
    rw [e]
    exact ⟨(hT m h2).1, (hT m h2).2.1, hB m h2⟩
  have hRR : ∀ x row, Rep nr c row piv (va_up Rb a x) → RepR nr c row piv (va_up Rb a x) a := fun x row h => ⟨h, fun m hm l => by
    have e : va_up Rb a x (c m) = R0 (c m) := by rw [va_up_ne _ _ (by omega), hRb (c m) l (h.2.1 m hm).1]
    rw [e]; exact hh m hm, fun k l1 l2 hno => by
    have e : va_up Rb a x k = R0 k := by rw [va_up_ne _ _ (by omega), hRb k l1 l2]
    rw [e]; exact hz k l2 hno⟩
  have hdiag : ∀ x m, a < m → m < 4 → va_up Rb a x m = R0 m := fun x m h1 h2 => by rw [va_up_ne _ _ (by omega), hRb m h1 h2]
  -- the code's way
  obtain ⟨row1, r1, R1⟩ := div39_eq (F := F) (f := w) (v2 := nI a) (q := u a / w a) (a := a) (by omega) hR hi ha
  rw [hca, va_up_self, up_up] at R1
  obtain ⟨row2, f2, r2, R2, e2⟩ := M_swap_eq (F := F) (f := w) (by omega) R1 hi
  rw [hca, up_up] at R2
  rw [hca, va_up_self] at e2
  obtain ⟨f3, r3, t31, t32, t33⟩ := M_tidy_eq (F := F) (a := a) hF ha (hRR _ _ R2) (hTB _) (f := f2) (fun ea e11 => by
    subst ea
    rw [hdiag _ 1 (by decide) (by decide)] at e11
    rw [e2 1 (by decide), (hcv 1 (by decide)).1]
    have := (hcv 1 (by decide)).2
    have := i3 1 (by decide) (by decide) e11
    omega) (fun j p q => by
    rw [e2 j q, (hcv j q).1]
    have := (hcv j q).2
    have := Nat.mul_le_mul hua (b2 j q)
    omega)
  obtain ⟨row3, f4, r4, R4, e4⟩ := M_swap_eq (F := F) (f := f3) (by omega) R2 hi
  rw [hca, up_up] at R4
  rw [hca, va_up_self] at e4
  obtain ⟨f5, r5, t51, t52, t53⟩ := M_tidy_eq (F := F) (a := a) hF ha (hRR _ _ R4) (hTB _) (f := f4) (fun ea e11 => by
    subst ea
    rw [e4 1 (by decide)]
    have := b2 1 (by decide)
    omega) (fun j p q => by
    rw [e4 j q]
    have := b2 j q
    omega)
  obtain ⟨row5, f6, r6, R6, e6⟩ := M_swap_eq (F := F) (f := f5) (by omega) R4 hi
  rw [hca, up_up] at R6
  rw [hca, va_up_self] at e6
  -- what came out
  have hzf2 : z4 f2 = zsub (z4 u) (zmul (u a / w a).toInt (z4 w)) := by rw [← hz4c]; exact z4_cong e2
  have hzf4 : z4 f4 = z4 w := z4_cong e4
  have hzf6 : z4 f6 = z4 f3 := z4_cong e6
  have hf5a : f5 a = w a := by rw [t51 a (by omega), e4 a ha]
  have hf6a : f6 a = tid a u w (u a / w a) a := by rw [e6 a ha, t31 a (by omega), e2 a ha]
  have zf5 : zbe a f5 := fun j hj => by rw [t51 j (by omega), e4 j (by omega)]; exact z2 j hj
  have zf6 : zbe a f6 := fun j hj => by
    rw [e6 j (by omega), t31 j (by omega), e2 j (by omega)]
    have : tid a u w (u a / w a) j = u j := if_neg (by omega)
    rw [this]; exact z1 j hj
  have td5 : Tdd R0 a f5 := fun l p q r => by
    have := t52 l (by omega) q (by rw [hdiag _ l p q]; exact r)
    rw [hdiag _ l p q] at this
    exact this
  have td6 : Tdd R0 a f6 := fun l p q r => by
    have := t32 l (by omega) q (by rw [hdiag _ l p q]; exact r)
    rw [hdiag _ l p q] at this
    rw [e6 l q]
    exact this
  have rows : ∀ x (X : List Z4), (∀ m, a < m → m < 4 → sp X (z4 (R0 m))) → ∀ m, a < m → m < 4 → sp X (z4 (va_up Rb a x m)) := fun x X hX m p q => by rw [hdiag _ m p q]; exact hX m p q
  have hrl : ∀ m, a < m → m < 4 → sp (rl R0) (z4 (R0 m)) := fun m _ q => sp_mem (rl_mem.mpr ⟨m, q, rfl⟩)
  have D5 : ∀ j, j < 4 → R0 j j = 0 → DD R0 j (z4 f5) = DD R0 j (z4 w) := fun j hj e => by
    have h1 := detf_van hT hj e (t53 (rl R0) (rows _ _ hrl))
    have h2 := DD_add (R := R0) hj (z4 f5) (z4 f4)
    have h3 : DD R0 j (zsub (z4 f5) (z4 f4)) = 0 := h1
    rw [hzf4] at h2 h3
    omega
  have D6 : ∀ j, j < 4 → R0 j j = 0 → DD R0 j (z4 f6) = DD R0 j (z4 u) - (u a / w a).toInt * DD R0 j (z4 w) := fun j hj e => by
    have h1 := detf_van hT hj e (t33 (rl R0) (rows _ _ hrl))
    have h2 := DD_add (R := R0) hj (z4 f3) (z4 f2)
    have h3 : DD R0 j (zsub (z4 f3) (z4 f2)) = 0 := h1
    have h4 := DD_sub (R := R0) hj (z4 u) (z4 w) (u a / w a).toInt
    rw [hzf2] at h2 h3
    rw [hzf6]
    omega
  have pot : ∀ j, j < 4 → R0 j j = 0 → (f5 a).toInt.natAbs * (DD R0 j (z4 f6)).natAbs + (f6 a).toInt.natAbs * (DD R0 j (z4 f5)).natAbs ≤ Ψ ∧ (DD R0 j (z4 f5)).natAbs ≤ Ψ ∧ (DD R0 j (z4 f6)).natAbs ≤ Ψ := fun j hj e => by
    obtain ⟨p1, p2, p3⟩ := i4 j hj e
    have h1 := eu_step p1
    have h2 : (w a).toInt.natAbs * (DD R0 j (z4 f6)).natAbs + (f6 a).toInt.natAbs * (DD R0 j (z4 f5)).natAbs ≤ Ψ := by
      rw [D6 j hj e, D5 j hj e, hf6a, (hcv a ha).1, hq]
      exact h1
    rw [hf5a]
    refine ⟨h2, by rw [D5 j hj e]; exact p3, ?_⟩
    have h3 : (DD R0 j (z4 f6)).natAbs ≤ (w a).toInt.natAbs * (DD R0 j (z4 f6)).natAbs := Nat.le_mul_of_pos_left _ (by omega)
    omega
  have hmod : (f6 a).toInt.natAbs = (u a).toInt.natAbs % (w a).toInt.natAbs := by rw [hf6a]; exact hca2
  have hmlt : (f6 a).toInt.natAbs ≤ (w a).toInt.natAbs := by rw [hmod]; exact Nat.le_of_lt (Nat.mod_lt _ (by omega))
  have rl5 : rle 157464 f5 := tdd_le hC' ha hpa hΨ zf5 (Or.inr (by rw [hf5a]; exact b2 a ha)) (by rw [hf5a]; exact i6) td5 (fun j hj e => (pot j hj e).2.1)
  have rl6 : rle 157464 f6 := tdd_le hC' ha hpa hΨ zf6 (Or.inr (by have := b2 a ha; omega)) (by omega) td6 (fun j hj e => (pot j hj e).2.2)
  refine ⟨row5, f5, f6, ?_, R6, ⟨zf5, zf6, rl5, rl6, fun l p q r => ?_, pot, by rw [hf5a]; exact i6, by omega⟩, td5, td6, by rw [hf5a], hmod, fun X hX v => ?_⟩
  · have hv : vp_in (nI a) 4 := vp_in_nI ha (by decide)
    have hi4 : i < 4 := by omega
    have hrow : row (4 * i + a) = u a := by
      have := (hR.2.1 i hi).2.2 a ha
      rw [hca, va_up_self] at this
      exact this
    rw [lM_divide_7, gd_t hv, nI_clamp (by omega), if_neg h0, ix4 hi4 ha, gd_t (vp_in_nI (by omega) (by decide)), gd_t hv, gd_t h0, nI_clamp (by omega), hrow, r1, Option.bind_some, r2, Option.bind_some]
    dsimp only
    rw [r3, Option.bind_some, r4, Option.bind_some]
    dsimp only
    rw [r5, Option.bind_some, r6, Option.bind_some]
  · have h1 := td6 l p q r
    have h2 := pv2_le hT ha q (show a ≠ l by omega)
    rw [show pv R0 a = (R0 a a).toInt from if_neg hpa, show pv R0 l = (R0 l l).toInt from if_neg r] at h2
    have h3 := (piv_bound hT hs h9).1
    rw [hf5a]
    have h4 := Nat.mul_le_mul i6 (show (f6 l).toInt.natAbs ≤ (R0 l l).toInt.natAbs by omega)
    rw [Nat.mul_assoc] at h4
    omega
  · have x1 := t53 X (rows _ X hX)
    have x2 := t33 X (rows _ X hX)
    rw [hzf4] at x1
    rw [hzf2] at x2
    rw [hzf6]
    exact dsp x1 x2 v
