/-! Layer B: what Bareiss's elimination answers -/
theorem cross {A B C D : Int64} {a b c d : Int} (hA : A.toInt = a) (hB : B.toInt = b) (hC : C.toInt = c) (hD : D.toInt = d) (h : inR (a * b - c * d)) : (A * B - C * D).toInt = a * b - c * d := by
  rw [Int64.toInt_sub, Int64.toInt_mul, Int64.toInt_mul, hA, hB, hC, hD]
  simp only [Int.sub_bmod_bmod, Int.bmod_sub_bmod]
  exact bmod_in h
theorem crossb {a b c d : Int} {X : Nat} (ha : a.natAbs ≤ X) (hb : b.natAbs ≤ X) (hc : c.natAbs ≤ X) (hd : d.natAbs ≤ X) : (a * b - c * d).natAbs ≤ 2 * (X * X) := by
  have h1 := prod_le (a := 0) (b := 0) ha hb
  have h2 := prod_le (a := 0) (b := 0) hc hd
  omega
def mm2 (g : Nat → Nat → Int) (i x : Nat) : Int := g i x * g 0 0 - g i 0 * g 0 x
def mm3 (g : Nat → Nat → Int) (i x : Nat) : Int := g 0 0 * (g 1 1 * g i x - g 1 i * g 1 x) - g 0 1 * (g 0 1 * g i x - g 1 i * g 0 x) + g 0 i * (g 0 1 * g 1 x - g 1 1 * g 0 x)
theorem mm3_id (g : Nat → Nat → Int) (hs : ∀ i j, g i j = g j i) (i x : Nat) : mm2 g i x * mm2 g 1 1 - mm2 g i 1 * mm2 g 1 x = g 0 0 * mm3 g i x := by
  unfold mm2 mm3
  rw [hs i 0, hs i 1, hs 1 0]
  grind
theorem mm4_id (g : Nat → Nat → Int) (hs : ∀ i j, g i j = g j i) : mm3 g 3 3 * mm3 g 2 2 - mm3 g 3 2 * mm3 g 2 3 = mm2 g 1 1 * symdet (g 0 0) (g 0 1) (g 0 2) (g 0 3) (g 1 1) (g 1 2) (g 1 3) (g 2 2) (g 2 3) (g 3 3) := by
  unfold mm3 mm2 symdet
  rw [hs 1 0, hs 3 2]
  grind
theorem mm2_le {g : Nat → Nat → Int} {m i x : Nat} (hG : ∀ i j, i < m → j < m → (g i j).natAbs ≤ 324) (hi : i < m) (hx : x < m) (h0 : 0 < m) : (mm2 g i x).natAbs ≤ 209952 := crossb (hG i x hi hx) (hG 0 0 h0 h0) (hG i 0 hi h0) (hG 0 x h0 hx)
theorem mm3_le {g : Nat → Nat → Int} {m i x : Nat} (hG : ∀ i j, i < m → j < m → (g i j).natAbs ≤ 324) (hi : i < m) (hx : x < m) (h1 : 1 < m) : (mm3 g i x).natAbs ≤ 204073344 := by
  have c1 := crossb (hG 1 1 h1 h1) (hG i x hi hx) (hG 1 i h1 hi) (hG 1 x h1 hx)
  have c2 := crossb (hG 0 1 (by omega) h1) (hG i x hi hx) (hG 1 i h1 hi) (hG 0 x (by omega) hx)
  have c3 := crossb (hG 0 1 (by omega) h1) (hG 1 x h1 hx) (hG 1 1 h1 h1) (hG 0 x (by omega) hx)
  have p1 := prod_le (a := 0) (b := 0) (hG 0 0 (by omega) (by omega)) c1
  have p2 := prod_le (a := 0) (b := 0) (hG 0 1 (by omega) h1) c2
  have p3 := prod_le (a := 0) (b := 0) (hG 0 i (by omega) hi) c3
  unfold mm3
  omega
set_option maxHeartbeats 4000000 in
theorem B_vol_eq {m : Nat} {bR bM : Nat → Nat → Int64} (hm : m ≤ 4) (hG : ∀ i j, i < m → j < m → (zdot (z4 (bR i)) (z4 (bR j))).natAbs ≤ 324) (h1 : 2 ≤ m → zdot (z4 (bR 0)) (z4 (bR 0)) ≠ 0) (h2 : 3 ≤ m → gram2 (z4 (bR 0)) (z4 (bR 1)) ≠ 0) (h3 : 4 ≤ m → gram3 (z4 (bR 0)) (z4 (bR 1)) (z4 (bR 2)) ≠ 0) :
    ∃ V M', B_volumeSquared 1000 bR bM (nI m) = some (V, M') ∧ V.toInt = gramL ((List.range m).map (fun i => z4 (bR i))) := by
  obtain ⟨g, hg⟩ : ∃ g : Nat → Nat → Int, ∀ i j, g i j = zdot (z4 (bR i)) (z4 (bR j)) := ⟨_, fun _ _ => rfl⟩
  have hsy : ∀ i j, g i j = g j i := fun i j => by rw [hg, hg]; unfold zdot; grind
  have hG' : ∀ i j, i < m → j < m → (g i j).natAbs ≤ 324 := fun i j hi hj => by rw [hg]; exact hG i j hi hj
  obtain ⟨M0, k1, k2⟩ := bv2 (F := 1000) (bR := bR) (by decide) hm m 1000 0 bM (by omega) (by omega) (fun i x hi => absurd hi (by omega))
  have t0 : ∀ i x, i < m → x < m → (M0 i x).toInt = g i x := fun i x hi hx => by
    rw [k2 i x hi hx, dot4_toInt (inR_of (by have := hG i x hi hx; omega)), hg]
  have run : ∀ o, lB_volumeSquared_59 1000 (nI m) 1000 1 (nI 0) M0 = some o → B_volumeSquared 1000 bR bM (nI m) = some (o.1, o.2) := fun o ho => by
    unfold B_volumeSquared
    rw [show (0 : Int32) = nI 0 from rfl, k1, Option.bind_some, ho]
    rfl
  have e2 : gram2 (z4 (bR 0)) (z4 (bR 1)) = mm2 g 1 1 := by unfold gram2 mm2; rw [← hg, ← hg, ← hg, hsy 1 0]; grind
  have e3 : gram3 (z4 (bR 0)) (z4 (bR 1)) (z4 (bR 2)) = mm3 g 2 2 := by unfold gram3 mm3; rw [← hg, ← hg, ← hg, ← hg, ← hg, ← hg]
  by_cases c0 : m = 0
  · subst c0
    exact ⟨1, M0, run _ (vs59_end (m := 0) (n := 999) (by decide)), rfl⟩
  · have hv1 : (1 : Int64) ≠ 0 := by decide
    obtain ⟨M1, a1, a2, a3⟩ := elim_eq (F := 1000) (M := M0) (s := 0) (v := 1) (by decide) hm (by omega) hv1
    have s1 := vs59 (F := 1000) (n := 999) hm (show 0 < m by omega) hv1 a1
    have u0 : (M1 0 0).toInt = g 0 0 := by rw [a2]; exact t0 0 0 (by omega) (by omega)
    by_cases c1 : m = 1
    · subst c1
      refine ⟨M1 0 0, M1, run _ (by rw [s1]; exact vs59_end (m := 1) (n := 998) hm), ?_⟩
      rw [u0, hg]; rfl
    · have t1 : ∀ i x, 0 < i → i < m → 0 < x → x < m → (M1 i x).toInt = mm2 g i x := fun i x p q r t => by
        have hb := mm2_le hG' q t (by omega)
        rw [a3 i x p q r t]
        refine ex_div (y := 0) (a := g i x) (b := g 0 0) (c := g i 0) (d := g 0 x) (w := 1) (cross (t0 i x q t) (t0 0 0 (by omega) (by omega)) (t0 i 0 q (by omega)) (t0 0 x (by omega) t) ?_) rfl (by decide) (by rw [Int.one_mul]; rfl) ?_
        · exact inR_of (show (mm2 g i x).natAbs < _ by omega)
        · exact inR_of (by omega)
      have n1 : M1 0 0 ≠ 0 := fun e => h1 (by omega) (by rw [← hg, ← u0, e]; rfl)
      obtain ⟨M2, b1, b2, b3⟩ := elim_eq (F := 1000) (M := M1) (s := 1) (v := M1 0 0) (by decide) hm (by omega) n1
      have s2 := vs59 (F := 1000) (n := 998) hm (show 1 < m by omega) n1 b1
      have u1 : (M2 1 1).toInt = mm2 g 1 1 := by rw [b2]; exact t1 1 1 (by omega) (by omega) (by omega) (by omega)
      by_cases c2 : m = 2
      · subst c2
        refine ⟨M2 1 1, M2, run _ (by rw [s1, s2]; exact vs59_end (m := 2) (n := 997) hm), ?_⟩
        rw [u1, ← e2]; rfl
      · have t2 : ∀ i x, 1 < i → i < m → 1 < x → x < m → (M2 i x).toInt = mm3 g i x := fun i x p q r t => by
          have hb := mm3_le hG' q t (by omega)
          have x1 := mm2_le hG' q t (by omega)
          have x2 := mm2_le hG' (show 1 < m by omega) (show 1 < m by omega) (by omega)
          have x3 := mm2_le hG' q (show 1 < m by omega) (by omega)
          have x4 := mm2_le hG' (show 1 < m by omega) t (by omega)
          rw [b3 i x p q r t]
          refine ex_div (y := 0) (a := mm2 g i x) (b := mm2 g 1 1) (c := mm2 g i 1) (d := mm2 g 1 x) (w := g 0 0) (cross (t1 i x (by omega) q (by omega) t) (t1 1 1 (by omega) (by omega) (by omega) (by omega)) (t1 i 1 (by omega) q (by omega) (by omega)) (t1 1 x (by omega) (by omega) (by omega) t) ?_) u0 (by rw [hg]; exact h1 (by omega)) (mm3_id g hsy i x) ?_
          · have := crossb x1 x2 x3 x4
            exact inR_of (by omega)
          · exact inR_of (by omega)
        have n2 : M2 1 1 ≠ 0 := fun e => h2 (by omega) (by rw [e2, ← u1, e]; rfl)
        obtain ⟨M3, d1, d2, d3⟩ := elim_eq (F := 1000) (M := M2) (s := 2) (v := M2 1 1) (by decide) hm (by omega) n2
        have s3 := vs59 (F := 1000) (n := 997) hm (show 2 < m by omega) n2 d1
        have u2 : (M3 2 2).toInt = mm3 g 2 2 := by rw [d2]; exact t2 2 2 (by omega) (by omega) (by omega) (by omega)
        by_cases c3 : m = 3
        · subst c3
          refine ⟨M3 2 2, M3, run _ (by rw [s1, s2, s3]; exact vs59_end (m := 3) (n := 996) hm), ?_⟩
          rw [u2, ← e3]; rfl
        · have c4 : m = 4 := by omega
          subst c4
          have n3 : M3 2 2 ≠ 0 := fun e => h3 (by omega) (by rw [e3, ← u2, e]; rfl)
          obtain ⟨M4, f1, f2, f3⟩ := elim_eq (F := 1000) (M := M3) (s := 3) (v := M3 2 2) (by decide) hm (by omega) n3
          have s4 := vs59 (F := 1000) (n := 996) hm (show 3 < 4 by omega) n3 f1
          have hsd : symdet (g 0 0) (g 0 1) (g 0 2) (g 0 3) (g 1 1) (g 1 2) (g 1 3) (g 2 2) (g 2 3) (g 3 3) = det4 (z4 (bR 0)) (z4 (bR 1)) (z4 (bR 2)) (z4 (bR 3)) * det4 (z4 (bR 0)) (z4 (bR 1)) (z4 (bR 2)) (z4 (bR 3)) := by
            rw [← gram4_eq]
            simp only [hg]
          have x1 := mm3_le hG' (show 3 < 4 by decide) (show 3 < 4 by decide) (by decide)
          have x2 := mm3_le hG' (show 2 < 4 by decide) (show 2 < 4 by decide) (by decide)
          have x3 := mm3_le hG' (show 3 < 4 by decide) (show 2 < 4 by decide) (by decide)
          have x4 := mm3_le hG' (show 2 < 4 by decide) (show 3 < 4 by decide) (by decide)
          have hcb := crossb x1 x2 x3 x4
          have u3 : (M4 3 3).toInt = symdet (g 0 0) (g 0 1) (g 0 2) (g 0 3) (g 1 1) (g 1 2) (g 1 3) (g 2 2) (g 2 3) (g 3 3) := by
            have hne : mm2 g 1 1 ≠ 0 := by rw [← e2]; exact h2 (by decide)
            rw [f2, d3 3 3 (by decide) (by decide) (by decide) (by decide)]
            refine ex_div (y := 0) (a := mm3 g 3 3) (b := mm3 g 2 2) (c := mm3 g 3 2) (d := mm3 g 2 3) (w := mm2 g 1 1) (cross (t2 3 3 (by decide) (by decide) (by decide) (by decide)) (t2 2 2 (by decide) (by decide) (by decide) (by decide)) (t2 3 2 (by decide) (by decide) (by decide) (by decide)) (t2 2 3 (by decide) (by decide) (by decide) (by decide)) (inR_of (by omega))) u1 hne (mm4_id g hsy) ?_
            have hid := mm4_id g hsy
            refine inR_of ?_
            have h9 : (mm2 g 1 1 * symdet (g 0 0) (g 0 1) (g 0 2) (g 0 3) (g 1 1) (g 1 2) (g 1 3) (g 2 2) (g 2 3) (g 3 3)).natAbs ≤ 2 * (204073344 * 204073344) := by rw [← hid]; exact hcb
            rw [Int.natAbs_mul] at h9
            have h10 : 1 * (symdet (g 0 0) (g 0 1) (g 0 2) (g 0 3) (g 1 1) (g 1 2) (g 1 3) (g 2 2) (g 2 3) (g 3 3)).natAbs ≤ (mm2 g 1 1).natAbs * (symdet (g 0 0) (g 0 1) (g 0 2) (g 0 3) (g 1 1) (g 1 2) (g 1 3) (g 2 2) (g 2 3) (g 3 3)).natAbs := Nat.mul_le_mul_right _ (by omega)
            omega
          refine ⟨M4 3 3, M4, run _ (by rw [s1, s2, s3, s4]; exact vs59_end (m := 4) (n := 995) hm), ?_⟩
          rw [u3, hsd]; rfl
