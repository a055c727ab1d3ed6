/-! Layer B: times -/
def tm (l : Nat) (f b : Nat → Int64) (v q : Int64) : Nat → Int64 := fun j => if l ≤ j ∧ j < 4 then f j * v - q * b j else f j
theorem times_90 {F i : Nat} {row : Nat → Int64} {v1 v7 v9 : Int64} {v3 : Int32} (hi : i < 4) : ∀ (d n l : Nat) (f : Nat → Int64), l + d = 4 → d < n → lM_times_90 F row v1 v3 (nI i) v7 v9 n (nI l) f = some (tm l f (fun j => row (4 * i + j)) v7 v9) := by
  intro d
  induction d with
  | zero =>
    intro n l f h1 h2
    obtain ⟨n, rfl⟩ : ∃ q, n = q + 1 := ⟨n - 1, by omega⟩
    have e : l = 4 := by omega
    subst e
    rw [lM_times_90, if_pos (show (4 : Int32) ≤ nI 4 by decide)]
    congr 1
    funext j
    exact (if_neg (by omega)).symm
  | succ d ih =>
    intro n l f h1 h2
    obtain ⟨n, rfl⟩ : ∃ q, n = q + 1 := ⟨n - 1, by omega⟩
    have h4 : ¬ (4 : Int32) ≤ nI l := nI_ge (b := 4) (by omega) (by decide)
    have hv : vp_in (nI l) 4 := vp_in_nI (by omega) (by decide)
    rw [lM_times_90, if_neg h4, gd_t hv, ix4 hi (by omega), gd_t (vp_in_nI (by omega) (by decide)), gd_t hv, nI_clamp (by omega), nI_clamp (by omega), nI_1, ih n (l + 1) _ (by omega) (by omega)]
    congr 1
    funext j
    unfold tm vp_updL
    by_cases e : j = l
    · subst e
      rw [if_neg (by omega), if_pos rfl, if_pos (by omega)]
    · by_cases h : l + 1 ≤ j ∧ j < 4
      · rw [if_pos h, if_neg e, if_pos (by omega)]
      · rw [if_neg h, if_neg e, if_neg (by omega)]
theorem lm_stepM {F W : Nat} (hF : 200 ≤ F) {p x : Int64} (hp : 0 < p.toInt) (hp2 : p.toInt ≤ 157464) (hx : x.toInt.natAbs ≤ W) (hW' : W < 9223372036854775808) :
    ∃ (g : Int64) (f s : Int), M_common F p x = some g ∧ ¬ g = 0 ∧ (p / g).toInt = f ∧ 0 < f ∧ f ≤ p.toInt ∧ f * x.toInt = s * p.toInt ∧ s.natAbs ≤ W ∧ ∀ c : Int, p.toInt ∣ c * x.toInt → f ∣ c := by
  have h1 := M_common_eq (F := F) hF (x := p) (y := x) (by omega) (inR_of (by omega))
  obtain ⟨f, s, f1, f2, f3, f4, f5, f6⟩ := gcd_split (x := x.toInt) hp
  have hfle : f ≤ p.toInt := by
    have h2 : f * 1 ≤ f * (Int.gcd p.toInt x.toInt : Int) := Int.mul_le_mul_of_nonneg_left (by omega) (by omega)
    omega
  have hgle : (Int.gcd p.toInt x.toInt : Int) ≤ p.toInt := by
    have h2 : 1 * (Int.gcd p.toInt x.toInt : Int) ≤ f * (Int.gcd p.toInt x.toInt : Int) := Int.mul_le_mul_of_nonneg_right (by omega) (by omega)
    omega
  have hgi : (lN (Int.gcd p.toInt x.toInt)).toInt = (Int.gcd p.toInt x.toInt : Int) := lN_ti (by omega)
  refine ⟨lN (Int.gcd p.toInt x.toInt), f, s, h1, fun e => ?_, ?_, f1, hfle, ?_, ?_, f6⟩
  · rw [e, show (0 : Int64).toInt = 0 from rfl] at hgi; omega
  · have h3 : p.toInt.tdiv (Int.gcd p.toInt x.toInt : Int) = f := by
      rw [Int.tdiv_eq_ediv_of_nonneg (by omega)]; exact f4.symm
    rw [ti_div (by rw [hgi, h3]; exact inR_of (by omega)), hgi, h3]
  · calc f * x.toInt = f * (s * (Int.gcd p.toInt x.toInt : Int)) := by rw [← f3]
      _ = s * (f * (Int.gcd p.toInt x.toInt : Int)) := by grind
      _ = s * p.toInt := by rw [← f2]
  · have h4 : x.toInt.natAbs = s.natAbs * (Int.gcd p.toInt x.toInt : Int).natAbs := by
      conv => lhs; rw [f3]
      rw [Int.natAbs_mul]
    have h5 : s.natAbs * 1 ≤ s.natAbs * (Int.gcd p.toInt x.toInt : Int).natAbs := Nat.mul_le_mul_left _ (by omega)
    omega
theorem ti_fm3 {x v q y : Int64} {f s : Int} (hv : v.toInt = f) (hq : q.toInt = s) (h : inR (f * x.toInt - s * y.toInt)) : (x * v - q * y).toInt = f * x.toInt - s * y.toInt := by
  rw [Int64.toInt_sub, Int64.toInt_mul, Int64.toInt_mul, hv, hq]
  simp only [Int.sub_bmod_bmod, Int.bmod_sub_bmod]
  rw [Int.mul_comm x.toInt]
  exact bmod_in h
/-- one axis of times with a pivot -/
theorem times_go {F nr i k n : Nat} {c : Nat → Nat} {row f : Nat → Int64} {piv : Nat → Int32} {R : Nat → Nat → Int64} {N g : Int64} (hF : 5 ≤ F) (hk : k < 4) (hR : Rep nr c row piv R) (hi : i < nr) (hci : c i = k) (hr : M_rowAt F (nI nr) piv (nI k) = some (nI i)) (hg : M_common F (R k k) (f k) = some g) (hg0 : ¬ g = 0) (hp : ¬ R k k = 0) :
    lM_times_4 F (nI nr) row piv (n + 1) N (nI k) f = lM_times_4 F (nI nr) row piv n (N * (R k k / g)) (nI (k + 1)) (tm 0 f (R k) (R k k / g) (f k * (R k k / g) / R k k)) := by
  have hi4 : i < 4 := by have := hR.1; omega
  have h4 : ¬ (4 : Int32) ≤ nI k := nI_ge (b := 4) hk (by decide)
  have hv : vp_in (nI k) 4 := vp_in_nI hk (by decide)
  have hrow : ∀ j, j < 4 → row (4 * i + j) = R k j := fun j hj => by rw [← hci]; exact (hR.2.1 i hi).2.2 j hj
  have hfun : ∀ v q, tm 0 f (fun j => row (4 * i + j)) v q = tm 0 f (R k) v q := fun v q => funext fun j => by
    unfold tm
    by_cases hj : 0 ≤ j ∧ j < 4
    · rw [if_pos hj, if_pos hj]
      show f j * v - q * row (4 * i + j) = _
      rw [hrow j hj.2]
    · rw [if_neg hj, if_neg hj]
  rw [lM_times_4, if_neg h4, hr, Option.bind_some, if_pos (nI_pos' (by omega)), if_neg (nI_pos (by omega)), ix4 hi4 hk, gd_t (vp_in_nI (by omega) (by decide)), gd_t hv, nI_clamp (by omega), nI_clamp (by omega), hrow k hk, hg, Option.bind_some, gd_t hg0, gd_t hv, gd_t hp, show (0 : Int32) = nI 0 from rfl, times_90 hi4 4 F 0 f rfl (by omega), Option.bind_some, nI_1, hfun]
set_option maxHeartbeats 4000000 in
theorem times_loop {F nr : Nat} (hF : 200 ≤ F) {A : List Z4} {c : Nat → Nat} {row v : Nat → Int64} {piv : Nat → Int32} {R : Nat → Nat → Int64} (hC : Cx A R nr c) (hRp : Rep nr c row piv R) :
    ∀ (d k n W : Nat) (N : Int64) (t : Nat → Int64), k + d = 4 → d < n → rle W t → W * wt R d < 9223372036854775808 → N.toInt.natAbs * tp R d ≤ 157464 → Sg A (z4 v) k N.toInt (z4 t) →
    ∃ o, lM_times_4 F (nI nr) row piv n N (nI k) t = some o ∧ OrdIs A (z4 v) (lmOut o).toInt := by
  obtain ⟨hT, hs, h9, hR, hh, hz⟩ := id hC
  intro d
  induction d with
  | zero =>
    intro k n W N t h1 h2 hW hW2 hN hS
    obtain ⟨n, rfl⟩ : ∃ q, n = q + 1 := ⟨n - 1, by omega⟩
    have e : k = 4 := by omega
    subst e
    rw [lM_times_4, if_pos (show (4 : Int32) ≤ nI 4 by decide)]
    exact ⟨_, rfl, hS.done⟩
  | succ d ih =>
    intro k n W N t h1 h2 hW hW2 hN hS
    obtain ⟨n, rfl⟩ : ∃ q, n = q + 1 := ⟨n - 1, by omega⟩
    have hk : k < 4 := by omega
    have h4 : ¬ (4 : Int32) ≤ nI k := nI_ge (b := 4) hk (by decide)
    have hv : vp_in (nI k) 4 := vp_in_nI hk (by decide)
    have hc : (nI k).toNatClampNeg = k := nI_clamp (by omega)
    rcases M_rowAt_eq (F := F) (by omega) hRp.1 (fun i hi => ⟨(hRp.2.1 i hi).1, (hRp.2.1 i hi).2.1⟩) hk with ⟨i, hi, hci, hr⟩ | ⟨hno, hr⟩
    · have hp : R k k ≠ 0 := by have := hh i hi; rw [hci] at this; exact this
      have hpos : 0 < (R k k).toInt := by
        have h5 := (hT k hk).2.1
        have h6 : (R k k).toInt ≠ 0 := fun e => hp (ti_eq.mpr e)
        omega
      have hple := hR k hk k hk
      have wt1 : ∀ q, 1 ≤ wt R q := by
        intro q
        induction q with
        | zero => exact Nat.le_refl _
        | succ q ihq => exact Nat.le_trans ihq (wt_mono q)
      have tp1 : ∀ q, q ≤ 4 → 1 ≤ tp R q := by
        intro q
        induction q with
        | zero => intro _; exact Nat.le_refl _
        | succ q ihq => intro hq; exact Nat.le_trans (ihq (by omega)) (tp_mono hT)
      have hW0 : W < 9223372036854775808 := Nat.lt_of_le_of_lt (Nat.le_mul_of_pos_right W (wt1 _)) hW2
      obtain ⟨g, f, s, g1, g2, g3, g4, g5, g6, g7, g8⟩ := lm_stepM hF hpos (by omega) (hW k hk) hW0
      rw [times_go (by omega) hk hRp hi hci hr g1 g2 hp]
      have hPN : PN R k = (R k k).toInt.natAbs := by unfold PN pv; rw [if_neg hp]
      have a2 : tp R (d + 1) = PN R k * tp R d := by
        show PN R (3 - d) * tp R d = _
        rw [show 3 - d = k by omega]
      have hNf : (N * (R k k / g)).toInt = N.toInt * f := by
        rw [ti_mul, g3]
        rw [g3]
        refine inR_of ?_
        rw [Int.natAbs_mul]
        have a1 : N.toInt.natAbs * f.natAbs ≤ N.toInt.natAbs * PN R k := Nat.mul_le_mul_left _ (by rw [hPN]; omega)
        rw [a2] at hN
        have a3 : PN R k ≤ PN R k * tp R d := Nat.le_mul_of_pos_right _ (tp1 d (by omega))
        have a4 := Nat.mul_le_mul_left N.toInt.natAbs a3
        omega
      have hN' : (N * (R k k / g)).toInt.natAbs * tp R d ≤ 157464 := by
        rw [hNf, Int.natAbs_mul]
        rw [a2] at hN
        have a1 : f.natAbs * tp R d ≤ PN R k * tp R d := Nat.mul_le_mul_right _ (by rw [hPN]; omega)
        have a3 := Nat.mul_le_mul_left N.toInt.natAbs a1
        rw [Nat.mul_assoc]
        omega
      have hS' := hS.step (r := fun k => z4 (R k)) (f := f) (t := s) (TriZ_of hT) hs hk g4 (by
        show f * zc (z4 t) k = s * zc (z4 (R k)) k
        rw [zc_z4 _ hk, zc_z4 _ hk]; exact g6) (fun c hc9 => by
        refine g8 c ?_
        have hc9 : zc (z4 (R k)) k ∣ c * zc (z4 t) k := hc9
        rw [zc_z4 _ hk, zc_z4 _ hk] at hc9
        exact hc9)
      rw [← hNf] at hS'
      by_cases hk3 : k = 3
      · subst hk3
        have hd : d = 0 := by omega
        subst hd
        obtain ⟨n, rfl⟩ : ∃ q, n = q + 1 := ⟨n - 1, by omega⟩
        rw [lM_times_4, if_pos (show (4 : Int32) ≤ nI (3 + 1) by decide)]
        exact ⟨_, rfl, hS'.done⟩
      · obtain ⟨e, rfl⟩ : ∃ e, d = e + 1 := ⟨d - 1, by omega⟩
        have hwt : wt R (e + 1 + 1) = (PN R k + 157464) * wt R (e + 1) := by
          show (PN R (2 - e) + 157464) * wt R (e + 1) = _
          rw [show 2 - e = k by omega]
        rw [hwt, ← Nat.mul_assoc] at hW2
        have hWn : W * (PN R k + 157464) < 9223372036854775808 := Nat.lt_of_le_of_lt (Nat.le_mul_of_pos_right _ (wt1 _)) hW2
        have hexp : W * (PN R k + 157464) = W * PN R k + W * 157464 := Nat.mul_add _ _ _
        have hfx : (f * (t k).toInt).natAbs ≤ W * PN R k := by
          rw [Int.natAbs_mul, Nat.mul_comm]
          exact Nat.mul_le_mul (hW k hk) (by rw [hPN]; omega)
        have hrk : (t k * (R k k / g)).toInt = f * (t k).toInt := by
          rw [ti_mul, g3, Int.mul_comm]
          rw [g3, Int.mul_comm]
          exact inR_of (by omega)
        have hq : (t k * (R k k / g) / R k k).toInt = s := by
          have e2 : (f * (t k).toInt).tdiv (R k k).toInt = s := by
            rw [g6, Int.mul_tdiv_cancel _ (Int.ne_of_gt hpos)]
          rw [ti_div, hrk, e2]
          rw [hrk, e2]
          exact inR_of (by omega)
        have hval : ∀ j, j < 4 → (tm 0 t (R k) (R k k / g) (t k * (R k k / g) / R k k) j).toInt = f * (t j).toInt - s * (R k j).toInt ∧ (f * (t j).toInt - s * (R k j).toInt).natAbs ≤ W * (PN R k + 157464) := by
          intro j hj
          have b1 : (f * (t j).toInt).natAbs ≤ W * PN R k := by
            rw [Int.natAbs_mul, Nat.mul_comm]
            exact Nat.mul_le_mul (hW j hj) (by rw [hPN]; omega)
          have b2 : (s * (R k j).toInt).natAbs ≤ W * 157464 := by
            rw [Int.natAbs_mul]
            exact Nat.mul_le_mul g7 (hR k hk j hj)
          have b3 := Int.natAbs_sub_le (f * (t j).toInt) (s * (R k j).toInt)
          have b4 : (f * (t j).toInt - s * (R k j).toInt).natAbs ≤ W * (PN R k + 157464) := by omega
          refine ⟨?_, b4⟩
          have e1 : tm 0 t (R k) (R k k / g) (t k * (R k k / g) / R k k) j = t j * (R k k / g) - (t k * (R k k / g) / R k k) * R k j := if_pos ⟨Nat.zero_le _, hj⟩
          rw [e1]
          exact ti_fm3 g3 hq (inR_of (by omega))
        have hz4 : z4 (tm 0 t (R k) (R k k / g) (t k * (R k k / g) / R k k)) = zsub (zmul f (z4 t)) (zmul s (z4 (R k))) := zext (hval 0 (by decide)).1 (hval 1 (by decide)).1 (hval 2 (by decide)).1 (hval 3 (by decide)).1
        refine ih (k + 1) n (W * (PN R k + 157464)) _ _ (by omega) (by omega) (fun j hj => ?_) hW2 hN' (by rw [hz4]; exact hS')
        rw [(hval j hj).1]
        exact (hval j hj).2
    · have hp : R k k = 0 := hz k hk hno
      rw [lM_times_4, if_neg h4, hr, Option.bind_some, if_neg (by decide), gd_t hv, hc]
      by_cases h0 : t k = 0
      · rw [if_pos h0, if_pos (by decide), nI_1]
        exact ih (k + 1) n W N t (by omega) (by omega) hW (Nat.lt_of_le_of_lt (Nat.mul_le_mul_left W (wt_mono d)) hW2) (Nat.le_trans (Nat.mul_le_mul_left _ (tp_mono hT)) hN) (hS.skip (by rw [zc_z4 _ hk, h0]; rfl))
      · rw [if_neg h0]
        refine ⟨_, rfl, ?_⟩
        exact hS.fail (TriZ_of hT) hs hk (by rw [zc_z4 _ hk]; exact fun e => h0 (ti_eq.mpr e)) (by show zc (z4 (R k)) k = 0; rw [zc_z4 _ hk, hp]; rfl)
/-- times answers the order of fresh -/
theorem M_times_eq {F : Nat} (hF : 200 ≤ F) {A : List Z4} {rows : Int32} {row f : Nat → Int64} {piv : Nat → Int32} (h : HS A rows row piv) (hf : rle 1000 f) : ∃ (n : Int64) (f' : Nat → Int64), M_times F rows row piv f = some (n, f') ∧ OrdIs A (z4 f) n.toInt := by
  obtain ⟨nr, c, R, rfl, hR, hC⟩ := h
  obtain ⟨hT, hs, h9, hb, hh, hz⟩ := id hC
  have hpb := (piv_bound hT hs h9).1
  have h1 : (1 : Int64).toInt = 1 := rfl
  obtain ⟨o, o1, o2⟩ := times_loop hF hC hR (v := f) 4 0 F 1000 1 f rfl (by omega) hf (wt_4 hT hpb) (by rw [tp_4 hT, h1, show (1 : Int).natAbs = 1 from rfl, Nat.one_mul]; exact hpb) (by rw [h1]; exact Sg.start A (z4 f))
  unfold M_times
  rw [show (0 : Int32) = nI 0 from rfl, o1, Option.bind_some]
  cases o with
  | inl a => exact ⟨a.1, a.2, rfl, o2⟩
  | inr a => exact ⟨a.1, a.2, rfl, o2⟩
