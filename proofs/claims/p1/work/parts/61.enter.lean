/-! Layer B: enter -/
noncomputable def pp (R : Nat → Nat → Int64) : Nat → Nat
  | 0 => 1
  | k + 1 => pp R k * PN R k
theorem pp_le {R : Nat → Nat → Int64} (hT : Tri R) {k : Nat} (hk : k ≤ 4) : pp R k ≤ (detf (hat R)).natAbs := by
  have e : (detf (hat R)).natAbs = pp R 4 := by
    rw [detf_hat hT, Int.natAbs_mul, Int.natAbs_mul, Int.natAbs_mul]
    show PN R 0 * (PN R 1 * (PN R 2 * PN R 3)) = 1 * PN R 0 * PN R 1 * PN R 2 * PN R 3
    simp only [Nat.one_mul, Nat.mul_assoc]
  have st : ∀ q, q < 4 → pp R q ≤ pp R (q + 1) := fun q hq => Nat.le_mul_of_pos_right _ (PN_pos hT hq)
  have s0 : pp R 0 ≤ pp R 1 := st 0 (by decide)
  have s1 : pp R 1 ≤ pp R 2 := st 1 (by decide)
  have s2 : pp R 2 ≤ pp R 3 := st 2 (by decide)
  have s3 : pp R 3 ≤ pp R 4 := st 3 (by decide)
  rw [e]
  rcases (show k = 0 ∨ k = 1 ∨ k = 2 ∨ k = 3 ∨ k = 4 by omega) with rfl | rfl | rfl | rfl | rfl <;> omega
/-- a row of a staircase whose numbers behind its pivot are at most the pivots there is small -/
theorem row_le2 {A : List Z4} {R : Nat → Nat → Int64} (hT : Tri R) (hs : ∀ v, sp (rl R) v ↔ sp A v) (h9 : ∀ g ∈ A, le4 9 g) {k : Nat} (hk : k < 4) (hr : ∀ j, k < j → j < 4 → R j j ≠ 0 → (R k j).toInt.natAbs ≤ (R j j).toInt.natAbs) : rle 157464 (R k) := by
  have hb := (piv_bound hT hs h9).1
  have hh : ∀ i, i < 4 → R i i ≠ 0 → (R k i).toInt.natAbs ≤ (detf (hat R)).natAbs := by
    intro i hi e
    have h1 := pv_le hT hi
    have h2 : pv R i = (R i i).toInt := if_neg e
    rw [h2] at h1
    by_cases l : i < k
    · rw [(hT k hk).1 i l]; exact Nat.zero_le _
    · by_cases q : i = k
      · rw [q] at h1 ⊢; exact h1
      · have := hr i (by omega) hi e
        omega
  intro j hj
  by_cases e : R j j = 0
  · have h3 := ent hT hs h9 (v := z4 (R k)) ((hs _).mp (sp_mem (rl_mem.mpr ⟨k, hk, rfl⟩))) hj e (fun i hi q => by rw [zc_z4 _ hi]; exact hh i hi q)
    rw [zc_z4 _ hj] at h3
    omega
  · have := hh j hj e
    omega
theorem sgn_ti {a : Nat} {f : Nat → Int64} (hf : rle 157464 f) {j : Nat} (hj : j < 4) : (sgn a f j).toInt = if 0 ≤ (f a).toInt then (f j).toInt else -(f j).toInt := by
  unfold sgn
  by_cases h : 0 ≤ (f a).toInt
  · rw [if_pos h, if_pos h]
  · rw [if_neg h, if_neg h, ti_neg (inR_of (by have := hf j hj; omega))]
/-- what enter has made of the rows before axis k -/
def Bef (R0 R : Nat → Nat → Int64) (k : Nat) : Prop := ∀ m, m < k → zbe m (R m) ∧ 0 ≤ (R m m).toInt ∧ rle 157464 (R m) ∧ (R0 m m = 0 → R m m = 0) ∧ (R m m = 0 → R0 m m = 0 ∧ ∀ j, j < 4 → R m j = 0)
theorem bef_tri {A : List Z4} {R0 R : Nat → Nat → Int64} {nr k : Nat} {c : Nat → Nat} (hC : Cx A R0 nr c) (hk : k ≤ 4) (hB : Bef R0 R k) (hE : ∀ m, k ≤ m → m < 4 → R m = R0 m) : Tri R ∧ (∀ m, m < 4 → rle 157464 (R m)) ∧ ∀ m, m < 4 → (R m m = 0 ↔ R0 m m = 0) := by
  obtain ⟨hT, hs, h9, hb, hh, hz⟩ := hC
  refine ⟨fun m hm => ?_, fun m hm => ?_, fun m hm => ?_⟩
  · by_cases l : m < k
    · obtain ⟨p1, p2, p3, p4, p5⟩ := hB m l
      exact ⟨p1, p2, fun e => (p5 e).2⟩
    · rw [hE m (by omega) hm]; exact hT m hm
  · by_cases l : m < k
    · exact (hB m l).2.2.1
    · rw [hE m (by omega) hm]; exact hb m hm
  · by_cases l : m < k
    · exact ⟨fun e => ((hB m l).2.2.2.2 e).1, (hB m l).2.2.2.1⟩
    · rw [hE m (by omega) hm]
/-- the answer of enter's loop -/
def enOut (o : (Int32 × (Nat → Int64) × (Nat → Int32) × (Nat → Int64)) ⊕ (Int32 × (Nat → Int64) × (Nat → Int32) × (Nat → Int64))) : Int32 × (Nat → Int64) × (Nat → Int32) × (Nat → Int64) := match o with
  | .inl a => a
  | .inr a => a
set_option maxHeartbeats 4000000 in
theorem enter_loop {A : List Z4} {R0 : Nat → Nat → Int64} {F nr : Nat} {c : Nat → Nat} {piv : Nat → Int32} {g : Z4} (hF : 200 ≤ F) (hC : Cx A R0 nr c) (hg : le4 9 g) :
    ∀ (d k n : Nat) (row w : Nat → Int64) (R : Nat → Nat → Int64), k + d = 4 → d < n → Rep nr c row piv R → (∀ m, k ≤ m → m < 4 → R m = R0 m) → Bef R0 R k → zbe k w → rle 157464 w → (rle 9 w ∨ ∀ l, k ≤ l → l < 4 → R0 l l ≠ 0 → 0 ≤ (w l).toInt ∧ (w l).toInt < (R0 l l).toInt) → (∀ j, j < 4 → R0 j j = 0 → (DD R0 j (z4 w)).natAbs ≤ 104976 * pp R0 k) → (∀ v, sp ([z4 w] ++ rl R) v ↔ sp (g :: A) v) →
    ∃ o nr' c' R', lM_enter_2 F n (nI k) (nI nr) row piv w = some o ∧ (enOut o).1 = nI nr' ∧ Rep nr' c' (enOut o).2.1 (enOut o).2.2.1 R' ∧ Cx (g :: A) R' nr' c' := by
  obtain ⟨hT, hs, h9, hb, hh, hz⟩ := id hC
  have h9' : ∀ x ∈ g :: A, le4 9 x := fun x hx => by
    rcases List.mem_cons.mp hx with rfl | hx
    · exact hg
    · exact h9 x hx
  intro d
  induction d with
  | zero =>
    intro k n row w R h1 h2 hR hE hB hw hw2 hw3 hD hsp
    obtain ⟨n, rfl⟩ : ∃ q, n = q + 1 := ⟨n - 1, by omega⟩
    have e : k = 4 := by omega
    subst e
    rw [lM_enter_2, if_pos (show (4 : Int32) ≤ nI 4 by decide)]
    obtain ⟨b1, b2, b3⟩ := bef_tri hC (Nat.le_refl _) hB hE
    refine ⟨_, nr, c, R, rfl, rfl, hR, b1, fun v => ?_, h9', b2, fun i hi e => hh i hi ((b3 _ (hR.2.1 i hi).1).mp e), fun k hk hno => (b3 k hk).mpr (hz k hk hno)⟩
    rw [← hsp v, z4_of0 (t := w) (fun j hj => hw j hj)]
    exact sp_same (fun x hx => sp_mem (List.mem_append_right _ hx)) (fun x hx => by
      rcases List.mem_append.mp hx with h | h
      · rw [List.mem_singleton.mp h]; exact sp_zero _
      · exact sp_mem h) v
  | succ d ih =>
    intro k n row w R h1 h2 hR hE hB hw hw2 hw3 hD hsp
    obtain ⟨n, rfl⟩ : ∃ q, n = q + 1 := ⟨n - 1, by omega⟩
    have hk : k < 4 := by omega
    have h4 : ¬ (4 : Int32) ≤ nI k := nI_ge (b := 4) hk (by decide)
    have hv : vp_in (nI k) 4 := vp_in_nI hk (by decide)
    have hmono : 104976 * pp R0 k ≤ 104976 * pp R0 (k + 1) := Nat.mul_le_mul_left _ (Nat.le_mul_of_pos_right _ (PN_pos hT hk))
    rw [lM_enter_2, if_neg h4, gd_t hv, nI_clamp (by omega)]
    by_cases h0 : w k = 0
    · rw [if_pos h0, nI_1]
      refine ih (k + 1) n row w R (by omega) (by omega) hR (fun m p q => hE m (by omega) q) (fun m hm => ?_) (fun j hj => ?_) hw2 ?_ (fun j hj e => Nat.le_trans (hD j hj e) hmono) hsp
      · by_cases e : m = k
        · subst e
          rw [hE m (Nat.le_refl _) hk]
          exact ⟨(hT m hk).1, (hT m hk).2.1, hb m hk, fun e => e, fun e => ⟨e, (hT m hk).2.2 e⟩⟩
        · exact hB m (by omega)
      · by_cases e : j = k
        · rw [e]; exact h0
        · exact hw j (by omega)
      · rcases hw3 with h | h
        · exact Or.inl h
        · exact Or.inr (fun l p q r => h l (by omega) q r)
    · rw [if_neg h0]
      rcases M_rowAt_eq (F := F) (by omega) hR.1 (fun i hi => ⟨(hR.2.1 i hi).1, (hR.2.1 i hi).2.1⟩) hk with ⟨i, hi, hci, hr⟩ | ⟨hno, hr⟩
      · -- a row with its pivot here
        rw [hr, Option.bind_some, if_pos (nI_pos' (by have := hR.1; omega))]
        have hpa : R0 k k ≠ 0 := by have := hh i hi; rw [hci] at this; exact this
        have hpos : 0 < (R0 k k).toInt := by
          have h5 := (hT k hk).2.1
          have h6 : (R0 k k).toInt ≠ 0 := fun e => hpa (ti_eq.mpr e)
          omega
        have hPN : PN R0 k = (R0 k k).toInt.natAbs := by unfold PN pv; rw [if_neg hpa]
        have hpk := hb k hk k hk
        have hPb := (piv_bound hT hs h9).1
        have hwk : (w k).toInt.natAbs ≤ 9 * (R0 k k).toInt.natAbs := by
          rcases hw3 with h | h
          · have := h k hk; omega
          · have := h k (Nat.le_refl _) hk hpa; omega
        have hDu : ∀ j, j < 4 → R0 j j = 0 → DD R0 j (z4 (R0 k)) = 0 := fun j hj e => detf_van hT hj e (sp_mem (rl_mem.mpr ⟨k, hk, rfl⟩))
        have hI : DI R0 k (104976 * pp R0 (k + 1)) (R0 k) w := by
          refine ⟨(hT k hk).1, hw, hb k hk, hw2, fun l p q r => ?_, fun j hj e => ?_, by omega, hwk⟩
          · rcases hw3 with h | h
            · have := Nat.mul_le_mul hpk (h l q)
              omega
            · have h5 := h l (by omega) q r
              have h6 := pv2_le hT hk q (show k ≠ l by omega)
              rw [show pv R0 k = (R0 k k).toInt from if_neg hpa, show pv R0 l = (R0 l l).toInt from if_neg r] at h6
              have h7 := Nat.mul_le_mul_left (R0 k k).toInt.natAbs (show (w l).toInt.natAbs ≤ (R0 l l).toInt.natAbs by omega)
              omega
          · rw [hDu j hj e]
            have h5 := hD j hj e
            refine ⟨?_, by rw [Int.natAbs_zero]; exact Nat.zero_le _, Nat.le_trans h5 hmono⟩
            rw [Int.natAbs_zero, Nat.mul_zero, Nat.add_zero]
            show _ ≤ 104976 * (pp R0 k * PN R0 k)
            rw [hPN, ← Nat.mul_assoc, Nat.mul_comm (104976 * pp R0 k)]
            exact Nat.mul_le_mul_left _ h5
        have hRu : Rep nr c row piv (va_up R k (R0 k)) := by
          rw [← hE k (Nat.le_refl _) hk, up_same]; exact hR
        obtain ⟨row', u', w', g1, g2, g3, g4, g5, g6, g7, g8, g9, g10, g11⟩ := M_divide_eq (Rb := R) (Ψ := 104976 * pp R0 (k + 1)) hF hC hk hi hci (Nat.mul_le_mul_left _ (pp_le hT (by omega))) (fun m p q => hE m (by omega) q) hRu hI h0
        rw [g1, Option.bind_some, nI_1]
        refine ih (k + 1) n row' w' (va_up R k u') (by omega) (by omega) g2 (fun m p q => by rw [va_up_ne _ _ (by omega)]; exact hE m (by omega) q) (fun m hm => ?_) g4 g6 (Or.inr (fun l p q r => g9 l (by omega) q r)) g10 (fun v => ?_)
        · by_cases e : m = k
          · subst e
            rw [va_up_self]
            exact ⟨g3, by omega, g5, fun e => absurd e hpa, fun e => by rw [e] at g7; exact absurd g7 (by decide)⟩
          · rw [va_up_ne _ _ e]; exact hB m (by omega)
        · rw [← hsp v, sp_pull hk, sp_pull (R := R) hk, va_up_self, up_up]
          have h5 := g11 (rl (va_up R k zf)) (fun m p q => sp_mem (rl_mem.mpr ⟨m, q, by rw [va_up_ne _ _ (by omega), hE m (by omega) q]⟩)) v
          rw [hE k (Nat.le_refl _) hk]
          exact h5
      · -- a new row
        rw [hr, Option.bind_some, if_neg (by decide)]
        have hpa : R0 k k = 0 := hz k hk hno
        obtain ⟨b1, b2, b3⟩ := bef_tri hC (by omega) hB hE
        obtain ⟨f, r1, t1, t2, t3⟩ := M_tidy_eq (F := F) (a := k) (by omega) hk (R := R) ⟨hR, fun m hm l e => hh m hm ((b3 _ (hR.2.1 m hm).1).mp e), fun m l1 l2 hno2 => (b3 m l2).mpr (hz m l2 hno2)⟩ (fun m p q => ⟨(b1 m q).1, (b1 m q).2.1, b2 m q⟩) (f := w) (fun _ _ => by have := hw2 1 (by decide); omega) (fun j p q => by have := hw2 j q; omega)
        rw [r1, Option.bind_some]
        obtain ⟨c', row', piv', s1, s2, s3, s4, s5⟩ := M_insert_eq (F := F) (f := f) (by omega) hR hk hno
        rw [s1, Option.bind_some]
        have hfk : f k = w k := t1 k (by omega)
        have hf0 : zbe k f := fun j hj => by rw [t1 j (by omega)]; exact hw j hj
        have hfk0 : (f k).toInt ≠ 0 := fun e => h0 (ti_eq.mpr (by rw [← hfk]; exact e))
        -- the numbers of f fit: on axes with pivots they are small, on the others too
        have hfr : rle 157464 f := by
          intro j hj
          by_cases l : j < k
          · rw [hf0 j l]; exact Nat.zero_le _
          · by_cases e : j = k
            · rw [e, hfk]; exact hw2 k hk
            · by_cases r : R0 j j = 0
              · have hDf : (DD R0 j (z4 f)).natAbs ≤ 104976 * pp R0 k := by
                  have x1 := detf_van hT hj r (t3 (rl R0) (fun m p q => sp_mem (rl_mem.mpr ⟨m, q, by rw [hE m (by omega) q]⟩)))
                  have x2 := DD_add (R := R0) hj (z4 f) (z4 w)
                  have x3 : DD R0 j (zsub (z4 f) (z4 w)) = 0 := x1
                  have x4 := hD j hj r
                  omega
                have h5 := ent2 hT hs h9 (v := z4 f) (a := k) hj r (Nat.le_trans hDf (Nat.mul_le_mul_left _ (pp_le hT (by omega)))) (fun i hi q r2 => ?_) ?_
                · rw [zc_z4 _ hj] at h5; omega
                · rw [zc_z4 _ hi]
                  by_cases l2 : i < k
                  · rw [hf0 i l2]; exact Nat.zero_le _
                  · have e2 : i ≠ k := fun q2 => r2 (by rw [q2]; exact hpa)
                    have h6 := t2 i (by omega) hi (fun q2 => r2 ((b3 i hi).mp q2))
                    have h7 := pv_le hT hi
                    rw [show pv R0 i = (R0 i i).toInt from if_neg r2] at h7
                    rw [hE i (by omega) hi] at h6
                    omega
                · exact fun q2 => absurd hpa q2
              · have h6 := t2 j (by omega) hj (fun q2 => r ((b3 j hj).mp q2))
                rw [hE j (by omega) hj] at h6
                have h8 := hb j hj j hj
                omega
        have hsg : ∀ j, j < 4 → (sgn k f j).toInt.natAbs = (f j).toInt.natAbs := fun j hj => by
          rw [sgn_ti hfr hj]
          by_cases q : 0 ≤ (f k).toInt
          · rw [if_pos q]
          · rw [if_neg q, Int.natAbs_neg]
        have hsk : 0 < (sgn k f k).toInt := by
          rw [sgn_ti hfr hk]
          by_cases q : 0 ≤ (f k).toInt
          · rw [if_pos q]; omega
          · rw [if_neg q]; omega
        have hs0 : zbe k (sgn k f) := fun j hj => ti_eq.mpr (by
          rw [sgn_ti hfr (by omega), hf0 j hj, show (0 : Int64).toInt = 0 from rfl]
          split <;> rfl)
        have hzs : ∃ e : Int, (e = 1 ∨ e = -1) ∧ z4 (sgn k f) = zmul e (z4 f) := by
          by_cases q : 0 ≤ (f k).toInt
          · refine ⟨1, Or.inl rfl, zc_ext fun i hi => ?_⟩
            rw [zc_mul, zc_z4 _ hi, zc_z4 _ hi, sgn_ti hfr hi, if_pos q]; omega
          · refine ⟨-1, Or.inr rfl, zc_ext fun i hi => ?_⟩
            rw [zc_mul, zc_z4 _ hi, zc_z4 _ hi, sgn_ti hfr hi, if_neg q]; omega
        obtain ⟨e, he, hze⟩ := hzs
        have hRk : ∀ m, m < 4 → m ≠ k → va_up R k (sgn k f) m = R m := fun m _ q => va_up_ne _ _ q
        have hT' : Tri (va_up R k (sgn k f)) := by
          intro m hm
          by_cases q : m = k
          · subst q
            rw [va_up_self]
            exact ⟨hs0, by omega, fun q2 => by rw [q2] at hsk; exact absurd hsk (by decide)⟩
          · rw [hRk m hm q]; exact b1 m hm
        have hspan : ∀ v, sp (rl (va_up R k (sgn k f))) v ↔ sp (g :: A) v := by
          intro v
          rw [← hsp v]
          refine sp_same (fun x hx => ?_) (fun x hx => ?_) v
          · obtain ⟨i, hi, rfl⟩ := rl_mem.mp hx
            by_cases q : i = k
            · subst q
              rw [va_up_self, hze]
              refine sp_mul e (sp_eq (sp_add (t3 ([z4 w] ++ rl R) (fun m p q => sp_mem (List.mem_append_right _ (rl_mem.mpr ⟨m, q, rfl⟩)))) (sp_mem (List.mem_append_left _ (List.mem_singleton.mpr rfl)))) (zc_ext fun i hi => ?_))
              simp only [zc_add, zc_sub]; omega
            · rw [hRk i hi q]
              exact sp_mem (List.mem_append_right _ (rl_mem.mpr ⟨i, hi, rfl⟩))
          · have hff : sp (rl (va_up R k (sgn k f))) (z4 f) := by
              have h5 : sp (rl (va_up R k (sgn k f))) (z4 (sgn k f)) := sp_mem (rl_mem.mpr ⟨k, hk, by rw [va_up_self]⟩)
              refine sp_eq (sp_mul e h5) (zc_ext fun i hi => ?_)
              rw [hze, zc_mul, zc_mul]
              rcases he with rfl | rfl <;> omega
            rcases List.mem_append.mp hx with h | h
            · rw [List.mem_singleton.mp h]
              refine sp_eq (sp_sub hff (t3 (rl (va_up R k (sgn k f))) (fun m p q => sp_mem (rl_mem.mpr ⟨m, q, by rw [hRk m q (by omega)]⟩)))) (zc_ext fun i hi => ?_)
              simp only [zc_sub]; omega
            · obtain ⟨i, hi, rfl⟩ := rl_mem.mp h
              by_cases q : i = k
              · subst q
                rw [row_z0 b1 hi ((b3 i hi).mpr hpa)]
                exact sp_zero _
              · exact sp_mem (rl_mem.mpr ⟨i, hi, by rw [hRk i hi q]⟩)
        refine ⟨_, nr + 1, c', va_up R k (sgn k f), rfl, rfl, s2, hT', hspan, h9', fun m hm => ?_, fun i hi => ?_, fun m hm hno2 => ?_⟩
        · by_cases q : m = k
          · subst q
            rw [va_up_self]
            intro j hj
            rw [hsg j hj]; exact hfr j hj
          · rw [hRk m hm q]; exact b2 m hm
        · rcases s4 i hi with q | ⟨m, hm, q⟩
          · rw [q, va_up_self]
            intro q2
            rw [q2] at hsk
            exact absurd hsk (by decide)
          · have hcm := (hR.2.1 m hm).1
            rw [q, hRk (c m) hcm (hno m hm)]
            exact fun q2 => hh m hm ((b3 _ hcm).mp q2)
        · obtain ⟨i0, hi0, q0⟩ := s3
          have hmk : m ≠ k := fun q => hno2 i0 hi0 (by rw [q0, q])
          rw [hRk m hm hmk]
          refine (b3 m hm).mpr (hz m hm (fun i hi q => ?_))
          obtain ⟨i1, hi1, q1⟩ := s5 i hi
          exact hno2 i1 hi1 (by rw [q1, q])
theorem M_enter_eq {A : List Z4} {R : Nat → Nat → Int64} {F nr : Nat} {c : Nat → Nat} {row f : Nat → Int64} {piv : Nat → Int32} (hF : 200 ≤ F) (hC : Cx A R nr c) (hR : Rep nr c row piv R) (hf : le4 9 (z4 f)) : ∃ nr' c' row' piv' f' R', M_enter F (nI nr) row piv f = some (nI nr', row', piv', f') ∧ Rep nr' c' row' piv' R' ∧ Cx (z4 f :: A) R' nr' c' := by
  obtain ⟨hT, hs, h9, hb, hh, hz⟩ := id hC
  have h9f := rle_of hf
  obtain ⟨o, nr', c', R', o1, o2, o3, o4⟩ := enter_loop (piv := piv) (g := z4 f) hF hC hf 4 0 F row f R rfl (by omega) hR (fun m _ _ => rfl) (fun m hm => absurd hm (by omega)) (fun j hj => absurd hj (by omega)) (fun j hj => Nat.le_trans (h9f j hj) (by decide)) (Or.inl h9f) (fun j hj e => by
    show _ ≤ 104976 * 1
    have := dg_le hT hs h9 hf hj e
    omega) (fun v => by
    refine sp_same (fun x hx => ?_) (fun x hx => ?_) v
    · rcases List.mem_append.mp hx with h | h
      · rw [List.mem_singleton.mp h]; exact sp_head
      · exact sp_tail ((hs x).mp (sp_mem h))
    · rcases List.mem_cons.mp hx with rfl | h
      · exact sp_mem (List.mem_append_left _ (List.mem_singleton.mpr rfl))
      · exact sp_sub_of (A := rl R) (fun y hy => sp_mem (List.mem_append_right _ hy)) x ((hs x).mpr (sp_mem h)))
  unfold M_enter
  rw [show (0 : Int32) = nI 0 from rfl, o1, Option.bind_some]
  cases o with
  | inl a => exact ⟨nr', c', a.2.1, a.2.2.1, a.2.2.2, R', by show some (a.1, _) = _; rw [show a.1 = nI nr' from o2], o3, o4⟩
  | inr a => exact ⟨nr', c', a.2.1, a.2.2.1, a.2.2.2, R', by show some a = _; rw [show nI nr' = a.1 from o2.symm], o3, o4⟩
