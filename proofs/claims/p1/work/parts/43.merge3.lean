/-! Layer B: merge with its sign; the rows of an Echelon and what they span -/
def rl (R : Nat → Nat → Int64) : List Z4 := [z4 (R 0), z4 (R 1), z4 (R 2), z4 (R 3)]
theorem rl_mem {R : Nat → Nat → Int64} {g : Z4} : g ∈ rl R ↔ ∃ i, i < 4 ∧ g = z4 (R i) := by
  unfold rl
  constructor
  · intro h
    simp only [List.mem_cons, List.not_mem_nil, or_false] at h
    rcases h with h | h | h | h
    · exact ⟨0, by decide, h⟩
    · exact ⟨1, by decide, h⟩
    · exact ⟨2, by decide, h⟩
    · exact ⟨3, by decide, h⟩
  · rintro ⟨i, hi, rfl⟩
    rcases (show i = 0 ∨ i = 1 ∨ i = 2 ∨ i = 3 by omega) with rfl | rfl | rfl | rfl <;> simp
def zf : Nat → Int64 := fun _ => 0
theorem z4_zf : z4 zf = z0 := by
  have e0 : (0 : Int64).toInt = 0 := by decide
  exact zext e0 e0 e0 e0
theorem z4_of0 {t : Nat → Int64} (h : ∀ j, j < 4 → t j = 0) : z4 t = z0 := by
  have e0 : (0 : Int64).toInt = 0 := by decide
  exact zext (by show (t 0).toInt = _; rw [h 0 (by decide)]; exact e0) (by show (t 1).toInt = _; rw [h 1 (by decide)]; exact e0) (by show (t 2).toInt = _; rw [h 2 (by decide)]; exact e0) (by show (t 3).toInt = _; rw [h 3 (by decide)]; exact e0)
theorem sp_pull {R : Nat → Nat → Int64} {k : Nat} (hk : k < 4) (X : List Z4) (v : Z4) : sp (X ++ rl R) v ↔ sp (z4 (R k) :: (X ++ rl (va_up R k zf))) v := by
  refine sp_same (fun g hg => ?_) (fun g hg => ?_) v
  · rcases List.mem_append.mp hg with h | h
    · exact sp_tail (sp_mem (List.mem_append_left _ h))
    · obtain ⟨i, hi, rfl⟩ := rl_mem.mp h
      by_cases e : i = k
      · subst e; exact sp_head
      · refine sp_tail (sp_mem (List.mem_append_right _ (rl_mem.mpr ⟨i, hi, ?_⟩)))
        rw [va_up_ne _ _ e]
  · rcases List.mem_cons.mp hg with rfl | h
    · exact sp_mem (List.mem_append_right _ (rl_mem.mpr ⟨k, hk, rfl⟩))
    · rcases List.mem_append.mp h with h | h
      · exact sp_mem (List.mem_append_left _ h)
      · obtain ⟨i, hi, rfl⟩ := rl_mem.mp h
        by_cases e : i = k
        · subst e; rw [va_up_self, z4_zf]; exact sp_zero _
        · rw [va_up_ne _ _ e]; exact sp_mem (List.mem_append_right _ (rl_mem.mpr ⟨i, hi, rfl⟩))
theorem z4_neg {r : Nat → Int64} (h : ∀ j, j < 4 → (r j).toInt.natAbs < 9223372036854775808) : ∀ j, j < 4 → (add4 r r (-2) j).toInt = -(r j).toInt := by
  intro j hj
  have e : (-2 : Int64).toInt = -2 := by decide
  have h1 := h j hj
  have h2 : add4 r r (-2) j = r j + (-2) * r j := if_pos hj
  rw [h2, ti_fma (by rw [e]; exact inR_of (by omega)), e]
  omega
/-- merge: Euclid on axis k, the row's sign mended -/
theorem E_merge_eq {F k Φ : Nat} (hF : 200 ≤ F) (hk : k < 4) (hΦ : Φ < 9223372036854775808) {R : Nat → Nat → Int64} {t : Nat → Int64} (h0 : 0 ≤ (R k k).toInt) (h2 : (t k).toInt.natAbs < 9223372036854775808) (hr : zbe k (R k)) (ht : zbe k t) (hE : Eu k Φ (R k) t) :
    ∃ r' t', E_merge F R t (nI k) = some (va_up R k r', t') ∧ t' k = 0 ∧ zbe k r' ∧ zbe k t' ∧ (∀ j, k < j → j < 4 → (r' j).toInt.natAbs ≤ Φ ∧ (t' j).toInt.natAbs ≤ Φ) ∧ 0 ≤ (r' k).toInt ∧ (r' k ≠ 0 ∨ (r' = R k ∧ t' = t)) ∧ ∀ v, sp ([z4 t'] ++ rl (va_up R k r')) v ↔ sp ([z4 t] ++ rl R) v := by
  have h1 : (R k k).toInt.natAbs < 9223372036854775808 := by have := (ti_in (R k k)).2; omega
  obtain ⟨r', t', g1, g2, g3, g4, g5, g6, g7, g8⟩ := merge_loop hF hk hΦ h1 h2 hr ht hE
  have hv : vp_in (nI k) 4 := vp_in_nI hk (by decide)
  have hc : (nI k).toNatClampNeg = k := nI_clamp (by omega)
  have span : ∀ r1, (∀ X v, sp (z4 r1 :: X) v ↔ sp (z4 r' :: X) v) → ∀ v, sp ([z4 t'] ++ rl (va_up R k r1)) v ↔ sp ([z4 t] ++ rl R) v := by
    intro r1 hr1 v
    rw [sp_pull hk, sp_pull (R := R) hk, va_up_self, up_up, hr1]
    exact g8 _ v
  unfold E_merge
  rw [hc]
  have e0 : (0 : Int32) = nI 0 := by decide
  rw [e0, g1, Option.bind_some, gd_t hv]
  dsimp only
  by_cases hp : (0 : Int64) ≤ r' k
  · rw [if_pos (show (0 : Int64) ≤ va_up R k r' k k by rw [va_up_self]; exact hp)]
    exact ⟨r', t', rfl, g2, g3, g4, g5, ti_le.mp hp, g7, span r' (fun X v => Iff.rfl)⟩
  · rw [if_neg (show ¬ (0 : Int64) ≤ va_up R k r' k k by rw [va_up_self]; exact hp), va_up_self, V_addMultipleA_eq (by omega), Option.bind_some, up_up]
    have hneg : (r' k).toInt < 0 := by
      have := mt ti_le.mpr hp
      rw [show (0 : Int64).toInt = 0 from rfl] at this
      omega
    have hb : ∀ j, j < 4 → (r' j).toInt.natAbs < 9223372036854775808 := by
      intro j hj
      by_cases e : j = k
      · subst e; exact g6
      · by_cases l : j < k
        · rw [g3 j l]; decide
        · have := (g5 j (by omega) hj).1; omega
    have hz := z4_neg hb
    have hz4 : z4 (add4 r' r' (-2)) = zmul (-1) (z4 r') := zext (by show _ = -1 * _; rw [show (z4 (add4 r' r' (-2))).1 = (add4 r' r' (-2) 0).toInt from rfl, hz 0 (by decide)]; show _ = -1 * (r' 0).toInt; omega) (by show (add4 r' r' (-2) 1).toInt = -1 * (r' 1).toInt; rw [hz 1 (by decide)]; omega) (by show (add4 r' r' (-2) 2).toInt = -1 * (r' 2).toInt; rw [hz 2 (by decide)]; omega) (by show (add4 r' r' (-2) 3).toInt = -1 * (r' 3).toInt; rw [hz 3 (by decide)]; omega)
    refine ⟨add4 r' r' (-2), t', rfl, g2, fun j hj => ?_, g4, fun j h3 h4 => ?_, ?_, ?_, span _ (fun X v => ?_)⟩
    · exact ti_eq.mpr (by rw [hz j (by omega), g3 j hj]; decide)
    · rw [hz j h4, Int.natAbs_neg]; exact g5 j h3 h4
    · rw [hz k hk]; omega
    · refine Or.inl fun e => ?_
      have h5 := hz k hk
      rw [e, show (0 : Int64).toInt = 0 from rfl] at h5
      omega
    · rw [hz4]
      refine sp_same (fun g hg => ?_) (fun g hg => ?_) v
      · rcases List.mem_cons.mp hg with rfl | hg
        · exact sp_mul (-1) sp_head
        · exact sp_tail (sp_mem hg)
      · rcases List.mem_cons.mp hg with rfl | hg
        · refine sp_eq (sp_mul (-1) sp_head) (zext ?_ ?_ ?_ ?_) <;> simp only [zmul] <;> omega
        · exact sp_tail (sp_mem hg)
/-- row k is 0 before axis k and not negative on it; where it is 0 on axis k it is 0 -/
def Tri (R : Nat → Nat → Int64) : Prop := ∀ k, k < 4 → zbe k (R k) ∧ 0 ≤ (R k k).toInt ∧ (R k k = 0 → ∀ j, j < 4 → R k j = 0)
def rle (M : Nat) (a : Nat → Int64) : Prop := ∀ j, j < 4 → (a j).toInt.natAbs ≤ M
theorem merge_tri {F k X : Nat} (hF : 200 ≤ F) (hk : k < 4) (hX : X < 9223372036854775808) (hX2 : k < 3 → 314928 * X + 157464 < 9223372036854775808) {R : Nat → Nat → Int64} {t : Nat → Int64} (hT : Tri R) (hR : rle 157464 (R k)) (ht : zbe k t) (h2 : rle X t) :
    ∃ r' t', E_merge F R t (nI k) = some (va_up R k r', t') ∧ Tri (va_up R k r') ∧ zbe (k + 1) t' ∧ (∀ j, k < j → j < 4 → (r' j).toInt.natAbs ≤ 314928 * X + 157464) ∧ rle (314928 * X + 157464) t' ∧ ∀ v, sp ([z4 t'] ++ rl (va_up R k r')) v ↔ sp ([z4 t] ++ rl R) v := by
  obtain ⟨hz, h0, hh⟩ := hT k hk
  obtain ⟨Φ, hΦ1, hΦ2, hΦ3⟩ : ∃ Φ, Φ < 9223372036854775808 ∧ Φ ≤ 314928 * X + 157464 ∧ Eu k Φ (R k) t := by
    by_cases e : k < 3
    · refine ⟨314928 * X + 157464, hX2 e, Nat.le_refl _, fun j h3 h4 => ⟨?_, ?_, ?_⟩⟩
      · have a1 := Nat.mul_le_mul (hR k hk) (h2 j h4)
        have a2 := Nat.mul_le_mul (h2 k hk) (hR j h4)
        omega
      · have := hR j h4; omega
      · have := h2 j h4; omega
    · exact ⟨0, by decide, Nat.zero_le _, fun j h3 h4 => by omega⟩
  obtain ⟨r', t', g1, g2, g3, g4, g5, g6, g7, g8⟩ := E_merge_eq hF hk hΦ1 h0 (Nat.lt_of_le_of_lt (h2 k hk) hX) hz ht hΦ3
  refine ⟨r', t', g1, fun i hi => ?_, fun j hj => ?_, fun j h3 h4 => Nat.le_trans (g5 j h3 h4).1 hΦ2, fun j hj => ?_, g8⟩
  · by_cases e : i = k
    · subst e
      rw [va_up_self]
      refine ⟨g3, g6, fun e9 => ?_⟩
      rcases g7 with g7 | g7
      · exact absurd e9 g7
      · rw [g7.1] at e9 ⊢; exact hh e9
    · rw [va_up_ne _ _ e]; exact hT i hi
  · by_cases e : j = k
    · subst e; exact g2
    · exact g4 j (by omega)
  · by_cases e : j = k
    · subst e; rw [g2]; exact Nat.zero_le _
    · by_cases l : j < k
      · rw [g4 j l]; exact Nat.zero_le _
      · exact Nat.le_trans (g5 j (by omega) hj).2 hΦ2
