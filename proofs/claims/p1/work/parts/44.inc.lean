/-! Layer B: include's first loop -/
theorem inc_go {F n k : Nat} (hk : k < 4) {R R' : Nat → Nat → Int64} {t t' g : Nat → Int64} (h : E_merge F R t (nI k) = some (R', t')) : lE_include_10 F g (n + 1) (nI k) R t = lE_include_10 F g n (nI (k + 1)) R' t' := by
  have h4 : ¬ (4 : Int32) ≤ nI k := nI_ge (b := 4) hk (by decide)
  rw [lE_include_10, if_neg h4, gd_t (vp_in_nI hk (by decide)), h, Option.bind_some, nI_1]
theorem inc10 {F : Nat} (hF : 200 ≤ F) {R : Nat → Nat → Int64} {t : Nat → Int64} (g : Nat → Int64) (hT : Tri R) (hR : ∀ k, k < 4 → rle 157464 (R k)) (ht : rle 9 t) :
    ∃ R' t', lE_include_10 F g F 0 R t = some (R', t') ∧ Tri R' ∧ (∀ j, 0 < j → j < 4 → (R' 0 j).toInt.natAbs ≤ 2991816) ∧ (∀ j, 1 < j → j < 4 → (R' 1 j).toInt.natAbs ≤ 942206786712) ∧ (R' 2 3).toInt.natAbs ≤ 296727298925794200 ∧ ∀ v, sp (rl R') v ↔ sp ([z4 t] ++ rl R) v := by
  obtain ⟨r0, t1, a1, a2, a3, a4, a5, a6⟩ := merge_tri (X := 9) hF (k := 0) (by decide) (by decide) (by decide) hT (hR 0 (by decide)) (fun j hj => absurd hj (by omega)) ht
  have e1 : ∀ k, k ≠ 0 → va_up R 0 r0 k = R k := fun k h => va_up_ne _ _ h
  obtain ⟨r1, t2, b1, b2, b3, b4, b5, b6⟩ := merge_tri (X := 2991816) hF (k := 1) (by decide) (by decide) (by decide) a2 (by rw [e1 1 (by decide)]; exact hR 1 (by decide)) a3 a5
  have e2 : ∀ k, k ≠ 1 → va_up (va_up R 0 r0) 1 r1 k = va_up R 0 r0 k := fun k h => va_up_ne _ _ h
  obtain ⟨r2, t3, c1, c2, c3, c4, c5, c6⟩ := merge_tri (X := 942206786712) hF (k := 2) (by decide) (by decide) (by decide) b2 (by rw [e2 2 (by decide), e1 2 (by decide)]; exact hR 2 (by decide)) b3 b5
  have e3 : ∀ k, k ≠ 2 → va_up (va_up (va_up R 0 r0) 1 r1) 2 r2 k = va_up (va_up R 0 r0) 1 r1 k := fun k h => va_up_ne _ _ h
  obtain ⟨r3, t4, d1, d2, d3, d4, d5, d6⟩ := merge_tri (X := 296727298925794200) hF (k := 3) (by decide) (by decide) (fun h => absurd h (by decide)) c2 (by rw [e3 3 (by decide), e2 3 (by decide), e1 3 (by decide)]; exact hR 3 (by decide)) c3 c5
  have e4 : ∀ k, k ≠ 3 → va_up (va_up (va_up (va_up R 0 r0) 1 r1) 2 r2) 3 r3 k = va_up (va_up (va_up R 0 r0) 1 r1) 2 r2 k := fun k h => va_up_ne _ _ h
  obtain ⟨n, rfl⟩ : ∃ n, F = n + 5 := ⟨F - 5, by omega⟩
  refine ⟨_, t4, ?_, d2, fun j h1 h2 => ?_, fun j h1 h2 => ?_, ?_, fun v => ?_⟩
  · rw [show (0 : Int32) = nI 0 from rfl, inc_go (by decide) a1, inc_go (by decide) b1, inc_go (by decide) c1, inc_go (by decide) d1, lE_include_10, if_pos (by decide)]
  · rw [e4 0 (by decide), e3 0 (by decide), e2 0 (by decide), va_up_self]; exact a4 j h1 h2
  · rw [e4 1 (by decide), e3 1 (by decide), va_up_self]; exact b4 j h1 h2
  · rw [e4 2 (by decide), va_up_self]; exact c4 3 (by decide) (by decide)
  · rw [← a6 v, ← b6 v, ← c6 v, ← d6 v, z4_of0 (t := t4) (fun j hj => d3 j hj)]
    exact sp_same (fun g hg => sp_mem (List.mem_append_right _ hg)) (fun g hg => by
      rcases List.mem_append.mp hg with h | h
      · rw [List.mem_singleton.mp h]; exact sp_zero _
      · exact sp_mem h) v
