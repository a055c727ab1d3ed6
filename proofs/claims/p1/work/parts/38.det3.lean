/-! Layer B: the determinant of four rows divides that of any four vectors of their lattice -/
set_option maxHeartbeats 4000000 in
theorem det_rows (r0 r1 r2 r3 : Z4) : ∀ a ∈ [r0, r1, r2, r3], ∀ b ∈ [r0, r1, r2, r3], ∀ c ∈ [r0, r1, r2, r3], ∀ d ∈ [r0, r1, r2, r3], det4 r0 r1 r2 r3 ∣ det4 a b c d := by
  intro a ha b hb c hc d hd
  simp only [List.mem_cons, List.not_mem_nil, or_false] at ha hb hc hd
  rcases ha with rfl | rfl | rfl | rfl <;> rcases hb with rfl | rfl | rfl | rfl <;> first
    | (rw [det_ab]; exact Int.dvd_zero _)
    | (rcases hc with rfl | rfl | rfl | rfl <;> first
        | (rw [det_ac]; exact Int.dvd_zero _)
        | (rw [det_bc]; exact Int.dvd_zero _)
        | (rcases hd with rfl | rfl | rfl | rfl <;> first
            | (rw [det_ad]; exact Int.dvd_zero _)
            | (rw [det_bd]; exact Int.dvd_zero _)
            | (rw [det_cd]; exact Int.dvd_zero _)
            | exact ⟨1, by unfold det4; grind⟩
            | exact ⟨-1, by unfold det4; grind⟩))
theorem det_lat (r0 r1 r2 r3 : Z4) {a b c d : Z4} (ha : sp [r0, r1, r2, r3] a) (hb : sp [r0, r1, r2, r3] b) (hc : sp [r0, r1, r2, r3] c) (hd : sp [r0, r1, r2, r3] d) : det4 r0 r1 r2 r3 ∣ det4 a b c d := det_dvd (det_rows r0 r1 r2 r3) ha hb hc hd
/-- of a lattice that is told by A and by four rows whose determinant isn't 0: some four of A have a determinant that isn't 0, and the rows' divides it -/
theorem det_some {A : List Z4} {r0 r1 r2 r3 : Z4} (h1 : ∀ g ∈ A, sp [r0, r1, r2, r3] g) (h2 : ∀ g ∈ [r0, r1, r2, r3], sp A g) (hD : det4 r0 r1 r2 r3 ≠ 0) : ∃ a ∈ A, ∃ b ∈ A, ∃ c ∈ A, ∃ d ∈ A, det4 a b c d ≠ 0 ∧ det4 r0 r1 r2 r3 ∣ det4 a b c d := by
  refine Classical.byContradiction fun hno => hD ?_
  refine det_van (A := A) (fun a ha b hb c hc d hd => ?_) (h2 _ (by simp)) (h2 _ (by simp)) (h2 _ (by simp)) (h2 _ (by simp))
  refine Classical.byContradiction fun hne => hno ⟨a, ha, b, hb, c, hc, d, hd, hne, det_lat r0 r1 r2 r3 (h1 a ha) (h1 b hb) (h1 c hc) (h1 d hd)⟩
/-- so it is at most what four of A can have -/
theorem det_bound {A : List Z4} {r0 r1 r2 r3 : Z4} (h1 : ∀ g ∈ A, sp [r0, r1, r2, r3] g) (h2 : ∀ g ∈ [r0, r1, r2, r3], sp A g) (h9 : ∀ g ∈ A, le4 9 g) : (det4 r0 r1 r2 r3).natAbs ≤ 157464 := by
  by_cases hD : det4 r0 r1 r2 r3 = 0
  · rw [hD]; decide
  · obtain ⟨a, ha, b, hb, c, hc, d, hd, hne, hdv⟩ := det_some h1 h2 hD
    have h3 := Nat.le_of_dvd (by omega) (Int.natAbs_dvd_natAbs.mpr hdv)
    have h4 := det_9 (h9 a ha) (h9 b hb) (h9 c hc) (h9 d hd)
    omega
