/-! Layer B: reduce: either its rows are reduced, or every one of a million rounds has lowered the sum of the squares -/
def nch (m : Nat) : Nat := if m ≤ 1 then 1 else if m = 2 then 5 else if m = 3 then 25 else 125
theorem sums6 {F m : Nat} (hF : 5 ≤ F) (hm : m ≤ 4) : lB_shortenBySums_6 F (nI m) 0 F 1 1 = some (nI (nch m)) := by
  obtain ⟨n, rfl⟩ : ∃ n, F = n + 5 := ⟨F - 5, by omega⟩
  rcases (show m = 0 ∨ m = 1 ∨ m = 2 ∨ m = 3 ∨ m = 4 by omega) with rfl | rfl | rfl | rfl | rfl
  · rw [lB_shortenBySums_6, if_pos (by decide)]; rfl
  · rw [lB_shortenBySums_6, if_pos (by decide)]; rfl
  · rw [lB_shortenBySums_6, if_neg (by decide), lB_shortenBySums_6, if_pos (by decide)]; rfl
  · rw [lB_shortenBySums_6, if_neg (by decide), lB_shortenBySums_6, if_neg (by decide), lB_shortenBySums_6, if_pos (by decide)]; rfl
  · rw [lB_shortenBySums_6, if_neg (by decide), lB_shortenBySums_6, if_neg (by decide), lB_shortenBySums_6, if_neg (by decide), lB_shortenBySums_6, if_pos (by decide)]; rfl
theorem B_sums_eq {F m : Nat} {W : Int} {R : Nat → Nat → Int64} {T : Nat → Int64} (hF : 130 ≤ F) (hm : m ≤ 4) (hW : W ≤ 1000000000000) (hR : ∀ i, i < m → zsq (z4 (R i)) ≤ W) : ∃ T', (B_shortenBySums F R T (nI m) = some (0, R, T') ∧ ∀ y, y < m → nc m (nch m) R y 0) ∨ ∃ R', B_shortenBySums F R T (nI m) = some (1, R', T') ∧ Rl m W R R' ∧ SQ R' m < SQ R m := by
  have hN : nch m ≤ 125 := by
    rcases (show m = 0 ∨ m = 1 ∨ m = 2 ∨ m = 3 ∨ m = 4 by omega) with rfl | rfl | rfl | rfl | rfl <;> decide
  obtain ⟨v', R', T', g1, g2, g3⟩ := sums26 (F := F) hF hm hW hN m F 0 0 R T (by omega) (by omega) hR
  have g1 : lB_shortenBySums_26 F (nI m) (nI (nch m)) F 0 0 R T = some (v', R', T') := g1
  refine ⟨T', ?_⟩
  unfold B_shortenBySums
  rw [sums6 (by omega) hm, Option.bind_some, g1, Option.bind_some]
  dsimp only
  rcases g3 with ⟨rfl, rfl, c⟩ | ⟨rfl, c⟩
  · left
    rw [gd_t (show narrow .boolean (.int 0) = .int 0 from rfl)]
    exact ⟨rfl, fun y q => c y (Nat.zero_le _) q⟩
  · right
    rw [gd_t (show narrow .boolean (.int 1) = .int 1 from rfl)]
    exact ⟨R', rfl, g2, c⟩
/-- all pairs are reduced, and no choice of factors makes a row shorter -/
def Redd (m : Nat) (R : Nat → Nat → Int64) : Prop := (∀ y x, y < m → x < m → x ≠ y → pr R y x) ∧ ∀ y, y < m → nc m (nch m) R y 0
theorem red4 {F m : Nat} {W : Int} (hF : 130 ≤ F) (hm : m ≤ 4) (hW : W ≤ 1000000000000) : ∀ (d n s : Nat) (R : Nat → Nat → Int64) (T : Nat → Int64), s + d = 1000000 → d < n → (∀ i, i < m → zsq (z4 (R i)) ≤ W) → ∃ R' T', lB_reduce_4 F (nI m) n 1 (nI s) R T = some (R', T') ∧ Rl m W R R' ∧ (Redd m R' ∨ SQ R' m + d ≤ SQ R m) := by
  intro d
  induction d with
  | zero =>
    intro n s R T h1 h2 hR
    obtain ⟨n, rfl⟩ : ∃ q, n = q + 1 := ⟨n - 1, by omega⟩
    have e : s = 1000000 := by omega
    subst e
    exact ⟨R, T, by rw [lB_reduce_4, if_pos (by decide)], ⟨fun _ => Iff.rfl, hR, Int.le_refl _⟩, Or.inr (by omega)⟩
  | succ d ih =>
    intro n s R T h1 h2 hR
    obtain ⟨n, rfl⟩ : ∃ q, n = q + 1 := ⟨n - 1, by omega⟩
    rw [lB_reduce_4, if_neg (many_not (by omega)), if_neg (show ¬ (1 : Int32) = 0 by decide)]
    rcases B_shortenByPairs_eq (F := F) (by omega) hm hW hR with ⟨p1, p2⟩ | ⟨R1, p1, p2, p3⟩
    · rw [p1, Option.bind_some, if_pos rfl]
      dsimp only
      obtain ⟨T1, ⟨q1, q2⟩ | ⟨R1, q1, q2, q3⟩⟩ := B_sums_eq (F := F) (T := T) hF hm hW hR
      · rw [q1, Option.bind_some, if_pos rfl]
        dsimp only
        obtain ⟨n, rfl⟩ : ∃ q, n = q + 1 := ⟨n - 1, by omega⟩
        refine ⟨R, T1, ?_, ⟨fun _ => Iff.rfl, hR, Int.le_refl _⟩, Or.inl ⟨p2, q2⟩⟩
        rw [lB_reduce_4, nI_1]
        by_cases c : (1000000 : Int32) ≤ nI (s + 1)
        · rw [if_pos c]
        · rw [if_neg c, if_pos rfl]
      · rw [q1, Option.bind_some, if_neg (show ¬ (1 : Int32) = 0 by decide), nI_1]
        dsimp only
        obtain ⟨R', T', g1, g2, g3⟩ := ih n (s + 1) R1 T1 (by omega) (by omega) q2.2.1
        refine ⟨R', T', g1, q2.trans g2, ?_⟩
        rcases g3 with g3 | g3
        · exact Or.inl g3
        · exact Or.inr (by omega)
    · rw [p1, Option.bind_some, if_neg (show ¬ (1 : Int32) = 0 by decide), nI_1]
      dsimp only
      obtain ⟨R', T', g1, g2, g3⟩ := ih n (s + 1) R1 T (by omega) (by omega) p2.2.1
      refine ⟨R', T', g1, p2.trans g2, ?_⟩
      rcases g3 with g3 | g3
      · exact Or.inl g3
      · exact Or.inr (by omega)
theorem SQ_nonneg (R : Nat → Nat → Int64) : ∀ m, 0 ≤ SQ R m
  | 0 => Int.le_refl _
  | m + 1 => by
    have := SQ_nonneg R m
    have := zsq_nonneg (z4 (R m))
    show 0 ≤ SQ R m + _
    omega
/-- reduce over any basis; what is left: that the sum of the squares can't fall a million times -/
theorem B_reduce_eq {F m : Nat} {W : Int} {R : Nat → Nat → Int64} {T : Nat → Int64} (hF : 1000002 ≤ F) (hm : m ≤ 4) (hW : W ≤ 1000000000000) (hR : ∀ i, i < m → zsq (z4 (R i)) ≤ W) : ∃ R' T', B_reduce F R T (nI m) = some (R', T') ∧ Rl m W R R' ∧ (Redd m R' ∨ SQ R' m + 1000000 ≤ SQ R m) := by
  obtain ⟨R', T', g1, g2, g3⟩ := red4 (F := F) (by omega) hm hW 1000000 F 0 R T rfl (by omega) hR
  refine ⟨R', T', ?_, g2, g3⟩
  unfold B_reduce
  have g1 : lB_reduce_4 F (nI m) F 1 0 R T = some (R', T') := g1
  rw [g1]
  rfl
theorem B_reduce_small {F m : Nat} {W : Int} {R : Nat → Nat → Int64} {T : Nat → Int64} (hF : 1000002 ≤ F) (hm : m ≤ 4) (hW : W ≤ 1000000000000) (hR : ∀ i, i < m → zsq (z4 (R i)) ≤ W) (hS : SQ R m < 1000000) : ∃ R' T', B_reduce F R T (nI m) = some (R', T') ∧ Rl m W R R' ∧ Redd m R' := by
  obtain ⟨R', T', g1, g2, g3⟩ := B_reduce_eq (T := T) hF hm hW hR
  refine ⟨R', T', g1, g2, ?_⟩
  rcases g3 with g3 | g3
  · exact g3
  · have := SQ_nonneg R' m
    omega
