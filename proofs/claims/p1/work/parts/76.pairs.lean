/-! Layer B: a sweep of pairs -/
def usl (m : Nat) (R : Nat → Nat → Int64) : List Z4 := (List.range m).map (fun i => z4 (R i))
theorem usl_mem {m : Nat} {R : Nat → Nat → Int64} {g : Z4} : g ∈ usl m R ↔ ∃ i, i < m ∧ g = z4 (R i) := by
  unfold usl
  constructor
  · intro h
    obtain ⟨i, hi, e⟩ := List.mem_map.mp h
    exact ⟨i, List.mem_range.mp hi, e.symm⟩
  · rintro ⟨i, hi, rfl⟩
    exact List.mem_map.mpr ⟨i, List.mem_range.mpr hi, rfl⟩
theorem usl_add {m k o : Nat} {R : Nat → Nat → Int64} (hk : k < m) (ho : o < m) (hko : o ≠ k) (c : Int) {r : Nat → Int64} (h : z4 r = zadd (z4 (R k)) (zmul c (z4 (R o)))) (v : Z4) : sp (usl m (va_up R k r)) v ↔ sp (usl m R) v := by
  refine sp_same (fun g hg => ?_) (fun g hg => ?_) v
  · obtain ⟨i, hi, rfl⟩ := usl_mem.mp hg
    by_cases e : i = k
    · subst e
      rw [va_up_self, h]
      exact sp_add (sp_mem (usl_mem.mpr ⟨i, hi, rfl⟩)) (sp_mul c (sp_mem (usl_mem.mpr ⟨o, ho, rfl⟩)))
    · rw [va_up_ne _ _ e]; exact sp_mem (usl_mem.mpr ⟨i, hi, rfl⟩)
  · obtain ⟨i, hi, rfl⟩ := usl_mem.mp hg
    by_cases e : i = k
    · subst e
      have h1 : sp (usl m (va_up R i r)) (z4 r) := sp_mem (usl_mem.mpr ⟨i, hi, by rw [va_up_self]⟩)
      have h2 : sp (usl m (va_up R i r)) (z4 (R o)) := sp_mem (usl_mem.mpr ⟨o, ho, by rw [va_up_ne _ _ hko]⟩)
      refine sp_eq (sp_sub h1 (sp_mul c h2)) ?_
      rw [h]
      refine zext ?_ ?_ ?_ ?_ <;> simp only [zsub, zadd, zmul] <;> omega
    · exact sp_mem (usl_mem.mpr ⟨i, hi, by rw [va_up_ne _ _ e]⟩)
/-- the sum of the rows' squares -/
def SQ (R : Nat → Nat → Int64) : Nat → Int
  | 0 => 0
  | m + 1 => SQ R m + zsq (z4 (R m))
theorem SQ_out {R : Nat → Nat → Int64} {k : Nat} {r : Nat → Int64} : ∀ {m : Nat}, m ≤ k → SQ (va_up R k r) m = SQ R m
  | 0, _ => rfl
  | m + 1, h => by
    show SQ _ m + _ = SQ _ m + _
    rw [SQ_out (by omega), va_up_ne _ _ (by omega)]
theorem SQ_up {R : Nat → Nat → Int64} {k : Nat} {r : Nat → Int64} : ∀ {m : Nat}, k < m → SQ (va_up R k r) m = SQ R m - zsq (z4 (R k)) + zsq (z4 r)
  | 0, h => absurd h (by omega)
  | m + 1, h => by
    show SQ _ m + _ = SQ _ m + _ - _ + _
    by_cases e : k = m
    · subst e
      rw [SQ_out (Nat.le_refl _), va_up_self]; omega
    · rw [SQ_up (by omega), va_up_ne _ _ (show m ≠ k by omega)]; omega
/-- what every step of the reduction keeps -/
def Rl (m : Nat) (W : Int) (R R' : Nat → Nat → Int64) : Prop := (∀ v, sp (usl m R') v ↔ sp (usl m R) v) ∧ (∀ i, i < m → zsq (z4 (R' i)) ≤ W) ∧ SQ R' m ≤ SQ R m
theorem Rl.trans {m : Nat} {W : Int} {R1 R2 R3 : Nat → Nat → Int64} (h1 : Rl m W R1 R2) (h2 : Rl m W R2 R3) : Rl m W R1 R3 := ⟨fun v => (h2.1 v).trans (h1.1 v), h2.2.1, Int.le_trans h2.2.2 h1.2.2⟩
/-- the pair of rows k and x is reduced in x's square -/
def pr (R : Nat → Nat → Int64) (k x : Nat) : Prop := 2 * zdot (z4 (R k)) (z4 (R x)) ≤ zsq (z4 (R x)) ∧ -(2 * zdot (z4 (R k)) (z4 (R x))) ≤ zsq (z4 (R x))
theorem pairs14 {F m k : Nat} {W : Int} (hF : 5 ≤ F) (hm : m ≤ 4) (hk : k < m) (hW : W ≤ 1000000000000) : ∀ (d n o : Nat) (v : Int32) (R : Nat → Nat → Int64), o + d = m → d < n → (∀ i, i < m → zsq (z4 (R i)) ≤ W) → ∃ v' R', lB_shortenByPairs_14 F (nI m) (nI k) n v (nI o) R = some (v', R') ∧ Rl m W R R' ∧ ((R' = R ∧ v' = v ∧ ∀ x, o ≤ x → x < m → x ≠ k → pr R k x) ∨ (v' = 1 ∧ SQ R' m < SQ R m)) := by
  intro d
  induction d with
  | zero =>
    intro n o v R h1 h2 hR
    obtain ⟨n, rfl⟩ : ∃ q, n = q + 1 := ⟨n - 1, by omega⟩
    have e : o = m := by omega
    subst e
    exact ⟨v, R, by rw [lB_shortenByPairs_14, if_pos (nI_le (Nat.le_refl _) (by omega))], ⟨fun _ => Iff.rfl, hR, Int.le_refl _⟩, Or.inl ⟨rfl, rfl, fun x p q => by omega⟩⟩
  | succ d ih =>
    intro n o v R h1 h2 hR
    obtain ⟨n, rfl⟩ : ∃ q, n = q + 1 := ⟨n - 1, by omega⟩
    have ho : o < m := by omega
    rw [lB_shortenByPairs_14, if_neg (nI_ge ho (by omega))]
    by_cases e : o = k
    · rw [if_pos (by rw [e]), nI_1]
      obtain ⟨v', R', g1, g2, g3⟩ := ih n (o + 1) v R (by omega) (by omega) hR
      refine ⟨v', R', g1, g2, ?_⟩
      rcases g3 with ⟨a, b, c⟩ | g3
      · refine Or.inl ⟨a, b, fun x p q r => ?_⟩
        exact c x (by omega) q r
      · exact Or.inr g3
    · rw [if_neg (fun q => e ((nI_eq (by omega) (by omega)).mp q))]
      rcases B_shortenBy_eq (F := F) (k := k) (o := o) hF (by omega) (by omega) e hW (hR k hk) (hR o ho) with ⟨c1, c2⟩ | ⟨r, q, c2, c3, c4⟩
      · rw [c2, Option.bind_some, if_pos rfl, nI_1]
        obtain ⟨v', R', g1, g2, g3⟩ := ih n (o + 1) v R (by omega) (by omega) hR
        refine ⟨v', R', g1, g2, ?_⟩
        rcases g3 with ⟨a, b, c⟩ | g3
        · refine Or.inl ⟨a, b, fun x p q r => ?_⟩
          by_cases ex : x = o
          · rw [ex]; exact c1
          · exact c x (by omega) q r
        · exact Or.inr g3
      · rw [c2, Option.bind_some, if_neg (show ¬ (1 : Int32) = 0 by decide), nI_1]
        have hR2 : ∀ i, i < m → zsq (z4 (va_up R k r i)) ≤ W := fun i hi => by
          by_cases ei : i = k
          · rw [ei, va_up_self]; have := hR k hk; omega
          · rw [va_up_ne _ _ ei]; exact hR i hi
        have hS : SQ (va_up R k r) m < SQ R m := by rw [SQ_up hk]; omega
        obtain ⟨v', R', g1, g2, g3⟩ := ih n (o + 1) 1 (va_up R k r) (by omega) (by omega) hR2
        refine ⟨v', R', g1, Rl.trans ⟨fun v => usl_add hk ho e q c3 v, hR2, Int.le_of_lt hS⟩ g2, Or.inr ⟨?_, Int.lt_of_le_of_lt g2.2.2 hS⟩⟩
        rcases g3 with ⟨_, b, _⟩ | ⟨b, _⟩
        · exact b
        · exact b
theorem pairs4 {F m : Nat} {W : Int} (hF : 5 ≤ F) (hm : m ≤ 4) (hW : W ≤ 1000000000000) : ∀ (d n k : Nat) (v : Int32) (R : Nat → Nat → Int64), k + d = m → d < n → (∀ i, i < m → zsq (z4 (R i)) ≤ W) → ∃ v' R', lB_shortenByPairs_4 F (nI m) n v (nI k) R = some (v', R') ∧ Rl m W R R' ∧ ((R' = R ∧ v' = v ∧ ∀ y x, k ≤ y → y < m → x < m → x ≠ y → pr R y x) ∨ (v' = 1 ∧ SQ R' m < SQ R m)) := by
  intro d
  induction d with
  | zero =>
    intro n k v R h1 h2 hR
    obtain ⟨n, rfl⟩ : ∃ q, n = q + 1 := ⟨n - 1, by omega⟩
    have e : k = m := by omega
    subst e
    exact ⟨v, R, by rw [lB_shortenByPairs_4, if_pos (nI_le (Nat.le_refl _) (by omega))], ⟨fun _ => Iff.rfl, hR, Int.le_refl _⟩, Or.inl ⟨rfl, rfl, fun y x p q => by omega⟩⟩
  | succ d ih =>
    intro n k v R h1 h2 hR
    obtain ⟨n, rfl⟩ : ∃ q, n = q + 1 := ⟨n - 1, by omega⟩
    have hk : k < m := by omega
    obtain ⟨v1, R1, a1, a2, a3⟩ := pairs14 (F := F) hF hm hk hW m F 0 v R (by omega) (by omega) hR
    rw [lB_shortenByPairs_4, if_neg (nI_ge hk (by omega)), show (0 : Int32) = nI 0 from rfl, a1, Option.bind_some, nI_1]
    obtain ⟨v', R', g1, g2, g3⟩ := ih n (k + 1) v1 R1 (by omega) (by omega) a2.2.1
    refine ⟨v', R', g1, a2.trans g2, ?_⟩
    rcases a3 with ⟨rfl, rfl, b3⟩ | ⟨b1, b2⟩
    · rcases g3 with ⟨c1, c2, c3⟩ | g3
      · refine Or.inl ⟨c1, c2, fun y x p q r s => ?_⟩
        by_cases e : y = k
        · rw [e]; exact b3 x (Nat.zero_le _) r (by omega)
        · exact c3 y x (by omega) q r s
      · exact Or.inr g3
    · refine Or.inr ⟨?_, Int.lt_of_le_of_lt g2.2.2 b2⟩
      rcases g3 with ⟨_, c2, _⟩ | ⟨c2, _⟩
      · rw [c2]; exact b1
      · exact c2
/-- a sweep of pairs: nothing, and all pairs are reduced; or the sum of the squares falls -/
theorem B_shortenByPairs_eq {F m : Nat} {W : Int} {R : Nat → Nat → Int64} (hF : 5 ≤ F) (hm : m ≤ 4) (hW : W ≤ 1000000000000) (hR : ∀ i, i < m → zsq (z4 (R i)) ≤ W) : (B_shortenByPairs F R (nI m) = some (0, R) ∧ ∀ y x, y < m → x < m → x ≠ y → pr R y x) ∨ ∃ R', B_shortenByPairs F R (nI m) = some (1, R') ∧ Rl m W R R' ∧ SQ R' m < SQ R m := by
  obtain ⟨v', R', g1, g2, g3⟩ := pairs4 (F := F) hF hm hW m F 0 0 R (by omega) (by omega) hR
  have g1 : lB_shortenByPairs_4 F (nI m) F 0 0 R = some (v', R') := g1
  unfold B_shortenByPairs
  rw [g1, Option.bind_some]
  dsimp only
  rcases g3 with ⟨rfl, rfl, c⟩ | ⟨rfl, c⟩
  · left
    rw [gd_t (show narrow .boolean (.int 0) = .int 0 from rfl)]
    exact ⟨rfl, fun y x q r s => c y x (Nat.zero_le _) q r s⟩
  · right
    rw [gd_t (show narrow .boolean (.int 1) = .int 1 from rfl)]
    exact ⟨R', rfl, g2, c⟩
