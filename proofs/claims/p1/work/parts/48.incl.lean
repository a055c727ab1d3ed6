/-! Layer B: include -/
/-- the staircase of the lattice of A -/
def Ech (A : List Z4) (R : Nat → Nat → Int64) : Prop := Tri R ∧ (∀ k, k < 4 → RedR R k) ∧ ∀ v, sp (rl R) v ↔ sp A v
theorem RedR_up {R : Nat → Nat → Int64} {i k : Nat} {r : Nat → Int64} (h : i < k) (hR : RedR R k) : RedR (va_up R i r) k := by
  intro j h1 h2
  have e1 : va_up R i r j = R j := va_up_ne _ _ (by omega)
  have e2 : va_up R i r k = R k := va_up_ne _ _ (by omega)
  rw [e1, e2]
  exact hR j h1 h2
theorem E_shorten_eq {F k Y : Nat} (hF : 5 ≤ F) (hk : k < 4) {R : Nat → Nat → Int64} (hT : Tri R) (hB : ∀ i, k < i → i < 4 → rle 157464 (R i)) (hY : ∀ j, k < j → j < 4 → (R k j).toInt.natAbs ≤ Y) (hY2 : k = 3 ∨ Y * 157465 ^ (3 - (k + 1)) < 9223372036854775808) :
    ∃ r', E_shorten F R (nI k) = some (va_up R k r') ∧ Tri (va_up R k r') ∧ RedR (va_up R k r') k ∧ r' k = R k k ∧ ∀ v, sp (rl (va_up R k r')) v ↔ sp (rl R) v := by
  obtain ⟨r', g1, g2⟩ := shloop hF hk (4 - (k + 1)) (k + 1) F Y R (by omega) (by omega) (by omega) hT hB (fun j a b => hY j (by omega) b) (by
    rcases hY2 with h | h
    · exact Or.inl (by omega)
    · exact Or.inr h) (fun j a b => by omega)
  refine ⟨r', ?_, g2⟩
  unfold E_shorten
  rw [nI_1, g1]
  rfl
theorem rle_of {a : Nat → Int64} (h : le4 9 (z4 a)) : rle 9 a := by
  obtain ⟨h0, h1, h2, h3⟩ := h
  intro j hj
  rcases (show j = 0 ∨ j = 1 ∨ j = 2 ∨ j = 3 by omega) with rfl | rfl | rfl | rfl
  · exact h0
  · exact h1
  · exact h2
  · exact h3
theorem E_include_eq {F : Nat} (hF : 200 ≤ F) {A : List Z4} {R : Nat → Nat → Int64} {t g : Nat → Int64} (h9 : ∀ x ∈ A, le4 9 x) (hg : le4 9 (z4 g)) (h : Ech A R) : ∃ R' t', E_include F R t g = some (R', t') ∧ Ech (z4 g :: A) R' := by
  obtain ⟨hT, hRd, hs⟩ := h
  obtain ⟨R1, t1, a1, a2, a3, a4, a5, a6⟩ := inc10 hF (t := va_cpy g t 0 0 4) g hT (fun k hk => row_le hT hs h9 hk (hRd k hk)) (rle_of (by rw [z4_cpy]; exact hg))
  have h9' : ∀ x ∈ z4 g :: A, le4 9 x := fun x hx => by
    rcases List.mem_cons.mp hx with rfl | hx
    · exact hg
    · exact h9 x hx
  have s1 : ∀ v, sp (rl R1) v ↔ sp (z4 g :: A) v := by
    intro v
    rw [a6 v, z4_cpy]
    refine sp_same (fun x hx => ?_) (fun x hx => ?_) v
    · rcases List.mem_append.mp hx with h | h
      · rw [List.mem_singleton.mp h]; exact sp_head
      · exact sp_tail ((hs x).mp (sp_mem h))
    · rcases List.mem_cons.mp hx with rfl | h
      · exact sp_mem (List.mem_append_left _ (List.mem_singleton.mpr rfl))
      · exact sp_sub_of (A := rl R) (fun y hy => sp_mem (List.mem_append_right _ hy)) x ((hs x).mpr (sp_mem h))
  obtain ⟨r3, b1, b2, b3, b4, b5⟩ := E_shorten_eq (F := F) (k := 3) (Y := 0) (by omega) (by decide) a2 (fun i p q => by omega) (fun j p q => by omega) (Or.inl rfl)
  have s2 : ∀ v, sp (rl (va_up R1 3 r3)) v ↔ sp (z4 g :: A) v := fun v => (b5 v).trans (s1 v)
  have n2 : ∀ k, k ≠ 3 → va_up R1 3 r3 k = R1 k := fun k hk => va_up_ne _ _ hk
  obtain ⟨r2, c1, c2, c3, c4, c5⟩ := E_shorten_eq (F := F) (k := 2) (Y := 296727298925794200) (by omega) (by decide) b2 (fun i p q => by
    have e : i = 3 := by omega
    subst e
    exact row_le b2 s2 h9' (by decide) b3) (fun j p q => by
    have e : j = 3 := by omega
    subst e
    rw [n2 2 (by decide)]; exact a5) (Or.inr (by decide))
  have s3 : ∀ v, sp (rl (va_up (va_up R1 3 r3) 2 r2)) v ↔ sp (z4 g :: A) v := fun v => (c5 v).trans (s2 v)
  have n3 : ∀ k, k ≠ 2 → va_up (va_up R1 3 r3) 2 r2 k = va_up R1 3 r3 k := fun k hk => va_up_ne _ _ hk
  have d3 : RedR (va_up (va_up R1 3 r3) 2 r2) 3 := RedR_up (by decide) b3
  obtain ⟨r1, e1, e2, e3, e4, e5⟩ := E_shorten_eq (F := F) (k := 1) (Y := 942206786712) (by omega) (by decide) c2 (fun i p q => by
    rcases (show i = 2 ∨ i = 3 by omega) with rfl | rfl
    · exact row_le c2 s3 h9' (by decide) c3
    · exact row_le c2 s3 h9' (by decide) d3) (fun j p q => by
    rw [n3 1 (by decide), n2 1 (by decide)]; exact a4 j p q) (Or.inr (by decide))
  have s4 : ∀ v, sp (rl (va_up (va_up (va_up R1 3 r3) 2 r2) 1 r1)) v ↔ sp (z4 g :: A) v := fun v => (e5 v).trans (s3 v)
  have n4 : ∀ k, k ≠ 1 → va_up (va_up (va_up R1 3 r3) 2 r2) 1 r1 k = va_up (va_up R1 3 r3) 2 r2 k := fun k hk => va_up_ne _ _ hk
  have f2 : RedR (va_up (va_up (va_up R1 3 r3) 2 r2) 1 r1) 2 := RedR_up (by decide) c3
  have f3 : RedR (va_up (va_up (va_up R1 3 r3) 2 r2) 1 r1) 3 := RedR_up (by decide) d3
  obtain ⟨r0, g1, g2, g3, g4, g5⟩ := E_shorten_eq (F := F) (k := 0) (Y := 2991816) (by omega) (by decide) e2 (fun i p q => by
    rcases (show i = 1 ∨ i = 2 ∨ i = 3 by omega) with rfl | rfl | rfl
    · exact row_le e2 s4 h9' (by decide) e3
    · exact row_le e2 s4 h9' (by decide) f2
    · exact row_le e2 s4 h9' (by decide) f3) (fun j p q => by
    rw [n4 0 (by decide), n3 0 (by decide), n2 0 (by decide)]; exact a3 j p q) (Or.inr (by decide))
  refine ⟨_, t1, ?_, g2, ?_, fun v => (g5 v).trans (s4 v)⟩
  · obtain ⟨n, rfl⟩ : ∃ n, F = n + 5 := ⟨F - 5, by omega⟩
    unfold E_include
    rw [V_copy_eq, Option.bind_some, a1, Option.bind_some]
    dsimp only
    have m3 : (3 : Int32) = nI 3 := rfl
    have m2 : nI 3 + (-1) = nI 2 := by decide
    have m1 : nI 2 + (-1) = nI 1 := by decide
    have m0 : nI 1 + (-1) = nI 0 := by decide
    rw [m3, lE_include_34, if_neg (by decide), b1, Option.bind_some, m2, lE_include_34, if_neg (by decide), c1, Option.bind_some, m1, lE_include_34, if_neg (by decide), e1, Option.bind_some, m0, lE_include_34, if_neg (by decide), g1, Option.bind_some, lE_include_34, if_pos (by decide), Option.bind_some]
  · intro k hk
    rcases (show k = 0 ∨ k = 1 ∨ k = 2 ∨ k = 3 by omega) with rfl | rfl | rfl | rfl
    · exact g3
    · exact RedR_up (by decide) e3
    · exact RedR_up (by decide) f2
    · exact RedR_up (by decide) f3
/-- a cleared Echelon is that of no generators -/
theorem Ech_clr (R : Nat → Nat → Int64) : Ech [] (clr R) := by
  have h : ∀ k j, k < 4 → j < 4 → clr R k j = 0 := fun k j hk hj => by
    show (if k < 4 then zer (R k) else R k) j = 0
    rw [if_pos hk]
    exact if_pos hj
  refine ⟨fun k hk => ⟨fun j hj => h k j hk (by omega), by rw [h k k hk hk]; decide, fun _ j hj => h k j hk hj⟩, fun k hk j h1 h2 e => absurd (h j j h2 h2) e, fun v => ?_⟩
  refine sp_same (fun g hg => ?_) (fun g hg => absurd hg List.not_mem_nil) v
  obtain ⟨i, hi, rfl⟩ := rl_mem.mp hg
  rw [z4_of0 (fun j hj => h i j hi hj)]
  exact sp_zero _
