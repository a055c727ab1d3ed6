/-! Layer B: the whole of sort -/
def Srt (m e : Nat) (R : Nat → Nat → Int64) : Prop := ∀ i j, i ≤ j → e < j → j < m → zsq (z4 (R i)) ≤ zsq (z4 (R j))
theorem sort7 {F m : Nat} {W : Int} (hF : 10 ≤ F) (hm : m ≤ 4) (hW : W ≤ 1000000000000) : ∀ (e n : Nat) (R : Nat → Nat → Int64) (T : Nat → Int64), e < m → e < n → (∀ x, x < m → zsq (z4 (R x)) ≤ W) → Srt m e R → ∃ R' T', lB_sort_7 F n (nI e) R T = some (R', T') ∧ (∀ P, Kp m P → P R → P R') ∧ Srt m 0 R' := by
  intro e
  induction e with
  | zero =>
    intro n R T h1 h2 hR hS
    obtain ⟨n, rfl⟩ : ∃ q, n = q + 1 := ⟨n - 1, by omega⟩
    exact ⟨R, T, by rw [lB_sort_7, if_pos (by decide)], fun P _ h => h, hS⟩
  | succ e ih =>
    intro n R T h1 h2 hR hS
    obtain ⟨n, rfl⟩ : ∃ q, n = q + 1 := ⟨n - 1, by omega⟩
    obtain ⟨R1, T1, g1, g2, g3, g4, g5⟩ := sort13 (F := F) (m := m) (e := e + 1) (by omega) hm h1 hW (e + 1) F 0 R T (by omega) (by omega) hR (fun x hx => by rw [show x = 0 by omega]; exact Int.le_refl _)
    have e1 : nI (e + 1) + (-1) = nI e := by rw [← nI_pred e, Int32.sub_eq_add_neg]
    rw [lB_sort_7, if_neg (nI_nle (by omega) (by omega)), show (0 : Int32) = nI 0 from rfl, g1, Option.bind_some, e1]
    have hR1 : ∀ x, x < m → zsq (z4 (R1 x)) ≤ W := fun x hx => by
      by_cases c : x ≤ e + 1
      · exact g5 W (fun y hy => hR y (by omega)) x c
      · rw [g4 x (by omega)]; exact hR x hx
    obtain ⟨R', T', k1, k2, k3⟩ := ih n R1 T1 (by omega) (by omega) hR1 (fun i j hij hj hjm => by
      by_cases c : j = e + 1
      · rw [c]; exact g3 i (by omega)
      · rw [g4 j (by omega)]
        by_cases c2 : i ≤ e + 1
        · exact g5 (zsq (z4 (R j))) (fun y hy => hS y j (by omega) (by omega) hjm) i c2
        · rw [g4 i (by omega)]; exact hS i j hij (by omega) hjm)
    exact ⟨R', T', k1, fun P hP h => k2 P hP (g2 P hP h), k3⟩
/-- sort: the rows in the order of their squares; what changes of places keep is kept -/
theorem B_sort_eq {F m : Nat} {W : Int} {R : Nat → Nat → Int64} {T : Nat → Int64} (hF : 10 ≤ F) (hm : m ≤ 4) (hW : W ≤ 1000000000000) (hR : ∀ x, x < m → zsq (z4 (R x)) ≤ W) : ∃ R' T', B_sort F R T (nI m) = some (R', T') ∧ (∀ P, Kp m P → P R → P R') ∧ ∀ i j, i ≤ j → j < m → zsq (z4 (R' i)) ≤ zsq (z4 (R' j)) := by
  have fin : ∀ o, lB_sort_7 F F (nI m - 1) R T = some o → B_sort F R T (nI m) = some o := fun o ho => by
    unfold B_sort
    rw [ho]
    rfl
  rcases Nat.eq_zero_or_pos m with c | c
  · subst c
    obtain ⟨n, hn⟩ : ∃ n, F = n + 1 := ⟨F - 1, by omega⟩
    refine ⟨R, T, fin _ ?_, fun P _ h => h, fun i j _ hj => by omega⟩
    conv => lhs; rw [hn]
    rw [lB_sort_7, if_pos (by decide)]
  · obtain ⟨e, rfl⟩ : ∃ e, m = e + 1 := ⟨m - 1, by omega⟩
    obtain ⟨R', T', k1, k2, k3⟩ := sort7 (F := F) (m := e + 1) hF hm hW e F R T (by omega) (by omega) hR (fun i j _ hj hjm => by omega)
    refine ⟨R', T', fin _ (by rw [nI_pred]; exact k1), k2, fun i j hij hj => ?_⟩
    by_cases c2 : j = 0
    · rw [c2, show i = 0 by omega]; exact Int.le_refl _
    · exact k3 i j hij (by omega) hj
theorem cs_zeq {R R' : Nat → Nat → Int64} (h : zeq R R') {k : Nat} {c : Nat → Int} : ∀ (d o : Nat) (t : Z4), cs R' k c d o t = cs R k c d o t
  | 0, _, _ => rfl
  | d + 1, o, t => by
    unfold cs
    rw [h o, cs_zeq h d (o + 1), cs_zeq h d (o + 1)]
theorem Kp_red {m : Nat} (hm : m ≤ 4) : Kp m (RedC m) := by
  refine ⟨fun R i hi h => h.swap hm hi, fun R R' hz h => ⟨fun y x hy hx hxy => ?_, fun k c hk hc => ?_⟩⟩
  · have := h.1 y x hy hx hxy
    unfold pr at this ⊢
    rw [hz y, hz x]
    exact this
  · rw [cs_zeq hz, hz k]; exact h.2 k c hk hc
theorem Kp_span {m : Nat} {A : List Z4} : Kp m (fun R => ∀ v, sp (usl m R) v ↔ sp A v) := by
  refine ⟨fun R i hi h v => (sw_span hi v).trans (h v), fun R R' hz h v => ?_⟩
  have e : usl m R' = usl m R := by
    unfold usl
    apply List.map_congr_left
    intro x _
    exact hz x
  rw [e]; exact h v
