/-! Layer B: rows that change places -/
def sw (R : Nat → Nat → Int64) (i : Nat) : Nat → Nat → Int64 := fun x => if x = i then R (i + 1) else if x = i + 1 then R i else R x
def tau (i x : Nat) : Nat := if x = i then i + 1 else if x = i + 1 then i else x
set_option maxHeartbeats 4000000 in
theorem cs_sw {R : Nat → Nat → Int64} {m i k : Nat} (hm : m ≤ 4) (hi : i + 1 < m) (hk : k < m) (c : Nat → Int) (t : Z4) : cs (sw R i) k c m 0 t = cs R (tau i k) (fun x => c (tau i x)) m 0 t := by
  refine zc_ext fun q hq => ?_
  rcases (show (m = 2 ∧ i = 0) ∨ (m = 3 ∧ i = 0) ∨ (m = 3 ∧ i = 1) ∨ (m = 4 ∧ i = 0) ∨ (m = 4 ∧ i = 1) ∨ (m = 4 ∧ i = 2) by omega) with h | h | h | h | h | h <;> obtain ⟨rfl, rfl⟩ := h <;> rcases (show k = 0 ∨ k = 1 ∨ k = 2 ∨ k = 3 by omega) with rfl | rfl | rfl | rfl <;> first
    | (exfalso; omega)
    | (simp [cs, sw, tau, zc_add, zc_mul]; done)
    | (simp [cs, sw, tau, zc_add, zc_mul]; omega)
/-- reduced, in words that don't name an order -/
def RedC (m : Nat) (R : Nat → Nat → Int64) : Prop := (∀ y x, y < m → x < m → x ≠ y → pr R y x) ∧ ∀ (k : Nat) (c : Nat → Int), k < m → (∀ i, -2 ≤ c i ∧ c i ≤ 2) → zsq (z4 (R k)) ≤ zsq (cs R k c m 0 (z4 (R k)))
theorem RedC.of {m : Nat} {R : Nat → Nat → Int64} (h : Redd m R) (hm : m ≤ 4) : RedC m R := ⟨h.1, fun k c hk hc => redd_cs h hm hk hc⟩
theorem sw_at {R : Nat → Nat → Int64} {i x : Nat} : sw R i x = R (tau i x) := by
  unfold sw tau
  by_cases e : x = i
  · rw [if_pos e, if_pos e]
  · rw [if_neg e, if_neg e]
    by_cases e2 : x = i + 1
    · rw [if_pos e2, if_pos e2]
    · rw [if_neg e2, if_neg e2]
theorem tau_lt {m i x : Nat} (hi : i + 1 < m) (hx : x < m) : tau i x < m := by
  unfold tau
  split
  · exact hi
  · split <;> omega
theorem tau_ne {i x y : Nat} (h : x ≠ y) : tau i x ≠ tau i y := by
  unfold tau
  split <;> split <;> (try split) <;> (try split) <;> omega
theorem RedC.swap {m i : Nat} {R : Nat → Nat → Int64} (h : RedC m R) (hm : m ≤ 4) (hi : i + 1 < m) : RedC m (sw R i) := by
  refine ⟨fun y x hy hx hxy => ?_, fun k c hk hc => ?_⟩
  · have := h.1 (tau i y) (tau i x) (tau_lt hi hy) (tau_lt hi hx) (tau_ne hxy)
    unfold pr at this ⊢
    rw [sw_at, sw_at]
    exact this
  · rw [cs_sw hm hi hk, sw_at]
    exact h.2 (tau i k) (fun x => c (tau i x)) (tau_lt hi hk) (fun x => hc _)
theorem sw_span {m i : Nat} {R : Nat → Nat → Int64} (hi : i + 1 < m) (v : Z4) : sp (usl m (sw R i)) v ↔ sp (usl m R) v := by
  have tt : ∀ x, tau i (tau i x) = x := fun x => by
    unfold tau
    split <;> (try split) <;> (try split) <;> omega
  refine sp_same (fun g hg => ?_) (fun g hg => ?_) v
  · obtain ⟨x, hx, rfl⟩ := usl_mem.mp hg
    rw [sw_at]
    exact sp_mem (usl_mem.mpr ⟨tau i x, tau_lt hi hx, rfl⟩)
  · obtain ⟨x, hx, rfl⟩ := usl_mem.mp hg
    exact sp_mem (usl_mem.mpr ⟨tau i x, tau_lt hi hx, by rw [sw_at, tt]⟩)
