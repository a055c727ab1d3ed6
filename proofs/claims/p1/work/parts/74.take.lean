/-! Layer B: the reference's open and take -/
def op (nr : Nat) (c : Nat → Nat) (i : Nat) : Nat := if i < nr then c i else 4
theorem M_open_eq {F nr i : Nat} {c : Nat → Nat} {piv : Nat → Int32} (hn : nr ≤ 4) (hc : ∀ i, i < nr → c i < 4 ∧ piv i = nI (c i)) (hi : i ≤ 4) : M_open F (nI nr) piv (nI i) = some (nI (op nr c i)) := by
  unfold M_open op
  by_cases h : i < nr
  · rw [if_neg (nI_ge h (by omega)), if_pos h, gd_t (vp_in_nI (by omega) (by decide)), nI_clamp (by omega), (hc i h).2]
  · rw [if_pos (nI_le (by omega) (by omega)), if_neg h]; rfl
theorem ix44 {i j : Nat} (hi : i < 4) (hj : j < 4) : (4 : Int32) * nI i + 4 + nI j = nI (4 * i + 4 + j) := by
  have h : (4 : Int32) * nI i + 4 = nI (4 * i + 4) := by
    rcases (show i = 0 ∨ i = 1 ∨ i = 2 ∨ i = 3 by omega) with rfl | rfl | rfl | rfl <;> decide
  rw [h]
  exact nI_add _ _
/-- the next sum on axis k -/
def nm (made row mult : Nat → Int64) (i k : Nat) : Int64 := made (4 * i + k) + mult i * row (4 * i + k)
def mkm (made row mult : Nat → Int64) (i k : Nat) : Nat → Int64 := fun x => if 4 * i + 4 + k ≤ x ∧ x < 4 * i + 8 then nm made row mult i (x - (4 * i + 4)) else made x
/-- what the axes from k on add -/
def tks (nr : Nat) (c : Nat → Nat) (made row mult point : Nat → Int64) (i : Nat) : Nat → Nat → Int64
  | _, 0 => 0
  | k, d + 1 => (if c i ≤ k ∧ k < op nr c (i + 1) then (nm made row mult i k - point k) * (nm made row mult i k - point k) else 0) + tks nr c made row mult point i (k + 1) d
theorem tks_eq {nr : Nat} {c : Nat → Nat} {made made' row mult point : Nat → Int64} {i : Nat} (h : ∀ x, x < 4 → made' (4 * i + x) = made (4 * i + x)) : ∀ (d k : Nat), k + d = 4 → tks nr c made' row mult point i k d = tks nr c made row mult point i k d := by
  intro d
  induction d with
  | zero => intro k _; rfl
  | succ d ih =>
    intro k hk
    have e : nm made' row mult i k = nm made row mult i k := by unfold nm; rw [h k (by omega)]
    show (if _ then _ else _) + _ = (if _ then _ else _) + _
    rw [e, ih (k + 1) (by omega)]
theorem take_loop {F nr i : Nat} {c : Nat → Nat} {row mult point : Nat → Int64} {piv : Nat → Int32} (hn : nr ≤ 4) (hc : ∀ i, i < nr → c i < 4 ∧ piv i = nI (c i)) (hi : i < nr) : ∀ (d n k : Nat) (v : Int64) (made : Nat → Int64), k + d = 4 → d < n → lM_take_10 F (nI nr) row piv mult point (nI i) n v (nI k) made = some (v + tks nr c made row mult point i k d, mkm made row mult i k) := by
  intro d
  induction d with
  | zero =>
    intro n k v made h1 h2
    obtain ⟨n, rfl⟩ : ∃ q, n = q + 1 := ⟨n - 1, by omega⟩
    have e : k = 4 := by omega
    subst e
    have e1 : mkm made row mult i 4 = made := funext fun x => if_neg (by omega)
    rw [lM_take_10, if_pos (show (4 : Int32) ≤ nI 4 by decide), e1]
    show some (v, made) = some (v + 0, made)
    rw [Int64.add_zero]
  | succ d ih =>
    intro n k v made h1 h2
    obtain ⟨n, rfl⟩ : ∃ q, n = q + 1 := ⟨n - 1, by omega⟩
    have hi4 : i < 4 := by omega
    have hk : k < 4 := by omega
    have h4 : ¬ (4 : Int32) ≤ nI k := nI_ge (b := 4) hk (by decide)
    have hci := hc i hi
    have hvi : vp_in (nI i) 4 := vp_in_nI hi4 (by decide)
    have hv20 : vp_in (nI (4 * i + k)) 20 := vp_in_nI (by omega) (by decide)
    have hv16 : vp_in (nI (4 * i + k)) 16 := vp_in_nI (by omega) (by decide)
    have hw20 : vp_in (nI (4 * i + 4 + k)) 20 := vp_in_nI (by omega) (by decide)
    have hvk : vp_in (nI k) 4 := vp_in_nI hk (by decide)
    have hv5 : vp_in (nI i) 5 := vp_in_nI (by omega) (by decide)
    have hread : ∀ y : Int64, vp_updL made (4 * i + 4 + k) y (4 * i + 4 + k) = y := fun y => if_pos rfl
    have hmk : mkm (vp_updL made (4 * i + 4 + k) (nm made row mult i k)) row mult i (k + 1) = mkm made row mult i k := funext fun x => by
      have hnm : ∀ z, z < 4 → nm (vp_updL made (4 * i + 4 + k) (nm made row mult i k)) row mult i z = nm made row mult i z := fun z hz => by
        unfold nm
        rw [show vp_updL made (4 * i + 4 + k) _ (4 * i + z) = made (4 * i + z) from if_neg (by omega)]
      unfold mkm
      by_cases e : x = 4 * i + 4 + k
      · subst e
        rw [if_neg (by omega), if_pos (by omega), hread, Nat.add_sub_cancel_left]
      · by_cases h : 4 * i + 4 + (k + 1) ≤ x ∧ x < 4 * i + 8
        · rw [if_pos h, if_pos (by omega), hnm _ (by omega)]
        · rw [if_neg h, if_neg (by omega)]
          exact if_neg e
    have htk : tks nr c (vp_updL made (4 * i + 4 + k) (nm made row mult i k)) row mult point i (k + 1) d = tks nr c made row mult point i (k + 1) d := tks_eq (fun x hx => if_neg (by omega)) d (k + 1) (by omega)
    have go : ∀ w : Int64, lM_take_10 F (nI nr) row piv mult point (nI i) n w (nI (k + 1)) (vp_updL made (4 * i + 4 + k) (made (4 * i + k) + mult i * row (4 * i + k))) = some (w + tks nr c made row mult point i (k + 1) d, mkm made row mult i k) := fun w => by
      have h9 := ih n (k + 1) w (vp_updL made (4 * i + 4 + k) (nm made row mult i k)) (by omega) (by omega)
      rw [htk, hmk] at h9
      exact h9
    rw [lM_take_10, if_neg h4, ix4 hi4 hk, ix44 hi4 hk, gd_t hv20, gd_t hvi, gd_t hv16, gd_t hw20, gd_t hw20, gd_t hvk, gd_t hv5, nI_clamp (by omega), nI_clamp (by omega), nI_clamp (by omega), nI_clamp (by omega), hci.2, nI_1, nI_1, M_open_eq hn hc (by omega)]
    show _ = some (v + ((if c i ≤ k ∧ k < op nr c (i + 1) then (nm made row mult i k - point k) * (nm made row mult i k - point k) else 0) + tks nr c made row mult point i (k + 1) d), mkm made row mult i k)
    have hop : op nr c (i + 1) ≤ 4 := by
      unfold op
      by_cases h : i + 1 < nr
      · rw [if_pos h]; have := (hc (i + 1) h).1; omega
      · rw [if_neg h]; exact Nat.le_refl _
    rw [← Int64.add_assoc]
    by_cases c1 : k < c i
    · rw [if_pos (nI_lt c1 (by omega)), go, if_neg (by omega), Int64.add_zero]
    · rw [if_neg (nI_nlt (by omega) (by omega)), Option.bind_some]
      by_cases c2 : op nr c (i + 1) ≤ k
      · rw [if_pos (nI_le c2 (by omega)), go, if_neg (by omega), Int64.add_zero]
      · rw [if_neg (nI_ge (by omega) (by omega)), hread, go, if_pos (by omega)]
        rfl
theorem M_take_eq {F nr i : Nat} {c : Nat → Nat} {row mult point made settled : Nat → Int64} {piv : Nat → Int32} (hF : 5 ≤ F) (hn : nr ≤ 4) (hc : ∀ i, i < nr → c i < 4 ∧ piv i = nI (c i)) (hi : i < nr) : M_take F (nI nr) row piv mult made settled point (nI i) = some (mkm made row mult i 0, vp_updL settled (i + 1) (settled i + tks nr c made row mult point i 0 4)) := by
  unfold M_take
  rw [gd_t (vp_in_nI (by omega) (by decide)), nI_clamp (by omega), show (0 : Int32) = nI 0 from rfl, take_loop hn hc hi 4 F 0 _ _ rfl (by omega), Option.bind_some, nI_1, gd_t (vp_in_nI (by omega) (by decide)), nI_clamp (by omega)]
