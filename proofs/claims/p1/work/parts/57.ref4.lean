/-! Layer B: swap, and a row less a multiple of fresh -/
theorem Rep.at {nr : Nat} {c : Nat → Nat} {row row' : Nat → Int64} {piv : Nat → Int32} {R : Nat → Nat → Int64} (h : Rep nr c row piv R) {i : Nat} (hi : i < nr) {b : Nat → Int64} (h1 : ∀ j, j < 4 → row' (4 * i + j) = b j) (h2 : ∀ m j, m < 4 → m ≠ i → j < 4 → row' (4 * m + j) = row (4 * m + j)) : Rep nr c row' piv (va_up R (c i) b) := by
  obtain ⟨hn, hc, hs⟩ := h
  refine ⟨hn, fun m hm => ⟨(hc m hm).1, (hc m hm).2.1, fun j hj => ?_⟩, hs⟩
  by_cases e : m = i
  · subst e; rw [va_up_self]; exact h1 j hj
  · have hne : c m ≠ c i := by
      rcases Nat.lt_or_gt_of_ne e with q | q
      · have := hs m i q hi; omega
      · have := hs i m q hm; omega
    rw [va_up_ne _ _ hne, h2 m j (by omega) e hj]
    exact (hc m hm).2.2 j hj
def sw1 (i j : Nat) (row f : Nat → Int64) : Nat → Int64 := fun x => if 4 * i + j ≤ x ∧ x < 4 * i + 4 then f (x - 4 * i) else row x
def sw2 (i j : Nat) (row f : Nat → Int64) : Nat → Int64 := fun x => if j ≤ x ∧ x < 4 then row (4 * i + x) else f x
theorem swap_loop {F i : Nat} (hi : i < 4) : ∀ (d n j : Nat) (row f : Nat → Int64), j + d = 4 → d < n → lM_swap_2 F (nI i) n (nI j) row f = some (sw1 i j row f, sw2 i j row f) := by
  intro d
  induction d with
  | zero =>
    intro n j row f h1 h2
    obtain ⟨n, rfl⟩ : ∃ q, n = q + 1 := ⟨n - 1, by omega⟩
    have e : j = 4 := by omega
    subst e
    have e1 : sw1 i 4 row f = row := funext fun x => if_neg (by omega)
    have e2 : sw2 i 4 row f = f := funext fun x => if_neg (by omega)
    rw [lM_swap_2, if_pos (show (4 : Int32) ≤ nI 4 by decide), e1, e2]
  | succ d ih =>
    intro n j row f h1 h2
    obtain ⟨n, rfl⟩ : ∃ q, n = q + 1 := ⟨n - 1, by omega⟩
    have h4 : ¬ (4 : Int32) ≤ nI j := nI_ge (b := 4) (by omega) (by decide)
    have hv : vp_in (nI j) 4 := vp_in_nI (by omega) (by decide)
    have hw : vp_in (nI (4 * i + j)) 16 := vp_in_nI (by omega) (by decide)
    rw [lM_swap_2, if_neg h4, gd_t hv, ix4 hi (by omega), gd_t hw, gd_t hv, gd_t hw, nI_clamp (by omega), nI_clamp (by omega), nI_1, ih n (j + 1) _ _ (by omega) (by omega)]
    have e1 : sw1 i (j + 1) (vp_updL row (4 * i + j) (f j)) (vp_updL f j (row (4 * i + j))) = sw1 i j row f := funext fun x => by
      unfold sw1 vp_updL
      by_cases e : x = 4 * i + j
      · subst e
        rw [if_neg (by omega), if_pos rfl, if_pos (by omega), Nat.add_sub_cancel_left]
      · by_cases h : 4 * i + (j + 1) ≤ x ∧ x < 4 * i + 4
        · rw [if_pos h, if_neg (by omega), if_pos (by omega)]
        · rw [if_neg h, if_neg e, if_neg (by omega)]
    have e2 : sw2 i (j + 1) (vp_updL row (4 * i + j) (f j)) (vp_updL f j (row (4 * i + j))) = sw2 i j row f := funext fun x => by
      unfold sw2 vp_updL
      by_cases e : x = j
      · subst e
        rw [if_neg (by omega), if_pos rfl, if_pos (by omega)]
      · by_cases h : j + 1 ≤ x ∧ x < 4
        · rw [if_pos h, if_neg (by omega), if_pos (by omega)]
        · rw [if_neg h, if_neg e, if_neg (by omega)]
    rw [e1, e2]
theorem M_swap_eq {F nr i : Nat} {c : Nat → Nat} {row f : Nat → Int64} {piv : Nat → Int32} {R : Nat → Nat → Int64} (hF : 5 ≤ F) (h : Rep nr c row piv R) (hi : i < nr) : ∃ row' f', M_swap F row f (nI i) = some (row', f') ∧ Rep nr c row' piv (va_up R (c i) f) ∧ ∀ j, j < 4 → f' j = R (c i) j := by
  have hi4 : i < 4 := by have := h.1; omega
  refine ⟨sw1 i 0 row f, sw2 i 0 row f, ?_, h.at hi (fun j hj => ?_) (fun m j hm e hj => ?_), fun j hj => ?_⟩
  · unfold M_swap
    rw [show (0 : Int32) = nI 0 from rfl, swap_loop hi4 4 F 0 row f rfl (by omega)]
    rfl
  · show (if 4 * i + 0 ≤ 4 * i + j ∧ 4 * i + j < 4 * i + 4 then f (4 * i + j - 4 * i) else row (4 * i + j)) = f j
    rw [if_pos (by omega), Nat.add_sub_cancel_left]
  · show (if 4 * i + 0 ≤ 4 * m + j ∧ 4 * m + j < 4 * i + 4 then f (4 * m + j - 4 * i) else row (4 * m + j)) = _
    rw [if_neg (by omega)]
  · show (if 0 ≤ j ∧ j < 4 then row (4 * i + j) else f j) = _
    rw [if_pos (by omega)]
    exact (h.2.1 i hi).2.2 j hj
def dv (i j : Nat) (row f : Nat → Int64) (q : Int64) : Nat → Int64 := fun x => if 4 * i + j ≤ x ∧ x < 4 * i + 4 then row x - q * f (x - 4 * i) else row x
theorem div39_loop {F i : Nat} {f : Nat → Int64} {v2 : Int32} {q : Int64} (hi : i < 4) : ∀ (d n j : Nat) (row : Nat → Int64), j + d = 4 → d < n → lM_divide_39 F f (nI i) v2 q n (nI j) row = some (dv i j row f q) := by
  intro d
  induction d with
  | zero =>
    intro n j row h1 h2
    obtain ⟨n, rfl⟩ : ∃ q, n = q + 1 := ⟨n - 1, by omega⟩
    have e : j = 4 := by omega
    subst e
    have e1 : dv i 4 row f q = row := funext fun x => if_neg (by omega)
    rw [lM_divide_39, if_pos (show (4 : Int32) ≤ nI 4 by decide), e1]
  | succ d ih =>
    intro n j row h1 h2
    obtain ⟨n, rfl⟩ : ∃ q, n = q + 1 := ⟨n - 1, by omega⟩
    have h4 : ¬ (4 : Int32) ≤ nI j := nI_ge (b := 4) (by omega) (by decide)
    have hv : vp_in (nI j) 4 := vp_in_nI (by omega) (by decide)
    have hw : vp_in (nI (4 * i + j)) 16 := vp_in_nI (by omega) (by decide)
    rw [lM_divide_39, if_neg h4, ix4 hi (by omega), gd_t hw, gd_t hv, gd_t hw, nI_clamp (by omega), nI_clamp (by omega), nI_1, ih n (j + 1) _ (by omega) (by omega)]
    have e1 : dv i (j + 1) (vp_updL row (4 * i + j) (row (4 * i + j) - q * f j)) f q = dv i j row f q := funext fun x => by
      unfold dv vp_updL
      by_cases e : x = 4 * i + j
      · subst e
        rw [if_neg (by omega), if_pos rfl, if_pos (by omega), Nat.add_sub_cancel_left]
      · by_cases h : 4 * i + (j + 1) ≤ x ∧ x < 4 * i + 4
        · rw [if_pos h, if_neg e, if_pos (by omega)]
        · rw [if_neg h, if_neg e, if_neg (by omega)]
    rw [e1]
theorem div39_eq {F nr i a : Nat} {c : Nat → Nat} {row f : Nat → Int64} {piv : Nat → Int32} {R : Nat → Nat → Int64} {v2 : Int32} {q : Int64} (hF : 5 ≤ F) (h : Rep nr c row piv R) (hi : i < nr) (ha : a < 4) : ∃ row', lM_divide_39 F f (nI i) v2 q F (nI a) row = some row' ∧ Rep nr c row' piv (va_up R (c i) (tid a (R (c i)) f q)) := by
  have hi4 : i < 4 := by have := h.1; omega
  refine ⟨dv i a row f q, div39_loop hi4 (4 - a) F a row (by omega) (by omega), h.at hi (fun j hj => ?_) (fun m j hm e hj => ?_)⟩
  · show (if 4 * i + a ≤ 4 * i + j ∧ 4 * i + j < 4 * i + 4 then row (4 * i + j) - q * f (4 * i + j - 4 * i) else row (4 * i + j)) = (if a ≤ j ∧ j < 4 then R (c i) j - q * f j else R (c i) j)
    rw [(h.2.1 i hi).2.2 j hj, Nat.add_sub_cancel_left]
    by_cases l : a ≤ j
    · rw [if_pos (by omega), if_pos (by omega)]
    · rw [if_neg (by omega), if_neg (by omega)]
  · show (if 4 * i + a ≤ 4 * m + j ∧ 4 * m + j < 4 * i + 4 then row (4 * m + j) - q * f (4 * m + j - 4 * i) else row (4 * m + j)) = _
    rw [if_neg (by omega)]
def ng (j : Nat) (f : Nat → Int64) : Nat → Int64 := fun x => if j ≤ x ∧ x < 4 then -(f x) else f x
theorem div124_loop {F : Nat} {v1 v2 : Int32} : ∀ (d n j : Nat) (f : Nat → Int64), j + d = 4 → d < n → lM_divide_124 F v1 v2 n (nI j) f = some (ng j f) := by
  intro d
  induction d with
  | zero =>
    intro n j f h1 h2
    obtain ⟨n, rfl⟩ : ∃ q, n = q + 1 := ⟨n - 1, by omega⟩
    have e : j = 4 := by omega
    subst e
    have e1 : ng 4 f = f := funext fun x => if_neg (by omega)
    rw [lM_divide_124, if_pos (show (4 : Int32) ≤ nI 4 by decide), e1]
  | succ d ih =>
    intro n j f h1 h2
    obtain ⟨n, rfl⟩ : ∃ q, n = q + 1 := ⟨n - 1, by omega⟩
    have h4 : ¬ (4 : Int32) ≤ nI j := nI_ge (b := 4) (by omega) (by decide)
    have hv : vp_in (nI j) 4 := vp_in_nI (by omega) (by decide)
    rw [lM_divide_124, if_neg h4, gd_t hv, gd_t hv, nI_clamp (by omega), nI_1, ih n (j + 1) _ (by omega) (by omega)]
    congr 1
    funext x
    unfold ng vp_updL
    by_cases e : x = j
    · subst e
      rw [if_neg (by omega), if_pos rfl, if_pos (by omega)]
    · by_cases h : j + 1 ≤ x ∧ x < 4
      · rw [if_pos h, if_neg e, if_pos (by omega)]
      · rw [if_neg h, if_neg e, if_neg (by omega)]
