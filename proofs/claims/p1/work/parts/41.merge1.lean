/-! Layer B: one step of Euclid in merge: row and rest change places -/
def mrow (i : Nat) (r t : Nat → Int64) : Nat → Int64 := fun a => if i ≤ a ∧ a < 4 then t a else r a
def mrest (i : Nat) (r t : Nat → Int64) (q : Int64) : Nat → Int64 := fun a => if i ≤ a ∧ a < 4 then r a - q * t a else t a
theorem up_up {α : Type} (f : Nat → α) (k : Nat) (v w : α) : va_up (va_up f k v) k w = va_up f k w := bx_uu f k v w
theorem up_same {α : Type} (f : Nat → α) (k : Nat) : va_up f k (f k) = f := funext fun j => by
  by_cases h : j = k
  · subst h; exact va_up_self _ _ _
  · exact va_up_ne _ _ h
theorem merge_swap (F j : Nat) (v2 v3 : Int32) (q : Int64) : ∀ (d n i : Nat) (R : Nat → Nat → Int64) (t : Nat → Int64), i + d = 4 → d < n → lE_merge_34 F j v2 v3 q n (nI i) R t = some (va_up R j (mrow i (R j) t), mrest i (R j) t q) := by
  intro d
  induction d with
  | zero =>
    intro n i R t hi hn
    obtain ⟨n, rfl⟩ : ∃ m, n = m + 1 := ⟨n - 1, by omega⟩
    have e : i = 4 := by omega
    subst e
    have e1 : mrow 4 (R j) t = R j := funext fun a => if_neg (by omega)
    have e2 : mrest 4 (R j) t q = t := funext fun a => if_neg (by omega)
    rw [lE_merge_34, if_pos (show (4 : Int32) ≤ nI 4 by decide), e1, e2, up_same]
  | succ d ih =>
    intro n i R t hi hn
    obtain ⟨n, rfl⟩ : ∃ m, n = m + 1 := ⟨n - 1, by omega⟩
    have h4 : ¬ (4 : Int32) ≤ nI i := nI_ge (b := 4) (by omega) (by decide)
    have hv : vp_in (nI i) 4 := vp_in_nI (by omega) (by decide)
    rw [lE_merge_34, if_neg h4, gd_t hv, gd_t hv, gd_t hv, gd_t hv, gd_t hv, nI_clamp (by omega), nI_1, ih n (i + 1) _ _ (by omega) (by omega)]
    rw [va_up_self, up_up]
    have e1 : mrow (i + 1) (vp_updL (R j) i (t i)) (vp_updL t i (R j i - q * t i)) = mrow i (R j) t := funext fun a => by
      unfold mrow vp_updL
      by_cases ha : a = i
      · subst ha
        rw [if_neg (by omega), if_pos rfl, if_pos (by omega)]
      · by_cases hb : i + 1 ≤ a ∧ a < 4
        · rw [if_pos hb, if_neg ha, if_pos (by omega)]
        · rw [if_neg hb, if_neg ha, if_neg (by omega)]
    have e2 : mrest (i + 1) (vp_updL (R j) i (t i)) (vp_updL t i (R j i - q * t i)) q = mrest i (R j) t q := funext fun a => by
      unfold mrest vp_updL
      by_cases ha : a = i
      · subst ha
        rw [if_neg (by omega), if_pos rfl, if_pos (by omega)]
      · by_cases hb : i + 1 ≤ a ∧ a < 4
        · rw [if_pos hb, if_neg ha, if_neg ha, if_pos (by omega)]
        · rw [if_neg hb, if_neg ha, if_neg (by omega)]
    rw [e1, e2]
