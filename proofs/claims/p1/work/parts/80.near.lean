/-! Layer B: what a reduced basis is: no row is shortened by factors of -2 .. 2 of the others -/
/-- the choice that has these factors -/
def en (k : Nat) (c : Nat → Int) : Nat → Nat → Nat
  | 0, _ => 0
  | d + 1, o => if o = k then en k c d (o + 1) else (c o + 2).toNat + 5 * en k c d (o + 1)
/-- the sum with these factors -/
def cs (R : Nat → Nat → Int64) (k : Nat) (c : Nat → Int) : Nat → Nat → Z4 → Z4
  | 0, _, t => t
  | d + 1, o, t => if o = k then cs R k c d (o + 1) t else cs R k c d (o + 1) (zadd t (zmul (c o) (z4 (R o))))
theorem chz_en {R : Nat → Nat → Int64} {k : Nat} {c : Nat → Int} (hc : ∀ i, -2 ≤ c i ∧ c i ≤ 2) : ∀ (d o : Nat) (t : Z4), chz R k d o (en k c d o) t = cs R k c d o t
  | 0, _, _ => rfl
  | d + 1, o, t => by
    have h := hc o
    unfold chz cs en
    by_cases e : o = k
    · rw [if_pos e, if_pos e, if_pos e]; exact chz_en hc d (o + 1) t
    · rw [if_neg e, if_neg e, if_neg e]
      have e1 : ((c o + 2).toNat + 5 * en k c d (o + 1)) % 5 = (c o + 2).toNat := by omega
      have e2 : ((c o + 2).toNat + 5 * en k c d (o + 1)) / 5 = en k c d (o + 1) := by omega
      have e3 : (((c o + 2).toNat : Nat) : Int) - 2 = c o := by omega
      rw [e1, e2, e3]
      exact chz_en hc d (o + 1) _
theorem en_lt {m k : Nat} {c : Nat → Int} (hc : ∀ i, -2 ≤ c i ∧ c i ≤ 2) (hm : m ≤ 4) (hk : k < m) : en k c m 0 < nch m := by
  have h0 := hc 0
  have h1 := hc 1
  have h2 := hc 2
  have h3 := hc 3
  have b0 : (c 0 + 2).toNat ≤ 4 := by omega
  have b1 : (c 1 + 2).toNat ≤ 4 := by omega
  have b2 : (c 2 + 2).toNat ≤ 4 := by omega
  have b3 : (c 3 + 2).toNat ≤ 4 := by omega
  rcases (show (m = 1 ∧ k = 0) ∨ (m = 2 ∧ k = 0) ∨ (m = 2 ∧ k = 1) ∨ (m = 3 ∧ k = 0) ∨ (m = 3 ∧ k = 1) ∨ (m = 3 ∧ k = 2) ∨ (m = 4 ∧ k = 0) ∨ (m = 4 ∧ k = 1) ∨ (m = 4 ∧ k = 2) ∨ (m = 4 ∧ k = 3) by omega) with h | h | h | h | h | h | h | h | h | h <;> obtain ⟨rfl, rfl⟩ := h
  · show (0 : Nat) < 1; decide
  · show (c 1 + 2).toNat + 5 * 0 < 5; omega
  · show (c 0 + 2).toNat + 5 * 0 < 5; omega
  · show (c 1 + 2).toNat + 5 * ((c 2 + 2).toNat + 5 * 0) < 25; omega
  · show (c 0 + 2).toNat + 5 * ((c 2 + 2).toNat + 5 * 0) < 25; omega
  · show (c 0 + 2).toNat + 5 * ((c 1 + 2).toNat + 5 * 0) < 25; omega
  · show (c 1 + 2).toNat + 5 * ((c 2 + 2).toNat + 5 * ((c 3 + 2).toNat + 5 * 0)) < 125; omega
  · show (c 0 + 2).toNat + 5 * ((c 2 + 2).toNat + 5 * ((c 3 + 2).toNat + 5 * 0)) < 125; omega
  · show (c 0 + 2).toNat + 5 * ((c 1 + 2).toNat + 5 * ((c 3 + 2).toNat + 5 * 0)) < 125; omega
  · show (c 0 + 2).toNat + 5 * ((c 1 + 2).toNat + 5 * ((c 2 + 2).toNat + 5 * 0)) < 125; omega
/-- of a reduced basis: no factors make a row shorter -/
theorem redd_cs {m k : Nat} {R : Nat → Nat → Int64} (h : Redd m R) (hm : m ≤ 4) (hk : k < m) {c : Nat → Int} (hc : ∀ i, -2 ≤ c i ∧ c i ≤ 2) : zsq (z4 (R k)) ≤ zsq (cs R k c m 0 (z4 (R k))) := by
  have h1 := h.2 k hk (en k c m 0) (Nat.zero_le _) (en_lt hc hm hk)
  rw [chz_en hc] at h1
  exact h1
