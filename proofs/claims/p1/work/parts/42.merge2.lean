/-! Layer B: Euclid's algorithm in merge: what it keeps, how far its numbers go -/
theorem ti_fms {x v y : Int64} (h : inR (x.toInt - v.toInt * y.toInt)) : (x - v * y).toInt = x.toInt - v.toInt * y.toInt := by
  rw [Int64.toInt_sub, Int64.toInt_mul, Int.sub_bmod_bmod]
  exact bmod_in h
theorem inR_of {z : Int} (h : z.natAbs < 9223372036854775808) : inR z := by unfold inR; omega
theorem tmod_e (a b : Int) : a - a.tdiv b * b = a.tmod b := by
  have h := Int.tmod_add_mul_tdiv a b
  rw [Int.mul_comm] at h
  omega
theorem eu_step {a b x y : Int} {Φ : Nat} (h : a.natAbs * y.natAbs + b.natAbs * x.natAbs ≤ Φ) : b.natAbs * (x - a.tdiv b * y).natAbs + (a - a.tdiv b * b).natAbs * y.natAbs ≤ Φ := by
  rw [tmod_e, Int.natAbs_tmod]
  have h1 : (x - a.tdiv b * y).natAbs ≤ x.natAbs + a.natAbs / b.natAbs * y.natAbs := by
    have h2 := Int.natAbs_sub_le x (a.tdiv b * y)
    rw [Int.natAbs_mul, Int.natAbs_tdiv] at h2
    exact h2
  have h3 := Nat.div_add_mod a.natAbs b.natAbs
  generalize a.natAbs = A at *
  generalize b.natAbs = B at *
  generalize x.natAbs = X at *
  generalize y.natAbs = Y at *
  generalize A / B = Q at *
  generalize A % B = r at *
  have h4 : B * (x - a.tdiv b * y).natAbs ≤ B * (X + Q * Y) := Nat.mul_le_mul_left B h1
  have h5 : B * (X + Q * Y) + r * Y = B * X + A * Y := by
    rw [← h3, Nat.mul_add, Nat.add_mul, Nat.mul_assoc]
    omega
  omega
theorem sp_swapq (A B : Z4) (q : Int) (X : List Z4) (v : Z4) : sp (B :: zsub A (zmul q B) :: X) v ↔ sp (A :: B :: X) v := by
  refine sp_same (fun g hg => ?_) (fun g hg => ?_) v
  · rcases List.mem_cons.mp hg with rfl | hg
    · exact sp_tail sp_head
    · rcases List.mem_cons.mp hg with rfl | hg
      · exact sp_sub sp_head (sp_mul q (sp_tail sp_head))
      · exact sp_tail (sp_tail (sp_mem hg))
  · rcases List.mem_cons.mp hg with rfl | hg
    · refine sp_eq (sp_add (sp_tail (sp_head (g := zsub g (zmul q B)) (r := X))) (sp_mul q (sp_head (g := B) (r := zsub g (zmul q B) :: X)))) ?_
      exact zext (by simp only [zadd, zsub, zmul]; omega) (by simp only [zadd, zsub, zmul]; omega) (by simp only [zadd, zsub, zmul]; omega) (by simp only [zadd, zsub, zmul]; omega)
    · rcases List.mem_cons.mp hg with rfl | hg
      · exact sp_head
      · exact sp_tail (sp_tail (sp_mem hg))
def zbe (k : Nat) (a : Nat → Int64) : Prop := ∀ j, j < k → a j = 0
theorem mrow_at {k : Nat} {r t : Nat → Int64} (hr : zbe k r) (ht : zbe k t) {j : Nat} (hj : j < 4) : mrow k r t j = t j := by
  unfold mrow
  by_cases h : k ≤ j
  · rw [if_pos ⟨h, hj⟩]
  · rw [if_neg (by omega), hr j (by omega), ht j (by omega)]
theorem z4_mrow {k : Nat} {r t : Nat → Int64} (hr : zbe k r) (ht : zbe k t) : z4 (mrow k r t) = z4 t := by
  unfold z4
  rw [mrow_at hr ht (by decide), mrow_at hr ht (by decide), mrow_at hr ht (by decide), mrow_at hr ht (by decide)]
theorem mrest_at {k : Nat} {r t : Nat → Int64} {q : Int64} {j : Nat} (hk : k ≤ j) (hj : j < 4) : mrest k r t q j = r j - q * t j := if_pos ⟨hk, hj⟩
theorem mrest_lt {k : Nat} {r t : Nat → Int64} {q : Int64} {j : Nat} (hj : j < k) : mrest k r t q j = t j := if_neg (by omega)
theorem mrest_z {k : Nat} {r t : Nat → Int64} {q : Int64} (hr : zbe k r) (ht : zbe k t) (h : ∀ j, k ≤ j → j < 4 → inR ((r j).toInt - q.toInt * (t j).toInt)) {j : Nat} (hj : j < 4) : (mrest k r t q j).toInt = (r j).toInt - q.toInt * (t j).toInt := by
  by_cases hk : k ≤ j
  · rw [mrest_at hk hj, ti_fms (h j hk hj)]
  · rw [mrest_lt (by omega), hr j (by omega), ht j (by omega), show (0 : Int64).toInt = 0 from rfl]
    omega
theorem z4_mrest {k : Nat} {r t : Nat → Int64} {q : Int64} (hr : zbe k r) (ht : zbe k t) (h : ∀ j, k ≤ j → j < 4 → inR ((r j).toInt - q.toInt * (t j).toInt)) : z4 (mrest k r t q) = zsub (z4 r) (zmul q.toInt (z4 t)) :=
  zext (mrest_z hr ht h (by decide)) (mrest_z hr ht h (by decide)) (mrest_z hr ht h (by decide)) (mrest_z hr ht h (by decide))
def Eu (k Φ : Nat) (r t : Nat → Int64) : Prop := ∀ j, k < j → j < 4 → (r k).toInt.natAbs * (t j).toInt.natAbs + (t k).toInt.natAbs * (r j).toInt.natAbs ≤ Φ ∧ (r j).toInt.natAbs ≤ Φ ∧ (t j).toInt.natAbs ≤ Φ
/-- one step: (row, rest) becomes (rest, row - q rest) -/
theorem mstep {k Φ : Nat} (hk : k < 4) (hΦ : Φ < 9223372036854775808) {r t : Nat → Int64} (h0 : t k ≠ 0) (hr : zbe k r) (ht : zbe k t) (ha : (r k).toInt.natAbs < 9223372036854775808) (hE : Eu k Φ r t) :
    zbe k (mrow k r t) ∧ zbe k (mrest k r t (r k / t k)) ∧ Eu k Φ (mrow k r t) (mrest k r t (r k / t k)) ∧ mrow k r t k = t k ∧ (mrest k r t (r k / t k) k).toInt.natAbs = (r k).toInt.natAbs % (t k).toInt.natAbs ∧ ∀ X v, sp (z4 (mrow k r t) :: z4 (mrest k r t (r k / t k)) :: X) v ↔ sp (z4 r :: z4 t :: X) v := by
  have hb : (t k).toInt.natAbs ≠ 0 := fun e => h0 (ti_eq.mpr (by rw [show (0 : Int64).toInt = 0 from rfl]; omega))
  have hq : (r k / t k).toInt = (r k).toInt.tdiv (t k).toInt := ti_div (inR_of (by
    rw [Int.natAbs_tdiv]
    exact Nat.lt_of_le_of_lt (Nat.div_le_self _ _) ha))
  have hin : ∀ j, k ≤ j → j < 4 → inR ((r j).toInt - (r k / t k).toInt * (t j).toInt) ∧ (k < j → ((r j).toInt - (r k / t k).toInt * (t j).toInt).natAbs ≤ Φ) := by
    intro j h1 h2
    rw [hq]
    by_cases e : j = k
    · subst e
      refine ⟨inR_of ?_, fun q => absurd q (Nat.lt_irrefl _)⟩
      rw [tmod_e, Int.natAbs_tmod]
      exact Nat.lt_of_le_of_lt (Nat.mod_le _ _) ha
    · have h3 := eu_step (hE j (by omega) h2).1
      have h4 : ((r j).toInt - (r k).toInt.tdiv (t k).toInt * (t j).toInt).natAbs ≤ (t k).toInt.natAbs * ((r j).toInt - (r k).toInt.tdiv (t k).toInt * (t j).toInt).natAbs := Nat.le_mul_of_pos_left _ (by omega)
      exact ⟨inR_of (by omega), fun _ => by omega⟩
  have hm := fun j hj => mrest_z (q := r k / t k) hr ht (fun j h1 h2 => (hin j h1 h2).1) (j := j) hj
  refine ⟨fun j hj => ?_, fun j hj => ?_, fun j h1 h2 => ?_, mrow_at hr ht hk, ?_, fun X v => ?_⟩
  · rw [mrow_at hr ht (by omega)]; exact ht j hj
  · rw [mrest_lt hj]; exact ht j hj
  · rw [mrow_at hr ht hk, mrow_at hr ht h2, hm k hk, hm j h2]
    refine ⟨?_, (hE j h1 h2).2.2, (hin j (by omega) h2).2 h1⟩
    rw [hq]
    exact eu_step (hE j h1 h2).1
  · rw [hm k hk, hq, tmod_e, Int.natAbs_tmod]
  · rw [z4_mrow hr ht, z4_mrest hr ht (fun j h1 h2 => (hin j h1 h2).1)]
    exact sp_swapq _ _ _ X v
theorem mgo {F k n s : Nat} (hF : 5 ≤ F) (hk : k < 4) (hs : s < 1000000) {R : Nat → Nat → Int64} {t : Nat → Int64} (h0 : t k ≠ 0) : lE_merge_2 F k (nI k) (n + 1) (nI s) R t = lE_merge_2 F k (nI k) n (nI (s + 1)) (va_up R k (mrow k (R k) t)) (mrest k (R k) t (R k k / t k)) := by
  have hv : vp_in (nI k) 4 := vp_in_nI hk (by decide)
  have hc : (nI k).toNatClampNeg = k := nI_clamp (by omega)
  rw [lE_merge_2, if_neg (many_not hs), gd_t hv, hc, if_neg h0, gd_t hv, gd_t hv, gd_t h0, merge_swap F k _ _ _ (4 - k) F k R t (by omega) (by omega), nI_1]
  rfl
theorem mend {F k n s : Nat} (hk : k < 4) (hs : s < 1000000) {R : Nat → Nat → Int64} {t : Nat → Int64} (h0 : t k = 0) : lE_merge_2 F k (nI k) (n + 1) (nI s) R t = some (R, t) := by
  have hv : vp_in (nI k) 4 := vp_in_nI hk (by decide)
  have hc : (nI k).toNatClampNeg = k := nI_clamp (by omega)
  rw [lE_merge_2, if_neg (many_not hs), gd_t hv, hc, if_pos h0]
theorem mloop {F k Φ : Nat} (hF : 5 ≤ F) (hk : k < 4) (hΦ : Φ < 9223372036854775808) : ∀ (m n s : Nat) (R : Nat → Nat → Int64) (t : Nat → Int64), (t k).toInt.natAbs ≤ (R k k).toInt.natAbs → (R k k).toInt.natAbs < 9223372036854775808 → (R k k).toInt.natAbs * (t k).toInt.natAbs < 2 ^ m → m + 1 ≤ n → s + m < 1000000 → zbe k (R k) → zbe k t → Eu k Φ (R k) t →
    ∃ r' t', lE_merge_2 F k (nI k) n (nI s) R t = some (va_up R k r', t') ∧ t' k = 0 ∧ zbe k r' ∧ zbe k t' ∧ (∀ j, k < j → j < 4 → (r' j).toInt.natAbs ≤ Φ ∧ (t' j).toInt.natAbs ≤ Φ) ∧ (r' k).toInt.natAbs ≤ (R k k).toInt.natAbs ∧ (R k k ≠ 0 → r' k ≠ 0) ∧ ∀ X v, sp (z4 r' :: z4 t' :: X) v ↔ sp (z4 (R k) :: z4 t :: X) v := by
  intro m
  induction m with
  | zero =>
    intro n s R t h1 h2 h3 h4 h5 hr ht hE
    obtain ⟨n, rfl⟩ : ∃ q, n = q + 1 := ⟨n - 1, by omega⟩
    have h0 : t k = 0 := ti_eq.mpr (by
      rw [show (0 : Int64).toInt = 0 from rfl]
      have h6 : (R k k).toInt.natAbs * (t k).toInt.natAbs = 0 := by omega
      rcases Nat.mul_eq_zero.mp h6 with h7 | h7 <;> omega)
    exact ⟨R k, t, by rw [mend hk (by omega) h0, up_same], h0, hr, ht, fun j a b => (hE j a b).2, Nat.le_refl _, id, fun X v => Iff.rfl⟩
  | succ m ih =>
    intro n s R t h1 h2 h3 h4 h5 hr ht hE
    obtain ⟨n, rfl⟩ : ∃ q, n = q + 1 := ⟨n - 1, by omega⟩
    by_cases h0 : t k = 0
    · exact ⟨R k, t, by rw [mend hk (by omega) h0, up_same], h0, hr, ht, fun j a b => (hE j a b).2, Nat.le_refl _, id, fun X v => Iff.rfl⟩
    · have hb : 0 < (t k).toInt.natAbs := Nat.pos_of_ne_zero fun e => h0 (ti_eq.mpr (by rw [show (0 : Int64).toInt = 0 from rfl]; omega))
      obtain ⟨z1, z2, e1, e2, e3, e4⟩ := mstep hk hΦ h0 hr ht h2 hE
      have hlt := Nat.mod_lt (R k k).toInt.natAbs hb
      have hhalf : 2 * ((t k).toInt.natAbs * ((R k k).toInt.natAbs % (t k).toInt.natAbs)) ≤ (R k k).toInt.natAbs * (t k).toInt.natAbs := by
        have h6 := Nat.div_add_mod (R k k).toInt.natAbs (t k).toInt.natAbs
        have h7 : 1 ≤ (R k k).toInt.natAbs / (t k).toInt.natAbs := (Nat.one_le_div_iff hb).mpr h1
        have h8 : (t k).toInt.natAbs * 1 ≤ (t k).toInt.natAbs * ((R k k).toInt.natAbs / (t k).toInt.natAbs) := Nat.mul_le_mul_left _ h7
        have h9 : 2 * ((R k k).toInt.natAbs % (t k).toInt.natAbs) ≤ (R k k).toInt.natAbs := by omega
        have h10 := Nat.mul_le_mul_left (t k).toInt.natAbs h9
        rw [Nat.mul_comm (R k k).toInt.natAbs]
        rw [← Nat.mul_assoc, Nat.mul_comm 2, Nat.mul_assoc]
        exact h10
      obtain ⟨r', t', g1, g2, g3, g4, g5, g6, g7, g8⟩ := ih n (s + 1) (va_up R k (mrow k (R k) t)) (mrest k (R k) t (R k k / t k)) (by rw [va_up_self, e2, e3]; omega) (by rw [va_up_self, e2]; omega) (by
        rw [va_up_self, e2, e3]
        have : 2 ^ (m + 1) = 2 * 2 ^ m := by rw [Nat.pow_succ, Nat.mul_comm]
        omega) (by omega) (by omega) (by rw [va_up_self]; exact z1) z2 (by rw [va_up_self]; exact e1)
      refine ⟨r', t', ?_, g2, g3, g4, g5, ?_, fun _ => ?_, fun X v => ?_⟩
      · rw [mgo hF hk (by omega) h0, g1, up_up]
      · rw [va_up_self, e2] at g6; omega
      · exact g7 (by rw [va_up_self, e2]; exact h0)
      · rw [g8 X v, va_up_self]; exact e4 X v
/-- the whole of merge's loop -/
theorem merge_loop {F k Φ : Nat} (hF : 200 ≤ F) (hk : k < 4) (hΦ : Φ < 9223372036854775808) {R : Nat → Nat → Int64} {t : Nat → Int64} (h1 : (R k k).toInt.natAbs < 9223372036854775808) (h2 : (t k).toInt.natAbs < 9223372036854775808) (hr : zbe k (R k)) (ht : zbe k t) (hE : Eu k Φ (R k) t) :
    ∃ r' t', lE_merge_2 F k (nI k) F (nI 0) R t = some (va_up R k r', t') ∧ t' k = 0 ∧ zbe k r' ∧ zbe k t' ∧ (∀ j, k < j → j < 4 → (r' j).toInt.natAbs ≤ Φ ∧ (t' j).toInt.natAbs ≤ Φ) ∧ (r' k).toInt.natAbs < 9223372036854775808 ∧ (r' k ≠ 0 ∨ (r' = R k ∧ t' = t)) ∧ ∀ X v, sp (z4 r' :: z4 t' :: X) v ↔ sp (z4 (R k) :: z4 t :: X) v := by
  obtain ⟨n, rfl⟩ : ∃ q, F = q + 1 := ⟨F - 1, by omega⟩
  by_cases h0 : t k = 0
  · exact ⟨R k, t, by rw [mend hk (by omega) h0, up_same], h0, hr, ht, fun j a b => (hE j a b).2, h1, Or.inr ⟨rfl, rfl⟩, fun X v => Iff.rfl⟩
  · obtain ⟨z1, z2, e1, e2, e3, e4⟩ := mstep hk hΦ h0 hr ht h1 hE
    have hb : 0 < (t k).toInt.natAbs := Nat.pos_of_ne_zero fun e => h0 (ti_eq.mpr (by rw [show (0 : Int64).toInt = 0 from rfl]; omega))
    have hlt := Nat.mod_lt (R k k).toInt.natAbs hb
    obtain ⟨r', t', g1, g2, g3, g4, g5, g6, g7, g8⟩ := mloop (F := n + 1) (Φ := Φ) (by omega) hk hΦ 126 n 1 (va_up R k (mrow k (R k) t)) (mrest k (R k) t (R k k / t k)) (by rw [va_up_self, e2, e3]; omega) (by rw [va_up_self, e2]; omega) (by
      rw [va_up_self, e2, e3]
      have h5 : (t k).toInt.natAbs * ((R k k).toInt.natAbs % (t k).toInt.natAbs) ≤ 9223372036854775807 * 9223372036854775807 := Nat.mul_le_mul (by omega) (by omega)
      have h6 : 9223372036854775807 * 9223372036854775807 < 2 ^ 126 := by decide
      omega) (by omega) (by omega) (by rw [va_up_self]; exact z1) z2 (by rw [va_up_self]; exact e1)
    refine ⟨r', t', ?_, g2, g3, g4, g5, ?_, Or.inl (g7 (by rw [va_up_self, e2]; exact h0)), fun X v => ?_⟩
    · rw [mgo (by omega) hk (by omega) h0, g1, up_up]
    · rw [va_up_self, e2] at g6; omega
    · rw [g8 X v, va_up_self]; exact e4 X v
