/-! Layer B: the class's volume: Bareiss's elimination -/
theorem bv12 {F m k : Nat} {bR : Nat → Nat → Int64} (hF : 5 ≤ F) (hm : m ≤ 4) (hk : k < m) : ∀ (d n o : Nat) (M : Nat → Nat → Int64), o + d = m → d < n → ∃ r, lB_volumeSquared_12 F bR (nI m) (nI k) n (nI o) M = some (va_up M k r) ∧ (∀ x, o ≤ x → x < m → r x = dot4 (bR k) (bR x)) ∧ ∀ x, x < o → r x = M k x := by
  intro d
  induction d with
  | zero =>
    intro n o M h1 h2
    obtain ⟨n, rfl⟩ : ∃ q, n = q + 1 := ⟨n - 1, by omega⟩
    have e : o = m := by omega
    subst e
    exact ⟨M k, by rw [lB_volumeSquared_12, if_pos (nI_le (Nat.le_refl _) (by omega)), up_same], fun x p q => by omega, fun x _ => rfl⟩
  | succ d ih =>
    intro n o M h1 h2
    obtain ⟨n, rfl⟩ : ∃ q, n = q + 1 := ⟨n - 1, by omega⟩
    have hvk : vp_in (nI k) 4 := vp_in_nI (by omega) (by decide)
    have hvo : vp_in (nI o) 4 := vp_in_nI (by omega) (by decide)
    rw [lB_volumeSquared_12, if_neg (nI_ge (by omega) (by omega)), gd_t hvk, gd_t hvk, gd_t hvo, nI_clamp (by omega), nI_clamp (by omega), V_product_eq hF, Option.bind_some, gd_t hvo, nI_1]
    obtain ⟨r, r1, r2, r3⟩ := ih n (o + 1) (va_up M k (vp_updL (M k) o (dot4 (bR k) (bR o)))) (by omega) (by omega)
    refine ⟨r, by rw [r1, up_up], fun x p q => ?_, fun x hx => ?_⟩
    · by_cases e : x = o
      · rw [e, r3 o (by omega), va_up_self]; exact if_pos rfl
      · exact r2 x (by omega) q
    · rw [r3 x (by omega), va_up_self]; exact if_neg (by omega)
theorem bv2 {F m : Nat} {bR : Nat → Nat → Int64} (hF : 5 ≤ F) (hm : m ≤ 4) : ∀ (d n k : Nat) (M : Nat → Nat → Int64), k + d = m → d < n → (∀ i x, i < k → x < m → M i x = dot4 (bR i) (bR x)) → ∃ M', lB_volumeSquared_2 F bR (nI m) n (nI k) M = some M' ∧ ∀ i x, i < m → x < m → M' i x = dot4 (bR i) (bR x) := by
  intro d
  induction d with
  | zero =>
    intro n k M h1 h2 hM
    obtain ⟨n, rfl⟩ : ∃ q, n = q + 1 := ⟨n - 1, by omega⟩
    have e : k = m := by omega
    subst e
    exact ⟨M, by rw [lB_volumeSquared_2, if_pos (nI_le (Nat.le_refl _) (by omega))], hM⟩
  | succ d ih =>
    intro n k M h1 h2 hM
    obtain ⟨n, rfl⟩ : ∃ q, n = q + 1 := ⟨n - 1, by omega⟩
    obtain ⟨r, r1, r2, r3⟩ := bv12 (F := F) (bR := bR) hF hm (show k < m by omega) m F 0 M (by omega) (by omega)
    rw [lB_volumeSquared_2, if_neg (nI_ge (by omega) (by omega)), show (0 : Int32) = nI 0 from rfl, r1, Option.bind_some, nI_1]
    refine ih n (k + 1) _ (by omega) (by omega) (fun i x hi hx => ?_)
    by_cases e : i = k
    · rw [e, va_up_self]; exact r2 x (Nat.zero_le _) hx
    · rw [va_up_ne _ _ e]; exact hM i x (by omega) hx
theorem el26 {F m s k : Nat} {v : Int64} (hm : m ≤ 4) (hsk : s < k) (hk : k < m) (hv : v ≠ 0) : ∀ (d n o : Nat) (M : Nat → Nat → Int64), o + d = m → s < o → d < n → ∃ r, lB_eliminate_26 F (nI m) (nI s) v (nI k) n (nI o) M = some (va_up M k r) ∧ (∀ x, o ≤ x → x < m → r x = (M k x * M s s - M k s * M s x) / v) ∧ ∀ x, x < o → r x = M k x := by
  intro d
  induction d with
  | zero =>
    intro n o M h1 h2 h3
    obtain ⟨n, rfl⟩ : ∃ q, n = q + 1 := ⟨n - 1, by omega⟩
    have e : o = m := by omega
    subst e
    exact ⟨M k, by rw [lB_eliminate_26, if_pos (nI_le (Nat.le_refl _) (by omega)), up_same], fun x p q => by omega, fun x _ => rfl⟩
  | succ d ih =>
    intro n o M h1 h2 h3
    obtain ⟨n, rfl⟩ : ∃ q, n = q + 1 := ⟨n - 1, by omega⟩
    have hvk : vp_in (nI k) 4 := vp_in_nI (by omega) (by decide)
    have hvo : vp_in (nI o) 4 := vp_in_nI (by omega) (by decide)
    have hvs : vp_in (nI s) 4 := vp_in_nI (by omega) (by decide)
    rw [lB_eliminate_26, if_neg (nI_ge (by omega) (by omega)), gd_t hvk, gd_t hvs, gd_t hvs, gd_t hvo, gd_t hvk, gd_t hvk, gd_t hvo, gd_t hvs, gd_t hvs, gd_t hv, gd_t hvo, nI_clamp (by omega), nI_clamp (by omega), nI_clamp (by omega), nI_1]
    obtain ⟨r, r1, r2, r3⟩ := ih n (o + 1) (va_up M k (vp_updL (M k) o ((M k o * M s s - M k s * M s o) / v))) (by omega) (by omega) (by omega)
    have hs' : va_up M k (vp_updL (M k) o ((M k o * M s s - M k s * M s o) / v)) s = M s := va_up_ne _ _ (by omega)
    refine ⟨r, by rw [r1, up_up], fun x p q => ?_, fun x hx => ?_⟩
    · by_cases e : x = o
      · rw [e, r3 o (by omega), va_up_self]; exact if_pos rfl
      · rw [r2 x (by omega) q, hs', va_up_self]
        have e1 : vp_updL (M k) o ((M k o * M s s - M k s * M s o) / v) x = M k x := if_neg e
        have e2 : vp_updL (M k) o ((M k o * M s s - M k s * M s o) / v) s = M k s := if_neg (by omega)
        rw [e1, e2]
    · rw [r3 x (by omega), va_up_self]; exact if_neg (by omega)
theorem el12 {F m s : Nat} {v : Int64} {M0 : Nat → Nat → Int64} (hF : 5 ≤ F) (hm : m ≤ 4) (hs : s < m) (hv : v ≠ 0) : ∀ (d n k : Nat) (M : Nat → Nat → Int64), k + d = m → s < k → d < n → (∀ i, k ≤ i → i < m → M i = M0 i) → M s = M0 s → (∀ i x, s < i → i < k → s < x → x < m → M i x = (M0 i x * M0 s s - M0 i s * M0 s x) / v) → ∃ M', lB_eliminate_12 F (nI m) (nI s) v n (nI k) M = some M' ∧ M' s = M0 s ∧ ∀ i x, s < i → i < m → s < x → x < m → M' i x = (M0 i x * M0 s s - M0 i s * M0 s x) / v := by
  intro d
  induction d with
  | zero =>
    intro n k M h1 h2 h3 hM hMs hD
    obtain ⟨n, rfl⟩ : ∃ q, n = q + 1 := ⟨n - 1, by omega⟩
    have e : k = m := by omega
    subst e
    exact ⟨M, by rw [lB_eliminate_12, if_pos (nI_le (Nat.le_refl _) (by omega))], hMs, hD⟩
  | succ d ih =>
    intro n k M h1 h2 h3 hM hMs hD
    obtain ⟨n, rfl⟩ : ∃ q, n = q + 1 := ⟨n - 1, by omega⟩
    obtain ⟨r, r1, r2, r3⟩ := el26 (F := F) hm h2 (show k < m by omega) hv (m - (s + 1)) F (s + 1) M (by omega) (by omega) (by omega)
    rw [lB_eliminate_12, if_neg (nI_ge (by omega) (by omega)), nI_1, r1, Option.bind_some, nI_1]
    refine ih n (k + 1) _ (by omega) (by omega) (by omega) (fun i p q => ?_) ?_ (fun i x p q t u => ?_)
    · rw [va_up_ne _ _ (by omega)]; exact hM i (by omega) q
    · rw [va_up_ne _ _ (by omega)]; exact hMs
    · by_cases e : i = k
      · rw [e, va_up_self, r2 x (by omega) u, hM k (Nat.le_refl _) (by omega), hMs]
      · rw [va_up_ne _ _ e]; exact hD i x p (by omega) t u
theorem elim_eq {F m s : Nat} {v : Int64} {M : Nat → Nat → Int64} (hF : 6 ≤ F) (hm : m ≤ 4) (hs : s < m) (hv : v ≠ 0) : ∃ M', B_eliminate F M (nI m) (nI s) v = some M' ∧ M' s = M s ∧ ∀ i x, s < i → i < m → s < x → x < m → M' i x = (M i x * M s s - M i s * M s x) / v := by
  obtain ⟨M', h1, h2⟩ := el12 (F := F) (M0 := M) (by omega) hm hs hv (m - (s + 1)) F (s + 1) M (by omega) (by omega) (by omega) (fun _ _ _ => rfl) rfl (fun i x p q => by omega)
  refine ⟨M', ?_, h2⟩
  unfold B_eliminate
  rw [if_neg hv, nI_1, h1]
  rfl
theorem vs59 {F m s n : Nat} {v : Int64} {M M' : Nat → Nat → Int64} (hm : m ≤ 4) (hs : s < m) (hv : v ≠ 0) (h : B_eliminate F M (nI m) (nI s) v = some M') : lB_volumeSquared_59 F (nI m) (n + 1) v (nI s) M = lB_volumeSquared_59 F (nI m) n (M' s s) (nI (s + 1)) M' := by
  have hvs : vp_in (nI s) 4 := vp_in_nI (by omega) (by decide)
  rw [lB_volumeSquared_59, if_neg (nI_ge hs (by omega)), if_neg hv, h, Option.bind_some, gd_t hvs, gd_t hvs, nI_clamp (by omega), nI_1]
theorem vs59_end {F m n : Nat} {v : Int64} {M : Nat → Nat → Int64} (hm : m ≤ 4) : lB_volumeSquared_59 F (nI m) (n + 1) v (nI m) M = some (v, M) := by
  rw [lB_volumeSquared_59, if_pos (nI_le (Nat.le_refl _) (by omega))]
/-- exact division of longs -/
theorem ex_div {x y v : Int64} {a b c d q w : Int} (hx : x.toInt = a * b - c * d) (hv : v.toInt = w) (hw : w ≠ 0) (he : a * b - c * d = w * q) (hq : inR q) : (x / v).toInt = q := by
  have h1 : x.toInt.tdiv v.toInt = q := by
    rw [hx, hv, he, Int.mul_tdiv_cancel_left _ hw]
  rw [ti_div (by rw [h1]; exact hq), h1]
