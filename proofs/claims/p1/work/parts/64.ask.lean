/-! Layer B: ask and within; gather; the rank -/
theorem e64 {E : Nat} (hE : E ≤ 1000) : (nI E).toInt64.toInt = (E : Int) ∧ (-nI E).toInt64.toInt = -(E : Int) ∧ (-nI E).toInt = -(E : Int) ∧ (nI E).toInt = (E : Int) := by
  have h1 : (nI E).toInt = (E : Int) := nI_toInt (by omega)
  have h2 : (-nI E).toInt = -(E : Int) := by
    rw [Int32.toInt_neg, h1]
    exact Int.bmod_eq_of_le (by omega) (by omega)
  exact ⟨by rw [Int32.toInt_toInt64, h1], by rw [Int32.toInt_toInt64, h2], h2, h1⟩
theorem ask_loop {F E : Nat} (hE : E ≤ 1000) {t : Nat → Int64} : ∀ (d n k : Nat), k + d = 4 → d < n → ((∀ j, k ≤ j → j < 4 → (t j).toInt.natAbs ≤ E) ∧ lV_ask_36 F t (nI E) n (nI k) = some (.inl ())) ∨ ((¬ ∀ j, k ≤ j → j < 4 → (t j).toInt.natAbs ≤ E) ∧ lV_ask_36 F t (nI E) n (nI k) = some (.inr (0, t))) := by
  obtain ⟨e1, e2, -, -⟩ := e64 hE
  intro d
  induction d with
  | zero =>
    intro n k h1 h2
    obtain ⟨n, rfl⟩ : ∃ q, n = q + 1 := ⟨n - 1, by omega⟩
    have e : k = 4 := by omega
    subst e
    exact Or.inl ⟨fun j p q => by omega, by rw [lV_ask_36, if_pos (show (4 : Int32) ≤ nI 4 by decide)]⟩
  | succ d ih =>
    intro n k h1 h2
    obtain ⟨n, rfl⟩ : ∃ q, n = q + 1 := ⟨n - 1, by omega⟩
    have h4 : ¬ (4 : Int32) ≤ nI k := nI_ge (b := 4) (by omega) (by decide)
    have hv : vp_in (nI k) 4 := vp_in_nI (by omega) (by decide)
    rw [lV_ask_36, if_neg h4, gd_t hv, nI_clamp (by omega)]
    by_cases c1 : t k < (-nI E).toInt64
    · rw [if_pos c1]
      refine Or.inr ⟨fun h => ?_, rfl⟩
      have := h k (Nat.le_refl _) (by omega)
      rw [ti_lt, e2] at c1
      omega
    · rw [if_neg c1, gd_t hv]
      by_cases c2 : t k ≤ (nI E).toInt64
      · rw [if_pos c2, nI_1]
        rw [ti_lt, e2] at c1
        rw [ti_le, e1] at c2
        rcases ih n (k + 1) (by omega) (by omega) with ⟨a1, a2⟩ | ⟨a1, a2⟩
        · refine Or.inl ⟨fun j p q => ?_, a2⟩
          by_cases e : j = k
          · rw [e]; omega
          · exact a1 j (by omega) q
        · exact Or.inr ⟨fun h => a1 (fun j p q => h j (by omega) q), a2⟩
      · rw [if_neg c2]
        refine Or.inr ⟨fun h => ?_, rfl⟩
        have := h k (Nat.le_refl _) (by omega)
        rw [ti_le, e1] at c2
        omega
def i4 (a b c d : Int32) : Z4 := (a.toInt, b.toInt, c.toInt, d.toInt)
def set4 (t : Nat → Int64) (a b c d : Int32) : Nat → Int64 := vp_updL (vp_updL (vp_updL (vp_updL t 0 a.toInt64) 1 b.toInt64) 2 c.toInt64) 3 d.toInt64
theorem z4_set4 (t : Nat → Int64) (a b c d : Int32) : z4 (set4 t a b c d) = i4 a b c d := zext (Int32.toInt_toInt64 a) (Int32.toInt_toInt64 b) (Int32.toInt_toInt64 c) (Int32.toInt_toInt64 d)
theorem rle_le4 {E : Nat} {t : Nat → Int64} : rle E t ↔ le4 E (z4 t) := by
  constructor
  · intro h
    exact ⟨h 0 (by decide), h 1 (by decide), h 2 (by decide), h 3 (by decide)⟩
  · rintro ⟨h0, h1, h2, h3⟩ j hj
    rcases (show j = 0 ∨ j = 1 ∨ j = 2 ∨ j = 3 by omega) with rfl | rfl | rfl | rfl
    · exact h0
    · exact h1
    · exact h2
    · exact h3
theorem V_ask_eq {F E : Nat} (hF : 5 ≤ F) (hE : E ≤ 1000) (t : Nat → Int64) (a b c d : Int32) : (le4 E (i4 a b c d) ∧ V_ask F t a b c d (nI E) = some (1, set4 t a b c d)) ∨ (¬ le4 E (i4 a b c d) ∧ V_ask F t a b c d (nI E) = some (0, set4 t a b c d)) := by
  have q0 : (0 : Int32).toNatClampNeg = 0 := by decide
  have q1 : (1 : Int32).toNatClampNeg = 1 := by decide
  have q2 : (2 : Int32).toNatClampNeg = 2 := by decide
  have q3 : (3 : Int32).toNatClampNeg = 3 := by decide
  have v0 : vp_in (0 : Int32) 4 := by unfold vp_in; decide
  have v1 : vp_in (1 : Int32) 4 := by unfold vp_in; decide
  have v2 : vp_in (2 : Int32) 4 := by unfold vp_in; decide
  have v3 : vp_in (3 : Int32) 4 := by unfold vp_in; decide
  have hrl : (∀ j, 0 ≤ j → j < 4 → ((set4 t a b c d) j).toInt.natAbs ≤ E) ↔ le4 E (i4 a b c d) := by
    rw [← z4_set4 t, ← rle_le4]
    exact ⟨fun h j hj => h j (Nat.zero_le _) hj, fun h j _ hj => h j hj⟩
  unfold V_ask
  rw [gd_t v0, gd_t v1, gd_t v2, gd_t v3, q0, q1, q2, q3]
  rcases ask_loop (F := F) hE (t := set4 t a b c d) 4 F 0 rfl (by omega) with ⟨h1, h2⟩ | ⟨h1, h2⟩
  · left
    refine ⟨hrl.mp h1, ?_⟩
    have h2 : lV_ask_36 F (vp_updL (vp_updL (vp_updL (vp_updL t 0 a.toInt64) 1 b.toInt64) 2 c.toInt64) 3 d.toInt64) (nI E) F 0 = some (.inl ()) := h2
    rw [h2]
    rfl
  · right
    refine ⟨fun h => h1 (hrl.mpr h), ?_⟩
    have h2 : lV_ask_36 F (vp_updL (vp_updL (vp_updL (vp_updL t 0 a.toInt64) 1 b.toInt64) 2 c.toInt64) 3 d.toInt64) (nI E) F 0 = some (.inr (0, set4 t a b c d)) := h2
    rw [h2]
    rfl
theorem M_within_eq {F E : Nat} (hE : E ≤ 1000) (a b c d : Int32) : (le4 E (i4 a b c d) ∧ M_within F a b c d (nI E) = some 1) ∨ (¬ le4 E (i4 a b c d) ∧ M_within F a b c d (nI E) = some 0) := by
  obtain ⟨-, -, e3, e4⟩ := e64 hE
  have key : ∀ x : Int32, ((x < -nI E) ↔ x.toInt < -(E : Int)) ∧ ((nI E < x) ↔ (E : Int) < x.toInt) := fun x => ⟨by rw [Int32.lt_iff_toInt_lt, e3], by rw [Int32.lt_iff_toInt_lt, e4]⟩
  have ka := key a
  have kb := key b
  have kc := key c
  have kd := key d
  unfold M_within le4 i4
  dsimp only
  by_cases a1 : a < -nI E
  · rw [if_pos a1]; right; refine ⟨fun h => ?_, rfl⟩; have := ka.1.mp a1; omega
  · rw [if_neg a1]
    by_cases a2 : nI E < a
    · rw [if_pos a2]; right; refine ⟨fun h => ?_, rfl⟩; have := ka.2.mp a2; omega
    · rw [if_neg a2]
      by_cases b1 : b < -nI E
      · rw [if_pos b1]; right; refine ⟨fun h => ?_, rfl⟩; have := kb.1.mp b1; omega
      · rw [if_neg b1]
        by_cases b2 : nI E < b
        · rw [if_pos b2]; right; refine ⟨fun h => ?_, rfl⟩; have := kb.2.mp b2; omega
        · rw [if_neg b2]
          by_cases c1 : c < -nI E
          · rw [if_pos c1]; right; refine ⟨fun h => ?_, rfl⟩; have := kc.1.mp c1; omega
          · rw [if_neg c1]
            by_cases c2 : nI E < c
            · rw [if_pos c2]; right; refine ⟨fun h => ?_, rfl⟩; have := kc.2.mp c2; omega
            · rw [if_neg c2]
              by_cases d1 : d < -nI E
              · rw [if_pos d1]; right; refine ⟨fun h => ?_, rfl⟩; have := kd.1.mp d1; omega
              · rw [if_neg d1]
                by_cases d2 : nI E < d
                · rw [if_pos d2]; right; refine ⟨fun h => ?_, rfl⟩; have := kd.2.mp d2; omega
                · rw [if_neg d2]
                  left
                  refine ⟨?_, rfl⟩
                  have x1 := mt ka.1.mpr a1
                  have x2 := mt ka.2.mpr a2
                  have x3 := mt kb.1.mpr b1
                  have x4 := mt kb.2.mpr b2
                  have x5 := mt kc.1.mpr c1
                  have x6 := mt kc.2.mpr c2
                  have x7 := mt kd.1.mpr d1
                  have x8 := mt kd.2.mpr d2
                  omega
theorem M_set_eq {F : Nat} (t : Nat → Int64) (a b c d : Int32) : M_set F t a b c d = some (set4 t a b c d) := by
  have q0 : (0 : Int32).toNatClampNeg = 0 := by decide
  have q1 : (1 : Int32).toNatClampNeg = 1 := by decide
  have q2 : (2 : Int32).toNatClampNeg = 2 := by decide
  have q3 : (3 : Int32).toNatClampNeg = 3 := by decide
  have v0 : vp_in (0 : Int32) 4 := by unfold vp_in; decide
  have v1 : vp_in (1 : Int32) 4 := by unfold vp_in; decide
  have v2 : vp_in (2 : Int32) 4 := by unfold vp_in; decide
  have v3 : vp_in (3 : Int32) 4 := by unfold vp_in; decide
  unfold M_set set4
  rw [gd_t v0, gd_t v1, gd_t v2, gd_t v3, q0, q1, q2, q3]
theorem gather_loop {F n : Nat} {G : Nat → Int32} {ad : Nat → Nat → Int64} {but : Int32} (hF : 200 ≤ F) (hn : n ≤ 6) (h9 : ∀ g, g < n → le4 9 (gv G g)) (had : ∀ g, g < n → z4 (ad g) = gv G g) : ∀ (d m g : Nat) (R : Nat → Nat → Int64) (t : Nat → Int64), g + d = n → d < m → Ech (gl G but g) R → ∃ R' t', lV_gather_6 F ad (nI n) but m (nI g) R t = some (R', t') ∧ Ech (gl G but n) R' := by
  intro d
  induction d with
  | zero =>
    intro m g R t h1 h2 hE
    obtain ⟨m, rfl⟩ : ∃ q, m = q + 1 := ⟨m - 1, by omega⟩
    have e : g = n := by omega
    subst e
    exact ⟨R, t, by rw [lV_gather_6, if_pos (nI_le (Nat.le_refl _) (by omega))], hE⟩
  | succ d ih =>
    intro m g R t h1 h2 hE
    obtain ⟨m, rfl⟩ : ∃ q, m = q + 1 := ⟨m - 1, by omega⟩
    have hg : g < n := by omega
    rw [lV_gather_6, if_neg (nI_ge hg (by omega))]
    by_cases e : nI g = but
    · rw [if_pos e, nI_1]
      refine ih m (g + 1) R t (by omega) (by omega) ?_
      have e2 : gl G but (g + 1) = gl G but g := if_pos e
      rw [e2]; exact hE
    · rw [if_neg e, gd_t (vp_in_nI (by omega) (by decide)), nI_clamp (by omega)]
      obtain ⟨R', t', k1, k2⟩ := E_include_eq (F := F) (t := t) (g := ad g) hF (gl_mem (fun q hq => h9 q (by omega))) (by rw [had g hg]; exact h9 g hg) hE
      rw [k1, Option.bind_some, nI_1]
      refine ih m (g + 1) R' t' (by omega) (by omega) ?_
      have e2 : gl G but (g + 1) = gv G g :: gl G but g := if_neg e
      rw [e2, ← had g hg]; exact k2
theorem V_gather_eq {F n : Nat} {G : Nat → Int32} {ad R : Nat → Nat → Int64} {t : Nat → Int64} {but : Int32} (hF : 200 ≤ F) (hn : n ≤ 6) (h9 : ∀ g, g < n → le4 9 (gv G g)) (had : ∀ g, g < n → z4 (ad g) = gv G g) : ∃ R' t', V_gather F ad R t (nI n) but = some (R', t') ∧ Ech (gl G but n) R' := by
  obtain ⟨R', t', k1, k2⟩ := gather_loop (F := F) (but := but) hF hn h9 had n F 0 (clr R) t (by omega) (by omega) (Ech_clr R)
  refine ⟨R', t', ?_, k2⟩
  unfold V_gather
  rw [E_clear_eq (by omega), Option.bind_some, show (0 : Int32) = nI 0 from rfl, k1]
  rfl
theorem gl_same {G : Nat → Int32} {b1 b2 : Int32} : ∀ {n : Nat}, (∀ g, g < n → nI g ≠ b1 ∧ nI g ≠ b2) → gl G b1 n = gl G b2 n
  | 0, _ => rfl
  | n + 1, h => by
    have h1 := h n (by omega)
    unfold gl
    rw [if_neg h1.1, if_neg h1.2, gl_same (fun g hg => h g (by omega))]
theorem gl_cong {G G' : Nat → Int32} {b : Int32} : ∀ {n : Nat}, (∀ g, g < n → gv G g = gv G' g) → gl G b n = gl G' b n
  | 0, _ => rfl
  | n + 1, h => by
    unfold gl
    rw [gl_cong (fun g hg => h g (by omega)), h n (by omega)]
/-- both staircases have their pivots on the same axes -/
theorem held_same {A : List Z4} {R1 R2 : Nat → Nat → Int64} (t1 : Tri R1) (s1 : ∀ v, sp (rl R1) v ↔ sp A v) (t2 : Tri R2) (s2 : ∀ v, sp (rl R2) v ↔ sp A v) {k : Nat} (hk : k < 4) (h : R1 k k = 0) : R2 k k = 0 := by
  have h1 : sp (fl4 (fun i => z4 (R1 i))) (z4 (R2 k)) := (s1 _).mpr ((s2 _).mp (sp_mem (rl_mem.mpr ⟨k, hk, rfl⟩)))
  have h2 := tri_lead (TriZ_of t1) h1 hk (fun j hj => by rw [zc_z4 _ (by omega), (t2 k hk).1 j hj]; rfl)
  have h2 : zc (z4 (R1 k)) k ∣ zc (z4 (R2 k)) k := h2
  rw [zc_z4 _ hk, zc_z4 _ hk, h, show (0 : Int64).toInt = 0 from rfl] at h2
  exact ti_eq.mpr (Int.zero_dvd.mp h2)
def hN (R : Nat → Nat → Int64) (k : Nat) : Nat := if R k k = 0 then 0 else 1
theorem size_go {F n k s : Nat} {R : Nat → Nat → Int64} (hk : k < 4) : lE_size_4 F R (n + 1) (nI s) (nI k) = lE_size_4 F R n (nI (s + hN R k)) (nI (k + 1)) := by
  have h4 : ¬ (4 : Int32) ≤ nI k := nI_ge (b := 4) hk (by decide)
  rw [lE_size_4, if_neg h4, isHeld_at hk, Option.bind_some]
  unfold hldI hN
  by_cases h : R k k = 0
  · rw [if_pos h, if_pos h, if_pos rfl, nI_1, show (0 : Int32) = nI 0 from rfl, nI_add]
  · rw [if_neg h, if_neg h, if_neg (by decide), nI_1, nI_1]
theorem E_size_eq {F : Nat} (hF : 5 ≤ F) (R : Nat → Nat → Int64) : E_size F R = some (nI (hN R 0 + hN R 1 + hN R 2 + hN R 3)) := by
  obtain ⟨n, rfl⟩ : ∃ n, F = n + 5 := ⟨F - 5, by omega⟩
  unfold E_size
  rw [show (0 : Int32) = nI 0 from rfl, size_go (by decide), size_go (by decide), size_go (by decide), size_go (by decide), lE_size_4, if_pos (by decide), Option.bind_some]
  show some (nI (0 + hN R 0 + hN R 1 + hN R 2 + hN R 3)) = _
  rw [Nat.zero_add]
theorem rows_count {A : List Z4} {R : Nat → Nat → Int64} {nr : Nat} {c : Nat → Nat} {row : Nat → Int64} {piv : Nat → Int32} (hC : Cx A R nr c) (hR : Rep nr c row piv R) : nr = hN R 0 + hN R 1 + hN R 2 + hN R 3 := by
  obtain ⟨-, -, -, -, hh, hz⟩ := hC
  obtain ⟨hn, hc, hs⟩ := hR
  have h1 : ∀ k, k < 4 → (hN R k = 1 ∧ ∃ i, i < nr ∧ c i = k) ∨ (hN R k = 0 ∧ ∀ i, i < nr → c i ≠ k) := by
    intro k hk
    by_cases e : ∃ i, i < nr ∧ c i = k
    · obtain ⟨i, hi, q⟩ := e
      have := hh i hi
      rw [q] at this
      exact Or.inl ⟨if_neg this, i, hi, q⟩
    · have hno : ∀ i, i < nr → c i ≠ k := fun i hi q => e ⟨i, hi, q⟩
      exact Or.inr ⟨if_pos (hz k hk hno), hno⟩
  have b0 : ∀ i, i < nr → c i < 4 := fun i hi => (hc i hi).1
  rcases (show nr = 0 ∨ nr = 1 ∨ nr = 2 ∨ nr = 3 ∨ nr = 4 by omega) with rfl | rfl | rfl | rfl | rfl
  · have h2 : ∀ k, k < 4 → hN R k = 0 := fun k hk => by
      rcases h1 k hk with ⟨a, i, hi, q⟩ | ⟨a, b⟩
      · omega
      · exact a
    have k0 := h2 0 (by decide)
    have k1 := h2 1 (by decide)
    have k2 := h2 2 (by decide)
    have k3 := h2 3 (by decide)
    omega
  · have h2 : ∀ k, k < 4 → (hN R k = 1 ∧ (c 0 = k)) ∨ (hN R k = 0 ∧ c 0 ≠ k) := fun k hk => by
      rcases h1 k hk with ⟨a, i, hi, q⟩ | ⟨a, b⟩
      · refine Or.inl ⟨a, ?_⟩
        rcases (show i = 0 by omega) with rfl <;> omega
      · exact Or.inr ⟨a, b 0 (by decide)⟩
    have k0 := h2 0 (by decide)
    have k1 := h2 1 (by decide)
    have k2 := h2 2 (by decide)
    have k3 := h2 3 (by decide)
    have l0 := b0 0 (by decide)
    omega
  · have h2 : ∀ k, k < 4 → (hN R k = 1 ∧ (c 0 = k ∨ c 1 = k)) ∨ (hN R k = 0 ∧ c 0 ≠ k ∧ c 1 ≠ k) := fun k hk => by
      rcases h1 k hk with ⟨a, i, hi, q⟩ | ⟨a, b⟩
      · refine Or.inl ⟨a, ?_⟩
        rcases (show i = 0 ∨ i = 1 by omega) with rfl | rfl <;> omega
      · exact Or.inr ⟨a, b 0 (by decide), b 1 (by decide)⟩
    have k0 := h2 0 (by decide)
    have k1 := h2 1 (by decide)
    have k2 := h2 2 (by decide)
    have k3 := h2 3 (by decide)
    have m0 := hs 0 1 (by decide) (by decide)
    have l1 := b0 1 (by decide)
    omega
  · have h2 : ∀ k, k < 4 → (hN R k = 1 ∧ (c 0 = k ∨ c 1 = k ∨ c 2 = k)) ∨ (hN R k = 0 ∧ c 0 ≠ k ∧ c 1 ≠ k ∧ c 2 ≠ k) := fun k hk => by
      rcases h1 k hk with ⟨a, i, hi, q⟩ | ⟨a, b⟩
      · refine Or.inl ⟨a, ?_⟩
        rcases (show i = 0 ∨ i = 1 ∨ i = 2 by omega) with rfl | rfl | rfl <;> omega
      · exact Or.inr ⟨a, b 0 (by decide), b 1 (by decide), b 2 (by decide)⟩
    have k0 := h2 0 (by decide)
    have k1 := h2 1 (by decide)
    have k2 := h2 2 (by decide)
    have k3 := h2 3 (by decide)
    have m0 := hs 0 1 (by decide) (by decide)
    have m1 := hs 1 2 (by decide) (by decide)
    have l2 := b0 2 (by decide)
    omega
  · have h2 : ∀ k, k < 4 → (hN R k = 1 ∧ (c 0 = k ∨ c 1 = k ∨ c 2 = k ∨ c 3 = k)) ∨ (hN R k = 0 ∧ c 0 ≠ k ∧ c 1 ≠ k ∧ c 2 ≠ k ∧ c 3 ≠ k) := fun k hk => by
      rcases h1 k hk with ⟨a, i, hi, q⟩ | ⟨a, b⟩
      · refine Or.inl ⟨a, ?_⟩
        rcases (show i = 0 ∨ i = 1 ∨ i = 2 ∨ i = 3 by omega) with rfl | rfl | rfl | rfl <;> omega
      · exact Or.inr ⟨a, b 0 (by decide), b 1 (by decide), b 2 (by decide), b 3 (by decide)⟩
    have k0 := h2 0 (by decide)
    have k1 := h2 1 (by decide)
    have k2 := h2 2 (by decide)
    have k3 := h2 3 (by decide)
    have m0 := hs 0 1 (by decide) (by decide)
    have m1 := hs 1 2 (by decide) (by decide)
    have m2 := hs 2 3 (by decide) (by decide)
    have l3 := b0 3 (by decide)
    omega
