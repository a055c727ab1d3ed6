/-! Layer B: look -/
def gv (G : Nat → Int32) (g : Nat) : Z4 := ((G (4 * g)).toInt, (G (4 * g + 1)).toInt, (G (4 * g + 2)).toInt, (G (4 * g + 3)).toInt)
/-- the generators before n, the latest first, but one -/
def gl (G : Nat → Int32) (but : Int32) : Nat → List Z4
  | 0 => []
  | n + 1 => if nI n = but then gl G but n else gv G n :: gl G but n
theorem gl_mem {G : Nat → Int32} {but : Int32} {P : Z4 → Prop} : ∀ {n : Nat}, (∀ g, g < n → P (gv G g)) → ∀ x ∈ gl G but n, P x
  | 0, _, x, hx => absurd hx List.not_mem_nil
  | n + 1, h, x, hx => by
    unfold gl at hx
    by_cases e : nI n = but
    · rw [if_pos e] at hx
      exact gl_mem (fun g hg => h g (by omega)) x hx
    · rw [if_neg e] at hx
      rcases List.mem_cons.mp hx with rfl | hx
      · exact h n (by omega)
      · exact gl_mem (fun g hg => h g (by omega)) x hx
theorem ix6 {i j : Nat} (hi : i < 6) (hj : j < 4) : (4 : Int32) * nI i + nI j = nI (4 * i + j) := by
  have h : (4 : Int32) * nI i = nI (4 * i) := by
    rcases (show i = 0 ∨ i = 1 ∨ i = 2 ∨ i = 3 ∨ i = 4 ∨ i = 5 by omega) with rfl | rfl | rfl | rfl | rfl | rfl <;> decide
  rw [h]
  exact nI_add _ _
def lk48 (j g : Nat) (G : Nat → Int32) (f : Nat → Int64) : Nat → Int64 := fun x => if j ≤ x ∧ x < 4 then (G (4 * g + x)).toInt64 else f x
theorem look_48 {F g : Nat} {G : Nat → Int32} {v1 : Int32} (hg : g < 6) : ∀ (d n j : Nat) (f : Nat → Int64), j + d = 4 → d < n → lM_look_48 F G v1 (nI g) n (nI j) f = some (lk48 j g G f) := by
  intro d
  induction d with
  | zero =>
    intro n j f hj hn
    obtain ⟨n, rfl⟩ : ∃ q, n = q + 1 := ⟨n - 1, by omega⟩
    have e : j = 4 := by omega
    subst e
    have e1 : lk48 4 g G f = f := funext fun x => if_neg (by omega)
    rw [lM_look_48, if_pos (show (4 : Int32) ≤ nI 4 by decide), e1]
  | succ d ih =>
    intro n j f hj hn
    obtain ⟨n, rfl⟩ : ∃ q, n = q + 1 := ⟨n - 1, by omega⟩
    have h4 : ¬ (4 : Int32) ≤ nI j := nI_ge (b := 4) (by omega) (by decide)
    rw [lM_look_48, if_neg h4, ix6 hg (by omega), gd_t (vp_in_nI (by omega) (by decide)), gd_t (vp_in_nI (by omega) (by decide)), nI_clamp (by omega), nI_clamp (by omega), nI_1, ih n (j + 1) _ (by omega) (by omega)]
    congr 1
    funext x
    unfold lk48 vp_updL
    by_cases e : x = j
    · subst e
      rw [if_neg (by omega), if_pos rfl, if_pos (by omega)]
    · by_cases h : j + 1 ≤ x ∧ x < 4
      · rw [if_pos h, if_pos (by omega)]
      · rw [if_neg h, if_neg e, if_neg (by omega)]
theorem z4_lk48 {g : Nat} {G : Nat → Int32} {f : Nat → Int64} : z4 (lk48 0 g G f) = gv G g := by
  have h : ∀ j, j < 4 → (lk48 0 g G f j).toInt = (G (4 * g + j)).toInt := fun j hj => by
    have e : lk48 0 g G f j = (G (4 * g + j)).toInt64 := if_pos ⟨Nat.zero_le _, hj⟩
    rw [e, Int32.toInt_toInt64]
  exact zext (h 0 (by decide)) (h 1 (by decide)) (h 2 (by decide)) (h 3 (by decide))
theorem Cx_nil (c : Nat → Nat) : Cx [] (fun _ _ => 0) 0 c := by
  refine ⟨fun k hk => ⟨fun j hj => rfl, show (0 : Int) ≤ (0 : Int64).toInt by decide, fun _ j hj => rfl⟩, fun v => ?_, fun g hg => absurd hg List.not_mem_nil, fun m hm j hj => by show (0 : Int64).toInt.natAbs ≤ 157464; decide, fun i hi => absurd hi (by omega), fun k hk _ => rfl⟩
  refine sp_same (fun g hg => ?_) (fun g hg => absurd hg List.not_mem_nil) v
  obtain ⟨i, hi, rfl⟩ := rl_mem.mp hg
  rw [z4_of0 (fun j hj => rfl)]
  exact sp_zero _
/-- the reference's rows are those of the lattice of A -/
def HS (A : List Z4) (rows : Int32) (row : Nat → Int64) (piv : Nat → Int32) : Prop := ∃ nr c R, rows = nI nr ∧ Rep nr c row piv R ∧ Cx A R nr c
theorem look_33 {F many : Nat} {G : Nat → Int32} {but : Int32} (hF : 200 ≤ F) (hm : many ≤ 6) (h9 : ∀ g, g < many → le4 9 (gv G g)) : ∀ (d n g : Nat) (rows : Int32) (row : Nat → Int64) (piv : Nat → Int32) (f : Nat → Int64), g + d = many → d < n → HS (gl G but g) rows row piv → ∃ rows' row' piv' f', lM_look_33 F (nI many) G but n (nI g) rows row piv f = some (rows', row', piv', f') ∧ HS (gl G but many) rows' row' piv' := by
  intro d
  induction d with
  | zero =>
    intro n g rows row piv f h1 h2 hH
    obtain ⟨n, rfl⟩ : ∃ q, n = q + 1 := ⟨n - 1, by omega⟩
    have e : g = many := by omega
    subst e
    exact ⟨rows, row, piv, f, by rw [lM_look_33, if_pos (nI_le (Nat.le_refl _) (by omega))], hH⟩
  | succ d ih =>
    intro n g rows row piv f h1 h2 hH
    obtain ⟨n, rfl⟩ : ∃ q, n = q + 1 := ⟨n - 1, by omega⟩
    have hg : g < many := by omega
    rw [lM_look_33, if_neg (nI_ge hg (by omega))]
    by_cases e : nI g = but
    · rw [if_pos e, nI_1]
      refine ih n (g + 1) rows row piv f (by omega) (by omega) ?_
      have e2 : gl G but (g + 1) = gl G but g := if_pos e
      rw [e2]; exact hH
    · rw [if_neg e, show (0 : Int32) = nI 0 from rfl, look_48 (by omega) 4 F 0 f rfl (by omega), Option.bind_some]
      obtain ⟨nr, c, R, rfl, hR, hC⟩ := hH
      obtain ⟨nr', c', row', piv', f', R', k1, k2, k3⟩ := M_enter_eq (f := lk48 0 g G f) hF hC hR (by rw [z4_lk48]; exact h9 g hg)
      rw [k1, Option.bind_some, nI_1]
      refine ih n (g + 1) (nI nr') row' piv' f' (by omega) (by omega) ⟨nr', c', R', rfl, k2, ?_⟩
      have e2 : gl G but (g + 1) = gv G g :: gl G but g := if_neg e
      rw [e2]
      rw [z4_lk48] at k3
      exact k3
/-- look: afterwards the rows are those of the lattice of the generators but one -/
theorem M_look_eq {F many : Nat} {G : Nat → Int32} {known without rows but : Int32} {row f : Nat → Int64} {piv : Nat → Int32} (hF : 200 ≤ F) (hm : many ≤ 6) (h9 : ∀ g, g < many → le4 9 (gv G g)) (hk : known ≠ 0 → HS (gl G without many) rows row piv) : ∃ known' rows' row' piv' f', M_look F (nI many) G known without rows row piv f but = some (known', but, rows', row', piv', f') ∧ known' ≠ 0 ∧ HS (gl G but many) rows' row' piv' := by
  obtain ⟨rows', row', piv', f', k1, k2⟩ := look_33 (F := F) (but := but) hF hm h9 many F 0 (nI 0) row piv f (by omega) (by omega) ⟨0, fun _ => 0, fun _ _ => 0, rfl, ⟨by omega, fun i hi => absurd hi (by omega), fun i j _ hj => absurd hj (by omega)⟩, Cx_nil _⟩
  unfold M_look
  by_cases e : known = 0
  · rw [if_pos e, show (0 : Int32) = nI 0 from rfl, k1, Option.bind_some]
    exact ⟨1, rows', row', piv', f', rfl, by decide, k2⟩
  · rw [if_neg e]
    by_cases e2 : without = but
    · rw [if_pos e2]
      refine ⟨known, rows, row, piv, f, by rw [e2], e, ?_⟩
      rw [← e2]; exact hk e
    · rw [if_neg e2, show (0 : Int32) = nI 0 from rfl, k1, Option.bind_some]
      exact ⟨1, rows', row', piv', f', rfl, by decide, k2⟩
