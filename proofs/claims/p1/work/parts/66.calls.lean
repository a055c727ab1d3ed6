/-! Layer B: spare, add, drop, model against model -/
theorem m4 {j : Nat} (hj : j < 6) : (4 : Int32) * nI j = nI (4 * j) := by
  rcases (show j = 0 ∨ j = 1 ∨ j = 2 ∨ j = 3 ∨ j = 4 ∨ j = 5 by omega) with rfl | rfl | rfl | rfl | rfl | rfl <;> decide
section CALLS2
variable {n : Nat} {G : Nat → Int32} {QL : List Z4 → (Nat → Int64) → Prop} {QM : List Z4 → (Nat → Int32) → Prop}
variable {many known without rows listed measured : Int32} {gen : Nat → Int32} {row first fresh : Nat → Int64} {piv minima : Nat → Int32}
theorem spare_eq (hn : n ≤ 6) (h9 : ∀ g, g < n → le4 9 (gv G g)) {added oR : Nat → Nat → Int64} {ot : Nat → Int64} {vHeld : Int32} (hH : vHeld = nI n) (had : ∀ g, g < n → z4 (added g) = gv G g) (hM : InvM QL QM n G many gen known without rows row piv listed first measured minima) (k : Int32) :
    ∃ r oR' ot' k' w' rs' ro' pi' fr', V_spare 1000 added oR ot vHeld k = some (r, oR', ot') ∧ M_spare 1000 many gen known without rows row piv fresh k = some (r, k', w', rs', ro', pi', fr') ∧ InvM QL QM n G many gen k' w' rs' ro' pi' listed first measured minima := by
  subst hH
  obtain ⟨rfl, rfl, hK, hL, hMe⟩ := id hM
  unfold V_spare M_spare
  by_cases h0 : k < 0
  · rw [if_pos h0, if_pos h0]
    exact ⟨_, _, _, _, _, _, _, _, _, rfl, rfl, hM⟩
  · rw [if_neg h0, if_neg h0]
    by_cases h1 : k < nI n
    · rw [if_pos h1, if_pos h1]
      obtain ⟨j, hj, rfl⟩ := nI_of h0
      have hjn : j < n := (nI_ltI hj (by omega)).mp h1
      obtain ⟨k', rs', ro', pi', f', l1, l2, l3⟩ := M_look_eq (F := 1000) (but := nI j) (f := fresh) (by decide) hn h9 hK
      obtain ⟨R', t', q1, q2⟩ := V_gather_eq (F := 1000) (R := oR) (t := ot) (but := nI j) (by decide) hn h9 had
      have hA : ∀ x ∈ gl gen (nI j) n, le4 9 x := gl_mem h9
      have h9j := le4_mono (show 9 ≤ 1000 by decide) (h9 j hjn)
      obtain ⟨m, t2, o1, o2⟩ := E_least_eq (F := 1000) (t := t') (v := added j) (by decide) hA q2 (rle_le4.mpr (by rw [had j hjn]; exact h9j))
      have hset : z4 (set4 f' (gen (4 * j)) (gen (4 * j + 1)) (gen (4 * j + 2)) (gen (4 * j + 3))) = gv gen j := by rw [z4_set4]; rfl
      obtain ⟨m', f2, o3, o4⟩ := M_times_eq (F := 1000) (f := set4 f' (gen (4 * j)) (gen (4 * j + 1)) (gen (4 * j + 2)) (gen (4 * j + 3))) (by decide) l3 (rle_le4.mpr (by rw [hset]; exact h9j))
      rw [had j hjn] at o2
      rw [hset] at o4
      have hmm := ord_same o2 o4
      subst hmm
      rw [q1, l1, Option.bind_some, Option.bind_some, gd_t (vp_in_nI (by omega) (by decide)), m4 (by omega), show nI (4 * j) + (1 : Int32) = nI (4 * j + 1) from nI_add _ 1, show nI (4 * j) + (2 : Int32) = nI (4 * j + 2) from nI_add _ 2, show nI (4 * j) + (3 : Int32) = nI (4 * j + 3) from nI_add _ 3, gd_t (vp_in_nI (by omega) (by decide)), gd_t (vp_in_nI (by omega) (by decide)), gd_t (vp_in_nI (by omega) (by decide)), gd_t (vp_in_nI (by omega) (by decide)), nI_clamp (by omega), nI_clamp (by omega), nI_clamp (by omega), nI_clamp (by omega), nI_clamp (by omega), M_set_eq, Option.bind_some]
      unfold E_holds
      dsimp only
      rw [o1, o3, Option.bind_some, Option.bind_some]
      dsimp only
      have hM2 : InvM QL QM n gen (nI n) gen k' (nI j) rs' ro' pi' listed first measured minima := ⟨rfl, rfl, fun _ => l3, hL, hMe⟩
      by_cases e : m = 1
      · rw [if_pos e, if_pos e, Option.bind_some, gd_t (show narrow .boolean (.int 1) = .int 1 from rfl)]
        exact ⟨_, _, _, _, _, _, _, _, _, rfl, rfl, hM2⟩
      · rw [if_neg e, if_neg e, Option.bind_some, gd_t (show narrow .boolean (.int 0) = .int 0 from rfl)]
        exact ⟨_, _, _, _, _, _, _, _, _, rfl, rfl, hM2⟩
    · rw [if_neg h1, if_neg h1]
      exact ⟨_, _, _, _, _, _, _, _, _, rfl, rfl, hM⟩
theorem not_m1 {g : Nat} (h : g < 2 ^ 31) : nI g ≠ -1 := fun e => by
  have h1 := congrArg Int32.toInt e
  rw [nI_toInt h, show (-1 : Int32).toInt = -1 from rfl] at h1
  omega
theorem drop_eq (hn : n ≤ 6) (h9 : ∀ g, g < n → le4 9 (gv G g)) {added eR : Nat → Nat → Int64} {et : Nat → Int64} {vHeld vRed vTal vLis : Int32} (hH : vHeld = nI n) (had : ∀ g, g < n → z4 (added g) = gv G g) (hG : many = nI n) :
    (n = 0 ∧ V_drop 1000 added eR et vHeld vRed vTal vLis = some (0, eR, et, vHeld, vRed, vTal, vLis) ∧ M_drop 1000 many known listed measured = some (0, many, known, listed, measured)) ∨ (∃ m eR' et', n = m + 1 ∧ V_drop 1000 added eR et vHeld vRed vTal vLis = some (1, eR', et', nI m, 0, 0, 0) ∧ M_drop 1000 many known listed measured = some (1, nI m, 0, 0, 0) ∧ Ech (gl G (-1) m) eR') := by
  subst hH; subst hG
  unfold V_drop M_drop
  by_cases e : n = 0
  · subst e
    exact Or.inl ⟨rfl, if_pos rfl, if_pos rfl⟩
  · right
    obtain ⟨m, rfl⟩ : ∃ m, n = m + 1 := ⟨n - 1, by omega⟩
    have hne : ¬ nI (m + 1) = 0 := nI_ne0 (by omega) (by omega)
    obtain ⟨R', t', q1, q2⟩ := V_gather_eq (F := 1000) (R := eR) (t := et) (but := 6) (by decide) (show m ≤ 6 by omega) (fun g hg => h9 g (by omega)) (fun g hg => had g (by omega))
    refine ⟨m, R', t', rfl, ?_, ?_, ?_⟩
    · rw [if_neg hne, nI_pred, q1]; rfl
    · rw [if_neg hne, nI_pred]; rfl
    · have e2 : gl G (-1) m = gl G 6 m := gl_same (fun g hg => ⟨not_m1 (by omega), fun q => by
        have := (nI_eq (a := g) (b := 6) (by omega) (by omega)).mp q
        omega⟩)
      rw [e2]; exact q2
def gen4 (gen : Nat → Int32) (n : Nat) (a b c d : Int32) : Nat → Int32 := upd (upd (upd (upd gen (4 * n) a) (4 * n + 1) b) (4 * n + 2) c) (4 * n + 3) d
theorem gv_gen4_lt {gen : Nat → Int32} {n g : Nat} {a b c d : Int32} (h : g < n) : gv (gen4 gen n a b c d) g = gv gen g := by
  have key : ∀ x, x < 4 * n → gen4 gen n a b c d x = gen x := fun x hx => by
    unfold gen4
    rw [pk_un (by omega), pk_un (by omega), pk_un (by omega), pk_un (by omega)]
  unfold gv
  rw [key _ (by omega), key _ (by omega), key _ (by omega), key _ (by omega)]
theorem gv_gen4 {gen : Nat → Int32} {n : Nat} {a b c d : Int32} : gv (gen4 gen n a b c d) n = i4 a b c d := by
  unfold gv gen4 i4
  rw [pk_un (show 4 * n ≠ 4 * n + 3 by omega), pk_un (show 4 * n ≠ 4 * n + 2 by omega), pk_un (show 4 * n ≠ 4 * n + 1 by omega), pk_us, pk_un (show 4 * n + 1 ≠ 4 * n + 3 by omega), pk_un (show 4 * n + 1 ≠ 4 * n + 2 by omega), pk_us, pk_un (show 4 * n + 2 ≠ 4 * n + 3 by omega), pk_us, pk_us]
theorem add_eq (hn : n ≤ 6) (h9 : ∀ g, g < n → le4 9 (gv G g)) {added eR : Nat → Nat → Int64} {asked et : Nat → Int64} {vHeld vRed vTal vLis : Int32} (hH : vHeld = nI n) (hE : Ech (gl G (-1) n) eR) (hG : many = nI n) (hG2 : gen = G) (a b c d : Int32) :
    (∃ r t1, V_add 1000 added asked eR et vHeld vRed vTal vLis a b c d = some (r, added, t1, eR, et, vHeld, vRed, vTal, vLis) ∧ M_add 1000 many gen known listed measured a b c d = some (r, many, gen, known, listed, measured)) ∨ (∃ t1 eR' et' ad', n < 6 ∧ V_add 1000 added asked eR et vHeld vRed vTal vLis a b c d = some (nI n, va_up added n ad', t1, eR', et', nI (n + 1), 0, 0, 0) ∧ M_add 1000 many gen known listed measured a b c d = some (nI n, nI (n + 1), gen4 gen n a b c d, 0, 0, 0) ∧ z4 ad' = i4 a b c d ∧ le4 9 (i4 a b c d) ∧ Ech (i4 a b c d :: gl G (-1) n) eR') := by
  subst hH; subst hG; subst hG2
  have hA : ∀ x ∈ gl gen (-1) n, le4 9 x := gl_mem h9
  unfold V_add M_add
  rcases V_ask_eq (F := 1000) (E := 9) (by decide) (by decide) asked a b c d with ⟨h1, h2⟩ | ⟨h1, h2⟩
  · rcases M_within_eq (F := 1000) (E := 9) (by decide) a b c d with ⟨h3, h4⟩ | ⟨h3, h4⟩
    · rw [show (9 : Int32) = nI 9 from rfl, h2, h4, Option.bind_some, Option.bind_some, if_neg (show ¬ (1 : Int32) = 0 by decide), if_neg (show ¬ (1 : Int32) = 0 by decide)]
      by_cases e : n = 6
      · subst e
        left
        rw [if_neg (show ¬ nI 6 < (6 : Int32) by decide), if_pos (show nI 6 = (6 : Int32) by decide)]
        exact ⟨_, _, rfl, rfl⟩
      · right
        have hlt : nI n < (6 : Int32) := nI_lt (b := 6) (by omega) (by decide)
        have hne : ¬ nI n = (6 : Int32) := fun q => e ((nI_eq (a := n) (b := 6) (by omega) (by omega)).mp q)
        obtain ⟨R', t', q1, q2⟩ := E_include_eq (F := 1000) (t := et) (g := set4 asked a b c d) (by decide) hA (by rw [z4_set4]; exact h1) hE
        rw [z4_set4] at q2
        refine ⟨set4 asked a b c d, R', t', va_cpy (set4 asked a b c d) (added n) 0 0 4, by omega, ?_, ?_, by rw [z4_cpy, z4_set4], h1, q2⟩
        · rw [if_pos hlt, gd_t (vp_in_nI (by omega) (by decide)), nI_clamp (by omega)]
          dsimp only
          rw [V_copy_eq, Option.bind_some, q1, Option.bind_some, nI_1, nI_pred]
          rfl
        · rw [if_neg hne, m4 (by omega), show nI (4 * n) + (1 : Int32) = nI (4 * n + 1) from nI_add _ 1, show nI (4 * n) + (2 : Int32) = nI (4 * n + 2) from nI_add _ 2, show nI (4 * n) + (3 : Int32) = nI (4 * n + 3) from nI_add _ 3, gd_t (vp_in_nI (by omega) (by decide)), gd_t (vp_in_nI (by omega) (by decide)), gd_t (vp_in_nI (by omega) (by decide)), gd_t (vp_in_nI (by omega) (by decide)), nI_clamp (by omega), nI_clamp (by omega), nI_clamp (by omega), nI_clamp (by omega), nI_1, nI_pred]
          rfl
    · exact absurd h1 h3
  · rcases M_within_eq (F := 1000) (E := 9) (by decide) a b c d with ⟨h3, h4⟩ | ⟨h3, h4⟩
    · exact absurd h3 h1
    · left
      rw [show (9 : Int32) = nI 9 from rfl, h2, h4, Option.bind_some, Option.bind_some, if_pos rfl, if_pos rfl]
      exact ⟨_, _, rfl, rfl⟩
end CALLS2
