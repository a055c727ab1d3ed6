/-! Layer B: what holds between class and reference; the calls on membership -/
def InvC (PB : List Z4 → (Nat → Nat → Int64) → (Nat → Nat → Int64) → (Nat → Int64) → (Nat → Int64) → Int32 → Prop) (PT : List Z4 → (Nat → Int32) → Prop) (PL : List Z4 → (Nat → Nat → Int64) → Int32 → Prop) (n : Nat) (G : Nat → Int32) (added eR bR bD : Nat → Nat → Int64) (bQ bW : Nat → Int64) (bn : Int32) (tg : Nat → Int64) (ts : Nat → Int32) (fg : Nat → Int64) (fV : Nat → Nat → Int64) (fn vHeld vRed vTal vLis : Int32) : Prop :=
  vHeld = nI n ∧ (∀ g, g < n → z4 (added g) = gv G g) ∧ Ech (gl G (-1) n) eR ∧ (vRed ≠ 0 → PB (gl G (-1) n) bR bD bQ bW bn) ∧ (vTal ≠ 0 → PT (gl G (-1) n) ts) ∧ (vLis ≠ 0 → PL (gl G (-1) n) fV fn) ∧ z4 tg = z0 ∧ z4 fg = z0
def InvM (QL : List Z4 → (Nat → Int64) → Prop) (QM : List Z4 → (Nat → Int32) → Prop) (n : Nat) (G : Nat → Int32) (many : Int32) (gen : Nat → Int32) (known without rows : Int32) (row : Nat → Int64) (piv : Nat → Int32) (listed : Int32) (first : Nat → Int64) (measured : Int32) (minima : Nat → Int32) : Prop :=
  many = nI n ∧ gen = G ∧ (known ≠ 0 → HS (gl G without n) rows row piv) ∧ (listed ≠ 0 → QL (gl G (-1) n) first) ∧ (measured ≠ 0 → QM (gl G (-1) n) minima)
def InvP (PB : List Z4 → (Nat → Nat → Int64) → (Nat → Nat → Int64) → (Nat → Int64) → (Nat → Int64) → Int32 → Prop) (PT : List Z4 → (Nat → Int32) → Prop) (PL : List Z4 → (Nat → Nat → Int64) → Int32 → Prop) (QL : List Z4 → (Nat → Int64) → Prop) (QM : List Z4 → (Nat → Int32) → Prop) (σ : CS) (τ : MS) : Prop :=
  ∃ (n : Nat) (G : Nat → Int32), n ≤ 6 ∧ (∀ g, g < n → le4 9 (gv G g)) ∧ InvC PB PT PL n G (c_added σ) (c_eR σ) (c_bR σ) (c_bD σ) (c_bQ σ) (c_bW σ) (c_bn σ) (c_tg σ) (c_ts σ) (c_fg σ) (c_fV σ) (c_fn σ) (c_vHeld σ) (c_vRed σ) (c_vTal σ) (c_vLis σ) ∧ InvM QL QM n G (m_many τ) (m_generator τ) (m_known τ) (m_without τ) (m_rows τ) (m_row τ) (m_pivot τ) (m_listed τ) (m_first τ) (m_measured τ) (m_minima τ)
theorem InvP_0 {PB : List Z4 → (Nat → Nat → Int64) → (Nat → Nat → Int64) → (Nat → Int64) → (Nat → Int64) → Int32 → Prop} {PT : List Z4 → (Nat → Int32) → Prop} {PL : List Z4 → (Nat → Nat → Int64) → Int32 → Prop} {QL : List Z4 → (Nat → Int64) → Prop} {QM : List Z4 → (Nat → Int32) → Prop} : InvP PB PT PL QL QM σ0 τ0 := by
  refine ⟨0, fun _ => 0, by decide, fun g hg => absurd hg (by omega), ⟨rfl, fun g hg => absurd hg (by omega), ?_, fun h => absurd rfl h, fun h => absurd rfl h, fun h => absurd rfl h, rfl, rfl⟩, rfl, rfl, fun h => absurd rfl h, fun h => absurd rfl h, fun h => absurd rfl h⟩
  have h := Cx_nil (fun _ => 0)
  exact ⟨h.1, fun k hk j h1 h2 e => absurd rfl e, h.2.1⟩
theorem list4 {l : List Int32} (h : l.length = 4) : ∃ a b c d, l = [a, b, c, d] := by
  match l, h with
  | [a, b, c, d], _ => exact ⟨a, b, c, d, rfl⟩
theorem list1 {l : List Int32} (h : l.length = 1) : ∃ a, l = [a] := by
  match l, h with
  | [a], _ => exact ⟨a, rfl⟩
theorem list0 {l : List Int32} (h : l.length = 0) : l = [] := List.eq_nil_of_length_eq_zero h
theorem ord_same {A : List Z4} {v : Z4} {m m' : Int64} (h1 : OrdIs A v m.toInt) (h2 : OrdIs A v m'.toInt) : m = m' := ti_eq.mpr (h1.uniq h2)
theorem le4_mono {a b : Nat} (h : a ≤ b) {v : Z4} (hv : le4 a v) : le4 b v := by
  unfold le4 at *
  omega
section CALLS
variable {n : Nat} {G : Nat → Int32} {QL : List Z4 → (Nat → Int64) → Prop} {QM : List Z4 → (Nat → Int32) → Prop}
variable {many known without rows listed measured : Int32} {gen : Nat → Int32} {row first fresh : Nat → Int64} {piv minima : Nat → Int32}
/-- has, model against model -/
theorem has_eq (hn : n ≤ 6) (h9 : ∀ g, g < n → le4 9 (gv G g)) {asked et : Nat → Int64} {eR : Nat → Nat → Int64} (hE : Ech (gl G (-1) n) eR) (hM : InvM QL QM n G many gen known without rows row piv listed first measured minima) (a b c d : Int32) :
    ∃ r t1 t2 k' w' rs' ro' pi' fr', V_has 1000 asked eR et a b c d = some (r, t1, t2) ∧ M_has 1000 many gen known without rows row piv fresh a b c d = some (r, k', w', rs', ro', pi', fr') ∧ InvM QL QM n G many gen k' w' rs' ro' pi' listed first measured minima := by
  obtain ⟨rfl, rfl, hK, hL, hMe⟩ := id hM
  have hA : ∀ x ∈ gl gen (-1) n, le4 9 x := gl_mem h9
  unfold V_has M_has
  rcases V_ask_eq (F := 1000) (E := 1000) (by decide) (by decide) asked a b c d with ⟨h1, h2⟩ | ⟨h1, h2⟩
  · rcases M_within_eq (F := 1000) (E := 1000) (by decide) a b c d with ⟨h3, h4⟩ | ⟨h3, h4⟩
    · rw [show (1000 : Int32) = nI 1000 from rfl, h2, h4]
      obtain ⟨k', rs', ro', pi', f', l1, l2, l3⟩ := M_look_eq (F := 1000) (but := -1) (f := fresh) (by decide) hn h9 hK
      obtain ⟨m, t2, o1, o2⟩ := E_least_eq (F := 1000) (t := et) (v := set4 asked a b c d) (by decide) hA hE (rle_le4.mpr (by rw [z4_set4]; exact h1))
      obtain ⟨m', f2, o3, o4⟩ := M_times_eq (F := 1000) (f := set4 f' a b c d) (by decide) l3 (rle_le4.mpr (by rw [z4_set4]; exact h1))
      rw [z4_set4] at o2 o4
      have hmm := ord_same o2 o4
      subst hmm
      rw [Option.bind_some, if_neg (show ¬ (1 : Int32) = 0 by decide), Option.bind_some, if_neg (show ¬ (1 : Int32) = 0 by decide), l1, Option.bind_some]
      unfold E_holds
      dsimp only
      rw [M_set_eq, Option.bind_some, o1, o3, Option.bind_some, Option.bind_some]
      dsimp only
      have hM2 : InvM QL QM n gen (nI n) gen k' (-1) rs' ro' pi' listed first measured minima := ⟨rfl, rfl, fun _ => l3, hL, hMe⟩
      by_cases e : m = 1
      · rw [if_pos e, if_pos e, Option.bind_some, if_neg (show ¬ (1 : Int32) = 0 by decide)]
        exact ⟨_, _, _, _, _, _, _, _, _, rfl, rfl, hM2⟩
      · rw [if_neg e, if_neg e, Option.bind_some, if_pos rfl]
        exact ⟨_, _, _, _, _, _, _, _, _, rfl, rfl, hM2⟩
    · exact absurd h1 h3
  · rcases M_within_eq (F := 1000) (E := 1000) (by decide) a b c d with ⟨h3, h4⟩ | ⟨h3, h4⟩
    · exact absurd h3 h1
    · rw [show (1000 : Int32) = nI 1000 from rfl, h2, h4, Option.bind_some, if_pos rfl, Option.bind_some, if_pos rfl]
      exact ⟨_, _, _, _, _, _, _, _, _, rfl, rfl, hM⟩
/-- order -/
theorem order_eq (hn : n ≤ 6) (h9 : ∀ g, g < n → le4 9 (gv G g)) {asked et : Nat → Int64} {eR : Nat → Nat → Int64} (hE : Ech (gl G (-1) n) eR) (hM : InvM QL QM n G many gen known without rows row piv listed first measured minima) (a b c d : Int32) :
    ∃ r t1 t2 k' w' rs' ro' pi' fr', V_order 1000 asked eR et a b c d = some (r, t1, t2) ∧ M_order 1000 many gen known without rows row piv fresh a b c d = some (r, k', w', rs', ro', pi', fr') ∧ InvM QL QM n G many gen k' w' rs' ro' pi' listed first measured minima := by
  obtain ⟨rfl, rfl, hK, hL, hMe⟩ := id hM
  have hA : ∀ x ∈ gl gen (-1) n, le4 9 x := gl_mem h9
  unfold V_order M_order
  rcases V_ask_eq (F := 1000) (E := 100) (by decide) (by decide) asked a b c d with ⟨h1, h2⟩ | ⟨h1, h2⟩
  · rcases M_within_eq (F := 1000) (E := 100) (by decide) a b c d with ⟨h3, h4⟩ | ⟨h3, h4⟩
    · rw [show (100 : Int32) = nI 100 from rfl, h2, h4]
      have h1' := le4_mono (show 100 ≤ 1000 by decide) h1
      obtain ⟨k', rs', ro', pi', f', l1, l2, l3⟩ := M_look_eq (F := 1000) (but := -1) (f := fresh) (by decide) hn h9 hK
      obtain ⟨m, t2, o1, o2⟩ := E_least_eq (F := 1000) (t := et) (v := set4 asked a b c d) (by decide) hA hE (rle_le4.mpr (by rw [z4_set4]; exact h1'))
      obtain ⟨m', f2, o3, o4⟩ := M_times_eq (F := 1000) (f := set4 f' a b c d) (by decide) l3 (rle_le4.mpr (by rw [z4_set4]; exact h1'))
      rw [z4_set4] at o2 o4
      have hmm := ord_same o2 o4
      subst hmm
      rw [Option.bind_some, if_neg (show ¬ (1 : Int32) = 0 by decide), Option.bind_some, if_neg (show ¬ (1 : Int32) = 0 by decide), l1, Option.bind_some]
      dsimp only
      rw [M_set_eq, Option.bind_some, o1, o3, Option.bind_some, Option.bind_some]
      exact ⟨_, _, _, _, _, _, _, _, _, rfl, rfl, ⟨rfl, rfl, fun _ => l3, hL, hMe⟩⟩
    · exact absurd h1 h3
  · rcases M_within_eq (F := 1000) (E := 100) (by decide) a b c d with ⟨h3, h4⟩ | ⟨h3, h4⟩
    · exact absurd h3 h1
    · rw [show (100 : Int32) = nI 100 from rfl, h2, h4, Option.bind_some, if_pos rfl, Option.bind_some, if_pos rfl]
      exact ⟨_, _, _, _, _, _, _, _, _, rfl, rfl, hM⟩
/-- rank -/
theorem rank_eq (hn : n ≤ 6) (h9 : ∀ g, g < n → le4 9 (gv G g)) {eR : Nat → Nat → Int64} (hE : Ech (gl G (-1) n) eR) (hM : InvM QL QM n G many gen known without rows row piv listed first measured minima) :
    ∃ r k' w' rs' ro' pi' fr', V_rank 1000 eR = some r ∧ M_rank 1000 many gen known without rows row piv fresh = some (r, k', w', rs', ro', pi', fr') ∧ InvM QL QM n G many gen k' w' rs' ro' pi' listed first measured minima := by
  obtain ⟨rfl, rfl, hK, hL, hMe⟩ := id hM
  obtain ⟨k', rs', ro', pi', f', l1, l2, l3⟩ := M_look_eq (F := 1000) (but := -1) (f := fresh) (by decide) hn h9 hK
  obtain ⟨nr, c, R, e, hR, hC⟩ := id l3
  have hcnt := rows_count hC hR
  have hsame : ∀ k, k < 4 → hN R k = hN eR k := fun k hk => by
    unfold hN
    by_cases q : R k k = 0
    · rw [if_pos q, if_pos (held_same hC.1 hC.2.1 hE.1 hE.2.2 hk q)]
    · rw [if_neg q, if_neg (fun q2 => q (held_same hE.1 hE.2.2 hC.1 hC.2.1 hk q2))]
  unfold V_rank M_rank
  rw [E_size_eq (by decide), l1, Option.bind_some, Option.bind_some]
  dsimp only
  rw [e, hcnt, hsame 0 (by decide), hsame 1 (by decide), hsame 2 (by decide), hsame 3 (by decide)]
  refine ⟨_, _, _, _, _, _, _, rfl, rfl, ⟨rfl, rfl, fun _ => ?_, hL, hMe⟩⟩
  rw [← hsame 0 (by decide), ← hsame 1 (by decide), ← hsame 2 (by decide), ← hsame 3 (by decide), ← hcnt, ← e]
  exact l3
end CALLS
