/-! Layer B: the reference's volume is the lattice's -/
theorem sp_rows {A : List Z4} {R : Nat → Nat → Int64} {nr : Nat} {c : Nat → Nat} {row : Nat → Int64} {piv : Nat → Int32} (hC : Cx A R nr c) (hR : Rep nr c row piv R) (v : Z4) : sp ((List.range nr).map (ru row)) v ↔ sp A v := by
  obtain ⟨hT, hs, h9, hb, hh, hz⟩ := hC
  have hru : ∀ i, i < nr → ru row i = z4 (R (c i)) := fun i hi => z4_cong (fun j hj => (hR.2.1 i hi).2.2 j hj)
  rw [← hs v]
  refine sp_same (fun g hg => ?_) (fun g hg => ?_) v
  · obtain ⟨i, hi, rfl⟩ := List.mem_map.mp hg
    have hi := List.mem_range.mp hi
    rw [hru i hi]
    exact sp_mem (rl_mem.mpr ⟨c i, (hR.2.1 i hi).1, rfl⟩)
  · obtain ⟨k, hk, rfl⟩ := rl_mem.mp hg
    by_cases e : ∃ i, i < nr ∧ c i = k
    · obtain ⟨i, hi, rfl⟩ := e
      rw [← hru i hi]
      exact sp_mem (List.mem_map.mpr ⟨i, List.mem_range.mpr hi, rfl⟩)
    · rw [row_z0 hT hk (hz k hk (fun i hi q => e ⟨i, hi, q⟩))]
      exact sp_zero _
theorem bnd {A us es : List Z4} (h : ∀ v, sp us v ↔ sp A v) (h9 : ∀ g ∈ A, le4 9 g) (he : ∀ e ∈ es, le4 9 e) {r0 r1 r2 r3 : Z4} (hr : us ++ es = [r0, r1, r2, r3]) : 0 ≤ det4 r0 r1 r2 r3 * det4 r0 r1 r2 r3 ∧ det4 r0 r1 r2 r3 * det4 r0 r1 r2 r3 ≤ 11019960576 := by
  have hd : (det4 r0 r1 r2 r3).natAbs ≤ 104976 := by
    refine det_bound_h (A := A ++ es) (fun g hg => ?_) (fun g hg => ?_) (fun g hg => ?_)
    · rw [← hr]
      rcases List.mem_append.mp hg with q | q
      · exact sp_mono (fun x hx => List.mem_append_left _ hx) ((h g).mpr (sp_mem q))
      · exact sp_mem (List.mem_append_right _ q)
    · rw [← hr] at hg
      rcases List.mem_append.mp hg with q | q
      · exact sp_mono (fun x hx => List.mem_append_left _ hx) ((h g).mp (sp_mem q))
      · exact sp_mem (List.mem_append_right _ q)
    · rcases List.mem_append.mp hg with q | q
      · exact h9 g q
      · exact he g q
  have h1 : (det4 r0 r1 r2 r3).natAbs * (det4 r0 r1 r2 r3).natAbs ≤ 104976 * 104976 := Nat.mul_le_mul hd hd
  have h2 : (((det4 r0 r1 r2 r3).natAbs * (det4 r0 r1 r2 r3).natAbs : Nat) : Int) = det4 r0 r1 r2 r3 * det4 r0 r1 r2 r3 := by rw [Int.natCast_mul]; exact Int.natAbs_mul_self' _
  omega
/-- the volume squared of the lattice of A, of the rank r -/
def VolIs (A : List Z4) (r : Nat) (x : Int) : Prop := ∃ us : List Z4, us.length = r ∧ (∀ v, sp us v ↔ sp A v) ∧ x = gramL us
theorem VolIs.uniq {A : List Z4} {r : Nat} {x y : Int} (h1 : VolIs A r x) (h2 : VolIs A r y) (hr : r ≤ 4) : x = y := by
  obtain ⟨us, l1, s1, rfl⟩ := h1
  obtain ⟨ws, l2, s2, rfl⟩ := h2
  have hsame : ∀ v, sp us v ↔ sp ws v := fun v => (s1 v).trans (s2 v).symm
  match us, ws, l1, l2 with
  | [], [], _, _ => rfl
  | [a], [p], _, _ => exact gram1_inv hsame
  | [a, b], [p, q], _, _ => exact gram2_inv hsame
  | [a, b, c], [p, q, s], _, _ => exact gram3_inv hsame
  | [a, b, c, d], [p, q, s, t], _, _ => exact det_sq (fun g hg => (hsame g).mp (sp_mem hg)) (fun g hg => (hsame g).mpr (sp_mem hg))
  | a :: b :: c :: d :: e :: us, _, h3, _ => simp at h3; omega
theorem gramL_in {A us : List Z4} (h : ∀ v, sp us v ↔ sp A v) (h9 : ∀ g ∈ A, le4 9 g) (hl : us.length ≤ 4) : inR (gramL us) := by
  have u : ∀ k, le4 9 (un k) := un_le
  have ue : ∀ (l : List Nat), ∀ e ∈ l.map un, le4 9 e := fun l e he => by
    obtain ⟨k, -, rfl⟩ := List.mem_map.mp he
    exact u k
  match us, hl with
  | [], _ => unfold inR gramL; decide
  | [a], _ =>
    show inR (zdot a a)
    rw [gram1_eq]
    have b1 := bnd h h9 (ue [1, 2, 3]) (r0 := a) (r1 := un 1) (r2 := un 2) (r3 := un 3) rfl
    have b2 := bnd h h9 (ue [0, 2, 3]) (r0 := a) (r1 := un 0) (r2 := un 2) (r3 := un 3) rfl
    have b3 := bnd h h9 (ue [0, 1, 3]) (r0 := a) (r1 := un 0) (r2 := un 1) (r3 := un 3) rfl
    have b4 := bnd h h9 (ue [0, 1, 2]) (r0 := a) (r1 := un 0) (r2 := un 1) (r3 := un 2) rfl
    unfold inR
    omega
  | [a, b], _ =>
    show inR (gram2 a b)
    rw [gram2_eq]
    have b1 := bnd h h9 (ue [0, 1]) (r0 := a) (r1 := b) (r2 := un 0) (r3 := un 1) rfl
    have b2 := bnd h h9 (ue [0, 2]) (r0 := a) (r1 := b) (r2 := un 0) (r3 := un 2) rfl
    have b3 := bnd h h9 (ue [0, 3]) (r0 := a) (r1 := b) (r2 := un 0) (r3 := un 3) rfl
    have b4 := bnd h h9 (ue [1, 2]) (r0 := a) (r1 := b) (r2 := un 1) (r3 := un 2) rfl
    have b5 := bnd h h9 (ue [1, 3]) (r0 := a) (r1 := b) (r2 := un 1) (r3 := un 3) rfl
    have b6 := bnd h h9 (ue [2, 3]) (r0 := a) (r1 := b) (r2 := un 2) (r3 := un 3) rfl
    unfold inR
    omega
  | [a, b, c], _ =>
    show inR (gram3 a b c)
    rw [gram3_eq]
    have b1 := bnd h h9 (ue [0]) (r0 := a) (r1 := b) (r2 := c) (r3 := un 0) rfl
    have b2 := bnd h h9 (ue [1]) (r0 := a) (r1 := b) (r2 := c) (r3 := un 1) rfl
    have b3 := bnd h h9 (ue [2]) (r0 := a) (r1 := b) (r2 := c) (r3 := un 2) rfl
    have b4 := bnd h h9 (ue [3]) (r0 := a) (r1 := b) (r2 := c) (r3 := un 3) rfl
    unfold inR
    omega
  | [a, b, c, d], _ =>
    show inR (det4 a b c d * det4 a b c d)
    have b1 := bnd h h9 (ue []) (r0 := a) (r1 := b) (r2 := c) (r3 := d) rfl
    unfold inR
    omega
  | a :: b :: c :: d :: e :: us, h3 => simp at h3
/-- volume of the reference -/
theorem M_volume_eq {n : Nat} {G : Nat → Int32} {QL : List Z4 → (Nat → Int64) → Prop} {QM : List Z4 → (Nat → Int32) → Prop} {many known without rows listed measured : Int32} {gen : Nat → Int32} {row first fresh : Nat → Int64} {piv minima : Nat → Int32} (hn : n ≤ 6) (h9 : ∀ g, g < n → le4 9 (gv G g)) {eR : Nat → Nat → Int64} (hE : Ech (gl G (-1) n) eR) (hM : InvM QL QM n G many gen known without rows row piv listed first measured minima) :
    ∃ V k' w' rs' ro' pi' fr', M_volume 1000 many gen known without rows row piv fresh = some (V, k', w', rs', ro', pi', fr') ∧ InvM QL QM n G many gen k' w' rs' ro' pi' listed first measured minima ∧ VolIs (gl G (-1) n) (hN eR 0 + hN eR 1 + hN eR 2 + hN eR 3) V.toInt := by
  obtain ⟨rfl, rfl, hK, hL, hMe⟩ := id hM
  have hA : ∀ x ∈ gl gen (-1) n, le4 9 x := gl_mem h9
  obtain ⟨k', rs', ro', pi', f', l1, l2, l3⟩ := M_look_eq (F := 1000) (but := -1) (f := fresh) (by decide) hn h9 hK
  obtain ⟨nr, c, R, e, hR, hC⟩ := id l3
  have hcnt := rows_count hC hR
  have hsame : ∀ k, k < 4 → hN R k = hN eR k := fun k hk => by
    unfold hN
    by_cases q : R k k = 0
    · rw [if_pos q, if_pos (held_same hC.1 hC.2.1 hE.1 hE.2.2 hk q)]
    · rw [if_neg q, if_neg (fun q2 => q (held_same hE.1 hE.2.2 hC.1 hC.2.1 hk q2))]
  have hr : hN eR 0 + hN eR 1 + hN eR 2 + hN eR 3 = nr := by
    rw [hcnt, hsame 0 (by decide), hsame 1 (by decide), hsame 2 (by decide), hsame 3 (by decide)]
  have hM2 : InvM QL QM n gen (nI n) gen k' (-1) rs' ro' pi' listed first measured minima := ⟨rfl, rfl, fun _ => l3, hL, hMe⟩
  have hsp := sp_rows hC hR
  have hn4 : nr ≤ 4 := hR.1
  have hin : inR (gramL ((List.range nr).map (ru ro'))) := gramL_in hsp hA (by simpa using hn4)
  have fin : ∀ V, V = L (gramL ((List.range nr).map (ru ro'))) → VolIs (gl gen (-1) n) (hN eR 0 + hN eR 1 + hN eR 2 + hN eR 3) V.toInt := fun V hV => by
    rw [hr, hV, ti_L hin]
    exact ⟨_, by simp, hsp, rfl⟩
  unfold M_volume
  rw [l1, Option.bind_some]
  dsimp only
  rw [e]
  have z0e : ∀ m, m ≤ 4 → (nI nr = nI m ↔ nr = m) := fun m hm => nr_eq hn4 hm
  rcases (show nr = 0 ∨ nr = 1 ∨ nr = 2 ∨ nr = 3 ∨ nr = 4 by omega) with rfl | rfl | rfl | rfl | rfl
  · rw [if_pos (show nI 0 = (0 : Int32) from rfl), if_neg (show ¬ nI 0 = (4 : Int32) by decide), show (0 : Int32) = nI 0 from rfl, vol62 (by decide) hn4 4 1000 0 _ rfl (by decide), Option.bind_some]
    refine ⟨_, _, _, _, _, _, _, rfl, by rw [e] at hM2; exact hM2, fin _ (tot0 ro')⟩
  · rw [if_neg (show ¬ nI 1 = (0 : Int32) by decide), if_neg (show ¬ nI 1 = (4 : Int32) by decide), show (0 : Int32) = nI 0 from rfl, vol62 (by decide) hn4 4 1000 0 _ rfl (by decide), Option.bind_some]
    refine ⟨_, _, _, _, _, _, _, rfl, by rw [e] at hM2; exact hM2, fin _ (tot1 ro')⟩
  · rw [if_neg (show ¬ nI 2 = (0 : Int32) by decide), if_neg (show ¬ nI 2 = (4 : Int32) by decide), show (0 : Int32) = nI 0 from rfl, vol62 (by decide) hn4 4 1000 0 _ rfl (by decide), Option.bind_some]
    refine ⟨_, _, _, _, _, _, _, rfl, by rw [e] at hM2; exact hM2, fin _ (tot2 ro')⟩
  · rw [if_neg (show ¬ nI 3 = (0 : Int32) by decide), if_neg (show ¬ nI 3 = (4 : Int32) by decide), show (0 : Int32) = nI 0 from rfl, vol62 (by decide) hn4 4 1000 0 _ rfl (by decide), Option.bind_some]
    refine ⟨_, _, _, _, _, _, _, rfl, by rw [e] at hM2; exact hM2, fin _ (tot3 ro')⟩
  · have v0 : vp_in (0 : Int32) 16 := by unfold vp_in; decide
    have v5 : vp_in (5 : Int32) 16 := by unfold vp_in; decide
    have v10 : vp_in (10 : Int32) 16 := by unfold vp_in; decide
    have v15 : vp_in (15 : Int32) 16 := by unfold vp_in; decide
    rw [if_neg (show ¬ nI 4 = (0 : Int32) by decide), if_pos (show nI 4 = (4 : Int32) from rfl), gd_t v0, gd_t v5, gd_t v10, gd_t v15, show (0 : Int32).toNatClampNeg = 0 by decide, show (5 : Int32).toNatClampNeg = 5 by decide, show (10 : Int32).toNatClampNeg = 10 by decide, show (15 : Int32).toNatClampNeg = 15 by decide]
    have m0 := hR.2.2 0 1 (by decide) (by decide)
    have m1 := hR.2.2 1 2 (by decide) (by decide)
    have m2 := hR.2.2 2 3 (by decide) (by decide)
    have b3 := (hR.2.1 3 (by decide)).1
    have hci : ∀ i, i < 4 → c i = i := fun i hi => by
      rcases (show i = 0 ∨ i = 1 ∨ i = 2 ∨ i = 3 by omega) with rfl | rfl | rfl | rfl <;> omega
    have hz0 : ∀ i j, i < 4 → j < i → zc (ru ro' i) j = 0 := fun i j hi hj => by
      have e1 : ru ro' i = z4 (R i) := z4_cong (fun j hj => by rw [(hR.2.1 i hi).2.2 j hj, hci i hi])
      rw [e1, zc_z4 _ (by omega), (hC.1 i hi).1 j hj]; rfl
    have hdet : det4 (ru ro' 0) (ru ro' 1) (ru ro' 2) (ru ro' 3) = (ru ro' 0).1 * ((ru ro' 1).2.1 * ((ru ro' 2).2.2.1 * (ru ro' 3).2.2.2)) := det_tri _ _ _ _ (hz0 1 0 (by decide) (by decide)) (hz0 2 0 (by decide) (by decide)) (hz0 2 1 (by decide) (by decide)) (hz0 3 0 (by decide) (by decide)) (hz0 3 1 (by decide) (by decide)) (hz0 3 2 (by decide) (by decide))
    have q0 : ro' 0 = L (ru ro' 0).1 := row_L ro' 0 (j := 0) (by decide)
    have q1 : ro' 5 = L (ru ro' 1).2.1 := row_L ro' 1 (j := 1) (by decide)
    have q2 : ro' 10 = L (ru ro' 2).2.2.1 := row_L ro' 2 (j := 2) (by decide)
    have q3 : ro' 15 = L (ru ro' 3).2.2.2 := row_L ro' 3 (j := 3) (by decide)
    refine ⟨_, _, _, _, _, _, _, rfl, by rw [e] at hM2; exact hM2, fin _ ?_⟩
    rw [q0, q1, q2, q3]
    simp only [L_mul]
    show L _ = L (det4 (ru ro' 0) (ru ro' 1) (ru ro' 2) (ru ro' 3) * det4 (ru ro' 0) (ru ro' 1) (ru ro' 2) (ru ro' 3))
    rw [hdet]
    congr 1
    grind
