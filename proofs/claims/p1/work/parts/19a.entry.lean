theorem P_swap {D : va_G} {cl : List vw_C} {w1 w2 : va_W} {H : Heap} (h : va_P D cl (w1 ++ w2) H) : va_P D cl (w2 ++ w1) H :=
  va_P.app (fun k q hq => h (w1.length + k) q (by rw [List.getElem?_append_right (by omega), Nat.add_sub_cancel_left]; exact hq)) (fun k q hq => h k q (by rw [List.getElem?_append_left (List.getElem?_eq_some_iff.mp hq).1]; exact hq))
theorem wn_len {n : Nat} {h : Nat → Nat} {L : Nat → va_E} : (wn n h L).length = n := by unfold wn; simp
theorem wn_get {n : Nat} {h : Nat → Nat} {L : Nat → va_E} {k : Nat} (hk : k < n) : (wn n h L)[k]? = some (h k, L k) := by unfold wn; simp [hk]
theorem LC_congr {κ κ' : ctx} (h2 : κ.2 = κ'.2) (h : ∀ k, 15 ≤ k → k < 114 → κ.1 k = κ'.1 k) (σ : CS) : LC κ σ = LC κ' σ := by
  unfold LC
  rw [gc_V h2 h, gc_E h2 (fun k h4 h5 => h k (by omega) (by omega)), gc_O h2 (fun k h4 h5 => h k (by omega) (by omega)), gc_B h2 (fun k h4 h5 => h k (by omega) (by omega)), gc_T h2 (fun k h4 h5 => h k (by omega) (by omega)), gc_F h2 (fun k h4 h5 => h k (by omega) (by omega)), gc_C h2 (fun k h4 h5 => h k (by omega) (by omega))]
theorem wl_two {κ : ctx} {h hM : Nat → Nat} {X : Nat → va_E} (σ : CS) (τ : MS) : wl (hseg [(15, hM), (99, h)]) (LM (hseg [(15, hM), (99, h)], κ.2) τ (LC (hseg [(15, hM), (99, h)], κ.2) σ)) = wn 15 hM (LM (kh 0 hM κ) τ X) ++ wn 99 h (LC (kh 15 h κ) σ) := by
  show (List.range (15 + 99)).map _ = _
  rw [List.range_add, List.map_append, List.map_map]
  refine (congr (congrArg HAppend.hAppend ?_) ?_ : (_ : va_W) ++ _ = _ ++ _)
  · apply List.map_congr_left
    intro k hk
    have hk := List.mem_range.mp hk
    rw [show hseg [(15, hM), (99, h)] k = hM k from hseg_lt hk]
    congr 1
    rcases (show k = 0 ∨ k = 1 ∨ k = 2 ∨ k = 3 ∨ k = 4 ∨ k = 5 ∨ k = 6 ∨ k = 7 ∨ k = 8 ∨ k = 9 ∨ k = 10 ∨ k = 11 ∨ k = 12 ∨ k = 13 ∨ k = 14 by omega) with rfl | rfl | rfl | rfl | rfl | rfl | rfl | rfl | rfl | rfl | rfl | rfl | rfl | rfl | rfl <;> rfl
  · apply List.map_congr_left
    intro k hk
    have hk := List.mem_range.mp hk
    show (hseg [(15, hM), (99, h)] (15 + k), LM _ τ _ (15 + k)) = _
    rw [hseg_ge, hseg_lt hk, show 15 + k = k + 15 by omega, LM_at]
    rw [LC_congr (κ := (hseg [(15, hM), (99, h)], κ.2)) (κ' := kh 15 h κ) rfl (fun j h4 h5 => by
      show hseg [(15, hM), (99, h)] j = h (j - 15)
      rw [show j = 15 + (j - 15) by omega, hseg_ge, hseg_lt (by omega), Nat.add_sub_cancel_left])]
set_option maxHeartbeats 4000000 in
set_option maxRecDepth 100000 in
/-- THE LAW, from its entry, over any invariant that all calls keep -/
theorem whole_of {Inv : CS → MS → Prop} (h0 : Inv σ0 τ0) (hs : StA Inv) {p : Program} {e : Env} {s : State} {m : MethodId} {below : List Frame} {meth : Method} {c : Code} (l : Launch) {b L : Nat} {xs : Nat → Int32} (hL : L ≤ 3072) (C0 : lw_At p s m meth c b L xs) : W p l e room_1 s m #[Value.ref b] below meth c s.heap [] 0 0 (lw_Z below #[Value.ref b] s) (entryFrame m ([Value.ref b] : List Value).toArray 4) := by
  obtain ⟨hx, hb, hr, hml, hown, hts0, hX, hbl, hlocks, hgv⟩ := id C0
  have hts : ∀ w ∈ utbl, w.before #[Value.ref b] s = true := fun w hw => hts0 w (List.mem_filter.mp hw).1
  have hA : ∀ q : Nat, s.heap.size ≤ q → (fun q : Nat => s.heap.size ≤ q) q := fun _ h => h
  have hbA : ¬ (fun q : Nat => s.heap.size ≤ q) b := Nat.not_le.mpr hbl
  have hNS : NS s := fun w hw hn => va_Nw.of (by cases w <;> first | rfl | (simp [isNest] at hn)) (hts0 w hw)
  have hO : va_AOA .long s := hts0 (.arrayOver (.array .long)) (List.mem_of_getElem? (i := 70) (by decide +kernel))
  obtain ⟨c0, iS0, hKn0⟩ := u_known (C := RM) (T := TM) (N := 27) (n := 27) hts wsM_ok (hts _ wd485)
  obtain ⟨c1, iS1, hKn1⟩ := u_known (C := RV) (T := TV) (N := 12) (n := 12) hts wsV_ok (hts _ wd13)
  obtain ⟨c2, iS2, hKn2⟩ := u_known (C := RE) (T := TE) (N := 2) (n := 2) hts wsE_ok (hts _ wd23)
  obtain ⟨c3, iS3, hKn3⟩ := u_known (C := RB) (T := TB) (N := 8) (n := 8) hts wsB_ok (hts _ wd38)
  obtain ⟨c4, iS4, hKn4⟩ := u_known (C := RT) (T := TT) (N := 3) (n := 3) hts wsT_ok (hts _ wd70)
  obtain ⟨c5, iS5, hKn5⟩ := u_known (C := RF) (T := TF) (N := 5) (n := 5) hts wsF_ok (hts _ wd90)
  obtain ⟨c6, iS6, hKn6⟩ := u_known (C := RC) (T := TC) (N := 4) (n := 4) hts wsC_ok (hts _ wd109)
  obtain ⟨dC, dI, hKc⟩ : ∃ (dC : Nat → ClassId) (dI : Nat → Nat → Nat), ∀ (k : Nat) (q : vw_C), classes[k]? = some q → u_Kn s q.1 q.2.1 q.2.2 (dC k) (dI k) := by
    refine ⟨fun k => if k = 0 then c0 else if k = 1 then c1 else if k = 2 then c2 else if k = 3 then c3 else if k = 4 then c4 else if k = 5 then c5 else c6, fun k => if k = 0 then iS0 else if k = 1 then iS1 else if k = 2 then iS2 else if k = 3 then iS3 else if k = 4 then iS4 else if k = 5 then iS5 else iS6, ?_⟩
    intro k q hq
    match k, hq with
    | 0, hq => cases hq; exact hKn0
    | 1, hq => cases hq; exact hKn1
    | 2, hq => cases hq; exact hKn2
    | 3, hq => cases hq; exact hKn3
    | 4, hq => cases hq; exact hKn4
    | 5, hq => cases hq; exact hKn5
    | 6, hq => cases hq; exact hKn6
    | k + 7, hq => simp [classes] at hq
  obtain ⟨ci, ki, compi, a1, a2, a3⟩ := Cond.arrayClass_spec (hts _ wd88)
  obtain ⟨cl, kl, compl, b1, b2, b3⟩ := Cond.arrayClass_spec (hts _ wd36)
  obtain ⟨comp, cq, kq, d1, d2, d3, d4, d5⟩ := arrayOverA_spec hO
  obtain ⟨κ, hκ⟩ : ∃ κ : ctx, κ = ((fun _ => 0), ci, cl, cq) := ⟨_, rfl⟩
  have hK : va_K (dC, dI) classes (tysOf κ) s := by
    subst hκ
    refine ⟨hKc, fun k q h => ?_⟩
    match k, h with
    | 0, h => cases h; exact ⟨fun N z => ⟨(fun q hq => by cases hq), ki, a2, compi, a3⟩, a1⟩
    | 1, h => cases h; exact ⟨fun N z => ⟨(fun q hq => by cases hq), kl, b2, compl, b3⟩, b1⟩
    | 2, h => cases h; exact ⟨fun N z => ⟨(fun q hq => by cases hq), kq, d3, comp, d4⟩, d5⟩
    | k + 3, h => simp [tysOf] at h
  clear hκ
  have hS : va_S (fun q : Nat => s.heap.size ≤ q) s.heap s.heap [] := va_S.rf
  have hP : va_P (dC, dI) classes [] s.heap := fun k q h => by simp at h
  have hD : va_D (fun q : Nat => s.heap.size ≤ q) [] := ⟨fun i j p q h => by simp at h, fun k q h => by simp at h⟩
  have hl := lv_entry ([.ref b]) (n := 4) (Nat.le_of_ble_eq_true rfl)
  rw [lg_entry_eq]
  generalize (lg_sl ([.ref b]) ++ List.replicate (4 - (lg_sl ([.ref b])).length) Slot.unset).toArray = ls at hl ⊢
  have hl : lv_has ls 4 [(0, .ref b)] := hl
  refine va_new (ci := 1) (fs := [.null, .null, .null, .null, .null, .null, .null, .null, .int 0, .int 0, .int 0, .int 0]) (C := RV) (T := TV) (N := 12) hx hb hts wsV_ok tyV tyV_ok hown (hts _ wd12) (hts _ wd13) (hts _ wd1) hK hP hD hS hA rfl (fun j hj => by rcases (show j = 0 ∨ j = 1 ∨ j = 2 ∨ j = 3 ∨ j = 4 ∨ j = 5 ∨ j = 6 ∨ j = 7 ∨ j = 8 ∨ j = 9 ∨ j = 10 ∨ j = 11 by omega) with rfl | rfl | rfl | rfl | rfl | rfl | rfl | rfl | rfl | rfl | rfl | rfl <;> rfl) (Nat.le_of_ble_eq_true rfl) (Nat.le_of_ble_eq_true rfl) dl_0 (fun qV H1 hP1 hD1 hS1 => ?_)
  refine lv_dup hx hb dl_3 rfl ?_
  refine n_callI (rest := [.ref qV]) hx hb hml hown hts hK hNS hO hP1 hD1 hS1 hA hl (mn_V_init κ qV) ⟨wd16, wd1, ⟨by decide, by decide, by decide⟩, rfl, rfl, Nat.le_of_ble_eq_true rfl, Nat.le_of_ble_eq_true rfl⟩ rfl wd15 wd14 (Nat.le_of_ble_eq_true rfl) dl_4 (Nat.le_of_ble_eq_true rfl) (Nat.le_of_ble_eq_true rfl) (fun w1 H2 locs2 hw hP2 hD2 hS2 => ?_)
  obtain ⟨h, eh, rfl⟩ := hw
  clear hP1 hD1 hS1 hP hD hS
  have hP := hP2
  have hD := hD2
  have hS := hS2
  clear hP2 hD2 hS2
  refine lv_astore_n (lv' := [(1, .ref qV), (0, .ref b)]) hx hb dl_7 rfl hl (by decide) rfl (fun ls hl => ?_)
  refine va_new (ci := 0) (fs := [.int 0, .null, .int 0, .int 0, .int 0, .null, .null, .null, .null, .null, .null, .null, .null, .long 0, .int 0, .int 0, .int 0, .int 0, .null, .null, .int 0, .int 0, .null, .null, .int 0, .null, .int 0]) (C := RM) (T := TM) (N := 27) hx hb hts wsM_ok tyM tyM_ok hown (hts _ wd484) (hts _ wd485) (hts _ wd8) hK hP hD hS hA rfl (fun j hj => by rcases (show j = 0 ∨ j = 1 ∨ j = 2 ∨ j = 3 ∨ j = 4 ∨ j = 5 ∨ j = 6 ∨ j = 7 ∨ j = 8 ∨ j = 9 ∨ j = 10 ∨ j = 11 ∨ j = 12 ∨ j = 13 ∨ j = 14 ∨ j = 15 ∨ j = 16 ∨ j = 17 ∨ j = 18 ∨ j = 19 ∨ j = 20 ∨ j = 21 ∨ j = 22 ∨ j = 23 ∨ j = 24 ∨ j = 25 ∨ j = 26 by omega) with rfl | rfl | rfl | rfl | rfl | rfl | rfl | rfl | rfl | rfl | rfl | rfl | rfl | rfl | rfl | rfl | rfl | rfl | rfl | rfl | rfl | rfl | rfl | rfl | rfl | rfl | rfl <;> rfl) (Nat.le_of_ble_eq_true rfl) (Nat.le_of_ble_eq_true rfl) dl_8 (fun qM H1 hP1 hD1 hS1 => ?_)
  refine lv_dup hx hb dl_11 rfl ?_
  refine n_callI (rest := [.ref qM]) hx hb hml hown hts hK hNS hO hP1 hD1 hS1 hA hl (mn_M_init κ qM) ⟨wd488, wd8, ⟨by decide, by decide, by decide⟩, rfl, rfl, Nat.le_of_ble_eq_true rfl, Nat.le_of_ble_eq_true rfl⟩ rfl wd487 wd486 (Nat.le_of_ble_eq_true rfl) dl_12 (Nat.le_of_ble_eq_true rfl) (Nat.le_of_ble_eq_true rfl) (fun w1 H2 locs2 hw hP2 hD2 hS2 => ?_)
  obtain ⟨hM, ehM, rfl⟩ := hw
  clear hP1 hD1 hS1 hP hD hS
  refine lv_astore_n (lv' := [(2, .ref qM), (1, .ref qV), (0, .ref b)]) hx hb dl_15 rfl hl (by decide) rfl (fun ls hl => ?_)
  refine lv_iconst (v := 0) hx hb dl_16 (by decide) ?_
  refine lv_istore_n (lv' := [(3, .int 0), (2, .ref qM), (1, .ref qV), (0, .ref b)]) hx hb dl_17 rfl hl (by decide) rfl (fun ls hl => ?_)
  refine W.widen (k := 600000) (n := 7302250) (Nat.le_of_ble_eq_true rfl) (Nat.le_of_ble_eq_true rfl) ?_
  have hP3 := P_swap hP2
  rw [List.nil_append, ← wl_two (κ := κ)] at hP3
  have ix : ∀ k, k < 114 → ∃ v, (([] : va_W) ++ wn 99 h (LC (kh 15 h κ) σ0) ++ wn 15 hM (LM (kh 0 hM κ) τ0 (fun _ => .inr (0, []))))[if k < 15 then 99 + k else k - 15]? = some (hseg [(15, hM), (99, h)] k, v) := by
    intro k hk
    rw [List.nil_append]
    by_cases h15 : k < 15
    · rw [if_pos h15, List.getElem?_append_right (by rw [wn_len]; omega), wn_len, Nat.add_sub_cancel_left, wn_get h15, hseg_lt h15]
      exact ⟨_, rfl⟩
    · rw [if_neg h15, List.getElem?_append_left (by rw [wn_len]; omega), wn_get (by omega)]
      exact ⟨LC (kh 15 h κ) σ0 (k - 15), by
        rw [show hseg [(15, hM), (99, h)] k = h (k - 15) by
          rw [show k = 15 + (k - 15) by omega, hseg_ge, hseg_lt (by omega), Nat.add_sub_cancel_left]]⟩
  have G : OK (p, l, e, room_1, s, m, #[Value.ref b], below, meth, c, 600000, 7302250, lw_Z below #[Value.ref b] s, (dC, dI), (fun q : Nat => s.heap.size ≤ q)) (hseg [(15, hM), (99, h)], κ.2) "ShortVectorsLaw" code 4 ret room_1 := by
    refine ⟨hx, hb, hml, hr, hlocks, hown, hts, hK, hNS, ?_, ?_, fun q hq => hq, Nat.le_refl _, Nat.le_refl _, rfl⟩
    · intro i j hi hj hij
      obtain ⟨v1, e1⟩ := ix i hi
      obtain ⟨v2, e2⟩ := ix j hj
      have := hD2.1 _ _ _ _ e1 e2 hij
      unfold NW at hi hj
      split at this <;> split at this <;> omega
    · intro k hk
      obtain ⟨v1, e1⟩ := ix k hk
      exact hD2.2 _ _ e1
  have hlv : lv_has ls 4 [(0, .ref b), (1, .ref (hseg [(15, hM), (99, h)] 15)), (2, .ref (hseg [(15, hM), (99, h)] 0)), (3, .int (nI 0))] := by
    rw [show hseg [(15, hM), (99, h)] 15 = qV from eh, show hseg [(15, hM), (99, h)] 0 = qM from ehM]
    exact lv_sub hl [3, 2, 1, 0] rfl
  exact lw_loop G ⟨hX, hbl, hbA⟩ ⟨rfl, rfl, rfl, rfl, rfl, rfl⟩ hL hs (L + 1) 0 (Nat.zero_le L) (by omega) σ0 τ0 h0 _ _ ls hP3 hS2 hlv
