theorem dn_V_init_0 : decode cV_init 0 = .ok (.aload_n 0, 1) := by decide +kernel
theorem dn_V_init_1 : decode cV_init 1 = .ok (.invokespecial 1, 3) := by decide +kernel
theorem dn_V_init_4 : decode cV_init 4 = .ok (.aload_n 0, 1) := by decide +kernel
theorem dn_V_init_5 : decode cV_init 5 = .ok (.bipush 6, 2) := by decide +kernel
theorem dn_V_init_7 : decode cV_init 7 = .ok (.iconst 4, 1) := by decide +kernel
theorem dn_V_init_8 : decode cV_init 8 = .ok (.multianewarray 9 2, 4) := by decide +kernel
theorem dn_V_init_12 : decode cV_init 12 = .ok (.putfield 11, 3) := by decide +kernel
theorem dn_V_init_15 : decode cV_init 15 = .ok (.aload_n 0, 1) := by decide +kernel
theorem dn_V_init_16 : decode cV_init 16 = .ok (.iconst 4, 1) := by decide +kernel
theorem dn_V_init_17 : decode cV_init 17 = .ok (.newarray .long, 2) := by decide +kernel
theorem dn_V_init_19 : decode cV_init 19 = .ok (.putfield 14, 3) := by decide +kernel
theorem dn_V_init_22 : decode cV_init 22 = .ok (.aload_n 0, 1) := by decide +kernel
theorem dn_V_init_23 : decode cV_init 23 = .ok (.new 18, 3) := by decide +kernel
theorem dn_V_init_26 : decode cV_init 26 = .ok (.dup, 1) := by decide +kernel
theorem dn_V_init_27 : decode cV_init 27 = .ok (.invokespecial 20, 3) := by decide +kernel
theorem dn_V_init_30 : decode cV_init 30 = .ok (.putfield 21, 3) := by decide +kernel
theorem dn_V_init_33 : decode cV_init 33 = .ok (.aload_n 0, 1) := by decide +kernel
theorem dn_V_init_34 : decode cV_init 34 = .ok (.new 18, 3) := by decide +kernel
theorem dn_V_init_37 : decode cV_init 37 = .ok (.dup, 1) := by decide +kernel
theorem dn_V_init_38 : decode cV_init 38 = .ok (.invokespecial 20, 3) := by decide +kernel
theorem dn_V_init_41 : decode cV_init 41 = .ok (.putfield 25, 3) := by decide +kernel
theorem dn_V_init_44 : decode cV_init 44 = .ok (.aload_n 0, 1) := by decide +kernel
theorem dn_V_init_45 : decode cV_init 45 = .ok (.new 28, 3) := by decide +kernel
theorem dn_V_init_48 : decode cV_init 48 = .ok (.dup, 1) := by decide +kernel
theorem dn_V_init_49 : decode cV_init 49 = .ok (.invokespecial 30, 3) := by decide +kernel
theorem dn_V_init_52 : decode cV_init 52 = .ok (.putfield 31, 3) := by decide +kernel
theorem dn_V_init_55 : decode cV_init 55 = .ok (.aload_n 0, 1) := by decide +kernel
theorem dn_V_init_56 : decode cV_init 56 = .ok (.new 35, 3) := by decide +kernel
theorem dn_V_init_59 : decode cV_init 59 = .ok (.dup, 1) := by decide +kernel
theorem dn_V_init_60 : decode cV_init 60 = .ok (.invokespecial 37, 3) := by decide +kernel
theorem dn_V_init_63 : decode cV_init 63 = .ok (.putfield 38, 3) := by decide +kernel
theorem dn_V_init_66 : decode cV_init 66 = .ok (.aload_n 0, 1) := by decide +kernel
theorem dn_V_init_67 : decode cV_init 67 = .ok (.new 42, 3) := by decide +kernel
theorem dn_V_init_70 : decode cV_init 70 = .ok (.dup, 1) := by decide +kernel
theorem dn_V_init_71 : decode cV_init 71 = .ok (.invokespecial 44, 3) := by decide +kernel
theorem dn_V_init_74 : decode cV_init 74 = .ok (.putfield 45, 3) := by decide +kernel
theorem dn_V_init_77 : decode cV_init 77 = .ok (.aload_n 0, 1) := by decide +kernel
theorem dn_V_init_78 : decode cV_init 78 = .ok (.new 49, 3) := by decide +kernel
theorem dn_V_init_81 : decode cV_init 81 = .ok (.dup, 1) := by decide +kernel
theorem dn_V_init_82 : decode cV_init 82 = .ok (.invokespecial 51, 3) := by decide +kernel
theorem dn_V_init_85 : decode cV_init 85 = .ok (.putfield 52, 3) := by decide +kernel
theorem dn_V_init_88 : decode cV_init 88 = .ok (.aload_n 0, 1) := by decide +kernel
theorem dn_V_init_89 : decode cV_init 89 = .ok (.iconst 0, 1) := by decide +kernel
theorem dn_V_init_90 : decode cV_init 90 = .ok (.putfield 56, 3) := by decide +kernel
theorem dn_V_init_93 : decode cV_init 93 = .ok (.return_, 1) := by decide +kernel
set_option maxHeartbeats 4000000 in
set_option maxRecDepth 100000 in
theorem mn_V_init (κ : ctx) (h0 : Nat) : MtN yV_init cV_init 1 ({ frames := 4, cells := 98, slots := 506, locals := 160 }) κ h0 (.inr (1, [.null, .null, .null, .null, .null, .null, .null, .null, .int 0, .int 0, .int 0, .int 0])) 98 506 (fun ws => ∃ h, h 0 = h0 ∧ ws = wn 99 h (LC (kh 15 h κ) σ0)) := by
  intro l D sz
  refine Met.ofW (cc := cV_init) (maxL := 1) (ret := none) (by decide) rfl ?_
  intro p e s m args below meth c s₁ B hml hv
  obtain ⟨rfl, hsz, hP, hK, hNS, hO, hD0⟩ := hv
  have hx := B.exec
  have hb := B.bytes
  have hr := B.returns
  have hts0 := atoms_spec (ws := uw yV_init cV_init 1 none) B.pre
  have hts : ∀ w ∈ utbl, w.before #[Value.ref h0] s = true := fun w hw => hts0 w (List.mem_cons_of_mem _ hw)
  have hown : s.vm.findClass "ShortVectors" = some m.cls := findClass_of_methodNamed B.named
  have hlocks := B.notSynchronized
  have hin : meth.name = "<init>" := (name_of_methodNamed B.named B.method).1
  subst hsz
  have hD := hD0.self (sz := s.heap.size)
  generalize hAe : va_A [(h0, .inr (1, [.null, .null, .null, .null, .null, .null, .null, .null, .int 0, .int 0, .int 0, .int 0]))] s.heap.size = A at hD ⊢
  have hA : ∀ q : Nat, s.heap.size ≤ q → A q := fun q h => by rw [← hAe]; exact Or.inr h
  have hS : va_S A s.heap s.heap [] := va_S.rf
  have hl := lv_entry ([.ref h0]) (n := 1) (Nat.le_of_ble_eq_true rfl)
  rw [lg_entry_eq]
  generalize (lg_sl ([.ref h0]) ++ List.replicate (1 - (lg_sl ([.ref h0])).length) Slot.unset).toArray = ls at hl ⊢
  have hl : lv_has ls 1 [(0, .ref h0)] := hl
  refine lv_aload_n hx hb dn_V_init_0 rfl (lv_at hl 0 rfl) ?_
  refine W.objInit hx hb hown (hts _ wd17) (hts _ wd18) (hts _ wd19) rfl (by rw [hml]; exact hl.1) rfl dn_V_init_1 (Nat.le_of_ble_eq_true rfl) (Nat.le_of_ble_eq_true rfl) ?_
  refine W.eq (g2 := F0 m 4 ls []) rfl ?_
  refine lv_aload_n hx hb dn_V_init_4 rfl (lv_at hl 0 rfl) ?_
  refine lv_bipush (v := 6) hx hb dn_V_init_5 (by decide) ?_
  refine lv_iconst (v := 4) hx hb dn_V_init_7 (by decide) ?_
  refine n_mna hx hb hown (hts _ wd20) hO (hts _ wd36) hK hP hD hS hA 6 4 (by decide) (by decide) (by decide) (by decide) (by decide) (by decide) (by decide) (Nat.le_of_ble_eq_true rfl) (Nat.le_of_ble_eq_true rfl) dn_V_init_8 (fun q1 r1 H hP hD hS => ?_)
  obtain ⟨w1, hw1⟩ : ∃ w : va_W, w = [] ++ blk κ 6 4 q1 r1 := ⟨_, rfl⟩
  have hP : va_P D classes ((h0, .inr (1, [.null, .null, .null, .null, .null, .null, .null, .null, .int 0, .int 0, .int 0, .int 0])) :: w1) H := by rw [hw1]; exact hP
  have hD : va_D A ((h0, .inr (1, [.null, .null, .null, .null, .null, .null, .null, .null, .int 0, .int 0, .int 0, .int 0])) :: w1) := by rw [hw1]; exact hD
  refine va_putF (D := D) (ci := 1) (v := .ref q1) (ty := tyV 0) (C := RV) (T := TV) (N := 12) hx hb hts wsV_ok tyV tyV_ok nmV hown hK hP hD hS 0 rfl rfl 0 (by decide) (hts _ wd123) (fun _ h9 => h9) rfl hin rfl (tyV_ok 0 (by decide)) rfl rfl (Nat.le_of_ble_eq_true rfl) dn_V_init_12 (fun H locs hP hD hS => ?_)
  have hP : va_P D classes ((h0, .inr (1, [.ref q1, .null, .null, .null, .null, .null, .null, .null, .int 0, .int 0, .int 0, .int 0])) :: w1) H := hP
  have hD : va_D A ((h0, .inr (1, [.ref q1, .null, .null, .null, .null, .null, .null, .null, .int 0, .int 0, .int 0, .int 0])) :: w1) := hD
  refine lv_aload_n hx hb dn_V_init_15 rfl (lv_at hl 0 rfl) ?_
  refine lv_iconst (v := 4) hx hb dn_V_init_16 (by decide) ?_
  refine n_newL hx hb (hts _ wd36) hK hP hD hS hA 4 (by decide) (by decide) (by decide) (Nat.le_of_ble_eq_true rfl) (Nat.le_of_ble_eq_true rfl) dn_V_init_17 (fun q2 H hP hD hS => ?_)
  obtain ⟨w2, hw2⟩ : ∃ w : va_W, w = w1 ++ [(q2, .inl (κ.2.2.1, zl 4))] := ⟨_, rfl⟩
  have hP : va_P D classes ((h0, .inr (1, [.ref q1, .null, .null, .null, .null, .null, .null, .null, .int 0, .int 0, .int 0, .int 0])) :: w2) H := by rw [hw2]; exact hP
  have hD : va_D A ((h0, .inr (1, [.ref q1, .null, .null, .null, .null, .null, .null, .null, .int 0, .int 0, .int 0, .int 0])) :: w2) := by rw [hw2]; exact hD
  refine va_putF (D := D) (ci := 1) (v := .ref q2) (ty := tyV 1) (C := RV) (T := TV) (N := 12) hx hb hts wsV_ok tyV tyV_ok nmV hown hK hP hD hS 0 rfl rfl 1 (by decide) (hts _ wd124) (fun _ h9 => h9) rfl hin rfl (tyV_ok 1 (by decide)) rfl rfl (Nat.le_of_ble_eq_true rfl) dn_V_init_19 (fun H locs hP hD hS => ?_)
  have hP : va_P D classes ((h0, .inr (1, [.ref q1, .ref q2, .null, .null, .null, .null, .null, .null, .int 0, .int 0, .int 0, .int 0])) :: w2) H := hP
  have hD : va_D A ((h0, .inr (1, [.ref q1, .ref q2, .null, .null, .null, .null, .null, .null, .int 0, .int 0, .int 0, .int 0])) :: w2) := hD
  refine lv_aload_n hx hb dn_V_init_22 rfl (lv_at hl 0 rfl) ?_
  refine va_new (ci := 2) (fs := [.null, .null]) (C := RE) (T := TE) (N := 2) hx hb hts wsE_ok tyE tyE_ok hown (hts _ wd22) (hts _ wd23) (hts _ wd2) hK hP hD hS hA rfl (fun j hj => by rcases (show j = 0 ∨ j = 1 by omega) with rfl | rfl <;> rfl) (Nat.le_of_ble_eq_true rfl) (Nat.le_of_ble_eq_true rfl) dn_V_init_23 (fun q3 H hP hD hS => ?_)
  refine lv_dup hx hb dn_V_init_26 rfl ?_
  have hP : va_P D classes (((h0, .inr (1, [.ref q1, .ref q2, .null, .null, .null, .null, .null, .null, .int 0, .int 0, .int 0, .int 0])) :: w2) ++ [(q3, .inr (2, [.null, .null]))]) H := hP
  have hD : va_D A (((h0, .inr (1, [.ref q1, .ref q2, .null, .null, .null, .null, .null, .null, .int 0, .int 0, .int 0, .int 0])) :: w2) ++ [(q3, .inr (2, [.null, .null]))]) := hD
  refine n_callN hx hb hml hown hts hK hNS hO hP hD hS hA hl (mn_E_init κ q3) ⟨wd26, wd2, ⟨by decide, by decide, by decide⟩, rfl, rfl, Nat.le_of_ble_eq_true rfl, Nat.le_of_ble_eq_true rfl⟩ rfl wd25 wd24 (Nat.le_of_ble_eq_true rfl) dn_V_init_27 (Nat.le_of_ble_eq_true rfl) (Nat.le_of_ble_eq_true rfl) (fun w1 HH locs9 hw hP1 hD1 hS1 => ?_)
  clear hP hD hS
  obtain ⟨hEq3, ehEq3, rfl⟩ := hw
  subst ehEq3
  obtain ⟨w3, hw3⟩ : ∃ w : va_W, w = w2 ++ wn 7 hEq3 (segL (g_E (kh 24 hEq3 κ) (fun _ _ => 0) (fun _ => 0))) := ⟨_, rfl⟩
  have hP : va_P D classes ((h0, .inr (1, [.ref q1, .ref q2, .null, .null, .null, .null, .null, .null, .int 0, .int 0, .int 0, .int 0])) :: w3) HH := by rw [hw3]; exact hP1
  have hD : va_D A ((h0, .inr (1, [.ref q1, .ref q2, .null, .null, .null, .null, .null, .null, .int 0, .int 0, .int 0, .int 0])) :: w3) := by rw [hw3]; exact hD1
  have hS := hS1
  clear hP1 hD1 hS1
  refine va_putF (D := D) (ci := 1) (v := .ref (hEq3 0)) (ty := tyV 2) (C := RV) (T := TV) (N := 12) hx hb hts wsV_ok tyV tyV_ok nmV hown hK hP hD hS 0 rfl rfl 2 (by decide) (hts _ wd125) (fun _ h9 => h9) rfl hin rfl (tyV_ok 2 (by decide)) rfl rfl (Nat.le_of_ble_eq_true rfl) dn_V_init_30 (fun H locs hP hD hS => ?_)
  have hP : va_P D classes ((h0, .inr (1, [.ref q1, .ref q2, .ref (hEq3 0), .null, .null, .null, .null, .null, .int 0, .int 0, .int 0, .int 0])) :: w3) H := hP
  have hD : va_D A ((h0, .inr (1, [.ref q1, .ref q2, .ref (hEq3 0), .null, .null, .null, .null, .null, .int 0, .int 0, .int 0, .int 0])) :: w3) := hD
  refine lv_aload_n hx hb dn_V_init_33 rfl (lv_at hl 0 rfl) ?_
  refine va_new (ci := 2) (fs := [.null, .null]) (C := RE) (T := TE) (N := 2) hx hb hts wsE_ok tyE tyE_ok hown (hts _ wd22) (hts _ wd23) (hts _ wd2) hK hP hD hS hA rfl (fun j hj => by rcases (show j = 0 ∨ j = 1 by omega) with rfl | rfl <;> rfl) (Nat.le_of_ble_eq_true rfl) (Nat.le_of_ble_eq_true rfl) dn_V_init_34 (fun q4 H hP hD hS => ?_)
  refine lv_dup hx hb dn_V_init_37 rfl ?_
  have hP : va_P D classes (((h0, .inr (1, [.ref q1, .ref q2, .ref (hEq3 0), .null, .null, .null, .null, .null, .int 0, .int 0, .int 0, .int 0])) :: w3) ++ [(q4, .inr (2, [.null, .null]))]) H := hP
  have hD : va_D A (((h0, .inr (1, [.ref q1, .ref q2, .ref (hEq3 0), .null, .null, .null, .null, .null, .int 0, .int 0, .int 0, .int 0])) :: w3) ++ [(q4, .inr (2, [.null, .null]))]) := hD
  refine n_callN hx hb hml hown hts hK hNS hO hP hD hS hA hl (mn_E_init κ q4) ⟨wd26, wd2, ⟨by decide, by decide, by decide⟩, rfl, rfl, Nat.le_of_ble_eq_true rfl, Nat.le_of_ble_eq_true rfl⟩ rfl wd25 wd24 (Nat.le_of_ble_eq_true rfl) dn_V_init_38 (Nat.le_of_ble_eq_true rfl) (Nat.le_of_ble_eq_true rfl) (fun w1 HH locs9 hw hP1 hD1 hS1 => ?_)
  clear hP hD hS
  obtain ⟨hEq4, ehEq4, rfl⟩ := hw
  subst ehEq4
  obtain ⟨w4, hw4⟩ : ∃ w : va_W, w = w3 ++ wn 7 hEq4 (segL (g_E (kh 24 hEq4 κ) (fun _ _ => 0) (fun _ => 0))) := ⟨_, rfl⟩
  have hP : va_P D classes ((h0, .inr (1, [.ref q1, .ref q2, .ref (hEq3 0), .null, .null, .null, .null, .null, .int 0, .int 0, .int 0, .int 0])) :: w4) HH := by rw [hw4]; exact hP1
  have hD : va_D A ((h0, .inr (1, [.ref q1, .ref q2, .ref (hEq3 0), .null, .null, .null, .null, .null, .int 0, .int 0, .int 0, .int 0])) :: w4) := by rw [hw4]; exact hD1
  have hS := hS1
  clear hP1 hD1 hS1
  refine va_putF (D := D) (ci := 1) (v := .ref (hEq4 0)) (ty := tyV 3) (C := RV) (T := TV) (N := 12) hx hb hts wsV_ok tyV tyV_ok nmV hown hK hP hD hS 0 rfl rfl 3 (by decide) (hts _ wd126) (fun _ h9 => h9) rfl hin rfl (tyV_ok 3 (by decide)) rfl rfl (Nat.le_of_ble_eq_true rfl) dn_V_init_41 (fun H locs hP hD hS => ?_)
  have hP : va_P D classes ((h0, .inr (1, [.ref q1, .ref q2, .ref (hEq3 0), .ref (hEq4 0), .null, .null, .null, .null, .int 0, .int 0, .int 0, .int 0])) :: w4) H := hP
  have hD : va_D A ((h0, .inr (1, [.ref q1, .ref q2, .ref (hEq3 0), .ref (hEq4 0), .null, .null, .null, .null, .int 0, .int 0, .int 0, .int 0])) :: w4) := hD
  refine lv_aload_n hx hb dn_V_init_44 rfl (lv_at hl 0 rfl) ?_
  refine va_new (ci := 3) (fs := [.null, .null, .null, .null, .null, .null, .null, .int 0]) (C := RB) (T := TB) (N := 8) hx hb hts wsB_ok tyB tyB_ok hown (hts _ wd37) (hts _ wd38) (hts _ wd3) hK hP hD hS hA rfl (fun j hj => by rcases (show j = 0 ∨ j = 1 ∨ j = 2 ∨ j = 3 ∨ j = 4 ∨ j = 5 ∨ j = 6 ∨ j = 7 by omega) with rfl | rfl | rfl | rfl | rfl | rfl | rfl | rfl <;> rfl) (Nat.le_of_ble_eq_true rfl) (Nat.le_of_ble_eq_true rfl) dn_V_init_45 (fun q5 H hP hD hS => ?_)
  refine lv_dup hx hb dn_V_init_48 rfl ?_
  have hP : va_P D classes (((h0, .inr (1, [.ref q1, .ref q2, .ref (hEq3 0), .ref (hEq4 0), .null, .null, .null, .null, .int 0, .int 0, .int 0, .int 0])) :: w4) ++ [(q5, .inr (3, [.null, .null, .null, .null, .null, .null, .null, .int 0]))]) H := hP
  have hD : va_D A (((h0, .inr (1, [.ref q1, .ref q2, .ref (hEq3 0), .ref (hEq4 0), .null, .null, .null, .null, .int 0, .int 0, .int 0, .int 0])) :: w4) ++ [(q5, .inr (3, [.null, .null, .null, .null, .null, .null, .null, .int 0]))]) := hD
  refine n_callN hx hb hml hown hts hK hNS hO hP hD hS hA hl (mn_B_init κ q5) ⟨wd41, wd3, ⟨by decide, by decide, by decide⟩, rfl, rfl, Nat.le_of_ble_eq_true rfl, Nat.le_of_ble_eq_true rfl⟩ rfl wd40 wd39 (Nat.le_of_ble_eq_true rfl) dn_V_init_49 (Nat.le_of_ble_eq_true rfl) (Nat.le_of_ble_eq_true rfl) (fun w1 HH locs9 hw hP1 hD1 hS1 => ?_)
  clear hP hD hS
  obtain ⟨hBq5, ehBq5, rfl⟩ := hw
  subst ehBq5
  obtain ⟨w5, hw5⟩ : ∃ w : va_W, w = w4 ++ wn 25 hBq5 (segL (g_B (kh 38 hBq5 κ) (fun _ _ => 0) (fun _ _ => 0) (fun _ => 0) (fun _ => 0) (fun _ _ => 0) (fun _ _ => 0) (fun _ => 0) 0)) := ⟨_, rfl⟩
  have hP : va_P D classes ((h0, .inr (1, [.ref q1, .ref q2, .ref (hEq3 0), .ref (hEq4 0), .null, .null, .null, .null, .int 0, .int 0, .int 0, .int 0])) :: w5) HH := by rw [hw5]; exact hP1
  have hD : va_D A ((h0, .inr (1, [.ref q1, .ref q2, .ref (hEq3 0), .ref (hEq4 0), .null, .null, .null, .null, .int 0, .int 0, .int 0, .int 0])) :: w5) := by rw [hw5]; exact hD1
  have hS := hS1
  clear hP1 hD1 hS1
  refine va_putF (D := D) (ci := 1) (v := .ref (hBq5 0)) (ty := tyV 4) (C := RV) (T := TV) (N := 12) hx hb hts wsV_ok tyV tyV_ok nmV hown hK hP hD hS 0 rfl rfl 4 (by decide) (hts _ wd127) (fun _ h9 => h9) rfl hin rfl (tyV_ok 4 (by decide)) rfl rfl (Nat.le_of_ble_eq_true rfl) dn_V_init_52 (fun H locs hP hD hS => ?_)
  have hP : va_P D classes ((h0, .inr (1, [.ref q1, .ref q2, .ref (hEq3 0), .ref (hEq4 0), .ref (hBq5 0), .null, .null, .null, .int 0, .int 0, .int 0, .int 0])) :: w5) H := hP
  have hD : va_D A ((h0, .inr (1, [.ref q1, .ref q2, .ref (hEq3 0), .ref (hEq4 0), .ref (hBq5 0), .null, .null, .null, .int 0, .int 0, .int 0, .int 0])) :: w5) := hD
  refine lv_aload_n hx hb dn_V_init_55 rfl (lv_at hl 0 rfl) ?_
  refine va_new (ci := 4) (fs := [.null, .long 0, .null]) (C := RT) (T := TT) (N := 3) hx hb hts wsT_ok tyT tyT_ok hown (hts _ wd69) (hts _ wd70) (hts _ wd5) hK hP hD hS hA rfl (fun j hj => by rcases (show j = 0 ∨ j = 1 ∨ j = 2 by omega) with rfl | rfl | rfl <;> rfl) (Nat.le_of_ble_eq_true rfl) (Nat.le_of_ble_eq_true rfl) dn_V_init_56 (fun q6 H hP hD hS => ?_)
  refine lv_dup hx hb dn_V_init_59 rfl ?_
  have hP : va_P D classes (((h0, .inr (1, [.ref q1, .ref q2, .ref (hEq3 0), .ref (hEq4 0), .ref (hBq5 0), .null, .null, .null, .int 0, .int 0, .int 0, .int 0])) :: w5) ++ [(q6, .inr (4, [.null, .long 0, .null]))]) H := hP
  have hD : va_D A (((h0, .inr (1, [.ref q1, .ref q2, .ref (hEq3 0), .ref (hEq4 0), .ref (hBq5 0), .null, .null, .null, .int 0, .int 0, .int 0, .int 0])) :: w5) ++ [(q6, .inr (4, [.null, .long 0, .null]))]) := hD
  refine n_callN hx hb hml hown hts hK hNS hO hP hD hS hA hl (mn_T_init κ q6) ⟨wd73, wd5, ⟨by decide, by decide, by decide⟩, rfl, rfl, Nat.le_of_ble_eq_true rfl, Nat.le_of_ble_eq_true rfl⟩ rfl wd72 wd71 (Nat.le_of_ble_eq_true rfl) dn_V_init_60 (Nat.le_of_ble_eq_true rfl) (Nat.le_of_ble_eq_true rfl) (fun w1 HH locs9 hw hP1 hD1 hS1 => ?_)
  clear hP hD hS
  obtain ⟨hTq6, ehTq6, rfl⟩ := hw
  subst ehTq6
  obtain ⟨w6, hw6⟩ : ∃ w : va_W, w = w5 ++ wn 3 hTq6 (segL (g_T (kh 63 hTq6 κ) (fun _ => 0) 0 (fun _ => 0))) := ⟨_, rfl⟩
  have hP : va_P D classes ((h0, .inr (1, [.ref q1, .ref q2, .ref (hEq3 0), .ref (hEq4 0), .ref (hBq5 0), .null, .null, .null, .int 0, .int 0, .int 0, .int 0])) :: w6) HH := by rw [hw6]; exact hP1
  have hD : va_D A ((h0, .inr (1, [.ref q1, .ref q2, .ref (hEq3 0), .ref (hEq4 0), .ref (hBq5 0), .null, .null, .null, .int 0, .int 0, .int 0, .int 0])) :: w6) := by rw [hw6]; exact hD1
  have hS := hS1
  clear hP1 hD1 hS1
  refine va_putF (D := D) (ci := 1) (v := .ref (hTq6 0)) (ty := tyV 5) (C := RV) (T := TV) (N := 12) hx hb hts wsV_ok tyV tyV_ok nmV hown hK hP hD hS 0 rfl rfl 5 (by decide) (hts _ wd128) (fun _ h9 => h9) rfl hin rfl (tyV_ok 5 (by decide)) rfl rfl (Nat.le_of_ble_eq_true rfl) dn_V_init_63 (fun H locs hP hD hS => ?_)
  have hP : va_P D classes ((h0, .inr (1, [.ref q1, .ref q2, .ref (hEq3 0), .ref (hEq4 0), .ref (hBq5 0), .ref (hTq6 0), .null, .null, .int 0, .int 0, .int 0, .int 0])) :: w6) H := hP
  have hD : va_D A ((h0, .inr (1, [.ref q1, .ref q2, .ref (hEq3 0), .ref (hEq4 0), .ref (hBq5 0), .ref (hTq6 0), .null, .null, .int 0, .int 0, .int 0, .int 0])) :: w6) := hD
  refine lv_aload_n hx hb dn_V_init_66 rfl (lv_at hl 0 rfl) ?_
  refine va_new (ci := 5) (fs := [.null, .long 0, .null, .null, .int 0]) (C := RF) (T := TF) (N := 5) hx hb hts wsF_ok tyF tyF_ok hown (hts _ wd89) (hts _ wd90) (hts _ wd6) hK hP hD hS hA rfl (fun j hj => by rcases (show j = 0 ∨ j = 1 ∨ j = 2 ∨ j = 3 ∨ j = 4 by omega) with rfl | rfl | rfl | rfl | rfl <;> rfl) (Nat.le_of_ble_eq_true rfl) (Nat.le_of_ble_eq_true rfl) dn_V_init_67 (fun q7 H hP hD hS => ?_)
  refine lv_dup hx hb dn_V_init_70 rfl ?_
  have hP : va_P D classes (((h0, .inr (1, [.ref q1, .ref q2, .ref (hEq3 0), .ref (hEq4 0), .ref (hBq5 0), .ref (hTq6 0), .null, .null, .int 0, .int 0, .int 0, .int 0])) :: w6) ++ [(q7, .inr (5, [.null, .long 0, .null, .null, .int 0]))]) H := hP
  have hD : va_D A (((h0, .inr (1, [.ref q1, .ref q2, .ref (hEq3 0), .ref (hEq4 0), .ref (hBq5 0), .ref (hTq6 0), .null, .null, .int 0, .int 0, .int 0, .int 0])) :: w6) ++ [(q7, .inr (5, [.null, .long 0, .null, .null, .int 0]))]) := hD
  refine n_callN hx hb hml hown hts hK hNS hO hP hD hS hA hl (mn_F_init κ q7) ⟨wd93, wd6, ⟨by decide, by decide, by decide⟩, rfl, rfl, Nat.le_of_ble_eq_true rfl, Nat.le_of_ble_eq_true rfl⟩ rfl wd92 wd91 (Nat.le_of_ble_eq_true rfl) dn_V_init_71 (Nat.le_of_ble_eq_true rfl) (Nat.le_of_ble_eq_true rfl) (fun w1 HH locs9 hw hP1 hD1 hS1 => ?_)
  clear hP hD hS
  obtain ⟨hFq7, ehFq7, rfl⟩ := hw
  subst ehFq7
  obtain ⟨w7, hw7⟩ : ∃ w : va_W, w = w6 ++ wn 45 hFq7 (segL (g_F (kh 66 hFq7 κ) (fun _ => 0) 0 (fun _ _ => 0) (fun _ => 0) 0)) := ⟨_, rfl⟩
  have hP : va_P D classes ((h0, .inr (1, [.ref q1, .ref q2, .ref (hEq3 0), .ref (hEq4 0), .ref (hBq5 0), .ref (hTq6 0), .null, .null, .int 0, .int 0, .int 0, .int 0])) :: w7) HH := by rw [hw7]; exact hP1
  have hD : va_D A ((h0, .inr (1, [.ref q1, .ref q2, .ref (hEq3 0), .ref (hEq4 0), .ref (hBq5 0), .ref (hTq6 0), .null, .null, .int 0, .int 0, .int 0, .int 0])) :: w7) := by rw [hw7]; exact hD1
  have hS := hS1
  clear hP1 hD1 hS1
  refine va_putF (D := D) (ci := 1) (v := .ref (hFq7 0)) (ty := tyV 6) (C := RV) (T := TV) (N := 12) hx hb hts wsV_ok tyV tyV_ok nmV hown hK hP hD hS 0 rfl rfl 6 (by decide) (hts _ wd129) (fun _ h9 => h9) rfl hin rfl (tyV_ok 6 (by decide)) rfl rfl (Nat.le_of_ble_eq_true rfl) dn_V_init_74 (fun H locs hP hD hS => ?_)
  have hP : va_P D classes ((h0, .inr (1, [.ref q1, .ref q2, .ref (hEq3 0), .ref (hEq4 0), .ref (hBq5 0), .ref (hTq6 0), .ref (hFq7 0), .null, .int 0, .int 0, .int 0, .int 0])) :: w7) H := hP
  have hD : va_D A ((h0, .inr (1, [.ref q1, .ref q2, .ref (hEq3 0), .ref (hEq4 0), .ref (hBq5 0), .ref (hTq6 0), .ref (hFq7 0), .null, .int 0, .int 0, .int 0, .int 0])) :: w7) := hD
  refine lv_aload_n hx hb dn_V_init_77 rfl (lv_at hl 0 rfl) ?_
  refine va_new (ci := 6) (fs := [.null, .long 0, .null, .long 0]) (C := RC) (T := TC) (N := 4) hx hb hts wsC_ok tyC tyC_ok hown (hts _ wd108) (hts _ wd109) (hts _ wd7) hK hP hD hS hA rfl (fun j hj => by rcases (show j = 0 ∨ j = 1 ∨ j = 2 ∨ j = 3 by omega) with rfl | rfl | rfl | rfl <;> rfl) (Nat.le_of_ble_eq_true rfl) (Nat.le_of_ble_eq_true rfl) dn_V_init_78 (fun q8 H hP hD hS => ?_)
  refine lv_dup hx hb dn_V_init_81 rfl ?_
  have hP : va_P D classes (((h0, .inr (1, [.ref q1, .ref q2, .ref (hEq3 0), .ref (hEq4 0), .ref (hBq5 0), .ref (hTq6 0), .ref (hFq7 0), .null, .int 0, .int 0, .int 0, .int 0])) :: w7) ++ [(q8, .inr (6, [.null, .long 0, .null, .long 0]))]) H := hP
  have hD : va_D A (((h0, .inr (1, [.ref q1, .ref q2, .ref (hEq3 0), .ref (hEq4 0), .ref (hBq5 0), .ref (hTq6 0), .ref (hFq7 0), .null, .int 0, .int 0, .int 0, .int 0])) :: w7) ++ [(q8, .inr (6, [.null, .long 0, .null, .long 0]))]) := hD
  refine n_callN hx hb hml hown hts hK hNS hO hP hD hS hA hl (mn_C_init κ q8) ⟨wd112, wd7, ⟨by decide, by decide, by decide⟩, rfl, rfl, Nat.le_of_ble_eq_true rfl, Nat.le_of_ble_eq_true rfl⟩ rfl wd111 wd110 (Nat.le_of_ble_eq_true rfl) dn_V_init_82 (Nat.le_of_ble_eq_true rfl) (Nat.le_of_ble_eq_true rfl) (fun w1 HH locs9 hw hP1 hD1 hS1 => ?_)
  clear hP hD hS
  obtain ⟨hCq8, ehCq8, rfl⟩ := hw
  subst ehCq8
  obtain ⟨w8, hw8⟩ : ∃ w : va_W, w = w7 ++ wn 3 hCq8 (segL (g_C (kh 111 hCq8 κ) (fun _ => 0) 0 (fun _ => 0) 0)) := ⟨_, rfl⟩
  have hP : va_P D classes ((h0, .inr (1, [.ref q1, .ref q2, .ref (hEq3 0), .ref (hEq4 0), .ref (hBq5 0), .ref (hTq6 0), .ref (hFq7 0), .null, .int 0, .int 0, .int 0, .int 0])) :: w8) HH := by rw [hw8]; exact hP1
  have hD : va_D A ((h0, .inr (1, [.ref q1, .ref q2, .ref (hEq3 0), .ref (hEq4 0), .ref (hBq5 0), .ref (hTq6 0), .ref (hFq7 0), .null, .int 0, .int 0, .int 0, .int 0])) :: w8) := by rw [hw8]; exact hD1
  have hS := hS1
  clear hP1 hD1 hS1
  refine va_putF (D := D) (ci := 1) (v := .ref (hCq8 0)) (ty := tyV 7) (C := RV) (T := TV) (N := 12) hx hb hts wsV_ok tyV tyV_ok nmV hown hK hP hD hS 0 rfl rfl 7 (by decide) (hts _ wd130) (fun _ h9 => h9) rfl hin rfl (tyV_ok 7 (by decide)) rfl rfl (Nat.le_of_ble_eq_true rfl) dn_V_init_85 (fun H locs hP hD hS => ?_)
  have hP : va_P D classes ((h0, .inr (1, [.ref q1, .ref q2, .ref (hEq3 0), .ref (hEq4 0), .ref (hBq5 0), .ref (hTq6 0), .ref (hFq7 0), .ref (hCq8 0), .int 0, .int 0, .int 0, .int 0])) :: w8) H := hP
  have hD : va_D A ((h0, .inr (1, [.ref q1, .ref q2, .ref (hEq3 0), .ref (hEq4 0), .ref (hBq5 0), .ref (hTq6 0), .ref (hFq7 0), .ref (hCq8 0), .int 0, .int 0, .int 0, .int 0])) :: w8) := hD
  refine lv_aload_n hx hb dn_V_init_88 rfl (lv_at hl 0 rfl) ?_
  refine lv_iconst (v := 0) hx hb dn_V_init_89 (by decide) ?_
  refine va_put (D := D) (ci := 1) (v := .int 0) (ty := tyV 8) (C := RV) (T := TV) (N := 12) hx hb hts wsV_ok tyV tyV_ok nmV hown hK hP hD hS 0 rfl rfl 8 (by decide) (hts _ wd131) (fun _ h9 => h9) rfl (tyV_ok 8 (by decide)) rfl rfl (Nat.le_of_ble_eq_true rfl) dn_V_init_90 (fun H locs hP hD hS => ?_)
  have hP : va_P D classes ((h0, .inr (1, [.ref q1, .ref q2, .ref (hEq3 0), .ref (hEq4 0), .ref (hBq5 0), .ref (hTq6 0), .ref (hFq7 0), .ref (hCq8 0), .int 0, .int 0, .int 0, .int 0])) :: w8) H := hP
  have hD : va_D A ((h0, .inr (1, [.ref q1, .ref q2, .ref (hEq3 0), .ref (hEq4 0), .ref (hBq5 0), .ref (hTq6 0), .ref (hFq7 0), .ref (hCq8 0), .int 0, .int 0, .int 0, .int 0])) :: w8) := hD
  refine W.widen (k := 98) (n := 506) (Nat.le_of_ble_eq_true rfl) (Nat.le_of_ble_eq_true rfl) ?_
  subst hw8
  subst hw7
  subst hw6
  subst hw5
  subst hw4
  subst hw3
  subst hw2
  subst hw1
  have hfin : (fun ws : va_W => ∃ h, h 0 = h0 ∧ ws = wn 99 h (LC (kh 15 h κ) σ0)) (((h0, .inr (1, [.ref q1, .ref q2, .ref (hEq3 0), .ref (hEq4 0), .ref (hBq5 0), .ref (hTq6 0), .ref (hFq7 0), .ref (hCq8 0), .int 0, .int 0, .int 0, .int 0])) :: ([] ++ blk κ 6 4 q1 r1 ++ [(q2, .inl (κ.2.2.1, zl 4))] ++ wn 7 hEq3 (segL (g_E (kh 24 hEq3 κ) (fun _ _ => 0) (fun _ => 0))) ++ wn 7 hEq4 (segL (g_E (kh 24 hEq4 κ) (fun _ _ => 0) (fun _ => 0))) ++ wn 25 hBq5 (segL (g_B (kh 38 hBq5 κ) (fun _ _ => 0) (fun _ _ => 0) (fun _ => 0) (fun _ => 0) (fun _ _ => 0) (fun _ _ => 0) (fun _ => 0) 0)) ++ wn 3 hTq6 (segL (g_T (kh 63 hTq6 κ) (fun _ => 0) 0 (fun _ => 0))) ++ wn 45 hFq7 (segL (g_F (kh 66 hFq7 κ) (fun _ => 0) 0 (fun _ _ => 0) (fun _ => 0) 0)) ++ wn 3 hCq8 (segL (g_C (kh 111 hCq8 κ) (fun _ => 0) 0 (fun _ => 0) 0)))) : va_W) := by
    have key : ∀ κh : ctx, κh = kh 15 (hseg [(9, hseg [(1, fun _ => h0), (1, fun _ => q1), (6, r1), (1, fun _ => q2)]), (7, hEq3), (7, hEq4), (25, hBq5), (3, hTq6), (45, hFq7), (3, hCq8)]) κ → (((h0, .inr (1, [.ref q1, .ref q2, .ref (hEq3 0), .ref (hEq4 0), .ref (hBq5 0), .ref (hTq6 0), .ref (hFq7 0), .ref (hCq8 0), .int 0, .int 0, .int 0, .int 0])) :: ([] ++ blk κ 6 4 q1 r1 ++ [(q2, .inl (κ.2.2.1, zl 4))] ++ wn 7 hEq3 (segL (g_E (kh 24 hEq3 κ) (fun _ _ => 0) (fun _ => 0))) ++ wn 7 hEq4 (segL (g_E (kh 24 hEq4 κ) (fun _ _ => 0) (fun _ => 0))) ++ wn 25 hBq5 (segL (g_B (kh 38 hBq5 κ) (fun _ _ => 0) (fun _ _ => 0) (fun _ => 0) (fun _ => 0) (fun _ _ => 0) (fun _ _ => 0) (fun _ => 0) 0)) ++ wn 3 hTq6 (segL (g_T (kh 63 hTq6 κ) (fun _ => 0) 0 (fun _ => 0))) ++ wn 45 hFq7 (segL (g_F (kh 66 hFq7 κ) (fun _ => 0) 0 (fun _ _ => 0) (fun _ => 0) 0)) ++ wn 3 hCq8 (segL (g_C (kh 111 hCq8 κ) (fun _ => 0) 0 (fun _ => 0) 0)))) : va_W) = wn 99 (hseg [(9, hseg [(1, fun _ => h0), (1, fun _ => q1), (6, r1), (1, fun _ => q2)]), (7, hEq3), (7, hEq4), (25, hBq5), (3, hTq6), (45, hFq7), (3, hCq8)]) (LC κh σ0) := by
      intro κh hκ
      have k2 : κh.2 = κ.2 := by rw [hκ]; rfl
      have cE : g_E κh (fun _ _ => 0) (fun _ => 0) = g_E (kh 24 hEq3 κ) (fun _ _ => 0) (fun _ => 0) := gc_E (κ' := kh 24 hEq3 κ) k2 (fun k h4 h5 => by
        rw [hκ]
        show hseg _ (k - 15) = hEq3 (k - 24)
        rw [show k - 15 = (9 + (k - 24)) by omega, hseg_ge, hseg_lt (by omega)]) (fun _ _ => 0) (fun _ => 0)
      have cO : g_O κh (fun _ _ => 0) (fun _ => 0) = g_O (kh 31 hEq4 κ) (fun _ _ => 0) (fun _ => 0) := gc_O (κ' := kh 31 hEq4 κ) k2 (fun k h4 h5 => by
        rw [hκ]
        show hseg _ (k - 15) = hEq4 (k - 31)
        rw [show k - 15 = (9 + (7 + (k - 31))) by omega, hseg_ge, hseg_ge, hseg_lt (by omega)]) (fun _ _ => 0) (fun _ => 0)
      have cB : g_B κh (fun _ _ => 0) (fun _ _ => 0) (fun _ => 0) (fun _ => 0) (fun _ _ => 0) (fun _ _ => 0) (fun _ => 0) 0 = g_B (kh 38 hBq5 κ) (fun _ _ => 0) (fun _ _ => 0) (fun _ => 0) (fun _ => 0) (fun _ _ => 0) (fun _ _ => 0) (fun _ => 0) 0 := gc_B (κ' := kh 38 hBq5 κ) k2 (fun k h4 h5 => by
        rw [hκ]
        show hseg _ (k - 15) = hBq5 (k - 38)
        rw [show k - 15 = (9 + (7 + (7 + (k - 38)))) by omega, hseg_ge, hseg_ge, hseg_ge, hseg_lt (by omega)]) (fun _ _ => 0) (fun _ _ => 0) (fun _ => 0) (fun _ => 0) (fun _ _ => 0) (fun _ _ => 0) (fun _ => 0) 0
      have cT : g_T κh (fun _ => 0) 0 (fun _ => 0) = g_T (kh 63 hTq6 κ) (fun _ => 0) 0 (fun _ => 0) := gc_T (κ' := kh 63 hTq6 κ) k2 (fun k h4 h5 => by
        rw [hκ]
        show hseg _ (k - 15) = hTq6 (k - 63)
        rw [show k - 15 = (9 + (7 + (7 + (25 + (k - 63))))) by omega, hseg_ge, hseg_ge, hseg_ge, hseg_ge, hseg_lt (by omega)]) (fun _ => 0) 0 (fun _ => 0)
      have cF : g_F κh (fun _ => 0) 0 (fun _ _ => 0) (fun _ => 0) 0 = g_F (kh 66 hFq7 κ) (fun _ => 0) 0 (fun _ _ => 0) (fun _ => 0) 0 := gc_F (κ' := kh 66 hFq7 κ) k2 (fun k h4 h5 => by
        rw [hκ]
        show hseg _ (k - 15) = hFq7 (k - 66)
        rw [show k - 15 = (9 + (7 + (7 + (25 + (3 + (k - 66)))))) by omega, hseg_ge, hseg_ge, hseg_ge, hseg_ge, hseg_ge, hseg_lt (by omega)]) (fun _ => 0) 0 (fun _ _ => 0) (fun _ => 0) 0
      have cC : g_C κh (fun _ => 0) 0 (fun _ => 0) 0 = g_C (kh 111 hCq8 κ) (fun _ => 0) 0 (fun _ => 0) 0 := gc_C (κ' := kh 111 hCq8 κ) k2 (fun k h4 h5 => by
        rw [hκ]
        show hseg _ (k - 15) = hCq8 (k - 111)
        rw [show k - 15 = (9 + (7 + (7 + (25 + (3 + (45 + (k - 111))))))) by omega, hseg_ge, hseg_ge, hseg_ge, hseg_ge, hseg_ge, hseg_ge, hseg_lt (by omega)]) (fun _ => 0) 0 (fun _ => 0) 0
      show _ = wn (9 + (7 + (7 + (25 + (3 + (45 + (3 + 0))))))) (hseg [(9, hseg [(1, fun _ => h0), (1, fun _ => q1), (6, r1), (1, fun _ => q2)]), (7, hEq3), (7, hEq4), (25, hBq5), (3, hTq6), (45, hFq7), (3, hCq8)]) (segL [(9, segL (g_V κh (fun _ _ => 0) (fun _ => 0) 0 0 0 0)), (7, segL (g_E κh (fun _ _ => 0) (fun _ => 0))), (7, segL (g_O κh (fun _ _ => 0) (fun _ => 0))), (25, segL (g_B κh (fun _ _ => 0) (fun _ _ => 0) (fun _ => 0) (fun _ => 0) (fun _ _ => 0) (fun _ _ => 0) (fun _ => 0) 0)), (3, segL (g_T κh (fun _ => 0) 0 (fun _ => 0))), (45, segL (g_F κh (fun _ => 0) 0 (fun _ _ => 0) (fun _ => 0) 0)), (3, segL (g_C κh (fun _ => 0) 0 (fun _ => 0) 0))])
      rw [cE, cO, cB, cT, cF, cC, ← wn_cons, ← wn_cons, ← wn_cons, ← wn_cons, ← wn_cons, ← wn_cons, ← wn_cons, ← gEO]
      rw [blk_og (κ := κh) (b := 17) (r := r1) (N := 6) (fun i hi => by
        rw [hκ]
        show hseg _ (17 + i - 15) = _
        rw [show 17 + i - 15 = 2 + i by omega, hseg_lt (by omega), show 2 + i = 1 + (1 + i) by omega, hseg_ge, hseg_ge, hseg_lt hi]) κ k2.symm]
      simp only [List.append_assoc, List.cons_append, List.nil_append]
      subst hκ
      rfl
    exact ⟨hseg [(9, hseg [(1, fun _ => h0), (1, fun _ => q1), (6, r1), (1, fun _ => q2)]), (7, hEq3), (7, hEq4), (25, hBq5), (3, hTq6), (45, hFq7), (3, hCq8)], rfl, key _ rfl⟩
  exact W.vret hx hb hr (fun t ht hW => ⟨⟨_, rfl, hfin, by rw [ht]; exact hP, hD⟩, hS.F ht⟩) hS.2.2 dn_V_init_93
