def rm_V_copy : Room := { frames := 1, cells := 0, slots := 0, locals := 70 }
theorem dV_copy_0 : decode cV_copy 0 = .ok (.aload_n 0, 1) := by decide +kernel
theorem dV_copy_1 : decode cV_copy 1 = .ok (.iconst 0, 1) := by decide +kernel
theorem dV_copy_2 : decode cV_copy 2 = .ok (.aload_n 1, 1) := by decide +kernel
theorem dV_copy_3 : decode cV_copy 3 = .ok (.iconst 0, 1) := by decide +kernel
theorem dV_copy_4 : decode cV_copy 4 = .ok (.iconst 4, 1) := by decide +kernel
theorem dV_copy_5 : decode cV_copy 5 = .ok (.invokestatic 148, 3) := by decide +kernel
theorem dV_copy_8 : decode cV_copy 8 = .ok (.return_, 1) := by decide +kernel
noncomputable def V_copy (F : Nat)  (x_a : Nat → Int64) (x_b : Nat → Int64)  : Option ((Nat → Int64)) := some (va_cpy x_a x_b 0 0 4)
set_option maxHeartbeats 8000000 in
set_option maxRecDepth 100000 in
theorem met_V_copy (κ : ctx) (L : Nat → va_E) (F : Nat)  (q_a : Nat) (hq_a : q_a < NW) (x_a : Nat → Int64) (h_a : L q_a = .inl (κ.2.2.1, 4, .inr (.inl x_a))) (q_b : Nat) (hq_b : q_b < NW) (x_b : Nat → Int64) (h_b : L q_b = .inl (κ.2.2.1, 4, .inr (.inl x_b))) (ne_a : q_a ≠ q_b) {out : (Nat → Int64)} (h : V_copy F  x_a x_b  = some out) : Mt yV_copy cV_copy 2 none rm_V_copy κ [.ref (κ.1 q_a), .ref (κ.1 q_b)] L none (va_up L q_b (.inl (κ.2.2.1, 4, .inr (.inl out)))) := by
  refine Mt.of (by decide) (Nat.le_of_ble_eq_true rfl) ?_
  intro g G Fh
  unfold V_copy at h
  show J g κ 2 0 [(0, .ref (κ.1 q_a)), (1, .ref (κ.1 q_b))] [] L
  refine w_eqL (up_id h_b) ?_
  refine w_aload_n (pc := 0) (q := 0) G dV_copy_0 rfl rfl ?_
  refine w_iconst (pc := 1) (v := (0 : Int32)) G dV_copy_1 (by decide) ?_
  refine w_aload_n (pc := 2) (q := 1) G dV_copy_2 rfl rfl ?_
  refine w_iconst (pc := 3) (v := (0 : Int32)) G dV_copy_3 (by decide) ?_
  refine w_iconst (pc := 4) (v := (4 : Int32)) G dV_copy_4 (by decide) ?_
  refine w_acopy (pc := 5) (f := x_a) (f' := x_b) (L1 := (va_up L q_b (.inl (κ.2.2.1, 4, .inr (.inl (va_cpy x_a x_b 0 0 4)))))) G wd171 wd173 wd172 wd9 q_a q_b hq_a hq_b ((va_up_ne _ _ ne_a).trans h_a) (va_up_self _ _ _) (by decide) (Nat.le_of_ble_eq_true rfl) dV_copy_5 (bx_uu _ _ _ _) ?_
  obtain rfl := Option.some.inj h
  exact w_vret (pc := 8) G dV_copy_8 Fh
def rm_V_addMultiple : Room := { frames := 0, cells := 0, slots := 0, locals := 0 }
theorem dV_addMultiple_0 : decode cV_addMultiple 0 = .ok (.iconst 0, 1) := by decide +kernel
theorem dV_addMultiple_1 : decode cV_addMultiple 1 = .ok (.istore 4, 2) := by decide +kernel
theorem dV_addMultiple_3 : decode cV_addMultiple 3 = .ok (.iload 4, 2) := by decide +kernel
theorem dV_addMultiple_5 : decode cV_addMultiple 5 = .ok (.iconst 4, 1) := by decide +kernel
theorem dV_addMultiple_6 : decode cV_addMultiple 6 = .ok (.if_icmp .ge 22, 3) := by decide +kernel
theorem dV_addMultiple_9 : decode cV_addMultiple 9 = .ok (.aload_n 0, 1) := by decide +kernel
theorem dV_addMultiple_10 : decode cV_addMultiple 10 = .ok (.iload 4, 2) := by decide +kernel
theorem dV_addMultiple_12 : decode cV_addMultiple 12 = .ok (.dup2, 1) := by decide +kernel
theorem dV_addMultiple_13 : decode cV_addMultiple 13 = .ok (.laload, 1) := by decide +kernel
theorem dV_addMultiple_14 : decode cV_addMultiple 14 = .ok (.lload_n 2, 1) := by decide +kernel
theorem dV_addMultiple_15 : decode cV_addMultiple 15 = .ok (.aload_n 1, 1) := by decide +kernel
theorem dV_addMultiple_16 : decode cV_addMultiple 16 = .ok (.iload 4, 2) := by decide +kernel
theorem dV_addMultiple_18 : decode cV_addMultiple 18 = .ok (.laload, 1) := by decide +kernel
theorem dV_addMultiple_19 : decode cV_addMultiple 19 = .ok (.lmul, 1) := by decide +kernel
theorem dV_addMultiple_20 : decode cV_addMultiple 20 = .ok (.ladd, 1) := by decide +kernel
theorem dV_addMultiple_21 : decode cV_addMultiple 21 = .ok (.lastore, 1) := by decide +kernel
theorem dV_addMultiple_22 : decode cV_addMultiple 22 = .ok (.iinc 4 1, 3) := by decide +kernel
theorem dV_addMultiple_25 : decode cV_addMultiple 25 = .ok (.goto (-22), 3) := by decide +kernel
theorem dV_addMultiple_28 : decode cV_addMultiple 28 = .ok (.return_, 1) := by decide +kernel
noncomputable def lV_addMultiple_3 (F : Nat) (x_b : Nat → Int64) (v2 : Int64) : Nat → Int32 → (Nat → Int64) → Option ((Nat → Int64))
  | 0, _, _ => none
  | n + 1, v4, x_a => if (4 : Int32) ≤ v4 then some (x_a) else gd (vp_in v4 4) (gd (vp_in v4 4) (gd (vp_in v4 4) (lV_addMultiple_3 F  x_b v2 n (v4 + 1) (vp_updL x_a v4.toNatClampNeg ((x_a v4.toNatClampNeg) + (v2 * (x_b v4.toNatClampNeg)))))))
set_option maxHeartbeats 8000000 in
set_option maxRecDepth 100000 in
theorem lV_addMultiple_3_ok {g : Gm} {κ : ctx} (G : OK g κ RV cV_addMultiple 5 none rm_V_addMultiple) (L : Nat → va_E) (F : Nat) (q_a : Nat) (hq_a : q_a < NW) (q_b : Nat) (hq_b : q_b < NW) (x_b : Nat → Int64) (h_b : L q_b = .inl (κ.2.2.1, 4, .inr (.inl x_b))) (ne_b : q_b ≠ q_a) (v2 : Int64) : ∀ (n : Nat) (v4 : Int32) (x_a : Nat → Int64) (out : (Nat → Int64)), lV_addMultiple_3 F  x_b v2 n v4 x_a = some out → (J g κ 5 28 [] [] (va_up L q_a (.inl (κ.2.2.1, 4, .inr (.inl out))))) → J g κ 5 3 [(0, .ref (κ.1 q_a)), (1, .ref (κ.1 q_b)), (2, .long v2), (4, .int v4)] [] (va_up L q_a (.inl (κ.2.2.1, 4, .inr (.inl x_a)))) := by
  intro n
  induction n with
  | zero =>
    intro v4 x_a
    intro out h
    rw [lV_addMultiple_3] at h
    cases h
  | succ n ih =>
    intro v4 x_a out h K
    rw [lV_addMultiple_3] at h
    refine w_iload (pc := 3) (q := 3) G dV_addMultiple_3 rfl ?_
    refine w_iconst (pc := 5) (v := (4 : Int32)) G dV_addMultiple_5 (by decide) ?_
    refine w_icmp_ge (pc := 6) (tgt := 28) G dV_addMultiple_6 (by decide) (fun c6 => ?_) (fun c6 => ?_)
    · have h := if_t c6 h
      obtain rfl := Option.some.inj h
      refine w_sub (lv' := []) [] rfl ?_
      exact K
    · have h := if_f c6 h
      refine w_aload_n (pc := 9) (q := 0) G dV_addMultiple_9 rfl rfl ?_
      refine w_iload (pc := 10) (q := 3) G dV_addMultiple_10 rfl ?_
      refine w_dup2_11 (pc := 12) G dV_addMultiple_12 rfl rfl ?_
      obtain ⟨i13, h⟩ := gd_some h
      refine w_lald (pc := 13) (n := 4) (f := x_a) G q_a hq_a (va_up_self _ _ _) i13 dV_addMultiple_13 ?_
      refine w_lload_n (pc := 14) (q := 2) G dV_addMultiple_14 rfl rfl ?_
      refine w_aload_n (pc := 15) (q := 1) G dV_addMultiple_15 rfl rfl ?_
      refine w_iload (pc := 16) (q := 3) G dV_addMultiple_16 rfl ?_
      obtain ⟨i18, h⟩ := gd_some h
      refine w_lald (pc := 18) (n := 4) (f := x_b) G q_b hq_b ((va_up_ne _ _ ne_b).trans h_b) i18 dV_addMultiple_18 ?_
      refine w_lmul (pc := 19) G dV_addMultiple_19 ?_
      refine w_ladd (pc := 20) G dV_addMultiple_20 ?_
      obtain ⟨i21, h⟩ := gd_some h
      refine w_last (pc := 21) (n := 4) (f := x_a) (L1 := (va_up L q_a (.inl (κ.2.2.1, 4, .inr (.inl (vp_updL x_a v4.toNatClampNeg ((x_a v4.toNatClampNeg) + (v2 * (x_b v4.toNatClampNeg))))))))) G q_a hq_a (va_up_self _ _ _) i21 dV_addMultiple_21 (bx_uu _ _ _ _) ?_
      refine w_iinc (pc := 22) (q0 := 3) (v := (v4 + 1)) (lv' := [(4, .int (v4 + 1)), (0, .ref (κ.1 q_a)), (1, .ref (κ.1 q_b)), (2, .long v2)]) G dV_addMultiple_22 rfl rfl (by decide) rfl ?_
      refine w_goto (pc := 25) (tgt := 3) G dV_addMultiple_25 (by decide) ?_
      refine w_sub (lv' := [(0, .ref (κ.1 q_a)), (1, .ref (κ.1 q_b)), (2, .long v2), (4, .int (v4 + 1))]) [1, 2, 3, 0] rfl ?_
      exact ih (v4 + 1) (vp_updL x_a v4.toNatClampNeg ((x_a v4.toNatClampNeg) + (v2 * (x_b v4.toNatClampNeg)))) out h K
noncomputable def V_addMultiple (F : Nat)  (x_a : Nat → Int64) (x_b : Nat → Int64) (v2 : Int64) : Option ((Nat → Int64)) := (lV_addMultiple_3 F  x_b v2 F (0 : Int32) x_a).bind (fun o3_7 => some o3_7)
set_option maxHeartbeats 8000000 in
set_option maxRecDepth 100000 in
theorem met_V_addMultiple (κ : ctx) (L : Nat → va_E) (F : Nat) (v2 : Int64) (q_a : Nat) (hq_a : q_a < NW) (x_a : Nat → Int64) (h_a : L q_a = .inl (κ.2.2.1, 4, .inr (.inl x_a))) (q_b : Nat) (hq_b : q_b < NW) (x_b : Nat → Int64) (h_b : L q_b = .inl (κ.2.2.1, 4, .inr (.inl x_b))) (ne_b : q_b ≠ q_a) {out : (Nat → Int64)} (h : V_addMultiple F  x_a x_b v2 = some out) : Mt yV_addMultiple cV_addMultiple 5 none rm_V_addMultiple κ [.ref (κ.1 q_a), .ref (κ.1 q_b), .long v2] L none (va_up L q_a (.inl (κ.2.2.1, 4, .inr (.inl out)))) := by
  refine Mt.of (by decide) (Nat.le_of_ble_eq_true rfl) ?_
  intro g G Fh
  unfold V_addMultiple at h
  show J g κ 5 0 [(0, .ref (κ.1 q_a)), (1, .ref (κ.1 q_b)), (2, .long v2)] [] L
  refine w_eqL (up_id h_a) ?_
  refine w_iconst (pc := 0) (v := (0 : Int32)) G dV_addMultiple_0 (by decide) ?_
  refine w_istore (pc := 1) (lv' := [(4, .int (0 : Int32)), (0, .ref (κ.1 q_a)), (1, .ref (κ.1 q_b)), (2, .long v2)]) G dV_addMultiple_1 (by decide) rfl ?_
  refine w_sub (lv' := [(0, .ref (κ.1 q_a)), (1, .ref (κ.1 q_b)), (2, .long v2), (4, .int (0 : Int32))]) [1, 2, 3, 0] rfl ?_
  obtain ⟨o3_7, eo3_7, h⟩ := bd h
  refine lV_addMultiple_3_ok G L F  q_a hq_a q_b hq_b x_b h_b ne_b  v2 F (0 : Int32) x_a o3_7 eo3_7 ?_
  obtain rfl := Option.some.inj h
  exact w_vret (pc := 28) G dV_addMultiple_28 Fh
def rm_V_addMultipleA : Room := { frames := 0, cells := 0, slots := 0, locals := 0 }
noncomputable def lV_addMultipleA_3 (F : Nat) (v2 : Int64) : Nat → Int32 → (Nat → Int64) → Option ((Nat → Int64))
  | 0, _, _ => none
  | n + 1, v4, x_a => if (4 : Int32) ≤ v4 then some (x_a) else gd (vp_in v4 4) (gd (vp_in v4 4) (gd (vp_in v4 4) (lV_addMultipleA_3 F  v2 n (v4 + 1) (vp_updL x_a v4.toNatClampNeg ((x_a v4.toNatClampNeg) + (v2 * (x_a v4.toNatClampNeg)))))))
set_option maxHeartbeats 8000000 in
set_option maxRecDepth 100000 in
theorem lV_addMultipleA_3_ok {g : Gm} {κ : ctx} (G : OK g κ RV cV_addMultiple 5 none rm_V_addMultipleA) (L : Nat → va_E) (F : Nat) (q_a : Nat) (hq_a : q_a < NW) (v2 : Int64) : ∀ (n : Nat) (v4 : Int32) (x_a : Nat → Int64) (out : (Nat → Int64)), lV_addMultipleA_3 F   v2 n v4 x_a = some out → (J g κ 5 28 [] [] (va_up L q_a (.inl (κ.2.2.1, 4, .inr (.inl out))))) → J g κ 5 3 [(0, .ref (κ.1 q_a)), (1, .ref (κ.1 q_a)), (2, .long v2), (4, .int v4)] [] (va_up L q_a (.inl (κ.2.2.1, 4, .inr (.inl x_a)))) := by
  intro n
  induction n with
  | zero =>
    intro v4 x_a
    intro out h
    rw [lV_addMultipleA_3] at h
    cases h
  | succ n ih =>
    intro v4 x_a out h K
    rw [lV_addMultipleA_3] at h
    refine w_iload (pc := 3) (q := 3) G dV_addMultiple_3 rfl ?_
    refine w_iconst (pc := 5) (v := (4 : Int32)) G dV_addMultiple_5 (by decide) ?_
    refine w_icmp_ge (pc := 6) (tgt := 28) G dV_addMultiple_6 (by decide) (fun c6 => ?_) (fun c6 => ?_)
    · have h := if_t c6 h
      obtain rfl := Option.some.inj h
      refine w_sub (lv' := []) [] rfl ?_
      exact K
    · have h := if_f c6 h
      refine w_aload_n (pc := 9) (q := 0) G dV_addMultiple_9 rfl rfl ?_
      refine w_iload (pc := 10) (q := 3) G dV_addMultiple_10 rfl ?_
      refine w_dup2_11 (pc := 12) G dV_addMultiple_12 rfl rfl ?_
      obtain ⟨i13, h⟩ := gd_some h
      refine w_lald (pc := 13) (n := 4) (f := x_a) G q_a hq_a (va_up_self _ _ _) i13 dV_addMultiple_13 ?_
      refine w_lload_n (pc := 14) (q := 2) G dV_addMultiple_14 rfl rfl ?_
      refine w_aload_n (pc := 15) (q := 1) G dV_addMultiple_15 rfl rfl ?_
      refine w_iload (pc := 16) (q := 3) G dV_addMultiple_16 rfl ?_
      obtain ⟨i18, h⟩ := gd_some h
      refine w_lald (pc := 18) (n := 4) (f := x_a) G q_a hq_a (va_up_self _ _ _) i18 dV_addMultiple_18 ?_
      refine w_lmul (pc := 19) G dV_addMultiple_19 ?_
      refine w_ladd (pc := 20) G dV_addMultiple_20 ?_
      obtain ⟨i21, h⟩ := gd_some h
      refine w_last (pc := 21) (n := 4) (f := x_a) (L1 := (va_up L q_a (.inl (κ.2.2.1, 4, .inr (.inl (vp_updL x_a v4.toNatClampNeg ((x_a v4.toNatClampNeg) + (v2 * (x_a v4.toNatClampNeg))))))))) G q_a hq_a (va_up_self _ _ _) i21 dV_addMultiple_21 (bx_uu _ _ _ _) ?_
      refine w_iinc (pc := 22) (q0 := 3) (v := (v4 + 1)) (lv' := [(4, .int (v4 + 1)), (0, .ref (κ.1 q_a)), (1, .ref (κ.1 q_a)), (2, .long v2)]) G dV_addMultiple_22 rfl rfl (by decide) rfl ?_
      refine w_goto (pc := 25) (tgt := 3) G dV_addMultiple_25 (by decide) ?_
      refine w_sub (lv' := [(0, .ref (κ.1 q_a)), (1, .ref (κ.1 q_a)), (2, .long v2), (4, .int (v4 + 1))]) [1, 2, 3, 0] rfl ?_
      exact ih (v4 + 1) (vp_updL x_a v4.toNatClampNeg ((x_a v4.toNatClampNeg) + (v2 * (x_a v4.toNatClampNeg)))) out h K
noncomputable def V_addMultipleA (F : Nat)  (x_a : Nat → Int64) (v2 : Int64) : Option ((Nat → Int64)) := (lV_addMultipleA_3 F  v2 F (0 : Int32) x_a).bind (fun o3_7 => some o3_7)
set_option maxHeartbeats 8000000 in
set_option maxRecDepth 100000 in
theorem met_V_addMultipleA (κ : ctx) (L : Nat → va_E) (F : Nat) (v2 : Int64) (q_a : Nat) (hq_a : q_a < NW) (x_a : Nat → Int64) (h_a : L q_a = .inl (κ.2.2.1, 4, .inr (.inl x_a))) {out : (Nat → Int64)} (h : V_addMultipleA F  x_a v2 = some out) : Mt yV_addMultiple cV_addMultiple 5 none rm_V_addMultipleA κ [.ref (κ.1 q_a), .ref (κ.1 q_a), .long v2] L none (va_up L q_a (.inl (κ.2.2.1, 4, .inr (.inl out)))) := by
  refine Mt.of (by decide) (Nat.le_of_ble_eq_true rfl) ?_
  intro g G Fh
  unfold V_addMultipleA at h
  show J g κ 5 0 [(0, .ref (κ.1 q_a)), (1, .ref (κ.1 q_a)), (2, .long v2)] [] L
  refine w_eqL (up_id h_a) ?_
  refine w_iconst (pc := 0) (v := (0 : Int32)) G dV_addMultiple_0 (by decide) ?_
  refine w_istore (pc := 1) (lv' := [(4, .int (0 : Int32)), (0, .ref (κ.1 q_a)), (1, .ref (κ.1 q_a)), (2, .long v2)]) G dV_addMultiple_1 (by decide) rfl ?_
  refine w_sub (lv' := [(0, .ref (κ.1 q_a)), (1, .ref (κ.1 q_a)), (2, .long v2), (4, .int (0 : Int32))]) [1, 2, 3, 0] rfl ?_
  obtain ⟨o3_7, eo3_7, h⟩ := bd h
  refine lV_addMultipleA_3_ok G L F  q_a hq_a  v2 F (0 : Int32) x_a o3_7 eo3_7 ?_
  obtain rfl := Option.some.inj h
  exact w_vret (pc := 28) G dV_addMultiple_28 Fh
def rm_V_product : Room := { frames := 0, cells := 0, slots := 0, locals := 0 }
theorem dV_product_0 : decode cV_product 0 = .ok (.lconst 0, 1) := by decide +kernel
theorem dV_product_1 : decode cV_product 1 = .ok (.lstore_n 2, 1) := by decide +kernel
theorem dV_product_2 : decode cV_product 2 = .ok (.iconst 0, 1) := by decide +kernel
theorem dV_product_3 : decode cV_product 3 = .ok (.istore 4, 2) := by decide +kernel
theorem dV_product_5 : decode cV_product 5 = .ok (.iload 4, 2) := by decide +kernel
theorem dV_product_7 : decode cV_product 7 = .ok (.iconst 4, 1) := by decide +kernel
theorem dV_product_8 : decode cV_product 8 = .ok (.if_icmp .ge 21, 3) := by decide +kernel
theorem dV_product_11 : decode cV_product 11 = .ok (.lload_n 2, 1) := by decide +kernel
theorem dV_product_12 : decode cV_product 12 = .ok (.aload_n 0, 1) := by decide +kernel
theorem dV_product_13 : decode cV_product 13 = .ok (.iload 4, 2) := by decide +kernel
theorem dV_product_15 : decode cV_product 15 = .ok (.laload, 1) := by decide +kernel
theorem dV_product_16 : decode cV_product 16 = .ok (.aload_n 1, 1) := by decide +kernel
theorem dV_product_17 : decode cV_product 17 = .ok (.iload 4, 2) := by decide +kernel
theorem dV_product_19 : decode cV_product 19 = .ok (.laload, 1) := by decide +kernel
theorem dV_product_20 : decode cV_product 20 = .ok (.lmul, 1) := by decide +kernel
theorem dV_product_21 : decode cV_product 21 = .ok (.ladd, 1) := by decide +kernel
theorem dV_product_22 : decode cV_product 22 = .ok (.lstore_n 2, 1) := by decide +kernel
theorem dV_product_23 : decode cV_product 23 = .ok (.iinc 4 1, 3) := by decide +kernel
theorem dV_product_26 : decode cV_product 26 = .ok (.goto (-21), 3) := by decide +kernel
theorem dV_product_29 : decode cV_product 29 = .ok (.lload_n 2, 1) := by decide +kernel
theorem dV_product_30 : decode cV_product 30 = .ok (.lreturn, 1) := by decide +kernel
noncomputable def lV_product_5 (F : Nat) (x_a : Nat → Int64) (x_b : Nat → Int64) : Nat → Int64 → Int32 → Option (Int64)
  | 0, _, _ => none
  | n + 1, v2, v4 => if (4 : Int32) ≤ v4 then some (v2) else gd (vp_in v4 4) (gd (vp_in v4 4) (lV_product_5 F  x_a x_b n (v2 + ((x_a v4.toNatClampNeg) * (x_b v4.toNatClampNeg))) (v4 + 1)))
set_option maxHeartbeats 8000000 in
set_option maxRecDepth 100000 in
theorem lV_product_5_ok {g : Gm} {κ : ctx} (G : OK g κ RV cV_product 5 (some .long) rm_V_product) (L : Nat → va_E) (F : Nat) (q_a : Nat) (hq_a : q_a < NW) (x_a : Nat → Int64) (h_a : L q_a = .inl (κ.2.2.1, 4, .inr (.inl x_a))) (q_b : Nat) (hq_b : q_b < NW) (x_b : Nat → Int64) (h_b : L q_b = .inl (κ.2.2.1, 4, .inr (.inl x_b))) : ∀ (n : Nat) (v2 : Int64) (v4 : Int32) (out : Int64), lV_product_5 F  x_a x_b  n v2 v4 = some out → (J g κ 5 29 [(2, .long out)] [] L) → J g κ 5 5 [(0, .ref (κ.1 q_a)), (1, .ref (κ.1 q_b)), (2, .long v2), (4, .int v4)] [] L := by
  intro n
  induction n with
  | zero =>
    intro v2 v4
    intro out h
    rw [lV_product_5] at h
    cases h
  | succ n ih =>
    intro v2 v4 out h K
    rw [lV_product_5] at h
    refine w_iload (pc := 5) (q := 3) G dV_product_5 rfl ?_
    refine w_iconst (pc := 7) (v := (4 : Int32)) G dV_product_7 (by decide) ?_
    refine w_icmp_ge (pc := 8) (tgt := 29) G dV_product_8 (by decide) (fun c8 => ?_) (fun c8 => ?_)
    · have h := if_t c8 h
      obtain rfl := Option.some.inj h
      refine w_sub (lv' := [(2, .long v2)]) [2] rfl ?_
      exact K
    · have h := if_f c8 h
      refine w_lload_n (pc := 11) (q := 2) G dV_product_11 rfl rfl ?_
      refine w_aload_n (pc := 12) (q := 0) G dV_product_12 rfl rfl ?_
      refine w_iload (pc := 13) (q := 3) G dV_product_13 rfl ?_
      obtain ⟨i15, h⟩ := gd_some h
      refine w_lald (pc := 15) (n := 4) (f := x_a) G q_a hq_a h_a i15 dV_product_15 ?_
      refine w_aload_n (pc := 16) (q := 1) G dV_product_16 rfl rfl ?_
      refine w_iload (pc := 17) (q := 3) G dV_product_17 rfl ?_
      obtain ⟨i19, h⟩ := gd_some h
      refine w_lald (pc := 19) (n := 4) (f := x_b) G q_b hq_b h_b i19 dV_product_19 ?_
      refine w_lmul (pc := 20) G dV_product_20 ?_
      refine w_ladd (pc := 21) G dV_product_21 ?_
      refine w_lstore_n (pc := 22) (lv' := [(2, .long (v2 + ((x_a v4.toNatClampNeg) * (x_b v4.toNatClampNeg)))), (0, .ref (κ.1 q_a)), (1, .ref (κ.1 q_b)), (4, .int v4)]) G dV_product_22 rfl (by decide) rfl ?_
      refine w_iinc (pc := 23) (q0 := 3) (v := (v4 + 1)) (lv' := [(4, .int (v4 + 1)), (2, .long (v2 + ((x_a v4.toNatClampNeg) * (x_b v4.toNatClampNeg)))), (0, .ref (κ.1 q_a)), (1, .ref (κ.1 q_b))]) G dV_product_23 rfl rfl (by decide) rfl ?_
      refine w_goto (pc := 26) (tgt := 5) G dV_product_26 (by decide) ?_
      refine w_sub (lv' := [(0, .ref (κ.1 q_a)), (1, .ref (κ.1 q_b)), (2, .long (v2 + ((x_a v4.toNatClampNeg) * (x_b v4.toNatClampNeg)))), (4, .int (v4 + 1))]) [2, 3, 1, 0] rfl ?_
      exact ih (v2 + ((x_a v4.toNatClampNeg) * (x_b v4.toNatClampNeg))) (v4 + 1) out h K
noncomputable def V_product (F : Nat)  (x_a : Nat → Int64) (x_b : Nat → Int64)  : Option (Int64) := (lV_product_5 F  x_a x_b F (0 : Int64) (0 : Int32)).bind (fun o5_7 => some o5_7)
set_option maxHeartbeats 8000000 in
set_option maxRecDepth 100000 in
theorem met_V_product (κ : ctx) (L : Nat → va_E) (F : Nat)  (q_a : Nat) (hq_a : q_a < NW) (x_a : Nat → Int64) (h_a : L q_a = .inl (κ.2.2.1, 4, .inr (.inl x_a))) (q_b : Nat) (hq_b : q_b < NW) (x_b : Nat → Int64) (h_b : L q_b = .inl (κ.2.2.1, 4, .inr (.inl x_b))) {out : Int64} (h : V_product F  x_a x_b  = some out) : Mt yV_product cV_product 5 (some .long) rm_V_product κ [.ref (κ.1 q_a), .ref (κ.1 q_b)] L (some (.long out)) L := by
  refine Mt.of (by decide) (Nat.le_of_ble_eq_true rfl) ?_
  intro g G Fh
  unfold V_product at h
  show J g κ 5 0 [(0, .ref (κ.1 q_a)), (1, .ref (κ.1 q_b))] [] L
  refine w_lconst (pc := 0) (v := (0 : Int64)) G dV_product_0 (by decide) ?_
  refine w_lstore_n (pc := 1) (lv' := [(2, .long (0 : Int64)), (0, .ref (κ.1 q_a)), (1, .ref (κ.1 q_b))]) G dV_product_1 rfl (by decide) rfl ?_
  refine w_iconst (pc := 2) (v := (0 : Int32)) G dV_product_2 (by decide) ?_
  refine w_istore (pc := 3) (lv' := [(4, .int (0 : Int32)), (2, .long (0 : Int64)), (0, .ref (κ.1 q_a)), (1, .ref (κ.1 q_b))]) G dV_product_3 (by decide) rfl ?_
  refine w_sub (lv' := [(0, .ref (κ.1 q_a)), (1, .ref (κ.1 q_b)), (2, .long (0 : Int64)), (4, .int (0 : Int32))]) [2, 3, 1, 0] rfl ?_
  obtain ⟨o5_7, eo5_7, h⟩ := bd h
  refine lV_product_5_ok G L F  q_a hq_a x_a h_a q_b hq_b x_b h_b  F (0 : Int64) (0 : Int32) o5_7 eo5_7 ?_
  refine w_lload_n (pc := 29) (q := 0) G dV_product_29 rfl rfl ?_
  obtain rfl := Option.some.inj h
  exact w_lret (pc := 30) G dV_product_30 Fh
def rm_V_comesBefore : Room := { frames := 0, cells := 0, slots := 0, locals := 0 }
theorem dV_comesBefore_0 : decode cV_comesBefore 0 = .ok (.iconst 0, 1) := by decide +kernel
theorem dV_comesBefore_1 : decode cV_comesBefore 1 = .ok (.istore_n 2, 1) := by decide +kernel
theorem dV_comesBefore_2 : decode cV_comesBefore 2 = .ok (.iload_n 2, 1) := by decide +kernel
theorem dV_comesBefore_3 : decode cV_comesBefore 3 = .ok (.iconst 4, 1) := by decide +kernel
theorem dV_comesBefore_4 : decode cV_comesBefore 4 = .ok (.if_icmp .ge 35, 3) := by decide +kernel
theorem dV_comesBefore_7 : decode cV_comesBefore 7 = .ok (.aload_n 0, 1) := by decide +kernel
theorem dV_comesBefore_8 : decode cV_comesBefore 8 = .ok (.iload_n 2, 1) := by decide +kernel
theorem dV_comesBefore_9 : decode cV_comesBefore 9 = .ok (.laload, 1) := by decide +kernel
theorem dV_comesBefore_10 : decode cV_comesBefore 10 = .ok (.aload_n 1, 1) := by decide +kernel
theorem dV_comesBefore_11 : decode cV_comesBefore 11 = .ok (.iload_n 2, 1) := by decide +kernel
theorem dV_comesBefore_12 : decode cV_comesBefore 12 = .ok (.laload, 1) := by decide +kernel
theorem dV_comesBefore_13 : decode cV_comesBefore 13 = .ok (.lcmp, 1) := by decide +kernel
theorem dV_comesBefore_14 : decode cV_comesBefore 14 = .ok (.ifCond .eq 19, 3) := by decide +kernel
theorem dV_comesBefore_17 : decode cV_comesBefore 17 = .ok (.aload_n 0, 1) := by decide +kernel
theorem dV_comesBefore_18 : decode cV_comesBefore 18 = .ok (.iload_n 2, 1) := by decide +kernel
theorem dV_comesBefore_19 : decode cV_comesBefore 19 = .ok (.laload, 1) := by decide +kernel
theorem dV_comesBefore_20 : decode cV_comesBefore 20 = .ok (.aload_n 1, 1) := by decide +kernel
theorem dV_comesBefore_21 : decode cV_comesBefore 21 = .ok (.iload_n 2, 1) := by decide +kernel
theorem dV_comesBefore_22 : decode cV_comesBefore 22 = .ok (.laload, 1) := by decide +kernel
theorem dV_comesBefore_23 : decode cV_comesBefore 23 = .ok (.lcmp, 1) := by decide +kernel
theorem dV_comesBefore_24 : decode cV_comesBefore 24 = .ok (.ifCond .ge 7, 3) := by decide +kernel
theorem dV_comesBefore_27 : decode cV_comesBefore 27 = .ok (.iconst 1, 1) := by decide +kernel
theorem dV_comesBefore_28 : decode cV_comesBefore 28 = .ok (.goto 4, 3) := by decide +kernel
theorem dV_comesBefore_31 : decode cV_comesBefore 31 = .ok (.iconst 0, 1) := by decide +kernel
theorem dV_comesBefore_32 : decode cV_comesBefore 32 = .ok (.ireturn, 1) := by decide +kernel
theorem dV_comesBefore_33 : decode cV_comesBefore 33 = .ok (.iinc 2 1, 3) := by decide +kernel
theorem dV_comesBefore_36 : decode cV_comesBefore 36 = .ok (.goto (-34), 3) := by decide +kernel
theorem dV_comesBefore_39 : decode cV_comesBefore 39 = .ok (.iconst 0, 1) := by decide +kernel
theorem dV_comesBefore_40 : decode cV_comesBefore 40 = .ok (.ireturn, 1) := by decide +kernel
noncomputable def lV_comesBefore_2 (F : Nat) (x_a : Nat → Int64) (x_b : Nat → Int64) : Nat → Int32 → Option ((Unit) ⊕ (Int32))
  | 0, _ => none
  | n + 1, v2 => if (4 : Int32) ≤ v2 then some (.inl ()) else gd (vp_in v2 4) (gd (vp_in v2 4) (if (x_a v2.toNatClampNeg) = (x_b v2.toNatClampNeg) then lV_comesBefore_2 F  x_a x_b n (v2 + 1) else gd (vp_in v2 4) (gd (vp_in v2 4) (if (x_b v2.toNatClampNeg) ≤ (x_a v2.toNatClampNeg) then some (.inr (0 : Int32)) else some (.inr (1 : Int32))))))
set_option maxHeartbeats 8000000 in
set_option maxRecDepth 100000 in
theorem lV_comesBefore_2_ok {g : Gm} {κ : ctx} (G : OK g κ RV cV_comesBefore 3 (some .boolean) rm_V_comesBefore) (L : Nat → va_E) (F : Nat) (q_a : Nat) (hq_a : q_a < NW) (x_a : Nat → Int64) (h_a : L q_a = .inl (κ.2.2.1, 4, .inr (.inl x_a))) (q_b : Nat) (hq_b : q_b < NW) (x_b : Nat → Int64) (h_b : L q_b = .inl (κ.2.2.1, 4, .inr (.inl x_b))) : ∀ (n : Nat) (v2 : Int32) (out : (Unit) ⊕ (Int32)), lV_comesBefore_2 F  x_a x_b  n v2 = some out → (∀ e, out = .inl e → (J g κ 3 39 [] [] L)) → (∀ r, out = .inr r → Fn g κ (some (.int r)) L) → J g κ 3 2 [(0, .ref (κ.1 q_a)), (1, .ref (κ.1 q_b)), (2, .int v2)] [] L := by
  intro n
  induction n with
  | zero =>
    intro v2
    intro out h
    rw [lV_comesBefore_2] at h
    cases h
  | succ n ih =>
    intro v2 out h K K2
    rw [lV_comesBefore_2] at h
    refine w_iload_n (pc := 2) (q := 2) G dV_comesBefore_2 rfl rfl ?_
    refine w_iconst (pc := 3) (v := (4 : Int32)) G dV_comesBefore_3 (by decide) ?_
    refine w_icmp_ge (pc := 4) (tgt := 39) G dV_comesBefore_4 (by decide) (fun c4 => ?_) (fun c4 => ?_)
    · have h := if_t c4 h
      obtain rfl := Option.some.inj h
      refine w_sub (lv' := []) [] rfl ?_
      have K9 := K _ rfl
      exact K9
    · have h := if_f c4 h
      refine w_aload_n (pc := 7) (q := 0) G dV_comesBefore_7 rfl rfl ?_
      refine w_iload_n (pc := 8) (q := 2) G dV_comesBefore_8 rfl rfl ?_
      obtain ⟨i9, h⟩ := gd_some h
      refine w_lald (pc := 9) (n := 4) (f := x_a) G q_a hq_a h_a i9 dV_comesBefore_9 ?_
      refine w_aload_n (pc := 10) (q := 1) G dV_comesBefore_10 rfl rfl ?_
      refine w_iload_n (pc := 11) (q := 2) G dV_comesBefore_11 rfl rfl ?_
      obtain ⟨i12, h⟩ := gd_some h
      refine w_lald (pc := 12) (n := 4) (f := x_b) G q_b hq_b h_b i12 dV_comesBefore_12 ?_
      refine w_lc_eq (pc := 13) (tgt := 33) G dV_comesBefore_13 dV_comesBefore_14 (by decide) (fun c13 => ?_) (fun c13 => ?_)
      · have h := if_t c13 h
        refine w_iinc (pc := 33) (q0 := 2) (v := (v2 + 1)) (lv' := [(2, .int (v2 + 1)), (0, .ref (κ.1 q_a)), (1, .ref (κ.1 q_b))]) G dV_comesBefore_33 rfl rfl (by decide) rfl ?_
        refine w_goto (pc := 36) (tgt := 2) G dV_comesBefore_36 (by decide) ?_
        refine w_sub (lv' := [(0, .ref (κ.1 q_a)), (1, .ref (κ.1 q_b)), (2, .int (v2 + 1))]) [1, 2, 0] rfl ?_
        exact ih (v2 + 1) out h K K2
      · have h := if_f c13 h
        refine w_aload_n (pc := 17) (q := 0) G dV_comesBefore_17 rfl rfl ?_
        refine w_iload_n (pc := 18) (q := 2) G dV_comesBefore_18 rfl rfl ?_
        obtain ⟨i19, h⟩ := gd_some h
        refine w_lald (pc := 19) (n := 4) (f := x_a) G q_a hq_a h_a i19 dV_comesBefore_19 ?_
        refine w_aload_n (pc := 20) (q := 1) G dV_comesBefore_20 rfl rfl ?_
        refine w_iload_n (pc := 21) (q := 2) G dV_comesBefore_21 rfl rfl ?_
        obtain ⟨i22, h⟩ := gd_some h
        refine w_lald (pc := 22) (n := 4) (f := x_b) G q_b hq_b h_b i22 dV_comesBefore_22 ?_
        refine w_lc_ge (pc := 23) (tgt := 31) G dV_comesBefore_23 dV_comesBefore_24 (by decide) (fun c23 => ?_) (fun c23 => ?_)
        · have h := if_t c23 h
          refine w_iconst (pc := 31) (v := (0 : Int32)) G dV_comesBefore_31 (by decide) ?_
          obtain rfl := Option.some.inj h
          have K9 := K2 _ rfl
          exact w_zret (pc := 32) G rfl dV_comesBefore_32 K9
        · have h := if_f c23 h
          refine w_iconst (pc := 27) (v := (1 : Int32)) G dV_comesBefore_27 (by decide) ?_
          refine w_goto (pc := 28) (tgt := 32) G dV_comesBefore_28 (by decide) ?_
          obtain rfl := Option.some.inj h
          have K9 := K2 _ rfl
          exact w_zret (pc := 32) G rfl dV_comesBefore_32 K9
noncomputable def V_comesBefore (F : Nat)  (x_a : Nat → Int64) (x_b : Nat → Int64)  : Option (Int32) := (lV_comesBefore_2 F  x_a x_b F (0 : Int32)).bind (fun o2_15 => match o2_15 with | .inl o2_15 => some (0 : Int32) | .inr o2_15 => some o2_15)
set_option maxHeartbeats 8000000 in
set_option maxRecDepth 100000 in
theorem met_V_comesBefore (κ : ctx) (L : Nat → va_E) (F : Nat)  (q_a : Nat) (hq_a : q_a < NW) (x_a : Nat → Int64) (h_a : L q_a = .inl (κ.2.2.1, 4, .inr (.inl x_a))) (q_b : Nat) (hq_b : q_b < NW) (x_b : Nat → Int64) (h_b : L q_b = .inl (κ.2.2.1, 4, .inr (.inl x_b))) {out : Int32} (h : V_comesBefore F  x_a x_b  = some out) : Mt yV_comesBefore cV_comesBefore 3 (some .boolean) rm_V_comesBefore κ [.ref (κ.1 q_a), .ref (κ.1 q_b)] L (some (.int out)) L := by
  refine Mt.of (by decide) (Nat.le_of_ble_eq_true rfl) ?_
  intro g G Fh
  unfold V_comesBefore at h
  show J g κ 3 0 [(0, .ref (κ.1 q_a)), (1, .ref (κ.1 q_b))] [] L
  refine w_iconst (pc := 0) (v := (0 : Int32)) G dV_comesBefore_0 (by decide) ?_
  refine w_istore_n (pc := 1) (lv' := [(2, .int (0 : Int32)), (0, .ref (κ.1 q_a)), (1, .ref (κ.1 q_b))]) G dV_comesBefore_1 rfl (by decide) rfl ?_
  refine w_sub (lv' := [(0, .ref (κ.1 q_a)), (1, .ref (κ.1 q_b)), (2, .int (0 : Int32))]) [1, 2, 0] rfl ?_
  obtain ⟨o2_15, eo2_15, h⟩ := bd h
  rcases o2_15 with o2_15 | o2_15
  · refine lV_comesBefore_2_ok G L F  q_a hq_a x_a h_a q_b hq_b x_b h_b  F (0 : Int32) (.inl o2_15) eo2_15 (fun e he => ?_) (fun r he => by cases he)
    cases he
    dsimp only at h
    refine w_iconst (pc := 39) (v := (0 : Int32)) G dV_comesBefore_39 (by decide) ?_
    obtain rfl := Option.some.inj h
    exact w_zret (pc := 40) G rfl dV_comesBefore_40 Fh
  · refine lV_comesBefore_2_ok G L F  q_a hq_a x_a h_a q_b hq_b x_b h_b  F (0 : Int32) (.inr o2_15) eo2_15 (fun e he => by cases he) (fun r he => ?_)
    cases he
    dsimp only at h
    obtain rfl := Option.some.inj h
    exact Fh
def rm_V_commonDivisor : Room := { frames := 1, cells := 0, slots := 0, locals := 70 }
theorem dV_commonDivisor_0 : decode cV_commonDivisor 0 = .ok (.lload_n 0, 1) := by decide +kernel
theorem dV_commonDivisor_1 : decode cV_commonDivisor 1 = .ok (.invokestatic 154, 3) := by decide +kernel
theorem dV_commonDivisor_4 : decode cV_commonDivisor 4 = .ok (.lstore 4, 2) := by decide +kernel
theorem dV_commonDivisor_6 : decode cV_commonDivisor 6 = .ok (.lload_n 2, 1) := by decide +kernel
theorem dV_commonDivisor_7 : decode cV_commonDivisor 7 = .ok (.invokestatic 154, 3) := by decide +kernel
theorem dV_commonDivisor_10 : decode cV_commonDivisor 10 = .ok (.lstore 6, 2) := by decide +kernel
theorem dV_commonDivisor_12 : decode cV_commonDivisor 12 = .ok (.iconst 0, 1) := by decide +kernel
theorem dV_commonDivisor_13 : decode cV_commonDivisor 13 = .ok (.istore 8, 2) := by decide +kernel
theorem dV_commonDivisor_15 : decode cV_commonDivisor 15 = .ok (.iload 8, 2) := by decide +kernel
theorem dV_commonDivisor_17 : decode cV_commonDivisor 17 = .ok (.ldc 160, 2) := by decide +kernel
theorem dV_commonDivisor_19 : decode cV_commonDivisor 19 = .ok (.if_icmp .ge 31, 3) := by decide +kernel
theorem dV_commonDivisor_22 : decode cV_commonDivisor 22 = .ok (.lload 6, 2) := by decide +kernel
theorem dV_commonDivisor_24 : decode cV_commonDivisor 24 = .ok (.lconst 0, 1) := by decide +kernel
theorem dV_commonDivisor_25 : decode cV_commonDivisor 25 = .ok (.lcmp, 1) := by decide +kernel
theorem dV_commonDivisor_26 : decode cV_commonDivisor 26 = .ok (.ifCond .eq 24, 3) := by decide +kernel
theorem dV_commonDivisor_29 : decode cV_commonDivisor 29 = .ok (.lload 4, 2) := by decide +kernel
theorem dV_commonDivisor_31 : decode cV_commonDivisor 31 = .ok (.lload 6, 2) := by decide +kernel
theorem dV_commonDivisor_33 : decode cV_commonDivisor 33 = .ok (.lrem, 1) := by decide +kernel
theorem dV_commonDivisor_34 : decode cV_commonDivisor 34 = .ok (.lstore 9, 2) := by decide +kernel
theorem dV_commonDivisor_36 : decode cV_commonDivisor 36 = .ok (.lload 6, 2) := by decide +kernel
theorem dV_commonDivisor_38 : decode cV_commonDivisor 38 = .ok (.lstore 4, 2) := by decide +kernel
theorem dV_commonDivisor_40 : decode cV_commonDivisor 40 = .ok (.lload 9, 2) := by decide +kernel
theorem dV_commonDivisor_42 : decode cV_commonDivisor 42 = .ok (.lstore 6, 2) := by decide +kernel
theorem dV_commonDivisor_44 : decode cV_commonDivisor 44 = .ok (.iinc 8 1, 3) := by decide +kernel
theorem dV_commonDivisor_47 : decode cV_commonDivisor 47 = .ok (.goto (-32), 3) := by decide +kernel
theorem dV_commonDivisor_50 : decode cV_commonDivisor 50 = .ok (.lload 4, 2) := by decide +kernel
theorem dV_commonDivisor_52 : decode cV_commonDivisor 52 = .ok (.lreturn, 1) := by decide +kernel
noncomputable def lV_commonDivisor_15 (F : Nat) : Nat → Int64 → Int64 → Int32 → Option (Int64)
  | 0, _, _, _ => none
  | n + 1, v4, v6, v8 => if (1000000 : Int32) ≤ v8 then some (v4) else if v6 = (0 : Int64) then some (v4) else gd (¬ v6 = 0) (lV_commonDivisor_15 F   n v6 (v4 - v4 / v6 * v6) (v8 + 1))
set_option maxHeartbeats 8000000 in
set_option maxRecDepth 100000 in
theorem lV_commonDivisor_15_ok {g : Gm} {κ : ctx} (G : OK g κ RV cV_commonDivisor 11 (some .long) rm_V_commonDivisor) (L : Nat → va_E) (F : Nat) : ∀ (n : Nat) (v4 : Int64) (v6 : Int64) (v8 : Int32) (out : Int64), lV_commonDivisor_15 F    n v4 v6 v8 = some out → (J g κ 11 50 [(4, .long out)] [] L) → J g κ 11 15 [(4, .long v4), (6, .long v6), (8, .int v8)] [] L := by
  intro n
  induction n with
  | zero =>
    intro v4 v6 v8
    intro out h
    rw [lV_commonDivisor_15] at h
    cases h
  | succ n ih =>
    intro v4 v6 v8 out h K
    rw [lV_commonDivisor_15] at h
    refine w_iload (pc := 15) (q := 2) G dV_commonDivisor_15 rfl ?_
    refine w_ldc (pc := 17) (v := (1000000 : Int32)) G wd301 dV_commonDivisor_17 ?_
    refine w_icmp_ge (pc := 19) (tgt := 50) G dV_commonDivisor_19 (by decide) (fun c19 => ?_) (fun c19 => ?_)
    · have h := if_t c19 h
      obtain rfl := Option.some.inj h
      refine w_sub (lv' := [(4, .long v4)]) [0] rfl ?_
      exact K
    · have h := if_f c19 h
      refine w_lload (pc := 22) (q := 1) G dV_commonDivisor_22 rfl ?_
      refine w_lconst (pc := 24) (v := (0 : Int64)) G dV_commonDivisor_24 (by decide) ?_
      refine w_lc_eq (pc := 25) (tgt := 50) G dV_commonDivisor_25 dV_commonDivisor_26 (by decide) (fun c25 => ?_) (fun c25 => ?_)
      · have h := if_t c25 h
        obtain rfl := Option.some.inj h
        refine w_sub (lv' := [(4, .long v4)]) [0] rfl ?_
        exact K
      · have h := if_f c25 h
        refine w_lload (pc := 29) (q := 0) G dV_commonDivisor_29 rfl ?_
        refine w_lload (pc := 31) (q := 1) G dV_commonDivisor_31 rfl ?_
        obtain ⟨z33, h⟩ := gd_some h
        refine w_lrem (pc := 33) G dV_commonDivisor_33 z33 ?_
        refine w_lstore (pc := 34) (lv' := [(9, .long (v4 - v4 / v6 * v6)), (4, .long v4), (6, .long v6), (8, .int v8)]) G dV_commonDivisor_34 (by decide) rfl ?_
        refine w_lload (pc := 36) (q := 2) G dV_commonDivisor_36 rfl ?_
        refine w_lstore (pc := 38) (lv' := [(4, .long v6), (9, .long (v4 - v4 / v6 * v6)), (6, .long v6), (8, .int v8)]) G dV_commonDivisor_38 (by decide) rfl ?_
        refine w_lload (pc := 40) (q := 1) G dV_commonDivisor_40 rfl ?_
        refine w_lstore (pc := 42) (lv' := [(6, .long (v4 - v4 / v6 * v6)), (4, .long v6), (9, .long (v4 - v4 / v6 * v6)), (8, .int v8)]) G dV_commonDivisor_42 (by decide) rfl ?_
        refine w_iinc (pc := 44) (q0 := 3) (v := (v8 + 1)) (lv' := [(8, .int (v8 + 1)), (6, .long (v4 - v4 / v6 * v6)), (4, .long v6), (9, .long (v4 - v4 / v6 * v6))]) G dV_commonDivisor_44 rfl rfl (by decide) rfl ?_
        refine w_goto (pc := 47) (tgt := 15) G dV_commonDivisor_47 (by decide) ?_
        refine w_sub (lv' := [(4, .long v6), (6, .long (v4 - v4 / v6 * v6)), (8, .int (v8 + 1))]) [2, 1, 0] rfl ?_
        exact ih v6 (v4 - v4 / v6 * v6) (v8 + 1) out h K
noncomputable def V_commonDivisor (F : Nat)   (v0 : Int64) (v2 : Int64) : Option (Int64) := (lV_commonDivisor_15 F   F (if 0 < v0 then v0 else -v0) (if 0 < v2 then v2 else -v2) (0 : Int32)).bind (fun o15_11 => some o15_11)
set_option maxHeartbeats 8000000 in
set_option maxRecDepth 100000 in
theorem met_V_commonDivisor (κ : ctx) (L : Nat → va_E) (F : Nat) (v0 : Int64) (v2 : Int64) {out : Int64} (h : V_commonDivisor F   v0 v2 = some out) : Mt yV_commonDivisor cV_commonDivisor 11 (some .long) rm_V_commonDivisor κ [.long v0, .long v2] L (some (.long out)) L := by
  refine Mt.of (by decide) (Nat.le_of_ble_eq_true rfl) ?_
  intro g G Fh
  unfold V_commonDivisor at h
  show J g κ 11 0 [(0, .long v0), (2, .long v2)] [] L
  refine w_lload_n (pc := 0) (q := 0) G dV_commonDivisor_0 rfl rfl ?_
  refine w_abs (pc := 1) G wd300 wd266 wd10 wd267 (by decide) (Nat.le_of_ble_eq_true rfl) dV_commonDivisor_1 ?_
  refine w_lstore (pc := 4) (lv' := [(4, .long (if 0 < v0 then v0 else -v0)), (0, .long v0), (2, .long v2)]) G dV_commonDivisor_4 (by decide) rfl ?_
  refine w_lload_n (pc := 6) (q := 2) G dV_commonDivisor_6 rfl rfl ?_
  refine w_abs (pc := 7) G wd300 wd266 wd10 wd267 (by decide) (Nat.le_of_ble_eq_true rfl) dV_commonDivisor_7 ?_
  refine w_lstore (pc := 10) (lv' := [(6, .long (if 0 < v2 then v2 else -v2)), (4, .long (if 0 < v0 then v0 else -v0)), (0, .long v0), (2, .long v2)]) G dV_commonDivisor_10 (by decide) rfl ?_
  refine w_iconst (pc := 12) (v := (0 : Int32)) G dV_commonDivisor_12 (by decide) ?_
  refine w_istore (pc := 13) (lv' := [(8, .int (0 : Int32)), (6, .long (if 0 < v2 then v2 else -v2)), (4, .long (if 0 < v0 then v0 else -v0)), (0, .long v0), (2, .long v2)]) G dV_commonDivisor_13 (by decide) rfl ?_
  refine w_sub (lv' := [(4, .long (if 0 < v0 then v0 else -v0)), (6, .long (if 0 < v2 then v2 else -v2)), (8, .int (0 : Int32))]) [2, 1, 0] rfl ?_
  obtain ⟨o15_11, eo15_11, h⟩ := bd h
  refine lV_commonDivisor_15_ok G L F   F (if 0 < v0 then v0 else -v0) (if 0 < v2 then v2 else -v2) (0 : Int32) o15_11 eo15_11 ?_
  refine w_lload (pc := 50) (q := 0) G dV_commonDivisor_50 rfl ?_
  obtain rfl := Option.some.inj h
  exact w_lret (pc := 52) G dV_commonDivisor_52 Fh
def rm_JM_floorDiv : Room := { frames := 0, cells := 0, slots := 0, locals := 0 }
theorem dJM_floorDiv_0 : decode cJM_floorDiv 0 = .ok (.lload_n 0, 1) := by decide +kernel
theorem dJM_floorDiv_1 : decode cJM_floorDiv 1 = .ok (.lload_n 2, 1) := by decide +kernel
theorem dJM_floorDiv_2 : decode cJM_floorDiv 2 = .ok (.ldiv, 1) := by decide +kernel
theorem dJM_floorDiv_3 : decode cJM_floorDiv 3 = .ok (.lstore 4, 2) := by decide +kernel
theorem dJM_floorDiv_5 : decode cJM_floorDiv 5 = .ok (.lload_n 0, 1) := by decide +kernel
theorem dJM_floorDiv_6 : decode cJM_floorDiv 6 = .ok (.lload_n 2, 1) := by decide +kernel
theorem dJM_floorDiv_7 : decode cJM_floorDiv 7 = .ok (.lxor, 1) := by decide +kernel
theorem dJM_floorDiv_8 : decode cJM_floorDiv 8 = .ok (.lconst 0, 1) := by decide +kernel
theorem dJM_floorDiv_9 : decode cJM_floorDiv 9 = .ok (.lcmp, 1) := by decide +kernel
theorem dJM_floorDiv_10 : decode cJM_floorDiv 10 = .ok (.ifCond .ge 17, 3) := by decide +kernel
theorem dJM_floorDiv_13 : decode cJM_floorDiv 13 = .ok (.lload 4, 2) := by decide +kernel
theorem dJM_floorDiv_15 : decode cJM_floorDiv 15 = .ok (.lload_n 2, 1) := by decide +kernel
theorem dJM_floorDiv_16 : decode cJM_floorDiv 16 = .ok (.lmul, 1) := by decide +kernel
theorem dJM_floorDiv_17 : decode cJM_floorDiv 17 = .ok (.lload_n 0, 1) := by decide +kernel
theorem dJM_floorDiv_18 : decode cJM_floorDiv 18 = .ok (.lcmp, 1) := by decide +kernel
theorem dJM_floorDiv_19 : decode cJM_floorDiv 19 = .ok (.ifCond .eq 8, 3) := by decide +kernel
theorem dJM_floorDiv_22 : decode cJM_floorDiv 22 = .ok (.lload 4, 2) := by decide +kernel
theorem dJM_floorDiv_24 : decode cJM_floorDiv 24 = .ok (.lconst 1, 1) := by decide +kernel
theorem dJM_floorDiv_25 : decode cJM_floorDiv 25 = .ok (.lsub, 1) := by decide +kernel
theorem dJM_floorDiv_26 : decode cJM_floorDiv 26 = .ok (.lreturn, 1) := by decide +kernel
theorem dJM_floorDiv_27 : decode cJM_floorDiv 27 = .ok (.lload 4, 2) := by decide +kernel
theorem dJM_floorDiv_29 : decode cJM_floorDiv 29 = .ok (.lreturn, 1) := by decide +kernel
noncomputable def JM_floorDiv (F : Nat)   (v0 : Int64) (v2 : Int64) : Option (Int64) := gd (¬ v2 = 0) (if (0 : Int64) ≤ (v0 ^^^ v2) then some (v0 / v2) else if ((v0 / v2) * v2) = v0 then some (v0 / v2) else some ((v0 / v2) - (1 : Int64)))
set_option maxHeartbeats 8000000 in
set_option maxRecDepth 100000 in
theorem met_JM_floorDiv (κ : ctx) (L : Nat → va_E) (F : Nat) (v0 : Int64) (v2 : Int64) {out : Int64} (h : JM_floorDiv F   v0 v2 = some out) : Mt yJM_floorDiv cJM_floorDiv 6 (some .long) rm_JM_floorDiv κ [.long v0, .long v2] L (some (.long out)) L := by
  refine Mt.ofF (by decide +kernel) (Nat.le_of_ble_eq_true rfl) ?_
  intro g G Fh
  unfold JM_floorDiv at h
  show J g κ 6 0 [(0, .long v0), (2, .long v2)] [] L
  refine w_lload_n (pc := 0) (q := 0) G dJM_floorDiv_0 rfl rfl ?_
  refine w_lload_n (pc := 1) (q := 1) G dJM_floorDiv_1 rfl rfl ?_
  obtain ⟨z2, h⟩ := gd_some h
  refine w_ldiv (pc := 2) G dJM_floorDiv_2 z2 ?_
  refine w_lstore (pc := 3) (lv' := [(4, .long (v0 / v2)), (0, .long v0), (2, .long v2)]) G dJM_floorDiv_3 (by decide) rfl ?_
  refine w_lload_n (pc := 5) (q := 1) G dJM_floorDiv_5 rfl rfl ?_
  refine w_lload_n (pc := 6) (q := 2) G dJM_floorDiv_6 rfl rfl ?_
  refine w_lxor (pc := 7) G dJM_floorDiv_7 ?_
  refine w_lconst (pc := 8) (v := (0 : Int64)) G dJM_floorDiv_8 (by decide) ?_
  refine w_lc_ge (pc := 9) (tgt := 27) G dJM_floorDiv_9 dJM_floorDiv_10 (by decide) (fun c9 => ?_) (fun c9 => ?_)
  · have h := if_t c9 h
    refine w_lload (pc := 27) (q := 0) G dJM_floorDiv_27 rfl ?_
    obtain rfl := Option.some.inj h
    exact w_lret (pc := 29) G dJM_floorDiv_29 Fh
  · have h := if_f c9 h
    refine w_lload (pc := 13) (q := 0) G dJM_floorDiv_13 rfl ?_
    refine w_lload_n (pc := 15) (q := 2) G dJM_floorDiv_15 rfl rfl ?_
    refine w_lmul (pc := 16) G dJM_floorDiv_16 ?_
    refine w_lload_n (pc := 17) (q := 1) G dJM_floorDiv_17 rfl rfl ?_
    refine w_lc_eq (pc := 18) (tgt := 27) G dJM_floorDiv_18 dJM_floorDiv_19 (by decide) (fun c18 => ?_) (fun c18 => ?_)
    · have h := if_t c18 h
      refine w_lload (pc := 27) (q := 0) G dJM_floorDiv_27 rfl ?_
      obtain rfl := Option.some.inj h
      exact w_lret (pc := 29) G dJM_floorDiv_29 Fh
    · have h := if_f c18 h
      refine w_lload (pc := 22) (q := 0) G dJM_floorDiv_22 rfl ?_
      refine w_lconst (pc := 24) (v := (1 : Int64)) G dJM_floorDiv_24 (by decide) ?_
      refine w_lsub (pc := 25) G dJM_floorDiv_25 ?_
      obtain rfl := Option.some.inj h
      exact w_lret (pc := 26) G dJM_floorDiv_26 Fh
def rm_V_nearestQuotient : Room := { frames := 1, cells := 0, slots := 0, locals := 25 }
theorem dV_nearestQuotient_0 : decode cV_nearestQuotient 0 = .ok (.lload_n 2, 1) := by decide +kernel
theorem dV_nearestQuotient_1 : decode cV_nearestQuotient 1 = .ok (.lconst 0, 1) := by decide +kernel
theorem dV_nearestQuotient_2 : decode cV_nearestQuotient 2 = .ok (.lcmp, 1) := by decide +kernel
theorem dV_nearestQuotient_3 : decode cV_nearestQuotient 3 = .ok (.ifCond .gt 7, 3) := by decide +kernel
theorem dV_nearestQuotient_6 : decode cV_nearestQuotient 6 = .ok (.lconst 0, 1) := by decide +kernel
theorem dV_nearestQuotient_7 : decode cV_nearestQuotient 7 = .ok (.goto 18, 3) := by decide +kernel
theorem dV_nearestQuotient_10 : decode cV_nearestQuotient 10 = .ok (.ldc2_w 161, 3) := by decide +kernel
theorem dV_nearestQuotient_13 : decode cV_nearestQuotient 13 = .ok (.lload_n 0, 1) := by decide +kernel
theorem dV_nearestQuotient_14 : decode cV_nearestQuotient 14 = .ok (.lmul, 1) := by decide +kernel
theorem dV_nearestQuotient_15 : decode cV_nearestQuotient 15 = .ok (.lload_n 2, 1) := by decide +kernel
theorem dV_nearestQuotient_16 : decode cV_nearestQuotient 16 = .ok (.ladd, 1) := by decide +kernel
theorem dV_nearestQuotient_17 : decode cV_nearestQuotient 17 = .ok (.ldc2_w 161, 3) := by decide +kernel
theorem dV_nearestQuotient_20 : decode cV_nearestQuotient 20 = .ok (.lload_n 2, 1) := by decide +kernel
theorem dV_nearestQuotient_21 : decode cV_nearestQuotient 21 = .ok (.lmul, 1) := by decide +kernel
theorem dV_nearestQuotient_22 : decode cV_nearestQuotient 22 = .ok (.invokestatic 163, 3) := by decide +kernel
theorem dV_nearestQuotient_25 : decode cV_nearestQuotient 25 = .ok (.lreturn, 1) := by decide +kernel
theorem cb_JM_floorDiv_V_nearestQuotient : CB yJM_floorDiv cJM_floorDiv 6 (some .long) rm_JM_floorDiv rm_V_nearestQuotient 2 := ⟨wd198, wd10, by decide +kernel, rfl, rfl, by decide⟩
noncomputable def V_nearestQuotient (F : Nat)   (v0 : Int64) (v2 : Int64) : Option (Int64) := if (0 : Int64) < v2 then (JM_floorDiv F  (((2 : Int64) * v0) + v2) ((2 : Int64) * v2)).bind (fun r22 => some r22) else some (0 : Int64)
set_option maxHeartbeats 8000000 in
set_option maxRecDepth 100000 in
theorem met_V_nearestQuotient (κ : ctx) (L : Nat → va_E) (F : Nat) (v0 : Int64) (v2 : Int64) {out : Int64} (h : V_nearestQuotient F   v0 v2 = some out) : Mt yV_nearestQuotient cV_nearestQuotient 4 (some .long) rm_V_nearestQuotient κ [.long v0, .long v2] L (some (.long out)) L := by
  refine Mt.of (by decide) (Nat.le_of_ble_eq_true rfl) ?_
  intro g G Fh
  unfold V_nearestQuotient at h
  show J g κ 4 0 [(0, .long v0), (2, .long v2)] [] L
  refine w_lload_n (pc := 0) (q := 1) G dV_nearestQuotient_0 rfl rfl ?_
  refine w_lconst (pc := 1) (v := (0 : Int64)) G dV_nearestQuotient_1 (by decide) ?_
  refine w_lc_gt (pc := 2) (tgt := 10) G dV_nearestQuotient_2 dV_nearestQuotient_3 (by decide) (fun c2 => ?_) (fun c2 => ?_)
  · have h := if_t c2 h
    refine w_ldc2 (pc := 10) (v := (2 : Int64)) G wd271 dV_nearestQuotient_10 ?_
    refine w_lload_n (pc := 13) (q := 0) G dV_nearestQuotient_13 rfl rfl ?_
    refine w_lmul (pc := 14) G dV_nearestQuotient_14 ?_
    refine w_lload_n (pc := 15) (q := 1) G dV_nearestQuotient_15 rfl rfl ?_
    refine w_ladd (pc := 16) G dV_nearestQuotient_16 ?_
    refine w_ldc2 (pc := 17) (v := (2 : Int64)) G wd271 dV_nearestQuotient_17 ?_
    refine w_lload_n (pc := 20) (q := 1) G dV_nearestQuotient_20 rfl rfl ?_
    refine w_lmul (pc := 21) G dV_nearestQuotient_21 ?_
    obtain ⟨r22, e22, h⟩ := bd h
    refine w_callS (pc := 22) (av := [.long (((2 : Int64) * v0) + v2), .long ((2 : Int64) * v2)]) (rest := []) (v := some (.long r22)) (L' := L) G cb_JM_floorDiv_V_nearestQuotient wd197 wd272 (met_JM_floorDiv κ L F (((2 : Int64) * v0) + v2) ((2 : Int64) * v2)  e22) rfl rfl rfl (Nat.le_of_ble_eq_true rfl) dV_nearestQuotient_22 ?_
    obtain rfl := Option.some.inj h
    exact w_lret (pc := 25) G dV_nearestQuotient_25 Fh
  · have h := if_f c2 h
    refine w_lconst (pc := 6) (v := (0 : Int64)) G dV_nearestQuotient_6 (by decide) ?_
    refine w_goto (pc := 7) (tgt := 25) G dV_nearestQuotient_7 (by decide) ?_
    obtain rfl := Option.some.inj h
    exact w_lret (pc := 25) G dV_nearestQuotient_25 Fh
def rm_V_isAxis : Room := { frames := 0, cells := 0, slots := 0, locals := 0 }
theorem dV_isAxis_0 : decode cV_isAxis 0 = .ok (.iload_n 0, 1) := by decide +kernel
theorem dV_isAxis_1 : decode cV_isAxis 1 = .ok (.ifCond .lt 12, 3) := by decide +kernel
theorem dV_isAxis_4 : decode cV_isAxis 4 = .ok (.iload_n 0, 1) := by decide +kernel
theorem dV_isAxis_5 : decode cV_isAxis 5 = .ok (.iconst 4, 1) := by decide +kernel
theorem dV_isAxis_6 : decode cV_isAxis 6 = .ok (.if_icmp .ge 7, 3) := by decide +kernel
theorem dV_isAxis_9 : decode cV_isAxis 9 = .ok (.iconst 1, 1) := by decide +kernel
theorem dV_isAxis_10 : decode cV_isAxis 10 = .ok (.goto 4, 3) := by decide +kernel
theorem dV_isAxis_13 : decode cV_isAxis 13 = .ok (.iconst 0, 1) := by decide +kernel
theorem dV_isAxis_14 : decode cV_isAxis 14 = .ok (.ireturn, 1) := by decide +kernel
noncomputable def V_isAxis (F : Nat)   (v0 : Int32) : Option (Int32) := if v0 < 0 then some (0 : Int32) else if (4 : Int32) ≤ v0 then some (0 : Int32) else some (1 : Int32)
set_option maxHeartbeats 8000000 in
set_option maxRecDepth 100000 in
theorem met_V_isAxis (κ : ctx) (L : Nat → va_E) (F : Nat) (v0 : Int32) {out : Int32} (h : V_isAxis F   v0 = some out) : Mt yV_isAxis cV_isAxis 1 (some .boolean) rm_V_isAxis κ [.int v0] L (some (.int out)) L := by
  refine Mt.of (by decide) (Nat.le_of_ble_eq_true rfl) ?_
  intro g G Fh
  unfold V_isAxis at h
  show J g κ 1 0 [(0, .int v0)] [] L
  refine w_iload_n (pc := 0) (q := 0) G dV_isAxis_0 rfl rfl ?_
  refine w_if_lt (pc := 1) (tgt := 13) G dV_isAxis_1 (by decide) (fun c1 => ?_) (fun c1 => ?_)
  · have h := if_t c1 h
    refine w_iconst (pc := 13) (v := (0 : Int32)) G dV_isAxis_13 (by decide) ?_
    obtain rfl := Option.some.inj h
    exact w_zret (pc := 14) G rfl dV_isAxis_14 Fh
  · have h := if_f c1 h
    refine w_iload_n (pc := 4) (q := 0) G dV_isAxis_4 rfl rfl ?_
    refine w_iconst (pc := 5) (v := (4 : Int32)) G dV_isAxis_5 (by decide) ?_
    refine w_icmp_ge (pc := 6) (tgt := 13) G dV_isAxis_6 (by decide) (fun c6 => ?_) (fun c6 => ?_)
    · have h := if_t c6 h
      refine w_iconst (pc := 13) (v := (0 : Int32)) G dV_isAxis_13 (by decide) ?_
      obtain rfl := Option.some.inj h
      exact w_zret (pc := 14) G rfl dV_isAxis_14 Fh
    · have h := if_f c6 h
      refine w_iconst (pc := 9) (v := (1 : Int32)) G dV_isAxis_9 (by decide) ?_
      refine w_goto (pc := 10) (tgt := 14) G dV_isAxis_10 (by decide) ?_
      obtain rfl := Option.some.inj h
      exact w_zret (pc := 14) G rfl dV_isAxis_14 Fh
def rm_JA_fillJ : Room := { frames := 0, cells := 0, slots := 0, locals := 0 }
theorem dJA_fillJ_0 : decode cJA_fillJ 0 = .ok (.iconst 0, 1) := by decide +kernel
theorem dJA_fillJ_1 : decode cJA_fillJ 1 = .ok (.istore_n 3, 1) := by decide +kernel
theorem dJA_fillJ_2 : decode cJA_fillJ 2 = .ok (.aload_n 0, 1) := by decide +kernel
theorem dJA_fillJ_3 : decode cJA_fillJ 3 = .ok (.arraylength, 1) := by decide +kernel
theorem dJA_fillJ_4 : decode cJA_fillJ 4 = .ok (.istore 4, 2) := by decide +kernel
theorem dJA_fillJ_6 : decode cJA_fillJ 6 = .ok (.iload_n 3, 1) := by decide +kernel
theorem dJA_fillJ_7 : decode cJA_fillJ 7 = .ok (.iload 4, 2) := by decide +kernel
theorem dJA_fillJ_9 : decode cJA_fillJ 9 = .ok (.if_icmp .ge 13, 3) := by decide +kernel
theorem dJA_fillJ_12 : decode cJA_fillJ 12 = .ok (.aload_n 0, 1) := by decide +kernel
theorem dJA_fillJ_13 : decode cJA_fillJ 13 = .ok (.iload_n 3, 1) := by decide +kernel
theorem dJA_fillJ_14 : decode cJA_fillJ 14 = .ok (.lload_n 1, 1) := by decide +kernel
theorem dJA_fillJ_15 : decode cJA_fillJ 15 = .ok (.lastore, 1) := by decide +kernel
theorem dJA_fillJ_16 : decode cJA_fillJ 16 = .ok (.iinc 3 1, 3) := by decide +kernel
theorem dJA_fillJ_19 : decode cJA_fillJ 19 = .ok (.goto (-13), 3) := by decide +kernel
theorem dJA_fillJ_22 : decode cJA_fillJ 22 = .ok (.return_, 1) := by decide +kernel
noncomputable def lJA_fillJ_6 (F : Nat) (v1 : Int64) (v4 : Int32) : Nat → Int32 → (Nat → Int64) → Option ((Nat → Int64))
  | 0, _, _ => none
  | n + 1, v3, x_a => if v4 ≤ v3 then some (x_a) else gd (vp_in v3 4) (lJA_fillJ_6 F  v1 v4 n (v3 + 1) (vp_updL x_a v3.toNatClampNeg v1))
set_option maxHeartbeats 8000000 in
set_option maxRecDepth 100000 in
theorem lJA_fillJ_6_ok {g : Gm} {κ : ctx} (G : OK g κ RJA cJA_fillJ 5 none rm_JA_fillJ) (L : Nat → va_E) (F : Nat) (q_a : Nat) (hq_a : q_a < NW) (v1 : Int64) (v4 : Int32) : ∀ (n : Nat) (v3 : Int32) (x_a : Nat → Int64) (out : (Nat → Int64)), lJA_fillJ_6 F   v1 v4 n v3 x_a = some out → (J g κ 5 22 [] [] (va_up L q_a (.inl (κ.2.2.1, 4, .inr (.inl out))))) → J g κ 5 6 [(0, .ref (κ.1 q_a)), (1, .long v1), (3, .int v3), (4, .int v4)] [] (va_up L q_a (.inl (κ.2.2.1, 4, .inr (.inl x_a)))) := by
  intro n
  induction n with
  | zero =>
    intro v3 x_a
    intro out h
    rw [lJA_fillJ_6] at h
    cases h
  | succ n ih =>
    intro v3 x_a out h K
    rw [lJA_fillJ_6] at h
    refine w_iload_n (pc := 6) (q := 2) G dJA_fillJ_6 rfl rfl ?_
    refine w_iload (pc := 7) (q := 3) G dJA_fillJ_7 rfl ?_
    refine w_icmp_ge (pc := 9) (tgt := 22) G dJA_fillJ_9 (by decide) (fun c9 => ?_) (fun c9 => ?_)
    · have h := if_t c9 h
      obtain rfl := Option.some.inj h
      refine w_sub (lv' := []) [] rfl ?_
      exact K
    · have h := if_f c9 h
      refine w_aload_n (pc := 12) (q := 0) G dJA_fillJ_12 rfl rfl ?_
      refine w_iload_n (pc := 13) (q := 2) G dJA_fillJ_13 rfl rfl ?_
      refine w_lload_n (pc := 14) (q := 1) G dJA_fillJ_14 rfl rfl ?_
      obtain ⟨i15, h⟩ := gd_some h
      refine w_last (pc := 15) (n := 4) (f := x_a) (L1 := (va_up L q_a (.inl (κ.2.2.1, 4, .inr (.inl (vp_updL x_a v3.toNatClampNeg v1)))))) G q_a hq_a (va_up_self _ _ _) i15 dJA_fillJ_15 (bx_uu _ _ _ _) ?_
      refine w_iinc (pc := 16) (q0 := 2) (v := (v3 + 1)) (lv' := [(3, .int (v3 + 1)), (0, .ref (κ.1 q_a)), (1, .long v1), (4, .int v4)]) G dJA_fillJ_16 rfl rfl (by decide) rfl ?_
      refine w_goto (pc := 19) (tgt := 6) G dJA_fillJ_19 (by decide) ?_
      refine w_sub (lv' := [(0, .ref (κ.1 q_a)), (1, .long v1), (3, .int (v3 + 1)), (4, .int v4)]) [1, 2, 0, 3] rfl ?_
      exact ih (v3 + 1) (vp_updL x_a v3.toNatClampNeg v1) out h K
noncomputable def JA_fillJ (F : Nat)  (x_a : Nat → Int64) (v1 : Int64) : Option ((Nat → Int64)) := (lJA_fillJ_6 F  v1 (nI 4) F (0 : Int32) x_a).bind (fun o6_7 => some o6_7)
set_option maxHeartbeats 8000000 in
set_option maxRecDepth 100000 in
theorem met_JA_fillJ (κ : ctx) (L : Nat → va_E) (F : Nat) (v1 : Int64) (q_a : Nat) (hq_a : q_a < NW) (x_a : Nat → Int64) (h_a : L q_a = .inl (κ.2.2.1, 4, .inr (.inl x_a))) {out : (Nat → Int64)} (h : JA_fillJ F  x_a v1 = some out) : Mt yJA_fillJ cJA_fillJ 5 none rm_JA_fillJ κ [.ref (κ.1 q_a), .long v1] L none (va_up L q_a (.inl (κ.2.2.1, 4, .inr (.inl out)))) := by
  refine Mt.of (by decide) (Nat.le_of_ble_eq_true rfl) ?_
  intro g G Fh
  unfold JA_fillJ at h
  show J g κ 5 0 [(0, .ref (κ.1 q_a)), (1, .long v1)] [] L
  refine w_eqL (up_id h_a) ?_
  refine w_iconst (pc := 0) (v := (0 : Int32)) G dJA_fillJ_0 (by decide) ?_
  refine w_istore_n (pc := 1) (lv' := [(3, .int (0 : Int32)), (0, .ref (κ.1 q_a)), (1, .long v1)]) G dJA_fillJ_1 rfl (by decide) rfl ?_
  refine w_aload_n (pc := 2) (q := 1) G dJA_fillJ_2 rfl rfl ?_
  refine w_alen (pc := 3) (v := nI 4) G q_a hq_a 1 (va_up_self _ _ _) rfl rfl dJA_fillJ_3 ?_
  refine w_istore (pc := 4) (lv' := [(4, .int (nI 4)), (3, .int (0 : Int32)), (0, .ref (κ.1 q_a)), (1, .long v1)]) G dJA_fillJ_4 (by decide) rfl ?_
  refine w_sub (lv' := [(0, .ref (κ.1 q_a)), (1, .long v1), (3, .int (0 : Int32)), (4, .int (nI 4))]) [2, 3, 1, 0] rfl ?_
  obtain ⟨o6_7, eo6_7, h⟩ := bd h
  refine lJA_fillJ_6_ok G L F  q_a hq_a  v1 (nI 4) F (0 : Int32) x_a o6_7 eo6_7 ?_
  obtain rfl := Option.some.inj h
  exact w_vret (pc := 22) G dJA_fillJ_22 Fh
def rm_JA_fillI : Room := { frames := 0, cells := 0, slots := 0, locals := 0 }
theorem dJA_fillI_0 : decode cJA_fillI 0 = .ok (.iconst 0, 1) := by decide +kernel
theorem dJA_fillI_1 : decode cJA_fillI 1 = .ok (.istore_n 2, 1) := by decide +kernel
theorem dJA_fillI_2 : decode cJA_fillI 2 = .ok (.aload_n 0, 1) := by decide +kernel
theorem dJA_fillI_3 : decode cJA_fillI 3 = .ok (.arraylength, 1) := by decide +kernel
theorem dJA_fillI_4 : decode cJA_fillI 4 = .ok (.istore_n 3, 1) := by decide +kernel
theorem dJA_fillI_5 : decode cJA_fillI 5 = .ok (.iload_n 2, 1) := by decide +kernel
theorem dJA_fillI_6 : decode cJA_fillI 6 = .ok (.iload_n 3, 1) := by decide +kernel
theorem dJA_fillI_7 : decode cJA_fillI 7 = .ok (.if_icmp .ge 13, 3) := by decide +kernel
theorem dJA_fillI_10 : decode cJA_fillI 10 = .ok (.aload_n 0, 1) := by decide +kernel
theorem dJA_fillI_11 : decode cJA_fillI 11 = .ok (.iload_n 2, 1) := by decide +kernel
theorem dJA_fillI_12 : decode cJA_fillI 12 = .ok (.iload_n 1, 1) := by decide +kernel
theorem dJA_fillI_13 : decode cJA_fillI 13 = .ok (.iastore, 1) := by decide +kernel
theorem dJA_fillI_14 : decode cJA_fillI 14 = .ok (.iinc 2 1, 3) := by decide +kernel
theorem dJA_fillI_17 : decode cJA_fillI 17 = .ok (.goto (-12), 3) := by decide +kernel
theorem dJA_fillI_20 : decode cJA_fillI 20 = .ok (.return_, 1) := by decide +kernel
noncomputable def lJA_fillI_5 (F : Nat) (v1 : Int32) (v3 : Int32) : Nat → Int32 → (Nat → Int32) → Option ((Nat → Int32))
  | 0, _, _ => none
  | n + 1, v2, x_a => if v3 ≤ v2 then some (x_a) else gd (vp_in v2 41) (lJA_fillI_5 F  v1 v3 n (v2 + 1) (upd x_a v2.toNatClampNeg v1))
set_option maxHeartbeats 8000000 in
set_option maxRecDepth 100000 in
theorem lJA_fillI_5_ok {g : Gm} {κ : ctx} (G : OK g κ RJA cJA_fillI 4 none rm_JA_fillI) (L : Nat → va_E) (F : Nat) (q_a : Nat) (hq_a : q_a < NW) (v1 : Int32) (v3 : Int32) : ∀ (n : Nat) (v2 : Int32) (x_a : Nat → Int32) (out : (Nat → Int32)), lJA_fillI_5 F   v1 v3 n v2 x_a = some out → (J g κ 4 20 [] [] (va_up L q_a (.inl (κ.2.1, 41, .inl out)))) → J g κ 4 5 [(0, .ref (κ.1 q_a)), (1, .int v1), (2, .int v2), (3, .int v3)] [] (va_up L q_a (.inl (κ.2.1, 41, .inl x_a))) := by
  intro n
  induction n with
  | zero =>
    intro v2 x_a
    intro out h
    rw [lJA_fillI_5] at h
    cases h
  | succ n ih =>
    intro v2 x_a out h K
    rw [lJA_fillI_5] at h
    refine w_iload_n (pc := 5) (q := 2) G dJA_fillI_5 rfl rfl ?_
    refine w_iload_n (pc := 6) (q := 3) G dJA_fillI_6 rfl rfl ?_
    refine w_icmp_ge (pc := 7) (tgt := 20) G dJA_fillI_7 (by decide) (fun c7 => ?_) (fun c7 => ?_)
    · have h := if_t c7 h
      obtain rfl := Option.some.inj h
      refine w_sub (lv' := []) [] rfl ?_
      exact K
    · have h := if_f c7 h
      refine w_aload_n (pc := 10) (q := 0) G dJA_fillI_10 rfl rfl ?_
      refine w_iload_n (pc := 11) (q := 2) G dJA_fillI_11 rfl rfl ?_
      refine w_iload_n (pc := 12) (q := 1) G dJA_fillI_12 rfl rfl ?_
      obtain ⟨i13, h⟩ := gd_some h
      refine w_iast (pc := 13) (n := 41) (f := x_a) (L1 := (va_up L q_a (.inl (κ.2.1, 41, .inl (upd x_a v2.toNatClampNeg v1))))) G q_a hq_a (va_up_self _ _ _) i13 dJA_fillI_13 (bx_uu _ _ _ _) ?_
      refine w_iinc (pc := 14) (q0 := 2) (v := (v2 + 1)) (lv' := [(2, .int (v2 + 1)), (0, .ref (κ.1 q_a)), (1, .int v1), (3, .int v3)]) G dJA_fillI_14 rfl rfl (by decide) rfl ?_
      refine w_goto (pc := 17) (tgt := 5) G dJA_fillI_17 (by decide) ?_
      refine w_sub (lv' := [(0, .ref (κ.1 q_a)), (1, .int v1), (2, .int (v2 + 1)), (3, .int v3)]) [1, 2, 0, 3] rfl ?_
      exact ih (v2 + 1) (upd x_a v2.toNatClampNeg v1) out h K
noncomputable def JA_fillI (F : Nat)  (x_a : Nat → Int32) (v1 : Int32) : Option ((Nat → Int32)) := (lJA_fillI_5 F  v1 (nI 41) F (0 : Int32) x_a).bind (fun o5_7 => some o5_7)
set_option maxHeartbeats 8000000 in
set_option maxRecDepth 100000 in
theorem met_JA_fillI (κ : ctx) (L : Nat → va_E) (F : Nat) (v1 : Int32) (q_a : Nat) (hq_a : q_a < NW) (x_a : Nat → Int32) (h_a : L q_a = .inl (κ.2.1, 41, .inl x_a)) {out : (Nat → Int32)} (h : JA_fillI F  x_a v1 = some out) : Mt yJA_fillI cJA_fillI 4 none rm_JA_fillI κ [.ref (κ.1 q_a), .int v1] L none (va_up L q_a (.inl (κ.2.1, 41, .inl out))) := by
  refine Mt.of (by decide) (Nat.le_of_ble_eq_true rfl) ?_
  intro g G Fh
  unfold JA_fillI at h
  show J g κ 4 0 [(0, .ref (κ.1 q_a)), (1, .int v1)] [] L
  refine w_eqL (up_id h_a) ?_
  refine w_iconst (pc := 0) (v := (0 : Int32)) G dJA_fillI_0 (by decide) ?_
  refine w_istore_n (pc := 1) (lv' := [(2, .int (0 : Int32)), (0, .ref (κ.1 q_a)), (1, .int v1)]) G dJA_fillI_1 rfl (by decide) rfl ?_
  refine w_aload_n (pc := 2) (q := 1) G dJA_fillI_2 rfl rfl ?_
  refine w_alen (pc := 3) (v := nI 41) G q_a hq_a 0 (va_up_self _ _ _) rfl rfl dJA_fillI_3 ?_
  refine w_istore_n (pc := 4) (lv' := [(3, .int (nI 41)), (2, .int (0 : Int32)), (0, .ref (κ.1 q_a)), (1, .int v1)]) G dJA_fillI_4 rfl (by decide) rfl ?_
  refine w_sub (lv' := [(0, .ref (κ.1 q_a)), (1, .int v1), (2, .int (0 : Int32)), (3, .int (nI 41))]) [2, 3, 1, 0] rfl ?_
  obtain ⟨o5_7, eo5_7, h⟩ := bd h
  refine lJA_fillI_5_ok G L F  q_a hq_a  v1 (nI 41) F (0 : Int32) x_a o5_7 eo5_7 ?_
  obtain rfl := Option.some.inj h
  exact w_vret (pc := 20) G dJA_fillI_20 Fh
def rm_B_turnAway : Room := { frames := 2, cells := 0, slots := 0, locals := 100 }
theorem dB_turnAway_0 : decode cB_turnAway 0 = .ok (.aload_n 0, 1) := by decide +kernel
theorem dB_turnAway_1 : decode cB_turnAway 1 = .ok (.aload_n 1, 1) := by decide +kernel
theorem dB_turnAway_2 : decode cB_turnAway 2 = .ok (.invokestatic 63, 3) := by decide +kernel
theorem dB_turnAway_5 : decode cB_turnAway 5 = .ok (.lstore 4, 2) := by decide +kernel
theorem dB_turnAway_7 : decode cB_turnAway 7 = .ok (.lconst 1, 1) := by decide +kernel
theorem dB_turnAway_8 : decode cB_turnAway 8 = .ok (.lload 4, 2) := by decide +kernel
theorem dB_turnAway_10 : decode cB_turnAway 10 = .ok (.lload_n 2, 1) := by decide +kernel
theorem dB_turnAway_11 : decode cB_turnAway 11 = .ok (.invokestatic 108, 3) := by decide +kernel
theorem dB_turnAway_14 : decode cB_turnAway 14 = .ok (.invokestatic 105, 3) := by decide +kernel
theorem dB_turnAway_17 : decode cB_turnAway 17 = .ok (.lstore 6, 2) := by decide +kernel
theorem dB_turnAway_19 : decode cB_turnAway 19 = .ok (.aload_n 0, 1) := by decide +kernel
theorem dB_turnAway_20 : decode cB_turnAway 20 = .ok (.aload_n 0, 1) := by decide +kernel
theorem dB_turnAway_21 : decode cB_turnAway 21 = .ok (.lload_n 2, 1) := by decide +kernel
theorem dB_turnAway_22 : decode cB_turnAway 22 = .ok (.lload 6, 2) := by decide +kernel
theorem dB_turnAway_24 : decode cB_turnAway 24 = .ok (.ldiv, 1) := by decide +kernel
theorem dB_turnAway_25 : decode cB_turnAway 25 = .ok (.lconst 1, 1) := by decide +kernel
theorem dB_turnAway_26 : decode cB_turnAway 26 = .ok (.lsub, 1) := by decide +kernel
theorem dB_turnAway_27 : decode cB_turnAway 27 = .ok (.invokestatic 95, 3) := by decide +kernel
theorem dB_turnAway_30 : decode cB_turnAway 30 = .ok (.aload_n 0, 1) := by decide +kernel
theorem dB_turnAway_31 : decode cB_turnAway 31 = .ok (.aload_n 1, 1) := by decide +kernel
theorem dB_turnAway_32 : decode cB_turnAway 32 = .ok (.lload 4, 2) := by decide +kernel
theorem dB_turnAway_34 : decode cB_turnAway 34 = .ok (.lload 6, 2) := by decide +kernel
theorem dB_turnAway_36 : decode cB_turnAway 36 = .ok (.ldiv, 1) := by decide +kernel
theorem dB_turnAway_37 : decode cB_turnAway 37 = .ok (.lneg, 1) := by decide +kernel
theorem dB_turnAway_38 : decode cB_turnAway 38 = .ok (.invokestatic 95, 3) := by decide +kernel
theorem dB_turnAway_41 : decode cB_turnAway 41 = .ok (.lconst 0, 1) := by decide +kernel
theorem dB_turnAway_42 : decode cB_turnAway 42 = .ok (.lstore 8, 2) := by decide +kernel
theorem dB_turnAway_44 : decode cB_turnAway 44 = .ok (.iconst 0, 1) := by decide +kernel
theorem dB_turnAway_45 : decode cB_turnAway 45 = .ok (.istore 10, 2) := by decide +kernel
theorem dB_turnAway_47 : decode cB_turnAway 47 = .ok (.iload 10, 2) := by decide +kernel
theorem dB_turnAway_49 : decode cB_turnAway 49 = .ok (.iconst 4, 1) := by decide +kernel
theorem dB_turnAway_50 : decode cB_turnAway 50 = .ok (.if_icmp .ge 20, 3) := by decide +kernel
theorem dB_turnAway_53 : decode cB_turnAway 53 = .ok (.lload 8, 2) := by decide +kernel
theorem dB_turnAway_55 : decode cB_turnAway 55 = .ok (.aload_n 0, 1) := by decide +kernel
theorem dB_turnAway_56 : decode cB_turnAway 56 = .ok (.iload 10, 2) := by decide +kernel
theorem dB_turnAway_58 : decode cB_turnAway 58 = .ok (.laload, 1) := by decide +kernel
theorem dB_turnAway_59 : decode cB_turnAway 59 = .ok (.invokestatic 108, 3) := by decide +kernel
theorem dB_turnAway_62 : decode cB_turnAway 62 = .ok (.lstore 8, 2) := by decide +kernel
theorem dB_turnAway_64 : decode cB_turnAway 64 = .ok (.iinc 10 1, 3) := by decide +kernel
theorem dB_turnAway_67 : decode cB_turnAway 67 = .ok (.goto (-20), 3) := by decide +kernel
theorem dB_turnAway_70 : decode cB_turnAway 70 = .ok (.iconst 0, 1) := by decide +kernel
theorem dB_turnAway_71 : decode cB_turnAway 71 = .ok (.istore 10, 2) := by decide +kernel
theorem dB_turnAway_73 : decode cB_turnAway 73 = .ok (.iload 10, 2) := by decide +kernel
theorem dB_turnAway_75 : decode cB_turnAway 75 = .ok (.iconst 4, 1) := by decide +kernel
theorem dB_turnAway_76 : decode cB_turnAway 76 = .ok (.if_icmp .ge 25, 3) := by decide +kernel
theorem dB_turnAway_79 : decode cB_turnAway 79 = .ok (.lload 8, 2) := by decide +kernel
theorem dB_turnAway_81 : decode cB_turnAway 81 = .ok (.lconst 1, 1) := by decide +kernel
theorem dB_turnAway_82 : decode cB_turnAway 82 = .ok (.lcmp, 1) := by decide +kernel
theorem dB_turnAway_83 : decode cB_turnAway 83 = .ok (.ifCond .le 18, 3) := by decide +kernel
theorem dB_turnAway_86 : decode cB_turnAway 86 = .ok (.aload_n 0, 1) := by decide +kernel
theorem dB_turnAway_87 : decode cB_turnAway 87 = .ok (.iload 10, 2) := by decide +kernel
theorem dB_turnAway_89 : decode cB_turnAway 89 = .ok (.dup2, 1) := by decide +kernel
theorem dB_turnAway_90 : decode cB_turnAway 90 = .ok (.laload, 1) := by decide +kernel
theorem dB_turnAway_91 : decode cB_turnAway 91 = .ok (.lload 8, 2) := by decide +kernel
theorem dB_turnAway_93 : decode cB_turnAway 93 = .ok (.ldiv, 1) := by decide +kernel
theorem dB_turnAway_94 : decode cB_turnAway 94 = .ok (.lastore, 1) := by decide +kernel
theorem dB_turnAway_95 : decode cB_turnAway 95 = .ok (.iinc 10 1, 3) := by decide +kernel
theorem dB_turnAway_98 : decode cB_turnAway 98 = .ok (.goto (-25), 3) := by decide +kernel
theorem dB_turnAway_101 : decode cB_turnAway 101 = .ok (.return_, 1) := by decide +kernel
theorem cb_V_addMultiple_B_turnAway : CB yV_addMultiple cV_addMultiple 5 none rm_V_addMultiple rm_B_turnAway 3 := ⟨wd187, wd1, by decide +kernel, rfl, rfl, by decide⟩
theorem cb_V_addMultipleA_B_turnAway : CB yV_addMultiple cV_addMultiple 5 none rm_V_addMultipleA rm_B_turnAway 3 := ⟨wd187, wd1, by decide +kernel, rfl, rfl, by decide⟩
theorem cb_V_commonDivisor_B_turnAway : CB yV_commonDivisor cV_commonDivisor 11 (some .long) rm_V_commonDivisor rm_B_turnAway 2 := ⟨wd299, wd1, by decide +kernel, rfl, rfl, by decide⟩
theorem cb_V_product_B_turnAway : CB yV_product cV_product 5 (some .long) rm_V_product rm_B_turnAway 2 := ⟨wd263, wd1, by decide +kernel, rfl, rfl, by decide⟩
noncomputable def lB_turnAway_47 (F : Nat) (x_a : Nat → Int64) : Nat → Int64 → Int32 → Option (Int64)
  | 0, _, _ => none
  | n + 1, v8, v10 => if (4 : Int32) ≤ v10 then some (v8) else gd (vp_in v10 4) ((V_commonDivisor F  v8 (x_a v10.toNatClampNeg)).bind (fun r59 => lB_turnAway_47 F  x_a n r59 (v10 + 1)))
set_option maxHeartbeats 8000000 in
set_option maxRecDepth 100000 in
theorem lB_turnAway_47_ok {g : Gm} {κ : ctx} (G : OK g κ RB cB_turnAway 11 none rm_B_turnAway) (L : Nat → va_E) (F : Nat) (q_a : Nat) (hq_a : q_a < NW) (x_a : Nat → Int64) (q_b : Nat) (hq_b : q_b < NW) (x_b : Nat → Int64) (h_b : L q_b = .inl (κ.2.2.1, 4, .inr (.inl x_b))) (ne_b : q_b ≠ q_a) : ∀ (n : Nat) (v8 : Int64) (v10 : Int32) (out : Int64), lB_turnAway_47 F  x_a  n v8 v10 = some out → (J g κ 11 70 [(0, .ref (κ.1 q_a)), (8, .long out)] [] (va_up L q_a (.inl (κ.2.2.1, 4, .inr (.inl x_a))))) → J g κ 11 47 [(0, .ref (κ.1 q_a)), (8, .long v8), (10, .int v10)] [] (va_up L q_a (.inl (κ.2.2.1, 4, .inr (.inl x_a)))) := by
  intro n
  induction n with
  | zero =>
    intro v8 v10
    intro out h
    rw [lB_turnAway_47] at h
    cases h
  | succ n ih =>
    intro v8 v10 out h K
    rw [lB_turnAway_47] at h
    refine w_iload (pc := 47) (q := 2) G dB_turnAway_47 rfl ?_
    refine w_iconst (pc := 49) (v := (4 : Int32)) G dB_turnAway_49 (by decide) ?_
    refine w_icmp_ge (pc := 50) (tgt := 70) G dB_turnAway_50 (by decide) (fun c50 => ?_) (fun c50 => ?_)
    · have h := if_t c50 h
      obtain rfl := Option.some.inj h
      refine w_sub (lv' := [(0, .ref (κ.1 q_a)), (8, .long v8)]) [0, 1] rfl ?_
      exact K
    · have h := if_f c50 h
      refine w_lload (pc := 53) (q := 1) G dB_turnAway_53 rfl ?_
      refine w_aload_n (pc := 55) (q := 0) G dB_turnAway_55 rfl rfl ?_
      refine w_iload (pc := 56) (q := 2) G dB_turnAway_56 rfl ?_
      obtain ⟨i58, h⟩ := gd_some h
      refine w_lald (pc := 58) (n := 4) (f := x_a) G q_a hq_a (va_up_self _ _ _) i58 dB_turnAway_58 ?_
      obtain ⟨r59, e59, h⟩ := bd h
      refine w_callSN (pc := 59) (av := [.long v8, .long (x_a v10.toNatClampNeg)]) (rest := []) (v := some (.long r59)) (L' := (va_up L q_a (.inl (κ.2.2.1, 4, .inr (.inl x_a))))) G cb_V_commonDivisor_B_turnAway wd298 wd297 (met_V_commonDivisor κ (va_up L q_a (.inl (κ.2.2.1, 4, .inr (.inl x_a)))) F v8 (x_a v10.toNatClampNeg)  e59) rfl rfl rfl (Nat.le_of_ble_eq_true rfl) dB_turnAway_59 ?_
      refine w_lstore (pc := 62) (lv' := [(8, .long r59), (0, .ref (κ.1 q_a)), (10, .int v10)]) G dB_turnAway_62 (by decide) rfl ?_
      refine w_iinc (pc := 64) (q0 := 2) (v := (v10 + 1)) (lv' := [(10, .int (v10 + 1)), (8, .long r59), (0, .ref (κ.1 q_a))]) G dB_turnAway_64 rfl rfl (by decide) rfl ?_
      refine w_goto (pc := 67) (tgt := 47) G dB_turnAway_67 (by decide) ?_
      refine w_sub (lv' := [(0, .ref (κ.1 q_a)), (8, .long r59), (10, .int (v10 + 1))]) [2, 1, 0] rfl ?_
      exact ih r59 (v10 + 1) out h K
noncomputable def lB_turnAway_73 (F : Nat) (v8 : Int64) : Nat → Int32 → (Nat → Int64) → Option ((Nat → Int64))
  | 0, _, _ => none
  | n + 1, v10, x_a => if (4 : Int32) ≤ v10 then some (x_a) else if v8 ≤ (1 : Int64) then some (x_a) else gd (vp_in v10 4) (gd (¬ v8 = 0) (gd (vp_in v10 4) (lB_turnAway_73 F  v8 n (v10 + 1) (vp_updL x_a v10.toNatClampNeg ((x_a v10.toNatClampNeg) / v8)))))
set_option maxHeartbeats 8000000 in
set_option maxRecDepth 100000 in
theorem lB_turnAway_73_ok {g : Gm} {κ : ctx} (G : OK g κ RB cB_turnAway 11 none rm_B_turnAway) (L : Nat → va_E) (F : Nat) (q_a : Nat) (hq_a : q_a < NW) (q_b : Nat) (hq_b : q_b < NW) (x_b : Nat → Int64) (h_b : L q_b = .inl (κ.2.2.1, 4, .inr (.inl x_b))) (ne_b : q_b ≠ q_a) (v8 : Int64) : ∀ (n : Nat) (v10 : Int32) (x_a : Nat → Int64) (out : (Nat → Int64)), lB_turnAway_73 F   v8 n v10 x_a = some out → (J g κ 11 101 [] [] (va_up L q_a (.inl (κ.2.2.1, 4, .inr (.inl out))))) → J g κ 11 73 [(0, .ref (κ.1 q_a)), (8, .long v8), (10, .int v10)] [] (va_up L q_a (.inl (κ.2.2.1, 4, .inr (.inl x_a)))) := by
  intro n
  induction n with
  | zero =>
    intro v10 x_a
    intro out h
    rw [lB_turnAway_73] at h
    cases h
  | succ n ih =>
    intro v10 x_a out h K
    rw [lB_turnAway_73] at h
    refine w_iload (pc := 73) (q := 2) G dB_turnAway_73 rfl ?_
    refine w_iconst (pc := 75) (v := (4 : Int32)) G dB_turnAway_75 (by decide) ?_
    refine w_icmp_ge (pc := 76) (tgt := 101) G dB_turnAway_76 (by decide) (fun c76 => ?_) (fun c76 => ?_)
    · have h := if_t c76 h
      obtain rfl := Option.some.inj h
      refine w_sub (lv' := []) [] rfl ?_
      exact K
    · have h := if_f c76 h
      refine w_lload (pc := 79) (q := 1) G dB_turnAway_79 rfl ?_
      refine w_lconst (pc := 81) (v := (1 : Int64)) G dB_turnAway_81 (by decide) ?_
      refine w_lc_le (pc := 82) (tgt := 101) G dB_turnAway_82 dB_turnAway_83 (by decide) (fun c82 => ?_) (fun c82 => ?_)
      · have h := if_t c82 h
        obtain rfl := Option.some.inj h
        refine w_sub (lv' := []) [] rfl ?_
        exact K
      · have h := if_f c82 h
        refine w_aload_n (pc := 86) (q := 0) G dB_turnAway_86 rfl rfl ?_
        refine w_iload (pc := 87) (q := 2) G dB_turnAway_87 rfl ?_
        refine w_dup2_11 (pc := 89) G dB_turnAway_89 rfl rfl ?_
        obtain ⟨i90, h⟩ := gd_some h
        refine w_lald (pc := 90) (n := 4) (f := x_a) G q_a hq_a (va_up_self _ _ _) i90 dB_turnAway_90 ?_
        refine w_lload (pc := 91) (q := 1) G dB_turnAway_91 rfl ?_
        obtain ⟨z93, h⟩ := gd_some h
        refine w_ldiv (pc := 93) G dB_turnAway_93 z93 ?_
        obtain ⟨i94, h⟩ := gd_some h
        refine w_last (pc := 94) (n := 4) (f := x_a) (L1 := (va_up L q_a (.inl (κ.2.2.1, 4, .inr (.inl (vp_updL x_a v10.toNatClampNeg ((x_a v10.toNatClampNeg) / v8))))))) G q_a hq_a (va_up_self _ _ _) i94 dB_turnAway_94 (bx_uu _ _ _ _) ?_
        refine w_iinc (pc := 95) (q0 := 2) (v := (v10 + 1)) (lv' := [(10, .int (v10 + 1)), (0, .ref (κ.1 q_a)), (8, .long v8)]) G dB_turnAway_95 rfl rfl (by decide) rfl ?_
        refine w_goto (pc := 98) (tgt := 73) G dB_turnAway_98 (by decide) ?_
        refine w_sub (lv' := [(0, .ref (κ.1 q_a)), (8, .long v8), (10, .int (v10 + 1))]) [1, 2, 0] rfl ?_
        exact ih (v10 + 1) (vp_updL x_a v10.toNatClampNeg ((x_a v10.toNatClampNeg) / v8)) out h K
noncomputable def B_turnAway (F : Nat)  (x_a : Nat → Int64) (x_b : Nat → Int64) (v2 : Int64) : Option ((Nat → Int64)) := (V_product F x_a x_b ).bind (fun r2 => (V_commonDivisor F  r2 v2).bind (fun r11 => gd (¬ (if r11 < (1 : Int64) then (1 : Int64) else r11) = 0) ((V_addMultipleA F x_a ((v2 / (if r11 < (1 : Int64) then (1 : Int64) else r11)) - (1 : Int64))).bind (fun r27 => gd (¬ (if r11 < (1 : Int64) then (1 : Int64) else r11) = 0) ((V_addMultiple F r27 x_b (-(r2 / (if r11 < (1 : Int64) then (1 : Int64) else r11)))).bind (fun r38 => (lB_turnAway_47 F  r38 F (0 : Int64) (0 : Int32)).bind (fun o47_7 => (lB_turnAway_73 F  o47_7 F (0 : Int32) r38).bind (fun o73_17 => some o73_17))))))))
set_option maxHeartbeats 8000000 in
set_option maxRecDepth 100000 in
theorem met_B_turnAway (κ : ctx) (L : Nat → va_E) (F : Nat) (v2 : Int64) (q_a : Nat) (hq_a : q_a < NW) (x_a : Nat → Int64) (h_a : L q_a = .inl (κ.2.2.1, 4, .inr (.inl x_a))) (q_b : Nat) (hq_b : q_b < NW) (x_b : Nat → Int64) (h_b : L q_b = .inl (κ.2.2.1, 4, .inr (.inl x_b))) (ne_b : q_b ≠ q_a) {out : (Nat → Int64)} (h : B_turnAway F  x_a x_b v2 = some out) : Mt yB_turnAway cB_turnAway 11 none rm_B_turnAway κ [.ref (κ.1 q_a), .ref (κ.1 q_b), .long v2] L none (va_up L q_a (.inl (κ.2.2.1, 4, .inr (.inl out)))) := by
  refine Mt.of (by decide) (Nat.le_of_ble_eq_true rfl) ?_
  intro g G Fh
  unfold B_turnAway at h
  show J g κ 11 0 [(0, .ref (κ.1 q_a)), (1, .ref (κ.1 q_b)), (2, .long v2)] [] L
  refine w_eqL (up_id h_a) ?_
  refine w_aload_n (pc := 0) (q := 0) G dB_turnAway_0 rfl rfl ?_
  refine w_aload_n (pc := 1) (q := 1) G dB_turnAway_1 rfl rfl ?_
  obtain ⟨r2, e2, h⟩ := bd h
  refine w_callSN (pc := 2) (av := [.ref (κ.1 q_a), .ref (κ.1 q_b)]) (rest := []) (v := some (.long r2)) (L' := (va_up L q_a (.inl (κ.2.2.1, 4, .inr (.inl x_a))))) G cb_V_product_B_turnAway wd262 wd261 (met_V_product κ (va_up L q_a (.inl (κ.2.2.1, 4, .inr (.inl x_a)))) F  q_a hq_a x_a (va_up_self _ _ _) q_b hq_b x_b ((va_up_ne _ _ ne_b).trans h_b) e2) rfl rfl rfl (Nat.le_of_ble_eq_true rfl) dB_turnAway_2 ?_
  refine w_lstore (pc := 5) (lv' := [(4, .long r2), (0, .ref (κ.1 q_a)), (1, .ref (κ.1 q_b)), (2, .long v2)]) G dB_turnAway_5 (by decide) rfl ?_
  refine w_lconst (pc := 7) (v := (1 : Int64)) G dB_turnAway_7 (by decide) ?_
  refine w_lload (pc := 8) (q := 0) G dB_turnAway_8 rfl ?_
  refine w_lload_n (pc := 10) (q := 3) G dB_turnAway_10 rfl rfl ?_
  obtain ⟨r11, e11, h⟩ := bd h
  refine w_callSN (pc := 11) (av := [.long r2, .long v2]) (rest := [.long (1 : Int64)]) (v := some (.long r11)) (L' := (va_up L q_a (.inl (κ.2.2.1, 4, .inr (.inl x_a))))) G cb_V_commonDivisor_B_turnAway wd298 wd297 (met_V_commonDivisor κ (va_up L q_a (.inl (κ.2.2.1, 4, .inr (.inl x_a)))) F r2 v2  e11) rfl rfl rfl (Nat.le_of_ble_eq_true rfl) dB_turnAway_11 ?_
  refine w_max (pc := 14) G wd302 wd303 wd10 wd304 (by decide) (Nat.le_of_ble_eq_true rfl) dB_turnAway_14 ?_
  refine w_lstore (pc := 17) (lv' := [(6, .long (if r11 < (1 : Int64) then (1 : Int64) else r11)), (4, .long r2), (0, .ref (κ.1 q_a)), (1, .ref (κ.1 q_b)), (2, .long v2)]) G dB_turnAway_17 (by decide) rfl ?_
  refine w_aload_n (pc := 19) (q := 2) G dB_turnAway_19 rfl rfl ?_
  refine w_aload_n (pc := 20) (q := 2) G dB_turnAway_20 rfl rfl ?_
  refine w_lload_n (pc := 21) (q := 4) G dB_turnAway_21 rfl rfl ?_
  refine w_lload (pc := 22) (q := 0) G dB_turnAway_22 rfl ?_
  obtain ⟨z24, h⟩ := gd_some h
  refine w_ldiv (pc := 24) G dB_turnAway_24 z24 ?_
  refine w_lconst (pc := 25) (v := (1 : Int64)) G dB_turnAway_25 (by decide) ?_
  refine w_lsub (pc := 26) G dB_turnAway_26 ?_
  obtain ⟨r27, e27, h⟩ := bd h
  refine w_callSN (pc := 27) (av := [.ref (κ.1 q_a), .ref (κ.1 q_a), .long ((v2 / (if r11 < (1 : Int64) then (1 : Int64) else r11)) - (1 : Int64))]) (rest := []) (v := none) (L' := (va_up L q_a (.inl (κ.2.2.1, 4, .inr (.inl r27))))) G cb_V_addMultipleA_B_turnAway wd186 wd273 (Mt.eqw (bx_uu _ _ _ _) (met_V_addMultipleA κ (va_up L q_a (.inl (κ.2.2.1, 4, .inr (.inl x_a)))) F ((v2 / (if r11 < (1 : Int64) then (1 : Int64) else r11)) - (1 : Int64)) q_a hq_a x_a (va_up_self _ _ _) e27)) rfl rfl rfl (Nat.le_of_ble_eq_true rfl) dB_turnAway_27 ?_
  refine w_aload_n (pc := 30) (q := 2) G dB_turnAway_30 rfl rfl ?_
  refine w_aload_n (pc := 31) (q := 3) G dB_turnAway_31 rfl rfl ?_
  refine w_lload (pc := 32) (q := 1) G dB_turnAway_32 rfl ?_
  refine w_lload (pc := 34) (q := 0) G dB_turnAway_34 rfl ?_
  obtain ⟨z36, h⟩ := gd_some h
  refine w_ldiv (pc := 36) G dB_turnAway_36 z36 ?_
  refine w_lneg (pc := 37) G dB_turnAway_37 ?_
  obtain ⟨r38, e38, h⟩ := bd h
  refine w_callSN (pc := 38) (av := [.ref (κ.1 q_a), .ref (κ.1 q_b), .long (-(r2 / (if r11 < (1 : Int64) then (1 : Int64) else r11)))]) (rest := []) (v := none) (L' := (va_up L q_a (.inl (κ.2.2.1, 4, .inr (.inl r38))))) G cb_V_addMultiple_B_turnAway wd186 wd273 (Mt.eqw (bx_uu _ _ _ _) (met_V_addMultiple κ (va_up L q_a (.inl (κ.2.2.1, 4, .inr (.inl r27)))) F (-(r2 / (if r11 < (1 : Int64) then (1 : Int64) else r11))) q_a hq_a r27 (va_up_self _ _ _) q_b hq_b x_b ((va_up_ne _ _ ne_b).trans h_b) ne_b e38)) rfl rfl rfl (Nat.le_of_ble_eq_true rfl) dB_turnAway_38 ?_
  refine w_lconst (pc := 41) (v := (0 : Int64)) G dB_turnAway_41 (by decide) ?_
  refine w_lstore (pc := 42) (lv' := [(8, .long (0 : Int64)), (6, .long (if r11 < (1 : Int64) then (1 : Int64) else r11)), (4, .long r2), (0, .ref (κ.1 q_a)), (1, .ref (κ.1 q_b)), (2, .long v2)]) G dB_turnAway_42 (by decide) rfl ?_
  refine w_iconst (pc := 44) (v := (0 : Int32)) G dB_turnAway_44 (by decide) ?_
  refine w_istore (pc := 45) (lv' := [(10, .int (0 : Int32)), (8, .long (0 : Int64)), (6, .long (if r11 < (1 : Int64) then (1 : Int64) else r11)), (4, .long r2), (0, .ref (κ.1 q_a)), (1, .ref (κ.1 q_b)), (2, .long v2)]) G dB_turnAway_45 (by decide) rfl ?_
  refine w_sub (lv' := [(0, .ref (κ.1 q_a)), (8, .long (0 : Int64)), (10, .int (0 : Int32))]) [4, 1, 0] rfl ?_
  obtain ⟨o47_7, eo47_7, h⟩ := bd h
  refine lB_turnAway_47_ok G L F  q_a hq_a r38 q_b hq_b x_b h_b ne_b  F (0 : Int64) (0 : Int32) o47_7 eo47_7 ?_
  refine w_iconst (pc := 70) (v := (0 : Int32)) G dB_turnAway_70 (by decide) ?_
  refine w_istore (pc := 71) (lv' := [(10, .int (0 : Int32)), (0, .ref (κ.1 q_a)), (8, .long o47_7)]) G dB_turnAway_71 (by decide) rfl ?_
  refine w_sub (lv' := [(0, .ref (κ.1 q_a)), (8, .long o47_7), (10, .int (0 : Int32))]) [1, 2, 0] rfl ?_
  obtain ⟨o73_17, eo73_17, h⟩ := bd h
  refine lB_turnAway_73_ok G L F  q_a hq_a q_b hq_b x_b h_b ne_b  o47_7 F (0 : Int32) r38 o73_17 eo73_17 ?_
  obtain rfl := Option.some.inj h
  exact w_vret (pc := 101) G dB_turnAway_101 Fh
