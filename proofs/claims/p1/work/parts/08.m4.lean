def rm_M_root : Room := { frames := 0, cells := 0, slots := 0, locals := 0 }
theorem dM_root_0 : decode cM_root 0 = .ok (.lconst 0, 1) := by decide +kernel
theorem dM_root_1 : decode cM_root 1 = .ok (.lstore_n 2, 1) := by decide +kernel
theorem dM_root_2 : decode cM_root 2 = .ok (.ldc2_w 128, 3) := by decide +kernel
theorem dM_root_5 : decode cM_root 5 = .ok (.lstore 4, 2) := by decide +kernel
theorem dM_root_7 : decode cM_root 7 = .ok (.lload 4, 2) := by decide +kernel
theorem dM_root_9 : decode cM_root 9 = .ok (.lconst 0, 1) := by decide +kernel
theorem dM_root_10 : decode cM_root 10 = .ok (.lcmp, 1) := by decide +kernel
theorem dM_root_11 : decode cM_root 11 = .ok (.ifCond .le 37, 3) := by decide +kernel
theorem dM_root_14 : decode cM_root 14 = .ok (.lload_n 2, 1) := by decide +kernel
theorem dM_root_15 : decode cM_root 15 = .ok (.lload 4, 2) := by decide +kernel
theorem dM_root_17 : decode cM_root 17 = .ok (.ladd, 1) := by decide +kernel
theorem dM_root_18 : decode cM_root 18 = .ok (.lload_n 2, 1) := by decide +kernel
theorem dM_root_19 : decode cM_root 19 = .ok (.lload 4, 2) := by decide +kernel
theorem dM_root_21 : decode cM_root 21 = .ok (.ladd, 1) := by decide +kernel
theorem dM_root_22 : decode cM_root 22 = .ok (.lmul, 1) := by decide +kernel
theorem dM_root_23 : decode cM_root 23 = .ok (.lload_n 0, 1) := by decide +kernel
theorem dM_root_24 : decode cM_root 24 = .ok (.lcmp, 1) := by decide +kernel
theorem dM_root_25 : decode cM_root 25 = .ok (.ifCond .gt 10, 3) := by decide +kernel
theorem dM_root_28 : decode cM_root 28 = .ok (.lload_n 2, 1) := by decide +kernel
theorem dM_root_29 : decode cM_root 29 = .ok (.lload 4, 2) := by decide +kernel
theorem dM_root_31 : decode cM_root 31 = .ok (.ladd, 1) := by decide +kernel
theorem dM_root_32 : decode cM_root 32 = .ok (.goto 4, 3) := by decide +kernel
theorem dM_root_35 : decode cM_root 35 = .ok (.lload_n 2, 1) := by decide +kernel
theorem dM_root_36 : decode cM_root 36 = .ok (.lstore_n 2, 1) := by decide +kernel
theorem dM_root_37 : decode cM_root 37 = .ok (.lload 4, 2) := by decide +kernel
theorem dM_root_39 : decode cM_root 39 = .ok (.ldc2_w 130, 3) := by decide +kernel
theorem dM_root_42 : decode cM_root 42 = .ok (.ldiv, 1) := by decide +kernel
theorem dM_root_43 : decode cM_root 43 = .ok (.lstore 4, 2) := by decide +kernel
theorem dM_root_45 : decode cM_root 45 = .ok (.goto (-38), 3) := by decide +kernel
theorem dM_root_48 : decode cM_root 48 = .ok (.lload_n 2, 1) := by decide +kernel
theorem dM_root_49 : decode cM_root 49 = .ok (.lreturn, 1) := by decide +kernel
noncomputable def lM_root_7 (F : Nat) (v0 : Int64) : Nat → Int64 → Int64 → Option (Int64)
  | 0, _, _ => none
  | n + 1, v2, v4 => if v4 ≤ (0 : Int64) then some (v2) else if v0 < ((v2 + v4) * (v2 + v4)) then lM_root_7 F v0 n v2 (v4 / (2 : Int64)) else lM_root_7 F v0 n (v2 + v4) (v4 / (2 : Int64))
set_option maxHeartbeats 8000000 in
set_option maxRecDepth 100000 in
theorem lM_root_7_ok {g : Gm} {κ : ctx} (G : OK g κ RM cM_root 6 (some .long) rm_M_root) (L : Nat → va_E) (F : Nat) (v0 : Int64) : ∀ (n : Nat) (v2 : Int64) (v4 : Int64) (out : Int64), lM_root_7 F  v0 n v2 v4 = some out → (J g κ 6 48 [(2, .long out)] [] L) → J g κ 6 7 [(0, .long v0), (2, .long v2), (4, .long v4)] [] L := by
  intro n
  induction n with
  | zero =>
    intro v2 v4
    intro out h
    rw [lM_root_7] at h
    cases h
  | succ n ih =>
    intro v2 v4 out h K
    rw [lM_root_7] at h
    refine w_lload (pc := 7) (q := 2) G dM_root_7 rfl ?_
    refine w_lconst (pc := 9) (v := (0 : Int64)) G dM_root_9 (by decide) ?_
    refine w_lc_le (pc := 10) (tgt := 48) G dM_root_10 dM_root_11 (by decide) (fun c10 => ?_) (fun c10 => ?_)
    · have h := if_t c10 h
      obtain rfl := Option.some.inj h
      refine w_sub (lv' := [(2, .long v2)]) [1] rfl ?_
      exact K
    · have h := if_f c10 h
      refine w_lload_n (pc := 14) (q := 1) G dM_root_14 rfl rfl ?_
      refine w_lload (pc := 15) (q := 2) G dM_root_15 rfl ?_
      refine w_ladd (pc := 17) G dM_root_17 ?_
      refine w_lload_n (pc := 18) (q := 1) G dM_root_18 rfl rfl ?_
      refine w_lload (pc := 19) (q := 2) G dM_root_19 rfl ?_
      refine w_ladd (pc := 21) G dM_root_21 ?_
      refine w_lmul (pc := 22) G dM_root_22 ?_
      refine w_lload_n (pc := 23) (q := 0) G dM_root_23 rfl rfl ?_
      refine w_lc_gt (pc := 24) (tgt := 35) G dM_root_24 dM_root_25 (by decide) (fun c24 => ?_) (fun c24 => ?_)
      · have h := if_t c24 h
        refine w_lload_n (pc := 35) (q := 1) G dM_root_35 rfl rfl ?_
        refine w_lstore_n (pc := 36) (lv' := [(2, .long v2), (0, .long v0), (4, .long v4)]) G dM_root_36 rfl (by decide) rfl ?_
        refine w_lload (pc := 37) (q := 2) G dM_root_37 rfl ?_
        refine w_ldc2 (pc := 39) (v := (2 : Int64)) G wd710 dM_root_39 ?_
        refine w_ldiv (pc := 42) G dM_root_42 (by decide) ?_
        refine w_lstore (pc := 43) (lv' := [(4, .long (v4 / (2 : Int64))), (2, .long v2), (0, .long v0)]) G dM_root_43 (by decide) rfl ?_
        refine w_goto (pc := 45) (tgt := 7) G dM_root_45 (by decide) ?_
        refine w_sub (lv' := [(0, .long v0), (2, .long v2), (4, .long (v4 / (2 : Int64)))]) [2, 1, 0] rfl ?_
        exact ih v2 (v4 / (2 : Int64)) out h K
      · have h := if_f c24 h
        refine w_lload_n (pc := 28) (q := 1) G dM_root_28 rfl rfl ?_
        refine w_lload (pc := 29) (q := 2) G dM_root_29 rfl ?_
        refine w_ladd (pc := 31) G dM_root_31 ?_
        refine w_goto (pc := 32) (tgt := 36) G dM_root_32 (by decide) ?_
        refine w_lstore_n (pc := 36) (lv' := [(2, .long (v2 + v4)), (0, .long v0), (4, .long v4)]) G dM_root_36 rfl (by decide) rfl ?_
        refine w_lload (pc := 37) (q := 2) G dM_root_37 rfl ?_
        refine w_ldc2 (pc := 39) (v := (2 : Int64)) G wd710 dM_root_39 ?_
        refine w_ldiv (pc := 42) G dM_root_42 (by decide) ?_
        refine w_lstore (pc := 43) (lv' := [(4, .long (v4 / (2 : Int64))), (2, .long (v2 + v4)), (0, .long v0)]) G dM_root_43 (by decide) rfl ?_
        refine w_goto (pc := 45) (tgt := 7) G dM_root_45 (by decide) ?_
        refine w_sub (lv' := [(0, .long v0), (2, .long (v2 + v4)), (4, .long (v4 / (2 : Int64)))]) [2, 1, 0] rfl ?_
        exact ih (v2 + v4) (v4 / (2 : Int64)) out h K
noncomputable def M_root (F : Nat)  (v0 : Int64) : Option (Int64) := (lM_root_7 F v0 F (0 : Int64) (65536 : Int64)).bind (fun o7_11 => some o7_11)
set_option maxHeartbeats 8000000 in
set_option maxRecDepth 100000 in
theorem met_M_root (κ : ctx) (L : Nat → va_E) (F : Nat) (v0 : Int64) {out : Int64} (h : M_root F  v0 = some out) : Mt yM_root cM_root 6 (some .long) rm_M_root κ [.long v0] L (some (.long out)) L := by
  refine Mt.of (by decide) (Nat.le_of_ble_eq_true rfl) ?_
  intro g G Fh
  unfold M_root at h
  show J g κ 6 0 [(0, .long v0)] [] L
  refine w_lconst (pc := 0) (v := (0 : Int64)) G dM_root_0 (by decide) ?_
  refine w_lstore_n (pc := 1) (lv' := [(2, .long (0 : Int64)), (0, .long v0)]) G dM_root_1 rfl (by decide) rfl ?_
  refine w_ldc2 (pc := 2) (v := (65536 : Int64)) G wd726 dM_root_2 ?_
  refine w_lstore (pc := 5) (lv' := [(4, .long (65536 : Int64)), (2, .long (0 : Int64)), (0, .long v0)]) G dM_root_5 (by decide) rfl ?_
  refine w_sub (lv' := [(0, .long v0), (2, .long (0 : Int64)), (4, .long (65536 : Int64))]) [2, 1, 0] rfl ?_
  obtain ⟨o7_11, eo7_11, h⟩ := bd h
  refine lM_root_7_ok G L F  v0 F (0 : Int64) (65536 : Int64) o7_11 eo7_11 ?_
  refine w_lload_n (pc := 48) (q := 0) G dM_root_48 rfl rfl ?_
  obtain rfl := Option.some.inj h
  exact w_lret (pc := 49) G dM_root_49 Fh
def rm_M_range : Room := { frames := 1, cells := 0, slots := 0, locals := 25 }
theorem dM_range_0 : decode cM_range 0 = .ok (.aload_n 0, 1) := by decide +kernel
theorem dM_range_1 : decode cM_range 1 = .ok (.getfield 17, 3) := by decide +kernel
theorem dM_range_4 : decode cM_range 4 = .ok (.iload_n 1, 1) := by decide +kernel
theorem dM_range_5 : decode cM_range 5 = .ok (.iaload, 1) := by decide +kernel
theorem dM_range_6 : decode cM_range 6 = .ok (.istore_n 2, 1) := by decide +kernel
theorem dM_range_7 : decode cM_range 7 = .ok (.aload_n 0, 1) := by decide +kernel
theorem dM_range_8 : decode cM_range 8 = .ok (.getfield 13, 3) := by decide +kernel
theorem dM_range_11 : decode cM_range 11 = .ok (.iconst 4, 1) := by decide +kernel
theorem dM_range_12 : decode cM_range 12 = .ok (.iload_n 1, 1) := by decide +kernel
theorem dM_range_13 : decode cM_range 13 = .ok (.imul, 1) := by decide +kernel
theorem dM_range_14 : decode cM_range 14 = .ok (.iload_n 2, 1) := by decide +kernel
theorem dM_range_15 : decode cM_range 15 = .ok (.iadd, 1) := by decide +kernel
theorem dM_range_16 : decode cM_range 16 = .ok (.laload, 1) := by decide +kernel
theorem dM_range_17 : decode cM_range 17 = .ok (.lstore_n 3, 1) := by decide +kernel
theorem dM_range_18 : decode cM_range 18 = .ok (.aload_n 0, 1) := by decide +kernel
theorem dM_range_19 : decode cM_range 19 = .ok (.getfield 132, 3) := by decide +kernel
theorem dM_range_22 : decode cM_range 22 = .ok (.aload_n 0, 1) := by decide +kernel
theorem dM_range_23 : decode cM_range 23 = .ok (.getfield 32, 3) := by decide +kernel
theorem dM_range_26 : decode cM_range 26 = .ok (.iload_n 1, 1) := by decide +kernel
theorem dM_range_27 : decode cM_range 27 = .ok (.laload, 1) := by decide +kernel
theorem dM_range_28 : decode cM_range 28 = .ok (.lsub, 1) := by decide +kernel
theorem dM_range_29 : decode cM_range 29 = .ok (.invokestatic 136, 3) := by decide +kernel
theorem dM_range_32 : decode cM_range 32 = .ok (.lstore 5, 2) := by decide +kernel
theorem dM_range_34 : decode cM_range 34 = .ok (.aload_n 0, 1) := by decide +kernel
theorem dM_range_35 : decode cM_range 35 = .ok (.getfield 29, 3) := by decide +kernel
theorem dM_range_38 : decode cM_range 38 = .ok (.iconst 4, 1) := by decide +kernel
theorem dM_range_39 : decode cM_range 39 = .ok (.iload_n 1, 1) := by decide +kernel
theorem dM_range_40 : decode cM_range 40 = .ok (.imul, 1) := by decide +kernel
theorem dM_range_41 : decode cM_range 41 = .ok (.iload_n 2, 1) := by decide +kernel
theorem dM_range_42 : decode cM_range 42 = .ok (.iadd, 1) := by decide +kernel
theorem dM_range_43 : decode cM_range 43 = .ok (.laload, 1) := by decide +kernel
theorem dM_range_44 : decode cM_range 44 = .ok (.aload_n 0, 1) := by decide +kernel
theorem dM_range_45 : decode cM_range 45 = .ok (.getfield 35, 3) := by decide +kernel
theorem dM_range_48 : decode cM_range 48 = .ok (.iload_n 2, 1) := by decide +kernel
theorem dM_range_49 : decode cM_range 49 = .ok (.laload, 1) := by decide +kernel
theorem dM_range_50 : decode cM_range 50 = .ok (.lsub, 1) := by decide +kernel
theorem dM_range_51 : decode cM_range 51 = .ok (.lstore 7, 2) := by decide +kernel
theorem dM_range_53 : decode cM_range 53 = .ok (.aload_n 0, 1) := by decide +kernel
theorem dM_range_54 : decode cM_range 54 = .ok (.getfield 23, 3) := by decide +kernel
theorem dM_range_57 : decode cM_range 57 = .ok (.iload_n 1, 1) := by decide +kernel
theorem dM_range_58 : decode cM_range 58 = .ok (.lload 7, 2) := by decide +kernel
theorem dM_range_60 : decode cM_range 60 = .ok (.lload 5, 2) := by decide +kernel
theorem dM_range_62 : decode cM_range 62 = .ok (.ladd, 1) := by decide +kernel
theorem dM_range_63 : decode cM_range 63 = .ok (.lload_n 3, 1) := by decide +kernel
theorem dM_range_64 : decode cM_range 64 = .ok (.invokestatic 81, 3) := by decide +kernel
theorem dM_range_67 : decode cM_range 67 = .ok (.lneg, 1) := by decide +kernel
theorem dM_range_68 : decode cM_range 68 = .ok (.lconst 1, 1) := by decide +kernel
theorem dM_range_69 : decode cM_range 69 = .ok (.lsub, 1) := by decide +kernel
theorem dM_range_70 : decode cM_range 70 = .ok (.lastore, 1) := by decide +kernel
theorem dM_range_71 : decode cM_range 71 = .ok (.aload_n 0, 1) := by decide +kernel
theorem dM_range_72 : decode cM_range 72 = .ok (.getfield 26, 3) := by decide +kernel
theorem dM_range_75 : decode cM_range 75 = .ok (.iload_n 1, 1) := by decide +kernel
theorem dM_range_76 : decode cM_range 76 = .ok (.lload 5, 2) := by decide +kernel
theorem dM_range_78 : decode cM_range 78 = .ok (.lload 7, 2) := by decide +kernel
theorem dM_range_80 : decode cM_range 80 = .ok (.lsub, 1) := by decide +kernel
theorem dM_range_81 : decode cM_range 81 = .ok (.lload_n 3, 1) := by decide +kernel
theorem dM_range_82 : decode cM_range 82 = .ok (.invokestatic 81, 3) := by decide +kernel
theorem dM_range_85 : decode cM_range 85 = .ok (.lastore, 1) := by decide +kernel
theorem dM_range_86 : decode cM_range 86 = .ok (.return_, 1) := by decide +kernel
theorem cb_M_root_M_range : CB yM_root cM_root 6 (some .long) rm_M_root rm_M_range 1 := ⟨wd725, wd8, by decide +kernel, rfl, rfl, by decide⟩
theorem cb_M_under_M_range : CB yM_under cM_under 6 (some .long) rm_M_under rm_M_range 2 := ⟨wd613, wd8, by decide +kernel, rfl, rfl, by decide⟩
noncomputable def M_range (F : Nat) (x_row : Nat → Int64) (x_pivot : Nat → Int32) (x_multiple : Nat → Int64) (x_last : Nat → Int64) (x_made : Nat → Int64) (x_settled : Nat → Int64) (x_point : Nat → Int64) (x_limit : Int64) (v1 : Int32) : Option ((Nat → Int64) × (Nat → Int64)) := gd (vp_in v1 5) (gd (vp_in (((4 : Int32) * v1) + (x_pivot v1.toNatClampNeg)) 16) (gd (vp_in v1 5) ((M_root F  (x_limit - (x_settled v1.toNatClampNeg))).bind (fun r29 => gd (vp_in (((4 : Int32) * v1) + (x_pivot v1.toNatClampNeg)) 20) (gd (vp_in (x_pivot v1.toNatClampNeg) 4) ((M_under F  (((x_made (((4 : Int32) * v1) + (x_pivot v1.toNatClampNeg)).toNatClampNeg) - (x_point (x_pivot v1.toNatClampNeg).toNatClampNeg)) + r29) (x_row (((4 : Int32) * v1) + (x_pivot v1.toNatClampNeg)).toNatClampNeg)).bind (fun r64 => gd (vp_in v1 4) ((M_under F  (r29 - ((x_made (((4 : Int32) * v1) + (x_pivot v1.toNatClampNeg)).toNatClampNeg) - (x_point (x_pivot v1.toNatClampNeg).toNatClampNeg))) (x_row (((4 : Int32) * v1) + (x_pivot v1.toNatClampNeg)).toNatClampNeg)).bind (fun r82 => gd (vp_in v1 4) (some (vp_updL x_multiple v1.toNatClampNeg ((-r64) - (1 : Int64)), vp_updL x_last v1.toNatClampNeg r82)))))))))))
set_option maxHeartbeats 8000000 in
set_option maxRecDepth 100000 in
theorem met_M_range (κ : ctx) (X : Nat → va_E) (F : Nat) {x_many : Int32} {x_generator : Nat → Int32} {x_known : Int32} {x_without : Int32} {x_rows : Int32} {x_row : Nat → Int64} {x_pivot : Nat → Int32} {x_fresh : Nat → Int64} {x_multiple : Nat → Int64} {x_last : Nat → Int64} {x_made : Nat → Int64} {x_settled : Nat → Int64} {x_point : Nat → Int64} {x_limit : Int64} {x_mode : Int32} {x_counted : Int32} {x_listed : Int32} {x_held : Int32} {x_first : Nat → Int64} {x_squares : Nat → Int64} {x_wanted : Int32} {x_spanned : Int32} {x_span : Nat → Int64} {x_minima : Nat → Int32} {x_measured : Int32} {x_found : Nat → Int64} {x_any : Int32} (v1 : Int32) {out : (Nat → Int64) × (Nat → Int64)} (h : M_range F x_row x_pivot x_multiple x_last x_made x_settled x_point x_limit v1 = some out) : Mt yM_range cM_range 9 none rm_M_range κ [.ref (κ.1 0), .int v1] (LM κ (x_many, x_generator, x_known, x_without, x_rows, x_row, x_pivot, x_fresh, x_multiple, x_last, x_made, x_settled, x_point, x_limit, x_mode, x_counted, x_listed, x_held, x_first, x_squares, x_wanted, x_spanned, x_span, x_minima, x_measured, x_found, x_any) X) none (LM κ (x_many, x_generator, x_known, x_without, x_rows, x_row, x_pivot, x_fresh, out.1, out.2, x_made, x_settled, x_point, x_limit, x_mode, x_counted, x_listed, x_held, x_first, x_squares, x_wanted, x_spanned, x_span, x_minima, x_measured, x_found, x_any) X) := by
  refine Mt.of (by decide) (Nat.le_of_ble_eq_true rfl) ?_
  intro g G Fh
  unfold M_range at h
  show J g κ 9 0 [(0, .ref (κ.1 0)), (1, .int v1)] [] (LM κ (x_many, x_generator, x_known, x_without, x_rows, x_row, x_pivot, x_fresh, x_multiple, x_last, x_made, x_settled, x_point, x_limit, x_mode, x_counted, x_listed, x_held, x_first, x_squares, x_wanted, x_spanned, x_span, x_minima, x_measured, x_found, x_any) X)
  refine w_aload_n (pc := 0) (q := 0) G dM_range_0 rfl rfl ?_
  refine w_get (pc := 1) (v := .ref (κ.1 3)) (fs := fl_M κ (x_many, x_generator, x_known, x_without, x_rows, x_row, x_pivot, x_fresh, x_multiple, x_last, x_made, x_settled, x_point, x_limit, x_mode, x_counted, x_listed, x_held, x_first, x_squares, x_wanted, x_spanned, x_span, x_minima, x_measured, x_found, x_any)) G 0 (by decide) lb_M rfl wsM_ok 6 (by decide) wd496 gf_M_6 dM_range_1 ?_
  refine w_iload_n (pc := 4) (q := 1) G dM_range_4 rfl rfl ?_
  obtain ⟨i5, h⟩ := gd_some h
  refine w_iald (pc := 5) (n := 5) (f := x_pivot) G 3 (by decide) lk_pivot i5 dM_range_5 ?_
  refine w_istore_n (pc := 6) (lv' := [(2, .int (x_pivot v1.toNatClampNeg)), (0, .ref (κ.1 0)), (1, .int v1)]) G dM_range_6 rfl (by decide) rfl ?_
  refine w_aload_n (pc := 7) (q := 1) G dM_range_7 rfl rfl ?_
  refine w_get (pc := 8) (v := .ref (κ.1 2)) (fs := fl_M κ (x_many, x_generator, x_known, x_without, x_rows, x_row, x_pivot, x_fresh, x_multiple, x_last, x_made, x_settled, x_point, x_limit, x_mode, x_counted, x_listed, x_held, x_first, x_squares, x_wanted, x_spanned, x_span, x_minima, x_measured, x_found, x_any)) G 0 (by decide) lb_M rfl wsM_ok 5 (by decide) wd495 gf_M_5 dM_range_8 ?_
  refine w_iconst (pc := 11) (v := (4 : Int32)) G dM_range_11 (by decide) ?_
  refine w_iload_n (pc := 12) (q := 2) G dM_range_12 rfl rfl ?_
  refine w_imul (pc := 13) G dM_range_13 ?_
  refine w_iload_n (pc := 14) (q := 0) G dM_range_14 rfl rfl ?_
  refine w_iadd (pc := 15) G dM_range_15 ?_
  obtain ⟨i16, h⟩ := gd_some h
  refine w_lald (pc := 16) (n := 16) (f := x_row) G 2 (by decide) lk_row i16 dM_range_16 ?_
  refine w_lstore_n (pc := 17) (lv' := [(3, .long (x_row (((4 : Int32) * v1) + (x_pivot v1.toNatClampNeg)).toNatClampNeg)), (2, .int (x_pivot v1.toNatClampNeg)), (0, .ref (κ.1 0)), (1, .int v1)]) G dM_range_17 rfl (by decide) rfl ?_
  refine w_aload_n (pc := 18) (q := 2) G dM_range_18 rfl rfl ?_
  refine w_get (pc := 19) (v := .long x_limit) (fs := fl_M κ (x_many, x_generator, x_known, x_without, x_rows, x_row, x_pivot, x_fresh, x_multiple, x_last, x_made, x_settled, x_point, x_limit, x_mode, x_counted, x_listed, x_held, x_first, x_squares, x_wanted, x_spanned, x_span, x_minima, x_measured, x_found, x_any)) G 0 (by decide) lb_M rfl wsM_ok 13 (by decide) wd503 gf_M_13 dM_range_19 ?_
  refine w_aload_n (pc := 22) (q := 2) G dM_range_22 rfl rfl ?_
  refine w_get (pc := 23) (v := .ref (κ.1 8)) (fs := fl_M κ (x_many, x_generator, x_known, x_without, x_rows, x_row, x_pivot, x_fresh, x_multiple, x_last, x_made, x_settled, x_point, x_limit, x_mode, x_counted, x_listed, x_held, x_first, x_squares, x_wanted, x_spanned, x_span, x_minima, x_measured, x_found, x_any)) G 0 (by decide) lb_M rfl wsM_ok 11 (by decide) wd501 gf_M_11 dM_range_23 ?_
  refine w_iload_n (pc := 26) (q := 3) G dM_range_26 rfl rfl ?_
  obtain ⟨i27, h⟩ := gd_some h
  refine w_lald (pc := 27) (n := 5) (f := x_settled) G 8 (by decide) lk_settled i27 dM_range_27 ?_
  refine w_lsub (pc := 28) G dM_range_28 ?_
  obtain ⟨r29, e29, h⟩ := bd h
  refine w_callS (pc := 29) (av := [.long (x_limit - (x_settled v1.toNatClampNeg))]) (rest := []) (v := some (.long r29)) (L' := (LM κ (x_many, x_generator, x_known, x_without, x_rows, x_row, x_pivot, x_fresh, x_multiple, x_last, x_made, x_settled, x_point, x_limit, x_mode, x_counted, x_listed, x_held, x_first, x_squares, x_wanted, x_spanned, x_span, x_minima, x_measured, x_found, x_any) X)) G cb_M_root_M_range wd724 wd723 (met_M_root κ (LM κ (x_many, x_generator, x_known, x_without, x_rows, x_row, x_pivot, x_fresh, x_multiple, x_last, x_made, x_settled, x_point, x_limit, x_mode, x_counted, x_listed, x_held, x_first, x_squares, x_wanted, x_spanned, x_span, x_minima, x_measured, x_found, x_any) X) F (x_limit - (x_settled v1.toNatClampNeg))  e29) rfl rfl rfl (Nat.le_of_ble_eq_true rfl) dM_range_29 ?_
  refine w_lstore (pc := 32) (lv' := [(5, .long r29), (3, .long (x_row (((4 : Int32) * v1) + (x_pivot v1.toNatClampNeg)).toNatClampNeg)), (2, .int (x_pivot v1.toNatClampNeg)), (0, .ref (κ.1 0)), (1, .int v1)]) G dM_range_32 (by decide) rfl ?_
  refine w_aload_n (pc := 34) (q := 3) G dM_range_34 rfl rfl ?_
  refine w_get (pc := 35) (v := .ref (κ.1 7)) (fs := fl_M κ (x_many, x_generator, x_known, x_without, x_rows, x_row, x_pivot, x_fresh, x_multiple, x_last, x_made, x_settled, x_point, x_limit, x_mode, x_counted, x_listed, x_held, x_first, x_squares, x_wanted, x_spanned, x_span, x_minima, x_measured, x_found, x_any)) G 0 (by decide) lb_M rfl wsM_ok 10 (by decide) wd500 gf_M_10 dM_range_35 ?_
  refine w_iconst (pc := 38) (v := (4 : Int32)) G dM_range_38 (by decide) ?_
  refine w_iload_n (pc := 39) (q := 4) G dM_range_39 rfl rfl ?_
  refine w_imul (pc := 40) G dM_range_40 ?_
  refine w_iload_n (pc := 41) (q := 2) G dM_range_41 rfl rfl ?_
  refine w_iadd (pc := 42) G dM_range_42 ?_
  obtain ⟨i43, h⟩ := gd_some h
  refine w_lald (pc := 43) (n := 20) (f := x_made) G 7 (by decide) lk_made i43 dM_range_43 ?_
  refine w_aload_n (pc := 44) (q := 3) G dM_range_44 rfl rfl ?_
  refine w_get (pc := 45) (v := .ref (κ.1 9)) (fs := fl_M κ (x_many, x_generator, x_known, x_without, x_rows, x_row, x_pivot, x_fresh, x_multiple, x_last, x_made, x_settled, x_point, x_limit, x_mode, x_counted, x_listed, x_held, x_first, x_squares, x_wanted, x_spanned, x_span, x_minima, x_measured, x_found, x_any)) G 0 (by decide) lb_M rfl wsM_ok 12 (by decide) wd502 gf_M_12 dM_range_45 ?_
  refine w_iload_n (pc := 48) (q := 2) G dM_range_48 rfl rfl ?_
  obtain ⟨i49, h⟩ := gd_some h
  refine w_lald (pc := 49) (n := 4) (f := x_point) G 9 (by decide) lk_point i49 dM_range_49 ?_
  refine w_lsub (pc := 50) G dM_range_50 ?_
  refine w_lstore (pc := 51) (lv' := [(7, .long ((x_made (((4 : Int32) * v1) + (x_pivot v1.toNatClampNeg)).toNatClampNeg) - (x_point (x_pivot v1.toNatClampNeg).toNatClampNeg))), (5, .long r29), (3, .long (x_row (((4 : Int32) * v1) + (x_pivot v1.toNatClampNeg)).toNatClampNeg)), (2, .int (x_pivot v1.toNatClampNeg)), (0, .ref (κ.1 0)), (1, .int v1)]) G dM_range_51 (by decide) rfl ?_
  refine w_aload_n (pc := 53) (q := 4) G dM_range_53 rfl rfl ?_
  refine w_get (pc := 54) (v := .ref (κ.1 5)) (fs := fl_M κ (x_many, x_generator, x_known, x_without, x_rows, x_row, x_pivot, x_fresh, x_multiple, x_last, x_made, x_settled, x_point, x_limit, x_mode, x_counted, x_listed, x_held, x_first, x_squares, x_wanted, x_spanned, x_span, x_minima, x_measured, x_found, x_any)) G 0 (by decide) lb_M rfl wsM_ok 8 (by decide) wd498 gf_M_8 dM_range_54 ?_
  refine w_iload_n (pc := 57) (q := 5) G dM_range_57 rfl rfl ?_
  refine w_lload (pc := 58) (q := 0) G dM_range_58 rfl ?_
  refine w_lload (pc := 60) (q := 1) G dM_range_60 rfl ?_
  refine w_ladd (pc := 62) G dM_range_62 ?_
  refine w_lload_n (pc := 63) (q := 2) G dM_range_63 rfl rfl ?_
  obtain ⟨r64, e64, h⟩ := bd h
  refine w_callS (pc := 64) (av := [.long (((x_made (((4 : Int32) * v1) + (x_pivot v1.toNatClampNeg)).toNatClampNeg) - (x_point (x_pivot v1.toNatClampNeg).toNatClampNeg)) + r29), .long (x_row (((4 : Int32) * v1) + (x_pivot v1.toNatClampNeg)).toNatClampNeg)]) (rest := [.int v1, .ref (κ.1 5)]) (v := some (.long r64)) (L' := (LM κ (x_many, x_generator, x_known, x_without, x_rows, x_row, x_pivot, x_fresh, x_multiple, x_last, x_made, x_settled, x_point, x_limit, x_mode, x_counted, x_listed, x_held, x_first, x_squares, x_wanted, x_spanned, x_span, x_minima, x_measured, x_found, x_any) X)) G cb_M_under_M_range wd612 wd611 (met_M_under κ (LM κ (x_many, x_generator, x_known, x_without, x_rows, x_row, x_pivot, x_fresh, x_multiple, x_last, x_made, x_settled, x_point, x_limit, x_mode, x_counted, x_listed, x_held, x_first, x_squares, x_wanted, x_spanned, x_span, x_minima, x_measured, x_found, x_any) X) F (((x_made (((4 : Int32) * v1) + (x_pivot v1.toNatClampNeg)).toNatClampNeg) - (x_point (x_pivot v1.toNatClampNeg).toNatClampNeg)) + r29) (x_row (((4 : Int32) * v1) + (x_pivot v1.toNatClampNeg)).toNatClampNeg)  e64) rfl rfl rfl (Nat.le_of_ble_eq_true rfl) dM_range_64 ?_
  refine w_lneg (pc := 67) G dM_range_67 ?_
  refine w_lconst (pc := 68) (v := (1 : Int64)) G dM_range_68 (by decide) ?_
  refine w_lsub (pc := 69) G dM_range_69 ?_
  obtain ⟨i70, h⟩ := gd_some h
  refine w_last (pc := 70) (n := 4) (f := x_multiple) (L1 := (LM κ (x_many, x_generator, x_known, x_without, x_rows, x_row, x_pivot, x_fresh, vp_updL x_multiple v1.toNatClampNeg ((-r64) - (1 : Int64)), x_last, x_made, x_settled, x_point, x_limit, x_mode, x_counted, x_listed, x_held, x_first, x_squares, x_wanted, x_spanned, x_span, x_minima, x_measured, x_found, x_any) X)) G 5 (by decide) lk_multiple i70 dM_range_70 up_multiple ?_
  refine w_aload_n (pc := 71) (q := 4) G dM_range_71 rfl rfl ?_
  refine w_get (pc := 72) (v := .ref (κ.1 6)) (fs := fl_M κ (x_many, x_generator, x_known, x_without, x_rows, x_row, x_pivot, x_fresh, vp_updL x_multiple v1.toNatClampNeg ((-r64) - (1 : Int64)), x_last, x_made, x_settled, x_point, x_limit, x_mode, x_counted, x_listed, x_held, x_first, x_squares, x_wanted, x_spanned, x_span, x_minima, x_measured, x_found, x_any)) G 0 (by decide) lb_M rfl wsM_ok 9 (by decide) wd499 gf_M_9 dM_range_72 ?_
  refine w_iload_n (pc := 75) (q := 5) G dM_range_75 rfl rfl ?_
  refine w_lload (pc := 76) (q := 1) G dM_range_76 rfl ?_
  refine w_lload (pc := 78) (q := 0) G dM_range_78 rfl ?_
  refine w_lsub (pc := 80) G dM_range_80 ?_
  refine w_lload_n (pc := 81) (q := 2) G dM_range_81 rfl rfl ?_
  obtain ⟨r82, e82, h⟩ := bd h
  refine w_callS (pc := 82) (av := [.long (r29 - ((x_made (((4 : Int32) * v1) + (x_pivot v1.toNatClampNeg)).toNatClampNeg) - (x_point (x_pivot v1.toNatClampNeg).toNatClampNeg))), .long (x_row (((4 : Int32) * v1) + (x_pivot v1.toNatClampNeg)).toNatClampNeg)]) (rest := [.int v1, .ref (κ.1 6)]) (v := some (.long r82)) (L' := (LM κ (x_many, x_generator, x_known, x_without, x_rows, x_row, x_pivot, x_fresh, vp_updL x_multiple v1.toNatClampNeg ((-r64) - (1 : Int64)), x_last, x_made, x_settled, x_point, x_limit, x_mode, x_counted, x_listed, x_held, x_first, x_squares, x_wanted, x_spanned, x_span, x_minima, x_measured, x_found, x_any) X)) G cb_M_under_M_range wd612 wd611 (met_M_under κ (LM κ (x_many, x_generator, x_known, x_without, x_rows, x_row, x_pivot, x_fresh, vp_updL x_multiple v1.toNatClampNeg ((-r64) - (1 : Int64)), x_last, x_made, x_settled, x_point, x_limit, x_mode, x_counted, x_listed, x_held, x_first, x_squares, x_wanted, x_spanned, x_span, x_minima, x_measured, x_found, x_any) X) F (r29 - ((x_made (((4 : Int32) * v1) + (x_pivot v1.toNatClampNeg)).toNatClampNeg) - (x_point (x_pivot v1.toNatClampNeg).toNatClampNeg))) (x_row (((4 : Int32) * v1) + (x_pivot v1.toNatClampNeg)).toNatClampNeg)  e82) rfl rfl rfl (Nat.le_of_ble_eq_true rfl) dM_range_82 ?_
  obtain ⟨i85, h⟩ := gd_some h
  refine w_last (pc := 85) (n := 4) (f := x_last) (L1 := (LM κ (x_many, x_generator, x_known, x_without, x_rows, x_row, x_pivot, x_fresh, vp_updL x_multiple v1.toNatClampNeg ((-r64) - (1 : Int64)), vp_updL x_last v1.toNatClampNeg r82, x_made, x_settled, x_point, x_limit, x_mode, x_counted, x_listed, x_held, x_first, x_squares, x_wanted, x_spanned, x_span, x_minima, x_measured, x_found, x_any) X)) G 6 (by decide) lk_last i85 dM_range_85 up_last ?_
  obtain rfl := Option.some.inj h
  exact w_vret (pc := 86) G dM_range_86 Fh
def rm_M_walk : Room := { frames := 6, cells := 0, slots := 0, locals := 155 }
theorem dM_walk_0 : decode cM_walk 0 = .ok (.aload_n 0, 1) := by decide +kernel
theorem dM_walk_1 : decode cM_walk 1 = .ok (.iload_n 1, 1) := by decide +kernel
theorem dM_walk_2 : decode cM_walk 2 = .ok (.putfield 146, 3) := by decide +kernel
theorem dM_walk_5 : decode cM_walk 5 = .ok (.aload_n 0, 1) := by decide +kernel
theorem dM_walk_6 : decode cM_walk 6 = .ok (.lload_n 2, 1) := by decide +kernel
theorem dM_walk_7 : decode cM_walk 7 = .ok (.putfield 132, 3) := by decide +kernel
theorem dM_walk_10 : decode cM_walk 10 = .ok (.aload_n 0, 1) := by decide +kernel
theorem dM_walk_11 : decode cM_walk 11 = .ok (.getfield 32, 3) := by decide +kernel
theorem dM_walk_14 : decode cM_walk 14 = .ok (.iconst 0, 1) := by decide +kernel
theorem dM_walk_15 : decode cM_walk 15 = .ok (.lconst 0, 1) := by decide +kernel
theorem dM_walk_16 : decode cM_walk 16 = .ok (.lastore, 1) := by decide +kernel
theorem dM_walk_17 : decode cM_walk 17 = .ok (.iconst 0, 1) := by decide +kernel
theorem dM_walk_18 : decode cM_walk 18 = .ok (.istore 4, 2) := by decide +kernel
theorem dM_walk_20 : decode cM_walk 20 = .ok (.iload 4, 2) := by decide +kernel
theorem dM_walk_22 : decode cM_walk 22 = .ok (.iconst 4, 1) := by decide +kernel
theorem dM_walk_23 : decode cM_walk 23 = .ok (.if_icmp .ge 64, 3) := by decide +kernel
theorem dM_walk_26 : decode cM_walk 26 = .ok (.aload_n 0, 1) := by decide +kernel
theorem dM_walk_27 : decode cM_walk 27 = .ok (.getfield 29, 3) := by decide +kernel
theorem dM_walk_30 : decode cM_walk 30 = .ok (.iload 4, 2) := by decide +kernel
theorem dM_walk_32 : decode cM_walk 32 = .ok (.lconst 0, 1) := by decide +kernel
theorem dM_walk_33 : decode cM_walk 33 = .ok (.lastore, 1) := by decide +kernel
theorem dM_walk_34 : decode cM_walk 34 = .ok (.aload_n 0, 1) := by decide +kernel
theorem dM_walk_35 : decode cM_walk 35 = .ok (.getfield 32, 3) := by decide +kernel
theorem dM_walk_38 : decode cM_walk 38 = .ok (.iconst 0, 1) := by decide +kernel
theorem dM_walk_39 : decode cM_walk 39 = .ok (.iload 4, 2) := by decide +kernel
theorem dM_walk_41 : decode cM_walk 41 = .ok (.aload_n 0, 1) := by decide +kernel
theorem dM_walk_42 : decode cM_walk 42 = .ok (.iconst 0, 1) := by decide +kernel
theorem dM_walk_43 : decode cM_walk 43 = .ok (.invokevirtual 140, 3) := by decide +kernel
theorem dM_walk_46 : decode cM_walk 46 = .ok (.if_icmp .ge 28, 3) := by decide +kernel
theorem dM_walk_49 : decode cM_walk 49 = .ok (.aload_n 0, 1) := by decide +kernel
theorem dM_walk_50 : decode cM_walk 50 = .ok (.getfield 32, 3) := by decide +kernel
theorem dM_walk_53 : decode cM_walk 53 = .ok (.iconst 0, 1) := by decide +kernel
theorem dM_walk_54 : decode cM_walk 54 = .ok (.laload, 1) := by decide +kernel
theorem dM_walk_55 : decode cM_walk 55 = .ok (.aload_n 0, 1) := by decide +kernel
theorem dM_walk_56 : decode cM_walk 56 = .ok (.getfield 35, 3) := by decide +kernel
theorem dM_walk_59 : decode cM_walk 59 = .ok (.iload 4, 2) := by decide +kernel
theorem dM_walk_61 : decode cM_walk 61 = .ok (.laload, 1) := by decide +kernel
theorem dM_walk_62 : decode cM_walk 62 = .ok (.aload_n 0, 1) := by decide +kernel
theorem dM_walk_63 : decode cM_walk 63 = .ok (.getfield 35, 3) := by decide +kernel
theorem dM_walk_66 : decode cM_walk 66 = .ok (.iload 4, 2) := by decide +kernel
theorem dM_walk_68 : decode cM_walk 68 = .ok (.laload, 1) := by decide +kernel
theorem dM_walk_69 : decode cM_walk 69 = .ok (.lmul, 1) := by decide +kernel
theorem dM_walk_70 : decode cM_walk 70 = .ok (.ladd, 1) := by decide +kernel
theorem dM_walk_71 : decode cM_walk 71 = .ok (.goto 9, 3) := by decide +kernel
theorem dM_walk_74 : decode cM_walk 74 = .ok (.aload_n 0, 1) := by decide +kernel
theorem dM_walk_75 : decode cM_walk 75 = .ok (.getfield 32, 3) := by decide +kernel
theorem dM_walk_78 : decode cM_walk 78 = .ok (.iconst 0, 1) := by decide +kernel
theorem dM_walk_79 : decode cM_walk 79 = .ok (.laload, 1) := by decide +kernel
theorem dM_walk_80 : decode cM_walk 80 = .ok (.lastore, 1) := by decide +kernel
theorem dM_walk_81 : decode cM_walk 81 = .ok (.iinc 4 1, 3) := by decide +kernel
theorem dM_walk_84 : decode cM_walk 84 = .ok (.goto (-64), 3) := by decide +kernel
theorem dM_walk_87 : decode cM_walk 87 = .ok (.aload_n 0, 1) := by decide +kernel
theorem dM_walk_88 : decode cM_walk 88 = .ok (.getfield 32, 3) := by decide +kernel
theorem dM_walk_91 : decode cM_walk 91 = .ok (.iconst 0, 1) := by decide +kernel
theorem dM_walk_92 : decode cM_walk 92 = .ok (.laload, 1) := by decide +kernel
theorem dM_walk_93 : decode cM_walk 93 = .ok (.aload_n 0, 1) := by decide +kernel
theorem dM_walk_94 : decode cM_walk 94 = .ok (.getfield 132, 3) := by decide +kernel
theorem dM_walk_97 : decode cM_walk 97 = .ok (.lcmp, 1) := by decide +kernel
theorem dM_walk_98 : decode cM_walk 98 = .ok (.ifCond .le 4, 3) := by decide +kernel
theorem dM_walk_101 : decode cM_walk 101 = .ok (.return_, 1) := by decide +kernel
theorem dM_walk_102 : decode cM_walk 102 = .ok (.aload_n 0, 1) := by decide +kernel
theorem dM_walk_103 : decode cM_walk 103 = .ok (.getfield 74, 3) := by decide +kernel
theorem dM_walk_106 : decode cM_walk 106 = .ok (.iconst 2, 1) := by decide +kernel
theorem dM_walk_107 : decode cM_walk 107 = .ok (.if_icmp .ge 30, 3) := by decide +kernel
theorem dM_walk_110 : decode cM_walk 110 = .ok (.aload_n 0, 1) := by decide +kernel
theorem dM_walk_111 : decode cM_walk 111 = .ok (.getfield 74, 3) := by decide +kernel
theorem dM_walk_114 : decode cM_walk 114 = .ok (.ifCond .ne 17, 3) := by decide +kernel
theorem dM_walk_117 : decode cM_walk 117 = .ok (.aload_n 0, 1) := by decide +kernel
theorem dM_walk_118 : decode cM_walk 118 = .ok (.iconst 0, 1) := by decide +kernel
theorem dM_walk_119 : decode cM_walk 119 = .ok (.aload_n 0, 1) := by decide +kernel
theorem dM_walk_120 : decode cM_walk 120 = .ok (.getfield 32, 3) := by decide +kernel
theorem dM_walk_123 : decode cM_walk 123 = .ok (.iconst 0, 1) := by decide +kernel
theorem dM_walk_124 : decode cM_walk 124 = .ok (.laload, 1) := by decide +kernel
theorem dM_walk_125 : decode cM_walk 125 = .ok (.invokevirtual 155, 3) := by decide +kernel
theorem dM_walk_128 : decode cM_walk 128 = .ok (.goto 8, 3) := by decide +kernel
theorem dM_walk_131 : decode cM_walk 131 = .ok (.aload_n 0, 1) := by decide +kernel
theorem dM_walk_132 : decode cM_walk 132 = .ok (.iconst 0, 1) := by decide +kernel
theorem dM_walk_133 : decode cM_walk 133 = .ok (.invokevirtual 163, 3) := by decide +kernel
theorem dM_walk_136 : decode cM_walk 136 = .ok (.return_, 1) := by decide +kernel
theorem dM_walk_137 : decode cM_walk 137 = .ok (.iconst 0, 1) := by decide +kernel
theorem dM_walk_138 : decode cM_walk 138 = .ok (.istore 4, 2) := by decide +kernel
theorem dM_walk_140 : decode cM_walk 140 = .ok (.aload_n 0, 1) := by decide +kernel
theorem dM_walk_141 : decode cM_walk 141 = .ok (.iconst 0, 1) := by decide +kernel
theorem dM_walk_142 : decode cM_walk 142 = .ok (.invokevirtual 166, 3) := by decide +kernel
theorem dM_walk_145 : decode cM_walk 145 = .ok (.iload 4, 2) := by decide +kernel
theorem dM_walk_147 : decode cM_walk 147 = .ok (.ifCond .lt 114, 3) := by decide +kernel
theorem dM_walk_150 : decode cM_walk 150 = .ok (.aload_n 0, 1) := by decide +kernel
theorem dM_walk_151 : decode cM_walk 151 = .ok (.getfield 23, 3) := by decide +kernel
theorem dM_walk_154 : decode cM_walk 154 = .ok (.iload 4, 2) := by decide +kernel
theorem dM_walk_156 : decode cM_walk 156 = .ok (.dup2, 1) := by decide +kernel
theorem dM_walk_157 : decode cM_walk 157 = .ok (.laload, 1) := by decide +kernel
theorem dM_walk_158 : decode cM_walk 158 = .ok (.lconst 1, 1) := by decide +kernel
theorem dM_walk_159 : decode cM_walk 159 = .ok (.ladd, 1) := by decide +kernel
theorem dM_walk_160 : decode cM_walk 160 = .ok (.lastore, 1) := by decide +kernel
theorem dM_walk_161 : decode cM_walk 161 = .ok (.aload_n 0, 1) := by decide +kernel
theorem dM_walk_162 : decode cM_walk 162 = .ok (.getfield 23, 3) := by decide +kernel
theorem dM_walk_165 : decode cM_walk 165 = .ok (.iload 4, 2) := by decide +kernel
theorem dM_walk_167 : decode cM_walk 167 = .ok (.laload, 1) := by decide +kernel
theorem dM_walk_168 : decode cM_walk 168 = .ok (.aload_n 0, 1) := by decide +kernel
theorem dM_walk_169 : decode cM_walk 169 = .ok (.getfield 26, 3) := by decide +kernel
theorem dM_walk_172 : decode cM_walk 172 = .ok (.iload 4, 2) := by decide +kernel
theorem dM_walk_174 : decode cM_walk 174 = .ok (.laload, 1) := by decide +kernel
theorem dM_walk_175 : decode cM_walk 175 = .ok (.lcmp, 1) := by decide +kernel
theorem dM_walk_176 : decode cM_walk 176 = .ok (.ifCond .gt 22, 3) := by decide +kernel
theorem dM_walk_179 : decode cM_walk 179 = .ok (.aload_n 0, 1) := by decide +kernel
theorem dM_walk_180 : decode cM_walk 180 = .ok (.getfield 146, 3) := by decide +kernel
theorem dM_walk_183 : decode cM_walk 183 = .ok (.iconst 2, 1) := by decide +kernel
theorem dM_walk_184 : decode cM_walk 184 = .ok (.if_icmp .ne 20, 3) := by decide +kernel
theorem dM_walk_187 : decode cM_walk 187 = .ok (.aload_n 0, 1) := by decide +kernel
theorem dM_walk_188 : decode cM_walk 188 = .ok (.getfield 149, 3) := by decide +kernel
theorem dM_walk_191 : decode cM_walk 191 = .ok (.aload_n 0, 1) := by decide +kernel
theorem dM_walk_192 : decode cM_walk 192 = .ok (.getfield 152, 3) := by decide +kernel
theorem dM_walk_195 : decode cM_walk 195 = .ok (.if_icmp .ne 9, 3) := by decide +kernel
theorem dM_walk_198 : decode cM_walk 198 = .ok (.iinc 4 (-1), 3) := by decide +kernel
theorem dM_walk_201 : decode cM_walk 201 = .ok (.goto (-56), 3) := by decide +kernel
theorem dM_walk_204 : decode cM_walk 204 = .ok (.aload_n 0, 1) := by decide +kernel
theorem dM_walk_205 : decode cM_walk 205 = .ok (.iload 4, 2) := by decide +kernel
theorem dM_walk_207 : decode cM_walk 207 = .ok (.invokevirtual 143, 3) := by decide +kernel
theorem dM_walk_210 : decode cM_walk 210 = .ok (.aload_n 0, 1) := by decide +kernel
theorem dM_walk_211 : decode cM_walk 211 = .ok (.getfield 32, 3) := by decide +kernel
theorem dM_walk_214 : decode cM_walk 214 = .ok (.iload 4, 2) := by decide +kernel
theorem dM_walk_216 : decode cM_walk 216 = .ok (.iconst 1, 1) := by decide +kernel
theorem dM_walk_217 : decode cM_walk 217 = .ok (.iadd, 1) := by decide +kernel
theorem dM_walk_218 : decode cM_walk 218 = .ok (.laload, 1) := by decide +kernel
theorem dM_walk_219 : decode cM_walk 219 = .ok (.aload_n 0, 1) := by decide +kernel
theorem dM_walk_220 : decode cM_walk 220 = .ok (.getfield 132, 3) := by decide +kernel
theorem dM_walk_223 : decode cM_walk 223 = .ok (.lcmp, 1) := by decide +kernel
theorem dM_walk_224 : decode cM_walk 224 = .ok (.ifCond .gt (-79), 3) := by decide +kernel
theorem dM_walk_227 : decode cM_walk 227 = .ok (.iload 4, 2) := by decide +kernel
theorem dM_walk_229 : decode cM_walk 229 = .ok (.aload_n 0, 1) := by decide +kernel
theorem dM_walk_230 : decode cM_walk 230 = .ok (.getfield 74, 3) := by decide +kernel
theorem dM_walk_233 : decode cM_walk 233 = .ok (.iconst 2, 1) := by decide +kernel
theorem dM_walk_234 : decode cM_walk 234 = .ok (.isub, 1) := by decide +kernel
theorem dM_walk_235 : decode cM_walk 235 = .ok (.if_icmp .ne 14, 3) := by decide +kernel
theorem dM_walk_238 : decode cM_walk 238 = .ok (.aload_n 0, 1) := by decide +kernel
theorem dM_walk_239 : decode cM_walk 239 = .ok (.iload 4, 2) := by decide +kernel
theorem dM_walk_241 : decode cM_walk 241 = .ok (.iconst 1, 1) := by decide +kernel
theorem dM_walk_242 : decode cM_walk 242 = .ok (.iadd, 1) := by decide +kernel
theorem dM_walk_243 : decode cM_walk 243 = .ok (.invokevirtual 163, 3) := by decide +kernel
theorem dM_walk_246 : decode cM_walk 246 = .ok (.goto (-101), 3) := by decide +kernel
theorem dM_walk_249 : decode cM_walk 249 = .ok (.iinc 4 1, 3) := by decide +kernel
theorem dM_walk_252 : decode cM_walk 252 = .ok (.aload_n 0, 1) := by decide +kernel
theorem dM_walk_253 : decode cM_walk 253 = .ok (.iload 4, 2) := by decide +kernel
theorem dM_walk_255 : decode cM_walk 255 = .ok (.invokevirtual 166, 3) := by decide +kernel
theorem dM_walk_258 : decode cM_walk 258 = .ok (.goto (-113), 3) := by decide +kernel
theorem dM_walk_261 : decode cM_walk 261 = .ok (.return_, 1) := by decide +kernel
theorem cb_M_finish_M_walk : CB yM_finish cM_finish 8 none rm_M_finish rm_M_walk 1 := ⟨wd709, wd8, by decide +kernel, rfl, rfl, by decide⟩
theorem cb_M_open_M_walk : CB yM_open cM_open 2 (some .int) rm_M_open rm_M_walk 1 := ⟨wd677, wd8, by decide +kernel, rfl, rfl, by decide⟩
theorem cb_M_range_M_walk : CB yM_range cM_range 9 none rm_M_range rm_M_walk 1 := ⟨wd722, wd8, by decide +kernel, rfl, rfl, by decide⟩
theorem cb_M_take_M_walk : CB yM_take cM_take 7 none rm_M_take rm_M_walk 1 := ⟨wd718, wd8, by decide +kernel, rfl, rfl, by decide⟩
theorem cb_M_visit_M_walk : CB yM_visit cM_visit 4 none rm_M_visit rm_M_walk 2 := ⟨wd681, wd8, by decide +kernel, rfl, rfl, by decide⟩
noncomputable def lM_walk_20 (F : Nat) (x_rows : Int32) (x_pivot : Nat → Int32) (x_point : Nat → Int64) : Nat → Int32 → (Nat → Int64) → (Nat → Int64) → Option ((Nat → Int64) × (Nat → Int64))
  | 0, _, _, _ => none
  | n + 1, v4, x_made, x_settled => if (4 : Int32) ≤ v4 then some (x_made, x_settled) else gd (vp_in v4 20) ((M_open F x_rows x_pivot (0 : Int32)).bind (fun r43 => if r43 ≤ v4 then gd (vp_in (0 : Int32) 5) (gd (vp_in (0 : Int32) 5) (lM_walk_20 F x_rows x_pivot x_point n (v4 + 1) (vp_updL x_made v4.toNatClampNeg (0 : Int64)) (vp_updL x_settled (0 : Int32).toNatClampNeg (x_settled (0 : Int32).toNatClampNeg)))) else gd (vp_in (0 : Int32) 5) (gd (vp_in v4 4) (gd (vp_in v4 4) (gd (vp_in (0 : Int32) 5) (lM_walk_20 F x_rows x_pivot x_point n (v4 + 1) (vp_updL x_made v4.toNatClampNeg (0 : Int64)) (vp_updL x_settled (0 : Int32).toNatClampNeg ((x_settled (0 : Int32).toNatClampNeg) + ((x_point v4.toNatClampNeg) * (x_point v4.toNatClampNeg))))))))))
set_option maxHeartbeats 8000000 in
set_option maxRecDepth 100000 in
theorem lM_walk_20_ok {g : Gm} {κ : ctx} (G : OK g κ RM cM_walk 5 none rm_M_walk) (X : Nat → va_E) (F : Nat) {x_many : Int32} {x_generator : Nat → Int32} {x_known : Int32} {x_without : Int32} {x_rows : Int32} {x_row : Nat → Int64} {x_pivot : Nat → Int32} {x_fresh : Nat → Int64} {x_multiple : Nat → Int64} {x_last : Nat → Int64} {x_point : Nat → Int64} {x_limit : Int64} {x_mode : Int32} {x_counted : Int32} {x_listed : Int32} {x_held : Int32} {x_first : Nat → Int64} {x_squares : Nat → Int64} {x_wanted : Int32} {x_spanned : Int32} {x_span : Nat → Int64} {x_minima : Nat → Int32} {x_measured : Int32} {x_found : Nat → Int64} {x_any : Int32} : ∀ (n : Nat) (v4 : Int32) (x_made : Nat → Int64) (x_settled : Nat → Int64) (out : (Nat → Int64) × (Nat → Int64)), lM_walk_20 F x_rows x_pivot x_point  n v4 x_made x_settled = some out → (J g κ 5 87 [(0, .ref (κ.1 0))] [] (LM κ (x_many, x_generator, x_known, x_without, x_rows, x_row, x_pivot, x_fresh, x_multiple, x_last, out.1, out.2, x_point, x_limit, x_mode, x_counted, x_listed, x_held, x_first, x_squares, x_wanted, x_spanned, x_span, x_minima, x_measured, x_found, x_any) X)) → J g κ 5 20 [(0, .ref (κ.1 0)), (4, .int v4)] [] (LM κ (x_many, x_generator, x_known, x_without, x_rows, x_row, x_pivot, x_fresh, x_multiple, x_last, x_made, x_settled, x_point, x_limit, x_mode, x_counted, x_listed, x_held, x_first, x_squares, x_wanted, x_spanned, x_span, x_minima, x_measured, x_found, x_any) X) := by
  intro n
  induction n with
  | zero =>
    intro v4 x_made x_settled
    intro out h
    rw [lM_walk_20] at h
    cases h
  | succ n ih =>
    intro v4 x_made x_settled out h K
    rw [lM_walk_20] at h
    refine w_iload (pc := 20) (q := 1) G dM_walk_20 rfl ?_
    refine w_iconst (pc := 22) (v := (4 : Int32)) G dM_walk_22 (by decide) ?_
    refine w_icmp_ge (pc := 23) (tgt := 87) G dM_walk_23 (by decide) (fun c23 => ?_) (fun c23 => ?_)
    · have h := if_t c23 h
      obtain rfl := Option.some.inj h
      refine w_sub (lv' := [(0, .ref (κ.1 0))]) [0] rfl ?_
      exact K
    · have h := if_f c23 h
      refine w_aload_n (pc := 26) (q := 0) G dM_walk_26 rfl rfl ?_
      refine w_get (pc := 27) (v := .ref (κ.1 7)) (fs := fl_M κ (x_many, x_generator, x_known, x_without, x_rows, x_row, x_pivot, x_fresh, x_multiple, x_last, x_made, x_settled, x_point, x_limit, x_mode, x_counted, x_listed, x_held, x_first, x_squares, x_wanted, x_spanned, x_span, x_minima, x_measured, x_found, x_any)) G 0 (by decide) lb_M rfl wsM_ok 10 (by decide) wd500 gf_M_10 dM_walk_27 ?_
      refine w_iload (pc := 30) (q := 1) G dM_walk_30 rfl ?_
      refine w_lconst (pc := 32) (v := (0 : Int64)) G dM_walk_32 (by decide) ?_
      obtain ⟨i33, h⟩ := gd_some h
      refine w_last (pc := 33) (n := 20) (f := x_made) (L1 := (LM κ (x_many, x_generator, x_known, x_without, x_rows, x_row, x_pivot, x_fresh, x_multiple, x_last, vp_updL x_made v4.toNatClampNeg (0 : Int64), x_settled, x_point, x_limit, x_mode, x_counted, x_listed, x_held, x_first, x_squares, x_wanted, x_spanned, x_span, x_minima, x_measured, x_found, x_any) X)) G 7 (by decide) lk_made i33 dM_walk_33 up_made ?_
      refine w_aload_n (pc := 34) (q := 0) G dM_walk_34 rfl rfl ?_
      refine w_get (pc := 35) (v := .ref (κ.1 8)) (fs := fl_M κ (x_many, x_generator, x_known, x_without, x_rows, x_row, x_pivot, x_fresh, x_multiple, x_last, vp_updL x_made v4.toNatClampNeg (0 : Int64), x_settled, x_point, x_limit, x_mode, x_counted, x_listed, x_held, x_first, x_squares, x_wanted, x_spanned, x_span, x_minima, x_measured, x_found, x_any)) G 0 (by decide) lb_M rfl wsM_ok 11 (by decide) wd501 gf_M_11 dM_walk_35 ?_
      refine w_iconst (pc := 38) (v := (0 : Int32)) G dM_walk_38 (by decide) ?_
      refine w_iload (pc := 39) (q := 1) G dM_walk_39 rfl ?_
      refine w_aload_n (pc := 41) (q := 0) G dM_walk_41 rfl rfl ?_
      refine w_iconst (pc := 42) (v := (0 : Int32)) G dM_walk_42 (by decide) ?_
      obtain ⟨r43, e43, h⟩ := bd h
      refine w_callV (pc := 43) (av := [.int (0 : Int32)]) (rest := [.int v4, .int (0 : Int32), .ref (κ.1 8)]) (v := some (.int r43)) (L' := (LM κ (x_many, x_generator, x_known, x_without, x_rows, x_row, x_pivot, x_fresh, x_multiple, x_last, vp_updL x_made v4.toNatClampNeg (0 : Int64), x_settled, x_point, x_limit, x_mode, x_counted, x_listed, x_held, x_first, x_squares, x_wanted, x_spanned, x_span, x_minima, x_measured, x_found, x_any) X)) (T := TM) (fs := fl_M κ (x_many, x_generator, x_known, x_without, x_rows, x_row, x_pivot, x_fresh, x_multiple, x_last, vp_updL x_made v4.toNatClampNeg (0 : Int64), x_settled, x_point, x_limit, x_mode, x_counted, x_listed, x_held, x_first, x_squares, x_wanted, x_spanned, x_span, x_minima, x_measured, x_found, x_any)) G 0 0 27 (by decide) lb_M rfl cb_M_open_M_walk wd676 ws33 wd674 (met_M_open κ X F (0 : Int32)  e43) rfl rfl rfl (Nat.le_of_ble_eq_true rfl) dM_walk_43 ?_
      refine w_icmp_ge (pc := 46) (tgt := 74) G dM_walk_46 (by decide) (fun c46 => ?_) (fun c46 => ?_)
      · have h := if_t c46 h
        refine w_aload_n (pc := 74) (q := 0) G dM_walk_74 rfl rfl ?_
        refine w_get (pc := 75) (v := .ref (κ.1 8)) (fs := fl_M κ (x_many, x_generator, x_known, x_without, x_rows, x_row, x_pivot, x_fresh, x_multiple, x_last, vp_updL x_made v4.toNatClampNeg (0 : Int64), x_settled, x_point, x_limit, x_mode, x_counted, x_listed, x_held, x_first, x_squares, x_wanted, x_spanned, x_span, x_minima, x_measured, x_found, x_any)) G 0 (by decide) lb_M rfl wsM_ok 11 (by decide) wd501 gf_M_11 dM_walk_75 ?_
        refine w_iconst (pc := 78) (v := (0 : Int32)) G dM_walk_78 (by decide) ?_
        obtain ⟨i79, h⟩ := gd_some h
        refine w_lald (pc := 79) (n := 5) (f := x_settled) G 8 (by decide) lk_settled i79 dM_walk_79 ?_
        obtain ⟨i80, h⟩ := gd_some h
        refine w_last (pc := 80) (n := 5) (f := x_settled) (L1 := (LM κ (x_many, x_generator, x_known, x_without, x_rows, x_row, x_pivot, x_fresh, x_multiple, x_last, vp_updL x_made v4.toNatClampNeg (0 : Int64), vp_updL x_settled (0 : Int32).toNatClampNeg (x_settled (0 : Int32).toNatClampNeg), x_point, x_limit, x_mode, x_counted, x_listed, x_held, x_first, x_squares, x_wanted, x_spanned, x_span, x_minima, x_measured, x_found, x_any) X)) G 8 (by decide) lk_settled i80 dM_walk_80 up_settled ?_
        refine w_iinc (pc := 81) (q0 := 1) (v := (v4 + 1)) (lv' := [(4, .int (v4 + 1)), (0, .ref (κ.1 0))]) G dM_walk_81 rfl rfl (by decide) rfl ?_
        refine w_goto (pc := 84) (tgt := 20) G dM_walk_84 (by decide) ?_
        refine w_sub (lv' := [(0, .ref (κ.1 0)), (4, .int (v4 + 1))]) [1, 0] rfl ?_
        exact ih (v4 + 1) (vp_updL x_made v4.toNatClampNeg (0 : Int64)) (vp_updL x_settled (0 : Int32).toNatClampNeg (x_settled (0 : Int32).toNatClampNeg)) out h K
      · have h := if_f c46 h
        refine w_aload_n (pc := 49) (q := 0) G dM_walk_49 rfl rfl ?_
        refine w_get (pc := 50) (v := .ref (κ.1 8)) (fs := fl_M κ (x_many, x_generator, x_known, x_without, x_rows, x_row, x_pivot, x_fresh, x_multiple, x_last, vp_updL x_made v4.toNatClampNeg (0 : Int64), x_settled, x_point, x_limit, x_mode, x_counted, x_listed, x_held, x_first, x_squares, x_wanted, x_spanned, x_span, x_minima, x_measured, x_found, x_any)) G 0 (by decide) lb_M rfl wsM_ok 11 (by decide) wd501 gf_M_11 dM_walk_50 ?_
        refine w_iconst (pc := 53) (v := (0 : Int32)) G dM_walk_53 (by decide) ?_
        obtain ⟨i54, h⟩ := gd_some h
        refine w_lald (pc := 54) (n := 5) (f := x_settled) G 8 (by decide) lk_settled i54 dM_walk_54 ?_
        refine w_aload_n (pc := 55) (q := 0) G dM_walk_55 rfl rfl ?_
        refine w_get (pc := 56) (v := .ref (κ.1 9)) (fs := fl_M κ (x_many, x_generator, x_known, x_without, x_rows, x_row, x_pivot, x_fresh, x_multiple, x_last, vp_updL x_made v4.toNatClampNeg (0 : Int64), x_settled, x_point, x_limit, x_mode, x_counted, x_listed, x_held, x_first, x_squares, x_wanted, x_spanned, x_span, x_minima, x_measured, x_found, x_any)) G 0 (by decide) lb_M rfl wsM_ok 12 (by decide) wd502 gf_M_12 dM_walk_56 ?_
        refine w_iload (pc := 59) (q := 1) G dM_walk_59 rfl ?_
        obtain ⟨i61, h⟩ := gd_some h
        refine w_lald (pc := 61) (n := 4) (f := x_point) G 9 (by decide) lk_point i61 dM_walk_61 ?_
        refine w_aload_n (pc := 62) (q := 0) G dM_walk_62 rfl rfl ?_
        refine w_get (pc := 63) (v := .ref (κ.1 9)) (fs := fl_M κ (x_many, x_generator, x_known, x_without, x_rows, x_row, x_pivot, x_fresh, x_multiple, x_last, vp_updL x_made v4.toNatClampNeg (0 : Int64), x_settled, x_point, x_limit, x_mode, x_counted, x_listed, x_held, x_first, x_squares, x_wanted, x_spanned, x_span, x_minima, x_measured, x_found, x_any)) G 0 (by decide) lb_M rfl wsM_ok 12 (by decide) wd502 gf_M_12 dM_walk_63 ?_
        refine w_iload (pc := 66) (q := 1) G dM_walk_66 rfl ?_
        obtain ⟨i68, h⟩ := gd_some h
        refine w_lald (pc := 68) (n := 4) (f := x_point) G 9 (by decide) lk_point i68 dM_walk_68 ?_
        refine w_lmul (pc := 69) G dM_walk_69 ?_
        refine w_ladd (pc := 70) G dM_walk_70 ?_
        refine w_goto (pc := 71) (tgt := 80) G dM_walk_71 (by decide) ?_
        obtain ⟨i80, h⟩ := gd_some h
        refine w_last (pc := 80) (n := 5) (f := x_settled) (L1 := (LM κ (x_many, x_generator, x_known, x_without, x_rows, x_row, x_pivot, x_fresh, x_multiple, x_last, vp_updL x_made v4.toNatClampNeg (0 : Int64), vp_updL x_settled (0 : Int32).toNatClampNeg ((x_settled (0 : Int32).toNatClampNeg) + ((x_point v4.toNatClampNeg) * (x_point v4.toNatClampNeg))), x_point, x_limit, x_mode, x_counted, x_listed, x_held, x_first, x_squares, x_wanted, x_spanned, x_span, x_minima, x_measured, x_found, x_any) X)) G 8 (by decide) lk_settled i80 dM_walk_80 up_settled ?_
        refine w_iinc (pc := 81) (q0 := 1) (v := (v4 + 1)) (lv' := [(4, .int (v4 + 1)), (0, .ref (κ.1 0))]) G dM_walk_81 rfl rfl (by decide) rfl ?_
        refine w_goto (pc := 84) (tgt := 20) G dM_walk_84 (by decide) ?_
        refine w_sub (lv' := [(0, .ref (κ.1 0)), (4, .int (v4 + 1))]) [1, 0] rfl ?_
        exact ih (v4 + 1) (vp_updL x_made v4.toNatClampNeg (0 : Int64)) (vp_updL x_settled (0 : Int32).toNatClampNeg ((x_settled (0 : Int32).toNatClampNeg) + ((x_point v4.toNatClampNeg) * (x_point v4.toNatClampNeg)))) out h K
noncomputable def lM_walk_145 (F : Nat) (x_rows : Int32) (x_row : Nat → Int64) (x_pivot : Nat → Int32) (x_point : Nat → Int64) (x_mode : Int32) (x_wanted : Int32) : Nat → Int32 → (Nat → Int64) → (Nat → Int64) → (Nat → Int64) → (Nat → Int64) → (Nat → Int64) → Int64 → Int32 → Int32 → (Nat → Int64) → (Nat → Int64) → Int32 → (Nat → Int64) → (Nat → Int64) → Int32 → Option ((Nat → Int64) × (Nat → Int64) × (Nat → Int64) × (Nat → Int64) × (Nat → Int64) × Int64 × Int32 × Int32 × (Nat → Int64) × (Nat → Int64) × Int32 × (Nat → Int64) × (Nat → Int64) × Int32)
  | 0, _, _, _, _, _, _, _, _, _, _, _, _, _, _, _ => none
  | n + 1, v4, x_fresh, x_multiple, x_last, x_made, x_settled, x_limit, x_counted, x_held, x_first, x_squares, x_spanned, x_span, x_found, x_any => if v4 < 0 then some (x_fresh, x_multiple, x_last, x_made, x_settled, x_limit, x_counted, x_held, x_first, x_squares, x_spanned, x_span, x_found, x_any) else gd (vp_in v4 4) (gd (vp_in v4 4) (gd (vp_in v4 4) (gd (vp_in v4 4) (if (x_last v4.toNatClampNeg) < ((vp_updL x_multiple v4.toNatClampNeg ((x_multiple v4.toNatClampNeg) + (1 : Int64))) v4.toNatClampNeg) then lM_walk_145 F x_rows x_row x_pivot x_point x_mode x_wanted n (v4 + (-1)) x_fresh (vp_updL x_multiple v4.toNatClampNeg ((x_multiple v4.toNatClampNeg) + (1 : Int64))) x_last x_made x_settled x_limit x_counted x_held x_first x_squares x_spanned x_span x_found x_any else if x_mode = (2 : Int32) then if x_spanned = x_wanted then lM_walk_145 F x_rows x_row x_pivot x_point x_mode x_wanted n (v4 + (-1)) x_fresh (vp_updL x_multiple v4.toNatClampNeg ((x_multiple v4.toNatClampNeg) + (1 : Int64))) x_last x_made x_settled x_limit x_counted x_held x_first x_squares x_spanned x_span x_found x_any else (M_take F x_rows x_row x_pivot (vp_updL x_multiple v4.toNatClampNeg ((x_multiple v4.toNatClampNeg) + (1 : Int64))) x_made x_settled x_point v4).bind (fun r207 => gd (vp_in (v4 + (1 : Int32)) 5) (if x_limit < (r207.2 (v4 + (1 : Int32)).toNatClampNeg) then lM_walk_145 F x_rows x_row x_pivot x_point x_mode x_wanted n v4 x_fresh (vp_updL x_multiple v4.toNatClampNeg ((x_multiple v4.toNatClampNeg) + (1 : Int64))) x_last r207.1 r207.2 x_limit x_counted x_held x_first x_squares x_spanned x_span x_found x_any else if v4 = (x_rows - (2 : Int32)) then (M_finish F x_rows x_row x_pivot x_fresh (vp_updL x_multiple v4.toNatClampNeg ((x_multiple v4.toNatClampNeg) + (1 : Int64))) r207.1 r207.2 x_point x_limit x_mode x_counted x_held x_first x_squares x_wanted x_spanned x_span x_found x_any (v4 + (1 : Int32))).bind (fun r243 => lM_walk_145 F x_rows x_row x_pivot x_point x_mode x_wanted n v4 r243.1 r243.2.1 x_last r243.2.2.1 r243.2.2.2.1 r243.2.2.2.2.1 r243.2.2.2.2.2.1 r243.2.2.2.2.2.2.1 r243.2.2.2.2.2.2.2.1 r243.2.2.2.2.2.2.2.2.1 r243.2.2.2.2.2.2.2.2.2.1 r243.2.2.2.2.2.2.2.2.2.2.1 r243.2.2.2.2.2.2.2.2.2.2.2.1 r243.2.2.2.2.2.2.2.2.2.2.2.2) else (M_range F x_row x_pivot (vp_updL x_multiple v4.toNatClampNeg ((x_multiple v4.toNatClampNeg) + (1 : Int64))) x_last r207.1 r207.2 x_point x_limit (v4 + 1)).bind (fun r255 => lM_walk_145 F x_rows x_row x_pivot x_point x_mode x_wanted n (v4 + 1) x_fresh r255.1 r255.2 r207.1 r207.2 x_limit x_counted x_held x_first x_squares x_spanned x_span x_found x_any))) else (M_take F x_rows x_row x_pivot (vp_updL x_multiple v4.toNatClampNeg ((x_multiple v4.toNatClampNeg) + (1 : Int64))) x_made x_settled x_point v4).bind (fun r207 => gd (vp_in (v4 + (1 : Int32)) 5) (if x_limit < (r207.2 (v4 + (1 : Int32)).toNatClampNeg) then lM_walk_145 F x_rows x_row x_pivot x_point x_mode x_wanted n v4 x_fresh (vp_updL x_multiple v4.toNatClampNeg ((x_multiple v4.toNatClampNeg) + (1 : Int64))) x_last r207.1 r207.2 x_limit x_counted x_held x_first x_squares x_spanned x_span x_found x_any else if v4 = (x_rows - (2 : Int32)) then (M_finish F x_rows x_row x_pivot x_fresh (vp_updL x_multiple v4.toNatClampNeg ((x_multiple v4.toNatClampNeg) + (1 : Int64))) r207.1 r207.2 x_point x_limit x_mode x_counted x_held x_first x_squares x_wanted x_spanned x_span x_found x_any (v4 + (1 : Int32))).bind (fun r243 => lM_walk_145 F x_rows x_row x_pivot x_point x_mode x_wanted n v4 r243.1 r243.2.1 x_last r243.2.2.1 r243.2.2.2.1 r243.2.2.2.2.1 r243.2.2.2.2.2.1 r243.2.2.2.2.2.2.1 r243.2.2.2.2.2.2.2.1 r243.2.2.2.2.2.2.2.2.1 r243.2.2.2.2.2.2.2.2.2.1 r243.2.2.2.2.2.2.2.2.2.2.1 r243.2.2.2.2.2.2.2.2.2.2.2.1 r243.2.2.2.2.2.2.2.2.2.2.2.2) else (M_range F x_row x_pivot (vp_updL x_multiple v4.toNatClampNeg ((x_multiple v4.toNatClampNeg) + (1 : Int64))) x_last r207.1 r207.2 x_point x_limit (v4 + 1)).bind (fun r255 => lM_walk_145 F x_rows x_row x_pivot x_point x_mode x_wanted n (v4 + 1) x_fresh r255.1 r255.2 r207.1 r207.2 x_limit x_counted x_held x_first x_squares x_spanned x_span x_found x_any)))))))
set_option maxHeartbeats 8000000 in
set_option maxRecDepth 100000 in
theorem lM_walk_145_ok {g : Gm} {κ : ctx} (G : OK g κ RM cM_walk 5 none rm_M_walk) (X : Nat → va_E) (F : Nat) {x_many : Int32} {x_generator : Nat → Int32} {x_known : Int32} {x_without : Int32} {x_rows : Int32} {x_row : Nat → Int64} {x_pivot : Nat → Int32} {x_point : Nat → Int64} {x_mode : Int32} {x_listed : Int32} {x_wanted : Int32} {x_minima : Nat → Int32} {x_measured : Int32} : ∀ (n : Nat) (v4 : Int32) (x_fresh : Nat → Int64) (x_multiple : Nat → Int64) (x_last : Nat → Int64) (x_made : Nat → Int64) (x_settled : Nat → Int64) (x_limit : Int64) (x_counted : Int32) (x_held : Int32) (x_first : Nat → Int64) (x_squares : Nat → Int64) (x_spanned : Int32) (x_span : Nat → Int64) (x_found : Nat → Int64) (x_any : Int32) (out : (Nat → Int64) × (Nat → Int64) × (Nat → Int64) × (Nat → Int64) × (Nat → Int64) × Int64 × Int32 × Int32 × (Nat → Int64) × (Nat → Int64) × Int32 × (Nat → Int64) × (Nat → Int64) × Int32), lM_walk_145 F x_rows x_row x_pivot x_point x_mode x_wanted  n v4 x_fresh x_multiple x_last x_made x_settled x_limit x_counted x_held x_first x_squares x_spanned x_span x_found x_any = some out → (J g κ 5 261 [] [] (LM κ (x_many, x_generator, x_known, x_without, x_rows, x_row, x_pivot, out.1, out.2.1, out.2.2.1, out.2.2.2.1, out.2.2.2.2.1, x_point, out.2.2.2.2.2.1, x_mode, out.2.2.2.2.2.2.1, x_listed, out.2.2.2.2.2.2.2.1, out.2.2.2.2.2.2.2.2.1, out.2.2.2.2.2.2.2.2.2.1, x_wanted, out.2.2.2.2.2.2.2.2.2.2.1, out.2.2.2.2.2.2.2.2.2.2.2.1, x_minima, x_measured, out.2.2.2.2.2.2.2.2.2.2.2.2.1, out.2.2.2.2.2.2.2.2.2.2.2.2.2) X)) → J g κ 5 145 [(0, .ref (κ.1 0)), (4, .int v4)] [] (LM κ (x_many, x_generator, x_known, x_without, x_rows, x_row, x_pivot, x_fresh, x_multiple, x_last, x_made, x_settled, x_point, x_limit, x_mode, x_counted, x_listed, x_held, x_first, x_squares, x_wanted, x_spanned, x_span, x_minima, x_measured, x_found, x_any) X) := by
  intro n
  induction n with
  | zero =>
    intro v4 x_fresh x_multiple x_last x_made x_settled x_limit x_counted x_held x_first x_squares x_spanned x_span x_found x_any
    intro out h
    rw [lM_walk_145] at h
    cases h
  | succ n ih =>
    intro v4 x_fresh x_multiple x_last x_made x_settled x_limit x_counted x_held x_first x_squares x_spanned x_span x_found x_any out h K
    rw [lM_walk_145] at h
    refine w_iload (pc := 145) (q := 1) G dM_walk_145 rfl ?_
    refine w_if_lt (pc := 147) (tgt := 261) G dM_walk_147 (by decide) (fun c147 => ?_) (fun c147 => ?_)
    · have h := if_t c147 h
      obtain rfl := Option.some.inj h
      refine w_sub (lv' := []) [] rfl ?_
      exact K
    · have h := if_f c147 h
      refine w_aload_n (pc := 150) (q := 0) G dM_walk_150 rfl rfl ?_
      refine w_get (pc := 151) (v := .ref (κ.1 5)) (fs := fl_M κ (x_many, x_generator, x_known, x_without, x_rows, x_row, x_pivot, x_fresh, x_multiple, x_last, x_made, x_settled, x_point, x_limit, x_mode, x_counted, x_listed, x_held, x_first, x_squares, x_wanted, x_spanned, x_span, x_minima, x_measured, x_found, x_any)) G 0 (by decide) lb_M rfl wsM_ok 8 (by decide) wd498 gf_M_8 dM_walk_151 ?_
      refine w_iload (pc := 154) (q := 1) G dM_walk_154 rfl ?_
      refine w_dup2_11 (pc := 156) G dM_walk_156 rfl rfl ?_
      obtain ⟨i157, h⟩ := gd_some h
      refine w_lald (pc := 157) (n := 4) (f := x_multiple) G 5 (by decide) lk_multiple i157 dM_walk_157 ?_
      refine w_lconst (pc := 158) (v := (1 : Int64)) G dM_walk_158 (by decide) ?_
      refine w_ladd (pc := 159) G dM_walk_159 ?_
      obtain ⟨i160, h⟩ := gd_some h
      refine w_last (pc := 160) (n := 4) (f := x_multiple) (L1 := (LM κ (x_many, x_generator, x_known, x_without, x_rows, x_row, x_pivot, x_fresh, vp_updL x_multiple v4.toNatClampNeg ((x_multiple v4.toNatClampNeg) + (1 : Int64)), x_last, x_made, x_settled, x_point, x_limit, x_mode, x_counted, x_listed, x_held, x_first, x_squares, x_wanted, x_spanned, x_span, x_minima, x_measured, x_found, x_any) X)) G 5 (by decide) lk_multiple i160 dM_walk_160 up_multiple ?_
      refine w_aload_n (pc := 161) (q := 0) G dM_walk_161 rfl rfl ?_
      refine w_get (pc := 162) (v := .ref (κ.1 5)) (fs := fl_M κ (x_many, x_generator, x_known, x_without, x_rows, x_row, x_pivot, x_fresh, vp_updL x_multiple v4.toNatClampNeg ((x_multiple v4.toNatClampNeg) + (1 : Int64)), x_last, x_made, x_settled, x_point, x_limit, x_mode, x_counted, x_listed, x_held, x_first, x_squares, x_wanted, x_spanned, x_span, x_minima, x_measured, x_found, x_any)) G 0 (by decide) lb_M rfl wsM_ok 8 (by decide) wd498 gf_M_8 dM_walk_162 ?_
      refine w_iload (pc := 165) (q := 1) G dM_walk_165 rfl ?_
      obtain ⟨i167, h⟩ := gd_some h
      refine w_lald (pc := 167) (n := 4) (f := vp_updL x_multiple v4.toNatClampNeg ((x_multiple v4.toNatClampNeg) + (1 : Int64))) G 5 (by decide) lk_multiple i167 dM_walk_167 ?_
      refine w_aload_n (pc := 168) (q := 0) G dM_walk_168 rfl rfl ?_
      refine w_get (pc := 169) (v := .ref (κ.1 6)) (fs := fl_M κ (x_many, x_generator, x_known, x_without, x_rows, x_row, x_pivot, x_fresh, vp_updL x_multiple v4.toNatClampNeg ((x_multiple v4.toNatClampNeg) + (1 : Int64)), x_last, x_made, x_settled, x_point, x_limit, x_mode, x_counted, x_listed, x_held, x_first, x_squares, x_wanted, x_spanned, x_span, x_minima, x_measured, x_found, x_any)) G 0 (by decide) lb_M rfl wsM_ok 9 (by decide) wd499 gf_M_9 dM_walk_169 ?_
      refine w_iload (pc := 172) (q := 1) G dM_walk_172 rfl ?_
      obtain ⟨i174, h⟩ := gd_some h
      refine w_lald (pc := 174) (n := 4) (f := x_last) G 6 (by decide) lk_last i174 dM_walk_174 ?_
      refine w_lc_gt (pc := 175) (tgt := 198) G dM_walk_175 dM_walk_176 (by decide) (fun c175 => ?_) (fun c175 => ?_)
      · have h := if_t c175 h
        refine w_iinc (pc := 198) (q0 := 1) (v := (v4 + (-1))) (lv' := [(4, .int (v4 + (-1))), (0, .ref (κ.1 0))]) G dM_walk_198 rfl rfl (by decide) rfl ?_
        refine w_goto (pc := 201) (tgt := 145) G dM_walk_201 (by decide) ?_
        refine w_sub (lv' := [(0, .ref (κ.1 0)), (4, .int (v4 + (-1)))]) [1, 0] rfl ?_
        exact ih (v4 + (-1)) x_fresh (vp_updL x_multiple v4.toNatClampNeg ((x_multiple v4.toNatClampNeg) + (1 : Int64))) x_last x_made x_settled x_limit x_counted x_held x_first x_squares x_spanned x_span x_found x_any out h K
      · have h := if_f c175 h
        refine w_aload_n (pc := 179) (q := 0) G dM_walk_179 rfl rfl ?_
        refine w_get (pc := 180) (v := .int x_mode) (fs := fl_M κ (x_many, x_generator, x_known, x_without, x_rows, x_row, x_pivot, x_fresh, vp_updL x_multiple v4.toNatClampNeg ((x_multiple v4.toNatClampNeg) + (1 : Int64)), x_last, x_made, x_settled, x_point, x_limit, x_mode, x_counted, x_listed, x_held, x_first, x_squares, x_wanted, x_spanned, x_span, x_minima, x_measured, x_found, x_any)) G 0 (by decide) lb_M rfl wsM_ok 14 (by decide) wd504 gf_M_14 dM_walk_180 ?_
        refine w_iconst (pc := 183) (v := (2 : Int32)) G dM_walk_183 (by decide) ?_
        refine w_icmp_ne (pc := 184) (tgt := 204) G dM_walk_184 (by decide) (fun c184 => ?_) (fun c184 => ?_)
        · have h := if_t c184 h
          refine w_aload_n (pc := 187) (q := 0) G dM_walk_187 rfl rfl ?_
          refine w_get (pc := 188) (v := .int x_spanned) (fs := fl_M κ (x_many, x_generator, x_known, x_without, x_rows, x_row, x_pivot, x_fresh, vp_updL x_multiple v4.toNatClampNeg ((x_multiple v4.toNatClampNeg) + (1 : Int64)), x_last, x_made, x_settled, x_point, x_limit, x_mode, x_counted, x_listed, x_held, x_first, x_squares, x_wanted, x_spanned, x_span, x_minima, x_measured, x_found, x_any)) G 0 (by decide) lb_M rfl wsM_ok 21 (by decide) wd511 gf_M_21 dM_walk_188 ?_
          refine w_aload_n (pc := 191) (q := 0) G dM_walk_191 rfl rfl ?_
          refine w_get (pc := 192) (v := .int x_wanted) (fs := fl_M κ (x_many, x_generator, x_known, x_without, x_rows, x_row, x_pivot, x_fresh, vp_updL x_multiple v4.toNatClampNeg ((x_multiple v4.toNatClampNeg) + (1 : Int64)), x_last, x_made, x_settled, x_point, x_limit, x_mode, x_counted, x_listed, x_held, x_first, x_squares, x_wanted, x_spanned, x_span, x_minima, x_measured, x_found, x_any)) G 0 (by decide) lb_M rfl wsM_ok 20 (by decide) wd510 gf_M_20 dM_walk_192 ?_
          refine w_icmp_ne (pc := 195) (tgt := 204) G dM_walk_195 (by decide) (fun c195 => ?_) (fun c195 => ?_)
          · have h := if_t c195 h
            refine w_iinc (pc := 198) (q0 := 1) (v := (v4 + (-1))) (lv' := [(4, .int (v4 + (-1))), (0, .ref (κ.1 0))]) G dM_walk_198 rfl rfl (by decide) rfl ?_
            refine w_goto (pc := 201) (tgt := 145) G dM_walk_201 (by decide) ?_
            refine w_sub (lv' := [(0, .ref (κ.1 0)), (4, .int (v4 + (-1)))]) [1, 0] rfl ?_
            exact ih (v4 + (-1)) x_fresh (vp_updL x_multiple v4.toNatClampNeg ((x_multiple v4.toNatClampNeg) + (1 : Int64))) x_last x_made x_settled x_limit x_counted x_held x_first x_squares x_spanned x_span x_found x_any out h K
          · have h := if_f c195 h
            refine w_aload_n (pc := 204) (q := 0) G dM_walk_204 rfl rfl ?_
            refine w_iload (pc := 205) (q := 1) G dM_walk_205 rfl ?_
            obtain ⟨r207, e207, h⟩ := bd h
            refine w_callV (pc := 207) (av := [.int v4]) (rest := []) (v := none) (L' := (LM κ (x_many, x_generator, x_known, x_without, x_rows, x_row, x_pivot, x_fresh, vp_updL x_multiple v4.toNatClampNeg ((x_multiple v4.toNatClampNeg) + (1 : Int64)), x_last, r207.1, r207.2, x_point, x_limit, x_mode, x_counted, x_listed, x_held, x_first, x_squares, x_wanted, x_spanned, x_span, x_minima, x_measured, x_found, x_any) X)) (T := TM) (fs := fl_M κ (x_many, x_generator, x_known, x_without, x_rows, x_row, x_pivot, x_fresh, vp_updL x_multiple v4.toNatClampNeg ((x_multiple v4.toNatClampNeg) + (1 : Int64)), x_last, x_made, x_settled, x_point, x_limit, x_mode, x_counted, x_listed, x_held, x_first, x_squares, x_wanted, x_spanned, x_span, x_minima, x_measured, x_found, x_any)) G 0 0 27 (by decide) lb_M rfl cb_M_take_M_walk wd717 ws43 wd715 (met_M_take κ X F v4  e207) rfl rfl rfl (Nat.le_of_ble_eq_true rfl) dM_walk_207 ?_
            refine w_aload_n (pc := 210) (q := 0) G dM_walk_210 rfl rfl ?_
            refine w_get (pc := 211) (v := .ref (κ.1 8)) (fs := fl_M κ (x_many, x_generator, x_known, x_without, x_rows, x_row, x_pivot, x_fresh, vp_updL x_multiple v4.toNatClampNeg ((x_multiple v4.toNatClampNeg) + (1 : Int64)), x_last, r207.1, r207.2, x_point, x_limit, x_mode, x_counted, x_listed, x_held, x_first, x_squares, x_wanted, x_spanned, x_span, x_minima, x_measured, x_found, x_any)) G 0 (by decide) lb_M rfl wsM_ok 11 (by decide) wd501 gf_M_11 dM_walk_211 ?_
            refine w_iload (pc := 214) (q := 1) G dM_walk_214 rfl ?_
            refine w_iconst (pc := 216) (v := (1 : Int32)) G dM_walk_216 (by decide) ?_
            refine w_iadd (pc := 217) G dM_walk_217 ?_
            obtain ⟨i218, h⟩ := gd_some h
            refine w_lald (pc := 218) (n := 5) (f := r207.2) G 8 (by decide) lk_settled i218 dM_walk_218 ?_
            refine w_aload_n (pc := 219) (q := 0) G dM_walk_219 rfl rfl ?_
            refine w_get (pc := 220) (v := .long x_limit) (fs := fl_M κ (x_many, x_generator, x_known, x_without, x_rows, x_row, x_pivot, x_fresh, vp_updL x_multiple v4.toNatClampNeg ((x_multiple v4.toNatClampNeg) + (1 : Int64)), x_last, r207.1, r207.2, x_point, x_limit, x_mode, x_counted, x_listed, x_held, x_first, x_squares, x_wanted, x_spanned, x_span, x_minima, x_measured, x_found, x_any)) G 0 (by decide) lb_M rfl wsM_ok 13 (by decide) wd503 gf_M_13 dM_walk_220 ?_
            refine w_lc_gt (pc := 223) (tgt := 145) G dM_walk_223 dM_walk_224 (by decide) (fun c223 => ?_) (fun c223 => ?_)
            · have h := if_t c223 h
              refine w_sub (lv' := [(0, .ref (κ.1 0)), (4, .int v4)]) [0, 1] rfl ?_
              exact ih v4 x_fresh (vp_updL x_multiple v4.toNatClampNeg ((x_multiple v4.toNatClampNeg) + (1 : Int64))) x_last r207.1 r207.2 x_limit x_counted x_held x_first x_squares x_spanned x_span x_found x_any out h K
            · have h := if_f c223 h
              refine w_iload (pc := 227) (q := 1) G dM_walk_227 rfl ?_
              refine w_aload_n (pc := 229) (q := 0) G dM_walk_229 rfl rfl ?_
              refine w_get (pc := 230) (v := .int x_rows) (fs := fl_M κ (x_many, x_generator, x_known, x_without, x_rows, x_row, x_pivot, x_fresh, vp_updL x_multiple v4.toNatClampNeg ((x_multiple v4.toNatClampNeg) + (1 : Int64)), x_last, r207.1, r207.2, x_point, x_limit, x_mode, x_counted, x_listed, x_held, x_first, x_squares, x_wanted, x_spanned, x_span, x_minima, x_measured, x_found, x_any)) G 0 (by decide) lb_M rfl wsM_ok 4 (by decide) wd494 gf_M_4 dM_walk_230 ?_
              refine w_iconst (pc := 233) (v := (2 : Int32)) G dM_walk_233 (by decide) ?_
              refine w_isub (pc := 234) G dM_walk_234 ?_
              refine w_icmp_ne (pc := 235) (tgt := 249) G dM_walk_235 (by decide) (fun c235 => ?_) (fun c235 => ?_)
              · have h := if_t c235 h
                refine w_aload_n (pc := 238) (q := 0) G dM_walk_238 rfl rfl ?_
                refine w_iload (pc := 239) (q := 1) G dM_walk_239 rfl ?_
                refine w_iconst (pc := 241) (v := (1 : Int32)) G dM_walk_241 (by decide) ?_
                refine w_iadd (pc := 242) G dM_walk_242 ?_
                obtain ⟨r243, e243, h⟩ := bd h
                refine w_callV (pc := 243) (av := [.int (v4 + (1 : Int32))]) (rest := []) (v := none) (L' := (LM κ (x_many, x_generator, x_known, x_without, x_rows, x_row, x_pivot, r243.1, r243.2.1, x_last, r243.2.2.1, r243.2.2.2.1, x_point, r243.2.2.2.2.1, x_mode, r243.2.2.2.2.2.1, x_listed, r243.2.2.2.2.2.2.1, r243.2.2.2.2.2.2.2.1, r243.2.2.2.2.2.2.2.2.1, x_wanted, r243.2.2.2.2.2.2.2.2.2.1, r243.2.2.2.2.2.2.2.2.2.2.1, x_minima, x_measured, r243.2.2.2.2.2.2.2.2.2.2.2.1, r243.2.2.2.2.2.2.2.2.2.2.2.2) X)) (T := TM) (fs := fl_M κ (x_many, x_generator, x_known, x_without, x_rows, x_row, x_pivot, x_fresh, vp_updL x_multiple v4.toNatClampNeg ((x_multiple v4.toNatClampNeg) + (1 : Int64)), x_last, r207.1, r207.2, x_point, x_limit, x_mode, x_counted, x_listed, x_held, x_first, x_squares, x_wanted, x_spanned, x_span, x_minima, x_measured, x_found, x_any)) G 0 0 27 (by decide) lb_M rfl cb_M_finish_M_walk wd708 ws41 wd706 (met_M_finish κ X F (v4 + (1 : Int32))  e243) rfl rfl rfl (Nat.le_of_ble_eq_true rfl) dM_walk_243 ?_
                refine w_goto (pc := 246) (tgt := 145) G dM_walk_246 (by decide) ?_
                refine w_sub (lv' := [(0, .ref (κ.1 0)), (4, .int v4)]) [0, 1] rfl ?_
                exact ih v4 r243.1 r243.2.1 x_last r243.2.2.1 r243.2.2.2.1 r243.2.2.2.2.1 r243.2.2.2.2.2.1 r243.2.2.2.2.2.2.1 r243.2.2.2.2.2.2.2.1 r243.2.2.2.2.2.2.2.2.1 r243.2.2.2.2.2.2.2.2.2.1 r243.2.2.2.2.2.2.2.2.2.2.1 r243.2.2.2.2.2.2.2.2.2.2.2.1 r243.2.2.2.2.2.2.2.2.2.2.2.2 out h K
              · have h := if_f c235 h
                refine w_iinc (pc := 249) (q0 := 1) (v := (v4 + 1)) (lv' := [(4, .int (v4 + 1)), (0, .ref (κ.1 0))]) G dM_walk_249 rfl rfl (by decide) rfl ?_
                refine w_aload_n (pc := 252) (q := 1) G dM_walk_252 rfl rfl ?_
                refine w_iload (pc := 253) (q := 0) G dM_walk_253 rfl ?_
                obtain ⟨r255, e255, h⟩ := bd h
                refine w_callV (pc := 255) (av := [.int (v4 + 1)]) (rest := []) (v := none) (L' := (LM κ (x_many, x_generator, x_known, x_without, x_rows, x_row, x_pivot, x_fresh, r255.1, r255.2, r207.1, r207.2, x_point, x_limit, x_mode, x_counted, x_listed, x_held, x_first, x_squares, x_wanted, x_spanned, x_span, x_minima, x_measured, x_found, x_any) X)) (T := TM) (fs := fl_M κ (x_many, x_generator, x_known, x_without, x_rows, x_row, x_pivot, x_fresh, vp_updL x_multiple v4.toNatClampNeg ((x_multiple v4.toNatClampNeg) + (1 : Int64)), x_last, r207.1, r207.2, x_point, x_limit, x_mode, x_counted, x_listed, x_held, x_first, x_squares, x_wanted, x_spanned, x_span, x_minima, x_measured, x_found, x_any)) G 0 0 27 (by decide) lb_M rfl cb_M_range_M_walk wd721 ws44 wd719 (met_M_range κ X F (v4 + 1)  e255) rfl rfl rfl (Nat.le_of_ble_eq_true rfl) dM_walk_255 ?_
                refine w_goto (pc := 258) (tgt := 145) G dM_walk_258 (by decide) ?_
                refine w_sub (lv' := [(0, .ref (κ.1 0)), (4, .int (v4 + 1))]) [1, 0] rfl ?_
                exact ih (v4 + 1) x_fresh r255.1 r255.2 r207.1 r207.2 x_limit x_counted x_held x_first x_squares x_spanned x_span x_found x_any out h K
        · have h := if_f c184 h
          refine w_aload_n (pc := 204) (q := 0) G dM_walk_204 rfl rfl ?_
          refine w_iload (pc := 205) (q := 1) G dM_walk_205 rfl ?_
          obtain ⟨r207, e207, h⟩ := bd h
          refine w_callV (pc := 207) (av := [.int v4]) (rest := []) (v := none) (L' := (LM κ (x_many, x_generator, x_known, x_without, x_rows, x_row, x_pivot, x_fresh, vp_updL x_multiple v4.toNatClampNeg ((x_multiple v4.toNatClampNeg) + (1 : Int64)), x_last, r207.1, r207.2, x_point, x_limit, x_mode, x_counted, x_listed, x_held, x_first, x_squares, x_wanted, x_spanned, x_span, x_minima, x_measured, x_found, x_any) X)) (T := TM) (fs := fl_M κ (x_many, x_generator, x_known, x_without, x_rows, x_row, x_pivot, x_fresh, vp_updL x_multiple v4.toNatClampNeg ((x_multiple v4.toNatClampNeg) + (1 : Int64)), x_last, x_made, x_settled, x_point, x_limit, x_mode, x_counted, x_listed, x_held, x_first, x_squares, x_wanted, x_spanned, x_span, x_minima, x_measured, x_found, x_any)) G 0 0 27 (by decide) lb_M rfl cb_M_take_M_walk wd717 ws43 wd715 (met_M_take κ X F v4  e207) rfl rfl rfl (Nat.le_of_ble_eq_true rfl) dM_walk_207 ?_
          refine w_aload_n (pc := 210) (q := 0) G dM_walk_210 rfl rfl ?_
          refine w_get (pc := 211) (v := .ref (κ.1 8)) (fs := fl_M κ (x_many, x_generator, x_known, x_without, x_rows, x_row, x_pivot, x_fresh, vp_updL x_multiple v4.toNatClampNeg ((x_multiple v4.toNatClampNeg) + (1 : Int64)), x_last, r207.1, r207.2, x_point, x_limit, x_mode, x_counted, x_listed, x_held, x_first, x_squares, x_wanted, x_spanned, x_span, x_minima, x_measured, x_found, x_any)) G 0 (by decide) lb_M rfl wsM_ok 11 (by decide) wd501 gf_M_11 dM_walk_211 ?_
          refine w_iload (pc := 214) (q := 1) G dM_walk_214 rfl ?_
          refine w_iconst (pc := 216) (v := (1 : Int32)) G dM_walk_216 (by decide) ?_
          refine w_iadd (pc := 217) G dM_walk_217 ?_
          obtain ⟨i218, h⟩ := gd_some h
          refine w_lald (pc := 218) (n := 5) (f := r207.2) G 8 (by decide) lk_settled i218 dM_walk_218 ?_
          refine w_aload_n (pc := 219) (q := 0) G dM_walk_219 rfl rfl ?_
          refine w_get (pc := 220) (v := .long x_limit) (fs := fl_M κ (x_many, x_generator, x_known, x_without, x_rows, x_row, x_pivot, x_fresh, vp_updL x_multiple v4.toNatClampNeg ((x_multiple v4.toNatClampNeg) + (1 : Int64)), x_last, r207.1, r207.2, x_point, x_limit, x_mode, x_counted, x_listed, x_held, x_first, x_squares, x_wanted, x_spanned, x_span, x_minima, x_measured, x_found, x_any)) G 0 (by decide) lb_M rfl wsM_ok 13 (by decide) wd503 gf_M_13 dM_walk_220 ?_
          refine w_lc_gt (pc := 223) (tgt := 145) G dM_walk_223 dM_walk_224 (by decide) (fun c223 => ?_) (fun c223 => ?_)
          · have h := if_t c223 h
            refine w_sub (lv' := [(0, .ref (κ.1 0)), (4, .int v4)]) [0, 1] rfl ?_
            exact ih v4 x_fresh (vp_updL x_multiple v4.toNatClampNeg ((x_multiple v4.toNatClampNeg) + (1 : Int64))) x_last r207.1 r207.2 x_limit x_counted x_held x_first x_squares x_spanned x_span x_found x_any out h K
          · have h := if_f c223 h
            refine w_iload (pc := 227) (q := 1) G dM_walk_227 rfl ?_
            refine w_aload_n (pc := 229) (q := 0) G dM_walk_229 rfl rfl ?_
            refine w_get (pc := 230) (v := .int x_rows) (fs := fl_M κ (x_many, x_generator, x_known, x_without, x_rows, x_row, x_pivot, x_fresh, vp_updL x_multiple v4.toNatClampNeg ((x_multiple v4.toNatClampNeg) + (1 : Int64)), x_last, r207.1, r207.2, x_point, x_limit, x_mode, x_counted, x_listed, x_held, x_first, x_squares, x_wanted, x_spanned, x_span, x_minima, x_measured, x_found, x_any)) G 0 (by decide) lb_M rfl wsM_ok 4 (by decide) wd494 gf_M_4 dM_walk_230 ?_
            refine w_iconst (pc := 233) (v := (2 : Int32)) G dM_walk_233 (by decide) ?_
            refine w_isub (pc := 234) G dM_walk_234 ?_
            refine w_icmp_ne (pc := 235) (tgt := 249) G dM_walk_235 (by decide) (fun c235 => ?_) (fun c235 => ?_)
            · have h := if_t c235 h
              refine w_aload_n (pc := 238) (q := 0) G dM_walk_238 rfl rfl ?_
              refine w_iload (pc := 239) (q := 1) G dM_walk_239 rfl ?_
              refine w_iconst (pc := 241) (v := (1 : Int32)) G dM_walk_241 (by decide) ?_
              refine w_iadd (pc := 242) G dM_walk_242 ?_
              obtain ⟨r243, e243, h⟩ := bd h
              refine w_callV (pc := 243) (av := [.int (v4 + (1 : Int32))]) (rest := []) (v := none) (L' := (LM κ (x_many, x_generator, x_known, x_without, x_rows, x_row, x_pivot, r243.1, r243.2.1, x_last, r243.2.2.1, r243.2.2.2.1, x_point, r243.2.2.2.2.1, x_mode, r243.2.2.2.2.2.1, x_listed, r243.2.2.2.2.2.2.1, r243.2.2.2.2.2.2.2.1, r243.2.2.2.2.2.2.2.2.1, x_wanted, r243.2.2.2.2.2.2.2.2.2.1, r243.2.2.2.2.2.2.2.2.2.2.1, x_minima, x_measured, r243.2.2.2.2.2.2.2.2.2.2.2.1, r243.2.2.2.2.2.2.2.2.2.2.2.2) X)) (T := TM) (fs := fl_M κ (x_many, x_generator, x_known, x_without, x_rows, x_row, x_pivot, x_fresh, vp_updL x_multiple v4.toNatClampNeg ((x_multiple v4.toNatClampNeg) + (1 : Int64)), x_last, r207.1, r207.2, x_point, x_limit, x_mode, x_counted, x_listed, x_held, x_first, x_squares, x_wanted, x_spanned, x_span, x_minima, x_measured, x_found, x_any)) G 0 0 27 (by decide) lb_M rfl cb_M_finish_M_walk wd708 ws41 wd706 (met_M_finish κ X F (v4 + (1 : Int32))  e243) rfl rfl rfl (Nat.le_of_ble_eq_true rfl) dM_walk_243 ?_
              refine w_goto (pc := 246) (tgt := 145) G dM_walk_246 (by decide) ?_
              refine w_sub (lv' := [(0, .ref (κ.1 0)), (4, .int v4)]) [0, 1] rfl ?_
              exact ih v4 r243.1 r243.2.1 x_last r243.2.2.1 r243.2.2.2.1 r243.2.2.2.2.1 r243.2.2.2.2.2.1 r243.2.2.2.2.2.2.1 r243.2.2.2.2.2.2.2.1 r243.2.2.2.2.2.2.2.2.1 r243.2.2.2.2.2.2.2.2.2.1 r243.2.2.2.2.2.2.2.2.2.2.1 r243.2.2.2.2.2.2.2.2.2.2.2.1 r243.2.2.2.2.2.2.2.2.2.2.2.2 out h K
            · have h := if_f c235 h
              refine w_iinc (pc := 249) (q0 := 1) (v := (v4 + 1)) (lv' := [(4, .int (v4 + 1)), (0, .ref (κ.1 0))]) G dM_walk_249 rfl rfl (by decide) rfl ?_
              refine w_aload_n (pc := 252) (q := 1) G dM_walk_252 rfl rfl ?_
              refine w_iload (pc := 253) (q := 0) G dM_walk_253 rfl ?_
              obtain ⟨r255, e255, h⟩ := bd h
              refine w_callV (pc := 255) (av := [.int (v4 + 1)]) (rest := []) (v := none) (L' := (LM κ (x_many, x_generator, x_known, x_without, x_rows, x_row, x_pivot, x_fresh, r255.1, r255.2, r207.1, r207.2, x_point, x_limit, x_mode, x_counted, x_listed, x_held, x_first, x_squares, x_wanted, x_spanned, x_span, x_minima, x_measured, x_found, x_any) X)) (T := TM) (fs := fl_M κ (x_many, x_generator, x_known, x_without, x_rows, x_row, x_pivot, x_fresh, vp_updL x_multiple v4.toNatClampNeg ((x_multiple v4.toNatClampNeg) + (1 : Int64)), x_last, r207.1, r207.2, x_point, x_limit, x_mode, x_counted, x_listed, x_held, x_first, x_squares, x_wanted, x_spanned, x_span, x_minima, x_measured, x_found, x_any)) G 0 0 27 (by decide) lb_M rfl cb_M_range_M_walk wd721 ws44 wd719 (met_M_range κ X F (v4 + 1)  e255) rfl rfl rfl (Nat.le_of_ble_eq_true rfl) dM_walk_255 ?_
              refine w_goto (pc := 258) (tgt := 145) G dM_walk_258 (by decide) ?_
              refine w_sub (lv' := [(0, .ref (κ.1 0)), (4, .int (v4 + 1))]) [1, 0] rfl ?_
              exact ih (v4 + 1) x_fresh r255.1 r255.2 r207.1 r207.2 x_limit x_counted x_held x_first x_squares x_spanned x_span x_found x_any out h K
noncomputable def M_walk (F : Nat) (x_rows : Int32) (x_row : Nat → Int64) (x_pivot : Nat → Int32) (x_fresh : Nat → Int64) (x_multiple : Nat → Int64) (x_last : Nat → Int64) (x_made : Nat → Int64) (x_settled : Nat → Int64) (x_point : Nat → Int64) (x_limit : Int64) (x_mode : Int32) (x_counted : Int32) (x_held : Int32) (x_first : Nat → Int64) (x_squares : Nat → Int64) (x_wanted : Int32) (x_spanned : Int32) (x_span : Nat → Int64) (x_found : Nat → Int64) (x_any : Int32) (v1 : Int32) (v2 : Int64) : Option ((Nat → Int64) × (Nat → Int64) × (Nat → Int64) × (Nat → Int64) × (Nat → Int64) × Int64 × Int32 × Int32 × Int32 × (Nat → Int64) × (Nat → Int64) × Int32 × (Nat → Int64) × (Nat → Int64) × Int32) := gd (vp_in (0 : Int32) 5) ((lM_walk_20 F x_rows x_pivot x_point F (0 : Int32) x_made (vp_updL x_settled (0 : Int32).toNatClampNeg (0 : Int64))).bind (fun o20_11 => gd (vp_in (0 : Int32) 5) (if (o20_11.2 (0 : Int32).toNatClampNeg) ≤ v2 then if (2 : Int32) ≤ x_rows then (M_range F x_row x_pivot x_multiple x_last o20_11.1 o20_11.2 x_point v2 (0 : Int32)).bind (fun r142 => (lM_walk_145 F x_rows x_row x_pivot x_point v1 x_wanted F (0 : Int32) x_fresh r142.1 r142.2 o20_11.1 o20_11.2 v2 x_counted x_held x_first x_squares x_spanned x_span x_found x_any).bind (fun o145_47 => some (o145_47.1, o145_47.2.1, o145_47.2.2.1, o145_47.2.2.2.1, o145_47.2.2.2.2.1, o145_47.2.2.2.2.2.1, v1, o145_47.2.2.2.2.2.2.1, o145_47.2.2.2.2.2.2.2.1, o145_47.2.2.2.2.2.2.2.2.1, o145_47.2.2.2.2.2.2.2.2.2.1, o145_47.2.2.2.2.2.2.2.2.2.2.1, o145_47.2.2.2.2.2.2.2.2.2.2.2.1, o145_47.2.2.2.2.2.2.2.2.2.2.2.2.1, o145_47.2.2.2.2.2.2.2.2.2.2.2.2.2))) else if x_rows = 0 then gd (vp_in (0 : Int32) 5) ((M_visit F x_fresh o20_11.1 v2 v1 x_counted x_held x_first x_squares x_spanned x_span x_found x_any (0 : Int32) (o20_11.2 (0 : Int32).toNatClampNeg)).bind (fun r125 => some (r125.1, x_multiple, x_last, o20_11.1, o20_11.2, r125.2.1, v1, r125.2.2.1, r125.2.2.2.1, r125.2.2.2.2.1, r125.2.2.2.2.2.1, r125.2.2.2.2.2.2.1, r125.2.2.2.2.2.2.2.1, r125.2.2.2.2.2.2.2.2.1, r125.2.2.2.2.2.2.2.2.2))) else (M_finish F x_rows x_row x_pivot x_fresh x_multiple o20_11.1 o20_11.2 x_point v2 v1 x_counted x_held x_first x_squares x_wanted x_spanned x_span x_found x_any (0 : Int32)).bind (fun r133 => some (r133.1, r133.2.1, x_last, r133.2.2.1, r133.2.2.2.1, r133.2.2.2.2.1, v1, r133.2.2.2.2.2.1, r133.2.2.2.2.2.2.1, r133.2.2.2.2.2.2.2.1, r133.2.2.2.2.2.2.2.2.1, r133.2.2.2.2.2.2.2.2.2.1, r133.2.2.2.2.2.2.2.2.2.2.1, r133.2.2.2.2.2.2.2.2.2.2.2.1, r133.2.2.2.2.2.2.2.2.2.2.2.2)) else some (x_fresh, x_multiple, x_last, o20_11.1, o20_11.2, v2, v1, x_counted, x_held, x_first, x_squares, x_spanned, x_span, x_found, x_any))))
set_option maxHeartbeats 8000000 in
set_option maxRecDepth 100000 in
theorem met_M_walk (κ : ctx) (X : Nat → va_E) (F : Nat) {x_many : Int32} {x_generator : Nat → Int32} {x_known : Int32} {x_without : Int32} {x_rows : Int32} {x_row : Nat → Int64} {x_pivot : Nat → Int32} {x_fresh : Nat → Int64} {x_multiple : Nat → Int64} {x_last : Nat → Int64} {x_made : Nat → Int64} {x_settled : Nat → Int64} {x_point : Nat → Int64} {x_limit : Int64} {x_mode : Int32} {x_counted : Int32} {x_listed : Int32} {x_held : Int32} {x_first : Nat → Int64} {x_squares : Nat → Int64} {x_wanted : Int32} {x_spanned : Int32} {x_span : Nat → Int64} {x_minima : Nat → Int32} {x_measured : Int32} {x_found : Nat → Int64} {x_any : Int32} (v1 : Int32) (v2 : Int64) {out : (Nat → Int64) × (Nat → Int64) × (Nat → Int64) × (Nat → Int64) × (Nat → Int64) × Int64 × Int32 × Int32 × Int32 × (Nat → Int64) × (Nat → Int64) × Int32 × (Nat → Int64) × (Nat → Int64) × Int32} (h : M_walk F x_rows x_row x_pivot x_fresh x_multiple x_last x_made x_settled x_point x_limit x_mode x_counted x_held x_first x_squares x_wanted x_spanned x_span x_found x_any v1 v2 = some out) : Mt yM_walk cM_walk 5 none rm_M_walk κ [.ref (κ.1 0), .int v1, .long v2] (LM κ (x_many, x_generator, x_known, x_without, x_rows, x_row, x_pivot, x_fresh, x_multiple, x_last, x_made, x_settled, x_point, x_limit, x_mode, x_counted, x_listed, x_held, x_first, x_squares, x_wanted, x_spanned, x_span, x_minima, x_measured, x_found, x_any) X) none (LM κ (x_many, x_generator, x_known, x_without, x_rows, x_row, x_pivot, out.1, out.2.1, out.2.2.1, out.2.2.2.1, out.2.2.2.2.1, x_point, out.2.2.2.2.2.1, out.2.2.2.2.2.2.1, out.2.2.2.2.2.2.2.1, x_listed, out.2.2.2.2.2.2.2.2.1, out.2.2.2.2.2.2.2.2.2.1, out.2.2.2.2.2.2.2.2.2.2.1, x_wanted, out.2.2.2.2.2.2.2.2.2.2.2.1, out.2.2.2.2.2.2.2.2.2.2.2.2.1, x_minima, x_measured, out.2.2.2.2.2.2.2.2.2.2.2.2.2.1, out.2.2.2.2.2.2.2.2.2.2.2.2.2.2) X) := by
  refine Mt.of (by decide) (Nat.le_of_ble_eq_true rfl) ?_
  intro g G Fh
  unfold M_walk at h
  show J g κ 5 0 [(0, .ref (κ.1 0)), (1, .int v1), (2, .long v2)] [] (LM κ (x_many, x_generator, x_known, x_without, x_rows, x_row, x_pivot, x_fresh, x_multiple, x_last, x_made, x_settled, x_point, x_limit, x_mode, x_counted, x_listed, x_held, x_first, x_squares, x_wanted, x_spanned, x_span, x_minima, x_measured, x_found, x_any) X)
  refine w_aload_n (pc := 0) (q := 0) G dM_walk_0 rfl rfl ?_
  refine w_iload_n (pc := 1) (q := 1) G dM_walk_1 rfl rfl ?_
  refine w_put (pc := 2) (fs := fl_M κ (x_many, x_generator, x_known, x_without, x_rows, x_row, x_pivot, x_fresh, x_multiple, x_last, x_made, x_settled, x_point, x_limit, x_mode, x_counted, x_listed, x_held, x_first, x_squares, x_wanted, x_spanned, x_span, x_minima, x_measured, x_found, x_any)) (L1 := (LM κ (x_many, x_generator, x_known, x_without, x_rows, x_row, x_pivot, x_fresh, x_multiple, x_last, x_made, x_settled, x_point, x_limit, v1, x_counted, x_listed, x_held, x_first, x_squares, x_wanted, x_spanned, x_span, x_minima, x_measured, x_found, x_any) X)) G 0 (by decide) lb_M rfl wsM_ok tyM tyM_ok nmM 14 (by decide) wd504 rfl rfl rfl (Nat.le_of_ble_eq_true rfl) dM_walk_2 upf_mode ?_
  refine w_aload_n (pc := 5) (q := 0) G dM_walk_5 rfl rfl ?_
  refine w_lload_n (pc := 6) (q := 2) G dM_walk_6 rfl rfl ?_
  refine w_put (pc := 7) (fs := fl_M κ (x_many, x_generator, x_known, x_without, x_rows, x_row, x_pivot, x_fresh, x_multiple, x_last, x_made, x_settled, x_point, x_limit, v1, x_counted, x_listed, x_held, x_first, x_squares, x_wanted, x_spanned, x_span, x_minima, x_measured, x_found, x_any)) (L1 := (LM κ (x_many, x_generator, x_known, x_without, x_rows, x_row, x_pivot, x_fresh, x_multiple, x_last, x_made, x_settled, x_point, v2, v1, x_counted, x_listed, x_held, x_first, x_squares, x_wanted, x_spanned, x_span, x_minima, x_measured, x_found, x_any) X)) G 0 (by decide) lb_M rfl wsM_ok tyM tyM_ok nmM 13 (by decide) wd503 rfl rfl rfl (Nat.le_of_ble_eq_true rfl) dM_walk_7 upf_limit ?_
  refine w_aload_n (pc := 10) (q := 0) G dM_walk_10 rfl rfl ?_
  refine w_get (pc := 11) (v := .ref (κ.1 8)) (fs := fl_M κ (x_many, x_generator, x_known, x_without, x_rows, x_row, x_pivot, x_fresh, x_multiple, x_last, x_made, x_settled, x_point, v2, v1, x_counted, x_listed, x_held, x_first, x_squares, x_wanted, x_spanned, x_span, x_minima, x_measured, x_found, x_any)) G 0 (by decide) lb_M rfl wsM_ok 11 (by decide) wd501 gf_M_11 dM_walk_11 ?_
  refine w_iconst (pc := 14) (v := (0 : Int32)) G dM_walk_14 (by decide) ?_
  refine w_lconst (pc := 15) (v := (0 : Int64)) G dM_walk_15 (by decide) ?_
  obtain ⟨i16, h⟩ := gd_some h
  refine w_last (pc := 16) (n := 5) (f := x_settled) (L1 := (LM κ (x_many, x_generator, x_known, x_without, x_rows, x_row, x_pivot, x_fresh, x_multiple, x_last, x_made, vp_updL x_settled (0 : Int32).toNatClampNeg (0 : Int64), x_point, v2, v1, x_counted, x_listed, x_held, x_first, x_squares, x_wanted, x_spanned, x_span, x_minima, x_measured, x_found, x_any) X)) G 8 (by decide) lk_settled i16 dM_walk_16 up_settled ?_
  refine w_iconst (pc := 17) (v := (0 : Int32)) G dM_walk_17 (by decide) ?_
  refine w_istore (pc := 18) (lv' := [(4, .int (0 : Int32)), (0, .ref (κ.1 0)), (1, .int v1), (2, .long v2)]) G dM_walk_18 (by decide) rfl ?_
  refine w_sub (lv' := [(0, .ref (κ.1 0)), (4, .int (0 : Int32))]) [1, 0] rfl ?_
  obtain ⟨o20_11, eo20_11, h⟩ := bd h
  refine lM_walk_20_ok G X F F (0 : Int32) x_made (vp_updL x_settled (0 : Int32).toNatClampNeg (0 : Int64)) o20_11 eo20_11 ?_
  refine w_aload_n (pc := 87) (q := 0) G dM_walk_87 rfl rfl ?_
  refine w_get (pc := 88) (v := .ref (κ.1 8)) (fs := fl_M κ (x_many, x_generator, x_known, x_without, x_rows, x_row, x_pivot, x_fresh, x_multiple, x_last, o20_11.1, o20_11.2, x_point, v2, v1, x_counted, x_listed, x_held, x_first, x_squares, x_wanted, x_spanned, x_span, x_minima, x_measured, x_found, x_any)) G 0 (by decide) lb_M rfl wsM_ok 11 (by decide) wd501 gf_M_11 dM_walk_88 ?_
  refine w_iconst (pc := 91) (v := (0 : Int32)) G dM_walk_91 (by decide) ?_
  obtain ⟨i92, h⟩ := gd_some h
  refine w_lald (pc := 92) (n := 5) (f := o20_11.2) G 8 (by decide) lk_settled i92 dM_walk_92 ?_
  refine w_aload_n (pc := 93) (q := 0) G dM_walk_93 rfl rfl ?_
  refine w_get (pc := 94) (v := .long v2) (fs := fl_M κ (x_many, x_generator, x_known, x_without, x_rows, x_row, x_pivot, x_fresh, x_multiple, x_last, o20_11.1, o20_11.2, x_point, v2, v1, x_counted, x_listed, x_held, x_first, x_squares, x_wanted, x_spanned, x_span, x_minima, x_measured, x_found, x_any)) G 0 (by decide) lb_M rfl wsM_ok 13 (by decide) wd503 gf_M_13 dM_walk_94 ?_
  refine w_lc_le (pc := 97) (tgt := 102) G dM_walk_97 dM_walk_98 (by decide) (fun c97 => ?_) (fun c97 => ?_)
  · have h := if_t c97 h
    refine w_aload_n (pc := 102) (q := 0) G dM_walk_102 rfl rfl ?_
    refine w_get (pc := 103) (v := .int x_rows) (fs := fl_M κ (x_many, x_generator, x_known, x_without, x_rows, x_row, x_pivot, x_fresh, x_multiple, x_last, o20_11.1, o20_11.2, x_point, v2, v1, x_counted, x_listed, x_held, x_first, x_squares, x_wanted, x_spanned, x_span, x_minima, x_measured, x_found, x_any)) G 0 (by decide) lb_M rfl wsM_ok 4 (by decide) wd494 gf_M_4 dM_walk_103 ?_
    refine w_iconst (pc := 106) (v := (2 : Int32)) G dM_walk_106 (by decide) ?_
    refine w_icmp_ge (pc := 107) (tgt := 137) G dM_walk_107 (by decide) (fun c107 => ?_) (fun c107 => ?_)
    · have h := if_t c107 h
      refine w_iconst (pc := 137) (v := (0 : Int32)) G dM_walk_137 (by decide) ?_
      refine w_istore (pc := 138) (lv' := [(4, .int (0 : Int32)), (0, .ref (κ.1 0))]) G dM_walk_138 (by decide) rfl ?_
      refine w_aload_n (pc := 140) (q := 1) G dM_walk_140 rfl rfl ?_
      refine w_iconst (pc := 141) (v := (0 : Int32)) G dM_walk_141 (by decide) ?_
      obtain ⟨r142, e142, h⟩ := bd h
      refine w_callV (pc := 142) (av := [.int (0 : Int32)]) (rest := []) (v := none) (L' := (LM κ (x_many, x_generator, x_known, x_without, x_rows, x_row, x_pivot, x_fresh, r142.1, r142.2, o20_11.1, o20_11.2, x_point, v2, v1, x_counted, x_listed, x_held, x_first, x_squares, x_wanted, x_spanned, x_span, x_minima, x_measured, x_found, x_any) X)) (T := TM) (fs := fl_M κ (x_many, x_generator, x_known, x_without, x_rows, x_row, x_pivot, x_fresh, x_multiple, x_last, o20_11.1, o20_11.2, x_point, v2, v1, x_counted, x_listed, x_held, x_first, x_squares, x_wanted, x_spanned, x_span, x_minima, x_measured, x_found, x_any)) G 0 0 27 (by decide) lb_M rfl cb_M_range_M_walk wd721 ws44 wd719 (met_M_range κ X F (0 : Int32)  e142) rfl rfl rfl (Nat.le_of_ble_eq_true rfl) dM_walk_142 ?_
      refine w_sub (lv' := [(0, .ref (κ.1 0)), (4, .int (0 : Int32))]) [1, 0] rfl ?_
      obtain ⟨o145_47, eo145_47, h⟩ := bd h
      refine lM_walk_145_ok G X F F (0 : Int32) x_fresh r142.1 r142.2 o20_11.1 o20_11.2 v2 x_counted x_held x_first x_squares x_spanned x_span x_found x_any o145_47 eo145_47 ?_
      obtain rfl := Option.some.inj h
      exact w_vret (pc := 261) G dM_walk_261 Fh
    · have h := if_f c107 h
      refine w_aload_n (pc := 110) (q := 0) G dM_walk_110 rfl rfl ?_
      refine w_get (pc := 111) (v := .int x_rows) (fs := fl_M κ (x_many, x_generator, x_known, x_without, x_rows, x_row, x_pivot, x_fresh, x_multiple, x_last, o20_11.1, o20_11.2, x_point, v2, v1, x_counted, x_listed, x_held, x_first, x_squares, x_wanted, x_spanned, x_span, x_minima, x_measured, x_found, x_any)) G 0 (by decide) lb_M rfl wsM_ok 4 (by decide) wd494 gf_M_4 dM_walk_111 ?_
      refine w_if_ne (pc := 114) (tgt := 131) G dM_walk_114 (by decide) (fun c114 => ?_) (fun c114 => ?_)
      · have h := if_t c114 h
        refine w_aload_n (pc := 117) (q := 0) G dM_walk_117 rfl rfl ?_
        refine w_iconst (pc := 118) (v := (0 : Int32)) G dM_walk_118 (by decide) ?_
        refine w_aload_n (pc := 119) (q := 0) G dM_walk_119 rfl rfl ?_
        refine w_get (pc := 120) (v := .ref (κ.1 8)) (fs := fl_M κ (x_many, x_generator, x_known, x_without, x_rows, x_row, x_pivot, x_fresh, x_multiple, x_last, o20_11.1, o20_11.2, x_point, v2, v1, x_counted, x_listed, x_held, x_first, x_squares, x_wanted, x_spanned, x_span, x_minima, x_measured, x_found, x_any)) G 0 (by decide) lb_M rfl wsM_ok 11 (by decide) wd501 gf_M_11 dM_walk_120 ?_
        refine w_iconst (pc := 123) (v := (0 : Int32)) G dM_walk_123 (by decide) ?_
        obtain ⟨i124, h⟩ := gd_some h
        refine w_lald (pc := 124) (n := 5) (f := o20_11.2) G 8 (by decide) lk_settled i124 dM_walk_124 ?_
        obtain ⟨r125, e125, h⟩ := bd h
        refine w_callV (pc := 125) (av := [.int (0 : Int32), .long (o20_11.2 (0 : Int32).toNatClampNeg)]) (rest := []) (v := none) (L' := (LM κ (x_many, x_generator, x_known, x_without, x_rows, x_row, x_pivot, r125.1, x_multiple, x_last, o20_11.1, o20_11.2, x_point, r125.2.1, v1, r125.2.2.1, x_listed, r125.2.2.2.1, r125.2.2.2.2.1, r125.2.2.2.2.2.1, x_wanted, r125.2.2.2.2.2.2.1, r125.2.2.2.2.2.2.2.1, x_minima, x_measured, r125.2.2.2.2.2.2.2.2.1, r125.2.2.2.2.2.2.2.2.2) X)) (T := TM) (fs := fl_M κ (x_many, x_generator, x_known, x_without, x_rows, x_row, x_pivot, x_fresh, x_multiple, x_last, o20_11.1, o20_11.2, x_point, v2, v1, x_counted, x_listed, x_held, x_first, x_squares, x_wanted, x_spanned, x_span, x_minima, x_measured, x_found, x_any)) G 0 0 27 (by decide) lb_M rfl cb_M_visit_M_walk wd680 ws34 wd678 (met_M_visit κ X F (0 : Int32) (o20_11.2 (0 : Int32).toNatClampNeg)  e125) rfl rfl rfl (Nat.le_of_ble_eq_true rfl) dM_walk_125 ?_
        refine w_goto (pc := 128) (tgt := 136) G dM_walk_128 (by decide) ?_
        obtain rfl := Option.some.inj h
        exact w_vret (pc := 136) G dM_walk_136 Fh
      · have h := if_f c114 h
        refine w_aload_n (pc := 131) (q := 0) G dM_walk_131 rfl rfl ?_
        refine w_iconst (pc := 132) (v := (0 : Int32)) G dM_walk_132 (by decide) ?_
        obtain ⟨r133, e133, h⟩ := bd h
        refine w_callV (pc := 133) (av := [.int (0 : Int32)]) (rest := []) (v := none) (L' := (LM κ (x_many, x_generator, x_known, x_without, x_rows, x_row, x_pivot, r133.1, r133.2.1, x_last, r133.2.2.1, r133.2.2.2.1, x_point, r133.2.2.2.2.1, v1, r133.2.2.2.2.2.1, x_listed, r133.2.2.2.2.2.2.1, r133.2.2.2.2.2.2.2.1, r133.2.2.2.2.2.2.2.2.1, x_wanted, r133.2.2.2.2.2.2.2.2.2.1, r133.2.2.2.2.2.2.2.2.2.2.1, x_minima, x_measured, r133.2.2.2.2.2.2.2.2.2.2.2.1, r133.2.2.2.2.2.2.2.2.2.2.2.2) X)) (T := TM) (fs := fl_M κ (x_many, x_generator, x_known, x_without, x_rows, x_row, x_pivot, x_fresh, x_multiple, x_last, o20_11.1, o20_11.2, x_point, v2, v1, x_counted, x_listed, x_held, x_first, x_squares, x_wanted, x_spanned, x_span, x_minima, x_measured, x_found, x_any)) G 0 0 27 (by decide) lb_M rfl cb_M_finish_M_walk wd708 ws41 wd706 (met_M_finish κ X F (0 : Int32)  e133) rfl rfl rfl (Nat.le_of_ble_eq_true rfl) dM_walk_133 ?_
        obtain rfl := Option.some.inj h
        exact w_vret (pc := 136) G dM_walk_136 Fh
  · have h := if_f c97 h
    obtain rfl := Option.some.inj h
    exact w_vret (pc := 101) G dM_walk_101 Fh
def rm_M_count : Room := { frames := 7, cells := 0, slots := 0, locals := 179 }
theorem dM_count_0 : decode cM_count 0 = .ok (.iload_n 1, 1) := by decide +kernel
theorem dM_count_1 : decode cM_count 1 = .ok (.ifCond .lt 9, 3) := by decide +kernel
theorem dM_count_4 : decode cM_count 4 = .ok (.iload_n 1, 1) := by decide +kernel
theorem dM_count_5 : decode cM_count 5 = .ok (.bipush 40, 2) := by decide +kernel
theorem dM_count_7 : decode cM_count 7 = .ok (.if_icmp .le 5, 3) := by decide +kernel
theorem dM_count_10 : decode cM_count 10 = .ok (.iconst (-1), 1) := by decide +kernel
theorem dM_count_11 : decode cM_count 11 = .ok (.ireturn, 1) := by decide +kernel
theorem dM_count_12 : decode cM_count 12 = .ok (.aload_n 0, 1) := by decide +kernel
theorem dM_count_13 : decode cM_count 13 = .ok (.iconst (-1), 1) := by decide +kernel
theorem dM_count_14 : decode cM_count 14 = .ok (.invokevirtual 107, 3) := by decide +kernel
theorem dM_count_17 : decode cM_count 17 = .ok (.aload_n 0, 1) := by decide +kernel
theorem dM_count_18 : decode cM_count 18 = .ok (.invokevirtual 181, 3) := by decide +kernel
theorem dM_count_21 : decode cM_count 21 = .ok (.aload_n 0, 1) := by decide +kernel
theorem dM_count_22 : decode cM_count 22 = .ok (.iconst 0, 1) := by decide +kernel
theorem dM_count_23 : decode cM_count 23 = .ok (.putfield 169, 3) := by decide +kernel
theorem dM_count_26 : decode cM_count 26 = .ok (.aload_n 0, 1) := by decide +kernel
theorem dM_count_27 : decode cM_count 27 = .ok (.iconst 0, 1) := by decide +kernel
theorem dM_count_28 : decode cM_count 28 = .ok (.iload_n 1, 1) := by decide +kernel
theorem dM_count_29 : decode cM_count 29 = .ok (.i2l, 1) := by decide +kernel
theorem dM_count_30 : decode cM_count 30 = .ok (.invokevirtual 184, 3) := by decide +kernel
theorem dM_count_33 : decode cM_count 33 = .ok (.aload_n 0, 1) := by decide +kernel
theorem dM_count_34 : decode cM_count 34 = .ok (.getfield 169, 3) := by decide +kernel
theorem dM_count_37 : decode cM_count 37 = .ok (.ireturn, 1) := by decide +kernel
theorem cb_M_look_M_count : CB yM_look cM_look 4 none rm_M_look rm_M_count 1 := ⟨wd598, wd8, by decide +kernel, rfl, rfl, by decide⟩
theorem cb_M_origin_M_count : CB yM_origin cM_origin 2 none rm_M_origin rm_M_count 0 := ⟨wd669, wd8, by decide +kernel, rfl, rfl, by decide⟩
theorem cb_M_walk_M_count : CB yM_walk cM_walk 5 none rm_M_walk rm_M_count 2 := ⟨wd673, wd8, by decide +kernel, rfl, rfl, by decide⟩
noncomputable def M_count (F : Nat) (x_many : Int32) (x_generator : Nat → Int32) (x_known : Int32) (x_without : Int32) (x_rows : Int32) (x_row : Nat → Int64) (x_pivot : Nat → Int32) (x_fresh : Nat → Int64) (x_multiple : Nat → Int64) (x_last : Nat → Int64) (x_made : Nat → Int64) (x_settled : Nat → Int64) (x_point : Nat → Int64) (x_limit : Int64) (x_mode : Int32) (x_counted : Int32) (x_held : Int32) (x_first : Nat → Int64) (x_squares : Nat → Int64) (x_wanted : Int32) (x_spanned : Int32) (x_span : Nat → Int64) (x_found : Nat → Int64) (x_any : Int32) (v1 : Int32) : Option (Int32 × Int32 × Int32 × Int32 × (Nat → Int64) × (Nat → Int32) × (Nat → Int64) × (Nat → Int64) × (Nat → Int64) × (Nat → Int64) × (Nat → Int64) × (Nat → Int64) × Int64 × Int32 × Int32 × Int32 × (Nat → Int64) × (Nat → Int64) × Int32 × (Nat → Int64) × (Nat → Int64) × Int32) := if v1 < 0 then some ((-1 : Int32), x_known, x_without, x_rows, x_row, x_pivot, x_fresh, x_multiple, x_last, x_made, x_settled, x_point, x_limit, x_mode, x_counted, x_held, x_first, x_squares, x_spanned, x_span, x_found, x_any) else if v1 ≤ (40 : Int32) then (M_look F x_many x_generator x_known x_without x_rows x_row x_pivot x_fresh (-1 : Int32)).bind (fun r14 => (M_origin F x_point ).bind (fun r18 => (M_walk F r14.2.2.1 r14.2.2.2.1 r14.2.2.2.2.1 r14.2.2.2.2.2 x_multiple x_last x_made x_settled r18 x_limit x_mode (0 : Int32) x_held x_first x_squares x_wanted x_spanned x_span x_found x_any (0 : Int32) v1.toInt64).bind (fun r30 => some (r30.2.2.2.2.2.2.2.1, r14.1, r14.2.1, r14.2.2.1, r14.2.2.2.1, r14.2.2.2.2.1, r30.1, r30.2.1, r30.2.2.1, r30.2.2.2.1, r30.2.2.2.2.1, r18, r30.2.2.2.2.2.1, r30.2.2.2.2.2.2.1, r30.2.2.2.2.2.2.2.1, r30.2.2.2.2.2.2.2.2.1, r30.2.2.2.2.2.2.2.2.2.1, r30.2.2.2.2.2.2.2.2.2.2.1, r30.2.2.2.2.2.2.2.2.2.2.2.1, r30.2.2.2.2.2.2.2.2.2.2.2.2.1, r30.2.2.2.2.2.2.2.2.2.2.2.2.2.1, r30.2.2.2.2.2.2.2.2.2.2.2.2.2.2)))) else some ((-1 : Int32), x_known, x_without, x_rows, x_row, x_pivot, x_fresh, x_multiple, x_last, x_made, x_settled, x_point, x_limit, x_mode, x_counted, x_held, x_first, x_squares, x_spanned, x_span, x_found, x_any)
set_option maxHeartbeats 8000000 in
set_option maxRecDepth 100000 in
theorem met_M_count (κ : ctx) (X : Nat → va_E) (F : Nat) {x_many : Int32} {x_generator : Nat → Int32} {x_known : Int32} {x_without : Int32} {x_rows : Int32} {x_row : Nat → Int64} {x_pivot : Nat → Int32} {x_fresh : Nat → Int64} {x_multiple : Nat → Int64} {x_last : Nat → Int64} {x_made : Nat → Int64} {x_settled : Nat → Int64} {x_point : Nat → Int64} {x_limit : Int64} {x_mode : Int32} {x_counted : Int32} {x_listed : Int32} {x_held : Int32} {x_first : Nat → Int64} {x_squares : Nat → Int64} {x_wanted : Int32} {x_spanned : Int32} {x_span : Nat → Int64} {x_minima : Nat → Int32} {x_measured : Int32} {x_found : Nat → Int64} {x_any : Int32} (v1 : Int32) {out : Int32 × Int32 × Int32 × Int32 × (Nat → Int64) × (Nat → Int32) × (Nat → Int64) × (Nat → Int64) × (Nat → Int64) × (Nat → Int64) × (Nat → Int64) × (Nat → Int64) × Int64 × Int32 × Int32 × Int32 × (Nat → Int64) × (Nat → Int64) × Int32 × (Nat → Int64) × (Nat → Int64) × Int32} (h : M_count F x_many x_generator x_known x_without x_rows x_row x_pivot x_fresh x_multiple x_last x_made x_settled x_point x_limit x_mode x_counted x_held x_first x_squares x_wanted x_spanned x_span x_found x_any v1 = some out) : Mt yM_count cM_count 2 (some .int) rm_M_count κ [.ref (κ.1 0), .int v1] (LM κ (x_many, x_generator, x_known, x_without, x_rows, x_row, x_pivot, x_fresh, x_multiple, x_last, x_made, x_settled, x_point, x_limit, x_mode, x_counted, x_listed, x_held, x_first, x_squares, x_wanted, x_spanned, x_span, x_minima, x_measured, x_found, x_any) X) (some (.int out.1)) (LM κ (x_many, x_generator, out.2.1, out.2.2.1, out.2.2.2.1, out.2.2.2.2.1, out.2.2.2.2.2.1, out.2.2.2.2.2.2.1, out.2.2.2.2.2.2.2.1, out.2.2.2.2.2.2.2.2.1, out.2.2.2.2.2.2.2.2.2.1, out.2.2.2.2.2.2.2.2.2.2.1, out.2.2.2.2.2.2.2.2.2.2.2.1, out.2.2.2.2.2.2.2.2.2.2.2.2.1, out.2.2.2.2.2.2.2.2.2.2.2.2.2.1, out.2.2.2.2.2.2.2.2.2.2.2.2.2.2.1, x_listed, out.2.2.2.2.2.2.2.2.2.2.2.2.2.2.2.1, out.2.2.2.2.2.2.2.2.2.2.2.2.2.2.2.2.1, out.2.2.2.2.2.2.2.2.2.2.2.2.2.2.2.2.2.1, x_wanted, out.2.2.2.2.2.2.2.2.2.2.2.2.2.2.2.2.2.2.1, out.2.2.2.2.2.2.2.2.2.2.2.2.2.2.2.2.2.2.2.1, x_minima, x_measured, out.2.2.2.2.2.2.2.2.2.2.2.2.2.2.2.2.2.2.2.2.1, out.2.2.2.2.2.2.2.2.2.2.2.2.2.2.2.2.2.2.2.2.2) X) := by
  refine Mt.of (by decide) (Nat.le_of_ble_eq_true rfl) ?_
  intro g G Fh
  unfold M_count at h
  show J g κ 2 0 [(0, .ref (κ.1 0)), (1, .int v1)] [] (LM κ (x_many, x_generator, x_known, x_without, x_rows, x_row, x_pivot, x_fresh, x_multiple, x_last, x_made, x_settled, x_point, x_limit, x_mode, x_counted, x_listed, x_held, x_first, x_squares, x_wanted, x_spanned, x_span, x_minima, x_measured, x_found, x_any) X)
  refine w_iload_n (pc := 0) (q := 1) G dM_count_0 rfl rfl ?_
  refine w_if_lt (pc := 1) (tgt := 10) G dM_count_1 (by decide) (fun c1 => ?_) (fun c1 => ?_)
  · have h := if_t c1 h
    refine w_iconst (pc := 10) (v := (-1 : Int32)) G dM_count_10 (by decide) ?_
    obtain rfl := Option.some.inj h
    exact w_iret (pc := 11) G dM_count_11 Fh
  · have h := if_f c1 h
    refine w_iload_n (pc := 4) (q := 1) G dM_count_4 rfl rfl ?_
    refine w_bipush (pc := 5) (v := (40 : Int32)) G dM_count_5 (by decide) ?_
    refine w_icmp_le (pc := 7) (tgt := 12) G dM_count_7 (by decide) (fun c7 => ?_) (fun c7 => ?_)
    · have h := if_t c7 h
      refine w_aload_n (pc := 12) (q := 0) G dM_count_12 rfl rfl ?_
      refine w_iconst (pc := 13) (v := (-1 : Int32)) G dM_count_13 (by decide) ?_
      obtain ⟨r14, e14, h⟩ := bd h
      refine w_callV (pc := 14) (av := [.int (-1 : Int32)]) (rest := []) (v := none) (L' := (LM κ (x_many, x_generator, r14.1, r14.2.1, r14.2.2.1, r14.2.2.2.1, r14.2.2.2.2.1, r14.2.2.2.2.2, x_multiple, x_last, x_made, x_settled, x_point, x_limit, x_mode, x_counted, x_listed, x_held, x_first, x_squares, x_wanted, x_spanned, x_span, x_minima, x_measured, x_found, x_any) X)) (T := TM) (fs := fl_M κ (x_many, x_generator, x_known, x_without, x_rows, x_row, x_pivot, x_fresh, x_multiple, x_last, x_made, x_settled, x_point, x_limit, x_mode, x_counted, x_listed, x_held, x_first, x_squares, x_wanted, x_spanned, x_span, x_minima, x_measured, x_found, x_any)) G 0 0 27 (by decide) lb_M rfl cb_M_look_M_count wd597 ws20 wd595 (met_M_look κ X F (-1 : Int32)  e14) rfl rfl rfl (Nat.le_of_ble_eq_true rfl) dM_count_14 ?_
      refine w_aload_n (pc := 17) (q := 0) G dM_count_17 rfl rfl ?_
      obtain ⟨r18, e18, h⟩ := bd h
      refine w_callV (pc := 18) (av := []) (rest := []) (v := none) (L' := (LM κ (x_many, x_generator, r14.1, r14.2.1, r14.2.2.1, r14.2.2.2.1, r14.2.2.2.2.1, r14.2.2.2.2.2, x_multiple, x_last, x_made, x_settled, r18, x_limit, x_mode, x_counted, x_listed, x_held, x_first, x_squares, x_wanted, x_spanned, x_span, x_minima, x_measured, x_found, x_any) X)) (T := TM) (fs := fl_M κ (x_many, x_generator, r14.1, r14.2.1, r14.2.2.1, r14.2.2.2.1, r14.2.2.2.2.1, r14.2.2.2.2.2, x_multiple, x_last, x_made, x_settled, x_point, x_limit, x_mode, x_counted, x_listed, x_held, x_first, x_squares, x_wanted, x_spanned, x_span, x_minima, x_measured, x_found, x_any)) G 0 0 27 (by decide) lb_M rfl cb_M_origin_M_count wd668 ws31 wd666 (met_M_origin κ X F   e18) rfl rfl rfl (Nat.le_of_ble_eq_true rfl) dM_count_18 ?_
      refine w_aload_n (pc := 21) (q := 0) G dM_count_21 rfl rfl ?_
      refine w_iconst (pc := 22) (v := (0 : Int32)) G dM_count_22 (by decide) ?_
      refine w_put (pc := 23) (fs := fl_M κ (x_many, x_generator, r14.1, r14.2.1, r14.2.2.1, r14.2.2.2.1, r14.2.2.2.2.1, r14.2.2.2.2.2, x_multiple, x_last, x_made, x_settled, r18, x_limit, x_mode, x_counted, x_listed, x_held, x_first, x_squares, x_wanted, x_spanned, x_span, x_minima, x_measured, x_found, x_any)) (L1 := (LM κ (x_many, x_generator, r14.1, r14.2.1, r14.2.2.1, r14.2.2.2.1, r14.2.2.2.2.1, r14.2.2.2.2.2, x_multiple, x_last, x_made, x_settled, r18, x_limit, x_mode, (0 : Int32), x_listed, x_held, x_first, x_squares, x_wanted, x_spanned, x_span, x_minima, x_measured, x_found, x_any) X)) G 0 (by decide) lb_M rfl wsM_ok tyM tyM_ok nmM 15 (by decide) wd505 rfl rfl rfl (Nat.le_of_ble_eq_true rfl) dM_count_23 upf_counted ?_
      refine w_aload_n (pc := 26) (q := 0) G dM_count_26 rfl rfl ?_
      refine w_iconst (pc := 27) (v := (0 : Int32)) G dM_count_27 (by decide) ?_
      refine w_iload_n (pc := 28) (q := 1) G dM_count_28 rfl rfl ?_
      refine w_i2l (pc := 29) G dM_count_29 ?_
      obtain ⟨r30, e30, h⟩ := bd h
      refine w_callV (pc := 30) (av := [.int (0 : Int32), .long v1.toInt64]) (rest := []) (v := none) (L' := (LM κ (x_many, x_generator, r14.1, r14.2.1, r14.2.2.1, r14.2.2.2.1, r14.2.2.2.2.1, r30.1, r30.2.1, r30.2.2.1, r30.2.2.2.1, r30.2.2.2.2.1, r18, r30.2.2.2.2.2.1, r30.2.2.2.2.2.2.1, r30.2.2.2.2.2.2.2.1, x_listed, r30.2.2.2.2.2.2.2.2.1, r30.2.2.2.2.2.2.2.2.2.1, r30.2.2.2.2.2.2.2.2.2.2.1, x_wanted, r30.2.2.2.2.2.2.2.2.2.2.2.1, r30.2.2.2.2.2.2.2.2.2.2.2.2.1, x_minima, x_measured, r30.2.2.2.2.2.2.2.2.2.2.2.2.2.1, r30.2.2.2.2.2.2.2.2.2.2.2.2.2.2) X)) (T := TM) (fs := fl_M κ (x_many, x_generator, r14.1, r14.2.1, r14.2.2.1, r14.2.2.2.1, r14.2.2.2.2.1, r14.2.2.2.2.2, x_multiple, x_last, x_made, x_settled, r18, x_limit, x_mode, (0 : Int32), x_listed, x_held, x_first, x_squares, x_wanted, x_spanned, x_span, x_minima, x_measured, x_found, x_any)) G 0 0 27 (by decide) lb_M rfl cb_M_walk_M_count wd672 ws32 wd670 (met_M_walk κ X F (0 : Int32) v1.toInt64  e30) rfl rfl rfl (Nat.le_of_ble_eq_true rfl) dM_count_30 ?_
      refine w_aload_n (pc := 33) (q := 0) G dM_count_33 rfl rfl ?_
      refine w_get (pc := 34) (v := .int r30.2.2.2.2.2.2.2.1) (fs := fl_M κ (x_many, x_generator, r14.1, r14.2.1, r14.2.2.1, r14.2.2.2.1, r14.2.2.2.2.1, r30.1, r30.2.1, r30.2.2.1, r30.2.2.2.1, r30.2.2.2.2.1, r18, r30.2.2.2.2.2.1, r30.2.2.2.2.2.2.1, r30.2.2.2.2.2.2.2.1, x_listed, r30.2.2.2.2.2.2.2.2.1, r30.2.2.2.2.2.2.2.2.2.1, r30.2.2.2.2.2.2.2.2.2.2.1, x_wanted, r30.2.2.2.2.2.2.2.2.2.2.2.1, r30.2.2.2.2.2.2.2.2.2.2.2.2.1, x_minima, x_measured, r30.2.2.2.2.2.2.2.2.2.2.2.2.2.1, r30.2.2.2.2.2.2.2.2.2.2.2.2.2.2)) G 0 (by decide) lb_M rfl wsM_ok 15 (by decide) wd505 gf_M_15 dM_count_34 ?_
      obtain rfl := Option.some.inj h
      exact w_iret (pc := 37) G dM_count_37 Fh
    · have h := if_f c7 h
      refine w_iconst (pc := 10) (v := (-1 : Int32)) G dM_count_10 (by decide) ?_
      obtain rfl := Option.some.inj h
      exact w_iret (pc := 11) G dM_count_11 Fh
def rm_M_list : Room := { frames := 7, cells := 0, slots := 0, locals := 179 }
theorem dM_list_0 : decode cM_list 0 = .ok (.aload_n 0, 1) := by decide +kernel
theorem dM_list_1 : decode cM_list 1 = .ok (.iconst (-1), 1) := by decide +kernel
theorem dM_list_2 : decode cM_list 2 = .ok (.invokevirtual 107, 3) := by decide +kernel
theorem dM_list_5 : decode cM_list 5 = .ok (.aload_n 0, 1) := by decide +kernel
theorem dM_list_6 : decode cM_list 6 = .ok (.getfield 57, 3) := by decide +kernel
theorem dM_list_9 : decode cM_list 9 = .ok (.ifCond .eq 4, 3) := by decide +kernel
theorem dM_list_12 : decode cM_list 12 = .ok (.return_, 1) := by decide +kernel
theorem dM_list_13 : decode cM_list 13 = .ok (.aload_n 0, 1) := by decide +kernel
theorem dM_list_14 : decode cM_list 14 = .ok (.iconst 1, 1) := by decide +kernel
theorem dM_list_15 : decode cM_list 15 = .ok (.putfield 57, 3) := by decide +kernel
theorem dM_list_18 : decode cM_list 18 = .ok (.aload_n 0, 1) := by decide +kernel
theorem dM_list_19 : decode cM_list 19 = .ok (.invokevirtual 181, 3) := by decide +kernel
theorem dM_list_22 : decode cM_list 22 = .ok (.lconst 1, 1) := by decide +kernel
theorem dM_list_23 : decode cM_list 23 = .ok (.lstore_n 1, 1) := by decide +kernel
theorem dM_list_24 : decode cM_list 24 = .ok (.aload_n 0, 1) := by decide +kernel
theorem dM_list_25 : decode cM_list 25 = .ok (.iconst 0, 1) := by decide +kernel
theorem dM_list_26 : decode cM_list 26 = .ok (.putfield 187, 3) := by decide +kernel
theorem dM_list_29 : decode cM_list 29 = .ok (.aload_n 0, 1) := by decide +kernel
theorem dM_list_30 : decode cM_list 30 = .ok (.getfield 187, 3) := by decide +kernel
theorem dM_list_33 : decode cM_list 33 = .ok (.bipush 41, 2) := by decide +kernel
theorem dM_list_35 : decode cM_list 35 = .ok (.if_icmp .ge 37, 3) := by decide +kernel
theorem dM_list_38 : decode cM_list 38 = .ok (.aload_n 0, 1) := by decide +kernel
theorem dM_list_39 : decode cM_list 39 = .ok (.getfield 187, 3) := by decide +kernel
theorem dM_list_42 : decode cM_list 42 = .ok (.ifCond .eq 10, 3) := by decide +kernel
theorem dM_list_45 : decode cM_list 45 = .ok (.aload_n 0, 1) := by decide +kernel
theorem dM_list_46 : decode cM_list 46 = .ok (.getfield 74, 3) := by decide +kernel
theorem dM_list_49 : decode cM_list 49 = .ok (.ifCond .le 23, 3) := by decide +kernel
theorem dM_list_52 : decode cM_list 52 = .ok (.aload_n 0, 1) := by decide +kernel
theorem dM_list_53 : decode cM_list 53 = .ok (.iconst 0, 1) := by decide +kernel
theorem dM_list_54 : decode cM_list 54 = .ok (.putfield 187, 3) := by decide +kernel
theorem dM_list_57 : decode cM_list 57 = .ok (.aload_n 0, 1) := by decide +kernel
theorem dM_list_58 : decode cM_list 58 = .ok (.iconst 1, 1) := by decide +kernel
theorem dM_list_59 : decode cM_list 59 = .ok (.lload_n 1, 1) := by decide +kernel
theorem dM_list_60 : decode cM_list 60 = .ok (.invokevirtual 184, 3) := by decide +kernel
theorem dM_list_63 : decode cM_list 63 = .ok (.ldc2_w 130, 3) := by decide +kernel
theorem dM_list_66 : decode cM_list 66 = .ok (.lload_n 1, 1) := by decide +kernel
theorem dM_list_67 : decode cM_list 67 = .ok (.lmul, 1) := by decide +kernel
theorem dM_list_68 : decode cM_list 68 = .ok (.lstore_n 1, 1) := by decide +kernel
theorem dM_list_69 : decode cM_list 69 = .ok (.goto (-40), 3) := by decide +kernel
theorem dM_list_72 : decode cM_list 72 = .ok (.return_, 1) := by decide +kernel
theorem cb_M_look_M_list : CB yM_look cM_look 4 none rm_M_look rm_M_list 1 := ⟨wd598, wd8, by decide +kernel, rfl, rfl, by decide⟩
theorem cb_M_origin_M_list : CB yM_origin cM_origin 2 none rm_M_origin rm_M_list 0 := ⟨wd669, wd8, by decide +kernel, rfl, rfl, by decide⟩
theorem cb_M_walk_M_list : CB yM_walk cM_walk 5 none rm_M_walk rm_M_list 2 := ⟨wd673, wd8, by decide +kernel, rfl, rfl, by decide⟩
noncomputable def lM_list_29 (F : Nat) (x_rows : Int32) (x_row : Nat → Int64) (x_pivot : Nat → Int32) (x_point : Nat → Int64) (x_wanted : Int32) : Nat → Int64 → (Nat → Int64) → (Nat → Int64) → (Nat → Int64) → (Nat → Int64) → (Nat → Int64) → Int64 → Int32 → Int32 → Int32 → (Nat → Int64) → (Nat → Int64) → Int32 → (Nat → Int64) → (Nat → Int64) → Int32 → Option ((Nat → Int64) × (Nat → Int64) × (Nat → Int64) × (Nat → Int64) × (Nat → Int64) × Int64 × Int32 × Int32 × Int32 × (Nat → Int64) × (Nat → Int64) × Int32 × (Nat → Int64) × (Nat → Int64) × Int32)
  | 0, _, _, _, _, _, _, _, _, _, _, _, _, _, _, _, _ => none
  | n + 1, v1, x_fresh, x_multiple, x_last, x_made, x_settled, x_limit, x_mode, x_counted, x_held, x_first, x_squares, x_spanned, x_span, x_found, x_any => if (41 : Int32) ≤ x_held then some (x_fresh, x_multiple, x_last, x_made, x_settled, x_limit, x_mode, x_counted, x_held, x_first, x_squares, x_spanned, x_span, x_found, x_any) else if x_held = 0 then (M_walk F x_rows x_row x_pivot x_fresh x_multiple x_last x_made x_settled x_point x_limit x_mode x_counted (0 : Int32) x_first x_squares x_wanted x_spanned x_span x_found x_any (1 : Int32) v1).bind (fun r60 => lM_list_29 F x_rows x_row x_pivot x_point x_wanted n ((2 : Int64) * v1) r60.1 r60.2.1 r60.2.2.1 r60.2.2.2.1 r60.2.2.2.2.1 r60.2.2.2.2.2.1 r60.2.2.2.2.2.2.1 r60.2.2.2.2.2.2.2.1 r60.2.2.2.2.2.2.2.2.1 r60.2.2.2.2.2.2.2.2.2.1 r60.2.2.2.2.2.2.2.2.2.2.1 r60.2.2.2.2.2.2.2.2.2.2.2.1 r60.2.2.2.2.2.2.2.2.2.2.2.2.1 r60.2.2.2.2.2.2.2.2.2.2.2.2.2.1 r60.2.2.2.2.2.2.2.2.2.2.2.2.2.2) else if x_rows ≤ 0 then some (x_fresh, x_multiple, x_last, x_made, x_settled, x_limit, x_mode, x_counted, x_held, x_first, x_squares, x_spanned, x_span, x_found, x_any) else (M_walk F x_rows x_row x_pivot x_fresh x_multiple x_last x_made x_settled x_point x_limit x_mode x_counted (0 : Int32) x_first x_squares x_wanted x_spanned x_span x_found x_any (1 : Int32) v1).bind (fun r60 => lM_list_29 F x_rows x_row x_pivot x_point x_wanted n ((2 : Int64) * v1) r60.1 r60.2.1 r60.2.2.1 r60.2.2.2.1 r60.2.2.2.2.1 r60.2.2.2.2.2.1 r60.2.2.2.2.2.2.1 r60.2.2.2.2.2.2.2.1 r60.2.2.2.2.2.2.2.2.1 r60.2.2.2.2.2.2.2.2.2.1 r60.2.2.2.2.2.2.2.2.2.2.1 r60.2.2.2.2.2.2.2.2.2.2.2.1 r60.2.2.2.2.2.2.2.2.2.2.2.2.1 r60.2.2.2.2.2.2.2.2.2.2.2.2.2.1 r60.2.2.2.2.2.2.2.2.2.2.2.2.2.2)
set_option maxHeartbeats 8000000 in
set_option maxRecDepth 100000 in
theorem lM_list_29_ok {g : Gm} {κ : ctx} (G : OK g κ RM cM_list 3 none rm_M_list) (X : Nat → va_E) (F : Nat) {x_many : Int32} {x_generator : Nat → Int32} {x_known : Int32} {x_without : Int32} {x_rows : Int32} {x_row : Nat → Int64} {x_pivot : Nat → Int32} {x_point : Nat → Int64} {x_listed : Int32} {x_wanted : Int32} {x_minima : Nat → Int32} {x_measured : Int32} : ∀ (n : Nat) (v1 : Int64) (x_fresh : Nat → Int64) (x_multiple : Nat → Int64) (x_last : Nat → Int64) (x_made : Nat → Int64) (x_settled : Nat → Int64) (x_limit : Int64) (x_mode : Int32) (x_counted : Int32) (x_held : Int32) (x_first : Nat → Int64) (x_squares : Nat → Int64) (x_spanned : Int32) (x_span : Nat → Int64) (x_found : Nat → Int64) (x_any : Int32) (out : (Nat → Int64) × (Nat → Int64) × (Nat → Int64) × (Nat → Int64) × (Nat → Int64) × Int64 × Int32 × Int32 × Int32 × (Nat → Int64) × (Nat → Int64) × Int32 × (Nat → Int64) × (Nat → Int64) × Int32), lM_list_29 F x_rows x_row x_pivot x_point x_wanted  n v1 x_fresh x_multiple x_last x_made x_settled x_limit x_mode x_counted x_held x_first x_squares x_spanned x_span x_found x_any = some out → (J g κ 3 72 [] [] (LM κ (x_many, x_generator, x_known, x_without, x_rows, x_row, x_pivot, out.1, out.2.1, out.2.2.1, out.2.2.2.1, out.2.2.2.2.1, x_point, out.2.2.2.2.2.1, out.2.2.2.2.2.2.1, out.2.2.2.2.2.2.2.1, x_listed, out.2.2.2.2.2.2.2.2.1, out.2.2.2.2.2.2.2.2.2.1, out.2.2.2.2.2.2.2.2.2.2.1, x_wanted, out.2.2.2.2.2.2.2.2.2.2.2.1, out.2.2.2.2.2.2.2.2.2.2.2.2.1, x_minima, x_measured, out.2.2.2.2.2.2.2.2.2.2.2.2.2.1, out.2.2.2.2.2.2.2.2.2.2.2.2.2.2) X)) → J g κ 3 29 [(0, .ref (κ.1 0)), (1, .long v1)] [] (LM κ (x_many, x_generator, x_known, x_without, x_rows, x_row, x_pivot, x_fresh, x_multiple, x_last, x_made, x_settled, x_point, x_limit, x_mode, x_counted, x_listed, x_held, x_first, x_squares, x_wanted, x_spanned, x_span, x_minima, x_measured, x_found, x_any) X) := by
  intro n
  induction n with
  | zero =>
    intro v1 x_fresh x_multiple x_last x_made x_settled x_limit x_mode x_counted x_held x_first x_squares x_spanned x_span x_found x_any
    intro out h
    rw [lM_list_29] at h
    cases h
  | succ n ih =>
    intro v1 x_fresh x_multiple x_last x_made x_settled x_limit x_mode x_counted x_held x_first x_squares x_spanned x_span x_found x_any out h K
    rw [lM_list_29] at h
    refine w_aload_n (pc := 29) (q := 0) G dM_list_29 rfl rfl ?_
    refine w_get (pc := 30) (v := .int x_held) (fs := fl_M κ (x_many, x_generator, x_known, x_without, x_rows, x_row, x_pivot, x_fresh, x_multiple, x_last, x_made, x_settled, x_point, x_limit, x_mode, x_counted, x_listed, x_held, x_first, x_squares, x_wanted, x_spanned, x_span, x_minima, x_measured, x_found, x_any)) G 0 (by decide) lb_M rfl wsM_ok 17 (by decide) wd507 gf_M_17 dM_list_30 ?_
    refine w_bipush (pc := 33) (v := (41 : Int32)) G dM_list_33 (by decide) ?_
    refine w_icmp_ge (pc := 35) (tgt := 72) G dM_list_35 (by decide) (fun c35 => ?_) (fun c35 => ?_)
    · have h := if_t c35 h
      obtain rfl := Option.some.inj h
      refine w_sub (lv' := []) [] rfl ?_
      exact K
    · have h := if_f c35 h
      refine w_aload_n (pc := 38) (q := 0) G dM_list_38 rfl rfl ?_
      refine w_get (pc := 39) (v := .int x_held) (fs := fl_M κ (x_many, x_generator, x_known, x_without, x_rows, x_row, x_pivot, x_fresh, x_multiple, x_last, x_made, x_settled, x_point, x_limit, x_mode, x_counted, x_listed, x_held, x_first, x_squares, x_wanted, x_spanned, x_span, x_minima, x_measured, x_found, x_any)) G 0 (by decide) lb_M rfl wsM_ok 17 (by decide) wd507 gf_M_17 dM_list_39 ?_
      refine w_if_eq (pc := 42) (tgt := 52) G dM_list_42 (by decide) (fun c42 => ?_) (fun c42 => ?_)
      · have h := if_t c42 h
        refine w_aload_n (pc := 52) (q := 0) G dM_list_52 rfl rfl ?_
        refine w_iconst (pc := 53) (v := (0 : Int32)) G dM_list_53 (by decide) ?_
        refine w_put (pc := 54) (fs := fl_M κ (x_many, x_generator, x_known, x_without, x_rows, x_row, x_pivot, x_fresh, x_multiple, x_last, x_made, x_settled, x_point, x_limit, x_mode, x_counted, x_listed, x_held, x_first, x_squares, x_wanted, x_spanned, x_span, x_minima, x_measured, x_found, x_any)) (L1 := (LM κ (x_many, x_generator, x_known, x_without, x_rows, x_row, x_pivot, x_fresh, x_multiple, x_last, x_made, x_settled, x_point, x_limit, x_mode, x_counted, x_listed, (0 : Int32), x_first, x_squares, x_wanted, x_spanned, x_span, x_minima, x_measured, x_found, x_any) X)) G 0 (by decide) lb_M rfl wsM_ok tyM tyM_ok nmM 17 (by decide) wd507 rfl rfl rfl (Nat.le_of_ble_eq_true rfl) dM_list_54 upf_held ?_
        refine w_aload_n (pc := 57) (q := 0) G dM_list_57 rfl rfl ?_
        refine w_iconst (pc := 58) (v := (1 : Int32)) G dM_list_58 (by decide) ?_
        refine w_lload_n (pc := 59) (q := 1) G dM_list_59 rfl rfl ?_
        obtain ⟨r60, e60, h⟩ := bd h
        refine w_callV (pc := 60) (av := [.int (1 : Int32), .long v1]) (rest := []) (v := none) (L' := (LM κ (x_many, x_generator, x_known, x_without, x_rows, x_row, x_pivot, r60.1, r60.2.1, r60.2.2.1, r60.2.2.2.1, r60.2.2.2.2.1, x_point, r60.2.2.2.2.2.1, r60.2.2.2.2.2.2.1, r60.2.2.2.2.2.2.2.1, x_listed, r60.2.2.2.2.2.2.2.2.1, r60.2.2.2.2.2.2.2.2.2.1, r60.2.2.2.2.2.2.2.2.2.2.1, x_wanted, r60.2.2.2.2.2.2.2.2.2.2.2.1, r60.2.2.2.2.2.2.2.2.2.2.2.2.1, x_minima, x_measured, r60.2.2.2.2.2.2.2.2.2.2.2.2.2.1, r60.2.2.2.2.2.2.2.2.2.2.2.2.2.2) X)) (T := TM) (fs := fl_M κ (x_many, x_generator, x_known, x_without, x_rows, x_row, x_pivot, x_fresh, x_multiple, x_last, x_made, x_settled, x_point, x_limit, x_mode, x_counted, x_listed, (0 : Int32), x_first, x_squares, x_wanted, x_spanned, x_span, x_minima, x_measured, x_found, x_any)) G 0 0 27 (by decide) lb_M rfl cb_M_walk_M_list wd672 ws32 wd670 (met_M_walk κ X F (1 : Int32) v1  e60) rfl rfl rfl (Nat.le_of_ble_eq_true rfl) dM_list_60 ?_
        refine w_ldc2 (pc := 63) (v := (2 : Int64)) G wd710 dM_list_63 ?_
        refine w_lload_n (pc := 66) (q := 1) G dM_list_66 rfl rfl ?_
        refine w_lmul (pc := 67) G dM_list_67 ?_
        refine w_lstore_n (pc := 68) (lv' := [(1, .long ((2 : Int64) * v1)), (0, .ref (κ.1 0))]) G dM_list_68 rfl (by decide) rfl ?_
        refine w_goto (pc := 69) (tgt := 29) G dM_list_69 (by decide) ?_
        refine w_sub (lv' := [(0, .ref (κ.1 0)), (1, .long ((2 : Int64) * v1))]) [1, 0] rfl ?_
        exact ih ((2 : Int64) * v1) r60.1 r60.2.1 r60.2.2.1 r60.2.2.2.1 r60.2.2.2.2.1 r60.2.2.2.2.2.1 r60.2.2.2.2.2.2.1 r60.2.2.2.2.2.2.2.1 r60.2.2.2.2.2.2.2.2.1 r60.2.2.2.2.2.2.2.2.2.1 r60.2.2.2.2.2.2.2.2.2.2.1 r60.2.2.2.2.2.2.2.2.2.2.2.1 r60.2.2.2.2.2.2.2.2.2.2.2.2.1 r60.2.2.2.2.2.2.2.2.2.2.2.2.2.1 r60.2.2.2.2.2.2.2.2.2.2.2.2.2.2 out h K
      · have h := if_f c42 h
        refine w_aload_n (pc := 45) (q := 0) G dM_list_45 rfl rfl ?_
        refine w_get (pc := 46) (v := .int x_rows) (fs := fl_M κ (x_many, x_generator, x_known, x_without, x_rows, x_row, x_pivot, x_fresh, x_multiple, x_last, x_made, x_settled, x_point, x_limit, x_mode, x_counted, x_listed, x_held, x_first, x_squares, x_wanted, x_spanned, x_span, x_minima, x_measured, x_found, x_any)) G 0 (by decide) lb_M rfl wsM_ok 4 (by decide) wd494 gf_M_4 dM_list_46 ?_
        refine w_if_le (pc := 49) (tgt := 72) G dM_list_49 (by decide) (fun c49 => ?_) (fun c49 => ?_)
        · have h := if_t c49 h
          obtain rfl := Option.some.inj h
          refine w_sub (lv' := []) [] rfl ?_
          exact K
        · have h := if_f c49 h
          refine w_aload_n (pc := 52) (q := 0) G dM_list_52 rfl rfl ?_
          refine w_iconst (pc := 53) (v := (0 : Int32)) G dM_list_53 (by decide) ?_
          refine w_put (pc := 54) (fs := fl_M κ (x_many, x_generator, x_known, x_without, x_rows, x_row, x_pivot, x_fresh, x_multiple, x_last, x_made, x_settled, x_point, x_limit, x_mode, x_counted, x_listed, x_held, x_first, x_squares, x_wanted, x_spanned, x_span, x_minima, x_measured, x_found, x_any)) (L1 := (LM κ (x_many, x_generator, x_known, x_without, x_rows, x_row, x_pivot, x_fresh, x_multiple, x_last, x_made, x_settled, x_point, x_limit, x_mode, x_counted, x_listed, (0 : Int32), x_first, x_squares, x_wanted, x_spanned, x_span, x_minima, x_measured, x_found, x_any) X)) G 0 (by decide) lb_M rfl wsM_ok tyM tyM_ok nmM 17 (by decide) wd507 rfl rfl rfl (Nat.le_of_ble_eq_true rfl) dM_list_54 upf_held ?_
          refine w_aload_n (pc := 57) (q := 0) G dM_list_57 rfl rfl ?_
          refine w_iconst (pc := 58) (v := (1 : Int32)) G dM_list_58 (by decide) ?_
          refine w_lload_n (pc := 59) (q := 1) G dM_list_59 rfl rfl ?_
          obtain ⟨r60, e60, h⟩ := bd h
          refine w_callV (pc := 60) (av := [.int (1 : Int32), .long v1]) (rest := []) (v := none) (L' := (LM κ (x_many, x_generator, x_known, x_without, x_rows, x_row, x_pivot, r60.1, r60.2.1, r60.2.2.1, r60.2.2.2.1, r60.2.2.2.2.1, x_point, r60.2.2.2.2.2.1, r60.2.2.2.2.2.2.1, r60.2.2.2.2.2.2.2.1, x_listed, r60.2.2.2.2.2.2.2.2.1, r60.2.2.2.2.2.2.2.2.2.1, r60.2.2.2.2.2.2.2.2.2.2.1, x_wanted, r60.2.2.2.2.2.2.2.2.2.2.2.1, r60.2.2.2.2.2.2.2.2.2.2.2.2.1, x_minima, x_measured, r60.2.2.2.2.2.2.2.2.2.2.2.2.2.1, r60.2.2.2.2.2.2.2.2.2.2.2.2.2.2) X)) (T := TM) (fs := fl_M κ (x_many, x_generator, x_known, x_without, x_rows, x_row, x_pivot, x_fresh, x_multiple, x_last, x_made, x_settled, x_point, x_limit, x_mode, x_counted, x_listed, (0 : Int32), x_first, x_squares, x_wanted, x_spanned, x_span, x_minima, x_measured, x_found, x_any)) G 0 0 27 (by decide) lb_M rfl cb_M_walk_M_list wd672 ws32 wd670 (met_M_walk κ X F (1 : Int32) v1  e60) rfl rfl rfl (Nat.le_of_ble_eq_true rfl) dM_list_60 ?_
          refine w_ldc2 (pc := 63) (v := (2 : Int64)) G wd710 dM_list_63 ?_
          refine w_lload_n (pc := 66) (q := 1) G dM_list_66 rfl rfl ?_
          refine w_lmul (pc := 67) G dM_list_67 ?_
          refine w_lstore_n (pc := 68) (lv' := [(1, .long ((2 : Int64) * v1)), (0, .ref (κ.1 0))]) G dM_list_68 rfl (by decide) rfl ?_
          refine w_goto (pc := 69) (tgt := 29) G dM_list_69 (by decide) ?_
          refine w_sub (lv' := [(0, .ref (κ.1 0)), (1, .long ((2 : Int64) * v1))]) [1, 0] rfl ?_
          exact ih ((2 : Int64) * v1) r60.1 r60.2.1 r60.2.2.1 r60.2.2.2.1 r60.2.2.2.2.1 r60.2.2.2.2.2.1 r60.2.2.2.2.2.2.1 r60.2.2.2.2.2.2.2.1 r60.2.2.2.2.2.2.2.2.1 r60.2.2.2.2.2.2.2.2.2.1 r60.2.2.2.2.2.2.2.2.2.2.1 r60.2.2.2.2.2.2.2.2.2.2.2.1 r60.2.2.2.2.2.2.2.2.2.2.2.2.1 r60.2.2.2.2.2.2.2.2.2.2.2.2.2.1 r60.2.2.2.2.2.2.2.2.2.2.2.2.2.2 out h K
noncomputable def M_list (F : Nat) (x_many : Int32) (x_generator : Nat → Int32) (x_known : Int32) (x_without : Int32) (x_rows : Int32) (x_row : Nat → Int64) (x_pivot : Nat → Int32) (x_fresh : Nat → Int64) (x_multiple : Nat → Int64) (x_last : Nat → Int64) (x_made : Nat → Int64) (x_settled : Nat → Int64) (x_point : Nat → Int64) (x_limit : Int64) (x_mode : Int32) (x_counted : Int32) (x_listed : Int32) (x_held : Int32) (x_first : Nat → Int64) (x_squares : Nat → Int64) (x_wanted : Int32) (x_spanned : Int32) (x_span : Nat → Int64) (x_found : Nat → Int64) (x_any : Int32)  : Option (Int32 × Int32 × Int32 × (Nat → Int64) × (Nat → Int32) × (Nat → Int64) × (Nat → Int64) × (Nat → Int64) × (Nat → Int64) × (Nat → Int64) × (Nat → Int64) × Int64 × Int32 × Int32 × Int32 × Int32 × (Nat → Int64) × (Nat → Int64) × Int32 × (Nat → Int64) × (Nat → Int64) × Int32) := (M_look F x_many x_generator x_known x_without x_rows x_row x_pivot x_fresh (-1 : Int32)).bind (fun r2 => if x_listed = 0 then (M_origin F x_point ).bind (fun r19 => (lM_list_29 F r2.2.2.1 r2.2.2.2.1 r2.2.2.2.2.1 r19 x_wanted F (1 : Int64) r2.2.2.2.2.2 x_multiple x_last x_made x_settled x_limit x_mode x_counted (0 : Int32) x_first x_squares x_spanned x_span x_found x_any).bind (fun o29_16 => some (r2.1, r2.2.1, r2.2.2.1, r2.2.2.2.1, r2.2.2.2.2.1, o29_16.1, o29_16.2.1, o29_16.2.2.1, o29_16.2.2.2.1, o29_16.2.2.2.2.1, r19, o29_16.2.2.2.2.2.1, o29_16.2.2.2.2.2.2.1, o29_16.2.2.2.2.2.2.2.1, (1 : Int32), o29_16.2.2.2.2.2.2.2.2.1, o29_16.2.2.2.2.2.2.2.2.2.1, o29_16.2.2.2.2.2.2.2.2.2.2.1, o29_16.2.2.2.2.2.2.2.2.2.2.2.1, o29_16.2.2.2.2.2.2.2.2.2.2.2.2.1, o29_16.2.2.2.2.2.2.2.2.2.2.2.2.2.1, o29_16.2.2.2.2.2.2.2.2.2.2.2.2.2.2))) else some (r2.1, r2.2.1, r2.2.2.1, r2.2.2.2.1, r2.2.2.2.2.1, r2.2.2.2.2.2, x_multiple, x_last, x_made, x_settled, x_point, x_limit, x_mode, x_counted, x_listed, x_held, x_first, x_squares, x_spanned, x_span, x_found, x_any))
set_option maxHeartbeats 8000000 in
set_option maxRecDepth 100000 in
theorem met_M_list (κ : ctx) (X : Nat → va_E) (F : Nat) {x_many : Int32} {x_generator : Nat → Int32} {x_known : Int32} {x_without : Int32} {x_rows : Int32} {x_row : Nat → Int64} {x_pivot : Nat → Int32} {x_fresh : Nat → Int64} {x_multiple : Nat → Int64} {x_last : Nat → Int64} {x_made : Nat → Int64} {x_settled : Nat → Int64} {x_point : Nat → Int64} {x_limit : Int64} {x_mode : Int32} {x_counted : Int32} {x_listed : Int32} {x_held : Int32} {x_first : Nat → Int64} {x_squares : Nat → Int64} {x_wanted : Int32} {x_spanned : Int32} {x_span : Nat → Int64} {x_minima : Nat → Int32} {x_measured : Int32} {x_found : Nat → Int64} {x_any : Int32}  {out : Int32 × Int32 × Int32 × (Nat → Int64) × (Nat → Int32) × (Nat → Int64) × (Nat → Int64) × (Nat → Int64) × (Nat → Int64) × (Nat → Int64) × (Nat → Int64) × Int64 × Int32 × Int32 × Int32 × Int32 × (Nat → Int64) × (Nat → Int64) × Int32 × (Nat → Int64) × (Nat → Int64) × Int32} (h : M_list F x_many x_generator x_known x_without x_rows x_row x_pivot x_fresh x_multiple x_last x_made x_settled x_point x_limit x_mode x_counted x_listed x_held x_first x_squares x_wanted x_spanned x_span x_found x_any  = some out) : Mt yM_list cM_list 3 none rm_M_list κ [.ref (κ.1 0)] (LM κ (x_many, x_generator, x_known, x_without, x_rows, x_row, x_pivot, x_fresh, x_multiple, x_last, x_made, x_settled, x_point, x_limit, x_mode, x_counted, x_listed, x_held, x_first, x_squares, x_wanted, x_spanned, x_span, x_minima, x_measured, x_found, x_any) X) none (LM κ (x_many, x_generator, out.1, out.2.1, out.2.2.1, out.2.2.2.1, out.2.2.2.2.1, out.2.2.2.2.2.1, out.2.2.2.2.2.2.1, out.2.2.2.2.2.2.2.1, out.2.2.2.2.2.2.2.2.1, out.2.2.2.2.2.2.2.2.2.1, out.2.2.2.2.2.2.2.2.2.2.1, out.2.2.2.2.2.2.2.2.2.2.2.1, out.2.2.2.2.2.2.2.2.2.2.2.2.1, out.2.2.2.2.2.2.2.2.2.2.2.2.2.1, out.2.2.2.2.2.2.2.2.2.2.2.2.2.2.1, out.2.2.2.2.2.2.2.2.2.2.2.2.2.2.2.1, out.2.2.2.2.2.2.2.2.2.2.2.2.2.2.2.2.1, out.2.2.2.2.2.2.2.2.2.2.2.2.2.2.2.2.2.1, x_wanted, out.2.2.2.2.2.2.2.2.2.2.2.2.2.2.2.2.2.2.1, out.2.2.2.2.2.2.2.2.2.2.2.2.2.2.2.2.2.2.2.1, x_minima, x_measured, out.2.2.2.2.2.2.2.2.2.2.2.2.2.2.2.2.2.2.2.2.1, out.2.2.2.2.2.2.2.2.2.2.2.2.2.2.2.2.2.2.2.2.2) X) := by
  refine Mt.of (by decide) (Nat.le_of_ble_eq_true rfl) ?_
  intro g G Fh
  unfold M_list at h
  show J g κ 3 0 [(0, .ref (κ.1 0))] [] (LM κ (x_many, x_generator, x_known, x_without, x_rows, x_row, x_pivot, x_fresh, x_multiple, x_last, x_made, x_settled, x_point, x_limit, x_mode, x_counted, x_listed, x_held, x_first, x_squares, x_wanted, x_spanned, x_span, x_minima, x_measured, x_found, x_any) X)
  refine w_aload_n (pc := 0) (q := 0) G dM_list_0 rfl rfl ?_
  refine w_iconst (pc := 1) (v := (-1 : Int32)) G dM_list_1 (by decide) ?_
  obtain ⟨r2, e2, h⟩ := bd h
  refine w_callV (pc := 2) (av := [.int (-1 : Int32)]) (rest := []) (v := none) (L' := (LM κ (x_many, x_generator, r2.1, r2.2.1, r2.2.2.1, r2.2.2.2.1, r2.2.2.2.2.1, r2.2.2.2.2.2, x_multiple, x_last, x_made, x_settled, x_point, x_limit, x_mode, x_counted, x_listed, x_held, x_first, x_squares, x_wanted, x_spanned, x_span, x_minima, x_measured, x_found, x_any) X)) (T := TM) (fs := fl_M κ (x_many, x_generator, x_known, x_without, x_rows, x_row, x_pivot, x_fresh, x_multiple, x_last, x_made, x_settled, x_point, x_limit, x_mode, x_counted, x_listed, x_held, x_first, x_squares, x_wanted, x_spanned, x_span, x_minima, x_measured, x_found, x_any)) G 0 0 27 (by decide) lb_M rfl cb_M_look_M_list wd597 ws20 wd595 (met_M_look κ X F (-1 : Int32)  e2) rfl rfl rfl (Nat.le_of_ble_eq_true rfl) dM_list_2 ?_
  refine w_aload_n (pc := 5) (q := 0) G dM_list_5 rfl rfl ?_
  refine w_get (pc := 6) (v := .int x_listed) (fs := fl_M κ (x_many, x_generator, r2.1, r2.2.1, r2.2.2.1, r2.2.2.2.1, r2.2.2.2.2.1, r2.2.2.2.2.2, x_multiple, x_last, x_made, x_settled, x_point, x_limit, x_mode, x_counted, x_listed, x_held, x_first, x_squares, x_wanted, x_spanned, x_span, x_minima, x_measured, x_found, x_any)) G 0 (by decide) lb_M rfl wsM_ok 16 (by decide) wd506 gf_M_16 dM_list_6 ?_
  refine w_if_eq (pc := 9) (tgt := 13) G dM_list_9 (by decide) (fun c9 => ?_) (fun c9 => ?_)
  · have h := if_t c9 h
    refine w_aload_n (pc := 13) (q := 0) G dM_list_13 rfl rfl ?_
    refine w_iconst (pc := 14) (v := (1 : Int32)) G dM_list_14 (by decide) ?_
    refine w_put (pc := 15) (fs := fl_M κ (x_many, x_generator, r2.1, r2.2.1, r2.2.2.1, r2.2.2.2.1, r2.2.2.2.2.1, r2.2.2.2.2.2, x_multiple, x_last, x_made, x_settled, x_point, x_limit, x_mode, x_counted, x_listed, x_held, x_first, x_squares, x_wanted, x_spanned, x_span, x_minima, x_measured, x_found, x_any)) (L1 := (LM κ (x_many, x_generator, r2.1, r2.2.1, r2.2.2.1, r2.2.2.2.1, r2.2.2.2.2.1, r2.2.2.2.2.2, x_multiple, x_last, x_made, x_settled, x_point, x_limit, x_mode, x_counted, (1 : Int32), x_held, x_first, x_squares, x_wanted, x_spanned, x_span, x_minima, x_measured, x_found, x_any) X)) G 0 (by decide) lb_M rfl wsM_ok tyM tyM_ok nmM 16 (by decide) wd506 rfl rfl rfl (Nat.le_of_ble_eq_true rfl) dM_list_15 upf_listed ?_
    refine w_aload_n (pc := 18) (q := 0) G dM_list_18 rfl rfl ?_
    obtain ⟨r19, e19, h⟩ := bd h
    refine w_callV (pc := 19) (av := []) (rest := []) (v := none) (L' := (LM κ (x_many, x_generator, r2.1, r2.2.1, r2.2.2.1, r2.2.2.2.1, r2.2.2.2.2.1, r2.2.2.2.2.2, x_multiple, x_last, x_made, x_settled, r19, x_limit, x_mode, x_counted, (1 : Int32), x_held, x_first, x_squares, x_wanted, x_spanned, x_span, x_minima, x_measured, x_found, x_any) X)) (T := TM) (fs := fl_M κ (x_many, x_generator, r2.1, r2.2.1, r2.2.2.1, r2.2.2.2.1, r2.2.2.2.2.1, r2.2.2.2.2.2, x_multiple, x_last, x_made, x_settled, x_point, x_limit, x_mode, x_counted, (1 : Int32), x_held, x_first, x_squares, x_wanted, x_spanned, x_span, x_minima, x_measured, x_found, x_any)) G 0 0 27 (by decide) lb_M rfl cb_M_origin_M_list wd668 ws31 wd666 (met_M_origin κ X F   e19) rfl rfl rfl (Nat.le_of_ble_eq_true rfl) dM_list_19 ?_
    refine w_lconst (pc := 22) (v := (1 : Int64)) G dM_list_22 (by decide) ?_
    refine w_lstore_n (pc := 23) (lv' := [(1, .long (1 : Int64)), (0, .ref (κ.1 0))]) G dM_list_23 rfl (by decide) rfl ?_
    refine w_aload_n (pc := 24) (q := 1) G dM_list_24 rfl rfl ?_
    refine w_iconst (pc := 25) (v := (0 : Int32)) G dM_list_25 (by decide) ?_
    refine w_put (pc := 26) (fs := fl_M κ (x_many, x_generator, r2.1, r2.2.1, r2.2.2.1, r2.2.2.2.1, r2.2.2.2.2.1, r2.2.2.2.2.2, x_multiple, x_last, x_made, x_settled, r19, x_limit, x_mode, x_counted, (1 : Int32), x_held, x_first, x_squares, x_wanted, x_spanned, x_span, x_minima, x_measured, x_found, x_any)) (L1 := (LM κ (x_many, x_generator, r2.1, r2.2.1, r2.2.2.1, r2.2.2.2.1, r2.2.2.2.2.1, r2.2.2.2.2.2, x_multiple, x_last, x_made, x_settled, r19, x_limit, x_mode, x_counted, (1 : Int32), (0 : Int32), x_first, x_squares, x_wanted, x_spanned, x_span, x_minima, x_measured, x_found, x_any) X)) G 0 (by decide) lb_M rfl wsM_ok tyM tyM_ok nmM 17 (by decide) wd507 rfl rfl rfl (Nat.le_of_ble_eq_true rfl) dM_list_26 upf_held ?_
    refine w_sub (lv' := [(0, .ref (κ.1 0)), (1, .long (1 : Int64))]) [1, 0] rfl ?_
    obtain ⟨o29_16, eo29_16, h⟩ := bd h
    refine lM_list_29_ok G X F F (1 : Int64) r2.2.2.2.2.2 x_multiple x_last x_made x_settled x_limit x_mode x_counted (0 : Int32) x_first x_squares x_spanned x_span x_found x_any o29_16 eo29_16 ?_
    obtain rfl := Option.some.inj h
    exact w_vret (pc := 72) G dM_list_72 Fh
  · have h := if_f c9 h
    obtain rfl := Option.some.inj h
    exact w_vret (pc := 12) G dM_list_12 Fh
def rm_M_vector : Room := { frames := 8, cells := 0, slots := 0, locals := 201 }
theorem dM_vector_0 : decode cM_vector 0 = .ok (.iload_n 2, 1) := by decide +kernel
theorem dM_vector_1 : decode cM_vector 1 = .ok (.ifCond .lt 18, 3) := by decide +kernel
theorem dM_vector_4 : decode cM_vector 4 = .ok (.iload_n 2, 1) := by decide +kernel
theorem dM_vector_5 : decode cM_vector 5 = .ok (.iconst 3, 1) := by decide +kernel
theorem dM_vector_6 : decode cM_vector 6 = .ok (.if_icmp .gt 13, 3) := by decide +kernel
theorem dM_vector_9 : decode cM_vector 9 = .ok (.iload_n 1, 1) := by decide +kernel
theorem dM_vector_10 : decode cM_vector 10 = .ok (.ifCond .lt 9, 3) := by decide +kernel
theorem dM_vector_13 : decode cM_vector 13 = .ok (.iload_n 1, 1) := by decide +kernel
theorem dM_vector_14 : decode cM_vector 14 = .ok (.bipush 40, 2) := by decide +kernel
theorem dM_vector_16 : decode cM_vector 16 = .ok (.if_icmp .le 7, 3) := by decide +kernel
theorem dM_vector_19 : decode cM_vector 19 = .ok (.sipush 1000, 3) := by decide +kernel
theorem dM_vector_22 : decode cM_vector 22 = .ok (.ireturn, 1) := by decide +kernel
theorem dM_vector_23 : decode cM_vector 23 = .ok (.aload_n 0, 1) := by decide +kernel
theorem dM_vector_24 : decode cM_vector 24 = .ok (.invokevirtual 194, 3) := by decide +kernel
theorem dM_vector_27 : decode cM_vector 27 = .ok (.aload_n 0, 1) := by decide +kernel
theorem dM_vector_28 : decode cM_vector 28 = .ok (.getfield 74, 3) := by decide +kernel
theorem dM_vector_31 : decode cM_vector 31 = .ok (.ifCond .ne 13, 3) := by decide +kernel
theorem dM_vector_34 : decode cM_vector 34 = .ok (.iload_n 1, 1) := by decide +kernel
theorem dM_vector_35 : decode cM_vector 35 = .ok (.ifCond .le 9, 3) := by decide +kernel
theorem dM_vector_38 : decode cM_vector 38 = .ok (.sipush 1000, 3) := by decide +kernel
theorem dM_vector_41 : decode cM_vector 41 = .ok (.goto 14, 3) := by decide +kernel
theorem dM_vector_44 : decode cM_vector 44 = .ok (.aload_n 0, 1) := by decide +kernel
theorem dM_vector_45 : decode cM_vector 45 = .ok (.getfield 38, 3) := by decide +kernel
theorem dM_vector_48 : decode cM_vector 48 = .ok (.iconst 4, 1) := by decide +kernel
theorem dM_vector_49 : decode cM_vector 49 = .ok (.iload_n 1, 1) := by decide +kernel
theorem dM_vector_50 : decode cM_vector 50 = .ok (.imul, 1) := by decide +kernel
theorem dM_vector_51 : decode cM_vector 51 = .ok (.iload_n 2, 1) := by decide +kernel
theorem dM_vector_52 : decode cM_vector 52 = .ok (.iadd, 1) := by decide +kernel
theorem dM_vector_53 : decode cM_vector 53 = .ok (.laload, 1) := by decide +kernel
theorem dM_vector_54 : decode cM_vector 54 = .ok (.l2i, 1) := by decide +kernel
theorem dM_vector_55 : decode cM_vector 55 = .ok (.ireturn, 1) := by decide +kernel
theorem cb_M_list_M_vector : CB yM_list cM_list 3 none rm_M_list rm_M_vector 0 := ⟨wd734, wd8, by decide +kernel, rfl, rfl, by decide⟩
noncomputable def M_vector (F : Nat) (x_many : Int32) (x_generator : Nat → Int32) (x_known : Int32) (x_without : Int32) (x_rows : Int32) (x_row : Nat → Int64) (x_pivot : Nat → Int32) (x_fresh : Nat → Int64) (x_multiple : Nat → Int64) (x_last : Nat → Int64) (x_made : Nat → Int64) (x_settled : Nat → Int64) (x_point : Nat → Int64) (x_limit : Int64) (x_mode : Int32) (x_counted : Int32) (x_listed : Int32) (x_held : Int32) (x_first : Nat → Int64) (x_squares : Nat → Int64) (x_wanted : Int32) (x_spanned : Int32) (x_span : Nat → Int64) (x_found : Nat → Int64) (x_any : Int32) (v1 : Int32) (v2 : Int32) : Option (Int32 × Int32 × Int32 × Int32 × (Nat → Int64) × (Nat → Int32) × (Nat → Int64) × (Nat → Int64) × (Nat → Int64) × (Nat → Int64) × (Nat → Int64) × (Nat → Int64) × Int64 × Int32 × Int32 × Int32 × Int32 × (Nat → Int64) × (Nat → Int64) × Int32 × (Nat → Int64) × (Nat → Int64) × Int32) := if v2 < 0 then some ((1000 : Int32), x_known, x_without, x_rows, x_row, x_pivot, x_fresh, x_multiple, x_last, x_made, x_settled, x_point, x_limit, x_mode, x_counted, x_listed, x_held, x_first, x_squares, x_spanned, x_span, x_found, x_any) else if (3 : Int32) < v2 then some ((1000 : Int32), x_known, x_without, x_rows, x_row, x_pivot, x_fresh, x_multiple, x_last, x_made, x_settled, x_point, x_limit, x_mode, x_counted, x_listed, x_held, x_first, x_squares, x_spanned, x_span, x_found, x_any) else if v1 < 0 then some ((1000 : Int32), x_known, x_without, x_rows, x_row, x_pivot, x_fresh, x_multiple, x_last, x_made, x_settled, x_point, x_limit, x_mode, x_counted, x_listed, x_held, x_first, x_squares, x_spanned, x_span, x_found, x_any) else if v1 ≤ (40 : Int32) then (M_list F x_many x_generator x_known x_without x_rows x_row x_pivot x_fresh x_multiple x_last x_made x_settled x_point x_limit x_mode x_counted x_listed x_held x_first x_squares x_wanted x_spanned x_span x_found x_any ).bind (fun r24 => if r24.2.2.1 = 0 then if v1 ≤ 0 then gd (vp_in (((4 : Int32) * v1) + v2) 164) (some ((r24.2.2.2.2.2.2.2.2.2.2.2.2.2.2.2.2.1 (((4 : Int32) * v1) + v2).toNatClampNeg).toInt32, r24.1, r24.2.1, r24.2.2.1, r24.2.2.2.1, r24.2.2.2.2.1, r24.2.2.2.2.2.1, r24.2.2.2.2.2.2.1, r24.2.2.2.2.2.2.2.1, r24.2.2.2.2.2.2.2.2.1, r24.2.2.2.2.2.2.2.2.2.1, r24.2.2.2.2.2.2.2.2.2.2.1, r24.2.2.2.2.2.2.2.2.2.2.2.1, r24.2.2.2.2.2.2.2.2.2.2.2.2.1, r24.2.2.2.2.2.2.2.2.2.2.2.2.2.1, r24.2.2.2.2.2.2.2.2.2.2.2.2.2.2.1, r24.2.2.2.2.2.2.2.2.2.2.2.2.2.2.2.1, r24.2.2.2.2.2.2.2.2.2.2.2.2.2.2.2.2.1, r24.2.2.2.2.2.2.2.2.2.2.2.2.2.2.2.2.2.1, r24.2.2.2.2.2.2.2.2.2.2.2.2.2.2.2.2.2.2.1, r24.2.2.2.2.2.2.2.2.2.2.2.2.2.2.2.2.2.2.2.1, r24.2.2.2.2.2.2.2.2.2.2.2.2.2.2.2.2.2.2.2.2.1, r24.2.2.2.2.2.2.2.2.2.2.2.2.2.2.2.2.2.2.2.2.2)) else some ((1000 : Int32), r24.1, r24.2.1, r24.2.2.1, r24.2.2.2.1, r24.2.2.2.2.1, r24.2.2.2.2.2.1, r24.2.2.2.2.2.2.1, r24.2.2.2.2.2.2.2.1, r24.2.2.2.2.2.2.2.2.1, r24.2.2.2.2.2.2.2.2.2.1, r24.2.2.2.2.2.2.2.2.2.2.1, r24.2.2.2.2.2.2.2.2.2.2.2.1, r24.2.2.2.2.2.2.2.2.2.2.2.2.1, r24.2.2.2.2.2.2.2.2.2.2.2.2.2.1, r24.2.2.2.2.2.2.2.2.2.2.2.2.2.2.1, r24.2.2.2.2.2.2.2.2.2.2.2.2.2.2.2.1, r24.2.2.2.2.2.2.2.2.2.2.2.2.2.2.2.2.1, r24.2.2.2.2.2.2.2.2.2.2.2.2.2.2.2.2.2.1, r24.2.2.2.2.2.2.2.2.2.2.2.2.2.2.2.2.2.2.1, r24.2.2.2.2.2.2.2.2.2.2.2.2.2.2.2.2.2.2.2.1, r24.2.2.2.2.2.2.2.2.2.2.2.2.2.2.2.2.2.2.2.2.1, r24.2.2.2.2.2.2.2.2.2.2.2.2.2.2.2.2.2.2.2.2.2) else gd (vp_in (((4 : Int32) * v1) + v2) 164) (some ((r24.2.2.2.2.2.2.2.2.2.2.2.2.2.2.2.2.1 (((4 : Int32) * v1) + v2).toNatClampNeg).toInt32, r24.1, r24.2.1, r24.2.2.1, r24.2.2.2.1, r24.2.2.2.2.1, r24.2.2.2.2.2.1, r24.2.2.2.2.2.2.1, r24.2.2.2.2.2.2.2.1, r24.2.2.2.2.2.2.2.2.1, r24.2.2.2.2.2.2.2.2.2.1, r24.2.2.2.2.2.2.2.2.2.2.1, r24.2.2.2.2.2.2.2.2.2.2.2.1, r24.2.2.2.2.2.2.2.2.2.2.2.2.1, r24.2.2.2.2.2.2.2.2.2.2.2.2.2.1, r24.2.2.2.2.2.2.2.2.2.2.2.2.2.2.1, r24.2.2.2.2.2.2.2.2.2.2.2.2.2.2.2.1, r24.2.2.2.2.2.2.2.2.2.2.2.2.2.2.2.2.1, r24.2.2.2.2.2.2.2.2.2.2.2.2.2.2.2.2.2.1, r24.2.2.2.2.2.2.2.2.2.2.2.2.2.2.2.2.2.2.1, r24.2.2.2.2.2.2.2.2.2.2.2.2.2.2.2.2.2.2.2.1, r24.2.2.2.2.2.2.2.2.2.2.2.2.2.2.2.2.2.2.2.2.1, r24.2.2.2.2.2.2.2.2.2.2.2.2.2.2.2.2.2.2.2.2.2))) else some ((1000 : Int32), x_known, x_without, x_rows, x_row, x_pivot, x_fresh, x_multiple, x_last, x_made, x_settled, x_point, x_limit, x_mode, x_counted, x_listed, x_held, x_first, x_squares, x_spanned, x_span, x_found, x_any)
set_option maxHeartbeats 8000000 in
set_option maxRecDepth 100000 in
theorem met_M_vector (κ : ctx) (X : Nat → va_E) (F : Nat) {x_many : Int32} {x_generator : Nat → Int32} {x_known : Int32} {x_without : Int32} {x_rows : Int32} {x_row : Nat → Int64} {x_pivot : Nat → Int32} {x_fresh : Nat → Int64} {x_multiple : Nat → Int64} {x_last : Nat → Int64} {x_made : Nat → Int64} {x_settled : Nat → Int64} {x_point : Nat → Int64} {x_limit : Int64} {x_mode : Int32} {x_counted : Int32} {x_listed : Int32} {x_held : Int32} {x_first : Nat → Int64} {x_squares : Nat → Int64} {x_wanted : Int32} {x_spanned : Int32} {x_span : Nat → Int64} {x_minima : Nat → Int32} {x_measured : Int32} {x_found : Nat → Int64} {x_any : Int32} (v1 : Int32) (v2 : Int32) {out : Int32 × Int32 × Int32 × Int32 × (Nat → Int64) × (Nat → Int32) × (Nat → Int64) × (Nat → Int64) × (Nat → Int64) × (Nat → Int64) × (Nat → Int64) × (Nat → Int64) × Int64 × Int32 × Int32 × Int32 × Int32 × (Nat → Int64) × (Nat → Int64) × Int32 × (Nat → Int64) × (Nat → Int64) × Int32} (h : M_vector F x_many x_generator x_known x_without x_rows x_row x_pivot x_fresh x_multiple x_last x_made x_settled x_point x_limit x_mode x_counted x_listed x_held x_first x_squares x_wanted x_spanned x_span x_found x_any v1 v2 = some out) : Mt yM_vector cM_vector 3 (some .int) rm_M_vector κ [.ref (κ.1 0), .int v1, .int v2] (LM κ (x_many, x_generator, x_known, x_without, x_rows, x_row, x_pivot, x_fresh, x_multiple, x_last, x_made, x_settled, x_point, x_limit, x_mode, x_counted, x_listed, x_held, x_first, x_squares, x_wanted, x_spanned, x_span, x_minima, x_measured, x_found, x_any) X) (some (.int out.1)) (LM κ (x_many, x_generator, out.2.1, out.2.2.1, out.2.2.2.1, out.2.2.2.2.1, out.2.2.2.2.2.1, out.2.2.2.2.2.2.1, out.2.2.2.2.2.2.2.1, out.2.2.2.2.2.2.2.2.1, out.2.2.2.2.2.2.2.2.2.1, out.2.2.2.2.2.2.2.2.2.2.1, out.2.2.2.2.2.2.2.2.2.2.2.1, out.2.2.2.2.2.2.2.2.2.2.2.2.1, out.2.2.2.2.2.2.2.2.2.2.2.2.2.1, out.2.2.2.2.2.2.2.2.2.2.2.2.2.2.1, out.2.2.2.2.2.2.2.2.2.2.2.2.2.2.2.1, out.2.2.2.2.2.2.2.2.2.2.2.2.2.2.2.2.1, out.2.2.2.2.2.2.2.2.2.2.2.2.2.2.2.2.2.1, out.2.2.2.2.2.2.2.2.2.2.2.2.2.2.2.2.2.2.1, x_wanted, out.2.2.2.2.2.2.2.2.2.2.2.2.2.2.2.2.2.2.2.1, out.2.2.2.2.2.2.2.2.2.2.2.2.2.2.2.2.2.2.2.2.1, x_minima, x_measured, out.2.2.2.2.2.2.2.2.2.2.2.2.2.2.2.2.2.2.2.2.2.1, out.2.2.2.2.2.2.2.2.2.2.2.2.2.2.2.2.2.2.2.2.2.2) X) := by
  refine Mt.of (by decide) (Nat.le_of_ble_eq_true rfl) ?_
  intro g G Fh
  unfold M_vector at h
  show J g κ 3 0 [(0, .ref (κ.1 0)), (1, .int v1), (2, .int v2)] [] (LM κ (x_many, x_generator, x_known, x_without, x_rows, x_row, x_pivot, x_fresh, x_multiple, x_last, x_made, x_settled, x_point, x_limit, x_mode, x_counted, x_listed, x_held, x_first, x_squares, x_wanted, x_spanned, x_span, x_minima, x_measured, x_found, x_any) X)
  refine w_iload_n (pc := 0) (q := 2) G dM_vector_0 rfl rfl ?_
  refine w_if_lt (pc := 1) (tgt := 19) G dM_vector_1 (by decide) (fun c1 => ?_) (fun c1 => ?_)
  · have h := if_t c1 h
    refine w_sipush (pc := 19) (v := (1000 : Int32)) G dM_vector_19 (by decide) ?_
    obtain rfl := Option.some.inj h
    exact w_iret (pc := 22) G dM_vector_22 Fh
  · have h := if_f c1 h
    refine w_iload_n (pc := 4) (q := 2) G dM_vector_4 rfl rfl ?_
    refine w_iconst (pc := 5) (v := (3 : Int32)) G dM_vector_5 (by decide) ?_
    refine w_icmp_gt (pc := 6) (tgt := 19) G dM_vector_6 (by decide) (fun c6 => ?_) (fun c6 => ?_)
    · have h := if_t c6 h
      refine w_sipush (pc := 19) (v := (1000 : Int32)) G dM_vector_19 (by decide) ?_
      obtain rfl := Option.some.inj h
      exact w_iret (pc := 22) G dM_vector_22 Fh
    · have h := if_f c6 h
      refine w_iload_n (pc := 9) (q := 1) G dM_vector_9 rfl rfl ?_
      refine w_if_lt (pc := 10) (tgt := 19) G dM_vector_10 (by decide) (fun c10 => ?_) (fun c10 => ?_)
      · have h := if_t c10 h
        refine w_sipush (pc := 19) (v := (1000 : Int32)) G dM_vector_19 (by decide) ?_
        obtain rfl := Option.some.inj h
        exact w_iret (pc := 22) G dM_vector_22 Fh
      · have h := if_f c10 h
        refine w_iload_n (pc := 13) (q := 1) G dM_vector_13 rfl rfl ?_
        refine w_bipush (pc := 14) (v := (40 : Int32)) G dM_vector_14 (by decide) ?_
        refine w_icmp_le (pc := 16) (tgt := 23) G dM_vector_16 (by decide) (fun c16 => ?_) (fun c16 => ?_)
        · have h := if_t c16 h
          refine w_aload_n (pc := 23) (q := 0) G dM_vector_23 rfl rfl ?_
          obtain ⟨r24, e24, h⟩ := bd h
          refine w_callV (pc := 24) (av := []) (rest := []) (v := none) (L' := (LM κ (x_many, x_generator, r24.1, r24.2.1, r24.2.2.1, r24.2.2.2.1, r24.2.2.2.2.1, r24.2.2.2.2.2.1, r24.2.2.2.2.2.2.1, r24.2.2.2.2.2.2.2.1, r24.2.2.2.2.2.2.2.2.1, r24.2.2.2.2.2.2.2.2.2.1, r24.2.2.2.2.2.2.2.2.2.2.1, r24.2.2.2.2.2.2.2.2.2.2.2.1, r24.2.2.2.2.2.2.2.2.2.2.2.2.1, r24.2.2.2.2.2.2.2.2.2.2.2.2.2.1, r24.2.2.2.2.2.2.2.2.2.2.2.2.2.2.1, r24.2.2.2.2.2.2.2.2.2.2.2.2.2.2.2.1, r24.2.2.2.2.2.2.2.2.2.2.2.2.2.2.2.2.1, r24.2.2.2.2.2.2.2.2.2.2.2.2.2.2.2.2.2.1, x_wanted, r24.2.2.2.2.2.2.2.2.2.2.2.2.2.2.2.2.2.2.1, r24.2.2.2.2.2.2.2.2.2.2.2.2.2.2.2.2.2.2.2.1, x_minima, x_measured, r24.2.2.2.2.2.2.2.2.2.2.2.2.2.2.2.2.2.2.2.2.1, r24.2.2.2.2.2.2.2.2.2.2.2.2.2.2.2.2.2.2.2.2.2) X)) (T := TM) (fs := fl_M κ (x_many, x_generator, x_known, x_without, x_rows, x_row, x_pivot, x_fresh, x_multiple, x_last, x_made, x_settled, x_point, x_limit, x_mode, x_counted, x_listed, x_held, x_first, x_squares, x_wanted, x_spanned, x_span, x_minima, x_measured, x_found, x_any)) G 0 0 27 (by decide) lb_M rfl cb_M_list_M_vector wd733 ws45 wd731 (met_M_list κ X F   e24) rfl rfl rfl (Nat.le_of_ble_eq_true rfl) dM_vector_24 ?_
          refine w_aload_n (pc := 27) (q := 0) G dM_vector_27 rfl rfl ?_
          refine w_get (pc := 28) (v := .int r24.2.2.1) (fs := fl_M κ (x_many, x_generator, r24.1, r24.2.1, r24.2.2.1, r24.2.2.2.1, r24.2.2.2.2.1, r24.2.2.2.2.2.1, r24.2.2.2.2.2.2.1, r24.2.2.2.2.2.2.2.1, r24.2.2.2.2.2.2.2.2.1, r24.2.2.2.2.2.2.2.2.2.1, r24.2.2.2.2.2.2.2.2.2.2.1, r24.2.2.2.2.2.2.2.2.2.2.2.1, r24.2.2.2.2.2.2.2.2.2.2.2.2.1, r24.2.2.2.2.2.2.2.2.2.2.2.2.2.1, r24.2.2.2.2.2.2.2.2.2.2.2.2.2.2.1, r24.2.2.2.2.2.2.2.2.2.2.2.2.2.2.2.1, r24.2.2.2.2.2.2.2.2.2.2.2.2.2.2.2.2.1, r24.2.2.2.2.2.2.2.2.2.2.2.2.2.2.2.2.2.1, x_wanted, r24.2.2.2.2.2.2.2.2.2.2.2.2.2.2.2.2.2.2.1, r24.2.2.2.2.2.2.2.2.2.2.2.2.2.2.2.2.2.2.2.1, x_minima, x_measured, r24.2.2.2.2.2.2.2.2.2.2.2.2.2.2.2.2.2.2.2.2.1, r24.2.2.2.2.2.2.2.2.2.2.2.2.2.2.2.2.2.2.2.2.2)) G 0 (by decide) lb_M rfl wsM_ok 4 (by decide) wd494 gf_M_4 dM_vector_28 ?_
          refine w_if_ne (pc := 31) (tgt := 44) G dM_vector_31 (by decide) (fun c31 => ?_) (fun c31 => ?_)
          · have h := if_t c31 h
            refine w_iload_n (pc := 34) (q := 1) G dM_vector_34 rfl rfl ?_
            refine w_if_le (pc := 35) (tgt := 44) G dM_vector_35 (by decide) (fun c35 => ?_) (fun c35 => ?_)
            · have h := if_t c35 h
              refine w_aload_n (pc := 44) (q := 0) G dM_vector_44 rfl rfl ?_
              refine w_get (pc := 45) (v := .ref (κ.1 10)) (fs := fl_M κ (x_many, x_generator, r24.1, r24.2.1, r24.2.2.1, r24.2.2.2.1, r24.2.2.2.2.1, r24.2.2.2.2.2.1, r24.2.2.2.2.2.2.1, r24.2.2.2.2.2.2.2.1, r24.2.2.2.2.2.2.2.2.1, r24.2.2.2.2.2.2.2.2.2.1, r24.2.2.2.2.2.2.2.2.2.2.1, r24.2.2.2.2.2.2.2.2.2.2.2.1, r24.2.2.2.2.2.2.2.2.2.2.2.2.1, r24.2.2.2.2.2.2.2.2.2.2.2.2.2.1, r24.2.2.2.2.2.2.2.2.2.2.2.2.2.2.1, r24.2.2.2.2.2.2.2.2.2.2.2.2.2.2.2.1, r24.2.2.2.2.2.2.2.2.2.2.2.2.2.2.2.2.1, r24.2.2.2.2.2.2.2.2.2.2.2.2.2.2.2.2.2.1, x_wanted, r24.2.2.2.2.2.2.2.2.2.2.2.2.2.2.2.2.2.2.1, r24.2.2.2.2.2.2.2.2.2.2.2.2.2.2.2.2.2.2.2.1, x_minima, x_measured, r24.2.2.2.2.2.2.2.2.2.2.2.2.2.2.2.2.2.2.2.2.1, r24.2.2.2.2.2.2.2.2.2.2.2.2.2.2.2.2.2.2.2.2.2)) G 0 (by decide) lb_M rfl wsM_ok 18 (by decide) wd508 gf_M_18 dM_vector_45 ?_
              refine w_iconst (pc := 48) (v := (4 : Int32)) G dM_vector_48 (by decide) ?_
              refine w_iload_n (pc := 49) (q := 1) G dM_vector_49 rfl rfl ?_
              refine w_imul (pc := 50) G dM_vector_50 ?_
              refine w_iload_n (pc := 51) (q := 2) G dM_vector_51 rfl rfl ?_
              refine w_iadd (pc := 52) G dM_vector_52 ?_
              obtain ⟨i53, h⟩ := gd_some h
              refine w_lald (pc := 53) (n := 164) (f := r24.2.2.2.2.2.2.2.2.2.2.2.2.2.2.2.2.1) G 10 (by decide) lk_first i53 dM_vector_53 ?_
              refine w_l2i (pc := 54) G dM_vector_54 ?_
              obtain rfl := Option.some.inj h
              exact w_iret (pc := 55) G dM_vector_55 Fh
            · have h := if_f c35 h
              refine w_sipush (pc := 38) (v := (1000 : Int32)) G dM_vector_38 (by decide) ?_
              refine w_goto (pc := 41) (tgt := 55) G dM_vector_41 (by decide) ?_
              obtain rfl := Option.some.inj h
              exact w_iret (pc := 55) G dM_vector_55 Fh
          · have h := if_f c31 h
            refine w_aload_n (pc := 44) (q := 0) G dM_vector_44 rfl rfl ?_
            refine w_get (pc := 45) (v := .ref (κ.1 10)) (fs := fl_M κ (x_many, x_generator, r24.1, r24.2.1, r24.2.2.1, r24.2.2.2.1, r24.2.2.2.2.1, r24.2.2.2.2.2.1, r24.2.2.2.2.2.2.1, r24.2.2.2.2.2.2.2.1, r24.2.2.2.2.2.2.2.2.1, r24.2.2.2.2.2.2.2.2.2.1, r24.2.2.2.2.2.2.2.2.2.2.1, r24.2.2.2.2.2.2.2.2.2.2.2.1, r24.2.2.2.2.2.2.2.2.2.2.2.2.1, r24.2.2.2.2.2.2.2.2.2.2.2.2.2.1, r24.2.2.2.2.2.2.2.2.2.2.2.2.2.2.1, r24.2.2.2.2.2.2.2.2.2.2.2.2.2.2.2.1, r24.2.2.2.2.2.2.2.2.2.2.2.2.2.2.2.2.1, r24.2.2.2.2.2.2.2.2.2.2.2.2.2.2.2.2.2.1, x_wanted, r24.2.2.2.2.2.2.2.2.2.2.2.2.2.2.2.2.2.2.1, r24.2.2.2.2.2.2.2.2.2.2.2.2.2.2.2.2.2.2.2.1, x_minima, x_measured, r24.2.2.2.2.2.2.2.2.2.2.2.2.2.2.2.2.2.2.2.2.1, r24.2.2.2.2.2.2.2.2.2.2.2.2.2.2.2.2.2.2.2.2.2)) G 0 (by decide) lb_M rfl wsM_ok 18 (by decide) wd508 gf_M_18 dM_vector_45 ?_
            refine w_iconst (pc := 48) (v := (4 : Int32)) G dM_vector_48 (by decide) ?_
            refine w_iload_n (pc := 49) (q := 1) G dM_vector_49 rfl rfl ?_
            refine w_imul (pc := 50) G dM_vector_50 ?_
            refine w_iload_n (pc := 51) (q := 2) G dM_vector_51 rfl rfl ?_
            refine w_iadd (pc := 52) G dM_vector_52 ?_
            obtain ⟨i53, h⟩ := gd_some h
            refine w_lald (pc := 53) (n := 164) (f := r24.2.2.2.2.2.2.2.2.2.2.2.2.2.2.2.2.1) G 10 (by decide) lk_first i53 dM_vector_53 ?_
            refine w_l2i (pc := 54) G dM_vector_54 ?_
            obtain rfl := Option.some.inj h
            exact w_iret (pc := 55) G dM_vector_55 Fh
        · have h := if_f c16 h
          refine w_sipush (pc := 19) (v := (1000 : Int32)) G dM_vector_19 (by decide) ?_
          obtain rfl := Option.some.inj h
          exact w_iret (pc := 22) G dM_vector_22 Fh
def rm_M_reaches : Room := { frames := 7, cells := 0, slots := 0, locals := 179 }
theorem dM_reaches_0 : decode cM_reaches 0 = .ok (.aload_n 0, 1) := by decide +kernel
theorem dM_reaches_1 : decode cM_reaches 1 = .ok (.invokevirtual 181, 3) := by decide +kernel
theorem dM_reaches_4 : decode cM_reaches 4 = .ok (.aload_n 0, 1) := by decide +kernel
theorem dM_reaches_5 : decode cM_reaches 5 = .ok (.iload_n 1, 1) := by decide +kernel
theorem dM_reaches_6 : decode cM_reaches 6 = .ok (.putfield 152, 3) := by decide +kernel
theorem dM_reaches_9 : decode cM_reaches 9 = .ok (.aload_n 0, 1) := by decide +kernel
theorem dM_reaches_10 : decode cM_reaches 10 = .ok (.iconst 0, 1) := by decide +kernel
theorem dM_reaches_11 : decode cM_reaches 11 = .ok (.putfield 149, 3) := by decide +kernel
theorem dM_reaches_14 : decode cM_reaches 14 = .ok (.aload_n 0, 1) := by decide +kernel
theorem dM_reaches_15 : decode cM_reaches 15 = .ok (.iconst 2, 1) := by decide +kernel
theorem dM_reaches_16 : decode cM_reaches 16 = .ok (.iload_n 2, 1) := by decide +kernel
theorem dM_reaches_17 : decode cM_reaches 17 = .ok (.i2l, 1) := by decide +kernel
theorem dM_reaches_18 : decode cM_reaches 18 = .ok (.invokevirtual 184, 3) := by decide +kernel
theorem dM_reaches_21 : decode cM_reaches 21 = .ok (.aload_n 0, 1) := by decide +kernel
theorem dM_reaches_22 : decode cM_reaches 22 = .ok (.getfield 149, 3) := by decide +kernel
theorem dM_reaches_25 : decode cM_reaches 25 = .ok (.iload_n 1, 1) := by decide +kernel
theorem dM_reaches_26 : decode cM_reaches 26 = .ok (.if_icmp .lt 7, 3) := by decide +kernel
theorem dM_reaches_29 : decode cM_reaches 29 = .ok (.iconst 1, 1) := by decide +kernel
theorem dM_reaches_30 : decode cM_reaches 30 = .ok (.goto 4, 3) := by decide +kernel
theorem dM_reaches_33 : decode cM_reaches 33 = .ok (.iconst 0, 1) := by decide +kernel
theorem dM_reaches_34 : decode cM_reaches 34 = .ok (.ireturn, 1) := by decide +kernel
theorem cb_M_origin_M_reaches : CB yM_origin cM_origin 2 none rm_M_origin rm_M_reaches 0 := ⟨wd669, wd8, by decide +kernel, rfl, rfl, by decide⟩
theorem cb_M_walk_M_reaches : CB yM_walk cM_walk 5 none rm_M_walk rm_M_reaches 2 := ⟨wd673, wd8, by decide +kernel, rfl, rfl, by decide⟩
noncomputable def M_reaches (F : Nat) (x_rows : Int32) (x_row : Nat → Int64) (x_pivot : Nat → Int32) (x_fresh : Nat → Int64) (x_multiple : Nat → Int64) (x_last : Nat → Int64) (x_made : Nat → Int64) (x_settled : Nat → Int64) (x_point : Nat → Int64) (x_limit : Int64) (x_mode : Int32) (x_counted : Int32) (x_held : Int32) (x_first : Nat → Int64) (x_squares : Nat → Int64) (x_wanted : Int32) (x_spanned : Int32) (x_span : Nat → Int64) (x_found : Nat → Int64) (x_any : Int32) (v1 : Int32) (v2 : Int32) : Option (Int32 × (Nat → Int64) × (Nat → Int64) × (Nat → Int64) × (Nat → Int64) × (Nat → Int64) × (Nat → Int64) × Int64 × Int32 × Int32 × Int32 × (Nat → Int64) × (Nat → Int64) × Int32 × Int32 × (Nat → Int64) × (Nat → Int64) × Int32) := (M_origin F x_point ).bind (fun r1 => (M_walk F x_rows x_row x_pivot x_fresh x_multiple x_last x_made x_settled r1 x_limit x_mode x_counted x_held x_first x_squares v1 (0 : Int32) x_span x_found x_any (2 : Int32) v2.toInt64).bind (fun r18 => if r18.2.2.2.2.2.2.2.2.2.2.2.1 < v1 then some ((0 : Int32), r18.1, r18.2.1, r18.2.2.1, r18.2.2.2.1, r18.2.2.2.2.1, r1, r18.2.2.2.2.2.1, r18.2.2.2.2.2.2.1, r18.2.2.2.2.2.2.2.1, r18.2.2.2.2.2.2.2.2.1, r18.2.2.2.2.2.2.2.2.2.1, r18.2.2.2.2.2.2.2.2.2.2.1, v1, r18.2.2.2.2.2.2.2.2.2.2.2.1, r18.2.2.2.2.2.2.2.2.2.2.2.2.1, r18.2.2.2.2.2.2.2.2.2.2.2.2.2.1, r18.2.2.2.2.2.2.2.2.2.2.2.2.2.2) else some ((1 : Int32), r18.1, r18.2.1, r18.2.2.1, r18.2.2.2.1, r18.2.2.2.2.1, r1, r18.2.2.2.2.2.1, r18.2.2.2.2.2.2.1, r18.2.2.2.2.2.2.2.1, r18.2.2.2.2.2.2.2.2.1, r18.2.2.2.2.2.2.2.2.2.1, r18.2.2.2.2.2.2.2.2.2.2.1, v1, r18.2.2.2.2.2.2.2.2.2.2.2.1, r18.2.2.2.2.2.2.2.2.2.2.2.2.1, r18.2.2.2.2.2.2.2.2.2.2.2.2.2.1, r18.2.2.2.2.2.2.2.2.2.2.2.2.2.2)))
set_option maxHeartbeats 8000000 in
set_option maxRecDepth 100000 in
theorem met_M_reaches (κ : ctx) (X : Nat → va_E) (F : Nat) {x_many : Int32} {x_generator : Nat → Int32} {x_known : Int32} {x_without : Int32} {x_rows : Int32} {x_row : Nat → Int64} {x_pivot : Nat → Int32} {x_fresh : Nat → Int64} {x_multiple : Nat → Int64} {x_last : Nat → Int64} {x_made : Nat → Int64} {x_settled : Nat → Int64} {x_point : Nat → Int64} {x_limit : Int64} {x_mode : Int32} {x_counted : Int32} {x_listed : Int32} {x_held : Int32} {x_first : Nat → Int64} {x_squares : Nat → Int64} {x_wanted : Int32} {x_spanned : Int32} {x_span : Nat → Int64} {x_minima : Nat → Int32} {x_measured : Int32} {x_found : Nat → Int64} {x_any : Int32} (v1 : Int32) (v2 : Int32) {out : Int32 × (Nat → Int64) × (Nat → Int64) × (Nat → Int64) × (Nat → Int64) × (Nat → Int64) × (Nat → Int64) × Int64 × Int32 × Int32 × Int32 × (Nat → Int64) × (Nat → Int64) × Int32 × Int32 × (Nat → Int64) × (Nat → Int64) × Int32} (h : M_reaches F x_rows x_row x_pivot x_fresh x_multiple x_last x_made x_settled x_point x_limit x_mode x_counted x_held x_first x_squares x_wanted x_spanned x_span x_found x_any v1 v2 = some out) : Mt yM_reaches cM_reaches 3 (some .boolean) rm_M_reaches κ [.ref (κ.1 0), .int v1, .int v2] (LM κ (x_many, x_generator, x_known, x_without, x_rows, x_row, x_pivot, x_fresh, x_multiple, x_last, x_made, x_settled, x_point, x_limit, x_mode, x_counted, x_listed, x_held, x_first, x_squares, x_wanted, x_spanned, x_span, x_minima, x_measured, x_found, x_any) X) (some (.int out.1)) (LM κ (x_many, x_generator, x_known, x_without, x_rows, x_row, x_pivot, out.2.1, out.2.2.1, out.2.2.2.1, out.2.2.2.2.1, out.2.2.2.2.2.1, out.2.2.2.2.2.2.1, out.2.2.2.2.2.2.2.1, out.2.2.2.2.2.2.2.2.1, out.2.2.2.2.2.2.2.2.2.1, x_listed, out.2.2.2.2.2.2.2.2.2.2.1, out.2.2.2.2.2.2.2.2.2.2.2.1, out.2.2.2.2.2.2.2.2.2.2.2.2.1, out.2.2.2.2.2.2.2.2.2.2.2.2.2.1, out.2.2.2.2.2.2.2.2.2.2.2.2.2.2.1, out.2.2.2.2.2.2.2.2.2.2.2.2.2.2.2.1, x_minima, x_measured, out.2.2.2.2.2.2.2.2.2.2.2.2.2.2.2.2.1, out.2.2.2.2.2.2.2.2.2.2.2.2.2.2.2.2.2) X) := by
  refine Mt.of (by decide) (Nat.le_of_ble_eq_true rfl) ?_
  intro g G Fh
  unfold M_reaches at h
  show J g κ 3 0 [(0, .ref (κ.1 0)), (1, .int v1), (2, .int v2)] [] (LM κ (x_many, x_generator, x_known, x_without, x_rows, x_row, x_pivot, x_fresh, x_multiple, x_last, x_made, x_settled, x_point, x_limit, x_mode, x_counted, x_listed, x_held, x_first, x_squares, x_wanted, x_spanned, x_span, x_minima, x_measured, x_found, x_any) X)
  refine w_aload_n (pc := 0) (q := 0) G dM_reaches_0 rfl rfl ?_
  obtain ⟨r1, e1, h⟩ := bd h
  refine w_callV (pc := 1) (av := []) (rest := []) (v := none) (L' := (LM κ (x_many, x_generator, x_known, x_without, x_rows, x_row, x_pivot, x_fresh, x_multiple, x_last, x_made, x_settled, r1, x_limit, x_mode, x_counted, x_listed, x_held, x_first, x_squares, x_wanted, x_spanned, x_span, x_minima, x_measured, x_found, x_any) X)) (T := TM) (fs := fl_M κ (x_many, x_generator, x_known, x_without, x_rows, x_row, x_pivot, x_fresh, x_multiple, x_last, x_made, x_settled, x_point, x_limit, x_mode, x_counted, x_listed, x_held, x_first, x_squares, x_wanted, x_spanned, x_span, x_minima, x_measured, x_found, x_any)) G 0 0 27 (by decide) lb_M rfl cb_M_origin_M_reaches wd668 ws31 wd666 (met_M_origin κ X F   e1) rfl rfl rfl (Nat.le_of_ble_eq_true rfl) dM_reaches_1 ?_
  refine w_aload_n (pc := 4) (q := 0) G dM_reaches_4 rfl rfl ?_
  refine w_iload_n (pc := 5) (q := 1) G dM_reaches_5 rfl rfl ?_
  refine w_put (pc := 6) (fs := fl_M κ (x_many, x_generator, x_known, x_without, x_rows, x_row, x_pivot, x_fresh, x_multiple, x_last, x_made, x_settled, r1, x_limit, x_mode, x_counted, x_listed, x_held, x_first, x_squares, x_wanted, x_spanned, x_span, x_minima, x_measured, x_found, x_any)) (L1 := (LM κ (x_many, x_generator, x_known, x_without, x_rows, x_row, x_pivot, x_fresh, x_multiple, x_last, x_made, x_settled, r1, x_limit, x_mode, x_counted, x_listed, x_held, x_first, x_squares, v1, x_spanned, x_span, x_minima, x_measured, x_found, x_any) X)) G 0 (by decide) lb_M rfl wsM_ok tyM tyM_ok nmM 20 (by decide) wd510 rfl rfl rfl (Nat.le_of_ble_eq_true rfl) dM_reaches_6 upf_wanted ?_
  refine w_aload_n (pc := 9) (q := 0) G dM_reaches_9 rfl rfl ?_
  refine w_iconst (pc := 10) (v := (0 : Int32)) G dM_reaches_10 (by decide) ?_
  refine w_put (pc := 11) (fs := fl_M κ (x_many, x_generator, x_known, x_without, x_rows, x_row, x_pivot, x_fresh, x_multiple, x_last, x_made, x_settled, r1, x_limit, x_mode, x_counted, x_listed, x_held, x_first, x_squares, v1, x_spanned, x_span, x_minima, x_measured, x_found, x_any)) (L1 := (LM κ (x_many, x_generator, x_known, x_without, x_rows, x_row, x_pivot, x_fresh, x_multiple, x_last, x_made, x_settled, r1, x_limit, x_mode, x_counted, x_listed, x_held, x_first, x_squares, v1, (0 : Int32), x_span, x_minima, x_measured, x_found, x_any) X)) G 0 (by decide) lb_M rfl wsM_ok tyM tyM_ok nmM 21 (by decide) wd511 rfl rfl rfl (Nat.le_of_ble_eq_true rfl) dM_reaches_11 upf_spanned ?_
  refine w_aload_n (pc := 14) (q := 0) G dM_reaches_14 rfl rfl ?_
  refine w_iconst (pc := 15) (v := (2 : Int32)) G dM_reaches_15 (by decide) ?_
  refine w_iload_n (pc := 16) (q := 2) G dM_reaches_16 rfl rfl ?_
  refine w_i2l (pc := 17) G dM_reaches_17 ?_
  obtain ⟨r18, e18, h⟩ := bd h
  refine w_callV (pc := 18) (av := [.int (2 : Int32), .long v2.toInt64]) (rest := []) (v := none) (L' := (LM κ (x_many, x_generator, x_known, x_without, x_rows, x_row, x_pivot, r18.1, r18.2.1, r18.2.2.1, r18.2.2.2.1, r18.2.2.2.2.1, r1, r18.2.2.2.2.2.1, r18.2.2.2.2.2.2.1, r18.2.2.2.2.2.2.2.1, x_listed, r18.2.2.2.2.2.2.2.2.1, r18.2.2.2.2.2.2.2.2.2.1, r18.2.2.2.2.2.2.2.2.2.2.1, v1, r18.2.2.2.2.2.2.2.2.2.2.2.1, r18.2.2.2.2.2.2.2.2.2.2.2.2.1, x_minima, x_measured, r18.2.2.2.2.2.2.2.2.2.2.2.2.2.1, r18.2.2.2.2.2.2.2.2.2.2.2.2.2.2) X)) (T := TM) (fs := fl_M κ (x_many, x_generator, x_known, x_without, x_rows, x_row, x_pivot, x_fresh, x_multiple, x_last, x_made, x_settled, r1, x_limit, x_mode, x_counted, x_listed, x_held, x_first, x_squares, v1, (0 : Int32), x_span, x_minima, x_measured, x_found, x_any)) G 0 0 27 (by decide) lb_M rfl cb_M_walk_M_reaches wd672 ws32 wd670 (met_M_walk κ X F (2 : Int32) v2.toInt64  e18) rfl rfl rfl (Nat.le_of_ble_eq_true rfl) dM_reaches_18 ?_
  refine w_aload_n (pc := 21) (q := 0) G dM_reaches_21 rfl rfl ?_
  refine w_get (pc := 22) (v := .int r18.2.2.2.2.2.2.2.2.2.2.2.1) (fs := fl_M κ (x_many, x_generator, x_known, x_without, x_rows, x_row, x_pivot, r18.1, r18.2.1, r18.2.2.1, r18.2.2.2.1, r18.2.2.2.2.1, r1, r18.2.2.2.2.2.1, r18.2.2.2.2.2.2.1, r18.2.2.2.2.2.2.2.1, x_listed, r18.2.2.2.2.2.2.2.2.1, r18.2.2.2.2.2.2.2.2.2.1, r18.2.2.2.2.2.2.2.2.2.2.1, v1, r18.2.2.2.2.2.2.2.2.2.2.2.1, r18.2.2.2.2.2.2.2.2.2.2.2.2.1, x_minima, x_measured, r18.2.2.2.2.2.2.2.2.2.2.2.2.2.1, r18.2.2.2.2.2.2.2.2.2.2.2.2.2.2)) G 0 (by decide) lb_M rfl wsM_ok 21 (by decide) wd511 gf_M_21 dM_reaches_22 ?_
  refine w_iload_n (pc := 25) (q := 1) G dM_reaches_25 rfl rfl ?_
  refine w_icmp_lt (pc := 26) (tgt := 33) G dM_reaches_26 (by decide) (fun c26 => ?_) (fun c26 => ?_)
  · have h := if_t c26 h
    refine w_iconst (pc := 33) (v := (0 : Int32)) G dM_reaches_33 (by decide) ?_
    obtain rfl := Option.some.inj h
    exact w_zret (pc := 34) G rfl dM_reaches_34 Fh
  · have h := if_f c26 h
    refine w_iconst (pc := 29) (v := (1 : Int32)) G dM_reaches_29 (by decide) ?_
    refine w_goto (pc := 30) (tgt := 34) G dM_reaches_30 (by decide) ?_
    obtain rfl := Option.some.inj h
    exact w_zret (pc := 34) G rfl dM_reaches_34 Fh
def rm_M_measure : Room := { frames := 8, cells := 0, slots := 0, locals := 201 }
theorem dM_measure_0 : decode cM_measure 0 = .ok (.aload_n 0, 1) := by decide +kernel
theorem dM_measure_1 : decode cM_measure 1 = .ok (.iconst (-1), 1) := by decide +kernel
theorem dM_measure_2 : decode cM_measure 2 = .ok (.invokevirtual 107, 3) := by decide +kernel
theorem dM_measure_5 : decode cM_measure 5 = .ok (.aload_n 0, 1) := by decide +kernel
theorem dM_measure_6 : decode cM_measure 6 = .ok (.getfield 60, 3) := by decide +kernel
theorem dM_measure_9 : decode cM_measure 9 = .ok (.ifCond .eq 4, 3) := by decide +kernel
theorem dM_measure_12 : decode cM_measure 12 = .ok (.return_, 1) := by decide +kernel
theorem dM_measure_13 : decode cM_measure 13 = .ok (.aload_n 0, 1) := by decide +kernel
theorem dM_measure_14 : decode cM_measure 14 = .ok (.iconst 1, 1) := by decide +kernel
theorem dM_measure_15 : decode cM_measure 15 = .ok (.putfield 60, 3) := by decide +kernel
theorem dM_measure_18 : decode cM_measure 18 = .ok (.iconst 1, 1) := by decide +kernel
theorem dM_measure_19 : decode cM_measure 19 = .ok (.istore_n 1, 1) := by decide +kernel
theorem dM_measure_20 : decode cM_measure 20 = .ok (.iload_n 1, 1) := by decide +kernel
theorem dM_measure_21 : decode cM_measure 21 = .ok (.aload_n 0, 1) := by decide +kernel
theorem dM_measure_22 : decode cM_measure 22 = .ok (.getfield 74, 3) := by decide +kernel
theorem dM_measure_25 : decode cM_measure 25 = .ok (.if_icmp .gt 108, 3) := by decide +kernel
theorem dM_measure_28 : decode cM_measure 28 = .ok (.iload_n 1, 1) := by decide +kernel
theorem dM_measure_29 : decode cM_measure 29 = .ok (.iconst 1, 1) := by decide +kernel
theorem dM_measure_30 : decode cM_measure 30 = .ok (.if_icmp .ne 7, 3) := by decide +kernel
theorem dM_measure_33 : decode cM_measure 33 = .ok (.iconst 0, 1) := by decide +kernel
theorem dM_measure_34 : decode cM_measure 34 = .ok (.goto 13, 3) := by decide +kernel
theorem dM_measure_37 : decode cM_measure 37 = .ok (.aload_n 0, 1) := by decide +kernel
theorem dM_measure_38 : decode cM_measure 38 = .ok (.getfield 47, 3) := by decide +kernel
theorem dM_measure_41 : decode cM_measure 41 = .ok (.iload_n 1, 1) := by decide +kernel
theorem dM_measure_42 : decode cM_measure 42 = .ok (.iconst 1, 1) := by decide +kernel
theorem dM_measure_43 : decode cM_measure 43 = .ok (.isub, 1) := by decide +kernel
theorem dM_measure_44 : decode cM_measure 44 = .ok (.iaload, 1) := by decide +kernel
theorem dM_measure_45 : decode cM_measure 45 = .ok (.iconst 1, 1) := by decide +kernel
theorem dM_measure_46 : decode cM_measure 46 = .ok (.isub, 1) := by decide +kernel
theorem dM_measure_47 : decode cM_measure 47 = .ok (.istore_n 2, 1) := by decide +kernel
theorem dM_measure_48 : decode cM_measure 48 = .ok (.iload_n 2, 1) := by decide +kernel
theorem dM_measure_49 : decode cM_measure 49 = .ok (.iconst 1, 1) := by decide +kernel
theorem dM_measure_50 : decode cM_measure 50 = .ok (.iadd, 1) := by decide +kernel
theorem dM_measure_51 : decode cM_measure 51 = .ok (.istore_n 3, 1) := by decide +kernel
theorem dM_measure_52 : decode cM_measure 52 = .ok (.aload_n 0, 1) := by decide +kernel
theorem dM_measure_53 : decode cM_measure 53 = .ok (.iload_n 1, 1) := by decide +kernel
theorem dM_measure_54 : decode cM_measure 54 = .ok (.iload_n 3, 1) := by decide +kernel
theorem dM_measure_55 : decode cM_measure 55 = .ok (.invokevirtual 203, 3) := by decide +kernel
theorem dM_measure_58 : decode cM_measure 58 = .ok (.ifCond .ne 12, 3) := by decide +kernel
theorem dM_measure_61 : decode cM_measure 61 = .ok (.iload_n 3, 1) := by decide +kernel
theorem dM_measure_62 : decode cM_measure 62 = .ok (.istore_n 2, 1) := by decide +kernel
theorem dM_measure_63 : decode cM_measure 63 = .ok (.iconst 2, 1) := by decide +kernel
theorem dM_measure_64 : decode cM_measure 64 = .ok (.iload_n 3, 1) := by decide +kernel
theorem dM_measure_65 : decode cM_measure 65 = .ok (.imul, 1) := by decide +kernel
theorem dM_measure_66 : decode cM_measure 66 = .ok (.istore_n 3, 1) := by decide +kernel
theorem dM_measure_67 : decode cM_measure 67 = .ok (.goto (-15), 3) := by decide +kernel
theorem dM_measure_70 : decode cM_measure 70 = .ok (.iload_n 3, 1) := by decide +kernel
theorem dM_measure_71 : decode cM_measure 71 = .ok (.iload_n 2, 1) := by decide +kernel
theorem dM_measure_72 : decode cM_measure 72 = .ok (.isub, 1) := by decide +kernel
theorem dM_measure_73 : decode cM_measure 73 = .ok (.iconst 1, 1) := by decide +kernel
theorem dM_measure_74 : decode cM_measure 74 = .ok (.if_icmp .le 46, 3) := by decide +kernel
theorem dM_measure_77 : decode cM_measure 77 = .ok (.iload_n 2, 1) := by decide +kernel
theorem dM_measure_78 : decode cM_measure 78 = .ok (.iload_n 3, 1) := by decide +kernel
theorem dM_measure_79 : decode cM_measure 79 = .ok (.iadd, 1) := by decide +kernel
theorem dM_measure_80 : decode cM_measure 80 = .ok (.iconst 2, 1) := by decide +kernel
theorem dM_measure_81 : decode cM_measure 81 = .ok (.idiv, 1) := by decide +kernel
theorem dM_measure_82 : decode cM_measure 82 = .ok (.istore 4, 2) := by decide +kernel
theorem dM_measure_84 : decode cM_measure 84 = .ok (.aload_n 0, 1) := by decide +kernel
theorem dM_measure_85 : decode cM_measure 85 = .ok (.iload_n 1, 1) := by decide +kernel
theorem dM_measure_86 : decode cM_measure 86 = .ok (.iload 4, 2) := by decide +kernel
theorem dM_measure_88 : decode cM_measure 88 = .ok (.invokevirtual 203, 3) := by decide +kernel
theorem dM_measure_91 : decode cM_measure 91 = .ok (.istore 5, 2) := by decide +kernel
theorem dM_measure_93 : decode cM_measure 93 = .ok (.iload 5, 2) := by decide +kernel
theorem dM_measure_95 : decode cM_measure 95 = .ok (.ifCond .eq 8, 3) := by decide +kernel
theorem dM_measure_98 : decode cM_measure 98 = .ok (.iload 4, 2) := by decide +kernel
theorem dM_measure_100 : decode cM_measure 100 = .ok (.goto 4, 3) := by decide +kernel
theorem dM_measure_103 : decode cM_measure 103 = .ok (.iload_n 3, 1) := by decide +kernel
theorem dM_measure_104 : decode cM_measure 104 = .ok (.istore_n 3, 1) := by decide +kernel
theorem dM_measure_105 : decode cM_measure 105 = .ok (.iload 5, 2) := by decide +kernel
theorem dM_measure_107 : decode cM_measure 107 = .ok (.ifCond .eq 7, 3) := by decide +kernel
theorem dM_measure_110 : decode cM_measure 110 = .ok (.iload_n 2, 1) := by decide +kernel
theorem dM_measure_111 : decode cM_measure 111 = .ok (.goto 5, 3) := by decide +kernel
theorem dM_measure_114 : decode cM_measure 114 = .ok (.iload 4, 2) := by decide +kernel
theorem dM_measure_116 : decode cM_measure 116 = .ok (.istore_n 2, 1) := by decide +kernel
theorem dM_measure_117 : decode cM_measure 117 = .ok (.goto (-47), 3) := by decide +kernel
theorem dM_measure_120 : decode cM_measure 120 = .ok (.aload_n 0, 1) := by decide +kernel
theorem dM_measure_121 : decode cM_measure 121 = .ok (.getfield 47, 3) := by decide +kernel
theorem dM_measure_124 : decode cM_measure 124 = .ok (.iload_n 1, 1) := by decide +kernel
theorem dM_measure_125 : decode cM_measure 125 = .ok (.iload_n 3, 1) := by decide +kernel
theorem dM_measure_126 : decode cM_measure 126 = .ok (.iastore, 1) := by decide +kernel
theorem dM_measure_127 : decode cM_measure 127 = .ok (.iinc 1 1, 3) := by decide +kernel
theorem dM_measure_130 : decode cM_measure 130 = .ok (.goto (-110), 3) := by decide +kernel
theorem dM_measure_133 : decode cM_measure 133 = .ok (.return_, 1) := by decide +kernel
theorem cb_M_look_M_measure : CB yM_look cM_look 4 none rm_M_look rm_M_measure 1 := ⟨wd598, wd8, by decide +kernel, rfl, rfl, by decide⟩
theorem cb_M_reaches_M_measure : CB yM_reaches cM_reaches 3 (some .boolean) rm_M_reaches rm_M_measure 2 := ⟨wd746, wd8, by decide +kernel, rfl, rfl, by decide⟩
noncomputable def lM_measure_52 (F : Nat) (x_rows : Int32) (x_row : Nat → Int64) (x_pivot : Nat → Int32) (v1 : Int32) : Nat → Int32 → Int32 → (Nat → Int64) → (Nat → Int64) → (Nat → Int64) → (Nat → Int64) → (Nat → Int64) → (Nat → Int64) → Int64 → Int32 → Int32 → Int32 → (Nat → Int64) → (Nat → Int64) → Int32 → Int32 → (Nat → Int64) → (Nat → Int64) → Int32 → Option (Int32 × Int32 × (Nat → Int64) × (Nat → Int64) × (Nat → Int64) × (Nat → Int64) × (Nat → Int64) × (Nat → Int64) × Int64 × Int32 × Int32 × Int32 × (Nat → Int64) × (Nat → Int64) × Int32 × Int32 × (Nat → Int64) × (Nat → Int64) × Int32)
  | 0, _, _, _, _, _, _, _, _, _, _, _, _, _, _, _, _, _, _, _ => none
  | n + 1, v2, v3, x_fresh, x_multiple, x_last, x_made, x_settled, x_point, x_limit, x_mode, x_counted, x_held, x_first, x_squares, x_wanted, x_spanned, x_span, x_found, x_any => (M_reaches F x_rows x_row x_pivot x_fresh x_multiple x_last x_made x_settled x_point x_limit x_mode x_counted x_held x_first x_squares x_wanted x_spanned x_span x_found x_any v1 v3).bind (fun r55 => if r55.1 = 0 then lM_measure_52 F x_rows x_row x_pivot v1 n v3 ((2 : Int32) * v3) r55.2.1 r55.2.2.1 r55.2.2.2.1 r55.2.2.2.2.1 r55.2.2.2.2.2.1 r55.2.2.2.2.2.2.1 r55.2.2.2.2.2.2.2.1 r55.2.2.2.2.2.2.2.2.1 r55.2.2.2.2.2.2.2.2.2.1 r55.2.2.2.2.2.2.2.2.2.2.1 r55.2.2.2.2.2.2.2.2.2.2.2.1 r55.2.2.2.2.2.2.2.2.2.2.2.2.1 r55.2.2.2.2.2.2.2.2.2.2.2.2.2.1 r55.2.2.2.2.2.2.2.2.2.2.2.2.2.2.1 r55.2.2.2.2.2.2.2.2.2.2.2.2.2.2.2.1 r55.2.2.2.2.2.2.2.2.2.2.2.2.2.2.2.2.1 r55.2.2.2.2.2.2.2.2.2.2.2.2.2.2.2.2.2 else some (v2, v3, r55.2.1, r55.2.2.1, r55.2.2.2.1, r55.2.2.2.2.1, r55.2.2.2.2.2.1, r55.2.2.2.2.2.2.1, r55.2.2.2.2.2.2.2.1, r55.2.2.2.2.2.2.2.2.1, r55.2.2.2.2.2.2.2.2.2.1, r55.2.2.2.2.2.2.2.2.2.2.1, r55.2.2.2.2.2.2.2.2.2.2.2.1, r55.2.2.2.2.2.2.2.2.2.2.2.2.1, r55.2.2.2.2.2.2.2.2.2.2.2.2.2.1, r55.2.2.2.2.2.2.2.2.2.2.2.2.2.2.1, r55.2.2.2.2.2.2.2.2.2.2.2.2.2.2.2.1, r55.2.2.2.2.2.2.2.2.2.2.2.2.2.2.2.2.1, r55.2.2.2.2.2.2.2.2.2.2.2.2.2.2.2.2.2))
set_option maxHeartbeats 8000000 in
set_option maxRecDepth 100000 in
theorem lM_measure_52_ok {g : Gm} {κ : ctx} (G : OK g κ RM cM_measure 6 none rm_M_measure) (X : Nat → va_E) (F : Nat) {x_many : Int32} {x_generator : Nat → Int32} {x_known : Int32} {x_without : Int32} {x_rows : Int32} {x_row : Nat → Int64} {x_pivot : Nat → Int32} {x_listed : Int32} {x_minima : Nat → Int32} {x_measured : Int32} (v1 : Int32) : ∀ (n : Nat) (v2 : Int32) (v3 : Int32) (x_fresh : Nat → Int64) (x_multiple : Nat → Int64) (x_last : Nat → Int64) (x_made : Nat → Int64) (x_settled : Nat → Int64) (x_point : Nat → Int64) (x_limit : Int64) (x_mode : Int32) (x_counted : Int32) (x_held : Int32) (x_first : Nat → Int64) (x_squares : Nat → Int64) (x_wanted : Int32) (x_spanned : Int32) (x_span : Nat → Int64) (x_found : Nat → Int64) (x_any : Int32) (out : Int32 × Int32 × (Nat → Int64) × (Nat → Int64) × (Nat → Int64) × (Nat → Int64) × (Nat → Int64) × (Nat → Int64) × Int64 × Int32 × Int32 × Int32 × (Nat → Int64) × (Nat → Int64) × Int32 × Int32 × (Nat → Int64) × (Nat → Int64) × Int32), lM_measure_52 F x_rows x_row x_pivot v1 n v2 v3 x_fresh x_multiple x_last x_made x_settled x_point x_limit x_mode x_counted x_held x_first x_squares x_wanted x_spanned x_span x_found x_any = some out → (J g κ 6 70 [(0, .ref (κ.1 0)), (1, .int v1), (2, .int out.1), (3, .int out.2.1)] [] (LM κ (x_many, x_generator, x_known, x_without, x_rows, x_row, x_pivot, out.2.2.1, out.2.2.2.1, out.2.2.2.2.1, out.2.2.2.2.2.1, out.2.2.2.2.2.2.1, out.2.2.2.2.2.2.2.1, out.2.2.2.2.2.2.2.2.1, out.2.2.2.2.2.2.2.2.2.1, out.2.2.2.2.2.2.2.2.2.2.1, x_listed, out.2.2.2.2.2.2.2.2.2.2.2.1, out.2.2.2.2.2.2.2.2.2.2.2.2.1, out.2.2.2.2.2.2.2.2.2.2.2.2.2.1, out.2.2.2.2.2.2.2.2.2.2.2.2.2.2.1, out.2.2.2.2.2.2.2.2.2.2.2.2.2.2.2.1, out.2.2.2.2.2.2.2.2.2.2.2.2.2.2.2.2.1, x_minima, x_measured, out.2.2.2.2.2.2.2.2.2.2.2.2.2.2.2.2.2.1, out.2.2.2.2.2.2.2.2.2.2.2.2.2.2.2.2.2.2) X)) → J g κ 6 52 [(0, .ref (κ.1 0)), (1, .int v1), (2, .int v2), (3, .int v3)] [] (LM κ (x_many, x_generator, x_known, x_without, x_rows, x_row, x_pivot, x_fresh, x_multiple, x_last, x_made, x_settled, x_point, x_limit, x_mode, x_counted, x_listed, x_held, x_first, x_squares, x_wanted, x_spanned, x_span, x_minima, x_measured, x_found, x_any) X) := by
  intro n
  induction n with
  | zero =>
    intro v2 v3 x_fresh x_multiple x_last x_made x_settled x_point x_limit x_mode x_counted x_held x_first x_squares x_wanted x_spanned x_span x_found x_any
    intro out h
    rw [lM_measure_52] at h
    cases h
  | succ n ih =>
    intro v2 v3 x_fresh x_multiple x_last x_made x_settled x_point x_limit x_mode x_counted x_held x_first x_squares x_wanted x_spanned x_span x_found x_any out h K
    rw [lM_measure_52] at h
    refine w_aload_n (pc := 52) (q := 0) G dM_measure_52 rfl rfl ?_
    refine w_iload_n (pc := 53) (q := 1) G dM_measure_53 rfl rfl ?_
    refine w_iload_n (pc := 54) (q := 3) G dM_measure_54 rfl rfl ?_
    obtain ⟨r55, e55, h⟩ := bd h
    refine w_callV (pc := 55) (av := [.int v1, .int v3]) (rest := []) (v := some (.int r55.1)) (L' := (LM κ (x_many, x_generator, x_known, x_without, x_rows, x_row, x_pivot, r55.2.1, r55.2.2.1, r55.2.2.2.1, r55.2.2.2.2.1, r55.2.2.2.2.2.1, r55.2.2.2.2.2.2.1, r55.2.2.2.2.2.2.2.1, r55.2.2.2.2.2.2.2.2.1, r55.2.2.2.2.2.2.2.2.2.1, x_listed, r55.2.2.2.2.2.2.2.2.2.2.1, r55.2.2.2.2.2.2.2.2.2.2.2.1, r55.2.2.2.2.2.2.2.2.2.2.2.2.1, r55.2.2.2.2.2.2.2.2.2.2.2.2.2.1, r55.2.2.2.2.2.2.2.2.2.2.2.2.2.2.1, r55.2.2.2.2.2.2.2.2.2.2.2.2.2.2.2.1, x_minima, x_measured, r55.2.2.2.2.2.2.2.2.2.2.2.2.2.2.2.2.1, r55.2.2.2.2.2.2.2.2.2.2.2.2.2.2.2.2.2) X)) (T := TM) (fs := fl_M κ (x_many, x_generator, x_known, x_without, x_rows, x_row, x_pivot, x_fresh, x_multiple, x_last, x_made, x_settled, x_point, x_limit, x_mode, x_counted, x_listed, x_held, x_first, x_squares, x_wanted, x_spanned, x_span, x_minima, x_measured, x_found, x_any)) G 0 0 27 (by decide) lb_M rfl cb_M_reaches_M_measure wd745 ws47 wd743 (met_M_reaches κ X F v1 v3  e55) rfl rfl rfl (Nat.le_of_ble_eq_true rfl) dM_measure_55 ?_
    refine w_if_ne (pc := 58) (tgt := 70) G dM_measure_58 (by decide) (fun c58 => ?_) (fun c58 => ?_)
    · have h := if_t c58 h
      refine w_iload_n (pc := 61) (q := 3) G dM_measure_61 rfl rfl ?_
      refine w_istore_n (pc := 62) (lv' := [(2, .int v3), (0, .ref (κ.1 0)), (1, .int v1), (3, .int v3)]) G dM_measure_62 rfl (by decide) rfl ?_
      refine w_iconst (pc := 63) (v := (2 : Int32)) G dM_measure_63 (by decide) ?_
      refine w_iload_n (pc := 64) (q := 3) G dM_measure_64 rfl rfl ?_
      refine w_imul (pc := 65) G dM_measure_65 ?_
      refine w_istore_n (pc := 66) (lv' := [(3, .int ((2 : Int32) * v3)), (2, .int v3), (0, .ref (κ.1 0)), (1, .int v1)]) G dM_measure_66 rfl (by decide) rfl ?_
      refine w_goto (pc := 67) (tgt := 52) G dM_measure_67 (by decide) ?_
      refine w_sub (lv' := [(0, .ref (κ.1 0)), (1, .int v1), (2, .int v3), (3, .int ((2 : Int32) * v3))]) [2, 3, 1, 0] rfl ?_
      exact ih v3 ((2 : Int32) * v3) r55.2.1 r55.2.2.1 r55.2.2.2.1 r55.2.2.2.2.1 r55.2.2.2.2.2.1 r55.2.2.2.2.2.2.1 r55.2.2.2.2.2.2.2.1 r55.2.2.2.2.2.2.2.2.1 r55.2.2.2.2.2.2.2.2.2.1 r55.2.2.2.2.2.2.2.2.2.2.1 r55.2.2.2.2.2.2.2.2.2.2.2.1 r55.2.2.2.2.2.2.2.2.2.2.2.2.1 r55.2.2.2.2.2.2.2.2.2.2.2.2.2.1 r55.2.2.2.2.2.2.2.2.2.2.2.2.2.2.1 r55.2.2.2.2.2.2.2.2.2.2.2.2.2.2.2.1 r55.2.2.2.2.2.2.2.2.2.2.2.2.2.2.2.2.1 r55.2.2.2.2.2.2.2.2.2.2.2.2.2.2.2.2.2 out h K
    · have h := if_f c58 h
      obtain rfl := Option.some.inj h
      refine w_sub (lv' := [(0, .ref (κ.1 0)), (1, .int v1), (2, .int v2), (3, .int v3)]) [0, 1, 2, 3] rfl ?_
      exact K
noncomputable def lM_measure_70 (F : Nat) (x_rows : Int32) (x_row : Nat → Int64) (x_pivot : Nat → Int32) (v1 : Int32) : Nat → Int32 → Int32 → (Nat → Int64) → (Nat → Int64) → (Nat → Int64) → (Nat → Int64) → (Nat → Int64) → (Nat → Int64) → Int64 → Int32 → Int32 → Int32 → (Nat → Int64) → (Nat → Int64) → Int32 → Int32 → (Nat → Int64) → (Nat → Int64) → Int32 → Option (Int32 × (Nat → Int64) × (Nat → Int64) × (Nat → Int64) × (Nat → Int64) × (Nat → Int64) × (Nat → Int64) × Int64 × Int32 × Int32 × Int32 × (Nat → Int64) × (Nat → Int64) × Int32 × Int32 × (Nat → Int64) × (Nat → Int64) × Int32)
  | 0, _, _, _, _, _, _, _, _, _, _, _, _, _, _, _, _, _, _, _ => none
  | n + 1, v2, v3, x_fresh, x_multiple, x_last, x_made, x_settled, x_point, x_limit, x_mode, x_counted, x_held, x_first, x_squares, x_wanted, x_spanned, x_span, x_found, x_any => if (v3 - v2) ≤ (1 : Int32) then some (v3, x_fresh, x_multiple, x_last, x_made, x_settled, x_point, x_limit, x_mode, x_counted, x_held, x_first, x_squares, x_wanted, x_spanned, x_span, x_found, x_any) else (M_reaches F x_rows x_row x_pivot x_fresh x_multiple x_last x_made x_settled x_point x_limit x_mode x_counted x_held x_first x_squares x_wanted x_spanned x_span x_found x_any v1 ((v2 + v3) / (2 : Int32))).bind (fun r88 => if r88.1 = 0 then if r88.1 = 0 then lM_measure_70 F x_rows x_row x_pivot v1 n ((v2 + v3) / (2 : Int32)) v3 r88.2.1 r88.2.2.1 r88.2.2.2.1 r88.2.2.2.2.1 r88.2.2.2.2.2.1 r88.2.2.2.2.2.2.1 r88.2.2.2.2.2.2.2.1 r88.2.2.2.2.2.2.2.2.1 r88.2.2.2.2.2.2.2.2.2.1 r88.2.2.2.2.2.2.2.2.2.2.1 r88.2.2.2.2.2.2.2.2.2.2.2.1 r88.2.2.2.2.2.2.2.2.2.2.2.2.1 r88.2.2.2.2.2.2.2.2.2.2.2.2.2.1 r88.2.2.2.2.2.2.2.2.2.2.2.2.2.2.1 r88.2.2.2.2.2.2.2.2.2.2.2.2.2.2.2.1 r88.2.2.2.2.2.2.2.2.2.2.2.2.2.2.2.2.1 r88.2.2.2.2.2.2.2.2.2.2.2.2.2.2.2.2.2 else lM_measure_70 F x_rows x_row x_pivot v1 n v2 v3 r88.2.1 r88.2.2.1 r88.2.2.2.1 r88.2.2.2.2.1 r88.2.2.2.2.2.1 r88.2.2.2.2.2.2.1 r88.2.2.2.2.2.2.2.1 r88.2.2.2.2.2.2.2.2.1 r88.2.2.2.2.2.2.2.2.2.1 r88.2.2.2.2.2.2.2.2.2.2.1 r88.2.2.2.2.2.2.2.2.2.2.2.1 r88.2.2.2.2.2.2.2.2.2.2.2.2.1 r88.2.2.2.2.2.2.2.2.2.2.2.2.2.1 r88.2.2.2.2.2.2.2.2.2.2.2.2.2.2.1 r88.2.2.2.2.2.2.2.2.2.2.2.2.2.2.2.1 r88.2.2.2.2.2.2.2.2.2.2.2.2.2.2.2.2.1 r88.2.2.2.2.2.2.2.2.2.2.2.2.2.2.2.2.2 else if r88.1 = 0 then lM_measure_70 F x_rows x_row x_pivot v1 n ((v2 + v3) / (2 : Int32)) ((v2 + v3) / (2 : Int32)) r88.2.1 r88.2.2.1 r88.2.2.2.1 r88.2.2.2.2.1 r88.2.2.2.2.2.1 r88.2.2.2.2.2.2.1 r88.2.2.2.2.2.2.2.1 r88.2.2.2.2.2.2.2.2.1 r88.2.2.2.2.2.2.2.2.2.1 r88.2.2.2.2.2.2.2.2.2.2.1 r88.2.2.2.2.2.2.2.2.2.2.2.1 r88.2.2.2.2.2.2.2.2.2.2.2.2.1 r88.2.2.2.2.2.2.2.2.2.2.2.2.2.1 r88.2.2.2.2.2.2.2.2.2.2.2.2.2.2.1 r88.2.2.2.2.2.2.2.2.2.2.2.2.2.2.2.1 r88.2.2.2.2.2.2.2.2.2.2.2.2.2.2.2.2.1 r88.2.2.2.2.2.2.2.2.2.2.2.2.2.2.2.2.2 else lM_measure_70 F x_rows x_row x_pivot v1 n v2 ((v2 + v3) / (2 : Int32)) r88.2.1 r88.2.2.1 r88.2.2.2.1 r88.2.2.2.2.1 r88.2.2.2.2.2.1 r88.2.2.2.2.2.2.1 r88.2.2.2.2.2.2.2.1 r88.2.2.2.2.2.2.2.2.1 r88.2.2.2.2.2.2.2.2.2.1 r88.2.2.2.2.2.2.2.2.2.2.1 r88.2.2.2.2.2.2.2.2.2.2.2.1 r88.2.2.2.2.2.2.2.2.2.2.2.2.1 r88.2.2.2.2.2.2.2.2.2.2.2.2.2.1 r88.2.2.2.2.2.2.2.2.2.2.2.2.2.2.1 r88.2.2.2.2.2.2.2.2.2.2.2.2.2.2.2.1 r88.2.2.2.2.2.2.2.2.2.2.2.2.2.2.2.2.1 r88.2.2.2.2.2.2.2.2.2.2.2.2.2.2.2.2.2)
set_option maxHeartbeats 8000000 in
set_option maxRecDepth 100000 in
theorem lM_measure_70_ok {g : Gm} {κ : ctx} (G : OK g κ RM cM_measure 6 none rm_M_measure) (X : Nat → va_E) (F : Nat) {x_many : Int32} {x_generator : Nat → Int32} {x_known : Int32} {x_without : Int32} {x_rows : Int32} {x_row : Nat → Int64} {x_pivot : Nat → Int32} {x_listed : Int32} {x_minima : Nat → Int32} {x_measured : Int32} (v1 : Int32) : ∀ (n : Nat) (v2 : Int32) (v3 : Int32) (x_fresh : Nat → Int64) (x_multiple : Nat → Int64) (x_last : Nat → Int64) (x_made : Nat → Int64) (x_settled : Nat → Int64) (x_point : Nat → Int64) (x_limit : Int64) (x_mode : Int32) (x_counted : Int32) (x_held : Int32) (x_first : Nat → Int64) (x_squares : Nat → Int64) (x_wanted : Int32) (x_spanned : Int32) (x_span : Nat → Int64) (x_found : Nat → Int64) (x_any : Int32) (out : Int32 × (Nat → Int64) × (Nat → Int64) × (Nat → Int64) × (Nat → Int64) × (Nat → Int64) × (Nat → Int64) × Int64 × Int32 × Int32 × Int32 × (Nat → Int64) × (Nat → Int64) × Int32 × Int32 × (Nat → Int64) × (Nat → Int64) × Int32), lM_measure_70 F x_rows x_row x_pivot v1 n v2 v3 x_fresh x_multiple x_last x_made x_settled x_point x_limit x_mode x_counted x_held x_first x_squares x_wanted x_spanned x_span x_found x_any = some out → (J g κ 6 120 [(0, .ref (κ.1 0)), (1, .int v1), (3, .int out.1)] [] (LM κ (x_many, x_generator, x_known, x_without, x_rows, x_row, x_pivot, out.2.1, out.2.2.1, out.2.2.2.1, out.2.2.2.2.1, out.2.2.2.2.2.1, out.2.2.2.2.2.2.1, out.2.2.2.2.2.2.2.1, out.2.2.2.2.2.2.2.2.1, out.2.2.2.2.2.2.2.2.2.1, x_listed, out.2.2.2.2.2.2.2.2.2.2.1, out.2.2.2.2.2.2.2.2.2.2.2.1, out.2.2.2.2.2.2.2.2.2.2.2.2.1, out.2.2.2.2.2.2.2.2.2.2.2.2.2.1, out.2.2.2.2.2.2.2.2.2.2.2.2.2.2.1, out.2.2.2.2.2.2.2.2.2.2.2.2.2.2.2.1, x_minima, x_measured, out.2.2.2.2.2.2.2.2.2.2.2.2.2.2.2.2.1, out.2.2.2.2.2.2.2.2.2.2.2.2.2.2.2.2.2) X)) → J g κ 6 70 [(0, .ref (κ.1 0)), (1, .int v1), (2, .int v2), (3, .int v3)] [] (LM κ (x_many, x_generator, x_known, x_without, x_rows, x_row, x_pivot, x_fresh, x_multiple, x_last, x_made, x_settled, x_point, x_limit, x_mode, x_counted, x_listed, x_held, x_first, x_squares, x_wanted, x_spanned, x_span, x_minima, x_measured, x_found, x_any) X) := by
  intro n
  induction n with
  | zero =>
    intro v2 v3 x_fresh x_multiple x_last x_made x_settled x_point x_limit x_mode x_counted x_held x_first x_squares x_wanted x_spanned x_span x_found x_any
    intro out h
    rw [lM_measure_70] at h
    cases h
  | succ n ih =>
    intro v2 v3 x_fresh x_multiple x_last x_made x_settled x_point x_limit x_mode x_counted x_held x_first x_squares x_wanted x_spanned x_span x_found x_any out h K
    rw [lM_measure_70] at h
    refine w_iload_n (pc := 70) (q := 3) G dM_measure_70 rfl rfl ?_
    refine w_iload_n (pc := 71) (q := 2) G dM_measure_71 rfl rfl ?_
    refine w_isub (pc := 72) G dM_measure_72 ?_
    refine w_iconst (pc := 73) (v := (1 : Int32)) G dM_measure_73 (by decide) ?_
    refine w_icmp_le (pc := 74) (tgt := 120) G dM_measure_74 (by decide) (fun c74 => ?_) (fun c74 => ?_)
    · have h := if_t c74 h
      obtain rfl := Option.some.inj h
      refine w_sub (lv' := [(0, .ref (κ.1 0)), (1, .int v1), (3, .int v3)]) [0, 1, 3] rfl ?_
      exact K
    · have h := if_f c74 h
      refine w_iload_n (pc := 77) (q := 2) G dM_measure_77 rfl rfl ?_
      refine w_iload_n (pc := 78) (q := 3) G dM_measure_78 rfl rfl ?_
      refine w_iadd (pc := 79) G dM_measure_79 ?_
      refine w_iconst (pc := 80) (v := (2 : Int32)) G dM_measure_80 (by decide) ?_
      refine w_idiv (pc := 81) G dM_measure_81 (by decide) ?_
      refine w_istore (pc := 82) (lv' := [(4, .int ((v2 + v3) / (2 : Int32))), (0, .ref (κ.1 0)), (1, .int v1), (2, .int v2), (3, .int v3)]) G dM_measure_82 (by decide) rfl ?_
      refine w_aload_n (pc := 84) (q := 1) G dM_measure_84 rfl rfl ?_
      refine w_iload_n (pc := 85) (q := 2) G dM_measure_85 rfl rfl ?_
      refine w_iload (pc := 86) (q := 0) G dM_measure_86 rfl ?_
      obtain ⟨r88, e88, h⟩ := bd h
      refine w_callV (pc := 88) (av := [.int v1, .int ((v2 + v3) / (2 : Int32))]) (rest := []) (v := some (.int r88.1)) (L' := (LM κ (x_many, x_generator, x_known, x_without, x_rows, x_row, x_pivot, r88.2.1, r88.2.2.1, r88.2.2.2.1, r88.2.2.2.2.1, r88.2.2.2.2.2.1, r88.2.2.2.2.2.2.1, r88.2.2.2.2.2.2.2.1, r88.2.2.2.2.2.2.2.2.1, r88.2.2.2.2.2.2.2.2.2.1, x_listed, r88.2.2.2.2.2.2.2.2.2.2.1, r88.2.2.2.2.2.2.2.2.2.2.2.1, r88.2.2.2.2.2.2.2.2.2.2.2.2.1, r88.2.2.2.2.2.2.2.2.2.2.2.2.2.1, r88.2.2.2.2.2.2.2.2.2.2.2.2.2.2.1, r88.2.2.2.2.2.2.2.2.2.2.2.2.2.2.2.1, x_minima, x_measured, r88.2.2.2.2.2.2.2.2.2.2.2.2.2.2.2.2.1, r88.2.2.2.2.2.2.2.2.2.2.2.2.2.2.2.2.2) X)) (T := TM) (fs := fl_M κ (x_many, x_generator, x_known, x_without, x_rows, x_row, x_pivot, x_fresh, x_multiple, x_last, x_made, x_settled, x_point, x_limit, x_mode, x_counted, x_listed, x_held, x_first, x_squares, x_wanted, x_spanned, x_span, x_minima, x_measured, x_found, x_any)) G 0 0 27 (by decide) lb_M rfl cb_M_reaches_M_measure wd745 ws47 wd743 (met_M_reaches κ X F v1 ((v2 + v3) / (2 : Int32))  e88) rfl rfl rfl (Nat.le_of_ble_eq_true rfl) dM_measure_88 ?_
      refine w_istore (pc := 91) (lv' := [(5, .int r88.1), (4, .int ((v2 + v3) / (2 : Int32))), (0, .ref (κ.1 0)), (1, .int v1), (2, .int v2), (3, .int v3)]) G dM_measure_91 (by decide) rfl ?_
      refine w_iload (pc := 93) (q := 0) G dM_measure_93 rfl ?_
      refine w_if_eq (pc := 95) (tgt := 103) G dM_measure_95 (by decide) (fun c95 => ?_) (fun c95 => ?_)
      · have h := if_t c95 h
        refine w_iload_n (pc := 103) (q := 5) G dM_measure_103 rfl rfl ?_
        refine w_istore_n (pc := 104) (lv' := [(3, .int v3), (5, .int r88.1), (4, .int ((v2 + v3) / (2 : Int32))), (0, .ref (κ.1 0)), (1, .int v1), (2, .int v2)]) G dM_measure_104 rfl (by decide) rfl ?_
        refine w_iload (pc := 105) (q := 1) G dM_measure_105 rfl ?_
        refine w_if_eq (pc := 107) (tgt := 114) G dM_measure_107 (by decide) (fun c107 => ?_) (fun c107 => ?_)
        · have h := if_t c107 h
          refine w_iload (pc := 114) (q := 2) G dM_measure_114 rfl ?_
          refine w_istore_n (pc := 116) (lv' := [(2, .int ((v2 + v3) / (2 : Int32))), (3, .int v3), (5, .int r88.1), (4, .int ((v2 + v3) / (2 : Int32))), (0, .ref (κ.1 0)), (1, .int v1)]) G dM_measure_116 rfl (by decide) rfl ?_
          refine w_goto (pc := 117) (tgt := 70) G dM_measure_117 (by decide) ?_
          refine w_sub (lv' := [(0, .ref (κ.1 0)), (1, .int v1), (2, .int ((v2 + v3) / (2 : Int32))), (3, .int v3)]) [4, 5, 0, 1] rfl ?_
          exact ih ((v2 + v3) / (2 : Int32)) v3 r88.2.1 r88.2.2.1 r88.2.2.2.1 r88.2.2.2.2.1 r88.2.2.2.2.2.1 r88.2.2.2.2.2.2.1 r88.2.2.2.2.2.2.2.1 r88.2.2.2.2.2.2.2.2.1 r88.2.2.2.2.2.2.2.2.2.1 r88.2.2.2.2.2.2.2.2.2.2.1 r88.2.2.2.2.2.2.2.2.2.2.2.1 r88.2.2.2.2.2.2.2.2.2.2.2.2.1 r88.2.2.2.2.2.2.2.2.2.2.2.2.2.1 r88.2.2.2.2.2.2.2.2.2.2.2.2.2.2.1 r88.2.2.2.2.2.2.2.2.2.2.2.2.2.2.2.1 r88.2.2.2.2.2.2.2.2.2.2.2.2.2.2.2.2.1 r88.2.2.2.2.2.2.2.2.2.2.2.2.2.2.2.2.2 out h K
        · have h := if_f c107 h
          refine w_iload_n (pc := 110) (q := 5) G dM_measure_110 rfl rfl ?_
          refine w_goto (pc := 111) (tgt := 116) G dM_measure_111 (by decide) ?_
          refine w_istore_n (pc := 116) (lv' := [(2, .int v2), (3, .int v3), (5, .int r88.1), (4, .int ((v2 + v3) / (2 : Int32))), (0, .ref (κ.1 0)), (1, .int v1)]) G dM_measure_116 rfl (by decide) rfl ?_
          refine w_goto (pc := 117) (tgt := 70) G dM_measure_117 (by decide) ?_
          refine w_sub (lv' := [(0, .ref (κ.1 0)), (1, .int v1), (2, .int v2), (3, .int v3)]) [4, 5, 0, 1] rfl ?_
          exact ih v2 v3 r88.2.1 r88.2.2.1 r88.2.2.2.1 r88.2.2.2.2.1 r88.2.2.2.2.2.1 r88.2.2.2.2.2.2.1 r88.2.2.2.2.2.2.2.1 r88.2.2.2.2.2.2.2.2.1 r88.2.2.2.2.2.2.2.2.2.1 r88.2.2.2.2.2.2.2.2.2.2.1 r88.2.2.2.2.2.2.2.2.2.2.2.1 r88.2.2.2.2.2.2.2.2.2.2.2.2.1 r88.2.2.2.2.2.2.2.2.2.2.2.2.2.1 r88.2.2.2.2.2.2.2.2.2.2.2.2.2.2.1 r88.2.2.2.2.2.2.2.2.2.2.2.2.2.2.2.1 r88.2.2.2.2.2.2.2.2.2.2.2.2.2.2.2.2.1 r88.2.2.2.2.2.2.2.2.2.2.2.2.2.2.2.2.2 out h K
      · have h := if_f c95 h
        refine w_iload (pc := 98) (q := 1) G dM_measure_98 rfl ?_
        refine w_goto (pc := 100) (tgt := 104) G dM_measure_100 (by decide) ?_
        refine w_istore_n (pc := 104) (lv' := [(3, .int ((v2 + v3) / (2 : Int32))), (5, .int r88.1), (4, .int ((v2 + v3) / (2 : Int32))), (0, .ref (κ.1 0)), (1, .int v1), (2, .int v2)]) G dM_measure_104 rfl (by decide) rfl ?_
        refine w_iload (pc := 105) (q := 1) G dM_measure_105 rfl ?_
        refine w_if_eq (pc := 107) (tgt := 114) G dM_measure_107 (by decide) (fun c107 => ?_) (fun c107 => ?_)
        · have h := if_t c107 h
          refine w_iload (pc := 114) (q := 2) G dM_measure_114 rfl ?_
          refine w_istore_n (pc := 116) (lv' := [(2, .int ((v2 + v3) / (2 : Int32))), (3, .int ((v2 + v3) / (2 : Int32))), (5, .int r88.1), (4, .int ((v2 + v3) / (2 : Int32))), (0, .ref (κ.1 0)), (1, .int v1)]) G dM_measure_116 rfl (by decide) rfl ?_
          refine w_goto (pc := 117) (tgt := 70) G dM_measure_117 (by decide) ?_
          refine w_sub (lv' := [(0, .ref (κ.1 0)), (1, .int v1), (2, .int ((v2 + v3) / (2 : Int32))), (3, .int ((v2 + v3) / (2 : Int32)))]) [4, 5, 0, 1] rfl ?_
          exact ih ((v2 + v3) / (2 : Int32)) ((v2 + v3) / (2 : Int32)) r88.2.1 r88.2.2.1 r88.2.2.2.1 r88.2.2.2.2.1 r88.2.2.2.2.2.1 r88.2.2.2.2.2.2.1 r88.2.2.2.2.2.2.2.1 r88.2.2.2.2.2.2.2.2.1 r88.2.2.2.2.2.2.2.2.2.1 r88.2.2.2.2.2.2.2.2.2.2.1 r88.2.2.2.2.2.2.2.2.2.2.2.1 r88.2.2.2.2.2.2.2.2.2.2.2.2.1 r88.2.2.2.2.2.2.2.2.2.2.2.2.2.1 r88.2.2.2.2.2.2.2.2.2.2.2.2.2.2.1 r88.2.2.2.2.2.2.2.2.2.2.2.2.2.2.2.1 r88.2.2.2.2.2.2.2.2.2.2.2.2.2.2.2.2.1 r88.2.2.2.2.2.2.2.2.2.2.2.2.2.2.2.2.2 out h K
        · have h := if_f c107 h
          refine w_iload_n (pc := 110) (q := 5) G dM_measure_110 rfl rfl ?_
          refine w_goto (pc := 111) (tgt := 116) G dM_measure_111 (by decide) ?_
          refine w_istore_n (pc := 116) (lv' := [(2, .int v2), (3, .int ((v2 + v3) / (2 : Int32))), (5, .int r88.1), (4, .int ((v2 + v3) / (2 : Int32))), (0, .ref (κ.1 0)), (1, .int v1)]) G dM_measure_116 rfl (by decide) rfl ?_
          refine w_goto (pc := 117) (tgt := 70) G dM_measure_117 (by decide) ?_
          refine w_sub (lv' := [(0, .ref (κ.1 0)), (1, .int v1), (2, .int v2), (3, .int ((v2 + v3) / (2 : Int32)))]) [4, 5, 0, 1] rfl ?_
          exact ih v2 ((v2 + v3) / (2 : Int32)) r88.2.1 r88.2.2.1 r88.2.2.2.1 r88.2.2.2.2.1 r88.2.2.2.2.2.1 r88.2.2.2.2.2.2.1 r88.2.2.2.2.2.2.2.1 r88.2.2.2.2.2.2.2.2.1 r88.2.2.2.2.2.2.2.2.2.1 r88.2.2.2.2.2.2.2.2.2.2.1 r88.2.2.2.2.2.2.2.2.2.2.2.1 r88.2.2.2.2.2.2.2.2.2.2.2.2.1 r88.2.2.2.2.2.2.2.2.2.2.2.2.2.1 r88.2.2.2.2.2.2.2.2.2.2.2.2.2.2.1 r88.2.2.2.2.2.2.2.2.2.2.2.2.2.2.2.1 r88.2.2.2.2.2.2.2.2.2.2.2.2.2.2.2.2.1 r88.2.2.2.2.2.2.2.2.2.2.2.2.2.2.2.2.2 out h K
noncomputable def lM_measure_20 (F : Nat) (x_rows : Int32) (x_row : Nat → Int64) (x_pivot : Nat → Int32) : Nat → Int32 → (Nat → Int64) → (Nat → Int64) → (Nat → Int64) → (Nat → Int64) → (Nat → Int64) → (Nat → Int64) → Int64 → Int32 → Int32 → Int32 → (Nat → Int64) → (Nat → Int64) → Int32 → Int32 → (Nat → Int64) → (Nat → Int32) → (Nat → Int64) → Int32 → Option ((Nat → Int64) × (Nat → Int64) × (Nat → Int64) × (Nat → Int64) × (Nat → Int64) × (Nat → Int64) × Int64 × Int32 × Int32 × Int32 × (Nat → Int64) × (Nat → Int64) × Int32 × Int32 × (Nat → Int64) × (Nat → Int32) × (Nat → Int64) × Int32)
  | 0, _, _, _, _, _, _, _, _, _, _, _, _, _, _, _, _, _, _, _ => none
  | n + 1, v1, x_fresh, x_multiple, x_last, x_made, x_settled, x_point, x_limit, x_mode, x_counted, x_held, x_first, x_squares, x_wanted, x_spanned, x_span, x_minima, x_found, x_any => if x_rows < v1 then some (x_fresh, x_multiple, x_last, x_made, x_settled, x_point, x_limit, x_mode, x_counted, x_held, x_first, x_squares, x_wanted, x_spanned, x_span, x_minima, x_found, x_any) else if v1 = (1 : Int32) then (lM_measure_52 F x_rows x_row x_pivot v1 F (0 : Int32) ((0 : Int32) + (1 : Int32)) x_fresh x_multiple x_last x_made x_settled x_point x_limit x_mode x_counted x_held x_first x_squares x_wanted x_spanned x_span x_found x_any).bind (fun o52_41 => (lM_measure_70 F x_rows x_row x_pivot v1 F o52_41.1 o52_41.2.1 o52_41.2.2.1 o52_41.2.2.2.1 o52_41.2.2.2.2.1 o52_41.2.2.2.2.2.1 o52_41.2.2.2.2.2.2.1 o52_41.2.2.2.2.2.2.2.1 o52_41.2.2.2.2.2.2.2.2.1 o52_41.2.2.2.2.2.2.2.2.2.1 o52_41.2.2.2.2.2.2.2.2.2.2.1 o52_41.2.2.2.2.2.2.2.2.2.2.2.1 o52_41.2.2.2.2.2.2.2.2.2.2.2.2.1 o52_41.2.2.2.2.2.2.2.2.2.2.2.2.2.1 o52_41.2.2.2.2.2.2.2.2.2.2.2.2.2.2.1 o52_41.2.2.2.2.2.2.2.2.2.2.2.2.2.2.2.1 o52_41.2.2.2.2.2.2.2.2.2.2.2.2.2.2.2.2.1 o52_41.2.2.2.2.2.2.2.2.2.2.2.2.2.2.2.2.2.1 o52_41.2.2.2.2.2.2.2.2.2.2.2.2.2.2.2.2.2.2).bind (fun o70_59 => gd (vp_in v1 5) (lM_measure_20 F x_rows x_row x_pivot n (v1 + 1) o70_59.2.1 o70_59.2.2.1 o70_59.2.2.2.1 o70_59.2.2.2.2.1 o70_59.2.2.2.2.2.1 o70_59.2.2.2.2.2.2.1 o70_59.2.2.2.2.2.2.2.1 o70_59.2.2.2.2.2.2.2.2.1 o70_59.2.2.2.2.2.2.2.2.2.1 o70_59.2.2.2.2.2.2.2.2.2.2.1 o70_59.2.2.2.2.2.2.2.2.2.2.2.1 o70_59.2.2.2.2.2.2.2.2.2.2.2.2.1 o70_59.2.2.2.2.2.2.2.2.2.2.2.2.2.1 o70_59.2.2.2.2.2.2.2.2.2.2.2.2.2.2.1 o70_59.2.2.2.2.2.2.2.2.2.2.2.2.2.2.2.1 (upd x_minima v1.toNatClampNeg o70_59.1) o70_59.2.2.2.2.2.2.2.2.2.2.2.2.2.2.2.2.1 o70_59.2.2.2.2.2.2.2.2.2.2.2.2.2.2.2.2.2))) else gd (vp_in (v1 - (1 : Int32)) 5) ((lM_measure_52 F x_rows x_row x_pivot v1 F ((x_minima (v1 - (1 : Int32)).toNatClampNeg) - (1 : Int32)) (((x_minima (v1 - (1 : Int32)).toNatClampNeg) - (1 : Int32)) + (1 : Int32)) x_fresh x_multiple x_last x_made x_settled x_point x_limit x_mode x_counted x_held x_first x_squares x_wanted x_spanned x_span x_found x_any).bind (fun o52_60 => (lM_measure_70 F x_rows x_row x_pivot v1 F o52_60.1 o52_60.2.1 o52_60.2.2.1 o52_60.2.2.2.1 o52_60.2.2.2.2.1 o52_60.2.2.2.2.2.1 o52_60.2.2.2.2.2.2.1 o52_60.2.2.2.2.2.2.2.1 o52_60.2.2.2.2.2.2.2.2.1 o52_60.2.2.2.2.2.2.2.2.2.1 o52_60.2.2.2.2.2.2.2.2.2.2.1 o52_60.2.2.2.2.2.2.2.2.2.2.2.1 o52_60.2.2.2.2.2.2.2.2.2.2.2.2.1 o52_60.2.2.2.2.2.2.2.2.2.2.2.2.2.1 o52_60.2.2.2.2.2.2.2.2.2.2.2.2.2.2.1 o52_60.2.2.2.2.2.2.2.2.2.2.2.2.2.2.2.1 o52_60.2.2.2.2.2.2.2.2.2.2.2.2.2.2.2.2.1 o52_60.2.2.2.2.2.2.2.2.2.2.2.2.2.2.2.2.2.1 o52_60.2.2.2.2.2.2.2.2.2.2.2.2.2.2.2.2.2.2).bind (fun o70_60 => gd (vp_in v1 5) (lM_measure_20 F x_rows x_row x_pivot n (v1 + 1) o70_60.2.1 o70_60.2.2.1 o70_60.2.2.2.1 o70_60.2.2.2.2.1 o70_60.2.2.2.2.2.1 o70_60.2.2.2.2.2.2.1 o70_60.2.2.2.2.2.2.2.1 o70_60.2.2.2.2.2.2.2.2.1 o70_60.2.2.2.2.2.2.2.2.2.1 o70_60.2.2.2.2.2.2.2.2.2.2.1 o70_60.2.2.2.2.2.2.2.2.2.2.2.1 o70_60.2.2.2.2.2.2.2.2.2.2.2.2.1 o70_60.2.2.2.2.2.2.2.2.2.2.2.2.2.1 o70_60.2.2.2.2.2.2.2.2.2.2.2.2.2.2.1 o70_60.2.2.2.2.2.2.2.2.2.2.2.2.2.2.2.1 (upd x_minima v1.toNatClampNeg o70_60.1) o70_60.2.2.2.2.2.2.2.2.2.2.2.2.2.2.2.2.1 o70_60.2.2.2.2.2.2.2.2.2.2.2.2.2.2.2.2.2))))
set_option maxHeartbeats 8000000 in
set_option maxRecDepth 100000 in
theorem lM_measure_20_ok {g : Gm} {κ : ctx} (G : OK g κ RM cM_measure 6 none rm_M_measure) (X : Nat → va_E) (F : Nat) {x_many : Int32} {x_generator : Nat → Int32} {x_known : Int32} {x_without : Int32} {x_rows : Int32} {x_row : Nat → Int64} {x_pivot : Nat → Int32} {x_listed : Int32} {x_measured : Int32} : ∀ (n : Nat) (v1 : Int32) (x_fresh : Nat → Int64) (x_multiple : Nat → Int64) (x_last : Nat → Int64) (x_made : Nat → Int64) (x_settled : Nat → Int64) (x_point : Nat → Int64) (x_limit : Int64) (x_mode : Int32) (x_counted : Int32) (x_held : Int32) (x_first : Nat → Int64) (x_squares : Nat → Int64) (x_wanted : Int32) (x_spanned : Int32) (x_span : Nat → Int64) (x_minima : Nat → Int32) (x_found : Nat → Int64) (x_any : Int32) (out : (Nat → Int64) × (Nat → Int64) × (Nat → Int64) × (Nat → Int64) × (Nat → Int64) × (Nat → Int64) × Int64 × Int32 × Int32 × Int32 × (Nat → Int64) × (Nat → Int64) × Int32 × Int32 × (Nat → Int64) × (Nat → Int32) × (Nat → Int64) × Int32), lM_measure_20 F x_rows x_row x_pivot  n v1 x_fresh x_multiple x_last x_made x_settled x_point x_limit x_mode x_counted x_held x_first x_squares x_wanted x_spanned x_span x_minima x_found x_any = some out → (J g κ 6 133 [] [] (LM κ (x_many, x_generator, x_known, x_without, x_rows, x_row, x_pivot, out.1, out.2.1, out.2.2.1, out.2.2.2.1, out.2.2.2.2.1, out.2.2.2.2.2.1, out.2.2.2.2.2.2.1, out.2.2.2.2.2.2.2.1, out.2.2.2.2.2.2.2.2.1, x_listed, out.2.2.2.2.2.2.2.2.2.1, out.2.2.2.2.2.2.2.2.2.2.1, out.2.2.2.2.2.2.2.2.2.2.2.1, out.2.2.2.2.2.2.2.2.2.2.2.2.1, out.2.2.2.2.2.2.2.2.2.2.2.2.2.1, out.2.2.2.2.2.2.2.2.2.2.2.2.2.2.1, out.2.2.2.2.2.2.2.2.2.2.2.2.2.2.2.1, x_measured, out.2.2.2.2.2.2.2.2.2.2.2.2.2.2.2.2.1, out.2.2.2.2.2.2.2.2.2.2.2.2.2.2.2.2.2) X)) → J g κ 6 20 [(0, .ref (κ.1 0)), (1, .int v1)] [] (LM κ (x_many, x_generator, x_known, x_without, x_rows, x_row, x_pivot, x_fresh, x_multiple, x_last, x_made, x_settled, x_point, x_limit, x_mode, x_counted, x_listed, x_held, x_first, x_squares, x_wanted, x_spanned, x_span, x_minima, x_measured, x_found, x_any) X) := by
  intro n
  induction n with
  | zero =>
    intro v1 x_fresh x_multiple x_last x_made x_settled x_point x_limit x_mode x_counted x_held x_first x_squares x_wanted x_spanned x_span x_minima x_found x_any
    intro out h
    rw [lM_measure_20] at h
    cases h
  | succ n ih =>
    intro v1 x_fresh x_multiple x_last x_made x_settled x_point x_limit x_mode x_counted x_held x_first x_squares x_wanted x_spanned x_span x_minima x_found x_any out h K
    rw [lM_measure_20] at h
    refine w_iload_n (pc := 20) (q := 1) G dM_measure_20 rfl rfl ?_
    refine w_aload_n (pc := 21) (q := 0) G dM_measure_21 rfl rfl ?_
    refine w_get (pc := 22) (v := .int x_rows) (fs := fl_M κ (x_many, x_generator, x_known, x_without, x_rows, x_row, x_pivot, x_fresh, x_multiple, x_last, x_made, x_settled, x_point, x_limit, x_mode, x_counted, x_listed, x_held, x_first, x_squares, x_wanted, x_spanned, x_span, x_minima, x_measured, x_found, x_any)) G 0 (by decide) lb_M rfl wsM_ok 4 (by decide) wd494 gf_M_4 dM_measure_22 ?_
    refine w_icmp_gt (pc := 25) (tgt := 133) G dM_measure_25 (by decide) (fun c25 => ?_) (fun c25 => ?_)
    · have h := if_t c25 h
      obtain rfl := Option.some.inj h
      refine w_sub (lv' := []) [] rfl ?_
      exact K
    · have h := if_f c25 h
      refine w_iload_n (pc := 28) (q := 1) G dM_measure_28 rfl rfl ?_
      refine w_iconst (pc := 29) (v := (1 : Int32)) G dM_measure_29 (by decide) ?_
      refine w_icmp_ne (pc := 30) (tgt := 37) G dM_measure_30 (by decide) (fun c30 => ?_) (fun c30 => ?_)
      · have h := if_t c30 h
        refine w_iconst (pc := 33) (v := (0 : Int32)) G dM_measure_33 (by decide) ?_
        refine w_goto (pc := 34) (tgt := 47) G dM_measure_34 (by decide) ?_
        refine w_istore_n (pc := 47) (lv' := [(2, .int (0 : Int32)), (0, .ref (κ.1 0)), (1, .int v1)]) G dM_measure_47 rfl (by decide) rfl ?_
        refine w_iload_n (pc := 48) (q := 0) G dM_measure_48 rfl rfl ?_
        refine w_iconst (pc := 49) (v := (1 : Int32)) G dM_measure_49 (by decide) ?_
        refine w_iadd (pc := 50) G dM_measure_50 ?_
        refine w_istore_n (pc := 51) (lv' := [(3, .int ((0 : Int32) + (1 : Int32))), (2, .int (0 : Int32)), (0, .ref (κ.1 0)), (1, .int v1)]) G dM_measure_51 rfl (by decide) rfl ?_
        refine w_sub (lv' := [(0, .ref (κ.1 0)), (1, .int v1), (2, .int (0 : Int32)), (3, .int ((0 : Int32) + (1 : Int32)))]) [2, 3, 1, 0] rfl ?_
        obtain ⟨o52_41, eo52_41, h⟩ := bd h
        refine lM_measure_52_ok G X F v1 F (0 : Int32) ((0 : Int32) + (1 : Int32)) x_fresh x_multiple x_last x_made x_settled x_point x_limit x_mode x_counted x_held x_first x_squares x_wanted x_spanned x_span x_found x_any o52_41 eo52_41 ?_
        refine w_sub (lv' := [(0, .ref (κ.1 0)), (1, .int v1), (2, .int o52_41.1), (3, .int o52_41.2.1)]) [0, 1, 2, 3] rfl ?_
        obtain ⟨o70_59, eo70_59, h⟩ := bd h
        refine lM_measure_70_ok G X F v1 F o52_41.1 o52_41.2.1 o52_41.2.2.1 o52_41.2.2.2.1 o52_41.2.2.2.2.1 o52_41.2.2.2.2.2.1 o52_41.2.2.2.2.2.2.1 o52_41.2.2.2.2.2.2.2.1 o52_41.2.2.2.2.2.2.2.2.1 o52_41.2.2.2.2.2.2.2.2.2.1 o52_41.2.2.2.2.2.2.2.2.2.2.1 o52_41.2.2.2.2.2.2.2.2.2.2.2.1 o52_41.2.2.2.2.2.2.2.2.2.2.2.2.1 o52_41.2.2.2.2.2.2.2.2.2.2.2.2.2.1 o52_41.2.2.2.2.2.2.2.2.2.2.2.2.2.2.1 o52_41.2.2.2.2.2.2.2.2.2.2.2.2.2.2.2.1 o52_41.2.2.2.2.2.2.2.2.2.2.2.2.2.2.2.2.1 o52_41.2.2.2.2.2.2.2.2.2.2.2.2.2.2.2.2.2.1 o52_41.2.2.2.2.2.2.2.2.2.2.2.2.2.2.2.2.2.2 o70_59 eo70_59 ?_
        refine w_aload_n (pc := 120) (q := 0) G dM_measure_120 rfl rfl ?_
        refine w_get (pc := 121) (v := .ref (κ.1 13)) (fs := fl_M κ (x_many, x_generator, x_known, x_without, x_rows, x_row, x_pivot, o70_59.2.1, o70_59.2.2.1, o70_59.2.2.2.1, o70_59.2.2.2.2.1, o70_59.2.2.2.2.2.1, o70_59.2.2.2.2.2.2.1, o70_59.2.2.2.2.2.2.2.1, o70_59.2.2.2.2.2.2.2.2.1, o70_59.2.2.2.2.2.2.2.2.2.1, x_listed, o70_59.2.2.2.2.2.2.2.2.2.2.1, o70_59.2.2.2.2.2.2.2.2.2.2.2.1, o70_59.2.2.2.2.2.2.2.2.2.2.2.2.1, o70_59.2.2.2.2.2.2.2.2.2.2.2.2.2.1, o70_59.2.2.2.2.2.2.2.2.2.2.2.2.2.2.1, o70_59.2.2.2.2.2.2.2.2.2.2.2.2.2.2.2.1, x_minima, x_measured, o70_59.2.2.2.2.2.2.2.2.2.2.2.2.2.2.2.2.1, o70_59.2.2.2.2.2.2.2.2.2.2.2.2.2.2.2.2.2)) G 0 (by decide) lb_M rfl wsM_ok 23 (by decide) wd513 gf_M_23 dM_measure_121 ?_
        refine w_iload_n (pc := 124) (q := 1) G dM_measure_124 rfl rfl ?_
        refine w_iload_n (pc := 125) (q := 2) G dM_measure_125 rfl rfl ?_
        obtain ⟨i126, h⟩ := gd_some h
        refine w_iast (pc := 126) (n := 5) (f := x_minima) (L1 := (LM κ (x_many, x_generator, x_known, x_without, x_rows, x_row, x_pivot, o70_59.2.1, o70_59.2.2.1, o70_59.2.2.2.1, o70_59.2.2.2.2.1, o70_59.2.2.2.2.2.1, o70_59.2.2.2.2.2.2.1, o70_59.2.2.2.2.2.2.2.1, o70_59.2.2.2.2.2.2.2.2.1, o70_59.2.2.2.2.2.2.2.2.2.1, x_listed, o70_59.2.2.2.2.2.2.2.2.2.2.1, o70_59.2.2.2.2.2.2.2.2.2.2.2.1, o70_59.2.2.2.2.2.2.2.2.2.2.2.2.1, o70_59.2.2.2.2.2.2.2.2.2.2.2.2.2.1, o70_59.2.2.2.2.2.2.2.2.2.2.2.2.2.2.1, o70_59.2.2.2.2.2.2.2.2.2.2.2.2.2.2.2.1, upd x_minima v1.toNatClampNeg o70_59.1, x_measured, o70_59.2.2.2.2.2.2.2.2.2.2.2.2.2.2.2.2.1, o70_59.2.2.2.2.2.2.2.2.2.2.2.2.2.2.2.2.2) X)) G 13 (by decide) lk_minima i126 dM_measure_126 up_minima ?_
        refine w_iinc (pc := 127) (q0 := 1) (v := (v1 + 1)) (lv' := [(1, .int (v1 + 1)), (0, .ref (κ.1 0)), (3, .int o70_59.1)]) G dM_measure_127 rfl rfl (by decide) rfl ?_
        refine w_goto (pc := 130) (tgt := 20) G dM_measure_130 (by decide) ?_
        refine w_sub (lv' := [(0, .ref (κ.1 0)), (1, .int (v1 + 1))]) [1, 0] rfl ?_
        exact ih (v1 + 1) o70_59.2.1 o70_59.2.2.1 o70_59.2.2.2.1 o70_59.2.2.2.2.1 o70_59.2.2.2.2.2.1 o70_59.2.2.2.2.2.2.1 o70_59.2.2.2.2.2.2.2.1 o70_59.2.2.2.2.2.2.2.2.1 o70_59.2.2.2.2.2.2.2.2.2.1 o70_59.2.2.2.2.2.2.2.2.2.2.1 o70_59.2.2.2.2.2.2.2.2.2.2.2.1 o70_59.2.2.2.2.2.2.2.2.2.2.2.2.1 o70_59.2.2.2.2.2.2.2.2.2.2.2.2.2.1 o70_59.2.2.2.2.2.2.2.2.2.2.2.2.2.2.1 o70_59.2.2.2.2.2.2.2.2.2.2.2.2.2.2.2.1 (upd x_minima v1.toNatClampNeg o70_59.1) o70_59.2.2.2.2.2.2.2.2.2.2.2.2.2.2.2.2.1 o70_59.2.2.2.2.2.2.2.2.2.2.2.2.2.2.2.2.2 out h K
      · have h := if_f c30 h
        refine w_aload_n (pc := 37) (q := 0) G dM_measure_37 rfl rfl ?_
        refine w_get (pc := 38) (v := .ref (κ.1 13)) (fs := fl_M κ (x_many, x_generator, x_known, x_without, x_rows, x_row, x_pivot, x_fresh, x_multiple, x_last, x_made, x_settled, x_point, x_limit, x_mode, x_counted, x_listed, x_held, x_first, x_squares, x_wanted, x_spanned, x_span, x_minima, x_measured, x_found, x_any)) G 0 (by decide) lb_M rfl wsM_ok 23 (by decide) wd513 gf_M_23 dM_measure_38 ?_
        refine w_iload_n (pc := 41) (q := 1) G dM_measure_41 rfl rfl ?_
        refine w_iconst (pc := 42) (v := (1 : Int32)) G dM_measure_42 (by decide) ?_
        refine w_isub (pc := 43) G dM_measure_43 ?_
        obtain ⟨i44, h⟩ := gd_some h
        refine w_iald (pc := 44) (n := 5) (f := x_minima) G 13 (by decide) lk_minima i44 dM_measure_44 ?_
        refine w_iconst (pc := 45) (v := (1 : Int32)) G dM_measure_45 (by decide) ?_
        refine w_isub (pc := 46) G dM_measure_46 ?_
        refine w_istore_n (pc := 47) (lv' := [(2, .int ((x_minima (v1 - (1 : Int32)).toNatClampNeg) - (1 : Int32))), (0, .ref (κ.1 0)), (1, .int v1)]) G dM_measure_47 rfl (by decide) rfl ?_
        refine w_iload_n (pc := 48) (q := 0) G dM_measure_48 rfl rfl ?_
        refine w_iconst (pc := 49) (v := (1 : Int32)) G dM_measure_49 (by decide) ?_
        refine w_iadd (pc := 50) G dM_measure_50 ?_
        refine w_istore_n (pc := 51) (lv' := [(3, .int (((x_minima (v1 - (1 : Int32)).toNatClampNeg) - (1 : Int32)) + (1 : Int32))), (2, .int ((x_minima (v1 - (1 : Int32)).toNatClampNeg) - (1 : Int32))), (0, .ref (κ.1 0)), (1, .int v1)]) G dM_measure_51 rfl (by decide) rfl ?_
        refine w_sub (lv' := [(0, .ref (κ.1 0)), (1, .int v1), (2, .int ((x_minima (v1 - (1 : Int32)).toNatClampNeg) - (1 : Int32))), (3, .int (((x_minima (v1 - (1 : Int32)).toNatClampNeg) - (1 : Int32)) + (1 : Int32)))]) [2, 3, 1, 0] rfl ?_
        obtain ⟨o52_60, eo52_60, h⟩ := bd h
        refine lM_measure_52_ok G X F v1 F ((x_minima (v1 - (1 : Int32)).toNatClampNeg) - (1 : Int32)) (((x_minima (v1 - (1 : Int32)).toNatClampNeg) - (1 : Int32)) + (1 : Int32)) x_fresh x_multiple x_last x_made x_settled x_point x_limit x_mode x_counted x_held x_first x_squares x_wanted x_spanned x_span x_found x_any o52_60 eo52_60 ?_
        refine w_sub (lv' := [(0, .ref (κ.1 0)), (1, .int v1), (2, .int o52_60.1), (3, .int o52_60.2.1)]) [0, 1, 2, 3] rfl ?_
        obtain ⟨o70_60, eo70_60, h⟩ := bd h
        refine lM_measure_70_ok G X F v1 F o52_60.1 o52_60.2.1 o52_60.2.2.1 o52_60.2.2.2.1 o52_60.2.2.2.2.1 o52_60.2.2.2.2.2.1 o52_60.2.2.2.2.2.2.1 o52_60.2.2.2.2.2.2.2.1 o52_60.2.2.2.2.2.2.2.2.1 o52_60.2.2.2.2.2.2.2.2.2.1 o52_60.2.2.2.2.2.2.2.2.2.2.1 o52_60.2.2.2.2.2.2.2.2.2.2.2.1 o52_60.2.2.2.2.2.2.2.2.2.2.2.2.1 o52_60.2.2.2.2.2.2.2.2.2.2.2.2.2.1 o52_60.2.2.2.2.2.2.2.2.2.2.2.2.2.2.1 o52_60.2.2.2.2.2.2.2.2.2.2.2.2.2.2.2.1 o52_60.2.2.2.2.2.2.2.2.2.2.2.2.2.2.2.2.1 o52_60.2.2.2.2.2.2.2.2.2.2.2.2.2.2.2.2.2.1 o52_60.2.2.2.2.2.2.2.2.2.2.2.2.2.2.2.2.2.2 o70_60 eo70_60 ?_
        refine w_aload_n (pc := 120) (q := 0) G dM_measure_120 rfl rfl ?_
        refine w_get (pc := 121) (v := .ref (κ.1 13)) (fs := fl_M κ (x_many, x_generator, x_known, x_without, x_rows, x_row, x_pivot, o70_60.2.1, o70_60.2.2.1, o70_60.2.2.2.1, o70_60.2.2.2.2.1, o70_60.2.2.2.2.2.1, o70_60.2.2.2.2.2.2.1, o70_60.2.2.2.2.2.2.2.1, o70_60.2.2.2.2.2.2.2.2.1, o70_60.2.2.2.2.2.2.2.2.2.1, x_listed, o70_60.2.2.2.2.2.2.2.2.2.2.1, o70_60.2.2.2.2.2.2.2.2.2.2.2.1, o70_60.2.2.2.2.2.2.2.2.2.2.2.2.1, o70_60.2.2.2.2.2.2.2.2.2.2.2.2.2.1, o70_60.2.2.2.2.2.2.2.2.2.2.2.2.2.2.1, o70_60.2.2.2.2.2.2.2.2.2.2.2.2.2.2.2.1, x_minima, x_measured, o70_60.2.2.2.2.2.2.2.2.2.2.2.2.2.2.2.2.1, o70_60.2.2.2.2.2.2.2.2.2.2.2.2.2.2.2.2.2)) G 0 (by decide) lb_M rfl wsM_ok 23 (by decide) wd513 gf_M_23 dM_measure_121 ?_
        refine w_iload_n (pc := 124) (q := 1) G dM_measure_124 rfl rfl ?_
        refine w_iload_n (pc := 125) (q := 2) G dM_measure_125 rfl rfl ?_
        obtain ⟨i126, h⟩ := gd_some h
        refine w_iast (pc := 126) (n := 5) (f := x_minima) (L1 := (LM κ (x_many, x_generator, x_known, x_without, x_rows, x_row, x_pivot, o70_60.2.1, o70_60.2.2.1, o70_60.2.2.2.1, o70_60.2.2.2.2.1, o70_60.2.2.2.2.2.1, o70_60.2.2.2.2.2.2.1, o70_60.2.2.2.2.2.2.2.1, o70_60.2.2.2.2.2.2.2.2.1, o70_60.2.2.2.2.2.2.2.2.2.1, x_listed, o70_60.2.2.2.2.2.2.2.2.2.2.1, o70_60.2.2.2.2.2.2.2.2.2.2.2.1, o70_60.2.2.2.2.2.2.2.2.2.2.2.2.1, o70_60.2.2.2.2.2.2.2.2.2.2.2.2.2.1, o70_60.2.2.2.2.2.2.2.2.2.2.2.2.2.2.1, o70_60.2.2.2.2.2.2.2.2.2.2.2.2.2.2.2.1, upd x_minima v1.toNatClampNeg o70_60.1, x_measured, o70_60.2.2.2.2.2.2.2.2.2.2.2.2.2.2.2.2.1, o70_60.2.2.2.2.2.2.2.2.2.2.2.2.2.2.2.2.2) X)) G 13 (by decide) lk_minima i126 dM_measure_126 up_minima ?_
        refine w_iinc (pc := 127) (q0 := 1) (v := (v1 + 1)) (lv' := [(1, .int (v1 + 1)), (0, .ref (κ.1 0)), (3, .int o70_60.1)]) G dM_measure_127 rfl rfl (by decide) rfl ?_
        refine w_goto (pc := 130) (tgt := 20) G dM_measure_130 (by decide) ?_
        refine w_sub (lv' := [(0, .ref (κ.1 0)), (1, .int (v1 + 1))]) [1, 0] rfl ?_
        exact ih (v1 + 1) o70_60.2.1 o70_60.2.2.1 o70_60.2.2.2.1 o70_60.2.2.2.2.1 o70_60.2.2.2.2.2.1 o70_60.2.2.2.2.2.2.1 o70_60.2.2.2.2.2.2.2.1 o70_60.2.2.2.2.2.2.2.2.1 o70_60.2.2.2.2.2.2.2.2.2.1 o70_60.2.2.2.2.2.2.2.2.2.2.1 o70_60.2.2.2.2.2.2.2.2.2.2.2.1 o70_60.2.2.2.2.2.2.2.2.2.2.2.2.1 o70_60.2.2.2.2.2.2.2.2.2.2.2.2.2.1 o70_60.2.2.2.2.2.2.2.2.2.2.2.2.2.2.1 o70_60.2.2.2.2.2.2.2.2.2.2.2.2.2.2.2.1 (upd x_minima v1.toNatClampNeg o70_60.1) o70_60.2.2.2.2.2.2.2.2.2.2.2.2.2.2.2.2.1 o70_60.2.2.2.2.2.2.2.2.2.2.2.2.2.2.2.2.2 out h K
noncomputable def M_measure (F : Nat) (x_many : Int32) (x_generator : Nat → Int32) (x_known : Int32) (x_without : Int32) (x_rows : Int32) (x_row : Nat → Int64) (x_pivot : Nat → Int32) (x_fresh : Nat → Int64) (x_multiple : Nat → Int64) (x_last : Nat → Int64) (x_made : Nat → Int64) (x_settled : Nat → Int64) (x_point : Nat → Int64) (x_limit : Int64) (x_mode : Int32) (x_counted : Int32) (x_held : Int32) (x_first : Nat → Int64) (x_squares : Nat → Int64) (x_wanted : Int32) (x_spanned : Int32) (x_span : Nat → Int64) (x_minima : Nat → Int32) (x_measured : Int32) (x_found : Nat → Int64) (x_any : Int32)  : Option (Int32 × Int32 × Int32 × (Nat → Int64) × (Nat → Int32) × (Nat → Int64) × (Nat → Int64) × (Nat → Int64) × (Nat → Int64) × (Nat → Int64) × (Nat → Int64) × Int64 × Int32 × Int32 × Int32 × (Nat → Int64) × (Nat → Int64) × Int32 × Int32 × (Nat → Int64) × (Nat → Int32) × Int32 × (Nat → Int64) × Int32) := (M_look F x_many x_generator x_known x_without x_rows x_row x_pivot x_fresh (-1 : Int32)).bind (fun r2 => if x_measured = 0 then (lM_measure_20 F r2.2.2.1 r2.2.2.2.1 r2.2.2.2.2.1 F (1 : Int32) r2.2.2.2.2.2 x_multiple x_last x_made x_settled x_point x_limit x_mode x_counted x_held x_first x_squares x_wanted x_spanned x_span x_minima x_found x_any).bind (fun o20_60 => some (r2.1, r2.2.1, r2.2.2.1, r2.2.2.2.1, r2.2.2.2.2.1, o20_60.1, o20_60.2.1, o20_60.2.2.1, o20_60.2.2.2.1, o20_60.2.2.2.2.1, o20_60.2.2.2.2.2.1, o20_60.2.2.2.2.2.2.1, o20_60.2.2.2.2.2.2.2.1, o20_60.2.2.2.2.2.2.2.2.1, o20_60.2.2.2.2.2.2.2.2.2.1, o20_60.2.2.2.2.2.2.2.2.2.2.1, o20_60.2.2.2.2.2.2.2.2.2.2.2.1, o20_60.2.2.2.2.2.2.2.2.2.2.2.2.1, o20_60.2.2.2.2.2.2.2.2.2.2.2.2.2.1, o20_60.2.2.2.2.2.2.2.2.2.2.2.2.2.2.1, o20_60.2.2.2.2.2.2.2.2.2.2.2.2.2.2.2.1, (1 : Int32), o20_60.2.2.2.2.2.2.2.2.2.2.2.2.2.2.2.2.1, o20_60.2.2.2.2.2.2.2.2.2.2.2.2.2.2.2.2.2)) else some (r2.1, r2.2.1, r2.2.2.1, r2.2.2.2.1, r2.2.2.2.2.1, r2.2.2.2.2.2, x_multiple, x_last, x_made, x_settled, x_point, x_limit, x_mode, x_counted, x_held, x_first, x_squares, x_wanted, x_spanned, x_span, x_minima, x_measured, x_found, x_any))
set_option maxHeartbeats 8000000 in
set_option maxRecDepth 100000 in
theorem met_M_measure (κ : ctx) (X : Nat → va_E) (F : Nat) {x_many : Int32} {x_generator : Nat → Int32} {x_known : Int32} {x_without : Int32} {x_rows : Int32} {x_row : Nat → Int64} {x_pivot : Nat → Int32} {x_fresh : Nat → Int64} {x_multiple : Nat → Int64} {x_last : Nat → Int64} {x_made : Nat → Int64} {x_settled : Nat → Int64} {x_point : Nat → Int64} {x_limit : Int64} {x_mode : Int32} {x_counted : Int32} {x_listed : Int32} {x_held : Int32} {x_first : Nat → Int64} {x_squares : Nat → Int64} {x_wanted : Int32} {x_spanned : Int32} {x_span : Nat → Int64} {x_minima : Nat → Int32} {x_measured : Int32} {x_found : Nat → Int64} {x_any : Int32}  {out : Int32 × Int32 × Int32 × (Nat → Int64) × (Nat → Int32) × (Nat → Int64) × (Nat → Int64) × (Nat → Int64) × (Nat → Int64) × (Nat → Int64) × (Nat → Int64) × Int64 × Int32 × Int32 × Int32 × (Nat → Int64) × (Nat → Int64) × Int32 × Int32 × (Nat → Int64) × (Nat → Int32) × Int32 × (Nat → Int64) × Int32} (h : M_measure F x_many x_generator x_known x_without x_rows x_row x_pivot x_fresh x_multiple x_last x_made x_settled x_point x_limit x_mode x_counted x_held x_first x_squares x_wanted x_spanned x_span x_minima x_measured x_found x_any  = some out) : Mt yM_measure cM_measure 6 none rm_M_measure κ [.ref (κ.1 0)] (LM κ (x_many, x_generator, x_known, x_without, x_rows, x_row, x_pivot, x_fresh, x_multiple, x_last, x_made, x_settled, x_point, x_limit, x_mode, x_counted, x_listed, x_held, x_first, x_squares, x_wanted, x_spanned, x_span, x_minima, x_measured, x_found, x_any) X) none (LM κ (x_many, x_generator, out.1, out.2.1, out.2.2.1, out.2.2.2.1, out.2.2.2.2.1, out.2.2.2.2.2.1, out.2.2.2.2.2.2.1, out.2.2.2.2.2.2.2.1, out.2.2.2.2.2.2.2.2.1, out.2.2.2.2.2.2.2.2.2.1, out.2.2.2.2.2.2.2.2.2.2.1, out.2.2.2.2.2.2.2.2.2.2.2.1, out.2.2.2.2.2.2.2.2.2.2.2.2.1, out.2.2.2.2.2.2.2.2.2.2.2.2.2.1, x_listed, out.2.2.2.2.2.2.2.2.2.2.2.2.2.2.1, out.2.2.2.2.2.2.2.2.2.2.2.2.2.2.2.1, out.2.2.2.2.2.2.2.2.2.2.2.2.2.2.2.2.1, out.2.2.2.2.2.2.2.2.2.2.2.2.2.2.2.2.2.1, out.2.2.2.2.2.2.2.2.2.2.2.2.2.2.2.2.2.2.1, out.2.2.2.2.2.2.2.2.2.2.2.2.2.2.2.2.2.2.2.1, out.2.2.2.2.2.2.2.2.2.2.2.2.2.2.2.2.2.2.2.2.1, out.2.2.2.2.2.2.2.2.2.2.2.2.2.2.2.2.2.2.2.2.2.1, out.2.2.2.2.2.2.2.2.2.2.2.2.2.2.2.2.2.2.2.2.2.2.1, out.2.2.2.2.2.2.2.2.2.2.2.2.2.2.2.2.2.2.2.2.2.2.2) X) := by
  refine Mt.of (by decide) (Nat.le_of_ble_eq_true rfl) ?_
  intro g G Fh
  unfold M_measure at h
  show J g κ 6 0 [(0, .ref (κ.1 0))] [] (LM κ (x_many, x_generator, x_known, x_without, x_rows, x_row, x_pivot, x_fresh, x_multiple, x_last, x_made, x_settled, x_point, x_limit, x_mode, x_counted, x_listed, x_held, x_first, x_squares, x_wanted, x_spanned, x_span, x_minima, x_measured, x_found, x_any) X)
  refine w_aload_n (pc := 0) (q := 0) G dM_measure_0 rfl rfl ?_
  refine w_iconst (pc := 1) (v := (-1 : Int32)) G dM_measure_1 (by decide) ?_
  obtain ⟨r2, e2, h⟩ := bd h
  refine w_callV (pc := 2) (av := [.int (-1 : Int32)]) (rest := []) (v := none) (L' := (LM κ (x_many, x_generator, r2.1, r2.2.1, r2.2.2.1, r2.2.2.2.1, r2.2.2.2.2.1, r2.2.2.2.2.2, x_multiple, x_last, x_made, x_settled, x_point, x_limit, x_mode, x_counted, x_listed, x_held, x_first, x_squares, x_wanted, x_spanned, x_span, x_minima, x_measured, x_found, x_any) X)) (T := TM) (fs := fl_M κ (x_many, x_generator, x_known, x_without, x_rows, x_row, x_pivot, x_fresh, x_multiple, x_last, x_made, x_settled, x_point, x_limit, x_mode, x_counted, x_listed, x_held, x_first, x_squares, x_wanted, x_spanned, x_span, x_minima, x_measured, x_found, x_any)) G 0 0 27 (by decide) lb_M rfl cb_M_look_M_measure wd597 ws20 wd595 (met_M_look κ X F (-1 : Int32)  e2) rfl rfl rfl (Nat.le_of_ble_eq_true rfl) dM_measure_2 ?_
  refine w_aload_n (pc := 5) (q := 0) G dM_measure_5 rfl rfl ?_
  refine w_get (pc := 6) (v := .int x_measured) (fs := fl_M κ (x_many, x_generator, r2.1, r2.2.1, r2.2.2.1, r2.2.2.2.1, r2.2.2.2.2.1, r2.2.2.2.2.2, x_multiple, x_last, x_made, x_settled, x_point, x_limit, x_mode, x_counted, x_listed, x_held, x_first, x_squares, x_wanted, x_spanned, x_span, x_minima, x_measured, x_found, x_any)) G 0 (by decide) lb_M rfl wsM_ok 24 (by decide) wd514 gf_M_24 dM_measure_6 ?_
  refine w_if_eq (pc := 9) (tgt := 13) G dM_measure_9 (by decide) (fun c9 => ?_) (fun c9 => ?_)
  · have h := if_t c9 h
    refine w_aload_n (pc := 13) (q := 0) G dM_measure_13 rfl rfl ?_
    refine w_iconst (pc := 14) (v := (1 : Int32)) G dM_measure_14 (by decide) ?_
    refine w_put (pc := 15) (fs := fl_M κ (x_many, x_generator, r2.1, r2.2.1, r2.2.2.1, r2.2.2.2.1, r2.2.2.2.2.1, r2.2.2.2.2.2, x_multiple, x_last, x_made, x_settled, x_point, x_limit, x_mode, x_counted, x_listed, x_held, x_first, x_squares, x_wanted, x_spanned, x_span, x_minima, x_measured, x_found, x_any)) (L1 := (LM κ (x_many, x_generator, r2.1, r2.2.1, r2.2.2.1, r2.2.2.2.1, r2.2.2.2.2.1, r2.2.2.2.2.2, x_multiple, x_last, x_made, x_settled, x_point, x_limit, x_mode, x_counted, x_listed, x_held, x_first, x_squares, x_wanted, x_spanned, x_span, x_minima, (1 : Int32), x_found, x_any) X)) G 0 (by decide) lb_M rfl wsM_ok tyM tyM_ok nmM 24 (by decide) wd514 rfl rfl rfl (Nat.le_of_ble_eq_true rfl) dM_measure_15 upf_measured ?_
    refine w_iconst (pc := 18) (v := (1 : Int32)) G dM_measure_18 (by decide) ?_
    refine w_istore_n (pc := 19) (lv' := [(1, .int (1 : Int32)), (0, .ref (κ.1 0))]) G dM_measure_19 rfl (by decide) rfl ?_
    refine w_sub (lv' := [(0, .ref (κ.1 0)), (1, .int (1 : Int32))]) [1, 0] rfl ?_
    obtain ⟨o20_60, eo20_60, h⟩ := bd h
    refine lM_measure_20_ok G X F F (1 : Int32) r2.2.2.2.2.2 x_multiple x_last x_made x_settled x_point x_limit x_mode x_counted x_held x_first x_squares x_wanted x_spanned x_span x_minima x_found x_any o20_60 eo20_60 ?_
    obtain rfl := Option.some.inj h
    exact w_vret (pc := 133) G dM_measure_133 Fh
  · have h := if_f c9 h
    obtain rfl := Option.some.inj h
    exact w_vret (pc := 12) G dM_measure_12 Fh
def rm_M_minimum : Room := { frames := 9, cells := 0, slots := 0, locals := 226 }
theorem dM_minimum_0 : decode cM_minimum 0 = .ok (.aload_n 0, 1) := by decide +kernel
theorem dM_minimum_1 : decode cM_minimum 1 = .ok (.iconst (-1), 1) := by decide +kernel
theorem dM_minimum_2 : decode cM_minimum 2 = .ok (.invokevirtual 107, 3) := by decide +kernel
theorem dM_minimum_5 : decode cM_minimum 5 = .ok (.iload_n 1, 1) := by decide +kernel
theorem dM_minimum_6 : decode cM_minimum 6 = .ok (.iconst 1, 1) := by decide +kernel
theorem dM_minimum_7 : decode cM_minimum 7 = .ok (.if_icmp .lt 11, 3) := by decide +kernel
theorem dM_minimum_10 : decode cM_minimum 10 = .ok (.iload_n 1, 1) := by decide +kernel
theorem dM_minimum_11 : decode cM_minimum 11 = .ok (.aload_n 0, 1) := by decide +kernel
theorem dM_minimum_12 : decode cM_minimum 12 = .ok (.getfield 74, 3) := by decide +kernel
theorem dM_minimum_15 : decode cM_minimum 15 = .ok (.if_icmp .le 5, 3) := by decide +kernel
theorem dM_minimum_18 : decode cM_minimum 18 = .ok (.iconst (-1), 1) := by decide +kernel
theorem dM_minimum_19 : decode cM_minimum 19 = .ok (.ireturn, 1) := by decide +kernel
theorem dM_minimum_20 : decode cM_minimum 20 = .ok (.aload_n 0, 1) := by decide +kernel
theorem dM_minimum_21 : decode cM_minimum 21 = .ok (.invokevirtual 207, 3) := by decide +kernel
theorem dM_minimum_24 : decode cM_minimum 24 = .ok (.aload_n 0, 1) := by decide +kernel
theorem dM_minimum_25 : decode cM_minimum 25 = .ok (.getfield 47, 3) := by decide +kernel
theorem dM_minimum_28 : decode cM_minimum 28 = .ok (.iload_n 1, 1) := by decide +kernel
theorem dM_minimum_29 : decode cM_minimum 29 = .ok (.iaload, 1) := by decide +kernel
theorem dM_minimum_30 : decode cM_minimum 30 = .ok (.ireturn, 1) := by decide +kernel
theorem cb_M_look_M_minimum : CB yM_look cM_look 4 none rm_M_look rm_M_minimum 1 := ⟨wd598, wd8, by decide +kernel, rfl, rfl, by decide⟩
theorem cb_M_measure_M_minimum : CB yM_measure cM_measure 6 none rm_M_measure rm_M_minimum 0 := ⟨wd742, wd8, by decide +kernel, rfl, rfl, by decide⟩
noncomputable def M_minimum (F : Nat) (x_many : Int32) (x_generator : Nat → Int32) (x_known : Int32) (x_without : Int32) (x_rows : Int32) (x_row : Nat → Int64) (x_pivot : Nat → Int32) (x_fresh : Nat → Int64) (x_multiple : Nat → Int64) (x_last : Nat → Int64) (x_made : Nat → Int64) (x_settled : Nat → Int64) (x_point : Nat → Int64) (x_limit : Int64) (x_mode : Int32) (x_counted : Int32) (x_held : Int32) (x_first : Nat → Int64) (x_squares : Nat → Int64) (x_wanted : Int32) (x_spanned : Int32) (x_span : Nat → Int64) (x_minima : Nat → Int32) (x_measured : Int32) (x_found : Nat → Int64) (x_any : Int32) (v1 : Int32) : Option (Int32 × Int32 × Int32 × Int32 × (Nat → Int64) × (Nat → Int32) × (Nat → Int64) × (Nat → Int64) × (Nat → Int64) × (Nat → Int64) × (Nat → Int64) × (Nat → Int64) × Int64 × Int32 × Int32 × Int32 × (Nat → Int64) × (Nat → Int64) × Int32 × Int32 × (Nat → Int64) × (Nat → Int32) × Int32 × (Nat → Int64) × Int32) := (M_look F x_many x_generator x_known x_without x_rows x_row x_pivot x_fresh (-1 : Int32)).bind (fun r2 => if v1 < (1 : Int32) then some ((-1 : Int32), r2.1, r2.2.1, r2.2.2.1, r2.2.2.2.1, r2.2.2.2.2.1, r2.2.2.2.2.2, x_multiple, x_last, x_made, x_settled, x_point, x_limit, x_mode, x_counted, x_held, x_first, x_squares, x_wanted, x_spanned, x_span, x_minima, x_measured, x_found, x_any) else if v1 ≤ r2.2.2.1 then (M_measure F x_many x_generator r2.1 r2.2.1 r2.2.2.1 r2.2.2.2.1 r2.2.2.2.2.1 r2.2.2.2.2.2 x_multiple x_last x_made x_settled x_point x_limit x_mode x_counted x_held x_first x_squares x_wanted x_spanned x_span x_minima x_measured x_found x_any ).bind (fun r21 => gd (vp_in v1 5) (some ((r21.2.2.2.2.2.2.2.2.2.2.2.2.2.2.2.2.2.2.2.2.1 v1.toNatClampNeg), r21.1, r21.2.1, r21.2.2.1, r21.2.2.2.1, r21.2.2.2.2.1, r21.2.2.2.2.2.1, r21.2.2.2.2.2.2.1, r21.2.2.2.2.2.2.2.1, r21.2.2.2.2.2.2.2.2.1, r21.2.2.2.2.2.2.2.2.2.1, r21.2.2.2.2.2.2.2.2.2.2.1, r21.2.2.2.2.2.2.2.2.2.2.2.1, r21.2.2.2.2.2.2.2.2.2.2.2.2.1, r21.2.2.2.2.2.2.2.2.2.2.2.2.2.1, r21.2.2.2.2.2.2.2.2.2.2.2.2.2.2.1, r21.2.2.2.2.2.2.2.2.2.2.2.2.2.2.2.1, r21.2.2.2.2.2.2.2.2.2.2.2.2.2.2.2.2.1, r21.2.2.2.2.2.2.2.2.2.2.2.2.2.2.2.2.2.1, r21.2.2.2.2.2.2.2.2.2.2.2.2.2.2.2.2.2.2.1, r21.2.2.2.2.2.2.2.2.2.2.2.2.2.2.2.2.2.2.2.1, r21.2.2.2.2.2.2.2.2.2.2.2.2.2.2.2.2.2.2.2.2.1, r21.2.2.2.2.2.2.2.2.2.2.2.2.2.2.2.2.2.2.2.2.2.1, r21.2.2.2.2.2.2.2.2.2.2.2.2.2.2.2.2.2.2.2.2.2.2.1, r21.2.2.2.2.2.2.2.2.2.2.2.2.2.2.2.2.2.2.2.2.2.2.2))) else some ((-1 : Int32), r2.1, r2.2.1, r2.2.2.1, r2.2.2.2.1, r2.2.2.2.2.1, r2.2.2.2.2.2, x_multiple, x_last, x_made, x_settled, x_point, x_limit, x_mode, x_counted, x_held, x_first, x_squares, x_wanted, x_spanned, x_span, x_minima, x_measured, x_found, x_any))
set_option maxHeartbeats 8000000 in
set_option maxRecDepth 100000 in
theorem met_M_minimum (κ : ctx) (X : Nat → va_E) (F : Nat) {x_many : Int32} {x_generator : Nat → Int32} {x_known : Int32} {x_without : Int32} {x_rows : Int32} {x_row : Nat → Int64} {x_pivot : Nat → Int32} {x_fresh : Nat → Int64} {x_multiple : Nat → Int64} {x_last : Nat → Int64} {x_made : Nat → Int64} {x_settled : Nat → Int64} {x_point : Nat → Int64} {x_limit : Int64} {x_mode : Int32} {x_counted : Int32} {x_listed : Int32} {x_held : Int32} {x_first : Nat → Int64} {x_squares : Nat → Int64} {x_wanted : Int32} {x_spanned : Int32} {x_span : Nat → Int64} {x_minima : Nat → Int32} {x_measured : Int32} {x_found : Nat → Int64} {x_any : Int32} (v1 : Int32) {out : Int32 × Int32 × Int32 × Int32 × (Nat → Int64) × (Nat → Int32) × (Nat → Int64) × (Nat → Int64) × (Nat → Int64) × (Nat → Int64) × (Nat → Int64) × (Nat → Int64) × Int64 × Int32 × Int32 × Int32 × (Nat → Int64) × (Nat → Int64) × Int32 × Int32 × (Nat → Int64) × (Nat → Int32) × Int32 × (Nat → Int64) × Int32} (h : M_minimum F x_many x_generator x_known x_without x_rows x_row x_pivot x_fresh x_multiple x_last x_made x_settled x_point x_limit x_mode x_counted x_held x_first x_squares x_wanted x_spanned x_span x_minima x_measured x_found x_any v1 = some out) : Mt yM_minimum cM_minimum 2 (some .int) rm_M_minimum κ [.ref (κ.1 0), .int v1] (LM κ (x_many, x_generator, x_known, x_without, x_rows, x_row, x_pivot, x_fresh, x_multiple, x_last, x_made, x_settled, x_point, x_limit, x_mode, x_counted, x_listed, x_held, x_first, x_squares, x_wanted, x_spanned, x_span, x_minima, x_measured, x_found, x_any) X) (some (.int out.1)) (LM κ (x_many, x_generator, out.2.1, out.2.2.1, out.2.2.2.1, out.2.2.2.2.1, out.2.2.2.2.2.1, out.2.2.2.2.2.2.1, out.2.2.2.2.2.2.2.1, out.2.2.2.2.2.2.2.2.1, out.2.2.2.2.2.2.2.2.2.1, out.2.2.2.2.2.2.2.2.2.2.1, out.2.2.2.2.2.2.2.2.2.2.2.1, out.2.2.2.2.2.2.2.2.2.2.2.2.1, out.2.2.2.2.2.2.2.2.2.2.2.2.2.1, out.2.2.2.2.2.2.2.2.2.2.2.2.2.2.1, x_listed, out.2.2.2.2.2.2.2.2.2.2.2.2.2.2.2.1, out.2.2.2.2.2.2.2.2.2.2.2.2.2.2.2.2.1, out.2.2.2.2.2.2.2.2.2.2.2.2.2.2.2.2.2.1, out.2.2.2.2.2.2.2.2.2.2.2.2.2.2.2.2.2.2.1, out.2.2.2.2.2.2.2.2.2.2.2.2.2.2.2.2.2.2.2.1, out.2.2.2.2.2.2.2.2.2.2.2.2.2.2.2.2.2.2.2.2.1, out.2.2.2.2.2.2.2.2.2.2.2.2.2.2.2.2.2.2.2.2.2.1, out.2.2.2.2.2.2.2.2.2.2.2.2.2.2.2.2.2.2.2.2.2.2.1, out.2.2.2.2.2.2.2.2.2.2.2.2.2.2.2.2.2.2.2.2.2.2.2.1, out.2.2.2.2.2.2.2.2.2.2.2.2.2.2.2.2.2.2.2.2.2.2.2.2) X) := by
  refine Mt.of (by decide) (Nat.le_of_ble_eq_true rfl) ?_
  intro g G Fh
  unfold M_minimum at h
  show J g κ 2 0 [(0, .ref (κ.1 0)), (1, .int v1)] [] (LM κ (x_many, x_generator, x_known, x_without, x_rows, x_row, x_pivot, x_fresh, x_multiple, x_last, x_made, x_settled, x_point, x_limit, x_mode, x_counted, x_listed, x_held, x_first, x_squares, x_wanted, x_spanned, x_span, x_minima, x_measured, x_found, x_any) X)
  refine w_aload_n (pc := 0) (q := 0) G dM_minimum_0 rfl rfl ?_
  refine w_iconst (pc := 1) (v := (-1 : Int32)) G dM_minimum_1 (by decide) ?_
  obtain ⟨r2, e2, h⟩ := bd h
  refine w_callV (pc := 2) (av := [.int (-1 : Int32)]) (rest := []) (v := none) (L' := (LM κ (x_many, x_generator, r2.1, r2.2.1, r2.2.2.1, r2.2.2.2.1, r2.2.2.2.2.1, r2.2.2.2.2.2, x_multiple, x_last, x_made, x_settled, x_point, x_limit, x_mode, x_counted, x_listed, x_held, x_first, x_squares, x_wanted, x_spanned, x_span, x_minima, x_measured, x_found, x_any) X)) (T := TM) (fs := fl_M κ (x_many, x_generator, x_known, x_without, x_rows, x_row, x_pivot, x_fresh, x_multiple, x_last, x_made, x_settled, x_point, x_limit, x_mode, x_counted, x_listed, x_held, x_first, x_squares, x_wanted, x_spanned, x_span, x_minima, x_measured, x_found, x_any)) G 0 0 27 (by decide) lb_M rfl cb_M_look_M_minimum wd597 ws20 wd595 (met_M_look κ X F (-1 : Int32)  e2) rfl rfl rfl (Nat.le_of_ble_eq_true rfl) dM_minimum_2 ?_
  refine w_iload_n (pc := 5) (q := 1) G dM_minimum_5 rfl rfl ?_
  refine w_iconst (pc := 6) (v := (1 : Int32)) G dM_minimum_6 (by decide) ?_
  refine w_icmp_lt (pc := 7) (tgt := 18) G dM_minimum_7 (by decide) (fun c7 => ?_) (fun c7 => ?_)
  · have h := if_t c7 h
    refine w_iconst (pc := 18) (v := (-1 : Int32)) G dM_minimum_18 (by decide) ?_
    obtain rfl := Option.some.inj h
    exact w_iret (pc := 19) G dM_minimum_19 Fh
  · have h := if_f c7 h
    refine w_iload_n (pc := 10) (q := 1) G dM_minimum_10 rfl rfl ?_
    refine w_aload_n (pc := 11) (q := 0) G dM_minimum_11 rfl rfl ?_
    refine w_get (pc := 12) (v := .int r2.2.2.1) (fs := fl_M κ (x_many, x_generator, r2.1, r2.2.1, r2.2.2.1, r2.2.2.2.1, r2.2.2.2.2.1, r2.2.2.2.2.2, x_multiple, x_last, x_made, x_settled, x_point, x_limit, x_mode, x_counted, x_listed, x_held, x_first, x_squares, x_wanted, x_spanned, x_span, x_minima, x_measured, x_found, x_any)) G 0 (by decide) lb_M rfl wsM_ok 4 (by decide) wd494 gf_M_4 dM_minimum_12 ?_
    refine w_icmp_le (pc := 15) (tgt := 20) G dM_minimum_15 (by decide) (fun c15 => ?_) (fun c15 => ?_)
    · have h := if_t c15 h
      refine w_aload_n (pc := 20) (q := 0) G dM_minimum_20 rfl rfl ?_
      obtain ⟨r21, e21, h⟩ := bd h
      refine w_callV (pc := 21) (av := []) (rest := []) (v := none) (L' := (LM κ (x_many, x_generator, r21.1, r21.2.1, r21.2.2.1, r21.2.2.2.1, r21.2.2.2.2.1, r21.2.2.2.2.2.1, r21.2.2.2.2.2.2.1, r21.2.2.2.2.2.2.2.1, r21.2.2.2.2.2.2.2.2.1, r21.2.2.2.2.2.2.2.2.2.1, r21.2.2.2.2.2.2.2.2.2.2.1, r21.2.2.2.2.2.2.2.2.2.2.2.1, r21.2.2.2.2.2.2.2.2.2.2.2.2.1, r21.2.2.2.2.2.2.2.2.2.2.2.2.2.1, x_listed, r21.2.2.2.2.2.2.2.2.2.2.2.2.2.2.1, r21.2.2.2.2.2.2.2.2.2.2.2.2.2.2.2.1, r21.2.2.2.2.2.2.2.2.2.2.2.2.2.2.2.2.1, r21.2.2.2.2.2.2.2.2.2.2.2.2.2.2.2.2.2.1, r21.2.2.2.2.2.2.2.2.2.2.2.2.2.2.2.2.2.2.1, r21.2.2.2.2.2.2.2.2.2.2.2.2.2.2.2.2.2.2.2.1, r21.2.2.2.2.2.2.2.2.2.2.2.2.2.2.2.2.2.2.2.2.1, r21.2.2.2.2.2.2.2.2.2.2.2.2.2.2.2.2.2.2.2.2.2.1, r21.2.2.2.2.2.2.2.2.2.2.2.2.2.2.2.2.2.2.2.2.2.2.1, r21.2.2.2.2.2.2.2.2.2.2.2.2.2.2.2.2.2.2.2.2.2.2.2) X)) (T := TM) (fs := fl_M κ (x_many, x_generator, r2.1, r2.2.1, r2.2.2.1, r2.2.2.2.1, r2.2.2.2.2.1, r2.2.2.2.2.2, x_multiple, x_last, x_made, x_settled, x_point, x_limit, x_mode, x_counted, x_listed, x_held, x_first, x_squares, x_wanted, x_spanned, x_span, x_minima, x_measured, x_found, x_any)) G 0 0 27 (by decide) lb_M rfl cb_M_measure_M_minimum wd741 ws46 wd739 (met_M_measure κ X F   e21) rfl rfl rfl (Nat.le_of_ble_eq_true rfl) dM_minimum_21 ?_
      refine w_aload_n (pc := 24) (q := 0) G dM_minimum_24 rfl rfl ?_
      refine w_get (pc := 25) (v := .ref (κ.1 13)) (fs := fl_M κ (x_many, x_generator, r21.1, r21.2.1, r21.2.2.1, r21.2.2.2.1, r21.2.2.2.2.1, r21.2.2.2.2.2.1, r21.2.2.2.2.2.2.1, r21.2.2.2.2.2.2.2.1, r21.2.2.2.2.2.2.2.2.1, r21.2.2.2.2.2.2.2.2.2.1, r21.2.2.2.2.2.2.2.2.2.2.1, r21.2.2.2.2.2.2.2.2.2.2.2.1, r21.2.2.2.2.2.2.2.2.2.2.2.2.1, r21.2.2.2.2.2.2.2.2.2.2.2.2.2.1, x_listed, r21.2.2.2.2.2.2.2.2.2.2.2.2.2.2.1, r21.2.2.2.2.2.2.2.2.2.2.2.2.2.2.2.1, r21.2.2.2.2.2.2.2.2.2.2.2.2.2.2.2.2.1, r21.2.2.2.2.2.2.2.2.2.2.2.2.2.2.2.2.2.1, r21.2.2.2.2.2.2.2.2.2.2.2.2.2.2.2.2.2.2.1, r21.2.2.2.2.2.2.2.2.2.2.2.2.2.2.2.2.2.2.2.1, r21.2.2.2.2.2.2.2.2.2.2.2.2.2.2.2.2.2.2.2.2.1, r21.2.2.2.2.2.2.2.2.2.2.2.2.2.2.2.2.2.2.2.2.2.1, r21.2.2.2.2.2.2.2.2.2.2.2.2.2.2.2.2.2.2.2.2.2.2.1, r21.2.2.2.2.2.2.2.2.2.2.2.2.2.2.2.2.2.2.2.2.2.2.2)) G 0 (by decide) lb_M rfl wsM_ok 23 (by decide) wd513 gf_M_23 dM_minimum_25 ?_
      refine w_iload_n (pc := 28) (q := 1) G dM_minimum_28 rfl rfl ?_
      obtain ⟨i29, h⟩ := gd_some h
      refine w_iald (pc := 29) (n := 5) (f := r21.2.2.2.2.2.2.2.2.2.2.2.2.2.2.2.2.2.2.2.2.1) G 13 (by decide) lk_minima i29 dM_minimum_29 ?_
      obtain rfl := Option.some.inj h
      exact w_iret (pc := 30) G dM_minimum_30 Fh
    · have h := if_f c15 h
      refine w_iconst (pc := 18) (v := (-1 : Int32)) G dM_minimum_18 (by decide) ?_
      obtain rfl := Option.some.inj h
      exact w_iret (pc := 19) G dM_minimum_19 Fh
def rm_M_seek : Room := { frames := 7, cells := 0, slots := 0, locals := 179 }
theorem dM_seek_0 : decode cM_seek 0 = .ok (.aload_n 0, 1) := by decide +kernel
theorem dM_seek_1 : decode cM_seek 1 = .ok (.iconst (-1), 1) := by decide +kernel
theorem dM_seek_2 : decode cM_seek 2 = .ok (.invokevirtual 107, 3) := by decide +kernel
theorem dM_seek_5 : decode cM_seek 5 = .ok (.aload_n 0, 1) := by decide +kernel
theorem dM_seek_6 : decode cM_seek 6 = .ok (.getfield 35, 3) := by decide +kernel
theorem dM_seek_9 : decode cM_seek 9 = .ok (.iconst 0, 1) := by decide +kernel
theorem dM_seek_10 : decode cM_seek 10 = .ok (.iload_n 1, 1) := by decide +kernel
theorem dM_seek_11 : decode cM_seek 11 = .ok (.i2l, 1) := by decide +kernel
theorem dM_seek_12 : decode cM_seek 12 = .ok (.lastore, 1) := by decide +kernel
theorem dM_seek_13 : decode cM_seek 13 = .ok (.aload_n 0, 1) := by decide +kernel
theorem dM_seek_14 : decode cM_seek 14 = .ok (.getfield 35, 3) := by decide +kernel
theorem dM_seek_17 : decode cM_seek 17 = .ok (.iconst 1, 1) := by decide +kernel
theorem dM_seek_18 : decode cM_seek 18 = .ok (.iload_n 2, 1) := by decide +kernel
theorem dM_seek_19 : decode cM_seek 19 = .ok (.i2l, 1) := by decide +kernel
theorem dM_seek_20 : decode cM_seek 20 = .ok (.lastore, 1) := by decide +kernel
theorem dM_seek_21 : decode cM_seek 21 = .ok (.aload_n 0, 1) := by decide +kernel
theorem dM_seek_22 : decode cM_seek 22 = .ok (.getfield 35, 3) := by decide +kernel
theorem dM_seek_25 : decode cM_seek 25 = .ok (.iconst 2, 1) := by decide +kernel
theorem dM_seek_26 : decode cM_seek 26 = .ok (.iload_n 3, 1) := by decide +kernel
theorem dM_seek_27 : decode cM_seek 27 = .ok (.i2l, 1) := by decide +kernel
theorem dM_seek_28 : decode cM_seek 28 = .ok (.lastore, 1) := by decide +kernel
theorem dM_seek_29 : decode cM_seek 29 = .ok (.aload_n 0, 1) := by decide +kernel
theorem dM_seek_30 : decode cM_seek 30 = .ok (.getfield 35, 3) := by decide +kernel
theorem dM_seek_33 : decode cM_seek 33 = .ok (.iconst 3, 1) := by decide +kernel
theorem dM_seek_34 : decode cM_seek 34 = .ok (.iload 4, 2) := by decide +kernel
theorem dM_seek_36 : decode cM_seek 36 = .ok (.i2l, 1) := by decide +kernel
theorem dM_seek_37 : decode cM_seek 37 = .ok (.lastore, 1) := by decide +kernel
theorem dM_seek_38 : decode cM_seek 38 = .ok (.aload_n 0, 1) := by decide +kernel
theorem dM_seek_39 : decode cM_seek 39 = .ok (.iconst 0, 1) := by decide +kernel
theorem dM_seek_40 : decode cM_seek 40 = .ok (.putfield 210, 3) := by decide +kernel
theorem dM_seek_43 : decode cM_seek 43 = .ok (.lconst 1, 1) := by decide +kernel
theorem dM_seek_44 : decode cM_seek 44 = .ok (.lstore 5, 2) := by decide +kernel
theorem dM_seek_46 : decode cM_seek 46 = .ok (.aload_n 0, 1) := by decide +kernel
theorem dM_seek_47 : decode cM_seek 47 = .ok (.getfield 210, 3) := by decide +kernel
theorem dM_seek_50 : decode cM_seek 50 = .ok (.ifCond .ne 21, 3) := by decide +kernel
theorem dM_seek_53 : decode cM_seek 53 = .ok (.aload_n 0, 1) := by decide +kernel
theorem dM_seek_54 : decode cM_seek 54 = .ok (.iconst 3, 1) := by decide +kernel
theorem dM_seek_55 : decode cM_seek 55 = .ok (.lload 5, 2) := by decide +kernel
theorem dM_seek_57 : decode cM_seek 57 = .ok (.invokevirtual 184, 3) := by decide +kernel
theorem dM_seek_60 : decode cM_seek 60 = .ok (.ldc2_w 130, 3) := by decide +kernel
theorem dM_seek_63 : decode cM_seek 63 = .ok (.lload 5, 2) := by decide +kernel
theorem dM_seek_65 : decode cM_seek 65 = .ok (.lmul, 1) := by decide +kernel
theorem dM_seek_66 : decode cM_seek 66 = .ok (.lstore 5, 2) := by decide +kernel
theorem dM_seek_68 : decode cM_seek 68 = .ok (.goto (-22), 3) := by decide +kernel
theorem dM_seek_71 : decode cM_seek 71 = .ok (.return_, 1) := by decide +kernel
theorem cb_M_look_M_seek : CB yM_look cM_look 4 none rm_M_look rm_M_seek 1 := ⟨wd598, wd8, by decide +kernel, rfl, rfl, by decide⟩
theorem cb_M_walk_M_seek : CB yM_walk cM_walk 5 none rm_M_walk rm_M_seek 2 := ⟨wd673, wd8, by decide +kernel, rfl, rfl, by decide⟩
noncomputable def lM_seek_46 (F : Nat) (x_rows : Int32) (x_row : Nat → Int64) (x_pivot : Nat → Int32) (x_point : Nat → Int64) (x_wanted : Int32) : Nat → Int64 → (Nat → Int64) → (Nat → Int64) → (Nat → Int64) → (Nat → Int64) → (Nat → Int64) → Int64 → Int32 → Int32 → Int32 → (Nat → Int64) → (Nat → Int64) → Int32 → (Nat → Int64) → (Nat → Int64) → Int32 → Option ((Nat → Int64) × (Nat → Int64) × (Nat → Int64) × (Nat → Int64) × (Nat → Int64) × Int64 × Int32 × Int32 × Int32 × (Nat → Int64) × (Nat → Int64) × Int32 × (Nat → Int64) × (Nat → Int64) × Int32)
  | 0, _, _, _, _, _, _, _, _, _, _, _, _, _, _, _, _ => none
  | n + 1, v5, x_fresh, x_multiple, x_last, x_made, x_settled, x_limit, x_mode, x_counted, x_held, x_first, x_squares, x_spanned, x_span, x_found, x_any => if x_any = 0 then (M_walk F x_rows x_row x_pivot x_fresh x_multiple x_last x_made x_settled x_point x_limit x_mode x_counted x_held x_first x_squares x_wanted x_spanned x_span x_found x_any (3 : Int32) v5).bind (fun r57 => lM_seek_46 F x_rows x_row x_pivot x_point x_wanted n ((2 : Int64) * v5) r57.1 r57.2.1 r57.2.2.1 r57.2.2.2.1 r57.2.2.2.2.1 r57.2.2.2.2.2.1 r57.2.2.2.2.2.2.1 r57.2.2.2.2.2.2.2.1 r57.2.2.2.2.2.2.2.2.1 r57.2.2.2.2.2.2.2.2.2.1 r57.2.2.2.2.2.2.2.2.2.2.1 r57.2.2.2.2.2.2.2.2.2.2.2.1 r57.2.2.2.2.2.2.2.2.2.2.2.2.1 r57.2.2.2.2.2.2.2.2.2.2.2.2.2.1 r57.2.2.2.2.2.2.2.2.2.2.2.2.2.2) else some (x_fresh, x_multiple, x_last, x_made, x_settled, x_limit, x_mode, x_counted, x_held, x_first, x_squares, x_spanned, x_span, x_found, x_any)
set_option maxHeartbeats 8000000 in
set_option maxRecDepth 100000 in
theorem lM_seek_46_ok {g : Gm} {κ : ctx} (G : OK g κ RM cM_seek 7 none rm_M_seek) (X : Nat → va_E) (F : Nat) {x_many : Int32} {x_generator : Nat → Int32} {x_known : Int32} {x_without : Int32} {x_rows : Int32} {x_row : Nat → Int64} {x_pivot : Nat → Int32} {x_point : Nat → Int64} {x_listed : Int32} {x_wanted : Int32} {x_minima : Nat → Int32} {x_measured : Int32} : ∀ (n : Nat) (v5 : Int64) (x_fresh : Nat → Int64) (x_multiple : Nat → Int64) (x_last : Nat → Int64) (x_made : Nat → Int64) (x_settled : Nat → Int64) (x_limit : Int64) (x_mode : Int32) (x_counted : Int32) (x_held : Int32) (x_first : Nat → Int64) (x_squares : Nat → Int64) (x_spanned : Int32) (x_span : Nat → Int64) (x_found : Nat → Int64) (x_any : Int32) (out : (Nat → Int64) × (Nat → Int64) × (Nat → Int64) × (Nat → Int64) × (Nat → Int64) × Int64 × Int32 × Int32 × Int32 × (Nat → Int64) × (Nat → Int64) × Int32 × (Nat → Int64) × (Nat → Int64) × Int32), lM_seek_46 F x_rows x_row x_pivot x_point x_wanted  n v5 x_fresh x_multiple x_last x_made x_settled x_limit x_mode x_counted x_held x_first x_squares x_spanned x_span x_found x_any = some out → (J g κ 7 71 [] [] (LM κ (x_many, x_generator, x_known, x_without, x_rows, x_row, x_pivot, out.1, out.2.1, out.2.2.1, out.2.2.2.1, out.2.2.2.2.1, x_point, out.2.2.2.2.2.1, out.2.2.2.2.2.2.1, out.2.2.2.2.2.2.2.1, x_listed, out.2.2.2.2.2.2.2.2.1, out.2.2.2.2.2.2.2.2.2.1, out.2.2.2.2.2.2.2.2.2.2.1, x_wanted, out.2.2.2.2.2.2.2.2.2.2.2.1, out.2.2.2.2.2.2.2.2.2.2.2.2.1, x_minima, x_measured, out.2.2.2.2.2.2.2.2.2.2.2.2.2.1, out.2.2.2.2.2.2.2.2.2.2.2.2.2.2) X)) → J g κ 7 46 [(0, .ref (κ.1 0)), (5, .long v5)] [] (LM κ (x_many, x_generator, x_known, x_without, x_rows, x_row, x_pivot, x_fresh, x_multiple, x_last, x_made, x_settled, x_point, x_limit, x_mode, x_counted, x_listed, x_held, x_first, x_squares, x_wanted, x_spanned, x_span, x_minima, x_measured, x_found, x_any) X) := by
  intro n
  induction n with
  | zero =>
    intro v5 x_fresh x_multiple x_last x_made x_settled x_limit x_mode x_counted x_held x_first x_squares x_spanned x_span x_found x_any
    intro out h
    rw [lM_seek_46] at h
    cases h
  | succ n ih =>
    intro v5 x_fresh x_multiple x_last x_made x_settled x_limit x_mode x_counted x_held x_first x_squares x_spanned x_span x_found x_any out h K
    rw [lM_seek_46] at h
    refine w_aload_n (pc := 46) (q := 0) G dM_seek_46 rfl rfl ?_
    refine w_get (pc := 47) (v := .int x_any) (fs := fl_M κ (x_many, x_generator, x_known, x_without, x_rows, x_row, x_pivot, x_fresh, x_multiple, x_last, x_made, x_settled, x_point, x_limit, x_mode, x_counted, x_listed, x_held, x_first, x_squares, x_wanted, x_spanned, x_span, x_minima, x_measured, x_found, x_any)) G 0 (by decide) lb_M rfl wsM_ok 26 (by decide) wd516 gf_M_26 dM_seek_47 ?_
    refine w_if_ne (pc := 50) (tgt := 71) G dM_seek_50 (by decide) (fun c50 => ?_) (fun c50 => ?_)
    · have h := if_t c50 h
      refine w_aload_n (pc := 53) (q := 0) G dM_seek_53 rfl rfl ?_
      refine w_iconst (pc := 54) (v := (3 : Int32)) G dM_seek_54 (by decide) ?_
      refine w_lload (pc := 55) (q := 1) G dM_seek_55 rfl ?_
      obtain ⟨r57, e57, h⟩ := bd h
      refine w_callV (pc := 57) (av := [.int (3 : Int32), .long v5]) (rest := []) (v := none) (L' := (LM κ (x_many, x_generator, x_known, x_without, x_rows, x_row, x_pivot, r57.1, r57.2.1, r57.2.2.1, r57.2.2.2.1, r57.2.2.2.2.1, x_point, r57.2.2.2.2.2.1, r57.2.2.2.2.2.2.1, r57.2.2.2.2.2.2.2.1, x_listed, r57.2.2.2.2.2.2.2.2.1, r57.2.2.2.2.2.2.2.2.2.1, r57.2.2.2.2.2.2.2.2.2.2.1, x_wanted, r57.2.2.2.2.2.2.2.2.2.2.2.1, r57.2.2.2.2.2.2.2.2.2.2.2.2.1, x_minima, x_measured, r57.2.2.2.2.2.2.2.2.2.2.2.2.2.1, r57.2.2.2.2.2.2.2.2.2.2.2.2.2.2) X)) (T := TM) (fs := fl_M κ (x_many, x_generator, x_known, x_without, x_rows, x_row, x_pivot, x_fresh, x_multiple, x_last, x_made, x_settled, x_point, x_limit, x_mode, x_counted, x_listed, x_held, x_first, x_squares, x_wanted, x_spanned, x_span, x_minima, x_measured, x_found, x_any)) G 0 0 27 (by decide) lb_M rfl cb_M_walk_M_seek wd672 ws32 wd670 (met_M_walk κ X F (3 : Int32) v5  e57) rfl rfl rfl (Nat.le_of_ble_eq_true rfl) dM_seek_57 ?_
      refine w_ldc2 (pc := 60) (v := (2 : Int64)) G wd710 dM_seek_60 ?_
      refine w_lload (pc := 63) (q := 1) G dM_seek_63 rfl ?_
      refine w_lmul (pc := 65) G dM_seek_65 ?_
      refine w_lstore (pc := 66) (lv' := [(5, .long ((2 : Int64) * v5)), (0, .ref (κ.1 0))]) G dM_seek_66 (by decide) rfl ?_
      refine w_goto (pc := 68) (tgt := 46) G dM_seek_68 (by decide) ?_
      refine w_sub (lv' := [(0, .ref (κ.1 0)), (5, .long ((2 : Int64) * v5))]) [1, 0] rfl ?_
      exact ih ((2 : Int64) * v5) r57.1 r57.2.1 r57.2.2.1 r57.2.2.2.1 r57.2.2.2.2.1 r57.2.2.2.2.2.1 r57.2.2.2.2.2.2.1 r57.2.2.2.2.2.2.2.1 r57.2.2.2.2.2.2.2.2.1 r57.2.2.2.2.2.2.2.2.2.1 r57.2.2.2.2.2.2.2.2.2.2.1 r57.2.2.2.2.2.2.2.2.2.2.2.1 r57.2.2.2.2.2.2.2.2.2.2.2.2.1 r57.2.2.2.2.2.2.2.2.2.2.2.2.2.1 r57.2.2.2.2.2.2.2.2.2.2.2.2.2.2 out h K
    · have h := if_f c50 h
      obtain rfl := Option.some.inj h
      refine w_sub (lv' := []) [] rfl ?_
      exact K
noncomputable def M_seek (F : Nat) (x_many : Int32) (x_generator : Nat → Int32) (x_known : Int32) (x_without : Int32) (x_rows : Int32) (x_row : Nat → Int64) (x_pivot : Nat → Int32) (x_fresh : Nat → Int64) (x_multiple : Nat → Int64) (x_last : Nat → Int64) (x_made : Nat → Int64) (x_settled : Nat → Int64) (x_point : Nat → Int64) (x_limit : Int64) (x_mode : Int32) (x_counted : Int32) (x_held : Int32) (x_first : Nat → Int64) (x_squares : Nat → Int64) (x_wanted : Int32) (x_spanned : Int32) (x_span : Nat → Int64) (x_found : Nat → Int64) (x_any : Int32) (v1 : Int32) (v2 : Int32) (v3 : Int32) (v4 : Int32) : Option (Int32 × Int32 × Int32 × (Nat → Int64) × (Nat → Int32) × (Nat → Int64) × (Nat → Int64) × (Nat → Int64) × (Nat → Int64) × (Nat → Int64) × (Nat → Int64) × Int64 × Int32 × Int32 × Int32 × (Nat → Int64) × (Nat → Int64) × Int32 × (Nat → Int64) × (Nat → Int64) × Int32) := (M_look F x_many x_generator x_known x_without x_rows x_row x_pivot x_fresh (-1 : Int32)).bind (fun r2 => gd (vp_in (0 : Int32) 4) (gd (vp_in (1 : Int32) 4) (gd (vp_in (2 : Int32) 4) (gd (vp_in (3 : Int32) 4) ((lM_seek_46 F r2.2.2.1 r2.2.2.2.1 r2.2.2.2.2.1 (vp_updL (vp_updL (vp_updL (vp_updL x_point (0 : Int32).toNatClampNeg v1.toInt64) (1 : Int32).toNatClampNeg v2.toInt64) (2 : Int32).toNatClampNeg v3.toInt64) (3 : Int32).toNatClampNeg v4.toInt64) x_wanted F (1 : Int64) r2.2.2.2.2.2 x_multiple x_last x_made x_settled x_limit x_mode x_counted x_held x_first x_squares x_spanned x_span x_found (0 : Int32)).bind (fun o46_7 => some (r2.1, r2.2.1, r2.2.2.1, r2.2.2.2.1, r2.2.2.2.2.1, o46_7.1, o46_7.2.1, o46_7.2.2.1, o46_7.2.2.2.1, o46_7.2.2.2.2.1, vp_updL (vp_updL (vp_updL (vp_updL x_point (0 : Int32).toNatClampNeg v1.toInt64) (1 : Int32).toNatClampNeg v2.toInt64) (2 : Int32).toNatClampNeg v3.toInt64) (3 : Int32).toNatClampNeg v4.toInt64, o46_7.2.2.2.2.2.1, o46_7.2.2.2.2.2.2.1, o46_7.2.2.2.2.2.2.2.1, o46_7.2.2.2.2.2.2.2.2.1, o46_7.2.2.2.2.2.2.2.2.2.1, o46_7.2.2.2.2.2.2.2.2.2.2.1, o46_7.2.2.2.2.2.2.2.2.2.2.2.1, o46_7.2.2.2.2.2.2.2.2.2.2.2.2.1, o46_7.2.2.2.2.2.2.2.2.2.2.2.2.2.1, o46_7.2.2.2.2.2.2.2.2.2.2.2.2.2.2)))))))
set_option maxHeartbeats 8000000 in
set_option maxRecDepth 100000 in
theorem met_M_seek (κ : ctx) (X : Nat → va_E) (F : Nat) {x_many : Int32} {x_generator : Nat → Int32} {x_known : Int32} {x_without : Int32} {x_rows : Int32} {x_row : Nat → Int64} {x_pivot : Nat → Int32} {x_fresh : Nat → Int64} {x_multiple : Nat → Int64} {x_last : Nat → Int64} {x_made : Nat → Int64} {x_settled : Nat → Int64} {x_point : Nat → Int64} {x_limit : Int64} {x_mode : Int32} {x_counted : Int32} {x_listed : Int32} {x_held : Int32} {x_first : Nat → Int64} {x_squares : Nat → Int64} {x_wanted : Int32} {x_spanned : Int32} {x_span : Nat → Int64} {x_minima : Nat → Int32} {x_measured : Int32} {x_found : Nat → Int64} {x_any : Int32} (v1 : Int32) (v2 : Int32) (v3 : Int32) (v4 : Int32) {out : Int32 × Int32 × Int32 × (Nat → Int64) × (Nat → Int32) × (Nat → Int64) × (Nat → Int64) × (Nat → Int64) × (Nat → Int64) × (Nat → Int64) × (Nat → Int64) × Int64 × Int32 × Int32 × Int32 × (Nat → Int64) × (Nat → Int64) × Int32 × (Nat → Int64) × (Nat → Int64) × Int32} (h : M_seek F x_many x_generator x_known x_without x_rows x_row x_pivot x_fresh x_multiple x_last x_made x_settled x_point x_limit x_mode x_counted x_held x_first x_squares x_wanted x_spanned x_span x_found x_any v1 v2 v3 v4 = some out) : Mt yM_seek cM_seek 7 none rm_M_seek κ [.ref (κ.1 0), .int v1, .int v2, .int v3, .int v4] (LM κ (x_many, x_generator, x_known, x_without, x_rows, x_row, x_pivot, x_fresh, x_multiple, x_last, x_made, x_settled, x_point, x_limit, x_mode, x_counted, x_listed, x_held, x_first, x_squares, x_wanted, x_spanned, x_span, x_minima, x_measured, x_found, x_any) X) none (LM κ (x_many, x_generator, out.1, out.2.1, out.2.2.1, out.2.2.2.1, out.2.2.2.2.1, out.2.2.2.2.2.1, out.2.2.2.2.2.2.1, out.2.2.2.2.2.2.2.1, out.2.2.2.2.2.2.2.2.1, out.2.2.2.2.2.2.2.2.2.1, out.2.2.2.2.2.2.2.2.2.2.1, out.2.2.2.2.2.2.2.2.2.2.2.1, out.2.2.2.2.2.2.2.2.2.2.2.2.1, out.2.2.2.2.2.2.2.2.2.2.2.2.2.1, x_listed, out.2.2.2.2.2.2.2.2.2.2.2.2.2.2.1, out.2.2.2.2.2.2.2.2.2.2.2.2.2.2.2.1, out.2.2.2.2.2.2.2.2.2.2.2.2.2.2.2.2.1, x_wanted, out.2.2.2.2.2.2.2.2.2.2.2.2.2.2.2.2.2.1, out.2.2.2.2.2.2.2.2.2.2.2.2.2.2.2.2.2.2.1, x_minima, x_measured, out.2.2.2.2.2.2.2.2.2.2.2.2.2.2.2.2.2.2.2.1, out.2.2.2.2.2.2.2.2.2.2.2.2.2.2.2.2.2.2.2.2) X) := by
  refine Mt.of (by decide) (Nat.le_of_ble_eq_true rfl) ?_
  intro g G Fh
  unfold M_seek at h
  show J g κ 7 0 [(0, .ref (κ.1 0)), (1, .int v1), (2, .int v2), (3, .int v3), (4, .int v4)] [] (LM κ (x_many, x_generator, x_known, x_without, x_rows, x_row, x_pivot, x_fresh, x_multiple, x_last, x_made, x_settled, x_point, x_limit, x_mode, x_counted, x_listed, x_held, x_first, x_squares, x_wanted, x_spanned, x_span, x_minima, x_measured, x_found, x_any) X)
  refine w_aload_n (pc := 0) (q := 0) G dM_seek_0 rfl rfl ?_
  refine w_iconst (pc := 1) (v := (-1 : Int32)) G dM_seek_1 (by decide) ?_
  obtain ⟨r2, e2, h⟩ := bd h
  refine w_callV (pc := 2) (av := [.int (-1 : Int32)]) (rest := []) (v := none) (L' := (LM κ (x_many, x_generator, r2.1, r2.2.1, r2.2.2.1, r2.2.2.2.1, r2.2.2.2.2.1, r2.2.2.2.2.2, x_multiple, x_last, x_made, x_settled, x_point, x_limit, x_mode, x_counted, x_listed, x_held, x_first, x_squares, x_wanted, x_spanned, x_span, x_minima, x_measured, x_found, x_any) X)) (T := TM) (fs := fl_M κ (x_many, x_generator, x_known, x_without, x_rows, x_row, x_pivot, x_fresh, x_multiple, x_last, x_made, x_settled, x_point, x_limit, x_mode, x_counted, x_listed, x_held, x_first, x_squares, x_wanted, x_spanned, x_span, x_minima, x_measured, x_found, x_any)) G 0 0 27 (by decide) lb_M rfl cb_M_look_M_seek wd597 ws20 wd595 (met_M_look κ X F (-1 : Int32)  e2) rfl rfl rfl (Nat.le_of_ble_eq_true rfl) dM_seek_2 ?_
  refine w_aload_n (pc := 5) (q := 0) G dM_seek_5 rfl rfl ?_
  refine w_get (pc := 6) (v := .ref (κ.1 9)) (fs := fl_M κ (x_many, x_generator, r2.1, r2.2.1, r2.2.2.1, r2.2.2.2.1, r2.2.2.2.2.1, r2.2.2.2.2.2, x_multiple, x_last, x_made, x_settled, x_point, x_limit, x_mode, x_counted, x_listed, x_held, x_first, x_squares, x_wanted, x_spanned, x_span, x_minima, x_measured, x_found, x_any)) G 0 (by decide) lb_M rfl wsM_ok 12 (by decide) wd502 gf_M_12 dM_seek_6 ?_
  refine w_iconst (pc := 9) (v := (0 : Int32)) G dM_seek_9 (by decide) ?_
  refine w_iload_n (pc := 10) (q := 1) G dM_seek_10 rfl rfl ?_
  refine w_i2l (pc := 11) G dM_seek_11 ?_
  obtain ⟨i12, h⟩ := gd_some h
  refine w_last (pc := 12) (n := 4) (f := x_point) (L1 := (LM κ (x_many, x_generator, r2.1, r2.2.1, r2.2.2.1, r2.2.2.2.1, r2.2.2.2.2.1, r2.2.2.2.2.2, x_multiple, x_last, x_made, x_settled, vp_updL x_point (0 : Int32).toNatClampNeg v1.toInt64, x_limit, x_mode, x_counted, x_listed, x_held, x_first, x_squares, x_wanted, x_spanned, x_span, x_minima, x_measured, x_found, x_any) X)) G 9 (by decide) lk_point i12 dM_seek_12 up_point ?_
  refine w_aload_n (pc := 13) (q := 0) G dM_seek_13 rfl rfl ?_
  refine w_get (pc := 14) (v := .ref (κ.1 9)) (fs := fl_M κ (x_many, x_generator, r2.1, r2.2.1, r2.2.2.1, r2.2.2.2.1, r2.2.2.2.2.1, r2.2.2.2.2.2, x_multiple, x_last, x_made, x_settled, vp_updL x_point (0 : Int32).toNatClampNeg v1.toInt64, x_limit, x_mode, x_counted, x_listed, x_held, x_first, x_squares, x_wanted, x_spanned, x_span, x_minima, x_measured, x_found, x_any)) G 0 (by decide) lb_M rfl wsM_ok 12 (by decide) wd502 gf_M_12 dM_seek_14 ?_
  refine w_iconst (pc := 17) (v := (1 : Int32)) G dM_seek_17 (by decide) ?_
  refine w_iload_n (pc := 18) (q := 2) G dM_seek_18 rfl rfl ?_
  refine w_i2l (pc := 19) G dM_seek_19 ?_
  obtain ⟨i20, h⟩ := gd_some h
  refine w_last (pc := 20) (n := 4) (f := vp_updL x_point (0 : Int32).toNatClampNeg v1.toInt64) (L1 := (LM κ (x_many, x_generator, r2.1, r2.2.1, r2.2.2.1, r2.2.2.2.1, r2.2.2.2.2.1, r2.2.2.2.2.2, x_multiple, x_last, x_made, x_settled, vp_updL (vp_updL x_point (0 : Int32).toNatClampNeg v1.toInt64) (1 : Int32).toNatClampNeg v2.toInt64, x_limit, x_mode, x_counted, x_listed, x_held, x_first, x_squares, x_wanted, x_spanned, x_span, x_minima, x_measured, x_found, x_any) X)) G 9 (by decide) lk_point i20 dM_seek_20 up_point ?_
  refine w_aload_n (pc := 21) (q := 0) G dM_seek_21 rfl rfl ?_
  refine w_get (pc := 22) (v := .ref (κ.1 9)) (fs := fl_M κ (x_many, x_generator, r2.1, r2.2.1, r2.2.2.1, r2.2.2.2.1, r2.2.2.2.2.1, r2.2.2.2.2.2, x_multiple, x_last, x_made, x_settled, vp_updL (vp_updL x_point (0 : Int32).toNatClampNeg v1.toInt64) (1 : Int32).toNatClampNeg v2.toInt64, x_limit, x_mode, x_counted, x_listed, x_held, x_first, x_squares, x_wanted, x_spanned, x_span, x_minima, x_measured, x_found, x_any)) G 0 (by decide) lb_M rfl wsM_ok 12 (by decide) wd502 gf_M_12 dM_seek_22 ?_
  refine w_iconst (pc := 25) (v := (2 : Int32)) G dM_seek_25 (by decide) ?_
  refine w_iload_n (pc := 26) (q := 3) G dM_seek_26 rfl rfl ?_
  refine w_i2l (pc := 27) G dM_seek_27 ?_
  obtain ⟨i28, h⟩ := gd_some h
  refine w_last (pc := 28) (n := 4) (f := vp_updL (vp_updL x_point (0 : Int32).toNatClampNeg v1.toInt64) (1 : Int32).toNatClampNeg v2.toInt64) (L1 := (LM κ (x_many, x_generator, r2.1, r2.2.1, r2.2.2.1, r2.2.2.2.1, r2.2.2.2.2.1, r2.2.2.2.2.2, x_multiple, x_last, x_made, x_settled, vp_updL (vp_updL (vp_updL x_point (0 : Int32).toNatClampNeg v1.toInt64) (1 : Int32).toNatClampNeg v2.toInt64) (2 : Int32).toNatClampNeg v3.toInt64, x_limit, x_mode, x_counted, x_listed, x_held, x_first, x_squares, x_wanted, x_spanned, x_span, x_minima, x_measured, x_found, x_any) X)) G 9 (by decide) lk_point i28 dM_seek_28 up_point ?_
  refine w_aload_n (pc := 29) (q := 0) G dM_seek_29 rfl rfl ?_
  refine w_get (pc := 30) (v := .ref (κ.1 9)) (fs := fl_M κ (x_many, x_generator, r2.1, r2.2.1, r2.2.2.1, r2.2.2.2.1, r2.2.2.2.2.1, r2.2.2.2.2.2, x_multiple, x_last, x_made, x_settled, vp_updL (vp_updL (vp_updL x_point (0 : Int32).toNatClampNeg v1.toInt64) (1 : Int32).toNatClampNeg v2.toInt64) (2 : Int32).toNatClampNeg v3.toInt64, x_limit, x_mode, x_counted, x_listed, x_held, x_first, x_squares, x_wanted, x_spanned, x_span, x_minima, x_measured, x_found, x_any)) G 0 (by decide) lb_M rfl wsM_ok 12 (by decide) wd502 gf_M_12 dM_seek_30 ?_
  refine w_iconst (pc := 33) (v := (3 : Int32)) G dM_seek_33 (by decide) ?_
  refine w_iload (pc := 34) (q := 4) G dM_seek_34 rfl ?_
  refine w_i2l (pc := 36) G dM_seek_36 ?_
  obtain ⟨i37, h⟩ := gd_some h
  refine w_last (pc := 37) (n := 4) (f := vp_updL (vp_updL (vp_updL x_point (0 : Int32).toNatClampNeg v1.toInt64) (1 : Int32).toNatClampNeg v2.toInt64) (2 : Int32).toNatClampNeg v3.toInt64) (L1 := (LM κ (x_many, x_generator, r2.1, r2.2.1, r2.2.2.1, r2.2.2.2.1, r2.2.2.2.2.1, r2.2.2.2.2.2, x_multiple, x_last, x_made, x_settled, vp_updL (vp_updL (vp_updL (vp_updL x_point (0 : Int32).toNatClampNeg v1.toInt64) (1 : Int32).toNatClampNeg v2.toInt64) (2 : Int32).toNatClampNeg v3.toInt64) (3 : Int32).toNatClampNeg v4.toInt64, x_limit, x_mode, x_counted, x_listed, x_held, x_first, x_squares, x_wanted, x_spanned, x_span, x_minima, x_measured, x_found, x_any) X)) G 9 (by decide) lk_point i37 dM_seek_37 up_point ?_
  refine w_aload_n (pc := 38) (q := 0) G dM_seek_38 rfl rfl ?_
  refine w_iconst (pc := 39) (v := (0 : Int32)) G dM_seek_39 (by decide) ?_
  refine w_put (pc := 40) (fs := fl_M κ (x_many, x_generator, r2.1, r2.2.1, r2.2.2.1, r2.2.2.2.1, r2.2.2.2.2.1, r2.2.2.2.2.2, x_multiple, x_last, x_made, x_settled, vp_updL (vp_updL (vp_updL (vp_updL x_point (0 : Int32).toNatClampNeg v1.toInt64) (1 : Int32).toNatClampNeg v2.toInt64) (2 : Int32).toNatClampNeg v3.toInt64) (3 : Int32).toNatClampNeg v4.toInt64, x_limit, x_mode, x_counted, x_listed, x_held, x_first, x_squares, x_wanted, x_spanned, x_span, x_minima, x_measured, x_found, x_any)) (L1 := (LM κ (x_many, x_generator, r2.1, r2.2.1, r2.2.2.1, r2.2.2.2.1, r2.2.2.2.2.1, r2.2.2.2.2.2, x_multiple, x_last, x_made, x_settled, vp_updL (vp_updL (vp_updL (vp_updL x_point (0 : Int32).toNatClampNeg v1.toInt64) (1 : Int32).toNatClampNeg v2.toInt64) (2 : Int32).toNatClampNeg v3.toInt64) (3 : Int32).toNatClampNeg v4.toInt64, x_limit, x_mode, x_counted, x_listed, x_held, x_first, x_squares, x_wanted, x_spanned, x_span, x_minima, x_measured, x_found, (0 : Int32)) X)) G 0 (by decide) lb_M rfl wsM_ok tyM tyM_ok nmM 26 (by decide) wd516 rfl rfl rfl (Nat.le_of_ble_eq_true rfl) dM_seek_40 upf_any ?_
  refine w_lconst (pc := 43) (v := (1 : Int64)) G dM_seek_43 (by decide) ?_
  refine w_lstore (pc := 44) (lv' := [(5, .long (1 : Int64)), (0, .ref (κ.1 0)), (1, .int v1), (2, .int v2), (3, .int v3), (4, .int v4)]) G dM_seek_44 (by decide) rfl ?_
  refine w_sub (lv' := [(0, .ref (κ.1 0)), (5, .long (1 : Int64))]) [1, 0] rfl ?_
  obtain ⟨o46_7, eo46_7, h⟩ := bd h
  refine lM_seek_46_ok G X F F (1 : Int64) r2.2.2.2.2.2 x_multiple x_last x_made x_settled x_limit x_mode x_counted x_held x_first x_squares x_spanned x_span x_found (0 : Int32) o46_7 eo46_7 ?_
  obtain rfl := Option.some.inj h
  exact w_vret (pc := 71) G dM_seek_71 Fh
def rm_M_distance : Room := { frames := 8, cells := 0, slots := 0, locals := 205 }
theorem dM_distance_0 : decode cM_distance 0 = .ok (.iload_n 1, 1) := by decide +kernel
theorem dM_distance_1 : decode cM_distance 1 = .ok (.iload_n 2, 1) := by decide +kernel
theorem dM_distance_2 : decode cM_distance 2 = .ok (.iload_n 3, 1) := by decide +kernel
theorem dM_distance_3 : decode cM_distance 3 = .ok (.iload 4, 2) := by decide +kernel
theorem dM_distance_5 : decode cM_distance 5 = .ok (.bipush 30, 2) := by decide +kernel
theorem dM_distance_7 : decode cM_distance 7 = .ok (.invokestatic 63, 3) := by decide +kernel
theorem dM_distance_10 : decode cM_distance 10 = .ok (.ifCond .ne 5, 3) := by decide +kernel
theorem dM_distance_13 : decode cM_distance 13 = .ok (.iconst (-1), 1) := by decide +kernel
theorem dM_distance_14 : decode cM_distance 14 = .ok (.ireturn, 1) := by decide +kernel
theorem dM_distance_15 : decode cM_distance 15 = .ok (.aload_n 0, 1) := by decide +kernel
theorem dM_distance_16 : decode cM_distance 16 = .ok (.iload_n 1, 1) := by decide +kernel
theorem dM_distance_17 : decode cM_distance 17 = .ok (.iload_n 2, 1) := by decide +kernel
theorem dM_distance_18 : decode cM_distance 18 = .ok (.iload_n 3, 1) := by decide +kernel
theorem dM_distance_19 : decode cM_distance 19 = .ok (.iload 4, 2) := by decide +kernel
theorem dM_distance_21 : decode cM_distance 21 = .ok (.invokevirtual 213, 3) := by decide +kernel
theorem dM_distance_24 : decode cM_distance 24 = .ok (.aload_n 0, 1) := by decide +kernel
theorem dM_distance_25 : decode cM_distance 25 = .ok (.getfield 132, 3) := by decide +kernel
theorem dM_distance_28 : decode cM_distance 28 = .ok (.l2i, 1) := by decide +kernel
theorem dM_distance_29 : decode cM_distance 29 = .ok (.ireturn, 1) := by decide +kernel
theorem cb_M_seek_M_distance : CB yM_seek cM_seek 7 none rm_M_seek rm_M_distance 4 := ⟨wd754, wd8, by decide +kernel, rfl, rfl, by decide⟩
theorem cb_M_within_M_distance : CB yM_within cM_within 5 (some .boolean) rm_M_within rm_M_distance 5 := ⟨wd578, wd8, by decide +kernel, rfl, rfl, by decide⟩
noncomputable def M_distance (F : Nat) (x_many : Int32) (x_generator : Nat → Int32) (x_known : Int32) (x_without : Int32) (x_rows : Int32) (x_row : Nat → Int64) (x_pivot : Nat → Int32) (x_fresh : Nat → Int64) (x_multiple : Nat → Int64) (x_last : Nat → Int64) (x_made : Nat → Int64) (x_settled : Nat → Int64) (x_point : Nat → Int64) (x_limit : Int64) (x_mode : Int32) (x_counted : Int32) (x_held : Int32) (x_first : Nat → Int64) (x_squares : Nat → Int64) (x_wanted : Int32) (x_spanned : Int32) (x_span : Nat → Int64) (x_found : Nat → Int64) (x_any : Int32) (v1 : Int32) (v2 : Int32) (v3 : Int32) (v4 : Int32) : Option (Int32 × Int32 × Int32 × Int32 × (Nat → Int64) × (Nat → Int32) × (Nat → Int64) × (Nat → Int64) × (Nat → Int64) × (Nat → Int64) × (Nat → Int64) × (Nat → Int64) × Int64 × Int32 × Int32 × Int32 × (Nat → Int64) × (Nat → Int64) × Int32 × (Nat → Int64) × (Nat → Int64) × Int32) := (M_within F  v1 v2 v3 v4 (30 : Int32)).bind (fun r7 => if r7 = 0 then some ((-1 : Int32), x_known, x_without, x_rows, x_row, x_pivot, x_fresh, x_multiple, x_last, x_made, x_settled, x_point, x_limit, x_mode, x_counted, x_held, x_first, x_squares, x_spanned, x_span, x_found, x_any) else (M_seek F x_many x_generator x_known x_without x_rows x_row x_pivot x_fresh x_multiple x_last x_made x_settled x_point x_limit x_mode x_counted x_held x_first x_squares x_wanted x_spanned x_span x_found x_any v1 v2 v3 v4).bind (fun r21 => some (r21.2.2.2.2.2.2.2.2.2.2.2.1.toInt32, r21.1, r21.2.1, r21.2.2.1, r21.2.2.2.1, r21.2.2.2.2.1, r21.2.2.2.2.2.1, r21.2.2.2.2.2.2.1, r21.2.2.2.2.2.2.2.1, r21.2.2.2.2.2.2.2.2.1, r21.2.2.2.2.2.2.2.2.2.1, r21.2.2.2.2.2.2.2.2.2.2.1, r21.2.2.2.2.2.2.2.2.2.2.2.1, r21.2.2.2.2.2.2.2.2.2.2.2.2.1, r21.2.2.2.2.2.2.2.2.2.2.2.2.2.1, r21.2.2.2.2.2.2.2.2.2.2.2.2.2.2.1, r21.2.2.2.2.2.2.2.2.2.2.2.2.2.2.2.1, r21.2.2.2.2.2.2.2.2.2.2.2.2.2.2.2.2.1, r21.2.2.2.2.2.2.2.2.2.2.2.2.2.2.2.2.2.1, r21.2.2.2.2.2.2.2.2.2.2.2.2.2.2.2.2.2.2.1, r21.2.2.2.2.2.2.2.2.2.2.2.2.2.2.2.2.2.2.2.1, r21.2.2.2.2.2.2.2.2.2.2.2.2.2.2.2.2.2.2.2.2)))
set_option maxHeartbeats 8000000 in
set_option maxRecDepth 100000 in
theorem met_M_distance (κ : ctx) (X : Nat → va_E) (F : Nat) {x_many : Int32} {x_generator : Nat → Int32} {x_known : Int32} {x_without : Int32} {x_rows : Int32} {x_row : Nat → Int64} {x_pivot : Nat → Int32} {x_fresh : Nat → Int64} {x_multiple : Nat → Int64} {x_last : Nat → Int64} {x_made : Nat → Int64} {x_settled : Nat → Int64} {x_point : Nat → Int64} {x_limit : Int64} {x_mode : Int32} {x_counted : Int32} {x_listed : Int32} {x_held : Int32} {x_first : Nat → Int64} {x_squares : Nat → Int64} {x_wanted : Int32} {x_spanned : Int32} {x_span : Nat → Int64} {x_minima : Nat → Int32} {x_measured : Int32} {x_found : Nat → Int64} {x_any : Int32} (v1 : Int32) (v2 : Int32) (v3 : Int32) (v4 : Int32) {out : Int32 × Int32 × Int32 × Int32 × (Nat → Int64) × (Nat → Int32) × (Nat → Int64) × (Nat → Int64) × (Nat → Int64) × (Nat → Int64) × (Nat → Int64) × (Nat → Int64) × Int64 × Int32 × Int32 × Int32 × (Nat → Int64) × (Nat → Int64) × Int32 × (Nat → Int64) × (Nat → Int64) × Int32} (h : M_distance F x_many x_generator x_known x_without x_rows x_row x_pivot x_fresh x_multiple x_last x_made x_settled x_point x_limit x_mode x_counted x_held x_first x_squares x_wanted x_spanned x_span x_found x_any v1 v2 v3 v4 = some out) : Mt yM_distance cM_distance 5 (some .int) rm_M_distance κ [.ref (κ.1 0), .int v1, .int v2, .int v3, .int v4] (LM κ (x_many, x_generator, x_known, x_without, x_rows, x_row, x_pivot, x_fresh, x_multiple, x_last, x_made, x_settled, x_point, x_limit, x_mode, x_counted, x_listed, x_held, x_first, x_squares, x_wanted, x_spanned, x_span, x_minima, x_measured, x_found, x_any) X) (some (.int out.1)) (LM κ (x_many, x_generator, out.2.1, out.2.2.1, out.2.2.2.1, out.2.2.2.2.1, out.2.2.2.2.2.1, out.2.2.2.2.2.2.1, out.2.2.2.2.2.2.2.1, out.2.2.2.2.2.2.2.2.1, out.2.2.2.2.2.2.2.2.2.1, out.2.2.2.2.2.2.2.2.2.2.1, out.2.2.2.2.2.2.2.2.2.2.2.1, out.2.2.2.2.2.2.2.2.2.2.2.2.1, out.2.2.2.2.2.2.2.2.2.2.2.2.2.1, out.2.2.2.2.2.2.2.2.2.2.2.2.2.2.1, x_listed, out.2.2.2.2.2.2.2.2.2.2.2.2.2.2.2.1, out.2.2.2.2.2.2.2.2.2.2.2.2.2.2.2.2.1, out.2.2.2.2.2.2.2.2.2.2.2.2.2.2.2.2.2.1, x_wanted, out.2.2.2.2.2.2.2.2.2.2.2.2.2.2.2.2.2.2.1, out.2.2.2.2.2.2.2.2.2.2.2.2.2.2.2.2.2.2.2.1, x_minima, x_measured, out.2.2.2.2.2.2.2.2.2.2.2.2.2.2.2.2.2.2.2.2.1, out.2.2.2.2.2.2.2.2.2.2.2.2.2.2.2.2.2.2.2.2.2) X) := by
  refine Mt.of (by decide) (Nat.le_of_ble_eq_true rfl) ?_
  intro g G Fh
  unfold M_distance at h
  show J g κ 5 0 [(0, .ref (κ.1 0)), (1, .int v1), (2, .int v2), (3, .int v3), (4, .int v4)] [] (LM κ (x_many, x_generator, x_known, x_without, x_rows, x_row, x_pivot, x_fresh, x_multiple, x_last, x_made, x_settled, x_point, x_limit, x_mode, x_counted, x_listed, x_held, x_first, x_squares, x_wanted, x_spanned, x_span, x_minima, x_measured, x_found, x_any) X)
  refine w_iload_n (pc := 0) (q := 1) G dM_distance_0 rfl rfl ?_
  refine w_iload_n (pc := 1) (q := 2) G dM_distance_1 rfl rfl ?_
  refine w_iload_n (pc := 2) (q := 3) G dM_distance_2 rfl rfl ?_
  refine w_iload (pc := 3) (q := 4) G dM_distance_3 rfl ?_
  refine w_bipush (pc := 5) (v := (30 : Int32)) G dM_distance_5 (by decide) ?_
  obtain ⟨r7, e7, h⟩ := bd h
  refine w_callS (pc := 7) (av := [.int v1, .int v2, .int v3, .int v4, .int (30 : Int32)]) (rest := []) (v := some (.int r7)) (L' := (LM κ (x_many, x_generator, x_known, x_without, x_rows, x_row, x_pivot, x_fresh, x_multiple, x_last, x_made, x_settled, x_point, x_limit, x_mode, x_counted, x_listed, x_held, x_first, x_squares, x_wanted, x_spanned, x_span, x_minima, x_measured, x_found, x_any) X)) G cb_M_within_M_distance wd577 wd576 (met_M_within κ (LM κ (x_many, x_generator, x_known, x_without, x_rows, x_row, x_pivot, x_fresh, x_multiple, x_last, x_made, x_settled, x_point, x_limit, x_mode, x_counted, x_listed, x_held, x_first, x_squares, x_wanted, x_spanned, x_span, x_minima, x_measured, x_found, x_any) X) F v1 v2 v3 v4 (30 : Int32)  e7) rfl rfl rfl (Nat.le_of_ble_eq_true rfl) dM_distance_7 ?_
  refine w_if_ne (pc := 10) (tgt := 15) G dM_distance_10 (by decide) (fun c10 => ?_) (fun c10 => ?_)
  · have h := if_t c10 h
    refine w_iconst (pc := 13) (v := (-1 : Int32)) G dM_distance_13 (by decide) ?_
    obtain rfl := Option.some.inj h
    exact w_iret (pc := 14) G dM_distance_14 Fh
  · have h := if_f c10 h
    refine w_aload_n (pc := 15) (q := 0) G dM_distance_15 rfl rfl ?_
    refine w_iload_n (pc := 16) (q := 1) G dM_distance_16 rfl rfl ?_
    refine w_iload_n (pc := 17) (q := 2) G dM_distance_17 rfl rfl ?_
    refine w_iload_n (pc := 18) (q := 3) G dM_distance_18 rfl rfl ?_
    refine w_iload (pc := 19) (q := 4) G dM_distance_19 rfl ?_
    obtain ⟨r21, e21, h⟩ := bd h
    refine w_callV (pc := 21) (av := [.int v1, .int v2, .int v3, .int v4]) (rest := []) (v := none) (L' := (LM κ (x_many, x_generator, r21.1, r21.2.1, r21.2.2.1, r21.2.2.2.1, r21.2.2.2.2.1, r21.2.2.2.2.2.1, r21.2.2.2.2.2.2.1, r21.2.2.2.2.2.2.2.1, r21.2.2.2.2.2.2.2.2.1, r21.2.2.2.2.2.2.2.2.2.1, r21.2.2.2.2.2.2.2.2.2.2.1, r21.2.2.2.2.2.2.2.2.2.2.2.1, r21.2.2.2.2.2.2.2.2.2.2.2.2.1, r21.2.2.2.2.2.2.2.2.2.2.2.2.2.1, x_listed, r21.2.2.2.2.2.2.2.2.2.2.2.2.2.2.1, r21.2.2.2.2.2.2.2.2.2.2.2.2.2.2.2.1, r21.2.2.2.2.2.2.2.2.2.2.2.2.2.2.2.2.1, x_wanted, r21.2.2.2.2.2.2.2.2.2.2.2.2.2.2.2.2.2.1, r21.2.2.2.2.2.2.2.2.2.2.2.2.2.2.2.2.2.2.1, x_minima, x_measured, r21.2.2.2.2.2.2.2.2.2.2.2.2.2.2.2.2.2.2.2.1, r21.2.2.2.2.2.2.2.2.2.2.2.2.2.2.2.2.2.2.2.2) X)) (T := TM) (fs := fl_M κ (x_many, x_generator, x_known, x_without, x_rows, x_row, x_pivot, x_fresh, x_multiple, x_last, x_made, x_settled, x_point, x_limit, x_mode, x_counted, x_listed, x_held, x_first, x_squares, x_wanted, x_spanned, x_span, x_minima, x_measured, x_found, x_any)) G 0 0 27 (by decide) lb_M rfl cb_M_seek_M_distance wd753 ws48 wd751 (met_M_seek κ X F v1 v2 v3 v4  e21) rfl rfl rfl (Nat.le_of_ble_eq_true rfl) dM_distance_21 ?_
    refine w_aload_n (pc := 24) (q := 0) G dM_distance_24 rfl rfl ?_
    refine w_get (pc := 25) (v := .long r21.2.2.2.2.2.2.2.2.2.2.2.1) (fs := fl_M κ (x_many, x_generator, r21.1, r21.2.1, r21.2.2.1, r21.2.2.2.1, r21.2.2.2.2.1, r21.2.2.2.2.2.1, r21.2.2.2.2.2.2.1, r21.2.2.2.2.2.2.2.1, r21.2.2.2.2.2.2.2.2.1, r21.2.2.2.2.2.2.2.2.2.1, r21.2.2.2.2.2.2.2.2.2.2.1, r21.2.2.2.2.2.2.2.2.2.2.2.1, r21.2.2.2.2.2.2.2.2.2.2.2.2.1, r21.2.2.2.2.2.2.2.2.2.2.2.2.2.1, x_listed, r21.2.2.2.2.2.2.2.2.2.2.2.2.2.2.1, r21.2.2.2.2.2.2.2.2.2.2.2.2.2.2.2.1, r21.2.2.2.2.2.2.2.2.2.2.2.2.2.2.2.2.1, x_wanted, r21.2.2.2.2.2.2.2.2.2.2.2.2.2.2.2.2.2.1, r21.2.2.2.2.2.2.2.2.2.2.2.2.2.2.2.2.2.2.1, x_minima, x_measured, r21.2.2.2.2.2.2.2.2.2.2.2.2.2.2.2.2.2.2.2.1, r21.2.2.2.2.2.2.2.2.2.2.2.2.2.2.2.2.2.2.2.2)) G 0 (by decide) lb_M rfl wsM_ok 13 (by decide) wd503 gf_M_13 dM_distance_25 ?_
    refine w_l2i (pc := 28) G dM_distance_28 ?_
    obtain rfl := Option.some.inj h
    exact w_iret (pc := 29) G dM_distance_29 Fh
def rm_M_nearest : Room := { frames := 8, cells := 0, slots := 0, locals := 205 }
theorem dM_nearest_0 : decode cM_nearest 0 = .ok (.iload_n 1, 1) := by decide +kernel
theorem dM_nearest_1 : decode cM_nearest 1 = .ok (.iload_n 2, 1) := by decide +kernel
theorem dM_nearest_2 : decode cM_nearest 2 = .ok (.iload_n 3, 1) := by decide +kernel
theorem dM_nearest_3 : decode cM_nearest 3 = .ok (.iload 4, 2) := by decide +kernel
theorem dM_nearest_5 : decode cM_nearest 5 = .ok (.bipush 30, 2) := by decide +kernel
theorem dM_nearest_7 : decode cM_nearest 7 = .ok (.invokestatic 63, 3) := by decide +kernel
theorem dM_nearest_10 : decode cM_nearest 10 = .ok (.ifCond .eq 14, 3) := by decide +kernel
theorem dM_nearest_13 : decode cM_nearest 13 = .ok (.iload 5, 2) := by decide +kernel
theorem dM_nearest_15 : decode cM_nearest 15 = .ok (.ifCond .lt 9, 3) := by decide +kernel
theorem dM_nearest_18 : decode cM_nearest 18 = .ok (.iload 5, 2) := by decide +kernel
theorem dM_nearest_20 : decode cM_nearest 20 = .ok (.iconst 3, 1) := by decide +kernel
theorem dM_nearest_21 : decode cM_nearest 21 = .ok (.if_icmp .le 7, 3) := by decide +kernel
theorem dM_nearest_24 : decode cM_nearest 24 = .ok (.sipush 1000, 3) := by decide +kernel
theorem dM_nearest_27 : decode cM_nearest 27 = .ok (.ireturn, 1) := by decide +kernel
theorem dM_nearest_28 : decode cM_nearest 28 = .ok (.aload_n 0, 1) := by decide +kernel
theorem dM_nearest_29 : decode cM_nearest 29 = .ok (.iload_n 1, 1) := by decide +kernel
theorem dM_nearest_30 : decode cM_nearest 30 = .ok (.iload_n 2, 1) := by decide +kernel
theorem dM_nearest_31 : decode cM_nearest 31 = .ok (.iload_n 3, 1) := by decide +kernel
theorem dM_nearest_32 : decode cM_nearest 32 = .ok (.iload 4, 2) := by decide +kernel
theorem dM_nearest_34 : decode cM_nearest 34 = .ok (.invokevirtual 213, 3) := by decide +kernel
theorem dM_nearest_37 : decode cM_nearest 37 = .ok (.aload_n 0, 1) := by decide +kernel
theorem dM_nearest_38 : decode cM_nearest 38 = .ok (.getfield 50, 3) := by decide +kernel
theorem dM_nearest_41 : decode cM_nearest 41 = .ok (.iload 5, 2) := by decide +kernel
theorem dM_nearest_43 : decode cM_nearest 43 = .ok (.laload, 1) := by decide +kernel
theorem dM_nearest_44 : decode cM_nearest 44 = .ok (.l2i, 1) := by decide +kernel
theorem dM_nearest_45 : decode cM_nearest 45 = .ok (.ireturn, 1) := by decide +kernel
theorem cb_M_seek_M_nearest : CB yM_seek cM_seek 7 none rm_M_seek rm_M_nearest 4 := ⟨wd754, wd8, by decide +kernel, rfl, rfl, by decide⟩
theorem cb_M_within_M_nearest : CB yM_within cM_within 5 (some .boolean) rm_M_within rm_M_nearest 5 := ⟨wd578, wd8, by decide +kernel, rfl, rfl, by decide⟩
noncomputable def M_nearest (F : Nat) (x_many : Int32) (x_generator : Nat → Int32) (x_known : Int32) (x_without : Int32) (x_rows : Int32) (x_row : Nat → Int64) (x_pivot : Nat → Int32) (x_fresh : Nat → Int64) (x_multiple : Nat → Int64) (x_last : Nat → Int64) (x_made : Nat → Int64) (x_settled : Nat → Int64) (x_point : Nat → Int64) (x_limit : Int64) (x_mode : Int32) (x_counted : Int32) (x_held : Int32) (x_first : Nat → Int64) (x_squares : Nat → Int64) (x_wanted : Int32) (x_spanned : Int32) (x_span : Nat → Int64) (x_found : Nat → Int64) (x_any : Int32) (v1 : Int32) (v2 : Int32) (v3 : Int32) (v4 : Int32) (v5 : Int32) : Option (Int32 × Int32 × Int32 × Int32 × (Nat → Int64) × (Nat → Int32) × (Nat → Int64) × (Nat → Int64) × (Nat → Int64) × (Nat → Int64) × (Nat → Int64) × (Nat → Int64) × Int64 × Int32 × Int32 × Int32 × (Nat → Int64) × (Nat → Int64) × Int32 × (Nat → Int64) × (Nat → Int64) × Int32) := (M_within F  v1 v2 v3 v4 (30 : Int32)).bind (fun r7 => if r7 = 0 then some ((1000 : Int32), x_known, x_without, x_rows, x_row, x_pivot, x_fresh, x_multiple, x_last, x_made, x_settled, x_point, x_limit, x_mode, x_counted, x_held, x_first, x_squares, x_spanned, x_span, x_found, x_any) else if v5 < 0 then some ((1000 : Int32), x_known, x_without, x_rows, x_row, x_pivot, x_fresh, x_multiple, x_last, x_made, x_settled, x_point, x_limit, x_mode, x_counted, x_held, x_first, x_squares, x_spanned, x_span, x_found, x_any) else if v5 ≤ (3 : Int32) then (M_seek F x_many x_generator x_known x_without x_rows x_row x_pivot x_fresh x_multiple x_last x_made x_settled x_point x_limit x_mode x_counted x_held x_first x_squares x_wanted x_spanned x_span x_found x_any v1 v2 v3 v4).bind (fun r34 => gd (vp_in v5 4) (some ((r34.2.2.2.2.2.2.2.2.2.2.2.2.2.2.2.2.2.2.2.1 v5.toNatClampNeg).toInt32, r34.1, r34.2.1, r34.2.2.1, r34.2.2.2.1, r34.2.2.2.2.1, r34.2.2.2.2.2.1, r34.2.2.2.2.2.2.1, r34.2.2.2.2.2.2.2.1, r34.2.2.2.2.2.2.2.2.1, r34.2.2.2.2.2.2.2.2.2.1, r34.2.2.2.2.2.2.2.2.2.2.1, r34.2.2.2.2.2.2.2.2.2.2.2.1, r34.2.2.2.2.2.2.2.2.2.2.2.2.1, r34.2.2.2.2.2.2.2.2.2.2.2.2.2.1, r34.2.2.2.2.2.2.2.2.2.2.2.2.2.2.1, r34.2.2.2.2.2.2.2.2.2.2.2.2.2.2.2.1, r34.2.2.2.2.2.2.2.2.2.2.2.2.2.2.2.2.1, r34.2.2.2.2.2.2.2.2.2.2.2.2.2.2.2.2.2.1, r34.2.2.2.2.2.2.2.2.2.2.2.2.2.2.2.2.2.2.1, r34.2.2.2.2.2.2.2.2.2.2.2.2.2.2.2.2.2.2.2.1, r34.2.2.2.2.2.2.2.2.2.2.2.2.2.2.2.2.2.2.2.2))) else some ((1000 : Int32), x_known, x_without, x_rows, x_row, x_pivot, x_fresh, x_multiple, x_last, x_made, x_settled, x_point, x_limit, x_mode, x_counted, x_held, x_first, x_squares, x_spanned, x_span, x_found, x_any))
set_option maxHeartbeats 8000000 in
set_option maxRecDepth 100000 in
theorem met_M_nearest (κ : ctx) (X : Nat → va_E) (F : Nat) {x_many : Int32} {x_generator : Nat → Int32} {x_known : Int32} {x_without : Int32} {x_rows : Int32} {x_row : Nat → Int64} {x_pivot : Nat → Int32} {x_fresh : Nat → Int64} {x_multiple : Nat → Int64} {x_last : Nat → Int64} {x_made : Nat → Int64} {x_settled : Nat → Int64} {x_point : Nat → Int64} {x_limit : Int64} {x_mode : Int32} {x_counted : Int32} {x_listed : Int32} {x_held : Int32} {x_first : Nat → Int64} {x_squares : Nat → Int64} {x_wanted : Int32} {x_spanned : Int32} {x_span : Nat → Int64} {x_minima : Nat → Int32} {x_measured : Int32} {x_found : Nat → Int64} {x_any : Int32} (v1 : Int32) (v2 : Int32) (v3 : Int32) (v4 : Int32) (v5 : Int32) {out : Int32 × Int32 × Int32 × Int32 × (Nat → Int64) × (Nat → Int32) × (Nat → Int64) × (Nat → Int64) × (Nat → Int64) × (Nat → Int64) × (Nat → Int64) × (Nat → Int64) × Int64 × Int32 × Int32 × Int32 × (Nat → Int64) × (Nat → Int64) × Int32 × (Nat → Int64) × (Nat → Int64) × Int32} (h : M_nearest F x_many x_generator x_known x_without x_rows x_row x_pivot x_fresh x_multiple x_last x_made x_settled x_point x_limit x_mode x_counted x_held x_first x_squares x_wanted x_spanned x_span x_found x_any v1 v2 v3 v4 v5 = some out) : Mt yM_nearest cM_nearest 6 (some .int) rm_M_nearest κ [.ref (κ.1 0), .int v1, .int v2, .int v3, .int v4, .int v5] (LM κ (x_many, x_generator, x_known, x_without, x_rows, x_row, x_pivot, x_fresh, x_multiple, x_last, x_made, x_settled, x_point, x_limit, x_mode, x_counted, x_listed, x_held, x_first, x_squares, x_wanted, x_spanned, x_span, x_minima, x_measured, x_found, x_any) X) (some (.int out.1)) (LM κ (x_many, x_generator, out.2.1, out.2.2.1, out.2.2.2.1, out.2.2.2.2.1, out.2.2.2.2.2.1, out.2.2.2.2.2.2.1, out.2.2.2.2.2.2.2.1, out.2.2.2.2.2.2.2.2.1, out.2.2.2.2.2.2.2.2.2.1, out.2.2.2.2.2.2.2.2.2.2.1, out.2.2.2.2.2.2.2.2.2.2.2.1, out.2.2.2.2.2.2.2.2.2.2.2.2.1, out.2.2.2.2.2.2.2.2.2.2.2.2.2.1, out.2.2.2.2.2.2.2.2.2.2.2.2.2.2.1, x_listed, out.2.2.2.2.2.2.2.2.2.2.2.2.2.2.2.1, out.2.2.2.2.2.2.2.2.2.2.2.2.2.2.2.2.1, out.2.2.2.2.2.2.2.2.2.2.2.2.2.2.2.2.2.1, x_wanted, out.2.2.2.2.2.2.2.2.2.2.2.2.2.2.2.2.2.2.1, out.2.2.2.2.2.2.2.2.2.2.2.2.2.2.2.2.2.2.2.1, x_minima, x_measured, out.2.2.2.2.2.2.2.2.2.2.2.2.2.2.2.2.2.2.2.2.1, out.2.2.2.2.2.2.2.2.2.2.2.2.2.2.2.2.2.2.2.2.2) X) := by
  refine Mt.of (by decide) (Nat.le_of_ble_eq_true rfl) ?_
  intro g G Fh
  unfold M_nearest at h
  show J g κ 6 0 [(0, .ref (κ.1 0)), (1, .int v1), (2, .int v2), (3, .int v3), (4, .int v4), (5, .int v5)] [] (LM κ (x_many, x_generator, x_known, x_without, x_rows, x_row, x_pivot, x_fresh, x_multiple, x_last, x_made, x_settled, x_point, x_limit, x_mode, x_counted, x_listed, x_held, x_first, x_squares, x_wanted, x_spanned, x_span, x_minima, x_measured, x_found, x_any) X)
  refine w_iload_n (pc := 0) (q := 1) G dM_nearest_0 rfl rfl ?_
  refine w_iload_n (pc := 1) (q := 2) G dM_nearest_1 rfl rfl ?_
  refine w_iload_n (pc := 2) (q := 3) G dM_nearest_2 rfl rfl ?_
  refine w_iload (pc := 3) (q := 4) G dM_nearest_3 rfl ?_
  refine w_bipush (pc := 5) (v := (30 : Int32)) G dM_nearest_5 (by decide) ?_
  obtain ⟨r7, e7, h⟩ := bd h
  refine w_callS (pc := 7) (av := [.int v1, .int v2, .int v3, .int v4, .int (30 : Int32)]) (rest := []) (v := some (.int r7)) (L' := (LM κ (x_many, x_generator, x_known, x_without, x_rows, x_row, x_pivot, x_fresh, x_multiple, x_last, x_made, x_settled, x_point, x_limit, x_mode, x_counted, x_listed, x_held, x_first, x_squares, x_wanted, x_spanned, x_span, x_minima, x_measured, x_found, x_any) X)) G cb_M_within_M_nearest wd577 wd576 (met_M_within κ (LM κ (x_many, x_generator, x_known, x_without, x_rows, x_row, x_pivot, x_fresh, x_multiple, x_last, x_made, x_settled, x_point, x_limit, x_mode, x_counted, x_listed, x_held, x_first, x_squares, x_wanted, x_spanned, x_span, x_minima, x_measured, x_found, x_any) X) F v1 v2 v3 v4 (30 : Int32)  e7) rfl rfl rfl (Nat.le_of_ble_eq_true rfl) dM_nearest_7 ?_
  refine w_if_eq (pc := 10) (tgt := 24) G dM_nearest_10 (by decide) (fun c10 => ?_) (fun c10 => ?_)
  · have h := if_t c10 h
    refine w_sipush (pc := 24) (v := (1000 : Int32)) G dM_nearest_24 (by decide) ?_
    obtain rfl := Option.some.inj h
    exact w_iret (pc := 27) G dM_nearest_27 Fh
  · have h := if_f c10 h
    refine w_iload (pc := 13) (q := 5) G dM_nearest_13 rfl ?_
    refine w_if_lt (pc := 15) (tgt := 24) G dM_nearest_15 (by decide) (fun c15 => ?_) (fun c15 => ?_)
    · have h := if_t c15 h
      refine w_sipush (pc := 24) (v := (1000 : Int32)) G dM_nearest_24 (by decide) ?_
      obtain rfl := Option.some.inj h
      exact w_iret (pc := 27) G dM_nearest_27 Fh
    · have h := if_f c15 h
      refine w_iload (pc := 18) (q := 5) G dM_nearest_18 rfl ?_
      refine w_iconst (pc := 20) (v := (3 : Int32)) G dM_nearest_20 (by decide) ?_
      refine w_icmp_le (pc := 21) (tgt := 28) G dM_nearest_21 (by decide) (fun c21 => ?_) (fun c21 => ?_)
      · have h := if_t c21 h
        refine w_aload_n (pc := 28) (q := 0) G dM_nearest_28 rfl rfl ?_
        refine w_iload_n (pc := 29) (q := 1) G dM_nearest_29 rfl rfl ?_
        refine w_iload_n (pc := 30) (q := 2) G dM_nearest_30 rfl rfl ?_
        refine w_iload_n (pc := 31) (q := 3) G dM_nearest_31 rfl rfl ?_
        refine w_iload (pc := 32) (q := 4) G dM_nearest_32 rfl ?_
        obtain ⟨r34, e34, h⟩ := bd h
        refine w_callV (pc := 34) (av := [.int v1, .int v2, .int v3, .int v4]) (rest := []) (v := none) (L' := (LM κ (x_many, x_generator, r34.1, r34.2.1, r34.2.2.1, r34.2.2.2.1, r34.2.2.2.2.1, r34.2.2.2.2.2.1, r34.2.2.2.2.2.2.1, r34.2.2.2.2.2.2.2.1, r34.2.2.2.2.2.2.2.2.1, r34.2.2.2.2.2.2.2.2.2.1, r34.2.2.2.2.2.2.2.2.2.2.1, r34.2.2.2.2.2.2.2.2.2.2.2.1, r34.2.2.2.2.2.2.2.2.2.2.2.2.1, r34.2.2.2.2.2.2.2.2.2.2.2.2.2.1, x_listed, r34.2.2.2.2.2.2.2.2.2.2.2.2.2.2.1, r34.2.2.2.2.2.2.2.2.2.2.2.2.2.2.2.1, r34.2.2.2.2.2.2.2.2.2.2.2.2.2.2.2.2.1, x_wanted, r34.2.2.2.2.2.2.2.2.2.2.2.2.2.2.2.2.2.1, r34.2.2.2.2.2.2.2.2.2.2.2.2.2.2.2.2.2.2.1, x_minima, x_measured, r34.2.2.2.2.2.2.2.2.2.2.2.2.2.2.2.2.2.2.2.1, r34.2.2.2.2.2.2.2.2.2.2.2.2.2.2.2.2.2.2.2.2) X)) (T := TM) (fs := fl_M κ (x_many, x_generator, x_known, x_without, x_rows, x_row, x_pivot, x_fresh, x_multiple, x_last, x_made, x_settled, x_point, x_limit, x_mode, x_counted, x_listed, x_held, x_first, x_squares, x_wanted, x_spanned, x_span, x_minima, x_measured, x_found, x_any)) G 0 0 27 (by decide) lb_M rfl cb_M_seek_M_nearest wd753 ws48 wd751 (met_M_seek κ X F v1 v2 v3 v4  e34) rfl rfl rfl (Nat.le_of_ble_eq_true rfl) dM_nearest_34 ?_
        refine w_aload_n (pc := 37) (q := 0) G dM_nearest_37 rfl rfl ?_
        refine w_get (pc := 38) (v := .ref (κ.1 14)) (fs := fl_M κ (x_many, x_generator, r34.1, r34.2.1, r34.2.2.1, r34.2.2.2.1, r34.2.2.2.2.1, r34.2.2.2.2.2.1, r34.2.2.2.2.2.2.1, r34.2.2.2.2.2.2.2.1, r34.2.2.2.2.2.2.2.2.1, r34.2.2.2.2.2.2.2.2.2.1, r34.2.2.2.2.2.2.2.2.2.2.1, r34.2.2.2.2.2.2.2.2.2.2.2.1, r34.2.2.2.2.2.2.2.2.2.2.2.2.1, r34.2.2.2.2.2.2.2.2.2.2.2.2.2.1, x_listed, r34.2.2.2.2.2.2.2.2.2.2.2.2.2.2.1, r34.2.2.2.2.2.2.2.2.2.2.2.2.2.2.2.1, r34.2.2.2.2.2.2.2.2.2.2.2.2.2.2.2.2.1, x_wanted, r34.2.2.2.2.2.2.2.2.2.2.2.2.2.2.2.2.2.1, r34.2.2.2.2.2.2.2.2.2.2.2.2.2.2.2.2.2.2.1, x_minima, x_measured, r34.2.2.2.2.2.2.2.2.2.2.2.2.2.2.2.2.2.2.2.1, r34.2.2.2.2.2.2.2.2.2.2.2.2.2.2.2.2.2.2.2.2)) G 0 (by decide) lb_M rfl wsM_ok 25 (by decide) wd515 gf_M_25 dM_nearest_38 ?_
        refine w_iload (pc := 41) (q := 5) G dM_nearest_41 rfl ?_
        obtain ⟨i43, h⟩ := gd_some h
        refine w_lald (pc := 43) (n := 4) (f := r34.2.2.2.2.2.2.2.2.2.2.2.2.2.2.2.2.2.2.2.1) G 14 (by decide) lk_found i43 dM_nearest_43 ?_
        refine w_l2i (pc := 44) G dM_nearest_44 ?_
        obtain rfl := Option.some.inj h
        exact w_iret (pc := 45) G dM_nearest_45 Fh
      · have h := if_f c21 h
        refine w_sipush (pc := 24) (v := (1000 : Int32)) G dM_nearest_24 (by decide) ?_
        obtain rfl := Option.some.inj h
        exact w_iret (pc := 27) G dM_nearest_27 Fh
